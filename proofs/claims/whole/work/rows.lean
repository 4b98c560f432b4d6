section
-- ===== PART A: goes FIRST, ahead of the names: the tables' words, and 'selects' of the private methods out of them =====
/-- a private method of a class that the tables say can be made, by its rows of tables_1 -/
def lw_okq (q : MethodName × Nat) : Prop := (q.1.cls ≠ "java/lang/invoke/MethodHandle" ∧ q.1.cls ≠ "java/lang/invoke/VarHandle") ∧ Cond.instantiable q.1.cls q.2 ∈ tables_1 ∧ Cond.privateMethod q.1 ∈ tables_1 ∧ Cond.instanceMethod q.1 ∈ tables_1
theorem lw_p0 : lw_okq (⟨"RootedFerry", "accountOf", "(J)LRootedFerry$Account;"⟩, 16) := ⟨⟨by decide +kernel, by decide +kernel⟩, List.mem_of_getElem? (i := 28) (by decide +kernel), List.mem_of_getElem? (i := 304) (by decide +kernel), List.mem_of_getElem? (i := 305) (by decide +kernel)⟩
theorem lw_p1 : lw_okq (⟨"java/util/ArrayList", "add", "(Ljava/lang/Object;[Ljava/lang/Object;I)V"⟩, 3) := ⟨⟨by decide +kernel, by decide +kernel⟩, List.mem_of_getElem? (i := 102) (by decide +kernel), List.mem_of_getElem? (i := 349) (by decide +kernel), List.mem_of_getElem? (i := 350) (by decide +kernel)⟩
theorem lw_p2 : lw_okq (⟨"java/util/ArrayList", "grow", "()[Ljava/lang/Object;"⟩, 3) := ⟨⟨by decide +kernel, by decide +kernel⟩, List.mem_of_getElem? (i := 102) (by decide +kernel), List.mem_of_getElem? (i := 353) (by decide +kernel), List.mem_of_getElem? (i := 354) (by decide +kernel)⟩
theorem lw_p3 : lw_okq (⟨"java/util/ArrayList", "grow", "(I)[Ljava/lang/Object;"⟩, 3) := ⟨⟨by decide +kernel, by decide +kernel⟩, List.mem_of_getElem? (i := 102) (by decide +kernel), List.mem_of_getElem? (i := 357) (by decide +kernel), List.mem_of_getElem? (i := 358) (by decide +kernel)⟩
theorem lw_p4 : lw_okq (⟨"RootedFerry", "logOut", "()V"⟩, 16) := ⟨⟨by decide +kernel, by decide +kernel⟩, List.mem_of_getElem? (i := 28) (by decide +kernel), List.mem_of_getElem? (i := 409) (by decide +kernel), List.mem_of_getElem? (i := 410) (by decide +kernel)⟩
theorem lw_p5 : lw_okq (⟨"RootedFerry", "answerLine", "()I"⟩, 16) := ⟨⟨by decide +kernel, by decide +kernel⟩, List.mem_of_getElem? (i := 28) (by decide +kernel), List.mem_of_getElem? (i := 439) (by decide +kernel), List.mem_of_getElem? (i := 440) (by decide +kernel)⟩
theorem lw_p6 : lw_okq (⟨"RootedFerry", "commandOfLine", "()LRootedFerry$Command;"⟩, 16) := ⟨⟨by decide +kernel, by decide +kernel⟩, List.mem_of_getElem? (i := 28) (by decide +kernel), List.mem_of_getElem? (i := 443) (by decide +kernel), List.mem_of_getElem? (i := 444) (by decide +kernel)⟩
theorem lw_p7 : lw_okq (⟨"RootedFerry$Line", "commandLength", "()I"⟩, 2) := ⟨⟨by decide +kernel, by decide +kernel⟩, List.mem_of_getElem? (i := 36) (by decide +kernel), List.mem_of_getElem? (i := 453) (by decide +kernel), List.mem_of_getElem? (i := 454) (by decide +kernel)⟩
theorem lw_p8 : lw_okq (⟨"RootedFerry", "argumentFits", "(LRootedFerry$Command;)Z"⟩, 16) := ⟨⟨by decide +kernel, by decide +kernel⟩, List.mem_of_getElem? (i := 28) (by decide +kernel), List.mem_of_getElem? (i := 514) (by decide +kernel), List.mem_of_getElem? (i := 515) (by decide +kernel)⟩
theorem lw_p9 : lw_okq (⟨"RootedFerry$Path", "addPart", "(J)Z"⟩, 7) := ⟨⟨by decide +kernel, by decide +kernel⟩, List.mem_of_getElem? (i := 128) (by decide +kernel), List.mem_of_getElem? (i := 556) (by decide +kernel), List.mem_of_getElem? (i := 557) (by decide +kernel)⟩
theorem lw_p10 : lw_okq (⟨"RootedFerry$Line", "number", "(II)I"⟩, 2) := ⟨⟨by decide +kernel, by decide +kernel⟩, List.mem_of_getElem? (i := 36) (by decide +kernel), List.mem_of_getElem? (i := 564) (by decide +kernel), List.mem_of_getElem? (i := 565) (by decide +kernel)⟩
theorem lw_p11 : lw_okq (⟨"RootedFerry$Tree", "child", "(LRootedFerry$Node;J)LRootedFerry$Node;"⟩, 1) := ⟨⟨by decide +kernel, by decide +kernel⟩, List.mem_of_getElem? (i := 50) (by decide +kernel), List.mem_of_getElem? (i := 583) (by decide +kernel), List.mem_of_getElem? (i := 584) (by decide +kernel)⟩
theorem lw_p12 : lw_okq (⟨"RootedFerry$Path", "findPlace", "(LRootedFerry$Node;)V"⟩, 7) := ⟨⟨by decide +kernel, by decide +kernel⟩, List.mem_of_getElem? (i := 128) (by decide +kernel), List.mem_of_getElem? (i := 587) (by decide +kernel), List.mem_of_getElem? (i := 588) (by decide +kernel)⟩
theorem lw_p13 : lw_okq (⟨"RootedFerry", "runOnPath", "(LRootedFerry$Command;)I"⟩, 16) := ⟨⟨by decide +kernel, by decide +kernel⟩, List.mem_of_getElem? (i := 28) (by decide +kernel), List.mem_of_getElem? (i := 593) (by decide +kernel), List.mem_of_getElem? (i := 594) (by decide +kernel)⟩
theorem lw_p14 : lw_okq (⟨"RootedFerry", "changeTo", "(LRootedFerry$Node;I)I"⟩, 16) := ⟨⟨by decide +kernel, by decide +kernel⟩, List.mem_of_getElem? (i := 28) (by decide +kernel), List.mem_of_getElem? (i := 605) (by decide +kernel), List.mem_of_getElem? (i := 606) (by decide +kernel)⟩
theorem lw_p15 : lw_okq (⟨"RootedFerry", "makeDirectory", "()I"⟩, 16) := ⟨⟨by decide +kernel, by decide +kernel⟩, List.mem_of_getElem? (i := 28) (by decide +kernel), List.mem_of_getElem? (i := 609) (by decide +kernel), List.mem_of_getElem? (i := 610) (by decide +kernel)⟩
def lw_privs_1 : List (MethodName × Nat) := [(⟨"RootedFerry", "accountOf", "(J)LRootedFerry$Account;"⟩, 16), (⟨"java/util/ArrayList", "add", "(Ljava/lang/Object;[Ljava/lang/Object;I)V"⟩, 3), (⟨"java/util/ArrayList", "grow", "()[Ljava/lang/Object;"⟩, 3), (⟨"java/util/ArrayList", "grow", "(I)[Ljava/lang/Object;"⟩, 3), (⟨"RootedFerry", "logOut", "()V"⟩, 16), (⟨"RootedFerry", "answerLine", "()I"⟩, 16), (⟨"RootedFerry", "commandOfLine", "()LRootedFerry$Command;"⟩, 16), (⟨"RootedFerry$Line", "commandLength", "()I"⟩, 2), (⟨"RootedFerry", "argumentFits", "(LRootedFerry$Command;)Z"⟩, 16), (⟨"RootedFerry$Path", "addPart", "(J)Z"⟩, 7), (⟨"RootedFerry$Line", "number", "(II)I"⟩, 2), (⟨"RootedFerry$Tree", "child", "(LRootedFerry$Node;J)LRootedFerry$Node;"⟩, 1), (⟨"RootedFerry$Path", "findPlace", "(LRootedFerry$Node;)V"⟩, 7), (⟨"RootedFerry", "runOnPath", "(LRootedFerry$Command;)I"⟩, 16), (⟨"RootedFerry", "changeTo", "(LRootedFerry$Node;I)I"⟩, 16), (⟨"RootedFerry", "makeDirectory", "()I"⟩, 16)]
theorem lw_r1 : ∀ q ∈ lw_privs_1, lw_okq q := List.forall_mem_cons.mpr ⟨lw_p0, List.forall_mem_cons.mpr ⟨lw_p1, List.forall_mem_cons.mpr ⟨lw_p2, List.forall_mem_cons.mpr ⟨lw_p3, List.forall_mem_cons.mpr ⟨lw_p4, List.forall_mem_cons.mpr ⟨lw_p5, List.forall_mem_cons.mpr ⟨lw_p6, List.forall_mem_cons.mpr ⟨lw_p7, List.forall_mem_cons.mpr ⟨lw_p8, List.forall_mem_cons.mpr ⟨lw_p9, List.forall_mem_cons.mpr ⟨lw_p10, List.forall_mem_cons.mpr ⟨lw_p11, List.forall_mem_cons.mpr ⟨lw_p12, List.forall_mem_cons.mpr ⟨lw_p13, List.forall_mem_cons.mpr ⟨lw_p14, List.forall_mem_cons.mpr ⟨lw_p15, fun _ h => absurd h List.not_mem_nil⟩⟩⟩⟩⟩⟩⟩⟩⟩⟩⟩⟩⟩⟩⟩⟩
theorem lw_p16 : lw_okq (⟨"RootedFerry$Message", "putName", "(J)V"⟩, 2) := ⟨⟨by decide +kernel, by decide +kernel⟩, List.mem_of_getElem? (i := 160) (by decide +kernel), List.mem_of_getElem? (i := 617) (by decide +kernel), List.mem_of_getElem? (i := 618) (by decide +kernel)⟩
theorem lw_p17 : lw_okq (⟨"RootedFerry$Message", "putBefore", "(C)V"⟩, 2) := ⟨⟨by decide +kernel, by decide +kernel⟩, List.mem_of_getElem? (i := 160) (by decide +kernel), List.mem_of_getElem? (i := 624) (by decide +kernel), List.mem_of_getElem? (i := 625) (by decide +kernel)⟩
theorem lw_p18 : lw_okq (⟨"RootedFerry", "removeDirectory", "()I"⟩, 16) := ⟨⟨by decide +kernel, by decide +kernel⟩, List.mem_of_getElem? (i := 28) (by decide +kernel), List.mem_of_getElem? (i := 628) (by decide +kernel), List.mem_of_getElem? (i := 629) (by decide +kernel)⟩
theorem lw_p19 : lw_okq (⟨"RootedFerry", "deleteFile", "()I"⟩, 16) := ⟨⟨by decide +kernel, by decide +kernel⟩, List.mem_of_getElem? (i := 28) (by decide +kernel), List.mem_of_getElem? (i := 644) (by decide +kernel), List.mem_of_getElem? (i := 645) (by decide +kernel)⟩
theorem lw_p20 : lw_okq (⟨"RootedFerry", "tellSize", "()I"⟩, 16) := ⟨⟨by decide +kernel, by decide +kernel⟩, List.mem_of_getElem? (i := 28) (by decide +kernel), List.mem_of_getElem? (i := 648) (by decide +kernel), List.mem_of_getElem? (i := 649) (by decide +kernel)⟩
theorem lw_p21 : lw_okq (⟨"RootedFerry", "renameFrom", "()I"⟩, 16) := ⟨⟨by decide +kernel, by decide +kernel⟩, List.mem_of_getElem? (i := 28) (by decide +kernel), List.mem_of_getElem? (i := 656) (by decide +kernel), List.mem_of_getElem? (i := 657) (by decide +kernel)⟩
theorem lw_p22 : lw_okq (⟨"RootedFerry", "renameTo", "()I"⟩, 16) := ⟨⟨by decide +kernel, by decide +kernel⟩, List.mem_of_getElem? (i := 28) (by decide +kernel), List.mem_of_getElem? (i := 660) (by decide +kernel), List.mem_of_getElem? (i := 661) (by decide +kernel)⟩
theorem lw_p23 : lw_okq (⟨"RootedFerry", "retrieve", "()I"⟩, 16) := ⟨⟨by decide +kernel, by decide +kernel⟩, List.mem_of_getElem? (i := 28) (by decide +kernel), List.mem_of_getElem? (i := 668) (by decide +kernel), List.mem_of_getElem? (i := 669) (by decide +kernel)⟩
theorem lw_p24 : lw_okq (⟨"RootedFerry", "dataConnects", "()Z"⟩, 16) := ⟨⟨by decide +kernel, by decide +kernel⟩, List.mem_of_getElem? (i := 28) (by decide +kernel), List.mem_of_getElem? (i := 672) (by decide +kernel), List.mem_of_getElem? (i := 673) (by decide +kernel)⟩
theorem lw_p25 : lw_okq (⟨"RootedFerry$Cargo", "add", "(I)V"⟩, 8) := ⟨⟨by decide +kernel, by decide +kernel⟩, List.mem_of_getElem? (i := 173) (by decide +kernel), List.mem_of_getElem? (i := 684) (by decide +kernel), List.mem_of_getElem? (i := 685) (by decide +kernel)⟩
theorem lw_p26 : lw_okq (⟨"RootedFerry", "takeFile", "(Z)I"⟩, 16) := ⟨⟨by decide +kernel, by decide +kernel⟩, List.mem_of_getElem? (i := 28) (by decide +kernel), List.mem_of_getElem? (i := 688) (by decide +kernel), List.mem_of_getElem? (i := 689) (by decide +kernel)⟩
theorem lw_p27 : lw_okq (⟨"RootedFerry", "listNames", "()I"⟩, 16) := ⟨⟨by decide +kernel, by decide +kernel⟩, List.mem_of_getElem? (i := 28) (by decide +kernel), List.mem_of_getElem? (i := 704) (by decide +kernel), List.mem_of_getElem? (i := 705) (by decide +kernel)⟩
theorem lw_p28 : lw_okq (⟨"RootedFerry", "run", "(LRootedFerry$Command;)I"⟩, 16) := ⟨⟨by decide +kernel, by decide +kernel⟩, List.mem_of_getElem? (i := 28) (by decide +kernel), List.mem_of_getElem? (i := 714) (by decide +kernel), List.mem_of_getElem? (i := 715) (by decide +kernel)⟩
theorem lw_p29 : lw_okq (⟨"RootedFerry", "nameUser", "()I"⟩, 16) := ⟨⟨by decide +kernel, by decide +kernel⟩, List.mem_of_getElem? (i := 28) (by decide +kernel), List.mem_of_getElem? (i := 718) (by decide +kernel), List.mem_of_getElem? (i := 719) (by decide +kernel)⟩
theorem lw_p30 : lw_okq (⟨"RootedFerry", "logIn", "()I"⟩, 16) := ⟨⟨by decide +kernel, by decide +kernel⟩, List.mem_of_getElem? (i := 28) (by decide +kernel), List.mem_of_getElem? (i := 722) (by decide +kernel), List.mem_of_getElem? (i := 723) (by decide +kernel)⟩
theorem lw_p31 : lw_okq (⟨"RootedFerry", "quit", "()I"⟩, 16) := ⟨⟨by decide +kernel, by decide +kernel⟩, List.mem_of_getElem? (i := 28) (by decide +kernel), List.mem_of_getElem? (i := 726) (by decide +kernel), List.mem_of_getElem? (i := 727) (by decide +kernel)⟩
def lw_privs_2 : List (MethodName × Nat) := [(⟨"RootedFerry$Message", "putName", "(J)V"⟩, 2), (⟨"RootedFerry$Message", "putBefore", "(C)V"⟩, 2), (⟨"RootedFerry", "removeDirectory", "()I"⟩, 16), (⟨"RootedFerry", "deleteFile", "()I"⟩, 16), (⟨"RootedFerry", "tellSize", "()I"⟩, 16), (⟨"RootedFerry", "renameFrom", "()I"⟩, 16), (⟨"RootedFerry", "renameTo", "()I"⟩, 16), (⟨"RootedFerry", "retrieve", "()I"⟩, 16), (⟨"RootedFerry", "dataConnects", "()Z"⟩, 16), (⟨"RootedFerry$Cargo", "add", "(I)V"⟩, 8), (⟨"RootedFerry", "takeFile", "(Z)I"⟩, 16), (⟨"RootedFerry", "listNames", "()I"⟩, 16), (⟨"RootedFerry", "run", "(LRootedFerry$Command;)I"⟩, 16), (⟨"RootedFerry", "nameUser", "()I"⟩, 16), (⟨"RootedFerry", "logIn", "()I"⟩, 16), (⟨"RootedFerry", "quit", "()I"⟩, 16)]
theorem lw_r2 : ∀ q ∈ lw_privs_2, lw_okq q := List.forall_mem_cons.mpr ⟨lw_p16, List.forall_mem_cons.mpr ⟨lw_p17, List.forall_mem_cons.mpr ⟨lw_p18, List.forall_mem_cons.mpr ⟨lw_p19, List.forall_mem_cons.mpr ⟨lw_p20, List.forall_mem_cons.mpr ⟨lw_p21, List.forall_mem_cons.mpr ⟨lw_p22, List.forall_mem_cons.mpr ⟨lw_p23, List.forall_mem_cons.mpr ⟨lw_p24, List.forall_mem_cons.mpr ⟨lw_p25, List.forall_mem_cons.mpr ⟨lw_p26, List.forall_mem_cons.mpr ⟨lw_p27, List.forall_mem_cons.mpr ⟨lw_p28, List.forall_mem_cons.mpr ⟨lw_p29, List.forall_mem_cons.mpr ⟨lw_p30, List.forall_mem_cons.mpr ⟨lw_p31, fun _ h => absurd h List.not_mem_nil⟩⟩⟩⟩⟩⟩⟩⟩⟩⟩⟩⟩⟩⟩⟩⟩
theorem lw_p32 : lw_okq (⟨"RootedFerry", "dropTransfer", "()V"⟩, 16) := ⟨⟨by decide +kernel, by decide +kernel⟩, List.mem_of_getElem? (i := 28) (by decide +kernel), List.mem_of_getElem? (i := 730) (by decide +kernel), List.mem_of_getElem? (i := 731) (by decide +kernel)⟩
theorem lw_p33 : lw_okq (⟨"RootedFerry", "chooseType", "()I"⟩, 16) := ⟨⟨by decide +kernel, by decide +kernel⟩, List.mem_of_getElem? (i := 28) (by decide +kernel), List.mem_of_getElem? (i := 740) (by decide +kernel), List.mem_of_getElem? (i := 741) (by decide +kernel)⟩
theorem lw_p34 : lw_okq (⟨"RootedFerry", "restart", "()I"⟩, 16) := ⟨⟨by decide +kernel, by decide +kernel⟩, List.mem_of_getElem? (i := 28) (by decide +kernel), List.mem_of_getElem? (i := 748) (by decide +kernel), List.mem_of_getElem? (i := 749) (by decide +kernel)⟩
theorem lw_p35 : lw_okq (⟨"RootedFerry", "abort", "()I"⟩, 16) := ⟨⟨by decide +kernel, by decide +kernel⟩, List.mem_of_getElem? (i := 28) (by decide +kernel), List.mem_of_getElem? (i := 754) (by decide +kernel), List.mem_of_getElem? (i := 755) (by decide +kernel)⟩
theorem lw_p36 : lw_okq (⟨"RootedFerry", "storeCargo", "()Z"⟩, 16) := ⟨⟨by decide +kernel, by decide +kernel⟩, List.mem_of_getElem? (i := 28) (by decide +kernel), List.mem_of_getElem? (i := 803) (by decide +kernel), List.mem_of_getElem? (i := 804) (by decide +kernel)⟩
theorem lw_p37 : lw_okq (⟨"RootedFerryModel", "freeNode", "()I"⟩, 36) := ⟨⟨by decide +kernel, by decide +kernel⟩, List.mem_of_getElem? (i := 829) (by decide +kernel), List.mem_of_getElem? (i := 969) (by decide +kernel), List.mem_of_getElem? (i := 970) (by decide +kernel)⟩
theorem lw_p38 : lw_okq (⟨"RootedFerryModel", "make", "(IIIJ)V"⟩, 36) := ⟨⟨by decide +kernel, by decide +kernel⟩, List.mem_of_getElem? (i := 829) (by decide +kernel), List.mem_of_getElem? (i := 973) (by decide +kernel), List.mem_of_getElem? (i := 974) (by decide +kernel)⟩
theorem lw_p39 : lw_okq (⟨"RootedFerryModel", "say", "(I)I"⟩, 36) := ⟨⟨by decide +kernel, by decide +kernel⟩, List.mem_of_getElem? (i := 829) (by decide +kernel), List.mem_of_getElem? (i := 981) (by decide +kernel), List.mem_of_getElem? (i := 982) (by decide +kernel)⟩
theorem lw_p40 : lw_okq (⟨"RootedFerryModel", "run", "()I"⟩, 36) := ⟨⟨by decide +kernel, by decide +kernel⟩, List.mem_of_getElem? (i := 829) (by decide +kernel), List.mem_of_getElem? (i := 1006) (by decide +kernel), List.mem_of_getElem? (i := 1007) (by decide +kernel)⟩
theorem lw_p41 : lw_okq (⟨"RootedFerryModel", "readLetters", "()I"⟩, 36) := ⟨⟨by decide +kernel, by decide +kernel⟩, List.mem_of_getElem? (i := 829) (by decide +kernel), List.mem_of_getElem? (i := 1010) (by decide +kernel), List.mem_of_getElem? (i := 1011) (by decide +kernel)⟩
theorem lw_p42 : lw_okq (⟨"RootedFerryModel", "argumentFits", "(I)Z"⟩, 36) := ⟨⟨by decide +kernel, by decide +kernel⟩, List.mem_of_getElem? (i := 829) (by decide +kernel), List.mem_of_getElem? (i := 1020) (by decide +kernel), List.mem_of_getElem? (i := 1021) (by decide +kernel)⟩
theorem lw_p43 : lw_okq (⟨"RootedFerryModel", "nameAt", "(II)J"⟩, 36) := ⟨⟨by decide +kernel, by decide +kernel⟩, List.mem_of_getElem? (i := 829) (by decide +kernel), List.mem_of_getElem? (i := 1024) (by decide +kernel), List.mem_of_getElem? (i := 1025) (by decide +kernel)⟩
theorem lw_p44 : lw_okq (⟨"RootedFerryModel", "isDots", "(II)I"⟩, 36) := ⟨⟨by decide +kernel, by decide +kernel⟩, List.mem_of_getElem? (i := 829) (by decide +kernel), List.mem_of_getElem? (i := 1028) (by decide +kernel), List.mem_of_getElem? (i := 1029) (by decide +kernel)⟩
theorem lw_p45 : lw_okq (⟨"RootedFerryModel", "digitsFrom", "(I)I"⟩, 36) := ⟨⟨by decide +kernel, by decide +kernel⟩, List.mem_of_getElem? (i := 829) (by decide +kernel), List.mem_of_getElem? (i := 1032) (by decide +kernel), List.mem_of_getElem? (i := 1033) (by decide +kernel)⟩
theorem lw_p46 : lw_okq (⟨"RootedFerryModel", "isDigit", "(I)Z"⟩, 36) := ⟨⟨by decide +kernel, by decide +kernel⟩, List.mem_of_getElem? (i := 829) (by decide +kernel), List.mem_of_getElem? (i := 1036) (by decide +kernel), List.mem_of_getElem? (i := 1037) (by decide +kernel)⟩
theorem lw_p47 : lw_okq (⟨"RootedFerryModel", "portTold", "()I"⟩, 36) := ⟨⟨by decide +kernel, by decide +kernel⟩, List.mem_of_getElem? (i := 829) (by decide +kernel), List.mem_of_getElem? (i := 1040) (by decide +kernel), List.mem_of_getElem? (i := 1041) (by decide +kernel)⟩
def lw_privs_3 : List (MethodName × Nat) := [(⟨"RootedFerry", "dropTransfer", "()V"⟩, 16), (⟨"RootedFerry", "chooseType", "()I"⟩, 16), (⟨"RootedFerry", "restart", "()I"⟩, 16), (⟨"RootedFerry", "abort", "()I"⟩, 16), (⟨"RootedFerry", "storeCargo", "()Z"⟩, 16), (⟨"RootedFerryModel", "freeNode", "()I"⟩, 36), (⟨"RootedFerryModel", "make", "(IIIJ)V"⟩, 36), (⟨"RootedFerryModel", "say", "(I)I"⟩, 36), (⟨"RootedFerryModel", "run", "()I"⟩, 36), (⟨"RootedFerryModel", "readLetters", "()I"⟩, 36), (⟨"RootedFerryModel", "argumentFits", "(I)Z"⟩, 36), (⟨"RootedFerryModel", "nameAt", "(II)J"⟩, 36), (⟨"RootedFerryModel", "isDots", "(II)I"⟩, 36), (⟨"RootedFerryModel", "digitsFrom", "(I)I"⟩, 36), (⟨"RootedFerryModel", "isDigit", "(I)Z"⟩, 36), (⟨"RootedFerryModel", "portTold", "()I"⟩, 36)]
theorem lw_r3 : ∀ q ∈ lw_privs_3, lw_okq q := List.forall_mem_cons.mpr ⟨lw_p32, List.forall_mem_cons.mpr ⟨lw_p33, List.forall_mem_cons.mpr ⟨lw_p34, List.forall_mem_cons.mpr ⟨lw_p35, List.forall_mem_cons.mpr ⟨lw_p36, List.forall_mem_cons.mpr ⟨lw_p37, List.forall_mem_cons.mpr ⟨lw_p38, List.forall_mem_cons.mpr ⟨lw_p39, List.forall_mem_cons.mpr ⟨lw_p40, List.forall_mem_cons.mpr ⟨lw_p41, List.forall_mem_cons.mpr ⟨lw_p42, List.forall_mem_cons.mpr ⟨lw_p43, List.forall_mem_cons.mpr ⟨lw_p44, List.forall_mem_cons.mpr ⟨lw_p45, List.forall_mem_cons.mpr ⟨lw_p46, List.forall_mem_cons.mpr ⟨lw_p47, fun _ h => absurd h List.not_mem_nil⟩⟩⟩⟩⟩⟩⟩⟩⟩⟩⟩⟩⟩⟩⟩⟩
theorem lw_p48 : lw_okq (⟨"RootedFerryModel", "numberAt", "(II)I"⟩, 36) := ⟨⟨by decide +kernel, by decide +kernel⟩, List.mem_of_getElem? (i := 829) (by decide +kernel), List.mem_of_getElem? (i := 1044) (by decide +kernel), List.mem_of_getElem? (i := 1045) (by decide +kernel)⟩
theorem lw_p49 : lw_okq (⟨"RootedFerryModel", "isPath", "()Z"⟩, 36) := ⟨⟨by decide +kernel, by decide +kernel⟩, List.mem_of_getElem? (i := 829) (by decide +kernel), List.mem_of_getElem? (i := 1049) (by decide +kernel), List.mem_of_getElem? (i := 1050) (by decide +kernel)⟩
theorem lw_p50 : lw_okq (⟨"RootedFerryModel", "endOfPart", "(I)I"⟩, 36) := ⟨⟨by decide +kernel, by decide +kernel⟩, List.mem_of_getElem? (i := 829) (by decide +kernel), List.mem_of_getElem? (i := 1053) (by decide +kernel), List.mem_of_getElem? (i := 1054) (by decide +kernel)⟩
theorem lw_p51 : lw_okq (⟨"RootedFerryModel", "enterAs", "(I)I"⟩, 36) := ⟨⟨by decide +kernel, by decide +kernel⟩, List.mem_of_getElem? (i := 829) (by decide +kernel), List.mem_of_getElem? (i := 1057) (by decide +kernel), List.mem_of_getElem? (i := 1058) (by decide +kernel)⟩
theorem lw_p52 : lw_okq (⟨"RootedFerryModel", "change", "(I)I"⟩, 36) := ⟨⟨by decide +kernel, by decide +kernel⟩, List.mem_of_getElem? (i := 829) (by decide +kernel), List.mem_of_getElem? (i := 1061) (by decide +kernel), List.mem_of_getElem? (i := 1062) (by decide +kernel)⟩
theorem lw_p53 : lw_okq (⟨"RootedFerryModel", "writeWay", "(I)V"⟩, 36) := ⟨⟨by decide +kernel, by decide +kernel⟩, List.mem_of_getElem? (i := 829) (by decide +kernel), List.mem_of_getElem? (i := 1065) (by decide +kernel), List.mem_of_getElem? (i := 1066) (by decide +kernel)⟩
theorem lw_p54 : lw_okq (⟨"RootedFerryModel", "write", "(I)V"⟩, 36) := ⟨⟨by decide +kernel, by decide +kernel⟩, List.mem_of_getElem? (i := 829) (by decide +kernel), List.mem_of_getElem? (i := 1069) (by decide +kernel), List.mem_of_getElem? (i := 1070) (by decide +kernel)⟩
theorem lw_p55 : lw_okq (⟨"RootedFerryModel", "makeDirectory", "()I"⟩, 36) := ⟨⟨by decide +kernel, by decide +kernel⟩, List.mem_of_getElem? (i := 829) (by decide +kernel), List.mem_of_getElem? (i := 1073) (by decide +kernel), List.mem_of_getElem? (i := 1074) (by decide +kernel)⟩
theorem lw_p56 : lw_okq (⟨"RootedFerryModel", "findPlace", "()Z"⟩, 36) := ⟨⟨by decide +kernel, by decide +kernel⟩, List.mem_of_getElem? (i := 829) (by decide +kernel), List.mem_of_getElem? (i := 1077) (by decide +kernel), List.mem_of_getElem? (i := 1078) (by decide +kernel)⟩
theorem lw_p57 : lw_okq (⟨"RootedFerryModel", "lead", "(I)I"⟩, 36) := ⟨⟨by decide +kernel, by decide +kernel⟩, List.mem_of_getElem? (i := 829) (by decide +kernel), List.mem_of_getElem? (i := 1081) (by decide +kernel), List.mem_of_getElem? (i := 1082) (by decide +kernel)⟩
theorem lw_p58 : lw_okq (⟨"RootedFerryModel", "go", "(III)I"⟩, 36) := ⟨⟨by decide +kernel, by decide +kernel⟩, List.mem_of_getElem? (i := 829) (by decide +kernel), List.mem_of_getElem? (i := 1085) (by decide +kernel), List.mem_of_getElem? (i := 1086) (by decide +kernel)⟩
theorem lw_p59 : lw_okq (⟨"RootedFerryModel", "child", "(IJ)I"⟩, 36) := ⟨⟨by decide +kernel, by decide +kernel⟩, List.mem_of_getElem? (i := 829) (by decide +kernel), List.mem_of_getElem? (i := 1089) (by decide +kernel), List.mem_of_getElem? (i := 1090) (by decide +kernel)⟩
theorem lw_p60 : lw_okq (⟨"RootedFerryModel", "rename", "()I"⟩, 36) := ⟨⟨by decide +kernel, by decide +kernel⟩, List.mem_of_getElem? (i := 829) (by decide +kernel), List.mem_of_getElem? (i := 1093) (by decide +kernel), List.mem_of_getElem? (i := 1094) (by decide +kernel)⟩
theorem lw_p61 : lw_okq (⟨"RootedFerryModel", "liesIn", "(II)Z"⟩, 36) := ⟨⟨by decide +kernel, by decide +kernel⟩, List.mem_of_getElem? (i := 829) (by decide +kernel), List.mem_of_getElem? (i := 1097) (by decide +kernel), List.mem_of_getElem? (i := 1098) (by decide +kernel)⟩
theorem lw_p62 : lw_okq (⟨"RootedFerryModel", "isEmpty", "(I)Z"⟩, 36) := ⟨⟨by decide +kernel, by decide +kernel⟩, List.mem_of_getElem? (i := 829) (by decide +kernel), List.mem_of_getElem? (i := 1101) (by decide +kernel), List.mem_of_getElem? (i := 1102) (by decide +kernel)⟩
theorem lw_p63 : lw_okq (⟨"RootedFerryModel", "sizeTold", "(I)I"⟩, 36) := ⟨⟨by decide +kernel, by decide +kernel⟩, List.mem_of_getElem? (i := 829) (by decide +kernel), List.mem_of_getElem? (i := 1105) (by decide +kernel), List.mem_of_getElem? (i := 1106) (by decide +kernel)⟩
def lw_privs_4 : List (MethodName × Nat) := [(⟨"RootedFerryModel", "numberAt", "(II)I"⟩, 36), (⟨"RootedFerryModel", "isPath", "()Z"⟩, 36), (⟨"RootedFerryModel", "endOfPart", "(I)I"⟩, 36), (⟨"RootedFerryModel", "enterAs", "(I)I"⟩, 36), (⟨"RootedFerryModel", "change", "(I)I"⟩, 36), (⟨"RootedFerryModel", "writeWay", "(I)V"⟩, 36), (⟨"RootedFerryModel", "write", "(I)V"⟩, 36), (⟨"RootedFerryModel", "makeDirectory", "()I"⟩, 36), (⟨"RootedFerryModel", "findPlace", "()Z"⟩, 36), (⟨"RootedFerryModel", "lead", "(I)I"⟩, 36), (⟨"RootedFerryModel", "go", "(III)I"⟩, 36), (⟨"RootedFerryModel", "child", "(IJ)I"⟩, 36), (⟨"RootedFerryModel", "rename", "()I"⟩, 36), (⟨"RootedFerryModel", "liesIn", "(II)Z"⟩, 36), (⟨"RootedFerryModel", "isEmpty", "(I)Z"⟩, 36), (⟨"RootedFerryModel", "sizeTold", "(I)I"⟩, 36)]
theorem lw_r4 : ∀ q ∈ lw_privs_4, lw_okq q := List.forall_mem_cons.mpr ⟨lw_p48, List.forall_mem_cons.mpr ⟨lw_p49, List.forall_mem_cons.mpr ⟨lw_p50, List.forall_mem_cons.mpr ⟨lw_p51, List.forall_mem_cons.mpr ⟨lw_p52, List.forall_mem_cons.mpr ⟨lw_p53, List.forall_mem_cons.mpr ⟨lw_p54, List.forall_mem_cons.mpr ⟨lw_p55, List.forall_mem_cons.mpr ⟨lw_p56, List.forall_mem_cons.mpr ⟨lw_p57, List.forall_mem_cons.mpr ⟨lw_p58, List.forall_mem_cons.mpr ⟨lw_p59, List.forall_mem_cons.mpr ⟨lw_p60, List.forall_mem_cons.mpr ⟨lw_p61, List.forall_mem_cons.mpr ⟨lw_p62, List.forall_mem_cons.mpr ⟨lw_p63, fun _ h => absurd h List.not_mem_nil⟩⟩⟩⟩⟩⟩⟩⟩⟩⟩⟩⟩⟩⟩⟩⟩
theorem lw_p64 : lw_okq (⟨"RootedFerryModel", "prepare", "(I)I"⟩, 36) := ⟨⟨by decide +kernel, by decide +kernel⟩, List.mem_of_getElem? (i := 829) (by decide +kernel), List.mem_of_getElem? (i := 1109) (by decide +kernel), List.mem_of_getElem? (i := 1110) (by decide +kernel)⟩
theorem lw_p65 : lw_okq (⟨"RootedFerryModel", "transferBy", "(I)I"⟩, 36) := ⟨⟨by decide +kernel, by decide +kernel⟩, List.mem_of_getElem? (i := 829) (by decide +kernel), List.mem_of_getElem? (i := 1113) (by decide +kernel), List.mem_of_getElem? (i := 1114) (by decide +kernel)⟩
theorem lw_p66 : lw_okq (⟨"RootedFerryModel", "loadFile", "(I)V"⟩, 36) := ⟨⟨by decide +kernel, by decide +kernel⟩, List.mem_of_getElem? (i := 829) (by decide +kernel), List.mem_of_getElem? (i := 1117) (by decide +kernel), List.mem_of_getElem? (i := 1118) (by decide +kernel)⟩
theorem lw_p67 : lw_okq (⟨"RootedFerryModel", "put", "(I)V"⟩, 36) := ⟨⟨by decide +kernel, by decide +kernel⟩, List.mem_of_getElem? (i := 829) (by decide +kernel), List.mem_of_getElem? (i := 1121) (by decide +kernel), List.mem_of_getElem? (i := 1122) (by decide +kernel)⟩
theorem lw_p68 : lw_okq (⟨"RootedFerryModel", "loadNames", "(I)V"⟩, 36) := ⟨⟨by decide +kernel, by decide +kernel⟩, List.mem_of_getElem? (i := 829) (by decide +kernel), List.mem_of_getElem? (i := 1125) (by decide +kernel), List.mem_of_getElem? (i := 1126) (by decide +kernel)⟩
theorem lw_p69 : lw_okq (⟨"RootedFerryModel", "staying", "()I"⟩, 36) := ⟨⟨by decide +kernel, by decide +kernel⟩, List.mem_of_getElem? (i := 829) (by decide +kernel), List.mem_of_getElem? (i := 1150) (by decide +kernel), List.mem_of_getElem? (i := 1151) (by decide +kernel)⟩
def lw_privs_5 : List (MethodName × Nat) := [(⟨"RootedFerryModel", "prepare", "(I)I"⟩, 36), (⟨"RootedFerryModel", "transferBy", "(I)I"⟩, 36), (⟨"RootedFerryModel", "loadFile", "(I)V"⟩, 36), (⟨"RootedFerryModel", "put", "(I)V"⟩, 36), (⟨"RootedFerryModel", "loadNames", "(I)V"⟩, 36), (⟨"RootedFerryModel", "staying", "()I"⟩, 36)]
theorem lw_r5 : ∀ q ∈ lw_privs_5, lw_okq q := List.forall_mem_cons.mpr ⟨lw_p64, List.forall_mem_cons.mpr ⟨lw_p65, List.forall_mem_cons.mpr ⟨lw_p66, List.forall_mem_cons.mpr ⟨lw_p67, List.forall_mem_cons.mpr ⟨lw_p68, List.forall_mem_cons.mpr ⟨lw_p69, fun _ h => absurd h List.not_mem_nil⟩⟩⟩⟩⟩⟩
def lw_privs : List (MethodName × Nat) := lw_privs_1 ++ (lw_privs_2 ++ (lw_privs_3 ++ (lw_privs_4 ++ (lw_privs_5))))
def lw_tbl : List Cond := k2_sels lw_privs ++ tables_1
theorem lw_privs_ok : ∀ q ∈ lw_privs, lw_okq q := by
  show ∀ q ∈ lw_privs_1 ++ (lw_privs_2 ++ (lw_privs_3 ++ (lw_privs_4 ++ (lw_privs_5)))), lw_okq q
  exact List.forall_mem_append.mpr ⟨lw_r1, List.forall_mem_append.mpr ⟨lw_r2, List.forall_mem_append.mpr ⟨lw_r3, List.forall_mem_append.mpr ⟨lw_r4, lw_r5⟩⟩⟩⟩
end
section
def RX0 : String := "RootedFerry$1"
def TX0 : u_T := fun k => match k with
  | _ => ("", "", "", false)
def tyX0 : Nat → FieldType := fun k => match k with
  | _ => .int
abbrev wsX00 : List Cond := u_ws RX0 TX0 0
theorem nmX0 : ∀ a, a < 0 → ∀ b, b < 0 → a ≠ b → (TX0 a).2.1 ≠ (TX0 b).2.1 := by decide +kernel
theorem tyX0_ok : ∀ k, k < 0 → parseFieldDescriptor (TX0 k).2.2.1 = some (tyX0 k) := by decide +kernel
def RX1 : String := "RootedFerry$Account"
def TX1 : u_T := fun k => match k with
  | 0 => ("RootedFerry$Account", "user", "J", true)
  | 1 => ("RootedFerry$Account", "password", "J", true)
  | _ => ("RootedFerry$Account", "root", "LRootedFerry$Node;", true)
def tyX1 : Nat → FieldType := fun k => match k with
  | 0 => .long
  | 1 => .long
  | _ => .object "RootedFerry$Node"
abbrev wsX10 : List Cond := u_ws RX1 TX1 3
theorem nmX1 : ∀ a, a < 3 → ∀ b, b < 3 → a ≠ b → (TX1 a).2.1 ≠ (TX1 b).2.1 := by decide +kernel
theorem tyX1_ok : ∀ k, k < 3 → parseFieldDescriptor (TX1 k).2.2.1 = some (tyX1 k) := by decide +kernel
abbrev cX1_init : ByteArray := prog_3_method_1_code
def yX1_init : MethodName := ⟨RX1, "<init>", "(JJLRootedFerry$Node;)V"⟩
def RX2 : String := "RootedFerry$Cargo"
def TX2 : u_T := fun k => match k with
  | 0 => ("RootedFerry$Cargo", "data", "[I", true)
  | 1 => ("RootedFerry$Cargo", "kind", "I", false)
  | 2 => ("RootedFerry$Cargo", "length", "I", false)
  | 3 => ("RootedFerry$Cargo", "position", "I", false)
  | 4 => ("RootedFerry$Cargo", "file", "LRootedFerry$Node;", false)
  | 5 => ("RootedFerry$Cargo", "directory", "LRootedFerry$Node;", false)
  | 6 => ("RootedFerry$Cargo", "name", "J", false)
  | _ => ("RootedFerry$Cargo", "append", "Z", false)
def tyX2 : Nat → FieldType := fun k => match k with
  | 0 => .array .int
  | 1 => .int
  | 2 => .int
  | 3 => .int
  | 4 => .object "RootedFerry$Node"
  | 5 => .object "RootedFerry$Node"
  | 6 => .long
  | _ => .boolean
abbrev wsX20 : List Cond := u_ws RX2 TX2 8
theorem nmX2 : ∀ a, a < 8 → ∀ b, b < 8 → a ≠ b → (TX2 a).2.1 ≠ (TX2 b).2.1 := by decide +kernel
theorem tyX2_ok : ∀ k, k < 8 → parseFieldDescriptor (TX2 k).2.2.1 = some (tyX2 k) := by decide +kernel
abbrev cX2_init : ByteArray := prog_4_method_1_code
def yX2_init : MethodName := ⟨RX2, "<init>", "()V"⟩
abbrev cX2_clear : ByteArray := prog_4_method_2_code
def yX2_clear : MethodName := ⟨RX2, "clear", "()V"⟩
abbrev cX2_giveFile : ByteArray := prog_4_method_3_code
def yX2_giveFile : MethodName := ⟨RX2, "giveFile", "(LRootedFerry$Node;IZ)V"⟩
abbrev cX2_giveNames : ByteArray := prog_4_method_4_code
def yX2_giveNames : MethodName := ⟨RX2, "giveNames", "(LRootedFerry$Tree;LRootedFerry$Node;)V"⟩
abbrev cX2_startTaking : ByteArray := prog_4_method_5_code
def yX2_startTaking : MethodName := ⟨RX2, "startTaking", "(LRootedFerry$Node;LRootedFerry$Node;JZ)V"⟩
abbrev cX2_next : ByteArray := prog_4_method_6_code
def yX2_next : MethodName := ⟨RX2, "next", "()I"⟩
abbrev cX2_receive : ByteArray := prog_4_method_7_code
def yX2_receive : MethodName := ⟨RX2, "receive", "(I)Z"⟩
abbrev cX2_leaveOutReturns : ByteArray := prog_4_method_8_code
def yX2_leaveOutReturns : MethodName := ⟨RX2, "leaveOutReturns", "()V"⟩
abbrev cX2_add : ByteArray := prog_4_method_9_code
def yX2_add : MethodName := ⟨RX2, "add", "(I)V"⟩
def RX3 : String := "RootedFerry$Command"
def TX3 : u_T := fun k => match k with
  | _ => ("", "", "", false)
def tyX3 : Nat → FieldType := fun k => match k with
  | _ => .int
abbrev wsX30 : List Cond := u_ws RX3 TX3 0
theorem nmX3 : ∀ a, a < 0 → ∀ b, b < 0 → a ≠ b → (TX3 a).2.1 ≠ (TX3 b).2.1 := by decide +kernel
theorem tyX3_ok : ∀ k, k < 0 → parseFieldDescriptor (TX3 k).2.2.1 = some (tyX3 k) := by decide +kernel
def RX4 : String := "RootedFerry$Line"
def TX4 : u_T := fun k => match k with
  | 0 => ("RootedFerry$Line", "signs", "[C", true)
  | _ => ("RootedFerry$Line", "length", "I", false)
def tyX4 : Nat → FieldType := fun k => match k with
  | 0 => .array .char
  | _ => .int
abbrev wsX40 : List Cond := u_ws RX4 TX4 2
theorem nmX4 : ∀ a, a < 2 → ∀ b, b < 2 → a ≠ b → (TX4 a).2.1 ≠ (TX4 b).2.1 := by decide +kernel
theorem tyX4_ok : ∀ k, k < 2 → parseFieldDescriptor (TX4 k).2.2.1 = some (tyX4 k) := by decide +kernel
abbrev cX4_init : ByteArray := prog_6_method_1_code
def yX4_init : MethodName := ⟨RX4, "<init>", "()V"⟩
abbrev cX4_add : ByteArray := prog_6_method_2_code
def yX4_add : MethodName := ⟨RX4, "add", "(C)Z"⟩
abbrev cX4_clear : ByteArray := prog_6_method_3_code
def yX4_clear : MethodName := ⟨RX4, "clear", "()V"⟩
abbrev cX4_at : ByteArray := prog_6_method_4_code
def yX4_at : MethodName := ⟨RX4, "at", "(I)C"⟩
abbrev cX4_length : ByteArray := prog_6_method_5_code
def yX4_length : MethodName := ⟨RX4, "length", "()I"⟩
abbrev cX4_startsWithCommand : ByteArray := prog_6_method_6_code
def yX4_startsWithCommand : MethodName := ⟨RX4, "startsWithCommand", "(Ljava/lang/String;)Z"⟩
abbrev cX4_endsWithItsSpace : ByteArray := prog_6_method_7_code
def yX4_endsWithItsSpace : MethodName := ⟨RX4, "endsWithItsSpace", "()Z"⟩
abbrev cX4_hasArgument : ByteArray := prog_6_method_8_code
def yX4_hasArgument : MethodName := ⟨RX4, "hasArgument", "()Z"⟩
abbrev cX4_argumentStart : ByteArray := prog_6_method_9_code
def yX4_argumentStart : MethodName := ⟨RX4, "argumentStart", "()I"⟩
abbrev cX4_argumentLength : ByteArray := prog_6_method_10_code
def yX4_argumentLength : MethodName := ⟨RX4, "argumentLength", "()I"⟩
abbrev cX4_argumentName : ByteArray := prog_6_method_11_code
def yX4_argumentName : MethodName := ⟨RX4, "argumentName", "()J"⟩
abbrev cX4_argumentNumber : ByteArray := prog_6_method_12_code
def yX4_argumentNumber : MethodName := ⟨RX4, "argumentNumber", "()I"⟩
abbrev cX4_argumentPort : ByteArray := prog_6_method_13_code
def yX4_argumentPort : MethodName := ⟨RX4, "argumentPort", "()I"⟩
abbrev cX4_capital : ByteArray := prog_6_method_14_code
def yX4_capital : MethodName := ⟨RX4, "capital", "(C)C"⟩
abbrev cX4_commandLength : ByteArray := prog_6_method_15_code
def yX4_commandLength : MethodName := ⟨RX4, "commandLength", "()I"⟩
abbrev cX4_number : ByteArray := prog_6_method_16_code
def yX4_number : MethodName := ⟨RX4, "number", "(II)I"⟩
def RX5 : String := "RootedFerry$Memory"
def TX5 : u_T := fun k => match k with
  | 0 => ("RootedFerry$Memory", "restart", "I", false)
  | 1 => ("RootedFerry$Memory", "user", "J", false)
  | _ => ("RootedFerry$Memory", "renamed", "LRootedFerry$Node;", false)
def tyX5 : Nat → FieldType := fun k => match k with
  | 0 => .int
  | 1 => .long
  | _ => .object "RootedFerry$Node"
abbrev wsX50 : List Cond := u_ws RX5 TX5 3
theorem nmX5 : ∀ a, a < 3 → ∀ b, b < 3 → a ≠ b → (TX5 a).2.1 ≠ (TX5 b).2.1 := by decide +kernel
theorem tyX5_ok : ∀ k, k < 3 → parseFieldDescriptor (TX5 k).2.2.1 = some (tyX5 k) := by decide +kernel
abbrev cX5_init : ByteArray := prog_7_method_1_code
def yX5_init : MethodName := ⟨RX5, "<init>", "()V"⟩
abbrev cX5_takeOver : ByteArray := prog_7_method_2_code
def yX5_takeOver : MethodName := ⟨RX5, "takeOver", "(LRootedFerry$Memory;)V"⟩
abbrev cX5_clear : ByteArray := prog_7_method_3_code
def yX5_clear : MethodName := ⟨RX5, "clear", "()V"⟩
def RX6 : String := "RootedFerry$Message"
def TX6 : u_T := fun k => match k with
  | 0 => ("RootedFerry$Message", "signs", "[C", true)
  | _ => ("RootedFerry$Message", "start", "I", false)
def tyX6 : Nat → FieldType := fun k => match k with
  | 0 => .array .char
  | _ => .int
abbrev wsX60 : List Cond := u_ws RX6 TX6 2
theorem nmX6 : ∀ a, a < 2 → ∀ b, b < 2 → a ≠ b → (TX6 a).2.1 ≠ (TX6 b).2.1 := by decide +kernel
theorem tyX6_ok : ∀ k, k < 2 → parseFieldDescriptor (TX6 k).2.2.1 = some (tyX6 k) := by decide +kernel
abbrev cX6_init : ByteArray := prog_8_method_1_code
def yX6_init : MethodName := ⟨RX6, "<init>", "()V"⟩
abbrev cX6_at : ByteArray := prog_8_method_2_code
def yX6_at : MethodName := ⟨RX6, "at", "(I)C"⟩
abbrev cX6_spellPath : ByteArray := prog_8_method_3_code
def yX6_spellPath : MethodName := ⟨RX6, "spellPath", "(LRootedFerry$Node;)V"⟩
abbrev cX6_spellNumber : ByteArray := prog_8_method_4_code
def yX6_spellNumber : MethodName := ⟨RX6, "spellNumber", "(I)V"⟩
abbrev cX6_putName : ByteArray := prog_8_method_5_code
def yX6_putName : MethodName := ⟨RX6, "putName", "(J)V"⟩
abbrev cX6_putBefore : ByteArray := prog_8_method_6_code
def yX6_putBefore : MethodName := ⟨RX6, "putBefore", "(C)V"⟩
def RX7 : String := "RootedFerry$Name"
def TX7 : u_T := fun k => match k with
  | _ => ("", "", "", false)
def tyX7 : Nat → FieldType := fun k => match k with
  | _ => .int
abbrev wsX70 : List Cond := u_ws RX7 TX7 0
theorem nmX7 : ∀ a, a < 0 → ∀ b, b < 0 → a ≠ b → (TX7 a).2.1 ≠ (TX7 b).2.1 := by decide +kernel
theorem tyX7_ok : ∀ k, k < 0 → parseFieldDescriptor (TX7 k).2.2.1 = some (tyX7 k) := by decide +kernel
abbrev cX7_partOfWord : ByteArray := prog_9_method_2_code
def yX7_partOfWord : MethodName := ⟨RX7, "partOfWord", "(J)J"⟩
abbrev cX7_partOfLine : ByteArray := prog_9_method_3_code
def yX7_partOfLine : MethodName := ⟨RX7, "partOfLine", "(LRootedFerry$Line;II)J"⟩
abbrev cX7_isDots : ByteArray := prog_9_method_4_code
def yX7_isDots : MethodName := ⟨RX7, "isDots", "(J)Z"⟩
abbrev cX7_withoutDots : ByteArray := prog_9_method_5_code
def yX7_withoutDots : MethodName := ⟨RX7, "withoutDots", "(J)J"⟩
abbrev cX7_signOf : ByteArray := prog_9_method_6_code
def yX7_signOf : MethodName := ⟨RX7, "signOf", "(JI)I"⟩
abbrev cX7_isSign : ByteArray := prog_9_method_7_code
def yX7_isSign : MethodName := ⟨RX7, "isSign", "(I)Z"⟩
def RX8 : String := "RootedFerry$Node"
def TX8 : u_T := fun k => match k with
  | 0 => ("RootedFerry$Node", "content", "[I", true)
  | 1 => ("RootedFerry$Node", "size", "I", false)
  | 2 => ("RootedFerry$Node", "used", "Z", false)
  | 3 => ("RootedFerry$Node", "directory", "Z", false)
  | 4 => ("RootedFerry$Node", "name", "J", false)
  | _ => ("RootedFerry$Node", "parent", "LRootedFerry$Node;", false)
def tyX8 : Nat → FieldType := fun k => match k with
  | 0 => .array .int
  | 1 => .int
  | 2 => .boolean
  | 3 => .boolean
  | 4 => .long
  | _ => .object "RootedFerry$Node"
abbrev wsX80 : List Cond := u_ws RX8 TX8 6
theorem nmX8 : ∀ a, a < 6 → ∀ b, b < 6 → a ≠ b → (TX8 a).2.1 ≠ (TX8 b).2.1 := by decide +kernel
theorem tyX8_ok : ∀ k, k < 6 → parseFieldDescriptor (TX8 k).2.2.1 = some (tyX8 k) := by decide +kernel
abbrev cX8_init : ByteArray := prog_10_method_1_code
def yX8_init : MethodName := ⟨RX8, "<init>", "()V"⟩
abbrev cX8_free : ByteArray := prog_10_method_2_code
def yX8_free : MethodName := ⟨RX8, "free", "()V"⟩
def RX9 : String := "RootedFerry$Path"
def TX9 : u_T := fun k => match k with
  | 0 => ("RootedFerry$Path", "parts", "[J", true)
  | 1 => ("RootedFerry$Path", "count", "I", false)
  | 2 => ("RootedFerry$Path", "fromRoot", "Z", false)
  | 3 => ("RootedFerry$Path", "slashBehind", "Z", false)
  | 4 => ("RootedFerry$Path", "end", "LRootedFerry$Node;", false)
  | 5 => ("RootedFerry$Path", "placeDirectory", "LRootedFerry$Node;", false)
  | _ => ("RootedFerry$Path", "placeName", "J", false)
def tyX9 : Nat → FieldType := fun k => match k with
  | 0 => .array .long
  | 1 => .int
  | 2 => .boolean
  | 3 => .boolean
  | 4 => .object "RootedFerry$Node"
  | 5 => .object "RootedFerry$Node"
  | _ => .long
abbrev wsX90 : List Cond := u_ws RX9 TX9 7
theorem nmX9 : ∀ a, a < 7 → ∀ b, b < 7 → a ≠ b → (TX9 a).2.1 ≠ (TX9 b).2.1 := by decide +kernel
theorem tyX9_ok : ∀ k, k < 7 → parseFieldDescriptor (TX9 k).2.2.1 = some (tyX9 k) := by decide +kernel
abbrev cX9_init : ByteArray := prog_11_method_1_code
def yX9_init : MethodName := ⟨RX9, "<init>", "()V"⟩
abbrev cX9_stay : ByteArray := prog_11_method_2_code
def yX9_stay : MethodName := ⟨RX9, "stay", "()V"⟩
abbrev cX9_read : ByteArray := prog_11_method_3_code
def yX9_read : MethodName := ⟨RX9, "read", "(LRootedFerry$Line;)Z"⟩
abbrev cX9_walk : ByteArray := prog_11_method_4_code
def yX9_walk : MethodName := ⟨RX9, "walk", "(LRootedFerry$Tree;LRootedFerry$Node;LRootedFerry$Node;)V"⟩
abbrev cX9_addPart : ByteArray := prog_11_method_5_code
def yX9_addPart : MethodName := ⟨RX9, "addPart", "(J)Z"⟩
abbrev cX9_findPlace : ByteArray := prog_11_method_6_code
def yX9_findPlace : MethodName := ⟨RX9, "findPlace", "(LRootedFerry$Node;)V"⟩
def RX10 : String := "RootedFerry$Tree"
def TX10 : u_T := fun k => match k with
  | _ => ("RootedFerry$Tree", "all", "[LRootedFerry$Node;", true)
def tyX10 : Nat → FieldType := fun k => match k with
  | _ => .array (.object "RootedFerry$Node")
abbrev wsX100 : List Cond := u_ws RX10 TX10 1
theorem nmX10 : ∀ a, a < 1 → ∀ b, b < 1 → a ≠ b → (TX10 a).2.1 ≠ (TX10 b).2.1 := by decide +kernel
theorem tyX10_ok : ∀ k, k < 1 → parseFieldDescriptor (TX10 k).2.2.1 = some (tyX10 k) := by decide +kernel
abbrev cX10_init : ByteArray := prog_12_method_1_code
def yX10_init : MethodName := ⟨RX10, "<init>", "()V"⟩
abbrev cX10_add : ByteArray := prog_12_method_2_code
def yX10_add : MethodName := ⟨RX10, "add", "(LRootedFerry$Node;JZ)LRootedFerry$Node;"⟩
abbrev cX10_isFull : ByteArray := prog_12_method_3_code
def yX10_isFull : MethodName := ⟨RX10, "isFull", "()Z"⟩
abbrev cX10_countNodes : ByteArray := prog_12_method_4_code
def yX10_countNodes : MethodName := ⟨RX10, "countNodes", "()I"⟩
abbrev cX10_countBytes : ByteArray := prog_12_method_5_code
def yX10_countBytes : MethodName := ⟨RX10, "countBytes", "()I"⟩
abbrev cX10_step : ByteArray := prog_12_method_6_code
def yX10_step : MethodName := ⟨RX10, "step", "(LRootedFerry$Node;J)LRootedFerry$Node;"⟩
abbrev cX10_isEmpty : ByteArray := prog_12_method_7_code
def yX10_isEmpty : MethodName := ⟨RX10, "isEmpty", "(LRootedFerry$Node;)Z"⟩
abbrev cX10_nextName : ByteArray := prog_12_method_8_code
def yX10_nextName : MethodName := ⟨RX10, "nextName", "(LRootedFerry$Node;J)J"⟩
abbrev cX10_liesIn : ByteArray := prog_12_method_9_code
def yX10_liesIn : MethodName := ⟨RX10, "liesIn", "(LRootedFerry$Node;LRootedFerry$Node;)Z"⟩
abbrev cX10_child : ByteArray := prog_12_method_10_code
def yX10_child : MethodName := ⟨RX10, "child", "(LRootedFerry$Node;J)LRootedFerry$Node;"⟩
def RX11 : String := "RootedFerry$Way"
def TX11 : u_T := fun k => match k with
  | _ => ("", "", "", false)
def tyX11 : Nat → FieldType := fun k => match k with
  | _ => .int
abbrev wsX110 : List Cond := u_ws RX11 TX11 0
theorem nmX11 : ∀ a, a < 0 → ∀ b, b < 0 → a ≠ b → (TX11 a).2.1 ≠ (TX11 b).2.1 := by decide +kernel
theorem tyX11_ok : ∀ k, k < 0 → parseFieldDescriptor (TX11 k).2.2.1 = some (tyX11 k) := by decide +kernel
def RX12 : String := "RootedFerry"
def TX12 : u_T := fun k => match k with
  | 0 => ("RootedFerry", "line", "LRootedFerry$Line;", true)
  | 1 => ("RootedFerry", "tree", "LRootedFerry$Tree;", true)
  | 2 => ("RootedFerry", "accounts", "Ljava/util/ArrayList;", true)
  | 3 => ("RootedFerry", "path", "LRootedFerry$Path;", true)
  | 4 => ("RootedFerry", "message", "LRootedFerry$Message;", true)
  | 5 => ("RootedFerry", "cargo", "LRootedFerry$Cargo;", true)
  | 6 => ("RootedFerry", "earlier", "LRootedFerry$Memory;", true)
  | 7 => ("RootedFerry", "later", "LRootedFerry$Memory;", true)
  | 8 => ("RootedFerry", "connected", "Z", false)
  | 9 => ("RootedFerry", "lastReply", "I", false)
  | 10 => ("RootedFerry", "root", "LRootedFerry$Node;", false)
  | 11 => ("RootedFerry", "current", "LRootedFerry$Node;", false)
  | 12 => ("RootedFerry", "image", "Z", false)
  | 13 => ("RootedFerry", "way", "LRootedFerry$Way;", false)
  | 14 => ("RootedFerry", "calledPort", "I", false)
  | _ => ("RootedFerry", "clientPort", "I", false)
def tyX12 : Nat → FieldType := fun k => match k with
  | 0 => .object "RootedFerry$Line"
  | 1 => .object "RootedFerry$Tree"
  | 2 => .object "java/util/ArrayList"
  | 3 => .object "RootedFerry$Path"
  | 4 => .object "RootedFerry$Message"
  | 5 => .object "RootedFerry$Cargo"
  | 6 => .object "RootedFerry$Memory"
  | 7 => .object "RootedFerry$Memory"
  | 8 => .boolean
  | 9 => .int
  | 10 => .object "RootedFerry$Node"
  | 11 => .object "RootedFerry$Node"
  | 12 => .boolean
  | 13 => .object "RootedFerry$Way"
  | 14 => .int
  | _ => .int
abbrev wsX120 : List Cond := u_ws RX12 TX12 16
theorem nmX12 : ∀ a, a < 16 → ∀ b, b < 16 → a ≠ b → (TX12 a).2.1 ≠ (TX12 b).2.1 := by decide +kernel
theorem tyX12_ok : ∀ k, k < 16 → parseFieldDescriptor (TX12 k).2.2.1 = some (tyX12 k) := by decide +kernel
abbrev cX12_init : ByteArray := prog_1_method_1_code
def yX12_init : MethodName := ⟨RX12, "<init>", "()V"⟩
abbrev cX12_account : ByteArray := prog_1_method_2_code
def yX12_account : MethodName := ⟨RX12, "account", "(JJ)Z"⟩
abbrev cX12_open : ByteArray := prog_1_method_3_code
def yX12_open : MethodName := ⟨RX12, "open", "()Z"⟩
abbrev cX12_type : ByteArray := prog_1_method_4_code
def yX12_type : MethodName := ⟨RX12, "type", "(C)Z"⟩
abbrev cX12_word : ByteArray := prog_1_method_5_code
def yX12_word : MethodName := ⟨RX12, "word", "(J)I"⟩
abbrev cX12_enter : ByteArray := prog_1_method_6_code
def yX12_enter : MethodName := ⟨RX12, "enter", "()I"⟩
abbrev cX12_reply : ByteArray := prog_1_method_7_code
def yX12_reply : MethodName := ⟨RX12, "reply", "()I"⟩
abbrev cX12_text : ByteArray := prog_1_method_8_code
def yX12_text : MethodName := ⟨RX12, "text", "(I)C"⟩
abbrev cX12_join : ByteArray := prog_1_method_9_code
def yX12_join : MethodName := ⟨RX12, "join", "()Z"⟩
abbrev cX12_listen : ByteArray := prog_1_method_10_code
def yX12_listen : MethodName := ⟨RX12, "listen", "(I)Z"⟩
abbrev cX12_take : ByteArray := prog_1_method_11_code
def yX12_take : MethodName := ⟨RX12, "take", "()I"⟩
abbrev cX12_give : ByteArray := prog_1_method_12_code
def yX12_give : MethodName := ⟨RX12, "give", "(I)Z"⟩
abbrev cX12_end : ByteArray := prog_1_method_13_code
def yX12_end : MethodName := ⟨RX12, "end", "()I"⟩
abbrev cX12_transfer : ByteArray := prog_1_method_14_code
def yX12_transfer : MethodName := ⟨RX12, "transfer", "()I"⟩
abbrev cX12_nodes : ByteArray := prog_1_method_15_code
def yX12_nodes : MethodName := ⟨RX12, "nodes", "()I"⟩
abbrev cX12_bytes : ByteArray := prog_1_method_16_code
def yX12_bytes : MethodName := ⟨RX12, "bytes", "()I"⟩
abbrev cX12_accountOf : ByteArray := prog_1_method_17_code
def yX12_accountOf : MethodName := ⟨RX12, "accountOf", "(J)LRootedFerry$Account;"⟩
abbrev cX12_logOut : ByteArray := prog_1_method_18_code
def yX12_logOut : MethodName := ⟨RX12, "logOut", "()V"⟩
abbrev cX12_dropTransfer : ByteArray := prog_1_method_19_code
def yX12_dropTransfer : MethodName := ⟨RX12, "dropTransfer", "()V"⟩
abbrev cX12_answerLine : ByteArray := prog_1_method_20_code
def yX12_answerLine : MethodName := ⟨RX12, "answerLine", "()I"⟩
abbrev cX12_commandOfLine : ByteArray := prog_1_method_21_code
def yX12_commandOfLine : MethodName := ⟨RX12, "commandOfLine", "()LRootedFerry$Command;"⟩
abbrev cX12_argumentFits : ByteArray := prog_1_method_22_code
def yX12_argumentFits : MethodName := ⟨RX12, "argumentFits", "(LRootedFerry$Command;)Z"⟩
abbrev cX12_run : ByteArray := prog_1_method_23_code
def yX12_run : MethodName := ⟨RX12, "run", "(LRootedFerry$Command;)I"⟩
abbrev cX12_runOnPath : ByteArray := prog_1_method_24_code
def yX12_runOnPath : MethodName := ⟨RX12, "runOnPath", "(LRootedFerry$Command;)I"⟩
abbrev cX12_nameUser : ByteArray := prog_1_method_25_code
def yX12_nameUser : MethodName := ⟨RX12, "nameUser", "()I"⟩
abbrev cX12_logIn : ByteArray := prog_1_method_26_code
def yX12_logIn : MethodName := ⟨RX12, "logIn", "()I"⟩
abbrev cX12_quit : ByteArray := prog_1_method_27_code
def yX12_quit : MethodName := ⟨RX12, "quit", "()I"⟩
abbrev cX12_changeTo : ByteArray := prog_1_method_28_code
def yX12_changeTo : MethodName := ⟨RX12, "changeTo", "(LRootedFerry$Node;I)I"⟩
abbrev cX12_makeDirectory : ByteArray := prog_1_method_29_code
def yX12_makeDirectory : MethodName := ⟨RX12, "makeDirectory", "()I"⟩
abbrev cX12_removeDirectory : ByteArray := prog_1_method_30_code
def yX12_removeDirectory : MethodName := ⟨RX12, "removeDirectory", "()I"⟩
abbrev cX12_deleteFile : ByteArray := prog_1_method_31_code
def yX12_deleteFile : MethodName := ⟨RX12, "deleteFile", "()I"⟩
abbrev cX12_tellSize : ByteArray := prog_1_method_32_code
def yX12_tellSize : MethodName := ⟨RX12, "tellSize", "()I"⟩
abbrev cX12_renameFrom : ByteArray := prog_1_method_33_code
def yX12_renameFrom : MethodName := ⟨RX12, "renameFrom", "()I"⟩
abbrev cX12_renameTo : ByteArray := prog_1_method_34_code
def yX12_renameTo : MethodName := ⟨RX12, "renameTo", "()I"⟩
abbrev cX12_chooseType : ByteArray := prog_1_method_35_code
def yX12_chooseType : MethodName := ⟨RX12, "chooseType", "()I"⟩
abbrev cX12_restart : ByteArray := prog_1_method_36_code
def yX12_restart : MethodName := ⟨RX12, "restart", "()I"⟩
abbrev cX12_abort : ByteArray := prog_1_method_37_code
def yX12_abort : MethodName := ⟨RX12, "abort", "()I"⟩
abbrev cX12_retrieve : ByteArray := prog_1_method_38_code
def yX12_retrieve : MethodName := ⟨RX12, "retrieve", "()I"⟩
abbrev cX12_listNames : ByteArray := prog_1_method_39_code
def yX12_listNames : MethodName := ⟨RX12, "listNames", "()I"⟩
abbrev cX12_takeFile : ByteArray := prog_1_method_40_code
def yX12_takeFile : MethodName := ⟨RX12, "takeFile", "(Z)I"⟩
abbrev cX12_dataConnects : ByteArray := prog_1_method_41_code
def yX12_dataConnects : MethodName := ⟨RX12, "dataConnects", "()Z"⟩
abbrev cX12_storeCargo : ByteArray := prog_1_method_42_code
def yX12_storeCargo : MethodName := ⟨RX12, "storeCargo", "()Z"⟩
def RX13 : String := "RootedFerryModel"
def TX13 : u_T := fun k => match k with
  | 0 => ("RootedFerryModel", "kind", "[I", true)
  | 1 => ("RootedFerryModel", "parent", "[I", true)
  | 2 => ("RootedFerryModel", "name", "[J", true)
  | 3 => ("RootedFerryModel", "size", "[I", true)
  | 4 => ("RootedFerryModel", "data", "[I", true)
  | 5 => ("RootedFerryModel", "accounts", "I", false)
  | 6 => ("RootedFerryModel", "users", "[J", true)
  | 7 => ("RootedFerryModel", "passwords", "[J", true)
  | 8 => ("RootedFerryModel", "roots", "[I", true)
  | 9 => ("RootedFerryModel", "length", "I", false)
  | 10 => ("RootedFerryModel", "line", "[C", true)
  | 11 => ("RootedFerryModel", "from", "I", false)
  | 12 => ("RootedFerryModel", "open", "Z", false)
  | 13 => ("RootedFerryModel", "last", "I", false)
  | 14 => ("RootedFerryModel", "texted", "I", false)
  | 15 => ("RootedFerryModel", "written", "[C", true)
  | 16 => ("RootedFerryModel", "root", "I", false)
  | 17 => ("RootedFerryModel", "current", "I", false)
  | 18 => ("RootedFerryModel", "image", "Z", false)
  | 19 => ("RootedFerryModel", "named", "J", false)
  | 20 => ("RootedFerryModel", "renamed", "I", false)
  | 21 => ("RootedFerryModel", "restart", "I", false)
  | 22 => ("RootedFerryModel", "namedBefore", "J", false)
  | 23 => ("RootedFerryModel", "renamedBefore", "I", false)
  | 24 => ("RootedFerryModel", "restartBefore", "I", false)
  | 25 => ("RootedFerryModel", "way", "I", false)
  | 26 => ("RootedFerryModel", "calling", "I", false)
  | 27 => ("RootedFerryModel", "listening", "I", false)
  | 28 => ("RootedFerryModel", "moving", "I", false)
  | 29 => ("RootedFerryModel", "moved", "I", false)
  | 30 => ("RootedFerryModel", "many", "I", false)
  | 31 => ("RootedFerryModel", "load", "[I", true)
  | 32 => ("RootedFerryModel", "target", "I", false)
  | 33 => ("RootedFerryModel", "append", "Z", false)
  | 34 => ("RootedFerryModel", "placeIn", "I", false)
  | _ => ("RootedFerryModel", "placeName", "J", false)
def tyX13 : Nat → FieldType := fun k => match k with
  | 0 => .array .int
  | 1 => .array .int
  | 2 => .array .long
  | 3 => .array .int
  | 4 => .array .int
  | 5 => .int
  | 6 => .array .long
  | 7 => .array .long
  | 8 => .array .int
  | 9 => .int
  | 10 => .array .char
  | 11 => .int
  | 12 => .boolean
  | 13 => .int
  | 14 => .int
  | 15 => .array .char
  | 16 => .int
  | 17 => .int
  | 18 => .boolean
  | 19 => .long
  | 20 => .int
  | 21 => .int
  | 22 => .long
  | 23 => .int
  | 24 => .int
  | 25 => .int
  | 26 => .int
  | 27 => .int
  | 28 => .int
  | 29 => .int
  | 30 => .int
  | 31 => .array .int
  | 32 => .int
  | 33 => .boolean
  | 34 => .int
  | _ => .long
abbrev wsX130 : List Cond := u_ws RX13 TX13 36
theorem nmX13 : ∀ a, a < 36 → ∀ b, b < 36 → a ≠ b → (TX13 a).2.1 ≠ (TX13 b).2.1 := by decide +kernel
theorem tyX13_ok : ∀ k, k < 36 → parseFieldDescriptor (TX13 k).2.2.1 = some (tyX13 k) := by decide +kernel
abbrev cX13_init : ByteArray := prog_15_method_1_code
def yX13_init : MethodName := ⟨RX13, "<init>", "()V"⟩
abbrev cX13_fits : ByteArray := prog_15_method_2_code
def yX13_fits : MethodName := ⟨RX13, "fits", "(J)Z"⟩
abbrev cX13_nameAt : ByteArray := prog_15_method_3_code
def yX13_nameAt : MethodName := ⟨RX13, "nameAt", "(II)J"⟩
abbrev cX13_isDots : ByteArray := prog_15_method_4_code
def yX13_isDots : MethodName := ⟨RX13, "isDots", "(II)I"⟩
abbrev cX13_endOfPart : ByteArray := prog_15_method_5_code
def yX13_endOfPart : MethodName := ⟨RX13, "endOfPart", "(I)I"⟩
abbrev cX13_isPath : ByteArray := prog_15_method_6_code
def yX13_isPath : MethodName := ⟨RX13, "isPath", "()Z"⟩
abbrev cX13_child : ByteArray := prog_15_method_7_code
def yX13_child : MethodName := ⟨RX13, "child", "(IJ)I"⟩
abbrev cX13_go : ByteArray := prog_15_method_8_code
def yX13_go : MethodName := ⟨RX13, "go", "(III)I"⟩
abbrev cX13_lead : ByteArray := prog_15_method_9_code
def yX13_lead : MethodName := ⟨RX13, "lead", "(I)I"⟩
abbrev cX13_findPlace : ByteArray := prog_15_method_10_code
def yX13_findPlace : MethodName := ⟨RX13, "findPlace", "()Z"⟩
abbrev cX13_freeNode : ByteArray := prog_15_method_11_code
def yX13_freeNode : MethodName := ⟨RX13, "freeNode", "()I"⟩
abbrev cX13_make : ByteArray := prog_15_method_12_code
def yX13_make : MethodName := ⟨RX13, "make", "(IIIJ)V"⟩
abbrev cX13_nodes : ByteArray := prog_15_method_13_code
def yX13_nodes : MethodName := ⟨RX13, "nodes", "()I"⟩
abbrev cX13_bytes : ByteArray := prog_15_method_14_code
def yX13_bytes : MethodName := ⟨RX13, "bytes", "()I"⟩
abbrev cX13_isEmpty : ByteArray := prog_15_method_15_code
def yX13_isEmpty : MethodName := ⟨RX13, "isEmpty", "(I)Z"⟩
abbrev cX13_nameOf : ByteArray := prog_15_method_16_code
def yX13_nameOf : MethodName := ⟨RX13, "nameOf", "(J)J"⟩
abbrev cX13_account : ByteArray := prog_15_method_17_code
def yX13_account : MethodName := ⟨RX13, "account", "(JJ)Z"⟩
abbrev cX13_say : ByteArray := prog_15_method_18_code
def yX13_say : MethodName := ⟨RX13, "say", "(I)I"⟩
abbrev cX13_open : ByteArray := prog_15_method_19_code
def yX13_open : MethodName := ⟨RX13, "open", "()Z"⟩
abbrev cX13_type : ByteArray := prog_15_method_20_code
def yX13_type : MethodName := ⟨RX13, "type", "(C)Z"⟩
abbrev cX13_word : ByteArray := prog_15_method_21_code
def yX13_word : MethodName := ⟨RX13, "word", "(J)I"⟩
abbrev cX13_reply : ByteArray := prog_15_method_22_code
def yX13_reply : MethodName := ⟨RX13, "reply", "()I"⟩
abbrev cX13_text : ByteArray := prog_15_method_23_code
def yX13_text : MethodName := ⟨RX13, "text", "(I)C"⟩
abbrev cX13_pack : ByteArray := prog_15_method_24_code
def yX13_pack : MethodName := ⟨RX13, "pack", "(IIII)I"⟩
abbrev cX13_readLetters : ByteArray := prog_15_method_25_code
def yX13_readLetters : MethodName := ⟨RX13, "readLetters", "()I"⟩
abbrev cX13_commandOf : ByteArray := prog_15_method_26_code
def yX13_commandOf : MethodName := ⟨RX13, "commandOf", "(I)I"⟩
abbrev cX13_isDigit : ByteArray := prog_15_method_27_code
def yX13_isDigit : MethodName := ⟨RX13, "isDigit", "(I)Z"⟩
abbrev cX13_digitsFrom : ByteArray := prog_15_method_28_code
def yX13_digitsFrom : MethodName := ⟨RX13, "digitsFrom", "(I)I"⟩
abbrev cX13_numberAt : ByteArray := prog_15_method_29_code
def yX13_numberAt : MethodName := ⟨RX13, "numberAt", "(II)I"⟩
abbrev cX13_portTold : ByteArray := prog_15_method_30_code
def yX13_portTold : MethodName := ⟨RX13, "portTold", "()I"⟩
abbrev cX13_argumentFits : ByteArray := prog_15_method_31_code
def yX13_argumentFits : MethodName := ⟨RX13, "argumentFits", "(I)Z"⟩
abbrev cX13_enter : ByteArray := prog_15_method_32_code
def yX13_enter : MethodName := ⟨RX13, "enter", "()I"⟩
abbrev cX13_run : ByteArray := prog_15_method_33_code
def yX13_run : MethodName := ⟨RX13, "run", "()I"⟩
abbrev cX13_enterAs : ByteArray := prog_15_method_34_code
def yX13_enterAs : MethodName := ⟨RX13, "enterAs", "(I)I"⟩
abbrev cX13_write : ByteArray := prog_15_method_35_code
def yX13_write : MethodName := ⟨RX13, "write", "(I)V"⟩
abbrev cX13_writeWay : ByteArray := prog_15_method_36_code
def yX13_writeWay : MethodName := ⟨RX13, "writeWay", "(I)V"⟩
abbrev cX13_makeDirectory : ByteArray := prog_15_method_37_code
def yX13_makeDirectory : MethodName := ⟨RX13, "makeDirectory", "()I"⟩
abbrev cX13_sizeTold : ByteArray := prog_15_method_38_code
def yX13_sizeTold : MethodName := ⟨RX13, "sizeTold", "(I)I"⟩
abbrev cX13_liesIn : ByteArray := prog_15_method_39_code
def yX13_liesIn : MethodName := ⟨RX13, "liesIn", "(II)Z"⟩
abbrev cX13_rename : ByteArray := prog_15_method_40_code
def yX13_rename : MethodName := ⟨RX13, "rename", "()I"⟩
abbrev cX13_change : ByteArray := prog_15_method_41_code
def yX13_change : MethodName := ⟨RX13, "change", "(I)I"⟩
abbrev cX13_prepare : ByteArray := prog_15_method_42_code
def yX13_prepare : MethodName := ⟨RX13, "prepare", "(I)I"⟩
abbrev cX13_transferBy : ByteArray := prog_15_method_43_code
def yX13_transferBy : MethodName := ⟨RX13, "transferBy", "(I)I"⟩
abbrev cX13_put : ByteArray := prog_15_method_44_code
def yX13_put : MethodName := ⟨RX13, "put", "(I)V"⟩
abbrev cX13_loadFile : ByteArray := prog_15_method_45_code
def yX13_loadFile : MethodName := ⟨RX13, "loadFile", "(I)V"⟩
abbrev cX13_loadNames : ByteArray := prog_15_method_46_code
def yX13_loadNames : MethodName := ⟨RX13, "loadNames", "(I)V"⟩
abbrev cX13_join : ByteArray := prog_15_method_47_code
def yX13_join : MethodName := ⟨RX13, "join", "()Z"⟩
abbrev cX13_listen : ByteArray := prog_15_method_48_code
def yX13_listen : MethodName := ⟨RX13, "listen", "(I)Z"⟩
abbrev cX13_take : ByteArray := prog_15_method_49_code
def yX13_take : MethodName := ⟨RX13, "take", "()I"⟩
abbrev cX13_give : ByteArray := prog_15_method_50_code
def yX13_give : MethodName := ⟨RX13, "give", "(I)Z"⟩
abbrev cX13_staying : ByteArray := prog_15_method_51_code
def yX13_staying : MethodName := ⟨RX13, "staying", "()I"⟩
abbrev cX13_end : ByteArray := prog_15_method_52_code
def yX13_end : MethodName := ⟨RX13, "end", "()I"⟩
abbrev cX13_transfer : ByteArray := prog_15_method_53_code
def yX13_transfer : MethodName := ⟨RX13, "transfer", "()I"⟩
def RJx145de : String := "java/io/Serializable"
def TJx145de : u_T := fun k => match k with
  | _ => ("", "", "", false)
def tyJx145de : Nat → FieldType := fun k => match k with
  | _ => .int
abbrev wsJx145de0 : List Cond := u_ws RJx145de TJx145de 0
theorem nmJx145de : ∀ a, a < 0 → ∀ b, b < 0 → a ≠ b → (TJx145de a).2.1 ≠ (TJx145de b).2.1 := by decide +kernel
theorem tyJx145de_ok : ∀ k, k < 0 → parseFieldDescriptor (TJx145de k).2.2.1 = some (tyJx145de k) := by decide +kernel
def RJx9f9b0 : String := "java/lang/CharSequence"
def TJx9f9b0 : u_T := fun k => match k with
  | _ => ("", "", "", false)
def tyJx9f9b0 : Nat → FieldType := fun k => match k with
  | _ => .int
abbrev wsJx9f9b00 : List Cond := u_ws RJx9f9b0 TJx9f9b0 0
theorem nmJx9f9b0 : ∀ a, a < 0 → ∀ b, b < 0 → a ≠ b → (TJx9f9b0 a).2.1 ≠ (TJx9f9b0 b).2.1 := by decide +kernel
theorem tyJx9f9b0_ok : ∀ k, k < 0 → parseFieldDescriptor (TJx9f9b0 k).2.2.1 = some (tyJx9f9b0 k) := by decide +kernel
def RJx8e188 : String := "java/lang/Cloneable"
def TJx8e188 : u_T := fun k => match k with
  | _ => ("", "", "", false)
def tyJx8e188 : Nat → FieldType := fun k => match k with
  | _ => .int
abbrev wsJx8e1880 : List Cond := u_ws RJx8e188 TJx8e188 0
theorem nmJx8e188 : ∀ a, a < 0 → ∀ b, b < 0 → a ≠ b → (TJx8e188 a).2.1 ≠ (TJx8e188 b).2.1 := by decide +kernel
theorem tyJx8e188_ok : ∀ k, k < 0 → parseFieldDescriptor (TJx8e188 k).2.2.1 = some (tyJx8e188 k) := by decide +kernel
def RJxb160c : String := "java/lang/Comparable"
def TJxb160c : u_T := fun k => match k with
  | _ => ("", "", "", false)
def tyJxb160c : Nat → FieldType := fun k => match k with
  | _ => .int
abbrev wsJxb160c0 : List Cond := u_ws RJxb160c TJxb160c 0
theorem nmJxb160c : ∀ a, a < 0 → ∀ b, b < 0 → a ≠ b → (TJxb160c a).2.1 ≠ (TJxb160c b).2.1 := by decide +kernel
theorem tyJxb160c_ok : ∀ k, k < 0 → parseFieldDescriptor (TJxb160c k).2.2.1 = some (tyJxb160c k) := by decide +kernel
def RJx29ce0 : String := "java/lang/Enum"
def TJx29ce0 : u_T := fun k => match k with
  | _ => ("", "", "", false)
def tyJx29ce0 : Nat → FieldType := fun k => match k with
  | _ => .int
abbrev wsJx29ce00 : List Cond := u_ws RJx29ce0 TJx29ce0 0
theorem nmJx29ce0 : ∀ a, a < 0 → ∀ b, b < 0 → a ≠ b → (TJx29ce0 a).2.1 ≠ (TJx29ce0 b).2.1 := by decide +kernel
theorem tyJx29ce0_ok : ∀ k, k < 0 → parseFieldDescriptor (TJx29ce0 k).2.2.1 = some (tyJx29ce0 k) := by decide +kernel
abbrev cJx29ce0_ordinal_8abf5 : ByteArray := prog_18_method_2_code
def yJx29ce0_ordinal_8abf5 : MethodName := ⟨RJx29ce0, "ordinal", "()I"⟩
def RJxab1ab : String := "java/lang/Iterable"
def TJxab1ab : u_T := fun k => match k with
  | _ => ("", "", "", false)
def tyJxab1ab : Nat → FieldType := fun k => match k with
  | _ => .int
abbrev wsJxab1ab0 : List Cond := u_ws RJxab1ab TJxab1ab 0
theorem nmJxab1ab : ∀ a, a < 0 → ∀ b, b < 0 → a ≠ b → (TJxab1ab a).2.1 ≠ (TJxab1ab b).2.1 := by decide +kernel
theorem tyJxab1ab_ok : ∀ k, k < 0 → parseFieldDescriptor (TJxab1ab k).2.2.1 = some (tyJxab1ab k) := by decide +kernel
def RJ9 : String := "java/lang/Math"
def TJ9 : u_T := fun k => match k with
  | _ => ("", "", "", false)
def tyJ9 : Nat → FieldType := fun k => match k with
  | _ => .int
abbrev wsJ90 : List Cond := u_ws RJ9 TJ9 0
theorem nmJ9 : ∀ a, a < 0 → ∀ b, b < 0 → a ≠ b → (TJ9 a).2.1 ≠ (TJ9 b).2.1 := by decide +kernel
theorem tyJ9_ok : ∀ k, k < 0 → parseFieldDescriptor (TJ9 k).2.2.1 = some (tyJ9 k) := by decide +kernel
abbrev cJ9_max_7cf53 : ByteArray := prog_20_method_65_code
def yJ9_max_7cf53 : MethodName := ⟨RJ9, "max", "(II)I"⟩
abbrev cJ9_min_7cf53 : ByteArray := prog_20_method_69_code
def yJ9_min_7cf53 : MethodName := ⟨RJ9, "min", "(II)I"⟩
def RJ0 : String := "java/lang/String"
def TJ0 : u_T := fun k => match k with
  | _ => ("", "", "", false)
def tyJ0 : Nat → FieldType := fun k => match k with
  | _ => .int
abbrev wsJ00 : List Cond := u_ws RJ0 TJ0 0
theorem nmJ0 : ∀ a, a < 0 → ∀ b, b < 0 → a ≠ b → (TJ0 a).2.1 ≠ (TJ0 b).2.1 := by decide +kernel
theorem tyJ0_ok : ∀ k, k < 0 → parseFieldDescriptor (TJ0 k).2.2.1 = some (tyJ0 k) := by decide +kernel
abbrev cJ0_length_8abf5 : ByteArray := prog_21_method_54_code
def yJ0_length_8abf5 : MethodName := ⟨RJ0, "length", "()I"⟩
abbrev cJ0_charAt_5068e : ByteArray := prog_21_method_56_code
def yJ0_charAt_5068e : MethodName := ⟨RJ0, "charAt", "(I)C"⟩
abbrev cJ0_coder_7d493 : ByteArray := prog_21_method_152_code
def yJ0_coder_7d493 : MethodName := ⟨RJ0, "coder", "()B"⟩
abbrev cJ0_isLatin1_aae02 : ByteArray := prog_21_method_154_code
def yJ0_isLatin1_aae02 : MethodName := ⟨RJ0, "isLatin1", "()Z"⟩
abbrev cJ0_checkIndex_df160 : ByteArray := prog_21_method_155_code
def yJ0_checkIndex_df160 : MethodName := ⟨RJ0, "checkIndex", "(II)V"⟩
def RJ1 : String := "java/lang/StringLatin1"
def TJ1 : u_T := fun k => match k with
  | _ => ("", "", "", false)
def tyJ1 : Nat → FieldType := fun k => match k with
  | _ => .int
abbrev wsJ10 : List Cond := u_ws RJ1 TJ1 0
theorem nmJ1 : ∀ a, a < 0 → ∀ b, b < 0 → a ≠ b → (TJ1 a).2.1 ≠ (TJ1 b).2.1 := by decide +kernel
theorem tyJ1_ok : ∀ k, k < 0 → parseFieldDescriptor (TJ1 k).2.2.1 = some (tyJ1 k) := by decide +kernel
abbrev cJ1_charAt_3b067 : ByteArray := prog_22_method_2_code
def yJ1_charAt_3b067 : MethodName := ⟨RJ1, "charAt", "([BI)C"⟩
def RJ2 : String := "java/lang/StringUTF16"
def TJ2 : u_T := fun k => match k with
  | _ => ("", "", "", false)
def tyJ2 : Nat → FieldType := fun k => match k with
  | _ => .int
abbrev wsJ20 : List Cond := u_ws RJ2 TJ2 0
theorem nmJ2 : ∀ a, a < 0 → ∀ b, b < 0 → a ≠ b → (TJ2 a).2.1 ≠ (TJ2 b).2.1 := by decide +kernel
theorem tyJ2_ok : ∀ k, k < 0 → parseFieldDescriptor (TJ2 k).2.2.1 = some (tyJ2 k) := by decide +kernel
abbrev cJ2_getChar_3b067 : ByteArray := prog_23_method_5_code
def yJ2_getChar_3b067 : MethodName := ⟨RJ2, "getChar", "([BI)C"⟩
abbrev cJ2_length_9d52b : ByteArray := prog_23_method_6_code
def yJ2_length_9d52b : MethodName := ⟨RJ2, "length", "([B)I"⟩
abbrev cJ2_charAt_3b067 : ByteArray := prog_23_method_83_code
def yJ2_charAt_3b067 : MethodName := ⟨RJ2, "charAt", "([BI)C"⟩
abbrev cJ2_checkIndex_2214a : ByteArray := prog_23_method_91_code
def yJ2_checkIndex_2214a : MethodName := ⟨RJ2, "checkIndex", "(I[B)V"⟩
def RJ10 : String := "java/lang/System"
def TJ10 : u_T := fun k => match k with
  | _ => ("", "", "", false)
def tyJ10 : Nat → FieldType := fun k => match k with
  | _ => .int
abbrev wsJ100 : List Cond := u_ws RJ10 TJ10 0
theorem nmJ10 : ∀ a, a < 0 → ∀ b, b < 0 → a ≠ b → (TJ10 a).2.1 ≠ (TJ10 b).2.1 := by decide +kernel
theorem tyJ10_ok : ∀ k, k < 0 → parseFieldDescriptor (TJ10 k).2.2.1 = some (tyJ10 k) := by decide +kernel
def RJxfd54e : String := "java/lang/constant/Constable"
def TJxfd54e : u_T := fun k => match k with
  | _ => ("", "", "", false)
def tyJxfd54e : Nat → FieldType := fun k => match k with
  | _ => .int
abbrev wsJxfd54e0 : List Cond := u_ws RJxfd54e TJxfd54e 0
theorem nmJxfd54e : ∀ a, a < 0 → ∀ b, b < 0 → a ≠ b → (TJxfd54e a).2.1 ≠ (TJxfd54e b).2.1 := by decide +kernel
theorem tyJxfd54e_ok : ∀ k, k < 0 → parseFieldDescriptor (TJxfd54e k).2.2.1 = some (tyJxfd54e k) := by decide +kernel
def RJx3cf43 : String := "java/lang/constant/ConstantDesc"
def TJx3cf43 : u_T := fun k => match k with
  | _ => ("", "", "", false)
def tyJx3cf43 : Nat → FieldType := fun k => match k with
  | _ => .int
abbrev wsJx3cf430 : List Cond := u_ws RJx3cf43 TJx3cf43 0
theorem nmJx3cf43 : ∀ a, a < 0 → ∀ b, b < 0 → a ≠ b → (TJx3cf43 a).2.1 ≠ (TJx3cf43 b).2.1 := by decide +kernel
theorem tyJx3cf43_ok : ∀ k, k < 0 → parseFieldDescriptor (TJx3cf43 k).2.2.1 = some (tyJx3cf43 k) := by decide +kernel
def RJxa1e45 : String := "java/util/AbstractCollection"
def TJxa1e45 : u_T := fun k => match k with
  | _ => ("", "", "", false)
def tyJxa1e45 : Nat → FieldType := fun k => match k with
  | _ => .int
abbrev wsJxa1e450 : List Cond := u_ws RJxa1e45 TJxa1e45 0
theorem nmJxa1e45 : ∀ a, a < 0 → ∀ b, b < 0 → a ≠ b → (TJxa1e45 a).2.1 ≠ (TJxa1e45 b).2.1 := by decide +kernel
theorem tyJxa1e45_ok : ∀ k, k < 0 → parseFieldDescriptor (TJxa1e45 k).2.2.1 = some (tyJxa1e45 k) := by decide +kernel
abbrev cJxa1e45_init_da8c8 : ByteArray := prog_25_method_1_code
def yJxa1e45_init_da8c8 : MethodName := ⟨RJxa1e45, "<init>", "()V"⟩
def RJxc12de : String := "java/util/AbstractList"
def TJxc12de : u_T := fun k => match k with
  | _ => ("", "", "", false)
def tyJxc12de : Nat → FieldType := fun k => match k with
  | _ => .int
abbrev wsJxc12de0 : List Cond := u_ws RJxc12de TJxc12de 0
theorem nmJxc12de : ∀ a, a < 0 → ∀ b, b < 0 → a ≠ b → (TJxc12de a).2.1 ≠ (TJxc12de b).2.1 := by decide +kernel
theorem tyJxc12de_ok : ∀ k, k < 0 → parseFieldDescriptor (TJxc12de k).2.2.1 = some (tyJxc12de k) := by decide +kernel
abbrev cJxc12de_init_da8c8 : ByteArray := prog_26_method_1_code
def yJxc12de_init_da8c8 : MethodName := ⟨RJxc12de, "<init>", "()V"⟩
def RJx4a65c : String := "java/util/ArrayList"
def TJx4a65c : u_T := fun k => match k with
  | 0 => ("java/util/AbstractList", "modCount", "I", false)
  | 1 => ("java/util/ArrayList", "elementData", "[Ljava/lang/Object;", false)
  | _ => ("java/util/ArrayList", "size", "I", false)
def tyJx4a65c : Nat → FieldType := fun k => match k with
  | 0 => .int
  | 1 => .array (.object "java/lang/Object")
  | _ => .int
abbrev wsJx4a65c0 : List Cond := u_ws RJx4a65c TJx4a65c 3
theorem nmJx4a65c : ∀ a, a < 3 → ∀ b, b < 3 → a ≠ b → (TJx4a65c a).2.1 ≠ (TJx4a65c b).2.1 := by decide +kernel
theorem tyJx4a65c_ok : ∀ k, k < 3 → parseFieldDescriptor (TJx4a65c k).2.2.1 = some (tyJx4a65c k) := by decide +kernel
abbrev cJx4a65c_init_da8c8 : ByteArray := prog_27_method_2_code
def yJx4a65c_init_da8c8 : MethodName := ⟨RJx4a65c, "<init>", "()V"⟩
abbrev cJx4a65c_grow_92f84 : ByteArray := prog_27_method_6_code
def yJx4a65c_grow_92f84 : MethodName := ⟨RJx4a65c, "grow", "(I)[Ljava/lang/Object;"⟩
abbrev cJx4a65c_grow_d5877 : ByteArray := prog_27_method_7_code
def yJx4a65c_grow_d5877 : MethodName := ⟨RJx4a65c, "grow", "()[Ljava/lang/Object;"⟩
abbrev cJx4a65c_size_8abf5 : ByteArray := prog_27_method_8_code
def yJx4a65c_size_8abf5 : MethodName := ⟨RJx4a65c, "size", "()I"⟩
abbrev cJx4a65c_elementData_915e3 : ByteArray := prog_27_method_18_code
def yJx4a65c_elementData_915e3 : MethodName := ⟨RJx4a65c, "elementData", "(I)Ljava/lang/Object;"⟩
abbrev cJx4a65c_get_915e3 : ByteArray := prog_27_method_20_code
def yJx4a65c_get_915e3 : MethodName := ⟨RJx4a65c, "get", "(I)Ljava/lang/Object;"⟩
abbrev cJx4a65c_add_72be8 : ByteArray := prog_27_method_24_code
def yJx4a65c_add_72be8 : MethodName := ⟨RJx4a65c, "add", "(Ljava/lang/Object;[Ljava/lang/Object;I)V"⟩
abbrev cJx4a65c_add_9ea2d : ByteArray := prog_27_method_25_code
def yJx4a65c_add_9ea2d : MethodName := ⟨RJx4a65c, "add", "(Ljava/lang/Object;)Z"⟩
def RJ7 : String := "java/util/Arrays"
def TJ7 : u_T := fun k => match k with
  | _ => ("", "", "", false)
def tyJ7 : Nat → FieldType := fun k => match k with
  | _ => .int
abbrev wsJ70 : List Cond := u_ws RJ7 TJ7 0
theorem nmJ7 : ∀ a, a < 0 → ∀ b, b < 0 → a ≠ b → (TJ7 a).2.1 ≠ (TJ7 b).2.1 := by decide +kernel
theorem tyJ7_ok : ∀ k, k < 0 → parseFieldDescriptor (TJ7 k).2.2.1 = some (tyJ7 k) := by decide +kernel
abbrev cJ7_copyOf_1904c : ByteArray := prog_28_method_119_code
def yJ7_copyOf_1904c : MethodName := ⟨RJ7, "copyOf", "([Ljava/lang/Object;I)[Ljava/lang/Object;"⟩
abbrev cJ7_copyOf_6403c : ByteArray := prog_28_method_120_code
def yJ7_copyOf_6403c : MethodName := ⟨RJ7, "copyOf", "([Ljava/lang/Object;ILjava/lang/Class;)[Ljava/lang/Object;"⟩
def RJx5ef63 : String := "java/util/Collection"
def TJx5ef63 : u_T := fun k => match k with
  | _ => ("", "", "", false)
def tyJx5ef63 : Nat → FieldType := fun k => match k with
  | _ => .int
abbrev wsJx5ef630 : List Cond := u_ws RJx5ef63 TJx5ef63 0
theorem nmJx5ef63 : ∀ a, a < 0 → ∀ b, b < 0 → a ≠ b → (TJx5ef63 a).2.1 ≠ (TJx5ef63 b).2.1 := by decide +kernel
theorem tyJx5ef63_ok : ∀ k, k < 0 → parseFieldDescriptor (TJx5ef63 k).2.2.1 = some (tyJx5ef63 k) := by decide +kernel
def RJxbd725 : String := "java/util/List"
def TJxbd725 : u_T := fun k => match k with
  | _ => ("", "", "", false)
def tyJxbd725 : Nat → FieldType := fun k => match k with
  | _ => .int
abbrev wsJxbd7250 : List Cond := u_ws RJxbd725 TJxbd725 0
theorem nmJxbd725 : ∀ a, a < 0 → ∀ b, b < 0 → a ≠ b → (TJxbd725 a).2.1 ≠ (TJxbd725 b).2.1 := by decide +kernel
theorem tyJxbd725_ok : ∀ k, k < 0 → parseFieldDescriptor (TJxbd725 k).2.2.1 = some (tyJxbd725 k) := by decide +kernel
def RJ15 : String := "java/util/Objects"
def TJ15 : u_T := fun k => match k with
  | _ => ("", "", "", false)
def tyJ15 : Nat → FieldType := fun k => match k with
  | _ => .int
abbrev wsJ150 : List Cond := u_ws RJ15 TJ15 0
theorem nmJ15 : ∀ a, a < 0 → ∀ b, b < 0 → a ≠ b → (TJ15 a).2.1 ≠ (TJ15 b).2.1 := by decide +kernel
theorem tyJ15_ok : ∀ k, k < 0 → parseFieldDescriptor (TJ15 k).2.2.1 = some (tyJ15 k) := by decide +kernel
abbrev cJ15_checkIndex_7cf53 : ByteArray := prog_31_method_17_code
def yJ15_checkIndex_7cf53 : MethodName := ⟨RJ15, "checkIndex", "(II)I"⟩
def RJxf0a74 : String := "java/util/RandomAccess"
def TJxf0a74 : u_T := fun k => match k with
  | _ => ("", "", "", false)
def tyJxf0a74 : Nat → FieldType := fun k => match k with
  | _ => .int
abbrev wsJxf0a740 : List Cond := u_ws RJxf0a74 TJxf0a74 0
theorem nmJxf0a74 : ∀ a, a < 0 → ∀ b, b < 0 → a ≠ b → (TJxf0a74 a).2.1 ≠ (TJxf0a74 b).2.1 := by decide +kernel
theorem tyJxf0a74_ok : ∀ k, k < 0 → parseFieldDescriptor (TJxf0a74 k).2.2.1 = some (tyJxf0a74 k) := by decide +kernel
def RJxa66e6 : String := "java/util/SequencedCollection"
def TJxa66e6 : u_T := fun k => match k with
  | _ => ("", "", "", false)
def tyJxa66e6 : Nat → FieldType := fun k => match k with
  | _ => .int
abbrev wsJxa66e60 : List Cond := u_ws RJxa66e6 TJxa66e6 0
theorem nmJxa66e6 : ∀ a, a < 0 → ∀ b, b < 0 → a ≠ b → (TJxa66e6 a).2.1 ≠ (TJxa66e6 b).2.1 := by decide +kernel
theorem tyJxa66e6_ok : ∀ k, k < 0 → parseFieldDescriptor (TJxa66e6 k).2.2.1 = some (tyJxa66e6 k) := by decide +kernel
def RJ8 : String := "jdk/internal/util/ArraysSupport"
def TJ8 : u_T := fun k => match k with
  | _ => ("", "", "", false)
def tyJ8 : Nat → FieldType := fun k => match k with
  | _ => .int
abbrev wsJ80 : List Cond := u_ws RJ8 TJ8 0
theorem nmJ8 : ∀ a, a < 0 → ∀ b, b < 0 → a ≠ b → (TJ8 a).2.1 ≠ (TJ8 b).2.1 := by decide +kernel
theorem tyJ8_ok : ∀ k, k < 0 → parseFieldDescriptor (TJ8 k).2.2.1 = some (tyJ8 k) := by decide +kernel
abbrev cJ8_newLength_cabcc : ByteArray := prog_34_method_27_code
def yJ8_newLength_cabcc : MethodName := ⟨RJ8, "newLength", "(III)I"⟩
abbrev cJ8_hugeLength_7cf53 : ByteArray := prog_34_method_28_code
def yJ8_hugeLength_7cf53 : MethodName := ⟨RJ8, "hugeLength", "(II)I"⟩
def RJ3 : String := "jdk/internal/util/Preconditions"
def TJ3 : u_T := fun k => match k with
  | _ => ("", "", "", false)
def tyJ3 : Nat → FieldType := fun k => match k with
  | _ => .int
abbrev wsJ30 : List Cond := u_ws RJ3 TJ3 0
theorem nmJ3 : ∀ a, a < 0 → ∀ b, b < 0 → a ≠ b → (TJ3 a).2.1 ≠ (TJ3 b).2.1 := by decide +kernel
theorem tyJ3_ok : ∀ k, k < 0 → parseFieldDescriptor (TJ3 k).2.2.1 = some (tyJ3 k) := by decide +kernel
abbrev cJ3_checkIndex_8e157 : ByteArray := prog_35_method_11_code
def yJ3_checkIndex_8e157 : MethodName := ⟨RJ3, "checkIndex", "(IILjava/util/function/BiFunction;)I"⟩
def RL : String := "RootedFerryLaw"
abbrev cL_law : ByteArray := code
abbrev vwCl : List vw_C := [(RJx4a65c, TJx4a65c, 3), (RX1, TX1, 3), (RX2, TX2, 8), (RX4, TX4, 2), (RX5, TX5, 3), (RX6, TX6, 2), (RX8, TX8, 6), (RX9, TX9, 7), (RX10, TX10, 1), (RX12, TX12, 16), (RX13, TX13, 36)]
end
section
theorem dX1_init_0 : decode cX1_init 0 = .ok (.aload_n 0, 1) := by decide +kernel
theorem dX1_init_1 : decode cX1_init 1 = .ok (.invokespecial 1, 3) := by decide +kernel
theorem dX1_init_4 : decode cX1_init 4 = .ok (.aload_n 0, 1) := by decide +kernel
theorem dX1_init_5 : decode cX1_init 5 = .ok (.lload_n 1, 1) := by decide +kernel
theorem dX1_init_6 : decode cX1_init 6 = .ok (.putfield 7, 3) := by decide +kernel
theorem dX1_init_9 : decode cX1_init 9 = .ok (.aload_n 0, 1) := by decide +kernel
theorem dX1_init_10 : decode cX1_init 10 = .ok (.lload_n 3, 1) := by decide +kernel
theorem dX1_init_11 : decode cX1_init 11 = .ok (.putfield 13, 3) := by decide +kernel
theorem dX1_init_14 : decode cX1_init 14 = .ok (.aload_n 0, 1) := by decide +kernel
theorem dX1_init_15 : decode cX1_init 15 = .ok (.aload 5, 2) := by decide +kernel
theorem dX1_init_17 : decode cX1_init 17 = .ok (.putfield 16, 3) := by decide +kernel
theorem dX1_init_20 : decode cX1_init 20 = .ok (.return_, 1) := by decide +kernel
theorem dX2_init_0 : decode cX2_init 0 = .ok (.aload_n 0, 1) := by decide +kernel
theorem dX2_init_1 : decode cX2_init 1 = .ok (.invokespecial 3, 3) := by decide +kernel
theorem dX2_init_4 : decode cX2_init 4 = .ok (.aload_n 0, 1) := by decide +kernel
theorem dX2_init_5 : decode cX2_init 5 = .ok (.sipush 192, 3) := by decide +kernel
theorem dX2_init_8 : decode cX2_init 8 = .ok (.newarray .int, 2) := by decide +kernel
theorem dX2_init_10 : decode cX2_init 10 = .ok (.putfield 13, 3) := by decide +kernel
theorem dX2_init_13 : decode cX2_init 13 = .ok (.aload_n 0, 1) := by decide +kernel
theorem dX2_init_14 : decode cX2_init 14 = .ok (.iconst 0, 1) := by decide +kernel
theorem dX2_init_15 : decode cX2_init 15 = .ok (.putfield 19, 3) := by decide +kernel
theorem dX2_init_18 : decode cX2_init 18 = .ok (.aload_n 0, 1) := by decide +kernel
theorem dX2_init_19 : decode cX2_init 19 = .ok (.iconst 0, 1) := by decide +kernel
theorem dX2_init_20 : decode cX2_init 20 = .ok (.putfield 23, 3) := by decide +kernel
theorem dX2_init_23 : decode cX2_init 23 = .ok (.aload_n 0, 1) := by decide +kernel
theorem dX2_init_24 : decode cX2_init 24 = .ok (.iconst 0, 1) := by decide +kernel
theorem dX2_init_25 : decode cX2_init 25 = .ok (.putfield 26, 3) := by decide +kernel
theorem dX2_init_28 : decode cX2_init 28 = .ok (.aload_n 0, 1) := by decide +kernel
theorem dX2_init_29 : decode cX2_init 29 = .ok (.aconst_null, 1) := by decide +kernel
theorem dX2_init_30 : decode cX2_init 30 = .ok (.putfield 29, 3) := by decide +kernel
theorem dX2_init_33 : decode cX2_init 33 = .ok (.aload_n 0, 1) := by decide +kernel
theorem dX2_init_34 : decode cX2_init 34 = .ok (.aconst_null, 1) := by decide +kernel
theorem dX2_init_35 : decode cX2_init 35 = .ok (.putfield 33, 3) := by decide +kernel
theorem dX2_init_38 : decode cX2_init 38 = .ok (.aload_n 0, 1) := by decide +kernel
theorem dX2_init_39 : decode cX2_init 39 = .ok (.lconst 0, 1) := by decide +kernel
theorem dX2_init_40 : decode cX2_init 40 = .ok (.putfield 36, 3) := by decide +kernel
theorem dX2_init_43 : decode cX2_init 43 = .ok (.aload_n 0, 1) := by decide +kernel
theorem dX2_init_44 : decode cX2_init 44 = .ok (.iconst 0, 1) := by decide +kernel
theorem dX2_init_45 : decode cX2_init 45 = .ok (.putfield 40, 3) := by decide +kernel
theorem dX2_init_48 : decode cX2_init 48 = .ok (.return_, 1) := by decide +kernel
theorem dX2_clear_0 : decode cX2_clear 0 = .ok (.aload_n 0, 1) := by decide +kernel
theorem dX2_clear_1 : decode cX2_clear 1 = .ok (.iconst 0, 1) := by decide +kernel
theorem dX2_clear_2 : decode cX2_clear 2 = .ok (.putfield 19, 3) := by decide +kernel
theorem dX2_clear_5 : decode cX2_clear 5 = .ok (.aload_n 0, 1) := by decide +kernel
theorem dX2_clear_6 : decode cX2_clear 6 = .ok (.iconst 0, 1) := by decide +kernel
theorem dX2_clear_7 : decode cX2_clear 7 = .ok (.putfield 23, 3) := by decide +kernel
theorem dX2_clear_10 : decode cX2_clear 10 = .ok (.aload_n 0, 1) := by decide +kernel
theorem dX2_clear_11 : decode cX2_clear 11 = .ok (.iconst 0, 1) := by decide +kernel
theorem dX2_clear_12 : decode cX2_clear 12 = .ok (.putfield 26, 3) := by decide +kernel
theorem dX2_clear_15 : decode cX2_clear 15 = .ok (.aload_n 0, 1) := by decide +kernel
theorem dX2_clear_16 : decode cX2_clear 16 = .ok (.aconst_null, 1) := by decide +kernel
theorem dX2_clear_17 : decode cX2_clear 17 = .ok (.putfield 29, 3) := by decide +kernel
theorem dX2_clear_20 : decode cX2_clear 20 = .ok (.aload_n 0, 1) := by decide +kernel
theorem dX2_clear_21 : decode cX2_clear 21 = .ok (.aconst_null, 1) := by decide +kernel
theorem dX2_clear_22 : decode cX2_clear 22 = .ok (.putfield 33, 3) := by decide +kernel
theorem dX2_clear_25 : decode cX2_clear 25 = .ok (.aload_n 0, 1) := by decide +kernel
theorem dX2_clear_26 : decode cX2_clear 26 = .ok (.lconst 0, 1) := by decide +kernel
theorem dX2_clear_27 : decode cX2_clear 27 = .ok (.putfield 36, 3) := by decide +kernel
theorem dX2_clear_30 : decode cX2_clear 30 = .ok (.aload_n 0, 1) := by decide +kernel
theorem dX2_clear_31 : decode cX2_clear 31 = .ok (.iconst 0, 1) := by decide +kernel
theorem dX2_clear_32 : decode cX2_clear 32 = .ok (.putfield 40, 3) := by decide +kernel
theorem dX2_clear_35 : decode cX2_clear 35 = .ok (.return_, 1) := by decide +kernel
theorem dX2_giveFile_0 : decode cX2_giveFile 0 = .ok (.aload_n 0, 1) := by decide +kernel
theorem dX2_giveFile_1 : decode cX2_giveFile 1 = .ok (.iconst 1, 1) := by decide +kernel
theorem dX2_giveFile_2 : decode cX2_giveFile 2 = .ok (.putfield 19, 3) := by decide +kernel
theorem dX2_giveFile_5 : decode cX2_giveFile 5 = .ok (.iload_n 2, 1) := by decide +kernel
theorem dX2_giveFile_6 : decode cX2_giveFile 6 = .ok (.istore 4, 2) := by decide +kernel
theorem dX2_giveFile_8 : decode cX2_giveFile 8 = .ok (.iload 4, 2) := by decide +kernel
theorem dX2_giveFile_10 : decode cX2_giveFile 10 = .ok (.ifCond .lt 61, 3) := by decide +kernel
theorem dX2_giveFile_13 : decode cX2_giveFile 13 = .ok (.iload 4, 2) := by decide +kernel
theorem dX2_giveFile_15 : decode cX2_giveFile 15 = .ok (.aload_n 1, 1) := by decide +kernel
theorem dX2_giveFile_16 : decode cX2_giveFile 16 = .ok (.getfield 44, 3) := by decide +kernel
theorem dX2_giveFile_19 : decode cX2_giveFile 19 = .ok (.if_icmp .ge 52, 3) := by decide +kernel
theorem dX2_giveFile_22 : decode cX2_giveFile 22 = .ok (.iload 4, 2) := by decide +kernel
theorem dX2_giveFile_24 : decode cX2_giveFile 24 = .ok (.aload_n 1, 1) := by decide +kernel
theorem dX2_giveFile_25 : decode cX2_giveFile 25 = .ok (.getfield 49, 3) := by decide +kernel
theorem dX2_giveFile_28 : decode cX2_giveFile 28 = .ok (.arraylength, 1) := by decide +kernel
theorem dX2_giveFile_29 : decode cX2_giveFile 29 = .ok (.if_icmp .ge 42, 3) := by decide +kernel
theorem dX2_giveFile_32 : decode cX2_giveFile 32 = .ok (.iload_n 3, 1) := by decide +kernel
theorem dX2_giveFile_33 : decode cX2_giveFile 33 = .ok (.ifCond .eq 21, 3) := by decide +kernel
theorem dX2_giveFile_36 : decode cX2_giveFile 36 = .ok (.aload_n 1, 1) := by decide +kernel
theorem dX2_giveFile_37 : decode cX2_giveFile 37 = .ok (.getfield 49, 3) := by decide +kernel
theorem dX2_giveFile_40 : decode cX2_giveFile 40 = .ok (.iload 4, 2) := by decide +kernel
theorem dX2_giveFile_42 : decode cX2_giveFile 42 = .ok (.iaload, 1) := by decide +kernel
theorem dX2_giveFile_43 : decode cX2_giveFile 43 = .ok (.bipush 10, 2) := by decide +kernel
theorem dX2_giveFile_45 : decode cX2_giveFile 45 = .ok (.if_icmp .ne 9, 3) := by decide +kernel
theorem dX2_giveFile_48 : decode cX2_giveFile 48 = .ok (.aload_n 0, 1) := by decide +kernel
theorem dX2_giveFile_49 : decode cX2_giveFile 49 = .ok (.bipush 13, 2) := by decide +kernel
theorem dX2_giveFile_51 : decode cX2_giveFile 51 = .ok (.invokevirtual 52, 3) := by decide +kernel
theorem dX2_giveFile_54 : decode cX2_giveFile 54 = .ok (.aload_n 0, 1) := by decide +kernel
theorem dX2_giveFile_55 : decode cX2_giveFile 55 = .ok (.aload_n 1, 1) := by decide +kernel
theorem dX2_giveFile_56 : decode cX2_giveFile 56 = .ok (.getfield 49, 3) := by decide +kernel
theorem dX2_giveFile_59 : decode cX2_giveFile 59 = .ok (.iload 4, 2) := by decide +kernel
theorem dX2_giveFile_61 : decode cX2_giveFile 61 = .ok (.iaload, 1) := by decide +kernel
theorem dX2_giveFile_62 : decode cX2_giveFile 62 = .ok (.invokevirtual 52, 3) := by decide +kernel
theorem dX2_giveFile_65 : decode cX2_giveFile 65 = .ok (.iinc 4 1, 3) := by decide +kernel
theorem dX2_giveFile_68 : decode cX2_giveFile 68 = .ok (.goto (-60), 3) := by decide +kernel
theorem dX2_giveFile_71 : decode cX2_giveFile 71 = .ok (.return_, 1) := by decide +kernel
theorem dX2_giveNames_0 : decode cX2_giveNames 0 = .ok (.aload_n 0, 1) := by decide +kernel
theorem dX2_giveNames_1 : decode cX2_giveNames 1 = .ok (.iconst 1, 1) := by decide +kernel
theorem dX2_giveNames_2 : decode cX2_giveNames 2 = .ok (.putfield 19, 3) := by decide +kernel
theorem dX2_giveNames_5 : decode cX2_giveNames 5 = .ok (.aload_n 1, 1) := by decide +kernel
theorem dX2_giveNames_6 : decode cX2_giveNames 6 = .ok (.aload_n 2, 1) := by decide +kernel
theorem dX2_giveNames_7 : decode cX2_giveNames 7 = .ok (.lconst 0, 1) := by decide +kernel
theorem dX2_giveNames_8 : decode cX2_giveNames 8 = .ok (.invokevirtual 56, 3) := by decide +kernel
theorem dX2_giveNames_11 : decode cX2_giveNames 11 = .ok (.lstore_n 3, 1) := by decide +kernel
theorem dX2_giveNames_12 : decode cX2_giveNames 12 = .ok (.iconst 0, 1) := by decide +kernel
theorem dX2_giveNames_13 : decode cX2_giveNames 13 = .ok (.istore 5, 2) := by decide +kernel
theorem dX2_giveNames_15 : decode cX2_giveNames 15 = .ok (.iload 5, 2) := by decide +kernel
theorem dX2_giveNames_17 : decode cX2_giveNames 17 = .ok (.bipush 24, 2) := by decide +kernel
theorem dX2_giveNames_19 : decode cX2_giveNames 19 = .ok (.if_icmp .ge 69, 3) := by decide +kernel
theorem dX2_giveNames_22 : decode cX2_giveNames 22 = .ok (.lload_n 3, 1) := by decide +kernel
theorem dX2_giveNames_23 : decode cX2_giveNames 23 = .ok (.lconst 0, 1) := by decide +kernel
theorem dX2_giveNames_24 : decode cX2_giveNames 24 = .ok (.lcmp, 1) := by decide +kernel
theorem dX2_giveNames_25 : decode cX2_giveNames 25 = .ok (.ifCond .eq 63, 3) := by decide +kernel
theorem dX2_giveNames_28 : decode cX2_giveNames 28 = .ok (.iconst 0, 1) := by decide +kernel
theorem dX2_giveNames_29 : decode cX2_giveNames 29 = .ok (.istore 6, 2) := by decide +kernel
theorem dX2_giveNames_31 : decode cX2_giveNames 31 = .ok (.iload 6, 2) := by decide +kernel
theorem dX2_giveNames_33 : decode cX2_giveNames 33 = .ok (.bipush 6, 2) := by decide +kernel
theorem dX2_giveNames_35 : decode cX2_giveNames 35 = .ok (.if_icmp .ge 28, 3) := by decide +kernel
theorem dX2_giveNames_38 : decode cX2_giveNames 38 = .ok (.lload_n 3, 1) := by decide +kernel
theorem dX2_giveNames_39 : decode cX2_giveNames 39 = .ok (.iload 6, 2) := by decide +kernel
theorem dX2_giveNames_41 : decode cX2_giveNames 41 = .ok (.invokestatic 60, 3) := by decide +kernel
theorem dX2_giveNames_44 : decode cX2_giveNames 44 = .ok (.ifCond .eq 19, 3) := by decide +kernel
theorem dX2_giveNames_47 : decode cX2_giveNames 47 = .ok (.aload_n 0, 1) := by decide +kernel
theorem dX2_giveNames_48 : decode cX2_giveNames 48 = .ok (.lload_n 3, 1) := by decide +kernel
theorem dX2_giveNames_49 : decode cX2_giveNames 49 = .ok (.iload 6, 2) := by decide +kernel
theorem dX2_giveNames_51 : decode cX2_giveNames 51 = .ok (.invokestatic 60, 3) := by decide +kernel
theorem dX2_giveNames_54 : decode cX2_giveNames 54 = .ok (.invokevirtual 52, 3) := by decide +kernel
theorem dX2_giveNames_57 : decode cX2_giveNames 57 = .ok (.iinc 6 1, 3) := by decide +kernel
theorem dX2_giveNames_60 : decode cX2_giveNames 60 = .ok (.goto (-29), 3) := by decide +kernel
theorem dX2_giveNames_63 : decode cX2_giveNames 63 = .ok (.aload_n 0, 1) := by decide +kernel
theorem dX2_giveNames_64 : decode cX2_giveNames 64 = .ok (.bipush 13, 2) := by decide +kernel
theorem dX2_giveNames_66 : decode cX2_giveNames 66 = .ok (.invokevirtual 52, 3) := by decide +kernel
theorem dX2_giveNames_69 : decode cX2_giveNames 69 = .ok (.aload_n 0, 1) := by decide +kernel
theorem dX2_giveNames_70 : decode cX2_giveNames 70 = .ok (.bipush 10, 2) := by decide +kernel
theorem dX2_giveNames_72 : decode cX2_giveNames 72 = .ok (.invokevirtual 52, 3) := by decide +kernel
theorem dX2_giveNames_75 : decode cX2_giveNames 75 = .ok (.aload_n 1, 1) := by decide +kernel
theorem dX2_giveNames_76 : decode cX2_giveNames 76 = .ok (.aload_n 2, 1) := by decide +kernel
theorem dX2_giveNames_77 : decode cX2_giveNames 77 = .ok (.lload_n 3, 1) := by decide +kernel
theorem dX2_giveNames_78 : decode cX2_giveNames 78 = .ok (.invokevirtual 56, 3) := by decide +kernel
theorem dX2_giveNames_81 : decode cX2_giveNames 81 = .ok (.lstore_n 3, 1) := by decide +kernel
theorem dX2_giveNames_82 : decode cX2_giveNames 82 = .ok (.iinc 5 1, 3) := by decide +kernel
theorem dX2_giveNames_85 : decode cX2_giveNames 85 = .ok (.goto (-70), 3) := by decide +kernel
theorem dX2_giveNames_88 : decode cX2_giveNames 88 = .ok (.return_, 1) := by decide +kernel
theorem dX2_startTaking_0 : decode cX2_startTaking 0 = .ok (.aload_n 0, 1) := by decide +kernel
theorem dX2_startTaking_1 : decode cX2_startTaking 1 = .ok (.iconst 2, 1) := by decide +kernel
theorem dX2_startTaking_2 : decode cX2_startTaking 2 = .ok (.putfield 19, 3) := by decide +kernel
theorem dX2_startTaking_5 : decode cX2_startTaking 5 = .ok (.aload_n 0, 1) := by decide +kernel
theorem dX2_startTaking_6 : decode cX2_startTaking 6 = .ok (.aload_n 1, 1) := by decide +kernel
theorem dX2_startTaking_7 : decode cX2_startTaking 7 = .ok (.putfield 29, 3) := by decide +kernel
theorem dX2_startTaking_10 : decode cX2_startTaking 10 = .ok (.aload_n 0, 1) := by decide +kernel
theorem dX2_startTaking_11 : decode cX2_startTaking 11 = .ok (.aload_n 2, 1) := by decide +kernel
theorem dX2_startTaking_12 : decode cX2_startTaking 12 = .ok (.putfield 33, 3) := by decide +kernel
theorem dX2_startTaking_15 : decode cX2_startTaking 15 = .ok (.aload_n 0, 1) := by decide +kernel
theorem dX2_startTaking_16 : decode cX2_startTaking 16 = .ok (.lload_n 3, 1) := by decide +kernel
theorem dX2_startTaking_17 : decode cX2_startTaking 17 = .ok (.putfield 36, 3) := by decide +kernel
theorem dX2_startTaking_20 : decode cX2_startTaking 20 = .ok (.aload_n 0, 1) := by decide +kernel
theorem dX2_startTaking_21 : decode cX2_startTaking 21 = .ok (.iload 5, 2) := by decide +kernel
theorem dX2_startTaking_23 : decode cX2_startTaking 23 = .ok (.putfield 40, 3) := by decide +kernel
theorem dX2_startTaking_26 : decode cX2_startTaking 26 = .ok (.return_, 1) := by decide +kernel
theorem dX2_next_0 : decode cX2_next 0 = .ok (.aload_n 0, 1) := by decide +kernel
theorem dX2_next_1 : decode cX2_next 1 = .ok (.getfield 26, 3) := by decide +kernel
theorem dX2_next_4 : decode cX2_next 4 = .ok (.aload_n 0, 1) := by decide +kernel
theorem dX2_next_5 : decode cX2_next 5 = .ok (.getfield 23, 3) := by decide +kernel
theorem dX2_next_8 : decode cX2_next 8 = .ok (.if_icmp .ge 15, 3) := by decide +kernel
theorem dX2_next_11 : decode cX2_next 11 = .ok (.aload_n 0, 1) := by decide +kernel
theorem dX2_next_12 : decode cX2_next 12 = .ok (.getfield 26, 3) := by decide +kernel
theorem dX2_next_15 : decode cX2_next 15 = .ok (.aload_n 0, 1) := by decide +kernel
theorem dX2_next_16 : decode cX2_next 16 = .ok (.getfield 13, 3) := by decide +kernel
theorem dX2_next_19 : decode cX2_next 19 = .ok (.arraylength, 1) := by decide +kernel
theorem dX2_next_20 : decode cX2_next 20 = .ok (.if_icmp .lt 5, 3) := by decide +kernel
theorem dX2_next_23 : decode cX2_next 23 = .ok (.iconst (-1), 1) := by decide +kernel
theorem dX2_next_24 : decode cX2_next 24 = .ok (.ireturn, 1) := by decide +kernel
theorem dX2_next_25 : decode cX2_next 25 = .ok (.aload_n 0, 1) := by decide +kernel
theorem dX2_next_26 : decode cX2_next 26 = .ok (.dup, 1) := by decide +kernel
theorem dX2_next_27 : decode cX2_next 27 = .ok (.getfield 26, 3) := by decide +kernel
theorem dX2_next_30 : decode cX2_next 30 = .ok (.iconst 1, 1) := by decide +kernel
theorem dX2_next_31 : decode cX2_next 31 = .ok (.iadd, 1) := by decide +kernel
theorem dX2_next_32 : decode cX2_next 32 = .ok (.putfield 26, 3) := by decide +kernel
theorem dX2_next_35 : decode cX2_next 35 = .ok (.aload_n 0, 1) := by decide +kernel
theorem dX2_next_36 : decode cX2_next 36 = .ok (.getfield 13, 3) := by decide +kernel
theorem dX2_next_39 : decode cX2_next 39 = .ok (.aload_n 0, 1) := by decide +kernel
theorem dX2_next_40 : decode cX2_next 40 = .ok (.getfield 26, 3) := by decide +kernel
theorem dX2_next_43 : decode cX2_next 43 = .ok (.iconst 1, 1) := by decide +kernel
theorem dX2_next_44 : decode cX2_next 44 = .ok (.isub, 1) := by decide +kernel
theorem dX2_next_45 : decode cX2_next 45 = .ok (.iaload, 1) := by decide +kernel
theorem dX2_next_46 : decode cX2_next 46 = .ok (.ireturn, 1) := by decide +kernel
theorem dX2_receive_0 : decode cX2_receive 0 = .ok (.aload_n 0, 1) := by decide +kernel
theorem dX2_receive_1 : decode cX2_receive 1 = .ok (.getfield 23, 3) := by decide +kernel
theorem dX2_receive_4 : decode cX2_receive 4 = .ok (.bipush 80, 2) := by decide +kernel
theorem dX2_receive_6 : decode cX2_receive 6 = .ok (.if_icmp .lt 5, 3) := by decide +kernel
theorem dX2_receive_9 : decode cX2_receive 9 = .ok (.iconst 0, 1) := by decide +kernel
theorem dX2_receive_10 : decode cX2_receive 10 = .ok (.ireturn, 1) := by decide +kernel
theorem dX2_receive_11 : decode cX2_receive 11 = .ok (.aload_n 0, 1) := by decide +kernel
theorem dX2_receive_12 : decode cX2_receive 12 = .ok (.iload_n 1, 1) := by decide +kernel
theorem dX2_receive_13 : decode cX2_receive 13 = .ok (.invokevirtual 52, 3) := by decide +kernel
theorem dX2_receive_16 : decode cX2_receive 16 = .ok (.iconst 1, 1) := by decide +kernel
theorem dX2_receive_17 : decode cX2_receive 17 = .ok (.ireturn, 1) := by decide +kernel
theorem dX2_leaveOutReturns_0 : decode cX2_leaveOutReturns 0 = .ok (.aload_n 0, 1) := by decide +kernel
theorem dX2_leaveOutReturns_1 : decode cX2_leaveOutReturns 1 = .ok (.getfield 23, 3) := by decide +kernel
theorem dX2_leaveOutReturns_4 : decode cX2_leaveOutReturns 4 = .ok (.istore_n 1, 1) := by decide +kernel
theorem dX2_leaveOutReturns_5 : decode cX2_leaveOutReturns 5 = .ok (.aload_n 0, 1) := by decide +kernel
theorem dX2_leaveOutReturns_6 : decode cX2_leaveOutReturns 6 = .ok (.iconst 0, 1) := by decide +kernel
theorem dX2_leaveOutReturns_7 : decode cX2_leaveOutReturns 7 = .ok (.putfield 23, 3) := by decide +kernel
theorem dX2_leaveOutReturns_10 : decode cX2_leaveOutReturns 10 = .ok (.iconst 0, 1) := by decide +kernel
theorem dX2_leaveOutReturns_11 : decode cX2_leaveOutReturns 11 = .ok (.istore_n 2, 1) := by decide +kernel
theorem dX2_leaveOutReturns_12 : decode cX2_leaveOutReturns 12 = .ok (.iload_n 2, 1) := by decide +kernel
theorem dX2_leaveOutReturns_13 : decode cX2_leaveOutReturns 13 = .ok (.iload_n 1, 1) := by decide +kernel
theorem dX2_leaveOutReturns_14 : decode cX2_leaveOutReturns 14 = .ok (.if_icmp .ge 80, 3) := by decide +kernel
theorem dX2_leaveOutReturns_17 : decode cX2_leaveOutReturns 17 = .ok (.iload_n 2, 1) := by decide +kernel
theorem dX2_leaveOutReturns_18 : decode cX2_leaveOutReturns 18 = .ok (.aload_n 0, 1) := by decide +kernel
theorem dX2_leaveOutReturns_19 : decode cX2_leaveOutReturns 19 = .ok (.getfield 13, 3) := by decide +kernel
theorem dX2_leaveOutReturns_22 : decode cX2_leaveOutReturns 22 = .ok (.arraylength, 1) := by decide +kernel
theorem dX2_leaveOutReturns_23 : decode cX2_leaveOutReturns 23 = .ok (.if_icmp .ge 71, 3) := by decide +kernel
theorem dX2_leaveOutReturns_26 : decode cX2_leaveOutReturns 26 = .ok (.iload_n 2, 1) := by decide +kernel
theorem dX2_leaveOutReturns_27 : decode cX2_leaveOutReturns 27 = .ok (.iconst 1, 1) := by decide +kernel
theorem dX2_leaveOutReturns_28 : decode cX2_leaveOutReturns 28 = .ok (.iadd, 1) := by decide +kernel
theorem dX2_leaveOutReturns_29 : decode cX2_leaveOutReturns 29 = .ok (.iload_n 1, 1) := by decide +kernel
theorem dX2_leaveOutReturns_30 : decode cX2_leaveOutReturns 30 = .ok (.if_icmp .ge 31, 3) := by decide +kernel
theorem dX2_leaveOutReturns_33 : decode cX2_leaveOutReturns 33 = .ok (.iload_n 2, 1) := by decide +kernel
theorem dX2_leaveOutReturns_34 : decode cX2_leaveOutReturns 34 = .ok (.iconst 1, 1) := by decide +kernel
theorem dX2_leaveOutReturns_35 : decode cX2_leaveOutReturns 35 = .ok (.iadd, 1) := by decide +kernel
theorem dX2_leaveOutReturns_36 : decode cX2_leaveOutReturns 36 = .ok (.aload_n 0, 1) := by decide +kernel
theorem dX2_leaveOutReturns_37 : decode cX2_leaveOutReturns 37 = .ok (.getfield 13, 3) := by decide +kernel
theorem dX2_leaveOutReturns_40 : decode cX2_leaveOutReturns 40 = .ok (.arraylength, 1) := by decide +kernel
theorem dX2_leaveOutReturns_41 : decode cX2_leaveOutReturns 41 = .ok (.if_icmp .ge 20, 3) := by decide +kernel
theorem dX2_leaveOutReturns_44 : decode cX2_leaveOutReturns 44 = .ok (.aload_n 0, 1) := by decide +kernel
theorem dX2_leaveOutReturns_45 : decode cX2_leaveOutReturns 45 = .ok (.getfield 13, 3) := by decide +kernel
theorem dX2_leaveOutReturns_48 : decode cX2_leaveOutReturns 48 = .ok (.iload_n 2, 1) := by decide +kernel
theorem dX2_leaveOutReturns_49 : decode cX2_leaveOutReturns 49 = .ok (.iconst 1, 1) := by decide +kernel
theorem dX2_leaveOutReturns_50 : decode cX2_leaveOutReturns 50 = .ok (.iadd, 1) := by decide +kernel
theorem dX2_leaveOutReturns_51 : decode cX2_leaveOutReturns 51 = .ok (.iaload, 1) := by decide +kernel
theorem dX2_leaveOutReturns_52 : decode cX2_leaveOutReturns 52 = .ok (.bipush 10, 2) := by decide +kernel
theorem dX2_leaveOutReturns_54 : decode cX2_leaveOutReturns 54 = .ok (.if_icmp .ne 7, 3) := by decide +kernel
theorem dX2_leaveOutReturns_57 : decode cX2_leaveOutReturns 57 = .ok (.iconst 1, 1) := by decide +kernel
theorem dX2_leaveOutReturns_58 : decode cX2_leaveOutReturns 58 = .ok (.goto 4, 3) := by decide +kernel
theorem dX2_leaveOutReturns_61 : decode cX2_leaveOutReturns 61 = .ok (.iconst 0, 1) := by decide +kernel
theorem dX2_leaveOutReturns_62 : decode cX2_leaveOutReturns 62 = .ok (.istore_n 3, 1) := by decide +kernel
theorem dX2_leaveOutReturns_63 : decode cX2_leaveOutReturns 63 = .ok (.aload_n 0, 1) := by decide +kernel
theorem dX2_leaveOutReturns_64 : decode cX2_leaveOutReturns 64 = .ok (.getfield 13, 3) := by decide +kernel
theorem dX2_leaveOutReturns_67 : decode cX2_leaveOutReturns 67 = .ok (.iload_n 2, 1) := by decide +kernel
theorem dX2_leaveOutReturns_68 : decode cX2_leaveOutReturns 68 = .ok (.iaload, 1) := by decide +kernel
theorem dX2_leaveOutReturns_69 : decode cX2_leaveOutReturns 69 = .ok (.bipush 13, 2) := by decide +kernel
theorem dX2_leaveOutReturns_71 : decode cX2_leaveOutReturns 71 = .ok (.if_icmp .ne 7, 3) := by decide +kernel
theorem dX2_leaveOutReturns_74 : decode cX2_leaveOutReturns 74 = .ok (.iload_n 3, 1) := by decide +kernel
theorem dX2_leaveOutReturns_75 : decode cX2_leaveOutReturns 75 = .ok (.ifCond .ne 13, 3) := by decide +kernel
theorem dX2_leaveOutReturns_78 : decode cX2_leaveOutReturns 78 = .ok (.aload_n 0, 1) := by decide +kernel
theorem dX2_leaveOutReturns_79 : decode cX2_leaveOutReturns 79 = .ok (.aload_n 0, 1) := by decide +kernel
theorem dX2_leaveOutReturns_80 : decode cX2_leaveOutReturns 80 = .ok (.getfield 13, 3) := by decide +kernel
theorem dX2_leaveOutReturns_83 : decode cX2_leaveOutReturns 83 = .ok (.iload_n 2, 1) := by decide +kernel
theorem dX2_leaveOutReturns_84 : decode cX2_leaveOutReturns 84 = .ok (.iaload, 1) := by decide +kernel
theorem dX2_leaveOutReturns_85 : decode cX2_leaveOutReturns 85 = .ok (.invokevirtual 52, 3) := by decide +kernel
theorem dX2_leaveOutReturns_88 : decode cX2_leaveOutReturns 88 = .ok (.iinc 2 1, 3) := by decide +kernel
theorem dX2_leaveOutReturns_91 : decode cX2_leaveOutReturns 91 = .ok (.goto (-79), 3) := by decide +kernel
theorem dX2_leaveOutReturns_94 : decode cX2_leaveOutReturns 94 = .ok (.return_, 1) := by decide +kernel
theorem dX2_add_0 : decode cX2_add 0 = .ok (.aload_n 0, 1) := by decide +kernel
theorem dX2_add_1 : decode cX2_add 1 = .ok (.getfield 23, 3) := by decide +kernel
theorem dX2_add_4 : decode cX2_add 4 = .ok (.aload_n 0, 1) := by decide +kernel
theorem dX2_add_5 : decode cX2_add 5 = .ok (.getfield 13, 3) := by decide +kernel
theorem dX2_add_8 : decode cX2_add 8 = .ok (.arraylength, 1) := by decide +kernel
theorem dX2_add_9 : decode cX2_add 9 = .ok (.if_icmp .ge 23, 3) := by decide +kernel
theorem dX2_add_12 : decode cX2_add 12 = .ok (.aload_n 0, 1) := by decide +kernel
theorem dX2_add_13 : decode cX2_add 13 = .ok (.getfield 13, 3) := by decide +kernel
theorem dX2_add_16 : decode cX2_add 16 = .ok (.aload_n 0, 1) := by decide +kernel
theorem dX2_add_17 : decode cX2_add 17 = .ok (.getfield 23, 3) := by decide +kernel
theorem dX2_add_20 : decode cX2_add 20 = .ok (.iload_n 1, 1) := by decide +kernel
theorem dX2_add_21 : decode cX2_add 21 = .ok (.iastore, 1) := by decide +kernel
theorem dX2_add_22 : decode cX2_add 22 = .ok (.aload_n 0, 1) := by decide +kernel
theorem dX2_add_23 : decode cX2_add 23 = .ok (.dup, 1) := by decide +kernel
theorem dX2_add_24 : decode cX2_add 24 = .ok (.getfield 23, 3) := by decide +kernel
theorem dX2_add_27 : decode cX2_add 27 = .ok (.iconst 1, 1) := by decide +kernel
theorem dX2_add_28 : decode cX2_add 28 = .ok (.iadd, 1) := by decide +kernel
theorem dX2_add_29 : decode cX2_add 29 = .ok (.putfield 23, 3) := by decide +kernel
theorem dX2_add_32 : decode cX2_add 32 = .ok (.return_, 1) := by decide +kernel
theorem dX4_init_0 : decode cX4_init 0 = .ok (.aload_n 0, 1) := by decide +kernel
theorem dX4_init_1 : decode cX4_init 1 = .ok (.invokespecial 3, 3) := by decide +kernel
theorem dX4_init_4 : decode cX4_init 4 = .ok (.aload_n 0, 1) := by decide +kernel
theorem dX4_init_5 : decode cX4_init 5 = .ok (.bipush 32, 2) := by decide +kernel
theorem dX4_init_7 : decode cX4_init 7 = .ok (.newarray .char, 2) := by decide +kernel
theorem dX4_init_9 : decode cX4_init 9 = .ok (.putfield 9, 3) := by decide +kernel
theorem dX4_init_12 : decode cX4_init 12 = .ok (.aload_n 0, 1) := by decide +kernel
theorem dX4_init_13 : decode cX4_init 13 = .ok (.iconst 0, 1) := by decide +kernel
theorem dX4_init_14 : decode cX4_init 14 = .ok (.putfield 15, 3) := by decide +kernel
theorem dX4_init_17 : decode cX4_init 17 = .ok (.return_, 1) := by decide +kernel
theorem dX4_add_0 : decode cX4_add 0 = .ok (.iload_n 1, 1) := by decide +kernel
theorem dX4_add_1 : decode cX4_add 1 = .ok (.bipush 32, 2) := by decide +kernel
theorem dX4_add_3 : decode cX4_add 3 = .ok (.if_icmp .lt 21, 3) := by decide +kernel
theorem dX4_add_6 : decode cX4_add 6 = .ok (.iload_n 1, 1) := by decide +kernel
theorem dX4_add_7 : decode cX4_add 7 = .ok (.bipush 126, 2) := by decide +kernel
theorem dX4_add_9 : decode cX4_add 9 = .ok (.if_icmp .gt 15, 3) := by decide +kernel
theorem dX4_add_12 : decode cX4_add 12 = .ok (.aload_n 0, 1) := by decide +kernel
theorem dX4_add_13 : decode cX4_add 13 = .ok (.getfield 15, 3) := by decide +kernel
theorem dX4_add_16 : decode cX4_add 16 = .ok (.aload_n 0, 1) := by decide +kernel
theorem dX4_add_17 : decode cX4_add 17 = .ok (.getfield 9, 3) := by decide +kernel
theorem dX4_add_20 : decode cX4_add 20 = .ok (.arraylength, 1) := by decide +kernel
theorem dX4_add_21 : decode cX4_add 21 = .ok (.if_icmp .lt 5, 3) := by decide +kernel
theorem dX4_add_24 : decode cX4_add 24 = .ok (.iconst 0, 1) := by decide +kernel
theorem dX4_add_25 : decode cX4_add 25 = .ok (.ireturn, 1) := by decide +kernel
theorem dX4_add_26 : decode cX4_add 26 = .ok (.aload_n 0, 1) := by decide +kernel
theorem dX4_add_27 : decode cX4_add 27 = .ok (.getfield 9, 3) := by decide +kernel
theorem dX4_add_30 : decode cX4_add 30 = .ok (.aload_n 0, 1) := by decide +kernel
theorem dX4_add_31 : decode cX4_add 31 = .ok (.getfield 15, 3) := by decide +kernel
theorem dX4_add_34 : decode cX4_add 34 = .ok (.iload_n 1, 1) := by decide +kernel
theorem dX4_add_35 : decode cX4_add 35 = .ok (.castore, 1) := by decide +kernel
theorem dX4_add_36 : decode cX4_add 36 = .ok (.aload_n 0, 1) := by decide +kernel
theorem dX4_add_37 : decode cX4_add 37 = .ok (.dup, 1) := by decide +kernel
theorem dX4_add_38 : decode cX4_add 38 = .ok (.getfield 15, 3) := by decide +kernel
theorem dX4_add_41 : decode cX4_add 41 = .ok (.iconst 1, 1) := by decide +kernel
theorem dX4_add_42 : decode cX4_add 42 = .ok (.iadd, 1) := by decide +kernel
theorem dX4_add_43 : decode cX4_add 43 = .ok (.putfield 15, 3) := by decide +kernel
theorem dX4_add_46 : decode cX4_add 46 = .ok (.iconst 1, 1) := by decide +kernel
theorem dX4_add_47 : decode cX4_add 47 = .ok (.ireturn, 1) := by decide +kernel
theorem dX4_clear_0 : decode cX4_clear 0 = .ok (.aload_n 0, 1) := by decide +kernel
theorem dX4_clear_1 : decode cX4_clear 1 = .ok (.iconst 0, 1) := by decide +kernel
theorem dX4_clear_2 : decode cX4_clear 2 = .ok (.putfield 15, 3) := by decide +kernel
theorem dX4_clear_5 : decode cX4_clear 5 = .ok (.return_, 1) := by decide +kernel
theorem dX4_at_0 : decode cX4_at 0 = .ok (.iload_n 1, 1) := by decide +kernel
theorem dX4_at_1 : decode cX4_at 1 = .ok (.ifCond .lt 20, 3) := by decide +kernel
theorem dX4_at_4 : decode cX4_at 4 = .ok (.iload_n 1, 1) := by decide +kernel
theorem dX4_at_5 : decode cX4_at 5 = .ok (.aload_n 0, 1) := by decide +kernel
theorem dX4_at_6 : decode cX4_at 6 = .ok (.getfield 15, 3) := by decide +kernel
theorem dX4_at_9 : decode cX4_at 9 = .ok (.if_icmp .ge 12, 3) := by decide +kernel
theorem dX4_at_12 : decode cX4_at 12 = .ok (.aload_n 0, 1) := by decide +kernel
theorem dX4_at_13 : decode cX4_at 13 = .ok (.getfield 9, 3) := by decide +kernel
theorem dX4_at_16 : decode cX4_at 16 = .ok (.iload_n 1, 1) := by decide +kernel
theorem dX4_at_17 : decode cX4_at 17 = .ok (.caload, 1) := by decide +kernel
theorem dX4_at_18 : decode cX4_at 18 = .ok (.goto 4, 3) := by decide +kernel
theorem dX4_at_21 : decode cX4_at 21 = .ok (.iconst 0, 1) := by decide +kernel
theorem dX4_at_22 : decode cX4_at 22 = .ok (.ireturn, 1) := by decide +kernel
theorem dX4_length_0 : decode cX4_length 0 = .ok (.aload_n 0, 1) := by decide +kernel
theorem dX4_length_1 : decode cX4_length 1 = .ok (.getfield 15, 3) := by decide +kernel
theorem dX4_length_4 : decode cX4_length 4 = .ok (.ireturn, 1) := by decide +kernel
theorem dX4_startsWithCommand_0 : decode cX4_startsWithCommand 0 = .ok (.aload_n 0, 1) := by decide +kernel
theorem dX4_startsWithCommand_1 : decode cX4_startsWithCommand 1 = .ok (.invokevirtual 19, 3) := by decide +kernel
theorem dX4_startsWithCommand_4 : decode cX4_startsWithCommand 4 = .ok (.aload_n 1, 1) := by decide +kernel
theorem dX4_startsWithCommand_5 : decode cX4_startsWithCommand 5 = .ok (.invokevirtual 23, 3) := by decide +kernel
theorem dX4_startsWithCommand_8 : decode cX4_startsWithCommand 8 = .ok (.if_icmp .eq 5, 3) := by decide +kernel
theorem dX4_startsWithCommand_11 : decode cX4_startsWithCommand 11 = .ok (.iconst 0, 1) := by decide +kernel
theorem dX4_startsWithCommand_12 : decode cX4_startsWithCommand 12 = .ok (.ireturn, 1) := by decide +kernel
theorem dX4_startsWithCommand_13 : decode cX4_startsWithCommand 13 = .ok (.iconst 0, 1) := by decide +kernel
theorem dX4_startsWithCommand_14 : decode cX4_startsWithCommand 14 = .ok (.istore_n 2, 1) := by decide +kernel
theorem dX4_startsWithCommand_15 : decode cX4_startsWithCommand 15 = .ok (.iload_n 2, 1) := by decide +kernel
theorem dX4_startsWithCommand_16 : decode cX4_startsWithCommand 16 = .ok (.aload_n 1, 1) := by decide +kernel
theorem dX4_startsWithCommand_17 : decode cX4_startsWithCommand 17 = .ok (.invokevirtual 23, 3) := by decide +kernel
theorem dX4_startsWithCommand_20 : decode cX4_startsWithCommand 20 = .ok (.if_icmp .ge 27, 3) := by decide +kernel
theorem dX4_startsWithCommand_23 : decode cX4_startsWithCommand 23 = .ok (.aload_n 0, 1) := by decide +kernel
theorem dX4_startsWithCommand_24 : decode cX4_startsWithCommand 24 = .ok (.iload_n 2, 1) := by decide +kernel
theorem dX4_startsWithCommand_25 : decode cX4_startsWithCommand 25 = .ok (.invokevirtual 27, 3) := by decide +kernel
theorem dX4_startsWithCommand_28 : decode cX4_startsWithCommand 28 = .ok (.invokestatic 31, 3) := by decide +kernel
theorem dX4_startsWithCommand_31 : decode cX4_startsWithCommand 31 = .ok (.aload_n 1, 1) := by decide +kernel
theorem dX4_startsWithCommand_32 : decode cX4_startsWithCommand 32 = .ok (.iload_n 2, 1) := by decide +kernel
theorem dX4_startsWithCommand_33 : decode cX4_startsWithCommand 33 = .ok (.invokevirtual 35, 3) := by decide +kernel
theorem dX4_startsWithCommand_36 : decode cX4_startsWithCommand 36 = .ok (.if_icmp .eq 5, 3) := by decide +kernel
theorem dX4_startsWithCommand_39 : decode cX4_startsWithCommand 39 = .ok (.iconst 0, 1) := by decide +kernel
theorem dX4_startsWithCommand_40 : decode cX4_startsWithCommand 40 = .ok (.ireturn, 1) := by decide +kernel
theorem dX4_startsWithCommand_41 : decode cX4_startsWithCommand 41 = .ok (.iinc 2 1, 3) := by decide +kernel
theorem dX4_startsWithCommand_44 : decode cX4_startsWithCommand 44 = .ok (.goto (-29), 3) := by decide +kernel
theorem dX4_startsWithCommand_47 : decode cX4_startsWithCommand 47 = .ok (.iconst 1, 1) := by decide +kernel
theorem dX4_startsWithCommand_48 : decode cX4_startsWithCommand 48 = .ok (.ireturn, 1) := by decide +kernel
theorem dX4_endsWithItsSpace_0 : decode cX4_endsWithItsSpace 0 = .ok (.aload_n 0, 1) := by decide +kernel
theorem dX4_endsWithItsSpace_1 : decode cX4_endsWithItsSpace 1 = .ok (.getfield 15, 3) := by decide +kernel
theorem dX4_endsWithItsSpace_4 : decode cX4_endsWithItsSpace 4 = .ok (.aload_n 0, 1) := by decide +kernel
theorem dX4_endsWithItsSpace_5 : decode cX4_endsWithItsSpace 5 = .ok (.invokevirtual 19, 3) := by decide +kernel
theorem dX4_endsWithItsSpace_8 : decode cX4_endsWithItsSpace 8 = .ok (.iconst 1, 1) := by decide +kernel
theorem dX4_endsWithItsSpace_9 : decode cX4_endsWithItsSpace 9 = .ok (.iadd, 1) := by decide +kernel
theorem dX4_endsWithItsSpace_10 : decode cX4_endsWithItsSpace 10 = .ok (.if_icmp .ne 7, 3) := by decide +kernel
theorem dX4_endsWithItsSpace_13 : decode cX4_endsWithItsSpace 13 = .ok (.iconst 1, 1) := by decide +kernel
theorem dX4_endsWithItsSpace_14 : decode cX4_endsWithItsSpace 14 = .ok (.goto 4, 3) := by decide +kernel
theorem dX4_endsWithItsSpace_17 : decode cX4_endsWithItsSpace 17 = .ok (.iconst 0, 1) := by decide +kernel
theorem dX4_endsWithItsSpace_18 : decode cX4_endsWithItsSpace 18 = .ok (.ireturn, 1) := by decide +kernel
theorem dX4_hasArgument_0 : decode cX4_hasArgument 0 = .ok (.aload_n 0, 1) := by decide +kernel
theorem dX4_hasArgument_1 : decode cX4_hasArgument 1 = .ok (.invokevirtual 38, 3) := by decide +kernel
theorem dX4_hasArgument_4 : decode cX4_hasArgument 4 = .ok (.ifCond .le 7, 3) := by decide +kernel
theorem dX4_hasArgument_7 : decode cX4_hasArgument 7 = .ok (.iconst 1, 1) := by decide +kernel
theorem dX4_hasArgument_8 : decode cX4_hasArgument 8 = .ok (.goto 4, 3) := by decide +kernel
theorem dX4_hasArgument_11 : decode cX4_hasArgument 11 = .ok (.iconst 0, 1) := by decide +kernel
theorem dX4_hasArgument_12 : decode cX4_hasArgument 12 = .ok (.ireturn, 1) := by decide +kernel
theorem dX4_argumentStart_0 : decode cX4_argumentStart 0 = .ok (.aload_n 0, 1) := by decide +kernel
theorem dX4_argumentStart_1 : decode cX4_argumentStart 1 = .ok (.invokevirtual 19, 3) := by decide +kernel
theorem dX4_argumentStart_4 : decode cX4_argumentStart 4 = .ok (.iconst 1, 1) := by decide +kernel
theorem dX4_argumentStart_5 : decode cX4_argumentStart 5 = .ok (.iadd, 1) := by decide +kernel
theorem dX4_argumentStart_6 : decode cX4_argumentStart 6 = .ok (.ireturn, 1) := by decide +kernel
theorem dX4_argumentLength_0 : decode cX4_argumentLength 0 = .ok (.aload_n 0, 1) := by decide +kernel
theorem dX4_argumentLength_1 : decode cX4_argumentLength 1 = .ok (.getfield 15, 3) := by decide +kernel
theorem dX4_argumentLength_4 : decode cX4_argumentLength 4 = .ok (.aload_n 0, 1) := by decide +kernel
theorem dX4_argumentLength_5 : decode cX4_argumentLength 5 = .ok (.invokevirtual 41, 3) := by decide +kernel
theorem dX4_argumentLength_8 : decode cX4_argumentLength 8 = .ok (.isub, 1) := by decide +kernel
theorem dX4_argumentLength_9 : decode cX4_argumentLength 9 = .ok (.ireturn, 1) := by decide +kernel
theorem dX4_argumentName_0 : decode cX4_argumentName 0 = .ok (.aload_n 0, 1) := by decide +kernel
theorem dX4_argumentName_1 : decode cX4_argumentName 1 = .ok (.aload_n 0, 1) := by decide +kernel
theorem dX4_argumentName_2 : decode cX4_argumentName 2 = .ok (.invokevirtual 41, 3) := by decide +kernel
theorem dX4_argumentName_5 : decode cX4_argumentName 5 = .ok (.aload_n 0, 1) := by decide +kernel
theorem dX4_argumentName_6 : decode cX4_argumentName 6 = .ok (.getfield 15, 3) := by decide +kernel
theorem dX4_argumentName_9 : decode cX4_argumentName 9 = .ok (.invokestatic 44, 3) := by decide +kernel
theorem dX4_argumentName_12 : decode cX4_argumentName 12 = .ok (.invokestatic 50, 3) := by decide +kernel
theorem dX4_argumentName_15 : decode cX4_argumentName 15 = .ok (.lreturn, 1) := by decide +kernel
theorem dX4_argumentNumber_0 : decode cX4_argumentNumber 0 = .ok (.aload_n 0, 1) := by decide +kernel
theorem dX4_argumentNumber_1 : decode cX4_argumentNumber 1 = .ok (.aload_n 0, 1) := by decide +kernel
theorem dX4_argumentNumber_2 : decode cX4_argumentNumber 2 = .ok (.invokevirtual 41, 3) := by decide +kernel
theorem dX4_argumentNumber_5 : decode cX4_argumentNumber 5 = .ok (.aload_n 0, 1) := by decide +kernel
theorem dX4_argumentNumber_6 : decode cX4_argumentNumber 6 = .ok (.getfield 15, 3) := by decide +kernel
theorem dX4_argumentNumber_9 : decode cX4_argumentNumber 9 = .ok (.invokevirtual 54, 3) := by decide +kernel
theorem dX4_argumentNumber_12 : decode cX4_argumentNumber 12 = .ok (.ireturn, 1) := by decide +kernel
theorem dX4_argumentPort_0 : decode cX4_argumentPort 0 = .ok (.iconst 0, 1) := by decide +kernel
theorem dX4_argumentPort_1 : decode cX4_argumentPort 1 = .ok (.istore_n 1, 1) := by decide +kernel
theorem dX4_argumentPort_2 : decode cX4_argumentPort 2 = .ok (.iconst 0, 1) := by decide +kernel
theorem dX4_argumentPort_3 : decode cX4_argumentPort 3 = .ok (.istore_n 2, 1) := by decide +kernel
theorem dX4_argumentPort_4 : decode cX4_argumentPort 4 = .ok (.aload_n 0, 1) := by decide +kernel
theorem dX4_argumentPort_5 : decode cX4_argumentPort 5 = .ok (.invokevirtual 41, 3) := by decide +kernel
theorem dX4_argumentPort_8 : decode cX4_argumentPort 8 = .ok (.istore_n 3, 1) := by decide +kernel
theorem dX4_argumentPort_9 : decode cX4_argumentPort 9 = .ok (.iload_n 3, 1) := by decide +kernel
theorem dX4_argumentPort_10 : decode cX4_argumentPort 10 = .ok (.istore 4, 2) := by decide +kernel
theorem dX4_argumentPort_12 : decode cX4_argumentPort 12 = .ok (.iload 4, 2) := by decide +kernel
theorem dX4_argumentPort_14 : decode cX4_argumentPort 14 = .ok (.aload_n 0, 1) := by decide +kernel
theorem dX4_argumentPort_15 : decode cX4_argumentPort 15 = .ok (.getfield 15, 3) := by decide +kernel
theorem dX4_argumentPort_18 : decode cX4_argumentPort 18 = .ok (.if_icmp .gt 73, 3) := by decide +kernel
theorem dX4_argumentPort_21 : decode cX4_argumentPort 21 = .ok (.iload 4, 2) := by decide +kernel
theorem dX4_argumentPort_23 : decode cX4_argumentPort 23 = .ok (.aload_n 0, 1) := by decide +kernel
theorem dX4_argumentPort_24 : decode cX4_argumentPort 24 = .ok (.getfield 15, 3) := by decide +kernel
theorem dX4_argumentPort_27 : decode cX4_argumentPort 27 = .ok (.if_icmp .eq 14, 3) := by decide +kernel
theorem dX4_argumentPort_30 : decode cX4_argumentPort 30 = .ok (.aload_n 0, 1) := by decide +kernel
theorem dX4_argumentPort_31 : decode cX4_argumentPort 31 = .ok (.iload 4, 2) := by decide +kernel
theorem dX4_argumentPort_33 : decode cX4_argumentPort 33 = .ok (.invokevirtual 27, 3) := by decide +kernel
theorem dX4_argumentPort_36 : decode cX4_argumentPort 36 = .ok (.bipush 44, 2) := by decide +kernel
theorem dX4_argumentPort_38 : decode cX4_argumentPort 38 = .ok (.if_icmp .ne 47, 3) := by decide +kernel
theorem dX4_argumentPort_41 : decode cX4_argumentPort 41 = .ok (.aload_n 0, 1) := by decide +kernel
theorem dX4_argumentPort_42 : decode cX4_argumentPort 42 = .ok (.iload_n 3, 1) := by decide +kernel
theorem dX4_argumentPort_43 : decode cX4_argumentPort 43 = .ok (.iload 4, 2) := by decide +kernel
theorem dX4_argumentPort_45 : decode cX4_argumentPort 45 = .ok (.invokevirtual 54, 3) := by decide +kernel
theorem dX4_argumentPort_48 : decode cX4_argumentPort 48 = .ok (.istore 5, 2) := by decide +kernel
theorem dX4_argumentPort_50 : decode cX4_argumentPort 50 = .ok (.iload 5, 2) := by decide +kernel
theorem dX4_argumentPort_52 : decode cX4_argumentPort 52 = .ok (.iconst (-1), 1) := by decide +kernel
theorem dX4_argumentPort_53 : decode cX4_argumentPort 53 = .ok (.if_icmp .eq 11, 3) := by decide +kernel
theorem dX4_argumentPort_56 : decode cX4_argumentPort 56 = .ok (.iload 5, 2) := by decide +kernel
theorem dX4_argumentPort_58 : decode cX4_argumentPort 58 = .ok (.sipush 255, 3) := by decide +kernel
theorem dX4_argumentPort_61 : decode cX4_argumentPort 61 = .ok (.if_icmp .le 5, 3) := by decide +kernel
theorem dX4_argumentPort_64 : decode cX4_argumentPort 64 = .ok (.iconst (-1), 1) := by decide +kernel
theorem dX4_argumentPort_65 : decode cX4_argumentPort 65 = .ok (.ireturn, 1) := by decide +kernel
theorem dX4_argumentPort_66 : decode cX4_argumentPort 66 = .ok (.iload_n 1, 1) := by decide +kernel
theorem dX4_argumentPort_67 : decode cX4_argumentPort 67 = .ok (.bipush 8, 2) := by decide +kernel
theorem dX4_argumentPort_69 : decode cX4_argumentPort 69 = .ok (.ishl, 1) := by decide +kernel
theorem dX4_argumentPort_70 : decode cX4_argumentPort 70 = .ok (.iload 5, 2) := by decide +kernel
theorem dX4_argumentPort_72 : decode cX4_argumentPort 72 = .ok (.ior, 1) := by decide +kernel
theorem dX4_argumentPort_73 : decode cX4_argumentPort 73 = .ok (.ldc 58, 2) := by decide +kernel
theorem dX4_argumentPort_75 : decode cX4_argumentPort 75 = .ok (.iand, 1) := by decide +kernel
theorem dX4_argumentPort_76 : decode cX4_argumentPort 76 = .ok (.istore_n 1, 1) := by decide +kernel
theorem dX4_argumentPort_77 : decode cX4_argumentPort 77 = .ok (.iinc 2 1, 3) := by decide +kernel
theorem dX4_argumentPort_80 : decode cX4_argumentPort 80 = .ok (.iload 4, 2) := by decide +kernel
theorem dX4_argumentPort_82 : decode cX4_argumentPort 82 = .ok (.iconst 1, 1) := by decide +kernel
theorem dX4_argumentPort_83 : decode cX4_argumentPort 83 = .ok (.iadd, 1) := by decide +kernel
theorem dX4_argumentPort_84 : decode cX4_argumentPort 84 = .ok (.istore_n 3, 1) := by decide +kernel
theorem dX4_argumentPort_85 : decode cX4_argumentPort 85 = .ok (.iinc 4 1, 3) := by decide +kernel
theorem dX4_argumentPort_88 : decode cX4_argumentPort 88 = .ok (.goto (-76), 3) := by decide +kernel
theorem dX4_argumentPort_91 : decode cX4_argumentPort 91 = .ok (.iload_n 2, 1) := by decide +kernel
theorem dX4_argumentPort_92 : decode cX4_argumentPort 92 = .ok (.bipush 6, 2) := by decide +kernel
theorem dX4_argumentPort_94 : decode cX4_argumentPort 94 = .ok (.if_icmp .ne 7, 3) := by decide +kernel
theorem dX4_argumentPort_97 : decode cX4_argumentPort 97 = .ok (.iload_n 1, 1) := by decide +kernel
theorem dX4_argumentPort_98 : decode cX4_argumentPort 98 = .ok (.goto 4, 3) := by decide +kernel
theorem dX4_argumentPort_101 : decode cX4_argumentPort 101 = .ok (.iconst (-1), 1) := by decide +kernel
theorem dX4_argumentPort_102 : decode cX4_argumentPort 102 = .ok (.ireturn, 1) := by decide +kernel
theorem dX4_capital_0 : decode cX4_capital 0 = .ok (.iload_n 0, 1) := by decide +kernel
theorem dX4_capital_1 : decode cX4_capital 1 = .ok (.bipush 97, 2) := by decide +kernel
theorem dX4_capital_3 : decode cX4_capital 3 = .ok (.if_icmp .lt 17, 3) := by decide +kernel
theorem dX4_capital_6 : decode cX4_capital 6 = .ok (.iload_n 0, 1) := by decide +kernel
theorem dX4_capital_7 : decode cX4_capital 7 = .ok (.bipush 122, 2) := by decide +kernel
theorem dX4_capital_9 : decode cX4_capital 9 = .ok (.if_icmp .gt 11, 3) := by decide +kernel
theorem dX4_capital_12 : decode cX4_capital 12 = .ok (.iload_n 0, 1) := by decide +kernel
theorem dX4_capital_13 : decode cX4_capital 13 = .ok (.bipush 32, 2) := by decide +kernel
theorem dX4_capital_15 : decode cX4_capital 15 = .ok (.isub, 1) := by decide +kernel
theorem dX4_capital_16 : decode cX4_capital 16 = .ok (.i2c, 1) := by decide +kernel
theorem dX4_capital_17 : decode cX4_capital 17 = .ok (.goto 4, 3) := by decide +kernel
theorem dX4_capital_20 : decode cX4_capital 20 = .ok (.iload_n 0, 1) := by decide +kernel
theorem dX4_capital_21 : decode cX4_capital 21 = .ok (.ireturn, 1) := by decide +kernel
theorem dX4_commandLength_0 : decode cX4_commandLength 0 = .ok (.iconst 0, 1) := by decide +kernel
theorem dX4_commandLength_1 : decode cX4_commandLength 1 = .ok (.istore_n 1, 1) := by decide +kernel
theorem dX4_commandLength_2 : decode cX4_commandLength 2 = .ok (.iload_n 1, 1) := by decide +kernel
theorem dX4_commandLength_3 : decode cX4_commandLength 3 = .ok (.aload_n 0, 1) := by decide +kernel
theorem dX4_commandLength_4 : decode cX4_commandLength 4 = .ok (.getfield 15, 3) := by decide +kernel
theorem dX4_commandLength_7 : decode cX4_commandLength 7 = .ok (.if_icmp .ge 31, 3) := by decide +kernel
theorem dX4_commandLength_10 : decode cX4_commandLength 10 = .ok (.iload_n 1, 1) := by decide +kernel
theorem dX4_commandLength_11 : decode cX4_commandLength 11 = .ok (.aload_n 0, 1) := by decide +kernel
theorem dX4_commandLength_12 : decode cX4_commandLength 12 = .ok (.getfield 9, 3) := by decide +kernel
theorem dX4_commandLength_15 : decode cX4_commandLength 15 = .ok (.arraylength, 1) := by decide +kernel
theorem dX4_commandLength_16 : decode cX4_commandLength 16 = .ok (.if_icmp .ge 22, 3) := by decide +kernel
theorem dX4_commandLength_19 : decode cX4_commandLength 19 = .ok (.aload_n 0, 1) := by decide +kernel
theorem dX4_commandLength_20 : decode cX4_commandLength 20 = .ok (.getfield 9, 3) := by decide +kernel
theorem dX4_commandLength_23 : decode cX4_commandLength 23 = .ok (.iload_n 1, 1) := by decide +kernel
theorem dX4_commandLength_24 : decode cX4_commandLength 24 = .ok (.caload, 1) := by decide +kernel
theorem dX4_commandLength_25 : decode cX4_commandLength 25 = .ok (.bipush 32, 2) := by decide +kernel
theorem dX4_commandLength_27 : decode cX4_commandLength 27 = .ok (.if_icmp .ne 5, 3) := by decide +kernel
theorem dX4_commandLength_30 : decode cX4_commandLength 30 = .ok (.iload_n 1, 1) := by decide +kernel
theorem dX4_commandLength_31 : decode cX4_commandLength 31 = .ok (.ireturn, 1) := by decide +kernel
theorem dX4_commandLength_32 : decode cX4_commandLength 32 = .ok (.iinc 1 1, 3) := by decide +kernel
theorem dX4_commandLength_35 : decode cX4_commandLength 35 = .ok (.goto (-33), 3) := by decide +kernel
theorem dX4_commandLength_38 : decode cX4_commandLength 38 = .ok (.aload_n 0, 1) := by decide +kernel
theorem dX4_commandLength_39 : decode cX4_commandLength 39 = .ok (.getfield 15, 3) := by decide +kernel
theorem dX4_commandLength_42 : decode cX4_commandLength 42 = .ok (.ireturn, 1) := by decide +kernel
theorem dX4_number_0 : decode cX4_number 0 = .ok (.iload_n 1, 1) := by decide +kernel
theorem dX4_number_1 : decode cX4_number 1 = .ok (.iload_n 2, 1) := by decide +kernel
theorem dX4_number_2 : decode cX4_number 2 = .ok (.if_icmp .ge 10, 3) := by decide +kernel
theorem dX4_number_5 : decode cX4_number 5 = .ok (.iload_n 2, 1) := by decide +kernel
theorem dX4_number_6 : decode cX4_number 6 = .ok (.iload_n 1, 1) := by decide +kernel
theorem dX4_number_7 : decode cX4_number 7 = .ok (.isub, 1) := by decide +kernel
theorem dX4_number_8 : decode cX4_number 8 = .ok (.iconst 3, 1) := by decide +kernel
theorem dX4_number_9 : decode cX4_number 9 = .ok (.if_icmp .le 5, 3) := by decide +kernel
theorem dX4_number_12 : decode cX4_number 12 = .ok (.iconst (-1), 1) := by decide +kernel
theorem dX4_number_13 : decode cX4_number 13 = .ok (.ireturn, 1) := by decide +kernel
theorem dX4_number_14 : decode cX4_number 14 = .ok (.iconst 0, 1) := by decide +kernel
theorem dX4_number_15 : decode cX4_number 15 = .ok (.istore_n 3, 1) := by decide +kernel
theorem dX4_number_16 : decode cX4_number 16 = .ok (.iload_n 1, 1) := by decide +kernel
theorem dX4_number_17 : decode cX4_number 17 = .ok (.istore 4, 2) := by decide +kernel
theorem dX4_number_19 : decode cX4_number 19 = .ok (.iload 4, 2) := by decide +kernel
theorem dX4_number_21 : decode cX4_number 21 = .ok (.iload_n 2, 1) := by decide +kernel
theorem dX4_number_22 : decode cX4_number 22 = .ok (.if_icmp .ge 44, 3) := by decide +kernel
theorem dX4_number_25 : decode cX4_number 25 = .ok (.aload_n 0, 1) := by decide +kernel
theorem dX4_number_26 : decode cX4_number 26 = .ok (.iload 4, 2) := by decide +kernel
theorem dX4_number_28 : decode cX4_number 28 = .ok (.invokevirtual 27, 3) := by decide +kernel
theorem dX4_number_31 : decode cX4_number 31 = .ok (.istore 5, 2) := by decide +kernel
theorem dX4_number_33 : decode cX4_number 33 = .ok (.iload 5, 2) := by decide +kernel
theorem dX4_number_35 : decode cX4_number 35 = .ok (.bipush 48, 2) := by decide +kernel
theorem dX4_number_37 : decode cX4_number 37 = .ok (.if_icmp .lt 10, 3) := by decide +kernel
theorem dX4_number_40 : decode cX4_number 40 = .ok (.iload 5, 2) := by decide +kernel
theorem dX4_number_42 : decode cX4_number 42 = .ok (.bipush 57, 2) := by decide +kernel
theorem dX4_number_44 : decode cX4_number 44 = .ok (.if_icmp .le 5, 3) := by decide +kernel
theorem dX4_number_47 : decode cX4_number 47 = .ok (.iconst (-1), 1) := by decide +kernel
theorem dX4_number_48 : decode cX4_number 48 = .ok (.ireturn, 1) := by decide +kernel
theorem dX4_number_49 : decode cX4_number 49 = .ok (.iload_n 3, 1) := by decide +kernel
theorem dX4_number_50 : decode cX4_number 50 = .ok (.bipush 10, 2) := by decide +kernel
theorem dX4_number_52 : decode cX4_number 52 = .ok (.imul, 1) := by decide +kernel
theorem dX4_number_53 : decode cX4_number 53 = .ok (.iload 5, 2) := by decide +kernel
theorem dX4_number_55 : decode cX4_number 55 = .ok (.iadd, 1) := by decide +kernel
theorem dX4_number_56 : decode cX4_number 56 = .ok (.bipush 48, 2) := by decide +kernel
theorem dX4_number_58 : decode cX4_number 58 = .ok (.isub, 1) := by decide +kernel
theorem dX4_number_59 : decode cX4_number 59 = .ok (.istore_n 3, 1) := by decide +kernel
theorem dX4_number_60 : decode cX4_number 60 = .ok (.iinc 4 1, 3) := by decide +kernel
theorem dX4_number_63 : decode cX4_number 63 = .ok (.goto (-44), 3) := by decide +kernel
theorem dX4_number_66 : decode cX4_number 66 = .ok (.iload_n 3, 1) := by decide +kernel
theorem dX4_number_67 : decode cX4_number 67 = .ok (.ireturn, 1) := by decide +kernel
theorem dX5_init_0 : decode cX5_init 0 = .ok (.aload_n 0, 1) := by decide +kernel
theorem dX5_init_1 : decode cX5_init 1 = .ok (.invokespecial 1, 3) := by decide +kernel
theorem dX5_init_4 : decode cX5_init 4 = .ok (.aload_n 0, 1) := by decide +kernel
theorem dX5_init_5 : decode cX5_init 5 = .ok (.iconst 0, 1) := by decide +kernel
theorem dX5_init_6 : decode cX5_init 6 = .ok (.putfield 7, 3) := by decide +kernel
theorem dX5_init_9 : decode cX5_init 9 = .ok (.aload_n 0, 1) := by decide +kernel
theorem dX5_init_10 : decode cX5_init 10 = .ok (.lconst 0, 1) := by decide +kernel
theorem dX5_init_11 : decode cX5_init 11 = .ok (.putfield 15, 3) := by decide +kernel
theorem dX5_init_14 : decode cX5_init 14 = .ok (.aload_n 0, 1) := by decide +kernel
theorem dX5_init_15 : decode cX5_init 15 = .ok (.aconst_null, 1) := by decide +kernel
theorem dX5_init_16 : decode cX5_init 16 = .ok (.putfield 19, 3) := by decide +kernel
theorem dX5_init_19 : decode cX5_init 19 = .ok (.return_, 1) := by decide +kernel
theorem dX5_takeOver_0 : decode cX5_takeOver 0 = .ok (.aload_n 0, 1) := by decide +kernel
theorem dX5_takeOver_1 : decode cX5_takeOver 1 = .ok (.aload_n 1, 1) := by decide +kernel
theorem dX5_takeOver_2 : decode cX5_takeOver 2 = .ok (.getfield 7, 3) := by decide +kernel
theorem dX5_takeOver_5 : decode cX5_takeOver 5 = .ok (.putfield 7, 3) := by decide +kernel
theorem dX5_takeOver_8 : decode cX5_takeOver 8 = .ok (.aload_n 0, 1) := by decide +kernel
theorem dX5_takeOver_9 : decode cX5_takeOver 9 = .ok (.aload_n 1, 1) := by decide +kernel
theorem dX5_takeOver_10 : decode cX5_takeOver 10 = .ok (.getfield 15, 3) := by decide +kernel
theorem dX5_takeOver_13 : decode cX5_takeOver 13 = .ok (.putfield 15, 3) := by decide +kernel
theorem dX5_takeOver_16 : decode cX5_takeOver 16 = .ok (.aload_n 0, 1) := by decide +kernel
theorem dX5_takeOver_17 : decode cX5_takeOver 17 = .ok (.aload_n 1, 1) := by decide +kernel
theorem dX5_takeOver_18 : decode cX5_takeOver 18 = .ok (.getfield 19, 3) := by decide +kernel
theorem dX5_takeOver_21 : decode cX5_takeOver 21 = .ok (.putfield 19, 3) := by decide +kernel
theorem dX5_takeOver_24 : decode cX5_takeOver 24 = .ok (.aload_n 1, 1) := by decide +kernel
theorem dX5_takeOver_25 : decode cX5_takeOver 25 = .ok (.invokevirtual 23, 3) := by decide +kernel
theorem dX5_takeOver_28 : decode cX5_takeOver 28 = .ok (.return_, 1) := by decide +kernel
theorem dX5_clear_0 : decode cX5_clear 0 = .ok (.aload_n 0, 1) := by decide +kernel
theorem dX5_clear_1 : decode cX5_clear 1 = .ok (.iconst 0, 1) := by decide +kernel
theorem dX5_clear_2 : decode cX5_clear 2 = .ok (.putfield 7, 3) := by decide +kernel
theorem dX5_clear_5 : decode cX5_clear 5 = .ok (.aload_n 0, 1) := by decide +kernel
theorem dX5_clear_6 : decode cX5_clear 6 = .ok (.lconst 0, 1) := by decide +kernel
theorem dX5_clear_7 : decode cX5_clear 7 = .ok (.putfield 15, 3) := by decide +kernel
theorem dX5_clear_10 : decode cX5_clear 10 = .ok (.aload_n 0, 1) := by decide +kernel
theorem dX5_clear_11 : decode cX5_clear 11 = .ok (.aconst_null, 1) := by decide +kernel
theorem dX5_clear_12 : decode cX5_clear 12 = .ok (.putfield 19, 3) := by decide +kernel
theorem dX5_clear_15 : decode cX5_clear 15 = .ok (.return_, 1) := by decide +kernel
theorem dX6_init_0 : decode cX6_init 0 = .ok (.aload_n 0, 1) := by decide +kernel
theorem dX6_init_1 : decode cX6_init 1 = .ok (.invokespecial 1, 3) := by decide +kernel
theorem dX6_init_4 : decode cX6_init 4 = .ok (.aload_n 0, 1) := by decide +kernel
theorem dX6_init_5 : decode cX6_init 5 = .ok (.sipush 168, 3) := by decide +kernel
theorem dX6_init_8 : decode cX6_init 8 = .ok (.newarray .char, 2) := by decide +kernel
theorem dX6_init_10 : decode cX6_init 10 = .ok (.putfield 11, 3) := by decide +kernel
theorem dX6_init_13 : decode cX6_init 13 = .ok (.aload_n 0, 1) := by decide +kernel
theorem dX6_init_14 : decode cX6_init 14 = .ok (.aload_n 0, 1) := by decide +kernel
theorem dX6_init_15 : decode cX6_init 15 = .ok (.getfield 11, 3) := by decide +kernel
theorem dX6_init_18 : decode cX6_init 18 = .ok (.arraylength, 1) := by decide +kernel
theorem dX6_init_19 : decode cX6_init 19 = .ok (.putfield 17, 3) := by decide +kernel
theorem dX6_init_22 : decode cX6_init 22 = .ok (.return_, 1) := by decide +kernel
theorem dX6_at_0 : decode cX6_at 0 = .ok (.iload_n 1, 1) := by decide +kernel
theorem dX6_at_1 : decode cX6_at 1 = .ok (.ifCond .lt 31, 3) := by decide +kernel
theorem dX6_at_4 : decode cX6_at 4 = .ok (.iload_n 1, 1) := by decide +kernel
theorem dX6_at_5 : decode cX6_at 5 = .ok (.aload_n 0, 1) := by decide +kernel
theorem dX6_at_6 : decode cX6_at 6 = .ok (.getfield 11, 3) := by decide +kernel
theorem dX6_at_9 : decode cX6_at 9 = .ok (.arraylength, 1) := by decide +kernel
theorem dX6_at_10 : decode cX6_at 10 = .ok (.aload_n 0, 1) := by decide +kernel
theorem dX6_at_11 : decode cX6_at 11 = .ok (.getfield 17, 3) := by decide +kernel
theorem dX6_at_14 : decode cX6_at 14 = .ok (.isub, 1) := by decide +kernel
theorem dX6_at_15 : decode cX6_at 15 = .ok (.if_icmp .ge 17, 3) := by decide +kernel
theorem dX6_at_18 : decode cX6_at 18 = .ok (.aload_n 0, 1) := by decide +kernel
theorem dX6_at_19 : decode cX6_at 19 = .ok (.getfield 11, 3) := by decide +kernel
theorem dX6_at_22 : decode cX6_at 22 = .ok (.aload_n 0, 1) := by decide +kernel
theorem dX6_at_23 : decode cX6_at 23 = .ok (.getfield 17, 3) := by decide +kernel
theorem dX6_at_26 : decode cX6_at 26 = .ok (.iload_n 1, 1) := by decide +kernel
theorem dX6_at_27 : decode cX6_at 27 = .ok (.iadd, 1) := by decide +kernel
theorem dX6_at_28 : decode cX6_at 28 = .ok (.caload, 1) := by decide +kernel
theorem dX6_at_29 : decode cX6_at 29 = .ok (.goto 4, 3) := by decide +kernel
theorem dX6_at_32 : decode cX6_at 32 = .ok (.iconst 0, 1) := by decide +kernel
theorem dX6_at_33 : decode cX6_at 33 = .ok (.ireturn, 1) := by decide +kernel
theorem dX6_spellPath_0 : decode cX6_spellPath 0 = .ok (.aload_n 0, 1) := by decide +kernel
theorem dX6_spellPath_1 : decode cX6_spellPath 1 = .ok (.aload_n 0, 1) := by decide +kernel
theorem dX6_spellPath_2 : decode cX6_spellPath 2 = .ok (.getfield 11, 3) := by decide +kernel
theorem dX6_spellPath_5 : decode cX6_spellPath 5 = .ok (.arraylength, 1) := by decide +kernel
theorem dX6_spellPath_6 : decode cX6_spellPath 6 = .ok (.putfield 17, 3) := by decide +kernel
theorem dX6_spellPath_9 : decode cX6_spellPath 9 = .ok (.aload_n 1, 1) := by decide +kernel
theorem dX6_spellPath_10 : decode cX6_spellPath 10 = .ok (.astore_n 2, 1) := by decide +kernel
theorem dX6_spellPath_11 : decode cX6_spellPath 11 = .ok (.iconst 0, 1) := by decide +kernel
theorem dX6_spellPath_12 : decode cX6_spellPath 12 = .ok (.istore_n 3, 1) := by decide +kernel
theorem dX6_spellPath_13 : decode cX6_spellPath 13 = .ok (.iload_n 3, 1) := by decide +kernel
theorem dX6_spellPath_14 : decode cX6_spellPath 14 = .ok (.bipush 24, 2) := by decide +kernel
theorem dX6_spellPath_16 : decode cX6_spellPath 16 = .ok (.if_icmp .ge 39, 3) := by decide +kernel
theorem dX6_spellPath_19 : decode cX6_spellPath 19 = .ok (.aload_n 2, 1) := by decide +kernel
theorem dX6_spellPath_20 : decode cX6_spellPath 20 = .ok (.ifnull 35, 3) := by decide +kernel
theorem dX6_spellPath_23 : decode cX6_spellPath 23 = .ok (.aload_n 2, 1) := by decide +kernel
theorem dX6_spellPath_24 : decode cX6_spellPath 24 = .ok (.getfield 21, 3) := by decide +kernel
theorem dX6_spellPath_27 : decode cX6_spellPath 27 = .ok (.ifnull 28, 3) := by decide +kernel
theorem dX6_spellPath_30 : decode cX6_spellPath 30 = .ok (.aload_n 0, 1) := by decide +kernel
theorem dX6_spellPath_31 : decode cX6_spellPath 31 = .ok (.aload_n 2, 1) := by decide +kernel
theorem dX6_spellPath_32 : decode cX6_spellPath 32 = .ok (.getfield 27, 3) := by decide +kernel
theorem dX6_spellPath_35 : decode cX6_spellPath 35 = .ok (.invokevirtual 31, 3) := by decide +kernel
theorem dX6_spellPath_38 : decode cX6_spellPath 38 = .ok (.aload_n 0, 1) := by decide +kernel
theorem dX6_spellPath_39 : decode cX6_spellPath 39 = .ok (.bipush 47, 2) := by decide +kernel
theorem dX6_spellPath_41 : decode cX6_spellPath 41 = .ok (.invokevirtual 35, 3) := by decide +kernel
theorem dX6_spellPath_44 : decode cX6_spellPath 44 = .ok (.aload_n 2, 1) := by decide +kernel
theorem dX6_spellPath_45 : decode cX6_spellPath 45 = .ok (.getfield 21, 3) := by decide +kernel
theorem dX6_spellPath_48 : decode cX6_spellPath 48 = .ok (.astore_n 2, 1) := by decide +kernel
theorem dX6_spellPath_49 : decode cX6_spellPath 49 = .ok (.iinc 3 1, 3) := by decide +kernel
theorem dX6_spellPath_52 : decode cX6_spellPath 52 = .ok (.goto (-39), 3) := by decide +kernel
theorem dX6_spellPath_55 : decode cX6_spellPath 55 = .ok (.aload_n 0, 1) := by decide +kernel
theorem dX6_spellPath_56 : decode cX6_spellPath 56 = .ok (.getfield 17, 3) := by decide +kernel
theorem dX6_spellPath_59 : decode cX6_spellPath 59 = .ok (.aload_n 0, 1) := by decide +kernel
theorem dX6_spellPath_60 : decode cX6_spellPath 60 = .ok (.getfield 11, 3) := by decide +kernel
theorem dX6_spellPath_63 : decode cX6_spellPath 63 = .ok (.arraylength, 1) := by decide +kernel
theorem dX6_spellPath_64 : decode cX6_spellPath 64 = .ok (.if_icmp .ne 9, 3) := by decide +kernel
theorem dX6_spellPath_67 : decode cX6_spellPath 67 = .ok (.aload_n 0, 1) := by decide +kernel
theorem dX6_spellPath_68 : decode cX6_spellPath 68 = .ok (.bipush 47, 2) := by decide +kernel
theorem dX6_spellPath_70 : decode cX6_spellPath 70 = .ok (.invokevirtual 35, 3) := by decide +kernel
theorem dX6_spellPath_73 : decode cX6_spellPath 73 = .ok (.return_, 1) := by decide +kernel
theorem dX6_spellNumber_0 : decode cX6_spellNumber 0 = .ok (.aload_n 0, 1) := by decide +kernel
theorem dX6_spellNumber_1 : decode cX6_spellNumber 1 = .ok (.aload_n 0, 1) := by decide +kernel
theorem dX6_spellNumber_2 : decode cX6_spellNumber 2 = .ok (.getfield 11, 3) := by decide +kernel
theorem dX6_spellNumber_5 : decode cX6_spellNumber 5 = .ok (.arraylength, 1) := by decide +kernel
theorem dX6_spellNumber_6 : decode cX6_spellNumber 6 = .ok (.putfield 17, 3) := by decide +kernel
theorem dX6_spellNumber_9 : decode cX6_spellNumber 9 = .ok (.iload_n 1, 1) := by decide +kernel
theorem dX6_spellNumber_10 : decode cX6_spellNumber 10 = .ok (.bipush 10, 2) := by decide +kernel
theorem dX6_spellNumber_12 : decode cX6_spellNumber 12 = .ok (.if_icmp .lt 30, 3) := by decide +kernel
theorem dX6_spellNumber_15 : decode cX6_spellNumber 15 = .ok (.aload_n 0, 1) := by decide +kernel
theorem dX6_spellNumber_16 : decode cX6_spellNumber 16 = .ok (.bipush 48, 2) := by decide +kernel
theorem dX6_spellNumber_18 : decode cX6_spellNumber 18 = .ok (.iload_n 1, 1) := by decide +kernel
theorem dX6_spellNumber_19 : decode cX6_spellNumber 19 = .ok (.bipush 10, 2) := by decide +kernel
theorem dX6_spellNumber_21 : decode cX6_spellNumber 21 = .ok (.irem, 1) := by decide +kernel
theorem dX6_spellNumber_22 : decode cX6_spellNumber 22 = .ok (.iadd, 1) := by decide +kernel
theorem dX6_spellNumber_23 : decode cX6_spellNumber 23 = .ok (.i2c, 1) := by decide +kernel
theorem dX6_spellNumber_24 : decode cX6_spellNumber 24 = .ok (.invokevirtual 35, 3) := by decide +kernel
theorem dX6_spellNumber_27 : decode cX6_spellNumber 27 = .ok (.aload_n 0, 1) := by decide +kernel
theorem dX6_spellNumber_28 : decode cX6_spellNumber 28 = .ok (.bipush 48, 2) := by decide +kernel
theorem dX6_spellNumber_30 : decode cX6_spellNumber 30 = .ok (.iload_n 1, 1) := by decide +kernel
theorem dX6_spellNumber_31 : decode cX6_spellNumber 31 = .ok (.bipush 10, 2) := by decide +kernel
theorem dX6_spellNumber_33 : decode cX6_spellNumber 33 = .ok (.idiv, 1) := by decide +kernel
theorem dX6_spellNumber_34 : decode cX6_spellNumber 34 = .ok (.iadd, 1) := by decide +kernel
theorem dX6_spellNumber_35 : decode cX6_spellNumber 35 = .ok (.i2c, 1) := by decide +kernel
theorem dX6_spellNumber_36 : decode cX6_spellNumber 36 = .ok (.invokevirtual 35, 3) := by decide +kernel
theorem dX6_spellNumber_39 : decode cX6_spellNumber 39 = .ok (.goto 12, 3) := by decide +kernel
theorem dX6_spellNumber_42 : decode cX6_spellNumber 42 = .ok (.aload_n 0, 1) := by decide +kernel
theorem dX6_spellNumber_43 : decode cX6_spellNumber 43 = .ok (.bipush 48, 2) := by decide +kernel
theorem dX6_spellNumber_45 : decode cX6_spellNumber 45 = .ok (.iload_n 1, 1) := by decide +kernel
theorem dX6_spellNumber_46 : decode cX6_spellNumber 46 = .ok (.iadd, 1) := by decide +kernel
theorem dX6_spellNumber_47 : decode cX6_spellNumber 47 = .ok (.i2c, 1) := by decide +kernel
theorem dX6_spellNumber_48 : decode cX6_spellNumber 48 = .ok (.invokevirtual 35, 3) := by decide +kernel
theorem dX6_spellNumber_51 : decode cX6_spellNumber 51 = .ok (.return_, 1) := by decide +kernel
theorem dX6_putName_0 : decode cX6_putName 0 = .ok (.iconst 5, 1) := by decide +kernel
theorem dX6_putName_1 : decode cX6_putName 1 = .ok (.istore_n 3, 1) := by decide +kernel
theorem dX6_putName_2 : decode cX6_putName 2 = .ok (.iload_n 3, 1) := by decide +kernel
theorem dX6_putName_3 : decode cX6_putName 3 = .ok (.ifCond .lt 28, 3) := by decide +kernel
theorem dX6_putName_6 : decode cX6_putName 6 = .ok (.lload_n 1, 1) := by decide +kernel
theorem dX6_putName_7 : decode cX6_putName 7 = .ok (.iload_n 3, 1) := by decide +kernel
theorem dX6_putName_8 : decode cX6_putName 8 = .ok (.invokestatic 39, 3) := by decide +kernel
theorem dX6_putName_11 : decode cX6_putName 11 = .ok (.istore 4, 2) := by decide +kernel
theorem dX6_putName_13 : decode cX6_putName 13 = .ok (.iload 4, 2) := by decide +kernel
theorem dX6_putName_15 : decode cX6_putName 15 = .ok (.ifCond .eq 10, 3) := by decide +kernel
theorem dX6_putName_18 : decode cX6_putName 18 = .ok (.aload_n 0, 1) := by decide +kernel
theorem dX6_putName_19 : decode cX6_putName 19 = .ok (.iload 4, 2) := by decide +kernel
theorem dX6_putName_21 : decode cX6_putName 21 = .ok (.i2c, 1) := by decide +kernel
theorem dX6_putName_22 : decode cX6_putName 22 = .ok (.invokevirtual 35, 3) := by decide +kernel
theorem dX6_putName_25 : decode cX6_putName 25 = .ok (.iinc 3 (-1), 3) := by decide +kernel
theorem dX6_putName_28 : decode cX6_putName 28 = .ok (.goto (-26), 3) := by decide +kernel
theorem dX6_putName_31 : decode cX6_putName 31 = .ok (.return_, 1) := by decide +kernel
theorem dX6_putBefore_0 : decode cX6_putBefore 0 = .ok (.aload_n 0, 1) := by decide +kernel
theorem dX6_putBefore_1 : decode cX6_putBefore 1 = .ok (.getfield 17, 3) := by decide +kernel
theorem dX6_putBefore_4 : decode cX6_putBefore 4 = .ok (.ifCond .le 23, 3) := by decide +kernel
theorem dX6_putBefore_7 : decode cX6_putBefore 7 = .ok (.aload_n 0, 1) := by decide +kernel
theorem dX6_putBefore_8 : decode cX6_putBefore 8 = .ok (.dup, 1) := by decide +kernel
theorem dX6_putBefore_9 : decode cX6_putBefore 9 = .ok (.getfield 17, 3) := by decide +kernel
theorem dX6_putBefore_12 : decode cX6_putBefore 12 = .ok (.iconst 1, 1) := by decide +kernel
theorem dX6_putBefore_13 : decode cX6_putBefore 13 = .ok (.isub, 1) := by decide +kernel
theorem dX6_putBefore_14 : decode cX6_putBefore 14 = .ok (.putfield 17, 3) := by decide +kernel
theorem dX6_putBefore_17 : decode cX6_putBefore 17 = .ok (.aload_n 0, 1) := by decide +kernel
theorem dX6_putBefore_18 : decode cX6_putBefore 18 = .ok (.getfield 11, 3) := by decide +kernel
theorem dX6_putBefore_21 : decode cX6_putBefore 21 = .ok (.aload_n 0, 1) := by decide +kernel
theorem dX6_putBefore_22 : decode cX6_putBefore 22 = .ok (.getfield 17, 3) := by decide +kernel
theorem dX6_putBefore_25 : decode cX6_putBefore 25 = .ok (.iload_n 1, 1) := by decide +kernel
theorem dX6_putBefore_26 : decode cX6_putBefore 26 = .ok (.castore, 1) := by decide +kernel
theorem dX6_putBefore_27 : decode cX6_putBefore 27 = .ok (.return_, 1) := by decide +kernel
theorem dX7_partOfWord_0 : decode cX7_partOfWord 0 = .ok (.lconst 0, 1) := by decide +kernel
theorem dX7_partOfWord_1 : decode cX7_partOfWord 1 = .ok (.lstore_n 2, 1) := by decide +kernel
theorem dX7_partOfWord_2 : decode cX7_partOfWord 2 = .ok (.iconst 0, 1) := by decide +kernel
theorem dX7_partOfWord_3 : decode cX7_partOfWord 3 = .ok (.istore 4, 2) := by decide +kernel
theorem dX7_partOfWord_5 : decode cX7_partOfWord 5 = .ok (.iload 4, 2) := by decide +kernel
theorem dX7_partOfWord_7 : decode cX7_partOfWord 7 = .ok (.bipush 8, 2) := by decide +kernel
theorem dX7_partOfWord_9 : decode cX7_partOfWord 9 = .ok (.if_icmp .ge 61, 3) := by decide +kernel
theorem dX7_partOfWord_12 : decode cX7_partOfWord 12 = .ok (.lload_n 0, 1) := by decide +kernel
theorem dX7_partOfWord_13 : decode cX7_partOfWord 13 = .ok (.bipush 8, 2) := by decide +kernel
theorem dX7_partOfWord_15 : decode cX7_partOfWord 15 = .ok (.iload 4, 2) := by decide +kernel
theorem dX7_partOfWord_17 : decode cX7_partOfWord 17 = .ok (.imul, 1) := by decide +kernel
theorem dX7_partOfWord_18 : decode cX7_partOfWord 18 = .ok (.lushr, 1) := by decide +kernel
theorem dX7_partOfWord_19 : decode cX7_partOfWord 19 = .ok (.ldc2_w 9, 3) := by decide +kernel
theorem dX7_partOfWord_22 : decode cX7_partOfWord 22 = .ok (.land, 1) := by decide +kernel
theorem dX7_partOfWord_23 : decode cX7_partOfWord 23 = .ok (.l2i, 1) := by decide +kernel
theorem dX7_partOfWord_24 : decode cX7_partOfWord 24 = .ok (.istore 5, 2) := by decide +kernel
theorem dX7_partOfWord_26 : decode cX7_partOfWord 26 = .ok (.iload 5, 2) := by decide +kernel
theorem dX7_partOfWord_28 : decode cX7_partOfWord 28 = .ok (.ifCond .ne 5, 3) := by decide +kernel
theorem dX7_partOfWord_31 : decode cX7_partOfWord 31 = .ok (.lload_n 2, 1) := by decide +kernel
theorem dX7_partOfWord_32 : decode cX7_partOfWord 32 = .ok (.lreturn, 1) := by decide +kernel
theorem dX7_partOfWord_33 : decode cX7_partOfWord 33 = .ok (.iload 4, 2) := by decide +kernel
theorem dX7_partOfWord_35 : decode cX7_partOfWord 35 = .ok (.bipush 6, 2) := by decide +kernel
theorem dX7_partOfWord_37 : decode cX7_partOfWord 37 = .ok (.if_icmp .ge 11, 3) := by decide +kernel
theorem dX7_partOfWord_40 : decode cX7_partOfWord 40 = .ok (.iload 5, 2) := by decide +kernel
theorem dX7_partOfWord_42 : decode cX7_partOfWord 42 = .ok (.invokestatic 11, 3) := by decide +kernel
theorem dX7_partOfWord_45 : decode cX7_partOfWord 45 = .ok (.ifCond .ne 5, 3) := by decide +kernel
theorem dX7_partOfWord_48 : decode cX7_partOfWord 48 = .ok (.lconst 0, 1) := by decide +kernel
theorem dX7_partOfWord_49 : decode cX7_partOfWord 49 = .ok (.lreturn, 1) := by decide +kernel
theorem dX7_partOfWord_50 : decode cX7_partOfWord 50 = .ok (.lload_n 2, 1) := by decide +kernel
theorem dX7_partOfWord_51 : decode cX7_partOfWord 51 = .ok (.iload 5, 2) := by decide +kernel
theorem dX7_partOfWord_53 : decode cX7_partOfWord 53 = .ok (.i2l, 1) := by decide +kernel
theorem dX7_partOfWord_54 : decode cX7_partOfWord 54 = .ok (.bipush 8, 2) := by decide +kernel
theorem dX7_partOfWord_56 : decode cX7_partOfWord 56 = .ok (.iconst 5, 1) := by decide +kernel
theorem dX7_partOfWord_57 : decode cX7_partOfWord 57 = .ok (.iload 4, 2) := by decide +kernel
theorem dX7_partOfWord_59 : decode cX7_partOfWord 59 = .ok (.isub, 1) := by decide +kernel
theorem dX7_partOfWord_60 : decode cX7_partOfWord 60 = .ok (.imul, 1) := by decide +kernel
theorem dX7_partOfWord_61 : decode cX7_partOfWord 61 = .ok (.lshl, 1) := by decide +kernel
theorem dX7_partOfWord_62 : decode cX7_partOfWord 62 = .ok (.lor, 1) := by decide +kernel
theorem dX7_partOfWord_63 : decode cX7_partOfWord 63 = .ok (.lstore_n 2, 1) := by decide +kernel
theorem dX7_partOfWord_64 : decode cX7_partOfWord 64 = .ok (.iinc 4 1, 3) := by decide +kernel
theorem dX7_partOfWord_67 : decode cX7_partOfWord 67 = .ok (.goto (-62), 3) := by decide +kernel
theorem dX7_partOfWord_70 : decode cX7_partOfWord 70 = .ok (.lload_n 2, 1) := by decide +kernel
theorem dX7_partOfWord_71 : decode cX7_partOfWord 71 = .ok (.lreturn, 1) := by decide +kernel
theorem dX7_partOfLine_0 : decode cX7_partOfLine 0 = .ok (.iload_n 2, 1) := by decide +kernel
theorem dX7_partOfLine_1 : decode cX7_partOfLine 1 = .ok (.iload_n 1, 1) := by decide +kernel
theorem dX7_partOfLine_2 : decode cX7_partOfLine 2 = .ok (.isub, 1) := by decide +kernel
theorem dX7_partOfLine_3 : decode cX7_partOfLine 3 = .ok (.bipush 6, 2) := by decide +kernel
theorem dX7_partOfLine_5 : decode cX7_partOfLine 5 = .ok (.if_icmp .le 5, 3) := by decide +kernel
theorem dX7_partOfLine_8 : decode cX7_partOfLine 8 = .ok (.lconst 0, 1) := by decide +kernel
theorem dX7_partOfLine_9 : decode cX7_partOfLine 9 = .ok (.lreturn, 1) := by decide +kernel
theorem dX7_partOfLine_10 : decode cX7_partOfLine 10 = .ok (.lconst 0, 1) := by decide +kernel
theorem dX7_partOfLine_11 : decode cX7_partOfLine 11 = .ok (.lstore_n 3, 1) := by decide +kernel
theorem dX7_partOfLine_12 : decode cX7_partOfLine 12 = .ok (.iload_n 1, 1) := by decide +kernel
theorem dX7_partOfLine_13 : decode cX7_partOfLine 13 = .ok (.istore 5, 2) := by decide +kernel
theorem dX7_partOfLine_15 : decode cX7_partOfLine 15 = .ok (.iload 5, 2) := by decide +kernel
theorem dX7_partOfLine_17 : decode cX7_partOfLine 17 = .ok (.iload_n 2, 1) := by decide +kernel
theorem dX7_partOfLine_18 : decode cX7_partOfLine 18 = .ok (.if_icmp .ge 27, 3) := by decide +kernel
theorem dX7_partOfLine_21 : decode cX7_partOfLine 21 = .ok (.lload_n 3, 1) := by decide +kernel
theorem dX7_partOfLine_22 : decode cX7_partOfLine 22 = .ok (.aload_n 0, 1) := by decide +kernel
theorem dX7_partOfLine_23 : decode cX7_partOfLine 23 = .ok (.iload 5, 2) := by decide +kernel
theorem dX7_partOfLine_25 : decode cX7_partOfLine 25 = .ok (.invokevirtual 15, 3) := by decide +kernel
theorem dX7_partOfLine_28 : decode cX7_partOfLine 28 = .ok (.i2l, 1) := by decide +kernel
theorem dX7_partOfLine_29 : decode cX7_partOfLine 29 = .ok (.bipush 8, 2) := by decide +kernel
theorem dX7_partOfLine_31 : decode cX7_partOfLine 31 = .ok (.iload 5, 2) := by decide +kernel
theorem dX7_partOfLine_33 : decode cX7_partOfLine 33 = .ok (.iload_n 1, 1) := by decide +kernel
theorem dX7_partOfLine_34 : decode cX7_partOfLine 34 = .ok (.isub, 1) := by decide +kernel
theorem dX7_partOfLine_35 : decode cX7_partOfLine 35 = .ok (.imul, 1) := by decide +kernel
theorem dX7_partOfLine_36 : decode cX7_partOfLine 36 = .ok (.lshl, 1) := by decide +kernel
theorem dX7_partOfLine_37 : decode cX7_partOfLine 37 = .ok (.lor, 1) := by decide +kernel
theorem dX7_partOfLine_38 : decode cX7_partOfLine 38 = .ok (.lstore_n 3, 1) := by decide +kernel
theorem dX7_partOfLine_39 : decode cX7_partOfLine 39 = .ok (.iinc 5 1, 3) := by decide +kernel
theorem dX7_partOfLine_42 : decode cX7_partOfLine 42 = .ok (.goto (-27), 3) := by decide +kernel
theorem dX7_partOfLine_45 : decode cX7_partOfLine 45 = .ok (.lload_n 3, 1) := by decide +kernel
theorem dX7_partOfLine_46 : decode cX7_partOfLine 46 = .ok (.invokestatic 21, 3) := by decide +kernel
theorem dX7_partOfLine_49 : decode cX7_partOfLine 49 = .ok (.lreturn, 1) := by decide +kernel
theorem dX7_isDots_0 : decode cX7_isDots 0 = .ok (.lload_n 0, 1) := by decide +kernel
theorem dX7_isDots_1 : decode cX7_isDots 1 = .ok (.ldc2_w 25, 3) := by decide +kernel
theorem dX7_isDots_4 : decode cX7_isDots 4 = .ok (.lcmp, 1) := by decide +kernel
theorem dX7_isDots_5 : decode cX7_isDots 5 = .ok (.ifCond .eq 11, 3) := by decide +kernel
theorem dX7_isDots_8 : decode cX7_isDots 8 = .ok (.lload_n 0, 1) := by decide +kernel
theorem dX7_isDots_9 : decode cX7_isDots 9 = .ok (.ldc2_w 27, 3) := by decide +kernel
theorem dX7_isDots_12 : decode cX7_isDots 12 = .ok (.lcmp, 1) := by decide +kernel
theorem dX7_isDots_13 : decode cX7_isDots 13 = .ok (.ifCond .ne 7, 3) := by decide +kernel
theorem dX7_isDots_16 : decode cX7_isDots 16 = .ok (.iconst 1, 1) := by decide +kernel
theorem dX7_isDots_17 : decode cX7_isDots 17 = .ok (.goto 4, 3) := by decide +kernel
theorem dX7_isDots_20 : decode cX7_isDots 20 = .ok (.iconst 0, 1) := by decide +kernel
theorem dX7_isDots_21 : decode cX7_isDots 21 = .ok (.ireturn, 1) := by decide +kernel
theorem dX7_withoutDots_0 : decode cX7_withoutDots 0 = .ok (.lload_n 0, 1) := by decide +kernel
theorem dX7_withoutDots_1 : decode cX7_withoutDots 1 = .ok (.invokestatic 29, 3) := by decide +kernel
theorem dX7_withoutDots_4 : decode cX7_withoutDots 4 = .ok (.ifCond .eq 7, 3) := by decide +kernel
theorem dX7_withoutDots_7 : decode cX7_withoutDots 7 = .ok (.lconst 0, 1) := by decide +kernel
theorem dX7_withoutDots_8 : decode cX7_withoutDots 8 = .ok (.goto 4, 3) := by decide +kernel
theorem dX7_withoutDots_11 : decode cX7_withoutDots 11 = .ok (.lload_n 0, 1) := by decide +kernel
theorem dX7_withoutDots_12 : decode cX7_withoutDots 12 = .ok (.lreturn, 1) := by decide +kernel
theorem dX7_signOf_0 : decode cX7_signOf 0 = .ok (.lload_n 0, 1) := by decide +kernel
theorem dX7_signOf_1 : decode cX7_signOf 1 = .ok (.bipush 8, 2) := by decide +kernel
theorem dX7_signOf_3 : decode cX7_signOf 3 = .ok (.iconst 5, 1) := by decide +kernel
theorem dX7_signOf_4 : decode cX7_signOf 4 = .ok (.iload_n 2, 1) := by decide +kernel
theorem dX7_signOf_5 : decode cX7_signOf 5 = .ok (.isub, 1) := by decide +kernel
theorem dX7_signOf_6 : decode cX7_signOf 6 = .ok (.imul, 1) := by decide +kernel
theorem dX7_signOf_7 : decode cX7_signOf 7 = .ok (.lushr, 1) := by decide +kernel
theorem dX7_signOf_8 : decode cX7_signOf 8 = .ok (.ldc2_w 9, 3) := by decide +kernel
theorem dX7_signOf_11 : decode cX7_signOf 11 = .ok (.land, 1) := by decide +kernel
theorem dX7_signOf_12 : decode cX7_signOf 12 = .ok (.l2i, 1) := by decide +kernel
theorem dX7_signOf_13 : decode cX7_signOf 13 = .ok (.ireturn, 1) := by decide +kernel
theorem dX7_isSign_0 : decode cX7_isSign 0 = .ok (.iload_n 0, 1) := by decide +kernel
theorem dX7_isSign_1 : decode cX7_isSign 1 = .ok (.bipush 97, 2) := by decide +kernel
theorem dX7_isSign_3 : decode cX7_isSign 3 = .ok (.if_icmp .lt 9, 3) := by decide +kernel
theorem dX7_isSign_6 : decode cX7_isSign 6 = .ok (.iload_n 0, 1) := by decide +kernel
theorem dX7_isSign_7 : decode cX7_isSign 7 = .ok (.bipush 122, 2) := by decide +kernel
theorem dX7_isSign_9 : decode cX7_isSign 9 = .ok (.if_icmp .le 27, 3) := by decide +kernel
theorem dX7_isSign_12 : decode cX7_isSign 12 = .ok (.iload_n 0, 1) := by decide +kernel
theorem dX7_isSign_13 : decode cX7_isSign 13 = .ok (.bipush 48, 2) := by decide +kernel
theorem dX7_isSign_15 : decode cX7_isSign 15 = .ok (.if_icmp .lt 9, 3) := by decide +kernel
theorem dX7_isSign_18 : decode cX7_isSign 18 = .ok (.iload_n 0, 1) := by decide +kernel
theorem dX7_isSign_19 : decode cX7_isSign 19 = .ok (.bipush 57, 2) := by decide +kernel
theorem dX7_isSign_21 : decode cX7_isSign 21 = .ok (.if_icmp .le 15, 3) := by decide +kernel
theorem dX7_isSign_24 : decode cX7_isSign 24 = .ok (.iload_n 0, 1) := by decide +kernel
theorem dX7_isSign_25 : decode cX7_isSign 25 = .ok (.bipush 45, 2) := by decide +kernel
theorem dX7_isSign_27 : decode cX7_isSign 27 = .ok (.if_icmp .eq 9, 3) := by decide +kernel
theorem dX7_isSign_30 : decode cX7_isSign 30 = .ok (.iload_n 0, 1) := by decide +kernel
theorem dX7_isSign_31 : decode cX7_isSign 31 = .ok (.bipush 46, 2) := by decide +kernel
theorem dX7_isSign_33 : decode cX7_isSign 33 = .ok (.if_icmp .ne 7, 3) := by decide +kernel
theorem dX7_isSign_36 : decode cX7_isSign 36 = .ok (.iconst 1, 1) := by decide +kernel
theorem dX7_isSign_37 : decode cX7_isSign 37 = .ok (.goto 4, 3) := by decide +kernel
theorem dX7_isSign_40 : decode cX7_isSign 40 = .ok (.iconst 0, 1) := by decide +kernel
theorem dX7_isSign_41 : decode cX7_isSign 41 = .ok (.ireturn, 1) := by decide +kernel
theorem dX8_init_0 : decode cX8_init 0 = .ok (.aload_n 0, 1) := by decide +kernel
theorem dX8_init_1 : decode cX8_init 1 = .ok (.invokespecial 1, 3) := by decide +kernel
theorem dX8_init_4 : decode cX8_init 4 = .ok (.aload_n 0, 1) := by decide +kernel
theorem dX8_init_5 : decode cX8_init 5 = .ok (.bipush 32, 2) := by decide +kernel
theorem dX8_init_7 : decode cX8_init 7 = .ok (.newarray .int, 2) := by decide +kernel
theorem dX8_init_9 : decode cX8_init 9 = .ok (.putfield 9, 3) := by decide +kernel
theorem dX8_init_12 : decode cX8_init 12 = .ok (.aload_n 0, 1) := by decide +kernel
theorem dX8_init_13 : decode cX8_init 13 = .ok (.iconst 0, 1) := by decide +kernel
theorem dX8_init_14 : decode cX8_init 14 = .ok (.putfield 13, 3) := by decide +kernel
theorem dX8_init_17 : decode cX8_init 17 = .ok (.aload_n 0, 1) := by decide +kernel
theorem dX8_init_18 : decode cX8_init 18 = .ok (.iconst 0, 1) := by decide +kernel
theorem dX8_init_19 : decode cX8_init 19 = .ok (.putfield 17, 3) := by decide +kernel
theorem dX8_init_22 : decode cX8_init 22 = .ok (.aload_n 0, 1) := by decide +kernel
theorem dX8_init_23 : decode cX8_init 23 = .ok (.iconst 0, 1) := by decide +kernel
theorem dX8_init_24 : decode cX8_init 24 = .ok (.putfield 21, 3) := by decide +kernel
theorem dX8_init_27 : decode cX8_init 27 = .ok (.aload_n 0, 1) := by decide +kernel
theorem dX8_init_28 : decode cX8_init 28 = .ok (.lconst 0, 1) := by decide +kernel
theorem dX8_init_29 : decode cX8_init 29 = .ok (.putfield 26, 3) := by decide +kernel
theorem dX8_init_32 : decode cX8_init 32 = .ok (.aload_n 0, 1) := by decide +kernel
theorem dX8_init_33 : decode cX8_init 33 = .ok (.aconst_null, 1) := by decide +kernel
theorem dX8_init_34 : decode cX8_init 34 = .ok (.putfield 30, 3) := by decide +kernel
theorem dX8_init_37 : decode cX8_init 37 = .ok (.return_, 1) := by decide +kernel
theorem dX8_free_0 : decode cX8_free 0 = .ok (.aload_n 0, 1) := by decide +kernel
theorem dX8_free_1 : decode cX8_free 1 = .ok (.iconst 0, 1) := by decide +kernel
theorem dX8_free_2 : decode cX8_free 2 = .ok (.putfield 17, 3) := by decide +kernel
theorem dX8_free_5 : decode cX8_free 5 = .ok (.aload_n 0, 1) := by decide +kernel
theorem dX8_free_6 : decode cX8_free 6 = .ok (.aconst_null, 1) := by decide +kernel
theorem dX8_free_7 : decode cX8_free 7 = .ok (.putfield 30, 3) := by decide +kernel
theorem dX8_free_10 : decode cX8_free 10 = .ok (.aload_n 0, 1) := by decide +kernel
theorem dX8_free_11 : decode cX8_free 11 = .ok (.iconst 0, 1) := by decide +kernel
theorem dX8_free_12 : decode cX8_free 12 = .ok (.putfield 13, 3) := by decide +kernel
theorem dX8_free_15 : decode cX8_free 15 = .ok (.return_, 1) := by decide +kernel
theorem dX9_init_0 : decode cX9_init 0 = .ok (.aload_n 0, 1) := by decide +kernel
theorem dX9_init_1 : decode cX9_init 1 = .ok (.invokespecial 1, 3) := by decide +kernel
theorem dX9_init_4 : decode cX9_init 4 = .ok (.aload_n 0, 1) := by decide +kernel
theorem dX9_init_5 : decode cX9_init 5 = .ok (.bipush 16, 2) := by decide +kernel
theorem dX9_init_7 : decode cX9_init 7 = .ok (.newarray .long, 2) := by decide +kernel
theorem dX9_init_9 : decode cX9_init 9 = .ok (.putfield 7, 3) := by decide +kernel
theorem dX9_init_12 : decode cX9_init 12 = .ok (.aload_n 0, 1) := by decide +kernel
theorem dX9_init_13 : decode cX9_init 13 = .ok (.iconst 0, 1) := by decide +kernel
theorem dX9_init_14 : decode cX9_init 14 = .ok (.putfield 13, 3) := by decide +kernel
theorem dX9_init_17 : decode cX9_init 17 = .ok (.aload_n 0, 1) := by decide +kernel
theorem dX9_init_18 : decode cX9_init 18 = .ok (.iconst 0, 1) := by decide +kernel
theorem dX9_init_19 : decode cX9_init 19 = .ok (.putfield 17, 3) := by decide +kernel
theorem dX9_init_22 : decode cX9_init 22 = .ok (.aload_n 0, 1) := by decide +kernel
theorem dX9_init_23 : decode cX9_init 23 = .ok (.iconst 0, 1) := by decide +kernel
theorem dX9_init_24 : decode cX9_init 24 = .ok (.putfield 21, 3) := by decide +kernel
theorem dX9_init_27 : decode cX9_init 27 = .ok (.aload_n 0, 1) := by decide +kernel
theorem dX9_init_28 : decode cX9_init 28 = .ok (.aconst_null, 1) := by decide +kernel
theorem dX9_init_29 : decode cX9_init 29 = .ok (.putfield 24, 3) := by decide +kernel
theorem dX9_init_32 : decode cX9_init 32 = .ok (.aload_n 0, 1) := by decide +kernel
theorem dX9_init_33 : decode cX9_init 33 = .ok (.aconst_null, 1) := by decide +kernel
theorem dX9_init_34 : decode cX9_init 34 = .ok (.putfield 28, 3) := by decide +kernel
theorem dX9_init_37 : decode cX9_init 37 = .ok (.aload_n 0, 1) := by decide +kernel
theorem dX9_init_38 : decode cX9_init 38 = .ok (.lconst 0, 1) := by decide +kernel
theorem dX9_init_39 : decode cX9_init 39 = .ok (.putfield 33, 3) := by decide +kernel
theorem dX9_init_42 : decode cX9_init 42 = .ok (.return_, 1) := by decide +kernel
theorem dX9_stay_0 : decode cX9_stay 0 = .ok (.aload_n 0, 1) := by decide +kernel
theorem dX9_stay_1 : decode cX9_stay 1 = .ok (.iconst 0, 1) := by decide +kernel
theorem dX9_stay_2 : decode cX9_stay 2 = .ok (.putfield 13, 3) := by decide +kernel
theorem dX9_stay_5 : decode cX9_stay 5 = .ok (.aload_n 0, 1) := by decide +kernel
theorem dX9_stay_6 : decode cX9_stay 6 = .ok (.iconst 0, 1) := by decide +kernel
theorem dX9_stay_7 : decode cX9_stay 7 = .ok (.putfield 17, 3) := by decide +kernel
theorem dX9_stay_10 : decode cX9_stay 10 = .ok (.aload_n 0, 1) := by decide +kernel
theorem dX9_stay_11 : decode cX9_stay 11 = .ok (.iconst 0, 1) := by decide +kernel
theorem dX9_stay_12 : decode cX9_stay 12 = .ok (.putfield 21, 3) := by decide +kernel
theorem dX9_stay_15 : decode cX9_stay 15 = .ok (.return_, 1) := by decide +kernel
theorem dX9_read_0 : decode cX9_read 0 = .ok (.aload_n 0, 1) := by decide +kernel
theorem dX9_read_1 : decode cX9_read 1 = .ok (.invokevirtual 37, 3) := by decide +kernel
theorem dX9_read_4 : decode cX9_read 4 = .ok (.aload_n 1, 1) := by decide +kernel
theorem dX9_read_5 : decode cX9_read 5 = .ok (.invokevirtual 40, 3) := by decide +kernel
theorem dX9_read_8 : decode cX9_read 8 = .ok (.istore_n 2, 1) := by decide +kernel
theorem dX9_read_9 : decode cX9_read 9 = .ok (.aload_n 1, 1) := by decide +kernel
theorem dX9_read_10 : decode cX9_read 10 = .ok (.invokevirtual 46, 3) := by decide +kernel
theorem dX9_read_13 : decode cX9_read 13 = .ok (.istore_n 3, 1) := by decide +kernel
theorem dX9_read_14 : decode cX9_read 14 = .ok (.aload_n 0, 1) := by decide +kernel
theorem dX9_read_15 : decode cX9_read 15 = .ok (.aload_n 1, 1) := by decide +kernel
theorem dX9_read_16 : decode cX9_read 16 = .ok (.iload_n 2, 1) := by decide +kernel
theorem dX9_read_17 : decode cX9_read 17 = .ok (.invokevirtual 49, 3) := by decide +kernel
theorem dX9_read_20 : decode cX9_read 20 = .ok (.bipush 47, 2) := by decide +kernel
theorem dX9_read_22 : decode cX9_read 22 = .ok (.if_icmp .ne 7, 3) := by decide +kernel
theorem dX9_read_25 : decode cX9_read 25 = .ok (.iconst 1, 1) := by decide +kernel
theorem dX9_read_26 : decode cX9_read 26 = .ok (.goto 4, 3) := by decide +kernel
theorem dX9_read_29 : decode cX9_read 29 = .ok (.iconst 0, 1) := by decide +kernel
theorem dX9_read_30 : decode cX9_read 30 = .ok (.putfield 17, 3) := by decide +kernel
theorem dX9_read_33 : decode cX9_read 33 = .ok (.aload_n 0, 1) := by decide +kernel
theorem dX9_read_34 : decode cX9_read 34 = .ok (.getfield 17, 3) := by decide +kernel
theorem dX9_read_37 : decode cX9_read 37 = .ok (.ifCond .eq 6, 3) := by decide +kernel
theorem dX9_read_40 : decode cX9_read 40 = .ok (.iinc 2 1, 3) := by decide +kernel
theorem dX9_read_43 : decode cX9_read 43 = .ok (.iload_n 2, 1) := by decide +kernel
theorem dX9_read_44 : decode cX9_read 44 = .ok (.istore 4, 2) := by decide +kernel
theorem dX9_read_46 : decode cX9_read 46 = .ok (.iload 4, 2) := by decide +kernel
theorem dX9_read_48 : decode cX9_read 48 = .ok (.iload_n 3, 1) := by decide +kernel
theorem dX9_read_49 : decode cX9_read 49 = .ok (.if_icmp .ge 41, 3) := by decide +kernel
theorem dX9_read_52 : decode cX9_read 52 = .ok (.aload_n 1, 1) := by decide +kernel
theorem dX9_read_53 : decode cX9_read 53 = .ok (.iload 4, 2) := by decide +kernel
theorem dX9_read_55 : decode cX9_read 55 = .ok (.invokevirtual 49, 3) := by decide +kernel
theorem dX9_read_58 : decode cX9_read 58 = .ok (.bipush 47, 2) := by decide +kernel
theorem dX9_read_60 : decode cX9_read 60 = .ok (.if_icmp .ne 24, 3) := by decide +kernel
theorem dX9_read_63 : decode cX9_read 63 = .ok (.aload_n 0, 1) := by decide +kernel
theorem dX9_read_64 : decode cX9_read 64 = .ok (.aload_n 1, 1) := by decide +kernel
theorem dX9_read_65 : decode cX9_read 65 = .ok (.iload_n 2, 1) := by decide +kernel
theorem dX9_read_66 : decode cX9_read 66 = .ok (.iload 4, 2) := by decide +kernel
theorem dX9_read_68 : decode cX9_read 68 = .ok (.invokestatic 53, 3) := by decide +kernel
theorem dX9_read_71 : decode cX9_read 71 = .ok (.invokevirtual 57, 3) := by decide +kernel
theorem dX9_read_74 : decode cX9_read 74 = .ok (.ifCond .ne 5, 3) := by decide +kernel
theorem dX9_read_77 : decode cX9_read 77 = .ok (.iconst 0, 1) := by decide +kernel
theorem dX9_read_78 : decode cX9_read 78 = .ok (.ireturn, 1) := by decide +kernel
theorem dX9_read_79 : decode cX9_read 79 = .ok (.iload 4, 2) := by decide +kernel
theorem dX9_read_81 : decode cX9_read 81 = .ok (.iconst 1, 1) := by decide +kernel
theorem dX9_read_82 : decode cX9_read 82 = .ok (.iadd, 1) := by decide +kernel
theorem dX9_read_83 : decode cX9_read 83 = .ok (.istore_n 2, 1) := by decide +kernel
theorem dX9_read_84 : decode cX9_read 84 = .ok (.iinc 4 1, 3) := by decide +kernel
theorem dX9_read_87 : decode cX9_read 87 = .ok (.goto (-41), 3) := by decide +kernel
theorem dX9_read_90 : decode cX9_read 90 = .ok (.aload_n 0, 1) := by decide +kernel
theorem dX9_read_91 : decode cX9_read 91 = .ok (.aload_n 0, 1) := by decide +kernel
theorem dX9_read_92 : decode cX9_read 92 = .ok (.getfield 13, 3) := by decide +kernel
theorem dX9_read_95 : decode cX9_read 95 = .ok (.ifCond .le 12, 3) := by decide +kernel
theorem dX9_read_98 : decode cX9_read 98 = .ok (.iload_n 2, 1) := by decide +kernel
theorem dX9_read_99 : decode cX9_read 99 = .ok (.iload_n 3, 1) := by decide +kernel
theorem dX9_read_100 : decode cX9_read 100 = .ok (.if_icmp .ne 7, 3) := by decide +kernel
theorem dX9_read_103 : decode cX9_read 103 = .ok (.iconst 1, 1) := by decide +kernel
theorem dX9_read_104 : decode cX9_read 104 = .ok (.goto 4, 3) := by decide +kernel
theorem dX9_read_107 : decode cX9_read 107 = .ok (.iconst 0, 1) := by decide +kernel
theorem dX9_read_108 : decode cX9_read 108 = .ok (.putfield 21, 3) := by decide +kernel
theorem dX9_read_111 : decode cX9_read 111 = .ok (.iload_n 2, 1) := by decide +kernel
theorem dX9_read_112 : decode cX9_read 112 = .ok (.iload_n 3, 1) := by decide +kernel
theorem dX9_read_113 : decode cX9_read 113 = .ok (.if_icmp .eq 16, 3) := by decide +kernel
theorem dX9_read_116 : decode cX9_read 116 = .ok (.aload_n 0, 1) := by decide +kernel
theorem dX9_read_117 : decode cX9_read 117 = .ok (.aload_n 1, 1) := by decide +kernel
theorem dX9_read_118 : decode cX9_read 118 = .ok (.iload_n 2, 1) := by decide +kernel
theorem dX9_read_119 : decode cX9_read 119 = .ok (.iload_n 3, 1) := by decide +kernel
theorem dX9_read_120 : decode cX9_read 120 = .ok (.invokestatic 53, 3) := by decide +kernel
theorem dX9_read_123 : decode cX9_read 123 = .ok (.invokevirtual 57, 3) := by decide +kernel
theorem dX9_read_126 : decode cX9_read 126 = .ok (.ifCond .eq 7, 3) := by decide +kernel
theorem dX9_read_129 : decode cX9_read 129 = .ok (.iconst 1, 1) := by decide +kernel
theorem dX9_read_130 : decode cX9_read 130 = .ok (.goto 4, 3) := by decide +kernel
theorem dX9_read_133 : decode cX9_read 133 = .ok (.iconst 0, 1) := by decide +kernel
theorem dX9_read_134 : decode cX9_read 134 = .ok (.ireturn, 1) := by decide +kernel
theorem dX9_walk_0 : decode cX9_walk 0 = .ok (.aconst_null, 1) := by decide +kernel
theorem dX9_walk_1 : decode cX9_walk 1 = .ok (.astore 4, 2) := by decide +kernel
theorem dX9_walk_3 : decode cX9_walk 3 = .ok (.aload_n 0, 1) := by decide +kernel
theorem dX9_walk_4 : decode cX9_walk 4 = .ok (.aload_n 0, 1) := by decide +kernel
theorem dX9_walk_5 : decode cX9_walk 5 = .ok (.getfield 17, 3) := by decide +kernel
theorem dX9_walk_8 : decode cX9_walk 8 = .ok (.ifCond .eq 7, 3) := by decide +kernel
theorem dX9_walk_11 : decode cX9_walk 11 = .ok (.aload_n 2, 1) := by decide +kernel
theorem dX9_walk_12 : decode cX9_walk 12 = .ok (.goto 4, 3) := by decide +kernel
theorem dX9_walk_15 : decode cX9_walk 15 = .ok (.aload_n 3, 1) := by decide +kernel
theorem dX9_walk_16 : decode cX9_walk 16 = .ok (.putfield 24, 3) := by decide +kernel
theorem dX9_walk_19 : decode cX9_walk 19 = .ok (.iconst 0, 1) := by decide +kernel
theorem dX9_walk_20 : decode cX9_walk 20 = .ok (.istore 5, 2) := by decide +kernel
theorem dX9_walk_22 : decode cX9_walk 22 = .ok (.iload 5, 2) := by decide +kernel
theorem dX9_walk_24 : decode cX9_walk 24 = .ok (.aload_n 0, 1) := by decide +kernel
theorem dX9_walk_25 : decode cX9_walk 25 = .ok (.getfield 13, 3) := by decide +kernel
theorem dX9_walk_28 : decode cX9_walk 28 = .ok (.if_icmp .ge 34, 3) := by decide +kernel
theorem dX9_walk_31 : decode cX9_walk 31 = .ok (.aload_n 0, 1) := by decide +kernel
theorem dX9_walk_32 : decode cX9_walk 32 = .ok (.getfield 24, 3) := by decide +kernel
theorem dX9_walk_35 : decode cX9_walk 35 = .ok (.astore 4, 2) := by decide +kernel
theorem dX9_walk_37 : decode cX9_walk 37 = .ok (.aload_n 0, 1) := by decide +kernel
theorem dX9_walk_38 : decode cX9_walk 38 = .ok (.aload_n 1, 1) := by decide +kernel
theorem dX9_walk_39 : decode cX9_walk 39 = .ok (.aload_n 0, 1) := by decide +kernel
theorem dX9_walk_40 : decode cX9_walk 40 = .ok (.getfield 24, 3) := by decide +kernel
theorem dX9_walk_43 : decode cX9_walk 43 = .ok (.aload_n 0, 1) := by decide +kernel
theorem dX9_walk_44 : decode cX9_walk 44 = .ok (.getfield 7, 3) := by decide +kernel
theorem dX9_walk_47 : decode cX9_walk 47 = .ok (.iload 5, 2) := by decide +kernel
theorem dX9_walk_49 : decode cX9_walk 49 = .ok (.laload, 1) := by decide +kernel
theorem dX9_walk_50 : decode cX9_walk 50 = .ok (.invokevirtual 61, 3) := by decide +kernel
theorem dX9_walk_53 : decode cX9_walk 53 = .ok (.putfield 24, 3) := by decide +kernel
theorem dX9_walk_56 : decode cX9_walk 56 = .ok (.iinc 5 1, 3) := by decide +kernel
theorem dX9_walk_59 : decode cX9_walk 59 = .ok (.goto (-37), 3) := by decide +kernel
theorem dX9_walk_62 : decode cX9_walk 62 = .ok (.aload_n 0, 1) := by decide +kernel
theorem dX9_walk_63 : decode cX9_walk 63 = .ok (.aload 4, 2) := by decide +kernel
theorem dX9_walk_65 : decode cX9_walk 65 = .ok (.invokevirtual 67, 3) := by decide +kernel
theorem dX9_walk_68 : decode cX9_walk 68 = .ok (.aload_n 0, 1) := by decide +kernel
theorem dX9_walk_69 : decode cX9_walk 69 = .ok (.getfield 21, 3) := by decide +kernel
theorem dX9_walk_72 : decode cX9_walk 72 = .ok (.ifCond .eq 18, 3) := by decide +kernel
theorem dX9_walk_75 : decode cX9_walk 75 = .ok (.aload_n 0, 1) := by decide +kernel
theorem dX9_walk_76 : decode cX9_walk 76 = .ok (.aload_n 1, 1) := by decide +kernel
theorem dX9_walk_77 : decode cX9_walk 77 = .ok (.aload_n 0, 1) := by decide +kernel
theorem dX9_walk_78 : decode cX9_walk 78 = .ok (.getfield 24, 3) := by decide +kernel
theorem dX9_walk_81 : decode cX9_walk 81 = .ok (.ldc2_w 71, 3) := by decide +kernel
theorem dX9_walk_84 : decode cX9_walk 84 = .ok (.invokevirtual 61, 3) := by decide +kernel
theorem dX9_walk_87 : decode cX9_walk 87 = .ok (.putfield 24, 3) := by decide +kernel
theorem dX9_walk_90 : decode cX9_walk 90 = .ok (.return_, 1) := by decide +kernel
theorem dX9_addPart_0 : decode cX9_addPart 0 = .ok (.lload_n 1, 1) := by decide +kernel
theorem dX9_addPart_1 : decode cX9_addPart 1 = .ok (.lconst 0, 1) := by decide +kernel
theorem dX9_addPart_2 : decode cX9_addPart 2 = .ok (.lcmp, 1) := by decide +kernel
theorem dX9_addPart_3 : decode cX9_addPart 3 = .ok (.ifCond .eq 15, 3) := by decide +kernel
theorem dX9_addPart_6 : decode cX9_addPart 6 = .ok (.aload_n 0, 1) := by decide +kernel
theorem dX9_addPart_7 : decode cX9_addPart 7 = .ok (.getfield 13, 3) := by decide +kernel
theorem dX9_addPart_10 : decode cX9_addPart 10 = .ok (.aload_n 0, 1) := by decide +kernel
theorem dX9_addPart_11 : decode cX9_addPart 11 = .ok (.getfield 7, 3) := by decide +kernel
theorem dX9_addPart_14 : decode cX9_addPart 14 = .ok (.arraylength, 1) := by decide +kernel
theorem dX9_addPart_15 : decode cX9_addPart 15 = .ok (.if_icmp .lt 5, 3) := by decide +kernel
theorem dX9_addPart_18 : decode cX9_addPart 18 = .ok (.iconst 0, 1) := by decide +kernel
theorem dX9_addPart_19 : decode cX9_addPart 19 = .ok (.ireturn, 1) := by decide +kernel
theorem dX9_addPart_20 : decode cX9_addPart 20 = .ok (.aload_n 0, 1) := by decide +kernel
theorem dX9_addPart_21 : decode cX9_addPart 21 = .ok (.getfield 7, 3) := by decide +kernel
theorem dX9_addPart_24 : decode cX9_addPart 24 = .ok (.aload_n 0, 1) := by decide +kernel
theorem dX9_addPart_25 : decode cX9_addPart 25 = .ok (.getfield 13, 3) := by decide +kernel
theorem dX9_addPart_28 : decode cX9_addPart 28 = .ok (.lload_n 1, 1) := by decide +kernel
theorem dX9_addPart_29 : decode cX9_addPart 29 = .ok (.lastore, 1) := by decide +kernel
theorem dX9_addPart_30 : decode cX9_addPart 30 = .ok (.aload_n 0, 1) := by decide +kernel
theorem dX9_addPart_31 : decode cX9_addPart 31 = .ok (.dup, 1) := by decide +kernel
theorem dX9_addPart_32 : decode cX9_addPart 32 = .ok (.getfield 13, 3) := by decide +kernel
theorem dX9_addPart_35 : decode cX9_addPart 35 = .ok (.iconst 1, 1) := by decide +kernel
theorem dX9_addPart_36 : decode cX9_addPart 36 = .ok (.iadd, 1) := by decide +kernel
theorem dX9_addPart_37 : decode cX9_addPart 37 = .ok (.putfield 13, 3) := by decide +kernel
theorem dX9_addPart_40 : decode cX9_addPart 40 = .ok (.iconst 1, 1) := by decide +kernel
theorem dX9_addPart_41 : decode cX9_addPart 41 = .ok (.ireturn, 1) := by decide +kernel
theorem dX9_findPlace_0 : decode cX9_findPlace 0 = .ok (.aload_n 0, 1) := by decide +kernel
theorem dX9_findPlace_1 : decode cX9_findPlace 1 = .ok (.aconst_null, 1) := by decide +kernel
theorem dX9_findPlace_2 : decode cX9_findPlace 2 = .ok (.putfield 28, 3) := by decide +kernel
theorem dX9_findPlace_5 : decode cX9_findPlace 5 = .ok (.aload_n 0, 1) := by decide +kernel
theorem dX9_findPlace_6 : decode cX9_findPlace 6 = .ok (.lconst 0, 1) := by decide +kernel
theorem dX9_findPlace_7 : decode cX9_findPlace 7 = .ok (.putfield 33, 3) := by decide +kernel
theorem dX9_findPlace_10 : decode cX9_findPlace 10 = .ok (.aload_n 1, 1) := by decide +kernel
theorem dX9_findPlace_11 : decode cX9_findPlace 11 = .ok (.ifnull 41, 3) := by decide +kernel
theorem dX9_findPlace_14 : decode cX9_findPlace 14 = .ok (.aload_n 1, 1) := by decide +kernel
theorem dX9_findPlace_15 : decode cX9_findPlace 15 = .ok (.getfield 73, 3) := by decide +kernel
theorem dX9_findPlace_18 : decode cX9_findPlace 18 = .ok (.ifCond .eq 34, 3) := by decide +kernel
theorem dX9_findPlace_21 : decode cX9_findPlace 21 = .ok (.aload_n 0, 1) := by decide +kernel
theorem dX9_findPlace_22 : decode cX9_findPlace 22 = .ok (.getfield 21, 3) := by decide +kernel
theorem dX9_findPlace_25 : decode cX9_findPlace 25 = .ok (.ifCond .ne 27, 3) := by decide +kernel
theorem dX9_findPlace_28 : decode cX9_findPlace 28 = .ok (.aload_n 0, 1) := by decide +kernel
theorem dX9_findPlace_29 : decode cX9_findPlace 29 = .ok (.getfield 13, 3) := by decide +kernel
theorem dX9_findPlace_32 : decode cX9_findPlace 32 = .ok (.ifCond .eq 20, 3) := by decide +kernel
theorem dX9_findPlace_35 : decode cX9_findPlace 35 = .ok (.aload_n 0, 1) := by decide +kernel
theorem dX9_findPlace_36 : decode cX9_findPlace 36 = .ok (.getfield 7, 3) := by decide +kernel
theorem dX9_findPlace_39 : decode cX9_findPlace 39 = .ok (.aload_n 0, 1) := by decide +kernel
theorem dX9_findPlace_40 : decode cX9_findPlace 40 = .ok (.getfield 13, 3) := by decide +kernel
theorem dX9_findPlace_43 : decode cX9_findPlace 43 = .ok (.iconst 1, 1) := by decide +kernel
theorem dX9_findPlace_44 : decode cX9_findPlace 44 = .ok (.isub, 1) := by decide +kernel
theorem dX9_findPlace_45 : decode cX9_findPlace 45 = .ok (.laload, 1) := by decide +kernel
theorem dX9_findPlace_46 : decode cX9_findPlace 46 = .ok (.invokestatic 78, 3) := by decide +kernel
theorem dX9_findPlace_49 : decode cX9_findPlace 49 = .ok (.ifCond .eq 4, 3) := by decide +kernel
theorem dX9_findPlace_52 : decode cX9_findPlace 52 = .ok (.return_, 1) := by decide +kernel
theorem dX9_findPlace_53 : decode cX9_findPlace 53 = .ok (.aload_n 0, 1) := by decide +kernel
theorem dX9_findPlace_54 : decode cX9_findPlace 54 = .ok (.aload_n 1, 1) := by decide +kernel
theorem dX9_findPlace_55 : decode cX9_findPlace 55 = .ok (.putfield 28, 3) := by decide +kernel
theorem dX9_findPlace_58 : decode cX9_findPlace 58 = .ok (.aload_n 0, 1) := by decide +kernel
theorem dX9_findPlace_59 : decode cX9_findPlace 59 = .ok (.aload_n 0, 1) := by decide +kernel
theorem dX9_findPlace_60 : decode cX9_findPlace 60 = .ok (.getfield 7, 3) := by decide +kernel
theorem dX9_findPlace_63 : decode cX9_findPlace 63 = .ok (.aload_n 0, 1) := by decide +kernel
theorem dX9_findPlace_64 : decode cX9_findPlace 64 = .ok (.getfield 13, 3) := by decide +kernel
theorem dX9_findPlace_67 : decode cX9_findPlace 67 = .ok (.iconst 1, 1) := by decide +kernel
theorem dX9_findPlace_68 : decode cX9_findPlace 68 = .ok (.isub, 1) := by decide +kernel
theorem dX9_findPlace_69 : decode cX9_findPlace 69 = .ok (.laload, 1) := by decide +kernel
theorem dX9_findPlace_70 : decode cX9_findPlace 70 = .ok (.putfield 33, 3) := by decide +kernel
theorem dX9_findPlace_73 : decode cX9_findPlace 73 = .ok (.return_, 1) := by decide +kernel
theorem dX10_init_0 : decode cX10_init 0 = .ok (.aload_n 0, 1) := by decide +kernel
theorem dX10_init_1 : decode cX10_init 1 = .ok (.invokespecial 1, 3) := by decide +kernel
theorem dX10_init_4 : decode cX10_init 4 = .ok (.aload_n 0, 1) := by decide +kernel
theorem dX10_init_5 : decode cX10_init 5 = .ok (.bipush 24, 2) := by decide +kernel
theorem dX10_init_7 : decode cX10_init 7 = .ok (.anewarray 9, 3) := by decide +kernel
theorem dX10_init_10 : decode cX10_init 10 = .ok (.putfield 11, 3) := by decide +kernel
theorem dX10_init_13 : decode cX10_init 13 = .ok (.iconst 0, 1) := by decide +kernel
theorem dX10_init_14 : decode cX10_init 14 = .ok (.istore_n 1, 1) := by decide +kernel
theorem dX10_init_15 : decode cX10_init 15 = .ok (.iload_n 1, 1) := by decide +kernel
theorem dX10_init_16 : decode cX10_init 16 = .ok (.aload_n 0, 1) := by decide +kernel
theorem dX10_init_17 : decode cX10_init 17 = .ok (.getfield 11, 3) := by decide +kernel
theorem dX10_init_20 : decode cX10_init 20 = .ok (.arraylength, 1) := by decide +kernel
theorem dX10_init_21 : decode cX10_init 21 = .ok (.if_icmp .ge 22, 3) := by decide +kernel
theorem dX10_init_24 : decode cX10_init 24 = .ok (.aload_n 0, 1) := by decide +kernel
theorem dX10_init_25 : decode cX10_init 25 = .ok (.getfield 11, 3) := by decide +kernel
theorem dX10_init_28 : decode cX10_init 28 = .ok (.iload_n 1, 1) := by decide +kernel
theorem dX10_init_29 : decode cX10_init 29 = .ok (.new 9, 3) := by decide +kernel
theorem dX10_init_32 : decode cX10_init 32 = .ok (.dup, 1) := by decide +kernel
theorem dX10_init_33 : decode cX10_init 33 = .ok (.invokespecial 15, 3) := by decide +kernel
theorem dX10_init_36 : decode cX10_init 36 = .ok (.aastore, 1) := by decide +kernel
theorem dX10_init_37 : decode cX10_init 37 = .ok (.iinc 1 1, 3) := by decide +kernel
theorem dX10_init_40 : decode cX10_init 40 = .ok (.goto (-25), 3) := by decide +kernel
theorem dX10_init_43 : decode cX10_init 43 = .ok (.return_, 1) := by decide +kernel
theorem dX10_add_0 : decode cX10_add 0 = .ok (.aload_n 0, 1) := by decide +kernel
theorem dX10_add_1 : decode cX10_add 1 = .ok (.getfield 11, 3) := by decide +kernel
theorem dX10_add_4 : decode cX10_add 4 = .ok (.astore 5, 2) := by decide +kernel
theorem dX10_add_6 : decode cX10_add 6 = .ok (.aload 5, 2) := by decide +kernel
theorem dX10_add_8 : decode cX10_add 8 = .ok (.arraylength, 1) := by decide +kernel
theorem dX10_add_9 : decode cX10_add 9 = .ok (.istore 6, 2) := by decide +kernel
theorem dX10_add_11 : decode cX10_add 11 = .ok (.iconst 0, 1) := by decide +kernel
theorem dX10_add_12 : decode cX10_add 12 = .ok (.istore 7, 2) := by decide +kernel
theorem dX10_add_14 : decode cX10_add 14 = .ok (.iload 7, 2) := by decide +kernel
theorem dX10_add_16 : decode cX10_add 16 = .ok (.iload 6, 2) := by decide +kernel
theorem dX10_add_18 : decode cX10_add 18 = .ok (.if_icmp .ge 52, 3) := by decide +kernel
theorem dX10_add_21 : decode cX10_add 21 = .ok (.aload 5, 2) := by decide +kernel
theorem dX10_add_23 : decode cX10_add 23 = .ok (.iload 7, 2) := by decide +kernel
theorem dX10_add_25 : decode cX10_add 25 = .ok (.aaload, 1) := by decide +kernel
theorem dX10_add_26 : decode cX10_add 26 = .ok (.astore 8, 2) := by decide +kernel
theorem dX10_add_28 : decode cX10_add 28 = .ok (.aload 8, 2) := by decide +kernel
theorem dX10_add_30 : decode cX10_add 30 = .ok (.getfield 16, 3) := by decide +kernel
theorem dX10_add_33 : decode cX10_add 33 = .ok (.ifCond .ne 31, 3) := by decide +kernel
theorem dX10_add_36 : decode cX10_add 36 = .ok (.aload 8, 2) := by decide +kernel
theorem dX10_add_38 : decode cX10_add 38 = .ok (.iconst 1, 1) := by decide +kernel
theorem dX10_add_39 : decode cX10_add 39 = .ok (.putfield 16, 3) := by decide +kernel
theorem dX10_add_42 : decode cX10_add 42 = .ok (.aload 8, 2) := by decide +kernel
theorem dX10_add_44 : decode cX10_add 44 = .ok (.aload_n 1, 1) := by decide +kernel
theorem dX10_add_45 : decode cX10_add 45 = .ok (.putfield 20, 3) := by decide +kernel
theorem dX10_add_48 : decode cX10_add 48 = .ok (.aload 8, 2) := by decide +kernel
theorem dX10_add_50 : decode cX10_add 50 = .ok (.lload_n 2, 1) := by decide +kernel
theorem dX10_add_51 : decode cX10_add 51 = .ok (.putfield 24, 3) := by decide +kernel
theorem dX10_add_54 : decode cX10_add 54 = .ok (.aload 8, 2) := by decide +kernel
theorem dX10_add_56 : decode cX10_add 56 = .ok (.iload 4, 2) := by decide +kernel
theorem dX10_add_58 : decode cX10_add 58 = .ok (.putfield 28, 3) := by decide +kernel
theorem dX10_add_61 : decode cX10_add 61 = .ok (.aload 8, 2) := by decide +kernel
theorem dX10_add_63 : decode cX10_add 63 = .ok (.areturn, 1) := by decide +kernel
theorem dX10_add_64 : decode cX10_add 64 = .ok (.iinc 7 1, 3) := by decide +kernel
theorem dX10_add_67 : decode cX10_add 67 = .ok (.goto (-53), 3) := by decide +kernel
theorem dX10_add_70 : decode cX10_add 70 = .ok (.aconst_null, 1) := by decide +kernel
theorem dX10_add_71 : decode cX10_add 71 = .ok (.areturn, 1) := by decide +kernel
theorem dX10_isFull_0 : decode cX10_isFull 0 = .ok (.aload_n 0, 1) := by decide +kernel
theorem dX10_isFull_1 : decode cX10_isFull 1 = .ok (.invokevirtual 31, 3) := by decide +kernel
theorem dX10_isFull_4 : decode cX10_isFull 4 = .ok (.bipush 24, 2) := by decide +kernel
theorem dX10_isFull_6 : decode cX10_isFull 6 = .ok (.if_icmp .lt 7, 3) := by decide +kernel
theorem dX10_isFull_9 : decode cX10_isFull 9 = .ok (.iconst 1, 1) := by decide +kernel
theorem dX10_isFull_10 : decode cX10_isFull 10 = .ok (.goto 4, 3) := by decide +kernel
theorem dX10_isFull_13 : decode cX10_isFull 13 = .ok (.iconst 0, 1) := by decide +kernel
theorem dX10_isFull_14 : decode cX10_isFull 14 = .ok (.ireturn, 1) := by decide +kernel
theorem dX10_countNodes_0 : decode cX10_countNodes 0 = .ok (.iconst 0, 1) := by decide +kernel
theorem dX10_countNodes_1 : decode cX10_countNodes 1 = .ok (.istore_n 1, 1) := by decide +kernel
theorem dX10_countNodes_2 : decode cX10_countNodes 2 = .ok (.aload_n 0, 1) := by decide +kernel
theorem dX10_countNodes_3 : decode cX10_countNodes 3 = .ok (.getfield 11, 3) := by decide +kernel
theorem dX10_countNodes_6 : decode cX10_countNodes 6 = .ok (.astore_n 2, 1) := by decide +kernel
theorem dX10_countNodes_7 : decode cX10_countNodes 7 = .ok (.aload_n 2, 1) := by decide +kernel
theorem dX10_countNodes_8 : decode cX10_countNodes 8 = .ok (.arraylength, 1) := by decide +kernel
theorem dX10_countNodes_9 : decode cX10_countNodes 9 = .ok (.istore_n 3, 1) := by decide +kernel
theorem dX10_countNodes_10 : decode cX10_countNodes 10 = .ok (.iconst 0, 1) := by decide +kernel
theorem dX10_countNodes_11 : decode cX10_countNodes 11 = .ok (.istore 4, 2) := by decide +kernel
theorem dX10_countNodes_13 : decode cX10_countNodes 13 = .ok (.iload 4, 2) := by decide +kernel
theorem dX10_countNodes_15 : decode cX10_countNodes 15 = .ok (.iload_n 3, 1) := by decide +kernel
theorem dX10_countNodes_16 : decode cX10_countNodes 16 = .ok (.if_icmp .ge 26, 3) := by decide +kernel
theorem dX10_countNodes_19 : decode cX10_countNodes 19 = .ok (.aload_n 2, 1) := by decide +kernel
theorem dX10_countNodes_20 : decode cX10_countNodes 20 = .ok (.iload 4, 2) := by decide +kernel
theorem dX10_countNodes_22 : decode cX10_countNodes 22 = .ok (.aaload, 1) := by decide +kernel
theorem dX10_countNodes_23 : decode cX10_countNodes 23 = .ok (.astore 5, 2) := by decide +kernel
theorem dX10_countNodes_25 : decode cX10_countNodes 25 = .ok (.aload 5, 2) := by decide +kernel
theorem dX10_countNodes_27 : decode cX10_countNodes 27 = .ok (.getfield 16, 3) := by decide +kernel
theorem dX10_countNodes_30 : decode cX10_countNodes 30 = .ok (.ifCond .eq 6, 3) := by decide +kernel
theorem dX10_countNodes_33 : decode cX10_countNodes 33 = .ok (.iinc 1 1, 3) := by decide +kernel
theorem dX10_countNodes_36 : decode cX10_countNodes 36 = .ok (.iinc 4 1, 3) := by decide +kernel
theorem dX10_countNodes_39 : decode cX10_countNodes 39 = .ok (.goto (-26), 3) := by decide +kernel
theorem dX10_countNodes_42 : decode cX10_countNodes 42 = .ok (.iload_n 1, 1) := by decide +kernel
theorem dX10_countNodes_43 : decode cX10_countNodes 43 = .ok (.ireturn, 1) := by decide +kernel
theorem dX10_countBytes_0 : decode cX10_countBytes 0 = .ok (.iconst 0, 1) := by decide +kernel
theorem dX10_countBytes_1 : decode cX10_countBytes 1 = .ok (.istore_n 1, 1) := by decide +kernel
theorem dX10_countBytes_2 : decode cX10_countBytes 2 = .ok (.aload_n 0, 1) := by decide +kernel
theorem dX10_countBytes_3 : decode cX10_countBytes 3 = .ok (.getfield 11, 3) := by decide +kernel
theorem dX10_countBytes_6 : decode cX10_countBytes 6 = .ok (.astore_n 2, 1) := by decide +kernel
theorem dX10_countBytes_7 : decode cX10_countBytes 7 = .ok (.aload_n 2, 1) := by decide +kernel
theorem dX10_countBytes_8 : decode cX10_countBytes 8 = .ok (.arraylength, 1) := by decide +kernel
theorem dX10_countBytes_9 : decode cX10_countBytes 9 = .ok (.istore_n 3, 1) := by decide +kernel
theorem dX10_countBytes_10 : decode cX10_countBytes 10 = .ok (.iconst 0, 1) := by decide +kernel
theorem dX10_countBytes_11 : decode cX10_countBytes 11 = .ok (.istore 4, 2) := by decide +kernel
theorem dX10_countBytes_13 : decode cX10_countBytes 13 = .ok (.iload 4, 2) := by decide +kernel
theorem dX10_countBytes_15 : decode cX10_countBytes 15 = .ok (.iload_n 3, 1) := by decide +kernel
theorem dX10_countBytes_16 : decode cX10_countBytes 16 = .ok (.if_icmp .ge 31, 3) := by decide +kernel
theorem dX10_countBytes_19 : decode cX10_countBytes 19 = .ok (.aload_n 2, 1) := by decide +kernel
theorem dX10_countBytes_20 : decode cX10_countBytes 20 = .ok (.iload 4, 2) := by decide +kernel
theorem dX10_countBytes_22 : decode cX10_countBytes 22 = .ok (.aaload, 1) := by decide +kernel
theorem dX10_countBytes_23 : decode cX10_countBytes 23 = .ok (.astore 5, 2) := by decide +kernel
theorem dX10_countBytes_25 : decode cX10_countBytes 25 = .ok (.aload 5, 2) := by decide +kernel
theorem dX10_countBytes_27 : decode cX10_countBytes 27 = .ok (.getfield 16, 3) := by decide +kernel
theorem dX10_countBytes_30 : decode cX10_countBytes 30 = .ok (.ifCond .eq 11, 3) := by decide +kernel
theorem dX10_countBytes_33 : decode cX10_countBytes 33 = .ok (.iload_n 1, 1) := by decide +kernel
theorem dX10_countBytes_34 : decode cX10_countBytes 34 = .ok (.aload 5, 2) := by decide +kernel
theorem dX10_countBytes_36 : decode cX10_countBytes 36 = .ok (.getfield 35, 3) := by decide +kernel
theorem dX10_countBytes_39 : decode cX10_countBytes 39 = .ok (.iadd, 1) := by decide +kernel
theorem dX10_countBytes_40 : decode cX10_countBytes 40 = .ok (.istore_n 1, 1) := by decide +kernel
theorem dX10_countBytes_41 : decode cX10_countBytes 41 = .ok (.iinc 4 1, 3) := by decide +kernel
theorem dX10_countBytes_44 : decode cX10_countBytes 44 = .ok (.goto (-31), 3) := by decide +kernel
theorem dX10_countBytes_47 : decode cX10_countBytes 47 = .ok (.iload_n 1, 1) := by decide +kernel
theorem dX10_countBytes_48 : decode cX10_countBytes 48 = .ok (.ireturn, 1) := by decide +kernel
theorem dX10_step_0 : decode cX10_step 0 = .ok (.aload_n 1, 1) := by decide +kernel
theorem dX10_step_1 : decode cX10_step 1 = .ok (.ifnull 10, 3) := by decide +kernel
theorem dX10_step_4 : decode cX10_step 4 = .ok (.aload_n 1, 1) := by decide +kernel
theorem dX10_step_5 : decode cX10_step 5 = .ok (.getfield 28, 3) := by decide +kernel
theorem dX10_step_8 : decode cX10_step 8 = .ok (.ifCond .ne 5, 3) := by decide +kernel
theorem dX10_step_11 : decode cX10_step 11 = .ok (.aconst_null, 1) := by decide +kernel
theorem dX10_step_12 : decode cX10_step 12 = .ok (.areturn, 1) := by decide +kernel
theorem dX10_step_13 : decode cX10_step 13 = .ok (.lload_n 2, 1) := by decide +kernel
theorem dX10_step_14 : decode cX10_step 14 = .ok (.ldc2_w 41, 3) := by decide +kernel
theorem dX10_step_17 : decode cX10_step 17 = .ok (.lcmp, 1) := by decide +kernel
theorem dX10_step_18 : decode cX10_step 18 = .ok (.ifCond .ne 5, 3) := by decide +kernel
theorem dX10_step_21 : decode cX10_step 21 = .ok (.aload_n 1, 1) := by decide +kernel
theorem dX10_step_22 : decode cX10_step 22 = .ok (.areturn, 1) := by decide +kernel
theorem dX10_step_23 : decode cX10_step 23 = .ok (.lload_n 2, 1) := by decide +kernel
theorem dX10_step_24 : decode cX10_step 24 = .ok (.ldc2_w 43, 3) := by decide +kernel
theorem dX10_step_27 : decode cX10_step 27 = .ok (.lcmp, 1) := by decide +kernel
theorem dX10_step_28 : decode cX10_step 28 = .ok (.ifCond .ne 19, 3) := by decide +kernel
theorem dX10_step_31 : decode cX10_step 31 = .ok (.aload_n 1, 1) := by decide +kernel
theorem dX10_step_32 : decode cX10_step 32 = .ok (.getfield 20, 3) := by decide +kernel
theorem dX10_step_35 : decode cX10_step 35 = .ok (.ifnonnull 7, 3) := by decide +kernel
theorem dX10_step_38 : decode cX10_step 38 = .ok (.aload_n 1, 1) := by decide +kernel
theorem dX10_step_39 : decode cX10_step 39 = .ok (.goto 7, 3) := by decide +kernel
theorem dX10_step_42 : decode cX10_step 42 = .ok (.aload_n 1, 1) := by decide +kernel
theorem dX10_step_43 : decode cX10_step 43 = .ok (.getfield 20, 3) := by decide +kernel
theorem dX10_step_46 : decode cX10_step 46 = .ok (.areturn, 1) := by decide +kernel
theorem dX10_step_47 : decode cX10_step 47 = .ok (.aload_n 0, 1) := by decide +kernel
theorem dX10_step_48 : decode cX10_step 48 = .ok (.aload_n 1, 1) := by decide +kernel
theorem dX10_step_49 : decode cX10_step 49 = .ok (.lload_n 2, 1) := by decide +kernel
theorem dX10_step_50 : decode cX10_step 50 = .ok (.invokevirtual 45, 3) := by decide +kernel
theorem dX10_step_53 : decode cX10_step 53 = .ok (.areturn, 1) := by decide +kernel
theorem dX10_isEmpty_0 : decode cX10_isEmpty 0 = .ok (.aload_n 0, 1) := by decide +kernel
theorem dX10_isEmpty_1 : decode cX10_isEmpty 1 = .ok (.aload_n 1, 1) := by decide +kernel
theorem dX10_isEmpty_2 : decode cX10_isEmpty 2 = .ok (.lconst 0, 1) := by decide +kernel
theorem dX10_isEmpty_3 : decode cX10_isEmpty 3 = .ok (.invokevirtual 49, 3) := by decide +kernel
theorem dX10_isEmpty_6 : decode cX10_isEmpty 6 = .ok (.lconst 0, 1) := by decide +kernel
theorem dX10_isEmpty_7 : decode cX10_isEmpty 7 = .ok (.lcmp, 1) := by decide +kernel
theorem dX10_isEmpty_8 : decode cX10_isEmpty 8 = .ok (.ifCond .ne 7, 3) := by decide +kernel
theorem dX10_isEmpty_11 : decode cX10_isEmpty 11 = .ok (.iconst 1, 1) := by decide +kernel
theorem dX10_isEmpty_12 : decode cX10_isEmpty 12 = .ok (.goto 4, 3) := by decide +kernel
theorem dX10_isEmpty_15 : decode cX10_isEmpty 15 = .ok (.iconst 0, 1) := by decide +kernel
theorem dX10_isEmpty_16 : decode cX10_isEmpty 16 = .ok (.ireturn, 1) := by decide +kernel
theorem dX10_nextName_0 : decode cX10_nextName 0 = .ok (.lconst 0, 1) := by decide +kernel
theorem dX10_nextName_1 : decode cX10_nextName 1 = .ok (.lstore 4, 2) := by decide +kernel
theorem dX10_nextName_3 : decode cX10_nextName 3 = .ok (.aload_n 0, 1) := by decide +kernel
theorem dX10_nextName_4 : decode cX10_nextName 4 = .ok (.getfield 11, 3) := by decide +kernel
theorem dX10_nextName_7 : decode cX10_nextName 7 = .ok (.astore 6, 2) := by decide +kernel
theorem dX10_nextName_9 : decode cX10_nextName 9 = .ok (.aload 6, 2) := by decide +kernel
theorem dX10_nextName_11 : decode cX10_nextName 11 = .ok (.arraylength, 1) := by decide +kernel
theorem dX10_nextName_12 : decode cX10_nextName 12 = .ok (.istore 7, 2) := by decide +kernel
theorem dX10_nextName_14 : decode cX10_nextName 14 = .ok (.iconst 0, 1) := by decide +kernel
theorem dX10_nextName_15 : decode cX10_nextName 15 = .ok (.istore 8, 2) := by decide +kernel
theorem dX10_nextName_17 : decode cX10_nextName 17 = .ok (.iload 8, 2) := by decide +kernel
theorem dX10_nextName_19 : decode cX10_nextName 19 = .ok (.iload 7, 2) := by decide +kernel
theorem dX10_nextName_21 : decode cX10_nextName 21 = .ok (.if_icmp .ge 68, 3) := by decide +kernel
theorem dX10_nextName_24 : decode cX10_nextName 24 = .ok (.aload 6, 2) := by decide +kernel
theorem dX10_nextName_26 : decode cX10_nextName 26 = .ok (.iload 8, 2) := by decide +kernel
theorem dX10_nextName_28 : decode cX10_nextName 28 = .ok (.aaload, 1) := by decide +kernel
theorem dX10_nextName_29 : decode cX10_nextName 29 = .ok (.astore 9, 2) := by decide +kernel
theorem dX10_nextName_31 : decode cX10_nextName 31 = .ok (.aload 9, 2) := by decide +kernel
theorem dX10_nextName_33 : decode cX10_nextName 33 = .ok (.getfield 16, 3) := by decide +kernel
theorem dX10_nextName_36 : decode cX10_nextName 36 = .ok (.ifCond .eq 47, 3) := by decide +kernel
theorem dX10_nextName_39 : decode cX10_nextName 39 = .ok (.aload 9, 2) := by decide +kernel
theorem dX10_nextName_41 : decode cX10_nextName 41 = .ok (.getfield 20, 3) := by decide +kernel
theorem dX10_nextName_44 : decode cX10_nextName 44 = .ok (.aload_n 1, 1) := by decide +kernel
theorem dX10_nextName_45 : decode cX10_nextName 45 = .ok (.if_acmp .ne 38, 3) := by decide +kernel
theorem dX10_nextName_48 : decode cX10_nextName 48 = .ok (.aload 9, 2) := by decide +kernel
theorem dX10_nextName_50 : decode cX10_nextName 50 = .ok (.getfield 24, 3) := by decide +kernel
theorem dX10_nextName_53 : decode cX10_nextName 53 = .ok (.lload_n 2, 1) := by decide +kernel
theorem dX10_nextName_54 : decode cX10_nextName 54 = .ok (.lcmp, 1) := by decide +kernel
theorem dX10_nextName_55 : decode cX10_nextName 55 = .ok (.ifCond .le 28, 3) := by decide +kernel
theorem dX10_nextName_58 : decode cX10_nextName 58 = .ok (.lload 4, 2) := by decide +kernel
theorem dX10_nextName_60 : decode cX10_nextName 60 = .ok (.lconst 0, 1) := by decide +kernel
theorem dX10_nextName_61 : decode cX10_nextName 61 = .ok (.lcmp, 1) := by decide +kernel
theorem dX10_nextName_62 : decode cX10_nextName 62 = .ok (.ifCond .eq 14, 3) := by decide +kernel
theorem dX10_nextName_65 : decode cX10_nextName 65 = .ok (.aload 9, 2) := by decide +kernel
theorem dX10_nextName_67 : decode cX10_nextName 67 = .ok (.getfield 24, 3) := by decide +kernel
theorem dX10_nextName_70 : decode cX10_nextName 70 = .ok (.lload 4, 2) := by decide +kernel
theorem dX10_nextName_72 : decode cX10_nextName 72 = .ok (.lcmp, 1) := by decide +kernel
theorem dX10_nextName_73 : decode cX10_nextName 73 = .ok (.ifCond .ge 10, 3) := by decide +kernel
theorem dX10_nextName_76 : decode cX10_nextName 76 = .ok (.aload 9, 2) := by decide +kernel
theorem dX10_nextName_78 : decode cX10_nextName 78 = .ok (.getfield 24, 3) := by decide +kernel
theorem dX10_nextName_81 : decode cX10_nextName 81 = .ok (.lstore 4, 2) := by decide +kernel
theorem dX10_nextName_83 : decode cX10_nextName 83 = .ok (.iinc 8 1, 3) := by decide +kernel
theorem dX10_nextName_86 : decode cX10_nextName 86 = .ok (.goto (-69), 3) := by decide +kernel
theorem dX10_nextName_89 : decode cX10_nextName 89 = .ok (.lload 4, 2) := by decide +kernel
theorem dX10_nextName_91 : decode cX10_nextName 91 = .ok (.lreturn, 1) := by decide +kernel
theorem dX10_liesIn_0 : decode cX10_liesIn 0 = .ok (.aload_n 1, 1) := by decide +kernel
theorem dX10_liesIn_1 : decode cX10_liesIn 1 = .ok (.astore_n 3, 1) := by decide +kernel
theorem dX10_liesIn_2 : decode cX10_liesIn 2 = .ok (.iconst 0, 1) := by decide +kernel
theorem dX10_liesIn_3 : decode cX10_liesIn 3 = .ok (.istore 4, 2) := by decide +kernel
theorem dX10_liesIn_5 : decode cX10_liesIn 5 = .ok (.iload 4, 2) := by decide +kernel
theorem dX10_liesIn_7 : decode cX10_liesIn 7 = .ok (.bipush 24, 2) := by decide +kernel
theorem dX10_liesIn_9 : decode cX10_liesIn 9 = .ok (.if_icmp .ge 25, 3) := by decide +kernel
theorem dX10_liesIn_12 : decode cX10_liesIn 12 = .ok (.aload_n 3, 1) := by decide +kernel
theorem dX10_liesIn_13 : decode cX10_liesIn 13 = .ok (.ifnull 21, 3) := by decide +kernel
theorem dX10_liesIn_16 : decode cX10_liesIn 16 = .ok (.aload_n 3, 1) := by decide +kernel
theorem dX10_liesIn_17 : decode cX10_liesIn 17 = .ok (.aload_n 2, 1) := by decide +kernel
theorem dX10_liesIn_18 : decode cX10_liesIn 18 = .ok (.if_acmp .ne 5, 3) := by decide +kernel
theorem dX10_liesIn_21 : decode cX10_liesIn 21 = .ok (.iconst 1, 1) := by decide +kernel
theorem dX10_liesIn_22 : decode cX10_liesIn 22 = .ok (.ireturn, 1) := by decide +kernel
theorem dX10_liesIn_23 : decode cX10_liesIn 23 = .ok (.aload_n 3, 1) := by decide +kernel
theorem dX10_liesIn_24 : decode cX10_liesIn 24 = .ok (.getfield 20, 3) := by decide +kernel
theorem dX10_liesIn_27 : decode cX10_liesIn 27 = .ok (.astore_n 3, 1) := by decide +kernel
theorem dX10_liesIn_28 : decode cX10_liesIn 28 = .ok (.iinc 4 1, 3) := by decide +kernel
theorem dX10_liesIn_31 : decode cX10_liesIn 31 = .ok (.goto (-26), 3) := by decide +kernel
theorem dX10_liesIn_34 : decode cX10_liesIn 34 = .ok (.iconst 0, 1) := by decide +kernel
theorem dX10_liesIn_35 : decode cX10_liesIn 35 = .ok (.ireturn, 1) := by decide +kernel
theorem dX10_child_0 : decode cX10_child 0 = .ok (.aload_n 0, 1) := by decide +kernel
theorem dX10_child_1 : decode cX10_child 1 = .ok (.getfield 11, 3) := by decide +kernel
theorem dX10_child_4 : decode cX10_child 4 = .ok (.astore 4, 2) := by decide +kernel
theorem dX10_child_6 : decode cX10_child 6 = .ok (.aload 4, 2) := by decide +kernel
theorem dX10_child_8 : decode cX10_child 8 = .ok (.arraylength, 1) := by decide +kernel
theorem dX10_child_9 : decode cX10_child 9 = .ok (.istore 5, 2) := by decide +kernel
theorem dX10_child_11 : decode cX10_child 11 = .ok (.iconst 0, 1) := by decide +kernel
theorem dX10_child_12 : decode cX10_child 12 = .ok (.istore 6, 2) := by decide +kernel
theorem dX10_child_14 : decode cX10_child 14 = .ok (.iload 6, 2) := by decide +kernel
theorem dX10_child_16 : decode cX10_child 16 = .ok (.iload 5, 2) := by decide +kernel
theorem dX10_child_18 : decode cX10_child 18 = .ok (.if_icmp .ge 46, 3) := by decide +kernel
theorem dX10_child_21 : decode cX10_child 21 = .ok (.aload 4, 2) := by decide +kernel
theorem dX10_child_23 : decode cX10_child 23 = .ok (.iload 6, 2) := by decide +kernel
theorem dX10_child_25 : decode cX10_child 25 = .ok (.aaload, 1) := by decide +kernel
theorem dX10_child_26 : decode cX10_child 26 = .ok (.astore 7, 2) := by decide +kernel
theorem dX10_child_28 : decode cX10_child 28 = .ok (.aload 7, 2) := by decide +kernel
theorem dX10_child_30 : decode cX10_child 30 = .ok (.getfield 16, 3) := by decide +kernel
theorem dX10_child_33 : decode cX10_child 33 = .ok (.ifCond .eq 25, 3) := by decide +kernel
theorem dX10_child_36 : decode cX10_child 36 = .ok (.aload 7, 2) := by decide +kernel
theorem dX10_child_38 : decode cX10_child 38 = .ok (.getfield 20, 3) := by decide +kernel
theorem dX10_child_41 : decode cX10_child 41 = .ok (.aload_n 1, 1) := by decide +kernel
theorem dX10_child_42 : decode cX10_child 42 = .ok (.if_acmp .ne 16, 3) := by decide +kernel
theorem dX10_child_45 : decode cX10_child 45 = .ok (.aload 7, 2) := by decide +kernel
theorem dX10_child_47 : decode cX10_child 47 = .ok (.getfield 24, 3) := by decide +kernel
theorem dX10_child_50 : decode cX10_child 50 = .ok (.lload_n 2, 1) := by decide +kernel
theorem dX10_child_51 : decode cX10_child 51 = .ok (.lcmp, 1) := by decide +kernel
theorem dX10_child_52 : decode cX10_child 52 = .ok (.ifCond .ne 6, 3) := by decide +kernel
theorem dX10_child_55 : decode cX10_child 55 = .ok (.aload 7, 2) := by decide +kernel
theorem dX10_child_57 : decode cX10_child 57 = .ok (.areturn, 1) := by decide +kernel
theorem dX10_child_58 : decode cX10_child 58 = .ok (.iinc 6 1, 3) := by decide +kernel
theorem dX10_child_61 : decode cX10_child 61 = .ok (.goto (-47), 3) := by decide +kernel
theorem dX10_child_64 : decode cX10_child 64 = .ok (.aconst_null, 1) := by decide +kernel
theorem dX10_child_65 : decode cX10_child 65 = .ok (.areturn, 1) := by decide +kernel
theorem dX12_init_0 : decode cX12_init 0 = .ok (.aload_n 0, 1) := by decide +kernel
theorem dX12_init_1 : decode cX12_init 1 = .ok (.invokespecial 1, 3) := by decide +kernel
theorem dX12_init_4 : decode cX12_init 4 = .ok (.aload_n 0, 1) := by decide +kernel
theorem dX12_init_5 : decode cX12_init 5 = .ok (.new 7, 3) := by decide +kernel
theorem dX12_init_8 : decode cX12_init 8 = .ok (.dup, 1) := by decide +kernel
theorem dX12_init_9 : decode cX12_init 9 = .ok (.invokespecial 9, 3) := by decide +kernel
theorem dX12_init_12 : decode cX12_init 12 = .ok (.putfield 10, 3) := by decide +kernel
theorem dX12_init_15 : decode cX12_init 15 = .ok (.aload_n 0, 1) := by decide +kernel
theorem dX12_init_16 : decode cX12_init 16 = .ok (.new 16, 3) := by decide +kernel
theorem dX12_init_19 : decode cX12_init 19 = .ok (.dup, 1) := by decide +kernel
theorem dX12_init_20 : decode cX12_init 20 = .ok (.invokespecial 18, 3) := by decide +kernel
theorem dX12_init_23 : decode cX12_init 23 = .ok (.putfield 19, 3) := by decide +kernel
theorem dX12_init_26 : decode cX12_init 26 = .ok (.aload_n 0, 1) := by decide +kernel
theorem dX12_init_27 : decode cX12_init 27 = .ok (.new 23, 3) := by decide +kernel
theorem dX12_init_30 : decode cX12_init 30 = .ok (.dup, 1) := by decide +kernel
theorem dX12_init_31 : decode cX12_init 31 = .ok (.invokespecial 25, 3) := by decide +kernel
theorem dX12_init_34 : decode cX12_init 34 = .ok (.putfield 26, 3) := by decide +kernel
theorem dX12_init_37 : decode cX12_init 37 = .ok (.aload_n 0, 1) := by decide +kernel
theorem dX12_init_38 : decode cX12_init 38 = .ok (.new 30, 3) := by decide +kernel
theorem dX12_init_41 : decode cX12_init 41 = .ok (.dup, 1) := by decide +kernel
theorem dX12_init_42 : decode cX12_init 42 = .ok (.invokespecial 32, 3) := by decide +kernel
theorem dX12_init_45 : decode cX12_init 45 = .ok (.putfield 33, 3) := by decide +kernel
theorem dX12_init_48 : decode cX12_init 48 = .ok (.aload_n 0, 1) := by decide +kernel
theorem dX12_init_49 : decode cX12_init 49 = .ok (.new 37, 3) := by decide +kernel
theorem dX12_init_52 : decode cX12_init 52 = .ok (.dup, 1) := by decide +kernel
theorem dX12_init_53 : decode cX12_init 53 = .ok (.invokespecial 39, 3) := by decide +kernel
theorem dX12_init_56 : decode cX12_init 56 = .ok (.putfield 40, 3) := by decide +kernel
theorem dX12_init_59 : decode cX12_init 59 = .ok (.aload_n 0, 1) := by decide +kernel
theorem dX12_init_60 : decode cX12_init 60 = .ok (.new 44, 3) := by decide +kernel
theorem dX12_init_63 : decode cX12_init 63 = .ok (.dup, 1) := by decide +kernel
theorem dX12_init_64 : decode cX12_init 64 = .ok (.invokespecial 46, 3) := by decide +kernel
theorem dX12_init_67 : decode cX12_init 67 = .ok (.putfield 47, 3) := by decide +kernel
theorem dX12_init_70 : decode cX12_init 70 = .ok (.aload_n 0, 1) := by decide +kernel
theorem dX12_init_71 : decode cX12_init 71 = .ok (.new 51, 3) := by decide +kernel
theorem dX12_init_74 : decode cX12_init 74 = .ok (.dup, 1) := by decide +kernel
theorem dX12_init_75 : decode cX12_init 75 = .ok (.invokespecial 53, 3) := by decide +kernel
theorem dX12_init_78 : decode cX12_init 78 = .ok (.putfield 54, 3) := by decide +kernel
theorem dX12_init_81 : decode cX12_init 81 = .ok (.aload_n 0, 1) := by decide +kernel
theorem dX12_init_82 : decode cX12_init 82 = .ok (.new 51, 3) := by decide +kernel
theorem dX12_init_85 : decode cX12_init 85 = .ok (.dup, 1) := by decide +kernel
theorem dX12_init_86 : decode cX12_init 86 = .ok (.invokespecial 53, 3) := by decide +kernel
theorem dX12_init_89 : decode cX12_init 89 = .ok (.putfield 58, 3) := by decide +kernel
theorem dX12_init_92 : decode cX12_init 92 = .ok (.aload_n 0, 1) := by decide +kernel
theorem dX12_init_93 : decode cX12_init 93 = .ok (.iconst 0, 1) := by decide +kernel
theorem dX12_init_94 : decode cX12_init 94 = .ok (.putfield 61, 3) := by decide +kernel
theorem dX12_init_97 : decode cX12_init 97 = .ok (.aload_n 0, 1) := by decide +kernel
theorem dX12_init_98 : decode cX12_init 98 = .ok (.iconst 0, 1) := by decide +kernel
theorem dX12_init_99 : decode cX12_init 99 = .ok (.putfield 65, 3) := by decide +kernel
theorem dX12_init_102 : decode cX12_init 102 = .ok (.aload_n 0, 1) := by decide +kernel
theorem dX12_init_103 : decode cX12_init 103 = .ok (.aconst_null, 1) := by decide +kernel
theorem dX12_init_104 : decode cX12_init 104 = .ok (.putfield 69, 3) := by decide +kernel
theorem dX12_init_107 : decode cX12_init 107 = .ok (.aload_n 0, 1) := by decide +kernel
theorem dX12_init_108 : decode cX12_init 108 = .ok (.aconst_null, 1) := by decide +kernel
theorem dX12_init_109 : decode cX12_init 109 = .ok (.putfield 73, 3) := by decide +kernel
theorem dX12_init_112 : decode cX12_init 112 = .ok (.aload_n 0, 1) := by decide +kernel
theorem dX12_init_113 : decode cX12_init 113 = .ok (.iconst 0, 1) := by decide +kernel
theorem dX12_init_114 : decode cX12_init 114 = .ok (.putfield 76, 3) := by decide +kernel
theorem dX12_init_117 : decode cX12_init 117 = .ok (.aload_n 0, 1) := by decide +kernel
theorem dX12_init_118 : decode cX12_init 118 = .ok (.getstatic 79, 3) := by decide +kernel
theorem dX12_init_121 : decode cX12_init 121 = .ok (.putfield 85, 3) := by decide +kernel
theorem dX12_init_124 : decode cX12_init 124 = .ok (.aload_n 0, 1) := by decide +kernel
theorem dX12_init_125 : decode cX12_init 125 = .ok (.iconst (-1), 1) := by decide +kernel
theorem dX12_init_126 : decode cX12_init 126 = .ok (.putfield 88, 3) := by decide +kernel
theorem dX12_init_129 : decode cX12_init 129 = .ok (.aload_n 0, 1) := by decide +kernel
theorem dX12_init_130 : decode cX12_init 130 = .ok (.iconst (-1), 1) := by decide +kernel
theorem dX12_init_131 : decode cX12_init 131 = .ok (.putfield 91, 3) := by decide +kernel
theorem dX12_init_134 : decode cX12_init 134 = .ok (.return_, 1) := by decide +kernel
theorem dX12_account_0 : decode cX12_account 0 = .ok (.lload_n 1, 1) := by decide +kernel
theorem dX12_account_1 : decode cX12_account 1 = .ok (.invokestatic 94, 3) := by decide +kernel
theorem dX12_account_4 : decode cX12_account 4 = .ok (.invokestatic 100, 3) := by decide +kernel
theorem dX12_account_7 : decode cX12_account 7 = .ok (.lstore 5, 2) := by decide +kernel
theorem dX12_account_9 : decode cX12_account 9 = .ok (.lload_n 3, 1) := by decide +kernel
theorem dX12_account_10 : decode cX12_account 10 = .ok (.invokestatic 94, 3) := by decide +kernel
theorem dX12_account_13 : decode cX12_account 13 = .ok (.invokestatic 100, 3) := by decide +kernel
theorem dX12_account_16 : decode cX12_account 16 = .ok (.lstore 7, 2) := by decide +kernel
theorem dX12_account_18 : decode cX12_account 18 = .ok (.aload_n 0, 1) := by decide +kernel
theorem dX12_account_19 : decode cX12_account 19 = .ok (.getfield 61, 3) := by decide +kernel
theorem dX12_account_22 : decode cX12_account 22 = .ok (.ifCond .ne 14, 3) := by decide +kernel
theorem dX12_account_25 : decode cX12_account 25 = .ok (.aload_n 0, 1) := by decide +kernel
theorem dX12_account_26 : decode cX12_account 26 = .ok (.getfield 26, 3) := by decide +kernel
theorem dX12_account_29 : decode cX12_account 29 = .ok (.invokevirtual 103, 3) := by decide +kernel
theorem dX12_account_32 : decode cX12_account 32 = .ok (.iconst 4, 1) := by decide +kernel
theorem dX12_account_33 : decode cX12_account 33 = .ok (.if_icmp .lt 5, 3) := by decide +kernel
theorem dX12_account_36 : decode cX12_account 36 = .ok (.iconst 0, 1) := by decide +kernel
theorem dX12_account_37 : decode cX12_account 37 = .ok (.ireturn, 1) := by decide +kernel
theorem dX12_account_38 : decode cX12_account 38 = .ok (.lload 5, 2) := by decide +kernel
theorem dX12_account_40 : decode cX12_account 40 = .ok (.lconst 0, 1) := by decide +kernel
theorem dX12_account_41 : decode cX12_account 41 = .ok (.lcmp, 1) := by decide +kernel
theorem dX12_account_42 : decode cX12_account 42 = .ok (.ifCond .eq 19, 3) := by decide +kernel
theorem dX12_account_45 : decode cX12_account 45 = .ok (.lload 7, 2) := by decide +kernel
theorem dX12_account_47 : decode cX12_account 47 = .ok (.lconst 0, 1) := by decide +kernel
theorem dX12_account_48 : decode cX12_account 48 = .ok (.lcmp, 1) := by decide +kernel
theorem dX12_account_49 : decode cX12_account 49 = .ok (.ifCond .eq 12, 3) := by decide +kernel
theorem dX12_account_52 : decode cX12_account 52 = .ok (.aload_n 0, 1) := by decide +kernel
theorem dX12_account_53 : decode cX12_account 53 = .ok (.lload 5, 2) := by decide +kernel
theorem dX12_account_55 : decode cX12_account 55 = .ok (.invokevirtual 107, 3) := by decide +kernel
theorem dX12_account_58 : decode cX12_account 58 = .ok (.ifnull 5, 3) := by decide +kernel
theorem dX12_account_61 : decode cX12_account 61 = .ok (.iconst 0, 1) := by decide +kernel
theorem dX12_account_62 : decode cX12_account 62 = .ok (.ireturn, 1) := by decide +kernel
theorem dX12_account_63 : decode cX12_account 63 = .ok (.aload_n 0, 1) := by decide +kernel
theorem dX12_account_64 : decode cX12_account 64 = .ok (.getfield 19, 3) := by decide +kernel
theorem dX12_account_67 : decode cX12_account 67 = .ok (.aconst_null, 1) := by decide +kernel
theorem dX12_account_68 : decode cX12_account 68 = .ok (.lconst 0, 1) := by decide +kernel
theorem dX12_account_69 : decode cX12_account 69 = .ok (.iconst 1, 1) := by decide +kernel
theorem dX12_account_70 : decode cX12_account 70 = .ok (.invokevirtual 111, 3) := by decide +kernel
theorem dX12_account_73 : decode cX12_account 73 = .ok (.astore 9, 2) := by decide +kernel
theorem dX12_account_75 : decode cX12_account 75 = .ok (.aload 9, 2) := by decide +kernel
theorem dX12_account_77 : decode cX12_account 77 = .ok (.ifnonnull 5, 3) := by decide +kernel
theorem dX12_account_80 : decode cX12_account 80 = .ok (.iconst 0, 1) := by decide +kernel
theorem dX12_account_81 : decode cX12_account 81 = .ok (.ireturn, 1) := by decide +kernel
theorem dX12_account_82 : decode cX12_account 82 = .ok (.aload_n 0, 1) := by decide +kernel
theorem dX12_account_83 : decode cX12_account 83 = .ok (.getfield 26, 3) := by decide +kernel
theorem dX12_account_86 : decode cX12_account 86 = .ok (.new 115, 3) := by decide +kernel
theorem dX12_account_89 : decode cX12_account 89 = .ok (.dup, 1) := by decide +kernel
theorem dX12_account_90 : decode cX12_account 90 = .ok (.lload 5, 2) := by decide +kernel
theorem dX12_account_92 : decode cX12_account 92 = .ok (.lload 7, 2) := by decide +kernel
theorem dX12_account_94 : decode cX12_account 94 = .ok (.aload 9, 2) := by decide +kernel
theorem dX12_account_96 : decode cX12_account 96 = .ok (.invokespecial 117, 3) := by decide +kernel
theorem dX12_account_99 : decode cX12_account 99 = .ok (.invokevirtual 120, 3) := by decide +kernel
theorem dX12_account_102 : decode cX12_account 102 = .ok (.pop, 1) := by decide +kernel
theorem dX12_account_103 : decode cX12_account 103 = .ok (.iconst 1, 1) := by decide +kernel
theorem dX12_account_104 : decode cX12_account 104 = .ok (.ireturn, 1) := by decide +kernel
theorem dX12_open_0 : decode cX12_open 0 = .ok (.aload_n 0, 1) := by decide +kernel
theorem dX12_open_1 : decode cX12_open 1 = .ok (.getfield 61, 3) := by decide +kernel
theorem dX12_open_4 : decode cX12_open 4 = .ok (.ifCond .eq 5, 3) := by decide +kernel
theorem dX12_open_7 : decode cX12_open 7 = .ok (.iconst 0, 1) := by decide +kernel
theorem dX12_open_8 : decode cX12_open 8 = .ok (.ireturn, 1) := by decide +kernel
theorem dX12_open_9 : decode cX12_open 9 = .ok (.aload_n 0, 1) := by decide +kernel
theorem dX12_open_10 : decode cX12_open 10 = .ok (.iconst 1, 1) := by decide +kernel
theorem dX12_open_11 : decode cX12_open 11 = .ok (.putfield 61, 3) := by decide +kernel
theorem dX12_open_14 : decode cX12_open 14 = .ok (.aload_n 0, 1) := by decide +kernel
theorem dX12_open_15 : decode cX12_open 15 = .ok (.invokevirtual 123, 3) := by decide +kernel
theorem dX12_open_18 : decode cX12_open 18 = .ok (.aload_n 0, 1) := by decide +kernel
theorem dX12_open_19 : decode cX12_open 19 = .ok (.iconst 0, 1) := by decide +kernel
theorem dX12_open_20 : decode cX12_open 20 = .ok (.putfield 76, 3) := by decide +kernel
theorem dX12_open_23 : decode cX12_open 23 = .ok (.aload_n 0, 1) := by decide +kernel
theorem dX12_open_24 : decode cX12_open 24 = .ok (.getstatic 79, 3) := by decide +kernel
theorem dX12_open_27 : decode cX12_open 27 = .ok (.putfield 85, 3) := by decide +kernel
theorem dX12_open_30 : decode cX12_open 30 = .ok (.aload_n 0, 1) := by decide +kernel
theorem dX12_open_31 : decode cX12_open 31 = .ok (.getfield 58, 3) := by decide +kernel
theorem dX12_open_34 : decode cX12_open 34 = .ok (.invokevirtual 126, 3) := by decide +kernel
theorem dX12_open_37 : decode cX12_open 37 = .ok (.aload_n 0, 1) := by decide +kernel
theorem dX12_open_38 : decode cX12_open 38 = .ok (.sipush 220, 3) := by decide +kernel
theorem dX12_open_41 : decode cX12_open 41 = .ok (.putfield 65, 3) := by decide +kernel
theorem dX12_open_44 : decode cX12_open 44 = .ok (.iconst 1, 1) := by decide +kernel
theorem dX12_open_45 : decode cX12_open 45 = .ok (.ireturn, 1) := by decide +kernel
theorem dX12_type_0 : decode cX12_type 0 = .ok (.aload_n 0, 1) := by decide +kernel
theorem dX12_type_1 : decode cX12_type 1 = .ok (.getfield 10, 3) := by decide +kernel
theorem dX12_type_4 : decode cX12_type 4 = .ok (.iload_n 1, 1) := by decide +kernel
theorem dX12_type_5 : decode cX12_type 5 = .ok (.invokevirtual 129, 3) := by decide +kernel
theorem dX12_type_8 : decode cX12_type 8 = .ok (.ireturn, 1) := by decide +kernel
theorem dX12_word_0 : decode cX12_word 0 = .ok (.iconst 0, 1) := by decide +kernel
theorem dX12_word_1 : decode cX12_word 1 = .ok (.istore_n 3, 1) := by decide +kernel
theorem dX12_word_2 : decode cX12_word 2 = .ok (.iload_n 3, 1) := by decide +kernel
theorem dX12_word_3 : decode cX12_word 3 = .ok (.bipush 8, 2) := by decide +kernel
theorem dX12_word_5 : decode cX12_word 5 = .ok (.if_icmp .ge 37, 3) := by decide +kernel
theorem dX12_word_8 : decode cX12_word 8 = .ok (.lload_n 1, 1) := by decide +kernel
theorem dX12_word_9 : decode cX12_word 9 = .ok (.bipush 8, 2) := by decide +kernel
theorem dX12_word_11 : decode cX12_word 11 = .ok (.iload_n 3, 1) := by decide +kernel
theorem dX12_word_12 : decode cX12_word 12 = .ok (.imul, 1) := by decide +kernel
theorem dX12_word_13 : decode cX12_word 13 = .ok (.lushr, 1) := by decide +kernel
theorem dX12_word_14 : decode cX12_word 14 = .ok (.ldc2_w 132, 3) := by decide +kernel
theorem dX12_word_17 : decode cX12_word 17 = .ok (.land, 1) := by decide +kernel
theorem dX12_word_18 : decode cX12_word 18 = .ok (.l2i, 1) := by decide +kernel
theorem dX12_word_19 : decode cX12_word 19 = .ok (.i2c, 1) := by decide +kernel
theorem dX12_word_20 : decode cX12_word 20 = .ok (.istore 4, 2) := by decide +kernel
theorem dX12_word_22 : decode cX12_word 22 = .ok (.aload_n 0, 1) := by decide +kernel
theorem dX12_word_23 : decode cX12_word 23 = .ok (.getfield 10, 3) := by decide +kernel
theorem dX12_word_26 : decode cX12_word 26 = .ok (.iload 4, 2) := by decide +kernel
theorem dX12_word_28 : decode cX12_word 28 = .ok (.invokevirtual 129, 3) := by decide +kernel
theorem dX12_word_31 : decode cX12_word 31 = .ok (.ifCond .ne 5, 3) := by decide +kernel
theorem dX12_word_34 : decode cX12_word 34 = .ok (.iload_n 3, 1) := by decide +kernel
theorem dX12_word_35 : decode cX12_word 35 = .ok (.ireturn, 1) := by decide +kernel
theorem dX12_word_36 : decode cX12_word 36 = .ok (.iinc 3 1, 3) := by decide +kernel
theorem dX12_word_39 : decode cX12_word 39 = .ok (.goto (-37), 3) := by decide +kernel
theorem dX12_word_42 : decode cX12_word 42 = .ok (.bipush 8, 2) := by decide +kernel
theorem dX12_word_44 : decode cX12_word 44 = .ok (.ireturn, 1) := by decide +kernel
theorem dX12_enter_0 : decode cX12_enter 0 = .ok (.iconst (-1), 1) := by decide +kernel
theorem dX12_enter_1 : decode cX12_enter 1 = .ok (.istore_n 1, 1) := by decide +kernel
theorem dX12_enter_2 : decode cX12_enter 2 = .ok (.aload_n 0, 1) := by decide +kernel
theorem dX12_enter_3 : decode cX12_enter 3 = .ok (.getfield 61, 3) := by decide +kernel
theorem dX12_enter_6 : decode cX12_enter 6 = .ok (.ifCond .eq 24, 3) := by decide +kernel
theorem dX12_enter_9 : decode cX12_enter 9 = .ok (.aload_n 0, 1) := by decide +kernel
theorem dX12_enter_10 : decode cX12_enter 10 = .ok (.getfield 54, 3) := by decide +kernel
theorem dX12_enter_13 : decode cX12_enter 13 = .ok (.aload_n 0, 1) := by decide +kernel
theorem dX12_enter_14 : decode cX12_enter 14 = .ok (.getfield 58, 3) := by decide +kernel
theorem dX12_enter_17 : decode cX12_enter 17 = .ok (.invokevirtual 134, 3) := by decide +kernel
theorem dX12_enter_20 : decode cX12_enter 20 = .ok (.aload_n 0, 1) := by decide +kernel
theorem dX12_enter_21 : decode cX12_enter 21 = .ok (.invokevirtual 138, 3) := by decide +kernel
theorem dX12_enter_24 : decode cX12_enter 24 = .ok (.istore_n 1, 1) := by decide +kernel
theorem dX12_enter_25 : decode cX12_enter 25 = .ok (.aload_n 0, 1) := by decide +kernel
theorem dX12_enter_26 : decode cX12_enter 26 = .ok (.iload_n 1, 1) := by decide +kernel
theorem dX12_enter_27 : decode cX12_enter 27 = .ok (.putfield 65, 3) := by decide +kernel
theorem dX12_enter_30 : decode cX12_enter 30 = .ok (.aload_n 0, 1) := by decide +kernel
theorem dX12_enter_31 : decode cX12_enter 31 = .ok (.getfield 10, 3) := by decide +kernel
theorem dX12_enter_34 : decode cX12_enter 34 = .ok (.invokevirtual 141, 3) := by decide +kernel
theorem dX12_enter_37 : decode cX12_enter 37 = .ok (.iload_n 1, 1) := by decide +kernel
theorem dX12_enter_38 : decode cX12_enter 38 = .ok (.ireturn, 1) := by decide +kernel
theorem dX12_reply_0 : decode cX12_reply 0 = .ok (.aload_n 0, 1) := by decide +kernel
theorem dX12_reply_1 : decode cX12_reply 1 = .ok (.getfield 65, 3) := by decide +kernel
theorem dX12_reply_4 : decode cX12_reply 4 = .ok (.ireturn, 1) := by decide +kernel
theorem dX12_text_0 : decode cX12_text 0 = .ok (.aload_n 0, 1) := by decide +kernel
theorem dX12_text_1 : decode cX12_text 1 = .ok (.getfield 65, 3) := by decide +kernel
theorem dX12_text_4 : decode cX12_text 4 = .ok (.sipush 257, 3) := by decide +kernel
theorem dX12_text_7 : decode cX12_text 7 = .ok (.if_icmp .eq 13, 3) := by decide +kernel
theorem dX12_text_10 : decode cX12_text 10 = .ok (.aload_n 0, 1) := by decide +kernel
theorem dX12_text_11 : decode cX12_text 11 = .ok (.getfield 65, 3) := by decide +kernel
theorem dX12_text_14 : decode cX12_text 14 = .ok (.sipush 213, 3) := by decide +kernel
theorem dX12_text_17 : decode cX12_text 17 = .ok (.if_icmp .ne 14, 3) := by decide +kernel
theorem dX12_text_20 : decode cX12_text 20 = .ok (.aload_n 0, 1) := by decide +kernel
theorem dX12_text_21 : decode cX12_text 21 = .ok (.getfield 40, 3) := by decide +kernel
theorem dX12_text_24 : decode cX12_text 24 = .ok (.iload_n 1, 1) := by decide +kernel
theorem dX12_text_25 : decode cX12_text 25 = .ok (.invokevirtual 142, 3) := by decide +kernel
theorem dX12_text_28 : decode cX12_text 28 = .ok (.goto 4, 3) := by decide +kernel
theorem dX12_text_31 : decode cX12_text 31 = .ok (.iconst 0, 1) := by decide +kernel
theorem dX12_text_32 : decode cX12_text 32 = .ok (.ireturn, 1) := by decide +kernel
theorem dX12_join_0 : decode cX12_join 0 = .ok (.aload_n 0, 1) := by decide +kernel
theorem dX12_join_1 : decode cX12_join 1 = .ok (.getfield 85, 3) := by decide +kernel
theorem dX12_join_4 : decode cX12_join 4 = .ok (.getstatic 146, 3) := by decide +kernel
theorem dX12_join_7 : decode cX12_join 7 = .ok (.if_acmp .eq 5, 3) := by decide +kernel
theorem dX12_join_10 : decode cX12_join 10 = .ok (.iconst 0, 1) := by decide +kernel
theorem dX12_join_11 : decode cX12_join 11 = .ok (.ireturn, 1) := by decide +kernel
theorem dX12_join_12 : decode cX12_join 12 = .ok (.aload_n 0, 1) := by decide +kernel
theorem dX12_join_13 : decode cX12_join 13 = .ok (.getstatic 149, 3) := by decide +kernel
theorem dX12_join_16 : decode cX12_join 16 = .ok (.putfield 85, 3) := by decide +kernel
theorem dX12_join_19 : decode cX12_join 19 = .ok (.iconst 1, 1) := by decide +kernel
theorem dX12_join_20 : decode cX12_join 20 = .ok (.ireturn, 1) := by decide +kernel
theorem dX12_listen_0 : decode cX12_listen 0 = .ok (.iload_n 1, 1) := by decide +kernel
theorem dX12_listen_1 : decode cX12_listen 1 = .ok (.iconst (-1), 1) := by decide +kernel
theorem dX12_listen_2 : decode cX12_listen 2 = .ok (.if_icmp .lt 9, 3) := by decide +kernel
theorem dX12_listen_5 : decode cX12_listen 5 = .ok (.iload_n 1, 1) := by decide +kernel
theorem dX12_listen_6 : decode cX12_listen 6 = .ok (.ldc 152, 2) := by decide +kernel
theorem dX12_listen_8 : decode cX12_listen 8 = .ok (.if_icmp .le 5, 3) := by decide +kernel
theorem dX12_listen_11 : decode cX12_listen 11 = .ok (.iconst 0, 1) := by decide +kernel
theorem dX12_listen_12 : decode cX12_listen 12 = .ok (.ireturn, 1) := by decide +kernel
theorem dX12_listen_13 : decode cX12_listen 13 = .ok (.aload_n 0, 1) := by decide +kernel
theorem dX12_listen_14 : decode cX12_listen 14 = .ok (.iload_n 1, 1) := by decide +kernel
theorem dX12_listen_15 : decode cX12_listen 15 = .ok (.putfield 91, 3) := by decide +kernel
theorem dX12_listen_18 : decode cX12_listen 18 = .ok (.iconst 1, 1) := by decide +kernel
theorem dX12_listen_19 : decode cX12_listen 19 = .ok (.ireturn, 1) := by decide +kernel
theorem dX12_take_0 : decode cX12_take 0 = .ok (.aload_n 0, 1) := by decide +kernel
theorem dX12_take_1 : decode cX12_take 1 = .ok (.getfield 47, 3) := by decide +kernel
theorem dX12_take_4 : decode cX12_take 4 = .ok (.getfield 153, 3) := by decide +kernel
theorem dX12_take_7 : decode cX12_take 7 = .ok (.iconst 1, 1) := by decide +kernel
theorem dX12_take_8 : decode cX12_take 8 = .ok (.if_icmp .eq 5, 3) := by decide +kernel
theorem dX12_take_11 : decode cX12_take 11 = .ok (.iconst (-1), 1) := by decide +kernel
theorem dX12_take_12 : decode cX12_take 12 = .ok (.ireturn, 1) := by decide +kernel
theorem dX12_take_13 : decode cX12_take 13 = .ok (.aload_n 0, 1) := by decide +kernel
theorem dX12_take_14 : decode cX12_take 14 = .ok (.getfield 47, 3) := by decide +kernel
theorem dX12_take_17 : decode cX12_take 17 = .ok (.invokevirtual 156, 3) := by decide +kernel
theorem dX12_take_20 : decode cX12_take 20 = .ok (.istore_n 1, 1) := by decide +kernel
theorem dX12_take_21 : decode cX12_take 21 = .ok (.iload_n 1, 1) := by decide +kernel
theorem dX12_take_22 : decode cX12_take 22 = .ok (.iconst (-1), 1) := by decide +kernel
theorem dX12_take_23 : decode cX12_take 23 = .ok (.if_icmp .ne 14, 3) := by decide +kernel
theorem dX12_take_26 : decode cX12_take 26 = .ok (.aload_n 0, 1) := by decide +kernel
theorem dX12_take_27 : decode cX12_take 27 = .ok (.invokevirtual 159, 3) := by decide +kernel
theorem dX12_take_30 : decode cX12_take 30 = .ok (.aload_n 0, 1) := by decide +kernel
theorem dX12_take_31 : decode cX12_take 31 = .ok (.sipush 226, 3) := by decide +kernel
theorem dX12_take_34 : decode cX12_take 34 = .ok (.putfield 65, 3) := by decide +kernel
theorem dX12_take_37 : decode cX12_take 37 = .ok (.iload_n 1, 1) := by decide +kernel
theorem dX12_take_38 : decode cX12_take 38 = .ok (.ireturn, 1) := by decide +kernel
theorem dX12_give_0 : decode cX12_give 0 = .ok (.aload_n 0, 1) := by decide +kernel
theorem dX12_give_1 : decode cX12_give 1 = .ok (.getfield 47, 3) := by decide +kernel
theorem dX12_give_4 : decode cX12_give 4 = .ok (.getfield 153, 3) := by decide +kernel
theorem dX12_give_7 : decode cX12_give 7 = .ok (.iconst 2, 1) := by decide +kernel
theorem dX12_give_8 : decode cX12_give 8 = .ok (.if_icmp .ne 22, 3) := by decide +kernel
theorem dX12_give_11 : decode cX12_give 11 = .ok (.aload_n 0, 1) := by decide +kernel
theorem dX12_give_12 : decode cX12_give 12 = .ok (.getfield 47, 3) := by decide +kernel
theorem dX12_give_15 : decode cX12_give 15 = .ok (.iload_n 1, 1) := by decide +kernel
theorem dX12_give_16 : decode cX12_give 16 = .ok (.sipush 255, 3) := by decide +kernel
theorem dX12_give_19 : decode cX12_give 19 = .ok (.iand, 1) := by decide +kernel
theorem dX12_give_20 : decode cX12_give 20 = .ok (.invokevirtual 162, 3) := by decide +kernel
theorem dX12_give_23 : decode cX12_give 23 = .ok (.ifCond .eq 7, 3) := by decide +kernel
theorem dX12_give_26 : decode cX12_give 26 = .ok (.iconst 1, 1) := by decide +kernel
theorem dX12_give_27 : decode cX12_give 27 = .ok (.goto 4, 3) := by decide +kernel
theorem dX12_give_30 : decode cX12_give 30 = .ok (.iconst 0, 1) := by decide +kernel
theorem dX12_give_31 : decode cX12_give 31 = .ok (.ireturn, 1) := by decide +kernel
theorem dX12_end_0 : decode cX12_end 0 = .ok (.aload_n 0, 1) := by decide +kernel
theorem dX12_end_1 : decode cX12_end 1 = .ok (.getfield 47, 3) := by decide +kernel
theorem dX12_end_4 : decode cX12_end 4 = .ok (.getfield 153, 3) := by decide +kernel
theorem dX12_end_7 : decode cX12_end 7 = .ok (.iconst 2, 1) := by decide +kernel
theorem dX12_end_8 : decode cX12_end 8 = .ok (.if_icmp .eq 5, 3) := by decide +kernel
theorem dX12_end_11 : decode cX12_end 11 = .ok (.iconst (-1), 1) := by decide +kernel
theorem dX12_end_12 : decode cX12_end 12 = .ok (.ireturn, 1) := by decide +kernel
theorem dX12_end_13 : decode cX12_end 13 = .ok (.aload_n 0, 1) := by decide +kernel
theorem dX12_end_14 : decode cX12_end 14 = .ok (.aload_n 0, 1) := by decide +kernel
theorem dX12_end_15 : decode cX12_end 15 = .ok (.invokevirtual 166, 3) := by decide +kernel
theorem dX12_end_18 : decode cX12_end 18 = .ok (.ifCond .eq 9, 3) := by decide +kernel
theorem dX12_end_21 : decode cX12_end 21 = .ok (.sipush 226, 3) := by decide +kernel
theorem dX12_end_24 : decode cX12_end 24 = .ok (.goto 6, 3) := by decide +kernel
theorem dX12_end_27 : decode cX12_end 27 = .ok (.sipush 452, 3) := by decide +kernel
theorem dX12_end_30 : decode cX12_end 30 = .ok (.putfield 65, 3) := by decide +kernel
theorem dX12_end_33 : decode cX12_end 33 = .ok (.aload_n 0, 1) := by decide +kernel
theorem dX12_end_34 : decode cX12_end 34 = .ok (.invokevirtual 159, 3) := by decide +kernel
theorem dX12_end_37 : decode cX12_end 37 = .ok (.aload_n 0, 1) := by decide +kernel
theorem dX12_end_38 : decode cX12_end 38 = .ok (.getfield 65, 3) := by decide +kernel
theorem dX12_end_41 : decode cX12_end 41 = .ok (.ireturn, 1) := by decide +kernel
theorem dX12_transfer_0 : decode cX12_transfer 0 = .ok (.aload_n 0, 1) := by decide +kernel
theorem dX12_transfer_1 : decode cX12_transfer 1 = .ok (.getfield 47, 3) := by decide +kernel
theorem dX12_transfer_4 : decode cX12_transfer 4 = .ok (.getfield 153, 3) := by decide +kernel
theorem dX12_transfer_7 : decode cX12_transfer 7 = .ok (.ireturn, 1) := by decide +kernel
theorem dX12_nodes_0 : decode cX12_nodes 0 = .ok (.aload_n 0, 1) := by decide +kernel
theorem dX12_nodes_1 : decode cX12_nodes 1 = .ok (.getfield 19, 3) := by decide +kernel
theorem dX12_nodes_4 : decode cX12_nodes 4 = .ok (.invokevirtual 170, 3) := by decide +kernel
theorem dX12_nodes_7 : decode cX12_nodes 7 = .ok (.ireturn, 1) := by decide +kernel
theorem dX12_bytes_0 : decode cX12_bytes 0 = .ok (.aload_n 0, 1) := by decide +kernel
theorem dX12_bytes_1 : decode cX12_bytes 1 = .ok (.getfield 19, 3) := by decide +kernel
theorem dX12_bytes_4 : decode cX12_bytes 4 = .ok (.invokevirtual 173, 3) := by decide +kernel
theorem dX12_bytes_7 : decode cX12_bytes 7 = .ok (.ireturn, 1) := by decide +kernel
theorem dX12_accountOf_0 : decode cX12_accountOf 0 = .ok (.iconst 0, 1) := by decide +kernel
theorem dX12_accountOf_1 : decode cX12_accountOf 1 = .ok (.istore_n 3, 1) := by decide +kernel
theorem dX12_accountOf_2 : decode cX12_accountOf 2 = .ok (.iload_n 3, 1) := by decide +kernel
theorem dX12_accountOf_3 : decode cX12_accountOf 3 = .ok (.aload_n 0, 1) := by decide +kernel
theorem dX12_accountOf_4 : decode cX12_accountOf 4 = .ok (.getfield 26, 3) := by decide +kernel
theorem dX12_accountOf_7 : decode cX12_accountOf 7 = .ok (.invokevirtual 103, 3) := by decide +kernel
theorem dX12_accountOf_10 : decode cX12_accountOf 10 = .ok (.if_icmp .ge 35, 3) := by decide +kernel
theorem dX12_accountOf_13 : decode cX12_accountOf 13 = .ok (.aload_n 0, 1) := by decide +kernel
theorem dX12_accountOf_14 : decode cX12_accountOf 14 = .ok (.getfield 26, 3) := by decide +kernel
theorem dX12_accountOf_17 : decode cX12_accountOf 17 = .ok (.iload_n 3, 1) := by decide +kernel
theorem dX12_accountOf_18 : decode cX12_accountOf 18 = .ok (.invokevirtual 176, 3) := by decide +kernel
theorem dX12_accountOf_21 : decode cX12_accountOf 21 = .ok (.checkcast 115, 3) := by decide +kernel
theorem dX12_accountOf_24 : decode cX12_accountOf 24 = .ok (.astore 4, 2) := by decide +kernel
theorem dX12_accountOf_26 : decode cX12_accountOf 26 = .ok (.aload 4, 2) := by decide +kernel
theorem dX12_accountOf_28 : decode cX12_accountOf 28 = .ok (.getfield 180, 3) := by decide +kernel
theorem dX12_accountOf_31 : decode cX12_accountOf 31 = .ok (.lload_n 1, 1) := by decide +kernel
theorem dX12_accountOf_32 : decode cX12_accountOf 32 = .ok (.lcmp, 1) := by decide +kernel
theorem dX12_accountOf_33 : decode cX12_accountOf 33 = .ok (.ifCond .ne 6, 3) := by decide +kernel
theorem dX12_accountOf_36 : decode cX12_accountOf 36 = .ok (.aload 4, 2) := by decide +kernel
theorem dX12_accountOf_38 : decode cX12_accountOf 38 = .ok (.areturn, 1) := by decide +kernel
theorem dX12_accountOf_39 : decode cX12_accountOf 39 = .ok (.iinc 3 1, 3) := by decide +kernel
theorem dX12_accountOf_42 : decode cX12_accountOf 42 = .ok (.goto (-40), 3) := by decide +kernel
theorem dX12_accountOf_45 : decode cX12_accountOf 45 = .ok (.aconst_null, 1) := by decide +kernel
theorem dX12_accountOf_46 : decode cX12_accountOf 46 = .ok (.areturn, 1) := by decide +kernel
theorem dX12_logOut_0 : decode cX12_logOut 0 = .ok (.aload_n 0, 1) := by decide +kernel
theorem dX12_logOut_1 : decode cX12_logOut 1 = .ok (.aconst_null, 1) := by decide +kernel
theorem dX12_logOut_2 : decode cX12_logOut 2 = .ok (.putfield 69, 3) := by decide +kernel
theorem dX12_logOut_5 : decode cX12_logOut 5 = .ok (.aload_n 0, 1) := by decide +kernel
theorem dX12_logOut_6 : decode cX12_logOut 6 = .ok (.aconst_null, 1) := by decide +kernel
theorem dX12_logOut_7 : decode cX12_logOut 7 = .ok (.putfield 73, 3) := by decide +kernel
theorem dX12_logOut_10 : decode cX12_logOut 10 = .ok (.return_, 1) := by decide +kernel
theorem dX12_dropTransfer_0 : decode cX12_dropTransfer 0 = .ok (.aload_n 0, 1) := by decide +kernel
theorem dX12_dropTransfer_1 : decode cX12_dropTransfer 1 = .ok (.getfield 47, 3) := by decide +kernel
theorem dX12_dropTransfer_4 : decode cX12_dropTransfer 4 = .ok (.invokevirtual 184, 3) := by decide +kernel
theorem dX12_dropTransfer_7 : decode cX12_dropTransfer 7 = .ok (.aload_n 0, 1) := by decide +kernel
theorem dX12_dropTransfer_8 : decode cX12_dropTransfer 8 = .ok (.getstatic 79, 3) := by decide +kernel
theorem dX12_dropTransfer_11 : decode cX12_dropTransfer 11 = .ok (.putfield 85, 3) := by decide +kernel
theorem dX12_dropTransfer_14 : decode cX12_dropTransfer 14 = .ok (.return_, 1) := by decide +kernel
theorem dX12_answerLine_0 : decode cX12_answerLine 0 = .ok (.aload_n 0, 1) := by decide +kernel
theorem dX12_answerLine_1 : decode cX12_answerLine 1 = .ok (.invokevirtual 185, 3) := by decide +kernel
theorem dX12_answerLine_4 : decode cX12_answerLine 4 = .ok (.astore_n 1, 1) := by decide +kernel
theorem dX12_answerLine_5 : decode cX12_answerLine 5 = .ok (.aload_n 1, 1) := by decide +kernel
theorem dX12_answerLine_6 : decode cX12_answerLine 6 = .ok (.ifnull 13, 3) := by decide +kernel
theorem dX12_answerLine_9 : decode cX12_answerLine 9 = .ok (.aload_n 0, 1) := by decide +kernel
theorem dX12_answerLine_10 : decode cX12_answerLine 10 = .ok (.getfield 10, 3) := by decide +kernel
theorem dX12_answerLine_13 : decode cX12_answerLine 13 = .ok (.invokevirtual 189, 3) := by decide +kernel
theorem dX12_answerLine_16 : decode cX12_answerLine 16 = .ok (.ifCond .eq 7, 3) := by decide +kernel
theorem dX12_answerLine_19 : decode cX12_answerLine 19 = .ok (.sipush 500, 3) := by decide +kernel
theorem dX12_answerLine_22 : decode cX12_answerLine 22 = .ok (.ireturn, 1) := by decide +kernel
theorem dX12_answerLine_23 : decode cX12_answerLine 23 = .ok (.aload_n 0, 1) := by decide +kernel
theorem dX12_answerLine_24 : decode cX12_answerLine 24 = .ok (.aload_n 1, 1) := by decide +kernel
theorem dX12_answerLine_25 : decode cX12_answerLine 25 = .ok (.invokevirtual 192, 3) := by decide +kernel
theorem dX12_answerLine_28 : decode cX12_answerLine 28 = .ok (.ifCond .ne 7, 3) := by decide +kernel
theorem dX12_answerLine_31 : decode cX12_answerLine 31 = .ok (.sipush 501, 3) := by decide +kernel
theorem dX12_answerLine_34 : decode cX12_answerLine 34 = .ok (.ireturn, 1) := by decide +kernel
theorem dX12_answerLine_35 : decode cX12_answerLine 35 = .ok (.aload_n 0, 1) := by decide +kernel
theorem dX12_answerLine_36 : decode cX12_answerLine 36 = .ok (.getfield 69, 3) := by decide +kernel
theorem dX12_answerLine_39 : decode cX12_answerLine 39 = .ok (.ifnonnull 14, 3) := by decide +kernel
theorem dX12_answerLine_42 : decode cX12_answerLine 42 = .ok (.aload_n 1, 1) := by decide +kernel
theorem dX12_answerLine_43 : decode cX12_answerLine 43 = .ok (.getfield 196, 3) := by decide +kernel
theorem dX12_answerLine_46 : decode cX12_answerLine 46 = .ok (.ifCond .ne 7, 3) := by decide +kernel
theorem dX12_answerLine_49 : decode cX12_answerLine 49 = .ok (.sipush 530, 3) := by decide +kernel
theorem dX12_answerLine_52 : decode cX12_answerLine 52 = .ok (.ireturn, 1) := by decide +kernel
theorem dX12_answerLine_53 : decode cX12_answerLine 53 = .ok (.aload_n 0, 1) := by decide +kernel
theorem dX12_answerLine_54 : decode cX12_answerLine 54 = .ok (.getfield 47, 3) := by decide +kernel
theorem dX12_answerLine_57 : decode cX12_answerLine 57 = .ok (.getfield 153, 3) := by decide +kernel
theorem dX12_answerLine_60 : decode cX12_answerLine 60 = .ok (.ifCond .eq 14, 3) := by decide +kernel
theorem dX12_answerLine_63 : decode cX12_answerLine 63 = .ok (.aload_n 1, 1) := by decide +kernel
theorem dX12_answerLine_64 : decode cX12_answerLine 64 = .ok (.getfield 201, 3) := by decide +kernel
theorem dX12_answerLine_67 : decode cX12_answerLine 67 = .ok (.ifCond .ne 7, 3) := by decide +kernel
theorem dX12_answerLine_70 : decode cX12_answerLine 70 = .ok (.sipush 503, 3) := by decide +kernel
theorem dX12_answerLine_73 : decode cX12_answerLine 73 = .ok (.ireturn, 1) := by decide +kernel
theorem dX12_answerLine_74 : decode cX12_answerLine 74 = .ok (.aload_n 1, 1) := by decide +kernel
theorem dX12_answerLine_75 : decode cX12_answerLine 75 = .ok (.getfield 204, 3) := by decide +kernel
theorem dX12_answerLine_78 : decode cX12_answerLine 78 = .ok (.iconst 2, 1) := by decide +kernel
theorem dX12_answerLine_79 : decode cX12_answerLine 79 = .ok (.if_icmp .eq 11, 3) := by decide +kernel
theorem dX12_answerLine_82 : decode cX12_answerLine 82 = .ok (.aload_n 1, 1) := by decide +kernel
theorem dX12_answerLine_83 : decode cX12_answerLine 83 = .ok (.getfield 204, 3) := by decide +kernel
theorem dX12_answerLine_86 : decode cX12_answerLine 86 = .ok (.iconst 3, 1) := by decide +kernel
theorem dX12_answerLine_87 : decode cX12_answerLine 87 = .ok (.if_icmp .ne 28, 3) := by decide +kernel
theorem dX12_answerLine_90 : decode cX12_answerLine 90 = .ok (.aload_n 0, 1) := by decide +kernel
theorem dX12_answerLine_91 : decode cX12_answerLine 91 = .ok (.getfield 33, 3) := by decide +kernel
theorem dX12_answerLine_94 : decode cX12_answerLine 94 = .ok (.aload_n 0, 1) := by decide +kernel
theorem dX12_answerLine_95 : decode cX12_answerLine 95 = .ok (.getfield 19, 3) := by decide +kernel
theorem dX12_answerLine_98 : decode cX12_answerLine 98 = .ok (.aload_n 0, 1) := by decide +kernel
theorem dX12_answerLine_99 : decode cX12_answerLine 99 = .ok (.getfield 69, 3) := by decide +kernel
theorem dX12_answerLine_102 : decode cX12_answerLine 102 = .ok (.aload_n 0, 1) := by decide +kernel
theorem dX12_answerLine_103 : decode cX12_answerLine 103 = .ok (.getfield 73, 3) := by decide +kernel
theorem dX12_answerLine_106 : decode cX12_answerLine 106 = .ok (.invokevirtual 207, 3) := by decide +kernel
theorem dX12_answerLine_109 : decode cX12_answerLine 109 = .ok (.aload_n 0, 1) := by decide +kernel
theorem dX12_answerLine_110 : decode cX12_answerLine 110 = .ok (.aload_n 1, 1) := by decide +kernel
theorem dX12_answerLine_111 : decode cX12_answerLine 111 = .ok (.invokevirtual 211, 3) := by decide +kernel
theorem dX12_answerLine_114 : decode cX12_answerLine 114 = .ok (.ireturn, 1) := by decide +kernel
theorem dX12_answerLine_115 : decode cX12_answerLine 115 = .ok (.aload_n 0, 1) := by decide +kernel
theorem dX12_answerLine_116 : decode cX12_answerLine 116 = .ok (.aload_n 1, 1) := by decide +kernel
theorem dX12_answerLine_117 : decode cX12_answerLine 117 = .ok (.invokevirtual 215, 3) := by decide +kernel
theorem dX12_answerLine_120 : decode cX12_answerLine 120 = .ok (.ireturn, 1) := by decide +kernel
theorem dX12_commandOfLine_0 : decode cX12_commandOfLine 0 = .ok (.getstatic 218, 3) := by decide +kernel
theorem dX12_commandOfLine_3 : decode cX12_commandOfLine 3 = .ok (.astore_n 1, 1) := by decide +kernel
theorem dX12_commandOfLine_4 : decode cX12_commandOfLine 4 = .ok (.aload_n 1, 1) := by decide +kernel
theorem dX12_commandOfLine_5 : decode cX12_commandOfLine 5 = .ok (.arraylength, 1) := by decide +kernel
theorem dX12_commandOfLine_6 : decode cX12_commandOfLine 6 = .ok (.istore_n 2, 1) := by decide +kernel
theorem dX12_commandOfLine_7 : decode cX12_commandOfLine 7 = .ok (.iconst 0, 1) := by decide +kernel
theorem dX12_commandOfLine_8 : decode cX12_commandOfLine 8 = .ok (.istore_n 3, 1) := by decide +kernel
theorem dX12_commandOfLine_9 : decode cX12_commandOfLine 9 = .ok (.iload_n 3, 1) := by decide +kernel
theorem dX12_commandOfLine_10 : decode cX12_commandOfLine 10 = .ok (.iload_n 2, 1) := by decide +kernel
theorem dX12_commandOfLine_11 : decode cX12_commandOfLine 11 = .ok (.if_icmp .ge 32, 3) := by decide +kernel
theorem dX12_commandOfLine_14 : decode cX12_commandOfLine 14 = .ok (.aload_n 1, 1) := by decide +kernel
theorem dX12_commandOfLine_15 : decode cX12_commandOfLine 15 = .ok (.iload_n 3, 1) := by decide +kernel
theorem dX12_commandOfLine_16 : decode cX12_commandOfLine 16 = .ok (.aaload, 1) := by decide +kernel
theorem dX12_commandOfLine_17 : decode cX12_commandOfLine 17 = .ok (.astore 4, 2) := by decide +kernel
theorem dX12_commandOfLine_19 : decode cX12_commandOfLine 19 = .ok (.aload_n 0, 1) := by decide +kernel
theorem dX12_commandOfLine_20 : decode cX12_commandOfLine 20 = .ok (.getfield 10, 3) := by decide +kernel
theorem dX12_commandOfLine_23 : decode cX12_commandOfLine 23 = .ok (.aload 4, 2) := by decide +kernel
theorem dX12_commandOfLine_25 : decode cX12_commandOfLine 25 = .ok (.getfield 222, 3) := by decide +kernel
theorem dX12_commandOfLine_28 : decode cX12_commandOfLine 28 = .ok (.invokevirtual 226, 3) := by decide +kernel
theorem dX12_commandOfLine_31 : decode cX12_commandOfLine 31 = .ok (.ifCond .eq 6, 3) := by decide +kernel
theorem dX12_commandOfLine_34 : decode cX12_commandOfLine 34 = .ok (.aload 4, 2) := by decide +kernel
theorem dX12_commandOfLine_36 : decode cX12_commandOfLine 36 = .ok (.areturn, 1) := by decide +kernel
theorem dX12_commandOfLine_37 : decode cX12_commandOfLine 37 = .ok (.iinc 3 1, 3) := by decide +kernel
theorem dX12_commandOfLine_40 : decode cX12_commandOfLine 40 = .ok (.goto (-31), 3) := by decide +kernel
theorem dX12_commandOfLine_43 : decode cX12_commandOfLine 43 = .ok (.aconst_null, 1) := by decide +kernel
theorem dX12_commandOfLine_44 : decode cX12_commandOfLine 44 = .ok (.areturn, 1) := by decide +kernel
theorem dX12_argumentFits_0 : decode cX12_argumentFits 0 = .ok (.aload_n 0, 1) := by decide +kernel
theorem dX12_argumentFits_1 : decode cX12_argumentFits 1 = .ok (.getfield 10, 3) := by decide +kernel
theorem dX12_argumentFits_4 : decode cX12_argumentFits 4 = .ok (.invokevirtual 230, 3) := by decide +kernel
theorem dX12_argumentFits_7 : decode cX12_argumentFits 7 = .ok (.ifCond .ne 31, 3) := by decide +kernel
theorem dX12_argumentFits_10 : decode cX12_argumentFits 10 = .ok (.aload_n 0, 1) := by decide +kernel
theorem dX12_argumentFits_11 : decode cX12_argumentFits 11 = .ok (.getfield 33, 3) := by decide +kernel
theorem dX12_argumentFits_14 : decode cX12_argumentFits 14 = .ok (.invokevirtual 233, 3) := by decide +kernel
theorem dX12_argumentFits_17 : decode cX12_argumentFits 17 = .ok (.aload_n 1, 1) := by decide +kernel
theorem dX12_argumentFits_18 : decode cX12_argumentFits 18 = .ok (.getfield 204, 3) := by decide +kernel
theorem dX12_argumentFits_21 : decode cX12_argumentFits 21 = .ok (.ifCond .eq 11, 3) := by decide +kernel
theorem dX12_argumentFits_24 : decode cX12_argumentFits 24 = .ok (.aload_n 1, 1) := by decide +kernel
theorem dX12_argumentFits_25 : decode cX12_argumentFits 25 = .ok (.getfield 204, 3) := by decide +kernel
theorem dX12_argumentFits_28 : decode cX12_argumentFits 28 = .ok (.iconst 3, 1) := by decide +kernel
theorem dX12_argumentFits_29 : decode cX12_argumentFits 29 = .ok (.if_icmp .ne 7, 3) := by decide +kernel
theorem dX12_argumentFits_32 : decode cX12_argumentFits 32 = .ok (.iconst 1, 1) := by decide +kernel
theorem dX12_argumentFits_33 : decode cX12_argumentFits 33 = .ok (.goto 4, 3) := by decide +kernel
theorem dX12_argumentFits_36 : decode cX12_argumentFits 36 = .ok (.iconst 0, 1) := by decide +kernel
theorem dX12_argumentFits_37 : decode cX12_argumentFits 37 = .ok (.ireturn, 1) := by decide +kernel
theorem dX12_argumentFits_38 : decode cX12_argumentFits 38 = .ok (.aload_n 1, 1) := by decide +kernel
theorem dX12_argumentFits_39 : decode cX12_argumentFits 39 = .ok (.getfield 204, 3) := by decide +kernel
theorem dX12_argumentFits_42 : decode cX12_argumentFits 42 = .ok (.tableswitch 104 1 6 #[38, 56, 56, 68, 85, 102], 38) := by decide +kernel
theorem dX12_argumentFits_80 : decode cX12_argumentFits 80 = .ok (.aload_n 0, 1) := by decide +kernel
theorem dX12_argumentFits_81 : decode cX12_argumentFits 81 = .ok (.getfield 10, 3) := by decide +kernel
theorem dX12_argumentFits_84 : decode cX12_argumentFits 84 = .ok (.invokevirtual 236, 3) := by decide +kernel
theorem dX12_argumentFits_87 : decode cX12_argumentFits 87 = .ok (.lconst 0, 1) := by decide +kernel
theorem dX12_argumentFits_88 : decode cX12_argumentFits 88 = .ok (.lcmp, 1) := by decide +kernel
theorem dX12_argumentFits_89 : decode cX12_argumentFits 89 = .ok (.ifCond .eq 7, 3) := by decide +kernel
theorem dX12_argumentFits_92 : decode cX12_argumentFits 92 = .ok (.iconst 1, 1) := by decide +kernel
theorem dX12_argumentFits_93 : decode cX12_argumentFits 93 = .ok (.goto 4, 3) := by decide +kernel
theorem dX12_argumentFits_96 : decode cX12_argumentFits 96 = .ok (.iconst 0, 1) := by decide +kernel
theorem dX12_argumentFits_97 : decode cX12_argumentFits 97 = .ok (.ireturn, 1) := by decide +kernel
theorem dX12_argumentFits_98 : decode cX12_argumentFits 98 = .ok (.aload_n 0, 1) := by decide +kernel
theorem dX12_argumentFits_99 : decode cX12_argumentFits 99 = .ok (.getfield 33, 3) := by decide +kernel
theorem dX12_argumentFits_102 : decode cX12_argumentFits 102 = .ok (.aload_n 0, 1) := by decide +kernel
theorem dX12_argumentFits_103 : decode cX12_argumentFits 103 = .ok (.getfield 10, 3) := by decide +kernel
theorem dX12_argumentFits_106 : decode cX12_argumentFits 106 = .ok (.invokevirtual 240, 3) := by decide +kernel
theorem dX12_argumentFits_109 : decode cX12_argumentFits 109 = .ok (.ireturn, 1) := by decide +kernel
theorem dX12_argumentFits_110 : decode cX12_argumentFits 110 = .ok (.aload_n 0, 1) := by decide +kernel
theorem dX12_argumentFits_111 : decode cX12_argumentFits 111 = .ok (.getfield 10, 3) := by decide +kernel
theorem dX12_argumentFits_114 : decode cX12_argumentFits 114 = .ok (.invokevirtual 244, 3) := by decide +kernel
theorem dX12_argumentFits_117 : decode cX12_argumentFits 117 = .ok (.iconst (-1), 1) := by decide +kernel
theorem dX12_argumentFits_118 : decode cX12_argumentFits 118 = .ok (.if_icmp .eq 7, 3) := by decide +kernel
theorem dX12_argumentFits_121 : decode cX12_argumentFits 121 = .ok (.iconst 1, 1) := by decide +kernel
theorem dX12_argumentFits_122 : decode cX12_argumentFits 122 = .ok (.goto 4, 3) := by decide +kernel
theorem dX12_argumentFits_125 : decode cX12_argumentFits 125 = .ok (.iconst 0, 1) := by decide +kernel
theorem dX12_argumentFits_126 : decode cX12_argumentFits 126 = .ok (.ireturn, 1) := by decide +kernel
theorem dX12_argumentFits_127 : decode cX12_argumentFits 127 = .ok (.aload_n 0, 1) := by decide +kernel
theorem dX12_argumentFits_128 : decode cX12_argumentFits 128 = .ok (.getfield 10, 3) := by decide +kernel
theorem dX12_argumentFits_131 : decode cX12_argumentFits 131 = .ok (.invokevirtual 247, 3) := by decide +kernel
theorem dX12_argumentFits_134 : decode cX12_argumentFits 134 = .ok (.iconst (-1), 1) := by decide +kernel
theorem dX12_argumentFits_135 : decode cX12_argumentFits 135 = .ok (.if_icmp .eq 7, 3) := by decide +kernel
theorem dX12_argumentFits_138 : decode cX12_argumentFits 138 = .ok (.iconst 1, 1) := by decide +kernel
theorem dX12_argumentFits_139 : decode cX12_argumentFits 139 = .ok (.goto 4, 3) := by decide +kernel
theorem dX12_argumentFits_142 : decode cX12_argumentFits 142 = .ok (.iconst 0, 1) := by decide +kernel
theorem dX12_argumentFits_143 : decode cX12_argumentFits 143 = .ok (.ireturn, 1) := by decide +kernel
theorem dX12_argumentFits_144 : decode cX12_argumentFits 144 = .ok (.iconst 1, 1) := by decide +kernel
theorem dX12_argumentFits_145 : decode cX12_argumentFits 145 = .ok (.ireturn, 1) := by decide +kernel
theorem dX12_argumentFits_146 : decode cX12_argumentFits 146 = .ok (.iconst 0, 1) := by decide +kernel
theorem dX12_argumentFits_147 : decode cX12_argumentFits 147 = .ok (.ireturn, 1) := by decide +kernel
theorem dX12_run_0 : decode cX12_run 0 = .ok (.getstatic 250, 3) := by decide +kernel
theorem dX12_run_3 : decode cX12_run 3 = .ok (.aload_n 1, 1) := by decide +kernel
theorem dX12_run_4 : decode cX12_run 4 = .ok (.invokevirtual 256, 3) := by decide +kernel
theorem dX12_run_7 : decode cX12_run 7 = .ok (.iaload, 1) := by decide +kernel
theorem dX12_run_8 : decode cX12_run 8 = .ok (.tableswitch 156 1 10 #[56, 61, 66, 71, 86, 108, 113, 118, 129, 151], 56) := by decide +kernel
theorem dX12_run_64 : decode cX12_run 64 = .ok (.aload_n 0, 1) := by decide +kernel
theorem dX12_run_65 : decode cX12_run 65 = .ok (.invokevirtual 259, 3) := by decide +kernel
theorem dX12_run_68 : decode cX12_run 68 = .ok (.ireturn, 1) := by decide +kernel
theorem dX12_run_69 : decode cX12_run 69 = .ok (.aload_n 0, 1) := by decide +kernel
theorem dX12_run_70 : decode cX12_run 70 = .ok (.invokevirtual 262, 3) := by decide +kernel
theorem dX12_run_73 : decode cX12_run 73 = .ok (.ireturn, 1) := by decide +kernel
theorem dX12_run_74 : decode cX12_run 74 = .ok (.aload_n 0, 1) := by decide +kernel
theorem dX12_run_75 : decode cX12_run 75 = .ok (.invokevirtual 265, 3) := by decide +kernel
theorem dX12_run_78 : decode cX12_run 78 = .ok (.ireturn, 1) := by decide +kernel
theorem dX12_run_79 : decode cX12_run 79 = .ok (.aload_n 0, 1) := by decide +kernel
theorem dX12_run_80 : decode cX12_run 80 = .ok (.getfield 40, 3) := by decide +kernel
theorem dX12_run_83 : decode cX12_run 83 = .ok (.aload_n 0, 1) := by decide +kernel
theorem dX12_run_84 : decode cX12_run 84 = .ok (.getfield 73, 3) := by decide +kernel
theorem dX12_run_87 : decode cX12_run 87 = .ok (.invokevirtual 268, 3) := by decide +kernel
theorem dX12_run_90 : decode cX12_run 90 = .ok (.sipush 257, 3) := by decide +kernel
theorem dX12_run_93 : decode cX12_run 93 = .ok (.ireturn, 1) := by decide +kernel
theorem dX12_run_94 : decode cX12_run 94 = .ok (.aload_n 0, 1) := by decide +kernel
theorem dX12_run_95 : decode cX12_run 95 = .ok (.aload_n 0, 1) := by decide +kernel
theorem dX12_run_96 : decode cX12_run 96 = .ok (.getfield 19, 3) := by decide +kernel
theorem dX12_run_99 : decode cX12_run 99 = .ok (.aload_n 0, 1) := by decide +kernel
theorem dX12_run_100 : decode cX12_run 100 = .ok (.getfield 73, 3) := by decide +kernel
theorem dX12_run_103 : decode cX12_run 103 = .ok (.ldc2_w 272, 3) := by decide +kernel
theorem dX12_run_106 : decode cX12_run 106 = .ok (.invokevirtual 274, 3) := by decide +kernel
theorem dX12_run_109 : decode cX12_run 109 = .ok (.sipush 200, 3) := by decide +kernel
theorem dX12_run_112 : decode cX12_run 112 = .ok (.invokevirtual 278, 3) := by decide +kernel
theorem dX12_run_115 : decode cX12_run 115 = .ok (.ireturn, 1) := by decide +kernel
theorem dX12_run_116 : decode cX12_run 116 = .ok (.aload_n 0, 1) := by decide +kernel
theorem dX12_run_117 : decode cX12_run 117 = .ok (.invokevirtual 282, 3) := by decide +kernel
theorem dX12_run_120 : decode cX12_run 120 = .ok (.ireturn, 1) := by decide +kernel
theorem dX12_run_121 : decode cX12_run 121 = .ok (.aload_n 0, 1) := by decide +kernel
theorem dX12_run_122 : decode cX12_run 122 = .ok (.invokevirtual 285, 3) := by decide +kernel
theorem dX12_run_125 : decode cX12_run 125 = .ok (.ireturn, 1) := by decide +kernel
theorem dX12_run_126 : decode cX12_run 126 = .ok (.aload_n 0, 1) := by decide +kernel
theorem dX12_run_127 : decode cX12_run 127 = .ok (.getstatic 146, 3) := by decide +kernel
theorem dX12_run_130 : decode cX12_run 130 = .ok (.putfield 85, 3) := by decide +kernel
theorem dX12_run_133 : decode cX12_run 133 = .ok (.sipush 227, 3) := by decide +kernel
theorem dX12_run_136 : decode cX12_run 136 = .ok (.ireturn, 1) := by decide +kernel
theorem dX12_run_137 : decode cX12_run 137 = .ok (.aload_n 0, 1) := by decide +kernel
theorem dX12_run_138 : decode cX12_run 138 = .ok (.getstatic 288, 3) := by decide +kernel
theorem dX12_run_141 : decode cX12_run 141 = .ok (.putfield 85, 3) := by decide +kernel
theorem dX12_run_144 : decode cX12_run 144 = .ok (.aload_n 0, 1) := by decide +kernel
theorem dX12_run_145 : decode cX12_run 145 = .ok (.aload_n 0, 1) := by decide +kernel
theorem dX12_run_146 : decode cX12_run 146 = .ok (.getfield 10, 3) := by decide +kernel
theorem dX12_run_149 : decode cX12_run 149 = .ok (.invokevirtual 247, 3) := by decide +kernel
theorem dX12_run_152 : decode cX12_run 152 = .ok (.putfield 88, 3) := by decide +kernel
theorem dX12_run_155 : decode cX12_run 155 = .ok (.sipush 200, 3) := by decide +kernel
theorem dX12_run_158 : decode cX12_run 158 = .ok (.ireturn, 1) := by decide +kernel
theorem dX12_run_159 : decode cX12_run 159 = .ok (.aload_n 0, 1) := by decide +kernel
theorem dX12_run_160 : decode cX12_run 160 = .ok (.invokevirtual 291, 3) := by decide +kernel
theorem dX12_run_163 : decode cX12_run 163 = .ok (.ireturn, 1) := by decide +kernel
theorem dX12_run_164 : decode cX12_run 164 = .ok (.sipush 200, 3) := by decide +kernel
theorem dX12_run_167 : decode cX12_run 167 = .ok (.ireturn, 1) := by decide +kernel
theorem dX12_runOnPath_0 : decode cX12_runOnPath 0 = .ok (.getstatic 250, 3) := by decide +kernel
theorem dX12_runOnPath_3 : decode cX12_runOnPath 3 = .ok (.aload_n 1, 1) := by decide +kernel
theorem dX12_runOnPath_4 : decode cX12_runOnPath 4 = .ok (.invokevirtual 256, 3) := by decide +kernel
theorem dX12_runOnPath_7 : decode cX12_runOnPath 7 = .ok (.iaload, 1) := by decide +kernel
theorem dX12_runOnPath_8 : decode cX12_runOnPath 8 = .ok (.tableswitch 118 11 20 #[56, 71, 76, 81, 86, 91, 96, 101, 106, 112], 56) := by decide +kernel
theorem dX12_runOnPath_64 : decode cX12_runOnPath 64 = .ok (.aload_n 0, 1) := by decide +kernel
theorem dX12_runOnPath_65 : decode cX12_runOnPath 65 = .ok (.aload_n 0, 1) := by decide +kernel
theorem dX12_runOnPath_66 : decode cX12_runOnPath 66 = .ok (.getfield 33, 3) := by decide +kernel
theorem dX12_runOnPath_69 : decode cX12_runOnPath 69 = .ok (.getfield 294, 3) := by decide +kernel
theorem dX12_runOnPath_72 : decode cX12_runOnPath 72 = .ok (.sipush 250, 3) := by decide +kernel
theorem dX12_runOnPath_75 : decode cX12_runOnPath 75 = .ok (.invokevirtual 278, 3) := by decide +kernel
theorem dX12_runOnPath_78 : decode cX12_runOnPath 78 = .ok (.ireturn, 1) := by decide +kernel
theorem dX12_runOnPath_79 : decode cX12_runOnPath 79 = .ok (.aload_n 0, 1) := by decide +kernel
theorem dX12_runOnPath_80 : decode cX12_runOnPath 80 = .ok (.invokevirtual 297, 3) := by decide +kernel
theorem dX12_runOnPath_83 : decode cX12_runOnPath 83 = .ok (.ireturn, 1) := by decide +kernel
theorem dX12_runOnPath_84 : decode cX12_runOnPath 84 = .ok (.aload_n 0, 1) := by decide +kernel
theorem dX12_runOnPath_85 : decode cX12_runOnPath 85 = .ok (.invokevirtual 300, 3) := by decide +kernel
theorem dX12_runOnPath_88 : decode cX12_runOnPath 88 = .ok (.ireturn, 1) := by decide +kernel
theorem dX12_runOnPath_89 : decode cX12_runOnPath 89 = .ok (.aload_n 0, 1) := by decide +kernel
theorem dX12_runOnPath_90 : decode cX12_runOnPath 90 = .ok (.invokevirtual 303, 3) := by decide +kernel
theorem dX12_runOnPath_93 : decode cX12_runOnPath 93 = .ok (.ireturn, 1) := by decide +kernel
theorem dX12_runOnPath_94 : decode cX12_runOnPath 94 = .ok (.aload_n 0, 1) := by decide +kernel
theorem dX12_runOnPath_95 : decode cX12_runOnPath 95 = .ok (.invokevirtual 306, 3) := by decide +kernel
theorem dX12_runOnPath_98 : decode cX12_runOnPath 98 = .ok (.ireturn, 1) := by decide +kernel
theorem dX12_runOnPath_99 : decode cX12_runOnPath 99 = .ok (.aload_n 0, 1) := by decide +kernel
theorem dX12_runOnPath_100 : decode cX12_runOnPath 100 = .ok (.invokevirtual 309, 3) := by decide +kernel
theorem dX12_runOnPath_103 : decode cX12_runOnPath 103 = .ok (.ireturn, 1) := by decide +kernel
theorem dX12_runOnPath_104 : decode cX12_runOnPath 104 = .ok (.aload_n 0, 1) := by decide +kernel
theorem dX12_runOnPath_105 : decode cX12_runOnPath 105 = .ok (.invokevirtual 312, 3) := by decide +kernel
theorem dX12_runOnPath_108 : decode cX12_runOnPath 108 = .ok (.ireturn, 1) := by decide +kernel
theorem dX12_runOnPath_109 : decode cX12_runOnPath 109 = .ok (.aload_n 0, 1) := by decide +kernel
theorem dX12_runOnPath_110 : decode cX12_runOnPath 110 = .ok (.invokevirtual 315, 3) := by decide +kernel
theorem dX12_runOnPath_113 : decode cX12_runOnPath 113 = .ok (.ireturn, 1) := by decide +kernel
theorem dX12_runOnPath_114 : decode cX12_runOnPath 114 = .ok (.aload_n 0, 1) := by decide +kernel
theorem dX12_runOnPath_115 : decode cX12_runOnPath 115 = .ok (.iconst 0, 1) := by decide +kernel
theorem dX12_runOnPath_116 : decode cX12_runOnPath 116 = .ok (.invokevirtual 318, 3) := by decide +kernel
theorem dX12_runOnPath_119 : decode cX12_runOnPath 119 = .ok (.ireturn, 1) := by decide +kernel
theorem dX12_runOnPath_120 : decode cX12_runOnPath 120 = .ok (.aload_n 0, 1) := by decide +kernel
theorem dX12_runOnPath_121 : decode cX12_runOnPath 121 = .ok (.iconst 1, 1) := by decide +kernel
theorem dX12_runOnPath_122 : decode cX12_runOnPath 122 = .ok (.invokevirtual 318, 3) := by decide +kernel
theorem dX12_runOnPath_125 : decode cX12_runOnPath 125 = .ok (.ireturn, 1) := by decide +kernel
theorem dX12_runOnPath_126 : decode cX12_runOnPath 126 = .ok (.aload_n 0, 1) := by decide +kernel
theorem dX12_runOnPath_127 : decode cX12_runOnPath 127 = .ok (.invokevirtual 322, 3) := by decide +kernel
theorem dX12_runOnPath_130 : decode cX12_runOnPath 130 = .ok (.ireturn, 1) := by decide +kernel
theorem dX12_nameUser_0 : decode cX12_nameUser 0 = .ok (.aload_n 0, 1) := by decide +kernel
theorem dX12_nameUser_1 : decode cX12_nameUser 1 = .ok (.invokevirtual 123, 3) := by decide +kernel
theorem dX12_nameUser_4 : decode cX12_nameUser 4 = .ok (.aload_n 0, 1) := by decide +kernel
theorem dX12_nameUser_5 : decode cX12_nameUser 5 = .ok (.getfield 58, 3) := by decide +kernel
theorem dX12_nameUser_8 : decode cX12_nameUser 8 = .ok (.aload_n 0, 1) := by decide +kernel
theorem dX12_nameUser_9 : decode cX12_nameUser 9 = .ok (.getfield 10, 3) := by decide +kernel
theorem dX12_nameUser_12 : decode cX12_nameUser 12 = .ok (.invokevirtual 236, 3) := by decide +kernel
theorem dX12_nameUser_15 : decode cX12_nameUser 15 = .ok (.putfield 325, 3) := by decide +kernel
theorem dX12_nameUser_18 : decode cX12_nameUser 18 = .ok (.sipush 331, 3) := by decide +kernel
theorem dX12_nameUser_21 : decode cX12_nameUser 21 = .ok (.ireturn, 1) := by decide +kernel
theorem dX12_logIn_0 : decode cX12_logIn 0 = .ok (.aload_n 0, 1) := by decide +kernel
theorem dX12_logIn_1 : decode cX12_logIn 1 = .ok (.getfield 54, 3) := by decide +kernel
theorem dX12_logIn_4 : decode cX12_logIn 4 = .ok (.getfield 325, 3) := by decide +kernel
theorem dX12_logIn_7 : decode cX12_logIn 7 = .ok (.lconst 0, 1) := by decide +kernel
theorem dX12_logIn_8 : decode cX12_logIn 8 = .ok (.lcmp, 1) := by decide +kernel
theorem dX12_logIn_9 : decode cX12_logIn 9 = .ok (.ifCond .ne 7, 3) := by decide +kernel
theorem dX12_logIn_12 : decode cX12_logIn 12 = .ok (.sipush 503, 3) := by decide +kernel
theorem dX12_logIn_15 : decode cX12_logIn 15 = .ok (.ireturn, 1) := by decide +kernel
theorem dX12_logIn_16 : decode cX12_logIn 16 = .ok (.aload_n 0, 1) := by decide +kernel
theorem dX12_logIn_17 : decode cX12_logIn 17 = .ok (.aload_n 0, 1) := by decide +kernel
theorem dX12_logIn_18 : decode cX12_logIn 18 = .ok (.getfield 54, 3) := by decide +kernel
theorem dX12_logIn_21 : decode cX12_logIn 21 = .ok (.getfield 325, 3) := by decide +kernel
theorem dX12_logIn_24 : decode cX12_logIn 24 = .ok (.invokevirtual 107, 3) := by decide +kernel
theorem dX12_logIn_27 : decode cX12_logIn 27 = .ok (.astore_n 1, 1) := by decide +kernel
theorem dX12_logIn_28 : decode cX12_logIn 28 = .ok (.aload_n 1, 1) := by decide +kernel
theorem dX12_logIn_29 : decode cX12_logIn 29 = .ok (.ifnull 18, 3) := by decide +kernel
theorem dX12_logIn_32 : decode cX12_logIn 32 = .ok (.aload_n 1, 1) := by decide +kernel
theorem dX12_logIn_33 : decode cX12_logIn 33 = .ok (.getfield 326, 3) := by decide +kernel
theorem dX12_logIn_36 : decode cX12_logIn 36 = .ok (.aload_n 0, 1) := by decide +kernel
theorem dX12_logIn_37 : decode cX12_logIn 37 = .ok (.getfield 10, 3) := by decide +kernel
theorem dX12_logIn_40 : decode cX12_logIn 40 = .ok (.invokevirtual 236, 3) := by decide +kernel
theorem dX12_logIn_43 : decode cX12_logIn 43 = .ok (.lcmp, 1) := by decide +kernel
theorem dX12_logIn_44 : decode cX12_logIn 44 = .ok (.ifCond .eq 11, 3) := by decide +kernel
theorem dX12_logIn_47 : decode cX12_logIn 47 = .ok (.aload_n 0, 1) := by decide +kernel
theorem dX12_logIn_48 : decode cX12_logIn 48 = .ok (.invokevirtual 123, 3) := by decide +kernel
theorem dX12_logIn_51 : decode cX12_logIn 51 = .ok (.sipush 530, 3) := by decide +kernel
theorem dX12_logIn_54 : decode cX12_logIn 54 = .ok (.ireturn, 1) := by decide +kernel
theorem dX12_logIn_55 : decode cX12_logIn 55 = .ok (.aload_n 0, 1) := by decide +kernel
theorem dX12_logIn_56 : decode cX12_logIn 56 = .ok (.aload_n 1, 1) := by decide +kernel
theorem dX12_logIn_57 : decode cX12_logIn 57 = .ok (.getfield 329, 3) := by decide +kernel
theorem dX12_logIn_60 : decode cX12_logIn 60 = .ok (.putfield 69, 3) := by decide +kernel
theorem dX12_logIn_63 : decode cX12_logIn 63 = .ok (.aload_n 0, 1) := by decide +kernel
theorem dX12_logIn_64 : decode cX12_logIn 64 = .ok (.aload_n 1, 1) := by decide +kernel
theorem dX12_logIn_65 : decode cX12_logIn 65 = .ok (.getfield 329, 3) := by decide +kernel
theorem dX12_logIn_68 : decode cX12_logIn 68 = .ok (.putfield 73, 3) := by decide +kernel
theorem dX12_logIn_71 : decode cX12_logIn 71 = .ok (.sipush 230, 3) := by decide +kernel
theorem dX12_logIn_74 : decode cX12_logIn 74 = .ok (.ireturn, 1) := by decide +kernel
theorem dX12_quit_0 : decode cX12_quit 0 = .ok (.aload_n 0, 1) := by decide +kernel
theorem dX12_quit_1 : decode cX12_quit 1 = .ok (.iconst 0, 1) := by decide +kernel
theorem dX12_quit_2 : decode cX12_quit 2 = .ok (.putfield 61, 3) := by decide +kernel
theorem dX12_quit_5 : decode cX12_quit 5 = .ok (.aload_n 0, 1) := by decide +kernel
theorem dX12_quit_6 : decode cX12_quit 6 = .ok (.invokevirtual 159, 3) := by decide +kernel
theorem dX12_quit_9 : decode cX12_quit 9 = .ok (.sipush 221, 3) := by decide +kernel
theorem dX12_quit_12 : decode cX12_quit 12 = .ok (.ireturn, 1) := by decide +kernel
theorem dX12_changeTo_0 : decode cX12_changeTo 0 = .ok (.aload_n 1, 1) := by decide +kernel
theorem dX12_changeTo_1 : decode cX12_changeTo 1 = .ok (.ifnull 10, 3) := by decide +kernel
theorem dX12_changeTo_4 : decode cX12_changeTo 4 = .ok (.aload_n 1, 1) := by decide +kernel
theorem dX12_changeTo_5 : decode cX12_changeTo 5 = .ok (.getfield 330, 3) := by decide +kernel
theorem dX12_changeTo_8 : decode cX12_changeTo 8 = .ok (.ifCond .ne 7, 3) := by decide +kernel
theorem dX12_changeTo_11 : decode cX12_changeTo 11 = .ok (.sipush 550, 3) := by decide +kernel
theorem dX12_changeTo_14 : decode cX12_changeTo 14 = .ok (.ireturn, 1) := by decide +kernel
theorem dX12_changeTo_15 : decode cX12_changeTo 15 = .ok (.aload_n 0, 1) := by decide +kernel
theorem dX12_changeTo_16 : decode cX12_changeTo 16 = .ok (.aload_n 1, 1) := by decide +kernel
theorem dX12_changeTo_17 : decode cX12_changeTo 17 = .ok (.putfield 73, 3) := by decide +kernel
theorem dX12_changeTo_20 : decode cX12_changeTo 20 = .ok (.iload_n 2, 1) := by decide +kernel
theorem dX12_changeTo_21 : decode cX12_changeTo 21 = .ok (.ireturn, 1) := by decide +kernel
theorem dX12_makeDirectory_0 : decode cX12_makeDirectory 0 = .ok (.aload_n 0, 1) := by decide +kernel
theorem dX12_makeDirectory_1 : decode cX12_makeDirectory 1 = .ok (.getfield 33, 3) := by decide +kernel
theorem dX12_makeDirectory_4 : decode cX12_makeDirectory 4 = .ok (.getfield 335, 3) := by decide +kernel
theorem dX12_makeDirectory_7 : decode cX12_makeDirectory 7 = .ok (.ifnull 13, 3) := by decide +kernel
theorem dX12_makeDirectory_10 : decode cX12_makeDirectory 10 = .ok (.aload_n 0, 1) := by decide +kernel
theorem dX12_makeDirectory_11 : decode cX12_makeDirectory 11 = .ok (.getfield 33, 3) := by decide +kernel
theorem dX12_makeDirectory_14 : decode cX12_makeDirectory 14 = .ok (.getfield 294, 3) := by decide +kernel
theorem dX12_makeDirectory_17 : decode cX12_makeDirectory 17 = .ok (.ifnull 7, 3) := by decide +kernel
theorem dX12_makeDirectory_20 : decode cX12_makeDirectory 20 = .ok (.sipush 550, 3) := by decide +kernel
theorem dX12_makeDirectory_23 : decode cX12_makeDirectory 23 = .ok (.ireturn, 1) := by decide +kernel
theorem dX12_makeDirectory_24 : decode cX12_makeDirectory 24 = .ok (.aload_n 0, 1) := by decide +kernel
theorem dX12_makeDirectory_25 : decode cX12_makeDirectory 25 = .ok (.getfield 19, 3) := by decide +kernel
theorem dX12_makeDirectory_28 : decode cX12_makeDirectory 28 = .ok (.aload_n 0, 1) := by decide +kernel
theorem dX12_makeDirectory_29 : decode cX12_makeDirectory 29 = .ok (.getfield 33, 3) := by decide +kernel
theorem dX12_makeDirectory_32 : decode cX12_makeDirectory 32 = .ok (.getfield 335, 3) := by decide +kernel
theorem dX12_makeDirectory_35 : decode cX12_makeDirectory 35 = .ok (.aload_n 0, 1) := by decide +kernel
theorem dX12_makeDirectory_36 : decode cX12_makeDirectory 36 = .ok (.getfield 33, 3) := by decide +kernel
theorem dX12_makeDirectory_39 : decode cX12_makeDirectory 39 = .ok (.getfield 338, 3) := by decide +kernel
theorem dX12_makeDirectory_42 : decode cX12_makeDirectory 42 = .ok (.iconst 1, 1) := by decide +kernel
theorem dX12_makeDirectory_43 : decode cX12_makeDirectory 43 = .ok (.invokevirtual 111, 3) := by decide +kernel
theorem dX12_makeDirectory_46 : decode cX12_makeDirectory 46 = .ok (.astore_n 1, 1) := by decide +kernel
theorem dX12_makeDirectory_47 : decode cX12_makeDirectory 47 = .ok (.aload_n 1, 1) := by decide +kernel
theorem dX12_makeDirectory_48 : decode cX12_makeDirectory 48 = .ok (.ifnonnull 7, 3) := by decide +kernel
theorem dX12_makeDirectory_51 : decode cX12_makeDirectory 51 = .ok (.sipush 550, 3) := by decide +kernel
theorem dX12_makeDirectory_54 : decode cX12_makeDirectory 54 = .ok (.ireturn, 1) := by decide +kernel
theorem dX12_makeDirectory_55 : decode cX12_makeDirectory 55 = .ok (.aload_n 0, 1) := by decide +kernel
theorem dX12_makeDirectory_56 : decode cX12_makeDirectory 56 = .ok (.getfield 40, 3) := by decide +kernel
theorem dX12_makeDirectory_59 : decode cX12_makeDirectory 59 = .ok (.aload_n 1, 1) := by decide +kernel
theorem dX12_makeDirectory_60 : decode cX12_makeDirectory 60 = .ok (.invokevirtual 268, 3) := by decide +kernel
theorem dX12_makeDirectory_63 : decode cX12_makeDirectory 63 = .ok (.sipush 257, 3) := by decide +kernel
theorem dX12_makeDirectory_66 : decode cX12_makeDirectory 66 = .ok (.ireturn, 1) := by decide +kernel
theorem dX12_removeDirectory_0 : decode cX12_removeDirectory 0 = .ok (.aload_n 0, 1) := by decide +kernel
theorem dX12_removeDirectory_1 : decode cX12_removeDirectory 1 = .ok (.getfield 33, 3) := by decide +kernel
theorem dX12_removeDirectory_4 : decode cX12_removeDirectory 4 = .ok (.getfield 294, 3) := by decide +kernel
theorem dX12_removeDirectory_7 : decode cX12_removeDirectory 7 = .ok (.astore_n 1, 1) := by decide +kernel
theorem dX12_removeDirectory_8 : decode cX12_removeDirectory 8 = .ok (.aload_n 1, 1) := by decide +kernel
theorem dX12_removeDirectory_9 : decode cX12_removeDirectory 9 = .ok (.ifnull 37, 3) := by decide +kernel
theorem dX12_removeDirectory_12 : decode cX12_removeDirectory 12 = .ok (.aload_n 1, 1) := by decide +kernel
theorem dX12_removeDirectory_13 : decode cX12_removeDirectory 13 = .ok (.getfield 330, 3) := by decide +kernel
theorem dX12_removeDirectory_16 : decode cX12_removeDirectory 16 = .ok (.ifCond .eq 30, 3) := by decide +kernel
theorem dX12_removeDirectory_19 : decode cX12_removeDirectory 19 = .ok (.aload_n 1, 1) := by decide +kernel
theorem dX12_removeDirectory_20 : decode cX12_removeDirectory 20 = .ok (.aload_n 0, 1) := by decide +kernel
theorem dX12_removeDirectory_21 : decode cX12_removeDirectory 21 = .ok (.getfield 69, 3) := by decide +kernel
theorem dX12_removeDirectory_24 : decode cX12_removeDirectory 24 = .ok (.if_acmp .eq 22, 3) := by decide +kernel
theorem dX12_removeDirectory_27 : decode cX12_removeDirectory 27 = .ok (.aload_n 1, 1) := by decide +kernel
theorem dX12_removeDirectory_28 : decode cX12_removeDirectory 28 = .ok (.aload_n 0, 1) := by decide +kernel
theorem dX12_removeDirectory_29 : decode cX12_removeDirectory 29 = .ok (.getfield 73, 3) := by decide +kernel
theorem dX12_removeDirectory_32 : decode cX12_removeDirectory 32 = .ok (.if_acmp .eq 14, 3) := by decide +kernel
theorem dX12_removeDirectory_35 : decode cX12_removeDirectory 35 = .ok (.aload_n 0, 1) := by decide +kernel
theorem dX12_removeDirectory_36 : decode cX12_removeDirectory 36 = .ok (.getfield 19, 3) := by decide +kernel
theorem dX12_removeDirectory_39 : decode cX12_removeDirectory 39 = .ok (.aload_n 1, 1) := by decide +kernel
theorem dX12_removeDirectory_40 : decode cX12_removeDirectory 40 = .ok (.invokevirtual 341, 3) := by decide +kernel
theorem dX12_removeDirectory_43 : decode cX12_removeDirectory 43 = .ok (.ifCond .ne 7, 3) := by decide +kernel
theorem dX12_removeDirectory_46 : decode cX12_removeDirectory 46 = .ok (.sipush 550, 3) := by decide +kernel
theorem dX12_removeDirectory_49 : decode cX12_removeDirectory 49 = .ok (.ireturn, 1) := by decide +kernel
theorem dX12_removeDirectory_50 : decode cX12_removeDirectory 50 = .ok (.aload_n 1, 1) := by decide +kernel
theorem dX12_removeDirectory_51 : decode cX12_removeDirectory 51 = .ok (.invokevirtual 345, 3) := by decide +kernel
theorem dX12_removeDirectory_54 : decode cX12_removeDirectory 54 = .ok (.sipush 250, 3) := by decide +kernel
theorem dX12_removeDirectory_57 : decode cX12_removeDirectory 57 = .ok (.ireturn, 1) := by decide +kernel
theorem dX12_deleteFile_0 : decode cX12_deleteFile 0 = .ok (.aload_n 0, 1) := by decide +kernel
theorem dX12_deleteFile_1 : decode cX12_deleteFile 1 = .ok (.getfield 33, 3) := by decide +kernel
theorem dX12_deleteFile_4 : decode cX12_deleteFile 4 = .ok (.getfield 294, 3) := by decide +kernel
theorem dX12_deleteFile_7 : decode cX12_deleteFile 7 = .ok (.astore_n 1, 1) := by decide +kernel
theorem dX12_deleteFile_8 : decode cX12_deleteFile 8 = .ok (.aload_n 1, 1) := by decide +kernel
theorem dX12_deleteFile_9 : decode cX12_deleteFile 9 = .ok (.ifnull 10, 3) := by decide +kernel
theorem dX12_deleteFile_12 : decode cX12_deleteFile 12 = .ok (.aload_n 1, 1) := by decide +kernel
theorem dX12_deleteFile_13 : decode cX12_deleteFile 13 = .ok (.getfield 330, 3) := by decide +kernel
theorem dX12_deleteFile_16 : decode cX12_deleteFile 16 = .ok (.ifCond .eq 7, 3) := by decide +kernel
theorem dX12_deleteFile_19 : decode cX12_deleteFile 19 = .ok (.sipush 550, 3) := by decide +kernel
theorem dX12_deleteFile_22 : decode cX12_deleteFile 22 = .ok (.ireturn, 1) := by decide +kernel
theorem dX12_deleteFile_23 : decode cX12_deleteFile 23 = .ok (.aload_n 1, 1) := by decide +kernel
theorem dX12_deleteFile_24 : decode cX12_deleteFile 24 = .ok (.invokevirtual 345, 3) := by decide +kernel
theorem dX12_deleteFile_27 : decode cX12_deleteFile 27 = .ok (.sipush 250, 3) := by decide +kernel
theorem dX12_deleteFile_30 : decode cX12_deleteFile 30 = .ok (.ireturn, 1) := by decide +kernel
theorem dX12_tellSize_0 : decode cX12_tellSize 0 = .ok (.aload_n 0, 1) := by decide +kernel
theorem dX12_tellSize_1 : decode cX12_tellSize 1 = .ok (.getfield 33, 3) := by decide +kernel
theorem dX12_tellSize_4 : decode cX12_tellSize 4 = .ok (.getfield 294, 3) := by decide +kernel
theorem dX12_tellSize_7 : decode cX12_tellSize 7 = .ok (.astore_n 1, 1) := by decide +kernel
theorem dX12_tellSize_8 : decode cX12_tellSize 8 = .ok (.aload_n 1, 1) := by decide +kernel
theorem dX12_tellSize_9 : decode cX12_tellSize 9 = .ok (.ifnull 10, 3) := by decide +kernel
theorem dX12_tellSize_12 : decode cX12_tellSize 12 = .ok (.aload_n 1, 1) := by decide +kernel
theorem dX12_tellSize_13 : decode cX12_tellSize 13 = .ok (.getfield 330, 3) := by decide +kernel
theorem dX12_tellSize_16 : decode cX12_tellSize 16 = .ok (.ifCond .eq 7, 3) := by decide +kernel
theorem dX12_tellSize_19 : decode cX12_tellSize 19 = .ok (.sipush 550, 3) := by decide +kernel
theorem dX12_tellSize_22 : decode cX12_tellSize 22 = .ok (.ireturn, 1) := by decide +kernel
theorem dX12_tellSize_23 : decode cX12_tellSize 23 = .ok (.aload_n 0, 1) := by decide +kernel
theorem dX12_tellSize_24 : decode cX12_tellSize 24 = .ok (.getfield 40, 3) := by decide +kernel
theorem dX12_tellSize_27 : decode cX12_tellSize 27 = .ok (.aload_n 1, 1) := by decide +kernel
theorem dX12_tellSize_28 : decode cX12_tellSize 28 = .ok (.getfield 348, 3) := by decide +kernel
theorem dX12_tellSize_31 : decode cX12_tellSize 31 = .ok (.invokevirtual 350, 3) := by decide +kernel
theorem dX12_tellSize_34 : decode cX12_tellSize 34 = .ok (.sipush 213, 3) := by decide +kernel
theorem dX12_tellSize_37 : decode cX12_tellSize 37 = .ok (.ireturn, 1) := by decide +kernel
theorem dX12_renameFrom_0 : decode cX12_renameFrom 0 = .ok (.aload_n 0, 1) := by decide +kernel
theorem dX12_renameFrom_1 : decode cX12_renameFrom 1 = .ok (.getfield 33, 3) := by decide +kernel
theorem dX12_renameFrom_4 : decode cX12_renameFrom 4 = .ok (.getfield 294, 3) := by decide +kernel
theorem dX12_renameFrom_7 : decode cX12_renameFrom 7 = .ok (.ifnull 17, 3) := by decide +kernel
theorem dX12_renameFrom_10 : decode cX12_renameFrom 10 = .ok (.aload_n 0, 1) := by decide +kernel
theorem dX12_renameFrom_11 : decode cX12_renameFrom 11 = .ok (.getfield 33, 3) := by decide +kernel
theorem dX12_renameFrom_14 : decode cX12_renameFrom 14 = .ok (.getfield 294, 3) := by decide +kernel
theorem dX12_renameFrom_17 : decode cX12_renameFrom 17 = .ok (.aload_n 0, 1) := by decide +kernel
theorem dX12_renameFrom_18 : decode cX12_renameFrom 18 = .ok (.getfield 69, 3) := by decide +kernel
theorem dX12_renameFrom_21 : decode cX12_renameFrom 21 = .ok (.if_acmp .ne 7, 3) := by decide +kernel
theorem dX12_renameFrom_24 : decode cX12_renameFrom 24 = .ok (.sipush 550, 3) := by decide +kernel
theorem dX12_renameFrom_27 : decode cX12_renameFrom 27 = .ok (.ireturn, 1) := by decide +kernel
theorem dX12_renameFrom_28 : decode cX12_renameFrom 28 = .ok (.aload_n 0, 1) := by decide +kernel
theorem dX12_renameFrom_29 : decode cX12_renameFrom 29 = .ok (.getfield 58, 3) := by decide +kernel
theorem dX12_renameFrom_32 : decode cX12_renameFrom 32 = .ok (.aload_n 0, 1) := by decide +kernel
theorem dX12_renameFrom_33 : decode cX12_renameFrom 33 = .ok (.getfield 33, 3) := by decide +kernel
theorem dX12_renameFrom_36 : decode cX12_renameFrom 36 = .ok (.getfield 294, 3) := by decide +kernel
theorem dX12_renameFrom_39 : decode cX12_renameFrom 39 = .ok (.putfield 354, 3) := by decide +kernel
theorem dX12_renameFrom_42 : decode cX12_renameFrom 42 = .ok (.sipush 350, 3) := by decide +kernel
theorem dX12_renameFrom_45 : decode cX12_renameFrom 45 = .ok (.ireturn, 1) := by decide +kernel
theorem dX12_renameTo_0 : decode cX12_renameTo 0 = .ok (.aload_n 0, 1) := by decide +kernel
theorem dX12_renameTo_1 : decode cX12_renameTo 1 = .ok (.getfield 54, 3) := by decide +kernel
theorem dX12_renameTo_4 : decode cX12_renameTo 4 = .ok (.getfield 354, 3) := by decide +kernel
theorem dX12_renameTo_7 : decode cX12_renameTo 7 = .ok (.astore_n 1, 1) := by decide +kernel
theorem dX12_renameTo_8 : decode cX12_renameTo 8 = .ok (.aload_n 1, 1) := by decide +kernel
theorem dX12_renameTo_9 : decode cX12_renameTo 9 = .ok (.ifnonnull 7, 3) := by decide +kernel
theorem dX12_renameTo_12 : decode cX12_renameTo 12 = .ok (.sipush 503, 3) := by decide +kernel
theorem dX12_renameTo_15 : decode cX12_renameTo 15 = .ok (.ireturn, 1) := by decide +kernel
theorem dX12_renameTo_16 : decode cX12_renameTo 16 = .ok (.aload_n 0, 1) := by decide +kernel
theorem dX12_renameTo_17 : decode cX12_renameTo 17 = .ok (.getfield 33, 3) := by decide +kernel
theorem dX12_renameTo_20 : decode cX12_renameTo 20 = .ok (.getfield 335, 3) := by decide +kernel
theorem dX12_renameTo_23 : decode cX12_renameTo 23 = .ok (.ifnull 31, 3) := by decide +kernel
theorem dX12_renameTo_26 : decode cX12_renameTo 26 = .ok (.aload_n 0, 1) := by decide +kernel
theorem dX12_renameTo_27 : decode cX12_renameTo 27 = .ok (.getfield 33, 3) := by decide +kernel
theorem dX12_renameTo_30 : decode cX12_renameTo 30 = .ok (.getfield 294, 3) := by decide +kernel
theorem dX12_renameTo_33 : decode cX12_renameTo 33 = .ok (.ifnonnull 21, 3) := by decide +kernel
theorem dX12_renameTo_36 : decode cX12_renameTo 36 = .ok (.aload_n 0, 1) := by decide +kernel
theorem dX12_renameTo_37 : decode cX12_renameTo 37 = .ok (.getfield 19, 3) := by decide +kernel
theorem dX12_renameTo_40 : decode cX12_renameTo 40 = .ok (.aload_n 0, 1) := by decide +kernel
theorem dX12_renameTo_41 : decode cX12_renameTo 41 = .ok (.getfield 33, 3) := by decide +kernel
theorem dX12_renameTo_44 : decode cX12_renameTo 44 = .ok (.getfield 335, 3) := by decide +kernel
theorem dX12_renameTo_47 : decode cX12_renameTo 47 = .ok (.aload_n 1, 1) := by decide +kernel
theorem dX12_renameTo_48 : decode cX12_renameTo 48 = .ok (.invokevirtual 357, 3) := by decide +kernel
theorem dX12_renameTo_51 : decode cX12_renameTo 51 = .ok (.ifCond .eq 7, 3) := by decide +kernel
theorem dX12_renameTo_54 : decode cX12_renameTo 54 = .ok (.sipush 553, 3) := by decide +kernel
theorem dX12_renameTo_57 : decode cX12_renameTo 57 = .ok (.ireturn, 1) := by decide +kernel
theorem dX12_renameTo_58 : decode cX12_renameTo 58 = .ok (.aload_n 1, 1) := by decide +kernel
theorem dX12_renameTo_59 : decode cX12_renameTo 59 = .ok (.aload_n 0, 1) := by decide +kernel
theorem dX12_renameTo_60 : decode cX12_renameTo 60 = .ok (.getfield 33, 3) := by decide +kernel
theorem dX12_renameTo_63 : decode cX12_renameTo 63 = .ok (.getfield 335, 3) := by decide +kernel
theorem dX12_renameTo_66 : decode cX12_renameTo 66 = .ok (.putfield 361, 3) := by decide +kernel
theorem dX12_renameTo_69 : decode cX12_renameTo 69 = .ok (.aload_n 1, 1) := by decide +kernel
theorem dX12_renameTo_70 : decode cX12_renameTo 70 = .ok (.aload_n 0, 1) := by decide +kernel
theorem dX12_renameTo_71 : decode cX12_renameTo 71 = .ok (.getfield 33, 3) := by decide +kernel
theorem dX12_renameTo_74 : decode cX12_renameTo 74 = .ok (.getfield 338, 3) := by decide +kernel
theorem dX12_renameTo_77 : decode cX12_renameTo 77 = .ok (.putfield 364, 3) := by decide +kernel
theorem dX12_renameTo_80 : decode cX12_renameTo 80 = .ok (.sipush 250, 3) := by decide +kernel
theorem dX12_renameTo_83 : decode cX12_renameTo 83 = .ok (.ireturn, 1) := by decide +kernel
theorem dX12_chooseType_0 : decode cX12_chooseType 0 = .ok (.aload_n 0, 1) := by decide +kernel
theorem dX12_chooseType_1 : decode cX12_chooseType 1 = .ok (.getfield 10, 3) := by decide +kernel
theorem dX12_chooseType_4 : decode cX12_chooseType 4 = .ok (.invokevirtual 367, 3) := by decide +kernel
theorem dX12_chooseType_7 : decode cX12_chooseType 7 = .ok (.iconst 1, 1) := by decide +kernel
theorem dX12_chooseType_8 : decode cX12_chooseType 8 = .ok (.if_icmp .ne 23, 3) := by decide +kernel
theorem dX12_chooseType_11 : decode cX12_chooseType 11 = .ok (.aload_n 0, 1) := by decide +kernel
theorem dX12_chooseType_12 : decode cX12_chooseType 12 = .ok (.getfield 10, 3) := by decide +kernel
theorem dX12_chooseType_15 : decode cX12_chooseType 15 = .ok (.aload_n 0, 1) := by decide +kernel
theorem dX12_chooseType_16 : decode cX12_chooseType 16 = .ok (.getfield 10, 3) := by decide +kernel
theorem dX12_chooseType_19 : decode cX12_chooseType 19 = .ok (.invokevirtual 370, 3) := by decide +kernel
theorem dX12_chooseType_22 : decode cX12_chooseType 22 = .ok (.invokevirtual 373, 3) := by decide +kernel
theorem dX12_chooseType_25 : decode cX12_chooseType 25 = .ok (.invokestatic 374, 3) := by decide +kernel
theorem dX12_chooseType_28 : decode cX12_chooseType 28 = .ok (.goto 4, 3) := by decide +kernel
theorem dX12_chooseType_31 : decode cX12_chooseType 31 = .ok (.iconst 0, 1) := by decide +kernel
theorem dX12_chooseType_32 : decode cX12_chooseType 32 = .ok (.istore_n 1, 1) := by decide +kernel
theorem dX12_chooseType_33 : decode cX12_chooseType 33 = .ok (.iload_n 1, 1) := by decide +kernel
theorem dX12_chooseType_34 : decode cX12_chooseType 34 = .ok (.bipush 65, 2) := by decide +kernel
theorem dX12_chooseType_36 : decode cX12_chooseType 36 = .ok (.if_icmp .eq 13, 3) := by decide +kernel
theorem dX12_chooseType_39 : decode cX12_chooseType 39 = .ok (.iload_n 1, 1) := by decide +kernel
theorem dX12_chooseType_40 : decode cX12_chooseType 40 = .ok (.bipush 73, 2) := by decide +kernel
theorem dX12_chooseType_42 : decode cX12_chooseType 42 = .ok (.if_icmp .eq 7, 3) := by decide +kernel
theorem dX12_chooseType_45 : decode cX12_chooseType 45 = .ok (.sipush 504, 3) := by decide +kernel
theorem dX12_chooseType_48 : decode cX12_chooseType 48 = .ok (.ireturn, 1) := by decide +kernel
theorem dX12_chooseType_49 : decode cX12_chooseType 49 = .ok (.aload_n 0, 1) := by decide +kernel
theorem dX12_chooseType_50 : decode cX12_chooseType 50 = .ok (.iload_n 1, 1) := by decide +kernel
theorem dX12_chooseType_51 : decode cX12_chooseType 51 = .ok (.bipush 73, 2) := by decide +kernel
theorem dX12_chooseType_53 : decode cX12_chooseType 53 = .ok (.if_icmp .ne 7, 3) := by decide +kernel
theorem dX12_chooseType_56 : decode cX12_chooseType 56 = .ok (.iconst 1, 1) := by decide +kernel
theorem dX12_chooseType_57 : decode cX12_chooseType 57 = .ok (.goto 4, 3) := by decide +kernel
theorem dX12_chooseType_60 : decode cX12_chooseType 60 = .ok (.iconst 0, 1) := by decide +kernel
theorem dX12_chooseType_61 : decode cX12_chooseType 61 = .ok (.putfield 76, 3) := by decide +kernel
theorem dX12_chooseType_64 : decode cX12_chooseType 64 = .ok (.sipush 200, 3) := by decide +kernel
theorem dX12_chooseType_67 : decode cX12_chooseType 67 = .ok (.ireturn, 1) := by decide +kernel
theorem dX12_restart_0 : decode cX12_restart 0 = .ok (.aload_n 0, 1) := by decide +kernel
theorem dX12_restart_1 : decode cX12_restart 1 = .ok (.getfield 76, 3) := by decide +kernel
theorem dX12_restart_4 : decode cX12_restart 4 = .ok (.ifCond .ne 7, 3) := by decide +kernel
theorem dX12_restart_7 : decode cX12_restart 7 = .ok (.sipush 504, 3) := by decide +kernel
theorem dX12_restart_10 : decode cX12_restart 10 = .ok (.ireturn, 1) := by decide +kernel
theorem dX12_restart_11 : decode cX12_restart 11 = .ok (.aload_n 0, 1) := by decide +kernel
theorem dX12_restart_12 : decode cX12_restart 12 = .ok (.getfield 58, 3) := by decide +kernel
theorem dX12_restart_15 : decode cX12_restart 15 = .ok (.aload_n 0, 1) := by decide +kernel
theorem dX12_restart_16 : decode cX12_restart 16 = .ok (.getfield 10, 3) := by decide +kernel
theorem dX12_restart_19 : decode cX12_restart 19 = .ok (.invokevirtual 244, 3) := by decide +kernel
theorem dX12_restart_22 : decode cX12_restart 22 = .ok (.putfield 378, 3) := by decide +kernel
theorem dX12_restart_25 : decode cX12_restart 25 = .ok (.sipush 350, 3) := by decide +kernel
theorem dX12_restart_28 : decode cX12_restart 28 = .ok (.ireturn, 1) := by decide +kernel
theorem dX12_abort_0 : decode cX12_abort 0 = .ok (.aload_n 0, 1) := by decide +kernel
theorem dX12_abort_1 : decode cX12_abort 1 = .ok (.getfield 47, 3) := by decide +kernel
theorem dX12_abort_4 : decode cX12_abort 4 = .ok (.getfield 153, 3) := by decide +kernel
theorem dX12_abort_7 : decode cX12_abort 7 = .ok (.ifCond .ne 7, 3) := by decide +kernel
theorem dX12_abort_10 : decode cX12_abort 10 = .ok (.sipush 226, 3) := by decide +kernel
theorem dX12_abort_13 : decode cX12_abort 13 = .ok (.ireturn, 1) := by decide +kernel
theorem dX12_abort_14 : decode cX12_abort 14 = .ok (.aload_n 0, 1) := by decide +kernel
theorem dX12_abort_15 : decode cX12_abort 15 = .ok (.invokevirtual 159, 3) := by decide +kernel
theorem dX12_abort_18 : decode cX12_abort 18 = .ok (.sipush 426, 3) := by decide +kernel
theorem dX12_abort_21 : decode cX12_abort 21 = .ok (.ireturn, 1) := by decide +kernel
theorem dX12_retrieve_0 : decode cX12_retrieve 0 = .ok (.aload_n 0, 1) := by decide +kernel
theorem dX12_retrieve_1 : decode cX12_retrieve 1 = .ok (.getfield 33, 3) := by decide +kernel
theorem dX12_retrieve_4 : decode cX12_retrieve 4 = .ok (.getfield 294, 3) := by decide +kernel
theorem dX12_retrieve_7 : decode cX12_retrieve 7 = .ok (.astore_n 1, 1) := by decide +kernel
theorem dX12_retrieve_8 : decode cX12_retrieve 8 = .ok (.aload_n 1, 1) := by decide +kernel
theorem dX12_retrieve_9 : decode cX12_retrieve 9 = .ok (.ifnull 24, 3) := by decide +kernel
theorem dX12_retrieve_12 : decode cX12_retrieve 12 = .ok (.aload_n 1, 1) := by decide +kernel
theorem dX12_retrieve_13 : decode cX12_retrieve 13 = .ok (.getfield 330, 3) := by decide +kernel
theorem dX12_retrieve_16 : decode cX12_retrieve 16 = .ok (.ifCond .ne 17, 3) := by decide +kernel
theorem dX12_retrieve_19 : decode cX12_retrieve 19 = .ok (.aload_n 0, 1) := by decide +kernel
theorem dX12_retrieve_20 : decode cX12_retrieve 20 = .ok (.getfield 54, 3) := by decide +kernel
theorem dX12_retrieve_23 : decode cX12_retrieve 23 = .ok (.getfield 378, 3) := by decide +kernel
theorem dX12_retrieve_26 : decode cX12_retrieve 26 = .ok (.aload_n 1, 1) := by decide +kernel
theorem dX12_retrieve_27 : decode cX12_retrieve 27 = .ok (.getfield 348, 3) := by decide +kernel
theorem dX12_retrieve_30 : decode cX12_retrieve 30 = .ok (.if_icmp .le 7, 3) := by decide +kernel
theorem dX12_retrieve_33 : decode cX12_retrieve 33 = .ok (.sipush 550, 3) := by decide +kernel
theorem dX12_retrieve_36 : decode cX12_retrieve 36 = .ok (.ireturn, 1) := by decide +kernel
theorem dX12_retrieve_37 : decode cX12_retrieve 37 = .ok (.aload_n 0, 1) := by decide +kernel
theorem dX12_retrieve_38 : decode cX12_retrieve 38 = .ok (.invokevirtual 380, 3) := by decide +kernel
theorem dX12_retrieve_41 : decode cX12_retrieve 41 = .ok (.ifCond .ne 7, 3) := by decide +kernel
theorem dX12_retrieve_44 : decode cX12_retrieve 44 = .ok (.sipush 425, 3) := by decide +kernel
theorem dX12_retrieve_47 : decode cX12_retrieve 47 = .ok (.ireturn, 1) := by decide +kernel
theorem dX12_retrieve_48 : decode cX12_retrieve 48 = .ok (.aload_n 0, 1) := by decide +kernel
theorem dX12_retrieve_49 : decode cX12_retrieve 49 = .ok (.getfield 47, 3) := by decide +kernel
theorem dX12_retrieve_52 : decode cX12_retrieve 52 = .ok (.aload_n 1, 1) := by decide +kernel
theorem dX12_retrieve_53 : decode cX12_retrieve 53 = .ok (.aload_n 0, 1) := by decide +kernel
theorem dX12_retrieve_54 : decode cX12_retrieve 54 = .ok (.getfield 54, 3) := by decide +kernel
theorem dX12_retrieve_57 : decode cX12_retrieve 57 = .ok (.getfield 378, 3) := by decide +kernel
theorem dX12_retrieve_60 : decode cX12_retrieve 60 = .ok (.aload_n 0, 1) := by decide +kernel
theorem dX12_retrieve_61 : decode cX12_retrieve 61 = .ok (.getfield 76, 3) := by decide +kernel
theorem dX12_retrieve_64 : decode cX12_retrieve 64 = .ok (.ifCond .ne 7, 3) := by decide +kernel
theorem dX12_retrieve_67 : decode cX12_retrieve 67 = .ok (.iconst 1, 1) := by decide +kernel
theorem dX12_retrieve_68 : decode cX12_retrieve 68 = .ok (.goto 4, 3) := by decide +kernel
theorem dX12_retrieve_71 : decode cX12_retrieve 71 = .ok (.iconst 0, 1) := by decide +kernel
theorem dX12_retrieve_72 : decode cX12_retrieve 72 = .ok (.invokevirtual 383, 3) := by decide +kernel
theorem dX12_retrieve_75 : decode cX12_retrieve 75 = .ok (.sipush 150, 3) := by decide +kernel
theorem dX12_retrieve_78 : decode cX12_retrieve 78 = .ok (.ireturn, 1) := by decide +kernel
theorem dX12_listNames_0 : decode cX12_listNames 0 = .ok (.aload_n 0, 1) := by decide +kernel
theorem dX12_listNames_1 : decode cX12_listNames 1 = .ok (.getfield 33, 3) := by decide +kernel
theorem dX12_listNames_4 : decode cX12_listNames 4 = .ok (.getfield 294, 3) := by decide +kernel
theorem dX12_listNames_7 : decode cX12_listNames 7 = .ok (.astore_n 1, 1) := by decide +kernel
theorem dX12_listNames_8 : decode cX12_listNames 8 = .ok (.aload_n 1, 1) := by decide +kernel
theorem dX12_listNames_9 : decode cX12_listNames 9 = .ok (.ifnull 10, 3) := by decide +kernel
theorem dX12_listNames_12 : decode cX12_listNames 12 = .ok (.aload_n 1, 1) := by decide +kernel
theorem dX12_listNames_13 : decode cX12_listNames 13 = .ok (.getfield 330, 3) := by decide +kernel
theorem dX12_listNames_16 : decode cX12_listNames 16 = .ok (.ifCond .ne 7, 3) := by decide +kernel
theorem dX12_listNames_19 : decode cX12_listNames 19 = .ok (.sipush 550, 3) := by decide +kernel
theorem dX12_listNames_22 : decode cX12_listNames 22 = .ok (.ireturn, 1) := by decide +kernel
theorem dX12_listNames_23 : decode cX12_listNames 23 = .ok (.aload_n 0, 1) := by decide +kernel
theorem dX12_listNames_24 : decode cX12_listNames 24 = .ok (.invokevirtual 380, 3) := by decide +kernel
theorem dX12_listNames_27 : decode cX12_listNames 27 = .ok (.ifCond .ne 7, 3) := by decide +kernel
theorem dX12_listNames_30 : decode cX12_listNames 30 = .ok (.sipush 425, 3) := by decide +kernel
theorem dX12_listNames_33 : decode cX12_listNames 33 = .ok (.ireturn, 1) := by decide +kernel
theorem dX12_listNames_34 : decode cX12_listNames 34 = .ok (.aload_n 0, 1) := by decide +kernel
theorem dX12_listNames_35 : decode cX12_listNames 35 = .ok (.getfield 47, 3) := by decide +kernel
theorem dX12_listNames_38 : decode cX12_listNames 38 = .ok (.aload_n 0, 1) := by decide +kernel
theorem dX12_listNames_39 : decode cX12_listNames 39 = .ok (.getfield 19, 3) := by decide +kernel
theorem dX12_listNames_42 : decode cX12_listNames 42 = .ok (.aload_n 1, 1) := by decide +kernel
theorem dX12_listNames_43 : decode cX12_listNames 43 = .ok (.invokevirtual 387, 3) := by decide +kernel
theorem dX12_listNames_46 : decode cX12_listNames 46 = .ok (.sipush 150, 3) := by decide +kernel
theorem dX12_listNames_49 : decode cX12_listNames 49 = .ok (.ireturn, 1) := by decide +kernel
theorem dX12_takeFile_0 : decode cX12_takeFile 0 = .ok (.aload_n 0, 1) := by decide +kernel
theorem dX12_takeFile_1 : decode cX12_takeFile 1 = .ok (.getfield 33, 3) := by decide +kernel
theorem dX12_takeFile_4 : decode cX12_takeFile 4 = .ok (.getfield 294, 3) := by decide +kernel
theorem dX12_takeFile_7 : decode cX12_takeFile 7 = .ok (.astore_n 2, 1) := by decide +kernel
theorem dX12_takeFile_8 : decode cX12_takeFile 8 = .ok (.aload_n 2, 1) := by decide +kernel
theorem dX12_takeFile_9 : decode cX12_takeFile 9 = .ok (.ifnonnull 16, 3) := by decide +kernel
theorem dX12_takeFile_12 : decode cX12_takeFile 12 = .ok (.aload_n 0, 1) := by decide +kernel
theorem dX12_takeFile_13 : decode cX12_takeFile 13 = .ok (.getfield 33, 3) := by decide +kernel
theorem dX12_takeFile_16 : decode cX12_takeFile 16 = .ok (.getfield 335, 3) := by decide +kernel
theorem dX12_takeFile_19 : decode cX12_takeFile 19 = .ok (.ifnonnull 17, 3) := by decide +kernel
theorem dX12_takeFile_22 : decode cX12_takeFile 22 = .ok (.goto 10, 3) := by decide +kernel
theorem dX12_takeFile_25 : decode cX12_takeFile 25 = .ok (.aload_n 2, 1) := by decide +kernel
theorem dX12_takeFile_26 : decode cX12_takeFile 26 = .ok (.getfield 330, 3) := by decide +kernel
theorem dX12_takeFile_29 : decode cX12_takeFile 29 = .ok (.ifCond .eq 7, 3) := by decide +kernel
theorem dX12_takeFile_32 : decode cX12_takeFile 32 = .ok (.sipush 553, 3) := by decide +kernel
theorem dX12_takeFile_35 : decode cX12_takeFile 35 = .ok (.ireturn, 1) := by decide +kernel
theorem dX12_takeFile_36 : decode cX12_takeFile 36 = .ok (.aload_n 2, 1) := by decide +kernel
theorem dX12_takeFile_37 : decode cX12_takeFile 37 = .ok (.ifnonnull 17, 3) := by decide +kernel
theorem dX12_takeFile_40 : decode cX12_takeFile 40 = .ok (.aload_n 0, 1) := by decide +kernel
theorem dX12_takeFile_41 : decode cX12_takeFile 41 = .ok (.getfield 19, 3) := by decide +kernel
theorem dX12_takeFile_44 : decode cX12_takeFile 44 = .ok (.invokevirtual 391, 3) := by decide +kernel
theorem dX12_takeFile_47 : decode cX12_takeFile 47 = .ok (.ifCond .eq 7, 3) := by decide +kernel
theorem dX12_takeFile_50 : decode cX12_takeFile 50 = .ok (.sipush 452, 3) := by decide +kernel
theorem dX12_takeFile_53 : decode cX12_takeFile 53 = .ok (.ireturn, 1) := by decide +kernel
theorem dX12_takeFile_54 : decode cX12_takeFile 54 = .ok (.aload_n 0, 1) := by decide +kernel
theorem dX12_takeFile_55 : decode cX12_takeFile 55 = .ok (.invokevirtual 380, 3) := by decide +kernel
theorem dX12_takeFile_58 : decode cX12_takeFile 58 = .ok (.ifCond .ne 7, 3) := by decide +kernel
theorem dX12_takeFile_61 : decode cX12_takeFile 61 = .ok (.sipush 425, 3) := by decide +kernel
theorem dX12_takeFile_64 : decode cX12_takeFile 64 = .ok (.ireturn, 1) := by decide +kernel
theorem dX12_takeFile_65 : decode cX12_takeFile 65 = .ok (.aload_n 0, 1) := by decide +kernel
theorem dX12_takeFile_66 : decode cX12_takeFile 66 = .ok (.getfield 47, 3) := by decide +kernel
theorem dX12_takeFile_69 : decode cX12_takeFile 69 = .ok (.aload_n 2, 1) := by decide +kernel
theorem dX12_takeFile_70 : decode cX12_takeFile 70 = .ok (.aload_n 0, 1) := by decide +kernel
theorem dX12_takeFile_71 : decode cX12_takeFile 71 = .ok (.getfield 33, 3) := by decide +kernel
theorem dX12_takeFile_74 : decode cX12_takeFile 74 = .ok (.getfield 335, 3) := by decide +kernel
theorem dX12_takeFile_77 : decode cX12_takeFile 77 = .ok (.aload_n 0, 1) := by decide +kernel
theorem dX12_takeFile_78 : decode cX12_takeFile 78 = .ok (.getfield 33, 3) := by decide +kernel
theorem dX12_takeFile_81 : decode cX12_takeFile 81 = .ok (.getfield 338, 3) := by decide +kernel
theorem dX12_takeFile_84 : decode cX12_takeFile 84 = .ok (.iload_n 1, 1) := by decide +kernel
theorem dX12_takeFile_85 : decode cX12_takeFile 85 = .ok (.invokevirtual 394, 3) := by decide +kernel
theorem dX12_takeFile_88 : decode cX12_takeFile 88 = .ok (.sipush 150, 3) := by decide +kernel
theorem dX12_takeFile_91 : decode cX12_takeFile 91 = .ok (.ireturn, 1) := by decide +kernel
theorem dX12_dataConnects_0 : decode cX12_dataConnects 0 = .ok (.aload_n 0, 1) := by decide +kernel
theorem dX12_dataConnects_1 : decode cX12_dataConnects 1 = .ok (.getfield 85, 3) := by decide +kernel
theorem dX12_dataConnects_4 : decode cX12_dataConnects 4 = .ok (.getstatic 149, 3) := by decide +kernel
theorem dX12_dataConnects_7 : decode cX12_dataConnects 7 = .ok (.if_acmp .eq 24, 3) := by decide +kernel
theorem dX12_dataConnects_10 : decode cX12_dataConnects 10 = .ok (.aload_n 0, 1) := by decide +kernel
theorem dX12_dataConnects_11 : decode cX12_dataConnects 11 = .ok (.getfield 85, 3) := by decide +kernel
theorem dX12_dataConnects_14 : decode cX12_dataConnects 14 = .ok (.getstatic 288, 3) := by decide +kernel
theorem dX12_dataConnects_17 : decode cX12_dataConnects 17 = .ok (.if_acmp .ne 16, 3) := by decide +kernel
theorem dX12_dataConnects_20 : decode cX12_dataConnects 20 = .ok (.aload_n 0, 1) := by decide +kernel
theorem dX12_dataConnects_21 : decode cX12_dataConnects 21 = .ok (.getfield 88, 3) := by decide +kernel
theorem dX12_dataConnects_24 : decode cX12_dataConnects 24 = .ok (.aload_n 0, 1) := by decide +kernel
theorem dX12_dataConnects_25 : decode cX12_dataConnects 25 = .ok (.getfield 91, 3) := by decide +kernel
theorem dX12_dataConnects_28 : decode cX12_dataConnects 28 = .ok (.if_icmp .ne 5, 3) := by decide +kernel
theorem dX12_dataConnects_31 : decode cX12_dataConnects 31 = .ok (.iconst 1, 1) := by decide +kernel
theorem dX12_dataConnects_32 : decode cX12_dataConnects 32 = .ok (.ireturn, 1) := by decide +kernel
theorem dX12_dataConnects_33 : decode cX12_dataConnects 33 = .ok (.aload_n 0, 1) := by decide +kernel
theorem dX12_dataConnects_34 : decode cX12_dataConnects 34 = .ok (.getstatic 79, 3) := by decide +kernel
theorem dX12_dataConnects_37 : decode cX12_dataConnects 37 = .ok (.putfield 85, 3) := by decide +kernel
theorem dX12_dataConnects_40 : decode cX12_dataConnects 40 = .ok (.iconst 0, 1) := by decide +kernel
theorem dX12_dataConnects_41 : decode cX12_dataConnects 41 = .ok (.ireturn, 1) := by decide +kernel
theorem dX12_storeCargo_0 : decode cX12_storeCargo 0 = .ok (.aload_n 0, 1) := by decide +kernel
theorem dX12_storeCargo_1 : decode cX12_storeCargo 1 = .ok (.getfield 76, 3) := by decide +kernel
theorem dX12_storeCargo_4 : decode cX12_storeCargo 4 = .ok (.ifCond .ne 10, 3) := by decide +kernel
theorem dX12_storeCargo_7 : decode cX12_storeCargo 7 = .ok (.aload_n 0, 1) := by decide +kernel
theorem dX12_storeCargo_8 : decode cX12_storeCargo 8 = .ok (.getfield 47, 3) := by decide +kernel
theorem dX12_storeCargo_11 : decode cX12_storeCargo 11 = .ok (.invokevirtual 398, 3) := by decide +kernel
theorem dX12_storeCargo_14 : decode cX12_storeCargo 14 = .ok (.aload_n 0, 1) := by decide +kernel
theorem dX12_storeCargo_15 : decode cX12_storeCargo 15 = .ok (.getfield 47, 3) := by decide +kernel
theorem dX12_storeCargo_18 : decode cX12_storeCargo 18 = .ok (.getfield 401, 3) := by decide +kernel
theorem dX12_storeCargo_21 : decode cX12_storeCargo 21 = .ok (.ifnonnull 7, 3) := by decide +kernel
theorem dX12_storeCargo_24 : decode cX12_storeCargo 24 = .ok (.iconst 0, 1) := by decide +kernel
theorem dX12_storeCargo_25 : decode cX12_storeCargo 25 = .ok (.goto 13, 3) := by decide +kernel
theorem dX12_storeCargo_28 : decode cX12_storeCargo 28 = .ok (.aload_n 0, 1) := by decide +kernel
theorem dX12_storeCargo_29 : decode cX12_storeCargo 29 = .ok (.getfield 47, 3) := by decide +kernel
theorem dX12_storeCargo_32 : decode cX12_storeCargo 32 = .ok (.getfield 401, 3) := by decide +kernel
theorem dX12_storeCargo_35 : decode cX12_storeCargo 35 = .ok (.getfield 348, 3) := by decide +kernel
theorem dX12_storeCargo_38 : decode cX12_storeCargo 38 = .ok (.istore_n 1, 1) := by decide +kernel
theorem dX12_storeCargo_39 : decode cX12_storeCargo 39 = .ok (.aload_n 0, 1) := by decide +kernel
theorem dX12_storeCargo_40 : decode cX12_storeCargo 40 = .ok (.getfield 47, 3) := by decide +kernel
theorem dX12_storeCargo_43 : decode cX12_storeCargo 43 = .ok (.getfield 404, 3) := by decide +kernel
theorem dX12_storeCargo_46 : decode cX12_storeCargo 46 = .ok (.ifCond .eq 7, 3) := by decide +kernel
theorem dX12_storeCargo_49 : decode cX12_storeCargo 49 = .ok (.iload_n 1, 1) := by decide +kernel
theorem dX12_storeCargo_50 : decode cX12_storeCargo 50 = .ok (.goto 4, 3) := by decide +kernel
theorem dX12_storeCargo_53 : decode cX12_storeCargo 53 = .ok (.iconst 0, 1) := by decide +kernel
theorem dX12_storeCargo_54 : decode cX12_storeCargo 54 = .ok (.istore_n 2, 1) := by decide +kernel
theorem dX12_storeCargo_55 : decode cX12_storeCargo 55 = .ok (.iload_n 2, 1) := by decide +kernel
theorem dX12_storeCargo_56 : decode cX12_storeCargo 56 = .ok (.aload_n 0, 1) := by decide +kernel
theorem dX12_storeCargo_57 : decode cX12_storeCargo 57 = .ok (.getfield 47, 3) := by decide +kernel
theorem dX12_storeCargo_60 : decode cX12_storeCargo 60 = .ok (.getfield 407, 3) := by decide +kernel
theorem dX12_storeCargo_63 : decode cX12_storeCargo 63 = .ok (.iadd, 1) := by decide +kernel
theorem dX12_storeCargo_64 : decode cX12_storeCargo 64 = .ok (.istore_n 3, 1) := by decide +kernel
theorem dX12_storeCargo_65 : decode cX12_storeCargo 65 = .ok (.iload_n 3, 1) := by decide +kernel
theorem dX12_storeCargo_66 : decode cX12_storeCargo 66 = .ok (.bipush 32, 2) := by decide +kernel
theorem dX12_storeCargo_68 : decode cX12_storeCargo 68 = .ok (.if_icmp .gt 20, 3) := by decide +kernel
theorem dX12_storeCargo_71 : decode cX12_storeCargo 71 = .ok (.aload_n 0, 1) := by decide +kernel
theorem dX12_storeCargo_72 : decode cX12_storeCargo 72 = .ok (.getfield 19, 3) := by decide +kernel
theorem dX12_storeCargo_75 : decode cX12_storeCargo 75 = .ok (.invokevirtual 173, 3) := by decide +kernel
theorem dX12_storeCargo_78 : decode cX12_storeCargo 78 = .ok (.iload_n 1, 1) := by decide +kernel
theorem dX12_storeCargo_79 : decode cX12_storeCargo 79 = .ok (.isub, 1) := by decide +kernel
theorem dX12_storeCargo_80 : decode cX12_storeCargo 80 = .ok (.iload_n 3, 1) := by decide +kernel
theorem dX12_storeCargo_81 : decode cX12_storeCargo 81 = .ok (.iadd, 1) := by decide +kernel
theorem dX12_storeCargo_82 : decode cX12_storeCargo 82 = .ok (.sipush 200, 3) := by decide +kernel
theorem dX12_storeCargo_85 : decode cX12_storeCargo 85 = .ok (.if_icmp .le 5, 3) := by decide +kernel
theorem dX12_storeCargo_88 : decode cX12_storeCargo 88 = .ok (.iconst 0, 1) := by decide +kernel
theorem dX12_storeCargo_89 : decode cX12_storeCargo 89 = .ok (.ireturn, 1) := by decide +kernel
theorem dX12_storeCargo_90 : decode cX12_storeCargo 90 = .ok (.aload_n 0, 1) := by decide +kernel
theorem dX12_storeCargo_91 : decode cX12_storeCargo 91 = .ok (.getfield 47, 3) := by decide +kernel
theorem dX12_storeCargo_94 : decode cX12_storeCargo 94 = .ok (.getfield 401, 3) := by decide +kernel
theorem dX12_storeCargo_97 : decode cX12_storeCargo 97 = .ok (.ifnonnull 28, 3) := by decide +kernel
theorem dX12_storeCargo_100 : decode cX12_storeCargo 100 = .ok (.aload_n 0, 1) := by decide +kernel
theorem dX12_storeCargo_101 : decode cX12_storeCargo 101 = .ok (.getfield 19, 3) := by decide +kernel
theorem dX12_storeCargo_104 : decode cX12_storeCargo 104 = .ok (.aload_n 0, 1) := by decide +kernel
theorem dX12_storeCargo_105 : decode cX12_storeCargo 105 = .ok (.getfield 47, 3) := by decide +kernel
theorem dX12_storeCargo_108 : decode cX12_storeCargo 108 = .ok (.getfield 410, 3) := by decide +kernel
theorem dX12_storeCargo_111 : decode cX12_storeCargo 111 = .ok (.aload_n 0, 1) := by decide +kernel
theorem dX12_storeCargo_112 : decode cX12_storeCargo 112 = .ok (.getfield 47, 3) := by decide +kernel
theorem dX12_storeCargo_115 : decode cX12_storeCargo 115 = .ok (.getfield 412, 3) := by decide +kernel
theorem dX12_storeCargo_118 : decode cX12_storeCargo 118 = .ok (.iconst 0, 1) := by decide +kernel
theorem dX12_storeCargo_119 : decode cX12_storeCargo 119 = .ok (.invokevirtual 111, 3) := by decide +kernel
theorem dX12_storeCargo_122 : decode cX12_storeCargo 122 = .ok (.goto 10, 3) := by decide +kernel
theorem dX12_storeCargo_125 : decode cX12_storeCargo 125 = .ok (.aload_n 0, 1) := by decide +kernel
theorem dX12_storeCargo_126 : decode cX12_storeCargo 126 = .ok (.getfield 47, 3) := by decide +kernel
theorem dX12_storeCargo_129 : decode cX12_storeCargo 129 = .ok (.getfield 401, 3) := by decide +kernel
theorem dX12_storeCargo_132 : decode cX12_storeCargo 132 = .ok (.astore 4, 2) := by decide +kernel
theorem dX12_storeCargo_134 : decode cX12_storeCargo 134 = .ok (.aload 4, 2) := by decide +kernel
theorem dX12_storeCargo_136 : decode cX12_storeCargo 136 = .ok (.ifnonnull 5, 3) := by decide +kernel
theorem dX12_storeCargo_139 : decode cX12_storeCargo 139 = .ok (.iconst 0, 1) := by decide +kernel
theorem dX12_storeCargo_140 : decode cX12_storeCargo 140 = .ok (.ireturn, 1) := by decide +kernel
theorem dX12_storeCargo_141 : decode cX12_storeCargo 141 = .ok (.aload_n 0, 1) := by decide +kernel
theorem dX12_storeCargo_142 : decode cX12_storeCargo 142 = .ok (.getfield 47, 3) := by decide +kernel
theorem dX12_storeCargo_145 : decode cX12_storeCargo 145 = .ok (.getfield 413, 3) := by decide +kernel
theorem dX12_storeCargo_148 : decode cX12_storeCargo 148 = .ok (.iconst 0, 1) := by decide +kernel
theorem dX12_storeCargo_149 : decode cX12_storeCargo 149 = .ok (.aload 4, 2) := by decide +kernel
theorem dX12_storeCargo_151 : decode cX12_storeCargo 151 = .ok (.getfield 416, 3) := by decide +kernel
theorem dX12_storeCargo_154 : decode cX12_storeCargo 154 = .ok (.iload_n 2, 1) := by decide +kernel
theorem dX12_storeCargo_155 : decode cX12_storeCargo 155 = .ok (.aload_n 0, 1) := by decide +kernel
theorem dX12_storeCargo_156 : decode cX12_storeCargo 156 = .ok (.getfield 47, 3) := by decide +kernel
theorem dX12_storeCargo_159 : decode cX12_storeCargo 159 = .ok (.getfield 407, 3) := by decide +kernel
theorem dX12_storeCargo_162 : decode cX12_storeCargo 162 = .ok (.invokestatic 419, 3) := by decide +kernel
theorem dX12_storeCargo_165 : decode cX12_storeCargo 165 = .ok (.aload 4, 2) := by decide +kernel
theorem dX12_storeCargo_167 : decode cX12_storeCargo 167 = .ok (.iload_n 3, 1) := by decide +kernel
theorem dX12_storeCargo_168 : decode cX12_storeCargo 168 = .ok (.putfield 348, 3) := by decide +kernel
theorem dX12_storeCargo_171 : decode cX12_storeCargo 171 = .ok (.iconst 1, 1) := by decide +kernel
theorem dX12_storeCargo_172 : decode cX12_storeCargo 172 = .ok (.ireturn, 1) := by decide +kernel
theorem dX13_init_0 : decode cX13_init 0 = .ok (.aload_n 0, 1) := by decide +kernel
theorem dX13_init_1 : decode cX13_init 1 = .ok (.invokespecial 1, 3) := by decide +kernel
theorem dX13_init_4 : decode cX13_init 4 = .ok (.aload_n 0, 1) := by decide +kernel
theorem dX13_init_5 : decode cX13_init 5 = .ok (.bipush 24, 2) := by decide +kernel
theorem dX13_init_7 : decode cX13_init 7 = .ok (.newarray .int, 2) := by decide +kernel
theorem dX13_init_9 : decode cX13_init 9 = .ok (.putfield 7, 3) := by decide +kernel
theorem dX13_init_12 : decode cX13_init 12 = .ok (.aload_n 0, 1) := by decide +kernel
theorem dX13_init_13 : decode cX13_init 13 = .ok (.bipush 24, 2) := by decide +kernel
theorem dX13_init_15 : decode cX13_init 15 = .ok (.newarray .int, 2) := by decide +kernel
theorem dX13_init_17 : decode cX13_init 17 = .ok (.putfield 13, 3) := by decide +kernel
theorem dX13_init_20 : decode cX13_init 20 = .ok (.aload_n 0, 1) := by decide +kernel
theorem dX13_init_21 : decode cX13_init 21 = .ok (.bipush 24, 2) := by decide +kernel
theorem dX13_init_23 : decode cX13_init 23 = .ok (.newarray .long, 2) := by decide +kernel
theorem dX13_init_25 : decode cX13_init 25 = .ok (.putfield 16, 3) := by decide +kernel
theorem dX13_init_28 : decode cX13_init 28 = .ok (.aload_n 0, 1) := by decide +kernel
theorem dX13_init_29 : decode cX13_init 29 = .ok (.bipush 24, 2) := by decide +kernel
theorem dX13_init_31 : decode cX13_init 31 = .ok (.newarray .int, 2) := by decide +kernel
theorem dX13_init_33 : decode cX13_init 33 = .ok (.putfield 20, 3) := by decide +kernel
theorem dX13_init_36 : decode cX13_init 36 = .ok (.aload_n 0, 1) := by decide +kernel
theorem dX13_init_37 : decode cX13_init 37 = .ok (.sipush 768, 3) := by decide +kernel
theorem dX13_init_40 : decode cX13_init 40 = .ok (.newarray .int, 2) := by decide +kernel
theorem dX13_init_42 : decode cX13_init 42 = .ok (.putfield 23, 3) := by decide +kernel
theorem dX13_init_45 : decode cX13_init 45 = .ok (.aload_n 0, 1) := by decide +kernel
theorem dX13_init_46 : decode cX13_init 46 = .ok (.iconst 4, 1) := by decide +kernel
theorem dX13_init_47 : decode cX13_init 47 = .ok (.newarray .long, 2) := by decide +kernel
theorem dX13_init_49 : decode cX13_init 49 = .ok (.putfield 26, 3) := by decide +kernel
theorem dX13_init_52 : decode cX13_init 52 = .ok (.aload_n 0, 1) := by decide +kernel
theorem dX13_init_53 : decode cX13_init 53 = .ok (.iconst 4, 1) := by decide +kernel
theorem dX13_init_54 : decode cX13_init 54 = .ok (.newarray .long, 2) := by decide +kernel
theorem dX13_init_56 : decode cX13_init 56 = .ok (.putfield 29, 3) := by decide +kernel
theorem dX13_init_59 : decode cX13_init 59 = .ok (.aload_n 0, 1) := by decide +kernel
theorem dX13_init_60 : decode cX13_init 60 = .ok (.iconst 4, 1) := by decide +kernel
theorem dX13_init_61 : decode cX13_init 61 = .ok (.newarray .int, 2) := by decide +kernel
theorem dX13_init_63 : decode cX13_init 63 = .ok (.putfield 32, 3) := by decide +kernel
theorem dX13_init_66 : decode cX13_init 66 = .ok (.aload_n 0, 1) := by decide +kernel
theorem dX13_init_67 : decode cX13_init 67 = .ok (.bipush 32, 2) := by decide +kernel
theorem dX13_init_69 : decode cX13_init 69 = .ok (.newarray .char, 2) := by decide +kernel
theorem dX13_init_71 : decode cX13_init 71 = .ok (.putfield 35, 3) := by decide +kernel
theorem dX13_init_74 : decode cX13_init 74 = .ok (.aload_n 0, 1) := by decide +kernel
theorem dX13_init_75 : decode cX13_init 75 = .ok (.sipush 200, 3) := by decide +kernel
theorem dX13_init_78 : decode cX13_init 78 = .ok (.newarray .char, 2) := by decide +kernel
theorem dX13_init_80 : decode cX13_init 80 = .ok (.putfield 39, 3) := by decide +kernel
theorem dX13_init_83 : decode cX13_init 83 = .ok (.aload_n 0, 1) := by decide +kernel
theorem dX13_init_84 : decode cX13_init 84 = .ok (.iconst (-1), 1) := by decide +kernel
theorem dX13_init_85 : decode cX13_init 85 = .ok (.putfield 42, 3) := by decide +kernel
theorem dX13_init_88 : decode cX13_init 88 = .ok (.aload_n 0, 1) := by decide +kernel
theorem dX13_init_89 : decode cX13_init 89 = .ok (.iconst (-1), 1) := by decide +kernel
theorem dX13_init_90 : decode cX13_init 90 = .ok (.putfield 46, 3) := by decide +kernel
theorem dX13_init_93 : decode cX13_init 93 = .ok (.aload_n 0, 1) := by decide +kernel
theorem dX13_init_94 : decode cX13_init 94 = .ok (.iconst (-1), 1) := by decide +kernel
theorem dX13_init_95 : decode cX13_init 95 = .ok (.putfield 49, 3) := by decide +kernel
theorem dX13_init_98 : decode cX13_init 98 = .ok (.aload_n 0, 1) := by decide +kernel
theorem dX13_init_99 : decode cX13_init 99 = .ok (.sipush 200, 3) := by decide +kernel
theorem dX13_init_102 : decode cX13_init 102 = .ok (.newarray .int, 2) := by decide +kernel
theorem dX13_init_104 : decode cX13_init 104 = .ok (.putfield 52, 3) := by decide +kernel
theorem dX13_init_107 : decode cX13_init 107 = .ok (.return_, 1) := by decide +kernel
theorem dX13_fits_0 : decode cX13_fits 0 = .ok (.lload_n 0, 1) := by decide +kernel
theorem dX13_fits_1 : decode cX13_fits 1 = .ok (.ldc2_w 55, 3) := by decide +kernel
theorem dX13_fits_4 : decode cX13_fits 4 = .ok (.lcmp, 1) := by decide +kernel
theorem dX13_fits_5 : decode cX13_fits 5 = .ok (.ifCond .lt 11, 3) := by decide +kernel
theorem dX13_fits_8 : decode cX13_fits 8 = .ok (.lload_n 0, 1) := by decide +kernel
theorem dX13_fits_9 : decode cX13_fits 9 = .ok (.ldc2_w 57, 3) := by decide +kernel
theorem dX13_fits_12 : decode cX13_fits 12 = .ok (.lcmp, 1) := by decide +kernel
theorem dX13_fits_13 : decode cX13_fits 13 = .ok (.ifCond .le 35, 3) := by decide +kernel
theorem dX13_fits_16 : decode cX13_fits 16 = .ok (.lload_n 0, 1) := by decide +kernel
theorem dX13_fits_17 : decode cX13_fits 17 = .ok (.ldc2_w 59, 3) := by decide +kernel
theorem dX13_fits_20 : decode cX13_fits 20 = .ok (.lcmp, 1) := by decide +kernel
theorem dX13_fits_21 : decode cX13_fits 21 = .ok (.ifCond .lt 11, 3) := by decide +kernel
theorem dX13_fits_24 : decode cX13_fits 24 = .ok (.lload_n 0, 1) := by decide +kernel
theorem dX13_fits_25 : decode cX13_fits 25 = .ok (.ldc2_w 61, 3) := by decide +kernel
theorem dX13_fits_28 : decode cX13_fits 28 = .ok (.lcmp, 1) := by decide +kernel
theorem dX13_fits_29 : decode cX13_fits 29 = .ok (.ifCond .le 19, 3) := by decide +kernel
theorem dX13_fits_32 : decode cX13_fits 32 = .ok (.lload_n 0, 1) := by decide +kernel
theorem dX13_fits_33 : decode cX13_fits 33 = .ok (.ldc2_w 63, 3) := by decide +kernel
theorem dX13_fits_36 : decode cX13_fits 36 = .ok (.lcmp, 1) := by decide +kernel
theorem dX13_fits_37 : decode cX13_fits 37 = .ok (.ifCond .eq 11, 3) := by decide +kernel
theorem dX13_fits_40 : decode cX13_fits 40 = .ok (.lload_n 0, 1) := by decide +kernel
theorem dX13_fits_41 : decode cX13_fits 41 = .ok (.ldc2_w 65, 3) := by decide +kernel
theorem dX13_fits_44 : decode cX13_fits 44 = .ok (.lcmp, 1) := by decide +kernel
theorem dX13_fits_45 : decode cX13_fits 45 = .ok (.ifCond .ne 7, 3) := by decide +kernel
theorem dX13_fits_48 : decode cX13_fits 48 = .ok (.iconst 1, 1) := by decide +kernel
theorem dX13_fits_49 : decode cX13_fits 49 = .ok (.goto 4, 3) := by decide +kernel
theorem dX13_fits_52 : decode cX13_fits 52 = .ok (.iconst 0, 1) := by decide +kernel
theorem dX13_fits_53 : decode cX13_fits 53 = .ok (.ireturn, 1) := by decide +kernel
theorem dX13_nameAt_0 : decode cX13_nameAt 0 = .ok (.lconst 0, 1) := by decide +kernel
theorem dX13_nameAt_1 : decode cX13_nameAt 1 = .ok (.lstore_n 3, 1) := by decide +kernel
theorem dX13_nameAt_2 : decode cX13_nameAt 2 = .ok (.iload_n 2, 1) := by decide +kernel
theorem dX13_nameAt_3 : decode cX13_nameAt 3 = .ok (.iload_n 1, 1) := by decide +kernel
theorem dX13_nameAt_4 : decode cX13_nameAt 4 = .ok (.if_icmp .le 15, 3) := by decide +kernel
theorem dX13_nameAt_7 : decode cX13_nameAt 7 = .ok (.iload_n 2, 1) := by decide +kernel
theorem dX13_nameAt_8 : decode cX13_nameAt 8 = .ok (.iload_n 1, 1) := by decide +kernel
theorem dX13_nameAt_9 : decode cX13_nameAt 9 = .ok (.isub, 1) := by decide +kernel
theorem dX13_nameAt_10 : decode cX13_nameAt 10 = .ok (.bipush 6, 2) := by decide +kernel
theorem dX13_nameAt_12 : decode cX13_nameAt 12 = .ok (.if_icmp .gt 7, 3) := by decide +kernel
theorem dX13_nameAt_15 : decode cX13_nameAt 15 = .ok (.iconst 1, 1) := by decide +kernel
theorem dX13_nameAt_16 : decode cX13_nameAt 16 = .ok (.goto 4, 3) := by decide +kernel
theorem dX13_nameAt_19 : decode cX13_nameAt 19 = .ok (.iconst 0, 1) := by decide +kernel
theorem dX13_nameAt_20 : decode cX13_nameAt 20 = .ok (.istore 5, 2) := by decide +kernel
theorem dX13_nameAt_22 : decode cX13_nameAt 22 = .ok (.iload_n 1, 1) := by decide +kernel
theorem dX13_nameAt_23 : decode cX13_nameAt 23 = .ok (.istore 6, 2) := by decide +kernel
theorem dX13_nameAt_25 : decode cX13_nameAt 25 = .ok (.iload 6, 2) := by decide +kernel
theorem dX13_nameAt_27 : decode cX13_nameAt 27 = .ok (.iload_n 2, 1) := by decide +kernel
theorem dX13_nameAt_28 : decode cX13_nameAt 28 = .ok (.if_icmp .ge 48, 3) := by decide +kernel
theorem dX13_nameAt_31 : decode cX13_nameAt 31 = .ok (.iload 5, 2) := by decide +kernel
theorem dX13_nameAt_33 : decode cX13_nameAt 33 = .ok (.ifCond .eq 43, 3) := by decide +kernel
theorem dX13_nameAt_36 : decode cX13_nameAt 36 = .ok (.aload_n 0, 1) := by decide +kernel
theorem dX13_nameAt_37 : decode cX13_nameAt 37 = .ok (.getfield 35, 3) := by decide +kernel
theorem dX13_nameAt_40 : decode cX13_nameAt 40 = .ok (.iload 6, 2) := by decide +kernel
theorem dX13_nameAt_42 : decode cX13_nameAt 42 = .ok (.caload, 1) := by decide +kernel
theorem dX13_nameAt_43 : decode cX13_nameAt 43 = .ok (.i2l, 1) := by decide +kernel
theorem dX13_nameAt_44 : decode cX13_nameAt 44 = .ok (.invokestatic 67, 3) := by decide +kernel
theorem dX13_nameAt_47 : decode cX13_nameAt 47 = .ok (.istore 5, 2) := by decide +kernel
theorem dX13_nameAt_49 : decode cX13_nameAt 49 = .ok (.lload_n 3, 1) := by decide +kernel
theorem dX13_nameAt_50 : decode cX13_nameAt 50 = .ok (.aload_n 0, 1) := by decide +kernel
theorem dX13_nameAt_51 : decode cX13_nameAt 51 = .ok (.getfield 35, 3) := by decide +kernel
theorem dX13_nameAt_54 : decode cX13_nameAt 54 = .ok (.iload 6, 2) := by decide +kernel
theorem dX13_nameAt_56 : decode cX13_nameAt 56 = .ok (.caload, 1) := by decide +kernel
theorem dX13_nameAt_57 : decode cX13_nameAt 57 = .ok (.i2l, 1) := by decide +kernel
theorem dX13_nameAt_58 : decode cX13_nameAt 58 = .ok (.bipush 8, 2) := by decide +kernel
theorem dX13_nameAt_60 : decode cX13_nameAt 60 = .ok (.iconst 5, 1) := by decide +kernel
theorem dX13_nameAt_61 : decode cX13_nameAt 61 = .ok (.iload 6, 2) := by decide +kernel
theorem dX13_nameAt_63 : decode cX13_nameAt 63 = .ok (.isub, 1) := by decide +kernel
theorem dX13_nameAt_64 : decode cX13_nameAt 64 = .ok (.iload_n 1, 1) := by decide +kernel
theorem dX13_nameAt_65 : decode cX13_nameAt 65 = .ok (.iadd, 1) := by decide +kernel
theorem dX13_nameAt_66 : decode cX13_nameAt 66 = .ok (.imul, 1) := by decide +kernel
theorem dX13_nameAt_67 : decode cX13_nameAt 67 = .ok (.lshl, 1) := by decide +kernel
theorem dX13_nameAt_68 : decode cX13_nameAt 68 = .ok (.ladd, 1) := by decide +kernel
theorem dX13_nameAt_69 : decode cX13_nameAt 69 = .ok (.lstore_n 3, 1) := by decide +kernel
theorem dX13_nameAt_70 : decode cX13_nameAt 70 = .ok (.iinc 6 1, 3) := by decide +kernel
theorem dX13_nameAt_73 : decode cX13_nameAt 73 = .ok (.goto (-48), 3) := by decide +kernel
theorem dX13_nameAt_76 : decode cX13_nameAt 76 = .ok (.iload 5, 2) := by decide +kernel
theorem dX13_nameAt_78 : decode cX13_nameAt 78 = .ok (.ifCond .eq 12, 3) := by decide +kernel
theorem dX13_nameAt_81 : decode cX13_nameAt 81 = .ok (.aload_n 0, 1) := by decide +kernel
theorem dX13_nameAt_82 : decode cX13_nameAt 82 = .ok (.iload_n 1, 1) := by decide +kernel
theorem dX13_nameAt_83 : decode cX13_nameAt 83 = .ok (.iload_n 2, 1) := by decide +kernel
theorem dX13_nameAt_84 : decode cX13_nameAt 84 = .ok (.invokevirtual 71, 3) := by decide +kernel
theorem dX13_nameAt_87 : decode cX13_nameAt 87 = .ok (.ifCond .le 7, 3) := by decide +kernel
theorem dX13_nameAt_90 : decode cX13_nameAt 90 = .ok (.lconst 0, 1) := by decide +kernel
theorem dX13_nameAt_91 : decode cX13_nameAt 91 = .ok (.goto 4, 3) := by decide +kernel
theorem dX13_nameAt_94 : decode cX13_nameAt 94 = .ok (.lload_n 3, 1) := by decide +kernel
theorem dX13_nameAt_95 : decode cX13_nameAt 95 = .ok (.lreturn, 1) := by decide +kernel
theorem dX13_isDots_0 : decode cX13_isDots 0 = .ok (.iconst 1, 1) := by decide +kernel
theorem dX13_isDots_1 : decode cX13_isDots 1 = .ok (.istore_n 3, 1) := by decide +kernel
theorem dX13_isDots_2 : decode cX13_isDots 2 = .ok (.iload_n 1, 1) := by decide +kernel
theorem dX13_isDots_3 : decode cX13_isDots 3 = .ok (.istore 4, 2) := by decide +kernel
theorem dX13_isDots_5 : decode cX13_isDots 5 = .ok (.iload 4, 2) := by decide +kernel
theorem dX13_isDots_7 : decode cX13_isDots 7 = .ok (.iload_n 2, 1) := by decide +kernel
theorem dX13_isDots_8 : decode cX13_isDots 8 = .ok (.if_icmp .ge 31, 3) := by decide +kernel
theorem dX13_isDots_11 : decode cX13_isDots 11 = .ok (.iload_n 3, 1) := by decide +kernel
theorem dX13_isDots_12 : decode cX13_isDots 12 = .ok (.ifCond .eq 19, 3) := by decide +kernel
theorem dX13_isDots_15 : decode cX13_isDots 15 = .ok (.aload_n 0, 1) := by decide +kernel
theorem dX13_isDots_16 : decode cX13_isDots 16 = .ok (.getfield 35, 3) := by decide +kernel
theorem dX13_isDots_19 : decode cX13_isDots 19 = .ok (.iload 4, 2) := by decide +kernel
theorem dX13_isDots_21 : decode cX13_isDots 21 = .ok (.caload, 1) := by decide +kernel
theorem dX13_isDots_22 : decode cX13_isDots 22 = .ok (.bipush 46, 2) := by decide +kernel
theorem dX13_isDots_24 : decode cX13_isDots 24 = .ok (.if_icmp .ne 7, 3) := by decide +kernel
theorem dX13_isDots_27 : decode cX13_isDots 27 = .ok (.iconst 1, 1) := by decide +kernel
theorem dX13_isDots_28 : decode cX13_isDots 28 = .ok (.goto 4, 3) := by decide +kernel
theorem dX13_isDots_31 : decode cX13_isDots 31 = .ok (.iconst 0, 1) := by decide +kernel
theorem dX13_isDots_32 : decode cX13_isDots 32 = .ok (.istore_n 3, 1) := by decide +kernel
theorem dX13_isDots_33 : decode cX13_isDots 33 = .ok (.iinc 4 1, 3) := by decide +kernel
theorem dX13_isDots_36 : decode cX13_isDots 36 = .ok (.goto (-31), 3) := by decide +kernel
theorem dX13_isDots_39 : decode cX13_isDots 39 = .ok (.iload_n 3, 1) := by decide +kernel
theorem dX13_isDots_40 : decode cX13_isDots 40 = .ok (.ifCond .eq 16, 3) := by decide +kernel
theorem dX13_isDots_43 : decode cX13_isDots 43 = .ok (.iload_n 2, 1) := by decide +kernel
theorem dX13_isDots_44 : decode cX13_isDots 44 = .ok (.iload_n 1, 1) := by decide +kernel
theorem dX13_isDots_45 : decode cX13_isDots 45 = .ok (.isub, 1) := by decide +kernel
theorem dX13_isDots_46 : decode cX13_isDots 46 = .ok (.iconst 3, 1) := by decide +kernel
theorem dX13_isDots_47 : decode cX13_isDots 47 = .ok (.if_icmp .ge 9, 3) := by decide +kernel
theorem dX13_isDots_50 : decode cX13_isDots 50 = .ok (.iload_n 2, 1) := by decide +kernel
theorem dX13_isDots_51 : decode cX13_isDots 51 = .ok (.iload_n 1, 1) := by decide +kernel
theorem dX13_isDots_52 : decode cX13_isDots 52 = .ok (.isub, 1) := by decide +kernel
theorem dX13_isDots_53 : decode cX13_isDots 53 = .ok (.goto 4, 3) := by decide +kernel
theorem dX13_isDots_56 : decode cX13_isDots 56 = .ok (.iconst 0, 1) := by decide +kernel
theorem dX13_isDots_57 : decode cX13_isDots 57 = .ok (.ireturn, 1) := by decide +kernel
theorem dX13_endOfPart_0 : decode cX13_endOfPart 0 = .ok (.iload_n 1, 1) := by decide +kernel
theorem dX13_endOfPart_1 : decode cX13_endOfPart 1 = .ok (.istore_n 2, 1) := by decide +kernel
theorem dX13_endOfPart_2 : decode cX13_endOfPart 2 = .ok (.iload_n 2, 1) := by decide +kernel
theorem dX13_endOfPart_3 : decode cX13_endOfPart 3 = .ok (.aload_n 0, 1) := by decide +kernel
theorem dX13_endOfPart_4 : decode cX13_endOfPart 4 = .ok (.getfield 75, 3) := by decide +kernel
theorem dX13_endOfPart_7 : decode cX13_endOfPart 7 = .ok (.if_icmp .ge 21, 3) := by decide +kernel
theorem dX13_endOfPart_10 : decode cX13_endOfPart 10 = .ok (.aload_n 0, 1) := by decide +kernel
theorem dX13_endOfPart_11 : decode cX13_endOfPart 11 = .ok (.getfield 35, 3) := by decide +kernel
theorem dX13_endOfPart_14 : decode cX13_endOfPart 14 = .ok (.iload_n 2, 1) := by decide +kernel
theorem dX13_endOfPart_15 : decode cX13_endOfPart 15 = .ok (.caload, 1) := by decide +kernel
theorem dX13_endOfPart_16 : decode cX13_endOfPart 16 = .ok (.bipush 47, 2) := by decide +kernel
theorem dX13_endOfPart_18 : decode cX13_endOfPart 18 = .ok (.if_icmp .eq 10, 3) := by decide +kernel
theorem dX13_endOfPart_21 : decode cX13_endOfPart 21 = .ok (.iload_n 2, 1) := by decide +kernel
theorem dX13_endOfPart_22 : decode cX13_endOfPart 22 = .ok (.iconst 1, 1) := by decide +kernel
theorem dX13_endOfPart_23 : decode cX13_endOfPart 23 = .ok (.iadd, 1) := by decide +kernel
theorem dX13_endOfPart_24 : decode cX13_endOfPart 24 = .ok (.istore_n 2, 1) := by decide +kernel
theorem dX13_endOfPart_25 : decode cX13_endOfPart 25 = .ok (.goto (-23), 3) := by decide +kernel
theorem dX13_endOfPart_28 : decode cX13_endOfPart 28 = .ok (.iload_n 2, 1) := by decide +kernel
theorem dX13_endOfPart_29 : decode cX13_endOfPart 29 = .ok (.ireturn, 1) := by decide +kernel
theorem dX13_isPath_0 : decode cX13_isPath 0 = .ok (.aload_n 0, 1) := by decide +kernel
theorem dX13_isPath_1 : decode cX13_isPath 1 = .ok (.getfield 35, 3) := by decide +kernel
theorem dX13_isPath_4 : decode cX13_isPath 4 = .ok (.aload_n 0, 1) := by decide +kernel
theorem dX13_isPath_5 : decode cX13_isPath 5 = .ok (.getfield 78, 3) := by decide +kernel
theorem dX13_isPath_8 : decode cX13_isPath 8 = .ok (.caload, 1) := by decide +kernel
theorem dX13_isPath_9 : decode cX13_isPath 9 = .ok (.bipush 47, 2) := by decide +kernel
theorem dX13_isPath_11 : decode cX13_isPath 11 = .ok (.if_icmp .ne 12, 3) := by decide +kernel
theorem dX13_isPath_14 : decode cX13_isPath 14 = .ok (.aload_n 0, 1) := by decide +kernel
theorem dX13_isPath_15 : decode cX13_isPath 15 = .ok (.getfield 78, 3) := by decide +kernel
theorem dX13_isPath_18 : decode cX13_isPath 18 = .ok (.iconst 1, 1) := by decide +kernel
theorem dX13_isPath_19 : decode cX13_isPath 19 = .ok (.iadd, 1) := by decide +kernel
theorem dX13_isPath_20 : decode cX13_isPath 20 = .ok (.goto 7, 3) := by decide +kernel
theorem dX13_isPath_23 : decode cX13_isPath 23 = .ok (.aload_n 0, 1) := by decide +kernel
theorem dX13_isPath_24 : decode cX13_isPath 24 = .ok (.getfield 78, 3) := by decide +kernel
theorem dX13_isPath_27 : decode cX13_isPath 27 = .ok (.istore_n 1, 1) := by decide +kernel
theorem dX13_isPath_28 : decode cX13_isPath 28 = .ok (.iconst 1, 1) := by decide +kernel
theorem dX13_isPath_29 : decode cX13_isPath 29 = .ok (.istore_n 2, 1) := by decide +kernel
theorem dX13_isPath_30 : decode cX13_isPath 30 = .ok (.iload_n 1, 1) := by decide +kernel
theorem dX13_isPath_31 : decode cX13_isPath 31 = .ok (.aload_n 0, 1) := by decide +kernel
theorem dX13_isPath_32 : decode cX13_isPath 32 = .ok (.getfield 75, 3) := by decide +kernel
theorem dX13_isPath_35 : decode cX13_isPath 35 = .ok (.if_icmp .ge 46, 3) := by decide +kernel
theorem dX13_isPath_38 : decode cX13_isPath 38 = .ok (.iload_n 2, 1) := by decide +kernel
theorem dX13_isPath_39 : decode cX13_isPath 39 = .ok (.ifCond .eq 42, 3) := by decide +kernel
theorem dX13_isPath_42 : decode cX13_isPath 42 = .ok (.aload_n 0, 1) := by decide +kernel
theorem dX13_isPath_43 : decode cX13_isPath 43 = .ok (.iload_n 1, 1) := by decide +kernel
theorem dX13_isPath_44 : decode cX13_isPath 44 = .ok (.invokevirtual 81, 3) := by decide +kernel
theorem dX13_isPath_47 : decode cX13_isPath 47 = .ok (.istore_n 3, 1) := by decide +kernel
theorem dX13_isPath_48 : decode cX13_isPath 48 = .ok (.aload_n 0, 1) := by decide +kernel
theorem dX13_isPath_49 : decode cX13_isPath 49 = .ok (.iload_n 1, 1) := by decide +kernel
theorem dX13_isPath_50 : decode cX13_isPath 50 = .ok (.iload_n 3, 1) := by decide +kernel
theorem dX13_isPath_51 : decode cX13_isPath 51 = .ok (.invokevirtual 71, 3) := by decide +kernel
theorem dX13_isPath_54 : decode cX13_isPath 54 = .ok (.ifCond .gt 14, 3) := by decide +kernel
theorem dX13_isPath_57 : decode cX13_isPath 57 = .ok (.aload_n 0, 1) := by decide +kernel
theorem dX13_isPath_58 : decode cX13_isPath 58 = .ok (.iload_n 1, 1) := by decide +kernel
theorem dX13_isPath_59 : decode cX13_isPath 59 = .ok (.iload_n 3, 1) := by decide +kernel
theorem dX13_isPath_60 : decode cX13_isPath 60 = .ok (.invokevirtual 85, 3) := by decide +kernel
theorem dX13_isPath_63 : decode cX13_isPath 63 = .ok (.lconst 0, 1) := by decide +kernel
theorem dX13_isPath_64 : decode cX13_isPath 64 = .ok (.lcmp, 1) := by decide +kernel
theorem dX13_isPath_65 : decode cX13_isPath 65 = .ok (.ifCond .eq 7, 3) := by decide +kernel
theorem dX13_isPath_68 : decode cX13_isPath 68 = .ok (.iconst 1, 1) := by decide +kernel
theorem dX13_isPath_69 : decode cX13_isPath 69 = .ok (.goto 4, 3) := by decide +kernel
theorem dX13_isPath_72 : decode cX13_isPath 72 = .ok (.iconst 0, 1) := by decide +kernel
theorem dX13_isPath_73 : decode cX13_isPath 73 = .ok (.istore_n 2, 1) := by decide +kernel
theorem dX13_isPath_74 : decode cX13_isPath 74 = .ok (.iload_n 3, 1) := by decide +kernel
theorem dX13_isPath_75 : decode cX13_isPath 75 = .ok (.iconst 1, 1) := by decide +kernel
theorem dX13_isPath_76 : decode cX13_isPath 76 = .ok (.iadd, 1) := by decide +kernel
theorem dX13_isPath_77 : decode cX13_isPath 77 = .ok (.istore_n 1, 1) := by decide +kernel
theorem dX13_isPath_78 : decode cX13_isPath 78 = .ok (.goto (-48), 3) := by decide +kernel
theorem dX13_isPath_81 : decode cX13_isPath 81 = .ok (.iload_n 2, 1) := by decide +kernel
theorem dX13_isPath_82 : decode cX13_isPath 82 = .ok (.ireturn, 1) := by decide +kernel
theorem dX13_child_0 : decode cX13_child 0 = .ok (.iconst 0, 1) := by decide +kernel
theorem dX13_child_1 : decode cX13_child 1 = .ok (.istore 4, 2) := by decide +kernel
theorem dX13_child_3 : decode cX13_child 3 = .ok (.iload 4, 2) := by decide +kernel
theorem dX13_child_5 : decode cX13_child 5 = .ok (.bipush 24, 2) := by decide +kernel
theorem dX13_child_7 : decode cX13_child 7 = .ok (.if_icmp .ge 51, 3) := by decide +kernel
theorem dX13_child_10 : decode cX13_child 10 = .ok (.aload_n 0, 1) := by decide +kernel
theorem dX13_child_11 : decode cX13_child 11 = .ok (.getfield 7, 3) := by decide +kernel
theorem dX13_child_14 : decode cX13_child 14 = .ok (.iload 4, 2) := by decide +kernel
theorem dX13_child_16 : decode cX13_child 16 = .ok (.iaload, 1) := by decide +kernel
theorem dX13_child_17 : decode cX13_child 17 = .ok (.ifCond .le 35, 3) := by decide +kernel
theorem dX13_child_20 : decode cX13_child 20 = .ok (.aload_n 0, 1) := by decide +kernel
theorem dX13_child_21 : decode cX13_child 21 = .ok (.getfield 13, 3) := by decide +kernel
theorem dX13_child_24 : decode cX13_child 24 = .ok (.iload 4, 2) := by decide +kernel
theorem dX13_child_26 : decode cX13_child 26 = .ok (.iaload, 1) := by decide +kernel
theorem dX13_child_27 : decode cX13_child 27 = .ok (.iload_n 1, 1) := by decide +kernel
theorem dX13_child_28 : decode cX13_child 28 = .ok (.if_icmp .ne 24, 3) := by decide +kernel
theorem dX13_child_31 : decode cX13_child 31 = .ok (.iload 4, 2) := by decide +kernel
theorem dX13_child_33 : decode cX13_child 33 = .ok (.iload_n 1, 1) := by decide +kernel
theorem dX13_child_34 : decode cX13_child 34 = .ok (.if_icmp .eq 18, 3) := by decide +kernel
theorem dX13_child_37 : decode cX13_child 37 = .ok (.aload_n 0, 1) := by decide +kernel
theorem dX13_child_38 : decode cX13_child 38 = .ok (.getfield 16, 3) := by decide +kernel
theorem dX13_child_41 : decode cX13_child 41 = .ok (.iload 4, 2) := by decide +kernel
theorem dX13_child_43 : decode cX13_child 43 = .ok (.laload, 1) := by decide +kernel
theorem dX13_child_44 : decode cX13_child 44 = .ok (.lload_n 2, 1) := by decide +kernel
theorem dX13_child_45 : decode cX13_child 45 = .ok (.lcmp, 1) := by decide +kernel
theorem dX13_child_46 : decode cX13_child 46 = .ok (.ifCond .ne 6, 3) := by decide +kernel
theorem dX13_child_49 : decode cX13_child 49 = .ok (.iload 4, 2) := by decide +kernel
theorem dX13_child_51 : decode cX13_child 51 = .ok (.ireturn, 1) := by decide +kernel
theorem dX13_child_52 : decode cX13_child 52 = .ok (.iinc 4 1, 3) := by decide +kernel
theorem dX13_child_55 : decode cX13_child 55 = .ok (.goto (-52), 3) := by decide +kernel
theorem dX13_child_58 : decode cX13_child 58 = .ok (.iconst (-1), 1) := by decide +kernel
theorem dX13_child_59 : decode cX13_child 59 = .ok (.ireturn, 1) := by decide +kernel
theorem dX13_go_0 : decode cX13_go 0 = .ok (.iload_n 1, 1) := by decide +kernel
theorem dX13_go_1 : decode cX13_go 1 = .ok (.ifCond .lt 13, 3) := by decide +kernel
theorem dX13_go_4 : decode cX13_go 4 = .ok (.aload_n 0, 1) := by decide +kernel
theorem dX13_go_5 : decode cX13_go 5 = .ok (.getfield 7, 3) := by decide +kernel
theorem dX13_go_8 : decode cX13_go 8 = .ok (.iload_n 1, 1) := by decide +kernel
theorem dX13_go_9 : decode cX13_go 9 = .ok (.iaload, 1) := by decide +kernel
theorem dX13_go_10 : decode cX13_go 10 = .ok (.iconst 1, 1) := by decide +kernel
theorem dX13_go_11 : decode cX13_go 11 = .ok (.if_icmp .eq 5, 3) := by decide +kernel
theorem dX13_go_14 : decode cX13_go 14 = .ok (.iconst (-1), 1) := by decide +kernel
theorem dX13_go_15 : decode cX13_go 15 = .ok (.ireturn, 1) := by decide +kernel
theorem dX13_go_16 : decode cX13_go 16 = .ok (.aload_n 0, 1) := by decide +kernel
theorem dX13_go_17 : decode cX13_go 17 = .ok (.iload_n 2, 1) := by decide +kernel
theorem dX13_go_18 : decode cX13_go 18 = .ok (.iload_n 3, 1) := by decide +kernel
theorem dX13_go_19 : decode cX13_go 19 = .ok (.invokevirtual 71, 3) := by decide +kernel
theorem dX13_go_22 : decode cX13_go 22 = .ok (.istore 4, 2) := by decide +kernel
theorem dX13_go_24 : decode cX13_go 24 = .ok (.iload 4, 2) := by decide +kernel
theorem dX13_go_26 : decode cX13_go 26 = .ok (.iconst 1, 1) := by decide +kernel
theorem dX13_go_27 : decode cX13_go 27 = .ok (.if_icmp .ne 7, 3) := by decide +kernel
theorem dX13_go_30 : decode cX13_go 30 = .ok (.iload_n 1, 1) := by decide +kernel
theorem dX13_go_31 : decode cX13_go 31 = .ok (.goto 29, 3) := by decide +kernel
theorem dX13_go_34 : decode cX13_go 34 = .ok (.iload 4, 2) := by decide +kernel
theorem dX13_go_36 : decode cX13_go 36 = .ok (.iconst 2, 1) := by decide +kernel
theorem dX13_go_37 : decode cX13_go 37 = .ok (.if_icmp .ne 12, 3) := by decide +kernel
theorem dX13_go_40 : decode cX13_go 40 = .ok (.aload_n 0, 1) := by decide +kernel
theorem dX13_go_41 : decode cX13_go 41 = .ok (.getfield 13, 3) := by decide +kernel
theorem dX13_go_44 : decode cX13_go 44 = .ok (.iload_n 1, 1) := by decide +kernel
theorem dX13_go_45 : decode cX13_go 45 = .ok (.iaload, 1) := by decide +kernel
theorem dX13_go_46 : decode cX13_go 46 = .ok (.goto 14, 3) := by decide +kernel
theorem dX13_go_49 : decode cX13_go 49 = .ok (.aload_n 0, 1) := by decide +kernel
theorem dX13_go_50 : decode cX13_go 50 = .ok (.iload_n 1, 1) := by decide +kernel
theorem dX13_go_51 : decode cX13_go 51 = .ok (.aload_n 0, 1) := by decide +kernel
theorem dX13_go_52 : decode cX13_go 52 = .ok (.iload_n 2, 1) := by decide +kernel
theorem dX13_go_53 : decode cX13_go 53 = .ok (.iload_n 3, 1) := by decide +kernel
theorem dX13_go_54 : decode cX13_go 54 = .ok (.invokevirtual 85, 3) := by decide +kernel
theorem dX13_go_57 : decode cX13_go 57 = .ok (.invokevirtual 89, 3) := by decide +kernel
theorem dX13_go_60 : decode cX13_go 60 = .ok (.ireturn, 1) := by decide +kernel
theorem dX13_lead_0 : decode cX13_lead 0 = .ok (.aload_n 0, 1) := by decide +kernel
theorem dX13_lead_1 : decode cX13_lead 1 = .ok (.getfield 78, 3) := by decide +kernel
theorem dX13_lead_4 : decode cX13_lead 4 = .ok (.istore_n 2, 1) := by decide +kernel
theorem dX13_lead_5 : decode cX13_lead 5 = .ok (.aload_n 0, 1) := by decide +kernel
theorem dX13_lead_6 : decode cX13_lead 6 = .ok (.getfield 93, 3) := by decide +kernel
theorem dX13_lead_9 : decode cX13_lead 9 = .ok (.istore_n 3, 1) := by decide +kernel
theorem dX13_lead_10 : decode cX13_lead 10 = .ok (.iload_n 2, 1) := by decide +kernel
theorem dX13_lead_11 : decode cX13_lead 11 = .ok (.iload_n 1, 1) := by decide +kernel
theorem dX13_lead_12 : decode cX13_lead 12 = .ok (.if_icmp .ge 23, 3) := by decide +kernel
theorem dX13_lead_15 : decode cX13_lead 15 = .ok (.aload_n 0, 1) := by decide +kernel
theorem dX13_lead_16 : decode cX13_lead 16 = .ok (.getfield 35, 3) := by decide +kernel
theorem dX13_lead_19 : decode cX13_lead 19 = .ok (.iload_n 2, 1) := by decide +kernel
theorem dX13_lead_20 : decode cX13_lead 20 = .ok (.caload, 1) := by decide +kernel
theorem dX13_lead_21 : decode cX13_lead 21 = .ok (.bipush 47, 2) := by decide +kernel
theorem dX13_lead_23 : decode cX13_lead 23 = .ok (.if_icmp .ne 12, 3) := by decide +kernel
theorem dX13_lead_26 : decode cX13_lead 26 = .ok (.aload_n 0, 1) := by decide +kernel
theorem dX13_lead_27 : decode cX13_lead 27 = .ok (.getfield 42, 3) := by decide +kernel
theorem dX13_lead_30 : decode cX13_lead 30 = .ok (.istore_n 3, 1) := by decide +kernel
theorem dX13_lead_31 : decode cX13_lead 31 = .ok (.iload_n 2, 1) := by decide +kernel
theorem dX13_lead_32 : decode cX13_lead 32 = .ok (.iconst 1, 1) := by decide +kernel
theorem dX13_lead_33 : decode cX13_lead 33 = .ok (.iadd, 1) := by decide +kernel
theorem dX13_lead_34 : decode cX13_lead 34 = .ok (.istore_n 2, 1) := by decide +kernel
theorem dX13_lead_35 : decode cX13_lead 35 = .ok (.iload_n 2, 1) := by decide +kernel
theorem dX13_lead_36 : decode cX13_lead 36 = .ok (.iload_n 1, 1) := by decide +kernel
theorem dX13_lead_37 : decode cX13_lead 37 = .ok (.if_icmp .ge 53, 3) := by decide +kernel
theorem dX13_lead_40 : decode cX13_lead 40 = .ok (.aload_n 0, 1) := by decide +kernel
theorem dX13_lead_41 : decode cX13_lead 41 = .ok (.iload_n 2, 1) := by decide +kernel
theorem dX13_lead_42 : decode cX13_lead 42 = .ok (.invokevirtual 81, 3) := by decide +kernel
theorem dX13_lead_45 : decode cX13_lead 45 = .ok (.istore 4, 2) := by decide +kernel
theorem dX13_lead_47 : decode cX13_lead 47 = .ok (.aload_n 0, 1) := by decide +kernel
theorem dX13_lead_48 : decode cX13_lead 48 = .ok (.iload_n 3, 1) := by decide +kernel
theorem dX13_lead_49 : decode cX13_lead 49 = .ok (.iload_n 2, 1) := by decide +kernel
theorem dX13_lead_50 : decode cX13_lead 50 = .ok (.iload 4, 2) := by decide +kernel
theorem dX13_lead_52 : decode cX13_lead 52 = .ok (.invokevirtual 96, 3) := by decide +kernel
theorem dX13_lead_55 : decode cX13_lead 55 = .ok (.istore_n 3, 1) := by decide +kernel
theorem dX13_lead_56 : decode cX13_lead 56 = .ok (.iload_n 3, 1) := by decide +kernel
theorem dX13_lead_57 : decode cX13_lead 57 = .ok (.ifCond .lt 23, 3) := by decide +kernel
theorem dX13_lead_60 : decode cX13_lead 60 = .ok (.iload 4, 2) := by decide +kernel
theorem dX13_lead_62 : decode cX13_lead 62 = .ok (.iload_n 1, 1) := by decide +kernel
theorem dX13_lead_63 : decode cX13_lead 63 = .ok (.if_icmp .ge 17, 3) := by decide +kernel
theorem dX13_lead_66 : decode cX13_lead 66 = .ok (.aload_n 0, 1) := by decide +kernel
theorem dX13_lead_67 : decode cX13_lead 67 = .ok (.getfield 7, 3) := by decide +kernel
theorem dX13_lead_70 : decode cX13_lead 70 = .ok (.iload_n 3, 1) := by decide +kernel
theorem dX13_lead_71 : decode cX13_lead 71 = .ok (.iaload, 1) := by decide +kernel
theorem dX13_lead_72 : decode cX13_lead 72 = .ok (.iconst 1, 1) := by decide +kernel
theorem dX13_lead_73 : decode cX13_lead 73 = .ok (.if_icmp .eq 7, 3) := by decide +kernel
theorem dX13_lead_76 : decode cX13_lead 76 = .ok (.iconst (-1), 1) := by decide +kernel
theorem dX13_lead_77 : decode cX13_lead 77 = .ok (.goto 4, 3) := by decide +kernel
theorem dX13_lead_80 : decode cX13_lead 80 = .ok (.iload_n 3, 1) := by decide +kernel
theorem dX13_lead_81 : decode cX13_lead 81 = .ok (.istore_n 3, 1) := by decide +kernel
theorem dX13_lead_82 : decode cX13_lead 82 = .ok (.iload 4, 2) := by decide +kernel
theorem dX13_lead_84 : decode cX13_lead 84 = .ok (.iconst 1, 1) := by decide +kernel
theorem dX13_lead_85 : decode cX13_lead 85 = .ok (.iadd, 1) := by decide +kernel
theorem dX13_lead_86 : decode cX13_lead 86 = .ok (.istore_n 2, 1) := by decide +kernel
theorem dX13_lead_87 : decode cX13_lead 87 = .ok (.goto (-52), 3) := by decide +kernel
theorem dX13_lead_90 : decode cX13_lead 90 = .ok (.iload_n 3, 1) := by decide +kernel
theorem dX13_lead_91 : decode cX13_lead 91 = .ok (.ireturn, 1) := by decide +kernel
theorem dX13_findPlace_0 : decode cX13_findPlace 0 = .ok (.aload_n 0, 1) := by decide +kernel
theorem dX13_findPlace_1 : decode cX13_findPlace 1 = .ok (.getfield 75, 3) := by decide +kernel
theorem dX13_findPlace_4 : decode cX13_findPlace 4 = .ok (.istore_n 1, 1) := by decide +kernel
theorem dX13_findPlace_5 : decode cX13_findPlace 5 = .ok (.iload_n 1, 1) := by decide +kernel
theorem dX13_findPlace_6 : decode cX13_findPlace 6 = .ok (.aload_n 0, 1) := by decide +kernel
theorem dX13_findPlace_7 : decode cX13_findPlace 7 = .ok (.getfield 78, 3) := by decide +kernel
theorem dX13_findPlace_10 : decode cX13_findPlace 10 = .ok (.if_icmp .le 23, 3) := by decide +kernel
theorem dX13_findPlace_13 : decode cX13_findPlace 13 = .ok (.aload_n 0, 1) := by decide +kernel
theorem dX13_findPlace_14 : decode cX13_findPlace 14 = .ok (.getfield 35, 3) := by decide +kernel
theorem dX13_findPlace_17 : decode cX13_findPlace 17 = .ok (.iload_n 1, 1) := by decide +kernel
theorem dX13_findPlace_18 : decode cX13_findPlace 18 = .ok (.iconst 1, 1) := by decide +kernel
theorem dX13_findPlace_19 : decode cX13_findPlace 19 = .ok (.isub, 1) := by decide +kernel
theorem dX13_findPlace_20 : decode cX13_findPlace 20 = .ok (.caload, 1) := by decide +kernel
theorem dX13_findPlace_21 : decode cX13_findPlace 21 = .ok (.bipush 47, 2) := by decide +kernel
theorem dX13_findPlace_23 : decode cX13_findPlace 23 = .ok (.if_icmp .eq 10, 3) := by decide +kernel
theorem dX13_findPlace_26 : decode cX13_findPlace 26 = .ok (.iload_n 1, 1) := by decide +kernel
theorem dX13_findPlace_27 : decode cX13_findPlace 27 = .ok (.iconst 1, 1) := by decide +kernel
theorem dX13_findPlace_28 : decode cX13_findPlace 28 = .ok (.isub, 1) := by decide +kernel
theorem dX13_findPlace_29 : decode cX13_findPlace 29 = .ok (.istore_n 1, 1) := by decide +kernel
theorem dX13_findPlace_30 : decode cX13_findPlace 30 = .ok (.goto (-25), 3) := by decide +kernel
theorem dX13_findPlace_33 : decode cX13_findPlace 33 = .ok (.aload_n 0, 1) := by decide +kernel
theorem dX13_findPlace_34 : decode cX13_findPlace 34 = .ok (.aload_n 0, 1) := by decide +kernel
theorem dX13_findPlace_35 : decode cX13_findPlace 35 = .ok (.iload_n 1, 1) := by decide +kernel
theorem dX13_findPlace_36 : decode cX13_findPlace 36 = .ok (.aload_n 0, 1) := by decide +kernel
theorem dX13_findPlace_37 : decode cX13_findPlace 37 = .ok (.getfield 75, 3) := by decide +kernel
theorem dX13_findPlace_40 : decode cX13_findPlace 40 = .ok (.invokevirtual 85, 3) := by decide +kernel
theorem dX13_findPlace_43 : decode cX13_findPlace 43 = .ok (.putfield 100, 3) := by decide +kernel
theorem dX13_findPlace_46 : decode cX13_findPlace 46 = .ok (.aload_n 0, 1) := by decide +kernel
theorem dX13_findPlace_47 : decode cX13_findPlace 47 = .ok (.aload_n 0, 1) := by decide +kernel
theorem dX13_findPlace_48 : decode cX13_findPlace 48 = .ok (.iload_n 1, 1) := by decide +kernel
theorem dX13_findPlace_49 : decode cX13_findPlace 49 = .ok (.invokevirtual 104, 3) := by decide +kernel
theorem dX13_findPlace_52 : decode cX13_findPlace 52 = .ok (.putfield 107, 3) := by decide +kernel
theorem dX13_findPlace_55 : decode cX13_findPlace 55 = .ok (.aload_n 0, 1) := by decide +kernel
theorem dX13_findPlace_56 : decode cX13_findPlace 56 = .ok (.getfield 100, 3) := by decide +kernel
theorem dX13_findPlace_59 : decode cX13_findPlace 59 = .ok (.lconst 0, 1) := by decide +kernel
theorem dX13_findPlace_60 : decode cX13_findPlace 60 = .ok (.lcmp, 1) := by decide +kernel
theorem dX13_findPlace_61 : decode cX13_findPlace 61 = .ok (.ifCond .eq 27, 3) := by decide +kernel
theorem dX13_findPlace_64 : decode cX13_findPlace 64 = .ok (.aload_n 0, 1) := by decide +kernel
theorem dX13_findPlace_65 : decode cX13_findPlace 65 = .ok (.getfield 107, 3) := by decide +kernel
theorem dX13_findPlace_68 : decode cX13_findPlace 68 = .ok (.ifCond .lt 20, 3) := by decide +kernel
theorem dX13_findPlace_71 : decode cX13_findPlace 71 = .ok (.aload_n 0, 1) := by decide +kernel
theorem dX13_findPlace_72 : decode cX13_findPlace 72 = .ok (.getfield 7, 3) := by decide +kernel
theorem dX13_findPlace_75 : decode cX13_findPlace 75 = .ok (.aload_n 0, 1) := by decide +kernel
theorem dX13_findPlace_76 : decode cX13_findPlace 76 = .ok (.getfield 107, 3) := by decide +kernel
theorem dX13_findPlace_79 : decode cX13_findPlace 79 = .ok (.iaload, 1) := by decide +kernel
theorem dX13_findPlace_80 : decode cX13_findPlace 80 = .ok (.iconst 1, 1) := by decide +kernel
theorem dX13_findPlace_81 : decode cX13_findPlace 81 = .ok (.if_icmp .ne 7, 3) := by decide +kernel
theorem dX13_findPlace_84 : decode cX13_findPlace 84 = .ok (.iconst 1, 1) := by decide +kernel
theorem dX13_findPlace_85 : decode cX13_findPlace 85 = .ok (.goto 4, 3) := by decide +kernel
theorem dX13_findPlace_88 : decode cX13_findPlace 88 = .ok (.iconst 0, 1) := by decide +kernel
theorem dX13_findPlace_89 : decode cX13_findPlace 89 = .ok (.ireturn, 1) := by decide +kernel
theorem dX13_freeNode_0 : decode cX13_freeNode 0 = .ok (.iconst 0, 1) := by decide +kernel
theorem dX13_freeNode_1 : decode cX13_freeNode 1 = .ok (.istore_n 1, 1) := by decide +kernel
theorem dX13_freeNode_2 : decode cX13_freeNode 2 = .ok (.iload_n 1, 1) := by decide +kernel
theorem dX13_freeNode_3 : decode cX13_freeNode 3 = .ok (.bipush 24, 2) := by decide +kernel
theorem dX13_freeNode_5 : decode cX13_freeNode 5 = .ok (.if_icmp .ge 19, 3) := by decide +kernel
theorem dX13_freeNode_8 : decode cX13_freeNode 8 = .ok (.aload_n 0, 1) := by decide +kernel
theorem dX13_freeNode_9 : decode cX13_freeNode 9 = .ok (.getfield 7, 3) := by decide +kernel
theorem dX13_freeNode_12 : decode cX13_freeNode 12 = .ok (.iload_n 1, 1) := by decide +kernel
theorem dX13_freeNode_13 : decode cX13_freeNode 13 = .ok (.iaload, 1) := by decide +kernel
theorem dX13_freeNode_14 : decode cX13_freeNode 14 = .ok (.ifCond .le 10, 3) := by decide +kernel
theorem dX13_freeNode_17 : decode cX13_freeNode 17 = .ok (.iload_n 1, 1) := by decide +kernel
theorem dX13_freeNode_18 : decode cX13_freeNode 18 = .ok (.iconst 1, 1) := by decide +kernel
theorem dX13_freeNode_19 : decode cX13_freeNode 19 = .ok (.iadd, 1) := by decide +kernel
theorem dX13_freeNode_20 : decode cX13_freeNode 20 = .ok (.istore_n 1, 1) := by decide +kernel
theorem dX13_freeNode_21 : decode cX13_freeNode 21 = .ok (.goto (-19), 3) := by decide +kernel
theorem dX13_freeNode_24 : decode cX13_freeNode 24 = .ok (.iload_n 1, 1) := by decide +kernel
theorem dX13_freeNode_25 : decode cX13_freeNode 25 = .ok (.ireturn, 1) := by decide +kernel
theorem dX13_make_0 : decode cX13_make 0 = .ok (.aload_n 0, 1) := by decide +kernel
theorem dX13_make_1 : decode cX13_make 1 = .ok (.getfield 7, 3) := by decide +kernel
theorem dX13_make_4 : decode cX13_make 4 = .ok (.iload_n 1, 1) := by decide +kernel
theorem dX13_make_5 : decode cX13_make 5 = .ok (.iload_n 2, 1) := by decide +kernel
theorem dX13_make_6 : decode cX13_make 6 = .ok (.iastore, 1) := by decide +kernel
theorem dX13_make_7 : decode cX13_make 7 = .ok (.aload_n 0, 1) := by decide +kernel
theorem dX13_make_8 : decode cX13_make 8 = .ok (.getfield 13, 3) := by decide +kernel
theorem dX13_make_11 : decode cX13_make 11 = .ok (.iload_n 1, 1) := by decide +kernel
theorem dX13_make_12 : decode cX13_make 12 = .ok (.iload_n 3, 1) := by decide +kernel
theorem dX13_make_13 : decode cX13_make 13 = .ok (.iastore, 1) := by decide +kernel
theorem dX13_make_14 : decode cX13_make 14 = .ok (.aload_n 0, 1) := by decide +kernel
theorem dX13_make_15 : decode cX13_make 15 = .ok (.getfield 16, 3) := by decide +kernel
theorem dX13_make_18 : decode cX13_make 18 = .ok (.iload_n 1, 1) := by decide +kernel
theorem dX13_make_19 : decode cX13_make 19 = .ok (.lload 4, 2) := by decide +kernel
theorem dX13_make_21 : decode cX13_make 21 = .ok (.lastore, 1) := by decide +kernel
theorem dX13_make_22 : decode cX13_make 22 = .ok (.aload_n 0, 1) := by decide +kernel
theorem dX13_make_23 : decode cX13_make 23 = .ok (.getfield 20, 3) := by decide +kernel
theorem dX13_make_26 : decode cX13_make 26 = .ok (.iload_n 1, 1) := by decide +kernel
theorem dX13_make_27 : decode cX13_make 27 = .ok (.iconst 0, 1) := by decide +kernel
theorem dX13_make_28 : decode cX13_make 28 = .ok (.iastore, 1) := by decide +kernel
theorem dX13_make_29 : decode cX13_make 29 = .ok (.return_, 1) := by decide +kernel
theorem dX13_nodes_0 : decode cX13_nodes 0 = .ok (.iconst 0, 1) := by decide +kernel
theorem dX13_nodes_1 : decode cX13_nodes 1 = .ok (.istore_n 1, 1) := by decide +kernel
theorem dX13_nodes_2 : decode cX13_nodes 2 = .ok (.iconst 0, 1) := by decide +kernel
theorem dX13_nodes_3 : decode cX13_nodes 3 = .ok (.istore_n 2, 1) := by decide +kernel
theorem dX13_nodes_4 : decode cX13_nodes 4 = .ok (.iload_n 2, 1) := by decide +kernel
theorem dX13_nodes_5 : decode cX13_nodes 5 = .ok (.bipush 24, 2) := by decide +kernel
theorem dX13_nodes_7 : decode cX13_nodes 7 = .ok (.if_icmp .ge 26, 3) := by decide +kernel
theorem dX13_nodes_10 : decode cX13_nodes 10 = .ok (.aload_n 0, 1) := by decide +kernel
theorem dX13_nodes_11 : decode cX13_nodes 11 = .ok (.getfield 7, 3) := by decide +kernel
theorem dX13_nodes_14 : decode cX13_nodes 14 = .ok (.iload_n 2, 1) := by decide +kernel
theorem dX13_nodes_15 : decode cX13_nodes 15 = .ok (.iaload, 1) := by decide +kernel
theorem dX13_nodes_16 : decode cX13_nodes 16 = .ok (.ifCond .le 9, 3) := by decide +kernel
theorem dX13_nodes_19 : decode cX13_nodes 19 = .ok (.iload_n 1, 1) := by decide +kernel
theorem dX13_nodes_20 : decode cX13_nodes 20 = .ok (.iconst 1, 1) := by decide +kernel
theorem dX13_nodes_21 : decode cX13_nodes 21 = .ok (.iadd, 1) := by decide +kernel
theorem dX13_nodes_22 : decode cX13_nodes 22 = .ok (.goto 4, 3) := by decide +kernel
theorem dX13_nodes_25 : decode cX13_nodes 25 = .ok (.iload_n 1, 1) := by decide +kernel
theorem dX13_nodes_26 : decode cX13_nodes 26 = .ok (.istore_n 1, 1) := by decide +kernel
theorem dX13_nodes_27 : decode cX13_nodes 27 = .ok (.iinc 2 1, 3) := by decide +kernel
theorem dX13_nodes_30 : decode cX13_nodes 30 = .ok (.goto (-26), 3) := by decide +kernel
theorem dX13_nodes_33 : decode cX13_nodes 33 = .ok (.iload_n 1, 1) := by decide +kernel
theorem dX13_nodes_34 : decode cX13_nodes 34 = .ok (.ireturn, 1) := by decide +kernel
theorem dX13_bytes_0 : decode cX13_bytes 0 = .ok (.iconst 0, 1) := by decide +kernel
theorem dX13_bytes_1 : decode cX13_bytes 1 = .ok (.istore_n 1, 1) := by decide +kernel
theorem dX13_bytes_2 : decode cX13_bytes 2 = .ok (.iconst 0, 1) := by decide +kernel
theorem dX13_bytes_3 : decode cX13_bytes 3 = .ok (.istore_n 2, 1) := by decide +kernel
theorem dX13_bytes_4 : decode cX13_bytes 4 = .ok (.iload_n 2, 1) := by decide +kernel
theorem dX13_bytes_5 : decode cX13_bytes 5 = .ok (.bipush 24, 2) := by decide +kernel
theorem dX13_bytes_7 : decode cX13_bytes 7 = .ok (.if_icmp .ge 32, 3) := by decide +kernel
theorem dX13_bytes_10 : decode cX13_bytes 10 = .ok (.aload_n 0, 1) := by decide +kernel
theorem dX13_bytes_11 : decode cX13_bytes 11 = .ok (.getfield 7, 3) := by decide +kernel
theorem dX13_bytes_14 : decode cX13_bytes 14 = .ok (.iload_n 2, 1) := by decide +kernel
theorem dX13_bytes_15 : decode cX13_bytes 15 = .ok (.iaload, 1) := by decide +kernel
theorem dX13_bytes_16 : decode cX13_bytes 16 = .ok (.iconst 2, 1) := by decide +kernel
theorem dX13_bytes_17 : decode cX13_bytes 17 = .ok (.if_icmp .ne 14, 3) := by decide +kernel
theorem dX13_bytes_20 : decode cX13_bytes 20 = .ok (.iload_n 1, 1) := by decide +kernel
theorem dX13_bytes_21 : decode cX13_bytes 21 = .ok (.aload_n 0, 1) := by decide +kernel
theorem dX13_bytes_22 : decode cX13_bytes 22 = .ok (.getfield 20, 3) := by decide +kernel
theorem dX13_bytes_25 : decode cX13_bytes 25 = .ok (.iload_n 2, 1) := by decide +kernel
theorem dX13_bytes_26 : decode cX13_bytes 26 = .ok (.iaload, 1) := by decide +kernel
theorem dX13_bytes_27 : decode cX13_bytes 27 = .ok (.iadd, 1) := by decide +kernel
theorem dX13_bytes_28 : decode cX13_bytes 28 = .ok (.goto 4, 3) := by decide +kernel
theorem dX13_bytes_31 : decode cX13_bytes 31 = .ok (.iload_n 1, 1) := by decide +kernel
theorem dX13_bytes_32 : decode cX13_bytes 32 = .ok (.istore_n 1, 1) := by decide +kernel
theorem dX13_bytes_33 : decode cX13_bytes 33 = .ok (.iinc 2 1, 3) := by decide +kernel
theorem dX13_bytes_36 : decode cX13_bytes 36 = .ok (.goto (-32), 3) := by decide +kernel
theorem dX13_bytes_39 : decode cX13_bytes 39 = .ok (.iload_n 1, 1) := by decide +kernel
theorem dX13_bytes_40 : decode cX13_bytes 40 = .ok (.ireturn, 1) := by decide +kernel
theorem dX13_isEmpty_0 : decode cX13_isEmpty 0 = .ok (.iconst 1, 1) := by decide +kernel
theorem dX13_isEmpty_1 : decode cX13_isEmpty 1 = .ok (.istore_n 2, 1) := by decide +kernel
theorem dX13_isEmpty_2 : decode cX13_isEmpty 2 = .ok (.iconst 0, 1) := by decide +kernel
theorem dX13_isEmpty_3 : decode cX13_isEmpty 3 = .ok (.istore_n 3, 1) := by decide +kernel
theorem dX13_isEmpty_4 : decode cX13_isEmpty 4 = .ok (.iload_n 3, 1) := by decide +kernel
theorem dX13_isEmpty_5 : decode cX13_isEmpty 5 = .ok (.bipush 24, 2) := by decide +kernel
theorem dX13_isEmpty_7 : decode cX13_isEmpty 7 = .ok (.if_icmp .ge 43, 3) := by decide +kernel
theorem dX13_isEmpty_10 : decode cX13_isEmpty 10 = .ok (.iload_n 2, 1) := by decide +kernel
theorem dX13_isEmpty_11 : decode cX13_isEmpty 11 = .ok (.ifCond .eq 31, 3) := by decide +kernel
theorem dX13_isEmpty_14 : decode cX13_isEmpty 14 = .ok (.aload_n 0, 1) := by decide +kernel
theorem dX13_isEmpty_15 : decode cX13_isEmpty 15 = .ok (.getfield 7, 3) := by decide +kernel
theorem dX13_isEmpty_18 : decode cX13_isEmpty 18 = .ok (.iload_n 3, 1) := by decide +kernel
theorem dX13_isEmpty_19 : decode cX13_isEmpty 19 = .ok (.iaload, 1) := by decide +kernel
theorem dX13_isEmpty_20 : decode cX13_isEmpty 20 = .ok (.ifCond .eq 18, 3) := by decide +kernel
theorem dX13_isEmpty_23 : decode cX13_isEmpty 23 = .ok (.iload_n 3, 1) := by decide +kernel
theorem dX13_isEmpty_24 : decode cX13_isEmpty 24 = .ok (.iload_n 1, 1) := by decide +kernel
theorem dX13_isEmpty_25 : decode cX13_isEmpty 25 = .ok (.if_icmp .eq 13, 3) := by decide +kernel
theorem dX13_isEmpty_28 : decode cX13_isEmpty 28 = .ok (.aload_n 0, 1) := by decide +kernel
theorem dX13_isEmpty_29 : decode cX13_isEmpty 29 = .ok (.getfield 13, 3) := by decide +kernel
theorem dX13_isEmpty_32 : decode cX13_isEmpty 32 = .ok (.iload_n 3, 1) := by decide +kernel
theorem dX13_isEmpty_33 : decode cX13_isEmpty 33 = .ok (.iaload, 1) := by decide +kernel
theorem dX13_isEmpty_34 : decode cX13_isEmpty 34 = .ok (.iload_n 1, 1) := by decide +kernel
theorem dX13_isEmpty_35 : decode cX13_isEmpty 35 = .ok (.if_icmp .eq 7, 3) := by decide +kernel
theorem dX13_isEmpty_38 : decode cX13_isEmpty 38 = .ok (.iconst 1, 1) := by decide +kernel
theorem dX13_isEmpty_39 : decode cX13_isEmpty 39 = .ok (.goto 4, 3) := by decide +kernel
theorem dX13_isEmpty_42 : decode cX13_isEmpty 42 = .ok (.iconst 0, 1) := by decide +kernel
theorem dX13_isEmpty_43 : decode cX13_isEmpty 43 = .ok (.istore_n 2, 1) := by decide +kernel
theorem dX13_isEmpty_44 : decode cX13_isEmpty 44 = .ok (.iinc 3 1, 3) := by decide +kernel
theorem dX13_isEmpty_47 : decode cX13_isEmpty 47 = .ok (.goto (-43), 3) := by decide +kernel
theorem dX13_isEmpty_50 : decode cX13_isEmpty 50 = .ok (.iload_n 2, 1) := by decide +kernel
theorem dX13_isEmpty_51 : decode cX13_isEmpty 51 = .ok (.ireturn, 1) := by decide +kernel
theorem dX13_nameOf_0 : decode cX13_nameOf 0 = .ok (.lconst 0, 1) := by decide +kernel
theorem dX13_nameOf_1 : decode cX13_nameOf 1 = .ok (.lstore_n 2, 1) := by decide +kernel
theorem dX13_nameOf_2 : decode cX13_nameOf 2 = .ok (.iconst 0, 1) := by decide +kernel
theorem dX13_nameOf_3 : decode cX13_nameOf 3 = .ok (.istore 4, 2) := by decide +kernel
theorem dX13_nameOf_5 : decode cX13_nameOf 5 = .ok (.iconst 1, 1) := by decide +kernel
theorem dX13_nameOf_6 : decode cX13_nameOf 6 = .ok (.istore 5, 2) := by decide +kernel
theorem dX13_nameOf_8 : decode cX13_nameOf 8 = .ok (.iconst 1, 1) := by decide +kernel
theorem dX13_nameOf_9 : decode cX13_nameOf 9 = .ok (.istore 6, 2) := by decide +kernel
theorem dX13_nameOf_11 : decode cX13_nameOf 11 = .ok (.iload 4, 2) := by decide +kernel
theorem dX13_nameOf_13 : decode cX13_nameOf 13 = .ok (.bipush 8, 2) := by decide +kernel
theorem dX13_nameOf_15 : decode cX13_nameOf 15 = .ok (.if_icmp .ge 113, 3) := by decide +kernel
theorem dX13_nameOf_18 : decode cX13_nameOf 18 = .ok (.lload_n 0, 1) := by decide +kernel
theorem dX13_nameOf_19 : decode cX13_nameOf 19 = .ok (.bipush 8, 2) := by decide +kernel
theorem dX13_nameOf_21 : decode cX13_nameOf 21 = .ok (.iload 4, 2) := by decide +kernel
theorem dX13_nameOf_23 : decode cX13_nameOf 23 = .ok (.imul, 1) := by decide +kernel
theorem dX13_nameOf_24 : decode cX13_nameOf 24 = .ok (.lshr, 1) := by decide +kernel
theorem dX13_nameOf_25 : decode cX13_nameOf 25 = .ok (.ldc2_w 110, 3) := by decide +kernel
theorem dX13_nameOf_28 : decode cX13_nameOf 28 = .ok (.land, 1) := by decide +kernel
theorem dX13_nameOf_29 : decode cX13_nameOf 29 = .ok (.lconst 0, 1) := by decide +kernel
theorem dX13_nameOf_30 : decode cX13_nameOf 30 = .ok (.lcmp, 1) := by decide +kernel
theorem dX13_nameOf_31 : decode cX13_nameOf 31 = .ok (.ifCond .eq 97, 3) := by decide +kernel
theorem dX13_nameOf_34 : decode cX13_nameOf 34 = .ok (.lload_n 0, 1) := by decide +kernel
theorem dX13_nameOf_35 : decode cX13_nameOf 35 = .ok (.bipush 8, 2) := by decide +kernel
theorem dX13_nameOf_37 : decode cX13_nameOf 37 = .ok (.iload 4, 2) := by decide +kernel
theorem dX13_nameOf_39 : decode cX13_nameOf 39 = .ok (.imul, 1) := by decide +kernel
theorem dX13_nameOf_40 : decode cX13_nameOf 40 = .ok (.lshr, 1) := by decide +kernel
theorem dX13_nameOf_41 : decode cX13_nameOf 41 = .ok (.ldc2_w 110, 3) := by decide +kernel
theorem dX13_nameOf_44 : decode cX13_nameOf 44 = .ok (.land, 1) := by decide +kernel
theorem dX13_nameOf_45 : decode cX13_nameOf 45 = .ok (.lstore 7, 2) := by decide +kernel
theorem dX13_nameOf_47 : decode cX13_nameOf 47 = .ok (.iload 5, 2) := by decide +kernel
theorem dX13_nameOf_49 : decode cX13_nameOf 49 = .ok (.ifCond .eq 22, 3) := by decide +kernel
theorem dX13_nameOf_52 : decode cX13_nameOf 52 = .ok (.iload 4, 2) := by decide +kernel
theorem dX13_nameOf_54 : decode cX13_nameOf 54 = .ok (.bipush 6, 2) := by decide +kernel
theorem dX13_nameOf_56 : decode cX13_nameOf 56 = .ok (.if_icmp .ge 15, 3) := by decide +kernel
theorem dX13_nameOf_59 : decode cX13_nameOf 59 = .ok (.lload 7, 2) := by decide +kernel
theorem dX13_nameOf_61 : decode cX13_nameOf 61 = .ok (.invokestatic 67, 3) := by decide +kernel
theorem dX13_nameOf_64 : decode cX13_nameOf 64 = .ok (.ifCond .eq 7, 3) := by decide +kernel
theorem dX13_nameOf_67 : decode cX13_nameOf 67 = .ok (.iconst 1, 1) := by decide +kernel
theorem dX13_nameOf_68 : decode cX13_nameOf 68 = .ok (.goto 4, 3) := by decide +kernel
theorem dX13_nameOf_71 : decode cX13_nameOf 71 = .ok (.iconst 0, 1) := by decide +kernel
theorem dX13_nameOf_72 : decode cX13_nameOf 72 = .ok (.istore 5, 2) := by decide +kernel
theorem dX13_nameOf_74 : decode cX13_nameOf 74 = .ok (.iload 6, 2) := by decide +kernel
theorem dX13_nameOf_76 : decode cX13_nameOf 76 = .ok (.ifCond .eq 16, 3) := by decide +kernel
theorem dX13_nameOf_79 : decode cX13_nameOf 79 = .ok (.lload 7, 2) := by decide +kernel
theorem dX13_nameOf_81 : decode cX13_nameOf 81 = .ok (.ldc2_w 65, 3) := by decide +kernel
theorem dX13_nameOf_84 : decode cX13_nameOf 84 = .ok (.lcmp, 1) := by decide +kernel
theorem dX13_nameOf_85 : decode cX13_nameOf 85 = .ok (.ifCond .ne 7, 3) := by decide +kernel
theorem dX13_nameOf_88 : decode cX13_nameOf 88 = .ok (.iconst 1, 1) := by decide +kernel
theorem dX13_nameOf_89 : decode cX13_nameOf 89 = .ok (.goto 4, 3) := by decide +kernel
theorem dX13_nameOf_92 : decode cX13_nameOf 92 = .ok (.iconst 0, 1) := by decide +kernel
theorem dX13_nameOf_93 : decode cX13_nameOf 93 = .ok (.istore 6, 2) := by decide +kernel
theorem dX13_nameOf_95 : decode cX13_nameOf 95 = .ok (.iload 4, 2) := by decide +kernel
theorem dX13_nameOf_97 : decode cX13_nameOf 97 = .ok (.bipush 6, 2) := by decide +kernel
theorem dX13_nameOf_99 : decode cX13_nameOf 99 = .ok (.if_icmp .ge 18, 3) := by decide +kernel
theorem dX13_nameOf_102 : decode cX13_nameOf 102 = .ok (.lload_n 2, 1) := by decide +kernel
theorem dX13_nameOf_103 : decode cX13_nameOf 103 = .ok (.lload 7, 2) := by decide +kernel
theorem dX13_nameOf_105 : decode cX13_nameOf 105 = .ok (.bipush 8, 2) := by decide +kernel
theorem dX13_nameOf_107 : decode cX13_nameOf 107 = .ok (.iconst 5, 1) := by decide +kernel
theorem dX13_nameOf_108 : decode cX13_nameOf 108 = .ok (.iload 4, 2) := by decide +kernel
theorem dX13_nameOf_110 : decode cX13_nameOf 110 = .ok (.isub, 1) := by decide +kernel
theorem dX13_nameOf_111 : decode cX13_nameOf 111 = .ok (.imul, 1) := by decide +kernel
theorem dX13_nameOf_112 : decode cX13_nameOf 112 = .ok (.lshl, 1) := by decide +kernel
theorem dX13_nameOf_113 : decode cX13_nameOf 113 = .ok (.ladd, 1) := by decide +kernel
theorem dX13_nameOf_114 : decode cX13_nameOf 114 = .ok (.goto 4, 3) := by decide +kernel
theorem dX13_nameOf_117 : decode cX13_nameOf 117 = .ok (.lload_n 2, 1) := by decide +kernel
theorem dX13_nameOf_118 : decode cX13_nameOf 118 = .ok (.lstore_n 2, 1) := by decide +kernel
theorem dX13_nameOf_119 : decode cX13_nameOf 119 = .ok (.iload 4, 2) := by decide +kernel
theorem dX13_nameOf_121 : decode cX13_nameOf 121 = .ok (.iconst 1, 1) := by decide +kernel
theorem dX13_nameOf_122 : decode cX13_nameOf 122 = .ok (.iadd, 1) := by decide +kernel
theorem dX13_nameOf_123 : decode cX13_nameOf 123 = .ok (.istore 4, 2) := by decide +kernel
theorem dX13_nameOf_125 : decode cX13_nameOf 125 = .ok (.goto (-114), 3) := by decide +kernel
theorem dX13_nameOf_128 : decode cX13_nameOf 128 = .ok (.iload 5, 2) := by decide +kernel
theorem dX13_nameOf_130 : decode cX13_nameOf 130 = .ok (.ifCond .eq 23, 3) := by decide +kernel
theorem dX13_nameOf_133 : decode cX13_nameOf 133 = .ok (.iload 4, 2) := by decide +kernel
theorem dX13_nameOf_135 : decode cX13_nameOf 135 = .ok (.ifCond .le 18, 3) := by decide +kernel
theorem dX13_nameOf_138 : decode cX13_nameOf 138 = .ok (.iload 6, 2) := by decide +kernel
theorem dX13_nameOf_140 : decode cX13_nameOf 140 = .ok (.ifCond .eq 9, 3) := by decide +kernel
theorem dX13_nameOf_143 : decode cX13_nameOf 143 = .ok (.iload 4, 2) := by decide +kernel
theorem dX13_nameOf_145 : decode cX13_nameOf 145 = .ok (.iconst 3, 1) := by decide +kernel
theorem dX13_nameOf_146 : decode cX13_nameOf 146 = .ok (.if_icmp .lt 7, 3) := by decide +kernel
theorem dX13_nameOf_149 : decode cX13_nameOf 149 = .ok (.lload_n 2, 1) := by decide +kernel
theorem dX13_nameOf_150 : decode cX13_nameOf 150 = .ok (.goto 4, 3) := by decide +kernel
theorem dX13_nameOf_153 : decode cX13_nameOf 153 = .ok (.lconst 0, 1) := by decide +kernel
theorem dX13_nameOf_154 : decode cX13_nameOf 154 = .ok (.lreturn, 1) := by decide +kernel
theorem dX13_account_0 : decode cX13_account 0 = .ok (.lload_n 1, 1) := by decide +kernel
theorem dX13_account_1 : decode cX13_account 1 = .ok (.invokestatic 112, 3) := by decide +kernel
theorem dX13_account_4 : decode cX13_account 4 = .ok (.lstore 5, 2) := by decide +kernel
theorem dX13_account_6 : decode cX13_account 6 = .ok (.lload_n 3, 1) := by decide +kernel
theorem dX13_account_7 : decode cX13_account 7 = .ok (.invokestatic 112, 3) := by decide +kernel
theorem dX13_account_10 : decode cX13_account 10 = .ok (.lstore 7, 2) := by decide +kernel
theorem dX13_account_12 : decode cX13_account 12 = .ok (.aload_n 0, 1) := by decide +kernel
theorem dX13_account_13 : decode cX13_account 13 = .ok (.getfield 116, 3) := by decide +kernel
theorem dX13_account_16 : decode cX13_account 16 = .ok (.iconst 4, 1) := by decide +kernel
theorem dX13_account_17 : decode cX13_account 17 = .ok (.if_icmp .ge 37, 3) := by decide +kernel
theorem dX13_account_20 : decode cX13_account 20 = .ok (.lload 5, 2) := by decide +kernel
theorem dX13_account_22 : decode cX13_account 22 = .ok (.lconst 0, 1) := by decide +kernel
theorem dX13_account_23 : decode cX13_account 23 = .ok (.lcmp, 1) := by decide +kernel
theorem dX13_account_24 : decode cX13_account 24 = .ok (.ifCond .eq 30, 3) := by decide +kernel
theorem dX13_account_27 : decode cX13_account 27 = .ok (.lload 7, 2) := by decide +kernel
theorem dX13_account_29 : decode cX13_account 29 = .ok (.lconst 0, 1) := by decide +kernel
theorem dX13_account_30 : decode cX13_account 30 = .ok (.lcmp, 1) := by decide +kernel
theorem dX13_account_31 : decode cX13_account 31 = .ok (.ifCond .eq 23, 3) := by decide +kernel
theorem dX13_account_34 : decode cX13_account 34 = .ok (.aload_n 0, 1) := by decide +kernel
theorem dX13_account_35 : decode cX13_account 35 = .ok (.invokevirtual 119, 3) := by decide +kernel
theorem dX13_account_38 : decode cX13_account 38 = .ok (.bipush 24, 2) := by decide +kernel
theorem dX13_account_40 : decode cX13_account 40 = .ok (.if_icmp .ge 14, 3) := by decide +kernel
theorem dX13_account_43 : decode cX13_account 43 = .ok (.aload_n 0, 1) := by decide +kernel
theorem dX13_account_44 : decode cX13_account 44 = .ok (.getfield 123, 3) := by decide +kernel
theorem dX13_account_47 : decode cX13_account 47 = .ok (.ifCond .ne 7, 3) := by decide +kernel
theorem dX13_account_50 : decode cX13_account 50 = .ok (.iconst 1, 1) := by decide +kernel
theorem dX13_account_51 : decode cX13_account 51 = .ok (.goto 4, 3) := by decide +kernel
theorem dX13_account_54 : decode cX13_account 54 = .ok (.iconst 0, 1) := by decide +kernel
theorem dX13_account_55 : decode cX13_account 55 = .ok (.istore 9, 2) := by decide +kernel
theorem dX13_account_57 : decode cX13_account 57 = .ok (.iconst 0, 1) := by decide +kernel
theorem dX13_account_58 : decode cX13_account 58 = .ok (.istore 10, 2) := by decide +kernel
theorem dX13_account_60 : decode cX13_account 60 = .ok (.iload 10, 2) := by decide +kernel
theorem dX13_account_62 : decode cX13_account 62 = .ok (.aload_n 0, 1) := by decide +kernel
theorem dX13_account_63 : decode cX13_account 63 = .ok (.getfield 116, 3) := by decide +kernel
theorem dX13_account_66 : decode cX13_account 66 = .ok (.if_icmp .ge 34, 3) := by decide +kernel
theorem dX13_account_69 : decode cX13_account 69 = .ok (.iload 9, 2) := by decide +kernel
theorem dX13_account_71 : decode cX13_account 71 = .ok (.ifCond .eq 20, 3) := by decide +kernel
theorem dX13_account_74 : decode cX13_account 74 = .ok (.aload_n 0, 1) := by decide +kernel
theorem dX13_account_75 : decode cX13_account 75 = .ok (.getfield 26, 3) := by decide +kernel
theorem dX13_account_78 : decode cX13_account 78 = .ok (.iload 10, 2) := by decide +kernel
theorem dX13_account_80 : decode cX13_account 80 = .ok (.laload, 1) := by decide +kernel
theorem dX13_account_81 : decode cX13_account 81 = .ok (.lload 5, 2) := by decide +kernel
theorem dX13_account_83 : decode cX13_account 83 = .ok (.lcmp, 1) := by decide +kernel
theorem dX13_account_84 : decode cX13_account 84 = .ok (.ifCond .eq 7, 3) := by decide +kernel
theorem dX13_account_87 : decode cX13_account 87 = .ok (.iconst 1, 1) := by decide +kernel
theorem dX13_account_88 : decode cX13_account 88 = .ok (.goto 4, 3) := by decide +kernel
theorem dX13_account_91 : decode cX13_account 91 = .ok (.iconst 0, 1) := by decide +kernel
theorem dX13_account_92 : decode cX13_account 92 = .ok (.istore 9, 2) := by decide +kernel
theorem dX13_account_94 : decode cX13_account 94 = .ok (.iinc 10 1, 3) := by decide +kernel
theorem dX13_account_97 : decode cX13_account 97 = .ok (.goto (-37), 3) := by decide +kernel
theorem dX13_account_100 : decode cX13_account 100 = .ok (.iload 9, 2) := by decide +kernel
theorem dX13_account_102 : decode cX13_account 102 = .ok (.ifCond .ne 5, 3) := by decide +kernel
theorem dX13_account_105 : decode cX13_account 105 = .ok (.iconst 0, 1) := by decide +kernel
theorem dX13_account_106 : decode cX13_account 106 = .ok (.ireturn, 1) := by decide +kernel
theorem dX13_account_107 : decode cX13_account 107 = .ok (.aload_n 0, 1) := by decide +kernel
theorem dX13_account_108 : decode cX13_account 108 = .ok (.invokevirtual 119, 3) := by decide +kernel
theorem dX13_account_111 : decode cX13_account 111 = .ok (.istore 10, 2) := by decide +kernel
theorem dX13_account_113 : decode cX13_account 113 = .ok (.aload_n 0, 1) := by decide +kernel
theorem dX13_account_114 : decode cX13_account 114 = .ok (.iload 10, 2) := by decide +kernel
theorem dX13_account_116 : decode cX13_account 116 = .ok (.iconst 1, 1) := by decide +kernel
theorem dX13_account_117 : decode cX13_account 117 = .ok (.iload 10, 2) := by decide +kernel
theorem dX13_account_119 : decode cX13_account 119 = .ok (.lconst 0, 1) := by decide +kernel
theorem dX13_account_120 : decode cX13_account 120 = .ok (.invokevirtual 127, 3) := by decide +kernel
theorem dX13_account_123 : decode cX13_account 123 = .ok (.aload_n 0, 1) := by decide +kernel
theorem dX13_account_124 : decode cX13_account 124 = .ok (.getfield 26, 3) := by decide +kernel
theorem dX13_account_127 : decode cX13_account 127 = .ok (.aload_n 0, 1) := by decide +kernel
theorem dX13_account_128 : decode cX13_account 128 = .ok (.getfield 116, 3) := by decide +kernel
theorem dX13_account_131 : decode cX13_account 131 = .ok (.lload 5, 2) := by decide +kernel
theorem dX13_account_133 : decode cX13_account 133 = .ok (.lastore, 1) := by decide +kernel
theorem dX13_account_134 : decode cX13_account 134 = .ok (.aload_n 0, 1) := by decide +kernel
theorem dX13_account_135 : decode cX13_account 135 = .ok (.getfield 29, 3) := by decide +kernel
theorem dX13_account_138 : decode cX13_account 138 = .ok (.aload_n 0, 1) := by decide +kernel
theorem dX13_account_139 : decode cX13_account 139 = .ok (.getfield 116, 3) := by decide +kernel
theorem dX13_account_142 : decode cX13_account 142 = .ok (.lload 7, 2) := by decide +kernel
theorem dX13_account_144 : decode cX13_account 144 = .ok (.lastore, 1) := by decide +kernel
theorem dX13_account_145 : decode cX13_account 145 = .ok (.aload_n 0, 1) := by decide +kernel
theorem dX13_account_146 : decode cX13_account 146 = .ok (.getfield 32, 3) := by decide +kernel
theorem dX13_account_149 : decode cX13_account 149 = .ok (.aload_n 0, 1) := by decide +kernel
theorem dX13_account_150 : decode cX13_account 150 = .ok (.getfield 116, 3) := by decide +kernel
theorem dX13_account_153 : decode cX13_account 153 = .ok (.iload 10, 2) := by decide +kernel
theorem dX13_account_155 : decode cX13_account 155 = .ok (.iastore, 1) := by decide +kernel
theorem dX13_account_156 : decode cX13_account 156 = .ok (.aload_n 0, 1) := by decide +kernel
theorem dX13_account_157 : decode cX13_account 157 = .ok (.aload_n 0, 1) := by decide +kernel
theorem dX13_account_158 : decode cX13_account 158 = .ok (.getfield 116, 3) := by decide +kernel
theorem dX13_account_161 : decode cX13_account 161 = .ok (.iconst 1, 1) := by decide +kernel
theorem dX13_account_162 : decode cX13_account 162 = .ok (.iadd, 1) := by decide +kernel
theorem dX13_account_163 : decode cX13_account 163 = .ok (.putfield 116, 3) := by decide +kernel
theorem dX13_account_166 : decode cX13_account 166 = .ok (.iconst 1, 1) := by decide +kernel
theorem dX13_account_167 : decode cX13_account 167 = .ok (.ireturn, 1) := by decide +kernel
theorem dX13_say_0 : decode cX13_say 0 = .ok (.aload_n 0, 1) := by decide +kernel
theorem dX13_say_1 : decode cX13_say 1 = .ok (.iload_n 1, 1) := by decide +kernel
theorem dX13_say_2 : decode cX13_say 2 = .ok (.putfield 131, 3) := by decide +kernel
theorem dX13_say_5 : decode cX13_say 5 = .ok (.aload_n 0, 1) := by decide +kernel
theorem dX13_say_6 : decode cX13_say 6 = .ok (.iload_n 1, 1) := by decide +kernel
theorem dX13_say_7 : decode cX13_say 7 = .ok (.sipush 257, 3) := by decide +kernel
theorem dX13_say_10 : decode cX13_say 10 = .ok (.if_icmp .eq 10, 3) := by decide +kernel
theorem dX13_say_13 : decode cX13_say 13 = .ok (.iload_n 1, 1) := by decide +kernel
theorem dX13_say_14 : decode cX13_say 14 = .ok (.sipush 213, 3) := by decide +kernel
theorem dX13_say_17 : decode cX13_say 17 = .ok (.if_icmp .ne 10, 3) := by decide +kernel
theorem dX13_say_20 : decode cX13_say 20 = .ok (.aload_n 0, 1) := by decide +kernel
theorem dX13_say_21 : decode cX13_say 21 = .ok (.getfield 134, 3) := by decide +kernel
theorem dX13_say_24 : decode cX13_say 24 = .ok (.goto 4, 3) := by decide +kernel
theorem dX13_say_27 : decode cX13_say 27 = .ok (.iconst 0, 1) := by decide +kernel
theorem dX13_say_28 : decode cX13_say 28 = .ok (.putfield 134, 3) := by decide +kernel
theorem dX13_say_31 : decode cX13_say 31 = .ok (.iload_n 1, 1) := by decide +kernel
theorem dX13_say_32 : decode cX13_say 32 = .ok (.ireturn, 1) := by decide +kernel
theorem dX13_open_0 : decode cX13_open 0 = .ok (.aload_n 0, 1) := by decide +kernel
theorem dX13_open_1 : decode cX13_open 1 = .ok (.getfield 123, 3) := by decide +kernel
theorem dX13_open_4 : decode cX13_open 4 = .ok (.ifCond .eq 5, 3) := by decide +kernel
theorem dX13_open_7 : decode cX13_open 7 = .ok (.iconst 0, 1) := by decide +kernel
theorem dX13_open_8 : decode cX13_open 8 = .ok (.ireturn, 1) := by decide +kernel
theorem dX13_open_9 : decode cX13_open 9 = .ok (.aload_n 0, 1) := by decide +kernel
theorem dX13_open_10 : decode cX13_open 10 = .ok (.iconst 1, 1) := by decide +kernel
theorem dX13_open_11 : decode cX13_open 11 = .ok (.putfield 123, 3) := by decide +kernel
theorem dX13_open_14 : decode cX13_open 14 = .ok (.aload_n 0, 1) := by decide +kernel
theorem dX13_open_15 : decode cX13_open 15 = .ok (.iconst (-1), 1) := by decide +kernel
theorem dX13_open_16 : decode cX13_open 16 = .ok (.putfield 42, 3) := by decide +kernel
theorem dX13_open_19 : decode cX13_open 19 = .ok (.aload_n 0, 1) := by decide +kernel
theorem dX13_open_20 : decode cX13_open 20 = .ok (.iconst 0, 1) := by decide +kernel
theorem dX13_open_21 : decode cX13_open 21 = .ok (.putfield 137, 3) := by decide +kernel
theorem dX13_open_24 : decode cX13_open 24 = .ok (.aload_n 0, 1) := by decide +kernel
theorem dX13_open_25 : decode cX13_open 25 = .ok (.lconst 0, 1) := by decide +kernel
theorem dX13_open_26 : decode cX13_open 26 = .ok (.putfield 140, 3) := by decide +kernel
theorem dX13_open_29 : decode cX13_open 29 = .ok (.aload_n 0, 1) := by decide +kernel
theorem dX13_open_30 : decode cX13_open 30 = .ok (.iconst (-1), 1) := by decide +kernel
theorem dX13_open_31 : decode cX13_open 31 = .ok (.putfield 46, 3) := by decide +kernel
theorem dX13_open_34 : decode cX13_open 34 = .ok (.aload_n 0, 1) := by decide +kernel
theorem dX13_open_35 : decode cX13_open 35 = .ok (.iconst 0, 1) := by decide +kernel
theorem dX13_open_36 : decode cX13_open 36 = .ok (.putfield 143, 3) := by decide +kernel
theorem dX13_open_39 : decode cX13_open 39 = .ok (.aload_n 0, 1) := by decide +kernel
theorem dX13_open_40 : decode cX13_open 40 = .ok (.iconst 0, 1) := by decide +kernel
theorem dX13_open_41 : decode cX13_open 41 = .ok (.putfield 146, 3) := by decide +kernel
theorem dX13_open_44 : decode cX13_open 44 = .ok (.aload_n 0, 1) := by decide +kernel
theorem dX13_open_45 : decode cX13_open 45 = .ok (.sipush 220, 3) := by decide +kernel
theorem dX13_open_48 : decode cX13_open 48 = .ok (.invokevirtual 149, 3) := by decide +kernel
theorem dX13_open_51 : decode cX13_open 51 = .ok (.pop, 1) := by decide +kernel
theorem dX13_open_52 : decode cX13_open 52 = .ok (.iconst 1, 1) := by decide +kernel
theorem dX13_open_53 : decode cX13_open 53 = .ok (.ireturn, 1) := by decide +kernel
theorem dX13_type_0 : decode cX13_type 0 = .ok (.iload_n 1, 1) := by decide +kernel
theorem dX13_type_1 : decode cX13_type 1 = .ok (.bipush 32, 2) := by decide +kernel
theorem dX13_type_3 : decode cX13_type 3 = .ok (.if_icmp .lt 18, 3) := by decide +kernel
theorem dX13_type_6 : decode cX13_type 6 = .ok (.iload_n 1, 1) := by decide +kernel
theorem dX13_type_7 : decode cX13_type 7 = .ok (.bipush 126, 2) := by decide +kernel
theorem dX13_type_9 : decode cX13_type 9 = .ok (.if_icmp .gt 12, 3) := by decide +kernel
theorem dX13_type_12 : decode cX13_type 12 = .ok (.aload_n 0, 1) := by decide +kernel
theorem dX13_type_13 : decode cX13_type 13 = .ok (.getfield 75, 3) := by decide +kernel
theorem dX13_type_16 : decode cX13_type 16 = .ok (.bipush 32, 2) := by decide +kernel
theorem dX13_type_18 : decode cX13_type 18 = .ok (.if_icmp .ne 5, 3) := by decide +kernel
theorem dX13_type_21 : decode cX13_type 21 = .ok (.iconst 0, 1) := by decide +kernel
theorem dX13_type_22 : decode cX13_type 22 = .ok (.ireturn, 1) := by decide +kernel
theorem dX13_type_23 : decode cX13_type 23 = .ok (.aload_n 0, 1) := by decide +kernel
theorem dX13_type_24 : decode cX13_type 24 = .ok (.getfield 35, 3) := by decide +kernel
theorem dX13_type_27 : decode cX13_type 27 = .ok (.aload_n 0, 1) := by decide +kernel
theorem dX13_type_28 : decode cX13_type 28 = .ok (.getfield 75, 3) := by decide +kernel
theorem dX13_type_31 : decode cX13_type 31 = .ok (.iload_n 1, 1) := by decide +kernel
theorem dX13_type_32 : decode cX13_type 32 = .ok (.castore, 1) := by decide +kernel
theorem dX13_type_33 : decode cX13_type 33 = .ok (.aload_n 0, 1) := by decide +kernel
theorem dX13_type_34 : decode cX13_type 34 = .ok (.aload_n 0, 1) := by decide +kernel
theorem dX13_type_35 : decode cX13_type 35 = .ok (.getfield 75, 3) := by decide +kernel
theorem dX13_type_38 : decode cX13_type 38 = .ok (.iconst 1, 1) := by decide +kernel
theorem dX13_type_39 : decode cX13_type 39 = .ok (.iadd, 1) := by decide +kernel
theorem dX13_type_40 : decode cX13_type 40 = .ok (.putfield 75, 3) := by decide +kernel
theorem dX13_type_43 : decode cX13_type 43 = .ok (.iconst 1, 1) := by decide +kernel
theorem dX13_type_44 : decode cX13_type 44 = .ok (.ireturn, 1) := by decide +kernel
theorem dX13_word_0 : decode cX13_word 0 = .ok (.iconst 0, 1) := by decide +kernel
theorem dX13_word_1 : decode cX13_word 1 = .ok (.istore_n 3, 1) := by decide +kernel
theorem dX13_word_2 : decode cX13_word 2 = .ok (.iload_n 3, 1) := by decide +kernel
theorem dX13_word_3 : decode cX13_word 3 = .ok (.bipush 8, 2) := by decide +kernel
theorem dX13_word_5 : decode cX13_word 5 = .ok (.if_icmp .ge 44, 3) := by decide +kernel
theorem dX13_word_8 : decode cX13_word 8 = .ok (.lload_n 1, 1) := by decide +kernel
theorem dX13_word_9 : decode cX13_word 9 = .ok (.bipush 8, 2) := by decide +kernel
theorem dX13_word_11 : decode cX13_word 11 = .ok (.iload_n 3, 1) := by decide +kernel
theorem dX13_word_12 : decode cX13_word 12 = .ok (.imul, 1) := by decide +kernel
theorem dX13_word_13 : decode cX13_word 13 = .ok (.lshr, 1) := by decide +kernel
theorem dX13_word_14 : decode cX13_word 14 = .ok (.ldc2_w 110, 3) := by decide +kernel
theorem dX13_word_17 : decode cX13_word 17 = .ok (.land, 1) := by decide +kernel
theorem dX13_word_18 : decode cX13_word 18 = .ok (.lconst 0, 1) := by decide +kernel
theorem dX13_word_19 : decode cX13_word 19 = .ok (.lcmp, 1) := by decide +kernel
theorem dX13_word_20 : decode cX13_word 20 = .ok (.ifCond .eq 29, 3) := by decide +kernel
theorem dX13_word_23 : decode cX13_word 23 = .ok (.aload_n 0, 1) := by decide +kernel
theorem dX13_word_24 : decode cX13_word 24 = .ok (.lload_n 1, 1) := by decide +kernel
theorem dX13_word_25 : decode cX13_word 25 = .ok (.bipush 8, 2) := by decide +kernel
theorem dX13_word_27 : decode cX13_word 27 = .ok (.iload_n 3, 1) := by decide +kernel
theorem dX13_word_28 : decode cX13_word 28 = .ok (.imul, 1) := by decide +kernel
theorem dX13_word_29 : decode cX13_word 29 = .ok (.lshr, 1) := by decide +kernel
theorem dX13_word_30 : decode cX13_word 30 = .ok (.ldc2_w 110, 3) := by decide +kernel
theorem dX13_word_33 : decode cX13_word 33 = .ok (.land, 1) := by decide +kernel
theorem dX13_word_34 : decode cX13_word 34 = .ok (.l2i, 1) := by decide +kernel
theorem dX13_word_35 : decode cX13_word 35 = .ok (.i2c, 1) := by decide +kernel
theorem dX13_word_36 : decode cX13_word 36 = .ok (.invokevirtual 152, 3) := by decide +kernel
theorem dX13_word_39 : decode cX13_word 39 = .ok (.ifCond .eq 10, 3) := by decide +kernel
theorem dX13_word_42 : decode cX13_word 42 = .ok (.iload_n 3, 1) := by decide +kernel
theorem dX13_word_43 : decode cX13_word 43 = .ok (.iconst 1, 1) := by decide +kernel
theorem dX13_word_44 : decode cX13_word 44 = .ok (.iadd, 1) := by decide +kernel
theorem dX13_word_45 : decode cX13_word 45 = .ok (.istore_n 3, 1) := by decide +kernel
theorem dX13_word_46 : decode cX13_word 46 = .ok (.goto (-44), 3) := by decide +kernel
theorem dX13_word_49 : decode cX13_word 49 = .ok (.iload_n 3, 1) := by decide +kernel
theorem dX13_word_50 : decode cX13_word 50 = .ok (.ireturn, 1) := by decide +kernel
theorem dX13_reply_0 : decode cX13_reply 0 = .ok (.aload_n 0, 1) := by decide +kernel
theorem dX13_reply_1 : decode cX13_reply 1 = .ok (.getfield 131, 3) := by decide +kernel
theorem dX13_reply_4 : decode cX13_reply 4 = .ok (.ireturn, 1) := by decide +kernel
theorem dX13_text_0 : decode cX13_text 0 = .ok (.iload_n 1, 1) := by decide +kernel
theorem dX13_text_1 : decode cX13_text 1 = .ok (.ifCond .lt 20, 3) := by decide +kernel
theorem dX13_text_4 : decode cX13_text 4 = .ok (.iload_n 1, 1) := by decide +kernel
theorem dX13_text_5 : decode cX13_text 5 = .ok (.aload_n 0, 1) := by decide +kernel
theorem dX13_text_6 : decode cX13_text 6 = .ok (.getfield 134, 3) := by decide +kernel
theorem dX13_text_9 : decode cX13_text 9 = .ok (.if_icmp .ge 12, 3) := by decide +kernel
theorem dX13_text_12 : decode cX13_text 12 = .ok (.aload_n 0, 1) := by decide +kernel
theorem dX13_text_13 : decode cX13_text 13 = .ok (.getfield 39, 3) := by decide +kernel
theorem dX13_text_16 : decode cX13_text 16 = .ok (.iload_n 1, 1) := by decide +kernel
theorem dX13_text_17 : decode cX13_text 17 = .ok (.caload, 1) := by decide +kernel
theorem dX13_text_18 : decode cX13_text 18 = .ok (.goto 4, 3) := by decide +kernel
theorem dX13_text_21 : decode cX13_text 21 = .ok (.iconst 0, 1) := by decide +kernel
theorem dX13_text_22 : decode cX13_text 22 = .ok (.ireturn, 1) := by decide +kernel
theorem dX13_pack_0 : decode cX13_pack 0 = .ok (.iload_n 0, 1) := by decide +kernel
theorem dX13_pack_1 : decode cX13_pack 1 = .ok (.bipush 24, 2) := by decide +kernel
theorem dX13_pack_3 : decode cX13_pack 3 = .ok (.ishl, 1) := by decide +kernel
theorem dX13_pack_4 : decode cX13_pack 4 = .ok (.iload_n 1, 1) := by decide +kernel
theorem dX13_pack_5 : decode cX13_pack 5 = .ok (.bipush 16, 2) := by decide +kernel
theorem dX13_pack_7 : decode cX13_pack 7 = .ok (.ishl, 1) := by decide +kernel
theorem dX13_pack_8 : decode cX13_pack 8 = .ok (.ior, 1) := by decide +kernel
theorem dX13_pack_9 : decode cX13_pack 9 = .ok (.iload_n 2, 1) := by decide +kernel
theorem dX13_pack_10 : decode cX13_pack 10 = .ok (.bipush 8, 2) := by decide +kernel
theorem dX13_pack_12 : decode cX13_pack 12 = .ok (.ishl, 1) := by decide +kernel
theorem dX13_pack_13 : decode cX13_pack 13 = .ok (.ior, 1) := by decide +kernel
theorem dX13_pack_14 : decode cX13_pack 14 = .ok (.iload_n 3, 1) := by decide +kernel
theorem dX13_pack_15 : decode cX13_pack 15 = .ok (.ior, 1) := by decide +kernel
theorem dX13_pack_16 : decode cX13_pack 16 = .ok (.ireturn, 1) := by decide +kernel
theorem dX13_readLetters_0 : decode cX13_readLetters 0 = .ok (.iconst 0, 1) := by decide +kernel
theorem dX13_readLetters_1 : decode cX13_readLetters 1 = .ok (.istore_n 1, 1) := by decide +kernel
theorem dX13_readLetters_2 : decode cX13_readLetters 2 = .ok (.iconst 0, 1) := by decide +kernel
theorem dX13_readLetters_3 : decode cX13_readLetters 3 = .ok (.istore_n 2, 1) := by decide +kernel
theorem dX13_readLetters_4 : decode cX13_readLetters 4 = .ok (.iload_n 1, 1) := by decide +kernel
theorem dX13_readLetters_5 : decode cX13_readLetters 5 = .ok (.aload_n 0, 1) := by decide +kernel
theorem dX13_readLetters_6 : decode cX13_readLetters 6 = .ok (.getfield 75, 3) := by decide +kernel
theorem dX13_readLetters_9 : decode cX13_readLetters 9 = .ok (.if_icmp .ge 69, 3) := by decide +kernel
theorem dX13_readLetters_12 : decode cX13_readLetters 12 = .ok (.aload_n 0, 1) := by decide +kernel
theorem dX13_readLetters_13 : decode cX13_readLetters 13 = .ok (.getfield 35, 3) := by decide +kernel
theorem dX13_readLetters_16 : decode cX13_readLetters 16 = .ok (.iload_n 1, 1) := by decide +kernel
theorem dX13_readLetters_17 : decode cX13_readLetters 17 = .ok (.caload, 1) := by decide +kernel
theorem dX13_readLetters_18 : decode cX13_readLetters 18 = .ok (.bipush 97, 2) := by decide +kernel
theorem dX13_readLetters_20 : decode cX13_readLetters 20 = .ok (.if_icmp .lt 14, 3) := by decide +kernel
theorem dX13_readLetters_23 : decode cX13_readLetters 23 = .ok (.aload_n 0, 1) := by decide +kernel
theorem dX13_readLetters_24 : decode cX13_readLetters 24 = .ok (.getfield 35, 3) := by decide +kernel
theorem dX13_readLetters_27 : decode cX13_readLetters 27 = .ok (.iload_n 1, 1) := by decide +kernel
theorem dX13_readLetters_28 : decode cX13_readLetters 28 = .ok (.caload, 1) := by decide +kernel
theorem dX13_readLetters_29 : decode cX13_readLetters 29 = .ok (.bipush 122, 2) := by decide +kernel
theorem dX13_readLetters_31 : decode cX13_readLetters 31 = .ok (.if_icmp .le 25, 3) := by decide +kernel
theorem dX13_readLetters_34 : decode cX13_readLetters 34 = .ok (.aload_n 0, 1) := by decide +kernel
theorem dX13_readLetters_35 : decode cX13_readLetters 35 = .ok (.getfield 35, 3) := by decide +kernel
theorem dX13_readLetters_38 : decode cX13_readLetters 38 = .ok (.iload_n 1, 1) := by decide +kernel
theorem dX13_readLetters_39 : decode cX13_readLetters 39 = .ok (.caload, 1) := by decide +kernel
theorem dX13_readLetters_40 : decode cX13_readLetters 40 = .ok (.bipush 65, 2) := by decide +kernel
theorem dX13_readLetters_42 : decode cX13_readLetters 42 = .ok (.if_icmp .lt 36, 3) := by decide +kernel
theorem dX13_readLetters_45 : decode cX13_readLetters 45 = .ok (.aload_n 0, 1) := by decide +kernel
theorem dX13_readLetters_46 : decode cX13_readLetters 46 = .ok (.getfield 35, 3) := by decide +kernel
theorem dX13_readLetters_49 : decode cX13_readLetters 49 = .ok (.iload_n 1, 1) := by decide +kernel
theorem dX13_readLetters_50 : decode cX13_readLetters 50 = .ok (.caload, 1) := by decide +kernel
theorem dX13_readLetters_51 : decode cX13_readLetters 51 = .ok (.bipush 90, 2) := by decide +kernel
theorem dX13_readLetters_53 : decode cX13_readLetters 53 = .ok (.if_icmp .gt 25, 3) := by decide +kernel
theorem dX13_readLetters_56 : decode cX13_readLetters 56 = .ok (.iload_n 2, 1) := by decide +kernel
theorem dX13_readLetters_57 : decode cX13_readLetters 57 = .ok (.bipush 8, 2) := by decide +kernel
theorem dX13_readLetters_59 : decode cX13_readLetters 59 = .ok (.ishl, 1) := by decide +kernel
theorem dX13_readLetters_60 : decode cX13_readLetters 60 = .ok (.aload_n 0, 1) := by decide +kernel
theorem dX13_readLetters_61 : decode cX13_readLetters 61 = .ok (.getfield 35, 3) := by decide +kernel
theorem dX13_readLetters_64 : decode cX13_readLetters 64 = .ok (.iload_n 1, 1) := by decide +kernel
theorem dX13_readLetters_65 : decode cX13_readLetters 65 = .ok (.caload, 1) := by decide +kernel
theorem dX13_readLetters_66 : decode cX13_readLetters 66 = .ok (.bipush 95, 2) := by decide +kernel
theorem dX13_readLetters_68 : decode cX13_readLetters 68 = .ok (.iand, 1) := by decide +kernel
theorem dX13_readLetters_69 : decode cX13_readLetters 69 = .ok (.ior, 1) := by decide +kernel
theorem dX13_readLetters_70 : decode cX13_readLetters 70 = .ok (.istore_n 2, 1) := by decide +kernel
theorem dX13_readLetters_71 : decode cX13_readLetters 71 = .ok (.iload_n 1, 1) := by decide +kernel
theorem dX13_readLetters_72 : decode cX13_readLetters 72 = .ok (.iconst 1, 1) := by decide +kernel
theorem dX13_readLetters_73 : decode cX13_readLetters 73 = .ok (.iadd, 1) := by decide +kernel
theorem dX13_readLetters_74 : decode cX13_readLetters 74 = .ok (.istore_n 1, 1) := by decide +kernel
theorem dX13_readLetters_75 : decode cX13_readLetters 75 = .ok (.goto (-71), 3) := by decide +kernel
theorem dX13_readLetters_78 : decode cX13_readLetters 78 = .ok (.aload_n 0, 1) := by decide +kernel
theorem dX13_readLetters_79 : decode cX13_readLetters 79 = .ok (.iload_n 1, 1) := by decide +kernel
theorem dX13_readLetters_80 : decode cX13_readLetters 80 = .ok (.aload_n 0, 1) := by decide +kernel
theorem dX13_readLetters_81 : decode cX13_readLetters 81 = .ok (.getfield 75, 3) := by decide +kernel
theorem dX13_readLetters_84 : decode cX13_readLetters 84 = .ok (.if_icmp .ge 9, 3) := by decide +kernel
theorem dX13_readLetters_87 : decode cX13_readLetters 87 = .ok (.iload_n 1, 1) := by decide +kernel
theorem dX13_readLetters_88 : decode cX13_readLetters 88 = .ok (.iconst 1, 1) := by decide +kernel
theorem dX13_readLetters_89 : decode cX13_readLetters 89 = .ok (.iadd, 1) := by decide +kernel
theorem dX13_readLetters_90 : decode cX13_readLetters 90 = .ok (.goto 4, 3) := by decide +kernel
theorem dX13_readLetters_93 : decode cX13_readLetters 93 = .ok (.iconst (-1), 1) := by decide +kernel
theorem dX13_readLetters_94 : decode cX13_readLetters 94 = .ok (.putfield 78, 3) := by decide +kernel
theorem dX13_readLetters_97 : decode cX13_readLetters 97 = .ok (.iload_n 1, 1) := by decide +kernel
theorem dX13_readLetters_98 : decode cX13_readLetters 98 = .ok (.aload_n 0, 1) := by decide +kernel
theorem dX13_readLetters_99 : decode cX13_readLetters 99 = .ok (.getfield 75, 3) := by decide +kernel
theorem dX13_readLetters_102 : decode cX13_readLetters 102 = .ok (.if_icmp .eq 24, 3) := by decide +kernel
theorem dX13_readLetters_105 : decode cX13_readLetters 105 = .ok (.aload_n 0, 1) := by decide +kernel
theorem dX13_readLetters_106 : decode cX13_readLetters 106 = .ok (.getfield 35, 3) := by decide +kernel
theorem dX13_readLetters_109 : decode cX13_readLetters 109 = .ok (.iload_n 1, 1) := by decide +kernel
theorem dX13_readLetters_110 : decode cX13_readLetters 110 = .ok (.caload, 1) := by decide +kernel
theorem dX13_readLetters_111 : decode cX13_readLetters 111 = .ok (.bipush 32, 2) := by decide +kernel
theorem dX13_readLetters_113 : decode cX13_readLetters 113 = .ok (.if_icmp .ne 17, 3) := by decide +kernel
theorem dX13_readLetters_116 : decode cX13_readLetters 116 = .ok (.iload_n 1, 1) := by decide +kernel
theorem dX13_readLetters_117 : decode cX13_readLetters 117 = .ok (.iconst 1, 1) := by decide +kernel
theorem dX13_readLetters_118 : decode cX13_readLetters 118 = .ok (.iadd, 1) := by decide +kernel
theorem dX13_readLetters_119 : decode cX13_readLetters 119 = .ok (.aload_n 0, 1) := by decide +kernel
theorem dX13_readLetters_120 : decode cX13_readLetters 120 = .ok (.getfield 75, 3) := by decide +kernel
theorem dX13_readLetters_123 : decode cX13_readLetters 123 = .ok (.if_icmp .ge 7, 3) := by decide +kernel
theorem dX13_readLetters_126 : decode cX13_readLetters 126 = .ok (.iconst 1, 1) := by decide +kernel
theorem dX13_readLetters_127 : decode cX13_readLetters 127 = .ok (.goto 4, 3) := by decide +kernel
theorem dX13_readLetters_130 : decode cX13_readLetters 130 = .ok (.iconst 0, 1) := by decide +kernel
theorem dX13_readLetters_131 : decode cX13_readLetters 131 = .ok (.istore_n 3, 1) := by decide +kernel
theorem dX13_readLetters_132 : decode cX13_readLetters 132 = .ok (.iload_n 3, 1) := by decide +kernel
theorem dX13_readLetters_133 : decode cX13_readLetters 133 = .ok (.ifCond .eq 12, 3) := by decide +kernel
theorem dX13_readLetters_136 : decode cX13_readLetters 136 = .ok (.iload_n 1, 1) := by decide +kernel
theorem dX13_readLetters_137 : decode cX13_readLetters 137 = .ok (.iconst 5, 1) := by decide +kernel
theorem dX13_readLetters_138 : decode cX13_readLetters 138 = .ok (.if_icmp .ge 7, 3) := by decide +kernel
theorem dX13_readLetters_141 : decode cX13_readLetters 141 = .ok (.iload_n 2, 1) := by decide +kernel
theorem dX13_readLetters_142 : decode cX13_readLetters 142 = .ok (.goto 4, 3) := by decide +kernel
theorem dX13_readLetters_145 : decode cX13_readLetters 145 = .ok (.iconst 0, 1) := by decide +kernel
theorem dX13_readLetters_146 : decode cX13_readLetters 146 = .ok (.ireturn, 1) := by decide +kernel
theorem dX13_commandOf_0 : decode cX13_commandOf 0 = .ok (.iload_n 0, 1) := by decide +kernel
theorem dX13_commandOf_1 : decode cX13_commandOf 1 = .ok (.bipush 85, 2) := by decide +kernel
theorem dX13_commandOf_3 : decode cX13_commandOf 3 = .ok (.bipush 83, 2) := by decide +kernel
theorem dX13_commandOf_5 : decode cX13_commandOf 5 = .ok (.bipush 69, 2) := by decide +kernel
theorem dX13_commandOf_7 : decode cX13_commandOf 7 = .ok (.bipush 82, 2) := by decide +kernel
theorem dX13_commandOf_9 : decode cX13_commandOf 9 = .ok (.invokestatic 156, 3) := by decide +kernel
theorem dX13_commandOf_12 : decode cX13_commandOf 12 = .ok (.if_icmp .ne 7, 3) := by decide +kernel
theorem dX13_commandOf_15 : decode cX13_commandOf 15 = .ok (.iconst 1, 1) := by decide +kernel
theorem dX13_commandOf_16 : decode cX13_commandOf 16 = .ok (.goto 118, 3) := by decide +kernel
theorem dX13_commandOf_19 : decode cX13_commandOf 19 = .ok (.iload_n 0, 1) := by decide +kernel
theorem dX13_commandOf_20 : decode cX13_commandOf 20 = .ok (.bipush 80, 2) := by decide +kernel
theorem dX13_commandOf_22 : decode cX13_commandOf 22 = .ok (.bipush 65, 2) := by decide +kernel
theorem dX13_commandOf_24 : decode cX13_commandOf 24 = .ok (.bipush 83, 2) := by decide +kernel
theorem dX13_commandOf_26 : decode cX13_commandOf 26 = .ok (.bipush 83, 2) := by decide +kernel
theorem dX13_commandOf_28 : decode cX13_commandOf 28 = .ok (.invokestatic 156, 3) := by decide +kernel
theorem dX13_commandOf_31 : decode cX13_commandOf 31 = .ok (.if_icmp .ne 7, 3) := by decide +kernel
theorem dX13_commandOf_34 : decode cX13_commandOf 34 = .ok (.iconst 2, 1) := by decide +kernel
theorem dX13_commandOf_35 : decode cX13_commandOf 35 = .ok (.goto 99, 3) := by decide +kernel
theorem dX13_commandOf_38 : decode cX13_commandOf 38 = .ok (.iload_n 0, 1) := by decide +kernel
theorem dX13_commandOf_39 : decode cX13_commandOf 39 = .ok (.bipush 81, 2) := by decide +kernel
theorem dX13_commandOf_41 : decode cX13_commandOf 41 = .ok (.bipush 85, 2) := by decide +kernel
theorem dX13_commandOf_43 : decode cX13_commandOf 43 = .ok (.bipush 73, 2) := by decide +kernel
theorem dX13_commandOf_45 : decode cX13_commandOf 45 = .ok (.bipush 84, 2) := by decide +kernel
theorem dX13_commandOf_47 : decode cX13_commandOf 47 = .ok (.invokestatic 156, 3) := by decide +kernel
theorem dX13_commandOf_50 : decode cX13_commandOf 50 = .ok (.if_icmp .ne 7, 3) := by decide +kernel
theorem dX13_commandOf_53 : decode cX13_commandOf 53 = .ok (.iconst 3, 1) := by decide +kernel
theorem dX13_commandOf_54 : decode cX13_commandOf 54 = .ok (.goto 80, 3) := by decide +kernel
theorem dX13_commandOf_57 : decode cX13_commandOf 57 = .ok (.iload_n 0, 1) := by decide +kernel
theorem dX13_commandOf_58 : decode cX13_commandOf 58 = .ok (.bipush 78, 2) := by decide +kernel
theorem dX13_commandOf_60 : decode cX13_commandOf 60 = .ok (.bipush 79, 2) := by decide +kernel
theorem dX13_commandOf_62 : decode cX13_commandOf 62 = .ok (.bipush 79, 2) := by decide +kernel
theorem dX13_commandOf_64 : decode cX13_commandOf 64 = .ok (.bipush 80, 2) := by decide +kernel
theorem dX13_commandOf_66 : decode cX13_commandOf 66 = .ok (.invokestatic 156, 3) := by decide +kernel
theorem dX13_commandOf_69 : decode cX13_commandOf 69 = .ok (.if_icmp .ne 7, 3) := by decide +kernel
theorem dX13_commandOf_72 : decode cX13_commandOf 72 = .ok (.iconst 4, 1) := by decide +kernel
theorem dX13_commandOf_73 : decode cX13_commandOf 73 = .ok (.goto 61, 3) := by decide +kernel
theorem dX13_commandOf_76 : decode cX13_commandOf 76 = .ok (.iload_n 0, 1) := by decide +kernel
theorem dX13_commandOf_77 : decode cX13_commandOf 77 = .ok (.iconst 0, 1) := by decide +kernel
theorem dX13_commandOf_78 : decode cX13_commandOf 78 = .ok (.bipush 80, 2) := by decide +kernel
theorem dX13_commandOf_80 : decode cX13_commandOf 80 = .ok (.bipush 87, 2) := by decide +kernel
theorem dX13_commandOf_82 : decode cX13_commandOf 82 = .ok (.bipush 68, 2) := by decide +kernel
theorem dX13_commandOf_84 : decode cX13_commandOf 84 = .ok (.invokestatic 156, 3) := by decide +kernel
theorem dX13_commandOf_87 : decode cX13_commandOf 87 = .ok (.if_icmp .ne 7, 3) := by decide +kernel
theorem dX13_commandOf_90 : decode cX13_commandOf 90 = .ok (.iconst 5, 1) := by decide +kernel
theorem dX13_commandOf_91 : decode cX13_commandOf 91 = .ok (.goto 43, 3) := by decide +kernel
theorem dX13_commandOf_94 : decode cX13_commandOf 94 = .ok (.iload_n 0, 1) := by decide +kernel
theorem dX13_commandOf_95 : decode cX13_commandOf 95 = .ok (.iconst 0, 1) := by decide +kernel
theorem dX13_commandOf_96 : decode cX13_commandOf 96 = .ok (.bipush 67, 2) := by decide +kernel
theorem dX13_commandOf_98 : decode cX13_commandOf 98 = .ok (.bipush 87, 2) := by decide +kernel
theorem dX13_commandOf_100 : decode cX13_commandOf 100 = .ok (.bipush 68, 2) := by decide +kernel
theorem dX13_commandOf_102 : decode cX13_commandOf 102 = .ok (.invokestatic 156, 3) := by decide +kernel
theorem dX13_commandOf_105 : decode cX13_commandOf 105 = .ok (.if_icmp .ne 8, 3) := by decide +kernel
theorem dX13_commandOf_108 : decode cX13_commandOf 108 = .ok (.bipush 6, 2) := by decide +kernel
theorem dX13_commandOf_110 : decode cX13_commandOf 110 = .ok (.goto 24, 3) := by decide +kernel
theorem dX13_commandOf_113 : decode cX13_commandOf 113 = .ok (.iload_n 0, 1) := by decide +kernel
theorem dX13_commandOf_114 : decode cX13_commandOf 114 = .ok (.bipush 67, 2) := by decide +kernel
theorem dX13_commandOf_116 : decode cX13_commandOf 116 = .ok (.bipush 68, 2) := by decide +kernel
theorem dX13_commandOf_118 : decode cX13_commandOf 118 = .ok (.bipush 85, 2) := by decide +kernel
theorem dX13_commandOf_120 : decode cX13_commandOf 120 = .ok (.bipush 80, 2) := by decide +kernel
theorem dX13_commandOf_122 : decode cX13_commandOf 122 = .ok (.invokestatic 156, 3) := by decide +kernel
theorem dX13_commandOf_125 : decode cX13_commandOf 125 = .ok (.if_icmp .ne 8, 3) := by decide +kernel
theorem dX13_commandOf_128 : decode cX13_commandOf 128 = .ok (.bipush 7, 2) := by decide +kernel
theorem dX13_commandOf_130 : decode cX13_commandOf 130 = .ok (.goto 4, 3) := by decide +kernel
theorem dX13_commandOf_133 : decode cX13_commandOf 133 = .ok (.iconst 0, 1) := by decide +kernel
theorem dX13_commandOf_134 : decode cX13_commandOf 134 = .ok (.istore_n 1, 1) := by decide +kernel
theorem dX13_commandOf_135 : decode cX13_commandOf 135 = .ok (.iload_n 0, 1) := by decide +kernel
theorem dX13_commandOf_136 : decode cX13_commandOf 136 = .ok (.iconst 0, 1) := by decide +kernel
theorem dX13_commandOf_137 : decode cX13_commandOf 137 = .ok (.bipush 77, 2) := by decide +kernel
theorem dX13_commandOf_139 : decode cX13_commandOf 139 = .ok (.bipush 75, 2) := by decide +kernel
theorem dX13_commandOf_141 : decode cX13_commandOf 141 = .ok (.bipush 68, 2) := by decide +kernel
theorem dX13_commandOf_143 : decode cX13_commandOf 143 = .ok (.invokestatic 156, 3) := by decide +kernel
theorem dX13_commandOf_146 : decode cX13_commandOf 146 = .ok (.if_icmp .ne 8, 3) := by decide +kernel
theorem dX13_commandOf_149 : decode cX13_commandOf 149 = .ok (.bipush 8, 2) := by decide +kernel
theorem dX13_commandOf_151 : decode cX13_commandOf 151 = .ok (.goto 123, 3) := by decide +kernel
theorem dX13_commandOf_154 : decode cX13_commandOf 154 = .ok (.iload_n 0, 1) := by decide +kernel
theorem dX13_commandOf_155 : decode cX13_commandOf 155 = .ok (.iconst 0, 1) := by decide +kernel
theorem dX13_commandOf_156 : decode cX13_commandOf 156 = .ok (.bipush 82, 2) := by decide +kernel
theorem dX13_commandOf_158 : decode cX13_commandOf 158 = .ok (.bipush 77, 2) := by decide +kernel
theorem dX13_commandOf_160 : decode cX13_commandOf 160 = .ok (.bipush 68, 2) := by decide +kernel
theorem dX13_commandOf_162 : decode cX13_commandOf 162 = .ok (.invokestatic 156, 3) := by decide +kernel
theorem dX13_commandOf_165 : decode cX13_commandOf 165 = .ok (.if_icmp .ne 8, 3) := by decide +kernel
theorem dX13_commandOf_168 : decode cX13_commandOf 168 = .ok (.bipush 9, 2) := by decide +kernel
theorem dX13_commandOf_170 : decode cX13_commandOf 170 = .ok (.goto 104, 3) := by decide +kernel
theorem dX13_commandOf_173 : decode cX13_commandOf 173 = .ok (.iload_n 0, 1) := by decide +kernel
theorem dX13_commandOf_174 : decode cX13_commandOf 174 = .ok (.bipush 68, 2) := by decide +kernel
theorem dX13_commandOf_176 : decode cX13_commandOf 176 = .ok (.bipush 69, 2) := by decide +kernel
theorem dX13_commandOf_178 : decode cX13_commandOf 178 = .ok (.bipush 76, 2) := by decide +kernel
theorem dX13_commandOf_180 : decode cX13_commandOf 180 = .ok (.bipush 69, 2) := by decide +kernel
theorem dX13_commandOf_182 : decode cX13_commandOf 182 = .ok (.invokestatic 156, 3) := by decide +kernel
theorem dX13_commandOf_185 : decode cX13_commandOf 185 = .ok (.if_icmp .ne 8, 3) := by decide +kernel
theorem dX13_commandOf_188 : decode cX13_commandOf 188 = .ok (.bipush 10, 2) := by decide +kernel
theorem dX13_commandOf_190 : decode cX13_commandOf 190 = .ok (.goto 84, 3) := by decide +kernel
theorem dX13_commandOf_193 : decode cX13_commandOf 193 = .ok (.iload_n 0, 1) := by decide +kernel
theorem dX13_commandOf_194 : decode cX13_commandOf 194 = .ok (.bipush 83, 2) := by decide +kernel
theorem dX13_commandOf_196 : decode cX13_commandOf 196 = .ok (.bipush 73, 2) := by decide +kernel
theorem dX13_commandOf_198 : decode cX13_commandOf 198 = .ok (.bipush 90, 2) := by decide +kernel
theorem dX13_commandOf_200 : decode cX13_commandOf 200 = .ok (.bipush 69, 2) := by decide +kernel
theorem dX13_commandOf_202 : decode cX13_commandOf 202 = .ok (.invokestatic 156, 3) := by decide +kernel
theorem dX13_commandOf_205 : decode cX13_commandOf 205 = .ok (.if_icmp .ne 8, 3) := by decide +kernel
theorem dX13_commandOf_208 : decode cX13_commandOf 208 = .ok (.bipush 11, 2) := by decide +kernel
theorem dX13_commandOf_210 : decode cX13_commandOf 210 = .ok (.goto 64, 3) := by decide +kernel
theorem dX13_commandOf_213 : decode cX13_commandOf 213 = .ok (.iload_n 0, 1) := by decide +kernel
theorem dX13_commandOf_214 : decode cX13_commandOf 214 = .ok (.bipush 82, 2) := by decide +kernel
theorem dX13_commandOf_216 : decode cX13_commandOf 216 = .ok (.bipush 78, 2) := by decide +kernel
theorem dX13_commandOf_218 : decode cX13_commandOf 218 = .ok (.bipush 70, 2) := by decide +kernel
theorem dX13_commandOf_220 : decode cX13_commandOf 220 = .ok (.bipush 82, 2) := by decide +kernel
theorem dX13_commandOf_222 : decode cX13_commandOf 222 = .ok (.invokestatic 156, 3) := by decide +kernel
theorem dX13_commandOf_225 : decode cX13_commandOf 225 = .ok (.if_icmp .ne 8, 3) := by decide +kernel
theorem dX13_commandOf_228 : decode cX13_commandOf 228 = .ok (.bipush 12, 2) := by decide +kernel
theorem dX13_commandOf_230 : decode cX13_commandOf 230 = .ok (.goto 44, 3) := by decide +kernel
theorem dX13_commandOf_233 : decode cX13_commandOf 233 = .ok (.iload_n 0, 1) := by decide +kernel
theorem dX13_commandOf_234 : decode cX13_commandOf 234 = .ok (.bipush 82, 2) := by decide +kernel
theorem dX13_commandOf_236 : decode cX13_commandOf 236 = .ok (.bipush 78, 2) := by decide +kernel
theorem dX13_commandOf_238 : decode cX13_commandOf 238 = .ok (.bipush 84, 2) := by decide +kernel
theorem dX13_commandOf_240 : decode cX13_commandOf 240 = .ok (.bipush 79, 2) := by decide +kernel
theorem dX13_commandOf_242 : decode cX13_commandOf 242 = .ok (.invokestatic 156, 3) := by decide +kernel
theorem dX13_commandOf_245 : decode cX13_commandOf 245 = .ok (.if_icmp .ne 8, 3) := by decide +kernel
theorem dX13_commandOf_248 : decode cX13_commandOf 248 = .ok (.bipush 13, 2) := by decide +kernel
theorem dX13_commandOf_250 : decode cX13_commandOf 250 = .ok (.goto 24, 3) := by decide +kernel
theorem dX13_commandOf_253 : decode cX13_commandOf 253 = .ok (.iload_n 0, 1) := by decide +kernel
theorem dX13_commandOf_254 : decode cX13_commandOf 254 = .ok (.bipush 84, 2) := by decide +kernel
theorem dX13_commandOf_256 : decode cX13_commandOf 256 = .ok (.bipush 89, 2) := by decide +kernel
theorem dX13_commandOf_258 : decode cX13_commandOf 258 = .ok (.bipush 80, 2) := by decide +kernel
theorem dX13_commandOf_260 : decode cX13_commandOf 260 = .ok (.bipush 69, 2) := by decide +kernel
theorem dX13_commandOf_262 : decode cX13_commandOf 262 = .ok (.invokestatic 156, 3) := by decide +kernel
theorem dX13_commandOf_265 : decode cX13_commandOf 265 = .ok (.if_icmp .ne 8, 3) := by decide +kernel
theorem dX13_commandOf_268 : decode cX13_commandOf 268 = .ok (.bipush 14, 2) := by decide +kernel
theorem dX13_commandOf_270 : decode cX13_commandOf 270 = .ok (.goto 4, 3) := by decide +kernel
theorem dX13_commandOf_273 : decode cX13_commandOf 273 = .ok (.iconst 0, 1) := by decide +kernel
theorem dX13_commandOf_274 : decode cX13_commandOf 274 = .ok (.istore_n 2, 1) := by decide +kernel
theorem dX13_commandOf_275 : decode cX13_commandOf 275 = .ok (.iload_n 0, 1) := by decide +kernel
theorem dX13_commandOf_276 : decode cX13_commandOf 276 = .ok (.bipush 82, 2) := by decide +kernel
theorem dX13_commandOf_278 : decode cX13_commandOf 278 = .ok (.bipush 69, 2) := by decide +kernel
theorem dX13_commandOf_280 : decode cX13_commandOf 280 = .ok (.bipush 83, 2) := by decide +kernel
theorem dX13_commandOf_282 : decode cX13_commandOf 282 = .ok (.bipush 84, 2) := by decide +kernel
theorem dX13_commandOf_284 : decode cX13_commandOf 284 = .ok (.invokestatic 156, 3) := by decide +kernel
theorem dX13_commandOf_287 : decode cX13_commandOf 287 = .ok (.if_icmp .ne 8, 3) := by decide +kernel
theorem dX13_commandOf_290 : decode cX13_commandOf 290 = .ok (.bipush 15, 2) := by decide +kernel
theorem dX13_commandOf_292 : decode cX13_commandOf 292 = .ok (.goto 144, 3) := by decide +kernel
theorem dX13_commandOf_295 : decode cX13_commandOf 295 = .ok (.iload_n 0, 1) := by decide +kernel
theorem dX13_commandOf_296 : decode cX13_commandOf 296 = .ok (.bipush 80, 2) := by decide +kernel
theorem dX13_commandOf_298 : decode cX13_commandOf 298 = .ok (.bipush 65, 2) := by decide +kernel
theorem dX13_commandOf_300 : decode cX13_commandOf 300 = .ok (.bipush 83, 2) := by decide +kernel
theorem dX13_commandOf_302 : decode cX13_commandOf 302 = .ok (.bipush 86, 2) := by decide +kernel
theorem dX13_commandOf_304 : decode cX13_commandOf 304 = .ok (.invokestatic 156, 3) := by decide +kernel
theorem dX13_commandOf_307 : decode cX13_commandOf 307 = .ok (.if_icmp .ne 8, 3) := by decide +kernel
theorem dX13_commandOf_310 : decode cX13_commandOf 310 = .ok (.bipush 16, 2) := by decide +kernel
theorem dX13_commandOf_312 : decode cX13_commandOf 312 = .ok (.goto 124, 3) := by decide +kernel
theorem dX13_commandOf_315 : decode cX13_commandOf 315 = .ok (.iload_n 0, 1) := by decide +kernel
theorem dX13_commandOf_316 : decode cX13_commandOf 316 = .ok (.bipush 80, 2) := by decide +kernel
theorem dX13_commandOf_318 : decode cX13_commandOf 318 = .ok (.bipush 79, 2) := by decide +kernel
theorem dX13_commandOf_320 : decode cX13_commandOf 320 = .ok (.bipush 82, 2) := by decide +kernel
theorem dX13_commandOf_322 : decode cX13_commandOf 322 = .ok (.bipush 84, 2) := by decide +kernel
theorem dX13_commandOf_324 : decode cX13_commandOf 324 = .ok (.invokestatic 156, 3) := by decide +kernel
theorem dX13_commandOf_327 : decode cX13_commandOf 327 = .ok (.if_icmp .ne 8, 3) := by decide +kernel
theorem dX13_commandOf_330 : decode cX13_commandOf 330 = .ok (.bipush 17, 2) := by decide +kernel
theorem dX13_commandOf_332 : decode cX13_commandOf 332 = .ok (.goto 104, 3) := by decide +kernel
theorem dX13_commandOf_335 : decode cX13_commandOf 335 = .ok (.iload_n 0, 1) := by decide +kernel
theorem dX13_commandOf_336 : decode cX13_commandOf 336 = .ok (.bipush 65, 2) := by decide +kernel
theorem dX13_commandOf_338 : decode cX13_commandOf 338 = .ok (.bipush 66, 2) := by decide +kernel
theorem dX13_commandOf_340 : decode cX13_commandOf 340 = .ok (.bipush 79, 2) := by decide +kernel
theorem dX13_commandOf_342 : decode cX13_commandOf 342 = .ok (.bipush 82, 2) := by decide +kernel
theorem dX13_commandOf_344 : decode cX13_commandOf 344 = .ok (.invokestatic 156, 3) := by decide +kernel
theorem dX13_commandOf_347 : decode cX13_commandOf 347 = .ok (.if_icmp .ne 8, 3) := by decide +kernel
theorem dX13_commandOf_350 : decode cX13_commandOf 350 = .ok (.bipush 18, 2) := by decide +kernel
theorem dX13_commandOf_352 : decode cX13_commandOf 352 = .ok (.goto 84, 3) := by decide +kernel
theorem dX13_commandOf_355 : decode cX13_commandOf 355 = .ok (.iload_n 0, 1) := by decide +kernel
theorem dX13_commandOf_356 : decode cX13_commandOf 356 = .ok (.bipush 82, 2) := by decide +kernel
theorem dX13_commandOf_358 : decode cX13_commandOf 358 = .ok (.bipush 69, 2) := by decide +kernel
theorem dX13_commandOf_360 : decode cX13_commandOf 360 = .ok (.bipush 84, 2) := by decide +kernel
theorem dX13_commandOf_362 : decode cX13_commandOf 362 = .ok (.bipush 82, 2) := by decide +kernel
theorem dX13_commandOf_364 : decode cX13_commandOf 364 = .ok (.invokestatic 156, 3) := by decide +kernel
theorem dX13_commandOf_367 : decode cX13_commandOf 367 = .ok (.if_icmp .ne 8, 3) := by decide +kernel
theorem dX13_commandOf_370 : decode cX13_commandOf 370 = .ok (.bipush 19, 2) := by decide +kernel
theorem dX13_commandOf_372 : decode cX13_commandOf 372 = .ok (.goto 64, 3) := by decide +kernel
theorem dX13_commandOf_375 : decode cX13_commandOf 375 = .ok (.iload_n 0, 1) := by decide +kernel
theorem dX13_commandOf_376 : decode cX13_commandOf 376 = .ok (.bipush 83, 2) := by decide +kernel
theorem dX13_commandOf_378 : decode cX13_commandOf 378 = .ok (.bipush 84, 2) := by decide +kernel
theorem dX13_commandOf_380 : decode cX13_commandOf 380 = .ok (.bipush 79, 2) := by decide +kernel
theorem dX13_commandOf_382 : decode cX13_commandOf 382 = .ok (.bipush 82, 2) := by decide +kernel
theorem dX13_commandOf_384 : decode cX13_commandOf 384 = .ok (.invokestatic 156, 3) := by decide +kernel
theorem dX13_commandOf_387 : decode cX13_commandOf 387 = .ok (.if_icmp .ne 8, 3) := by decide +kernel
theorem dX13_commandOf_390 : decode cX13_commandOf 390 = .ok (.bipush 20, 2) := by decide +kernel
theorem dX13_commandOf_392 : decode cX13_commandOf 392 = .ok (.goto 44, 3) := by decide +kernel
theorem dX13_commandOf_395 : decode cX13_commandOf 395 = .ok (.iload_n 0, 1) := by decide +kernel
theorem dX13_commandOf_396 : decode cX13_commandOf 396 = .ok (.bipush 65, 2) := by decide +kernel
theorem dX13_commandOf_398 : decode cX13_commandOf 398 = .ok (.bipush 80, 2) := by decide +kernel
theorem dX13_commandOf_400 : decode cX13_commandOf 400 = .ok (.bipush 80, 2) := by decide +kernel
theorem dX13_commandOf_402 : decode cX13_commandOf 402 = .ok (.bipush 69, 2) := by decide +kernel
theorem dX13_commandOf_404 : decode cX13_commandOf 404 = .ok (.invokestatic 156, 3) := by decide +kernel
theorem dX13_commandOf_407 : decode cX13_commandOf 407 = .ok (.if_icmp .ne 8, 3) := by decide +kernel
theorem dX13_commandOf_410 : decode cX13_commandOf 410 = .ok (.bipush 21, 2) := by decide +kernel
theorem dX13_commandOf_412 : decode cX13_commandOf 412 = .ok (.goto 24, 3) := by decide +kernel
theorem dX13_commandOf_415 : decode cX13_commandOf 415 = .ok (.iload_n 0, 1) := by decide +kernel
theorem dX13_commandOf_416 : decode cX13_commandOf 416 = .ok (.bipush 78, 2) := by decide +kernel
theorem dX13_commandOf_418 : decode cX13_commandOf 418 = .ok (.bipush 76, 2) := by decide +kernel
theorem dX13_commandOf_420 : decode cX13_commandOf 420 = .ok (.bipush 83, 2) := by decide +kernel
theorem dX13_commandOf_422 : decode cX13_commandOf 422 = .ok (.bipush 84, 2) := by decide +kernel
theorem dX13_commandOf_424 : decode cX13_commandOf 424 = .ok (.invokestatic 156, 3) := by decide +kernel
theorem dX13_commandOf_427 : decode cX13_commandOf 427 = .ok (.if_icmp .ne 8, 3) := by decide +kernel
theorem dX13_commandOf_430 : decode cX13_commandOf 430 = .ok (.bipush 22, 2) := by decide +kernel
theorem dX13_commandOf_432 : decode cX13_commandOf 432 = .ok (.goto 4, 3) := by decide +kernel
theorem dX13_commandOf_435 : decode cX13_commandOf 435 = .ok (.iconst 0, 1) := by decide +kernel
theorem dX13_commandOf_436 : decode cX13_commandOf 436 = .ok (.istore_n 3, 1) := by decide +kernel
theorem dX13_commandOf_437 : decode cX13_commandOf 437 = .ok (.iload_n 1, 1) := by decide +kernel
theorem dX13_commandOf_438 : decode cX13_commandOf 438 = .ok (.iload_n 2, 1) := by decide +kernel
theorem dX13_commandOf_439 : decode cX13_commandOf 439 = .ok (.iadd, 1) := by decide +kernel
theorem dX13_commandOf_440 : decode cX13_commandOf 440 = .ok (.iload_n 3, 1) := by decide +kernel
theorem dX13_commandOf_441 : decode cX13_commandOf 441 = .ok (.iadd, 1) := by decide +kernel
theorem dX13_commandOf_442 : decode cX13_commandOf 442 = .ok (.ireturn, 1) := by decide +kernel
theorem dX13_isDigit_0 : decode cX13_isDigit 0 = .ok (.iload_n 1, 1) := by decide +kernel
theorem dX13_isDigit_1 : decode cX13_isDigit 1 = .ok (.aload_n 0, 1) := by decide +kernel
theorem dX13_isDigit_2 : decode cX13_isDigit 2 = .ok (.getfield 75, 3) := by decide +kernel
theorem dX13_isDigit_5 : decode cX13_isDigit 5 = .ok (.if_icmp .ge 29, 3) := by decide +kernel
theorem dX13_isDigit_8 : decode cX13_isDigit 8 = .ok (.aload_n 0, 1) := by decide +kernel
theorem dX13_isDigit_9 : decode cX13_isDigit 9 = .ok (.getfield 35, 3) := by decide +kernel
theorem dX13_isDigit_12 : decode cX13_isDigit 12 = .ok (.iload_n 1, 1) := by decide +kernel
theorem dX13_isDigit_13 : decode cX13_isDigit 13 = .ok (.caload, 1) := by decide +kernel
theorem dX13_isDigit_14 : decode cX13_isDigit 14 = .ok (.bipush 48, 2) := by decide +kernel
theorem dX13_isDigit_16 : decode cX13_isDigit 16 = .ok (.if_icmp .lt 18, 3) := by decide +kernel
theorem dX13_isDigit_19 : decode cX13_isDigit 19 = .ok (.aload_n 0, 1) := by decide +kernel
theorem dX13_isDigit_20 : decode cX13_isDigit 20 = .ok (.getfield 35, 3) := by decide +kernel
theorem dX13_isDigit_23 : decode cX13_isDigit 23 = .ok (.iload_n 1, 1) := by decide +kernel
theorem dX13_isDigit_24 : decode cX13_isDigit 24 = .ok (.caload, 1) := by decide +kernel
theorem dX13_isDigit_25 : decode cX13_isDigit 25 = .ok (.bipush 57, 2) := by decide +kernel
theorem dX13_isDigit_27 : decode cX13_isDigit 27 = .ok (.if_icmp .gt 7, 3) := by decide +kernel
theorem dX13_isDigit_30 : decode cX13_isDigit 30 = .ok (.iconst 1, 1) := by decide +kernel
theorem dX13_isDigit_31 : decode cX13_isDigit 31 = .ok (.goto 4, 3) := by decide +kernel
theorem dX13_isDigit_34 : decode cX13_isDigit 34 = .ok (.iconst 0, 1) := by decide +kernel
theorem dX13_isDigit_35 : decode cX13_isDigit 35 = .ok (.ireturn, 1) := by decide +kernel
theorem dX13_digitsFrom_0 : decode cX13_digitsFrom 0 = .ok (.iconst 0, 1) := by decide +kernel
theorem dX13_digitsFrom_1 : decode cX13_digitsFrom 1 = .ok (.istore_n 2, 1) := by decide +kernel
theorem dX13_digitsFrom_2 : decode cX13_digitsFrom 2 = .ok (.aload_n 0, 1) := by decide +kernel
theorem dX13_digitsFrom_3 : decode cX13_digitsFrom 3 = .ok (.iload_n 1, 1) := by decide +kernel
theorem dX13_digitsFrom_4 : decode cX13_digitsFrom 4 = .ok (.iload_n 2, 1) := by decide +kernel
theorem dX13_digitsFrom_5 : decode cX13_digitsFrom 5 = .ok (.iadd, 1) := by decide +kernel
theorem dX13_digitsFrom_6 : decode cX13_digitsFrom 6 = .ok (.invokevirtual 160, 3) := by decide +kernel
theorem dX13_digitsFrom_9 : decode cX13_digitsFrom 9 = .ok (.ifCond .eq 10, 3) := by decide +kernel
theorem dX13_digitsFrom_12 : decode cX13_digitsFrom 12 = .ok (.iload_n 2, 1) := by decide +kernel
theorem dX13_digitsFrom_13 : decode cX13_digitsFrom 13 = .ok (.iconst 1, 1) := by decide +kernel
theorem dX13_digitsFrom_14 : decode cX13_digitsFrom 14 = .ok (.iadd, 1) := by decide +kernel
theorem dX13_digitsFrom_15 : decode cX13_digitsFrom 15 = .ok (.istore_n 2, 1) := by decide +kernel
theorem dX13_digitsFrom_16 : decode cX13_digitsFrom 16 = .ok (.goto (-14), 3) := by decide +kernel
theorem dX13_digitsFrom_19 : decode cX13_digitsFrom 19 = .ok (.iload_n 2, 1) := by decide +kernel
theorem dX13_digitsFrom_20 : decode cX13_digitsFrom 20 = .ok (.ireturn, 1) := by decide +kernel
theorem dX13_numberAt_0 : decode cX13_numberAt 0 = .ok (.iconst 0, 1) := by decide +kernel
theorem dX13_numberAt_1 : decode cX13_numberAt 1 = .ok (.istore_n 3, 1) := by decide +kernel
theorem dX13_numberAt_2 : decode cX13_numberAt 2 = .ok (.iload_n 1, 1) := by decide +kernel
theorem dX13_numberAt_3 : decode cX13_numberAt 3 = .ok (.istore 4, 2) := by decide +kernel
theorem dX13_numberAt_5 : decode cX13_numberAt 5 = .ok (.iload 4, 2) := by decide +kernel
theorem dX13_numberAt_7 : decode cX13_numberAt 7 = .ok (.iload_n 1, 1) := by decide +kernel
theorem dX13_numberAt_8 : decode cX13_numberAt 8 = .ok (.iload_n 2, 1) := by decide +kernel
theorem dX13_numberAt_9 : decode cX13_numberAt 9 = .ok (.iadd, 1) := by decide +kernel
theorem dX13_numberAt_10 : decode cX13_numberAt 10 = .ok (.if_icmp .ge 25, 3) := by decide +kernel
theorem dX13_numberAt_13 : decode cX13_numberAt 13 = .ok (.bipush 10, 2) := by decide +kernel
theorem dX13_numberAt_15 : decode cX13_numberAt 15 = .ok (.iload_n 3, 1) := by decide +kernel
theorem dX13_numberAt_16 : decode cX13_numberAt 16 = .ok (.imul, 1) := by decide +kernel
theorem dX13_numberAt_17 : decode cX13_numberAt 17 = .ok (.aload_n 0, 1) := by decide +kernel
theorem dX13_numberAt_18 : decode cX13_numberAt 18 = .ok (.getfield 35, 3) := by decide +kernel
theorem dX13_numberAt_21 : decode cX13_numberAt 21 = .ok (.iload 4, 2) := by decide +kernel
theorem dX13_numberAt_23 : decode cX13_numberAt 23 = .ok (.caload, 1) := by decide +kernel
theorem dX13_numberAt_24 : decode cX13_numberAt 24 = .ok (.iadd, 1) := by decide +kernel
theorem dX13_numberAt_25 : decode cX13_numberAt 25 = .ok (.bipush 48, 2) := by decide +kernel
theorem dX13_numberAt_27 : decode cX13_numberAt 27 = .ok (.isub, 1) := by decide +kernel
theorem dX13_numberAt_28 : decode cX13_numberAt 28 = .ok (.istore_n 3, 1) := by decide +kernel
theorem dX13_numberAt_29 : decode cX13_numberAt 29 = .ok (.iinc 4 1, 3) := by decide +kernel
theorem dX13_numberAt_32 : decode cX13_numberAt 32 = .ok (.goto (-27), 3) := by decide +kernel
theorem dX13_numberAt_35 : decode cX13_numberAt 35 = .ok (.iload_n 3, 1) := by decide +kernel
theorem dX13_numberAt_36 : decode cX13_numberAt 36 = .ok (.ireturn, 1) := by decide +kernel
theorem dX13_portTold_0 : decode cX13_portTold 0 = .ok (.aload_n 0, 1) := by decide +kernel
theorem dX13_portTold_1 : decode cX13_portTold 1 = .ok (.getfield 78, 3) := by decide +kernel
theorem dX13_portTold_4 : decode cX13_portTold 4 = .ok (.istore_n 1, 1) := by decide +kernel
theorem dX13_portTold_5 : decode cX13_portTold 5 = .ok (.iconst 0, 1) := by decide +kernel
theorem dX13_portTold_6 : decode cX13_portTold 6 = .ok (.istore_n 2, 1) := by decide +kernel
theorem dX13_portTold_7 : decode cX13_portTold 7 = .ok (.iconst 0, 1) := by decide +kernel
theorem dX13_portTold_8 : decode cX13_portTold 8 = .ok (.istore_n 3, 1) := by decide +kernel
theorem dX13_portTold_9 : decode cX13_portTold 9 = .ok (.iload_n 3, 1) := by decide +kernel
theorem dX13_portTold_10 : decode cX13_portTold 10 = .ok (.bipush 6, 2) := by decide +kernel
theorem dX13_portTold_12 : decode cX13_portTold 12 = .ok (.if_icmp .ge 106, 3) := by decide +kernel
theorem dX13_portTold_15 : decode cX13_portTold 15 = .ok (.aload_n 0, 1) := by decide +kernel
theorem dX13_portTold_16 : decode cX13_portTold 16 = .ok (.iload_n 1, 1) := by decide +kernel
theorem dX13_portTold_17 : decode cX13_portTold 17 = .ok (.invokevirtual 164, 3) := by decide +kernel
theorem dX13_portTold_20 : decode cX13_portTold 20 = .ok (.istore 4, 2) := by decide +kernel
theorem dX13_portTold_22 : decode cX13_portTold 22 = .ok (.iload 4, 2) := by decide +kernel
theorem dX13_portTold_24 : decode cX13_portTold 24 = .ok (.iconst 1, 1) := by decide +kernel
theorem dX13_portTold_25 : decode cX13_portTold 25 = .ok (.if_icmp .lt 22, 3) := by decide +kernel
theorem dX13_portTold_28 : decode cX13_portTold 28 = .ok (.iload 4, 2) := by decide +kernel
theorem dX13_portTold_30 : decode cX13_portTold 30 = .ok (.iconst 3, 1) := by decide +kernel
theorem dX13_portTold_31 : decode cX13_portTold 31 = .ok (.if_icmp .gt 16, 3) := by decide +kernel
theorem dX13_portTold_34 : decode cX13_portTold 34 = .ok (.aload_n 0, 1) := by decide +kernel
theorem dX13_portTold_35 : decode cX13_portTold 35 = .ok (.iload_n 1, 1) := by decide +kernel
theorem dX13_portTold_36 : decode cX13_portTold 36 = .ok (.iload 4, 2) := by decide +kernel
theorem dX13_portTold_38 : decode cX13_portTold 38 = .ok (.invokevirtual 167, 3) := by decide +kernel
theorem dX13_portTold_41 : decode cX13_portTold 41 = .ok (.sipush 255, 3) := by decide +kernel
theorem dX13_portTold_44 : decode cX13_portTold 44 = .ok (.if_icmp .le 5, 3) := by decide +kernel
theorem dX13_portTold_47 : decode cX13_portTold 47 = .ok (.iconst (-1), 1) := by decide +kernel
theorem dX13_portTold_48 : decode cX13_portTold 48 = .ok (.ireturn, 1) := by decide +kernel
theorem dX13_portTold_49 : decode cX13_portTold 49 = .ok (.sipush 256, 3) := by decide +kernel
theorem dX13_portTold_52 : decode cX13_portTold 52 = .ok (.iload_n 2, 1) := by decide +kernel
theorem dX13_portTold_53 : decode cX13_portTold 53 = .ok (.imul, 1) := by decide +kernel
theorem dX13_portTold_54 : decode cX13_portTold 54 = .ok (.aload_n 0, 1) := by decide +kernel
theorem dX13_portTold_55 : decode cX13_portTold 55 = .ok (.iload_n 1, 1) := by decide +kernel
theorem dX13_portTold_56 : decode cX13_portTold 56 = .ok (.iload 4, 2) := by decide +kernel
theorem dX13_portTold_58 : decode cX13_portTold 58 = .ok (.invokevirtual 167, 3) := by decide +kernel
theorem dX13_portTold_61 : decode cX13_portTold 61 = .ok (.iadd, 1) := by decide +kernel
theorem dX13_portTold_62 : decode cX13_portTold 62 = .ok (.ldc 170, 2) := by decide +kernel
theorem dX13_portTold_64 : decode cX13_portTold 64 = .ok (.iand, 1) := by decide +kernel
theorem dX13_portTold_65 : decode cX13_portTold 65 = .ok (.istore_n 2, 1) := by decide +kernel
theorem dX13_portTold_66 : decode cX13_portTold 66 = .ok (.iload_n 1, 1) := by decide +kernel
theorem dX13_portTold_67 : decode cX13_portTold 67 = .ok (.iload 4, 2) := by decide +kernel
theorem dX13_portTold_69 : decode cX13_portTold 69 = .ok (.iadd, 1) := by decide +kernel
theorem dX13_portTold_70 : decode cX13_portTold 70 = .ok (.istore_n 1, 1) := by decide +kernel
theorem dX13_portTold_71 : decode cX13_portTold 71 = .ok (.iload_n 3, 1) := by decide +kernel
theorem dX13_portTold_72 : decode cX13_portTold 72 = .ok (.iconst 5, 1) := by decide +kernel
theorem dX13_portTold_73 : decode cX13_portTold 73 = .ok (.if_icmp .ge 25, 3) := by decide +kernel
theorem dX13_portTold_76 : decode cX13_portTold 76 = .ok (.iload_n 1, 1) := by decide +kernel
theorem dX13_portTold_77 : decode cX13_portTold 77 = .ok (.aload_n 0, 1) := by decide +kernel
theorem dX13_portTold_78 : decode cX13_portTold 78 = .ok (.getfield 75, 3) := by decide +kernel
theorem dX13_portTold_81 : decode cX13_portTold 81 = .ok (.if_icmp .ge 25, 3) := by decide +kernel
theorem dX13_portTold_84 : decode cX13_portTold 84 = .ok (.aload_n 0, 1) := by decide +kernel
theorem dX13_portTold_85 : decode cX13_portTold 85 = .ok (.getfield 35, 3) := by decide +kernel
theorem dX13_portTold_88 : decode cX13_portTold 88 = .ok (.iload_n 1, 1) := by decide +kernel
theorem dX13_portTold_89 : decode cX13_portTold 89 = .ok (.caload, 1) := by decide +kernel
theorem dX13_portTold_90 : decode cX13_portTold 90 = .ok (.bipush 44, 2) := by decide +kernel
theorem dX13_portTold_92 : decode cX13_portTold 92 = .ok (.if_icmp .eq 16, 3) := by decide +kernel
theorem dX13_portTold_95 : decode cX13_portTold 95 = .ok (.goto 11, 3) := by decide +kernel
theorem dX13_portTold_98 : decode cX13_portTold 98 = .ok (.iload_n 1, 1) := by decide +kernel
theorem dX13_portTold_99 : decode cX13_portTold 99 = .ok (.aload_n 0, 1) := by decide +kernel
theorem dX13_portTold_100 : decode cX13_portTold 100 = .ok (.getfield 75, 3) := by decide +kernel
theorem dX13_portTold_103 : decode cX13_portTold 103 = .ok (.if_icmp .eq 5, 3) := by decide +kernel
theorem dX13_portTold_106 : decode cX13_portTold 106 = .ok (.iconst (-1), 1) := by decide +kernel
theorem dX13_portTold_107 : decode cX13_portTold 107 = .ok (.ireturn, 1) := by decide +kernel
theorem dX13_portTold_108 : decode cX13_portTold 108 = .ok (.iload_n 1, 1) := by decide +kernel
theorem dX13_portTold_109 : decode cX13_portTold 109 = .ok (.iconst 1, 1) := by decide +kernel
theorem dX13_portTold_110 : decode cX13_portTold 110 = .ok (.iadd, 1) := by decide +kernel
theorem dX13_portTold_111 : decode cX13_portTold 111 = .ok (.istore_n 1, 1) := by decide +kernel
theorem dX13_portTold_112 : decode cX13_portTold 112 = .ok (.iinc 3 1, 3) := by decide +kernel
theorem dX13_portTold_115 : decode cX13_portTold 115 = .ok (.goto (-106), 3) := by decide +kernel
theorem dX13_portTold_118 : decode cX13_portTold 118 = .ok (.iload_n 2, 1) := by decide +kernel
theorem dX13_portTold_119 : decode cX13_portTold 119 = .ok (.ireturn, 1) := by decide +kernel
theorem dX13_argumentFits_0 : decode cX13_argumentFits 0 = .ok (.aload_n 0, 1) := by decide +kernel
theorem dX13_argumentFits_1 : decode cX13_argumentFits 1 = .ok (.getfield 78, 3) := by decide +kernel
theorem dX13_argumentFits_4 : decode cX13_argumentFits 4 = .ok (.ifCond .ge 7, 3) := by decide +kernel
theorem dX13_argumentFits_7 : decode cX13_argumentFits 7 = .ok (.iconst 1, 1) := by decide +kernel
theorem dX13_argumentFits_8 : decode cX13_argumentFits 8 = .ok (.goto 4, 3) := by decide +kernel
theorem dX13_argumentFits_11 : decode cX13_argumentFits 11 = .ok (.iconst 0, 1) := by decide +kernel
theorem dX13_argumentFits_12 : decode cX13_argumentFits 12 = .ok (.istore_n 2, 1) := by decide +kernel
theorem dX13_argumentFits_13 : decode cX13_argumentFits 13 = .ok (.iload_n 1, 1) := by decide +kernel
theorem dX13_argumentFits_14 : decode cX13_argumentFits 14 = .ok (.iconst 3, 1) := by decide +kernel
theorem dX13_argumentFits_15 : decode cX13_argumentFits 15 = .ok (.if_icmp .eq 31, 3) := by decide +kernel
theorem dX13_argumentFits_18 : decode cX13_argumentFits 18 = .ok (.iload_n 1, 1) := by decide +kernel
theorem dX13_argumentFits_19 : decode cX13_argumentFits 19 = .ok (.iconst 4, 1) := by decide +kernel
theorem dX13_argumentFits_20 : decode cX13_argumentFits 20 = .ok (.if_icmp .eq 26, 3) := by decide +kernel
theorem dX13_argumentFits_23 : decode cX13_argumentFits 23 = .ok (.iload_n 1, 1) := by decide +kernel
theorem dX13_argumentFits_24 : decode cX13_argumentFits 24 = .ok (.iconst 5, 1) := by decide +kernel
theorem dX13_argumentFits_25 : decode cX13_argumentFits 25 = .ok (.if_icmp .eq 21, 3) := by decide +kernel
theorem dX13_argumentFits_28 : decode cX13_argumentFits 28 = .ok (.iload_n 1, 1) := by decide +kernel
theorem dX13_argumentFits_29 : decode cX13_argumentFits 29 = .ok (.bipush 7, 2) := by decide +kernel
theorem dX13_argumentFits_31 : decode cX13_argumentFits 31 = .ok (.if_icmp .eq 15, 3) := by decide +kernel
theorem dX13_argumentFits_34 : decode cX13_argumentFits 34 = .ok (.iload_n 1, 1) := by decide +kernel
theorem dX13_argumentFits_35 : decode cX13_argumentFits 35 = .ok (.bipush 16, 2) := by decide +kernel
theorem dX13_argumentFits_37 : decode cX13_argumentFits 37 = .ok (.if_icmp .eq 9, 3) := by decide +kernel
theorem dX13_argumentFits_40 : decode cX13_argumentFits 40 = .ok (.iload_n 1, 1) := by decide +kernel
theorem dX13_argumentFits_41 : decode cX13_argumentFits 41 = .ok (.bipush 18, 2) := by decide +kernel
theorem dX13_argumentFits_43 : decode cX13_argumentFits 43 = .ok (.if_icmp .ne 5, 3) := by decide +kernel
theorem dX13_argumentFits_46 : decode cX13_argumentFits 46 = .ok (.iload_n 2, 1) := by decide +kernel
theorem dX13_argumentFits_47 : decode cX13_argumentFits 47 = .ok (.ireturn, 1) := by decide +kernel
theorem dX13_argumentFits_48 : decode cX13_argumentFits 48 = .ok (.iload_n 2, 1) := by decide +kernel
theorem dX13_argumentFits_49 : decode cX13_argumentFits 49 = .ok (.ifCond .eq 15, 3) := by decide +kernel
theorem dX13_argumentFits_52 : decode cX13_argumentFits 52 = .ok (.iload_n 1, 1) := by decide +kernel
theorem dX13_argumentFits_53 : decode cX13_argumentFits 53 = .ok (.bipush 22, 2) := by decide +kernel
theorem dX13_argumentFits_55 : decode cX13_argumentFits 55 = .ok (.if_icmp .ne 7, 3) := by decide +kernel
theorem dX13_argumentFits_58 : decode cX13_argumentFits 58 = .ok (.iconst 1, 1) := by decide +kernel
theorem dX13_argumentFits_59 : decode cX13_argumentFits 59 = .ok (.goto 4, 3) := by decide +kernel
theorem dX13_argumentFits_62 : decode cX13_argumentFits 62 = .ok (.iconst 0, 1) := by decide +kernel
theorem dX13_argumentFits_63 : decode cX13_argumentFits 63 = .ok (.ireturn, 1) := by decide +kernel
theorem dX13_argumentFits_64 : decode cX13_argumentFits 64 = .ok (.iload_n 1, 1) := by decide +kernel
theorem dX13_argumentFits_65 : decode cX13_argumentFits 65 = .ok (.iconst 3, 1) := by decide +kernel
theorem dX13_argumentFits_66 : decode cX13_argumentFits 66 = .ok (.if_icmp .ge 26, 3) := by decide +kernel
theorem dX13_argumentFits_69 : decode cX13_argumentFits 69 = .ok (.aload_n 0, 1) := by decide +kernel
theorem dX13_argumentFits_70 : decode cX13_argumentFits 70 = .ok (.aload_n 0, 1) := by decide +kernel
theorem dX13_argumentFits_71 : decode cX13_argumentFits 71 = .ok (.getfield 78, 3) := by decide +kernel
theorem dX13_argumentFits_74 : decode cX13_argumentFits 74 = .ok (.aload_n 0, 1) := by decide +kernel
theorem dX13_argumentFits_75 : decode cX13_argumentFits 75 = .ok (.getfield 75, 3) := by decide +kernel
theorem dX13_argumentFits_78 : decode cX13_argumentFits 78 = .ok (.invokevirtual 85, 3) := by decide +kernel
theorem dX13_argumentFits_81 : decode cX13_argumentFits 81 = .ok (.lconst 0, 1) := by decide +kernel
theorem dX13_argumentFits_82 : decode cX13_argumentFits 82 = .ok (.lcmp, 1) := by decide +kernel
theorem dX13_argumentFits_83 : decode cX13_argumentFits 83 = .ok (.ifCond .eq 7, 3) := by decide +kernel
theorem dX13_argumentFits_86 : decode cX13_argumentFits 86 = .ok (.iconst 1, 1) := by decide +kernel
theorem dX13_argumentFits_87 : decode cX13_argumentFits 87 = .ok (.goto 4, 3) := by decide +kernel
theorem dX13_argumentFits_90 : decode cX13_argumentFits 90 = .ok (.iconst 0, 1) := by decide +kernel
theorem dX13_argumentFits_91 : decode cX13_argumentFits 91 = .ok (.ireturn, 1) := by decide +kernel
theorem dX13_argumentFits_92 : decode cX13_argumentFits 92 = .ok (.iload_n 1, 1) := by decide +kernel
theorem dX13_argumentFits_93 : decode cX13_argumentFits 93 = .ok (.bipush 15, 2) := by decide +kernel
theorem dX13_argumentFits_95 : decode cX13_argumentFits 95 = .ok (.if_icmp .ne 40, 3) := by decide +kernel
theorem dX13_argumentFits_98 : decode cX13_argumentFits 98 = .ok (.aload_n 0, 1) := by decide +kernel
theorem dX13_argumentFits_99 : decode cX13_argumentFits 99 = .ok (.aload_n 0, 1) := by decide +kernel
theorem dX13_argumentFits_100 : decode cX13_argumentFits 100 = .ok (.getfield 78, 3) := by decide +kernel
theorem dX13_argumentFits_103 : decode cX13_argumentFits 103 = .ok (.invokevirtual 164, 3) := by decide +kernel
theorem dX13_argumentFits_106 : decode cX13_argumentFits 106 = .ok (.istore_n 3, 1) := by decide +kernel
theorem dX13_argumentFits_107 : decode cX13_argumentFits 107 = .ok (.iload_n 3, 1) := by decide +kernel
theorem dX13_argumentFits_108 : decode cX13_argumentFits 108 = .ok (.ifCond .le 25, 3) := by decide +kernel
theorem dX13_argumentFits_111 : decode cX13_argumentFits 111 = .ok (.iload_n 3, 1) := by decide +kernel
theorem dX13_argumentFits_112 : decode cX13_argumentFits 112 = .ok (.iconst 4, 1) := by decide +kernel
theorem dX13_argumentFits_113 : decode cX13_argumentFits 113 = .ok (.if_icmp .ge 20, 3) := by decide +kernel
theorem dX13_argumentFits_116 : decode cX13_argumentFits 116 = .ok (.aload_n 0, 1) := by decide +kernel
theorem dX13_argumentFits_117 : decode cX13_argumentFits 117 = .ok (.getfield 78, 3) := by decide +kernel
theorem dX13_argumentFits_120 : decode cX13_argumentFits 120 = .ok (.iload_n 3, 1) := by decide +kernel
theorem dX13_argumentFits_121 : decode cX13_argumentFits 121 = .ok (.iadd, 1) := by decide +kernel
theorem dX13_argumentFits_122 : decode cX13_argumentFits 122 = .ok (.aload_n 0, 1) := by decide +kernel
theorem dX13_argumentFits_123 : decode cX13_argumentFits 123 = .ok (.getfield 75, 3) := by decide +kernel
theorem dX13_argumentFits_126 : decode cX13_argumentFits 126 = .ok (.if_icmp .ne 7, 3) := by decide +kernel
theorem dX13_argumentFits_129 : decode cX13_argumentFits 129 = .ok (.iconst 1, 1) := by decide +kernel
theorem dX13_argumentFits_130 : decode cX13_argumentFits 130 = .ok (.goto 4, 3) := by decide +kernel
theorem dX13_argumentFits_133 : decode cX13_argumentFits 133 = .ok (.iconst 0, 1) := by decide +kernel
theorem dX13_argumentFits_134 : decode cX13_argumentFits 134 = .ok (.ireturn, 1) := by decide +kernel
theorem dX13_argumentFits_135 : decode cX13_argumentFits 135 = .ok (.iload_n 1, 1) := by decide +kernel
theorem dX13_argumentFits_136 : decode cX13_argumentFits 136 = .ok (.bipush 14, 2) := by decide +kernel
theorem dX13_argumentFits_138 : decode cX13_argumentFits 138 = .ok (.if_icmp .eq 26, 3) := by decide +kernel
theorem dX13_argumentFits_141 : decode cX13_argumentFits 141 = .ok (.iload_n 1, 1) := by decide +kernel
theorem dX13_argumentFits_142 : decode cX13_argumentFits 142 = .ok (.bipush 17, 2) := by decide +kernel
theorem dX13_argumentFits_144 : decode cX13_argumentFits 144 = .ok (.if_icmp .ne 13, 3) := by decide +kernel
theorem dX13_argumentFits_147 : decode cX13_argumentFits 147 = .ok (.aload_n 0, 1) := by decide +kernel
theorem dX13_argumentFits_148 : decode cX13_argumentFits 148 = .ok (.invokevirtual 171, 3) := by decide +kernel
theorem dX13_argumentFits_151 : decode cX13_argumentFits 151 = .ok (.ifCond .lt 17, 3) := by decide +kernel
theorem dX13_argumentFits_154 : decode cX13_argumentFits 154 = .ok (.goto 10, 3) := by decide +kernel
theorem dX13_argumentFits_157 : decode cX13_argumentFits 157 = .ok (.aload_n 0, 1) := by decide +kernel
theorem dX13_argumentFits_158 : decode cX13_argumentFits 158 = .ok (.invokevirtual 174, 3) := by decide +kernel
theorem dX13_argumentFits_161 : decode cX13_argumentFits 161 = .ok (.ifCond .eq 7, 3) := by decide +kernel
theorem dX13_argumentFits_164 : decode cX13_argumentFits 164 = .ok (.iconst 1, 1) := by decide +kernel
theorem dX13_argumentFits_165 : decode cX13_argumentFits 165 = .ok (.goto 4, 3) := by decide +kernel
theorem dX13_argumentFits_168 : decode cX13_argumentFits 168 = .ok (.iconst 0, 1) := by decide +kernel
theorem dX13_argumentFits_169 : decode cX13_argumentFits 169 = .ok (.ireturn, 1) := by decide +kernel
theorem dX13_enter_0 : decode cX13_enter 0 = .ok (.aload_n 0, 1) := by decide +kernel
theorem dX13_enter_1 : decode cX13_enter 1 = .ok (.getfield 123, 3) := by decide +kernel
theorem dX13_enter_4 : decode cX13_enter 4 = .ok (.ifCond .ne 10, 3) := by decide +kernel
theorem dX13_enter_7 : decode cX13_enter 7 = .ok (.aload_n 0, 1) := by decide +kernel
theorem dX13_enter_8 : decode cX13_enter 8 = .ok (.iconst 0, 1) := by decide +kernel
theorem dX13_enter_9 : decode cX13_enter 9 = .ok (.putfield 75, 3) := by decide +kernel
theorem dX13_enter_12 : decode cX13_enter 12 = .ok (.iconst (-1), 1) := by decide +kernel
theorem dX13_enter_13 : decode cX13_enter 13 = .ok (.ireturn, 1) := by decide +kernel
theorem dX13_enter_14 : decode cX13_enter 14 = .ok (.aload_n 0, 1) := by decide +kernel
theorem dX13_enter_15 : decode cX13_enter 15 = .ok (.aload_n 0, 1) := by decide +kernel
theorem dX13_enter_16 : decode cX13_enter 16 = .ok (.getfield 140, 3) := by decide +kernel
theorem dX13_enter_19 : decode cX13_enter 19 = .ok (.putfield 178, 3) := by decide +kernel
theorem dX13_enter_22 : decode cX13_enter 22 = .ok (.aload_n 0, 1) := by decide +kernel
theorem dX13_enter_23 : decode cX13_enter 23 = .ok (.aload_n 0, 1) := by decide +kernel
theorem dX13_enter_24 : decode cX13_enter 24 = .ok (.getfield 46, 3) := by decide +kernel
theorem dX13_enter_27 : decode cX13_enter 27 = .ok (.putfield 181, 3) := by decide +kernel
theorem dX13_enter_30 : decode cX13_enter 30 = .ok (.aload_n 0, 1) := by decide +kernel
theorem dX13_enter_31 : decode cX13_enter 31 = .ok (.aload_n 0, 1) := by decide +kernel
theorem dX13_enter_32 : decode cX13_enter 32 = .ok (.getfield 143, 3) := by decide +kernel
theorem dX13_enter_35 : decode cX13_enter 35 = .ok (.putfield 184, 3) := by decide +kernel
theorem dX13_enter_38 : decode cX13_enter 38 = .ok (.aload_n 0, 1) := by decide +kernel
theorem dX13_enter_39 : decode cX13_enter 39 = .ok (.lconst 0, 1) := by decide +kernel
theorem dX13_enter_40 : decode cX13_enter 40 = .ok (.putfield 140, 3) := by decide +kernel
theorem dX13_enter_43 : decode cX13_enter 43 = .ok (.aload_n 0, 1) := by decide +kernel
theorem dX13_enter_44 : decode cX13_enter 44 = .ok (.iconst (-1), 1) := by decide +kernel
theorem dX13_enter_45 : decode cX13_enter 45 = .ok (.putfield 46, 3) := by decide +kernel
theorem dX13_enter_48 : decode cX13_enter 48 = .ok (.aload_n 0, 1) := by decide +kernel
theorem dX13_enter_49 : decode cX13_enter 49 = .ok (.iconst 0, 1) := by decide +kernel
theorem dX13_enter_50 : decode cX13_enter 50 = .ok (.putfield 143, 3) := by decide +kernel
theorem dX13_enter_53 : decode cX13_enter 53 = .ok (.aload_n 0, 1) := by decide +kernel
theorem dX13_enter_54 : decode cX13_enter 54 = .ok (.invokevirtual 187, 3) := by decide +kernel
theorem dX13_enter_57 : decode cX13_enter 57 = .ok (.istore_n 1, 1) := by decide +kernel
theorem dX13_enter_58 : decode cX13_enter 58 = .ok (.aload_n 0, 1) := by decide +kernel
theorem dX13_enter_59 : decode cX13_enter 59 = .ok (.iconst 0, 1) := by decide +kernel
theorem dX13_enter_60 : decode cX13_enter 60 = .ok (.putfield 75, 3) := by decide +kernel
theorem dX13_enter_63 : decode cX13_enter 63 = .ok (.aload_n 0, 1) := by decide +kernel
theorem dX13_enter_64 : decode cX13_enter 64 = .ok (.iload_n 1, 1) := by decide +kernel
theorem dX13_enter_65 : decode cX13_enter 65 = .ok (.invokevirtual 149, 3) := by decide +kernel
theorem dX13_enter_68 : decode cX13_enter 68 = .ok (.ireturn, 1) := by decide +kernel
theorem dX13_run_0 : decode cX13_run 0 = .ok (.aload_n 0, 1) := by decide +kernel
theorem dX13_run_1 : decode cX13_run 1 = .ok (.invokevirtual 190, 3) := by decide +kernel
theorem dX13_run_4 : decode cX13_run 4 = .ok (.istore_n 1, 1) := by decide +kernel
theorem dX13_run_5 : decode cX13_run 5 = .ok (.iload_n 1, 1) := by decide +kernel
theorem dX13_run_6 : decode cX13_run 6 = .ok (.invokestatic 193, 3) := by decide +kernel
theorem dX13_run_9 : decode cX13_run 9 = .ok (.istore_n 2, 1) := by decide +kernel
theorem dX13_run_10 : decode cX13_run 10 = .ok (.iload_n 2, 1) := by decide +kernel
theorem dX13_run_11 : decode cX13_run 11 = .ok (.ifCond .ne 7, 3) := by decide +kernel
theorem dX13_run_14 : decode cX13_run 14 = .ok (.sipush 500, 3) := by decide +kernel
theorem dX13_run_17 : decode cX13_run 17 = .ok (.ireturn, 1) := by decide +kernel
theorem dX13_run_18 : decode cX13_run 18 = .ok (.aload_n 0, 1) := by decide +kernel
theorem dX13_run_19 : decode cX13_run 19 = .ok (.iload_n 2, 1) := by decide +kernel
theorem dX13_run_20 : decode cX13_run 20 = .ok (.invokevirtual 196, 3) := by decide +kernel
theorem dX13_run_23 : decode cX13_run 23 = .ok (.ifCond .ne 7, 3) := by decide +kernel
theorem dX13_run_26 : decode cX13_run 26 = .ok (.sipush 501, 3) := by decide +kernel
theorem dX13_run_29 : decode cX13_run 29 = .ok (.ireturn, 1) := by decide +kernel
theorem dX13_run_30 : decode cX13_run 30 = .ok (.aload_n 0, 1) := by decide +kernel
theorem dX13_run_31 : decode cX13_run 31 = .ok (.getfield 42, 3) := by decide +kernel
theorem dX13_run_34 : decode cX13_run 34 = .ok (.ifCond .ge 12, 3) := by decide +kernel
theorem dX13_run_37 : decode cX13_run 37 = .ok (.iload_n 2, 1) := by decide +kernel
theorem dX13_run_38 : decode cX13_run 38 = .ok (.iconst 4, 1) := by decide +kernel
theorem dX13_run_39 : decode cX13_run 39 = .ok (.if_icmp .le 7, 3) := by decide +kernel
theorem dX13_run_42 : decode cX13_run 42 = .ok (.sipush 530, 3) := by decide +kernel
theorem dX13_run_45 : decode cX13_run 45 = .ok (.ireturn, 1) := by decide +kernel
theorem dX13_run_46 : decode cX13_run 46 = .ok (.aload_n 0, 1) := by decide +kernel
theorem dX13_run_47 : decode cX13_run 47 = .ok (.getfield 199, 3) := by decide +kernel
theorem dX13_run_50 : decode cX13_run 50 = .ok (.ifCond .le 23, 3) := by decide +kernel
theorem dX13_run_53 : decode cX13_run 53 = .ok (.iload_n 2, 1) := by decide +kernel
theorem dX13_run_54 : decode cX13_run 54 = .ok (.iconst 3, 1) := by decide +kernel
theorem dX13_run_55 : decode cX13_run 55 = .ok (.if_icmp .eq 18, 3) := by decide +kernel
theorem dX13_run_58 : decode cX13_run 58 = .ok (.iload_n 2, 1) := by decide +kernel
theorem dX13_run_59 : decode cX13_run 59 = .ok (.iconst 4, 1) := by decide +kernel
theorem dX13_run_60 : decode cX13_run 60 = .ok (.if_icmp .eq 13, 3) := by decide +kernel
theorem dX13_run_63 : decode cX13_run 63 = .ok (.iload_n 2, 1) := by decide +kernel
theorem dX13_run_64 : decode cX13_run 64 = .ok (.bipush 18, 2) := by decide +kernel
theorem dX13_run_66 : decode cX13_run 66 = .ok (.if_icmp .eq 7, 3) := by decide +kernel
theorem dX13_run_69 : decode cX13_run 69 = .ok (.sipush 503, 3) := by decide +kernel
theorem dX13_run_72 : decode cX13_run 72 = .ok (.ireturn, 1) := by decide +kernel
theorem dX13_run_73 : decode cX13_run 73 = .ok (.iload_n 2, 1) := by decide +kernel
theorem dX13_run_74 : decode cX13_run 74 = .ok (.iconst 5, 1) := by decide +kernel
theorem dX13_run_75 : decode cX13_run 75 = .ok (.if_icmp .ge 11, 3) := by decide +kernel
theorem dX13_run_78 : decode cX13_run 78 = .ok (.aload_n 0, 1) := by decide +kernel
theorem dX13_run_79 : decode cX13_run 79 = .ok (.iload_n 2, 1) := by decide +kernel
theorem dX13_run_80 : decode cX13_run 80 = .ok (.invokevirtual 202, 3) := by decide +kernel
theorem dX13_run_83 : decode cX13_run 83 = .ok (.goto 36, 3) := by decide +kernel
theorem dX13_run_86 : decode cX13_run 86 = .ok (.iload_n 2, 1) := by decide +kernel
theorem dX13_run_87 : decode cX13_run 87 = .ok (.bipush 14, 2) := by decide +kernel
theorem dX13_run_89 : decode cX13_run 89 = .ok (.if_icmp .ge 11, 3) := by decide +kernel
theorem dX13_run_92 : decode cX13_run 92 = .ok (.aload_n 0, 1) := by decide +kernel
theorem dX13_run_93 : decode cX13_run 93 = .ok (.iload_n 2, 1) := by decide +kernel
theorem dX13_run_94 : decode cX13_run 94 = .ok (.invokevirtual 205, 3) := by decide +kernel
theorem dX13_run_97 : decode cX13_run 97 = .ok (.goto 22, 3) := by decide +kernel
theorem dX13_run_100 : decode cX13_run 100 = .ok (.iload_n 2, 1) := by decide +kernel
theorem dX13_run_101 : decode cX13_run 101 = .ok (.bipush 19, 2) := by decide +kernel
theorem dX13_run_103 : decode cX13_run 103 = .ok (.if_icmp .ge 11, 3) := by decide +kernel
theorem dX13_run_106 : decode cX13_run 106 = .ok (.aload_n 0, 1) := by decide +kernel
theorem dX13_run_107 : decode cX13_run 107 = .ok (.iload_n 2, 1) := by decide +kernel
theorem dX13_run_108 : decode cX13_run 108 = .ok (.invokevirtual 208, 3) := by decide +kernel
theorem dX13_run_111 : decode cX13_run 111 = .ok (.goto 8, 3) := by decide +kernel
theorem dX13_run_114 : decode cX13_run 114 = .ok (.aload_n 0, 1) := by decide +kernel
theorem dX13_run_115 : decode cX13_run 115 = .ok (.iload_n 2, 1) := by decide +kernel
theorem dX13_run_116 : decode cX13_run 116 = .ok (.invokevirtual 211, 3) := by decide +kernel
theorem dX13_run_119 : decode cX13_run 119 = .ok (.ireturn, 1) := by decide +kernel
theorem dX13_enterAs_0 : decode cX13_enterAs 0 = .ok (.iload_n 1, 1) := by decide +kernel
theorem dX13_enterAs_1 : decode cX13_enterAs 1 = .ok (.iconst 1, 1) := by decide +kernel
theorem dX13_enterAs_2 : decode cX13_enterAs 2 = .ok (.if_icmp .ne 28, 3) := by decide +kernel
theorem dX13_enterAs_5 : decode cX13_enterAs 5 = .ok (.aload_n 0, 1) := by decide +kernel
theorem dX13_enterAs_6 : decode cX13_enterAs 6 = .ok (.iconst (-1), 1) := by decide +kernel
theorem dX13_enterAs_7 : decode cX13_enterAs 7 = .ok (.putfield 42, 3) := by decide +kernel
theorem dX13_enterAs_10 : decode cX13_enterAs 10 = .ok (.aload_n 0, 1) := by decide +kernel
theorem dX13_enterAs_11 : decode cX13_enterAs 11 = .ok (.aload_n 0, 1) := by decide +kernel
theorem dX13_enterAs_12 : decode cX13_enterAs 12 = .ok (.aload_n 0, 1) := by decide +kernel
theorem dX13_enterAs_13 : decode cX13_enterAs 13 = .ok (.getfield 78, 3) := by decide +kernel
theorem dX13_enterAs_16 : decode cX13_enterAs 16 = .ok (.aload_n 0, 1) := by decide +kernel
theorem dX13_enterAs_17 : decode cX13_enterAs 17 = .ok (.getfield 75, 3) := by decide +kernel
theorem dX13_enterAs_20 : decode cX13_enterAs 20 = .ok (.invokevirtual 85, 3) := by decide +kernel
theorem dX13_enterAs_23 : decode cX13_enterAs 23 = .ok (.putfield 140, 3) := by decide +kernel
theorem dX13_enterAs_26 : decode cX13_enterAs 26 = .ok (.sipush 331, 3) := by decide +kernel
theorem dX13_enterAs_29 : decode cX13_enterAs 29 = .ok (.ireturn, 1) := by decide +kernel
theorem dX13_enterAs_30 : decode cX13_enterAs 30 = .ok (.iload_n 1, 1) := by decide +kernel
theorem dX13_enterAs_31 : decode cX13_enterAs 31 = .ok (.iconst 3, 1) := by decide +kernel
theorem dX13_enterAs_32 : decode cX13_enterAs 32 = .ok (.if_icmp .ne 22, 3) := by decide +kernel
theorem dX13_enterAs_35 : decode cX13_enterAs 35 = .ok (.aload_n 0, 1) := by decide +kernel
theorem dX13_enterAs_36 : decode cX13_enterAs 36 = .ok (.iconst 0, 1) := by decide +kernel
theorem dX13_enterAs_37 : decode cX13_enterAs 37 = .ok (.putfield 123, 3) := by decide +kernel
theorem dX13_enterAs_40 : decode cX13_enterAs 40 = .ok (.aload_n 0, 1) := by decide +kernel
theorem dX13_enterAs_41 : decode cX13_enterAs 41 = .ok (.iconst 0, 1) := by decide +kernel
theorem dX13_enterAs_42 : decode cX13_enterAs 42 = .ok (.putfield 199, 3) := by decide +kernel
theorem dX13_enterAs_45 : decode cX13_enterAs 45 = .ok (.aload_n 0, 1) := by decide +kernel
theorem dX13_enterAs_46 : decode cX13_enterAs 46 = .ok (.iconst 0, 1) := by decide +kernel
theorem dX13_enterAs_47 : decode cX13_enterAs 47 = .ok (.putfield 146, 3) := by decide +kernel
theorem dX13_enterAs_50 : decode cX13_enterAs 50 = .ok (.sipush 221, 3) := by decide +kernel
theorem dX13_enterAs_53 : decode cX13_enterAs 53 = .ok (.ireturn, 1) := by decide +kernel
theorem dX13_enterAs_54 : decode cX13_enterAs 54 = .ok (.iload_n 1, 1) := by decide +kernel
theorem dX13_enterAs_55 : decode cX13_enterAs 55 = .ok (.iconst 4, 1) := by decide +kernel
theorem dX13_enterAs_56 : decode cX13_enterAs 56 = .ok (.if_icmp .ne 7, 3) := by decide +kernel
theorem dX13_enterAs_59 : decode cX13_enterAs 59 = .ok (.sipush 200, 3) := by decide +kernel
theorem dX13_enterAs_62 : decode cX13_enterAs 62 = .ok (.ireturn, 1) := by decide +kernel
theorem dX13_enterAs_63 : decode cX13_enterAs 63 = .ok (.aload_n 0, 1) := by decide +kernel
theorem dX13_enterAs_64 : decode cX13_enterAs 64 = .ok (.getfield 178, 3) := by decide +kernel
theorem dX13_enterAs_67 : decode cX13_enterAs 67 = .ok (.lconst 0, 1) := by decide +kernel
theorem dX13_enterAs_68 : decode cX13_enterAs 68 = .ok (.lcmp, 1) := by decide +kernel
theorem dX13_enterAs_69 : decode cX13_enterAs 69 = .ok (.ifCond .ne 7, 3) := by decide +kernel
theorem dX13_enterAs_72 : decode cX13_enterAs 72 = .ok (.sipush 503, 3) := by decide +kernel
theorem dX13_enterAs_75 : decode cX13_enterAs 75 = .ok (.ireturn, 1) := by decide +kernel
theorem dX13_enterAs_76 : decode cX13_enterAs 76 = .ok (.aload_n 0, 1) := by decide +kernel
theorem dX13_enterAs_77 : decode cX13_enterAs 77 = .ok (.iconst (-1), 1) := by decide +kernel
theorem dX13_enterAs_78 : decode cX13_enterAs 78 = .ok (.putfield 42, 3) := by decide +kernel
theorem dX13_enterAs_81 : decode cX13_enterAs 81 = .ok (.iconst 0, 1) := by decide +kernel
theorem dX13_enterAs_82 : decode cX13_enterAs 82 = .ok (.istore_n 2, 1) := by decide +kernel
theorem dX13_enterAs_83 : decode cX13_enterAs 83 = .ok (.iload_n 2, 1) := by decide +kernel
theorem dX13_enterAs_84 : decode cX13_enterAs 84 = .ok (.aload_n 0, 1) := by decide +kernel
theorem dX13_enterAs_85 : decode cX13_enterAs 85 = .ok (.getfield 116, 3) := by decide +kernel
theorem dX13_enterAs_88 : decode cX13_enterAs 88 = .ok (.if_icmp .ge 62, 3) := by decide +kernel
theorem dX13_enterAs_91 : decode cX13_enterAs 91 = .ok (.aload_n 0, 1) := by decide +kernel
theorem dX13_enterAs_92 : decode cX13_enterAs 92 = .ok (.aload_n 0, 1) := by decide +kernel
theorem dX13_enterAs_93 : decode cX13_enterAs 93 = .ok (.getfield 26, 3) := by decide +kernel
theorem dX13_enterAs_96 : decode cX13_enterAs 96 = .ok (.iload_n 2, 1) := by decide +kernel
theorem dX13_enterAs_97 : decode cX13_enterAs 97 = .ok (.laload, 1) := by decide +kernel
theorem dX13_enterAs_98 : decode cX13_enterAs 98 = .ok (.aload_n 0, 1) := by decide +kernel
theorem dX13_enterAs_99 : decode cX13_enterAs 99 = .ok (.getfield 178, 3) := by decide +kernel
theorem dX13_enterAs_102 : decode cX13_enterAs 102 = .ok (.lcmp, 1) := by decide +kernel
theorem dX13_enterAs_103 : decode cX13_enterAs 103 = .ok (.ifCond .ne 34, 3) := by decide +kernel
theorem dX13_enterAs_106 : decode cX13_enterAs 106 = .ok (.aload_n 0, 1) := by decide +kernel
theorem dX13_enterAs_107 : decode cX13_enterAs 107 = .ok (.getfield 29, 3) := by decide +kernel
theorem dX13_enterAs_110 : decode cX13_enterAs 110 = .ok (.iload_n 2, 1) := by decide +kernel
theorem dX13_enterAs_111 : decode cX13_enterAs 111 = .ok (.laload, 1) := by decide +kernel
theorem dX13_enterAs_112 : decode cX13_enterAs 112 = .ok (.aload_n 0, 1) := by decide +kernel
theorem dX13_enterAs_113 : decode cX13_enterAs 113 = .ok (.aload_n 0, 1) := by decide +kernel
theorem dX13_enterAs_114 : decode cX13_enterAs 114 = .ok (.getfield 78, 3) := by decide +kernel
theorem dX13_enterAs_117 : decode cX13_enterAs 117 = .ok (.aload_n 0, 1) := by decide +kernel
theorem dX13_enterAs_118 : decode cX13_enterAs 118 = .ok (.getfield 75, 3) := by decide +kernel
theorem dX13_enterAs_121 : decode cX13_enterAs 121 = .ok (.invokevirtual 85, 3) := by decide +kernel
theorem dX13_enterAs_124 : decode cX13_enterAs 124 = .ok (.lcmp, 1) := by decide +kernel
theorem dX13_enterAs_125 : decode cX13_enterAs 125 = .ok (.ifCond .ne 12, 3) := by decide +kernel
theorem dX13_enterAs_128 : decode cX13_enterAs 128 = .ok (.aload_n 0, 1) := by decide +kernel
theorem dX13_enterAs_129 : decode cX13_enterAs 129 = .ok (.getfield 32, 3) := by decide +kernel
theorem dX13_enterAs_132 : decode cX13_enterAs 132 = .ok (.iload_n 2, 1) := by decide +kernel
theorem dX13_enterAs_133 : decode cX13_enterAs 133 = .ok (.iaload, 1) := by decide +kernel
theorem dX13_enterAs_134 : decode cX13_enterAs 134 = .ok (.goto 7, 3) := by decide +kernel
theorem dX13_enterAs_137 : decode cX13_enterAs 137 = .ok (.aload_n 0, 1) := by decide +kernel
theorem dX13_enterAs_138 : decode cX13_enterAs 138 = .ok (.getfield 42, 3) := by decide +kernel
theorem dX13_enterAs_141 : decode cX13_enterAs 141 = .ok (.putfield 42, 3) := by decide +kernel
theorem dX13_enterAs_144 : decode cX13_enterAs 144 = .ok (.iinc 2 1, 3) := by decide +kernel
theorem dX13_enterAs_147 : decode cX13_enterAs 147 = .ok (.goto (-64), 3) := by decide +kernel
theorem dX13_enterAs_150 : decode cX13_enterAs 150 = .ok (.aload_n 0, 1) := by decide +kernel
theorem dX13_enterAs_151 : decode cX13_enterAs 151 = .ok (.aload_n 0, 1) := by decide +kernel
theorem dX13_enterAs_152 : decode cX13_enterAs 152 = .ok (.getfield 42, 3) := by decide +kernel
theorem dX13_enterAs_155 : decode cX13_enterAs 155 = .ok (.putfield 93, 3) := by decide +kernel
theorem dX13_enterAs_158 : decode cX13_enterAs 158 = .ok (.aload_n 0, 1) := by decide +kernel
theorem dX13_enterAs_159 : decode cX13_enterAs 159 = .ok (.getfield 42, 3) := by decide +kernel
theorem dX13_enterAs_162 : decode cX13_enterAs 162 = .ok (.ifCond .ge 9, 3) := by decide +kernel
theorem dX13_enterAs_165 : decode cX13_enterAs 165 = .ok (.sipush 530, 3) := by decide +kernel
theorem dX13_enterAs_168 : decode cX13_enterAs 168 = .ok (.goto 6, 3) := by decide +kernel
theorem dX13_enterAs_171 : decode cX13_enterAs 171 = .ok (.sipush 230, 3) := by decide +kernel
theorem dX13_enterAs_174 : decode cX13_enterAs 174 = .ok (.ireturn, 1) := by decide +kernel
theorem dX13_write_0 : decode cX13_write 0 = .ok (.aload_n 0, 1) := by decide +kernel
theorem dX13_write_1 : decode cX13_write 1 = .ok (.getfield 39, 3) := by decide +kernel
theorem dX13_write_4 : decode cX13_write 4 = .ok (.aload_n 0, 1) := by decide +kernel
theorem dX13_write_5 : decode cX13_write 5 = .ok (.getfield 134, 3) := by decide +kernel
theorem dX13_write_8 : decode cX13_write 8 = .ok (.iload_n 1, 1) := by decide +kernel
theorem dX13_write_9 : decode cX13_write 9 = .ok (.i2c, 1) := by decide +kernel
theorem dX13_write_10 : decode cX13_write 10 = .ok (.castore, 1) := by decide +kernel
theorem dX13_write_11 : decode cX13_write 11 = .ok (.aload_n 0, 1) := by decide +kernel
theorem dX13_write_12 : decode cX13_write 12 = .ok (.aload_n 0, 1) := by decide +kernel
theorem dX13_write_13 : decode cX13_write 13 = .ok (.getfield 134, 3) := by decide +kernel
theorem dX13_write_16 : decode cX13_write 16 = .ok (.iconst 1, 1) := by decide +kernel
theorem dX13_write_17 : decode cX13_write 17 = .ok (.iadd, 1) := by decide +kernel
theorem dX13_write_18 : decode cX13_write 18 = .ok (.putfield 134, 3) := by decide +kernel
theorem dX13_write_21 : decode cX13_write 21 = .ok (.return_, 1) := by decide +kernel
theorem dX13_writeWay_0 : decode cX13_writeWay 0 = .ok (.aload_n 0, 1) := by decide +kernel
theorem dX13_writeWay_1 : decode cX13_writeWay 1 = .ok (.iconst 0, 1) := by decide +kernel
theorem dX13_writeWay_2 : decode cX13_writeWay 2 = .ok (.putfield 134, 3) := by decide +kernel
theorem dX13_writeWay_5 : decode cX13_writeWay 5 = .ok (.aload_n 0, 1) := by decide +kernel
theorem dX13_writeWay_6 : decode cX13_writeWay 6 = .ok (.getfield 42, 3) := by decide +kernel
theorem dX13_writeWay_9 : decode cX13_writeWay 9 = .ok (.istore_n 2, 1) := by decide +kernel
theorem dX13_writeWay_10 : decode cX13_writeWay 10 = .ok (.iload_n 1, 1) := by decide +kernel
theorem dX13_writeWay_11 : decode cX13_writeWay 11 = .ok (.aload_n 0, 1) := by decide +kernel
theorem dX13_writeWay_12 : decode cX13_writeWay 12 = .ok (.getfield 42, 3) := by decide +kernel
theorem dX13_writeWay_15 : decode cX13_writeWay 15 = .ok (.if_icmp .ne 9, 3) := by decide +kernel
theorem dX13_writeWay_18 : decode cX13_writeWay 18 = .ok (.aload_n 0, 1) := by decide +kernel
theorem dX13_writeWay_19 : decode cX13_writeWay 19 = .ok (.bipush 47, 2) := by decide +kernel
theorem dX13_writeWay_21 : decode cX13_writeWay 21 = .ok (.invokevirtual 214, 3) := by decide +kernel
theorem dX13_writeWay_24 : decode cX13_writeWay 24 = .ok (.iload_n 2, 1) := by decide +kernel
theorem dX13_writeWay_25 : decode cX13_writeWay 25 = .ok (.iload_n 1, 1) := by decide +kernel
theorem dX13_writeWay_26 : decode cX13_writeWay 26 = .ok (.if_icmp .eq 92, 3) := by decide +kernel
theorem dX13_writeWay_29 : decode cX13_writeWay 29 = .ok (.iload_n 1, 1) := by decide +kernel
theorem dX13_writeWay_30 : decode cX13_writeWay 30 = .ok (.istore_n 3, 1) := by decide +kernel
theorem dX13_writeWay_31 : decode cX13_writeWay 31 = .ok (.aload_n 0, 1) := by decide +kernel
theorem dX13_writeWay_32 : decode cX13_writeWay 32 = .ok (.getfield 13, 3) := by decide +kernel
theorem dX13_writeWay_35 : decode cX13_writeWay 35 = .ok (.iload_n 3, 1) := by decide +kernel
theorem dX13_writeWay_36 : decode cX13_writeWay 36 = .ok (.iaload, 1) := by decide +kernel
theorem dX13_writeWay_37 : decode cX13_writeWay 37 = .ok (.iload_n 2, 1) := by decide +kernel
theorem dX13_writeWay_38 : decode cX13_writeWay 38 = .ok (.if_icmp .eq 13, 3) := by decide +kernel
theorem dX13_writeWay_41 : decode cX13_writeWay 41 = .ok (.aload_n 0, 1) := by decide +kernel
theorem dX13_writeWay_42 : decode cX13_writeWay 42 = .ok (.getfield 13, 3) := by decide +kernel
theorem dX13_writeWay_45 : decode cX13_writeWay 45 = .ok (.iload_n 3, 1) := by decide +kernel
theorem dX13_writeWay_46 : decode cX13_writeWay 46 = .ok (.iaload, 1) := by decide +kernel
theorem dX13_writeWay_47 : decode cX13_writeWay 47 = .ok (.istore_n 3, 1) := by decide +kernel
theorem dX13_writeWay_48 : decode cX13_writeWay 48 = .ok (.goto (-17), 3) := by decide +kernel
theorem dX13_writeWay_51 : decode cX13_writeWay 51 = .ok (.aload_n 0, 1) := by decide +kernel
theorem dX13_writeWay_52 : decode cX13_writeWay 52 = .ok (.bipush 47, 2) := by decide +kernel
theorem dX13_writeWay_54 : decode cX13_writeWay 54 = .ok (.invokevirtual 214, 3) := by decide +kernel
theorem dX13_writeWay_57 : decode cX13_writeWay 57 = .ok (.iconst 5, 1) := by decide +kernel
theorem dX13_writeWay_58 : decode cX13_writeWay 58 = .ok (.istore 4, 2) := by decide +kernel
theorem dX13_writeWay_60 : decode cX13_writeWay 60 = .ok (.iload 4, 2) := by decide +kernel
theorem dX13_writeWay_62 : decode cX13_writeWay 62 = .ok (.ifCond .lt 51, 3) := by decide +kernel
theorem dX13_writeWay_65 : decode cX13_writeWay 65 = .ok (.aload_n 0, 1) := by decide +kernel
theorem dX13_writeWay_66 : decode cX13_writeWay 66 = .ok (.getfield 16, 3) := by decide +kernel
theorem dX13_writeWay_69 : decode cX13_writeWay 69 = .ok (.iload_n 3, 1) := by decide +kernel
theorem dX13_writeWay_70 : decode cX13_writeWay 70 = .ok (.laload, 1) := by decide +kernel
theorem dX13_writeWay_71 : decode cX13_writeWay 71 = .ok (.bipush 8, 2) := by decide +kernel
theorem dX13_writeWay_73 : decode cX13_writeWay 73 = .ok (.iload 4, 2) := by decide +kernel
theorem dX13_writeWay_75 : decode cX13_writeWay 75 = .ok (.imul, 1) := by decide +kernel
theorem dX13_writeWay_76 : decode cX13_writeWay 76 = .ok (.lshr, 1) := by decide +kernel
theorem dX13_writeWay_77 : decode cX13_writeWay 77 = .ok (.ldc2_w 110, 3) := by decide +kernel
theorem dX13_writeWay_80 : decode cX13_writeWay 80 = .ok (.land, 1) := by decide +kernel
theorem dX13_writeWay_81 : decode cX13_writeWay 81 = .ok (.lconst 0, 1) := by decide +kernel
theorem dX13_writeWay_82 : decode cX13_writeWay 82 = .ok (.lcmp, 1) := by decide +kernel
theorem dX13_writeWay_83 : decode cX13_writeWay 83 = .ok (.ifCond .eq 24, 3) := by decide +kernel
theorem dX13_writeWay_86 : decode cX13_writeWay 86 = .ok (.aload_n 0, 1) := by decide +kernel
theorem dX13_writeWay_87 : decode cX13_writeWay 87 = .ok (.aload_n 0, 1) := by decide +kernel
theorem dX13_writeWay_88 : decode cX13_writeWay 88 = .ok (.getfield 16, 3) := by decide +kernel
theorem dX13_writeWay_91 : decode cX13_writeWay 91 = .ok (.iload_n 3, 1) := by decide +kernel
theorem dX13_writeWay_92 : decode cX13_writeWay 92 = .ok (.laload, 1) := by decide +kernel
theorem dX13_writeWay_93 : decode cX13_writeWay 93 = .ok (.bipush 8, 2) := by decide +kernel
theorem dX13_writeWay_95 : decode cX13_writeWay 95 = .ok (.iload 4, 2) := by decide +kernel
theorem dX13_writeWay_97 : decode cX13_writeWay 97 = .ok (.imul, 1) := by decide +kernel
theorem dX13_writeWay_98 : decode cX13_writeWay 98 = .ok (.lshr, 1) := by decide +kernel
theorem dX13_writeWay_99 : decode cX13_writeWay 99 = .ok (.ldc2_w 110, 3) := by decide +kernel
theorem dX13_writeWay_102 : decode cX13_writeWay 102 = .ok (.land, 1) := by decide +kernel
theorem dX13_writeWay_103 : decode cX13_writeWay 103 = .ok (.l2i, 1) := by decide +kernel
theorem dX13_writeWay_104 : decode cX13_writeWay 104 = .ok (.invokevirtual 214, 3) := by decide +kernel
theorem dX13_writeWay_107 : decode cX13_writeWay 107 = .ok (.iinc 4 (-1), 3) := by decide +kernel
theorem dX13_writeWay_110 : decode cX13_writeWay 110 = .ok (.goto (-50), 3) := by decide +kernel
theorem dX13_writeWay_113 : decode cX13_writeWay 113 = .ok (.iload_n 3, 1) := by decide +kernel
theorem dX13_writeWay_114 : decode cX13_writeWay 114 = .ok (.istore_n 2, 1) := by decide +kernel
theorem dX13_writeWay_115 : decode cX13_writeWay 115 = .ok (.goto (-91), 3) := by decide +kernel
theorem dX13_writeWay_118 : decode cX13_writeWay 118 = .ok (.return_, 1) := by decide +kernel
theorem dX13_makeDirectory_0 : decode cX13_makeDirectory 0 = .ok (.aload_n 0, 1) := by decide +kernel
theorem dX13_makeDirectory_1 : decode cX13_makeDirectory 1 = .ok (.invokevirtual 119, 3) := by decide +kernel
theorem dX13_makeDirectory_4 : decode cX13_makeDirectory 4 = .ok (.istore_n 1, 1) := by decide +kernel
theorem dX13_makeDirectory_5 : decode cX13_makeDirectory 5 = .ok (.aload_n 0, 1) := by decide +kernel
theorem dX13_makeDirectory_6 : decode cX13_makeDirectory 6 = .ok (.invokevirtual 218, 3) := by decide +kernel
theorem dX13_makeDirectory_9 : decode cX13_makeDirectory 9 = .ok (.ifCond .eq 24, 3) := by decide +kernel
theorem dX13_makeDirectory_12 : decode cX13_makeDirectory 12 = .ok (.aload_n 0, 1) := by decide +kernel
theorem dX13_makeDirectory_13 : decode cX13_makeDirectory 13 = .ok (.aload_n 0, 1) := by decide +kernel
theorem dX13_makeDirectory_14 : decode cX13_makeDirectory 14 = .ok (.getfield 107, 3) := by decide +kernel
theorem dX13_makeDirectory_17 : decode cX13_makeDirectory 17 = .ok (.aload_n 0, 1) := by decide +kernel
theorem dX13_makeDirectory_18 : decode cX13_makeDirectory 18 = .ok (.getfield 100, 3) := by decide +kernel
theorem dX13_makeDirectory_21 : decode cX13_makeDirectory 21 = .ok (.invokevirtual 89, 3) := by decide +kernel
theorem dX13_makeDirectory_24 : decode cX13_makeDirectory 24 = .ok (.ifCond .ge 9, 3) := by decide +kernel
theorem dX13_makeDirectory_27 : decode cX13_makeDirectory 27 = .ok (.iload_n 1, 1) := by decide +kernel
theorem dX13_makeDirectory_28 : decode cX13_makeDirectory 28 = .ok (.bipush 24, 2) := by decide +kernel
theorem dX13_makeDirectory_30 : decode cX13_makeDirectory 30 = .ok (.if_icmp .ne 7, 3) := by decide +kernel
theorem dX13_makeDirectory_33 : decode cX13_makeDirectory 33 = .ok (.sipush 550, 3) := by decide +kernel
theorem dX13_makeDirectory_36 : decode cX13_makeDirectory 36 = .ok (.ireturn, 1) := by decide +kernel
theorem dX13_makeDirectory_37 : decode cX13_makeDirectory 37 = .ok (.aload_n 0, 1) := by decide +kernel
theorem dX13_makeDirectory_38 : decode cX13_makeDirectory 38 = .ok (.iload_n 1, 1) := by decide +kernel
theorem dX13_makeDirectory_39 : decode cX13_makeDirectory 39 = .ok (.iconst 1, 1) := by decide +kernel
theorem dX13_makeDirectory_40 : decode cX13_makeDirectory 40 = .ok (.aload_n 0, 1) := by decide +kernel
theorem dX13_makeDirectory_41 : decode cX13_makeDirectory 41 = .ok (.getfield 107, 3) := by decide +kernel
theorem dX13_makeDirectory_44 : decode cX13_makeDirectory 44 = .ok (.aload_n 0, 1) := by decide +kernel
theorem dX13_makeDirectory_45 : decode cX13_makeDirectory 45 = .ok (.getfield 100, 3) := by decide +kernel
theorem dX13_makeDirectory_48 : decode cX13_makeDirectory 48 = .ok (.invokevirtual 127, 3) := by decide +kernel
theorem dX13_makeDirectory_51 : decode cX13_makeDirectory 51 = .ok (.aload_n 0, 1) := by decide +kernel
theorem dX13_makeDirectory_52 : decode cX13_makeDirectory 52 = .ok (.iload_n 1, 1) := by decide +kernel
theorem dX13_makeDirectory_53 : decode cX13_makeDirectory 53 = .ok (.invokevirtual 221, 3) := by decide +kernel
theorem dX13_makeDirectory_56 : decode cX13_makeDirectory 56 = .ok (.sipush 257, 3) := by decide +kernel
theorem dX13_makeDirectory_59 : decode cX13_makeDirectory 59 = .ok (.ireturn, 1) := by decide +kernel
theorem dX13_sizeTold_0 : decode cX13_sizeTold 0 = .ok (.aload_n 0, 1) := by decide +kernel
theorem dX13_sizeTold_1 : decode cX13_sizeTold 1 = .ok (.iconst 0, 1) := by decide +kernel
theorem dX13_sizeTold_2 : decode cX13_sizeTold 2 = .ok (.putfield 134, 3) := by decide +kernel
theorem dX13_sizeTold_5 : decode cX13_sizeTold 5 = .ok (.aload_n 0, 1) := by decide +kernel
theorem dX13_sizeTold_6 : decode cX13_sizeTold 6 = .ok (.getfield 20, 3) := by decide +kernel
theorem dX13_sizeTold_9 : decode cX13_sizeTold 9 = .ok (.iload_n 1, 1) := by decide +kernel
theorem dX13_sizeTold_10 : decode cX13_sizeTold 10 = .ok (.iaload, 1) := by decide +kernel
theorem dX13_sizeTold_11 : decode cX13_sizeTold 11 = .ok (.istore_n 2, 1) := by decide +kernel
theorem dX13_sizeTold_12 : decode cX13_sizeTold 12 = .ok (.iload_n 2, 1) := by decide +kernel
theorem dX13_sizeTold_13 : decode cX13_sizeTold 13 = .ok (.bipush 9, 2) := by decide +kernel
theorem dX13_sizeTold_15 : decode cX13_sizeTold 15 = .ok (.if_icmp .le 14, 3) := by decide +kernel
theorem dX13_sizeTold_18 : decode cX13_sizeTold 18 = .ok (.aload_n 0, 1) := by decide +kernel
theorem dX13_sizeTold_19 : decode cX13_sizeTold 19 = .ok (.bipush 48, 2) := by decide +kernel
theorem dX13_sizeTold_21 : decode cX13_sizeTold 21 = .ok (.iload_n 2, 1) := by decide +kernel
theorem dX13_sizeTold_22 : decode cX13_sizeTold 22 = .ok (.bipush 10, 2) := by decide +kernel
theorem dX13_sizeTold_24 : decode cX13_sizeTold 24 = .ok (.idiv, 1) := by decide +kernel
theorem dX13_sizeTold_25 : decode cX13_sizeTold 25 = .ok (.iadd, 1) := by decide +kernel
theorem dX13_sizeTold_26 : decode cX13_sizeTold 26 = .ok (.invokevirtual 214, 3) := by decide +kernel
theorem dX13_sizeTold_29 : decode cX13_sizeTold 29 = .ok (.aload_n 0, 1) := by decide +kernel
theorem dX13_sizeTold_30 : decode cX13_sizeTold 30 = .ok (.bipush 48, 2) := by decide +kernel
theorem dX13_sizeTold_32 : decode cX13_sizeTold 32 = .ok (.iload_n 2, 1) := by decide +kernel
theorem dX13_sizeTold_33 : decode cX13_sizeTold 33 = .ok (.bipush 10, 2) := by decide +kernel
theorem dX13_sizeTold_35 : decode cX13_sizeTold 35 = .ok (.irem, 1) := by decide +kernel
theorem dX13_sizeTold_36 : decode cX13_sizeTold 36 = .ok (.iadd, 1) := by decide +kernel
theorem dX13_sizeTold_37 : decode cX13_sizeTold 37 = .ok (.invokevirtual 214, 3) := by decide +kernel
theorem dX13_sizeTold_40 : decode cX13_sizeTold 40 = .ok (.sipush 213, 3) := by decide +kernel
theorem dX13_sizeTold_43 : decode cX13_sizeTold 43 = .ok (.ireturn, 1) := by decide +kernel
theorem dX13_liesIn_0 : decode cX13_liesIn 0 = .ok (.iload_n 1, 1) := by decide +kernel
theorem dX13_liesIn_1 : decode cX13_liesIn 1 = .ok (.istore_n 3, 1) := by decide +kernel
theorem dX13_liesIn_2 : decode cX13_liesIn 2 = .ok (.iload_n 3, 1) := by decide +kernel
theorem dX13_liesIn_3 : decode cX13_liesIn 3 = .ok (.iload_n 2, 1) := by decide +kernel
theorem dX13_liesIn_4 : decode cX13_liesIn 4 = .ok (.if_icmp .eq 23, 3) := by decide +kernel
theorem dX13_liesIn_7 : decode cX13_liesIn 7 = .ok (.aload_n 0, 1) := by decide +kernel
theorem dX13_liesIn_8 : decode cX13_liesIn 8 = .ok (.getfield 13, 3) := by decide +kernel
theorem dX13_liesIn_11 : decode cX13_liesIn 11 = .ok (.iload_n 3, 1) := by decide +kernel
theorem dX13_liesIn_12 : decode cX13_liesIn 12 = .ok (.iaload, 1) := by decide +kernel
theorem dX13_liesIn_13 : decode cX13_liesIn 13 = .ok (.iload_n 3, 1) := by decide +kernel
theorem dX13_liesIn_14 : decode cX13_liesIn 14 = .ok (.if_icmp .eq 13, 3) := by decide +kernel
theorem dX13_liesIn_17 : decode cX13_liesIn 17 = .ok (.aload_n 0, 1) := by decide +kernel
theorem dX13_liesIn_18 : decode cX13_liesIn 18 = .ok (.getfield 13, 3) := by decide +kernel
theorem dX13_liesIn_21 : decode cX13_liesIn 21 = .ok (.iload_n 3, 1) := by decide +kernel
theorem dX13_liesIn_22 : decode cX13_liesIn 22 = .ok (.iaload, 1) := by decide +kernel
theorem dX13_liesIn_23 : decode cX13_liesIn 23 = .ok (.istore_n 3, 1) := by decide +kernel
theorem dX13_liesIn_24 : decode cX13_liesIn 24 = .ok (.goto (-22), 3) := by decide +kernel
theorem dX13_liesIn_27 : decode cX13_liesIn 27 = .ok (.iload_n 3, 1) := by decide +kernel
theorem dX13_liesIn_28 : decode cX13_liesIn 28 = .ok (.iload_n 2, 1) := by decide +kernel
theorem dX13_liesIn_29 : decode cX13_liesIn 29 = .ok (.if_icmp .ne 7, 3) := by decide +kernel
theorem dX13_liesIn_32 : decode cX13_liesIn 32 = .ok (.iconst 1, 1) := by decide +kernel
theorem dX13_liesIn_33 : decode cX13_liesIn 33 = .ok (.goto 4, 3) := by decide +kernel
theorem dX13_liesIn_36 : decode cX13_liesIn 36 = .ok (.iconst 0, 1) := by decide +kernel
theorem dX13_liesIn_37 : decode cX13_liesIn 37 = .ok (.ireturn, 1) := by decide +kernel
theorem dX13_rename_0 : decode cX13_rename 0 = .ok (.aload_n 0, 1) := by decide +kernel
theorem dX13_rename_1 : decode cX13_rename 1 = .ok (.getfield 181, 3) := by decide +kernel
theorem dX13_rename_4 : decode cX13_rename 4 = .ok (.istore_n 1, 1) := by decide +kernel
theorem dX13_rename_5 : decode cX13_rename 5 = .ok (.iload_n 1, 1) := by decide +kernel
theorem dX13_rename_6 : decode cX13_rename 6 = .ok (.ifCond .ge 7, 3) := by decide +kernel
theorem dX13_rename_9 : decode cX13_rename 9 = .ok (.sipush 503, 3) := by decide +kernel
theorem dX13_rename_12 : decode cX13_rename 12 = .ok (.ireturn, 1) := by decide +kernel
theorem dX13_rename_13 : decode cX13_rename 13 = .ok (.aload_n 0, 1) := by decide +kernel
theorem dX13_rename_14 : decode cX13_rename 14 = .ok (.invokevirtual 218, 3) := by decide +kernel
theorem dX13_rename_17 : decode cX13_rename 17 = .ok (.ifCond .eq 40, 3) := by decide +kernel
theorem dX13_rename_20 : decode cX13_rename 20 = .ok (.aload_n 0, 1) := by decide +kernel
theorem dX13_rename_21 : decode cX13_rename 21 = .ok (.aload_n 0, 1) := by decide +kernel
theorem dX13_rename_22 : decode cX13_rename 22 = .ok (.getfield 107, 3) := by decide +kernel
theorem dX13_rename_25 : decode cX13_rename 25 = .ok (.aload_n 0, 1) := by decide +kernel
theorem dX13_rename_26 : decode cX13_rename 26 = .ok (.getfield 100, 3) := by decide +kernel
theorem dX13_rename_29 : decode cX13_rename 29 = .ok (.invokevirtual 89, 3) := by decide +kernel
theorem dX13_rename_32 : decode cX13_rename 32 = .ok (.ifCond .ge 25, 3) := by decide +kernel
theorem dX13_rename_35 : decode cX13_rename 35 = .ok (.aload_n 0, 1) := by decide +kernel
theorem dX13_rename_36 : decode cX13_rename 36 = .ok (.getfield 7, 3) := by decide +kernel
theorem dX13_rename_39 : decode cX13_rename 39 = .ok (.iload_n 1, 1) := by decide +kernel
theorem dX13_rename_40 : decode cX13_rename 40 = .ok (.iaload, 1) := by decide +kernel
theorem dX13_rename_41 : decode cX13_rename 41 = .ok (.iconst 1, 1) := by decide +kernel
theorem dX13_rename_42 : decode cX13_rename 42 = .ok (.if_icmp .ne 19, 3) := by decide +kernel
theorem dX13_rename_45 : decode cX13_rename 45 = .ok (.aload_n 0, 1) := by decide +kernel
theorem dX13_rename_46 : decode cX13_rename 46 = .ok (.aload_n 0, 1) := by decide +kernel
theorem dX13_rename_47 : decode cX13_rename 47 = .ok (.getfield 107, 3) := by decide +kernel
theorem dX13_rename_50 : decode cX13_rename 50 = .ok (.iload_n 1, 1) := by decide +kernel
theorem dX13_rename_51 : decode cX13_rename 51 = .ok (.invokevirtual 224, 3) := by decide +kernel
theorem dX13_rename_54 : decode cX13_rename 54 = .ok (.ifCond .eq 7, 3) := by decide +kernel
theorem dX13_rename_57 : decode cX13_rename 57 = .ok (.sipush 553, 3) := by decide +kernel
theorem dX13_rename_60 : decode cX13_rename 60 = .ok (.ireturn, 1) := by decide +kernel
theorem dX13_rename_61 : decode cX13_rename 61 = .ok (.aload_n 0, 1) := by decide +kernel
theorem dX13_rename_62 : decode cX13_rename 62 = .ok (.getfield 13, 3) := by decide +kernel
theorem dX13_rename_65 : decode cX13_rename 65 = .ok (.iload_n 1, 1) := by decide +kernel
theorem dX13_rename_66 : decode cX13_rename 66 = .ok (.aload_n 0, 1) := by decide +kernel
theorem dX13_rename_67 : decode cX13_rename 67 = .ok (.getfield 107, 3) := by decide +kernel
theorem dX13_rename_70 : decode cX13_rename 70 = .ok (.iastore, 1) := by decide +kernel
theorem dX13_rename_71 : decode cX13_rename 71 = .ok (.aload_n 0, 1) := by decide +kernel
theorem dX13_rename_72 : decode cX13_rename 72 = .ok (.getfield 16, 3) := by decide +kernel
theorem dX13_rename_75 : decode cX13_rename 75 = .ok (.iload_n 1, 1) := by decide +kernel
theorem dX13_rename_76 : decode cX13_rename 76 = .ok (.aload_n 0, 1) := by decide +kernel
theorem dX13_rename_77 : decode cX13_rename 77 = .ok (.getfield 100, 3) := by decide +kernel
theorem dX13_rename_80 : decode cX13_rename 80 = .ok (.lastore, 1) := by decide +kernel
theorem dX13_rename_81 : decode cX13_rename 81 = .ok (.sipush 250, 3) := by decide +kernel
theorem dX13_rename_84 : decode cX13_rename 84 = .ok (.ireturn, 1) := by decide +kernel
theorem dX13_change_0 : decode cX13_change 0 = .ok (.iload_n 1, 1) := by decide +kernel
theorem dX13_change_1 : decode cX13_change 1 = .ok (.iconst 5, 1) := by decide +kernel
theorem dX13_change_2 : decode cX13_change 2 = .ok (.if_icmp .ne 15, 3) := by decide +kernel
theorem dX13_change_5 : decode cX13_change 5 = .ok (.aload_n 0, 1) := by decide +kernel
theorem dX13_change_6 : decode cX13_change 6 = .ok (.aload_n 0, 1) := by decide +kernel
theorem dX13_change_7 : decode cX13_change 7 = .ok (.getfield 93, 3) := by decide +kernel
theorem dX13_change_10 : decode cX13_change 10 = .ok (.invokevirtual 221, 3) := by decide +kernel
theorem dX13_change_13 : decode cX13_change 13 = .ok (.sipush 257, 3) := by decide +kernel
theorem dX13_change_16 : decode cX13_change 16 = .ok (.ireturn, 1) := by decide +kernel
theorem dX13_change_17 : decode cX13_change 17 = .ok (.iload_n 1, 1) := by decide +kernel
theorem dX13_change_18 : decode cX13_change 18 = .ok (.bipush 7, 2) := by decide +kernel
theorem dX13_change_20 : decode cX13_change 20 = .ok (.if_icmp .ne 20, 3) := by decide +kernel
theorem dX13_change_23 : decode cX13_change 23 = .ok (.aload_n 0, 1) := by decide +kernel
theorem dX13_change_24 : decode cX13_change 24 = .ok (.aload_n 0, 1) := by decide +kernel
theorem dX13_change_25 : decode cX13_change 25 = .ok (.getfield 13, 3) := by decide +kernel
theorem dX13_change_28 : decode cX13_change 28 = .ok (.aload_n 0, 1) := by decide +kernel
theorem dX13_change_29 : decode cX13_change 29 = .ok (.getfield 93, 3) := by decide +kernel
theorem dX13_change_32 : decode cX13_change 32 = .ok (.iaload, 1) := by decide +kernel
theorem dX13_change_33 : decode cX13_change 33 = .ok (.putfield 93, 3) := by decide +kernel
theorem dX13_change_36 : decode cX13_change 36 = .ok (.sipush 200, 3) := by decide +kernel
theorem dX13_change_39 : decode cX13_change 39 = .ok (.ireturn, 1) := by decide +kernel
theorem dX13_change_40 : decode cX13_change 40 = .ok (.iload_n 1, 1) := by decide +kernel
theorem dX13_change_41 : decode cX13_change 41 = .ok (.bipush 8, 2) := by decide +kernel
theorem dX13_change_43 : decode cX13_change 43 = .ok (.if_icmp .ne 8, 3) := by decide +kernel
theorem dX13_change_46 : decode cX13_change 46 = .ok (.aload_n 0, 1) := by decide +kernel
theorem dX13_change_47 : decode cX13_change 47 = .ok (.invokevirtual 228, 3) := by decide +kernel
theorem dX13_change_50 : decode cX13_change 50 = .ok (.ireturn, 1) := by decide +kernel
theorem dX13_change_51 : decode cX13_change 51 = .ok (.iload_n 1, 1) := by decide +kernel
theorem dX13_change_52 : decode cX13_change 52 = .ok (.bipush 13, 2) := by decide +kernel
theorem dX13_change_54 : decode cX13_change 54 = .ok (.if_icmp .ne 8, 3) := by decide +kernel
theorem dX13_change_57 : decode cX13_change 57 = .ok (.aload_n 0, 1) := by decide +kernel
theorem dX13_change_58 : decode cX13_change 58 = .ok (.invokevirtual 231, 3) := by decide +kernel
theorem dX13_change_61 : decode cX13_change 61 = .ok (.ireturn, 1) := by decide +kernel
theorem dX13_change_62 : decode cX13_change 62 = .ok (.aload_n 0, 1) := by decide +kernel
theorem dX13_change_63 : decode cX13_change 63 = .ok (.aload_n 0, 1) := by decide +kernel
theorem dX13_change_64 : decode cX13_change 64 = .ok (.getfield 75, 3) := by decide +kernel
theorem dX13_change_67 : decode cX13_change 67 = .ok (.invokevirtual 104, 3) := by decide +kernel
theorem dX13_change_70 : decode cX13_change 70 = .ok (.istore_n 2, 1) := by decide +kernel
theorem dX13_change_71 : decode cX13_change 71 = .ok (.iload_n 2, 1) := by decide +kernel
theorem dX13_change_72 : decode cX13_change 72 = .ok (.ifCond .lt 17, 3) := by decide +kernel
theorem dX13_change_75 : decode cX13_change 75 = .ok (.aload_n 0, 1) := by decide +kernel
theorem dX13_change_76 : decode cX13_change 76 = .ok (.getfield 7, 3) := by decide +kernel
theorem dX13_change_79 : decode cX13_change 79 = .ok (.iload_n 2, 1) := by decide +kernel
theorem dX13_change_80 : decode cX13_change 80 = .ok (.iaload, 1) := by decide +kernel
theorem dX13_change_81 : decode cX13_change 81 = .ok (.iconst 1, 1) := by decide +kernel
theorem dX13_change_82 : decode cX13_change 82 = .ok (.if_icmp .ne 7, 3) := by decide +kernel
theorem dX13_change_85 : decode cX13_change 85 = .ok (.iconst 1, 1) := by decide +kernel
theorem dX13_change_86 : decode cX13_change 86 = .ok (.goto 4, 3) := by decide +kernel
theorem dX13_change_89 : decode cX13_change 89 = .ok (.iconst 0, 1) := by decide +kernel
theorem dX13_change_90 : decode cX13_change 90 = .ok (.istore_n 3, 1) := by decide +kernel
theorem dX13_change_91 : decode cX13_change 91 = .ok (.iload_n 1, 1) := by decide +kernel
theorem dX13_change_92 : decode cX13_change 92 = .ok (.bipush 6, 2) := by decide +kernel
theorem dX13_change_94 : decode cX13_change 94 = .ok (.if_icmp .ne 7, 3) := by decide +kernel
theorem dX13_change_97 : decode cX13_change 97 = .ok (.iload_n 3, 1) := by decide +kernel
theorem dX13_change_98 : decode cX13_change 98 = .ok (.goto 84, 3) := by decide +kernel
theorem dX13_change_101 : decode cX13_change 101 = .ok (.iload_n 1, 1) := by decide +kernel
theorem dX13_change_102 : decode cX13_change 102 = .ok (.bipush 9, 2) := by decide +kernel
theorem dX13_change_104 : decode cX13_change 104 = .ok (.if_icmp .ne 39, 3) := by decide +kernel
theorem dX13_change_107 : decode cX13_change 107 = .ok (.iload_n 3, 1) := by decide +kernel
theorem dX13_change_108 : decode cX13_change 108 = .ok (.ifCond .eq 31, 3) := by decide +kernel
theorem dX13_change_111 : decode cX13_change 111 = .ok (.aload_n 0, 1) := by decide +kernel
theorem dX13_change_112 : decode cX13_change 112 = .ok (.iload_n 2, 1) := by decide +kernel
theorem dX13_change_113 : decode cX13_change 113 = .ok (.invokevirtual 234, 3) := by decide +kernel
theorem dX13_change_116 : decode cX13_change 116 = .ok (.ifCond .eq 23, 3) := by decide +kernel
theorem dX13_change_119 : decode cX13_change 119 = .ok (.iload_n 2, 1) := by decide +kernel
theorem dX13_change_120 : decode cX13_change 120 = .ok (.aload_n 0, 1) := by decide +kernel
theorem dX13_change_121 : decode cX13_change 121 = .ok (.getfield 42, 3) := by decide +kernel
theorem dX13_change_124 : decode cX13_change 124 = .ok (.if_icmp .eq 15, 3) := by decide +kernel
theorem dX13_change_127 : decode cX13_change 127 = .ok (.iload_n 2, 1) := by decide +kernel
theorem dX13_change_128 : decode cX13_change 128 = .ok (.aload_n 0, 1) := by decide +kernel
theorem dX13_change_129 : decode cX13_change 129 = .ok (.getfield 93, 3) := by decide +kernel
theorem dX13_change_132 : decode cX13_change 132 = .ok (.if_icmp .eq 7, 3) := by decide +kernel
theorem dX13_change_135 : decode cX13_change 135 = .ok (.iconst 1, 1) := by decide +kernel
theorem dX13_change_136 : decode cX13_change 136 = .ok (.goto 46, 3) := by decide +kernel
theorem dX13_change_139 : decode cX13_change 139 = .ok (.iconst 0, 1) := by decide +kernel
theorem dX13_change_140 : decode cX13_change 140 = .ok (.goto 42, 3) := by decide +kernel
theorem dX13_change_143 : decode cX13_change 143 = .ok (.iload_n 1, 1) := by decide +kernel
theorem dX13_change_144 : decode cX13_change 144 = .ok (.bipush 12, 2) := by decide +kernel
theorem dX13_change_146 : decode cX13_change 146 = .ok (.if_icmp .ne 23, 3) := by decide +kernel
theorem dX13_change_149 : decode cX13_change 149 = .ok (.iload_n 2, 1) := by decide +kernel
theorem dX13_change_150 : decode cX13_change 150 = .ok (.ifCond .lt 15, 3) := by decide +kernel
theorem dX13_change_153 : decode cX13_change 153 = .ok (.iload_n 2, 1) := by decide +kernel
theorem dX13_change_154 : decode cX13_change 154 = .ok (.aload_n 0, 1) := by decide +kernel
theorem dX13_change_155 : decode cX13_change 155 = .ok (.getfield 42, 3) := by decide +kernel
theorem dX13_change_158 : decode cX13_change 158 = .ok (.if_icmp .eq 7, 3) := by decide +kernel
theorem dX13_change_161 : decode cX13_change 161 = .ok (.iconst 1, 1) := by decide +kernel
theorem dX13_change_162 : decode cX13_change 162 = .ok (.goto 20, 3) := by decide +kernel
theorem dX13_change_165 : decode cX13_change 165 = .ok (.iconst 0, 1) := by decide +kernel
theorem dX13_change_166 : decode cX13_change 166 = .ok (.goto 16, 3) := by decide +kernel
theorem dX13_change_169 : decode cX13_change 169 = .ok (.iload_n 2, 1) := by decide +kernel
theorem dX13_change_170 : decode cX13_change 170 = .ok (.ifCond .lt 11, 3) := by decide +kernel
theorem dX13_change_173 : decode cX13_change 173 = .ok (.iload_n 3, 1) := by decide +kernel
theorem dX13_change_174 : decode cX13_change 174 = .ok (.ifCond .ne 7, 3) := by decide +kernel
theorem dX13_change_177 : decode cX13_change 177 = .ok (.iconst 1, 1) := by decide +kernel
theorem dX13_change_178 : decode cX13_change 178 = .ok (.goto 4, 3) := by decide +kernel
theorem dX13_change_181 : decode cX13_change 181 = .ok (.iconst 0, 1) := by decide +kernel
theorem dX13_change_182 : decode cX13_change 182 = .ok (.istore 4, 2) := by decide +kernel
theorem dX13_change_184 : decode cX13_change 184 = .ok (.iload 4, 2) := by decide +kernel
theorem dX13_change_186 : decode cX13_change 186 = .ok (.ifCond .ne 7, 3) := by decide +kernel
theorem dX13_change_189 : decode cX13_change 189 = .ok (.sipush 550, 3) := by decide +kernel
theorem dX13_change_192 : decode cX13_change 192 = .ok (.ireturn, 1) := by decide +kernel
theorem dX13_change_193 : decode cX13_change 193 = .ok (.iload_n 1, 1) := by decide +kernel
theorem dX13_change_194 : decode cX13_change 194 = .ok (.bipush 11, 2) := by decide +kernel
theorem dX13_change_196 : decode cX13_change 196 = .ok (.if_icmp .ne 9, 3) := by decide +kernel
theorem dX13_change_199 : decode cX13_change 199 = .ok (.aload_n 0, 1) := by decide +kernel
theorem dX13_change_200 : decode cX13_change 200 = .ok (.iload_n 2, 1) := by decide +kernel
theorem dX13_change_201 : decode cX13_change 201 = .ok (.invokevirtual 237, 3) := by decide +kernel
theorem dX13_change_204 : decode cX13_change 204 = .ok (.ireturn, 1) := by decide +kernel
theorem dX13_change_205 : decode cX13_change 205 = .ok (.aload_n 0, 1) := by decide +kernel
theorem dX13_change_206 : decode cX13_change 206 = .ok (.iload_n 1, 1) := by decide +kernel
theorem dX13_change_207 : decode cX13_change 207 = .ok (.bipush 6, 2) := by decide +kernel
theorem dX13_change_209 : decode cX13_change 209 = .ok (.if_icmp .ne 7, 3) := by decide +kernel
theorem dX13_change_212 : decode cX13_change 212 = .ok (.iload_n 2, 1) := by decide +kernel
theorem dX13_change_213 : decode cX13_change 213 = .ok (.goto 7, 3) := by decide +kernel
theorem dX13_change_216 : decode cX13_change 216 = .ok (.aload_n 0, 1) := by decide +kernel
theorem dX13_change_217 : decode cX13_change 217 = .ok (.getfield 93, 3) := by decide +kernel
theorem dX13_change_220 : decode cX13_change 220 = .ok (.putfield 93, 3) := by decide +kernel
theorem dX13_change_223 : decode cX13_change 223 = .ok (.aload_n 0, 1) := by decide +kernel
theorem dX13_change_224 : decode cX13_change 224 = .ok (.iload_n 1, 1) := by decide +kernel
theorem dX13_change_225 : decode cX13_change 225 = .ok (.bipush 12, 2) := by decide +kernel
theorem dX13_change_227 : decode cX13_change 227 = .ok (.if_icmp .ne 7, 3) := by decide +kernel
theorem dX13_change_230 : decode cX13_change 230 = .ok (.iload_n 2, 1) := by decide +kernel
theorem dX13_change_231 : decode cX13_change 231 = .ok (.goto 4, 3) := by decide +kernel
theorem dX13_change_234 : decode cX13_change 234 = .ok (.iconst (-1), 1) := by decide +kernel
theorem dX13_change_235 : decode cX13_change 235 = .ok (.putfield 46, 3) := by decide +kernel
theorem dX13_change_238 : decode cX13_change 238 = .ok (.aload_n 0, 1) := by decide +kernel
theorem dX13_change_239 : decode cX13_change 239 = .ok (.getfield 7, 3) := by decide +kernel
theorem dX13_change_242 : decode cX13_change 242 = .ok (.iload_n 2, 1) := by decide +kernel
theorem dX13_change_243 : decode cX13_change 243 = .ok (.iload_n 1, 1) := by decide +kernel
theorem dX13_change_244 : decode cX13_change 244 = .ok (.bipush 9, 2) := by decide +kernel
theorem dX13_change_246 : decode cX13_change 246 = .ok (.if_icmp .eq 9, 3) := by decide +kernel
theorem dX13_change_249 : decode cX13_change 249 = .ok (.iload_n 1, 1) := by decide +kernel
theorem dX13_change_250 : decode cX13_change 250 = .ok (.bipush 10, 2) := by decide +kernel
theorem dX13_change_252 : decode cX13_change 252 = .ok (.if_icmp .ne 7, 3) := by decide +kernel
theorem dX13_change_255 : decode cX13_change 255 = .ok (.iconst 0, 1) := by decide +kernel
theorem dX13_change_256 : decode cX13_change 256 = .ok (.goto 9, 3) := by decide +kernel
theorem dX13_change_259 : decode cX13_change 259 = .ok (.aload_n 0, 1) := by decide +kernel
theorem dX13_change_260 : decode cX13_change 260 = .ok (.getfield 7, 3) := by decide +kernel
theorem dX13_change_263 : decode cX13_change 263 = .ok (.iload_n 2, 1) := by decide +kernel
theorem dX13_change_264 : decode cX13_change 264 = .ok (.iaload, 1) := by decide +kernel
theorem dX13_change_265 : decode cX13_change 265 = .ok (.iastore, 1) := by decide +kernel
theorem dX13_change_266 : decode cX13_change 266 = .ok (.iload_n 1, 1) := by decide +kernel
theorem dX13_change_267 : decode cX13_change 267 = .ok (.bipush 12, 2) := by decide +kernel
theorem dX13_change_269 : decode cX13_change 269 = .ok (.if_icmp .ne 9, 3) := by decide +kernel
theorem dX13_change_272 : decode cX13_change 272 = .ok (.sipush 350, 3) := by decide +kernel
theorem dX13_change_275 : decode cX13_change 275 = .ok (.goto 6, 3) := by decide +kernel
theorem dX13_change_278 : decode cX13_change 278 = .ok (.sipush 250, 3) := by decide +kernel
theorem dX13_change_281 : decode cX13_change 281 = .ok (.ireturn, 1) := by decide +kernel
theorem dX13_prepare_0 : decode cX13_prepare 0 = .ok (.iload_n 1, 1) := by decide +kernel
theorem dX13_prepare_1 : decode cX13_prepare 1 = .ok (.bipush 14, 2) := by decide +kernel
theorem dX13_prepare_3 : decode cX13_prepare 3 = .ok (.if_icmp .ne 128, 3) := by decide +kernel
theorem dX13_prepare_6 : decode cX13_prepare 6 = .ok (.aload_n 0, 1) := by decide +kernel
theorem dX13_prepare_7 : decode cX13_prepare 7 = .ok (.getfield 75, 3) := by decide +kernel
theorem dX13_prepare_10 : decode cX13_prepare 10 = .ok (.aload_n 0, 1) := by decide +kernel
theorem dX13_prepare_11 : decode cX13_prepare 11 = .ok (.getfield 78, 3) := by decide +kernel
theorem dX13_prepare_14 : decode cX13_prepare 14 = .ok (.iconst 1, 1) := by decide +kernel
theorem dX13_prepare_15 : decode cX13_prepare 15 = .ok (.iadd, 1) := by decide +kernel
theorem dX13_prepare_16 : decode cX13_prepare 16 = .ok (.if_icmp .ne 18, 3) := by decide +kernel
theorem dX13_prepare_19 : decode cX13_prepare 19 = .ok (.aload_n 0, 1) := by decide +kernel
theorem dX13_prepare_20 : decode cX13_prepare 20 = .ok (.getfield 35, 3) := by decide +kernel
theorem dX13_prepare_23 : decode cX13_prepare 23 = .ok (.aload_n 0, 1) := by decide +kernel
theorem dX13_prepare_24 : decode cX13_prepare 24 = .ok (.getfield 78, 3) := by decide +kernel
theorem dX13_prepare_27 : decode cX13_prepare 27 = .ok (.caload, 1) := by decide +kernel
theorem dX13_prepare_28 : decode cX13_prepare 28 = .ok (.bipush 95, 2) := by decide +kernel
theorem dX13_prepare_30 : decode cX13_prepare 30 = .ok (.iand, 1) := by decide +kernel
theorem dX13_prepare_31 : decode cX13_prepare 31 = .ok (.goto 4, 3) := by decide +kernel
theorem dX13_prepare_34 : decode cX13_prepare 34 = .ok (.iconst 0, 1) := by decide +kernel
theorem dX13_prepare_35 : decode cX13_prepare 35 = .ok (.istore_n 2, 1) := by decide +kernel
theorem dX13_prepare_36 : decode cX13_prepare 36 = .ok (.aload_n 0, 1) := by decide +kernel
theorem dX13_prepare_37 : decode cX13_prepare 37 = .ok (.getfield 75, 3) := by decide +kernel
theorem dX13_prepare_40 : decode cX13_prepare 40 = .ok (.aload_n 0, 1) := by decide +kernel
theorem dX13_prepare_41 : decode cX13_prepare 41 = .ok (.getfield 78, 3) := by decide +kernel
theorem dX13_prepare_44 : decode cX13_prepare 44 = .ok (.iconst 1, 1) := by decide +kernel
theorem dX13_prepare_45 : decode cX13_prepare 45 = .ok (.iadd, 1) := by decide +kernel
theorem dX13_prepare_46 : decode cX13_prepare 46 = .ok (.if_icmp .ne 21, 3) := by decide +kernel
theorem dX13_prepare_49 : decode cX13_prepare 49 = .ok (.aload_n 0, 1) := by decide +kernel
theorem dX13_prepare_50 : decode cX13_prepare 50 = .ok (.getfield 35, 3) := by decide +kernel
theorem dX13_prepare_53 : decode cX13_prepare 53 = .ok (.aload_n 0, 1) := by decide +kernel
theorem dX13_prepare_54 : decode cX13_prepare 54 = .ok (.getfield 78, 3) := by decide +kernel
theorem dX13_prepare_57 : decode cX13_prepare 57 = .ok (.caload, 1) := by decide +kernel
theorem dX13_prepare_58 : decode cX13_prepare 58 = .ok (.bipush 65, 2) := by decide +kernel
theorem dX13_prepare_60 : decode cX13_prepare 60 = .ok (.if_icmp .lt 7, 3) := by decide +kernel
theorem dX13_prepare_63 : decode cX13_prepare 63 = .ok (.iconst 1, 1) := by decide +kernel
theorem dX13_prepare_64 : decode cX13_prepare 64 = .ok (.goto 4, 3) := by decide +kernel
theorem dX13_prepare_67 : decode cX13_prepare 67 = .ok (.iconst 0, 1) := by decide +kernel
theorem dX13_prepare_68 : decode cX13_prepare 68 = .ok (.istore_n 3, 1) := by decide +kernel
theorem dX13_prepare_69 : decode cX13_prepare 69 = .ok (.aload_n 0, 1) := by decide +kernel
theorem dX13_prepare_70 : decode cX13_prepare 70 = .ok (.iload_n 3, 1) := by decide +kernel
theorem dX13_prepare_71 : decode cX13_prepare 71 = .ok (.ifCond .eq 9, 3) := by decide +kernel
theorem dX13_prepare_74 : decode cX13_prepare 74 = .ok (.iload_n 2, 1) := by decide +kernel
theorem dX13_prepare_75 : decode cX13_prepare 75 = .ok (.bipush 73, 2) := by decide +kernel
theorem dX13_prepare_77 : decode cX13_prepare 77 = .ok (.if_icmp .eq 20, 3) := by decide +kernel
theorem dX13_prepare_80 : decode cX13_prepare 80 = .ok (.aload_n 0, 1) := by decide +kernel
theorem dX13_prepare_81 : decode cX13_prepare 81 = .ok (.getfield 137, 3) := by decide +kernel
theorem dX13_prepare_84 : decode cX13_prepare 84 = .ok (.ifCond .eq 17, 3) := by decide +kernel
theorem dX13_prepare_87 : decode cX13_prepare 87 = .ok (.iload_n 3, 1) := by decide +kernel
theorem dX13_prepare_88 : decode cX13_prepare 88 = .ok (.ifCond .eq 9, 3) := by decide +kernel
theorem dX13_prepare_91 : decode cX13_prepare 91 = .ok (.iload_n 2, 1) := by decide +kernel
theorem dX13_prepare_92 : decode cX13_prepare 92 = .ok (.bipush 65, 2) := by decide +kernel
theorem dX13_prepare_94 : decode cX13_prepare 94 = .ok (.if_icmp .eq 7, 3) := by decide +kernel
theorem dX13_prepare_97 : decode cX13_prepare 97 = .ok (.iconst 1, 1) := by decide +kernel
theorem dX13_prepare_98 : decode cX13_prepare 98 = .ok (.goto 4, 3) := by decide +kernel
theorem dX13_prepare_101 : decode cX13_prepare 101 = .ok (.iconst 0, 1) := by decide +kernel
theorem dX13_prepare_102 : decode cX13_prepare 102 = .ok (.putfield 137, 3) := by decide +kernel
theorem dX13_prepare_105 : decode cX13_prepare 105 = .ok (.iload_n 3, 1) := by decide +kernel
theorem dX13_prepare_106 : decode cX13_prepare 106 = .ok (.ifCond .eq 21, 3) := by decide +kernel
theorem dX13_prepare_109 : decode cX13_prepare 109 = .ok (.iload_n 2, 1) := by decide +kernel
theorem dX13_prepare_110 : decode cX13_prepare 110 = .ok (.bipush 65, 2) := by decide +kernel
theorem dX13_prepare_112 : decode cX13_prepare 112 = .ok (.if_icmp .eq 9, 3) := by decide +kernel
theorem dX13_prepare_115 : decode cX13_prepare 115 = .ok (.iload_n 2, 1) := by decide +kernel
theorem dX13_prepare_116 : decode cX13_prepare 116 = .ok (.bipush 73, 2) := by decide +kernel
theorem dX13_prepare_118 : decode cX13_prepare 118 = .ok (.if_icmp .ne 9, 3) := by decide +kernel
theorem dX13_prepare_121 : decode cX13_prepare 121 = .ok (.sipush 200, 3) := by decide +kernel
theorem dX13_prepare_124 : decode cX13_prepare 124 = .ok (.goto 6, 3) := by decide +kernel
theorem dX13_prepare_127 : decode cX13_prepare 127 = .ok (.sipush 504, 3) := by decide +kernel
theorem dX13_prepare_130 : decode cX13_prepare 130 = .ok (.ireturn, 1) := by decide +kernel
theorem dX13_prepare_131 : decode cX13_prepare 131 = .ok (.iload_n 1, 1) := by decide +kernel
theorem dX13_prepare_132 : decode cX13_prepare 132 = .ok (.bipush 15, 2) := by decide +kernel
theorem dX13_prepare_134 : decode cX13_prepare 134 = .ok (.if_icmp .ne 52, 3) := by decide +kernel
theorem dX13_prepare_137 : decode cX13_prepare 137 = .ok (.aload_n 0, 1) := by decide +kernel
theorem dX13_prepare_138 : decode cX13_prepare 138 = .ok (.aload_n 0, 1) := by decide +kernel
theorem dX13_prepare_139 : decode cX13_prepare 139 = .ok (.getfield 137, 3) := by decide +kernel
theorem dX13_prepare_142 : decode cX13_prepare 142 = .ok (.ifCond .eq 23, 3) := by decide +kernel
theorem dX13_prepare_145 : decode cX13_prepare 145 = .ok (.aload_n 0, 1) := by decide +kernel
theorem dX13_prepare_146 : decode cX13_prepare 146 = .ok (.aload_n 0, 1) := by decide +kernel
theorem dX13_prepare_147 : decode cX13_prepare 147 = .ok (.getfield 78, 3) := by decide +kernel
theorem dX13_prepare_150 : decode cX13_prepare 150 = .ok (.aload_n 0, 1) := by decide +kernel
theorem dX13_prepare_151 : decode cX13_prepare 151 = .ok (.getfield 75, 3) := by decide +kernel
theorem dX13_prepare_154 : decode cX13_prepare 154 = .ok (.aload_n 0, 1) := by decide +kernel
theorem dX13_prepare_155 : decode cX13_prepare 155 = .ok (.getfield 78, 3) := by decide +kernel
theorem dX13_prepare_158 : decode cX13_prepare 158 = .ok (.isub, 1) := by decide +kernel
theorem dX13_prepare_159 : decode cX13_prepare 159 = .ok (.invokevirtual 167, 3) := by decide +kernel
theorem dX13_prepare_162 : decode cX13_prepare 162 = .ok (.goto 4, 3) := by decide +kernel
theorem dX13_prepare_165 : decode cX13_prepare 165 = .ok (.iconst 0, 1) := by decide +kernel
theorem dX13_prepare_166 : decode cX13_prepare 166 = .ok (.putfield 143, 3) := by decide +kernel
theorem dX13_prepare_169 : decode cX13_prepare 169 = .ok (.aload_n 0, 1) := by decide +kernel
theorem dX13_prepare_170 : decode cX13_prepare 170 = .ok (.getfield 137, 3) := by decide +kernel
theorem dX13_prepare_173 : decode cX13_prepare 173 = .ok (.ifCond .eq 9, 3) := by decide +kernel
theorem dX13_prepare_176 : decode cX13_prepare 176 = .ok (.sipush 350, 3) := by decide +kernel
theorem dX13_prepare_179 : decode cX13_prepare 179 = .ok (.goto 6, 3) := by decide +kernel
theorem dX13_prepare_182 : decode cX13_prepare 182 = .ok (.sipush 504, 3) := by decide +kernel
theorem dX13_prepare_185 : decode cX13_prepare 185 = .ok (.ireturn, 1) := by decide +kernel
theorem dX13_prepare_186 : decode cX13_prepare 186 = .ok (.iload_n 1, 1) := by decide +kernel
theorem dX13_prepare_187 : decode cX13_prepare 187 = .ok (.bipush 16, 2) := by decide +kernel
theorem dX13_prepare_189 : decode cX13_prepare 189 = .ok (.if_icmp .ne 12, 3) := by decide +kernel
theorem dX13_prepare_192 : decode cX13_prepare 192 = .ok (.aload_n 0, 1) := by decide +kernel
theorem dX13_prepare_193 : decode cX13_prepare 193 = .ok (.iconst 1, 1) := by decide +kernel
theorem dX13_prepare_194 : decode cX13_prepare 194 = .ok (.putfield 146, 3) := by decide +kernel
theorem dX13_prepare_197 : decode cX13_prepare 197 = .ok (.sipush 227, 3) := by decide +kernel
theorem dX13_prepare_200 : decode cX13_prepare 200 = .ok (.ireturn, 1) := by decide +kernel
theorem dX13_prepare_201 : decode cX13_prepare 201 = .ok (.iload_n 1, 1) := by decide +kernel
theorem dX13_prepare_202 : decode cX13_prepare 202 = .ok (.bipush 17, 2) := by decide +kernel
theorem dX13_prepare_204 : decode cX13_prepare 204 = .ok (.if_icmp .ne 20, 3) := by decide +kernel
theorem dX13_prepare_207 : decode cX13_prepare 207 = .ok (.aload_n 0, 1) := by decide +kernel
theorem dX13_prepare_208 : decode cX13_prepare 208 = .ok (.iconst 3, 1) := by decide +kernel
theorem dX13_prepare_209 : decode cX13_prepare 209 = .ok (.putfield 146, 3) := by decide +kernel
theorem dX13_prepare_212 : decode cX13_prepare 212 = .ok (.aload_n 0, 1) := by decide +kernel
theorem dX13_prepare_213 : decode cX13_prepare 213 = .ok (.aload_n 0, 1) := by decide +kernel
theorem dX13_prepare_214 : decode cX13_prepare 214 = .ok (.invokevirtual 171, 3) := by decide +kernel
theorem dX13_prepare_217 : decode cX13_prepare 217 = .ok (.putfield 240, 3) := by decide +kernel
theorem dX13_prepare_220 : decode cX13_prepare 220 = .ok (.sipush 200, 3) := by decide +kernel
theorem dX13_prepare_223 : decode cX13_prepare 223 = .ok (.ireturn, 1) := by decide +kernel
theorem dX13_prepare_224 : decode cX13_prepare 224 = .ok (.aload_n 0, 1) := by decide +kernel
theorem dX13_prepare_225 : decode cX13_prepare 225 = .ok (.getfield 199, 3) := by decide +kernel
theorem dX13_prepare_228 : decode cX13_prepare 228 = .ok (.ifCond .le 7, 3) := by decide +kernel
theorem dX13_prepare_231 : decode cX13_prepare 231 = .ok (.iconst 1, 1) := by decide +kernel
theorem dX13_prepare_232 : decode cX13_prepare 232 = .ok (.goto 4, 3) := by decide +kernel
theorem dX13_prepare_235 : decode cX13_prepare 235 = .ok (.iconst 0, 1) := by decide +kernel
theorem dX13_prepare_236 : decode cX13_prepare 236 = .ok (.istore_n 2, 1) := by decide +kernel
theorem dX13_prepare_237 : decode cX13_prepare 237 = .ok (.aload_n 0, 1) := by decide +kernel
theorem dX13_prepare_238 : decode cX13_prepare 238 = .ok (.iload_n 2, 1) := by decide +kernel
theorem dX13_prepare_239 : decode cX13_prepare 239 = .ok (.ifCond .eq 7, 3) := by decide +kernel
theorem dX13_prepare_242 : decode cX13_prepare 242 = .ok (.iconst 0, 1) := by decide +kernel
theorem dX13_prepare_243 : decode cX13_prepare 243 = .ok (.goto 7, 3) := by decide +kernel
theorem dX13_prepare_246 : decode cX13_prepare 246 = .ok (.aload_n 0, 1) := by decide +kernel
theorem dX13_prepare_247 : decode cX13_prepare 247 = .ok (.getfield 146, 3) := by decide +kernel
theorem dX13_prepare_250 : decode cX13_prepare 250 = .ok (.putfield 146, 3) := by decide +kernel
theorem dX13_prepare_253 : decode cX13_prepare 253 = .ok (.aload_n 0, 1) := by decide +kernel
theorem dX13_prepare_254 : decode cX13_prepare 254 = .ok (.iconst 0, 1) := by decide +kernel
theorem dX13_prepare_255 : decode cX13_prepare 255 = .ok (.putfield 199, 3) := by decide +kernel
theorem dX13_prepare_258 : decode cX13_prepare 258 = .ok (.iload_n 2, 1) := by decide +kernel
theorem dX13_prepare_259 : decode cX13_prepare 259 = .ok (.ifCond .eq 9, 3) := by decide +kernel
theorem dX13_prepare_262 : decode cX13_prepare 262 = .ok (.sipush 426, 3) := by decide +kernel
theorem dX13_prepare_265 : decode cX13_prepare 265 = .ok (.goto 6, 3) := by decide +kernel
theorem dX13_prepare_268 : decode cX13_prepare 268 = .ok (.sipush 226, 3) := by decide +kernel
theorem dX13_prepare_271 : decode cX13_prepare 271 = .ok (.ireturn, 1) := by decide +kernel
theorem dX13_transferBy_0 : decode cX13_transferBy 0 = .ok (.aload_n 0, 1) := by decide +kernel
theorem dX13_transferBy_1 : decode cX13_transferBy 1 = .ok (.getfield 78, 3) := by decide +kernel
theorem dX13_transferBy_4 : decode cX13_transferBy 4 = .ok (.ifCond .ge 10, 3) := by decide +kernel
theorem dX13_transferBy_7 : decode cX13_transferBy 7 = .ok (.aload_n 0, 1) := by decide +kernel
theorem dX13_transferBy_8 : decode cX13_transferBy 8 = .ok (.getfield 93, 3) := by decide +kernel
theorem dX13_transferBy_11 : decode cX13_transferBy 11 = .ok (.goto 11, 3) := by decide +kernel
theorem dX13_transferBy_14 : decode cX13_transferBy 14 = .ok (.aload_n 0, 1) := by decide +kernel
theorem dX13_transferBy_15 : decode cX13_transferBy 15 = .ok (.aload_n 0, 1) := by decide +kernel
theorem dX13_transferBy_16 : decode cX13_transferBy 16 = .ok (.getfield 75, 3) := by decide +kernel
theorem dX13_transferBy_19 : decode cX13_transferBy 19 = .ok (.invokevirtual 104, 3) := by decide +kernel
theorem dX13_transferBy_22 : decode cX13_transferBy 22 = .ok (.istore_n 2, 1) := by decide +kernel
theorem dX13_transferBy_23 : decode cX13_transferBy 23 = .ok (.iload_n 1, 1) := by decide +kernel
theorem dX13_transferBy_24 : decode cX13_transferBy 24 = .ok (.bipush 19, 2) := by decide +kernel
theorem dX13_transferBy_26 : decode cX13_transferBy 26 = .ok (.if_icmp .ne 30, 3) := by decide +kernel
theorem dX13_transferBy_29 : decode cX13_transferBy 29 = .ok (.iload_n 2, 1) := by decide +kernel
theorem dX13_transferBy_30 : decode cX13_transferBy 30 = .ok (.ifCond .lt 46, 3) := by decide +kernel
theorem dX13_transferBy_33 : decode cX13_transferBy 33 = .ok (.aload_n 0, 1) := by decide +kernel
theorem dX13_transferBy_34 : decode cX13_transferBy 34 = .ok (.getfield 7, 3) := by decide +kernel
theorem dX13_transferBy_37 : decode cX13_transferBy 37 = .ok (.iload_n 2, 1) := by decide +kernel
theorem dX13_transferBy_38 : decode cX13_transferBy 38 = .ok (.iaload, 1) := by decide +kernel
theorem dX13_transferBy_39 : decode cX13_transferBy 39 = .ok (.iconst 2, 1) := by decide +kernel
theorem dX13_transferBy_40 : decode cX13_transferBy 40 = .ok (.if_icmp .ne 36, 3) := by decide +kernel
theorem dX13_transferBy_43 : decode cX13_transferBy 43 = .ok (.aload_n 0, 1) := by decide +kernel
theorem dX13_transferBy_44 : decode cX13_transferBy 44 = .ok (.getfield 184, 3) := by decide +kernel
theorem dX13_transferBy_47 : decode cX13_transferBy 47 = .ok (.aload_n 0, 1) := by decide +kernel
theorem dX13_transferBy_48 : decode cX13_transferBy 48 = .ok (.getfield 20, 3) := by decide +kernel
theorem dX13_transferBy_51 : decode cX13_transferBy 51 = .ok (.iload_n 2, 1) := by decide +kernel
theorem dX13_transferBy_52 : decode cX13_transferBy 52 = .ok (.iaload, 1) := by decide +kernel
theorem dX13_transferBy_53 : decode cX13_transferBy 53 = .ok (.if_icmp .gt 23, 3) := by decide +kernel
theorem dX13_transferBy_56 : decode cX13_transferBy 56 = .ok (.iload_n 1, 1) := by decide +kernel
theorem dX13_transferBy_57 : decode cX13_transferBy 57 = .ok (.bipush 22, 2) := by decide +kernel
theorem dX13_transferBy_59 : decode cX13_transferBy 59 = .ok (.if_icmp .ne 21, 3) := by decide +kernel
theorem dX13_transferBy_62 : decode cX13_transferBy 62 = .ok (.iload_n 2, 1) := by decide +kernel
theorem dX13_transferBy_63 : decode cX13_transferBy 63 = .ok (.ifCond .lt 13, 3) := by decide +kernel
theorem dX13_transferBy_66 : decode cX13_transferBy 66 = .ok (.aload_n 0, 1) := by decide +kernel
theorem dX13_transferBy_67 : decode cX13_transferBy 67 = .ok (.getfield 7, 3) := by decide +kernel
theorem dX13_transferBy_70 : decode cX13_transferBy 70 = .ok (.iload_n 2, 1) := by decide +kernel
theorem dX13_transferBy_71 : decode cX13_transferBy 71 = .ok (.iaload, 1) := by decide +kernel
theorem dX13_transferBy_72 : decode cX13_transferBy 72 = .ok (.iconst 1, 1) := by decide +kernel
theorem dX13_transferBy_73 : decode cX13_transferBy 73 = .ok (.if_icmp .eq 7, 3) := by decide +kernel
theorem dX13_transferBy_76 : decode cX13_transferBy 76 = .ok (.sipush 550, 3) := by decide +kernel
theorem dX13_transferBy_79 : decode cX13_transferBy 79 = .ok (.ireturn, 1) := by decide +kernel
theorem dX13_transferBy_80 : decode cX13_transferBy 80 = .ok (.iload_n 1, 1) := by decide +kernel
theorem dX13_transferBy_81 : decode cX13_transferBy 81 = .ok (.bipush 20, 2) := by decide +kernel
theorem dX13_transferBy_83 : decode cX13_transferBy 83 = .ok (.if_icmp .eq 9, 3) := by decide +kernel
theorem dX13_transferBy_86 : decode cX13_transferBy 86 = .ok (.iload_n 1, 1) := by decide +kernel
theorem dX13_transferBy_87 : decode cX13_transferBy 87 = .ok (.bipush 21, 2) := by decide +kernel
theorem dX13_transferBy_89 : decode cX13_transferBy 89 = .ok (.if_icmp .ne 31, 3) := by decide +kernel
theorem dX13_transferBy_92 : decode cX13_transferBy 92 = .ok (.iload_n 2, 1) := by decide +kernel
theorem dX13_transferBy_93 : decode cX13_transferBy 93 = .ok (.ifCond .lt 16, 3) := by decide +kernel
theorem dX13_transferBy_96 : decode cX13_transferBy 96 = .ok (.aload_n 0, 1) := by decide +kernel
theorem dX13_transferBy_97 : decode cX13_transferBy 97 = .ok (.getfield 7, 3) := by decide +kernel
theorem dX13_transferBy_100 : decode cX13_transferBy 100 = .ok (.iload_n 2, 1) := by decide +kernel
theorem dX13_transferBy_101 : decode cX13_transferBy 101 = .ok (.iaload, 1) := by decide +kernel
theorem dX13_transferBy_102 : decode cX13_transferBy 102 = .ok (.iconst 1, 1) := by decide +kernel
theorem dX13_transferBy_103 : decode cX13_transferBy 103 = .ok (.if_icmp .ne 17, 3) := by decide +kernel
theorem dX13_transferBy_106 : decode cX13_transferBy 106 = .ok (.goto 10, 3) := by decide +kernel
theorem dX13_transferBy_109 : decode cX13_transferBy 109 = .ok (.aload_n 0, 1) := by decide +kernel
theorem dX13_transferBy_110 : decode cX13_transferBy 110 = .ok (.invokevirtual 218, 3) := by decide +kernel
theorem dX13_transferBy_113 : decode cX13_transferBy 113 = .ok (.ifCond .ne 7, 3) := by decide +kernel
theorem dX13_transferBy_116 : decode cX13_transferBy 116 = .ok (.sipush 553, 3) := by decide +kernel
theorem dX13_transferBy_119 : decode cX13_transferBy 119 = .ok (.ireturn, 1) := by decide +kernel
theorem dX13_transferBy_120 : decode cX13_transferBy 120 = .ok (.iload_n 2, 1) := by decide +kernel
theorem dX13_transferBy_121 : decode cX13_transferBy 121 = .ok (.ifCond .ge 16, 3) := by decide +kernel
theorem dX13_transferBy_124 : decode cX13_transferBy 124 = .ok (.aload_n 0, 1) := by decide +kernel
theorem dX13_transferBy_125 : decode cX13_transferBy 125 = .ok (.invokevirtual 119, 3) := by decide +kernel
theorem dX13_transferBy_128 : decode cX13_transferBy 128 = .ok (.bipush 24, 2) := by decide +kernel
theorem dX13_transferBy_130 : decode cX13_transferBy 130 = .ok (.if_icmp .ne 7, 3) := by decide +kernel
theorem dX13_transferBy_133 : decode cX13_transferBy 133 = .ok (.sipush 452, 3) := by decide +kernel
theorem dX13_transferBy_136 : decode cX13_transferBy 136 = .ok (.ireturn, 1) := by decide +kernel
theorem dX13_transferBy_137 : decode cX13_transferBy 137 = .ok (.aload_n 0, 1) := by decide +kernel
theorem dX13_transferBy_138 : decode cX13_transferBy 138 = .ok (.getfield 146, 3) := by decide +kernel
theorem dX13_transferBy_141 : decode cX13_transferBy 141 = .ok (.iconst 2, 1) := by decide +kernel
theorem dX13_transferBy_142 : decode cX13_transferBy 142 = .ok (.if_icmp .eq 31, 3) := by decide +kernel
theorem dX13_transferBy_145 : decode cX13_transferBy 145 = .ok (.aload_n 0, 1) := by decide +kernel
theorem dX13_transferBy_146 : decode cX13_transferBy 146 = .ok (.getfield 146, 3) := by decide +kernel
theorem dX13_transferBy_149 : decode cX13_transferBy 149 = .ok (.iconst 3, 1) := by decide +kernel
theorem dX13_transferBy_150 : decode cX13_transferBy 150 = .ok (.if_icmp .ne 14, 3) := by decide +kernel
theorem dX13_transferBy_153 : decode cX13_transferBy 153 = .ok (.aload_n 0, 1) := by decide +kernel
theorem dX13_transferBy_154 : decode cX13_transferBy 154 = .ok (.getfield 240, 3) := by decide +kernel
theorem dX13_transferBy_157 : decode cX13_transferBy 157 = .ok (.aload_n 0, 1) := by decide +kernel
theorem dX13_transferBy_158 : decode cX13_transferBy 158 = .ok (.getfield 49, 3) := by decide +kernel
theorem dX13_transferBy_161 : decode cX13_transferBy 161 = .ok (.if_icmp .eq 12, 3) := by decide +kernel
theorem dX13_transferBy_164 : decode cX13_transferBy 164 = .ok (.aload_n 0, 1) := by decide +kernel
theorem dX13_transferBy_165 : decode cX13_transferBy 165 = .ok (.iconst 0, 1) := by decide +kernel
theorem dX13_transferBy_166 : decode cX13_transferBy 166 = .ok (.putfield 146, 3) := by decide +kernel
theorem dX13_transferBy_169 : decode cX13_transferBy 169 = .ok (.sipush 425, 3) := by decide +kernel
theorem dX13_transferBy_172 : decode cX13_transferBy 172 = .ok (.ireturn, 1) := by decide +kernel
theorem dX13_transferBy_173 : decode cX13_transferBy 173 = .ok (.aload_n 0, 1) := by decide +kernel
theorem dX13_transferBy_174 : decode cX13_transferBy 174 = .ok (.iload_n 1, 1) := by decide +kernel
theorem dX13_transferBy_175 : decode cX13_transferBy 175 = .ok (.bipush 19, 2) := by decide +kernel
theorem dX13_transferBy_177 : decode cX13_transferBy 177 = .ok (.if_icmp .eq 9, 3) := by decide +kernel
theorem dX13_transferBy_180 : decode cX13_transferBy 180 = .ok (.iload_n 1, 1) := by decide +kernel
theorem dX13_transferBy_181 : decode cX13_transferBy 181 = .ok (.bipush 22, 2) := by decide +kernel
theorem dX13_transferBy_183 : decode cX13_transferBy 183 = .ok (.if_icmp .ne 7, 3) := by decide +kernel
theorem dX13_transferBy_186 : decode cX13_transferBy 186 = .ok (.iconst 1, 1) := by decide +kernel
theorem dX13_transferBy_187 : decode cX13_transferBy 187 = .ok (.goto 4, 3) := by decide +kernel
theorem dX13_transferBy_190 : decode cX13_transferBy 190 = .ok (.iconst 2, 1) := by decide +kernel
theorem dX13_transferBy_191 : decode cX13_transferBy 191 = .ok (.putfield 199, 3) := by decide +kernel
theorem dX13_transferBy_194 : decode cX13_transferBy 194 = .ok (.aload_n 0, 1) := by decide +kernel
theorem dX13_transferBy_195 : decode cX13_transferBy 195 = .ok (.iconst 0, 1) := by decide +kernel
theorem dX13_transferBy_196 : decode cX13_transferBy 196 = .ok (.putfield 243, 3) := by decide +kernel
theorem dX13_transferBy_199 : decode cX13_transferBy 199 = .ok (.aload_n 0, 1) := by decide +kernel
theorem dX13_transferBy_200 : decode cX13_transferBy 200 = .ok (.iconst 0, 1) := by decide +kernel
theorem dX13_transferBy_201 : decode cX13_transferBy 201 = .ok (.putfield 246, 3) := by decide +kernel
theorem dX13_transferBy_204 : decode cX13_transferBy 204 = .ok (.aload_n 0, 1) := by decide +kernel
theorem dX13_transferBy_205 : decode cX13_transferBy 205 = .ok (.iload_n 2, 1) := by decide +kernel
theorem dX13_transferBy_206 : decode cX13_transferBy 206 = .ok (.putfield 249, 3) := by decide +kernel
theorem dX13_transferBy_209 : decode cX13_transferBy 209 = .ok (.aload_n 0, 1) := by decide +kernel
theorem dX13_transferBy_210 : decode cX13_transferBy 210 = .ok (.iload_n 1, 1) := by decide +kernel
theorem dX13_transferBy_211 : decode cX13_transferBy 211 = .ok (.bipush 21, 2) := by decide +kernel
theorem dX13_transferBy_213 : decode cX13_transferBy 213 = .ok (.if_icmp .ne 7, 3) := by decide +kernel
theorem dX13_transferBy_216 : decode cX13_transferBy 216 = .ok (.iconst 1, 1) := by decide +kernel
theorem dX13_transferBy_217 : decode cX13_transferBy 217 = .ok (.goto 4, 3) := by decide +kernel
theorem dX13_transferBy_220 : decode cX13_transferBy 220 = .ok (.iconst 0, 1) := by decide +kernel
theorem dX13_transferBy_221 : decode cX13_transferBy 221 = .ok (.putfield 252, 3) := by decide +kernel
theorem dX13_transferBy_224 : decode cX13_transferBy 224 = .ok (.iload_n 1, 1) := by decide +kernel
theorem dX13_transferBy_225 : decode cX13_transferBy 225 = .ok (.bipush 19, 2) := by decide +kernel
theorem dX13_transferBy_227 : decode cX13_transferBy 227 = .ok (.if_icmp .ne 11, 3) := by decide +kernel
theorem dX13_transferBy_230 : decode cX13_transferBy 230 = .ok (.aload_n 0, 1) := by decide +kernel
theorem dX13_transferBy_231 : decode cX13_transferBy 231 = .ok (.iload_n 2, 1) := by decide +kernel
theorem dX13_transferBy_232 : decode cX13_transferBy 232 = .ok (.invokevirtual 255, 3) := by decide +kernel
theorem dX13_transferBy_235 : decode cX13_transferBy 235 = .ok (.goto 14, 3) := by decide +kernel
theorem dX13_transferBy_238 : decode cX13_transferBy 238 = .ok (.iload_n 1, 1) := by decide +kernel
theorem dX13_transferBy_239 : decode cX13_transferBy 239 = .ok (.bipush 22, 2) := by decide +kernel
theorem dX13_transferBy_241 : decode cX13_transferBy 241 = .ok (.if_icmp .ne 8, 3) := by decide +kernel
theorem dX13_transferBy_244 : decode cX13_transferBy 244 = .ok (.aload_n 0, 1) := by decide +kernel
theorem dX13_transferBy_245 : decode cX13_transferBy 245 = .ok (.iload_n 2, 1) := by decide +kernel
theorem dX13_transferBy_246 : decode cX13_transferBy 246 = .ok (.invokevirtual 258, 3) := by decide +kernel
theorem dX13_transferBy_249 : decode cX13_transferBy 249 = .ok (.sipush 150, 3) := by decide +kernel
theorem dX13_transferBy_252 : decode cX13_transferBy 252 = .ok (.ireturn, 1) := by decide +kernel
theorem dX13_put_0 : decode cX13_put 0 = .ok (.aload_n 0, 1) := by decide +kernel
theorem dX13_put_1 : decode cX13_put 1 = .ok (.getfield 52, 3) := by decide +kernel
theorem dX13_put_4 : decode cX13_put 4 = .ok (.aload_n 0, 1) := by decide +kernel
theorem dX13_put_5 : decode cX13_put 5 = .ok (.getfield 246, 3) := by decide +kernel
theorem dX13_put_8 : decode cX13_put 8 = .ok (.iload_n 1, 1) := by decide +kernel
theorem dX13_put_9 : decode cX13_put 9 = .ok (.iastore, 1) := by decide +kernel
theorem dX13_put_10 : decode cX13_put 10 = .ok (.aload_n 0, 1) := by decide +kernel
theorem dX13_put_11 : decode cX13_put 11 = .ok (.aload_n 0, 1) := by decide +kernel
theorem dX13_put_12 : decode cX13_put 12 = .ok (.getfield 246, 3) := by decide +kernel
theorem dX13_put_15 : decode cX13_put 15 = .ok (.iconst 1, 1) := by decide +kernel
theorem dX13_put_16 : decode cX13_put 16 = .ok (.iadd, 1) := by decide +kernel
theorem dX13_put_17 : decode cX13_put 17 = .ok (.putfield 246, 3) := by decide +kernel
theorem dX13_put_20 : decode cX13_put 20 = .ok (.return_, 1) := by decide +kernel
theorem dX13_loadFile_0 : decode cX13_loadFile 0 = .ok (.aload_n 0, 1) := by decide +kernel
theorem dX13_loadFile_1 : decode cX13_loadFile 1 = .ok (.getfield 184, 3) := by decide +kernel
theorem dX13_loadFile_4 : decode cX13_loadFile 4 = .ok (.istore_n 2, 1) := by decide +kernel
theorem dX13_loadFile_5 : decode cX13_loadFile 5 = .ok (.iload_n 2, 1) := by decide +kernel
theorem dX13_loadFile_6 : decode cX13_loadFile 6 = .ok (.aload_n 0, 1) := by decide +kernel
theorem dX13_loadFile_7 : decode cX13_loadFile 7 = .ok (.getfield 20, 3) := by decide +kernel
theorem dX13_loadFile_10 : decode cX13_loadFile 10 = .ok (.iload_n 1, 1) := by decide +kernel
theorem dX13_loadFile_11 : decode cX13_loadFile 11 = .ok (.iaload, 1) := by decide +kernel
theorem dX13_loadFile_12 : decode cX13_loadFile 12 = .ok (.if_icmp .ge 53, 3) := by decide +kernel
theorem dX13_loadFile_15 : decode cX13_loadFile 15 = .ok (.aload_n 0, 1) := by decide +kernel
theorem dX13_loadFile_16 : decode cX13_loadFile 16 = .ok (.getfield 137, 3) := by decide +kernel
theorem dX13_loadFile_19 : decode cX13_loadFile 19 = .ok (.ifCond .ne 25, 3) := by decide +kernel
theorem dX13_loadFile_22 : decode cX13_loadFile 22 = .ok (.aload_n 0, 1) := by decide +kernel
theorem dX13_loadFile_23 : decode cX13_loadFile 23 = .ok (.getfield 23, 3) := by decide +kernel
theorem dX13_loadFile_26 : decode cX13_loadFile 26 = .ok (.bipush 32, 2) := by decide +kernel
theorem dX13_loadFile_28 : decode cX13_loadFile 28 = .ok (.iload_n 1, 1) := by decide +kernel
theorem dX13_loadFile_29 : decode cX13_loadFile 29 = .ok (.imul, 1) := by decide +kernel
theorem dX13_loadFile_30 : decode cX13_loadFile 30 = .ok (.iload_n 2, 1) := by decide +kernel
theorem dX13_loadFile_31 : decode cX13_loadFile 31 = .ok (.iadd, 1) := by decide +kernel
theorem dX13_loadFile_32 : decode cX13_loadFile 32 = .ok (.iaload, 1) := by decide +kernel
theorem dX13_loadFile_33 : decode cX13_loadFile 33 = .ok (.bipush 10, 2) := by decide +kernel
theorem dX13_loadFile_35 : decode cX13_loadFile 35 = .ok (.if_icmp .ne 9, 3) := by decide +kernel
theorem dX13_loadFile_38 : decode cX13_loadFile 38 = .ok (.aload_n 0, 1) := by decide +kernel
theorem dX13_loadFile_39 : decode cX13_loadFile 39 = .ok (.bipush 13, 2) := by decide +kernel
theorem dX13_loadFile_41 : decode cX13_loadFile 41 = .ok (.invokevirtual 261, 3) := by decide +kernel
theorem dX13_loadFile_44 : decode cX13_loadFile 44 = .ok (.aload_n 0, 1) := by decide +kernel
theorem dX13_loadFile_45 : decode cX13_loadFile 45 = .ok (.aload_n 0, 1) := by decide +kernel
theorem dX13_loadFile_46 : decode cX13_loadFile 46 = .ok (.getfield 23, 3) := by decide +kernel
theorem dX13_loadFile_49 : decode cX13_loadFile 49 = .ok (.bipush 32, 2) := by decide +kernel
theorem dX13_loadFile_51 : decode cX13_loadFile 51 = .ok (.iload_n 1, 1) := by decide +kernel
theorem dX13_loadFile_52 : decode cX13_loadFile 52 = .ok (.imul, 1) := by decide +kernel
theorem dX13_loadFile_53 : decode cX13_loadFile 53 = .ok (.iload_n 2, 1) := by decide +kernel
theorem dX13_loadFile_54 : decode cX13_loadFile 54 = .ok (.iadd, 1) := by decide +kernel
theorem dX13_loadFile_55 : decode cX13_loadFile 55 = .ok (.iaload, 1) := by decide +kernel
theorem dX13_loadFile_56 : decode cX13_loadFile 56 = .ok (.invokevirtual 261, 3) := by decide +kernel
theorem dX13_loadFile_59 : decode cX13_loadFile 59 = .ok (.iinc 2 1, 3) := by decide +kernel
theorem dX13_loadFile_62 : decode cX13_loadFile 62 = .ok (.goto (-57), 3) := by decide +kernel
theorem dX13_loadFile_65 : decode cX13_loadFile 65 = .ok (.return_, 1) := by decide +kernel
theorem dX13_loadNames_0 : decode cX13_loadNames 0 = .ok (.lconst 0, 1) := by decide +kernel
theorem dX13_loadNames_1 : decode cX13_loadNames 1 = .ok (.lstore_n 2, 1) := by decide +kernel
theorem dX13_loadNames_2 : decode cX13_loadNames 2 = .ok (.iconst 1, 1) := by decide +kernel
theorem dX13_loadNames_3 : decode cX13_loadNames 3 = .ok (.istore 4, 2) := by decide +kernel
theorem dX13_loadNames_5 : decode cX13_loadNames 5 = .ok (.iload 4, 2) := by decide +kernel
theorem dX13_loadNames_7 : decode cX13_loadNames 7 = .ok (.ifCond .eq 194, 3) := by decide +kernel
theorem dX13_loadNames_10 : decode cX13_loadNames 10 = .ok (.ldc2_w 264, 3) := by decide +kernel
theorem dX13_loadNames_13 : decode cX13_loadNames 13 = .ok (.lstore 5, 2) := by decide +kernel
theorem dX13_loadNames_15 : decode cX13_loadNames 15 = .ok (.iconst 0, 1) := by decide +kernel
theorem dX13_loadNames_16 : decode cX13_loadNames 16 = .ok (.istore 7, 2) := by decide +kernel
theorem dX13_loadNames_18 : decode cX13_loadNames 18 = .ok (.iload 7, 2) := by decide +kernel
theorem dX13_loadNames_20 : decode cX13_loadNames 20 = .ok (.bipush 24, 2) := by decide +kernel
theorem dX13_loadNames_22 : decode cX13_loadNames 22 = .ok (.if_icmp .ge 87, 3) := by decide +kernel
theorem dX13_loadNames_25 : decode cX13_loadNames 25 = .ok (.aload_n 0, 1) := by decide +kernel
theorem dX13_loadNames_26 : decode cX13_loadNames 26 = .ok (.getfield 7, 3) := by decide +kernel
theorem dX13_loadNames_29 : decode cX13_loadNames 29 = .ok (.iload 7, 2) := by decide +kernel
theorem dX13_loadNames_31 : decode cX13_loadNames 31 = .ok (.iaload, 1) := by decide +kernel
theorem dX13_loadNames_32 : decode cX13_loadNames 32 = .ok (.ifCond .le 36, 3) := by decide +kernel
theorem dX13_loadNames_35 : decode cX13_loadNames 35 = .ok (.aload_n 0, 1) := by decide +kernel
theorem dX13_loadNames_36 : decode cX13_loadNames 36 = .ok (.getfield 13, 3) := by decide +kernel
theorem dX13_loadNames_39 : decode cX13_loadNames 39 = .ok (.iload 7, 2) := by decide +kernel
theorem dX13_loadNames_41 : decode cX13_loadNames 41 = .ok (.iaload, 1) := by decide +kernel
theorem dX13_loadNames_42 : decode cX13_loadNames 42 = .ok (.iload_n 1, 1) := by decide +kernel
theorem dX13_loadNames_43 : decode cX13_loadNames 43 = .ok (.if_icmp .ne 25, 3) := by decide +kernel
theorem dX13_loadNames_46 : decode cX13_loadNames 46 = .ok (.iload 7, 2) := by decide +kernel
theorem dX13_loadNames_48 : decode cX13_loadNames 48 = .ok (.iload_n 1, 1) := by decide +kernel
theorem dX13_loadNames_49 : decode cX13_loadNames 49 = .ok (.if_icmp .eq 19, 3) := by decide +kernel
theorem dX13_loadNames_52 : decode cX13_loadNames 52 = .ok (.aload_n 0, 1) := by decide +kernel
theorem dX13_loadNames_53 : decode cX13_loadNames 53 = .ok (.getfield 16, 3) := by decide +kernel
theorem dX13_loadNames_56 : decode cX13_loadNames 56 = .ok (.iload 7, 2) := by decide +kernel
theorem dX13_loadNames_58 : decode cX13_loadNames 58 = .ok (.laload, 1) := by decide +kernel
theorem dX13_loadNames_59 : decode cX13_loadNames 59 = .ok (.lload_n 2, 1) := by decide +kernel
theorem dX13_loadNames_60 : decode cX13_loadNames 60 = .ok (.lcmp, 1) := by decide +kernel
theorem dX13_loadNames_61 : decode cX13_loadNames 61 = .ok (.ifCond .le 7, 3) := by decide +kernel
theorem dX13_loadNames_64 : decode cX13_loadNames 64 = .ok (.iconst 1, 1) := by decide +kernel
theorem dX13_loadNames_65 : decode cX13_loadNames 65 = .ok (.goto 4, 3) := by decide +kernel
theorem dX13_loadNames_68 : decode cX13_loadNames 68 = .ok (.iconst 0, 1) := by decide +kernel
theorem dX13_loadNames_69 : decode cX13_loadNames 69 = .ok (.istore 8, 2) := by decide +kernel
theorem dX13_loadNames_71 : decode cX13_loadNames 71 = .ok (.iload 8, 2) := by decide +kernel
theorem dX13_loadNames_73 : decode cX13_loadNames 73 = .ok (.ifCond .eq 26, 3) := by decide +kernel
theorem dX13_loadNames_76 : decode cX13_loadNames 76 = .ok (.aload_n 0, 1) := by decide +kernel
theorem dX13_loadNames_77 : decode cX13_loadNames 77 = .ok (.getfield 16, 3) := by decide +kernel
theorem dX13_loadNames_80 : decode cX13_loadNames 80 = .ok (.iload 7, 2) := by decide +kernel
theorem dX13_loadNames_82 : decode cX13_loadNames 82 = .ok (.laload, 1) := by decide +kernel
theorem dX13_loadNames_83 : decode cX13_loadNames 83 = .ok (.lload 5, 2) := by decide +kernel
theorem dX13_loadNames_85 : decode cX13_loadNames 85 = .ok (.lcmp, 1) := by decide +kernel
theorem dX13_loadNames_86 : decode cX13_loadNames 86 = .ok (.ifCond .ge 13, 3) := by decide +kernel
theorem dX13_loadNames_89 : decode cX13_loadNames 89 = .ok (.aload_n 0, 1) := by decide +kernel
theorem dX13_loadNames_90 : decode cX13_loadNames 90 = .ok (.getfield 16, 3) := by decide +kernel
theorem dX13_loadNames_93 : decode cX13_loadNames 93 = .ok (.iload 7, 2) := by decide +kernel
theorem dX13_loadNames_95 : decode cX13_loadNames 95 = .ok (.laload, 1) := by decide +kernel
theorem dX13_loadNames_96 : decode cX13_loadNames 96 = .ok (.goto 5, 3) := by decide +kernel
theorem dX13_loadNames_99 : decode cX13_loadNames 99 = .ok (.lload 5, 2) := by decide +kernel
theorem dX13_loadNames_101 : decode cX13_loadNames 101 = .ok (.lstore 5, 2) := by decide +kernel
theorem dX13_loadNames_103 : decode cX13_loadNames 103 = .ok (.iinc 7 1, 3) := by decide +kernel
theorem dX13_loadNames_106 : decode cX13_loadNames 106 = .ok (.goto (-88), 3) := by decide +kernel
theorem dX13_loadNames_109 : decode cX13_loadNames 109 = .ok (.lload 5, 2) := by decide +kernel
theorem dX13_loadNames_111 : decode cX13_loadNames 111 = .ok (.ldc2_w 264, 3) := by decide +kernel
theorem dX13_loadNames_114 : decode cX13_loadNames 114 = .ok (.lcmp, 1) := by decide +kernel
theorem dX13_loadNames_115 : decode cX13_loadNames 115 = .ok (.ifCond .ge 7, 3) := by decide +kernel
theorem dX13_loadNames_118 : decode cX13_loadNames 118 = .ok (.iconst 1, 1) := by decide +kernel
theorem dX13_loadNames_119 : decode cX13_loadNames 119 = .ok (.goto 4, 3) := by decide +kernel
theorem dX13_loadNames_122 : decode cX13_loadNames 122 = .ok (.iconst 0, 1) := by decide +kernel
theorem dX13_loadNames_123 : decode cX13_loadNames 123 = .ok (.istore 4, 2) := by decide +kernel
theorem dX13_loadNames_125 : decode cX13_loadNames 125 = .ok (.iconst 5, 1) := by decide +kernel
theorem dX13_loadNames_126 : decode cX13_loadNames 126 = .ok (.istore 7, 2) := by decide +kernel
theorem dX13_loadNames_128 : decode cX13_loadNames 128 = .ok (.iload 7, 2) := by decide +kernel
theorem dX13_loadNames_130 : decode cX13_loadNames 130 = .ok (.ifCond .lt 48, 3) := by decide +kernel
theorem dX13_loadNames_133 : decode cX13_loadNames 133 = .ok (.iload 4, 2) := by decide +kernel
theorem dX13_loadNames_135 : decode cX13_loadNames 135 = .ok (.ifCond .eq 43, 3) := by decide +kernel
theorem dX13_loadNames_138 : decode cX13_loadNames 138 = .ok (.lload 5, 2) := by decide +kernel
theorem dX13_loadNames_140 : decode cX13_loadNames 140 = .ok (.bipush 8, 2) := by decide +kernel
theorem dX13_loadNames_142 : decode cX13_loadNames 142 = .ok (.iload 7, 2) := by decide +kernel
theorem dX13_loadNames_144 : decode cX13_loadNames 144 = .ok (.imul, 1) := by decide +kernel
theorem dX13_loadNames_145 : decode cX13_loadNames 145 = .ok (.lshr, 1) := by decide +kernel
theorem dX13_loadNames_146 : decode cX13_loadNames 146 = .ok (.ldc2_w 110, 3) := by decide +kernel
theorem dX13_loadNames_149 : decode cX13_loadNames 149 = .ok (.land, 1) := by decide +kernel
theorem dX13_loadNames_150 : decode cX13_loadNames 150 = .ok (.lconst 0, 1) := by decide +kernel
theorem dX13_loadNames_151 : decode cX13_loadNames 151 = .ok (.lcmp, 1) := by decide +kernel
theorem dX13_loadNames_152 : decode cX13_loadNames 152 = .ok (.ifCond .eq 20, 3) := by decide +kernel
theorem dX13_loadNames_155 : decode cX13_loadNames 155 = .ok (.aload_n 0, 1) := by decide +kernel
theorem dX13_loadNames_156 : decode cX13_loadNames 156 = .ok (.lload 5, 2) := by decide +kernel
theorem dX13_loadNames_158 : decode cX13_loadNames 158 = .ok (.bipush 8, 2) := by decide +kernel
theorem dX13_loadNames_160 : decode cX13_loadNames 160 = .ok (.iload 7, 2) := by decide +kernel
theorem dX13_loadNames_162 : decode cX13_loadNames 162 = .ok (.imul, 1) := by decide +kernel
theorem dX13_loadNames_163 : decode cX13_loadNames 163 = .ok (.lshr, 1) := by decide +kernel
theorem dX13_loadNames_164 : decode cX13_loadNames 164 = .ok (.ldc2_w 110, 3) := by decide +kernel
theorem dX13_loadNames_167 : decode cX13_loadNames 167 = .ok (.land, 1) := by decide +kernel
theorem dX13_loadNames_168 : decode cX13_loadNames 168 = .ok (.l2i, 1) := by decide +kernel
theorem dX13_loadNames_169 : decode cX13_loadNames 169 = .ok (.invokevirtual 261, 3) := by decide +kernel
theorem dX13_loadNames_172 : decode cX13_loadNames 172 = .ok (.iinc 7 (-1), 3) := by decide +kernel
theorem dX13_loadNames_175 : decode cX13_loadNames 175 = .ok (.goto (-47), 3) := by decide +kernel
theorem dX13_loadNames_178 : decode cX13_loadNames 178 = .ok (.iload 4, 2) := by decide +kernel
theorem dX13_loadNames_180 : decode cX13_loadNames 180 = .ok (.ifCond .eq 15, 3) := by decide +kernel
theorem dX13_loadNames_183 : decode cX13_loadNames 183 = .ok (.aload_n 0, 1) := by decide +kernel
theorem dX13_loadNames_184 : decode cX13_loadNames 184 = .ok (.bipush 13, 2) := by decide +kernel
theorem dX13_loadNames_186 : decode cX13_loadNames 186 = .ok (.invokevirtual 261, 3) := by decide +kernel
theorem dX13_loadNames_189 : decode cX13_loadNames 189 = .ok (.aload_n 0, 1) := by decide +kernel
theorem dX13_loadNames_190 : decode cX13_loadNames 190 = .ok (.bipush 10, 2) := by decide +kernel
theorem dX13_loadNames_192 : decode cX13_loadNames 192 = .ok (.invokevirtual 261, 3) := by decide +kernel
theorem dX13_loadNames_195 : decode cX13_loadNames 195 = .ok (.lload 5, 2) := by decide +kernel
theorem dX13_loadNames_197 : decode cX13_loadNames 197 = .ok (.lstore_n 2, 1) := by decide +kernel
theorem dX13_loadNames_198 : decode cX13_loadNames 198 = .ok (.goto (-193), 3) := by decide +kernel
theorem dX13_loadNames_201 : decode cX13_loadNames 201 = .ok (.return_, 1) := by decide +kernel
theorem dX13_join_0 : decode cX13_join 0 = .ok (.aload_n 0, 1) := by decide +kernel
theorem dX13_join_1 : decode cX13_join 1 = .ok (.getfield 146, 3) := by decide +kernel
theorem dX13_join_4 : decode cX13_join 4 = .ok (.iconst 1, 1) := by decide +kernel
theorem dX13_join_5 : decode cX13_join 5 = .ok (.if_icmp .ne 7, 3) := by decide +kernel
theorem dX13_join_8 : decode cX13_join 8 = .ok (.iconst 1, 1) := by decide +kernel
theorem dX13_join_9 : decode cX13_join 9 = .ok (.goto 4, 3) := by decide +kernel
theorem dX13_join_12 : decode cX13_join 12 = .ok (.iconst 0, 1) := by decide +kernel
theorem dX13_join_13 : decode cX13_join 13 = .ok (.istore_n 1, 1) := by decide +kernel
theorem dX13_join_14 : decode cX13_join 14 = .ok (.aload_n 0, 1) := by decide +kernel
theorem dX13_join_15 : decode cX13_join 15 = .ok (.iload_n 1, 1) := by decide +kernel
theorem dX13_join_16 : decode cX13_join 16 = .ok (.ifCond .eq 7, 3) := by decide +kernel
theorem dX13_join_19 : decode cX13_join 19 = .ok (.iconst 2, 1) := by decide +kernel
theorem dX13_join_20 : decode cX13_join 20 = .ok (.goto 7, 3) := by decide +kernel
theorem dX13_join_23 : decode cX13_join 23 = .ok (.aload_n 0, 1) := by decide +kernel
theorem dX13_join_24 : decode cX13_join 24 = .ok (.getfield 146, 3) := by decide +kernel
theorem dX13_join_27 : decode cX13_join 27 = .ok (.putfield 146, 3) := by decide +kernel
theorem dX13_join_30 : decode cX13_join 30 = .ok (.iload_n 1, 1) := by decide +kernel
theorem dX13_join_31 : decode cX13_join 31 = .ok (.ireturn, 1) := by decide +kernel
theorem dX13_listen_0 : decode cX13_listen 0 = .ok (.iload_n 1, 1) := by decide +kernel
theorem dX13_listen_1 : decode cX13_listen 1 = .ok (.iconst (-1), 1) := by decide +kernel
theorem dX13_listen_2 : decode cX13_listen 2 = .ok (.if_icmp .lt 9, 3) := by decide +kernel
theorem dX13_listen_5 : decode cX13_listen 5 = .ok (.iload_n 1, 1) := by decide +kernel
theorem dX13_listen_6 : decode cX13_listen 6 = .ok (.ldc 170, 2) := by decide +kernel
theorem dX13_listen_8 : decode cX13_listen 8 = .ok (.if_icmp .le 5, 3) := by decide +kernel
theorem dX13_listen_11 : decode cX13_listen 11 = .ok (.iconst 0, 1) := by decide +kernel
theorem dX13_listen_12 : decode cX13_listen 12 = .ok (.ireturn, 1) := by decide +kernel
theorem dX13_listen_13 : decode cX13_listen 13 = .ok (.aload_n 0, 1) := by decide +kernel
theorem dX13_listen_14 : decode cX13_listen 14 = .ok (.iload_n 1, 1) := by decide +kernel
theorem dX13_listen_15 : decode cX13_listen 15 = .ok (.putfield 49, 3) := by decide +kernel
theorem dX13_listen_18 : decode cX13_listen 18 = .ok (.iconst 1, 1) := by decide +kernel
theorem dX13_listen_19 : decode cX13_listen 19 = .ok (.ireturn, 1) := by decide +kernel
theorem dX13_take_0 : decode cX13_take 0 = .ok (.aload_n 0, 1) := by decide +kernel
theorem dX13_take_1 : decode cX13_take 1 = .ok (.getfield 199, 3) := by decide +kernel
theorem dX13_take_4 : decode cX13_take 4 = .ok (.iconst 1, 1) := by decide +kernel
theorem dX13_take_5 : decode cX13_take 5 = .ok (.if_icmp .eq 5, 3) := by decide +kernel
theorem dX13_take_8 : decode cX13_take 8 = .ok (.iconst (-1), 1) := by decide +kernel
theorem dX13_take_9 : decode cX13_take 9 = .ok (.ireturn, 1) := by decide +kernel
theorem dX13_take_10 : decode cX13_take 10 = .ok (.aload_n 0, 1) := by decide +kernel
theorem dX13_take_11 : decode cX13_take 11 = .ok (.getfield 243, 3) := by decide +kernel
theorem dX13_take_14 : decode cX13_take 14 = .ok (.aload_n 0, 1) := by decide +kernel
theorem dX13_take_15 : decode cX13_take 15 = .ok (.getfield 246, 3) := by decide +kernel
theorem dX13_take_18 : decode cX13_take 18 = .ok (.if_icmp .ge 25, 3) := by decide +kernel
theorem dX13_take_21 : decode cX13_take 21 = .ok (.aload_n 0, 1) := by decide +kernel
theorem dX13_take_22 : decode cX13_take 22 = .ok (.aload_n 0, 1) := by decide +kernel
theorem dX13_take_23 : decode cX13_take 23 = .ok (.getfield 243, 3) := by decide +kernel
theorem dX13_take_26 : decode cX13_take 26 = .ok (.iconst 1, 1) := by decide +kernel
theorem dX13_take_27 : decode cX13_take 27 = .ok (.iadd, 1) := by decide +kernel
theorem dX13_take_28 : decode cX13_take 28 = .ok (.putfield 243, 3) := by decide +kernel
theorem dX13_take_31 : decode cX13_take 31 = .ok (.aload_n 0, 1) := by decide +kernel
theorem dX13_take_32 : decode cX13_take 32 = .ok (.getfield 52, 3) := by decide +kernel
theorem dX13_take_35 : decode cX13_take 35 = .ok (.aload_n 0, 1) := by decide +kernel
theorem dX13_take_36 : decode cX13_take 36 = .ok (.getfield 243, 3) := by decide +kernel
theorem dX13_take_39 : decode cX13_take 39 = .ok (.iconst 1, 1) := by decide +kernel
theorem dX13_take_40 : decode cX13_take 40 = .ok (.isub, 1) := by decide +kernel
theorem dX13_take_41 : decode cX13_take 41 = .ok (.iaload, 1) := by decide +kernel
theorem dX13_take_42 : decode cX13_take 42 = .ok (.ireturn, 1) := by decide +kernel
theorem dX13_take_43 : decode cX13_take 43 = .ok (.aload_n 0, 1) := by decide +kernel
theorem dX13_take_44 : decode cX13_take 44 = .ok (.iconst 0, 1) := by decide +kernel
theorem dX13_take_45 : decode cX13_take 45 = .ok (.putfield 199, 3) := by decide +kernel
theorem dX13_take_48 : decode cX13_take 48 = .ok (.aload_n 0, 1) := by decide +kernel
theorem dX13_take_49 : decode cX13_take 49 = .ok (.iconst 0, 1) := by decide +kernel
theorem dX13_take_50 : decode cX13_take 50 = .ok (.putfield 146, 3) := by decide +kernel
theorem dX13_take_53 : decode cX13_take 53 = .ok (.aload_n 0, 1) := by decide +kernel
theorem dX13_take_54 : decode cX13_take 54 = .ok (.sipush 226, 3) := by decide +kernel
theorem dX13_take_57 : decode cX13_take 57 = .ok (.invokevirtual 149, 3) := by decide +kernel
theorem dX13_take_60 : decode cX13_take 60 = .ok (.pop, 1) := by decide +kernel
theorem dX13_take_61 : decode cX13_take 61 = .ok (.iconst (-1), 1) := by decide +kernel
theorem dX13_take_62 : decode cX13_take 62 = .ok (.ireturn, 1) := by decide +kernel
theorem dX13_give_0 : decode cX13_give 0 = .ok (.aload_n 0, 1) := by decide +kernel
theorem dX13_give_1 : decode cX13_give 1 = .ok (.getfield 199, 3) := by decide +kernel
theorem dX13_give_4 : decode cX13_give 4 = .ok (.iconst 2, 1) := by decide +kernel
theorem dX13_give_5 : decode cX13_give 5 = .ok (.if_icmp .ne 12, 3) := by decide +kernel
theorem dX13_give_8 : decode cX13_give 8 = .ok (.aload_n 0, 1) := by decide +kernel
theorem dX13_give_9 : decode cX13_give 9 = .ok (.getfield 246, 3) := by decide +kernel
theorem dX13_give_12 : decode cX13_give 12 = .ok (.bipush 80, 2) := by decide +kernel
theorem dX13_give_14 : decode cX13_give 14 = .ok (.if_icmp .ne 5, 3) := by decide +kernel
theorem dX13_give_17 : decode cX13_give 17 = .ok (.iconst 0, 1) := by decide +kernel
theorem dX13_give_18 : decode cX13_give 18 = .ok (.ireturn, 1) := by decide +kernel
theorem dX13_give_19 : decode cX13_give 19 = .ok (.aload_n 0, 1) := by decide +kernel
theorem dX13_give_20 : decode cX13_give 20 = .ok (.iload_n 1, 1) := by decide +kernel
theorem dX13_give_21 : decode cX13_give 21 = .ok (.sipush 255, 3) := by decide +kernel
theorem dX13_give_24 : decode cX13_give 24 = .ok (.iand, 1) := by decide +kernel
theorem dX13_give_25 : decode cX13_give 25 = .ok (.invokevirtual 261, 3) := by decide +kernel
theorem dX13_give_28 : decode cX13_give 28 = .ok (.iconst 1, 1) := by decide +kernel
theorem dX13_give_29 : decode cX13_give 29 = .ok (.ireturn, 1) := by decide +kernel
theorem dX13_staying_0 : decode cX13_staying 0 = .ok (.iconst 0, 1) := by decide +kernel
theorem dX13_staying_1 : decode cX13_staying 1 = .ok (.istore_n 1, 1) := by decide +kernel
theorem dX13_staying_2 : decode cX13_staying 2 = .ok (.iconst 0, 1) := by decide +kernel
theorem dX13_staying_3 : decode cX13_staying 3 = .ok (.istore_n 2, 1) := by decide +kernel
theorem dX13_staying_4 : decode cX13_staying 4 = .ok (.iload_n 2, 1) := by decide +kernel
theorem dX13_staying_5 : decode cX13_staying 5 = .ok (.aload_n 0, 1) := by decide +kernel
theorem dX13_staying_6 : decode cX13_staying 6 = .ok (.getfield 246, 3) := by decide +kernel
theorem dX13_staying_9 : decode cX13_staying 9 = .ok (.if_icmp .ge 80, 3) := by decide +kernel
theorem dX13_staying_12 : decode cX13_staying 12 = .ok (.aload_n 0, 1) := by decide +kernel
theorem dX13_staying_13 : decode cX13_staying 13 = .ok (.getfield 137, 3) := by decide +kernel
theorem dX13_staying_16 : decode cX13_staying 16 = .ok (.ifCond .ne 41, 3) := by decide +kernel
theorem dX13_staying_19 : decode cX13_staying 19 = .ok (.aload_n 0, 1) := by decide +kernel
theorem dX13_staying_20 : decode cX13_staying 20 = .ok (.getfield 52, 3) := by decide +kernel
theorem dX13_staying_23 : decode cX13_staying 23 = .ok (.iload_n 2, 1) := by decide +kernel
theorem dX13_staying_24 : decode cX13_staying 24 = .ok (.iaload, 1) := by decide +kernel
theorem dX13_staying_25 : decode cX13_staying 25 = .ok (.bipush 13, 2) := by decide +kernel
theorem dX13_staying_27 : decode cX13_staying 27 = .ok (.if_icmp .ne 30, 3) := by decide +kernel
theorem dX13_staying_30 : decode cX13_staying 30 = .ok (.iload_n 2, 1) := by decide +kernel
theorem dX13_staying_31 : decode cX13_staying 31 = .ok (.iconst 1, 1) := by decide +kernel
theorem dX13_staying_32 : decode cX13_staying 32 = .ok (.iadd, 1) := by decide +kernel
theorem dX13_staying_33 : decode cX13_staying 33 = .ok (.aload_n 0, 1) := by decide +kernel
theorem dX13_staying_34 : decode cX13_staying 34 = .ok (.getfield 246, 3) := by decide +kernel
theorem dX13_staying_37 : decode cX13_staying 37 = .ok (.if_icmp .ge 20, 3) := by decide +kernel
theorem dX13_staying_40 : decode cX13_staying 40 = .ok (.aload_n 0, 1) := by decide +kernel
theorem dX13_staying_41 : decode cX13_staying 41 = .ok (.getfield 52, 3) := by decide +kernel
theorem dX13_staying_44 : decode cX13_staying 44 = .ok (.iload_n 2, 1) := by decide +kernel
theorem dX13_staying_45 : decode cX13_staying 45 = .ok (.iconst 1, 1) := by decide +kernel
theorem dX13_staying_46 : decode cX13_staying 46 = .ok (.iadd, 1) := by decide +kernel
theorem dX13_staying_47 : decode cX13_staying 47 = .ok (.iaload, 1) := by decide +kernel
theorem dX13_staying_48 : decode cX13_staying 48 = .ok (.bipush 10, 2) := by decide +kernel
theorem dX13_staying_50 : decode cX13_staying 50 = .ok (.if_icmp .ne 7, 3) := by decide +kernel
theorem dX13_staying_53 : decode cX13_staying 53 = .ok (.iconst 1, 1) := by decide +kernel
theorem dX13_staying_54 : decode cX13_staying 54 = .ok (.goto 4, 3) := by decide +kernel
theorem dX13_staying_57 : decode cX13_staying 57 = .ok (.iconst 0, 1) := by decide +kernel
theorem dX13_staying_58 : decode cX13_staying 58 = .ok (.istore_n 3, 1) := by decide +kernel
theorem dX13_staying_59 : decode cX13_staying 59 = .ok (.aload_n 0, 1) := by decide +kernel
theorem dX13_staying_60 : decode cX13_staying 60 = .ok (.getfield 52, 3) := by decide +kernel
theorem dX13_staying_63 : decode cX13_staying 63 = .ok (.iload_n 1, 1) := by decide +kernel
theorem dX13_staying_64 : decode cX13_staying 64 = .ok (.aload_n 0, 1) := by decide +kernel
theorem dX13_staying_65 : decode cX13_staying 65 = .ok (.getfield 52, 3) := by decide +kernel
theorem dX13_staying_68 : decode cX13_staying 68 = .ok (.iload_n 2, 1) := by decide +kernel
theorem dX13_staying_69 : decode cX13_staying 69 = .ok (.iaload, 1) := by decide +kernel
theorem dX13_staying_70 : decode cX13_staying 70 = .ok (.iastore, 1) := by decide +kernel
theorem dX13_staying_71 : decode cX13_staying 71 = .ok (.iload_n 3, 1) := by decide +kernel
theorem dX13_staying_72 : decode cX13_staying 72 = .ok (.ifCond .eq 7, 3) := by decide +kernel
theorem dX13_staying_75 : decode cX13_staying 75 = .ok (.iload_n 1, 1) := by decide +kernel
theorem dX13_staying_76 : decode cX13_staying 76 = .ok (.goto 6, 3) := by decide +kernel
theorem dX13_staying_79 : decode cX13_staying 79 = .ok (.iload_n 1, 1) := by decide +kernel
theorem dX13_staying_80 : decode cX13_staying 80 = .ok (.iconst 1, 1) := by decide +kernel
theorem dX13_staying_81 : decode cX13_staying 81 = .ok (.iadd, 1) := by decide +kernel
theorem dX13_staying_82 : decode cX13_staying 82 = .ok (.istore_n 1, 1) := by decide +kernel
theorem dX13_staying_83 : decode cX13_staying 83 = .ok (.iinc 2 1, 3) := by decide +kernel
theorem dX13_staying_86 : decode cX13_staying 86 = .ok (.goto (-82), 3) := by decide +kernel
theorem dX13_staying_89 : decode cX13_staying 89 = .ok (.iload_n 1, 1) := by decide +kernel
theorem dX13_staying_90 : decode cX13_staying 90 = .ok (.ireturn, 1) := by decide +kernel
theorem dX13_end_0 : decode cX13_end 0 = .ok (.aload_n 0, 1) := by decide +kernel
theorem dX13_end_1 : decode cX13_end 1 = .ok (.getfield 199, 3) := by decide +kernel
theorem dX13_end_4 : decode cX13_end 4 = .ok (.iconst 2, 1) := by decide +kernel
theorem dX13_end_5 : decode cX13_end 5 = .ok (.if_icmp .eq 5, 3) := by decide +kernel
theorem dX13_end_8 : decode cX13_end 8 = .ok (.iconst (-1), 1) := by decide +kernel
theorem dX13_end_9 : decode cX13_end 9 = .ok (.ireturn, 1) := by decide +kernel
theorem dX13_end_10 : decode cX13_end 10 = .ok (.aload_n 0, 1) := by decide +kernel
theorem dX13_end_11 : decode cX13_end 11 = .ok (.iconst 0, 1) := by decide +kernel
theorem dX13_end_12 : decode cX13_end 12 = .ok (.putfield 199, 3) := by decide +kernel
theorem dX13_end_15 : decode cX13_end 15 = .ok (.aload_n 0, 1) := by decide +kernel
theorem dX13_end_16 : decode cX13_end 16 = .ok (.iconst 0, 1) := by decide +kernel
theorem dX13_end_17 : decode cX13_end 17 = .ok (.putfield 146, 3) := by decide +kernel
theorem dX13_end_20 : decode cX13_end 20 = .ok (.aload_n 0, 1) := by decide +kernel
theorem dX13_end_21 : decode cX13_end 21 = .ok (.invokevirtual 266, 3) := by decide +kernel
theorem dX13_end_24 : decode cX13_end 24 = .ok (.istore_n 1, 1) := by decide +kernel
theorem dX13_end_25 : decode cX13_end 25 = .ok (.aload_n 0, 1) := by decide +kernel
theorem dX13_end_26 : decode cX13_end 26 = .ok (.getfield 249, 3) := by decide +kernel
theorem dX13_end_29 : decode cX13_end 29 = .ok (.ifCond .ge 7, 3) := by decide +kernel
theorem dX13_end_32 : decode cX13_end 32 = .ok (.iconst 0, 1) := by decide +kernel
theorem dX13_end_33 : decode cX13_end 33 = .ok (.goto 12, 3) := by decide +kernel
theorem dX13_end_36 : decode cX13_end 36 = .ok (.aload_n 0, 1) := by decide +kernel
theorem dX13_end_37 : decode cX13_end 37 = .ok (.getfield 20, 3) := by decide +kernel
theorem dX13_end_40 : decode cX13_end 40 = .ok (.aload_n 0, 1) := by decide +kernel
theorem dX13_end_41 : decode cX13_end 41 = .ok (.getfield 249, 3) := by decide +kernel
theorem dX13_end_44 : decode cX13_end 44 = .ok (.iaload, 1) := by decide +kernel
theorem dX13_end_45 : decode cX13_end 45 = .ok (.istore_n 2, 1) := by decide +kernel
theorem dX13_end_46 : decode cX13_end 46 = .ok (.aload_n 0, 1) := by decide +kernel
theorem dX13_end_47 : decode cX13_end 47 = .ok (.getfield 252, 3) := by decide +kernel
theorem dX13_end_50 : decode cX13_end 50 = .ok (.ifCond .eq 7, 3) := by decide +kernel
theorem dX13_end_53 : decode cX13_end 53 = .ok (.iload_n 2, 1) := by decide +kernel
theorem dX13_end_54 : decode cX13_end 54 = .ok (.goto 4, 3) := by decide +kernel
theorem dX13_end_57 : decode cX13_end 57 = .ok (.iconst 0, 1) := by decide +kernel
theorem dX13_end_58 : decode cX13_end 58 = .ok (.istore_n 3, 1) := by decide +kernel
theorem dX13_end_59 : decode cX13_end 59 = .ok (.iload_n 3, 1) := by decide +kernel
theorem dX13_end_60 : decode cX13_end 60 = .ok (.iload_n 1, 1) := by decide +kernel
theorem dX13_end_61 : decode cX13_end 61 = .ok (.iadd, 1) := by decide +kernel
theorem dX13_end_62 : decode cX13_end 62 = .ok (.bipush 32, 2) := by decide +kernel
theorem dX13_end_64 : decode cX13_end 64 = .ok (.if_icmp .gt 19, 3) := by decide +kernel
theorem dX13_end_67 : decode cX13_end 67 = .ok (.aload_n 0, 1) := by decide +kernel
theorem dX13_end_68 : decode cX13_end 68 = .ok (.invokevirtual 269, 3) := by decide +kernel
theorem dX13_end_71 : decode cX13_end 71 = .ok (.iload_n 2, 1) := by decide +kernel
theorem dX13_end_72 : decode cX13_end 72 = .ok (.isub, 1) := by decide +kernel
theorem dX13_end_73 : decode cX13_end 73 = .ok (.iload_n 3, 1) := by decide +kernel
theorem dX13_end_74 : decode cX13_end 74 = .ok (.iadd, 1) := by decide +kernel
theorem dX13_end_75 : decode cX13_end 75 = .ok (.iload_n 1, 1) := by decide +kernel
theorem dX13_end_76 : decode cX13_end 76 = .ok (.iadd, 1) := by decide +kernel
theorem dX13_end_77 : decode cX13_end 77 = .ok (.sipush 200, 3) := by decide +kernel
theorem dX13_end_80 : decode cX13_end 80 = .ok (.if_icmp .le 11, 3) := by decide +kernel
theorem dX13_end_83 : decode cX13_end 83 = .ok (.aload_n 0, 1) := by decide +kernel
theorem dX13_end_84 : decode cX13_end 84 = .ok (.sipush 452, 3) := by decide +kernel
theorem dX13_end_87 : decode cX13_end 87 = .ok (.invokevirtual 149, 3) := by decide +kernel
theorem dX13_end_90 : decode cX13_end 90 = .ok (.ireturn, 1) := by decide +kernel
theorem dX13_end_91 : decode cX13_end 91 = .ok (.aload_n 0, 1) := by decide +kernel
theorem dX13_end_92 : decode cX13_end 92 = .ok (.getfield 249, 3) := by decide +kernel
theorem dX13_end_95 : decode cX13_end 95 = .ok (.ifCond .ge 10, 3) := by decide +kernel
theorem dX13_end_98 : decode cX13_end 98 = .ok (.aload_n 0, 1) := by decide +kernel
theorem dX13_end_99 : decode cX13_end 99 = .ok (.invokevirtual 119, 3) := by decide +kernel
theorem dX13_end_102 : decode cX13_end 102 = .ok (.goto 7, 3) := by decide +kernel
theorem dX13_end_105 : decode cX13_end 105 = .ok (.aload_n 0, 1) := by decide +kernel
theorem dX13_end_106 : decode cX13_end 106 = .ok (.getfield 249, 3) := by decide +kernel
theorem dX13_end_109 : decode cX13_end 109 = .ok (.istore 4, 2) := by decide +kernel
theorem dX13_end_111 : decode cX13_end 111 = .ok (.aload_n 0, 1) := by decide +kernel
theorem dX13_end_112 : decode cX13_end 112 = .ok (.getfield 249, 3) := by decide +kernel
theorem dX13_end_115 : decode cX13_end 115 = .ok (.ifCond .ge 18, 3) := by decide +kernel
theorem dX13_end_118 : decode cX13_end 118 = .ok (.aload_n 0, 1) := by decide +kernel
theorem dX13_end_119 : decode cX13_end 119 = .ok (.iload 4, 2) := by decide +kernel
theorem dX13_end_121 : decode cX13_end 121 = .ok (.iconst 2, 1) := by decide +kernel
theorem dX13_end_122 : decode cX13_end 122 = .ok (.aload_n 0, 1) := by decide +kernel
theorem dX13_end_123 : decode cX13_end 123 = .ok (.getfield 107, 3) := by decide +kernel
theorem dX13_end_126 : decode cX13_end 126 = .ok (.aload_n 0, 1) := by decide +kernel
theorem dX13_end_127 : decode cX13_end 127 = .ok (.getfield 100, 3) := by decide +kernel
theorem dX13_end_130 : decode cX13_end 130 = .ok (.invokevirtual 127, 3) := by decide +kernel
theorem dX13_end_133 : decode cX13_end 133 = .ok (.iconst 0, 1) := by decide +kernel
theorem dX13_end_134 : decode cX13_end 134 = .ok (.istore 5, 2) := by decide +kernel
theorem dX13_end_136 : decode cX13_end 136 = .ok (.iload 5, 2) := by decide +kernel
theorem dX13_end_138 : decode cX13_end 138 = .ok (.iload_n 1, 1) := by decide +kernel
theorem dX13_end_139 : decode cX13_end 139 = .ok (.if_icmp .ge 31, 3) := by decide +kernel
theorem dX13_end_142 : decode cX13_end 142 = .ok (.aload_n 0, 1) := by decide +kernel
theorem dX13_end_143 : decode cX13_end 143 = .ok (.getfield 23, 3) := by decide +kernel
theorem dX13_end_146 : decode cX13_end 146 = .ok (.bipush 32, 2) := by decide +kernel
theorem dX13_end_148 : decode cX13_end 148 = .ok (.iload 4, 2) := by decide +kernel
theorem dX13_end_150 : decode cX13_end 150 = .ok (.imul, 1) := by decide +kernel
theorem dX13_end_151 : decode cX13_end 151 = .ok (.iload_n 3, 1) := by decide +kernel
theorem dX13_end_152 : decode cX13_end 152 = .ok (.iadd, 1) := by decide +kernel
theorem dX13_end_153 : decode cX13_end 153 = .ok (.iload 5, 2) := by decide +kernel
theorem dX13_end_155 : decode cX13_end 155 = .ok (.iadd, 1) := by decide +kernel
theorem dX13_end_156 : decode cX13_end 156 = .ok (.aload_n 0, 1) := by decide +kernel
theorem dX13_end_157 : decode cX13_end 157 = .ok (.getfield 52, 3) := by decide +kernel
theorem dX13_end_160 : decode cX13_end 160 = .ok (.iload 5, 2) := by decide +kernel
theorem dX13_end_162 : decode cX13_end 162 = .ok (.iaload, 1) := by decide +kernel
theorem dX13_end_163 : decode cX13_end 163 = .ok (.iastore, 1) := by decide +kernel
theorem dX13_end_164 : decode cX13_end 164 = .ok (.iinc 5 1, 3) := by decide +kernel
theorem dX13_end_167 : decode cX13_end 167 = .ok (.goto (-31), 3) := by decide +kernel
theorem dX13_end_170 : decode cX13_end 170 = .ok (.aload_n 0, 1) := by decide +kernel
theorem dX13_end_171 : decode cX13_end 171 = .ok (.getfield 20, 3) := by decide +kernel
theorem dX13_end_174 : decode cX13_end 174 = .ok (.iload 4, 2) := by decide +kernel
theorem dX13_end_176 : decode cX13_end 176 = .ok (.iload_n 3, 1) := by decide +kernel
theorem dX13_end_177 : decode cX13_end 177 = .ok (.iload_n 1, 1) := by decide +kernel
theorem dX13_end_178 : decode cX13_end 178 = .ok (.iadd, 1) := by decide +kernel
theorem dX13_end_179 : decode cX13_end 179 = .ok (.iastore, 1) := by decide +kernel
theorem dX13_end_180 : decode cX13_end 180 = .ok (.aload_n 0, 1) := by decide +kernel
theorem dX13_end_181 : decode cX13_end 181 = .ok (.sipush 226, 3) := by decide +kernel
theorem dX13_end_184 : decode cX13_end 184 = .ok (.invokevirtual 149, 3) := by decide +kernel
theorem dX13_end_187 : decode cX13_end 187 = .ok (.ireturn, 1) := by decide +kernel
theorem dX13_transfer_0 : decode cX13_transfer 0 = .ok (.aload_n 0, 1) := by decide +kernel
theorem dX13_transfer_1 : decode cX13_transfer 1 = .ok (.getfield 199, 3) := by decide +kernel
theorem dX13_transfer_4 : decode cX13_transfer 4 = .ok (.ireturn, 1) := by decide +kernel
theorem dJx29ce0_ordinal_8abf5_0 : decode cJx29ce0_ordinal_8abf5 0 = .ok (.aload_n 0, 1) := by decide +kernel
theorem dJx29ce0_ordinal_8abf5_1 : decode cJx29ce0_ordinal_8abf5 1 = .ok (.getfield 7, 3) := by decide +kernel
theorem dJx29ce0_ordinal_8abf5_4 : decode cJx29ce0_ordinal_8abf5 4 = .ok (.ireturn, 1) := by decide +kernel
theorem dJ9_max_7cf53_0 : decode cJ9_max_7cf53 0 = .ok (.iload_n 0, 1) := by decide +kernel
theorem dJ9_max_7cf53_1 : decode cJ9_max_7cf53 1 = .ok (.iload_n 1, 1) := by decide +kernel
theorem dJ9_max_7cf53_2 : decode cJ9_max_7cf53 2 = .ok (.if_icmp .lt 7, 3) := by decide +kernel
theorem dJ9_max_7cf53_5 : decode cJ9_max_7cf53 5 = .ok (.iload_n 0, 1) := by decide +kernel
theorem dJ9_max_7cf53_6 : decode cJ9_max_7cf53 6 = .ok (.goto 4, 3) := by decide +kernel
theorem dJ9_max_7cf53_9 : decode cJ9_max_7cf53 9 = .ok (.iload_n 1, 1) := by decide +kernel
theorem dJ9_max_7cf53_10 : decode cJ9_max_7cf53 10 = .ok (.ireturn, 1) := by decide +kernel
theorem dJ9_min_7cf53_0 : decode cJ9_min_7cf53 0 = .ok (.iload_n 0, 1) := by decide +kernel
theorem dJ9_min_7cf53_1 : decode cJ9_min_7cf53 1 = .ok (.iload_n 1, 1) := by decide +kernel
theorem dJ9_min_7cf53_2 : decode cJ9_min_7cf53 2 = .ok (.if_icmp .gt 7, 3) := by decide +kernel
theorem dJ9_min_7cf53_5 : decode cJ9_min_7cf53 5 = .ok (.iload_n 0, 1) := by decide +kernel
theorem dJ9_min_7cf53_6 : decode cJ9_min_7cf53 6 = .ok (.goto 4, 3) := by decide +kernel
theorem dJ9_min_7cf53_9 : decode cJ9_min_7cf53 9 = .ok (.iload_n 1, 1) := by decide +kernel
theorem dJ9_min_7cf53_10 : decode cJ9_min_7cf53 10 = .ok (.ireturn, 1) := by decide +kernel
theorem dJ0_length_8abf5_0 : decode cJ0_length_8abf5 0 = .ok (.aload_n 0, 1) := by decide +kernel
theorem dJ0_length_8abf5_1 : decode cJ0_length_8abf5 1 = .ok (.getfield 9, 3) := by decide +kernel
theorem dJ0_length_8abf5_4 : decode cJ0_length_8abf5 4 = .ok (.arraylength, 1) := by decide +kernel
theorem dJ0_length_8abf5_5 : decode cJ0_length_8abf5 5 = .ok (.aload_n 0, 1) := by decide +kernel
theorem dJ0_length_8abf5_6 : decode cJ0_length_8abf5 6 = .ok (.invokevirtual 335, 3) := by decide +kernel
theorem dJ0_length_8abf5_9 : decode cJ0_length_8abf5 9 = .ok (.ishr, 1) := by decide +kernel
theorem dJ0_length_8abf5_10 : decode cJ0_length_8abf5 10 = .ok (.ireturn, 1) := by decide +kernel
theorem dJ0_charAt_5068e_0 : decode cJ0_charAt_5068e 0 = .ok (.aload_n 0, 1) := by decide +kernel
theorem dJ0_charAt_5068e_1 : decode cJ0_charAt_5068e 1 = .ok (.invokevirtual 492, 3) := by decide +kernel
theorem dJ0_charAt_5068e_4 : decode cJ0_charAt_5068e 4 = .ok (.ifCond .eq 12, 3) := by decide +kernel
theorem dJ0_charAt_5068e_7 : decode cJ0_charAt_5068e 7 = .ok (.aload_n 0, 1) := by decide +kernel
theorem dJ0_charAt_5068e_8 : decode cJ0_charAt_5068e 8 = .ok (.getfield 9, 3) := by decide +kernel
theorem dJ0_charAt_5068e_11 : decode cJ0_charAt_5068e 11 = .ok (.iload_n 1, 1) := by decide +kernel
theorem dJ0_charAt_5068e_12 : decode cJ0_charAt_5068e 12 = .ok (.invokestatic 495, 3) := by decide +kernel
theorem dJ0_charAt_5068e_15 : decode cJ0_charAt_5068e 15 = .ok (.ireturn, 1) := by decide +kernel
theorem dJ0_charAt_5068e_16 : decode cJ0_charAt_5068e 16 = .ok (.aload_n 0, 1) := by decide +kernel
theorem dJ0_charAt_5068e_17 : decode cJ0_charAt_5068e 17 = .ok (.getfield 9, 3) := by decide +kernel
theorem dJ0_charAt_5068e_20 : decode cJ0_charAt_5068e 20 = .ok (.iload_n 1, 1) := by decide +kernel
theorem dJ0_charAt_5068e_21 : decode cJ0_charAt_5068e 21 = .ok (.invokestatic 498, 3) := by decide +kernel
theorem dJ0_charAt_5068e_24 : decode cJ0_charAt_5068e 24 = .ok (.ireturn, 1) := by decide +kernel
theorem dJ0_coder_7d493_0 : decode cJ0_coder_7d493 0 = .ok (.getstatic 38, 3) := by decide +kernel
theorem dJ0_coder_7d493_3 : decode cJ0_coder_7d493 3 = .ok (.ifCond .eq 10, 3) := by decide +kernel
theorem dJ0_coder_7d493_6 : decode cJ0_coder_7d493 6 = .ok (.aload_n 0, 1) := by decide +kernel
theorem dJ0_coder_7d493_7 : decode cJ0_coder_7d493 7 = .ok (.getfield 15, 3) := by decide +kernel
theorem dJ0_coder_7d493_10 : decode cJ0_coder_7d493 10 = .ok (.goto 4, 3) := by decide +kernel
theorem dJ0_coder_7d493_13 : decode cJ0_coder_7d493 13 = .ok (.iconst 1, 1) := by decide +kernel
theorem dJ0_coder_7d493_14 : decode cJ0_coder_7d493 14 = .ok (.ireturn, 1) := by decide +kernel
theorem dJ0_isLatin1_aae02_0 : decode cJ0_isLatin1_aae02 0 = .ok (.getstatic 38, 3) := by decide +kernel
theorem dJ0_isLatin1_aae02_3 : decode cJ0_isLatin1_aae02 3 = .ok (.ifCond .eq 14, 3) := by decide +kernel
theorem dJ0_isLatin1_aae02_6 : decode cJ0_isLatin1_aae02 6 = .ok (.aload_n 0, 1) := by decide +kernel
theorem dJ0_isLatin1_aae02_7 : decode cJ0_isLatin1_aae02 7 = .ok (.getfield 15, 3) := by decide +kernel
theorem dJ0_isLatin1_aae02_10 : decode cJ0_isLatin1_aae02 10 = .ok (.ifCond .ne 7, 3) := by decide +kernel
theorem dJ0_isLatin1_aae02_13 : decode cJ0_isLatin1_aae02 13 = .ok (.iconst 1, 1) := by decide +kernel
theorem dJ0_isLatin1_aae02_14 : decode cJ0_isLatin1_aae02 14 = .ok (.goto 4, 3) := by decide +kernel
theorem dJ0_isLatin1_aae02_17 : decode cJ0_isLatin1_aae02 17 = .ok (.iconst 0, 1) := by decide +kernel
theorem dJ0_isLatin1_aae02_18 : decode cJ0_isLatin1_aae02 18 = .ok (.ireturn, 1) := by decide +kernel
theorem dJ0_checkIndex_df160_0 : decode cJ0_checkIndex_df160 0 = .ok (.iload_n 0, 1) := by decide +kernel
theorem dJ0_checkIndex_df160_1 : decode cJ0_checkIndex_df160 1 = .ok (.iload_n 1, 1) := by decide +kernel
theorem dJ0_checkIndex_df160_2 : decode cJ0_checkIndex_df160 2 = .ok (.getstatic 1053, 3) := by decide +kernel
theorem dJ0_checkIndex_df160_5 : decode cJ0_checkIndex_df160 5 = .ok (.invokestatic 1059, 3) := by decide +kernel
theorem dJ0_checkIndex_df160_8 : decode cJ0_checkIndex_df160 8 = .ok (.pop, 1) := by decide +kernel
theorem dJ0_checkIndex_df160_9 : decode cJ0_checkIndex_df160 9 = .ok (.return_, 1) := by decide +kernel
theorem dJ1_charAt_3b067_0 : decode cJ1_charAt_3b067 0 = .ok (.iload_n 1, 1) := by decide +kernel
theorem dJ1_charAt_3b067_1 : decode cJ1_charAt_3b067 1 = .ok (.aload_n 0, 1) := by decide +kernel
theorem dJ1_charAt_3b067_2 : decode cJ1_charAt_3b067 2 = .ok (.arraylength, 1) := by decide +kernel
theorem dJ1_charAt_3b067_3 : decode cJ1_charAt_3b067 3 = .ok (.invokestatic 9, 3) := by decide +kernel
theorem dJ1_charAt_3b067_6 : decode cJ1_charAt_3b067 6 = .ok (.aload_n 0, 1) := by decide +kernel
theorem dJ1_charAt_3b067_7 : decode cJ1_charAt_3b067 7 = .ok (.iload_n 1, 1) := by decide +kernel
theorem dJ1_charAt_3b067_8 : decode cJ1_charAt_3b067 8 = .ok (.baload, 1) := by decide +kernel
theorem dJ1_charAt_3b067_9 : decode cJ1_charAt_3b067 9 = .ok (.sipush 255, 3) := by decide +kernel
theorem dJ1_charAt_3b067_12 : decode cJ1_charAt_3b067 12 = .ok (.iand, 1) := by decide +kernel
theorem dJ1_charAt_3b067_13 : decode cJ1_charAt_3b067 13 = .ok (.i2c, 1) := by decide +kernel
theorem dJ1_charAt_3b067_14 : decode cJ1_charAt_3b067 14 = .ok (.ireturn, 1) := by decide +kernel
theorem dJ2_getChar_3b067_0 : decode cJ2_getChar_3b067 0 = .ok (.getstatic 44, 3) := by decide +kernel
theorem dJ2_getChar_3b067_3 : decode cJ2_getChar_3b067 3 = .ok (.ifCond .ne 25, 3) := by decide +kernel
theorem dJ2_getChar_3b067_6 : decode cJ2_getChar_3b067 6 = .ok (.iload_n 1, 1) := by decide +kernel
theorem dJ2_getChar_3b067_7 : decode cJ2_getChar_3b067 7 = .ok (.ifCond .lt 11, 3) := by decide +kernel
theorem dJ2_getChar_3b067_10 : decode cJ2_getChar_3b067 10 = .ok (.iload_n 1, 1) := by decide +kernel
theorem dJ2_getChar_3b067_11 : decode cJ2_getChar_3b067 11 = .ok (.aload_n 0, 1) := by decide +kernel
theorem dJ2_getChar_3b067_12 : decode cJ2_getChar_3b067 12 = .ok (.invokestatic 48, 3) := by decide +kernel
theorem dJ2_getChar_3b067_15 : decode cJ2_getChar_3b067 15 = .ok (.if_icmp .lt 13, 3) := by decide +kernel
theorem dJ2_getChar_3b067_18 : decode cJ2_getChar_3b067 18 = .ok (.new 52, 3) := by decide +kernel
theorem dJ2_getChar_3b067_21 : decode cJ2_getChar_3b067 21 = .ok (.dup, 1) := by decide +kernel
theorem dJ2_getChar_3b067_22 : decode cJ2_getChar_3b067 22 = .ok (.ldc 54, 2) := by decide +kernel
theorem dJ2_getChar_3b067_24 : decode cJ2_getChar_3b067 24 = .ok (.invokespecial 56, 3) := by decide +kernel
theorem dJ2_getChar_3b067_27 : decode cJ2_getChar_3b067 27 = .ok (.athrow, 1) := by decide +kernel
theorem dJ2_getChar_3b067_28 : decode cJ2_getChar_3b067 28 = .ok (.iload_n 1, 1) := by decide +kernel
theorem dJ2_getChar_3b067_29 : decode cJ2_getChar_3b067 29 = .ok (.iconst 1, 1) := by decide +kernel
theorem dJ2_getChar_3b067_30 : decode cJ2_getChar_3b067 30 = .ok (.ishl, 1) := by decide +kernel
theorem dJ2_getChar_3b067_31 : decode cJ2_getChar_3b067 31 = .ok (.istore_n 1, 1) := by decide +kernel
theorem dJ2_getChar_3b067_32 : decode cJ2_getChar_3b067 32 = .ok (.aload_n 0, 1) := by decide +kernel
theorem dJ2_getChar_3b067_33 : decode cJ2_getChar_3b067 33 = .ok (.iload_n 1, 1) := by decide +kernel
theorem dJ2_getChar_3b067_34 : decode cJ2_getChar_3b067 34 = .ok (.iinc 1 1, 3) := by decide +kernel
theorem dJ2_getChar_3b067_37 : decode cJ2_getChar_3b067 37 = .ok (.baload, 1) := by decide +kernel
theorem dJ2_getChar_3b067_38 : decode cJ2_getChar_3b067 38 = .ok (.sipush 255, 3) := by decide +kernel
theorem dJ2_getChar_3b067_41 : decode cJ2_getChar_3b067 41 = .ok (.iand, 1) := by decide +kernel
theorem dJ2_getChar_3b067_42 : decode cJ2_getChar_3b067 42 = .ok (.getstatic 59, 3) := by decide +kernel
theorem dJ2_getChar_3b067_45 : decode cJ2_getChar_3b067 45 = .ok (.ishl, 1) := by decide +kernel
theorem dJ2_getChar_3b067_46 : decode cJ2_getChar_3b067 46 = .ok (.aload_n 0, 1) := by decide +kernel
theorem dJ2_getChar_3b067_47 : decode cJ2_getChar_3b067 47 = .ok (.iload_n 1, 1) := by decide +kernel
theorem dJ2_getChar_3b067_48 : decode cJ2_getChar_3b067 48 = .ok (.baload, 1) := by decide +kernel
theorem dJ2_getChar_3b067_49 : decode cJ2_getChar_3b067 49 = .ok (.sipush 255, 3) := by decide +kernel
theorem dJ2_getChar_3b067_52 : decode cJ2_getChar_3b067 52 = .ok (.iand, 1) := by decide +kernel
theorem dJ2_getChar_3b067_53 : decode cJ2_getChar_3b067 53 = .ok (.getstatic 63, 3) := by decide +kernel
theorem dJ2_getChar_3b067_56 : decode cJ2_getChar_3b067 56 = .ok (.ishl, 1) := by decide +kernel
theorem dJ2_getChar_3b067_57 : decode cJ2_getChar_3b067 57 = .ok (.ior, 1) := by decide +kernel
theorem dJ2_getChar_3b067_58 : decode cJ2_getChar_3b067 58 = .ok (.i2c, 1) := by decide +kernel
theorem dJ2_getChar_3b067_59 : decode cJ2_getChar_3b067 59 = .ok (.ireturn, 1) := by decide +kernel
theorem dJ2_length_9d52b_0 : decode cJ2_length_9d52b 0 = .ok (.aload_n 0, 1) := by decide +kernel
theorem dJ2_length_9d52b_1 : decode cJ2_length_9d52b 1 = .ok (.arraylength, 1) := by decide +kernel
theorem dJ2_length_9d52b_2 : decode cJ2_length_9d52b 2 = .ok (.iconst 1, 1) := by decide +kernel
theorem dJ2_length_9d52b_3 : decode cJ2_length_9d52b 3 = .ok (.ishr, 1) := by decide +kernel
theorem dJ2_length_9d52b_4 : decode cJ2_length_9d52b 4 = .ok (.ireturn, 1) := by decide +kernel
theorem dJ2_charAt_3b067_0 : decode cJ2_charAt_3b067 0 = .ok (.iload_n 1, 1) := by decide +kernel
theorem dJ2_charAt_3b067_1 : decode cJ2_charAt_3b067 1 = .ok (.aload_n 0, 1) := by decide +kernel
theorem dJ2_charAt_3b067_2 : decode cJ2_charAt_3b067 2 = .ok (.invokestatic 67, 3) := by decide +kernel
theorem dJ2_charAt_3b067_5 : decode cJ2_charAt_3b067 5 = .ok (.aload_n 0, 1) := by decide +kernel
theorem dJ2_charAt_3b067_6 : decode cJ2_charAt_3b067 6 = .ok (.iload_n 1, 1) := by decide +kernel
theorem dJ2_charAt_3b067_7 : decode cJ2_charAt_3b067 7 = .ok (.invokestatic 71, 3) := by decide +kernel
theorem dJ2_charAt_3b067_10 : decode cJ2_charAt_3b067 10 = .ok (.ireturn, 1) := by decide +kernel
theorem dJ2_checkIndex_2214a_0 : decode cJ2_checkIndex_2214a 0 = .ok (.iload_n 0, 1) := by decide +kernel
theorem dJ2_checkIndex_2214a_1 : decode cJ2_checkIndex_2214a 1 = .ok (.aload_n 1, 1) := by decide +kernel
theorem dJ2_checkIndex_2214a_2 : decode cJ2_checkIndex_2214a 2 = .ok (.invokestatic 48, 3) := by decide +kernel
theorem dJ2_checkIndex_2214a_5 : decode cJ2_checkIndex_2214a 5 = .ok (.invokestatic 414, 3) := by decide +kernel
theorem dJ2_checkIndex_2214a_8 : decode cJ2_checkIndex_2214a 8 = .ok (.return_, 1) := by decide +kernel
theorem dJxa1e45_init_da8c8_0 : decode cJxa1e45_init_da8c8 0 = .ok (.aload_n 0, 1) := by decide +kernel
theorem dJxa1e45_init_da8c8_1 : decode cJxa1e45_init_da8c8 1 = .ok (.invokespecial 1, 3) := by decide +kernel
theorem dJxa1e45_init_da8c8_4 : decode cJxa1e45_init_da8c8 4 = .ok (.return_, 1) := by decide +kernel
theorem dJxc12de_init_da8c8_0 : decode cJxc12de_init_da8c8 0 = .ok (.aload_n 0, 1) := by decide +kernel
theorem dJxc12de_init_da8c8_1 : decode cJxc12de_init_da8c8 1 = .ok (.invokespecial 1, 3) := by decide +kernel
theorem dJxc12de_init_da8c8_4 : decode cJxc12de_init_da8c8 4 = .ok (.aload_n 0, 1) := by decide +kernel
theorem dJxc12de_init_da8c8_5 : decode cJxc12de_init_da8c8 5 = .ok (.iconst 0, 1) := by decide +kernel
theorem dJxc12de_init_da8c8_6 : decode cJxc12de_init_da8c8 6 = .ok (.putfield 7, 3) := by decide +kernel
theorem dJxc12de_init_da8c8_9 : decode cJxc12de_init_da8c8 9 = .ok (.return_, 1) := by decide +kernel
theorem dJx4a65c_init_da8c8_0 : decode cJx4a65c_init_da8c8 0 = .ok (.aload_n 0, 1) := by decide +kernel
theorem dJx4a65c_init_da8c8_1 : decode cJx4a65c_init_da8c8 1 = .ok (.invokespecial 1, 3) := by decide +kernel
theorem dJx4a65c_init_da8c8_4 : decode cJx4a65c_init_da8c8 4 = .ok (.aload_n 0, 1) := by decide +kernel
theorem dJx4a65c_init_da8c8_5 : decode cJx4a65c_init_da8c8 5 = .ok (.getstatic 39, 3) := by decide +kernel
theorem dJx4a65c_init_da8c8_8 : decode cJx4a65c_init_da8c8 8 = .ok (.putfield 9, 3) := by decide +kernel
theorem dJx4a65c_init_da8c8_11 : decode cJx4a65c_init_da8c8 11 = .ok (.return_, 1) := by decide +kernel
theorem dJx4a65c_grow_92f84_0 : decode cJx4a65c_grow_92f84 0 = .ok (.aload_n 0, 1) := by decide +kernel
theorem dJx4a65c_grow_92f84_1 : decode cJx4a65c_grow_92f84 1 = .ok (.getfield 9, 3) := by decide +kernel
theorem dJx4a65c_grow_92f84_4 : decode cJx4a65c_grow_92f84 4 = .ok (.arraylength, 1) := by decide +kernel
theorem dJx4a65c_grow_92f84_5 : decode cJx4a65c_grow_92f84 5 = .ok (.istore_n 2, 1) := by decide +kernel
theorem dJx4a65c_grow_92f84_6 : decode cJx4a65c_grow_92f84 6 = .ok (.iload_n 2, 1) := by decide +kernel
theorem dJx4a65c_grow_92f84_7 : decode cJx4a65c_grow_92f84 7 = .ok (.ifCond .gt 13, 3) := by decide +kernel
theorem dJx4a65c_grow_92f84_10 : decode cJx4a65c_grow_92f84 10 = .ok (.aload_n 0, 1) := by decide +kernel
theorem dJx4a65c_grow_92f84_11 : decode cJx4a65c_grow_92f84 11 = .ok (.getfield 9, 3) := by decide +kernel
theorem dJx4a65c_grow_92f84_14 : decode cJx4a65c_grow_92f84 14 = .ok (.getstatic 39, 3) := by decide +kernel
theorem dJx4a65c_grow_92f84_17 : decode cJx4a65c_grow_92f84 17 = .ok (.if_acmp .eq 28, 3) := by decide +kernel
theorem dJx4a65c_grow_92f84_20 : decode cJx4a65c_grow_92f84 20 = .ok (.iload_n 2, 1) := by decide +kernel
theorem dJx4a65c_grow_92f84_21 : decode cJx4a65c_grow_92f84 21 = .ok (.iload_n 1, 1) := by decide +kernel
theorem dJx4a65c_grow_92f84_22 : decode cJx4a65c_grow_92f84 22 = .ok (.iload_n 2, 1) := by decide +kernel
theorem dJx4a65c_grow_92f84_23 : decode cJx4a65c_grow_92f84 23 = .ok (.isub, 1) := by decide +kernel
theorem dJx4a65c_grow_92f84_24 : decode cJx4a65c_grow_92f84 24 = .ok (.iload_n 2, 1) := by decide +kernel
theorem dJx4a65c_grow_92f84_25 : decode cJx4a65c_grow_92f84 25 = .ok (.iconst 1, 1) := by decide +kernel
theorem dJx4a65c_grow_92f84_26 : decode cJx4a65c_grow_92f84 26 = .ok (.ishr, 1) := by decide +kernel
theorem dJx4a65c_grow_92f84_27 : decode cJx4a65c_grow_92f84 27 = .ok (.invokestatic 73, 3) := by decide +kernel
theorem dJx4a65c_grow_92f84_30 : decode cJx4a65c_grow_92f84 30 = .ok (.istore_n 3, 1) := by decide +kernel
theorem dJx4a65c_grow_92f84_31 : decode cJx4a65c_grow_92f84 31 = .ok (.aload_n 0, 1) := by decide +kernel
theorem dJx4a65c_grow_92f84_32 : decode cJx4a65c_grow_92f84 32 = .ok (.aload_n 0, 1) := by decide +kernel
theorem dJx4a65c_grow_92f84_33 : decode cJx4a65c_grow_92f84 33 = .ok (.getfield 9, 3) := by decide +kernel
theorem dJx4a65c_grow_92f84_36 : decode cJx4a65c_grow_92f84 36 = .ok (.iload_n 3, 1) := by decide +kernel
theorem dJx4a65c_grow_92f84_37 : decode cJx4a65c_grow_92f84 37 = .ok (.invokestatic 66, 3) := by decide +kernel
theorem dJx4a65c_grow_92f84_40 : decode cJx4a65c_grow_92f84 40 = .ok (.dup_x1, 1) := by decide +kernel
theorem dJx4a65c_grow_92f84_41 : decode cJx4a65c_grow_92f84 41 = .ok (.putfield 9, 3) := by decide +kernel
theorem dJx4a65c_grow_92f84_44 : decode cJx4a65c_grow_92f84 44 = .ok (.areturn, 1) := by decide +kernel
theorem dJx4a65c_grow_92f84_45 : decode cJx4a65c_grow_92f84 45 = .ok (.aload_n 0, 1) := by decide +kernel
theorem dJx4a65c_grow_92f84_46 : decode cJx4a65c_grow_92f84 46 = .ok (.bipush 10, 2) := by decide +kernel
theorem dJx4a65c_grow_92f84_48 : decode cJx4a65c_grow_92f84 48 = .ok (.iload_n 1, 1) := by decide +kernel
theorem dJx4a65c_grow_92f84_49 : decode cJx4a65c_grow_92f84 49 = .ok (.invokestatic 79, 3) := by decide +kernel
theorem dJx4a65c_grow_92f84_52 : decode cJx4a65c_grow_92f84 52 = .ok (.anewarray 7, 3) := by decide +kernel
theorem dJx4a65c_grow_92f84_55 : decode cJx4a65c_grow_92f84 55 = .ok (.dup_x1, 1) := by decide +kernel
theorem dJx4a65c_grow_92f84_56 : decode cJx4a65c_grow_92f84 56 = .ok (.putfield 9, 3) := by decide +kernel
theorem dJx4a65c_grow_92f84_59 : decode cJx4a65c_grow_92f84 59 = .ok (.areturn, 1) := by decide +kernel
theorem dJx4a65c_grow_d5877_0 : decode cJx4a65c_grow_d5877 0 = .ok (.aload_n 0, 1) := by decide +kernel
theorem dJx4a65c_grow_d5877_1 : decode cJx4a65c_grow_d5877 1 = .ok (.aload_n 0, 1) := by decide +kernel
theorem dJx4a65c_grow_d5877_2 : decode cJx4a65c_grow_d5877 2 = .ok (.getfield 48, 3) := by decide +kernel
theorem dJx4a65c_grow_d5877_5 : decode cJx4a65c_grow_d5877 5 = .ok (.iconst 1, 1) := by decide +kernel
theorem dJx4a65c_grow_d5877_6 : decode cJx4a65c_grow_d5877 6 = .ok (.iadd, 1) := by decide +kernel
theorem dJx4a65c_grow_d5877_7 : decode cJx4a65c_grow_d5877 7 = .ok (.invokevirtual 69, 3) := by decide +kernel
theorem dJx4a65c_grow_d5877_10 : decode cJx4a65c_grow_d5877 10 = .ok (.areturn, 1) := by decide +kernel
theorem dJx4a65c_size_8abf5_0 : decode cJx4a65c_size_8abf5 0 = .ok (.aload_n 0, 1) := by decide +kernel
theorem dJx4a65c_size_8abf5_1 : decode cJx4a65c_size_8abf5 1 = .ok (.getfield 48, 3) := by decide +kernel
theorem dJx4a65c_size_8abf5_4 : decode cJx4a65c_size_8abf5 4 = .ok (.ireturn, 1) := by decide +kernel
theorem dJx4a65c_elementData_915e3_0 : decode cJx4a65c_elementData_915e3 0 = .ok (.aload_n 0, 1) := by decide +kernel
theorem dJx4a65c_elementData_915e3_1 : decode cJx4a65c_elementData_915e3 1 = .ok (.getfield 9, 3) := by decide +kernel
theorem dJx4a65c_elementData_915e3_4 : decode cJx4a65c_elementData_915e3 4 = .ok (.iload_n 1, 1) := by decide +kernel
theorem dJx4a65c_elementData_915e3_5 : decode cJx4a65c_elementData_915e3 5 = .ok (.aaload, 1) := by decide +kernel
theorem dJx4a65c_elementData_915e3_6 : decode cJx4a65c_elementData_915e3 6 = .ok (.areturn, 1) := by decide +kernel
theorem dJx4a65c_get_915e3_0 : decode cJx4a65c_get_915e3 0 = .ok (.iload_n 1, 1) := by decide +kernel
theorem dJx4a65c_get_915e3_1 : decode cJx4a65c_get_915e3 1 = .ok (.aload_n 0, 1) := by decide +kernel
theorem dJx4a65c_get_915e3_2 : decode cJx4a65c_get_915e3 2 = .ok (.getfield 48, 3) := by decide +kernel
theorem dJx4a65c_get_915e3_5 : decode cJx4a65c_get_915e3 5 = .ok (.invokestatic 118, 3) := by decide +kernel
theorem dJx4a65c_get_915e3_8 : decode cJx4a65c_get_915e3 8 = .ok (.pop, 1) := by decide +kernel
theorem dJx4a65c_get_915e3_9 : decode cJx4a65c_get_915e3 9 = .ok (.aload_n 0, 1) := by decide +kernel
theorem dJx4a65c_get_915e3_10 : decode cJx4a65c_get_915e3 10 = .ok (.iload_n 1, 1) := by decide +kernel
theorem dJx4a65c_get_915e3_11 : decode cJx4a65c_get_915e3 11 = .ok (.invokevirtual 123, 3) := by decide +kernel
theorem dJx4a65c_get_915e3_14 : decode cJx4a65c_get_915e3 14 = .ok (.areturn, 1) := by decide +kernel
theorem dJx4a65c_add_72be8_0 : decode cJx4a65c_add_72be8 0 = .ok (.iload_n 3, 1) := by decide +kernel
theorem dJx4a65c_add_72be8_1 : decode cJx4a65c_add_72be8 1 = .ok (.aload_n 2, 1) := by decide +kernel
theorem dJx4a65c_add_72be8_2 : decode cJx4a65c_add_72be8 2 = .ok (.arraylength, 1) := by decide +kernel
theorem dJx4a65c_add_72be8_3 : decode cJx4a65c_add_72be8 3 = .ok (.if_icmp .ne 8, 3) := by decide +kernel
theorem dJx4a65c_add_72be8_6 : decode cJx4a65c_add_72be8 6 = .ok (.aload_n 0, 1) := by decide +kernel
theorem dJx4a65c_add_72be8_7 : decode cJx4a65c_add_72be8 7 = .ok (.invokevirtual 129, 3) := by decide +kernel
theorem dJx4a65c_add_72be8_10 : decode cJx4a65c_add_72be8 10 = .ok (.astore_n 2, 1) := by decide +kernel
theorem dJx4a65c_add_72be8_11 : decode cJx4a65c_add_72be8 11 = .ok (.aload_n 2, 1) := by decide +kernel
theorem dJx4a65c_add_72be8_12 : decode cJx4a65c_add_72be8 12 = .ok (.iload_n 3, 1) := by decide +kernel
theorem dJx4a65c_add_72be8_13 : decode cJx4a65c_add_72be8 13 = .ok (.aload_n 1, 1) := by decide +kernel
theorem dJx4a65c_add_72be8_14 : decode cJx4a65c_add_72be8 14 = .ok (.aastore, 1) := by decide +kernel
theorem dJx4a65c_add_72be8_15 : decode cJx4a65c_add_72be8 15 = .ok (.aload_n 0, 1) := by decide +kernel
theorem dJx4a65c_add_72be8_16 : decode cJx4a65c_add_72be8 16 = .ok (.iload_n 3, 1) := by decide +kernel
theorem dJx4a65c_add_72be8_17 : decode cJx4a65c_add_72be8 17 = .ok (.iconst 1, 1) := by decide +kernel
theorem dJx4a65c_add_72be8_18 : decode cJx4a65c_add_72be8 18 = .ok (.iadd, 1) := by decide +kernel
theorem dJx4a65c_add_72be8_19 : decode cJx4a65c_add_72be8 19 = .ok (.putfield 48, 3) := by decide +kernel
theorem dJx4a65c_add_72be8_22 : decode cJx4a65c_add_72be8 22 = .ok (.return_, 1) := by decide +kernel
theorem dJx4a65c_add_9ea2d_0 : decode cJx4a65c_add_9ea2d 0 = .ok (.aload_n 0, 1) := by decide +kernel
theorem dJx4a65c_add_9ea2d_1 : decode cJx4a65c_add_9ea2d 1 = .ok (.dup, 1) := by decide +kernel
theorem dJx4a65c_add_9ea2d_2 : decode cJx4a65c_add_9ea2d 2 = .ok (.getfield 63, 3) := by decide +kernel
theorem dJx4a65c_add_9ea2d_5 : decode cJx4a65c_add_9ea2d 5 = .ok (.iconst 1, 1) := by decide +kernel
theorem dJx4a65c_add_9ea2d_6 : decode cJx4a65c_add_9ea2d 6 = .ok (.iadd, 1) := by decide +kernel
theorem dJx4a65c_add_9ea2d_7 : decode cJx4a65c_add_9ea2d 7 = .ok (.putfield 63, 3) := by decide +kernel
theorem dJx4a65c_add_9ea2d_10 : decode cJx4a65c_add_9ea2d 10 = .ok (.aload_n 0, 1) := by decide +kernel
theorem dJx4a65c_add_9ea2d_11 : decode cJx4a65c_add_9ea2d 11 = .ok (.aload_n 1, 1) := by decide +kernel
theorem dJx4a65c_add_9ea2d_12 : decode cJx4a65c_add_9ea2d 12 = .ok (.aload_n 0, 1) := by decide +kernel
theorem dJx4a65c_add_9ea2d_13 : decode cJx4a65c_add_9ea2d 13 = .ok (.getfield 9, 3) := by decide +kernel
theorem dJx4a65c_add_9ea2d_16 : decode cJx4a65c_add_9ea2d 16 = .ok (.aload_n 0, 1) := by decide +kernel
theorem dJx4a65c_add_9ea2d_17 : decode cJx4a65c_add_9ea2d 17 = .ok (.getfield 48, 3) := by decide +kernel
theorem dJx4a65c_add_9ea2d_20 : decode cJx4a65c_add_9ea2d 20 = .ok (.invokevirtual 131, 3) := by decide +kernel
theorem dJx4a65c_add_9ea2d_23 : decode cJx4a65c_add_9ea2d 23 = .ok (.iconst 1, 1) := by decide +kernel
theorem dJx4a65c_add_9ea2d_24 : decode cJx4a65c_add_9ea2d 24 = .ok (.ireturn, 1) := by decide +kernel
theorem dJ7_copyOf_1904c_0 : decode cJ7_copyOf_1904c 0 = .ok (.aload_n 0, 1) := by decide +kernel
theorem dJ7_copyOf_1904c_1 : decode cJ7_copyOf_1904c 1 = .ok (.iload_n 1, 1) := by decide +kernel
theorem dJ7_copyOf_1904c_2 : decode cJ7_copyOf_1904c 2 = .ok (.aload_n 0, 1) := by decide +kernel
theorem dJ7_copyOf_1904c_3 : decode cJ7_copyOf_1904c 3 = .ok (.invokevirtual 86, 3) := by decide +kernel
theorem dJ7_copyOf_1904c_6 : decode cJ7_copyOf_1904c 6 = .ok (.invokestatic 300, 3) := by decide +kernel
theorem dJ7_copyOf_1904c_9 : decode cJ7_copyOf_1904c 9 = .ok (.areturn, 1) := by decide +kernel
theorem dJ7_copyOf_6403c_0 : decode cJ7_copyOf_6403c 0 = .ok (.aload_n 2, 1) := by decide +kernel
theorem dJ7_copyOf_6403c_1 : decode cJ7_copyOf_6403c 1 = .ok (.ldc 110, 2) := by decide +kernel
theorem dJ7_copyOf_6403c_3 : decode cJ7_copyOf_6403c 3 = .ok (.if_acmp .ne 10, 3) := by decide +kernel
theorem dJ7_copyOf_6403c_6 : decode cJ7_copyOf_6403c 6 = .ok (.iload_n 1, 1) := by decide +kernel
theorem dJ7_copyOf_6403c_7 : decode cJ7_copyOf_6403c 7 = .ok (.anewarray 2, 3) := by decide +kernel
theorem dJ7_copyOf_6403c_10 : decode cJ7_copyOf_6403c 10 = .ok (.goto 14, 3) := by decide +kernel
theorem dJ7_copyOf_6403c_13 : decode cJ7_copyOf_6403c 13 = .ok (.aload_n 2, 1) := by decide +kernel
theorem dJ7_copyOf_6403c_14 : decode cJ7_copyOf_6403c 14 = .ok (.invokevirtual 90, 3) := by decide +kernel
theorem dJ7_copyOf_6403c_17 : decode cJ7_copyOf_6403c 17 = .ok (.iload_n 1, 1) := by decide +kernel
theorem dJ7_copyOf_6403c_18 : decode cJ7_copyOf_6403c 18 = .ok (.invokestatic 95, 3) := by decide +kernel
theorem dJ7_copyOf_6403c_21 : decode cJ7_copyOf_6403c 21 = .ok (.checkcast 110, 3) := by decide +kernel
theorem dJ7_copyOf_6403c_24 : decode cJ7_copyOf_6403c 24 = .ok (.astore_n 3, 1) := by decide +kernel
theorem dJ7_copyOf_6403c_25 : decode cJ7_copyOf_6403c 25 = .ok (.aload_n 0, 1) := by decide +kernel
theorem dJ7_copyOf_6403c_26 : decode cJ7_copyOf_6403c 26 = .ok (.iconst 0, 1) := by decide +kernel
theorem dJ7_copyOf_6403c_27 : decode cJ7_copyOf_6403c 27 = .ok (.aload_n 3, 1) := by decide +kernel
theorem dJ7_copyOf_6403c_28 : decode cJ7_copyOf_6403c 28 = .ok (.iconst 0, 1) := by decide +kernel
theorem dJ7_copyOf_6403c_29 : decode cJ7_copyOf_6403c 29 = .ok (.aload_n 0, 1) := by decide +kernel
theorem dJ7_copyOf_6403c_30 : decode cJ7_copyOf_6403c 30 = .ok (.arraylength, 1) := by decide +kernel
theorem dJ7_copyOf_6403c_31 : decode cJ7_copyOf_6403c 31 = .ok (.iload_n 1, 1) := by decide +kernel
theorem dJ7_copyOf_6403c_32 : decode cJ7_copyOf_6403c 32 = .ok (.invokestatic 304, 3) := by decide +kernel
theorem dJ7_copyOf_6403c_35 : decode cJ7_copyOf_6403c 35 = .ok (.invokestatic 150, 3) := by decide +kernel
theorem dJ7_copyOf_6403c_38 : decode cJ7_copyOf_6403c 38 = .ok (.aload_n 3, 1) := by decide +kernel
theorem dJ7_copyOf_6403c_39 : decode cJ7_copyOf_6403c 39 = .ok (.areturn, 1) := by decide +kernel
theorem dJ15_checkIndex_7cf53_0 : decode cJ15_checkIndex_7cf53 0 = .ok (.iload_n 0, 1) := by decide +kernel
theorem dJ15_checkIndex_7cf53_1 : decode cJ15_checkIndex_7cf53 1 = .ok (.iload_n 1, 1) := by decide +kernel
theorem dJ15_checkIndex_7cf53_2 : decode cJ15_checkIndex_7cf53 2 = .ok (.aconst_null, 1) := by decide +kernel
theorem dJ15_checkIndex_7cf53_3 : decode cJ15_checkIndex_7cf53 3 = .ok (.invokestatic 105, 3) := by decide +kernel
theorem dJ15_checkIndex_7cf53_6 : decode cJ15_checkIndex_7cf53 6 = .ok (.ireturn, 1) := by decide +kernel
theorem dJ8_newLength_cabcc_0 : decode cJ8_newLength_cabcc 0 = .ok (.iload_n 0, 1) := by decide +kernel
theorem dJ8_newLength_cabcc_1 : decode cJ8_newLength_cabcc 1 = .ok (.iload_n 1, 1) := by decide +kernel
theorem dJ8_newLength_cabcc_2 : decode cJ8_newLength_cabcc 2 = .ok (.iload_n 2, 1) := by decide +kernel
theorem dJ8_newLength_cabcc_3 : decode cJ8_newLength_cabcc 3 = .ok (.invokestatic 194, 3) := by decide +kernel
theorem dJ8_newLength_cabcc_6 : decode cJ8_newLength_cabcc 6 = .ok (.iadd, 1) := by decide +kernel
theorem dJ8_newLength_cabcc_7 : decode cJ8_newLength_cabcc 7 = .ok (.istore_n 3, 1) := by decide +kernel
theorem dJ8_newLength_cabcc_8 : decode cJ8_newLength_cabcc 8 = .ok (.iconst 0, 1) := by decide +kernel
theorem dJ8_newLength_cabcc_9 : decode cJ8_newLength_cabcc 9 = .ok (.iload_n 3, 1) := by decide +kernel
theorem dJ8_newLength_cabcc_10 : decode cJ8_newLength_cabcc 10 = .ok (.if_icmp .ge 11, 3) := by decide +kernel
theorem dJ8_newLength_cabcc_13 : decode cJ8_newLength_cabcc 13 = .ok (.iload_n 3, 1) := by decide +kernel
theorem dJ8_newLength_cabcc_14 : decode cJ8_newLength_cabcc 14 = .ok (.ldc 200, 2) := by decide +kernel
theorem dJ8_newLength_cabcc_16 : decode cJ8_newLength_cabcc 16 = .ok (.if_icmp .gt 5, 3) := by decide +kernel
theorem dJ8_newLength_cabcc_19 : decode cJ8_newLength_cabcc 19 = .ok (.iload_n 3, 1) := by decide +kernel
theorem dJ8_newLength_cabcc_20 : decode cJ8_newLength_cabcc 20 = .ok (.ireturn, 1) := by decide +kernel
theorem dJ8_newLength_cabcc_21 : decode cJ8_newLength_cabcc 21 = .ok (.iload_n 0, 1) := by decide +kernel
theorem dJ8_newLength_cabcc_22 : decode cJ8_newLength_cabcc 22 = .ok (.iload_n 1, 1) := by decide +kernel
theorem dJ8_newLength_cabcc_23 : decode cJ8_newLength_cabcc 23 = .ok (.invokestatic 201, 3) := by decide +kernel
theorem dJ8_newLength_cabcc_26 : decode cJ8_newLength_cabcc 26 = .ok (.ireturn, 1) := by decide +kernel
theorem dJ8_hugeLength_7cf53_0 : decode cJ8_hugeLength_7cf53 0 = .ok (.iload_n 0, 1) := by decide +kernel
theorem dJ8_hugeLength_7cf53_1 : decode cJ8_hugeLength_7cf53 1 = .ok (.iload_n 1, 1) := by decide +kernel
theorem dJ8_hugeLength_7cf53_2 : decode cJ8_hugeLength_7cf53 2 = .ok (.iadd, 1) := by decide +kernel
theorem dJ8_hugeLength_7cf53_3 : decode cJ8_hugeLength_7cf53 3 = .ok (.istore_n 2, 1) := by decide +kernel
theorem dJ8_hugeLength_7cf53_4 : decode cJ8_hugeLength_7cf53 4 = .ok (.iload_n 2, 1) := by decide +kernel
theorem dJ8_hugeLength_7cf53_5 : decode cJ8_hugeLength_7cf53 5 = .ok (.ifCond .ge 44, 3) := by decide +kernel
theorem dJ8_hugeLength_7cf53_8 : decode cJ8_hugeLength_7cf53 8 = .ok (.new 204, 3) := by decide +kernel
theorem dJ8_hugeLength_7cf53_11 : decode cJ8_hugeLength_7cf53 11 = .ok (.dup, 1) := by decide +kernel
theorem dJ8_hugeLength_7cf53_12 : decode cJ8_hugeLength_7cf53 12 = .ok (.new 89, 3) := by decide +kernel
theorem dJ8_hugeLength_7cf53_15 : decode cJ8_hugeLength_7cf53 15 = .ok (.dup, 1) := by decide +kernel
theorem dJ8_hugeLength_7cf53_16 : decode cJ8_hugeLength_7cf53 16 = .ok (.invokespecial 91, 3) := by decide +kernel
theorem dJ8_hugeLength_7cf53_19 : decode cJ8_hugeLength_7cf53 19 = .ok (.ldc 206, 2) := by decide +kernel
theorem dJ8_hugeLength_7cf53_21 : decode cJ8_hugeLength_7cf53 21 = .ok (.invokevirtual 94, 3) := by decide +kernel
theorem dJ8_hugeLength_7cf53_24 : decode cJ8_hugeLength_7cf53 24 = .ok (.iload_n 0, 1) := by decide +kernel
theorem dJ8_hugeLength_7cf53_25 : decode cJ8_hugeLength_7cf53 25 = .ok (.invokevirtual 98, 3) := by decide +kernel
theorem dJ8_hugeLength_7cf53_28 : decode cJ8_hugeLength_7cf53 28 = .ok (.ldc 208, 2) := by decide +kernel
theorem dJ8_hugeLength_7cf53_30 : decode cJ8_hugeLength_7cf53 30 = .ok (.invokevirtual 94, 3) := by decide +kernel
theorem dJ8_hugeLength_7cf53_33 : decode cJ8_hugeLength_7cf53 33 = .ok (.iload_n 1, 1) := by decide +kernel
theorem dJ8_hugeLength_7cf53_34 : decode cJ8_hugeLength_7cf53 34 = .ok (.invokevirtual 98, 3) := by decide +kernel
theorem dJ8_hugeLength_7cf53_37 : decode cJ8_hugeLength_7cf53 37 = .ok (.ldc 210, 2) := by decide +kernel
theorem dJ8_hugeLength_7cf53_39 : decode cJ8_hugeLength_7cf53 39 = .ok (.invokevirtual 94, 3) := by decide +kernel
theorem dJ8_hugeLength_7cf53_42 : decode cJ8_hugeLength_7cf53 42 = .ok (.invokevirtual 101, 3) := by decide +kernel
theorem dJ8_hugeLength_7cf53_45 : decode cJ8_hugeLength_7cf53 45 = .ok (.invokespecial 212, 3) := by decide +kernel
theorem dJ8_hugeLength_7cf53_48 : decode cJ8_hugeLength_7cf53 48 = .ok (.athrow, 1) := by decide +kernel
theorem dJ8_hugeLength_7cf53_49 : decode cJ8_hugeLength_7cf53 49 = .ok (.iload_n 2, 1) := by decide +kernel
theorem dJ8_hugeLength_7cf53_50 : decode cJ8_hugeLength_7cf53 50 = .ok (.ldc 200, 2) := by decide +kernel
theorem dJ8_hugeLength_7cf53_52 : decode cJ8_hugeLength_7cf53 52 = .ok (.if_icmp .gt 6, 3) := by decide +kernel
theorem dJ8_hugeLength_7cf53_55 : decode cJ8_hugeLength_7cf53 55 = .ok (.ldc 200, 2) := by decide +kernel
theorem dJ8_hugeLength_7cf53_57 : decode cJ8_hugeLength_7cf53 57 = .ok (.ireturn, 1) := by decide +kernel
theorem dJ8_hugeLength_7cf53_58 : decode cJ8_hugeLength_7cf53 58 = .ok (.iload_n 2, 1) := by decide +kernel
theorem dJ8_hugeLength_7cf53_59 : decode cJ8_hugeLength_7cf53 59 = .ok (.ireturn, 1) := by decide +kernel
theorem dJ3_checkIndex_8e157_0 : decode cJ3_checkIndex_8e157 0 = .ok (.iload_n 0, 1) := by decide +kernel
theorem dJ3_checkIndex_8e157_1 : decode cJ3_checkIndex_8e157 1 = .ok (.ifCond .lt 8, 3) := by decide +kernel
theorem dJ3_checkIndex_8e157_4 : decode cJ3_checkIndex_8e157 4 = .ok (.iload_n 0, 1) := by decide +kernel
theorem dJ3_checkIndex_8e157_5 : decode cJ3_checkIndex_8e157 5 = .ok (.iload_n 1, 1) := by decide +kernel
theorem dJ3_checkIndex_8e157_6 : decode cJ3_checkIndex_8e157 6 = .ok (.if_icmp .lt 10, 3) := by decide +kernel
theorem dJ3_checkIndex_8e157_9 : decode cJ3_checkIndex_8e157 9 = .ok (.aload_n 2, 1) := by decide +kernel
theorem dJ3_checkIndex_8e157_10 : decode cJ3_checkIndex_8e157 10 = .ok (.iload_n 0, 1) := by decide +kernel
theorem dJ3_checkIndex_8e157_11 : decode cJ3_checkIndex_8e157 11 = .ok (.iload_n 1, 1) := by decide +kernel
theorem dJ3_checkIndex_8e157_12 : decode cJ3_checkIndex_8e157 12 = .ok (.invokestatic 95, 3) := by decide +kernel
theorem dJ3_checkIndex_8e157_15 : decode cJ3_checkIndex_8e157 15 = .ok (.athrow, 1) := by decide +kernel
theorem dJ3_checkIndex_8e157_16 : decode cJ3_checkIndex_8e157 16 = .ok (.iload_n 0, 1) := by decide +kernel
theorem dJ3_checkIndex_8e157_17 : decode cJ3_checkIndex_8e157 17 = .ok (.ireturn, 1) := by decide +kernel
theorem dL_law_0 : decode cL_law 0 = .ok (.new 7, 3) := by decide +kernel
theorem dL_law_3 : decode cL_law 3 = .ok (.dup, 1) := by decide +kernel
theorem dL_law_4 : decode cL_law 4 = .ok (.invokespecial 9, 3) := by decide +kernel
theorem dL_law_7 : decode cL_law 7 = .ok (.astore_n 1, 1) := by decide +kernel
theorem dL_law_8 : decode cL_law 8 = .ok (.new 10, 3) := by decide +kernel
theorem dL_law_11 : decode cL_law 11 = .ok (.dup, 1) := by decide +kernel
theorem dL_law_12 : decode cL_law 12 = .ok (.invokespecial 12, 3) := by decide +kernel
theorem dL_law_15 : decode cL_law 15 = .ok (.astore_n 2, 1) := by decide +kernel
theorem dL_law_16 : decode cL_law 16 = .ok (.iconst 0, 1) := by decide +kernel
theorem dL_law_17 : decode cL_law 17 = .ok (.istore_n 3, 1) := by decide +kernel
theorem dL_law_18 : decode cL_law 18 = .ok (.iload_n 3, 1) := by decide +kernel
theorem dL_law_19 : decode cL_law 19 = .ok (.aload_n 0, 1) := by decide +kernel
theorem dL_law_20 : decode cL_law 20 = .ok (.arraylength, 1) := by decide +kernel
theorem dL_law_21 : decode cL_law 21 = .ok (.iconst 5, 1) := by decide +kernel
theorem dL_law_22 : decode cL_law 22 = .ok (.isub, 1) := by decide +kernel
theorem dL_law_23 : decode cL_law 23 = .ok (.if_icmp .gt 448, 3) := by decide +kernel
theorem dL_law_26 : decode cL_law 26 = .ok (.aload_n 0, 1) := by decide +kernel
theorem dL_law_27 : decode cL_law 27 = .ok (.iload_n 3, 1) := by decide +kernel
theorem dL_law_28 : decode cL_law 28 = .ok (.iaload, 1) := by decide +kernel
theorem dL_law_29 : decode cL_law 29 = .ok (.bipush 15, 2) := by decide +kernel
theorem dL_law_31 : decode cL_law 31 = .ok (.iand, 1) := by decide +kernel
theorem dL_law_32 : decode cL_law 32 = .ok (.tableswitch 433 0 14 #[76, 169, 182, 207, 260, 273, 286, 309, 322, 345, 358, 381, 394, 407, 420], 76) := by decide +kernel
theorem dL_law_108 : decode cL_law 108 = .ok (.aload_n 1, 1) := by decide +kernel
theorem dL_law_109 : decode cL_law 109 = .ok (.aload_n 0, 1) := by decide +kernel
theorem dL_law_110 : decode cL_law 110 = .ok (.iload_n 3, 1) := by decide +kernel
theorem dL_law_111 : decode cL_law 111 = .ok (.iconst 1, 1) := by decide +kernel
theorem dL_law_112 : decode cL_law 112 = .ok (.iadd, 1) := by decide +kernel
theorem dL_law_113 : decode cL_law 113 = .ok (.iaload, 1) := by decide +kernel
theorem dL_law_114 : decode cL_law 114 = .ok (.i2l, 1) := by decide +kernel
theorem dL_law_115 : decode cL_law 115 = .ok (.bipush 32, 2) := by decide +kernel
theorem dL_law_117 : decode cL_law 117 = .ok (.lshl, 1) := by decide +kernel
theorem dL_law_118 : decode cL_law 118 = .ok (.aload_n 0, 1) := by decide +kernel
theorem dL_law_119 : decode cL_law 119 = .ok (.iload_n 3, 1) := by decide +kernel
theorem dL_law_120 : decode cL_law 120 = .ok (.iconst 2, 1) := by decide +kernel
theorem dL_law_121 : decode cL_law 121 = .ok (.iadd, 1) := by decide +kernel
theorem dL_law_122 : decode cL_law 122 = .ok (.iaload, 1) := by decide +kernel
theorem dL_law_123 : decode cL_law 123 = .ok (.i2l, 1) := by decide +kernel
theorem dL_law_124 : decode cL_law 124 = .ok (.ldc2_w 13, 3) := by decide +kernel
theorem dL_law_127 : decode cL_law 127 = .ok (.land, 1) := by decide +kernel
theorem dL_law_128 : decode cL_law 128 = .ok (.lor, 1) := by decide +kernel
theorem dL_law_129 : decode cL_law 129 = .ok (.aload_n 0, 1) := by decide +kernel
theorem dL_law_130 : decode cL_law 130 = .ok (.iload_n 3, 1) := by decide +kernel
theorem dL_law_131 : decode cL_law 131 = .ok (.iconst 3, 1) := by decide +kernel
theorem dL_law_132 : decode cL_law 132 = .ok (.iadd, 1) := by decide +kernel
theorem dL_law_133 : decode cL_law 133 = .ok (.iaload, 1) := by decide +kernel
theorem dL_law_134 : decode cL_law 134 = .ok (.i2l, 1) := by decide +kernel
theorem dL_law_135 : decode cL_law 135 = .ok (.bipush 32, 2) := by decide +kernel
theorem dL_law_137 : decode cL_law 137 = .ok (.lshl, 1) := by decide +kernel
theorem dL_law_138 : decode cL_law 138 = .ok (.aload_n 0, 1) := by decide +kernel
theorem dL_law_139 : decode cL_law 139 = .ok (.iload_n 3, 1) := by decide +kernel
theorem dL_law_140 : decode cL_law 140 = .ok (.iconst 4, 1) := by decide +kernel
theorem dL_law_141 : decode cL_law 141 = .ok (.iadd, 1) := by decide +kernel
theorem dL_law_142 : decode cL_law 142 = .ok (.iaload, 1) := by decide +kernel
theorem dL_law_143 : decode cL_law 143 = .ok (.i2l, 1) := by decide +kernel
theorem dL_law_144 : decode cL_law 144 = .ok (.ldc2_w 13, 3) := by decide +kernel
theorem dL_law_147 : decode cL_law 147 = .ok (.land, 1) := by decide +kernel
theorem dL_law_148 : decode cL_law 148 = .ok (.lor, 1) := by decide +kernel
theorem dL_law_149 : decode cL_law 149 = .ok (.invokevirtual 15, 3) := by decide +kernel
theorem dL_law_152 : decode cL_law 152 = .ok (.aload_n 2, 1) := by decide +kernel
theorem dL_law_153 : decode cL_law 153 = .ok (.aload_n 0, 1) := by decide +kernel
theorem dL_law_154 : decode cL_law 154 = .ok (.iload_n 3, 1) := by decide +kernel
theorem dL_law_155 : decode cL_law 155 = .ok (.iconst 1, 1) := by decide +kernel
theorem dL_law_156 : decode cL_law 156 = .ok (.iadd, 1) := by decide +kernel
theorem dL_law_157 : decode cL_law 157 = .ok (.iaload, 1) := by decide +kernel
theorem dL_law_158 : decode cL_law 158 = .ok (.i2l, 1) := by decide +kernel
theorem dL_law_159 : decode cL_law 159 = .ok (.bipush 32, 2) := by decide +kernel
theorem dL_law_161 : decode cL_law 161 = .ok (.lshl, 1) := by decide +kernel
theorem dL_law_162 : decode cL_law 162 = .ok (.aload_n 0, 1) := by decide +kernel
theorem dL_law_163 : decode cL_law 163 = .ok (.iload_n 3, 1) := by decide +kernel
theorem dL_law_164 : decode cL_law 164 = .ok (.iconst 2, 1) := by decide +kernel
theorem dL_law_165 : decode cL_law 165 = .ok (.iadd, 1) := by decide +kernel
theorem dL_law_166 : decode cL_law 166 = .ok (.iaload, 1) := by decide +kernel
theorem dL_law_167 : decode cL_law 167 = .ok (.i2l, 1) := by decide +kernel
theorem dL_law_168 : decode cL_law 168 = .ok (.ldc2_w 13, 3) := by decide +kernel
theorem dL_law_171 : decode cL_law 171 = .ok (.land, 1) := by decide +kernel
theorem dL_law_172 : decode cL_law 172 = .ok (.lor, 1) := by decide +kernel
theorem dL_law_173 : decode cL_law 173 = .ok (.aload_n 0, 1) := by decide +kernel
theorem dL_law_174 : decode cL_law 174 = .ok (.iload_n 3, 1) := by decide +kernel
theorem dL_law_175 : decode cL_law 175 = .ok (.iconst 3, 1) := by decide +kernel
theorem dL_law_176 : decode cL_law 176 = .ok (.iadd, 1) := by decide +kernel
theorem dL_law_177 : decode cL_law 177 = .ok (.iaload, 1) := by decide +kernel
theorem dL_law_178 : decode cL_law 178 = .ok (.i2l, 1) := by decide +kernel
theorem dL_law_179 : decode cL_law 179 = .ok (.bipush 32, 2) := by decide +kernel
theorem dL_law_181 : decode cL_law 181 = .ok (.lshl, 1) := by decide +kernel
theorem dL_law_182 : decode cL_law 182 = .ok (.aload_n 0, 1) := by decide +kernel
theorem dL_law_183 : decode cL_law 183 = .ok (.iload_n 3, 1) := by decide +kernel
theorem dL_law_184 : decode cL_law 184 = .ok (.iconst 4, 1) := by decide +kernel
theorem dL_law_185 : decode cL_law 185 = .ok (.iadd, 1) := by decide +kernel
theorem dL_law_186 : decode cL_law 186 = .ok (.iaload, 1) := by decide +kernel
theorem dL_law_187 : decode cL_law 187 = .ok (.i2l, 1) := by decide +kernel
theorem dL_law_188 : decode cL_law 188 = .ok (.ldc2_w 13, 3) := by decide +kernel
theorem dL_law_191 : decode cL_law 191 = .ok (.land, 1) := by decide +kernel
theorem dL_law_192 : decode cL_law 192 = .ok (.lor, 1) := by decide +kernel
theorem dL_law_193 : decode cL_law 193 = .ok (.invokevirtual 19, 3) := by decide +kernel
theorem dL_law_196 : decode cL_law 196 = .ok (.if_icmp .eq 269, 3) := by decide +kernel
theorem dL_law_199 : decode cL_law 199 = .ok (.iconst 0, 1) := by decide +kernel
theorem dL_law_200 : decode cL_law 200 = .ok (.ireturn, 1) := by decide +kernel
theorem dL_law_201 : decode cL_law 201 = .ok (.aload_n 1, 1) := by decide +kernel
theorem dL_law_202 : decode cL_law 202 = .ok (.invokevirtual 20, 3) := by decide +kernel
theorem dL_law_205 : decode cL_law 205 = .ok (.aload_n 2, 1) := by decide +kernel
theorem dL_law_206 : decode cL_law 206 = .ok (.invokevirtual 24, 3) := by decide +kernel
theorem dL_law_209 : decode cL_law 209 = .ok (.if_icmp .eq 256, 3) := by decide +kernel
theorem dL_law_212 : decode cL_law 212 = .ok (.iconst 0, 1) := by decide +kernel
theorem dL_law_213 : decode cL_law 213 = .ok (.ireturn, 1) := by decide +kernel
theorem dL_law_214 : decode cL_law 214 = .ok (.aload_n 1, 1) := by decide +kernel
theorem dL_law_215 : decode cL_law 215 = .ok (.aload_n 0, 1) := by decide +kernel
theorem dL_law_216 : decode cL_law 216 = .ok (.iload_n 3, 1) := by decide +kernel
theorem dL_law_217 : decode cL_law 217 = .ok (.iconst 1, 1) := by decide +kernel
theorem dL_law_218 : decode cL_law 218 = .ok (.iadd, 1) := by decide +kernel
theorem dL_law_219 : decode cL_law 219 = .ok (.iaload, 1) := by decide +kernel
theorem dL_law_220 : decode cL_law 220 = .ok (.i2c, 1) := by decide +kernel
theorem dL_law_221 : decode cL_law 221 = .ok (.invokevirtual 25, 3) := by decide +kernel
theorem dL_law_224 : decode cL_law 224 = .ok (.aload_n 2, 1) := by decide +kernel
theorem dL_law_225 : decode cL_law 225 = .ok (.aload_n 0, 1) := by decide +kernel
theorem dL_law_226 : decode cL_law 226 = .ok (.iload_n 3, 1) := by decide +kernel
theorem dL_law_227 : decode cL_law 227 = .ok (.iconst 1, 1) := by decide +kernel
theorem dL_law_228 : decode cL_law 228 = .ok (.iadd, 1) := by decide +kernel
theorem dL_law_229 : decode cL_law 229 = .ok (.iaload, 1) := by decide +kernel
theorem dL_law_230 : decode cL_law 230 = .ok (.i2c, 1) := by decide +kernel
theorem dL_law_231 : decode cL_law 231 = .ok (.invokevirtual 29, 3) := by decide +kernel
theorem dL_law_234 : decode cL_law 234 = .ok (.if_icmp .eq 231, 3) := by decide +kernel
theorem dL_law_237 : decode cL_law 237 = .ok (.iconst 0, 1) := by decide +kernel
theorem dL_law_238 : decode cL_law 238 = .ok (.ireturn, 1) := by decide +kernel
theorem dL_law_239 : decode cL_law 239 = .ok (.aload_n 1, 1) := by decide +kernel
theorem dL_law_240 : decode cL_law 240 = .ok (.aload_n 0, 1) := by decide +kernel
theorem dL_law_241 : decode cL_law 241 = .ok (.iload_n 3, 1) := by decide +kernel
theorem dL_law_242 : decode cL_law 242 = .ok (.iconst 1, 1) := by decide +kernel
theorem dL_law_243 : decode cL_law 243 = .ok (.iadd, 1) := by decide +kernel
theorem dL_law_244 : decode cL_law 244 = .ok (.iaload, 1) := by decide +kernel
theorem dL_law_245 : decode cL_law 245 = .ok (.i2l, 1) := by decide +kernel
theorem dL_law_246 : decode cL_law 246 = .ok (.bipush 32, 2) := by decide +kernel
theorem dL_law_248 : decode cL_law 248 = .ok (.lshl, 1) := by decide +kernel
theorem dL_law_249 : decode cL_law 249 = .ok (.aload_n 0, 1) := by decide +kernel
theorem dL_law_250 : decode cL_law 250 = .ok (.iload_n 3, 1) := by decide +kernel
theorem dL_law_251 : decode cL_law 251 = .ok (.iconst 2, 1) := by decide +kernel
theorem dL_law_252 : decode cL_law 252 = .ok (.iadd, 1) := by decide +kernel
theorem dL_law_253 : decode cL_law 253 = .ok (.iaload, 1) := by decide +kernel
theorem dL_law_254 : decode cL_law 254 = .ok (.i2l, 1) := by decide +kernel
theorem dL_law_255 : decode cL_law 255 = .ok (.ldc2_w 13, 3) := by decide +kernel
theorem dL_law_258 : decode cL_law 258 = .ok (.land, 1) := by decide +kernel
theorem dL_law_259 : decode cL_law 259 = .ok (.lor, 1) := by decide +kernel
theorem dL_law_260 : decode cL_law 260 = .ok (.invokevirtual 30, 3) := by decide +kernel
theorem dL_law_263 : decode cL_law 263 = .ok (.aload_n 2, 1) := by decide +kernel
theorem dL_law_264 : decode cL_law 264 = .ok (.aload_n 0, 1) := by decide +kernel
theorem dL_law_265 : decode cL_law 265 = .ok (.iload_n 3, 1) := by decide +kernel
theorem dL_law_266 : decode cL_law 266 = .ok (.iconst 1, 1) := by decide +kernel
theorem dL_law_267 : decode cL_law 267 = .ok (.iadd, 1) := by decide +kernel
theorem dL_law_268 : decode cL_law 268 = .ok (.iaload, 1) := by decide +kernel
theorem dL_law_269 : decode cL_law 269 = .ok (.i2l, 1) := by decide +kernel
theorem dL_law_270 : decode cL_law 270 = .ok (.bipush 32, 2) := by decide +kernel
theorem dL_law_272 : decode cL_law 272 = .ok (.lshl, 1) := by decide +kernel
theorem dL_law_273 : decode cL_law 273 = .ok (.aload_n 0, 1) := by decide +kernel
theorem dL_law_274 : decode cL_law 274 = .ok (.iload_n 3, 1) := by decide +kernel
theorem dL_law_275 : decode cL_law 275 = .ok (.iconst 2, 1) := by decide +kernel
theorem dL_law_276 : decode cL_law 276 = .ok (.iadd, 1) := by decide +kernel
theorem dL_law_277 : decode cL_law 277 = .ok (.iaload, 1) := by decide +kernel
theorem dL_law_278 : decode cL_law 278 = .ok (.i2l, 1) := by decide +kernel
theorem dL_law_279 : decode cL_law 279 = .ok (.ldc2_w 13, 3) := by decide +kernel
theorem dL_law_282 : decode cL_law 282 = .ok (.land, 1) := by decide +kernel
theorem dL_law_283 : decode cL_law 283 = .ok (.lor, 1) := by decide +kernel
theorem dL_law_284 : decode cL_law 284 = .ok (.invokevirtual 34, 3) := by decide +kernel
theorem dL_law_287 : decode cL_law 287 = .ok (.if_icmp .eq 178, 3) := by decide +kernel
theorem dL_law_290 : decode cL_law 290 = .ok (.iconst 0, 1) := by decide +kernel
theorem dL_law_291 : decode cL_law 291 = .ok (.ireturn, 1) := by decide +kernel
theorem dL_law_292 : decode cL_law 292 = .ok (.aload_n 1, 1) := by decide +kernel
theorem dL_law_293 : decode cL_law 293 = .ok (.invokevirtual 35, 3) := by decide +kernel
theorem dL_law_296 : decode cL_law 296 = .ok (.aload_n 2, 1) := by decide +kernel
theorem dL_law_297 : decode cL_law 297 = .ok (.invokevirtual 39, 3) := by decide +kernel
theorem dL_law_300 : decode cL_law 300 = .ok (.if_icmp .eq 165, 3) := by decide +kernel
theorem dL_law_303 : decode cL_law 303 = .ok (.iconst 0, 1) := by decide +kernel
theorem dL_law_304 : decode cL_law 304 = .ok (.ireturn, 1) := by decide +kernel
theorem dL_law_305 : decode cL_law 305 = .ok (.aload_n 1, 1) := by decide +kernel
theorem dL_law_306 : decode cL_law 306 = .ok (.invokevirtual 40, 3) := by decide +kernel
theorem dL_law_309 : decode cL_law 309 = .ok (.aload_n 2, 1) := by decide +kernel
theorem dL_law_310 : decode cL_law 310 = .ok (.invokevirtual 43, 3) := by decide +kernel
theorem dL_law_313 : decode cL_law 313 = .ok (.if_icmp .eq 152, 3) := by decide +kernel
theorem dL_law_316 : decode cL_law 316 = .ok (.iconst 0, 1) := by decide +kernel
theorem dL_law_317 : decode cL_law 317 = .ok (.ireturn, 1) := by decide +kernel
theorem dL_law_318 : decode cL_law 318 = .ok (.aload_n 1, 1) := by decide +kernel
theorem dL_law_319 : decode cL_law 319 = .ok (.aload_n 0, 1) := by decide +kernel
theorem dL_law_320 : decode cL_law 320 = .ok (.iload_n 3, 1) := by decide +kernel
theorem dL_law_321 : decode cL_law 321 = .ok (.iconst 1, 1) := by decide +kernel
theorem dL_law_322 : decode cL_law 322 = .ok (.iadd, 1) := by decide +kernel
theorem dL_law_323 : decode cL_law 323 = .ok (.iaload, 1) := by decide +kernel
theorem dL_law_324 : decode cL_law 324 = .ok (.invokevirtual 44, 3) := by decide +kernel
theorem dL_law_327 : decode cL_law 327 = .ok (.aload_n 2, 1) := by decide +kernel
theorem dL_law_328 : decode cL_law 328 = .ok (.aload_n 0, 1) := by decide +kernel
theorem dL_law_329 : decode cL_law 329 = .ok (.iload_n 3, 1) := by decide +kernel
theorem dL_law_330 : decode cL_law 330 = .ok (.iconst 1, 1) := by decide +kernel
theorem dL_law_331 : decode cL_law 331 = .ok (.iadd, 1) := by decide +kernel
theorem dL_law_332 : decode cL_law 332 = .ok (.iaload, 1) := by decide +kernel
theorem dL_law_333 : decode cL_law 333 = .ok (.invokevirtual 48, 3) := by decide +kernel
theorem dL_law_336 : decode cL_law 336 = .ok (.if_icmp .eq 129, 3) := by decide +kernel
theorem dL_law_339 : decode cL_law 339 = .ok (.iconst 0, 1) := by decide +kernel
theorem dL_law_340 : decode cL_law 340 = .ok (.ireturn, 1) := by decide +kernel
theorem dL_law_341 : decode cL_law 341 = .ok (.aload_n 1, 1) := by decide +kernel
theorem dL_law_342 : decode cL_law 342 = .ok (.invokevirtual 49, 3) := by decide +kernel
theorem dL_law_345 : decode cL_law 345 = .ok (.aload_n 2, 1) := by decide +kernel
theorem dL_law_346 : decode cL_law 346 = .ok (.invokevirtual 52, 3) := by decide +kernel
theorem dL_law_349 : decode cL_law 349 = .ok (.if_icmp .eq 116, 3) := by decide +kernel
theorem dL_law_352 : decode cL_law 352 = .ok (.iconst 0, 1) := by decide +kernel
theorem dL_law_353 : decode cL_law 353 = .ok (.ireturn, 1) := by decide +kernel
theorem dL_law_354 : decode cL_law 354 = .ok (.aload_n 1, 1) := by decide +kernel
theorem dL_law_355 : decode cL_law 355 = .ok (.aload_n 0, 1) := by decide +kernel
theorem dL_law_356 : decode cL_law 356 = .ok (.iload_n 3, 1) := by decide +kernel
theorem dL_law_357 : decode cL_law 357 = .ok (.iconst 1, 1) := by decide +kernel
theorem dL_law_358 : decode cL_law 358 = .ok (.iadd, 1) := by decide +kernel
theorem dL_law_359 : decode cL_law 359 = .ok (.iaload, 1) := by decide +kernel
theorem dL_law_360 : decode cL_law 360 = .ok (.invokevirtual 53, 3) := by decide +kernel
theorem dL_law_363 : decode cL_law 363 = .ok (.aload_n 2, 1) := by decide +kernel
theorem dL_law_364 : decode cL_law 364 = .ok (.aload_n 0, 1) := by decide +kernel
theorem dL_law_365 : decode cL_law 365 = .ok (.iload_n 3, 1) := by decide +kernel
theorem dL_law_366 : decode cL_law 366 = .ok (.iconst 1, 1) := by decide +kernel
theorem dL_law_367 : decode cL_law 367 = .ok (.iadd, 1) := by decide +kernel
theorem dL_law_368 : decode cL_law 368 = .ok (.iaload, 1) := by decide +kernel
theorem dL_law_369 : decode cL_law 369 = .ok (.invokevirtual 57, 3) := by decide +kernel
theorem dL_law_372 : decode cL_law 372 = .ok (.if_icmp .eq 93, 3) := by decide +kernel
theorem dL_law_375 : decode cL_law 375 = .ok (.iconst 0, 1) := by decide +kernel
theorem dL_law_376 : decode cL_law 376 = .ok (.ireturn, 1) := by decide +kernel
theorem dL_law_377 : decode cL_law 377 = .ok (.aload_n 1, 1) := by decide +kernel
theorem dL_law_378 : decode cL_law 378 = .ok (.invokevirtual 58, 3) := by decide +kernel
theorem dL_law_381 : decode cL_law 381 = .ok (.aload_n 2, 1) := by decide +kernel
theorem dL_law_382 : decode cL_law 382 = .ok (.invokevirtual 61, 3) := by decide +kernel
theorem dL_law_385 : decode cL_law 385 = .ok (.if_icmp .eq 80, 3) := by decide +kernel
theorem dL_law_388 : decode cL_law 388 = .ok (.iconst 0, 1) := by decide +kernel
theorem dL_law_389 : decode cL_law 389 = .ok (.ireturn, 1) := by decide +kernel
theorem dL_law_390 : decode cL_law 390 = .ok (.aload_n 1, 1) := by decide +kernel
theorem dL_law_391 : decode cL_law 391 = .ok (.aload_n 0, 1) := by decide +kernel
theorem dL_law_392 : decode cL_law 392 = .ok (.iload_n 3, 1) := by decide +kernel
theorem dL_law_393 : decode cL_law 393 = .ok (.iconst 1, 1) := by decide +kernel
theorem dL_law_394 : decode cL_law 394 = .ok (.iadd, 1) := by decide +kernel
theorem dL_law_395 : decode cL_law 395 = .ok (.iaload, 1) := by decide +kernel
theorem dL_law_396 : decode cL_law 396 = .ok (.invokevirtual 62, 3) := by decide +kernel
theorem dL_law_399 : decode cL_law 399 = .ok (.aload_n 2, 1) := by decide +kernel
theorem dL_law_400 : decode cL_law 400 = .ok (.aload_n 0, 1) := by decide +kernel
theorem dL_law_401 : decode cL_law 401 = .ok (.iload_n 3, 1) := by decide +kernel
theorem dL_law_402 : decode cL_law 402 = .ok (.iconst 1, 1) := by decide +kernel
theorem dL_law_403 : decode cL_law 403 = .ok (.iadd, 1) := by decide +kernel
theorem dL_law_404 : decode cL_law 404 = .ok (.iaload, 1) := by decide +kernel
theorem dL_law_405 : decode cL_law 405 = .ok (.invokevirtual 65, 3) := by decide +kernel
theorem dL_law_408 : decode cL_law 408 = .ok (.if_icmp .eq 57, 3) := by decide +kernel
theorem dL_law_411 : decode cL_law 411 = .ok (.iconst 0, 1) := by decide +kernel
theorem dL_law_412 : decode cL_law 412 = .ok (.ireturn, 1) := by decide +kernel
theorem dL_law_413 : decode cL_law 413 = .ok (.aload_n 1, 1) := by decide +kernel
theorem dL_law_414 : decode cL_law 414 = .ok (.invokevirtual 66, 3) := by decide +kernel
theorem dL_law_417 : decode cL_law 417 = .ok (.aload_n 2, 1) := by decide +kernel
theorem dL_law_418 : decode cL_law 418 = .ok (.invokevirtual 69, 3) := by decide +kernel
theorem dL_law_421 : decode cL_law 421 = .ok (.if_icmp .eq 44, 3) := by decide +kernel
theorem dL_law_424 : decode cL_law 424 = .ok (.iconst 0, 1) := by decide +kernel
theorem dL_law_425 : decode cL_law 425 = .ok (.ireturn, 1) := by decide +kernel
theorem dL_law_426 : decode cL_law 426 = .ok (.aload_n 1, 1) := by decide +kernel
theorem dL_law_427 : decode cL_law 427 = .ok (.invokevirtual 70, 3) := by decide +kernel
theorem dL_law_430 : decode cL_law 430 = .ok (.aload_n 2, 1) := by decide +kernel
theorem dL_law_431 : decode cL_law 431 = .ok (.invokevirtual 73, 3) := by decide +kernel
theorem dL_law_434 : decode cL_law 434 = .ok (.if_icmp .eq 31, 3) := by decide +kernel
theorem dL_law_437 : decode cL_law 437 = .ok (.iconst 0, 1) := by decide +kernel
theorem dL_law_438 : decode cL_law 438 = .ok (.ireturn, 1) := by decide +kernel
theorem dL_law_439 : decode cL_law 439 = .ok (.aload_n 1, 1) := by decide +kernel
theorem dL_law_440 : decode cL_law 440 = .ok (.invokevirtual 74, 3) := by decide +kernel
theorem dL_law_443 : decode cL_law 443 = .ok (.aload_n 2, 1) := by decide +kernel
theorem dL_law_444 : decode cL_law 444 = .ok (.invokevirtual 77, 3) := by decide +kernel
theorem dL_law_447 : decode cL_law 447 = .ok (.if_icmp .eq 18, 3) := by decide +kernel
theorem dL_law_450 : decode cL_law 450 = .ok (.iconst 0, 1) := by decide +kernel
theorem dL_law_451 : decode cL_law 451 = .ok (.ireturn, 1) := by decide +kernel
theorem dL_law_452 : decode cL_law 452 = .ok (.aload_n 1, 1) := by decide +kernel
theorem dL_law_453 : decode cL_law 453 = .ok (.invokevirtual 78, 3) := by decide +kernel
theorem dL_law_456 : decode cL_law 456 = .ok (.aload_n 2, 1) := by decide +kernel
theorem dL_law_457 : decode cL_law 457 = .ok (.invokevirtual 81, 3) := by decide +kernel
theorem dL_law_460 : decode cL_law 460 = .ok (.if_icmp .eq 5, 3) := by decide +kernel
theorem dL_law_463 : decode cL_law 463 = .ok (.iconst 0, 1) := by decide +kernel
theorem dL_law_464 : decode cL_law 464 = .ok (.ireturn, 1) := by decide +kernel
theorem dL_law_465 : decode cL_law 465 = .ok (.iinc 3 5, 3) := by decide +kernel
theorem dL_law_468 : decode cL_law 468 = .ok (.goto (-450), 3) := by decide +kernel
theorem dL_law_471 : decode cL_law 471 = .ok (.iconst 1, 1) := by decide +kernel
theorem dL_law_472 : decode cL_law 472 = .ok (.ireturn, 1) := by decide +kernel
end
section
/-! The abstract heap: three maps (ints, longs, references) by (kind, number) and slot, and how many cells there are; kinds and their places are fixed, as the program makes its cells in one order. -/
abbrev Ad : Type := Nat × Nat
abbrev AV : Type := Int32 ⊕ Int64 ⊕ (Nat × Option Nat)
abbrev aI (x : Int32) : AV := Sum.inl x
abbrev aL (x : Int64) : AV := Sum.inr (Sum.inl x)
abbrev aA (t : Nat) (o : Option Nat) : AV := Sum.inr (Sum.inr (t, o))
abbrev Hp : Type := (Ad → Nat → Int32) × (Ad → Nat → Int64) × (Ad → Nat → Option Nat) × Nat
def gI (h : Hp) (a : Ad) (s : Nat) : Int32 := h.1 a s
def gL (h : Hp) (a : Ad) (s : Nat) : Int64 := h.2.1 a s
def gR (h : Hp) (a : Ad) (s : Nat) : Option Nat := h.2.2.1 a s
def gn (h : Hp) : Nat := h.2.2.2
def sI (h : Hp) (a : Ad) (s : Nat) (v : Int32) : Hp := (fun b t => if b = a ∧ t = s then v else h.1 b t, h.2)
def sL (h : Hp) (a : Ad) (s : Nat) (v : Int64) : Hp := (h.1, fun b t => if b = a ∧ t = s then v else h.2.1 b t, h.2.2)
def sR (h : Hp) (a : Ad) (s : Nat) (v : Option Nat) : Hp := (h.1, h.2.1, fun b t => if b = a ∧ t = s then v else h.2.2.1 b t, h.2.2.2)
def sN (h : Hp) : Hp := (h.1, h.2.1, h.2.2.1, h.2.2.2 + 1)
theorem gI_sI (h : Hp) (a b : Ad) (s t : Nat) (v : Int32) : gI (sI h a s v) b t = if b = a ∧ t = s then v else gI h b t := rfl
theorem gI_sL (h : Hp) (a b : Ad) (s t : Nat) (v : Int64) : gI (sL h a s v) b t = gI h b t := rfl
theorem gI_sR (h : Hp) (a b : Ad) (s t : Nat) (v : Option Nat) : gI (sR h a s v) b t = gI h b t := rfl
theorem gI_sN (h : Hp) (b : Ad) (t : Nat) : gI (sN h) b t = gI h b t := rfl
theorem gL_sL (h : Hp) (a b : Ad) (s t : Nat) (v : Int64) : gL (sL h a s v) b t = if b = a ∧ t = s then v else gL h b t := rfl
theorem gL_sI (h : Hp) (a b : Ad) (s t : Nat) (v : Int32) : gL (sI h a s v) b t = gL h b t := rfl
theorem gL_sR (h : Hp) (a b : Ad) (s t : Nat) (v : Option Nat) : gL (sR h a s v) b t = gL h b t := rfl
theorem gL_sN (h : Hp) (b : Ad) (t : Nat) : gL (sN h) b t = gL h b t := rfl
theorem gR_sR (h : Hp) (a b : Ad) (s t : Nat) (v : Option Nat) : gR (sR h a s v) b t = if b = a ∧ t = s then v else gR h b t := rfl
theorem gR_sI (h : Hp) (a b : Ad) (s t : Nat) (v : Int32) : gR (sI h a s v) b t = gR h b t := rfl
theorem gR_sL (h : Hp) (a b : Ad) (s t : Nat) (v : Int64) : gR (sL h a s v) b t = gR h b t := rfl
theorem gR_sN (h : Hp) (b : Ad) (t : Nat) : gR (sN h) b t = gR h b t := rfl
theorem gn_sI (h : Hp) (a : Ad) (s : Nat) (v : Int32) : gn (sI h a s v) = gn h := rfl
theorem gn_sL (h : Hp) (a : Ad) (s : Nat) (v : Int64) : gn (sL h a s v) = gn h := rfl
theorem gn_sR (h : Hp) (a : Ad) (s : Nat) (v : Option Nat) : gn (sR h a s v) = gn h := rfl
theorem gn_sN (h : Hp) : gn (sN h) = gn h + 1 := rfl
/-- the place of a cell in the order of making, and back -/
def pos (a : Ad) : Nat := if a.1 < 5 then a.1 else if a.1 = 5 then 5 + 2 * a.2 else if a.1 = 6 then 6 + 2 * a.2 else if a.1 < 14 then a.1 + 46 else if a.1 = 14 then 60 + a.2 else if a.1 = 15 then (if a.2 = 0 then 74 else 75 + a.2) else if a.1 = 16 then 75 else a.1 + 42
def unp (k : Nat) : Ad := if k < 5 then (k, 0) else if k < 53 then (5 + (k - 5) % 2, (k - 5) / 2) else if k < 60 then (k - 46, 0) else if k < 62 then (14, k - 60) else if k < 74 then (k - 42, 0) else if k = 74 then (15, 0) else if k = 75 then (16, 1) else (15, k - 75)
theorem pos_unp (k : Nat) : pos (unp k) = k := by
  unfold unp
  by_cases h1 : k < 5
  · rw [if_pos h1]; simp [pos, h1]
  rw [if_neg h1]
  by_cases h2 : k < 53
  · rw [if_pos h2]
    rcases Nat.mod_two_eq_zero_or_one (k - 5) with h | h
    · rw [h]; simp [pos]; omega
    · rw [h]; simp [pos]; omega
  rw [if_neg h2]
  by_cases h3 : k < 60
  · rw [if_pos h3]
    have e1 : ¬ k - 46 < 5 := by omega
    have e2 : ¬ k - 46 = 5 := by omega
    have e3 : ¬ k - 46 = 6 := by omega
    have e4 : k - 46 < 14 := by omega
    simp only [pos, if_neg e1, if_neg e2, if_neg e3, if_pos e4]; omega
  rw [if_neg h3]
  by_cases h4 : k < 62
  · rw [if_pos h4]; simp [pos]; omega
  rw [if_neg h4]
  by_cases h5 : k < 74
  · rw [if_pos h5]
    have e1 : ¬ k - 42 < 5 := by omega
    have e2 : ¬ k - 42 = 5 := by omega
    have e3 : ¬ k - 42 = 6 := by omega
    have e4 : ¬ k - 42 < 14 := by omega
    have e5 : ¬ k - 42 = 14 := by omega
    have e6 : ¬ k - 42 = 15 := by omega
    have e7 : ¬ k - 42 = 16 := by omega
    simp only [pos, if_neg e1, if_neg e2, if_neg e3, if_neg e4, if_neg e5, if_neg e6, if_neg e7]; omega
  rw [if_neg h5]
  by_cases h6 : k = 74
  · rw [if_pos h6]; simp [pos, h6]
  rw [if_neg h6]
  by_cases h7 : k = 75
  · rw [if_pos h7]; simp [pos, h7]
  rw [if_neg h7]
  have e1 : ¬ k - 75 = 0 := by omega
  simp only [pos]
  rw [if_neg (by omega), if_neg (by omega), if_neg (by omega), if_neg (by omega), if_neg (by omega), if_pos trivial, if_neg e1]; omega
theorem unp_kind (k : Nat) : (unp k).1 < 100 ∧ unp k ≠ (16, 0) := by
  unfold unp
  constructor
  · repeat' split
    all_goals (simp; try omega)
  · repeat' split
    all_goals (simp [Prod.ext_iff]; try omega)
/-- what is known of the launch: the base, where the constants lie, class numbers and slots, the numbers of the array classes -/
abbrev GG : Type := Nat × (Ad → Nat) × va_G × (Nat → ClassId)
def loc (G : GG) (a : Ad) : Nat := if a.1 < 100 ∧ a ≠ (16, 0) then G.1 + pos a else G.2.1 a
def rO (G : GG) (t : Nat) (o : Option Nat) : Value := va_rf (o.map fun i => loc G (t, i))
def vv (G : GG) : AV → Value
  | .inl x => .int x
  | .inr (.inl x) => .long x
  | .inr (.inr q) => rO G q.1 q.2
def A_ (G : GG) : Nat → Prop := fun q => G.1 ≤ q
/-- kinds: an object (its class's place in vwCl; its fields: 0 int, 1 boolean, 2 long, 100 + t a reference to kind t), or an array (0 int, 1 char, 2 long, 3 nodes, 4 objects; its length) -/
def shp (t : Nat) : (Nat × List Nat) ⊕ (Nat × Nat) := match t with
  | 0 => .inl (9, [101, 103, 107, 108, 110, 112, 114, 114, 1, 0, 105, 105, 1, 202, 0, 0])
  | 1 => .inl (3, [102, 0])
  | 2 => .inr (1, 32)
  | 3 => .inl (8, [104])
  | 4 => .inr (3, 24)
  | 5 => .inl (6, [106, 0, 1, 1, 2, 105])
  | 6 => .inr (0, 32)
  | 7 => .inl (0, [0, 116, 0])
  | 8 => .inl (7, [109, 0, 1, 1, 105, 105, 2])
  | 9 => .inr (2, 16)
  | 10 => .inl (5, [111, 0])
  | 11 => .inr (1, 168)
  | 12 => .inl (2, [113, 0, 0, 0, 105, 105, 2, 1])
  | 13 => .inr (0, 192)
  | 14 => .inl (4, [0, 2, 105])
  | 15 => .inl (1, [2, 2, 105])
  | 16 => .inr (4, 10)
  | 20 => .inl (10, [121, 122, 123, 124, 125, 0, 126, 127, 128, 0, 129, 0, 1, 0, 0, 130, 0, 0, 1, 2, 0, 0, 2, 0, 0, 0, 0, 0, 0, 0, 0, 131, 0, 1, 0, 2])
  | 21 => .inr (0, 24)
  | 22 => .inr (0, 24)
  | 23 => .inr (2, 24)
  | 24 => .inr (0, 24)
  | 25 => .inr (0, 768)
  | 26 => .inr (2, 4)
  | 27 => .inr (2, 4)
  | 28 => .inr (0, 4)
  | 29 => .inr (1, 32)
  | 30 => .inr (1, 200)
  | _ => .inr (0, 200)
def mkV (G : GG) (h : Hp) (a : Ad) (s : Nat) (ty : Nat) : Value := if ty < 2 then .int (gI h a s) else if ty = 2 then .long (gL h a s) else rO G (ty - 100) (gR h a s)
def mkF (G : GG) (h : Hp) (a : Ad) : List Nat → Nat → List Value
  | [], _ => []
  | ty :: r, s => mkV G h a s ty :: mkF G h a r (s + 1)
def mkA (G : GG) (h : Hp) (a : Ad) (k len : Nat) : vp_A := (len, if k < 2 then .inl (gI h a) else if k = 2 then .inr (.inl (gL h a)) else .inr (.inr (.inr (.inr fun j => (gR h a j).map fun i => loc G (if k = 3 then 5 else 15, i)))))
def cellE (G : GG) (h : Hp) (a : Ad) : va_E := match shp a.1 with
  | .inl q => .inr (q.1, mkF G h a q.2 0)
  | .inr q => .inl (G.2.2.2 q.1, mkA G h a q.1 q.2)
def wl (G : GG) (h : Hp) : va_W := (List.range (gn h)).map fun k => (G.1 + k, cellE G h (unp k))
def aTy (k : Nat) : FieldType := match k with
  | 0 => .int
  | 1 => .char
  | 2 => .long
  | 3 => .object "RootedFerry$Node"
  | _ => .object "java/lang/Object"
def tysL (G : GG) : List (ClassId × FieldType) := (List.range 5).map fun k => (G.2.2.2 k, aTy k)
/-- final references, by kind, number and slot -/
def FR (t i s : Nat) : Option Nat := match t, s with
  | 0, 0 => some 0
  | 0, 1 => some 0
  | 0, 2 => some 0
  | 0, 3 => some 0
  | 0, 4 => some 0
  | 0, 5 => some 0
  | 0, 6 => some 0
  | 0, 7 => some 1
  | 1, 0 => some 0
  | 3, 0 => some 0
  | 5, 0 => some i
  | 8, 0 => some 0
  | 10, 0 => some 0
  | 12, 0 => some 0
  | 20, 0 => some 0
  | 20, 1 => some 0
  | 20, 2 => some 0
  | 20, 3 => some 0
  | 20, 4 => some 0
  | 20, 6 => some 0
  | 20, 7 => some 0
  | 20, 8 => some 0
  | 20, 10 => some 0
  | 20, 15 => some 0
  | 20, 31 => some 0
  | _, _ => none
def Fok (h : Hp) : Prop := (∀ t i s j : Nat, unp (pos (t, i)) = (t, i) → pos (t, i) < 74 → FR t i s = some j → gR h (t, i) s = some j) ∧ ∀ i : Nat, i < 24 → gR h (4, 0) i = some i
def Fresh (h : Hp) : Prop := ∀ k : Nat, gn h ≤ k → ∀ s : Nat, gI h (unp k) s = 0 ∧ gL h (unp k) s = 0 ∧ gR h (unp k) s = none
def WR (ph : Bool) (G : GG) (h : Hp) (H : Heap) : Prop := H.size = G.1 + gn h ∧ va_P G.2.2.1 vwCl (wl G h) H ∧ Fresh h ∧ (ph = true → Fok h ∧ 74 ≤ gn h)
/-- a cell is there: by the count, or as all cells of the two made objects are -/
def lvq (ph : Bool) (h : Hp) (a : Ad) : Prop := unp (pos a) = a ∧ (pos a < gn h ∨ (ph = true ∧ pos a < 74))
theorem lvq_st {h : Hp} {a : Ad} (e : (decide (unp (pos a) = a) && decide (pos a < 74)) = true) : lvq true h a := by
  simp only [Bool.and_eq_true, decide_eq_true_eq] at e
  exact ⟨e.1, Or.inr ⟨rfl, e.2⟩⟩
theorem unp_nd {i : Nat} (hi : i < 24) : unp (pos (5, i)) = (5, i) ∧ pos (5, i) < 74 := by
  have e : pos (5, i) = 5 + 2 * i := by simp [pos]
  rw [e]
  refine ⟨?_, by omega⟩
  unfold unp
  rw [if_neg (by omega), if_pos (by omega)]
  exact Prod.ext (by show 5 + (5 + 2 * i - 5) % 2 = 5; omega) (by show (5 + 2 * i - 5) / 2 = i; omega)
theorem unp_nc {i : Nat} (hi : i < 24) : unp (pos (6, i)) = (6, i) ∧ pos (6, i) < 74 := by
  have e : pos (6, i) = 6 + 2 * i := by simp [pos]
  rw [e]
  refine ⟨?_, by omega⟩
  unfold unp
  rw [if_neg (by omega), if_pos (by omega)]
  exact Prod.ext (by show 5 + (6 + 2 * i - 5) % 2 = 6; omega) (by show (6 + 2 * i - 5) / 2 = i; omega)
theorem unp_me {i : Nat} (hi : i < 2) : unp (pos (14, i)) = (14, i) ∧ pos (14, i) < 74 := by
  rcases (show i = 0 ∨ i = 1 by omega) with rfl | rfl <;> decide
theorem lvq_nd {h : Hp} {i : Nat} (hi : i < 24) : lvq true h (5, i) := ⟨(unp_nd hi).1, Or.inr ⟨rfl, (unp_nd hi).2⟩⟩
theorem lvq_nc {h : Hp} {i : Nat} (hi : i < 24) : lvq true h (6, i) := ⟨(unp_nc hi).1, Or.inr ⟨rfl, (unp_nc hi).2⟩⟩
theorem lvq_me {h : Hp} {i : Nat} (hi : i < 2) : lvq true h (14, i) := ⟨(unp_me hi).1, Or.inr ⟨rfl, (unp_me hi).2⟩⟩
theorem lvq_lt {ph : Bool} {G : GG} {h : Hp} {H : Heap} {a : Ad} (hW : WR ph G h H) (hv : lvq ph h a) : pos a < gn h := by
  rcases hv.2 with q | ⟨q, q2⟩
  · exact q
  · exact Nat.lt_of_lt_of_le q2 (hW.2.2.2 q).2
theorem loc_live {G : GG} {a : Ad} (e : unp (pos a) = a) : loc G a = G.1 + pos a := by
  have k := unp_kind (pos a)
  rw [e] at k
  rw [loc, if_pos k]
theorem wl_len (G : GG) (h : Hp) : (wl G h).length = gn h := by simp [wl]
theorem wl_at {G : GG} {h : Hp} {k : Nat} (hk : k < gn h) : (wl G h)[k]? = some (G.1 + k, cellE G h (unp k)) := by
  simp [wl, hk]
theorem wl_cell {ph : Bool} {G : GG} {h : Hp} {H : Heap} {a : Ad} (hW : WR ph G h H) (hv : lvq ph h a) : (wl G h)[pos a]? = some (loc G a, cellE G h a) := by
  rw [wl_at (lvq_lt hW hv), hv.1, loc_live hv.1]
theorem wl_D (G : GG) (h : Hp) : va_D (A_ G) (wl G h) := by
  have key : ∀ (k : Nat) (q : Nat × va_E), (wl G h)[k]? = some q → q.1 = G.1 + k := by
    intro k q hq
    have hk : k < gn h := by
      have := (List.getElem?_eq_some_iff.mp hq).1
      rwa [wl_len] at this
    rw [wl_at hk] at hq
    cases hq
    rfl
  refine ⟨fun i j p q hi hj e => ?_, fun k q hq => ?_⟩
  · rw [key i p hi, key j q hj] at e; omega
  · show G.1 ≤ q.1; rw [key k q hq]; omega
/-- one cell is written: the world behind it -/
theorem wl_set {G : GG} {h h' : Hp} {a : Ad} (e : unp (pos a) = a) (hn : gn h' = gn h) (hc : ∀ b : Ad, b ≠ a → cellE G h' b = cellE G h b) : (wl G h).set (pos a) (loc G a, cellE G h' a) = wl G h' := by
  apply List.ext_getElem?
  intro k
  by_cases hk : k < gn h
  · by_cases hp : k = pos a
    · subst hp
      rw [List.getElem?_set_self (by rw [wl_len]; exact hk), wl_at (by rw [hn]; exact hk), e, loc_live e]
    · rw [List.getElem?_set_ne (Ne.symm hp), wl_at hk, wl_at (by rw [hn]; exact hk), hc]
      intro q
      exact hp (by rw [← q, pos_unp])
  · rw [List.getElem?_eq_none (by rw [List.length_set, wl_len]; omega), List.getElem?_eq_none (by rw [wl_len, hn]; omega)]
end
section
/-! what is read off the launch: constants, their fields, static arrays, the letters of the commands -/
def cmdN : List String := ["USER", "PASS", "QUIT", "NOOP", "PWD", "CWD", "CDUP", "MKD", "RMD", "DELE", "SIZE", "RNFR", "RNTO", "TYPE", "REST", "PASV", "PORT", "ABOR", "RETR", "STOR", "APPE", "NLST"]
def cArg : List Int32 := [1, 1, 0, 0, 0, 2, 0, 2, 2, 2, 2, 2, 2, 6, 4, 0, 5, 0, 2, 2, 2, 3]
def cWL : List Int32 := [1, 1, 1, 1, 0, 0, 0, 0, 0, 0, 0, 0, 0, 0, 0, 0, 0, 0, 0, 0, 0, 0]
def cDT : List Int32 := [0, 0, 1, 1, 0, 0, 0, 0, 0, 0, 0, 0, 0, 0, 0, 0, 0, 1, 0, 0, 0, 0]
def swm : List Int32 := [1, 2, 3, 0, 4, 11, 5, 12, 13, 14, 15, 16, 17, 6, 7, 8, 9, 10, 18, 19, 20, 0]
def sTx : List (List Int32) := [[85, 83, 69, 82], [80, 65, 83, 83], [81, 85, 73, 84], [78, 79, 79, 80], [80, 87, 68], [67, 87, 68], [67, 68, 85, 80], [77, 75, 68], [82, 77, 68], [68, 69, 76, 69], [83, 73, 90, 69], [82, 78, 70, 82], [82, 78, 84, 79], [84, 89, 80, 69], [82, 69, 83, 84], [80, 65, 83, 86], [80, 79, 82, 84], [65, 66, 79, 82], [82, 69, 84, 82], [83, 84, 79, 82], [65, 80, 80, 69], [78, 76, 83, 84]]
def sLen (k : Nat) : Nat := (sTx.getD k []).length
def sCh (k j : Nat) : Int32 := (sTx.getD k []).getD j 0
def wayN : List String := ["NONE", "WAITING", "JOINED", "CALLING"]
def KF1 (G : GG) (U : State) (H : Heap) : Prop := (∀ k : Nat, k < 4 → va_Z "RootedFerry$Way" (wayN.getD k "") "LRootedFerry$Way;" (.ref (loc G (102, k))) (A_ G) U H) ∧
  va_Z "RootedFerry" "COMMANDS" "[LRootedFerry$Command;" (.ref (loc G (103, 0))) (A_ G) U H ∧
  va_T (.object "RootedFerry$Command") (loc G (103, 0)) 22 (fun k => .ref (loc G (100, k))) (A_ G) U H ∧
  va_Z "RootedFerry$1" "$SwitchMap$RootedFerry$Command" "[I" (.ref (loc G (104, 0))) (A_ G) U H ∧
  va_T .int (loc G (104, 0)) 22 (fun k => .int (swm.getD k 0)) (A_ G) U H ∧
  va_Z "java/lang/String" "COMPACT_STRINGS" "Z" (.int 1) (A_ G) U H ∧
  va_Zq "jdk/internal/util/Preconditions" "SIOOBE_FORMATTER" "Ljava/util/function/BiFunction;" (A_ G) U H ∧
  va_Z "java/util/ArrayList" "DEFAULTCAPACITY_EMPTY_ELEMENTDATA" "[Ljava/lang/Object;" (.ref (loc G (16, 0))) (A_ G) U H ∧
  va_T (.object "java/lang/Object") (loc G (16, 0)) 0 (fun _ => .null) (A_ G) U H
def KF2 (G : GG) (U : State) (H : Heap) (k : Nat) : Prop := va_O "RootedFerry$Command" (loc G (100, k)) (A_ G) U H ∧
  va_OF "RootedFerry$Command" "letters" "Ljava/lang/String;" (.ref (loc G (101, k))) (loc G (100, k)) (A_ G) U H ∧
  va_OF "RootedFerry$Command" "argument" "I" (.int (cArg.getD k 0)) (loc G (100, k)) (A_ G) U H ∧
  va_OF "RootedFerry$Command" "withoutLogin" "Z" (.int (cWL.getD k 0)) (loc G (100, k)) (A_ G) U H ∧
  va_OF "RootedFerry$Command" "duringTransfer" "Z" (.int (cDT.getD k 0)) (loc G (100, k)) (A_ G) U H ∧
  va_OF "java/lang/Enum" "ordinal" "I" (.int (nI k)) (loc G (100, k)) (A_ G) U H ∧
  va_O "java/lang/String" (loc G (101, k)) (A_ G) U H ∧
  va_OF "java/lang/String" "value" "[B" (.ref (loc G (105, k))) (loc G (101, k)) (A_ G) U H ∧
  va_OF "java/lang/String" "coder" "B" (.int 0) (loc G (101, k)) (A_ G) U H ∧
  va_T .byte (loc G (105, k)) (sLen k) (fun j => .int (sCh k j)) (A_ G) U H
def GF (G : GG) (U : State) (H : Heap) : Prop := va_K G.2.2.1 vwCl (tysL G) U ∧ (∀ i j : Nat, i < 4 → j < 4 → loc G (102, i) = loc G (102, j) → i = j) ∧ KF1 G U H ∧ ∀ k : Nat, k < 22 → KF2 G U H k
theorem GF.to {G : GG} {u U : State} {H H1 : Heap} (h : GF G u H) (hvm : u.vm.Alike U.vm) (hq : ∀ a : Nat, a < H.size → ¬ A_ G a → H1[a]? = H[a]?) : GF G U H1 := by
  obtain ⟨h1, h2, ⟨a1, a2, a3, a4, a5, a6, a7, a8, a9⟩, h4⟩ := h
  refine ⟨h1.moved hvm, h2, ⟨fun k hk => ((a1 k hk).moved hvm).kept hq, (a2.moved hvm).kept hq, (a3.moved hvm).kept hq, (a4.moved hvm).kept hq, (a5.moved hvm).kept hq, (a6.moved hvm).kept hq, (a7.moved hvm).kept hq, (a8.moved hvm).kept hq, (a9.moved hvm).kept hq⟩, fun k hk => ?_⟩
  obtain ⟨b1, b2, b3, b4, b5, b6, b7, b8, b9, b10⟩ := h4 k hk
  exact ⟨(b1.moved hvm).kept hq, (b2.moved hvm).kept hq, (b3.moved hvm).kept hq, (b4.moved hvm).kept hq, (b5.moved hvm).kept hq, (b6.moved hvm).kept hq, (b7.moved hvm).kept hq, (b8.moved hvm).kept hq, (b9.moved hvm).kept hq, (b10.moved hvm).kept hq⟩
def TT : List Cond := lw_tbl.filter goodWord
theorem TT_good : ∀ w ∈ TT, goodWord w = true := fun w h => (List.mem_filter.mp h).2
theorem TT_of {w : Cond} {i : Nat} (hi : lw_tbl[i]? = some w) (hg : goodWord w = true) : w ∈ TT := List.mem_filter.mpr ⟨List.mem_of_getElem? hi, hg⟩
/-- the locals -/
def lvh (G : GG) (LS : Array Slot) (nL : Nat) (ls : List (Option AV)) : Prop := LS.size = nL ∧ lv_wf LS ∧ ∀ (j : Nat) (x : AV), ls[j]? = some (some x) → LS[j]? = some (.val (vv G x))
def prs (G : GG) : Nat → List (Option AV) → List (Nat × Value)
  | _, [] => []
  | i, none :: r => prs G (i + 1) r
  | i, some x :: r => (i, vv G x) :: prs G (i + 1) r
theorem prs_mem {G : GG} : ∀ (ls : List (Option AV)) (i : Nat) (q : Nat × Value), q ∈ prs G i ls ↔ ∃ (j : Nat) (x : AV), ls[j]? = some (some x) ∧ q = (i + j, vv G x)
  | [], i, q => by simp [prs]
  | none :: r, i, q => by
    rw [prs, prs_mem r (i + 1) q]
    constructor
    · rintro ⟨j, x, h, e⟩
      exact ⟨j + 1, x, by simpa using h, by rw [e, show i + 1 + j = i + (j + 1) by omega]⟩
    · rintro ⟨j, x, h, e⟩
      cases j with
      | zero => simp at h
      | succ j => exact ⟨j, x, by simpa using h, by rw [e, show i + 1 + j = i + (j + 1) by omega]⟩
  | some y :: r, i, q => by
    rw [prs, List.mem_cons, prs_mem r (i + 1) q]
    constructor
    · rintro (e | ⟨j, x, h, e⟩)
      · exact ⟨0, y, by simp, by rw [e]; rfl⟩
      · exact ⟨j + 1, x, by simpa using h, by rw [e, show i + 1 + j = i + (j + 1) by omega]⟩
    · rintro ⟨j, x, h, e⟩
      cases j with
      | zero => simp at h; subst h; exact Or.inl (by rw [e]; rfl)
      | succ j => exact Or.inr ⟨j, x, by simpa using h, by rw [e, show i + 1 + j = i + (j + 1) by omega]⟩
theorem lvh.has {G : GG} {LS : Array Slot} {nL : Nat} {ls : List (Option AV)} (h : lvh G LS nL ls) : lv_has LS nL (prs G 0 ls) := by
  refine ⟨h.1, h.2.1, fun q hq => ?_⟩
  obtain ⟨j, x, h1, e⟩ := (prs_mem ls 0 q).mp hq
  subst e
  rw [Nat.zero_add]
  exact h.2.2 j x h1
def isW : AV → Bool
  | .inr (.inl _) => true
  | _ => false
theorem vv_cat (G : GG) (x : AV) : (vv G x).category = if isW x then 2 else 1 := by
  obtain x | x | ⟨t, x⟩ := x
  · rfl
  · rfl
  · cases x <;> rfl
/-- a value of one slot is stored; what stands before is no long -/
theorem lvh.st1 {G : GG} {LS' : Array Slot} {nL i : Nat} {ls : List (Option AV)} {v : AV} (h : lv_has LS' nL ((i, vv G v) :: (prs G 0 ls).filter (fun q => !(q.1 == i) && !(q.1 + 1 == i && q.2.category == 2)))) (hk : ∀ (j : Nat) (x : AV), j + 1 = i → ls[j]? = some (some x) → isW x = false) : lvh G LS' nL (ls.set i (some v)) := by
  refine ⟨h.1, h.2.1, fun j x hj => ?_⟩
  by_cases hji : j = i
  · subst hji
    have hl := (List.getElem?_eq_some_iff.mp hj).1
    rw [List.length_set] at hl
    rw [List.getElem?_set_self hl] at hj
    cases hj
    exact h.2.2 (j, vv G v) List.mem_cons_self
  · rw [List.getElem?_set_ne (Ne.symm hji)] at hj
    refine h.2.2 (j, vv G x) (List.mem_cons_of_mem _ (List.mem_filter.mpr ⟨(prs_mem ls 0 _).mpr ⟨j, x, hj, by rw [Nat.zero_add]⟩, ?_⟩))
    by_cases hj1 : j + 1 = i
    · have := hk j x hj1 hj
      simp [hji, hj1, vv_cat, this]
    · simp [hji, hj1]
theorem lvh.st2 {G : GG} {LS' : Array Slot} {nL i : Nat} {ls : List (Option AV)} {v : AV} (h : lv_has LS' nL ((i, vv G v) :: (prs G 0 ls).filter (fun q => !(q.1 == i) && (!(q.1 == i + 1) && !(q.1 + 1 == i && q.2.category == 2))))) (hk : ∀ (j : Nat) (x : AV), j + 1 = i → ls[j]? = some (some x) → isW x = false) : lvh G LS' nL ((ls.set i (some v)).set (i + 1) none) := by
  refine ⟨h.1, h.2.1, fun j x hj => ?_⟩
  by_cases hj2 : j = i + 1
  · subst hj2
    have hl := (List.getElem?_eq_some_iff.mp hj).1
    rw [List.length_set] at hl
    rw [List.getElem?_set_self hl] at hj
    cases hj
  rw [List.getElem?_set_ne (Ne.symm hj2)] at hj
  by_cases hji : j = i
  · subst hji
    have hl := (List.getElem?_eq_some_iff.mp hj).1
    rw [List.length_set] at hl
    rw [List.getElem?_set_self hl] at hj
    cases hj
    exact h.2.2 (j, vv G v) List.mem_cons_self
  · rw [List.getElem?_set_ne (Ne.symm hji)] at hj
    refine h.2.2 (j, vv G x) (List.mem_cons_of_mem _ (List.mem_filter.mpr ⟨(prs_mem ls 0 _).mpr ⟨j, x, hj, by rw [Nat.zero_add]⟩, ?_⟩))
    by_cases hj1 : j + 1 = i
    · have := hk j x hj1 hj
      simp [hji, hj1, vv_cat, this, hj2]
    · simp [hji, hj1, hj2]
/-- what is the same for all of one run of a method -/
def Cx (G : GG) (p : Program) (s : State) (m : MethodId) (c : Code) (args : Array Value) (cc : ByteArray) (nL : Nat) (own : String) : Prop := p.tables.exec = Jvm.exec ∧ c.code = cc ∧ c.maxLocals = nL ∧ s.vm.findClass own = some m.cls ∧ (∀ w ∈ TT, w.before args s = true) ∧ GF G s s.heap ∧ G.1 ≤ s.heap.size
/-- from here the machine comes to Q: at pc, with these locals and this stack, over every heap that holds h -/
def V (ph : Bool) (G : GG) (p : Program) (l : Launch) (e : Env) (R : Room) (s : State) (m : MethodId) (args : Array Value) (below : List Frame) (meth : Method) (c : Code) (nL : Nat) (Q : State → Prop) (h : Hp) (cells slots pc : Nat) (ls : List (Option AV)) (st : List AV) : Prop :=
  ∀ (H : Heap) (locs : List Loc) (LS : Array Slot), WR ph G h H → va_S (A_ G) s.heap H locs → lvh G LS nL ls → W p l e R s m args below meth c H locs cells slots Q (F0 m pc LS (st.map (vv G)))
section VR
variable {ph : Bool} {G : GG} {p : Program} {l : Launch} {e : Env} {R : Room} {s : State} {m : MethodId} {args : Array Value} {below : List Frame} {meth : Method} {c : Code} {nL : Nat} {Q : State → Prop} {h : Hp} {cells slots pc pc' : Nat} {ls : List (Option AV)} {st : List AV} {cc : ByteArray} {own : String}
theorem v_at {LS : Array Slot} (hl : lvh G LS nL ls) {i : Nat} {x : AV} (hx : ls[i]? = some (some x)) : LS[i]? = some (.val (vv G x)) := hl.2.2 i x hx
theorem v_iconst (C : Cx G p s m c args cc nL own) {n : Int} {v : Int32} (hd : decode cc pc = .ok (.iconst n, 1)) (hv : Int32.ofInt n = v) (hp : pc + 1 = pc') (k : V ph G p l e R s m args below meth c nL Q h cells slots pc' ls (aI v :: st)) : V ph G p l e R s m args below meth c nL Q h cells slots pc ls (st) := by
  subst hp
  exact fun H locs LS a b d => lv_iconst C.1 C.2.1 hd hv (k H locs LS a b d)
theorem v_bipush (C : Cx G p s m c args cc nL own) {n : Int} {v : Int32} (hd : decode cc pc = .ok (.bipush n, 2)) (hv : (Int8.ofInt n).toInt32 = v) (hp : pc + 2 = pc') (k : V ph G p l e R s m args below meth c nL Q h cells slots pc' ls (aI v :: st)) : V ph G p l e R s m args below meth c nL Q h cells slots pc ls (st) := by
  subst hp
  exact fun H locs LS a b d => lv_bipush C.1 C.2.1 hd hv (k H locs LS a b d)
theorem v_sipush (C : Cx G p s m c args cc nL own) {n : Int} {v : Int32} (hd : decode cc pc = .ok (.sipush n, 3)) (hv : (Int16.ofInt n).toInt32 = v) (hp : pc + 3 = pc') (k : V ph G p l e R s m args below meth c nL Q h cells slots pc' ls (aI v :: st)) : V ph G p l e R s m args below meth c nL Q h cells slots pc ls (st) := by
  subst hp
  exact fun H locs LS a b d => lv_sipush C.1 C.2.1 hd hv (k H locs LS a b d)
theorem v_lconst (C : Cx G p s m c args cc nL own) {n : Fin 2} {v : Int64} (hd : decode cc pc = .ok (.lconst n, 1)) (hv : Int64.ofNat (n : Nat) = v) (hp : pc + 1 = pc') (k : V ph G p l e R s m args below meth c nL Q h cells slots pc' ls (aL v :: st)) : V ph G p l e R s m args below meth c nL Q h cells slots pc ls (st) := by
  subst hp
  exact fun H locs LS a b d => lv_lconst C.1 C.2.1 hd hv (k H locs LS a b d)
theorem v_iadd (C : Cx G p s m c args cc nL own) {x y : Int32} (hd : decode cc pc = .ok (.iadd, 1))  (hp : pc + 1 = pc') (k : V ph G p l e R s m args below meth c nL Q h cells slots pc' ls (aI (x + y) :: st)) : V ph G p l e R s m args below meth c nL Q h cells slots pc ls (aI y :: aI x :: st) := by
  subst hp
  exact fun H locs LS a b d => lv_iadd C.1 C.2.1 hd (k H locs LS a b d)
theorem v_isub (C : Cx G p s m c args cc nL own) {x y : Int32} (hd : decode cc pc = .ok (.isub, 1))  (hp : pc + 1 = pc') (k : V ph G p l e R s m args below meth c nL Q h cells slots pc' ls (aI (x - y) :: st)) : V ph G p l e R s m args below meth c nL Q h cells slots pc ls (aI y :: aI x :: st) := by
  subst hp
  exact fun H locs LS a b d => lv_isub C.1 C.2.1 hd (k H locs LS a b d)
theorem v_imul (C : Cx G p s m c args cc nL own) {x y : Int32} (hd : decode cc pc = .ok (.imul, 1))  (hp : pc + 1 = pc') (k : V ph G p l e R s m args below meth c nL Q h cells slots pc' ls (aI (x * y) :: st)) : V ph G p l e R s m args below meth c nL Q h cells slots pc ls (aI y :: aI x :: st) := by
  subst hp
  exact fun H locs LS a b d => lv_imul C.1 C.2.1 hd (k H locs LS a b d)
theorem v_iand (C : Cx G p s m c args cc nL own) {x y : Int32} (hd : decode cc pc = .ok (.iand, 1))  (hp : pc + 1 = pc') (k : V ph G p l e R s m args below meth c nL Q h cells slots pc' ls (aI (x &&& y) :: st)) : V ph G p l e R s m args below meth c nL Q h cells slots pc ls (aI y :: aI x :: st) := by
  subst hp
  exact fun H locs LS a b d => lv_iand C.1 C.2.1 hd (k H locs LS a b d)
theorem v_ior (C : Cx G p s m c args cc nL own) {x y : Int32} (hd : decode cc pc = .ok (.ior, 1))  (hp : pc + 1 = pc') (k : V ph G p l e R s m args below meth c nL Q h cells slots pc' ls (aI (x ||| y) :: st)) : V ph G p l e R s m args below meth c nL Q h cells slots pc ls (aI y :: aI x :: st) := by
  subst hp
  exact fun H locs LS a b d => lv_ior C.1 C.2.1 hd (k H locs LS a b d)
theorem v_ishl (C : Cx G p s m c args cc nL own) {x y : Int32} (hd : decode cc pc = .ok (.ishl, 1))  (hp : pc + 1 = pc') (k : V ph G p l e R s m args below meth c nL Q h cells slots pc' ls (aI (x <<< (y &&& 31)) :: st)) : V ph G p l e R s m args below meth c nL Q h cells slots pc ls (aI y :: aI x :: st) := by
  subst hp
  exact fun H locs LS a b d => lv_ishl C.1 C.2.1 hd (k H locs LS a b d)
theorem v_ishr (C : Cx G p s m c args cc nL own) {x y : Int32} (hd : decode cc pc = .ok (.ishr, 1))  (hp : pc + 1 = pc') (k : V ph G p l e R s m args below meth c nL Q h cells slots pc' ls (aI (x >>> (y &&& 31)) :: st)) : V ph G p l e R s m args below meth c nL Q h cells slots pc ls (aI y :: aI x :: st) := by
  subst hp
  exact fun H locs LS a b d => lv_ishr C.1 C.2.1 hd (k H locs LS a b d)
theorem v_idiv (C : Cx G p s m c args cc nL own) {x y : Int32} (hd : decode cc pc = .ok (.idiv, 1)) (hn : ¬ y = 0) (hp : pc + 1 = pc') (k : V ph G p l e R s m args below meth c nL Q h cells slots pc' ls (aI (x / y) :: st)) : V ph G p l e R s m args below meth c nL Q h cells slots pc ls (aI y :: aI x :: st) := by
  subst hp
  exact fun H locs LS a b d => lv_idiv C.1 C.2.1 hd hn (k H locs LS a b d)
theorem v_irem (C : Cx G p s m c args cc nL own) {x y : Int32} (hd : decode cc pc = .ok (.irem, 1)) (hn : ¬ y = 0) (hp : pc + 1 = pc') (k : V ph G p l e R s m args below meth c nL Q h cells slots pc' ls (aI (x - (x / y) * y) :: st)) : V ph G p l e R s m args below meth c nL Q h cells slots pc ls (aI y :: aI x :: st) := by
  subst hp
  exact fun H locs LS a b d => lv_irem C.1 C.2.1 hd hn (k H locs LS a b d)
theorem v_ladd (C : Cx G p s m c args cc nL own) {x y : Int64} (hd : decode cc pc = .ok (.ladd, 1))  (hp : pc + 1 = pc') (k : V ph G p l e R s m args below meth c nL Q h cells slots pc' ls (aL (x + y) :: st)) : V ph G p l e R s m args below meth c nL Q h cells slots pc ls (aL y :: aL x :: st) := by
  subst hp
  exact fun H locs LS a b d => lv_ladd C.1 C.2.1 hd (k H locs LS a b d)
theorem v_land (C : Cx G p s m c args cc nL own) {x y : Int64} (hd : decode cc pc = .ok (.land, 1))  (hp : pc + 1 = pc') (k : V ph G p l e R s m args below meth c nL Q h cells slots pc' ls (aL (x &&& y) :: st)) : V ph G p l e R s m args below meth c nL Q h cells slots pc ls (aL y :: aL x :: st) := by
  subst hp
  exact fun H locs LS a b d => lv_land C.1 C.2.1 hd (k H locs LS a b d)
theorem v_lor (C : Cx G p s m c args cc nL own) {x y : Int64} (hd : decode cc pc = .ok (.lor, 1))  (hp : pc + 1 = pc') (k : V ph G p l e R s m args below meth c nL Q h cells slots pc' ls (aL (x ||| y) :: st)) : V ph G p l e R s m args below meth c nL Q h cells slots pc ls (aL y :: aL x :: st) := by
  subst hp
  exact fun H locs LS a b d => lv_lor C.1 C.2.1 hd (k H locs LS a b d)
theorem v_lshl (C : Cx G p s m c args cc nL own) {x : Int64} {y : Int32} (hd : decode cc pc = .ok (.lshl, 1))  (hp : pc + 1 = pc') (k : V ph G p l e R s m args below meth c nL Q h cells slots pc' ls (aL (x <<< (y.toInt64 &&& 63)) :: st)) : V ph G p l e R s m args below meth c nL Q h cells slots pc ls (aI y :: aL x :: st) := by
  subst hp
  exact fun H locs LS a b d => lv_lshl C.1 C.2.1 hd rfl (k H locs LS a b d)
theorem v_lshr (C : Cx G p s m c args cc nL own) {x : Int64} {y : Int32} (hd : decode cc pc = .ok (.lshr, 1))  (hp : pc + 1 = pc') (k : V ph G p l e R s m args below meth c nL Q h cells slots pc' ls (aL (x >>> (y.toInt64 &&& 63)) :: st)) : V ph G p l e R s m args below meth c nL Q h cells slots pc ls (aI y :: aL x :: st) := by
  subst hp
  exact fun H locs LS a b d => lv_lshr C.1 C.2.1 hd rfl (k H locs LS a b d)
theorem v_lushr (C : Cx G p s m c args cc nL own) {x : Int64} {y : Int32} (hd : decode cc pc = .ok (.lushr, 1))  (hp : pc + 1 = pc') (k : V ph G p l e R s m args below meth c nL Q h cells slots pc' ls (aL ((x.toUInt64 >>> (y.toInt64.toUInt64 &&& Int64.toUInt64 63)).toInt64) :: st)) : V ph G p l e R s m args below meth c nL Q h cells slots pc ls (aI y :: aL x :: st) := by
  subst hp
  exact fun H locs LS a b d => lv_lushr C.1 C.2.1 hd rfl (k H locs LS a b d)
theorem v_i2l (C : Cx G p s m c args cc nL own) {x : Int32} (hd : decode cc pc = .ok (.i2l, 1))  (hp : pc + 1 = pc') (k : V ph G p l e R s m args below meth c nL Q h cells slots pc' ls (aL x.toInt64 :: st)) : V ph G p l e R s m args below meth c nL Q h cells slots pc ls (aI x :: st) := by
  subst hp
  exact fun H locs LS a b d => lv_i2l C.1 C.2.1 hd rfl (k H locs LS a b d)
theorem v_l2i (C : Cx G p s m c args cc nL own) {x : Int64} (hd : decode cc pc = .ok (.l2i, 1))  (hp : pc + 1 = pc') (k : V ph G p l e R s m args below meth c nL Q h cells slots pc' ls (aI x.toInt32 :: st)) : V ph G p l e R s m args below meth c nL Q h cells slots pc ls (aL x :: st) := by
  subst hp
  exact fun H locs LS a b d => lv_l2i C.1 C.2.1 hd rfl (k H locs LS a b d)
theorem v_i2c (C : Cx G p s m c args cc nL own) {x : Int32} (hd : decode cc pc = .ok (.i2c, 1))  (hp : pc + 1 = pc') (k : V ph G p l e R s m args below meth c nL Q h cells slots pc' ls (aI (x.toUInt32 % 65536).toInt32 :: st)) : V ph G p l e R s m args below meth c nL Q h cells slots pc ls (aI x :: st) := by
  subst hp
  exact fun H locs LS a b d => lv_i2c C.1 C.2.1 hd rfl (k H locs LS a b d)
theorem v_lcmp (C : Cx G p s m c args cc nL own) {x y : Int64} (hd : decode cc pc = .ok (.lcmp, 1)) (hp : pc + 1 = pc') (k : V ph G p l e R s m args below meth c nL Q h cells slots pc' ls (aI (lg_cmp x y) :: st)) : V ph G p l e R s m args below meth c nL Q h cells slots pc ls (aL y :: aL x :: st) := by
  subst hp
  exact fun H locs LS a b d => W.lcmp C.1 C.2.1 hd (k H locs LS a b d)
theorem v_null (C : Cx G p s m c args cc nL own) {t : Nat} (hd : decode cc pc = .ok (.aconst_null, 1)) (hp : pc + 1 = pc') (k : V ph G p l e R s m args below meth c nL Q h cells slots pc' ls (aA t none :: st)) : V ph G p l e R s m args below meth c nL Q h cells slots pc ls st := by
  subst hp
  exact fun H locs LS a b d => lv_null C.1 C.2.1 hd (k H locs LS a b d)
theorem v_pop (C : Cx G p s m c args cc nL own) {x : AV} (hd : decode cc pc = .ok (.pop, 1)) (hx : isW x = false) (hp : pc + 1 = pc') (k : V ph G p l e R s m args below meth c nL Q h cells slots pc' ls (st)) : V ph G p l e R s m args below meth c nL Q h cells slots pc ls (x :: st) := by
  subst hp
  exact fun H locs LS a b d => lv_pop C.1 C.2.1 hd (by rw [vv_cat, hx]; rfl) (k H locs LS a b d)
theorem v_dup (C : Cx G p s m c args cc nL own) {x : AV} (hd : decode cc pc = .ok (.dup, 1)) (hx : isW x = false) (hp : pc + 1 = pc') (k : V ph G p l e R s m args below meth c nL Q h cells slots pc' ls (x :: x :: st)) : V ph G p l e R s m args below meth c nL Q h cells slots pc ls (x :: st) := by
  subst hp
  exact fun H locs LS a b d => lv_dup C.1 C.2.1 hd (by rw [vv_cat, hx]; rfl) (k H locs LS a b d)
theorem v_dup_x1 (C : Cx G p s m c args cc nL own) {x y : AV} (hd : decode cc pc = .ok (.dup_x1, 1)) (hx : isW x = false) (hy : isW y = false) (hp : pc + 1 = pc') (k : V ph G p l e R s m args below meth c nL Q h cells slots pc' ls (x :: y :: x :: st)) : V ph G p l e R s m args below meth c nL Q h cells slots pc ls (x :: y :: st) := by
  subst hp
  exact fun H locs LS a b d => lv_dup_x1 C.1 C.2.1 hd (by rw [vv_cat, hx]; rfl) (by rw [vv_cat, hy]; rfl) (k H locs LS a b d)
theorem v_goto (C : Cx G p s m c args cc nL own) {off : Int} (hd : decode cc pc = .ok (.goto off, 3)) (hp : (pc : Int) + off = (pc' : Int)) (k : V ph G p l e R s m args below meth c nL Q h cells slots pc' ls st) : V ph G p l e R s m args below meth c nL Q h cells slots pc ls st := fun H locs LS a b d => lv_goto C.1 C.2.1 hd hp (k H locs LS a b d)
theorem v_ldc (C : Cx G p s m c args cc nL own) {i : Nat} {v : Int32} (hd : decode cc pc = .ok (.ldc i, 2)) (hw : Cond.constant own i v ∈ TT) (hp : pc + 2 = pc') (k : V ph G p l e R s m args below meth c nL Q h cells slots pc' ls (aI v :: st)) : V ph G p l e R s m args below meth c nL Q h cells slots pc ls st := by
  subst hp
  exact fun H locs LS a b d => lv_ldc C.1 C.2.1 C.2.2.2.1 (C.2.2.2.2.1 _ hw) hd (k H locs LS a b d)
theorem v_ldc2 (C : Cx G p s m c args cc nL own) {i : Nat} {v : Int64} (hd : decode cc pc = .ok (.ldc2_w i, 3)) (hw : Cond.constantLong own i v ∈ TT) (hp : pc + 3 = pc') (k : V ph G p l e R s m args below meth c nL Q h cells slots pc' ls (aL v :: st)) : V ph G p l e R s m args below meth c nL Q h cells slots pc ls st := by
  subst hp
  exact fun H locs LS a b d => lv_ldc2 C.1 C.2.1 C.2.2.2.1 (C.2.2.2.2.1 _ hw) hd (k H locs LS a b d)
theorem v_iload_n (C : Cx G p s m c args cc nL own) {q : Fin 4} {i : Nat} {x : Int32} (hd : decode cc pc = .ok (.iload_n q, 1)) (hi : (q : Nat) = i) (hx : ls[i]? = some (some (aI x))) (hp : pc + 1 = pc') (k : V ph G p l e R s m args below meth c nL Q h cells slots pc' ls (aI x :: st)) : V ph G p l e R s m args below meth c nL Q h cells slots pc ls st := by
  subst hp
  exact fun H locs LS a b d => lv_iload_n C.1 C.2.1 hd hi (v_at d hx) (k H locs LS a b d)
theorem v_iload (C : Cx G p s m c args cc nL own) {i : Nat} {x : Int32} (hd : decode cc pc = .ok (.iload i, 2)) (hx : ls[i]? = some (some (aI x))) (hp : pc + 2 = pc') (k : V ph G p l e R s m args below meth c nL Q h cells slots pc' ls (aI x :: st)) : V ph G p l e R s m args below meth c nL Q h cells slots pc ls st := by
  subst hp
  exact fun H locs LS a b d => lv_iload C.1 C.2.1 hd (v_at d hx) (k H locs LS a b d)
theorem v_lload_n (C : Cx G p s m c args cc nL own) {q : Fin 4} {i : Nat} {x : Int64} (hd : decode cc pc = .ok (.lload_n q, 1)) (hi : (q : Nat) = i) (hx : ls[i]? = some (some (aL x))) (hp : pc + 1 = pc') (k : V ph G p l e R s m args below meth c nL Q h cells slots pc' ls (aL x :: st)) : V ph G p l e R s m args below meth c nL Q h cells slots pc ls st := by
  subst hp
  exact fun H locs LS a b d => lv_lload_n C.1 C.2.1 hd hi (v_at d hx) (k H locs LS a b d)
theorem v_lload (C : Cx G p s m c args cc nL own) {i : Nat} {x : Int64} (hd : decode cc pc = .ok (.lload i, 2)) (hx : ls[i]? = some (some (aL x))) (hp : pc + 2 = pc') (k : V ph G p l e R s m args below meth c nL Q h cells slots pc' ls (aL x :: st)) : V ph G p l e R s m args below meth c nL Q h cells slots pc ls st := by
  subst hp
  exact fun H locs LS a b d => lv_lload C.1 C.2.1 hd (v_at d hx) (k H locs LS a b d)
end VR
end
section
section VR2
variable {ph : Bool} {G : GG} {p : Program} {l : Launch} {e : Env} {R : Room} {s : State} {m : MethodId} {args : Array Value} {below : List Frame} {meth : Method} {c : Code} {nL : Nat} {Q : State → Prop} {h : Hp} {cells slots pc pc' : Nat} {ls : List (Option AV)} {st : List AV} {cc : ByteArray} {own : String}
theorem v_aload_n (C : Cx G p s m c args cc nL own) {q : Fin 4} {i t : Nat} {x : Option Nat} (hd : decode cc pc = .ok (.aload_n q, 1)) (hi : (q : Nat) = i) (hx : ls[i]? = some (some (aA t x))) (hp : pc + 1 = pc') (k : V ph G p l e R s m args below meth c nL Q h cells slots pc' ls (aA t x :: st)) : V ph G p l e R s m args below meth c nL Q h cells slots pc ls st := by
  subst hp
  intro H locs LS a b d
  cases x with
  | none => exact lv_aload_nN C.1 C.2.1 hd hi (v_at d hx) (k H locs LS a b d)
  | some x => exact lv_aload_n C.1 C.2.1 hd hi (v_at d hx) (k H locs LS a b d)
theorem v_aload (C : Cx G p s m c args cc nL own) {i t : Nat} {x : Option Nat} (hd : decode cc pc = .ok (.aload i, 2)) (hx : ls[i]? = some (some (aA t x))) (hp : pc + 2 = pc') (k : V ph G p l e R s m args below meth c nL Q h cells slots pc' ls (aA t x :: st)) : V ph G p l e R s m args below meth c nL Q h cells slots pc ls st := by
  subst hp
  intro H locs LS a b d
  cases x with
  | none => exact lv_aloadN C.1 C.2.1 hd (v_at d hx) (k H locs LS a b d)
  | some x => exact lv_aload C.1 C.2.1 hd (v_at d hx) (k H locs LS a b d)
def nW : Option AV → Bool
  | none => true
  | some x => !isW x
theorem nW_k {ls : List (Option AV)} {i : Nat} (h : ∀ y : Option AV, ls[i - 1]? = some y → i ≠ 0 → nW y = true) : ∀ (j : Nat) (x : AV), j + 1 = i → ls[j]? = some (some x) → isW x = false := by
  intro j x hj hx
  have := h (some x) (by rw [show i - 1 = j by omega]; exact hx) (by omega)
  simpa [nW] using this
theorem g_istore_n (C : Cx G p s m c args cc nL own) {q : Fin 4} {i : Nat} {x : Int32} (hd : decode cc pc = .ok (.istore_n q, 1)) (hi : (q : Nat) = i) (hn : i < nL) (hw : ∀ y : Option AV, ls[i - 1]? = some y → i ≠ 0 → nW y = true) (hp : pc + 1 = pc') (k : V ph G p l e R s m args below meth c nL Q h cells slots pc' (ls.set i (some (aI x))) st) : V ph G p l e R s m args below meth c nL Q h cells slots pc ls (aI x :: st) := by
  subst hp
  exact fun H locs LS a b d => lv_istore_n C.1 C.2.1 hd hi d.has hn rfl fun LS' hl => k H locs LS' a b (lvh.st1 (v := aI x) hl (nW_k hw))
theorem g_istore (C : Cx G p s m c args cc nL own) {i : Nat} {x : Int32} (hd : decode cc pc = .ok (.istore i, 2)) (hn : i < nL) (hw : ∀ y : Option AV, ls[i - 1]? = some y → i ≠ 0 → nW y = true) (hp : pc + 2 = pc') (k : V ph G p l e R s m args below meth c nL Q h cells slots pc' (ls.set i (some (aI x))) st) : V ph G p l e R s m args below meth c nL Q h cells slots pc ls (aI x :: st) := by
  subst hp
  exact fun H locs LS a b d => lv_istore C.1 C.2.1 hd d.has hn rfl fun LS' hl => k H locs LS' a b (lvh.st1 (v := aI x) hl (nW_k hw))
theorem g_lstore_n (C : Cx G p s m c args cc nL own) {q : Fin 4} {i : Nat} {x : Int64} (hd : decode cc pc = .ok (.lstore_n q, 1)) (hi : (q : Nat) = i) (hn : i + 1 < nL) (hw : ∀ y : Option AV, ls[i - 1]? = some y → i ≠ 0 → nW y = true) (hp : pc + 1 = pc') (k : V ph G p l e R s m args below meth c nL Q h cells slots pc' ((ls.set i (some (aL x))).set (i + 1) none) st) : V ph G p l e R s m args below meth c nL Q h cells slots pc ls (aL x :: st) := by
  subst hp
  exact fun H locs LS a b d => lv_lstore_n C.1 C.2.1 hd hi d.has hn rfl fun LS' hl => k H locs LS' a b (lvh.st2 (v := aL x) hl (nW_k hw))
theorem g_lstore (C : Cx G p s m c args cc nL own) {i : Nat} {x : Int64} (hd : decode cc pc = .ok (.lstore i, 2)) (hn : i + 1 < nL) (hw : ∀ y : Option AV, ls[i - 1]? = some y → i ≠ 0 → nW y = true) (hp : pc + 2 = pc') (k : V ph G p l e R s m args below meth c nL Q h cells slots pc' ((ls.set i (some (aL x))).set (i + 1) none) st) : V ph G p l e R s m args below meth c nL Q h cells slots pc ls (aL x :: st) := by
  subst hp
  exact fun H locs LS a b d => lv_lstore C.1 C.2.1 hd d.has hn rfl fun LS' hl => k H locs LS' a b (lvh.st2 (v := aL x) hl (nW_k hw))
theorem g_astore_n (C : Cx G p s m c args cc nL own) {q : Fin 4} {i t : Nat} {x : Option Nat} (hd : decode cc pc = .ok (.astore_n q, 1)) (hi : (q : Nat) = i) (hn : i < nL) (hw : ∀ y : Option AV, ls[i - 1]? = some y → i ≠ 0 → nW y = true) (hp : pc + 1 = pc') (k : V ph G p l e R s m args below meth c nL Q h cells slots pc' (ls.set i (some (aA t x))) st) : V ph G p l e R s m args below meth c nL Q h cells slots pc ls (aA t x :: st) := by
  subst hp
  intro H locs LS a b d
  cases x with
  | none => exact lv_astore_nN C.1 C.2.1 hd hi d.has hn rfl fun LS' hl => k H locs LS' a b (lvh.st1 (v := aA t none) hl (nW_k hw))
  | some x => exact lv_astore_n C.1 C.2.1 hd hi d.has hn rfl fun LS' hl => k H locs LS' a b (lvh.st1 (v := aA t (some x)) hl (nW_k hw))
theorem g_astore (C : Cx G p s m c args cc nL own) {i t : Nat} {x : Option Nat} (hd : decode cc pc = .ok (.astore i, 2)) (hn : i < nL) (hw : ∀ y : Option AV, ls[i - 1]? = some y → i ≠ 0 → nW y = true) (hp : pc + 2 = pc') (k : V ph G p l e R s m args below meth c nL Q h cells slots pc' (ls.set i (some (aA t x))) st) : V ph G p l e R s m args below meth c nL Q h cells slots pc ls (aA t x :: st) := by
  subst hp
  intro H locs LS a b d
  cases x with
  | none => exact lv_astoreN C.1 C.2.1 hd d.has hn rfl fun LS' hl => k H locs LS' a b (lvh.st1 (v := aA t none) hl (nW_k hw))
  | some x => exact lv_astore C.1 C.2.1 hd d.has hn rfl fun LS' hl => k H locs LS' a b (lvh.st1 (v := aA t (some x)) hl (nW_k hw))
theorem g_iinc (C : Cx G p s m c args cc nL own) {i : Nat} {n : Int} {x v : Int32} (hd : decode cc pc = .ok (.iinc i n, 3)) (hx : ls[i]? = some (some (aI x))) (hv : x + Int32.ofInt n = v) (hn : i < nL) (hw : ∀ y : Option AV, ls[i - 1]? = some y → i ≠ 0 → nW y = true) (hp : pc + 3 = pc') (k : V ph G p l e R s m args below meth c nL Q h cells slots pc' (ls.set i (some (aI v))) st) : V ph G p l e R s m args below meth c nL Q h cells slots pc ls st := by
  subst hp
  intro H locs LS a b d
  have hm : (i, Value.int x) ∈ prs G 0 ls := (prs_mem ls 0 _).mpr ⟨i, aI x, hx, by rw [Nat.zero_add]; rfl⟩
  obtain ⟨j, hj⟩ := List.getElem?_of_mem hm
  exact lv_iinc C.1 C.2.1 hd d.has hj hv hn rfl fun LS' hl => k H locs LS' a b (lvh.st1 (v := aI v) hl (nW_k hw))
theorem v_istore0 (C : Cx G p s m c args cc nL own) {b0 : Option AV} {x : Int32} {r : List (Option AV)} (hd : decode cc pc = .ok (.istore_n 0, 1)) (hn : 0 < nL) (hp : pc + 1 = pc') (k : V ph G p l e R s m args below meth c nL Q h cells slots pc' (some (aI x) :: r) st) : V ph G p l e R s m args below meth c nL Q h cells slots pc (b0 :: r) (aI x :: st) := g_istore_n (i := 0) C hd rfl hn (fun y _ z => absurd rfl z) hp k
theorem v_lstore0 (C : Cx G p s m c args cc nL own) {b0 b1 : Option AV} {x : Int64} {r : List (Option AV)} (hd : decode cc pc = .ok (.lstore_n 0, 1)) (hn : 0 + 1 < nL) (hp : pc + 1 = pc') (k : V ph G p l e R s m args below meth c nL Q h cells slots pc' (some (aL x) :: none :: r) st) : V ph G p l e R s m args below meth c nL Q h cells slots pc (b0 :: b1 :: r) (aL x :: st) := g_lstore_n (i := 0) C hd rfl hn (fun y _ z => absurd rfl z) hp k
theorem v_astore0 (C : Cx G p s m c args cc nL own) {b0 : Option AV} {t : Nat} {x : Option Nat} {r : List (Option AV)} (hd : decode cc pc = .ok (.astore_n 0, 1)) (hn : 0 < nL) (hp : pc + 1 = pc') (k : V ph G p l e R s m args below meth c nL Q h cells slots pc' (some (aA t x) :: r) st) : V ph G p l e R s m args below meth c nL Q h cells slots pc (b0 :: r) (aA t x :: st) := g_astore_n (i := 0) C hd rfl hn (fun y _ z => absurd rfl z) hp k
theorem v_iinc0 (C : Cx G p s m c args cc nL own) {x v : Int32} {n : Int} {r : List (Option AV)} (hd : decode cc pc = .ok (.iinc 0 n, 3)) (hv : x + Int32.ofInt n = v) (hn : 0 < nL) (hp : pc + 3 = pc') (k : V ph G p l e R s m args below meth c nL Q h cells slots pc' (some (aI v) :: r) st) : V ph G p l e R s m args below meth c nL Q h cells slots pc (some (aI x) :: r) st := g_iinc C hd rfl hv hn (fun y _ z => absurd rfl z) hp k
theorem v_istore1 (C : Cx G p s m c args cc nL own) {a0 : Option AV} {b0 : Option AV} {x : Int32} {r : List (Option AV)} (hd : decode cc pc = .ok (.istore_n 1, 1)) (hn : 1 < nL) (hw : nW a0 = true) (hp : pc + 1 = pc') (k : V ph G p l e R s m args below meth c nL Q h cells slots pc' (a0 :: some (aI x) :: r) st) : V ph G p l e R s m args below meth c nL Q h cells slots pc (a0 :: b0 :: r) (aI x :: st) := g_istore_n (i := 1) C hd rfl hn (fun y e _ => by cases e; exact hw) hp k
theorem v_lstore1 (C : Cx G p s m c args cc nL own) {a0 : Option AV} {b0 b1 : Option AV} {x : Int64} {r : List (Option AV)} (hd : decode cc pc = .ok (.lstore_n 1, 1)) (hn : 1 + 1 < nL) (hw : nW a0 = true) (hp : pc + 1 = pc') (k : V ph G p l e R s m args below meth c nL Q h cells slots pc' (a0 :: some (aL x) :: none :: r) st) : V ph G p l e R s m args below meth c nL Q h cells slots pc (a0 :: b0 :: b1 :: r) (aL x :: st) := g_lstore_n (i := 1) C hd rfl hn (fun y e _ => by cases e; exact hw) hp k
theorem v_astore1 (C : Cx G p s m c args cc nL own) {a0 : Option AV} {b0 : Option AV} {t : Nat} {x : Option Nat} {r : List (Option AV)} (hd : decode cc pc = .ok (.astore_n 1, 1)) (hn : 1 < nL) (hw : nW a0 = true) (hp : pc + 1 = pc') (k : V ph G p l e R s m args below meth c nL Q h cells slots pc' (a0 :: some (aA t x) :: r) st) : V ph G p l e R s m args below meth c nL Q h cells slots pc (a0 :: b0 :: r) (aA t x :: st) := g_astore_n (i := 1) C hd rfl hn (fun y e _ => by cases e; exact hw) hp k
theorem v_iinc1 (C : Cx G p s m c args cc nL own) {a0 : Option AV} {x v : Int32} {n : Int} {r : List (Option AV)} (hd : decode cc pc = .ok (.iinc 1 n, 3)) (hv : x + Int32.ofInt n = v) (hn : 1 < nL) (hw : nW a0 = true) (hp : pc + 3 = pc') (k : V ph G p l e R s m args below meth c nL Q h cells slots pc' (a0 :: some (aI v) :: r) st) : V ph G p l e R s m args below meth c nL Q h cells slots pc (a0 :: some (aI x) :: r) st := g_iinc C hd rfl hv hn (fun y e _ => by cases e; exact hw) hp k
theorem v_istore2 (C : Cx G p s m c args cc nL own) {a0 a1 : Option AV} {b0 : Option AV} {x : Int32} {r : List (Option AV)} (hd : decode cc pc = .ok (.istore_n 2, 1)) (hn : 2 < nL) (hw : nW a1 = true) (hp : pc + 1 = pc') (k : V ph G p l e R s m args below meth c nL Q h cells slots pc' (a0 :: a1 :: some (aI x) :: r) st) : V ph G p l e R s m args below meth c nL Q h cells slots pc (a0 :: a1 :: b0 :: r) (aI x :: st) := g_istore_n (i := 2) C hd rfl hn (fun y e _ => by cases e; exact hw) hp k
theorem v_lstore2 (C : Cx G p s m c args cc nL own) {a0 a1 : Option AV} {b0 b1 : Option AV} {x : Int64} {r : List (Option AV)} (hd : decode cc pc = .ok (.lstore_n 2, 1)) (hn : 2 + 1 < nL) (hw : nW a1 = true) (hp : pc + 1 = pc') (k : V ph G p l e R s m args below meth c nL Q h cells slots pc' (a0 :: a1 :: some (aL x) :: none :: r) st) : V ph G p l e R s m args below meth c nL Q h cells slots pc (a0 :: a1 :: b0 :: b1 :: r) (aL x :: st) := g_lstore_n (i := 2) C hd rfl hn (fun y e _ => by cases e; exact hw) hp k
theorem v_astore2 (C : Cx G p s m c args cc nL own) {a0 a1 : Option AV} {b0 : Option AV} {t : Nat} {x : Option Nat} {r : List (Option AV)} (hd : decode cc pc = .ok (.astore_n 2, 1)) (hn : 2 < nL) (hw : nW a1 = true) (hp : pc + 1 = pc') (k : V ph G p l e R s m args below meth c nL Q h cells slots pc' (a0 :: a1 :: some (aA t x) :: r) st) : V ph G p l e R s m args below meth c nL Q h cells slots pc (a0 :: a1 :: b0 :: r) (aA t x :: st) := g_astore_n (i := 2) C hd rfl hn (fun y e _ => by cases e; exact hw) hp k
theorem v_iinc2 (C : Cx G p s m c args cc nL own) {a0 a1 : Option AV} {x v : Int32} {n : Int} {r : List (Option AV)} (hd : decode cc pc = .ok (.iinc 2 n, 3)) (hv : x + Int32.ofInt n = v) (hn : 2 < nL) (hw : nW a1 = true) (hp : pc + 3 = pc') (k : V ph G p l e R s m args below meth c nL Q h cells slots pc' (a0 :: a1 :: some (aI v) :: r) st) : V ph G p l e R s m args below meth c nL Q h cells slots pc (a0 :: a1 :: some (aI x) :: r) st := g_iinc C hd rfl hv hn (fun y e _ => by cases e; exact hw) hp k
theorem v_istore3 (C : Cx G p s m c args cc nL own) {a0 a1 a2 : Option AV} {b0 : Option AV} {x : Int32} {r : List (Option AV)} (hd : decode cc pc = .ok (.istore_n 3, 1)) (hn : 3 < nL) (hw : nW a2 = true) (hp : pc + 1 = pc') (k : V ph G p l e R s m args below meth c nL Q h cells slots pc' (a0 :: a1 :: a2 :: some (aI x) :: r) st) : V ph G p l e R s m args below meth c nL Q h cells slots pc (a0 :: a1 :: a2 :: b0 :: r) (aI x :: st) := g_istore_n (i := 3) C hd rfl hn (fun y e _ => by cases e; exact hw) hp k
theorem v_lstore3 (C : Cx G p s m c args cc nL own) {a0 a1 a2 : Option AV} {b0 b1 : Option AV} {x : Int64} {r : List (Option AV)} (hd : decode cc pc = .ok (.lstore_n 3, 1)) (hn : 3 + 1 < nL) (hw : nW a2 = true) (hp : pc + 1 = pc') (k : V ph G p l e R s m args below meth c nL Q h cells slots pc' (a0 :: a1 :: a2 :: some (aL x) :: none :: r) st) : V ph G p l e R s m args below meth c nL Q h cells slots pc (a0 :: a1 :: a2 :: b0 :: b1 :: r) (aL x :: st) := g_lstore_n (i := 3) C hd rfl hn (fun y e _ => by cases e; exact hw) hp k
theorem v_astore3 (C : Cx G p s m c args cc nL own) {a0 a1 a2 : Option AV} {b0 : Option AV} {t : Nat} {x : Option Nat} {r : List (Option AV)} (hd : decode cc pc = .ok (.astore_n 3, 1)) (hn : 3 < nL) (hw : nW a2 = true) (hp : pc + 1 = pc') (k : V ph G p l e R s m args below meth c nL Q h cells slots pc' (a0 :: a1 :: a2 :: some (aA t x) :: r) st) : V ph G p l e R s m args below meth c nL Q h cells slots pc (a0 :: a1 :: a2 :: b0 :: r) (aA t x :: st) := g_astore_n (i := 3) C hd rfl hn (fun y e _ => by cases e; exact hw) hp k
theorem v_iinc3 (C : Cx G p s m c args cc nL own) {a0 a1 a2 : Option AV} {x v : Int32} {n : Int} {r : List (Option AV)} (hd : decode cc pc = .ok (.iinc 3 n, 3)) (hv : x + Int32.ofInt n = v) (hn : 3 < nL) (hw : nW a2 = true) (hp : pc + 3 = pc') (k : V ph G p l e R s m args below meth c nL Q h cells slots pc' (a0 :: a1 :: a2 :: some (aI v) :: r) st) : V ph G p l e R s m args below meth c nL Q h cells slots pc (a0 :: a1 :: a2 :: some (aI x) :: r) st := g_iinc C hd rfl hv hn (fun y e _ => by cases e; exact hw) hp k
theorem v_istore4 (C : Cx G p s m c args cc nL own) {a0 a1 a2 a3 : Option AV} {b0 : Option AV} {x : Int32} {r : List (Option AV)} (hd : decode cc pc = .ok (.istore 4, 2)) (hn : 4 < nL) (hw : nW a3 = true) (hp : pc + 2 = pc') (k : V ph G p l e R s m args below meth c nL Q h cells slots pc' (a0 :: a1 :: a2 :: a3 :: some (aI x) :: r) st) : V ph G p l e R s m args below meth c nL Q h cells slots pc (a0 :: a1 :: a2 :: a3 :: b0 :: r) (aI x :: st) := g_istore C hd hn (fun y e _ => by cases e; exact hw) hp k
theorem v_lstore4 (C : Cx G p s m c args cc nL own) {a0 a1 a2 a3 : Option AV} {b0 b1 : Option AV} {x : Int64} {r : List (Option AV)} (hd : decode cc pc = .ok (.lstore 4, 2)) (hn : 4 + 1 < nL) (hw : nW a3 = true) (hp : pc + 2 = pc') (k : V ph G p l e R s m args below meth c nL Q h cells slots pc' (a0 :: a1 :: a2 :: a3 :: some (aL x) :: none :: r) st) : V ph G p l e R s m args below meth c nL Q h cells slots pc (a0 :: a1 :: a2 :: a3 :: b0 :: b1 :: r) (aL x :: st) := g_lstore C hd hn (fun y e _ => by cases e; exact hw) hp k
theorem v_astore4 (C : Cx G p s m c args cc nL own) {a0 a1 a2 a3 : Option AV} {b0 : Option AV} {t : Nat} {x : Option Nat} {r : List (Option AV)} (hd : decode cc pc = .ok (.astore 4, 2)) (hn : 4 < nL) (hw : nW a3 = true) (hp : pc + 2 = pc') (k : V ph G p l e R s m args below meth c nL Q h cells slots pc' (a0 :: a1 :: a2 :: a3 :: some (aA t x) :: r) st) : V ph G p l e R s m args below meth c nL Q h cells slots pc (a0 :: a1 :: a2 :: a3 :: b0 :: r) (aA t x :: st) := g_astore C hd hn (fun y e _ => by cases e; exact hw) hp k
theorem v_iinc4 (C : Cx G p s m c args cc nL own) {a0 a1 a2 a3 : Option AV} {x v : Int32} {n : Int} {r : List (Option AV)} (hd : decode cc pc = .ok (.iinc 4 n, 3)) (hv : x + Int32.ofInt n = v) (hn : 4 < nL) (hw : nW a3 = true) (hp : pc + 3 = pc') (k : V ph G p l e R s m args below meth c nL Q h cells slots pc' (a0 :: a1 :: a2 :: a3 :: some (aI v) :: r) st) : V ph G p l e R s m args below meth c nL Q h cells slots pc (a0 :: a1 :: a2 :: a3 :: some (aI x) :: r) st := g_iinc C hd rfl hv hn (fun y e _ => by cases e; exact hw) hp k
theorem v_istore5 (C : Cx G p s m c args cc nL own) {a0 a1 a2 a3 a4 : Option AV} {b0 : Option AV} {x : Int32} {r : List (Option AV)} (hd : decode cc pc = .ok (.istore 5, 2)) (hn : 5 < nL) (hw : nW a4 = true) (hp : pc + 2 = pc') (k : V ph G p l e R s m args below meth c nL Q h cells slots pc' (a0 :: a1 :: a2 :: a3 :: a4 :: some (aI x) :: r) st) : V ph G p l e R s m args below meth c nL Q h cells slots pc (a0 :: a1 :: a2 :: a3 :: a4 :: b0 :: r) (aI x :: st) := g_istore C hd hn (fun y e _ => by cases e; exact hw) hp k
theorem v_lstore5 (C : Cx G p s m c args cc nL own) {a0 a1 a2 a3 a4 : Option AV} {b0 b1 : Option AV} {x : Int64} {r : List (Option AV)} (hd : decode cc pc = .ok (.lstore 5, 2)) (hn : 5 + 1 < nL) (hw : nW a4 = true) (hp : pc + 2 = pc') (k : V ph G p l e R s m args below meth c nL Q h cells slots pc' (a0 :: a1 :: a2 :: a3 :: a4 :: some (aL x) :: none :: r) st) : V ph G p l e R s m args below meth c nL Q h cells slots pc (a0 :: a1 :: a2 :: a3 :: a4 :: b0 :: b1 :: r) (aL x :: st) := g_lstore C hd hn (fun y e _ => by cases e; exact hw) hp k
theorem v_astore5 (C : Cx G p s m c args cc nL own) {a0 a1 a2 a3 a4 : Option AV} {b0 : Option AV} {t : Nat} {x : Option Nat} {r : List (Option AV)} (hd : decode cc pc = .ok (.astore 5, 2)) (hn : 5 < nL) (hw : nW a4 = true) (hp : pc + 2 = pc') (k : V ph G p l e R s m args below meth c nL Q h cells slots pc' (a0 :: a1 :: a2 :: a3 :: a4 :: some (aA t x) :: r) st) : V ph G p l e R s m args below meth c nL Q h cells slots pc (a0 :: a1 :: a2 :: a3 :: a4 :: b0 :: r) (aA t x :: st) := g_astore C hd hn (fun y e _ => by cases e; exact hw) hp k
theorem v_iinc5 (C : Cx G p s m c args cc nL own) {a0 a1 a2 a3 a4 : Option AV} {x v : Int32} {n : Int} {r : List (Option AV)} (hd : decode cc pc = .ok (.iinc 5 n, 3)) (hv : x + Int32.ofInt n = v) (hn : 5 < nL) (hw : nW a4 = true) (hp : pc + 3 = pc') (k : V ph G p l e R s m args below meth c nL Q h cells slots pc' (a0 :: a1 :: a2 :: a3 :: a4 :: some (aI v) :: r) st) : V ph G p l e R s m args below meth c nL Q h cells slots pc (a0 :: a1 :: a2 :: a3 :: a4 :: some (aI x) :: r) st := g_iinc C hd rfl hv hn (fun y e _ => by cases e; exact hw) hp k
theorem v_istore6 (C : Cx G p s m c args cc nL own) {a0 a1 a2 a3 a4 a5 : Option AV} {b0 : Option AV} {x : Int32} {r : List (Option AV)} (hd : decode cc pc = .ok (.istore 6, 2)) (hn : 6 < nL) (hw : nW a5 = true) (hp : pc + 2 = pc') (k : V ph G p l e R s m args below meth c nL Q h cells slots pc' (a0 :: a1 :: a2 :: a3 :: a4 :: a5 :: some (aI x) :: r) st) : V ph G p l e R s m args below meth c nL Q h cells slots pc (a0 :: a1 :: a2 :: a3 :: a4 :: a5 :: b0 :: r) (aI x :: st) := g_istore C hd hn (fun y e _ => by cases e; exact hw) hp k
theorem v_lstore6 (C : Cx G p s m c args cc nL own) {a0 a1 a2 a3 a4 a5 : Option AV} {b0 b1 : Option AV} {x : Int64} {r : List (Option AV)} (hd : decode cc pc = .ok (.lstore 6, 2)) (hn : 6 + 1 < nL) (hw : nW a5 = true) (hp : pc + 2 = pc') (k : V ph G p l e R s m args below meth c nL Q h cells slots pc' (a0 :: a1 :: a2 :: a3 :: a4 :: a5 :: some (aL x) :: none :: r) st) : V ph G p l e R s m args below meth c nL Q h cells slots pc (a0 :: a1 :: a2 :: a3 :: a4 :: a5 :: b0 :: b1 :: r) (aL x :: st) := g_lstore C hd hn (fun y e _ => by cases e; exact hw) hp k
theorem v_astore6 (C : Cx G p s m c args cc nL own) {a0 a1 a2 a3 a4 a5 : Option AV} {b0 : Option AV} {t : Nat} {x : Option Nat} {r : List (Option AV)} (hd : decode cc pc = .ok (.astore 6, 2)) (hn : 6 < nL) (hw : nW a5 = true) (hp : pc + 2 = pc') (k : V ph G p l e R s m args below meth c nL Q h cells slots pc' (a0 :: a1 :: a2 :: a3 :: a4 :: a5 :: some (aA t x) :: r) st) : V ph G p l e R s m args below meth c nL Q h cells slots pc (a0 :: a1 :: a2 :: a3 :: a4 :: a5 :: b0 :: r) (aA t x :: st) := g_astore C hd hn (fun y e _ => by cases e; exact hw) hp k
theorem v_iinc6 (C : Cx G p s m c args cc nL own) {a0 a1 a2 a3 a4 a5 : Option AV} {x v : Int32} {n : Int} {r : List (Option AV)} (hd : decode cc pc = .ok (.iinc 6 n, 3)) (hv : x + Int32.ofInt n = v) (hn : 6 < nL) (hw : nW a5 = true) (hp : pc + 3 = pc') (k : V ph G p l e R s m args below meth c nL Q h cells slots pc' (a0 :: a1 :: a2 :: a3 :: a4 :: a5 :: some (aI v) :: r) st) : V ph G p l e R s m args below meth c nL Q h cells slots pc (a0 :: a1 :: a2 :: a3 :: a4 :: a5 :: some (aI x) :: r) st := g_iinc C hd rfl hv hn (fun y e _ => by cases e; exact hw) hp k
theorem v_istore7 (C : Cx G p s m c args cc nL own) {a0 a1 a2 a3 a4 a5 a6 : Option AV} {b0 : Option AV} {x : Int32} {r : List (Option AV)} (hd : decode cc pc = .ok (.istore 7, 2)) (hn : 7 < nL) (hw : nW a6 = true) (hp : pc + 2 = pc') (k : V ph G p l e R s m args below meth c nL Q h cells slots pc' (a0 :: a1 :: a2 :: a3 :: a4 :: a5 :: a6 :: some (aI x) :: r) st) : V ph G p l e R s m args below meth c nL Q h cells slots pc (a0 :: a1 :: a2 :: a3 :: a4 :: a5 :: a6 :: b0 :: r) (aI x :: st) := g_istore C hd hn (fun y e _ => by cases e; exact hw) hp k
theorem v_lstore7 (C : Cx G p s m c args cc nL own) {a0 a1 a2 a3 a4 a5 a6 : Option AV} {b0 b1 : Option AV} {x : Int64} {r : List (Option AV)} (hd : decode cc pc = .ok (.lstore 7, 2)) (hn : 7 + 1 < nL) (hw : nW a6 = true) (hp : pc + 2 = pc') (k : V ph G p l e R s m args below meth c nL Q h cells slots pc' (a0 :: a1 :: a2 :: a3 :: a4 :: a5 :: a6 :: some (aL x) :: none :: r) st) : V ph G p l e R s m args below meth c nL Q h cells slots pc (a0 :: a1 :: a2 :: a3 :: a4 :: a5 :: a6 :: b0 :: b1 :: r) (aL x :: st) := g_lstore C hd hn (fun y e _ => by cases e; exact hw) hp k
theorem v_astore7 (C : Cx G p s m c args cc nL own) {a0 a1 a2 a3 a4 a5 a6 : Option AV} {b0 : Option AV} {t : Nat} {x : Option Nat} {r : List (Option AV)} (hd : decode cc pc = .ok (.astore 7, 2)) (hn : 7 < nL) (hw : nW a6 = true) (hp : pc + 2 = pc') (k : V ph G p l e R s m args below meth c nL Q h cells slots pc' (a0 :: a1 :: a2 :: a3 :: a4 :: a5 :: a6 :: some (aA t x) :: r) st) : V ph G p l e R s m args below meth c nL Q h cells slots pc (a0 :: a1 :: a2 :: a3 :: a4 :: a5 :: a6 :: b0 :: r) (aA t x :: st) := g_astore C hd hn (fun y e _ => by cases e; exact hw) hp k
theorem v_iinc7 (C : Cx G p s m c args cc nL own) {a0 a1 a2 a3 a4 a5 a6 : Option AV} {x v : Int32} {n : Int} {r : List (Option AV)} (hd : decode cc pc = .ok (.iinc 7 n, 3)) (hv : x + Int32.ofInt n = v) (hn : 7 < nL) (hw : nW a6 = true) (hp : pc + 3 = pc') (k : V ph G p l e R s m args below meth c nL Q h cells slots pc' (a0 :: a1 :: a2 :: a3 :: a4 :: a5 :: a6 :: some (aI v) :: r) st) : V ph G p l e R s m args below meth c nL Q h cells slots pc (a0 :: a1 :: a2 :: a3 :: a4 :: a5 :: a6 :: some (aI x) :: r) st := g_iinc C hd rfl hv hn (fun y e _ => by cases e; exact hw) hp k
theorem v_istore8 (C : Cx G p s m c args cc nL own) {a0 a1 a2 a3 a4 a5 a6 a7 : Option AV} {b0 : Option AV} {x : Int32} {r : List (Option AV)} (hd : decode cc pc = .ok (.istore 8, 2)) (hn : 8 < nL) (hw : nW a7 = true) (hp : pc + 2 = pc') (k : V ph G p l e R s m args below meth c nL Q h cells slots pc' (a0 :: a1 :: a2 :: a3 :: a4 :: a5 :: a6 :: a7 :: some (aI x) :: r) st) : V ph G p l e R s m args below meth c nL Q h cells slots pc (a0 :: a1 :: a2 :: a3 :: a4 :: a5 :: a6 :: a7 :: b0 :: r) (aI x :: st) := g_istore C hd hn (fun y e _ => by cases e; exact hw) hp k
theorem v_lstore8 (C : Cx G p s m c args cc nL own) {a0 a1 a2 a3 a4 a5 a6 a7 : Option AV} {b0 b1 : Option AV} {x : Int64} {r : List (Option AV)} (hd : decode cc pc = .ok (.lstore 8, 2)) (hn : 8 + 1 < nL) (hw : nW a7 = true) (hp : pc + 2 = pc') (k : V ph G p l e R s m args below meth c nL Q h cells slots pc' (a0 :: a1 :: a2 :: a3 :: a4 :: a5 :: a6 :: a7 :: some (aL x) :: none :: r) st) : V ph G p l e R s m args below meth c nL Q h cells slots pc (a0 :: a1 :: a2 :: a3 :: a4 :: a5 :: a6 :: a7 :: b0 :: b1 :: r) (aL x :: st) := g_lstore C hd hn (fun y e _ => by cases e; exact hw) hp k
theorem v_astore8 (C : Cx G p s m c args cc nL own) {a0 a1 a2 a3 a4 a5 a6 a7 : Option AV} {b0 : Option AV} {t : Nat} {x : Option Nat} {r : List (Option AV)} (hd : decode cc pc = .ok (.astore 8, 2)) (hn : 8 < nL) (hw : nW a7 = true) (hp : pc + 2 = pc') (k : V ph G p l e R s m args below meth c nL Q h cells slots pc' (a0 :: a1 :: a2 :: a3 :: a4 :: a5 :: a6 :: a7 :: some (aA t x) :: r) st) : V ph G p l e R s m args below meth c nL Q h cells slots pc (a0 :: a1 :: a2 :: a3 :: a4 :: a5 :: a6 :: a7 :: b0 :: r) (aA t x :: st) := g_astore C hd hn (fun y e _ => by cases e; exact hw) hp k
theorem v_iinc8 (C : Cx G p s m c args cc nL own) {a0 a1 a2 a3 a4 a5 a6 a7 : Option AV} {x v : Int32} {n : Int} {r : List (Option AV)} (hd : decode cc pc = .ok (.iinc 8 n, 3)) (hv : x + Int32.ofInt n = v) (hn : 8 < nL) (hw : nW a7 = true) (hp : pc + 3 = pc') (k : V ph G p l e R s m args below meth c nL Q h cells slots pc' (a0 :: a1 :: a2 :: a3 :: a4 :: a5 :: a6 :: a7 :: some (aI v) :: r) st) : V ph G p l e R s m args below meth c nL Q h cells slots pc (a0 :: a1 :: a2 :: a3 :: a4 :: a5 :: a6 :: a7 :: some (aI x) :: r) st := g_iinc C hd rfl hv hn (fun y e _ => by cases e; exact hw) hp k
theorem v_istore9 (C : Cx G p s m c args cc nL own) {a0 a1 a2 a3 a4 a5 a6 a7 a8 : Option AV} {b0 : Option AV} {x : Int32} {r : List (Option AV)} (hd : decode cc pc = .ok (.istore 9, 2)) (hn : 9 < nL) (hw : nW a8 = true) (hp : pc + 2 = pc') (k : V ph G p l e R s m args below meth c nL Q h cells slots pc' (a0 :: a1 :: a2 :: a3 :: a4 :: a5 :: a6 :: a7 :: a8 :: some (aI x) :: r) st) : V ph G p l e R s m args below meth c nL Q h cells slots pc (a0 :: a1 :: a2 :: a3 :: a4 :: a5 :: a6 :: a7 :: a8 :: b0 :: r) (aI x :: st) := g_istore C hd hn (fun y e _ => by cases e; exact hw) hp k
theorem v_lstore9 (C : Cx G p s m c args cc nL own) {a0 a1 a2 a3 a4 a5 a6 a7 a8 : Option AV} {b0 b1 : Option AV} {x : Int64} {r : List (Option AV)} (hd : decode cc pc = .ok (.lstore 9, 2)) (hn : 9 + 1 < nL) (hw : nW a8 = true) (hp : pc + 2 = pc') (k : V ph G p l e R s m args below meth c nL Q h cells slots pc' (a0 :: a1 :: a2 :: a3 :: a4 :: a5 :: a6 :: a7 :: a8 :: some (aL x) :: none :: r) st) : V ph G p l e R s m args below meth c nL Q h cells slots pc (a0 :: a1 :: a2 :: a3 :: a4 :: a5 :: a6 :: a7 :: a8 :: b0 :: b1 :: r) (aL x :: st) := g_lstore C hd hn (fun y e _ => by cases e; exact hw) hp k
theorem v_astore9 (C : Cx G p s m c args cc nL own) {a0 a1 a2 a3 a4 a5 a6 a7 a8 : Option AV} {b0 : Option AV} {t : Nat} {x : Option Nat} {r : List (Option AV)} (hd : decode cc pc = .ok (.astore 9, 2)) (hn : 9 < nL) (hw : nW a8 = true) (hp : pc + 2 = pc') (k : V ph G p l e R s m args below meth c nL Q h cells slots pc' (a0 :: a1 :: a2 :: a3 :: a4 :: a5 :: a6 :: a7 :: a8 :: some (aA t x) :: r) st) : V ph G p l e R s m args below meth c nL Q h cells slots pc (a0 :: a1 :: a2 :: a3 :: a4 :: a5 :: a6 :: a7 :: a8 :: b0 :: r) (aA t x :: st) := g_astore C hd hn (fun y e _ => by cases e; exact hw) hp k
theorem v_iinc9 (C : Cx G p s m c args cc nL own) {a0 a1 a2 a3 a4 a5 a6 a7 a8 : Option AV} {x v : Int32} {n : Int} {r : List (Option AV)} (hd : decode cc pc = .ok (.iinc 9 n, 3)) (hv : x + Int32.ofInt n = v) (hn : 9 < nL) (hw : nW a8 = true) (hp : pc + 3 = pc') (k : V ph G p l e R s m args below meth c nL Q h cells slots pc' (a0 :: a1 :: a2 :: a3 :: a4 :: a5 :: a6 :: a7 :: a8 :: some (aI v) :: r) st) : V ph G p l e R s m args below meth c nL Q h cells slots pc (a0 :: a1 :: a2 :: a3 :: a4 :: a5 :: a6 :: a7 :: a8 :: some (aI x) :: r) st := g_iinc C hd rfl hv hn (fun y e _ => by cases e; exact hw) hp k
theorem v_istore10 (C : Cx G p s m c args cc nL own) {a0 a1 a2 a3 a4 a5 a6 a7 a8 a9 : Option AV} {b0 : Option AV} {x : Int32} {r : List (Option AV)} (hd : decode cc pc = .ok (.istore 10, 2)) (hn : 10 < nL) (hw : nW a9 = true) (hp : pc + 2 = pc') (k : V ph G p l e R s m args below meth c nL Q h cells slots pc' (a0 :: a1 :: a2 :: a3 :: a4 :: a5 :: a6 :: a7 :: a8 :: a9 :: some (aI x) :: r) st) : V ph G p l e R s m args below meth c nL Q h cells slots pc (a0 :: a1 :: a2 :: a3 :: a4 :: a5 :: a6 :: a7 :: a8 :: a9 :: b0 :: r) (aI x :: st) := g_istore C hd hn (fun y e _ => by cases e; exact hw) hp k
theorem v_lstore10 (C : Cx G p s m c args cc nL own) {a0 a1 a2 a3 a4 a5 a6 a7 a8 a9 : Option AV} {b0 b1 : Option AV} {x : Int64} {r : List (Option AV)} (hd : decode cc pc = .ok (.lstore 10, 2)) (hn : 10 + 1 < nL) (hw : nW a9 = true) (hp : pc + 2 = pc') (k : V ph G p l e R s m args below meth c nL Q h cells slots pc' (a0 :: a1 :: a2 :: a3 :: a4 :: a5 :: a6 :: a7 :: a8 :: a9 :: some (aL x) :: none :: r) st) : V ph G p l e R s m args below meth c nL Q h cells slots pc (a0 :: a1 :: a2 :: a3 :: a4 :: a5 :: a6 :: a7 :: a8 :: a9 :: b0 :: b1 :: r) (aL x :: st) := g_lstore C hd hn (fun y e _ => by cases e; exact hw) hp k
theorem v_astore10 (C : Cx G p s m c args cc nL own) {a0 a1 a2 a3 a4 a5 a6 a7 a8 a9 : Option AV} {b0 : Option AV} {t : Nat} {x : Option Nat} {r : List (Option AV)} (hd : decode cc pc = .ok (.astore 10, 2)) (hn : 10 < nL) (hw : nW a9 = true) (hp : pc + 2 = pc') (k : V ph G p l e R s m args below meth c nL Q h cells slots pc' (a0 :: a1 :: a2 :: a3 :: a4 :: a5 :: a6 :: a7 :: a8 :: a9 :: some (aA t x) :: r) st) : V ph G p l e R s m args below meth c nL Q h cells slots pc (a0 :: a1 :: a2 :: a3 :: a4 :: a5 :: a6 :: a7 :: a8 :: a9 :: b0 :: r) (aA t x :: st) := g_astore C hd hn (fun y e _ => by cases e; exact hw) hp k
theorem v_iinc10 (C : Cx G p s m c args cc nL own) {a0 a1 a2 a3 a4 a5 a6 a7 a8 a9 : Option AV} {x v : Int32} {n : Int} {r : List (Option AV)} (hd : decode cc pc = .ok (.iinc 10 n, 3)) (hv : x + Int32.ofInt n = v) (hn : 10 < nL) (hw : nW a9 = true) (hp : pc + 3 = pc') (k : V ph G p l e R s m args below meth c nL Q h cells slots pc' (a0 :: a1 :: a2 :: a3 :: a4 :: a5 :: a6 :: a7 :: a8 :: a9 :: some (aI v) :: r) st) : V ph G p l e R s m args below meth c nL Q h cells slots pc (a0 :: a1 :: a2 :: a3 :: a4 :: a5 :: a6 :: a7 :: a8 :: a9 :: some (aI x) :: r) st := g_iinc C hd rfl hv hn (fun y e _ => by cases e; exact hw) hp k
theorem v_istore11 (C : Cx G p s m c args cc nL own) {a0 a1 a2 a3 a4 a5 a6 a7 a8 a9 a10 : Option AV} {b0 : Option AV} {x : Int32} {r : List (Option AV)} (hd : decode cc pc = .ok (.istore 11, 2)) (hn : 11 < nL) (hw : nW a10 = true) (hp : pc + 2 = pc') (k : V ph G p l e R s m args below meth c nL Q h cells slots pc' (a0 :: a1 :: a2 :: a3 :: a4 :: a5 :: a6 :: a7 :: a8 :: a9 :: a10 :: some (aI x) :: r) st) : V ph G p l e R s m args below meth c nL Q h cells slots pc (a0 :: a1 :: a2 :: a3 :: a4 :: a5 :: a6 :: a7 :: a8 :: a9 :: a10 :: b0 :: r) (aI x :: st) := g_istore C hd hn (fun y e _ => by cases e; exact hw) hp k
theorem v_lstore11 (C : Cx G p s m c args cc nL own) {a0 a1 a2 a3 a4 a5 a6 a7 a8 a9 a10 : Option AV} {b0 b1 : Option AV} {x : Int64} {r : List (Option AV)} (hd : decode cc pc = .ok (.lstore 11, 2)) (hn : 11 + 1 < nL) (hw : nW a10 = true) (hp : pc + 2 = pc') (k : V ph G p l e R s m args below meth c nL Q h cells slots pc' (a0 :: a1 :: a2 :: a3 :: a4 :: a5 :: a6 :: a7 :: a8 :: a9 :: a10 :: some (aL x) :: none :: r) st) : V ph G p l e R s m args below meth c nL Q h cells slots pc (a0 :: a1 :: a2 :: a3 :: a4 :: a5 :: a6 :: a7 :: a8 :: a9 :: a10 :: b0 :: b1 :: r) (aL x :: st) := g_lstore C hd hn (fun y e _ => by cases e; exact hw) hp k
theorem v_astore11 (C : Cx G p s m c args cc nL own) {a0 a1 a2 a3 a4 a5 a6 a7 a8 a9 a10 : Option AV} {b0 : Option AV} {t : Nat} {x : Option Nat} {r : List (Option AV)} (hd : decode cc pc = .ok (.astore 11, 2)) (hn : 11 < nL) (hw : nW a10 = true) (hp : pc + 2 = pc') (k : V ph G p l e R s m args below meth c nL Q h cells slots pc' (a0 :: a1 :: a2 :: a3 :: a4 :: a5 :: a6 :: a7 :: a8 :: a9 :: a10 :: some (aA t x) :: r) st) : V ph G p l e R s m args below meth c nL Q h cells slots pc (a0 :: a1 :: a2 :: a3 :: a4 :: a5 :: a6 :: a7 :: a8 :: a9 :: a10 :: b0 :: r) (aA t x :: st) := g_astore C hd hn (fun y e _ => by cases e; exact hw) hp k
theorem v_iinc11 (C : Cx G p s m c args cc nL own) {a0 a1 a2 a3 a4 a5 a6 a7 a8 a9 a10 : Option AV} {x v : Int32} {n : Int} {r : List (Option AV)} (hd : decode cc pc = .ok (.iinc 11 n, 3)) (hv : x + Int32.ofInt n = v) (hn : 11 < nL) (hw : nW a10 = true) (hp : pc + 3 = pc') (k : V ph G p l e R s m args below meth c nL Q h cells slots pc' (a0 :: a1 :: a2 :: a3 :: a4 :: a5 :: a6 :: a7 :: a8 :: a9 :: a10 :: some (aI v) :: r) st) : V ph G p l e R s m args below meth c nL Q h cells slots pc (a0 :: a1 :: a2 :: a3 :: a4 :: a5 :: a6 :: a7 :: a8 :: a9 :: a10 :: some (aI x) :: r) st := g_iinc C hd rfl hv hn (fun y e _ => by cases e; exact hw) hp k
theorem v_istore12 (C : Cx G p s m c args cc nL own) {a0 a1 a2 a3 a4 a5 a6 a7 a8 a9 a10 a11 : Option AV} {b0 : Option AV} {x : Int32} {r : List (Option AV)} (hd : decode cc pc = .ok (.istore 12, 2)) (hn : 12 < nL) (hw : nW a11 = true) (hp : pc + 2 = pc') (k : V ph G p l e R s m args below meth c nL Q h cells slots pc' (a0 :: a1 :: a2 :: a3 :: a4 :: a5 :: a6 :: a7 :: a8 :: a9 :: a10 :: a11 :: some (aI x) :: r) st) : V ph G p l e R s m args below meth c nL Q h cells slots pc (a0 :: a1 :: a2 :: a3 :: a4 :: a5 :: a6 :: a7 :: a8 :: a9 :: a10 :: a11 :: b0 :: r) (aI x :: st) := g_istore C hd hn (fun y e _ => by cases e; exact hw) hp k
theorem v_lstore12 (C : Cx G p s m c args cc nL own) {a0 a1 a2 a3 a4 a5 a6 a7 a8 a9 a10 a11 : Option AV} {b0 b1 : Option AV} {x : Int64} {r : List (Option AV)} (hd : decode cc pc = .ok (.lstore 12, 2)) (hn : 12 + 1 < nL) (hw : nW a11 = true) (hp : pc + 2 = pc') (k : V ph G p l e R s m args below meth c nL Q h cells slots pc' (a0 :: a1 :: a2 :: a3 :: a4 :: a5 :: a6 :: a7 :: a8 :: a9 :: a10 :: a11 :: some (aL x) :: none :: r) st) : V ph G p l e R s m args below meth c nL Q h cells slots pc (a0 :: a1 :: a2 :: a3 :: a4 :: a5 :: a6 :: a7 :: a8 :: a9 :: a10 :: a11 :: b0 :: b1 :: r) (aL x :: st) := g_lstore C hd hn (fun y e _ => by cases e; exact hw) hp k
theorem v_astore12 (C : Cx G p s m c args cc nL own) {a0 a1 a2 a3 a4 a5 a6 a7 a8 a9 a10 a11 : Option AV} {b0 : Option AV} {t : Nat} {x : Option Nat} {r : List (Option AV)} (hd : decode cc pc = .ok (.astore 12, 2)) (hn : 12 < nL) (hw : nW a11 = true) (hp : pc + 2 = pc') (k : V ph G p l e R s m args below meth c nL Q h cells slots pc' (a0 :: a1 :: a2 :: a3 :: a4 :: a5 :: a6 :: a7 :: a8 :: a9 :: a10 :: a11 :: some (aA t x) :: r) st) : V ph G p l e R s m args below meth c nL Q h cells slots pc (a0 :: a1 :: a2 :: a3 :: a4 :: a5 :: a6 :: a7 :: a8 :: a9 :: a10 :: a11 :: b0 :: r) (aA t x :: st) := g_astore C hd hn (fun y e _ => by cases e; exact hw) hp k
theorem v_iinc12 (C : Cx G p s m c args cc nL own) {a0 a1 a2 a3 a4 a5 a6 a7 a8 a9 a10 a11 : Option AV} {x v : Int32} {n : Int} {r : List (Option AV)} (hd : decode cc pc = .ok (.iinc 12 n, 3)) (hv : x + Int32.ofInt n = v) (hn : 12 < nL) (hw : nW a11 = true) (hp : pc + 3 = pc') (k : V ph G p l e R s m args below meth c nL Q h cells slots pc' (a0 :: a1 :: a2 :: a3 :: a4 :: a5 :: a6 :: a7 :: a8 :: a9 :: a10 :: a11 :: some (aI v) :: r) st) : V ph G p l e R s m args below meth c nL Q h cells slots pc (a0 :: a1 :: a2 :: a3 :: a4 :: a5 :: a6 :: a7 :: a8 :: a9 :: a10 :: a11 :: some (aI x) :: r) st := g_iinc C hd rfl hv hn (fun y e _ => by cases e; exact hw) hp k
theorem v_if_eq (C : Cx G p s m c args cc nL own) {x : Int32} {off : Int} {tg : Nat} (hd : decode cc pc = .ok (.ifCond .eq off, 3)) (ht : (pc : Int) + off = (tg : Int)) (hp : pc + 3 = pc') (kt : x = 0 → V ph G p l e R s m args below meth c nL Q h cells slots tg ls st) (kf : ¬ x = 0 → V ph G p l e R s m args below meth c nL Q h cells slots pc' ls st) : V ph G p l e R s m args below meth c nL Q h cells slots pc ls (aI x :: st) := by
  subst hp
  exact fun H locs LS a b d => lv_if_eq C.1 C.2.1 hd ht (fun q => kt q H locs LS a b d) (fun q => kf q H locs LS a b d)
theorem v_icmp_eq (C : Cx G p s m c args cc nL own) {x y : Int32} {off : Int} {tg : Nat} (hd : decode cc pc = .ok (.if_icmp .eq off, 3)) (ht : (pc : Int) + off = (tg : Int)) (hp : pc + 3 = pc') (kt : x = y → V ph G p l e R s m args below meth c nL Q h cells slots tg ls st) (kf : ¬ x = y → V ph G p l e R s m args below meth c nL Q h cells slots pc' ls st) : V ph G p l e R s m args below meth c nL Q h cells slots pc ls (aI y :: aI x :: st) := by
  subst hp
  exact fun H locs LS a b d => lv_icmp_eq C.1 C.2.1 hd ht (fun q => kt q H locs LS a b d) (fun q => kf q H locs LS a b d)
theorem v_if_ne (C : Cx G p s m c args cc nL own) {x : Int32} {off : Int} {tg : Nat} (hd : decode cc pc = .ok (.ifCond .ne off, 3)) (ht : (pc : Int) + off = (tg : Int)) (hp : pc + 3 = pc') (kt : ¬ x = 0 → V ph G p l e R s m args below meth c nL Q h cells slots tg ls st) (kf : x = 0 → V ph G p l e R s m args below meth c nL Q h cells slots pc' ls st) : V ph G p l e R s m args below meth c nL Q h cells slots pc ls (aI x :: st) := by
  subst hp
  exact fun H locs LS a b d => lv_if_ne C.1 C.2.1 hd ht (fun q => kt q H locs LS a b d) (fun q => kf q H locs LS a b d)
theorem v_icmp_ne (C : Cx G p s m c args cc nL own) {x y : Int32} {off : Int} {tg : Nat} (hd : decode cc pc = .ok (.if_icmp .ne off, 3)) (ht : (pc : Int) + off = (tg : Int)) (hp : pc + 3 = pc') (kt : ¬ x = y → V ph G p l e R s m args below meth c nL Q h cells slots tg ls st) (kf : x = y → V ph G p l e R s m args below meth c nL Q h cells slots pc' ls st) : V ph G p l e R s m args below meth c nL Q h cells slots pc ls (aI y :: aI x :: st) := by
  subst hp
  exact fun H locs LS a b d => lv_icmp_ne C.1 C.2.1 hd ht (fun q => kt q H locs LS a b d) (fun q => kf q H locs LS a b d)
theorem v_if_lt (C : Cx G p s m c args cc nL own) {x : Int32} {off : Int} {tg : Nat} (hd : decode cc pc = .ok (.ifCond .lt off, 3)) (ht : (pc : Int) + off = (tg : Int)) (hp : pc + 3 = pc') (kt : x < 0 → V ph G p l e R s m args below meth c nL Q h cells slots tg ls st) (kf : ¬ x < 0 → V ph G p l e R s m args below meth c nL Q h cells slots pc' ls st) : V ph G p l e R s m args below meth c nL Q h cells slots pc ls (aI x :: st) := by
  subst hp
  exact fun H locs LS a b d => lv_if_lt C.1 C.2.1 hd ht (fun q => kt q H locs LS a b d) (fun q => kf q H locs LS a b d)
theorem v_icmp_lt (C : Cx G p s m c args cc nL own) {x y : Int32} {off : Int} {tg : Nat} (hd : decode cc pc = .ok (.if_icmp .lt off, 3)) (ht : (pc : Int) + off = (tg : Int)) (hp : pc + 3 = pc') (kt : x < y → V ph G p l e R s m args below meth c nL Q h cells slots tg ls st) (kf : ¬ x < y → V ph G p l e R s m args below meth c nL Q h cells slots pc' ls st) : V ph G p l e R s m args below meth c nL Q h cells slots pc ls (aI y :: aI x :: st) := by
  subst hp
  exact fun H locs LS a b d => lv_icmp_lt C.1 C.2.1 hd ht (fun q => kt q H locs LS a b d) (fun q => kf q H locs LS a b d)
theorem v_if_ge (C : Cx G p s m c args cc nL own) {x : Int32} {off : Int} {tg : Nat} (hd : decode cc pc = .ok (.ifCond .ge off, 3)) (ht : (pc : Int) + off = (tg : Int)) (hp : pc + 3 = pc') (kt : 0 ≤ x → V ph G p l e R s m args below meth c nL Q h cells slots tg ls st) (kf : ¬ 0 ≤ x → V ph G p l e R s m args below meth c nL Q h cells slots pc' ls st) : V ph G p l e R s m args below meth c nL Q h cells slots pc ls (aI x :: st) := by
  subst hp
  exact fun H locs LS a b d => lv_if_ge C.1 C.2.1 hd ht (fun q => kt q H locs LS a b d) (fun q => kf q H locs LS a b d)
theorem v_icmp_ge (C : Cx G p s m c args cc nL own) {x y : Int32} {off : Int} {tg : Nat} (hd : decode cc pc = .ok (.if_icmp .ge off, 3)) (ht : (pc : Int) + off = (tg : Int)) (hp : pc + 3 = pc') (kt : y ≤ x → V ph G p l e R s m args below meth c nL Q h cells slots tg ls st) (kf : ¬ y ≤ x → V ph G p l e R s m args below meth c nL Q h cells slots pc' ls st) : V ph G p l e R s m args below meth c nL Q h cells slots pc ls (aI y :: aI x :: st) := by
  subst hp
  exact fun H locs LS a b d => lv_icmp_ge C.1 C.2.1 hd ht (fun q => kt q H locs LS a b d) (fun q => kf q H locs LS a b d)
theorem v_if_gt (C : Cx G p s m c args cc nL own) {x : Int32} {off : Int} {tg : Nat} (hd : decode cc pc = .ok (.ifCond .gt off, 3)) (ht : (pc : Int) + off = (tg : Int)) (hp : pc + 3 = pc') (kt : 0 < x → V ph G p l e R s m args below meth c nL Q h cells slots tg ls st) (kf : ¬ 0 < x → V ph G p l e R s m args below meth c nL Q h cells slots pc' ls st) : V ph G p l e R s m args below meth c nL Q h cells slots pc ls (aI x :: st) := by
  subst hp
  exact fun H locs LS a b d => lv_if_gt C.1 C.2.1 hd ht (fun q => kt q H locs LS a b d) (fun q => kf q H locs LS a b d)
theorem v_icmp_gt (C : Cx G p s m c args cc nL own) {x y : Int32} {off : Int} {tg : Nat} (hd : decode cc pc = .ok (.if_icmp .gt off, 3)) (ht : (pc : Int) + off = (tg : Int)) (hp : pc + 3 = pc') (kt : y < x → V ph G p l e R s m args below meth c nL Q h cells slots tg ls st) (kf : ¬ y < x → V ph G p l e R s m args below meth c nL Q h cells slots pc' ls st) : V ph G p l e R s m args below meth c nL Q h cells slots pc ls (aI y :: aI x :: st) := by
  subst hp
  exact fun H locs LS a b d => lv_icmp_gt C.1 C.2.1 hd ht (fun q => kt q H locs LS a b d) (fun q => kf q H locs LS a b d)
theorem v_if_le (C : Cx G p s m c args cc nL own) {x : Int32} {off : Int} {tg : Nat} (hd : decode cc pc = .ok (.ifCond .le off, 3)) (ht : (pc : Int) + off = (tg : Int)) (hp : pc + 3 = pc') (kt : x ≤ 0 → V ph G p l e R s m args below meth c nL Q h cells slots tg ls st) (kf : ¬ x ≤ 0 → V ph G p l e R s m args below meth c nL Q h cells slots pc' ls st) : V ph G p l e R s m args below meth c nL Q h cells slots pc ls (aI x :: st) := by
  subst hp
  exact fun H locs LS a b d => lv_if_le C.1 C.2.1 hd ht (fun q => kt q H locs LS a b d) (fun q => kf q H locs LS a b d)
theorem v_icmp_le (C : Cx G p s m c args cc nL own) {x y : Int32} {off : Int} {tg : Nat} (hd : decode cc pc = .ok (.if_icmp .le off, 3)) (ht : (pc : Int) + off = (tg : Int)) (hp : pc + 3 = pc') (kt : x ≤ y → V ph G p l e R s m args below meth c nL Q h cells slots tg ls st) (kf : ¬ x ≤ y → V ph G p l e R s m args below meth c nL Q h cells slots pc' ls st) : V ph G p l e R s m args below meth c nL Q h cells slots pc ls (aI y :: aI x :: st) := by
  subst hp
  exact fun H locs LS a b d => lv_icmp_le C.1 C.2.1 hd ht (fun q => kt q H locs LS a b d) (fun q => kf q H locs LS a b d)
theorem v_ifnull (C : Cx G p s m c args cc nL own) {t : Nat} {x : Option Nat} {off : Int} {tg : Nat} (hd : decode cc pc = .ok (.ifnull off, 3)) (ht : (pc : Int) + off = (tg : Int)) (hp : pc + 3 = pc') (kt : x = none → V ph G p l e R s m args below meth c nL Q h cells slots tg ls st) (kf : ¬ x = none → V ph G p l e R s m args below meth c nL Q h cells slots pc' ls st) : V ph G p l e R s m args below meth c nL Q h cells slots pc ls (aA t x :: st) := by
  subst hp
  intro H locs LS a b d
  cases x with
  | none => exact lv_ifnullN C.1 C.2.1 hd ht (kt rfl H locs LS a b d)
  | some x => exact lv_ifnull C.1 C.2.1 hd (kf (fun z => by cases z) H locs LS a b d)
theorem v_ifnonnull (C : Cx G p s m c args cc nL own) {t : Nat} {x : Option Nat} {off : Int} {tg : Nat} (hd : decode cc pc = .ok (.ifnonnull off, 3)) (ht : (pc : Int) + off = (tg : Int)) (hp : pc + 3 = pc') (kt : ¬ x = none → V ph G p l e R s m args below meth c nL Q h cells slots tg ls st) (kf : x = none → V ph G p l e R s m args below meth c nL Q h cells slots pc' ls st) : V ph G p l e R s m args below meth c nL Q h cells slots pc ls (aA t x :: st) := by
  subst hp
  intro H locs LS a b d
  cases x with
  | none => exact lv_ifnonnullN C.1 C.2.1 hd (kf rfl H locs LS a b d)
  | some x => exact lv_ifnonnull C.1 C.2.1 hd ht (kt (fun z => by cases z) H locs LS a b d)
/-- references of kind t are told apart by their numbers -/
def injK (G : GG) (t : Nat) : Prop := ∀ i j : Nat, loc G (t, i) = loc G (t, j) → i = j
theorem inj5 (G : GG) : injK G 5 := by
  intro i j hij
  have e : ∀ k : Nat, loc G (5, k) = G.1 + (5 + 2 * k) := fun k => by
    rw [loc, if_pos ⟨by show 5 < 100; decide, by simp [Prod.ext_iff]⟩]; simp [pos]
  rw [e, e] at hij
  omega
theorem rO_inj {G : GG} {t : Nat} (hj : injK G t) (x y : Option Nat) : (x.map fun i => loc G (t, i)) = (y.map fun i => loc G (t, i)) ↔ x = y := by
  cases x <;> cases y <;> simp
  rename_i x y
  exact ⟨fun z => hj x y z, fun z => by rw [z]⟩
theorem v_acmp_eq (C : Cx G p s m c args cc nL own) {t : Nat} {x y : Option Nat} {off : Int} {tg : Nat} (hj : injK G t) (hd : decode cc pc = .ok (.if_acmp .eq off, 3)) (ht : (pc : Int) + off = (tg : Int)) (hp : pc + 3 = pc') (kt : x = y → V ph G p l e R s m args below meth c nL Q h cells slots tg ls st) (kf : ¬ x = y → V ph G p l e R s m args below meth c nL Q h cells slots pc' ls st) : V ph G p l e R s m args below meth c nL Q h cells slots pc ls (aA t y :: aA t x :: st) := by
  subst hp
  exact fun H locs LS a b d => lv_acmp_eq C.1 C.2.1 hd ht (fun q => kt ((rO_inj hj x y).mp q) H locs LS a b d) (fun q => kf (fun z => q ((rO_inj hj x y).mpr z)) H locs LS a b d)
theorem v_acmp_ne (C : Cx G p s m c args cc nL own) {t : Nat} {x y : Option Nat} {off : Int} {tg : Nat} (hj : injK G t) (hd : decode cc pc = .ok (.if_acmp .ne off, 3)) (ht : (pc : Int) + off = (tg : Int)) (hp : pc + 3 = pc') (kt : ¬ x = y → V ph G p l e R s m args below meth c nL Q h cells slots tg ls st) (kf : x = y → V ph G p l e R s m args below meth c nL Q h cells slots pc' ls st) : V ph G p l e R s m args below meth c nL Q h cells slots pc ls (aA t y :: aA t x :: st) := by
  subst hp
  exact fun H locs LS a b d => lv_acmp_ne C.1 C.2.1 hd ht (fun q => kt (fun z => q ((rO_inj hj x y).mpr z)) H locs LS a b d) (fun q => kf ((rO_inj hj x y).mp q) H locs LS a b d)
theorem rW_inj {G : GG} (hj : ∀ i j : Nat, i < 4 → j < 4 → loc G (102, i) = loc G (102, j) → i = j) {x y : Option Nat} (hx : ∀ i, x = some i → i < 4) (hy : ∀ i, y = some i → i < 4) : (x.map fun i => loc G (102, i)) = (y.map fun i => loc G (102, i)) ↔ x = y := by
  cases x <;> cases y <;> simp
  rename_i x y
  exact ⟨fun z => hj x y (hx x rfl) (hy y rfl) z, fun z => by rw [z]⟩
theorem v_wcmp_eq (C : Cx G p s m c args cc nL own) {x y : Option Nat} {off : Int} {tg : Nat} (hx : ∀ i, x = some i → i < 4) (hy : ∀ i, y = some i → i < 4) (hd : decode cc pc = .ok (.if_acmp .eq off, 3)) (ht : (pc : Int) + off = (tg : Int)) (hp : pc + 3 = pc') (kt : x = y → V ph G p l e R s m args below meth c nL Q h cells slots tg ls st) (kf : ¬ x = y → V ph G p l e R s m args below meth c nL Q h cells slots pc' ls st) : V ph G p l e R s m args below meth c nL Q h cells slots pc ls (aA 102 y :: aA 102 x :: st) := by
  subst hp
  have hj := C.2.2.2.2.2.1.2.1
  exact fun H locs LS a b d => lv_acmp_eq C.1 C.2.1 hd ht (fun q => kt ((rW_inj hj hx hy).mp q) H locs LS a b d) (fun q => kf (fun z => q ((rW_inj hj hx hy).mpr z)) H locs LS a b d)
theorem v_wcmp_ne (C : Cx G p s m c args cc nL own) {x y : Option Nat} {off : Int} {tg : Nat} (hx : ∀ i, x = some i → i < 4) (hy : ∀ i, y = some i → i < 4) (hd : decode cc pc = .ok (.if_acmp .ne off, 3)) (ht : (pc : Int) + off = (tg : Int)) (hp : pc + 3 = pc') (kt : ¬ x = y → V ph G p l e R s m args below meth c nL Q h cells slots tg ls st) (kf : x = y → V ph G p l e R s m args below meth c nL Q h cells slots pc' ls st) : V ph G p l e R s m args below meth c nL Q h cells slots pc ls (aA 102 y :: aA 102 x :: st) := by
  subst hp
  have hj := C.2.2.2.2.2.1.2.1
  exact fun H locs LS a b d => lv_acmp_ne C.1 C.2.1 hd ht (fun q => kt (fun z => q ((rW_inj hj hx hy).mpr z)) H locs LS a b d) (fun q => kf ((rW_inj hj hx hy).mp q) H locs LS a b d)
theorem v_tabIn (C : Cx G p s m c args cc nL own) {dflt lo hi : Int} {offs : Array Int} {len : Nat} {x : Int32} {off : Int} (hd : decode cc pc = .ok (.tableswitch dflt lo hi offs, len)) (h1 : ¬ x.toInt < lo) (h2 : ¬ hi < x.toInt) (ho : offs[(x.toInt - lo).toNat]? = some off) (ht : (pc : Int) + off = (pc' : Int)) (k : V ph G p l e R s m args below meth c nL Q h cells slots pc' ls st) : V ph G p l e R s m args below meth c nL Q h cells slots pc ls (aI x :: st) := fun H locs LS a b d => lv_tableIn C.1 C.2.1 hd h1 h2 ho ht (k H locs LS a b d)
theorem v_tabOut (C : Cx G p s m c args cc nL own) {dflt lo hi : Int} {offs : Array Int} {len : Nat} {x : Int32} (hd : decode cc pc = .ok (.tableswitch dflt lo hi offs, len)) (h1 : x.toInt < lo ∨ hi < x.toInt) (ht : (pc : Int) + dflt = (pc' : Int)) (k : V ph G p l e R s m args below meth c nL Q h cells slots pc' ls st) : V ph G p l e R s m args below meth c nL Q h cells slots pc ls (aI x :: st) := fun H locs LS a b d => lv_tableOut C.1 C.2.1 hd h1 ht (k H locs LS a b d)
theorem V.widen {ce sl : Nat} (h1 : cells ≤ ce) (h2 : slots ≤ sl) (k : V ph G p l e R s m args below meth c nL Q h ce sl pc ls st) : V ph G p l e R s m args below meth c nL Q h cells slots pc ls st := fun H locs LS a b d => W.widen h1 h2 (k H locs LS a b d)
end VR2
end
section
theorem mkF_at (G : GG) (h : Hp) (a : Ad) : ∀ (tys : List Nat) (s k : Nat), (mkF G h a tys s)[k]? = (tys[k]?).map fun ty => mkV G h a (s + k) ty
  | [], s, k => by simp [mkF]
  | ty :: r, s, 0 => by simp [mkF]
  | ty :: r, s, k + 1 => by
    rw [mkF, List.getElem?_cons_succ, List.getElem?_cons_succ, mkF_at G h a r (s + 1) k, show s + 1 + k = s + (k + 1) by omega]
theorem mkF_len (G : GG) (h : Hp) (a : Ad) : ∀ (tys : List Nat) (s : Nat), (mkF G h a tys s).length = tys.length
  | [], s => rfl
  | ty :: r, s => by rw [mkF, List.length_cons, List.length_cons, mkF_len G h a r (s + 1)]
theorem mkF_set {G : GG} {h h' : Hp} {a : Ad} {tys : List Nat} {k ty : Nat} {v : Value} (hk : tys[k]? = some ty) (hv : mkV G h' a k ty = v) (ho : ∀ j ty' : Nat, j ≠ k → tys[j]? = some ty' → mkV G h' a j ty' = mkV G h a j ty') : (mkF G h a tys 0).set k v = mkF G h' a tys 0 := by
  apply List.ext_getElem?
  intro j
  have hl := (List.getElem?_eq_some_iff.mp hk).1
  by_cases hj : j = k
  · subst hj
    rw [List.getElem?_set_self (by rw [mkF_len]; exact hl), mkF_at, hk]
    simp [hv]
  · rw [List.getElem?_set_ne (Ne.symm hj), mkF_at, mkF_at]
    cases ht : tys[j]? with
    | none => rfl
    | some ty' => simp [ho j ty' hj ht]
theorem cellE_congr {G : GG} {h h' : Hp} {b : Ad} (h1 : ∀ s, gI h' b s = gI h b s) (h2 : ∀ s, gL h' b s = gL h b s) (h3 : ∀ s, gR h' b s = gR h b s) : cellE G h' b = cellE G h b := by
  have e1 : gI h' b = gI h b := funext h1
  have e2 : gL h' b = gL h b := funext h2
  have e3 : gR h' b = gR h b := funext h3
  have eV : ∀ (s ty : Nat), mkV G h' b s ty = mkV G h b s ty := fun s ty => by rw [mkV, mkV, h1, h2, h3]
  have eF : ∀ (tys : List Nat) (s : Nat), mkF G h' b tys s = mkF G h b tys s := by
    intro tys
    induction tys with
    | nil => intro s; rfl
    | cons ty r ih => intro s; rw [mkF, mkF, eV, ih]
  unfold cellE
  cases shp b.1 with
  | inl q => simp only [eF]
  | inr q => simp only [mkA, e1, e2, e3]
/-- what a write of one place must be: the same count, the same places elsewhere -/
def oneAt (h h' : Hp) (a : Ad) (k : Nat) : Prop := gn h' = gn h ∧ (∀ (b : Ad) (s : Nat), ¬ (b = a ∧ s = k) → gI h' b s = gI h b s ∧ gL h' b s = gL h b s ∧ gR h' b s = gR h b s)
theorem one_sI (h : Hp) (a : Ad) (k : Nat) (v : Int32) : oneAt h (sI h a k v) a k := ⟨rfl, fun b s q => ⟨by rw [gI_sI, if_neg q], rfl, rfl⟩⟩
theorem one_sL (h : Hp) (a : Ad) (k : Nat) (v : Int64) : oneAt h (sL h a k v) a k := ⟨rfl, fun b s q => ⟨rfl, by rw [gL_sL, if_neg q], rfl⟩⟩
theorem one_sR (h : Hp) (a : Ad) (k : Nat) (v : Option Nat) : oneAt h (sR h a k v) a k := ⟨rfl, fun b s q => ⟨rfl, rfl, by rw [gR_sR, if_neg q]⟩⟩
theorem oneAt.cell {G : GG} {h h' : Hp} {a b : Ad} {k : Nat} (w : oneAt h h' a k) (hb : b ≠ a) : cellE G h' b = cellE G h b := cellE_congr (fun s => (w.2 b s fun q => hb q.1).1) (fun s => (w.2 b s fun q => hb q.1).2.1) (fun s => (w.2 b s fun q => hb q.1).2.2)
theorem oneAt.fresh {h h' : Hp} {a : Ad} {k : Nat} (w : oneAt h h' a k) (hl : pos a < gn h) (hF : Fresh h) : Fresh h' := by
  intro j hj s
  rw [w.1] at hj
  have hne : ¬ (unp j = a ∧ s = k) := fun q => by
    have : pos (unp j) = j := pos_unp j
    rw [q.1] at this
    omega
  obtain ⟨e1, e2, e3⟩ := w.2 (unp j) s hne
  rw [e1, e2, e3]
  exact hF j hj s
theorem oneAt.WR {ph : Bool} {G : GG} {h h' : Hp} {H H1 : Heap} {a : Ad} {k : Nat} (w : oneAt h h' a k) (hl : pos a < gn h) (hW : WR ph G h H) (hz : H1.size = H.size) (hP : va_P G.2.2.1 vwCl (wl G h') H1) (hK : ph = true → ∀ (b : Ad) (s : Nat), (b = a ∧ s = k) → gR h' b s = gR h b s ∨ (FR b.1 b.2 s = none ∧ b.1 ≠ 4)) : WR ph G h' H1 := by
  obtain ⟨w1, w2, w3, w4⟩ := hW
  refine ⟨by rw [hz, w1, w.1], hP, w.fresh hl w3, fun q => ?_⟩
  obtain ⟨⟨f1, f2⟩, f3⟩ := w4 q
  refine ⟨⟨fun t i s j e1 e2 e3 => ?_, fun i hi => ?_⟩, by rw [w.1]; exact f3⟩
  · by_cases hq : ((t, i) : Ad) = a ∧ s = k
    · rcases hK q _ _ hq with h1 | ⟨h1, -⟩
      · rw [h1]; exact f1 t i s j e1 e2 e3
      · rw [h1] at e3; cases e3
    · rw [(w.2 _ _ hq).2.2]; exact f1 t i s j e1 e2 e3
  · by_cases hq : ((4, 0) : Ad) = a ∧ i = k
    · rcases hK q _ _ hq with h1 | ⟨-, h1⟩
      · rw [h1]; exact f2 i hi
      · exact absurd rfl h1
    · rw [(w.2 _ _ hq).2.2]; exact f2 i hi
theorem WR_put {ph : Bool} {G : GG} {h h' : Hp} {H H1 : Heap} {a : Ad} {k : Nat} (w : oneAt h h' a k) (hv : lvq ph h a) (hW : WR ph G h H) (hz : H1.size = H.size) (hc : va_at G.2.2.1 vwCl (loc G a, cellE G h' a) H1) (oq : ∀ q : Nat, q ≠ loc G a → H1[q]? = H[q]?) (hK : ph = true → ∀ (b : Ad) (s : Nat), (b = a ∧ s = k) → gR h' b s = gR h b s ∨ (FR b.1 b.2 s = none ∧ b.1 ≠ 4)) : WR ph G h' H1 := by
  refine w.WR (lvq_lt hW hv) hW hz ?_ hK
  have e := va_P.set hW.2.1 (wl_D G h) (wl_cell hW hv) hc oq
  rw [wl_set hv.1 w.1 fun b hb => w.cell hb] at e
  exact e
def FLk (own : String) (idx ci k : Nat) : Prop := ∃ (C : String) (T : u_T) (N : Nat) (ref : String), vwCl[ci]? = some (C, T, N) ∧ k < N ∧ (∀ w ∈ u_ws C T N, w ∈ TT) ∧ Cond.fieldLink own idx ref (T k).2.1 (T k).2.2.1 ∈ TT ∧ ((T k).1 = ref ∨ Cond.sameField ref (T k).1 (T k).2.1 (T k).2.2.1 ∈ TT)
def tyC : Nat → FieldType → Prop
  | 0, t => t = .int
  | 1, t => t = .boolean
  | 2, t => t = .long
  | _, t => (∃ n, t = .object n) ∨ ∃ u, t = .array u
def FPk (own : String) (idx ci k : Nat) (fin : Bool) (ty : Nat) : Prop := ∃ (C : String) (T : u_T) (N : Nat) (ref : String) (ty0 : Nat → FieldType) (t : FieldType), vwCl[ci]? = some (C, T, N) ∧ k < N ∧ (∀ w ∈ u_ws C T N, w ∈ TT) ∧ Cond.fieldLink own idx ref (T k).2.1 (T k).2.2.1 ∈ TT ∧ ((T k).1 = ref ∨ Cond.sameField ref (T k).1 (T k).2.1 (T k).2.2.1 ∈ TT) ∧ (∀ k, k < N → parseFieldDescriptor (T k).2.2.1 = some (ty0 k)) ∧ (∀ a, a < N → ∀ b, b < N → a ≠ b → (T a).2.1 ≠ (T b).2.1) ∧ (T k).2.2.2 = fin ∧ parseFieldDescriptor (T k).2.2.1 = some t ∧ tyC ty t ∧ (fin = true → (T k).1 = own)
theorem tyC_nf {ty : Nat} {t : FieldType} (ht : tyC ty t) {G : GG} {h : Hp} {a : Ad} {s : Nat} (hb : ty = 1 → gI h a s = 0 ∨ gI h a s = 1) : narrow t (mkV G h a s ty) = mkV G h a s ty ∧ fits t (mkV G h a s ty) = true := by
  match ty, ht with
  | 0, e => cases e; exact ⟨rfl, rfl⟩
  | 1, e =>
    cases e
    have e2 : mkV G h a s 1 = .int (gI h a s) := rfl
    rw [e2]
    rcases hb rfl with q | q <;> (rw [q]; exact ⟨by decide, by decide⟩)
  | 2, e => cases e; exact ⟨rfl, rfl⟩
  | k + 3, e =>
    have e2 : mkV G h a s (k + 3) = rO G (k + 3 - 100) (gR h a s) := by
      rw [mkV, if_neg (by omega), if_neg (by omega)]
    rw [e2]
    rcases e with ⟨n, rfl⟩ | ⟨u, rfl⟩ <;> cases gR h a s <;> exact ⟨rfl, rfl⟩
theorem mkV_R {G : GG} {h : Hp} {a : Ad} {s ty : Nat} (hty : 100 ≤ ty) : mkV G h a s ty = rO G (ty - 100) (gR h a s) := by rw [mkV, if_neg (by omega), if_neg (by omega)]
def inB (i : Int32) (n : Nat) : Bool := decide (0 ≤ i) && decide (i.toNatClampNeg < n)
theorem inB_vp {i : Int32} {n : Nat} (h : inB i n = true) : vp_in i n := by
  simp only [inB, Bool.and_eq_true, decide_eq_true_eq] at h
  rintro (q | q)
  · have h1 := h.1
    rw [Int32.le_iff_toInt_le] at h1
    rw [Int32.lt_iff_toInt_lt] at q
    have e : (0 : Int32).toInt = 0 := by decide
    omega
  · omega
section VR3
variable {ph : Bool} {G : GG} {p : Program} {l : Launch} {e : Env} {R : Room} {s : State} {m : MethodId} {args : Array Value} {below : List Frame} {meth : Method} {c : Code} {nL : Nat} {Q : State → Prop} {h : Hp} {cells slots pc pc' : Nat} {ls : List (Option AV)} {st : List AV} {cc : ByteArray} {own : String}
theorem v_getV (C : Cx G p s m c args cc nL own) {t i ci k ty idx : Nat} {tys : List Nat} {x : AV} (hf : FLk own idx ci k) (hs : shp t = .inl (ci, tys)) (hty : tys[k]? = some ty) (hv : lvq ph h (t, i)) (hd : decode cc pc = .ok (.getfield idx, 3)) (hp : pc + 3 = pc') (hx : ∀ H : Heap, WR ph G h H → mkV G h (t, i) k ty = vv G x) (kk : V ph G p l e R s m args below meth c nL Q h cells slots pc' ls (x :: st)) : V ph G p l e R s m args below meth c nL Q h cells slots pc ls (aA t (some i) :: st) := by
  subst hp
  intro H locs LS a b d
  obtain ⟨Cn, T, N, ref, q1, q2, q3, q4, q5⟩ := hf
  have hc : (wl G h)[pos (t, i)]? = some (loc G (t, i), .inr (ci, mkF G h (t, i) tys 0)) := by
    rw [wl_cell a hv]; unfold cellE; rw [show (((t, i) : Ad).1) = t from rfl, hs]
  refine va_get C.1 C.2.1 C.2.2.2.2.1 q3 C.2.2.2.1 C.2.2.2.2.2.1.1 a.2.1 (pos (t, i)) hc q1 k q2 (C.2.2.2.2.1 _ q4) ?_ (v := vv G x) ?_ hd (kk H locs LS a b d)
  · rcases q5 with q5 | q5
    · intro x hx; rw [← q5]; exact hx
    · intro x hx; exact u_same (C.2.2.2.2.1 _ q5) x hx
  · rw [mkF_at, hty, Option.map_some, Nat.zero_add, hx H a]
theorem v_getI (C : Cx G p s m c args cc nL own) {t i ci k idx : Nat} {tys : List Nat} (hf : FLk own idx ci k) (hs : shp t = .inl (ci, tys)) (hty : tys[k]? = some 0 ∨ tys[k]? = some 1) (hv : lvq ph h (t, i)) (hd : decode cc pc = .ok (.getfield idx, 3)) (hp : pc + 3 = pc') (kk : V ph G p l e R s m args below meth c nL Q h cells slots pc' ls (aI (gI h (t, i) k) :: st)) : V ph G p l e R s m args below meth c nL Q h cells slots pc ls (aA t (some i) :: st) := by
  rcases hty with hty | hty
  · exact v_getV C hf hs hty hv hd hp (fun _ _ => rfl) kk
  · exact v_getV C hf hs hty hv hd hp (fun _ _ => rfl) kk
theorem v_getL (C : Cx G p s m c args cc nL own) {t i ci k idx : Nat} {tys : List Nat} (hf : FLk own idx ci k) (hs : shp t = .inl (ci, tys)) (hty : tys[k]? = some 2) (hv : lvq ph h (t, i)) (hd : decode cc pc = .ok (.getfield idx, 3)) (hp : pc + 3 = pc') (kk : V ph G p l e R s m args below meth c nL Q h cells slots pc' ls (aL (gL h (t, i) k) :: st)) : V ph G p l e R s m args below meth c nL Q h cells slots pc ls (aA t (some i) :: st) := v_getV C hf hs hty hv hd hp (fun _ _ => rfl) kk
theorem v_getR (C : Cx G p s m c args cc nL own) {t i ci k idx ty t2 : Nat} {tys : List Nat} (hf : FLk own idx ci k) (hs : shp t = .inl (ci, tys)) (hty : tys[k]? = some ty) (ht2 : ty = 100 + t2) (hv : lvq ph h (t, i)) (hd : decode cc pc = .ok (.getfield idx, 3)) (hp : pc + 3 = pc') (kk : V ph G p l e R s m args below meth c nL Q h cells slots pc' ls (aA t2 (gR h (t, i) k) :: st)) : V ph G p l e R s m args below meth c nL Q h cells slots pc ls (aA t (some i) :: st) := v_getV C hf hs hty hv hd hp (fun _ _ => by rw [mkV_R (by omega), show ty - 100 = t2 by omega]; rfl) kk
/-- a final reference of the two made objects -/
theorem v_getF (C : Cx G p s m c args cc nL own) {t i ci k idx ty t2 j : Nat} {tys : List Nat} (hph : ph = true) (hf : FLk own idx ci k) (hs : shp t = .inl (ci, tys)) (hty : tys[k]? = some ty) (ht2 : ty = 100 + t2) (hj : FR t i k = some j) (hv : unp (pos (t, i)) = (t, i) ∧ pos (t, i) < 74) (hd : decode cc pc = .ok (.getfield idx, 3)) (hp : pc + 3 = pc') (kk : V ph G p l e R s m args below meth c nL Q h cells slots pc' ls (aA t2 (some j) :: st)) : V ph G p l e R s m args below meth c nL Q h cells slots pc ls (aA t (some i) :: st) := v_getV C hf hs hty ⟨hv.1, Or.inr ⟨hph, hv.2⟩⟩ hd hp (fun H hW => by rw [mkV_R (by omega), show ty - 100 = t2 by omega, (hW.2.2.2 hph).1.1 t i k j hv.1 hv.2 hj]; rfl) kk
theorem v_putG (C : Cx G p s m c args cc nL own) {t i ci k ty idx : Nat} {tys : List Nat} {h' : Hp} {x : AV} {fin : Bool} (hf : FPk own idx ci k fin ty) (hs : shp t = .inl (ci, tys)) (hty : tys[k]? = some ty) (hv : lvq ph h (t, i)) (hd : decode cc pc = .ok (.putfield idx, 3)) (hp : pc + 3 = pc') (hone : oneAt h h' (t, i) k) (hx : mkV G h' (t, i) k ty = vv G x) (hb : ty = 1 → gI h' (t, i) k = 0 ∨ gI h' (t, i) k = 1) (hfin : fin = true → meth.name = "<init>") (hK : ph = true → gR h' (t, i) k = gR h (t, i) k ∨ (FR t i k = none ∧ t ≠ 4)) (kk : V ph G p l e R s m args below meth c nL Q h' cells slots pc' ls st) : V ph G p l e R s m args below meth c nL Q h cells slots pc ls (x :: aA t (some i) :: st) := by
  subst hp
  intro H locs LS a b d
  obtain ⟨Cn, T, N, ref, ty0, tf, q1, q2, q3, q4, q5, q6, q7, q8, q9, q10, q11⟩ := hf
  have hc : (wl G h)[pos (t, i)]? = some (loc G (t, i), .inr (ci, mkF G h (t, i) tys 0)) := by
    rw [wl_cell a hv]; unfold cellE; rw [show (((t, i) : Ad).1) = t from rfl, hs]
  have hsame : ∀ x, s.fieldFound? (T k).1 (T k).2.1 (T k).2.2.1 = some x → s.fieldFound? ref (T k).2.1 (T k).2.2.1 = some x := by
    rcases q5 with q5 | q5
    · intro x hx; rw [← q5]; exact hx
    · intro x hx; exact u_same (C.2.2.2.2.1 _ q5) x hx
  obtain ⟨n1, n2⟩ := tyC_nf q10 (G := G) (h := h') (a := (t, i)) (s := k) hb
  rw [hx] at n1 n2
  have hlen : k < (mkF G h (t, i) tys 0).length := by rw [mkF_len]; exact (List.getElem?_eq_some_iff.mp hty).1
  have hset : (mkF G h (t, i) tys 0).set k (vv G x) = mkF G h' (t, i) tys 0 := mkF_set hty hx fun j ty' hj _ => by
    obtain ⟨e1, e2, e3⟩ := hone.2 (t, i) j (fun z => hj z.2)
    rw [mkV, mkV, e1, e2, e3]
  have hcell' : cellE G h' (t, i) = .inr (ci, mkF G h' (t, i) tys 0) := by unfold cellE; rw [show (((t, i) : Ad).1) = t from rfl, hs]
  have hap := va_apart (own := own) C.2.2.2.2.1 q3 ty0 q6 q7 C.2.2.2.2.2.1.1 q1
  obtain ⟨r, h1, cell, c1, c2, c3, c4⟩ := a.2.1 _ _ hc
  have hr : r = (Cn, T, N) := Option.some.inj (h1.symm.trans q1)
  subst hr
  obtain ⟨hSl, hfc, kC, hkC, hkind⟩ := C.2.2.2.2.2.1.1.1 ci _ q1
  obtain ⟨cf, kf, fi, f, hi, hsl⟩ := hSl k q2
  have hlay := C.2.2.2.2.1 _ (q3 _ (u_in_lay q2))
  have hst := (u_facts hfc hkC (u_lays C.2.2.2.2.1 q3 q2) hi).1
  have fin2 : ∀ (H1 : Heap), H1[loc G (t, i)]? = some (cell.setSlot f.slot (vv G x)) → H1.size = H.size → (∀ q, q ≠ loc G (t, i) → H1[q]? = H[q]?) → W p l e R s m args below meth c H1 (locs ++ [⟨loc G (t, i), f.slot⟩]) cells slots Q (F0 m (pc + 3) LS (st.map (vv G))) := by
    intro H1 e1 e2 e3
    refine kk H1 _ LS (WR_put hone hv a e2 ?_ e3 (fun z b2 s2 e2 => by obtain ⟨rfl, rfl⟩ := e2; exact hK z)) (b.put e2 e3 ((wl_D G h).2 _ _ hc)) d
    rw [hcell', ← hset]
    rw [hsl] at e1
    exact ⟨_, q1, t_OB.to (V := updV (vp_V (mkF G h (t, i) tys 0)) k (vv G x)) ⟨_, e1, c2, c3, t_set c4 hap q2 (vv G x)⟩ (fun j _ => vp_updV_set hlen (vv G x) j)⟩
  cases fin with
  | false =>
    unfold u_lay at hlay
    rw [if_neg (by rw [q8]; decide)] at hlay
    have h6 := u_store hfc hkC hkind hlay hi q9 n1 n2
    exact W.putK C.1 C.2.1 (f := f) ⟨C.2.2.2.1, C.2.2.2.2.1 _ q4, ⟨_, _, _, hsame _ hi⟩, hst⟩ (by rw [c2]; exact h6) c1 c3 (by rw [hsl]; exact k2_hasslot (c4 k q2)) rfl rfl hd fin2
  | true =>
    unfold u_lay at hlay
    rw [if_pos q8] at hlay
    have hcf : m.cls = cf := by
      obtain ⟨_, _, c', _, _, _, -, -, hf', -, -, -, hown2, -⟩ := Cond.laysFinal_spec hlay
      have e1 : c' = cf := by have := hi.symm.trans hf'; simp at this; exact this.1.symm
      rw [q11 rfl] at hown2
      rw [← e1]; exact Option.some.inj (C.2.2.2.1.symm.trans hown2)
    have h6 := u_fits hfc hkC hkind (Or.inr hlay) hi q9 n1 n2
    exact W.putFinK C.1 C.2.1 C.2.2.2.1 (C.2.2.2.2.1 _ q4) (hsame _ hi) hst hcf (hfin rfl) (by rw [c2]; exact h6) c1 c3 (by rw [hsl]; exact k2_hasslot (c4 k q2)) rfl rfl hd fin2
end VR3
end
section
section VR4
variable {ph : Bool} {G : GG} {p : Program} {l : Launch} {e : Env} {R : Room} {s : State} {m : MethodId} {args : Array Value} {below : List Frame} {meth : Method} {c : Code} {nL : Nat} {Q : State → Prop} {h : Hp} {cells slots pc pc' : Nat} {ls : List (Option AV)} {st : List AV} {cc : ByteArray} {own : String}
theorem v_putI (C : Cx G p s m c args cc nL own) {t i ci k idx : Nat} {tys : List Nat} {x : Int32} (hf : FPk own idx ci k false 0) (hs : shp t = .inl (ci, tys)) (hty : tys[k]? = some 0) (hv : lvq ph h (t, i)) (hd : decode cc pc = .ok (.putfield idx, 3)) (hp : pc + 3 = pc') (kk : V ph G p l e R s m args below meth c nL Q (sI h (t, i) k x) cells slots pc' ls st) : V ph G p l e R s m args below meth c nL Q h cells slots pc ls (aI x :: aA t (some i) :: st) := v_putG C hf hs hty hv hd hp (one_sI h (t, i) k x) (by show Value.int (gI (sI h (t, i) k x) (t, i) k) = _; rw [gI_sI, if_pos ⟨rfl, rfl⟩]; rfl) (fun z => by cases z) (fun z => by cases z) (fun _ => Or.inl rfl) kk
theorem v_putZ (C : Cx G p s m c args cc nL own) {t i ci k idx : Nat} {tys : List Nat} {x : Int32} (hf : FPk own idx ci k false 1) (hs : shp t = .inl (ci, tys)) (hty : tys[k]? = some 1) (hv : lvq ph h (t, i)) (hd : decode cc pc = .ok (.putfield idx, 3)) (hp : pc + 3 = pc') (hz : x = 0 ∨ x = 1) (kk : V ph G p l e R s m args below meth c nL Q (sI h (t, i) k x) cells slots pc' ls st) : V ph G p l e R s m args below meth c nL Q h cells slots pc ls (aI x :: aA t (some i) :: st) := v_putG C hf hs hty hv hd hp (one_sI h (t, i) k x) (by show Value.int (gI (sI h (t, i) k x) (t, i) k) = _; rw [gI_sI, if_pos ⟨rfl, rfl⟩]; rfl) (fun _ => by rw [gI_sI, if_pos ⟨rfl, rfl⟩]; exact hz) (fun z => by cases z) (fun _ => Or.inl rfl) kk
theorem v_putL (C : Cx G p s m c args cc nL own) {t i ci k idx : Nat} {tys : List Nat} {x : Int64} (hf : FPk own idx ci k false 2) (hs : shp t = .inl (ci, tys)) (hty : tys[k]? = some 2) (hv : lvq ph h (t, i)) (hd : decode cc pc = .ok (.putfield idx, 3)) (hp : pc + 3 = pc') (kk : V ph G p l e R s m args below meth c nL Q (sL h (t, i) k x) cells slots pc' ls st) : V ph G p l e R s m args below meth c nL Q h cells slots pc ls (aL x :: aA t (some i) :: st) := v_putG C hf hs hty hv hd hp (one_sL h (t, i) k x) (by show Value.long (gL (sL h (t, i) k x) (t, i) k) = _; rw [gL_sL, if_pos ⟨rfl, rfl⟩]; rfl) (fun z => by cases z) (fun z => by cases z) (fun _ => Or.inl rfl) kk
theorem v_putR (C : Cx G p s m c args cc nL own) {t i ci k idx : Nat} {tys : List Nat} {ty t2 : Nat} {x : Option Nat} (hf : FPk own idx ci k false ty) (hs : shp t = .inl (ci, tys)) (hty : tys[k]? = some ty) (hv : lvq ph h (t, i)) (hd : decode cc pc = .ok (.putfield idx, 3)) (hp : pc + 3 = pc') (ht2 : ty = 100 + t2) (hK : ph = true → FR t i k = none ∧ t ≠ 4) (kk : V ph G p l e R s m args below meth c nL Q (sR h (t, i) k x) cells slots pc' ls st) : V ph G p l e R s m args below meth c nL Q h cells slots pc ls (aA t2 x :: aA t (some i) :: st) := v_putG C hf hs hty hv hd hp (one_sR h (t, i) k x) (by rw [mkV_R (by omega), gR_sR, if_pos ⟨rfl, rfl⟩, show ty - 100 = t2 by omega]; rfl) (fun z => by omega) (fun z => by cases z) (fun z => Or.inr (hK z)) kk
theorem v_putFI (C : Cx G p s m c args cc nL own) {t i ci k idx : Nat} {tys : List Nat} {x : Int32} (hf : FPk own idx ci k true 0) (hs : shp t = .inl (ci, tys)) (hty : tys[k]? = some 0) (hv : lvq ph h (t, i)) (hd : decode cc pc = .ok (.putfield idx, 3)) (hp : pc + 3 = pc') (hin : meth.name = "<init>") (kk : V ph G p l e R s m args below meth c nL Q (sI h (t, i) k x) cells slots pc' ls st) : V ph G p l e R s m args below meth c nL Q h cells slots pc ls (aI x :: aA t (some i) :: st) := v_putG C hf hs hty hv hd hp (one_sI h (t, i) k x) (by show Value.int (gI (sI h (t, i) k x) (t, i) k) = _; rw [gI_sI, if_pos ⟨rfl, rfl⟩]; rfl) (fun z => by cases z) (fun _ => hin) (fun _ => Or.inl rfl) kk
theorem v_putFZ (C : Cx G p s m c args cc nL own) {t i ci k idx : Nat} {tys : List Nat} {x : Int32} (hf : FPk own idx ci k true 1) (hs : shp t = .inl (ci, tys)) (hty : tys[k]? = some 1) (hv : lvq ph h (t, i)) (hd : decode cc pc = .ok (.putfield idx, 3)) (hp : pc + 3 = pc') (hz : x = 0 ∨ x = 1) (hin : meth.name = "<init>") (kk : V ph G p l e R s m args below meth c nL Q (sI h (t, i) k x) cells slots pc' ls st) : V ph G p l e R s m args below meth c nL Q h cells slots pc ls (aI x :: aA t (some i) :: st) := v_putG C hf hs hty hv hd hp (one_sI h (t, i) k x) (by show Value.int (gI (sI h (t, i) k x) (t, i) k) = _; rw [gI_sI, if_pos ⟨rfl, rfl⟩]; rfl) (fun _ => by rw [gI_sI, if_pos ⟨rfl, rfl⟩]; exact hz) (fun _ => hin) (fun _ => Or.inl rfl) kk
theorem v_putFL (C : Cx G p s m c args cc nL own) {t i ci k idx : Nat} {tys : List Nat} {x : Int64} (hf : FPk own idx ci k true 2) (hs : shp t = .inl (ci, tys)) (hty : tys[k]? = some 2) (hv : lvq ph h (t, i)) (hd : decode cc pc = .ok (.putfield idx, 3)) (hp : pc + 3 = pc') (hin : meth.name = "<init>") (kk : V ph G p l e R s m args below meth c nL Q (sL h (t, i) k x) cells slots pc' ls st) : V ph G p l e R s m args below meth c nL Q h cells slots pc ls (aL x :: aA t (some i) :: st) := v_putG C hf hs hty hv hd hp (one_sL h (t, i) k x) (by show Value.long (gL (sL h (t, i) k x) (t, i) k) = _; rw [gL_sL, if_pos ⟨rfl, rfl⟩]; rfl) (fun z => by cases z) (fun _ => hin) (fun _ => Or.inl rfl) kk
theorem v_putFR (C : Cx G p s m c args cc nL own) {t i ci k idx : Nat} {tys : List Nat} {ty t2 : Nat} {x : Option Nat} (hf : FPk own idx ci k true ty) (hs : shp t = .inl (ci, tys)) (hty : tys[k]? = some ty) (hv : lvq ph h (t, i)) (hd : decode cc pc = .ok (.putfield idx, 3)) (hp : pc + 3 = pc') (ht2 : ty = 100 + t2) (hK : ph = true → FR t i k = none ∧ t ≠ 4) (hin : meth.name = "<init>") (kk : V ph G p l e R s m args below meth c nL Q (sR h (t, i) k x) cells slots pc' ls st) : V ph G p l e R s m args below meth c nL Q h cells slots pc ls (aA t2 x :: aA t (some i) :: st) := v_putG C hf hs hty hv hd hp (one_sR h (t, i) k x) (by rw [mkV_R (by omega), gR_sR, if_pos ⟨rfl, rfl⟩, show ty - 100 = t2 by omega]; rfl) (fun z => by omega) (fun _ => hin) (fun z => Or.inr (hK z)) kk
theorem tys_at (G : GG) {k : Nat} (hk : k < 5) : (tysL G)[k]? = some (G.2.2.2 k, aTy k) := by simp [tysL, hk]
theorem arr_cell {ph : Bool} {G : GG} {h : Hp} {H : Heap} {t i k len : Nat} (hs : shp t = .inr (k, len)) (hW : WR ph G h H) (hv : lvq ph h (t, i)) : (wl G h)[pos (t, i)]? = some (loc G (t, i), .inl (G.2.2.2 k, mkA G h (t, i) k len)) := by
  rw [wl_cell hW hv]; unfold cellE; rw [show (((t, i) : Ad).1) = t from rfl, hs]
theorem v_iald (C : Cx G p s m c args cc nL own) {t i len : Nat} {x : Int32} (hs : shp t = .inr (0, len)) (hv : lvq ph h (t, i)) (hin : inB x len = true) (hd : decode cc pc = .ok (.iaload, 1)) (hp : pc + 1 = pc') (kk : V ph G p l e R s m args below meth c nL Q h cells slots pc' ls (aI (gI h (t, i) x.toNatClampNeg) :: st)) : V ph G p l e R s m args below meth c nL Q h cells slots pc ls (aI x :: aA t (some i) :: st) := by
  subst hp
  exact fun H locs LS a b d => va_iald C.1 C.2.1 C.2.2.2.2.2.1.1 a.2.1 (pos (t, i)) 0 (arr_cell hs a hv) (tys_at G (by decide)) (inB_vp hin) hd (kk H locs LS a b d)
theorem v_cald (C : Cx G p s m c args cc nL own) {t i len : Nat} {x : Int32} (hs : shp t = .inr (1, len)) (hv : lvq ph h (t, i)) (hin : inB x len = true) (hd : decode cc pc = .ok (.caload, 1)) (hp : pc + 1 = pc') (kk : V ph G p l e R s m args below meth c nL Q h cells slots pc' ls (aI (gI h (t, i) x.toNatClampNeg) :: st)) : V ph G p l e R s m args below meth c nL Q h cells slots pc ls (aI x :: aA t (some i) :: st) := by
  subst hp
  exact fun H locs LS a b d => va_cald C.1 C.2.1 C.2.2.2.2.2.1.1 a.2.1 (pos (t, i)) 1 (arr_cell hs a hv) (tys_at G (by decide)) (inB_vp hin) hd (kk H locs LS a b d)
theorem v_lald (C : Cx G p s m c args cc nL own) {t i len : Nat} {x : Int32} (hs : shp t = .inr (2, len)) (hv : lvq ph h (t, i)) (hin : inB x len = true) (hd : decode cc pc = .ok (.laload, 1)) (hp : pc + 1 = pc') (kk : V ph G p l e R s m args below meth c nL Q h cells slots pc' ls (aL (gL h (t, i) x.toNatClampNeg) :: st)) : V ph G p l e R s m args below meth c nL Q h cells slots pc ls (aI x :: aA t (some i) :: st) := by
  subst hp
  exact fun H locs LS a b d => va_lald C.1 C.2.1 C.2.2.2.2.2.1.1 a.2.1 (pos (t, i)) 2 (arr_cell hs a hv) (tys_at G (by decide)) (inB_vp hin) hd (kk H locs LS a b d)
theorem v_aaldN (C : Cx G p s m c args cc nL own) {t i len : Nat} {x : Int32} (hs : shp t = .inr (3, len)) (hv : lvq ph h (t, i)) (hin : inB x len = true) (hd : decode cc pc = .ok (.aaload, 1)) (hp : pc + 1 = pc') (kk : V ph G p l e R s m args below meth c nL Q h cells slots pc' ls (aA 5 (gR h (t, i) x.toNatClampNeg) :: st)) : V ph G p l e R s m args below meth c nL Q h cells slots pc ls (aI x :: aA t (some i) :: st) := by
  subst hp
  exact fun H locs LS a b d => va_aldq C.1 C.2.1 C.2.2.2.2.2.1.1 a.2.1 (pos (t, i)) 3 (arr_cell hs a hv) (tys_at G (by decide)) (inB_vp hin) hd (kk H locs LS a b d)
theorem v_aaldO (C : Cx G p s m c args cc nL own) {t i len : Nat} {x : Int32} (hs : shp t = .inr (4, len)) (hv : lvq ph h (t, i)) (hin : inB x len = true) (hd : decode cc pc = .ok (.aaload, 1)) (hp : pc + 1 = pc') (kk : V ph G p l e R s m args below meth c nL Q h cells slots pc' ls (aA 15 (gR h (t, i) x.toNatClampNeg) :: st)) : V ph G p l e R s m args below meth c nL Q h cells slots pc ls (aI x :: aA t (some i) :: st) := by
  subst hp
  exact fun H locs LS a b d => va_aldq C.1 C.2.1 C.2.2.2.2.2.1.1 a.2.1 (pos (t, i)) 4 (arr_cell hs a hv) (tys_at G (by decide)) (inB_vp hin) hd (kk H locs LS a b d)
/-- a place of Tree.all -/
theorem v_aaldF (C : Cx G p s m c args cc nL own) {x : Int32} (hph : ph = true) (hin : inB x 24 = true) (hd : decode cc pc = .ok (.aaload, 1)) (hp : pc + 1 = pc') (kk : V ph G p l e R s m args below meth c nL Q h cells slots pc' ls (aA 5 (some x.toNatClampNeg) :: st)) : V ph G p l e R s m args below meth c nL Q h cells slots pc ls (aI x :: aA 4 (some 0) :: st) := by
  have hlt : x.toNatClampNeg < 24 := by
    simp only [inB, Bool.and_eq_true, decide_eq_true_eq] at hin
    exact hin.2
  refine v_aaldN (t := 4) (i := 0) (len := 24) C rfl ⟨by decide, Or.inr ⟨hph, by decide⟩⟩ hin hd hp ?_
  intro H locs LS a b d
  have e := (a.2.2.2 hph).1.2 _ hlt
  rw [e]
  exact kk H locs LS a b d
theorem v_alen (C : Cx G p s m c args cc nL own) {t i len : Nat} {k : Nat} {v : Int32} (hs : shp t = .inr (k, len)) (hk : k < 5) (hv : lvq ph h (t, i)) (hl : Int32.ofNat len = v) (hd : decode cc pc = .ok (.arraylength, 1)) (hp : pc + 1 = pc') (kk : V ph G p l e R s m args below meth c nL Q h cells slots pc' ls (aI v :: st)) : V ph G p l e R s m args below meth c nL Q h cells slots pc ls (aA t (some i) :: st) := by
  subst hp
  exact fun H locs LS a b d => va_alen C.1 C.2.1 C.2.2.2.2.2.1.1 a.2.1 (pos (t, i)) k (arr_cell hs a hv) (tys_at G hk) (v := v) (by exact hl) hd (kk H locs LS a b d)
theorem v_iast (C : Cx G p s m c args cc nL own) {t i len : Nat} {y : Int32} {x : Int32} (hs : shp t = .inr (0, len)) (hv : lvq ph h (t, i)) (hin : inB y len = true) (hd : decode cc pc = .ok (.iastore, 1)) (hp : pc + 1 = pc') (kk : V ph G p l e R s m args below meth c nL Q (sI h (t, i) y.toNatClampNeg x) cells slots pc' ls st) : V ph G p l e R s m args below meth c nL Q h cells slots pc ls (aI x :: aI y :: aA t (some i) :: st) := by
  subst hp
  intro H locs LS a b d
  have hc := arr_cell hs a hv
  refine W.iast C.1 C.2.1 (a.2.1 _ _ hc) ((C.2.2.2.2.2.1.1.2 0 _ (tys_at G (by decide))).1 len (fun j => .int (gI h (t, i) j))) (fun q => by cases q) (by show ¬ (y < 0 ∨ (arrV _ _ _).slots.size ≤ _); rw [arrV_size]; exact inB_vp hin) rfl rfl hd fun H1 e1 z oq => ?_
  refine kk H1 _ LS (WR_put (one_sI h (t, i) y.toNatClampNeg x) hv a z ?_ oq (fun _ b2 s2 _ => Or.inl rfl)) (b.put z oq ((wl_D G h).2 _ _ hc)) d
  unfold cellE
  rw [show (((t, i) : Ad).1) = t from rfl, hs]
  show H1[loc G (t, i)]? = some (vp_cell _ (len, _))
  rw [e1]
  show some (Cell.setSlot (vp_cell (G.2.2.2 0) (len, .inl (gI h (t, i)))) _ _) = some (vp_cell (G.2.2.2 0) (len, .inl (gI (sI h (t, i) y.toNatClampNeg x) (t, i))))
  rw [vp_cell_i, vp_cell_i, arrV_store]
  congr 2
  funext q
  by_cases hq : q = y.toNatClampNeg
  · subst hq
    simp [updV, gI_sI]
    
  · simp [updV, gI_sI, hq]
theorem v_cast (C : Cx G p s m c args cc nL own) {t i len : Nat} {y : Int32} {x : Int32} (hs : shp t = .inr (1, len)) (hv : lvq ph h (t, i)) (hin : inB y len = true) (hd : decode cc pc = .ok (.castore, 1)) (hp : pc + 1 = pc') (kk : V ph G p l e R s m args below meth c nL Q (sI h (t, i) y.toNatClampNeg (vp_nar .char x)) cells slots pc' ls st) : V ph G p l e R s m args below meth c nL Q h cells slots pc ls (aI x :: aI y :: aA t (some i) :: st) := by
  subst hp
  intro H locs LS a b d
  have hc := arr_cell hs a hv
  refine W.cast C.1 C.2.1 (a.2.1 _ _ hc) ((C.2.2.2.2.2.1.1.2 1 _ (tys_at G (by decide))).1 len (fun j => .int (gI h (t, i) j))) (fun q => by cases q) (by show ¬ (y < 0 ∨ (arrV _ _ _).slots.size ≤ _); rw [arrV_size]; exact inB_vp hin) rfl rfl hd fun H1 e1 z oq => ?_
  refine kk H1 _ LS (WR_put (one_sI h (t, i) y.toNatClampNeg (vp_nar .char x)) hv a z ?_ oq (fun _ b2 s2 _ => Or.inl rfl)) (b.put z oq ((wl_D G h).2 _ _ hc)) d
  unfold cellE
  rw [show (((t, i) : Ad).1) = t from rfl, hs]
  show H1[loc G (t, i)]? = some (vp_cell _ (len, _))
  rw [e1]
  show some (Cell.setSlot (vp_cell (G.2.2.2 1) (len, .inl (gI h (t, i)))) _ _) = some (vp_cell (G.2.2.2 1) (len, .inl (gI (sI h (t, i) y.toNatClampNeg (vp_nar .char x)) (t, i))))
  rw [vp_cell_i, vp_cell_i, arrV_store]
  congr 2
  funext q
  by_cases hq : q = y.toNatClampNeg
  · subst hq
    simp [updV, gI_sI, vp_nar]
    try rfl
  · simp [updV, gI_sI, hq]
theorem v_last (C : Cx G p s m c args cc nL own) {t i len : Nat} {y : Int32} {x : Int64} (hs : shp t = .inr (2, len)) (hv : lvq ph h (t, i)) (hin : inB y len = true) (hd : decode cc pc = .ok (.lastore, 1)) (hp : pc + 1 = pc') (kk : V ph G p l e R s m args below meth c nL Q (sL h (t, i) y.toNatClampNeg x) cells slots pc' ls st) : V ph G p l e R s m args below meth c nL Q h cells slots pc ls (aL x :: aI y :: aA t (some i) :: st) := by
  subst hp
  intro H locs LS a b d
  have hc := arr_cell hs a hv
  refine W.last C.1 C.2.1 (a.2.1 _ _ hc) ((C.2.2.2.2.2.1.1.2 2 _ (tys_at G (by decide))).1 len (fun j => .long (gL h (t, i) j))) (fun q => by cases q) (by show ¬ (y < 0 ∨ (arrV _ _ _).slots.size ≤ _); rw [arrV_size]; exact inB_vp hin) rfl rfl hd fun H1 e1 z oq => ?_
  refine kk H1 _ LS (WR_put (one_sL h (t, i) y.toNatClampNeg x) hv a z ?_ oq (fun _ b2 s2 _ => Or.inl rfl)) (b.put z oq ((wl_D G h).2 _ _ hc)) d
  unfold cellE
  rw [show (((t, i) : Ad).1) = t from rfl, hs]
  show H1[loc G (t, i)]? = some (vp_cell _ (len, _))
  rw [e1]
  show some (Cell.setSlot (vp_cell (G.2.2.2 2) (len, .inr (.inl (gL h (t, i))))) _ _) = some (vp_cell (G.2.2.2 2) (len, .inr (.inl (gL (sL h (t, i) y.toNatClampNeg x) (t, i)))))
  rw [vp_cell_l, vp_cell_l, arrV_store]
  congr 2
  funext q
  by_cases hq : q = y.toNatClampNeg
  · subst hq
    simp [updV, gL_sL]
    
  · simp [updV, gL_sL, hq]
end VR4
def exL : List AV → List (Option AV)
  | [] => []
  | v :: r => if isW v then some v :: none :: exL r else some v :: exL r
def entL (nL : Nat) (vs : List AV) : List (Option AV) := exL vs ++ List.replicate (nL - (exL vs).length) none
theorem exL_args (G : GG) : ∀ (vs : List AV) (k j : Nat) (x : AV), (exL vs)[j]? = some (some x) → (k + j, vv G x) ∈ lv_args k (vs.map (vv G))
  | [], k, j, x, h => by simp [exL] at h
  | v :: r, k, j, x, h => by
    rw [List.map_cons, lv_args]
    rw [exL] at h
    by_cases hw : isW v = true
    · rw [if_pos hw] at h
      rw [vv_cat, if_pos hw, if_pos rfl]
      match j, h with
      | 0, h => simp at h; subst h; exact List.mem_cons_self
      | 1, h => simp at h
      | j + 2, h =>
        have := exL_args G r (k + 2) j x (by simpa using h)
        rw [show k + (j + 2) = k + 2 + j by omega]
        exact List.mem_cons_of_mem _ this
    · rw [if_neg hw] at h
      rw [vv_cat, if_neg hw, if_neg (by decide)]
      match j, h with
      | 0, h => simp at h; subst h; exact List.mem_cons_self
      | j + 1, h =>
        have := exL_args G r (k + 1) j x (by simpa using h)
        rw [show k + (j + 1) = k + 1 + j by omega]
        exact List.mem_cons_of_mem _ this
theorem exL_len (G : GG) : ∀ (vs : List AV), (lg_sl (vs.map (vv G))).length = (exL vs).length
  | [] => rfl
  | v :: r => by
    have ih := exL_len G r
    rw [List.map_cons]
    unfold lg_sl at ih ⊢
    rw [List.flatMap_cons, List.length_append, ih, exL, vv_cat]
    by_cases hw : isW v = true
    · simp [hw]; omega
    · simp [hw]; omega
def PcA (ph : Bool) (G : GG) (vs : List AV) (h : Hp) : Array Value → State → Prop := fun a U => a = (vs.map (vv G)).toArray ∧ G.1 ≤ U.heap.size ∧ WR ph G h U.heap ∧ GF G U U.heap
def QcA (ph : Bool) (G : GG) (rv : Option AV) (h' : Hp) : Array Value → State → Outcome → State → Prop := fun _ st oc t => (oc = .returned (rv.map (vv G)) ∧ WR ph G h' t.heap) ∧ va_F (A_ G) st t
/-- THE CONTRACT of a method: from vs over h it answers rv, and leaves h' -/
def Ctr (l : Launch) (y : MethodName) (b : ByteArray) (nL : Nat) (ret : Option FieldType) (fr lo mc ms : Nat) (ph : Bool) (vs : List AV) (h : Hp) (rv : Option AV) (h' : Hp) : Prop := ∀ G : GG, Met l y (.code y b nL ret :: TT) { frames := fr, cells := mc, slots := ms, locals := lo } (PcA ph G vs h) (QcA ph G rv h') mc ms (A_ G)
theorem Ctr.of {l : Launch} {y : MethodName} {b : ByteArray} {nL : Nat} {ret : Option FieldType} {fr lo mc ms : Nat} {ph : Bool} {vs : List AV} {h : Hp} {rv : Option AV} {h' : Hp} {ls0 : List (Option AV)} (hy : plainName y.cls = true) (hn : (exL vs).length ≤ nL) (hls : entL nL vs = ls0)
    (body : ∀ (G : GG) (p : Program) (e : Env) (s : State) (m : MethodId) (args : Array Value) (below : List Frame) (meth : Method) (c : Code), Cx G p s m c args b nL y.cls → meth.sig.returnType = ret → meth.locks = false → meth.name = y.name → V ph G p l e { frames := fr, cells := mc, slots := ms, locals := lo } s m args below meth c nL (MQ below (QcA ph G rv h') args s mc ms (A_ G)) h 0 0 0 ls0 []) : Ctr l y b nL ret fr lo mc ms ph vs h rv h' := by
  intro G
  refine Met.ofW (cc := b) (maxL := nL) (ret := ret) hy rfl ?_
  intro p e s m args below meth c s₁ B hml hv
  obtain ⟨hargs, hB, hWR, hGF⟩ := hv
  subst hls
  have hts : ∀ w ∈ TT, w.before args s = true := fun w hw => atoms_spec (ws := Cond.code y b nL ret :: TT) B.pre w (List.mem_cons_of_mem _ hw)
  have C : Cx G p s m c args b nL y.cls := ⟨B.exec, B.bytes, hml, findClass_of_methodNamed B.named, hts, hGF, hB⟩
  have hname : meth.name = y.name := (name_of_methodNamed B.named B.method).1
  have key := body G p e s m args below meth c C B.returns B.notSynchronized hname
  rw [hargs]
  have hl := lv_entry (vs.map (vv G)) (n := nL) (by rw [exL_len]; exact hn)
  rw [lg_entry_eq]
  rw [hargs] at key
  refine key s.heap [] _ hWR va_S.rf ⟨hl.1, hl.2.1, fun j x hx => ?_⟩
  refine hl.2.2 (j, vv G x) ?_
  have hx2 : (exL vs)[j]? = some (some x) := by
    rw [entL] at hx
    by_cases hj : j < (exL vs).length
    · rwa [List.getElem?_append_left hj] at hx
    · rw [List.getElem?_append_right (by omega)] at hx
      rw [List.getElem?_replicate] at hx
      split at hx <;> cases hx
  have := exL_args G vs 0 j x hx2
  rwa [Nat.zero_add] at this

section VR5
variable {ph : Bool} {G : GG} {p : Program} {l : Launch} {e : Env} {R : Room} {s : State} {m : MethodId} {args : Array Value} {below : List Frame} {meth : Method} {c : Code} {nL : Nat} {h : Hp} {cells slots pc pc' : Nat} {ls : List (Option AV)} {st : List AV} {cc : ByteArray} {own : String}
theorem v_reti (C : Cx G p s m c args cc nL own) {x : Int32} (hr : meth.sig.returnType = some .int) (hlk : meth.locks = false) (hd : decode cc pc = .ok (.ireturn, 1)) : V ph G p l e R s m args below meth c nL (MQ below (QcA ph G (some (aI x)) h) args s cells slots (A_ G)) h cells slots pc ls [aI x] := by
  intro H locs LS a b d
  have hlocks := hlk
  exact W.iret C.1 C.2.1 hr (fun t ht _ => ⟨⟨rfl, by rw [ht]; exact a⟩, b.F ht⟩) b.2.2 hd
theorem v_retz (C : Cx G p s m c args cc nL own) {x : Int32} (hr : meth.sig.returnType = some .boolean) (hlk : meth.locks = false) (hz : x = 0 ∨ x = 1) (hd : decode cc pc = .ok (.ireturn, 1)) : V ph G p l e R s m args below meth c nL (MQ below (QcA ph G (some (aI x)) h) args s cells slots (A_ G)) h cells slots pc ls [aI x] := by
  intro H locs LS a b d
  have hlocks := hlk
  exact W.zret C.1 C.2.1 hr (by rcases hz with rfl | rfl <;> decide) (fun t ht _ => ⟨⟨rfl, by rw [ht]; exact a⟩, b.F ht⟩) b.2.2 hd
theorem v_retc (C : Cx G p s m c args cc nL own) {x : Int32} (hr : meth.sig.returnType = some .char) (hlk : meth.locks = false) (hz : x.toUInt32.toUInt16.toUInt32.toInt32 = x) (hd : decode cc pc = .ok (.ireturn, 1)) : V ph G p l e R s m args below meth c nL (MQ below (QcA ph G (some (aI x)) h) args s cells slots (A_ G)) h cells slots pc ls [aI x] := by
  intro H locs LS a b d
  have hlocks := hlk
  exact W.zret C.1 C.2.1 hr (by show Value.int _ = _; rw [hz]) (fun t ht _ => ⟨⟨rfl, by rw [ht]; exact a⟩, b.F ht⟩) b.2.2 hd
theorem v_retl (C : Cx G p s m c args cc nL own) {x : Int64} (hr : meth.sig.returnType = some .long) (hlk : meth.locks = false) (hd : decode cc pc = .ok (.lreturn, 1)) : V ph G p l e R s m args below meth c nL (MQ below (QcA ph G (some (aL x)) h) args s cells slots (A_ G)) h cells slots pc ls [aL x] := by
  intro H locs LS a b d
  have hlocks := hlk
  exact W.lret C.1 C.2.1 hr (fun t ht _ => ⟨⟨rfl, by rw [ht]; exact a⟩, b.F ht⟩) b.2.2 hd
theorem v_reta (C : Cx G p s m c args cc nL own) {t : Nat} {x : Option Nat} {rt : FieldType} (hr : meth.sig.returnType = some rt) (hrt : (∃ n, rt = .object n) ∨ ∃ t, rt = .array t) (hlk : meth.locks = false) (hd : decode cc pc = .ok (.areturn, 1)) : V ph G p l e R s m args below meth c nL (MQ below (QcA ph G (some (aA t x)) h) args s cells slots (A_ G)) h cells slots pc ls [aA t x] := by
  intro H locs LS a b d
  have hlocks := hlk
  exact W.aret C.1 C.2.1 hr hrt (by cases x <;> simp [vv, rO, va_rf]) (fun t ht _ => ⟨⟨rfl, by rw [ht]; exact a⟩, b.F ht⟩) b.2.2 hd
theorem v_retv (C : Cx G p s m c args cc nL own) (hr : meth.sig.returnType = none) (hlk : meth.locks = false) (hd : decode cc pc = .ok (.return_, 1)) : V ph G p l e R s m args below meth c nL (MQ below (QcA ph G (none) h) args s cells slots (A_ G)) h cells slots pc ls [] := by
  intro H locs LS a b d
  have hlocks := hlk
  exact W.vret C.1 C.2.1 hr (fun t ht _ => ⟨⟨rfl, by rw [ht]; exact a⟩, b.F ht⟩) b.2.2 hd
end VR5
end
section
section VC
variable {ph : Bool} {G : GG} {p : Program} {l : Launch} {e : Env} {R : Room} {s : State} {m : MethodId} {args : Array Value} {below : List Frame} {meth : Method} {c : Code} {nL : Nat} {Q : State → Prop} {h h' : Hp} {cells slots pc pc' : Nat} {ls : List (Option AV)} {st rest : List AV} {cc : ByteArray} {own : String} {rv : Option AV} {mc ms : Nat}
theorem v_after {a : Array Value} {H : Heap} {locs : List Loc} {LS : Array Slot} {st1 rest1 : List Value} (hr : va_Run p l e R s m args below meth c H locs cells slots mc ms (F0 m pc LS st1) rest1 (QcA ph G rv h' a) (A_ G)) (b : va_S (A_ G) s.heap H locs) (hrest : rest1 = rest.map (vv G)) (d : lvh G LS nL ls) (kk : V ph G p l e R s m args below meth c nL Q h' (cells + mc) (slots + ms) (pc + 3) ls (rv.toList ++ rest)) : W p l e R s m args below meth c H locs cells slots Q (F0 m pc LS st1) := by
  intro T hT X
  obtain ⟨v, st₀, t, T', L, h0, X', hL, e1, e2, ⟨⟨hv, hWR⟩, hz, hk⟩, st'⟩ := hr T hT X
  have hv' : v = rv.map (vv G) := by cases hv; rfl
  subst hv'
  subst hrest
  rw [h0] at hz hk
  rw [← e1] at hWR hz hk
  have hS' : va_S (A_ G) s.heap T'.heap (locs ++ L) := ⟨Nat.le_trans b.1 hz, fun q h1 h2 => (hk q (Nat.lt_of_lt_of_le h1 b.1) h2).trans (b.2.1 q h1 h2), fun q hq => by
    rcases List.mem_append.mp hq with z | z
    · exact b.2.2 q z
    · exact hL q z⟩
  obtain ⟨t2, a1, b1⟩ := kk T'.heap (locs ++ L) LS hWR hS' d T' rfl X'
  refine ⟨t2, st' t2 ?_, b1⟩
  have es : (rv.map (vv G)).toList ++ rest.map (vv G) = (rv.toList ++ rest).map (vv G) := by cases rv <;> simp
  show Steps p.tables e below (T'.setTop (F0 m (pc + 3) LS ((rv.map (vv G)).toList ++ rest.map (vv G)))) t2
  rw [es]
  exact a1
theorem pc_ok (C : Cx G p s m c args cc nL own) {H : Heap} {locs : List Loc} (a : WR ph G h H) (b : va_S (A_ G) s.heap H locs) (vs : List AV) {U : State} (hU : U.heap = H) (hW : s.WarmedH U.vm) : PcA ph G vs h (vs.map (vv G)).toArray U := by
  refine ⟨rfl, by rw [hU]; exact Nat.le_trans C.2.2.2.2.2.2 b.1, by rw [hU]; exact a, ?_⟩
  rw [hU]
  exact C.2.2.2.2.2.1.to hW.alike b.2.1
theorem pc_blind (vs : List AV) (h : Hp) : FrameBlind (PcA ph G vs h) := by
  intro a U g mk q
  obtain ⟨q1, q2, q3, q4⟩ := q
  exact ⟨q1, q2, q3, q4.to (Vm.Alike.refl U.vm) (fun _ _ _ => rfl)⟩
theorem tt_in {y y' : MethodName} {b b' : ByteArray} {n n' : Nat} {r r' : Option FieldType} (h : Cond.code y b n r ∈ TT) : GoodIn TT (.code y b n r :: TT) := by
  intro w hw
  have hm : w ∈ TT := by
    rcases List.mem_cons.mp hw with q | q
    · rw [q]; exact h
    · exact q
  exact ⟨hm, good_of_word (TT_good w hm)⟩
def plainC (y : MethodName) (n : Nat) : Prop := y.cls ≠ "java/lang/invoke/MethodHandle" ∧ y.cls ≠ "java/lang/invoke/VarHandle" ∧ (parseMethodDescriptor y.desc).map (fun d => d.parameters.length) = some n
def MVk (own : String) (idx : Nat) (y : MethodName) (b : ByteArray) (nLy : Nat) (ret : Option FieldType) (n : Nat) : Prop := Cond.methodLink own idx y ∈ TT ∧ Cond.instanceMethod y ∈ TT ∧ Cond.selects y.cls y y ∈ TT ∧ Cond.initialized y.cls ∈ TT ∧ Cond.code y b nLy ret ∈ TT ∧ plainC y n
def MSk (own : String) (idx : Nat) (y : MethodName) (b : ByteArray) (nLy : Nat) (ret : Option FieldType) (n : Nat) : Prop := Cond.methodLink own idx y ∈ TT ∧ Cond.static y ∈ TT ∧ Cond.initialized y.cls ∈ TT ∧ Cond.code y b nLy ret ∈ TT ∧ plainC y n
def MIk (own : String) (idx : Nat) (y : MethodName) (b : ByteArray) (nLy : Nat) (n : Nat) : Prop := Cond.methodLink own idx y ∈ TT ∧ Cond.instanceMethod y ∈ TT ∧ Cond.initialized y.cls ∈ TT ∧ Cond.code y b nLy none ∈ TT ∧ y.name = "<init>" ∧ plainC y n
theorem rest_cat {G : GG} : ∀ (r : List AV), ((r.map (vv G)).map fun v => v.category).sum = (r.map fun x => if isW x then 2 else 1).sum
  | [] => rfl
  | x :: r => by
    have ih := rest_cat (G := G) r
    simp only [List.map_cons, List.sum_cons, vv_cat, ih]
theorem v_callVg (C : Cx G p s m c args cc nL own) {y : MethodName} {b : ByteArray} {nLy n fr lo idx q i : Nat} {ret : Option FieldType} {As : List AV} (hC : Ctr l y b nLy ret fr lo mc ms ph (aA q (some i) :: As) h rv h') (hm : MVk own idx y b nLy ret n) (hrecv : ∀ (H : Heap) (locs : List Loc), WR ph G h H → va_S (A_ G) s.heap H locs → ∃ cell : Cell, H[loc G (q, i)]? = some cell ∧ cell.vm.isStatics = false ∧ s.vm.findClass y.cls = some cell.cls)
    (hd : decode cc pc = .ok (.invokevirtual idx, 3)) (hp : pc + 3 = pc') (hn : As.length = n) (hst : As.reverse ++ aA q (some i) :: rest = st) (hR : fr + 1 ≤ R.frames ∧ 8 + (nLy + 11) + lo ≤ R.locals) (hW : (rest.map fun x => if isW x then 2 else 1).sum ≤ 8) (hcs : cells + mc ≤ R.cells ∧ slots + ms ≤ R.slots)
    (kk : V ph G p l e R s m args below meth c nL Q h' (cells + mc) (slots + ms) pc' ls (rv.toList ++ rest)) : V ph G p l e R s m args below meth c nL Q h cells slots pc ls st := by
  subst hp
  subst hst
  intro H locs LS a hS d
  obtain ⟨w1, w2, w3, w4, w5, w6⟩ := hm
  have hG : GoodIn TT (wsV own idx y.cls y (.code y b nLy ret :: TT)) := by
    intro w hw
    rcases List.mem_append.mp hw with z | z
    · have hm : w ∈ TT := by
        simp only [List.mem_cons, List.not_mem_nil, or_false] at z
        rcases z with rfl | rfl | rfl | rfl <;> assumption
      exact ⟨hm, good_of_word (TT_good w hm)⟩
    · exact tt_in (y' := y) (b' := cc) (n' := 0) (r' := none) w5 w z
  have hr := va_runV (p := p) (e := e) (below := below) (meth := meth) (locs := locs) (cells := cells) (slots := slots) (As := As.map (vv G)) (rest := rest.map (vv G)) (g := F0 m pc LS ((As.reverse ++ aA q (some i) :: rest).map (vv G))) ⟨C.1, C.2.1, C.2.2.1, C.2.2.2.1, C.2.2.2.2.1⟩ (hC G) (cwV n C.2.2.2.2.1 hG rfl rfl rfl ⟨rfl, w6⟩ hR) (b := loc G (q, i)) (H := H) ⟨pc_blind _ _, hrecv H locs a hS, fun U hU hW => pc_ok C a hS (aA q (some i) :: As) hU hW⟩ rfl (by rw [List.length_map]; exact hn) d.1 (by show List.map (vv G) _ = _; rw [List.map_append, List.map_reverse, List.map_cons]; rfl) (lv_room (by rw [rest_cat]; exact hW)) hd hcs
  exact v_after hr hS rfl d kk
theorem v_callS (C : Cx G p s m c args cc nL own) {y : MethodName} {b : ByteArray} {nLy n fr lo idx : Nat} {ret : Option FieldType} {As : List AV} (hC : Ctr l y b nLy ret fr lo mc ms ph As h rv h') (hm : MSk own idx y b nLy ret n)
    (hd : decode cc pc = .ok (.invokestatic idx, 3)) (hp : pc + 3 = pc') (hn : As.length = n) (hst : As.reverse ++ rest = st) (hR : fr + 1 ≤ R.frames ∧ 8 + (nLy + 11) + lo ≤ R.locals) (hW : (rest.map fun x => if isW x then 2 else 1).sum ≤ 8) (hcs : cells + mc ≤ R.cells ∧ slots + ms ≤ R.slots)
    (kk : V ph G p l e R s m args below meth c nL Q h' (cells + mc) (slots + ms) pc' ls (rv.toList ++ rest)) : V ph G p l e R s m args below meth c nL Q h cells slots pc ls st := by
  subst hp
  subst hst
  intro H locs LS a hS d
  obtain ⟨w1, w2, w4, w5, w6⟩ := hm
  have hG : GoodIn TT (va_wsS own idx y (.code y b nLy ret :: TT)) := by
    intro w hw
    rcases List.mem_append.mp hw with z | z
    · have hm : w ∈ TT := by
        simp only [List.mem_cons, List.not_mem_nil, or_false] at z
        rcases z with rfl | rfl | rfl <;> assumption
      exact ⟨hm, good_of_word (TT_good w hm)⟩
    · exact tt_in (y' := y) (b' := cc) (n' := 0) (r' := none) w5 w z
  have hr := va_runS (p := p) (e := e) (below := below) (meth := meth) (locs := locs) (cells := cells) (slots := slots) (As := As.map (vv G)) (rest := rest.map (vv G)) (g := F0 m pc LS ((As.reverse ++ rest).map (vv G))) ⟨C.1, C.2.1, C.2.2.1, C.2.2.2.1, C.2.2.2.2.1⟩ (hC G) (va_cwS n C.2.2.2.2.1 hG rfl rfl rfl w6 hR) (H := H) ⟨pc_blind _ _, fun U hU hW => pc_ok C a hS As hU hW⟩ rfl (by rw [List.length_map]; exact hn) d.1 (by show List.map (vv G) _ = _; rw [List.map_append, List.map_reverse]) (lv_room (by rw [rest_cat]; exact hW)) hd hcs
  exact v_after hr hS rfl d kk
/-- a method of an object of the made ones -/
theorem v_callV (C : Cx G p s m c args cc nL own) {y : MethodName} {b : ByteArray} {nLy n fr lo idx t i ci N : Nat} {T : u_T} {tys : List Nat} {ret : Option FieldType} {As : List AV} (hC : Ctr l y b nLy ret fr lo mc ms ph (aA t (some i) :: As) h rv h') (hm : MVk own idx y b nLy ret n) (hs : shp t = .inl (ci, tys)) (hcl : vwCl[ci]? = some (y.cls, T, N)) (hv : lvq ph h (t, i))
    (hd : decode cc pc = .ok (.invokevirtual idx, 3)) (hp : pc + 3 = pc') (hn : As.length = n) (hst : As.reverse ++ aA t (some i) :: rest = st) (hR : fr + 1 ≤ R.frames ∧ 8 + (nLy + 11) + lo ≤ R.locals) (hW : (rest.map fun x => if isW x then 2 else 1).sum ≤ 8) (hcs : cells + mc ≤ R.cells ∧ slots + ms ≤ R.slots)
    (kk : V ph G p l e R s m args below meth c nL Q h' (cells + mc) (slots + ms) pc' ls (rv.toList ++ rest)) : V ph G p l e R s m args below meth c nL Q h cells slots pc ls st := by
  refine v_callVg C hC hm (fun H locs a _ => ?_) hd hp hn hst hR hW hcs kk
  have hc : (wl G h)[pos (t, i)]? = some (loc G (t, i), .inr (ci, mkF G h (t, i) tys 0)) := by
    rw [wl_cell a hv]; unfold cellE; rw [show (((t, i) : Ad).1) = t from rfl, hs]
  exact va_recv C.2.2.2.2.2.1.1 a.2.1 hcl hc
end VC
end
section
theorem TT_ws {ws : List Cond} (ps : List Nat) (hp : ws = ps.filterMap (fun i => lw_tbl[i]?)) (hg : ws.all goodWord = true) : ∀ w ∈ ws, w ∈ TT := by
  intro w hw
  have h1 := List.all_eq_true.mp hg w hw
  rw [hp] at hw
  obtain ⟨i, -, hi⟩ := List.mem_filterMap.mp hw
  exact TT_of hi h1
set_option maxRecDepth 20000 in
theorem wi_Jx4a65c : ∀ w ∈ u_ws RJx4a65c TJx4a65c 3, w ∈ TT := TT_ws [194, 190, 192] (by decide +kernel) (by decide +kernel)
set_option maxRecDepth 20000 in
theorem wi_X1 : ∀ w ∈ u_ws RX1 TX1 3, w ∈ TT := TT_ws [407, 409, 411] (by decide +kernel) (by decide +kernel)
set_option maxRecDepth 20000 in
theorem wi_X2 : ∀ w ∈ u_ws RX2 TX2 8, w ∈ TT := TT_ws [263, 265, 267, 269, 271, 273, 275, 277] (by decide +kernel) (by decide +kernel)
set_option maxRecDepth 20000 in
theorem wi_X4 : ∀ w ∈ u_ws RX4 TX4 2, w ∈ TT := TT_ws [113, 115] (by decide +kernel) (by decide +kernel)
set_option maxRecDepth 20000 in
theorem wi_X5 : ∀ w ∈ u_ws RX5 TX5 3, w ∈ TT := TT_ws [292, 294, 296] (by decide +kernel) (by decide +kernel)
set_option maxRecDepth 20000 in
theorem wi_X6 : ∀ w ∈ u_ws RX6 TX6 2, w ∈ TT := TT_ws [237, 239] (by decide +kernel) (by decide +kernel)
set_option maxRecDepth 20000 in
theorem wi_X8 : ∀ w ∈ u_ws RX8 TX8 6, w ∈ TT := TT_ws [153, 155, 157, 159, 161, 163] (by decide +kernel) (by decide +kernel)
set_option maxRecDepth 20000 in
theorem wi_X9 : ∀ w ∈ u_ws RX9 TX9 7, w ∈ TT := TT_ws [213, 215, 217, 219, 221, 223, 225] (by decide +kernel) (by decide +kernel)
set_option maxRecDepth 20000 in
theorem wi_X10 : ∀ w ∈ u_ws RX10 TX10 1, w ∈ TT := TT_ws [168] (by decide +kernel) (by decide +kernel)
set_option maxRecDepth 20000 in
theorem wi_X12 : ∀ w ∈ u_ws RX12 TX12 16, w ∈ TT := TT_ws [317, 319, 321, 323, 325, 327, 329, 331, 333, 335, 337, 339, 341, 343, 345, 347] (by decide +kernel) (by decide +kernel)
set_option maxRecDepth 20000 in
theorem wi_X13 : ∀ w ∈ u_ws RX13 TX13 36, w ∈ TT := TT_ws [940, 942, 944, 946, 948, 950, 952, 954, 956, 958, 960, 962, 964, 966, 968, 970, 972, 974, 976, 978, 980, 982, 984, 986, 988, 990, 992, 994, 996, 998, 1000, 1002, 1004, 1006, 1008, 1010] (by decide +kernel) (by decide +kernel)
theorem fl_Jx4a65c_9 : FLk RJx4a65c 9 0 1 := ⟨RJx4a65c, TJx4a65c, 3, "java/util/ArrayList", rfl, by decide, wi_Jx4a65c, TT_of (i := 185) (by decide +kernel) (by decide +kernel), Or.inl rfl⟩
theorem fp_Jx4a65c_9 : FPk RJx4a65c 9 0 1 false 116 := ⟨RJx4a65c, TJx4a65c, 3, "java/util/ArrayList", tyJx4a65c, (.array (.object "java/lang/Object")), rfl, by decide, wi_Jx4a65c, TT_of (i := 185) (by decide +kernel) (by decide +kernel), Or.inl rfl, tyJx4a65c_ok, nmJx4a65c, rfl, by decide +kernel, Or.inr ⟨_, rfl⟩, fun z => by cases z⟩
theorem fl_Jx4a65c_48 : FLk RJx4a65c 48 0 2 := ⟨RJx4a65c, TJx4a65c, 3, "java/util/ArrayList", rfl, by decide, wi_Jx4a65c, TT_of (i := 186) (by decide +kernel) (by decide +kernel), Or.inl rfl⟩
theorem fp_Jx4a65c_48 : FPk RJx4a65c 48 0 2 false 0 := ⟨RJx4a65c, TJx4a65c, 3, "java/util/ArrayList", tyJx4a65c, .int, rfl, by decide, wi_Jx4a65c, TT_of (i := 186) (by decide +kernel) (by decide +kernel), Or.inl rfl, tyJx4a65c_ok, nmJx4a65c, rfl, by decide +kernel, rfl, fun z => by cases z⟩
theorem fl_Jx4a65c_63 : FLk RJx4a65c 63 0 0 := ⟨RJx4a65c, TJx4a65c, 3, "java/util/ArrayList", rfl, by decide, wi_Jx4a65c, TT_of (i := 188) (by decide +kernel) (by decide +kernel), Or.inr (TT_of (i := 189) (by decide +kernel) (by decide +kernel))⟩
theorem fp_Jx4a65c_63 : FPk RJx4a65c 63 0 0 false 0 := ⟨RJx4a65c, TJx4a65c, 3, "java/util/ArrayList", tyJx4a65c, .int, rfl, by decide, wi_Jx4a65c, TT_of (i := 188) (by decide +kernel) (by decide +kernel), Or.inr (TT_of (i := 189) (by decide +kernel) (by decide +kernel)), tyJx4a65c_ok, nmJx4a65c, rfl, by decide +kernel, rfl, fun z => by cases z⟩
theorem fp_X1_7 : FPk RX1 7 1 0 true 2 := ⟨RX1, TX1, 3, "RootedFerry$Account", tyX1, .long, rfl, by decide, wi_X1, TT_of (i := 401) (by decide +kernel) (by decide +kernel), Or.inl rfl, tyX1_ok, nmX1, rfl, by decide +kernel, rfl, fun _ => rfl⟩
theorem fp_X1_13 : FPk RX1 13 1 1 true 2 := ⟨RX1, TX1, 3, "RootedFerry$Account", tyX1, .long, rfl, by decide, wi_X1, TT_of (i := 403) (by decide +kernel) (by decide +kernel), Or.inl rfl, tyX1_ok, nmX1, rfl, by decide +kernel, rfl, fun _ => rfl⟩
theorem fp_X1_16 : FPk RX1 16 1 2 true 105 := ⟨RX1, TX1, 3, "RootedFerry$Account", tyX1, (.object "RootedFerry$Node"), rfl, by decide, wi_X1, TT_of (i := 405) (by decide +kernel) (by decide +kernel), Or.inl rfl, tyX1_ok, nmX1, rfl, by decide +kernel, Or.inl ⟨_, rfl⟩, fun _ => rfl⟩
theorem fl_X10_11 : FLk RX10 11 8 0 := ⟨RX10, TX10, 1, "RootedFerry$Tree", rfl, by decide, wi_X10, TT_of (i := 167) (by decide +kernel) (by decide +kernel), Or.inl rfl⟩
theorem fp_X10_11 : FPk RX10 11 8 0 true 104 := ⟨RX10, TX10, 1, "RootedFerry$Tree", tyX10, (.array (.object "RootedFerry$Node")), rfl, by decide, wi_X10, TT_of (i := 167) (by decide +kernel) (by decide +kernel), Or.inl rfl, tyX10_ok, nmX10, rfl, by decide +kernel, Or.inr ⟨_, rfl⟩, fun _ => rfl⟩
theorem fl_X10_16 : FLk RX10 16 6 2 := ⟨RX8, TX8, 6, "RootedFerry$Node", rfl, by decide, wi_X8, TT_of (i := 140) (by decide +kernel) (by decide +kernel), Or.inl rfl⟩
theorem fp_X10_16 : FPk RX10 16 6 2 false 1 := ⟨RX8, TX8, 6, "RootedFerry$Node", tyX8, .boolean, rfl, by decide, wi_X8, TT_of (i := 140) (by decide +kernel) (by decide +kernel), Or.inl rfl, tyX8_ok, nmX8, rfl, by decide +kernel, rfl, fun z => by cases z⟩
theorem fl_X10_20 : FLk RX10 20 6 5 := ⟨RX8, TX8, 6, "RootedFerry$Node", rfl, by decide, wi_X8, TT_of (i := 150) (by decide +kernel) (by decide +kernel), Or.inl rfl⟩
theorem fp_X10_20 : FPk RX10 20 6 5 false 105 := ⟨RX8, TX8, 6, "RootedFerry$Node", tyX8, (.object "RootedFerry$Node"), rfl, by decide, wi_X8, TT_of (i := 150) (by decide +kernel) (by decide +kernel), Or.inl rfl, tyX8_ok, nmX8, rfl, by decide +kernel, Or.inl ⟨_, rfl⟩, fun z => by cases z⟩
theorem fl_X10_24 : FLk RX10 24 6 4 := ⟨RX8, TX8, 6, "RootedFerry$Node", rfl, by decide, wi_X8, TT_of (i := 146) (by decide +kernel) (by decide +kernel), Or.inl rfl⟩
theorem fp_X10_24 : FPk RX10 24 6 4 false 2 := ⟨RX8, TX8, 6, "RootedFerry$Node", tyX8, .long, rfl, by decide, wi_X8, TT_of (i := 146) (by decide +kernel) (by decide +kernel), Or.inl rfl, tyX8_ok, nmX8, rfl, by decide +kernel, rfl, fun z => by cases z⟩
theorem fl_X10_28 : FLk RX10 28 6 3 := ⟨RX8, TX8, 6, "RootedFerry$Node", rfl, by decide, wi_X8, TT_of (i := 142) (by decide +kernel) (by decide +kernel), Or.inl rfl⟩
theorem fp_X10_28 : FPk RX10 28 6 3 false 1 := ⟨RX8, TX8, 6, "RootedFerry$Node", tyX8, .boolean, rfl, by decide, wi_X8, TT_of (i := 142) (by decide +kernel) (by decide +kernel), Or.inl rfl, tyX8_ok, nmX8, rfl, by decide +kernel, rfl, fun z => by cases z⟩
theorem fl_X10_35 : FLk RX10 35 6 1 := ⟨RX8, TX8, 6, "RootedFerry$Node", rfl, by decide, wi_X8, TT_of (i := 137) (by decide +kernel) (by decide +kernel), Or.inl rfl⟩
theorem fl_X12_10 : FLk RX12 10 9 0 := ⟨RX12, TX12, 16, "RootedFerry", rfl, by decide, wi_X12, TT_of (i := 301) (by decide +kernel) (by decide +kernel), Or.inl rfl⟩
theorem fp_X12_10 : FPk RX12 10 9 0 true 101 := ⟨RX12, TX12, 16, "RootedFerry", tyX12, (.object "RootedFerry$Line"), rfl, by decide, wi_X12, TT_of (i := 301) (by decide +kernel) (by decide +kernel), Or.inl rfl, tyX12_ok, nmX12, rfl, by decide +kernel, Or.inl ⟨_, rfl⟩, fun _ => rfl⟩
theorem fl_X12_19 : FLk RX12 19 9 1 := ⟨RX12, TX12, 16, "RootedFerry", rfl, by decide, wi_X12, TT_of (i := 302) (by decide +kernel) (by decide +kernel), Or.inl rfl⟩
theorem fp_X12_19 : FPk RX12 19 9 1 true 103 := ⟨RX12, TX12, 16, "RootedFerry", tyX12, (.object "RootedFerry$Tree"), rfl, by decide, wi_X12, TT_of (i := 302) (by decide +kernel) (by decide +kernel), Or.inl rfl, tyX12_ok, nmX12, rfl, by decide +kernel, Or.inl ⟨_, rfl⟩, fun _ => rfl⟩
theorem fl_X12_26 : FLk RX12 26 9 2 := ⟨RX12, TX12, 16, "RootedFerry", rfl, by decide, wi_X12, TT_of (i := 303) (by decide +kernel) (by decide +kernel), Or.inl rfl⟩
theorem fp_X12_26 : FPk RX12 26 9 2 true 107 := ⟨RX12, TX12, 16, "RootedFerry", tyX12, (.object "java/util/ArrayList"), rfl, by decide, wi_X12, TT_of (i := 303) (by decide +kernel) (by decide +kernel), Or.inl rfl, tyX12_ok, nmX12, rfl, by decide +kernel, Or.inl ⟨_, rfl⟩, fun _ => rfl⟩
theorem fl_X12_33 : FLk RX12 33 9 3 := ⟨RX12, TX12, 16, "RootedFerry", rfl, by decide, wi_X12, TT_of (i := 304) (by decide +kernel) (by decide +kernel), Or.inl rfl⟩
theorem fp_X12_33 : FPk RX12 33 9 3 true 108 := ⟨RX12, TX12, 16, "RootedFerry", tyX12, (.object "RootedFerry$Path"), rfl, by decide, wi_X12, TT_of (i := 304) (by decide +kernel) (by decide +kernel), Or.inl rfl, tyX12_ok, nmX12, rfl, by decide +kernel, Or.inl ⟨_, rfl⟩, fun _ => rfl⟩
theorem fl_X12_40 : FLk RX12 40 9 4 := ⟨RX12, TX12, 16, "RootedFerry", rfl, by decide, wi_X12, TT_of (i := 305) (by decide +kernel) (by decide +kernel), Or.inl rfl⟩
theorem fp_X12_40 : FPk RX12 40 9 4 true 110 := ⟨RX12, TX12, 16, "RootedFerry", tyX12, (.object "RootedFerry$Message"), rfl, by decide, wi_X12, TT_of (i := 305) (by decide +kernel) (by decide +kernel), Or.inl rfl, tyX12_ok, nmX12, rfl, by decide +kernel, Or.inl ⟨_, rfl⟩, fun _ => rfl⟩
theorem fl_X12_47 : FLk RX12 47 9 5 := ⟨RX12, TX12, 16, "RootedFerry", rfl, by decide, wi_X12, TT_of (i := 306) (by decide +kernel) (by decide +kernel), Or.inl rfl⟩
theorem fp_X12_47 : FPk RX12 47 9 5 true 112 := ⟨RX12, TX12, 16, "RootedFerry", tyX12, (.object "RootedFerry$Cargo"), rfl, by decide, wi_X12, TT_of (i := 306) (by decide +kernel) (by decide +kernel), Or.inl rfl, tyX12_ok, nmX12, rfl, by decide +kernel, Or.inl ⟨_, rfl⟩, fun _ => rfl⟩
theorem fl_X12_54 : FLk RX12 54 9 6 := ⟨RX12, TX12, 16, "RootedFerry", rfl, by decide, wi_X12, TT_of (i := 307) (by decide +kernel) (by decide +kernel), Or.inl rfl⟩
theorem fp_X12_54 : FPk RX12 54 9 6 true 114 := ⟨RX12, TX12, 16, "RootedFerry", tyX12, (.object "RootedFerry$Memory"), rfl, by decide, wi_X12, TT_of (i := 307) (by decide +kernel) (by decide +kernel), Or.inl rfl, tyX12_ok, nmX12, rfl, by decide +kernel, Or.inl ⟨_, rfl⟩, fun _ => rfl⟩
theorem fl_X12_58 : FLk RX12 58 9 7 := ⟨RX12, TX12, 16, "RootedFerry", rfl, by decide, wi_X12, TT_of (i := 308) (by decide +kernel) (by decide +kernel), Or.inl rfl⟩
theorem fp_X12_58 : FPk RX12 58 9 7 true 114 := ⟨RX12, TX12, 16, "RootedFerry", tyX12, (.object "RootedFerry$Memory"), rfl, by decide, wi_X12, TT_of (i := 308) (by decide +kernel) (by decide +kernel), Or.inl rfl, tyX12_ok, nmX12, rfl, by decide +kernel, Or.inl ⟨_, rfl⟩, fun _ => rfl⟩
theorem fl_X12_61 : FLk RX12 61 9 8 := ⟨RX12, TX12, 16, "RootedFerry", rfl, by decide, wi_X12, TT_of (i := 309) (by decide +kernel) (by decide +kernel), Or.inl rfl⟩
theorem fp_X12_61 : FPk RX12 61 9 8 false 1 := ⟨RX12, TX12, 16, "RootedFerry", tyX12, .boolean, rfl, by decide, wi_X12, TT_of (i := 309) (by decide +kernel) (by decide +kernel), Or.inl rfl, tyX12_ok, nmX12, rfl, by decide +kernel, rfl, fun z => by cases z⟩
theorem fl_X12_65 : FLk RX12 65 9 9 := ⟨RX12, TX12, 16, "RootedFerry", rfl, by decide, wi_X12, TT_of (i := 310) (by decide +kernel) (by decide +kernel), Or.inl rfl⟩
theorem fp_X12_65 : FPk RX12 65 9 9 false 0 := ⟨RX12, TX12, 16, "RootedFerry", tyX12, .int, rfl, by decide, wi_X12, TT_of (i := 310) (by decide +kernel) (by decide +kernel), Or.inl rfl, tyX12_ok, nmX12, rfl, by decide +kernel, rfl, fun z => by cases z⟩
theorem fl_X12_69 : FLk RX12 69 9 10 := ⟨RX12, TX12, 16, "RootedFerry", rfl, by decide, wi_X12, TT_of (i := 311) (by decide +kernel) (by decide +kernel), Or.inl rfl⟩
theorem fp_X12_69 : FPk RX12 69 9 10 false 105 := ⟨RX12, TX12, 16, "RootedFerry", tyX12, (.object "RootedFerry$Node"), rfl, by decide, wi_X12, TT_of (i := 311) (by decide +kernel) (by decide +kernel), Or.inl rfl, tyX12_ok, nmX12, rfl, by decide +kernel, Or.inl ⟨_, rfl⟩, fun z => by cases z⟩
theorem fl_X12_73 : FLk RX12 73 9 11 := ⟨RX12, TX12, 16, "RootedFerry", rfl, by decide, wi_X12, TT_of (i := 312) (by decide +kernel) (by decide +kernel), Or.inl rfl⟩
theorem fp_X12_73 : FPk RX12 73 9 11 false 105 := ⟨RX12, TX12, 16, "RootedFerry", tyX12, (.object "RootedFerry$Node"), rfl, by decide, wi_X12, TT_of (i := 312) (by decide +kernel) (by decide +kernel), Or.inl rfl, tyX12_ok, nmX12, rfl, by decide +kernel, Or.inl ⟨_, rfl⟩, fun z => by cases z⟩
theorem fl_X12_76 : FLk RX12 76 9 12 := ⟨RX12, TX12, 16, "RootedFerry", rfl, by decide, wi_X12, TT_of (i := 313) (by decide +kernel) (by decide +kernel), Or.inl rfl⟩
theorem fp_X12_76 : FPk RX12 76 9 12 false 1 := ⟨RX12, TX12, 16, "RootedFerry", tyX12, .boolean, rfl, by decide, wi_X12, TT_of (i := 313) (by decide +kernel) (by decide +kernel), Or.inl rfl, tyX12_ok, nmX12, rfl, by decide +kernel, rfl, fun z => by cases z⟩
theorem fl_X12_85 : FLk RX12 85 9 13 := ⟨RX12, TX12, 16, "RootedFerry", rfl, by decide, wi_X12, TT_of (i := 314) (by decide +kernel) (by decide +kernel), Or.inl rfl⟩
theorem fp_X12_85 : FPk RX12 85 9 13 false 202 := ⟨RX12, TX12, 16, "RootedFerry", tyX12, (.object "RootedFerry$Way"), rfl, by decide, wi_X12, TT_of (i := 314) (by decide +kernel) (by decide +kernel), Or.inl rfl, tyX12_ok, nmX12, rfl, by decide +kernel, Or.inl ⟨_, rfl⟩, fun z => by cases z⟩
theorem fl_X12_88 : FLk RX12 88 9 14 := ⟨RX12, TX12, 16, "RootedFerry", rfl, by decide, wi_X12, TT_of (i := 315) (by decide +kernel) (by decide +kernel), Or.inl rfl⟩
theorem fp_X12_88 : FPk RX12 88 9 14 false 0 := ⟨RX12, TX12, 16, "RootedFerry", tyX12, .int, rfl, by decide, wi_X12, TT_of (i := 315) (by decide +kernel) (by decide +kernel), Or.inl rfl, tyX12_ok, nmX12, rfl, by decide +kernel, rfl, fun z => by cases z⟩
theorem fl_X12_91 : FLk RX12 91 9 15 := ⟨RX12, TX12, 16, "RootedFerry", rfl, by decide, wi_X12, TT_of (i := 316) (by decide +kernel) (by decide +kernel), Or.inl rfl⟩
theorem fp_X12_91 : FPk RX12 91 9 15 false 0 := ⟨RX12, TX12, 16, "RootedFerry", tyX12, .int, rfl, by decide, wi_X12, TT_of (i := 316) (by decide +kernel) (by decide +kernel), Or.inl rfl, tyX12_ok, nmX12, rfl, by decide +kernel, rfl, fun z => by cases z⟩
theorem fl_X12_153 : FLk RX12 153 2 1 := ⟨RX2, TX2, 8, "RootedFerry$Cargo", rfl, by decide, wi_X2, TT_of (i := 251) (by decide +kernel) (by decide +kernel), Or.inl rfl⟩
theorem fl_X12_180 : FLk RX12 180 1 0 := ⟨RX1, TX1, 3, "RootedFerry$Account", rfl, by decide, wi_X1, TT_of (i := 402) (by decide +kernel) (by decide +kernel), Or.inl rfl⟩
theorem fl_X12_294 : FLk RX12 294 7 4 := ⟨RX9, TX9, 7, "RootedFerry$Path", rfl, by decide, wi_X9, TT_of (i := 208) (by decide +kernel) (by decide +kernel), Or.inl rfl⟩
theorem fl_X12_325 : FLk RX12 325 4 1 := ⟨RX5, TX5, 3, "RootedFerry$Memory", rfl, by decide, wi_X5, TT_of (i := 289) (by decide +kernel) (by decide +kernel), Or.inl rfl⟩
theorem fp_X12_325 : FPk RX12 325 4 1 false 2 := ⟨RX5, TX5, 3, "RootedFerry$Memory", tyX5, .long, rfl, by decide, wi_X5, TT_of (i := 289) (by decide +kernel) (by decide +kernel), Or.inl rfl, tyX5_ok, nmX5, rfl, by decide +kernel, rfl, fun z => by cases z⟩
theorem fl_X12_326 : FLk RX12 326 1 1 := ⟨RX1, TX1, 3, "RootedFerry$Account", rfl, by decide, wi_X1, TT_of (i := 404) (by decide +kernel) (by decide +kernel), Or.inl rfl⟩
theorem fl_X12_329 : FLk RX12 329 1 2 := ⟨RX1, TX1, 3, "RootedFerry$Account", rfl, by decide, wi_X1, TT_of (i := 406) (by decide +kernel) (by decide +kernel), Or.inl rfl⟩
theorem fl_X12_330 : FLk RX12 330 6 3 := ⟨RX8, TX8, 6, "RootedFerry$Node", rfl, by decide, wi_X8, TT_of (i := 144) (by decide +kernel) (by decide +kernel), Or.inl rfl⟩
theorem fl_X12_335 : FLk RX12 335 7 5 := ⟨RX9, TX9, 7, "RootedFerry$Path", rfl, by decide, wi_X9, TT_of (i := 210) (by decide +kernel) (by decide +kernel), Or.inl rfl⟩
theorem fl_X12_338 : FLk RX12 338 7 6 := ⟨RX9, TX9, 7, "RootedFerry$Path", rfl, by decide, wi_X9, TT_of (i := 212) (by decide +kernel) (by decide +kernel), Or.inl rfl⟩
theorem fl_X12_348 : FLk RX12 348 6 1 := ⟨RX8, TX8, 6, "RootedFerry$Node", rfl, by decide, wi_X8, TT_of (i := 138) (by decide +kernel) (by decide +kernel), Or.inl rfl⟩
theorem fp_X12_348 : FPk RX12 348 6 1 false 0 := ⟨RX8, TX8, 6, "RootedFerry$Node", tyX8, .int, rfl, by decide, wi_X8, TT_of (i := 138) (by decide +kernel) (by decide +kernel), Or.inl rfl, tyX8_ok, nmX8, rfl, by decide +kernel, rfl, fun z => by cases z⟩
theorem fl_X12_354 : FLk RX12 354 4 2 := ⟨RX5, TX5, 3, "RootedFerry$Memory", rfl, by decide, wi_X5, TT_of (i := 291) (by decide +kernel) (by decide +kernel), Or.inl rfl⟩
theorem fp_X12_354 : FPk RX12 354 4 2 false 105 := ⟨RX5, TX5, 3, "RootedFerry$Memory", tyX5, (.object "RootedFerry$Node"), rfl, by decide, wi_X5, TT_of (i := 291) (by decide +kernel) (by decide +kernel), Or.inl rfl, tyX5_ok, nmX5, rfl, by decide +kernel, Or.inl ⟨_, rfl⟩, fun z => by cases z⟩
theorem fp_X12_361 : FPk RX12 361 6 5 false 105 := ⟨RX8, TX8, 6, "RootedFerry$Node", tyX8, (.object "RootedFerry$Node"), rfl, by decide, wi_X8, TT_of (i := 152) (by decide +kernel) (by decide +kernel), Or.inl rfl, tyX8_ok, nmX8, rfl, by decide +kernel, Or.inl ⟨_, rfl⟩, fun z => by cases z⟩
theorem fp_X12_364 : FPk RX12 364 6 4 false 2 := ⟨RX8, TX8, 6, "RootedFerry$Node", tyX8, .long, rfl, by decide, wi_X8, TT_of (i := 148) (by decide +kernel) (by decide +kernel), Or.inl rfl, tyX8_ok, nmX8, rfl, by decide +kernel, rfl, fun z => by cases z⟩
theorem fl_X12_378 : FLk RX12 378 4 0 := ⟨RX5, TX5, 3, "RootedFerry$Memory", rfl, by decide, wi_X5, TT_of (i := 287) (by decide +kernel) (by decide +kernel), Or.inl rfl⟩
theorem fp_X12_378 : FPk RX12 378 4 0 false 0 := ⟨RX5, TX5, 3, "RootedFerry$Memory", tyX5, .int, rfl, by decide, wi_X5, TT_of (i := 287) (by decide +kernel) (by decide +kernel), Or.inl rfl, tyX5_ok, nmX5, rfl, by decide +kernel, rfl, fun z => by cases z⟩
theorem fl_X12_401 : FLk RX12 401 2 4 := ⟨RX2, TX2, 8, "RootedFerry$Cargo", rfl, by decide, wi_X2, TT_of (i := 256) (by decide +kernel) (by decide +kernel), Or.inl rfl⟩
theorem fl_X12_404 : FLk RX12 404 2 7 := ⟨RX2, TX2, 8, "RootedFerry$Cargo", rfl, by decide, wi_X2, TT_of (i := 262) (by decide +kernel) (by decide +kernel), Or.inl rfl⟩
theorem fl_X12_407 : FLk RX12 407 2 2 := ⟨RX2, TX2, 8, "RootedFerry$Cargo", rfl, by decide, wi_X2, TT_of (i := 253) (by decide +kernel) (by decide +kernel), Or.inl rfl⟩
theorem fl_X12_410 : FLk RX12 410 2 5 := ⟨RX2, TX2, 8, "RootedFerry$Cargo", rfl, by decide, wi_X2, TT_of (i := 258) (by decide +kernel) (by decide +kernel), Or.inl rfl⟩
theorem fl_X12_412 : FLk RX12 412 2 6 := ⟨RX2, TX2, 8, "RootedFerry$Cargo", rfl, by decide, wi_X2, TT_of (i := 260) (by decide +kernel) (by decide +kernel), Or.inl rfl⟩
theorem fl_X12_413 : FLk RX12 413 2 0 := ⟨RX2, TX2, 8, "RootedFerry$Cargo", rfl, by decide, wi_X2, TT_of (i := 249) (by decide +kernel) (by decide +kernel), Or.inl rfl⟩
theorem fl_X12_416 : FLk RX12 416 6 0 := ⟨RX8, TX8, 6, "RootedFerry$Node", rfl, by decide, wi_X8, TT_of (i := 134) (by decide +kernel) (by decide +kernel), Or.inl rfl⟩
theorem fl_X13_7 : FLk RX13 7 10 0 := ⟨RX13, TX13, 36, "RootedFerryModel", rfl, by decide, wi_X13, TT_of (i := 904) (by decide +kernel) (by decide +kernel), Or.inl rfl⟩
theorem fp_X13_7 : FPk RX13 7 10 0 true 121 := ⟨RX13, TX13, 36, "RootedFerryModel", tyX13, (.array (.int)), rfl, by decide, wi_X13, TT_of (i := 904) (by decide +kernel) (by decide +kernel), Or.inl rfl, tyX13_ok, nmX13, rfl, by decide +kernel, Or.inr ⟨_, rfl⟩, fun _ => rfl⟩
theorem fl_X13_13 : FLk RX13 13 10 1 := ⟨RX13, TX13, 36, "RootedFerryModel", rfl, by decide, wi_X13, TT_of (i := 905) (by decide +kernel) (by decide +kernel), Or.inl rfl⟩
theorem fp_X13_13 : FPk RX13 13 10 1 true 122 := ⟨RX13, TX13, 36, "RootedFerryModel", tyX13, (.array (.int)), rfl, by decide, wi_X13, TT_of (i := 905) (by decide +kernel) (by decide +kernel), Or.inl rfl, tyX13_ok, nmX13, rfl, by decide +kernel, Or.inr ⟨_, rfl⟩, fun _ => rfl⟩
theorem fl_X13_16 : FLk RX13 16 10 2 := ⟨RX13, TX13, 36, "RootedFerryModel", rfl, by decide, wi_X13, TT_of (i := 906) (by decide +kernel) (by decide +kernel), Or.inl rfl⟩
theorem fp_X13_16 : FPk RX13 16 10 2 true 123 := ⟨RX13, TX13, 36, "RootedFerryModel", tyX13, (.array (.long)), rfl, by decide, wi_X13, TT_of (i := 906) (by decide +kernel) (by decide +kernel), Or.inl rfl, tyX13_ok, nmX13, rfl, by decide +kernel, Or.inr ⟨_, rfl⟩, fun _ => rfl⟩
theorem fl_X13_20 : FLk RX13 20 10 3 := ⟨RX13, TX13, 36, "RootedFerryModel", rfl, by decide, wi_X13, TT_of (i := 907) (by decide +kernel) (by decide +kernel), Or.inl rfl⟩
theorem fp_X13_20 : FPk RX13 20 10 3 true 124 := ⟨RX13, TX13, 36, "RootedFerryModel", tyX13, (.array (.int)), rfl, by decide, wi_X13, TT_of (i := 907) (by decide +kernel) (by decide +kernel), Or.inl rfl, tyX13_ok, nmX13, rfl, by decide +kernel, Or.inr ⟨_, rfl⟩, fun _ => rfl⟩
theorem fl_X13_23 : FLk RX13 23 10 4 := ⟨RX13, TX13, 36, "RootedFerryModel", rfl, by decide, wi_X13, TT_of (i := 908) (by decide +kernel) (by decide +kernel), Or.inl rfl⟩
theorem fp_X13_23 : FPk RX13 23 10 4 true 125 := ⟨RX13, TX13, 36, "RootedFerryModel", tyX13, (.array (.int)), rfl, by decide, wi_X13, TT_of (i := 908) (by decide +kernel) (by decide +kernel), Or.inl rfl, tyX13_ok, nmX13, rfl, by decide +kernel, Or.inr ⟨_, rfl⟩, fun _ => rfl⟩
theorem fl_X13_26 : FLk RX13 26 10 6 := ⟨RX13, TX13, 36, "RootedFerryModel", rfl, by decide, wi_X13, TT_of (i := 910) (by decide +kernel) (by decide +kernel), Or.inl rfl⟩
theorem fp_X13_26 : FPk RX13 26 10 6 true 126 := ⟨RX13, TX13, 36, "RootedFerryModel", tyX13, (.array (.long)), rfl, by decide, wi_X13, TT_of (i := 910) (by decide +kernel) (by decide +kernel), Or.inl rfl, tyX13_ok, nmX13, rfl, by decide +kernel, Or.inr ⟨_, rfl⟩, fun _ => rfl⟩
theorem fl_X13_29 : FLk RX13 29 10 7 := ⟨RX13, TX13, 36, "RootedFerryModel", rfl, by decide, wi_X13, TT_of (i := 911) (by decide +kernel) (by decide +kernel), Or.inl rfl⟩
theorem fp_X13_29 : FPk RX13 29 10 7 true 127 := ⟨RX13, TX13, 36, "RootedFerryModel", tyX13, (.array (.long)), rfl, by decide, wi_X13, TT_of (i := 911) (by decide +kernel) (by decide +kernel), Or.inl rfl, tyX13_ok, nmX13, rfl, by decide +kernel, Or.inr ⟨_, rfl⟩, fun _ => rfl⟩
theorem fl_X13_32 : FLk RX13 32 10 8 := ⟨RX13, TX13, 36, "RootedFerryModel", rfl, by decide, wi_X13, TT_of (i := 912) (by decide +kernel) (by decide +kernel), Or.inl rfl⟩
theorem fp_X13_32 : FPk RX13 32 10 8 true 128 := ⟨RX13, TX13, 36, "RootedFerryModel", tyX13, (.array (.int)), rfl, by decide, wi_X13, TT_of (i := 912) (by decide +kernel) (by decide +kernel), Or.inl rfl, tyX13_ok, nmX13, rfl, by decide +kernel, Or.inr ⟨_, rfl⟩, fun _ => rfl⟩
theorem fl_X13_35 : FLk RX13 35 10 10 := ⟨RX13, TX13, 36, "RootedFerryModel", rfl, by decide, wi_X13, TT_of (i := 914) (by decide +kernel) (by decide +kernel), Or.inl rfl⟩
theorem fp_X13_35 : FPk RX13 35 10 10 true 129 := ⟨RX13, TX13, 36, "RootedFerryModel", tyX13, (.array (.char)), rfl, by decide, wi_X13, TT_of (i := 914) (by decide +kernel) (by decide +kernel), Or.inl rfl, tyX13_ok, nmX13, rfl, by decide +kernel, Or.inr ⟨_, rfl⟩, fun _ => rfl⟩
theorem fl_X13_39 : FLk RX13 39 10 15 := ⟨RX13, TX13, 36, "RootedFerryModel", rfl, by decide, wi_X13, TT_of (i := 919) (by decide +kernel) (by decide +kernel), Or.inl rfl⟩
theorem fp_X13_39 : FPk RX13 39 10 15 true 130 := ⟨RX13, TX13, 36, "RootedFerryModel", tyX13, (.array (.char)), rfl, by decide, wi_X13, TT_of (i := 919) (by decide +kernel) (by decide +kernel), Or.inl rfl, tyX13_ok, nmX13, rfl, by decide +kernel, Or.inr ⟨_, rfl⟩, fun _ => rfl⟩
theorem fl_X13_42 : FLk RX13 42 10 16 := ⟨RX13, TX13, 36, "RootedFerryModel", rfl, by decide, wi_X13, TT_of (i := 920) (by decide +kernel) (by decide +kernel), Or.inl rfl⟩
theorem fp_X13_42 : FPk RX13 42 10 16 false 0 := ⟨RX13, TX13, 36, "RootedFerryModel", tyX13, .int, rfl, by decide, wi_X13, TT_of (i := 920) (by decide +kernel) (by decide +kernel), Or.inl rfl, tyX13_ok, nmX13, rfl, by decide +kernel, rfl, fun z => by cases z⟩
theorem fl_X13_46 : FLk RX13 46 10 20 := ⟨RX13, TX13, 36, "RootedFerryModel", rfl, by decide, wi_X13, TT_of (i := 924) (by decide +kernel) (by decide +kernel), Or.inl rfl⟩
theorem fp_X13_46 : FPk RX13 46 10 20 false 0 := ⟨RX13, TX13, 36, "RootedFerryModel", tyX13, .int, rfl, by decide, wi_X13, TT_of (i := 924) (by decide +kernel) (by decide +kernel), Or.inl rfl, tyX13_ok, nmX13, rfl, by decide +kernel, rfl, fun z => by cases z⟩
theorem fl_X13_49 : FLk RX13 49 10 27 := ⟨RX13, TX13, 36, "RootedFerryModel", rfl, by decide, wi_X13, TT_of (i := 931) (by decide +kernel) (by decide +kernel), Or.inl rfl⟩
theorem fp_X13_49 : FPk RX13 49 10 27 false 0 := ⟨RX13, TX13, 36, "RootedFerryModel", tyX13, .int, rfl, by decide, wi_X13, TT_of (i := 931) (by decide +kernel) (by decide +kernel), Or.inl rfl, tyX13_ok, nmX13, rfl, by decide +kernel, rfl, fun z => by cases z⟩
theorem fl_X13_52 : FLk RX13 52 10 31 := ⟨RX13, TX13, 36, "RootedFerryModel", rfl, by decide, wi_X13, TT_of (i := 935) (by decide +kernel) (by decide +kernel), Or.inl rfl⟩
theorem fp_X13_52 : FPk RX13 52 10 31 true 131 := ⟨RX13, TX13, 36, "RootedFerryModel", tyX13, (.array (.int)), rfl, by decide, wi_X13, TT_of (i := 935) (by decide +kernel) (by decide +kernel), Or.inl rfl, tyX13_ok, nmX13, rfl, by decide +kernel, Or.inr ⟨_, rfl⟩, fun _ => rfl⟩
theorem fl_X13_75 : FLk RX13 75 10 9 := ⟨RX13, TX13, 36, "RootedFerryModel", rfl, by decide, wi_X13, TT_of (i := 913) (by decide +kernel) (by decide +kernel), Or.inl rfl⟩
theorem fp_X13_75 : FPk RX13 75 10 9 false 0 := ⟨RX13, TX13, 36, "RootedFerryModel", tyX13, .int, rfl, by decide, wi_X13, TT_of (i := 913) (by decide +kernel) (by decide +kernel), Or.inl rfl, tyX13_ok, nmX13, rfl, by decide +kernel, rfl, fun z => by cases z⟩
theorem fl_X13_78 : FLk RX13 78 10 11 := ⟨RX13, TX13, 36, "RootedFerryModel", rfl, by decide, wi_X13, TT_of (i := 915) (by decide +kernel) (by decide +kernel), Or.inl rfl⟩
theorem fp_X13_78 : FPk RX13 78 10 11 false 0 := ⟨RX13, TX13, 36, "RootedFerryModel", tyX13, .int, rfl, by decide, wi_X13, TT_of (i := 915) (by decide +kernel) (by decide +kernel), Or.inl rfl, tyX13_ok, nmX13, rfl, by decide +kernel, rfl, fun z => by cases z⟩
theorem fl_X13_93 : FLk RX13 93 10 17 := ⟨RX13, TX13, 36, "RootedFerryModel", rfl, by decide, wi_X13, TT_of (i := 921) (by decide +kernel) (by decide +kernel), Or.inl rfl⟩
theorem fp_X13_93 : FPk RX13 93 10 17 false 0 := ⟨RX13, TX13, 36, "RootedFerryModel", tyX13, .int, rfl, by decide, wi_X13, TT_of (i := 921) (by decide +kernel) (by decide +kernel), Or.inl rfl, tyX13_ok, nmX13, rfl, by decide +kernel, rfl, fun z => by cases z⟩
theorem fl_X13_100 : FLk RX13 100 10 35 := ⟨RX13, TX13, 36, "RootedFerryModel", rfl, by decide, wi_X13, TT_of (i := 939) (by decide +kernel) (by decide +kernel), Or.inl rfl⟩
theorem fp_X13_100 : FPk RX13 100 10 35 false 2 := ⟨RX13, TX13, 36, "RootedFerryModel", tyX13, .long, rfl, by decide, wi_X13, TT_of (i := 939) (by decide +kernel) (by decide +kernel), Or.inl rfl, tyX13_ok, nmX13, rfl, by decide +kernel, rfl, fun z => by cases z⟩
theorem fl_X13_107 : FLk RX13 107 10 34 := ⟨RX13, TX13, 36, "RootedFerryModel", rfl, by decide, wi_X13, TT_of (i := 938) (by decide +kernel) (by decide +kernel), Or.inl rfl⟩
theorem fp_X13_107 : FPk RX13 107 10 34 false 0 := ⟨RX13, TX13, 36, "RootedFerryModel", tyX13, .int, rfl, by decide, wi_X13, TT_of (i := 938) (by decide +kernel) (by decide +kernel), Or.inl rfl, tyX13_ok, nmX13, rfl, by decide +kernel, rfl, fun z => by cases z⟩
theorem fl_X13_116 : FLk RX13 116 10 5 := ⟨RX13, TX13, 36, "RootedFerryModel", rfl, by decide, wi_X13, TT_of (i := 909) (by decide +kernel) (by decide +kernel), Or.inl rfl⟩
theorem fp_X13_116 : FPk RX13 116 10 5 false 0 := ⟨RX13, TX13, 36, "RootedFerryModel", tyX13, .int, rfl, by decide, wi_X13, TT_of (i := 909) (by decide +kernel) (by decide +kernel), Or.inl rfl, tyX13_ok, nmX13, rfl, by decide +kernel, rfl, fun z => by cases z⟩
theorem fl_X13_123 : FLk RX13 123 10 12 := ⟨RX13, TX13, 36, "RootedFerryModel", rfl, by decide, wi_X13, TT_of (i := 916) (by decide +kernel) (by decide +kernel), Or.inl rfl⟩
theorem fp_X13_123 : FPk RX13 123 10 12 false 1 := ⟨RX13, TX13, 36, "RootedFerryModel", tyX13, .boolean, rfl, by decide, wi_X13, TT_of (i := 916) (by decide +kernel) (by decide +kernel), Or.inl rfl, tyX13_ok, nmX13, rfl, by decide +kernel, rfl, fun z => by cases z⟩
theorem fl_X13_131 : FLk RX13 131 10 13 := ⟨RX13, TX13, 36, "RootedFerryModel", rfl, by decide, wi_X13, TT_of (i := 917) (by decide +kernel) (by decide +kernel), Or.inl rfl⟩
theorem fp_X13_131 : FPk RX13 131 10 13 false 0 := ⟨RX13, TX13, 36, "RootedFerryModel", tyX13, .int, rfl, by decide, wi_X13, TT_of (i := 917) (by decide +kernel) (by decide +kernel), Or.inl rfl, tyX13_ok, nmX13, rfl, by decide +kernel, rfl, fun z => by cases z⟩
theorem fl_X13_134 : FLk RX13 134 10 14 := ⟨RX13, TX13, 36, "RootedFerryModel", rfl, by decide, wi_X13, TT_of (i := 918) (by decide +kernel) (by decide +kernel), Or.inl rfl⟩
theorem fp_X13_134 : FPk RX13 134 10 14 false 0 := ⟨RX13, TX13, 36, "RootedFerryModel", tyX13, .int, rfl, by decide, wi_X13, TT_of (i := 918) (by decide +kernel) (by decide +kernel), Or.inl rfl, tyX13_ok, nmX13, rfl, by decide +kernel, rfl, fun z => by cases z⟩
theorem fl_X13_137 : FLk RX13 137 10 18 := ⟨RX13, TX13, 36, "RootedFerryModel", rfl, by decide, wi_X13, TT_of (i := 922) (by decide +kernel) (by decide +kernel), Or.inl rfl⟩
theorem fp_X13_137 : FPk RX13 137 10 18 false 1 := ⟨RX13, TX13, 36, "RootedFerryModel", tyX13, .boolean, rfl, by decide, wi_X13, TT_of (i := 922) (by decide +kernel) (by decide +kernel), Or.inl rfl, tyX13_ok, nmX13, rfl, by decide +kernel, rfl, fun z => by cases z⟩
theorem fl_X13_140 : FLk RX13 140 10 19 := ⟨RX13, TX13, 36, "RootedFerryModel", rfl, by decide, wi_X13, TT_of (i := 923) (by decide +kernel) (by decide +kernel), Or.inl rfl⟩
theorem fp_X13_140 : FPk RX13 140 10 19 false 2 := ⟨RX13, TX13, 36, "RootedFerryModel", tyX13, .long, rfl, by decide, wi_X13, TT_of (i := 923) (by decide +kernel) (by decide +kernel), Or.inl rfl, tyX13_ok, nmX13, rfl, by decide +kernel, rfl, fun z => by cases z⟩
theorem fl_X13_143 : FLk RX13 143 10 21 := ⟨RX13, TX13, 36, "RootedFerryModel", rfl, by decide, wi_X13, TT_of (i := 925) (by decide +kernel) (by decide +kernel), Or.inl rfl⟩
theorem fp_X13_143 : FPk RX13 143 10 21 false 0 := ⟨RX13, TX13, 36, "RootedFerryModel", tyX13, .int, rfl, by decide, wi_X13, TT_of (i := 925) (by decide +kernel) (by decide +kernel), Or.inl rfl, tyX13_ok, nmX13, rfl, by decide +kernel, rfl, fun z => by cases z⟩
theorem fl_X13_146 : FLk RX13 146 10 25 := ⟨RX13, TX13, 36, "RootedFerryModel", rfl, by decide, wi_X13, TT_of (i := 929) (by decide +kernel) (by decide +kernel), Or.inl rfl⟩
theorem fp_X13_146 : FPk RX13 146 10 25 false 0 := ⟨RX13, TX13, 36, "RootedFerryModel", tyX13, .int, rfl, by decide, wi_X13, TT_of (i := 929) (by decide +kernel) (by decide +kernel), Or.inl rfl, tyX13_ok, nmX13, rfl, by decide +kernel, rfl, fun z => by cases z⟩
theorem fl_X13_178 : FLk RX13 178 10 22 := ⟨RX13, TX13, 36, "RootedFerryModel", rfl, by decide, wi_X13, TT_of (i := 926) (by decide +kernel) (by decide +kernel), Or.inl rfl⟩
theorem fp_X13_178 : FPk RX13 178 10 22 false 2 := ⟨RX13, TX13, 36, "RootedFerryModel", tyX13, .long, rfl, by decide, wi_X13, TT_of (i := 926) (by decide +kernel) (by decide +kernel), Or.inl rfl, tyX13_ok, nmX13, rfl, by decide +kernel, rfl, fun z => by cases z⟩
theorem fl_X13_181 : FLk RX13 181 10 23 := ⟨RX13, TX13, 36, "RootedFerryModel", rfl, by decide, wi_X13, TT_of (i := 927) (by decide +kernel) (by decide +kernel), Or.inl rfl⟩
theorem fp_X13_181 : FPk RX13 181 10 23 false 0 := ⟨RX13, TX13, 36, "RootedFerryModel", tyX13, .int, rfl, by decide, wi_X13, TT_of (i := 927) (by decide +kernel) (by decide +kernel), Or.inl rfl, tyX13_ok, nmX13, rfl, by decide +kernel, rfl, fun z => by cases z⟩
theorem fl_X13_184 : FLk RX13 184 10 24 := ⟨RX13, TX13, 36, "RootedFerryModel", rfl, by decide, wi_X13, TT_of (i := 928) (by decide +kernel) (by decide +kernel), Or.inl rfl⟩
theorem fp_X13_184 : FPk RX13 184 10 24 false 0 := ⟨RX13, TX13, 36, "RootedFerryModel", tyX13, .int, rfl, by decide, wi_X13, TT_of (i := 928) (by decide +kernel) (by decide +kernel), Or.inl rfl, tyX13_ok, nmX13, rfl, by decide +kernel, rfl, fun z => by cases z⟩
theorem fl_X13_199 : FLk RX13 199 10 28 := ⟨RX13, TX13, 36, "RootedFerryModel", rfl, by decide, wi_X13, TT_of (i := 932) (by decide +kernel) (by decide +kernel), Or.inl rfl⟩
theorem fp_X13_199 : FPk RX13 199 10 28 false 0 := ⟨RX13, TX13, 36, "RootedFerryModel", tyX13, .int, rfl, by decide, wi_X13, TT_of (i := 932) (by decide +kernel) (by decide +kernel), Or.inl rfl, tyX13_ok, nmX13, rfl, by decide +kernel, rfl, fun z => by cases z⟩
theorem fl_X13_240 : FLk RX13 240 10 26 := ⟨RX13, TX13, 36, "RootedFerryModel", rfl, by decide, wi_X13, TT_of (i := 930) (by decide +kernel) (by decide +kernel), Or.inl rfl⟩
theorem fp_X13_240 : FPk RX13 240 10 26 false 0 := ⟨RX13, TX13, 36, "RootedFerryModel", tyX13, .int, rfl, by decide, wi_X13, TT_of (i := 930) (by decide +kernel) (by decide +kernel), Or.inl rfl, tyX13_ok, nmX13, rfl, by decide +kernel, rfl, fun z => by cases z⟩
theorem fl_X13_243 : FLk RX13 243 10 29 := ⟨RX13, TX13, 36, "RootedFerryModel", rfl, by decide, wi_X13, TT_of (i := 933) (by decide +kernel) (by decide +kernel), Or.inl rfl⟩
theorem fp_X13_243 : FPk RX13 243 10 29 false 0 := ⟨RX13, TX13, 36, "RootedFerryModel", tyX13, .int, rfl, by decide, wi_X13, TT_of (i := 933) (by decide +kernel) (by decide +kernel), Or.inl rfl, tyX13_ok, nmX13, rfl, by decide +kernel, rfl, fun z => by cases z⟩
theorem fl_X13_246 : FLk RX13 246 10 30 := ⟨RX13, TX13, 36, "RootedFerryModel", rfl, by decide, wi_X13, TT_of (i := 934) (by decide +kernel) (by decide +kernel), Or.inl rfl⟩
theorem fp_X13_246 : FPk RX13 246 10 30 false 0 := ⟨RX13, TX13, 36, "RootedFerryModel", tyX13, .int, rfl, by decide, wi_X13, TT_of (i := 934) (by decide +kernel) (by decide +kernel), Or.inl rfl, tyX13_ok, nmX13, rfl, by decide +kernel, rfl, fun z => by cases z⟩
theorem fl_X13_249 : FLk RX13 249 10 32 := ⟨RX13, TX13, 36, "RootedFerryModel", rfl, by decide, wi_X13, TT_of (i := 936) (by decide +kernel) (by decide +kernel), Or.inl rfl⟩
theorem fp_X13_249 : FPk RX13 249 10 32 false 0 := ⟨RX13, TX13, 36, "RootedFerryModel", tyX13, .int, rfl, by decide, wi_X13, TT_of (i := 936) (by decide +kernel) (by decide +kernel), Or.inl rfl, tyX13_ok, nmX13, rfl, by decide +kernel, rfl, fun z => by cases z⟩
theorem fl_X13_252 : FLk RX13 252 10 33 := ⟨RX13, TX13, 36, "RootedFerryModel", rfl, by decide, wi_X13, TT_of (i := 937) (by decide +kernel) (by decide +kernel), Or.inl rfl⟩
theorem fp_X13_252 : FPk RX13 252 10 33 false 1 := ⟨RX13, TX13, 36, "RootedFerryModel", tyX13, .boolean, rfl, by decide, wi_X13, TT_of (i := 937) (by decide +kernel) (by decide +kernel), Or.inl rfl, tyX13_ok, nmX13, rfl, by decide +kernel, rfl, fun z => by cases z⟩
theorem fl_X2_13 : FLk RX2 13 2 0 := ⟨RX2, TX2, 8, "RootedFerry$Cargo", rfl, by decide, wi_X2, TT_of (i := 248) (by decide +kernel) (by decide +kernel), Or.inl rfl⟩
theorem fp_X2_13 : FPk RX2 13 2 0 true 113 := ⟨RX2, TX2, 8, "RootedFerry$Cargo", tyX2, (.array (.int)), rfl, by decide, wi_X2, TT_of (i := 248) (by decide +kernel) (by decide +kernel), Or.inl rfl, tyX2_ok, nmX2, rfl, by decide +kernel, Or.inr ⟨_, rfl⟩, fun _ => rfl⟩
theorem fp_X2_19 : FPk RX2 19 2 1 false 0 := ⟨RX2, TX2, 8, "RootedFerry$Cargo", tyX2, .int, rfl, by decide, wi_X2, TT_of (i := 250) (by decide +kernel) (by decide +kernel), Or.inl rfl, tyX2_ok, nmX2, rfl, by decide +kernel, rfl, fun z => by cases z⟩
theorem fl_X2_23 : FLk RX2 23 2 2 := ⟨RX2, TX2, 8, "RootedFerry$Cargo", rfl, by decide, wi_X2, TT_of (i := 252) (by decide +kernel) (by decide +kernel), Or.inl rfl⟩
theorem fp_X2_23 : FPk RX2 23 2 2 false 0 := ⟨RX2, TX2, 8, "RootedFerry$Cargo", tyX2, .int, rfl, by decide, wi_X2, TT_of (i := 252) (by decide +kernel) (by decide +kernel), Or.inl rfl, tyX2_ok, nmX2, rfl, by decide +kernel, rfl, fun z => by cases z⟩
theorem fl_X2_26 : FLk RX2 26 2 3 := ⟨RX2, TX2, 8, "RootedFerry$Cargo", rfl, by decide, wi_X2, TT_of (i := 254) (by decide +kernel) (by decide +kernel), Or.inl rfl⟩
theorem fp_X2_26 : FPk RX2 26 2 3 false 0 := ⟨RX2, TX2, 8, "RootedFerry$Cargo", tyX2, .int, rfl, by decide, wi_X2, TT_of (i := 254) (by decide +kernel) (by decide +kernel), Or.inl rfl, tyX2_ok, nmX2, rfl, by decide +kernel, rfl, fun z => by cases z⟩
theorem fp_X2_29 : FPk RX2 29 2 4 false 105 := ⟨RX2, TX2, 8, "RootedFerry$Cargo", tyX2, (.object "RootedFerry$Node"), rfl, by decide, wi_X2, TT_of (i := 255) (by decide +kernel) (by decide +kernel), Or.inl rfl, tyX2_ok, nmX2, rfl, by decide +kernel, Or.inl ⟨_, rfl⟩, fun z => by cases z⟩
theorem fp_X2_33 : FPk RX2 33 2 5 false 105 := ⟨RX2, TX2, 8, "RootedFerry$Cargo", tyX2, (.object "RootedFerry$Node"), rfl, by decide, wi_X2, TT_of (i := 257) (by decide +kernel) (by decide +kernel), Or.inl rfl, tyX2_ok, nmX2, rfl, by decide +kernel, Or.inl ⟨_, rfl⟩, fun z => by cases z⟩
theorem fp_X2_36 : FPk RX2 36 2 6 false 2 := ⟨RX2, TX2, 8, "RootedFerry$Cargo", tyX2, .long, rfl, by decide, wi_X2, TT_of (i := 259) (by decide +kernel) (by decide +kernel), Or.inl rfl, tyX2_ok, nmX2, rfl, by decide +kernel, rfl, fun z => by cases z⟩
theorem fp_X2_40 : FPk RX2 40 2 7 false 1 := ⟨RX2, TX2, 8, "RootedFerry$Cargo", tyX2, .boolean, rfl, by decide, wi_X2, TT_of (i := 261) (by decide +kernel) (by decide +kernel), Or.inl rfl, tyX2_ok, nmX2, rfl, by decide +kernel, rfl, fun z => by cases z⟩
theorem fl_X2_44 : FLk RX2 44 6 1 := ⟨RX8, TX8, 6, "RootedFerry$Node", rfl, by decide, wi_X8, TT_of (i := 136) (by decide +kernel) (by decide +kernel), Or.inl rfl⟩
theorem fl_X2_49 : FLk RX2 49 6 0 := ⟨RX8, TX8, 6, "RootedFerry$Node", rfl, by decide, wi_X8, TT_of (i := 133) (by decide +kernel) (by decide +kernel), Or.inl rfl⟩
theorem fl_X4_9 : FLk RX4 9 3 0 := ⟨RX4, TX4, 2, "RootedFerry$Line", rfl, by decide, wi_X4, TT_of (i := 111) (by decide +kernel) (by decide +kernel), Or.inl rfl⟩
theorem fp_X4_9 : FPk RX4 9 3 0 true 102 := ⟨RX4, TX4, 2, "RootedFerry$Line", tyX4, (.array (.char)), rfl, by decide, wi_X4, TT_of (i := 111) (by decide +kernel) (by decide +kernel), Or.inl rfl, tyX4_ok, nmX4, rfl, by decide +kernel, Or.inr ⟨_, rfl⟩, fun _ => rfl⟩
theorem fl_X4_15 : FLk RX4 15 3 1 := ⟨RX4, TX4, 2, "RootedFerry$Line", rfl, by decide, wi_X4, TT_of (i := 112) (by decide +kernel) (by decide +kernel), Or.inl rfl⟩
theorem fp_X4_15 : FPk RX4 15 3 1 false 0 := ⟨RX4, TX4, 2, "RootedFerry$Line", tyX4, .int, rfl, by decide, wi_X4, TT_of (i := 112) (by decide +kernel) (by decide +kernel), Or.inl rfl, tyX4_ok, nmX4, rfl, by decide +kernel, rfl, fun z => by cases z⟩
theorem fl_X5_7 : FLk RX5 7 4 0 := ⟨RX5, TX5, 3, "RootedFerry$Memory", rfl, by decide, wi_X5, TT_of (i := 286) (by decide +kernel) (by decide +kernel), Or.inl rfl⟩
theorem fp_X5_7 : FPk RX5 7 4 0 false 0 := ⟨RX5, TX5, 3, "RootedFerry$Memory", tyX5, .int, rfl, by decide, wi_X5, TT_of (i := 286) (by decide +kernel) (by decide +kernel), Or.inl rfl, tyX5_ok, nmX5, rfl, by decide +kernel, rfl, fun z => by cases z⟩
theorem fl_X5_15 : FLk RX5 15 4 1 := ⟨RX5, TX5, 3, "RootedFerry$Memory", rfl, by decide, wi_X5, TT_of (i := 288) (by decide +kernel) (by decide +kernel), Or.inl rfl⟩
theorem fp_X5_15 : FPk RX5 15 4 1 false 2 := ⟨RX5, TX5, 3, "RootedFerry$Memory", tyX5, .long, rfl, by decide, wi_X5, TT_of (i := 288) (by decide +kernel) (by decide +kernel), Or.inl rfl, tyX5_ok, nmX5, rfl, by decide +kernel, rfl, fun z => by cases z⟩
theorem fl_X5_19 : FLk RX5 19 4 2 := ⟨RX5, TX5, 3, "RootedFerry$Memory", rfl, by decide, wi_X5, TT_of (i := 290) (by decide +kernel) (by decide +kernel), Or.inl rfl⟩
theorem fp_X5_19 : FPk RX5 19 4 2 false 105 := ⟨RX5, TX5, 3, "RootedFerry$Memory", tyX5, (.object "RootedFerry$Node"), rfl, by decide, wi_X5, TT_of (i := 290) (by decide +kernel) (by decide +kernel), Or.inl rfl, tyX5_ok, nmX5, rfl, by decide +kernel, Or.inl ⟨_, rfl⟩, fun z => by cases z⟩
theorem fl_X6_11 : FLk RX6 11 5 0 := ⟨RX6, TX6, 2, "RootedFerry$Message", rfl, by decide, wi_X6, TT_of (i := 235) (by decide +kernel) (by decide +kernel), Or.inl rfl⟩
theorem fp_X6_11 : FPk RX6 11 5 0 true 111 := ⟨RX6, TX6, 2, "RootedFerry$Message", tyX6, (.array (.char)), rfl, by decide, wi_X6, TT_of (i := 235) (by decide +kernel) (by decide +kernel), Or.inl rfl, tyX6_ok, nmX6, rfl, by decide +kernel, Or.inr ⟨_, rfl⟩, fun _ => rfl⟩
theorem fl_X6_17 : FLk RX6 17 5 1 := ⟨RX6, TX6, 2, "RootedFerry$Message", rfl, by decide, wi_X6, TT_of (i := 236) (by decide +kernel) (by decide +kernel), Or.inl rfl⟩
theorem fp_X6_17 : FPk RX6 17 5 1 false 0 := ⟨RX6, TX6, 2, "RootedFerry$Message", tyX6, .int, rfl, by decide, wi_X6, TT_of (i := 236) (by decide +kernel) (by decide +kernel), Or.inl rfl, tyX6_ok, nmX6, rfl, by decide +kernel, rfl, fun z => by cases z⟩
theorem fl_X6_21 : FLk RX6 21 6 5 := ⟨RX8, TX8, 6, "RootedFerry$Node", rfl, by decide, wi_X8, TT_of (i := 151) (by decide +kernel) (by decide +kernel), Or.inl rfl⟩
theorem fl_X6_27 : FLk RX6 27 6 4 := ⟨RX8, TX8, 6, "RootedFerry$Node", rfl, by decide, wi_X8, TT_of (i := 147) (by decide +kernel) (by decide +kernel), Or.inl rfl⟩
theorem fp_X8_9 : FPk RX8 9 6 0 true 106 := ⟨RX8, TX8, 6, "RootedFerry$Node", tyX8, (.array (.int)), rfl, by decide, wi_X8, TT_of (i := 132) (by decide +kernel) (by decide +kernel), Or.inl rfl, tyX8_ok, nmX8, rfl, by decide +kernel, Or.inr ⟨_, rfl⟩, fun _ => rfl⟩
theorem fp_X8_13 : FPk RX8 13 6 1 false 0 := ⟨RX8, TX8, 6, "RootedFerry$Node", tyX8, .int, rfl, by decide, wi_X8, TT_of (i := 135) (by decide +kernel) (by decide +kernel), Or.inl rfl, tyX8_ok, nmX8, rfl, by decide +kernel, rfl, fun z => by cases z⟩
theorem fp_X8_17 : FPk RX8 17 6 2 false 1 := ⟨RX8, TX8, 6, "RootedFerry$Node", tyX8, .boolean, rfl, by decide, wi_X8, TT_of (i := 139) (by decide +kernel) (by decide +kernel), Or.inl rfl, tyX8_ok, nmX8, rfl, by decide +kernel, rfl, fun z => by cases z⟩
theorem fp_X8_21 : FPk RX8 21 6 3 false 1 := ⟨RX8, TX8, 6, "RootedFerry$Node", tyX8, .boolean, rfl, by decide, wi_X8, TT_of (i := 141) (by decide +kernel) (by decide +kernel), Or.inl rfl, tyX8_ok, nmX8, rfl, by decide +kernel, rfl, fun z => by cases z⟩
theorem fp_X8_26 : FPk RX8 26 6 4 false 2 := ⟨RX8, TX8, 6, "RootedFerry$Node", tyX8, .long, rfl, by decide, wi_X8, TT_of (i := 145) (by decide +kernel) (by decide +kernel), Or.inl rfl, tyX8_ok, nmX8, rfl, by decide +kernel, rfl, fun z => by cases z⟩
theorem fp_X8_30 : FPk RX8 30 6 5 false 105 := ⟨RX8, TX8, 6, "RootedFerry$Node", tyX8, (.object "RootedFerry$Node"), rfl, by decide, wi_X8, TT_of (i := 149) (by decide +kernel) (by decide +kernel), Or.inl rfl, tyX8_ok, nmX8, rfl, by decide +kernel, Or.inl ⟨_, rfl⟩, fun z => by cases z⟩
theorem fl_X9_7 : FLk RX9 7 7 0 := ⟨RX9, TX9, 7, "RootedFerry$Path", rfl, by decide, wi_X9, TT_of (i := 203) (by decide +kernel) (by decide +kernel), Or.inl rfl⟩
theorem fp_X9_7 : FPk RX9 7 7 0 true 109 := ⟨RX9, TX9, 7, "RootedFerry$Path", tyX9, (.array (.long)), rfl, by decide, wi_X9, TT_of (i := 203) (by decide +kernel) (by decide +kernel), Or.inl rfl, tyX9_ok, nmX9, rfl, by decide +kernel, Or.inr ⟨_, rfl⟩, fun _ => rfl⟩
theorem fl_X9_13 : FLk RX9 13 7 1 := ⟨RX9, TX9, 7, "RootedFerry$Path", rfl, by decide, wi_X9, TT_of (i := 204) (by decide +kernel) (by decide +kernel), Or.inl rfl⟩
theorem fp_X9_13 : FPk RX9 13 7 1 false 0 := ⟨RX9, TX9, 7, "RootedFerry$Path", tyX9, .int, rfl, by decide, wi_X9, TT_of (i := 204) (by decide +kernel) (by decide +kernel), Or.inl rfl, tyX9_ok, nmX9, rfl, by decide +kernel, rfl, fun z => by cases z⟩
theorem fl_X9_17 : FLk RX9 17 7 2 := ⟨RX9, TX9, 7, "RootedFerry$Path", rfl, by decide, wi_X9, TT_of (i := 205) (by decide +kernel) (by decide +kernel), Or.inl rfl⟩
theorem fp_X9_17 : FPk RX9 17 7 2 false 1 := ⟨RX9, TX9, 7, "RootedFerry$Path", tyX9, .boolean, rfl, by decide, wi_X9, TT_of (i := 205) (by decide +kernel) (by decide +kernel), Or.inl rfl, tyX9_ok, nmX9, rfl, by decide +kernel, rfl, fun z => by cases z⟩
theorem fl_X9_21 : FLk RX9 21 7 3 := ⟨RX9, TX9, 7, "RootedFerry$Path", rfl, by decide, wi_X9, TT_of (i := 206) (by decide +kernel) (by decide +kernel), Or.inl rfl⟩
theorem fp_X9_21 : FPk RX9 21 7 3 false 1 := ⟨RX9, TX9, 7, "RootedFerry$Path", tyX9, .boolean, rfl, by decide, wi_X9, TT_of (i := 206) (by decide +kernel) (by decide +kernel), Or.inl rfl, tyX9_ok, nmX9, rfl, by decide +kernel, rfl, fun z => by cases z⟩
theorem fl_X9_24 : FLk RX9 24 7 4 := ⟨RX9, TX9, 7, "RootedFerry$Path", rfl, by decide, wi_X9, TT_of (i := 207) (by decide +kernel) (by decide +kernel), Or.inl rfl⟩
theorem fp_X9_24 : FPk RX9 24 7 4 false 105 := ⟨RX9, TX9, 7, "RootedFerry$Path", tyX9, (.object "RootedFerry$Node"), rfl, by decide, wi_X9, TT_of (i := 207) (by decide +kernel) (by decide +kernel), Or.inl rfl, tyX9_ok, nmX9, rfl, by decide +kernel, Or.inl ⟨_, rfl⟩, fun z => by cases z⟩
theorem fp_X9_28 : FPk RX9 28 7 5 false 105 := ⟨RX9, TX9, 7, "RootedFerry$Path", tyX9, (.object "RootedFerry$Node"), rfl, by decide, wi_X9, TT_of (i := 209) (by decide +kernel) (by decide +kernel), Or.inl rfl, tyX9_ok, nmX9, rfl, by decide +kernel, Or.inl ⟨_, rfl⟩, fun z => by cases z⟩
theorem fp_X9_33 : FPk RX9 33 7 6 false 2 := ⟨RX9, TX9, 7, "RootedFerry$Path", tyX9, .long, rfl, by decide, wi_X9, TT_of (i := 211) (by decide +kernel) (by decide +kernel), Or.inl rfl, tyX9_ok, nmX9, rfl, by decide +kernel, rfl, fun z => by cases z⟩
theorem fl_X9_73 : FLk RX9 73 6 3 := ⟨RX8, TX8, 6, "RootedFerry$Node", rfl, by decide, wi_X8, TT_of (i := 143) (by decide +kernel) (by decide +kernel), Or.inl rfl⟩
theorem mv_J0_335 : MVk RJ0 335 yJ0_coder_7d493 cJ0_coder_7d493 1 (some .byte) 0 := ⟨TT_of (i := 530) (by decide +kernel) (by decide +kernel), TT_of (i := 531) (by decide +kernel) (by decide +kernel), TT_of (i := 532) (by decide +kernel) (by decide +kernel), TT_of (i := 93) (by decide +kernel) (by decide +kernel), TT_of (i := 533) (by decide +kernel) (by decide +kernel), ⟨by decide +kernel, by decide +kernel, by decide +kernel⟩⟩
theorem mv_J0_492 : MVk RJ0 492 yJ0_isLatin1_aae02 cJ0_isLatin1_aae02 1 (some .boolean) 0 := ⟨TT_of (i := 547) (by decide +kernel) (by decide +kernel), TT_of (i := 548) (by decide +kernel) (by decide +kernel), TT_of (i := 549) (by decide +kernel) (by decide +kernel), TT_of (i := 93) (by decide +kernel) (by decide +kernel), TT_of (i := 550) (by decide +kernel) (by decide +kernel), ⟨by decide +kernel, by decide +kernel, by decide +kernel⟩⟩
theorem ms_J0_495 : MSk RJ0 495 yJ1_charAt_3b067 cJ1_charAt_3b067 2 (some .char) 2 := ⟨TT_of (i := 551) (by decide +kernel) (by decide +kernel), TT_of (i := 552) (by decide +kernel) (by decide +kernel), TT_of (i := 94) (by decide +kernel) (by decide +kernel), TT_of (i := 553) (by decide +kernel) (by decide +kernel), ⟨by decide +kernel, by decide +kernel, by decide +kernel⟩⟩
theorem ms_J0_498 : MSk RJ0 498 yJ2_charAt_3b067 cJ2_charAt_3b067 2 (some .char) 2 := ⟨TT_of (i := 560) (by decide +kernel) (by decide +kernel), TT_of (i := 561) (by decide +kernel) (by decide +kernel), TT_of (i := 95) (by decide +kernel) (by decide +kernel), TT_of (i := 562) (by decide +kernel) (by decide +kernel), ⟨by decide +kernel, by decide +kernel, by decide +kernel⟩⟩
theorem ms_J0_1059 : MSk RJ0 1059 yJ3_checkIndex_8e157 cJ3_checkIndex_8e157 3 (some .int) 3 := ⟨TT_of (i := 559) (by decide +kernel) (by decide +kernel), TT_of (i := 385) (by decide +kernel) (by decide +kernel), TT_of (i := 87) (by decide +kernel) (by decide +kernel), TT_of (i := 386) (by decide +kernel) (by decide +kernel), ⟨by decide +kernel, by decide +kernel, by decide +kernel⟩⟩
theorem ms_J1_9 : MSk RJ1 9 yJ0_checkIndex_df160 cJ0_checkIndex_df160 2 none 2 := ⟨TT_of (i := 554) (by decide +kernel) (by decide +kernel), TT_of (i := 555) (by decide +kernel) (by decide +kernel), TT_of (i := 93) (by decide +kernel) (by decide +kernel), TT_of (i := 556) (by decide +kernel) (by decide +kernel), ⟨by decide +kernel, by decide +kernel, by decide +kernel⟩⟩
theorem ms_J15_105 : MSk RJ15 105 yJ3_checkIndex_8e157 cJ3_checkIndex_8e157 3 (some .int) 3 := ⟨TT_of (i := 384) (by decide +kernel) (by decide +kernel), TT_of (i := 385) (by decide +kernel) (by decide +kernel), TT_of (i := 87) (by decide +kernel) (by decide +kernel), TT_of (i := 386) (by decide +kernel) (by decide +kernel), ⟨by decide +kernel, by decide +kernel, by decide +kernel⟩⟩
theorem ms_J2_48 : MSk RJ2 48 yJ2_length_9d52b cJ2_length_9d52b 1 (some .int) 1 := ⟨TT_of (i := 566) (by decide +kernel) (by decide +kernel), TT_of (i := 567) (by decide +kernel) (by decide +kernel), TT_of (i := 95) (by decide +kernel) (by decide +kernel), TT_of (i := 568) (by decide +kernel) (by decide +kernel), ⟨by decide +kernel, by decide +kernel, by decide +kernel⟩⟩
theorem ms_J2_67 : MSk RJ2 67 yJ2_checkIndex_2214a cJ2_checkIndex_2214a 2 none 2 := ⟨TT_of (i := 563) (by decide +kernel) (by decide +kernel), TT_of (i := 564) (by decide +kernel) (by decide +kernel), TT_of (i := 95) (by decide +kernel) (by decide +kernel), TT_of (i := 565) (by decide +kernel) (by decide +kernel), ⟨by decide +kernel, by decide +kernel, by decide +kernel⟩⟩
theorem ms_J2_71 : MSk RJ2 71 yJ2_getChar_3b067 cJ2_getChar_3b067 2 (some .char) 2 := ⟨TT_of (i := 570) (by decide +kernel) (by decide +kernel), TT_of (i := 571) (by decide +kernel) (by decide +kernel), TT_of (i := 95) (by decide +kernel) (by decide +kernel), TT_of (i := 572) (by decide +kernel) (by decide +kernel), ⟨by decide +kernel, by decide +kernel, by decide +kernel⟩⟩
theorem ms_J2_414 : MSk RJ2 414 yJ0_checkIndex_df160 cJ0_checkIndex_df160 2 none 2 := ⟨TT_of (i := 569) (by decide +kernel) (by decide +kernel), TT_of (i := 555) (by decide +kernel) (by decide +kernel), TT_of (i := 93) (by decide +kernel) (by decide +kernel), TT_of (i := 556) (by decide +kernel) (by decide +kernel), ⟨by decide +kernel, by decide +kernel, by decide +kernel⟩⟩
theorem ms_J7_300 : MSk RJ7 300 yJ7_copyOf_6403c cJ7_copyOf_6403c 4 (some (.array (.object "java/lang/Object"))) 3 := ⟨TT_of (i := 460) (by decide +kernel) (by decide +kernel), TT_of (i := 461) (by decide +kernel) (by decide +kernel), TT_of (i := 91) (by decide +kernel) (by decide +kernel), TT_of (i := 462) (by decide +kernel) (by decide +kernel), ⟨by decide +kernel, by decide +kernel, by decide +kernel⟩⟩
theorem ms_J8_201 : MSk RJ8 201 yJ8_hugeLength_7cf53 cJ8_hugeLength_7cf53 3 (some .int) 2 := ⟨TT_of (i := 437) (by decide +kernel) (by decide +kernel), TT_of (i := 438) (by decide +kernel) (by decide +kernel), TT_of (i := 89) (by decide +kernel) (by decide +kernel), TT_of (i := 439) (by decide +kernel) (by decide +kernel), ⟨by decide +kernel, by decide +kernel, by decide +kernel⟩⟩
theorem mi_Jx4a65c_1 : MIk RJx4a65c 1 yJxc12de_init_da8c8 cJxc12de_init_da8c8 1 0 := ⟨TT_of (i := 176) (by decide +kernel) (by decide +kernel), TT_of (i := 177) (by decide +kernel) (by decide +kernel), TT_of (i := 76) (by decide +kernel) (by decide +kernel), TT_of (i := 178) (by decide +kernel) (by decide +kernel), by decide +kernel, ⟨by decide +kernel, by decide +kernel, by decide +kernel⟩⟩
theorem ms_Jx4a65c_66 : MSk RJx4a65c 66 yJ7_copyOf_1904c cJ7_copyOf_1904c 2 (some (.array (.object "java/lang/Object"))) 2 := ⟨TT_of (i := 440) (by decide +kernel) (by decide +kernel), TT_of (i := 441) (by decide +kernel) (by decide +kernel), TT_of (i := 91) (by decide +kernel) (by decide +kernel), TT_of (i := 442) (by decide +kernel) (by decide +kernel), ⟨by decide +kernel, by decide +kernel, by decide +kernel⟩⟩
theorem mv_Jx4a65c_69 : MVk RJx4a65c 69 yJx4a65c_grow_92f84 cJx4a65c_grow_92f84 4 (some (.array (.object "java/lang/Object"))) 1 := ⟨TT_of (i := 426) (by decide +kernel) (by decide +kernel), TT_of (i := 428) (by decide +kernel) (by decide +kernel), TT_of (i := 3) (by decide +kernel) (by decide +kernel), TT_of (i := 77) (by decide +kernel) (by decide +kernel), TT_of (i := 429) (by decide +kernel) (by decide +kernel), ⟨by decide +kernel, by decide +kernel, by decide +kernel⟩⟩
theorem ms_Jx4a65c_73 : MSk RJx4a65c 73 yJ8_newLength_cabcc cJ8_newLength_cabcc 4 (some .int) 3 := ⟨TT_of (i := 430) (by decide +kernel) (by decide +kernel), TT_of (i := 431) (by decide +kernel) (by decide +kernel), TT_of (i := 89) (by decide +kernel) (by decide +kernel), TT_of (i := 432) (by decide +kernel) (by decide +kernel), ⟨by decide +kernel, by decide +kernel, by decide +kernel⟩⟩
theorem ms_Jx4a65c_118 : MSk RJx4a65c 118 yJ15_checkIndex_7cf53 cJ15_checkIndex_7cf53 2 (some .int) 2 := ⟨TT_of (i := 381) (by decide +kernel) (by decide +kernel), TT_of (i := 382) (by decide +kernel) (by decide +kernel), TT_of (i := 86) (by decide +kernel) (by decide +kernel), TT_of (i := 383) (by decide +kernel) (by decide +kernel), ⟨by decide +kernel, by decide +kernel, by decide +kernel⟩⟩
theorem mv_Jx4a65c_123 : MVk RJx4a65c 123 yJx4a65c_elementData_915e3 cJx4a65c_elementData_915e3 2 (some (.object "java/lang/Object")) 1 := ⟨TT_of (i := 387) (by decide +kernel) (by decide +kernel), TT_of (i := 388) (by decide +kernel) (by decide +kernel), TT_of (i := 389) (by decide +kernel) (by decide +kernel), TT_of (i := 77) (by decide +kernel) (by decide +kernel), TT_of (i := 390) (by decide +kernel) (by decide +kernel), ⟨by decide +kernel, by decide +kernel, by decide +kernel⟩⟩
theorem mv_Jx4a65c_129 : MVk RJx4a65c 129 yJx4a65c_grow_d5877 cJx4a65c_grow_d5877 1 (some (.array (.object "java/lang/Object"))) 0 := ⟨TT_of (i := 422) (by decide +kernel) (by decide +kernel), TT_of (i := 424) (by decide +kernel) (by decide +kernel), TT_of (i := 2) (by decide +kernel) (by decide +kernel), TT_of (i := 77) (by decide +kernel) (by decide +kernel), TT_of (i := 425) (by decide +kernel) (by decide +kernel), ⟨by decide +kernel, by decide +kernel, by decide +kernel⟩⟩
theorem mv_Jx4a65c_131 : MVk RJx4a65c 131 yJx4a65c_add_72be8 cJx4a65c_add_72be8 4 none 3 := ⟨TT_of (i := 418) (by decide +kernel) (by decide +kernel), TT_of (i := 420) (by decide +kernel) (by decide +kernel), TT_of (i := 1) (by decide +kernel) (by decide +kernel), TT_of (i := 77) (by decide +kernel) (by decide +kernel), TT_of (i := 421) (by decide +kernel) (by decide +kernel), ⟨by decide +kernel, by decide +kernel, by decide +kernel⟩⟩
theorem mi_Jxc12de_1 : MIk RJxc12de 1 yJxa1e45_init_da8c8 cJxa1e45_init_da8c8 1 0 := ⟨TT_of (i := 179) (by decide +kernel) (by decide +kernel), TT_of (i := 180) (by decide +kernel) (by decide +kernel), TT_of (i := 75) (by decide +kernel) (by decide +kernel), TT_of (i := 181) (by decide +kernel) (by decide +kernel), by decide +kernel, ⟨by decide +kernel, by decide +kernel, by decide +kernel⟩⟩
theorem mi_L_9 : MIk RL 9 yX12_init cX12_init 1 0 := ⟨TT_of (i := 99) (by decide +kernel) (by decide +kernel), TT_of (i := 100) (by decide +kernel) (by decide +kernel), TT_of (i := 71) (by decide +kernel) (by decide +kernel), TT_of (i := 101) (by decide +kernel) (by decide +kernel), by decide +kernel, ⟨by decide +kernel, by decide +kernel, by decide +kernel⟩⟩
theorem mi_L_12 : MIk RL 12 yX13_init cX13_init 1 0 := ⟨TT_of (i := 900) (by decide +kernel) (by decide +kernel), TT_of (i := 901) (by decide +kernel) (by decide +kernel), TT_of (i := 84) (by decide +kernel) (by decide +kernel), TT_of (i := 902) (by decide +kernel) (by decide +kernel), by decide +kernel, ⟨by decide +kernel, by decide +kernel, by decide +kernel⟩⟩
theorem mv_L_15 : MVk RL 15 yX12_account cX12_account 10 (some .boolean) 2 := ⟨TT_of (i := 350) (by decide +kernel) (by decide +kernel), TT_of (i := 351) (by decide +kernel) (by decide +kernel), TT_of (i := 352) (by decide +kernel) (by decide +kernel), TT_of (i := 71) (by decide +kernel) (by decide +kernel), TT_of (i := 353) (by decide +kernel) (by decide +kernel), ⟨by decide +kernel, by decide +kernel, by decide +kernel⟩⟩
theorem mv_L_19 : MVk RL 19 yX13_account cX13_account 11 (some .boolean) 2 := ⟨TT_of (i := 1021) (by decide +kernel) (by decide +kernel), TT_of (i := 1022) (by decide +kernel) (by decide +kernel), TT_of (i := 1023) (by decide +kernel) (by decide +kernel), TT_of (i := 84) (by decide +kernel) (by decide +kernel), TT_of (i := 1024) (by decide +kernel) (by decide +kernel), ⟨by decide +kernel, by decide +kernel, by decide +kernel⟩⟩
theorem mv_L_20 : MVk RL 20 yX12_open cX12_open 1 (some .boolean) 0 := ⟨TT_of (i := 474) (by decide +kernel) (by decide +kernel), TT_of (i := 475) (by decide +kernel) (by decide +kernel), TT_of (i := 476) (by decide +kernel) (by decide +kernel), TT_of (i := 71) (by decide +kernel) (by decide +kernel), TT_of (i := 477) (by decide +kernel) (by decide +kernel), ⟨by decide +kernel, by decide +kernel, by decide +kernel⟩⟩
theorem mv_L_24 : MVk RL 24 yX13_open cX13_open 1 (some .boolean) 0 := ⟨TT_of (i := 1046) (by decide +kernel) (by decide +kernel), TT_of (i := 1047) (by decide +kernel) (by decide +kernel), TT_of (i := 1048) (by decide +kernel) (by decide +kernel), TT_of (i := 84) (by decide +kernel) (by decide +kernel), TT_of (i := 1049) (by decide +kernel) (by decide +kernel), ⟨by decide +kernel, by decide +kernel, by decide +kernel⟩⟩
theorem mv_L_25 : MVk RL 25 yX12_type cX12_type 2 (some .boolean) 1 := ⟨TT_of (i := 486) (by decide +kernel) (by decide +kernel), TT_of (i := 487) (by decide +kernel) (by decide +kernel), TT_of (i := 488) (by decide +kernel) (by decide +kernel), TT_of (i := 71) (by decide +kernel) (by decide +kernel), TT_of (i := 489) (by decide +kernel) (by decide +kernel), ⟨by decide +kernel, by decide +kernel, by decide +kernel⟩⟩
theorem mv_L_29 : MVk RL 29 yX13_type cX13_type 2 (some .boolean) 1 := ⟨TT_of (i := 1054) (by decide +kernel) (by decide +kernel), TT_of (i := 1055) (by decide +kernel) (by decide +kernel), TT_of (i := 1056) (by decide +kernel) (by decide +kernel), TT_of (i := 84) (by decide +kernel) (by decide +kernel), TT_of (i := 1057) (by decide +kernel) (by decide +kernel), ⟨by decide +kernel, by decide +kernel, by decide +kernel⟩⟩
theorem mv_L_30 : MVk RL 30 yX12_word cX12_word 5 (some .int) 1 := ⟨TT_of (i := 494) (by decide +kernel) (by decide +kernel), TT_of (i := 495) (by decide +kernel) (by decide +kernel), TT_of (i := 496) (by decide +kernel) (by decide +kernel), TT_of (i := 71) (by decide +kernel) (by decide +kernel), TT_of (i := 497) (by decide +kernel) (by decide +kernel), ⟨by decide +kernel, by decide +kernel, by decide +kernel⟩⟩
theorem mv_L_34 : MVk RL 34 yX13_word cX13_word 4 (some .int) 1 := ⟨TT_of (i := 1058) (by decide +kernel) (by decide +kernel), TT_of (i := 1059) (by decide +kernel) (by decide +kernel), TT_of (i := 1060) (by decide +kernel) (by decide +kernel), TT_of (i := 84) (by decide +kernel) (by decide +kernel), TT_of (i := 1061) (by decide +kernel) (by decide +kernel), ⟨by decide +kernel, by decide +kernel, by decide +kernel⟩⟩
theorem mv_L_35 : MVk RL 35 yX12_enter cX12_enter 2 (some .int) 0 := ⟨TT_of (i := 499) (by decide +kernel) (by decide +kernel), TT_of (i := 500) (by decide +kernel) (by decide +kernel), TT_of (i := 501) (by decide +kernel) (by decide +kernel), TT_of (i := 71) (by decide +kernel) (by decide +kernel), TT_of (i := 502) (by decide +kernel) (by decide +kernel), ⟨by decide +kernel, by decide +kernel, by decide +kernel⟩⟩
theorem mv_L_39 : MVk RL 39 yX13_enter cX13_enter 2 (some .int) 0 := ⟨TT_of (i := 1071) (by decide +kernel) (by decide +kernel), TT_of (i := 1072) (by decide +kernel) (by decide +kernel), TT_of (i := 1073) (by decide +kernel) (by decide +kernel), TT_of (i := 84) (by decide +kernel) (by decide +kernel), TT_of (i := 1074) (by decide +kernel) (by decide +kernel), ⟨by decide +kernel, by decide +kernel, by decide +kernel⟩⟩
theorem mv_L_40 : MVk RL 40 yX12_reply cX12_reply 1 (some .int) 0 := ⟨TT_of (i := 831) (by decide +kernel) (by decide +kernel), TT_of (i := 832) (by decide +kernel) (by decide +kernel), TT_of (i := 833) (by decide +kernel) (by decide +kernel), TT_of (i := 71) (by decide +kernel) (by decide +kernel), TT_of (i := 834) (by decide +kernel) (by decide +kernel), ⟨by decide +kernel, by decide +kernel, by decide +kernel⟩⟩
theorem mv_L_43 : MVk RL 43 yX13_reply cX13_reply 1 (some .int) 0 := ⟨TT_of (i := 1063) (by decide +kernel) (by decide +kernel), TT_of (i := 1064) (by decide +kernel) (by decide +kernel), TT_of (i := 1065) (by decide +kernel) (by decide +kernel), TT_of (i := 84) (by decide +kernel) (by decide +kernel), TT_of (i := 1066) (by decide +kernel) (by decide +kernel), ⟨by decide +kernel, by decide +kernel, by decide +kernel⟩⟩
theorem mv_L_44 : MVk RL 44 yX12_text cX12_text 2 (some .char) 1 := ⟨TT_of (i := 835) (by decide +kernel) (by decide +kernel), TT_of (i := 836) (by decide +kernel) (by decide +kernel), TT_of (i := 837) (by decide +kernel) (by decide +kernel), TT_of (i := 71) (by decide +kernel) (by decide +kernel), TT_of (i := 838) (by decide +kernel) (by decide +kernel), ⟨by decide +kernel, by decide +kernel, by decide +kernel⟩⟩
theorem mv_L_48 : MVk RL 48 yX13_text cX13_text 2 (some .char) 1 := ⟨TT_of (i := 1067) (by decide +kernel) (by decide +kernel), TT_of (i := 1068) (by decide +kernel) (by decide +kernel), TT_of (i := 1069) (by decide +kernel) (by decide +kernel), TT_of (i := 84) (by decide +kernel) (by decide +kernel), TT_of (i := 1070) (by decide +kernel) (by decide +kernel), ⟨by decide +kernel, by decide +kernel, by decide +kernel⟩⟩
theorem mv_L_49 : MVk RL 49 yX12_join cX12_join 1 (some .boolean) 0 := ⟨TT_of (i := 843) (by decide +kernel) (by decide +kernel), TT_of (i := 844) (by decide +kernel) (by decide +kernel), TT_of (i := 845) (by decide +kernel) (by decide +kernel), TT_of (i := 71) (by decide +kernel) (by decide +kernel), TT_of (i := 846) (by decide +kernel) (by decide +kernel), ⟨by decide +kernel, by decide +kernel, by decide +kernel⟩⟩
theorem mv_L_52 : MVk RL 52 yX13_join cX13_join 2 (some .boolean) 0 := ⟨TT_of (i := 1199) (by decide +kernel) (by decide +kernel), TT_of (i := 1200) (by decide +kernel) (by decide +kernel), TT_of (i := 1201) (by decide +kernel) (by decide +kernel), TT_of (i := 84) (by decide +kernel) (by decide +kernel), TT_of (i := 1202) (by decide +kernel) (by decide +kernel), ⟨by decide +kernel, by decide +kernel, by decide +kernel⟩⟩
theorem mv_L_53 : MVk RL 53 yX12_listen cX12_listen 2 (some .boolean) 1 := ⟨TT_of (i := 847) (by decide +kernel) (by decide +kernel), TT_of (i := 848) (by decide +kernel) (by decide +kernel), TT_of (i := 849) (by decide +kernel) (by decide +kernel), TT_of (i := 71) (by decide +kernel) (by decide +kernel), TT_of (i := 850) (by decide +kernel) (by decide +kernel), ⟨by decide +kernel, by decide +kernel, by decide +kernel⟩⟩
theorem mv_L_57 : MVk RL 57 yX13_listen cX13_listen 2 (some .boolean) 1 := ⟨TT_of (i := 1203) (by decide +kernel) (by decide +kernel), TT_of (i := 1204) (by decide +kernel) (by decide +kernel), TT_of (i := 1205) (by decide +kernel) (by decide +kernel), TT_of (i := 84) (by decide +kernel) (by decide +kernel), TT_of (i := 1206) (by decide +kernel) (by decide +kernel), ⟨by decide +kernel, by decide +kernel, by decide +kernel⟩⟩
theorem mv_L_58 : MVk RL 58 yX12_take cX12_take 2 (some .int) 0 := ⟨TT_of (i := 852) (by decide +kernel) (by decide +kernel), TT_of (i := 853) (by decide +kernel) (by decide +kernel), TT_of (i := 854) (by decide +kernel) (by decide +kernel), TT_of (i := 71) (by decide +kernel) (by decide +kernel), TT_of (i := 855) (by decide +kernel) (by decide +kernel), ⟨by decide +kernel, by decide +kernel, by decide +kernel⟩⟩
theorem mv_L_61 : MVk RL 61 yX13_take cX13_take 1 (some .int) 0 := ⟨TT_of (i := 1207) (by decide +kernel) (by decide +kernel), TT_of (i := 1208) (by decide +kernel) (by decide +kernel), TT_of (i := 1209) (by decide +kernel) (by decide +kernel), TT_of (i := 84) (by decide +kernel) (by decide +kernel), TT_of (i := 1210) (by decide +kernel) (by decide +kernel), ⟨by decide +kernel, by decide +kernel, by decide +kernel⟩⟩
theorem mv_L_62 : MVk RL 62 yX12_give cX12_give 2 (some .boolean) 1 := ⟨TT_of (i := 860) (by decide +kernel) (by decide +kernel), TT_of (i := 861) (by decide +kernel) (by decide +kernel), TT_of (i := 862) (by decide +kernel) (by decide +kernel), TT_of (i := 71) (by decide +kernel) (by decide +kernel), TT_of (i := 863) (by decide +kernel) (by decide +kernel), ⟨by decide +kernel, by decide +kernel, by decide +kernel⟩⟩
theorem mv_L_65 : MVk RL 65 yX13_give cX13_give 2 (some .boolean) 1 := ⟨TT_of (i := 1211) (by decide +kernel) (by decide +kernel), TT_of (i := 1212) (by decide +kernel) (by decide +kernel), TT_of (i := 1213) (by decide +kernel) (by decide +kernel), TT_of (i := 84) (by decide +kernel) (by decide +kernel), TT_of (i := 1214) (by decide +kernel) (by decide +kernel), ⟨by decide +kernel, by decide +kernel, by decide +kernel⟩⟩
theorem mv_L_66 : MVk RL 66 yX12_end cX12_end 1 (some .int) 0 := ⟨TT_of (i := 868) (by decide +kernel) (by decide +kernel), TT_of (i := 869) (by decide +kernel) (by decide +kernel), TT_of (i := 870) (by decide +kernel) (by decide +kernel), TT_of (i := 71) (by decide +kernel) (by decide +kernel), TT_of (i := 871) (by decide +kernel) (by decide +kernel), ⟨by decide +kernel, by decide +kernel, by decide +kernel⟩⟩
theorem mv_L_69 : MVk RL 69 yX13_end cX13_end 6 (some .int) 0 := ⟨TT_of (i := 1215) (by decide +kernel) (by decide +kernel), TT_of (i := 1216) (by decide +kernel) (by decide +kernel), TT_of (i := 1217) (by decide +kernel) (by decide +kernel), TT_of (i := 84) (by decide +kernel) (by decide +kernel), TT_of (i := 1218) (by decide +kernel) (by decide +kernel), ⟨by decide +kernel, by decide +kernel, by decide +kernel⟩⟩
theorem mv_L_70 : MVk RL 70 yX12_transfer cX12_transfer 1 (some .int) 0 := ⟨TT_of (i := 885) (by decide +kernel) (by decide +kernel), TT_of (i := 886) (by decide +kernel) (by decide +kernel), TT_of (i := 887) (by decide +kernel) (by decide +kernel), TT_of (i := 71) (by decide +kernel) (by decide +kernel), TT_of (i := 888) (by decide +kernel) (by decide +kernel), ⟨by decide +kernel, by decide +kernel, by decide +kernel⟩⟩
theorem mv_L_73 : MVk RL 73 yX13_transfer cX13_transfer 1 (some .int) 0 := ⟨TT_of (i := 1224) (by decide +kernel) (by decide +kernel), TT_of (i := 1225) (by decide +kernel) (by decide +kernel), TT_of (i := 1226) (by decide +kernel) (by decide +kernel), TT_of (i := 84) (by decide +kernel) (by decide +kernel), TT_of (i := 1227) (by decide +kernel) (by decide +kernel), ⟨by decide +kernel, by decide +kernel, by decide +kernel⟩⟩
theorem mv_L_74 : MVk RL 74 yX12_nodes cX12_nodes 1 (some .int) 0 := ⟨TT_of (i := 889) (by decide +kernel) (by decide +kernel), TT_of (i := 890) (by decide +kernel) (by decide +kernel), TT_of (i := 891) (by decide +kernel) (by decide +kernel), TT_of (i := 71) (by decide +kernel) (by decide +kernel), TT_of (i := 892) (by decide +kernel) (by decide +kernel), ⟨by decide +kernel, by decide +kernel, by decide +kernel⟩⟩
theorem mv_L_77 : MVk RL 77 yX13_nodes cX13_nodes 3 (some .int) 0 := ⟨TT_of (i := 1013) (by decide +kernel) (by decide +kernel), TT_of (i := 1014) (by decide +kernel) (by decide +kernel), TT_of (i := 1015) (by decide +kernel) (by decide +kernel), TT_of (i := 84) (by decide +kernel) (by decide +kernel), TT_of (i := 1016) (by decide +kernel) (by decide +kernel), ⟨by decide +kernel, by decide +kernel, by decide +kernel⟩⟩
theorem mv_L_78 : MVk RL 78 yX12_bytes cX12_bytes 1 (some .int) 0 := ⟨TT_of (i := 894) (by decide +kernel) (by decide +kernel), TT_of (i := 895) (by decide +kernel) (by decide +kernel), TT_of (i := 896) (by decide +kernel) (by decide +kernel), TT_of (i := 71) (by decide +kernel) (by decide +kernel), TT_of (i := 897) (by decide +kernel) (by decide +kernel), ⟨by decide +kernel, by decide +kernel, by decide +kernel⟩⟩
theorem mv_L_81 : MVk RL 81 yX13_bytes cX13_bytes 3 (some .int) 0 := ⟨TT_of (i := 1017) (by decide +kernel) (by decide +kernel), TT_of (i := 1018) (by decide +kernel) (by decide +kernel), TT_of (i := 1019) (by decide +kernel) (by decide +kernel), TT_of (i := 84) (by decide +kernel) (by decide +kernel), TT_of (i := 1020) (by decide +kernel) (by decide +kernel), ⟨by decide +kernel, by decide +kernel, by decide +kernel⟩⟩
theorem mv_X10_31 : MVk RX10 31 yX10_countNodes cX10_countNodes 6 (some .int) 0 := ⟨TT_of (i := 765) (by decide +kernel) (by decide +kernel), TT_of (i := 766) (by decide +kernel) (by decide +kernel), TT_of (i := 767) (by decide +kernel) (by decide +kernel), TT_of (i := 73) (by decide +kernel) (by decide +kernel), TT_of (i := 768) (by decide +kernel) (by decide +kernel), ⟨by decide +kernel, by decide +kernel, by decide +kernel⟩⟩
theorem mv_X10_45 : MVk RX10 45 yX10_child cX10_child 8 (some (.object "RootedFerry$Node")) 2 := ⟨TT_of (i := 652) (by decide +kernel) (by decide +kernel), TT_of (i := 654) (by decide +kernel) (by decide +kernel), TT_of (i := 11) (by decide +kernel) (by decide +kernel), TT_of (i := 73) (by decide +kernel) (by decide +kernel), TT_of (i := 655) (by decide +kernel) (by decide +kernel), ⟨by decide +kernel, by decide +kernel, by decide +kernel⟩⟩
theorem mv_X10_49 : MVk RX10 49 yX10_nextName cX10_nextName 10 (some .long) 2 := ⟨TT_of (i := 705) (by decide +kernel) (by decide +kernel), TT_of (i := 706) (by decide +kernel) (by decide +kernel), TT_of (i := 707) (by decide +kernel) (by decide +kernel), TT_of (i := 73) (by decide +kernel) (by decide +kernel), TT_of (i := 708) (by decide +kernel) (by decide +kernel), ⟨by decide +kernel, by decide +kernel, by decide +kernel⟩⟩
theorem mi_X12_18 : MIk RX12 18 yX10_init cX10_init 2 0 := ⟨TT_of (i := 121) (by decide +kernel) (by decide +kernel), TT_of (i := 122) (by decide +kernel) (by decide +kernel), TT_of (i := 73) (by decide +kernel) (by decide +kernel), TT_of (i := 123) (by decide +kernel) (by decide +kernel), by decide +kernel, ⟨by decide +kernel, by decide +kernel, by decide +kernel⟩⟩
theorem mi_X12_25 : MIk RX12 25 yJx4a65c_init_da8c8 cJx4a65c_init_da8c8 1 0 := ⟨TT_of (i := 173) (by decide +kernel) (by decide +kernel), TT_of (i := 174) (by decide +kernel) (by decide +kernel), TT_of (i := 77) (by decide +kernel) (by decide +kernel), TT_of (i := 175) (by decide +kernel) (by decide +kernel), by decide +kernel, ⟨by decide +kernel, by decide +kernel, by decide +kernel⟩⟩
theorem ms_X12_94 : MSk RX12 94 yX7_partOfWord cX7_partOfWord 6 (some .long) 1 := ⟨TT_of (i := 354) (by decide +kernel) (by decide +kernel), TT_of (i := 355) (by decide +kernel) (by decide +kernel), TT_of (i := 85) (by decide +kernel) (by decide +kernel), TT_of (i := 356) (by decide +kernel) (by decide +kernel), ⟨by decide +kernel, by decide +kernel, by decide +kernel⟩⟩
theorem ms_X12_100 : MSk RX12 100 yX7_withoutDots cX7_withoutDots 2 (some .long) 1 := ⟨TT_of (i := 361) (by decide +kernel) (by decide +kernel), TT_of (i := 362) (by decide +kernel) (by decide +kernel), TT_of (i := 85) (by decide +kernel) (by decide +kernel), TT_of (i := 363) (by decide +kernel) (by decide +kernel), ⟨by decide +kernel, by decide +kernel, by decide +kernel⟩⟩
theorem mv_X12_103 : MVk RX12 103 yJx4a65c_size_8abf5 cJx4a65c_size_8abf5 1 (some .int) 0 := ⟨TT_of (i := 369) (by decide +kernel) (by decide +kernel), TT_of (i := 370) (by decide +kernel) (by decide +kernel), TT_of (i := 371) (by decide +kernel) (by decide +kernel), TT_of (i := 77) (by decide +kernel) (by decide +kernel), TT_of (i := 372) (by decide +kernel) (by decide +kernel), ⟨by decide +kernel, by decide +kernel, by decide +kernel⟩⟩
theorem mv_X12_107 : MVk RX12 107 yX12_accountOf cX12_accountOf 5 (some (.object "RootedFerry$Account")) 1 := ⟨TT_of (i := 373) (by decide +kernel) (by decide +kernel), TT_of (i := 375) (by decide +kernel) (by decide +kernel), TT_of (i := 0) (by decide +kernel) (by decide +kernel), TT_of (i := 71) (by decide +kernel) (by decide +kernel), TT_of (i := 376) (by decide +kernel) (by decide +kernel), ⟨by decide +kernel, by decide +kernel, by decide +kernel⟩⟩
theorem mv_X12_111 : MVk RX12 111 yX10_add cX10_add 9 (some (.object "RootedFerry$Node")) 3 := ⟨TT_of (i := 392) (by decide +kernel) (by decide +kernel), TT_of (i := 393) (by decide +kernel) (by decide +kernel), TT_of (i := 394) (by decide +kernel) (by decide +kernel), TT_of (i := 73) (by decide +kernel) (by decide +kernel), TT_of (i := 395) (by decide +kernel) (by decide +kernel), ⟨by decide +kernel, by decide +kernel, by decide +kernel⟩⟩
theorem mi_X12_117 : MIk RX12 117 yX1_init cX1_init 6 3 := ⟨TT_of (i := 397) (by decide +kernel) (by decide +kernel), TT_of (i := 398) (by decide +kernel) (by decide +kernel), TT_of (i := 88) (by decide +kernel) (by decide +kernel), TT_of (i := 399) (by decide +kernel) (by decide +kernel), by decide +kernel, ⟨by decide +kernel, by decide +kernel, by decide +kernel⟩⟩
theorem mv_X12_120 : MVk RX12 120 yJx4a65c_add_9ea2d cJx4a65c_add_9ea2d 2 (some .boolean) 1 := ⟨TT_of (i := 414) (by decide +kernel) (by decide +kernel), TT_of (i := 415) (by decide +kernel) (by decide +kernel), TT_of (i := 416) (by decide +kernel) (by decide +kernel), TT_of (i := 77) (by decide +kernel) (by decide +kernel), TT_of (i := 417) (by decide +kernel) (by decide +kernel), ⟨by decide +kernel, by decide +kernel, by decide +kernel⟩⟩
theorem mv_X12_123 : MVk RX12 123 yX12_logOut cX12_logOut 1 none 0 := ⟨TT_of (i := 478) (by decide +kernel) (by decide +kernel), TT_of (i := 480) (by decide +kernel) (by decide +kernel), TT_of (i := 4) (by decide +kernel) (by decide +kernel), TT_of (i := 71) (by decide +kernel) (by decide +kernel), TT_of (i := 481) (by decide +kernel) (by decide +kernel), ⟨by decide +kernel, by decide +kernel, by decide +kernel⟩⟩
theorem mv_X12_126 : MVk RX12 126 yX5_clear cX5_clear 1 none 0 := ⟨TT_of (i := 482) (by decide +kernel) (by decide +kernel), TT_of (i := 483) (by decide +kernel) (by decide +kernel), TT_of (i := 484) (by decide +kernel) (by decide +kernel), TT_of (i := 81) (by decide +kernel) (by decide +kernel), TT_of (i := 485) (by decide +kernel) (by decide +kernel), ⟨by decide +kernel, by decide +kernel, by decide +kernel⟩⟩
theorem mv_X12_129 : MVk RX12 129 yX4_add cX4_add 2 (some .boolean) 1 := ⟨TT_of (i := 490) (by decide +kernel) (by decide +kernel), TT_of (i := 491) (by decide +kernel) (by decide +kernel), TT_of (i := 492) (by decide +kernel) (by decide +kernel), TT_of (i := 72) (by decide +kernel) (by decide +kernel), TT_of (i := 493) (by decide +kernel) (by decide +kernel), ⟨by decide +kernel, by decide +kernel, by decide +kernel⟩⟩
theorem mv_X12_134 : MVk RX12 134 yX5_takeOver cX5_takeOver 2 none 1 := ⟨TT_of (i := 503) (by decide +kernel) (by decide +kernel), TT_of (i := 504) (by decide +kernel) (by decide +kernel), TT_of (i := 505) (by decide +kernel) (by decide +kernel), TT_of (i := 81) (by decide +kernel) (by decide +kernel), TT_of (i := 506) (by decide +kernel) (by decide +kernel), ⟨by decide +kernel, by decide +kernel, by decide +kernel⟩⟩
theorem mv_X12_138 : MVk RX12 138 yX12_answerLine cX12_answerLine 2 (some .int) 0 := ⟨TT_of (i := 508) (by decide +kernel) (by decide +kernel), TT_of (i := 510) (by decide +kernel) (by decide +kernel), TT_of (i := 5) (by decide +kernel) (by decide +kernel), TT_of (i := 71) (by decide +kernel) (by decide +kernel), TT_of (i := 511) (by decide +kernel) (by decide +kernel), ⟨by decide +kernel, by decide +kernel, by decide +kernel⟩⟩
theorem mv_X12_141 : MVk RX12 141 yX4_clear cX4_clear 1 none 0 := ⟨TT_of (i := 827) (by decide +kernel) (by decide +kernel), TT_of (i := 828) (by decide +kernel) (by decide +kernel), TT_of (i := 829) (by decide +kernel) (by decide +kernel), TT_of (i := 72) (by decide +kernel) (by decide +kernel), TT_of (i := 830) (by decide +kernel) (by decide +kernel), ⟨by decide +kernel, by decide +kernel, by decide +kernel⟩⟩
theorem mv_X12_142 : MVk RX12 142 yX6_at cX6_at 2 (some .char) 1 := ⟨TT_of (i := 839) (by decide +kernel) (by decide +kernel), TT_of (i := 840) (by decide +kernel) (by decide +kernel), TT_of (i := 841) (by decide +kernel) (by decide +kernel), TT_of (i := 79) (by decide +kernel) (by decide +kernel), TT_of (i := 842) (by decide +kernel) (by decide +kernel), ⟨by decide +kernel, by decide +kernel, by decide +kernel⟩⟩
theorem mv_X12_156 : MVk RX12 156 yX2_next cX2_next 1 (some .int) 0 := ⟨TT_of (i := 856) (by decide +kernel) (by decide +kernel), TT_of (i := 857) (by decide +kernel) (by decide +kernel), TT_of (i := 858) (by decide +kernel) (by decide +kernel), TT_of (i := 80) (by decide +kernel) (by decide +kernel), TT_of (i := 859) (by decide +kernel) (by decide +kernel), ⟨by decide +kernel, by decide +kernel, by decide +kernel⟩⟩
theorem mv_X12_159 : MVk RX12 159 yX12_dropTransfer cX12_dropTransfer 1 none 0 := ⟨TT_of (i := 799) (by decide +kernel) (by decide +kernel), TT_of (i := 801) (by decide +kernel) (by decide +kernel), TT_of (i := 32) (by decide +kernel) (by decide +kernel), TT_of (i := 71) (by decide +kernel) (by decide +kernel), TT_of (i := 802) (by decide +kernel) (by decide +kernel), ⟨by decide +kernel, by decide +kernel, by decide +kernel⟩⟩
theorem mv_X12_162 : MVk RX12 162 yX2_receive cX2_receive 2 (some .boolean) 1 := ⟨TT_of (i := 864) (by decide +kernel) (by decide +kernel), TT_of (i := 865) (by decide +kernel) (by decide +kernel), TT_of (i := 866) (by decide +kernel) (by decide +kernel), TT_of (i := 80) (by decide +kernel) (by decide +kernel), TT_of (i := 867) (by decide +kernel) (by decide +kernel), ⟨by decide +kernel, by decide +kernel, by decide +kernel⟩⟩
theorem mv_X12_166 : MVk RX12 166 yX12_storeCargo cX12_storeCargo 5 (some .boolean) 0 := ⟨TT_of (i := 872) (by decide +kernel) (by decide +kernel), TT_of (i := 874) (by decide +kernel) (by decide +kernel), TT_of (i := 36) (by decide +kernel) (by decide +kernel), TT_of (i := 71) (by decide +kernel) (by decide +kernel), TT_of (i := 875) (by decide +kernel) (by decide +kernel), ⟨by decide +kernel, by decide +kernel, by decide +kernel⟩⟩
theorem mv_X12_170 : MVk RX12 170 yX10_countNodes cX10_countNodes 6 (some .int) 0 := ⟨TT_of (i := 893) (by decide +kernel) (by decide +kernel), TT_of (i := 766) (by decide +kernel) (by decide +kernel), TT_of (i := 767) (by decide +kernel) (by decide +kernel), TT_of (i := 73) (by decide +kernel) (by decide +kernel), TT_of (i := 768) (by decide +kernel) (by decide +kernel), ⟨by decide +kernel, by decide +kernel, by decide +kernel⟩⟩
theorem mv_X12_173 : MVk RX12 173 yX10_countBytes cX10_countBytes 6 (some .int) 0 := ⟨TT_of (i := 880) (by decide +kernel) (by decide +kernel), TT_of (i := 881) (by decide +kernel) (by decide +kernel), TT_of (i := 882) (by decide +kernel) (by decide +kernel), TT_of (i := 73) (by decide +kernel) (by decide +kernel), TT_of (i := 883) (by decide +kernel) (by decide +kernel), ⟨by decide +kernel, by decide +kernel, by decide +kernel⟩⟩
theorem mv_X12_176 : MVk RX12 176 yJx4a65c_get_915e3 cJx4a65c_get_915e3 2 (some (.object "java/lang/Object")) 1 := ⟨TT_of (i := 377) (by decide +kernel) (by decide +kernel), TT_of (i := 378) (by decide +kernel) (by decide +kernel), TT_of (i := 379) (by decide +kernel) (by decide +kernel), TT_of (i := 77) (by decide +kernel) (by decide +kernel), TT_of (i := 380) (by decide +kernel) (by decide +kernel), ⟨by decide +kernel, by decide +kernel, by decide +kernel⟩⟩
theorem mv_X12_184 : MVk RX12 184 yX2_clear cX2_clear 1 none 0 := ⟨TT_of (i := 803) (by decide +kernel) (by decide +kernel), TT_of (i := 804) (by decide +kernel) (by decide +kernel), TT_of (i := 805) (by decide +kernel) (by decide +kernel), TT_of (i := 80) (by decide +kernel) (by decide +kernel), TT_of (i := 806) (by decide +kernel) (by decide +kernel), ⟨by decide +kernel, by decide +kernel, by decide +kernel⟩⟩
theorem mv_X12_185 : MVk RX12 185 yX12_commandOfLine cX12_commandOfLine 5 (some (.object "RootedFerry$Command")) 0 := ⟨TT_of (i := 512) (by decide +kernel) (by decide +kernel), TT_of (i := 514) (by decide +kernel) (by decide +kernel), TT_of (i := 6) (by decide +kernel) (by decide +kernel), TT_of (i := 71) (by decide +kernel) (by decide +kernel), TT_of (i := 515) (by decide +kernel) (by decide +kernel), ⟨by decide +kernel, by decide +kernel, by decide +kernel⟩⟩
theorem mv_X12_189 : MVk RX12 189 yX4_endsWithItsSpace cX4_endsWithItsSpace 1 (some .boolean) 0 := ⟨TT_of (i := 579) (by decide +kernel) (by decide +kernel), TT_of (i := 580) (by decide +kernel) (by decide +kernel), TT_of (i := 581) (by decide +kernel) (by decide +kernel), TT_of (i := 72) (by decide +kernel) (by decide +kernel), TT_of (i := 582) (by decide +kernel) (by decide +kernel), ⟨by decide +kernel, by decide +kernel, by decide +kernel⟩⟩
theorem mv_X12_192 : MVk RX12 192 yX12_argumentFits cX12_argumentFits 2 (some .boolean) 1 := ⟨TT_of (i := 583) (by decide +kernel) (by decide +kernel), TT_of (i := 585) (by decide +kernel) (by decide +kernel), TT_of (i := 8) (by decide +kernel) (by decide +kernel), TT_of (i := 71) (by decide +kernel) (by decide +kernel), TT_of (i := 586) (by decide +kernel) (by decide +kernel), ⟨by decide +kernel, by decide +kernel, by decide +kernel⟩⟩
theorem mv_X12_207 : MVk RX12 207 yX9_walk cX9_walk 6 none 3 := ⟨TT_of (i := 642) (by decide +kernel) (by decide +kernel), TT_of (i := 643) (by decide +kernel) (by decide +kernel), TT_of (i := 644) (by decide +kernel) (by decide +kernel), TT_of (i := 78) (by decide +kernel) (by decide +kernel), TT_of (i := 645) (by decide +kernel) (by decide +kernel), ⟨by decide +kernel, by decide +kernel, by decide +kernel⟩⟩
theorem mv_X12_211 : MVk RX12 211 yX12_runOnPath cX12_runOnPath 2 (some .int) 1 := ⟨TT_of (i := 662) (by decide +kernel) (by decide +kernel), TT_of (i := 664) (by decide +kernel) (by decide +kernel), TT_of (i := 13) (by decide +kernel) (by decide +kernel), TT_of (i := 71) (by decide +kernel) (by decide +kernel), TT_of (i := 665) (by decide +kernel) (by decide +kernel), ⟨by decide +kernel, by decide +kernel, by decide +kernel⟩⟩
theorem mv_X12_215 : MVk RX12 215 yX12_run cX12_run 2 (some .int) 1 := ⟨TT_of (i := 783) (by decide +kernel) (by decide +kernel), TT_of (i := 785) (by decide +kernel) (by decide +kernel), TT_of (i := 28) (by decide +kernel) (by decide +kernel), TT_of (i := 71) (by decide +kernel) (by decide +kernel), TT_of (i := 786) (by decide +kernel) (by decide +kernel), ⟨by decide +kernel, by decide +kernel, by decide +kernel⟩⟩
theorem mv_X12_226 : MVk RX12 226 yX4_startsWithCommand cX4_startsWithCommand 3 (some .boolean) 1 := ⟨TT_of (i := 518) (by decide +kernel) (by decide +kernel), TT_of (i := 519) (by decide +kernel) (by decide +kernel), TT_of (i := 520) (by decide +kernel) (by decide +kernel), TT_of (i := 72) (by decide +kernel) (by decide +kernel), TT_of (i := 521) (by decide +kernel) (by decide +kernel), ⟨by decide +kernel, by decide +kernel, by decide +kernel⟩⟩
theorem mv_X12_230 : MVk RX12 230 yX4_hasArgument cX4_hasArgument 1 (some .boolean) 0 := ⟨TT_of (i := 587) (by decide +kernel) (by decide +kernel), TT_of (i := 588) (by decide +kernel) (by decide +kernel), TT_of (i := 589) (by decide +kernel) (by decide +kernel), TT_of (i := 72) (by decide +kernel) (by decide +kernel), TT_of (i := 590) (by decide +kernel) (by decide +kernel), ⟨by decide +kernel, by decide +kernel, by decide +kernel⟩⟩
theorem mv_X12_233 : MVk RX12 233 yX9_stay cX9_stay 1 none 0 := ⟨TT_of (i := 599) (by decide +kernel) (by decide +kernel), TT_of (i := 600) (by decide +kernel) (by decide +kernel), TT_of (i := 601) (by decide +kernel) (by decide +kernel), TT_of (i := 78) (by decide +kernel) (by decide +kernel), TT_of (i := 602) (by decide +kernel) (by decide +kernel), ⟨by decide +kernel, by decide +kernel, by decide +kernel⟩⟩
theorem mv_X12_236 : MVk RX12 236 yX4_argumentName cX4_argumentName 1 (some .long) 0 := ⟨TT_of (i := 603) (by decide +kernel) (by decide +kernel), TT_of (i := 604) (by decide +kernel) (by decide +kernel), TT_of (i := 605) (by decide +kernel) (by decide +kernel), TT_of (i := 72) (by decide +kernel) (by decide +kernel), TT_of (i := 606) (by decide +kernel) (by decide +kernel), ⟨by decide +kernel, by decide +kernel, by decide +kernel⟩⟩
theorem mv_X12_240 : MVk RX12 240 yX9_read cX9_read 5 (some .boolean) 1 := ⟨TT_of (i := 613) (by decide +kernel) (by decide +kernel), TT_of (i := 614) (by decide +kernel) (by decide +kernel), TT_of (i := 615) (by decide +kernel) (by decide +kernel), TT_of (i := 78) (by decide +kernel) (by decide +kernel), TT_of (i := 616) (by decide +kernel) (by decide +kernel), ⟨by decide +kernel, by decide +kernel, by decide +kernel⟩⟩
theorem mv_X12_244 : MVk RX12 244 yX4_argumentNumber cX4_argumentNumber 1 (some .int) 0 := ⟨TT_of (i := 629) (by decide +kernel) (by decide +kernel), TT_of (i := 630) (by decide +kernel) (by decide +kernel), TT_of (i := 631) (by decide +kernel) (by decide +kernel), TT_of (i := 72) (by decide +kernel) (by decide +kernel), TT_of (i := 632) (by decide +kernel) (by decide +kernel), ⟨by decide +kernel, by decide +kernel, by decide +kernel⟩⟩
theorem mv_X12_247 : MVk RX12 247 yX4_argumentPort cX4_argumentPort 6 (some .int) 0 := ⟨TT_of (i := 637) (by decide +kernel) (by decide +kernel), TT_of (i := 638) (by decide +kernel) (by decide +kernel), TT_of (i := 639) (by decide +kernel) (by decide +kernel), TT_of (i := 72) (by decide +kernel) (by decide +kernel), TT_of (i := 640) (by decide +kernel) (by decide +kernel), ⟨by decide +kernel, by decide +kernel, by decide +kernel⟩⟩
theorem mv_X12_259 : MVk RX12 259 yX12_nameUser cX12_nameUser 1 (some .int) 0 := ⟨TT_of (i := 787) (by decide +kernel) (by decide +kernel), TT_of (i := 789) (by decide +kernel) (by decide +kernel), TT_of (i := 29) (by decide +kernel) (by decide +kernel), TT_of (i := 71) (by decide +kernel) (by decide +kernel), TT_of (i := 790) (by decide +kernel) (by decide +kernel), ⟨by decide +kernel, by decide +kernel, by decide +kernel⟩⟩
theorem mv_X12_262 : MVk RX12 262 yX12_logIn cX12_logIn 2 (some .int) 0 := ⟨TT_of (i := 791) (by decide +kernel) (by decide +kernel), TT_of (i := 793) (by decide +kernel) (by decide +kernel), TT_of (i := 30) (by decide +kernel) (by decide +kernel), TT_of (i := 71) (by decide +kernel) (by decide +kernel), TT_of (i := 794) (by decide +kernel) (by decide +kernel), ⟨by decide +kernel, by decide +kernel, by decide +kernel⟩⟩
theorem mv_X12_265 : MVk RX12 265 yX12_quit cX12_quit 1 (some .int) 0 := ⟨TT_of (i := 795) (by decide +kernel) (by decide +kernel), TT_of (i := 797) (by decide +kernel) (by decide +kernel), TT_of (i := 31) (by decide +kernel) (by decide +kernel), TT_of (i := 71) (by decide +kernel) (by decide +kernel), TT_of (i := 798) (by decide +kernel) (by decide +kernel), ⟨by decide +kernel, by decide +kernel, by decide +kernel⟩⟩
theorem mv_X12_268 : MVk RX12 268 yX6_spellPath cX6_spellPath 4 none 1 := ⟨TT_of (i := 682) (by decide +kernel) (by decide +kernel), TT_of (i := 683) (by decide +kernel) (by decide +kernel), TT_of (i := 684) (by decide +kernel) (by decide +kernel), TT_of (i := 79) (by decide +kernel) (by decide +kernel), TT_of (i := 685) (by decide +kernel) (by decide +kernel), ⟨by decide +kernel, by decide +kernel, by decide +kernel⟩⟩
theorem mv_X12_274 : MVk RX12 274 yX10_step cX10_step 4 (some (.object "RootedFerry$Node")) 2 := ⟨TT_of (i := 808) (by decide +kernel) (by decide +kernel), TT_of (i := 647) (by decide +kernel) (by decide +kernel), TT_of (i := 648) (by decide +kernel) (by decide +kernel), TT_of (i := 73) (by decide +kernel) (by decide +kernel), TT_of (i := 649) (by decide +kernel) (by decide +kernel), ⟨by decide +kernel, by decide +kernel, by decide +kernel⟩⟩
theorem mv_X12_278 : MVk RX12 278 yX12_changeTo cX12_changeTo 3 (some .int) 2 := ⟨TT_of (i := 674) (by decide +kernel) (by decide +kernel), TT_of (i := 676) (by decide +kernel) (by decide +kernel), TT_of (i := 14) (by decide +kernel) (by decide +kernel), TT_of (i := 71) (by decide +kernel) (by decide +kernel), TT_of (i := 677) (by decide +kernel) (by decide +kernel), ⟨by decide +kernel, by decide +kernel, by decide +kernel⟩⟩
theorem mv_X12_282 : MVk RX12 282 yX12_chooseType cX12_chooseType 2 (some .int) 0 := ⟨TT_of (i := 809) (by decide +kernel) (by decide +kernel), TT_of (i := 811) (by decide +kernel) (by decide +kernel), TT_of (i := 33) (by decide +kernel) (by decide +kernel), TT_of (i := 71) (by decide +kernel) (by decide +kernel), TT_of (i := 812) (by decide +kernel) (by decide +kernel), ⟨by decide +kernel, by decide +kernel, by decide +kernel⟩⟩
theorem mv_X12_285 : MVk RX12 285 yX12_restart cX12_restart 1 (some .int) 0 := ⟨TT_of (i := 817) (by decide +kernel) (by decide +kernel), TT_of (i := 819) (by decide +kernel) (by decide +kernel), TT_of (i := 34) (by decide +kernel) (by decide +kernel), TT_of (i := 71) (by decide +kernel) (by decide +kernel), TT_of (i := 820) (by decide +kernel) (by decide +kernel), ⟨by decide +kernel, by decide +kernel, by decide +kernel⟩⟩
theorem mv_X12_291 : MVk RX12 291 yX12_abort cX12_abort 1 (some .int) 0 := ⟨TT_of (i := 823) (by decide +kernel) (by decide +kernel), TT_of (i := 825) (by decide +kernel) (by decide +kernel), TT_of (i := 35) (by decide +kernel) (by decide +kernel), TT_of (i := 71) (by decide +kernel) (by decide +kernel), TT_of (i := 826) (by decide +kernel) (by decide +kernel), ⟨by decide +kernel, by decide +kernel, by decide +kernel⟩⟩
theorem mv_X12_297 : MVk RX12 297 yX12_makeDirectory cX12_makeDirectory 2 (some .int) 0 := ⟨TT_of (i := 678) (by decide +kernel) (by decide +kernel), TT_of (i := 680) (by decide +kernel) (by decide +kernel), TT_of (i := 15) (by decide +kernel) (by decide +kernel), TT_of (i := 71) (by decide +kernel) (by decide +kernel), TT_of (i := 681) (by decide +kernel) (by decide +kernel), ⟨by decide +kernel, by decide +kernel, by decide +kernel⟩⟩
theorem mv_X12_300 : MVk RX12 300 yX12_removeDirectory cX12_removeDirectory 2 (some .int) 0 := ⟨TT_of (i := 697) (by decide +kernel) (by decide +kernel), TT_of (i := 699) (by decide +kernel) (by decide +kernel), TT_of (i := 18) (by decide +kernel) (by decide +kernel), TT_of (i := 71) (by decide +kernel) (by decide +kernel), TT_of (i := 700) (by decide +kernel) (by decide +kernel), ⟨by decide +kernel, by decide +kernel, by decide +kernel⟩⟩
theorem mv_X12_303 : MVk RX12 303 yX12_deleteFile cX12_deleteFile 2 (some .int) 0 := ⟨TT_of (i := 713) (by decide +kernel) (by decide +kernel), TT_of (i := 715) (by decide +kernel) (by decide +kernel), TT_of (i := 19) (by decide +kernel) (by decide +kernel), TT_of (i := 71) (by decide +kernel) (by decide +kernel), TT_of (i := 716) (by decide +kernel) (by decide +kernel), ⟨by decide +kernel, by decide +kernel, by decide +kernel⟩⟩
theorem mv_X12_306 : MVk RX12 306 yX12_tellSize cX12_tellSize 2 (some .int) 0 := ⟨TT_of (i := 717) (by decide +kernel) (by decide +kernel), TT_of (i := 719) (by decide +kernel) (by decide +kernel), TT_of (i := 20) (by decide +kernel) (by decide +kernel), TT_of (i := 71) (by decide +kernel) (by decide +kernel), TT_of (i := 720) (by decide +kernel) (by decide +kernel), ⟨by decide +kernel, by decide +kernel, by decide +kernel⟩⟩
theorem mv_X12_309 : MVk RX12 309 yX12_renameFrom cX12_renameFrom 1 (some .int) 0 := ⟨TT_of (i := 725) (by decide +kernel) (by decide +kernel), TT_of (i := 727) (by decide +kernel) (by decide +kernel), TT_of (i := 21) (by decide +kernel) (by decide +kernel), TT_of (i := 71) (by decide +kernel) (by decide +kernel), TT_of (i := 728) (by decide +kernel) (by decide +kernel), ⟨by decide +kernel, by decide +kernel, by decide +kernel⟩⟩
theorem mv_X12_312 : MVk RX12 312 yX12_renameTo cX12_renameTo 2 (some .int) 0 := ⟨TT_of (i := 729) (by decide +kernel) (by decide +kernel), TT_of (i := 731) (by decide +kernel) (by decide +kernel), TT_of (i := 22) (by decide +kernel) (by decide +kernel), TT_of (i := 71) (by decide +kernel) (by decide +kernel), TT_of (i := 732) (by decide +kernel) (by decide +kernel), ⟨by decide +kernel, by decide +kernel, by decide +kernel⟩⟩
theorem mv_X12_315 : MVk RX12 315 yX12_retrieve cX12_retrieve 2 (some .int) 0 := ⟨TT_of (i := 737) (by decide +kernel) (by decide +kernel), TT_of (i := 739) (by decide +kernel) (by decide +kernel), TT_of (i := 23) (by decide +kernel) (by decide +kernel), TT_of (i := 71) (by decide +kernel) (by decide +kernel), TT_of (i := 740) (by decide +kernel) (by decide +kernel), ⟨by decide +kernel, by decide +kernel, by decide +kernel⟩⟩
theorem mv_X12_318 : MVk RX12 318 yX12_takeFile cX12_takeFile 3 (some .int) 1 := ⟨TT_of (i := 757) (by decide +kernel) (by decide +kernel), TT_of (i := 759) (by decide +kernel) (by decide +kernel), TT_of (i := 26) (by decide +kernel) (by decide +kernel), TT_of (i := 71) (by decide +kernel) (by decide +kernel), TT_of (i := 760) (by decide +kernel) (by decide +kernel), ⟨by decide +kernel, by decide +kernel, by decide +kernel⟩⟩
theorem mv_X12_322 : MVk RX12 322 yX12_listNames cX12_listNames 2 (some .int) 0 := ⟨TT_of (i := 773) (by decide +kernel) (by decide +kernel), TT_of (i := 775) (by decide +kernel) (by decide +kernel), TT_of (i := 27) (by decide +kernel) (by decide +kernel), TT_of (i := 71) (by decide +kernel) (by decide +kernel), TT_of (i := 776) (by decide +kernel) (by decide +kernel), ⟨by decide +kernel, by decide +kernel, by decide +kernel⟩⟩
theorem mv_X12_341 : MVk RX12 341 yX10_isEmpty cX10_isEmpty 2 (some .boolean) 1 := ⟨TT_of (i := 701) (by decide +kernel) (by decide +kernel), TT_of (i := 702) (by decide +kernel) (by decide +kernel), TT_of (i := 703) (by decide +kernel) (by decide +kernel), TT_of (i := 73) (by decide +kernel) (by decide +kernel), TT_of (i := 704) (by decide +kernel) (by decide +kernel), ⟨by decide +kernel, by decide +kernel, by decide +kernel⟩⟩
theorem mv_X12_345 : MVk RX12 345 yX8_free cX8_free 1 none 0 := ⟨TT_of (i := 709) (by decide +kernel) (by decide +kernel), TT_of (i := 710) (by decide +kernel) (by decide +kernel), TT_of (i := 711) (by decide +kernel) (by decide +kernel), TT_of (i := 74) (by decide +kernel) (by decide +kernel), TT_of (i := 712) (by decide +kernel) (by decide +kernel), ⟨by decide +kernel, by decide +kernel, by decide +kernel⟩⟩
theorem mv_X12_350 : MVk RX12 350 yX6_spellNumber cX6_spellNumber 2 none 1 := ⟨TT_of (i := 721) (by decide +kernel) (by decide +kernel), TT_of (i := 722) (by decide +kernel) (by decide +kernel), TT_of (i := 723) (by decide +kernel) (by decide +kernel), TT_of (i := 79) (by decide +kernel) (by decide +kernel), TT_of (i := 724) (by decide +kernel) (by decide +kernel), ⟨by decide +kernel, by decide +kernel, by decide +kernel⟩⟩
theorem mv_X12_357 : MVk RX12 357 yX10_liesIn cX10_liesIn 5 (some .boolean) 2 := ⟨TT_of (i := 733) (by decide +kernel) (by decide +kernel), TT_of (i := 734) (by decide +kernel) (by decide +kernel), TT_of (i := 735) (by decide +kernel) (by decide +kernel), TT_of (i := 73) (by decide +kernel) (by decide +kernel), TT_of (i := 736) (by decide +kernel) (by decide +kernel), ⟨by decide +kernel, by decide +kernel, by decide +kernel⟩⟩
theorem mv_X12_367 : MVk RX12 367 yX4_argumentLength cX4_argumentLength 1 (some .int) 0 := ⟨TT_of (i := 813) (by decide +kernel) (by decide +kernel), TT_of (i := 592) (by decide +kernel) (by decide +kernel), TT_of (i := 593) (by decide +kernel) (by decide +kernel), TT_of (i := 72) (by decide +kernel) (by decide +kernel), TT_of (i := 594) (by decide +kernel) (by decide +kernel), ⟨by decide +kernel, by decide +kernel, by decide +kernel⟩⟩
theorem mv_X12_370 : MVk RX12 370 yX4_argumentStart cX4_argumentStart 1 (some .int) 0 := ⟨TT_of (i := 814) (by decide +kernel) (by decide +kernel), TT_of (i := 596) (by decide +kernel) (by decide +kernel), TT_of (i := 597) (by decide +kernel) (by decide +kernel), TT_of (i := 72) (by decide +kernel) (by decide +kernel), TT_of (i := 598) (by decide +kernel) (by decide +kernel), ⟨by decide +kernel, by decide +kernel, by decide +kernel⟩⟩
theorem mv_X12_373 : MVk RX12 373 yX4_at cX4_at 2 (some .char) 1 := ⟨TT_of (i := 815) (by decide +kernel) (by decide +kernel), TT_of (i := 537) (by decide +kernel) (by decide +kernel), TT_of (i := 538) (by decide +kernel) (by decide +kernel), TT_of (i := 72) (by decide +kernel) (by decide +kernel), TT_of (i := 539) (by decide +kernel) (by decide +kernel), ⟨by decide +kernel, by decide +kernel, by decide +kernel⟩⟩
theorem ms_X12_374 : MSk RX12 374 yX4_capital cX4_capital 1 (some .char) 1 := ⟨TT_of (i := 816) (by decide +kernel) (by decide +kernel), TT_of (i := 541) (by decide +kernel) (by decide +kernel), TT_of (i := 72) (by decide +kernel) (by decide +kernel), TT_of (i := 542) (by decide +kernel) (by decide +kernel), ⟨by decide +kernel, by decide +kernel, by decide +kernel⟩⟩
theorem mv_X12_380 : MVk RX12 380 yX12_dataConnects cX12_dataConnects 1 (some .boolean) 0 := ⟨TT_of (i := 741) (by decide +kernel) (by decide +kernel), TT_of (i := 743) (by decide +kernel) (by decide +kernel), TT_of (i := 24) (by decide +kernel) (by decide +kernel), TT_of (i := 71) (by decide +kernel) (by decide +kernel), TT_of (i := 744) (by decide +kernel) (by decide +kernel), ⟨by decide +kernel, by decide +kernel, by decide +kernel⟩⟩
theorem mv_X12_383 : MVk RX12 383 yX2_giveFile cX2_giveFile 5 none 3 := ⟨TT_of (i := 749) (by decide +kernel) (by decide +kernel), TT_of (i := 750) (by decide +kernel) (by decide +kernel), TT_of (i := 751) (by decide +kernel) (by decide +kernel), TT_of (i := 80) (by decide +kernel) (by decide +kernel), TT_of (i := 752) (by decide +kernel) (by decide +kernel), ⟨by decide +kernel, by decide +kernel, by decide +kernel⟩⟩
theorem mv_X12_387 : MVk RX12 387 yX2_giveNames cX2_giveNames 7 none 2 := ⟨TT_of (i := 777) (by decide +kernel) (by decide +kernel), TT_of (i := 778) (by decide +kernel) (by decide +kernel), TT_of (i := 779) (by decide +kernel) (by decide +kernel), TT_of (i := 80) (by decide +kernel) (by decide +kernel), TT_of (i := 780) (by decide +kernel) (by decide +kernel), ⟨by decide +kernel, by decide +kernel, by decide +kernel⟩⟩
theorem mv_X12_391 : MVk RX12 391 yX10_isFull cX10_isFull 1 (some .boolean) 0 := ⟨TT_of (i := 761) (by decide +kernel) (by decide +kernel), TT_of (i := 762) (by decide +kernel) (by decide +kernel), TT_of (i := 763) (by decide +kernel) (by decide +kernel), TT_of (i := 73) (by decide +kernel) (by decide +kernel), TT_of (i := 764) (by decide +kernel) (by decide +kernel), ⟨by decide +kernel, by decide +kernel, by decide +kernel⟩⟩
theorem mv_X12_394 : MVk RX12 394 yX2_startTaking cX2_startTaking 6 none 4 := ⟨TT_of (i := 769) (by decide +kernel) (by decide +kernel), TT_of (i := 770) (by decide +kernel) (by decide +kernel), TT_of (i := 771) (by decide +kernel) (by decide +kernel), TT_of (i := 80) (by decide +kernel) (by decide +kernel), TT_of (i := 772) (by decide +kernel) (by decide +kernel), ⟨by decide +kernel, by decide +kernel, by decide +kernel⟩⟩
theorem mv_X12_398 : MVk RX12 398 yX2_leaveOutReturns cX2_leaveOutReturns 4 none 0 := ⟨TT_of (i := 876) (by decide +kernel) (by decide +kernel), TT_of (i := 877) (by decide +kernel) (by decide +kernel), TT_of (i := 878) (by decide +kernel) (by decide +kernel), TT_of (i := 80) (by decide +kernel) (by decide +kernel), TT_of (i := 879) (by decide +kernel) (by decide +kernel), ⟨by decide +kernel, by decide +kernel, by decide +kernel⟩⟩
theorem ms_X13_67 : MSk RX13 67 yX13_fits cX13_fits 2 (some .boolean) 1 := ⟨TT_of (i := 1029) (by decide +kernel) (by decide +kernel), TT_of (i := 1030) (by decide +kernel) (by decide +kernel), TT_of (i := 84) (by decide +kernel) (by decide +kernel), TT_of (i := 1031) (by decide +kernel) (by decide +kernel), ⟨by decide +kernel, by decide +kernel, by decide +kernel⟩⟩
theorem mv_X13_71 : MVk RX13 71 yX13_isDots cX13_isDots 5 (some .int) 2 := ⟨TT_of (i := 1097) (by decide +kernel) (by decide +kernel), TT_of (i := 1099) (by decide +kernel) (by decide +kernel), TT_of (i := 44) (by decide +kernel) (by decide +kernel), TT_of (i := 84) (by decide +kernel) (by decide +kernel), TT_of (i := 1100) (by decide +kernel) (by decide +kernel), ⟨by decide +kernel, by decide +kernel, by decide +kernel⟩⟩
theorem mv_X13_81 : MVk RX13 81 yX13_endOfPart cX13_endOfPart 3 (some .int) 1 := ⟨TT_of (i := 1122) (by decide +kernel) (by decide +kernel), TT_of (i := 1124) (by decide +kernel) (by decide +kernel), TT_of (i := 50) (by decide +kernel) (by decide +kernel), TT_of (i := 84) (by decide +kernel) (by decide +kernel), TT_of (i := 1125) (by decide +kernel) (by decide +kernel), ⟨by decide +kernel, by decide +kernel, by decide +kernel⟩⟩
theorem mv_X13_85 : MVk RX13 85 yX13_nameAt cX13_nameAt 7 (some .long) 2 := ⟨TT_of (i := 1093) (by decide +kernel) (by decide +kernel), TT_of (i := 1095) (by decide +kernel) (by decide +kernel), TT_of (i := 43) (by decide +kernel) (by decide +kernel), TT_of (i := 84) (by decide +kernel) (by decide +kernel), TT_of (i := 1096) (by decide +kernel) (by decide +kernel), ⟨by decide +kernel, by decide +kernel, by decide +kernel⟩⟩
theorem mv_X13_89 : MVk RX13 89 yX13_child cX13_child 5 (some .int) 2 := ⟨TT_of (i := 1158) (by decide +kernel) (by decide +kernel), TT_of (i := 1160) (by decide +kernel) (by decide +kernel), TT_of (i := 59) (by decide +kernel) (by decide +kernel), TT_of (i := 84) (by decide +kernel) (by decide +kernel), TT_of (i := 1161) (by decide +kernel) (by decide +kernel), ⟨by decide +kernel, by decide +kernel, by decide +kernel⟩⟩
theorem mv_X13_96 : MVk RX13 96 yX13_go cX13_go 5 (some .int) 3 := ⟨TT_of (i := 1154) (by decide +kernel) (by decide +kernel), TT_of (i := 1156) (by decide +kernel) (by decide +kernel), TT_of (i := 58) (by decide +kernel) (by decide +kernel), TT_of (i := 84) (by decide +kernel) (by decide +kernel), TT_of (i := 1157) (by decide +kernel) (by decide +kernel), ⟨by decide +kernel, by decide +kernel, by decide +kernel⟩⟩
theorem mv_X13_104 : MVk RX13 104 yX13_lead cX13_lead 5 (some .int) 1 := ⟨TT_of (i := 1150) (by decide +kernel) (by decide +kernel), TT_of (i := 1152) (by decide +kernel) (by decide +kernel), TT_of (i := 57) (by decide +kernel) (by decide +kernel), TT_of (i := 84) (by decide +kernel) (by decide +kernel), TT_of (i := 1153) (by decide +kernel) (by decide +kernel), ⟨by decide +kernel, by decide +kernel, by decide +kernel⟩⟩
theorem ms_X13_112 : MSk RX13 112 yX13_nameOf cX13_nameOf 9 (some .long) 1 := ⟨TT_of (i := 1025) (by decide +kernel) (by decide +kernel), TT_of (i := 1026) (by decide +kernel) (by decide +kernel), TT_of (i := 84) (by decide +kernel) (by decide +kernel), TT_of (i := 1027) (by decide +kernel) (by decide +kernel), ⟨by decide +kernel, by decide +kernel, by decide +kernel⟩⟩
theorem mv_X13_119 : MVk RX13 119 yX13_freeNode cX13_freeNode 2 (some .int) 0 := ⟨TT_of (i := 1038) (by decide +kernel) (by decide +kernel), TT_of (i := 1040) (by decide +kernel) (by decide +kernel), TT_of (i := 37) (by decide +kernel) (by decide +kernel), TT_of (i := 84) (by decide +kernel) (by decide +kernel), TT_of (i := 1041) (by decide +kernel) (by decide +kernel), ⟨by decide +kernel, by decide +kernel, by decide +kernel⟩⟩
theorem mv_X13_127 : MVk RX13 127 yX13_make cX13_make 6 none 4 := ⟨TT_of (i := 1042) (by decide +kernel) (by decide +kernel), TT_of (i := 1044) (by decide +kernel) (by decide +kernel), TT_of (i := 38) (by decide +kernel) (by decide +kernel), TT_of (i := 84) (by decide +kernel) (by decide +kernel), TT_of (i := 1045) (by decide +kernel) (by decide +kernel), ⟨by decide +kernel, by decide +kernel, by decide +kernel⟩⟩
theorem mv_X13_149 : MVk RX13 149 yX13_say cX13_say 2 (some .int) 1 := ⟨TT_of (i := 1050) (by decide +kernel) (by decide +kernel), TT_of (i := 1052) (by decide +kernel) (by decide +kernel), TT_of (i := 39) (by decide +kernel) (by decide +kernel), TT_of (i := 84) (by decide +kernel) (by decide +kernel), TT_of (i := 1053) (by decide +kernel) (by decide +kernel), ⟨by decide +kernel, by decide +kernel, by decide +kernel⟩⟩
theorem mv_X13_152 : MVk RX13 152 yX13_type cX13_type 2 (some .boolean) 1 := ⟨TT_of (i := 1062) (by decide +kernel) (by decide +kernel), TT_of (i := 1055) (by decide +kernel) (by decide +kernel), TT_of (i := 1056) (by decide +kernel) (by decide +kernel), TT_of (i := 84) (by decide +kernel) (by decide +kernel), TT_of (i := 1057) (by decide +kernel) (by decide +kernel), ⟨by decide +kernel, by decide +kernel, by decide +kernel⟩⟩
theorem ms_X13_156 : MSk RX13 156 yX13_pack cX13_pack 4 (some .int) 4 := ⟨TT_of (i := 1086) (by decide +kernel) (by decide +kernel), TT_of (i := 1087) (by decide +kernel) (by decide +kernel), TT_of (i := 84) (by decide +kernel) (by decide +kernel), TT_of (i := 1088) (by decide +kernel) (by decide +kernel), ⟨by decide +kernel, by decide +kernel, by decide +kernel⟩⟩
theorem mv_X13_160 : MVk RX13 160 yX13_isDigit cX13_isDigit 2 (some .boolean) 1 := ⟨TT_of (i := 1105) (by decide +kernel) (by decide +kernel), TT_of (i := 1107) (by decide +kernel) (by decide +kernel), TT_of (i := 46) (by decide +kernel) (by decide +kernel), TT_of (i := 84) (by decide +kernel) (by decide +kernel), TT_of (i := 1108) (by decide +kernel) (by decide +kernel), ⟨by decide +kernel, by decide +kernel, by decide +kernel⟩⟩
theorem mv_X13_164 : MVk RX13 164 yX13_digitsFrom cX13_digitsFrom 3 (some .int) 1 := ⟨TT_of (i := 1101) (by decide +kernel) (by decide +kernel), TT_of (i := 1103) (by decide +kernel) (by decide +kernel), TT_of (i := 45) (by decide +kernel) (by decide +kernel), TT_of (i := 84) (by decide +kernel) (by decide +kernel), TT_of (i := 1104) (by decide +kernel) (by decide +kernel), ⟨by decide +kernel, by decide +kernel, by decide +kernel⟩⟩
theorem mv_X13_167 : MVk RX13 167 yX13_numberAt cX13_numberAt 5 (some .int) 2 := ⟨TT_of (i := 1113) (by decide +kernel) (by decide +kernel), TT_of (i := 1115) (by decide +kernel) (by decide +kernel), TT_of (i := 48) (by decide +kernel) (by decide +kernel), TT_of (i := 84) (by decide +kernel) (by decide +kernel), TT_of (i := 1116) (by decide +kernel) (by decide +kernel), ⟨by decide +kernel, by decide +kernel, by decide +kernel⟩⟩
theorem mv_X13_171 : MVk RX13 171 yX13_portTold cX13_portTold 5 (some .int) 0 := ⟨TT_of (i := 1109) (by decide +kernel) (by decide +kernel), TT_of (i := 1111) (by decide +kernel) (by decide +kernel), TT_of (i := 47) (by decide +kernel) (by decide +kernel), TT_of (i := 84) (by decide +kernel) (by decide +kernel), TT_of (i := 1112) (by decide +kernel) (by decide +kernel), ⟨by decide +kernel, by decide +kernel, by decide +kernel⟩⟩
theorem mv_X13_174 : MVk RX13 174 yX13_isPath cX13_isPath 4 (some .boolean) 0 := ⟨TT_of (i := 1118) (by decide +kernel) (by decide +kernel), TT_of (i := 1120) (by decide +kernel) (by decide +kernel), TT_of (i := 49) (by decide +kernel) (by decide +kernel), TT_of (i := 84) (by decide +kernel) (by decide +kernel), TT_of (i := 1121) (by decide +kernel) (by decide +kernel), ⟨by decide +kernel, by decide +kernel, by decide +kernel⟩⟩
theorem mv_X13_187 : MVk RX13 187 yX13_run cX13_run 3 (some .int) 0 := ⟨TT_of (i := 1075) (by decide +kernel) (by decide +kernel), TT_of (i := 1077) (by decide +kernel) (by decide +kernel), TT_of (i := 40) (by decide +kernel) (by decide +kernel), TT_of (i := 84) (by decide +kernel) (by decide +kernel), TT_of (i := 1078) (by decide +kernel) (by decide +kernel), ⟨by decide +kernel, by decide +kernel, by decide +kernel⟩⟩
theorem mv_X13_190 : MVk RX13 190 yX13_readLetters cX13_readLetters 4 (some .int) 0 := ⟨TT_of (i := 1079) (by decide +kernel) (by decide +kernel), TT_of (i := 1081) (by decide +kernel) (by decide +kernel), TT_of (i := 41) (by decide +kernel) (by decide +kernel), TT_of (i := 84) (by decide +kernel) (by decide +kernel), TT_of (i := 1082) (by decide +kernel) (by decide +kernel), ⟨by decide +kernel, by decide +kernel, by decide +kernel⟩⟩
theorem ms_X13_193 : MSk RX13 193 yX13_commandOf cX13_commandOf 4 (some .int) 1 := ⟨TT_of (i := 1083) (by decide +kernel) (by decide +kernel), TT_of (i := 1084) (by decide +kernel) (by decide +kernel), TT_of (i := 84) (by decide +kernel) (by decide +kernel), TT_of (i := 1085) (by decide +kernel) (by decide +kernel), ⟨by decide +kernel, by decide +kernel, by decide +kernel⟩⟩
theorem mv_X13_196 : MVk RX13 196 yX13_argumentFits cX13_argumentFits 4 (some .boolean) 1 := ⟨TT_of (i := 1089) (by decide +kernel) (by decide +kernel), TT_of (i := 1091) (by decide +kernel) (by decide +kernel), TT_of (i := 42) (by decide +kernel) (by decide +kernel), TT_of (i := 84) (by decide +kernel) (by decide +kernel), TT_of (i := 1092) (by decide +kernel) (by decide +kernel), ⟨by decide +kernel, by decide +kernel, by decide +kernel⟩⟩
theorem mv_X13_202 : MVk RX13 202 yX13_enterAs cX13_enterAs 3 (some .int) 1 := ⟨TT_of (i := 1126) (by decide +kernel) (by decide +kernel), TT_of (i := 1128) (by decide +kernel) (by decide +kernel), TT_of (i := 51) (by decide +kernel) (by decide +kernel), TT_of (i := 84) (by decide +kernel) (by decide +kernel), TT_of (i := 1129) (by decide +kernel) (by decide +kernel), ⟨by decide +kernel, by decide +kernel, by decide +kernel⟩⟩
theorem mv_X13_205 : MVk RX13 205 yX13_change cX13_change 5 (some .int) 1 := ⟨TT_of (i := 1130) (by decide +kernel) (by decide +kernel), TT_of (i := 1132) (by decide +kernel) (by decide +kernel), TT_of (i := 52) (by decide +kernel) (by decide +kernel), TT_of (i := 84) (by decide +kernel) (by decide +kernel), TT_of (i := 1133) (by decide +kernel) (by decide +kernel), ⟨by decide +kernel, by decide +kernel, by decide +kernel⟩⟩
theorem mv_X13_208 : MVk RX13 208 yX13_prepare cX13_prepare 4 (some .int) 1 := ⟨TT_of (i := 1178) (by decide +kernel) (by decide +kernel), TT_of (i := 1180) (by decide +kernel) (by decide +kernel), TT_of (i := 64) (by decide +kernel) (by decide +kernel), TT_of (i := 84) (by decide +kernel) (by decide +kernel), TT_of (i := 1181) (by decide +kernel) (by decide +kernel), ⟨by decide +kernel, by decide +kernel, by decide +kernel⟩⟩
theorem mv_X13_211 : MVk RX13 211 yX13_transferBy cX13_transferBy 3 (some .int) 1 := ⟨TT_of (i := 1182) (by decide +kernel) (by decide +kernel), TT_of (i := 1184) (by decide +kernel) (by decide +kernel), TT_of (i := 65) (by decide +kernel) (by decide +kernel), TT_of (i := 84) (by decide +kernel) (by decide +kernel), TT_of (i := 1185) (by decide +kernel) (by decide +kernel), ⟨by decide +kernel, by decide +kernel, by decide +kernel⟩⟩
theorem mv_X13_214 : MVk RX13 214 yX13_write cX13_write 2 none 1 := ⟨TT_of (i := 1138) (by decide +kernel) (by decide +kernel), TT_of (i := 1140) (by decide +kernel) (by decide +kernel), TT_of (i := 54) (by decide +kernel) (by decide +kernel), TT_of (i := 84) (by decide +kernel) (by decide +kernel), TT_of (i := 1141) (by decide +kernel) (by decide +kernel), ⟨by decide +kernel, by decide +kernel, by decide +kernel⟩⟩
theorem mv_X13_218 : MVk RX13 218 yX13_findPlace cX13_findPlace 2 (some .boolean) 0 := ⟨TT_of (i := 1146) (by decide +kernel) (by decide +kernel), TT_of (i := 1148) (by decide +kernel) (by decide +kernel), TT_of (i := 56) (by decide +kernel) (by decide +kernel), TT_of (i := 84) (by decide +kernel) (by decide +kernel), TT_of (i := 1149) (by decide +kernel) (by decide +kernel), ⟨by decide +kernel, by decide +kernel, by decide +kernel⟩⟩
theorem mv_X13_221 : MVk RX13 221 yX13_writeWay cX13_writeWay 5 none 1 := ⟨TT_of (i := 1134) (by decide +kernel) (by decide +kernel), TT_of (i := 1136) (by decide +kernel) (by decide +kernel), TT_of (i := 53) (by decide +kernel) (by decide +kernel), TT_of (i := 84) (by decide +kernel) (by decide +kernel), TT_of (i := 1137) (by decide +kernel) (by decide +kernel), ⟨by decide +kernel, by decide +kernel, by decide +kernel⟩⟩
theorem mv_X13_224 : MVk RX13 224 yX13_liesIn cX13_liesIn 4 (some .boolean) 2 := ⟨TT_of (i := 1166) (by decide +kernel) (by decide +kernel), TT_of (i := 1168) (by decide +kernel) (by decide +kernel), TT_of (i := 61) (by decide +kernel) (by decide +kernel), TT_of (i := 84) (by decide +kernel) (by decide +kernel), TT_of (i := 1169) (by decide +kernel) (by decide +kernel), ⟨by decide +kernel, by decide +kernel, by decide +kernel⟩⟩
theorem mv_X13_228 : MVk RX13 228 yX13_makeDirectory cX13_makeDirectory 2 (some .int) 0 := ⟨TT_of (i := 1142) (by decide +kernel) (by decide +kernel), TT_of (i := 1144) (by decide +kernel) (by decide +kernel), TT_of (i := 55) (by decide +kernel) (by decide +kernel), TT_of (i := 84) (by decide +kernel) (by decide +kernel), TT_of (i := 1145) (by decide +kernel) (by decide +kernel), ⟨by decide +kernel, by decide +kernel, by decide +kernel⟩⟩
theorem mv_X13_231 : MVk RX13 231 yX13_rename cX13_rename 2 (some .int) 0 := ⟨TT_of (i := 1162) (by decide +kernel) (by decide +kernel), TT_of (i := 1164) (by decide +kernel) (by decide +kernel), TT_of (i := 60) (by decide +kernel) (by decide +kernel), TT_of (i := 84) (by decide +kernel) (by decide +kernel), TT_of (i := 1165) (by decide +kernel) (by decide +kernel), ⟨by decide +kernel, by decide +kernel, by decide +kernel⟩⟩
theorem mv_X13_234 : MVk RX13 234 yX13_isEmpty cX13_isEmpty 4 (some .boolean) 1 := ⟨TT_of (i := 1170) (by decide +kernel) (by decide +kernel), TT_of (i := 1172) (by decide +kernel) (by decide +kernel), TT_of (i := 62) (by decide +kernel) (by decide +kernel), TT_of (i := 84) (by decide +kernel) (by decide +kernel), TT_of (i := 1173) (by decide +kernel) (by decide +kernel), ⟨by decide +kernel, by decide +kernel, by decide +kernel⟩⟩
theorem mv_X13_237 : MVk RX13 237 yX13_sizeTold cX13_sizeTold 3 (some .int) 1 := ⟨TT_of (i := 1174) (by decide +kernel) (by decide +kernel), TT_of (i := 1176) (by decide +kernel) (by decide +kernel), TT_of (i := 63) (by decide +kernel) (by decide +kernel), TT_of (i := 84) (by decide +kernel) (by decide +kernel), TT_of (i := 1177) (by decide +kernel) (by decide +kernel), ⟨by decide +kernel, by decide +kernel, by decide +kernel⟩⟩
theorem mv_X13_255 : MVk RX13 255 yX13_loadFile cX13_loadFile 3 none 1 := ⟨TT_of (i := 1186) (by decide +kernel) (by decide +kernel), TT_of (i := 1188) (by decide +kernel) (by decide +kernel), TT_of (i := 66) (by decide +kernel) (by decide +kernel), TT_of (i := 84) (by decide +kernel) (by decide +kernel), TT_of (i := 1189) (by decide +kernel) (by decide +kernel), ⟨by decide +kernel, by decide +kernel, by decide +kernel⟩⟩
theorem mv_X13_258 : MVk RX13 258 yX13_loadNames cX13_loadNames 9 none 1 := ⟨TT_of (i := 1194) (by decide +kernel) (by decide +kernel), TT_of (i := 1196) (by decide +kernel) (by decide +kernel), TT_of (i := 68) (by decide +kernel) (by decide +kernel), TT_of (i := 84) (by decide +kernel) (by decide +kernel), TT_of (i := 1197) (by decide +kernel) (by decide +kernel), ⟨by decide +kernel, by decide +kernel, by decide +kernel⟩⟩
theorem mv_X13_261 : MVk RX13 261 yX13_put cX13_put 2 none 1 := ⟨TT_of (i := 1190) (by decide +kernel) (by decide +kernel), TT_of (i := 1192) (by decide +kernel) (by decide +kernel), TT_of (i := 67) (by decide +kernel) (by decide +kernel), TT_of (i := 84) (by decide +kernel) (by decide +kernel), TT_of (i := 1193) (by decide +kernel) (by decide +kernel), ⟨by decide +kernel, by decide +kernel, by decide +kernel⟩⟩
theorem mv_X13_266 : MVk RX13 266 yX13_staying cX13_staying 4 (some .int) 0 := ⟨TT_of (i := 1219) (by decide +kernel) (by decide +kernel), TT_of (i := 1221) (by decide +kernel) (by decide +kernel), TT_of (i := 69) (by decide +kernel) (by decide +kernel), TT_of (i := 84) (by decide +kernel) (by decide +kernel), TT_of (i := 1222) (by decide +kernel) (by decide +kernel), ⟨by decide +kernel, by decide +kernel, by decide +kernel⟩⟩
theorem mv_X13_269 : MVk RX13 269 yX13_bytes cX13_bytes 3 (some .int) 0 := ⟨TT_of (i := 1223) (by decide +kernel) (by decide +kernel), TT_of (i := 1018) (by decide +kernel) (by decide +kernel), TT_of (i := 1019) (by decide +kernel) (by decide +kernel), TT_of (i := 84) (by decide +kernel) (by decide +kernel), TT_of (i := 1020) (by decide +kernel) (by decide +kernel), ⟨by decide +kernel, by decide +kernel, by decide +kernel⟩⟩
theorem mv_X2_52 : MVk RX2 52 yX2_add cX2_add 2 none 1 := ⟨TT_of (i := 753) (by decide +kernel) (by decide +kernel), TT_of (i := 755) (by decide +kernel) (by decide +kernel), TT_of (i := 25) (by decide +kernel) (by decide +kernel), TT_of (i := 80) (by decide +kernel) (by decide +kernel), TT_of (i := 756) (by decide +kernel) (by decide +kernel), ⟨by decide +kernel, by decide +kernel, by decide +kernel⟩⟩
theorem mv_X2_56 : MVk RX2 56 yX10_nextName cX10_nextName 10 (some .long) 2 := ⟨TT_of (i := 781) (by decide +kernel) (by decide +kernel), TT_of (i := 706) (by decide +kernel) (by decide +kernel), TT_of (i := 707) (by decide +kernel) (by decide +kernel), TT_of (i := 73) (by decide +kernel) (by decide +kernel), TT_of (i := 708) (by decide +kernel) (by decide +kernel), ⟨by decide +kernel, by decide +kernel, by decide +kernel⟩⟩
theorem ms_X2_60 : MSk RX2 60 yX7_signOf cX7_signOf 3 (some .int) 2 := ⟨TT_of (i := 782) (by decide +kernel) (by decide +kernel), TT_of (i := 691) (by decide +kernel) (by decide +kernel), TT_of (i := 85) (by decide +kernel) (by decide +kernel), TT_of (i := 692) (by decide +kernel) (by decide +kernel), ⟨by decide +kernel, by decide +kernel, by decide +kernel⟩⟩
theorem mv_X4_19 : MVk RX4 19 yX4_commandLength cX4_commandLength 2 (some .int) 0 := ⟨TT_of (i := 522) (by decide +kernel) (by decide +kernel), TT_of (i := 524) (by decide +kernel) (by decide +kernel), TT_of (i := 7) (by decide +kernel) (by decide +kernel), TT_of (i := 72) (by decide +kernel) (by decide +kernel), TT_of (i := 525) (by decide +kernel) (by decide +kernel), ⟨by decide +kernel, by decide +kernel, by decide +kernel⟩⟩
theorem mv_X4_23 : MVk RX4 23 yJ0_length_8abf5 cJ0_length_8abf5 1 (some .int) 0 := ⟨TT_of (i := 526) (by decide +kernel) (by decide +kernel), TT_of (i := 527) (by decide +kernel) (by decide +kernel), TT_of (i := 528) (by decide +kernel) (by decide +kernel), TT_of (i := 93) (by decide +kernel) (by decide +kernel), TT_of (i := 529) (by decide +kernel) (by decide +kernel), ⟨by decide +kernel, by decide +kernel, by decide +kernel⟩⟩
theorem mv_X4_27 : MVk RX4 27 yX4_at cX4_at 2 (some .char) 1 := ⟨TT_of (i := 536) (by decide +kernel) (by decide +kernel), TT_of (i := 537) (by decide +kernel) (by decide +kernel), TT_of (i := 538) (by decide +kernel) (by decide +kernel), TT_of (i := 72) (by decide +kernel) (by decide +kernel), TT_of (i := 539) (by decide +kernel) (by decide +kernel), ⟨by decide +kernel, by decide +kernel, by decide +kernel⟩⟩
theorem ms_X4_31 : MSk RX4 31 yX4_capital cX4_capital 1 (some .char) 1 := ⟨TT_of (i := 540) (by decide +kernel) (by decide +kernel), TT_of (i := 541) (by decide +kernel) (by decide +kernel), TT_of (i := 72) (by decide +kernel) (by decide +kernel), TT_of (i := 542) (by decide +kernel) (by decide +kernel), ⟨by decide +kernel, by decide +kernel, by decide +kernel⟩⟩
theorem mv_X4_35 : MVk RX4 35 yJ0_charAt_5068e cJ0_charAt_5068e 2 (some .char) 1 := ⟨TT_of (i := 543) (by decide +kernel) (by decide +kernel), TT_of (i := 544) (by decide +kernel) (by decide +kernel), TT_of (i := 545) (by decide +kernel) (by decide +kernel), TT_of (i := 93) (by decide +kernel) (by decide +kernel), TT_of (i := 546) (by decide +kernel) (by decide +kernel), ⟨by decide +kernel, by decide +kernel, by decide +kernel⟩⟩
theorem mv_X4_38 : MVk RX4 38 yX4_argumentLength cX4_argumentLength 1 (some .int) 0 := ⟨TT_of (i := 591) (by decide +kernel) (by decide +kernel), TT_of (i := 592) (by decide +kernel) (by decide +kernel), TT_of (i := 593) (by decide +kernel) (by decide +kernel), TT_of (i := 72) (by decide +kernel) (by decide +kernel), TT_of (i := 594) (by decide +kernel) (by decide +kernel), ⟨by decide +kernel, by decide +kernel, by decide +kernel⟩⟩
theorem mv_X4_41 : MVk RX4 41 yX4_argumentStart cX4_argumentStart 1 (some .int) 0 := ⟨TT_of (i := 595) (by decide +kernel) (by decide +kernel), TT_of (i := 596) (by decide +kernel) (by decide +kernel), TT_of (i := 597) (by decide +kernel) (by decide +kernel), TT_of (i := 72) (by decide +kernel) (by decide +kernel), TT_of (i := 598) (by decide +kernel) (by decide +kernel), ⟨by decide +kernel, by decide +kernel, by decide +kernel⟩⟩
theorem ms_X4_44 : MSk RX4 44 yX7_partOfLine cX7_partOfLine 6 (some .long) 3 := ⟨TT_of (i := 607) (by decide +kernel) (by decide +kernel), TT_of (i := 608) (by decide +kernel) (by decide +kernel), TT_of (i := 85) (by decide +kernel) (by decide +kernel), TT_of (i := 609) (by decide +kernel) (by decide +kernel), ⟨by decide +kernel, by decide +kernel, by decide +kernel⟩⟩
theorem ms_X4_50 : MSk RX4 50 yX7_withoutDots cX7_withoutDots 2 (some .long) 1 := ⟨TT_of (i := 612) (by decide +kernel) (by decide +kernel), TT_of (i := 362) (by decide +kernel) (by decide +kernel), TT_of (i := 85) (by decide +kernel) (by decide +kernel), TT_of (i := 363) (by decide +kernel) (by decide +kernel), ⟨by decide +kernel, by decide +kernel, by decide +kernel⟩⟩
theorem mv_X4_54 : MVk RX4 54 yX4_number cX4_number 6 (some .int) 2 := ⟨TT_of (i := 633) (by decide +kernel) (by decide +kernel), TT_of (i := 635) (by decide +kernel) (by decide +kernel), TT_of (i := 10) (by decide +kernel) (by decide +kernel), TT_of (i := 72) (by decide +kernel) (by decide +kernel), TT_of (i := 636) (by decide +kernel) (by decide +kernel), ⟨by decide +kernel, by decide +kernel, by decide +kernel⟩⟩
theorem mv_X5_23 : MVk RX5 23 yX5_clear cX5_clear 1 none 0 := ⟨TT_of (i := 507) (by decide +kernel) (by decide +kernel), TT_of (i := 483) (by decide +kernel) (by decide +kernel), TT_of (i := 484) (by decide +kernel) (by decide +kernel), TT_of (i := 81) (by decide +kernel) (by decide +kernel), TT_of (i := 485) (by decide +kernel) (by decide +kernel), ⟨by decide +kernel, by decide +kernel, by decide +kernel⟩⟩
theorem mv_X6_31 : MVk RX6 31 yX6_putName cX6_putName 5 none 1 := ⟨TT_of (i := 686) (by decide +kernel) (by decide +kernel), TT_of (i := 688) (by decide +kernel) (by decide +kernel), TT_of (i := 16) (by decide +kernel) (by decide +kernel), TT_of (i := 79) (by decide +kernel) (by decide +kernel), TT_of (i := 689) (by decide +kernel) (by decide +kernel), ⟨by decide +kernel, by decide +kernel, by decide +kernel⟩⟩
theorem mv_X6_35 : MVk RX6 35 yX6_putBefore cX6_putBefore 2 none 1 := ⟨TT_of (i := 693) (by decide +kernel) (by decide +kernel), TT_of (i := 695) (by decide +kernel) (by decide +kernel), TT_of (i := 17) (by decide +kernel) (by decide +kernel), TT_of (i := 79) (by decide +kernel) (by decide +kernel), TT_of (i := 696) (by decide +kernel) (by decide +kernel), ⟨by decide +kernel, by decide +kernel, by decide +kernel⟩⟩
theorem ms_X6_39 : MSk RX6 39 yX7_signOf cX7_signOf 3 (some .int) 2 := ⟨TT_of (i := 690) (by decide +kernel) (by decide +kernel), TT_of (i := 691) (by decide +kernel) (by decide +kernel), TT_of (i := 85) (by decide +kernel) (by decide +kernel), TT_of (i := 692) (by decide +kernel) (by decide +kernel), ⟨by decide +kernel, by decide +kernel, by decide +kernel⟩⟩
theorem ms_X7_11 : MSk RX7 11 yX7_isSign cX7_isSign 1 (some .boolean) 1 := ⟨TT_of (i := 358) (by decide +kernel) (by decide +kernel), TT_of (i := 359) (by decide +kernel) (by decide +kernel), TT_of (i := 85) (by decide +kernel) (by decide +kernel), TT_of (i := 360) (by decide +kernel) (by decide +kernel), ⟨by decide +kernel, by decide +kernel, by decide +kernel⟩⟩
theorem mv_X7_15 : MVk RX7 15 yX4_at cX4_at 2 (some .char) 1 := ⟨TT_of (i := 610) (by decide +kernel) (by decide +kernel), TT_of (i := 537) (by decide +kernel) (by decide +kernel), TT_of (i := 538) (by decide +kernel) (by decide +kernel), TT_of (i := 72) (by decide +kernel) (by decide +kernel), TT_of (i := 539) (by decide +kernel) (by decide +kernel), ⟨by decide +kernel, by decide +kernel, by decide +kernel⟩⟩
theorem ms_X7_21 : MSk RX7 21 yX7_partOfWord cX7_partOfWord 6 (some .long) 1 := ⟨TT_of (i := 611) (by decide +kernel) (by decide +kernel), TT_of (i := 355) (by decide +kernel) (by decide +kernel), TT_of (i := 85) (by decide +kernel) (by decide +kernel), TT_of (i := 356) (by decide +kernel) (by decide +kernel), ⟨by decide +kernel, by decide +kernel, by decide +kernel⟩⟩
theorem ms_X7_29 : MSk RX7 29 yX7_isDots cX7_isDots 2 (some .boolean) 1 := ⟨TT_of (i := 364) (by decide +kernel) (by decide +kernel), TT_of (i := 365) (by decide +kernel) (by decide +kernel), TT_of (i := 85) (by decide +kernel) (by decide +kernel), TT_of (i := 366) (by decide +kernel) (by decide +kernel), ⟨by decide +kernel, by decide +kernel, by decide +kernel⟩⟩
theorem mv_X9_37 : MVk RX9 37 yX9_stay cX9_stay 1 none 0 := ⟨TT_of (i := 617) (by decide +kernel) (by decide +kernel), TT_of (i := 600) (by decide +kernel) (by decide +kernel), TT_of (i := 601) (by decide +kernel) (by decide +kernel), TT_of (i := 78) (by decide +kernel) (by decide +kernel), TT_of (i := 602) (by decide +kernel) (by decide +kernel), ⟨by decide +kernel, by decide +kernel, by decide +kernel⟩⟩
theorem mv_X9_40 : MVk RX9 40 yX4_argumentStart cX4_argumentStart 1 (some .int) 0 := ⟨TT_of (i := 618) (by decide +kernel) (by decide +kernel), TT_of (i := 596) (by decide +kernel) (by decide +kernel), TT_of (i := 597) (by decide +kernel) (by decide +kernel), TT_of (i := 72) (by decide +kernel) (by decide +kernel), TT_of (i := 598) (by decide +kernel) (by decide +kernel), ⟨by decide +kernel, by decide +kernel, by decide +kernel⟩⟩
theorem mv_X9_46 : MVk RX9 46 yX4_length cX4_length 1 (some .int) 0 := ⟨TT_of (i := 619) (by decide +kernel) (by decide +kernel), TT_of (i := 620) (by decide +kernel) (by decide +kernel), TT_of (i := 621) (by decide +kernel) (by decide +kernel), TT_of (i := 72) (by decide +kernel) (by decide +kernel), TT_of (i := 622) (by decide +kernel) (by decide +kernel), ⟨by decide +kernel, by decide +kernel, by decide +kernel⟩⟩
theorem mv_X9_49 : MVk RX9 49 yX4_at cX4_at 2 (some .char) 1 := ⟨TT_of (i := 623) (by decide +kernel) (by decide +kernel), TT_of (i := 537) (by decide +kernel) (by decide +kernel), TT_of (i := 538) (by decide +kernel) (by decide +kernel), TT_of (i := 72) (by decide +kernel) (by decide +kernel), TT_of (i := 539) (by decide +kernel) (by decide +kernel), ⟨by decide +kernel, by decide +kernel, by decide +kernel⟩⟩
theorem ms_X9_53 : MSk RX9 53 yX7_partOfLine cX7_partOfLine 6 (some .long) 3 := ⟨TT_of (i := 624) (by decide +kernel) (by decide +kernel), TT_of (i := 608) (by decide +kernel) (by decide +kernel), TT_of (i := 85) (by decide +kernel) (by decide +kernel), TT_of (i := 609) (by decide +kernel) (by decide +kernel), ⟨by decide +kernel, by decide +kernel, by decide +kernel⟩⟩
theorem mv_X9_57 : MVk RX9 57 yX9_addPart cX9_addPart 3 (some .boolean) 1 := ⟨TT_of (i := 625) (by decide +kernel) (by decide +kernel), TT_of (i := 627) (by decide +kernel) (by decide +kernel), TT_of (i := 9) (by decide +kernel) (by decide +kernel), TT_of (i := 78) (by decide +kernel) (by decide +kernel), TT_of (i := 628) (by decide +kernel) (by decide +kernel), ⟨by decide +kernel, by decide +kernel, by decide +kernel⟩⟩
theorem mv_X9_61 : MVk RX9 61 yX10_step cX10_step 4 (some (.object "RootedFerry$Node")) 2 := ⟨TT_of (i := 646) (by decide +kernel) (by decide +kernel), TT_of (i := 647) (by decide +kernel) (by decide +kernel), TT_of (i := 648) (by decide +kernel) (by decide +kernel), TT_of (i := 73) (by decide +kernel) (by decide +kernel), TT_of (i := 649) (by decide +kernel) (by decide +kernel), ⟨by decide +kernel, by decide +kernel, by decide +kernel⟩⟩
theorem mv_X9_67 : MVk RX9 67 yX9_findPlace cX9_findPlace 2 none 1 := ⟨TT_of (i := 656) (by decide +kernel) (by decide +kernel), TT_of (i := 658) (by decide +kernel) (by decide +kernel), TT_of (i := 12) (by decide +kernel) (by decide +kernel), TT_of (i := 78) (by decide +kernel) (by decide +kernel), TT_of (i := 659) (by decide +kernel) (by decide +kernel), ⟨by decide +kernel, by decide +kernel, by decide +kernel⟩⟩
theorem ms_X9_78 : MSk RX9 78 yX7_isDots cX7_isDots 2 (some .boolean) 1 := ⟨TT_of (i := 660) (by decide +kernel) (by decide +kernel), TT_of (i := 365) (by decide +kernel) (by decide +kernel), TT_of (i := 85) (by decide +kernel) (by decide +kernel), TT_of (i := 366) (by decide +kernel) (by decide +kernel), ⟨by decide +kernel, by decide +kernel, by decide +kernel⟩⟩
end
