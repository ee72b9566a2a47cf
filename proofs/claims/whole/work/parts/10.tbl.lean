-- ===== PART A: goes FIRST, ahead of the names: the tables' words, and 'selects' of the private methods out of them =====
/-- a private method of a class that the tables say can be made, by its rows of tables_1 -/
def lw_okq (q : MethodName × Nat) : Prop := (q.1.cls ≠ "java/lang/invoke/MethodHandle" ∧ q.1.cls ≠ "java/lang/invoke/VarHandle") ∧ Cond.instantiable q.1.cls q.2 ∈ tables_1 ∧ Cond.privateMethod q.1 ∈ tables_1 ∧ Cond.instanceMethod q.1 ∈ tables_1
theorem lw_p0 : lw_okq (⟨"PitchRows", "faulted", "(I)I"⟩, 9) := ⟨⟨by decide +kernel, by decide +kernel⟩, List.mem_of_getElem? (i := 16) (by decide +kernel), List.mem_of_getElem? (i := 235) (by decide +kernel), List.mem_of_getElem? (i := 236) (by decide +kernel)⟩
theorem lw_p1 : lw_okq (⟨"PitchRows$TextReader", "goesOn", "(II)Z"⟩, 4) := ⟨⟨by decide +kernel, by decide +kernel⟩, List.mem_of_getElem? (i := 140) (by decide +kernel), List.mem_of_getElem? (i := 243) (by decide +kernel), List.mem_of_getElem? (i := 244) (by decide +kernel)⟩
theorem lw_p2 : lw_okq (⟨"PitchRows$TextReader", "fitsPart", "(I)Z"⟩, 4) := ⟨⟨by decide +kernel, by decide +kernel⟩, List.mem_of_getElem? (i := 140) (by decide +kernel), List.mem_of_getElem? (i := 248) (by decide +kernel), List.mem_of_getElem? (i := 249) (by decide +kernel)⟩
theorem lw_p3 : lw_okq (⟨"PitchRows", "toldPitch", "(LPitchRows$Caller;I)I"⟩, 9) := ⟨⟨by decide +kernel, by decide +kernel⟩, List.mem_of_getElem? (i := 16) (by decide +kernel), List.mem_of_getElem? (i := 279) (by decide +kernel), List.mem_of_getElem? (i := 280) (by decide +kernel)⟩
theorem lw_p4 : lw_okq (⟨"PitchRows", "firstWrong", "(LPitchRows$Sheet;II)I"⟩, 9) := ⟨⟨by decide +kernel, by decide +kernel⟩, List.mem_of_getElem? (i := 16) (by decide +kernel), List.mem_of_getElem? (i := 371) (by decide +kernel), List.mem_of_getElem? (i := 372) (by decide +kernel)⟩
theorem lw_p5 : lw_okq (⟨"PitchRows", "afterDay", "(I)I"⟩, 9) := ⟨⟨by decide +kernel, by decide +kernel⟩, List.mem_of_getElem? (i := 16) (by decide +kernel), List.mem_of_getElem? (i := 375) (by decide +kernel), List.mem_of_getElem? (i := 376) (by decide +kernel)⟩
theorem lw_p6 : lw_okq (⟨"PitchRows", "mostListened", "(I[I)I"⟩, 9) := ⟨⟨by decide +kernel, by decide +kernel⟩, List.mem_of_getElem? (i := 16) (by decide +kernel), List.mem_of_getElem? (i := 397) (by decide +kernel), List.mem_of_getElem? (i := 398) (by decide +kernel)⟩
theorem lw_p7 : lw_okq (⟨"PitchRows$GoodRows", "keep", "()V"⟩, 4) := ⟨⟨by decide +kernel, by decide +kernel⟩, List.mem_of_getElem? (i := 120) (by decide +kernel), List.mem_of_getElem? (i := 423) (by decide +kernel), List.mem_of_getElem? (i := 424) (by decide +kernel)⟩
theorem lw_p8 : lw_okq (⟨"PitchRows$GoodRows", "codeOf", "([I)I"⟩, 4) := ⟨⟨by decide +kernel, by decide +kernel⟩, List.mem_of_getElem? (i := 120) (by decide +kernel), List.mem_of_getElem? (i := 427) (by decide +kernel), List.mem_of_getElem? (i := 428) (by decide +kernel)⟩
theorem lw_p9 : lw_okq (⟨"PitchRows$GoodRows", "isLike", "(I[I)Z"⟩, 4) := ⟨⟨by decide +kernel, by decide +kernel⟩, List.mem_of_getElem? (i := 120) (by decide +kernel), List.mem_of_getElem? (i := 439) (by decide +kernel), List.mem_of_getElem? (i := 440) (by decide +kernel)⟩
theorem lw_p10 : lw_okq (⟨"PitchRows", "keenTelling", "(LPitchRows$Caller;)I"⟩, 9) := ⟨⟨by decide +kernel, by decide +kernel⟩, List.mem_of_getElem? (i := 16) (by decide +kernel), List.mem_of_getElem? (i := 531) (by decide +kernel), List.mem_of_getElem? (i := 532) (by decide +kernel)⟩
theorem lw_p11 : lw_okq (⟨"PitchRows", "leave", "(I)V"⟩, 9) := ⟨⟨by decide +kernel, by decide +kernel⟩, List.mem_of_getElem? (i := 16) (by decide +kernel), List.mem_of_getElem? (i := 535) (by decide +kernel), List.mem_of_getElem? (i := 536) (by decide +kernel)⟩
theorem lw_p12 : lw_okq (⟨"PitchRows", "broadTelling", "(LPitchRows$Caller;)I"⟩, 9) := ⟨⟨by decide +kernel, by decide +kernel⟩, List.mem_of_getElem? (i := 16) (by decide +kernel), List.mem_of_getElem? (i := 539) (by decide +kernel), List.mem_of_getElem? (i := 540) (by decide +kernel)⟩
theorem lw_p13 : lw_okq (⟨"PitchRows", "plainTelling", "(LPitchRows$Caller;)I"⟩, 9) := ⟨⟨by decide +kernel, by decide +kernel⟩, List.mem_of_getElem? (i := 16) (by decide +kernel), List.mem_of_getElem? (i := 543) (by decide +kernel), List.mem_of_getElem? (i := 544) (by decide +kernel)⟩
theorem lw_p14 : lw_okq (⟨"PitchRows", "keenHail", "()I"⟩, 9) := ⟨⟨by decide +kernel, by decide +kernel⟩, List.mem_of_getElem? (i := 16) (by decide +kernel), List.mem_of_getElem? (i := 551) (by decide +kernel), List.mem_of_getElem? (i := 552) (by decide +kernel)⟩
theorem lw_p15 : lw_okq (⟨"PitchRows", "lentHail", "(I)I"⟩, 9) := ⟨⟨by decide +kernel, by decide +kernel⟩, List.mem_of_getElem? (i := 16) (by decide +kernel), List.mem_of_getElem? (i := 555) (by decide +kernel), List.mem_of_getElem? (i := 556) (by decide +kernel)⟩
def lw_privs_1 : List (MethodName × Nat) := [(⟨"PitchRows", "faulted", "(I)I"⟩, 9), (⟨"PitchRows$TextReader", "goesOn", "(II)Z"⟩, 4), (⟨"PitchRows$TextReader", "fitsPart", "(I)Z"⟩, 4), (⟨"PitchRows", "toldPitch", "(LPitchRows$Caller;I)I"⟩, 9), (⟨"PitchRows", "firstWrong", "(LPitchRows$Sheet;II)I"⟩, 9), (⟨"PitchRows", "afterDay", "(I)I"⟩, 9), (⟨"PitchRows", "mostListened", "(I[I)I"⟩, 9), (⟨"PitchRows$GoodRows", "keep", "()V"⟩, 4), (⟨"PitchRows$GoodRows", "codeOf", "([I)I"⟩, 4), (⟨"PitchRows$GoodRows", "isLike", "(I[I)Z"⟩, 4), (⟨"PitchRows", "keenTelling", "(LPitchRows$Caller;)I"⟩, 9), (⟨"PitchRows", "leave", "(I)V"⟩, 9), (⟨"PitchRows", "broadTelling", "(LPitchRows$Caller;)I"⟩, 9), (⟨"PitchRows", "plainTelling", "(LPitchRows$Caller;)I"⟩, 9), (⟨"PitchRows", "keenHail", "()I"⟩, 9), (⟨"PitchRows", "lentHail", "(I)I"⟩, 9)]
theorem lw_r1 : ∀ q ∈ lw_privs_1, lw_okq q := List.forall_mem_cons.mpr ⟨lw_p0, List.forall_mem_cons.mpr ⟨lw_p1, List.forall_mem_cons.mpr ⟨lw_p2, List.forall_mem_cons.mpr ⟨lw_p3, List.forall_mem_cons.mpr ⟨lw_p4, List.forall_mem_cons.mpr ⟨lw_p5, List.forall_mem_cons.mpr ⟨lw_p6, List.forall_mem_cons.mpr ⟨lw_p7, List.forall_mem_cons.mpr ⟨lw_p8, List.forall_mem_cons.mpr ⟨lw_p9, List.forall_mem_cons.mpr ⟨lw_p10, List.forall_mem_cons.mpr ⟨lw_p11, List.forall_mem_cons.mpr ⟨lw_p12, List.forall_mem_cons.mpr ⟨lw_p13, List.forall_mem_cons.mpr ⟨lw_p14, List.forall_mem_cons.mpr ⟨lw_p15, fun _ h => absurd h List.not_mem_nil⟩⟩⟩⟩⟩⟩⟩⟩⟩⟩⟩⟩⟩⟩⟩⟩
theorem lw_p16 : lw_okq (⟨"PitchRowsModel", "refused", "(I)I"⟩, 33) := ⟨⟨by decide +kernel, by decide +kernel⟩, List.mem_of_getElem? (i := 580) (by decide +kernel), List.mem_of_getElem? (i := 697) (by decide +kernel), List.mem_of_getElem? (i := 698) (by decide +kernel)⟩
theorem lw_p17 : lw_okq (⟨"PitchRowsModel", "cellsBarred", "(IIIJ)I"⟩, 33) := ⟨⟨by decide +kernel, by decide +kernel⟩, List.mem_of_getElem? (i := 580) (by decide +kernel), List.mem_of_getElem? (i := 702) (by decide +kernel), List.mem_of_getElem? (i := 703) (by decide +kernel)⟩
theorem lw_p18 : lw_okq (⟨"PitchRowsModel", "failed", "(I)I"⟩, 33) := ⟨⟨by decide +kernel, by decide +kernel⟩, List.mem_of_getElem? (i := 580) (by decide +kernel), List.mem_of_getElem? (i := 706) (by decide +kernel), List.mem_of_getElem? (i := 707) (by decide +kernel)⟩
theorem lw_p19 : lw_okq (⟨"PitchRowsModel", "readsCallers", "(II)Z"⟩, 33) := ⟨⟨by decide +kernel, by decide +kernel⟩, List.mem_of_getElem? (i := 580) (by decide +kernel), List.mem_of_getElem? (i := 713) (by decide +kernel), List.mem_of_getElem? (i := 714) (by decide +kernel)⟩
theorem lw_p20 : lw_okq (⟨"PitchRowsModel", "codeAt", "(II)I"⟩, 33) := ⟨⟨by decide +kernel, by decide +kernel⟩, List.mem_of_getElem? (i := 580) (by decide +kernel), List.mem_of_getElem? (i := 717) (by decide +kernel), List.mem_of_getElem? (i := 718) (by decide +kernel)⟩
theorem lw_p21 : lw_okq (⟨"PitchRowsModel", "readsCaller", "(II)Z"⟩, 33) := ⟨⟨by decide +kernel, by decide +kernel⟩, List.mem_of_getElem? (i := 580) (by decide +kernel), List.mem_of_getElem? (i := 722) (by decide +kernel), List.mem_of_getElem? (i := 723) (by decide +kernel)⟩
theorem lw_p22 : lw_okq (⟨"PitchRowsModel", "readsSign", "(III)Z"⟩, 33) := ⟨⟨by decide +kernel, by decide +kernel⟩, List.mem_of_getElem? (i := 580) (by decide +kernel), List.mem_of_getElem? (i := 726) (by decide +kernel), List.mem_of_getElem? (i := 727) (by decide +kernel)⟩
theorem lw_p23 : lw_okq (⟨"PitchRowsModel", "noCaller", "(I)Z"⟩, 33) := ⟨⟨by decide +kernel, by decide +kernel⟩, List.mem_of_getElem? (i := 580) (by decide +kernel), List.mem_of_getElem? (i := 735) (by decide +kernel), List.mem_of_getElem? (i := 736) (by decide +kernel)⟩
theorem lw_p24 : lw_okq (⟨"PitchRowsModel", "noBeat", "(I)Z"⟩, 33) := ⟨⟨by decide +kernel, by decide +kernel⟩, List.mem_of_getElem? (i := 580) (by decide +kernel), List.mem_of_getElem? (i := 741) (by decide +kernel), List.mem_of_getElem? (i := 742) (by decide +kernel)⟩
theorem lw_p25 : lw_okq (⟨"PitchRowsModel", "pitch", "(II)I"⟩, 33) := ⟨⟨by decide +kernel, by decide +kernel⟩, List.mem_of_getElem? (i := 580) (by decide +kernel), List.mem_of_getElem? (i := 745) (by decide +kernel), List.mem_of_getElem? (i := 746) (by decide +kernel)⟩
theorem lw_p26 : lw_okq (⟨"PitchRowsModel", "freeOf", "(I)I"⟩, 33) := ⟨⟨by decide +kernel, by decide +kernel⟩, List.mem_of_getElem? (i := 580) (by decide +kernel), List.mem_of_getElem? (i := 749) (by decide +kernel), List.mem_of_getElem? (i := 750) (by decide +kernel)⟩
theorem lw_p27 : lw_okq (⟨"PitchRowsModel", "goodNow", "(I)I"⟩, 33) := ⟨⟨by decide +kernel, by decide +kernel⟩, List.mem_of_getElem? (i := 580) (by decide +kernel), List.mem_of_getElem? (i := 753) (by decide +kernel), List.mem_of_getElem? (i := 754) (by decide +kernel)⟩
theorem lw_p28 : lw_okq (⟨"PitchRowsModel", "triesThoseOf", "(I)V"⟩, 33) := ⟨⟨by decide +kernel, by decide +kernel⟩, List.mem_of_getElem? (i := 580) (by decide +kernel), List.mem_of_getElem? (i := 757) (by decide +kernel), List.mem_of_getElem? (i := 758) (by decide +kernel)⟩
theorem lw_p29 : lw_okq (⟨"PitchRowsModel", "isGood", "()Z"⟩, 33) := ⟨⟨by decide +kernel, by decide +kernel⟩, List.mem_of_getElem? (i := 580) (by decide +kernel), List.mem_of_getElem? (i := 761) (by decide +kernel), List.mem_of_getElem? (i := 762) (by decide +kernel)⟩
theorem lw_p30 : lw_okq (⟨"PitchRowsModel", "areUnlike", "()Z"⟩, 33) := ⟨⟨by decide +kernel, by decide +kernel⟩, List.mem_of_getElem? (i := 580) (by decide +kernel), List.mem_of_getElem? (i := 765) (by decide +kernel), List.mem_of_getElem? (i := 766) (by decide +kernel)⟩
theorem lw_p31 : lw_okq (⟨"PitchRowsModel", "heardBy", "(IIII)I"⟩, 33) := ⟨⟨by decide +kernel, by decide +kernel⟩, List.mem_of_getElem? (i := 580) (by decide +kernel), List.mem_of_getElem? (i := 786) (by decide +kernel), List.mem_of_getElem? (i := 787) (by decide +kernel)⟩
def lw_privs_2 : List (MethodName × Nat) := [(⟨"PitchRowsModel", "refused", "(I)I"⟩, 33), (⟨"PitchRowsModel", "cellsBarred", "(IIIJ)I"⟩, 33), (⟨"PitchRowsModel", "failed", "(I)I"⟩, 33), (⟨"PitchRowsModel", "readsCallers", "(II)Z"⟩, 33), (⟨"PitchRowsModel", "codeAt", "(II)I"⟩, 33), (⟨"PitchRowsModel", "readsCaller", "(II)Z"⟩, 33), (⟨"PitchRowsModel", "readsSign", "(III)Z"⟩, 33), (⟨"PitchRowsModel", "noCaller", "(I)Z"⟩, 33), (⟨"PitchRowsModel", "noBeat", "(I)Z"⟩, 33), (⟨"PitchRowsModel", "pitch", "(II)I"⟩, 33), (⟨"PitchRowsModel", "freeOf", "(I)I"⟩, 33), (⟨"PitchRowsModel", "goodNow", "(I)I"⟩, 33), (⟨"PitchRowsModel", "triesThoseOf", "(I)V"⟩, 33), (⟨"PitchRowsModel", "isGood", "()Z"⟩, 33), (⟨"PitchRowsModel", "areUnlike", "()Z"⟩, 33), (⟨"PitchRowsModel", "heardBy", "(IIII)I"⟩, 33)]
theorem lw_r2 : ∀ q ∈ lw_privs_2, lw_okq q := List.forall_mem_cons.mpr ⟨lw_p16, List.forall_mem_cons.mpr ⟨lw_p17, List.forall_mem_cons.mpr ⟨lw_p18, List.forall_mem_cons.mpr ⟨lw_p19, List.forall_mem_cons.mpr ⟨lw_p20, List.forall_mem_cons.mpr ⟨lw_p21, List.forall_mem_cons.mpr ⟨lw_p22, List.forall_mem_cons.mpr ⟨lw_p23, List.forall_mem_cons.mpr ⟨lw_p24, List.forall_mem_cons.mpr ⟨lw_p25, List.forall_mem_cons.mpr ⟨lw_p26, List.forall_mem_cons.mpr ⟨lw_p27, List.forall_mem_cons.mpr ⟨lw_p28, List.forall_mem_cons.mpr ⟨lw_p29, List.forall_mem_cons.mpr ⟨lw_p30, List.forall_mem_cons.mpr ⟨lw_p31, fun _ h => absurd h List.not_mem_nil⟩⟩⟩⟩⟩⟩⟩⟩⟩⟩⟩⟩⟩⟩⟩⟩
theorem lw_p32 : lw_okq (⟨"PitchRowsModel", "counts", "(III)I"⟩, 33) := ⟨⟨by decide +kernel, by decide +kernel⟩, List.mem_of_getElem? (i := 580) (by decide +kernel), List.mem_of_getElem? (i := 790) (by decide +kernel), List.mem_of_getElem? (i := 791) (by decide +kernel)⟩
theorem lw_p33 : lw_okq (⟨"PitchRowsModel", "sends", "(III)Z"⟩, 33) := ⟨⟨by decide +kernel, by decide +kernel⟩, List.mem_of_getElem? (i := 580) (by decide +kernel), List.mem_of_getElem? (i := 799) (by decide +kernel), List.mem_of_getElem? (i := 800) (by decide +kernel)⟩
theorem lw_p34 : lw_okq (⟨"PitchRowsModel", "airOf", "(I)I"⟩, 33) := ⟨⟨by decide +kernel, by decide +kernel⟩, List.mem_of_getElem? (i := 580) (by decide +kernel), List.mem_of_getElem? (i := 815) (by decide +kernel), List.mem_of_getElem? (i := 816) (by decide +kernel)⟩
theorem lw_p35 : lw_okq (⟨"PitchRowsModel", "listensTo", "(II)I"⟩, 33) := ⟨⟨by decide +kernel, by decide +kernel⟩, List.mem_of_getElem? (i := 580) (by decide +kernel), List.mem_of_getElem? (i := 823) (by decide +kernel), List.mem_of_getElem? (i := 824) (by decide +kernel)⟩
theorem lw_p36 : lw_okq (⟨"PitchRowsModel", "countsOfAll", "(III)I"⟩, 33) := ⟨⟨by decide +kernel, by decide +kernel⟩, List.mem_of_getElem? (i := 580) (by decide +kernel), List.mem_of_getElem? (i := 827) (by decide +kernel), List.mem_of_getElem? (i := 828) (by decide +kernel)⟩
theorem lw_p37 : lw_okq (⟨"PitchRowsModel", "loudestOf", "(I)I"⟩, 33) := ⟨⟨by decide +kernel, by decide +kernel⟩, List.mem_of_getElem? (i := 580) (by decide +kernel), List.mem_of_getElem? (i := 835) (by decide +kernel), List.mem_of_getElem? (i := 836) (by decide +kernel)⟩
theorem lw_p38 : lw_okq (⟨"PitchRowsModel", "dayOf", "(III)I"⟩, 33) := ⟨⟨by decide +kernel, by decide +kernel⟩, List.mem_of_getElem? (i := 580) (by decide +kernel), List.mem_of_getElem? (i := 849) (by decide +kernel), List.mem_of_getElem? (i := 850) (by decide +kernel)⟩
theorem lw_p39 : lw_okq (⟨"PitchRowsModel", "doesPair", "(II)Z"⟩, 33) := ⟨⟨by decide +kernel, by decide +kernel⟩, List.mem_of_getElem? (i := 580) (by decide +kernel), List.mem_of_getElem? (i := 853) (by decide +kernel), List.mem_of_getElem? (i := 854) (by decide +kernel)⟩
theorem lw_p40 : lw_okq (⟨"PitchRowsModel", "manyThatSound", "()I"⟩, 33) := ⟨⟨by decide +kernel, by decide +kernel⟩, List.mem_of_getElem? (i := 580) (by decide +kernel), List.mem_of_getElem? (i := 857) (by decide +kernel), List.mem_of_getElem? (i := 858) (by decide +kernel)⟩
theorem lw_p41 : lw_okq (⟨"PitchRowsModel", "lastThatSounds", "()I"⟩, 33) := ⟨⟨by decide +kernel, by decide +kernel⟩, List.mem_of_getElem? (i := 580) (by decide +kernel), List.mem_of_getElem? (i := 861) (by decide +kernel), List.mem_of_getElem? (i := 862) (by decide +kernel)⟩
theorem lw_p42 : lw_okq (⟨"PitchRowsModel", "firstOfTwo", "()I"⟩, 33) := ⟨⟨by decide +kernel, by decide +kernel⟩, List.mem_of_getElem? (i := 580) (by decide +kernel), List.mem_of_getElem? (i := 865) (by decide +kernel), List.mem_of_getElem? (i := 866) (by decide +kernel)⟩
theorem lw_p43 : lw_okq (⟨"PitchRowsModel", "peaks", "(I)V"⟩, 33) := ⟨⟨by decide +kernel, by decide +kernel⟩, List.mem_of_getElem? (i := 580) (by decide +kernel), List.mem_of_getElem? (i := 873) (by decide +kernel), List.mem_of_getElem? (i := 874) (by decide +kernel)⟩
theorem lw_p44 : lw_okq (⟨"PitchRowsModel", "triesFirst", "()V"⟩, 33) := ⟨⟨by decide +kernel, by decide +kernel⟩, List.mem_of_getElem? (i := 580) (by decide +kernel), List.mem_of_getElem? (i := 885) (by decide +kernel), List.mem_of_getElem? (i := 886) (by decide +kernel)⟩
theorem lw_p45 : lw_okq (⟨"PitchRowsModel", "triesNext", "()Z"⟩, 33) := ⟨⟨by decide +kernel, by decide +kernel⟩, List.mem_of_getElem? (i := 580) (by decide +kernel), List.mem_of_getElem? (i := 889) (by decide +kernel), List.mem_of_getElem? (i := 890) (by decide +kernel)⟩
theorem lw_p46 : lw_okq (⟨"PitchRowsModel", "hasThoseOf", "(I)Z"⟩, 33) := ⟨⟨by decide +kernel, by decide +kernel⟩, List.mem_of_getElem? (i := 580) (by decide +kernel), List.mem_of_getElem? (i := 897) (by decide +kernel), List.mem_of_getElem? (i := 898) (by decide +kernel)⟩
theorem lw_p47 : lw_okq (⟨"PitchRowsModel", "areSo", "()Z"⟩, 33) := ⟨⟨by decide +kernel, by decide +kernel⟩, List.mem_of_getElem? (i := 580) (by decide +kernel), List.mem_of_getElem? (i := 917) (by decide +kernel), List.mem_of_getElem? (i := 918) (by decide +kernel)⟩
def lw_privs_3 : List (MethodName × Nat) := [(⟨"PitchRowsModel", "counts", "(III)I"⟩, 33), (⟨"PitchRowsModel", "sends", "(III)Z"⟩, 33), (⟨"PitchRowsModel", "airOf", "(I)I"⟩, 33), (⟨"PitchRowsModel", "listensTo", "(II)I"⟩, 33), (⟨"PitchRowsModel", "countsOfAll", "(III)I"⟩, 33), (⟨"PitchRowsModel", "loudestOf", "(I)I"⟩, 33), (⟨"PitchRowsModel", "dayOf", "(III)I"⟩, 33), (⟨"PitchRowsModel", "doesPair", "(II)Z"⟩, 33), (⟨"PitchRowsModel", "manyThatSound", "()I"⟩, 33), (⟨"PitchRowsModel", "lastThatSounds", "()I"⟩, 33), (⟨"PitchRowsModel", "firstOfTwo", "()I"⟩, 33), (⟨"PitchRowsModel", "peaks", "(I)V"⟩, 33), (⟨"PitchRowsModel", "triesFirst", "()V"⟩, 33), (⟨"PitchRowsModel", "triesNext", "()Z"⟩, 33), (⟨"PitchRowsModel", "hasThoseOf", "(I)Z"⟩, 33), (⟨"PitchRowsModel", "areSo", "()Z"⟩, 33)]
theorem lw_r3 : ∀ q ∈ lw_privs_3, lw_okq q := List.forall_mem_cons.mpr ⟨lw_p32, List.forall_mem_cons.mpr ⟨lw_p33, List.forall_mem_cons.mpr ⟨lw_p34, List.forall_mem_cons.mpr ⟨lw_p35, List.forall_mem_cons.mpr ⟨lw_p36, List.forall_mem_cons.mpr ⟨lw_p37, List.forall_mem_cons.mpr ⟨lw_p38, List.forall_mem_cons.mpr ⟨lw_p39, List.forall_mem_cons.mpr ⟨lw_p40, List.forall_mem_cons.mpr ⟨lw_p41, List.forall_mem_cons.mpr ⟨lw_p42, List.forall_mem_cons.mpr ⟨lw_p43, List.forall_mem_cons.mpr ⟨lw_p44, List.forall_mem_cons.mpr ⟨lw_p45, List.forall_mem_cons.mpr ⟨lw_p46, List.forall_mem_cons.mpr ⟨lw_p47, fun _ h => absurd h List.not_mem_nil⟩⟩⟩⟩⟩⟩⟩⟩⟩⟩⟩⟩⟩⟩⟩⟩
theorem lw_p48 : lw_okq (⟨"PitchRowsModel", "noCell", "(II)I"⟩, 33) := ⟨⟨by decide +kernel, by decide +kernel⟩, List.mem_of_getElem? (i := 580) (by decide +kernel), List.mem_of_getElem? (i := 949) (by decide +kernel), List.mem_of_getElem? (i := 950) (by decide +kernel)⟩
theorem lw_p49 : lw_okq (⟨"PitchRowsModel", "failedLong", "(I)J"⟩, 33) := ⟨⟨by decide +kernel, by decide +kernel⟩, List.mem_of_getElem? (i := 580) (by decide +kernel), List.mem_of_getElem? (i := 957) (by decide +kernel), List.mem_of_getElem? (i := 958) (by decide +kernel)⟩
theorem lw_p50 : lw_okq (⟨"PitchRowsModel", "traced", "(I)V"⟩, 33) := ⟨⟨by decide +kernel, by decide +kernel⟩, List.mem_of_getElem? (i := 580) (by decide +kernel), List.mem_of_getElem? (i := 969) (by decide +kernel), List.mem_of_getElem? (i := 970) (by decide +kernel)⟩
def lw_privs_4 : List (MethodName × Nat) := [(⟨"PitchRowsModel", "noCell", "(II)I"⟩, 33), (⟨"PitchRowsModel", "failedLong", "(I)J"⟩, 33), (⟨"PitchRowsModel", "traced", "(I)V"⟩, 33)]
theorem lw_r4 : ∀ q ∈ lw_privs_4, lw_okq q := List.forall_mem_cons.mpr ⟨lw_p48, List.forall_mem_cons.mpr ⟨lw_p49, List.forall_mem_cons.mpr ⟨lw_p50, fun _ h => absurd h List.not_mem_nil⟩⟩⟩
def lw_privs : List (MethodName × Nat) := lw_privs_1 ++ (lw_privs_2 ++ (lw_privs_3 ++ (lw_privs_4)))
def lw_tbl : List Cond := k2_sels lw_privs ++ tables_1
theorem lw_privs_ok : ∀ q ∈ lw_privs, lw_okq q := by
  show ∀ q ∈ lw_privs_1 ++ (lw_privs_2 ++ (lw_privs_3 ++ (lw_privs_4))), lw_okq q
  exact List.forall_mem_append.mpr ⟨lw_r1, List.forall_mem_append.mpr ⟨lw_r2, List.forall_mem_append.mpr ⟨lw_r3, lw_r4⟩⟩⟩
-- ===== end of PART A; then your names; then what follows =====
-- names
def RX0 : String := "PitchRows$Air"
def TX0 : u_T := fun k => match k with
  | 0 => ("PitchRows$Numbered", "count", "I", false)
  | 1 => ("PitchRows$Air", "whose", "[I", true)
  | 2 => ("PitchRows$Air", "moment", "[I", true)
  | 3 => ("PitchRows$Air", "high", "[I", true)
  | _ => ("PitchRows$Air", "sounds", "[I", true)
def tyX0 : Nat → FieldType := fun k => match k with
  | 0 => .int
  | 1 => .array .int
  | 2 => .array .int
  | 3 => .array .int
  | _ => .array .int
abbrev wsX00 : List Cond := u_ws RX0 TX0 5
theorem nmX0 : ∀ a, a < 5 → ∀ b, b < 5 → a ≠ b → (TX0 a).2.1 ≠ (TX0 b).2.1 := by decide +kernel
theorem tyX0_ok : ∀ k, k < 5 → parseFieldDescriptor (TX0 k).2.2.1 = some (tyX0 k) := by decide +kernel
abbrev cX0_init : ByteArray := prog_2_method_1_code
def yX0_init : MethodName := ⟨RX0, "<init>", "()V"⟩
abbrev cX0_add : ByteArray := prog_2_method_2_code
def yX0_add : MethodName := ⟨RX0, "add", "(III)Z"⟩
abbrev cX0_becomeLike : ByteArray := prog_2_method_3_code
def yX0_becomeLike : MethodName := ⟨RX0, "becomeLike", "(LPitchRows$Air;)V"⟩
abbrev cX0_sound : ByteArray := prog_2_method_4_code
def yX0_sound : MethodName := ⟨RX0, "sound", "(LPitchRows$Choir;)V"⟩
abbrev cX0_soundingMoments : ByteArray := prog_2_method_5_code
def yX0_soundingMoments : MethodName := ⟨RX0, "soundingMoments", "()I"⟩
abbrev cX0_lastSounding : ByteArray := prog_2_method_6_code
def yX0_lastSounding : MethodName := ⟨RX0, "lastSounding", "()I"⟩
abbrev cX0_firstOfTwo : ByteArray := prog_2_method_7_code
def yX0_firstOfTwo : MethodName := ⟨RX0, "firstOfTwo", "()I"⟩
def RX1 : String := "PitchRows$Caller"
def TX1 : u_T := fun k => match k with
  | 0 => ("PitchRows$Caller", "kind", "I", false)
  | _ => ("PitchRows$Caller", "pitch", "[I", true)
def tyX1 : Nat → FieldType := fun k => match k with
  | 0 => .int
  | _ => .array .int
abbrev wsX10 : List Cond := u_ws RX1 TX1 2
theorem nmX1 : ∀ a, a < 2 → ∀ b, b < 2 → a ≠ b → (TX1 a).2.1 ≠ (TX1 b).2.1 := by decide +kernel
theorem tyX1_ok : ∀ k, k < 2 → parseFieldDescriptor (TX1 k).2.2.1 = some (tyX1 k) := by decide +kernel
abbrev cX1_init : ByteArray := prog_3_method_1_code
def yX1_init : MethodName := ⟨RX1, "<init>", "()V"⟩
abbrev cX1_freeBeats : ByteArray := prog_3_method_2_code
def yX1_freeBeats : MethodName := ⟨RX1, "freeBeats", "(I)I"⟩
abbrev cX1_counted : ByteArray := prog_3_method_3_code
def yX1_counted : MethodName := ⟨RX1, "counted", "(ZZ)I"⟩
def RX2 : String := "PitchRows$Choir"
def TX2 : u_T := fun k => match k with
  | 0 => ("PitchRows$Choir", "callers", "[LPitchRows$Caller;", true)
  | 1 => ("PitchRows$Choir", "count", "I", false)
  | _ => ("PitchRows$Choir", "beats", "I", false)
def tyX2 : Nat → FieldType := fun k => match k with
  | 0 => .array (.object "PitchRows$Caller")
  | 1 => .int
  | _ => .int
abbrev wsX20 : List Cond := u_ws RX2 TX2 3
theorem nmX2 : ∀ a, a < 3 → ∀ b, b < 3 → a ≠ b → (TX2 a).2.1 ≠ (TX2 b).2.1 := by decide +kernel
theorem tyX2_ok : ∀ k, k < 3 → parseFieldDescriptor (TX2 k).2.2.1 = some (tyX2 k) := by decide +kernel
abbrev cX2_init : ByteArray := prog_4_method_1_code
def yX2_init : MethodName := ⟨RX2, "<init>", "()V"⟩
abbrev cX2_has : ByteArray := prog_4_method_2_code
def yX2_has : MethodName := ⟨RX2, "has", "(I)Z"⟩
abbrev cX2_hasBeat : ByteArray := prog_4_method_3_code
def yX2_hasBeat : MethodName := ⟨RX2, "hasBeat", "(I)Z"⟩
abbrev cX2_freeBeatsOfAll : ByteArray := prog_4_method_4_code
def yX2_freeBeatsOfAll : MethodName := ⟨RX2, "freeBeatsOfAll", "()I"⟩
abbrev cX2_take : ByteArray := prog_4_method_5_code
def yX2_take : MethodName := ⟨RX2, "take", "(LPitchRows$Sheet;II)V"⟩
abbrev cX2_heard : ByteArray := prog_4_method_6_code
def yX2_heard : MethodName := ⟨RX2, "heard", "(IIII)I"⟩
abbrev cX2_listened : ByteArray := prog_4_method_7_code
def yX2_listened : MethodName := ⟨RX2, "listened", "(I[II)I"⟩
abbrev cX2_loudestMoment : ByteArray := prog_4_method_8_code
def yX2_loudestMoment : MethodName := ⟨RX2, "loudestMoment", "(I[I)I"⟩
def RX3 : String := "PitchRows$GoodRows"
def TX3 : u_T := fun k => match k with
  | 0 => ("PitchRows$GoodRows", "beats", "I", false)
  | 1 => ("PitchRows$GoodRows", "count", "I", false)
  | 2 => ("PitchRows$GoodRows", "codes", "[I", true)
  | _ => ("PitchRows$GoodRows", "row", "[I", true)
def tyX3 : Nat → FieldType := fun k => match k with
  | 0 => .int
  | 1 => .int
  | 2 => .array .int
  | _ => .array .int
abbrev wsX30 : List Cond := u_ws RX3 TX3 4
theorem nmX3 : ∀ a, a < 4 → ∀ b, b < 4 → a ≠ b → (TX3 a).2.1 ≠ (TX3 b).2.1 := by decide +kernel
theorem tyX3_ok : ∀ k, k < 4 → parseFieldDescriptor (TX3 k).2.2.1 = some (tyX3 k) := by decide +kernel
abbrev cX3_init : ByteArray := prog_5_method_1_code
def yX3_init : MethodName := ⟨RX3, "<init>", "()V"⟩
abbrev cX3_makeFor : ByteArray := prog_5_method_2_code
def yX3_makeFor : MethodName := ⟨RX3, "makeFor", "(I)V"⟩
abbrev cX3_grow : ByteArray := prog_5_method_3_code
def yX3_grow : MethodName := ⟨RX3, "grow", "(LPitchRows$GoodRows;I)V"⟩
abbrev cX3_keep : ByteArray := prog_5_method_4_code
def yX3_keep : MethodName := ⟨RX3, "keep", "()V"⟩
abbrev cX3_isGood : ByteArray := prog_5_method_5_code
def yX3_isGood : MethodName := ⟨RX3, "isGood", "([II)Z"⟩
abbrev cX3_staysGood : ByteArray := prog_5_method_6_code
def yX3_staysGood : MethodName := ⟨RX3, "staysGood", "([II)Z"⟩
abbrev cX3_codeOf : ByteArray := prog_5_method_7_code
def yX3_codeOf : MethodName := ⟨RX3, "codeOf", "([I)I"⟩
abbrev cX3_pitchOf : ByteArray := prog_5_method_8_code
def yX3_pitchOf : MethodName := ⟨RX3, "pitchOf", "(II)I"⟩
abbrev cX3_isLike : ByteArray := prog_5_method_9_code
def yX3_isLike : MethodName := ⟨RX3, "isLike", "(I[I)Z"⟩
abbrev cX3_countLike : ByteArray := prog_5_method_10_code
def yX3_countLike : MethodName := ⟨RX3, "countLike", "([I)I"⟩
abbrev cX3_firstLike : ByteArray := prog_5_method_11_code
def yX3_firstLike : MethodName := ⟨RX3, "firstLike", "([I)I"⟩
abbrev cX3_firstBehind : ByteArray := prog_5_method_12_code
def yX3_firstBehind : MethodName := ⟨RX3, "firstBehind", "([I)I"⟩
def RX4 : String := "PitchRows$Numbered"
def TX4 : u_T := fun k => match k with
  | _ => ("", "", "", false)
def tyX4 : Nat → FieldType := fun k => match k with
  | _ => .int
abbrev wsX40 : List Cond := u_ws RX4 TX4 0
theorem nmX4 : ∀ a, a < 0 → ∀ b, b < 0 → a ≠ b → (TX4 a).2.1 ≠ (TX4 b).2.1 := by decide +kernel
theorem tyX4_ok : ∀ k, k < 0 → parseFieldDescriptor (TX4 k).2.2.1 = some (tyX4 k) := by decide +kernel
abbrev cX4_init : ByteArray := prog_6_method_1_code
def yX4_init : MethodName := ⟨RX4, "<init>", "()V"⟩
abbrev cX4_takeBack : ByteArray := prog_6_method_2_code
def yX4_takeBack : MethodName := ⟨RX4, "takeBack", "(I)Z"⟩
def RX5 : String := "PitchRows$Readings"
def TX5 : u_T := fun k => match k with
  | 0 => ("PitchRows$Numbered", "count", "I", false)
  | 1 => ("PitchRows$Readings", "hearer", "[I", true)
  | 2 => ("PitchRows$Readings", "whose", "[I", true)
  | 3 => ("PitchRows$Readings", "late", "[I", true)
  | 4 => ("PitchRows$Readings", "high", "[I", true)
  | _ => ("PitchRows$Readings", "heard", "[I", true)
def tyX5 : Nat → FieldType := fun k => match k with
  | 0 => .int
  | 1 => .array .int
  | 2 => .array .int
  | 3 => .array .int
  | 4 => .array .int
  | _ => .array .int
abbrev wsX50 : List Cond := u_ws RX5 TX5 6
theorem nmX5 : ∀ a, a < 6 → ∀ b, b < 6 → a ≠ b → (TX5 a).2.1 ≠ (TX5 b).2.1 := by decide +kernel
theorem tyX5_ok : ∀ k, k < 6 → parseFieldDescriptor (TX5 k).2.2.1 = some (tyX5 k) := by decide +kernel
abbrev cX5_init : ByteArray := prog_7_method_1_code
def yX5_init : MethodName := ⟨RX5, "<init>", "()V"⟩
abbrev cX5_add : ByteArray := prog_7_method_2_code
def yX5_add : MethodName := ⟨RX5, "add", "(IIIII)Z"⟩
abbrev cX5_areSo : ByteArray := prog_7_method_3_code
def yX5_areSo : MethodName := ⟨RX5, "areSo", "(LPitchRows$Choir;)Z"⟩
def RX6 : String := "PitchRows$Sheet"
def TX6 : u_T := fun k => match k with
  | 0 => ("PitchRows$Sheet", "hasRow", "Z", false)
  | 1 => ("PitchRows$Sheet", "lane", "I", false)
  | 2 => ("PitchRows$Sheet", "length", "I", false)
  | _ => ("PitchRows$Sheet", "cells", "[I", true)
def tyX6 : Nat → FieldType := fun k => match k with
  | 0 => .boolean
  | 1 => .int
  | 2 => .int
  | _ => .array .int
abbrev wsX60 : List Cond := u_ws RX6 TX6 4
theorem nmX6 : ∀ a, a < 4 → ∀ b, b < 4 → a ≠ b → (TX6 a).2.1 ≠ (TX6 b).2.1 := by decide +kernel
theorem tyX6_ok : ∀ k, k < 4 → parseFieldDescriptor (TX6 k).2.2.1 = some (tyX6 k) := by decide +kernel
abbrev cX6_init : ByteArray := prog_8_method_1_code
def yX6_init : MethodName := ⟨RX6, "<init>", "()V"⟩
abbrev cX6_begin : ByteArray := prog_8_method_2_code
def yX6_begin : MethodName := ⟨RX6, "begin", "(II)V"⟩
abbrev cX6_holds : ByteArray := prog_8_method_3_code
def yX6_holds : MethodName := ⟨RX6, "holds", "(II)Z"⟩
abbrev cX6_faultAs : ByteArray := prog_8_method_4_code
def yX6_faultAs : MethodName := ⟨RX6, "faultAs", "(III)I"⟩
abbrev cX6_write : ByteArray := prog_8_method_5_code
def yX6_write : MethodName := ⟨RX6, "write", "(II)V"⟩
def RX7 : String := "PitchRows$TextReader"
def TX7 : u_T := fun k => match k with
  | 0 => ("PitchRows$TextReader", "beats", "I", false)
  | 1 => ("PitchRows$TextReader", "callers", "I", false)
  | 2 => ("PitchRows$TextReader", "part", "I", false)
  | _ => ("PitchRows$TextReader", "whole", "Z", false)
def tyX7 : Nat → FieldType := fun k => match k with
  | 0 => .int
  | 1 => .int
  | 2 => .int
  | _ => .boolean
abbrev wsX70 : List Cond := u_ws RX7 TX7 4
theorem nmX7 : ∀ a, a < 4 → ∀ b, b < 4 → a ≠ b → (TX7 a).2.1 ≠ (TX7 b).2.1 := by decide +kernel
theorem tyX7_ok : ∀ k, k < 4 → parseFieldDescriptor (TX7 k).2.2.1 = some (tyX7 k) := by decide +kernel
abbrev cX7_init : ByteArray := prog_9_method_1_code
def yX7_init : MethodName := ⟨RX7, "<init>", "()V"⟩
abbrev cX7_readUpTo : ByteArray := prog_9_method_2_code
def yX7_readUpTo : MethodName := ⟨RX7, "readUpTo", "(LPitchRows$Sheet;II)I"⟩
abbrev cX7_goesOn : ByteArray := prog_9_method_3_code
def yX7_goesOn : MethodName := ⟨RX7, "goesOn", "(II)Z"⟩
abbrev cX7_fitsPart : ByteArray := prog_9_method_4_code
def yX7_fitsPart : MethodName := ⟨RX7, "fitsPart", "(I)Z"⟩
abbrev cX7_kindOf : ByteArray := prog_9_method_5_code
def yX7_kindOf : MethodName := ⟨RX7, "kindOf", "(I)I"⟩
def RX8 : String := "PitchRows"
def TX8 : u_T := fun k => match k with
  | 0 => ("PitchRows", "choir", "LPitchRows$Choir;", true)
  | 1 => ("PitchRows", "air", "LPitchRows$Air;", true)
  | 2 => ("PitchRows", "dayAir", "LPitchRows$Air;", true)
  | 3 => ("PitchRows", "readings", "LPitchRows$Readings;", true)
  | 4 => ("PitchRows", "goodRows", "LPitchRows$GoodRows;", true)
  | 5 => ("PitchRows", "reader", "LPitchRows$TextReader;", true)
  | 6 => ("PitchRows", "sheets", "[LPitchRows$Sheet;", true)
  | 7 => ("PitchRows", "trace", "I", false)
  | _ => ("PitchRows", "fault", "I", false)
def tyX8 : Nat → FieldType := fun k => match k with
  | 0 => .object "PitchRows$Choir"
  | 1 => .object "PitchRows$Air"
  | 2 => .object "PitchRows$Air"
  | 3 => .object "PitchRows$Readings"
  | 4 => .object "PitchRows$GoodRows"
  | 5 => .object "PitchRows$TextReader"
  | 6 => .array (.object "PitchRows$Sheet")
  | 7 => .int
  | _ => .int
abbrev wsX80 : List Cond := u_ws RX8 TX8 9
theorem nmX8 : ∀ a, a < 9 → ∀ b, b < 9 → a ≠ b → (TX8 a).2.1 ≠ (TX8 b).2.1 := by decide +kernel
theorem tyX8_ok : ∀ k, k < 9 → parseFieldDescriptor (TX8 k).2.2.1 = some (tyX8 k) := by decide +kernel
abbrev cX8_init : ByteArray := prog_1_method_1_code
def yX8_init : MethodName := ⟨RX8, "<init>", "()V"⟩
abbrev cX8_callers : ByteArray := prog_1_method_2_code
def yX8_callers : MethodName := ⟨RX8, "callers", "(IIII)I"⟩
abbrev cX8_ofCaller : ByteArray := prog_1_method_3_code
def yX8_ofCaller : MethodName := ⟨RX8, "ofCaller", "(II)I"⟩
abbrev cX8_tune : ByteArray := prog_1_method_4_code
def yX8_tune : MethodName := ⟨RX8, "tune", "(III)I"⟩
abbrev cX8_hears : ByteArray := prog_1_method_5_code
def yX8_hears : MethodName := ⟨RX8, "hears", "(IIII)I"⟩
abbrev cX8_send : ByteArray := prog_1_method_6_code
def yX8_send : MethodName := ⟨RX8, "send", "(III)I"⟩
abbrev cX8_unsend : ByteArray := prog_1_method_7_code
def yX8_unsend : MethodName := ⟨RX8, "unsend", "(I)I"⟩
abbrev cX8_air : ByteArray := prog_1_method_8_code
def yX8_air : MethodName := ⟨RX8, "air", "(I)I"⟩
abbrev cX8_listen : ByteArray := prog_1_method_9_code
def yX8_listen : MethodName := ⟨RX8, "listen", "(II)I"⟩
abbrev cX8_loudest : ByteArray := prog_1_method_10_code
def yX8_loudest : MethodName := ⟨RX8, "loudest", "(II)I"⟩
abbrev cX8_day : ByteArray := prog_1_method_11_code
def yX8_day : MethodName := ⟨RX8, "day", "(IIIII)I"⟩
abbrev cX8_peak : ByteArray := prog_1_method_12_code
def yX8_peak : MethodName := ⟨RX8, "peak", "(II)I"⟩
abbrev cX8_clash : ByteArray := prog_1_method_13_code
def yX8_clash : MethodName := ⟨RX8, "clash", "(II)I"⟩
abbrev cX8_rows : ByteArray := prog_1_method_14_code
def yX8_rows : MethodName := ⟨RX8, "rows", "()I"⟩
abbrev cX8_ways : ByteArray := prog_1_method_15_code
def yX8_ways : MethodName := ⟨RX8, "ways", "(II)I"⟩
abbrev cX8_next : ByteArray := prog_1_method_16_code
def yX8_next : MethodName := ⟨RX8, "next", "(II)I"⟩
abbrev cX8_reading : ByteArray := prog_1_method_17_code
def yX8_reading : MethodName := ⟨RX8, "reading", "(IIIII)I"⟩
abbrev cX8_back : ByteArray := prog_1_method_18_code
def yX8_back : MethodName := ⟨RX8, "back", "(I)I"⟩
abbrev cX8_kinds : ByteArray := prog_1_method_19_code
def yX8_kinds : MethodName := ⟨RX8, "kinds", "(I)I"⟩
abbrev cX8_pitches : ByteArray := prog_1_method_20_code
def yX8_pitches : MethodName := ⟨RX8, "pitches", "(II)I"⟩
abbrev cX8_odds : ByteArray := prog_1_method_21_code
def yX8_odds : MethodName := ⟨RX8, "odds", "(III)J"⟩
abbrev cX8_sheet : ByteArray := prog_1_method_22_code
def yX8_sheet : MethodName := ⟨RX8, "sheet", "(III)I"⟩
abbrev cX8_lose : ByteArray := prog_1_method_23_code
def yX8_lose : MethodName := ⟨RX8, "lose", "(I)I"⟩
abbrev cX8_put : ByteArray := prog_1_method_24_code
def yX8_put : MethodName := ⟨RX8, "put", "(III)I"⟩
abbrev cX8_cell : ByteArray := prog_1_method_25_code
def yX8_cell : MethodName := ⟨RX8, "cell", "(III)J"⟩
abbrev cX8_copy : ByteArray := prog_1_method_26_code
def yX8_copy : MethodName := ⟨RX8, "copy", "(IIIII)I"⟩
abbrev cX8_tell : ByteArray := prog_1_method_27_code
def yX8_tell : MethodName := ⟨RX8, "tell", "(I)I"⟩
abbrev cX8_hail : ByteArray := prog_1_method_28_code
def yX8_hail : MethodName := ⟨RX8, "hail", "(I)I"⟩
abbrev cX8_as : ByteArray := prog_1_method_29_code
def yX8_as : MethodName := ⟨RX8, "as", "(II)I"⟩
abbrev cX8_trace : ByteArray := prog_1_method_30_code
def yX8_trace : MethodName := ⟨RX8, "trace", "()I"⟩
abbrev cX8_fault : ByteArray := prog_1_method_31_code
def yX8_fault : MethodName := ⟨RX8, "fault", "()I"⟩
abbrev cX8_many : ByteArray := prog_1_method_32_code
def yX8_many : MethodName := ⟨RX8, "many", "(I)I"⟩
abbrev cX8_isWithin : ByteArray := prog_1_method_33_code
def yX8_isWithin : MethodName := ⟨RX8, "isWithin", "(III)Z"⟩
abbrev cX8_isShift : ByteArray := prog_1_method_34_code
def yX8_isShift : MethodName := ⟨RX8, "isShift", "(I)Z"⟩
abbrev cX8_isSheet : ByteArray := prog_1_method_35_code
def yX8_isSheet : MethodName := ⟨RX8, "isSheet", "(I)Z"⟩
abbrev cX8_isLane : ByteArray := prog_1_method_36_code
def yX8_isLane : MethodName := ⟨RX8, "isLane", "(I)Z"⟩
abbrev cX8_isDayQuestion : ByteArray := prog_1_method_37_code
def yX8_isDayQuestion : MethodName := ⟨RX8, "isDayQuestion", "(I)Z"⟩
abbrev cX8_faulted : ByteArray := prog_1_method_38_code
def yX8_faulted : MethodName := ⟨RX8, "faulted", "(I)I"⟩
abbrev cX8_toldPitch : ByteArray := prog_1_method_39_code
def yX8_toldPitch : MethodName := ⟨RX8, "toldPitch", "(LPitchRows$Caller;I)I"⟩
abbrev cX8_inLeastTerms : ByteArray := prog_1_method_40_code
def yX8_inLeastTerms : MethodName := ⟨RX8, "inLeastTerms", "(II)I"⟩
abbrev cX8_areActs : ByteArray := prog_1_method_41_code
def yX8_areActs : MethodName := ⟨RX8, "areActs", "(LPitchRows$Sheet;II)Z"⟩
abbrev cX8_firstWrong : ByteArray := prog_1_method_42_code
def yX8_firstWrong : MethodName := ⟨RX8, "firstWrong", "(LPitchRows$Sheet;II)I"⟩
abbrev cX8_afterDay : ByteArray := prog_1_method_43_code
def yX8_afterDay : MethodName := ⟨RX8, "afterDay", "(I)I"⟩
abbrev cX8_mostListened : ByteArray := prog_1_method_44_code
def yX8_mostListened : MethodName := ⟨RX8, "mostListened", "(I[I)I"⟩
abbrev cX8_leave : ByteArray := prog_1_method_45_code
def yX8_leave : MethodName := ⟨RX8, "leave", "(I)V"⟩
abbrev cX8_plainTelling : ByteArray := prog_1_method_46_code
def yX8_plainTelling : MethodName := ⟨RX8, "plainTelling", "(LPitchRows$Caller;)I"⟩
abbrev cX8_broadTelling : ByteArray := prog_1_method_47_code
def yX8_broadTelling : MethodName := ⟨RX8, "broadTelling", "(LPitchRows$Caller;)I"⟩
abbrev cX8_keenTelling : ByteArray := prog_1_method_48_code
def yX8_keenTelling : MethodName := ⟨RX8, "keenTelling", "(LPitchRows$Caller;)I"⟩
abbrev cX8_lentHail : ByteArray := prog_1_method_49_code
def yX8_lentHail : MethodName := ⟨RX8, "lentHail", "(I)I"⟩
abbrev cX8_keenHail : ByteArray := prog_1_method_50_code
def yX8_keenHail : MethodName := ⟨RX8, "keenHail", "()I"⟩
def RX9 : String := "PitchRowsModel"
def TX9 : u_T := fun k => match k with
  | 0 => ("PitchRowsModel", "fault", "I", false)
  | 1 => ("PitchRowsModel", "callers", "I", false)
  | 2 => ("PitchRowsModel", "beats", "I", false)
  | 3 => ("PitchRowsModel", "kindOf", "[I", true)
  | 4 => ("PitchRowsModel", "pitchOf", "[I", true)
  | 5 => ("PitchRowsModel", "readAt", "I", false)
  | 6 => ("PitchRowsModel", "readCallers", "I", false)
  | 7 => ("PitchRowsModel", "readBeats", "I", false)
  | 8 => ("PitchRowsModel", "readKind", "[I", true)
  | 9 => ("PitchRowsModel", "readPitch", "[I", true)
  | 10 => ("PitchRowsModel", "tried", "[I", true)
  | 11 => ("PitchRowsModel", "sendings", "I", false)
  | 12 => ("PitchRowsModel", "sentBy", "[I", true)
  | 13 => ("PitchRowsModel", "sentAt", "[I", true)
  | 14 => ("PitchRowsModel", "sentHigh", "[I", true)
  | 15 => ("PitchRowsModel", "hadSendings", "I", false)
  | 16 => ("PitchRowsModel", "hadBy", "[I", true)
  | 17 => ("PitchRowsModel", "hadAt", "[I", true)
  | 18 => ("PitchRowsModel", "hadHigh", "[I", true)
  | 19 => ("PitchRowsModel", "peakOf", "I", false)
  | 20 => ("PitchRowsModel", "peakLate", "I", false)
  | 21 => ("PitchRowsModel", "peakHigh", "I", false)
  | 22 => ("PitchRowsModel", "readings", "I", false)
  | 23 => ("PitchRowsModel", "readingBy", "[I", true)
  | 24 => ("PitchRowsModel", "readingOf", "[I", true)
  | 25 => ("PitchRowsModel", "readingLate", "[I", true)
  | 26 => ("PitchRowsModel", "readingHigh", "[I", true)
  | 27 => ("PitchRowsModel", "readingIs", "[I", true)
  | 28 => ("PitchRowsModel", "sheetSize", "[I", true)
  | 29 => ("PitchRowsModel", "sheetLane", "[I", true)
  | 30 => ("PitchRowsModel", "sheet", "[I", true)
  | 31 => ("PitchRowsModel", "hands", "[I", true)
  | _ => ("PitchRowsModel", "traceNow", "I", false)
def tyX9 : Nat → FieldType := fun k => match k with
  | 0 => .int
  | 1 => .int
  | 2 => .int
  | 3 => .array .int
  | 4 => .array .int
  | 5 => .int
  | 6 => .int
  | 7 => .int
  | 8 => .array .int
  | 9 => .array .int
  | 10 => .array .int
  | 11 => .int
  | 12 => .array .int
  | 13 => .array .int
  | 14 => .array .int
  | 15 => .int
  | 16 => .array .int
  | 17 => .array .int
  | 18 => .array .int
  | 19 => .int
  | 20 => .int
  | 21 => .int
  | 22 => .int
  | 23 => .array .int
  | 24 => .array .int
  | 25 => .array .int
  | 26 => .array .int
  | 27 => .array .int
  | 28 => .array .int
  | 29 => .array .int
  | 30 => .array .int
  | 31 => .array .int
  | _ => .int
abbrev wsX90 : List Cond := u_ws RX9 TX9 33
theorem nmX9 : ∀ a, a < 33 → ∀ b, b < 33 → a ≠ b → (TX9 a).2.1 ≠ (TX9 b).2.1 := by decide +kernel
theorem tyX9_ok : ∀ k, k < 33 → parseFieldDescriptor (TX9 k).2.2.1 = some (tyX9 k) := by decide +kernel
abbrev cX9_init : ByteArray := prog_11_method_1_code
def yX9_init : MethodName := ⟨RX9, "<init>", "()V"⟩
abbrev cX9_in : ByteArray := prog_11_method_2_code
def yX9_in : MethodName := ⟨RX9, "in", "(JJJ)Z"⟩
abbrev cX9_lost : ByteArray := prog_11_method_3_code
def yX9_lost : MethodName := ⟨RX9, "lost", "()J"⟩
abbrev cX9_bits : ByteArray := prog_11_method_4_code
def yX9_bits : MethodName := ⟨RX9, "bits", "(I)I"⟩
abbrev cX9_share : ByteArray := prog_11_method_5_code
def yX9_share : MethodName := ⟨RX9, "share", "(JJI)J"⟩
abbrev cX9_refused : ByteArray := prog_11_method_6_code
def yX9_refused : MethodName := ⟨RX9, "refused", "(I)I"⟩
abbrev cX9_failed : ByteArray := prog_11_method_7_code
def yX9_failed : MethodName := ⟨RX9, "failed", "(I)I"⟩
abbrev cX9_failedLong : ByteArray := prog_11_method_8_code
def yX9_failedLong : MethodName := ⟨RX9, "failedLong", "(I)J"⟩
abbrev cX9_noCaller : ByteArray := prog_11_method_9_code
def yX9_noCaller : MethodName := ⟨RX9, "noCaller", "(I)Z"⟩
abbrev cX9_noBeat : ByteArray := prog_11_method_10_code
def yX9_noBeat : MethodName := ⟨RX9, "noBeat", "(I)Z"⟩
abbrev cX9_codeAt : ByteArray := prog_11_method_11_code
def yX9_codeAt : MethodName := ⟨RX9, "codeAt", "(II)I"⟩
abbrev cX9_readsSign : ByteArray := prog_11_method_12_code
def yX9_readsSign : MethodName := ⟨RX9, "readsSign", "(III)Z"⟩
abbrev cX9_readsCaller : ByteArray := prog_11_method_13_code
def yX9_readsCaller : MethodName := ⟨RX9, "readsCaller", "(II)Z"⟩
abbrev cX9_readsCallers : ByteArray := prog_11_method_14_code
def yX9_readsCallers : MethodName := ⟨RX9, "readsCallers", "(II)Z"⟩
abbrev cX9_cellsBarred : ByteArray := prog_11_method_15_code
def yX9_cellsBarred : MethodName := ⟨RX9, "cellsBarred", "(IIIJ)I"⟩
abbrev cX9_callers : ByteArray := prog_11_method_16_code
def yX9_callers : MethodName := ⟨RX9, "callers", "(IIII)I"⟩
abbrev cX9_pitch : ByteArray := prog_11_method_17_code
def yX9_pitch : MethodName := ⟨RX9, "pitch", "(II)I"⟩
abbrev cX9_freeOf : ByteArray := prog_11_method_18_code
def yX9_freeOf : MethodName := ⟨RX9, "freeOf", "(I)I"⟩
abbrev cX9_areUnlike : ByteArray := prog_11_method_19_code
def yX9_areUnlike : MethodName := ⟨RX9, "areUnlike", "()Z"⟩
abbrev cX9_isGood : ByteArray := prog_11_method_20_code
def yX9_isGood : MethodName := ⟨RX9, "isGood", "()Z"⟩
abbrev cX9_triesFirst : ByteArray := prog_11_method_21_code
def yX9_triesFirst : MethodName := ⟨RX9, "triesFirst", "()V"⟩
abbrev cX9_triesNext : ByteArray := prog_11_method_22_code
def yX9_triesNext : MethodName := ⟨RX9, "triesNext", "()Z"⟩
abbrev cX9_hasThoseOf : ByteArray := prog_11_method_23_code
def yX9_hasThoseOf : MethodName := ⟨RX9, "hasThoseOf", "(I)Z"⟩
abbrev cX9_triesThoseOf : ByteArray := prog_11_method_24_code
def yX9_triesThoseOf : MethodName := ⟨RX9, "triesThoseOf", "(I)V"⟩
abbrev cX9_goodNow : ByteArray := prog_11_method_25_code
def yX9_goodNow : MethodName := ⟨RX9, "goodNow", "(I)I"⟩
abbrev cX9_ofCaller : ByteArray := prog_11_method_26_code
def yX9_ofCaller : MethodName := ⟨RX9, "ofCaller", "(II)I"⟩
abbrev cX9_tune : ByteArray := prog_11_method_27_code
def yX9_tune : MethodName := ⟨RX9, "tune", "(III)I"⟩
abbrev cX9_counts : ByteArray := prog_11_method_28_code
def yX9_counts : MethodName := ⟨RX9, "counts", "(III)I"⟩
abbrev cX9_heardBy : ByteArray := prog_11_method_29_code
def yX9_heardBy : MethodName := ⟨RX9, "heardBy", "(IIII)I"⟩
abbrev cX9_isShift : ByteArray := prog_11_method_30_code
def yX9_isShift : MethodName := ⟨RX9, "isShift", "(I)Z"⟩
abbrev cX9_hears : ByteArray := prog_11_method_31_code
def yX9_hears : MethodName := ⟨RX9, "hears", "(IIII)I"⟩
abbrev cX9_sends : ByteArray := prog_11_method_32_code
def yX9_sends : MethodName := ⟨RX9, "sends", "(III)Z"⟩
abbrev cX9_send : ByteArray := prog_11_method_33_code
def yX9_send : MethodName := ⟨RX9, "send", "(III)I"⟩
abbrev cX9_unsend : ByteArray := prog_11_method_34_code
def yX9_unsend : MethodName := ⟨RX9, "unsend", "(I)I"⟩
abbrev cX9_isMoment : ByteArray := prog_11_method_35_code
def yX9_isMoment : MethodName := ⟨RX9, "isMoment", "(I)Z"⟩
abbrev cX9_airOf : ByteArray := prog_11_method_36_code
def yX9_airOf : MethodName := ⟨RX9, "airOf", "(I)I"⟩
abbrev cX9_air : ByteArray := prog_11_method_37_code
def yX9_air : MethodName := ⟨RX9, "air", "(I)I"⟩
abbrev cX9_countsOfAll : ByteArray := prog_11_method_38_code
def yX9_countsOfAll : MethodName := ⟨RX9, "countsOfAll", "(III)I"⟩
abbrev cX9_listensTo : ByteArray := prog_11_method_39_code
def yX9_listensTo : MethodName := ⟨RX9, "listensTo", "(II)I"⟩
abbrev cX9_listen : ByteArray := prog_11_method_40_code
def yX9_listen : MethodName := ⟨RX9, "listen", "(II)I"⟩
abbrev cX9_loudestOf : ByteArray := prog_11_method_41_code
def yX9_loudestOf : MethodName := ⟨RX9, "loudestOf", "(I)I"⟩
abbrev cX9_loudest : ByteArray := prog_11_method_42_code
def yX9_loudest : MethodName := ⟨RX9, "loudest", "(II)I"⟩
abbrev cX9_isAsTold : ByteArray := prog_11_method_43_code
def yX9_isAsTold : MethodName := ⟨RX9, "isAsTold", "(II)Z"⟩
abbrev cX9_doesPair : ByteArray := prog_11_method_44_code
def yX9_doesPair : MethodName := ⟨RX9, "doesPair", "(II)Z"⟩
abbrev cX9_firstOfTwo : ByteArray := prog_11_method_45_code
def yX9_firstOfTwo : MethodName := ⟨RX9, "firstOfTwo", "()I"⟩
abbrev cX9_lastThatSounds : ByteArray := prog_11_method_46_code
def yX9_lastThatSounds : MethodName := ⟨RX9, "lastThatSounds", "()I"⟩
abbrev cX9_manyThatSound : ByteArray := prog_11_method_47_code
def yX9_manyThatSound : MethodName := ⟨RX9, "manyThatSound", "()I"⟩
abbrev cX9_dayOf : ByteArray := prog_11_method_48_code
def yX9_dayOf : MethodName := ⟨RX9, "dayOf", "(III)I"⟩
abbrev cX9_day : ByteArray := prog_11_method_49_code
def yX9_day : MethodName := ⟨RX9, "day", "(IIIII)I"⟩
abbrev cX9_peaks : ByteArray := prog_11_method_50_code
def yX9_peaks : MethodName := ⟨RX9, "peaks", "(I)V"⟩
abbrev cX9_peak : ByteArray := prog_11_method_51_code
def yX9_peak : MethodName := ⟨RX9, "peak", "(II)I"⟩
abbrev cX9_clash : ByteArray := prog_11_method_52_code
def yX9_clash : MethodName := ⟨RX9, "clash", "(II)I"⟩
abbrev cX9_rows : ByteArray := prog_11_method_53_code
def yX9_rows : MethodName := ⟨RX9, "rows", "()I"⟩
abbrev cX9_ways : ByteArray := prog_11_method_54_code
def yX9_ways : MethodName := ⟨RX9, "ways", "(II)I"⟩
abbrev cX9_next : ByteArray := prog_11_method_55_code
def yX9_next : MethodName := ⟨RX9, "next", "(II)I"⟩
abbrev cX9_reading : ByteArray := prog_11_method_56_code
def yX9_reading : MethodName := ⟨RX9, "reading", "(IIIII)I"⟩
abbrev cX9_back : ByteArray := prog_11_method_57_code
def yX9_back : MethodName := ⟨RX9, "back", "(I)I"⟩
abbrev cX9_areSo : ByteArray := prog_11_method_58_code
def yX9_areSo : MethodName := ⟨RX9, "areSo", "()Z"⟩
abbrev cX9_kinds : ByteArray := prog_11_method_59_code
def yX9_kinds : MethodName := ⟨RX9, "kinds", "(I)I"⟩
abbrev cX9_pitches : ByteArray := prog_11_method_60_code
def yX9_pitches : MethodName := ⟨RX9, "pitches", "(II)I"⟩
abbrev cX9_odds : ByteArray := prog_11_method_61_code
def yX9_odds : MethodName := ⟨RX9, "odds", "(III)J"⟩
abbrev cX9_noSheet : ByteArray := prog_11_method_62_code
def yX9_noSheet : MethodName := ⟨RX9, "noSheet", "(I)Z"⟩
abbrev cX9_sheet : ByteArray := prog_11_method_63_code
def yX9_sheet : MethodName := ⟨RX9, "sheet", "(III)I"⟩
abbrev cX9_lose : ByteArray := prog_11_method_64_code
def yX9_lose : MethodName := ⟨RX9, "lose", "(I)I"⟩
abbrev cX9_noCell : ByteArray := prog_11_method_65_code
def yX9_noCell : MethodName := ⟨RX9, "noCell", "(II)I"⟩
abbrev cX9_put : ByteArray := prog_11_method_66_code
def yX9_put : MethodName := ⟨RX9, "put", "(III)I"⟩
abbrev cX9_cell : ByteArray := prog_11_method_67_code
def yX9_cell : MethodName := ⟨RX9, "cell", "(III)J"⟩
abbrev cX9_isBeyond : ByteArray := prog_11_method_68_code
def yX9_isBeyond : MethodName := ⟨RX9, "isBeyond", "(IJI)Z"⟩
abbrev cX9_copy : ByteArray := prog_11_method_69_code
def yX9_copy : MethodName := ⟨RX9, "copy", "(IIIII)I"⟩
abbrev cX9_traced : ByteArray := prog_11_method_70_code
def yX9_traced : MethodName := ⟨RX9, "traced", "(I)V"⟩
abbrev cX9_tell : ByteArray := prog_11_method_71_code
def yX9_tell : MethodName := ⟨RX9, "tell", "(I)I"⟩
abbrev cX9_hail : ByteArray := prog_11_method_72_code
def yX9_hail : MethodName := ⟨RX9, "hail", "(I)I"⟩
abbrev cX9_as : ByteArray := prog_11_method_73_code
def yX9_as : MethodName := ⟨RX9, "as", "(II)I"⟩
abbrev cX9_trace : ByteArray := prog_11_method_74_code
def yX9_trace : MethodName := ⟨RX9, "trace", "()I"⟩
abbrev cX9_fault : ByteArray := prog_11_method_75_code
def yX9_fault : MethodName := ⟨RX9, "fault", "()I"⟩
abbrev cX9_many : ByteArray := prog_11_method_76_code
def yX9_many : MethodName := ⟨RX9, "many", "(I)I"⟩
def RJ6 : String := "java/lang/Integer"
def TJ6 : u_T := fun k => match k with
  | _ => ("", "", "", false)
def tyJ6 : Nat → FieldType := fun k => match k with
  | _ => .int
abbrev wsJ60 : List Cond := u_ws RJ6 TJ6 0
theorem nmJ6 : ∀ a, a < 0 → ∀ b, b < 0 → a ≠ b → (TJ6 a).2.1 ≠ (TJ6 b).2.1 := by decide +kernel
theorem tyJ6_ok : ∀ k, k < 0 → parseFieldDescriptor (TJ6 k).2.2.1 = some (tyJ6 k) := by decide +kernel
abbrev cJ6_bitCount_0f7a4 : ByteArray := prog_12_method_49_code
def yJ6_bitCount_0f7a4 : MethodName := ⟨RJ6, "bitCount", "(I)I"⟩
def RJ9 : String := "java/lang/Math"
def TJ9 : u_T := fun k => match k with
  | _ => ("", "", "", false)
def tyJ9 : Nat → FieldType := fun k => match k with
  | _ => .int
abbrev wsJ90 : List Cond := u_ws RJ9 TJ9 0
theorem nmJ9 : ∀ a, a < 0 → ∀ b, b < 0 → a ≠ b → (TJ9 a).2.1 ≠ (TJ9 b).2.1 := by decide +kernel
theorem tyJ9_ok : ∀ k, k < 0 → parseFieldDescriptor (TJ9 k).2.2.1 = some (tyJ9 k) := by decide +kernel
abbrev cJ9_max_7cf53 : ByteArray := prog_13_method_65_code
def yJ9_max_7cf53 : MethodName := ⟨RJ9, "max", "(II)I"⟩
def RJ10 : String := "java/lang/System"
def TJ10 : u_T := fun k => match k with
  | _ => ("", "", "", false)
def tyJ10 : Nat → FieldType := fun k => match k with
  | _ => .int
abbrev wsJ100 : List Cond := u_ws RJ10 TJ10 0
theorem nmJ10 : ∀ a, a < 0 → ∀ b, b < 0 → a ≠ b → (TJ10 a).2.1 ≠ (TJ10 b).2.1 := by decide +kernel
theorem tyJ10_ok : ∀ k, k < 0 → parseFieldDescriptor (TJ10 k).2.2.1 = some (tyJ10 k) := by decide +kernel
def RJ7 : String := "java/util/Arrays"
def TJ7 : u_T := fun k => match k with
  | _ => ("", "", "", false)
def tyJ7 : Nat → FieldType := fun k => match k with
  | _ => .int
abbrev wsJ70 : List Cond := u_ws RJ7 TJ7 0
theorem nmJ7 : ∀ a, a < 0 → ∀ b, b < 0 → a ≠ b → (TJ7 a).2.1 ≠ (TJ7 b).2.1 := by decide +kernel
theorem tyJ7_ok : ∀ k, k < 0 → parseFieldDescriptor (TJ7 k).2.2.1 = some (tyJ7 k) := by decide +kernel
abbrev cJ7_fill_53178 : ByteArray := prog_15_method_103_code
def yJ7_fill_53178 : MethodName := ⟨RJ7, "fill", "([II)V"⟩
def RL : String := "PitchRowsLaw"
abbrev cL_law : ByteArray := code
def yL_law : MethodName := ⟨RL, "law", "([I)Z"⟩
abbrev vwCl : List vw_C := [(RX0, TX0, 5), (RX1, TX1, 2), (RX2, TX2, 3), (RX3, TX3, 4), (RX5, TX5, 6), (RX6, TX6, 4), (RX7, TX7, 4), (RX8, TX8, 9), (RX9, TX9, 33)]
def tblG : List Cond := lw_tbl.filter goodWord
theorem tblG_good {w : Cond} (h : w ∈ tblG) : (w.onTables && w.keeps) = true ∨ ∃ ty, w = .arrayClass ty := good_of_word (List.mem_filter.mp h).2
theorem tblG_lw {w : Cond} (h : w ∈ tblG) : w ∈ lw_tbl := (List.mem_filter.mp h).1
theorem my_in (i : Nat) {w : Cond} (h : tables_1[i]? = some w) (hg : goodWord w = true) : w ∈ tblG := List.mem_filter.mpr ⟨List.mem_append_right _ (List.mem_of_getElem? h), hg⟩
theorem my_inP (i : Nat) {w : Cond} (h : (k2_sels lw_privs)[i]? = some w) (hg : goodWord w = true) : w ∈ tblG := List.mem_filter.mpr ⟨List.mem_append_left _ (List.mem_of_getElem? h), hg⟩
theorem my_inU {C : String} {T : u_T} {N : Nat} (h : ∀ w ∈ u_ws C T N, w ∈ tables_1) : ∀ w ∈ u_ws C T N, w ∈ tblG := by
  intro w hw
  refine List.mem_filter.mpr ⟨List.mem_append_right _ (h w hw), ?_⟩
  obtain ⟨k, -, rfl⟩ := List.mem_map.mp hw
  unfold u_lay
  split <;> rfl
theorem tw_in_L : (Jvm.Cond.initialized "PitchRowsLaw") ∈ tblG := my_in 0 (by decide +kernel) (by decide +kernel)
theorem tw_in_X8 : (Jvm.Cond.initialized "PitchRows") ∈ tblG := my_in 1 (by decide +kernel) (by decide +kernel)
theorem tw_in_X2 : (Jvm.Cond.initialized "PitchRows$Choir") ∈ tblG := my_in 2 (by decide +kernel) (by decide +kernel)
theorem tw_in_X1 : (Jvm.Cond.initialized "PitchRows$Caller") ∈ tblG := my_in 3 (by decide +kernel) (by decide +kernel)
theorem tw_in_X4 : (Jvm.Cond.initialized "PitchRows$Numbered") ∈ tblG := my_in 4 (by decide +kernel) (by decide +kernel)
theorem tw_in_X0 : (Jvm.Cond.initialized "PitchRows$Air") ∈ tblG := my_in 5 (by decide +kernel) (by decide +kernel)
theorem tw_in_X5 : (Jvm.Cond.initialized "PitchRows$Readings") ∈ tblG := my_in 6 (by decide +kernel) (by decide +kernel)
theorem tw_in_X3 : (Jvm.Cond.initialized "PitchRows$GoodRows") ∈ tblG := my_in 7 (by decide +kernel) (by decide +kernel)
theorem tw_in_X7 : (Jvm.Cond.initialized "PitchRows$TextReader") ∈ tblG := my_in 8 (by decide +kernel) (by decide +kernel)
theorem tw_in_X6 : (Jvm.Cond.initialized "PitchRows$Sheet") ∈ tblG := my_in 9 (by decide +kernel) (by decide +kernel)
theorem tw_in_X9 : (Jvm.Cond.initialized "PitchRowsModel") ∈ tblG := my_in 10 (by decide +kernel) (by decide +kernel)
theorem tw_in_J7 : (Jvm.Cond.initialized "java/util/Arrays") ∈ tblG := my_in 11 (by decide +kernel) (by decide +kernel)
theorem tw_in_J10 : (Jvm.Cond.initialized "java/lang/System") ∈ tblG := my_in 12 (by decide +kernel) (by decide +kernel)
theorem tw_in_J6 : (Jvm.Cond.initialized "java/lang/Integer") ∈ tblG := my_in 13 (by decide +kernel) (by decide +kernel)
theorem tw_in_J9 : (Jvm.Cond.initialized "java/lang/Math") ∈ tblG := my_in 14 (by decide +kernel) (by decide +kernel)
theorem tw_kc_L_7 : (Jvm.Cond.classLink "PitchRowsLaw" (7 : Nat) "PitchRows") ∈ tblG := my_in 15 (by decide +kernel) (by decide +kernel)
theorem tw_ia_X8 : (Jvm.Cond.instantiable "PitchRows" (9 : Nat)) ∈ tblG := my_in 16 (by decide +kernel) (by decide +kernel)
theorem tw_ml_L_9 : (Jvm.Cond.methodLink "PitchRowsLaw" (9 : Nat) ({ cls := "PitchRows", name := "<init>", desc := "()V" } : Jvm.MethodName)) ∈ tblG := my_in 17 (by decide +kernel) (by decide +kernel)
theorem tw_im_X8_init : (Jvm.Cond.instanceMethod ({ cls := "PitchRows", name := "<init>", desc := "()V" } : Jvm.MethodName)) ∈ tblG := my_in 18 (by decide +kernel) (by decide +kernel)
theorem tw_cd_X8_init : (Jvm.Cond.code ({ cls := "PitchRows", name := "<init>", desc := "()V" } : Jvm.MethodName) prog_1_method_1_code (2 : Nat) (Option.none : Option Jvm.ClassFile.FieldType)) ∈ tblG := my_in 19 (by decide +kernel) (by decide +kernel)
theorem tw_ml_X8_3 : (Jvm.Cond.methodLink "PitchRows" (3 : Nat) ({ cls := "java/lang/Object", name := "<init>", desc := "()V" } : Jvm.MethodName)) ∈ tblG := my_in 20 (by decide +kernel) (by decide +kernel)
theorem tw_im_java_lang_Object__init_ : (Jvm.Cond.instanceMethod ({ cls := "java/lang/Object", name := "<init>", desc := "()V" } : Jvm.MethodName)) ∈ tblG := my_in 21 (by decide +kernel) (by decide +kernel)
theorem tw_cd_java_lang_Object__init_ : (Jvm.Cond.code ({ cls := "java/lang/Object", name := "<init>", desc := "()V" } : Jvm.MethodName) object_method_1_code (1 : Nat) (Option.none : Option Jvm.ClassFile.FieldType)) ∈ tblG := my_in 22 (by decide +kernel) (by decide +kernel)
theorem tw_kc_X8_9 : (Jvm.Cond.classLink "PitchRows" (9 : Nat) "PitchRows$Choir") ∈ tblG := my_in 23 (by decide +kernel) (by decide +kernel)
theorem tw_ia_X2 : (Jvm.Cond.instantiable "PitchRows$Choir" (3 : Nat)) ∈ tblG := my_in 24 (by decide +kernel) (by decide +kernel)
theorem tw_ml_X8_11 : (Jvm.Cond.methodLink "PitchRows" (11 : Nat) ({ cls := "PitchRows$Choir", name := "<init>", desc := "()V" } : Jvm.MethodName)) ∈ tblG := my_in 25 (by decide +kernel) (by decide +kernel)
theorem tw_im_X2_init : (Jvm.Cond.instanceMethod ({ cls := "PitchRows$Choir", name := "<init>", desc := "()V" } : Jvm.MethodName)) ∈ tblG := my_in 26 (by decide +kernel) (by decide +kernel)
theorem tw_cd_X2_init : (Jvm.Cond.code ({ cls := "PitchRows$Choir", name := "<init>", desc := "()V" } : Jvm.MethodName) prog_4_method_1_code (2 : Nat) (Option.none : Option Jvm.ClassFile.FieldType)) ∈ tblG := my_in 27 (by decide +kernel) (by decide +kernel)
theorem tw_ml_X2_3 : (Jvm.Cond.methodLink "PitchRows$Choir" (3 : Nat) ({ cls := "java/lang/Object", name := "<init>", desc := "()V" } : Jvm.MethodName)) ∈ tblG := my_in 28 (by decide +kernel) (by decide +kernel)
theorem tw_kc_X2_9 : (Jvm.Cond.classLink "PitchRows$Choir" (9 : Nat) "PitchRows$Caller") ∈ tblG := my_in 29 (by decide +kernel) (by decide +kernel)
theorem tw_ia_X1 : (Jvm.Cond.instantiable "PitchRows$Caller" (2 : Nat)) ∈ tblG := my_in 31 (by decide +kernel) (by decide +kernel)
theorem tw_im_X1_init : (Jvm.Cond.instanceMethod ({ cls := "PitchRows$Caller", name := "<init>", desc := "()V" } : Jvm.MethodName)) ∈ tblG := my_in 33 (by decide +kernel) (by decide +kernel)
theorem tw_cd_X1_init : (Jvm.Cond.code ({ cls := "PitchRows$Caller", name := "<init>", desc := "()V" } : Jvm.MethodName) prog_3_method_1_code (1 : Nat) (Option.none : Option Jvm.ClassFile.FieldType)) ∈ tblG := my_in 34 (by decide +kernel) (by decide +kernel)
theorem tw_ml_X1_3 : (Jvm.Cond.methodLink "PitchRows$Caller" (3 : Nat) ({ cls := "java/lang/Object", name := "<init>", desc := "()V" } : Jvm.MethodName)) ∈ tblG := my_in 35 (by decide +kernel) (by decide +kernel)
theorem tw_fl_X1_15 : (Jvm.Cond.fieldLink "PitchRows$Caller" (15 : Nat) "PitchRows$Caller" "kind" "I") ∈ tblG := my_in 36 (by decide +kernel) (by decide +kernel)
theorem tw_fl_X8_101 : (Jvm.Cond.fieldLink "PitchRows" (101 : Nat) "PitchRows$Caller" "kind" "I") ∈ tblG := my_in 37 (by decide +kernel) (by decide +kernel)
theorem tw_fl_X2_44 : (Jvm.Cond.fieldLink "PitchRows$Choir" (44 : Nat) "PitchRows$Caller" "kind" "I") ∈ tblG := my_in 38 (by decide +kernel) (by decide +kernel)
theorem tw_fl_X1_9 : (Jvm.Cond.fieldLink "PitchRows$Caller" (9 : Nat) "PitchRows$Caller" "pitch" "[I") ∈ tblG := my_in 39 (by decide +kernel) (by decide +kernel)
theorem tw_fl_X8_112 : (Jvm.Cond.fieldLink "PitchRows" (112 : Nat) "PitchRows$Caller" "pitch" "[I") ∈ tblG := my_in 40 (by decide +kernel) (by decide +kernel)
theorem tw_fl_X0_46 : (Jvm.Cond.fieldLink "PitchRows$Air" (46 : Nat) "PitchRows$Caller" "pitch" "[I") ∈ tblG := my_in 41 (by decide +kernel) (by decide +kernel)
theorem tw_fl_X2_47 : (Jvm.Cond.fieldLink "PitchRows$Choir" (47 : Nat) "PitchRows$Caller" "pitch" "[I") ∈ tblG := my_in 42 (by decide +kernel) (by decide +kernel)
theorem tw_su_X1 : (Jvm.Cond.superclass "PitchRows$Caller" "java/lang/Object") ∈ tblG := my_in 47 (by decide +kernel) (by decide +kernel)
theorem tw_ac_48 : (Jvm.Cond.arrayClass Jvm.ClassFile.FieldType.int) ∈ tblG := my_in 48 (by decide +kernel) (by decide +kernel)
theorem tw_fl_X2_11 : (Jvm.Cond.fieldLink "PitchRows$Choir" (11 : Nat) "PitchRows$Choir" "callers" "[LPitchRows$Caller;") ∈ tblG := my_in 49 (by decide +kernel) (by decide +kernel)
theorem tw_fl_X8_98 : (Jvm.Cond.fieldLink "PitchRows" (98 : Nat) "PitchRows$Choir" "callers" "[LPitchRows$Caller;") ∈ tblG := my_in 50 (by decide +kernel) (by decide +kernel)
theorem tw_fl_X0_40 : (Jvm.Cond.fieldLink "PitchRows$Air" (40 : Nat) "PitchRows$Choir" "callers" "[LPitchRows$Caller;") ∈ tblG := my_in 51 (by decide +kernel) (by decide +kernel)
theorem tw_fl_X2_18 : (Jvm.Cond.fieldLink "PitchRows$Choir" (18 : Nat) "PitchRows$Choir" "count" "I") ∈ tblG := my_in 52 (by decide +kernel) (by decide +kernel)
theorem tw_fl_X8_94 : (Jvm.Cond.fieldLink "PitchRows" (94 : Nat) "PitchRows$Choir" "count" "I") ∈ tblG := my_in 53 (by decide +kernel) (by decide +kernel)
theorem tw_fl_X2_26 : (Jvm.Cond.fieldLink "PitchRows$Choir" (26 : Nat) "PitchRows$Choir" "beats" "I") ∈ tblG := my_in 54 (by decide +kernel) (by decide +kernel)
theorem tw_fl_X8_106 : (Jvm.Cond.fieldLink "PitchRows" (106 : Nat) "PitchRows$Choir" "beats" "I") ∈ tblG := my_in 55 (by decide +kernel) (by decide +kernel)
theorem tw_fl_X0_51 : (Jvm.Cond.fieldLink "PitchRows$Air" (51 : Nat) "PitchRows$Choir" "beats" "I") ∈ tblG := my_in 56 (by decide +kernel) (by decide +kernel)
theorem tw_su_X2 : (Jvm.Cond.superclass "PitchRows$Choir" "java/lang/Object") ∈ tblG := my_in 63 (by decide +kernel) (by decide +kernel)
theorem tw_kc_X8_18 : (Jvm.Cond.classLink "PitchRows" (18 : Nat) "PitchRows$Air") ∈ tblG := my_in 64 (by decide +kernel) (by decide +kernel)
theorem tw_ia_X0 : (Jvm.Cond.instantiable "PitchRows$Air" (5 : Nat)) ∈ tblG := my_in 65 (by decide +kernel) (by decide +kernel)
theorem tw_im_X0_init : (Jvm.Cond.instanceMethod ({ cls := "PitchRows$Air", name := "<init>", desc := "()V" } : Jvm.MethodName)) ∈ tblG := my_in 67 (by decide +kernel) (by decide +kernel)
theorem tw_cd_X0_init : (Jvm.Cond.code ({ cls := "PitchRows$Air", name := "<init>", desc := "()V" } : Jvm.MethodName) prog_2_method_1_code (1 : Nat) (Option.none : Option Jvm.ClassFile.FieldType)) ∈ tblG := my_in 68 (by decide +kernel) (by decide +kernel)
theorem tw_im_X4_init : (Jvm.Cond.instanceMethod ({ cls := "PitchRows$Numbered", name := "<init>", desc := "()V" } : Jvm.MethodName)) ∈ tblG := my_in 70 (by decide +kernel) (by decide +kernel)
theorem tw_cd_X4_init : (Jvm.Cond.code ({ cls := "PitchRows$Numbered", name := "<init>", desc := "()V" } : Jvm.MethodName) prog_6_method_1_code (1 : Nat) (Option.none : Option Jvm.ClassFile.FieldType)) ∈ tblG := my_in 71 (by decide +kernel) (by decide +kernel)
theorem tw_ml_X4_1 : (Jvm.Cond.methodLink "PitchRows$Numbered" (1 : Nat) ({ cls := "java/lang/Object", name := "<init>", desc := "()V" } : Jvm.MethodName)) ∈ tblG := my_in 72 (by decide +kernel) (by decide +kernel)
theorem tw_fl_X0_9 : (Jvm.Cond.fieldLink "PitchRows$Air" (9 : Nat) "PitchRows$Air" "whose" "[I") ∈ tblG := my_in 73 (by decide +kernel) (by decide +kernel)
theorem tw_fl_X0_15 : (Jvm.Cond.fieldLink "PitchRows$Air" (15 : Nat) "PitchRows$Air" "moment" "[I") ∈ tblG := my_in 74 (by decide +kernel) (by decide +kernel)
theorem tw_fl_X0_18 : (Jvm.Cond.fieldLink "PitchRows$Air" (18 : Nat) "PitchRows$Air" "high" "[I") ∈ tblG := my_in 75 (by decide +kernel) (by decide +kernel)
theorem tw_fl_X0_21 : (Jvm.Cond.fieldLink "PitchRows$Air" (21 : Nat) "PitchRows$Air" "sounds" "[I") ∈ tblG := my_in 76 (by decide +kernel) (by decide +kernel)
theorem tw_fl_X8_148 : (Jvm.Cond.fieldLink "PitchRows" (148 : Nat) "PitchRows$Air" "sounds" "[I") ∈ tblG := my_in 77 (by decide +kernel) (by decide +kernel)
theorem tw_fl_X0_24 : (Jvm.Cond.fieldLink "PitchRows$Air" (24 : Nat) "PitchRows$Air" "count" "I") ∈ tblG := my_in 78 (by decide +kernel) (by decide +kernel)
theorem tw_sf_79 : (Jvm.Cond.sameField "PitchRows$Air" "PitchRows$Numbered" "count" "I") ∈ tblG := my_in 79 (by decide +kernel) (by decide +kernel)
theorem tw_fl_X5_27 : (Jvm.Cond.fieldLink "PitchRows$Readings" (27 : Nat) "PitchRows$Readings" "count" "I") ∈ tblG := my_in 80 (by decide +kernel) (by decide +kernel)
theorem tw_sf_81 : (Jvm.Cond.sameField "PitchRows$Readings" "PitchRows$Numbered" "count" "I") ∈ tblG := my_in 81 (by decide +kernel) (by decide +kernel)
theorem tw_fl_X4_7 : (Jvm.Cond.fieldLink "PitchRows$Numbered" (7 : Nat) "PitchRows$Numbered" "count" "I") ∈ tblG := my_in 82 (by decide +kernel) (by decide +kernel)
theorem tw_fl_X8_90 : (Jvm.Cond.fieldLink "PitchRows" (90 : Nat) "PitchRows$Air" "count" "I") ∈ tblG := my_in 83 (by decide +kernel) (by decide +kernel)
theorem tw_fl_X8_93 : (Jvm.Cond.fieldLink "PitchRows" (93 : Nat) "PitchRows$Readings" "count" "I") ∈ tblG := my_in 84 (by decide +kernel) (by decide +kernel)
theorem tw_su_X0 : (Jvm.Cond.superclass "PitchRows$Air" "PitchRows$Numbered") ∈ tblG := my_in 95 (by decide +kernel) (by decide +kernel)
theorem tw_kc_X8_28 : (Jvm.Cond.classLink "PitchRows" (28 : Nat) "PitchRows$Readings") ∈ tblG := my_in 96 (by decide +kernel) (by decide +kernel)
theorem tw_ia_X5 : (Jvm.Cond.instantiable "PitchRows$Readings" (6 : Nat)) ∈ tblG := my_in 97 (by decide +kernel) (by decide +kernel)
theorem tw_im_X5_init : (Jvm.Cond.instanceMethod ({ cls := "PitchRows$Readings", name := "<init>", desc := "()V" } : Jvm.MethodName)) ∈ tblG := my_in 99 (by decide +kernel) (by decide +kernel)
theorem tw_cd_X5_init : (Jvm.Cond.code ({ cls := "PitchRows$Readings", name := "<init>", desc := "()V" } : Jvm.MethodName) prog_7_method_1_code (1 : Nat) (Option.none : Option Jvm.ClassFile.FieldType)) ∈ tblG := my_in 100 (by decide +kernel) (by decide +kernel)
theorem tw_fl_X5_9 : (Jvm.Cond.fieldLink "PitchRows$Readings" (9 : Nat) "PitchRows$Readings" "hearer" "[I") ∈ tblG := my_in 102 (by decide +kernel) (by decide +kernel)
theorem tw_fl_X5_15 : (Jvm.Cond.fieldLink "PitchRows$Readings" (15 : Nat) "PitchRows$Readings" "whose" "[I") ∈ tblG := my_in 103 (by decide +kernel) (by decide +kernel)
theorem tw_fl_X5_18 : (Jvm.Cond.fieldLink "PitchRows$Readings" (18 : Nat) "PitchRows$Readings" "late" "[I") ∈ tblG := my_in 104 (by decide +kernel) (by decide +kernel)
theorem tw_fl_X5_21 : (Jvm.Cond.fieldLink "PitchRows$Readings" (21 : Nat) "PitchRows$Readings" "high" "[I") ∈ tblG := my_in 105 (by decide +kernel) (by decide +kernel)
theorem tw_fl_X5_24 : (Jvm.Cond.fieldLink "PitchRows$Readings" (24 : Nat) "PitchRows$Readings" "heard" "[I") ∈ tblG := my_in 106 (by decide +kernel) (by decide +kernel)
theorem tw_su_X5 : (Jvm.Cond.superclass "PitchRows$Readings" "PitchRows$Numbered") ∈ tblG := my_in 118 (by decide +kernel) (by decide +kernel)
theorem tw_kc_X8_35 : (Jvm.Cond.classLink "PitchRows" (35 : Nat) "PitchRows$GoodRows") ∈ tblG := my_in 119 (by decide +kernel) (by decide +kernel)
theorem tw_ia_X3 : (Jvm.Cond.instantiable "PitchRows$GoodRows" (4 : Nat)) ∈ tblG := my_in 120 (by decide +kernel) (by decide +kernel)
theorem tw_im_X3_init : (Jvm.Cond.instanceMethod ({ cls := "PitchRows$GoodRows", name := "<init>", desc := "()V" } : Jvm.MethodName)) ∈ tblG := my_in 122 (by decide +kernel) (by decide +kernel)
theorem tw_cd_X3_init : (Jvm.Cond.code ({ cls := "PitchRows$GoodRows", name := "<init>", desc := "()V" } : Jvm.MethodName) prog_5_method_1_code (1 : Nat) (Option.none : Option Jvm.ClassFile.FieldType)) ∈ tblG := my_in 123 (by decide +kernel) (by decide +kernel)
theorem tw_ml_X3_3 : (Jvm.Cond.methodLink "PitchRows$GoodRows" (3 : Nat) ({ cls := "java/lang/Object", name := "<init>", desc := "()V" } : Jvm.MethodName)) ∈ tblG := my_in 124 (by decide +kernel) (by decide +kernel)
theorem tw_fl_X3_18 : (Jvm.Cond.fieldLink "PitchRows$GoodRows" (18 : Nat) "PitchRows$GoodRows" "beats" "I") ∈ tblG := my_in 125 (by decide +kernel) (by decide +kernel)
theorem tw_fl_X3_22 : (Jvm.Cond.fieldLink "PitchRows$GoodRows" (22 : Nat) "PitchRows$GoodRows" "count" "I") ∈ tblG := my_in 126 (by decide +kernel) (by decide +kernel)
theorem tw_fl_X8_186 : (Jvm.Cond.fieldLink "PitchRows" (186 : Nat) "PitchRows$GoodRows" "count" "I") ∈ tblG := my_in 127 (by decide +kernel) (by decide +kernel)
theorem tw_fl_X3_9 : (Jvm.Cond.fieldLink "PitchRows$GoodRows" (9 : Nat) "PitchRows$GoodRows" "codes" "[I") ∈ tblG := my_in 128 (by decide +kernel) (by decide +kernel)
theorem tw_fl_X3_15 : (Jvm.Cond.fieldLink "PitchRows$GoodRows" (15 : Nat) "PitchRows$GoodRows" "row" "[I") ∈ tblG := my_in 129 (by decide +kernel) (by decide +kernel)
theorem tw_su_X3 : (Jvm.Cond.superclass "PitchRows$GoodRows" "java/lang/Object") ∈ tblG := my_in 138 (by decide +kernel) (by decide +kernel)
theorem tw_kc_X8_42 : (Jvm.Cond.classLink "PitchRows" (42 : Nat) "PitchRows$TextReader") ∈ tblG := my_in 139 (by decide +kernel) (by decide +kernel)
theorem tw_ia_X7 : (Jvm.Cond.instantiable "PitchRows$TextReader" (4 : Nat)) ∈ tblG := my_in 140 (by decide +kernel) (by decide +kernel)
theorem tw_im_X7_init : (Jvm.Cond.instanceMethod ({ cls := "PitchRows$TextReader", name := "<init>", desc := "()V" } : Jvm.MethodName)) ∈ tblG := my_in 142 (by decide +kernel) (by decide +kernel)
theorem tw_cd_X7_init : (Jvm.Cond.code ({ cls := "PitchRows$TextReader", name := "<init>", desc := "()V" } : Jvm.MethodName) prog_9_method_1_code (1 : Nat) (Option.none : Option Jvm.ClassFile.FieldType)) ∈ tblG := my_in 143 (by decide +kernel) (by decide +kernel)
theorem tw_ml_X7_3 : (Jvm.Cond.methodLink "PitchRows$TextReader" (3 : Nat) ({ cls := "java/lang/Object", name := "<init>", desc := "()V" } : Jvm.MethodName)) ∈ tblG := my_in 144 (by decide +kernel) (by decide +kernel)
theorem tw_fl_X7_9 : (Jvm.Cond.fieldLink "PitchRows$TextReader" (9 : Nat) "PitchRows$TextReader" "beats" "I") ∈ tblG := my_in 145 (by decide +kernel) (by decide +kernel)
theorem tw_fl_X7_15 : (Jvm.Cond.fieldLink "PitchRows$TextReader" (15 : Nat) "PitchRows$TextReader" "callers" "I") ∈ tblG := my_in 146 (by decide +kernel) (by decide +kernel)
theorem tw_fl_X8_83 : (Jvm.Cond.fieldLink "PitchRows" (83 : Nat) "PitchRows$TextReader" "callers" "I") ∈ tblG := my_in 147 (by decide +kernel) (by decide +kernel)
theorem tw_fl_X7_18 : (Jvm.Cond.fieldLink "PitchRows$TextReader" (18 : Nat) "PitchRows$TextReader" "part" "I") ∈ tblG := my_in 148 (by decide +kernel) (by decide +kernel)
theorem tw_fl_X7_21 : (Jvm.Cond.fieldLink "PitchRows$TextReader" (21 : Nat) "PitchRows$TextReader" "whole" "Z") ∈ tblG := my_in 149 (by decide +kernel) (by decide +kernel)
theorem tw_fl_X8_79 : (Jvm.Cond.fieldLink "PitchRows" (79 : Nat) "PitchRows$TextReader" "whole" "Z") ∈ tblG := my_in 150 (by decide +kernel) (by decide +kernel)
theorem tw_su_X7 : (Jvm.Cond.superclass "PitchRows$TextReader" "java/lang/Object") ∈ tblG := my_in 159 (by decide +kernel) (by decide +kernel)
theorem tw_kc_X8_49 : (Jvm.Cond.classLink "PitchRows" (49 : Nat) "PitchRows$Sheet") ∈ tblG := my_in 160 (by decide +kernel) (by decide +kernel)
theorem tw_ia_X6 : (Jvm.Cond.instantiable "PitchRows$Sheet" (4 : Nat)) ∈ tblG := my_in 162 (by decide +kernel) (by decide +kernel)
theorem tw_im_X6_init : (Jvm.Cond.instanceMethod ({ cls := "PitchRows$Sheet", name := "<init>", desc := "()V" } : Jvm.MethodName)) ∈ tblG := my_in 164 (by decide +kernel) (by decide +kernel)
theorem tw_cd_X6_init : (Jvm.Cond.code ({ cls := "PitchRows$Sheet", name := "<init>", desc := "()V" } : Jvm.MethodName) prog_8_method_1_code (1 : Nat) (Option.none : Option Jvm.ClassFile.FieldType)) ∈ tblG := my_in 165 (by decide +kernel) (by decide +kernel)
theorem tw_ml_X6_3 : (Jvm.Cond.methodLink "PitchRows$Sheet" (3 : Nat) ({ cls := "java/lang/Object", name := "<init>", desc := "()V" } : Jvm.MethodName)) ∈ tblG := my_in 166 (by decide +kernel) (by decide +kernel)
theorem tw_fl_X6_15 : (Jvm.Cond.fieldLink "PitchRows$Sheet" (15 : Nat) "PitchRows$Sheet" "hasRow" "Z") ∈ tblG := my_in 167 (by decide +kernel) (by decide +kernel)
theorem tw_fl_X8_217 : (Jvm.Cond.fieldLink "PitchRows" (217 : Nat) "PitchRows$Sheet" "hasRow" "Z") ∈ tblG := my_in 168 (by decide +kernel) (by decide +kernel)
theorem tw_fl_X6_19 : (Jvm.Cond.fieldLink "PitchRows$Sheet" (19 : Nat) "PitchRows$Sheet" "lane" "I") ∈ tblG := my_in 169 (by decide +kernel) (by decide +kernel)
theorem tw_fl_X8_230 : (Jvm.Cond.fieldLink "PitchRows" (230 : Nat) "PitchRows$Sheet" "lane" "I") ∈ tblG := my_in 170 (by decide +kernel) (by decide +kernel)
theorem tw_fl_X6_23 : (Jvm.Cond.fieldLink "PitchRows$Sheet" (23 : Nat) "PitchRows$Sheet" "length" "I") ∈ tblG := my_in 171 (by decide +kernel) (by decide +kernel)
theorem tw_fl_X6_9 : (Jvm.Cond.fieldLink "PitchRows$Sheet" (9 : Nat) "PitchRows$Sheet" "cells" "[I") ∈ tblG := my_in 172 (by decide +kernel) (by decide +kernel)
theorem tw_fl_X7_25 : (Jvm.Cond.fieldLink "PitchRows$TextReader" (25 : Nat) "PitchRows$Sheet" "cells" "[I") ∈ tblG := my_in 173 (by decide +kernel) (by decide +kernel)
theorem tw_fl_X2_33 : (Jvm.Cond.fieldLink "PitchRows$Choir" (33 : Nat) "PitchRows$Sheet" "cells" "[I") ∈ tblG := my_in 174 (by decide +kernel) (by decide +kernel)
theorem tw_fl_X8_227 : (Jvm.Cond.fieldLink "PitchRows" (227 : Nat) "PitchRows$Sheet" "cells" "[I") ∈ tblG := my_in 175 (by decide +kernel) (by decide +kernel)
theorem tw_su_X6 : (Jvm.Cond.superclass "PitchRows$Sheet" "java/lang/Object") ∈ tblG := my_in 184 (by decide +kernel) (by decide +kernel)
theorem tw_fl_X8_12 : (Jvm.Cond.fieldLink "PitchRows" (12 : Nat) "PitchRows" "choir" "LPitchRows$Choir;") ∈ tblG := my_in 185 (by decide +kernel) (by decide +kernel)
theorem tw_fl_X8_21 : (Jvm.Cond.fieldLink "PitchRows" (21 : Nat) "PitchRows" "air" "LPitchRows$Air;") ∈ tblG := my_in 186 (by decide +kernel) (by decide +kernel)
theorem tw_fl_X8_25 : (Jvm.Cond.fieldLink "PitchRows" (25 : Nat) "PitchRows" "dayAir" "LPitchRows$Air;") ∈ tblG := my_in 187 (by decide +kernel) (by decide +kernel)
theorem tw_fl_X8_31 : (Jvm.Cond.fieldLink "PitchRows" (31 : Nat) "PitchRows" "readings" "LPitchRows$Readings;") ∈ tblG := my_in 188 (by decide +kernel) (by decide +kernel)
theorem tw_fl_X8_38 : (Jvm.Cond.fieldLink "PitchRows" (38 : Nat) "PitchRows" "goodRows" "LPitchRows$GoodRows;") ∈ tblG := my_in 189 (by decide +kernel) (by decide +kernel)
theorem tw_fl_X8_45 : (Jvm.Cond.fieldLink "PitchRows" (45 : Nat) "PitchRows" "reader" "LPitchRows$TextReader;") ∈ tblG := my_in 190 (by decide +kernel) (by decide +kernel)
theorem tw_fl_X8_51 : (Jvm.Cond.fieldLink "PitchRows" (51 : Nat) "PitchRows" "sheets" "[LPitchRows$Sheet;") ∈ tblG := my_in 191 (by decide +kernel) (by decide +kernel)
theorem tw_fl_X8_256 : (Jvm.Cond.fieldLink "PitchRows" (256 : Nat) "PitchRows" "trace" "I") ∈ tblG := my_in 192 (by decide +kernel) (by decide +kernel)
theorem tw_fl_X8_56 : (Jvm.Cond.fieldLink "PitchRows" (56 : Nat) "PitchRows" "fault" "I") ∈ tblG := my_in 193 (by decide +kernel) (by decide +kernel)
theorem tw_su_X8 : (Jvm.Cond.superclass "PitchRows" "java/lang/Object") ∈ tblG := my_in 212 (by decide +kernel) (by decide +kernel)
theorem tw_ml_L_13 : (Jvm.Cond.methodLink "PitchRowsLaw" (13 : Nat) ({ cls := "PitchRows", name := "callers", desc := "(IIII)I" } : Jvm.MethodName)) ∈ tblG := my_in 213 (by decide +kernel) (by decide +kernel)
theorem tw_im_X8_callers : (Jvm.Cond.instanceMethod ({ cls := "PitchRows", name := "callers", desc := "(IIII)I" } : Jvm.MethodName)) ∈ tblG := my_in 214 (by decide +kernel) (by decide +kernel)
theorem tw_se_X8_X8_callers : (Jvm.Cond.selects "PitchRows" ({ cls := "PitchRows", name := "callers", desc := "(IIII)I" } : Jvm.MethodName) ({ cls := "PitchRows", name := "callers", desc := "(IIII)I" } : Jvm.MethodName)) ∈ tblG := my_in 215 (by decide +kernel) (by decide +kernel)
theorem tw_cd_X8_callers : (Jvm.Cond.code ({ cls := "PitchRows", name := "callers", desc := "(IIII)I" } : Jvm.MethodName) prog_1_method_2_code (7 : Nat) (Option.some Jvm.ClassFile.FieldType.int)) ∈ tblG := my_in 216 (by decide +kernel) (by decide +kernel)
theorem tw_ml_X8_60 : (Jvm.Cond.methodLink "PitchRows" (60 : Nat) ({ cls := "PitchRows", name := "isSheet", desc := "(I)Z" } : Jvm.MethodName)) ∈ tblG := my_in 217 (by decide +kernel) (by decide +kernel)
theorem tw_st_X8_isSheet : (Jvm.Cond.static ({ cls := "PitchRows", name := "isSheet", desc := "(I)Z" } : Jvm.MethodName)) ∈ tblG := my_in 218 (by decide +kernel) (by decide +kernel)
theorem tw_cd_X8_isSheet : (Jvm.Cond.code ({ cls := "PitchRows", name := "isSheet", desc := "(I)Z" } : Jvm.MethodName) prog_1_method_35_code (1 : Nat) (Option.some Jvm.ClassFile.FieldType.boolean)) ∈ tblG := my_in 219 (by decide +kernel) (by decide +kernel)
theorem tw_ml_X8_120 : (Jvm.Cond.methodLink "PitchRows" (120 : Nat) ({ cls := "PitchRows", name := "isWithin", desc := "(III)Z" } : Jvm.MethodName)) ∈ tblG := my_in 220 (by decide +kernel) (by decide +kernel)
theorem tw_st_X8_isWithin : (Jvm.Cond.static ({ cls := "PitchRows", name := "isWithin", desc := "(III)Z" } : Jvm.MethodName)) ∈ tblG := my_in 221 (by decide +kernel) (by decide +kernel)
theorem tw_cd_X8_isWithin : (Jvm.Cond.code ({ cls := "PitchRows", name := "isWithin", desc := "(III)Z" } : Jvm.MethodName) prog_1_method_33_code (3 : Nat) (Option.some Jvm.ClassFile.FieldType.boolean)) ∈ tblG := my_in 222 (by decide +kernel) (by decide +kernel)
theorem tw_ml_X8_64 : (Jvm.Cond.methodLink "PitchRows" (64 : Nat) ({ cls := "PitchRows", name := "isLane", desc := "(I)Z" } : Jvm.MethodName)) ∈ tblG := my_in 223 (by decide +kernel) (by decide +kernel)
theorem tw_st_X8_isLane : (Jvm.Cond.static ({ cls := "PitchRows", name := "isLane", desc := "(I)Z" } : Jvm.MethodName)) ∈ tblG := my_in 224 (by decide +kernel) (by decide +kernel)
theorem tw_cd_X8_isLane : (Jvm.Cond.code ({ cls := "PitchRows", name := "isLane", desc := "(I)Z" } : Jvm.MethodName) prog_1_method_36_code (1 : Nat) (Option.some Jvm.ClassFile.FieldType.boolean)) ∈ tblG := my_in 225 (by decide +kernel) (by decide +kernel)
theorem tw_ml_X8_67 : (Jvm.Cond.methodLink "PitchRows" (67 : Nat) ({ cls := "PitchRows$Sheet", name := "faultAs", desc := "(III)I" } : Jvm.MethodName)) ∈ tblG := my_in 226 (by decide +kernel) (by decide +kernel)
theorem tw_im_X6_faultAs : (Jvm.Cond.instanceMethod ({ cls := "PitchRows$Sheet", name := "faultAs", desc := "(III)I" } : Jvm.MethodName)) ∈ tblG := my_in 227 (by decide +kernel) (by decide +kernel)
theorem tw_se_X6_X6_faultAs : (Jvm.Cond.selects "PitchRows$Sheet" ({ cls := "PitchRows$Sheet", name := "faultAs", desc := "(III)I" } : Jvm.MethodName) ({ cls := "PitchRows$Sheet", name := "faultAs", desc := "(III)I" } : Jvm.MethodName)) ∈ tblG := my_in 228 (by decide +kernel) (by decide +kernel)
theorem tw_cd_X6_faultAs : (Jvm.Cond.code ({ cls := "PitchRows$Sheet", name := "faultAs", desc := "(III)I" } : Jvm.MethodName) prog_8_method_4_code (4 : Nat) (Option.some Jvm.ClassFile.FieldType.int)) ∈ tblG := my_in 229 (by decide +kernel) (by decide +kernel)
theorem tw_ml_X6_32 : (Jvm.Cond.methodLink "PitchRows$Sheet" (32 : Nat) ({ cls := "PitchRows$Sheet", name := "holds", desc := "(II)Z" } : Jvm.MethodName)) ∈ tblG := my_in 230 (by decide +kernel) (by decide +kernel)
theorem tw_im_X6_holds : (Jvm.Cond.instanceMethod ({ cls := "PitchRows$Sheet", name := "holds", desc := "(II)Z" } : Jvm.MethodName)) ∈ tblG := my_in 231 (by decide +kernel) (by decide +kernel)
theorem tw_se_X6_X6_holds : (Jvm.Cond.selects "PitchRows$Sheet" ({ cls := "PitchRows$Sheet", name := "holds", desc := "(II)Z" } : Jvm.MethodName) ({ cls := "PitchRows$Sheet", name := "holds", desc := "(II)Z" } : Jvm.MethodName)) ∈ tblG := my_in 232 (by decide +kernel) (by decide +kernel)
theorem tw_cd_X6_holds : (Jvm.Cond.code ({ cls := "PitchRows$Sheet", name := "holds", desc := "(II)Z" } : Jvm.MethodName) prog_8_method_3_code (3 : Nat) (Option.some Jvm.ClassFile.FieldType.boolean)) ∈ tblG := my_in 233 (by decide +kernel) (by decide +kernel)
theorem tw_ml_X8_71 : (Jvm.Cond.methodLink "PitchRows" (71 : Nat) ({ cls := "PitchRows", name := "faulted", desc := "(I)I" } : Jvm.MethodName)) ∈ tblG := my_in 234 (by decide +kernel) (by decide +kernel)
theorem tw_im_X8_faulted : (Jvm.Cond.instanceMethod ({ cls := "PitchRows", name := "faulted", desc := "(I)I" } : Jvm.MethodName)) ∈ tblG := my_in 236 (by decide +kernel) (by decide +kernel)
theorem tw_cd_X8_faulted : (Jvm.Cond.code ({ cls := "PitchRows", name := "faulted", desc := "(I)I" } : Jvm.MethodName) prog_1_method_38_code (2 : Nat) (Option.some Jvm.ClassFile.FieldType.int)) ∈ tblG := my_in 237 (by decide +kernel) (by decide +kernel)
theorem tw_ml_X8_75 : (Jvm.Cond.methodLink "PitchRows" (75 : Nat) ({ cls := "PitchRows$TextReader", name := "readUpTo", desc := "(LPitchRows$Sheet;II)I" } : Jvm.MethodName)) ∈ tblG := my_in 238 (by decide +kernel) (by decide +kernel)
theorem tw_im_X7_readUpTo : (Jvm.Cond.instanceMethod ({ cls := "PitchRows$TextReader", name := "readUpTo", desc := "(LPitchRows$Sheet;II)I" } : Jvm.MethodName)) ∈ tblG := my_in 239 (by decide +kernel) (by decide +kernel)
theorem tw_se_X7_X7_readUpTo : (Jvm.Cond.selects "PitchRows$TextReader" ({ cls := "PitchRows$TextReader", name := "readUpTo", desc := "(LPitchRows$Sheet;II)I" } : Jvm.MethodName) ({ cls := "PitchRows$TextReader", name := "readUpTo", desc := "(LPitchRows$Sheet;II)I" } : Jvm.MethodName)) ∈ tblG := my_in 240 (by decide +kernel) (by decide +kernel)
theorem tw_cd_X7_readUpTo : (Jvm.Cond.code ({ cls := "PitchRows$TextReader", name := "readUpTo", desc := "(LPitchRows$Sheet;II)I" } : Jvm.MethodName) prog_9_method_2_code (5 : Nat) (Option.some Jvm.ClassFile.FieldType.int)) ∈ tblG := my_in 241 (by decide +kernel) (by decide +kernel)
theorem tw_ml_X7_31 : (Jvm.Cond.methodLink "PitchRows$TextReader" (31 : Nat) ({ cls := "PitchRows$TextReader", name := "goesOn", desc := "(II)Z" } : Jvm.MethodName)) ∈ tblG := my_in 242 (by decide +kernel) (by decide +kernel)
theorem tw_im_X7_goesOn : (Jvm.Cond.instanceMethod ({ cls := "PitchRows$TextReader", name := "goesOn", desc := "(II)Z" } : Jvm.MethodName)) ∈ tblG := my_in 244 (by decide +kernel) (by decide +kernel)
theorem tw_cd_X7_goesOn : (Jvm.Cond.code ({ cls := "PitchRows$TextReader", name := "goesOn", desc := "(II)Z" } : Jvm.MethodName) prog_9_method_3_code (3 : Nat) (Option.some Jvm.ClassFile.FieldType.boolean)) ∈ tblG := my_in 245 (by decide +kernel) (by decide +kernel)
theorem tw_ml_X7_39 : (Jvm.Cond.methodLink "PitchRows$TextReader" (39 : Nat) ({ cls := "PitchRows$TextReader", name := "fitsPart", desc := "(I)Z" } : Jvm.MethodName)) ∈ tblG := my_in 247 (by decide +kernel) (by decide +kernel)
theorem tw_im_X7_fitsPart : (Jvm.Cond.instanceMethod ({ cls := "PitchRows$TextReader", name := "fitsPart", desc := "(I)Z" } : Jvm.MethodName)) ∈ tblG := my_in 249 (by decide +kernel) (by decide +kernel)
theorem tw_cd_X7_fitsPart : (Jvm.Cond.code ({ cls := "PitchRows$TextReader", name := "fitsPart", desc := "(I)Z" } : Jvm.MethodName) prog_9_method_4_code (2 : Nat) (Option.some Jvm.ClassFile.FieldType.boolean)) ∈ tblG := my_in 250 (by decide +kernel) (by decide +kernel)
theorem tw_ml_X7_43 : (Jvm.Cond.methodLink "PitchRows$TextReader" (43 : Nat) ({ cls := "PitchRows$TextReader", name := "kindOf", desc := "(I)I" } : Jvm.MethodName)) ∈ tblG := my_in 251 (by decide +kernel) (by decide +kernel)
theorem tw_st_X7_kindOf : (Jvm.Cond.static ({ cls := "PitchRows$TextReader", name := "kindOf", desc := "(I)I" } : Jvm.MethodName)) ∈ tblG := my_in 252 (by decide +kernel) (by decide +kernel)
theorem tw_cd_X7_kindOf : (Jvm.Cond.code ({ cls := "PitchRows$TextReader", name := "kindOf", desc := "(I)I" } : Jvm.MethodName) prog_9_method_5_code (1 : Nat) (Option.some Jvm.ClassFile.FieldType.int)) ∈ tblG := my_in 253 (by decide +kernel) (by decide +kernel)
theorem tw_ml_X8_86 : (Jvm.Cond.methodLink "PitchRows" (86 : Nat) ({ cls := "PitchRows$Choir", name := "take", desc := "(LPitchRows$Sheet;II)V" } : Jvm.MethodName)) ∈ tblG := my_in 254 (by decide +kernel) (by decide +kernel)
theorem tw_im_X2_take : (Jvm.Cond.instanceMethod ({ cls := "PitchRows$Choir", name := "take", desc := "(LPitchRows$Sheet;II)V" } : Jvm.MethodName)) ∈ tblG := my_in 255 (by decide +kernel) (by decide +kernel)
theorem tw_se_X2_X2_take : (Jvm.Cond.selects "PitchRows$Choir" ({ cls := "PitchRows$Choir", name := "take", desc := "(LPitchRows$Sheet;II)V" } : Jvm.MethodName) ({ cls := "PitchRows$Choir", name := "take", desc := "(LPitchRows$Sheet;II)V" } : Jvm.MethodName)) ∈ tblG := my_in 256 (by decide +kernel) (by decide +kernel)
theorem tw_cd_X2_take : (Jvm.Cond.code ({ cls := "PitchRows$Choir", name := "take", desc := "(LPitchRows$Sheet;II)V" } : Jvm.MethodName) prog_4_method_5_code (8 : Nat) (Option.none : Option Jvm.ClassFile.FieldType)) ∈ tblG := my_in 257 (by decide +kernel) (by decide +kernel)
theorem tw_ml_X2_39 : (Jvm.Cond.methodLink "PitchRows$Choir" (39 : Nat) ({ cls := "PitchRows$TextReader", name := "kindOf", desc := "(I)I" } : Jvm.MethodName)) ∈ tblG := my_in 258 (by decide +kernel) (by decide +kernel)
theorem tw_ml_L_18 : (Jvm.Cond.methodLink "PitchRowsLaw" (18 : Nat) ({ cls := "PitchRows", name := "ofCaller", desc := "(II)I" } : Jvm.MethodName)) ∈ tblG := my_in 259 (by decide +kernel) (by decide +kernel)
theorem tw_im_X8_ofCaller : (Jvm.Cond.instanceMethod ({ cls := "PitchRows", name := "ofCaller", desc := "(II)I" } : Jvm.MethodName)) ∈ tblG := my_in 260 (by decide +kernel) (by decide +kernel)
theorem tw_se_X8_X8_ofCaller : (Jvm.Cond.selects "PitchRows" ({ cls := "PitchRows", name := "ofCaller", desc := "(II)I" } : Jvm.MethodName) ({ cls := "PitchRows", name := "ofCaller", desc := "(II)I" } : Jvm.MethodName)) ∈ tblG := my_in 261 (by decide +kernel) (by decide +kernel)
theorem tw_cd_X8_ofCaller : (Jvm.Cond.code ({ cls := "PitchRows", name := "ofCaller", desc := "(II)I" } : Jvm.MethodName) prog_1_method_3_code (4 : Nat) (Option.some Jvm.ClassFile.FieldType.int)) ∈ tblG := my_in 262 (by decide +kernel) (by decide +kernel)
theorem tw_ml_X8_95 : (Jvm.Cond.methodLink "PitchRows" (95 : Nat) ({ cls := "PitchRows$Choir", name := "has", desc := "(I)Z" } : Jvm.MethodName)) ∈ tblG := my_in 263 (by decide +kernel) (by decide +kernel)
theorem tw_im_X2_has : (Jvm.Cond.instanceMethod ({ cls := "PitchRows$Choir", name := "has", desc := "(I)Z" } : Jvm.MethodName)) ∈ tblG := my_in 264 (by decide +kernel) (by decide +kernel)
theorem tw_se_X2_X2_has : (Jvm.Cond.selects "PitchRows$Choir" ({ cls := "PitchRows$Choir", name := "has", desc := "(I)Z" } : Jvm.MethodName) ({ cls := "PitchRows$Choir", name := "has", desc := "(I)Z" } : Jvm.MethodName)) ∈ tblG := my_in 265 (by decide +kernel) (by decide +kernel)
theorem tw_cd_X2_has : (Jvm.Cond.code ({ cls := "PitchRows$Choir", name := "has", desc := "(I)Z" } : Jvm.MethodName) prog_4_method_2_code (2 : Nat) (Option.some Jvm.ClassFile.FieldType.boolean)) ∈ tblG := my_in 266 (by decide +kernel) (by decide +kernel)
theorem tw_ml_X8_109 : (Jvm.Cond.methodLink "PitchRows" (109 : Nat) ({ cls := "PitchRows$Caller", name := "freeBeats", desc := "(I)I" } : Jvm.MethodName)) ∈ tblG := my_in 268 (by decide +kernel) (by decide +kernel)
theorem tw_im_X1_freeBeats : (Jvm.Cond.instanceMethod ({ cls := "PitchRows$Caller", name := "freeBeats", desc := "(I)I" } : Jvm.MethodName)) ∈ tblG := my_in 269 (by decide +kernel) (by decide +kernel)
theorem tw_se_X1_X1_freeBeats : (Jvm.Cond.selects "PitchRows$Caller" ({ cls := "PitchRows$Caller", name := "freeBeats", desc := "(I)I" } : Jvm.MethodName) ({ cls := "PitchRows$Caller", name := "freeBeats", desc := "(I)I" } : Jvm.MethodName)) ∈ tblG := my_in 270 (by decide +kernel) (by decide +kernel)
theorem tw_cd_X1_freeBeats : (Jvm.Cond.code ({ cls := "PitchRows$Caller", name := "freeBeats", desc := "(I)I" } : Jvm.MethodName) prog_3_method_2_code (4 : Nat) (Option.some Jvm.ClassFile.FieldType.int)) ∈ tblG := my_in 271 (by decide +kernel) (by decide +kernel)
theorem tw_ml_X8_116 : (Jvm.Cond.methodLink "PitchRows" (116 : Nat) ({ cls := "PitchRows$GoodRows", name := "isGood", desc := "([II)Z" } : Jvm.MethodName)) ∈ tblG := my_in 272 (by decide +kernel) (by decide +kernel)
theorem tw_st_X3_isGood : (Jvm.Cond.static ({ cls := "PitchRows$GoodRows", name := "isGood", desc := "([II)Z" } : Jvm.MethodName)) ∈ tblG := my_in 273 (by decide +kernel) (by decide +kernel)
theorem tw_cd_X3_isGood : (Jvm.Cond.code ({ cls := "PitchRows$GoodRows", name := "isGood", desc := "([II)Z" } : Jvm.MethodName) prog_5_method_5_code (3 : Nat) (Option.some Jvm.ClassFile.FieldType.boolean)) ∈ tblG := my_in 274 (by decide +kernel) (by decide +kernel)
theorem tw_ml_X3_32 : (Jvm.Cond.methodLink "PitchRows$GoodRows" (32 : Nat) ({ cls := "PitchRows$GoodRows", name := "staysGood", desc := "([II)Z" } : Jvm.MethodName)) ∈ tblG := my_in 275 (by decide +kernel) (by decide +kernel)
theorem tw_st_X3_staysGood : (Jvm.Cond.static ({ cls := "PitchRows$GoodRows", name := "staysGood", desc := "([II)Z" } : Jvm.MethodName)) ∈ tblG := my_in 276 (by decide +kernel) (by decide +kernel)
theorem tw_cd_X3_staysGood : (Jvm.Cond.code ({ cls := "PitchRows$GoodRows", name := "staysGood", desc := "([II)Z" } : Jvm.MethodName) prog_5_method_6_code (5 : Nat) (Option.some Jvm.ClassFile.FieldType.boolean)) ∈ tblG := my_in 277 (by decide +kernel) (by decide +kernel)
theorem tw_ml_X8_124 : (Jvm.Cond.methodLink "PitchRows" (124 : Nat) ({ cls := "PitchRows", name := "toldPitch", desc := "(LPitchRows$Caller;I)I" } : Jvm.MethodName)) ∈ tblG := my_in 278 (by decide +kernel) (by decide +kernel)
theorem tw_im_X8_toldPitch : (Jvm.Cond.instanceMethod ({ cls := "PitchRows", name := "toldPitch", desc := "(LPitchRows$Caller;I)I" } : Jvm.MethodName)) ∈ tblG := my_in 280 (by decide +kernel) (by decide +kernel)
theorem tw_cd_X8_toldPitch : (Jvm.Cond.code ({ cls := "PitchRows", name := "toldPitch", desc := "(LPitchRows$Caller;I)I" } : Jvm.MethodName) prog_1_method_39_code (3 : Nat) (Option.some Jvm.ClassFile.FieldType.int)) ∈ tblG := my_in 281 (by decide +kernel) (by decide +kernel)
theorem tw_ml_X8_128 : (Jvm.Cond.methodLink "PitchRows" (128 : Nat) ({ cls := "PitchRows$Choir", name := "hasBeat", desc := "(I)Z" } : Jvm.MethodName)) ∈ tblG := my_in 282 (by decide +kernel) (by decide +kernel)
theorem tw_im_X2_hasBeat : (Jvm.Cond.instanceMethod ({ cls := "PitchRows$Choir", name := "hasBeat", desc := "(I)Z" } : Jvm.MethodName)) ∈ tblG := my_in 283 (by decide +kernel) (by decide +kernel)
theorem tw_se_X2_X2_hasBeat : (Jvm.Cond.selects "PitchRows$Choir" ({ cls := "PitchRows$Choir", name := "hasBeat", desc := "(I)Z" } : Jvm.MethodName) ({ cls := "PitchRows$Choir", name := "hasBeat", desc := "(I)Z" } : Jvm.MethodName)) ∈ tblG := my_in 284 (by decide +kernel) (by decide +kernel)
theorem tw_cd_X2_hasBeat : (Jvm.Cond.code ({ cls := "PitchRows$Choir", name := "hasBeat", desc := "(I)Z" } : Jvm.MethodName) prog_4_method_3_code (2 : Nat) (Option.some Jvm.ClassFile.FieldType.boolean)) ∈ tblG := my_in 285 (by decide +kernel) (by decide +kernel)
theorem tw_ml_L_23 : (Jvm.Cond.methodLink "PitchRowsLaw" (23 : Nat) ({ cls := "PitchRows", name := "tune", desc := "(III)I" } : Jvm.MethodName)) ∈ tblG := my_in 286 (by decide +kernel) (by decide +kernel)
theorem tw_im_X8_tune : (Jvm.Cond.instanceMethod ({ cls := "PitchRows", name := "tune", desc := "(III)I" } : Jvm.MethodName)) ∈ tblG := my_in 287 (by decide +kernel) (by decide +kernel)
theorem tw_se_X8_X8_tune : (Jvm.Cond.selects "PitchRows" ({ cls := "PitchRows", name := "tune", desc := "(III)I" } : Jvm.MethodName) ({ cls := "PitchRows", name := "tune", desc := "(III)I" } : Jvm.MethodName)) ∈ tblG := my_in 288 (by decide +kernel) (by decide +kernel)
theorem tw_cd_X8_tune : (Jvm.Cond.code ({ cls := "PitchRows", name := "tune", desc := "(III)I" } : Jvm.MethodName) prog_1_method_4_code (5 : Nat) (Option.some Jvm.ClassFile.FieldType.int)) ∈ tblG := my_in 289 (by decide +kernel) (by decide +kernel)
theorem tw_ml_L_28 : (Jvm.Cond.methodLink "PitchRowsLaw" (28 : Nat) ({ cls := "PitchRows", name := "hears", desc := "(IIII)I" } : Jvm.MethodName)) ∈ tblG := my_in 290 (by decide +kernel) (by decide +kernel)
theorem tw_im_X8_hears : (Jvm.Cond.instanceMethod ({ cls := "PitchRows", name := "hears", desc := "(IIII)I" } : Jvm.MethodName)) ∈ tblG := my_in 291 (by decide +kernel) (by decide +kernel)
theorem tw_se_X8_X8_hears : (Jvm.Cond.selects "PitchRows" ({ cls := "PitchRows", name := "hears", desc := "(IIII)I" } : Jvm.MethodName) ({ cls := "PitchRows", name := "hears", desc := "(IIII)I" } : Jvm.MethodName)) ∈ tblG := my_in 292 (by decide +kernel) (by decide +kernel)
theorem tw_cd_X8_hears : (Jvm.Cond.code ({ cls := "PitchRows", name := "hears", desc := "(IIII)I" } : Jvm.MethodName) prog_1_method_5_code (5 : Nat) (Option.some Jvm.ClassFile.FieldType.int)) ∈ tblG := my_in 293 (by decide +kernel) (by decide +kernel)
theorem tw_ml_X8_131 : (Jvm.Cond.methodLink "PitchRows" (131 : Nat) ({ cls := "PitchRows", name := "isShift", desc := "(I)Z" } : Jvm.MethodName)) ∈ tblG := my_in 294 (by decide +kernel) (by decide +kernel)
theorem tw_st_X8_isShift : (Jvm.Cond.static ({ cls := "PitchRows", name := "isShift", desc := "(I)Z" } : Jvm.MethodName)) ∈ tblG := my_in 295 (by decide +kernel) (by decide +kernel)
theorem tw_cd_X8_isShift : (Jvm.Cond.code ({ cls := "PitchRows", name := "isShift", desc := "(I)Z" } : Jvm.MethodName) prog_1_method_34_code (1 : Nat) (Option.some Jvm.ClassFile.FieldType.boolean)) ∈ tblG := my_in 296 (by decide +kernel) (by decide +kernel)
theorem tw_ml_X8_134 : (Jvm.Cond.methodLink "PitchRows" (134 : Nat) ({ cls := "PitchRows$Choir", name := "heard", desc := "(IIII)I" } : Jvm.MethodName)) ∈ tblG := my_in 297 (by decide +kernel) (by decide +kernel)
theorem tw_im_X2_heard : (Jvm.Cond.instanceMethod ({ cls := "PitchRows$Choir", name := "heard", desc := "(IIII)I" } : Jvm.MethodName)) ∈ tblG := my_in 298 (by decide +kernel) (by decide +kernel)
theorem tw_se_X2_X2_heard : (Jvm.Cond.selects "PitchRows$Choir" ({ cls := "PitchRows$Choir", name := "heard", desc := "(IIII)I" } : Jvm.MethodName) ({ cls := "PitchRows$Choir", name := "heard", desc := "(IIII)I" } : Jvm.MethodName)) ∈ tblG := my_in 299 (by decide +kernel) (by decide +kernel)
theorem tw_cd_X2_heard : (Jvm.Cond.code ({ cls := "PitchRows$Choir", name := "heard", desc := "(IIII)I" } : Jvm.MethodName) prog_4_method_6_code (11 : Nat) (Option.some Jvm.ClassFile.FieldType.int)) ∈ tblG := my_in 300 (by decide +kernel) (by decide +kernel)
theorem tw_ml_X2_50 : (Jvm.Cond.methodLink "PitchRows$Choir" (50 : Nat) ({ cls := "PitchRows$Choir", name := "hasBeat", desc := "(I)Z" } : Jvm.MethodName)) ∈ tblG := my_in 301 (by decide +kernel) (by decide +kernel)
theorem tw_ml_X2_54 : (Jvm.Cond.methodLink "PitchRows$Choir" (54 : Nat) ({ cls := "PitchRows$Caller", name := "counted", desc := "(ZZ)I" } : Jvm.MethodName)) ∈ tblG := my_in 302 (by decide +kernel) (by decide +kernel)
theorem tw_im_X1_counted : (Jvm.Cond.instanceMethod ({ cls := "PitchRows$Caller", name := "counted", desc := "(ZZ)I" } : Jvm.MethodName)) ∈ tblG := my_in 303 (by decide +kernel) (by decide +kernel)
theorem tw_se_X1_X1_counted : (Jvm.Cond.selects "PitchRows$Caller" ({ cls := "PitchRows$Caller", name := "counted", desc := "(ZZ)I" } : Jvm.MethodName) ({ cls := "PitchRows$Caller", name := "counted", desc := "(ZZ)I" } : Jvm.MethodName)) ∈ tblG := my_in 304 (by decide +kernel) (by decide +kernel)
theorem tw_cd_X1_counted : (Jvm.Cond.code ({ cls := "PitchRows$Caller", name := "counted", desc := "(ZZ)I" } : Jvm.MethodName) prog_3_method_3_code (5 : Nat) (Option.some Jvm.ClassFile.FieldType.int)) ∈ tblG := my_in 305 (by decide +kernel) (by decide +kernel)
theorem tw_ml_L_32 : (Jvm.Cond.methodLink "PitchRowsLaw" (32 : Nat) ({ cls := "PitchRows", name := "send", desc := "(III)I" } : Jvm.MethodName)) ∈ tblG := my_in 306 (by decide +kernel) (by decide +kernel)
theorem tw_im_X8_send : (Jvm.Cond.instanceMethod ({ cls := "PitchRows", name := "send", desc := "(III)I" } : Jvm.MethodName)) ∈ tblG := my_in 307 (by decide +kernel) (by decide +kernel)
theorem tw_se_X8_X8_send : (Jvm.Cond.selects "PitchRows" ({ cls := "PitchRows", name := "send", desc := "(III)I" } : Jvm.MethodName) ({ cls := "PitchRows", name := "send", desc := "(III)I" } : Jvm.MethodName)) ∈ tblG := my_in 308 (by decide +kernel) (by decide +kernel)
theorem tw_cd_X8_send : (Jvm.Cond.code ({ cls := "PitchRows", name := "send", desc := "(III)I" } : Jvm.MethodName) prog_1_method_6_code (4 : Nat) (Option.some Jvm.ClassFile.FieldType.int)) ∈ tblG := my_in 309 (by decide +kernel) (by decide +kernel)
theorem tw_ml_X8_138 : (Jvm.Cond.methodLink "PitchRows" (138 : Nat) ({ cls := "PitchRows$Air", name := "add", desc := "(III)Z" } : Jvm.MethodName)) ∈ tblG := my_in 310 (by decide +kernel) (by decide +kernel)
theorem tw_im_X0_add : (Jvm.Cond.instanceMethod ({ cls := "PitchRows$Air", name := "add", desc := "(III)Z" } : Jvm.MethodName)) ∈ tblG := my_in 311 (by decide +kernel) (by decide +kernel)
theorem tw_se_X0_X0_add : (Jvm.Cond.selects "PitchRows$Air" ({ cls := "PitchRows$Air", name := "add", desc := "(III)Z" } : Jvm.MethodName) ({ cls := "PitchRows$Air", name := "add", desc := "(III)Z" } : Jvm.MethodName)) ∈ tblG := my_in 312 (by decide +kernel) (by decide +kernel)
theorem tw_cd_X0_add : (Jvm.Cond.code ({ cls := "PitchRows$Air", name := "add", desc := "(III)Z" } : Jvm.MethodName) prog_2_method_2_code (4 : Nat) (Option.some Jvm.ClassFile.FieldType.boolean)) ∈ tblG := my_in 313 (by decide +kernel) (by decide +kernel)
theorem tw_ml_L_36 : (Jvm.Cond.methodLink "PitchRowsLaw" (36 : Nat) ({ cls := "PitchRows", name := "unsend", desc := "(I)I" } : Jvm.MethodName)) ∈ tblG := my_in 314 (by decide +kernel) (by decide +kernel)
theorem tw_im_X8_unsend : (Jvm.Cond.instanceMethod ({ cls := "PitchRows", name := "unsend", desc := "(I)I" } : Jvm.MethodName)) ∈ tblG := my_in 315 (by decide +kernel) (by decide +kernel)
theorem tw_se_X8_X8_unsend : (Jvm.Cond.selects "PitchRows" ({ cls := "PitchRows", name := "unsend", desc := "(I)I" } : Jvm.MethodName) ({ cls := "PitchRows", name := "unsend", desc := "(I)I" } : Jvm.MethodName)) ∈ tblG := my_in 316 (by decide +kernel) (by decide +kernel)
theorem tw_cd_X8_unsend : (Jvm.Cond.code ({ cls := "PitchRows", name := "unsend", desc := "(I)I" } : Jvm.MethodName) prog_1_method_7_code (2 : Nat) (Option.some Jvm.ClassFile.FieldType.int)) ∈ tblG := my_in 317 (by decide +kernel) (by decide +kernel)
theorem tw_ml_X8_141 : (Jvm.Cond.methodLink "PitchRows" (141 : Nat) ({ cls := "PitchRows$Air", name := "takeBack", desc := "(I)Z" } : Jvm.MethodName)) ∈ tblG := my_in 318 (by decide +kernel) (by decide +kernel)
theorem tw_sm_319 : (Jvm.Cond.sameMethod "PitchRows$Air" "PitchRows$Numbered" "takeBack" "(I)Z") ∈ tblG := my_in 319 (by decide +kernel) (by decide +kernel)
theorem tw_se_X0_X4_takeBack : (Jvm.Cond.selects "PitchRows$Air" ({ cls := "PitchRows$Air", name := "takeBack", desc := "(I)Z" } : Jvm.MethodName) ({ cls := "PitchRows$Numbered", name := "takeBack", desc := "(I)Z" } : Jvm.MethodName)) ∈ tblG := my_in 321 (by decide +kernel) (by decide +kernel)
theorem tw_im_X4_takeBack : (Jvm.Cond.instanceMethod ({ cls := "PitchRows$Numbered", name := "takeBack", desc := "(I)Z" } : Jvm.MethodName)) ∈ tblG := my_in 322 (by decide +kernel) (by decide +kernel)
theorem tw_cd_X4_takeBack : (Jvm.Cond.code ({ cls := "PitchRows$Numbered", name := "takeBack", desc := "(I)Z" } : Jvm.MethodName) prog_6_method_2_code (2 : Nat) (Option.some Jvm.ClassFile.FieldType.boolean)) ∈ tblG := my_in 323 (by decide +kernel) (by decide +kernel)
theorem tw_ml_L_41 : (Jvm.Cond.methodLink "PitchRowsLaw" (41 : Nat) ({ cls := "PitchRows", name := "air", desc := "(I)I" } : Jvm.MethodName)) ∈ tblG := my_in 325 (by decide +kernel) (by decide +kernel)
theorem tw_im_X8_air : (Jvm.Cond.instanceMethod ({ cls := "PitchRows", name := "air", desc := "(I)I" } : Jvm.MethodName)) ∈ tblG := my_in 326 (by decide +kernel) (by decide +kernel)
theorem tw_se_X8_X8_air : (Jvm.Cond.selects "PitchRows" ({ cls := "PitchRows", name := "air", desc := "(I)I" } : Jvm.MethodName) ({ cls := "PitchRows", name := "air", desc := "(I)I" } : Jvm.MethodName)) ∈ tblG := my_in 327 (by decide +kernel) (by decide +kernel)
theorem tw_cd_X8_air : (Jvm.Cond.code ({ cls := "PitchRows", name := "air", desc := "(I)I" } : Jvm.MethodName) prog_1_method_8_code (2 : Nat) (Option.some Jvm.ClassFile.FieldType.int)) ∈ tblG := my_in 328 (by decide +kernel) (by decide +kernel)
theorem tw_ml_X8_144 : (Jvm.Cond.methodLink "PitchRows" (144 : Nat) ({ cls := "PitchRows$Air", name := "sound", desc := "(LPitchRows$Choir;)V" } : Jvm.MethodName)) ∈ tblG := my_in 329 (by decide +kernel) (by decide +kernel)
theorem tw_im_X0_sound : (Jvm.Cond.instanceMethod ({ cls := "PitchRows$Air", name := "sound", desc := "(LPitchRows$Choir;)V" } : Jvm.MethodName)) ∈ tblG := my_in 330 (by decide +kernel) (by decide +kernel)
theorem tw_se_X0_X0_sound : (Jvm.Cond.selects "PitchRows$Air" ({ cls := "PitchRows$Air", name := "sound", desc := "(LPitchRows$Choir;)V" } : Jvm.MethodName) ({ cls := "PitchRows$Air", name := "sound", desc := "(LPitchRows$Choir;)V" } : Jvm.MethodName)) ∈ tblG := my_in 331 (by decide +kernel) (by decide +kernel)
theorem tw_cd_X0_sound : (Jvm.Cond.code ({ cls := "PitchRows$Air", name := "sound", desc := "(LPitchRows$Choir;)V" } : Jvm.MethodName) prog_2_method_4_code (5 : Nat) (Option.none : Option Jvm.ClassFile.FieldType)) ∈ tblG := my_in 332 (by decide +kernel) (by decide +kernel)
theorem tw_ml_X0_34 : (Jvm.Cond.methodLink "PitchRows$Air" (34 : Nat) ({ cls := "java/util/Arrays", name := "fill", desc := "([II)V" } : Jvm.MethodName)) ∈ tblG := my_in 333 (by decide +kernel) (by decide +kernel)
theorem tw_st_J7_fill_53178 : (Jvm.Cond.static ({ cls := "java/util/Arrays", name := "fill", desc := "([II)V" } : Jvm.MethodName)) ∈ tblG := my_in 334 (by decide +kernel) (by decide +kernel)
theorem tw_cd_J7_fill_53178 : (Jvm.Cond.code ({ cls := "java/util/Arrays", name := "fill", desc := "([II)V" } : Jvm.MethodName) prog_15_method_103_code (4 : Nat) (Option.none : Option Jvm.ClassFile.FieldType)) ∈ tblG := my_in 335 (by decide +kernel) (by decide +kernel)
theorem tw_ml_L_45 : (Jvm.Cond.methodLink "PitchRowsLaw" (45 : Nat) ({ cls := "PitchRows", name := "listen", desc := "(II)I" } : Jvm.MethodName)) ∈ tblG := my_in 336 (by decide +kernel) (by decide +kernel)
theorem tw_im_X8_listen : (Jvm.Cond.instanceMethod ({ cls := "PitchRows", name := "listen", desc := "(II)I" } : Jvm.MethodName)) ∈ tblG := my_in 337 (by decide +kernel) (by decide +kernel)
theorem tw_se_X8_X8_listen : (Jvm.Cond.selects "PitchRows" ({ cls := "PitchRows", name := "listen", desc := "(II)I" } : Jvm.MethodName) ({ cls := "PitchRows", name := "listen", desc := "(II)I" } : Jvm.MethodName)) ∈ tblG := my_in 338 (by decide +kernel) (by decide +kernel)
theorem tw_cd_X8_listen : (Jvm.Cond.code ({ cls := "PitchRows", name := "listen", desc := "(II)I" } : Jvm.MethodName) prog_1_method_9_code (3 : Nat) (Option.some Jvm.ClassFile.FieldType.int)) ∈ tblG := my_in 339 (by decide +kernel) (by decide +kernel)
theorem tw_ml_X8_151 : (Jvm.Cond.methodLink "PitchRows" (151 : Nat) ({ cls := "PitchRows$Choir", name := "listened", desc := "(I[II)I" } : Jvm.MethodName)) ∈ tblG := my_in 340 (by decide +kernel) (by decide +kernel)
theorem tw_im_X2_listened : (Jvm.Cond.instanceMethod ({ cls := "PitchRows$Choir", name := "listened", desc := "(I[II)I" } : Jvm.MethodName)) ∈ tblG := my_in 341 (by decide +kernel) (by decide +kernel)
theorem tw_se_X2_X2_listened : (Jvm.Cond.selects "PitchRows$Choir" ({ cls := "PitchRows$Choir", name := "listened", desc := "(I[II)I" } : Jvm.MethodName) ({ cls := "PitchRows$Choir", name := "listened", desc := "(I[II)I" } : Jvm.MethodName)) ∈ tblG := my_in 342 (by decide +kernel) (by decide +kernel)
theorem tw_cd_X2_listened : (Jvm.Cond.code ({ cls := "PitchRows$Choir", name := "listened", desc := "(I[II)I" } : Jvm.MethodName) prog_4_method_7_code (10 : Nat) (Option.some Jvm.ClassFile.FieldType.int)) ∈ tblG := my_in 343 (by decide +kernel) (by decide +kernel)
theorem tw_ml_L_49 : (Jvm.Cond.methodLink "PitchRowsLaw" (49 : Nat) ({ cls := "PitchRows", name := "loudest", desc := "(II)I" } : Jvm.MethodName)) ∈ tblG := my_in 344 (by decide +kernel) (by decide +kernel)
theorem tw_im_X8_loudest : (Jvm.Cond.instanceMethod ({ cls := "PitchRows", name := "loudest", desc := "(II)I" } : Jvm.MethodName)) ∈ tblG := my_in 345 (by decide +kernel) (by decide +kernel)
theorem tw_se_X8_X8_loudest : (Jvm.Cond.selects "PitchRows" ({ cls := "PitchRows", name := "loudest", desc := "(II)I" } : Jvm.MethodName) ({ cls := "PitchRows", name := "loudest", desc := "(II)I" } : Jvm.MethodName)) ∈ tblG := my_in 346 (by decide +kernel) (by decide +kernel)
theorem tw_cd_X8_loudest : (Jvm.Cond.code ({ cls := "PitchRows", name := "loudest", desc := "(II)I" } : Jvm.MethodName) prog_1_method_10_code (4 : Nat) (Option.some Jvm.ClassFile.FieldType.int)) ∈ tblG := my_in 347 (by decide +kernel) (by decide +kernel)
theorem tw_ml_X8_155 : (Jvm.Cond.methodLink "PitchRows" (155 : Nat) ({ cls := "PitchRows$Choir", name := "loudestMoment", desc := "(I[I)I" } : Jvm.MethodName)) ∈ tblG := my_in 348 (by decide +kernel) (by decide +kernel)
theorem tw_im_X2_loudestMoment : (Jvm.Cond.instanceMethod ({ cls := "PitchRows$Choir", name := "loudestMoment", desc := "(I[I)I" } : Jvm.MethodName)) ∈ tblG := my_in 349 (by decide +kernel) (by decide +kernel)
theorem tw_se_X2_X2_loudestMoment : (Jvm.Cond.selects "PitchRows$Choir" ({ cls := "PitchRows$Choir", name := "loudestMoment", desc := "(I[I)I" } : Jvm.MethodName) ({ cls := "PitchRows$Choir", name := "loudestMoment", desc := "(I[I)I" } : Jvm.MethodName)) ∈ tblG := my_in 350 (by decide +kernel) (by decide +kernel)
theorem tw_cd_X2_loudestMoment : (Jvm.Cond.code ({ cls := "PitchRows$Choir", name := "loudestMoment", desc := "(I[I)I" } : Jvm.MethodName) prog_4_method_8_code (7 : Nat) (Option.some Jvm.ClassFile.FieldType.int)) ∈ tblG := my_in 351 (by decide +kernel) (by decide +kernel)
theorem tw_ml_X2_58 : (Jvm.Cond.methodLink "PitchRows$Choir" (58 : Nat) ({ cls := "PitchRows$Choir", name := "listened", desc := "(I[II)I" } : Jvm.MethodName)) ∈ tblG := my_in 352 (by decide +kernel) (by decide +kernel)
theorem tw_ml_L_53 : (Jvm.Cond.methodLink "PitchRowsLaw" (53 : Nat) ({ cls := "PitchRows", name := "day", desc := "(IIIII)I" } : Jvm.MethodName)) ∈ tblG := my_in 353 (by decide +kernel) (by decide +kernel)
theorem tw_im_X8_day : (Jvm.Cond.instanceMethod ({ cls := "PitchRows", name := "day", desc := "(IIIII)I" } : Jvm.MethodName)) ∈ tblG := my_in 354 (by decide +kernel) (by decide +kernel)
theorem tw_se_X8_X8_day : (Jvm.Cond.selects "PitchRows" ({ cls := "PitchRows", name := "day", desc := "(IIIII)I" } : Jvm.MethodName) ({ cls := "PitchRows", name := "day", desc := "(IIIII)I" } : Jvm.MethodName)) ∈ tblG := my_in 355 (by decide +kernel) (by decide +kernel)
theorem tw_cd_X8_day : (Jvm.Cond.code ({ cls := "PitchRows", name := "day", desc := "(IIIII)I" } : Jvm.MethodName) prog_1_method_11_code (8 : Nat) (Option.some Jvm.ClassFile.FieldType.int)) ∈ tblG := my_in 356 (by decide +kernel) (by decide +kernel)
theorem tw_ml_X8_159 : (Jvm.Cond.methodLink "PitchRows" (159 : Nat) ({ cls := "PitchRows", name := "isDayQuestion", desc := "(I)Z" } : Jvm.MethodName)) ∈ tblG := my_in 357 (by decide +kernel) (by decide +kernel)
theorem tw_st_X8_isDayQuestion : (Jvm.Cond.static ({ cls := "PitchRows", name := "isDayQuestion", desc := "(I)Z" } : Jvm.MethodName)) ∈ tblG := my_in 358 (by decide +kernel) (by decide +kernel)
theorem tw_cd_X8_isDayQuestion : (Jvm.Cond.code ({ cls := "PitchRows", name := "isDayQuestion", desc := "(I)Z" } : Jvm.MethodName) prog_1_method_37_code (1 : Nat) (Option.some Jvm.ClassFile.FieldType.boolean)) ∈ tblG := my_in 359 (by decide +kernel) (by decide +kernel)
theorem tw_ml_X8_162 : (Jvm.Cond.methodLink "PitchRows" (162 : Nat) ({ cls := "PitchRows", name := "areActs", desc := "(LPitchRows$Sheet;II)Z" } : Jvm.MethodName)) ∈ tblG := my_in 360 (by decide +kernel) (by decide +kernel)
theorem tw_st_X8_areActs : (Jvm.Cond.static ({ cls := "PitchRows", name := "areActs", desc := "(LPitchRows$Sheet;II)Z" } : Jvm.MethodName)) ∈ tblG := my_in 361 (by decide +kernel) (by decide +kernel)
theorem tw_cd_X8_areActs : (Jvm.Cond.code ({ cls := "PitchRows", name := "areActs", desc := "(LPitchRows$Sheet;II)Z" } : Jvm.MethodName) prog_1_method_41_code (8 : Nat) (Option.some Jvm.ClassFile.FieldType.boolean)) ∈ tblG := my_in 362 (by decide +kernel) (by decide +kernel)
theorem tw_ml_X8_166 : (Jvm.Cond.methodLink "PitchRows" (166 : Nat) ({ cls := "PitchRows$Air", name := "becomeLike", desc := "(LPitchRows$Air;)V" } : Jvm.MethodName)) ∈ tblG := my_in 363 (by decide +kernel) (by decide +kernel)
theorem tw_im_X0_becomeLike : (Jvm.Cond.instanceMethod ({ cls := "PitchRows$Air", name := "becomeLike", desc := "(LPitchRows$Air;)V" } : Jvm.MethodName)) ∈ tblG := my_in 364 (by decide +kernel) (by decide +kernel)
theorem tw_se_X0_X0_becomeLike : (Jvm.Cond.selects "PitchRows$Air" ({ cls := "PitchRows$Air", name := "becomeLike", desc := "(LPitchRows$Air;)V" } : Jvm.MethodName) ({ cls := "PitchRows$Air", name := "becomeLike", desc := "(LPitchRows$Air;)V" } : Jvm.MethodName)) ∈ tblG := my_in 365 (by decide +kernel) (by decide +kernel)
theorem tw_cd_X0_becomeLike : (Jvm.Cond.code ({ cls := "PitchRows$Air", name := "becomeLike", desc := "(LPitchRows$Air;)V" } : Jvm.MethodName) prog_2_method_3_code (2 : Nat) (Option.none : Option Jvm.ClassFile.FieldType)) ∈ tblG := my_in 366 (by decide +kernel) (by decide +kernel)
theorem tw_ml_X0_28 : (Jvm.Cond.methodLink "PitchRows$Air" (28 : Nat) ({ cls := "java/lang/System", name := "arraycopy", desc := "(Ljava/lang/Object;ILjava/lang/Object;II)V" } : Jvm.MethodName)) ∈ tblG := my_in 367 (by decide +kernel) (by decide +kernel)
theorem tw_st_J10_arraycopy : (Jvm.Cond.static ({ cls := "java/lang/System", name := "arraycopy", desc := "(Ljava/lang/Object;ILjava/lang/Object;II)V" } : Jvm.MethodName)) ∈ tblG := my_in 368 (by decide +kernel) (by decide +kernel)
theorem tw_nv_J10_arraycopy : (Jvm.Cond.native ({ cls := "java/lang/System", name := "arraycopy", desc := "(Ljava/lang/Object;ILjava/lang/Object;II)V" } : Jvm.MethodName)) ∈ tblG := my_in 369 (by decide +kernel) (by decide +kernel)
theorem tw_ml_X8_170 : (Jvm.Cond.methodLink "PitchRows" (170 : Nat) ({ cls := "PitchRows", name := "firstWrong", desc := "(LPitchRows$Sheet;II)I" } : Jvm.MethodName)) ∈ tblG := my_in 370 (by decide +kernel) (by decide +kernel)
theorem tw_im_X8_firstWrong : (Jvm.Cond.instanceMethod ({ cls := "PitchRows", name := "firstWrong", desc := "(LPitchRows$Sheet;II)I" } : Jvm.MethodName)) ∈ tblG := my_in 372 (by decide +kernel) (by decide +kernel)
theorem tw_cd_X8_firstWrong : (Jvm.Cond.code ({ cls := "PitchRows", name := "firstWrong", desc := "(LPitchRows$Sheet;II)I" } : Jvm.MethodName) prog_1_method_42_code (8 : Nat) (Option.some Jvm.ClassFile.FieldType.int)) ∈ tblG := my_in 373 (by decide +kernel) (by decide +kernel)
theorem tw_ml_X8_173 : (Jvm.Cond.methodLink "PitchRows" (173 : Nat) ({ cls := "PitchRows", name := "afterDay", desc := "(I)I" } : Jvm.MethodName)) ∈ tblG := my_in 374 (by decide +kernel) (by decide +kernel)
theorem tw_im_X8_afterDay : (Jvm.Cond.instanceMethod ({ cls := "PitchRows", name := "afterDay", desc := "(I)I" } : Jvm.MethodName)) ∈ tblG := my_in 376 (by decide +kernel) (by decide +kernel)
theorem tw_cd_X8_afterDay : (Jvm.Cond.code ({ cls := "PitchRows", name := "afterDay", desc := "(I)I" } : Jvm.MethodName) prog_1_method_43_code (2 : Nat) (Option.some Jvm.ClassFile.FieldType.int)) ∈ tblG := my_in 377 (by decide +kernel) (by decide +kernel)
theorem tw_ml_X8_262 : (Jvm.Cond.methodLink "PitchRows" (262 : Nat) ({ cls := "PitchRows$Air", name := "soundingMoments", desc := "()I" } : Jvm.MethodName)) ∈ tblG := my_in 378 (by decide +kernel) (by decide +kernel)
theorem tw_im_X0_soundingMoments : (Jvm.Cond.instanceMethod ({ cls := "PitchRows$Air", name := "soundingMoments", desc := "()I" } : Jvm.MethodName)) ∈ tblG := my_in 379 (by decide +kernel) (by decide +kernel)
theorem tw_se_X0_X0_soundingMoments : (Jvm.Cond.selects "PitchRows$Air" ({ cls := "PitchRows$Air", name := "soundingMoments", desc := "()I" } : Jvm.MethodName) ({ cls := "PitchRows$Air", name := "soundingMoments", desc := "()I" } : Jvm.MethodName)) ∈ tblG := my_in 380 (by decide +kernel) (by decide +kernel)
theorem tw_cd_X0_soundingMoments : (Jvm.Cond.code ({ cls := "PitchRows$Air", name := "soundingMoments", desc := "()I" } : Jvm.MethodName) prog_2_method_5_code (6 : Nat) (Option.some Jvm.ClassFile.FieldType.int)) ∈ tblG := my_in 381 (by decide +kernel) (by decide +kernel)
theorem tw_ml_X8_265 : (Jvm.Cond.methodLink "PitchRows" (265 : Nat) ({ cls := "PitchRows$Air", name := "lastSounding", desc := "()I" } : Jvm.MethodName)) ∈ tblG := my_in 382 (by decide +kernel) (by decide +kernel)
theorem tw_im_X0_lastSounding : (Jvm.Cond.instanceMethod ({ cls := "PitchRows$Air", name := "lastSounding", desc := "()I" } : Jvm.MethodName)) ∈ tblG := my_in 383 (by decide +kernel) (by decide +kernel)
theorem tw_se_X0_X0_lastSounding : (Jvm.Cond.selects "PitchRows$Air" ({ cls := "PitchRows$Air", name := "lastSounding", desc := "()I" } : Jvm.MethodName) ({ cls := "PitchRows$Air", name := "lastSounding", desc := "()I" } : Jvm.MethodName)) ∈ tblG := my_in 384 (by decide +kernel) (by decide +kernel)
theorem tw_cd_X0_lastSounding : (Jvm.Cond.code ({ cls := "PitchRows$Air", name := "lastSounding", desc := "()I" } : Jvm.MethodName) prog_2_method_6_code (2 : Nat) (Option.some Jvm.ClassFile.FieldType.int)) ∈ tblG := my_in 385 (by decide +kernel) (by decide +kernel)
theorem tw_ml_X8_268 : (Jvm.Cond.methodLink "PitchRows" (268 : Nat) ({ cls := "PitchRows$Air", name := "firstOfTwo", desc := "()I" } : Jvm.MethodName)) ∈ tblG := my_in 386 (by decide +kernel) (by decide +kernel)
theorem tw_im_X0_firstOfTwo : (Jvm.Cond.instanceMethod ({ cls := "PitchRows$Air", name := "firstOfTwo", desc := "()I" } : Jvm.MethodName)) ∈ tblG := my_in 387 (by decide +kernel) (by decide +kernel)
theorem tw_se_X0_X0_firstOfTwo : (Jvm.Cond.selects "PitchRows$Air" ({ cls := "PitchRows$Air", name := "firstOfTwo", desc := "()I" } : Jvm.MethodName) ({ cls := "PitchRows$Air", name := "firstOfTwo", desc := "()I" } : Jvm.MethodName)) ∈ tblG := my_in 388 (by decide +kernel) (by decide +kernel)
theorem tw_cd_X0_firstOfTwo : (Jvm.Cond.code ({ cls := "PitchRows$Air", name := "firstOfTwo", desc := "()I" } : Jvm.MethodName) prog_2_method_7_code (2 : Nat) (Option.some Jvm.ClassFile.FieldType.int)) ∈ tblG := my_in 389 (by decide +kernel) (by decide +kernel)
theorem tw_ml_X0_54 : (Jvm.Cond.methodLink "PitchRows$Air" (54 : Nat) ({ cls := "java/lang/Integer", name := "bitCount", desc := "(I)I" } : Jvm.MethodName)) ∈ tblG := my_in 390 (by decide +kernel) (by decide +kernel)
theorem tw_st_J6_bitCount_0f7a4 : (Jvm.Cond.static ({ cls := "java/lang/Integer", name := "bitCount", desc := "(I)I" } : Jvm.MethodName)) ∈ tblG := my_in 391 (by decide +kernel) (by decide +kernel)
theorem tw_cd_J6_bitCount_0f7a4 : (Jvm.Cond.code ({ cls := "java/lang/Integer", name := "bitCount", desc := "(I)I" } : Jvm.MethodName) prog_12_method_49_code (1 : Nat) (Option.some Jvm.ClassFile.FieldType.int)) ∈ tblG := my_in 392 (by decide +kernel) (by decide +kernel)
theorem tw_ki_J6_265 : (Jvm.Cond.constant "java/lang/Integer" (265 : Nat) (1431655765 : Int32)) ∈ tblG := my_in 393 (by decide +kernel) (by decide +kernel)
theorem tw_ki_J6_266 : (Jvm.Cond.constant "java/lang/Integer" (266 : Nat) (858993459 : Int32)) ∈ tblG := my_in 394 (by decide +kernel) (by decide +kernel)
theorem tw_ki_J6_267 : (Jvm.Cond.constant "java/lang/Integer" (267 : Nat) (252645135 : Int32)) ∈ tblG := my_in 395 (by decide +kernel) (by decide +kernel)
theorem tw_ml_X8_271 : (Jvm.Cond.methodLink "PitchRows" (271 : Nat) ({ cls := "PitchRows", name := "mostListened", desc := "(I[I)I" } : Jvm.MethodName)) ∈ tblG := my_in 396 (by decide +kernel) (by decide +kernel)
theorem tw_im_X8_mostListened : (Jvm.Cond.instanceMethod ({ cls := "PitchRows", name := "mostListened", desc := "(I[I)I" } : Jvm.MethodName)) ∈ tblG := my_in 398 (by decide +kernel) (by decide +kernel)
theorem tw_cd_X8_mostListened : (Jvm.Cond.code ({ cls := "PitchRows", name := "mostListened", desc := "(I[I)I" } : Jvm.MethodName) prog_1_method_44_code (3 : Nat) (Option.some Jvm.ClassFile.FieldType.int)) ∈ tblG := my_in 399 (by decide +kernel) (by decide +kernel)
theorem tw_ml_L_58 : (Jvm.Cond.methodLink "PitchRowsLaw" (58 : Nat) ({ cls := "PitchRows", name := "peak", desc := "(II)I" } : Jvm.MethodName)) ∈ tblG := my_in 400 (by decide +kernel) (by decide +kernel)
theorem tw_im_X8_peak : (Jvm.Cond.instanceMethod ({ cls := "PitchRows", name := "peak", desc := "(II)I" } : Jvm.MethodName)) ∈ tblG := my_in 401 (by decide +kernel) (by decide +kernel)
theorem tw_se_X8_X8_peak : (Jvm.Cond.selects "PitchRows" ({ cls := "PitchRows", name := "peak", desc := "(II)I" } : Jvm.MethodName) ({ cls := "PitchRows", name := "peak", desc := "(II)I" } : Jvm.MethodName)) ∈ tblG := my_in 402 (by decide +kernel) (by decide +kernel)
theorem tw_cd_X8_peak : (Jvm.Cond.code ({ cls := "PitchRows", name := "peak", desc := "(II)I" } : Jvm.MethodName) prog_1_method_12_code (9 : Nat) (Option.some Jvm.ClassFile.FieldType.int)) ∈ tblG := my_in 403 (by decide +kernel) (by decide +kernel)
theorem tw_ml_L_62 : (Jvm.Cond.methodLink "PitchRowsLaw" (62 : Nat) ({ cls := "PitchRows", name := "clash", desc := "(II)I" } : Jvm.MethodName)) ∈ tblG := my_in 404 (by decide +kernel) (by decide +kernel)
theorem tw_im_X8_clash : (Jvm.Cond.instanceMethod ({ cls := "PitchRows", name := "clash", desc := "(II)I" } : Jvm.MethodName)) ∈ tblG := my_in 405 (by decide +kernel) (by decide +kernel)
theorem tw_se_X8_X8_clash : (Jvm.Cond.selects "PitchRows" ({ cls := "PitchRows", name := "clash", desc := "(II)I" } : Jvm.MethodName) ({ cls := "PitchRows", name := "clash", desc := "(II)I" } : Jvm.MethodName)) ∈ tblG := my_in 406 (by decide +kernel) (by decide +kernel)
theorem tw_cd_X8_clash : (Jvm.Cond.code ({ cls := "PitchRows", name := "clash", desc := "(II)I" } : Jvm.MethodName) prog_1_method_13_code (6 : Nat) (Option.some Jvm.ClassFile.FieldType.int)) ∈ tblG := my_in 407 (by decide +kernel) (by decide +kernel)
theorem tw_ml_X8_176 : (Jvm.Cond.methodLink "PitchRows" (176 : Nat) ({ cls := "java/lang/Math", name := "max", desc := "(II)I" } : Jvm.MethodName)) ∈ tblG := my_in 408 (by decide +kernel) (by decide +kernel)
theorem tw_st_J9_max_7cf53 : (Jvm.Cond.static ({ cls := "java/lang/Math", name := "max", desc := "(II)I" } : Jvm.MethodName)) ∈ tblG := my_in 409 (by decide +kernel) (by decide +kernel)
theorem tw_cd_J9_max_7cf53 : (Jvm.Cond.code ({ cls := "java/lang/Math", name := "max", desc := "(II)I" } : Jvm.MethodName) prog_13_method_65_code (2 : Nat) (Option.some Jvm.ClassFile.FieldType.int)) ∈ tblG := my_in 410 (by decide +kernel) (by decide +kernel)
theorem tw_ml_L_66 : (Jvm.Cond.methodLink "PitchRowsLaw" (66 : Nat) ({ cls := "PitchRows", name := "rows", desc := "()I" } : Jvm.MethodName)) ∈ tblG := my_in 411 (by decide +kernel) (by decide +kernel)
theorem tw_im_X8_rows : (Jvm.Cond.instanceMethod ({ cls := "PitchRows", name := "rows", desc := "()I" } : Jvm.MethodName)) ∈ tblG := my_in 412 (by decide +kernel) (by decide +kernel)
theorem tw_se_X8_X8_rows : (Jvm.Cond.selects "PitchRows" ({ cls := "PitchRows", name := "rows", desc := "()I" } : Jvm.MethodName) ({ cls := "PitchRows", name := "rows", desc := "()I" } : Jvm.MethodName)) ∈ tblG := my_in 413 (by decide +kernel) (by decide +kernel)
theorem tw_cd_X8_rows : (Jvm.Cond.code ({ cls := "PitchRows", name := "rows", desc := "()I" } : Jvm.MethodName) prog_1_method_14_code (1 : Nat) (Option.some Jvm.ClassFile.FieldType.int)) ∈ tblG := my_in 414 (by decide +kernel) (by decide +kernel)
theorem tw_ml_X8_182 : (Jvm.Cond.methodLink "PitchRows" (182 : Nat) ({ cls := "PitchRows$GoodRows", name := "makeFor", desc := "(I)V" } : Jvm.MethodName)) ∈ tblG := my_in 415 (by decide +kernel) (by decide +kernel)
theorem tw_im_X3_makeFor : (Jvm.Cond.instanceMethod ({ cls := "PitchRows$GoodRows", name := "makeFor", desc := "(I)V" } : Jvm.MethodName)) ∈ tblG := my_in 416 (by decide +kernel) (by decide +kernel)
theorem tw_se_X3_X3_makeFor : (Jvm.Cond.selects "PitchRows$GoodRows" ({ cls := "PitchRows$GoodRows", name := "makeFor", desc := "(I)V" } : Jvm.MethodName) ({ cls := "PitchRows$GoodRows", name := "makeFor", desc := "(I)V" } : Jvm.MethodName)) ∈ tblG := my_in 417 (by decide +kernel) (by decide +kernel)
theorem tw_cd_X3_makeFor : (Jvm.Cond.code ({ cls := "PitchRows$GoodRows", name := "makeFor", desc := "(I)V" } : Jvm.MethodName) prog_5_method_2_code (2 : Nat) (Option.none : Option Jvm.ClassFile.FieldType)) ∈ tblG := my_in 418 (by decide +kernel) (by decide +kernel)
theorem tw_ml_X3_25 : (Jvm.Cond.methodLink "PitchRows$GoodRows" (25 : Nat) ({ cls := "PitchRows$GoodRows", name := "grow", desc := "(LPitchRows$GoodRows;I)V" } : Jvm.MethodName)) ∈ tblG := my_in 419 (by decide +kernel) (by decide +kernel)
theorem tw_st_X3_grow : (Jvm.Cond.static ({ cls := "PitchRows$GoodRows", name := "grow", desc := "(LPitchRows$GoodRows;I)V" } : Jvm.MethodName)) ∈ tblG := my_in 420 (by decide +kernel) (by decide +kernel)
theorem tw_cd_X3_grow : (Jvm.Cond.code ({ cls := "PitchRows$GoodRows", name := "grow", desc := "(LPitchRows$GoodRows;I)V" } : Jvm.MethodName) prog_5_method_3_code (3 : Nat) (Option.none : Option Jvm.ClassFile.FieldType)) ∈ tblG := my_in 421 (by decide +kernel) (by decide +kernel)
theorem tw_ml_X3_29 : (Jvm.Cond.methodLink "PitchRows$GoodRows" (29 : Nat) ({ cls := "PitchRows$GoodRows", name := "keep", desc := "()V" } : Jvm.MethodName)) ∈ tblG := my_in 422 (by decide +kernel) (by decide +kernel)
theorem tw_im_X3_keep : (Jvm.Cond.instanceMethod ({ cls := "PitchRows$GoodRows", name := "keep", desc := "()V" } : Jvm.MethodName)) ∈ tblG := my_in 424 (by decide +kernel) (by decide +kernel)
theorem tw_cd_X3_keep : (Jvm.Cond.code ({ cls := "PitchRows$GoodRows", name := "keep", desc := "()V" } : Jvm.MethodName) prog_5_method_4_code (1 : Nat) (Option.none : Option Jvm.ClassFile.FieldType)) ∈ tblG := my_in 425 (by decide +kernel) (by decide +kernel)
theorem tw_ml_X3_36 : (Jvm.Cond.methodLink "PitchRows$GoodRows" (36 : Nat) ({ cls := "PitchRows$GoodRows", name := "codeOf", desc := "([I)I" } : Jvm.MethodName)) ∈ tblG := my_in 426 (by decide +kernel) (by decide +kernel)
theorem tw_im_X3_codeOf : (Jvm.Cond.instanceMethod ({ cls := "PitchRows$GoodRows", name := "codeOf", desc := "([I)I" } : Jvm.MethodName)) ∈ tblG := my_in 428 (by decide +kernel) (by decide +kernel)
theorem tw_cd_X3_codeOf : (Jvm.Cond.code ({ cls := "PitchRows$GoodRows", name := "codeOf", desc := "([I)I" } : Jvm.MethodName) prog_5_method_7_code (4 : Nat) (Option.some Jvm.ClassFile.FieldType.int)) ∈ tblG := my_in 429 (by decide +kernel) (by decide +kernel)
theorem tw_ml_L_71 : (Jvm.Cond.methodLink "PitchRowsLaw" (71 : Nat) ({ cls := "PitchRows", name := "ways", desc := "(II)I" } : Jvm.MethodName)) ∈ tblG := my_in 430 (by decide +kernel) (by decide +kernel)
theorem tw_im_X8_ways : (Jvm.Cond.instanceMethod ({ cls := "PitchRows", name := "ways", desc := "(II)I" } : Jvm.MethodName)) ∈ tblG := my_in 431 (by decide +kernel) (by decide +kernel)
theorem tw_se_X8_X8_ways : (Jvm.Cond.selects "PitchRows" ({ cls := "PitchRows", name := "ways", desc := "(II)I" } : Jvm.MethodName) ({ cls := "PitchRows", name := "ways", desc := "(II)I" } : Jvm.MethodName)) ∈ tblG := my_in 432 (by decide +kernel) (by decide +kernel)
theorem tw_cd_X8_ways : (Jvm.Cond.code ({ cls := "PitchRows", name := "ways", desc := "(II)I" } : Jvm.MethodName) prog_1_method_15_code (4 : Nat) (Option.some Jvm.ClassFile.FieldType.int)) ∈ tblG := my_in 433 (by decide +kernel) (by decide +kernel)
theorem tw_ml_X8_187 : (Jvm.Cond.methodLink "PitchRows" (187 : Nat) ({ cls := "PitchRows$GoodRows", name := "countLike", desc := "([I)I" } : Jvm.MethodName)) ∈ tblG := my_in 434 (by decide +kernel) (by decide +kernel)
theorem tw_im_X3_countLike : (Jvm.Cond.instanceMethod ({ cls := "PitchRows$GoodRows", name := "countLike", desc := "([I)I" } : Jvm.MethodName)) ∈ tblG := my_in 435 (by decide +kernel) (by decide +kernel)
theorem tw_se_X3_X3_countLike : (Jvm.Cond.selects "PitchRows$GoodRows" ({ cls := "PitchRows$GoodRows", name := "countLike", desc := "([I)I" } : Jvm.MethodName) ({ cls := "PitchRows$GoodRows", name := "countLike", desc := "([I)I" } : Jvm.MethodName)) ∈ tblG := my_in 436 (by decide +kernel) (by decide +kernel)
theorem tw_cd_X3_countLike : (Jvm.Cond.code ({ cls := "PitchRows$GoodRows", name := "countLike", desc := "([I)I" } : Jvm.MethodName) prog_5_method_10_code (4 : Nat) (Option.some Jvm.ClassFile.FieldType.int)) ∈ tblG := my_in 437 (by decide +kernel) (by decide +kernel)
theorem tw_ml_X3_44 : (Jvm.Cond.methodLink "PitchRows$GoodRows" (44 : Nat) ({ cls := "PitchRows$GoodRows", name := "isLike", desc := "(I[I)Z" } : Jvm.MethodName)) ∈ tblG := my_in 438 (by decide +kernel) (by decide +kernel)
theorem tw_im_X3_isLike : (Jvm.Cond.instanceMethod ({ cls := "PitchRows$GoodRows", name := "isLike", desc := "(I[I)Z" } : Jvm.MethodName)) ∈ tblG := my_in 440 (by decide +kernel) (by decide +kernel)
theorem tw_cd_X3_isLike : (Jvm.Cond.code ({ cls := "PitchRows$GoodRows", name := "isLike", desc := "(I[I)Z" } : Jvm.MethodName) prog_5_method_9_code (4 : Nat) (Option.some Jvm.ClassFile.FieldType.boolean)) ∈ tblG := my_in 441 (by decide +kernel) (by decide +kernel)
theorem tw_ml_X3_40 : (Jvm.Cond.methodLink "PitchRows$GoodRows" (40 : Nat) ({ cls := "PitchRows$GoodRows", name := "pitchOf", desc := "(II)I" } : Jvm.MethodName)) ∈ tblG := my_in 442 (by decide +kernel) (by decide +kernel)
theorem tw_im_X3_pitchOf : (Jvm.Cond.instanceMethod ({ cls := "PitchRows$GoodRows", name := "pitchOf", desc := "(II)I" } : Jvm.MethodName)) ∈ tblG := my_in 443 (by decide +kernel) (by decide +kernel)
theorem tw_se_X3_X3_pitchOf : (Jvm.Cond.selects "PitchRows$GoodRows" ({ cls := "PitchRows$GoodRows", name := "pitchOf", desc := "(II)I" } : Jvm.MethodName) ({ cls := "PitchRows$GoodRows", name := "pitchOf", desc := "(II)I" } : Jvm.MethodName)) ∈ tblG := my_in 444 (by decide +kernel) (by decide +kernel)
theorem tw_cd_X3_pitchOf : (Jvm.Cond.code ({ cls := "PitchRows$GoodRows", name := "pitchOf", desc := "(II)I" } : Jvm.MethodName) prog_5_method_8_code (3 : Nat) (Option.some Jvm.ClassFile.FieldType.int)) ∈ tblG := my_in 445 (by decide +kernel) (by decide +kernel)
theorem tw_ml_X8_191 : (Jvm.Cond.methodLink "PitchRows" (191 : Nat) ({ cls := "PitchRows$GoodRows", name := "firstLike", desc := "([I)I" } : Jvm.MethodName)) ∈ tblG := my_in 446 (by decide +kernel) (by decide +kernel)
theorem tw_im_X3_firstLike : (Jvm.Cond.instanceMethod ({ cls := "PitchRows$GoodRows", name := "firstLike", desc := "([I)I" } : Jvm.MethodName)) ∈ tblG := my_in 447 (by decide +kernel) (by decide +kernel)
theorem tw_se_X3_X3_firstLike : (Jvm.Cond.selects "PitchRows$GoodRows" ({ cls := "PitchRows$GoodRows", name := "firstLike", desc := "([I)I" } : Jvm.MethodName) ({ cls := "PitchRows$GoodRows", name := "firstLike", desc := "([I)I" } : Jvm.MethodName)) ∈ tblG := my_in 448 (by decide +kernel) (by decide +kernel)
theorem tw_cd_X3_firstLike : (Jvm.Cond.code ({ cls := "PitchRows$GoodRows", name := "firstLike", desc := "([I)I" } : Jvm.MethodName) prog_5_method_11_code (3 : Nat) (Option.some Jvm.ClassFile.FieldType.int)) ∈ tblG := my_in 449 (by decide +kernel) (by decide +kernel)
theorem tw_ml_X8_194 : (Jvm.Cond.methodLink "PitchRows" (194 : Nat) ({ cls := "PitchRows$GoodRows", name := "pitchOf", desc := "(II)I" } : Jvm.MethodName)) ∈ tblG := my_in 450 (by decide +kernel) (by decide +kernel)
theorem tw_ml_L_75 : (Jvm.Cond.methodLink "PitchRowsLaw" (75 : Nat) ({ cls := "PitchRows", name := "next", desc := "(II)I" } : Jvm.MethodName)) ∈ tblG := my_in 451 (by decide +kernel) (by decide +kernel)
theorem tw_im_X8_next : (Jvm.Cond.instanceMethod ({ cls := "PitchRows", name := "next", desc := "(II)I" } : Jvm.MethodName)) ∈ tblG := my_in 452 (by decide +kernel) (by decide +kernel)
theorem tw_se_X8_X8_next : (Jvm.Cond.selects "PitchRows" ({ cls := "PitchRows", name := "next", desc := "(II)I" } : Jvm.MethodName) ({ cls := "PitchRows", name := "next", desc := "(II)I" } : Jvm.MethodName)) ∈ tblG := my_in 453 (by decide +kernel) (by decide +kernel)
theorem tw_cd_X8_next : (Jvm.Cond.code ({ cls := "PitchRows", name := "next", desc := "(II)I" } : Jvm.MethodName) prog_1_method_16_code (3 : Nat) (Option.some Jvm.ClassFile.FieldType.int)) ∈ tblG := my_in 454 (by decide +kernel) (by decide +kernel)
theorem tw_ml_X8_197 : (Jvm.Cond.methodLink "PitchRows" (197 : Nat) ({ cls := "PitchRows$GoodRows", name := "firstBehind", desc := "([I)I" } : Jvm.MethodName)) ∈ tblG := my_in 455 (by decide +kernel) (by decide +kernel)
theorem tw_im_X3_firstBehind : (Jvm.Cond.instanceMethod ({ cls := "PitchRows$GoodRows", name := "firstBehind", desc := "([I)I" } : Jvm.MethodName)) ∈ tblG := my_in 456 (by decide +kernel) (by decide +kernel)
theorem tw_se_X3_X3_firstBehind : (Jvm.Cond.selects "PitchRows$GoodRows" ({ cls := "PitchRows$GoodRows", name := "firstBehind", desc := "([I)I" } : Jvm.MethodName) ({ cls := "PitchRows$GoodRows", name := "firstBehind", desc := "([I)I" } : Jvm.MethodName)) ∈ tblG := my_in 457 (by decide +kernel) (by decide +kernel)
theorem tw_cd_X3_firstBehind : (Jvm.Cond.code ({ cls := "PitchRows$GoodRows", name := "firstBehind", desc := "([I)I" } : Jvm.MethodName) prog_5_method_12_code (4 : Nat) (Option.some Jvm.ClassFile.FieldType.int)) ∈ tblG := my_in 458 (by decide +kernel) (by decide +kernel)
theorem tw_ml_L_79 : (Jvm.Cond.methodLink "PitchRowsLaw" (79 : Nat) ({ cls := "PitchRows", name := "reading", desc := "(IIIII)I" } : Jvm.MethodName)) ∈ tblG := my_in 459 (by decide +kernel) (by decide +kernel)
theorem tw_im_X8_reading : (Jvm.Cond.instanceMethod ({ cls := "PitchRows", name := "reading", desc := "(IIIII)I" } : Jvm.MethodName)) ∈ tblG := my_in 460 (by decide +kernel) (by decide +kernel)
theorem tw_se_X8_X8_reading : (Jvm.Cond.selects "PitchRows" ({ cls := "PitchRows", name := "reading", desc := "(IIIII)I" } : Jvm.MethodName) ({ cls := "PitchRows", name := "reading", desc := "(IIIII)I" } : Jvm.MethodName)) ∈ tblG := my_in 461 (by decide +kernel) (by decide +kernel)
theorem tw_cd_X8_reading : (Jvm.Cond.code ({ cls := "PitchRows", name := "reading", desc := "(IIIII)I" } : Jvm.MethodName) prog_1_method_17_code (6 : Nat) (Option.some Jvm.ClassFile.FieldType.int)) ∈ tblG := my_in 462 (by decide +kernel) (by decide +kernel)
theorem tw_ml_X8_200 : (Jvm.Cond.methodLink "PitchRows" (200 : Nat) ({ cls := "PitchRows$Readings", name := "add", desc := "(IIIII)Z" } : Jvm.MethodName)) ∈ tblG := my_in 463 (by decide +kernel) (by decide +kernel)
theorem tw_im_X5_add : (Jvm.Cond.instanceMethod ({ cls := "PitchRows$Readings", name := "add", desc := "(IIIII)Z" } : Jvm.MethodName)) ∈ tblG := my_in 464 (by decide +kernel) (by decide +kernel)
theorem tw_se_X5_X5_add : (Jvm.Cond.selects "PitchRows$Readings" ({ cls := "PitchRows$Readings", name := "add", desc := "(IIIII)Z" } : Jvm.MethodName) ({ cls := "PitchRows$Readings", name := "add", desc := "(IIIII)Z" } : Jvm.MethodName)) ∈ tblG := my_in 465 (by decide +kernel) (by decide +kernel)
theorem tw_cd_X5_add : (Jvm.Cond.code ({ cls := "PitchRows$Readings", name := "add", desc := "(IIIII)Z" } : Jvm.MethodName) prog_7_method_2_code (6 : Nat) (Option.some Jvm.ClassFile.FieldType.boolean)) ∈ tblG := my_in 466 (by decide +kernel) (by decide +kernel)
theorem tw_ml_L_83 : (Jvm.Cond.methodLink "PitchRowsLaw" (83 : Nat) ({ cls := "PitchRows", name := "back", desc := "(I)I" } : Jvm.MethodName)) ∈ tblG := my_in 467 (by decide +kernel) (by decide +kernel)
theorem tw_im_X8_back : (Jvm.Cond.instanceMethod ({ cls := "PitchRows", name := "back", desc := "(I)I" } : Jvm.MethodName)) ∈ tblG := my_in 468 (by decide +kernel) (by decide +kernel)
theorem tw_se_X8_X8_back : (Jvm.Cond.selects "PitchRows" ({ cls := "PitchRows", name := "back", desc := "(I)I" } : Jvm.MethodName) ({ cls := "PitchRows", name := "back", desc := "(I)I" } : Jvm.MethodName)) ∈ tblG := my_in 469 (by decide +kernel) (by decide +kernel)
theorem tw_cd_X8_back : (Jvm.Cond.code ({ cls := "PitchRows", name := "back", desc := "(I)I" } : Jvm.MethodName) prog_1_method_18_code (2 : Nat) (Option.some Jvm.ClassFile.FieldType.int)) ∈ tblG := my_in 470 (by decide +kernel) (by decide +kernel)
theorem tw_ml_X8_203 : (Jvm.Cond.methodLink "PitchRows" (203 : Nat) ({ cls := "PitchRows$Readings", name := "takeBack", desc := "(I)Z" } : Jvm.MethodName)) ∈ tblG := my_in 471 (by decide +kernel) (by decide +kernel)
theorem tw_sm_472 : (Jvm.Cond.sameMethod "PitchRows$Readings" "PitchRows$Numbered" "takeBack" "(I)Z") ∈ tblG := my_in 472 (by decide +kernel) (by decide +kernel)
theorem tw_se_X5_X4_takeBack : (Jvm.Cond.selects "PitchRows$Readings" ({ cls := "PitchRows$Readings", name := "takeBack", desc := "(I)Z" } : Jvm.MethodName) ({ cls := "PitchRows$Numbered", name := "takeBack", desc := "(I)Z" } : Jvm.MethodName)) ∈ tblG := my_in 473 (by decide +kernel) (by decide +kernel)
theorem tw_ml_L_87 : (Jvm.Cond.methodLink "PitchRowsLaw" (87 : Nat) ({ cls := "PitchRows", name := "kinds", desc := "(I)I" } : Jvm.MethodName)) ∈ tblG := my_in 474 (by decide +kernel) (by decide +kernel)
theorem tw_im_X8_kinds : (Jvm.Cond.instanceMethod ({ cls := "PitchRows", name := "kinds", desc := "(I)I" } : Jvm.MethodName)) ∈ tblG := my_in 475 (by decide +kernel) (by decide +kernel)
theorem tw_se_X8_X8_kinds : (Jvm.Cond.selects "PitchRows" ({ cls := "PitchRows", name := "kinds", desc := "(I)I" } : Jvm.MethodName) ({ cls := "PitchRows", name := "kinds", desc := "(I)I" } : Jvm.MethodName)) ∈ tblG := my_in 476 (by decide +kernel) (by decide +kernel)
theorem tw_cd_X8_kinds : (Jvm.Cond.code ({ cls := "PitchRows", name := "kinds", desc := "(I)I" } : Jvm.MethodName) prog_1_method_19_code (6 : Nat) (Option.some Jvm.ClassFile.FieldType.int)) ∈ tblG := my_in 477 (by decide +kernel) (by decide +kernel)
theorem tw_ml_X8_204 : (Jvm.Cond.methodLink "PitchRows" (204 : Nat) ({ cls := "PitchRows$Readings", name := "areSo", desc := "(LPitchRows$Choir;)Z" } : Jvm.MethodName)) ∈ tblG := my_in 478 (by decide +kernel) (by decide +kernel)
theorem tw_im_X5_areSo : (Jvm.Cond.instanceMethod ({ cls := "PitchRows$Readings", name := "areSo", desc := "(LPitchRows$Choir;)Z" } : Jvm.MethodName)) ∈ tblG := my_in 479 (by decide +kernel) (by decide +kernel)
theorem tw_se_X5_X5_areSo : (Jvm.Cond.selects "PitchRows$Readings" ({ cls := "PitchRows$Readings", name := "areSo", desc := "(LPitchRows$Choir;)Z" } : Jvm.MethodName) ({ cls := "PitchRows$Readings", name := "areSo", desc := "(LPitchRows$Choir;)Z" } : Jvm.MethodName)) ∈ tblG := my_in 480 (by decide +kernel) (by decide +kernel)
theorem tw_cd_X5_areSo : (Jvm.Cond.code ({ cls := "PitchRows$Readings", name := "areSo", desc := "(LPitchRows$Choir;)Z" } : Jvm.MethodName) prog_7_method_3_code (3 : Nat) (Option.some Jvm.ClassFile.FieldType.boolean)) ∈ tblG := my_in 481 (by decide +kernel) (by decide +kernel)
theorem tw_ml_X5_31 : (Jvm.Cond.methodLink "PitchRows$Readings" (31 : Nat) ({ cls := "PitchRows$Choir", name := "heard", desc := "(IIII)I" } : Jvm.MethodName)) ∈ tblG := my_in 482 (by decide +kernel) (by decide +kernel)
theorem tw_ml_L_91 : (Jvm.Cond.methodLink "PitchRowsLaw" (91 : Nat) ({ cls := "PitchRows", name := "pitches", desc := "(II)I" } : Jvm.MethodName)) ∈ tblG := my_in 483 (by decide +kernel) (by decide +kernel)
theorem tw_im_X8_pitches : (Jvm.Cond.instanceMethod ({ cls := "PitchRows", name := "pitches", desc := "(II)I" } : Jvm.MethodName)) ∈ tblG := my_in 484 (by decide +kernel) (by decide +kernel)
theorem tw_se_X8_X8_pitches : (Jvm.Cond.selects "PitchRows" ({ cls := "PitchRows", name := "pitches", desc := "(II)I" } : Jvm.MethodName) ({ cls := "PitchRows", name := "pitches", desc := "(II)I" } : Jvm.MethodName)) ∈ tblG := my_in 485 (by decide +kernel) (by decide +kernel)
theorem tw_cd_X8_pitches : (Jvm.Cond.code ({ cls := "PitchRows", name := "pitches", desc := "(II)I" } : Jvm.MethodName) prog_1_method_20_code (7 : Nat) (Option.some Jvm.ClassFile.FieldType.int)) ∈ tblG := my_in 486 (by decide +kernel) (by decide +kernel)
theorem tw_ml_L_95 : (Jvm.Cond.methodLink "PitchRowsLaw" (95 : Nat) ({ cls := "PitchRows", name := "odds", desc := "(III)J" } : Jvm.MethodName)) ∈ tblG := my_in 487 (by decide +kernel) (by decide +kernel)
theorem tw_im_X8_odds : (Jvm.Cond.instanceMethod ({ cls := "PitchRows", name := "odds", desc := "(III)J" } : Jvm.MethodName)) ∈ tblG := my_in 488 (by decide +kernel) (by decide +kernel)
theorem tw_se_X8_X8_odds : (Jvm.Cond.selects "PitchRows" ({ cls := "PitchRows", name := "odds", desc := "(III)J" } : Jvm.MethodName) ({ cls := "PitchRows", name := "odds", desc := "(III)J" } : Jvm.MethodName)) ∈ tblG := my_in 489 (by decide +kernel) (by decide +kernel)
theorem tw_cd_X8_odds : (Jvm.Cond.code ({ cls := "PitchRows", name := "odds", desc := "(III)J" } : Jvm.MethodName) prog_1_method_21_code (8 : Nat) (Option.some Jvm.ClassFile.FieldType.long)) ∈ tblG := my_in 490 (by decide +kernel) (by decide +kernel)
theorem tw_kl_X8_208 : (Jvm.Cond.constantLong "PitchRows" (208 : Nat) (-9223372036854775808 : Int64)) ∈ tblG := my_in 491 (by decide +kernel) (by decide +kernel)
theorem tw_ml_X8_210 : (Jvm.Cond.methodLink "PitchRows" (210 : Nat) ({ cls := "PitchRows", name := "inLeastTerms", desc := "(II)I" } : Jvm.MethodName)) ∈ tblG := my_in 492 (by decide +kernel) (by decide +kernel)
theorem tw_st_X8_inLeastTerms : (Jvm.Cond.static ({ cls := "PitchRows", name := "inLeastTerms", desc := "(II)I" } : Jvm.MethodName)) ∈ tblG := my_in 493 (by decide +kernel) (by decide +kernel)
theorem tw_cd_X8_inLeastTerms : (Jvm.Cond.code ({ cls := "PitchRows", name := "inLeastTerms", desc := "(II)I" } : Jvm.MethodName) prog_1_method_40_code (3 : Nat) (Option.some Jvm.ClassFile.FieldType.int)) ∈ tblG := my_in 494 (by decide +kernel) (by decide +kernel)
theorem tw_ml_L_100 : (Jvm.Cond.methodLink "PitchRowsLaw" (100 : Nat) ({ cls := "PitchRows", name := "sheet", desc := "(III)I" } : Jvm.MethodName)) ∈ tblG := my_in 495 (by decide +kernel) (by decide +kernel)
theorem tw_im_X8_sheet : (Jvm.Cond.instanceMethod ({ cls := "PitchRows", name := "sheet", desc := "(III)I" } : Jvm.MethodName)) ∈ tblG := my_in 496 (by decide +kernel) (by decide +kernel)
theorem tw_se_X8_X8_sheet : (Jvm.Cond.selects "PitchRows" ({ cls := "PitchRows", name := "sheet", desc := "(III)I" } : Jvm.MethodName) ({ cls := "PitchRows", name := "sheet", desc := "(III)I" } : Jvm.MethodName)) ∈ tblG := my_in 497 (by decide +kernel) (by decide +kernel)
theorem tw_cd_X8_sheet : (Jvm.Cond.code ({ cls := "PitchRows", name := "sheet", desc := "(III)I" } : Jvm.MethodName) prog_1_method_22_code (4 : Nat) (Option.some Jvm.ClassFile.FieldType.int)) ∈ tblG := my_in 498 (by decide +kernel) (by decide +kernel)
theorem tw_ml_X8_213 : (Jvm.Cond.methodLink "PitchRows" (213 : Nat) ({ cls := "PitchRows$Sheet", name := "begin", desc := "(II)V" } : Jvm.MethodName)) ∈ tblG := my_in 499 (by decide +kernel) (by decide +kernel)
theorem tw_im_X6_begin : (Jvm.Cond.instanceMethod ({ cls := "PitchRows$Sheet", name := "begin", desc := "(II)V" } : Jvm.MethodName)) ∈ tblG := my_in 500 (by decide +kernel) (by decide +kernel)
theorem tw_se_X6_X6_begin : (Jvm.Cond.selects "PitchRows$Sheet" ({ cls := "PitchRows$Sheet", name := "begin", desc := "(II)V" } : Jvm.MethodName) ({ cls := "PitchRows$Sheet", name := "begin", desc := "(II)V" } : Jvm.MethodName)) ∈ tblG := my_in 501 (by decide +kernel) (by decide +kernel)
theorem tw_cd_X6_begin : (Jvm.Cond.code ({ cls := "PitchRows$Sheet", name := "begin", desc := "(II)V" } : Jvm.MethodName) prog_8_method_2_code (3 : Nat) (Option.none : Option Jvm.ClassFile.FieldType)) ∈ tblG := my_in 502 (by decide +kernel) (by decide +kernel)
theorem tw_ml_X6_26 : (Jvm.Cond.methodLink "PitchRows$Sheet" (26 : Nat) ({ cls := "java/util/Arrays", name := "fill", desc := "([II)V" } : Jvm.MethodName)) ∈ tblG := my_in 503 (by decide +kernel) (by decide +kernel)
theorem tw_ml_L_104 : (Jvm.Cond.methodLink "PitchRowsLaw" (104 : Nat) ({ cls := "PitchRows", name := "lose", desc := "(I)I" } : Jvm.MethodName)) ∈ tblG := my_in 504 (by decide +kernel) (by decide +kernel)
theorem tw_im_X8_lose : (Jvm.Cond.instanceMethod ({ cls := "PitchRows", name := "lose", desc := "(I)I" } : Jvm.MethodName)) ∈ tblG := my_in 505 (by decide +kernel) (by decide +kernel)
theorem tw_se_X8_X8_lose : (Jvm.Cond.selects "PitchRows" ({ cls := "PitchRows", name := "lose", desc := "(I)I" } : Jvm.MethodName) ({ cls := "PitchRows", name := "lose", desc := "(I)I" } : Jvm.MethodName)) ∈ tblG := my_in 506 (by decide +kernel) (by decide +kernel)
theorem tw_cd_X8_lose : (Jvm.Cond.code ({ cls := "PitchRows", name := "lose", desc := "(I)I" } : Jvm.MethodName) prog_1_method_23_code (3 : Nat) (Option.some Jvm.ClassFile.FieldType.int)) ∈ tblG := my_in 507 (by decide +kernel) (by decide +kernel)
theorem tw_ml_L_108 : (Jvm.Cond.methodLink "PitchRowsLaw" (108 : Nat) ({ cls := "PitchRows", name := "put", desc := "(III)I" } : Jvm.MethodName)) ∈ tblG := my_in 508 (by decide +kernel) (by decide +kernel)
theorem tw_im_X8_put : (Jvm.Cond.instanceMethod ({ cls := "PitchRows", name := "put", desc := "(III)I" } : Jvm.MethodName)) ∈ tblG := my_in 509 (by decide +kernel) (by decide +kernel)
theorem tw_se_X8_X8_put : (Jvm.Cond.selects "PitchRows" ({ cls := "PitchRows", name := "put", desc := "(III)I" } : Jvm.MethodName) ({ cls := "PitchRows", name := "put", desc := "(III)I" } : Jvm.MethodName)) ∈ tblG := my_in 510 (by decide +kernel) (by decide +kernel)
theorem tw_cd_X8_put : (Jvm.Cond.code ({ cls := "PitchRows", name := "put", desc := "(III)I" } : Jvm.MethodName) prog_1_method_24_code (4 : Nat) (Option.some Jvm.ClassFile.FieldType.int)) ∈ tblG := my_in 511 (by decide +kernel) (by decide +kernel)
theorem tw_ml_X8_220 : (Jvm.Cond.methodLink "PitchRows" (220 : Nat) ({ cls := "PitchRows$Sheet", name := "holds", desc := "(II)Z" } : Jvm.MethodName)) ∈ tblG := my_in 512 (by decide +kernel) (by decide +kernel)
theorem tw_ml_X8_224 : (Jvm.Cond.methodLink "PitchRows" (224 : Nat) ({ cls := "PitchRows$Sheet", name := "write", desc := "(II)V" } : Jvm.MethodName)) ∈ tblG := my_in 513 (by decide +kernel) (by decide +kernel)
theorem tw_im_X6_write : (Jvm.Cond.instanceMethod ({ cls := "PitchRows$Sheet", name := "write", desc := "(II)V" } : Jvm.MethodName)) ∈ tblG := my_in 514 (by decide +kernel) (by decide +kernel)
theorem tw_se_X6_X6_write : (Jvm.Cond.selects "PitchRows$Sheet" ({ cls := "PitchRows$Sheet", name := "write", desc := "(II)V" } : Jvm.MethodName) ({ cls := "PitchRows$Sheet", name := "write", desc := "(II)V" } : Jvm.MethodName)) ∈ tblG := my_in 515 (by decide +kernel) (by decide +kernel)
theorem tw_cd_X6_write : (Jvm.Cond.code ({ cls := "PitchRows$Sheet", name := "write", desc := "(II)V" } : Jvm.MethodName) prog_8_method_5_code (3 : Nat) (Option.none : Option Jvm.ClassFile.FieldType)) ∈ tblG := my_in 516 (by decide +kernel) (by decide +kernel)
theorem tw_ml_L_112 : (Jvm.Cond.methodLink "PitchRowsLaw" (112 : Nat) ({ cls := "PitchRows", name := "cell", desc := "(III)J" } : Jvm.MethodName)) ∈ tblG := my_in 517 (by decide +kernel) (by decide +kernel)
theorem tw_im_X8_cell : (Jvm.Cond.instanceMethod ({ cls := "PitchRows", name := "cell", desc := "(III)J" } : Jvm.MethodName)) ∈ tblG := my_in 518 (by decide +kernel) (by decide +kernel)
theorem tw_se_X8_X8_cell : (Jvm.Cond.selects "PitchRows" ({ cls := "PitchRows", name := "cell", desc := "(III)J" } : Jvm.MethodName) ({ cls := "PitchRows", name := "cell", desc := "(III)J" } : Jvm.MethodName)) ∈ tblG := my_in 519 (by decide +kernel) (by decide +kernel)
theorem tw_cd_X8_cell : (Jvm.Cond.code ({ cls := "PitchRows", name := "cell", desc := "(III)J" } : Jvm.MethodName) prog_1_method_25_code (4 : Nat) (Option.some Jvm.ClassFile.FieldType.long)) ∈ tblG := my_in 520 (by decide +kernel) (by decide +kernel)
theorem tw_ml_L_116 : (Jvm.Cond.methodLink "PitchRowsLaw" (116 : Nat) ({ cls := "PitchRows", name := "copy", desc := "(IIIII)I" } : Jvm.MethodName)) ∈ tblG := my_in 521 (by decide +kernel) (by decide +kernel)
theorem tw_im_X8_copy : (Jvm.Cond.instanceMethod ({ cls := "PitchRows", name := "copy", desc := "(IIIII)I" } : Jvm.MethodName)) ∈ tblG := my_in 522 (by decide +kernel) (by decide +kernel)
theorem tw_se_X8_X8_copy : (Jvm.Cond.selects "PitchRows" ({ cls := "PitchRows", name := "copy", desc := "(IIIII)I" } : Jvm.MethodName) ({ cls := "PitchRows", name := "copy", desc := "(IIIII)I" } : Jvm.MethodName)) ∈ tblG := my_in 523 (by decide +kernel) (by decide +kernel)
theorem tw_cd_X8_copy : (Jvm.Cond.code ({ cls := "PitchRows", name := "copy", desc := "(IIIII)I" } : Jvm.MethodName) prog_1_method_26_code (8 : Nat) (Option.some Jvm.ClassFile.FieldType.int)) ∈ tblG := my_in 524 (by decide +kernel) (by decide +kernel)
theorem tw_ml_X8_233 : (Jvm.Cond.methodLink "PitchRows" (233 : Nat) ({ cls := "java/lang/System", name := "arraycopy", desc := "(Ljava/lang/Object;ILjava/lang/Object;II)V" } : Jvm.MethodName)) ∈ tblG := my_in 525 (by decide +kernel) (by decide +kernel)
theorem tw_ml_L_120 : (Jvm.Cond.methodLink "PitchRowsLaw" (120 : Nat) ({ cls := "PitchRows", name := "tell", desc := "(I)I" } : Jvm.MethodName)) ∈ tblG := my_in 526 (by decide +kernel) (by decide +kernel)
theorem tw_im_X8_tell : (Jvm.Cond.instanceMethod ({ cls := "PitchRows", name := "tell", desc := "(I)I" } : Jvm.MethodName)) ∈ tblG := my_in 527 (by decide +kernel) (by decide +kernel)
theorem tw_se_X8_X8_tell : (Jvm.Cond.selects "PitchRows" ({ cls := "PitchRows", name := "tell", desc := "(I)I" } : Jvm.MethodName) ({ cls := "PitchRows", name := "tell", desc := "(I)I" } : Jvm.MethodName)) ∈ tblG := my_in 528 (by decide +kernel) (by decide +kernel)
theorem tw_cd_X8_tell : (Jvm.Cond.code ({ cls := "PitchRows", name := "tell", desc := "(I)I" } : Jvm.MethodName) prog_1_method_27_code (3 : Nat) (Option.some Jvm.ClassFile.FieldType.int)) ∈ tblG := my_in 529 (by decide +kernel) (by decide +kernel)
theorem tw_ml_X8_239 : (Jvm.Cond.methodLink "PitchRows" (239 : Nat) ({ cls := "PitchRows", name := "keenTelling", desc := "(LPitchRows$Caller;)I" } : Jvm.MethodName)) ∈ tblG := my_in 530 (by decide +kernel) (by decide +kernel)
theorem tw_im_X8_keenTelling : (Jvm.Cond.instanceMethod ({ cls := "PitchRows", name := "keenTelling", desc := "(LPitchRows$Caller;)I" } : Jvm.MethodName)) ∈ tblG := my_in 532 (by decide +kernel) (by decide +kernel)
theorem tw_cd_X8_keenTelling : (Jvm.Cond.code ({ cls := "PitchRows", name := "keenTelling", desc := "(LPitchRows$Caller;)I" } : Jvm.MethodName) prog_1_method_48_code (3 : Nat) (Option.some Jvm.ClassFile.FieldType.int)) ∈ tblG := my_in 533 (by decide +kernel) (by decide +kernel)
theorem tw_ml_X8_274 : (Jvm.Cond.methodLink "PitchRows" (274 : Nat) ({ cls := "PitchRows", name := "leave", desc := "(I)V" } : Jvm.MethodName)) ∈ tblG := my_in 534 (by decide +kernel) (by decide +kernel)
theorem tw_im_X8_leave : (Jvm.Cond.instanceMethod ({ cls := "PitchRows", name := "leave", desc := "(I)V" } : Jvm.MethodName)) ∈ tblG := my_in 536 (by decide +kernel) (by decide +kernel)
theorem tw_cd_X8_leave : (Jvm.Cond.code ({ cls := "PitchRows", name := "leave", desc := "(I)V" } : Jvm.MethodName) prog_1_method_45_code (2 : Nat) (Option.none : Option Jvm.ClassFile.FieldType)) ∈ tblG := my_in 537 (by decide +kernel) (by decide +kernel)
theorem tw_ml_X8_243 : (Jvm.Cond.methodLink "PitchRows" (243 : Nat) ({ cls := "PitchRows", name := "broadTelling", desc := "(LPitchRows$Caller;)I" } : Jvm.MethodName)) ∈ tblG := my_in 538 (by decide +kernel) (by decide +kernel)
theorem tw_im_X8_broadTelling : (Jvm.Cond.instanceMethod ({ cls := "PitchRows", name := "broadTelling", desc := "(LPitchRows$Caller;)I" } : Jvm.MethodName)) ∈ tblG := my_in 540 (by decide +kernel) (by decide +kernel)
theorem tw_cd_X8_broadTelling : (Jvm.Cond.code ({ cls := "PitchRows", name := "broadTelling", desc := "(LPitchRows$Caller;)I" } : Jvm.MethodName) prog_1_method_47_code (2 : Nat) (Option.some Jvm.ClassFile.FieldType.int)) ∈ tblG := my_in 541 (by decide +kernel) (by decide +kernel)
theorem tw_ml_X8_246 : (Jvm.Cond.methodLink "PitchRows" (246 : Nat) ({ cls := "PitchRows", name := "plainTelling", desc := "(LPitchRows$Caller;)I" } : Jvm.MethodName)) ∈ tblG := my_in 542 (by decide +kernel) (by decide +kernel)
theorem tw_im_X8_plainTelling : (Jvm.Cond.instanceMethod ({ cls := "PitchRows", name := "plainTelling", desc := "(LPitchRows$Caller;)I" } : Jvm.MethodName)) ∈ tblG := my_in 544 (by decide +kernel) (by decide +kernel)
theorem tw_cd_X8_plainTelling : (Jvm.Cond.code ({ cls := "PitchRows", name := "plainTelling", desc := "(LPitchRows$Caller;)I" } : Jvm.MethodName) prog_1_method_46_code (2 : Nat) (Option.some Jvm.ClassFile.FieldType.int)) ∈ tblG := my_in 545 (by decide +kernel) (by decide +kernel)
theorem tw_ml_L_124 : (Jvm.Cond.methodLink "PitchRowsLaw" (124 : Nat) ({ cls := "PitchRows", name := "hail", desc := "(I)I" } : Jvm.MethodName)) ∈ tblG := my_in 546 (by decide +kernel) (by decide +kernel)
theorem tw_im_X8_hail : (Jvm.Cond.instanceMethod ({ cls := "PitchRows", name := "hail", desc := "(I)I" } : Jvm.MethodName)) ∈ tblG := my_in 547 (by decide +kernel) (by decide +kernel)
theorem tw_se_X8_X8_hail : (Jvm.Cond.selects "PitchRows" ({ cls := "PitchRows", name := "hail", desc := "(I)I" } : Jvm.MethodName) ({ cls := "PitchRows", name := "hail", desc := "(I)I" } : Jvm.MethodName)) ∈ tblG := my_in 548 (by decide +kernel) (by decide +kernel)
theorem tw_cd_X8_hail : (Jvm.Cond.code ({ cls := "PitchRows", name := "hail", desc := "(I)I" } : Jvm.MethodName) prog_1_method_28_code (2 : Nat) (Option.some Jvm.ClassFile.FieldType.int)) ∈ tblG := my_in 549 (by decide +kernel) (by decide +kernel)
theorem tw_ml_X8_249 : (Jvm.Cond.methodLink "PitchRows" (249 : Nat) ({ cls := "PitchRows", name := "keenHail", desc := "()I" } : Jvm.MethodName)) ∈ tblG := my_in 550 (by decide +kernel) (by decide +kernel)
theorem tw_im_X8_keenHail : (Jvm.Cond.instanceMethod ({ cls := "PitchRows", name := "keenHail", desc := "()I" } : Jvm.MethodName)) ∈ tblG := my_in 552 (by decide +kernel) (by decide +kernel)
theorem tw_cd_X8_keenHail : (Jvm.Cond.code ({ cls := "PitchRows", name := "keenHail", desc := "()I" } : Jvm.MethodName) prog_1_method_50_code (1 : Nat) (Option.some Jvm.ClassFile.FieldType.int)) ∈ tblG := my_in 553 (by decide +kernel) (by decide +kernel)
theorem tw_ml_X8_253 : (Jvm.Cond.methodLink "PitchRows" (253 : Nat) ({ cls := "PitchRows", name := "lentHail", desc := "(I)I" } : Jvm.MethodName)) ∈ tblG := my_in 554 (by decide +kernel) (by decide +kernel)
theorem tw_im_X8_lentHail : (Jvm.Cond.instanceMethod ({ cls := "PitchRows", name := "lentHail", desc := "(I)I" } : Jvm.MethodName)) ∈ tblG := my_in 556 (by decide +kernel) (by decide +kernel)
theorem tw_cd_X8_lentHail : (Jvm.Cond.code ({ cls := "PitchRows", name := "lentHail", desc := "(I)I" } : Jvm.MethodName) prog_1_method_49_code (2 : Nat) (Option.some Jvm.ClassFile.FieldType.int)) ∈ tblG := my_in 557 (by decide +kernel) (by decide +kernel)
theorem tw_ml_L_128 : (Jvm.Cond.methodLink "PitchRowsLaw" (128 : Nat) ({ cls := "PitchRows", name := "as", desc := "(II)I" } : Jvm.MethodName)) ∈ tblG := my_in 558 (by decide +kernel) (by decide +kernel)
theorem tw_im_X8_as : (Jvm.Cond.instanceMethod ({ cls := "PitchRows", name := "as", desc := "(II)I" } : Jvm.MethodName)) ∈ tblG := my_in 559 (by decide +kernel) (by decide +kernel)
theorem tw_se_X8_X8_as : (Jvm.Cond.selects "PitchRows" ({ cls := "PitchRows", name := "as", desc := "(II)I" } : Jvm.MethodName) ({ cls := "PitchRows", name := "as", desc := "(II)I" } : Jvm.MethodName)) ∈ tblG := my_in 560 (by decide +kernel) (by decide +kernel)
theorem tw_cd_X8_as : (Jvm.Cond.code ({ cls := "PitchRows", name := "as", desc := "(II)I" } : Jvm.MethodName) prog_1_method_29_code (3 : Nat) (Option.some Jvm.ClassFile.FieldType.int)) ∈ tblG := my_in 561 (by decide +kernel) (by decide +kernel)
theorem tw_ml_L_132 : (Jvm.Cond.methodLink "PitchRowsLaw" (132 : Nat) ({ cls := "PitchRows", name := "trace", desc := "()I" } : Jvm.MethodName)) ∈ tblG := my_in 562 (by decide +kernel) (by decide +kernel)
theorem tw_im_X8_trace : (Jvm.Cond.instanceMethod ({ cls := "PitchRows", name := "trace", desc := "()I" } : Jvm.MethodName)) ∈ tblG := my_in 563 (by decide +kernel) (by decide +kernel)
theorem tw_se_X8_X8_trace : (Jvm.Cond.selects "PitchRows" ({ cls := "PitchRows", name := "trace", desc := "()I" } : Jvm.MethodName) ({ cls := "PitchRows", name := "trace", desc := "()I" } : Jvm.MethodName)) ∈ tblG := my_in 564 (by decide +kernel) (by decide +kernel)
theorem tw_cd_X8_trace : (Jvm.Cond.code ({ cls := "PitchRows", name := "trace", desc := "()I" } : Jvm.MethodName) prog_1_method_30_code (1 : Nat) (Option.some Jvm.ClassFile.FieldType.int)) ∈ tblG := my_in 565 (by decide +kernel) (by decide +kernel)
theorem tw_ml_L_136 : (Jvm.Cond.methodLink "PitchRowsLaw" (136 : Nat) ({ cls := "PitchRows", name := "fault", desc := "()I" } : Jvm.MethodName)) ∈ tblG := my_in 566 (by decide +kernel) (by decide +kernel)
theorem tw_im_X8_fault : (Jvm.Cond.instanceMethod ({ cls := "PitchRows", name := "fault", desc := "()I" } : Jvm.MethodName)) ∈ tblG := my_in 567 (by decide +kernel) (by decide +kernel)
theorem tw_se_X8_X8_fault : (Jvm.Cond.selects "PitchRows" ({ cls := "PitchRows", name := "fault", desc := "()I" } : Jvm.MethodName) ({ cls := "PitchRows", name := "fault", desc := "()I" } : Jvm.MethodName)) ∈ tblG := my_in 568 (by decide +kernel) (by decide +kernel)
theorem tw_cd_X8_fault : (Jvm.Cond.code ({ cls := "PitchRows", name := "fault", desc := "()I" } : Jvm.MethodName) prog_1_method_31_code (1 : Nat) (Option.some Jvm.ClassFile.FieldType.int)) ∈ tblG := my_in 569 (by decide +kernel) (by decide +kernel)
theorem tw_ml_L_140 : (Jvm.Cond.methodLink "PitchRowsLaw" (140 : Nat) ({ cls := "PitchRows", name := "many", desc := "(I)I" } : Jvm.MethodName)) ∈ tblG := my_in 570 (by decide +kernel) (by decide +kernel)
theorem tw_im_X8_many : (Jvm.Cond.instanceMethod ({ cls := "PitchRows", name := "many", desc := "(I)I" } : Jvm.MethodName)) ∈ tblG := my_in 571 (by decide +kernel) (by decide +kernel)
theorem tw_se_X8_X8_many : (Jvm.Cond.selects "PitchRows" ({ cls := "PitchRows", name := "many", desc := "(I)I" } : Jvm.MethodName) ({ cls := "PitchRows", name := "many", desc := "(I)I" } : Jvm.MethodName)) ∈ tblG := my_in 572 (by decide +kernel) (by decide +kernel)
theorem tw_cd_X8_many : (Jvm.Cond.code ({ cls := "PitchRows", name := "many", desc := "(I)I" } : Jvm.MethodName) prog_1_method_32_code (2 : Nat) (Option.some Jvm.ClassFile.FieldType.int)) ∈ tblG := my_in 573 (by decide +kernel) (by decide +kernel)
theorem tw_ml_X8_259 : (Jvm.Cond.methodLink "PitchRows" (259 : Nat) ({ cls := "PitchRows$Choir", name := "freeBeatsOfAll", desc := "()I" } : Jvm.MethodName)) ∈ tblG := my_in 574 (by decide +kernel) (by decide +kernel)
theorem tw_im_X2_freeBeatsOfAll : (Jvm.Cond.instanceMethod ({ cls := "PitchRows$Choir", name := "freeBeatsOfAll", desc := "()I" } : Jvm.MethodName)) ∈ tblG := my_in 575 (by decide +kernel) (by decide +kernel)
theorem tw_se_X2_X2_freeBeatsOfAll : (Jvm.Cond.selects "PitchRows$Choir" ({ cls := "PitchRows$Choir", name := "freeBeatsOfAll", desc := "()I" } : Jvm.MethodName) ({ cls := "PitchRows$Choir", name := "freeBeatsOfAll", desc := "()I" } : Jvm.MethodName)) ∈ tblG := my_in 576 (by decide +kernel) (by decide +kernel)
theorem tw_cd_X2_freeBeatsOfAll : (Jvm.Cond.code ({ cls := "PitchRows$Choir", name := "freeBeatsOfAll", desc := "()I" } : Jvm.MethodName) prog_4_method_4_code (3 : Nat) (Option.some Jvm.ClassFile.FieldType.int)) ∈ tblG := my_in 577 (by decide +kernel) (by decide +kernel)
theorem tw_ml_X2_29 : (Jvm.Cond.methodLink "PitchRows$Choir" (29 : Nat) ({ cls := "PitchRows$Caller", name := "freeBeats", desc := "(I)I" } : Jvm.MethodName)) ∈ tblG := my_in 578 (by decide +kernel) (by decide +kernel)
theorem tw_kc_L_10 : (Jvm.Cond.classLink "PitchRowsLaw" (10 : Nat) "PitchRowsModel") ∈ tblG := my_in 579 (by decide +kernel) (by decide +kernel)
theorem tw_ia_X9 : (Jvm.Cond.instantiable "PitchRowsModel" (33 : Nat)) ∈ tblG := my_in 580 (by decide +kernel) (by decide +kernel)
theorem tw_ml_L_12 : (Jvm.Cond.methodLink "PitchRowsLaw" (12 : Nat) ({ cls := "PitchRowsModel", name := "<init>", desc := "()V" } : Jvm.MethodName)) ∈ tblG := my_in 581 (by decide +kernel) (by decide +kernel)
theorem tw_im_X9_init : (Jvm.Cond.instanceMethod ({ cls := "PitchRowsModel", name := "<init>", desc := "()V" } : Jvm.MethodName)) ∈ tblG := my_in 582 (by decide +kernel) (by decide +kernel)
theorem tw_cd_X9_init : (Jvm.Cond.code ({ cls := "PitchRowsModel", name := "<init>", desc := "()V" } : Jvm.MethodName) prog_11_method_1_code (2 : Nat) (Option.none : Option Jvm.ClassFile.FieldType)) ∈ tblG := my_in 583 (by decide +kernel) (by decide +kernel)
theorem tw_ml_X9_1 : (Jvm.Cond.methodLink "PitchRowsModel" (1 : Nat) ({ cls := "java/lang/Object", name := "<init>", desc := "()V" } : Jvm.MethodName)) ∈ tblG := my_in 584 (by decide +kernel) (by decide +kernel)
theorem tw_fl_X9_72 : (Jvm.Cond.fieldLink "PitchRowsModel" (72 : Nat) "PitchRowsModel" "fault" "I") ∈ tblG := my_in 585 (by decide +kernel) (by decide +kernel)
theorem tw_fl_X9_80 : (Jvm.Cond.fieldLink "PitchRowsModel" (80 : Nat) "PitchRowsModel" "callers" "I") ∈ tblG := my_in 586 (by decide +kernel) (by decide +kernel)
theorem tw_fl_X9_87 : (Jvm.Cond.fieldLink "PitchRowsModel" (87 : Nat) "PitchRowsModel" "beats" "I") ∈ tblG := my_in 587 (by decide +kernel) (by decide +kernel)
theorem tw_fl_X9_7 : (Jvm.Cond.fieldLink "PitchRowsModel" (7 : Nat) "PitchRowsModel" "kindOf" "[I") ∈ tblG := my_in 588 (by decide +kernel) (by decide +kernel)
theorem tw_fl_X9_13 : (Jvm.Cond.fieldLink "PitchRowsModel" (13 : Nat) "PitchRowsModel" "pitchOf" "[I") ∈ tblG := my_in 589 (by decide +kernel) (by decide +kernel)
theorem tw_fl_X9_90 : (Jvm.Cond.fieldLink "PitchRowsModel" (90 : Nat) "PitchRowsModel" "readAt" "I") ∈ tblG := my_in 590 (by decide +kernel) (by decide +kernel)
theorem tw_fl_X9_102 : (Jvm.Cond.fieldLink "PitchRowsModel" (102 : Nat) "PitchRowsModel" "readCallers" "I") ∈ tblG := my_in 591 (by decide +kernel) (by decide +kernel)
theorem tw_fl_X9_99 : (Jvm.Cond.fieldLink "PitchRowsModel" (99 : Nat) "PitchRowsModel" "readBeats" "I") ∈ tblG := my_in 592 (by decide +kernel) (by decide +kernel)
theorem tw_fl_X9_16 : (Jvm.Cond.fieldLink "PitchRowsModel" (16 : Nat) "PitchRowsModel" "readKind" "[I") ∈ tblG := my_in 593 (by decide +kernel) (by decide +kernel)
theorem tw_fl_X9_19 : (Jvm.Cond.fieldLink "PitchRowsModel" (19 : Nat) "PitchRowsModel" "readPitch" "[I") ∈ tblG := my_in 594 (by decide +kernel) (by decide +kernel)
theorem tw_fl_X9_22 : (Jvm.Cond.fieldLink "PitchRowsModel" (22 : Nat) "PitchRowsModel" "tried" "[I") ∈ tblG := my_in 595 (by decide +kernel) (by decide +kernel)
theorem tw_fl_X9_139 : (Jvm.Cond.fieldLink "PitchRowsModel" (139 : Nat) "PitchRowsModel" "sendings" "I") ∈ tblG := my_in 596 (by decide +kernel) (by decide +kernel)
theorem tw_fl_X9_25 : (Jvm.Cond.fieldLink "PitchRowsModel" (25 : Nat) "PitchRowsModel" "sentBy" "[I") ∈ tblG := my_in 597 (by decide +kernel) (by decide +kernel)
theorem tw_fl_X9_28 : (Jvm.Cond.fieldLink "PitchRowsModel" (28 : Nat) "PitchRowsModel" "sentAt" "[I") ∈ tblG := my_in 598 (by decide +kernel) (by decide +kernel)
theorem tw_fl_X9_31 : (Jvm.Cond.fieldLink "PitchRowsModel" (31 : Nat) "PitchRowsModel" "sentHigh" "[I") ∈ tblG := my_in 599 (by decide +kernel) (by decide +kernel)
theorem tw_fl_X9_241 : (Jvm.Cond.fieldLink "PitchRowsModel" (241 : Nat) "PitchRowsModel" "hadSendings" "I") ∈ tblG := my_in 600 (by decide +kernel) (by decide +kernel)
theorem tw_fl_X9_34 : (Jvm.Cond.fieldLink "PitchRowsModel" (34 : Nat) "PitchRowsModel" "hadBy" "[I") ∈ tblG := my_in 601 (by decide +kernel) (by decide +kernel)
theorem tw_fl_X9_37 : (Jvm.Cond.fieldLink "PitchRowsModel" (37 : Nat) "PitchRowsModel" "hadAt" "[I") ∈ tblG := my_in 602 (by decide +kernel) (by decide +kernel)
theorem tw_fl_X9_40 : (Jvm.Cond.fieldLink "PitchRowsModel" (40 : Nat) "PitchRowsModel" "hadHigh" "[I") ∈ tblG := my_in 603 (by decide +kernel) (by decide +kernel)
theorem tw_fl_X9_247 : (Jvm.Cond.fieldLink "PitchRowsModel" (247 : Nat) "PitchRowsModel" "peakOf" "I") ∈ tblG := my_in 604 (by decide +kernel) (by decide +kernel)
theorem tw_fl_X9_250 : (Jvm.Cond.fieldLink "PitchRowsModel" (250 : Nat) "PitchRowsModel" "peakLate" "I") ∈ tblG := my_in 605 (by decide +kernel) (by decide +kernel)
theorem tw_fl_X9_253 : (Jvm.Cond.fieldLink "PitchRowsModel" (253 : Nat) "PitchRowsModel" "peakHigh" "I") ∈ tblG := my_in 606 (by decide +kernel) (by decide +kernel)
theorem tw_fl_X9_142 : (Jvm.Cond.fieldLink "PitchRowsModel" (142 : Nat) "PitchRowsModel" "readings" "I") ∈ tblG := my_in 607 (by decide +kernel) (by decide +kernel)
theorem tw_fl_X9_43 : (Jvm.Cond.fieldLink "PitchRowsModel" (43 : Nat) "PitchRowsModel" "readingBy" "[I") ∈ tblG := my_in 608 (by decide +kernel) (by decide +kernel)
theorem tw_fl_X9_46 : (Jvm.Cond.fieldLink "PitchRowsModel" (46 : Nat) "PitchRowsModel" "readingOf" "[I") ∈ tblG := my_in 609 (by decide +kernel) (by decide +kernel)
theorem tw_fl_X9_49 : (Jvm.Cond.fieldLink "PitchRowsModel" (49 : Nat) "PitchRowsModel" "readingLate" "[I") ∈ tblG := my_in 610 (by decide +kernel) (by decide +kernel)
theorem tw_fl_X9_52 : (Jvm.Cond.fieldLink "PitchRowsModel" (52 : Nat) "PitchRowsModel" "readingHigh" "[I") ∈ tblG := my_in 611 (by decide +kernel) (by decide +kernel)
theorem tw_fl_X9_55 : (Jvm.Cond.fieldLink "PitchRowsModel" (55 : Nat) "PitchRowsModel" "readingIs" "[I") ∈ tblG := my_in 612 (by decide +kernel) (by decide +kernel)
theorem tw_fl_X9_58 : (Jvm.Cond.fieldLink "PitchRowsModel" (58 : Nat) "PitchRowsModel" "sheetSize" "[I") ∈ tblG := my_in 613 (by decide +kernel) (by decide +kernel)
theorem tw_fl_X9_61 : (Jvm.Cond.fieldLink "PitchRowsModel" (61 : Nat) "PitchRowsModel" "sheetLane" "[I") ∈ tblG := my_in 614 (by decide +kernel) (by decide +kernel)
theorem tw_fl_X9_64 : (Jvm.Cond.fieldLink "PitchRowsModel" (64 : Nat) "PitchRowsModel" "sheet" "[I") ∈ tblG := my_in 615 (by decide +kernel) (by decide +kernel)
theorem tw_fl_X9_67 : (Jvm.Cond.fieldLink "PitchRowsModel" (67 : Nat) "PitchRowsModel" "hands" "[I") ∈ tblG := my_in 616 (by decide +kernel) (by decide +kernel)
theorem tw_fl_X9_284 : (Jvm.Cond.fieldLink "PitchRowsModel" (284 : Nat) "PitchRowsModel" "traceNow" "I") ∈ tblG := my_in 617 (by decide +kernel) (by decide +kernel)
theorem tw_su_X9 : (Jvm.Cond.superclass "PitchRowsModel" "java/lang/Object") ∈ tblG := my_in 684 (by decide +kernel) (by decide +kernel)
theorem tw_ml_L_17 : (Jvm.Cond.methodLink "PitchRowsLaw" (17 : Nat) ({ cls := "PitchRowsModel", name := "callers", desc := "(IIII)I" } : Jvm.MethodName)) ∈ tblG := my_in 685 (by decide +kernel) (by decide +kernel)
theorem tw_im_X9_callers : (Jvm.Cond.instanceMethod ({ cls := "PitchRowsModel", name := "callers", desc := "(IIII)I" } : Jvm.MethodName)) ∈ tblG := my_in 686 (by decide +kernel) (by decide +kernel)
theorem tw_se_X9_X9_callers : (Jvm.Cond.selects "PitchRowsModel" ({ cls := "PitchRowsModel", name := "callers", desc := "(IIII)I" } : Jvm.MethodName) ({ cls := "PitchRowsModel", name := "callers", desc := "(IIII)I" } : Jvm.MethodName)) ∈ tblG := my_in 687 (by decide +kernel) (by decide +kernel)
theorem tw_cd_X9_callers : (Jvm.Cond.code ({ cls := "PitchRowsModel", name := "callers", desc := "(IIII)I" } : Jvm.MethodName) prog_11_method_16_code (8 : Nat) (Option.some Jvm.ClassFile.FieldType.int)) ∈ tblG := my_in 688 (by decide +kernel) (by decide +kernel)
theorem tw_ml_X9_125 : (Jvm.Cond.methodLink "PitchRowsModel" (125 : Nat) ({ cls := "PitchRowsModel", name := "noSheet", desc := "(I)Z" } : Jvm.MethodName)) ∈ tblG := my_in 689 (by decide +kernel) (by decide +kernel)
theorem tw_st_X9_noSheet : (Jvm.Cond.static ({ cls := "PitchRowsModel", name := "noSheet", desc := "(I)Z" } : Jvm.MethodName)) ∈ tblG := my_in 690 (by decide +kernel) (by decide +kernel)
theorem tw_cd_X9_noSheet : (Jvm.Cond.code ({ cls := "PitchRowsModel", name := "noSheet", desc := "(I)Z" } : Jvm.MethodName) prog_11_method_62_code (1 : Nat) (Option.some Jvm.ClassFile.FieldType.boolean)) ∈ tblG := my_in 691 (by decide +kernel) (by decide +kernel)
theorem tw_kl_X9_219 : (Jvm.Cond.constantLong "PitchRowsModel" (219 : Nat) (3 : Int64)) ∈ tblG := my_in 692 (by decide +kernel) (by decide +kernel)
theorem tw_ml_X9_83 : (Jvm.Cond.methodLink "PitchRowsModel" (83 : Nat) ({ cls := "PitchRowsModel", name := "in", desc := "(JJJ)Z" } : Jvm.MethodName)) ∈ tblG := my_in 693 (by decide +kernel) (by decide +kernel)
theorem tw_st_X9_in : (Jvm.Cond.static ({ cls := "PitchRowsModel", name := "in", desc := "(JJJ)Z" } : Jvm.MethodName)) ∈ tblG := my_in 694 (by decide +kernel) (by decide +kernel)
theorem tw_cd_X9_in : (Jvm.Cond.code ({ cls := "PitchRowsModel", name := "in", desc := "(JJJ)Z" } : Jvm.MethodName) prog_11_method_2_code (6 : Nat) (Option.some Jvm.ClassFile.FieldType.boolean)) ∈ tblG := my_in 695 (by decide +kernel) (by decide +kernel)
theorem tw_ml_X9_129 : (Jvm.Cond.methodLink "PitchRowsModel" (129 : Nat) ({ cls := "PitchRowsModel", name := "refused", desc := "(I)I" } : Jvm.MethodName)) ∈ tblG := my_in 696 (by decide +kernel) (by decide +kernel)
theorem tw_im_X9_refused : (Jvm.Cond.instanceMethod ({ cls := "PitchRowsModel", name := "refused", desc := "(I)I" } : Jvm.MethodName)) ∈ tblG := my_in 698 (by decide +kernel) (by decide +kernel)
theorem tw_cd_X9_refused : (Jvm.Cond.code ({ cls := "PitchRowsModel", name := "refused", desc := "(I)I" } : Jvm.MethodName) prog_11_method_6_code (2 : Nat) (Option.some Jvm.ClassFile.FieldType.int)) ∈ tblG := my_in 699 (by decide +kernel) (by decide +kernel)
theorem tw_kl_X9_109 : (Jvm.Cond.constantLong "PitchRowsModel" (109 : Nat) (2 : Int64)) ∈ tblG := my_in 700 (by decide +kernel) (by decide +kernel)
theorem tw_ml_X9_132 : (Jvm.Cond.methodLink "PitchRowsModel" (132 : Nat) ({ cls := "PitchRowsModel", name := "cellsBarred", desc := "(IIIJ)I" } : Jvm.MethodName)) ∈ tblG := my_in 701 (by decide +kernel) (by decide +kernel)
theorem tw_im_X9_cellsBarred : (Jvm.Cond.instanceMethod ({ cls := "PitchRowsModel", name := "cellsBarred", desc := "(IIIJ)I" } : Jvm.MethodName)) ∈ tblG := my_in 703 (by decide +kernel) (by decide +kernel)
theorem tw_cd_X9_cellsBarred : (Jvm.Cond.code ({ cls := "PitchRowsModel", name := "cellsBarred", desc := "(IIIJ)I" } : Jvm.MethodName) prog_11_method_15_code (6 : Nat) (Option.some Jvm.ClassFile.FieldType.int)) ∈ tblG := my_in 704 (by decide +kernel) (by decide +kernel)
theorem tw_ml_X9_117 : (Jvm.Cond.methodLink "PitchRowsModel" (117 : Nat) ({ cls := "PitchRowsModel", name := "failed", desc := "(I)I" } : Jvm.MethodName)) ∈ tblG := my_in 705 (by decide +kernel) (by decide +kernel)
theorem tw_im_X9_failed : (Jvm.Cond.instanceMethod ({ cls := "PitchRowsModel", name := "failed", desc := "(I)I" } : Jvm.MethodName)) ∈ tblG := my_in 707 (by decide +kernel) (by decide +kernel)
theorem tw_cd_X9_failed : (Jvm.Cond.code ({ cls := "PitchRowsModel", name := "failed", desc := "(I)I" } : Jvm.MethodName) prog_11_method_7_code (2 : Nat) (Option.some Jvm.ClassFile.FieldType.int)) ∈ tblG := my_in 708 (by decide +kernel) (by decide +kernel)
theorem tw_ml_X9_121 : (Jvm.Cond.methodLink "PitchRowsModel" (121 : Nat) ({ cls := "PitchRowsModel", name := "isBeyond", desc := "(IJI)Z" } : Jvm.MethodName)) ∈ tblG := my_in 709 (by decide +kernel) (by decide +kernel)
theorem tw_st_X9_isBeyond : (Jvm.Cond.static ({ cls := "PitchRowsModel", name := "isBeyond", desc := "(IJI)Z" } : Jvm.MethodName)) ∈ tblG := my_in 710 (by decide +kernel) (by decide +kernel)
theorem tw_cd_X9_isBeyond : (Jvm.Cond.code ({ cls := "PitchRowsModel", name := "isBeyond", desc := "(IJI)Z" } : Jvm.MethodName) prog_11_method_68_code (4 : Nat) (Option.some Jvm.ClassFile.FieldType.boolean)) ∈ tblG := my_in 711 (by decide +kernel) (by decide +kernel)
theorem tw_ml_X9_136 : (Jvm.Cond.methodLink "PitchRowsModel" (136 : Nat) ({ cls := "PitchRowsModel", name := "readsCallers", desc := "(II)Z" } : Jvm.MethodName)) ∈ tblG := my_in 712 (by decide +kernel) (by decide +kernel)
theorem tw_im_X9_readsCallers : (Jvm.Cond.instanceMethod ({ cls := "PitchRowsModel", name := "readsCallers", desc := "(II)Z" } : Jvm.MethodName)) ∈ tblG := my_in 714 (by decide +kernel) (by decide +kernel)
theorem tw_cd_X9_readsCallers : (Jvm.Cond.code ({ cls := "PitchRowsModel", name := "readsCallers", desc := "(II)Z" } : Jvm.MethodName) prog_11_method_14_code (4 : Nat) (Option.some Jvm.ClassFile.FieldType.boolean)) ∈ tblG := my_in 715 (by decide +kernel) (by decide +kernel)
theorem tw_ml_X9_93 : (Jvm.Cond.methodLink "PitchRowsModel" (93 : Nat) ({ cls := "PitchRowsModel", name := "codeAt", desc := "(II)I" } : Jvm.MethodName)) ∈ tblG := my_in 716 (by decide +kernel) (by decide +kernel)
theorem tw_im_X9_codeAt : (Jvm.Cond.instanceMethod ({ cls := "PitchRowsModel", name := "codeAt", desc := "(II)I" } : Jvm.MethodName)) ∈ tblG := my_in 718 (by decide +kernel) (by decide +kernel)
theorem tw_cd_X9_codeAt : (Jvm.Cond.code ({ cls := "PitchRowsModel", name := "codeAt", desc := "(II)I" } : Jvm.MethodName) prog_11_method_11_code (3 : Nat) (Option.some Jvm.ClassFile.FieldType.int)) ∈ tblG := my_in 719 (by decide +kernel) (by decide +kernel)
theorem tw_kl_X9_111 : (Jvm.Cond.constantLong "PitchRowsModel" (111 : Nat) (6 : Int64)) ∈ tblG := my_in 720 (by decide +kernel) (by decide +kernel)
theorem tw_ml_X9_113 : (Jvm.Cond.methodLink "PitchRowsModel" (113 : Nat) ({ cls := "PitchRowsModel", name := "readsCaller", desc := "(II)Z" } : Jvm.MethodName)) ∈ tblG := my_in 721 (by decide +kernel) (by decide +kernel)
theorem tw_im_X9_readsCaller : (Jvm.Cond.instanceMethod ({ cls := "PitchRowsModel", name := "readsCaller", desc := "(II)Z" } : Jvm.MethodName)) ∈ tblG := my_in 723 (by decide +kernel) (by decide +kernel)
theorem tw_cd_X9_readsCaller : (Jvm.Cond.code ({ cls := "PitchRowsModel", name := "readsCaller", desc := "(II)Z" } : Jvm.MethodName) prog_11_method_13_code (6 : Nat) (Option.some Jvm.ClassFile.FieldType.boolean)) ∈ tblG := my_in 724 (by decide +kernel) (by decide +kernel)
theorem tw_ml_X9_105 : (Jvm.Cond.methodLink "PitchRowsModel" (105 : Nat) ({ cls := "PitchRowsModel", name := "readsSign", desc := "(III)Z" } : Jvm.MethodName)) ∈ tblG := my_in 725 (by decide +kernel) (by decide +kernel)
theorem tw_im_X9_readsSign : (Jvm.Cond.instanceMethod ({ cls := "PitchRowsModel", name := "readsSign", desc := "(III)Z" } : Jvm.MethodName)) ∈ tblG := my_in 727 (by decide +kernel) (by decide +kernel)
theorem tw_cd_X9_readsSign : (Jvm.Cond.code ({ cls := "PitchRowsModel", name := "readsSign", desc := "(III)Z" } : Jvm.MethodName) prog_11_method_12_code (5 : Nat) (Option.some Jvm.ClassFile.FieldType.boolean)) ∈ tblG := my_in 728 (by decide +kernel) (by decide +kernel)
theorem tw_kl_X9_97 : (Jvm.Cond.constantLong "PitchRowsModel" (97 : Nat) (48 : Int64)) ∈ tblG := my_in 729 (by decide +kernel) (by decide +kernel)
theorem tw_ml_L_22 : (Jvm.Cond.methodLink "PitchRowsLaw" (22 : Nat) ({ cls := "PitchRowsModel", name := "ofCaller", desc := "(II)I" } : Jvm.MethodName)) ∈ tblG := my_in 730 (by decide +kernel) (by decide +kernel)
theorem tw_im_X9_ofCaller : (Jvm.Cond.instanceMethod ({ cls := "PitchRowsModel", name := "ofCaller", desc := "(II)I" } : Jvm.MethodName)) ∈ tblG := my_in 731 (by decide +kernel) (by decide +kernel)
theorem tw_se_X9_X9_ofCaller : (Jvm.Cond.selects "PitchRowsModel" ({ cls := "PitchRowsModel", name := "ofCaller", desc := "(II)I" } : Jvm.MethodName) ({ cls := "PitchRowsModel", name := "ofCaller", desc := "(II)I" } : Jvm.MethodName)) ∈ tblG := my_in 732 (by decide +kernel) (by decide +kernel)
theorem tw_cd_X9_ofCaller : (Jvm.Cond.code ({ cls := "PitchRowsModel", name := "ofCaller", desc := "(II)I" } : Jvm.MethodName) prog_11_method_26_code (3 : Nat) (Option.some Jvm.ClassFile.FieldType.int)) ∈ tblG := my_in 733 (by decide +kernel) (by decide +kernel)
theorem tw_ml_X9_165 : (Jvm.Cond.methodLink "PitchRowsModel" (165 : Nat) ({ cls := "PitchRowsModel", name := "noCaller", desc := "(I)Z" } : Jvm.MethodName)) ∈ tblG := my_in 734 (by decide +kernel) (by decide +kernel)
theorem tw_im_X9_noCaller : (Jvm.Cond.instanceMethod ({ cls := "PitchRowsModel", name := "noCaller", desc := "(I)Z" } : Jvm.MethodName)) ∈ tblG := my_in 736 (by decide +kernel) (by decide +kernel)
theorem tw_cd_X9_noCaller : (Jvm.Cond.code ({ cls := "PitchRowsModel", name := "noCaller", desc := "(I)Z" } : Jvm.MethodName) prog_11_method_9_code (2 : Nat) (Option.some Jvm.ClassFile.FieldType.boolean)) ∈ tblG := my_in 737 (by decide +kernel) (by decide +kernel)
theorem tw_kl_X9_168 : (Jvm.Cond.constantLong "PitchRowsModel" (168 : Nat) (10 : Int64)) ∈ tblG := my_in 738 (by decide +kernel) (by decide +kernel)
theorem tw_kl_X9_170 : (Jvm.Cond.constantLong "PitchRowsModel" (170 : Nat) (15 : Int64)) ∈ tblG := my_in 739 (by decide +kernel) (by decide +kernel)
theorem tw_ml_X9_172 : (Jvm.Cond.methodLink "PitchRowsModel" (172 : Nat) ({ cls := "PitchRowsModel", name := "noBeat", desc := "(I)Z" } : Jvm.MethodName)) ∈ tblG := my_in 740 (by decide +kernel) (by decide +kernel)
theorem tw_im_X9_noBeat : (Jvm.Cond.instanceMethod ({ cls := "PitchRowsModel", name := "noBeat", desc := "(I)Z" } : Jvm.MethodName)) ∈ tblG := my_in 742 (by decide +kernel) (by decide +kernel)
theorem tw_cd_X9_noBeat : (Jvm.Cond.code ({ cls := "PitchRowsModel", name := "noBeat", desc := "(I)Z" } : Jvm.MethodName) prog_11_method_10_code (2 : Nat) (Option.some Jvm.ClassFile.FieldType.boolean)) ∈ tblG := my_in 743 (by decide +kernel) (by decide +kernel)
theorem tw_ml_X9_145 : (Jvm.Cond.methodLink "PitchRowsModel" (145 : Nat) ({ cls := "PitchRowsModel", name := "pitch", desc := "(II)I" } : Jvm.MethodName)) ∈ tblG := my_in 744 (by decide +kernel) (by decide +kernel)
theorem tw_im_X9_pitch : (Jvm.Cond.instanceMethod ({ cls := "PitchRowsModel", name := "pitch", desc := "(II)I" } : Jvm.MethodName)) ∈ tblG := my_in 746 (by decide +kernel) (by decide +kernel)
theorem tw_cd_X9_pitch : (Jvm.Cond.code ({ cls := "PitchRowsModel", name := "pitch", desc := "(II)I" } : Jvm.MethodName) prog_11_method_17_code (3 : Nat) (Option.some Jvm.ClassFile.FieldType.int)) ∈ tblG := my_in 747 (by decide +kernel) (by decide +kernel)
theorem tw_ml_X9_155 : (Jvm.Cond.methodLink "PitchRowsModel" (155 : Nat) ({ cls := "PitchRowsModel", name := "freeOf", desc := "(I)I" } : Jvm.MethodName)) ∈ tblG := my_in 748 (by decide +kernel) (by decide +kernel)
theorem tw_im_X9_freeOf : (Jvm.Cond.instanceMethod ({ cls := "PitchRowsModel", name := "freeOf", desc := "(I)I" } : Jvm.MethodName)) ∈ tblG := my_in 750 (by decide +kernel) (by decide +kernel)
theorem tw_cd_X9_freeOf : (Jvm.Cond.code ({ cls := "PitchRowsModel", name := "freeOf", desc := "(I)I" } : Jvm.MethodName) prog_11_method_18_code (4 : Nat) (Option.some Jvm.ClassFile.FieldType.int)) ∈ tblG := my_in 751 (by decide +kernel) (by decide +kernel)
theorem tw_ml_X9_175 : (Jvm.Cond.methodLink "PitchRowsModel" (175 : Nat) ({ cls := "PitchRowsModel", name := "goodNow", desc := "(I)I" } : Jvm.MethodName)) ∈ tblG := my_in 752 (by decide +kernel) (by decide +kernel)
theorem tw_im_X9_goodNow : (Jvm.Cond.instanceMethod ({ cls := "PitchRowsModel", name := "goodNow", desc := "(I)I" } : Jvm.MethodName)) ∈ tblG := my_in 754 (by decide +kernel) (by decide +kernel)
theorem tw_cd_X9_goodNow : (Jvm.Cond.code ({ cls := "PitchRowsModel", name := "goodNow", desc := "(I)I" } : Jvm.MethodName) prog_11_method_25_code (2 : Nat) (Option.some Jvm.ClassFile.FieldType.int)) ∈ tblG := my_in 755 (by decide +kernel) (by decide +kernel)
theorem tw_ml_X9_158 : (Jvm.Cond.methodLink "PitchRowsModel" (158 : Nat) ({ cls := "PitchRowsModel", name := "triesThoseOf", desc := "(I)V" } : Jvm.MethodName)) ∈ tblG := my_in 756 (by decide +kernel) (by decide +kernel)
theorem tw_im_X9_triesThoseOf : (Jvm.Cond.instanceMethod ({ cls := "PitchRowsModel", name := "triesThoseOf", desc := "(I)V" } : Jvm.MethodName)) ∈ tblG := my_in 758 (by decide +kernel) (by decide +kernel)
theorem tw_cd_X9_triesThoseOf : (Jvm.Cond.code ({ cls := "PitchRowsModel", name := "triesThoseOf", desc := "(I)V" } : Jvm.MethodName) prog_11_method_24_code (3 : Nat) (Option.none : Option Jvm.ClassFile.FieldType)) ∈ tblG := my_in 759 (by decide +kernel) (by decide +kernel)
theorem tw_ml_X9_162 : (Jvm.Cond.methodLink "PitchRowsModel" (162 : Nat) ({ cls := "PitchRowsModel", name := "isGood", desc := "()Z" } : Jvm.MethodName)) ∈ tblG := my_in 760 (by decide +kernel) (by decide +kernel)
theorem tw_im_X9_isGood : (Jvm.Cond.instanceMethod ({ cls := "PitchRowsModel", name := "isGood", desc := "()Z" } : Jvm.MethodName)) ∈ tblG := my_in 762 (by decide +kernel) (by decide +kernel)
theorem tw_cd_X9_isGood : (Jvm.Cond.code ({ cls := "PitchRowsModel", name := "isGood", desc := "()Z" } : Jvm.MethodName) prog_11_method_20_code (6 : Nat) (Option.some Jvm.ClassFile.FieldType.boolean)) ∈ tblG := my_in 763 (by decide +kernel) (by decide +kernel)
theorem tw_ml_X9_151 : (Jvm.Cond.methodLink "PitchRowsModel" (151 : Nat) ({ cls := "PitchRowsModel", name := "areUnlike", desc := "()Z" } : Jvm.MethodName)) ∈ tblG := my_in 764 (by decide +kernel) (by decide +kernel)
theorem tw_im_X9_areUnlike : (Jvm.Cond.instanceMethod ({ cls := "PitchRowsModel", name := "areUnlike", desc := "()Z" } : Jvm.MethodName)) ∈ tblG := my_in 766 (by decide +kernel) (by decide +kernel)
theorem tw_cd_X9_areUnlike : (Jvm.Cond.code ({ cls := "PitchRowsModel", name := "areUnlike", desc := "()Z" } : Jvm.MethodName) prog_11_method_19_code (3 : Nat) (Option.some Jvm.ClassFile.FieldType.boolean)) ∈ tblG := my_in 767 (by decide +kernel) (by decide +kernel)
theorem tw_ml_X9_148 : (Jvm.Cond.methodLink "PitchRowsModel" (148 : Nat) ({ cls := "PitchRowsModel", name := "bits", desc := "(I)I" } : Jvm.MethodName)) ∈ tblG := my_in 768 (by decide +kernel) (by decide +kernel)
theorem tw_st_X9_bits : (Jvm.Cond.static ({ cls := "PitchRowsModel", name := "bits", desc := "(I)I" } : Jvm.MethodName)) ∈ tblG := my_in 769 (by decide +kernel) (by decide +kernel)
theorem tw_cd_X9_bits : (Jvm.Cond.code ({ cls := "PitchRowsModel", name := "bits", desc := "(I)I" } : Jvm.MethodName) prog_11_method_4_code (3 : Nat) (Option.some Jvm.ClassFile.FieldType.int)) ∈ tblG := my_in 770 (by decide +kernel) (by decide +kernel)
theorem tw_ml_L_27 : (Jvm.Cond.methodLink "PitchRowsLaw" (27 : Nat) ({ cls := "PitchRowsModel", name := "tune", desc := "(III)I" } : Jvm.MethodName)) ∈ tblG := my_in 771 (by decide +kernel) (by decide +kernel)
theorem tw_im_X9_tune : (Jvm.Cond.instanceMethod ({ cls := "PitchRowsModel", name := "tune", desc := "(III)I" } : Jvm.MethodName)) ∈ tblG := my_in 772 (by decide +kernel) (by decide +kernel)
theorem tw_se_X9_X9_tune : (Jvm.Cond.selects "PitchRowsModel" ({ cls := "PitchRowsModel", name := "tune", desc := "(III)I" } : Jvm.MethodName) ({ cls := "PitchRowsModel", name := "tune", desc := "(III)I" } : Jvm.MethodName)) ∈ tblG := my_in 773 (by decide +kernel) (by decide +kernel)
theorem tw_cd_X9_tune : (Jvm.Cond.code ({ cls := "PitchRowsModel", name := "tune", desc := "(III)I" } : Jvm.MethodName) prog_11_method_27_code (5 : Nat) (Option.some Jvm.ClassFile.FieldType.int)) ∈ tblG := my_in 774 (by decide +kernel) (by decide +kernel)
theorem tw_kl_X9_178 : (Jvm.Cond.constantLong "PitchRowsModel" (178 : Nat) (-1 : Int64)) ∈ tblG := my_in 775 (by decide +kernel) (by decide +kernel)
theorem tw_ml_L_31 : (Jvm.Cond.methodLink "PitchRowsLaw" (31 : Nat) ({ cls := "PitchRowsModel", name := "hears", desc := "(IIII)I" } : Jvm.MethodName)) ∈ tblG := my_in 776 (by decide +kernel) (by decide +kernel)
theorem tw_im_X9_hears : (Jvm.Cond.instanceMethod ({ cls := "PitchRowsModel", name := "hears", desc := "(IIII)I" } : Jvm.MethodName)) ∈ tblG := my_in 777 (by decide +kernel) (by decide +kernel)
theorem tw_se_X9_X9_hears : (Jvm.Cond.selects "PitchRowsModel" ({ cls := "PitchRowsModel", name := "hears", desc := "(IIII)I" } : Jvm.MethodName) ({ cls := "PitchRowsModel", name := "hears", desc := "(IIII)I" } : Jvm.MethodName)) ∈ tblG := my_in 778 (by decide +kernel) (by decide +kernel)
theorem tw_cd_X9_hears : (Jvm.Cond.code ({ cls := "PitchRowsModel", name := "hears", desc := "(IIII)I" } : Jvm.MethodName) prog_11_method_31_code (5 : Nat) (Option.some Jvm.ClassFile.FieldType.int)) ∈ tblG := my_in 779 (by decide +kernel) (by decide +kernel)
theorem tw_ml_X9_188 : (Jvm.Cond.methodLink "PitchRowsModel" (188 : Nat) ({ cls := "PitchRowsModel", name := "isShift", desc := "(I)Z" } : Jvm.MethodName)) ∈ tblG := my_in 780 (by decide +kernel) (by decide +kernel)
theorem tw_st_X9_isShift : (Jvm.Cond.static ({ cls := "PitchRowsModel", name := "isShift", desc := "(I)Z" } : Jvm.MethodName)) ∈ tblG := my_in 781 (by decide +kernel) (by decide +kernel)
theorem tw_cd_X9_isShift : (Jvm.Cond.code ({ cls := "PitchRowsModel", name := "isShift", desc := "(I)Z" } : Jvm.MethodName) prog_11_method_30_code (1 : Nat) (Option.some Jvm.ClassFile.FieldType.boolean)) ∈ tblG := my_in 782 (by decide +kernel) (by decide +kernel)
theorem tw_kl_X9_184 : (Jvm.Cond.constantLong "PitchRowsModel" (184 : Nat) (-5 : Int64)) ∈ tblG := my_in 783 (by decide +kernel) (by decide +kernel)
theorem tw_kl_X9_186 : (Jvm.Cond.constantLong "PitchRowsModel" (186 : Nat) (5 : Int64)) ∈ tblG := my_in 784 (by decide +kernel) (by decide +kernel)
theorem tw_ml_X9_191 : (Jvm.Cond.methodLink "PitchRowsModel" (191 : Nat) ({ cls := "PitchRowsModel", name := "heardBy", desc := "(IIII)I" } : Jvm.MethodName)) ∈ tblG := my_in 785 (by decide +kernel) (by decide +kernel)
theorem tw_im_X9_heardBy : (Jvm.Cond.instanceMethod ({ cls := "PitchRowsModel", name := "heardBy", desc := "(IIII)I" } : Jvm.MethodName)) ∈ tblG := my_in 787 (by decide +kernel) (by decide +kernel)
theorem tw_cd_X9_heardBy : (Jvm.Cond.code ({ cls := "PitchRowsModel", name := "heardBy", desc := "(IIII)I" } : Jvm.MethodName) prog_11_method_29_code (8 : Nat) (Option.some Jvm.ClassFile.FieldType.int)) ∈ tblG := my_in 788 (by decide +kernel) (by decide +kernel)
theorem tw_ml_X9_180 : (Jvm.Cond.methodLink "PitchRowsModel" (180 : Nat) ({ cls := "PitchRowsModel", name := "counts", desc := "(III)I" } : Jvm.MethodName)) ∈ tblG := my_in 789 (by decide +kernel) (by decide +kernel)
theorem tw_im_X9_counts : (Jvm.Cond.instanceMethod ({ cls := "PitchRowsModel", name := "counts", desc := "(III)I" } : Jvm.MethodName)) ∈ tblG := my_in 791 (by decide +kernel) (by decide +kernel)
theorem tw_cd_X9_counts : (Jvm.Cond.code ({ cls := "PitchRowsModel", name := "counts", desc := "(III)I" } : Jvm.MethodName) prog_11_method_28_code (5 : Nat) (Option.some Jvm.ClassFile.FieldType.int)) ∈ tblG := my_in 792 (by decide +kernel) (by decide +kernel)
theorem tw_ml_L_35 : (Jvm.Cond.methodLink "PitchRowsLaw" (35 : Nat) ({ cls := "PitchRowsModel", name := "send", desc := "(III)I" } : Jvm.MethodName)) ∈ tblG := my_in 793 (by decide +kernel) (by decide +kernel)
theorem tw_im_X9_send : (Jvm.Cond.instanceMethod ({ cls := "PitchRowsModel", name := "send", desc := "(III)I" } : Jvm.MethodName)) ∈ tblG := my_in 794 (by decide +kernel) (by decide +kernel)
theorem tw_se_X9_X9_send : (Jvm.Cond.selects "PitchRowsModel" ({ cls := "PitchRowsModel", name := "send", desc := "(III)I" } : Jvm.MethodName) ({ cls := "PitchRowsModel", name := "send", desc := "(III)I" } : Jvm.MethodName)) ∈ tblG := my_in 795 (by decide +kernel) (by decide +kernel)
theorem tw_cd_X9_send : (Jvm.Cond.code ({ cls := "PitchRowsModel", name := "send", desc := "(III)I" } : Jvm.MethodName) prog_11_method_33_code (4 : Nat) (Option.some Jvm.ClassFile.FieldType.int)) ∈ tblG := my_in 796 (by decide +kernel) (by decide +kernel)
theorem tw_kl_X9_195 : (Jvm.Cond.constantLong "PitchRowsModel" (195 : Nat) (20 : Int64)) ∈ tblG := my_in 797 (by decide +kernel) (by decide +kernel)
theorem tw_ml_X9_197 : (Jvm.Cond.methodLink "PitchRowsModel" (197 : Nat) ({ cls := "PitchRowsModel", name := "sends", desc := "(III)Z" } : Jvm.MethodName)) ∈ tblG := my_in 798 (by decide +kernel) (by decide +kernel)
theorem tw_im_X9_sends : (Jvm.Cond.instanceMethod ({ cls := "PitchRowsModel", name := "sends", desc := "(III)Z" } : Jvm.MethodName)) ∈ tblG := my_in 800 (by decide +kernel) (by decide +kernel)
theorem tw_cd_X9_sends : (Jvm.Cond.code ({ cls := "PitchRowsModel", name := "sends", desc := "(III)Z" } : Jvm.MethodName) prog_11_method_32_code (4 : Nat) (Option.some Jvm.ClassFile.FieldType.boolean)) ∈ tblG := my_in 801 (by decide +kernel) (by decide +kernel)
theorem tw_ml_L_40 : (Jvm.Cond.methodLink "PitchRowsLaw" (40 : Nat) ({ cls := "PitchRowsModel", name := "unsend", desc := "(I)I" } : Jvm.MethodName)) ∈ tblG := my_in 802 (by decide +kernel) (by decide +kernel)
theorem tw_im_X9_unsend : (Jvm.Cond.instanceMethod ({ cls := "PitchRowsModel", name := "unsend", desc := "(I)I" } : Jvm.MethodName)) ∈ tblG := my_in 803 (by decide +kernel) (by decide +kernel)
theorem tw_se_X9_X9_unsend : (Jvm.Cond.selects "PitchRowsModel" ({ cls := "PitchRowsModel", name := "unsend", desc := "(I)I" } : Jvm.MethodName) ({ cls := "PitchRowsModel", name := "unsend", desc := "(I)I" } : Jvm.MethodName)) ∈ tblG := my_in 804 (by decide +kernel) (by decide +kernel)
theorem tw_cd_X9_unsend : (Jvm.Cond.code ({ cls := "PitchRowsModel", name := "unsend", desc := "(I)I" } : Jvm.MethodName) prog_11_method_34_code (2 : Nat) (Option.some Jvm.ClassFile.FieldType.int)) ∈ tblG := my_in 805 (by decide +kernel) (by decide +kernel)
theorem tw_ml_L_44 : (Jvm.Cond.methodLink "PitchRowsLaw" (44 : Nat) ({ cls := "PitchRowsModel", name := "air", desc := "(I)I" } : Jvm.MethodName)) ∈ tblG := my_in 806 (by decide +kernel) (by decide +kernel)
theorem tw_im_X9_air : (Jvm.Cond.instanceMethod ({ cls := "PitchRowsModel", name := "air", desc := "(I)I" } : Jvm.MethodName)) ∈ tblG := my_in 807 (by decide +kernel) (by decide +kernel)
theorem tw_se_X9_X9_air : (Jvm.Cond.selects "PitchRowsModel" ({ cls := "PitchRowsModel", name := "air", desc := "(I)I" } : Jvm.MethodName) ({ cls := "PitchRowsModel", name := "air", desc := "(I)I" } : Jvm.MethodName)) ∈ tblG := my_in 808 (by decide +kernel) (by decide +kernel)
theorem tw_cd_X9_air : (Jvm.Cond.code ({ cls := "PitchRowsModel", name := "air", desc := "(I)I" } : Jvm.MethodName) prog_11_method_37_code (2 : Nat) (Option.some Jvm.ClassFile.FieldType.int)) ∈ tblG := my_in 809 (by decide +kernel) (by decide +kernel)
theorem tw_ml_X9_202 : (Jvm.Cond.methodLink "PitchRowsModel" (202 : Nat) ({ cls := "PitchRowsModel", name := "isMoment", desc := "(I)Z" } : Jvm.MethodName)) ∈ tblG := my_in 810 (by decide +kernel) (by decide +kernel)
theorem tw_st_X9_isMoment : (Jvm.Cond.static ({ cls := "PitchRowsModel", name := "isMoment", desc := "(I)Z" } : Jvm.MethodName)) ∈ tblG := my_in 811 (by decide +kernel) (by decide +kernel)
theorem tw_cd_X9_isMoment : (Jvm.Cond.code ({ cls := "PitchRowsModel", name := "isMoment", desc := "(I)Z" } : Jvm.MethodName) prog_11_method_35_code (1 : Nat) (Option.some Jvm.ClassFile.FieldType.boolean)) ∈ tblG := my_in 812 (by decide +kernel) (by decide +kernel)
theorem tw_kl_X9_200 : (Jvm.Cond.constantLong "PitchRowsModel" (200 : Nat) (25 : Int64)) ∈ tblG := my_in 813 (by decide +kernel) (by decide +kernel)
theorem tw_ml_X9_205 : (Jvm.Cond.methodLink "PitchRowsModel" (205 : Nat) ({ cls := "PitchRowsModel", name := "airOf", desc := "(I)I" } : Jvm.MethodName)) ∈ tblG := my_in 814 (by decide +kernel) (by decide +kernel)
theorem tw_im_X9_airOf : (Jvm.Cond.instanceMethod ({ cls := "PitchRowsModel", name := "airOf", desc := "(I)I" } : Jvm.MethodName)) ∈ tblG := my_in 816 (by decide +kernel) (by decide +kernel)
theorem tw_cd_X9_airOf : (Jvm.Cond.code ({ cls := "PitchRowsModel", name := "airOf", desc := "(I)I" } : Jvm.MethodName) prog_11_method_36_code (5 : Nat) (Option.some Jvm.ClassFile.FieldType.int)) ∈ tblG := my_in 817 (by decide +kernel) (by decide +kernel)
theorem tw_ml_L_48 : (Jvm.Cond.methodLink "PitchRowsLaw" (48 : Nat) ({ cls := "PitchRowsModel", name := "listen", desc := "(II)I" } : Jvm.MethodName)) ∈ tblG := my_in 818 (by decide +kernel) (by decide +kernel)
theorem tw_im_X9_listen : (Jvm.Cond.instanceMethod ({ cls := "PitchRowsModel", name := "listen", desc := "(II)I" } : Jvm.MethodName)) ∈ tblG := my_in 819 (by decide +kernel) (by decide +kernel)
theorem tw_se_X9_X9_listen : (Jvm.Cond.selects "PitchRowsModel" ({ cls := "PitchRowsModel", name := "listen", desc := "(II)I" } : Jvm.MethodName) ({ cls := "PitchRowsModel", name := "listen", desc := "(II)I" } : Jvm.MethodName)) ∈ tblG := my_in 820 (by decide +kernel) (by decide +kernel)
theorem tw_cd_X9_listen : (Jvm.Cond.code ({ cls := "PitchRowsModel", name := "listen", desc := "(II)I" } : Jvm.MethodName) prog_11_method_40_code (3 : Nat) (Option.some Jvm.ClassFile.FieldType.int)) ∈ tblG := my_in 821 (by decide +kernel) (by decide +kernel)
theorem tw_ml_X9_211 : (Jvm.Cond.methodLink "PitchRowsModel" (211 : Nat) ({ cls := "PitchRowsModel", name := "listensTo", desc := "(II)I" } : Jvm.MethodName)) ∈ tblG := my_in 822 (by decide +kernel) (by decide +kernel)
theorem tw_im_X9_listensTo : (Jvm.Cond.instanceMethod ({ cls := "PitchRowsModel", name := "listensTo", desc := "(II)I" } : Jvm.MethodName)) ∈ tblG := my_in 824 (by decide +kernel) (by decide +kernel)
theorem tw_cd_X9_listensTo : (Jvm.Cond.code ({ cls := "PitchRowsModel", name := "listensTo", desc := "(II)I" } : Jvm.MethodName) prog_11_method_39_code (5 : Nat) (Option.some Jvm.ClassFile.FieldType.int)) ∈ tblG := my_in 825 (by decide +kernel) (by decide +kernel)
theorem tw_ml_X9_208 : (Jvm.Cond.methodLink "PitchRowsModel" (208 : Nat) ({ cls := "PitchRowsModel", name := "countsOfAll", desc := "(III)I" } : Jvm.MethodName)) ∈ tblG := my_in 826 (by decide +kernel) (by decide +kernel)
theorem tw_im_X9_countsOfAll : (Jvm.Cond.instanceMethod ({ cls := "PitchRowsModel", name := "countsOfAll", desc := "(III)I" } : Jvm.MethodName)) ∈ tblG := my_in 828 (by decide +kernel) (by decide +kernel)
theorem tw_cd_X9_countsOfAll : (Jvm.Cond.code ({ cls := "PitchRowsModel", name := "countsOfAll", desc := "(III)I" } : Jvm.MethodName) prog_11_method_38_code (7 : Nat) (Option.some Jvm.ClassFile.FieldType.int)) ∈ tblG := my_in 829 (by decide +kernel) (by decide +kernel)
theorem tw_ml_L_52 : (Jvm.Cond.methodLink "PitchRowsLaw" (52 : Nat) ({ cls := "PitchRowsModel", name := "loudest", desc := "(II)I" } : Jvm.MethodName)) ∈ tblG := my_in 830 (by decide +kernel) (by decide +kernel)
theorem tw_im_X9_loudest : (Jvm.Cond.instanceMethod ({ cls := "PitchRowsModel", name := "loudest", desc := "(II)I" } : Jvm.MethodName)) ∈ tblG := my_in 831 (by decide +kernel) (by decide +kernel)
theorem tw_se_X9_X9_loudest : (Jvm.Cond.selects "PitchRowsModel" ({ cls := "PitchRowsModel", name := "loudest", desc := "(II)I" } : Jvm.MethodName) ({ cls := "PitchRowsModel", name := "loudest", desc := "(II)I" } : Jvm.MethodName)) ∈ tblG := my_in 832 (by decide +kernel) (by decide +kernel)
theorem tw_cd_X9_loudest : (Jvm.Cond.code ({ cls := "PitchRowsModel", name := "loudest", desc := "(II)I" } : Jvm.MethodName) prog_11_method_42_code (4 : Nat) (Option.some Jvm.ClassFile.FieldType.int)) ∈ tblG := my_in 833 (by decide +kernel) (by decide +kernel)
theorem tw_ml_X9_214 : (Jvm.Cond.methodLink "PitchRowsModel" (214 : Nat) ({ cls := "PitchRowsModel", name := "loudestOf", desc := "(I)I" } : Jvm.MethodName)) ∈ tblG := my_in 834 (by decide +kernel) (by decide +kernel)
theorem tw_im_X9_loudestOf : (Jvm.Cond.instanceMethod ({ cls := "PitchRowsModel", name := "loudestOf", desc := "(I)I" } : Jvm.MethodName)) ∈ tblG := my_in 836 (by decide +kernel) (by decide +kernel)
theorem tw_cd_X9_loudestOf : (Jvm.Cond.code ({ cls := "PitchRowsModel", name := "loudestOf", desc := "(I)I" } : Jvm.MethodName) prog_11_method_41_code (4 : Nat) (Option.some Jvm.ClassFile.FieldType.int)) ∈ tblG := my_in 837 (by decide +kernel) (by decide +kernel)
theorem tw_ml_L_57 : (Jvm.Cond.methodLink "PitchRowsLaw" (57 : Nat) ({ cls := "PitchRowsModel", name := "day", desc := "(IIIII)I" } : Jvm.MethodName)) ∈ tblG := my_in 838 (by decide +kernel) (by decide +kernel)
theorem tw_im_X9_day : (Jvm.Cond.instanceMethod ({ cls := "PitchRowsModel", name := "day", desc := "(IIIII)I" } : Jvm.MethodName)) ∈ tblG := my_in 839 (by decide +kernel) (by decide +kernel)
theorem tw_se_X9_X9_day : (Jvm.Cond.selects "PitchRowsModel" ({ cls := "PitchRowsModel", name := "day", desc := "(IIIII)I" } : Jvm.MethodName) ({ cls := "PitchRowsModel", name := "day", desc := "(IIIII)I" } : Jvm.MethodName)) ∈ tblG := my_in 840 (by decide +kernel) (by decide +kernel)
theorem tw_cd_X9_day : (Jvm.Cond.code ({ cls := "PitchRowsModel", name := "day", desc := "(IIIII)I" } : Jvm.MethodName) prog_11_method_49_code (10 : Nat) (Option.some Jvm.ClassFile.FieldType.int)) ∈ tblG := my_in 841 (by decide +kernel) (by decide +kernel)
theorem tw_kl_X9_234 : (Jvm.Cond.constantLong "PitchRowsModel" (234 : Nat) (4 : Int64)) ∈ tblG := my_in 842 (by decide +kernel) (by decide +kernel)
theorem tw_kl_X9_236 : (Jvm.Cond.constantLong "PitchRowsModel" (236 : Nat) (13 : Int64)) ∈ tblG := my_in 843 (by decide +kernel) (by decide +kernel)
theorem tw_ml_X9_238 : (Jvm.Cond.methodLink "PitchRowsModel" (238 : Nat) ({ cls := "PitchRowsModel", name := "isAsTold", desc := "(II)Z" } : Jvm.MethodName)) ∈ tblG := my_in 844 (by decide +kernel) (by decide +kernel)
theorem tw_st_X9_isAsTold : (Jvm.Cond.static ({ cls := "PitchRowsModel", name := "isAsTold", desc := "(II)Z" } : Jvm.MethodName)) ∈ tblG := my_in 845 (by decide +kernel) (by decide +kernel)
theorem tw_cd_X9_isAsTold : (Jvm.Cond.code ({ cls := "PitchRowsModel", name := "isAsTold", desc := "(II)Z" } : Jvm.MethodName) prog_11_method_43_code (2 : Nat) (Option.some Jvm.ClassFile.FieldType.boolean)) ∈ tblG := my_in 846 (by decide +kernel) (by decide +kernel)
theorem tw_kl_X9_217 : (Jvm.Cond.constantLong "PitchRowsModel" (217 : Nat) (8 : Int64)) ∈ tblG := my_in 847 (by decide +kernel) (by decide +kernel)
theorem tw_ml_X9_244 : (Jvm.Cond.methodLink "PitchRowsModel" (244 : Nat) ({ cls := "PitchRowsModel", name := "dayOf", desc := "(III)I" } : Jvm.MethodName)) ∈ tblG := my_in 848 (by decide +kernel) (by decide +kernel)
theorem tw_im_X9_dayOf : (Jvm.Cond.instanceMethod ({ cls := "PitchRowsModel", name := "dayOf", desc := "(III)I" } : Jvm.MethodName)) ∈ tblG := my_in 850 (by decide +kernel) (by decide +kernel)
theorem tw_cd_X9_dayOf : (Jvm.Cond.code ({ cls := "PitchRowsModel", name := "dayOf", desc := "(III)I" } : Jvm.MethodName) prog_11_method_48_code (6 : Nat) (Option.some Jvm.ClassFile.FieldType.int)) ∈ tblG := my_in 851 (by decide +kernel) (by decide +kernel)
theorem tw_ml_X9_221 : (Jvm.Cond.methodLink "PitchRowsModel" (221 : Nat) ({ cls := "PitchRowsModel", name := "doesPair", desc := "(II)Z" } : Jvm.MethodName)) ∈ tblG := my_in 852 (by decide +kernel) (by decide +kernel)
theorem tw_im_X9_doesPair : (Jvm.Cond.instanceMethod ({ cls := "PitchRowsModel", name := "doesPair", desc := "(II)Z" } : Jvm.MethodName)) ∈ tblG := my_in 854 (by decide +kernel) (by decide +kernel)
theorem tw_cd_X9_doesPair : (Jvm.Cond.code ({ cls := "PitchRowsModel", name := "doesPair", desc := "(II)Z" } : Jvm.MethodName) prog_11_method_44_code (4 : Nat) (Option.some Jvm.ClassFile.FieldType.boolean)) ∈ tblG := my_in 855 (by decide +kernel) (by decide +kernel)
theorem tw_ml_X9_224 : (Jvm.Cond.methodLink "PitchRowsModel" (224 : Nat) ({ cls := "PitchRowsModel", name := "manyThatSound", desc := "()I" } : Jvm.MethodName)) ∈ tblG := my_in 856 (by decide +kernel) (by decide +kernel)
theorem tw_im_X9_manyThatSound : (Jvm.Cond.instanceMethod ({ cls := "PitchRowsModel", name := "manyThatSound", desc := "()I" } : Jvm.MethodName)) ∈ tblG := my_in 858 (by decide +kernel) (by decide +kernel)
theorem tw_cd_X9_manyThatSound : (Jvm.Cond.code ({ cls := "PitchRowsModel", name := "manyThatSound", desc := "()I" } : Jvm.MethodName) prog_11_method_47_code (3 : Nat) (Option.some Jvm.ClassFile.FieldType.int)) ∈ tblG := my_in 859 (by decide +kernel) (by decide +kernel)
theorem tw_ml_X9_228 : (Jvm.Cond.methodLink "PitchRowsModel" (228 : Nat) ({ cls := "PitchRowsModel", name := "lastThatSounds", desc := "()I" } : Jvm.MethodName)) ∈ tblG := my_in 860 (by decide +kernel) (by decide +kernel)
theorem tw_im_X9_lastThatSounds : (Jvm.Cond.instanceMethod ({ cls := "PitchRowsModel", name := "lastThatSounds", desc := "()I" } : Jvm.MethodName)) ∈ tblG := my_in 862 (by decide +kernel) (by decide +kernel)
theorem tw_cd_X9_lastThatSounds : (Jvm.Cond.code ({ cls := "PitchRowsModel", name := "lastThatSounds", desc := "()I" } : Jvm.MethodName) prog_11_method_46_code (3 : Nat) (Option.some Jvm.ClassFile.FieldType.int)) ∈ tblG := my_in 863 (by decide +kernel) (by decide +kernel)
theorem tw_ml_X9_231 : (Jvm.Cond.methodLink "PitchRowsModel" (231 : Nat) ({ cls := "PitchRowsModel", name := "firstOfTwo", desc := "()I" } : Jvm.MethodName)) ∈ tblG := my_in 864 (by decide +kernel) (by decide +kernel)
theorem tw_im_X9_firstOfTwo : (Jvm.Cond.instanceMethod ({ cls := "PitchRowsModel", name := "firstOfTwo", desc := "()I" } : Jvm.MethodName)) ∈ tblG := my_in 866 (by decide +kernel) (by decide +kernel)
theorem tw_cd_X9_firstOfTwo : (Jvm.Cond.code ({ cls := "PitchRowsModel", name := "firstOfTwo", desc := "()I" } : Jvm.MethodName) prog_11_method_45_code (3 : Nat) (Option.some Jvm.ClassFile.FieldType.int)) ∈ tblG := my_in 867 (by decide +kernel) (by decide +kernel)
theorem tw_ml_L_61 : (Jvm.Cond.methodLink "PitchRowsLaw" (61 : Nat) ({ cls := "PitchRowsModel", name := "peak", desc := "(II)I" } : Jvm.MethodName)) ∈ tblG := my_in 868 (by decide +kernel) (by decide +kernel)
theorem tw_im_X9_peak : (Jvm.Cond.instanceMethod ({ cls := "PitchRowsModel", name := "peak", desc := "(II)I" } : Jvm.MethodName)) ∈ tblG := my_in 869 (by decide +kernel) (by decide +kernel)
theorem tw_se_X9_X9_peak : (Jvm.Cond.selects "PitchRowsModel" ({ cls := "PitchRowsModel", name := "peak", desc := "(II)I" } : Jvm.MethodName) ({ cls := "PitchRowsModel", name := "peak", desc := "(II)I" } : Jvm.MethodName)) ∈ tblG := my_in 870 (by decide +kernel) (by decide +kernel)
theorem tw_cd_X9_peak : (Jvm.Cond.code ({ cls := "PitchRowsModel", name := "peak", desc := "(II)I" } : Jvm.MethodName) prog_11_method_51_code (3 : Nat) (Option.some Jvm.ClassFile.FieldType.int)) ∈ tblG := my_in 871 (by decide +kernel) (by decide +kernel)
theorem tw_ml_X9_256 : (Jvm.Cond.methodLink "PitchRowsModel" (256 : Nat) ({ cls := "PitchRowsModel", name := "peaks", desc := "(I)V" } : Jvm.MethodName)) ∈ tblG := my_in 872 (by decide +kernel) (by decide +kernel)
theorem tw_im_X9_peaks : (Jvm.Cond.instanceMethod ({ cls := "PitchRowsModel", name := "peaks", desc := "(I)V" } : Jvm.MethodName)) ∈ tblG := my_in 874 (by decide +kernel) (by decide +kernel)
theorem tw_cd_X9_peaks : (Jvm.Cond.code ({ cls := "PitchRowsModel", name := "peaks", desc := "(I)V" } : Jvm.MethodName) prog_11_method_50_code (5 : Nat) (Option.none : Option Jvm.ClassFile.FieldType)) ∈ tblG := my_in 875 (by decide +kernel) (by decide +kernel)
theorem tw_ml_L_65 : (Jvm.Cond.methodLink "PitchRowsLaw" (65 : Nat) ({ cls := "PitchRowsModel", name := "clash", desc := "(II)I" } : Jvm.MethodName)) ∈ tblG := my_in 876 (by decide +kernel) (by decide +kernel)
theorem tw_im_X9_clash : (Jvm.Cond.instanceMethod ({ cls := "PitchRowsModel", name := "clash", desc := "(II)I" } : Jvm.MethodName)) ∈ tblG := my_in 877 (by decide +kernel) (by decide +kernel)
theorem tw_se_X9_X9_clash : (Jvm.Cond.selects "PitchRowsModel" ({ cls := "PitchRowsModel", name := "clash", desc := "(II)I" } : Jvm.MethodName) ({ cls := "PitchRowsModel", name := "clash", desc := "(II)I" } : Jvm.MethodName)) ∈ tblG := my_in 878 (by decide +kernel) (by decide +kernel)
theorem tw_cd_X9_clash : (Jvm.Cond.code ({ cls := "PitchRowsModel", name := "clash", desc := "(II)I" } : Jvm.MethodName) prog_11_method_52_code (7 : Nat) (Option.some Jvm.ClassFile.FieldType.int)) ∈ tblG := my_in 879 (by decide +kernel) (by decide +kernel)
theorem tw_ml_L_70 : (Jvm.Cond.methodLink "PitchRowsLaw" (70 : Nat) ({ cls := "PitchRowsModel", name := "rows", desc := "()I" } : Jvm.MethodName)) ∈ tblG := my_in 880 (by decide +kernel) (by decide +kernel)
theorem tw_im_X9_rows : (Jvm.Cond.instanceMethod ({ cls := "PitchRowsModel", name := "rows", desc := "()I" } : Jvm.MethodName)) ∈ tblG := my_in 881 (by decide +kernel) (by decide +kernel)
theorem tw_se_X9_X9_rows : (Jvm.Cond.selects "PitchRowsModel" ({ cls := "PitchRowsModel", name := "rows", desc := "()I" } : Jvm.MethodName) ({ cls := "PitchRowsModel", name := "rows", desc := "()I" } : Jvm.MethodName)) ∈ tblG := my_in 882 (by decide +kernel) (by decide +kernel)
theorem tw_cd_X9_rows : (Jvm.Cond.code ({ cls := "PitchRowsModel", name := "rows", desc := "()I" } : Jvm.MethodName) prog_11_method_53_code (3 : Nat) (Option.some Jvm.ClassFile.FieldType.int)) ∈ tblG := my_in 883 (by decide +kernel) (by decide +kernel)
theorem tw_ml_X9_259 : (Jvm.Cond.methodLink "PitchRowsModel" (259 : Nat) ({ cls := "PitchRowsModel", name := "triesFirst", desc := "()V" } : Jvm.MethodName)) ∈ tblG := my_in 884 (by decide +kernel) (by decide +kernel)
theorem tw_im_X9_triesFirst : (Jvm.Cond.instanceMethod ({ cls := "PitchRowsModel", name := "triesFirst", desc := "()V" } : Jvm.MethodName)) ∈ tblG := my_in 886 (by decide +kernel) (by decide +kernel)
theorem tw_cd_X9_triesFirst : (Jvm.Cond.code ({ cls := "PitchRowsModel", name := "triesFirst", desc := "()V" } : Jvm.MethodName) prog_11_method_21_code (2 : Nat) (Option.none : Option Jvm.ClassFile.FieldType)) ∈ tblG := my_in 887 (by decide +kernel) (by decide +kernel)
theorem tw_ml_X9_262 : (Jvm.Cond.methodLink "PitchRowsModel" (262 : Nat) ({ cls := "PitchRowsModel", name := "triesNext", desc := "()Z" } : Jvm.MethodName)) ∈ tblG := my_in 888 (by decide +kernel) (by decide +kernel)
theorem tw_im_X9_triesNext : (Jvm.Cond.instanceMethod ({ cls := "PitchRowsModel", name := "triesNext", desc := "()Z" } : Jvm.MethodName)) ∈ tblG := my_in 890 (by decide +kernel) (by decide +kernel)
theorem tw_cd_X9_triesNext : (Jvm.Cond.code ({ cls := "PitchRowsModel", name := "triesNext", desc := "()Z" } : Jvm.MethodName) prog_11_method_22_code (2 : Nat) (Option.some Jvm.ClassFile.FieldType.boolean)) ∈ tblG := my_in 891 (by decide +kernel) (by decide +kernel)
theorem tw_ml_L_74 : (Jvm.Cond.methodLink "PitchRowsLaw" (74 : Nat) ({ cls := "PitchRowsModel", name := "ways", desc := "(II)I" } : Jvm.MethodName)) ∈ tblG := my_in 892 (by decide +kernel) (by decide +kernel)
theorem tw_im_X9_ways : (Jvm.Cond.instanceMethod ({ cls := "PitchRowsModel", name := "ways", desc := "(II)I" } : Jvm.MethodName)) ∈ tblG := my_in 893 (by decide +kernel) (by decide +kernel)
theorem tw_se_X9_X9_ways : (Jvm.Cond.selects "PitchRowsModel" ({ cls := "PitchRowsModel", name := "ways", desc := "(II)I" } : Jvm.MethodName) ({ cls := "PitchRowsModel", name := "ways", desc := "(II)I" } : Jvm.MethodName)) ∈ tblG := my_in 894 (by decide +kernel) (by decide +kernel)
theorem tw_cd_X9_ways : (Jvm.Cond.code ({ cls := "PitchRowsModel", name := "ways", desc := "(II)I" } : Jvm.MethodName) prog_11_method_54_code (7 : Nat) (Option.some Jvm.ClassFile.FieldType.int)) ∈ tblG := my_in 895 (by decide +kernel) (by decide +kernel)
theorem tw_ml_X9_265 : (Jvm.Cond.methodLink "PitchRowsModel" (265 : Nat) ({ cls := "PitchRowsModel", name := "hasThoseOf", desc := "(I)Z" } : Jvm.MethodName)) ∈ tblG := my_in 896 (by decide +kernel) (by decide +kernel)
theorem tw_im_X9_hasThoseOf : (Jvm.Cond.instanceMethod ({ cls := "PitchRowsModel", name := "hasThoseOf", desc := "(I)Z" } : Jvm.MethodName)) ∈ tblG := my_in 898 (by decide +kernel) (by decide +kernel)
theorem tw_cd_X9_hasThoseOf : (Jvm.Cond.code ({ cls := "PitchRowsModel", name := "hasThoseOf", desc := "(I)Z" } : Jvm.MethodName) prog_11_method_23_code (4 : Nat) (Option.some Jvm.ClassFile.FieldType.boolean)) ∈ tblG := my_in 899 (by decide +kernel) (by decide +kernel)
theorem tw_ml_L_78 : (Jvm.Cond.methodLink "PitchRowsLaw" (78 : Nat) ({ cls := "PitchRowsModel", name := "next", desc := "(II)I" } : Jvm.MethodName)) ∈ tblG := my_in 900 (by decide +kernel) (by decide +kernel)
theorem tw_im_X9_next : (Jvm.Cond.instanceMethod ({ cls := "PitchRowsModel", name := "next", desc := "(II)I" } : Jvm.MethodName)) ∈ tblG := my_in 901 (by decide +kernel) (by decide +kernel)
theorem tw_se_X9_X9_next : (Jvm.Cond.selects "PitchRowsModel" ({ cls := "PitchRowsModel", name := "next", desc := "(II)I" } : Jvm.MethodName) ({ cls := "PitchRowsModel", name := "next", desc := "(II)I" } : Jvm.MethodName)) ∈ tblG := my_in 902 (by decide +kernel) (by decide +kernel)
theorem tw_cd_X9_next : (Jvm.Cond.code ({ cls := "PitchRowsModel", name := "next", desc := "(II)I" } : Jvm.MethodName) prog_11_method_55_code (4 : Nat) (Option.some Jvm.ClassFile.FieldType.int)) ∈ tblG := my_in 903 (by decide +kernel) (by decide +kernel)
theorem tw_ml_L_82 : (Jvm.Cond.methodLink "PitchRowsLaw" (82 : Nat) ({ cls := "PitchRowsModel", name := "reading", desc := "(IIIII)I" } : Jvm.MethodName)) ∈ tblG := my_in 904 (by decide +kernel) (by decide +kernel)
theorem tw_im_X9_reading : (Jvm.Cond.instanceMethod ({ cls := "PitchRowsModel", name := "reading", desc := "(IIIII)I" } : Jvm.MethodName)) ∈ tblG := my_in 905 (by decide +kernel) (by decide +kernel)
theorem tw_se_X9_X9_reading : (Jvm.Cond.selects "PitchRowsModel" ({ cls := "PitchRowsModel", name := "reading", desc := "(IIIII)I" } : Jvm.MethodName) ({ cls := "PitchRowsModel", name := "reading", desc := "(IIIII)I" } : Jvm.MethodName)) ∈ tblG := my_in 906 (by decide +kernel) (by decide +kernel)
theorem tw_cd_X9_reading : (Jvm.Cond.code ({ cls := "PitchRowsModel", name := "reading", desc := "(IIIII)I" } : Jvm.MethodName) prog_11_method_56_code (6 : Nat) (Option.some Jvm.ClassFile.FieldType.int)) ∈ tblG := my_in 907 (by decide +kernel) (by decide +kernel)
theorem tw_ml_L_86 : (Jvm.Cond.methodLink "PitchRowsLaw" (86 : Nat) ({ cls := "PitchRowsModel", name := "back", desc := "(I)I" } : Jvm.MethodName)) ∈ tblG := my_in 908 (by decide +kernel) (by decide +kernel)
theorem tw_im_X9_back : (Jvm.Cond.instanceMethod ({ cls := "PitchRowsModel", name := "back", desc := "(I)I" } : Jvm.MethodName)) ∈ tblG := my_in 909 (by decide +kernel) (by decide +kernel)
theorem tw_se_X9_X9_back : (Jvm.Cond.selects "PitchRowsModel" ({ cls := "PitchRowsModel", name := "back", desc := "(I)I" } : Jvm.MethodName) ({ cls := "PitchRowsModel", name := "back", desc := "(I)I" } : Jvm.MethodName)) ∈ tblG := my_in 910 (by decide +kernel) (by decide +kernel)
theorem tw_cd_X9_back : (Jvm.Cond.code ({ cls := "PitchRowsModel", name := "back", desc := "(I)I" } : Jvm.MethodName) prog_11_method_57_code (2 : Nat) (Option.some Jvm.ClassFile.FieldType.int)) ∈ tblG := my_in 911 (by decide +kernel) (by decide +kernel)
theorem tw_ml_L_90 : (Jvm.Cond.methodLink "PitchRowsLaw" (90 : Nat) ({ cls := "PitchRowsModel", name := "kinds", desc := "(I)I" } : Jvm.MethodName)) ∈ tblG := my_in 912 (by decide +kernel) (by decide +kernel)
theorem tw_im_X9_kinds : (Jvm.Cond.instanceMethod ({ cls := "PitchRowsModel", name := "kinds", desc := "(I)I" } : Jvm.MethodName)) ∈ tblG := my_in 913 (by decide +kernel) (by decide +kernel)
theorem tw_se_X9_X9_kinds : (Jvm.Cond.selects "PitchRowsModel" ({ cls := "PitchRowsModel", name := "kinds", desc := "(I)I" } : Jvm.MethodName) ({ cls := "PitchRowsModel", name := "kinds", desc := "(I)I" } : Jvm.MethodName)) ∈ tblG := my_in 914 (by decide +kernel) (by decide +kernel)
theorem tw_cd_X9_kinds : (Jvm.Cond.code ({ cls := "PitchRowsModel", name := "kinds", desc := "(I)I" } : Jvm.MethodName) prog_11_method_59_code (5 : Nat) (Option.some Jvm.ClassFile.FieldType.int)) ∈ tblG := my_in 915 (by decide +kernel) (by decide +kernel)
theorem tw_ml_X9_268 : (Jvm.Cond.methodLink "PitchRowsModel" (268 : Nat) ({ cls := "PitchRowsModel", name := "areSo", desc := "()Z" } : Jvm.MethodName)) ∈ tblG := my_in 916 (by decide +kernel) (by decide +kernel)
theorem tw_im_X9_areSo : (Jvm.Cond.instanceMethod ({ cls := "PitchRowsModel", name := "areSo", desc := "()Z" } : Jvm.MethodName)) ∈ tblG := my_in 918 (by decide +kernel) (by decide +kernel)
theorem tw_cd_X9_areSo : (Jvm.Cond.code ({ cls := "PitchRowsModel", name := "areSo", desc := "()Z" } : Jvm.MethodName) prog_11_method_58_code (3 : Nat) (Option.some Jvm.ClassFile.FieldType.boolean)) ∈ tblG := my_in 919 (by decide +kernel) (by decide +kernel)
theorem tw_ml_L_94 : (Jvm.Cond.methodLink "PitchRowsLaw" (94 : Nat) ({ cls := "PitchRowsModel", name := "pitches", desc := "(II)I" } : Jvm.MethodName)) ∈ tblG := my_in 920 (by decide +kernel) (by decide +kernel)
theorem tw_im_X9_pitches : (Jvm.Cond.instanceMethod ({ cls := "PitchRowsModel", name := "pitches", desc := "(II)I" } : Jvm.MethodName)) ∈ tblG := my_in 921 (by decide +kernel) (by decide +kernel)
theorem tw_se_X9_X9_pitches : (Jvm.Cond.selects "PitchRowsModel" ({ cls := "PitchRowsModel", name := "pitches", desc := "(II)I" } : Jvm.MethodName) ({ cls := "PitchRowsModel", name := "pitches", desc := "(II)I" } : Jvm.MethodName)) ∈ tblG := my_in 922 (by decide +kernel) (by decide +kernel)
theorem tw_cd_X9_pitches : (Jvm.Cond.code ({ cls := "PitchRowsModel", name := "pitches", desc := "(II)I" } : Jvm.MethodName) prog_11_method_60_code (7 : Nat) (Option.some Jvm.ClassFile.FieldType.int)) ∈ tblG := my_in 923 (by decide +kernel) (by decide +kernel)
theorem tw_ml_L_99 : (Jvm.Cond.methodLink "PitchRowsLaw" (99 : Nat) ({ cls := "PitchRowsModel", name := "odds", desc := "(III)J" } : Jvm.MethodName)) ∈ tblG := my_in 924 (by decide +kernel) (by decide +kernel)
theorem tw_im_X9_odds : (Jvm.Cond.instanceMethod ({ cls := "PitchRowsModel", name := "odds", desc := "(III)J" } : Jvm.MethodName)) ∈ tblG := my_in 925 (by decide +kernel) (by decide +kernel)
theorem tw_se_X9_X9_odds : (Jvm.Cond.selects "PitchRowsModel" ({ cls := "PitchRowsModel", name := "odds", desc := "(III)J" } : Jvm.MethodName) ({ cls := "PitchRowsModel", name := "odds", desc := "(III)J" } : Jvm.MethodName)) ∈ tblG := my_in 926 (by decide +kernel) (by decide +kernel)
theorem tw_cd_X9_odds : (Jvm.Cond.code ({ cls := "PitchRowsModel", name := "odds", desc := "(III)J" } : Jvm.MethodName) prog_11_method_61_code (7 : Nat) (Option.some Jvm.ClassFile.FieldType.long)) ∈ tblG := my_in 927 (by decide +kernel) (by decide +kernel)
theorem tw_ml_X9_76 : (Jvm.Cond.methodLink "PitchRowsModel" (76 : Nat) ({ cls := "PitchRowsModel", name := "lost", desc := "()J" } : Jvm.MethodName)) ∈ tblG := my_in 928 (by decide +kernel) (by decide +kernel)
theorem tw_st_X9_lost : (Jvm.Cond.static ({ cls := "PitchRowsModel", name := "lost", desc := "()J" } : Jvm.MethodName)) ∈ tblG := my_in 929 (by decide +kernel) (by decide +kernel)
theorem tw_cd_X9_lost : (Jvm.Cond.code ({ cls := "PitchRowsModel", name := "lost", desc := "()J" } : Jvm.MethodName) prog_11_method_3_code (0 : Nat) (Option.some Jvm.ClassFile.FieldType.long)) ∈ tblG := my_in 930 (by decide +kernel) (by decide +kernel)
theorem tw_kl_X9_70 : (Jvm.Cond.constantLong "PitchRowsModel" (70 : Nat) (-9223372036854775808 : Int64)) ∈ tblG := my_in 931 (by decide +kernel) (by decide +kernel)
theorem tw_kl_X9_271 : (Jvm.Cond.constantLong "PitchRowsModel" (271 : Nat) (120 : Int64)) ∈ tblG := my_in 932 (by decide +kernel) (by decide +kernel)
theorem tw_ml_X9_273 : (Jvm.Cond.methodLink "PitchRowsModel" (273 : Nat) ({ cls := "PitchRowsModel", name := "share", desc := "(JJI)J" } : Jvm.MethodName)) ∈ tblG := my_in 933 (by decide +kernel) (by decide +kernel)
theorem tw_st_X9_share : (Jvm.Cond.static ({ cls := "PitchRowsModel", name := "share", desc := "(JJI)J" } : Jvm.MethodName)) ∈ tblG := my_in 934 (by decide +kernel) (by decide +kernel)
theorem tw_cd_X9_share : (Jvm.Cond.code ({ cls := "PitchRowsModel", name := "share", desc := "(JJI)J" } : Jvm.MethodName) prog_11_method_5_code (11 : Nat) (Option.some Jvm.ClassFile.FieldType.long)) ∈ tblG := my_in 935 (by decide +kernel) (by decide +kernel)
theorem tw_ml_L_103 : (Jvm.Cond.methodLink "PitchRowsLaw" (103 : Nat) ({ cls := "PitchRowsModel", name := "sheet", desc := "(III)I" } : Jvm.MethodName)) ∈ tblG := my_in 936 (by decide +kernel) (by decide +kernel)
theorem tw_im_X9_sheet : (Jvm.Cond.instanceMethod ({ cls := "PitchRowsModel", name := "sheet", desc := "(III)I" } : Jvm.MethodName)) ∈ tblG := my_in 937 (by decide +kernel) (by decide +kernel)
theorem tw_se_X9_X9_sheet : (Jvm.Cond.selects "PitchRowsModel" ({ cls := "PitchRowsModel", name := "sheet", desc := "(III)I" } : Jvm.MethodName) ({ cls := "PitchRowsModel", name := "sheet", desc := "(III)I" } : Jvm.MethodName)) ∈ tblG := my_in 938 (by decide +kernel) (by decide +kernel)
theorem tw_cd_X9_sheet : (Jvm.Cond.code ({ cls := "PitchRowsModel", name := "sheet", desc := "(III)I" } : Jvm.MethodName) prog_11_method_63_code (5 : Nat) (Option.some Jvm.ClassFile.FieldType.int)) ∈ tblG := my_in 939 (by decide +kernel) (by decide +kernel)
theorem tw_ml_L_107 : (Jvm.Cond.methodLink "PitchRowsLaw" (107 : Nat) ({ cls := "PitchRowsModel", name := "lose", desc := "(I)I" } : Jvm.MethodName)) ∈ tblG := my_in 940 (by decide +kernel) (by decide +kernel)
theorem tw_im_X9_lose : (Jvm.Cond.instanceMethod ({ cls := "PitchRowsModel", name := "lose", desc := "(I)I" } : Jvm.MethodName)) ∈ tblG := my_in 941 (by decide +kernel) (by decide +kernel)
theorem tw_se_X9_X9_lose : (Jvm.Cond.selects "PitchRowsModel" ({ cls := "PitchRowsModel", name := "lose", desc := "(I)I" } : Jvm.MethodName) ({ cls := "PitchRowsModel", name := "lose", desc := "(I)I" } : Jvm.MethodName)) ∈ tblG := my_in 942 (by decide +kernel) (by decide +kernel)
theorem tw_cd_X9_lose : (Jvm.Cond.code ({ cls := "PitchRowsModel", name := "lose", desc := "(I)I" } : Jvm.MethodName) prog_11_method_64_code (3 : Nat) (Option.some Jvm.ClassFile.FieldType.int)) ∈ tblG := my_in 943 (by decide +kernel) (by decide +kernel)
theorem tw_ml_L_111 : (Jvm.Cond.methodLink "PitchRowsLaw" (111 : Nat) ({ cls := "PitchRowsModel", name := "put", desc := "(III)I" } : Jvm.MethodName)) ∈ tblG := my_in 944 (by decide +kernel) (by decide +kernel)
theorem tw_im_X9_put : (Jvm.Cond.instanceMethod ({ cls := "PitchRowsModel", name := "put", desc := "(III)I" } : Jvm.MethodName)) ∈ tblG := my_in 945 (by decide +kernel) (by decide +kernel)
theorem tw_se_X9_X9_put : (Jvm.Cond.selects "PitchRowsModel" ({ cls := "PitchRowsModel", name := "put", desc := "(III)I" } : Jvm.MethodName) ({ cls := "PitchRowsModel", name := "put", desc := "(III)I" } : Jvm.MethodName)) ∈ tblG := my_in 946 (by decide +kernel) (by decide +kernel)
theorem tw_cd_X9_put : (Jvm.Cond.code ({ cls := "PitchRowsModel", name := "put", desc := "(III)I" } : Jvm.MethodName) prog_11_method_66_code (4 : Nat) (Option.some Jvm.ClassFile.FieldType.int)) ∈ tblG := my_in 947 (by decide +kernel) (by decide +kernel)
theorem tw_ml_X9_277 : (Jvm.Cond.methodLink "PitchRowsModel" (277 : Nat) ({ cls := "PitchRowsModel", name := "noCell", desc := "(II)I" } : Jvm.MethodName)) ∈ tblG := my_in 948 (by decide +kernel) (by decide +kernel)
theorem tw_im_X9_noCell : (Jvm.Cond.instanceMethod ({ cls := "PitchRowsModel", name := "noCell", desc := "(II)I" } : Jvm.MethodName)) ∈ tblG := my_in 950 (by decide +kernel) (by decide +kernel)
theorem tw_cd_X9_noCell : (Jvm.Cond.code ({ cls := "PitchRowsModel", name := "noCell", desc := "(II)I" } : Jvm.MethodName) prog_11_method_65_code (3 : Nat) (Option.some Jvm.ClassFile.FieldType.int)) ∈ tblG := my_in 951 (by decide +kernel) (by decide +kernel)
theorem tw_ml_L_115 : (Jvm.Cond.methodLink "PitchRowsLaw" (115 : Nat) ({ cls := "PitchRowsModel", name := "cell", desc := "(III)J" } : Jvm.MethodName)) ∈ tblG := my_in 952 (by decide +kernel) (by decide +kernel)
theorem tw_im_X9_cell : (Jvm.Cond.instanceMethod ({ cls := "PitchRowsModel", name := "cell", desc := "(III)J" } : Jvm.MethodName)) ∈ tblG := my_in 953 (by decide +kernel) (by decide +kernel)
theorem tw_se_X9_X9_cell : (Jvm.Cond.selects "PitchRowsModel" ({ cls := "PitchRowsModel", name := "cell", desc := "(III)J" } : Jvm.MethodName) ({ cls := "PitchRowsModel", name := "cell", desc := "(III)J" } : Jvm.MethodName)) ∈ tblG := my_in 954 (by decide +kernel) (by decide +kernel)
theorem tw_cd_X9_cell : (Jvm.Cond.code ({ cls := "PitchRowsModel", name := "cell", desc := "(III)J" } : Jvm.MethodName) prog_11_method_67_code (4 : Nat) (Option.some Jvm.ClassFile.FieldType.long)) ∈ tblG := my_in 955 (by decide +kernel) (by decide +kernel)
theorem tw_ml_X9_280 : (Jvm.Cond.methodLink "PitchRowsModel" (280 : Nat) ({ cls := "PitchRowsModel", name := "failedLong", desc := "(I)J" } : Jvm.MethodName)) ∈ tblG := my_in 956 (by decide +kernel) (by decide +kernel)
theorem tw_im_X9_failedLong : (Jvm.Cond.instanceMethod ({ cls := "PitchRowsModel", name := "failedLong", desc := "(I)J" } : Jvm.MethodName)) ∈ tblG := my_in 958 (by decide +kernel) (by decide +kernel)
theorem tw_cd_X9_failedLong : (Jvm.Cond.code ({ cls := "PitchRowsModel", name := "failedLong", desc := "(I)J" } : Jvm.MethodName) prog_11_method_8_code (2 : Nat) (Option.some Jvm.ClassFile.FieldType.long)) ∈ tblG := my_in 959 (by decide +kernel) (by decide +kernel)
theorem tw_ml_L_119 : (Jvm.Cond.methodLink "PitchRowsLaw" (119 : Nat) ({ cls := "PitchRowsModel", name := "copy", desc := "(IIIII)I" } : Jvm.MethodName)) ∈ tblG := my_in 960 (by decide +kernel) (by decide +kernel)
theorem tw_im_X9_copy : (Jvm.Cond.instanceMethod ({ cls := "PitchRowsModel", name := "copy", desc := "(IIIII)I" } : Jvm.MethodName)) ∈ tblG := my_in 961 (by decide +kernel) (by decide +kernel)
theorem tw_se_X9_X9_copy : (Jvm.Cond.selects "PitchRowsModel" ({ cls := "PitchRowsModel", name := "copy", desc := "(IIIII)I" } : Jvm.MethodName) ({ cls := "PitchRowsModel", name := "copy", desc := "(IIIII)I" } : Jvm.MethodName)) ∈ tblG := my_in 962 (by decide +kernel) (by decide +kernel)
theorem tw_cd_X9_copy : (Jvm.Cond.code ({ cls := "PitchRowsModel", name := "copy", desc := "(IIIII)I" } : Jvm.MethodName) prog_11_method_69_code (7 : Nat) (Option.some Jvm.ClassFile.FieldType.int)) ∈ tblG := my_in 963 (by decide +kernel) (by decide +kernel)
theorem tw_ml_L_123 : (Jvm.Cond.methodLink "PitchRowsLaw" (123 : Nat) ({ cls := "PitchRowsModel", name := "tell", desc := "(I)I" } : Jvm.MethodName)) ∈ tblG := my_in 964 (by decide +kernel) (by decide +kernel)
theorem tw_im_X9_tell : (Jvm.Cond.instanceMethod ({ cls := "PitchRowsModel", name := "tell", desc := "(I)I" } : Jvm.MethodName)) ∈ tblG := my_in 965 (by decide +kernel) (by decide +kernel)
theorem tw_se_X9_X9_tell : (Jvm.Cond.selects "PitchRowsModel" ({ cls := "PitchRowsModel", name := "tell", desc := "(I)I" } : Jvm.MethodName) ({ cls := "PitchRowsModel", name := "tell", desc := "(I)I" } : Jvm.MethodName)) ∈ tblG := my_in 966 (by decide +kernel) (by decide +kernel)
theorem tw_cd_X9_tell : (Jvm.Cond.code ({ cls := "PitchRowsModel", name := "tell", desc := "(I)I" } : Jvm.MethodName) prog_11_method_71_code (4 : Nat) (Option.some Jvm.ClassFile.FieldType.int)) ∈ tblG := my_in 967 (by decide +kernel) (by decide +kernel)
theorem tw_ml_X9_287 : (Jvm.Cond.methodLink "PitchRowsModel" (287 : Nat) ({ cls := "PitchRowsModel", name := "traced", desc := "(I)V" } : Jvm.MethodName)) ∈ tblG := my_in 968 (by decide +kernel) (by decide +kernel)
theorem tw_im_X9_traced : (Jvm.Cond.instanceMethod ({ cls := "PitchRowsModel", name := "traced", desc := "(I)V" } : Jvm.MethodName)) ∈ tblG := my_in 970 (by decide +kernel) (by decide +kernel)
theorem tw_cd_X9_traced : (Jvm.Cond.code ({ cls := "PitchRowsModel", name := "traced", desc := "(I)V" } : Jvm.MethodName) prog_11_method_70_code (2 : Nat) (Option.none : Option Jvm.ClassFile.FieldType)) ∈ tblG := my_in 971 (by decide +kernel) (by decide +kernel)
theorem tw_ml_L_127 : (Jvm.Cond.methodLink "PitchRowsLaw" (127 : Nat) ({ cls := "PitchRowsModel", name := "hail", desc := "(I)I" } : Jvm.MethodName)) ∈ tblG := my_in 972 (by decide +kernel) (by decide +kernel)
theorem tw_im_X9_hail : (Jvm.Cond.instanceMethod ({ cls := "PitchRowsModel", name := "hail", desc := "(I)I" } : Jvm.MethodName)) ∈ tblG := my_in 973 (by decide +kernel) (by decide +kernel)
theorem tw_se_X9_X9_hail : (Jvm.Cond.selects "PitchRowsModel" ({ cls := "PitchRowsModel", name := "hail", desc := "(I)I" } : Jvm.MethodName) ({ cls := "PitchRowsModel", name := "hail", desc := "(I)I" } : Jvm.MethodName)) ∈ tblG := my_in 974 (by decide +kernel) (by decide +kernel)
theorem tw_cd_X9_hail : (Jvm.Cond.code ({ cls := "PitchRowsModel", name := "hail", desc := "(I)I" } : Jvm.MethodName) prog_11_method_72_code (2 : Nat) (Option.some Jvm.ClassFile.FieldType.int)) ∈ tblG := my_in 975 (by decide +kernel) (by decide +kernel)
theorem tw_ml_L_131 : (Jvm.Cond.methodLink "PitchRowsLaw" (131 : Nat) ({ cls := "PitchRowsModel", name := "as", desc := "(II)I" } : Jvm.MethodName)) ∈ tblG := my_in 976 (by decide +kernel) (by decide +kernel)
theorem tw_im_X9_as : (Jvm.Cond.instanceMethod ({ cls := "PitchRowsModel", name := "as", desc := "(II)I" } : Jvm.MethodName)) ∈ tblG := my_in 977 (by decide +kernel) (by decide +kernel)
theorem tw_se_X9_X9_as : (Jvm.Cond.selects "PitchRowsModel" ({ cls := "PitchRowsModel", name := "as", desc := "(II)I" } : Jvm.MethodName) ({ cls := "PitchRowsModel", name := "as", desc := "(II)I" } : Jvm.MethodName)) ∈ tblG := my_in 978 (by decide +kernel) (by decide +kernel)
theorem tw_cd_X9_as : (Jvm.Cond.code ({ cls := "PitchRowsModel", name := "as", desc := "(II)I" } : Jvm.MethodName) prog_11_method_73_code (3 : Nat) (Option.some Jvm.ClassFile.FieldType.int)) ∈ tblG := my_in 979 (by decide +kernel) (by decide +kernel)
theorem tw_ml_L_135 : (Jvm.Cond.methodLink "PitchRowsLaw" (135 : Nat) ({ cls := "PitchRowsModel", name := "trace", desc := "()I" } : Jvm.MethodName)) ∈ tblG := my_in 980 (by decide +kernel) (by decide +kernel)
theorem tw_im_X9_trace : (Jvm.Cond.instanceMethod ({ cls := "PitchRowsModel", name := "trace", desc := "()I" } : Jvm.MethodName)) ∈ tblG := my_in 981 (by decide +kernel) (by decide +kernel)
theorem tw_se_X9_X9_trace : (Jvm.Cond.selects "PitchRowsModel" ({ cls := "PitchRowsModel", name := "trace", desc := "()I" } : Jvm.MethodName) ({ cls := "PitchRowsModel", name := "trace", desc := "()I" } : Jvm.MethodName)) ∈ tblG := my_in 982 (by decide +kernel) (by decide +kernel)
theorem tw_cd_X9_trace : (Jvm.Cond.code ({ cls := "PitchRowsModel", name := "trace", desc := "()I" } : Jvm.MethodName) prog_11_method_74_code (1 : Nat) (Option.some Jvm.ClassFile.FieldType.int)) ∈ tblG := my_in 983 (by decide +kernel) (by decide +kernel)
theorem tw_ml_L_139 : (Jvm.Cond.methodLink "PitchRowsLaw" (139 : Nat) ({ cls := "PitchRowsModel", name := "fault", desc := "()I" } : Jvm.MethodName)) ∈ tblG := my_in 984 (by decide +kernel) (by decide +kernel)
theorem tw_im_X9_fault : (Jvm.Cond.instanceMethod ({ cls := "PitchRowsModel", name := "fault", desc := "()I" } : Jvm.MethodName)) ∈ tblG := my_in 985 (by decide +kernel) (by decide +kernel)
theorem tw_se_X9_X9_fault : (Jvm.Cond.selects "PitchRowsModel" ({ cls := "PitchRowsModel", name := "fault", desc := "()I" } : Jvm.MethodName) ({ cls := "PitchRowsModel", name := "fault", desc := "()I" } : Jvm.MethodName)) ∈ tblG := my_in 986 (by decide +kernel) (by decide +kernel)
theorem tw_cd_X9_fault : (Jvm.Cond.code ({ cls := "PitchRowsModel", name := "fault", desc := "()I" } : Jvm.MethodName) prog_11_method_75_code (1 : Nat) (Option.some Jvm.ClassFile.FieldType.int)) ∈ tblG := my_in 987 (by decide +kernel) (by decide +kernel)
theorem tw_ml_L_143 : (Jvm.Cond.methodLink "PitchRowsLaw" (143 : Nat) ({ cls := "PitchRowsModel", name := "many", desc := "(I)I" } : Jvm.MethodName)) ∈ tblG := my_in 988 (by decide +kernel) (by decide +kernel)
theorem tw_im_X9_many : (Jvm.Cond.instanceMethod ({ cls := "PitchRowsModel", name := "many", desc := "(I)I" } : Jvm.MethodName)) ∈ tblG := my_in 989 (by decide +kernel) (by decide +kernel)
theorem tw_se_X9_X9_many : (Jvm.Cond.selects "PitchRowsModel" ({ cls := "PitchRowsModel", name := "many", desc := "(I)I" } : Jvm.MethodName) ({ cls := "PitchRowsModel", name := "many", desc := "(I)I" } : Jvm.MethodName)) ∈ tblG := my_in 990 (by decide +kernel) (by decide +kernel)
theorem tw_cd_X9_many : (Jvm.Cond.code ({ cls := "PitchRowsModel", name := "many", desc := "(I)I" } : Jvm.MethodName) prog_11_method_76_code (4 : Nat) (Option.some Jvm.ClassFile.FieldType.int)) ∈ tblG := my_in 991 (by decide +kernel) (by decide +kernel)
theorem tw_se_X8_X8_faulted : (Jvm.Cond.selects "PitchRows" (⟨"PitchRows", "faulted", "(I)I"⟩ : Jvm.MethodName) (⟨"PitchRows", "faulted", "(I)I"⟩ : Jvm.MethodName)) ∈ tblG := my_inP 0 (by decide +kernel) (by decide +kernel)
theorem tw_se_X7_X7_goesOn : (Jvm.Cond.selects "PitchRows$TextReader" (⟨"PitchRows$TextReader", "goesOn", "(II)Z"⟩ : Jvm.MethodName) (⟨"PitchRows$TextReader", "goesOn", "(II)Z"⟩ : Jvm.MethodName)) ∈ tblG := my_inP 1 (by decide +kernel) (by decide +kernel)
theorem tw_se_X7_X7_fitsPart : (Jvm.Cond.selects "PitchRows$TextReader" (⟨"PitchRows$TextReader", "fitsPart", "(I)Z"⟩ : Jvm.MethodName) (⟨"PitchRows$TextReader", "fitsPart", "(I)Z"⟩ : Jvm.MethodName)) ∈ tblG := my_inP 2 (by decide +kernel) (by decide +kernel)
theorem tw_se_X8_X8_toldPitch : (Jvm.Cond.selects "PitchRows" (⟨"PitchRows", "toldPitch", "(LPitchRows$Caller;I)I"⟩ : Jvm.MethodName) (⟨"PitchRows", "toldPitch", "(LPitchRows$Caller;I)I"⟩ : Jvm.MethodName)) ∈ tblG := my_inP 3 (by decide +kernel) (by decide +kernel)
theorem tw_se_X8_X8_firstWrong : (Jvm.Cond.selects "PitchRows" (⟨"PitchRows", "firstWrong", "(LPitchRows$Sheet;II)I"⟩ : Jvm.MethodName) (⟨"PitchRows", "firstWrong", "(LPitchRows$Sheet;II)I"⟩ : Jvm.MethodName)) ∈ tblG := my_inP 4 (by decide +kernel) (by decide +kernel)
theorem tw_se_X8_X8_afterDay : (Jvm.Cond.selects "PitchRows" (⟨"PitchRows", "afterDay", "(I)I"⟩ : Jvm.MethodName) (⟨"PitchRows", "afterDay", "(I)I"⟩ : Jvm.MethodName)) ∈ tblG := my_inP 5 (by decide +kernel) (by decide +kernel)
theorem tw_se_X8_X8_mostListened : (Jvm.Cond.selects "PitchRows" (⟨"PitchRows", "mostListened", "(I[I)I"⟩ : Jvm.MethodName) (⟨"PitchRows", "mostListened", "(I[I)I"⟩ : Jvm.MethodName)) ∈ tblG := my_inP 6 (by decide +kernel) (by decide +kernel)
theorem tw_se_X3_X3_keep : (Jvm.Cond.selects "PitchRows$GoodRows" (⟨"PitchRows$GoodRows", "keep", "()V"⟩ : Jvm.MethodName) (⟨"PitchRows$GoodRows", "keep", "()V"⟩ : Jvm.MethodName)) ∈ tblG := my_inP 7 (by decide +kernel) (by decide +kernel)
theorem tw_se_X3_X3_codeOf : (Jvm.Cond.selects "PitchRows$GoodRows" (⟨"PitchRows$GoodRows", "codeOf", "([I)I"⟩ : Jvm.MethodName) (⟨"PitchRows$GoodRows", "codeOf", "([I)I"⟩ : Jvm.MethodName)) ∈ tblG := my_inP 8 (by decide +kernel) (by decide +kernel)
theorem tw_se_X3_X3_isLike : (Jvm.Cond.selects "PitchRows$GoodRows" (⟨"PitchRows$GoodRows", "isLike", "(I[I)Z"⟩ : Jvm.MethodName) (⟨"PitchRows$GoodRows", "isLike", "(I[I)Z"⟩ : Jvm.MethodName)) ∈ tblG := my_inP 9 (by decide +kernel) (by decide +kernel)
theorem tw_se_X8_X8_keenTelling : (Jvm.Cond.selects "PitchRows" (⟨"PitchRows", "keenTelling", "(LPitchRows$Caller;)I"⟩ : Jvm.MethodName) (⟨"PitchRows", "keenTelling", "(LPitchRows$Caller;)I"⟩ : Jvm.MethodName)) ∈ tblG := my_inP 10 (by decide +kernel) (by decide +kernel)
theorem tw_se_X8_X8_leave : (Jvm.Cond.selects "PitchRows" (⟨"PitchRows", "leave", "(I)V"⟩ : Jvm.MethodName) (⟨"PitchRows", "leave", "(I)V"⟩ : Jvm.MethodName)) ∈ tblG := my_inP 11 (by decide +kernel) (by decide +kernel)
theorem tw_se_X8_X8_broadTelling : (Jvm.Cond.selects "PitchRows" (⟨"PitchRows", "broadTelling", "(LPitchRows$Caller;)I"⟩ : Jvm.MethodName) (⟨"PitchRows", "broadTelling", "(LPitchRows$Caller;)I"⟩ : Jvm.MethodName)) ∈ tblG := my_inP 12 (by decide +kernel) (by decide +kernel)
theorem tw_se_X8_X8_plainTelling : (Jvm.Cond.selects "PitchRows" (⟨"PitchRows", "plainTelling", "(LPitchRows$Caller;)I"⟩ : Jvm.MethodName) (⟨"PitchRows", "plainTelling", "(LPitchRows$Caller;)I"⟩ : Jvm.MethodName)) ∈ tblG := my_inP 13 (by decide +kernel) (by decide +kernel)
theorem tw_se_X8_X8_keenHail : (Jvm.Cond.selects "PitchRows" (⟨"PitchRows", "keenHail", "()I"⟩ : Jvm.MethodName) (⟨"PitchRows", "keenHail", "()I"⟩ : Jvm.MethodName)) ∈ tblG := my_inP 14 (by decide +kernel) (by decide +kernel)
theorem tw_se_X8_X8_lentHail : (Jvm.Cond.selects "PitchRows" (⟨"PitchRows", "lentHail", "(I)I"⟩ : Jvm.MethodName) (⟨"PitchRows", "lentHail", "(I)I"⟩ : Jvm.MethodName)) ∈ tblG := my_inP 15 (by decide +kernel) (by decide +kernel)
theorem tw_se_X9_X9_refused : (Jvm.Cond.selects "PitchRowsModel" (⟨"PitchRowsModel", "refused", "(I)I"⟩ : Jvm.MethodName) (⟨"PitchRowsModel", "refused", "(I)I"⟩ : Jvm.MethodName)) ∈ tblG := my_inP 16 (by decide +kernel) (by decide +kernel)
theorem tw_se_X9_X9_cellsBarred : (Jvm.Cond.selects "PitchRowsModel" (⟨"PitchRowsModel", "cellsBarred", "(IIIJ)I"⟩ : Jvm.MethodName) (⟨"PitchRowsModel", "cellsBarred", "(IIIJ)I"⟩ : Jvm.MethodName)) ∈ tblG := my_inP 17 (by decide +kernel) (by decide +kernel)
theorem tw_se_X9_X9_failed : (Jvm.Cond.selects "PitchRowsModel" (⟨"PitchRowsModel", "failed", "(I)I"⟩ : Jvm.MethodName) (⟨"PitchRowsModel", "failed", "(I)I"⟩ : Jvm.MethodName)) ∈ tblG := my_inP 18 (by decide +kernel) (by decide +kernel)
theorem tw_se_X9_X9_readsCallers : (Jvm.Cond.selects "PitchRowsModel" (⟨"PitchRowsModel", "readsCallers", "(II)Z"⟩ : Jvm.MethodName) (⟨"PitchRowsModel", "readsCallers", "(II)Z"⟩ : Jvm.MethodName)) ∈ tblG := my_inP 19 (by decide +kernel) (by decide +kernel)
theorem tw_se_X9_X9_codeAt : (Jvm.Cond.selects "PitchRowsModel" (⟨"PitchRowsModel", "codeAt", "(II)I"⟩ : Jvm.MethodName) (⟨"PitchRowsModel", "codeAt", "(II)I"⟩ : Jvm.MethodName)) ∈ tblG := my_inP 20 (by decide +kernel) (by decide +kernel)
theorem tw_se_X9_X9_readsCaller : (Jvm.Cond.selects "PitchRowsModel" (⟨"PitchRowsModel", "readsCaller", "(II)Z"⟩ : Jvm.MethodName) (⟨"PitchRowsModel", "readsCaller", "(II)Z"⟩ : Jvm.MethodName)) ∈ tblG := my_inP 21 (by decide +kernel) (by decide +kernel)
theorem tw_se_X9_X9_readsSign : (Jvm.Cond.selects "PitchRowsModel" (⟨"PitchRowsModel", "readsSign", "(III)Z"⟩ : Jvm.MethodName) (⟨"PitchRowsModel", "readsSign", "(III)Z"⟩ : Jvm.MethodName)) ∈ tblG := my_inP 22 (by decide +kernel) (by decide +kernel)
theorem tw_se_X9_X9_noCaller : (Jvm.Cond.selects "PitchRowsModel" (⟨"PitchRowsModel", "noCaller", "(I)Z"⟩ : Jvm.MethodName) (⟨"PitchRowsModel", "noCaller", "(I)Z"⟩ : Jvm.MethodName)) ∈ tblG := my_inP 23 (by decide +kernel) (by decide +kernel)
theorem tw_se_X9_X9_noBeat : (Jvm.Cond.selects "PitchRowsModel" (⟨"PitchRowsModel", "noBeat", "(I)Z"⟩ : Jvm.MethodName) (⟨"PitchRowsModel", "noBeat", "(I)Z"⟩ : Jvm.MethodName)) ∈ tblG := my_inP 24 (by decide +kernel) (by decide +kernel)
theorem tw_se_X9_X9_pitch : (Jvm.Cond.selects "PitchRowsModel" (⟨"PitchRowsModel", "pitch", "(II)I"⟩ : Jvm.MethodName) (⟨"PitchRowsModel", "pitch", "(II)I"⟩ : Jvm.MethodName)) ∈ tblG := my_inP 25 (by decide +kernel) (by decide +kernel)
theorem tw_se_X9_X9_freeOf : (Jvm.Cond.selects "PitchRowsModel" (⟨"PitchRowsModel", "freeOf", "(I)I"⟩ : Jvm.MethodName) (⟨"PitchRowsModel", "freeOf", "(I)I"⟩ : Jvm.MethodName)) ∈ tblG := my_inP 26 (by decide +kernel) (by decide +kernel)
theorem tw_se_X9_X9_goodNow : (Jvm.Cond.selects "PitchRowsModel" (⟨"PitchRowsModel", "goodNow", "(I)I"⟩ : Jvm.MethodName) (⟨"PitchRowsModel", "goodNow", "(I)I"⟩ : Jvm.MethodName)) ∈ tblG := my_inP 27 (by decide +kernel) (by decide +kernel)
theorem tw_se_X9_X9_triesThoseOf : (Jvm.Cond.selects "PitchRowsModel" (⟨"PitchRowsModel", "triesThoseOf", "(I)V"⟩ : Jvm.MethodName) (⟨"PitchRowsModel", "triesThoseOf", "(I)V"⟩ : Jvm.MethodName)) ∈ tblG := my_inP 28 (by decide +kernel) (by decide +kernel)
theorem tw_se_X9_X9_isGood : (Jvm.Cond.selects "PitchRowsModel" (⟨"PitchRowsModel", "isGood", "()Z"⟩ : Jvm.MethodName) (⟨"PitchRowsModel", "isGood", "()Z"⟩ : Jvm.MethodName)) ∈ tblG := my_inP 29 (by decide +kernel) (by decide +kernel)
theorem tw_se_X9_X9_areUnlike : (Jvm.Cond.selects "PitchRowsModel" (⟨"PitchRowsModel", "areUnlike", "()Z"⟩ : Jvm.MethodName) (⟨"PitchRowsModel", "areUnlike", "()Z"⟩ : Jvm.MethodName)) ∈ tblG := my_inP 30 (by decide +kernel) (by decide +kernel)
theorem tw_se_X9_X9_heardBy : (Jvm.Cond.selects "PitchRowsModel" (⟨"PitchRowsModel", "heardBy", "(IIII)I"⟩ : Jvm.MethodName) (⟨"PitchRowsModel", "heardBy", "(IIII)I"⟩ : Jvm.MethodName)) ∈ tblG := my_inP 31 (by decide +kernel) (by decide +kernel)
theorem tw_se_X9_X9_counts : (Jvm.Cond.selects "PitchRowsModel" (⟨"PitchRowsModel", "counts", "(III)I"⟩ : Jvm.MethodName) (⟨"PitchRowsModel", "counts", "(III)I"⟩ : Jvm.MethodName)) ∈ tblG := my_inP 32 (by decide +kernel) (by decide +kernel)
theorem tw_se_X9_X9_sends : (Jvm.Cond.selects "PitchRowsModel" (⟨"PitchRowsModel", "sends", "(III)Z"⟩ : Jvm.MethodName) (⟨"PitchRowsModel", "sends", "(III)Z"⟩ : Jvm.MethodName)) ∈ tblG := my_inP 33 (by decide +kernel) (by decide +kernel)
theorem tw_se_X9_X9_airOf : (Jvm.Cond.selects "PitchRowsModel" (⟨"PitchRowsModel", "airOf", "(I)I"⟩ : Jvm.MethodName) (⟨"PitchRowsModel", "airOf", "(I)I"⟩ : Jvm.MethodName)) ∈ tblG := my_inP 34 (by decide +kernel) (by decide +kernel)
theorem tw_se_X9_X9_listensTo : (Jvm.Cond.selects "PitchRowsModel" (⟨"PitchRowsModel", "listensTo", "(II)I"⟩ : Jvm.MethodName) (⟨"PitchRowsModel", "listensTo", "(II)I"⟩ : Jvm.MethodName)) ∈ tblG := my_inP 35 (by decide +kernel) (by decide +kernel)
theorem tw_se_X9_X9_countsOfAll : (Jvm.Cond.selects "PitchRowsModel" (⟨"PitchRowsModel", "countsOfAll", "(III)I"⟩ : Jvm.MethodName) (⟨"PitchRowsModel", "countsOfAll", "(III)I"⟩ : Jvm.MethodName)) ∈ tblG := my_inP 36 (by decide +kernel) (by decide +kernel)
theorem tw_se_X9_X9_loudestOf : (Jvm.Cond.selects "PitchRowsModel" (⟨"PitchRowsModel", "loudestOf", "(I)I"⟩ : Jvm.MethodName) (⟨"PitchRowsModel", "loudestOf", "(I)I"⟩ : Jvm.MethodName)) ∈ tblG := my_inP 37 (by decide +kernel) (by decide +kernel)
theorem tw_se_X9_X9_dayOf : (Jvm.Cond.selects "PitchRowsModel" (⟨"PitchRowsModel", "dayOf", "(III)I"⟩ : Jvm.MethodName) (⟨"PitchRowsModel", "dayOf", "(III)I"⟩ : Jvm.MethodName)) ∈ tblG := my_inP 38 (by decide +kernel) (by decide +kernel)
theorem tw_se_X9_X9_doesPair : (Jvm.Cond.selects "PitchRowsModel" (⟨"PitchRowsModel", "doesPair", "(II)Z"⟩ : Jvm.MethodName) (⟨"PitchRowsModel", "doesPair", "(II)Z"⟩ : Jvm.MethodName)) ∈ tblG := my_inP 39 (by decide +kernel) (by decide +kernel)
theorem tw_se_X9_X9_manyThatSound : (Jvm.Cond.selects "PitchRowsModel" (⟨"PitchRowsModel", "manyThatSound", "()I"⟩ : Jvm.MethodName) (⟨"PitchRowsModel", "manyThatSound", "()I"⟩ : Jvm.MethodName)) ∈ tblG := my_inP 40 (by decide +kernel) (by decide +kernel)
theorem tw_se_X9_X9_lastThatSounds : (Jvm.Cond.selects "PitchRowsModel" (⟨"PitchRowsModel", "lastThatSounds", "()I"⟩ : Jvm.MethodName) (⟨"PitchRowsModel", "lastThatSounds", "()I"⟩ : Jvm.MethodName)) ∈ tblG := my_inP 41 (by decide +kernel) (by decide +kernel)
theorem tw_se_X9_X9_firstOfTwo : (Jvm.Cond.selects "PitchRowsModel" (⟨"PitchRowsModel", "firstOfTwo", "()I"⟩ : Jvm.MethodName) (⟨"PitchRowsModel", "firstOfTwo", "()I"⟩ : Jvm.MethodName)) ∈ tblG := my_inP 42 (by decide +kernel) (by decide +kernel)
theorem tw_se_X9_X9_peaks : (Jvm.Cond.selects "PitchRowsModel" (⟨"PitchRowsModel", "peaks", "(I)V"⟩ : Jvm.MethodName) (⟨"PitchRowsModel", "peaks", "(I)V"⟩ : Jvm.MethodName)) ∈ tblG := my_inP 43 (by decide +kernel) (by decide +kernel)
theorem tw_se_X9_X9_triesFirst : (Jvm.Cond.selects "PitchRowsModel" (⟨"PitchRowsModel", "triesFirst", "()V"⟩ : Jvm.MethodName) (⟨"PitchRowsModel", "triesFirst", "()V"⟩ : Jvm.MethodName)) ∈ tblG := my_inP 44 (by decide +kernel) (by decide +kernel)
theorem tw_se_X9_X9_triesNext : (Jvm.Cond.selects "PitchRowsModel" (⟨"PitchRowsModel", "triesNext", "()Z"⟩ : Jvm.MethodName) (⟨"PitchRowsModel", "triesNext", "()Z"⟩ : Jvm.MethodName)) ∈ tblG := my_inP 45 (by decide +kernel) (by decide +kernel)
theorem tw_se_X9_X9_hasThoseOf : (Jvm.Cond.selects "PitchRowsModel" (⟨"PitchRowsModel", "hasThoseOf", "(I)Z"⟩ : Jvm.MethodName) (⟨"PitchRowsModel", "hasThoseOf", "(I)Z"⟩ : Jvm.MethodName)) ∈ tblG := my_inP 46 (by decide +kernel) (by decide +kernel)
theorem tw_se_X9_X9_areSo : (Jvm.Cond.selects "PitchRowsModel" (⟨"PitchRowsModel", "areSo", "()Z"⟩ : Jvm.MethodName) (⟨"PitchRowsModel", "areSo", "()Z"⟩ : Jvm.MethodName)) ∈ tblG := my_inP 47 (by decide +kernel) (by decide +kernel)
theorem tw_se_X9_X9_noCell : (Jvm.Cond.selects "PitchRowsModel" (⟨"PitchRowsModel", "noCell", "(II)I"⟩ : Jvm.MethodName) (⟨"PitchRowsModel", "noCell", "(II)I"⟩ : Jvm.MethodName)) ∈ tblG := my_inP 48 (by decide +kernel) (by decide +kernel)
theorem tw_se_X9_X9_failedLong : (Jvm.Cond.selects "PitchRowsModel" (⟨"PitchRowsModel", "failedLong", "(I)J"⟩ : Jvm.MethodName) (⟨"PitchRowsModel", "failedLong", "(I)J"⟩ : Jvm.MethodName)) ∈ tblG := my_inP 49 (by decide +kernel) (by decide +kernel)
theorem tw_se_X9_X9_traced : (Jvm.Cond.selects "PitchRowsModel" (⟨"PitchRowsModel", "traced", "(I)V"⟩ : Jvm.MethodName) (⟨"PitchRowsModel", "traced", "(I)V"⟩ : Jvm.MethodName)) ∈ tblG := my_inP 50 (by decide +kernel) (by decide +kernel)
theorem inU_X0 : ∀ w ∈ u_ws RX0 TX0 5, w ∈ tblG := my_inU (by decide +kernel)
theorem inU_X1 : ∀ w ∈ u_ws RX1 TX1 2, w ∈ tblG := my_inU (by decide +kernel)
theorem inU_X2 : ∀ w ∈ u_ws RX2 TX2 3, w ∈ tblG := my_inU (by decide +kernel)
theorem inU_X3 : ∀ w ∈ u_ws RX3 TX3 4, w ∈ tblG := my_inU (by decide +kernel)
theorem inU_X5 : ∀ w ∈ u_ws RX5 TX5 6, w ∈ tblG := my_inU (by decide +kernel)
theorem inU_X6 : ∀ w ∈ u_ws RX6 TX6 4, w ∈ tblG := my_inU (by decide +kernel)
theorem inU_X7 : ∀ w ∈ u_ws RX7 TX7 4, w ∈ tblG := my_inU (by decide +kernel)
theorem inU_X8 : ∀ w ∈ u_ws RX8 TX8 9, w ∈ tblG := my_inU (by decide +kernel)
theorem inU_X9 : ∀ w ∈ u_ws RX9 TX9 33, w ∈ tblG := my_inU (by decide +kernel)
def lw_nest : List Cond := [(Jvm.Cond.methodLinkNest "PitchRows$Choir" (17 : Nat) ({ cls := "PitchRows$Caller", name := "<init>", desc := "()V" } : Jvm.MethodName) "PitchRows"), (Jvm.Cond.methodLinkNest "PitchRows" (20 : Nat) ({ cls := "PitchRows$Air", name := "<init>", desc := "()V" } : Jvm.MethodName) "PitchRows"), (Jvm.Cond.methodLinkNest "PitchRows$Air" (3 : Nat) ({ cls := "PitchRows$Numbered", name := "<init>", desc := "()V" } : Jvm.MethodName) "PitchRows"), (Jvm.Cond.methodLinkNest "PitchRows" (30 : Nat) ({ cls := "PitchRows$Readings", name := "<init>", desc := "()V" } : Jvm.MethodName) "PitchRows"), (Jvm.Cond.methodLinkNest "PitchRows$Readings" (3 : Nat) ({ cls := "PitchRows$Numbered", name := "<init>", desc := "()V" } : Jvm.MethodName) "PitchRows"), (Jvm.Cond.methodLinkNest "PitchRows" (37 : Nat) ({ cls := "PitchRows$GoodRows", name := "<init>", desc := "()V" } : Jvm.MethodName) "PitchRows"), (Jvm.Cond.methodLinkNest "PitchRows" (44 : Nat) ({ cls := "PitchRows$TextReader", name := "<init>", desc := "()V" } : Jvm.MethodName) "PitchRows"), (Jvm.Cond.methodLinkNest "PitchRows" (55 : Nat) ({ cls := "PitchRows$Sheet", name := "<init>", desc := "()V" } : Jvm.MethodName) "PitchRows"), (Jvm.Cond.methodLinkNest "PitchRows$TextReader" (35 : Nat) ({ cls := "PitchRows", name := "isWithin", desc := "(III)Z" } : Jvm.MethodName) "PitchRows"), (Jvm.Cond.methodLinkNest "PitchRows$Choir" (22 : Nat) ({ cls := "PitchRows", name := "isWithin", desc := "(III)Z" } : Jvm.MethodName) "PitchRows"), (Jvm.Cond.methodLinkNest "PitchRows$Numbered" (13 : Nat) ({ cls := "PitchRows", name := "isWithin", desc := "(III)Z" } : Jvm.MethodName) "PitchRows")]
theorem lw_nest_in : ∀ w ∈ lw_nest, w ∈ tables_1 := by decide +kernel
