section
-- ===== PART A: goes FIRST, ahead of the names: the tables' words, and 'selects' of the private methods out of them =====
/-- a private method of a class that the tables say can be made, by its rows of tables_1 -/
def lw_okq (q : MethodName × Nat) : Prop := (q.1.cls ≠ "java/lang/invoke/MethodHandle" ∧ q.1.cls ≠ "java/lang/invoke/VarHandle") ∧ Cond.instantiable q.1.cls q.2 ∈ tables_1 ∧ Cond.privateMethod q.1 ∈ tables_1 ∧ Cond.instanceMethod q.1 ∈ tables_1
theorem lw_p0 : lw_okq (⟨"PitchRows", "faulted", "(I)I"⟩, 9) := ⟨⟨by decide +kernel, by decide +kernel⟩, List.mem_of_getElem? (i := 16) (by decide +kernel), List.mem_of_getElem? (i := 235) (by decide +kernel), List.mem_of_getElem? (i := 236) (by decide +kernel)⟩
theorem lw_p1 : lw_okq (⟨"PitchRows$TextReader", "goesOn", "(II)Z"⟩, 4) := ⟨⟨by decide +kernel, by decide +kernel⟩, List.mem_of_getElem? (i := 140) (by decide +kernel), List.mem_of_getElem? (i := 243) (by decide +kernel), List.mem_of_getElem? (i := 244) (by decide +kernel)⟩
theorem lw_p2 : lw_okq (⟨"PitchRows$TextReader", "fitsPart", "(I)Z"⟩, 4) := ⟨⟨by decide +kernel, by decide +kernel⟩, List.mem_of_getElem? (i := 140) (by decide +kernel), List.mem_of_getElem? (i := 248) (by decide +kernel), List.mem_of_getElem? (i := 249) (by decide +kernel)⟩
theorem lw_p3 : lw_okq (⟨"PitchRows", "toldPitch", "(LPitchRows$Caller;I)I"⟩, 9) := ⟨⟨by decide +kernel, by decide +kernel⟩, List.mem_of_getElem? (i := 16) (by decide +kernel), List.mem_of_getElem? (i := 279) (by decide +kernel), List.mem_of_getElem? (i := 280) (by decide +kernel)⟩
theorem lw_p4 : lw_okq (⟨"PitchRows", "firstWrong", "(LPitchRows$Sheet;II)I"⟩, 9) := ⟨⟨by decide +kernel, by decide +kernel⟩, List.mem_of_getElem? (i := 16) (by decide +kernel), List.mem_of_getElem? (i := 371) (by decide +kernel), List.mem_of_getElem? (i := 372) (by decide +kernel)⟩
theorem lw_p5 : lw_okq (⟨"PitchRows", "afterDay", "(I)I"⟩, 9) := ⟨⟨by decide +kernel, by decide +kernel⟩, List.mem_of_getElem? (i := 16) (by decide +kernel), List.mem_of_getElem? (i := 375) (by decide +kernel), List.mem_of_getElem? (i := 376) (by decide +kernel)⟩
theorem lw_p6 : lw_okq (⟨"PitchRows", "mostListened", "(I[I)I"⟩, 9) := ⟨⟨by decide +kernel, by decide +kernel⟩, List.mem_of_getElem? (i := 16) (by decide +kernel), List.mem_of_getElem? (i := 397) (by decide +kernel), List.mem_of_getElem? (i := 398) (by decide +kernel)⟩
theorem lw_p7 : lw_okq (⟨"PitchRows$GoodRows", "keep", "()V"⟩, 4) := ⟨⟨by decide +kernel, by decide +kernel⟩, List.mem_of_getElem? (i := 120) (by decide +kernel), List.mem_of_getElem? (i := 423) (by decide +kernel), List.mem_of_getElem? (i := 424) (by decide +kernel)⟩
theorem lw_p8 : lw_okq (⟨"PitchRows$GoodRows", "codeOf", "([I)I"⟩, 4) := ⟨⟨by decide +kernel, by decide +kernel⟩, List.mem_of_getElem? (i := 120) (by decide +kernel), List.mem_of_getElem? (i := 427) (by decide +kernel), List.mem_of_getElem? (i := 428) (by decide +kernel)⟩
theorem lw_p9 : lw_okq (⟨"PitchRows$GoodRows", "isLike", "(I[I)Z"⟩, 4) := ⟨⟨by decide +kernel, by decide +kernel⟩, List.mem_of_getElem? (i := 120) (by decide +kernel), List.mem_of_getElem? (i := 439) (by decide +kernel), List.mem_of_getElem? (i := 440) (by decide +kernel)⟩
theorem lw_p10 : lw_okq (⟨"PitchRows", "keenTelling", "(LPitchRows$Caller;)I"⟩, 9) := ⟨⟨by decide +kernel, by decide +kernel⟩, List.mem_of_getElem? (i := 16) (by decide +kernel), List.mem_of_getElem? (i := 531) (by decide +kernel), List.mem_of_getElem? (i := 532) (by decide +kernel)⟩
theorem lw_p11 : lw_okq (⟨"PitchRows", "leave", "(I)V"⟩, 9) := ⟨⟨by decide +kernel, by decide +kernel⟩, List.mem_of_getElem? (i := 16) (by decide +kernel), List.mem_of_getElem? (i := 535) (by decide +kernel), List.mem_of_getElem? (i := 536) (by decide +kernel)⟩
theorem lw_p12 : lw_okq (⟨"PitchRows", "broadTelling", "(LPitchRows$Caller;)I"⟩, 9) := ⟨⟨by decide +kernel, by decide +kernel⟩, List.mem_of_getElem? (i := 16) (by decide +kernel), List.mem_of_getElem? (i := 539) (by decide +kernel), List.mem_of_getElem? (i := 540) (by decide +kernel)⟩
theorem lw_p13 : lw_okq (⟨"PitchRows", "plainTelling", "(LPitchRows$Caller;)I"⟩, 9) := ⟨⟨by decide +kernel, by decide +kernel⟩, List.mem_of_getElem? (i := 16) (by decide +kernel), List.mem_of_getElem? (i := 543) (by decide +kernel), List.mem_of_getElem? (i := 544) (by decide +kernel)⟩
theorem lw_p14 : lw_okq (⟨"PitchRows", "keenHail", "()I"⟩, 9) := ⟨⟨by decide +kernel, by decide +kernel⟩, List.mem_of_getElem? (i := 16) (by decide +kernel), List.mem_of_getElem? (i := 551) (by decide +kernel), List.mem_of_getElem? (i := 552) (by decide +kernel)⟩
theorem lw_p15 : lw_okq (⟨"PitchRows", "lentHail", "(I)I"⟩, 9) := ⟨⟨by decide +kernel, by decide +kernel⟩, List.mem_of_getElem? (i := 16) (by decide +kernel), List.mem_of_getElem? (i := 555) (by decide +kernel), List.mem_of_getElem? (i := 556) (by decide +kernel)⟩
def lw_privs_1 : List (MethodName × Nat) := [(⟨"PitchRows", "faulted", "(I)I"⟩, 9), (⟨"PitchRows$TextReader", "goesOn", "(II)Z"⟩, 4), (⟨"PitchRows$TextReader", "fitsPart", "(I)Z"⟩, 4), (⟨"PitchRows", "toldPitch", "(LPitchRows$Caller;I)I"⟩, 9), (⟨"PitchRows", "firstWrong", "(LPitchRows$Sheet;II)I"⟩, 9), (⟨"PitchRows", "afterDay", "(I)I"⟩, 9), (⟨"PitchRows", "mostListened", "(I[I)I"⟩, 9), (⟨"PitchRows$GoodRows", "keep", "()V"⟩, 4), (⟨"PitchRows$GoodRows", "codeOf", "([I)I"⟩, 4), (⟨"PitchRows$GoodRows", "isLike", "(I[I)Z"⟩, 4), (⟨"PitchRows", "keenTelling", "(LPitchRows$Caller;)I"⟩, 9), (⟨"PitchRows", "leave", "(I)V"⟩, 9), (⟨"PitchRows", "broadTelling", "(LPitchRows$Caller;)I"⟩, 9), (⟨"PitchRows", "plainTelling", "(LPitchRows$Caller;)I"⟩, 9), (⟨"PitchRows", "keenHail", "()I"⟩, 9), (⟨"PitchRows", "lentHail", "(I)I"⟩, 9)]
theorem lw_r1 : ∀ q ∈ lw_privs_1, lw_okq q := List.forall_mem_cons.mpr ⟨lw_p0, List.forall_mem_cons.mpr ⟨lw_p1, List.forall_mem_cons.mpr ⟨lw_p2, List.forall_mem_cons.mpr ⟨lw_p3, List.forall_mem_cons.mpr ⟨lw_p4, List.forall_mem_cons.mpr ⟨lw_p5, List.forall_mem_cons.mpr ⟨lw_p6, List.forall_mem_cons.mpr ⟨lw_p7, List.forall_mem_cons.mpr ⟨lw_p8, List.forall_mem_cons.mpr ⟨lw_p9, List.forall_mem_cons.mpr ⟨lw_p10, List.forall_mem_cons.mpr ⟨lw_p11, List.forall_mem_cons.mpr ⟨lw_p12, List.forall_mem_cons.mpr ⟨lw_p13, List.forall_mem_cons.mpr ⟨lw_p14, List.forall_mem_cons.mpr ⟨lw_p15, fun _ h => absurd h List.not_mem_nil⟩⟩⟩⟩⟩⟩⟩⟩⟩⟩⟩⟩⟩⟩⟩⟩
theorem lw_p16 : lw_okq (⟨"PitchRowsModel", "refused", "(I)I"⟩, 33) := ⟨⟨by decide +kernel, by decide +kernel⟩, List.mem_of_getElem? (i := 580) (by decide +kernel), List.mem_of_getElem? (i := 697) (by decide +kernel), List.mem_of_getElem? (i := 698) (by decide +kernel)⟩
theorem lw_p17 : lw_okq (⟨"PitchRowsModel", "cellsBarred", "(IIIJ)I"⟩, 33) := ⟨⟨by decide +kernel, by decide +kernel⟩, List.mem_of_getElem? (i := 580) (by decide +kernel), List.mem_of_getElem? (i := 702) (by decide +kernel), List.mem_of_getElem? (i := 703) (by decide +kernel)⟩
theorem lw_p18 : lw_okq (⟨"PitchRowsModel", "failed", "(I)I"⟩, 33) := ⟨⟨by decide +kernel, by decide +kernel⟩, List.mem_of_getElem? (i := 580) (by decide +kernel), List.mem_of_getElem? (i := 706) (by decide +kernel), List.mem_of_getElem? (i := 707) (by decide +kernel)⟩
theorem lw_p19 : lw_okq (⟨"PitchRowsModel", "readsCallers", "(II)Z"⟩, 33) := ⟨⟨by decide +kernel, by decide +kernel⟩, List.mem_of_getElem? (i := 580) (by decide +kernel), List.mem_of_getElem? (i := 713) (by decide +kernel), List.mem_of_getElem? (i := 714) (by decide +kernel)⟩
theorem lw_p20 : lw_okq (⟨"PitchRowsModel", "codeAt", "(II)I"⟩, 33) := ⟨⟨by decide +kernel, by decide +kernel⟩, List.mem_of_getElem? (i := 580) (by decide +kernel), List.mem_of_getElem? (i := 717) (by decide +kernel), List.mem_of_getElem? (i := 718) (by decide +kernel)⟩
theorem lw_p21 : lw_okq (⟨"PitchRowsModel", "readsCaller", "(II)Z"⟩, 33) := ⟨⟨by decide +kernel, by decide +kernel⟩, List.mem_of_getElem? (i := 580) (by decide +kernel), List.mem_of_getElem? (i := 722) (by decide +kernel), List.mem_of_getElem? (i := 723) (by decide +kernel)⟩
theorem lw_p22 : lw_okq (⟨"PitchRowsModel", "readsSign", "(III)Z"⟩, 33) := ⟨⟨by decide +kernel, by decide +kernel⟩, List.mem_of_getElem? (i := 580) (by decide +kernel), List.mem_of_getElem? (i := 726) (by decide +kernel), List.mem_of_getElem? (i := 727) (by decide +kernel)⟩
theorem lw_p23 : lw_okq (⟨"PitchRowsModel", "noCaller", "(I)Z"⟩, 33) := ⟨⟨by decide +kernel, by decide +kernel⟩, List.mem_of_getElem? (i := 580) (by decide +kernel), List.mem_of_getElem? (i := 735) (by decide +kernel), List.mem_of_getElem? (i := 736) (by decide +kernel)⟩
theorem lw_p24 : lw_okq (⟨"PitchRowsModel", "noBeat", "(I)Z"⟩, 33) := ⟨⟨by decide +kernel, by decide +kernel⟩, List.mem_of_getElem? (i := 580) (by decide +kernel), List.mem_of_getElem? (i := 741) (by decide +kernel), List.mem_of_getElem? (i := 742) (by decide +kernel)⟩
theorem lw_p25 : lw_okq (⟨"PitchRowsModel", "pitch", "(II)I"⟩, 33) := ⟨⟨by decide +kernel, by decide +kernel⟩, List.mem_of_getElem? (i := 580) (by decide +kernel), List.mem_of_getElem? (i := 745) (by decide +kernel), List.mem_of_getElem? (i := 746) (by decide +kernel)⟩
theorem lw_p26 : lw_okq (⟨"PitchRowsModel", "freeOf", "(I)I"⟩, 33) := ⟨⟨by decide +kernel, by decide +kernel⟩, List.mem_of_getElem? (i := 580) (by decide +kernel), List.mem_of_getElem? (i := 749) (by decide +kernel), List.mem_of_getElem? (i := 750) (by decide +kernel)⟩
theorem lw_p27 : lw_okq (⟨"PitchRowsModel", "goodNow", "(I)I"⟩, 33) := ⟨⟨by decide +kernel, by decide +kernel⟩, List.mem_of_getElem? (i := 580) (by decide +kernel), List.mem_of_getElem? (i := 753) (by decide +kernel), List.mem_of_getElem? (i := 754) (by decide +kernel)⟩
theorem lw_p28 : lw_okq (⟨"PitchRowsModel", "triesThoseOf", "(I)V"⟩, 33) := ⟨⟨by decide +kernel, by decide +kernel⟩, List.mem_of_getElem? (i := 580) (by decide +kernel), List.mem_of_getElem? (i := 757) (by decide +kernel), List.mem_of_getElem? (i := 758) (by decide +kernel)⟩
theorem lw_p29 : lw_okq (⟨"PitchRowsModel", "isGood", "()Z"⟩, 33) := ⟨⟨by decide +kernel, by decide +kernel⟩, List.mem_of_getElem? (i := 580) (by decide +kernel), List.mem_of_getElem? (i := 761) (by decide +kernel), List.mem_of_getElem? (i := 762) (by decide +kernel)⟩
theorem lw_p30 : lw_okq (⟨"PitchRowsModel", "areUnlike", "()Z"⟩, 33) := ⟨⟨by decide +kernel, by decide +kernel⟩, List.mem_of_getElem? (i := 580) (by decide +kernel), List.mem_of_getElem? (i := 765) (by decide +kernel), List.mem_of_getElem? (i := 766) (by decide +kernel)⟩
theorem lw_p31 : lw_okq (⟨"PitchRowsModel", "heardBy", "(IIII)I"⟩, 33) := ⟨⟨by decide +kernel, by decide +kernel⟩, List.mem_of_getElem? (i := 580) (by decide +kernel), List.mem_of_getElem? (i := 786) (by decide +kernel), List.mem_of_getElem? (i := 787) (by decide +kernel)⟩
def lw_privs_2 : List (MethodName × Nat) := [(⟨"PitchRowsModel", "refused", "(I)I"⟩, 33), (⟨"PitchRowsModel", "cellsBarred", "(IIIJ)I"⟩, 33), (⟨"PitchRowsModel", "failed", "(I)I"⟩, 33), (⟨"PitchRowsModel", "readsCallers", "(II)Z"⟩, 33), (⟨"PitchRowsModel", "codeAt", "(II)I"⟩, 33), (⟨"PitchRowsModel", "readsCaller", "(II)Z"⟩, 33), (⟨"PitchRowsModel", "readsSign", "(III)Z"⟩, 33), (⟨"PitchRowsModel", "noCaller", "(I)Z"⟩, 33), (⟨"PitchRowsModel", "noBeat", "(I)Z"⟩, 33), (⟨"PitchRowsModel", "pitch", "(II)I"⟩, 33), (⟨"PitchRowsModel", "freeOf", "(I)I"⟩, 33), (⟨"PitchRowsModel", "goodNow", "(I)I"⟩, 33), (⟨"PitchRowsModel", "triesThoseOf", "(I)V"⟩, 33), (⟨"PitchRowsModel", "isGood", "()Z"⟩, 33), (⟨"PitchRowsModel", "areUnlike", "()Z"⟩, 33), (⟨"PitchRowsModel", "heardBy", "(IIII)I"⟩, 33)]
theorem lw_r2 : ∀ q ∈ lw_privs_2, lw_okq q := List.forall_mem_cons.mpr ⟨lw_p16, List.forall_mem_cons.mpr ⟨lw_p17, List.forall_mem_cons.mpr ⟨lw_p18, List.forall_mem_cons.mpr ⟨lw_p19, List.forall_mem_cons.mpr ⟨lw_p20, List.forall_mem_cons.mpr ⟨lw_p21, List.forall_mem_cons.mpr ⟨lw_p22, List.forall_mem_cons.mpr ⟨lw_p23, List.forall_mem_cons.mpr ⟨lw_p24, List.forall_mem_cons.mpr ⟨lw_p25, List.forall_mem_cons.mpr ⟨lw_p26, List.forall_mem_cons.mpr ⟨lw_p27, List.forall_mem_cons.mpr ⟨lw_p28, List.forall_mem_cons.mpr ⟨lw_p29, List.forall_mem_cons.mpr ⟨lw_p30, List.forall_mem_cons.mpr ⟨lw_p31, fun _ h => absurd h List.not_mem_nil⟩⟩⟩⟩⟩⟩⟩⟩⟩⟩⟩⟩⟩⟩⟩⟩
theorem lw_p32 : lw_okq (⟨"PitchRowsModel", "counts", "(III)I"⟩, 33) := ⟨⟨by decide +kernel, by decide +kernel⟩, List.mem_of_getElem? (i := 580) (by decide +kernel), List.mem_of_getElem? (i := 790) (by decide +kernel), List.mem_of_getElem? (i := 791) (by decide +kernel)⟩
theorem lw_p33 : lw_okq (⟨"PitchRowsModel", "sends", "(III)Z"⟩, 33) := ⟨⟨by decide +kernel, by decide +kernel⟩, List.mem_of_getElem? (i := 580) (by decide +kernel), List.mem_of_getElem? (i := 799) (by decide +kernel), List.mem_of_getElem? (i := 800) (by decide +kernel)⟩
theorem lw_p34 : lw_okq (⟨"PitchRowsModel", "airOf", "(I)I"⟩, 33) := ⟨⟨by decide +kernel, by decide +kernel⟩, List.mem_of_getElem? (i := 580) (by decide +kernel), List.mem_of_getElem? (i := 815) (by decide +kernel), List.mem_of_getElem? (i := 816) (by decide +kernel)⟩
theorem lw_p35 : lw_okq (⟨"PitchRowsModel", "listensTo", "(II)I"⟩, 33) := ⟨⟨by decide +kernel, by decide +kernel⟩, List.mem_of_getElem? (i := 580) (by decide +kernel), List.mem_of_getElem? (i := 823) (by decide +kernel), List.mem_of_getElem? (i := 824) (by decide +kernel)⟩
theorem lw_p36 : lw_okq (⟨"PitchRowsModel", "countsOfAll", "(III)I"⟩, 33) := ⟨⟨by decide +kernel, by decide +kernel⟩, List.mem_of_getElem? (i := 580) (by decide +kernel), List.mem_of_getElem? (i := 827) (by decide +kernel), List.mem_of_getElem? (i := 828) (by decide +kernel)⟩
theorem lw_p37 : lw_okq (⟨"PitchRowsModel", "loudestOf", "(I)I"⟩, 33) := ⟨⟨by decide +kernel, by decide +kernel⟩, List.mem_of_getElem? (i := 580) (by decide +kernel), List.mem_of_getElem? (i := 835) (by decide +kernel), List.mem_of_getElem? (i := 836) (by decide +kernel)⟩
theorem lw_p38 : lw_okq (⟨"PitchRowsModel", "dayOf", "(III)I"⟩, 33) := ⟨⟨by decide +kernel, by decide +kernel⟩, List.mem_of_getElem? (i := 580) (by decide +kernel), List.mem_of_getElem? (i := 849) (by decide +kernel), List.mem_of_getElem? (i := 850) (by decide +kernel)⟩
theorem lw_p39 : lw_okq (⟨"PitchRowsModel", "doesPair", "(II)Z"⟩, 33) := ⟨⟨by decide +kernel, by decide +kernel⟩, List.mem_of_getElem? (i := 580) (by decide +kernel), List.mem_of_getElem? (i := 853) (by decide +kernel), List.mem_of_getElem? (i := 854) (by decide +kernel)⟩
theorem lw_p40 : lw_okq (⟨"PitchRowsModel", "manyThatSound", "()I"⟩, 33) := ⟨⟨by decide +kernel, by decide +kernel⟩, List.mem_of_getElem? (i := 580) (by decide +kernel), List.mem_of_getElem? (i := 857) (by decide +kernel), List.mem_of_getElem? (i := 858) (by decide +kernel)⟩
theorem lw_p41 : lw_okq (⟨"PitchRowsModel", "lastThatSounds", "()I"⟩, 33) := ⟨⟨by decide +kernel, by decide +kernel⟩, List.mem_of_getElem? (i := 580) (by decide +kernel), List.mem_of_getElem? (i := 861) (by decide +kernel), List.mem_of_getElem? (i := 862) (by decide +kernel)⟩
theorem lw_p42 : lw_okq (⟨"PitchRowsModel", "firstOfTwo", "()I"⟩, 33) := ⟨⟨by decide +kernel, by decide +kernel⟩, List.mem_of_getElem? (i := 580) (by decide +kernel), List.mem_of_getElem? (i := 865) (by decide +kernel), List.mem_of_getElem? (i := 866) (by decide +kernel)⟩
theorem lw_p43 : lw_okq (⟨"PitchRowsModel", "peaks", "(I)V"⟩, 33) := ⟨⟨by decide +kernel, by decide +kernel⟩, List.mem_of_getElem? (i := 580) (by decide +kernel), List.mem_of_getElem? (i := 873) (by decide +kernel), List.mem_of_getElem? (i := 874) (by decide +kernel)⟩
theorem lw_p44 : lw_okq (⟨"PitchRowsModel", "triesFirst", "()V"⟩, 33) := ⟨⟨by decide +kernel, by decide +kernel⟩, List.mem_of_getElem? (i := 580) (by decide +kernel), List.mem_of_getElem? (i := 885) (by decide +kernel), List.mem_of_getElem? (i := 886) (by decide +kernel)⟩
theorem lw_p45 : lw_okq (⟨"PitchRowsModel", "triesNext", "()Z"⟩, 33) := ⟨⟨by decide +kernel, by decide +kernel⟩, List.mem_of_getElem? (i := 580) (by decide +kernel), List.mem_of_getElem? (i := 889) (by decide +kernel), List.mem_of_getElem? (i := 890) (by decide +kernel)⟩
theorem lw_p46 : lw_okq (⟨"PitchRowsModel", "hasThoseOf", "(I)Z"⟩, 33) := ⟨⟨by decide +kernel, by decide +kernel⟩, List.mem_of_getElem? (i := 580) (by decide +kernel), List.mem_of_getElem? (i := 897) (by decide +kernel), List.mem_of_getElem? (i := 898) (by decide +kernel)⟩
theorem lw_p47 : lw_okq (⟨"PitchRowsModel", "areSo", "()Z"⟩, 33) := ⟨⟨by decide +kernel, by decide +kernel⟩, List.mem_of_getElem? (i := 580) (by decide +kernel), List.mem_of_getElem? (i := 917) (by decide +kernel), List.mem_of_getElem? (i := 918) (by decide +kernel)⟩
def lw_privs_3 : List (MethodName × Nat) := [(⟨"PitchRowsModel", "counts", "(III)I"⟩, 33), (⟨"PitchRowsModel", "sends", "(III)Z"⟩, 33), (⟨"PitchRowsModel", "airOf", "(I)I"⟩, 33), (⟨"PitchRowsModel", "listensTo", "(II)I"⟩, 33), (⟨"PitchRowsModel", "countsOfAll", "(III)I"⟩, 33), (⟨"PitchRowsModel", "loudestOf", "(I)I"⟩, 33), (⟨"PitchRowsModel", "dayOf", "(III)I"⟩, 33), (⟨"PitchRowsModel", "doesPair", "(II)Z"⟩, 33), (⟨"PitchRowsModel", "manyThatSound", "()I"⟩, 33), (⟨"PitchRowsModel", "lastThatSounds", "()I"⟩, 33), (⟨"PitchRowsModel", "firstOfTwo", "()I"⟩, 33), (⟨"PitchRowsModel", "peaks", "(I)V"⟩, 33), (⟨"PitchRowsModel", "triesFirst", "()V"⟩, 33), (⟨"PitchRowsModel", "triesNext", "()Z"⟩, 33), (⟨"PitchRowsModel", "hasThoseOf", "(I)Z"⟩, 33), (⟨"PitchRowsModel", "areSo", "()Z"⟩, 33)]
theorem lw_r3 : ∀ q ∈ lw_privs_3, lw_okq q := List.forall_mem_cons.mpr ⟨lw_p32, List.forall_mem_cons.mpr ⟨lw_p33, List.forall_mem_cons.mpr ⟨lw_p34, List.forall_mem_cons.mpr ⟨lw_p35, List.forall_mem_cons.mpr ⟨lw_p36, List.forall_mem_cons.mpr ⟨lw_p37, List.forall_mem_cons.mpr ⟨lw_p38, List.forall_mem_cons.mpr ⟨lw_p39, List.forall_mem_cons.mpr ⟨lw_p40, List.forall_mem_cons.mpr ⟨lw_p41, List.forall_mem_cons.mpr ⟨lw_p42, List.forall_mem_cons.mpr ⟨lw_p43, List.forall_mem_cons.mpr ⟨lw_p44, List.forall_mem_cons.mpr ⟨lw_p45, List.forall_mem_cons.mpr ⟨lw_p46, List.forall_mem_cons.mpr ⟨lw_p47, fun _ h => absurd h List.not_mem_nil⟩⟩⟩⟩⟩⟩⟩⟩⟩⟩⟩⟩⟩⟩⟩⟩
theorem lw_p48 : lw_okq (⟨"PitchRowsModel", "noCell", "(II)I"⟩, 33) := ⟨⟨by decide +kernel, by decide +kernel⟩, List.mem_of_getElem? (i := 580) (by decide +kernel), List.mem_of_getElem? (i := 949) (by decide +kernel), List.mem_of_getElem? (i := 950) (by decide +kernel)⟩
theorem lw_p49 : lw_okq (⟨"PitchRowsModel", "failedLong", "(I)J"⟩, 33) := ⟨⟨by decide +kernel, by decide +kernel⟩, List.mem_of_getElem? (i := 580) (by decide +kernel), List.mem_of_getElem? (i := 957) (by decide +kernel), List.mem_of_getElem? (i := 958) (by decide +kernel)⟩
theorem lw_p50 : lw_okq (⟨"PitchRowsModel", "traced", "(I)V"⟩, 33) := ⟨⟨by decide +kernel, by decide +kernel⟩, List.mem_of_getElem? (i := 580) (by decide +kernel), List.mem_of_getElem? (i := 969) (by decide +kernel), List.mem_of_getElem? (i := 970) (by decide +kernel)⟩
def lw_privs_4 : List (MethodName × Nat) := [(⟨"PitchRowsModel", "noCell", "(II)I"⟩, 33), (⟨"PitchRowsModel", "failedLong", "(I)J"⟩, 33), (⟨"PitchRowsModel", "traced", "(I)V"⟩, 33)]
theorem lw_r4 : ∀ q ∈ lw_privs_4, lw_okq q := List.forall_mem_cons.mpr ⟨lw_p48, List.forall_mem_cons.mpr ⟨lw_p49, List.forall_mem_cons.mpr ⟨lw_p50, fun _ h => absurd h List.not_mem_nil⟩⟩⟩
def lw_privs : List (MethodName × Nat) := lw_privs_1 ++ (lw_privs_2 ++ (lw_privs_3 ++ (lw_privs_4)))
def lw_tbl : List Cond := k2_sels lw_privs ++ tables_1
theorem lw_privs_ok : ∀ q ∈ lw_privs, lw_okq q := by
  show ∀ q ∈ lw_privs_1 ++ (lw_privs_2 ++ (lw_privs_3 ++ (lw_privs_4))), lw_okq q
  exact List.forall_mem_append.mpr ⟨lw_r1, List.forall_mem_append.mpr ⟨lw_r2, List.forall_mem_append.mpr ⟨lw_r3, lw_r4⟩⟩⟩
-- ===== end of PART A; then your names; then what follows =====
-- names
def RX0 : String := "PitchRows$Air"
def TX0 : u_T := fun k => match k with
  | 0 => ("PitchRows$Numbered", "count", "I", false)
  | 1 => ("PitchRows$Air", "whose", "[I", true)
  | 2 => ("PitchRows$Air", "moment", "[I", true)
  | 3 => ("PitchRows$Air", "high", "[I", true)
  | _ => ("PitchRows$Air", "sounds", "[I", true)
def tyX0 : Nat → FieldType := fun k => match k with
  | 0 => .int
  | 1 => .array .int
  | 2 => .array .int
  | 3 => .array .int
  | _ => .array .int
abbrev wsX00 : List Cond := u_ws RX0 TX0 5
theorem nmX0 : ∀ a, a < 5 → ∀ b, b < 5 → a ≠ b → (TX0 a).2.1 ≠ (TX0 b).2.1 := by decide +kernel
theorem tyX0_ok : ∀ k, k < 5 → parseFieldDescriptor (TX0 k).2.2.1 = some (tyX0 k) := by decide +kernel
abbrev cX0_init : ByteArray := prog_2_method_1_code
def yX0_init : MethodName := ⟨RX0, "<init>", "()V"⟩
abbrev cX0_add : ByteArray := prog_2_method_2_code
def yX0_add : MethodName := ⟨RX0, "add", "(III)Z"⟩
abbrev cX0_becomeLike : ByteArray := prog_2_method_3_code
def yX0_becomeLike : MethodName := ⟨RX0, "becomeLike", "(LPitchRows$Air;)V"⟩
abbrev cX0_sound : ByteArray := prog_2_method_4_code
def yX0_sound : MethodName := ⟨RX0, "sound", "(LPitchRows$Choir;)V"⟩
abbrev cX0_soundingMoments : ByteArray := prog_2_method_5_code
def yX0_soundingMoments : MethodName := ⟨RX0, "soundingMoments", "()I"⟩
abbrev cX0_lastSounding : ByteArray := prog_2_method_6_code
def yX0_lastSounding : MethodName := ⟨RX0, "lastSounding", "()I"⟩
abbrev cX0_firstOfTwo : ByteArray := prog_2_method_7_code
def yX0_firstOfTwo : MethodName := ⟨RX0, "firstOfTwo", "()I"⟩
def RX1 : String := "PitchRows$Caller"
def TX1 : u_T := fun k => match k with
  | 0 => ("PitchRows$Caller", "kind", "I", false)
  | _ => ("PitchRows$Caller", "pitch", "[I", true)
def tyX1 : Nat → FieldType := fun k => match k with
  | 0 => .int
  | _ => .array .int
abbrev wsX10 : List Cond := u_ws RX1 TX1 2
theorem nmX1 : ∀ a, a < 2 → ∀ b, b < 2 → a ≠ b → (TX1 a).2.1 ≠ (TX1 b).2.1 := by decide +kernel
theorem tyX1_ok : ∀ k, k < 2 → parseFieldDescriptor (TX1 k).2.2.1 = some (tyX1 k) := by decide +kernel
abbrev cX1_init : ByteArray := prog_3_method_1_code
def yX1_init : MethodName := ⟨RX1, "<init>", "()V"⟩
abbrev cX1_freeBeats : ByteArray := prog_3_method_2_code
def yX1_freeBeats : MethodName := ⟨RX1, "freeBeats", "(I)I"⟩
abbrev cX1_counted : ByteArray := prog_3_method_3_code
def yX1_counted : MethodName := ⟨RX1, "counted", "(ZZ)I"⟩
def RX2 : String := "PitchRows$Choir"
def TX2 : u_T := fun k => match k with
  | 0 => ("PitchRows$Choir", "callers", "[LPitchRows$Caller;", true)
  | 1 => ("PitchRows$Choir", "count", "I", false)
  | _ => ("PitchRows$Choir", "beats", "I", false)
def tyX2 : Nat → FieldType := fun k => match k with
  | 0 => .array (.object "PitchRows$Caller")
  | 1 => .int
  | _ => .int
abbrev wsX20 : List Cond := u_ws RX2 TX2 3
theorem nmX2 : ∀ a, a < 3 → ∀ b, b < 3 → a ≠ b → (TX2 a).2.1 ≠ (TX2 b).2.1 := by decide +kernel
theorem tyX2_ok : ∀ k, k < 3 → parseFieldDescriptor (TX2 k).2.2.1 = some (tyX2 k) := by decide +kernel
abbrev cX2_init : ByteArray := prog_4_method_1_code
def yX2_init : MethodName := ⟨RX2, "<init>", "()V"⟩
abbrev cX2_has : ByteArray := prog_4_method_2_code
def yX2_has : MethodName := ⟨RX2, "has", "(I)Z"⟩
abbrev cX2_hasBeat : ByteArray := prog_4_method_3_code
def yX2_hasBeat : MethodName := ⟨RX2, "hasBeat", "(I)Z"⟩
abbrev cX2_freeBeatsOfAll : ByteArray := prog_4_method_4_code
def yX2_freeBeatsOfAll : MethodName := ⟨RX2, "freeBeatsOfAll", "()I"⟩
abbrev cX2_take : ByteArray := prog_4_method_5_code
def yX2_take : MethodName := ⟨RX2, "take", "(LPitchRows$Sheet;II)V"⟩
abbrev cX2_heard : ByteArray := prog_4_method_6_code
def yX2_heard : MethodName := ⟨RX2, "heard", "(IIII)I"⟩
abbrev cX2_listened : ByteArray := prog_4_method_7_code
def yX2_listened : MethodName := ⟨RX2, "listened", "(I[II)I"⟩
abbrev cX2_loudestMoment : ByteArray := prog_4_method_8_code
def yX2_loudestMoment : MethodName := ⟨RX2, "loudestMoment", "(I[I)I"⟩
def RX3 : String := "PitchRows$GoodRows"
def TX3 : u_T := fun k => match k with
  | 0 => ("PitchRows$GoodRows", "beats", "I", false)
  | 1 => ("PitchRows$GoodRows", "count", "I", false)
  | 2 => ("PitchRows$GoodRows", "codes", "[I", true)
  | _ => ("PitchRows$GoodRows", "row", "[I", true)
def tyX3 : Nat → FieldType := fun k => match k with
  | 0 => .int
  | 1 => .int
  | 2 => .array .int
  | _ => .array .int
abbrev wsX30 : List Cond := u_ws RX3 TX3 4
theorem nmX3 : ∀ a, a < 4 → ∀ b, b < 4 → a ≠ b → (TX3 a).2.1 ≠ (TX3 b).2.1 := by decide +kernel
theorem tyX3_ok : ∀ k, k < 4 → parseFieldDescriptor (TX3 k).2.2.1 = some (tyX3 k) := by decide +kernel
abbrev cX3_init : ByteArray := prog_5_method_1_code
def yX3_init : MethodName := ⟨RX3, "<init>", "()V"⟩
abbrev cX3_makeFor : ByteArray := prog_5_method_2_code
def yX3_makeFor : MethodName := ⟨RX3, "makeFor", "(I)V"⟩
abbrev cX3_grow : ByteArray := prog_5_method_3_code
def yX3_grow : MethodName := ⟨RX3, "grow", "(LPitchRows$GoodRows;I)V"⟩
abbrev cX3_keep : ByteArray := prog_5_method_4_code
def yX3_keep : MethodName := ⟨RX3, "keep", "()V"⟩
abbrev cX3_isGood : ByteArray := prog_5_method_5_code
def yX3_isGood : MethodName := ⟨RX3, "isGood", "([II)Z"⟩
abbrev cX3_staysGood : ByteArray := prog_5_method_6_code
def yX3_staysGood : MethodName := ⟨RX3, "staysGood", "([II)Z"⟩
abbrev cX3_codeOf : ByteArray := prog_5_method_7_code
def yX3_codeOf : MethodName := ⟨RX3, "codeOf", "([I)I"⟩
abbrev cX3_pitchOf : ByteArray := prog_5_method_8_code
def yX3_pitchOf : MethodName := ⟨RX3, "pitchOf", "(II)I"⟩
abbrev cX3_isLike : ByteArray := prog_5_method_9_code
def yX3_isLike : MethodName := ⟨RX3, "isLike", "(I[I)Z"⟩
abbrev cX3_countLike : ByteArray := prog_5_method_10_code
def yX3_countLike : MethodName := ⟨RX3, "countLike", "([I)I"⟩
abbrev cX3_firstLike : ByteArray := prog_5_method_11_code
def yX3_firstLike : MethodName := ⟨RX3, "firstLike", "([I)I"⟩
abbrev cX3_firstBehind : ByteArray := prog_5_method_12_code
def yX3_firstBehind : MethodName := ⟨RX3, "firstBehind", "([I)I"⟩
def RX4 : String := "PitchRows$Numbered"
def TX4 : u_T := fun k => match k with
  | _ => ("", "", "", false)
def tyX4 : Nat → FieldType := fun k => match k with
  | _ => .int
abbrev wsX40 : List Cond := u_ws RX4 TX4 0
theorem nmX4 : ∀ a, a < 0 → ∀ b, b < 0 → a ≠ b → (TX4 a).2.1 ≠ (TX4 b).2.1 := by decide +kernel
theorem tyX4_ok : ∀ k, k < 0 → parseFieldDescriptor (TX4 k).2.2.1 = some (tyX4 k) := by decide +kernel
abbrev cX4_init : ByteArray := prog_6_method_1_code
def yX4_init : MethodName := ⟨RX4, "<init>", "()V"⟩
abbrev cX4_takeBack : ByteArray := prog_6_method_2_code
def yX4_takeBack : MethodName := ⟨RX4, "takeBack", "(I)Z"⟩
def RX5 : String := "PitchRows$Readings"
def TX5 : u_T := fun k => match k with
  | 0 => ("PitchRows$Numbered", "count", "I", false)
  | 1 => ("PitchRows$Readings", "hearer", "[I", true)
  | 2 => ("PitchRows$Readings", "whose", "[I", true)
  | 3 => ("PitchRows$Readings", "late", "[I", true)
  | 4 => ("PitchRows$Readings", "high", "[I", true)
  | _ => ("PitchRows$Readings", "heard", "[I", true)
def tyX5 : Nat → FieldType := fun k => match k with
  | 0 => .int
  | 1 => .array .int
  | 2 => .array .int
  | 3 => .array .int
  | 4 => .array .int
  | _ => .array .int
abbrev wsX50 : List Cond := u_ws RX5 TX5 6
theorem nmX5 : ∀ a, a < 6 → ∀ b, b < 6 → a ≠ b → (TX5 a).2.1 ≠ (TX5 b).2.1 := by decide +kernel
theorem tyX5_ok : ∀ k, k < 6 → parseFieldDescriptor (TX5 k).2.2.1 = some (tyX5 k) := by decide +kernel
abbrev cX5_init : ByteArray := prog_7_method_1_code
def yX5_init : MethodName := ⟨RX5, "<init>", "()V"⟩
abbrev cX5_add : ByteArray := prog_7_method_2_code
def yX5_add : MethodName := ⟨RX5, "add", "(IIIII)Z"⟩
abbrev cX5_areSo : ByteArray := prog_7_method_3_code
def yX5_areSo : MethodName := ⟨RX5, "areSo", "(LPitchRows$Choir;)Z"⟩
def RX6 : String := "PitchRows$Sheet"
def TX6 : u_T := fun k => match k with
  | 0 => ("PitchRows$Sheet", "hasRow", "Z", false)
  | 1 => ("PitchRows$Sheet", "lane", "I", false)
  | 2 => ("PitchRows$Sheet", "length", "I", false)
  | _ => ("PitchRows$Sheet", "cells", "[I", true)
def tyX6 : Nat → FieldType := fun k => match k with
  | 0 => .boolean
  | 1 => .int
  | 2 => .int
  | _ => .array .int
abbrev wsX60 : List Cond := u_ws RX6 TX6 4
theorem nmX6 : ∀ a, a < 4 → ∀ b, b < 4 → a ≠ b → (TX6 a).2.1 ≠ (TX6 b).2.1 := by decide +kernel
theorem tyX6_ok : ∀ k, k < 4 → parseFieldDescriptor (TX6 k).2.2.1 = some (tyX6 k) := by decide +kernel
abbrev cX6_init : ByteArray := prog_8_method_1_code
def yX6_init : MethodName := ⟨RX6, "<init>", "()V"⟩
abbrev cX6_begin : ByteArray := prog_8_method_2_code
def yX6_begin : MethodName := ⟨RX6, "begin", "(II)V"⟩
abbrev cX6_holds : ByteArray := prog_8_method_3_code
def yX6_holds : MethodName := ⟨RX6, "holds", "(II)Z"⟩
abbrev cX6_faultAs : ByteArray := prog_8_method_4_code
def yX6_faultAs : MethodName := ⟨RX6, "faultAs", "(III)I"⟩
abbrev cX6_write : ByteArray := prog_8_method_5_code
def yX6_write : MethodName := ⟨RX6, "write", "(II)V"⟩
def RX7 : String := "PitchRows$TextReader"
def TX7 : u_T := fun k => match k with
  | 0 => ("PitchRows$TextReader", "beats", "I", false)
  | 1 => ("PitchRows$TextReader", "callers", "I", false)
  | 2 => ("PitchRows$TextReader", "part", "I", false)
  | _ => ("PitchRows$TextReader", "whole", "Z", false)
def tyX7 : Nat → FieldType := fun k => match k with
  | 0 => .int
  | 1 => .int
  | 2 => .int
  | _ => .boolean
abbrev wsX70 : List Cond := u_ws RX7 TX7 4
theorem nmX7 : ∀ a, a < 4 → ∀ b, b < 4 → a ≠ b → (TX7 a).2.1 ≠ (TX7 b).2.1 := by decide +kernel
theorem tyX7_ok : ∀ k, k < 4 → parseFieldDescriptor (TX7 k).2.2.1 = some (tyX7 k) := by decide +kernel
abbrev cX7_init : ByteArray := prog_9_method_1_code
def yX7_init : MethodName := ⟨RX7, "<init>", "()V"⟩
abbrev cX7_readUpTo : ByteArray := prog_9_method_2_code
def yX7_readUpTo : MethodName := ⟨RX7, "readUpTo", "(LPitchRows$Sheet;II)I"⟩
abbrev cX7_goesOn : ByteArray := prog_9_method_3_code
def yX7_goesOn : MethodName := ⟨RX7, "goesOn", "(II)Z"⟩
abbrev cX7_fitsPart : ByteArray := prog_9_method_4_code
def yX7_fitsPart : MethodName := ⟨RX7, "fitsPart", "(I)Z"⟩
abbrev cX7_kindOf : ByteArray := prog_9_method_5_code
def yX7_kindOf : MethodName := ⟨RX7, "kindOf", "(I)I"⟩
def RX8 : String := "PitchRows"
def TX8 : u_T := fun k => match k with
  | 0 => ("PitchRows", "choir", "LPitchRows$Choir;", true)
  | 1 => ("PitchRows", "air", "LPitchRows$Air;", true)
  | 2 => ("PitchRows", "dayAir", "LPitchRows$Air;", true)
  | 3 => ("PitchRows", "readings", "LPitchRows$Readings;", true)
  | 4 => ("PitchRows", "goodRows", "LPitchRows$GoodRows;", true)
  | 5 => ("PitchRows", "reader", "LPitchRows$TextReader;", true)
  | 6 => ("PitchRows", "sheets", "[LPitchRows$Sheet;", true)
  | 7 => ("PitchRows", "trace", "I", false)
  | _ => ("PitchRows", "fault", "I", false)
def tyX8 : Nat → FieldType := fun k => match k with
  | 0 => .object "PitchRows$Choir"
  | 1 => .object "PitchRows$Air"
  | 2 => .object "PitchRows$Air"
  | 3 => .object "PitchRows$Readings"
  | 4 => .object "PitchRows$GoodRows"
  | 5 => .object "PitchRows$TextReader"
  | 6 => .array (.object "PitchRows$Sheet")
  | 7 => .int
  | _ => .int
abbrev wsX80 : List Cond := u_ws RX8 TX8 9
theorem nmX8 : ∀ a, a < 9 → ∀ b, b < 9 → a ≠ b → (TX8 a).2.1 ≠ (TX8 b).2.1 := by decide +kernel
theorem tyX8_ok : ∀ k, k < 9 → parseFieldDescriptor (TX8 k).2.2.1 = some (tyX8 k) := by decide +kernel
abbrev cX8_init : ByteArray := prog_1_method_1_code
def yX8_init : MethodName := ⟨RX8, "<init>", "()V"⟩
abbrev cX8_callers : ByteArray := prog_1_method_2_code
def yX8_callers : MethodName := ⟨RX8, "callers", "(IIII)I"⟩
abbrev cX8_ofCaller : ByteArray := prog_1_method_3_code
def yX8_ofCaller : MethodName := ⟨RX8, "ofCaller", "(II)I"⟩
abbrev cX8_tune : ByteArray := prog_1_method_4_code
def yX8_tune : MethodName := ⟨RX8, "tune", "(III)I"⟩
abbrev cX8_hears : ByteArray := prog_1_method_5_code
def yX8_hears : MethodName := ⟨RX8, "hears", "(IIII)I"⟩
abbrev cX8_send : ByteArray := prog_1_method_6_code
def yX8_send : MethodName := ⟨RX8, "send", "(III)I"⟩
abbrev cX8_unsend : ByteArray := prog_1_method_7_code
def yX8_unsend : MethodName := ⟨RX8, "unsend", "(I)I"⟩
abbrev cX8_air : ByteArray := prog_1_method_8_code
def yX8_air : MethodName := ⟨RX8, "air", "(I)I"⟩
abbrev cX8_listen : ByteArray := prog_1_method_9_code
def yX8_listen : MethodName := ⟨RX8, "listen", "(II)I"⟩
abbrev cX8_loudest : ByteArray := prog_1_method_10_code
def yX8_loudest : MethodName := ⟨RX8, "loudest", "(II)I"⟩
abbrev cX8_day : ByteArray := prog_1_method_11_code
def yX8_day : MethodName := ⟨RX8, "day", "(IIIII)I"⟩
abbrev cX8_peak : ByteArray := prog_1_method_12_code
def yX8_peak : MethodName := ⟨RX8, "peak", "(II)I"⟩
abbrev cX8_clash : ByteArray := prog_1_method_13_code
def yX8_clash : MethodName := ⟨RX8, "clash", "(II)I"⟩
abbrev cX8_rows : ByteArray := prog_1_method_14_code
def yX8_rows : MethodName := ⟨RX8, "rows", "()I"⟩
abbrev cX8_ways : ByteArray := prog_1_method_15_code
def yX8_ways : MethodName := ⟨RX8, "ways", "(II)I"⟩
abbrev cX8_next : ByteArray := prog_1_method_16_code
def yX8_next : MethodName := ⟨RX8, "next", "(II)I"⟩
abbrev cX8_reading : ByteArray := prog_1_method_17_code
def yX8_reading : MethodName := ⟨RX8, "reading", "(IIIII)I"⟩
abbrev cX8_back : ByteArray := prog_1_method_18_code
def yX8_back : MethodName := ⟨RX8, "back", "(I)I"⟩
abbrev cX8_kinds : ByteArray := prog_1_method_19_code
def yX8_kinds : MethodName := ⟨RX8, "kinds", "(I)I"⟩
abbrev cX8_pitches : ByteArray := prog_1_method_20_code
def yX8_pitches : MethodName := ⟨RX8, "pitches", "(II)I"⟩
abbrev cX8_odds : ByteArray := prog_1_method_21_code
def yX8_odds : MethodName := ⟨RX8, "odds", "(III)J"⟩
abbrev cX8_sheet : ByteArray := prog_1_method_22_code
def yX8_sheet : MethodName := ⟨RX8, "sheet", "(III)I"⟩
abbrev cX8_lose : ByteArray := prog_1_method_23_code
def yX8_lose : MethodName := ⟨RX8, "lose", "(I)I"⟩
abbrev cX8_put : ByteArray := prog_1_method_24_code
def yX8_put : MethodName := ⟨RX8, "put", "(III)I"⟩
abbrev cX8_cell : ByteArray := prog_1_method_25_code
def yX8_cell : MethodName := ⟨RX8, "cell", "(III)J"⟩
abbrev cX8_copy : ByteArray := prog_1_method_26_code
def yX8_copy : MethodName := ⟨RX8, "copy", "(IIIII)I"⟩
abbrev cX8_tell : ByteArray := prog_1_method_27_code
def yX8_tell : MethodName := ⟨RX8, "tell", "(I)I"⟩
abbrev cX8_hail : ByteArray := prog_1_method_28_code
def yX8_hail : MethodName := ⟨RX8, "hail", "(I)I"⟩
abbrev cX8_as : ByteArray := prog_1_method_29_code
def yX8_as : MethodName := ⟨RX8, "as", "(II)I"⟩
abbrev cX8_trace : ByteArray := prog_1_method_30_code
def yX8_trace : MethodName := ⟨RX8, "trace", "()I"⟩
abbrev cX8_fault : ByteArray := prog_1_method_31_code
def yX8_fault : MethodName := ⟨RX8, "fault", "()I"⟩
abbrev cX8_many : ByteArray := prog_1_method_32_code
def yX8_many : MethodName := ⟨RX8, "many", "(I)I"⟩
abbrev cX8_isWithin : ByteArray := prog_1_method_33_code
def yX8_isWithin : MethodName := ⟨RX8, "isWithin", "(III)Z"⟩
abbrev cX8_isShift : ByteArray := prog_1_method_34_code
def yX8_isShift : MethodName := ⟨RX8, "isShift", "(I)Z"⟩
abbrev cX8_isSheet : ByteArray := prog_1_method_35_code
def yX8_isSheet : MethodName := ⟨RX8, "isSheet", "(I)Z"⟩
abbrev cX8_isLane : ByteArray := prog_1_method_36_code
def yX8_isLane : MethodName := ⟨RX8, "isLane", "(I)Z"⟩
abbrev cX8_isDayQuestion : ByteArray := prog_1_method_37_code
def yX8_isDayQuestion : MethodName := ⟨RX8, "isDayQuestion", "(I)Z"⟩
abbrev cX8_faulted : ByteArray := prog_1_method_38_code
def yX8_faulted : MethodName := ⟨RX8, "faulted", "(I)I"⟩
abbrev cX8_toldPitch : ByteArray := prog_1_method_39_code
def yX8_toldPitch : MethodName := ⟨RX8, "toldPitch", "(LPitchRows$Caller;I)I"⟩
abbrev cX8_divisorWithAllShifts : ByteArray := prog_1_method_40_code
def yX8_divisorWithAllShifts : MethodName := ⟨RX8, "divisorWithAllShifts", "(I)I"⟩
abbrev cX8_areActs : ByteArray := prog_1_method_41_code
def yX8_areActs : MethodName := ⟨RX8, "areActs", "(LPitchRows$Sheet;II)Z"⟩
abbrev cX8_firstWrong : ByteArray := prog_1_method_42_code
def yX8_firstWrong : MethodName := ⟨RX8, "firstWrong", "(LPitchRows$Sheet;II)I"⟩
abbrev cX8_afterDay : ByteArray := prog_1_method_43_code
def yX8_afterDay : MethodName := ⟨RX8, "afterDay", "(I)I"⟩
abbrev cX8_mostListened : ByteArray := prog_1_method_44_code
def yX8_mostListened : MethodName := ⟨RX8, "mostListened", "(I[I)I"⟩
abbrev cX8_leave : ByteArray := prog_1_method_45_code
def yX8_leave : MethodName := ⟨RX8, "leave", "(I)V"⟩
abbrev cX8_plainTelling : ByteArray := prog_1_method_46_code
def yX8_plainTelling : MethodName := ⟨RX8, "plainTelling", "(LPitchRows$Caller;)I"⟩
abbrev cX8_broadTelling : ByteArray := prog_1_method_47_code
def yX8_broadTelling : MethodName := ⟨RX8, "broadTelling", "(LPitchRows$Caller;)I"⟩
abbrev cX8_keenTelling : ByteArray := prog_1_method_48_code
def yX8_keenTelling : MethodName := ⟨RX8, "keenTelling", "(LPitchRows$Caller;)I"⟩
abbrev cX8_lentHail : ByteArray := prog_1_method_49_code
def yX8_lentHail : MethodName := ⟨RX8, "lentHail", "(I)I"⟩
abbrev cX8_keenHail : ByteArray := prog_1_method_50_code
def yX8_keenHail : MethodName := ⟨RX8, "keenHail", "()I"⟩
def RX9 : String := "PitchRowsModel"
def TX9 : u_T := fun k => match k with
  | 0 => ("PitchRowsModel", "fault", "I", false)
  | 1 => ("PitchRowsModel", "callers", "I", false)
  | 2 => ("PitchRowsModel", "beats", "I", false)
  | 3 => ("PitchRowsModel", "kindOf", "[I", true)
  | 4 => ("PitchRowsModel", "pitchOf", "[I", true)
  | 5 => ("PitchRowsModel", "readAt", "I", false)
  | 6 => ("PitchRowsModel", "readCallers", "I", false)
  | 7 => ("PitchRowsModel", "readBeats", "I", false)
  | 8 => ("PitchRowsModel", "readKind", "[I", true)
  | 9 => ("PitchRowsModel", "readPitch", "[I", true)
  | 10 => ("PitchRowsModel", "tried", "[I", true)
  | 11 => ("PitchRowsModel", "sendings", "I", false)
  | 12 => ("PitchRowsModel", "sentBy", "[I", true)
  | 13 => ("PitchRowsModel", "sentAt", "[I", true)
  | 14 => ("PitchRowsModel", "sentHigh", "[I", true)
  | 15 => ("PitchRowsModel", "hadSendings", "I", false)
  | 16 => ("PitchRowsModel", "hadBy", "[I", true)
  | 17 => ("PitchRowsModel", "hadAt", "[I", true)
  | 18 => ("PitchRowsModel", "hadHigh", "[I", true)
  | 19 => ("PitchRowsModel", "peakOf", "I", false)
  | 20 => ("PitchRowsModel", "peakLate", "I", false)
  | 21 => ("PitchRowsModel", "peakHigh", "I", false)
  | 22 => ("PitchRowsModel", "readings", "I", false)
  | 23 => ("PitchRowsModel", "readingBy", "[I", true)
  | 24 => ("PitchRowsModel", "readingOf", "[I", true)
  | 25 => ("PitchRowsModel", "readingLate", "[I", true)
  | 26 => ("PitchRowsModel", "readingHigh", "[I", true)
  | 27 => ("PitchRowsModel", "readingIs", "[I", true)
  | 28 => ("PitchRowsModel", "sheetSize", "[I", true)
  | 29 => ("PitchRowsModel", "sheetLane", "[I", true)
  | 30 => ("PitchRowsModel", "sheet", "[I", true)
  | 31 => ("PitchRowsModel", "hands", "[I", true)
  | _ => ("PitchRowsModel", "traceNow", "I", false)
def tyX9 : Nat → FieldType := fun k => match k with
  | 0 => .int
  | 1 => .int
  | 2 => .int
  | 3 => .array .int
  | 4 => .array .int
  | 5 => .int
  | 6 => .int
  | 7 => .int
  | 8 => .array .int
  | 9 => .array .int
  | 10 => .array .int
  | 11 => .int
  | 12 => .array .int
  | 13 => .array .int
  | 14 => .array .int
  | 15 => .int
  | 16 => .array .int
  | 17 => .array .int
  | 18 => .array .int
  | 19 => .int
  | 20 => .int
  | 21 => .int
  | 22 => .int
  | 23 => .array .int
  | 24 => .array .int
  | 25 => .array .int
  | 26 => .array .int
  | 27 => .array .int
  | 28 => .array .int
  | 29 => .array .int
  | 30 => .array .int
  | 31 => .array .int
  | _ => .int
abbrev wsX90 : List Cond := u_ws RX9 TX9 33
theorem nmX9 : ∀ a, a < 33 → ∀ b, b < 33 → a ≠ b → (TX9 a).2.1 ≠ (TX9 b).2.1 := by decide +kernel
theorem tyX9_ok : ∀ k, k < 33 → parseFieldDescriptor (TX9 k).2.2.1 = some (tyX9 k) := by decide +kernel
abbrev cX9_init : ByteArray := prog_11_method_1_code
def yX9_init : MethodName := ⟨RX9, "<init>", "()V"⟩
abbrev cX9_in : ByteArray := prog_11_method_2_code
def yX9_in : MethodName := ⟨RX9, "in", "(JJJ)Z"⟩
abbrev cX9_lost : ByteArray := prog_11_method_3_code
def yX9_lost : MethodName := ⟨RX9, "lost", "()J"⟩
abbrev cX9_bits : ByteArray := prog_11_method_4_code
def yX9_bits : MethodName := ⟨RX9, "bits", "(I)I"⟩
abbrev cX9_share : ByteArray := prog_11_method_5_code
def yX9_share : MethodName := ⟨RX9, "share", "(JJI)J"⟩
abbrev cX9_refused : ByteArray := prog_11_method_6_code
def yX9_refused : MethodName := ⟨RX9, "refused", "(I)I"⟩
abbrev cX9_failed : ByteArray := prog_11_method_7_code
def yX9_failed : MethodName := ⟨RX9, "failed", "(I)I"⟩
abbrev cX9_failedLong : ByteArray := prog_11_method_8_code
def yX9_failedLong : MethodName := ⟨RX9, "failedLong", "(I)J"⟩
abbrev cX9_noCaller : ByteArray := prog_11_method_9_code
def yX9_noCaller : MethodName := ⟨RX9, "noCaller", "(I)Z"⟩
abbrev cX9_noBeat : ByteArray := prog_11_method_10_code
def yX9_noBeat : MethodName := ⟨RX9, "noBeat", "(I)Z"⟩
abbrev cX9_codeAt : ByteArray := prog_11_method_11_code
def yX9_codeAt : MethodName := ⟨RX9, "codeAt", "(II)I"⟩
abbrev cX9_readsSign : ByteArray := prog_11_method_12_code
def yX9_readsSign : MethodName := ⟨RX9, "readsSign", "(III)Z"⟩
abbrev cX9_readsCaller : ByteArray := prog_11_method_13_code
def yX9_readsCaller : MethodName := ⟨RX9, "readsCaller", "(II)Z"⟩
abbrev cX9_readsCallers : ByteArray := prog_11_method_14_code
def yX9_readsCallers : MethodName := ⟨RX9, "readsCallers", "(II)Z"⟩
abbrev cX9_cellsBarred : ByteArray := prog_11_method_15_code
def yX9_cellsBarred : MethodName := ⟨RX9, "cellsBarred", "(IIIJ)I"⟩
abbrev cX9_callers : ByteArray := prog_11_method_16_code
def yX9_callers : MethodName := ⟨RX9, "callers", "(IIII)I"⟩
abbrev cX9_pitch : ByteArray := prog_11_method_17_code
def yX9_pitch : MethodName := ⟨RX9, "pitch", "(II)I"⟩
abbrev cX9_freeOf : ByteArray := prog_11_method_18_code
def yX9_freeOf : MethodName := ⟨RX9, "freeOf", "(I)I"⟩
abbrev cX9_areUnlike : ByteArray := prog_11_method_19_code
def yX9_areUnlike : MethodName := ⟨RX9, "areUnlike", "()Z"⟩
abbrev cX9_isGood : ByteArray := prog_11_method_20_code
def yX9_isGood : MethodName := ⟨RX9, "isGood", "()Z"⟩
abbrev cX9_triesFirst : ByteArray := prog_11_method_21_code
def yX9_triesFirst : MethodName := ⟨RX9, "triesFirst", "()V"⟩
abbrev cX9_triesNext : ByteArray := prog_11_method_22_code
def yX9_triesNext : MethodName := ⟨RX9, "triesNext", "()Z"⟩
abbrev cX9_hasThoseOf : ByteArray := prog_11_method_23_code
def yX9_hasThoseOf : MethodName := ⟨RX9, "hasThoseOf", "(I)Z"⟩
abbrev cX9_triesThoseOf : ByteArray := prog_11_method_24_code
def yX9_triesThoseOf : MethodName := ⟨RX9, "triesThoseOf", "(I)V"⟩
abbrev cX9_goodNow : ByteArray := prog_11_method_25_code
def yX9_goodNow : MethodName := ⟨RX9, "goodNow", "(I)I"⟩
abbrev cX9_ofCaller : ByteArray := prog_11_method_26_code
def yX9_ofCaller : MethodName := ⟨RX9, "ofCaller", "(II)I"⟩
abbrev cX9_tune : ByteArray := prog_11_method_27_code
def yX9_tune : MethodName := ⟨RX9, "tune", "(III)I"⟩
abbrev cX9_counts : ByteArray := prog_11_method_28_code
def yX9_counts : MethodName := ⟨RX9, "counts", "(III)I"⟩
abbrev cX9_heardBy : ByteArray := prog_11_method_29_code
def yX9_heardBy : MethodName := ⟨RX9, "heardBy", "(IIII)I"⟩
abbrev cX9_isShift : ByteArray := prog_11_method_30_code
def yX9_isShift : MethodName := ⟨RX9, "isShift", "(I)Z"⟩
abbrev cX9_hears : ByteArray := prog_11_method_31_code
def yX9_hears : MethodName := ⟨RX9, "hears", "(IIII)I"⟩
abbrev cX9_sends : ByteArray := prog_11_method_32_code
def yX9_sends : MethodName := ⟨RX9, "sends", "(III)Z"⟩
abbrev cX9_send : ByteArray := prog_11_method_33_code
def yX9_send : MethodName := ⟨RX9, "send", "(III)I"⟩
abbrev cX9_unsend : ByteArray := prog_11_method_34_code
def yX9_unsend : MethodName := ⟨RX9, "unsend", "(I)I"⟩
abbrev cX9_isMoment : ByteArray := prog_11_method_35_code
def yX9_isMoment : MethodName := ⟨RX9, "isMoment", "(I)Z"⟩
abbrev cX9_airOf : ByteArray := prog_11_method_36_code
def yX9_airOf : MethodName := ⟨RX9, "airOf", "(I)I"⟩
abbrev cX9_air : ByteArray := prog_11_method_37_code
def yX9_air : MethodName := ⟨RX9, "air", "(I)I"⟩
abbrev cX9_countsOfAll : ByteArray := prog_11_method_38_code
def yX9_countsOfAll : MethodName := ⟨RX9, "countsOfAll", "(III)I"⟩
abbrev cX9_listensTo : ByteArray := prog_11_method_39_code
def yX9_listensTo : MethodName := ⟨RX9, "listensTo", "(II)I"⟩
abbrev cX9_listen : ByteArray := prog_11_method_40_code
def yX9_listen : MethodName := ⟨RX9, "listen", "(II)I"⟩
abbrev cX9_loudestOf : ByteArray := prog_11_method_41_code
def yX9_loudestOf : MethodName := ⟨RX9, "loudestOf", "(I)I"⟩
abbrev cX9_loudest : ByteArray := prog_11_method_42_code
def yX9_loudest : MethodName := ⟨RX9, "loudest", "(II)I"⟩
abbrev cX9_isAsTold : ByteArray := prog_11_method_43_code
def yX9_isAsTold : MethodName := ⟨RX9, "isAsTold", "(II)Z"⟩
abbrev cX9_doesPair : ByteArray := prog_11_method_44_code
def yX9_doesPair : MethodName := ⟨RX9, "doesPair", "(II)Z"⟩
abbrev cX9_firstOfTwo : ByteArray := prog_11_method_45_code
def yX9_firstOfTwo : MethodName := ⟨RX9, "firstOfTwo", "()I"⟩
abbrev cX9_lastThatSounds : ByteArray := prog_11_method_46_code
def yX9_lastThatSounds : MethodName := ⟨RX9, "lastThatSounds", "()I"⟩
abbrev cX9_manyThatSound : ByteArray := prog_11_method_47_code
def yX9_manyThatSound : MethodName := ⟨RX9, "manyThatSound", "()I"⟩
abbrev cX9_dayOf : ByteArray := prog_11_method_48_code
def yX9_dayOf : MethodName := ⟨RX9, "dayOf", "(III)I"⟩
abbrev cX9_day : ByteArray := prog_11_method_49_code
def yX9_day : MethodName := ⟨RX9, "day", "(IIIII)I"⟩
abbrev cX9_peaks : ByteArray := prog_11_method_50_code
def yX9_peaks : MethodName := ⟨RX9, "peaks", "(I)V"⟩
abbrev cX9_peak : ByteArray := prog_11_method_51_code
def yX9_peak : MethodName := ⟨RX9, "peak", "(II)I"⟩
abbrev cX9_clash : ByteArray := prog_11_method_52_code
def yX9_clash : MethodName := ⟨RX9, "clash", "(II)I"⟩
abbrev cX9_rows : ByteArray := prog_11_method_53_code
def yX9_rows : MethodName := ⟨RX9, "rows", "()I"⟩
abbrev cX9_ways : ByteArray := prog_11_method_54_code
def yX9_ways : MethodName := ⟨RX9, "ways", "(II)I"⟩
abbrev cX9_next : ByteArray := prog_11_method_55_code
def yX9_next : MethodName := ⟨RX9, "next", "(II)I"⟩
abbrev cX9_reading : ByteArray := prog_11_method_56_code
def yX9_reading : MethodName := ⟨RX9, "reading", "(IIIII)I"⟩
abbrev cX9_back : ByteArray := prog_11_method_57_code
def yX9_back : MethodName := ⟨RX9, "back", "(I)I"⟩
abbrev cX9_areSo : ByteArray := prog_11_method_58_code
def yX9_areSo : MethodName := ⟨RX9, "areSo", "()Z"⟩
abbrev cX9_kinds : ByteArray := prog_11_method_59_code
def yX9_kinds : MethodName := ⟨RX9, "kinds", "(I)I"⟩
abbrev cX9_pitches : ByteArray := prog_11_method_60_code
def yX9_pitches : MethodName := ⟨RX9, "pitches", "(II)I"⟩
abbrev cX9_odds : ByteArray := prog_11_method_61_code
def yX9_odds : MethodName := ⟨RX9, "odds", "(III)J"⟩
abbrev cX9_noSheet : ByteArray := prog_11_method_62_code
def yX9_noSheet : MethodName := ⟨RX9, "noSheet", "(I)Z"⟩
abbrev cX9_sheet : ByteArray := prog_11_method_63_code
def yX9_sheet : MethodName := ⟨RX9, "sheet", "(III)I"⟩
abbrev cX9_lose : ByteArray := prog_11_method_64_code
def yX9_lose : MethodName := ⟨RX9, "lose", "(I)I"⟩
abbrev cX9_noCell : ByteArray := prog_11_method_65_code
def yX9_noCell : MethodName := ⟨RX9, "noCell", "(II)I"⟩
abbrev cX9_put : ByteArray := prog_11_method_66_code
def yX9_put : MethodName := ⟨RX9, "put", "(III)I"⟩
abbrev cX9_cell : ByteArray := prog_11_method_67_code
def yX9_cell : MethodName := ⟨RX9, "cell", "(III)J"⟩
abbrev cX9_isBeyond : ByteArray := prog_11_method_68_code
def yX9_isBeyond : MethodName := ⟨RX9, "isBeyond", "(IJI)Z"⟩
abbrev cX9_copy : ByteArray := prog_11_method_69_code
def yX9_copy : MethodName := ⟨RX9, "copy", "(IIIII)I"⟩
abbrev cX9_traced : ByteArray := prog_11_method_70_code
def yX9_traced : MethodName := ⟨RX9, "traced", "(I)V"⟩
abbrev cX9_tell : ByteArray := prog_11_method_71_code
def yX9_tell : MethodName := ⟨RX9, "tell", "(I)I"⟩
abbrev cX9_hail : ByteArray := prog_11_method_72_code
def yX9_hail : MethodName := ⟨RX9, "hail", "(I)I"⟩
abbrev cX9_as : ByteArray := prog_11_method_73_code
def yX9_as : MethodName := ⟨RX9, "as", "(II)I"⟩
abbrev cX9_trace : ByteArray := prog_11_method_74_code
def yX9_trace : MethodName := ⟨RX9, "trace", "()I"⟩
abbrev cX9_fault : ByteArray := prog_11_method_75_code
def yX9_fault : MethodName := ⟨RX9, "fault", "()I"⟩
abbrev cX9_many : ByteArray := prog_11_method_76_code
def yX9_many : MethodName := ⟨RX9, "many", "(I)I"⟩
def RJ6 : String := "java/lang/Integer"
def TJ6 : u_T := fun k => match k with
  | _ => ("", "", "", false)
def tyJ6 : Nat → FieldType := fun k => match k with
  | _ => .int
abbrev wsJ60 : List Cond := u_ws RJ6 TJ6 0
theorem nmJ6 : ∀ a, a < 0 → ∀ b, b < 0 → a ≠ b → (TJ6 a).2.1 ≠ (TJ6 b).2.1 := by decide +kernel
theorem tyJ6_ok : ∀ k, k < 0 → parseFieldDescriptor (TJ6 k).2.2.1 = some (tyJ6 k) := by decide +kernel
abbrev cJ6_bitCount_0f7a4 : ByteArray := prog_12_method_49_code
def yJ6_bitCount_0f7a4 : MethodName := ⟨RJ6, "bitCount", "(I)I"⟩
def RJ9 : String := "java/lang/Math"
def TJ9 : u_T := fun k => match k with
  | _ => ("", "", "", false)
def tyJ9 : Nat → FieldType := fun k => match k with
  | _ => .int
abbrev wsJ90 : List Cond := u_ws RJ9 TJ9 0
theorem nmJ9 : ∀ a, a < 0 → ∀ b, b < 0 → a ≠ b → (TJ9 a).2.1 ≠ (TJ9 b).2.1 := by decide +kernel
theorem tyJ9_ok : ∀ k, k < 0 → parseFieldDescriptor (TJ9 k).2.2.1 = some (tyJ9 k) := by decide +kernel
abbrev cJ9_max_7cf53 : ByteArray := prog_13_method_65_code
def yJ9_max_7cf53 : MethodName := ⟨RJ9, "max", "(II)I"⟩
def RJ10 : String := "java/lang/System"
def TJ10 : u_T := fun k => match k with
  | _ => ("", "", "", false)
def tyJ10 : Nat → FieldType := fun k => match k with
  | _ => .int
abbrev wsJ100 : List Cond := u_ws RJ10 TJ10 0
theorem nmJ10 : ∀ a, a < 0 → ∀ b, b < 0 → a ≠ b → (TJ10 a).2.1 ≠ (TJ10 b).2.1 := by decide +kernel
theorem tyJ10_ok : ∀ k, k < 0 → parseFieldDescriptor (TJ10 k).2.2.1 = some (tyJ10 k) := by decide +kernel
def RJ7 : String := "java/util/Arrays"
def TJ7 : u_T := fun k => match k with
  | _ => ("", "", "", false)
def tyJ7 : Nat → FieldType := fun k => match k with
  | _ => .int
abbrev wsJ70 : List Cond := u_ws RJ7 TJ7 0
theorem nmJ7 : ∀ a, a < 0 → ∀ b, b < 0 → a ≠ b → (TJ7 a).2.1 ≠ (TJ7 b).2.1 := by decide +kernel
theorem tyJ7_ok : ∀ k, k < 0 → parseFieldDescriptor (TJ7 k).2.2.1 = some (tyJ7 k) := by decide +kernel
abbrev cJ7_fill_53178 : ByteArray := prog_15_method_103_code
def yJ7_fill_53178 : MethodName := ⟨RJ7, "fill", "([II)V"⟩
def RL : String := "PitchRowsLaw"
abbrev cL_law : ByteArray := code
def yL_law : MethodName := ⟨RL, "law", "([I)Z"⟩
abbrev vwCl : List vw_C := [(RX0, TX0, 5), (RX1, TX1, 2), (RX2, TX2, 3), (RX3, TX3, 4), (RX5, TX5, 6), (RX6, TX6, 4), (RX7, TX7, 4), (RX8, TX8, 9), (RX9, TX9, 33)]
def tblG : List Cond := lw_tbl.filter goodWord
theorem tblG_good {w : Cond} (h : w ∈ tblG) : (w.onTables && w.keeps) = true ∨ ∃ ty, w = .arrayClass ty := good_of_word (List.mem_filter.mp h).2
theorem tblG_lw {w : Cond} (h : w ∈ tblG) : w ∈ lw_tbl := (List.mem_filter.mp h).1
theorem my_in (i : Nat) {w : Cond} (h : tables_1[i]? = some w) (hg : goodWord w = true) : w ∈ tblG := List.mem_filter.mpr ⟨List.mem_append_right _ (List.mem_of_getElem? h), hg⟩
theorem my_inP (i : Nat) {w : Cond} (h : (k2_sels lw_privs)[i]? = some w) (hg : goodWord w = true) : w ∈ tblG := List.mem_filter.mpr ⟨List.mem_append_left _ (List.mem_of_getElem? h), hg⟩
theorem my_inU {C : String} {T : u_T} {N : Nat} (h : ∀ w ∈ u_ws C T N, w ∈ tables_1) : ∀ w ∈ u_ws C T N, w ∈ tblG := by
  intro w hw
  refine List.mem_filter.mpr ⟨List.mem_append_right _ (h w hw), ?_⟩
  obtain ⟨k, -, rfl⟩ := List.mem_map.mp hw
  unfold u_lay
  split <;> rfl
theorem tw_in_L : (Jvm.Cond.initialized "PitchRowsLaw") ∈ tblG := my_in 0 (by decide +kernel) (by decide +kernel)
theorem tw_in_X8 : (Jvm.Cond.initialized "PitchRows") ∈ tblG := my_in 1 (by decide +kernel) (by decide +kernel)
theorem tw_in_X2 : (Jvm.Cond.initialized "PitchRows$Choir") ∈ tblG := my_in 2 (by decide +kernel) (by decide +kernel)
theorem tw_in_X1 : (Jvm.Cond.initialized "PitchRows$Caller") ∈ tblG := my_in 3 (by decide +kernel) (by decide +kernel)
theorem tw_in_X4 : (Jvm.Cond.initialized "PitchRows$Numbered") ∈ tblG := my_in 4 (by decide +kernel) (by decide +kernel)
theorem tw_in_X0 : (Jvm.Cond.initialized "PitchRows$Air") ∈ tblG := my_in 5 (by decide +kernel) (by decide +kernel)
theorem tw_in_X5 : (Jvm.Cond.initialized "PitchRows$Readings") ∈ tblG := my_in 6 (by decide +kernel) (by decide +kernel)
theorem tw_in_X3 : (Jvm.Cond.initialized "PitchRows$GoodRows") ∈ tblG := my_in 7 (by decide +kernel) (by decide +kernel)
theorem tw_in_X7 : (Jvm.Cond.initialized "PitchRows$TextReader") ∈ tblG := my_in 8 (by decide +kernel) (by decide +kernel)
theorem tw_in_X6 : (Jvm.Cond.initialized "PitchRows$Sheet") ∈ tblG := my_in 9 (by decide +kernel) (by decide +kernel)
theorem tw_in_X9 : (Jvm.Cond.initialized "PitchRowsModel") ∈ tblG := my_in 10 (by decide +kernel) (by decide +kernel)
theorem tw_in_J7 : (Jvm.Cond.initialized "java/util/Arrays") ∈ tblG := my_in 11 (by decide +kernel) (by decide +kernel)
theorem tw_in_J10 : (Jvm.Cond.initialized "java/lang/System") ∈ tblG := my_in 12 (by decide +kernel) (by decide +kernel)
theorem tw_in_J6 : (Jvm.Cond.initialized "java/lang/Integer") ∈ tblG := my_in 13 (by decide +kernel) (by decide +kernel)
theorem tw_in_J9 : (Jvm.Cond.initialized "java/lang/Math") ∈ tblG := my_in 14 (by decide +kernel) (by decide +kernel)
theorem tw_kc_L_7 : (Jvm.Cond.classLink "PitchRowsLaw" (7 : Nat) "PitchRows") ∈ tblG := my_in 15 (by decide +kernel) (by decide +kernel)
theorem tw_ia_X8 : (Jvm.Cond.instantiable "PitchRows" (9 : Nat)) ∈ tblG := my_in 16 (by decide +kernel) (by decide +kernel)
theorem tw_ml_L_9 : (Jvm.Cond.methodLink "PitchRowsLaw" (9 : Nat) ({ cls := "PitchRows", name := "<init>", desc := "()V" } : Jvm.MethodName)) ∈ tblG := my_in 17 (by decide +kernel) (by decide +kernel)
theorem tw_im_X8_init : (Jvm.Cond.instanceMethod ({ cls := "PitchRows", name := "<init>", desc := "()V" } : Jvm.MethodName)) ∈ tblG := my_in 18 (by decide +kernel) (by decide +kernel)
theorem tw_cd_X8_init : (Jvm.Cond.code ({ cls := "PitchRows", name := "<init>", desc := "()V" } : Jvm.MethodName) prog_1_method_1_code (2 : Nat) (Option.none : Option Jvm.ClassFile.FieldType)) ∈ tblG := my_in 19 (by decide +kernel) (by decide +kernel)
theorem tw_ml_X8_3 : (Jvm.Cond.methodLink "PitchRows" (3 : Nat) ({ cls := "java/lang/Object", name := "<init>", desc := "()V" } : Jvm.MethodName)) ∈ tblG := my_in 20 (by decide +kernel) (by decide +kernel)
theorem tw_im_java_lang_Object__init_ : (Jvm.Cond.instanceMethod ({ cls := "java/lang/Object", name := "<init>", desc := "()V" } : Jvm.MethodName)) ∈ tblG := my_in 21 (by decide +kernel) (by decide +kernel)
theorem tw_cd_java_lang_Object__init_ : (Jvm.Cond.code ({ cls := "java/lang/Object", name := "<init>", desc := "()V" } : Jvm.MethodName) object_method_1_code (1 : Nat) (Option.none : Option Jvm.ClassFile.FieldType)) ∈ tblG := my_in 22 (by decide +kernel) (by decide +kernel)
theorem tw_kc_X8_9 : (Jvm.Cond.classLink "PitchRows" (9 : Nat) "PitchRows$Choir") ∈ tblG := my_in 23 (by decide +kernel) (by decide +kernel)
theorem tw_ia_X2 : (Jvm.Cond.instantiable "PitchRows$Choir" (3 : Nat)) ∈ tblG := my_in 24 (by decide +kernel) (by decide +kernel)
theorem tw_ml_X8_11 : (Jvm.Cond.methodLink "PitchRows" (11 : Nat) ({ cls := "PitchRows$Choir", name := "<init>", desc := "()V" } : Jvm.MethodName)) ∈ tblG := my_in 25 (by decide +kernel) (by decide +kernel)
theorem tw_im_X2_init : (Jvm.Cond.instanceMethod ({ cls := "PitchRows$Choir", name := "<init>", desc := "()V" } : Jvm.MethodName)) ∈ tblG := my_in 26 (by decide +kernel) (by decide +kernel)
theorem tw_cd_X2_init : (Jvm.Cond.code ({ cls := "PitchRows$Choir", name := "<init>", desc := "()V" } : Jvm.MethodName) prog_4_method_1_code (2 : Nat) (Option.none : Option Jvm.ClassFile.FieldType)) ∈ tblG := my_in 27 (by decide +kernel) (by decide +kernel)
theorem tw_ml_X2_3 : (Jvm.Cond.methodLink "PitchRows$Choir" (3 : Nat) ({ cls := "java/lang/Object", name := "<init>", desc := "()V" } : Jvm.MethodName)) ∈ tblG := my_in 28 (by decide +kernel) (by decide +kernel)
theorem tw_kc_X2_9 : (Jvm.Cond.classLink "PitchRows$Choir" (9 : Nat) "PitchRows$Caller") ∈ tblG := my_in 29 (by decide +kernel) (by decide +kernel)
theorem tw_ia_X1 : (Jvm.Cond.instantiable "PitchRows$Caller" (2 : Nat)) ∈ tblG := my_in 31 (by decide +kernel) (by decide +kernel)
theorem tw_im_X1_init : (Jvm.Cond.instanceMethod ({ cls := "PitchRows$Caller", name := "<init>", desc := "()V" } : Jvm.MethodName)) ∈ tblG := my_in 33 (by decide +kernel) (by decide +kernel)
theorem tw_cd_X1_init : (Jvm.Cond.code ({ cls := "PitchRows$Caller", name := "<init>", desc := "()V" } : Jvm.MethodName) prog_3_method_1_code (1 : Nat) (Option.none : Option Jvm.ClassFile.FieldType)) ∈ tblG := my_in 34 (by decide +kernel) (by decide +kernel)
theorem tw_ml_X1_3 : (Jvm.Cond.methodLink "PitchRows$Caller" (3 : Nat) ({ cls := "java/lang/Object", name := "<init>", desc := "()V" } : Jvm.MethodName)) ∈ tblG := my_in 35 (by decide +kernel) (by decide +kernel)
theorem tw_fl_X1_15 : (Jvm.Cond.fieldLink "PitchRows$Caller" (15 : Nat) "PitchRows$Caller" "kind" "I") ∈ tblG := my_in 36 (by decide +kernel) (by decide +kernel)
theorem tw_fl_X8_101 : (Jvm.Cond.fieldLink "PitchRows" (101 : Nat) "PitchRows$Caller" "kind" "I") ∈ tblG := my_in 37 (by decide +kernel) (by decide +kernel)
theorem tw_fl_X2_44 : (Jvm.Cond.fieldLink "PitchRows$Choir" (44 : Nat) "PitchRows$Caller" "kind" "I") ∈ tblG := my_in 38 (by decide +kernel) (by decide +kernel)
theorem tw_fl_X1_9 : (Jvm.Cond.fieldLink "PitchRows$Caller" (9 : Nat) "PitchRows$Caller" "pitch" "[I") ∈ tblG := my_in 39 (by decide +kernel) (by decide +kernel)
theorem tw_fl_X8_112 : (Jvm.Cond.fieldLink "PitchRows" (112 : Nat) "PitchRows$Caller" "pitch" "[I") ∈ tblG := my_in 40 (by decide +kernel) (by decide +kernel)
theorem tw_fl_X0_46 : (Jvm.Cond.fieldLink "PitchRows$Air" (46 : Nat) "PitchRows$Caller" "pitch" "[I") ∈ tblG := my_in 41 (by decide +kernel) (by decide +kernel)
theorem tw_fl_X2_47 : (Jvm.Cond.fieldLink "PitchRows$Choir" (47 : Nat) "PitchRows$Caller" "pitch" "[I") ∈ tblG := my_in 42 (by decide +kernel) (by decide +kernel)
theorem tw_su_X1 : (Jvm.Cond.superclass "PitchRows$Caller" "java/lang/Object") ∈ tblG := my_in 47 (by decide +kernel) (by decide +kernel)
theorem tw_ac_48 : (Jvm.Cond.arrayClass Jvm.ClassFile.FieldType.int) ∈ tblG := my_in 48 (by decide +kernel) (by decide +kernel)
theorem tw_fl_X2_11 : (Jvm.Cond.fieldLink "PitchRows$Choir" (11 : Nat) "PitchRows$Choir" "callers" "[LPitchRows$Caller;") ∈ tblG := my_in 49 (by decide +kernel) (by decide +kernel)
theorem tw_fl_X8_98 : (Jvm.Cond.fieldLink "PitchRows" (98 : Nat) "PitchRows$Choir" "callers" "[LPitchRows$Caller;") ∈ tblG := my_in 50 (by decide +kernel) (by decide +kernel)
theorem tw_fl_X0_40 : (Jvm.Cond.fieldLink "PitchRows$Air" (40 : Nat) "PitchRows$Choir" "callers" "[LPitchRows$Caller;") ∈ tblG := my_in 51 (by decide +kernel) (by decide +kernel)
theorem tw_fl_X2_18 : (Jvm.Cond.fieldLink "PitchRows$Choir" (18 : Nat) "PitchRows$Choir" "count" "I") ∈ tblG := my_in 52 (by decide +kernel) (by decide +kernel)
theorem tw_fl_X8_94 : (Jvm.Cond.fieldLink "PitchRows" (94 : Nat) "PitchRows$Choir" "count" "I") ∈ tblG := my_in 53 (by decide +kernel) (by decide +kernel)
theorem tw_fl_X2_26 : (Jvm.Cond.fieldLink "PitchRows$Choir" (26 : Nat) "PitchRows$Choir" "beats" "I") ∈ tblG := my_in 54 (by decide +kernel) (by decide +kernel)
theorem tw_fl_X8_106 : (Jvm.Cond.fieldLink "PitchRows" (106 : Nat) "PitchRows$Choir" "beats" "I") ∈ tblG := my_in 55 (by decide +kernel) (by decide +kernel)
theorem tw_fl_X0_51 : (Jvm.Cond.fieldLink "PitchRows$Air" (51 : Nat) "PitchRows$Choir" "beats" "I") ∈ tblG := my_in 56 (by decide +kernel) (by decide +kernel)
theorem tw_su_X2 : (Jvm.Cond.superclass "PitchRows$Choir" "java/lang/Object") ∈ tblG := my_in 63 (by decide +kernel) (by decide +kernel)
theorem tw_kc_X8_18 : (Jvm.Cond.classLink "PitchRows" (18 : Nat) "PitchRows$Air") ∈ tblG := my_in 64 (by decide +kernel) (by decide +kernel)
theorem tw_ia_X0 : (Jvm.Cond.instantiable "PitchRows$Air" (5 : Nat)) ∈ tblG := my_in 65 (by decide +kernel) (by decide +kernel)
theorem tw_im_X0_init : (Jvm.Cond.instanceMethod ({ cls := "PitchRows$Air", name := "<init>", desc := "()V" } : Jvm.MethodName)) ∈ tblG := my_in 67 (by decide +kernel) (by decide +kernel)
theorem tw_cd_X0_init : (Jvm.Cond.code ({ cls := "PitchRows$Air", name := "<init>", desc := "()V" } : Jvm.MethodName) prog_2_method_1_code (1 : Nat) (Option.none : Option Jvm.ClassFile.FieldType)) ∈ tblG := my_in 68 (by decide +kernel) (by decide +kernel)
theorem tw_im_X4_init : (Jvm.Cond.instanceMethod ({ cls := "PitchRows$Numbered", name := "<init>", desc := "()V" } : Jvm.MethodName)) ∈ tblG := my_in 70 (by decide +kernel) (by decide +kernel)
theorem tw_cd_X4_init : (Jvm.Cond.code ({ cls := "PitchRows$Numbered", name := "<init>", desc := "()V" } : Jvm.MethodName) prog_6_method_1_code (1 : Nat) (Option.none : Option Jvm.ClassFile.FieldType)) ∈ tblG := my_in 71 (by decide +kernel) (by decide +kernel)
theorem tw_ml_X4_1 : (Jvm.Cond.methodLink "PitchRows$Numbered" (1 : Nat) ({ cls := "java/lang/Object", name := "<init>", desc := "()V" } : Jvm.MethodName)) ∈ tblG := my_in 72 (by decide +kernel) (by decide +kernel)
theorem tw_fl_X0_9 : (Jvm.Cond.fieldLink "PitchRows$Air" (9 : Nat) "PitchRows$Air" "whose" "[I") ∈ tblG := my_in 73 (by decide +kernel) (by decide +kernel)
theorem tw_fl_X0_15 : (Jvm.Cond.fieldLink "PitchRows$Air" (15 : Nat) "PitchRows$Air" "moment" "[I") ∈ tblG := my_in 74 (by decide +kernel) (by decide +kernel)
theorem tw_fl_X0_18 : (Jvm.Cond.fieldLink "PitchRows$Air" (18 : Nat) "PitchRows$Air" "high" "[I") ∈ tblG := my_in 75 (by decide +kernel) (by decide +kernel)
theorem tw_fl_X0_21 : (Jvm.Cond.fieldLink "PitchRows$Air" (21 : Nat) "PitchRows$Air" "sounds" "[I") ∈ tblG := my_in 76 (by decide +kernel) (by decide +kernel)
theorem tw_fl_X8_148 : (Jvm.Cond.fieldLink "PitchRows" (148 : Nat) "PitchRows$Air" "sounds" "[I") ∈ tblG := my_in 77 (by decide +kernel) (by decide +kernel)
theorem tw_fl_X0_24 : (Jvm.Cond.fieldLink "PitchRows$Air" (24 : Nat) "PitchRows$Air" "count" "I") ∈ tblG := my_in 78 (by decide +kernel) (by decide +kernel)
theorem tw_sf_79 : (Jvm.Cond.sameField "PitchRows$Air" "PitchRows$Numbered" "count" "I") ∈ tblG := my_in 79 (by decide +kernel) (by decide +kernel)
theorem tw_fl_X5_27 : (Jvm.Cond.fieldLink "PitchRows$Readings" (27 : Nat) "PitchRows$Readings" "count" "I") ∈ tblG := my_in 80 (by decide +kernel) (by decide +kernel)
theorem tw_sf_81 : (Jvm.Cond.sameField "PitchRows$Readings" "PitchRows$Numbered" "count" "I") ∈ tblG := my_in 81 (by decide +kernel) (by decide +kernel)
theorem tw_fl_X4_7 : (Jvm.Cond.fieldLink "PitchRows$Numbered" (7 : Nat) "PitchRows$Numbered" "count" "I") ∈ tblG := my_in 82 (by decide +kernel) (by decide +kernel)
theorem tw_fl_X8_90 : (Jvm.Cond.fieldLink "PitchRows" (90 : Nat) "PitchRows$Air" "count" "I") ∈ tblG := my_in 83 (by decide +kernel) (by decide +kernel)
theorem tw_fl_X8_93 : (Jvm.Cond.fieldLink "PitchRows" (93 : Nat) "PitchRows$Readings" "count" "I") ∈ tblG := my_in 84 (by decide +kernel) (by decide +kernel)
theorem tw_su_X0 : (Jvm.Cond.superclass "PitchRows$Air" "PitchRows$Numbered") ∈ tblG := my_in 95 (by decide +kernel) (by decide +kernel)
theorem tw_kc_X8_28 : (Jvm.Cond.classLink "PitchRows" (28 : Nat) "PitchRows$Readings") ∈ tblG := my_in 96 (by decide +kernel) (by decide +kernel)
theorem tw_ia_X5 : (Jvm.Cond.instantiable "PitchRows$Readings" (6 : Nat)) ∈ tblG := my_in 97 (by decide +kernel) (by decide +kernel)
theorem tw_im_X5_init : (Jvm.Cond.instanceMethod ({ cls := "PitchRows$Readings", name := "<init>", desc := "()V" } : Jvm.MethodName)) ∈ tblG := my_in 99 (by decide +kernel) (by decide +kernel)
theorem tw_cd_X5_init : (Jvm.Cond.code ({ cls := "PitchRows$Readings", name := "<init>", desc := "()V" } : Jvm.MethodName) prog_7_method_1_code (1 : Nat) (Option.none : Option Jvm.ClassFile.FieldType)) ∈ tblG := my_in 100 (by decide +kernel) (by decide +kernel)
theorem tw_fl_X5_9 : (Jvm.Cond.fieldLink "PitchRows$Readings" (9 : Nat) "PitchRows$Readings" "hearer" "[I") ∈ tblG := my_in 102 (by decide +kernel) (by decide +kernel)
theorem tw_fl_X5_15 : (Jvm.Cond.fieldLink "PitchRows$Readings" (15 : Nat) "PitchRows$Readings" "whose" "[I") ∈ tblG := my_in 103 (by decide +kernel) (by decide +kernel)
theorem tw_fl_X5_18 : (Jvm.Cond.fieldLink "PitchRows$Readings" (18 : Nat) "PitchRows$Readings" "late" "[I") ∈ tblG := my_in 104 (by decide +kernel) (by decide +kernel)
theorem tw_fl_X5_21 : (Jvm.Cond.fieldLink "PitchRows$Readings" (21 : Nat) "PitchRows$Readings" "high" "[I") ∈ tblG := my_in 105 (by decide +kernel) (by decide +kernel)
theorem tw_fl_X5_24 : (Jvm.Cond.fieldLink "PitchRows$Readings" (24 : Nat) "PitchRows$Readings" "heard" "[I") ∈ tblG := my_in 106 (by decide +kernel) (by decide +kernel)
theorem tw_su_X5 : (Jvm.Cond.superclass "PitchRows$Readings" "PitchRows$Numbered") ∈ tblG := my_in 118 (by decide +kernel) (by decide +kernel)
theorem tw_kc_X8_35 : (Jvm.Cond.classLink "PitchRows" (35 : Nat) "PitchRows$GoodRows") ∈ tblG := my_in 119 (by decide +kernel) (by decide +kernel)
theorem tw_ia_X3 : (Jvm.Cond.instantiable "PitchRows$GoodRows" (4 : Nat)) ∈ tblG := my_in 120 (by decide +kernel) (by decide +kernel)
theorem tw_im_X3_init : (Jvm.Cond.instanceMethod ({ cls := "PitchRows$GoodRows", name := "<init>", desc := "()V" } : Jvm.MethodName)) ∈ tblG := my_in 122 (by decide +kernel) (by decide +kernel)
theorem tw_cd_X3_init : (Jvm.Cond.code ({ cls := "PitchRows$GoodRows", name := "<init>", desc := "()V" } : Jvm.MethodName) prog_5_method_1_code (1 : Nat) (Option.none : Option Jvm.ClassFile.FieldType)) ∈ tblG := my_in 123 (by decide +kernel) (by decide +kernel)
theorem tw_ml_X3_3 : (Jvm.Cond.methodLink "PitchRows$GoodRows" (3 : Nat) ({ cls := "java/lang/Object", name := "<init>", desc := "()V" } : Jvm.MethodName)) ∈ tblG := my_in 124 (by decide +kernel) (by decide +kernel)
theorem tw_fl_X3_18 : (Jvm.Cond.fieldLink "PitchRows$GoodRows" (18 : Nat) "PitchRows$GoodRows" "beats" "I") ∈ tblG := my_in 125 (by decide +kernel) (by decide +kernel)
theorem tw_fl_X3_22 : (Jvm.Cond.fieldLink "PitchRows$GoodRows" (22 : Nat) "PitchRows$GoodRows" "count" "I") ∈ tblG := my_in 126 (by decide +kernel) (by decide +kernel)
theorem tw_fl_X8_186 : (Jvm.Cond.fieldLink "PitchRows" (186 : Nat) "PitchRows$GoodRows" "count" "I") ∈ tblG := my_in 127 (by decide +kernel) (by decide +kernel)
theorem tw_fl_X3_9 : (Jvm.Cond.fieldLink "PitchRows$GoodRows" (9 : Nat) "PitchRows$GoodRows" "codes" "[I") ∈ tblG := my_in 128 (by decide +kernel) (by decide +kernel)
theorem tw_fl_X3_15 : (Jvm.Cond.fieldLink "PitchRows$GoodRows" (15 : Nat) "PitchRows$GoodRows" "row" "[I") ∈ tblG := my_in 129 (by decide +kernel) (by decide +kernel)
theorem tw_su_X3 : (Jvm.Cond.superclass "PitchRows$GoodRows" "java/lang/Object") ∈ tblG := my_in 138 (by decide +kernel) (by decide +kernel)
theorem tw_kc_X8_42 : (Jvm.Cond.classLink "PitchRows" (42 : Nat) "PitchRows$TextReader") ∈ tblG := my_in 139 (by decide +kernel) (by decide +kernel)
theorem tw_ia_X7 : (Jvm.Cond.instantiable "PitchRows$TextReader" (4 : Nat)) ∈ tblG := my_in 140 (by decide +kernel) (by decide +kernel)
theorem tw_im_X7_init : (Jvm.Cond.instanceMethod ({ cls := "PitchRows$TextReader", name := "<init>", desc := "()V" } : Jvm.MethodName)) ∈ tblG := my_in 142 (by decide +kernel) (by decide +kernel)
theorem tw_cd_X7_init : (Jvm.Cond.code ({ cls := "PitchRows$TextReader", name := "<init>", desc := "()V" } : Jvm.MethodName) prog_9_method_1_code (1 : Nat) (Option.none : Option Jvm.ClassFile.FieldType)) ∈ tblG := my_in 143 (by decide +kernel) (by decide +kernel)
theorem tw_ml_X7_3 : (Jvm.Cond.methodLink "PitchRows$TextReader" (3 : Nat) ({ cls := "java/lang/Object", name := "<init>", desc := "()V" } : Jvm.MethodName)) ∈ tblG := my_in 144 (by decide +kernel) (by decide +kernel)
theorem tw_fl_X7_9 : (Jvm.Cond.fieldLink "PitchRows$TextReader" (9 : Nat) "PitchRows$TextReader" "beats" "I") ∈ tblG := my_in 145 (by decide +kernel) (by decide +kernel)
theorem tw_fl_X7_15 : (Jvm.Cond.fieldLink "PitchRows$TextReader" (15 : Nat) "PitchRows$TextReader" "callers" "I") ∈ tblG := my_in 146 (by decide +kernel) (by decide +kernel)
theorem tw_fl_X8_83 : (Jvm.Cond.fieldLink "PitchRows" (83 : Nat) "PitchRows$TextReader" "callers" "I") ∈ tblG := my_in 147 (by decide +kernel) (by decide +kernel)
theorem tw_fl_X7_18 : (Jvm.Cond.fieldLink "PitchRows$TextReader" (18 : Nat) "PitchRows$TextReader" "part" "I") ∈ tblG := my_in 148 (by decide +kernel) (by decide +kernel)
theorem tw_fl_X7_21 : (Jvm.Cond.fieldLink "PitchRows$TextReader" (21 : Nat) "PitchRows$TextReader" "whole" "Z") ∈ tblG := my_in 149 (by decide +kernel) (by decide +kernel)
theorem tw_fl_X8_79 : (Jvm.Cond.fieldLink "PitchRows" (79 : Nat) "PitchRows$TextReader" "whole" "Z") ∈ tblG := my_in 150 (by decide +kernel) (by decide +kernel)
theorem tw_su_X7 : (Jvm.Cond.superclass "PitchRows$TextReader" "java/lang/Object") ∈ tblG := my_in 159 (by decide +kernel) (by decide +kernel)
theorem tw_kc_X8_49 : (Jvm.Cond.classLink "PitchRows" (49 : Nat) "PitchRows$Sheet") ∈ tblG := my_in 160 (by decide +kernel) (by decide +kernel)
theorem tw_ia_X6 : (Jvm.Cond.instantiable "PitchRows$Sheet" (4 : Nat)) ∈ tblG := my_in 162 (by decide +kernel) (by decide +kernel)
theorem tw_im_X6_init : (Jvm.Cond.instanceMethod ({ cls := "PitchRows$Sheet", name := "<init>", desc := "()V" } : Jvm.MethodName)) ∈ tblG := my_in 164 (by decide +kernel) (by decide +kernel)
theorem tw_cd_X6_init : (Jvm.Cond.code ({ cls := "PitchRows$Sheet", name := "<init>", desc := "()V" } : Jvm.MethodName) prog_8_method_1_code (1 : Nat) (Option.none : Option Jvm.ClassFile.FieldType)) ∈ tblG := my_in 165 (by decide +kernel) (by decide +kernel)
theorem tw_ml_X6_3 : (Jvm.Cond.methodLink "PitchRows$Sheet" (3 : Nat) ({ cls := "java/lang/Object", name := "<init>", desc := "()V" } : Jvm.MethodName)) ∈ tblG := my_in 166 (by decide +kernel) (by decide +kernel)
theorem tw_fl_X6_15 : (Jvm.Cond.fieldLink "PitchRows$Sheet" (15 : Nat) "PitchRows$Sheet" "hasRow" "Z") ∈ tblG := my_in 167 (by decide +kernel) (by decide +kernel)
theorem tw_fl_X8_217 : (Jvm.Cond.fieldLink "PitchRows" (217 : Nat) "PitchRows$Sheet" "hasRow" "Z") ∈ tblG := my_in 168 (by decide +kernel) (by decide +kernel)
theorem tw_fl_X6_19 : (Jvm.Cond.fieldLink "PitchRows$Sheet" (19 : Nat) "PitchRows$Sheet" "lane" "I") ∈ tblG := my_in 169 (by decide +kernel) (by decide +kernel)
theorem tw_fl_X8_230 : (Jvm.Cond.fieldLink "PitchRows" (230 : Nat) "PitchRows$Sheet" "lane" "I") ∈ tblG := my_in 170 (by decide +kernel) (by decide +kernel)
theorem tw_fl_X6_23 : (Jvm.Cond.fieldLink "PitchRows$Sheet" (23 : Nat) "PitchRows$Sheet" "length" "I") ∈ tblG := my_in 171 (by decide +kernel) (by decide +kernel)
theorem tw_fl_X6_9 : (Jvm.Cond.fieldLink "PitchRows$Sheet" (9 : Nat) "PitchRows$Sheet" "cells" "[I") ∈ tblG := my_in 172 (by decide +kernel) (by decide +kernel)
theorem tw_fl_X7_25 : (Jvm.Cond.fieldLink "PitchRows$TextReader" (25 : Nat) "PitchRows$Sheet" "cells" "[I") ∈ tblG := my_in 173 (by decide +kernel) (by decide +kernel)
theorem tw_fl_X2_33 : (Jvm.Cond.fieldLink "PitchRows$Choir" (33 : Nat) "PitchRows$Sheet" "cells" "[I") ∈ tblG := my_in 174 (by decide +kernel) (by decide +kernel)
theorem tw_fl_X8_227 : (Jvm.Cond.fieldLink "PitchRows" (227 : Nat) "PitchRows$Sheet" "cells" "[I") ∈ tblG := my_in 175 (by decide +kernel) (by decide +kernel)
theorem tw_su_X6 : (Jvm.Cond.superclass "PitchRows$Sheet" "java/lang/Object") ∈ tblG := my_in 184 (by decide +kernel) (by decide +kernel)
theorem tw_fl_X8_12 : (Jvm.Cond.fieldLink "PitchRows" (12 : Nat) "PitchRows" "choir" "LPitchRows$Choir;") ∈ tblG := my_in 185 (by decide +kernel) (by decide +kernel)
theorem tw_fl_X8_21 : (Jvm.Cond.fieldLink "PitchRows" (21 : Nat) "PitchRows" "air" "LPitchRows$Air;") ∈ tblG := my_in 186 (by decide +kernel) (by decide +kernel)
theorem tw_fl_X8_25 : (Jvm.Cond.fieldLink "PitchRows" (25 : Nat) "PitchRows" "dayAir" "LPitchRows$Air;") ∈ tblG := my_in 187 (by decide +kernel) (by decide +kernel)
theorem tw_fl_X8_31 : (Jvm.Cond.fieldLink "PitchRows" (31 : Nat) "PitchRows" "readings" "LPitchRows$Readings;") ∈ tblG := my_in 188 (by decide +kernel) (by decide +kernel)
theorem tw_fl_X8_38 : (Jvm.Cond.fieldLink "PitchRows" (38 : Nat) "PitchRows" "goodRows" "LPitchRows$GoodRows;") ∈ tblG := my_in 189 (by decide +kernel) (by decide +kernel)
theorem tw_fl_X8_45 : (Jvm.Cond.fieldLink "PitchRows" (45 : Nat) "PitchRows" "reader" "LPitchRows$TextReader;") ∈ tblG := my_in 190 (by decide +kernel) (by decide +kernel)
theorem tw_fl_X8_51 : (Jvm.Cond.fieldLink "PitchRows" (51 : Nat) "PitchRows" "sheets" "[LPitchRows$Sheet;") ∈ tblG := my_in 191 (by decide +kernel) (by decide +kernel)
theorem tw_fl_X8_256 : (Jvm.Cond.fieldLink "PitchRows" (256 : Nat) "PitchRows" "trace" "I") ∈ tblG := my_in 192 (by decide +kernel) (by decide +kernel)
theorem tw_fl_X8_56 : (Jvm.Cond.fieldLink "PitchRows" (56 : Nat) "PitchRows" "fault" "I") ∈ tblG := my_in 193 (by decide +kernel) (by decide +kernel)
theorem tw_su_X8 : (Jvm.Cond.superclass "PitchRows" "java/lang/Object") ∈ tblG := my_in 212 (by decide +kernel) (by decide +kernel)
theorem tw_ml_L_13 : (Jvm.Cond.methodLink "PitchRowsLaw" (13 : Nat) ({ cls := "PitchRows", name := "callers", desc := "(IIII)I" } : Jvm.MethodName)) ∈ tblG := my_in 213 (by decide +kernel) (by decide +kernel)
theorem tw_im_X8_callers : (Jvm.Cond.instanceMethod ({ cls := "PitchRows", name := "callers", desc := "(IIII)I" } : Jvm.MethodName)) ∈ tblG := my_in 214 (by decide +kernel) (by decide +kernel)
theorem tw_se_X8_X8_callers : (Jvm.Cond.selects "PitchRows" ({ cls := "PitchRows", name := "callers", desc := "(IIII)I" } : Jvm.MethodName) ({ cls := "PitchRows", name := "callers", desc := "(IIII)I" } : Jvm.MethodName)) ∈ tblG := my_in 215 (by decide +kernel) (by decide +kernel)
theorem tw_cd_X8_callers : (Jvm.Cond.code ({ cls := "PitchRows", name := "callers", desc := "(IIII)I" } : Jvm.MethodName) prog_1_method_2_code (7 : Nat) (Option.some Jvm.ClassFile.FieldType.int)) ∈ tblG := my_in 216 (by decide +kernel) (by decide +kernel)
theorem tw_ml_X8_60 : (Jvm.Cond.methodLink "PitchRows" (60 : Nat) ({ cls := "PitchRows", name := "isSheet", desc := "(I)Z" } : Jvm.MethodName)) ∈ tblG := my_in 217 (by decide +kernel) (by decide +kernel)
theorem tw_st_X8_isSheet : (Jvm.Cond.static ({ cls := "PitchRows", name := "isSheet", desc := "(I)Z" } : Jvm.MethodName)) ∈ tblG := my_in 218 (by decide +kernel) (by decide +kernel)
theorem tw_cd_X8_isSheet : (Jvm.Cond.code ({ cls := "PitchRows", name := "isSheet", desc := "(I)Z" } : Jvm.MethodName) prog_1_method_35_code (1 : Nat) (Option.some Jvm.ClassFile.FieldType.boolean)) ∈ tblG := my_in 219 (by decide +kernel) (by decide +kernel)
theorem tw_ml_X8_120 : (Jvm.Cond.methodLink "PitchRows" (120 : Nat) ({ cls := "PitchRows", name := "isWithin", desc := "(III)Z" } : Jvm.MethodName)) ∈ tblG := my_in 220 (by decide +kernel) (by decide +kernel)
theorem tw_st_X8_isWithin : (Jvm.Cond.static ({ cls := "PitchRows", name := "isWithin", desc := "(III)Z" } : Jvm.MethodName)) ∈ tblG := my_in 221 (by decide +kernel) (by decide +kernel)
theorem tw_cd_X8_isWithin : (Jvm.Cond.code ({ cls := "PitchRows", name := "isWithin", desc := "(III)Z" } : Jvm.MethodName) prog_1_method_33_code (3 : Nat) (Option.some Jvm.ClassFile.FieldType.boolean)) ∈ tblG := my_in 222 (by decide +kernel) (by decide +kernel)
theorem tw_ml_X8_64 : (Jvm.Cond.methodLink "PitchRows" (64 : Nat) ({ cls := "PitchRows", name := "isLane", desc := "(I)Z" } : Jvm.MethodName)) ∈ tblG := my_in 223 (by decide +kernel) (by decide +kernel)
theorem tw_st_X8_isLane : (Jvm.Cond.static ({ cls := "PitchRows", name := "isLane", desc := "(I)Z" } : Jvm.MethodName)) ∈ tblG := my_in 224 (by decide +kernel) (by decide +kernel)
theorem tw_cd_X8_isLane : (Jvm.Cond.code ({ cls := "PitchRows", name := "isLane", desc := "(I)Z" } : Jvm.MethodName) prog_1_method_36_code (1 : Nat) (Option.some Jvm.ClassFile.FieldType.boolean)) ∈ tblG := my_in 225 (by decide +kernel) (by decide +kernel)
theorem tw_ml_X8_67 : (Jvm.Cond.methodLink "PitchRows" (67 : Nat) ({ cls := "PitchRows$Sheet", name := "faultAs", desc := "(III)I" } : Jvm.MethodName)) ∈ tblG := my_in 226 (by decide +kernel) (by decide +kernel)
theorem tw_im_X6_faultAs : (Jvm.Cond.instanceMethod ({ cls := "PitchRows$Sheet", name := "faultAs", desc := "(III)I" } : Jvm.MethodName)) ∈ tblG := my_in 227 (by decide +kernel) (by decide +kernel)
theorem tw_se_X6_X6_faultAs : (Jvm.Cond.selects "PitchRows$Sheet" ({ cls := "PitchRows$Sheet", name := "faultAs", desc := "(III)I" } : Jvm.MethodName) ({ cls := "PitchRows$Sheet", name := "faultAs", desc := "(III)I" } : Jvm.MethodName)) ∈ tblG := my_in 228 (by decide +kernel) (by decide +kernel)
theorem tw_cd_X6_faultAs : (Jvm.Cond.code ({ cls := "PitchRows$Sheet", name := "faultAs", desc := "(III)I" } : Jvm.MethodName) prog_8_method_4_code (4 : Nat) (Option.some Jvm.ClassFile.FieldType.int)) ∈ tblG := my_in 229 (by decide +kernel) (by decide +kernel)
theorem tw_ml_X6_32 : (Jvm.Cond.methodLink "PitchRows$Sheet" (32 : Nat) ({ cls := "PitchRows$Sheet", name := "holds", desc := "(II)Z" } : Jvm.MethodName)) ∈ tblG := my_in 230 (by decide +kernel) (by decide +kernel)
theorem tw_im_X6_holds : (Jvm.Cond.instanceMethod ({ cls := "PitchRows$Sheet", name := "holds", desc := "(II)Z" } : Jvm.MethodName)) ∈ tblG := my_in 231 (by decide +kernel) (by decide +kernel)
theorem tw_se_X6_X6_holds : (Jvm.Cond.selects "PitchRows$Sheet" ({ cls := "PitchRows$Sheet", name := "holds", desc := "(II)Z" } : Jvm.MethodName) ({ cls := "PitchRows$Sheet", name := "holds", desc := "(II)Z" } : Jvm.MethodName)) ∈ tblG := my_in 232 (by decide +kernel) (by decide +kernel)
theorem tw_cd_X6_holds : (Jvm.Cond.code ({ cls := "PitchRows$Sheet", name := "holds", desc := "(II)Z" } : Jvm.MethodName) prog_8_method_3_code (3 : Nat) (Option.some Jvm.ClassFile.FieldType.boolean)) ∈ tblG := my_in 233 (by decide +kernel) (by decide +kernel)
theorem tw_ml_X8_71 : (Jvm.Cond.methodLink "PitchRows" (71 : Nat) ({ cls := "PitchRows", name := "faulted", desc := "(I)I" } : Jvm.MethodName)) ∈ tblG := my_in 234 (by decide +kernel) (by decide +kernel)
theorem tw_im_X8_faulted : (Jvm.Cond.instanceMethod ({ cls := "PitchRows", name := "faulted", desc := "(I)I" } : Jvm.MethodName)) ∈ tblG := my_in 236 (by decide +kernel) (by decide +kernel)
theorem tw_cd_X8_faulted : (Jvm.Cond.code ({ cls := "PitchRows", name := "faulted", desc := "(I)I" } : Jvm.MethodName) prog_1_method_38_code (2 : Nat) (Option.some Jvm.ClassFile.FieldType.int)) ∈ tblG := my_in 237 (by decide +kernel) (by decide +kernel)
theorem tw_ml_X8_75 : (Jvm.Cond.methodLink "PitchRows" (75 : Nat) ({ cls := "PitchRows$TextReader", name := "readUpTo", desc := "(LPitchRows$Sheet;II)I" } : Jvm.MethodName)) ∈ tblG := my_in 238 (by decide +kernel) (by decide +kernel)
theorem tw_im_X7_readUpTo : (Jvm.Cond.instanceMethod ({ cls := "PitchRows$TextReader", name := "readUpTo", desc := "(LPitchRows$Sheet;II)I" } : Jvm.MethodName)) ∈ tblG := my_in 239 (by decide +kernel) (by decide +kernel)
theorem tw_se_X7_X7_readUpTo : (Jvm.Cond.selects "PitchRows$TextReader" ({ cls := "PitchRows$TextReader", name := "readUpTo", desc := "(LPitchRows$Sheet;II)I" } : Jvm.MethodName) ({ cls := "PitchRows$TextReader", name := "readUpTo", desc := "(LPitchRows$Sheet;II)I" } : Jvm.MethodName)) ∈ tblG := my_in 240 (by decide +kernel) (by decide +kernel)
theorem tw_cd_X7_readUpTo : (Jvm.Cond.code ({ cls := "PitchRows$TextReader", name := "readUpTo", desc := "(LPitchRows$Sheet;II)I" } : Jvm.MethodName) prog_9_method_2_code (5 : Nat) (Option.some Jvm.ClassFile.FieldType.int)) ∈ tblG := my_in 241 (by decide +kernel) (by decide +kernel)
theorem tw_ml_X7_31 : (Jvm.Cond.methodLink "PitchRows$TextReader" (31 : Nat) ({ cls := "PitchRows$TextReader", name := "goesOn", desc := "(II)Z" } : Jvm.MethodName)) ∈ tblG := my_in 242 (by decide +kernel) (by decide +kernel)
theorem tw_im_X7_goesOn : (Jvm.Cond.instanceMethod ({ cls := "PitchRows$TextReader", name := "goesOn", desc := "(II)Z" } : Jvm.MethodName)) ∈ tblG := my_in 244 (by decide +kernel) (by decide +kernel)
theorem tw_cd_X7_goesOn : (Jvm.Cond.code ({ cls := "PitchRows$TextReader", name := "goesOn", desc := "(II)Z" } : Jvm.MethodName) prog_9_method_3_code (3 : Nat) (Option.some Jvm.ClassFile.FieldType.boolean)) ∈ tblG := my_in 245 (by decide +kernel) (by decide +kernel)
theorem tw_ml_X7_39 : (Jvm.Cond.methodLink "PitchRows$TextReader" (39 : Nat) ({ cls := "PitchRows$TextReader", name := "fitsPart", desc := "(I)Z" } : Jvm.MethodName)) ∈ tblG := my_in 247 (by decide +kernel) (by decide +kernel)
theorem tw_im_X7_fitsPart : (Jvm.Cond.instanceMethod ({ cls := "PitchRows$TextReader", name := "fitsPart", desc := "(I)Z" } : Jvm.MethodName)) ∈ tblG := my_in 249 (by decide +kernel) (by decide +kernel)
theorem tw_cd_X7_fitsPart : (Jvm.Cond.code ({ cls := "PitchRows$TextReader", name := "fitsPart", desc := "(I)Z" } : Jvm.MethodName) prog_9_method_4_code (2 : Nat) (Option.some Jvm.ClassFile.FieldType.boolean)) ∈ tblG := my_in 250 (by decide +kernel) (by decide +kernel)
theorem tw_ml_X7_43 : (Jvm.Cond.methodLink "PitchRows$TextReader" (43 : Nat) ({ cls := "PitchRows$TextReader", name := "kindOf", desc := "(I)I" } : Jvm.MethodName)) ∈ tblG := my_in 251 (by decide +kernel) (by decide +kernel)
theorem tw_st_X7_kindOf : (Jvm.Cond.static ({ cls := "PitchRows$TextReader", name := "kindOf", desc := "(I)I" } : Jvm.MethodName)) ∈ tblG := my_in 252 (by decide +kernel) (by decide +kernel)
theorem tw_cd_X7_kindOf : (Jvm.Cond.code ({ cls := "PitchRows$TextReader", name := "kindOf", desc := "(I)I" } : Jvm.MethodName) prog_9_method_5_code (1 : Nat) (Option.some Jvm.ClassFile.FieldType.int)) ∈ tblG := my_in 253 (by decide +kernel) (by decide +kernel)
theorem tw_ml_X8_86 : (Jvm.Cond.methodLink "PitchRows" (86 : Nat) ({ cls := "PitchRows$Choir", name := "take", desc := "(LPitchRows$Sheet;II)V" } : Jvm.MethodName)) ∈ tblG := my_in 254 (by decide +kernel) (by decide +kernel)
theorem tw_im_X2_take : (Jvm.Cond.instanceMethod ({ cls := "PitchRows$Choir", name := "take", desc := "(LPitchRows$Sheet;II)V" } : Jvm.MethodName)) ∈ tblG := my_in 255 (by decide +kernel) (by decide +kernel)
theorem tw_se_X2_X2_take : (Jvm.Cond.selects "PitchRows$Choir" ({ cls := "PitchRows$Choir", name := "take", desc := "(LPitchRows$Sheet;II)V" } : Jvm.MethodName) ({ cls := "PitchRows$Choir", name := "take", desc := "(LPitchRows$Sheet;II)V" } : Jvm.MethodName)) ∈ tblG := my_in 256 (by decide +kernel) (by decide +kernel)
theorem tw_cd_X2_take : (Jvm.Cond.code ({ cls := "PitchRows$Choir", name := "take", desc := "(LPitchRows$Sheet;II)V" } : Jvm.MethodName) prog_4_method_5_code (8 : Nat) (Option.none : Option Jvm.ClassFile.FieldType)) ∈ tblG := my_in 257 (by decide +kernel) (by decide +kernel)
theorem tw_ml_X2_39 : (Jvm.Cond.methodLink "PitchRows$Choir" (39 : Nat) ({ cls := "PitchRows$TextReader", name := "kindOf", desc := "(I)I" } : Jvm.MethodName)) ∈ tblG := my_in 258 (by decide +kernel) (by decide +kernel)
theorem tw_ml_L_18 : (Jvm.Cond.methodLink "PitchRowsLaw" (18 : Nat) ({ cls := "PitchRows", name := "ofCaller", desc := "(II)I" } : Jvm.MethodName)) ∈ tblG := my_in 259 (by decide +kernel) (by decide +kernel)
theorem tw_im_X8_ofCaller : (Jvm.Cond.instanceMethod ({ cls := "PitchRows", name := "ofCaller", desc := "(II)I" } : Jvm.MethodName)) ∈ tblG := my_in 260 (by decide +kernel) (by decide +kernel)
theorem tw_se_X8_X8_ofCaller : (Jvm.Cond.selects "PitchRows" ({ cls := "PitchRows", name := "ofCaller", desc := "(II)I" } : Jvm.MethodName) ({ cls := "PitchRows", name := "ofCaller", desc := "(II)I" } : Jvm.MethodName)) ∈ tblG := my_in 261 (by decide +kernel) (by decide +kernel)
theorem tw_cd_X8_ofCaller : (Jvm.Cond.code ({ cls := "PitchRows", name := "ofCaller", desc := "(II)I" } : Jvm.MethodName) prog_1_method_3_code (4 : Nat) (Option.some Jvm.ClassFile.FieldType.int)) ∈ tblG := my_in 262 (by decide +kernel) (by decide +kernel)
theorem tw_ml_X8_95 : (Jvm.Cond.methodLink "PitchRows" (95 : Nat) ({ cls := "PitchRows$Choir", name := "has", desc := "(I)Z" } : Jvm.MethodName)) ∈ tblG := my_in 263 (by decide +kernel) (by decide +kernel)
theorem tw_im_X2_has : (Jvm.Cond.instanceMethod ({ cls := "PitchRows$Choir", name := "has", desc := "(I)Z" } : Jvm.MethodName)) ∈ tblG := my_in 264 (by decide +kernel) (by decide +kernel)
theorem tw_se_X2_X2_has : (Jvm.Cond.selects "PitchRows$Choir" ({ cls := "PitchRows$Choir", name := "has", desc := "(I)Z" } : Jvm.MethodName) ({ cls := "PitchRows$Choir", name := "has", desc := "(I)Z" } : Jvm.MethodName)) ∈ tblG := my_in 265 (by decide +kernel) (by decide +kernel)
theorem tw_cd_X2_has : (Jvm.Cond.code ({ cls := "PitchRows$Choir", name := "has", desc := "(I)Z" } : Jvm.MethodName) prog_4_method_2_code (2 : Nat) (Option.some Jvm.ClassFile.FieldType.boolean)) ∈ tblG := my_in 266 (by decide +kernel) (by decide +kernel)
theorem tw_ml_X8_109 : (Jvm.Cond.methodLink "PitchRows" (109 : Nat) ({ cls := "PitchRows$Caller", name := "freeBeats", desc := "(I)I" } : Jvm.MethodName)) ∈ tblG := my_in 268 (by decide +kernel) (by decide +kernel)
theorem tw_im_X1_freeBeats : (Jvm.Cond.instanceMethod ({ cls := "PitchRows$Caller", name := "freeBeats", desc := "(I)I" } : Jvm.MethodName)) ∈ tblG := my_in 269 (by decide +kernel) (by decide +kernel)
theorem tw_se_X1_X1_freeBeats : (Jvm.Cond.selects "PitchRows$Caller" ({ cls := "PitchRows$Caller", name := "freeBeats", desc := "(I)I" } : Jvm.MethodName) ({ cls := "PitchRows$Caller", name := "freeBeats", desc := "(I)I" } : Jvm.MethodName)) ∈ tblG := my_in 270 (by decide +kernel) (by decide +kernel)
theorem tw_cd_X1_freeBeats : (Jvm.Cond.code ({ cls := "PitchRows$Caller", name := "freeBeats", desc := "(I)I" } : Jvm.MethodName) prog_3_method_2_code (4 : Nat) (Option.some Jvm.ClassFile.FieldType.int)) ∈ tblG := my_in 271 (by decide +kernel) (by decide +kernel)
theorem tw_ml_X8_116 : (Jvm.Cond.methodLink "PitchRows" (116 : Nat) ({ cls := "PitchRows$GoodRows", name := "isGood", desc := "([II)Z" } : Jvm.MethodName)) ∈ tblG := my_in 272 (by decide +kernel) (by decide +kernel)
theorem tw_st_X3_isGood : (Jvm.Cond.static ({ cls := "PitchRows$GoodRows", name := "isGood", desc := "([II)Z" } : Jvm.MethodName)) ∈ tblG := my_in 273 (by decide +kernel) (by decide +kernel)
theorem tw_cd_X3_isGood : (Jvm.Cond.code ({ cls := "PitchRows$GoodRows", name := "isGood", desc := "([II)Z" } : Jvm.MethodName) prog_5_method_5_code (3 : Nat) (Option.some Jvm.ClassFile.FieldType.boolean)) ∈ tblG := my_in 274 (by decide +kernel) (by decide +kernel)
theorem tw_ml_X3_32 : (Jvm.Cond.methodLink "PitchRows$GoodRows" (32 : Nat) ({ cls := "PitchRows$GoodRows", name := "staysGood", desc := "([II)Z" } : Jvm.MethodName)) ∈ tblG := my_in 275 (by decide +kernel) (by decide +kernel)
theorem tw_st_X3_staysGood : (Jvm.Cond.static ({ cls := "PitchRows$GoodRows", name := "staysGood", desc := "([II)Z" } : Jvm.MethodName)) ∈ tblG := my_in 276 (by decide +kernel) (by decide +kernel)
theorem tw_cd_X3_staysGood : (Jvm.Cond.code ({ cls := "PitchRows$GoodRows", name := "staysGood", desc := "([II)Z" } : Jvm.MethodName) prog_5_method_6_code (5 : Nat) (Option.some Jvm.ClassFile.FieldType.boolean)) ∈ tblG := my_in 277 (by decide +kernel) (by decide +kernel)
theorem tw_ml_X8_124 : (Jvm.Cond.methodLink "PitchRows" (124 : Nat) ({ cls := "PitchRows", name := "toldPitch", desc := "(LPitchRows$Caller;I)I" } : Jvm.MethodName)) ∈ tblG := my_in 278 (by decide +kernel) (by decide +kernel)
theorem tw_im_X8_toldPitch : (Jvm.Cond.instanceMethod ({ cls := "PitchRows", name := "toldPitch", desc := "(LPitchRows$Caller;I)I" } : Jvm.MethodName)) ∈ tblG := my_in 280 (by decide +kernel) (by decide +kernel)
theorem tw_cd_X8_toldPitch : (Jvm.Cond.code ({ cls := "PitchRows", name := "toldPitch", desc := "(LPitchRows$Caller;I)I" } : Jvm.MethodName) prog_1_method_39_code (3 : Nat) (Option.some Jvm.ClassFile.FieldType.int)) ∈ tblG := my_in 281 (by decide +kernel) (by decide +kernel)
theorem tw_ml_X8_128 : (Jvm.Cond.methodLink "PitchRows" (128 : Nat) ({ cls := "PitchRows$Choir", name := "hasBeat", desc := "(I)Z" } : Jvm.MethodName)) ∈ tblG := my_in 282 (by decide +kernel) (by decide +kernel)
theorem tw_im_X2_hasBeat : (Jvm.Cond.instanceMethod ({ cls := "PitchRows$Choir", name := "hasBeat", desc := "(I)Z" } : Jvm.MethodName)) ∈ tblG := my_in 283 (by decide +kernel) (by decide +kernel)
theorem tw_se_X2_X2_hasBeat : (Jvm.Cond.selects "PitchRows$Choir" ({ cls := "PitchRows$Choir", name := "hasBeat", desc := "(I)Z" } : Jvm.MethodName) ({ cls := "PitchRows$Choir", name := "hasBeat", desc := "(I)Z" } : Jvm.MethodName)) ∈ tblG := my_in 284 (by decide +kernel) (by decide +kernel)
theorem tw_cd_X2_hasBeat : (Jvm.Cond.code ({ cls := "PitchRows$Choir", name := "hasBeat", desc := "(I)Z" } : Jvm.MethodName) prog_4_method_3_code (2 : Nat) (Option.some Jvm.ClassFile.FieldType.boolean)) ∈ tblG := my_in 285 (by decide +kernel) (by decide +kernel)
theorem tw_ml_L_23 : (Jvm.Cond.methodLink "PitchRowsLaw" (23 : Nat) ({ cls := "PitchRows", name := "tune", desc := "(III)I" } : Jvm.MethodName)) ∈ tblG := my_in 286 (by decide +kernel) (by decide +kernel)
theorem tw_im_X8_tune : (Jvm.Cond.instanceMethod ({ cls := "PitchRows", name := "tune", desc := "(III)I" } : Jvm.MethodName)) ∈ tblG := my_in 287 (by decide +kernel) (by decide +kernel)
theorem tw_se_X8_X8_tune : (Jvm.Cond.selects "PitchRows" ({ cls := "PitchRows", name := "tune", desc := "(III)I" } : Jvm.MethodName) ({ cls := "PitchRows", name := "tune", desc := "(III)I" } : Jvm.MethodName)) ∈ tblG := my_in 288 (by decide +kernel) (by decide +kernel)
theorem tw_cd_X8_tune : (Jvm.Cond.code ({ cls := "PitchRows", name := "tune", desc := "(III)I" } : Jvm.MethodName) prog_1_method_4_code (5 : Nat) (Option.some Jvm.ClassFile.FieldType.int)) ∈ tblG := my_in 289 (by decide +kernel) (by decide +kernel)
theorem tw_ml_L_28 : (Jvm.Cond.methodLink "PitchRowsLaw" (28 : Nat) ({ cls := "PitchRows", name := "hears", desc := "(IIII)I" } : Jvm.MethodName)) ∈ tblG := my_in 290 (by decide +kernel) (by decide +kernel)
theorem tw_im_X8_hears : (Jvm.Cond.instanceMethod ({ cls := "PitchRows", name := "hears", desc := "(IIII)I" } : Jvm.MethodName)) ∈ tblG := my_in 291 (by decide +kernel) (by decide +kernel)
theorem tw_se_X8_X8_hears : (Jvm.Cond.selects "PitchRows" ({ cls := "PitchRows", name := "hears", desc := "(IIII)I" } : Jvm.MethodName) ({ cls := "PitchRows", name := "hears", desc := "(IIII)I" } : Jvm.MethodName)) ∈ tblG := my_in 292 (by decide +kernel) (by decide +kernel)
theorem tw_cd_X8_hears : (Jvm.Cond.code ({ cls := "PitchRows", name := "hears", desc := "(IIII)I" } : Jvm.MethodName) prog_1_method_5_code (5 : Nat) (Option.some Jvm.ClassFile.FieldType.int)) ∈ tblG := my_in 293 (by decide +kernel) (by decide +kernel)
theorem tw_ml_X8_131 : (Jvm.Cond.methodLink "PitchRows" (131 : Nat) ({ cls := "PitchRows", name := "isShift", desc := "(I)Z" } : Jvm.MethodName)) ∈ tblG := my_in 294 (by decide +kernel) (by decide +kernel)
theorem tw_st_X8_isShift : (Jvm.Cond.static ({ cls := "PitchRows", name := "isShift", desc := "(I)Z" } : Jvm.MethodName)) ∈ tblG := my_in 295 (by decide +kernel) (by decide +kernel)
theorem tw_cd_X8_isShift : (Jvm.Cond.code ({ cls := "PitchRows", name := "isShift", desc := "(I)Z" } : Jvm.MethodName) prog_1_method_34_code (1 : Nat) (Option.some Jvm.ClassFile.FieldType.boolean)) ∈ tblG := my_in 296 (by decide +kernel) (by decide +kernel)
theorem tw_ml_X8_134 : (Jvm.Cond.methodLink "PitchRows" (134 : Nat) ({ cls := "PitchRows$Choir", name := "heard", desc := "(IIII)I" } : Jvm.MethodName)) ∈ tblG := my_in 297 (by decide +kernel) (by decide +kernel)
theorem tw_im_X2_heard : (Jvm.Cond.instanceMethod ({ cls := "PitchRows$Choir", name := "heard", desc := "(IIII)I" } : Jvm.MethodName)) ∈ tblG := my_in 298 (by decide +kernel) (by decide +kernel)
theorem tw_se_X2_X2_heard : (Jvm.Cond.selects "PitchRows$Choir" ({ cls := "PitchRows$Choir", name := "heard", desc := "(IIII)I" } : Jvm.MethodName) ({ cls := "PitchRows$Choir", name := "heard", desc := "(IIII)I" } : Jvm.MethodName)) ∈ tblG := my_in 299 (by decide +kernel) (by decide +kernel)
theorem tw_cd_X2_heard : (Jvm.Cond.code ({ cls := "PitchRows$Choir", name := "heard", desc := "(IIII)I" } : Jvm.MethodName) prog_4_method_6_code (11 : Nat) (Option.some Jvm.ClassFile.FieldType.int)) ∈ tblG := my_in 300 (by decide +kernel) (by decide +kernel)
theorem tw_ml_X2_50 : (Jvm.Cond.methodLink "PitchRows$Choir" (50 : Nat) ({ cls := "PitchRows$Choir", name := "hasBeat", desc := "(I)Z" } : Jvm.MethodName)) ∈ tblG := my_in 301 (by decide +kernel) (by decide +kernel)
theorem tw_ml_X2_54 : (Jvm.Cond.methodLink "PitchRows$Choir" (54 : Nat) ({ cls := "PitchRows$Caller", name := "counted", desc := "(ZZ)I" } : Jvm.MethodName)) ∈ tblG := my_in 302 (by decide +kernel) (by decide +kernel)
theorem tw_im_X1_counted : (Jvm.Cond.instanceMethod ({ cls := "PitchRows$Caller", name := "counted", desc := "(ZZ)I" } : Jvm.MethodName)) ∈ tblG := my_in 303 (by decide +kernel) (by decide +kernel)
theorem tw_se_X1_X1_counted : (Jvm.Cond.selects "PitchRows$Caller" ({ cls := "PitchRows$Caller", name := "counted", desc := "(ZZ)I" } : Jvm.MethodName) ({ cls := "PitchRows$Caller", name := "counted", desc := "(ZZ)I" } : Jvm.MethodName)) ∈ tblG := my_in 304 (by decide +kernel) (by decide +kernel)
theorem tw_cd_X1_counted : (Jvm.Cond.code ({ cls := "PitchRows$Caller", name := "counted", desc := "(ZZ)I" } : Jvm.MethodName) prog_3_method_3_code (5 : Nat) (Option.some Jvm.ClassFile.FieldType.int)) ∈ tblG := my_in 305 (by decide +kernel) (by decide +kernel)
theorem tw_ml_L_32 : (Jvm.Cond.methodLink "PitchRowsLaw" (32 : Nat) ({ cls := "PitchRows", name := "send", desc := "(III)I" } : Jvm.MethodName)) ∈ tblG := my_in 306 (by decide +kernel) (by decide +kernel)
theorem tw_im_X8_send : (Jvm.Cond.instanceMethod ({ cls := "PitchRows", name := "send", desc := "(III)I" } : Jvm.MethodName)) ∈ tblG := my_in 307 (by decide +kernel) (by decide +kernel)
theorem tw_se_X8_X8_send : (Jvm.Cond.selects "PitchRows" ({ cls := "PitchRows", name := "send", desc := "(III)I" } : Jvm.MethodName) ({ cls := "PitchRows", name := "send", desc := "(III)I" } : Jvm.MethodName)) ∈ tblG := my_in 308 (by decide +kernel) (by decide +kernel)
theorem tw_cd_X8_send : (Jvm.Cond.code ({ cls := "PitchRows", name := "send", desc := "(III)I" } : Jvm.MethodName) prog_1_method_6_code (4 : Nat) (Option.some Jvm.ClassFile.FieldType.int)) ∈ tblG := my_in 309 (by decide +kernel) (by decide +kernel)
theorem tw_ml_X8_138 : (Jvm.Cond.methodLink "PitchRows" (138 : Nat) ({ cls := "PitchRows$Air", name := "add", desc := "(III)Z" } : Jvm.MethodName)) ∈ tblG := my_in 310 (by decide +kernel) (by decide +kernel)
theorem tw_im_X0_add : (Jvm.Cond.instanceMethod ({ cls := "PitchRows$Air", name := "add", desc := "(III)Z" } : Jvm.MethodName)) ∈ tblG := my_in 311 (by decide +kernel) (by decide +kernel)
theorem tw_se_X0_X0_add : (Jvm.Cond.selects "PitchRows$Air" ({ cls := "PitchRows$Air", name := "add", desc := "(III)Z" } : Jvm.MethodName) ({ cls := "PitchRows$Air", name := "add", desc := "(III)Z" } : Jvm.MethodName)) ∈ tblG := my_in 312 (by decide +kernel) (by decide +kernel)
theorem tw_cd_X0_add : (Jvm.Cond.code ({ cls := "PitchRows$Air", name := "add", desc := "(III)Z" } : Jvm.MethodName) prog_2_method_2_code (4 : Nat) (Option.some Jvm.ClassFile.FieldType.boolean)) ∈ tblG := my_in 313 (by decide +kernel) (by decide +kernel)
theorem tw_ml_L_36 : (Jvm.Cond.methodLink "PitchRowsLaw" (36 : Nat) ({ cls := "PitchRows", name := "unsend", desc := "(I)I" } : Jvm.MethodName)) ∈ tblG := my_in 314 (by decide +kernel) (by decide +kernel)
theorem tw_im_X8_unsend : (Jvm.Cond.instanceMethod ({ cls := "PitchRows", name := "unsend", desc := "(I)I" } : Jvm.MethodName)) ∈ tblG := my_in 315 (by decide +kernel) (by decide +kernel)
theorem tw_se_X8_X8_unsend : (Jvm.Cond.selects "PitchRows" ({ cls := "PitchRows", name := "unsend", desc := "(I)I" } : Jvm.MethodName) ({ cls := "PitchRows", name := "unsend", desc := "(I)I" } : Jvm.MethodName)) ∈ tblG := my_in 316 (by decide +kernel) (by decide +kernel)
theorem tw_cd_X8_unsend : (Jvm.Cond.code ({ cls := "PitchRows", name := "unsend", desc := "(I)I" } : Jvm.MethodName) prog_1_method_7_code (2 : Nat) (Option.some Jvm.ClassFile.FieldType.int)) ∈ tblG := my_in 317 (by decide +kernel) (by decide +kernel)
theorem tw_ml_X8_141 : (Jvm.Cond.methodLink "PitchRows" (141 : Nat) ({ cls := "PitchRows$Air", name := "takeBack", desc := "(I)Z" } : Jvm.MethodName)) ∈ tblG := my_in 318 (by decide +kernel) (by decide +kernel)
theorem tw_sm_319 : (Jvm.Cond.sameMethod "PitchRows$Air" "PitchRows$Numbered" "takeBack" "(I)Z") ∈ tblG := my_in 319 (by decide +kernel) (by decide +kernel)
theorem tw_se_X0_X4_takeBack : (Jvm.Cond.selects "PitchRows$Air" ({ cls := "PitchRows$Air", name := "takeBack", desc := "(I)Z" } : Jvm.MethodName) ({ cls := "PitchRows$Numbered", name := "takeBack", desc := "(I)Z" } : Jvm.MethodName)) ∈ tblG := my_in 321 (by decide +kernel) (by decide +kernel)
theorem tw_im_X4_takeBack : (Jvm.Cond.instanceMethod ({ cls := "PitchRows$Numbered", name := "takeBack", desc := "(I)Z" } : Jvm.MethodName)) ∈ tblG := my_in 322 (by decide +kernel) (by decide +kernel)
theorem tw_cd_X4_takeBack : (Jvm.Cond.code ({ cls := "PitchRows$Numbered", name := "takeBack", desc := "(I)Z" } : Jvm.MethodName) prog_6_method_2_code (2 : Nat) (Option.some Jvm.ClassFile.FieldType.boolean)) ∈ tblG := my_in 323 (by decide +kernel) (by decide +kernel)
theorem tw_ml_L_41 : (Jvm.Cond.methodLink "PitchRowsLaw" (41 : Nat) ({ cls := "PitchRows", name := "air", desc := "(I)I" } : Jvm.MethodName)) ∈ tblG := my_in 325 (by decide +kernel) (by decide +kernel)
theorem tw_im_X8_air : (Jvm.Cond.instanceMethod ({ cls := "PitchRows", name := "air", desc := "(I)I" } : Jvm.MethodName)) ∈ tblG := my_in 326 (by decide +kernel) (by decide +kernel)
theorem tw_se_X8_X8_air : (Jvm.Cond.selects "PitchRows" ({ cls := "PitchRows", name := "air", desc := "(I)I" } : Jvm.MethodName) ({ cls := "PitchRows", name := "air", desc := "(I)I" } : Jvm.MethodName)) ∈ tblG := my_in 327 (by decide +kernel) (by decide +kernel)
theorem tw_cd_X8_air : (Jvm.Cond.code ({ cls := "PitchRows", name := "air", desc := "(I)I" } : Jvm.MethodName) prog_1_method_8_code (2 : Nat) (Option.some Jvm.ClassFile.FieldType.int)) ∈ tblG := my_in 328 (by decide +kernel) (by decide +kernel)
theorem tw_ml_X8_144 : (Jvm.Cond.methodLink "PitchRows" (144 : Nat) ({ cls := "PitchRows$Air", name := "sound", desc := "(LPitchRows$Choir;)V" } : Jvm.MethodName)) ∈ tblG := my_in 329 (by decide +kernel) (by decide +kernel)
theorem tw_im_X0_sound : (Jvm.Cond.instanceMethod ({ cls := "PitchRows$Air", name := "sound", desc := "(LPitchRows$Choir;)V" } : Jvm.MethodName)) ∈ tblG := my_in 330 (by decide +kernel) (by decide +kernel)
theorem tw_se_X0_X0_sound : (Jvm.Cond.selects "PitchRows$Air" ({ cls := "PitchRows$Air", name := "sound", desc := "(LPitchRows$Choir;)V" } : Jvm.MethodName) ({ cls := "PitchRows$Air", name := "sound", desc := "(LPitchRows$Choir;)V" } : Jvm.MethodName)) ∈ tblG := my_in 331 (by decide +kernel) (by decide +kernel)
theorem tw_cd_X0_sound : (Jvm.Cond.code ({ cls := "PitchRows$Air", name := "sound", desc := "(LPitchRows$Choir;)V" } : Jvm.MethodName) prog_2_method_4_code (5 : Nat) (Option.none : Option Jvm.ClassFile.FieldType)) ∈ tblG := my_in 332 (by decide +kernel) (by decide +kernel)
theorem tw_ml_X0_34 : (Jvm.Cond.methodLink "PitchRows$Air" (34 : Nat) ({ cls := "java/util/Arrays", name := "fill", desc := "([II)V" } : Jvm.MethodName)) ∈ tblG := my_in 333 (by decide +kernel) (by decide +kernel)
theorem tw_st_J7_fill_53178 : (Jvm.Cond.static ({ cls := "java/util/Arrays", name := "fill", desc := "([II)V" } : Jvm.MethodName)) ∈ tblG := my_in 334 (by decide +kernel) (by decide +kernel)
theorem tw_cd_J7_fill_53178 : (Jvm.Cond.code ({ cls := "java/util/Arrays", name := "fill", desc := "([II)V" } : Jvm.MethodName) prog_15_method_103_code (4 : Nat) (Option.none : Option Jvm.ClassFile.FieldType)) ∈ tblG := my_in 335 (by decide +kernel) (by decide +kernel)
theorem tw_ml_L_45 : (Jvm.Cond.methodLink "PitchRowsLaw" (45 : Nat) ({ cls := "PitchRows", name := "listen", desc := "(II)I" } : Jvm.MethodName)) ∈ tblG := my_in 336 (by decide +kernel) (by decide +kernel)
theorem tw_im_X8_listen : (Jvm.Cond.instanceMethod ({ cls := "PitchRows", name := "listen", desc := "(II)I" } : Jvm.MethodName)) ∈ tblG := my_in 337 (by decide +kernel) (by decide +kernel)
theorem tw_se_X8_X8_listen : (Jvm.Cond.selects "PitchRows" ({ cls := "PitchRows", name := "listen", desc := "(II)I" } : Jvm.MethodName) ({ cls := "PitchRows", name := "listen", desc := "(II)I" } : Jvm.MethodName)) ∈ tblG := my_in 338 (by decide +kernel) (by decide +kernel)
theorem tw_cd_X8_listen : (Jvm.Cond.code ({ cls := "PitchRows", name := "listen", desc := "(II)I" } : Jvm.MethodName) prog_1_method_9_code (3 : Nat) (Option.some Jvm.ClassFile.FieldType.int)) ∈ tblG := my_in 339 (by decide +kernel) (by decide +kernel)
theorem tw_ml_X8_151 : (Jvm.Cond.methodLink "PitchRows" (151 : Nat) ({ cls := "PitchRows$Choir", name := "listened", desc := "(I[II)I" } : Jvm.MethodName)) ∈ tblG := my_in 340 (by decide +kernel) (by decide +kernel)
theorem tw_im_X2_listened : (Jvm.Cond.instanceMethod ({ cls := "PitchRows$Choir", name := "listened", desc := "(I[II)I" } : Jvm.MethodName)) ∈ tblG := my_in 341 (by decide +kernel) (by decide +kernel)
theorem tw_se_X2_X2_listened : (Jvm.Cond.selects "PitchRows$Choir" ({ cls := "PitchRows$Choir", name := "listened", desc := "(I[II)I" } : Jvm.MethodName) ({ cls := "PitchRows$Choir", name := "listened", desc := "(I[II)I" } : Jvm.MethodName)) ∈ tblG := my_in 342 (by decide +kernel) (by decide +kernel)
theorem tw_cd_X2_listened : (Jvm.Cond.code ({ cls := "PitchRows$Choir", name := "listened", desc := "(I[II)I" } : Jvm.MethodName) prog_4_method_7_code (10 : Nat) (Option.some Jvm.ClassFile.FieldType.int)) ∈ tblG := my_in 343 (by decide +kernel) (by decide +kernel)
theorem tw_ml_L_49 : (Jvm.Cond.methodLink "PitchRowsLaw" (49 : Nat) ({ cls := "PitchRows", name := "loudest", desc := "(II)I" } : Jvm.MethodName)) ∈ tblG := my_in 344 (by decide +kernel) (by decide +kernel)
theorem tw_im_X8_loudest : (Jvm.Cond.instanceMethod ({ cls := "PitchRows", name := "loudest", desc := "(II)I" } : Jvm.MethodName)) ∈ tblG := my_in 345 (by decide +kernel) (by decide +kernel)
theorem tw_se_X8_X8_loudest : (Jvm.Cond.selects "PitchRows" ({ cls := "PitchRows", name := "loudest", desc := "(II)I" } : Jvm.MethodName) ({ cls := "PitchRows", name := "loudest", desc := "(II)I" } : Jvm.MethodName)) ∈ tblG := my_in 346 (by decide +kernel) (by decide +kernel)
theorem tw_cd_X8_loudest : (Jvm.Cond.code ({ cls := "PitchRows", name := "loudest", desc := "(II)I" } : Jvm.MethodName) prog_1_method_10_code (4 : Nat) (Option.some Jvm.ClassFile.FieldType.int)) ∈ tblG := my_in 347 (by decide +kernel) (by decide +kernel)
theorem tw_ml_X8_155 : (Jvm.Cond.methodLink "PitchRows" (155 : Nat) ({ cls := "PitchRows$Choir", name := "loudestMoment", desc := "(I[I)I" } : Jvm.MethodName)) ∈ tblG := my_in 348 (by decide +kernel) (by decide +kernel)
theorem tw_im_X2_loudestMoment : (Jvm.Cond.instanceMethod ({ cls := "PitchRows$Choir", name := "loudestMoment", desc := "(I[I)I" } : Jvm.MethodName)) ∈ tblG := my_in 349 (by decide +kernel) (by decide +kernel)
theorem tw_se_X2_X2_loudestMoment : (Jvm.Cond.selects "PitchRows$Choir" ({ cls := "PitchRows$Choir", name := "loudestMoment", desc := "(I[I)I" } : Jvm.MethodName) ({ cls := "PitchRows$Choir", name := "loudestMoment", desc := "(I[I)I" } : Jvm.MethodName)) ∈ tblG := my_in 350 (by decide +kernel) (by decide +kernel)
theorem tw_cd_X2_loudestMoment : (Jvm.Cond.code ({ cls := "PitchRows$Choir", name := "loudestMoment", desc := "(I[I)I" } : Jvm.MethodName) prog_4_method_8_code (7 : Nat) (Option.some Jvm.ClassFile.FieldType.int)) ∈ tblG := my_in 351 (by decide +kernel) (by decide +kernel)
theorem tw_ml_X2_58 : (Jvm.Cond.methodLink "PitchRows$Choir" (58 : Nat) ({ cls := "PitchRows$Choir", name := "listened", desc := "(I[II)I" } : Jvm.MethodName)) ∈ tblG := my_in 352 (by decide +kernel) (by decide +kernel)
theorem tw_ml_L_53 : (Jvm.Cond.methodLink "PitchRowsLaw" (53 : Nat) ({ cls := "PitchRows", name := "day", desc := "(IIIII)I" } : Jvm.MethodName)) ∈ tblG := my_in 353 (by decide +kernel) (by decide +kernel)
theorem tw_im_X8_day : (Jvm.Cond.instanceMethod ({ cls := "PitchRows", name := "day", desc := "(IIIII)I" } : Jvm.MethodName)) ∈ tblG := my_in 354 (by decide +kernel) (by decide +kernel)
theorem tw_se_X8_X8_day : (Jvm.Cond.selects "PitchRows" ({ cls := "PitchRows", name := "day", desc := "(IIIII)I" } : Jvm.MethodName) ({ cls := "PitchRows", name := "day", desc := "(IIIII)I" } : Jvm.MethodName)) ∈ tblG := my_in 355 (by decide +kernel) (by decide +kernel)
theorem tw_cd_X8_day : (Jvm.Cond.code ({ cls := "PitchRows", name := "day", desc := "(IIIII)I" } : Jvm.MethodName) prog_1_method_11_code (8 : Nat) (Option.some Jvm.ClassFile.FieldType.int)) ∈ tblG := my_in 356 (by decide +kernel) (by decide +kernel)
theorem tw_ml_X8_159 : (Jvm.Cond.methodLink "PitchRows" (159 : Nat) ({ cls := "PitchRows", name := "isDayQuestion", desc := "(I)Z" } : Jvm.MethodName)) ∈ tblG := my_in 357 (by decide +kernel) (by decide +kernel)
theorem tw_st_X8_isDayQuestion : (Jvm.Cond.static ({ cls := "PitchRows", name := "isDayQuestion", desc := "(I)Z" } : Jvm.MethodName)) ∈ tblG := my_in 358 (by decide +kernel) (by decide +kernel)
theorem tw_cd_X8_isDayQuestion : (Jvm.Cond.code ({ cls := "PitchRows", name := "isDayQuestion", desc := "(I)Z" } : Jvm.MethodName) prog_1_method_37_code (1 : Nat) (Option.some Jvm.ClassFile.FieldType.boolean)) ∈ tblG := my_in 359 (by decide +kernel) (by decide +kernel)
theorem tw_ml_X8_162 : (Jvm.Cond.methodLink "PitchRows" (162 : Nat) ({ cls := "PitchRows", name := "areActs", desc := "(LPitchRows$Sheet;II)Z" } : Jvm.MethodName)) ∈ tblG := my_in 360 (by decide +kernel) (by decide +kernel)
theorem tw_st_X8_areActs : (Jvm.Cond.static ({ cls := "PitchRows", name := "areActs", desc := "(LPitchRows$Sheet;II)Z" } : Jvm.MethodName)) ∈ tblG := my_in 361 (by decide +kernel) (by decide +kernel)
theorem tw_cd_X8_areActs : (Jvm.Cond.code ({ cls := "PitchRows", name := "areActs", desc := "(LPitchRows$Sheet;II)Z" } : Jvm.MethodName) prog_1_method_41_code (8 : Nat) (Option.some Jvm.ClassFile.FieldType.boolean)) ∈ tblG := my_in 362 (by decide +kernel) (by decide +kernel)
theorem tw_ml_X8_166 : (Jvm.Cond.methodLink "PitchRows" (166 : Nat) ({ cls := "PitchRows$Air", name := "becomeLike", desc := "(LPitchRows$Air;)V" } : Jvm.MethodName)) ∈ tblG := my_in 363 (by decide +kernel) (by decide +kernel)
theorem tw_im_X0_becomeLike : (Jvm.Cond.instanceMethod ({ cls := "PitchRows$Air", name := "becomeLike", desc := "(LPitchRows$Air;)V" } : Jvm.MethodName)) ∈ tblG := my_in 364 (by decide +kernel) (by decide +kernel)
theorem tw_se_X0_X0_becomeLike : (Jvm.Cond.selects "PitchRows$Air" ({ cls := "PitchRows$Air", name := "becomeLike", desc := "(LPitchRows$Air;)V" } : Jvm.MethodName) ({ cls := "PitchRows$Air", name := "becomeLike", desc := "(LPitchRows$Air;)V" } : Jvm.MethodName)) ∈ tblG := my_in 365 (by decide +kernel) (by decide +kernel)
theorem tw_cd_X0_becomeLike : (Jvm.Cond.code ({ cls := "PitchRows$Air", name := "becomeLike", desc := "(LPitchRows$Air;)V" } : Jvm.MethodName) prog_2_method_3_code (2 : Nat) (Option.none : Option Jvm.ClassFile.FieldType)) ∈ tblG := my_in 366 (by decide +kernel) (by decide +kernel)
theorem tw_ml_X0_28 : (Jvm.Cond.methodLink "PitchRows$Air" (28 : Nat) ({ cls := "java/lang/System", name := "arraycopy", desc := "(Ljava/lang/Object;ILjava/lang/Object;II)V" } : Jvm.MethodName)) ∈ tblG := my_in 367 (by decide +kernel) (by decide +kernel)
theorem tw_st_J10_arraycopy : (Jvm.Cond.static ({ cls := "java/lang/System", name := "arraycopy", desc := "(Ljava/lang/Object;ILjava/lang/Object;II)V" } : Jvm.MethodName)) ∈ tblG := my_in 368 (by decide +kernel) (by decide +kernel)
theorem tw_nv_J10_arraycopy : (Jvm.Cond.native ({ cls := "java/lang/System", name := "arraycopy", desc := "(Ljava/lang/Object;ILjava/lang/Object;II)V" } : Jvm.MethodName)) ∈ tblG := my_in 369 (by decide +kernel) (by decide +kernel)
theorem tw_ml_X8_170 : (Jvm.Cond.methodLink "PitchRows" (170 : Nat) ({ cls := "PitchRows", name := "firstWrong", desc := "(LPitchRows$Sheet;II)I" } : Jvm.MethodName)) ∈ tblG := my_in 370 (by decide +kernel) (by decide +kernel)
theorem tw_im_X8_firstWrong : (Jvm.Cond.instanceMethod ({ cls := "PitchRows", name := "firstWrong", desc := "(LPitchRows$Sheet;II)I" } : Jvm.MethodName)) ∈ tblG := my_in 372 (by decide +kernel) (by decide +kernel)
theorem tw_cd_X8_firstWrong : (Jvm.Cond.code ({ cls := "PitchRows", name := "firstWrong", desc := "(LPitchRows$Sheet;II)I" } : Jvm.MethodName) prog_1_method_42_code (8 : Nat) (Option.some Jvm.ClassFile.FieldType.int)) ∈ tblG := my_in 373 (by decide +kernel) (by decide +kernel)
theorem tw_ml_X8_173 : (Jvm.Cond.methodLink "PitchRows" (173 : Nat) ({ cls := "PitchRows", name := "afterDay", desc := "(I)I" } : Jvm.MethodName)) ∈ tblG := my_in 374 (by decide +kernel) (by decide +kernel)
theorem tw_im_X8_afterDay : (Jvm.Cond.instanceMethod ({ cls := "PitchRows", name := "afterDay", desc := "(I)I" } : Jvm.MethodName)) ∈ tblG := my_in 376 (by decide +kernel) (by decide +kernel)
theorem tw_cd_X8_afterDay : (Jvm.Cond.code ({ cls := "PitchRows", name := "afterDay", desc := "(I)I" } : Jvm.MethodName) prog_1_method_43_code (2 : Nat) (Option.some Jvm.ClassFile.FieldType.int)) ∈ tblG := my_in 377 (by decide +kernel) (by decide +kernel)
theorem tw_ml_X8_262 : (Jvm.Cond.methodLink "PitchRows" (262 : Nat) ({ cls := "PitchRows$Air", name := "soundingMoments", desc := "()I" } : Jvm.MethodName)) ∈ tblG := my_in 378 (by decide +kernel) (by decide +kernel)
theorem tw_im_X0_soundingMoments : (Jvm.Cond.instanceMethod ({ cls := "PitchRows$Air", name := "soundingMoments", desc := "()I" } : Jvm.MethodName)) ∈ tblG := my_in 379 (by decide +kernel) (by decide +kernel)
theorem tw_se_X0_X0_soundingMoments : (Jvm.Cond.selects "PitchRows$Air" ({ cls := "PitchRows$Air", name := "soundingMoments", desc := "()I" } : Jvm.MethodName) ({ cls := "PitchRows$Air", name := "soundingMoments", desc := "()I" } : Jvm.MethodName)) ∈ tblG := my_in 380 (by decide +kernel) (by decide +kernel)
theorem tw_cd_X0_soundingMoments : (Jvm.Cond.code ({ cls := "PitchRows$Air", name := "soundingMoments", desc := "()I" } : Jvm.MethodName) prog_2_method_5_code (6 : Nat) (Option.some Jvm.ClassFile.FieldType.int)) ∈ tblG := my_in 381 (by decide +kernel) (by decide +kernel)
theorem tw_ml_X8_265 : (Jvm.Cond.methodLink "PitchRows" (265 : Nat) ({ cls := "PitchRows$Air", name := "lastSounding", desc := "()I" } : Jvm.MethodName)) ∈ tblG := my_in 382 (by decide +kernel) (by decide +kernel)
theorem tw_im_X0_lastSounding : (Jvm.Cond.instanceMethod ({ cls := "PitchRows$Air", name := "lastSounding", desc := "()I" } : Jvm.MethodName)) ∈ tblG := my_in 383 (by decide +kernel) (by decide +kernel)
theorem tw_se_X0_X0_lastSounding : (Jvm.Cond.selects "PitchRows$Air" ({ cls := "PitchRows$Air", name := "lastSounding", desc := "()I" } : Jvm.MethodName) ({ cls := "PitchRows$Air", name := "lastSounding", desc := "()I" } : Jvm.MethodName)) ∈ tblG := my_in 384 (by decide +kernel) (by decide +kernel)
theorem tw_cd_X0_lastSounding : (Jvm.Cond.code ({ cls := "PitchRows$Air", name := "lastSounding", desc := "()I" } : Jvm.MethodName) prog_2_method_6_code (2 : Nat) (Option.some Jvm.ClassFile.FieldType.int)) ∈ tblG := my_in 385 (by decide +kernel) (by decide +kernel)
theorem tw_ml_X8_268 : (Jvm.Cond.methodLink "PitchRows" (268 : Nat) ({ cls := "PitchRows$Air", name := "firstOfTwo", desc := "()I" } : Jvm.MethodName)) ∈ tblG := my_in 386 (by decide +kernel) (by decide +kernel)
theorem tw_im_X0_firstOfTwo : (Jvm.Cond.instanceMethod ({ cls := "PitchRows$Air", name := "firstOfTwo", desc := "()I" } : Jvm.MethodName)) ∈ tblG := my_in 387 (by decide +kernel) (by decide +kernel)
theorem tw_se_X0_X0_firstOfTwo : (Jvm.Cond.selects "PitchRows$Air" ({ cls := "PitchRows$Air", name := "firstOfTwo", desc := "()I" } : Jvm.MethodName) ({ cls := "PitchRows$Air", name := "firstOfTwo", desc := "()I" } : Jvm.MethodName)) ∈ tblG := my_in 388 (by decide +kernel) (by decide +kernel)
theorem tw_cd_X0_firstOfTwo : (Jvm.Cond.code ({ cls := "PitchRows$Air", name := "firstOfTwo", desc := "()I" } : Jvm.MethodName) prog_2_method_7_code (2 : Nat) (Option.some Jvm.ClassFile.FieldType.int)) ∈ tblG := my_in 389 (by decide +kernel) (by decide +kernel)
theorem tw_ml_X0_54 : (Jvm.Cond.methodLink "PitchRows$Air" (54 : Nat) ({ cls := "java/lang/Integer", name := "bitCount", desc := "(I)I" } : Jvm.MethodName)) ∈ tblG := my_in 390 (by decide +kernel) (by decide +kernel)
theorem tw_st_J6_bitCount_0f7a4 : (Jvm.Cond.static ({ cls := "java/lang/Integer", name := "bitCount", desc := "(I)I" } : Jvm.MethodName)) ∈ tblG := my_in 391 (by decide +kernel) (by decide +kernel)
theorem tw_cd_J6_bitCount_0f7a4 : (Jvm.Cond.code ({ cls := "java/lang/Integer", name := "bitCount", desc := "(I)I" } : Jvm.MethodName) prog_12_method_49_code (1 : Nat) (Option.some Jvm.ClassFile.FieldType.int)) ∈ tblG := my_in 392 (by decide +kernel) (by decide +kernel)
theorem tw_ki_J6_265 : (Jvm.Cond.constant "java/lang/Integer" (265 : Nat) (1431655765 : Int32)) ∈ tblG := my_in 393 (by decide +kernel) (by decide +kernel)
theorem tw_ki_J6_266 : (Jvm.Cond.constant "java/lang/Integer" (266 : Nat) (858993459 : Int32)) ∈ tblG := my_in 394 (by decide +kernel) (by decide +kernel)
theorem tw_ki_J6_267 : (Jvm.Cond.constant "java/lang/Integer" (267 : Nat) (252645135 : Int32)) ∈ tblG := my_in 395 (by decide +kernel) (by decide +kernel)
theorem tw_ml_X8_271 : (Jvm.Cond.methodLink "PitchRows" (271 : Nat) ({ cls := "PitchRows", name := "mostListened", desc := "(I[I)I" } : Jvm.MethodName)) ∈ tblG := my_in 396 (by decide +kernel) (by decide +kernel)
theorem tw_im_X8_mostListened : (Jvm.Cond.instanceMethod ({ cls := "PitchRows", name := "mostListened", desc := "(I[I)I" } : Jvm.MethodName)) ∈ tblG := my_in 398 (by decide +kernel) (by decide +kernel)
theorem tw_cd_X8_mostListened : (Jvm.Cond.code ({ cls := "PitchRows", name := "mostListened", desc := "(I[I)I" } : Jvm.MethodName) prog_1_method_44_code (3 : Nat) (Option.some Jvm.ClassFile.FieldType.int)) ∈ tblG := my_in 399 (by decide +kernel) (by decide +kernel)
theorem tw_ml_L_58 : (Jvm.Cond.methodLink "PitchRowsLaw" (58 : Nat) ({ cls := "PitchRows", name := "peak", desc := "(II)I" } : Jvm.MethodName)) ∈ tblG := my_in 400 (by decide +kernel) (by decide +kernel)
theorem tw_im_X8_peak : (Jvm.Cond.instanceMethod ({ cls := "PitchRows", name := "peak", desc := "(II)I" } : Jvm.MethodName)) ∈ tblG := my_in 401 (by decide +kernel) (by decide +kernel)
theorem tw_se_X8_X8_peak : (Jvm.Cond.selects "PitchRows" ({ cls := "PitchRows", name := "peak", desc := "(II)I" } : Jvm.MethodName) ({ cls := "PitchRows", name := "peak", desc := "(II)I" } : Jvm.MethodName)) ∈ tblG := my_in 402 (by decide +kernel) (by decide +kernel)
theorem tw_cd_X8_peak : (Jvm.Cond.code ({ cls := "PitchRows", name := "peak", desc := "(II)I" } : Jvm.MethodName) prog_1_method_12_code (9 : Nat) (Option.some Jvm.ClassFile.FieldType.int)) ∈ tblG := my_in 403 (by decide +kernel) (by decide +kernel)
theorem tw_ml_L_62 : (Jvm.Cond.methodLink "PitchRowsLaw" (62 : Nat) ({ cls := "PitchRows", name := "clash", desc := "(II)I" } : Jvm.MethodName)) ∈ tblG := my_in 404 (by decide +kernel) (by decide +kernel)
theorem tw_im_X8_clash : (Jvm.Cond.instanceMethod ({ cls := "PitchRows", name := "clash", desc := "(II)I" } : Jvm.MethodName)) ∈ tblG := my_in 405 (by decide +kernel) (by decide +kernel)
theorem tw_se_X8_X8_clash : (Jvm.Cond.selects "PitchRows" ({ cls := "PitchRows", name := "clash", desc := "(II)I" } : Jvm.MethodName) ({ cls := "PitchRows", name := "clash", desc := "(II)I" } : Jvm.MethodName)) ∈ tblG := my_in 406 (by decide +kernel) (by decide +kernel)
theorem tw_cd_X8_clash : (Jvm.Cond.code ({ cls := "PitchRows", name := "clash", desc := "(II)I" } : Jvm.MethodName) prog_1_method_13_code (6 : Nat) (Option.some Jvm.ClassFile.FieldType.int)) ∈ tblG := my_in 407 (by decide +kernel) (by decide +kernel)
theorem tw_ml_X8_176 : (Jvm.Cond.methodLink "PitchRows" (176 : Nat) ({ cls := "java/lang/Math", name := "max", desc := "(II)I" } : Jvm.MethodName)) ∈ tblG := my_in 408 (by decide +kernel) (by decide +kernel)
theorem tw_st_J9_max_7cf53 : (Jvm.Cond.static ({ cls := "java/lang/Math", name := "max", desc := "(II)I" } : Jvm.MethodName)) ∈ tblG := my_in 409 (by decide +kernel) (by decide +kernel)
theorem tw_cd_J9_max_7cf53 : (Jvm.Cond.code ({ cls := "java/lang/Math", name := "max", desc := "(II)I" } : Jvm.MethodName) prog_13_method_65_code (2 : Nat) (Option.some Jvm.ClassFile.FieldType.int)) ∈ tblG := my_in 410 (by decide +kernel) (by decide +kernel)
theorem tw_ml_L_66 : (Jvm.Cond.methodLink "PitchRowsLaw" (66 : Nat) ({ cls := "PitchRows", name := "rows", desc := "()I" } : Jvm.MethodName)) ∈ tblG := my_in 411 (by decide +kernel) (by decide +kernel)
theorem tw_im_X8_rows : (Jvm.Cond.instanceMethod ({ cls := "PitchRows", name := "rows", desc := "()I" } : Jvm.MethodName)) ∈ tblG := my_in 412 (by decide +kernel) (by decide +kernel)
theorem tw_se_X8_X8_rows : (Jvm.Cond.selects "PitchRows" ({ cls := "PitchRows", name := "rows", desc := "()I" } : Jvm.MethodName) ({ cls := "PitchRows", name := "rows", desc := "()I" } : Jvm.MethodName)) ∈ tblG := my_in 413 (by decide +kernel) (by decide +kernel)
theorem tw_cd_X8_rows : (Jvm.Cond.code ({ cls := "PitchRows", name := "rows", desc := "()I" } : Jvm.MethodName) prog_1_method_14_code (1 : Nat) (Option.some Jvm.ClassFile.FieldType.int)) ∈ tblG := my_in 414 (by decide +kernel) (by decide +kernel)
theorem tw_ml_X8_182 : (Jvm.Cond.methodLink "PitchRows" (182 : Nat) ({ cls := "PitchRows$GoodRows", name := "makeFor", desc := "(I)V" } : Jvm.MethodName)) ∈ tblG := my_in 415 (by decide +kernel) (by decide +kernel)
theorem tw_im_X3_makeFor : (Jvm.Cond.instanceMethod ({ cls := "PitchRows$GoodRows", name := "makeFor", desc := "(I)V" } : Jvm.MethodName)) ∈ tblG := my_in 416 (by decide +kernel) (by decide +kernel)
theorem tw_se_X3_X3_makeFor : (Jvm.Cond.selects "PitchRows$GoodRows" ({ cls := "PitchRows$GoodRows", name := "makeFor", desc := "(I)V" } : Jvm.MethodName) ({ cls := "PitchRows$GoodRows", name := "makeFor", desc := "(I)V" } : Jvm.MethodName)) ∈ tblG := my_in 417 (by decide +kernel) (by decide +kernel)
theorem tw_cd_X3_makeFor : (Jvm.Cond.code ({ cls := "PitchRows$GoodRows", name := "makeFor", desc := "(I)V" } : Jvm.MethodName) prog_5_method_2_code (2 : Nat) (Option.none : Option Jvm.ClassFile.FieldType)) ∈ tblG := my_in 418 (by decide +kernel) (by decide +kernel)
theorem tw_ml_X3_25 : (Jvm.Cond.methodLink "PitchRows$GoodRows" (25 : Nat) ({ cls := "PitchRows$GoodRows", name := "grow", desc := "(LPitchRows$GoodRows;I)V" } : Jvm.MethodName)) ∈ tblG := my_in 419 (by decide +kernel) (by decide +kernel)
theorem tw_st_X3_grow : (Jvm.Cond.static ({ cls := "PitchRows$GoodRows", name := "grow", desc := "(LPitchRows$GoodRows;I)V" } : Jvm.MethodName)) ∈ tblG := my_in 420 (by decide +kernel) (by decide +kernel)
theorem tw_cd_X3_grow : (Jvm.Cond.code ({ cls := "PitchRows$GoodRows", name := "grow", desc := "(LPitchRows$GoodRows;I)V" } : Jvm.MethodName) prog_5_method_3_code (3 : Nat) (Option.none : Option Jvm.ClassFile.FieldType)) ∈ tblG := my_in 421 (by decide +kernel) (by decide +kernel)
theorem tw_ml_X3_29 : (Jvm.Cond.methodLink "PitchRows$GoodRows" (29 : Nat) ({ cls := "PitchRows$GoodRows", name := "keep", desc := "()V" } : Jvm.MethodName)) ∈ tblG := my_in 422 (by decide +kernel) (by decide +kernel)
theorem tw_im_X3_keep : (Jvm.Cond.instanceMethod ({ cls := "PitchRows$GoodRows", name := "keep", desc := "()V" } : Jvm.MethodName)) ∈ tblG := my_in 424 (by decide +kernel) (by decide +kernel)
theorem tw_cd_X3_keep : (Jvm.Cond.code ({ cls := "PitchRows$GoodRows", name := "keep", desc := "()V" } : Jvm.MethodName) prog_5_method_4_code (1 : Nat) (Option.none : Option Jvm.ClassFile.FieldType)) ∈ tblG := my_in 425 (by decide +kernel) (by decide +kernel)
theorem tw_ml_X3_36 : (Jvm.Cond.methodLink "PitchRows$GoodRows" (36 : Nat) ({ cls := "PitchRows$GoodRows", name := "codeOf", desc := "([I)I" } : Jvm.MethodName)) ∈ tblG := my_in 426 (by decide +kernel) (by decide +kernel)
theorem tw_im_X3_codeOf : (Jvm.Cond.instanceMethod ({ cls := "PitchRows$GoodRows", name := "codeOf", desc := "([I)I" } : Jvm.MethodName)) ∈ tblG := my_in 428 (by decide +kernel) (by decide +kernel)
theorem tw_cd_X3_codeOf : (Jvm.Cond.code ({ cls := "PitchRows$GoodRows", name := "codeOf", desc := "([I)I" } : Jvm.MethodName) prog_5_method_7_code (4 : Nat) (Option.some Jvm.ClassFile.FieldType.int)) ∈ tblG := my_in 429 (by decide +kernel) (by decide +kernel)
theorem tw_ml_L_71 : (Jvm.Cond.methodLink "PitchRowsLaw" (71 : Nat) ({ cls := "PitchRows", name := "ways", desc := "(II)I" } : Jvm.MethodName)) ∈ tblG := my_in 430 (by decide +kernel) (by decide +kernel)
theorem tw_im_X8_ways : (Jvm.Cond.instanceMethod ({ cls := "PitchRows", name := "ways", desc := "(II)I" } : Jvm.MethodName)) ∈ tblG := my_in 431 (by decide +kernel) (by decide +kernel)
theorem tw_se_X8_X8_ways : (Jvm.Cond.selects "PitchRows" ({ cls := "PitchRows", name := "ways", desc := "(II)I" } : Jvm.MethodName) ({ cls := "PitchRows", name := "ways", desc := "(II)I" } : Jvm.MethodName)) ∈ tblG := my_in 432 (by decide +kernel) (by decide +kernel)
theorem tw_cd_X8_ways : (Jvm.Cond.code ({ cls := "PitchRows", name := "ways", desc := "(II)I" } : Jvm.MethodName) prog_1_method_15_code (4 : Nat) (Option.some Jvm.ClassFile.FieldType.int)) ∈ tblG := my_in 433 (by decide +kernel) (by decide +kernel)
theorem tw_ml_X8_187 : (Jvm.Cond.methodLink "PitchRows" (187 : Nat) ({ cls := "PitchRows$GoodRows", name := "countLike", desc := "([I)I" } : Jvm.MethodName)) ∈ tblG := my_in 434 (by decide +kernel) (by decide +kernel)
theorem tw_im_X3_countLike : (Jvm.Cond.instanceMethod ({ cls := "PitchRows$GoodRows", name := "countLike", desc := "([I)I" } : Jvm.MethodName)) ∈ tblG := my_in 435 (by decide +kernel) (by decide +kernel)
theorem tw_se_X3_X3_countLike : (Jvm.Cond.selects "PitchRows$GoodRows" ({ cls := "PitchRows$GoodRows", name := "countLike", desc := "([I)I" } : Jvm.MethodName) ({ cls := "PitchRows$GoodRows", name := "countLike", desc := "([I)I" } : Jvm.MethodName)) ∈ tblG := my_in 436 (by decide +kernel) (by decide +kernel)
theorem tw_cd_X3_countLike : (Jvm.Cond.code ({ cls := "PitchRows$GoodRows", name := "countLike", desc := "([I)I" } : Jvm.MethodName) prog_5_method_10_code (4 : Nat) (Option.some Jvm.ClassFile.FieldType.int)) ∈ tblG := my_in 437 (by decide +kernel) (by decide +kernel)
theorem tw_ml_X3_44 : (Jvm.Cond.methodLink "PitchRows$GoodRows" (44 : Nat) ({ cls := "PitchRows$GoodRows", name := "isLike", desc := "(I[I)Z" } : Jvm.MethodName)) ∈ tblG := my_in 438 (by decide +kernel) (by decide +kernel)
theorem tw_im_X3_isLike : (Jvm.Cond.instanceMethod ({ cls := "PitchRows$GoodRows", name := "isLike", desc := "(I[I)Z" } : Jvm.MethodName)) ∈ tblG := my_in 440 (by decide +kernel) (by decide +kernel)
theorem tw_cd_X3_isLike : (Jvm.Cond.code ({ cls := "PitchRows$GoodRows", name := "isLike", desc := "(I[I)Z" } : Jvm.MethodName) prog_5_method_9_code (4 : Nat) (Option.some Jvm.ClassFile.FieldType.boolean)) ∈ tblG := my_in 441 (by decide +kernel) (by decide +kernel)
theorem tw_ml_X3_40 : (Jvm.Cond.methodLink "PitchRows$GoodRows" (40 : Nat) ({ cls := "PitchRows$GoodRows", name := "pitchOf", desc := "(II)I" } : Jvm.MethodName)) ∈ tblG := my_in 442 (by decide +kernel) (by decide +kernel)
theorem tw_im_X3_pitchOf : (Jvm.Cond.instanceMethod ({ cls := "PitchRows$GoodRows", name := "pitchOf", desc := "(II)I" } : Jvm.MethodName)) ∈ tblG := my_in 443 (by decide +kernel) (by decide +kernel)
theorem tw_se_X3_X3_pitchOf : (Jvm.Cond.selects "PitchRows$GoodRows" ({ cls := "PitchRows$GoodRows", name := "pitchOf", desc := "(II)I" } : Jvm.MethodName) ({ cls := "PitchRows$GoodRows", name := "pitchOf", desc := "(II)I" } : Jvm.MethodName)) ∈ tblG := my_in 444 (by decide +kernel) (by decide +kernel)
theorem tw_cd_X3_pitchOf : (Jvm.Cond.code ({ cls := "PitchRows$GoodRows", name := "pitchOf", desc := "(II)I" } : Jvm.MethodName) prog_5_method_8_code (3 : Nat) (Option.some Jvm.ClassFile.FieldType.int)) ∈ tblG := my_in 445 (by decide +kernel) (by decide +kernel)
theorem tw_ml_X8_191 : (Jvm.Cond.methodLink "PitchRows" (191 : Nat) ({ cls := "PitchRows$GoodRows", name := "firstLike", desc := "([I)I" } : Jvm.MethodName)) ∈ tblG := my_in 446 (by decide +kernel) (by decide +kernel)
theorem tw_im_X3_firstLike : (Jvm.Cond.instanceMethod ({ cls := "PitchRows$GoodRows", name := "firstLike", desc := "([I)I" } : Jvm.MethodName)) ∈ tblG := my_in 447 (by decide +kernel) (by decide +kernel)
theorem tw_se_X3_X3_firstLike : (Jvm.Cond.selects "PitchRows$GoodRows" ({ cls := "PitchRows$GoodRows", name := "firstLike", desc := "([I)I" } : Jvm.MethodName) ({ cls := "PitchRows$GoodRows", name := "firstLike", desc := "([I)I" } : Jvm.MethodName)) ∈ tblG := my_in 448 (by decide +kernel) (by decide +kernel)
theorem tw_cd_X3_firstLike : (Jvm.Cond.code ({ cls := "PitchRows$GoodRows", name := "firstLike", desc := "([I)I" } : Jvm.MethodName) prog_5_method_11_code (3 : Nat) (Option.some Jvm.ClassFile.FieldType.int)) ∈ tblG := my_in 449 (by decide +kernel) (by decide +kernel)
theorem tw_ml_X8_194 : (Jvm.Cond.methodLink "PitchRows" (194 : Nat) ({ cls := "PitchRows$GoodRows", name := "pitchOf", desc := "(II)I" } : Jvm.MethodName)) ∈ tblG := my_in 450 (by decide +kernel) (by decide +kernel)
theorem tw_ml_L_75 : (Jvm.Cond.methodLink "PitchRowsLaw" (75 : Nat) ({ cls := "PitchRows", name := "next", desc := "(II)I" } : Jvm.MethodName)) ∈ tblG := my_in 451 (by decide +kernel) (by decide +kernel)
theorem tw_im_X8_next : (Jvm.Cond.instanceMethod ({ cls := "PitchRows", name := "next", desc := "(II)I" } : Jvm.MethodName)) ∈ tblG := my_in 452 (by decide +kernel) (by decide +kernel)
theorem tw_se_X8_X8_next : (Jvm.Cond.selects "PitchRows" ({ cls := "PitchRows", name := "next", desc := "(II)I" } : Jvm.MethodName) ({ cls := "PitchRows", name := "next", desc := "(II)I" } : Jvm.MethodName)) ∈ tblG := my_in 453 (by decide +kernel) (by decide +kernel)
theorem tw_cd_X8_next : (Jvm.Cond.code ({ cls := "PitchRows", name := "next", desc := "(II)I" } : Jvm.MethodName) prog_1_method_16_code (3 : Nat) (Option.some Jvm.ClassFile.FieldType.int)) ∈ tblG := my_in 454 (by decide +kernel) (by decide +kernel)
theorem tw_ml_X8_197 : (Jvm.Cond.methodLink "PitchRows" (197 : Nat) ({ cls := "PitchRows$GoodRows", name := "firstBehind", desc := "([I)I" } : Jvm.MethodName)) ∈ tblG := my_in 455 (by decide +kernel) (by decide +kernel)
theorem tw_im_X3_firstBehind : (Jvm.Cond.instanceMethod ({ cls := "PitchRows$GoodRows", name := "firstBehind", desc := "([I)I" } : Jvm.MethodName)) ∈ tblG := my_in 456 (by decide +kernel) (by decide +kernel)
theorem tw_se_X3_X3_firstBehind : (Jvm.Cond.selects "PitchRows$GoodRows" ({ cls := "PitchRows$GoodRows", name := "firstBehind", desc := "([I)I" } : Jvm.MethodName) ({ cls := "PitchRows$GoodRows", name := "firstBehind", desc := "([I)I" } : Jvm.MethodName)) ∈ tblG := my_in 457 (by decide +kernel) (by decide +kernel)
theorem tw_cd_X3_firstBehind : (Jvm.Cond.code ({ cls := "PitchRows$GoodRows", name := "firstBehind", desc := "([I)I" } : Jvm.MethodName) prog_5_method_12_code (4 : Nat) (Option.some Jvm.ClassFile.FieldType.int)) ∈ tblG := my_in 458 (by decide +kernel) (by decide +kernel)
theorem tw_ml_L_79 : (Jvm.Cond.methodLink "PitchRowsLaw" (79 : Nat) ({ cls := "PitchRows", name := "reading", desc := "(IIIII)I" } : Jvm.MethodName)) ∈ tblG := my_in 459 (by decide +kernel) (by decide +kernel)
theorem tw_im_X8_reading : (Jvm.Cond.instanceMethod ({ cls := "PitchRows", name := "reading", desc := "(IIIII)I" } : Jvm.MethodName)) ∈ tblG := my_in 460 (by decide +kernel) (by decide +kernel)
theorem tw_se_X8_X8_reading : (Jvm.Cond.selects "PitchRows" ({ cls := "PitchRows", name := "reading", desc := "(IIIII)I" } : Jvm.MethodName) ({ cls := "PitchRows", name := "reading", desc := "(IIIII)I" } : Jvm.MethodName)) ∈ tblG := my_in 461 (by decide +kernel) (by decide +kernel)
theorem tw_cd_X8_reading : (Jvm.Cond.code ({ cls := "PitchRows", name := "reading", desc := "(IIIII)I" } : Jvm.MethodName) prog_1_method_17_code (6 : Nat) (Option.some Jvm.ClassFile.FieldType.int)) ∈ tblG := my_in 462 (by decide +kernel) (by decide +kernel)
theorem tw_ml_X8_200 : (Jvm.Cond.methodLink "PitchRows" (200 : Nat) ({ cls := "PitchRows$Readings", name := "add", desc := "(IIIII)Z" } : Jvm.MethodName)) ∈ tblG := my_in 463 (by decide +kernel) (by decide +kernel)
theorem tw_im_X5_add : (Jvm.Cond.instanceMethod ({ cls := "PitchRows$Readings", name := "add", desc := "(IIIII)Z" } : Jvm.MethodName)) ∈ tblG := my_in 464 (by decide +kernel) (by decide +kernel)
theorem tw_se_X5_X5_add : (Jvm.Cond.selects "PitchRows$Readings" ({ cls := "PitchRows$Readings", name := "add", desc := "(IIIII)Z" } : Jvm.MethodName) ({ cls := "PitchRows$Readings", name := "add", desc := "(IIIII)Z" } : Jvm.MethodName)) ∈ tblG := my_in 465 (by decide +kernel) (by decide +kernel)
theorem tw_cd_X5_add : (Jvm.Cond.code ({ cls := "PitchRows$Readings", name := "add", desc := "(IIIII)Z" } : Jvm.MethodName) prog_7_method_2_code (6 : Nat) (Option.some Jvm.ClassFile.FieldType.boolean)) ∈ tblG := my_in 466 (by decide +kernel) (by decide +kernel)
theorem tw_ml_L_83 : (Jvm.Cond.methodLink "PitchRowsLaw" (83 : Nat) ({ cls := "PitchRows", name := "back", desc := "(I)I" } : Jvm.MethodName)) ∈ tblG := my_in 467 (by decide +kernel) (by decide +kernel)
theorem tw_im_X8_back : (Jvm.Cond.instanceMethod ({ cls := "PitchRows", name := "back", desc := "(I)I" } : Jvm.MethodName)) ∈ tblG := my_in 468 (by decide +kernel) (by decide +kernel)
theorem tw_se_X8_X8_back : (Jvm.Cond.selects "PitchRows" ({ cls := "PitchRows", name := "back", desc := "(I)I" } : Jvm.MethodName) ({ cls := "PitchRows", name := "back", desc := "(I)I" } : Jvm.MethodName)) ∈ tblG := my_in 469 (by decide +kernel) (by decide +kernel)
theorem tw_cd_X8_back : (Jvm.Cond.code ({ cls := "PitchRows", name := "back", desc := "(I)I" } : Jvm.MethodName) prog_1_method_18_code (2 : Nat) (Option.some Jvm.ClassFile.FieldType.int)) ∈ tblG := my_in 470 (by decide +kernel) (by decide +kernel)
theorem tw_ml_X8_203 : (Jvm.Cond.methodLink "PitchRows" (203 : Nat) ({ cls := "PitchRows$Readings", name := "takeBack", desc := "(I)Z" } : Jvm.MethodName)) ∈ tblG := my_in 471 (by decide +kernel) (by decide +kernel)
theorem tw_sm_472 : (Jvm.Cond.sameMethod "PitchRows$Readings" "PitchRows$Numbered" "takeBack" "(I)Z") ∈ tblG := my_in 472 (by decide +kernel) (by decide +kernel)
theorem tw_se_X5_X4_takeBack : (Jvm.Cond.selects "PitchRows$Readings" ({ cls := "PitchRows$Readings", name := "takeBack", desc := "(I)Z" } : Jvm.MethodName) ({ cls := "PitchRows$Numbered", name := "takeBack", desc := "(I)Z" } : Jvm.MethodName)) ∈ tblG := my_in 473 (by decide +kernel) (by decide +kernel)
theorem tw_ml_L_87 : (Jvm.Cond.methodLink "PitchRowsLaw" (87 : Nat) ({ cls := "PitchRows", name := "kinds", desc := "(I)I" } : Jvm.MethodName)) ∈ tblG := my_in 474 (by decide +kernel) (by decide +kernel)
theorem tw_im_X8_kinds : (Jvm.Cond.instanceMethod ({ cls := "PitchRows", name := "kinds", desc := "(I)I" } : Jvm.MethodName)) ∈ tblG := my_in 475 (by decide +kernel) (by decide +kernel)
theorem tw_se_X8_X8_kinds : (Jvm.Cond.selects "PitchRows" ({ cls := "PitchRows", name := "kinds", desc := "(I)I" } : Jvm.MethodName) ({ cls := "PitchRows", name := "kinds", desc := "(I)I" } : Jvm.MethodName)) ∈ tblG := my_in 476 (by decide +kernel) (by decide +kernel)
theorem tw_cd_X8_kinds : (Jvm.Cond.code ({ cls := "PitchRows", name := "kinds", desc := "(I)I" } : Jvm.MethodName) prog_1_method_19_code (6 : Nat) (Option.some Jvm.ClassFile.FieldType.int)) ∈ tblG := my_in 477 (by decide +kernel) (by decide +kernel)
theorem tw_ml_X8_204 : (Jvm.Cond.methodLink "PitchRows" (204 : Nat) ({ cls := "PitchRows$Readings", name := "areSo", desc := "(LPitchRows$Choir;)Z" } : Jvm.MethodName)) ∈ tblG := my_in 478 (by decide +kernel) (by decide +kernel)
theorem tw_im_X5_areSo : (Jvm.Cond.instanceMethod ({ cls := "PitchRows$Readings", name := "areSo", desc := "(LPitchRows$Choir;)Z" } : Jvm.MethodName)) ∈ tblG := my_in 479 (by decide +kernel) (by decide +kernel)
theorem tw_se_X5_X5_areSo : (Jvm.Cond.selects "PitchRows$Readings" ({ cls := "PitchRows$Readings", name := "areSo", desc := "(LPitchRows$Choir;)Z" } : Jvm.MethodName) ({ cls := "PitchRows$Readings", name := "areSo", desc := "(LPitchRows$Choir;)Z" } : Jvm.MethodName)) ∈ tblG := my_in 480 (by decide +kernel) (by decide +kernel)
theorem tw_cd_X5_areSo : (Jvm.Cond.code ({ cls := "PitchRows$Readings", name := "areSo", desc := "(LPitchRows$Choir;)Z" } : Jvm.MethodName) prog_7_method_3_code (3 : Nat) (Option.some Jvm.ClassFile.FieldType.boolean)) ∈ tblG := my_in 481 (by decide +kernel) (by decide +kernel)
theorem tw_ml_X5_31 : (Jvm.Cond.methodLink "PitchRows$Readings" (31 : Nat) ({ cls := "PitchRows$Choir", name := "heard", desc := "(IIII)I" } : Jvm.MethodName)) ∈ tblG := my_in 482 (by decide +kernel) (by decide +kernel)
theorem tw_ml_L_91 : (Jvm.Cond.methodLink "PitchRowsLaw" (91 : Nat) ({ cls := "PitchRows", name := "pitches", desc := "(II)I" } : Jvm.MethodName)) ∈ tblG := my_in 483 (by decide +kernel) (by decide +kernel)
theorem tw_im_X8_pitches : (Jvm.Cond.instanceMethod ({ cls := "PitchRows", name := "pitches", desc := "(II)I" } : Jvm.MethodName)) ∈ tblG := my_in 484 (by decide +kernel) (by decide +kernel)
theorem tw_se_X8_X8_pitches : (Jvm.Cond.selects "PitchRows" ({ cls := "PitchRows", name := "pitches", desc := "(II)I" } : Jvm.MethodName) ({ cls := "PitchRows", name := "pitches", desc := "(II)I" } : Jvm.MethodName)) ∈ tblG := my_in 485 (by decide +kernel) (by decide +kernel)
theorem tw_cd_X8_pitches : (Jvm.Cond.code ({ cls := "PitchRows", name := "pitches", desc := "(II)I" } : Jvm.MethodName) prog_1_method_20_code (7 : Nat) (Option.some Jvm.ClassFile.FieldType.int)) ∈ tblG := my_in 486 (by decide +kernel) (by decide +kernel)
theorem tw_ml_L_95 : (Jvm.Cond.methodLink "PitchRowsLaw" (95 : Nat) ({ cls := "PitchRows", name := "odds", desc := "(III)J" } : Jvm.MethodName)) ∈ tblG := my_in 487 (by decide +kernel) (by decide +kernel)
theorem tw_im_X8_odds : (Jvm.Cond.instanceMethod ({ cls := "PitchRows", name := "odds", desc := "(III)J" } : Jvm.MethodName)) ∈ tblG := my_in 488 (by decide +kernel) (by decide +kernel)
theorem tw_se_X8_X8_odds : (Jvm.Cond.selects "PitchRows" ({ cls := "PitchRows", name := "odds", desc := "(III)J" } : Jvm.MethodName) ({ cls := "PitchRows", name := "odds", desc := "(III)J" } : Jvm.MethodName)) ∈ tblG := my_in 489 (by decide +kernel) (by decide +kernel)
theorem tw_cd_X8_odds : (Jvm.Cond.code ({ cls := "PitchRows", name := "odds", desc := "(III)J" } : Jvm.MethodName) prog_1_method_21_code (8 : Nat) (Option.some Jvm.ClassFile.FieldType.long)) ∈ tblG := my_in 490 (by decide +kernel) (by decide +kernel)
theorem tw_kl_X8_208 : (Jvm.Cond.constantLong "PitchRows" (208 : Nat) (-9223372036854775808 : Int64)) ∈ tblG := my_in 491 (by decide +kernel) (by decide +kernel)
theorem tw_ml_X8_210 : (Jvm.Cond.methodLink "PitchRows" (210 : Nat) ({ cls := "PitchRows", name := "divisorWithAllShifts", desc := "(I)I" } : Jvm.MethodName)) ∈ tblG := my_in 492 (by decide +kernel) (by decide +kernel)
theorem tw_st_X8_divisorWithAllShifts : (Jvm.Cond.static ({ cls := "PitchRows", name := "divisorWithAllShifts", desc := "(I)I" } : Jvm.MethodName)) ∈ tblG := my_in 493 (by decide +kernel) (by decide +kernel)
theorem tw_cd_X8_divisorWithAllShifts : (Jvm.Cond.code ({ cls := "PitchRows", name := "divisorWithAllShifts", desc := "(I)I" } : Jvm.MethodName) prog_1_method_40_code (2 : Nat) (Option.some Jvm.ClassFile.FieldType.int)) ∈ tblG := my_in 494 (by decide +kernel) (by decide +kernel)
theorem tw_ml_L_100 : (Jvm.Cond.methodLink "PitchRowsLaw" (100 : Nat) ({ cls := "PitchRows", name := "sheet", desc := "(III)I" } : Jvm.MethodName)) ∈ tblG := my_in 495 (by decide +kernel) (by decide +kernel)
theorem tw_im_X8_sheet : (Jvm.Cond.instanceMethod ({ cls := "PitchRows", name := "sheet", desc := "(III)I" } : Jvm.MethodName)) ∈ tblG := my_in 496 (by decide +kernel) (by decide +kernel)
theorem tw_se_X8_X8_sheet : (Jvm.Cond.selects "PitchRows" ({ cls := "PitchRows", name := "sheet", desc := "(III)I" } : Jvm.MethodName) ({ cls := "PitchRows", name := "sheet", desc := "(III)I" } : Jvm.MethodName)) ∈ tblG := my_in 497 (by decide +kernel) (by decide +kernel)
theorem tw_cd_X8_sheet : (Jvm.Cond.code ({ cls := "PitchRows", name := "sheet", desc := "(III)I" } : Jvm.MethodName) prog_1_method_22_code (4 : Nat) (Option.some Jvm.ClassFile.FieldType.int)) ∈ tblG := my_in 498 (by decide +kernel) (by decide +kernel)
theorem tw_ml_X8_213 : (Jvm.Cond.methodLink "PitchRows" (213 : Nat) ({ cls := "PitchRows$Sheet", name := "begin", desc := "(II)V" } : Jvm.MethodName)) ∈ tblG := my_in 499 (by decide +kernel) (by decide +kernel)
theorem tw_im_X6_begin : (Jvm.Cond.instanceMethod ({ cls := "PitchRows$Sheet", name := "begin", desc := "(II)V" } : Jvm.MethodName)) ∈ tblG := my_in 500 (by decide +kernel) (by decide +kernel)
theorem tw_se_X6_X6_begin : (Jvm.Cond.selects "PitchRows$Sheet" ({ cls := "PitchRows$Sheet", name := "begin", desc := "(II)V" } : Jvm.MethodName) ({ cls := "PitchRows$Sheet", name := "begin", desc := "(II)V" } : Jvm.MethodName)) ∈ tblG := my_in 501 (by decide +kernel) (by decide +kernel)
theorem tw_cd_X6_begin : (Jvm.Cond.code ({ cls := "PitchRows$Sheet", name := "begin", desc := "(II)V" } : Jvm.MethodName) prog_8_method_2_code (3 : Nat) (Option.none : Option Jvm.ClassFile.FieldType)) ∈ tblG := my_in 502 (by decide +kernel) (by decide +kernel)
theorem tw_ml_X6_26 : (Jvm.Cond.methodLink "PitchRows$Sheet" (26 : Nat) ({ cls := "java/util/Arrays", name := "fill", desc := "([II)V" } : Jvm.MethodName)) ∈ tblG := my_in 503 (by decide +kernel) (by decide +kernel)
theorem tw_ml_L_104 : (Jvm.Cond.methodLink "PitchRowsLaw" (104 : Nat) ({ cls := "PitchRows", name := "lose", desc := "(I)I" } : Jvm.MethodName)) ∈ tblG := my_in 504 (by decide +kernel) (by decide +kernel)
theorem tw_im_X8_lose : (Jvm.Cond.instanceMethod ({ cls := "PitchRows", name := "lose", desc := "(I)I" } : Jvm.MethodName)) ∈ tblG := my_in 505 (by decide +kernel) (by decide +kernel)
theorem tw_se_X8_X8_lose : (Jvm.Cond.selects "PitchRows" ({ cls := "PitchRows", name := "lose", desc := "(I)I" } : Jvm.MethodName) ({ cls := "PitchRows", name := "lose", desc := "(I)I" } : Jvm.MethodName)) ∈ tblG := my_in 506 (by decide +kernel) (by decide +kernel)
theorem tw_cd_X8_lose : (Jvm.Cond.code ({ cls := "PitchRows", name := "lose", desc := "(I)I" } : Jvm.MethodName) prog_1_method_23_code (3 : Nat) (Option.some Jvm.ClassFile.FieldType.int)) ∈ tblG := my_in 507 (by decide +kernel) (by decide +kernel)
theorem tw_ml_L_108 : (Jvm.Cond.methodLink "PitchRowsLaw" (108 : Nat) ({ cls := "PitchRows", name := "put", desc := "(III)I" } : Jvm.MethodName)) ∈ tblG := my_in 508 (by decide +kernel) (by decide +kernel)
theorem tw_im_X8_put : (Jvm.Cond.instanceMethod ({ cls := "PitchRows", name := "put", desc := "(III)I" } : Jvm.MethodName)) ∈ tblG := my_in 509 (by decide +kernel) (by decide +kernel)
theorem tw_se_X8_X8_put : (Jvm.Cond.selects "PitchRows" ({ cls := "PitchRows", name := "put", desc := "(III)I" } : Jvm.MethodName) ({ cls := "PitchRows", name := "put", desc := "(III)I" } : Jvm.MethodName)) ∈ tblG := my_in 510 (by decide +kernel) (by decide +kernel)
theorem tw_cd_X8_put : (Jvm.Cond.code ({ cls := "PitchRows", name := "put", desc := "(III)I" } : Jvm.MethodName) prog_1_method_24_code (4 : Nat) (Option.some Jvm.ClassFile.FieldType.int)) ∈ tblG := my_in 511 (by decide +kernel) (by decide +kernel)
theorem tw_ml_X8_220 : (Jvm.Cond.methodLink "PitchRows" (220 : Nat) ({ cls := "PitchRows$Sheet", name := "holds", desc := "(II)Z" } : Jvm.MethodName)) ∈ tblG := my_in 512 (by decide +kernel) (by decide +kernel)
theorem tw_ml_X8_224 : (Jvm.Cond.methodLink "PitchRows" (224 : Nat) ({ cls := "PitchRows$Sheet", name := "write", desc := "(II)V" } : Jvm.MethodName)) ∈ tblG := my_in 513 (by decide +kernel) (by decide +kernel)
theorem tw_im_X6_write : (Jvm.Cond.instanceMethod ({ cls := "PitchRows$Sheet", name := "write", desc := "(II)V" } : Jvm.MethodName)) ∈ tblG := my_in 514 (by decide +kernel) (by decide +kernel)
theorem tw_se_X6_X6_write : (Jvm.Cond.selects "PitchRows$Sheet" ({ cls := "PitchRows$Sheet", name := "write", desc := "(II)V" } : Jvm.MethodName) ({ cls := "PitchRows$Sheet", name := "write", desc := "(II)V" } : Jvm.MethodName)) ∈ tblG := my_in 515 (by decide +kernel) (by decide +kernel)
theorem tw_cd_X6_write : (Jvm.Cond.code ({ cls := "PitchRows$Sheet", name := "write", desc := "(II)V" } : Jvm.MethodName) prog_8_method_5_code (3 : Nat) (Option.none : Option Jvm.ClassFile.FieldType)) ∈ tblG := my_in 516 (by decide +kernel) (by decide +kernel)
theorem tw_ml_L_112 : (Jvm.Cond.methodLink "PitchRowsLaw" (112 : Nat) ({ cls := "PitchRows", name := "cell", desc := "(III)J" } : Jvm.MethodName)) ∈ tblG := my_in 517 (by decide +kernel) (by decide +kernel)
theorem tw_im_X8_cell : (Jvm.Cond.instanceMethod ({ cls := "PitchRows", name := "cell", desc := "(III)J" } : Jvm.MethodName)) ∈ tblG := my_in 518 (by decide +kernel) (by decide +kernel)
theorem tw_se_X8_X8_cell : (Jvm.Cond.selects "PitchRows" ({ cls := "PitchRows", name := "cell", desc := "(III)J" } : Jvm.MethodName) ({ cls := "PitchRows", name := "cell", desc := "(III)J" } : Jvm.MethodName)) ∈ tblG := my_in 519 (by decide +kernel) (by decide +kernel)
theorem tw_cd_X8_cell : (Jvm.Cond.code ({ cls := "PitchRows", name := "cell", desc := "(III)J" } : Jvm.MethodName) prog_1_method_25_code (4 : Nat) (Option.some Jvm.ClassFile.FieldType.long)) ∈ tblG := my_in 520 (by decide +kernel) (by decide +kernel)
theorem tw_ml_L_116 : (Jvm.Cond.methodLink "PitchRowsLaw" (116 : Nat) ({ cls := "PitchRows", name := "copy", desc := "(IIIII)I" } : Jvm.MethodName)) ∈ tblG := my_in 521 (by decide +kernel) (by decide +kernel)
theorem tw_im_X8_copy : (Jvm.Cond.instanceMethod ({ cls := "PitchRows", name := "copy", desc := "(IIIII)I" } : Jvm.MethodName)) ∈ tblG := my_in 522 (by decide +kernel) (by decide +kernel)
theorem tw_se_X8_X8_copy : (Jvm.Cond.selects "PitchRows" ({ cls := "PitchRows", name := "copy", desc := "(IIIII)I" } : Jvm.MethodName) ({ cls := "PitchRows", name := "copy", desc := "(IIIII)I" } : Jvm.MethodName)) ∈ tblG := my_in 523 (by decide +kernel) (by decide +kernel)
theorem tw_cd_X8_copy : (Jvm.Cond.code ({ cls := "PitchRows", name := "copy", desc := "(IIIII)I" } : Jvm.MethodName) prog_1_method_26_code (8 : Nat) (Option.some Jvm.ClassFile.FieldType.int)) ∈ tblG := my_in 524 (by decide +kernel) (by decide +kernel)
theorem tw_ml_X8_233 : (Jvm.Cond.methodLink "PitchRows" (233 : Nat) ({ cls := "java/lang/System", name := "arraycopy", desc := "(Ljava/lang/Object;ILjava/lang/Object;II)V" } : Jvm.MethodName)) ∈ tblG := my_in 525 (by decide +kernel) (by decide +kernel)
theorem tw_ml_L_120 : (Jvm.Cond.methodLink "PitchRowsLaw" (120 : Nat) ({ cls := "PitchRows", name := "tell", desc := "(I)I" } : Jvm.MethodName)) ∈ tblG := my_in 526 (by decide +kernel) (by decide +kernel)
theorem tw_im_X8_tell : (Jvm.Cond.instanceMethod ({ cls := "PitchRows", name := "tell", desc := "(I)I" } : Jvm.MethodName)) ∈ tblG := my_in 527 (by decide +kernel) (by decide +kernel)
theorem tw_se_X8_X8_tell : (Jvm.Cond.selects "PitchRows" ({ cls := "PitchRows", name := "tell", desc := "(I)I" } : Jvm.MethodName) ({ cls := "PitchRows", name := "tell", desc := "(I)I" } : Jvm.MethodName)) ∈ tblG := my_in 528 (by decide +kernel) (by decide +kernel)
theorem tw_cd_X8_tell : (Jvm.Cond.code ({ cls := "PitchRows", name := "tell", desc := "(I)I" } : Jvm.MethodName) prog_1_method_27_code (3 : Nat) (Option.some Jvm.ClassFile.FieldType.int)) ∈ tblG := my_in 529 (by decide +kernel) (by decide +kernel)
theorem tw_ml_X8_239 : (Jvm.Cond.methodLink "PitchRows" (239 : Nat) ({ cls := "PitchRows", name := "keenTelling", desc := "(LPitchRows$Caller;)I" } : Jvm.MethodName)) ∈ tblG := my_in 530 (by decide +kernel) (by decide +kernel)
theorem tw_im_X8_keenTelling : (Jvm.Cond.instanceMethod ({ cls := "PitchRows", name := "keenTelling", desc := "(LPitchRows$Caller;)I" } : Jvm.MethodName)) ∈ tblG := my_in 532 (by decide +kernel) (by decide +kernel)
theorem tw_cd_X8_keenTelling : (Jvm.Cond.code ({ cls := "PitchRows", name := "keenTelling", desc := "(LPitchRows$Caller;)I" } : Jvm.MethodName) prog_1_method_48_code (3 : Nat) (Option.some Jvm.ClassFile.FieldType.int)) ∈ tblG := my_in 533 (by decide +kernel) (by decide +kernel)
theorem tw_ml_X8_274 : (Jvm.Cond.methodLink "PitchRows" (274 : Nat) ({ cls := "PitchRows", name := "leave", desc := "(I)V" } : Jvm.MethodName)) ∈ tblG := my_in 534 (by decide +kernel) (by decide +kernel)
theorem tw_im_X8_leave : (Jvm.Cond.instanceMethod ({ cls := "PitchRows", name := "leave", desc := "(I)V" } : Jvm.MethodName)) ∈ tblG := my_in 536 (by decide +kernel) (by decide +kernel)
theorem tw_cd_X8_leave : (Jvm.Cond.code ({ cls := "PitchRows", name := "leave", desc := "(I)V" } : Jvm.MethodName) prog_1_method_45_code (2 : Nat) (Option.none : Option Jvm.ClassFile.FieldType)) ∈ tblG := my_in 537 (by decide +kernel) (by decide +kernel)
theorem tw_ml_X8_243 : (Jvm.Cond.methodLink "PitchRows" (243 : Nat) ({ cls := "PitchRows", name := "broadTelling", desc := "(LPitchRows$Caller;)I" } : Jvm.MethodName)) ∈ tblG := my_in 538 (by decide +kernel) (by decide +kernel)
theorem tw_im_X8_broadTelling : (Jvm.Cond.instanceMethod ({ cls := "PitchRows", name := "broadTelling", desc := "(LPitchRows$Caller;)I" } : Jvm.MethodName)) ∈ tblG := my_in 540 (by decide +kernel) (by decide +kernel)
theorem tw_cd_X8_broadTelling : (Jvm.Cond.code ({ cls := "PitchRows", name := "broadTelling", desc := "(LPitchRows$Caller;)I" } : Jvm.MethodName) prog_1_method_47_code (2 : Nat) (Option.some Jvm.ClassFile.FieldType.int)) ∈ tblG := my_in 541 (by decide +kernel) (by decide +kernel)
theorem tw_ml_X8_246 : (Jvm.Cond.methodLink "PitchRows" (246 : Nat) ({ cls := "PitchRows", name := "plainTelling", desc := "(LPitchRows$Caller;)I" } : Jvm.MethodName)) ∈ tblG := my_in 542 (by decide +kernel) (by decide +kernel)
theorem tw_im_X8_plainTelling : (Jvm.Cond.instanceMethod ({ cls := "PitchRows", name := "plainTelling", desc := "(LPitchRows$Caller;)I" } : Jvm.MethodName)) ∈ tblG := my_in 544 (by decide +kernel) (by decide +kernel)
theorem tw_cd_X8_plainTelling : (Jvm.Cond.code ({ cls := "PitchRows", name := "plainTelling", desc := "(LPitchRows$Caller;)I" } : Jvm.MethodName) prog_1_method_46_code (2 : Nat) (Option.some Jvm.ClassFile.FieldType.int)) ∈ tblG := my_in 545 (by decide +kernel) (by decide +kernel)
theorem tw_ml_L_124 : (Jvm.Cond.methodLink "PitchRowsLaw" (124 : Nat) ({ cls := "PitchRows", name := "hail", desc := "(I)I" } : Jvm.MethodName)) ∈ tblG := my_in 546 (by decide +kernel) (by decide +kernel)
theorem tw_im_X8_hail : (Jvm.Cond.instanceMethod ({ cls := "PitchRows", name := "hail", desc := "(I)I" } : Jvm.MethodName)) ∈ tblG := my_in 547 (by decide +kernel) (by decide +kernel)
theorem tw_se_X8_X8_hail : (Jvm.Cond.selects "PitchRows" ({ cls := "PitchRows", name := "hail", desc := "(I)I" } : Jvm.MethodName) ({ cls := "PitchRows", name := "hail", desc := "(I)I" } : Jvm.MethodName)) ∈ tblG := my_in 548 (by decide +kernel) (by decide +kernel)
theorem tw_cd_X8_hail : (Jvm.Cond.code ({ cls := "PitchRows", name := "hail", desc := "(I)I" } : Jvm.MethodName) prog_1_method_28_code (2 : Nat) (Option.some Jvm.ClassFile.FieldType.int)) ∈ tblG := my_in 549 (by decide +kernel) (by decide +kernel)
theorem tw_ml_X8_249 : (Jvm.Cond.methodLink "PitchRows" (249 : Nat) ({ cls := "PitchRows", name := "keenHail", desc := "()I" } : Jvm.MethodName)) ∈ tblG := my_in 550 (by decide +kernel) (by decide +kernel)
theorem tw_im_X8_keenHail : (Jvm.Cond.instanceMethod ({ cls := "PitchRows", name := "keenHail", desc := "()I" } : Jvm.MethodName)) ∈ tblG := my_in 552 (by decide +kernel) (by decide +kernel)
theorem tw_cd_X8_keenHail : (Jvm.Cond.code ({ cls := "PitchRows", name := "keenHail", desc := "()I" } : Jvm.MethodName) prog_1_method_50_code (1 : Nat) (Option.some Jvm.ClassFile.FieldType.int)) ∈ tblG := my_in 553 (by decide +kernel) (by decide +kernel)
theorem tw_ml_X8_253 : (Jvm.Cond.methodLink "PitchRows" (253 : Nat) ({ cls := "PitchRows", name := "lentHail", desc := "(I)I" } : Jvm.MethodName)) ∈ tblG := my_in 554 (by decide +kernel) (by decide +kernel)
theorem tw_im_X8_lentHail : (Jvm.Cond.instanceMethod ({ cls := "PitchRows", name := "lentHail", desc := "(I)I" } : Jvm.MethodName)) ∈ tblG := my_in 556 (by decide +kernel) (by decide +kernel)
theorem tw_cd_X8_lentHail : (Jvm.Cond.code ({ cls := "PitchRows", name := "lentHail", desc := "(I)I" } : Jvm.MethodName) prog_1_method_49_code (2 : Nat) (Option.some Jvm.ClassFile.FieldType.int)) ∈ tblG := my_in 557 (by decide +kernel) (by decide +kernel)
theorem tw_ml_L_128 : (Jvm.Cond.methodLink "PitchRowsLaw" (128 : Nat) ({ cls := "PitchRows", name := "as", desc := "(II)I" } : Jvm.MethodName)) ∈ tblG := my_in 558 (by decide +kernel) (by decide +kernel)
theorem tw_im_X8_as : (Jvm.Cond.instanceMethod ({ cls := "PitchRows", name := "as", desc := "(II)I" } : Jvm.MethodName)) ∈ tblG := my_in 559 (by decide +kernel) (by decide +kernel)
theorem tw_se_X8_X8_as : (Jvm.Cond.selects "PitchRows" ({ cls := "PitchRows", name := "as", desc := "(II)I" } : Jvm.MethodName) ({ cls := "PitchRows", name := "as", desc := "(II)I" } : Jvm.MethodName)) ∈ tblG := my_in 560 (by decide +kernel) (by decide +kernel)
theorem tw_cd_X8_as : (Jvm.Cond.code ({ cls := "PitchRows", name := "as", desc := "(II)I" } : Jvm.MethodName) prog_1_method_29_code (3 : Nat) (Option.some Jvm.ClassFile.FieldType.int)) ∈ tblG := my_in 561 (by decide +kernel) (by decide +kernel)
theorem tw_ml_L_132 : (Jvm.Cond.methodLink "PitchRowsLaw" (132 : Nat) ({ cls := "PitchRows", name := "trace", desc := "()I" } : Jvm.MethodName)) ∈ tblG := my_in 562 (by decide +kernel) (by decide +kernel)
theorem tw_im_X8_trace : (Jvm.Cond.instanceMethod ({ cls := "PitchRows", name := "trace", desc := "()I" } : Jvm.MethodName)) ∈ tblG := my_in 563 (by decide +kernel) (by decide +kernel)
theorem tw_se_X8_X8_trace : (Jvm.Cond.selects "PitchRows" ({ cls := "PitchRows", name := "trace", desc := "()I" } : Jvm.MethodName) ({ cls := "PitchRows", name := "trace", desc := "()I" } : Jvm.MethodName)) ∈ tblG := my_in 564 (by decide +kernel) (by decide +kernel)
theorem tw_cd_X8_trace : (Jvm.Cond.code ({ cls := "PitchRows", name := "trace", desc := "()I" } : Jvm.MethodName) prog_1_method_30_code (1 : Nat) (Option.some Jvm.ClassFile.FieldType.int)) ∈ tblG := my_in 565 (by decide +kernel) (by decide +kernel)
theorem tw_ml_L_136 : (Jvm.Cond.methodLink "PitchRowsLaw" (136 : Nat) ({ cls := "PitchRows", name := "fault", desc := "()I" } : Jvm.MethodName)) ∈ tblG := my_in 566 (by decide +kernel) (by decide +kernel)
theorem tw_im_X8_fault : (Jvm.Cond.instanceMethod ({ cls := "PitchRows", name := "fault", desc := "()I" } : Jvm.MethodName)) ∈ tblG := my_in 567 (by decide +kernel) (by decide +kernel)
theorem tw_se_X8_X8_fault : (Jvm.Cond.selects "PitchRows" ({ cls := "PitchRows", name := "fault", desc := "()I" } : Jvm.MethodName) ({ cls := "PitchRows", name := "fault", desc := "()I" } : Jvm.MethodName)) ∈ tblG := my_in 568 (by decide +kernel) (by decide +kernel)
theorem tw_cd_X8_fault : (Jvm.Cond.code ({ cls := "PitchRows", name := "fault", desc := "()I" } : Jvm.MethodName) prog_1_method_31_code (1 : Nat) (Option.some Jvm.ClassFile.FieldType.int)) ∈ tblG := my_in 569 (by decide +kernel) (by decide +kernel)
theorem tw_ml_L_140 : (Jvm.Cond.methodLink "PitchRowsLaw" (140 : Nat) ({ cls := "PitchRows", name := "many", desc := "(I)I" } : Jvm.MethodName)) ∈ tblG := my_in 570 (by decide +kernel) (by decide +kernel)
theorem tw_im_X8_many : (Jvm.Cond.instanceMethod ({ cls := "PitchRows", name := "many", desc := "(I)I" } : Jvm.MethodName)) ∈ tblG := my_in 571 (by decide +kernel) (by decide +kernel)
theorem tw_se_X8_X8_many : (Jvm.Cond.selects "PitchRows" ({ cls := "PitchRows", name := "many", desc := "(I)I" } : Jvm.MethodName) ({ cls := "PitchRows", name := "many", desc := "(I)I" } : Jvm.MethodName)) ∈ tblG := my_in 572 (by decide +kernel) (by decide +kernel)
theorem tw_cd_X8_many : (Jvm.Cond.code ({ cls := "PitchRows", name := "many", desc := "(I)I" } : Jvm.MethodName) prog_1_method_32_code (2 : Nat) (Option.some Jvm.ClassFile.FieldType.int)) ∈ tblG := my_in 573 (by decide +kernel) (by decide +kernel)
theorem tw_ml_X8_259 : (Jvm.Cond.methodLink "PitchRows" (259 : Nat) ({ cls := "PitchRows$Choir", name := "freeBeatsOfAll", desc := "()I" } : Jvm.MethodName)) ∈ tblG := my_in 574 (by decide +kernel) (by decide +kernel)
theorem tw_im_X2_freeBeatsOfAll : (Jvm.Cond.instanceMethod ({ cls := "PitchRows$Choir", name := "freeBeatsOfAll", desc := "()I" } : Jvm.MethodName)) ∈ tblG := my_in 575 (by decide +kernel) (by decide +kernel)
theorem tw_se_X2_X2_freeBeatsOfAll : (Jvm.Cond.selects "PitchRows$Choir" ({ cls := "PitchRows$Choir", name := "freeBeatsOfAll", desc := "()I" } : Jvm.MethodName) ({ cls := "PitchRows$Choir", name := "freeBeatsOfAll", desc := "()I" } : Jvm.MethodName)) ∈ tblG := my_in 576 (by decide +kernel) (by decide +kernel)
theorem tw_cd_X2_freeBeatsOfAll : (Jvm.Cond.code ({ cls := "PitchRows$Choir", name := "freeBeatsOfAll", desc := "()I" } : Jvm.MethodName) prog_4_method_4_code (3 : Nat) (Option.some Jvm.ClassFile.FieldType.int)) ∈ tblG := my_in 577 (by decide +kernel) (by decide +kernel)
theorem tw_ml_X2_29 : (Jvm.Cond.methodLink "PitchRows$Choir" (29 : Nat) ({ cls := "PitchRows$Caller", name := "freeBeats", desc := "(I)I" } : Jvm.MethodName)) ∈ tblG := my_in 578 (by decide +kernel) (by decide +kernel)
theorem tw_kc_L_10 : (Jvm.Cond.classLink "PitchRowsLaw" (10 : Nat) "PitchRowsModel") ∈ tblG := my_in 579 (by decide +kernel) (by decide +kernel)
theorem tw_ia_X9 : (Jvm.Cond.instantiable "PitchRowsModel" (33 : Nat)) ∈ tblG := my_in 580 (by decide +kernel) (by decide +kernel)
theorem tw_ml_L_12 : (Jvm.Cond.methodLink "PitchRowsLaw" (12 : Nat) ({ cls := "PitchRowsModel", name := "<init>", desc := "()V" } : Jvm.MethodName)) ∈ tblG := my_in 581 (by decide +kernel) (by decide +kernel)
theorem tw_im_X9_init : (Jvm.Cond.instanceMethod ({ cls := "PitchRowsModel", name := "<init>", desc := "()V" } : Jvm.MethodName)) ∈ tblG := my_in 582 (by decide +kernel) (by decide +kernel)
theorem tw_cd_X9_init : (Jvm.Cond.code ({ cls := "PitchRowsModel", name := "<init>", desc := "()V" } : Jvm.MethodName) prog_11_method_1_code (2 : Nat) (Option.none : Option Jvm.ClassFile.FieldType)) ∈ tblG := my_in 583 (by decide +kernel) (by decide +kernel)
theorem tw_ml_X9_1 : (Jvm.Cond.methodLink "PitchRowsModel" (1 : Nat) ({ cls := "java/lang/Object", name := "<init>", desc := "()V" } : Jvm.MethodName)) ∈ tblG := my_in 584 (by decide +kernel) (by decide +kernel)
theorem tw_fl_X9_72 : (Jvm.Cond.fieldLink "PitchRowsModel" (72 : Nat) "PitchRowsModel" "fault" "I") ∈ tblG := my_in 585 (by decide +kernel) (by decide +kernel)
theorem tw_fl_X9_80 : (Jvm.Cond.fieldLink "PitchRowsModel" (80 : Nat) "PitchRowsModel" "callers" "I") ∈ tblG := my_in 586 (by decide +kernel) (by decide +kernel)
theorem tw_fl_X9_87 : (Jvm.Cond.fieldLink "PitchRowsModel" (87 : Nat) "PitchRowsModel" "beats" "I") ∈ tblG := my_in 587 (by decide +kernel) (by decide +kernel)
theorem tw_fl_X9_7 : (Jvm.Cond.fieldLink "PitchRowsModel" (7 : Nat) "PitchRowsModel" "kindOf" "[I") ∈ tblG := my_in 588 (by decide +kernel) (by decide +kernel)
theorem tw_fl_X9_13 : (Jvm.Cond.fieldLink "PitchRowsModel" (13 : Nat) "PitchRowsModel" "pitchOf" "[I") ∈ tblG := my_in 589 (by decide +kernel) (by decide +kernel)
theorem tw_fl_X9_90 : (Jvm.Cond.fieldLink "PitchRowsModel" (90 : Nat) "PitchRowsModel" "readAt" "I") ∈ tblG := my_in 590 (by decide +kernel) (by decide +kernel)
theorem tw_fl_X9_102 : (Jvm.Cond.fieldLink "PitchRowsModel" (102 : Nat) "PitchRowsModel" "readCallers" "I") ∈ tblG := my_in 591 (by decide +kernel) (by decide +kernel)
theorem tw_fl_X9_99 : (Jvm.Cond.fieldLink "PitchRowsModel" (99 : Nat) "PitchRowsModel" "readBeats" "I") ∈ tblG := my_in 592 (by decide +kernel) (by decide +kernel)
theorem tw_fl_X9_16 : (Jvm.Cond.fieldLink "PitchRowsModel" (16 : Nat) "PitchRowsModel" "readKind" "[I") ∈ tblG := my_in 593 (by decide +kernel) (by decide +kernel)
theorem tw_fl_X9_19 : (Jvm.Cond.fieldLink "PitchRowsModel" (19 : Nat) "PitchRowsModel" "readPitch" "[I") ∈ tblG := my_in 594 (by decide +kernel) (by decide +kernel)
theorem tw_fl_X9_22 : (Jvm.Cond.fieldLink "PitchRowsModel" (22 : Nat) "PitchRowsModel" "tried" "[I") ∈ tblG := my_in 595 (by decide +kernel) (by decide +kernel)
theorem tw_fl_X9_139 : (Jvm.Cond.fieldLink "PitchRowsModel" (139 : Nat) "PitchRowsModel" "sendings" "I") ∈ tblG := my_in 596 (by decide +kernel) (by decide +kernel)
theorem tw_fl_X9_25 : (Jvm.Cond.fieldLink "PitchRowsModel" (25 : Nat) "PitchRowsModel" "sentBy" "[I") ∈ tblG := my_in 597 (by decide +kernel) (by decide +kernel)
theorem tw_fl_X9_28 : (Jvm.Cond.fieldLink "PitchRowsModel" (28 : Nat) "PitchRowsModel" "sentAt" "[I") ∈ tblG := my_in 598 (by decide +kernel) (by decide +kernel)
theorem tw_fl_X9_31 : (Jvm.Cond.fieldLink "PitchRowsModel" (31 : Nat) "PitchRowsModel" "sentHigh" "[I") ∈ tblG := my_in 599 (by decide +kernel) (by decide +kernel)
theorem tw_fl_X9_241 : (Jvm.Cond.fieldLink "PitchRowsModel" (241 : Nat) "PitchRowsModel" "hadSendings" "I") ∈ tblG := my_in 600 (by decide +kernel) (by decide +kernel)
theorem tw_fl_X9_34 : (Jvm.Cond.fieldLink "PitchRowsModel" (34 : Nat) "PitchRowsModel" "hadBy" "[I") ∈ tblG := my_in 601 (by decide +kernel) (by decide +kernel)
theorem tw_fl_X9_37 : (Jvm.Cond.fieldLink "PitchRowsModel" (37 : Nat) "PitchRowsModel" "hadAt" "[I") ∈ tblG := my_in 602 (by decide +kernel) (by decide +kernel)
theorem tw_fl_X9_40 : (Jvm.Cond.fieldLink "PitchRowsModel" (40 : Nat) "PitchRowsModel" "hadHigh" "[I") ∈ tblG := my_in 603 (by decide +kernel) (by decide +kernel)
theorem tw_fl_X9_247 : (Jvm.Cond.fieldLink "PitchRowsModel" (247 : Nat) "PitchRowsModel" "peakOf" "I") ∈ tblG := my_in 604 (by decide +kernel) (by decide +kernel)
theorem tw_fl_X9_250 : (Jvm.Cond.fieldLink "PitchRowsModel" (250 : Nat) "PitchRowsModel" "peakLate" "I") ∈ tblG := my_in 605 (by decide +kernel) (by decide +kernel)
theorem tw_fl_X9_253 : (Jvm.Cond.fieldLink "PitchRowsModel" (253 : Nat) "PitchRowsModel" "peakHigh" "I") ∈ tblG := my_in 606 (by decide +kernel) (by decide +kernel)
theorem tw_fl_X9_142 : (Jvm.Cond.fieldLink "PitchRowsModel" (142 : Nat) "PitchRowsModel" "readings" "I") ∈ tblG := my_in 607 (by decide +kernel) (by decide +kernel)
theorem tw_fl_X9_43 : (Jvm.Cond.fieldLink "PitchRowsModel" (43 : Nat) "PitchRowsModel" "readingBy" "[I") ∈ tblG := my_in 608 (by decide +kernel) (by decide +kernel)
theorem tw_fl_X9_46 : (Jvm.Cond.fieldLink "PitchRowsModel" (46 : Nat) "PitchRowsModel" "readingOf" "[I") ∈ tblG := my_in 609 (by decide +kernel) (by decide +kernel)
theorem tw_fl_X9_49 : (Jvm.Cond.fieldLink "PitchRowsModel" (49 : Nat) "PitchRowsModel" "readingLate" "[I") ∈ tblG := my_in 610 (by decide +kernel) (by decide +kernel)
theorem tw_fl_X9_52 : (Jvm.Cond.fieldLink "PitchRowsModel" (52 : Nat) "PitchRowsModel" "readingHigh" "[I") ∈ tblG := my_in 611 (by decide +kernel) (by decide +kernel)
theorem tw_fl_X9_55 : (Jvm.Cond.fieldLink "PitchRowsModel" (55 : Nat) "PitchRowsModel" "readingIs" "[I") ∈ tblG := my_in 612 (by decide +kernel) (by decide +kernel)
theorem tw_fl_X9_58 : (Jvm.Cond.fieldLink "PitchRowsModel" (58 : Nat) "PitchRowsModel" "sheetSize" "[I") ∈ tblG := my_in 613 (by decide +kernel) (by decide +kernel)
theorem tw_fl_X9_61 : (Jvm.Cond.fieldLink "PitchRowsModel" (61 : Nat) "PitchRowsModel" "sheetLane" "[I") ∈ tblG := my_in 614 (by decide +kernel) (by decide +kernel)
theorem tw_fl_X9_64 : (Jvm.Cond.fieldLink "PitchRowsModel" (64 : Nat) "PitchRowsModel" "sheet" "[I") ∈ tblG := my_in 615 (by decide +kernel) (by decide +kernel)
theorem tw_fl_X9_67 : (Jvm.Cond.fieldLink "PitchRowsModel" (67 : Nat) "PitchRowsModel" "hands" "[I") ∈ tblG := my_in 616 (by decide +kernel) (by decide +kernel)
theorem tw_fl_X9_284 : (Jvm.Cond.fieldLink "PitchRowsModel" (284 : Nat) "PitchRowsModel" "traceNow" "I") ∈ tblG := my_in 617 (by decide +kernel) (by decide +kernel)
theorem tw_su_X9 : (Jvm.Cond.superclass "PitchRowsModel" "java/lang/Object") ∈ tblG := my_in 684 (by decide +kernel) (by decide +kernel)
theorem tw_ml_L_17 : (Jvm.Cond.methodLink "PitchRowsLaw" (17 : Nat) ({ cls := "PitchRowsModel", name := "callers", desc := "(IIII)I" } : Jvm.MethodName)) ∈ tblG := my_in 685 (by decide +kernel) (by decide +kernel)
theorem tw_im_X9_callers : (Jvm.Cond.instanceMethod ({ cls := "PitchRowsModel", name := "callers", desc := "(IIII)I" } : Jvm.MethodName)) ∈ tblG := my_in 686 (by decide +kernel) (by decide +kernel)
theorem tw_se_X9_X9_callers : (Jvm.Cond.selects "PitchRowsModel" ({ cls := "PitchRowsModel", name := "callers", desc := "(IIII)I" } : Jvm.MethodName) ({ cls := "PitchRowsModel", name := "callers", desc := "(IIII)I" } : Jvm.MethodName)) ∈ tblG := my_in 687 (by decide +kernel) (by decide +kernel)
theorem tw_cd_X9_callers : (Jvm.Cond.code ({ cls := "PitchRowsModel", name := "callers", desc := "(IIII)I" } : Jvm.MethodName) prog_11_method_16_code (8 : Nat) (Option.some Jvm.ClassFile.FieldType.int)) ∈ tblG := my_in 688 (by decide +kernel) (by decide +kernel)
theorem tw_ml_X9_125 : (Jvm.Cond.methodLink "PitchRowsModel" (125 : Nat) ({ cls := "PitchRowsModel", name := "noSheet", desc := "(I)Z" } : Jvm.MethodName)) ∈ tblG := my_in 689 (by decide +kernel) (by decide +kernel)
theorem tw_st_X9_noSheet : (Jvm.Cond.static ({ cls := "PitchRowsModel", name := "noSheet", desc := "(I)Z" } : Jvm.MethodName)) ∈ tblG := my_in 690 (by decide +kernel) (by decide +kernel)
theorem tw_cd_X9_noSheet : (Jvm.Cond.code ({ cls := "PitchRowsModel", name := "noSheet", desc := "(I)Z" } : Jvm.MethodName) prog_11_method_62_code (1 : Nat) (Option.some Jvm.ClassFile.FieldType.boolean)) ∈ tblG := my_in 691 (by decide +kernel) (by decide +kernel)
theorem tw_kl_X9_219 : (Jvm.Cond.constantLong "PitchRowsModel" (219 : Nat) (3 : Int64)) ∈ tblG := my_in 692 (by decide +kernel) (by decide +kernel)
theorem tw_ml_X9_83 : (Jvm.Cond.methodLink "PitchRowsModel" (83 : Nat) ({ cls := "PitchRowsModel", name := "in", desc := "(JJJ)Z" } : Jvm.MethodName)) ∈ tblG := my_in 693 (by decide +kernel) (by decide +kernel)
theorem tw_st_X9_in : (Jvm.Cond.static ({ cls := "PitchRowsModel", name := "in", desc := "(JJJ)Z" } : Jvm.MethodName)) ∈ tblG := my_in 694 (by decide +kernel) (by decide +kernel)
theorem tw_cd_X9_in : (Jvm.Cond.code ({ cls := "PitchRowsModel", name := "in", desc := "(JJJ)Z" } : Jvm.MethodName) prog_11_method_2_code (6 : Nat) (Option.some Jvm.ClassFile.FieldType.boolean)) ∈ tblG := my_in 695 (by decide +kernel) (by decide +kernel)
theorem tw_ml_X9_129 : (Jvm.Cond.methodLink "PitchRowsModel" (129 : Nat) ({ cls := "PitchRowsModel", name := "refused", desc := "(I)I" } : Jvm.MethodName)) ∈ tblG := my_in 696 (by decide +kernel) (by decide +kernel)
theorem tw_im_X9_refused : (Jvm.Cond.instanceMethod ({ cls := "PitchRowsModel", name := "refused", desc := "(I)I" } : Jvm.MethodName)) ∈ tblG := my_in 698 (by decide +kernel) (by decide +kernel)
theorem tw_cd_X9_refused : (Jvm.Cond.code ({ cls := "PitchRowsModel", name := "refused", desc := "(I)I" } : Jvm.MethodName) prog_11_method_6_code (2 : Nat) (Option.some Jvm.ClassFile.FieldType.int)) ∈ tblG := my_in 699 (by decide +kernel) (by decide +kernel)
theorem tw_kl_X9_109 : (Jvm.Cond.constantLong "PitchRowsModel" (109 : Nat) (2 : Int64)) ∈ tblG := my_in 700 (by decide +kernel) (by decide +kernel)
theorem tw_ml_X9_132 : (Jvm.Cond.methodLink "PitchRowsModel" (132 : Nat) ({ cls := "PitchRowsModel", name := "cellsBarred", desc := "(IIIJ)I" } : Jvm.MethodName)) ∈ tblG := my_in 701 (by decide +kernel) (by decide +kernel)
theorem tw_im_X9_cellsBarred : (Jvm.Cond.instanceMethod ({ cls := "PitchRowsModel", name := "cellsBarred", desc := "(IIIJ)I" } : Jvm.MethodName)) ∈ tblG := my_in 703 (by decide +kernel) (by decide +kernel)
theorem tw_cd_X9_cellsBarred : (Jvm.Cond.code ({ cls := "PitchRowsModel", name := "cellsBarred", desc := "(IIIJ)I" } : Jvm.MethodName) prog_11_method_15_code (6 : Nat) (Option.some Jvm.ClassFile.FieldType.int)) ∈ tblG := my_in 704 (by decide +kernel) (by decide +kernel)
theorem tw_ml_X9_117 : (Jvm.Cond.methodLink "PitchRowsModel" (117 : Nat) ({ cls := "PitchRowsModel", name := "failed", desc := "(I)I" } : Jvm.MethodName)) ∈ tblG := my_in 705 (by decide +kernel) (by decide +kernel)
theorem tw_im_X9_failed : (Jvm.Cond.instanceMethod ({ cls := "PitchRowsModel", name := "failed", desc := "(I)I" } : Jvm.MethodName)) ∈ tblG := my_in 707 (by decide +kernel) (by decide +kernel)
theorem tw_cd_X9_failed : (Jvm.Cond.code ({ cls := "PitchRowsModel", name := "failed", desc := "(I)I" } : Jvm.MethodName) prog_11_method_7_code (2 : Nat) (Option.some Jvm.ClassFile.FieldType.int)) ∈ tblG := my_in 708 (by decide +kernel) (by decide +kernel)
theorem tw_ml_X9_121 : (Jvm.Cond.methodLink "PitchRowsModel" (121 : Nat) ({ cls := "PitchRowsModel", name := "isBeyond", desc := "(IJI)Z" } : Jvm.MethodName)) ∈ tblG := my_in 709 (by decide +kernel) (by decide +kernel)
theorem tw_st_X9_isBeyond : (Jvm.Cond.static ({ cls := "PitchRowsModel", name := "isBeyond", desc := "(IJI)Z" } : Jvm.MethodName)) ∈ tblG := my_in 710 (by decide +kernel) (by decide +kernel)
theorem tw_cd_X9_isBeyond : (Jvm.Cond.code ({ cls := "PitchRowsModel", name := "isBeyond", desc := "(IJI)Z" } : Jvm.MethodName) prog_11_method_68_code (4 : Nat) (Option.some Jvm.ClassFile.FieldType.boolean)) ∈ tblG := my_in 711 (by decide +kernel) (by decide +kernel)
theorem tw_ml_X9_136 : (Jvm.Cond.methodLink "PitchRowsModel" (136 : Nat) ({ cls := "PitchRowsModel", name := "readsCallers", desc := "(II)Z" } : Jvm.MethodName)) ∈ tblG := my_in 712 (by decide +kernel) (by decide +kernel)
theorem tw_im_X9_readsCallers : (Jvm.Cond.instanceMethod ({ cls := "PitchRowsModel", name := "readsCallers", desc := "(II)Z" } : Jvm.MethodName)) ∈ tblG := my_in 714 (by decide +kernel) (by decide +kernel)
theorem tw_cd_X9_readsCallers : (Jvm.Cond.code ({ cls := "PitchRowsModel", name := "readsCallers", desc := "(II)Z" } : Jvm.MethodName) prog_11_method_14_code (4 : Nat) (Option.some Jvm.ClassFile.FieldType.boolean)) ∈ tblG := my_in 715 (by decide +kernel) (by decide +kernel)
theorem tw_ml_X9_93 : (Jvm.Cond.methodLink "PitchRowsModel" (93 : Nat) ({ cls := "PitchRowsModel", name := "codeAt", desc := "(II)I" } : Jvm.MethodName)) ∈ tblG := my_in 716 (by decide +kernel) (by decide +kernel)
theorem tw_im_X9_codeAt : (Jvm.Cond.instanceMethod ({ cls := "PitchRowsModel", name := "codeAt", desc := "(II)I" } : Jvm.MethodName)) ∈ tblG := my_in 718 (by decide +kernel) (by decide +kernel)
theorem tw_cd_X9_codeAt : (Jvm.Cond.code ({ cls := "PitchRowsModel", name := "codeAt", desc := "(II)I" } : Jvm.MethodName) prog_11_method_11_code (3 : Nat) (Option.some Jvm.ClassFile.FieldType.int)) ∈ tblG := my_in 719 (by decide +kernel) (by decide +kernel)
theorem tw_kl_X9_111 : (Jvm.Cond.constantLong "PitchRowsModel" (111 : Nat) (6 : Int64)) ∈ tblG := my_in 720 (by decide +kernel) (by decide +kernel)
theorem tw_ml_X9_113 : (Jvm.Cond.methodLink "PitchRowsModel" (113 : Nat) ({ cls := "PitchRowsModel", name := "readsCaller", desc := "(II)Z" } : Jvm.MethodName)) ∈ tblG := my_in 721 (by decide +kernel) (by decide +kernel)
theorem tw_im_X9_readsCaller : (Jvm.Cond.instanceMethod ({ cls := "PitchRowsModel", name := "readsCaller", desc := "(II)Z" } : Jvm.MethodName)) ∈ tblG := my_in 723 (by decide +kernel) (by decide +kernel)
theorem tw_cd_X9_readsCaller : (Jvm.Cond.code ({ cls := "PitchRowsModel", name := "readsCaller", desc := "(II)Z" } : Jvm.MethodName) prog_11_method_13_code (6 : Nat) (Option.some Jvm.ClassFile.FieldType.boolean)) ∈ tblG := my_in 724 (by decide +kernel) (by decide +kernel)
theorem tw_ml_X9_105 : (Jvm.Cond.methodLink "PitchRowsModel" (105 : Nat) ({ cls := "PitchRowsModel", name := "readsSign", desc := "(III)Z" } : Jvm.MethodName)) ∈ tblG := my_in 725 (by decide +kernel) (by decide +kernel)
theorem tw_im_X9_readsSign : (Jvm.Cond.instanceMethod ({ cls := "PitchRowsModel", name := "readsSign", desc := "(III)Z" } : Jvm.MethodName)) ∈ tblG := my_in 727 (by decide +kernel) (by decide +kernel)
theorem tw_cd_X9_readsSign : (Jvm.Cond.code ({ cls := "PitchRowsModel", name := "readsSign", desc := "(III)Z" } : Jvm.MethodName) prog_11_method_12_code (5 : Nat) (Option.some Jvm.ClassFile.FieldType.boolean)) ∈ tblG := my_in 728 (by decide +kernel) (by decide +kernel)
theorem tw_kl_X9_97 : (Jvm.Cond.constantLong "PitchRowsModel" (97 : Nat) (48 : Int64)) ∈ tblG := my_in 729 (by decide +kernel) (by decide +kernel)
theorem tw_ml_L_22 : (Jvm.Cond.methodLink "PitchRowsLaw" (22 : Nat) ({ cls := "PitchRowsModel", name := "ofCaller", desc := "(II)I" } : Jvm.MethodName)) ∈ tblG := my_in 730 (by decide +kernel) (by decide +kernel)
theorem tw_im_X9_ofCaller : (Jvm.Cond.instanceMethod ({ cls := "PitchRowsModel", name := "ofCaller", desc := "(II)I" } : Jvm.MethodName)) ∈ tblG := my_in 731 (by decide +kernel) (by decide +kernel)
theorem tw_se_X9_X9_ofCaller : (Jvm.Cond.selects "PitchRowsModel" ({ cls := "PitchRowsModel", name := "ofCaller", desc := "(II)I" } : Jvm.MethodName) ({ cls := "PitchRowsModel", name := "ofCaller", desc := "(II)I" } : Jvm.MethodName)) ∈ tblG := my_in 732 (by decide +kernel) (by decide +kernel)
theorem tw_cd_X9_ofCaller : (Jvm.Cond.code ({ cls := "PitchRowsModel", name := "ofCaller", desc := "(II)I" } : Jvm.MethodName) prog_11_method_26_code (3 : Nat) (Option.some Jvm.ClassFile.FieldType.int)) ∈ tblG := my_in 733 (by decide +kernel) (by decide +kernel)
theorem tw_ml_X9_165 : (Jvm.Cond.methodLink "PitchRowsModel" (165 : Nat) ({ cls := "PitchRowsModel", name := "noCaller", desc := "(I)Z" } : Jvm.MethodName)) ∈ tblG := my_in 734 (by decide +kernel) (by decide +kernel)
theorem tw_im_X9_noCaller : (Jvm.Cond.instanceMethod ({ cls := "PitchRowsModel", name := "noCaller", desc := "(I)Z" } : Jvm.MethodName)) ∈ tblG := my_in 736 (by decide +kernel) (by decide +kernel)
theorem tw_cd_X9_noCaller : (Jvm.Cond.code ({ cls := "PitchRowsModel", name := "noCaller", desc := "(I)Z" } : Jvm.MethodName) prog_11_method_9_code (2 : Nat) (Option.some Jvm.ClassFile.FieldType.boolean)) ∈ tblG := my_in 737 (by decide +kernel) (by decide +kernel)
theorem tw_kl_X9_168 : (Jvm.Cond.constantLong "PitchRowsModel" (168 : Nat) (10 : Int64)) ∈ tblG := my_in 738 (by decide +kernel) (by decide +kernel)
theorem tw_kl_X9_170 : (Jvm.Cond.constantLong "PitchRowsModel" (170 : Nat) (15 : Int64)) ∈ tblG := my_in 739 (by decide +kernel) (by decide +kernel)
theorem tw_ml_X9_172 : (Jvm.Cond.methodLink "PitchRowsModel" (172 : Nat) ({ cls := "PitchRowsModel", name := "noBeat", desc := "(I)Z" } : Jvm.MethodName)) ∈ tblG := my_in 740 (by decide +kernel) (by decide +kernel)
theorem tw_im_X9_noBeat : (Jvm.Cond.instanceMethod ({ cls := "PitchRowsModel", name := "noBeat", desc := "(I)Z" } : Jvm.MethodName)) ∈ tblG := my_in 742 (by decide +kernel) (by decide +kernel)
theorem tw_cd_X9_noBeat : (Jvm.Cond.code ({ cls := "PitchRowsModel", name := "noBeat", desc := "(I)Z" } : Jvm.MethodName) prog_11_method_10_code (2 : Nat) (Option.some Jvm.ClassFile.FieldType.boolean)) ∈ tblG := my_in 743 (by decide +kernel) (by decide +kernel)
theorem tw_ml_X9_145 : (Jvm.Cond.methodLink "PitchRowsModel" (145 : Nat) ({ cls := "PitchRowsModel", name := "pitch", desc := "(II)I" } : Jvm.MethodName)) ∈ tblG := my_in 744 (by decide +kernel) (by decide +kernel)
theorem tw_im_X9_pitch : (Jvm.Cond.instanceMethod ({ cls := "PitchRowsModel", name := "pitch", desc := "(II)I" } : Jvm.MethodName)) ∈ tblG := my_in 746 (by decide +kernel) (by decide +kernel)
theorem tw_cd_X9_pitch : (Jvm.Cond.code ({ cls := "PitchRowsModel", name := "pitch", desc := "(II)I" } : Jvm.MethodName) prog_11_method_17_code (3 : Nat) (Option.some Jvm.ClassFile.FieldType.int)) ∈ tblG := my_in 747 (by decide +kernel) (by decide +kernel)
theorem tw_ml_X9_155 : (Jvm.Cond.methodLink "PitchRowsModel" (155 : Nat) ({ cls := "PitchRowsModel", name := "freeOf", desc := "(I)I" } : Jvm.MethodName)) ∈ tblG := my_in 748 (by decide +kernel) (by decide +kernel)
theorem tw_im_X9_freeOf : (Jvm.Cond.instanceMethod ({ cls := "PitchRowsModel", name := "freeOf", desc := "(I)I" } : Jvm.MethodName)) ∈ tblG := my_in 750 (by decide +kernel) (by decide +kernel)
theorem tw_cd_X9_freeOf : (Jvm.Cond.code ({ cls := "PitchRowsModel", name := "freeOf", desc := "(I)I" } : Jvm.MethodName) prog_11_method_18_code (4 : Nat) (Option.some Jvm.ClassFile.FieldType.int)) ∈ tblG := my_in 751 (by decide +kernel) (by decide +kernel)
theorem tw_ml_X9_175 : (Jvm.Cond.methodLink "PitchRowsModel" (175 : Nat) ({ cls := "PitchRowsModel", name := "goodNow", desc := "(I)I" } : Jvm.MethodName)) ∈ tblG := my_in 752 (by decide +kernel) (by decide +kernel)
theorem tw_im_X9_goodNow : (Jvm.Cond.instanceMethod ({ cls := "PitchRowsModel", name := "goodNow", desc := "(I)I" } : Jvm.MethodName)) ∈ tblG := my_in 754 (by decide +kernel) (by decide +kernel)
theorem tw_cd_X9_goodNow : (Jvm.Cond.code ({ cls := "PitchRowsModel", name := "goodNow", desc := "(I)I" } : Jvm.MethodName) prog_11_method_25_code (2 : Nat) (Option.some Jvm.ClassFile.FieldType.int)) ∈ tblG := my_in 755 (by decide +kernel) (by decide +kernel)
theorem tw_ml_X9_158 : (Jvm.Cond.methodLink "PitchRowsModel" (158 : Nat) ({ cls := "PitchRowsModel", name := "triesThoseOf", desc := "(I)V" } : Jvm.MethodName)) ∈ tblG := my_in 756 (by decide +kernel) (by decide +kernel)
theorem tw_im_X9_triesThoseOf : (Jvm.Cond.instanceMethod ({ cls := "PitchRowsModel", name := "triesThoseOf", desc := "(I)V" } : Jvm.MethodName)) ∈ tblG := my_in 758 (by decide +kernel) (by decide +kernel)
theorem tw_cd_X9_triesThoseOf : (Jvm.Cond.code ({ cls := "PitchRowsModel", name := "triesThoseOf", desc := "(I)V" } : Jvm.MethodName) prog_11_method_24_code (3 : Nat) (Option.none : Option Jvm.ClassFile.FieldType)) ∈ tblG := my_in 759 (by decide +kernel) (by decide +kernel)
theorem tw_ml_X9_162 : (Jvm.Cond.methodLink "PitchRowsModel" (162 : Nat) ({ cls := "PitchRowsModel", name := "isGood", desc := "()Z" } : Jvm.MethodName)) ∈ tblG := my_in 760 (by decide +kernel) (by decide +kernel)
theorem tw_im_X9_isGood : (Jvm.Cond.instanceMethod ({ cls := "PitchRowsModel", name := "isGood", desc := "()Z" } : Jvm.MethodName)) ∈ tblG := my_in 762 (by decide +kernel) (by decide +kernel)
theorem tw_cd_X9_isGood : (Jvm.Cond.code ({ cls := "PitchRowsModel", name := "isGood", desc := "()Z" } : Jvm.MethodName) prog_11_method_20_code (6 : Nat) (Option.some Jvm.ClassFile.FieldType.boolean)) ∈ tblG := my_in 763 (by decide +kernel) (by decide +kernel)
theorem tw_ml_X9_151 : (Jvm.Cond.methodLink "PitchRowsModel" (151 : Nat) ({ cls := "PitchRowsModel", name := "areUnlike", desc := "()Z" } : Jvm.MethodName)) ∈ tblG := my_in 764 (by decide +kernel) (by decide +kernel)
theorem tw_im_X9_areUnlike : (Jvm.Cond.instanceMethod ({ cls := "PitchRowsModel", name := "areUnlike", desc := "()Z" } : Jvm.MethodName)) ∈ tblG := my_in 766 (by decide +kernel) (by decide +kernel)
theorem tw_cd_X9_areUnlike : (Jvm.Cond.code ({ cls := "PitchRowsModel", name := "areUnlike", desc := "()Z" } : Jvm.MethodName) prog_11_method_19_code (3 : Nat) (Option.some Jvm.ClassFile.FieldType.boolean)) ∈ tblG := my_in 767 (by decide +kernel) (by decide +kernel)
theorem tw_ml_X9_148 : (Jvm.Cond.methodLink "PitchRowsModel" (148 : Nat) ({ cls := "PitchRowsModel", name := "bits", desc := "(I)I" } : Jvm.MethodName)) ∈ tblG := my_in 768 (by decide +kernel) (by decide +kernel)
theorem tw_st_X9_bits : (Jvm.Cond.static ({ cls := "PitchRowsModel", name := "bits", desc := "(I)I" } : Jvm.MethodName)) ∈ tblG := my_in 769 (by decide +kernel) (by decide +kernel)
theorem tw_cd_X9_bits : (Jvm.Cond.code ({ cls := "PitchRowsModel", name := "bits", desc := "(I)I" } : Jvm.MethodName) prog_11_method_4_code (3 : Nat) (Option.some Jvm.ClassFile.FieldType.int)) ∈ tblG := my_in 770 (by decide +kernel) (by decide +kernel)
theorem tw_ml_L_27 : (Jvm.Cond.methodLink "PitchRowsLaw" (27 : Nat) ({ cls := "PitchRowsModel", name := "tune", desc := "(III)I" } : Jvm.MethodName)) ∈ tblG := my_in 771 (by decide +kernel) (by decide +kernel)
theorem tw_im_X9_tune : (Jvm.Cond.instanceMethod ({ cls := "PitchRowsModel", name := "tune", desc := "(III)I" } : Jvm.MethodName)) ∈ tblG := my_in 772 (by decide +kernel) (by decide +kernel)
theorem tw_se_X9_X9_tune : (Jvm.Cond.selects "PitchRowsModel" ({ cls := "PitchRowsModel", name := "tune", desc := "(III)I" } : Jvm.MethodName) ({ cls := "PitchRowsModel", name := "tune", desc := "(III)I" } : Jvm.MethodName)) ∈ tblG := my_in 773 (by decide +kernel) (by decide +kernel)
theorem tw_cd_X9_tune : (Jvm.Cond.code ({ cls := "PitchRowsModel", name := "tune", desc := "(III)I" } : Jvm.MethodName) prog_11_method_27_code (5 : Nat) (Option.some Jvm.ClassFile.FieldType.int)) ∈ tblG := my_in 774 (by decide +kernel) (by decide +kernel)
theorem tw_kl_X9_178 : (Jvm.Cond.constantLong "PitchRowsModel" (178 : Nat) (-1 : Int64)) ∈ tblG := my_in 775 (by decide +kernel) (by decide +kernel)
theorem tw_ml_L_31 : (Jvm.Cond.methodLink "PitchRowsLaw" (31 : Nat) ({ cls := "PitchRowsModel", name := "hears", desc := "(IIII)I" } : Jvm.MethodName)) ∈ tblG := my_in 776 (by decide +kernel) (by decide +kernel)
theorem tw_im_X9_hears : (Jvm.Cond.instanceMethod ({ cls := "PitchRowsModel", name := "hears", desc := "(IIII)I" } : Jvm.MethodName)) ∈ tblG := my_in 777 (by decide +kernel) (by decide +kernel)
theorem tw_se_X9_X9_hears : (Jvm.Cond.selects "PitchRowsModel" ({ cls := "PitchRowsModel", name := "hears", desc := "(IIII)I" } : Jvm.MethodName) ({ cls := "PitchRowsModel", name := "hears", desc := "(IIII)I" } : Jvm.MethodName)) ∈ tblG := my_in 778 (by decide +kernel) (by decide +kernel)
theorem tw_cd_X9_hears : (Jvm.Cond.code ({ cls := "PitchRowsModel", name := "hears", desc := "(IIII)I" } : Jvm.MethodName) prog_11_method_31_code (5 : Nat) (Option.some Jvm.ClassFile.FieldType.int)) ∈ tblG := my_in 779 (by decide +kernel) (by decide +kernel)
theorem tw_ml_X9_188 : (Jvm.Cond.methodLink "PitchRowsModel" (188 : Nat) ({ cls := "PitchRowsModel", name := "isShift", desc := "(I)Z" } : Jvm.MethodName)) ∈ tblG := my_in 780 (by decide +kernel) (by decide +kernel)
theorem tw_st_X9_isShift : (Jvm.Cond.static ({ cls := "PitchRowsModel", name := "isShift", desc := "(I)Z" } : Jvm.MethodName)) ∈ tblG := my_in 781 (by decide +kernel) (by decide +kernel)
theorem tw_cd_X9_isShift : (Jvm.Cond.code ({ cls := "PitchRowsModel", name := "isShift", desc := "(I)Z" } : Jvm.MethodName) prog_11_method_30_code (1 : Nat) (Option.some Jvm.ClassFile.FieldType.boolean)) ∈ tblG := my_in 782 (by decide +kernel) (by decide +kernel)
theorem tw_kl_X9_184 : (Jvm.Cond.constantLong "PitchRowsModel" (184 : Nat) (-5 : Int64)) ∈ tblG := my_in 783 (by decide +kernel) (by decide +kernel)
theorem tw_kl_X9_186 : (Jvm.Cond.constantLong "PitchRowsModel" (186 : Nat) (5 : Int64)) ∈ tblG := my_in 784 (by decide +kernel) (by decide +kernel)
theorem tw_ml_X9_191 : (Jvm.Cond.methodLink "PitchRowsModel" (191 : Nat) ({ cls := "PitchRowsModel", name := "heardBy", desc := "(IIII)I" } : Jvm.MethodName)) ∈ tblG := my_in 785 (by decide +kernel) (by decide +kernel)
theorem tw_im_X9_heardBy : (Jvm.Cond.instanceMethod ({ cls := "PitchRowsModel", name := "heardBy", desc := "(IIII)I" } : Jvm.MethodName)) ∈ tblG := my_in 787 (by decide +kernel) (by decide +kernel)
theorem tw_cd_X9_heardBy : (Jvm.Cond.code ({ cls := "PitchRowsModel", name := "heardBy", desc := "(IIII)I" } : Jvm.MethodName) prog_11_method_29_code (8 : Nat) (Option.some Jvm.ClassFile.FieldType.int)) ∈ tblG := my_in 788 (by decide +kernel) (by decide +kernel)
theorem tw_ml_X9_180 : (Jvm.Cond.methodLink "PitchRowsModel" (180 : Nat) ({ cls := "PitchRowsModel", name := "counts", desc := "(III)I" } : Jvm.MethodName)) ∈ tblG := my_in 789 (by decide +kernel) (by decide +kernel)
theorem tw_im_X9_counts : (Jvm.Cond.instanceMethod ({ cls := "PitchRowsModel", name := "counts", desc := "(III)I" } : Jvm.MethodName)) ∈ tblG := my_in 791 (by decide +kernel) (by decide +kernel)
theorem tw_cd_X9_counts : (Jvm.Cond.code ({ cls := "PitchRowsModel", name := "counts", desc := "(III)I" } : Jvm.MethodName) prog_11_method_28_code (5 : Nat) (Option.some Jvm.ClassFile.FieldType.int)) ∈ tblG := my_in 792 (by decide +kernel) (by decide +kernel)
theorem tw_ml_L_35 : (Jvm.Cond.methodLink "PitchRowsLaw" (35 : Nat) ({ cls := "PitchRowsModel", name := "send", desc := "(III)I" } : Jvm.MethodName)) ∈ tblG := my_in 793 (by decide +kernel) (by decide +kernel)
theorem tw_im_X9_send : (Jvm.Cond.instanceMethod ({ cls := "PitchRowsModel", name := "send", desc := "(III)I" } : Jvm.MethodName)) ∈ tblG := my_in 794 (by decide +kernel) (by decide +kernel)
theorem tw_se_X9_X9_send : (Jvm.Cond.selects "PitchRowsModel" ({ cls := "PitchRowsModel", name := "send", desc := "(III)I" } : Jvm.MethodName) ({ cls := "PitchRowsModel", name := "send", desc := "(III)I" } : Jvm.MethodName)) ∈ tblG := my_in 795 (by decide +kernel) (by decide +kernel)
theorem tw_cd_X9_send : (Jvm.Cond.code ({ cls := "PitchRowsModel", name := "send", desc := "(III)I" } : Jvm.MethodName) prog_11_method_33_code (4 : Nat) (Option.some Jvm.ClassFile.FieldType.int)) ∈ tblG := my_in 796 (by decide +kernel) (by decide +kernel)
theorem tw_kl_X9_195 : (Jvm.Cond.constantLong "PitchRowsModel" (195 : Nat) (20 : Int64)) ∈ tblG := my_in 797 (by decide +kernel) (by decide +kernel)
theorem tw_ml_X9_197 : (Jvm.Cond.methodLink "PitchRowsModel" (197 : Nat) ({ cls := "PitchRowsModel", name := "sends", desc := "(III)Z" } : Jvm.MethodName)) ∈ tblG := my_in 798 (by decide +kernel) (by decide +kernel)
theorem tw_im_X9_sends : (Jvm.Cond.instanceMethod ({ cls := "PitchRowsModel", name := "sends", desc := "(III)Z" } : Jvm.MethodName)) ∈ tblG := my_in 800 (by decide +kernel) (by decide +kernel)
theorem tw_cd_X9_sends : (Jvm.Cond.code ({ cls := "PitchRowsModel", name := "sends", desc := "(III)Z" } : Jvm.MethodName) prog_11_method_32_code (4 : Nat) (Option.some Jvm.ClassFile.FieldType.boolean)) ∈ tblG := my_in 801 (by decide +kernel) (by decide +kernel)
theorem tw_ml_L_40 : (Jvm.Cond.methodLink "PitchRowsLaw" (40 : Nat) ({ cls := "PitchRowsModel", name := "unsend", desc := "(I)I" } : Jvm.MethodName)) ∈ tblG := my_in 802 (by decide +kernel) (by decide +kernel)
theorem tw_im_X9_unsend : (Jvm.Cond.instanceMethod ({ cls := "PitchRowsModel", name := "unsend", desc := "(I)I" } : Jvm.MethodName)) ∈ tblG := my_in 803 (by decide +kernel) (by decide +kernel)
theorem tw_se_X9_X9_unsend : (Jvm.Cond.selects "PitchRowsModel" ({ cls := "PitchRowsModel", name := "unsend", desc := "(I)I" } : Jvm.MethodName) ({ cls := "PitchRowsModel", name := "unsend", desc := "(I)I" } : Jvm.MethodName)) ∈ tblG := my_in 804 (by decide +kernel) (by decide +kernel)
theorem tw_cd_X9_unsend : (Jvm.Cond.code ({ cls := "PitchRowsModel", name := "unsend", desc := "(I)I" } : Jvm.MethodName) prog_11_method_34_code (2 : Nat) (Option.some Jvm.ClassFile.FieldType.int)) ∈ tblG := my_in 805 (by decide +kernel) (by decide +kernel)
theorem tw_ml_L_44 : (Jvm.Cond.methodLink "PitchRowsLaw" (44 : Nat) ({ cls := "PitchRowsModel", name := "air", desc := "(I)I" } : Jvm.MethodName)) ∈ tblG := my_in 806 (by decide +kernel) (by decide +kernel)
theorem tw_im_X9_air : (Jvm.Cond.instanceMethod ({ cls := "PitchRowsModel", name := "air", desc := "(I)I" } : Jvm.MethodName)) ∈ tblG := my_in 807 (by decide +kernel) (by decide +kernel)
theorem tw_se_X9_X9_air : (Jvm.Cond.selects "PitchRowsModel" ({ cls := "PitchRowsModel", name := "air", desc := "(I)I" } : Jvm.MethodName) ({ cls := "PitchRowsModel", name := "air", desc := "(I)I" } : Jvm.MethodName)) ∈ tblG := my_in 808 (by decide +kernel) (by decide +kernel)
theorem tw_cd_X9_air : (Jvm.Cond.code ({ cls := "PitchRowsModel", name := "air", desc := "(I)I" } : Jvm.MethodName) prog_11_method_37_code (2 : Nat) (Option.some Jvm.ClassFile.FieldType.int)) ∈ tblG := my_in 809 (by decide +kernel) (by decide +kernel)
theorem tw_ml_X9_202 : (Jvm.Cond.methodLink "PitchRowsModel" (202 : Nat) ({ cls := "PitchRowsModel", name := "isMoment", desc := "(I)Z" } : Jvm.MethodName)) ∈ tblG := my_in 810 (by decide +kernel) (by decide +kernel)
theorem tw_st_X9_isMoment : (Jvm.Cond.static ({ cls := "PitchRowsModel", name := "isMoment", desc := "(I)Z" } : Jvm.MethodName)) ∈ tblG := my_in 811 (by decide +kernel) (by decide +kernel)
theorem tw_cd_X9_isMoment : (Jvm.Cond.code ({ cls := "PitchRowsModel", name := "isMoment", desc := "(I)Z" } : Jvm.MethodName) prog_11_method_35_code (1 : Nat) (Option.some Jvm.ClassFile.FieldType.boolean)) ∈ tblG := my_in 812 (by decide +kernel) (by decide +kernel)
theorem tw_kl_X9_200 : (Jvm.Cond.constantLong "PitchRowsModel" (200 : Nat) (25 : Int64)) ∈ tblG := my_in 813 (by decide +kernel) (by decide +kernel)
theorem tw_ml_X9_205 : (Jvm.Cond.methodLink "PitchRowsModel" (205 : Nat) ({ cls := "PitchRowsModel", name := "airOf", desc := "(I)I" } : Jvm.MethodName)) ∈ tblG := my_in 814 (by decide +kernel) (by decide +kernel)
theorem tw_im_X9_airOf : (Jvm.Cond.instanceMethod ({ cls := "PitchRowsModel", name := "airOf", desc := "(I)I" } : Jvm.MethodName)) ∈ tblG := my_in 816 (by decide +kernel) (by decide +kernel)
theorem tw_cd_X9_airOf : (Jvm.Cond.code ({ cls := "PitchRowsModel", name := "airOf", desc := "(I)I" } : Jvm.MethodName) prog_11_method_36_code (5 : Nat) (Option.some Jvm.ClassFile.FieldType.int)) ∈ tblG := my_in 817 (by decide +kernel) (by decide +kernel)
theorem tw_ml_L_48 : (Jvm.Cond.methodLink "PitchRowsLaw" (48 : Nat) ({ cls := "PitchRowsModel", name := "listen", desc := "(II)I" } : Jvm.MethodName)) ∈ tblG := my_in 818 (by decide +kernel) (by decide +kernel)
theorem tw_im_X9_listen : (Jvm.Cond.instanceMethod ({ cls := "PitchRowsModel", name := "listen", desc := "(II)I" } : Jvm.MethodName)) ∈ tblG := my_in 819 (by decide +kernel) (by decide +kernel)
theorem tw_se_X9_X9_listen : (Jvm.Cond.selects "PitchRowsModel" ({ cls := "PitchRowsModel", name := "listen", desc := "(II)I" } : Jvm.MethodName) ({ cls := "PitchRowsModel", name := "listen", desc := "(II)I" } : Jvm.MethodName)) ∈ tblG := my_in 820 (by decide +kernel) (by decide +kernel)
theorem tw_cd_X9_listen : (Jvm.Cond.code ({ cls := "PitchRowsModel", name := "listen", desc := "(II)I" } : Jvm.MethodName) prog_11_method_40_code (3 : Nat) (Option.some Jvm.ClassFile.FieldType.int)) ∈ tblG := my_in 821 (by decide +kernel) (by decide +kernel)
theorem tw_ml_X9_211 : (Jvm.Cond.methodLink "PitchRowsModel" (211 : Nat) ({ cls := "PitchRowsModel", name := "listensTo", desc := "(II)I" } : Jvm.MethodName)) ∈ tblG := my_in 822 (by decide +kernel) (by decide +kernel)
theorem tw_im_X9_listensTo : (Jvm.Cond.instanceMethod ({ cls := "PitchRowsModel", name := "listensTo", desc := "(II)I" } : Jvm.MethodName)) ∈ tblG := my_in 824 (by decide +kernel) (by decide +kernel)
theorem tw_cd_X9_listensTo : (Jvm.Cond.code ({ cls := "PitchRowsModel", name := "listensTo", desc := "(II)I" } : Jvm.MethodName) prog_11_method_39_code (5 : Nat) (Option.some Jvm.ClassFile.FieldType.int)) ∈ tblG := my_in 825 (by decide +kernel) (by decide +kernel)
theorem tw_ml_X9_208 : (Jvm.Cond.methodLink "PitchRowsModel" (208 : Nat) ({ cls := "PitchRowsModel", name := "countsOfAll", desc := "(III)I" } : Jvm.MethodName)) ∈ tblG := my_in 826 (by decide +kernel) (by decide +kernel)
theorem tw_im_X9_countsOfAll : (Jvm.Cond.instanceMethod ({ cls := "PitchRowsModel", name := "countsOfAll", desc := "(III)I" } : Jvm.MethodName)) ∈ tblG := my_in 828 (by decide +kernel) (by decide +kernel)
theorem tw_cd_X9_countsOfAll : (Jvm.Cond.code ({ cls := "PitchRowsModel", name := "countsOfAll", desc := "(III)I" } : Jvm.MethodName) prog_11_method_38_code (7 : Nat) (Option.some Jvm.ClassFile.FieldType.int)) ∈ tblG := my_in 829 (by decide +kernel) (by decide +kernel)
theorem tw_ml_L_52 : (Jvm.Cond.methodLink "PitchRowsLaw" (52 : Nat) ({ cls := "PitchRowsModel", name := "loudest", desc := "(II)I" } : Jvm.MethodName)) ∈ tblG := my_in 830 (by decide +kernel) (by decide +kernel)
theorem tw_im_X9_loudest : (Jvm.Cond.instanceMethod ({ cls := "PitchRowsModel", name := "loudest", desc := "(II)I" } : Jvm.MethodName)) ∈ tblG := my_in 831 (by decide +kernel) (by decide +kernel)
theorem tw_se_X9_X9_loudest : (Jvm.Cond.selects "PitchRowsModel" ({ cls := "PitchRowsModel", name := "loudest", desc := "(II)I" } : Jvm.MethodName) ({ cls := "PitchRowsModel", name := "loudest", desc := "(II)I" } : Jvm.MethodName)) ∈ tblG := my_in 832 (by decide +kernel) (by decide +kernel)
theorem tw_cd_X9_loudest : (Jvm.Cond.code ({ cls := "PitchRowsModel", name := "loudest", desc := "(II)I" } : Jvm.MethodName) prog_11_method_42_code (4 : Nat) (Option.some Jvm.ClassFile.FieldType.int)) ∈ tblG := my_in 833 (by decide +kernel) (by decide +kernel)
theorem tw_ml_X9_214 : (Jvm.Cond.methodLink "PitchRowsModel" (214 : Nat) ({ cls := "PitchRowsModel", name := "loudestOf", desc := "(I)I" } : Jvm.MethodName)) ∈ tblG := my_in 834 (by decide +kernel) (by decide +kernel)
theorem tw_im_X9_loudestOf : (Jvm.Cond.instanceMethod ({ cls := "PitchRowsModel", name := "loudestOf", desc := "(I)I" } : Jvm.MethodName)) ∈ tblG := my_in 836 (by decide +kernel) (by decide +kernel)
theorem tw_cd_X9_loudestOf : (Jvm.Cond.code ({ cls := "PitchRowsModel", name := "loudestOf", desc := "(I)I" } : Jvm.MethodName) prog_11_method_41_code (4 : Nat) (Option.some Jvm.ClassFile.FieldType.int)) ∈ tblG := my_in 837 (by decide +kernel) (by decide +kernel)
theorem tw_ml_L_57 : (Jvm.Cond.methodLink "PitchRowsLaw" (57 : Nat) ({ cls := "PitchRowsModel", name := "day", desc := "(IIIII)I" } : Jvm.MethodName)) ∈ tblG := my_in 838 (by decide +kernel) (by decide +kernel)
theorem tw_im_X9_day : (Jvm.Cond.instanceMethod ({ cls := "PitchRowsModel", name := "day", desc := "(IIIII)I" } : Jvm.MethodName)) ∈ tblG := my_in 839 (by decide +kernel) (by decide +kernel)
theorem tw_se_X9_X9_day : (Jvm.Cond.selects "PitchRowsModel" ({ cls := "PitchRowsModel", name := "day", desc := "(IIIII)I" } : Jvm.MethodName) ({ cls := "PitchRowsModel", name := "day", desc := "(IIIII)I" } : Jvm.MethodName)) ∈ tblG := my_in 840 (by decide +kernel) (by decide +kernel)
theorem tw_cd_X9_day : (Jvm.Cond.code ({ cls := "PitchRowsModel", name := "day", desc := "(IIIII)I" } : Jvm.MethodName) prog_11_method_49_code (10 : Nat) (Option.some Jvm.ClassFile.FieldType.int)) ∈ tblG := my_in 841 (by decide +kernel) (by decide +kernel)
theorem tw_kl_X9_234 : (Jvm.Cond.constantLong "PitchRowsModel" (234 : Nat) (4 : Int64)) ∈ tblG := my_in 842 (by decide +kernel) (by decide +kernel)
theorem tw_kl_X9_236 : (Jvm.Cond.constantLong "PitchRowsModel" (236 : Nat) (13 : Int64)) ∈ tblG := my_in 843 (by decide +kernel) (by decide +kernel)
theorem tw_ml_X9_238 : (Jvm.Cond.methodLink "PitchRowsModel" (238 : Nat) ({ cls := "PitchRowsModel", name := "isAsTold", desc := "(II)Z" } : Jvm.MethodName)) ∈ tblG := my_in 844 (by decide +kernel) (by decide +kernel)
theorem tw_st_X9_isAsTold : (Jvm.Cond.static ({ cls := "PitchRowsModel", name := "isAsTold", desc := "(II)Z" } : Jvm.MethodName)) ∈ tblG := my_in 845 (by decide +kernel) (by decide +kernel)
theorem tw_cd_X9_isAsTold : (Jvm.Cond.code ({ cls := "PitchRowsModel", name := "isAsTold", desc := "(II)Z" } : Jvm.MethodName) prog_11_method_43_code (2 : Nat) (Option.some Jvm.ClassFile.FieldType.boolean)) ∈ tblG := my_in 846 (by decide +kernel) (by decide +kernel)
theorem tw_kl_X9_217 : (Jvm.Cond.constantLong "PitchRowsModel" (217 : Nat) (8 : Int64)) ∈ tblG := my_in 847 (by decide +kernel) (by decide +kernel)
theorem tw_ml_X9_244 : (Jvm.Cond.methodLink "PitchRowsModel" (244 : Nat) ({ cls := "PitchRowsModel", name := "dayOf", desc := "(III)I" } : Jvm.MethodName)) ∈ tblG := my_in 848 (by decide +kernel) (by decide +kernel)
theorem tw_im_X9_dayOf : (Jvm.Cond.instanceMethod ({ cls := "PitchRowsModel", name := "dayOf", desc := "(III)I" } : Jvm.MethodName)) ∈ tblG := my_in 850 (by decide +kernel) (by decide +kernel)
theorem tw_cd_X9_dayOf : (Jvm.Cond.code ({ cls := "PitchRowsModel", name := "dayOf", desc := "(III)I" } : Jvm.MethodName) prog_11_method_48_code (6 : Nat) (Option.some Jvm.ClassFile.FieldType.int)) ∈ tblG := my_in 851 (by decide +kernel) (by decide +kernel)
theorem tw_ml_X9_221 : (Jvm.Cond.methodLink "PitchRowsModel" (221 : Nat) ({ cls := "PitchRowsModel", name := "doesPair", desc := "(II)Z" } : Jvm.MethodName)) ∈ tblG := my_in 852 (by decide +kernel) (by decide +kernel)
theorem tw_im_X9_doesPair : (Jvm.Cond.instanceMethod ({ cls := "PitchRowsModel", name := "doesPair", desc := "(II)Z" } : Jvm.MethodName)) ∈ tblG := my_in 854 (by decide +kernel) (by decide +kernel)
theorem tw_cd_X9_doesPair : (Jvm.Cond.code ({ cls := "PitchRowsModel", name := "doesPair", desc := "(II)Z" } : Jvm.MethodName) prog_11_method_44_code (4 : Nat) (Option.some Jvm.ClassFile.FieldType.boolean)) ∈ tblG := my_in 855 (by decide +kernel) (by decide +kernel)
theorem tw_ml_X9_224 : (Jvm.Cond.methodLink "PitchRowsModel" (224 : Nat) ({ cls := "PitchRowsModel", name := "manyThatSound", desc := "()I" } : Jvm.MethodName)) ∈ tblG := my_in 856 (by decide +kernel) (by decide +kernel)
theorem tw_im_X9_manyThatSound : (Jvm.Cond.instanceMethod ({ cls := "PitchRowsModel", name := "manyThatSound", desc := "()I" } : Jvm.MethodName)) ∈ tblG := my_in 858 (by decide +kernel) (by decide +kernel)
theorem tw_cd_X9_manyThatSound : (Jvm.Cond.code ({ cls := "PitchRowsModel", name := "manyThatSound", desc := "()I" } : Jvm.MethodName) prog_11_method_47_code (3 : Nat) (Option.some Jvm.ClassFile.FieldType.int)) ∈ tblG := my_in 859 (by decide +kernel) (by decide +kernel)
theorem tw_ml_X9_228 : (Jvm.Cond.methodLink "PitchRowsModel" (228 : Nat) ({ cls := "PitchRowsModel", name := "lastThatSounds", desc := "()I" } : Jvm.MethodName)) ∈ tblG := my_in 860 (by decide +kernel) (by decide +kernel)
theorem tw_im_X9_lastThatSounds : (Jvm.Cond.instanceMethod ({ cls := "PitchRowsModel", name := "lastThatSounds", desc := "()I" } : Jvm.MethodName)) ∈ tblG := my_in 862 (by decide +kernel) (by decide +kernel)
theorem tw_cd_X9_lastThatSounds : (Jvm.Cond.code ({ cls := "PitchRowsModel", name := "lastThatSounds", desc := "()I" } : Jvm.MethodName) prog_11_method_46_code (3 : Nat) (Option.some Jvm.ClassFile.FieldType.int)) ∈ tblG := my_in 863 (by decide +kernel) (by decide +kernel)
theorem tw_ml_X9_231 : (Jvm.Cond.methodLink "PitchRowsModel" (231 : Nat) ({ cls := "PitchRowsModel", name := "firstOfTwo", desc := "()I" } : Jvm.MethodName)) ∈ tblG := my_in 864 (by decide +kernel) (by decide +kernel)
theorem tw_im_X9_firstOfTwo : (Jvm.Cond.instanceMethod ({ cls := "PitchRowsModel", name := "firstOfTwo", desc := "()I" } : Jvm.MethodName)) ∈ tblG := my_in 866 (by decide +kernel) (by decide +kernel)
theorem tw_cd_X9_firstOfTwo : (Jvm.Cond.code ({ cls := "PitchRowsModel", name := "firstOfTwo", desc := "()I" } : Jvm.MethodName) prog_11_method_45_code (3 : Nat) (Option.some Jvm.ClassFile.FieldType.int)) ∈ tblG := my_in 867 (by decide +kernel) (by decide +kernel)
theorem tw_ml_L_61 : (Jvm.Cond.methodLink "PitchRowsLaw" (61 : Nat) ({ cls := "PitchRowsModel", name := "peak", desc := "(II)I" } : Jvm.MethodName)) ∈ tblG := my_in 868 (by decide +kernel) (by decide +kernel)
theorem tw_im_X9_peak : (Jvm.Cond.instanceMethod ({ cls := "PitchRowsModel", name := "peak", desc := "(II)I" } : Jvm.MethodName)) ∈ tblG := my_in 869 (by decide +kernel) (by decide +kernel)
theorem tw_se_X9_X9_peak : (Jvm.Cond.selects "PitchRowsModel" ({ cls := "PitchRowsModel", name := "peak", desc := "(II)I" } : Jvm.MethodName) ({ cls := "PitchRowsModel", name := "peak", desc := "(II)I" } : Jvm.MethodName)) ∈ tblG := my_in 870 (by decide +kernel) (by decide +kernel)
theorem tw_cd_X9_peak : (Jvm.Cond.code ({ cls := "PitchRowsModel", name := "peak", desc := "(II)I" } : Jvm.MethodName) prog_11_method_51_code (3 : Nat) (Option.some Jvm.ClassFile.FieldType.int)) ∈ tblG := my_in 871 (by decide +kernel) (by decide +kernel)
theorem tw_ml_X9_256 : (Jvm.Cond.methodLink "PitchRowsModel" (256 : Nat) ({ cls := "PitchRowsModel", name := "peaks", desc := "(I)V" } : Jvm.MethodName)) ∈ tblG := my_in 872 (by decide +kernel) (by decide +kernel)
theorem tw_im_X9_peaks : (Jvm.Cond.instanceMethod ({ cls := "PitchRowsModel", name := "peaks", desc := "(I)V" } : Jvm.MethodName)) ∈ tblG := my_in 874 (by decide +kernel) (by decide +kernel)
theorem tw_cd_X9_peaks : (Jvm.Cond.code ({ cls := "PitchRowsModel", name := "peaks", desc := "(I)V" } : Jvm.MethodName) prog_11_method_50_code (5 : Nat) (Option.none : Option Jvm.ClassFile.FieldType)) ∈ tblG := my_in 875 (by decide +kernel) (by decide +kernel)
theorem tw_ml_L_65 : (Jvm.Cond.methodLink "PitchRowsLaw" (65 : Nat) ({ cls := "PitchRowsModel", name := "clash", desc := "(II)I" } : Jvm.MethodName)) ∈ tblG := my_in 876 (by decide +kernel) (by decide +kernel)
theorem tw_im_X9_clash : (Jvm.Cond.instanceMethod ({ cls := "PitchRowsModel", name := "clash", desc := "(II)I" } : Jvm.MethodName)) ∈ tblG := my_in 877 (by decide +kernel) (by decide +kernel)
theorem tw_se_X9_X9_clash : (Jvm.Cond.selects "PitchRowsModel" ({ cls := "PitchRowsModel", name := "clash", desc := "(II)I" } : Jvm.MethodName) ({ cls := "PitchRowsModel", name := "clash", desc := "(II)I" } : Jvm.MethodName)) ∈ tblG := my_in 878 (by decide +kernel) (by decide +kernel)
theorem tw_cd_X9_clash : (Jvm.Cond.code ({ cls := "PitchRowsModel", name := "clash", desc := "(II)I" } : Jvm.MethodName) prog_11_method_52_code (7 : Nat) (Option.some Jvm.ClassFile.FieldType.int)) ∈ tblG := my_in 879 (by decide +kernel) (by decide +kernel)
theorem tw_ml_L_70 : (Jvm.Cond.methodLink "PitchRowsLaw" (70 : Nat) ({ cls := "PitchRowsModel", name := "rows", desc := "()I" } : Jvm.MethodName)) ∈ tblG := my_in 880 (by decide +kernel) (by decide +kernel)
theorem tw_im_X9_rows : (Jvm.Cond.instanceMethod ({ cls := "PitchRowsModel", name := "rows", desc := "()I" } : Jvm.MethodName)) ∈ tblG := my_in 881 (by decide +kernel) (by decide +kernel)
theorem tw_se_X9_X9_rows : (Jvm.Cond.selects "PitchRowsModel" ({ cls := "PitchRowsModel", name := "rows", desc := "()I" } : Jvm.MethodName) ({ cls := "PitchRowsModel", name := "rows", desc := "()I" } : Jvm.MethodName)) ∈ tblG := my_in 882 (by decide +kernel) (by decide +kernel)
theorem tw_cd_X9_rows : (Jvm.Cond.code ({ cls := "PitchRowsModel", name := "rows", desc := "()I" } : Jvm.MethodName) prog_11_method_53_code (3 : Nat) (Option.some Jvm.ClassFile.FieldType.int)) ∈ tblG := my_in 883 (by decide +kernel) (by decide +kernel)
theorem tw_ml_X9_259 : (Jvm.Cond.methodLink "PitchRowsModel" (259 : Nat) ({ cls := "PitchRowsModel", name := "triesFirst", desc := "()V" } : Jvm.MethodName)) ∈ tblG := my_in 884 (by decide +kernel) (by decide +kernel)
theorem tw_im_X9_triesFirst : (Jvm.Cond.instanceMethod ({ cls := "PitchRowsModel", name := "triesFirst", desc := "()V" } : Jvm.MethodName)) ∈ tblG := my_in 886 (by decide +kernel) (by decide +kernel)
theorem tw_cd_X9_triesFirst : (Jvm.Cond.code ({ cls := "PitchRowsModel", name := "triesFirst", desc := "()V" } : Jvm.MethodName) prog_11_method_21_code (2 : Nat) (Option.none : Option Jvm.ClassFile.FieldType)) ∈ tblG := my_in 887 (by decide +kernel) (by decide +kernel)
theorem tw_ml_X9_262 : (Jvm.Cond.methodLink "PitchRowsModel" (262 : Nat) ({ cls := "PitchRowsModel", name := "triesNext", desc := "()Z" } : Jvm.MethodName)) ∈ tblG := my_in 888 (by decide +kernel) (by decide +kernel)
theorem tw_im_X9_triesNext : (Jvm.Cond.instanceMethod ({ cls := "PitchRowsModel", name := "triesNext", desc := "()Z" } : Jvm.MethodName)) ∈ tblG := my_in 890 (by decide +kernel) (by decide +kernel)
theorem tw_cd_X9_triesNext : (Jvm.Cond.code ({ cls := "PitchRowsModel", name := "triesNext", desc := "()Z" } : Jvm.MethodName) prog_11_method_22_code (2 : Nat) (Option.some Jvm.ClassFile.FieldType.boolean)) ∈ tblG := my_in 891 (by decide +kernel) (by decide +kernel)
theorem tw_ml_L_74 : (Jvm.Cond.methodLink "PitchRowsLaw" (74 : Nat) ({ cls := "PitchRowsModel", name := "ways", desc := "(II)I" } : Jvm.MethodName)) ∈ tblG := my_in 892 (by decide +kernel) (by decide +kernel)
theorem tw_im_X9_ways : (Jvm.Cond.instanceMethod ({ cls := "PitchRowsModel", name := "ways", desc := "(II)I" } : Jvm.MethodName)) ∈ tblG := my_in 893 (by decide +kernel) (by decide +kernel)
theorem tw_se_X9_X9_ways : (Jvm.Cond.selects "PitchRowsModel" ({ cls := "PitchRowsModel", name := "ways", desc := "(II)I" } : Jvm.MethodName) ({ cls := "PitchRowsModel", name := "ways", desc := "(II)I" } : Jvm.MethodName)) ∈ tblG := my_in 894 (by decide +kernel) (by decide +kernel)
theorem tw_cd_X9_ways : (Jvm.Cond.code ({ cls := "PitchRowsModel", name := "ways", desc := "(II)I" } : Jvm.MethodName) prog_11_method_54_code (7 : Nat) (Option.some Jvm.ClassFile.FieldType.int)) ∈ tblG := my_in 895 (by decide +kernel) (by decide +kernel)
theorem tw_ml_X9_265 : (Jvm.Cond.methodLink "PitchRowsModel" (265 : Nat) ({ cls := "PitchRowsModel", name := "hasThoseOf", desc := "(I)Z" } : Jvm.MethodName)) ∈ tblG := my_in 896 (by decide +kernel) (by decide +kernel)
theorem tw_im_X9_hasThoseOf : (Jvm.Cond.instanceMethod ({ cls := "PitchRowsModel", name := "hasThoseOf", desc := "(I)Z" } : Jvm.MethodName)) ∈ tblG := my_in 898 (by decide +kernel) (by decide +kernel)
theorem tw_cd_X9_hasThoseOf : (Jvm.Cond.code ({ cls := "PitchRowsModel", name := "hasThoseOf", desc := "(I)Z" } : Jvm.MethodName) prog_11_method_23_code (4 : Nat) (Option.some Jvm.ClassFile.FieldType.boolean)) ∈ tblG := my_in 899 (by decide +kernel) (by decide +kernel)
theorem tw_ml_L_78 : (Jvm.Cond.methodLink "PitchRowsLaw" (78 : Nat) ({ cls := "PitchRowsModel", name := "next", desc := "(II)I" } : Jvm.MethodName)) ∈ tblG := my_in 900 (by decide +kernel) (by decide +kernel)
theorem tw_im_X9_next : (Jvm.Cond.instanceMethod ({ cls := "PitchRowsModel", name := "next", desc := "(II)I" } : Jvm.MethodName)) ∈ tblG := my_in 901 (by decide +kernel) (by decide +kernel)
theorem tw_se_X9_X9_next : (Jvm.Cond.selects "PitchRowsModel" ({ cls := "PitchRowsModel", name := "next", desc := "(II)I" } : Jvm.MethodName) ({ cls := "PitchRowsModel", name := "next", desc := "(II)I" } : Jvm.MethodName)) ∈ tblG := my_in 902 (by decide +kernel) (by decide +kernel)
theorem tw_cd_X9_next : (Jvm.Cond.code ({ cls := "PitchRowsModel", name := "next", desc := "(II)I" } : Jvm.MethodName) prog_11_method_55_code (4 : Nat) (Option.some Jvm.ClassFile.FieldType.int)) ∈ tblG := my_in 903 (by decide +kernel) (by decide +kernel)
theorem tw_ml_L_82 : (Jvm.Cond.methodLink "PitchRowsLaw" (82 : Nat) ({ cls := "PitchRowsModel", name := "reading", desc := "(IIIII)I" } : Jvm.MethodName)) ∈ tblG := my_in 904 (by decide +kernel) (by decide +kernel)
theorem tw_im_X9_reading : (Jvm.Cond.instanceMethod ({ cls := "PitchRowsModel", name := "reading", desc := "(IIIII)I" } : Jvm.MethodName)) ∈ tblG := my_in 905 (by decide +kernel) (by decide +kernel)
theorem tw_se_X9_X9_reading : (Jvm.Cond.selects "PitchRowsModel" ({ cls := "PitchRowsModel", name := "reading", desc := "(IIIII)I" } : Jvm.MethodName) ({ cls := "PitchRowsModel", name := "reading", desc := "(IIIII)I" } : Jvm.MethodName)) ∈ tblG := my_in 906 (by decide +kernel) (by decide +kernel)
theorem tw_cd_X9_reading : (Jvm.Cond.code ({ cls := "PitchRowsModel", name := "reading", desc := "(IIIII)I" } : Jvm.MethodName) prog_11_method_56_code (6 : Nat) (Option.some Jvm.ClassFile.FieldType.int)) ∈ tblG := my_in 907 (by decide +kernel) (by decide +kernel)
theorem tw_ml_L_86 : (Jvm.Cond.methodLink "PitchRowsLaw" (86 : Nat) ({ cls := "PitchRowsModel", name := "back", desc := "(I)I" } : Jvm.MethodName)) ∈ tblG := my_in 908 (by decide +kernel) (by decide +kernel)
theorem tw_im_X9_back : (Jvm.Cond.instanceMethod ({ cls := "PitchRowsModel", name := "back", desc := "(I)I" } : Jvm.MethodName)) ∈ tblG := my_in 909 (by decide +kernel) (by decide +kernel)
theorem tw_se_X9_X9_back : (Jvm.Cond.selects "PitchRowsModel" ({ cls := "PitchRowsModel", name := "back", desc := "(I)I" } : Jvm.MethodName) ({ cls := "PitchRowsModel", name := "back", desc := "(I)I" } : Jvm.MethodName)) ∈ tblG := my_in 910 (by decide +kernel) (by decide +kernel)
theorem tw_cd_X9_back : (Jvm.Cond.code ({ cls := "PitchRowsModel", name := "back", desc := "(I)I" } : Jvm.MethodName) prog_11_method_57_code (2 : Nat) (Option.some Jvm.ClassFile.FieldType.int)) ∈ tblG := my_in 911 (by decide +kernel) (by decide +kernel)
theorem tw_ml_L_90 : (Jvm.Cond.methodLink "PitchRowsLaw" (90 : Nat) ({ cls := "PitchRowsModel", name := "kinds", desc := "(I)I" } : Jvm.MethodName)) ∈ tblG := my_in 912 (by decide +kernel) (by decide +kernel)
theorem tw_im_X9_kinds : (Jvm.Cond.instanceMethod ({ cls := "PitchRowsModel", name := "kinds", desc := "(I)I" } : Jvm.MethodName)) ∈ tblG := my_in 913 (by decide +kernel) (by decide +kernel)
theorem tw_se_X9_X9_kinds : (Jvm.Cond.selects "PitchRowsModel" ({ cls := "PitchRowsModel", name := "kinds", desc := "(I)I" } : Jvm.MethodName) ({ cls := "PitchRowsModel", name := "kinds", desc := "(I)I" } : Jvm.MethodName)) ∈ tblG := my_in 914 (by decide +kernel) (by decide +kernel)
theorem tw_cd_X9_kinds : (Jvm.Cond.code ({ cls := "PitchRowsModel", name := "kinds", desc := "(I)I" } : Jvm.MethodName) prog_11_method_59_code (5 : Nat) (Option.some Jvm.ClassFile.FieldType.int)) ∈ tblG := my_in 915 (by decide +kernel) (by decide +kernel)
theorem tw_ml_X9_268 : (Jvm.Cond.methodLink "PitchRowsModel" (268 : Nat) ({ cls := "PitchRowsModel", name := "areSo", desc := "()Z" } : Jvm.MethodName)) ∈ tblG := my_in 916 (by decide +kernel) (by decide +kernel)
theorem tw_im_X9_areSo : (Jvm.Cond.instanceMethod ({ cls := "PitchRowsModel", name := "areSo", desc := "()Z" } : Jvm.MethodName)) ∈ tblG := my_in 918 (by decide +kernel) (by decide +kernel)
theorem tw_cd_X9_areSo : (Jvm.Cond.code ({ cls := "PitchRowsModel", name := "areSo", desc := "()Z" } : Jvm.MethodName) prog_11_method_58_code (3 : Nat) (Option.some Jvm.ClassFile.FieldType.boolean)) ∈ tblG := my_in 919 (by decide +kernel) (by decide +kernel)
theorem tw_ml_L_94 : (Jvm.Cond.methodLink "PitchRowsLaw" (94 : Nat) ({ cls := "PitchRowsModel", name := "pitches", desc := "(II)I" } : Jvm.MethodName)) ∈ tblG := my_in 920 (by decide +kernel) (by decide +kernel)
theorem tw_im_X9_pitches : (Jvm.Cond.instanceMethod ({ cls := "PitchRowsModel", name := "pitches", desc := "(II)I" } : Jvm.MethodName)) ∈ tblG := my_in 921 (by decide +kernel) (by decide +kernel)
theorem tw_se_X9_X9_pitches : (Jvm.Cond.selects "PitchRowsModel" ({ cls := "PitchRowsModel", name := "pitches", desc := "(II)I" } : Jvm.MethodName) ({ cls := "PitchRowsModel", name := "pitches", desc := "(II)I" } : Jvm.MethodName)) ∈ tblG := my_in 922 (by decide +kernel) (by decide +kernel)
theorem tw_cd_X9_pitches : (Jvm.Cond.code ({ cls := "PitchRowsModel", name := "pitches", desc := "(II)I" } : Jvm.MethodName) prog_11_method_60_code (7 : Nat) (Option.some Jvm.ClassFile.FieldType.int)) ∈ tblG := my_in 923 (by decide +kernel) (by decide +kernel)
theorem tw_ml_L_99 : (Jvm.Cond.methodLink "PitchRowsLaw" (99 : Nat) ({ cls := "PitchRowsModel", name := "odds", desc := "(III)J" } : Jvm.MethodName)) ∈ tblG := my_in 924 (by decide +kernel) (by decide +kernel)
theorem tw_im_X9_odds : (Jvm.Cond.instanceMethod ({ cls := "PitchRowsModel", name := "odds", desc := "(III)J" } : Jvm.MethodName)) ∈ tblG := my_in 925 (by decide +kernel) (by decide +kernel)
theorem tw_se_X9_X9_odds : (Jvm.Cond.selects "PitchRowsModel" ({ cls := "PitchRowsModel", name := "odds", desc := "(III)J" } : Jvm.MethodName) ({ cls := "PitchRowsModel", name := "odds", desc := "(III)J" } : Jvm.MethodName)) ∈ tblG := my_in 926 (by decide +kernel) (by decide +kernel)
theorem tw_cd_X9_odds : (Jvm.Cond.code ({ cls := "PitchRowsModel", name := "odds", desc := "(III)J" } : Jvm.MethodName) prog_11_method_61_code (7 : Nat) (Option.some Jvm.ClassFile.FieldType.long)) ∈ tblG := my_in 927 (by decide +kernel) (by decide +kernel)
theorem tw_ml_X9_76 : (Jvm.Cond.methodLink "PitchRowsModel" (76 : Nat) ({ cls := "PitchRowsModel", name := "lost", desc := "()J" } : Jvm.MethodName)) ∈ tblG := my_in 928 (by decide +kernel) (by decide +kernel)
theorem tw_st_X9_lost : (Jvm.Cond.static ({ cls := "PitchRowsModel", name := "lost", desc := "()J" } : Jvm.MethodName)) ∈ tblG := my_in 929 (by decide +kernel) (by decide +kernel)
theorem tw_cd_X9_lost : (Jvm.Cond.code ({ cls := "PitchRowsModel", name := "lost", desc := "()J" } : Jvm.MethodName) prog_11_method_3_code (0 : Nat) (Option.some Jvm.ClassFile.FieldType.long)) ∈ tblG := my_in 930 (by decide +kernel) (by decide +kernel)
theorem tw_kl_X9_70 : (Jvm.Cond.constantLong "PitchRowsModel" (70 : Nat) (-9223372036854775808 : Int64)) ∈ tblG := my_in 931 (by decide +kernel) (by decide +kernel)
theorem tw_kl_X9_271 : (Jvm.Cond.constantLong "PitchRowsModel" (271 : Nat) (120 : Int64)) ∈ tblG := my_in 932 (by decide +kernel) (by decide +kernel)
theorem tw_ml_X9_273 : (Jvm.Cond.methodLink "PitchRowsModel" (273 : Nat) ({ cls := "PitchRowsModel", name := "share", desc := "(JJI)J" } : Jvm.MethodName)) ∈ tblG := my_in 933 (by decide +kernel) (by decide +kernel)
theorem tw_st_X9_share : (Jvm.Cond.static ({ cls := "PitchRowsModel", name := "share", desc := "(JJI)J" } : Jvm.MethodName)) ∈ tblG := my_in 934 (by decide +kernel) (by decide +kernel)
theorem tw_cd_X9_share : (Jvm.Cond.code ({ cls := "PitchRowsModel", name := "share", desc := "(JJI)J" } : Jvm.MethodName) prog_11_method_5_code (11 : Nat) (Option.some Jvm.ClassFile.FieldType.long)) ∈ tblG := my_in 935 (by decide +kernel) (by decide +kernel)
theorem tw_ml_L_103 : (Jvm.Cond.methodLink "PitchRowsLaw" (103 : Nat) ({ cls := "PitchRowsModel", name := "sheet", desc := "(III)I" } : Jvm.MethodName)) ∈ tblG := my_in 936 (by decide +kernel) (by decide +kernel)
theorem tw_im_X9_sheet : (Jvm.Cond.instanceMethod ({ cls := "PitchRowsModel", name := "sheet", desc := "(III)I" } : Jvm.MethodName)) ∈ tblG := my_in 937 (by decide +kernel) (by decide +kernel)
theorem tw_se_X9_X9_sheet : (Jvm.Cond.selects "PitchRowsModel" ({ cls := "PitchRowsModel", name := "sheet", desc := "(III)I" } : Jvm.MethodName) ({ cls := "PitchRowsModel", name := "sheet", desc := "(III)I" } : Jvm.MethodName)) ∈ tblG := my_in 938 (by decide +kernel) (by decide +kernel)
theorem tw_cd_X9_sheet : (Jvm.Cond.code ({ cls := "PitchRowsModel", name := "sheet", desc := "(III)I" } : Jvm.MethodName) prog_11_method_63_code (5 : Nat) (Option.some Jvm.ClassFile.FieldType.int)) ∈ tblG := my_in 939 (by decide +kernel) (by decide +kernel)
theorem tw_ml_L_107 : (Jvm.Cond.methodLink "PitchRowsLaw" (107 : Nat) ({ cls := "PitchRowsModel", name := "lose", desc := "(I)I" } : Jvm.MethodName)) ∈ tblG := my_in 940 (by decide +kernel) (by decide +kernel)
theorem tw_im_X9_lose : (Jvm.Cond.instanceMethod ({ cls := "PitchRowsModel", name := "lose", desc := "(I)I" } : Jvm.MethodName)) ∈ tblG := my_in 941 (by decide +kernel) (by decide +kernel)
theorem tw_se_X9_X9_lose : (Jvm.Cond.selects "PitchRowsModel" ({ cls := "PitchRowsModel", name := "lose", desc := "(I)I" } : Jvm.MethodName) ({ cls := "PitchRowsModel", name := "lose", desc := "(I)I" } : Jvm.MethodName)) ∈ tblG := my_in 942 (by decide +kernel) (by decide +kernel)
theorem tw_cd_X9_lose : (Jvm.Cond.code ({ cls := "PitchRowsModel", name := "lose", desc := "(I)I" } : Jvm.MethodName) prog_11_method_64_code (3 : Nat) (Option.some Jvm.ClassFile.FieldType.int)) ∈ tblG := my_in 943 (by decide +kernel) (by decide +kernel)
theorem tw_ml_L_111 : (Jvm.Cond.methodLink "PitchRowsLaw" (111 : Nat) ({ cls := "PitchRowsModel", name := "put", desc := "(III)I" } : Jvm.MethodName)) ∈ tblG := my_in 944 (by decide +kernel) (by decide +kernel)
theorem tw_im_X9_put : (Jvm.Cond.instanceMethod ({ cls := "PitchRowsModel", name := "put", desc := "(III)I" } : Jvm.MethodName)) ∈ tblG := my_in 945 (by decide +kernel) (by decide +kernel)
theorem tw_se_X9_X9_put : (Jvm.Cond.selects "PitchRowsModel" ({ cls := "PitchRowsModel", name := "put", desc := "(III)I" } : Jvm.MethodName) ({ cls := "PitchRowsModel", name := "put", desc := "(III)I" } : Jvm.MethodName)) ∈ tblG := my_in 946 (by decide +kernel) (by decide +kernel)
theorem tw_cd_X9_put : (Jvm.Cond.code ({ cls := "PitchRowsModel", name := "put", desc := "(III)I" } : Jvm.MethodName) prog_11_method_66_code (4 : Nat) (Option.some Jvm.ClassFile.FieldType.int)) ∈ tblG := my_in 947 (by decide +kernel) (by decide +kernel)
theorem tw_ml_X9_277 : (Jvm.Cond.methodLink "PitchRowsModel" (277 : Nat) ({ cls := "PitchRowsModel", name := "noCell", desc := "(II)I" } : Jvm.MethodName)) ∈ tblG := my_in 948 (by decide +kernel) (by decide +kernel)
theorem tw_im_X9_noCell : (Jvm.Cond.instanceMethod ({ cls := "PitchRowsModel", name := "noCell", desc := "(II)I" } : Jvm.MethodName)) ∈ tblG := my_in 950 (by decide +kernel) (by decide +kernel)
theorem tw_cd_X9_noCell : (Jvm.Cond.code ({ cls := "PitchRowsModel", name := "noCell", desc := "(II)I" } : Jvm.MethodName) prog_11_method_65_code (3 : Nat) (Option.some Jvm.ClassFile.FieldType.int)) ∈ tblG := my_in 951 (by decide +kernel) (by decide +kernel)
theorem tw_ml_L_115 : (Jvm.Cond.methodLink "PitchRowsLaw" (115 : Nat) ({ cls := "PitchRowsModel", name := "cell", desc := "(III)J" } : Jvm.MethodName)) ∈ tblG := my_in 952 (by decide +kernel) (by decide +kernel)
theorem tw_im_X9_cell : (Jvm.Cond.instanceMethod ({ cls := "PitchRowsModel", name := "cell", desc := "(III)J" } : Jvm.MethodName)) ∈ tblG := my_in 953 (by decide +kernel) (by decide +kernel)
theorem tw_se_X9_X9_cell : (Jvm.Cond.selects "PitchRowsModel" ({ cls := "PitchRowsModel", name := "cell", desc := "(III)J" } : Jvm.MethodName) ({ cls := "PitchRowsModel", name := "cell", desc := "(III)J" } : Jvm.MethodName)) ∈ tblG := my_in 954 (by decide +kernel) (by decide +kernel)
theorem tw_cd_X9_cell : (Jvm.Cond.code ({ cls := "PitchRowsModel", name := "cell", desc := "(III)J" } : Jvm.MethodName) prog_11_method_67_code (4 : Nat) (Option.some Jvm.ClassFile.FieldType.long)) ∈ tblG := my_in 955 (by decide +kernel) (by decide +kernel)
theorem tw_ml_X9_280 : (Jvm.Cond.methodLink "PitchRowsModel" (280 : Nat) ({ cls := "PitchRowsModel", name := "failedLong", desc := "(I)J" } : Jvm.MethodName)) ∈ tblG := my_in 956 (by decide +kernel) (by decide +kernel)
theorem tw_im_X9_failedLong : (Jvm.Cond.instanceMethod ({ cls := "PitchRowsModel", name := "failedLong", desc := "(I)J" } : Jvm.MethodName)) ∈ tblG := my_in 958 (by decide +kernel) (by decide +kernel)
theorem tw_cd_X9_failedLong : (Jvm.Cond.code ({ cls := "PitchRowsModel", name := "failedLong", desc := "(I)J" } : Jvm.MethodName) prog_11_method_8_code (2 : Nat) (Option.some Jvm.ClassFile.FieldType.long)) ∈ tblG := my_in 959 (by decide +kernel) (by decide +kernel)
theorem tw_ml_L_119 : (Jvm.Cond.methodLink "PitchRowsLaw" (119 : Nat) ({ cls := "PitchRowsModel", name := "copy", desc := "(IIIII)I" } : Jvm.MethodName)) ∈ tblG := my_in 960 (by decide +kernel) (by decide +kernel)
theorem tw_im_X9_copy : (Jvm.Cond.instanceMethod ({ cls := "PitchRowsModel", name := "copy", desc := "(IIIII)I" } : Jvm.MethodName)) ∈ tblG := my_in 961 (by decide +kernel) (by decide +kernel)
theorem tw_se_X9_X9_copy : (Jvm.Cond.selects "PitchRowsModel" ({ cls := "PitchRowsModel", name := "copy", desc := "(IIIII)I" } : Jvm.MethodName) ({ cls := "PitchRowsModel", name := "copy", desc := "(IIIII)I" } : Jvm.MethodName)) ∈ tblG := my_in 962 (by decide +kernel) (by decide +kernel)
theorem tw_cd_X9_copy : (Jvm.Cond.code ({ cls := "PitchRowsModel", name := "copy", desc := "(IIIII)I" } : Jvm.MethodName) prog_11_method_69_code (7 : Nat) (Option.some Jvm.ClassFile.FieldType.int)) ∈ tblG := my_in 963 (by decide +kernel) (by decide +kernel)
theorem tw_ml_L_123 : (Jvm.Cond.methodLink "PitchRowsLaw" (123 : Nat) ({ cls := "PitchRowsModel", name := "tell", desc := "(I)I" } : Jvm.MethodName)) ∈ tblG := my_in 964 (by decide +kernel) (by decide +kernel)
theorem tw_im_X9_tell : (Jvm.Cond.instanceMethod ({ cls := "PitchRowsModel", name := "tell", desc := "(I)I" } : Jvm.MethodName)) ∈ tblG := my_in 965 (by decide +kernel) (by decide +kernel)
theorem tw_se_X9_X9_tell : (Jvm.Cond.selects "PitchRowsModel" ({ cls := "PitchRowsModel", name := "tell", desc := "(I)I" } : Jvm.MethodName) ({ cls := "PitchRowsModel", name := "tell", desc := "(I)I" } : Jvm.MethodName)) ∈ tblG := my_in 966 (by decide +kernel) (by decide +kernel)
theorem tw_cd_X9_tell : (Jvm.Cond.code ({ cls := "PitchRowsModel", name := "tell", desc := "(I)I" } : Jvm.MethodName) prog_11_method_71_code (4 : Nat) (Option.some Jvm.ClassFile.FieldType.int)) ∈ tblG := my_in 967 (by decide +kernel) (by decide +kernel)
theorem tw_ml_X9_287 : (Jvm.Cond.methodLink "PitchRowsModel" (287 : Nat) ({ cls := "PitchRowsModel", name := "traced", desc := "(I)V" } : Jvm.MethodName)) ∈ tblG := my_in 968 (by decide +kernel) (by decide +kernel)
theorem tw_im_X9_traced : (Jvm.Cond.instanceMethod ({ cls := "PitchRowsModel", name := "traced", desc := "(I)V" } : Jvm.MethodName)) ∈ tblG := my_in 970 (by decide +kernel) (by decide +kernel)
theorem tw_cd_X9_traced : (Jvm.Cond.code ({ cls := "PitchRowsModel", name := "traced", desc := "(I)V" } : Jvm.MethodName) prog_11_method_70_code (2 : Nat) (Option.none : Option Jvm.ClassFile.FieldType)) ∈ tblG := my_in 971 (by decide +kernel) (by decide +kernel)
theorem tw_ml_L_127 : (Jvm.Cond.methodLink "PitchRowsLaw" (127 : Nat) ({ cls := "PitchRowsModel", name := "hail", desc := "(I)I" } : Jvm.MethodName)) ∈ tblG := my_in 972 (by decide +kernel) (by decide +kernel)
theorem tw_im_X9_hail : (Jvm.Cond.instanceMethod ({ cls := "PitchRowsModel", name := "hail", desc := "(I)I" } : Jvm.MethodName)) ∈ tblG := my_in 973 (by decide +kernel) (by decide +kernel)
theorem tw_se_X9_X9_hail : (Jvm.Cond.selects "PitchRowsModel" ({ cls := "PitchRowsModel", name := "hail", desc := "(I)I" } : Jvm.MethodName) ({ cls := "PitchRowsModel", name := "hail", desc := "(I)I" } : Jvm.MethodName)) ∈ tblG := my_in 974 (by decide +kernel) (by decide +kernel)
theorem tw_cd_X9_hail : (Jvm.Cond.code ({ cls := "PitchRowsModel", name := "hail", desc := "(I)I" } : Jvm.MethodName) prog_11_method_72_code (2 : Nat) (Option.some Jvm.ClassFile.FieldType.int)) ∈ tblG := my_in 975 (by decide +kernel) (by decide +kernel)
theorem tw_ml_L_131 : (Jvm.Cond.methodLink "PitchRowsLaw" (131 : Nat) ({ cls := "PitchRowsModel", name := "as", desc := "(II)I" } : Jvm.MethodName)) ∈ tblG := my_in 976 (by decide +kernel) (by decide +kernel)
theorem tw_im_X9_as : (Jvm.Cond.instanceMethod ({ cls := "PitchRowsModel", name := "as", desc := "(II)I" } : Jvm.MethodName)) ∈ tblG := my_in 977 (by decide +kernel) (by decide +kernel)
theorem tw_se_X9_X9_as : (Jvm.Cond.selects "PitchRowsModel" ({ cls := "PitchRowsModel", name := "as", desc := "(II)I" } : Jvm.MethodName) ({ cls := "PitchRowsModel", name := "as", desc := "(II)I" } : Jvm.MethodName)) ∈ tblG := my_in 978 (by decide +kernel) (by decide +kernel)
theorem tw_cd_X9_as : (Jvm.Cond.code ({ cls := "PitchRowsModel", name := "as", desc := "(II)I" } : Jvm.MethodName) prog_11_method_73_code (3 : Nat) (Option.some Jvm.ClassFile.FieldType.int)) ∈ tblG := my_in 979 (by decide +kernel) (by decide +kernel)
theorem tw_ml_L_135 : (Jvm.Cond.methodLink "PitchRowsLaw" (135 : Nat) ({ cls := "PitchRowsModel", name := "trace", desc := "()I" } : Jvm.MethodName)) ∈ tblG := my_in 980 (by decide +kernel) (by decide +kernel)
theorem tw_im_X9_trace : (Jvm.Cond.instanceMethod ({ cls := "PitchRowsModel", name := "trace", desc := "()I" } : Jvm.MethodName)) ∈ tblG := my_in 981 (by decide +kernel) (by decide +kernel)
theorem tw_se_X9_X9_trace : (Jvm.Cond.selects "PitchRowsModel" ({ cls := "PitchRowsModel", name := "trace", desc := "()I" } : Jvm.MethodName) ({ cls := "PitchRowsModel", name := "trace", desc := "()I" } : Jvm.MethodName)) ∈ tblG := my_in 982 (by decide +kernel) (by decide +kernel)
theorem tw_cd_X9_trace : (Jvm.Cond.code ({ cls := "PitchRowsModel", name := "trace", desc := "()I" } : Jvm.MethodName) prog_11_method_74_code (1 : Nat) (Option.some Jvm.ClassFile.FieldType.int)) ∈ tblG := my_in 983 (by decide +kernel) (by decide +kernel)
theorem tw_ml_L_139 : (Jvm.Cond.methodLink "PitchRowsLaw" (139 : Nat) ({ cls := "PitchRowsModel", name := "fault", desc := "()I" } : Jvm.MethodName)) ∈ tblG := my_in 984 (by decide +kernel) (by decide +kernel)
theorem tw_im_X9_fault : (Jvm.Cond.instanceMethod ({ cls := "PitchRowsModel", name := "fault", desc := "()I" } : Jvm.MethodName)) ∈ tblG := my_in 985 (by decide +kernel) (by decide +kernel)
theorem tw_se_X9_X9_fault : (Jvm.Cond.selects "PitchRowsModel" ({ cls := "PitchRowsModel", name := "fault", desc := "()I" } : Jvm.MethodName) ({ cls := "PitchRowsModel", name := "fault", desc := "()I" } : Jvm.MethodName)) ∈ tblG := my_in 986 (by decide +kernel) (by decide +kernel)
theorem tw_cd_X9_fault : (Jvm.Cond.code ({ cls := "PitchRowsModel", name := "fault", desc := "()I" } : Jvm.MethodName) prog_11_method_75_code (1 : Nat) (Option.some Jvm.ClassFile.FieldType.int)) ∈ tblG := my_in 987 (by decide +kernel) (by decide +kernel)
theorem tw_ml_L_143 : (Jvm.Cond.methodLink "PitchRowsLaw" (143 : Nat) ({ cls := "PitchRowsModel", name := "many", desc := "(I)I" } : Jvm.MethodName)) ∈ tblG := my_in 988 (by decide +kernel) (by decide +kernel)
theorem tw_im_X9_many : (Jvm.Cond.instanceMethod ({ cls := "PitchRowsModel", name := "many", desc := "(I)I" } : Jvm.MethodName)) ∈ tblG := my_in 989 (by decide +kernel) (by decide +kernel)
theorem tw_se_X9_X9_many : (Jvm.Cond.selects "PitchRowsModel" ({ cls := "PitchRowsModel", name := "many", desc := "(I)I" } : Jvm.MethodName) ({ cls := "PitchRowsModel", name := "many", desc := "(I)I" } : Jvm.MethodName)) ∈ tblG := my_in 990 (by decide +kernel) (by decide +kernel)
theorem tw_cd_X9_many : (Jvm.Cond.code ({ cls := "PitchRowsModel", name := "many", desc := "(I)I" } : Jvm.MethodName) prog_11_method_76_code (4 : Nat) (Option.some Jvm.ClassFile.FieldType.int)) ∈ tblG := my_in 991 (by decide +kernel) (by decide +kernel)
theorem tw_se_X8_X8_faulted : (Jvm.Cond.selects "PitchRows" (⟨"PitchRows", "faulted", "(I)I"⟩ : Jvm.MethodName) (⟨"PitchRows", "faulted", "(I)I"⟩ : Jvm.MethodName)) ∈ tblG := my_inP 0 (by decide +kernel) (by decide +kernel)
theorem tw_se_X7_X7_goesOn : (Jvm.Cond.selects "PitchRows$TextReader" (⟨"PitchRows$TextReader", "goesOn", "(II)Z"⟩ : Jvm.MethodName) (⟨"PitchRows$TextReader", "goesOn", "(II)Z"⟩ : Jvm.MethodName)) ∈ tblG := my_inP 1 (by decide +kernel) (by decide +kernel)
theorem tw_se_X7_X7_fitsPart : (Jvm.Cond.selects "PitchRows$TextReader" (⟨"PitchRows$TextReader", "fitsPart", "(I)Z"⟩ : Jvm.MethodName) (⟨"PitchRows$TextReader", "fitsPart", "(I)Z"⟩ : Jvm.MethodName)) ∈ tblG := my_inP 2 (by decide +kernel) (by decide +kernel)
theorem tw_se_X8_X8_toldPitch : (Jvm.Cond.selects "PitchRows" (⟨"PitchRows", "toldPitch", "(LPitchRows$Caller;I)I"⟩ : Jvm.MethodName) (⟨"PitchRows", "toldPitch", "(LPitchRows$Caller;I)I"⟩ : Jvm.MethodName)) ∈ tblG := my_inP 3 (by decide +kernel) (by decide +kernel)
theorem tw_se_X8_X8_firstWrong : (Jvm.Cond.selects "PitchRows" (⟨"PitchRows", "firstWrong", "(LPitchRows$Sheet;II)I"⟩ : Jvm.MethodName) (⟨"PitchRows", "firstWrong", "(LPitchRows$Sheet;II)I"⟩ : Jvm.MethodName)) ∈ tblG := my_inP 4 (by decide +kernel) (by decide +kernel)
theorem tw_se_X8_X8_afterDay : (Jvm.Cond.selects "PitchRows" (⟨"PitchRows", "afterDay", "(I)I"⟩ : Jvm.MethodName) (⟨"PitchRows", "afterDay", "(I)I"⟩ : Jvm.MethodName)) ∈ tblG := my_inP 5 (by decide +kernel) (by decide +kernel)
theorem tw_se_X8_X8_mostListened : (Jvm.Cond.selects "PitchRows" (⟨"PitchRows", "mostListened", "(I[I)I"⟩ : Jvm.MethodName) (⟨"PitchRows", "mostListened", "(I[I)I"⟩ : Jvm.MethodName)) ∈ tblG := my_inP 6 (by decide +kernel) (by decide +kernel)
theorem tw_se_X3_X3_keep : (Jvm.Cond.selects "PitchRows$GoodRows" (⟨"PitchRows$GoodRows", "keep", "()V"⟩ : Jvm.MethodName) (⟨"PitchRows$GoodRows", "keep", "()V"⟩ : Jvm.MethodName)) ∈ tblG := my_inP 7 (by decide +kernel) (by decide +kernel)
theorem tw_se_X3_X3_codeOf : (Jvm.Cond.selects "PitchRows$GoodRows" (⟨"PitchRows$GoodRows", "codeOf", "([I)I"⟩ : Jvm.MethodName) (⟨"PitchRows$GoodRows", "codeOf", "([I)I"⟩ : Jvm.MethodName)) ∈ tblG := my_inP 8 (by decide +kernel) (by decide +kernel)
theorem tw_se_X3_X3_isLike : (Jvm.Cond.selects "PitchRows$GoodRows" (⟨"PitchRows$GoodRows", "isLike", "(I[I)Z"⟩ : Jvm.MethodName) (⟨"PitchRows$GoodRows", "isLike", "(I[I)Z"⟩ : Jvm.MethodName)) ∈ tblG := my_inP 9 (by decide +kernel) (by decide +kernel)
theorem tw_se_X8_X8_keenTelling : (Jvm.Cond.selects "PitchRows" (⟨"PitchRows", "keenTelling", "(LPitchRows$Caller;)I"⟩ : Jvm.MethodName) (⟨"PitchRows", "keenTelling", "(LPitchRows$Caller;)I"⟩ : Jvm.MethodName)) ∈ tblG := my_inP 10 (by decide +kernel) (by decide +kernel)
theorem tw_se_X8_X8_leave : (Jvm.Cond.selects "PitchRows" (⟨"PitchRows", "leave", "(I)V"⟩ : Jvm.MethodName) (⟨"PitchRows", "leave", "(I)V"⟩ : Jvm.MethodName)) ∈ tblG := my_inP 11 (by decide +kernel) (by decide +kernel)
theorem tw_se_X8_X8_broadTelling : (Jvm.Cond.selects "PitchRows" (⟨"PitchRows", "broadTelling", "(LPitchRows$Caller;)I"⟩ : Jvm.MethodName) (⟨"PitchRows", "broadTelling", "(LPitchRows$Caller;)I"⟩ : Jvm.MethodName)) ∈ tblG := my_inP 12 (by decide +kernel) (by decide +kernel)
theorem tw_se_X8_X8_plainTelling : (Jvm.Cond.selects "PitchRows" (⟨"PitchRows", "plainTelling", "(LPitchRows$Caller;)I"⟩ : Jvm.MethodName) (⟨"PitchRows", "plainTelling", "(LPitchRows$Caller;)I"⟩ : Jvm.MethodName)) ∈ tblG := my_inP 13 (by decide +kernel) (by decide +kernel)
theorem tw_se_X8_X8_keenHail : (Jvm.Cond.selects "PitchRows" (⟨"PitchRows", "keenHail", "()I"⟩ : Jvm.MethodName) (⟨"PitchRows", "keenHail", "()I"⟩ : Jvm.MethodName)) ∈ tblG := my_inP 14 (by decide +kernel) (by decide +kernel)
theorem tw_se_X8_X8_lentHail : (Jvm.Cond.selects "PitchRows" (⟨"PitchRows", "lentHail", "(I)I"⟩ : Jvm.MethodName) (⟨"PitchRows", "lentHail", "(I)I"⟩ : Jvm.MethodName)) ∈ tblG := my_inP 15 (by decide +kernel) (by decide +kernel)
theorem tw_se_X9_X9_refused : (Jvm.Cond.selects "PitchRowsModel" (⟨"PitchRowsModel", "refused", "(I)I"⟩ : Jvm.MethodName) (⟨"PitchRowsModel", "refused", "(I)I"⟩ : Jvm.MethodName)) ∈ tblG := my_inP 16 (by decide +kernel) (by decide +kernel)
theorem tw_se_X9_X9_cellsBarred : (Jvm.Cond.selects "PitchRowsModel" (⟨"PitchRowsModel", "cellsBarred", "(IIIJ)I"⟩ : Jvm.MethodName) (⟨"PitchRowsModel", "cellsBarred", "(IIIJ)I"⟩ : Jvm.MethodName)) ∈ tblG := my_inP 17 (by decide +kernel) (by decide +kernel)
theorem tw_se_X9_X9_failed : (Jvm.Cond.selects "PitchRowsModel" (⟨"PitchRowsModel", "failed", "(I)I"⟩ : Jvm.MethodName) (⟨"PitchRowsModel", "failed", "(I)I"⟩ : Jvm.MethodName)) ∈ tblG := my_inP 18 (by decide +kernel) (by decide +kernel)
theorem tw_se_X9_X9_readsCallers : (Jvm.Cond.selects "PitchRowsModel" (⟨"PitchRowsModel", "readsCallers", "(II)Z"⟩ : Jvm.MethodName) (⟨"PitchRowsModel", "readsCallers", "(II)Z"⟩ : Jvm.MethodName)) ∈ tblG := my_inP 19 (by decide +kernel) (by decide +kernel)
theorem tw_se_X9_X9_codeAt : (Jvm.Cond.selects "PitchRowsModel" (⟨"PitchRowsModel", "codeAt", "(II)I"⟩ : Jvm.MethodName) (⟨"PitchRowsModel", "codeAt", "(II)I"⟩ : Jvm.MethodName)) ∈ tblG := my_inP 20 (by decide +kernel) (by decide +kernel)
theorem tw_se_X9_X9_readsCaller : (Jvm.Cond.selects "PitchRowsModel" (⟨"PitchRowsModel", "readsCaller", "(II)Z"⟩ : Jvm.MethodName) (⟨"PitchRowsModel", "readsCaller", "(II)Z"⟩ : Jvm.MethodName)) ∈ tblG := my_inP 21 (by decide +kernel) (by decide +kernel)
theorem tw_se_X9_X9_readsSign : (Jvm.Cond.selects "PitchRowsModel" (⟨"PitchRowsModel", "readsSign", "(III)Z"⟩ : Jvm.MethodName) (⟨"PitchRowsModel", "readsSign", "(III)Z"⟩ : Jvm.MethodName)) ∈ tblG := my_inP 22 (by decide +kernel) (by decide +kernel)
theorem tw_se_X9_X9_noCaller : (Jvm.Cond.selects "PitchRowsModel" (⟨"PitchRowsModel", "noCaller", "(I)Z"⟩ : Jvm.MethodName) (⟨"PitchRowsModel", "noCaller", "(I)Z"⟩ : Jvm.MethodName)) ∈ tblG := my_inP 23 (by decide +kernel) (by decide +kernel)
theorem tw_se_X9_X9_noBeat : (Jvm.Cond.selects "PitchRowsModel" (⟨"PitchRowsModel", "noBeat", "(I)Z"⟩ : Jvm.MethodName) (⟨"PitchRowsModel", "noBeat", "(I)Z"⟩ : Jvm.MethodName)) ∈ tblG := my_inP 24 (by decide +kernel) (by decide +kernel)
theorem tw_se_X9_X9_pitch : (Jvm.Cond.selects "PitchRowsModel" (⟨"PitchRowsModel", "pitch", "(II)I"⟩ : Jvm.MethodName) (⟨"PitchRowsModel", "pitch", "(II)I"⟩ : Jvm.MethodName)) ∈ tblG := my_inP 25 (by decide +kernel) (by decide +kernel)
theorem tw_se_X9_X9_freeOf : (Jvm.Cond.selects "PitchRowsModel" (⟨"PitchRowsModel", "freeOf", "(I)I"⟩ : Jvm.MethodName) (⟨"PitchRowsModel", "freeOf", "(I)I"⟩ : Jvm.MethodName)) ∈ tblG := my_inP 26 (by decide +kernel) (by decide +kernel)
theorem tw_se_X9_X9_goodNow : (Jvm.Cond.selects "PitchRowsModel" (⟨"PitchRowsModel", "goodNow", "(I)I"⟩ : Jvm.MethodName) (⟨"PitchRowsModel", "goodNow", "(I)I"⟩ : Jvm.MethodName)) ∈ tblG := my_inP 27 (by decide +kernel) (by decide +kernel)
theorem tw_se_X9_X9_triesThoseOf : (Jvm.Cond.selects "PitchRowsModel" (⟨"PitchRowsModel", "triesThoseOf", "(I)V"⟩ : Jvm.MethodName) (⟨"PitchRowsModel", "triesThoseOf", "(I)V"⟩ : Jvm.MethodName)) ∈ tblG := my_inP 28 (by decide +kernel) (by decide +kernel)
theorem tw_se_X9_X9_isGood : (Jvm.Cond.selects "PitchRowsModel" (⟨"PitchRowsModel", "isGood", "()Z"⟩ : Jvm.MethodName) (⟨"PitchRowsModel", "isGood", "()Z"⟩ : Jvm.MethodName)) ∈ tblG := my_inP 29 (by decide +kernel) (by decide +kernel)
theorem tw_se_X9_X9_areUnlike : (Jvm.Cond.selects "PitchRowsModel" (⟨"PitchRowsModel", "areUnlike", "()Z"⟩ : Jvm.MethodName) (⟨"PitchRowsModel", "areUnlike", "()Z"⟩ : Jvm.MethodName)) ∈ tblG := my_inP 30 (by decide +kernel) (by decide +kernel)
theorem tw_se_X9_X9_heardBy : (Jvm.Cond.selects "PitchRowsModel" (⟨"PitchRowsModel", "heardBy", "(IIII)I"⟩ : Jvm.MethodName) (⟨"PitchRowsModel", "heardBy", "(IIII)I"⟩ : Jvm.MethodName)) ∈ tblG := my_inP 31 (by decide +kernel) (by decide +kernel)
theorem tw_se_X9_X9_counts : (Jvm.Cond.selects "PitchRowsModel" (⟨"PitchRowsModel", "counts", "(III)I"⟩ : Jvm.MethodName) (⟨"PitchRowsModel", "counts", "(III)I"⟩ : Jvm.MethodName)) ∈ tblG := my_inP 32 (by decide +kernel) (by decide +kernel)
theorem tw_se_X9_X9_sends : (Jvm.Cond.selects "PitchRowsModel" (⟨"PitchRowsModel", "sends", "(III)Z"⟩ : Jvm.MethodName) (⟨"PitchRowsModel", "sends", "(III)Z"⟩ : Jvm.MethodName)) ∈ tblG := my_inP 33 (by decide +kernel) (by decide +kernel)
theorem tw_se_X9_X9_airOf : (Jvm.Cond.selects "PitchRowsModel" (⟨"PitchRowsModel", "airOf", "(I)I"⟩ : Jvm.MethodName) (⟨"PitchRowsModel", "airOf", "(I)I"⟩ : Jvm.MethodName)) ∈ tblG := my_inP 34 (by decide +kernel) (by decide +kernel)
theorem tw_se_X9_X9_listensTo : (Jvm.Cond.selects "PitchRowsModel" (⟨"PitchRowsModel", "listensTo", "(II)I"⟩ : Jvm.MethodName) (⟨"PitchRowsModel", "listensTo", "(II)I"⟩ : Jvm.MethodName)) ∈ tblG := my_inP 35 (by decide +kernel) (by decide +kernel)
theorem tw_se_X9_X9_countsOfAll : (Jvm.Cond.selects "PitchRowsModel" (⟨"PitchRowsModel", "countsOfAll", "(III)I"⟩ : Jvm.MethodName) (⟨"PitchRowsModel", "countsOfAll", "(III)I"⟩ : Jvm.MethodName)) ∈ tblG := my_inP 36 (by decide +kernel) (by decide +kernel)
theorem tw_se_X9_X9_loudestOf : (Jvm.Cond.selects "PitchRowsModel" (⟨"PitchRowsModel", "loudestOf", "(I)I"⟩ : Jvm.MethodName) (⟨"PitchRowsModel", "loudestOf", "(I)I"⟩ : Jvm.MethodName)) ∈ tblG := my_inP 37 (by decide +kernel) (by decide +kernel)
theorem tw_se_X9_X9_dayOf : (Jvm.Cond.selects "PitchRowsModel" (⟨"PitchRowsModel", "dayOf", "(III)I"⟩ : Jvm.MethodName) (⟨"PitchRowsModel", "dayOf", "(III)I"⟩ : Jvm.MethodName)) ∈ tblG := my_inP 38 (by decide +kernel) (by decide +kernel)
theorem tw_se_X9_X9_doesPair : (Jvm.Cond.selects "PitchRowsModel" (⟨"PitchRowsModel", "doesPair", "(II)Z"⟩ : Jvm.MethodName) (⟨"PitchRowsModel", "doesPair", "(II)Z"⟩ : Jvm.MethodName)) ∈ tblG := my_inP 39 (by decide +kernel) (by decide +kernel)
theorem tw_se_X9_X9_manyThatSound : (Jvm.Cond.selects "PitchRowsModel" (⟨"PitchRowsModel", "manyThatSound", "()I"⟩ : Jvm.MethodName) (⟨"PitchRowsModel", "manyThatSound", "()I"⟩ : Jvm.MethodName)) ∈ tblG := my_inP 40 (by decide +kernel) (by decide +kernel)
theorem tw_se_X9_X9_lastThatSounds : (Jvm.Cond.selects "PitchRowsModel" (⟨"PitchRowsModel", "lastThatSounds", "()I"⟩ : Jvm.MethodName) (⟨"PitchRowsModel", "lastThatSounds", "()I"⟩ : Jvm.MethodName)) ∈ tblG := my_inP 41 (by decide +kernel) (by decide +kernel)
theorem tw_se_X9_X9_firstOfTwo : (Jvm.Cond.selects "PitchRowsModel" (⟨"PitchRowsModel", "firstOfTwo", "()I"⟩ : Jvm.MethodName) (⟨"PitchRowsModel", "firstOfTwo", "()I"⟩ : Jvm.MethodName)) ∈ tblG := my_inP 42 (by decide +kernel) (by decide +kernel)
theorem tw_se_X9_X9_peaks : (Jvm.Cond.selects "PitchRowsModel" (⟨"PitchRowsModel", "peaks", "(I)V"⟩ : Jvm.MethodName) (⟨"PitchRowsModel", "peaks", "(I)V"⟩ : Jvm.MethodName)) ∈ tblG := my_inP 43 (by decide +kernel) (by decide +kernel)
theorem tw_se_X9_X9_triesFirst : (Jvm.Cond.selects "PitchRowsModel" (⟨"PitchRowsModel", "triesFirst", "()V"⟩ : Jvm.MethodName) (⟨"PitchRowsModel", "triesFirst", "()V"⟩ : Jvm.MethodName)) ∈ tblG := my_inP 44 (by decide +kernel) (by decide +kernel)
theorem tw_se_X9_X9_triesNext : (Jvm.Cond.selects "PitchRowsModel" (⟨"PitchRowsModel", "triesNext", "()Z"⟩ : Jvm.MethodName) (⟨"PitchRowsModel", "triesNext", "()Z"⟩ : Jvm.MethodName)) ∈ tblG := my_inP 45 (by decide +kernel) (by decide +kernel)
theorem tw_se_X9_X9_hasThoseOf : (Jvm.Cond.selects "PitchRowsModel" (⟨"PitchRowsModel", "hasThoseOf", "(I)Z"⟩ : Jvm.MethodName) (⟨"PitchRowsModel", "hasThoseOf", "(I)Z"⟩ : Jvm.MethodName)) ∈ tblG := my_inP 46 (by decide +kernel) (by decide +kernel)
theorem tw_se_X9_X9_areSo : (Jvm.Cond.selects "PitchRowsModel" (⟨"PitchRowsModel", "areSo", "()Z"⟩ : Jvm.MethodName) (⟨"PitchRowsModel", "areSo", "()Z"⟩ : Jvm.MethodName)) ∈ tblG := my_inP 47 (by decide +kernel) (by decide +kernel)
theorem tw_se_X9_X9_noCell : (Jvm.Cond.selects "PitchRowsModel" (⟨"PitchRowsModel", "noCell", "(II)I"⟩ : Jvm.MethodName) (⟨"PitchRowsModel", "noCell", "(II)I"⟩ : Jvm.MethodName)) ∈ tblG := my_inP 48 (by decide +kernel) (by decide +kernel)
theorem tw_se_X9_X9_failedLong : (Jvm.Cond.selects "PitchRowsModel" (⟨"PitchRowsModel", "failedLong", "(I)J"⟩ : Jvm.MethodName) (⟨"PitchRowsModel", "failedLong", "(I)J"⟩ : Jvm.MethodName)) ∈ tblG := my_inP 49 (by decide +kernel) (by decide +kernel)
theorem tw_se_X9_X9_traced : (Jvm.Cond.selects "PitchRowsModel" (⟨"PitchRowsModel", "traced", "(I)V"⟩ : Jvm.MethodName) (⟨"PitchRowsModel", "traced", "(I)V"⟩ : Jvm.MethodName)) ∈ tblG := my_inP 50 (by decide +kernel) (by decide +kernel)
theorem inU_X0 : ∀ w ∈ u_ws RX0 TX0 5, w ∈ tblG := my_inU (by decide +kernel)
theorem inU_X1 : ∀ w ∈ u_ws RX1 TX1 2, w ∈ tblG := my_inU (by decide +kernel)
theorem inU_X2 : ∀ w ∈ u_ws RX2 TX2 3, w ∈ tblG := my_inU (by decide +kernel)
theorem inU_X3 : ∀ w ∈ u_ws RX3 TX3 4, w ∈ tblG := my_inU (by decide +kernel)
theorem inU_X5 : ∀ w ∈ u_ws RX5 TX5 6, w ∈ tblG := my_inU (by decide +kernel)
theorem inU_X6 : ∀ w ∈ u_ws RX6 TX6 4, w ∈ tblG := my_inU (by decide +kernel)
theorem inU_X7 : ∀ w ∈ u_ws RX7 TX7 4, w ∈ tblG := my_inU (by decide +kernel)
theorem inU_X8 : ∀ w ∈ u_ws RX8 TX8 9, w ∈ tblG := my_inU (by decide +kernel)
theorem inU_X9 : ∀ w ∈ u_ws RX9 TX9 33, w ∈ tblG := my_inU (by decide +kernel)
def lw_nest : List Cond := [(Jvm.Cond.methodLinkNest "PitchRows$Choir" (17 : Nat) ({ cls := "PitchRows$Caller", name := "<init>", desc := "()V" } : Jvm.MethodName) "PitchRows"), (Jvm.Cond.methodLinkNest "PitchRows" (20 : Nat) ({ cls := "PitchRows$Air", name := "<init>", desc := "()V" } : Jvm.MethodName) "PitchRows"), (Jvm.Cond.methodLinkNest "PitchRows$Air" (3 : Nat) ({ cls := "PitchRows$Numbered", name := "<init>", desc := "()V" } : Jvm.MethodName) "PitchRows"), (Jvm.Cond.methodLinkNest "PitchRows" (30 : Nat) ({ cls := "PitchRows$Readings", name := "<init>", desc := "()V" } : Jvm.MethodName) "PitchRows"), (Jvm.Cond.methodLinkNest "PitchRows$Readings" (3 : Nat) ({ cls := "PitchRows$Numbered", name := "<init>", desc := "()V" } : Jvm.MethodName) "PitchRows"), (Jvm.Cond.methodLinkNest "PitchRows" (37 : Nat) ({ cls := "PitchRows$GoodRows", name := "<init>", desc := "()V" } : Jvm.MethodName) "PitchRows"), (Jvm.Cond.methodLinkNest "PitchRows" (44 : Nat) ({ cls := "PitchRows$TextReader", name := "<init>", desc := "()V" } : Jvm.MethodName) "PitchRows"), (Jvm.Cond.methodLinkNest "PitchRows" (55 : Nat) ({ cls := "PitchRows$Sheet", name := "<init>", desc := "()V" } : Jvm.MethodName) "PitchRows"), (Jvm.Cond.methodLinkNest "PitchRows$TextReader" (35 : Nat) ({ cls := "PitchRows", name := "isWithin", desc := "(III)Z" } : Jvm.MethodName) "PitchRows"), (Jvm.Cond.methodLinkNest "PitchRows$Choir" (22 : Nat) ({ cls := "PitchRows", name := "isWithin", desc := "(III)Z" } : Jvm.MethodName) "PitchRows"), (Jvm.Cond.methodLinkNest "PitchRows$Numbered" (13 : Nat) ({ cls := "PitchRows", name := "isWithin", desc := "(III)Z" } : Jvm.MethodName) "PitchRows")]
theorem lw_nest_in : ∀ w ∈ lw_nest, w ∈ tables_1 := by decide +kernel
end
section
theorem dX0_init_0 : decode cX0_init 0 = .ok (.aload_n 0, 1) := by decide +kernel
theorem dX0_init_1 : decode cX0_init 1 = .ok (.invokespecial 3, 3) := by decide +kernel
theorem dX0_init_4 : decode cX0_init 4 = .ok (.aload_n 0, 1) := by decide +kernel
theorem dX0_init_5 : decode cX0_init 5 = .ok (.bipush 8, 2) := by decide +kernel
theorem dX0_init_7 : decode cX0_init 7 = .ok (.newarray .int, 2) := by decide +kernel
theorem dX0_init_9 : decode cX0_init 9 = .ok (.putfield 9, 3) := by decide +kernel
theorem dX0_init_12 : decode cX0_init 12 = .ok (.aload_n 0, 1) := by decide +kernel
theorem dX0_init_13 : decode cX0_init 13 = .ok (.bipush 8, 2) := by decide +kernel
theorem dX0_init_15 : decode cX0_init 15 = .ok (.newarray .int, 2) := by decide +kernel
theorem dX0_init_17 : decode cX0_init 17 = .ok (.putfield 15, 3) := by decide +kernel
theorem dX0_init_20 : decode cX0_init 20 = .ok (.aload_n 0, 1) := by decide +kernel
theorem dX0_init_21 : decode cX0_init 21 = .ok (.bipush 8, 2) := by decide +kernel
theorem dX0_init_23 : decode cX0_init 23 = .ok (.newarray .int, 2) := by decide +kernel
theorem dX0_init_25 : decode cX0_init 25 = .ok (.putfield 18, 3) := by decide +kernel
theorem dX0_init_28 : decode cX0_init 28 = .ok (.aload_n 0, 1) := by decide +kernel
theorem dX0_init_29 : decode cX0_init 29 = .ok (.bipush 26, 2) := by decide +kernel
theorem dX0_init_31 : decode cX0_init 31 = .ok (.newarray .int, 2) := by decide +kernel
theorem dX0_init_33 : decode cX0_init 33 = .ok (.putfield 21, 3) := by decide +kernel
theorem dX0_init_36 : decode cX0_init 36 = .ok (.return_, 1) := by decide +kernel
theorem dX0_add_0 : decode cX0_add 0 = .ok (.aload_n 0, 1) := by decide +kernel
theorem dX0_add_1 : decode cX0_add 1 = .ok (.getfield 24, 3) := by decide +kernel
theorem dX0_add_4 : decode cX0_add 4 = .ok (.bipush 8, 2) := by decide +kernel
theorem dX0_add_6 : decode cX0_add 6 = .ok (.if_icmp .lt 5, 3) := by decide +kernel
theorem dX0_add_9 : decode cX0_add 9 = .ok (.iconst 0, 1) := by decide +kernel
theorem dX0_add_10 : decode cX0_add 10 = .ok (.ireturn, 1) := by decide +kernel
theorem dX0_add_11 : decode cX0_add 11 = .ok (.aload_n 0, 1) := by decide +kernel
theorem dX0_add_12 : decode cX0_add 12 = .ok (.getfield 9, 3) := by decide +kernel
theorem dX0_add_15 : decode cX0_add 15 = .ok (.aload_n 0, 1) := by decide +kernel
theorem dX0_add_16 : decode cX0_add 16 = .ok (.getfield 24, 3) := by decide +kernel
theorem dX0_add_19 : decode cX0_add 19 = .ok (.iload_n 1, 1) := by decide +kernel
theorem dX0_add_20 : decode cX0_add 20 = .ok (.iastore, 1) := by decide +kernel
theorem dX0_add_21 : decode cX0_add 21 = .ok (.aload_n 0, 1) := by decide +kernel
theorem dX0_add_22 : decode cX0_add 22 = .ok (.getfield 15, 3) := by decide +kernel
theorem dX0_add_25 : decode cX0_add 25 = .ok (.aload_n 0, 1) := by decide +kernel
theorem dX0_add_26 : decode cX0_add 26 = .ok (.getfield 24, 3) := by decide +kernel
theorem dX0_add_29 : decode cX0_add 29 = .ok (.iload_n 2, 1) := by decide +kernel
theorem dX0_add_30 : decode cX0_add 30 = .ok (.iastore, 1) := by decide +kernel
theorem dX0_add_31 : decode cX0_add 31 = .ok (.aload_n 0, 1) := by decide +kernel
theorem dX0_add_32 : decode cX0_add 32 = .ok (.getfield 18, 3) := by decide +kernel
theorem dX0_add_35 : decode cX0_add 35 = .ok (.aload_n 0, 1) := by decide +kernel
theorem dX0_add_36 : decode cX0_add 36 = .ok (.getfield 24, 3) := by decide +kernel
theorem dX0_add_39 : decode cX0_add 39 = .ok (.iload_n 3, 1) := by decide +kernel
theorem dX0_add_40 : decode cX0_add 40 = .ok (.iastore, 1) := by decide +kernel
theorem dX0_add_41 : decode cX0_add 41 = .ok (.aload_n 0, 1) := by decide +kernel
theorem dX0_add_42 : decode cX0_add 42 = .ok (.dup, 1) := by decide +kernel
theorem dX0_add_43 : decode cX0_add 43 = .ok (.getfield 24, 3) := by decide +kernel
theorem dX0_add_46 : decode cX0_add 46 = .ok (.iconst 1, 1) := by decide +kernel
theorem dX0_add_47 : decode cX0_add 47 = .ok (.iadd, 1) := by decide +kernel
theorem dX0_add_48 : decode cX0_add 48 = .ok (.putfield 24, 3) := by decide +kernel
theorem dX0_add_51 : decode cX0_add 51 = .ok (.iconst 1, 1) := by decide +kernel
theorem dX0_add_52 : decode cX0_add 52 = .ok (.ireturn, 1) := by decide +kernel
theorem dX0_becomeLike_0 : decode cX0_becomeLike 0 = .ok (.aload_n 0, 1) := by decide +kernel
theorem dX0_becomeLike_1 : decode cX0_becomeLike 1 = .ok (.aload_n 1, 1) := by decide +kernel
theorem dX0_becomeLike_2 : decode cX0_becomeLike 2 = .ok (.getfield 24, 3) := by decide +kernel
theorem dX0_becomeLike_5 : decode cX0_becomeLike 5 = .ok (.putfield 24, 3) := by decide +kernel
theorem dX0_becomeLike_8 : decode cX0_becomeLike 8 = .ok (.aload_n 1, 1) := by decide +kernel
theorem dX0_becomeLike_9 : decode cX0_becomeLike 9 = .ok (.getfield 9, 3) := by decide +kernel
theorem dX0_becomeLike_12 : decode cX0_becomeLike 12 = .ok (.iconst 0, 1) := by decide +kernel
theorem dX0_becomeLike_13 : decode cX0_becomeLike 13 = .ok (.aload_n 0, 1) := by decide +kernel
theorem dX0_becomeLike_14 : decode cX0_becomeLike 14 = .ok (.getfield 9, 3) := by decide +kernel
theorem dX0_becomeLike_17 : decode cX0_becomeLike 17 = .ok (.iconst 0, 1) := by decide +kernel
theorem dX0_becomeLike_18 : decode cX0_becomeLike 18 = .ok (.aload_n 0, 1) := by decide +kernel
theorem dX0_becomeLike_19 : decode cX0_becomeLike 19 = .ok (.getfield 24, 3) := by decide +kernel
theorem dX0_becomeLike_22 : decode cX0_becomeLike 22 = .ok (.invokestatic 28, 3) := by decide +kernel
theorem dX0_becomeLike_25 : decode cX0_becomeLike 25 = .ok (.aload_n 1, 1) := by decide +kernel
theorem dX0_becomeLike_26 : decode cX0_becomeLike 26 = .ok (.getfield 15, 3) := by decide +kernel
theorem dX0_becomeLike_29 : decode cX0_becomeLike 29 = .ok (.iconst 0, 1) := by decide +kernel
theorem dX0_becomeLike_30 : decode cX0_becomeLike 30 = .ok (.aload_n 0, 1) := by decide +kernel
theorem dX0_becomeLike_31 : decode cX0_becomeLike 31 = .ok (.getfield 15, 3) := by decide +kernel
theorem dX0_becomeLike_34 : decode cX0_becomeLike 34 = .ok (.iconst 0, 1) := by decide +kernel
theorem dX0_becomeLike_35 : decode cX0_becomeLike 35 = .ok (.aload_n 0, 1) := by decide +kernel
theorem dX0_becomeLike_36 : decode cX0_becomeLike 36 = .ok (.getfield 24, 3) := by decide +kernel
theorem dX0_becomeLike_39 : decode cX0_becomeLike 39 = .ok (.invokestatic 28, 3) := by decide +kernel
theorem dX0_becomeLike_42 : decode cX0_becomeLike 42 = .ok (.aload_n 1, 1) := by decide +kernel
theorem dX0_becomeLike_43 : decode cX0_becomeLike 43 = .ok (.getfield 18, 3) := by decide +kernel
theorem dX0_becomeLike_46 : decode cX0_becomeLike 46 = .ok (.iconst 0, 1) := by decide +kernel
theorem dX0_becomeLike_47 : decode cX0_becomeLike 47 = .ok (.aload_n 0, 1) := by decide +kernel
theorem dX0_becomeLike_48 : decode cX0_becomeLike 48 = .ok (.getfield 18, 3) := by decide +kernel
theorem dX0_becomeLike_51 : decode cX0_becomeLike 51 = .ok (.iconst 0, 1) := by decide +kernel
theorem dX0_becomeLike_52 : decode cX0_becomeLike 52 = .ok (.aload_n 0, 1) := by decide +kernel
theorem dX0_becomeLike_53 : decode cX0_becomeLike 53 = .ok (.getfield 24, 3) := by decide +kernel
theorem dX0_becomeLike_56 : decode cX0_becomeLike 56 = .ok (.invokestatic 28, 3) := by decide +kernel
theorem dX0_becomeLike_59 : decode cX0_becomeLike 59 = .ok (.return_, 1) := by decide +kernel
theorem dX0_sound_0 : decode cX0_sound 0 = .ok (.aload_n 0, 1) := by decide +kernel
theorem dX0_sound_1 : decode cX0_sound 1 = .ok (.getfield 21, 3) := by decide +kernel
theorem dX0_sound_4 : decode cX0_sound 4 = .ok (.iconst 0, 1) := by decide +kernel
theorem dX0_sound_5 : decode cX0_sound 5 = .ok (.invokestatic 34, 3) := by decide +kernel
theorem dX0_sound_8 : decode cX0_sound 8 = .ok (.iconst 0, 1) := by decide +kernel
theorem dX0_sound_9 : decode cX0_sound 9 = .ok (.istore_n 2, 1) := by decide +kernel
theorem dX0_sound_10 : decode cX0_sound 10 = .ok (.iload_n 2, 1) := by decide +kernel
theorem dX0_sound_11 : decode cX0_sound 11 = .ok (.aload_n 0, 1) := by decide +kernel
theorem dX0_sound_12 : decode cX0_sound 12 = .ok (.getfield 24, 3) := by decide +kernel
theorem dX0_sound_15 : decode cX0_sound 15 = .ok (.if_icmp .ge 80, 3) := by decide +kernel
theorem dX0_sound_18 : decode cX0_sound 18 = .ok (.aload_n 1, 1) := by decide +kernel
theorem dX0_sound_19 : decode cX0_sound 19 = .ok (.getfield 40, 3) := by decide +kernel
theorem dX0_sound_22 : decode cX0_sound 22 = .ok (.aload_n 0, 1) := by decide +kernel
theorem dX0_sound_23 : decode cX0_sound 23 = .ok (.getfield 9, 3) := by decide +kernel
theorem dX0_sound_26 : decode cX0_sound 26 = .ok (.iload_n 2, 1) := by decide +kernel
theorem dX0_sound_27 : decode cX0_sound 27 = .ok (.iaload, 1) := by decide +kernel
theorem dX0_sound_28 : decode cX0_sound 28 = .ok (.aaload, 1) := by decide +kernel
theorem dX0_sound_29 : decode cX0_sound 29 = .ok (.getfield 46, 3) := by decide +kernel
theorem dX0_sound_32 : decode cX0_sound 32 = .ok (.astore_n 3, 1) := by decide +kernel
theorem dX0_sound_33 : decode cX0_sound 33 = .ok (.iconst 0, 1) := by decide +kernel
theorem dX0_sound_34 : decode cX0_sound 34 = .ok (.istore 4, 2) := by decide +kernel
theorem dX0_sound_36 : decode cX0_sound 36 = .ok (.iload 4, 2) := by decide +kernel
theorem dX0_sound_38 : decode cX0_sound 38 = .ok (.aload_n 1, 1) := by decide +kernel
theorem dX0_sound_39 : decode cX0_sound 39 = .ok (.getfield 51, 3) := by decide +kernel
theorem dX0_sound_42 : decode cX0_sound 42 = .ok (.if_icmp .ge 47, 3) := by decide +kernel
theorem dX0_sound_45 : decode cX0_sound 45 = .ok (.aload_n 3, 1) := by decide +kernel
theorem dX0_sound_46 : decode cX0_sound 46 = .ok (.iload 4, 2) := by decide +kernel
theorem dX0_sound_48 : decode cX0_sound 48 = .ok (.iaload, 1) := by decide +kernel
theorem dX0_sound_49 : decode cX0_sound 49 = .ok (.iconst (-1), 1) := by decide +kernel
theorem dX0_sound_50 : decode cX0_sound 50 = .ok (.if_icmp .eq 33, 3) := by decide +kernel
theorem dX0_sound_53 : decode cX0_sound 53 = .ok (.aload_n 0, 1) := by decide +kernel
theorem dX0_sound_54 : decode cX0_sound 54 = .ok (.getfield 21, 3) := by decide +kernel
theorem dX0_sound_57 : decode cX0_sound 57 = .ok (.aload_n 0, 1) := by decide +kernel
theorem dX0_sound_58 : decode cX0_sound 58 = .ok (.getfield 15, 3) := by decide +kernel
theorem dX0_sound_61 : decode cX0_sound 61 = .ok (.iload_n 2, 1) := by decide +kernel
theorem dX0_sound_62 : decode cX0_sound 62 = .ok (.iaload, 1) := by decide +kernel
theorem dX0_sound_63 : decode cX0_sound 63 = .ok (.iload 4, 2) := by decide +kernel
theorem dX0_sound_65 : decode cX0_sound 65 = .ok (.iadd, 1) := by decide +kernel
theorem dX0_sound_66 : decode cX0_sound 66 = .ok (.dup2, 1) := by decide +kernel
theorem dX0_sound_67 : decode cX0_sound 67 = .ok (.iaload, 1) := by decide +kernel
theorem dX0_sound_68 : decode cX0_sound 68 = .ok (.iconst 1, 1) := by decide +kernel
theorem dX0_sound_69 : decode cX0_sound 69 = .ok (.aload_n 3, 1) := by decide +kernel
theorem dX0_sound_70 : decode cX0_sound 70 = .ok (.iload 4, 2) := by decide +kernel
theorem dX0_sound_72 : decode cX0_sound 72 = .ok (.iaload, 1) := by decide +kernel
theorem dX0_sound_73 : decode cX0_sound 73 = .ok (.aload_n 0, 1) := by decide +kernel
theorem dX0_sound_74 : decode cX0_sound 74 = .ok (.getfield 18, 3) := by decide +kernel
theorem dX0_sound_77 : decode cX0_sound 77 = .ok (.iload_n 2, 1) := by decide +kernel
theorem dX0_sound_78 : decode cX0_sound 78 = .ok (.iaload, 1) := by decide +kernel
theorem dX0_sound_79 : decode cX0_sound 79 = .ok (.iadd, 1) := by decide +kernel
theorem dX0_sound_80 : decode cX0_sound 80 = .ok (.ishl, 1) := by decide +kernel
theorem dX0_sound_81 : decode cX0_sound 81 = .ok (.ior, 1) := by decide +kernel
theorem dX0_sound_82 : decode cX0_sound 82 = .ok (.iastore, 1) := by decide +kernel
theorem dX0_sound_83 : decode cX0_sound 83 = .ok (.iinc 4 1, 3) := by decide +kernel
theorem dX0_sound_86 : decode cX0_sound 86 = .ok (.goto (-50), 3) := by decide +kernel
theorem dX0_sound_89 : decode cX0_sound 89 = .ok (.iinc 2 1, 3) := by decide +kernel
theorem dX0_sound_92 : decode cX0_sound 92 = .ok (.goto (-82), 3) := by decide +kernel
theorem dX0_sound_95 : decode cX0_sound 95 = .ok (.return_, 1) := by decide +kernel
theorem dX0_soundingMoments_0 : decode cX0_soundingMoments 0 = .ok (.iconst 0, 1) := by decide +kernel
theorem dX0_soundingMoments_1 : decode cX0_soundingMoments 1 = .ok (.istore_n 1, 1) := by decide +kernel
theorem dX0_soundingMoments_2 : decode cX0_soundingMoments 2 = .ok (.aload_n 0, 1) := by decide +kernel
theorem dX0_soundingMoments_3 : decode cX0_soundingMoments 3 = .ok (.getfield 21, 3) := by decide +kernel
theorem dX0_soundingMoments_6 : decode cX0_soundingMoments 6 = .ok (.astore_n 2, 1) := by decide +kernel
theorem dX0_soundingMoments_7 : decode cX0_soundingMoments 7 = .ok (.aload_n 2, 1) := by decide +kernel
theorem dX0_soundingMoments_8 : decode cX0_soundingMoments 8 = .ok (.arraylength, 1) := by decide +kernel
theorem dX0_soundingMoments_9 : decode cX0_soundingMoments 9 = .ok (.istore_n 3, 1) := by decide +kernel
theorem dX0_soundingMoments_10 : decode cX0_soundingMoments 10 = .ok (.iconst 0, 1) := by decide +kernel
theorem dX0_soundingMoments_11 : decode cX0_soundingMoments 11 = .ok (.istore 4, 2) := by decide +kernel
theorem dX0_soundingMoments_13 : decode cX0_soundingMoments 13 = .ok (.iload 4, 2) := by decide +kernel
theorem dX0_soundingMoments_15 : decode cX0_soundingMoments 15 = .ok (.iload_n 3, 1) := by decide +kernel
theorem dX0_soundingMoments_16 : decode cX0_soundingMoments 16 = .ok (.if_icmp .ge 23, 3) := by decide +kernel
theorem dX0_soundingMoments_19 : decode cX0_soundingMoments 19 = .ok (.aload_n 2, 1) := by decide +kernel
theorem dX0_soundingMoments_20 : decode cX0_soundingMoments 20 = .ok (.iload 4, 2) := by decide +kernel
theorem dX0_soundingMoments_22 : decode cX0_soundingMoments 22 = .ok (.iaload, 1) := by decide +kernel
theorem dX0_soundingMoments_23 : decode cX0_soundingMoments 23 = .ok (.istore 5, 2) := by decide +kernel
theorem dX0_soundingMoments_25 : decode cX0_soundingMoments 25 = .ok (.iload 5, 2) := by decide +kernel
theorem dX0_soundingMoments_27 : decode cX0_soundingMoments 27 = .ok (.ifCond .eq 6, 3) := by decide +kernel
theorem dX0_soundingMoments_30 : decode cX0_soundingMoments 30 = .ok (.iinc 1 1, 3) := by decide +kernel
theorem dX0_soundingMoments_33 : decode cX0_soundingMoments 33 = .ok (.iinc 4 1, 3) := by decide +kernel
theorem dX0_soundingMoments_36 : decode cX0_soundingMoments 36 = .ok (.goto (-23), 3) := by decide +kernel
theorem dX0_soundingMoments_39 : decode cX0_soundingMoments 39 = .ok (.iload_n 1, 1) := by decide +kernel
theorem dX0_soundingMoments_40 : decode cX0_soundingMoments 40 = .ok (.ireturn, 1) := by decide +kernel
theorem dX0_lastSounding_0 : decode cX0_lastSounding 0 = .ok (.bipush 25, 2) := by decide +kernel
theorem dX0_lastSounding_2 : decode cX0_lastSounding 2 = .ok (.istore_n 1, 1) := by decide +kernel
theorem dX0_lastSounding_3 : decode cX0_lastSounding 3 = .ok (.iload_n 1, 1) := by decide +kernel
theorem dX0_lastSounding_4 : decode cX0_lastSounding 4 = .ok (.ifCond .lt 20, 3) := by decide +kernel
theorem dX0_lastSounding_7 : decode cX0_lastSounding 7 = .ok (.aload_n 0, 1) := by decide +kernel
theorem dX0_lastSounding_8 : decode cX0_lastSounding 8 = .ok (.getfield 21, 3) := by decide +kernel
theorem dX0_lastSounding_11 : decode cX0_lastSounding 11 = .ok (.iload_n 1, 1) := by decide +kernel
theorem dX0_lastSounding_12 : decode cX0_lastSounding 12 = .ok (.iaload, 1) := by decide +kernel
theorem dX0_lastSounding_13 : decode cX0_lastSounding 13 = .ok (.ifCond .eq 5, 3) := by decide +kernel
theorem dX0_lastSounding_16 : decode cX0_lastSounding 16 = .ok (.iload_n 1, 1) := by decide +kernel
theorem dX0_lastSounding_17 : decode cX0_lastSounding 17 = .ok (.ireturn, 1) := by decide +kernel
theorem dX0_lastSounding_18 : decode cX0_lastSounding 18 = .ok (.iinc 1 (-1), 3) := by decide +kernel
theorem dX0_lastSounding_21 : decode cX0_lastSounding 21 = .ok (.goto (-18), 3) := by decide +kernel
theorem dX0_lastSounding_24 : decode cX0_lastSounding 24 = .ok (.bipush (-9), 2) := by decide +kernel
theorem dX0_lastSounding_26 : decode cX0_lastSounding 26 = .ok (.ireturn, 1) := by decide +kernel
theorem dX0_firstOfTwo_0 : decode cX0_firstOfTwo 0 = .ok (.iconst 0, 1) := by decide +kernel
theorem dX0_firstOfTwo_1 : decode cX0_firstOfTwo 1 = .ok (.istore_n 1, 1) := by decide +kernel
theorem dX0_firstOfTwo_2 : decode cX0_firstOfTwo 2 = .ok (.iload_n 1, 1) := by decide +kernel
theorem dX0_firstOfTwo_3 : decode cX0_firstOfTwo 3 = .ok (.bipush 25, 2) := by decide +kernel
theorem dX0_firstOfTwo_5 : decode cX0_firstOfTwo 5 = .ok (.if_icmp .gt 24, 3) := by decide +kernel
theorem dX0_firstOfTwo_8 : decode cX0_firstOfTwo 8 = .ok (.aload_n 0, 1) := by decide +kernel
theorem dX0_firstOfTwo_9 : decode cX0_firstOfTwo 9 = .ok (.getfield 21, 3) := by decide +kernel
theorem dX0_firstOfTwo_12 : decode cX0_firstOfTwo 12 = .ok (.iload_n 1, 1) := by decide +kernel
theorem dX0_firstOfTwo_13 : decode cX0_firstOfTwo 13 = .ok (.iaload, 1) := by decide +kernel
theorem dX0_firstOfTwo_14 : decode cX0_firstOfTwo 14 = .ok (.invokestatic 54, 3) := by decide +kernel
theorem dX0_firstOfTwo_17 : decode cX0_firstOfTwo 17 = .ok (.iconst 2, 1) := by decide +kernel
theorem dX0_firstOfTwo_18 : decode cX0_firstOfTwo 18 = .ok (.if_icmp .lt 5, 3) := by decide +kernel
theorem dX0_firstOfTwo_21 : decode cX0_firstOfTwo 21 = .ok (.iload_n 1, 1) := by decide +kernel
theorem dX0_firstOfTwo_22 : decode cX0_firstOfTwo 22 = .ok (.ireturn, 1) := by decide +kernel
theorem dX0_firstOfTwo_23 : decode cX0_firstOfTwo 23 = .ok (.iinc 1 1, 3) := by decide +kernel
theorem dX0_firstOfTwo_26 : decode cX0_firstOfTwo 26 = .ok (.goto (-24), 3) := by decide +kernel
theorem dX0_firstOfTwo_29 : decode cX0_firstOfTwo 29 = .ok (.bipush (-9), 2) := by decide +kernel
theorem dX0_firstOfTwo_31 : decode cX0_firstOfTwo 31 = .ok (.ireturn, 1) := by decide +kernel
theorem dX1_init_0 : decode cX1_init 0 = .ok (.aload_n 0, 1) := by decide +kernel
theorem dX1_init_1 : decode cX1_init 1 = .ok (.invokespecial 3, 3) := by decide +kernel
theorem dX1_init_4 : decode cX1_init 4 = .ok (.aload_n 0, 1) := by decide +kernel
theorem dX1_init_5 : decode cX1_init 5 = .ok (.bipush 6, 2) := by decide +kernel
theorem dX1_init_7 : decode cX1_init 7 = .ok (.newarray .int, 2) := by decide +kernel
theorem dX1_init_9 : decode cX1_init 9 = .ok (.putfield 9, 3) := by decide +kernel
theorem dX1_init_12 : decode cX1_init 12 = .ok (.return_, 1) := by decide +kernel
theorem dX1_freeBeats_0 : decode cX1_freeBeats 0 = .ok (.iconst 0, 1) := by decide +kernel
theorem dX1_freeBeats_1 : decode cX1_freeBeats 1 = .ok (.istore_n 2, 1) := by decide +kernel
theorem dX1_freeBeats_2 : decode cX1_freeBeats 2 = .ok (.iconst 0, 1) := by decide +kernel
theorem dX1_freeBeats_3 : decode cX1_freeBeats 3 = .ok (.istore_n 3, 1) := by decide +kernel
theorem dX1_freeBeats_4 : decode cX1_freeBeats 4 = .ok (.iload_n 3, 1) := by decide +kernel
theorem dX1_freeBeats_5 : decode cX1_freeBeats 5 = .ok (.iload_n 1, 1) := by decide +kernel
theorem dX1_freeBeats_6 : decode cX1_freeBeats 6 = .ok (.if_icmp .ge 22, 3) := by decide +kernel
theorem dX1_freeBeats_9 : decode cX1_freeBeats 9 = .ok (.aload_n 0, 1) := by decide +kernel
theorem dX1_freeBeats_10 : decode cX1_freeBeats 10 = .ok (.getfield 9, 3) := by decide +kernel
theorem dX1_freeBeats_13 : decode cX1_freeBeats 13 = .ok (.iload_n 3, 1) := by decide +kernel
theorem dX1_freeBeats_14 : decode cX1_freeBeats 14 = .ok (.iaload, 1) := by decide +kernel
theorem dX1_freeBeats_15 : decode cX1_freeBeats 15 = .ok (.iconst (-1), 1) := by decide +kernel
theorem dX1_freeBeats_16 : decode cX1_freeBeats 16 = .ok (.if_icmp .ne 6, 3) := by decide +kernel
theorem dX1_freeBeats_19 : decode cX1_freeBeats 19 = .ok (.iinc 2 1, 3) := by decide +kernel
theorem dX1_freeBeats_22 : decode cX1_freeBeats 22 = .ok (.iinc 3 1, 3) := by decide +kernel
theorem dX1_freeBeats_25 : decode cX1_freeBeats 25 = .ok (.goto (-21), 3) := by decide +kernel
theorem dX1_freeBeats_28 : decode cX1_freeBeats 28 = .ok (.iload_n 2, 1) := by decide +kernel
theorem dX1_freeBeats_29 : decode cX1_freeBeats 29 = .ok (.ireturn, 1) := by decide +kernel
theorem dX1_counted_0 : decode cX1_counted 0 = .ok (.iload_n 1, 1) := by decide +kernel
theorem dX1_counted_1 : decode cX1_counted 1 = .ok (.ifCond .eq 7, 3) := by decide +kernel
theorem dX1_counted_4 : decode cX1_counted 4 = .ok (.iconst 1, 1) := by decide +kernel
theorem dX1_counted_5 : decode cX1_counted 5 = .ok (.goto 4, 3) := by decide +kernel
theorem dX1_counted_8 : decode cX1_counted 8 = .ok (.iconst 0, 1) := by decide +kernel
theorem dX1_counted_9 : decode cX1_counted 9 = .ok (.istore_n 3, 1) := by decide +kernel
theorem dX1_counted_10 : decode cX1_counted 10 = .ok (.iload_n 1, 1) := by decide +kernel
theorem dX1_counted_11 : decode cX1_counted 11 = .ok (.ifCond .ne 7, 3) := by decide +kernel
theorem dX1_counted_14 : decode cX1_counted 14 = .ok (.iload_n 2, 1) := by decide +kernel
theorem dX1_counted_15 : decode cX1_counted 15 = .ok (.ifCond .eq 7, 3) := by decide +kernel
theorem dX1_counted_18 : decode cX1_counted 18 = .ok (.iconst 1, 1) := by decide +kernel
theorem dX1_counted_19 : decode cX1_counted 19 = .ok (.goto 4, 3) := by decide +kernel
theorem dX1_counted_22 : decode cX1_counted 22 = .ok (.iconst 0, 1) := by decide +kernel
theorem dX1_counted_23 : decode cX1_counted 23 = .ok (.istore 4, 2) := by decide +kernel
theorem dX1_counted_25 : decode cX1_counted 25 = .ok (.aload_n 0, 1) := by decide +kernel
theorem dX1_counted_26 : decode cX1_counted 26 = .ok (.getfield 15, 3) := by decide +kernel
theorem dX1_counted_29 : decode cX1_counted 29 = .ok (.ifCond .ne 5, 3) := by decide +kernel
theorem dX1_counted_32 : decode cX1_counted 32 = .ok (.iload_n 3, 1) := by decide +kernel
theorem dX1_counted_33 : decode cX1_counted 33 = .ok (.ireturn, 1) := by decide +kernel
theorem dX1_counted_34 : decode cX1_counted 34 = .ok (.aload_n 0, 1) := by decide +kernel
theorem dX1_counted_35 : decode cX1_counted 35 = .ok (.getfield 15, 3) := by decide +kernel
theorem dX1_counted_38 : decode cX1_counted 38 = .ok (.iconst 1, 1) := by decide +kernel
theorem dX1_counted_39 : decode cX1_counted 39 = .ok (.if_icmp .ne 8, 3) := by decide +kernel
theorem dX1_counted_42 : decode cX1_counted 42 = .ok (.iload 4, 2) := by decide +kernel
theorem dX1_counted_44 : decode cX1_counted 44 = .ok (.goto 7, 3) := by decide +kernel
theorem dX1_counted_47 : decode cX1_counted 47 = .ok (.iload 4, 2) := by decide +kernel
theorem dX1_counted_49 : decode cX1_counted 49 = .ok (.iload_n 3, 1) := by decide +kernel
theorem dX1_counted_50 : decode cX1_counted 50 = .ok (.iadd, 1) := by decide +kernel
theorem dX1_counted_51 : decode cX1_counted 51 = .ok (.ireturn, 1) := by decide +kernel
theorem dX2_init_0 : decode cX2_init 0 = .ok (.aload_n 0, 1) := by decide +kernel
theorem dX2_init_1 : decode cX2_init 1 = .ok (.invokespecial 3, 3) := by decide +kernel
theorem dX2_init_4 : decode cX2_init 4 = .ok (.aload_n 0, 1) := by decide +kernel
theorem dX2_init_5 : decode cX2_init 5 = .ok (.iconst 4, 1) := by decide +kernel
theorem dX2_init_6 : decode cX2_init 6 = .ok (.anewarray 9, 3) := by decide +kernel
theorem dX2_init_9 : decode cX2_init 9 = .ok (.putfield 11, 3) := by decide +kernel
theorem dX2_init_12 : decode cX2_init 12 = .ok (.iconst 0, 1) := by decide +kernel
theorem dX2_init_13 : decode cX2_init 13 = .ok (.istore_n 1, 1) := by decide +kernel
theorem dX2_init_14 : decode cX2_init 14 = .ok (.iload_n 1, 1) := by decide +kernel
theorem dX2_init_15 : decode cX2_init 15 = .ok (.iconst 4, 1) := by decide +kernel
theorem dX2_init_16 : decode cX2_init 16 = .ok (.if_icmp .ge 22, 3) := by decide +kernel
theorem dX2_init_19 : decode cX2_init 19 = .ok (.aload_n 0, 1) := by decide +kernel
theorem dX2_init_20 : decode cX2_init 20 = .ok (.getfield 11, 3) := by decide +kernel
theorem dX2_init_23 : decode cX2_init 23 = .ok (.iload_n 1, 1) := by decide +kernel
theorem dX2_init_24 : decode cX2_init 24 = .ok (.new 9, 3) := by decide +kernel
theorem dX2_init_27 : decode cX2_init 27 = .ok (.dup, 1) := by decide +kernel
theorem dX2_init_28 : decode cX2_init 28 = .ok (.invokespecial 17, 3) := by decide +kernel
theorem dX2_init_31 : decode cX2_init 31 = .ok (.aastore, 1) := by decide +kernel
theorem dX2_init_32 : decode cX2_init 32 = .ok (.iinc 1 1, 3) := by decide +kernel
theorem dX2_init_35 : decode cX2_init 35 = .ok (.goto (-21), 3) := by decide +kernel
theorem dX2_init_38 : decode cX2_init 38 = .ok (.return_, 1) := by decide +kernel
theorem dX2_has_0 : decode cX2_has 0 = .ok (.iload_n 1, 1) := by decide +kernel
theorem dX2_has_1 : decode cX2_has 1 = .ok (.iconst 0, 1) := by decide +kernel
theorem dX2_has_2 : decode cX2_has 2 = .ok (.aload_n 0, 1) := by decide +kernel
theorem dX2_has_3 : decode cX2_has 3 = .ok (.getfield 18, 3) := by decide +kernel
theorem dX2_has_6 : decode cX2_has 6 = .ok (.iconst 1, 1) := by decide +kernel
theorem dX2_has_7 : decode cX2_has 7 = .ok (.isub, 1) := by decide +kernel
theorem dX2_has_8 : decode cX2_has 8 = .ok (.invokestatic 22, 3) := by decide +kernel
theorem dX2_has_11 : decode cX2_has 11 = .ok (.ireturn, 1) := by decide +kernel
theorem dX2_hasBeat_0 : decode cX2_hasBeat 0 = .ok (.iload_n 1, 1) := by decide +kernel
theorem dX2_hasBeat_1 : decode cX2_hasBeat 1 = .ok (.iconst 0, 1) := by decide +kernel
theorem dX2_hasBeat_2 : decode cX2_hasBeat 2 = .ok (.aload_n 0, 1) := by decide +kernel
theorem dX2_hasBeat_3 : decode cX2_hasBeat 3 = .ok (.getfield 26, 3) := by decide +kernel
theorem dX2_hasBeat_6 : decode cX2_hasBeat 6 = .ok (.iconst 1, 1) := by decide +kernel
theorem dX2_hasBeat_7 : decode cX2_hasBeat 7 = .ok (.isub, 1) := by decide +kernel
theorem dX2_hasBeat_8 : decode cX2_hasBeat 8 = .ok (.invokestatic 22, 3) := by decide +kernel
theorem dX2_hasBeat_11 : decode cX2_hasBeat 11 = .ok (.ireturn, 1) := by decide +kernel
theorem dX2_freeBeatsOfAll_0 : decode cX2_freeBeatsOfAll 0 = .ok (.iconst 0, 1) := by decide +kernel
theorem dX2_freeBeatsOfAll_1 : decode cX2_freeBeatsOfAll 1 = .ok (.istore_n 1, 1) := by decide +kernel
theorem dX2_freeBeatsOfAll_2 : decode cX2_freeBeatsOfAll 2 = .ok (.iconst 0, 1) := by decide +kernel
theorem dX2_freeBeatsOfAll_3 : decode cX2_freeBeatsOfAll 3 = .ok (.istore_n 2, 1) := by decide +kernel
theorem dX2_freeBeatsOfAll_4 : decode cX2_freeBeatsOfAll 4 = .ok (.iload_n 2, 1) := by decide +kernel
theorem dX2_freeBeatsOfAll_5 : decode cX2_freeBeatsOfAll 5 = .ok (.aload_n 0, 1) := by decide +kernel
theorem dX2_freeBeatsOfAll_6 : decode cX2_freeBeatsOfAll 6 = .ok (.getfield 18, 3) := by decide +kernel
theorem dX2_freeBeatsOfAll_9 : decode cX2_freeBeatsOfAll 9 = .ok (.if_icmp .ge 25, 3) := by decide +kernel
theorem dX2_freeBeatsOfAll_12 : decode cX2_freeBeatsOfAll 12 = .ok (.iload_n 1, 1) := by decide +kernel
theorem dX2_freeBeatsOfAll_13 : decode cX2_freeBeatsOfAll 13 = .ok (.aload_n 0, 1) := by decide +kernel
theorem dX2_freeBeatsOfAll_14 : decode cX2_freeBeatsOfAll 14 = .ok (.getfield 11, 3) := by decide +kernel
theorem dX2_freeBeatsOfAll_17 : decode cX2_freeBeatsOfAll 17 = .ok (.iload_n 2, 1) := by decide +kernel
theorem dX2_freeBeatsOfAll_18 : decode cX2_freeBeatsOfAll 18 = .ok (.aaload, 1) := by decide +kernel
theorem dX2_freeBeatsOfAll_19 : decode cX2_freeBeatsOfAll 19 = .ok (.aload_n 0, 1) := by decide +kernel
theorem dX2_freeBeatsOfAll_20 : decode cX2_freeBeatsOfAll 20 = .ok (.getfield 26, 3) := by decide +kernel
theorem dX2_freeBeatsOfAll_23 : decode cX2_freeBeatsOfAll 23 = .ok (.invokevirtual 29, 3) := by decide +kernel
theorem dX2_freeBeatsOfAll_26 : decode cX2_freeBeatsOfAll 26 = .ok (.iadd, 1) := by decide +kernel
theorem dX2_freeBeatsOfAll_27 : decode cX2_freeBeatsOfAll 27 = .ok (.istore_n 1, 1) := by decide +kernel
theorem dX2_freeBeatsOfAll_28 : decode cX2_freeBeatsOfAll 28 = .ok (.iinc 2 1, 3) := by decide +kernel
theorem dX2_freeBeatsOfAll_31 : decode cX2_freeBeatsOfAll 31 = .ok (.goto (-27), 3) := by decide +kernel
theorem dX2_freeBeatsOfAll_34 : decode cX2_freeBeatsOfAll 34 = .ok (.iload_n 1, 1) := by decide +kernel
theorem dX2_freeBeatsOfAll_35 : decode cX2_freeBeatsOfAll 35 = .ok (.ireturn, 1) := by decide +kernel
theorem dX2_take_0 : decode cX2_take 0 = .ok (.aload_n 0, 1) := by decide +kernel
theorem dX2_take_1 : decode cX2_take 1 = .ok (.aload_n 1, 1) := by decide +kernel
theorem dX2_take_2 : decode cX2_take 2 = .ok (.getfield 33, 3) := by decide +kernel
theorem dX2_take_5 : decode cX2_take 5 = .ok (.iload_n 2, 1) := by decide +kernel
theorem dX2_take_6 : decode cX2_take 6 = .ok (.iconst 1, 1) := by decide +kernel
theorem dX2_take_7 : decode cX2_take 7 = .ok (.iadd, 1) := by decide +kernel
theorem dX2_take_8 : decode cX2_take 8 = .ok (.iaload, 1) := by decide +kernel
theorem dX2_take_9 : decode cX2_take 9 = .ok (.bipush 48, 2) := by decide +kernel
theorem dX2_take_11 : decode cX2_take 11 = .ok (.isub, 1) := by decide +kernel
theorem dX2_take_12 : decode cX2_take 12 = .ok (.putfield 26, 3) := by decide +kernel
theorem dX2_take_15 : decode cX2_take 15 = .ok (.aload_n 0, 1) := by decide +kernel
theorem dX2_take_16 : decode cX2_take 16 = .ok (.iload_n 3, 1) := by decide +kernel
theorem dX2_take_17 : decode cX2_take 17 = .ok (.putfield 18, 3) := by decide +kernel
theorem dX2_take_20 : decode cX2_take 20 = .ok (.iload_n 2, 1) := by decide +kernel
theorem dX2_take_21 : decode cX2_take 21 = .ok (.iconst 2, 1) := by decide +kernel
theorem dX2_take_22 : decode cX2_take 22 = .ok (.iadd, 1) := by decide +kernel
theorem dX2_take_23 : decode cX2_take 23 = .ok (.istore 4, 2) := by decide +kernel
theorem dX2_take_25 : decode cX2_take 25 = .ok (.iconst 0, 1) := by decide +kernel
theorem dX2_take_26 : decode cX2_take 26 = .ok (.istore 5, 2) := by decide +kernel
theorem dX2_take_28 : decode cX2_take 28 = .ok (.iload 5, 2) := by decide +kernel
theorem dX2_take_30 : decode cX2_take 30 = .ok (.aload_n 0, 1) := by decide +kernel
theorem dX2_take_31 : decode cX2_take 31 = .ok (.getfield 18, 3) := by decide +kernel
theorem dX2_take_34 : decode cX2_take 34 = .ok (.if_icmp .ge 93, 3) := by decide +kernel
theorem dX2_take_37 : decode cX2_take 37 = .ok (.aload_n 0, 1) := by decide +kernel
theorem dX2_take_38 : decode cX2_take 38 = .ok (.getfield 11, 3) := by decide +kernel
theorem dX2_take_41 : decode cX2_take 41 = .ok (.iload 5, 2) := by decide +kernel
theorem dX2_take_43 : decode cX2_take 43 = .ok (.aaload, 1) := by decide +kernel
theorem dX2_take_44 : decode cX2_take 44 = .ok (.aload_n 1, 1) := by decide +kernel
theorem dX2_take_45 : decode cX2_take 45 = .ok (.getfield 33, 3) := by decide +kernel
theorem dX2_take_48 : decode cX2_take 48 = .ok (.iload 4, 2) := by decide +kernel
theorem dX2_take_50 : decode cX2_take 50 = .ok (.iconst 1, 1) := by decide +kernel
theorem dX2_take_51 : decode cX2_take 51 = .ok (.iadd, 1) := by decide +kernel
theorem dX2_take_52 : decode cX2_take 52 = .ok (.iaload, 1) := by decide +kernel
theorem dX2_take_53 : decode cX2_take 53 = .ok (.invokestatic 39, 3) := by decide +kernel
theorem dX2_take_56 : decode cX2_take 56 = .ok (.putfield 44, 3) := by decide +kernel
theorem dX2_take_59 : decode cX2_take 59 = .ok (.iinc 4 2, 3) := by decide +kernel
theorem dX2_take_62 : decode cX2_take 62 = .ok (.iconst 0, 1) := by decide +kernel
theorem dX2_take_63 : decode cX2_take 63 = .ok (.istore 6, 2) := by decide +kernel
theorem dX2_take_65 : decode cX2_take 65 = .ok (.iload 6, 2) := by decide +kernel
theorem dX2_take_67 : decode cX2_take 67 = .ok (.aload_n 0, 1) := by decide +kernel
theorem dX2_take_68 : decode cX2_take 68 = .ok (.getfield 26, 3) := by decide +kernel
theorem dX2_take_71 : decode cX2_take 71 = .ok (.if_icmp .ge 50, 3) := by decide +kernel
theorem dX2_take_74 : decode cX2_take 74 = .ok (.aload_n 1, 1) := by decide +kernel
theorem dX2_take_75 : decode cX2_take 75 = .ok (.getfield 33, 3) := by decide +kernel
theorem dX2_take_78 : decode cX2_take 78 = .ok (.iload 4, 2) := by decide +kernel
theorem dX2_take_80 : decode cX2_take 80 = .ok (.iaload, 1) := by decide +kernel
theorem dX2_take_81 : decode cX2_take 81 = .ok (.istore 7, 2) := by decide +kernel
theorem dX2_take_83 : decode cX2_take 83 = .ok (.aload_n 0, 1) := by decide +kernel
theorem dX2_take_84 : decode cX2_take 84 = .ok (.getfield 11, 3) := by decide +kernel
theorem dX2_take_87 : decode cX2_take 87 = .ok (.iload 5, 2) := by decide +kernel
theorem dX2_take_89 : decode cX2_take 89 = .ok (.aaload, 1) := by decide +kernel
theorem dX2_take_90 : decode cX2_take 90 = .ok (.getfield 47, 3) := by decide +kernel
theorem dX2_take_93 : decode cX2_take 93 = .ok (.iload 6, 2) := by decide +kernel
theorem dX2_take_95 : decode cX2_take 95 = .ok (.iload 7, 2) := by decide +kernel
theorem dX2_take_97 : decode cX2_take 97 = .ok (.bipush 45, 2) := by decide +kernel
theorem dX2_take_99 : decode cX2_take 99 = .ok (.if_icmp .ne 7, 3) := by decide +kernel
theorem dX2_take_102 : decode cX2_take 102 = .ok (.iconst (-1), 1) := by decide +kernel
theorem dX2_take_103 : decode cX2_take 103 = .ok (.goto 8, 3) := by decide +kernel
theorem dX2_take_106 : decode cX2_take 106 = .ok (.iload 7, 2) := by decide +kernel
theorem dX2_take_108 : decode cX2_take 108 = .ok (.bipush 48, 2) := by decide +kernel
theorem dX2_take_110 : decode cX2_take 110 = .ok (.isub, 1) := by decide +kernel
theorem dX2_take_111 : decode cX2_take 111 = .ok (.iastore, 1) := by decide +kernel
theorem dX2_take_112 : decode cX2_take 112 = .ok (.iinc 4 1, 3) := by decide +kernel
theorem dX2_take_115 : decode cX2_take 115 = .ok (.iinc 6 1, 3) := by decide +kernel
theorem dX2_take_118 : decode cX2_take 118 = .ok (.goto (-53), 3) := by decide +kernel
theorem dX2_take_121 : decode cX2_take 121 = .ok (.iinc 5 1, 3) := by decide +kernel
theorem dX2_take_124 : decode cX2_take 124 = .ok (.goto (-96), 3) := by decide +kernel
theorem dX2_take_127 : decode cX2_take 127 = .ok (.return_, 1) := by decide +kernel
theorem dX2_heard_0 : decode cX2_heard 0 = .ok (.aload_n 0, 1) := by decide +kernel
theorem dX2_heard_1 : decode cX2_heard 1 = .ok (.getfield 11, 3) := by decide +kernel
theorem dX2_heard_4 : decode cX2_heard 4 = .ok (.iload_n 1, 1) := by decide +kernel
theorem dX2_heard_5 : decode cX2_heard 5 = .ok (.aaload, 1) := by decide +kernel
theorem dX2_heard_6 : decode cX2_heard 6 = .ok (.astore 5, 2) := by decide +kernel
theorem dX2_heard_8 : decode cX2_heard 8 = .ok (.aload_n 0, 1) := by decide +kernel
theorem dX2_heard_9 : decode cX2_heard 9 = .ok (.getfield 11, 3) := by decide +kernel
theorem dX2_heard_12 : decode cX2_heard 12 = .ok (.iload_n 2, 1) := by decide +kernel
theorem dX2_heard_13 : decode cX2_heard 13 = .ok (.aaload, 1) := by decide +kernel
theorem dX2_heard_14 : decode cX2_heard 14 = .ok (.getfield 47, 3) := by decide +kernel
theorem dX2_heard_17 : decode cX2_heard 17 = .ok (.astore 6, 2) := by decide +kernel
theorem dX2_heard_19 : decode cX2_heard 19 = .ok (.iconst 0, 1) := by decide +kernel
theorem dX2_heard_20 : decode cX2_heard 20 = .ok (.istore 7, 2) := by decide +kernel
theorem dX2_heard_22 : decode cX2_heard 22 = .ok (.iconst 0, 1) := by decide +kernel
theorem dX2_heard_23 : decode cX2_heard 23 = .ok (.istore 8, 2) := by decide +kernel
theorem dX2_heard_25 : decode cX2_heard 25 = .ok (.iload 8, 2) := by decide +kernel
theorem dX2_heard_27 : decode cX2_heard 27 = .ok (.aload_n 0, 1) := by decide +kernel
theorem dX2_heard_28 : decode cX2_heard 28 = .ok (.getfield 26, 3) := by decide +kernel
theorem dX2_heard_31 : decode cX2_heard 31 = .ok (.if_icmp .ge 101, 3) := by decide +kernel
theorem dX2_heard_34 : decode cX2_heard 34 = .ok (.iload 8, 2) := by decide +kernel
theorem dX2_heard_36 : decode cX2_heard 36 = .ok (.iload_n 3, 1) := by decide +kernel
theorem dX2_heard_37 : decode cX2_heard 37 = .ok (.iadd, 1) := by decide +kernel
theorem dX2_heard_38 : decode cX2_heard 38 = .ok (.istore 9, 2) := by decide +kernel
theorem dX2_heard_40 : decode cX2_heard 40 = .ok (.aload_n 0, 1) := by decide +kernel
theorem dX2_heard_41 : decode cX2_heard 41 = .ok (.iload 9, 2) := by decide +kernel
theorem dX2_heard_43 : decode cX2_heard 43 = .ok (.invokevirtual 50, 3) := by decide +kernel
theorem dX2_heard_46 : decode cX2_heard 46 = .ok (.ifCond .eq 80, 3) := by decide +kernel
theorem dX2_heard_49 : decode cX2_heard 49 = .ok (.aload 6, 2) := by decide +kernel
theorem dX2_heard_51 : decode cX2_heard 51 = .ok (.iload 8, 2) := by decide +kernel
theorem dX2_heard_53 : decode cX2_heard 53 = .ok (.iaload, 1) := by decide +kernel
theorem dX2_heard_54 : decode cX2_heard 54 = .ok (.iconst (-1), 1) := by decide +kernel
theorem dX2_heard_55 : decode cX2_heard 55 = .ok (.if_icmp .eq 71, 3) := by decide +kernel
theorem dX2_heard_58 : decode cX2_heard 58 = .ok (.aload 5, 2) := by decide +kernel
theorem dX2_heard_60 : decode cX2_heard 60 = .ok (.getfield 47, 3) := by decide +kernel
theorem dX2_heard_63 : decode cX2_heard 63 = .ok (.iload 9, 2) := by decide +kernel
theorem dX2_heard_65 : decode cX2_heard 65 = .ok (.iaload, 1) := by decide +kernel
theorem dX2_heard_66 : decode cX2_heard 66 = .ok (.iconst (-1), 1) := by decide +kernel
theorem dX2_heard_67 : decode cX2_heard 67 = .ok (.if_icmp .eq 59, 3) := by decide +kernel
theorem dX2_heard_70 : decode cX2_heard 70 = .ok (.aload 5, 2) := by decide +kernel
theorem dX2_heard_72 : decode cX2_heard 72 = .ok (.getfield 47, 3) := by decide +kernel
theorem dX2_heard_75 : decode cX2_heard 75 = .ok (.iload 9, 2) := by decide +kernel
theorem dX2_heard_77 : decode cX2_heard 77 = .ok (.iaload, 1) := by decide +kernel
theorem dX2_heard_78 : decode cX2_heard 78 = .ok (.aload 6, 2) := by decide +kernel
theorem dX2_heard_80 : decode cX2_heard 80 = .ok (.iload 8, 2) := by decide +kernel
theorem dX2_heard_82 : decode cX2_heard 82 = .ok (.iaload, 1) := by decide +kernel
theorem dX2_heard_83 : decode cX2_heard 83 = .ok (.iload 4, 2) := by decide +kernel
theorem dX2_heard_85 : decode cX2_heard 85 = .ok (.iadd, 1) := by decide +kernel
theorem dX2_heard_86 : decode cX2_heard 86 = .ok (.isub, 1) := by decide +kernel
theorem dX2_heard_87 : decode cX2_heard 87 = .ok (.istore 10, 2) := by decide +kernel
theorem dX2_heard_89 : decode cX2_heard 89 = .ok (.iload 7, 2) := by decide +kernel
theorem dX2_heard_91 : decode cX2_heard 91 = .ok (.aload 5, 2) := by decide +kernel
theorem dX2_heard_93 : decode cX2_heard 93 = .ok (.iload 10, 2) := by decide +kernel
theorem dX2_heard_95 : decode cX2_heard 95 = .ok (.ifCond .ne 7, 3) := by decide +kernel
theorem dX2_heard_98 : decode cX2_heard 98 = .ok (.iconst 1, 1) := by decide +kernel
theorem dX2_heard_99 : decode cX2_heard 99 = .ok (.goto 4, 3) := by decide +kernel
theorem dX2_heard_102 : decode cX2_heard 102 = .ok (.iconst 0, 1) := by decide +kernel
theorem dX2_heard_103 : decode cX2_heard 103 = .ok (.iload 10, 2) := by decide +kernel
theorem dX2_heard_105 : decode cX2_heard 105 = .ok (.iconst 1, 1) := by decide +kernel
theorem dX2_heard_106 : decode cX2_heard 106 = .ok (.if_icmp .eq 9, 3) := by decide +kernel
theorem dX2_heard_109 : decode cX2_heard 109 = .ok (.iload 10, 2) := by decide +kernel
theorem dX2_heard_111 : decode cX2_heard 111 = .ok (.iconst (-1), 1) := by decide +kernel
theorem dX2_heard_112 : decode cX2_heard 112 = .ok (.if_icmp .ne 7, 3) := by decide +kernel
theorem dX2_heard_115 : decode cX2_heard 115 = .ok (.iconst 1, 1) := by decide +kernel
theorem dX2_heard_116 : decode cX2_heard 116 = .ok (.goto 4, 3) := by decide +kernel
theorem dX2_heard_119 : decode cX2_heard 119 = .ok (.iconst 0, 1) := by decide +kernel
theorem dX2_heard_120 : decode cX2_heard 120 = .ok (.invokevirtual 54, 3) := by decide +kernel
theorem dX2_heard_123 : decode cX2_heard 123 = .ok (.iadd, 1) := by decide +kernel
theorem dX2_heard_124 : decode cX2_heard 124 = .ok (.istore 7, 2) := by decide +kernel
theorem dX2_heard_126 : decode cX2_heard 126 = .ok (.iinc 8 1, 3) := by decide +kernel
theorem dX2_heard_129 : decode cX2_heard 129 = .ok (.goto (-104), 3) := by decide +kernel
theorem dX2_heard_132 : decode cX2_heard 132 = .ok (.iload 7, 2) := by decide +kernel
theorem dX2_heard_134 : decode cX2_heard 134 = .ok (.ireturn, 1) := by decide +kernel
theorem dX2_listened_0 : decode cX2_listened 0 = .ok (.aload_n 0, 1) := by decide +kernel
theorem dX2_listened_1 : decode cX2_listened 1 = .ok (.getfield 11, 3) := by decide +kernel
theorem dX2_listened_4 : decode cX2_listened 4 = .ok (.iload_n 1, 1) := by decide +kernel
theorem dX2_listened_5 : decode cX2_listened 5 = .ok (.aaload, 1) := by decide +kernel
theorem dX2_listened_6 : decode cX2_listened 6 = .ok (.astore 4, 2) := by decide +kernel
theorem dX2_listened_8 : decode cX2_listened 8 = .ok (.iconst 0, 1) := by decide +kernel
theorem dX2_listened_9 : decode cX2_listened 9 = .ok (.istore 5, 2) := by decide +kernel
theorem dX2_listened_11 : decode cX2_listened 11 = .ok (.iconst 0, 1) := by decide +kernel
theorem dX2_listened_12 : decode cX2_listened 12 = .ok (.istore 6, 2) := by decide +kernel
theorem dX2_listened_14 : decode cX2_listened 14 = .ok (.iload 6, 2) := by decide +kernel
theorem dX2_listened_16 : decode cX2_listened 16 = .ok (.aload_n 0, 1) := by decide +kernel
theorem dX2_listened_17 : decode cX2_listened 17 = .ok (.getfield 26, 3) := by decide +kernel
theorem dX2_listened_20 : decode cX2_listened 20 = .ok (.if_icmp .ge 95, 3) := by decide +kernel
theorem dX2_listened_23 : decode cX2_listened 23 = .ok (.iload_n 3, 1) := by decide +kernel
theorem dX2_listened_24 : decode cX2_listened 24 = .ok (.iload 6, 2) := by decide +kernel
theorem dX2_listened_26 : decode cX2_listened 26 = .ok (.iadd, 1) := by decide +kernel
theorem dX2_listened_27 : decode cX2_listened 27 = .ok (.bipush 25, 2) := by decide +kernel
theorem dX2_listened_29 : decode cX2_listened 29 = .ok (.if_icmp .gt 86, 3) := by decide +kernel
theorem dX2_listened_32 : decode cX2_listened 32 = .ok (.aload 4, 2) := by decide +kernel
theorem dX2_listened_34 : decode cX2_listened 34 = .ok (.getfield 47, 3) := by decide +kernel
theorem dX2_listened_37 : decode cX2_listened 37 = .ok (.iload 6, 2) := by decide +kernel
theorem dX2_listened_39 : decode cX2_listened 39 = .ok (.iaload, 1) := by decide +kernel
theorem dX2_listened_40 : decode cX2_listened 40 = .ok (.istore 7, 2) := by decide +kernel
theorem dX2_listened_42 : decode cX2_listened 42 = .ok (.iload 7, 2) := by decide +kernel
theorem dX2_listened_44 : decode cX2_listened 44 = .ok (.iconst (-1), 1) := by decide +kernel
theorem dX2_listened_45 : decode cX2_listened 45 = .ok (.if_icmp .eq 64, 3) := by decide +kernel
theorem dX2_listened_48 : decode cX2_listened 48 = .ok (.aload_n 2, 1) := by decide +kernel
theorem dX2_listened_49 : decode cX2_listened 49 = .ok (.iload_n 3, 1) := by decide +kernel
theorem dX2_listened_50 : decode cX2_listened 50 = .ok (.iload 6, 2) := by decide +kernel
theorem dX2_listened_52 : decode cX2_listened 52 = .ok (.iadd, 1) := by decide +kernel
theorem dX2_listened_53 : decode cX2_listened 53 = .ok (.iaload, 1) := by decide +kernel
theorem dX2_listened_54 : decode cX2_listened 54 = .ok (.istore 8, 2) := by decide +kernel
theorem dX2_listened_56 : decode cX2_listened 56 = .ok (.iload 8, 2) := by decide +kernel
theorem dX2_listened_58 : decode cX2_listened 58 = .ok (.iconst 1, 1) := by decide +kernel
theorem dX2_listened_59 : decode cX2_listened 59 = .ok (.ishl, 1) := by decide +kernel
theorem dX2_listened_60 : decode cX2_listened 60 = .ok (.iload 8, 2) := by decide +kernel
theorem dX2_listened_62 : decode cX2_listened 62 = .ok (.iconst 1, 1) := by decide +kernel
theorem dX2_listened_63 : decode cX2_listened 63 = .ok (.ishr, 1) := by decide +kernel
theorem dX2_listened_64 : decode cX2_listened 64 = .ok (.ior, 1) := by decide +kernel
theorem dX2_listened_65 : decode cX2_listened 65 = .ok (.istore 9, 2) := by decide +kernel
theorem dX2_listened_67 : decode cX2_listened 67 = .ok (.iload 5, 2) := by decide +kernel
theorem dX2_listened_69 : decode cX2_listened 69 = .ok (.aload 4, 2) := by decide +kernel
theorem dX2_listened_71 : decode cX2_listened 71 = .ok (.iload 8, 2) := by decide +kernel
theorem dX2_listened_73 : decode cX2_listened 73 = .ok (.iload 7, 2) := by decide +kernel
theorem dX2_listened_75 : decode cX2_listened 75 = .ok (.ishr, 1) := by decide +kernel
theorem dX2_listened_76 : decode cX2_listened 76 = .ok (.iconst 1, 1) := by decide +kernel
theorem dX2_listened_77 : decode cX2_listened 77 = .ok (.iand, 1) := by decide +kernel
theorem dX2_listened_78 : decode cX2_listened 78 = .ok (.iconst 1, 1) := by decide +kernel
theorem dX2_listened_79 : decode cX2_listened 79 = .ok (.if_icmp .ne 7, 3) := by decide +kernel
theorem dX2_listened_82 : decode cX2_listened 82 = .ok (.iconst 1, 1) := by decide +kernel
theorem dX2_listened_83 : decode cX2_listened 83 = .ok (.goto 4, 3) := by decide +kernel
theorem dX2_listened_86 : decode cX2_listened 86 = .ok (.iconst 0, 1) := by decide +kernel
theorem dX2_listened_87 : decode cX2_listened 87 = .ok (.iload 9, 2) := by decide +kernel
theorem dX2_listened_89 : decode cX2_listened 89 = .ok (.iload 7, 2) := by decide +kernel
theorem dX2_listened_91 : decode cX2_listened 91 = .ok (.ishr, 1) := by decide +kernel
theorem dX2_listened_92 : decode cX2_listened 92 = .ok (.iconst 1, 1) := by decide +kernel
theorem dX2_listened_93 : decode cX2_listened 93 = .ok (.iand, 1) := by decide +kernel
theorem dX2_listened_94 : decode cX2_listened 94 = .ok (.iconst 1, 1) := by decide +kernel
theorem dX2_listened_95 : decode cX2_listened 95 = .ok (.if_icmp .ne 7, 3) := by decide +kernel
theorem dX2_listened_98 : decode cX2_listened 98 = .ok (.iconst 1, 1) := by decide +kernel
theorem dX2_listened_99 : decode cX2_listened 99 = .ok (.goto 4, 3) := by decide +kernel
theorem dX2_listened_102 : decode cX2_listened 102 = .ok (.iconst 0, 1) := by decide +kernel
theorem dX2_listened_103 : decode cX2_listened 103 = .ok (.invokevirtual 54, 3) := by decide +kernel
theorem dX2_listened_106 : decode cX2_listened 106 = .ok (.iadd, 1) := by decide +kernel
theorem dX2_listened_107 : decode cX2_listened 107 = .ok (.istore 5, 2) := by decide +kernel
theorem dX2_listened_109 : decode cX2_listened 109 = .ok (.iinc 6 1, 3) := by decide +kernel
theorem dX2_listened_112 : decode cX2_listened 112 = .ok (.goto (-98), 3) := by decide +kernel
theorem dX2_listened_115 : decode cX2_listened 115 = .ok (.iload 5, 2) := by decide +kernel
theorem dX2_listened_117 : decode cX2_listened 117 = .ok (.ireturn, 1) := by decide +kernel
theorem dX2_loudestMoment_0 : decode cX2_loudestMoment 0 = .ok (.iconst (-1), 1) := by decide +kernel
theorem dX2_loudestMoment_1 : decode cX2_loudestMoment 1 = .ok (.istore_n 3, 1) := by decide +kernel
theorem dX2_loudestMoment_2 : decode cX2_loudestMoment 2 = .ok (.iconst 0, 1) := by decide +kernel
theorem dX2_loudestMoment_3 : decode cX2_loudestMoment 3 = .ok (.istore 4, 2) := by decide +kernel
theorem dX2_loudestMoment_5 : decode cX2_loudestMoment 5 = .ok (.iconst 0, 1) := by decide +kernel
theorem dX2_loudestMoment_6 : decode cX2_loudestMoment 6 = .ok (.istore 5, 2) := by decide +kernel
theorem dX2_loudestMoment_8 : decode cX2_loudestMoment 8 = .ok (.iload 5, 2) := by decide +kernel
theorem dX2_loudestMoment_10 : decode cX2_loudestMoment 10 = .ok (.bipush 25, 2) := by decide +kernel
theorem dX2_loudestMoment_12 : decode cX2_loudestMoment 12 = .ok (.if_icmp .gt 32, 3) := by decide +kernel
theorem dX2_loudestMoment_15 : decode cX2_loudestMoment 15 = .ok (.aload_n 0, 1) := by decide +kernel
theorem dX2_loudestMoment_16 : decode cX2_loudestMoment 16 = .ok (.iload_n 1, 1) := by decide +kernel
theorem dX2_loudestMoment_17 : decode cX2_loudestMoment 17 = .ok (.aload_n 2, 1) := by decide +kernel
theorem dX2_loudestMoment_18 : decode cX2_loudestMoment 18 = .ok (.iload 5, 2) := by decide +kernel
theorem dX2_loudestMoment_20 : decode cX2_loudestMoment 20 = .ok (.invokevirtual 58, 3) := by decide +kernel
theorem dX2_loudestMoment_23 : decode cX2_loudestMoment 23 = .ok (.istore 6, 2) := by decide +kernel
theorem dX2_loudestMoment_25 : decode cX2_loudestMoment 25 = .ok (.iload 6, 2) := by decide +kernel
theorem dX2_loudestMoment_27 : decode cX2_loudestMoment 27 = .ok (.iload_n 3, 1) := by decide +kernel
theorem dX2_loudestMoment_28 : decode cX2_loudestMoment 28 = .ok (.if_icmp .le 10, 3) := by decide +kernel
theorem dX2_loudestMoment_31 : decode cX2_loudestMoment 31 = .ok (.iload 6, 2) := by decide +kernel
theorem dX2_loudestMoment_33 : decode cX2_loudestMoment 33 = .ok (.istore_n 3, 1) := by decide +kernel
theorem dX2_loudestMoment_34 : decode cX2_loudestMoment 34 = .ok (.iload 5, 2) := by decide +kernel
theorem dX2_loudestMoment_36 : decode cX2_loudestMoment 36 = .ok (.istore 4, 2) := by decide +kernel
theorem dX2_loudestMoment_38 : decode cX2_loudestMoment 38 = .ok (.iinc 5 1, 3) := by decide +kernel
theorem dX2_loudestMoment_41 : decode cX2_loudestMoment 41 = .ok (.goto (-33), 3) := by decide +kernel
theorem dX2_loudestMoment_44 : decode cX2_loudestMoment 44 = .ok (.iload 4, 2) := by decide +kernel
theorem dX2_loudestMoment_46 : decode cX2_loudestMoment 46 = .ok (.ireturn, 1) := by decide +kernel
theorem dX3_init_0 : decode cX3_init 0 = .ok (.aload_n 0, 1) := by decide +kernel
theorem dX3_init_1 : decode cX3_init 1 = .ok (.invokespecial 3, 3) := by decide +kernel
theorem dX3_init_4 : decode cX3_init 4 = .ok (.aload_n 0, 1) := by decide +kernel
theorem dX3_init_5 : decode cX3_init 5 = .ok (.bipush 116, 2) := by decide +kernel
theorem dX3_init_7 : decode cX3_init 7 = .ok (.newarray .int, 2) := by decide +kernel
theorem dX3_init_9 : decode cX3_init 9 = .ok (.putfield 9, 3) := by decide +kernel
theorem dX3_init_12 : decode cX3_init 12 = .ok (.aload_n 0, 1) := by decide +kernel
theorem dX3_init_13 : decode cX3_init 13 = .ok (.bipush 6, 2) := by decide +kernel
theorem dX3_init_15 : decode cX3_init 15 = .ok (.newarray .int, 2) := by decide +kernel
theorem dX3_init_17 : decode cX3_init 17 = .ok (.putfield 15, 3) := by decide +kernel
theorem dX3_init_20 : decode cX3_init 20 = .ok (.return_, 1) := by decide +kernel
theorem dX3_makeFor_0 : decode cX3_makeFor 0 = .ok (.aload_n 0, 1) := by decide +kernel
theorem dX3_makeFor_1 : decode cX3_makeFor 1 = .ok (.getfield 18, 3) := by decide +kernel
theorem dX3_makeFor_4 : decode cX3_makeFor 4 = .ok (.iload_n 1, 1) := by decide +kernel
theorem dX3_makeFor_5 : decode cX3_makeFor 5 = .ok (.if_icmp .eq 24, 3) := by decide +kernel
theorem dX3_makeFor_8 : decode cX3_makeFor 8 = .ok (.iload_n 1, 1) := by decide +kernel
theorem dX3_makeFor_9 : decode cX3_makeFor 9 = .ok (.bipush 6, 2) := by decide +kernel
theorem dX3_makeFor_11 : decode cX3_makeFor 11 = .ok (.if_icmp .gt 18, 3) := by decide +kernel
theorem dX3_makeFor_14 : decode cX3_makeFor 14 = .ok (.aload_n 0, 1) := by decide +kernel
theorem dX3_makeFor_15 : decode cX3_makeFor 15 = .ok (.iload_n 1, 1) := by decide +kernel
theorem dX3_makeFor_16 : decode cX3_makeFor 16 = .ok (.putfield 18, 3) := by decide +kernel
theorem dX3_makeFor_19 : decode cX3_makeFor 19 = .ok (.aload_n 0, 1) := by decide +kernel
theorem dX3_makeFor_20 : decode cX3_makeFor 20 = .ok (.iconst 0, 1) := by decide +kernel
theorem dX3_makeFor_21 : decode cX3_makeFor 21 = .ok (.putfield 22, 3) := by decide +kernel
theorem dX3_makeFor_24 : decode cX3_makeFor 24 = .ok (.aload_n 0, 1) := by decide +kernel
theorem dX3_makeFor_25 : decode cX3_makeFor 25 = .ok (.iconst 0, 1) := by decide +kernel
theorem dX3_makeFor_26 : decode cX3_makeFor 26 = .ok (.invokestatic 25, 3) := by decide +kernel
theorem dX3_makeFor_29 : decode cX3_makeFor 29 = .ok (.return_, 1) := by decide +kernel
theorem dX3_grow_0 : decode cX3_grow 0 = .ok (.iload_n 1, 1) := by decide +kernel
theorem dX3_grow_1 : decode cX3_grow 1 = .ok (.aload_n 0, 1) := by decide +kernel
theorem dX3_grow_2 : decode cX3_grow 2 = .ok (.getfield 18, 3) := by decide +kernel
theorem dX3_grow_5 : decode cX3_grow 5 = .ok (.if_icmp .lt 8, 3) := by decide +kernel
theorem dX3_grow_8 : decode cX3_grow 8 = .ok (.aload_n 0, 1) := by decide +kernel
theorem dX3_grow_9 : decode cX3_grow 9 = .ok (.invokevirtual 29, 3) := by decide +kernel
theorem dX3_grow_12 : decode cX3_grow 12 = .ok (.return_, 1) := by decide +kernel
theorem dX3_grow_13 : decode cX3_grow 13 = .ok (.iconst 0, 1) := by decide +kernel
theorem dX3_grow_14 : decode cX3_grow 14 = .ok (.istore_n 2, 1) := by decide +kernel
theorem dX3_grow_15 : decode cX3_grow 15 = .ok (.iload_n 2, 1) := by decide +kernel
theorem dX3_grow_16 : decode cX3_grow 16 = .ok (.aload_n 0, 1) := by decide +kernel
theorem dX3_grow_17 : decode cX3_grow 17 = .ok (.getfield 18, 3) := by decide +kernel
theorem dX3_grow_20 : decode cX3_grow 20 = .ok (.if_icmp .ge 34, 3) := by decide +kernel
theorem dX3_grow_23 : decode cX3_grow 23 = .ok (.aload_n 0, 1) := by decide +kernel
theorem dX3_grow_24 : decode cX3_grow 24 = .ok (.getfield 15, 3) := by decide +kernel
theorem dX3_grow_27 : decode cX3_grow 27 = .ok (.iload_n 1, 1) := by decide +kernel
theorem dX3_grow_28 : decode cX3_grow 28 = .ok (.iload_n 2, 1) := by decide +kernel
theorem dX3_grow_29 : decode cX3_grow 29 = .ok (.iastore, 1) := by decide +kernel
theorem dX3_grow_30 : decode cX3_grow 30 = .ok (.aload_n 0, 1) := by decide +kernel
theorem dX3_grow_31 : decode cX3_grow 31 = .ok (.getfield 15, 3) := by decide +kernel
theorem dX3_grow_34 : decode cX3_grow 34 = .ok (.iload_n 1, 1) := by decide +kernel
theorem dX3_grow_35 : decode cX3_grow 35 = .ok (.invokestatic 32, 3) := by decide +kernel
theorem dX3_grow_38 : decode cX3_grow 38 = .ok (.ifCond .eq 10, 3) := by decide +kernel
theorem dX3_grow_41 : decode cX3_grow 41 = .ok (.aload_n 0, 1) := by decide +kernel
theorem dX3_grow_42 : decode cX3_grow 42 = .ok (.iload_n 1, 1) := by decide +kernel
theorem dX3_grow_43 : decode cX3_grow 43 = .ok (.iconst 1, 1) := by decide +kernel
theorem dX3_grow_44 : decode cX3_grow 44 = .ok (.iadd, 1) := by decide +kernel
theorem dX3_grow_45 : decode cX3_grow 45 = .ok (.invokestatic 25, 3) := by decide +kernel
theorem dX3_grow_48 : decode cX3_grow 48 = .ok (.iinc 2 1, 3) := by decide +kernel
theorem dX3_grow_51 : decode cX3_grow 51 = .ok (.goto (-36), 3) := by decide +kernel
theorem dX3_grow_54 : decode cX3_grow 54 = .ok (.return_, 1) := by decide +kernel
theorem dX3_keep_0 : decode cX3_keep 0 = .ok (.aload_n 0, 1) := by decide +kernel
theorem dX3_keep_1 : decode cX3_keep 1 = .ok (.getfield 22, 3) := by decide +kernel
theorem dX3_keep_4 : decode cX3_keep 4 = .ok (.bipush 116, 2) := by decide +kernel
theorem dX3_keep_6 : decode cX3_keep 6 = .ok (.if_icmp .ge 30, 3) := by decide +kernel
theorem dX3_keep_9 : decode cX3_keep 9 = .ok (.aload_n 0, 1) := by decide +kernel
theorem dX3_keep_10 : decode cX3_keep 10 = .ok (.getfield 9, 3) := by decide +kernel
theorem dX3_keep_13 : decode cX3_keep 13 = .ok (.aload_n 0, 1) := by decide +kernel
theorem dX3_keep_14 : decode cX3_keep 14 = .ok (.getfield 22, 3) := by decide +kernel
theorem dX3_keep_17 : decode cX3_keep 17 = .ok (.aload_n 0, 1) := by decide +kernel
theorem dX3_keep_18 : decode cX3_keep 18 = .ok (.aload_n 0, 1) := by decide +kernel
theorem dX3_keep_19 : decode cX3_keep 19 = .ok (.getfield 15, 3) := by decide +kernel
theorem dX3_keep_22 : decode cX3_keep 22 = .ok (.invokevirtual 36, 3) := by decide +kernel
theorem dX3_keep_25 : decode cX3_keep 25 = .ok (.iastore, 1) := by decide +kernel
theorem dX3_keep_26 : decode cX3_keep 26 = .ok (.aload_n 0, 1) := by decide +kernel
theorem dX3_keep_27 : decode cX3_keep 27 = .ok (.dup, 1) := by decide +kernel
theorem dX3_keep_28 : decode cX3_keep 28 = .ok (.getfield 22, 3) := by decide +kernel
theorem dX3_keep_31 : decode cX3_keep 31 = .ok (.iconst 1, 1) := by decide +kernel
theorem dX3_keep_32 : decode cX3_keep 32 = .ok (.iadd, 1) := by decide +kernel
theorem dX3_keep_33 : decode cX3_keep 33 = .ok (.putfield 22, 3) := by decide +kernel
theorem dX3_keep_36 : decode cX3_keep 36 = .ok (.return_, 1) := by decide +kernel
theorem dX3_isGood_0 : decode cX3_isGood 0 = .ok (.iconst 0, 1) := by decide +kernel
theorem dX3_isGood_1 : decode cX3_isGood 1 = .ok (.istore_n 2, 1) := by decide +kernel
theorem dX3_isGood_2 : decode cX3_isGood 2 = .ok (.iload_n 2, 1) := by decide +kernel
theorem dX3_isGood_3 : decode cX3_isGood 3 = .ok (.iload_n 1, 1) := by decide +kernel
theorem dX3_isGood_4 : decode cX3_isGood 4 = .ok (.if_icmp .ge 26, 3) := by decide +kernel
theorem dX3_isGood_7 : decode cX3_isGood 7 = .ok (.aload_n 0, 1) := by decide +kernel
theorem dX3_isGood_8 : decode cX3_isGood 8 = .ok (.iload_n 2, 1) := by decide +kernel
theorem dX3_isGood_9 : decode cX3_isGood 9 = .ok (.iaload, 1) := by decide +kernel
theorem dX3_isGood_10 : decode cX3_isGood 10 = .ok (.iconst (-1), 1) := by decide +kernel
theorem dX3_isGood_11 : decode cX3_isGood 11 = .ok (.if_icmp .eq 11, 3) := by decide +kernel
theorem dX3_isGood_14 : decode cX3_isGood 14 = .ok (.aload_n 0, 1) := by decide +kernel
theorem dX3_isGood_15 : decode cX3_isGood 15 = .ok (.iload_n 2, 1) := by decide +kernel
theorem dX3_isGood_16 : decode cX3_isGood 16 = .ok (.invokestatic 32, 3) := by decide +kernel
theorem dX3_isGood_19 : decode cX3_isGood 19 = .ok (.ifCond .ne 5, 3) := by decide +kernel
theorem dX3_isGood_22 : decode cX3_isGood 22 = .ok (.iconst 0, 1) := by decide +kernel
theorem dX3_isGood_23 : decode cX3_isGood 23 = .ok (.ireturn, 1) := by decide +kernel
theorem dX3_isGood_24 : decode cX3_isGood 24 = .ok (.iinc 2 1, 3) := by decide +kernel
theorem dX3_isGood_27 : decode cX3_isGood 27 = .ok (.goto (-25), 3) := by decide +kernel
theorem dX3_isGood_30 : decode cX3_isGood 30 = .ok (.iconst 1, 1) := by decide +kernel
theorem dX3_isGood_31 : decode cX3_isGood 31 = .ok (.ireturn, 1) := by decide +kernel
theorem dX3_staysGood_0 : decode cX3_staysGood 0 = .ok (.iconst 1, 1) := by decide +kernel
theorem dX3_staysGood_1 : decode cX3_staysGood 1 = .ok (.istore_n 2, 1) := by decide +kernel
theorem dX3_staysGood_2 : decode cX3_staysGood 2 = .ok (.iload_n 2, 1) := by decide +kernel
theorem dX3_staysGood_3 : decode cX3_staysGood 3 = .ok (.iload_n 1, 1) := by decide +kernel
theorem dX3_staysGood_4 : decode cX3_staysGood 4 = .ok (.if_icmp .gt 57, 3) := by decide +kernel
theorem dX3_staysGood_7 : decode cX3_staysGood 7 = .ok (.aload_n 0, 1) := by decide +kernel
theorem dX3_staysGood_8 : decode cX3_staysGood 8 = .ok (.iload_n 1, 1) := by decide +kernel
theorem dX3_staysGood_9 : decode cX3_staysGood 9 = .ok (.iaload, 1) := by decide +kernel
theorem dX3_staysGood_10 : decode cX3_staysGood 10 = .ok (.aload_n 0, 1) := by decide +kernel
theorem dX3_staysGood_11 : decode cX3_staysGood 11 = .ok (.iload_n 1, 1) := by decide +kernel
theorem dX3_staysGood_12 : decode cX3_staysGood 12 = .ok (.iload_n 2, 1) := by decide +kernel
theorem dX3_staysGood_13 : decode cX3_staysGood 13 = .ok (.isub, 1) := by decide +kernel
theorem dX3_staysGood_14 : decode cX3_staysGood 14 = .ok (.iaload, 1) := by decide +kernel
theorem dX3_staysGood_15 : decode cX3_staysGood 15 = .ok (.isub, 1) := by decide +kernel
theorem dX3_staysGood_16 : decode cX3_staysGood 16 = .ok (.istore_n 3, 1) := by decide +kernel
theorem dX3_staysGood_17 : decode cX3_staysGood 17 = .ok (.iload_n 3, 1) := by decide +kernel
theorem dX3_staysGood_18 : decode cX3_staysGood 18 = .ok (.ifCond .ne 5, 3) := by decide +kernel
theorem dX3_staysGood_21 : decode cX3_staysGood 21 = .ok (.iconst 0, 1) := by decide +kernel
theorem dX3_staysGood_22 : decode cX3_staysGood 22 = .ok (.ireturn, 1) := by decide +kernel
theorem dX3_staysGood_23 : decode cX3_staysGood 23 = .ok (.iload_n 2, 1) := by decide +kernel
theorem dX3_staysGood_24 : decode cX3_staysGood 24 = .ok (.istore 4, 2) := by decide +kernel
theorem dX3_staysGood_26 : decode cX3_staysGood 26 = .ok (.iload 4, 2) := by decide +kernel
theorem dX3_staysGood_28 : decode cX3_staysGood 28 = .ok (.iload_n 1, 1) := by decide +kernel
theorem dX3_staysGood_29 : decode cX3_staysGood 29 = .ok (.if_icmp .ge 26, 3) := by decide +kernel
theorem dX3_staysGood_32 : decode cX3_staysGood 32 = .ok (.aload_n 0, 1) := by decide +kernel
theorem dX3_staysGood_33 : decode cX3_staysGood 33 = .ok (.iload 4, 2) := by decide +kernel
theorem dX3_staysGood_35 : decode cX3_staysGood 35 = .ok (.iaload, 1) := by decide +kernel
theorem dX3_staysGood_36 : decode cX3_staysGood 36 = .ok (.aload_n 0, 1) := by decide +kernel
theorem dX3_staysGood_37 : decode cX3_staysGood 37 = .ok (.iload 4, 2) := by decide +kernel
theorem dX3_staysGood_39 : decode cX3_staysGood 39 = .ok (.iload_n 2, 1) := by decide +kernel
theorem dX3_staysGood_40 : decode cX3_staysGood 40 = .ok (.isub, 1) := by decide +kernel
theorem dX3_staysGood_41 : decode cX3_staysGood 41 = .ok (.iaload, 1) := by decide +kernel
theorem dX3_staysGood_42 : decode cX3_staysGood 42 = .ok (.isub, 1) := by decide +kernel
theorem dX3_staysGood_43 : decode cX3_staysGood 43 = .ok (.iload_n 3, 1) := by decide +kernel
theorem dX3_staysGood_44 : decode cX3_staysGood 44 = .ok (.if_icmp .ne 5, 3) := by decide +kernel
theorem dX3_staysGood_47 : decode cX3_staysGood 47 = .ok (.iconst 0, 1) := by decide +kernel
theorem dX3_staysGood_48 : decode cX3_staysGood 48 = .ok (.ireturn, 1) := by decide +kernel
theorem dX3_staysGood_49 : decode cX3_staysGood 49 = .ok (.iinc 4 1, 3) := by decide +kernel
theorem dX3_staysGood_52 : decode cX3_staysGood 52 = .ok (.goto (-26), 3) := by decide +kernel
theorem dX3_staysGood_55 : decode cX3_staysGood 55 = .ok (.iinc 2 1, 3) := by decide +kernel
theorem dX3_staysGood_58 : decode cX3_staysGood 58 = .ok (.goto (-56), 3) := by decide +kernel
theorem dX3_staysGood_61 : decode cX3_staysGood 61 = .ok (.iconst 1, 1) := by decide +kernel
theorem dX3_staysGood_62 : decode cX3_staysGood 62 = .ok (.ireturn, 1) := by decide +kernel
theorem dX3_codeOf_0 : decode cX3_codeOf 0 = .ok (.iconst 0, 1) := by decide +kernel
theorem dX3_codeOf_1 : decode cX3_codeOf 1 = .ok (.istore_n 2, 1) := by decide +kernel
theorem dX3_codeOf_2 : decode cX3_codeOf 2 = .ok (.iconst 0, 1) := by decide +kernel
theorem dX3_codeOf_3 : decode cX3_codeOf 3 = .ok (.istore_n 3, 1) := by decide +kernel
theorem dX3_codeOf_4 : decode cX3_codeOf 4 = .ok (.iload_n 3, 1) := by decide +kernel
theorem dX3_codeOf_5 : decode cX3_codeOf 5 = .ok (.aload_n 0, 1) := by decide +kernel
theorem dX3_codeOf_6 : decode cX3_codeOf 6 = .ok (.getfield 18, 3) := by decide +kernel
theorem dX3_codeOf_9 : decode cX3_codeOf 9 = .ok (.if_icmp .ge 17, 3) := by decide +kernel
theorem dX3_codeOf_12 : decode cX3_codeOf 12 = .ok (.iload_n 2, 1) := by decide +kernel
theorem dX3_codeOf_13 : decode cX3_codeOf 13 = .ok (.iconst 3, 1) := by decide +kernel
theorem dX3_codeOf_14 : decode cX3_codeOf 14 = .ok (.ishl, 1) := by decide +kernel
theorem dX3_codeOf_15 : decode cX3_codeOf 15 = .ok (.aload_n 1, 1) := by decide +kernel
theorem dX3_codeOf_16 : decode cX3_codeOf 16 = .ok (.iload_n 3, 1) := by decide +kernel
theorem dX3_codeOf_17 : decode cX3_codeOf 17 = .ok (.iaload, 1) := by decide +kernel
theorem dX3_codeOf_18 : decode cX3_codeOf 18 = .ok (.ior, 1) := by decide +kernel
theorem dX3_codeOf_19 : decode cX3_codeOf 19 = .ok (.istore_n 2, 1) := by decide +kernel
theorem dX3_codeOf_20 : decode cX3_codeOf 20 = .ok (.iinc 3 1, 3) := by decide +kernel
theorem dX3_codeOf_23 : decode cX3_codeOf 23 = .ok (.goto (-19), 3) := by decide +kernel
theorem dX3_codeOf_26 : decode cX3_codeOf 26 = .ok (.iload_n 2, 1) := by decide +kernel
theorem dX3_codeOf_27 : decode cX3_codeOf 27 = .ok (.ireturn, 1) := by decide +kernel
theorem dX3_pitchOf_0 : decode cX3_pitchOf 0 = .ok (.iload_n 1, 1) := by decide +kernel
theorem dX3_pitchOf_1 : decode cX3_pitchOf 1 = .ok (.bipush (-9), 2) := by decide +kernel
theorem dX3_pitchOf_3 : decode cX3_pitchOf 3 = .ok (.if_icmp .eq 11, 3) := by decide +kernel
theorem dX3_pitchOf_6 : decode cX3_pitchOf 6 = .ok (.iload_n 2, 1) := by decide +kernel
theorem dX3_pitchOf_7 : decode cX3_pitchOf 7 = .ok (.aload_n 0, 1) := by decide +kernel
theorem dX3_pitchOf_8 : decode cX3_pitchOf 8 = .ok (.getfield 18, 3) := by decide +kernel
theorem dX3_pitchOf_11 : decode cX3_pitchOf 11 = .ok (.if_icmp .lt 6, 3) := by decide +kernel
theorem dX3_pitchOf_14 : decode cX3_pitchOf 14 = .ok (.bipush (-9), 2) := by decide +kernel
theorem dX3_pitchOf_16 : decode cX3_pitchOf 16 = .ok (.ireturn, 1) := by decide +kernel
theorem dX3_pitchOf_17 : decode cX3_pitchOf 17 = .ok (.iload_n 1, 1) := by decide +kernel
theorem dX3_pitchOf_18 : decode cX3_pitchOf 18 = .ok (.iconst 3, 1) := by decide +kernel
theorem dX3_pitchOf_19 : decode cX3_pitchOf 19 = .ok (.aload_n 0, 1) := by decide +kernel
theorem dX3_pitchOf_20 : decode cX3_pitchOf 20 = .ok (.getfield 18, 3) := by decide +kernel
theorem dX3_pitchOf_23 : decode cX3_pitchOf 23 = .ok (.iconst 1, 1) := by decide +kernel
theorem dX3_pitchOf_24 : decode cX3_pitchOf 24 = .ok (.isub, 1) := by decide +kernel
theorem dX3_pitchOf_25 : decode cX3_pitchOf 25 = .ok (.iload_n 2, 1) := by decide +kernel
theorem dX3_pitchOf_26 : decode cX3_pitchOf 26 = .ok (.isub, 1) := by decide +kernel
theorem dX3_pitchOf_27 : decode cX3_pitchOf 27 = .ok (.imul, 1) := by decide +kernel
theorem dX3_pitchOf_28 : decode cX3_pitchOf 28 = .ok (.ishr, 1) := by decide +kernel
theorem dX3_pitchOf_29 : decode cX3_pitchOf 29 = .ok (.bipush 7, 2) := by decide +kernel
theorem dX3_pitchOf_31 : decode cX3_pitchOf 31 = .ok (.iand, 1) := by decide +kernel
theorem dX3_pitchOf_32 : decode cX3_pitchOf 32 = .ok (.ireturn, 1) := by decide +kernel
theorem dX3_isLike_0 : decode cX3_isLike 0 = .ok (.iconst 0, 1) := by decide +kernel
theorem dX3_isLike_1 : decode cX3_isLike 1 = .ok (.istore_n 3, 1) := by decide +kernel
theorem dX3_isLike_2 : decode cX3_isLike 2 = .ok (.iload_n 3, 1) := by decide +kernel
theorem dX3_isLike_3 : decode cX3_isLike 3 = .ok (.aload_n 0, 1) := by decide +kernel
theorem dX3_isLike_4 : decode cX3_isLike 4 = .ok (.getfield 18, 3) := by decide +kernel
theorem dX3_isLike_7 : decode cX3_isLike 7 = .ok (.if_icmp .ge 30, 3) := by decide +kernel
theorem dX3_isLike_10 : decode cX3_isLike 10 = .ok (.aload_n 2, 1) := by decide +kernel
theorem dX3_isLike_11 : decode cX3_isLike 11 = .ok (.iload_n 3, 1) := by decide +kernel
theorem dX3_isLike_12 : decode cX3_isLike 12 = .ok (.iaload, 1) := by decide +kernel
theorem dX3_isLike_13 : decode cX3_isLike 13 = .ok (.iconst (-1), 1) := by decide +kernel
theorem dX3_isLike_14 : decode cX3_isLike 14 = .ok (.if_icmp .eq 17, 3) := by decide +kernel
theorem dX3_isLike_17 : decode cX3_isLike 17 = .ok (.aload_n 2, 1) := by decide +kernel
theorem dX3_isLike_18 : decode cX3_isLike 18 = .ok (.iload_n 3, 1) := by decide +kernel
theorem dX3_isLike_19 : decode cX3_isLike 19 = .ok (.iaload, 1) := by decide +kernel
theorem dX3_isLike_20 : decode cX3_isLike 20 = .ok (.aload_n 0, 1) := by decide +kernel
theorem dX3_isLike_21 : decode cX3_isLike 21 = .ok (.iload_n 1, 1) := by decide +kernel
theorem dX3_isLike_22 : decode cX3_isLike 22 = .ok (.iload_n 3, 1) := by decide +kernel
theorem dX3_isLike_23 : decode cX3_isLike 23 = .ok (.invokevirtual 40, 3) := by decide +kernel
theorem dX3_isLike_26 : decode cX3_isLike 26 = .ok (.if_icmp .eq 5, 3) := by decide +kernel
theorem dX3_isLike_29 : decode cX3_isLike 29 = .ok (.iconst 0, 1) := by decide +kernel
theorem dX3_isLike_30 : decode cX3_isLike 30 = .ok (.ireturn, 1) := by decide +kernel
theorem dX3_isLike_31 : decode cX3_isLike 31 = .ok (.iinc 3 1, 3) := by decide +kernel
theorem dX3_isLike_34 : decode cX3_isLike 34 = .ok (.goto (-32), 3) := by decide +kernel
theorem dX3_isLike_37 : decode cX3_isLike 37 = .ok (.iconst 1, 1) := by decide +kernel
theorem dX3_isLike_38 : decode cX3_isLike 38 = .ok (.ireturn, 1) := by decide +kernel
theorem dX3_countLike_0 : decode cX3_countLike 0 = .ok (.iconst 0, 1) := by decide +kernel
theorem dX3_countLike_1 : decode cX3_countLike 1 = .ok (.istore_n 2, 1) := by decide +kernel
theorem dX3_countLike_2 : decode cX3_countLike 2 = .ok (.iconst 0, 1) := by decide +kernel
theorem dX3_countLike_3 : decode cX3_countLike 3 = .ok (.istore_n 3, 1) := by decide +kernel
theorem dX3_countLike_4 : decode cX3_countLike 4 = .ok (.iload_n 3, 1) := by decide +kernel
theorem dX3_countLike_5 : decode cX3_countLike 5 = .ok (.aload_n 0, 1) := by decide +kernel
theorem dX3_countLike_6 : decode cX3_countLike 6 = .ok (.getfield 22, 3) := by decide +kernel
theorem dX3_countLike_9 : decode cX3_countLike 9 = .ok (.if_icmp .ge 26, 3) := by decide +kernel
theorem dX3_countLike_12 : decode cX3_countLike 12 = .ok (.aload_n 0, 1) := by decide +kernel
theorem dX3_countLike_13 : decode cX3_countLike 13 = .ok (.aload_n 0, 1) := by decide +kernel
theorem dX3_countLike_14 : decode cX3_countLike 14 = .ok (.getfield 9, 3) := by decide +kernel
theorem dX3_countLike_17 : decode cX3_countLike 17 = .ok (.iload_n 3, 1) := by decide +kernel
theorem dX3_countLike_18 : decode cX3_countLike 18 = .ok (.iaload, 1) := by decide +kernel
theorem dX3_countLike_19 : decode cX3_countLike 19 = .ok (.aload_n 1, 1) := by decide +kernel
theorem dX3_countLike_20 : decode cX3_countLike 20 = .ok (.invokevirtual 44, 3) := by decide +kernel
theorem dX3_countLike_23 : decode cX3_countLike 23 = .ok (.ifCond .eq 6, 3) := by decide +kernel
theorem dX3_countLike_26 : decode cX3_countLike 26 = .ok (.iinc 2 1, 3) := by decide +kernel
theorem dX3_countLike_29 : decode cX3_countLike 29 = .ok (.iinc 3 1, 3) := by decide +kernel
theorem dX3_countLike_32 : decode cX3_countLike 32 = .ok (.goto (-28), 3) := by decide +kernel
theorem dX3_countLike_35 : decode cX3_countLike 35 = .ok (.iload_n 2, 1) := by decide +kernel
theorem dX3_countLike_36 : decode cX3_countLike 36 = .ok (.ireturn, 1) := by decide +kernel
theorem dX3_firstLike_0 : decode cX3_firstLike 0 = .ok (.iconst 0, 1) := by decide +kernel
theorem dX3_firstLike_1 : decode cX3_firstLike 1 = .ok (.istore_n 2, 1) := by decide +kernel
theorem dX3_firstLike_2 : decode cX3_firstLike 2 = .ok (.iload_n 2, 1) := by decide +kernel
theorem dX3_firstLike_3 : decode cX3_firstLike 3 = .ok (.aload_n 0, 1) := by decide +kernel
theorem dX3_firstLike_4 : decode cX3_firstLike 4 = .ok (.getfield 22, 3) := by decide +kernel
theorem dX3_firstLike_7 : decode cX3_firstLike 7 = .ok (.if_icmp .ge 30, 3) := by decide +kernel
theorem dX3_firstLike_10 : decode cX3_firstLike 10 = .ok (.aload_n 0, 1) := by decide +kernel
theorem dX3_firstLike_11 : decode cX3_firstLike 11 = .ok (.aload_n 0, 1) := by decide +kernel
theorem dX3_firstLike_12 : decode cX3_firstLike 12 = .ok (.getfield 9, 3) := by decide +kernel
theorem dX3_firstLike_15 : decode cX3_firstLike 15 = .ok (.iload_n 2, 1) := by decide +kernel
theorem dX3_firstLike_16 : decode cX3_firstLike 16 = .ok (.iaload, 1) := by decide +kernel
theorem dX3_firstLike_17 : decode cX3_firstLike 17 = .ok (.aload_n 1, 1) := by decide +kernel
theorem dX3_firstLike_18 : decode cX3_firstLike 18 = .ok (.invokevirtual 44, 3) := by decide +kernel
theorem dX3_firstLike_21 : decode cX3_firstLike 21 = .ok (.ifCond .eq 10, 3) := by decide +kernel
theorem dX3_firstLike_24 : decode cX3_firstLike 24 = .ok (.aload_n 0, 1) := by decide +kernel
theorem dX3_firstLike_25 : decode cX3_firstLike 25 = .ok (.getfield 9, 3) := by decide +kernel
theorem dX3_firstLike_28 : decode cX3_firstLike 28 = .ok (.iload_n 2, 1) := by decide +kernel
theorem dX3_firstLike_29 : decode cX3_firstLike 29 = .ok (.iaload, 1) := by decide +kernel
theorem dX3_firstLike_30 : decode cX3_firstLike 30 = .ok (.ireturn, 1) := by decide +kernel
theorem dX3_firstLike_31 : decode cX3_firstLike 31 = .ok (.iinc 2 1, 3) := by decide +kernel
theorem dX3_firstLike_34 : decode cX3_firstLike 34 = .ok (.goto (-32), 3) := by decide +kernel
theorem dX3_firstLike_37 : decode cX3_firstLike 37 = .ok (.bipush (-9), 2) := by decide +kernel
theorem dX3_firstLike_39 : decode cX3_firstLike 39 = .ok (.ireturn, 1) := by decide +kernel
theorem dX3_firstBehind_0 : decode cX3_firstBehind 0 = .ok (.aload_n 0, 1) := by decide +kernel
theorem dX3_firstBehind_1 : decode cX3_firstBehind 1 = .ok (.aload_n 1, 1) := by decide +kernel
theorem dX3_firstBehind_2 : decode cX3_firstBehind 2 = .ok (.invokevirtual 36, 3) := by decide +kernel
theorem dX3_firstBehind_5 : decode cX3_firstBehind 5 = .ok (.istore_n 2, 1) := by decide +kernel
theorem dX3_firstBehind_6 : decode cX3_firstBehind 6 = .ok (.iconst 0, 1) := by decide +kernel
theorem dX3_firstBehind_7 : decode cX3_firstBehind 7 = .ok (.istore_n 3, 1) := by decide +kernel
theorem dX3_firstBehind_8 : decode cX3_firstBehind 8 = .ok (.iload_n 3, 1) := by decide +kernel
theorem dX3_firstBehind_9 : decode cX3_firstBehind 9 = .ok (.aload_n 0, 1) := by decide +kernel
theorem dX3_firstBehind_10 : decode cX3_firstBehind 10 = .ok (.getfield 22, 3) := by decide +kernel
theorem dX3_firstBehind_13 : decode cX3_firstBehind 13 = .ok (.if_icmp .ge 26, 3) := by decide +kernel
theorem dX3_firstBehind_16 : decode cX3_firstBehind 16 = .ok (.aload_n 0, 1) := by decide +kernel
theorem dX3_firstBehind_17 : decode cX3_firstBehind 17 = .ok (.getfield 9, 3) := by decide +kernel
theorem dX3_firstBehind_20 : decode cX3_firstBehind 20 = .ok (.iload_n 3, 1) := by decide +kernel
theorem dX3_firstBehind_21 : decode cX3_firstBehind 21 = .ok (.iaload, 1) := by decide +kernel
theorem dX3_firstBehind_22 : decode cX3_firstBehind 22 = .ok (.iload_n 2, 1) := by decide +kernel
theorem dX3_firstBehind_23 : decode cX3_firstBehind 23 = .ok (.if_icmp .le 10, 3) := by decide +kernel
theorem dX3_firstBehind_26 : decode cX3_firstBehind 26 = .ok (.aload_n 0, 1) := by decide +kernel
theorem dX3_firstBehind_27 : decode cX3_firstBehind 27 = .ok (.getfield 9, 3) := by decide +kernel
theorem dX3_firstBehind_30 : decode cX3_firstBehind 30 = .ok (.iload_n 3, 1) := by decide +kernel
theorem dX3_firstBehind_31 : decode cX3_firstBehind 31 = .ok (.iaload, 1) := by decide +kernel
theorem dX3_firstBehind_32 : decode cX3_firstBehind 32 = .ok (.ireturn, 1) := by decide +kernel
theorem dX3_firstBehind_33 : decode cX3_firstBehind 33 = .ok (.iinc 3 1, 3) := by decide +kernel
theorem dX3_firstBehind_36 : decode cX3_firstBehind 36 = .ok (.goto (-28), 3) := by decide +kernel
theorem dX3_firstBehind_39 : decode cX3_firstBehind 39 = .ok (.bipush (-9), 2) := by decide +kernel
theorem dX3_firstBehind_41 : decode cX3_firstBehind 41 = .ok (.ireturn, 1) := by decide +kernel
theorem dX4_init_0 : decode cX4_init 0 = .ok (.aload_n 0, 1) := by decide +kernel
theorem dX4_init_1 : decode cX4_init 1 = .ok (.invokespecial 1, 3) := by decide +kernel
theorem dX4_init_4 : decode cX4_init 4 = .ok (.return_, 1) := by decide +kernel
theorem dX4_takeBack_0 : decode cX4_takeBack 0 = .ok (.iload_n 1, 1) := by decide +kernel
theorem dX4_takeBack_1 : decode cX4_takeBack 1 = .ok (.iconst 0, 1) := by decide +kernel
theorem dX4_takeBack_2 : decode cX4_takeBack 2 = .ok (.aload_n 0, 1) := by decide +kernel
theorem dX4_takeBack_3 : decode cX4_takeBack 3 = .ok (.getfield 7, 3) := by decide +kernel
theorem dX4_takeBack_6 : decode cX4_takeBack 6 = .ok (.invokestatic 13, 3) := by decide +kernel
theorem dX4_takeBack_9 : decode cX4_takeBack 9 = .ok (.ifCond .ne 5, 3) := by decide +kernel
theorem dX4_takeBack_12 : decode cX4_takeBack 12 = .ok (.iconst 0, 1) := by decide +kernel
theorem dX4_takeBack_13 : decode cX4_takeBack 13 = .ok (.ireturn, 1) := by decide +kernel
theorem dX4_takeBack_14 : decode cX4_takeBack 14 = .ok (.aload_n 0, 1) := by decide +kernel
theorem dX4_takeBack_15 : decode cX4_takeBack 15 = .ok (.dup, 1) := by decide +kernel
theorem dX4_takeBack_16 : decode cX4_takeBack 16 = .ok (.getfield 7, 3) := by decide +kernel
theorem dX4_takeBack_19 : decode cX4_takeBack 19 = .ok (.iload_n 1, 1) := by decide +kernel
theorem dX4_takeBack_20 : decode cX4_takeBack 20 = .ok (.isub, 1) := by decide +kernel
theorem dX4_takeBack_21 : decode cX4_takeBack 21 = .ok (.putfield 7, 3) := by decide +kernel
theorem dX4_takeBack_24 : decode cX4_takeBack 24 = .ok (.iconst 1, 1) := by decide +kernel
theorem dX4_takeBack_25 : decode cX4_takeBack 25 = .ok (.ireturn, 1) := by decide +kernel
theorem dX5_init_0 : decode cX5_init 0 = .ok (.aload_n 0, 1) := by decide +kernel
theorem dX5_init_1 : decode cX5_init 1 = .ok (.invokespecial 3, 3) := by decide +kernel
theorem dX5_init_4 : decode cX5_init 4 = .ok (.aload_n 0, 1) := by decide +kernel
theorem dX5_init_5 : decode cX5_init 5 = .ok (.bipush 8, 2) := by decide +kernel
theorem dX5_init_7 : decode cX5_init 7 = .ok (.newarray .int, 2) := by decide +kernel
theorem dX5_init_9 : decode cX5_init 9 = .ok (.putfield 9, 3) := by decide +kernel
theorem dX5_init_12 : decode cX5_init 12 = .ok (.aload_n 0, 1) := by decide +kernel
theorem dX5_init_13 : decode cX5_init 13 = .ok (.bipush 8, 2) := by decide +kernel
theorem dX5_init_15 : decode cX5_init 15 = .ok (.newarray .int, 2) := by decide +kernel
theorem dX5_init_17 : decode cX5_init 17 = .ok (.putfield 15, 3) := by decide +kernel
theorem dX5_init_20 : decode cX5_init 20 = .ok (.aload_n 0, 1) := by decide +kernel
theorem dX5_init_21 : decode cX5_init 21 = .ok (.bipush 8, 2) := by decide +kernel
theorem dX5_init_23 : decode cX5_init 23 = .ok (.newarray .int, 2) := by decide +kernel
theorem dX5_init_25 : decode cX5_init 25 = .ok (.putfield 18, 3) := by decide +kernel
theorem dX5_init_28 : decode cX5_init 28 = .ok (.aload_n 0, 1) := by decide +kernel
theorem dX5_init_29 : decode cX5_init 29 = .ok (.bipush 8, 2) := by decide +kernel
theorem dX5_init_31 : decode cX5_init 31 = .ok (.newarray .int, 2) := by decide +kernel
theorem dX5_init_33 : decode cX5_init 33 = .ok (.putfield 21, 3) := by decide +kernel
theorem dX5_init_36 : decode cX5_init 36 = .ok (.aload_n 0, 1) := by decide +kernel
theorem dX5_init_37 : decode cX5_init 37 = .ok (.bipush 8, 2) := by decide +kernel
theorem dX5_init_39 : decode cX5_init 39 = .ok (.newarray .int, 2) := by decide +kernel
theorem dX5_init_41 : decode cX5_init 41 = .ok (.putfield 24, 3) := by decide +kernel
theorem dX5_init_44 : decode cX5_init 44 = .ok (.return_, 1) := by decide +kernel
theorem dX5_add_0 : decode cX5_add 0 = .ok (.aload_n 0, 1) := by decide +kernel
theorem dX5_add_1 : decode cX5_add 1 = .ok (.getfield 27, 3) := by decide +kernel
theorem dX5_add_4 : decode cX5_add 4 = .ok (.bipush 8, 2) := by decide +kernel
theorem dX5_add_6 : decode cX5_add 6 = .ok (.if_icmp .lt 5, 3) := by decide +kernel
theorem dX5_add_9 : decode cX5_add 9 = .ok (.iconst 0, 1) := by decide +kernel
theorem dX5_add_10 : decode cX5_add 10 = .ok (.ireturn, 1) := by decide +kernel
theorem dX5_add_11 : decode cX5_add 11 = .ok (.aload_n 0, 1) := by decide +kernel
theorem dX5_add_12 : decode cX5_add 12 = .ok (.getfield 9, 3) := by decide +kernel
theorem dX5_add_15 : decode cX5_add 15 = .ok (.aload_n 0, 1) := by decide +kernel
theorem dX5_add_16 : decode cX5_add 16 = .ok (.getfield 27, 3) := by decide +kernel
theorem dX5_add_19 : decode cX5_add 19 = .ok (.iload_n 1, 1) := by decide +kernel
theorem dX5_add_20 : decode cX5_add 20 = .ok (.iastore, 1) := by decide +kernel
theorem dX5_add_21 : decode cX5_add 21 = .ok (.aload_n 0, 1) := by decide +kernel
theorem dX5_add_22 : decode cX5_add 22 = .ok (.getfield 15, 3) := by decide +kernel
theorem dX5_add_25 : decode cX5_add 25 = .ok (.aload_n 0, 1) := by decide +kernel
theorem dX5_add_26 : decode cX5_add 26 = .ok (.getfield 27, 3) := by decide +kernel
theorem dX5_add_29 : decode cX5_add 29 = .ok (.iload_n 2, 1) := by decide +kernel
theorem dX5_add_30 : decode cX5_add 30 = .ok (.iastore, 1) := by decide +kernel
theorem dX5_add_31 : decode cX5_add 31 = .ok (.aload_n 0, 1) := by decide +kernel
theorem dX5_add_32 : decode cX5_add 32 = .ok (.getfield 18, 3) := by decide +kernel
theorem dX5_add_35 : decode cX5_add 35 = .ok (.aload_n 0, 1) := by decide +kernel
theorem dX5_add_36 : decode cX5_add 36 = .ok (.getfield 27, 3) := by decide +kernel
theorem dX5_add_39 : decode cX5_add 39 = .ok (.iload_n 3, 1) := by decide +kernel
theorem dX5_add_40 : decode cX5_add 40 = .ok (.iastore, 1) := by decide +kernel
theorem dX5_add_41 : decode cX5_add 41 = .ok (.aload_n 0, 1) := by decide +kernel
theorem dX5_add_42 : decode cX5_add 42 = .ok (.getfield 21, 3) := by decide +kernel
theorem dX5_add_45 : decode cX5_add 45 = .ok (.aload_n 0, 1) := by decide +kernel
theorem dX5_add_46 : decode cX5_add 46 = .ok (.getfield 27, 3) := by decide +kernel
theorem dX5_add_49 : decode cX5_add 49 = .ok (.iload 4, 2) := by decide +kernel
theorem dX5_add_51 : decode cX5_add 51 = .ok (.iastore, 1) := by decide +kernel
theorem dX5_add_52 : decode cX5_add 52 = .ok (.aload_n 0, 1) := by decide +kernel
theorem dX5_add_53 : decode cX5_add 53 = .ok (.getfield 24, 3) := by decide +kernel
theorem dX5_add_56 : decode cX5_add 56 = .ok (.aload_n 0, 1) := by decide +kernel
theorem dX5_add_57 : decode cX5_add 57 = .ok (.getfield 27, 3) := by decide +kernel
theorem dX5_add_60 : decode cX5_add 60 = .ok (.iload 5, 2) := by decide +kernel
theorem dX5_add_62 : decode cX5_add 62 = .ok (.iastore, 1) := by decide +kernel
theorem dX5_add_63 : decode cX5_add 63 = .ok (.aload_n 0, 1) := by decide +kernel
theorem dX5_add_64 : decode cX5_add 64 = .ok (.dup, 1) := by decide +kernel
theorem dX5_add_65 : decode cX5_add 65 = .ok (.getfield 27, 3) := by decide +kernel
theorem dX5_add_68 : decode cX5_add 68 = .ok (.iconst 1, 1) := by decide +kernel
theorem dX5_add_69 : decode cX5_add 69 = .ok (.iadd, 1) := by decide +kernel
theorem dX5_add_70 : decode cX5_add 70 = .ok (.putfield 27, 3) := by decide +kernel
theorem dX5_add_73 : decode cX5_add 73 = .ok (.iconst 1, 1) := by decide +kernel
theorem dX5_add_74 : decode cX5_add 74 = .ok (.ireturn, 1) := by decide +kernel
theorem dX5_areSo_0 : decode cX5_areSo 0 = .ok (.iconst 0, 1) := by decide +kernel
theorem dX5_areSo_1 : decode cX5_areSo 1 = .ok (.istore_n 2, 1) := by decide +kernel
theorem dX5_areSo_2 : decode cX5_areSo 2 = .ok (.iload_n 2, 1) := by decide +kernel
theorem dX5_areSo_3 : decode cX5_areSo 3 = .ok (.aload_n 0, 1) := by decide +kernel
theorem dX5_areSo_4 : decode cX5_areSo 4 = .ok (.getfield 27, 3) := by decide +kernel
theorem dX5_areSo_7 : decode cX5_areSo 7 = .ok (.if_icmp .ge 48, 3) := by decide +kernel
theorem dX5_areSo_10 : decode cX5_areSo 10 = .ok (.aload_n 1, 1) := by decide +kernel
theorem dX5_areSo_11 : decode cX5_areSo 11 = .ok (.aload_n 0, 1) := by decide +kernel
theorem dX5_areSo_12 : decode cX5_areSo 12 = .ok (.getfield 9, 3) := by decide +kernel
theorem dX5_areSo_15 : decode cX5_areSo 15 = .ok (.iload_n 2, 1) := by decide +kernel
theorem dX5_areSo_16 : decode cX5_areSo 16 = .ok (.iaload, 1) := by decide +kernel
theorem dX5_areSo_17 : decode cX5_areSo 17 = .ok (.aload_n 0, 1) := by decide +kernel
theorem dX5_areSo_18 : decode cX5_areSo 18 = .ok (.getfield 15, 3) := by decide +kernel
theorem dX5_areSo_21 : decode cX5_areSo 21 = .ok (.iload_n 2, 1) := by decide +kernel
theorem dX5_areSo_22 : decode cX5_areSo 22 = .ok (.iaload, 1) := by decide +kernel
theorem dX5_areSo_23 : decode cX5_areSo 23 = .ok (.aload_n 0, 1) := by decide +kernel
theorem dX5_areSo_24 : decode cX5_areSo 24 = .ok (.getfield 18, 3) := by decide +kernel
theorem dX5_areSo_27 : decode cX5_areSo 27 = .ok (.iload_n 2, 1) := by decide +kernel
theorem dX5_areSo_28 : decode cX5_areSo 28 = .ok (.iaload, 1) := by decide +kernel
theorem dX5_areSo_29 : decode cX5_areSo 29 = .ok (.aload_n 0, 1) := by decide +kernel
theorem dX5_areSo_30 : decode cX5_areSo 30 = .ok (.getfield 21, 3) := by decide +kernel
theorem dX5_areSo_33 : decode cX5_areSo 33 = .ok (.iload_n 2, 1) := by decide +kernel
theorem dX5_areSo_34 : decode cX5_areSo 34 = .ok (.iaload, 1) := by decide +kernel
theorem dX5_areSo_35 : decode cX5_areSo 35 = .ok (.invokevirtual 31, 3) := by decide +kernel
theorem dX5_areSo_38 : decode cX5_areSo 38 = .ok (.aload_n 0, 1) := by decide +kernel
theorem dX5_areSo_39 : decode cX5_areSo 39 = .ok (.getfield 24, 3) := by decide +kernel
theorem dX5_areSo_42 : decode cX5_areSo 42 = .ok (.iload_n 2, 1) := by decide +kernel
theorem dX5_areSo_43 : decode cX5_areSo 43 = .ok (.iaload, 1) := by decide +kernel
theorem dX5_areSo_44 : decode cX5_areSo 44 = .ok (.if_icmp .eq 5, 3) := by decide +kernel
theorem dX5_areSo_47 : decode cX5_areSo 47 = .ok (.iconst 0, 1) := by decide +kernel
theorem dX5_areSo_48 : decode cX5_areSo 48 = .ok (.ireturn, 1) := by decide +kernel
theorem dX5_areSo_49 : decode cX5_areSo 49 = .ok (.iinc 2 1, 3) := by decide +kernel
theorem dX5_areSo_52 : decode cX5_areSo 52 = .ok (.goto (-50), 3) := by decide +kernel
theorem dX5_areSo_55 : decode cX5_areSo 55 = .ok (.iconst 1, 1) := by decide +kernel
theorem dX5_areSo_56 : decode cX5_areSo 56 = .ok (.ireturn, 1) := by decide +kernel
theorem dX6_init_0 : decode cX6_init 0 = .ok (.aload_n 0, 1) := by decide +kernel
theorem dX6_init_1 : decode cX6_init 1 = .ok (.invokespecial 3, 3) := by decide +kernel
theorem dX6_init_4 : decode cX6_init 4 = .ok (.aload_n 0, 1) := by decide +kernel
theorem dX6_init_5 : decode cX6_init 5 = .ok (.bipush 60, 2) := by decide +kernel
theorem dX6_init_7 : decode cX6_init 7 = .ok (.newarray .int, 2) := by decide +kernel
theorem dX6_init_9 : decode cX6_init 9 = .ok (.putfield 9, 3) := by decide +kernel
theorem dX6_init_12 : decode cX6_init 12 = .ok (.return_, 1) := by decide +kernel
theorem dX6_begin_0 : decode cX6_begin 0 = .ok (.aload_n 0, 1) := by decide +kernel
theorem dX6_begin_1 : decode cX6_begin 1 = .ok (.iconst 1, 1) := by decide +kernel
theorem dX6_begin_2 : decode cX6_begin 2 = .ok (.putfield 15, 3) := by decide +kernel
theorem dX6_begin_5 : decode cX6_begin 5 = .ok (.aload_n 0, 1) := by decide +kernel
theorem dX6_begin_6 : decode cX6_begin 6 = .ok (.iload_n 1, 1) := by decide +kernel
theorem dX6_begin_7 : decode cX6_begin 7 = .ok (.putfield 19, 3) := by decide +kernel
theorem dX6_begin_10 : decode cX6_begin 10 = .ok (.aload_n 0, 1) := by decide +kernel
theorem dX6_begin_11 : decode cX6_begin 11 = .ok (.iload_n 2, 1) := by decide +kernel
theorem dX6_begin_12 : decode cX6_begin 12 = .ok (.putfield 23, 3) := by decide +kernel
theorem dX6_begin_15 : decode cX6_begin 15 = .ok (.aload_n 0, 1) := by decide +kernel
theorem dX6_begin_16 : decode cX6_begin 16 = .ok (.getfield 9, 3) := by decide +kernel
theorem dX6_begin_19 : decode cX6_begin 19 = .ok (.iconst 0, 1) := by decide +kernel
theorem dX6_begin_20 : decode cX6_begin 20 = .ok (.invokestatic 26, 3) := by decide +kernel
theorem dX6_begin_23 : decode cX6_begin 23 = .ok (.return_, 1) := by decide +kernel
theorem dX6_holds_0 : decode cX6_holds 0 = .ok (.iload_n 2, 1) := by decide +kernel
theorem dX6_holds_1 : decode cX6_holds 1 = .ok (.ifCond .lt 29, 3) := by decide +kernel
theorem dX6_holds_4 : decode cX6_holds 4 = .ok (.iload_n 2, 1) := by decide +kernel
theorem dX6_holds_5 : decode cX6_holds 5 = .ok (.aload_n 0, 1) := by decide +kernel
theorem dX6_holds_6 : decode cX6_holds 6 = .ok (.getfield 23, 3) := by decide +kernel
theorem dX6_holds_9 : decode cX6_holds 9 = .ok (.if_icmp .gt 21, 3) := by decide +kernel
theorem dX6_holds_12 : decode cX6_holds 12 = .ok (.iload_n 1, 1) := by decide +kernel
theorem dX6_holds_13 : decode cX6_holds 13 = .ok (.ifCond .lt 17, 3) := by decide +kernel
theorem dX6_holds_16 : decode cX6_holds 16 = .ok (.iload_n 1, 1) := by decide +kernel
theorem dX6_holds_17 : decode cX6_holds 17 = .ok (.aload_n 0, 1) := by decide +kernel
theorem dX6_holds_18 : decode cX6_holds 18 = .ok (.getfield 23, 3) := by decide +kernel
theorem dX6_holds_21 : decode cX6_holds 21 = .ok (.iload_n 2, 1) := by decide +kernel
theorem dX6_holds_22 : decode cX6_holds 22 = .ok (.isub, 1) := by decide +kernel
theorem dX6_holds_23 : decode cX6_holds 23 = .ok (.if_icmp .gt 7, 3) := by decide +kernel
theorem dX6_holds_26 : decode cX6_holds 26 = .ok (.iconst 1, 1) := by decide +kernel
theorem dX6_holds_27 : decode cX6_holds 27 = .ok (.goto 4, 3) := by decide +kernel
theorem dX6_holds_30 : decode cX6_holds 30 = .ok (.iconst 0, 1) := by decide +kernel
theorem dX6_holds_31 : decode cX6_holds 31 = .ok (.ireturn, 1) := by decide +kernel
theorem dX6_faultAs_0 : decode cX6_faultAs 0 = .ok (.aload_n 0, 1) := by decide +kernel
theorem dX6_faultAs_1 : decode cX6_faultAs 1 = .ok (.getfield 15, 3) := by decide +kernel
theorem dX6_faultAs_4 : decode cX6_faultAs 4 = .ok (.ifCond .ne 5, 3) := by decide +kernel
theorem dX6_faultAs_7 : decode cX6_faultAs 7 = .ok (.iconst 1, 1) := by decide +kernel
theorem dX6_faultAs_8 : decode cX6_faultAs 8 = .ok (.ireturn, 1) := by decide +kernel
theorem dX6_faultAs_9 : decode cX6_faultAs 9 = .ok (.aload_n 0, 1) := by decide +kernel
theorem dX6_faultAs_10 : decode cX6_faultAs 10 = .ok (.getfield 19, 3) := by decide +kernel
theorem dX6_faultAs_13 : decode cX6_faultAs 13 = .ok (.iload_n 1, 1) := by decide +kernel
theorem dX6_faultAs_14 : decode cX6_faultAs 14 = .ok (.if_icmp .eq 5, 3) := by decide +kernel
theorem dX6_faultAs_17 : decode cX6_faultAs 17 = .ok (.iconst 2, 1) := by decide +kernel
theorem dX6_faultAs_18 : decode cX6_faultAs 18 = .ok (.ireturn, 1) := by decide +kernel
theorem dX6_faultAs_19 : decode cX6_faultAs 19 = .ok (.iload_n 3, 1) := by decide +kernel
theorem dX6_faultAs_20 : decode cX6_faultAs 20 = .ok (.ifCond .ge 5, 3) := by decide +kernel
theorem dX6_faultAs_23 : decode cX6_faultAs 23 = .ok (.iconst 4, 1) := by decide +kernel
theorem dX6_faultAs_24 : decode cX6_faultAs 24 = .ok (.ireturn, 1) := by decide +kernel
theorem dX6_faultAs_25 : decode cX6_faultAs 25 = .ok (.aload_n 0, 1) := by decide +kernel
theorem dX6_faultAs_26 : decode cX6_faultAs 26 = .ok (.iload_n 2, 1) := by decide +kernel
theorem dX6_faultAs_27 : decode cX6_faultAs 27 = .ok (.iload_n 3, 1) := by decide +kernel
theorem dX6_faultAs_28 : decode cX6_faultAs 28 = .ok (.invokevirtual 32, 3) := by decide +kernel
theorem dX6_faultAs_31 : decode cX6_faultAs 31 = .ok (.ifCond .eq 7, 3) := by decide +kernel
theorem dX6_faultAs_34 : decode cX6_faultAs 34 = .ok (.iconst 0, 1) := by decide +kernel
theorem dX6_faultAs_35 : decode cX6_faultAs 35 = .ok (.goto 4, 3) := by decide +kernel
theorem dX6_faultAs_38 : decode cX6_faultAs 38 = .ok (.iconst 3, 1) := by decide +kernel
theorem dX6_faultAs_39 : decode cX6_faultAs 39 = .ok (.ireturn, 1) := by decide +kernel
theorem dX6_write_0 : decode cX6_write 0 = .ok (.aload_n 0, 1) := by decide +kernel
theorem dX6_write_1 : decode cX6_write 1 = .ok (.getfield 19, 3) := by decide +kernel
theorem dX6_write_4 : decode cX6_write 4 = .ok (.ifCond .ne 14, 3) := by decide +kernel
theorem dX6_write_7 : decode cX6_write 7 = .ok (.aload_n 0, 1) := by decide +kernel
theorem dX6_write_8 : decode cX6_write 8 = .ok (.getfield 9, 3) := by decide +kernel
theorem dX6_write_11 : decode cX6_write 11 = .ok (.iload_n 1, 1) := by decide +kernel
theorem dX6_write_12 : decode cX6_write 12 = .ok (.iload_n 2, 1) := by decide +kernel
theorem dX6_write_13 : decode cX6_write 13 = .ok (.i2b, 1) := by decide +kernel
theorem dX6_write_14 : decode cX6_write 14 = .ok (.iastore, 1) := by decide +kernel
theorem dX6_write_15 : decode cX6_write 15 = .ok (.goto 29, 3) := by decide +kernel
theorem dX6_write_18 : decode cX6_write 18 = .ok (.aload_n 0, 1) := by decide +kernel
theorem dX6_write_19 : decode cX6_write 19 = .ok (.getfield 19, 3) := by decide +kernel
theorem dX6_write_22 : decode cX6_write 22 = .ok (.iconst 1, 1) := by decide +kernel
theorem dX6_write_23 : decode cX6_write 23 = .ok (.if_icmp .ne 14, 3) := by decide +kernel
theorem dX6_write_26 : decode cX6_write 26 = .ok (.aload_n 0, 1) := by decide +kernel
theorem dX6_write_27 : decode cX6_write 27 = .ok (.getfield 9, 3) := by decide +kernel
theorem dX6_write_30 : decode cX6_write 30 = .ok (.iload_n 1, 1) := by decide +kernel
theorem dX6_write_31 : decode cX6_write 31 = .ok (.iload_n 2, 1) := by decide +kernel
theorem dX6_write_32 : decode cX6_write 32 = .ok (.i2s, 1) := by decide +kernel
theorem dX6_write_33 : decode cX6_write 33 = .ok (.iastore, 1) := by decide +kernel
theorem dX6_write_34 : decode cX6_write 34 = .ok (.goto 10, 3) := by decide +kernel
theorem dX6_write_37 : decode cX6_write 37 = .ok (.aload_n 0, 1) := by decide +kernel
theorem dX6_write_38 : decode cX6_write 38 = .ok (.getfield 9, 3) := by decide +kernel
theorem dX6_write_41 : decode cX6_write 41 = .ok (.iload_n 1, 1) := by decide +kernel
theorem dX6_write_42 : decode cX6_write 42 = .ok (.iload_n 2, 1) := by decide +kernel
theorem dX6_write_43 : decode cX6_write 43 = .ok (.iastore, 1) := by decide +kernel
theorem dX6_write_44 : decode cX6_write 44 = .ok (.return_, 1) := by decide +kernel
theorem dX7_init_0 : decode cX7_init 0 = .ok (.aload_n 0, 1) := by decide +kernel
theorem dX7_init_1 : decode cX7_init 1 = .ok (.invokespecial 3, 3) := by decide +kernel
theorem dX7_init_4 : decode cX7_init 4 = .ok (.return_, 1) := by decide +kernel
theorem dX7_readUpTo_0 : decode cX7_readUpTo 0 = .ok (.aload_n 0, 1) := by decide +kernel
theorem dX7_readUpTo_1 : decode cX7_readUpTo 1 = .ok (.iconst 0, 1) := by decide +kernel
theorem dX7_readUpTo_2 : decode cX7_readUpTo 2 = .ok (.putfield 9, 3) := by decide +kernel
theorem dX7_readUpTo_5 : decode cX7_readUpTo 5 = .ok (.aload_n 0, 1) := by decide +kernel
theorem dX7_readUpTo_6 : decode cX7_readUpTo 6 = .ok (.iconst 0, 1) := by decide +kernel
theorem dX7_readUpTo_7 : decode cX7_readUpTo 7 = .ok (.putfield 15, 3) := by decide +kernel
theorem dX7_readUpTo_10 : decode cX7_readUpTo 10 = .ok (.aload_n 0, 1) := by decide +kernel
theorem dX7_readUpTo_11 : decode cX7_readUpTo 11 = .ok (.iconst 0, 1) := by decide +kernel
theorem dX7_readUpTo_12 : decode cX7_readUpTo 12 = .ok (.putfield 18, 3) := by decide +kernel
theorem dX7_readUpTo_15 : decode cX7_readUpTo 15 = .ok (.aload_n 0, 1) := by decide +kernel
theorem dX7_readUpTo_16 : decode cX7_readUpTo 16 = .ok (.iconst 0, 1) := by decide +kernel
theorem dX7_readUpTo_17 : decode cX7_readUpTo 17 = .ok (.putfield 21, 3) := by decide +kernel
theorem dX7_readUpTo_20 : decode cX7_readUpTo 20 = .ok (.iconst 0, 1) := by decide +kernel
theorem dX7_readUpTo_21 : decode cX7_readUpTo 21 = .ok (.istore 4, 2) := by decide +kernel
theorem dX7_readUpTo_23 : decode cX7_readUpTo 23 = .ok (.iload 4, 2) := by decide +kernel
theorem dX7_readUpTo_25 : decode cX7_readUpTo 25 = .ok (.iload_n 3, 1) := by decide +kernel
theorem dX7_readUpTo_26 : decode cX7_readUpTo 26 = .ok (.if_icmp .ge 30, 3) := by decide +kernel
theorem dX7_readUpTo_29 : decode cX7_readUpTo 29 = .ok (.aload_n 0, 1) := by decide +kernel
theorem dX7_readUpTo_30 : decode cX7_readUpTo 30 = .ok (.iload 4, 2) := by decide +kernel
theorem dX7_readUpTo_32 : decode cX7_readUpTo 32 = .ok (.aload_n 1, 1) := by decide +kernel
theorem dX7_readUpTo_33 : decode cX7_readUpTo 33 = .ok (.getfield 25, 3) := by decide +kernel
theorem dX7_readUpTo_36 : decode cX7_readUpTo 36 = .ok (.iload_n 2, 1) := by decide +kernel
theorem dX7_readUpTo_37 : decode cX7_readUpTo 37 = .ok (.iload 4, 2) := by decide +kernel
theorem dX7_readUpTo_39 : decode cX7_readUpTo 39 = .ok (.iadd, 1) := by decide +kernel
theorem dX7_readUpTo_40 : decode cX7_readUpTo 40 = .ok (.iaload, 1) := by decide +kernel
theorem dX7_readUpTo_41 : decode cX7_readUpTo 41 = .ok (.invokevirtual 31, 3) := by decide +kernel
theorem dX7_readUpTo_44 : decode cX7_readUpTo 44 = .ok (.ifCond .ne 6, 3) := by decide +kernel
theorem dX7_readUpTo_47 : decode cX7_readUpTo 47 = .ok (.iload 4, 2) := by decide +kernel
theorem dX7_readUpTo_49 : decode cX7_readUpTo 49 = .ok (.ireturn, 1) := by decide +kernel
theorem dX7_readUpTo_50 : decode cX7_readUpTo 50 = .ok (.iinc 4 1, 3) := by decide +kernel
theorem dX7_readUpTo_53 : decode cX7_readUpTo 53 = .ok (.goto (-30), 3) := by decide +kernel
theorem dX7_readUpTo_56 : decode cX7_readUpTo 56 = .ok (.aload_n 0, 1) := by decide +kernel
theorem dX7_readUpTo_57 : decode cX7_readUpTo 57 = .ok (.aload_n 0, 1) := by decide +kernel
theorem dX7_readUpTo_58 : decode cX7_readUpTo 58 = .ok (.getfield 15, 3) := by decide +kernel
theorem dX7_readUpTo_61 : decode cX7_readUpTo 61 = .ok (.ifCond .le 14, 3) := by decide +kernel
theorem dX7_readUpTo_64 : decode cX7_readUpTo 64 = .ok (.aload_n 0, 1) := by decide +kernel
theorem dX7_readUpTo_65 : decode cX7_readUpTo 65 = .ok (.getfield 18, 3) := by decide +kernel
theorem dX7_readUpTo_68 : decode cX7_readUpTo 68 = .ok (.ifCond .ne 7, 3) := by decide +kernel
theorem dX7_readUpTo_71 : decode cX7_readUpTo 71 = .ok (.iconst 1, 1) := by decide +kernel
theorem dX7_readUpTo_72 : decode cX7_readUpTo 72 = .ok (.goto 4, 3) := by decide +kernel
theorem dX7_readUpTo_75 : decode cX7_readUpTo 75 = .ok (.iconst 0, 1) := by decide +kernel
theorem dX7_readUpTo_76 : decode cX7_readUpTo 76 = .ok (.putfield 21, 3) := by decide +kernel
theorem dX7_readUpTo_79 : decode cX7_readUpTo 79 = .ok (.iload_n 3, 1) := by decide +kernel
theorem dX7_readUpTo_80 : decode cX7_readUpTo 80 = .ok (.ireturn, 1) := by decide +kernel
theorem dX7_goesOn_0 : decode cX7_goesOn 0 = .ok (.iload_n 1, 1) := by decide +kernel
theorem dX7_goesOn_1 : decode cX7_goesOn 1 = .ok (.ifCond .ne 15, 3) := by decide +kernel
theorem dX7_goesOn_4 : decode cX7_goesOn 4 = .ok (.iload_n 2, 1) := by decide +kernel
theorem dX7_goesOn_5 : decode cX7_goesOn 5 = .ok (.bipush 99, 2) := by decide +kernel
theorem dX7_goesOn_7 : decode cX7_goesOn 7 = .ok (.if_icmp .ne 7, 3) := by decide +kernel
theorem dX7_goesOn_10 : decode cX7_goesOn 10 = .ok (.iconst 1, 1) := by decide +kernel
theorem dX7_goesOn_11 : decode cX7_goesOn 11 = .ok (.goto 4, 3) := by decide +kernel
theorem dX7_goesOn_14 : decode cX7_goesOn 14 = .ok (.iconst 0, 1) := by decide +kernel
theorem dX7_goesOn_15 : decode cX7_goesOn 15 = .ok (.ireturn, 1) := by decide +kernel
theorem dX7_goesOn_16 : decode cX7_goesOn 16 = .ok (.iload_n 1, 1) := by decide +kernel
theorem dX7_goesOn_17 : decode cX7_goesOn 17 = .ok (.iconst 1, 1) := by decide +kernel
theorem dX7_goesOn_18 : decode cX7_goesOn 18 = .ok (.if_icmp .ne 20, 3) := by decide +kernel
theorem dX7_goesOn_21 : decode cX7_goesOn 21 = .ok (.aload_n 0, 1) := by decide +kernel
theorem dX7_goesOn_22 : decode cX7_goesOn 22 = .ok (.iload_n 2, 1) := by decide +kernel
theorem dX7_goesOn_23 : decode cX7_goesOn 23 = .ok (.bipush 48, 2) := by decide +kernel
theorem dX7_goesOn_25 : decode cX7_goesOn 25 = .ok (.isub, 1) := by decide +kernel
theorem dX7_goesOn_26 : decode cX7_goesOn 26 = .ok (.putfield 9, 3) := by decide +kernel
theorem dX7_goesOn_29 : decode cX7_goesOn 29 = .ok (.iload_n 2, 1) := by decide +kernel
theorem dX7_goesOn_30 : decode cX7_goesOn 30 = .ok (.bipush 50, 2) := by decide +kernel
theorem dX7_goesOn_32 : decode cX7_goesOn 32 = .ok (.bipush 54, 2) := by decide +kernel
theorem dX7_goesOn_34 : decode cX7_goesOn 34 = .ok (.invokestatic 35, 3) := by decide +kernel
theorem dX7_goesOn_37 : decode cX7_goesOn 37 = .ok (.ireturn, 1) := by decide +kernel
theorem dX7_goesOn_38 : decode cX7_goesOn 38 = .ok (.aload_n 0, 1) := by decide +kernel
theorem dX7_goesOn_39 : decode cX7_goesOn 39 = .ok (.iload_n 2, 1) := by decide +kernel
theorem dX7_goesOn_40 : decode cX7_goesOn 40 = .ok (.invokevirtual 39, 3) := by decide +kernel
theorem dX7_goesOn_43 : decode cX7_goesOn 43 = .ok (.ifCond .ne 5, 3) := by decide +kernel
theorem dX7_goesOn_46 : decode cX7_goesOn 46 = .ok (.iconst 0, 1) := by decide +kernel
theorem dX7_goesOn_47 : decode cX7_goesOn 47 = .ok (.ireturn, 1) := by decide +kernel
theorem dX7_goesOn_48 : decode cX7_goesOn 48 = .ok (.aload_n 0, 1) := by decide +kernel
theorem dX7_goesOn_49 : decode cX7_goesOn 49 = .ok (.dup, 1) := by decide +kernel
theorem dX7_goesOn_50 : decode cX7_goesOn 50 = .ok (.getfield 18, 3) := by decide +kernel
theorem dX7_goesOn_53 : decode cX7_goesOn 53 = .ok (.iconst 1, 1) := by decide +kernel
theorem dX7_goesOn_54 : decode cX7_goesOn 54 = .ok (.iadd, 1) := by decide +kernel
theorem dX7_goesOn_55 : decode cX7_goesOn 55 = .ok (.putfield 18, 3) := by decide +kernel
theorem dX7_goesOn_58 : decode cX7_goesOn 58 = .ok (.aload_n 0, 1) := by decide +kernel
theorem dX7_goesOn_59 : decode cX7_goesOn 59 = .ok (.getfield 18, 3) := by decide +kernel
theorem dX7_goesOn_62 : decode cX7_goesOn 62 = .ok (.aload_n 0, 1) := by decide +kernel
theorem dX7_goesOn_63 : decode cX7_goesOn 63 = .ok (.getfield 9, 3) := by decide +kernel
theorem dX7_goesOn_66 : decode cX7_goesOn 66 = .ok (.iconst 2, 1) := by decide +kernel
theorem dX7_goesOn_67 : decode cX7_goesOn 67 = .ok (.iadd, 1) := by decide +kernel
theorem dX7_goesOn_68 : decode cX7_goesOn 68 = .ok (.if_icmp .ne 18, 3) := by decide +kernel
theorem dX7_goesOn_71 : decode cX7_goesOn 71 = .ok (.aload_n 0, 1) := by decide +kernel
theorem dX7_goesOn_72 : decode cX7_goesOn 72 = .ok (.iconst 0, 1) := by decide +kernel
theorem dX7_goesOn_73 : decode cX7_goesOn 73 = .ok (.putfield 18, 3) := by decide +kernel
theorem dX7_goesOn_76 : decode cX7_goesOn 76 = .ok (.aload_n 0, 1) := by decide +kernel
theorem dX7_goesOn_77 : decode cX7_goesOn 77 = .ok (.dup, 1) := by decide +kernel
theorem dX7_goesOn_78 : decode cX7_goesOn 78 = .ok (.getfield 15, 3) := by decide +kernel
theorem dX7_goesOn_81 : decode cX7_goesOn 81 = .ok (.iconst 1, 1) := by decide +kernel
theorem dX7_goesOn_82 : decode cX7_goesOn 82 = .ok (.iadd, 1) := by decide +kernel
theorem dX7_goesOn_83 : decode cX7_goesOn 83 = .ok (.putfield 15, 3) := by decide +kernel
theorem dX7_goesOn_86 : decode cX7_goesOn 86 = .ok (.iconst 1, 1) := by decide +kernel
theorem dX7_goesOn_87 : decode cX7_goesOn 87 = .ok (.ireturn, 1) := by decide +kernel
theorem dX7_fitsPart_0 : decode cX7_fitsPart 0 = .ok (.aload_n 0, 1) := by decide +kernel
theorem dX7_fitsPart_1 : decode cX7_fitsPart 1 = .ok (.getfield 18, 3) := by decide +kernel
theorem dX7_fitsPart_4 : decode cX7_fitsPart 4 = .ok (.ifCond .ne 23, 3) := by decide +kernel
theorem dX7_fitsPart_7 : decode cX7_fitsPart 7 = .ok (.iload_n 1, 1) := by decide +kernel
theorem dX7_fitsPart_8 : decode cX7_fitsPart 8 = .ok (.bipush 59, 2) := by decide +kernel
theorem dX7_fitsPart_10 : decode cX7_fitsPart 10 = .ok (.if_icmp .ne 15, 3) := by decide +kernel
theorem dX7_fitsPart_13 : decode cX7_fitsPart 13 = .ok (.aload_n 0, 1) := by decide +kernel
theorem dX7_fitsPart_14 : decode cX7_fitsPart 14 = .ok (.getfield 15, 3) := by decide +kernel
theorem dX7_fitsPart_17 : decode cX7_fitsPart 17 = .ok (.iconst 4, 1) := by decide +kernel
theorem dX7_fitsPart_18 : decode cX7_fitsPart 18 = .ok (.if_icmp .ge 7, 3) := by decide +kernel
theorem dX7_fitsPart_21 : decode cX7_fitsPart 21 = .ok (.iconst 1, 1) := by decide +kernel
theorem dX7_fitsPart_22 : decode cX7_fitsPart 22 = .ok (.goto 4, 3) := by decide +kernel
theorem dX7_fitsPart_25 : decode cX7_fitsPart 25 = .ok (.iconst 0, 1) := by decide +kernel
theorem dX7_fitsPart_26 : decode cX7_fitsPart 26 = .ok (.ireturn, 1) := by decide +kernel
theorem dX7_fitsPart_27 : decode cX7_fitsPart 27 = .ok (.aload_n 0, 1) := by decide +kernel
theorem dX7_fitsPart_28 : decode cX7_fitsPart 28 = .ok (.getfield 18, 3) := by decide +kernel
theorem dX7_fitsPart_31 : decode cX7_fitsPart 31 = .ok (.iconst 1, 1) := by decide +kernel
theorem dX7_fitsPart_32 : decode cX7_fitsPart 32 = .ok (.if_icmp .ne 18, 3) := by decide +kernel
theorem dX7_fitsPart_35 : decode cX7_fitsPart 35 = .ok (.iload_n 1, 1) := by decide +kernel
theorem dX7_fitsPart_36 : decode cX7_fitsPart 36 = .ok (.invokestatic 43, 3) := by decide +kernel
theorem dX7_fitsPart_39 : decode cX7_fitsPart 39 = .ok (.bipush (-9), 2) := by decide +kernel
theorem dX7_fitsPart_41 : decode cX7_fitsPart 41 = .ok (.if_icmp .eq 7, 3) := by decide +kernel
theorem dX7_fitsPart_44 : decode cX7_fitsPart 44 = .ok (.iconst 1, 1) := by decide +kernel
theorem dX7_fitsPart_45 : decode cX7_fitsPart 45 = .ok (.goto 4, 3) := by decide +kernel
theorem dX7_fitsPart_48 : decode cX7_fitsPart 48 = .ok (.iconst 0, 1) := by decide +kernel
theorem dX7_fitsPart_49 : decode cX7_fitsPart 49 = .ok (.ireturn, 1) := by decide +kernel
theorem dX7_fitsPart_50 : decode cX7_fitsPart 50 = .ok (.iload_n 1, 1) := by decide +kernel
theorem dX7_fitsPart_51 : decode cX7_fitsPart 51 = .ok (.bipush 45, 2) := by decide +kernel
theorem dX7_fitsPart_53 : decode cX7_fitsPart 53 = .ok (.if_icmp .eq 21, 3) := by decide +kernel
theorem dX7_fitsPart_56 : decode cX7_fitsPart 56 = .ok (.iload_n 1, 1) := by decide +kernel
theorem dX7_fitsPart_57 : decode cX7_fitsPart 57 = .ok (.bipush 48, 2) := by decide +kernel
theorem dX7_fitsPart_59 : decode cX7_fitsPart 59 = .ok (.bipush 48, 2) := by decide +kernel
theorem dX7_fitsPart_61 : decode cX7_fitsPart 61 = .ok (.aload_n 0, 1) := by decide +kernel
theorem dX7_fitsPart_62 : decode cX7_fitsPart 62 = .ok (.getfield 9, 3) := by decide +kernel
theorem dX7_fitsPart_65 : decode cX7_fitsPart 65 = .ok (.iadd, 1) := by decide +kernel
theorem dX7_fitsPart_66 : decode cX7_fitsPart 66 = .ok (.iconst 1, 1) := by decide +kernel
theorem dX7_fitsPart_67 : decode cX7_fitsPart 67 = .ok (.isub, 1) := by decide +kernel
theorem dX7_fitsPart_68 : decode cX7_fitsPart 68 = .ok (.invokestatic 35, 3) := by decide +kernel
theorem dX7_fitsPart_71 : decode cX7_fitsPart 71 = .ok (.ifCond .eq 7, 3) := by decide +kernel
theorem dX7_fitsPart_74 : decode cX7_fitsPart 74 = .ok (.iconst 1, 1) := by decide +kernel
theorem dX7_fitsPart_75 : decode cX7_fitsPart 75 = .ok (.goto 4, 3) := by decide +kernel
theorem dX7_fitsPart_78 : decode cX7_fitsPart 78 = .ok (.iconst 0, 1) := by decide +kernel
theorem dX7_fitsPart_79 : decode cX7_fitsPart 79 = .ok (.ireturn, 1) := by decide +kernel
theorem dX7_kindOf_0 : decode cX7_kindOf 0 = .ok (.iload_n 0, 1) := by decide +kernel
theorem dX7_kindOf_1 : decode cX7_kindOf 1 = .ok (.lookupswitch 41 #[(98, 37), (107, 39), (112, 35)], 35) := by decide +kernel
theorem dX7_kindOf_36 : decode cX7_kindOf 36 = .ok (.iconst 0, 1) := by decide +kernel
theorem dX7_kindOf_37 : decode cX7_kindOf 37 = .ok (.ireturn, 1) := by decide +kernel
theorem dX7_kindOf_38 : decode cX7_kindOf 38 = .ok (.iconst 1, 1) := by decide +kernel
theorem dX7_kindOf_39 : decode cX7_kindOf 39 = .ok (.ireturn, 1) := by decide +kernel
theorem dX7_kindOf_40 : decode cX7_kindOf 40 = .ok (.iconst 2, 1) := by decide +kernel
theorem dX7_kindOf_41 : decode cX7_kindOf 41 = .ok (.ireturn, 1) := by decide +kernel
theorem dX7_kindOf_42 : decode cX7_kindOf 42 = .ok (.bipush (-9), 2) := by decide +kernel
theorem dX7_kindOf_44 : decode cX7_kindOf 44 = .ok (.ireturn, 1) := by decide +kernel
theorem dX8_init_0 : decode cX8_init 0 = .ok (.aload_n 0, 1) := by decide +kernel
theorem dX8_init_1 : decode cX8_init 1 = .ok (.invokespecial 3, 3) := by decide +kernel
theorem dX8_init_4 : decode cX8_init 4 = .ok (.aload_n 0, 1) := by decide +kernel
theorem dX8_init_5 : decode cX8_init 5 = .ok (.new 9, 3) := by decide +kernel
theorem dX8_init_8 : decode cX8_init 8 = .ok (.dup, 1) := by decide +kernel
theorem dX8_init_9 : decode cX8_init 9 = .ok (.invokespecial 11, 3) := by decide +kernel
theorem dX8_init_12 : decode cX8_init 12 = .ok (.putfield 12, 3) := by decide +kernel
theorem dX8_init_15 : decode cX8_init 15 = .ok (.aload_n 0, 1) := by decide +kernel
theorem dX8_init_16 : decode cX8_init 16 = .ok (.new 18, 3) := by decide +kernel
theorem dX8_init_19 : decode cX8_init 19 = .ok (.dup, 1) := by decide +kernel
theorem dX8_init_20 : decode cX8_init 20 = .ok (.invokespecial 20, 3) := by decide +kernel
theorem dX8_init_23 : decode cX8_init 23 = .ok (.putfield 21, 3) := by decide +kernel
theorem dX8_init_26 : decode cX8_init 26 = .ok (.aload_n 0, 1) := by decide +kernel
theorem dX8_init_27 : decode cX8_init 27 = .ok (.new 18, 3) := by decide +kernel
theorem dX8_init_30 : decode cX8_init 30 = .ok (.dup, 1) := by decide +kernel
theorem dX8_init_31 : decode cX8_init 31 = .ok (.invokespecial 20, 3) := by decide +kernel
theorem dX8_init_34 : decode cX8_init 34 = .ok (.putfield 25, 3) := by decide +kernel
theorem dX8_init_37 : decode cX8_init 37 = .ok (.aload_n 0, 1) := by decide +kernel
theorem dX8_init_38 : decode cX8_init 38 = .ok (.new 28, 3) := by decide +kernel
theorem dX8_init_41 : decode cX8_init 41 = .ok (.dup, 1) := by decide +kernel
theorem dX8_init_42 : decode cX8_init 42 = .ok (.invokespecial 30, 3) := by decide +kernel
theorem dX8_init_45 : decode cX8_init 45 = .ok (.putfield 31, 3) := by decide +kernel
theorem dX8_init_48 : decode cX8_init 48 = .ok (.aload_n 0, 1) := by decide +kernel
theorem dX8_init_49 : decode cX8_init 49 = .ok (.new 35, 3) := by decide +kernel
theorem dX8_init_52 : decode cX8_init 52 = .ok (.dup, 1) := by decide +kernel
theorem dX8_init_53 : decode cX8_init 53 = .ok (.invokespecial 37, 3) := by decide +kernel
theorem dX8_init_56 : decode cX8_init 56 = .ok (.putfield 38, 3) := by decide +kernel
theorem dX8_init_59 : decode cX8_init 59 = .ok (.aload_n 0, 1) := by decide +kernel
theorem dX8_init_60 : decode cX8_init 60 = .ok (.new 42, 3) := by decide +kernel
theorem dX8_init_63 : decode cX8_init 63 = .ok (.dup, 1) := by decide +kernel
theorem dX8_init_64 : decode cX8_init 64 = .ok (.invokespecial 44, 3) := by decide +kernel
theorem dX8_init_67 : decode cX8_init 67 = .ok (.putfield 45, 3) := by decide +kernel
theorem dX8_init_70 : decode cX8_init 70 = .ok (.aload_n 0, 1) := by decide +kernel
theorem dX8_init_71 : decode cX8_init 71 = .ok (.iconst 4, 1) := by decide +kernel
theorem dX8_init_72 : decode cX8_init 72 = .ok (.anewarray 49, 3) := by decide +kernel
theorem dX8_init_75 : decode cX8_init 75 = .ok (.putfield 51, 3) := by decide +kernel
theorem dX8_init_78 : decode cX8_init 78 = .ok (.iconst 0, 1) := by decide +kernel
theorem dX8_init_79 : decode cX8_init 79 = .ok (.istore_n 1, 1) := by decide +kernel
theorem dX8_init_80 : decode cX8_init 80 = .ok (.iload_n 1, 1) := by decide +kernel
theorem dX8_init_81 : decode cX8_init 81 = .ok (.iconst 4, 1) := by decide +kernel
theorem dX8_init_82 : decode cX8_init 82 = .ok (.if_icmp .ge 22, 3) := by decide +kernel
theorem dX8_init_85 : decode cX8_init 85 = .ok (.aload_n 0, 1) := by decide +kernel
theorem dX8_init_86 : decode cX8_init 86 = .ok (.getfield 51, 3) := by decide +kernel
theorem dX8_init_89 : decode cX8_init 89 = .ok (.iload_n 1, 1) := by decide +kernel
theorem dX8_init_90 : decode cX8_init 90 = .ok (.new 49, 3) := by decide +kernel
theorem dX8_init_93 : decode cX8_init 93 = .ok (.dup, 1) := by decide +kernel
theorem dX8_init_94 : decode cX8_init 94 = .ok (.invokespecial 55, 3) := by decide +kernel
theorem dX8_init_97 : decode cX8_init 97 = .ok (.aastore, 1) := by decide +kernel
theorem dX8_init_98 : decode cX8_init 98 = .ok (.iinc 1 1, 3) := by decide +kernel
theorem dX8_init_101 : decode cX8_init 101 = .ok (.goto (-21), 3) := by decide +kernel
theorem dX8_init_104 : decode cX8_init 104 = .ok (.return_, 1) := by decide +kernel
theorem dX8_callers_0 : decode cX8_callers 0 = .ok (.aload_n 0, 1) := by decide +kernel
theorem dX8_callers_1 : decode cX8_callers 1 = .ok (.iconst 0, 1) := by decide +kernel
theorem dX8_callers_2 : decode cX8_callers 2 = .ok (.putfield 56, 3) := by decide +kernel
theorem dX8_callers_5 : decode cX8_callers 5 = .ok (.iload_n 1, 1) := by decide +kernel
theorem dX8_callers_6 : decode cX8_callers 6 = .ok (.invokestatic 60, 3) := by decide +kernel
theorem dX8_callers_9 : decode cX8_callers 9 = .ok (.ifCond .ne 5, 3) := by decide +kernel
theorem dX8_callers_12 : decode cX8_callers 12 = .ok (.iconst (-1), 1) := by decide +kernel
theorem dX8_callers_13 : decode cX8_callers 13 = .ok (.ireturn, 1) := by decide +kernel
theorem dX8_callers_14 : decode cX8_callers 14 = .ok (.iload_n 2, 1) := by decide +kernel
theorem dX8_callers_15 : decode cX8_callers 15 = .ok (.invokestatic 64, 3) := by decide +kernel
theorem dX8_callers_18 : decode cX8_callers 18 = .ok (.ifCond .ne 6, 3) := by decide +kernel
theorem dX8_callers_21 : decode cX8_callers 21 = .ok (.bipush (-2), 2) := by decide +kernel
theorem dX8_callers_23 : decode cX8_callers 23 = .ok (.ireturn, 1) := by decide +kernel
theorem dX8_callers_24 : decode cX8_callers 24 = .ok (.aload_n 0, 1) := by decide +kernel
theorem dX8_callers_25 : decode cX8_callers 25 = .ok (.getfield 51, 3) := by decide +kernel
theorem dX8_callers_28 : decode cX8_callers 28 = .ok (.iload_n 1, 1) := by decide +kernel
theorem dX8_callers_29 : decode cX8_callers 29 = .ok (.aaload, 1) := by decide +kernel
theorem dX8_callers_30 : decode cX8_callers 30 = .ok (.iload_n 2, 1) := by decide +kernel
theorem dX8_callers_31 : decode cX8_callers 31 = .ok (.iload_n 3, 1) := by decide +kernel
theorem dX8_callers_32 : decode cX8_callers 32 = .ok (.iload 4, 2) := by decide +kernel
theorem dX8_callers_34 : decode cX8_callers 34 = .ok (.invokevirtual 67, 3) := by decide +kernel
theorem dX8_callers_37 : decode cX8_callers 37 = .ok (.istore 5, 2) := by decide +kernel
theorem dX8_callers_39 : decode cX8_callers 39 = .ok (.iload 5, 2) := by decide +kernel
theorem dX8_callers_41 : decode cX8_callers 41 = .ok (.ifCond .eq 10, 3) := by decide +kernel
theorem dX8_callers_44 : decode cX8_callers 44 = .ok (.aload_n 0, 1) := by decide +kernel
theorem dX8_callers_45 : decode cX8_callers 45 = .ok (.iload 5, 2) := by decide +kernel
theorem dX8_callers_47 : decode cX8_callers 47 = .ok (.invokevirtual 71, 3) := by decide +kernel
theorem dX8_callers_50 : decode cX8_callers 50 = .ok (.ireturn, 1) := by decide +kernel
theorem dX8_callers_51 : decode cX8_callers 51 = .ok (.aload_n 0, 1) := by decide +kernel
theorem dX8_callers_52 : decode cX8_callers 52 = .ok (.getfield 45, 3) := by decide +kernel
theorem dX8_callers_55 : decode cX8_callers 55 = .ok (.aload_n 0, 1) := by decide +kernel
theorem dX8_callers_56 : decode cX8_callers 56 = .ok (.getfield 51, 3) := by decide +kernel
theorem dX8_callers_59 : decode cX8_callers 59 = .ok (.iload_n 1, 1) := by decide +kernel
theorem dX8_callers_60 : decode cX8_callers 60 = .ok (.aaload, 1) := by decide +kernel
theorem dX8_callers_61 : decode cX8_callers 61 = .ok (.iload_n 3, 1) := by decide +kernel
theorem dX8_callers_62 : decode cX8_callers 62 = .ok (.iload 4, 2) := by decide +kernel
theorem dX8_callers_64 : decode cX8_callers 64 = .ok (.invokevirtual 75, 3) := by decide +kernel
theorem dX8_callers_67 : decode cX8_callers 67 = .ok (.istore 6, 2) := by decide +kernel
theorem dX8_callers_69 : decode cX8_callers 69 = .ok (.aload_n 0, 1) := by decide +kernel
theorem dX8_callers_70 : decode cX8_callers 70 = .ok (.getfield 45, 3) := by decide +kernel
theorem dX8_callers_73 : decode cX8_callers 73 = .ok (.getfield 79, 3) := by decide +kernel
theorem dX8_callers_76 : decode cX8_callers 76 = .ok (.ifCond .ne 9, 3) := by decide +kernel
theorem dX8_callers_79 : decode cX8_callers 79 = .ok (.bipush (-100), 2) := by decide +kernel
theorem dX8_callers_81 : decode cX8_callers 81 = .ok (.iload 6, 2) := by decide +kernel
theorem dX8_callers_83 : decode cX8_callers 83 = .ok (.isub, 1) := by decide +kernel
theorem dX8_callers_84 : decode cX8_callers 84 = .ok (.ireturn, 1) := by decide +kernel
theorem dX8_callers_85 : decode cX8_callers 85 = .ok (.aload_n 0, 1) := by decide +kernel
theorem dX8_callers_86 : decode cX8_callers 86 = .ok (.getfield 12, 3) := by decide +kernel
theorem dX8_callers_89 : decode cX8_callers 89 = .ok (.aload_n 0, 1) := by decide +kernel
theorem dX8_callers_90 : decode cX8_callers 90 = .ok (.getfield 51, 3) := by decide +kernel
theorem dX8_callers_93 : decode cX8_callers 93 = .ok (.iload_n 1, 1) := by decide +kernel
theorem dX8_callers_94 : decode cX8_callers 94 = .ok (.aaload, 1) := by decide +kernel
theorem dX8_callers_95 : decode cX8_callers 95 = .ok (.iload_n 3, 1) := by decide +kernel
theorem dX8_callers_96 : decode cX8_callers 96 = .ok (.aload_n 0, 1) := by decide +kernel
theorem dX8_callers_97 : decode cX8_callers 97 = .ok (.getfield 45, 3) := by decide +kernel
theorem dX8_callers_100 : decode cX8_callers 100 = .ok (.getfield 83, 3) := by decide +kernel
theorem dX8_callers_103 : decode cX8_callers 103 = .ok (.invokevirtual 86, 3) := by decide +kernel
theorem dX8_callers_106 : decode cX8_callers 106 = .ok (.aload_n 0, 1) := by decide +kernel
theorem dX8_callers_107 : decode cX8_callers 107 = .ok (.getfield 21, 3) := by decide +kernel
theorem dX8_callers_110 : decode cX8_callers 110 = .ok (.iconst 0, 1) := by decide +kernel
theorem dX8_callers_111 : decode cX8_callers 111 = .ok (.putfield 90, 3) := by decide +kernel
theorem dX8_callers_114 : decode cX8_callers 114 = .ok (.aload_n 0, 1) := by decide +kernel
theorem dX8_callers_115 : decode cX8_callers 115 = .ok (.getfield 31, 3) := by decide +kernel
theorem dX8_callers_118 : decode cX8_callers 118 = .ok (.iconst 0, 1) := by decide +kernel
theorem dX8_callers_119 : decode cX8_callers 119 = .ok (.putfield 93, 3) := by decide +kernel
theorem dX8_callers_122 : decode cX8_callers 122 = .ok (.aload_n 0, 1) := by decide +kernel
theorem dX8_callers_123 : decode cX8_callers 123 = .ok (.getfield 12, 3) := by decide +kernel
theorem dX8_callers_126 : decode cX8_callers 126 = .ok (.getfield 94, 3) := by decide +kernel
theorem dX8_callers_129 : decode cX8_callers 129 = .ok (.ireturn, 1) := by decide +kernel
theorem dX8_ofCaller_0 : decode cX8_ofCaller 0 = .ok (.aload_n 0, 1) := by decide +kernel
theorem dX8_ofCaller_1 : decode cX8_ofCaller 1 = .ok (.getfield 12, 3) := by decide +kernel
theorem dX8_ofCaller_4 : decode cX8_ofCaller 4 = .ok (.iload_n 1, 1) := by decide +kernel
theorem dX8_ofCaller_5 : decode cX8_ofCaller 5 = .ok (.invokevirtual 95, 3) := by decide +kernel
theorem dX8_ofCaller_8 : decode cX8_ofCaller 8 = .ok (.ifCond .ne 5, 3) := by decide +kernel
theorem dX8_ofCaller_11 : decode cX8_ofCaller 11 = .ok (.iconst (-1), 1) := by decide +kernel
theorem dX8_ofCaller_12 : decode cX8_ofCaller 12 = .ok (.ireturn, 1) := by decide +kernel
theorem dX8_ofCaller_13 : decode cX8_ofCaller 13 = .ok (.aload_n 0, 1) := by decide +kernel
theorem dX8_ofCaller_14 : decode cX8_ofCaller 14 = .ok (.getfield 12, 3) := by decide +kernel
theorem dX8_ofCaller_17 : decode cX8_ofCaller 17 = .ok (.getfield 98, 3) := by decide +kernel
theorem dX8_ofCaller_20 : decode cX8_ofCaller 20 = .ok (.iload_n 1, 1) := by decide +kernel
theorem dX8_ofCaller_21 : decode cX8_ofCaller 21 = .ok (.aaload, 1) := by decide +kernel
theorem dX8_ofCaller_22 : decode cX8_ofCaller 22 = .ok (.astore_n 3, 1) := by decide +kernel
theorem dX8_ofCaller_23 : decode cX8_ofCaller 23 = .ok (.iload_n 2, 1) := by decide +kernel
theorem dX8_ofCaller_24 : decode cX8_ofCaller 24 = .ok (.tableswitch 68 0 2 #[28, 33, 45], 28) := by decide +kernel
theorem dX8_ofCaller_52 : decode cX8_ofCaller 52 = .ok (.aload_n 3, 1) := by decide +kernel
theorem dX8_ofCaller_53 : decode cX8_ofCaller 53 = .ok (.getfield 101, 3) := by decide +kernel
theorem dX8_ofCaller_56 : decode cX8_ofCaller 56 = .ok (.ireturn, 1) := by decide +kernel
theorem dX8_ofCaller_57 : decode cX8_ofCaller 57 = .ok (.aload_n 3, 1) := by decide +kernel
theorem dX8_ofCaller_58 : decode cX8_ofCaller 58 = .ok (.aload_n 0, 1) := by decide +kernel
theorem dX8_ofCaller_59 : decode cX8_ofCaller 59 = .ok (.getfield 12, 3) := by decide +kernel
theorem dX8_ofCaller_62 : decode cX8_ofCaller 62 = .ok (.getfield 106, 3) := by decide +kernel
theorem dX8_ofCaller_65 : decode cX8_ofCaller 65 = .ok (.invokevirtual 109, 3) := by decide +kernel
theorem dX8_ofCaller_68 : decode cX8_ofCaller 68 = .ok (.ireturn, 1) := by decide +kernel
theorem dX8_ofCaller_69 : decode cX8_ofCaller 69 = .ok (.aload_n 3, 1) := by decide +kernel
theorem dX8_ofCaller_70 : decode cX8_ofCaller 70 = .ok (.getfield 112, 3) := by decide +kernel
theorem dX8_ofCaller_73 : decode cX8_ofCaller 73 = .ok (.aload_n 0, 1) := by decide +kernel
theorem dX8_ofCaller_74 : decode cX8_ofCaller 74 = .ok (.getfield 12, 3) := by decide +kernel
theorem dX8_ofCaller_77 : decode cX8_ofCaller 77 = .ok (.getfield 106, 3) := by decide +kernel
theorem dX8_ofCaller_80 : decode cX8_ofCaller 80 = .ok (.invokestatic 116, 3) := by decide +kernel
theorem dX8_ofCaller_83 : decode cX8_ofCaller 83 = .ok (.ifCond .eq 7, 3) := by decide +kernel
theorem dX8_ofCaller_86 : decode cX8_ofCaller 86 = .ok (.iconst 1, 1) := by decide +kernel
theorem dX8_ofCaller_87 : decode cX8_ofCaller 87 = .ok (.goto 4, 3) := by decide +kernel
theorem dX8_ofCaller_90 : decode cX8_ofCaller 90 = .ok (.iconst 0, 1) := by decide +kernel
theorem dX8_ofCaller_91 : decode cX8_ofCaller 91 = .ok (.ireturn, 1) := by decide +kernel
theorem dX8_ofCaller_92 : decode cX8_ofCaller 92 = .ok (.iload_n 2, 1) := by decide +kernel
theorem dX8_ofCaller_93 : decode cX8_ofCaller 93 = .ok (.bipush 10, 2) := by decide +kernel
theorem dX8_ofCaller_95 : decode cX8_ofCaller 95 = .ok (.bipush 15, 2) := by decide +kernel
theorem dX8_ofCaller_97 : decode cX8_ofCaller 97 = .ok (.invokestatic 120, 3) := by decide +kernel
theorem dX8_ofCaller_100 : decode cX8_ofCaller 100 = .ok (.ifCond .eq 15, 3) := by decide +kernel
theorem dX8_ofCaller_103 : decode cX8_ofCaller 103 = .ok (.aload_n 0, 1) := by decide +kernel
theorem dX8_ofCaller_104 : decode cX8_ofCaller 104 = .ok (.aload_n 3, 1) := by decide +kernel
theorem dX8_ofCaller_105 : decode cX8_ofCaller 105 = .ok (.iload_n 2, 1) := by decide +kernel
theorem dX8_ofCaller_106 : decode cX8_ofCaller 106 = .ok (.bipush 10, 2) := by decide +kernel
theorem dX8_ofCaller_108 : decode cX8_ofCaller 108 = .ok (.isub, 1) := by decide +kernel
theorem dX8_ofCaller_109 : decode cX8_ofCaller 109 = .ok (.invokevirtual 124, 3) := by decide +kernel
theorem dX8_ofCaller_112 : decode cX8_ofCaller 112 = .ok (.goto 5, 3) := by decide +kernel
theorem dX8_ofCaller_115 : decode cX8_ofCaller 115 = .ok (.bipush (-2), 2) := by decide +kernel
theorem dX8_ofCaller_117 : decode cX8_ofCaller 117 = .ok (.ireturn, 1) := by decide +kernel
theorem dX8_tune_0 : decode cX8_tune 0 = .ok (.aload_n 0, 1) := by decide +kernel
theorem dX8_tune_1 : decode cX8_tune 1 = .ok (.getfield 12, 3) := by decide +kernel
theorem dX8_tune_4 : decode cX8_tune 4 = .ok (.iload_n 1, 1) := by decide +kernel
theorem dX8_tune_5 : decode cX8_tune 5 = .ok (.invokevirtual 95, 3) := by decide +kernel
theorem dX8_tune_8 : decode cX8_tune 8 = .ok (.ifCond .eq 14, 3) := by decide +kernel
theorem dX8_tune_11 : decode cX8_tune 11 = .ok (.aload_n 0, 1) := by decide +kernel
theorem dX8_tune_12 : decode cX8_tune 12 = .ok (.getfield 12, 3) := by decide +kernel
theorem dX8_tune_15 : decode cX8_tune 15 = .ok (.iload_n 2, 1) := by decide +kernel
theorem dX8_tune_16 : decode cX8_tune 16 = .ok (.invokevirtual 128, 3) := by decide +kernel
theorem dX8_tune_19 : decode cX8_tune 19 = .ok (.ifCond .ne 5, 3) := by decide +kernel
theorem dX8_tune_22 : decode cX8_tune 22 = .ok (.iconst (-1), 1) := by decide +kernel
theorem dX8_tune_23 : decode cX8_tune 23 = .ok (.ireturn, 1) := by decide +kernel
theorem dX8_tune_24 : decode cX8_tune 24 = .ok (.iload_n 3, 1) := by decide +kernel
theorem dX8_tune_25 : decode cX8_tune 25 = .ok (.iconst (-1), 1) := by decide +kernel
theorem dX8_tune_26 : decode cX8_tune 26 = .ok (.if_icmp .eq 17, 3) := by decide +kernel
theorem dX8_tune_29 : decode cX8_tune 29 = .ok (.aload_n 0, 1) := by decide +kernel
theorem dX8_tune_30 : decode cX8_tune 30 = .ok (.getfield 12, 3) := by decide +kernel
theorem dX8_tune_33 : decode cX8_tune 33 = .ok (.iload_n 3, 1) := by decide +kernel
theorem dX8_tune_34 : decode cX8_tune 34 = .ok (.invokevirtual 128, 3) := by decide +kernel
theorem dX8_tune_37 : decode cX8_tune 37 = .ok (.ifCond .ne 6, 3) := by decide +kernel
theorem dX8_tune_40 : decode cX8_tune 40 = .ok (.bipush (-2), 2) := by decide +kernel
theorem dX8_tune_42 : decode cX8_tune 42 = .ok (.ireturn, 1) := by decide +kernel
theorem dX8_tune_43 : decode cX8_tune 43 = .ok (.aload_n 0, 1) := by decide +kernel
theorem dX8_tune_44 : decode cX8_tune 44 = .ok (.aload_n 0, 1) := by decide +kernel
theorem dX8_tune_45 : decode cX8_tune 45 = .ok (.getfield 12, 3) := by decide +kernel
theorem dX8_tune_48 : decode cX8_tune 48 = .ok (.getfield 98, 3) := by decide +kernel
theorem dX8_tune_51 : decode cX8_tune 51 = .ok (.iload_n 1, 1) := by decide +kernel
theorem dX8_tune_52 : decode cX8_tune 52 = .ok (.aaload, 1) := by decide +kernel
theorem dX8_tune_53 : decode cX8_tune 53 = .ok (.iload_n 2, 1) := by decide +kernel
theorem dX8_tune_54 : decode cX8_tune 54 = .ok (.invokevirtual 124, 3) := by decide +kernel
theorem dX8_tune_57 : decode cX8_tune 57 = .ok (.istore 4, 2) := by decide +kernel
theorem dX8_tune_59 : decode cX8_tune 59 = .ok (.aload_n 0, 1) := by decide +kernel
theorem dX8_tune_60 : decode cX8_tune 60 = .ok (.getfield 12, 3) := by decide +kernel
theorem dX8_tune_63 : decode cX8_tune 63 = .ok (.getfield 98, 3) := by decide +kernel
theorem dX8_tune_66 : decode cX8_tune 66 = .ok (.iload_n 1, 1) := by decide +kernel
theorem dX8_tune_67 : decode cX8_tune 67 = .ok (.aaload, 1) := by decide +kernel
theorem dX8_tune_68 : decode cX8_tune 68 = .ok (.getfield 112, 3) := by decide +kernel
theorem dX8_tune_71 : decode cX8_tune 71 = .ok (.iload_n 2, 1) := by decide +kernel
theorem dX8_tune_72 : decode cX8_tune 72 = .ok (.iload_n 3, 1) := by decide +kernel
theorem dX8_tune_73 : decode cX8_tune 73 = .ok (.iastore, 1) := by decide +kernel
theorem dX8_tune_74 : decode cX8_tune 74 = .ok (.iload 4, 2) := by decide +kernel
theorem dX8_tune_76 : decode cX8_tune 76 = .ok (.ireturn, 1) := by decide +kernel
theorem dX8_hears_0 : decode cX8_hears 0 = .ok (.aload_n 0, 1) := by decide +kernel
theorem dX8_hears_1 : decode cX8_hears 1 = .ok (.getfield 12, 3) := by decide +kernel
theorem dX8_hears_4 : decode cX8_hears 4 = .ok (.iload_n 1, 1) := by decide +kernel
theorem dX8_hears_5 : decode cX8_hears 5 = .ok (.invokevirtual 95, 3) := by decide +kernel
theorem dX8_hears_8 : decode cX8_hears 8 = .ok (.ifCond .eq 14, 3) := by decide +kernel
theorem dX8_hears_11 : decode cX8_hears 11 = .ok (.aload_n 0, 1) := by decide +kernel
theorem dX8_hears_12 : decode cX8_hears 12 = .ok (.getfield 12, 3) := by decide +kernel
theorem dX8_hears_15 : decode cX8_hears 15 = .ok (.iload_n 2, 1) := by decide +kernel
theorem dX8_hears_16 : decode cX8_hears 16 = .ok (.invokevirtual 95, 3) := by decide +kernel
theorem dX8_hears_19 : decode cX8_hears 19 = .ok (.ifCond .ne 5, 3) := by decide +kernel
theorem dX8_hears_22 : decode cX8_hears 22 = .ok (.iconst (-1), 1) := by decide +kernel
theorem dX8_hears_23 : decode cX8_hears 23 = .ok (.ireturn, 1) := by decide +kernel
theorem dX8_hears_24 : decode cX8_hears 24 = .ok (.iload_n 3, 1) := by decide +kernel
theorem dX8_hears_25 : decode cX8_hears 25 = .ok (.invokestatic 131, 3) := by decide +kernel
theorem dX8_hears_28 : decode cX8_hears 28 = .ok (.ifCond .eq 11, 3) := by decide +kernel
theorem dX8_hears_31 : decode cX8_hears 31 = .ok (.iload 4, 2) := by decide +kernel
theorem dX8_hears_33 : decode cX8_hears 33 = .ok (.invokestatic 131, 3) := by decide +kernel
theorem dX8_hears_36 : decode cX8_hears 36 = .ok (.ifCond .ne 6, 3) := by decide +kernel
theorem dX8_hears_39 : decode cX8_hears 39 = .ok (.bipush (-2), 2) := by decide +kernel
theorem dX8_hears_41 : decode cX8_hears 41 = .ok (.ireturn, 1) := by decide +kernel
theorem dX8_hears_42 : decode cX8_hears 42 = .ok (.aload_n 0, 1) := by decide +kernel
theorem dX8_hears_43 : decode cX8_hears 43 = .ok (.getfield 12, 3) := by decide +kernel
theorem dX8_hears_46 : decode cX8_hears 46 = .ok (.iload_n 1, 1) := by decide +kernel
theorem dX8_hears_47 : decode cX8_hears 47 = .ok (.iload_n 2, 1) := by decide +kernel
theorem dX8_hears_48 : decode cX8_hears 48 = .ok (.iload_n 3, 1) := by decide +kernel
theorem dX8_hears_49 : decode cX8_hears 49 = .ok (.iload 4, 2) := by decide +kernel
theorem dX8_hears_51 : decode cX8_hears 51 = .ok (.invokevirtual 134, 3) := by decide +kernel
theorem dX8_hears_54 : decode cX8_hears 54 = .ok (.ireturn, 1) := by decide +kernel
theorem dX8_send_0 : decode cX8_send 0 = .ok (.aload_n 0, 1) := by decide +kernel
theorem dX8_send_1 : decode cX8_send 1 = .ok (.getfield 12, 3) := by decide +kernel
theorem dX8_send_4 : decode cX8_send 4 = .ok (.iload_n 1, 1) := by decide +kernel
theorem dX8_send_5 : decode cX8_send 5 = .ok (.invokevirtual 95, 3) := by decide +kernel
theorem dX8_send_8 : decode cX8_send 8 = .ok (.ifCond .ne 5, 3) := by decide +kernel
theorem dX8_send_11 : decode cX8_send 11 = .ok (.iconst (-1), 1) := by decide +kernel
theorem dX8_send_12 : decode cX8_send 12 = .ok (.ireturn, 1) := by decide +kernel
theorem dX8_send_13 : decode cX8_send 13 = .ok (.iload_n 2, 1) := by decide +kernel
theorem dX8_send_14 : decode cX8_send 14 = .ok (.iconst 0, 1) := by decide +kernel
theorem dX8_send_15 : decode cX8_send 15 = .ok (.bipush 20, 2) := by decide +kernel
theorem dX8_send_17 : decode cX8_send 17 = .ok (.invokestatic 120, 3) := by decide +kernel
theorem dX8_send_20 : decode cX8_send 20 = .ok (.ifCond .eq 12, 3) := by decide +kernel
theorem dX8_send_23 : decode cX8_send 23 = .ok (.iload_n 3, 1) := by decide +kernel
theorem dX8_send_24 : decode cX8_send 24 = .ok (.iconst 0, 1) := by decide +kernel
theorem dX8_send_25 : decode cX8_send 25 = .ok (.iconst 5, 1) := by decide +kernel
theorem dX8_send_26 : decode cX8_send 26 = .ok (.invokestatic 120, 3) := by decide +kernel
theorem dX8_send_29 : decode cX8_send 29 = .ok (.ifCond .ne 6, 3) := by decide +kernel
theorem dX8_send_32 : decode cX8_send 32 = .ok (.bipush (-2), 2) := by decide +kernel
theorem dX8_send_34 : decode cX8_send 34 = .ok (.ireturn, 1) := by decide +kernel
theorem dX8_send_35 : decode cX8_send 35 = .ok (.aload_n 0, 1) := by decide +kernel
theorem dX8_send_36 : decode cX8_send 36 = .ok (.getfield 21, 3) := by decide +kernel
theorem dX8_send_39 : decode cX8_send 39 = .ok (.iload_n 1, 1) := by decide +kernel
theorem dX8_send_40 : decode cX8_send 40 = .ok (.iload_n 2, 1) := by decide +kernel
theorem dX8_send_41 : decode cX8_send 41 = .ok (.iload_n 3, 1) := by decide +kernel
theorem dX8_send_42 : decode cX8_send 42 = .ok (.invokevirtual 138, 3) := by decide +kernel
theorem dX8_send_45 : decode cX8_send 45 = .ok (.ifCond .eq 15, 3) := by decide +kernel
theorem dX8_send_48 : decode cX8_send 48 = .ok (.aload_n 0, 1) := by decide +kernel
theorem dX8_send_49 : decode cX8_send 49 = .ok (.getfield 21, 3) := by decide +kernel
theorem dX8_send_52 : decode cX8_send 52 = .ok (.getfield 90, 3) := by decide +kernel
theorem dX8_send_55 : decode cX8_send 55 = .ok (.iconst 1, 1) := by decide +kernel
theorem dX8_send_56 : decode cX8_send 56 = .ok (.isub, 1) := by decide +kernel
theorem dX8_send_57 : decode cX8_send 57 = .ok (.goto 5, 3) := by decide +kernel
theorem dX8_send_60 : decode cX8_send 60 = .ok (.bipush (-4), 2) := by decide +kernel
theorem dX8_send_62 : decode cX8_send 62 = .ok (.ireturn, 1) := by decide +kernel
theorem dX8_unsend_0 : decode cX8_unsend 0 = .ok (.aload_n 0, 1) := by decide +kernel
theorem dX8_unsend_1 : decode cX8_unsend 1 = .ok (.getfield 21, 3) := by decide +kernel
theorem dX8_unsend_4 : decode cX8_unsend 4 = .ok (.iload_n 1, 1) := by decide +kernel
theorem dX8_unsend_5 : decode cX8_unsend 5 = .ok (.invokevirtual 141, 3) := by decide +kernel
theorem dX8_unsend_8 : decode cX8_unsend 8 = .ok (.ifCond .eq 13, 3) := by decide +kernel
theorem dX8_unsend_11 : decode cX8_unsend 11 = .ok (.aload_n 0, 1) := by decide +kernel
theorem dX8_unsend_12 : decode cX8_unsend 12 = .ok (.getfield 21, 3) := by decide +kernel
theorem dX8_unsend_15 : decode cX8_unsend 15 = .ok (.getfield 90, 3) := by decide +kernel
theorem dX8_unsend_18 : decode cX8_unsend 18 = .ok (.goto 5, 3) := by decide +kernel
theorem dX8_unsend_21 : decode cX8_unsend 21 = .ok (.bipush (-2), 2) := by decide +kernel
theorem dX8_unsend_23 : decode cX8_unsend 23 = .ok (.ireturn, 1) := by decide +kernel
theorem dX8_air_0 : decode cX8_air 0 = .ok (.iload_n 1, 1) := by decide +kernel
theorem dX8_air_1 : decode cX8_air 1 = .ok (.iconst 0, 1) := by decide +kernel
theorem dX8_air_2 : decode cX8_air 2 = .ok (.bipush 25, 2) := by decide +kernel
theorem dX8_air_4 : decode cX8_air 4 = .ok (.invokestatic 120, 3) := by decide +kernel
theorem dX8_air_7 : decode cX8_air 7 = .ok (.ifCond .ne 6, 3) := by decide +kernel
theorem dX8_air_10 : decode cX8_air 10 = .ok (.bipush (-2), 2) := by decide +kernel
theorem dX8_air_12 : decode cX8_air 12 = .ok (.ireturn, 1) := by decide +kernel
theorem dX8_air_13 : decode cX8_air 13 = .ok (.aload_n 0, 1) := by decide +kernel
theorem dX8_air_14 : decode cX8_air 14 = .ok (.getfield 12, 3) := by decide +kernel
theorem dX8_air_17 : decode cX8_air 17 = .ok (.getfield 94, 3) := by decide +kernel
theorem dX8_air_20 : decode cX8_air 20 = .ok (.ifCond .ne 6, 3) := by decide +kernel
theorem dX8_air_23 : decode cX8_air 23 = .ok (.bipush (-3), 2) := by decide +kernel
theorem dX8_air_25 : decode cX8_air 25 = .ok (.ireturn, 1) := by decide +kernel
theorem dX8_air_26 : decode cX8_air 26 = .ok (.aload_n 0, 1) := by decide +kernel
theorem dX8_air_27 : decode cX8_air 27 = .ok (.getfield 21, 3) := by decide +kernel
theorem dX8_air_30 : decode cX8_air 30 = .ok (.aload_n 0, 1) := by decide +kernel
theorem dX8_air_31 : decode cX8_air 31 = .ok (.getfield 12, 3) := by decide +kernel
theorem dX8_air_34 : decode cX8_air 34 = .ok (.invokevirtual 144, 3) := by decide +kernel
theorem dX8_air_37 : decode cX8_air 37 = .ok (.aload_n 0, 1) := by decide +kernel
theorem dX8_air_38 : decode cX8_air 38 = .ok (.getfield 21, 3) := by decide +kernel
theorem dX8_air_41 : decode cX8_air 41 = .ok (.getfield 148, 3) := by decide +kernel
theorem dX8_air_44 : decode cX8_air 44 = .ok (.iload_n 1, 1) := by decide +kernel
theorem dX8_air_45 : decode cX8_air 45 = .ok (.iaload, 1) := by decide +kernel
theorem dX8_air_46 : decode cX8_air 46 = .ok (.ireturn, 1) := by decide +kernel
theorem dX8_listen_0 : decode cX8_listen 0 = .ok (.aload_n 0, 1) := by decide +kernel
theorem dX8_listen_1 : decode cX8_listen 1 = .ok (.getfield 12, 3) := by decide +kernel
theorem dX8_listen_4 : decode cX8_listen 4 = .ok (.iload_n 1, 1) := by decide +kernel
theorem dX8_listen_5 : decode cX8_listen 5 = .ok (.invokevirtual 95, 3) := by decide +kernel
theorem dX8_listen_8 : decode cX8_listen 8 = .ok (.ifCond .ne 5, 3) := by decide +kernel
theorem dX8_listen_11 : decode cX8_listen 11 = .ok (.iconst (-1), 1) := by decide +kernel
theorem dX8_listen_12 : decode cX8_listen 12 = .ok (.ireturn, 1) := by decide +kernel
theorem dX8_listen_13 : decode cX8_listen 13 = .ok (.iload_n 2, 1) := by decide +kernel
theorem dX8_listen_14 : decode cX8_listen 14 = .ok (.iconst 0, 1) := by decide +kernel
theorem dX8_listen_15 : decode cX8_listen 15 = .ok (.bipush 25, 2) := by decide +kernel
theorem dX8_listen_17 : decode cX8_listen 17 = .ok (.invokestatic 120, 3) := by decide +kernel
theorem dX8_listen_20 : decode cX8_listen 20 = .ok (.ifCond .ne 6, 3) := by decide +kernel
theorem dX8_listen_23 : decode cX8_listen 23 = .ok (.bipush (-2), 2) := by decide +kernel
theorem dX8_listen_25 : decode cX8_listen 25 = .ok (.ireturn, 1) := by decide +kernel
theorem dX8_listen_26 : decode cX8_listen 26 = .ok (.aload_n 0, 1) := by decide +kernel
theorem dX8_listen_27 : decode cX8_listen 27 = .ok (.getfield 21, 3) := by decide +kernel
theorem dX8_listen_30 : decode cX8_listen 30 = .ok (.aload_n 0, 1) := by decide +kernel
theorem dX8_listen_31 : decode cX8_listen 31 = .ok (.getfield 12, 3) := by decide +kernel
theorem dX8_listen_34 : decode cX8_listen 34 = .ok (.invokevirtual 144, 3) := by decide +kernel
theorem dX8_listen_37 : decode cX8_listen 37 = .ok (.aload_n 0, 1) := by decide +kernel
theorem dX8_listen_38 : decode cX8_listen 38 = .ok (.getfield 12, 3) := by decide +kernel
theorem dX8_listen_41 : decode cX8_listen 41 = .ok (.iload_n 1, 1) := by decide +kernel
theorem dX8_listen_42 : decode cX8_listen 42 = .ok (.aload_n 0, 1) := by decide +kernel
theorem dX8_listen_43 : decode cX8_listen 43 = .ok (.getfield 21, 3) := by decide +kernel
theorem dX8_listen_46 : decode cX8_listen 46 = .ok (.getfield 148, 3) := by decide +kernel
theorem dX8_listen_49 : decode cX8_listen 49 = .ok (.iload_n 2, 1) := by decide +kernel
theorem dX8_listen_50 : decode cX8_listen 50 = .ok (.invokevirtual 151, 3) := by decide +kernel
theorem dX8_listen_53 : decode cX8_listen 53 = .ok (.ireturn, 1) := by decide +kernel
theorem dX8_loudest_0 : decode cX8_loudest 0 = .ok (.aload_n 0, 1) := by decide +kernel
theorem dX8_loudest_1 : decode cX8_loudest 1 = .ok (.getfield 12, 3) := by decide +kernel
theorem dX8_loudest_4 : decode cX8_loudest 4 = .ok (.iload_n 1, 1) := by decide +kernel
theorem dX8_loudest_5 : decode cX8_loudest 5 = .ok (.invokevirtual 95, 3) := by decide +kernel
theorem dX8_loudest_8 : decode cX8_loudest 8 = .ok (.ifCond .ne 5, 3) := by decide +kernel
theorem dX8_loudest_11 : decode cX8_loudest 11 = .ok (.iconst (-1), 1) := by decide +kernel
theorem dX8_loudest_12 : decode cX8_loudest 12 = .ok (.ireturn, 1) := by decide +kernel
theorem dX8_loudest_13 : decode cX8_loudest 13 = .ok (.iload_n 2, 1) := by decide +kernel
theorem dX8_loudest_14 : decode cX8_loudest 14 = .ok (.iconst 0, 1) := by decide +kernel
theorem dX8_loudest_15 : decode cX8_loudest 15 = .ok (.iconst 1, 1) := by decide +kernel
theorem dX8_loudest_16 : decode cX8_loudest 16 = .ok (.invokestatic 120, 3) := by decide +kernel
theorem dX8_loudest_19 : decode cX8_loudest 19 = .ok (.ifCond .ne 6, 3) := by decide +kernel
theorem dX8_loudest_22 : decode cX8_loudest 22 = .ok (.bipush (-2), 2) := by decide +kernel
theorem dX8_loudest_24 : decode cX8_loudest 24 = .ok (.ireturn, 1) := by decide +kernel
theorem dX8_loudest_25 : decode cX8_loudest 25 = .ok (.aload_n 0, 1) := by decide +kernel
theorem dX8_loudest_26 : decode cX8_loudest 26 = .ok (.getfield 21, 3) := by decide +kernel
theorem dX8_loudest_29 : decode cX8_loudest 29 = .ok (.aload_n 0, 1) := by decide +kernel
theorem dX8_loudest_30 : decode cX8_loudest 30 = .ok (.getfield 12, 3) := by decide +kernel
theorem dX8_loudest_33 : decode cX8_loudest 33 = .ok (.invokevirtual 144, 3) := by decide +kernel
theorem dX8_loudest_36 : decode cX8_loudest 36 = .ok (.aload_n 0, 1) := by decide +kernel
theorem dX8_loudest_37 : decode cX8_loudest 37 = .ok (.getfield 12, 3) := by decide +kernel
theorem dX8_loudest_40 : decode cX8_loudest 40 = .ok (.iload_n 1, 1) := by decide +kernel
theorem dX8_loudest_41 : decode cX8_loudest 41 = .ok (.aload_n 0, 1) := by decide +kernel
theorem dX8_loudest_42 : decode cX8_loudest 42 = .ok (.getfield 21, 3) := by decide +kernel
theorem dX8_loudest_45 : decode cX8_loudest 45 = .ok (.getfield 148, 3) := by decide +kernel
theorem dX8_loudest_48 : decode cX8_loudest 48 = .ok (.invokevirtual 155, 3) := by decide +kernel
theorem dX8_loudest_51 : decode cX8_loudest 51 = .ok (.istore_n 3, 1) := by decide +kernel
theorem dX8_loudest_52 : decode cX8_loudest 52 = .ok (.iload_n 2, 1) := by decide +kernel
theorem dX8_loudest_53 : decode cX8_loudest 53 = .ok (.ifCond .ne 7, 3) := by decide +kernel
theorem dX8_loudest_56 : decode cX8_loudest 56 = .ok (.iload_n 3, 1) := by decide +kernel
theorem dX8_loudest_57 : decode cX8_loudest 57 = .ok (.goto 19, 3) := by decide +kernel
theorem dX8_loudest_60 : decode cX8_loudest 60 = .ok (.aload_n 0, 1) := by decide +kernel
theorem dX8_loudest_61 : decode cX8_loudest 61 = .ok (.getfield 12, 3) := by decide +kernel
theorem dX8_loudest_64 : decode cX8_loudest 64 = .ok (.iload_n 1, 1) := by decide +kernel
theorem dX8_loudest_65 : decode cX8_loudest 65 = .ok (.aload_n 0, 1) := by decide +kernel
theorem dX8_loudest_66 : decode cX8_loudest 66 = .ok (.getfield 21, 3) := by decide +kernel
theorem dX8_loudest_69 : decode cX8_loudest 69 = .ok (.getfield 148, 3) := by decide +kernel
theorem dX8_loudest_72 : decode cX8_loudest 72 = .ok (.iload_n 3, 1) := by decide +kernel
theorem dX8_loudest_73 : decode cX8_loudest 73 = .ok (.invokevirtual 151, 3) := by decide +kernel
theorem dX8_loudest_76 : decode cX8_loudest 76 = .ok (.ireturn, 1) := by decide +kernel
theorem dX8_day_0 : decode cX8_day 0 = .ok (.aload_n 0, 1) := by decide +kernel
theorem dX8_day_1 : decode cX8_day 1 = .ok (.iconst 0, 1) := by decide +kernel
theorem dX8_day_2 : decode cX8_day 2 = .ok (.putfield 56, 3) := by decide +kernel
theorem dX8_day_5 : decode cX8_day 5 = .ok (.iload_n 1, 1) := by decide +kernel
theorem dX8_day_6 : decode cX8_day 6 = .ok (.invokestatic 60, 3) := by decide +kernel
theorem dX8_day_9 : decode cX8_day 9 = .ok (.ifCond .ne 5, 3) := by decide +kernel
theorem dX8_day_12 : decode cX8_day 12 = .ok (.iconst (-1), 1) := by decide +kernel
theorem dX8_day_13 : decode cX8_day 13 = .ok (.ireturn, 1) := by decide +kernel
theorem dX8_day_14 : decode cX8_day 14 = .ok (.iload_n 2, 1) := by decide +kernel
theorem dX8_day_15 : decode cX8_day 15 = .ok (.invokestatic 64, 3) := by decide +kernel
theorem dX8_day_18 : decode cX8_day 18 = .ok (.ifCond .eq 22, 3) := by decide +kernel
theorem dX8_day_21 : decode cX8_day 21 = .ok (.iload 4, 2) := by decide +kernel
theorem dX8_day_23 : decode cX8_day 23 = .ok (.iconst 0, 1) := by decide +kernel
theorem dX8_day_24 : decode cX8_day 24 = .ok (.bipush 20, 2) := by decide +kernel
theorem dX8_day_26 : decode cX8_day 26 = .ok (.invokestatic 120, 3) := by decide +kernel
theorem dX8_day_29 : decode cX8_day 29 = .ok (.ifCond .eq 11, 3) := by decide +kernel
theorem dX8_day_32 : decode cX8_day 32 = .ok (.iload 5, 2) := by decide +kernel
theorem dX8_day_34 : decode cX8_day 34 = .ok (.invokestatic 159, 3) := by decide +kernel
theorem dX8_day_37 : decode cX8_day 37 = .ok (.ifCond .ne 6, 3) := by decide +kernel
theorem dX8_day_40 : decode cX8_day 40 = .ok (.bipush (-2), 2) := by decide +kernel
theorem dX8_day_42 : decode cX8_day 42 = .ok (.ireturn, 1) := by decide +kernel
theorem dX8_day_43 : decode cX8_day 43 = .ok (.aload_n 0, 1) := by decide +kernel
theorem dX8_day_44 : decode cX8_day 44 = .ok (.getfield 12, 3) := by decide +kernel
theorem dX8_day_47 : decode cX8_day 47 = .ok (.getfield 94, 3) := by decide +kernel
theorem dX8_day_50 : decode cX8_day 50 = .ok (.ifCond .ne 6, 3) := by decide +kernel
theorem dX8_day_53 : decode cX8_day 53 = .ok (.bipush (-3), 2) := by decide +kernel
theorem dX8_day_55 : decode cX8_day 55 = .ok (.ireturn, 1) := by decide +kernel
theorem dX8_day_56 : decode cX8_day 56 = .ok (.aload_n 0, 1) := by decide +kernel
theorem dX8_day_57 : decode cX8_day 57 = .ok (.getfield 51, 3) := by decide +kernel
theorem dX8_day_60 : decode cX8_day 60 = .ok (.iload_n 1, 1) := by decide +kernel
theorem dX8_day_61 : decode cX8_day 61 = .ok (.aaload, 1) := by decide +kernel
theorem dX8_day_62 : decode cX8_day 62 = .ok (.iload_n 2, 1) := by decide +kernel
theorem dX8_day_63 : decode cX8_day 63 = .ok (.iload_n 3, 1) := by decide +kernel
theorem dX8_day_64 : decode cX8_day 64 = .ok (.iconst 2, 1) := by decide +kernel
theorem dX8_day_65 : decode cX8_day 65 = .ok (.iload 4, 2) := by decide +kernel
theorem dX8_day_67 : decode cX8_day 67 = .ok (.imul, 1) := by decide +kernel
theorem dX8_day_68 : decode cX8_day 68 = .ok (.invokevirtual 67, 3) := by decide +kernel
theorem dX8_day_71 : decode cX8_day 71 = .ok (.istore 6, 2) := by decide +kernel
theorem dX8_day_73 : decode cX8_day 73 = .ok (.iload 6, 2) := by decide +kernel
theorem dX8_day_75 : decode cX8_day 75 = .ok (.ifCond .eq 10, 3) := by decide +kernel
theorem dX8_day_78 : decode cX8_day 78 = .ok (.aload_n 0, 1) := by decide +kernel
theorem dX8_day_79 : decode cX8_day 79 = .ok (.iload 6, 2) := by decide +kernel
theorem dX8_day_81 : decode cX8_day 81 = .ok (.invokevirtual 71, 3) := by decide +kernel
theorem dX8_day_84 : decode cX8_day 84 = .ok (.ireturn, 1) := by decide +kernel
theorem dX8_day_85 : decode cX8_day 85 = .ok (.aload_n 0, 1) := by decide +kernel
theorem dX8_day_86 : decode cX8_day 86 = .ok (.getfield 51, 3) := by decide +kernel
theorem dX8_day_89 : decode cX8_day 89 = .ok (.iload_n 1, 1) := by decide +kernel
theorem dX8_day_90 : decode cX8_day 90 = .ok (.aaload, 1) := by decide +kernel
theorem dX8_day_91 : decode cX8_day 91 = .ok (.iload_n 3, 1) := by decide +kernel
theorem dX8_day_92 : decode cX8_day 92 = .ok (.iload 4, 2) := by decide +kernel
theorem dX8_day_94 : decode cX8_day 94 = .ok (.invokestatic 162, 3) := by decide +kernel
theorem dX8_day_97 : decode cX8_day 97 = .ok (.ifCond .ne 6, 3) := by decide +kernel
theorem dX8_day_100 : decode cX8_day 100 = .ok (.bipush (-2), 2) := by decide +kernel
theorem dX8_day_102 : decode cX8_day 102 = .ok (.ireturn, 1) := by decide +kernel
theorem dX8_day_103 : decode cX8_day 103 = .ok (.aload_n 0, 1) := by decide +kernel
theorem dX8_day_104 : decode cX8_day 104 = .ok (.getfield 25, 3) := by decide +kernel
theorem dX8_day_107 : decode cX8_day 107 = .ok (.aload_n 0, 1) := by decide +kernel
theorem dX8_day_108 : decode cX8_day 108 = .ok (.getfield 21, 3) := by decide +kernel
theorem dX8_day_111 : decode cX8_day 111 = .ok (.invokevirtual 166, 3) := by decide +kernel
theorem dX8_day_114 : decode cX8_day 114 = .ok (.aload_n 0, 1) := by decide +kernel
theorem dX8_day_115 : decode cX8_day 115 = .ok (.aload_n 0, 1) := by decide +kernel
theorem dX8_day_116 : decode cX8_day 116 = .ok (.getfield 51, 3) := by decide +kernel
theorem dX8_day_119 : decode cX8_day 119 = .ok (.iload_n 1, 1) := by decide +kernel
theorem dX8_day_120 : decode cX8_day 120 = .ok (.aaload, 1) := by decide +kernel
theorem dX8_day_121 : decode cX8_day 121 = .ok (.iload_n 3, 1) := by decide +kernel
theorem dX8_day_122 : decode cX8_day 122 = .ok (.iload 4, 2) := by decide +kernel
theorem dX8_day_124 : decode cX8_day 124 = .ok (.invokevirtual 170, 3) := by decide +kernel
theorem dX8_day_127 : decode cX8_day 127 = .ok (.istore 7, 2) := by decide +kernel
theorem dX8_day_129 : decode cX8_day 129 = .ok (.iload 5, 2) := by decide +kernel
theorem dX8_day_131 : decode cX8_day 131 = .ok (.iconst 1, 1) := by decide +kernel
theorem dX8_day_132 : decode cX8_day 132 = .ok (.if_icmp .ne 6, 3) := by decide +kernel
theorem dX8_day_135 : decode cX8_day 135 = .ok (.iload 7, 2) := by decide +kernel
theorem dX8_day_137 : decode cX8_day 137 = .ok (.ireturn, 1) := by decide +kernel
theorem dX8_day_138 : decode cX8_day 138 = .ok (.iload 7, 2) := by decide +kernel
theorem dX8_day_140 : decode cX8_day 140 = .ok (.bipush (-9), 2) := by decide +kernel
theorem dX8_day_142 : decode cX8_day 142 = .ok (.if_icmp .ne 12, 3) := by decide +kernel
theorem dX8_day_145 : decode cX8_day 145 = .ok (.aload_n 0, 1) := by decide +kernel
theorem dX8_day_146 : decode cX8_day 146 = .ok (.iload 5, 2) := by decide +kernel
theorem dX8_day_148 : decode cX8_day 148 = .ok (.invokevirtual 173, 3) := by decide +kernel
theorem dX8_day_151 : decode cX8_day 151 = .ok (.goto 8, 3) := by decide +kernel
theorem dX8_day_154 : decode cX8_day 154 = .ok (.bipush (-100), 2) := by decide +kernel
theorem dX8_day_156 : decode cX8_day 156 = .ok (.iload 7, 2) := by decide +kernel
theorem dX8_day_158 : decode cX8_day 158 = .ok (.isub, 1) := by decide +kernel
theorem dX8_day_159 : decode cX8_day 159 = .ok (.ireturn, 1) := by decide +kernel
theorem dX8_peak_0 : decode cX8_peak 0 = .ok (.aload_n 0, 1) := by decide +kernel
theorem dX8_peak_1 : decode cX8_peak 1 = .ok (.getfield 12, 3) := by decide +kernel
theorem dX8_peak_4 : decode cX8_peak 4 = .ok (.iload_n 1, 1) := by decide +kernel
theorem dX8_peak_5 : decode cX8_peak 5 = .ok (.invokevirtual 95, 3) := by decide +kernel
theorem dX8_peak_8 : decode cX8_peak 8 = .ok (.ifCond .ne 5, 3) := by decide +kernel
theorem dX8_peak_11 : decode cX8_peak 11 = .ok (.iconst (-1), 1) := by decide +kernel
theorem dX8_peak_12 : decode cX8_peak 12 = .ok (.ireturn, 1) := by decide +kernel
theorem dX8_peak_13 : decode cX8_peak 13 = .ok (.iload_n 2, 1) := by decide +kernel
theorem dX8_peak_14 : decode cX8_peak 14 = .ok (.iconst 0, 1) := by decide +kernel
theorem dX8_peak_15 : decode cX8_peak 15 = .ok (.iconst 2, 1) := by decide +kernel
theorem dX8_peak_16 : decode cX8_peak 16 = .ok (.invokestatic 120, 3) := by decide +kernel
theorem dX8_peak_19 : decode cX8_peak 19 = .ok (.ifCond .ne 6, 3) := by decide +kernel
theorem dX8_peak_22 : decode cX8_peak 22 = .ok (.bipush (-2), 2) := by decide +kernel
theorem dX8_peak_24 : decode cX8_peak 24 = .ok (.ireturn, 1) := by decide +kernel
theorem dX8_peak_25 : decode cX8_peak 25 = .ok (.iconst (-1), 1) := by decide +kernel
theorem dX8_peak_26 : decode cX8_peak 26 = .ok (.istore_n 3, 1) := by decide +kernel
theorem dX8_peak_27 : decode cX8_peak 27 = .ok (.iconst 0, 1) := by decide +kernel
theorem dX8_peak_28 : decode cX8_peak 28 = .ok (.istore 4, 2) := by decide +kernel
theorem dX8_peak_30 : decode cX8_peak 30 = .ok (.iconst 0, 1) := by decide +kernel
theorem dX8_peak_31 : decode cX8_peak 31 = .ok (.istore 5, 2) := by decide +kernel
theorem dX8_peak_33 : decode cX8_peak 33 = .ok (.bipush (-5), 2) := by decide +kernel
theorem dX8_peak_35 : decode cX8_peak 35 = .ok (.istore 6, 2) := by decide +kernel
theorem dX8_peak_37 : decode cX8_peak 37 = .ok (.iload 6, 2) := by decide +kernel
theorem dX8_peak_39 : decode cX8_peak 39 = .ok (.iconst 5, 1) := by decide +kernel
theorem dX8_peak_40 : decode cX8_peak 40 = .ok (.if_icmp .gt 71, 3) := by decide +kernel
theorem dX8_peak_43 : decode cX8_peak 43 = .ok (.bipush (-5), 2) := by decide +kernel
theorem dX8_peak_45 : decode cX8_peak 45 = .ok (.istore 7, 2) := by decide +kernel
theorem dX8_peak_47 : decode cX8_peak 47 = .ok (.iload 7, 2) := by decide +kernel
theorem dX8_peak_49 : decode cX8_peak 49 = .ok (.iconst 5, 1) := by decide +kernel
theorem dX8_peak_50 : decode cX8_peak 50 = .ok (.if_icmp .gt 55, 3) := by decide +kernel
theorem dX8_peak_53 : decode cX8_peak 53 = .ok (.iload 6, 2) := by decide +kernel
theorem dX8_peak_55 : decode cX8_peak 55 = .ok (.ifCond .ne 12, 3) := by decide +kernel
theorem dX8_peak_58 : decode cX8_peak 58 = .ok (.iload 7, 2) := by decide +kernel
theorem dX8_peak_60 : decode cX8_peak 60 = .ok (.ifCond .ne 7, 3) := by decide +kernel
theorem dX8_peak_63 : decode cX8_peak 63 = .ok (.iconst (-1), 1) := by decide +kernel
theorem dX8_peak_64 : decode cX8_peak 64 = .ok (.goto 16, 3) := by decide +kernel
theorem dX8_peak_67 : decode cX8_peak 67 = .ok (.aload_n 0, 1) := by decide +kernel
theorem dX8_peak_68 : decode cX8_peak 68 = .ok (.getfield 12, 3) := by decide +kernel
theorem dX8_peak_71 : decode cX8_peak 71 = .ok (.iload_n 1, 1) := by decide +kernel
theorem dX8_peak_72 : decode cX8_peak 72 = .ok (.iload_n 1, 1) := by decide +kernel
theorem dX8_peak_73 : decode cX8_peak 73 = .ok (.iload 6, 2) := by decide +kernel
theorem dX8_peak_75 : decode cX8_peak 75 = .ok (.iload 7, 2) := by decide +kernel
theorem dX8_peak_77 : decode cX8_peak 77 = .ok (.invokevirtual 134, 3) := by decide +kernel
theorem dX8_peak_80 : decode cX8_peak 80 = .ok (.istore 8, 2) := by decide +kernel
theorem dX8_peak_82 : decode cX8_peak 82 = .ok (.iload 8, 2) := by decide +kernel
theorem dX8_peak_84 : decode cX8_peak 84 = .ok (.iload_n 3, 1) := by decide +kernel
theorem dX8_peak_85 : decode cX8_peak 85 = .ok (.if_icmp .le 14, 3) := by decide +kernel
theorem dX8_peak_88 : decode cX8_peak 88 = .ok (.iload 8, 2) := by decide +kernel
theorem dX8_peak_90 : decode cX8_peak 90 = .ok (.istore_n 3, 1) := by decide +kernel
theorem dX8_peak_91 : decode cX8_peak 91 = .ok (.iload 6, 2) := by decide +kernel
theorem dX8_peak_93 : decode cX8_peak 93 = .ok (.istore 4, 2) := by decide +kernel
theorem dX8_peak_95 : decode cX8_peak 95 = .ok (.iload 7, 2) := by decide +kernel
theorem dX8_peak_97 : decode cX8_peak 97 = .ok (.istore 5, 2) := by decide +kernel
theorem dX8_peak_99 : decode cX8_peak 99 = .ok (.iinc 7 1, 3) := by decide +kernel
theorem dX8_peak_102 : decode cX8_peak 102 = .ok (.goto (-55), 3) := by decide +kernel
theorem dX8_peak_105 : decode cX8_peak 105 = .ok (.iinc 6 1, 3) := by decide +kernel
theorem dX8_peak_108 : decode cX8_peak 108 = .ok (.goto (-71), 3) := by decide +kernel
theorem dX8_peak_111 : decode cX8_peak 111 = .ok (.iload_n 2, 1) := by decide +kernel
theorem dX8_peak_112 : decode cX8_peak 112 = .ok (.ifCond .ne 5, 3) := by decide +kernel
theorem dX8_peak_115 : decode cX8_peak 115 = .ok (.iload_n 3, 1) := by decide +kernel
theorem dX8_peak_116 : decode cX8_peak 116 = .ok (.ireturn, 1) := by decide +kernel
theorem dX8_peak_117 : decode cX8_peak 117 = .ok (.iload_n 2, 1) := by decide +kernel
theorem dX8_peak_118 : decode cX8_peak 118 = .ok (.iconst 1, 1) := by decide +kernel
theorem dX8_peak_119 : decode cX8_peak 119 = .ok (.if_icmp .ne 8, 3) := by decide +kernel
theorem dX8_peak_122 : decode cX8_peak 122 = .ok (.iload 4, 2) := by decide +kernel
theorem dX8_peak_124 : decode cX8_peak 124 = .ok (.goto 5, 3) := by decide +kernel
theorem dX8_peak_127 : decode cX8_peak 127 = .ok (.iload 5, 2) := by decide +kernel
theorem dX8_peak_129 : decode cX8_peak 129 = .ok (.ireturn, 1) := by decide +kernel
theorem dX8_clash_0 : decode cX8_clash 0 = .ok (.aload_n 0, 1) := by decide +kernel
theorem dX8_clash_1 : decode cX8_clash 1 = .ok (.getfield 12, 3) := by decide +kernel
theorem dX8_clash_4 : decode cX8_clash 4 = .ok (.iload_n 1, 1) := by decide +kernel
theorem dX8_clash_5 : decode cX8_clash 5 = .ok (.invokevirtual 95, 3) := by decide +kernel
theorem dX8_clash_8 : decode cX8_clash 8 = .ok (.ifCond .eq 14, 3) := by decide +kernel
theorem dX8_clash_11 : decode cX8_clash 11 = .ok (.aload_n 0, 1) := by decide +kernel
theorem dX8_clash_12 : decode cX8_clash 12 = .ok (.getfield 12, 3) := by decide +kernel
theorem dX8_clash_15 : decode cX8_clash 15 = .ok (.iload_n 2, 1) := by decide +kernel
theorem dX8_clash_16 : decode cX8_clash 16 = .ok (.invokevirtual 95, 3) := by decide +kernel
theorem dX8_clash_19 : decode cX8_clash 19 = .ok (.ifCond .ne 5, 3) := by decide +kernel
theorem dX8_clash_22 : decode cX8_clash 22 = .ok (.iconst (-1), 1) := by decide +kernel
theorem dX8_clash_23 : decode cX8_clash 23 = .ok (.ireturn, 1) := by decide +kernel
theorem dX8_clash_24 : decode cX8_clash 24 = .ok (.iconst 0, 1) := by decide +kernel
theorem dX8_clash_25 : decode cX8_clash 25 = .ok (.istore_n 3, 1) := by decide +kernel
theorem dX8_clash_26 : decode cX8_clash 26 = .ok (.bipush (-5), 2) := by decide +kernel
theorem dX8_clash_28 : decode cX8_clash 28 = .ok (.istore 4, 2) := by decide +kernel
theorem dX8_clash_30 : decode cX8_clash 30 = .ok (.iload 4, 2) := by decide +kernel
theorem dX8_clash_32 : decode cX8_clash 32 = .ok (.iconst 5, 1) := by decide +kernel
theorem dX8_clash_33 : decode cX8_clash 33 = .ok (.if_icmp .gt 43, 3) := by decide +kernel
theorem dX8_clash_36 : decode cX8_clash 36 = .ok (.bipush (-5), 2) := by decide +kernel
theorem dX8_clash_38 : decode cX8_clash 38 = .ok (.istore 5, 2) := by decide +kernel
theorem dX8_clash_40 : decode cX8_clash 40 = .ok (.iload 5, 2) := by decide +kernel
theorem dX8_clash_42 : decode cX8_clash 42 = .ok (.iconst 5, 1) := by decide +kernel
theorem dX8_clash_43 : decode cX8_clash 43 = .ok (.if_icmp .gt 27, 3) := by decide +kernel
theorem dX8_clash_46 : decode cX8_clash 46 = .ok (.iload_n 3, 1) := by decide +kernel
theorem dX8_clash_47 : decode cX8_clash 47 = .ok (.aload_n 0, 1) := by decide +kernel
theorem dX8_clash_48 : decode cX8_clash 48 = .ok (.getfield 12, 3) := by decide +kernel
theorem dX8_clash_51 : decode cX8_clash 51 = .ok (.iload_n 1, 1) := by decide +kernel
theorem dX8_clash_52 : decode cX8_clash 52 = .ok (.iload_n 2, 1) := by decide +kernel
theorem dX8_clash_53 : decode cX8_clash 53 = .ok (.iload 4, 2) := by decide +kernel
theorem dX8_clash_55 : decode cX8_clash 55 = .ok (.iload 5, 2) := by decide +kernel
theorem dX8_clash_57 : decode cX8_clash 57 = .ok (.invokevirtual 134, 3) := by decide +kernel
theorem dX8_clash_60 : decode cX8_clash 60 = .ok (.invokestatic 176, 3) := by decide +kernel
theorem dX8_clash_63 : decode cX8_clash 63 = .ok (.istore_n 3, 1) := by decide +kernel
theorem dX8_clash_64 : decode cX8_clash 64 = .ok (.iinc 5 1, 3) := by decide +kernel
theorem dX8_clash_67 : decode cX8_clash 67 = .ok (.goto (-27), 3) := by decide +kernel
theorem dX8_clash_70 : decode cX8_clash 70 = .ok (.iinc 4 1, 3) := by decide +kernel
theorem dX8_clash_73 : decode cX8_clash 73 = .ok (.goto (-43), 3) := by decide +kernel
theorem dX8_clash_76 : decode cX8_clash 76 = .ok (.iload_n 3, 1) := by decide +kernel
theorem dX8_clash_77 : decode cX8_clash 77 = .ok (.ireturn, 1) := by decide +kernel
theorem dX8_rows_0 : decode cX8_rows 0 = .ok (.aload_n 0, 1) := by decide +kernel
theorem dX8_rows_1 : decode cX8_rows 1 = .ok (.getfield 12, 3) := by decide +kernel
theorem dX8_rows_4 : decode cX8_rows 4 = .ok (.getfield 94, 3) := by decide +kernel
theorem dX8_rows_7 : decode cX8_rows 7 = .ok (.ifCond .ne 6, 3) := by decide +kernel
theorem dX8_rows_10 : decode cX8_rows 10 = .ok (.bipush (-3), 2) := by decide +kernel
theorem dX8_rows_12 : decode cX8_rows 12 = .ok (.ireturn, 1) := by decide +kernel
theorem dX8_rows_13 : decode cX8_rows 13 = .ok (.aload_n 0, 1) := by decide +kernel
theorem dX8_rows_14 : decode cX8_rows 14 = .ok (.getfield 38, 3) := by decide +kernel
theorem dX8_rows_17 : decode cX8_rows 17 = .ok (.aload_n 0, 1) := by decide +kernel
theorem dX8_rows_18 : decode cX8_rows 18 = .ok (.getfield 12, 3) := by decide +kernel
theorem dX8_rows_21 : decode cX8_rows 21 = .ok (.getfield 106, 3) := by decide +kernel
theorem dX8_rows_24 : decode cX8_rows 24 = .ok (.invokevirtual 182, 3) := by decide +kernel
theorem dX8_rows_27 : decode cX8_rows 27 = .ok (.aload_n 0, 1) := by decide +kernel
theorem dX8_rows_28 : decode cX8_rows 28 = .ok (.getfield 38, 3) := by decide +kernel
theorem dX8_rows_31 : decode cX8_rows 31 = .ok (.getfield 186, 3) := by decide +kernel
theorem dX8_rows_34 : decode cX8_rows 34 = .ok (.ireturn, 1) := by decide +kernel
theorem dX8_ways_0 : decode cX8_ways 0 = .ok (.aload_n 0, 1) := by decide +kernel
theorem dX8_ways_1 : decode cX8_ways 1 = .ok (.getfield 12, 3) := by decide +kernel
theorem dX8_ways_4 : decode cX8_ways 4 = .ok (.iload_n 1, 1) := by decide +kernel
theorem dX8_ways_5 : decode cX8_ways 5 = .ok (.invokevirtual 95, 3) := by decide +kernel
theorem dX8_ways_8 : decode cX8_ways 8 = .ok (.ifCond .ne 5, 3) := by decide +kernel
theorem dX8_ways_11 : decode cX8_ways 11 = .ok (.iconst (-1), 1) := by decide +kernel
theorem dX8_ways_12 : decode cX8_ways 12 = .ok (.ireturn, 1) := by decide +kernel
theorem dX8_ways_13 : decode cX8_ways 13 = .ok (.iload_n 2, 1) := by decide +kernel
theorem dX8_ways_14 : decode cX8_ways 14 = .ok (.iconst (-1), 1) := by decide +kernel
theorem dX8_ways_15 : decode cX8_ways 15 = .ok (.iconst 5, 1) := by decide +kernel
theorem dX8_ways_16 : decode cX8_ways 16 = .ok (.invokestatic 120, 3) := by decide +kernel
theorem dX8_ways_19 : decode cX8_ways 19 = .ok (.ifCond .ne 6, 3) := by decide +kernel
theorem dX8_ways_22 : decode cX8_ways 22 = .ok (.bipush (-2), 2) := by decide +kernel
theorem dX8_ways_24 : decode cX8_ways 24 = .ok (.ireturn, 1) := by decide +kernel
theorem dX8_ways_25 : decode cX8_ways 25 = .ok (.aload_n 0, 1) := by decide +kernel
theorem dX8_ways_26 : decode cX8_ways 26 = .ok (.getfield 38, 3) := by decide +kernel
theorem dX8_ways_29 : decode cX8_ways 29 = .ok (.aload_n 0, 1) := by decide +kernel
theorem dX8_ways_30 : decode cX8_ways 30 = .ok (.getfield 12, 3) := by decide +kernel
theorem dX8_ways_33 : decode cX8_ways 33 = .ok (.getfield 106, 3) := by decide +kernel
theorem dX8_ways_36 : decode cX8_ways 36 = .ok (.invokevirtual 182, 3) := by decide +kernel
theorem dX8_ways_39 : decode cX8_ways 39 = .ok (.aload_n 0, 1) := by decide +kernel
theorem dX8_ways_40 : decode cX8_ways 40 = .ok (.getfield 12, 3) := by decide +kernel
theorem dX8_ways_43 : decode cX8_ways 43 = .ok (.getfield 98, 3) := by decide +kernel
theorem dX8_ways_46 : decode cX8_ways 46 = .ok (.iload_n 1, 1) := by decide +kernel
theorem dX8_ways_47 : decode cX8_ways 47 = .ok (.aaload, 1) := by decide +kernel
theorem dX8_ways_48 : decode cX8_ways 48 = .ok (.getfield 112, 3) := by decide +kernel
theorem dX8_ways_51 : decode cX8_ways 51 = .ok (.astore_n 3, 1) := by decide +kernel
theorem dX8_ways_52 : decode cX8_ways 52 = .ok (.iload_n 2, 1) := by decide +kernel
theorem dX8_ways_53 : decode cX8_ways 53 = .ok (.iconst (-1), 1) := by decide +kernel
theorem dX8_ways_54 : decode cX8_ways 54 = .ok (.if_icmp .ne 14, 3) := by decide +kernel
theorem dX8_ways_57 : decode cX8_ways 57 = .ok (.aload_n 0, 1) := by decide +kernel
theorem dX8_ways_58 : decode cX8_ways 58 = .ok (.getfield 38, 3) := by decide +kernel
theorem dX8_ways_61 : decode cX8_ways 61 = .ok (.aload_n 3, 1) := by decide +kernel
theorem dX8_ways_62 : decode cX8_ways 62 = .ok (.invokevirtual 187, 3) := by decide +kernel
theorem dX8_ways_65 : decode cX8_ways 65 = .ok (.goto 19, 3) := by decide +kernel
theorem dX8_ways_68 : decode cX8_ways 68 = .ok (.aload_n 0, 1) := by decide +kernel
theorem dX8_ways_69 : decode cX8_ways 69 = .ok (.getfield 38, 3) := by decide +kernel
theorem dX8_ways_72 : decode cX8_ways 72 = .ok (.aload_n 0, 1) := by decide +kernel
theorem dX8_ways_73 : decode cX8_ways 73 = .ok (.getfield 38, 3) := by decide +kernel
theorem dX8_ways_76 : decode cX8_ways 76 = .ok (.aload_n 3, 1) := by decide +kernel
theorem dX8_ways_77 : decode cX8_ways 77 = .ok (.invokevirtual 191, 3) := by decide +kernel
theorem dX8_ways_80 : decode cX8_ways 80 = .ok (.iload_n 2, 1) := by decide +kernel
theorem dX8_ways_81 : decode cX8_ways 81 = .ok (.invokevirtual 194, 3) := by decide +kernel
theorem dX8_ways_84 : decode cX8_ways 84 = .ok (.ireturn, 1) := by decide +kernel
theorem dX8_next_0 : decode cX8_next 0 = .ok (.aload_n 0, 1) := by decide +kernel
theorem dX8_next_1 : decode cX8_next 1 = .ok (.getfield 12, 3) := by decide +kernel
theorem dX8_next_4 : decode cX8_next 4 = .ok (.iload_n 1, 1) := by decide +kernel
theorem dX8_next_5 : decode cX8_next 5 = .ok (.invokevirtual 95, 3) := by decide +kernel
theorem dX8_next_8 : decode cX8_next 8 = .ok (.ifCond .ne 5, 3) := by decide +kernel
theorem dX8_next_11 : decode cX8_next 11 = .ok (.iconst (-1), 1) := by decide +kernel
theorem dX8_next_12 : decode cX8_next 12 = .ok (.ireturn, 1) := by decide +kernel
theorem dX8_next_13 : decode cX8_next 13 = .ok (.iload_n 2, 1) := by decide +kernel
theorem dX8_next_14 : decode cX8_next 14 = .ok (.iconst 0, 1) := by decide +kernel
theorem dX8_next_15 : decode cX8_next 15 = .ok (.iconst 5, 1) := by decide +kernel
theorem dX8_next_16 : decode cX8_next 16 = .ok (.invokestatic 120, 3) := by decide +kernel
theorem dX8_next_19 : decode cX8_next 19 = .ok (.ifCond .ne 6, 3) := by decide +kernel
theorem dX8_next_22 : decode cX8_next 22 = .ok (.bipush (-2), 2) := by decide +kernel
theorem dX8_next_24 : decode cX8_next 24 = .ok (.ireturn, 1) := by decide +kernel
theorem dX8_next_25 : decode cX8_next 25 = .ok (.aload_n 0, 1) := by decide +kernel
theorem dX8_next_26 : decode cX8_next 26 = .ok (.getfield 12, 3) := by decide +kernel
theorem dX8_next_29 : decode cX8_next 29 = .ok (.getfield 98, 3) := by decide +kernel
theorem dX8_next_32 : decode cX8_next 32 = .ok (.iload_n 1, 1) := by decide +kernel
theorem dX8_next_33 : decode cX8_next 33 = .ok (.aaload, 1) := by decide +kernel
theorem dX8_next_34 : decode cX8_next 34 = .ok (.aload_n 0, 1) := by decide +kernel
theorem dX8_next_35 : decode cX8_next 35 = .ok (.getfield 12, 3) := by decide +kernel
theorem dX8_next_38 : decode cX8_next 38 = .ok (.getfield 106, 3) := by decide +kernel
theorem dX8_next_41 : decode cX8_next 41 = .ok (.invokevirtual 109, 3) := by decide +kernel
theorem dX8_next_44 : decode cX8_next 44 = .ok (.ifCond .le 6, 3) := by decide +kernel
theorem dX8_next_47 : decode cX8_next 47 = .ok (.bipush (-3), 2) := by decide +kernel
theorem dX8_next_49 : decode cX8_next 49 = .ok (.ireturn, 1) := by decide +kernel
theorem dX8_next_50 : decode cX8_next 50 = .ok (.aload_n 0, 1) := by decide +kernel
theorem dX8_next_51 : decode cX8_next 51 = .ok (.getfield 38, 3) := by decide +kernel
theorem dX8_next_54 : decode cX8_next 54 = .ok (.aload_n 0, 1) := by decide +kernel
theorem dX8_next_55 : decode cX8_next 55 = .ok (.getfield 12, 3) := by decide +kernel
theorem dX8_next_58 : decode cX8_next 58 = .ok (.getfield 106, 3) := by decide +kernel
theorem dX8_next_61 : decode cX8_next 61 = .ok (.invokevirtual 182, 3) := by decide +kernel
theorem dX8_next_64 : decode cX8_next 64 = .ok (.aload_n 0, 1) := by decide +kernel
theorem dX8_next_65 : decode cX8_next 65 = .ok (.getfield 38, 3) := by decide +kernel
theorem dX8_next_68 : decode cX8_next 68 = .ok (.aload_n 0, 1) := by decide +kernel
theorem dX8_next_69 : decode cX8_next 69 = .ok (.getfield 38, 3) := by decide +kernel
theorem dX8_next_72 : decode cX8_next 72 = .ok (.aload_n 0, 1) := by decide +kernel
theorem dX8_next_73 : decode cX8_next 73 = .ok (.getfield 12, 3) := by decide +kernel
theorem dX8_next_76 : decode cX8_next 76 = .ok (.getfield 98, 3) := by decide +kernel
theorem dX8_next_79 : decode cX8_next 79 = .ok (.iload_n 1, 1) := by decide +kernel
theorem dX8_next_80 : decode cX8_next 80 = .ok (.aaload, 1) := by decide +kernel
theorem dX8_next_81 : decode cX8_next 81 = .ok (.getfield 112, 3) := by decide +kernel
theorem dX8_next_84 : decode cX8_next 84 = .ok (.invokevirtual 197, 3) := by decide +kernel
theorem dX8_next_87 : decode cX8_next 87 = .ok (.iload_n 2, 1) := by decide +kernel
theorem dX8_next_88 : decode cX8_next 88 = .ok (.invokevirtual 194, 3) := by decide +kernel
theorem dX8_next_91 : decode cX8_next 91 = .ok (.ireturn, 1) := by decide +kernel
theorem dX8_reading_0 : decode cX8_reading 0 = .ok (.aload_n 0, 1) := by decide +kernel
theorem dX8_reading_1 : decode cX8_reading 1 = .ok (.getfield 12, 3) := by decide +kernel
theorem dX8_reading_4 : decode cX8_reading 4 = .ok (.iload_n 1, 1) := by decide +kernel
theorem dX8_reading_5 : decode cX8_reading 5 = .ok (.invokevirtual 95, 3) := by decide +kernel
theorem dX8_reading_8 : decode cX8_reading 8 = .ok (.ifCond .eq 14, 3) := by decide +kernel
theorem dX8_reading_11 : decode cX8_reading 11 = .ok (.aload_n 0, 1) := by decide +kernel
theorem dX8_reading_12 : decode cX8_reading 12 = .ok (.getfield 12, 3) := by decide +kernel
theorem dX8_reading_15 : decode cX8_reading 15 = .ok (.iload_n 2, 1) := by decide +kernel
theorem dX8_reading_16 : decode cX8_reading 16 = .ok (.invokevirtual 95, 3) := by decide +kernel
theorem dX8_reading_19 : decode cX8_reading 19 = .ok (.ifCond .ne 5, 3) := by decide +kernel
theorem dX8_reading_22 : decode cX8_reading 22 = .ok (.iconst (-1), 1) := by decide +kernel
theorem dX8_reading_23 : decode cX8_reading 23 = .ok (.ireturn, 1) := by decide +kernel
theorem dX8_reading_24 : decode cX8_reading 24 = .ok (.iload_n 3, 1) := by decide +kernel
theorem dX8_reading_25 : decode cX8_reading 25 = .ok (.invokestatic 131, 3) := by decide +kernel
theorem dX8_reading_28 : decode cX8_reading 28 = .ok (.ifCond .eq 22, 3) := by decide +kernel
theorem dX8_reading_31 : decode cX8_reading 31 = .ok (.iload 4, 2) := by decide +kernel
theorem dX8_reading_33 : decode cX8_reading 33 = .ok (.invokestatic 131, 3) := by decide +kernel
theorem dX8_reading_36 : decode cX8_reading 36 = .ok (.ifCond .eq 14, 3) := by decide +kernel
theorem dX8_reading_39 : decode cX8_reading 39 = .ok (.iload 5, 2) := by decide +kernel
theorem dX8_reading_41 : decode cX8_reading 41 = .ok (.iconst 0, 1) := by decide +kernel
theorem dX8_reading_42 : decode cX8_reading 42 = .ok (.bipush 20, 2) := by decide +kernel
theorem dX8_reading_44 : decode cX8_reading 44 = .ok (.invokestatic 120, 3) := by decide +kernel
theorem dX8_reading_47 : decode cX8_reading 47 = .ok (.ifCond .ne 6, 3) := by decide +kernel
theorem dX8_reading_50 : decode cX8_reading 50 = .ok (.bipush (-2), 2) := by decide +kernel
theorem dX8_reading_52 : decode cX8_reading 52 = .ok (.ireturn, 1) := by decide +kernel
theorem dX8_reading_53 : decode cX8_reading 53 = .ok (.aload_n 0, 1) := by decide +kernel
theorem dX8_reading_54 : decode cX8_reading 54 = .ok (.getfield 31, 3) := by decide +kernel
theorem dX8_reading_57 : decode cX8_reading 57 = .ok (.iload_n 1, 1) := by decide +kernel
theorem dX8_reading_58 : decode cX8_reading 58 = .ok (.iload_n 2, 1) := by decide +kernel
theorem dX8_reading_59 : decode cX8_reading 59 = .ok (.iload_n 3, 1) := by decide +kernel
theorem dX8_reading_60 : decode cX8_reading 60 = .ok (.iload 4, 2) := by decide +kernel
theorem dX8_reading_62 : decode cX8_reading 62 = .ok (.iload 5, 2) := by decide +kernel
theorem dX8_reading_64 : decode cX8_reading 64 = .ok (.invokevirtual 200, 3) := by decide +kernel
theorem dX8_reading_67 : decode cX8_reading 67 = .ok (.ifCond .eq 15, 3) := by decide +kernel
theorem dX8_reading_70 : decode cX8_reading 70 = .ok (.aload_n 0, 1) := by decide +kernel
theorem dX8_reading_71 : decode cX8_reading 71 = .ok (.getfield 31, 3) := by decide +kernel
theorem dX8_reading_74 : decode cX8_reading 74 = .ok (.getfield 93, 3) := by decide +kernel
theorem dX8_reading_77 : decode cX8_reading 77 = .ok (.iconst 1, 1) := by decide +kernel
theorem dX8_reading_78 : decode cX8_reading 78 = .ok (.isub, 1) := by decide +kernel
theorem dX8_reading_79 : decode cX8_reading 79 = .ok (.goto 5, 3) := by decide +kernel
theorem dX8_reading_82 : decode cX8_reading 82 = .ok (.bipush (-4), 2) := by decide +kernel
theorem dX8_reading_84 : decode cX8_reading 84 = .ok (.ireturn, 1) := by decide +kernel
theorem dX8_back_0 : decode cX8_back 0 = .ok (.aload_n 0, 1) := by decide +kernel
theorem dX8_back_1 : decode cX8_back 1 = .ok (.getfield 31, 3) := by decide +kernel
theorem dX8_back_4 : decode cX8_back 4 = .ok (.iload_n 1, 1) := by decide +kernel
theorem dX8_back_5 : decode cX8_back 5 = .ok (.invokevirtual 203, 3) := by decide +kernel
theorem dX8_back_8 : decode cX8_back 8 = .ok (.ifCond .eq 13, 3) := by decide +kernel
theorem dX8_back_11 : decode cX8_back 11 = .ok (.aload_n 0, 1) := by decide +kernel
theorem dX8_back_12 : decode cX8_back 12 = .ok (.getfield 31, 3) := by decide +kernel
theorem dX8_back_15 : decode cX8_back 15 = .ok (.getfield 93, 3) := by decide +kernel
theorem dX8_back_18 : decode cX8_back 18 = .ok (.goto 5, 3) := by decide +kernel
theorem dX8_back_21 : decode cX8_back 21 = .ok (.bipush (-2), 2) := by decide +kernel
theorem dX8_back_23 : decode cX8_back 23 = .ok (.ireturn, 1) := by decide +kernel
theorem dX8_kinds_0 : decode cX8_kinds 0 = .ok (.aload_n 0, 1) := by decide +kernel
theorem dX8_kinds_1 : decode cX8_kinds 1 = .ok (.getfield 12, 3) := by decide +kernel
theorem dX8_kinds_4 : decode cX8_kinds 4 = .ok (.iload_n 1, 1) := by decide +kernel
theorem dX8_kinds_5 : decode cX8_kinds 5 = .ok (.invokevirtual 95, 3) := by decide +kernel
theorem dX8_kinds_8 : decode cX8_kinds 8 = .ok (.ifCond .ne 5, 3) := by decide +kernel
theorem dX8_kinds_11 : decode cX8_kinds 11 = .ok (.iconst (-1), 1) := by decide +kernel
theorem dX8_kinds_12 : decode cX8_kinds 12 = .ok (.ireturn, 1) := by decide +kernel
theorem dX8_kinds_13 : decode cX8_kinds 13 = .ok (.aload_n 0, 1) := by decide +kernel
theorem dX8_kinds_14 : decode cX8_kinds 14 = .ok (.getfield 12, 3) := by decide +kernel
theorem dX8_kinds_17 : decode cX8_kinds 17 = .ok (.getfield 98, 3) := by decide +kernel
theorem dX8_kinds_20 : decode cX8_kinds 20 = .ok (.iload_n 1, 1) := by decide +kernel
theorem dX8_kinds_21 : decode cX8_kinds 21 = .ok (.aaload, 1) := by decide +kernel
theorem dX8_kinds_22 : decode cX8_kinds 22 = .ok (.astore_n 2, 1) := by decide +kernel
theorem dX8_kinds_23 : decode cX8_kinds 23 = .ok (.aload_n 2, 1) := by decide +kernel
theorem dX8_kinds_24 : decode cX8_kinds 24 = .ok (.getfield 101, 3) := by decide +kernel
theorem dX8_kinds_27 : decode cX8_kinds 27 = .ok (.istore_n 3, 1) := by decide +kernel
theorem dX8_kinds_28 : decode cX8_kinds 28 = .ok (.iconst 0, 1) := by decide +kernel
theorem dX8_kinds_29 : decode cX8_kinds 29 = .ok (.istore 4, 2) := by decide +kernel
theorem dX8_kinds_31 : decode cX8_kinds 31 = .ok (.iconst 0, 1) := by decide +kernel
theorem dX8_kinds_32 : decode cX8_kinds 32 = .ok (.istore 5, 2) := by decide +kernel
theorem dX8_kinds_34 : decode cX8_kinds 34 = .ok (.iload 5, 2) := by decide +kernel
theorem dX8_kinds_36 : decode cX8_kinds 36 = .ok (.iconst 2, 1) := by decide +kernel
theorem dX8_kinds_37 : decode cX8_kinds 37 = .ok (.if_icmp .gt 38, 3) := by decide +kernel
theorem dX8_kinds_40 : decode cX8_kinds 40 = .ok (.aload_n 2, 1) := by decide +kernel
theorem dX8_kinds_41 : decode cX8_kinds 41 = .ok (.iload 5, 2) := by decide +kernel
theorem dX8_kinds_43 : decode cX8_kinds 43 = .ok (.putfield 101, 3) := by decide +kernel
theorem dX8_kinds_46 : decode cX8_kinds 46 = .ok (.aload_n 0, 1) := by decide +kernel
theorem dX8_kinds_47 : decode cX8_kinds 47 = .ok (.getfield 31, 3) := by decide +kernel
theorem dX8_kinds_50 : decode cX8_kinds 50 = .ok (.aload_n 0, 1) := by decide +kernel
theorem dX8_kinds_51 : decode cX8_kinds 51 = .ok (.getfield 12, 3) := by decide +kernel
theorem dX8_kinds_54 : decode cX8_kinds 54 = .ok (.invokevirtual 204, 3) := by decide +kernel
theorem dX8_kinds_57 : decode cX8_kinds 57 = .ok (.ifCond .eq 12, 3) := by decide +kernel
theorem dX8_kinds_60 : decode cX8_kinds 60 = .ok (.iload 4, 2) := by decide +kernel
theorem dX8_kinds_62 : decode cX8_kinds 62 = .ok (.iconst 1, 1) := by decide +kernel
theorem dX8_kinds_63 : decode cX8_kinds 63 = .ok (.iload 5, 2) := by decide +kernel
theorem dX8_kinds_65 : decode cX8_kinds 65 = .ok (.ishl, 1) := by decide +kernel
theorem dX8_kinds_66 : decode cX8_kinds 66 = .ok (.ior, 1) := by decide +kernel
theorem dX8_kinds_67 : decode cX8_kinds 67 = .ok (.istore 4, 2) := by decide +kernel
theorem dX8_kinds_69 : decode cX8_kinds 69 = .ok (.iinc 5 1, 3) := by decide +kernel
theorem dX8_kinds_72 : decode cX8_kinds 72 = .ok (.goto (-38), 3) := by decide +kernel
theorem dX8_kinds_75 : decode cX8_kinds 75 = .ok (.aload_n 2, 1) := by decide +kernel
theorem dX8_kinds_76 : decode cX8_kinds 76 = .ok (.iload_n 3, 1) := by decide +kernel
theorem dX8_kinds_77 : decode cX8_kinds 77 = .ok (.putfield 101, 3) := by decide +kernel
theorem dX8_kinds_80 : decode cX8_kinds 80 = .ok (.iload 4, 2) := by decide +kernel
theorem dX8_kinds_82 : decode cX8_kinds 82 = .ok (.ireturn, 1) := by decide +kernel
theorem dX8_pitches_0 : decode cX8_pitches 0 = .ok (.aload_n 0, 1) := by decide +kernel
theorem dX8_pitches_1 : decode cX8_pitches 1 = .ok (.getfield 12, 3) := by decide +kernel
theorem dX8_pitches_4 : decode cX8_pitches 4 = .ok (.iload_n 1, 1) := by decide +kernel
theorem dX8_pitches_5 : decode cX8_pitches 5 = .ok (.invokevirtual 95, 3) := by decide +kernel
theorem dX8_pitches_8 : decode cX8_pitches 8 = .ok (.ifCond .eq 14, 3) := by decide +kernel
theorem dX8_pitches_11 : decode cX8_pitches 11 = .ok (.aload_n 0, 1) := by decide +kernel
theorem dX8_pitches_12 : decode cX8_pitches 12 = .ok (.getfield 12, 3) := by decide +kernel
theorem dX8_pitches_15 : decode cX8_pitches 15 = .ok (.iload_n 2, 1) := by decide +kernel
theorem dX8_pitches_16 : decode cX8_pitches 16 = .ok (.invokevirtual 128, 3) := by decide +kernel
theorem dX8_pitches_19 : decode cX8_pitches 19 = .ok (.ifCond .ne 5, 3) := by decide +kernel
theorem dX8_pitches_22 : decode cX8_pitches 22 = .ok (.iconst (-1), 1) := by decide +kernel
theorem dX8_pitches_23 : decode cX8_pitches 23 = .ok (.ireturn, 1) := by decide +kernel
theorem dX8_pitches_24 : decode cX8_pitches 24 = .ok (.aload_n 0, 1) := by decide +kernel
theorem dX8_pitches_25 : decode cX8_pitches 25 = .ok (.getfield 12, 3) := by decide +kernel
theorem dX8_pitches_28 : decode cX8_pitches 28 = .ok (.getfield 98, 3) := by decide +kernel
theorem dX8_pitches_31 : decode cX8_pitches 31 = .ok (.iload_n 1, 1) := by decide +kernel
theorem dX8_pitches_32 : decode cX8_pitches 32 = .ok (.aaload, 1) := by decide +kernel
theorem dX8_pitches_33 : decode cX8_pitches 33 = .ok (.getfield 112, 3) := by decide +kernel
theorem dX8_pitches_36 : decode cX8_pitches 36 = .ok (.astore_n 3, 1) := by decide +kernel
theorem dX8_pitches_37 : decode cX8_pitches 37 = .ok (.aload_n 3, 1) := by decide +kernel
theorem dX8_pitches_38 : decode cX8_pitches 38 = .ok (.iload_n 2, 1) := by decide +kernel
theorem dX8_pitches_39 : decode cX8_pitches 39 = .ok (.iaload, 1) := by decide +kernel
theorem dX8_pitches_40 : decode cX8_pitches 40 = .ok (.istore 4, 2) := by decide +kernel
theorem dX8_pitches_42 : decode cX8_pitches 42 = .ok (.iconst 0, 1) := by decide +kernel
theorem dX8_pitches_43 : decode cX8_pitches 43 = .ok (.istore 5, 2) := by decide +kernel
theorem dX8_pitches_45 : decode cX8_pitches 45 = .ok (.iconst 0, 1) := by decide +kernel
theorem dX8_pitches_46 : decode cX8_pitches 46 = .ok (.istore 6, 2) := by decide +kernel
theorem dX8_pitches_48 : decode cX8_pitches 48 = .ok (.iload 6, 2) := by decide +kernel
theorem dX8_pitches_50 : decode cX8_pitches 50 = .ok (.aload_n 0, 1) := by decide +kernel
theorem dX8_pitches_51 : decode cX8_pitches 51 = .ok (.getfield 12, 3) := by decide +kernel
theorem dX8_pitches_54 : decode cX8_pitches 54 = .ok (.getfield 106, 3) := by decide +kernel
theorem dX8_pitches_57 : decode cX8_pitches 57 = .ok (.if_icmp .ge 37, 3) := by decide +kernel
theorem dX8_pitches_60 : decode cX8_pitches 60 = .ok (.aload_n 3, 1) := by decide +kernel
theorem dX8_pitches_61 : decode cX8_pitches 61 = .ok (.iload_n 2, 1) := by decide +kernel
theorem dX8_pitches_62 : decode cX8_pitches 62 = .ok (.iload 6, 2) := by decide +kernel
theorem dX8_pitches_64 : decode cX8_pitches 64 = .ok (.iastore, 1) := by decide +kernel
theorem dX8_pitches_65 : decode cX8_pitches 65 = .ok (.aload_n 0, 1) := by decide +kernel
theorem dX8_pitches_66 : decode cX8_pitches 66 = .ok (.getfield 31, 3) := by decide +kernel
theorem dX8_pitches_69 : decode cX8_pitches 69 = .ok (.aload_n 0, 1) := by decide +kernel
theorem dX8_pitches_70 : decode cX8_pitches 70 = .ok (.getfield 12, 3) := by decide +kernel
theorem dX8_pitches_73 : decode cX8_pitches 73 = .ok (.invokevirtual 204, 3) := by decide +kernel
theorem dX8_pitches_76 : decode cX8_pitches 76 = .ok (.ifCond .eq 12, 3) := by decide +kernel
theorem dX8_pitches_79 : decode cX8_pitches 79 = .ok (.iload 5, 2) := by decide +kernel
theorem dX8_pitches_81 : decode cX8_pitches 81 = .ok (.iconst 1, 1) := by decide +kernel
theorem dX8_pitches_82 : decode cX8_pitches 82 = .ok (.iload 6, 2) := by decide +kernel
theorem dX8_pitches_84 : decode cX8_pitches 84 = .ok (.ishl, 1) := by decide +kernel
theorem dX8_pitches_85 : decode cX8_pitches 85 = .ok (.ior, 1) := by decide +kernel
theorem dX8_pitches_86 : decode cX8_pitches 86 = .ok (.istore 5, 2) := by decide +kernel
theorem dX8_pitches_88 : decode cX8_pitches 88 = .ok (.iinc 6 1, 3) := by decide +kernel
theorem dX8_pitches_91 : decode cX8_pitches 91 = .ok (.goto (-43), 3) := by decide +kernel
theorem dX8_pitches_94 : decode cX8_pitches 94 = .ok (.aload_n 3, 1) := by decide +kernel
theorem dX8_pitches_95 : decode cX8_pitches 95 = .ok (.iload_n 2, 1) := by decide +kernel
theorem dX8_pitches_96 : decode cX8_pitches 96 = .ok (.iload 4, 2) := by decide +kernel
theorem dX8_pitches_98 : decode cX8_pitches 98 = .ok (.iastore, 1) := by decide +kernel
theorem dX8_pitches_99 : decode cX8_pitches 99 = .ok (.iload 5, 2) := by decide +kernel
theorem dX8_pitches_101 : decode cX8_pitches 101 = .ok (.ireturn, 1) := by decide +kernel
theorem dX8_odds_0 : decode cX8_odds 0 = .ok (.aload_n 0, 1) := by decide +kernel
theorem dX8_odds_1 : decode cX8_odds 1 = .ok (.getfield 12, 3) := by decide +kernel
theorem dX8_odds_4 : decode cX8_odds 4 = .ok (.iload_n 1, 1) := by decide +kernel
theorem dX8_odds_5 : decode cX8_odds 5 = .ok (.invokevirtual 95, 3) := by decide +kernel
theorem dX8_odds_8 : decode cX8_odds 8 = .ok (.ifCond .eq 22, 3) := by decide +kernel
theorem dX8_odds_11 : decode cX8_odds 11 = .ok (.iload_n 2, 1) := by decide +kernel
theorem dX8_odds_12 : decode cX8_odds 12 = .ok (.iconst 0, 1) := by decide +kernel
theorem dX8_odds_13 : decode cX8_odds 13 = .ok (.bipush 20, 2) := by decide +kernel
theorem dX8_odds_15 : decode cX8_odds 15 = .ok (.invokestatic 120, 3) := by decide +kernel
theorem dX8_odds_18 : decode cX8_odds 18 = .ok (.ifCond .eq 12, 3) := by decide +kernel
theorem dX8_odds_21 : decode cX8_odds 21 = .ok (.iload_n 3, 1) := by decide +kernel
theorem dX8_odds_22 : decode cX8_odds 22 = .ok (.iconst 0, 1) := by decide +kernel
theorem dX8_odds_23 : decode cX8_odds 23 = .ok (.iconst 1, 1) := by decide +kernel
theorem dX8_odds_24 : decode cX8_odds 24 = .ok (.invokestatic 120, 3) := by decide +kernel
theorem dX8_odds_27 : decode cX8_odds 27 = .ok (.ifCond .ne 7, 3) := by decide +kernel
theorem dX8_odds_30 : decode cX8_odds 30 = .ok (.ldc2_w 208, 3) := by decide +kernel
theorem dX8_odds_33 : decode cX8_odds 33 = .ok (.lreturn, 1) := by decide +kernel
theorem dX8_odds_34 : decode cX8_odds 34 = .ok (.iconst 0, 1) := by decide +kernel
theorem dX8_odds_35 : decode cX8_odds 35 = .ok (.istore 4, 2) := by decide +kernel
theorem dX8_odds_37 : decode cX8_odds 37 = .ok (.bipush (-5), 2) := by decide +kernel
theorem dX8_odds_39 : decode cX8_odds 39 = .ok (.istore 5, 2) := by decide +kernel
theorem dX8_odds_41 : decode cX8_odds 41 = .ok (.iload 5, 2) := by decide +kernel
theorem dX8_odds_43 : decode cX8_odds 43 = .ok (.iconst 5, 1) := by decide +kernel
theorem dX8_odds_44 : decode cX8_odds 44 = .ok (.if_icmp .gt 67, 3) := by decide +kernel
theorem dX8_odds_47 : decode cX8_odds 47 = .ok (.bipush (-5), 2) := by decide +kernel
theorem dX8_odds_49 : decode cX8_odds 49 = .ok (.istore 6, 2) := by decide +kernel
theorem dX8_odds_51 : decode cX8_odds 51 = .ok (.iload 6, 2) := by decide +kernel
theorem dX8_odds_53 : decode cX8_odds 53 = .ok (.iconst 5, 1) := by decide +kernel
theorem dX8_odds_54 : decode cX8_odds 54 = .ok (.if_icmp .gt 51, 3) := by decide +kernel
theorem dX8_odds_57 : decode cX8_odds 57 = .ok (.iload 5, 2) := by decide +kernel
theorem dX8_odds_59 : decode cX8_odds 59 = .ok (.ifCond .ne 8, 3) := by decide +kernel
theorem dX8_odds_62 : decode cX8_odds 62 = .ok (.iload 6, 2) := by decide +kernel
theorem dX8_odds_64 : decode cX8_odds 64 = .ok (.ifCond .eq 7, 3) := by decide +kernel
theorem dX8_odds_67 : decode cX8_odds 67 = .ok (.iconst 1, 1) := by decide +kernel
theorem dX8_odds_68 : decode cX8_odds 68 = .ok (.goto 4, 3) := by decide +kernel
theorem dX8_odds_71 : decode cX8_odds 71 = .ok (.iconst 0, 1) := by decide +kernel
theorem dX8_odds_72 : decode cX8_odds 72 = .ok (.istore 7, 2) := by decide +kernel
theorem dX8_odds_74 : decode cX8_odds 74 = .ok (.iload 7, 2) := by decide +kernel
theorem dX8_odds_76 : decode cX8_odds 76 = .ok (.ifCond .eq 23, 3) := by decide +kernel
theorem dX8_odds_79 : decode cX8_odds 79 = .ok (.aload_n 0, 1) := by decide +kernel
theorem dX8_odds_80 : decode cX8_odds 80 = .ok (.getfield 12, 3) := by decide +kernel
theorem dX8_odds_83 : decode cX8_odds 83 = .ok (.iload_n 1, 1) := by decide +kernel
theorem dX8_odds_84 : decode cX8_odds 84 = .ok (.iload_n 1, 1) := by decide +kernel
theorem dX8_odds_85 : decode cX8_odds 85 = .ok (.iload 5, 2) := by decide +kernel
theorem dX8_odds_87 : decode cX8_odds 87 = .ok (.iload 6, 2) := by decide +kernel
theorem dX8_odds_89 : decode cX8_odds 89 = .ok (.invokevirtual 134, 3) := by decide +kernel
theorem dX8_odds_92 : decode cX8_odds 92 = .ok (.iload_n 2, 1) := by decide +kernel
theorem dX8_odds_93 : decode cX8_odds 93 = .ok (.if_icmp .lt 6, 3) := by decide +kernel
theorem dX8_odds_96 : decode cX8_odds 96 = .ok (.iinc 4 1, 3) := by decide +kernel
theorem dX8_odds_99 : decode cX8_odds 99 = .ok (.iinc 6 1, 3) := by decide +kernel
theorem dX8_odds_102 : decode cX8_odds 102 = .ok (.goto (-51), 3) := by decide +kernel
theorem dX8_odds_105 : decode cX8_odds 105 = .ok (.iinc 5 1, 3) := by decide +kernel
theorem dX8_odds_108 : decode cX8_odds 108 = .ok (.goto (-67), 3) := by decide +kernel
theorem dX8_odds_111 : decode cX8_odds 111 = .ok (.iload 4, 2) := by decide +kernel
theorem dX8_odds_113 : decode cX8_odds 113 = .ok (.invokestatic 210, 3) := by decide +kernel
theorem dX8_odds_116 : decode cX8_odds 116 = .ok (.istore 5, 2) := by decide +kernel
theorem dX8_odds_118 : decode cX8_odds 118 = .ok (.iload_n 3, 1) := by decide +kernel
theorem dX8_odds_119 : decode cX8_odds 119 = .ok (.ifCond .ne 12, 3) := by decide +kernel
theorem dX8_odds_122 : decode cX8_odds 122 = .ok (.iload 4, 2) := by decide +kernel
theorem dX8_odds_124 : decode cX8_odds 124 = .ok (.iload 5, 2) := by decide +kernel
theorem dX8_odds_126 : decode cX8_odds 126 = .ok (.idiv, 1) := by decide +kernel
theorem dX8_odds_127 : decode cX8_odds 127 = .ok (.i2l, 1) := by decide +kernel
theorem dX8_odds_128 : decode cX8_odds 128 = .ok (.goto 9, 3) := by decide +kernel
theorem dX8_odds_131 : decode cX8_odds 131 = .ok (.bipush 120, 2) := by decide +kernel
theorem dX8_odds_133 : decode cX8_odds 133 = .ok (.iload 5, 2) := by decide +kernel
theorem dX8_odds_135 : decode cX8_odds 135 = .ok (.idiv, 1) := by decide +kernel
theorem dX8_odds_136 : decode cX8_odds 136 = .ok (.i2l, 1) := by decide +kernel
theorem dX8_odds_137 : decode cX8_odds 137 = .ok (.lreturn, 1) := by decide +kernel
theorem dX8_sheet_0 : decode cX8_sheet 0 = .ok (.aload_n 0, 1) := by decide +kernel
theorem dX8_sheet_1 : decode cX8_sheet 1 = .ok (.iconst 0, 1) := by decide +kernel
theorem dX8_sheet_2 : decode cX8_sheet 2 = .ok (.putfield 56, 3) := by decide +kernel
theorem dX8_sheet_5 : decode cX8_sheet 5 = .ok (.iload_n 1, 1) := by decide +kernel
theorem dX8_sheet_6 : decode cX8_sheet 6 = .ok (.invokestatic 60, 3) := by decide +kernel
theorem dX8_sheet_9 : decode cX8_sheet 9 = .ok (.ifCond .ne 5, 3) := by decide +kernel
theorem dX8_sheet_12 : decode cX8_sheet 12 = .ok (.iconst (-1), 1) := by decide +kernel
theorem dX8_sheet_13 : decode cX8_sheet 13 = .ok (.ireturn, 1) := by decide +kernel
theorem dX8_sheet_14 : decode cX8_sheet 14 = .ok (.iload_n 2, 1) := by decide +kernel
theorem dX8_sheet_15 : decode cX8_sheet 15 = .ok (.invokestatic 64, 3) := by decide +kernel
theorem dX8_sheet_18 : decode cX8_sheet 18 = .ok (.ifCond .eq 9, 3) := by decide +kernel
theorem dX8_sheet_21 : decode cX8_sheet 21 = .ok (.iload_n 3, 1) := by decide +kernel
theorem dX8_sheet_22 : decode cX8_sheet 22 = .ok (.bipush 60, 2) := by decide +kernel
theorem dX8_sheet_24 : decode cX8_sheet 24 = .ok (.if_icmp .le 6, 3) := by decide +kernel
theorem dX8_sheet_27 : decode cX8_sheet 27 = .ok (.bipush (-2), 2) := by decide +kernel
theorem dX8_sheet_29 : decode cX8_sheet 29 = .ok (.ireturn, 1) := by decide +kernel
theorem dX8_sheet_30 : decode cX8_sheet 30 = .ok (.iload_n 3, 1) := by decide +kernel
theorem dX8_sheet_31 : decode cX8_sheet 31 = .ok (.ifCond .ge 9, 3) := by decide +kernel
theorem dX8_sheet_34 : decode cX8_sheet 34 = .ok (.aload_n 0, 1) := by decide +kernel
theorem dX8_sheet_35 : decode cX8_sheet 35 = .ok (.iconst 4, 1) := by decide +kernel
theorem dX8_sheet_36 : decode cX8_sheet 36 = .ok (.invokevirtual 71, 3) := by decide +kernel
theorem dX8_sheet_39 : decode cX8_sheet 39 = .ok (.ireturn, 1) := by decide +kernel
theorem dX8_sheet_40 : decode cX8_sheet 40 = .ok (.aload_n 0, 1) := by decide +kernel
theorem dX8_sheet_41 : decode cX8_sheet 41 = .ok (.getfield 51, 3) := by decide +kernel
theorem dX8_sheet_44 : decode cX8_sheet 44 = .ok (.iload_n 1, 1) := by decide +kernel
theorem dX8_sheet_45 : decode cX8_sheet 45 = .ok (.aaload, 1) := by decide +kernel
theorem dX8_sheet_46 : decode cX8_sheet 46 = .ok (.iload_n 2, 1) := by decide +kernel
theorem dX8_sheet_47 : decode cX8_sheet 47 = .ok (.iload_n 3, 1) := by decide +kernel
theorem dX8_sheet_48 : decode cX8_sheet 48 = .ok (.invokevirtual 213, 3) := by decide +kernel
theorem dX8_sheet_51 : decode cX8_sheet 51 = .ok (.iconst 1, 1) := by decide +kernel
theorem dX8_sheet_52 : decode cX8_sheet 52 = .ok (.ireturn, 1) := by decide +kernel
theorem dX8_lose_0 : decode cX8_lose 0 = .ok (.iload_n 1, 1) := by decide +kernel
theorem dX8_lose_1 : decode cX8_lose 1 = .ok (.invokestatic 60, 3) := by decide +kernel
theorem dX8_lose_4 : decode cX8_lose 4 = .ok (.ifCond .ne 5, 3) := by decide +kernel
theorem dX8_lose_7 : decode cX8_lose 7 = .ok (.iconst (-1), 1) := by decide +kernel
theorem dX8_lose_8 : decode cX8_lose 8 = .ok (.ireturn, 1) := by decide +kernel
theorem dX8_lose_9 : decode cX8_lose 9 = .ok (.aload_n 0, 1) := by decide +kernel
theorem dX8_lose_10 : decode cX8_lose 10 = .ok (.getfield 51, 3) := by decide +kernel
theorem dX8_lose_13 : decode cX8_lose 13 = .ok (.iload_n 1, 1) := by decide +kernel
theorem dX8_lose_14 : decode cX8_lose 14 = .ok (.aaload, 1) := by decide +kernel
theorem dX8_lose_15 : decode cX8_lose 15 = .ok (.getfield 217, 3) := by decide +kernel
theorem dX8_lose_18 : decode cX8_lose 18 = .ok (.ifCond .eq 7, 3) := by decide +kernel
theorem dX8_lose_21 : decode cX8_lose 21 = .ok (.iconst 1, 1) := by decide +kernel
theorem dX8_lose_22 : decode cX8_lose 22 = .ok (.goto 4, 3) := by decide +kernel
theorem dX8_lose_25 : decode cX8_lose 25 = .ok (.iconst 0, 1) := by decide +kernel
theorem dX8_lose_26 : decode cX8_lose 26 = .ok (.istore_n 2, 1) := by decide +kernel
theorem dX8_lose_27 : decode cX8_lose 27 = .ok (.aload_n 0, 1) := by decide +kernel
theorem dX8_lose_28 : decode cX8_lose 28 = .ok (.getfield 51, 3) := by decide +kernel
theorem dX8_lose_31 : decode cX8_lose 31 = .ok (.iload_n 1, 1) := by decide +kernel
theorem dX8_lose_32 : decode cX8_lose 32 = .ok (.aaload, 1) := by decide +kernel
theorem dX8_lose_33 : decode cX8_lose 33 = .ok (.iconst 0, 1) := by decide +kernel
theorem dX8_lose_34 : decode cX8_lose 34 = .ok (.putfield 217, 3) := by decide +kernel
theorem dX8_lose_37 : decode cX8_lose 37 = .ok (.iload_n 2, 1) := by decide +kernel
theorem dX8_lose_38 : decode cX8_lose 38 = .ok (.ireturn, 1) := by decide +kernel
theorem dX8_put_0 : decode cX8_put 0 = .ok (.aload_n 0, 1) := by decide +kernel
theorem dX8_put_1 : decode cX8_put 1 = .ok (.iconst 0, 1) := by decide +kernel
theorem dX8_put_2 : decode cX8_put 2 = .ok (.putfield 56, 3) := by decide +kernel
theorem dX8_put_5 : decode cX8_put 5 = .ok (.iload_n 1, 1) := by decide +kernel
theorem dX8_put_6 : decode cX8_put 6 = .ok (.invokestatic 60, 3) := by decide +kernel
theorem dX8_put_9 : decode cX8_put 9 = .ok (.ifCond .ne 5, 3) := by decide +kernel
theorem dX8_put_12 : decode cX8_put 12 = .ok (.iconst (-1), 1) := by decide +kernel
theorem dX8_put_13 : decode cX8_put 13 = .ok (.ireturn, 1) := by decide +kernel
theorem dX8_put_14 : decode cX8_put 14 = .ok (.aload_n 0, 1) := by decide +kernel
theorem dX8_put_15 : decode cX8_put 15 = .ok (.getfield 51, 3) := by decide +kernel
theorem dX8_put_18 : decode cX8_put 18 = .ok (.iload_n 1, 1) := by decide +kernel
theorem dX8_put_19 : decode cX8_put 19 = .ok (.aaload, 1) := by decide +kernel
theorem dX8_put_20 : decode cX8_put 20 = .ok (.getfield 217, 3) := by decide +kernel
theorem dX8_put_23 : decode cX8_put 23 = .ok (.ifCond .ne 9, 3) := by decide +kernel
theorem dX8_put_26 : decode cX8_put 26 = .ok (.aload_n 0, 1) := by decide +kernel
theorem dX8_put_27 : decode cX8_put 27 = .ok (.iconst 1, 1) := by decide +kernel
theorem dX8_put_28 : decode cX8_put 28 = .ok (.invokevirtual 71, 3) := by decide +kernel
theorem dX8_put_31 : decode cX8_put 31 = .ok (.ireturn, 1) := by decide +kernel
theorem dX8_put_32 : decode cX8_put 32 = .ok (.aload_n 0, 1) := by decide +kernel
theorem dX8_put_33 : decode cX8_put 33 = .ok (.getfield 51, 3) := by decide +kernel
theorem dX8_put_36 : decode cX8_put 36 = .ok (.iload_n 1, 1) := by decide +kernel
theorem dX8_put_37 : decode cX8_put 37 = .ok (.aaload, 1) := by decide +kernel
theorem dX8_put_38 : decode cX8_put 38 = .ok (.iload_n 2, 1) := by decide +kernel
theorem dX8_put_39 : decode cX8_put 39 = .ok (.iconst 1, 1) := by decide +kernel
theorem dX8_put_40 : decode cX8_put 40 = .ok (.invokevirtual 220, 3) := by decide +kernel
theorem dX8_put_43 : decode cX8_put 43 = .ok (.ifCond .ne 9, 3) := by decide +kernel
theorem dX8_put_46 : decode cX8_put 46 = .ok (.aload_n 0, 1) := by decide +kernel
theorem dX8_put_47 : decode cX8_put 47 = .ok (.iconst 3, 1) := by decide +kernel
theorem dX8_put_48 : decode cX8_put 48 = .ok (.invokevirtual 71, 3) := by decide +kernel
theorem dX8_put_51 : decode cX8_put 51 = .ok (.ireturn, 1) := by decide +kernel
theorem dX8_put_52 : decode cX8_put 52 = .ok (.aload_n 0, 1) := by decide +kernel
theorem dX8_put_53 : decode cX8_put 53 = .ok (.getfield 51, 3) := by decide +kernel
theorem dX8_put_56 : decode cX8_put 56 = .ok (.iload_n 1, 1) := by decide +kernel
theorem dX8_put_57 : decode cX8_put 57 = .ok (.aaload, 1) := by decide +kernel
theorem dX8_put_58 : decode cX8_put 58 = .ok (.iload_n 2, 1) := by decide +kernel
theorem dX8_put_59 : decode cX8_put 59 = .ok (.iload_n 3, 1) := by decide +kernel
theorem dX8_put_60 : decode cX8_put 60 = .ok (.invokevirtual 224, 3) := by decide +kernel
theorem dX8_put_63 : decode cX8_put 63 = .ok (.iconst 1, 1) := by decide +kernel
theorem dX8_put_64 : decode cX8_put 64 = .ok (.ireturn, 1) := by decide +kernel
theorem dX8_cell_0 : decode cX8_cell 0 = .ok (.aload_n 0, 1) := by decide +kernel
theorem dX8_cell_1 : decode cX8_cell 1 = .ok (.iconst 0, 1) := by decide +kernel
theorem dX8_cell_2 : decode cX8_cell 2 = .ok (.putfield 56, 3) := by decide +kernel
theorem dX8_cell_5 : decode cX8_cell 5 = .ok (.iload_n 1, 1) := by decide +kernel
theorem dX8_cell_6 : decode cX8_cell 6 = .ok (.invokestatic 60, 3) := by decide +kernel
theorem dX8_cell_9 : decode cX8_cell 9 = .ok (.ifCond .eq 10, 3) := by decide +kernel
theorem dX8_cell_12 : decode cX8_cell 12 = .ok (.iload_n 3, 1) := by decide +kernel
theorem dX8_cell_13 : decode cX8_cell 13 = .ok (.invokestatic 64, 3) := by decide +kernel
theorem dX8_cell_16 : decode cX8_cell 16 = .ok (.ifCond .ne 7, 3) := by decide +kernel
theorem dX8_cell_19 : decode cX8_cell 19 = .ok (.ldc2_w 208, 3) := by decide +kernel
theorem dX8_cell_22 : decode cX8_cell 22 = .ok (.lreturn, 1) := by decide +kernel
theorem dX8_cell_23 : decode cX8_cell 23 = .ok (.aload_n 0, 1) := by decide +kernel
theorem dX8_cell_24 : decode cX8_cell 24 = .ok (.aload_n 0, 1) := by decide +kernel
theorem dX8_cell_25 : decode cX8_cell 25 = .ok (.getfield 51, 3) := by decide +kernel
theorem dX8_cell_28 : decode cX8_cell 28 = .ok (.iload_n 1, 1) := by decide +kernel
theorem dX8_cell_29 : decode cX8_cell 29 = .ok (.aaload, 1) := by decide +kernel
theorem dX8_cell_30 : decode cX8_cell 30 = .ok (.iload_n 3, 1) := by decide +kernel
theorem dX8_cell_31 : decode cX8_cell 31 = .ok (.iload_n 2, 1) := by decide +kernel
theorem dX8_cell_32 : decode cX8_cell 32 = .ok (.iconst 1, 1) := by decide +kernel
theorem dX8_cell_33 : decode cX8_cell 33 = .ok (.invokevirtual 67, 3) := by decide +kernel
theorem dX8_cell_36 : decode cX8_cell 36 = .ok (.putfield 56, 3) := by decide +kernel
theorem dX8_cell_39 : decode cX8_cell 39 = .ok (.aload_n 0, 1) := by decide +kernel
theorem dX8_cell_40 : decode cX8_cell 40 = .ok (.getfield 56, 3) := by decide +kernel
theorem dX8_cell_43 : decode cX8_cell 43 = .ok (.ifCond .ne 18, 3) := by decide +kernel
theorem dX8_cell_46 : decode cX8_cell 46 = .ok (.aload_n 0, 1) := by decide +kernel
theorem dX8_cell_47 : decode cX8_cell 47 = .ok (.getfield 51, 3) := by decide +kernel
theorem dX8_cell_50 : decode cX8_cell 50 = .ok (.iload_n 1, 1) := by decide +kernel
theorem dX8_cell_51 : decode cX8_cell 51 = .ok (.aaload, 1) := by decide +kernel
theorem dX8_cell_52 : decode cX8_cell 52 = .ok (.getfield 227, 3) := by decide +kernel
theorem dX8_cell_55 : decode cX8_cell 55 = .ok (.iload_n 2, 1) := by decide +kernel
theorem dX8_cell_56 : decode cX8_cell 56 = .ok (.iaload, 1) := by decide +kernel
theorem dX8_cell_57 : decode cX8_cell 57 = .ok (.i2l, 1) := by decide +kernel
theorem dX8_cell_58 : decode cX8_cell 58 = .ok (.goto 6, 3) := by decide +kernel
theorem dX8_cell_61 : decode cX8_cell 61 = .ok (.ldc2_w 208, 3) := by decide +kernel
theorem dX8_cell_64 : decode cX8_cell 64 = .ok (.lreturn, 1) := by decide +kernel
theorem dX8_copy_0 : decode cX8_copy 0 = .ok (.aload_n 0, 1) := by decide +kernel
theorem dX8_copy_1 : decode cX8_copy 1 = .ok (.iconst 0, 1) := by decide +kernel
theorem dX8_copy_2 : decode cX8_copy 2 = .ok (.putfield 56, 3) := by decide +kernel
theorem dX8_copy_5 : decode cX8_copy 5 = .ok (.iload_n 1, 1) := by decide +kernel
theorem dX8_copy_6 : decode cX8_copy 6 = .ok (.invokestatic 60, 3) := by decide +kernel
theorem dX8_copy_9 : decode cX8_copy 9 = .ok (.ifCond .eq 10, 3) := by decide +kernel
theorem dX8_copy_12 : decode cX8_copy 12 = .ok (.iload_n 3, 1) := by decide +kernel
theorem dX8_copy_13 : decode cX8_copy 13 = .ok (.invokestatic 60, 3) := by decide +kernel
theorem dX8_copy_16 : decode cX8_copy 16 = .ok (.ifCond .ne 5, 3) := by decide +kernel
theorem dX8_copy_19 : decode cX8_copy 19 = .ok (.iconst (-1), 1) := by decide +kernel
theorem dX8_copy_20 : decode cX8_copy 20 = .ok (.ireturn, 1) := by decide +kernel
theorem dX8_copy_21 : decode cX8_copy 21 = .ok (.aload_n 0, 1) := by decide +kernel
theorem dX8_copy_22 : decode cX8_copy 22 = .ok (.getfield 51, 3) := by decide +kernel
theorem dX8_copy_25 : decode cX8_copy 25 = .ok (.iload_n 1, 1) := by decide +kernel
theorem dX8_copy_26 : decode cX8_copy 26 = .ok (.aaload, 1) := by decide +kernel
theorem dX8_copy_27 : decode cX8_copy 27 = .ok (.astore 6, 2) := by decide +kernel
theorem dX8_copy_29 : decode cX8_copy 29 = .ok (.aload_n 0, 1) := by decide +kernel
theorem dX8_copy_30 : decode cX8_copy 30 = .ok (.getfield 51, 3) := by decide +kernel
theorem dX8_copy_33 : decode cX8_copy 33 = .ok (.iload_n 3, 1) := by decide +kernel
theorem dX8_copy_34 : decode cX8_copy 34 = .ok (.aaload, 1) := by decide +kernel
theorem dX8_copy_35 : decode cX8_copy 35 = .ok (.astore 7, 2) := by decide +kernel
theorem dX8_copy_37 : decode cX8_copy 37 = .ok (.aload 6, 2) := by decide +kernel
theorem dX8_copy_39 : decode cX8_copy 39 = .ok (.getfield 217, 3) := by decide +kernel
theorem dX8_copy_42 : decode cX8_copy 42 = .ok (.ifCond .eq 11, 3) := by decide +kernel
theorem dX8_copy_45 : decode cX8_copy 45 = .ok (.aload 7, 2) := by decide +kernel
theorem dX8_copy_47 : decode cX8_copy 47 = .ok (.getfield 217, 3) := by decide +kernel
theorem dX8_copy_50 : decode cX8_copy 50 = .ok (.ifCond .ne 9, 3) := by decide +kernel
theorem dX8_copy_53 : decode cX8_copy 53 = .ok (.aload_n 0, 1) := by decide +kernel
theorem dX8_copy_54 : decode cX8_copy 54 = .ok (.iconst 1, 1) := by decide +kernel
theorem dX8_copy_55 : decode cX8_copy 55 = .ok (.invokevirtual 71, 3) := by decide +kernel
theorem dX8_copy_58 : decode cX8_copy 58 = .ok (.ireturn, 1) := by decide +kernel
theorem dX8_copy_59 : decode cX8_copy 59 = .ok (.aload 6, 2) := by decide +kernel
theorem dX8_copy_61 : decode cX8_copy 61 = .ok (.getfield 230, 3) := by decide +kernel
theorem dX8_copy_64 : decode cX8_copy 64 = .ok (.aload 7, 2) := by decide +kernel
theorem dX8_copy_66 : decode cX8_copy 66 = .ok (.getfield 230, 3) := by decide +kernel
theorem dX8_copy_69 : decode cX8_copy 69 = .ok (.if_icmp .eq 9, 3) := by decide +kernel
theorem dX8_copy_72 : decode cX8_copy 72 = .ok (.aload_n 0, 1) := by decide +kernel
theorem dX8_copy_73 : decode cX8_copy 73 = .ok (.iconst 2, 1) := by decide +kernel
theorem dX8_copy_74 : decode cX8_copy 74 = .ok (.invokevirtual 71, 3) := by decide +kernel
theorem dX8_copy_77 : decode cX8_copy 77 = .ok (.ireturn, 1) := by decide +kernel
theorem dX8_copy_78 : decode cX8_copy 78 = .ok (.aload 6, 2) := by decide +kernel
theorem dX8_copy_80 : decode cX8_copy 80 = .ok (.iload_n 2, 1) := by decide +kernel
theorem dX8_copy_81 : decode cX8_copy 81 = .ok (.iload 5, 2) := by decide +kernel
theorem dX8_copy_83 : decode cX8_copy 83 = .ok (.invokevirtual 220, 3) := by decide +kernel
theorem dX8_copy_86 : decode cX8_copy 86 = .ok (.ifCond .eq 15, 3) := by decide +kernel
theorem dX8_copy_89 : decode cX8_copy 89 = .ok (.aload 7, 2) := by decide +kernel
theorem dX8_copy_91 : decode cX8_copy 91 = .ok (.iload 4, 2) := by decide +kernel
theorem dX8_copy_93 : decode cX8_copy 93 = .ok (.iload 5, 2) := by decide +kernel
theorem dX8_copy_95 : decode cX8_copy 95 = .ok (.invokevirtual 220, 3) := by decide +kernel
theorem dX8_copy_98 : decode cX8_copy 98 = .ok (.ifCond .ne 9, 3) := by decide +kernel
theorem dX8_copy_101 : decode cX8_copy 101 = .ok (.aload_n 0, 1) := by decide +kernel
theorem dX8_copy_102 : decode cX8_copy 102 = .ok (.iconst 3, 1) := by decide +kernel
theorem dX8_copy_103 : decode cX8_copy 103 = .ok (.invokevirtual 71, 3) := by decide +kernel
theorem dX8_copy_106 : decode cX8_copy 106 = .ok (.ireturn, 1) := by decide +kernel
theorem dX8_copy_107 : decode cX8_copy 107 = .ok (.aload 6, 2) := by decide +kernel
theorem dX8_copy_109 : decode cX8_copy 109 = .ok (.getfield 227, 3) := by decide +kernel
theorem dX8_copy_112 : decode cX8_copy 112 = .ok (.iload_n 2, 1) := by decide +kernel
theorem dX8_copy_113 : decode cX8_copy 113 = .ok (.aload 7, 2) := by decide +kernel
theorem dX8_copy_115 : decode cX8_copy 115 = .ok (.getfield 227, 3) := by decide +kernel
theorem dX8_copy_118 : decode cX8_copy 118 = .ok (.iload 4, 2) := by decide +kernel
theorem dX8_copy_120 : decode cX8_copy 120 = .ok (.iload 5, 2) := by decide +kernel
theorem dX8_copy_122 : decode cX8_copy 122 = .ok (.invokestatic 233, 3) := by decide +kernel
theorem dX8_copy_125 : decode cX8_copy 125 = .ok (.iload 5, 2) := by decide +kernel
theorem dX8_copy_127 : decode cX8_copy 127 = .ok (.ireturn, 1) := by decide +kernel
theorem dX8_tell_0 : decode cX8_tell 0 = .ok (.aload_n 0, 1) := by decide +kernel
theorem dX8_tell_1 : decode cX8_tell 1 = .ok (.getfield 12, 3) := by decide +kernel
theorem dX8_tell_4 : decode cX8_tell 4 = .ok (.iload_n 1, 1) := by decide +kernel
theorem dX8_tell_5 : decode cX8_tell 5 = .ok (.invokevirtual 95, 3) := by decide +kernel
theorem dX8_tell_8 : decode cX8_tell 8 = .ok (.ifCond .ne 5, 3) := by decide +kernel
theorem dX8_tell_11 : decode cX8_tell 11 = .ok (.iconst (-1), 1) := by decide +kernel
theorem dX8_tell_12 : decode cX8_tell 12 = .ok (.ireturn, 1) := by decide +kernel
theorem dX8_tell_13 : decode cX8_tell 13 = .ok (.aload_n 0, 1) := by decide +kernel
theorem dX8_tell_14 : decode cX8_tell 14 = .ok (.getfield 12, 3) := by decide +kernel
theorem dX8_tell_17 : decode cX8_tell 17 = .ok (.getfield 98, 3) := by decide +kernel
theorem dX8_tell_20 : decode cX8_tell 20 = .ok (.iload_n 1, 1) := by decide +kernel
theorem dX8_tell_21 : decode cX8_tell 21 = .ok (.aaload, 1) := by decide +kernel
theorem dX8_tell_22 : decode cX8_tell 22 = .ok (.astore_n 2, 1) := by decide +kernel
theorem dX8_tell_23 : decode cX8_tell 23 = .ok (.aload_n 2, 1) := by decide +kernel
theorem dX8_tell_24 : decode cX8_tell 24 = .ok (.getfield 101, 3) := by decide +kernel
theorem dX8_tell_27 : decode cX8_tell 27 = .ok (.iconst 2, 1) := by decide +kernel
theorem dX8_tell_28 : decode cX8_tell 28 = .ok (.if_icmp .ne 9, 3) := by decide +kernel
theorem dX8_tell_31 : decode cX8_tell 31 = .ok (.aload_n 0, 1) := by decide +kernel
theorem dX8_tell_32 : decode cX8_tell 32 = .ok (.aload_n 2, 1) := by decide +kernel
theorem dX8_tell_33 : decode cX8_tell 33 = .ok (.invokevirtual 239, 3) := by decide +kernel
theorem dX8_tell_36 : decode cX8_tell 36 = .ok (.ireturn, 1) := by decide +kernel
theorem dX8_tell_37 : decode cX8_tell 37 = .ok (.aload_n 2, 1) := by decide +kernel
theorem dX8_tell_38 : decode cX8_tell 38 = .ok (.getfield 101, 3) := by decide +kernel
theorem dX8_tell_41 : decode cX8_tell 41 = .ok (.iconst 1, 1) := by decide +kernel
theorem dX8_tell_42 : decode cX8_tell 42 = .ok (.if_icmp .ne 11, 3) := by decide +kernel
theorem dX8_tell_45 : decode cX8_tell 45 = .ok (.aload_n 0, 1) := by decide +kernel
theorem dX8_tell_46 : decode cX8_tell 46 = .ok (.aload_n 2, 1) := by decide +kernel
theorem dX8_tell_47 : decode cX8_tell 47 = .ok (.invokevirtual 243, 3) := by decide +kernel
theorem dX8_tell_50 : decode cX8_tell 50 = .ok (.goto 8, 3) := by decide +kernel
theorem dX8_tell_53 : decode cX8_tell 53 = .ok (.aload_n 0, 1) := by decide +kernel
theorem dX8_tell_54 : decode cX8_tell 54 = .ok (.aload_n 2, 1) := by decide +kernel
theorem dX8_tell_55 : decode cX8_tell 55 = .ok (.invokevirtual 246, 3) := by decide +kernel
theorem dX8_tell_58 : decode cX8_tell 58 = .ok (.ireturn, 1) := by decide +kernel
theorem dX8_hail_0 : decode cX8_hail 0 = .ok (.aload_n 0, 1) := by decide +kernel
theorem dX8_hail_1 : decode cX8_hail 1 = .ok (.getfield 12, 3) := by decide +kernel
theorem dX8_hail_4 : decode cX8_hail 4 = .ok (.iload_n 1, 1) := by decide +kernel
theorem dX8_hail_5 : decode cX8_hail 5 = .ok (.invokevirtual 95, 3) := by decide +kernel
theorem dX8_hail_8 : decode cX8_hail 8 = .ok (.ifCond .ne 5, 3) := by decide +kernel
theorem dX8_hail_11 : decode cX8_hail 11 = .ok (.iconst (-1), 1) := by decide +kernel
theorem dX8_hail_12 : decode cX8_hail 12 = .ok (.ireturn, 1) := by decide +kernel
theorem dX8_hail_13 : decode cX8_hail 13 = .ok (.aload_n 0, 1) := by decide +kernel
theorem dX8_hail_14 : decode cX8_hail 14 = .ok (.getfield 12, 3) := by decide +kernel
theorem dX8_hail_17 : decode cX8_hail 17 = .ok (.getfield 98, 3) := by decide +kernel
theorem dX8_hail_20 : decode cX8_hail 20 = .ok (.iload_n 1, 1) := by decide +kernel
theorem dX8_hail_21 : decode cX8_hail 21 = .ok (.aaload, 1) := by decide +kernel
theorem dX8_hail_22 : decode cX8_hail 22 = .ok (.getfield 101, 3) := by decide +kernel
theorem dX8_hail_25 : decode cX8_hail 25 = .ok (.iconst 2, 1) := by decide +kernel
theorem dX8_hail_26 : decode cX8_hail 26 = .ok (.if_icmp .ne 10, 3) := by decide +kernel
theorem dX8_hail_29 : decode cX8_hail 29 = .ok (.aload_n 0, 1) := by decide +kernel
theorem dX8_hail_30 : decode cX8_hail 30 = .ok (.invokevirtual 249, 3) := by decide +kernel
theorem dX8_hail_33 : decode cX8_hail 33 = .ok (.goto 8, 3) := by decide +kernel
theorem dX8_hail_36 : decode cX8_hail 36 = .ok (.aload_n 0, 1) := by decide +kernel
theorem dX8_hail_37 : decode cX8_hail 37 = .ok (.iload_n 1, 1) := by decide +kernel
theorem dX8_hail_38 : decode cX8_hail 38 = .ok (.invokevirtual 253, 3) := by decide +kernel
theorem dX8_hail_41 : decode cX8_hail 41 = .ok (.ireturn, 1) := by decide +kernel
theorem dX8_as_0 : decode cX8_as 0 = .ok (.aload_n 0, 1) := by decide +kernel
theorem dX8_as_1 : decode cX8_as 1 = .ok (.iconst 0, 1) := by decide +kernel
theorem dX8_as_2 : decode cX8_as 2 = .ok (.putfield 56, 3) := by decide +kernel
theorem dX8_as_5 : decode cX8_as 5 = .ok (.aload_n 0, 1) := by decide +kernel
theorem dX8_as_6 : decode cX8_as 6 = .ok (.getfield 12, 3) := by decide +kernel
theorem dX8_as_9 : decode cX8_as 9 = .ok (.iload_n 1, 1) := by decide +kernel
theorem dX8_as_10 : decode cX8_as 10 = .ok (.invokevirtual 95, 3) := by decide +kernel
theorem dX8_as_13 : decode cX8_as 13 = .ok (.ifCond .ne 5, 3) := by decide +kernel
theorem dX8_as_16 : decode cX8_as 16 = .ok (.iconst (-1), 1) := by decide +kernel
theorem dX8_as_17 : decode cX8_as 17 = .ok (.ireturn, 1) := by decide +kernel
theorem dX8_as_18 : decode cX8_as 18 = .ok (.iload_n 2, 1) := by decide +kernel
theorem dX8_as_19 : decode cX8_as 19 = .ok (.iconst 0, 1) := by decide +kernel
theorem dX8_as_20 : decode cX8_as 20 = .ok (.iconst 2, 1) := by decide +kernel
theorem dX8_as_21 : decode cX8_as 21 = .ok (.invokestatic 120, 3) := by decide +kernel
theorem dX8_as_24 : decode cX8_as 24 = .ok (.ifCond .ne 6, 3) := by decide +kernel
theorem dX8_as_27 : decode cX8_as 27 = .ok (.bipush (-2), 2) := by decide +kernel
theorem dX8_as_29 : decode cX8_as 29 = .ok (.ireturn, 1) := by decide +kernel
theorem dX8_as_30 : decode cX8_as 30 = .ok (.aload_n 0, 1) := by decide +kernel
theorem dX8_as_31 : decode cX8_as 31 = .ok (.getfield 12, 3) := by decide +kernel
theorem dX8_as_34 : decode cX8_as 34 = .ok (.getfield 98, 3) := by decide +kernel
theorem dX8_as_37 : decode cX8_as 37 = .ok (.iload_n 1, 1) := by decide +kernel
theorem dX8_as_38 : decode cX8_as 38 = .ok (.aaload, 1) := by decide +kernel
theorem dX8_as_39 : decode cX8_as 39 = .ok (.getfield 101, 3) := by decide +kernel
theorem dX8_as_42 : decode cX8_as 42 = .ok (.iload_n 2, 1) := by decide +kernel
theorem dX8_as_43 : decode cX8_as 43 = .ok (.if_icmp .lt 7, 3) := by decide +kernel
theorem dX8_as_46 : decode cX8_as 46 = .ok (.iconst 1, 1) := by decide +kernel
theorem dX8_as_47 : decode cX8_as 47 = .ok (.goto 8, 3) := by decide +kernel
theorem dX8_as_50 : decode cX8_as 50 = .ok (.aload_n 0, 1) := by decide +kernel
theorem dX8_as_51 : decode cX8_as 51 = .ok (.iconst 2, 1) := by decide +kernel
theorem dX8_as_52 : decode cX8_as 52 = .ok (.invokevirtual 71, 3) := by decide +kernel
theorem dX8_as_55 : decode cX8_as 55 = .ok (.ireturn, 1) := by decide +kernel
theorem dX8_trace_0 : decode cX8_trace 0 = .ok (.aload_n 0, 1) := by decide +kernel
theorem dX8_trace_1 : decode cX8_trace 1 = .ok (.getfield 256, 3) := by decide +kernel
theorem dX8_trace_4 : decode cX8_trace 4 = .ok (.ireturn, 1) := by decide +kernel
theorem dX8_fault_0 : decode cX8_fault 0 = .ok (.aload_n 0, 1) := by decide +kernel
theorem dX8_fault_1 : decode cX8_fault 1 = .ok (.getfield 56, 3) := by decide +kernel
theorem dX8_fault_4 : decode cX8_fault 4 = .ok (.ireturn, 1) := by decide +kernel
theorem dX8_many_0 : decode cX8_many 0 = .ok (.iload_n 1, 1) := by decide +kernel
theorem dX8_many_1 : decode cX8_many 1 = .ok (.tableswitch 75 0 4 #[35, 43, 51, 59, 67], 35) := by decide +kernel
theorem dX8_many_36 : decode cX8_many 36 = .ok (.aload_n 0, 1) := by decide +kernel
theorem dX8_many_37 : decode cX8_many 37 = .ok (.getfield 12, 3) := by decide +kernel
theorem dX8_many_40 : decode cX8_many 40 = .ok (.getfield 94, 3) := by decide +kernel
theorem dX8_many_43 : decode cX8_many 43 = .ok (.ireturn, 1) := by decide +kernel
theorem dX8_many_44 : decode cX8_many 44 = .ok (.aload_n 0, 1) := by decide +kernel
theorem dX8_many_45 : decode cX8_many 45 = .ok (.getfield 12, 3) := by decide +kernel
theorem dX8_many_48 : decode cX8_many 48 = .ok (.getfield 106, 3) := by decide +kernel
theorem dX8_many_51 : decode cX8_many 51 = .ok (.ireturn, 1) := by decide +kernel
theorem dX8_many_52 : decode cX8_many 52 = .ok (.aload_n 0, 1) := by decide +kernel
theorem dX8_many_53 : decode cX8_many 53 = .ok (.getfield 21, 3) := by decide +kernel
theorem dX8_many_56 : decode cX8_many 56 = .ok (.getfield 90, 3) := by decide +kernel
theorem dX8_many_59 : decode cX8_many 59 = .ok (.ireturn, 1) := by decide +kernel
theorem dX8_many_60 : decode cX8_many 60 = .ok (.aload_n 0, 1) := by decide +kernel
theorem dX8_many_61 : decode cX8_many 61 = .ok (.getfield 12, 3) := by decide +kernel
theorem dX8_many_64 : decode cX8_many 64 = .ok (.invokevirtual 259, 3) := by decide +kernel
theorem dX8_many_67 : decode cX8_many 67 = .ok (.ireturn, 1) := by decide +kernel
theorem dX8_many_68 : decode cX8_many 68 = .ok (.aload_n 0, 1) := by decide +kernel
theorem dX8_many_69 : decode cX8_many 69 = .ok (.getfield 31, 3) := by decide +kernel
theorem dX8_many_72 : decode cX8_many 72 = .ok (.getfield 93, 3) := by decide +kernel
theorem dX8_many_75 : decode cX8_many 75 = .ok (.ireturn, 1) := by decide +kernel
theorem dX8_many_76 : decode cX8_many 76 = .ok (.bipush (-2), 2) := by decide +kernel
theorem dX8_many_78 : decode cX8_many 78 = .ok (.ireturn, 1) := by decide +kernel
theorem dX8_isWithin_0 : decode cX8_isWithin 0 = .ok (.iload_n 0, 1) := by decide +kernel
theorem dX8_isWithin_1 : decode cX8_isWithin 1 = .ok (.iload_n 1, 1) := by decide +kernel
theorem dX8_isWithin_2 : decode cX8_isWithin 2 = .ok (.if_icmp .lt 12, 3) := by decide +kernel
theorem dX8_isWithin_5 : decode cX8_isWithin 5 = .ok (.iload_n 0, 1) := by decide +kernel
theorem dX8_isWithin_6 : decode cX8_isWithin 6 = .ok (.iload_n 2, 1) := by decide +kernel
theorem dX8_isWithin_7 : decode cX8_isWithin 7 = .ok (.if_icmp .gt 7, 3) := by decide +kernel
theorem dX8_isWithin_10 : decode cX8_isWithin 10 = .ok (.iconst 1, 1) := by decide +kernel
theorem dX8_isWithin_11 : decode cX8_isWithin 11 = .ok (.goto 4, 3) := by decide +kernel
theorem dX8_isWithin_14 : decode cX8_isWithin 14 = .ok (.iconst 0, 1) := by decide +kernel
theorem dX8_isWithin_15 : decode cX8_isWithin 15 = .ok (.ireturn, 1) := by decide +kernel
theorem dX8_isShift_0 : decode cX8_isShift 0 = .ok (.iload_n 0, 1) := by decide +kernel
theorem dX8_isShift_1 : decode cX8_isShift 1 = .ok (.bipush (-5), 2) := by decide +kernel
theorem dX8_isShift_3 : decode cX8_isShift 3 = .ok (.iconst 5, 1) := by decide +kernel
theorem dX8_isShift_4 : decode cX8_isShift 4 = .ok (.invokestatic 120, 3) := by decide +kernel
theorem dX8_isShift_7 : decode cX8_isShift 7 = .ok (.ireturn, 1) := by decide +kernel
theorem dX8_isSheet_0 : decode cX8_isSheet 0 = .ok (.iload_n 0, 1) := by decide +kernel
theorem dX8_isSheet_1 : decode cX8_isSheet 1 = .ok (.iconst 0, 1) := by decide +kernel
theorem dX8_isSheet_2 : decode cX8_isSheet 2 = .ok (.iconst 3, 1) := by decide +kernel
theorem dX8_isSheet_3 : decode cX8_isSheet 3 = .ok (.invokestatic 120, 3) := by decide +kernel
theorem dX8_isSheet_6 : decode cX8_isSheet 6 = .ok (.ireturn, 1) := by decide +kernel
theorem dX8_isLane_0 : decode cX8_isLane 0 = .ok (.iload_n 0, 1) := by decide +kernel
theorem dX8_isLane_1 : decode cX8_isLane 1 = .ok (.iconst 0, 1) := by decide +kernel
theorem dX8_isLane_2 : decode cX8_isLane 2 = .ok (.iconst 2, 1) := by decide +kernel
theorem dX8_isLane_3 : decode cX8_isLane 3 = .ok (.invokestatic 120, 3) := by decide +kernel
theorem dX8_isLane_6 : decode cX8_isLane 6 = .ok (.ireturn, 1) := by decide +kernel
theorem dX8_isDayQuestion_0 : decode cX8_isDayQuestion 0 = .ok (.iload_n 0, 1) := by decide +kernel
theorem dX8_isDayQuestion_1 : decode cX8_isDayQuestion 1 = .ok (.iconst 0, 1) := by decide +kernel
theorem dX8_isDayQuestion_2 : decode cX8_isDayQuestion 2 = .ok (.iconst 4, 1) := by decide +kernel
theorem dX8_isDayQuestion_3 : decode cX8_isDayQuestion 3 = .ok (.invokestatic 120, 3) := by decide +kernel
theorem dX8_isDayQuestion_6 : decode cX8_isDayQuestion 6 = .ok (.ifCond .ne 14, 3) := by decide +kernel
theorem dX8_isDayQuestion_9 : decode cX8_isDayQuestion 9 = .ok (.iload_n 0, 1) := by decide +kernel
theorem dX8_isDayQuestion_10 : decode cX8_isDayQuestion 10 = .ok (.bipush 10, 2) := by decide +kernel
theorem dX8_isDayQuestion_12 : decode cX8_isDayQuestion 12 = .ok (.bipush 13, 2) := by decide +kernel
theorem dX8_isDayQuestion_14 : decode cX8_isDayQuestion 14 = .ok (.invokestatic 120, 3) := by decide +kernel
theorem dX8_isDayQuestion_17 : decode cX8_isDayQuestion 17 = .ok (.ifCond .eq 7, 3) := by decide +kernel
theorem dX8_isDayQuestion_20 : decode cX8_isDayQuestion 20 = .ok (.iconst 1, 1) := by decide +kernel
theorem dX8_isDayQuestion_21 : decode cX8_isDayQuestion 21 = .ok (.goto 4, 3) := by decide +kernel
theorem dX8_isDayQuestion_24 : decode cX8_isDayQuestion 24 = .ok (.iconst 0, 1) := by decide +kernel
theorem dX8_isDayQuestion_25 : decode cX8_isDayQuestion 25 = .ok (.ireturn, 1) := by decide +kernel
theorem dX8_faulted_0 : decode cX8_faulted 0 = .ok (.aload_n 0, 1) := by decide +kernel
theorem dX8_faulted_1 : decode cX8_faulted 1 = .ok (.iload_n 1, 1) := by decide +kernel
theorem dX8_faulted_2 : decode cX8_faulted 2 = .ok (.putfield 56, 3) := by decide +kernel
theorem dX8_faulted_5 : decode cX8_faulted 5 = .ok (.bipush (-10), 2) := by decide +kernel
theorem dX8_faulted_7 : decode cX8_faulted 7 = .ok (.iload_n 1, 1) := by decide +kernel
theorem dX8_faulted_8 : decode cX8_faulted 8 = .ok (.isub, 1) := by decide +kernel
theorem dX8_faulted_9 : decode cX8_faulted 9 = .ok (.ireturn, 1) := by decide +kernel
theorem dX8_toldPitch_0 : decode cX8_toldPitch 0 = .ok (.aload_n 0, 1) := by decide +kernel
theorem dX8_toldPitch_1 : decode cX8_toldPitch 1 = .ok (.getfield 12, 3) := by decide +kernel
theorem dX8_toldPitch_4 : decode cX8_toldPitch 4 = .ok (.iload_n 2, 1) := by decide +kernel
theorem dX8_toldPitch_5 : decode cX8_toldPitch 5 = .ok (.invokevirtual 128, 3) := by decide +kernel
theorem dX8_toldPitch_8 : decode cX8_toldPitch 8 = .ok (.ifCond .eq 13, 3) := by decide +kernel
theorem dX8_toldPitch_11 : decode cX8_toldPitch 11 = .ok (.aload_n 1, 1) := by decide +kernel
theorem dX8_toldPitch_12 : decode cX8_toldPitch 12 = .ok (.getfield 112, 3) := by decide +kernel
theorem dX8_toldPitch_15 : decode cX8_toldPitch 15 = .ok (.iload_n 2, 1) := by decide +kernel
theorem dX8_toldPitch_16 : decode cX8_toldPitch 16 = .ok (.iaload, 1) := by decide +kernel
theorem dX8_toldPitch_17 : decode cX8_toldPitch 17 = .ok (.iconst (-1), 1) := by decide +kernel
theorem dX8_toldPitch_18 : decode cX8_toldPitch 18 = .ok (.if_icmp .ne 6, 3) := by decide +kernel
theorem dX8_toldPitch_21 : decode cX8_toldPitch 21 = .ok (.bipush (-9), 2) := by decide +kernel
theorem dX8_toldPitch_23 : decode cX8_toldPitch 23 = .ok (.ireturn, 1) := by decide +kernel
theorem dX8_toldPitch_24 : decode cX8_toldPitch 24 = .ok (.aload_n 1, 1) := by decide +kernel
theorem dX8_toldPitch_25 : decode cX8_toldPitch 25 = .ok (.getfield 112, 3) := by decide +kernel
theorem dX8_toldPitch_28 : decode cX8_toldPitch 28 = .ok (.iload_n 2, 1) := by decide +kernel
theorem dX8_toldPitch_29 : decode cX8_toldPitch 29 = .ok (.iaload, 1) := by decide +kernel
theorem dX8_toldPitch_30 : decode cX8_toldPitch 30 = .ok (.ireturn, 1) := by decide +kernel
theorem dX8_divisorWithAllShifts_0 : decode cX8_divisorWithAllShifts 0 = .ok (.bipush 120, 2) := by decide +kernel
theorem dX8_divisorWithAllShifts_2 : decode cX8_divisorWithAllShifts 2 = .ok (.istore_n 1, 1) := by decide +kernel
theorem dX8_divisorWithAllShifts_3 : decode cX8_divisorWithAllShifts 3 = .ok (.iload_n 1, 1) := by decide +kernel
theorem dX8_divisorWithAllShifts_4 : decode cX8_divisorWithAllShifts 4 = .ok (.iconst 1, 1) := by decide +kernel
theorem dX8_divisorWithAllShifts_5 : decode cX8_divisorWithAllShifts 5 = .ok (.if_icmp .le 24, 3) := by decide +kernel
theorem dX8_divisorWithAllShifts_8 : decode cX8_divisorWithAllShifts 8 = .ok (.iload_n 0, 1) := by decide +kernel
theorem dX8_divisorWithAllShifts_9 : decode cX8_divisorWithAllShifts 9 = .ok (.iload_n 1, 1) := by decide +kernel
theorem dX8_divisorWithAllShifts_10 : decode cX8_divisorWithAllShifts 10 = .ok (.irem, 1) := by decide +kernel
theorem dX8_divisorWithAllShifts_11 : decode cX8_divisorWithAllShifts 11 = .ok (.ifCond .ne 12, 3) := by decide +kernel
theorem dX8_divisorWithAllShifts_14 : decode cX8_divisorWithAllShifts 14 = .ok (.bipush 120, 2) := by decide +kernel
theorem dX8_divisorWithAllShifts_16 : decode cX8_divisorWithAllShifts 16 = .ok (.iload_n 1, 1) := by decide +kernel
theorem dX8_divisorWithAllShifts_17 : decode cX8_divisorWithAllShifts 17 = .ok (.irem, 1) := by decide +kernel
theorem dX8_divisorWithAllShifts_18 : decode cX8_divisorWithAllShifts 18 = .ok (.ifCond .ne 5, 3) := by decide +kernel
theorem dX8_divisorWithAllShifts_21 : decode cX8_divisorWithAllShifts 21 = .ok (.iload_n 1, 1) := by decide +kernel
theorem dX8_divisorWithAllShifts_22 : decode cX8_divisorWithAllShifts 22 = .ok (.ireturn, 1) := by decide +kernel
theorem dX8_divisorWithAllShifts_23 : decode cX8_divisorWithAllShifts 23 = .ok (.iinc 1 (-1), 3) := by decide +kernel
theorem dX8_divisorWithAllShifts_26 : decode cX8_divisorWithAllShifts 26 = .ok (.goto (-23), 3) := by decide +kernel
theorem dX8_divisorWithAllShifts_29 : decode cX8_divisorWithAllShifts 29 = .ok (.iconst 1, 1) := by decide +kernel
theorem dX8_divisorWithAllShifts_30 : decode cX8_divisorWithAllShifts 30 = .ok (.ireturn, 1) := by decide +kernel
theorem dX8_areActs_0 : decode cX8_areActs 0 = .ok (.iconst 0, 1) := by decide +kernel
theorem dX8_areActs_1 : decode cX8_areActs 1 = .ok (.istore_n 3, 1) := by decide +kernel
theorem dX8_areActs_2 : decode cX8_areActs 2 = .ok (.iload_n 3, 1) := by decide +kernel
theorem dX8_areActs_3 : decode cX8_areActs 3 = .ok (.iload_n 2, 1) := by decide +kernel
theorem dX8_areActs_4 : decode cX8_areActs 4 = .ok (.if_icmp .ge 100, 3) := by decide +kernel
theorem dX8_areActs_7 : decode cX8_areActs 7 = .ok (.aload_n 0, 1) := by decide +kernel
theorem dX8_areActs_8 : decode cX8_areActs 8 = .ok (.getfield 227, 3) := by decide +kernel
theorem dX8_areActs_11 : decode cX8_areActs 11 = .ok (.iload_n 1, 1) := by decide +kernel
theorem dX8_areActs_12 : decode cX8_areActs 12 = .ok (.iconst 2, 1) := by decide +kernel
theorem dX8_areActs_13 : decode cX8_areActs 13 = .ok (.iload_n 3, 1) := by decide +kernel
theorem dX8_areActs_14 : decode cX8_areActs 14 = .ok (.imul, 1) := by decide +kernel
theorem dX8_areActs_15 : decode cX8_areActs 15 = .ok (.iadd, 1) := by decide +kernel
theorem dX8_areActs_16 : decode cX8_areActs 16 = .ok (.iaload, 1) := by decide +kernel
theorem dX8_areActs_17 : decode cX8_areActs 17 = .ok (.istore 4, 2) := by decide +kernel
theorem dX8_areActs_19 : decode cX8_areActs 19 = .ok (.aload_n 0, 1) := by decide +kernel
theorem dX8_areActs_20 : decode cX8_areActs 20 = .ok (.getfield 227, 3) := by decide +kernel
theorem dX8_areActs_23 : decode cX8_areActs 23 = .ok (.iload_n 1, 1) := by decide +kernel
theorem dX8_areActs_24 : decode cX8_areActs 24 = .ok (.iconst 2, 1) := by decide +kernel
theorem dX8_areActs_25 : decode cX8_areActs 25 = .ok (.iload_n 3, 1) := by decide +kernel
theorem dX8_areActs_26 : decode cX8_areActs 26 = .ok (.imul, 1) := by decide +kernel
theorem dX8_areActs_27 : decode cX8_areActs 27 = .ok (.iadd, 1) := by decide +kernel
theorem dX8_areActs_28 : decode cX8_areActs 28 = .ok (.iconst 1, 1) := by decide +kernel
theorem dX8_areActs_29 : decode cX8_areActs 29 = .ok (.iadd, 1) := by decide +kernel
theorem dX8_areActs_30 : decode cX8_areActs 30 = .ok (.iaload, 1) := by decide +kernel
theorem dX8_areActs_31 : decode cX8_areActs 31 = .ok (.istore 5, 2) := by decide +kernel
theorem dX8_areActs_33 : decode cX8_areActs 33 = .ok (.iload 5, 2) := by decide +kernel
theorem dX8_areActs_35 : decode cX8_areActs 35 = .ok (.iconst 0, 1) := by decide +kernel
theorem dX8_areActs_36 : decode cX8_areActs 36 = .ok (.iconst 3, 1) := by decide +kernel
theorem dX8_areActs_37 : decode cX8_areActs 37 = .ok (.invokestatic 120, 3) := by decide +kernel
theorem dX8_areActs_40 : decode cX8_areActs 40 = .ok (.ifCond .eq 18, 3) := by decide +kernel
theorem dX8_areActs_43 : decode cX8_areActs 43 = .ok (.iload 4, 2) := by decide +kernel
theorem dX8_areActs_45 : decode cX8_areActs 45 = .ok (.iconst 0, 1) := by decide +kernel
theorem dX8_areActs_46 : decode cX8_areActs 46 = .ok (.bipush 20, 2) := by decide +kernel
theorem dX8_areActs_48 : decode cX8_areActs 48 = .ok (.invokestatic 120, 3) := by decide +kernel
theorem dX8_areActs_51 : decode cX8_areActs 51 = .ok (.ifCond .eq 7, 3) := by decide +kernel
theorem dX8_areActs_54 : decode cX8_areActs 54 = .ok (.iconst 1, 1) := by decide +kernel
theorem dX8_areActs_55 : decode cX8_areActs 55 = .ok (.goto 4, 3) := by decide +kernel
theorem dX8_areActs_58 : decode cX8_areActs 58 = .ok (.iconst 0, 1) := by decide +kernel
theorem dX8_areActs_59 : decode cX8_areActs 59 = .ok (.istore 6, 2) := by decide +kernel
theorem dX8_areActs_61 : decode cX8_areActs 61 = .ok (.iload 5, 2) := by decide +kernel
theorem dX8_areActs_63 : decode cX8_areActs 63 = .ok (.bipush 9, 2) := by decide +kernel
theorem dX8_areActs_65 : decode cX8_areActs 65 = .ok (.if_icmp .ne 18, 3) := by decide +kernel
theorem dX8_areActs_68 : decode cX8_areActs 68 = .ok (.iload 4, 2) := by decide +kernel
theorem dX8_areActs_70 : decode cX8_areActs 70 = .ok (.iconst 0, 1) := by decide +kernel
theorem dX8_areActs_71 : decode cX8_areActs 71 = .ok (.bipush 8, 2) := by decide +kernel
theorem dX8_areActs_73 : decode cX8_areActs 73 = .ok (.invokestatic 120, 3) := by decide +kernel
theorem dX8_areActs_76 : decode cX8_areActs 76 = .ok (.ifCond .eq 7, 3) := by decide +kernel
theorem dX8_areActs_79 : decode cX8_areActs 79 = .ok (.iconst 1, 1) := by decide +kernel
theorem dX8_areActs_80 : decode cX8_areActs 80 = .ok (.goto 4, 3) := by decide +kernel
theorem dX8_areActs_83 : decode cX8_areActs 83 = .ok (.iconst 0, 1) := by decide +kernel
theorem dX8_areActs_84 : decode cX8_areActs 84 = .ok (.istore 7, 2) := by decide +kernel
theorem dX8_areActs_86 : decode cX8_areActs 86 = .ok (.iload 6, 2) := by decide +kernel
theorem dX8_areActs_88 : decode cX8_areActs 88 = .ok (.ifCond .ne 10, 3) := by decide +kernel
theorem dX8_areActs_91 : decode cX8_areActs 91 = .ok (.iload 7, 2) := by decide +kernel
theorem dX8_areActs_93 : decode cX8_areActs 93 = .ok (.ifCond .ne 5, 3) := by decide +kernel
theorem dX8_areActs_96 : decode cX8_areActs 96 = .ok (.iconst 0, 1) := by decide +kernel
theorem dX8_areActs_97 : decode cX8_areActs 97 = .ok (.ireturn, 1) := by decide +kernel
theorem dX8_areActs_98 : decode cX8_areActs 98 = .ok (.iinc 3 1, 3) := by decide +kernel
theorem dX8_areActs_101 : decode cX8_areActs 101 = .ok (.goto (-99), 3) := by decide +kernel
theorem dX8_areActs_104 : decode cX8_areActs 104 = .ok (.iconst 1, 1) := by decide +kernel
theorem dX8_areActs_105 : decode cX8_areActs 105 = .ok (.ireturn, 1) := by decide +kernel
theorem dX8_firstWrong_0 : decode cX8_firstWrong 0 = .ok (.iconst 0, 1) := by decide +kernel
theorem dX8_firstWrong_1 : decode cX8_firstWrong 1 = .ok (.istore 4, 2) := by decide +kernel
theorem dX8_firstWrong_3 : decode cX8_firstWrong 3 = .ok (.iload 4, 2) := by decide +kernel
theorem dX8_firstWrong_5 : decode cX8_firstWrong 5 = .ok (.iload_n 3, 1) := by decide +kernel
theorem dX8_firstWrong_6 : decode cX8_firstWrong 6 = .ok (.if_icmp .ge 98, 3) := by decide +kernel
theorem dX8_firstWrong_9 : decode cX8_firstWrong 9 = .ok (.aload_n 1, 1) := by decide +kernel
theorem dX8_firstWrong_10 : decode cX8_firstWrong 10 = .ok (.getfield 227, 3) := by decide +kernel
theorem dX8_firstWrong_13 : decode cX8_firstWrong 13 = .ok (.iload_n 2, 1) := by decide +kernel
theorem dX8_firstWrong_14 : decode cX8_firstWrong 14 = .ok (.iconst 2, 1) := by decide +kernel
theorem dX8_firstWrong_15 : decode cX8_firstWrong 15 = .ok (.iload 4, 2) := by decide +kernel
theorem dX8_firstWrong_17 : decode cX8_firstWrong 17 = .ok (.imul, 1) := by decide +kernel
theorem dX8_firstWrong_18 : decode cX8_firstWrong 18 = .ok (.iadd, 1) := by decide +kernel
theorem dX8_firstWrong_19 : decode cX8_firstWrong 19 = .ok (.iaload, 1) := by decide +kernel
theorem dX8_firstWrong_20 : decode cX8_firstWrong 20 = .ok (.istore 5, 2) := by decide +kernel
theorem dX8_firstWrong_22 : decode cX8_firstWrong 22 = .ok (.aload_n 1, 1) := by decide +kernel
theorem dX8_firstWrong_23 : decode cX8_firstWrong 23 = .ok (.getfield 227, 3) := by decide +kernel
theorem dX8_firstWrong_26 : decode cX8_firstWrong 26 = .ok (.iload_n 2, 1) := by decide +kernel
theorem dX8_firstWrong_27 : decode cX8_firstWrong 27 = .ok (.iconst 2, 1) := by decide +kernel
theorem dX8_firstWrong_28 : decode cX8_firstWrong 28 = .ok (.iload 4, 2) := by decide +kernel
theorem dX8_firstWrong_30 : decode cX8_firstWrong 30 = .ok (.imul, 1) := by decide +kernel
theorem dX8_firstWrong_31 : decode cX8_firstWrong 31 = .ok (.iadd, 1) := by decide +kernel
theorem dX8_firstWrong_32 : decode cX8_firstWrong 32 = .ok (.iconst 1, 1) := by decide +kernel
theorem dX8_firstWrong_33 : decode cX8_firstWrong 33 = .ok (.iadd, 1) := by decide +kernel
theorem dX8_firstWrong_34 : decode cX8_firstWrong 34 = .ok (.iaload, 1) := by decide +kernel
theorem dX8_firstWrong_35 : decode cX8_firstWrong 35 = .ok (.istore 6, 2) := by decide +kernel
theorem dX8_firstWrong_37 : decode cX8_firstWrong 37 = .ok (.iload 6, 2) := by decide +kernel
theorem dX8_firstWrong_39 : decode cX8_firstWrong 39 = .ok (.bipush 9, 2) := by decide +kernel
theorem dX8_firstWrong_41 : decode cX8_firstWrong 41 = .ok (.if_icmp .ne 15, 3) := by decide +kernel
theorem dX8_firstWrong_44 : decode cX8_firstWrong 44 = .ok (.aload_n 0, 1) := by decide +kernel
theorem dX8_firstWrong_45 : decode cX8_firstWrong 45 = .ok (.getfield 25, 3) := by decide +kernel
theorem dX8_firstWrong_48 : decode cX8_firstWrong 48 = .ok (.iload 5, 2) := by decide +kernel
theorem dX8_firstWrong_50 : decode cX8_firstWrong 50 = .ok (.invokevirtual 141, 3) := by decide +kernel
theorem dX8_firstWrong_53 : decode cX8_firstWrong 53 = .ok (.goto 35, 3) := by decide +kernel
theorem dX8_firstWrong_56 : decode cX8_firstWrong 56 = .ok (.aload_n 0, 1) := by decide +kernel
theorem dX8_firstWrong_57 : decode cX8_firstWrong 57 = .ok (.getfield 12, 3) := by decide +kernel
theorem dX8_firstWrong_60 : decode cX8_firstWrong 60 = .ok (.iload 6, 2) := by decide +kernel
theorem dX8_firstWrong_62 : decode cX8_firstWrong 62 = .ok (.invokevirtual 95, 3) := by decide +kernel
theorem dX8_firstWrong_65 : decode cX8_firstWrong 65 = .ok (.ifCond .eq 22, 3) := by decide +kernel
theorem dX8_firstWrong_68 : decode cX8_firstWrong 68 = .ok (.aload_n 0, 1) := by decide +kernel
theorem dX8_firstWrong_69 : decode cX8_firstWrong 69 = .ok (.getfield 25, 3) := by decide +kernel
theorem dX8_firstWrong_72 : decode cX8_firstWrong 72 = .ok (.iload 6, 2) := by decide +kernel
theorem dX8_firstWrong_74 : decode cX8_firstWrong 74 = .ok (.iload 5, 2) := by decide +kernel
theorem dX8_firstWrong_76 : decode cX8_firstWrong 76 = .ok (.iconst 0, 1) := by decide +kernel
theorem dX8_firstWrong_77 : decode cX8_firstWrong 77 = .ok (.invokevirtual 138, 3) := by decide +kernel
theorem dX8_firstWrong_80 : decode cX8_firstWrong 80 = .ok (.ifCond .eq 7, 3) := by decide +kernel
theorem dX8_firstWrong_83 : decode cX8_firstWrong 83 = .ok (.iconst 1, 1) := by decide +kernel
theorem dX8_firstWrong_84 : decode cX8_firstWrong 84 = .ok (.goto 4, 3) := by decide +kernel
theorem dX8_firstWrong_87 : decode cX8_firstWrong 87 = .ok (.iconst 0, 1) := by decide +kernel
theorem dX8_firstWrong_88 : decode cX8_firstWrong 88 = .ok (.istore 7, 2) := by decide +kernel
theorem dX8_firstWrong_90 : decode cX8_firstWrong 90 = .ok (.iload 7, 2) := by decide +kernel
theorem dX8_firstWrong_92 : decode cX8_firstWrong 92 = .ok (.ifCond .ne 6, 3) := by decide +kernel
theorem dX8_firstWrong_95 : decode cX8_firstWrong 95 = .ok (.iload 4, 2) := by decide +kernel
theorem dX8_firstWrong_97 : decode cX8_firstWrong 97 = .ok (.ireturn, 1) := by decide +kernel
theorem dX8_firstWrong_98 : decode cX8_firstWrong 98 = .ok (.iinc 4 1, 3) := by decide +kernel
theorem dX8_firstWrong_101 : decode cX8_firstWrong 101 = .ok (.goto (-98), 3) := by decide +kernel
theorem dX8_firstWrong_104 : decode cX8_firstWrong 104 = .ok (.bipush (-9), 2) := by decide +kernel
theorem dX8_firstWrong_106 : decode cX8_firstWrong 106 = .ok (.ireturn, 1) := by decide +kernel
theorem dX8_afterDay_0 : decode cX8_afterDay 0 = .ok (.aload_n 0, 1) := by decide +kernel
theorem dX8_afterDay_1 : decode cX8_afterDay 1 = .ok (.getfield 25, 3) := by decide +kernel
theorem dX8_afterDay_4 : decode cX8_afterDay 4 = .ok (.aload_n 0, 1) := by decide +kernel
theorem dX8_afterDay_5 : decode cX8_afterDay 5 = .ok (.getfield 12, 3) := by decide +kernel
theorem dX8_afterDay_8 : decode cX8_afterDay 8 = .ok (.invokevirtual 144, 3) := by decide +kernel
theorem dX8_afterDay_11 : decode cX8_afterDay 11 = .ok (.iload_n 1, 1) := by decide +kernel
theorem dX8_afterDay_12 : decode cX8_afterDay 12 = .ok (.tableswitch 68 0 4 #[36, 68, 44, 52, 60], 36) := by decide +kernel
theorem dX8_afterDay_48 : decode cX8_afterDay 48 = .ok (.aload_n 0, 1) := by decide +kernel
theorem dX8_afterDay_49 : decode cX8_afterDay 49 = .ok (.getfield 25, 3) := by decide +kernel
theorem dX8_afterDay_52 : decode cX8_afterDay 52 = .ok (.getfield 90, 3) := by decide +kernel
theorem dX8_afterDay_55 : decode cX8_afterDay 55 = .ok (.ireturn, 1) := by decide +kernel
theorem dX8_afterDay_56 : decode cX8_afterDay 56 = .ok (.aload_n 0, 1) := by decide +kernel
theorem dX8_afterDay_57 : decode cX8_afterDay 57 = .ok (.getfield 25, 3) := by decide +kernel
theorem dX8_afterDay_60 : decode cX8_afterDay 60 = .ok (.invokevirtual 262, 3) := by decide +kernel
theorem dX8_afterDay_63 : decode cX8_afterDay 63 = .ok (.ireturn, 1) := by decide +kernel
theorem dX8_afterDay_64 : decode cX8_afterDay 64 = .ok (.aload_n 0, 1) := by decide +kernel
theorem dX8_afterDay_65 : decode cX8_afterDay 65 = .ok (.getfield 25, 3) := by decide +kernel
theorem dX8_afterDay_68 : decode cX8_afterDay 68 = .ok (.invokevirtual 265, 3) := by decide +kernel
theorem dX8_afterDay_71 : decode cX8_afterDay 71 = .ok (.ireturn, 1) := by decide +kernel
theorem dX8_afterDay_72 : decode cX8_afterDay 72 = .ok (.aload_n 0, 1) := by decide +kernel
theorem dX8_afterDay_73 : decode cX8_afterDay 73 = .ok (.getfield 25, 3) := by decide +kernel
theorem dX8_afterDay_76 : decode cX8_afterDay 76 = .ok (.invokevirtual 268, 3) := by decide +kernel
theorem dX8_afterDay_79 : decode cX8_afterDay 79 = .ok (.ireturn, 1) := by decide +kernel
theorem dX8_afterDay_80 : decode cX8_afterDay 80 = .ok (.aload_n 0, 1) := by decide +kernel
theorem dX8_afterDay_81 : decode cX8_afterDay 81 = .ok (.iload_n 1, 1) := by decide +kernel
theorem dX8_afterDay_82 : decode cX8_afterDay 82 = .ok (.bipush 10, 2) := by decide +kernel
theorem dX8_afterDay_84 : decode cX8_afterDay 84 = .ok (.isub, 1) := by decide +kernel
theorem dX8_afterDay_85 : decode cX8_afterDay 85 = .ok (.aload_n 0, 1) := by decide +kernel
theorem dX8_afterDay_86 : decode cX8_afterDay 86 = .ok (.getfield 25, 3) := by decide +kernel
theorem dX8_afterDay_89 : decode cX8_afterDay 89 = .ok (.getfield 148, 3) := by decide +kernel
theorem dX8_afterDay_92 : decode cX8_afterDay 92 = .ok (.invokevirtual 271, 3) := by decide +kernel
theorem dX8_afterDay_95 : decode cX8_afterDay 95 = .ok (.ireturn, 1) := by decide +kernel
theorem dX8_mostListened_0 : decode cX8_mostListened 0 = .ok (.aload_n 0, 1) := by decide +kernel
theorem dX8_mostListened_1 : decode cX8_mostListened 1 = .ok (.getfield 12, 3) := by decide +kernel
theorem dX8_mostListened_4 : decode cX8_mostListened 4 = .ok (.iload_n 1, 1) := by decide +kernel
theorem dX8_mostListened_5 : decode cX8_mostListened 5 = .ok (.invokevirtual 95, 3) := by decide +kernel
theorem dX8_mostListened_8 : decode cX8_mostListened 8 = .ok (.ifCond .ne 6, 3) := by decide +kernel
theorem dX8_mostListened_11 : decode cX8_mostListened 11 = .ok (.bipush (-9), 2) := by decide +kernel
theorem dX8_mostListened_13 : decode cX8_mostListened 13 = .ok (.ireturn, 1) := by decide +kernel
theorem dX8_mostListened_14 : decode cX8_mostListened 14 = .ok (.aload_n 0, 1) := by decide +kernel
theorem dX8_mostListened_15 : decode cX8_mostListened 15 = .ok (.getfield 12, 3) := by decide +kernel
theorem dX8_mostListened_18 : decode cX8_mostListened 18 = .ok (.iload_n 1, 1) := by decide +kernel
theorem dX8_mostListened_19 : decode cX8_mostListened 19 = .ok (.aload_n 2, 1) := by decide +kernel
theorem dX8_mostListened_20 : decode cX8_mostListened 20 = .ok (.aload_n 0, 1) := by decide +kernel
theorem dX8_mostListened_21 : decode cX8_mostListened 21 = .ok (.getfield 12, 3) := by decide +kernel
theorem dX8_mostListened_24 : decode cX8_mostListened 24 = .ok (.iload_n 1, 1) := by decide +kernel
theorem dX8_mostListened_25 : decode cX8_mostListened 25 = .ok (.aload_n 2, 1) := by decide +kernel
theorem dX8_mostListened_26 : decode cX8_mostListened 26 = .ok (.invokevirtual 155, 3) := by decide +kernel
theorem dX8_mostListened_29 : decode cX8_mostListened 29 = .ok (.invokevirtual 151, 3) := by decide +kernel
theorem dX8_mostListened_32 : decode cX8_mostListened 32 = .ok (.ireturn, 1) := by decide +kernel
theorem dX8_leave_0 : decode cX8_leave 0 = .ok (.aload_n 0, 1) := by decide +kernel
theorem dX8_leave_1 : decode cX8_leave 1 = .ok (.bipush 31, 2) := by decide +kernel
theorem dX8_leave_3 : decode cX8_leave 3 = .ok (.aload_n 0, 1) := by decide +kernel
theorem dX8_leave_4 : decode cX8_leave 4 = .ok (.getfield 256, 3) := by decide +kernel
theorem dX8_leave_7 : decode cX8_leave 7 = .ok (.imul, 1) := by decide +kernel
theorem dX8_leave_8 : decode cX8_leave 8 = .ok (.iload_n 1, 1) := by decide +kernel
theorem dX8_leave_9 : decode cX8_leave 9 = .ok (.iadd, 1) := by decide +kernel
theorem dX8_leave_10 : decode cX8_leave 10 = .ok (.putfield 256, 3) := by decide +kernel
theorem dX8_leave_13 : decode cX8_leave 13 = .ok (.return_, 1) := by decide +kernel
theorem dX8_plainTelling_0 : decode cX8_plainTelling 0 = .ok (.aload_n 0, 1) := by decide +kernel
theorem dX8_plainTelling_1 : decode cX8_plainTelling 1 = .ok (.iconst 1, 1) := by decide +kernel
theorem dX8_plainTelling_2 : decode cX8_plainTelling 2 = .ok (.invokevirtual 274, 3) := by decide +kernel
theorem dX8_plainTelling_5 : decode cX8_plainTelling 5 = .ok (.aload_n 0, 1) := by decide +kernel
theorem dX8_plainTelling_6 : decode cX8_plainTelling 6 = .ok (.getfield 12, 3) := by decide +kernel
theorem dX8_plainTelling_9 : decode cX8_plainTelling 9 = .ok (.getfield 106, 3) := by decide +kernel
theorem dX8_plainTelling_12 : decode cX8_plainTelling 12 = .ok (.aload_n 1, 1) := by decide +kernel
theorem dX8_plainTelling_13 : decode cX8_plainTelling 13 = .ok (.aload_n 0, 1) := by decide +kernel
theorem dX8_plainTelling_14 : decode cX8_plainTelling 14 = .ok (.getfield 12, 3) := by decide +kernel
theorem dX8_plainTelling_17 : decode cX8_plainTelling 17 = .ok (.getfield 106, 3) := by decide +kernel
theorem dX8_plainTelling_20 : decode cX8_plainTelling 20 = .ok (.invokevirtual 109, 3) := by decide +kernel
theorem dX8_plainTelling_23 : decode cX8_plainTelling 23 = .ok (.isub, 1) := by decide +kernel
theorem dX8_plainTelling_24 : decode cX8_plainTelling 24 = .ok (.ireturn, 1) := by decide +kernel
theorem dX8_broadTelling_0 : decode cX8_broadTelling 0 = .ok (.aload_n 0, 1) := by decide +kernel
theorem dX8_broadTelling_1 : decode cX8_broadTelling 1 = .ok (.iconst 2, 1) := by decide +kernel
theorem dX8_broadTelling_2 : decode cX8_broadTelling 2 = .ok (.invokevirtual 274, 3) := by decide +kernel
theorem dX8_broadTelling_5 : decode cX8_broadTelling 5 = .ok (.aload_n 0, 1) := by decide +kernel
theorem dX8_broadTelling_6 : decode cX8_broadTelling 6 = .ok (.aload_n 1, 1) := by decide +kernel
theorem dX8_broadTelling_7 : decode cX8_broadTelling 7 = .ok (.invokevirtual 246, 3) := by decide +kernel
theorem dX8_broadTelling_10 : decode cX8_broadTelling 10 = .ok (.bipush 100, 2) := by decide +kernel
theorem dX8_broadTelling_12 : decode cX8_broadTelling 12 = .ok (.iadd, 1) := by decide +kernel
theorem dX8_broadTelling_13 : decode cX8_broadTelling 13 = .ok (.ireturn, 1) := by decide +kernel
theorem dX8_keenTelling_0 : decode cX8_keenTelling 0 = .ok (.aload_n 0, 1) := by decide +kernel
theorem dX8_keenTelling_1 : decode cX8_keenTelling 1 = .ok (.iconst 3, 1) := by decide +kernel
theorem dX8_keenTelling_2 : decode cX8_keenTelling 2 = .ok (.invokevirtual 274, 3) := by decide +kernel
theorem dX8_keenTelling_5 : decode cX8_keenTelling 5 = .ok (.aload_n 0, 1) := by decide +kernel
theorem dX8_keenTelling_6 : decode cX8_keenTelling 6 = .ok (.aload_n 1, 1) := by decide +kernel
theorem dX8_keenTelling_7 : decode cX8_keenTelling 7 = .ok (.invokevirtual 243, 3) := by decide +kernel
theorem dX8_keenTelling_10 : decode cX8_keenTelling 10 = .ok (.istore_n 2, 1) := by decide +kernel
theorem dX8_keenTelling_11 : decode cX8_keenTelling 11 = .ok (.iload_n 2, 1) := by decide +kernel
theorem dX8_keenTelling_12 : decode cX8_keenTelling 12 = .ok (.aload_n 0, 1) := by decide +kernel
theorem dX8_keenTelling_13 : decode cX8_keenTelling 13 = .ok (.aload_n 1, 1) := by decide +kernel
theorem dX8_keenTelling_14 : decode cX8_keenTelling 14 = .ok (.invokevirtual 246, 3) := by decide +kernel
theorem dX8_keenTelling_17 : decode cX8_keenTelling 17 = .ok (.iadd, 1) := by decide +kernel
theorem dX8_keenTelling_18 : decode cX8_keenTelling 18 = .ok (.ireturn, 1) := by decide +kernel
theorem dX8_lentHail_0 : decode cX8_lentHail 0 = .ok (.aload_n 0, 1) := by decide +kernel
theorem dX8_lentHail_1 : decode cX8_lentHail 1 = .ok (.iconst 4, 1) := by decide +kernel
theorem dX8_lentHail_2 : decode cX8_lentHail 2 = .ok (.invokevirtual 274, 3) := by decide +kernel
theorem dX8_lentHail_5 : decode cX8_lentHail 5 = .ok (.iload_n 1, 1) := by decide +kernel
theorem dX8_lentHail_6 : decode cX8_lentHail 6 = .ok (.ireturn, 1) := by decide +kernel
theorem dX8_keenHail_0 : decode cX8_keenHail 0 = .ok (.aload_n 0, 1) := by decide +kernel
theorem dX8_keenHail_1 : decode cX8_keenHail 1 = .ok (.iconst 5, 1) := by decide +kernel
theorem dX8_keenHail_2 : decode cX8_keenHail 2 = .ok (.invokevirtual 274, 3) := by decide +kernel
theorem dX8_keenHail_5 : decode cX8_keenHail 5 = .ok (.bipush 60, 2) := by decide +kernel
theorem dX8_keenHail_7 : decode cX8_keenHail 7 = .ok (.ireturn, 1) := by decide +kernel
theorem dJ6_bitCount_0f7a4_0 : decode cJ6_bitCount_0f7a4 0 = .ok (.iload_n 0, 1) := by decide +kernel
theorem dJ6_bitCount_0f7a4_1 : decode cJ6_bitCount_0f7a4 1 = .ok (.iload_n 0, 1) := by decide +kernel
theorem dJ6_bitCount_0f7a4_2 : decode cJ6_bitCount_0f7a4 2 = .ok (.iconst 1, 1) := by decide +kernel
theorem dJ6_bitCount_0f7a4_3 : decode cJ6_bitCount_0f7a4 3 = .ok (.iushr, 1) := by decide +kernel
theorem dJ6_bitCount_0f7a4_4 : decode cJ6_bitCount_0f7a4 4 = .ok (.ldc_w 265, 3) := by decide +kernel
theorem dJ6_bitCount_0f7a4_7 : decode cJ6_bitCount_0f7a4 7 = .ok (.iand, 1) := by decide +kernel
theorem dJ6_bitCount_0f7a4_8 : decode cJ6_bitCount_0f7a4 8 = .ok (.isub, 1) := by decide +kernel
theorem dJ6_bitCount_0f7a4_9 : decode cJ6_bitCount_0f7a4 9 = .ok (.istore_n 0, 1) := by decide +kernel
theorem dJ6_bitCount_0f7a4_10 : decode cJ6_bitCount_0f7a4 10 = .ok (.iload_n 0, 1) := by decide +kernel
theorem dJ6_bitCount_0f7a4_11 : decode cJ6_bitCount_0f7a4 11 = .ok (.ldc_w 266, 3) := by decide +kernel
theorem dJ6_bitCount_0f7a4_14 : decode cJ6_bitCount_0f7a4 14 = .ok (.iand, 1) := by decide +kernel
theorem dJ6_bitCount_0f7a4_15 : decode cJ6_bitCount_0f7a4 15 = .ok (.iload_n 0, 1) := by decide +kernel
theorem dJ6_bitCount_0f7a4_16 : decode cJ6_bitCount_0f7a4 16 = .ok (.iconst 2, 1) := by decide +kernel
theorem dJ6_bitCount_0f7a4_17 : decode cJ6_bitCount_0f7a4 17 = .ok (.iushr, 1) := by decide +kernel
theorem dJ6_bitCount_0f7a4_18 : decode cJ6_bitCount_0f7a4 18 = .ok (.ldc_w 266, 3) := by decide +kernel
theorem dJ6_bitCount_0f7a4_21 : decode cJ6_bitCount_0f7a4 21 = .ok (.iand, 1) := by decide +kernel
theorem dJ6_bitCount_0f7a4_22 : decode cJ6_bitCount_0f7a4 22 = .ok (.iadd, 1) := by decide +kernel
theorem dJ6_bitCount_0f7a4_23 : decode cJ6_bitCount_0f7a4 23 = .ok (.istore_n 0, 1) := by decide +kernel
theorem dJ6_bitCount_0f7a4_24 : decode cJ6_bitCount_0f7a4 24 = .ok (.iload_n 0, 1) := by decide +kernel
theorem dJ6_bitCount_0f7a4_25 : decode cJ6_bitCount_0f7a4 25 = .ok (.iload_n 0, 1) := by decide +kernel
theorem dJ6_bitCount_0f7a4_26 : decode cJ6_bitCount_0f7a4 26 = .ok (.iconst 4, 1) := by decide +kernel
theorem dJ6_bitCount_0f7a4_27 : decode cJ6_bitCount_0f7a4 27 = .ok (.iushr, 1) := by decide +kernel
theorem dJ6_bitCount_0f7a4_28 : decode cJ6_bitCount_0f7a4 28 = .ok (.iadd, 1) := by decide +kernel
theorem dJ6_bitCount_0f7a4_29 : decode cJ6_bitCount_0f7a4 29 = .ok (.ldc_w 267, 3) := by decide +kernel
theorem dJ6_bitCount_0f7a4_32 : decode cJ6_bitCount_0f7a4 32 = .ok (.iand, 1) := by decide +kernel
theorem dJ6_bitCount_0f7a4_33 : decode cJ6_bitCount_0f7a4 33 = .ok (.istore_n 0, 1) := by decide +kernel
theorem dJ6_bitCount_0f7a4_34 : decode cJ6_bitCount_0f7a4 34 = .ok (.iload_n 0, 1) := by decide +kernel
theorem dJ6_bitCount_0f7a4_35 : decode cJ6_bitCount_0f7a4 35 = .ok (.iload_n 0, 1) := by decide +kernel
theorem dJ6_bitCount_0f7a4_36 : decode cJ6_bitCount_0f7a4 36 = .ok (.bipush 8, 2) := by decide +kernel
theorem dJ6_bitCount_0f7a4_38 : decode cJ6_bitCount_0f7a4 38 = .ok (.iushr, 1) := by decide +kernel
theorem dJ6_bitCount_0f7a4_39 : decode cJ6_bitCount_0f7a4 39 = .ok (.iadd, 1) := by decide +kernel
theorem dJ6_bitCount_0f7a4_40 : decode cJ6_bitCount_0f7a4 40 = .ok (.istore_n 0, 1) := by decide +kernel
theorem dJ6_bitCount_0f7a4_41 : decode cJ6_bitCount_0f7a4 41 = .ok (.iload_n 0, 1) := by decide +kernel
theorem dJ6_bitCount_0f7a4_42 : decode cJ6_bitCount_0f7a4 42 = .ok (.iload_n 0, 1) := by decide +kernel
theorem dJ6_bitCount_0f7a4_43 : decode cJ6_bitCount_0f7a4 43 = .ok (.bipush 16, 2) := by decide +kernel
theorem dJ6_bitCount_0f7a4_45 : decode cJ6_bitCount_0f7a4 45 = .ok (.iushr, 1) := by decide +kernel
theorem dJ6_bitCount_0f7a4_46 : decode cJ6_bitCount_0f7a4 46 = .ok (.iadd, 1) := by decide +kernel
theorem dJ6_bitCount_0f7a4_47 : decode cJ6_bitCount_0f7a4 47 = .ok (.istore_n 0, 1) := by decide +kernel
theorem dJ6_bitCount_0f7a4_48 : decode cJ6_bitCount_0f7a4 48 = .ok (.iload_n 0, 1) := by decide +kernel
theorem dJ6_bitCount_0f7a4_49 : decode cJ6_bitCount_0f7a4 49 = .ok (.bipush 63, 2) := by decide +kernel
theorem dJ6_bitCount_0f7a4_51 : decode cJ6_bitCount_0f7a4 51 = .ok (.iand, 1) := by decide +kernel
theorem dJ6_bitCount_0f7a4_52 : decode cJ6_bitCount_0f7a4 52 = .ok (.ireturn, 1) := by decide +kernel
theorem dJ9_max_7cf53_0 : decode cJ9_max_7cf53 0 = .ok (.iload_n 0, 1) := by decide +kernel
theorem dJ9_max_7cf53_1 : decode cJ9_max_7cf53 1 = .ok (.iload_n 1, 1) := by decide +kernel
theorem dJ9_max_7cf53_2 : decode cJ9_max_7cf53 2 = .ok (.if_icmp .lt 7, 3) := by decide +kernel
theorem dJ9_max_7cf53_5 : decode cJ9_max_7cf53 5 = .ok (.iload_n 0, 1) := by decide +kernel
theorem dJ9_max_7cf53_6 : decode cJ9_max_7cf53 6 = .ok (.goto 4, 3) := by decide +kernel
theorem dJ9_max_7cf53_9 : decode cJ9_max_7cf53 9 = .ok (.iload_n 1, 1) := by decide +kernel
theorem dJ9_max_7cf53_10 : decode cJ9_max_7cf53 10 = .ok (.ireturn, 1) := by decide +kernel
theorem dJ7_fill_53178_0 : decode cJ7_fill_53178 0 = .ok (.iconst 0, 1) := by decide +kernel
theorem dJ7_fill_53178_1 : decode cJ7_fill_53178 1 = .ok (.istore_n 2, 1) := by decide +kernel
theorem dJ7_fill_53178_2 : decode cJ7_fill_53178 2 = .ok (.aload_n 0, 1) := by decide +kernel
theorem dJ7_fill_53178_3 : decode cJ7_fill_53178 3 = .ok (.arraylength, 1) := by decide +kernel
theorem dJ7_fill_53178_4 : decode cJ7_fill_53178 4 = .ok (.istore_n 3, 1) := by decide +kernel
theorem dJ7_fill_53178_5 : decode cJ7_fill_53178 5 = .ok (.iload_n 2, 1) := by decide +kernel
theorem dJ7_fill_53178_6 : decode cJ7_fill_53178 6 = .ok (.iload_n 3, 1) := by decide +kernel
theorem dJ7_fill_53178_7 : decode cJ7_fill_53178 7 = .ok (.if_icmp .ge 13, 3) := by decide +kernel
theorem dJ7_fill_53178_10 : decode cJ7_fill_53178 10 = .ok (.aload_n 0, 1) := by decide +kernel
theorem dJ7_fill_53178_11 : decode cJ7_fill_53178 11 = .ok (.iload_n 2, 1) := by decide +kernel
theorem dJ7_fill_53178_12 : decode cJ7_fill_53178 12 = .ok (.iload_n 1, 1) := by decide +kernel
theorem dJ7_fill_53178_13 : decode cJ7_fill_53178 13 = .ok (.iastore, 1) := by decide +kernel
theorem dJ7_fill_53178_14 : decode cJ7_fill_53178 14 = .ok (.iinc 2 1, 3) := by decide +kernel
theorem dJ7_fill_53178_17 : decode cJ7_fill_53178 17 = .ok (.goto (-12), 3) := by decide +kernel
theorem dJ7_fill_53178_20 : decode cJ7_fill_53178 20 = .ok (.return_, 1) := by decide +kernel
end
section
theorem dX9_init_0 : decode cX9_init 0 = .ok (.aload_n 0, 1) := by decide +kernel
theorem dX9_init_1 : decode cX9_init 1 = .ok (.invokespecial 1, 3) := by decide +kernel
theorem dX9_init_4 : decode cX9_init 4 = .ok (.aload_n 0, 1) := by decide +kernel
theorem dX9_init_5 : decode cX9_init 5 = .ok (.iconst 4, 1) := by decide +kernel
theorem dX9_init_6 : decode cX9_init 6 = .ok (.newarray .int, 2) := by decide +kernel
theorem dX9_init_8 : decode cX9_init 8 = .ok (.putfield 7, 3) := by decide +kernel
theorem dX9_init_11 : decode cX9_init 11 = .ok (.aload_n 0, 1) := by decide +kernel
theorem dX9_init_12 : decode cX9_init 12 = .ok (.bipush 24, 2) := by decide +kernel
theorem dX9_init_14 : decode cX9_init 14 = .ok (.newarray .int, 2) := by decide +kernel
theorem dX9_init_16 : decode cX9_init 16 = .ok (.putfield 13, 3) := by decide +kernel
theorem dX9_init_19 : decode cX9_init 19 = .ok (.aload_n 0, 1) := by decide +kernel
theorem dX9_init_20 : decode cX9_init 20 = .ok (.iconst 4, 1) := by decide +kernel
theorem dX9_init_21 : decode cX9_init 21 = .ok (.newarray .int, 2) := by decide +kernel
theorem dX9_init_23 : decode cX9_init 23 = .ok (.putfield 16, 3) := by decide +kernel
theorem dX9_init_26 : decode cX9_init 26 = .ok (.aload_n 0, 1) := by decide +kernel
theorem dX9_init_27 : decode cX9_init 27 = .ok (.bipush 24, 2) := by decide +kernel
theorem dX9_init_29 : decode cX9_init 29 = .ok (.newarray .int, 2) := by decide +kernel
theorem dX9_init_31 : decode cX9_init 31 = .ok (.putfield 19, 3) := by decide +kernel
theorem dX9_init_34 : decode cX9_init 34 = .ok (.aload_n 0, 1) := by decide +kernel
theorem dX9_init_35 : decode cX9_init 35 = .ok (.bipush 6, 2) := by decide +kernel
theorem dX9_init_37 : decode cX9_init 37 = .ok (.newarray .int, 2) := by decide +kernel
theorem dX9_init_39 : decode cX9_init 39 = .ok (.putfield 22, 3) := by decide +kernel
theorem dX9_init_42 : decode cX9_init 42 = .ok (.aload_n 0, 1) := by decide +kernel
theorem dX9_init_43 : decode cX9_init 43 = .ok (.bipush 8, 2) := by decide +kernel
theorem dX9_init_45 : decode cX9_init 45 = .ok (.newarray .int, 2) := by decide +kernel
theorem dX9_init_47 : decode cX9_init 47 = .ok (.putfield 25, 3) := by decide +kernel
theorem dX9_init_50 : decode cX9_init 50 = .ok (.aload_n 0, 1) := by decide +kernel
theorem dX9_init_51 : decode cX9_init 51 = .ok (.bipush 8, 2) := by decide +kernel
theorem dX9_init_53 : decode cX9_init 53 = .ok (.newarray .int, 2) := by decide +kernel
theorem dX9_init_55 : decode cX9_init 55 = .ok (.putfield 28, 3) := by decide +kernel
theorem dX9_init_58 : decode cX9_init 58 = .ok (.aload_n 0, 1) := by decide +kernel
theorem dX9_init_59 : decode cX9_init 59 = .ok (.bipush 8, 2) := by decide +kernel
theorem dX9_init_61 : decode cX9_init 61 = .ok (.newarray .int, 2) := by decide +kernel
theorem dX9_init_63 : decode cX9_init 63 = .ok (.putfield 31, 3) := by decide +kernel
theorem dX9_init_66 : decode cX9_init 66 = .ok (.aload_n 0, 1) := by decide +kernel
theorem dX9_init_67 : decode cX9_init 67 = .ok (.bipush 8, 2) := by decide +kernel
theorem dX9_init_69 : decode cX9_init 69 = .ok (.newarray .int, 2) := by decide +kernel
theorem dX9_init_71 : decode cX9_init 71 = .ok (.putfield 34, 3) := by decide +kernel
theorem dX9_init_74 : decode cX9_init 74 = .ok (.aload_n 0, 1) := by decide +kernel
theorem dX9_init_75 : decode cX9_init 75 = .ok (.bipush 8, 2) := by decide +kernel
theorem dX9_init_77 : decode cX9_init 77 = .ok (.newarray .int, 2) := by decide +kernel
theorem dX9_init_79 : decode cX9_init 79 = .ok (.putfield 37, 3) := by decide +kernel
theorem dX9_init_82 : decode cX9_init 82 = .ok (.aload_n 0, 1) := by decide +kernel
theorem dX9_init_83 : decode cX9_init 83 = .ok (.bipush 8, 2) := by decide +kernel
theorem dX9_init_85 : decode cX9_init 85 = .ok (.newarray .int, 2) := by decide +kernel
theorem dX9_init_87 : decode cX9_init 87 = .ok (.putfield 40, 3) := by decide +kernel
theorem dX9_init_90 : decode cX9_init 90 = .ok (.aload_n 0, 1) := by decide +kernel
theorem dX9_init_91 : decode cX9_init 91 = .ok (.bipush 8, 2) := by decide +kernel
theorem dX9_init_93 : decode cX9_init 93 = .ok (.newarray .int, 2) := by decide +kernel
theorem dX9_init_95 : decode cX9_init 95 = .ok (.putfield 43, 3) := by decide +kernel
theorem dX9_init_98 : decode cX9_init 98 = .ok (.aload_n 0, 1) := by decide +kernel
theorem dX9_init_99 : decode cX9_init 99 = .ok (.bipush 8, 2) := by decide +kernel
theorem dX9_init_101 : decode cX9_init 101 = .ok (.newarray .int, 2) := by decide +kernel
theorem dX9_init_103 : decode cX9_init 103 = .ok (.putfield 46, 3) := by decide +kernel
theorem dX9_init_106 : decode cX9_init 106 = .ok (.aload_n 0, 1) := by decide +kernel
theorem dX9_init_107 : decode cX9_init 107 = .ok (.bipush 8, 2) := by decide +kernel
theorem dX9_init_109 : decode cX9_init 109 = .ok (.newarray .int, 2) := by decide +kernel
theorem dX9_init_111 : decode cX9_init 111 = .ok (.putfield 49, 3) := by decide +kernel
theorem dX9_init_114 : decode cX9_init 114 = .ok (.aload_n 0, 1) := by decide +kernel
theorem dX9_init_115 : decode cX9_init 115 = .ok (.bipush 8, 2) := by decide +kernel
theorem dX9_init_117 : decode cX9_init 117 = .ok (.newarray .int, 2) := by decide +kernel
theorem dX9_init_119 : decode cX9_init 119 = .ok (.putfield 52, 3) := by decide +kernel
theorem dX9_init_122 : decode cX9_init 122 = .ok (.aload_n 0, 1) := by decide +kernel
theorem dX9_init_123 : decode cX9_init 123 = .ok (.bipush 8, 2) := by decide +kernel
theorem dX9_init_125 : decode cX9_init 125 = .ok (.newarray .int, 2) := by decide +kernel
theorem dX9_init_127 : decode cX9_init 127 = .ok (.putfield 55, 3) := by decide +kernel
theorem dX9_init_130 : decode cX9_init 130 = .ok (.aload_n 0, 1) := by decide +kernel
theorem dX9_init_131 : decode cX9_init 131 = .ok (.iconst 4, 1) := by decide +kernel
theorem dX9_init_132 : decode cX9_init 132 = .ok (.newarray .int, 2) := by decide +kernel
theorem dX9_init_134 : decode cX9_init 134 = .ok (.putfield 58, 3) := by decide +kernel
theorem dX9_init_137 : decode cX9_init 137 = .ok (.aload_n 0, 1) := by decide +kernel
theorem dX9_init_138 : decode cX9_init 138 = .ok (.iconst 4, 1) := by decide +kernel
theorem dX9_init_139 : decode cX9_init 139 = .ok (.newarray .int, 2) := by decide +kernel
theorem dX9_init_141 : decode cX9_init 141 = .ok (.putfield 61, 3) := by decide +kernel
theorem dX9_init_144 : decode cX9_init 144 = .ok (.aload_n 0, 1) := by decide +kernel
theorem dX9_init_145 : decode cX9_init 145 = .ok (.sipush 240, 3) := by decide +kernel
theorem dX9_init_148 : decode cX9_init 148 = .ok (.newarray .int, 2) := by decide +kernel
theorem dX9_init_150 : decode cX9_init 150 = .ok (.putfield 64, 3) := by decide +kernel
theorem dX9_init_153 : decode cX9_init 153 = .ok (.aload_n 0, 1) := by decide +kernel
theorem dX9_init_154 : decode cX9_init 154 = .ok (.bipush 60, 2) := by decide +kernel
theorem dX9_init_156 : decode cX9_init 156 = .ok (.newarray .int, 2) := by decide +kernel
theorem dX9_init_158 : decode cX9_init 158 = .ok (.putfield 67, 3) := by decide +kernel
theorem dX9_init_161 : decode cX9_init 161 = .ok (.iconst 0, 1) := by decide +kernel
theorem dX9_init_162 : decode cX9_init 162 = .ok (.istore_n 1, 1) := by decide +kernel
theorem dX9_init_163 : decode cX9_init 163 = .ok (.iload_n 1, 1) := by decide +kernel
theorem dX9_init_164 : decode cX9_init 164 = .ok (.iconst 4, 1) := by decide +kernel
theorem dX9_init_165 : decode cX9_init 165 = .ok (.if_icmp .ge 16, 3) := by decide +kernel
theorem dX9_init_168 : decode cX9_init 168 = .ok (.aload_n 0, 1) := by decide +kernel
theorem dX9_init_169 : decode cX9_init 169 = .ok (.getfield 58, 3) := by decide +kernel
theorem dX9_init_172 : decode cX9_init 172 = .ok (.iload_n 1, 1) := by decide +kernel
theorem dX9_init_173 : decode cX9_init 173 = .ok (.iconst (-1), 1) := by decide +kernel
theorem dX9_init_174 : decode cX9_init 174 = .ok (.iastore, 1) := by decide +kernel
theorem dX9_init_175 : decode cX9_init 175 = .ok (.iinc 1 1, 3) := by decide +kernel
theorem dX9_init_178 : decode cX9_init 178 = .ok (.goto (-15), 3) := by decide +kernel
theorem dX9_init_181 : decode cX9_init 181 = .ok (.return_, 1) := by decide +kernel
theorem dX9_in_0 : decode cX9_in 0 = .ok (.lload_n 0, 1) := by decide +kernel
theorem dX9_in_1 : decode cX9_in 1 = .ok (.lload_n 2, 1) := by decide +kernel
theorem dX9_in_2 : decode cX9_in 2 = .ok (.lcmp, 1) := by decide +kernel
theorem dX9_in_3 : decode cX9_in 3 = .ok (.ifCond .lt 14, 3) := by decide +kernel
theorem dX9_in_6 : decode cX9_in 6 = .ok (.lload_n 0, 1) := by decide +kernel
theorem dX9_in_7 : decode cX9_in 7 = .ok (.lload 4, 2) := by decide +kernel
theorem dX9_in_9 : decode cX9_in 9 = .ok (.lcmp, 1) := by decide +kernel
theorem dX9_in_10 : decode cX9_in 10 = .ok (.ifCond .gt 7, 3) := by decide +kernel
theorem dX9_in_13 : decode cX9_in 13 = .ok (.iconst 1, 1) := by decide +kernel
theorem dX9_in_14 : decode cX9_in 14 = .ok (.goto 4, 3) := by decide +kernel
theorem dX9_in_17 : decode cX9_in 17 = .ok (.iconst 0, 1) := by decide +kernel
theorem dX9_in_18 : decode cX9_in 18 = .ok (.ireturn, 1) := by decide +kernel
theorem dX9_lost_0 : decode cX9_lost 0 = .ok (.ldc2_w 70, 3) := by decide +kernel
theorem dX9_lost_3 : decode cX9_lost 3 = .ok (.lreturn, 1) := by decide +kernel
theorem dX9_bits_0 : decode cX9_bits 0 = .ok (.iconst 0, 1) := by decide +kernel
theorem dX9_bits_1 : decode cX9_bits 1 = .ok (.istore_n 1, 1) := by decide +kernel
theorem dX9_bits_2 : decode cX9_bits 2 = .ok (.iload_n 0, 1) := by decide +kernel
theorem dX9_bits_3 : decode cX9_bits 3 = .ok (.istore_n 2, 1) := by decide +kernel
theorem dX9_bits_4 : decode cX9_bits 4 = .ok (.iload_n 2, 1) := by decide +kernel
theorem dX9_bits_5 : decode cX9_bits 5 = .ok (.ifCond .le 16, 3) := by decide +kernel
theorem dX9_bits_8 : decode cX9_bits 8 = .ok (.iload_n 1, 1) := by decide +kernel
theorem dX9_bits_9 : decode cX9_bits 9 = .ok (.iload_n 2, 1) := by decide +kernel
theorem dX9_bits_10 : decode cX9_bits 10 = .ok (.iconst 1, 1) := by decide +kernel
theorem dX9_bits_11 : decode cX9_bits 11 = .ok (.iand, 1) := by decide +kernel
theorem dX9_bits_12 : decode cX9_bits 12 = .ok (.iadd, 1) := by decide +kernel
theorem dX9_bits_13 : decode cX9_bits 13 = .ok (.istore_n 1, 1) := by decide +kernel
theorem dX9_bits_14 : decode cX9_bits 14 = .ok (.iload_n 2, 1) := by decide +kernel
theorem dX9_bits_15 : decode cX9_bits 15 = .ok (.iconst 1, 1) := by decide +kernel
theorem dX9_bits_16 : decode cX9_bits 16 = .ok (.ishr, 1) := by decide +kernel
theorem dX9_bits_17 : decode cX9_bits 17 = .ok (.istore_n 2, 1) := by decide +kernel
theorem dX9_bits_18 : decode cX9_bits 18 = .ok (.goto (-14), 3) := by decide +kernel
theorem dX9_bits_21 : decode cX9_bits 21 = .ok (.iload_n 1, 1) := by decide +kernel
theorem dX9_bits_22 : decode cX9_bits 22 = .ok (.ireturn, 1) := by decide +kernel
theorem dX9_share_0 : decode cX9_share 0 = .ok (.lload_n 0, 1) := by decide +kernel
theorem dX9_share_1 : decode cX9_share 1 = .ok (.lstore 5, 2) := by decide +kernel
theorem dX9_share_3 : decode cX9_share 3 = .ok (.lload_n 2, 1) := by decide +kernel
theorem dX9_share_4 : decode cX9_share 4 = .ok (.lstore 7, 2) := by decide +kernel
theorem dX9_share_6 : decode cX9_share 6 = .ok (.lload 7, 2) := by decide +kernel
theorem dX9_share_8 : decode cX9_share 8 = .ok (.lconst 0, 1) := by decide +kernel
theorem dX9_share_9 : decode cX9_share 9 = .ok (.lcmp, 1) := by decide +kernel
theorem dX9_share_10 : decode cX9_share 10 = .ok (.ifCond .eq 21, 3) := by decide +kernel
theorem dX9_share_13 : decode cX9_share 13 = .ok (.lload 5, 2) := by decide +kernel
theorem dX9_share_15 : decode cX9_share 15 = .ok (.lload 7, 2) := by decide +kernel
theorem dX9_share_17 : decode cX9_share 17 = .ok (.lrem, 1) := by decide +kernel
theorem dX9_share_18 : decode cX9_share 18 = .ok (.lstore 9, 2) := by decide +kernel
theorem dX9_share_20 : decode cX9_share 20 = .ok (.lload 7, 2) := by decide +kernel
theorem dX9_share_22 : decode cX9_share 22 = .ok (.lstore 5, 2) := by decide +kernel
theorem dX9_share_24 : decode cX9_share 24 = .ok (.lload 9, 2) := by decide +kernel
theorem dX9_share_26 : decode cX9_share 26 = .ok (.lstore 7, 2) := by decide +kernel
theorem dX9_share_28 : decode cX9_share 28 = .ok (.goto (-22), 3) := by decide +kernel
theorem dX9_share_31 : decode cX9_share 31 = .ok (.iload 4, 2) := by decide +kernel
theorem dX9_share_33 : decode cX9_share 33 = .ok (.ifCond .ne 7, 3) := by decide +kernel
theorem dX9_share_36 : decode cX9_share 36 = .ok (.lload_n 0, 1) := by decide +kernel
theorem dX9_share_37 : decode cX9_share 37 = .ok (.goto 4, 3) := by decide +kernel
theorem dX9_share_40 : decode cX9_share 40 = .ok (.lload_n 2, 1) := by decide +kernel
theorem dX9_share_41 : decode cX9_share 41 = .ok (.lload 5, 2) := by decide +kernel
theorem dX9_share_43 : decode cX9_share 43 = .ok (.ldiv, 1) := by decide +kernel
theorem dX9_share_44 : decode cX9_share 44 = .ok (.lreturn, 1) := by decide +kernel
theorem dX9_refused_0 : decode cX9_refused 0 = .ok (.aload_n 0, 1) := by decide +kernel
theorem dX9_refused_1 : decode cX9_refused 1 = .ok (.iconst 0, 1) := by decide +kernel
theorem dX9_refused_2 : decode cX9_refused 2 = .ok (.putfield 72, 3) := by decide +kernel
theorem dX9_refused_5 : decode cX9_refused 5 = .ok (.iload_n 1, 1) := by decide +kernel
theorem dX9_refused_6 : decode cX9_refused 6 = .ok (.ireturn, 1) := by decide +kernel
theorem dX9_failed_0 : decode cX9_failed 0 = .ok (.aload_n 0, 1) := by decide +kernel
theorem dX9_failed_1 : decode cX9_failed 1 = .ok (.iload_n 1, 1) := by decide +kernel
theorem dX9_failed_2 : decode cX9_failed 2 = .ok (.putfield 72, 3) := by decide +kernel
theorem dX9_failed_5 : decode cX9_failed 5 = .ok (.bipush (-10), 2) := by decide +kernel
theorem dX9_failed_7 : decode cX9_failed 7 = .ok (.iload_n 1, 1) := by decide +kernel
theorem dX9_failed_8 : decode cX9_failed 8 = .ok (.isub, 1) := by decide +kernel
theorem dX9_failed_9 : decode cX9_failed 9 = .ok (.ireturn, 1) := by decide +kernel
theorem dX9_failedLong_0 : decode cX9_failedLong 0 = .ok (.aload_n 0, 1) := by decide +kernel
theorem dX9_failedLong_1 : decode cX9_failedLong 1 = .ok (.iload_n 1, 1) := by decide +kernel
theorem dX9_failedLong_2 : decode cX9_failedLong 2 = .ok (.putfield 72, 3) := by decide +kernel
theorem dX9_failedLong_5 : decode cX9_failedLong 5 = .ok (.invokestatic 76, 3) := by decide +kernel
theorem dX9_failedLong_8 : decode cX9_failedLong 8 = .ok (.lreturn, 1) := by decide +kernel
theorem dX9_noCaller_0 : decode cX9_noCaller 0 = .ok (.iload_n 1, 1) := by decide +kernel
theorem dX9_noCaller_1 : decode cX9_noCaller 1 = .ok (.i2l, 1) := by decide +kernel
theorem dX9_noCaller_2 : decode cX9_noCaller 2 = .ok (.lconst 0, 1) := by decide +kernel
theorem dX9_noCaller_3 : decode cX9_noCaller 3 = .ok (.aload_n 0, 1) := by decide +kernel
theorem dX9_noCaller_4 : decode cX9_noCaller 4 = .ok (.getfield 80, 3) := by decide +kernel
theorem dX9_noCaller_7 : decode cX9_noCaller 7 = .ok (.i2l, 1) := by decide +kernel
theorem dX9_noCaller_8 : decode cX9_noCaller 8 = .ok (.lconst 1, 1) := by decide +kernel
theorem dX9_noCaller_9 : decode cX9_noCaller 9 = .ok (.lsub, 1) := by decide +kernel
theorem dX9_noCaller_10 : decode cX9_noCaller 10 = .ok (.invokestatic 83, 3) := by decide +kernel
theorem dX9_noCaller_13 : decode cX9_noCaller 13 = .ok (.ifCond .ne 7, 3) := by decide +kernel
theorem dX9_noCaller_16 : decode cX9_noCaller 16 = .ok (.iconst 1, 1) := by decide +kernel
theorem dX9_noCaller_17 : decode cX9_noCaller 17 = .ok (.goto 4, 3) := by decide +kernel
theorem dX9_noCaller_20 : decode cX9_noCaller 20 = .ok (.iconst 0, 1) := by decide +kernel
theorem dX9_noCaller_21 : decode cX9_noCaller 21 = .ok (.ireturn, 1) := by decide +kernel
theorem dX9_noBeat_0 : decode cX9_noBeat 0 = .ok (.iload_n 1, 1) := by decide +kernel
theorem dX9_noBeat_1 : decode cX9_noBeat 1 = .ok (.i2l, 1) := by decide +kernel
theorem dX9_noBeat_2 : decode cX9_noBeat 2 = .ok (.lconst 0, 1) := by decide +kernel
theorem dX9_noBeat_3 : decode cX9_noBeat 3 = .ok (.aload_n 0, 1) := by decide +kernel
theorem dX9_noBeat_4 : decode cX9_noBeat 4 = .ok (.getfield 87, 3) := by decide +kernel
theorem dX9_noBeat_7 : decode cX9_noBeat 7 = .ok (.i2l, 1) := by decide +kernel
theorem dX9_noBeat_8 : decode cX9_noBeat 8 = .ok (.lconst 1, 1) := by decide +kernel
theorem dX9_noBeat_9 : decode cX9_noBeat 9 = .ok (.lsub, 1) := by decide +kernel
theorem dX9_noBeat_10 : decode cX9_noBeat 10 = .ok (.invokestatic 83, 3) := by decide +kernel
theorem dX9_noBeat_13 : decode cX9_noBeat 13 = .ok (.ifCond .ne 7, 3) := by decide +kernel
theorem dX9_noBeat_16 : decode cX9_noBeat 16 = .ok (.iconst 1, 1) := by decide +kernel
theorem dX9_noBeat_17 : decode cX9_noBeat 17 = .ok (.goto 4, 3) := by decide +kernel
theorem dX9_noBeat_20 : decode cX9_noBeat 20 = .ok (.iconst 0, 1) := by decide +kernel
theorem dX9_noBeat_21 : decode cX9_noBeat 21 = .ok (.ireturn, 1) := by decide +kernel
theorem dX9_codeAt_0 : decode cX9_codeAt 0 = .ok (.aload_n 0, 1) := by decide +kernel
theorem dX9_codeAt_1 : decode cX9_codeAt 1 = .ok (.getfield 90, 3) := by decide +kernel
theorem dX9_codeAt_4 : decode cX9_codeAt 4 = .ok (.iload_n 2, 1) := by decide +kernel
theorem dX9_codeAt_5 : decode cX9_codeAt 5 = .ok (.if_icmp .ge 17, 3) := by decide +kernel
theorem dX9_codeAt_8 : decode cX9_codeAt 8 = .ok (.aload_n 0, 1) := by decide +kernel
theorem dX9_codeAt_9 : decode cX9_codeAt 9 = .ok (.getfield 64, 3) := by decide +kernel
theorem dX9_codeAt_12 : decode cX9_codeAt 12 = .ok (.iload_n 1, 1) := by decide +kernel
theorem dX9_codeAt_13 : decode cX9_codeAt 13 = .ok (.aload_n 0, 1) := by decide +kernel
theorem dX9_codeAt_14 : decode cX9_codeAt 14 = .ok (.getfield 90, 3) := by decide +kernel
theorem dX9_codeAt_17 : decode cX9_codeAt 17 = .ok (.iadd, 1) := by decide +kernel
theorem dX9_codeAt_18 : decode cX9_codeAt 18 = .ok (.iaload, 1) := by decide +kernel
theorem dX9_codeAt_19 : decode cX9_codeAt 19 = .ok (.goto 5, 3) := by decide +kernel
theorem dX9_codeAt_22 : decode cX9_codeAt 22 = .ok (.bipush (-9), 2) := by decide +kernel
theorem dX9_codeAt_24 : decode cX9_codeAt 24 = .ok (.ireturn, 1) := by decide +kernel
theorem dX9_readsSign_0 : decode cX9_readsSign 0 = .ok (.aload_n 0, 1) := by decide +kernel
theorem dX9_readsSign_1 : decode cX9_readsSign 1 = .ok (.iload_n 1, 1) := by decide +kernel
theorem dX9_readsSign_2 : decode cX9_readsSign 2 = .ok (.iload_n 2, 1) := by decide +kernel
theorem dX9_readsSign_3 : decode cX9_readsSign 3 = .ok (.invokevirtual 93, 3) := by decide +kernel
theorem dX9_readsSign_6 : decode cX9_readsSign 6 = .ok (.istore 4, 2) := by decide +kernel
theorem dX9_readsSign_8 : decode cX9_readsSign 8 = .ok (.iload 4, 2) := by decide +kernel
theorem dX9_readsSign_10 : decode cX9_readsSign 10 = .ok (.bipush 45, 2) := by decide +kernel
theorem dX9_readsSign_12 : decode cX9_readsSign 12 = .ok (.if_icmp .eq 26, 3) := by decide +kernel
theorem dX9_readsSign_15 : decode cX9_readsSign 15 = .ok (.iload 4, 2) := by decide +kernel
theorem dX9_readsSign_17 : decode cX9_readsSign 17 = .ok (.i2l, 1) := by decide +kernel
theorem dX9_readsSign_18 : decode cX9_readsSign 18 = .ok (.ldc2_w 97, 3) := by decide +kernel
theorem dX9_readsSign_21 : decode cX9_readsSign 21 = .ok (.lsub, 1) := by decide +kernel
theorem dX9_readsSign_22 : decode cX9_readsSign 22 = .ok (.lconst 0, 1) := by decide +kernel
theorem dX9_readsSign_23 : decode cX9_readsSign 23 = .ok (.aload_n 0, 1) := by decide +kernel
theorem dX9_readsSign_24 : decode cX9_readsSign 24 = .ok (.getfield 99, 3) := by decide +kernel
theorem dX9_readsSign_27 : decode cX9_readsSign 27 = .ok (.i2l, 1) := by decide +kernel
theorem dX9_readsSign_28 : decode cX9_readsSign 28 = .ok (.lconst 1, 1) := by decide +kernel
theorem dX9_readsSign_29 : decode cX9_readsSign 29 = .ok (.lsub, 1) := by decide +kernel
theorem dX9_readsSign_30 : decode cX9_readsSign 30 = .ok (.invokestatic 83, 3) := by decide +kernel
theorem dX9_readsSign_33 : decode cX9_readsSign 33 = .ok (.ifCond .ne 5, 3) := by decide +kernel
theorem dX9_readsSign_36 : decode cX9_readsSign 36 = .ok (.iconst 0, 1) := by decide +kernel
theorem dX9_readsSign_37 : decode cX9_readsSign 37 = .ok (.ireturn, 1) := by decide +kernel
theorem dX9_readsSign_38 : decode cX9_readsSign 38 = .ok (.aload_n 0, 1) := by decide +kernel
theorem dX9_readsSign_39 : decode cX9_readsSign 39 = .ok (.getfield 19, 3) := by decide +kernel
theorem dX9_readsSign_42 : decode cX9_readsSign 42 = .ok (.bipush 6, 2) := by decide +kernel
theorem dX9_readsSign_44 : decode cX9_readsSign 44 = .ok (.aload_n 0, 1) := by decide +kernel
theorem dX9_readsSign_45 : decode cX9_readsSign 45 = .ok (.getfield 102, 3) := by decide +kernel
theorem dX9_readsSign_48 : decode cX9_readsSign 48 = .ok (.imul, 1) := by decide +kernel
theorem dX9_readsSign_49 : decode cX9_readsSign 49 = .ok (.iload_n 3, 1) := by decide +kernel
theorem dX9_readsSign_50 : decode cX9_readsSign 50 = .ok (.iadd, 1) := by decide +kernel
theorem dX9_readsSign_51 : decode cX9_readsSign 51 = .ok (.iload 4, 2) := by decide +kernel
theorem dX9_readsSign_53 : decode cX9_readsSign 53 = .ok (.bipush 45, 2) := by decide +kernel
theorem dX9_readsSign_55 : decode cX9_readsSign 55 = .ok (.if_icmp .ne 8, 3) := by decide +kernel
theorem dX9_readsSign_58 : decode cX9_readsSign 58 = .ok (.bipush (-9), 2) := by decide +kernel
theorem dX9_readsSign_60 : decode cX9_readsSign 60 = .ok (.goto 8, 3) := by decide +kernel
theorem dX9_readsSign_63 : decode cX9_readsSign 63 = .ok (.iload 4, 2) := by decide +kernel
theorem dX9_readsSign_65 : decode cX9_readsSign 65 = .ok (.bipush 48, 2) := by decide +kernel
theorem dX9_readsSign_67 : decode cX9_readsSign 67 = .ok (.isub, 1) := by decide +kernel
theorem dX9_readsSign_68 : decode cX9_readsSign 68 = .ok (.iastore, 1) := by decide +kernel
theorem dX9_readsSign_69 : decode cX9_readsSign 69 = .ok (.aload_n 0, 1) := by decide +kernel
theorem dX9_readsSign_70 : decode cX9_readsSign 70 = .ok (.dup, 1) := by decide +kernel
theorem dX9_readsSign_71 : decode cX9_readsSign 71 = .ok (.getfield 90, 3) := by decide +kernel
theorem dX9_readsSign_74 : decode cX9_readsSign 74 = .ok (.iconst 1, 1) := by decide +kernel
theorem dX9_readsSign_75 : decode cX9_readsSign 75 = .ok (.iadd, 1) := by decide +kernel
theorem dX9_readsSign_76 : decode cX9_readsSign 76 = .ok (.putfield 90, 3) := by decide +kernel
theorem dX9_readsSign_79 : decode cX9_readsSign 79 = .ok (.iconst 1, 1) := by decide +kernel
theorem dX9_readsSign_80 : decode cX9_readsSign 80 = .ok (.ireturn, 1) := by decide +kernel
theorem dX9_readsCaller_0 : decode cX9_readsCaller 0 = .ok (.aload_n 0, 1) := by decide +kernel
theorem dX9_readsCaller_1 : decode cX9_readsCaller 1 = .ok (.getfield 102, 3) := by decide +kernel
theorem dX9_readsCaller_4 : decode cX9_readsCaller 4 = .ok (.iconst 4, 1) := by decide +kernel
theorem dX9_readsCaller_5 : decode cX9_readsCaller 5 = .ok (.if_icmp .eq 14, 3) := by decide +kernel
theorem dX9_readsCaller_8 : decode cX9_readsCaller 8 = .ok (.aload_n 0, 1) := by decide +kernel
theorem dX9_readsCaller_9 : decode cX9_readsCaller 9 = .ok (.iload_n 1, 1) := by decide +kernel
theorem dX9_readsCaller_10 : decode cX9_readsCaller 10 = .ok (.iload_n 2, 1) := by decide +kernel
theorem dX9_readsCaller_11 : decode cX9_readsCaller 11 = .ok (.invokevirtual 93, 3) := by decide +kernel
theorem dX9_readsCaller_14 : decode cX9_readsCaller 14 = .ok (.bipush 59, 2) := by decide +kernel
theorem dX9_readsCaller_16 : decode cX9_readsCaller 16 = .ok (.if_icmp .eq 5, 3) := by decide +kernel
theorem dX9_readsCaller_19 : decode cX9_readsCaller 19 = .ok (.iconst 0, 1) := by decide +kernel
theorem dX9_readsCaller_20 : decode cX9_readsCaller 20 = .ok (.ireturn, 1) := by decide +kernel
theorem dX9_readsCaller_21 : decode cX9_readsCaller 21 = .ok (.aload_n 0, 1) := by decide +kernel
theorem dX9_readsCaller_22 : decode cX9_readsCaller 22 = .ok (.dup, 1) := by decide +kernel
theorem dX9_readsCaller_23 : decode cX9_readsCaller 23 = .ok (.getfield 90, 3) := by decide +kernel
theorem dX9_readsCaller_26 : decode cX9_readsCaller 26 = .ok (.iconst 1, 1) := by decide +kernel
theorem dX9_readsCaller_27 : decode cX9_readsCaller 27 = .ok (.iadd, 1) := by decide +kernel
theorem dX9_readsCaller_28 : decode cX9_readsCaller 28 = .ok (.putfield 90, 3) := by decide +kernel
theorem dX9_readsCaller_31 : decode cX9_readsCaller 31 = .ok (.aload_n 0, 1) := by decide +kernel
theorem dX9_readsCaller_32 : decode cX9_readsCaller 32 = .ok (.iload_n 1, 1) := by decide +kernel
theorem dX9_readsCaller_33 : decode cX9_readsCaller 33 = .ok (.iload_n 2, 1) := by decide +kernel
theorem dX9_readsCaller_34 : decode cX9_readsCaller 34 = .ok (.invokevirtual 93, 3) := by decide +kernel
theorem dX9_readsCaller_37 : decode cX9_readsCaller 37 = .ok (.istore_n 3, 1) := by decide +kernel
theorem dX9_readsCaller_38 : decode cX9_readsCaller 38 = .ok (.iload_n 3, 1) := by decide +kernel
theorem dX9_readsCaller_39 : decode cX9_readsCaller 39 = .ok (.bipush 112, 2) := by decide +kernel
theorem dX9_readsCaller_41 : decode cX9_readsCaller 41 = .ok (.if_icmp .eq 17, 3) := by decide +kernel
theorem dX9_readsCaller_44 : decode cX9_readsCaller 44 = .ok (.iload_n 3, 1) := by decide +kernel
theorem dX9_readsCaller_45 : decode cX9_readsCaller 45 = .ok (.bipush 98, 2) := by decide +kernel
theorem dX9_readsCaller_47 : decode cX9_readsCaller 47 = .ok (.if_icmp .eq 11, 3) := by decide +kernel
theorem dX9_readsCaller_50 : decode cX9_readsCaller 50 = .ok (.iload_n 3, 1) := by decide +kernel
theorem dX9_readsCaller_51 : decode cX9_readsCaller 51 = .ok (.bipush 107, 2) := by decide +kernel
theorem dX9_readsCaller_53 : decode cX9_readsCaller 53 = .ok (.if_icmp .eq 5, 3) := by decide +kernel
theorem dX9_readsCaller_56 : decode cX9_readsCaller 56 = .ok (.iconst 0, 1) := by decide +kernel
theorem dX9_readsCaller_57 : decode cX9_readsCaller 57 = .ok (.ireturn, 1) := by decide +kernel
theorem dX9_readsCaller_58 : decode cX9_readsCaller 58 = .ok (.aload_n 0, 1) := by decide +kernel
theorem dX9_readsCaller_59 : decode cX9_readsCaller 59 = .ok (.dup, 1) := by decide +kernel
theorem dX9_readsCaller_60 : decode cX9_readsCaller 60 = .ok (.getfield 90, 3) := by decide +kernel
theorem dX9_readsCaller_63 : decode cX9_readsCaller 63 = .ok (.iconst 1, 1) := by decide +kernel
theorem dX9_readsCaller_64 : decode cX9_readsCaller 64 = .ok (.iadd, 1) := by decide +kernel
theorem dX9_readsCaller_65 : decode cX9_readsCaller 65 = .ok (.putfield 90, 3) := by decide +kernel
theorem dX9_readsCaller_68 : decode cX9_readsCaller 68 = .ok (.iconst 1, 1) := by decide +kernel
theorem dX9_readsCaller_69 : decode cX9_readsCaller 69 = .ok (.istore 4, 2) := by decide +kernel
theorem dX9_readsCaller_71 : decode cX9_readsCaller 71 = .ok (.iconst 0, 1) := by decide +kernel
theorem dX9_readsCaller_72 : decode cX9_readsCaller 72 = .ok (.istore 5, 2) := by decide +kernel
theorem dX9_readsCaller_74 : decode cX9_readsCaller 74 = .ok (.iload 5, 2) := by decide +kernel
theorem dX9_readsCaller_76 : decode cX9_readsCaller 76 = .ok (.aload_n 0, 1) := by decide +kernel
theorem dX9_readsCaller_77 : decode cX9_readsCaller 77 = .ok (.getfield 99, 3) := by decide +kernel
theorem dX9_readsCaller_80 : decode cX9_readsCaller 80 = .ok (.if_icmp .ge 24, 3) := by decide +kernel
theorem dX9_readsCaller_83 : decode cX9_readsCaller 83 = .ok (.iload 4, 2) := by decide +kernel
theorem dX9_readsCaller_85 : decode cX9_readsCaller 85 = .ok (.ifCond .eq 19, 3) := by decide +kernel
theorem dX9_readsCaller_88 : decode cX9_readsCaller 88 = .ok (.aload_n 0, 1) := by decide +kernel
theorem dX9_readsCaller_89 : decode cX9_readsCaller 89 = .ok (.iload_n 1, 1) := by decide +kernel
theorem dX9_readsCaller_90 : decode cX9_readsCaller 90 = .ok (.iload_n 2, 1) := by decide +kernel
theorem dX9_readsCaller_91 : decode cX9_readsCaller 91 = .ok (.iload 5, 2) := by decide +kernel
theorem dX9_readsCaller_93 : decode cX9_readsCaller 93 = .ok (.invokevirtual 105, 3) := by decide +kernel
theorem dX9_readsCaller_96 : decode cX9_readsCaller 96 = .ok (.istore 4, 2) := by decide +kernel
theorem dX9_readsCaller_98 : decode cX9_readsCaller 98 = .ok (.iinc 5 1, 3) := by decide +kernel
theorem dX9_readsCaller_101 : decode cX9_readsCaller 101 = .ok (.goto (-27), 3) := by decide +kernel
theorem dX9_readsCaller_104 : decode cX9_readsCaller 104 = .ok (.aload_n 0, 1) := by decide +kernel
theorem dX9_readsCaller_105 : decode cX9_readsCaller 105 = .ok (.getfield 16, 3) := by decide +kernel
theorem dX9_readsCaller_108 : decode cX9_readsCaller 108 = .ok (.aload_n 0, 1) := by decide +kernel
theorem dX9_readsCaller_109 : decode cX9_readsCaller 109 = .ok (.getfield 102, 3) := by decide +kernel
theorem dX9_readsCaller_112 : decode cX9_readsCaller 112 = .ok (.iload_n 3, 1) := by decide +kernel
theorem dX9_readsCaller_113 : decode cX9_readsCaller 113 = .ok (.bipush 112, 2) := by decide +kernel
theorem dX9_readsCaller_115 : decode cX9_readsCaller 115 = .ok (.if_icmp .ne 7, 3) := by decide +kernel
theorem dX9_readsCaller_118 : decode cX9_readsCaller 118 = .ok (.iconst 0, 1) := by decide +kernel
theorem dX9_readsCaller_119 : decode cX9_readsCaller 119 = .ok (.goto 14, 3) := by decide +kernel
theorem dX9_readsCaller_122 : decode cX9_readsCaller 122 = .ok (.iload_n 3, 1) := by decide +kernel
theorem dX9_readsCaller_123 : decode cX9_readsCaller 123 = .ok (.bipush 98, 2) := by decide +kernel
theorem dX9_readsCaller_125 : decode cX9_readsCaller 125 = .ok (.if_icmp .ne 7, 3) := by decide +kernel
theorem dX9_readsCaller_128 : decode cX9_readsCaller 128 = .ok (.iconst 1, 1) := by decide +kernel
theorem dX9_readsCaller_129 : decode cX9_readsCaller 129 = .ok (.goto 4, 3) := by decide +kernel
theorem dX9_readsCaller_132 : decode cX9_readsCaller 132 = .ok (.iconst 2, 1) := by decide +kernel
theorem dX9_readsCaller_133 : decode cX9_readsCaller 133 = .ok (.iastore, 1) := by decide +kernel
theorem dX9_readsCaller_134 : decode cX9_readsCaller 134 = .ok (.aload_n 0, 1) := by decide +kernel
theorem dX9_readsCaller_135 : decode cX9_readsCaller 135 = .ok (.dup, 1) := by decide +kernel
theorem dX9_readsCaller_136 : decode cX9_readsCaller 136 = .ok (.getfield 102, 3) := by decide +kernel
theorem dX9_readsCaller_139 : decode cX9_readsCaller 139 = .ok (.iload 4, 2) := by decide +kernel
theorem dX9_readsCaller_141 : decode cX9_readsCaller 141 = .ok (.ifCond .eq 7, 3) := by decide +kernel
theorem dX9_readsCaller_144 : decode cX9_readsCaller 144 = .ok (.iconst 1, 1) := by decide +kernel
theorem dX9_readsCaller_145 : decode cX9_readsCaller 145 = .ok (.goto 4, 3) := by decide +kernel
theorem dX9_readsCaller_148 : decode cX9_readsCaller 148 = .ok (.iconst 0, 1) := by decide +kernel
theorem dX9_readsCaller_149 : decode cX9_readsCaller 149 = .ok (.iadd, 1) := by decide +kernel
theorem dX9_readsCaller_150 : decode cX9_readsCaller 150 = .ok (.putfield 102, 3) := by decide +kernel
theorem dX9_readsCaller_153 : decode cX9_readsCaller 153 = .ok (.iload 4, 2) := by decide +kernel
theorem dX9_readsCaller_155 : decode cX9_readsCaller 155 = .ok (.ireturn, 1) := by decide +kernel
theorem dX9_readsCallers_0 : decode cX9_readsCallers 0 = .ok (.aload_n 0, 1) := by decide +kernel
theorem dX9_readsCallers_1 : decode cX9_readsCallers 1 = .ok (.iconst 0, 1) := by decide +kernel
theorem dX9_readsCallers_2 : decode cX9_readsCallers 2 = .ok (.putfield 90, 3) := by decide +kernel
theorem dX9_readsCallers_5 : decode cX9_readsCallers 5 = .ok (.aload_n 0, 1) := by decide +kernel
theorem dX9_readsCallers_6 : decode cX9_readsCallers 6 = .ok (.iconst 0, 1) := by decide +kernel
theorem dX9_readsCallers_7 : decode cX9_readsCallers 7 = .ok (.putfield 102, 3) := by decide +kernel
theorem dX9_readsCallers_10 : decode cX9_readsCallers 10 = .ok (.aload_n 0, 1) := by decide +kernel
theorem dX9_readsCallers_11 : decode cX9_readsCallers 11 = .ok (.iload_n 1, 1) := by decide +kernel
theorem dX9_readsCallers_12 : decode cX9_readsCallers 12 = .ok (.iload_n 2, 1) := by decide +kernel
theorem dX9_readsCallers_13 : decode cX9_readsCallers 13 = .ok (.invokevirtual 93, 3) := by decide +kernel
theorem dX9_readsCallers_16 : decode cX9_readsCallers 16 = .ok (.bipush 99, 2) := by decide +kernel
theorem dX9_readsCallers_18 : decode cX9_readsCallers 18 = .ok (.if_icmp .eq 5, 3) := by decide +kernel
theorem dX9_readsCallers_21 : decode cX9_readsCallers 21 = .ok (.iconst 0, 1) := by decide +kernel
theorem dX9_readsCallers_22 : decode cX9_readsCallers 22 = .ok (.ireturn, 1) := by decide +kernel
theorem dX9_readsCallers_23 : decode cX9_readsCallers 23 = .ok (.aload_n 0, 1) := by decide +kernel
theorem dX9_readsCallers_24 : decode cX9_readsCallers 24 = .ok (.dup, 1) := by decide +kernel
theorem dX9_readsCallers_25 : decode cX9_readsCallers 25 = .ok (.getfield 90, 3) := by decide +kernel
theorem dX9_readsCallers_28 : decode cX9_readsCallers 28 = .ok (.iconst 1, 1) := by decide +kernel
theorem dX9_readsCallers_29 : decode cX9_readsCallers 29 = .ok (.iadd, 1) := by decide +kernel
theorem dX9_readsCallers_30 : decode cX9_readsCallers 30 = .ok (.putfield 90, 3) := by decide +kernel
theorem dX9_readsCallers_33 : decode cX9_readsCallers 33 = .ok (.aload_n 0, 1) := by decide +kernel
theorem dX9_readsCallers_34 : decode cX9_readsCallers 34 = .ok (.aload_n 0, 1) := by decide +kernel
theorem dX9_readsCallers_35 : decode cX9_readsCallers 35 = .ok (.iload_n 1, 1) := by decide +kernel
theorem dX9_readsCallers_36 : decode cX9_readsCallers 36 = .ok (.iload_n 2, 1) := by decide +kernel
theorem dX9_readsCallers_37 : decode cX9_readsCallers 37 = .ok (.invokevirtual 93, 3) := by decide +kernel
theorem dX9_readsCallers_40 : decode cX9_readsCallers 40 = .ok (.bipush 48, 2) := by decide +kernel
theorem dX9_readsCallers_42 : decode cX9_readsCallers 42 = .ok (.isub, 1) := by decide +kernel
theorem dX9_readsCallers_43 : decode cX9_readsCallers 43 = .ok (.putfield 99, 3) := by decide +kernel
theorem dX9_readsCallers_46 : decode cX9_readsCallers 46 = .ok (.aload_n 0, 1) := by decide +kernel
theorem dX9_readsCallers_47 : decode cX9_readsCallers 47 = .ok (.getfield 99, 3) := by decide +kernel
theorem dX9_readsCallers_50 : decode cX9_readsCallers 50 = .ok (.i2l, 1) := by decide +kernel
theorem dX9_readsCallers_51 : decode cX9_readsCallers 51 = .ok (.ldc2_w 109, 3) := by decide +kernel
theorem dX9_readsCallers_54 : decode cX9_readsCallers 54 = .ok (.ldc2_w 111, 3) := by decide +kernel
theorem dX9_readsCallers_57 : decode cX9_readsCallers 57 = .ok (.invokestatic 83, 3) := by decide +kernel
theorem dX9_readsCallers_60 : decode cX9_readsCallers 60 = .ok (.ifCond .ne 5, 3) := by decide +kernel
theorem dX9_readsCallers_63 : decode cX9_readsCallers 63 = .ok (.iconst 0, 1) := by decide +kernel
theorem dX9_readsCallers_64 : decode cX9_readsCallers 64 = .ok (.ireturn, 1) := by decide +kernel
theorem dX9_readsCallers_65 : decode cX9_readsCallers 65 = .ok (.aload_n 0, 1) := by decide +kernel
theorem dX9_readsCallers_66 : decode cX9_readsCallers 66 = .ok (.dup, 1) := by decide +kernel
theorem dX9_readsCallers_67 : decode cX9_readsCallers 67 = .ok (.getfield 90, 3) := by decide +kernel
theorem dX9_readsCallers_70 : decode cX9_readsCallers 70 = .ok (.iconst 1, 1) := by decide +kernel
theorem dX9_readsCallers_71 : decode cX9_readsCallers 71 = .ok (.iadd, 1) := by decide +kernel
theorem dX9_readsCallers_72 : decode cX9_readsCallers 72 = .ok (.putfield 90, 3) := by decide +kernel
theorem dX9_readsCallers_75 : decode cX9_readsCallers 75 = .ok (.iconst 1, 1) := by decide +kernel
theorem dX9_readsCallers_76 : decode cX9_readsCallers 76 = .ok (.istore_n 3, 1) := by decide +kernel
theorem dX9_readsCallers_77 : decode cX9_readsCallers 77 = .ok (.iload_n 3, 1) := by decide +kernel
theorem dX9_readsCallers_78 : decode cX9_readsCallers 78 = .ok (.ifCond .eq 29, 3) := by decide +kernel
theorem dX9_readsCallers_81 : decode cX9_readsCallers 81 = .ok (.aload_n 0, 1) := by decide +kernel
theorem dX9_readsCallers_82 : decode cX9_readsCallers 82 = .ok (.getfield 102, 3) := by decide +kernel
theorem dX9_readsCallers_85 : decode cX9_readsCallers 85 = .ok (.iconst 1, 1) := by decide +kernel
theorem dX9_readsCallers_86 : decode cX9_readsCallers 86 = .ok (.if_icmp .lt 11, 3) := by decide +kernel
theorem dX9_readsCallers_89 : decode cX9_readsCallers 89 = .ok (.aload_n 0, 1) := by decide +kernel
theorem dX9_readsCallers_90 : decode cX9_readsCallers 90 = .ok (.getfield 90, 3) := by decide +kernel
theorem dX9_readsCallers_93 : decode cX9_readsCallers 93 = .ok (.iload_n 2, 1) := by decide +kernel
theorem dX9_readsCallers_94 : decode cX9_readsCallers 94 = .ok (.if_icmp .ge 13, 3) := by decide +kernel
theorem dX9_readsCallers_97 : decode cX9_readsCallers 97 = .ok (.aload_n 0, 1) := by decide +kernel
theorem dX9_readsCallers_98 : decode cX9_readsCallers 98 = .ok (.iload_n 1, 1) := by decide +kernel
theorem dX9_readsCallers_99 : decode cX9_readsCallers 99 = .ok (.iload_n 2, 1) := by decide +kernel
theorem dX9_readsCallers_100 : decode cX9_readsCallers 100 = .ok (.invokevirtual 113, 3) := by decide +kernel
theorem dX9_readsCallers_103 : decode cX9_readsCallers 103 = .ok (.istore_n 3, 1) := by decide +kernel
theorem dX9_readsCallers_104 : decode cX9_readsCallers 104 = .ok (.goto (-27), 3) := by decide +kernel
theorem dX9_readsCallers_107 : decode cX9_readsCallers 107 = .ok (.iload_n 3, 1) := by decide +kernel
theorem dX9_readsCallers_108 : decode cX9_readsCallers 108 = .ok (.ireturn, 1) := by decide +kernel
theorem dX9_cellsBarred_0 : decode cX9_cellsBarred 0 = .ok (.aload_n 0, 1) := by decide +kernel
theorem dX9_cellsBarred_1 : decode cX9_cellsBarred 1 = .ok (.getfield 58, 3) := by decide +kernel
theorem dX9_cellsBarred_4 : decode cX9_cellsBarred 4 = .ok (.iload_n 1, 1) := by decide +kernel
theorem dX9_cellsBarred_5 : decode cX9_cellsBarred 5 = .ok (.iaload, 1) := by decide +kernel
theorem dX9_cellsBarred_6 : decode cX9_cellsBarred 6 = .ok (.ifCond .lt 19, 3) := by decide +kernel
theorem dX9_cellsBarred_9 : decode cX9_cellsBarred 9 = .ok (.aload_n 0, 1) := by decide +kernel
theorem dX9_cellsBarred_10 : decode cX9_cellsBarred 10 = .ok (.getfield 61, 3) := by decide +kernel
theorem dX9_cellsBarred_13 : decode cX9_cellsBarred 13 = .ok (.iload_n 1, 1) := by decide +kernel
theorem dX9_cellsBarred_14 : decode cX9_cellsBarred 14 = .ok (.iaload, 1) := by decide +kernel
theorem dX9_cellsBarred_15 : decode cX9_cellsBarred 15 = .ok (.iload_n 2, 1) := by decide +kernel
theorem dX9_cellsBarred_16 : decode cX9_cellsBarred 16 = .ok (.if_icmp .eq 9, 3) := by decide +kernel
theorem dX9_cellsBarred_19 : decode cX9_cellsBarred 19 = .ok (.aload_n 0, 1) := by decide +kernel
theorem dX9_cellsBarred_20 : decode cX9_cellsBarred 20 = .ok (.iconst 2, 1) := by decide +kernel
theorem dX9_cellsBarred_21 : decode cX9_cellsBarred 21 = .ok (.invokevirtual 117, 3) := by decide +kernel
theorem dX9_cellsBarred_24 : decode cX9_cellsBarred 24 = .ok (.ireturn, 1) := by decide +kernel
theorem dX9_cellsBarred_25 : decode cX9_cellsBarred 25 = .ok (.aload_n 0, 1) := by decide +kernel
theorem dX9_cellsBarred_26 : decode cX9_cellsBarred 26 = .ok (.getfield 58, 3) := by decide +kernel
theorem dX9_cellsBarred_29 : decode cX9_cellsBarred 29 = .ok (.iload_n 1, 1) := by decide +kernel
theorem dX9_cellsBarred_30 : decode cX9_cellsBarred 30 = .ok (.iaload, 1) := by decide +kernel
theorem dX9_cellsBarred_31 : decode cX9_cellsBarred 31 = .ok (.ifCond .ge 9, 3) := by decide +kernel
theorem dX9_cellsBarred_34 : decode cX9_cellsBarred 34 = .ok (.aload_n 0, 1) := by decide +kernel
theorem dX9_cellsBarred_35 : decode cX9_cellsBarred 35 = .ok (.iconst 1, 1) := by decide +kernel
theorem dX9_cellsBarred_36 : decode cX9_cellsBarred 36 = .ok (.invokevirtual 117, 3) := by decide +kernel
theorem dX9_cellsBarred_39 : decode cX9_cellsBarred 39 = .ok (.ireturn, 1) := by decide +kernel
theorem dX9_cellsBarred_40 : decode cX9_cellsBarred 40 = .ok (.lload 4, 2) := by decide +kernel
theorem dX9_cellsBarred_42 : decode cX9_cellsBarred 42 = .ok (.lconst 0, 1) := by decide +kernel
theorem dX9_cellsBarred_43 : decode cX9_cellsBarred 43 = .ok (.lcmp, 1) := by decide +kernel
theorem dX9_cellsBarred_44 : decode cX9_cellsBarred 44 = .ok (.ifCond .ge 9, 3) := by decide +kernel
theorem dX9_cellsBarred_47 : decode cX9_cellsBarred 47 = .ok (.aload_n 0, 1) := by decide +kernel
theorem dX9_cellsBarred_48 : decode cX9_cellsBarred 48 = .ok (.iconst 4, 1) := by decide +kernel
theorem dX9_cellsBarred_49 : decode cX9_cellsBarred 49 = .ok (.invokevirtual 117, 3) := by decide +kernel
theorem dX9_cellsBarred_52 : decode cX9_cellsBarred 52 = .ok (.ireturn, 1) := by decide +kernel
theorem dX9_cellsBarred_53 : decode cX9_cellsBarred 53 = .ok (.iload_n 3, 1) := by decide +kernel
theorem dX9_cellsBarred_54 : decode cX9_cellsBarred 54 = .ok (.lload 4, 2) := by decide +kernel
theorem dX9_cellsBarred_56 : decode cX9_cellsBarred 56 = .ok (.aload_n 0, 1) := by decide +kernel
theorem dX9_cellsBarred_57 : decode cX9_cellsBarred 57 = .ok (.getfield 58, 3) := by decide +kernel
theorem dX9_cellsBarred_60 : decode cX9_cellsBarred 60 = .ok (.iload_n 1, 1) := by decide +kernel
theorem dX9_cellsBarred_61 : decode cX9_cellsBarred 61 = .ok (.iaload, 1) := by decide +kernel
theorem dX9_cellsBarred_62 : decode cX9_cellsBarred 62 = .ok (.invokestatic 121, 3) := by decide +kernel
theorem dX9_cellsBarred_65 : decode cX9_cellsBarred 65 = .ok (.ifCond .eq 11, 3) := by decide +kernel
theorem dX9_cellsBarred_68 : decode cX9_cellsBarred 68 = .ok (.aload_n 0, 1) := by decide +kernel
theorem dX9_cellsBarred_69 : decode cX9_cellsBarred 69 = .ok (.iconst 3, 1) := by decide +kernel
theorem dX9_cellsBarred_70 : decode cX9_cellsBarred 70 = .ok (.invokevirtual 117, 3) := by decide +kernel
theorem dX9_cellsBarred_73 : decode cX9_cellsBarred 73 = .ok (.goto 4, 3) := by decide +kernel
theorem dX9_cellsBarred_76 : decode cX9_cellsBarred 76 = .ok (.iconst 0, 1) := by decide +kernel
theorem dX9_cellsBarred_77 : decode cX9_cellsBarred 77 = .ok (.ireturn, 1) := by decide +kernel
theorem dX9_callers_0 : decode cX9_callers 0 = .ok (.iload_n 1, 1) := by decide +kernel
theorem dX9_callers_1 : decode cX9_callers 1 = .ok (.invokestatic 125, 3) := by decide +kernel
theorem dX9_callers_4 : decode cX9_callers 4 = .ok (.ifCond .eq 9, 3) := by decide +kernel
theorem dX9_callers_7 : decode cX9_callers 7 = .ok (.aload_n 0, 1) := by decide +kernel
theorem dX9_callers_8 : decode cX9_callers 8 = .ok (.iconst (-1), 1) := by decide +kernel
theorem dX9_callers_9 : decode cX9_callers 9 = .ok (.invokevirtual 129, 3) := by decide +kernel
theorem dX9_callers_12 : decode cX9_callers 12 = .ok (.ireturn, 1) := by decide +kernel
theorem dX9_callers_13 : decode cX9_callers 13 = .ok (.iload_n 2, 1) := by decide +kernel
theorem dX9_callers_14 : decode cX9_callers 14 = .ok (.i2l, 1) := by decide +kernel
theorem dX9_callers_15 : decode cX9_callers 15 = .ok (.lconst 0, 1) := by decide +kernel
theorem dX9_callers_16 : decode cX9_callers 16 = .ok (.ldc2_w 109, 3) := by decide +kernel
theorem dX9_callers_19 : decode cX9_callers 19 = .ok (.invokestatic 83, 3) := by decide +kernel
theorem dX9_callers_22 : decode cX9_callers 22 = .ok (.ifCond .ne 10, 3) := by decide +kernel
theorem dX9_callers_25 : decode cX9_callers 25 = .ok (.aload_n 0, 1) := by decide +kernel
theorem dX9_callers_26 : decode cX9_callers 26 = .ok (.bipush (-2), 2) := by decide +kernel
theorem dX9_callers_28 : decode cX9_callers 28 = .ok (.invokevirtual 129, 3) := by decide +kernel
theorem dX9_callers_31 : decode cX9_callers 31 = .ok (.ireturn, 1) := by decide +kernel
theorem dX9_callers_32 : decode cX9_callers 32 = .ok (.aload_n 0, 1) := by decide +kernel
theorem dX9_callers_33 : decode cX9_callers 33 = .ok (.iload_n 1, 1) := by decide +kernel
theorem dX9_callers_34 : decode cX9_callers 34 = .ok (.iload_n 2, 1) := by decide +kernel
theorem dX9_callers_35 : decode cX9_callers 35 = .ok (.iload_n 3, 1) := by decide +kernel
theorem dX9_callers_36 : decode cX9_callers 36 = .ok (.iload 4, 2) := by decide +kernel
theorem dX9_callers_38 : decode cX9_callers 38 = .ok (.i2l, 1) := by decide +kernel
theorem dX9_callers_39 : decode cX9_callers 39 = .ok (.invokevirtual 132, 3) := by decide +kernel
theorem dX9_callers_42 : decode cX9_callers 42 = .ok (.istore 5, 2) := by decide +kernel
theorem dX9_callers_44 : decode cX9_callers 44 = .ok (.iload 5, 2) := by decide +kernel
theorem dX9_callers_46 : decode cX9_callers 46 = .ok (.ifCond .ge 6, 3) := by decide +kernel
theorem dX9_callers_49 : decode cX9_callers 49 = .ok (.iload 5, 2) := by decide +kernel
theorem dX9_callers_51 : decode cX9_callers 51 = .ok (.ireturn, 1) := by decide +kernel
theorem dX9_callers_52 : decode cX9_callers 52 = .ok (.aload_n 0, 1) := by decide +kernel
theorem dX9_callers_53 : decode cX9_callers 53 = .ok (.bipush 60, 2) := by decide +kernel
theorem dX9_callers_55 : decode cX9_callers 55 = .ok (.iload_n 1, 1) := by decide +kernel
theorem dX9_callers_56 : decode cX9_callers 56 = .ok (.imul, 1) := by decide +kernel
theorem dX9_callers_57 : decode cX9_callers 57 = .ok (.iload_n 3, 1) := by decide +kernel
theorem dX9_callers_58 : decode cX9_callers 58 = .ok (.iadd, 1) := by decide +kernel
theorem dX9_callers_59 : decode cX9_callers 59 = .ok (.iload 4, 2) := by decide +kernel
theorem dX9_callers_61 : decode cX9_callers 61 = .ok (.invokevirtual 136, 3) := by decide +kernel
theorem dX9_callers_64 : decode cX9_callers 64 = .ok (.ifCond .ne 15, 3) := by decide +kernel
theorem dX9_callers_67 : decode cX9_callers 67 = .ok (.aload_n 0, 1) := by decide +kernel
theorem dX9_callers_68 : decode cX9_callers 68 = .ok (.bipush (-100), 2) := by decide +kernel
theorem dX9_callers_70 : decode cX9_callers 70 = .ok (.aload_n 0, 1) := by decide +kernel
theorem dX9_callers_71 : decode cX9_callers 71 = .ok (.getfield 90, 3) := by decide +kernel
theorem dX9_callers_74 : decode cX9_callers 74 = .ok (.isub, 1) := by decide +kernel
theorem dX9_callers_75 : decode cX9_callers 75 = .ok (.invokevirtual 129, 3) := by decide +kernel
theorem dX9_callers_78 : decode cX9_callers 78 = .ok (.ireturn, 1) := by decide +kernel
theorem dX9_callers_79 : decode cX9_callers 79 = .ok (.aload_n 0, 1) := by decide +kernel
theorem dX9_callers_80 : decode cX9_callers 80 = .ok (.aload_n 0, 1) := by decide +kernel
theorem dX9_callers_81 : decode cX9_callers 81 = .ok (.getfield 102, 3) := by decide +kernel
theorem dX9_callers_84 : decode cX9_callers 84 = .ok (.putfield 80, 3) := by decide +kernel
theorem dX9_callers_87 : decode cX9_callers 87 = .ok (.aload_n 0, 1) := by decide +kernel
theorem dX9_callers_88 : decode cX9_callers 88 = .ok (.aload_n 0, 1) := by decide +kernel
theorem dX9_callers_89 : decode cX9_callers 89 = .ok (.getfield 99, 3) := by decide +kernel
theorem dX9_callers_92 : decode cX9_callers 92 = .ok (.putfield 87, 3) := by decide +kernel
theorem dX9_callers_95 : decode cX9_callers 95 = .ok (.iconst 0, 1) := by decide +kernel
theorem dX9_callers_96 : decode cX9_callers 96 = .ok (.istore 6, 2) := by decide +kernel
theorem dX9_callers_98 : decode cX9_callers 98 = .ok (.iload 6, 2) := by decide +kernel
theorem dX9_callers_100 : decode cX9_callers 100 = .ok (.aload_n 0, 1) := by decide +kernel
theorem dX9_callers_101 : decode cX9_callers 101 = .ok (.getfield 80, 3) := by decide +kernel
theorem dX9_callers_104 : decode cX9_callers 104 = .ok (.if_icmp .ge 67, 3) := by decide +kernel
theorem dX9_callers_107 : decode cX9_callers 107 = .ok (.aload_n 0, 1) := by decide +kernel
theorem dX9_callers_108 : decode cX9_callers 108 = .ok (.getfield 7, 3) := by decide +kernel
theorem dX9_callers_111 : decode cX9_callers 111 = .ok (.iload 6, 2) := by decide +kernel
theorem dX9_callers_113 : decode cX9_callers 113 = .ok (.aload_n 0, 1) := by decide +kernel
theorem dX9_callers_114 : decode cX9_callers 114 = .ok (.getfield 16, 3) := by decide +kernel
theorem dX9_callers_117 : decode cX9_callers 117 = .ok (.iload 6, 2) := by decide +kernel
theorem dX9_callers_119 : decode cX9_callers 119 = .ok (.iaload, 1) := by decide +kernel
theorem dX9_callers_120 : decode cX9_callers 120 = .ok (.iastore, 1) := by decide +kernel
theorem dX9_callers_121 : decode cX9_callers 121 = .ok (.iconst 0, 1) := by decide +kernel
theorem dX9_callers_122 : decode cX9_callers 122 = .ok (.istore 7, 2) := by decide +kernel
theorem dX9_callers_124 : decode cX9_callers 124 = .ok (.iload 7, 2) := by decide +kernel
theorem dX9_callers_126 : decode cX9_callers 126 = .ok (.aload_n 0, 1) := by decide +kernel
theorem dX9_callers_127 : decode cX9_callers 127 = .ok (.getfield 87, 3) := by decide +kernel
theorem dX9_callers_130 : decode cX9_callers 130 = .ok (.if_icmp .ge 35, 3) := by decide +kernel
theorem dX9_callers_133 : decode cX9_callers 133 = .ok (.aload_n 0, 1) := by decide +kernel
theorem dX9_callers_134 : decode cX9_callers 134 = .ok (.getfield 13, 3) := by decide +kernel
theorem dX9_callers_137 : decode cX9_callers 137 = .ok (.bipush 6, 2) := by decide +kernel
theorem dX9_callers_139 : decode cX9_callers 139 = .ok (.iload 6, 2) := by decide +kernel
theorem dX9_callers_141 : decode cX9_callers 141 = .ok (.imul, 1) := by decide +kernel
theorem dX9_callers_142 : decode cX9_callers 142 = .ok (.iload 7, 2) := by decide +kernel
theorem dX9_callers_144 : decode cX9_callers 144 = .ok (.iadd, 1) := by decide +kernel
theorem dX9_callers_145 : decode cX9_callers 145 = .ok (.aload_n 0, 1) := by decide +kernel
theorem dX9_callers_146 : decode cX9_callers 146 = .ok (.getfield 19, 3) := by decide +kernel
theorem dX9_callers_149 : decode cX9_callers 149 = .ok (.bipush 6, 2) := by decide +kernel
theorem dX9_callers_151 : decode cX9_callers 151 = .ok (.iload 6, 2) := by decide +kernel
theorem dX9_callers_153 : decode cX9_callers 153 = .ok (.imul, 1) := by decide +kernel
theorem dX9_callers_154 : decode cX9_callers 154 = .ok (.iload 7, 2) := by decide +kernel
theorem dX9_callers_156 : decode cX9_callers 156 = .ok (.iadd, 1) := by decide +kernel
theorem dX9_callers_157 : decode cX9_callers 157 = .ok (.iaload, 1) := by decide +kernel
theorem dX9_callers_158 : decode cX9_callers 158 = .ok (.iastore, 1) := by decide +kernel
theorem dX9_callers_159 : decode cX9_callers 159 = .ok (.iinc 7 1, 3) := by decide +kernel
theorem dX9_callers_162 : decode cX9_callers 162 = .ok (.goto (-38), 3) := by decide +kernel
theorem dX9_callers_165 : decode cX9_callers 165 = .ok (.iinc 6 1, 3) := by decide +kernel
theorem dX9_callers_168 : decode cX9_callers 168 = .ok (.goto (-70), 3) := by decide +kernel
theorem dX9_callers_171 : decode cX9_callers 171 = .ok (.aload_n 0, 1) := by decide +kernel
theorem dX9_callers_172 : decode cX9_callers 172 = .ok (.iconst 0, 1) := by decide +kernel
theorem dX9_callers_173 : decode cX9_callers 173 = .ok (.putfield 139, 3) := by decide +kernel
theorem dX9_callers_176 : decode cX9_callers 176 = .ok (.aload_n 0, 1) := by decide +kernel
theorem dX9_callers_177 : decode cX9_callers 177 = .ok (.iconst 0, 1) := by decide +kernel
theorem dX9_callers_178 : decode cX9_callers 178 = .ok (.putfield 142, 3) := by decide +kernel
theorem dX9_callers_181 : decode cX9_callers 181 = .ok (.aload_n 0, 1) := by decide +kernel
theorem dX9_callers_182 : decode cX9_callers 182 = .ok (.aload_n 0, 1) := by decide +kernel
theorem dX9_callers_183 : decode cX9_callers 183 = .ok (.getfield 80, 3) := by decide +kernel
theorem dX9_callers_186 : decode cX9_callers 186 = .ok (.invokevirtual 129, 3) := by decide +kernel
theorem dX9_callers_189 : decode cX9_callers 189 = .ok (.ireturn, 1) := by decide +kernel
theorem dX9_pitch_0 : decode cX9_pitch 0 = .ok (.aload_n 0, 1) := by decide +kernel
theorem dX9_pitch_1 : decode cX9_pitch 1 = .ok (.getfield 13, 3) := by decide +kernel
theorem dX9_pitch_4 : decode cX9_pitch 4 = .ok (.bipush 6, 2) := by decide +kernel
theorem dX9_pitch_6 : decode cX9_pitch 6 = .ok (.iload_n 1, 1) := by decide +kernel
theorem dX9_pitch_7 : decode cX9_pitch 7 = .ok (.imul, 1) := by decide +kernel
theorem dX9_pitch_8 : decode cX9_pitch 8 = .ok (.iload_n 2, 1) := by decide +kernel
theorem dX9_pitch_9 : decode cX9_pitch 9 = .ok (.iadd, 1) := by decide +kernel
theorem dX9_pitch_10 : decode cX9_pitch 10 = .ok (.iaload, 1) := by decide +kernel
theorem dX9_pitch_11 : decode cX9_pitch 11 = .ok (.ireturn, 1) := by decide +kernel
theorem dX9_freeOf_0 : decode cX9_freeOf 0 = .ok (.iconst 0, 1) := by decide +kernel
theorem dX9_freeOf_1 : decode cX9_freeOf 1 = .ok (.istore_n 2, 1) := by decide +kernel
theorem dX9_freeOf_2 : decode cX9_freeOf 2 = .ok (.iconst 0, 1) := by decide +kernel
theorem dX9_freeOf_3 : decode cX9_freeOf 3 = .ok (.istore_n 3, 1) := by decide +kernel
theorem dX9_freeOf_4 : decode cX9_freeOf 4 = .ok (.iload_n 3, 1) := by decide +kernel
theorem dX9_freeOf_5 : decode cX9_freeOf 5 = .ok (.aload_n 0, 1) := by decide +kernel
theorem dX9_freeOf_6 : decode cX9_freeOf 6 = .ok (.getfield 87, 3) := by decide +kernel
theorem dX9_freeOf_9 : decode cX9_freeOf 9 = .ok (.if_icmp .ge 26, 3) := by decide +kernel
theorem dX9_freeOf_12 : decode cX9_freeOf 12 = .ok (.iload_n 2, 1) := by decide +kernel
theorem dX9_freeOf_13 : decode cX9_freeOf 13 = .ok (.aload_n 0, 1) := by decide +kernel
theorem dX9_freeOf_14 : decode cX9_freeOf 14 = .ok (.iload_n 1, 1) := by decide +kernel
theorem dX9_freeOf_15 : decode cX9_freeOf 15 = .ok (.iload_n 3, 1) := by decide +kernel
theorem dX9_freeOf_16 : decode cX9_freeOf 16 = .ok (.invokevirtual 145, 3) := by decide +kernel
theorem dX9_freeOf_19 : decode cX9_freeOf 19 = .ok (.ifCond .ge 7, 3) := by decide +kernel
theorem dX9_freeOf_22 : decode cX9_freeOf 22 = .ok (.iconst 1, 1) := by decide +kernel
theorem dX9_freeOf_23 : decode cX9_freeOf 23 = .ok (.goto 4, 3) := by decide +kernel
theorem dX9_freeOf_26 : decode cX9_freeOf 26 = .ok (.iconst 0, 1) := by decide +kernel
theorem dX9_freeOf_27 : decode cX9_freeOf 27 = .ok (.iadd, 1) := by decide +kernel
theorem dX9_freeOf_28 : decode cX9_freeOf 28 = .ok (.istore_n 2, 1) := by decide +kernel
theorem dX9_freeOf_29 : decode cX9_freeOf 29 = .ok (.iinc 3 1, 3) := by decide +kernel
theorem dX9_freeOf_32 : decode cX9_freeOf 32 = .ok (.goto (-28), 3) := by decide +kernel
theorem dX9_freeOf_35 : decode cX9_freeOf 35 = .ok (.iload_n 2, 1) := by decide +kernel
theorem dX9_freeOf_36 : decode cX9_freeOf 36 = .ok (.ireturn, 1) := by decide +kernel
theorem dX9_areUnlike_0 : decode cX9_areUnlike 0 = .ok (.iconst 0, 1) := by decide +kernel
theorem dX9_areUnlike_1 : decode cX9_areUnlike 1 = .ok (.istore_n 1, 1) := by decide +kernel
theorem dX9_areUnlike_2 : decode cX9_areUnlike 2 = .ok (.iconst 0, 1) := by decide +kernel
theorem dX9_areUnlike_3 : decode cX9_areUnlike 3 = .ok (.istore_n 2, 1) := by decide +kernel
theorem dX9_areUnlike_4 : decode cX9_areUnlike 4 = .ok (.iload_n 2, 1) := by decide +kernel
theorem dX9_areUnlike_5 : decode cX9_areUnlike 5 = .ok (.aload_n 0, 1) := by decide +kernel
theorem dX9_areUnlike_6 : decode cX9_areUnlike 6 = .ok (.getfield 87, 3) := by decide +kernel
theorem dX9_areUnlike_9 : decode cX9_areUnlike 9 = .ok (.if_icmp .ge 20, 3) := by decide +kernel
theorem dX9_areUnlike_12 : decode cX9_areUnlike 12 = .ok (.iload_n 1, 1) := by decide +kernel
theorem dX9_areUnlike_13 : decode cX9_areUnlike 13 = .ok (.iconst 1, 1) := by decide +kernel
theorem dX9_areUnlike_14 : decode cX9_areUnlike 14 = .ok (.aload_n 0, 1) := by decide +kernel
theorem dX9_areUnlike_15 : decode cX9_areUnlike 15 = .ok (.getfield 22, 3) := by decide +kernel
theorem dX9_areUnlike_18 : decode cX9_areUnlike 18 = .ok (.iload_n 2, 1) := by decide +kernel
theorem dX9_areUnlike_19 : decode cX9_areUnlike 19 = .ok (.iaload, 1) := by decide +kernel
theorem dX9_areUnlike_20 : decode cX9_areUnlike 20 = .ok (.ishl, 1) := by decide +kernel
theorem dX9_areUnlike_21 : decode cX9_areUnlike 21 = .ok (.ior, 1) := by decide +kernel
theorem dX9_areUnlike_22 : decode cX9_areUnlike 22 = .ok (.istore_n 1, 1) := by decide +kernel
theorem dX9_areUnlike_23 : decode cX9_areUnlike 23 = .ok (.iinc 2 1, 3) := by decide +kernel
theorem dX9_areUnlike_26 : decode cX9_areUnlike 26 = .ok (.goto (-22), 3) := by decide +kernel
theorem dX9_areUnlike_29 : decode cX9_areUnlike 29 = .ok (.iload_n 1, 1) := by decide +kernel
theorem dX9_areUnlike_30 : decode cX9_areUnlike 30 = .ok (.invokestatic 148, 3) := by decide +kernel
theorem dX9_areUnlike_33 : decode cX9_areUnlike 33 = .ok (.aload_n 0, 1) := by decide +kernel
theorem dX9_areUnlike_34 : decode cX9_areUnlike 34 = .ok (.getfield 87, 3) := by decide +kernel
theorem dX9_areUnlike_37 : decode cX9_areUnlike 37 = .ok (.if_icmp .ne 7, 3) := by decide +kernel
theorem dX9_areUnlike_40 : decode cX9_areUnlike 40 = .ok (.iconst 1, 1) := by decide +kernel
theorem dX9_areUnlike_41 : decode cX9_areUnlike 41 = .ok (.goto 4, 3) := by decide +kernel
theorem dX9_areUnlike_44 : decode cX9_areUnlike 44 = .ok (.iconst 0, 1) := by decide +kernel
theorem dX9_areUnlike_45 : decode cX9_areUnlike 45 = .ok (.ireturn, 1) := by decide +kernel
theorem dX9_isGood_0 : decode cX9_isGood 0 = .ok (.aload_n 0, 1) := by decide +kernel
theorem dX9_isGood_1 : decode cX9_isGood 1 = .ok (.invokevirtual 151, 3) := by decide +kernel
theorem dX9_isGood_4 : decode cX9_isGood 4 = .ok (.istore_n 1, 1) := by decide +kernel
theorem dX9_isGood_5 : decode cX9_isGood 5 = .ok (.iconst 1, 1) := by decide +kernel
theorem dX9_isGood_6 : decode cX9_isGood 6 = .ok (.istore_n 2, 1) := by decide +kernel
theorem dX9_isGood_7 : decode cX9_isGood 7 = .ok (.iload_n 2, 1) := by decide +kernel
theorem dX9_isGood_8 : decode cX9_isGood 8 = .ok (.aload_n 0, 1) := by decide +kernel
theorem dX9_isGood_9 : decode cX9_isGood 9 = .ok (.getfield 87, 3) := by decide +kernel
theorem dX9_isGood_12 : decode cX9_isGood 12 = .ok (.if_icmp .ge 81, 3) := by decide +kernel
theorem dX9_isGood_15 : decode cX9_isGood 15 = .ok (.iload_n 1, 1) := by decide +kernel
theorem dX9_isGood_16 : decode cX9_isGood 16 = .ok (.ifCond .eq 77, 3) := by decide +kernel
theorem dX9_isGood_19 : decode cX9_isGood 19 = .ok (.iconst 0, 1) := by decide +kernel
theorem dX9_isGood_20 : decode cX9_isGood 20 = .ok (.istore_n 3, 1) := by decide +kernel
theorem dX9_isGood_21 : decode cX9_isGood 21 = .ok (.iconst 0, 1) := by decide +kernel
theorem dX9_isGood_22 : decode cX9_isGood 22 = .ok (.istore 4, 2) := by decide +kernel
theorem dX9_isGood_24 : decode cX9_isGood 24 = .ok (.iload 4, 2) := by decide +kernel
theorem dX9_isGood_26 : decode cX9_isGood 26 = .ok (.iload_n 2, 1) := by decide +kernel
theorem dX9_isGood_27 : decode cX9_isGood 27 = .ok (.iadd, 1) := by decide +kernel
theorem dX9_isGood_28 : decode cX9_isGood 28 = .ok (.aload_n 0, 1) := by decide +kernel
theorem dX9_isGood_29 : decode cX9_isGood 29 = .ok (.getfield 87, 3) := by decide +kernel
theorem dX9_isGood_32 : decode cX9_isGood 32 = .ok (.if_icmp .ge 55, 3) := by decide +kernel
theorem dX9_isGood_35 : decode cX9_isGood 35 = .ok (.iconst 1, 1) := by decide +kernel
theorem dX9_isGood_36 : decode cX9_isGood 36 = .ok (.aload_n 0, 1) := by decide +kernel
theorem dX9_isGood_37 : decode cX9_isGood 37 = .ok (.getfield 22, 3) := by decide +kernel
theorem dX9_isGood_40 : decode cX9_isGood 40 = .ok (.iload 4, 2) := by decide +kernel
theorem dX9_isGood_42 : decode cX9_isGood 42 = .ok (.iload_n 2, 1) := by decide +kernel
theorem dX9_isGood_43 : decode cX9_isGood 43 = .ok (.iadd, 1) := by decide +kernel
theorem dX9_isGood_44 : decode cX9_isGood 44 = .ok (.iaload, 1) := by decide +kernel
theorem dX9_isGood_45 : decode cX9_isGood 45 = .ok (.aload_n 0, 1) := by decide +kernel
theorem dX9_isGood_46 : decode cX9_isGood 46 = .ok (.getfield 22, 3) := by decide +kernel
theorem dX9_isGood_49 : decode cX9_isGood 49 = .ok (.iload 4, 2) := by decide +kernel
theorem dX9_isGood_51 : decode cX9_isGood 51 = .ok (.iaload, 1) := by decide +kernel
theorem dX9_isGood_52 : decode cX9_isGood 52 = .ok (.isub, 1) := by decide +kernel
theorem dX9_isGood_53 : decode cX9_isGood 53 = .ok (.bipush 6, 2) := by decide +kernel
theorem dX9_isGood_55 : decode cX9_isGood 55 = .ok (.iadd, 1) := by decide +kernel
theorem dX9_isGood_56 : decode cX9_isGood 56 = .ok (.ishl, 1) := by decide +kernel
theorem dX9_isGood_57 : decode cX9_isGood 57 = .ok (.istore 5, 2) := by decide +kernel
theorem dX9_isGood_59 : decode cX9_isGood 59 = .ok (.iload_n 1, 1) := by decide +kernel
theorem dX9_isGood_60 : decode cX9_isGood 60 = .ok (.ifCond .eq 14, 3) := by decide +kernel
theorem dX9_isGood_63 : decode cX9_isGood 63 = .ok (.iload_n 3, 1) := by decide +kernel
theorem dX9_isGood_64 : decode cX9_isGood 64 = .ok (.iload 5, 2) := by decide +kernel
theorem dX9_isGood_66 : decode cX9_isGood 66 = .ok (.iand, 1) := by decide +kernel
theorem dX9_isGood_67 : decode cX9_isGood 67 = .ok (.ifCond .ne 7, 3) := by decide +kernel
theorem dX9_isGood_70 : decode cX9_isGood 70 = .ok (.iconst 1, 1) := by decide +kernel
theorem dX9_isGood_71 : decode cX9_isGood 71 = .ok (.goto 4, 3) := by decide +kernel
theorem dX9_isGood_74 : decode cX9_isGood 74 = .ok (.iconst 0, 1) := by decide +kernel
theorem dX9_isGood_75 : decode cX9_isGood 75 = .ok (.istore_n 1, 1) := by decide +kernel
theorem dX9_isGood_76 : decode cX9_isGood 76 = .ok (.iload_n 3, 1) := by decide +kernel
theorem dX9_isGood_77 : decode cX9_isGood 77 = .ok (.iload 5, 2) := by decide +kernel
theorem dX9_isGood_79 : decode cX9_isGood 79 = .ok (.ior, 1) := by decide +kernel
theorem dX9_isGood_80 : decode cX9_isGood 80 = .ok (.istore_n 3, 1) := by decide +kernel
theorem dX9_isGood_81 : decode cX9_isGood 81 = .ok (.iinc 4 1, 3) := by decide +kernel
theorem dX9_isGood_84 : decode cX9_isGood 84 = .ok (.goto (-60), 3) := by decide +kernel
theorem dX9_isGood_87 : decode cX9_isGood 87 = .ok (.iinc 2 1, 3) := by decide +kernel
theorem dX9_isGood_90 : decode cX9_isGood 90 = .ok (.goto (-83), 3) := by decide +kernel
theorem dX9_isGood_93 : decode cX9_isGood 93 = .ok (.iload_n 1, 1) := by decide +kernel
theorem dX9_isGood_94 : decode cX9_isGood 94 = .ok (.ireturn, 1) := by decide +kernel
theorem dX9_triesFirst_0 : decode cX9_triesFirst 0 = .ok (.iconst 0, 1) := by decide +kernel
theorem dX9_triesFirst_1 : decode cX9_triesFirst 1 = .ok (.istore_n 1, 1) := by decide +kernel
theorem dX9_triesFirst_2 : decode cX9_triesFirst 2 = .ok (.iload_n 1, 1) := by decide +kernel
theorem dX9_triesFirst_3 : decode cX9_triesFirst 3 = .ok (.bipush 6, 2) := by decide +kernel
theorem dX9_triesFirst_5 : decode cX9_triesFirst 5 = .ok (.if_icmp .ge 16, 3) := by decide +kernel
theorem dX9_triesFirst_8 : decode cX9_triesFirst 8 = .ok (.aload_n 0, 1) := by decide +kernel
theorem dX9_triesFirst_9 : decode cX9_triesFirst 9 = .ok (.getfield 22, 3) := by decide +kernel
theorem dX9_triesFirst_12 : decode cX9_triesFirst 12 = .ok (.iload_n 1, 1) := by decide +kernel
theorem dX9_triesFirst_13 : decode cX9_triesFirst 13 = .ok (.iconst 0, 1) := by decide +kernel
theorem dX9_triesFirst_14 : decode cX9_triesFirst 14 = .ok (.iastore, 1) := by decide +kernel
theorem dX9_triesFirst_15 : decode cX9_triesFirst 15 = .ok (.iinc 1 1, 3) := by decide +kernel
theorem dX9_triesFirst_18 : decode cX9_triesFirst 18 = .ok (.goto (-16), 3) := by decide +kernel
theorem dX9_triesFirst_21 : decode cX9_triesFirst 21 = .ok (.return_, 1) := by decide +kernel
theorem dX9_triesNext_0 : decode cX9_triesNext 0 = .ok (.aload_n 0, 1) := by decide +kernel
theorem dX9_triesNext_1 : decode cX9_triesNext 1 = .ok (.getfield 87, 3) := by decide +kernel
theorem dX9_triesNext_4 : decode cX9_triesNext 4 = .ok (.iconst 1, 1) := by decide +kernel
theorem dX9_triesNext_5 : decode cX9_triesNext 5 = .ok (.isub, 1) := by decide +kernel
theorem dX9_triesNext_6 : decode cX9_triesNext 6 = .ok (.istore_n 1, 1) := by decide +kernel
theorem dX9_triesNext_7 : decode cX9_triesNext 7 = .ok (.iload_n 1, 1) := by decide +kernel
theorem dX9_triesNext_8 : decode cX9_triesNext 8 = .ok (.ifCond .lt 31, 3) := by decide +kernel
theorem dX9_triesNext_11 : decode cX9_triesNext 11 = .ok (.aload_n 0, 1) := by decide +kernel
theorem dX9_triesNext_12 : decode cX9_triesNext 12 = .ok (.getfield 22, 3) := by decide +kernel
theorem dX9_triesNext_15 : decode cX9_triesNext 15 = .ok (.iload_n 1, 1) := by decide +kernel
theorem dX9_triesNext_16 : decode cX9_triesNext 16 = .ok (.iaload, 1) := by decide +kernel
theorem dX9_triesNext_17 : decode cX9_triesNext 17 = .ok (.aload_n 0, 1) := by decide +kernel
theorem dX9_triesNext_18 : decode cX9_triesNext 18 = .ok (.getfield 87, 3) := by decide +kernel
theorem dX9_triesNext_21 : decode cX9_triesNext 21 = .ok (.iconst 1, 1) := by decide +kernel
theorem dX9_triesNext_22 : decode cX9_triesNext 22 = .ok (.isub, 1) := by decide +kernel
theorem dX9_triesNext_23 : decode cX9_triesNext 23 = .ok (.if_icmp .ne 16, 3) := by decide +kernel
theorem dX9_triesNext_26 : decode cX9_triesNext 26 = .ok (.aload_n 0, 1) := by decide +kernel
theorem dX9_triesNext_27 : decode cX9_triesNext 27 = .ok (.getfield 22, 3) := by decide +kernel
theorem dX9_triesNext_30 : decode cX9_triesNext 30 = .ok (.iload_n 1, 1) := by decide +kernel
theorem dX9_triesNext_31 : decode cX9_triesNext 31 = .ok (.iconst 0, 1) := by decide +kernel
theorem dX9_triesNext_32 : decode cX9_triesNext 32 = .ok (.iastore, 1) := by decide +kernel
theorem dX9_triesNext_33 : decode cX9_triesNext 33 = .ok (.iinc 1 (-1), 3) := by decide +kernel
theorem dX9_triesNext_36 : decode cX9_triesNext 36 = .ok (.goto (-29), 3) := by decide +kernel
theorem dX9_triesNext_39 : decode cX9_triesNext 39 = .ok (.iload_n 1, 1) := by decide +kernel
theorem dX9_triesNext_40 : decode cX9_triesNext 40 = .ok (.ifCond .ge 5, 3) := by decide +kernel
theorem dX9_triesNext_43 : decode cX9_triesNext 43 = .ok (.iconst 0, 1) := by decide +kernel
theorem dX9_triesNext_44 : decode cX9_triesNext 44 = .ok (.ireturn, 1) := by decide +kernel
theorem dX9_triesNext_45 : decode cX9_triesNext 45 = .ok (.aload_n 0, 1) := by decide +kernel
theorem dX9_triesNext_46 : decode cX9_triesNext 46 = .ok (.getfield 22, 3) := by decide +kernel
theorem dX9_triesNext_49 : decode cX9_triesNext 49 = .ok (.iload_n 1, 1) := by decide +kernel
theorem dX9_triesNext_50 : decode cX9_triesNext 50 = .ok (.dup2, 1) := by decide +kernel
theorem dX9_triesNext_51 : decode cX9_triesNext 51 = .ok (.iaload, 1) := by decide +kernel
theorem dX9_triesNext_52 : decode cX9_triesNext 52 = .ok (.iconst 1, 1) := by decide +kernel
theorem dX9_triesNext_53 : decode cX9_triesNext 53 = .ok (.iadd, 1) := by decide +kernel
theorem dX9_triesNext_54 : decode cX9_triesNext 54 = .ok (.iastore, 1) := by decide +kernel
theorem dX9_triesNext_55 : decode cX9_triesNext 55 = .ok (.iconst 1, 1) := by decide +kernel
theorem dX9_triesNext_56 : decode cX9_triesNext 56 = .ok (.ireturn, 1) := by decide +kernel
theorem dX9_hasThoseOf_0 : decode cX9_hasThoseOf 0 = .ok (.iconst 1, 1) := by decide +kernel
theorem dX9_hasThoseOf_1 : decode cX9_hasThoseOf 1 = .ok (.istore_n 2, 1) := by decide +kernel
theorem dX9_hasThoseOf_2 : decode cX9_hasThoseOf 2 = .ok (.iconst 0, 1) := by decide +kernel
theorem dX9_hasThoseOf_3 : decode cX9_hasThoseOf 3 = .ok (.istore_n 3, 1) := by decide +kernel
theorem dX9_hasThoseOf_4 : decode cX9_hasThoseOf 4 = .ok (.iload_n 3, 1) := by decide +kernel
theorem dX9_hasThoseOf_5 : decode cX9_hasThoseOf 5 = .ok (.aload_n 0, 1) := by decide +kernel
theorem dX9_hasThoseOf_6 : decode cX9_hasThoseOf 6 = .ok (.getfield 87, 3) := by decide +kernel
theorem dX9_hasThoseOf_9 : decode cX9_hasThoseOf 9 = .ok (.if_icmp .ge 43, 3) := by decide +kernel
theorem dX9_hasThoseOf_12 : decode cX9_hasThoseOf 12 = .ok (.iload_n 2, 1) := by decide +kernel
theorem dX9_hasThoseOf_13 : decode cX9_hasThoseOf 13 = .ok (.ifCond .eq 31, 3) := by decide +kernel
theorem dX9_hasThoseOf_16 : decode cX9_hasThoseOf 16 = .ok (.aload_n 0, 1) := by decide +kernel
theorem dX9_hasThoseOf_17 : decode cX9_hasThoseOf 17 = .ok (.iload_n 1, 1) := by decide +kernel
theorem dX9_hasThoseOf_18 : decode cX9_hasThoseOf 18 = .ok (.iload_n 3, 1) := by decide +kernel
theorem dX9_hasThoseOf_19 : decode cX9_hasThoseOf 19 = .ok (.invokevirtual 145, 3) := by decide +kernel
theorem dX9_hasThoseOf_22 : decode cX9_hasThoseOf 22 = .ok (.ifCond .lt 18, 3) := by decide +kernel
theorem dX9_hasThoseOf_25 : decode cX9_hasThoseOf 25 = .ok (.aload_n 0, 1) := by decide +kernel
theorem dX9_hasThoseOf_26 : decode cX9_hasThoseOf 26 = .ok (.iload_n 1, 1) := by decide +kernel
theorem dX9_hasThoseOf_27 : decode cX9_hasThoseOf 27 = .ok (.iload_n 3, 1) := by decide +kernel
theorem dX9_hasThoseOf_28 : decode cX9_hasThoseOf 28 = .ok (.invokevirtual 145, 3) := by decide +kernel
theorem dX9_hasThoseOf_31 : decode cX9_hasThoseOf 31 = .ok (.aload_n 0, 1) := by decide +kernel
theorem dX9_hasThoseOf_32 : decode cX9_hasThoseOf 32 = .ok (.getfield 22, 3) := by decide +kernel
theorem dX9_hasThoseOf_35 : decode cX9_hasThoseOf 35 = .ok (.iload_n 3, 1) := by decide +kernel
theorem dX9_hasThoseOf_36 : decode cX9_hasThoseOf 36 = .ok (.iaload, 1) := by decide +kernel
theorem dX9_hasThoseOf_37 : decode cX9_hasThoseOf 37 = .ok (.if_icmp .ne 7, 3) := by decide +kernel
theorem dX9_hasThoseOf_40 : decode cX9_hasThoseOf 40 = .ok (.iconst 1, 1) := by decide +kernel
theorem dX9_hasThoseOf_41 : decode cX9_hasThoseOf 41 = .ok (.goto 4, 3) := by decide +kernel
theorem dX9_hasThoseOf_44 : decode cX9_hasThoseOf 44 = .ok (.iconst 0, 1) := by decide +kernel
theorem dX9_hasThoseOf_45 : decode cX9_hasThoseOf 45 = .ok (.istore_n 2, 1) := by decide +kernel
theorem dX9_hasThoseOf_46 : decode cX9_hasThoseOf 46 = .ok (.iinc 3 1, 3) := by decide +kernel
theorem dX9_hasThoseOf_49 : decode cX9_hasThoseOf 49 = .ok (.goto (-45), 3) := by decide +kernel
theorem dX9_hasThoseOf_52 : decode cX9_hasThoseOf 52 = .ok (.iload_n 2, 1) := by decide +kernel
theorem dX9_hasThoseOf_53 : decode cX9_hasThoseOf 53 = .ok (.ireturn, 1) := by decide +kernel
theorem dX9_triesThoseOf_0 : decode cX9_triesThoseOf 0 = .ok (.iconst 0, 1) := by decide +kernel
theorem dX9_triesThoseOf_1 : decode cX9_triesThoseOf 1 = .ok (.istore_n 2, 1) := by decide +kernel
theorem dX9_triesThoseOf_2 : decode cX9_triesThoseOf 2 = .ok (.iload_n 2, 1) := by decide +kernel
theorem dX9_triesThoseOf_3 : decode cX9_triesThoseOf 3 = .ok (.aload_n 0, 1) := by decide +kernel
theorem dX9_triesThoseOf_4 : decode cX9_triesThoseOf 4 = .ok (.getfield 87, 3) := by decide +kernel
theorem dX9_triesThoseOf_7 : decode cX9_triesThoseOf 7 = .ok (.if_icmp .ge 21, 3) := by decide +kernel
theorem dX9_triesThoseOf_10 : decode cX9_triesThoseOf 10 = .ok (.aload_n 0, 1) := by decide +kernel
theorem dX9_triesThoseOf_11 : decode cX9_triesThoseOf 11 = .ok (.getfield 22, 3) := by decide +kernel
theorem dX9_triesThoseOf_14 : decode cX9_triesThoseOf 14 = .ok (.iload_n 2, 1) := by decide +kernel
theorem dX9_triesThoseOf_15 : decode cX9_triesThoseOf 15 = .ok (.aload_n 0, 1) := by decide +kernel
theorem dX9_triesThoseOf_16 : decode cX9_triesThoseOf 16 = .ok (.iload_n 1, 1) := by decide +kernel
theorem dX9_triesThoseOf_17 : decode cX9_triesThoseOf 17 = .ok (.iload_n 2, 1) := by decide +kernel
theorem dX9_triesThoseOf_18 : decode cX9_triesThoseOf 18 = .ok (.invokevirtual 145, 3) := by decide +kernel
theorem dX9_triesThoseOf_21 : decode cX9_triesThoseOf 21 = .ok (.iastore, 1) := by decide +kernel
theorem dX9_triesThoseOf_22 : decode cX9_triesThoseOf 22 = .ok (.iinc 2 1, 3) := by decide +kernel
theorem dX9_triesThoseOf_25 : decode cX9_triesThoseOf 25 = .ok (.goto (-23), 3) := by decide +kernel
theorem dX9_triesThoseOf_28 : decode cX9_triesThoseOf 28 = .ok (.return_, 1) := by decide +kernel
theorem dX9_goodNow_0 : decode cX9_goodNow 0 = .ok (.aload_n 0, 1) := by decide +kernel
theorem dX9_goodNow_1 : decode cX9_goodNow 1 = .ok (.iload_n 1, 1) := by decide +kernel
theorem dX9_goodNow_2 : decode cX9_goodNow 2 = .ok (.invokevirtual 155, 3) := by decide +kernel
theorem dX9_goodNow_5 : decode cX9_goodNow 5 = .ok (.ifCond .le 5, 3) := by decide +kernel
theorem dX9_goodNow_8 : decode cX9_goodNow 8 = .ok (.iconst 0, 1) := by decide +kernel
theorem dX9_goodNow_9 : decode cX9_goodNow 9 = .ok (.ireturn, 1) := by decide +kernel
theorem dX9_goodNow_10 : decode cX9_goodNow 10 = .ok (.aload_n 0, 1) := by decide +kernel
theorem dX9_goodNow_11 : decode cX9_goodNow 11 = .ok (.iload_n 1, 1) := by decide +kernel
theorem dX9_goodNow_12 : decode cX9_goodNow 12 = .ok (.invokevirtual 158, 3) := by decide +kernel
theorem dX9_goodNow_15 : decode cX9_goodNow 15 = .ok (.aload_n 0, 1) := by decide +kernel
theorem dX9_goodNow_16 : decode cX9_goodNow 16 = .ok (.invokevirtual 162, 3) := by decide +kernel
theorem dX9_goodNow_19 : decode cX9_goodNow 19 = .ok (.ifCond .eq 7, 3) := by decide +kernel
theorem dX9_goodNow_22 : decode cX9_goodNow 22 = .ok (.iconst 1, 1) := by decide +kernel
theorem dX9_goodNow_23 : decode cX9_goodNow 23 = .ok (.goto 4, 3) := by decide +kernel
theorem dX9_goodNow_26 : decode cX9_goodNow 26 = .ok (.iconst 0, 1) := by decide +kernel
theorem dX9_goodNow_27 : decode cX9_goodNow 27 = .ok (.ireturn, 1) := by decide +kernel
theorem dX9_ofCaller_0 : decode cX9_ofCaller 0 = .ok (.aload_n 0, 1) := by decide +kernel
theorem dX9_ofCaller_1 : decode cX9_ofCaller 1 = .ok (.iload_n 1, 1) := by decide +kernel
theorem dX9_ofCaller_2 : decode cX9_ofCaller 2 = .ok (.invokevirtual 165, 3) := by decide +kernel
theorem dX9_ofCaller_5 : decode cX9_ofCaller 5 = .ok (.ifCond .eq 5, 3) := by decide +kernel
theorem dX9_ofCaller_8 : decode cX9_ofCaller 8 = .ok (.iconst (-1), 1) := by decide +kernel
theorem dX9_ofCaller_9 : decode cX9_ofCaller 9 = .ok (.ireturn, 1) := by decide +kernel
theorem dX9_ofCaller_10 : decode cX9_ofCaller 10 = .ok (.iload_n 2, 1) := by decide +kernel
theorem dX9_ofCaller_11 : decode cX9_ofCaller 11 = .ok (.i2l, 1) := by decide +kernel
theorem dX9_ofCaller_12 : decode cX9_ofCaller 12 = .ok (.ldc2_w 168, 3) := by decide +kernel
theorem dX9_ofCaller_15 : decode cX9_ofCaller 15 = .ok (.ldc2_w 170, 3) := by decide +kernel
theorem dX9_ofCaller_18 : decode cX9_ofCaller 18 = .ok (.invokestatic 83, 3) := by decide +kernel
theorem dX9_ofCaller_21 : decode cX9_ofCaller 21 = .ok (.ifCond .eq 41, 3) := by decide +kernel
theorem dX9_ofCaller_24 : decode cX9_ofCaller 24 = .ok (.aload_n 0, 1) := by decide +kernel
theorem dX9_ofCaller_25 : decode cX9_ofCaller 25 = .ok (.iload_n 2, 1) := by decide +kernel
theorem dX9_ofCaller_26 : decode cX9_ofCaller 26 = .ok (.bipush 10, 2) := by decide +kernel
theorem dX9_ofCaller_28 : decode cX9_ofCaller 28 = .ok (.isub, 1) := by decide +kernel
theorem dX9_ofCaller_29 : decode cX9_ofCaller 29 = .ok (.invokevirtual 172, 3) := by decide +kernel
theorem dX9_ofCaller_32 : decode cX9_ofCaller 32 = .ok (.ifCond .ne 15, 3) := by decide +kernel
theorem dX9_ofCaller_35 : decode cX9_ofCaller 35 = .ok (.aload_n 0, 1) := by decide +kernel
theorem dX9_ofCaller_36 : decode cX9_ofCaller 36 = .ok (.iload_n 1, 1) := by decide +kernel
theorem dX9_ofCaller_37 : decode cX9_ofCaller 37 = .ok (.iload_n 2, 1) := by decide +kernel
theorem dX9_ofCaller_38 : decode cX9_ofCaller 38 = .ok (.bipush 10, 2) := by decide +kernel
theorem dX9_ofCaller_40 : decode cX9_ofCaller 40 = .ok (.isub, 1) := by decide +kernel
theorem dX9_ofCaller_41 : decode cX9_ofCaller 41 = .ok (.invokevirtual 145, 3) := by decide +kernel
theorem dX9_ofCaller_44 : decode cX9_ofCaller 44 = .ok (.ifCond .ge 8, 3) := by decide +kernel
theorem dX9_ofCaller_47 : decode cX9_ofCaller 47 = .ok (.bipush (-9), 2) := by decide +kernel
theorem dX9_ofCaller_49 : decode cX9_ofCaller 49 = .ok (.goto 12, 3) := by decide +kernel
theorem dX9_ofCaller_52 : decode cX9_ofCaller 52 = .ok (.aload_n 0, 1) := by decide +kernel
theorem dX9_ofCaller_53 : decode cX9_ofCaller 53 = .ok (.iload_n 1, 1) := by decide +kernel
theorem dX9_ofCaller_54 : decode cX9_ofCaller 54 = .ok (.iload_n 2, 1) := by decide +kernel
theorem dX9_ofCaller_55 : decode cX9_ofCaller 55 = .ok (.bipush 10, 2) := by decide +kernel
theorem dX9_ofCaller_57 : decode cX9_ofCaller 57 = .ok (.isub, 1) := by decide +kernel
theorem dX9_ofCaller_58 : decode cX9_ofCaller 58 = .ok (.invokevirtual 145, 3) := by decide +kernel
theorem dX9_ofCaller_61 : decode cX9_ofCaller 61 = .ok (.ireturn, 1) := by decide +kernel
theorem dX9_ofCaller_62 : decode cX9_ofCaller 62 = .ok (.iload_n 2, 1) := by decide +kernel
theorem dX9_ofCaller_63 : decode cX9_ofCaller 63 = .ok (.tableswitch 44 0 2 #[25, 32, 38], 25) := by decide +kernel
theorem dX9_ofCaller_88 : decode cX9_ofCaller 88 = .ok (.aload_n 0, 1) := by decide +kernel
theorem dX9_ofCaller_89 : decode cX9_ofCaller 89 = .ok (.getfield 7, 3) := by decide +kernel
theorem dX9_ofCaller_92 : decode cX9_ofCaller 92 = .ok (.iload_n 1, 1) := by decide +kernel
theorem dX9_ofCaller_93 : decode cX9_ofCaller 93 = .ok (.iaload, 1) := by decide +kernel
theorem dX9_ofCaller_94 : decode cX9_ofCaller 94 = .ok (.ireturn, 1) := by decide +kernel
theorem dX9_ofCaller_95 : decode cX9_ofCaller 95 = .ok (.aload_n 0, 1) := by decide +kernel
theorem dX9_ofCaller_96 : decode cX9_ofCaller 96 = .ok (.iload_n 1, 1) := by decide +kernel
theorem dX9_ofCaller_97 : decode cX9_ofCaller 97 = .ok (.invokevirtual 155, 3) := by decide +kernel
theorem dX9_ofCaller_100 : decode cX9_ofCaller 100 = .ok (.ireturn, 1) := by decide +kernel
theorem dX9_ofCaller_101 : decode cX9_ofCaller 101 = .ok (.aload_n 0, 1) := by decide +kernel
theorem dX9_ofCaller_102 : decode cX9_ofCaller 102 = .ok (.iload_n 1, 1) := by decide +kernel
theorem dX9_ofCaller_103 : decode cX9_ofCaller 103 = .ok (.invokevirtual 175, 3) := by decide +kernel
theorem dX9_ofCaller_106 : decode cX9_ofCaller 106 = .ok (.ireturn, 1) := by decide +kernel
theorem dX9_ofCaller_107 : decode cX9_ofCaller 107 = .ok (.bipush (-2), 2) := by decide +kernel
theorem dX9_ofCaller_109 : decode cX9_ofCaller 109 = .ok (.ireturn, 1) := by decide +kernel
theorem dX9_tune_0 : decode cX9_tune 0 = .ok (.aload_n 0, 1) := by decide +kernel
theorem dX9_tune_1 : decode cX9_tune 1 = .ok (.iload_n 1, 1) := by decide +kernel
theorem dX9_tune_2 : decode cX9_tune 2 = .ok (.invokevirtual 165, 3) := by decide +kernel
theorem dX9_tune_5 : decode cX9_tune 5 = .ok (.ifCond .ne 11, 3) := by decide +kernel
theorem dX9_tune_8 : decode cX9_tune 8 = .ok (.aload_n 0, 1) := by decide +kernel
theorem dX9_tune_9 : decode cX9_tune 9 = .ok (.iload_n 2, 1) := by decide +kernel
theorem dX9_tune_10 : decode cX9_tune 10 = .ok (.invokevirtual 172, 3) := by decide +kernel
theorem dX9_tune_13 : decode cX9_tune 13 = .ok (.ifCond .eq 5, 3) := by decide +kernel
theorem dX9_tune_16 : decode cX9_tune 16 = .ok (.iconst (-1), 1) := by decide +kernel
theorem dX9_tune_17 : decode cX9_tune 17 = .ok (.ireturn, 1) := by decide +kernel
theorem dX9_tune_18 : decode cX9_tune 18 = .ok (.iload_n 3, 1) := by decide +kernel
theorem dX9_tune_19 : decode cX9_tune 19 = .ok (.i2l, 1) := by decide +kernel
theorem dX9_tune_20 : decode cX9_tune 20 = .ok (.ldc2_w 178, 3) := by decide +kernel
theorem dX9_tune_23 : decode cX9_tune 23 = .ok (.aload_n 0, 1) := by decide +kernel
theorem dX9_tune_24 : decode cX9_tune 24 = .ok (.getfield 87, 3) := by decide +kernel
theorem dX9_tune_27 : decode cX9_tune 27 = .ok (.i2l, 1) := by decide +kernel
theorem dX9_tune_28 : decode cX9_tune 28 = .ok (.lconst 1, 1) := by decide +kernel
theorem dX9_tune_29 : decode cX9_tune 29 = .ok (.lsub, 1) := by decide +kernel
theorem dX9_tune_30 : decode cX9_tune 30 = .ok (.invokestatic 83, 3) := by decide +kernel
theorem dX9_tune_33 : decode cX9_tune 33 = .ok (.ifCond .ne 6, 3) := by decide +kernel
theorem dX9_tune_36 : decode cX9_tune 36 = .ok (.bipush (-2), 2) := by decide +kernel
theorem dX9_tune_38 : decode cX9_tune 38 = .ok (.ireturn, 1) := by decide +kernel
theorem dX9_tune_39 : decode cX9_tune 39 = .ok (.aload_n 0, 1) := by decide +kernel
theorem dX9_tune_40 : decode cX9_tune 40 = .ok (.iload_n 1, 1) := by decide +kernel
theorem dX9_tune_41 : decode cX9_tune 41 = .ok (.iload_n 2, 1) := by decide +kernel
theorem dX9_tune_42 : decode cX9_tune 42 = .ok (.invokevirtual 145, 3) := by decide +kernel
theorem dX9_tune_45 : decode cX9_tune 45 = .ok (.istore 4, 2) := by decide +kernel
theorem dX9_tune_47 : decode cX9_tune 47 = .ok (.aload_n 0, 1) := by decide +kernel
theorem dX9_tune_48 : decode cX9_tune 48 = .ok (.getfield 13, 3) := by decide +kernel
theorem dX9_tune_51 : decode cX9_tune 51 = .ok (.bipush 6, 2) := by decide +kernel
theorem dX9_tune_53 : decode cX9_tune 53 = .ok (.iload_n 1, 1) := by decide +kernel
theorem dX9_tune_54 : decode cX9_tune 54 = .ok (.imul, 1) := by decide +kernel
theorem dX9_tune_55 : decode cX9_tune 55 = .ok (.iload_n 2, 1) := by decide +kernel
theorem dX9_tune_56 : decode cX9_tune 56 = .ok (.iadd, 1) := by decide +kernel
theorem dX9_tune_57 : decode cX9_tune 57 = .ok (.iload_n 3, 1) := by decide +kernel
theorem dX9_tune_58 : decode cX9_tune 58 = .ok (.ifCond .ge 8, 3) := by decide +kernel
theorem dX9_tune_61 : decode cX9_tune 61 = .ok (.bipush (-9), 2) := by decide +kernel
theorem dX9_tune_63 : decode cX9_tune 63 = .ok (.goto 4, 3) := by decide +kernel
theorem dX9_tune_66 : decode cX9_tune 66 = .ok (.iload_n 3, 1) := by decide +kernel
theorem dX9_tune_67 : decode cX9_tune 67 = .ok (.iastore, 1) := by decide +kernel
theorem dX9_tune_68 : decode cX9_tune 68 = .ok (.iload 4, 2) := by decide +kernel
theorem dX9_tune_70 : decode cX9_tune 70 = .ok (.ireturn, 1) := by decide +kernel
theorem dX9_counts_0 : decode cX9_counts 0 = .ok (.iload_n 2, 1) := by decide +kernel
theorem dX9_counts_1 : decode cX9_counts 1 = .ok (.i2l, 1) := by decide +kernel
theorem dX9_counts_2 : decode cX9_counts 2 = .ok (.iload_n 3, 1) := by decide +kernel
theorem dX9_counts_3 : decode cX9_counts 3 = .ok (.i2l, 1) := by decide +kernel
theorem dX9_counts_4 : decode cX9_counts 4 = .ok (.lsub, 1) := by decide +kernel
theorem dX9_counts_5 : decode cX9_counts 5 = .ok (.ldc2_w 178, 3) := by decide +kernel
theorem dX9_counts_8 : decode cX9_counts 8 = .ok (.lconst 1, 1) := by decide +kernel
theorem dX9_counts_9 : decode cX9_counts 9 = .ok (.invokestatic 83, 3) := by decide +kernel
theorem dX9_counts_12 : decode cX9_counts 12 = .ok (.istore 4, 2) := by decide +kernel
theorem dX9_counts_14 : decode cX9_counts 14 = .ok (.aload_n 0, 1) := by decide +kernel
theorem dX9_counts_15 : decode cX9_counts 15 = .ok (.getfield 7, 3) := by decide +kernel
theorem dX9_counts_18 : decode cX9_counts 18 = .ok (.iload_n 1, 1) := by decide +kernel
theorem dX9_counts_19 : decode cX9_counts 19 = .ok (.iaload, 1) := by decide +kernel
theorem dX9_counts_20 : decode cX9_counts 20 = .ok (.ifCond .ne 16, 3) := by decide +kernel
theorem dX9_counts_23 : decode cX9_counts 23 = .ok (.iload_n 2, 1) := by decide +kernel
theorem dX9_counts_24 : decode cX9_counts 24 = .ok (.iload_n 3, 1) := by decide +kernel
theorem dX9_counts_25 : decode cX9_counts 25 = .ok (.if_icmp .ne 7, 3) := by decide +kernel
theorem dX9_counts_28 : decode cX9_counts 28 = .ok (.iconst 1, 1) := by decide +kernel
theorem dX9_counts_29 : decode cX9_counts 29 = .ok (.goto 49, 3) := by decide +kernel
theorem dX9_counts_32 : decode cX9_counts 32 = .ok (.iconst 0, 1) := by decide +kernel
theorem dX9_counts_33 : decode cX9_counts 33 = .ok (.goto 45, 3) := by decide +kernel
theorem dX9_counts_36 : decode cX9_counts 36 = .ok (.aload_n 0, 1) := by decide +kernel
theorem dX9_counts_37 : decode cX9_counts 37 = .ok (.getfield 7, 3) := by decide +kernel
theorem dX9_counts_40 : decode cX9_counts 40 = .ok (.iload_n 1, 1) := by decide +kernel
theorem dX9_counts_41 : decode cX9_counts 41 = .ok (.iaload, 1) := by decide +kernel
theorem dX9_counts_42 : decode cX9_counts 42 = .ok (.iconst 1, 1) := by decide +kernel
theorem dX9_counts_43 : decode cX9_counts 43 = .ok (.if_icmp .ne 16, 3) := by decide +kernel
theorem dX9_counts_46 : decode cX9_counts 46 = .ok (.iload 4, 2) := by decide +kernel
theorem dX9_counts_48 : decode cX9_counts 48 = .ok (.ifCond .eq 7, 3) := by decide +kernel
theorem dX9_counts_51 : decode cX9_counts 51 = .ok (.iconst 1, 1) := by decide +kernel
theorem dX9_counts_52 : decode cX9_counts 52 = .ok (.goto 26, 3) := by decide +kernel
theorem dX9_counts_55 : decode cX9_counts 55 = .ok (.iconst 0, 1) := by decide +kernel
theorem dX9_counts_56 : decode cX9_counts 56 = .ok (.goto 22, 3) := by decide +kernel
theorem dX9_counts_59 : decode cX9_counts 59 = .ok (.iload_n 2, 1) := by decide +kernel
theorem dX9_counts_60 : decode cX9_counts 60 = .ok (.iload_n 3, 1) := by decide +kernel
theorem dX9_counts_61 : decode cX9_counts 61 = .ok (.if_icmp .ne 7, 3) := by decide +kernel
theorem dX9_counts_64 : decode cX9_counts 64 = .ok (.iconst 2, 1) := by decide +kernel
theorem dX9_counts_65 : decode cX9_counts 65 = .ok (.goto 13, 3) := by decide +kernel
theorem dX9_counts_68 : decode cX9_counts 68 = .ok (.iload 4, 2) := by decide +kernel
theorem dX9_counts_70 : decode cX9_counts 70 = .ok (.ifCond .eq 7, 3) := by decide +kernel
theorem dX9_counts_73 : decode cX9_counts 73 = .ok (.iconst 1, 1) := by decide +kernel
theorem dX9_counts_74 : decode cX9_counts 74 = .ok (.goto 4, 3) := by decide +kernel
theorem dX9_counts_77 : decode cX9_counts 77 = .ok (.iconst 0, 1) := by decide +kernel
theorem dX9_counts_78 : decode cX9_counts 78 = .ok (.ireturn, 1) := by decide +kernel
theorem dX9_heardBy_0 : decode cX9_heardBy 0 = .ok (.iconst 0, 1) := by decide +kernel
theorem dX9_heardBy_1 : decode cX9_heardBy 1 = .ok (.istore 5, 2) := by decide +kernel
theorem dX9_heardBy_3 : decode cX9_heardBy 3 = .ok (.iconst 0, 1) := by decide +kernel
theorem dX9_heardBy_4 : decode cX9_heardBy 4 = .ok (.istore 6, 2) := by decide +kernel
theorem dX9_heardBy_6 : decode cX9_heardBy 6 = .ok (.iload 6, 2) := by decide +kernel
theorem dX9_heardBy_8 : decode cX9_heardBy 8 = .ok (.aload_n 0, 1) := by decide +kernel
theorem dX9_heardBy_9 : decode cX9_heardBy 9 = .ok (.getfield 87, 3) := by decide +kernel
theorem dX9_heardBy_12 : decode cX9_heardBy 12 = .ok (.if_icmp .ge 87, 3) := by decide +kernel
theorem dX9_heardBy_15 : decode cX9_heardBy 15 = .ok (.aload_n 0, 1) := by decide +kernel
theorem dX9_heardBy_16 : decode cX9_heardBy 16 = .ok (.iload 6, 2) := by decide +kernel
theorem dX9_heardBy_18 : decode cX9_heardBy 18 = .ok (.iload_n 3, 1) := by decide +kernel
theorem dX9_heardBy_19 : decode cX9_heardBy 19 = .ok (.iadd, 1) := by decide +kernel
theorem dX9_heardBy_20 : decode cX9_heardBy 20 = .ok (.invokevirtual 172, 3) := by decide +kernel
theorem dX9_heardBy_23 : decode cX9_heardBy 23 = .ok (.ifCond .ne 29, 3) := by decide +kernel
theorem dX9_heardBy_26 : decode cX9_heardBy 26 = .ok (.aload_n 0, 1) := by decide +kernel
theorem dX9_heardBy_27 : decode cX9_heardBy 27 = .ok (.iload_n 2, 1) := by decide +kernel
theorem dX9_heardBy_28 : decode cX9_heardBy 28 = .ok (.iload 6, 2) := by decide +kernel
theorem dX9_heardBy_30 : decode cX9_heardBy 30 = .ok (.invokevirtual 145, 3) := by decide +kernel
theorem dX9_heardBy_33 : decode cX9_heardBy 33 = .ok (.ifCond .lt 19, 3) := by decide +kernel
theorem dX9_heardBy_36 : decode cX9_heardBy 36 = .ok (.aload_n 0, 1) := by decide +kernel
theorem dX9_heardBy_37 : decode cX9_heardBy 37 = .ok (.iload_n 1, 1) := by decide +kernel
theorem dX9_heardBy_38 : decode cX9_heardBy 38 = .ok (.iload 6, 2) := by decide +kernel
theorem dX9_heardBy_40 : decode cX9_heardBy 40 = .ok (.iload_n 3, 1) := by decide +kernel
theorem dX9_heardBy_41 : decode cX9_heardBy 41 = .ok (.iadd, 1) := by decide +kernel
theorem dX9_heardBy_42 : decode cX9_heardBy 42 = .ok (.invokevirtual 145, 3) := by decide +kernel
theorem dX9_heardBy_45 : decode cX9_heardBy 45 = .ok (.ifCond .lt 7, 3) := by decide +kernel
theorem dX9_heardBy_48 : decode cX9_heardBy 48 = .ok (.iconst 1, 1) := by decide +kernel
theorem dX9_heardBy_49 : decode cX9_heardBy 49 = .ok (.goto 4, 3) := by decide +kernel
theorem dX9_heardBy_52 : decode cX9_heardBy 52 = .ok (.iconst 0, 1) := by decide +kernel
theorem dX9_heardBy_53 : decode cX9_heardBy 53 = .ok (.istore 7, 2) := by decide +kernel
theorem dX9_heardBy_55 : decode cX9_heardBy 55 = .ok (.iload 5, 2) := by decide +kernel
theorem dX9_heardBy_57 : decode cX9_heardBy 57 = .ok (.iload 7, 2) := by decide +kernel
theorem dX9_heardBy_59 : decode cX9_heardBy 59 = .ok (.ifCond .eq 30, 3) := by decide +kernel
theorem dX9_heardBy_62 : decode cX9_heardBy 62 = .ok (.aload_n 0, 1) := by decide +kernel
theorem dX9_heardBy_63 : decode cX9_heardBy 63 = .ok (.iload_n 1, 1) := by decide +kernel
theorem dX9_heardBy_64 : decode cX9_heardBy 64 = .ok (.aload_n 0, 1) := by decide +kernel
theorem dX9_heardBy_65 : decode cX9_heardBy 65 = .ok (.iload_n 1, 1) := by decide +kernel
theorem dX9_heardBy_66 : decode cX9_heardBy 66 = .ok (.iload 6, 2) := by decide +kernel
theorem dX9_heardBy_68 : decode cX9_heardBy 68 = .ok (.iload_n 3, 1) := by decide +kernel
theorem dX9_heardBy_69 : decode cX9_heardBy 69 = .ok (.iadd, 1) := by decide +kernel
theorem dX9_heardBy_70 : decode cX9_heardBy 70 = .ok (.invokevirtual 145, 3) := by decide +kernel
theorem dX9_heardBy_73 : decode cX9_heardBy 73 = .ok (.aload_n 0, 1) := by decide +kernel
theorem dX9_heardBy_74 : decode cX9_heardBy 74 = .ok (.iload_n 2, 1) := by decide +kernel
theorem dX9_heardBy_75 : decode cX9_heardBy 75 = .ok (.iload 6, 2) := by decide +kernel
theorem dX9_heardBy_77 : decode cX9_heardBy 77 = .ok (.invokevirtual 145, 3) := by decide +kernel
theorem dX9_heardBy_80 : decode cX9_heardBy 80 = .ok (.iload 4, 2) := by decide +kernel
theorem dX9_heardBy_82 : decode cX9_heardBy 82 = .ok (.iadd, 1) := by decide +kernel
theorem dX9_heardBy_83 : decode cX9_heardBy 83 = .ok (.invokevirtual 180, 3) := by decide +kernel
theorem dX9_heardBy_86 : decode cX9_heardBy 86 = .ok (.goto 4, 3) := by decide +kernel
theorem dX9_heardBy_89 : decode cX9_heardBy 89 = .ok (.iconst 0, 1) := by decide +kernel
theorem dX9_heardBy_90 : decode cX9_heardBy 90 = .ok (.iadd, 1) := by decide +kernel
theorem dX9_heardBy_91 : decode cX9_heardBy 91 = .ok (.istore 5, 2) := by decide +kernel
theorem dX9_heardBy_93 : decode cX9_heardBy 93 = .ok (.iinc 6 1, 3) := by decide +kernel
theorem dX9_heardBy_96 : decode cX9_heardBy 96 = .ok (.goto (-90), 3) := by decide +kernel
theorem dX9_heardBy_99 : decode cX9_heardBy 99 = .ok (.iload 5, 2) := by decide +kernel
theorem dX9_heardBy_101 : decode cX9_heardBy 101 = .ok (.ireturn, 1) := by decide +kernel
theorem dX9_isShift_0 : decode cX9_isShift 0 = .ok (.iload_n 0, 1) := by decide +kernel
theorem dX9_isShift_1 : decode cX9_isShift 1 = .ok (.i2l, 1) := by decide +kernel
theorem dX9_isShift_2 : decode cX9_isShift 2 = .ok (.ldc2_w 184, 3) := by decide +kernel
theorem dX9_isShift_5 : decode cX9_isShift 5 = .ok (.ldc2_w 186, 3) := by decide +kernel
theorem dX9_isShift_8 : decode cX9_isShift 8 = .ok (.invokestatic 83, 3) := by decide +kernel
theorem dX9_isShift_11 : decode cX9_isShift 11 = .ok (.ireturn, 1) := by decide +kernel
theorem dX9_hears_0 : decode cX9_hears 0 = .ok (.aload_n 0, 1) := by decide +kernel
theorem dX9_hears_1 : decode cX9_hears 1 = .ok (.iload_n 1, 1) := by decide +kernel
theorem dX9_hears_2 : decode cX9_hears 2 = .ok (.invokevirtual 165, 3) := by decide +kernel
theorem dX9_hears_5 : decode cX9_hears 5 = .ok (.ifCond .ne 11, 3) := by decide +kernel
theorem dX9_hears_8 : decode cX9_hears 8 = .ok (.aload_n 0, 1) := by decide +kernel
theorem dX9_hears_9 : decode cX9_hears 9 = .ok (.iload_n 2, 1) := by decide +kernel
theorem dX9_hears_10 : decode cX9_hears 10 = .ok (.invokevirtual 165, 3) := by decide +kernel
theorem dX9_hears_13 : decode cX9_hears 13 = .ok (.ifCond .eq 5, 3) := by decide +kernel
theorem dX9_hears_16 : decode cX9_hears 16 = .ok (.iconst (-1), 1) := by decide +kernel
theorem dX9_hears_17 : decode cX9_hears 17 = .ok (.ireturn, 1) := by decide +kernel
theorem dX9_hears_18 : decode cX9_hears 18 = .ok (.iload_n 3, 1) := by decide +kernel
theorem dX9_hears_19 : decode cX9_hears 19 = .ok (.invokestatic 188, 3) := by decide +kernel
theorem dX9_hears_22 : decode cX9_hears 22 = .ok (.ifCond .eq 23, 3) := by decide +kernel
theorem dX9_hears_25 : decode cX9_hears 25 = .ok (.iload 4, 2) := by decide +kernel
theorem dX9_hears_27 : decode cX9_hears 27 = .ok (.invokestatic 188, 3) := by decide +kernel
theorem dX9_hears_30 : decode cX9_hears 30 = .ok (.ifCond .eq 15, 3) := by decide +kernel
theorem dX9_hears_33 : decode cX9_hears 33 = .ok (.aload_n 0, 1) := by decide +kernel
theorem dX9_hears_34 : decode cX9_hears 34 = .ok (.iload_n 1, 1) := by decide +kernel
theorem dX9_hears_35 : decode cX9_hears 35 = .ok (.iload_n 2, 1) := by decide +kernel
theorem dX9_hears_36 : decode cX9_hears 36 = .ok (.iload_n 3, 1) := by decide +kernel
theorem dX9_hears_37 : decode cX9_hears 37 = .ok (.iload 4, 2) := by decide +kernel
theorem dX9_hears_39 : decode cX9_hears 39 = .ok (.invokevirtual 191, 3) := by decide +kernel
theorem dX9_hears_42 : decode cX9_hears 42 = .ok (.goto 5, 3) := by decide +kernel
theorem dX9_hears_45 : decode cX9_hears 45 = .ok (.bipush (-2), 2) := by decide +kernel
theorem dX9_hears_47 : decode cX9_hears 47 = .ok (.ireturn, 1) := by decide +kernel
theorem dX9_sends_0 : decode cX9_sends 0 = .ok (.aload_n 0, 1) := by decide +kernel
theorem dX9_sends_1 : decode cX9_sends 1 = .ok (.getfield 139, 3) := by decide +kernel
theorem dX9_sends_4 : decode cX9_sends 4 = .ok (.bipush 8, 2) := by decide +kernel
theorem dX9_sends_6 : decode cX9_sends 6 = .ok (.if_icmp .ne 5, 3) := by decide +kernel
theorem dX9_sends_9 : decode cX9_sends 9 = .ok (.iconst 0, 1) := by decide +kernel
theorem dX9_sends_10 : decode cX9_sends 10 = .ok (.ireturn, 1) := by decide +kernel
theorem dX9_sends_11 : decode cX9_sends 11 = .ok (.aload_n 0, 1) := by decide +kernel
theorem dX9_sends_12 : decode cX9_sends 12 = .ok (.getfield 25, 3) := by decide +kernel
theorem dX9_sends_15 : decode cX9_sends 15 = .ok (.aload_n 0, 1) := by decide +kernel
theorem dX9_sends_16 : decode cX9_sends 16 = .ok (.getfield 139, 3) := by decide +kernel
theorem dX9_sends_19 : decode cX9_sends 19 = .ok (.iload_n 1, 1) := by decide +kernel
theorem dX9_sends_20 : decode cX9_sends 20 = .ok (.iastore, 1) := by decide +kernel
theorem dX9_sends_21 : decode cX9_sends 21 = .ok (.aload_n 0, 1) := by decide +kernel
theorem dX9_sends_22 : decode cX9_sends 22 = .ok (.getfield 28, 3) := by decide +kernel
theorem dX9_sends_25 : decode cX9_sends 25 = .ok (.aload_n 0, 1) := by decide +kernel
theorem dX9_sends_26 : decode cX9_sends 26 = .ok (.getfield 139, 3) := by decide +kernel
theorem dX9_sends_29 : decode cX9_sends 29 = .ok (.iload_n 2, 1) := by decide +kernel
theorem dX9_sends_30 : decode cX9_sends 30 = .ok (.iastore, 1) := by decide +kernel
theorem dX9_sends_31 : decode cX9_sends 31 = .ok (.aload_n 0, 1) := by decide +kernel
theorem dX9_sends_32 : decode cX9_sends 32 = .ok (.getfield 31, 3) := by decide +kernel
theorem dX9_sends_35 : decode cX9_sends 35 = .ok (.aload_n 0, 1) := by decide +kernel
theorem dX9_sends_36 : decode cX9_sends 36 = .ok (.getfield 139, 3) := by decide +kernel
theorem dX9_sends_39 : decode cX9_sends 39 = .ok (.iload_n 3, 1) := by decide +kernel
theorem dX9_sends_40 : decode cX9_sends 40 = .ok (.iastore, 1) := by decide +kernel
theorem dX9_sends_41 : decode cX9_sends 41 = .ok (.aload_n 0, 1) := by decide +kernel
theorem dX9_sends_42 : decode cX9_sends 42 = .ok (.dup, 1) := by decide +kernel
theorem dX9_sends_43 : decode cX9_sends 43 = .ok (.getfield 139, 3) := by decide +kernel
theorem dX9_sends_46 : decode cX9_sends 46 = .ok (.iconst 1, 1) := by decide +kernel
theorem dX9_sends_47 : decode cX9_sends 47 = .ok (.iadd, 1) := by decide +kernel
theorem dX9_sends_48 : decode cX9_sends 48 = .ok (.putfield 139, 3) := by decide +kernel
theorem dX9_sends_51 : decode cX9_sends 51 = .ok (.iconst 1, 1) := by decide +kernel
theorem dX9_sends_52 : decode cX9_sends 52 = .ok (.ireturn, 1) := by decide +kernel
theorem dX9_send_0 : decode cX9_send 0 = .ok (.aload_n 0, 1) := by decide +kernel
theorem dX9_send_1 : decode cX9_send 1 = .ok (.iload_n 1, 1) := by decide +kernel
theorem dX9_send_2 : decode cX9_send 2 = .ok (.invokevirtual 165, 3) := by decide +kernel
theorem dX9_send_5 : decode cX9_send 5 = .ok (.ifCond .eq 5, 3) := by decide +kernel
theorem dX9_send_8 : decode cX9_send 8 = .ok (.iconst (-1), 1) := by decide +kernel
theorem dX9_send_9 : decode cX9_send 9 = .ok (.ireturn, 1) := by decide +kernel
theorem dX9_send_10 : decode cX9_send 10 = .ok (.iload_n 2, 1) := by decide +kernel
theorem dX9_send_11 : decode cX9_send 11 = .ok (.i2l, 1) := by decide +kernel
theorem dX9_send_12 : decode cX9_send 12 = .ok (.lconst 0, 1) := by decide +kernel
theorem dX9_send_13 : decode cX9_send 13 = .ok (.ldc2_w 195, 3) := by decide +kernel
theorem dX9_send_16 : decode cX9_send 16 = .ok (.invokestatic 83, 3) := by decide +kernel
theorem dX9_send_19 : decode cX9_send 19 = .ok (.ifCond .eq 15, 3) := by decide +kernel
theorem dX9_send_22 : decode cX9_send 22 = .ok (.iload_n 3, 1) := by decide +kernel
theorem dX9_send_23 : decode cX9_send 23 = .ok (.i2l, 1) := by decide +kernel
theorem dX9_send_24 : decode cX9_send 24 = .ok (.lconst 0, 1) := by decide +kernel
theorem dX9_send_25 : decode cX9_send 25 = .ok (.ldc2_w 186, 3) := by decide +kernel
theorem dX9_send_28 : decode cX9_send 28 = .ok (.invokestatic 83, 3) := by decide +kernel
theorem dX9_send_31 : decode cX9_send 31 = .ok (.ifCond .ne 6, 3) := by decide +kernel
theorem dX9_send_34 : decode cX9_send 34 = .ok (.bipush (-2), 2) := by decide +kernel
theorem dX9_send_36 : decode cX9_send 36 = .ok (.ireturn, 1) := by decide +kernel
theorem dX9_send_37 : decode cX9_send 37 = .ok (.aload_n 0, 1) := by decide +kernel
theorem dX9_send_38 : decode cX9_send 38 = .ok (.iload_n 1, 1) := by decide +kernel
theorem dX9_send_39 : decode cX9_send 39 = .ok (.iload_n 2, 1) := by decide +kernel
theorem dX9_send_40 : decode cX9_send 40 = .ok (.iload_n 3, 1) := by decide +kernel
theorem dX9_send_41 : decode cX9_send 41 = .ok (.invokevirtual 197, 3) := by decide +kernel
theorem dX9_send_44 : decode cX9_send 44 = .ok (.ifCond .eq 12, 3) := by decide +kernel
theorem dX9_send_47 : decode cX9_send 47 = .ok (.aload_n 0, 1) := by decide +kernel
theorem dX9_send_48 : decode cX9_send 48 = .ok (.getfield 139, 3) := by decide +kernel
theorem dX9_send_51 : decode cX9_send 51 = .ok (.iconst 1, 1) := by decide +kernel
theorem dX9_send_52 : decode cX9_send 52 = .ok (.isub, 1) := by decide +kernel
theorem dX9_send_53 : decode cX9_send 53 = .ok (.goto 5, 3) := by decide +kernel
theorem dX9_send_56 : decode cX9_send 56 = .ok (.bipush (-4), 2) := by decide +kernel
theorem dX9_send_58 : decode cX9_send 58 = .ok (.ireturn, 1) := by decide +kernel
theorem dX9_unsend_0 : decode cX9_unsend 0 = .ok (.iload_n 1, 1) := by decide +kernel
theorem dX9_unsend_1 : decode cX9_unsend 1 = .ok (.i2l, 1) := by decide +kernel
theorem dX9_unsend_2 : decode cX9_unsend 2 = .ok (.lconst 0, 1) := by decide +kernel
theorem dX9_unsend_3 : decode cX9_unsend 3 = .ok (.aload_n 0, 1) := by decide +kernel
theorem dX9_unsend_4 : decode cX9_unsend 4 = .ok (.getfield 139, 3) := by decide +kernel
theorem dX9_unsend_7 : decode cX9_unsend 7 = .ok (.i2l, 1) := by decide +kernel
theorem dX9_unsend_8 : decode cX9_unsend 8 = .ok (.invokestatic 83, 3) := by decide +kernel
theorem dX9_unsend_11 : decode cX9_unsend 11 = .ok (.ifCond .ne 6, 3) := by decide +kernel
theorem dX9_unsend_14 : decode cX9_unsend 14 = .ok (.bipush (-2), 2) := by decide +kernel
theorem dX9_unsend_16 : decode cX9_unsend 16 = .ok (.ireturn, 1) := by decide +kernel
theorem dX9_unsend_17 : decode cX9_unsend 17 = .ok (.aload_n 0, 1) := by decide +kernel
theorem dX9_unsend_18 : decode cX9_unsend 18 = .ok (.dup, 1) := by decide +kernel
theorem dX9_unsend_19 : decode cX9_unsend 19 = .ok (.getfield 139, 3) := by decide +kernel
theorem dX9_unsend_22 : decode cX9_unsend 22 = .ok (.iload_n 1, 1) := by decide +kernel
theorem dX9_unsend_23 : decode cX9_unsend 23 = .ok (.isub, 1) := by decide +kernel
theorem dX9_unsend_24 : decode cX9_unsend 24 = .ok (.putfield 139, 3) := by decide +kernel
theorem dX9_unsend_27 : decode cX9_unsend 27 = .ok (.aload_n 0, 1) := by decide +kernel
theorem dX9_unsend_28 : decode cX9_unsend 28 = .ok (.getfield 139, 3) := by decide +kernel
theorem dX9_unsend_31 : decode cX9_unsend 31 = .ok (.ireturn, 1) := by decide +kernel
theorem dX9_isMoment_0 : decode cX9_isMoment 0 = .ok (.iload_n 0, 1) := by decide +kernel
theorem dX9_isMoment_1 : decode cX9_isMoment 1 = .ok (.i2l, 1) := by decide +kernel
theorem dX9_isMoment_2 : decode cX9_isMoment 2 = .ok (.lconst 0, 1) := by decide +kernel
theorem dX9_isMoment_3 : decode cX9_isMoment 3 = .ok (.ldc2_w 200, 3) := by decide +kernel
theorem dX9_isMoment_6 : decode cX9_isMoment 6 = .ok (.invokestatic 83, 3) := by decide +kernel
theorem dX9_isMoment_9 : decode cX9_isMoment 9 = .ok (.ireturn, 1) := by decide +kernel
theorem dX9_airOf_0 : decode cX9_airOf 0 = .ok (.iconst 0, 1) := by decide +kernel
theorem dX9_airOf_1 : decode cX9_airOf 1 = .ok (.istore_n 2, 1) := by decide +kernel
theorem dX9_airOf_2 : decode cX9_airOf 2 = .ok (.iconst 0, 1) := by decide +kernel
theorem dX9_airOf_3 : decode cX9_airOf 3 = .ok (.istore_n 3, 1) := by decide +kernel
theorem dX9_airOf_4 : decode cX9_airOf 4 = .ok (.iload_n 3, 1) := by decide +kernel
theorem dX9_airOf_5 : decode cX9_airOf 5 = .ok (.aload_n 0, 1) := by decide +kernel
theorem dX9_airOf_6 : decode cX9_airOf 6 = .ok (.getfield 139, 3) := by decide +kernel
theorem dX9_airOf_9 : decode cX9_airOf 9 = .ok (.if_icmp .ge 71, 3) := by decide +kernel
theorem dX9_airOf_12 : decode cX9_airOf 12 = .ok (.iload_n 1, 1) := by decide +kernel
theorem dX9_airOf_13 : decode cX9_airOf 13 = .ok (.aload_n 0, 1) := by decide +kernel
theorem dX9_airOf_14 : decode cX9_airOf 14 = .ok (.getfield 28, 3) := by decide +kernel
theorem dX9_airOf_17 : decode cX9_airOf 17 = .ok (.iload_n 3, 1) := by decide +kernel
theorem dX9_airOf_18 : decode cX9_airOf 18 = .ok (.iaload, 1) := by decide +kernel
theorem dX9_airOf_19 : decode cX9_airOf 19 = .ok (.isub, 1) := by decide +kernel
theorem dX9_airOf_20 : decode cX9_airOf 20 = .ok (.istore 4, 2) := by decide +kernel
theorem dX9_airOf_22 : decode cX9_airOf 22 = .ok (.iload_n 2, 1) := by decide +kernel
theorem dX9_airOf_23 : decode cX9_airOf 23 = .ok (.aload_n 0, 1) := by decide +kernel
theorem dX9_airOf_24 : decode cX9_airOf 24 = .ok (.iload 4, 2) := by decide +kernel
theorem dX9_airOf_26 : decode cX9_airOf 26 = .ok (.invokevirtual 172, 3) := by decide +kernel
theorem dX9_airOf_29 : decode cX9_airOf 29 = .ok (.ifCond .ne 42, 3) := by decide +kernel
theorem dX9_airOf_32 : decode cX9_airOf 32 = .ok (.aload_n 0, 1) := by decide +kernel
theorem dX9_airOf_33 : decode cX9_airOf 33 = .ok (.aload_n 0, 1) := by decide +kernel
theorem dX9_airOf_34 : decode cX9_airOf 34 = .ok (.getfield 25, 3) := by decide +kernel
theorem dX9_airOf_37 : decode cX9_airOf 37 = .ok (.iload_n 3, 1) := by decide +kernel
theorem dX9_airOf_38 : decode cX9_airOf 38 = .ok (.iaload, 1) := by decide +kernel
theorem dX9_airOf_39 : decode cX9_airOf 39 = .ok (.iload 4, 2) := by decide +kernel
theorem dX9_airOf_41 : decode cX9_airOf 41 = .ok (.invokevirtual 145, 3) := by decide +kernel
theorem dX9_airOf_44 : decode cX9_airOf 44 = .ok (.ifCond .lt 27, 3) := by decide +kernel
theorem dX9_airOf_47 : decode cX9_airOf 47 = .ok (.iconst 1, 1) := by decide +kernel
theorem dX9_airOf_48 : decode cX9_airOf 48 = .ok (.aload_n 0, 1) := by decide +kernel
theorem dX9_airOf_49 : decode cX9_airOf 49 = .ok (.aload_n 0, 1) := by decide +kernel
theorem dX9_airOf_50 : decode cX9_airOf 50 = .ok (.getfield 25, 3) := by decide +kernel
theorem dX9_airOf_53 : decode cX9_airOf 53 = .ok (.iload_n 3, 1) := by decide +kernel
theorem dX9_airOf_54 : decode cX9_airOf 54 = .ok (.iaload, 1) := by decide +kernel
theorem dX9_airOf_55 : decode cX9_airOf 55 = .ok (.iload 4, 2) := by decide +kernel
theorem dX9_airOf_57 : decode cX9_airOf 57 = .ok (.invokevirtual 145, 3) := by decide +kernel
theorem dX9_airOf_60 : decode cX9_airOf 60 = .ok (.aload_n 0, 1) := by decide +kernel
theorem dX9_airOf_61 : decode cX9_airOf 61 = .ok (.getfield 31, 3) := by decide +kernel
theorem dX9_airOf_64 : decode cX9_airOf 64 = .ok (.iload_n 3, 1) := by decide +kernel
theorem dX9_airOf_65 : decode cX9_airOf 65 = .ok (.iaload, 1) := by decide +kernel
theorem dX9_airOf_66 : decode cX9_airOf 66 = .ok (.iadd, 1) := by decide +kernel
theorem dX9_airOf_67 : decode cX9_airOf 67 = .ok (.ishl, 1) := by decide +kernel
theorem dX9_airOf_68 : decode cX9_airOf 68 = .ok (.goto 4, 3) := by decide +kernel
theorem dX9_airOf_71 : decode cX9_airOf 71 = .ok (.iconst 0, 1) := by decide +kernel
theorem dX9_airOf_72 : decode cX9_airOf 72 = .ok (.ior, 1) := by decide +kernel
theorem dX9_airOf_73 : decode cX9_airOf 73 = .ok (.istore_n 2, 1) := by decide +kernel
theorem dX9_airOf_74 : decode cX9_airOf 74 = .ok (.iinc 3 1, 3) := by decide +kernel
theorem dX9_airOf_77 : decode cX9_airOf 77 = .ok (.goto (-73), 3) := by decide +kernel
theorem dX9_airOf_80 : decode cX9_airOf 80 = .ok (.iload_n 2, 1) := by decide +kernel
theorem dX9_airOf_81 : decode cX9_airOf 81 = .ok (.ireturn, 1) := by decide +kernel
theorem dX9_air_0 : decode cX9_air 0 = .ok (.iload_n 1, 1) := by decide +kernel
theorem dX9_air_1 : decode cX9_air 1 = .ok (.invokestatic 202, 3) := by decide +kernel
theorem dX9_air_4 : decode cX9_air 4 = .ok (.ifCond .ne 6, 3) := by decide +kernel
theorem dX9_air_7 : decode cX9_air 7 = .ok (.bipush (-2), 2) := by decide +kernel
theorem dX9_air_9 : decode cX9_air 9 = .ok (.ireturn, 1) := by decide +kernel
theorem dX9_air_10 : decode cX9_air 10 = .ok (.aload_n 0, 1) := by decide +kernel
theorem dX9_air_11 : decode cX9_air 11 = .ok (.getfield 80, 3) := by decide +kernel
theorem dX9_air_14 : decode cX9_air 14 = .ok (.ifCond .ne 8, 3) := by decide +kernel
theorem dX9_air_17 : decode cX9_air 17 = .ok (.bipush (-3), 2) := by decide +kernel
theorem dX9_air_19 : decode cX9_air 19 = .ok (.goto 8, 3) := by decide +kernel
theorem dX9_air_22 : decode cX9_air 22 = .ok (.aload_n 0, 1) := by decide +kernel
theorem dX9_air_23 : decode cX9_air 23 = .ok (.iload_n 1, 1) := by decide +kernel
theorem dX9_air_24 : decode cX9_air 24 = .ok (.invokevirtual 205, 3) := by decide +kernel
theorem dX9_air_27 : decode cX9_air 27 = .ok (.ireturn, 1) := by decide +kernel
theorem dX9_countsOfAll_0 : decode cX9_countsOfAll 0 = .ok (.iconst 0, 1) := by decide +kernel
theorem dX9_countsOfAll_1 : decode cX9_countsOfAll 1 = .ok (.istore 4, 2) := by decide +kernel
theorem dX9_countsOfAll_3 : decode cX9_countsOfAll 3 = .ok (.iconst 0, 1) := by decide +kernel
theorem dX9_countsOfAll_4 : decode cX9_countsOfAll 4 = .ok (.istore 5, 2) := by decide +kernel
theorem dX9_countsOfAll_6 : decode cX9_countsOfAll 6 = .ok (.iload 5, 2) := by decide +kernel
theorem dX9_countsOfAll_8 : decode cX9_countsOfAll 8 = .ok (.bipush 12, 2) := by decide +kernel
theorem dX9_countsOfAll_10 : decode cX9_countsOfAll 10 = .ok (.if_icmp .ge 49, 3) := by decide +kernel
theorem dX9_countsOfAll_13 : decode cX9_countsOfAll 13 = .ok (.iload_n 3, 1) := by decide +kernel
theorem dX9_countsOfAll_14 : decode cX9_countsOfAll 14 = .ok (.iload 5, 2) := by decide +kernel
theorem dX9_countsOfAll_16 : decode cX9_countsOfAll 16 = .ok (.ishr, 1) := by decide +kernel
theorem dX9_countsOfAll_17 : decode cX9_countsOfAll 17 = .ok (.iconst 1, 1) := by decide +kernel
theorem dX9_countsOfAll_18 : decode cX9_countsOfAll 18 = .ok (.iand, 1) := by decide +kernel
theorem dX9_countsOfAll_19 : decode cX9_countsOfAll 19 = .ok (.iconst 1, 1) := by decide +kernel
theorem dX9_countsOfAll_20 : decode cX9_countsOfAll 20 = .ok (.if_icmp .ne 14, 3) := by decide +kernel
theorem dX9_countsOfAll_23 : decode cX9_countsOfAll 23 = .ok (.aload_n 0, 1) := by decide +kernel
theorem dX9_countsOfAll_24 : decode cX9_countsOfAll 24 = .ok (.iload_n 1, 1) := by decide +kernel
theorem dX9_countsOfAll_25 : decode cX9_countsOfAll 25 = .ok (.iload_n 2, 1) := by decide +kernel
theorem dX9_countsOfAll_26 : decode cX9_countsOfAll 26 = .ok (.iload 5, 2) := by decide +kernel
theorem dX9_countsOfAll_28 : decode cX9_countsOfAll 28 = .ok (.invokevirtual 180, 3) := by decide +kernel
theorem dX9_countsOfAll_31 : decode cX9_countsOfAll 31 = .ok (.goto 4, 3) := by decide +kernel
theorem dX9_countsOfAll_34 : decode cX9_countsOfAll 34 = .ok (.iconst 0, 1) := by decide +kernel
theorem dX9_countsOfAll_35 : decode cX9_countsOfAll 35 = .ok (.istore 6, 2) := by decide +kernel
theorem dX9_countsOfAll_37 : decode cX9_countsOfAll 37 = .ok (.iload 6, 2) := by decide +kernel
theorem dX9_countsOfAll_39 : decode cX9_countsOfAll 39 = .ok (.iload 4, 2) := by decide +kernel
theorem dX9_countsOfAll_41 : decode cX9_countsOfAll 41 = .ok (.if_icmp .le 8, 3) := by decide +kernel
theorem dX9_countsOfAll_44 : decode cX9_countsOfAll 44 = .ok (.iload 6, 2) := by decide +kernel
theorem dX9_countsOfAll_46 : decode cX9_countsOfAll 46 = .ok (.goto 5, 3) := by decide +kernel
theorem dX9_countsOfAll_49 : decode cX9_countsOfAll 49 = .ok (.iload 4, 2) := by decide +kernel
theorem dX9_countsOfAll_51 : decode cX9_countsOfAll 51 = .ok (.istore 4, 2) := by decide +kernel
theorem dX9_countsOfAll_53 : decode cX9_countsOfAll 53 = .ok (.iinc 5 1, 3) := by decide +kernel
theorem dX9_countsOfAll_56 : decode cX9_countsOfAll 56 = .ok (.goto (-50), 3) := by decide +kernel
theorem dX9_countsOfAll_59 : decode cX9_countsOfAll 59 = .ok (.iload 4, 2) := by decide +kernel
theorem dX9_countsOfAll_61 : decode cX9_countsOfAll 61 = .ok (.ireturn, 1) := by decide +kernel
theorem dX9_listensTo_0 : decode cX9_listensTo 0 = .ok (.iconst 0, 1) := by decide +kernel
theorem dX9_listensTo_1 : decode cX9_listensTo 1 = .ok (.istore_n 3, 1) := by decide +kernel
theorem dX9_listensTo_2 : decode cX9_listensTo 2 = .ok (.iconst 0, 1) := by decide +kernel
theorem dX9_listensTo_3 : decode cX9_listensTo 3 = .ok (.istore 4, 2) := by decide +kernel
theorem dX9_listensTo_5 : decode cX9_listensTo 5 = .ok (.iload 4, 2) := by decide +kernel
theorem dX9_listensTo_7 : decode cX9_listensTo 7 = .ok (.aload_n 0, 1) := by decide +kernel
theorem dX9_listensTo_8 : decode cX9_listensTo 8 = .ok (.getfield 87, 3) := by decide +kernel
theorem dX9_listensTo_11 : decode cX9_listensTo 11 = .ok (.if_icmp .ge 56, 3) := by decide +kernel
theorem dX9_listensTo_14 : decode cX9_listensTo 14 = .ok (.iload_n 3, 1) := by decide +kernel
theorem dX9_listensTo_15 : decode cX9_listensTo 15 = .ok (.aload_n 0, 1) := by decide +kernel
theorem dX9_listensTo_16 : decode cX9_listensTo 16 = .ok (.iload_n 1, 1) := by decide +kernel
theorem dX9_listensTo_17 : decode cX9_listensTo 17 = .ok (.iload 4, 2) := by decide +kernel
theorem dX9_listensTo_19 : decode cX9_listensTo 19 = .ok (.invokevirtual 145, 3) := by decide +kernel
theorem dX9_listensTo_22 : decode cX9_listensTo 22 = .ok (.ifCond .lt 13, 3) := by decide +kernel
theorem dX9_listensTo_25 : decode cX9_listensTo 25 = .ok (.iload_n 2, 1) := by decide +kernel
theorem dX9_listensTo_26 : decode cX9_listensTo 26 = .ok (.iload 4, 2) := by decide +kernel
theorem dX9_listensTo_28 : decode cX9_listensTo 28 = .ok (.iadd, 1) := by decide +kernel
theorem dX9_listensTo_29 : decode cX9_listensTo 29 = .ok (.invokestatic 202, 3) := by decide +kernel
theorem dX9_listensTo_32 : decode cX9_listensTo 32 = .ok (.ifCond .ne 7, 3) := by decide +kernel
theorem dX9_listensTo_35 : decode cX9_listensTo 35 = .ok (.iconst 0, 1) := by decide +kernel
theorem dX9_listensTo_36 : decode cX9_listensTo 36 = .ok (.goto 23, 3) := by decide +kernel
theorem dX9_listensTo_39 : decode cX9_listensTo 39 = .ok (.aload_n 0, 1) := by decide +kernel
theorem dX9_listensTo_40 : decode cX9_listensTo 40 = .ok (.iload_n 1, 1) := by decide +kernel
theorem dX9_listensTo_41 : decode cX9_listensTo 41 = .ok (.aload_n 0, 1) := by decide +kernel
theorem dX9_listensTo_42 : decode cX9_listensTo 42 = .ok (.iload_n 1, 1) := by decide +kernel
theorem dX9_listensTo_43 : decode cX9_listensTo 43 = .ok (.iload 4, 2) := by decide +kernel
theorem dX9_listensTo_45 : decode cX9_listensTo 45 = .ok (.invokevirtual 145, 3) := by decide +kernel
theorem dX9_listensTo_48 : decode cX9_listensTo 48 = .ok (.aload_n 0, 1) := by decide +kernel
theorem dX9_listensTo_49 : decode cX9_listensTo 49 = .ok (.iload_n 2, 1) := by decide +kernel
theorem dX9_listensTo_50 : decode cX9_listensTo 50 = .ok (.iload 4, 2) := by decide +kernel
theorem dX9_listensTo_52 : decode cX9_listensTo 52 = .ok (.iadd, 1) := by decide +kernel
theorem dX9_listensTo_53 : decode cX9_listensTo 53 = .ok (.invokevirtual 205, 3) := by decide +kernel
theorem dX9_listensTo_56 : decode cX9_listensTo 56 = .ok (.invokevirtual 208, 3) := by decide +kernel
theorem dX9_listensTo_59 : decode cX9_listensTo 59 = .ok (.iadd, 1) := by decide +kernel
theorem dX9_listensTo_60 : decode cX9_listensTo 60 = .ok (.istore_n 3, 1) := by decide +kernel
theorem dX9_listensTo_61 : decode cX9_listensTo 61 = .ok (.iinc 4 1, 3) := by decide +kernel
theorem dX9_listensTo_64 : decode cX9_listensTo 64 = .ok (.goto (-59), 3) := by decide +kernel
theorem dX9_listensTo_67 : decode cX9_listensTo 67 = .ok (.iload_n 3, 1) := by decide +kernel
theorem dX9_listensTo_68 : decode cX9_listensTo 68 = .ok (.ireturn, 1) := by decide +kernel
theorem dX9_listen_0 : decode cX9_listen 0 = .ok (.aload_n 0, 1) := by decide +kernel
theorem dX9_listen_1 : decode cX9_listen 1 = .ok (.iload_n 1, 1) := by decide +kernel
theorem dX9_listen_2 : decode cX9_listen 2 = .ok (.invokevirtual 165, 3) := by decide +kernel
theorem dX9_listen_5 : decode cX9_listen 5 = .ok (.ifCond .eq 5, 3) := by decide +kernel
theorem dX9_listen_8 : decode cX9_listen 8 = .ok (.iconst (-1), 1) := by decide +kernel
theorem dX9_listen_9 : decode cX9_listen 9 = .ok (.ireturn, 1) := by decide +kernel
theorem dX9_listen_10 : decode cX9_listen 10 = .ok (.iload_n 2, 1) := by decide +kernel
theorem dX9_listen_11 : decode cX9_listen 11 = .ok (.invokestatic 202, 3) := by decide +kernel
theorem dX9_listen_14 : decode cX9_listen 14 = .ok (.ifCond .eq 12, 3) := by decide +kernel
theorem dX9_listen_17 : decode cX9_listen 17 = .ok (.aload_n 0, 1) := by decide +kernel
theorem dX9_listen_18 : decode cX9_listen 18 = .ok (.iload_n 1, 1) := by decide +kernel
theorem dX9_listen_19 : decode cX9_listen 19 = .ok (.iload_n 2, 1) := by decide +kernel
theorem dX9_listen_20 : decode cX9_listen 20 = .ok (.invokevirtual 211, 3) := by decide +kernel
theorem dX9_listen_23 : decode cX9_listen 23 = .ok (.goto 5, 3) := by decide +kernel
theorem dX9_listen_26 : decode cX9_listen 26 = .ok (.bipush (-2), 2) := by decide +kernel
theorem dX9_listen_28 : decode cX9_listen 28 = .ok (.ireturn, 1) := by decide +kernel
theorem dX9_loudestOf_0 : decode cX9_loudestOf 0 = .ok (.iconst 0, 1) := by decide +kernel
theorem dX9_loudestOf_1 : decode cX9_loudestOf 1 = .ok (.istore_n 2, 1) := by decide +kernel
theorem dX9_loudestOf_2 : decode cX9_loudestOf 2 = .ok (.iconst 1, 1) := by decide +kernel
theorem dX9_loudestOf_3 : decode cX9_loudestOf 3 = .ok (.istore_n 3, 1) := by decide +kernel
theorem dX9_loudestOf_4 : decode cX9_loudestOf 4 = .ok (.iload_n 3, 1) := by decide +kernel
theorem dX9_loudestOf_5 : decode cX9_loudestOf 5 = .ok (.bipush 26, 2) := by decide +kernel
theorem dX9_loudestOf_7 : decode cX9_loudestOf 7 = .ok (.if_icmp .ge 30, 3) := by decide +kernel
theorem dX9_loudestOf_10 : decode cX9_loudestOf 10 = .ok (.aload_n 0, 1) := by decide +kernel
theorem dX9_loudestOf_11 : decode cX9_loudestOf 11 = .ok (.iload_n 1, 1) := by decide +kernel
theorem dX9_loudestOf_12 : decode cX9_loudestOf 12 = .ok (.iload_n 3, 1) := by decide +kernel
theorem dX9_loudestOf_13 : decode cX9_loudestOf 13 = .ok (.invokevirtual 211, 3) := by decide +kernel
theorem dX9_loudestOf_16 : decode cX9_loudestOf 16 = .ok (.aload_n 0, 1) := by decide +kernel
theorem dX9_loudestOf_17 : decode cX9_loudestOf 17 = .ok (.iload_n 1, 1) := by decide +kernel
theorem dX9_loudestOf_18 : decode cX9_loudestOf 18 = .ok (.iload_n 2, 1) := by decide +kernel
theorem dX9_loudestOf_19 : decode cX9_loudestOf 19 = .ok (.invokevirtual 211, 3) := by decide +kernel
theorem dX9_loudestOf_22 : decode cX9_loudestOf 22 = .ok (.if_icmp .le 7, 3) := by decide +kernel
theorem dX9_loudestOf_25 : decode cX9_loudestOf 25 = .ok (.iload_n 3, 1) := by decide +kernel
theorem dX9_loudestOf_26 : decode cX9_loudestOf 26 = .ok (.goto 4, 3) := by decide +kernel
theorem dX9_loudestOf_29 : decode cX9_loudestOf 29 = .ok (.iload_n 2, 1) := by decide +kernel
theorem dX9_loudestOf_30 : decode cX9_loudestOf 30 = .ok (.istore_n 2, 1) := by decide +kernel
theorem dX9_loudestOf_31 : decode cX9_loudestOf 31 = .ok (.iinc 3 1, 3) := by decide +kernel
theorem dX9_loudestOf_34 : decode cX9_loudestOf 34 = .ok (.goto (-30), 3) := by decide +kernel
theorem dX9_loudestOf_37 : decode cX9_loudestOf 37 = .ok (.iload_n 2, 1) := by decide +kernel
theorem dX9_loudestOf_38 : decode cX9_loudestOf 38 = .ok (.ireturn, 1) := by decide +kernel
theorem dX9_loudest_0 : decode cX9_loudest 0 = .ok (.aload_n 0, 1) := by decide +kernel
theorem dX9_loudest_1 : decode cX9_loudest 1 = .ok (.iload_n 1, 1) := by decide +kernel
theorem dX9_loudest_2 : decode cX9_loudest 2 = .ok (.invokevirtual 165, 3) := by decide +kernel
theorem dX9_loudest_5 : decode cX9_loudest 5 = .ok (.ifCond .eq 5, 3) := by decide +kernel
theorem dX9_loudest_8 : decode cX9_loudest 8 = .ok (.iconst (-1), 1) := by decide +kernel
theorem dX9_loudest_9 : decode cX9_loudest 9 = .ok (.ireturn, 1) := by decide +kernel
theorem dX9_loudest_10 : decode cX9_loudest 10 = .ok (.iload_n 2, 1) := by decide +kernel
theorem dX9_loudest_11 : decode cX9_loudest 11 = .ok (.i2l, 1) := by decide +kernel
theorem dX9_loudest_12 : decode cX9_loudest 12 = .ok (.lconst 0, 1) := by decide +kernel
theorem dX9_loudest_13 : decode cX9_loudest 13 = .ok (.lconst 1, 1) := by decide +kernel
theorem dX9_loudest_14 : decode cX9_loudest 14 = .ok (.invokestatic 83, 3) := by decide +kernel
theorem dX9_loudest_17 : decode cX9_loudest 17 = .ok (.ifCond .ne 6, 3) := by decide +kernel
theorem dX9_loudest_20 : decode cX9_loudest 20 = .ok (.bipush (-2), 2) := by decide +kernel
theorem dX9_loudest_22 : decode cX9_loudest 22 = .ok (.ireturn, 1) := by decide +kernel
theorem dX9_loudest_23 : decode cX9_loudest 23 = .ok (.aload_n 0, 1) := by decide +kernel
theorem dX9_loudest_24 : decode cX9_loudest 24 = .ok (.iload_n 1, 1) := by decide +kernel
theorem dX9_loudest_25 : decode cX9_loudest 25 = .ok (.invokevirtual 214, 3) := by decide +kernel
theorem dX9_loudest_28 : decode cX9_loudest 28 = .ok (.istore_n 3, 1) := by decide +kernel
theorem dX9_loudest_29 : decode cX9_loudest 29 = .ok (.iload_n 2, 1) := by decide +kernel
theorem dX9_loudest_30 : decode cX9_loudest 30 = .ok (.ifCond .ne 7, 3) := by decide +kernel
theorem dX9_loudest_33 : decode cX9_loudest 33 = .ok (.iload_n 3, 1) := by decide +kernel
theorem dX9_loudest_34 : decode cX9_loudest 34 = .ok (.goto 9, 3) := by decide +kernel
theorem dX9_loudest_37 : decode cX9_loudest 37 = .ok (.aload_n 0, 1) := by decide +kernel
theorem dX9_loudest_38 : decode cX9_loudest 38 = .ok (.iload_n 1, 1) := by decide +kernel
theorem dX9_loudest_39 : decode cX9_loudest 39 = .ok (.iload_n 3, 1) := by decide +kernel
theorem dX9_loudest_40 : decode cX9_loudest 40 = .ok (.invokevirtual 211, 3) := by decide +kernel
theorem dX9_loudest_43 : decode cX9_loudest 43 = .ok (.ireturn, 1) := by decide +kernel
theorem dX9_isAsTold_0 : decode cX9_isAsTold 0 = .ok (.iload_n 1, 1) := by decide +kernel
theorem dX9_isAsTold_1 : decode cX9_isAsTold 1 = .ok (.bipush 9, 2) := by decide +kernel
theorem dX9_isAsTold_3 : decode cX9_isAsTold 3 = .ok (.if_icmp .ne 15, 3) := by decide +kernel
theorem dX9_isAsTold_6 : decode cX9_isAsTold 6 = .ok (.iload_n 0, 1) := by decide +kernel
theorem dX9_isAsTold_7 : decode cX9_isAsTold 7 = .ok (.i2l, 1) := by decide +kernel
theorem dX9_isAsTold_8 : decode cX9_isAsTold 8 = .ok (.lconst 0, 1) := by decide +kernel
theorem dX9_isAsTold_9 : decode cX9_isAsTold 9 = .ok (.ldc2_w 217, 3) := by decide +kernel
theorem dX9_isAsTold_12 : decode cX9_isAsTold 12 = .ok (.invokestatic 83, 3) := by decide +kernel
theorem dX9_isAsTold_15 : decode cX9_isAsTold 15 = .ok (.goto 32, 3) := by decide +kernel
theorem dX9_isAsTold_18 : decode cX9_isAsTold 18 = .ok (.iload_n 1, 1) := by decide +kernel
theorem dX9_isAsTold_19 : decode cX9_isAsTold 19 = .ok (.i2l, 1) := by decide +kernel
theorem dX9_isAsTold_20 : decode cX9_isAsTold 20 = .ok (.lconst 0, 1) := by decide +kernel
theorem dX9_isAsTold_21 : decode cX9_isAsTold 21 = .ok (.ldc2_w 219, 3) := by decide +kernel
theorem dX9_isAsTold_24 : decode cX9_isAsTold 24 = .ok (.invokestatic 83, 3) := by decide +kernel
theorem dX9_isAsTold_27 : decode cX9_isAsTold 27 = .ok (.ifCond .eq 19, 3) := by decide +kernel
theorem dX9_isAsTold_30 : decode cX9_isAsTold 30 = .ok (.iload_n 0, 1) := by decide +kernel
theorem dX9_isAsTold_31 : decode cX9_isAsTold 31 = .ok (.i2l, 1) := by decide +kernel
theorem dX9_isAsTold_32 : decode cX9_isAsTold 32 = .ok (.lconst 0, 1) := by decide +kernel
theorem dX9_isAsTold_33 : decode cX9_isAsTold 33 = .ok (.ldc2_w 195, 3) := by decide +kernel
theorem dX9_isAsTold_36 : decode cX9_isAsTold 36 = .ok (.invokestatic 83, 3) := by decide +kernel
theorem dX9_isAsTold_39 : decode cX9_isAsTold 39 = .ok (.ifCond .eq 7, 3) := by decide +kernel
theorem dX9_isAsTold_42 : decode cX9_isAsTold 42 = .ok (.iconst 1, 1) := by decide +kernel
theorem dX9_isAsTold_43 : decode cX9_isAsTold 43 = .ok (.goto 4, 3) := by decide +kernel
theorem dX9_isAsTold_46 : decode cX9_isAsTold 46 = .ok (.iconst 0, 1) := by decide +kernel
theorem dX9_isAsTold_47 : decode cX9_isAsTold 47 = .ok (.ireturn, 1) := by decide +kernel
theorem dX9_doesPair_0 : decode cX9_doesPair 0 = .ok (.iload_n 2, 1) := by decide +kernel
theorem dX9_doesPair_1 : decode cX9_doesPair 1 = .ok (.bipush 9, 2) := by decide +kernel
theorem dX9_doesPair_3 : decode cX9_doesPair 3 = .ok (.if_icmp .ne 37, 3) := by decide +kernel
theorem dX9_doesPair_6 : decode cX9_doesPair 6 = .ok (.iload_n 1, 1) := by decide +kernel
theorem dX9_doesPair_7 : decode cX9_doesPair 7 = .ok (.aload_n 0, 1) := by decide +kernel
theorem dX9_doesPair_8 : decode cX9_doesPair 8 = .ok (.getfield 139, 3) := by decide +kernel
theorem dX9_doesPair_11 : decode cX9_doesPair 11 = .ok (.if_icmp .gt 7, 3) := by decide +kernel
theorem dX9_doesPair_14 : decode cX9_doesPair 14 = .ok (.iconst 1, 1) := by decide +kernel
theorem dX9_doesPair_15 : decode cX9_doesPair 15 = .ok (.goto 4, 3) := by decide +kernel
theorem dX9_doesPair_18 : decode cX9_doesPair 18 = .ok (.iconst 0, 1) := by decide +kernel
theorem dX9_doesPair_19 : decode cX9_doesPair 19 = .ok (.istore_n 3, 1) := by decide +kernel
theorem dX9_doesPair_20 : decode cX9_doesPair 20 = .ok (.aload_n 0, 1) := by decide +kernel
theorem dX9_doesPair_21 : decode cX9_doesPair 21 = .ok (.dup, 1) := by decide +kernel
theorem dX9_doesPair_22 : decode cX9_doesPair 22 = .ok (.getfield 139, 3) := by decide +kernel
theorem dX9_doesPair_25 : decode cX9_doesPair 25 = .ok (.iload_n 3, 1) := by decide +kernel
theorem dX9_doesPair_26 : decode cX9_doesPair 26 = .ok (.ifCond .eq 7, 3) := by decide +kernel
theorem dX9_doesPair_29 : decode cX9_doesPair 29 = .ok (.iload_n 1, 1) := by decide +kernel
theorem dX9_doesPair_30 : decode cX9_doesPair 30 = .ok (.goto 4, 3) := by decide +kernel
theorem dX9_doesPair_33 : decode cX9_doesPair 33 = .ok (.iconst 0, 1) := by decide +kernel
theorem dX9_doesPair_34 : decode cX9_doesPair 34 = .ok (.isub, 1) := by decide +kernel
theorem dX9_doesPair_35 : decode cX9_doesPair 35 = .ok (.putfield 139, 3) := by decide +kernel
theorem dX9_doesPair_38 : decode cX9_doesPair 38 = .ok (.iload_n 3, 1) := by decide +kernel
theorem dX9_doesPair_39 : decode cX9_doesPair 39 = .ok (.ireturn, 1) := by decide +kernel
theorem dX9_doesPair_40 : decode cX9_doesPair 40 = .ok (.aload_n 0, 1) := by decide +kernel
theorem dX9_doesPair_41 : decode cX9_doesPair 41 = .ok (.iload_n 2, 1) := by decide +kernel
theorem dX9_doesPair_42 : decode cX9_doesPair 42 = .ok (.invokevirtual 165, 3) := by decide +kernel
theorem dX9_doesPair_45 : decode cX9_doesPair 45 = .ok (.ifCond .ne 17, 3) := by decide +kernel
theorem dX9_doesPair_48 : decode cX9_doesPair 48 = .ok (.aload_n 0, 1) := by decide +kernel
theorem dX9_doesPair_49 : decode cX9_doesPair 49 = .ok (.iload_n 2, 1) := by decide +kernel
theorem dX9_doesPair_50 : decode cX9_doesPair 50 = .ok (.iload_n 1, 1) := by decide +kernel
theorem dX9_doesPair_51 : decode cX9_doesPair 51 = .ok (.iconst 0, 1) := by decide +kernel
theorem dX9_doesPair_52 : decode cX9_doesPair 52 = .ok (.invokevirtual 197, 3) := by decide +kernel
theorem dX9_doesPair_55 : decode cX9_doesPair 55 = .ok (.ifCond .eq 7, 3) := by decide +kernel
theorem dX9_doesPair_58 : decode cX9_doesPair 58 = .ok (.iconst 1, 1) := by decide +kernel
theorem dX9_doesPair_59 : decode cX9_doesPair 59 = .ok (.goto 4, 3) := by decide +kernel
theorem dX9_doesPair_62 : decode cX9_doesPair 62 = .ok (.iconst 0, 1) := by decide +kernel
theorem dX9_doesPair_63 : decode cX9_doesPair 63 = .ok (.ireturn, 1) := by decide +kernel
theorem dX9_firstOfTwo_0 : decode cX9_firstOfTwo 0 = .ok (.bipush (-9), 2) := by decide +kernel
theorem dX9_firstOfTwo_2 : decode cX9_firstOfTwo 2 = .ok (.istore_n 1, 1) := by decide +kernel
theorem dX9_firstOfTwo_3 : decode cX9_firstOfTwo 3 = .ok (.bipush 25, 2) := by decide +kernel
theorem dX9_firstOfTwo_5 : decode cX9_firstOfTwo 5 = .ok (.istore_n 2, 1) := by decide +kernel
theorem dX9_firstOfTwo_6 : decode cX9_firstOfTwo 6 = .ok (.iload_n 2, 1) := by decide +kernel
theorem dX9_firstOfTwo_7 : decode cX9_firstOfTwo 7 = .ok (.ifCond .lt 27, 3) := by decide +kernel
theorem dX9_firstOfTwo_10 : decode cX9_firstOfTwo 10 = .ok (.aload_n 0, 1) := by decide +kernel
theorem dX9_firstOfTwo_11 : decode cX9_firstOfTwo 11 = .ok (.iload_n 2, 1) := by decide +kernel
theorem dX9_firstOfTwo_12 : decode cX9_firstOfTwo 12 = .ok (.invokevirtual 205, 3) := by decide +kernel
theorem dX9_firstOfTwo_15 : decode cX9_firstOfTwo 15 = .ok (.invokestatic 148, 3) := by decide +kernel
theorem dX9_firstOfTwo_18 : decode cX9_firstOfTwo 18 = .ok (.iconst 1, 1) := by decide +kernel
theorem dX9_firstOfTwo_19 : decode cX9_firstOfTwo 19 = .ok (.if_icmp .le 7, 3) := by decide +kernel
theorem dX9_firstOfTwo_22 : decode cX9_firstOfTwo 22 = .ok (.iload_n 2, 1) := by decide +kernel
theorem dX9_firstOfTwo_23 : decode cX9_firstOfTwo 23 = .ok (.goto 4, 3) := by decide +kernel
theorem dX9_firstOfTwo_26 : decode cX9_firstOfTwo 26 = .ok (.iload_n 1, 1) := by decide +kernel
theorem dX9_firstOfTwo_27 : decode cX9_firstOfTwo 27 = .ok (.istore_n 1, 1) := by decide +kernel
theorem dX9_firstOfTwo_28 : decode cX9_firstOfTwo 28 = .ok (.iinc 2 (-1), 3) := by decide +kernel
theorem dX9_firstOfTwo_31 : decode cX9_firstOfTwo 31 = .ok (.goto (-25), 3) := by decide +kernel
theorem dX9_firstOfTwo_34 : decode cX9_firstOfTwo 34 = .ok (.iload_n 1, 1) := by decide +kernel
theorem dX9_firstOfTwo_35 : decode cX9_firstOfTwo 35 = .ok (.ireturn, 1) := by decide +kernel
theorem dX9_lastThatSounds_0 : decode cX9_lastThatSounds 0 = .ok (.bipush (-9), 2) := by decide +kernel
theorem dX9_lastThatSounds_2 : decode cX9_lastThatSounds 2 = .ok (.istore_n 1, 1) := by decide +kernel
theorem dX9_lastThatSounds_3 : decode cX9_lastThatSounds 3 = .ok (.iconst 0, 1) := by decide +kernel
theorem dX9_lastThatSounds_4 : decode cX9_lastThatSounds 4 = .ok (.istore_n 2, 1) := by decide +kernel
theorem dX9_lastThatSounds_5 : decode cX9_lastThatSounds 5 = .ok (.iload_n 2, 1) := by decide +kernel
theorem dX9_lastThatSounds_6 : decode cX9_lastThatSounds 6 = .ok (.bipush 26, 2) := by decide +kernel
theorem dX9_lastThatSounds_8 : decode cX9_lastThatSounds 8 = .ok (.if_icmp .ge 23, 3) := by decide +kernel
theorem dX9_lastThatSounds_11 : decode cX9_lastThatSounds 11 = .ok (.aload_n 0, 1) := by decide +kernel
theorem dX9_lastThatSounds_12 : decode cX9_lastThatSounds 12 = .ok (.iload_n 2, 1) := by decide +kernel
theorem dX9_lastThatSounds_13 : decode cX9_lastThatSounds 13 = .ok (.invokevirtual 205, 3) := by decide +kernel
theorem dX9_lastThatSounds_16 : decode cX9_lastThatSounds 16 = .ok (.ifCond .eq 7, 3) := by decide +kernel
theorem dX9_lastThatSounds_19 : decode cX9_lastThatSounds 19 = .ok (.iload_n 2, 1) := by decide +kernel
theorem dX9_lastThatSounds_20 : decode cX9_lastThatSounds 20 = .ok (.goto 4, 3) := by decide +kernel
theorem dX9_lastThatSounds_23 : decode cX9_lastThatSounds 23 = .ok (.iload_n 1, 1) := by decide +kernel
theorem dX9_lastThatSounds_24 : decode cX9_lastThatSounds 24 = .ok (.istore_n 1, 1) := by decide +kernel
theorem dX9_lastThatSounds_25 : decode cX9_lastThatSounds 25 = .ok (.iinc 2 1, 3) := by decide +kernel
theorem dX9_lastThatSounds_28 : decode cX9_lastThatSounds 28 = .ok (.goto (-23), 3) := by decide +kernel
theorem dX9_lastThatSounds_31 : decode cX9_lastThatSounds 31 = .ok (.iload_n 1, 1) := by decide +kernel
theorem dX9_lastThatSounds_32 : decode cX9_lastThatSounds 32 = .ok (.ireturn, 1) := by decide +kernel
theorem dX9_manyThatSound_0 : decode cX9_manyThatSound 0 = .ok (.iconst 0, 1) := by decide +kernel
theorem dX9_manyThatSound_1 : decode cX9_manyThatSound 1 = .ok (.istore_n 1, 1) := by decide +kernel
theorem dX9_manyThatSound_2 : decode cX9_manyThatSound 2 = .ok (.iconst 0, 1) := by decide +kernel
theorem dX9_manyThatSound_3 : decode cX9_manyThatSound 3 = .ok (.istore_n 2, 1) := by decide +kernel
theorem dX9_manyThatSound_4 : decode cX9_manyThatSound 4 = .ok (.iload_n 2, 1) := by decide +kernel
theorem dX9_manyThatSound_5 : decode cX9_manyThatSound 5 = .ok (.bipush 26, 2) := by decide +kernel
theorem dX9_manyThatSound_7 : decode cX9_manyThatSound 7 = .ok (.if_icmp .ge 25, 3) := by decide +kernel
theorem dX9_manyThatSound_10 : decode cX9_manyThatSound 10 = .ok (.iload_n 1, 1) := by decide +kernel
theorem dX9_manyThatSound_11 : decode cX9_manyThatSound 11 = .ok (.aload_n 0, 1) := by decide +kernel
theorem dX9_manyThatSound_12 : decode cX9_manyThatSound 12 = .ok (.iload_n 2, 1) := by decide +kernel
theorem dX9_manyThatSound_13 : decode cX9_manyThatSound 13 = .ok (.invokevirtual 205, 3) := by decide +kernel
theorem dX9_manyThatSound_16 : decode cX9_manyThatSound 16 = .ok (.ifCond .eq 7, 3) := by decide +kernel
theorem dX9_manyThatSound_19 : decode cX9_manyThatSound 19 = .ok (.iconst 1, 1) := by decide +kernel
theorem dX9_manyThatSound_20 : decode cX9_manyThatSound 20 = .ok (.goto 4, 3) := by decide +kernel
theorem dX9_manyThatSound_23 : decode cX9_manyThatSound 23 = .ok (.iconst 0, 1) := by decide +kernel
theorem dX9_manyThatSound_24 : decode cX9_manyThatSound 24 = .ok (.iadd, 1) := by decide +kernel
theorem dX9_manyThatSound_25 : decode cX9_manyThatSound 25 = .ok (.istore_n 1, 1) := by decide +kernel
theorem dX9_manyThatSound_26 : decode cX9_manyThatSound 26 = .ok (.iinc 2 1, 3) := by decide +kernel
theorem dX9_manyThatSound_29 : decode cX9_manyThatSound 29 = .ok (.goto (-25), 3) := by decide +kernel
theorem dX9_manyThatSound_32 : decode cX9_manyThatSound 32 = .ok (.iload_n 1, 1) := by decide +kernel
theorem dX9_manyThatSound_33 : decode cX9_manyThatSound 33 = .ok (.ireturn, 1) := by decide +kernel
theorem dX9_dayOf_0 : decode cX9_dayOf 0 = .ok (.bipush (-9), 2) := by decide +kernel
theorem dX9_dayOf_2 : decode cX9_dayOf 2 = .ok (.istore 4, 2) := by decide +kernel
theorem dX9_dayOf_4 : decode cX9_dayOf 4 = .ok (.iconst 0, 1) := by decide +kernel
theorem dX9_dayOf_5 : decode cX9_dayOf 5 = .ok (.istore 5, 2) := by decide +kernel
theorem dX9_dayOf_7 : decode cX9_dayOf 7 = .ok (.iload 5, 2) := by decide +kernel
theorem dX9_dayOf_9 : decode cX9_dayOf 9 = .ok (.iload_n 2, 1) := by decide +kernel
theorem dX9_dayOf_10 : decode cX9_dayOf 10 = .ok (.if_icmp .ge 54, 3) := by decide +kernel
theorem dX9_dayOf_13 : decode cX9_dayOf 13 = .ok (.iload 4, 2) := by decide +kernel
theorem dX9_dayOf_15 : decode cX9_dayOf 15 = .ok (.ifCond .ge 49, 3) := by decide +kernel
theorem dX9_dayOf_18 : decode cX9_dayOf 18 = .ok (.aload_n 0, 1) := by decide +kernel
theorem dX9_dayOf_19 : decode cX9_dayOf 19 = .ok (.aload_n 0, 1) := by decide +kernel
theorem dX9_dayOf_20 : decode cX9_dayOf 20 = .ok (.getfield 64, 3) := by decide +kernel
theorem dX9_dayOf_23 : decode cX9_dayOf 23 = .ok (.iload_n 1, 1) := by decide +kernel
theorem dX9_dayOf_24 : decode cX9_dayOf 24 = .ok (.iconst 2, 1) := by decide +kernel
theorem dX9_dayOf_25 : decode cX9_dayOf 25 = .ok (.iload 5, 2) := by decide +kernel
theorem dX9_dayOf_27 : decode cX9_dayOf 27 = .ok (.imul, 1) := by decide +kernel
theorem dX9_dayOf_28 : decode cX9_dayOf 28 = .ok (.iadd, 1) := by decide +kernel
theorem dX9_dayOf_29 : decode cX9_dayOf 29 = .ok (.iaload, 1) := by decide +kernel
theorem dX9_dayOf_30 : decode cX9_dayOf 30 = .ok (.aload_n 0, 1) := by decide +kernel
theorem dX9_dayOf_31 : decode cX9_dayOf 31 = .ok (.getfield 64, 3) := by decide +kernel
theorem dX9_dayOf_34 : decode cX9_dayOf 34 = .ok (.iload_n 1, 1) := by decide +kernel
theorem dX9_dayOf_35 : decode cX9_dayOf 35 = .ok (.iconst 2, 1) := by decide +kernel
theorem dX9_dayOf_36 : decode cX9_dayOf 36 = .ok (.iload 5, 2) := by decide +kernel
theorem dX9_dayOf_38 : decode cX9_dayOf 38 = .ok (.imul, 1) := by decide +kernel
theorem dX9_dayOf_39 : decode cX9_dayOf 39 = .ok (.iadd, 1) := by decide +kernel
theorem dX9_dayOf_40 : decode cX9_dayOf 40 = .ok (.iconst 1, 1) := by decide +kernel
theorem dX9_dayOf_41 : decode cX9_dayOf 41 = .ok (.iadd, 1) := by decide +kernel
theorem dX9_dayOf_42 : decode cX9_dayOf 42 = .ok (.iaload, 1) := by decide +kernel
theorem dX9_dayOf_43 : decode cX9_dayOf 43 = .ok (.invokevirtual 221, 3) := by decide +kernel
theorem dX9_dayOf_46 : decode cX9_dayOf 46 = .ok (.ifCond .eq 8, 3) := by decide +kernel
theorem dX9_dayOf_49 : decode cX9_dayOf 49 = .ok (.bipush (-9), 2) := by decide +kernel
theorem dX9_dayOf_51 : decode cX9_dayOf 51 = .ok (.goto 5, 3) := by decide +kernel
theorem dX9_dayOf_54 : decode cX9_dayOf 54 = .ok (.iload 5, 2) := by decide +kernel
theorem dX9_dayOf_56 : decode cX9_dayOf 56 = .ok (.istore 4, 2) := by decide +kernel
theorem dX9_dayOf_58 : decode cX9_dayOf 58 = .ok (.iinc 5 1, 3) := by decide +kernel
theorem dX9_dayOf_61 : decode cX9_dayOf 61 = .ok (.goto (-54), 3) := by decide +kernel
theorem dX9_dayOf_64 : decode cX9_dayOf 64 = .ok (.iload_n 3, 1) := by decide +kernel
theorem dX9_dayOf_65 : decode cX9_dayOf 65 = .ok (.iconst 1, 1) := by decide +kernel
theorem dX9_dayOf_66 : decode cX9_dayOf 66 = .ok (.if_icmp .ne 6, 3) := by decide +kernel
theorem dX9_dayOf_69 : decode cX9_dayOf 69 = .ok (.iload 4, 2) := by decide +kernel
theorem dX9_dayOf_71 : decode cX9_dayOf 71 = .ok (.ireturn, 1) := by decide +kernel
theorem dX9_dayOf_72 : decode cX9_dayOf 72 = .ok (.iload 4, 2) := by decide +kernel
theorem dX9_dayOf_74 : decode cX9_dayOf 74 = .ok (.ifCond .lt 9, 3) := by decide +kernel
theorem dX9_dayOf_77 : decode cX9_dayOf 77 = .ok (.bipush (-100), 2) := by decide +kernel
theorem dX9_dayOf_79 : decode cX9_dayOf 79 = .ok (.iload 4, 2) := by decide +kernel
theorem dX9_dayOf_81 : decode cX9_dayOf 81 = .ok (.isub, 1) := by decide +kernel
theorem dX9_dayOf_82 : decode cX9_dayOf 82 = .ok (.ireturn, 1) := by decide +kernel
theorem dX9_dayOf_83 : decode cX9_dayOf 83 = .ok (.iload_n 3, 1) := by decide +kernel
theorem dX9_dayOf_84 : decode cX9_dayOf 84 = .ok (.bipush 10, 2) := by decide +kernel
theorem dX9_dayOf_86 : decode cX9_dayOf 86 = .ok (.if_icmp .lt 36, 3) := by decide +kernel
theorem dX9_dayOf_89 : decode cX9_dayOf 89 = .ok (.aload_n 0, 1) := by decide +kernel
theorem dX9_dayOf_90 : decode cX9_dayOf 90 = .ok (.iload_n 3, 1) := by decide +kernel
theorem dX9_dayOf_91 : decode cX9_dayOf 91 = .ok (.bipush 10, 2) := by decide +kernel
theorem dX9_dayOf_93 : decode cX9_dayOf 93 = .ok (.isub, 1) := by decide +kernel
theorem dX9_dayOf_94 : decode cX9_dayOf 94 = .ok (.invokevirtual 165, 3) := by decide +kernel
theorem dX9_dayOf_97 : decode cX9_dayOf 97 = .ok (.ifCond .eq 8, 3) := by decide +kernel
theorem dX9_dayOf_100 : decode cX9_dayOf 100 = .ok (.bipush (-9), 2) := by decide +kernel
theorem dX9_dayOf_102 : decode cX9_dayOf 102 = .ok (.goto 19, 3) := by decide +kernel
theorem dX9_dayOf_105 : decode cX9_dayOf 105 = .ok (.aload_n 0, 1) := by decide +kernel
theorem dX9_dayOf_106 : decode cX9_dayOf 106 = .ok (.iload_n 3, 1) := by decide +kernel
theorem dX9_dayOf_107 : decode cX9_dayOf 107 = .ok (.bipush 10, 2) := by decide +kernel
theorem dX9_dayOf_109 : decode cX9_dayOf 109 = .ok (.isub, 1) := by decide +kernel
theorem dX9_dayOf_110 : decode cX9_dayOf 110 = .ok (.aload_n 0, 1) := by decide +kernel
theorem dX9_dayOf_111 : decode cX9_dayOf 111 = .ok (.iload_n 3, 1) := by decide +kernel
theorem dX9_dayOf_112 : decode cX9_dayOf 112 = .ok (.bipush 10, 2) := by decide +kernel
theorem dX9_dayOf_114 : decode cX9_dayOf 114 = .ok (.isub, 1) := by decide +kernel
theorem dX9_dayOf_115 : decode cX9_dayOf 115 = .ok (.invokevirtual 214, 3) := by decide +kernel
theorem dX9_dayOf_118 : decode cX9_dayOf 118 = .ok (.invokevirtual 211, 3) := by decide +kernel
theorem dX9_dayOf_121 : decode cX9_dayOf 121 = .ok (.ireturn, 1) := by decide +kernel
theorem dX9_dayOf_122 : decode cX9_dayOf 122 = .ok (.iload_n 3, 1) := by decide +kernel
theorem dX9_dayOf_123 : decode cX9_dayOf 123 = .ok (.ifCond .ne 10, 3) := by decide +kernel
theorem dX9_dayOf_126 : decode cX9_dayOf 126 = .ok (.aload_n 0, 1) := by decide +kernel
theorem dX9_dayOf_127 : decode cX9_dayOf 127 = .ok (.getfield 139, 3) := by decide +kernel
theorem dX9_dayOf_130 : decode cX9_dayOf 130 = .ok (.goto 31, 3) := by decide +kernel
theorem dX9_dayOf_133 : decode cX9_dayOf 133 = .ok (.iload_n 3, 1) := by decide +kernel
theorem dX9_dayOf_134 : decode cX9_dayOf 134 = .ok (.iconst 2, 1) := by decide +kernel
theorem dX9_dayOf_135 : decode cX9_dayOf 135 = .ok (.if_icmp .ne 10, 3) := by decide +kernel
theorem dX9_dayOf_138 : decode cX9_dayOf 138 = .ok (.aload_n 0, 1) := by decide +kernel
theorem dX9_dayOf_139 : decode cX9_dayOf 139 = .ok (.invokevirtual 224, 3) := by decide +kernel
theorem dX9_dayOf_142 : decode cX9_dayOf 142 = .ok (.goto 19, 3) := by decide +kernel
theorem dX9_dayOf_145 : decode cX9_dayOf 145 = .ok (.iload_n 3, 1) := by decide +kernel
theorem dX9_dayOf_146 : decode cX9_dayOf 146 = .ok (.iconst 3, 1) := by decide +kernel
theorem dX9_dayOf_147 : decode cX9_dayOf 147 = .ok (.if_icmp .ne 10, 3) := by decide +kernel
theorem dX9_dayOf_150 : decode cX9_dayOf 150 = .ok (.aload_n 0, 1) := by decide +kernel
theorem dX9_dayOf_151 : decode cX9_dayOf 151 = .ok (.invokevirtual 228, 3) := by decide +kernel
theorem dX9_dayOf_154 : decode cX9_dayOf 154 = .ok (.goto 7, 3) := by decide +kernel
theorem dX9_dayOf_157 : decode cX9_dayOf 157 = .ok (.aload_n 0, 1) := by decide +kernel
theorem dX9_dayOf_158 : decode cX9_dayOf 158 = .ok (.invokevirtual 231, 3) := by decide +kernel
theorem dX9_dayOf_161 : decode cX9_dayOf 161 = .ok (.ireturn, 1) := by decide +kernel
theorem dX9_day_0 : decode cX9_day 0 = .ok (.iload_n 1, 1) := by decide +kernel
theorem dX9_day_1 : decode cX9_day 1 = .ok (.invokestatic 125, 3) := by decide +kernel
theorem dX9_day_4 : decode cX9_day 4 = .ok (.ifCond .eq 9, 3) := by decide +kernel
theorem dX9_day_7 : decode cX9_day 7 = .ok (.aload_n 0, 1) := by decide +kernel
theorem dX9_day_8 : decode cX9_day 8 = .ok (.iconst (-1), 1) := by decide +kernel
theorem dX9_day_9 : decode cX9_day 9 = .ok (.invokevirtual 129, 3) := by decide +kernel
theorem dX9_day_12 : decode cX9_day 12 = .ok (.ireturn, 1) := by decide +kernel
theorem dX9_day_13 : decode cX9_day 13 = .ok (.iload_n 2, 1) := by decide +kernel
theorem dX9_day_14 : decode cX9_day 14 = .ok (.i2l, 1) := by decide +kernel
theorem dX9_day_15 : decode cX9_day 15 = .ok (.lconst 0, 1) := by decide +kernel
theorem dX9_day_16 : decode cX9_day 16 = .ok (.ldc2_w 109, 3) := by decide +kernel
theorem dX9_day_19 : decode cX9_day 19 = .ok (.invokestatic 83, 3) := by decide +kernel
theorem dX9_day_22 : decode cX9_day 22 = .ok (.ifCond .eq 44, 3) := by decide +kernel
theorem dX9_day_25 : decode cX9_day 25 = .ok (.iload 4, 2) := by decide +kernel
theorem dX9_day_27 : decode cX9_day 27 = .ok (.i2l, 1) := by decide +kernel
theorem dX9_day_28 : decode cX9_day 28 = .ok (.lconst 0, 1) := by decide +kernel
theorem dX9_day_29 : decode cX9_day 29 = .ok (.ldc2_w 195, 3) := by decide +kernel
theorem dX9_day_32 : decode cX9_day 32 = .ok (.invokestatic 83, 3) := by decide +kernel
theorem dX9_day_35 : decode cX9_day 35 = .ok (.ifCond .eq 31, 3) := by decide +kernel
theorem dX9_day_38 : decode cX9_day 38 = .ok (.iload 5, 2) := by decide +kernel
theorem dX9_day_40 : decode cX9_day 40 = .ok (.i2l, 1) := by decide +kernel
theorem dX9_day_41 : decode cX9_day 41 = .ok (.lconst 0, 1) := by decide +kernel
theorem dX9_day_42 : decode cX9_day 42 = .ok (.ldc2_w 234, 3) := by decide +kernel
theorem dX9_day_45 : decode cX9_day 45 = .ok (.invokestatic 83, 3) := by decide +kernel
theorem dX9_day_48 : decode cX9_day 48 = .ok (.ifCond .ne 25, 3) := by decide +kernel
theorem dX9_day_51 : decode cX9_day 51 = .ok (.iload 5, 2) := by decide +kernel
theorem dX9_day_53 : decode cX9_day 53 = .ok (.i2l, 1) := by decide +kernel
theorem dX9_day_54 : decode cX9_day 54 = .ok (.ldc2_w 168, 3) := by decide +kernel
theorem dX9_day_57 : decode cX9_day 57 = .ok (.ldc2_w 236, 3) := by decide +kernel
theorem dX9_day_60 : decode cX9_day 60 = .ok (.invokestatic 83, 3) := by decide +kernel
theorem dX9_day_63 : decode cX9_day 63 = .ok (.ifCond .ne 10, 3) := by decide +kernel
theorem dX9_day_66 : decode cX9_day 66 = .ok (.aload_n 0, 1) := by decide +kernel
theorem dX9_day_67 : decode cX9_day 67 = .ok (.bipush (-2), 2) := by decide +kernel
theorem dX9_day_69 : decode cX9_day 69 = .ok (.invokevirtual 129, 3) := by decide +kernel
theorem dX9_day_72 : decode cX9_day 72 = .ok (.ireturn, 1) := by decide +kernel
theorem dX9_day_73 : decode cX9_day 73 = .ok (.aload_n 0, 1) := by decide +kernel
theorem dX9_day_74 : decode cX9_day 74 = .ok (.getfield 80, 3) := by decide +kernel
theorem dX9_day_77 : decode cX9_day 77 = .ok (.ifCond .ne 10, 3) := by decide +kernel
theorem dX9_day_80 : decode cX9_day 80 = .ok (.aload_n 0, 1) := by decide +kernel
theorem dX9_day_81 : decode cX9_day 81 = .ok (.bipush (-3), 2) := by decide +kernel
theorem dX9_day_83 : decode cX9_day 83 = .ok (.invokevirtual 129, 3) := by decide +kernel
theorem dX9_day_86 : decode cX9_day 86 = .ok (.ireturn, 1) := by decide +kernel
theorem dX9_day_87 : decode cX9_day 87 = .ok (.aload_n 0, 1) := by decide +kernel
theorem dX9_day_88 : decode cX9_day 88 = .ok (.iload_n 1, 1) := by decide +kernel
theorem dX9_day_89 : decode cX9_day 89 = .ok (.iload_n 2, 1) := by decide +kernel
theorem dX9_day_90 : decode cX9_day 90 = .ok (.iload_n 3, 1) := by decide +kernel
theorem dX9_day_91 : decode cX9_day 91 = .ok (.ldc2_w 109, 3) := by decide +kernel
theorem dX9_day_94 : decode cX9_day 94 = .ok (.iload 4, 2) := by decide +kernel
theorem dX9_day_96 : decode cX9_day 96 = .ok (.i2l, 1) := by decide +kernel
theorem dX9_day_97 : decode cX9_day 97 = .ok (.lmul, 1) := by decide +kernel
theorem dX9_day_98 : decode cX9_day 98 = .ok (.invokevirtual 132, 3) := by decide +kernel
theorem dX9_day_101 : decode cX9_day 101 = .ok (.istore 6, 2) := by decide +kernel
theorem dX9_day_103 : decode cX9_day 103 = .ok (.iload 6, 2) := by decide +kernel
theorem dX9_day_105 : decode cX9_day 105 = .ok (.ifCond .ge 6, 3) := by decide +kernel
theorem dX9_day_108 : decode cX9_day 108 = .ok (.iload 6, 2) := by decide +kernel
theorem dX9_day_110 : decode cX9_day 110 = .ok (.ireturn, 1) := by decide +kernel
theorem dX9_day_111 : decode cX9_day 111 = .ok (.bipush 60, 2) := by decide +kernel
theorem dX9_day_113 : decode cX9_day 113 = .ok (.iload_n 1, 1) := by decide +kernel
theorem dX9_day_114 : decode cX9_day 114 = .ok (.imul, 1) := by decide +kernel
theorem dX9_day_115 : decode cX9_day 115 = .ok (.iload_n 3, 1) := by decide +kernel
theorem dX9_day_116 : decode cX9_day 116 = .ok (.iadd, 1) := by decide +kernel
theorem dX9_day_117 : decode cX9_day 117 = .ok (.istore 7, 2) := by decide +kernel
theorem dX9_day_119 : decode cX9_day 119 = .ok (.iconst 0, 1) := by decide +kernel
theorem dX9_day_120 : decode cX9_day 120 = .ok (.istore 8, 2) := by decide +kernel
theorem dX9_day_122 : decode cX9_day 122 = .ok (.iload 8, 2) := by decide +kernel
theorem dX9_day_124 : decode cX9_day 124 = .ok (.iload 4, 2) := by decide +kernel
theorem dX9_day_126 : decode cX9_day 126 = .ok (.if_icmp .ge 48, 3) := by decide +kernel
theorem dX9_day_129 : decode cX9_day 129 = .ok (.aload_n 0, 1) := by decide +kernel
theorem dX9_day_130 : decode cX9_day 130 = .ok (.getfield 64, 3) := by decide +kernel
theorem dX9_day_133 : decode cX9_day 133 = .ok (.iload 7, 2) := by decide +kernel
theorem dX9_day_135 : decode cX9_day 135 = .ok (.iconst 2, 1) := by decide +kernel
theorem dX9_day_136 : decode cX9_day 136 = .ok (.iload 8, 2) := by decide +kernel
theorem dX9_day_138 : decode cX9_day 138 = .ok (.imul, 1) := by decide +kernel
theorem dX9_day_139 : decode cX9_day 139 = .ok (.iadd, 1) := by decide +kernel
theorem dX9_day_140 : decode cX9_day 140 = .ok (.iaload, 1) := by decide +kernel
theorem dX9_day_141 : decode cX9_day 141 = .ok (.aload_n 0, 1) := by decide +kernel
theorem dX9_day_142 : decode cX9_day 142 = .ok (.getfield 64, 3) := by decide +kernel
theorem dX9_day_145 : decode cX9_day 145 = .ok (.iload 7, 2) := by decide +kernel
theorem dX9_day_147 : decode cX9_day 147 = .ok (.iconst 2, 1) := by decide +kernel
theorem dX9_day_148 : decode cX9_day 148 = .ok (.iload 8, 2) := by decide +kernel
theorem dX9_day_150 : decode cX9_day 150 = .ok (.imul, 1) := by decide +kernel
theorem dX9_day_151 : decode cX9_day 151 = .ok (.iadd, 1) := by decide +kernel
theorem dX9_day_152 : decode cX9_day 152 = .ok (.iconst 1, 1) := by decide +kernel
theorem dX9_day_153 : decode cX9_day 153 = .ok (.iadd, 1) := by decide +kernel
theorem dX9_day_154 : decode cX9_day 154 = .ok (.iaload, 1) := by decide +kernel
theorem dX9_day_155 : decode cX9_day 155 = .ok (.invokestatic 238, 3) := by decide +kernel
theorem dX9_day_158 : decode cX9_day 158 = .ok (.ifCond .ne 10, 3) := by decide +kernel
theorem dX9_day_161 : decode cX9_day 161 = .ok (.aload_n 0, 1) := by decide +kernel
theorem dX9_day_162 : decode cX9_day 162 = .ok (.bipush (-2), 2) := by decide +kernel
theorem dX9_day_164 : decode cX9_day 164 = .ok (.invokevirtual 129, 3) := by decide +kernel
theorem dX9_day_167 : decode cX9_day 167 = .ok (.ireturn, 1) := by decide +kernel
theorem dX9_day_168 : decode cX9_day 168 = .ok (.iinc 8 1, 3) := by decide +kernel
theorem dX9_day_171 : decode cX9_day 171 = .ok (.goto (-49), 3) := by decide +kernel
theorem dX9_day_174 : decode cX9_day 174 = .ok (.aload_n 0, 1) := by decide +kernel
theorem dX9_day_175 : decode cX9_day 175 = .ok (.aload_n 0, 1) := by decide +kernel
theorem dX9_day_176 : decode cX9_day 176 = .ok (.getfield 139, 3) := by decide +kernel
theorem dX9_day_179 : decode cX9_day 179 = .ok (.putfield 241, 3) := by decide +kernel
theorem dX9_day_182 : decode cX9_day 182 = .ok (.iconst 0, 1) := by decide +kernel
theorem dX9_day_183 : decode cX9_day 183 = .ok (.istore 8, 2) := by decide +kernel
theorem dX9_day_185 : decode cX9_day 185 = .ok (.iload 8, 2) := by decide +kernel
theorem dX9_day_187 : decode cX9_day 187 = .ok (.bipush 8, 2) := by decide +kernel
theorem dX9_day_189 : decode cX9_day 189 = .ok (.if_icmp .ge 51, 3) := by decide +kernel
theorem dX9_day_192 : decode cX9_day 192 = .ok (.aload_n 0, 1) := by decide +kernel
theorem dX9_day_193 : decode cX9_day 193 = .ok (.getfield 34, 3) := by decide +kernel
theorem dX9_day_196 : decode cX9_day 196 = .ok (.iload 8, 2) := by decide +kernel
theorem dX9_day_198 : decode cX9_day 198 = .ok (.aload_n 0, 1) := by decide +kernel
theorem dX9_day_199 : decode cX9_day 199 = .ok (.getfield 25, 3) := by decide +kernel
theorem dX9_day_202 : decode cX9_day 202 = .ok (.iload 8, 2) := by decide +kernel
theorem dX9_day_204 : decode cX9_day 204 = .ok (.iaload, 1) := by decide +kernel
theorem dX9_day_205 : decode cX9_day 205 = .ok (.iastore, 1) := by decide +kernel
theorem dX9_day_206 : decode cX9_day 206 = .ok (.aload_n 0, 1) := by decide +kernel
theorem dX9_day_207 : decode cX9_day 207 = .ok (.getfield 37, 3) := by decide +kernel
theorem dX9_day_210 : decode cX9_day 210 = .ok (.iload 8, 2) := by decide +kernel
theorem dX9_day_212 : decode cX9_day 212 = .ok (.aload_n 0, 1) := by decide +kernel
theorem dX9_day_213 : decode cX9_day 213 = .ok (.getfield 28, 3) := by decide +kernel
theorem dX9_day_216 : decode cX9_day 216 = .ok (.iload 8, 2) := by decide +kernel
theorem dX9_day_218 : decode cX9_day 218 = .ok (.iaload, 1) := by decide +kernel
theorem dX9_day_219 : decode cX9_day 219 = .ok (.iastore, 1) := by decide +kernel
theorem dX9_day_220 : decode cX9_day 220 = .ok (.aload_n 0, 1) := by decide +kernel
theorem dX9_day_221 : decode cX9_day 221 = .ok (.getfield 40, 3) := by decide +kernel
theorem dX9_day_224 : decode cX9_day 224 = .ok (.iload 8, 2) := by decide +kernel
theorem dX9_day_226 : decode cX9_day 226 = .ok (.aload_n 0, 1) := by decide +kernel
theorem dX9_day_227 : decode cX9_day 227 = .ok (.getfield 31, 3) := by decide +kernel
theorem dX9_day_230 : decode cX9_day 230 = .ok (.iload 8, 2) := by decide +kernel
theorem dX9_day_232 : decode cX9_day 232 = .ok (.iaload, 1) := by decide +kernel
theorem dX9_day_233 : decode cX9_day 233 = .ok (.iastore, 1) := by decide +kernel
theorem dX9_day_234 : decode cX9_day 234 = .ok (.iinc 8 1, 3) := by decide +kernel
theorem dX9_day_237 : decode cX9_day 237 = .ok (.goto (-52), 3) := by decide +kernel
theorem dX9_day_240 : decode cX9_day 240 = .ok (.aload_n 0, 1) := by decide +kernel
theorem dX9_day_241 : decode cX9_day 241 = .ok (.iload 7, 2) := by decide +kernel
theorem dX9_day_243 : decode cX9_day 243 = .ok (.iload 4, 2) := by decide +kernel
theorem dX9_day_245 : decode cX9_day 245 = .ok (.iload 5, 2) := by decide +kernel
theorem dX9_day_247 : decode cX9_day 247 = .ok (.invokevirtual 244, 3) := by decide +kernel
theorem dX9_day_250 : decode cX9_day 250 = .ok (.istore 8, 2) := by decide +kernel
theorem dX9_day_252 : decode cX9_day 252 = .ok (.aload_n 0, 1) := by decide +kernel
theorem dX9_day_253 : decode cX9_day 253 = .ok (.aload_n 0, 1) := by decide +kernel
theorem dX9_day_254 : decode cX9_day 254 = .ok (.getfield 241, 3) := by decide +kernel
theorem dX9_day_257 : decode cX9_day 257 = .ok (.putfield 139, 3) := by decide +kernel
theorem dX9_day_260 : decode cX9_day 260 = .ok (.iconst 0, 1) := by decide +kernel
theorem dX9_day_261 : decode cX9_day 261 = .ok (.istore 9, 2) := by decide +kernel
theorem dX9_day_263 : decode cX9_day 263 = .ok (.iload 9, 2) := by decide +kernel
theorem dX9_day_265 : decode cX9_day 265 = .ok (.bipush 8, 2) := by decide +kernel
theorem dX9_day_267 : decode cX9_day 267 = .ok (.if_icmp .ge 51, 3) := by decide +kernel
theorem dX9_day_270 : decode cX9_day 270 = .ok (.aload_n 0, 1) := by decide +kernel
theorem dX9_day_271 : decode cX9_day 271 = .ok (.getfield 25, 3) := by decide +kernel
theorem dX9_day_274 : decode cX9_day 274 = .ok (.iload 9, 2) := by decide +kernel
theorem dX9_day_276 : decode cX9_day 276 = .ok (.aload_n 0, 1) := by decide +kernel
theorem dX9_day_277 : decode cX9_day 277 = .ok (.getfield 34, 3) := by decide +kernel
theorem dX9_day_280 : decode cX9_day 280 = .ok (.iload 9, 2) := by decide +kernel
theorem dX9_day_282 : decode cX9_day 282 = .ok (.iaload, 1) := by decide +kernel
theorem dX9_day_283 : decode cX9_day 283 = .ok (.iastore, 1) := by decide +kernel
theorem dX9_day_284 : decode cX9_day 284 = .ok (.aload_n 0, 1) := by decide +kernel
theorem dX9_day_285 : decode cX9_day 285 = .ok (.getfield 28, 3) := by decide +kernel
theorem dX9_day_288 : decode cX9_day 288 = .ok (.iload 9, 2) := by decide +kernel
theorem dX9_day_290 : decode cX9_day 290 = .ok (.aload_n 0, 1) := by decide +kernel
theorem dX9_day_291 : decode cX9_day 291 = .ok (.getfield 37, 3) := by decide +kernel
theorem dX9_day_294 : decode cX9_day 294 = .ok (.iload 9, 2) := by decide +kernel
theorem dX9_day_296 : decode cX9_day 296 = .ok (.iaload, 1) := by decide +kernel
theorem dX9_day_297 : decode cX9_day 297 = .ok (.iastore, 1) := by decide +kernel
theorem dX9_day_298 : decode cX9_day 298 = .ok (.aload_n 0, 1) := by decide +kernel
theorem dX9_day_299 : decode cX9_day 299 = .ok (.getfield 31, 3) := by decide +kernel
theorem dX9_day_302 : decode cX9_day 302 = .ok (.iload 9, 2) := by decide +kernel
theorem dX9_day_304 : decode cX9_day 304 = .ok (.aload_n 0, 1) := by decide +kernel
theorem dX9_day_305 : decode cX9_day 305 = .ok (.getfield 40, 3) := by decide +kernel
theorem dX9_day_308 : decode cX9_day 308 = .ok (.iload 9, 2) := by decide +kernel
theorem dX9_day_310 : decode cX9_day 310 = .ok (.iaload, 1) := by decide +kernel
theorem dX9_day_311 : decode cX9_day 311 = .ok (.iastore, 1) := by decide +kernel
theorem dX9_day_312 : decode cX9_day 312 = .ok (.iinc 9 1, 3) := by decide +kernel
theorem dX9_day_315 : decode cX9_day 315 = .ok (.goto (-52), 3) := by decide +kernel
theorem dX9_day_318 : decode cX9_day 318 = .ok (.aload_n 0, 1) := by decide +kernel
theorem dX9_day_319 : decode cX9_day 319 = .ok (.iload 8, 2) := by decide +kernel
theorem dX9_day_321 : decode cX9_day 321 = .ok (.invokevirtual 129, 3) := by decide +kernel
theorem dX9_day_324 : decode cX9_day 324 = .ok (.ireturn, 1) := by decide +kernel
theorem dX9_peaks_0 : decode cX9_peaks 0 = .ok (.aload_n 0, 1) := by decide +kernel
theorem dX9_peaks_1 : decode cX9_peaks 1 = .ok (.iconst (-1), 1) := by decide +kernel
theorem dX9_peaks_2 : decode cX9_peaks 2 = .ok (.putfield 247, 3) := by decide +kernel
theorem dX9_peaks_5 : decode cX9_peaks 5 = .ok (.bipush (-5), 2) := by decide +kernel
theorem dX9_peaks_7 : decode cX9_peaks 7 = .ok (.istore_n 2, 1) := by decide +kernel
theorem dX9_peaks_8 : decode cX9_peaks 8 = .ok (.iload_n 2, 1) := by decide +kernel
theorem dX9_peaks_9 : decode cX9_peaks 9 = .ok (.iconst 5, 1) := by decide +kernel
theorem dX9_peaks_10 : decode cX9_peaks 10 = .ok (.if_icmp .gt 70, 3) := by decide +kernel
theorem dX9_peaks_13 : decode cX9_peaks 13 = .ok (.bipush (-5), 2) := by decide +kernel
theorem dX9_peaks_15 : decode cX9_peaks 15 = .ok (.istore_n 3, 1) := by decide +kernel
theorem dX9_peaks_16 : decode cX9_peaks 16 = .ok (.iload_n 3, 1) := by decide +kernel
theorem dX9_peaks_17 : decode cX9_peaks 17 = .ok (.iconst 5, 1) := by decide +kernel
theorem dX9_peaks_18 : decode cX9_peaks 18 = .ok (.if_icmp .gt 56, 3) := by decide +kernel
theorem dX9_peaks_21 : decode cX9_peaks 21 = .ok (.iload_n 2, 1) := by decide +kernel
theorem dX9_peaks_22 : decode cX9_peaks 22 = .ok (.ifCond .ne 11, 3) := by decide +kernel
theorem dX9_peaks_25 : decode cX9_peaks 25 = .ok (.iload_n 3, 1) := by decide +kernel
theorem dX9_peaks_26 : decode cX9_peaks 26 = .ok (.ifCond .ne 7, 3) := by decide +kernel
theorem dX9_peaks_29 : decode cX9_peaks 29 = .ok (.iconst (-1), 1) := by decide +kernel
theorem dX9_peaks_30 : decode cX9_peaks 30 = .ok (.goto 11, 3) := by decide +kernel
theorem dX9_peaks_33 : decode cX9_peaks 33 = .ok (.aload_n 0, 1) := by decide +kernel
theorem dX9_peaks_34 : decode cX9_peaks 34 = .ok (.iload_n 1, 1) := by decide +kernel
theorem dX9_peaks_35 : decode cX9_peaks 35 = .ok (.iload_n 1, 1) := by decide +kernel
theorem dX9_peaks_36 : decode cX9_peaks 36 = .ok (.iload_n 2, 1) := by decide +kernel
theorem dX9_peaks_37 : decode cX9_peaks 37 = .ok (.iload_n 3, 1) := by decide +kernel
theorem dX9_peaks_38 : decode cX9_peaks 38 = .ok (.invokevirtual 191, 3) := by decide +kernel
theorem dX9_peaks_41 : decode cX9_peaks 41 = .ok (.istore 4, 2) := by decide +kernel
theorem dX9_peaks_43 : decode cX9_peaks 43 = .ok (.iload 4, 2) := by decide +kernel
theorem dX9_peaks_45 : decode cX9_peaks 45 = .ok (.aload_n 0, 1) := by decide +kernel
theorem dX9_peaks_46 : decode cX9_peaks 46 = .ok (.getfield 247, 3) := by decide +kernel
theorem dX9_peaks_49 : decode cX9_peaks 49 = .ok (.if_icmp .le 19, 3) := by decide +kernel
theorem dX9_peaks_52 : decode cX9_peaks 52 = .ok (.aload_n 0, 1) := by decide +kernel
theorem dX9_peaks_53 : decode cX9_peaks 53 = .ok (.iload 4, 2) := by decide +kernel
theorem dX9_peaks_55 : decode cX9_peaks 55 = .ok (.putfield 247, 3) := by decide +kernel
theorem dX9_peaks_58 : decode cX9_peaks 58 = .ok (.aload_n 0, 1) := by decide +kernel
theorem dX9_peaks_59 : decode cX9_peaks 59 = .ok (.iload_n 2, 1) := by decide +kernel
theorem dX9_peaks_60 : decode cX9_peaks 60 = .ok (.putfield 250, 3) := by decide +kernel
theorem dX9_peaks_63 : decode cX9_peaks 63 = .ok (.aload_n 0, 1) := by decide +kernel
theorem dX9_peaks_64 : decode cX9_peaks 64 = .ok (.iload_n 3, 1) := by decide +kernel
theorem dX9_peaks_65 : decode cX9_peaks 65 = .ok (.putfield 253, 3) := by decide +kernel
theorem dX9_peaks_68 : decode cX9_peaks 68 = .ok (.iinc 3 1, 3) := by decide +kernel
theorem dX9_peaks_71 : decode cX9_peaks 71 = .ok (.goto (-55), 3) := by decide +kernel
theorem dX9_peaks_74 : decode cX9_peaks 74 = .ok (.iinc 2 1, 3) := by decide +kernel
theorem dX9_peaks_77 : decode cX9_peaks 77 = .ok (.goto (-69), 3) := by decide +kernel
theorem dX9_peaks_80 : decode cX9_peaks 80 = .ok (.return_, 1) := by decide +kernel
theorem dX9_peak_0 : decode cX9_peak 0 = .ok (.aload_n 0, 1) := by decide +kernel
theorem dX9_peak_1 : decode cX9_peak 1 = .ok (.iload_n 1, 1) := by decide +kernel
theorem dX9_peak_2 : decode cX9_peak 2 = .ok (.invokevirtual 165, 3) := by decide +kernel
theorem dX9_peak_5 : decode cX9_peak 5 = .ok (.ifCond .eq 5, 3) := by decide +kernel
theorem dX9_peak_8 : decode cX9_peak 8 = .ok (.iconst (-1), 1) := by decide +kernel
theorem dX9_peak_9 : decode cX9_peak 9 = .ok (.ireturn, 1) := by decide +kernel
theorem dX9_peak_10 : decode cX9_peak 10 = .ok (.iload_n 2, 1) := by decide +kernel
theorem dX9_peak_11 : decode cX9_peak 11 = .ok (.i2l, 1) := by decide +kernel
theorem dX9_peak_12 : decode cX9_peak 12 = .ok (.lconst 0, 1) := by decide +kernel
theorem dX9_peak_13 : decode cX9_peak 13 = .ok (.ldc2_w 109, 3) := by decide +kernel
theorem dX9_peak_16 : decode cX9_peak 16 = .ok (.invokestatic 83, 3) := by decide +kernel
theorem dX9_peak_19 : decode cX9_peak 19 = .ok (.ifCond .ne 6, 3) := by decide +kernel
theorem dX9_peak_22 : decode cX9_peak 22 = .ok (.bipush (-2), 2) := by decide +kernel
theorem dX9_peak_24 : decode cX9_peak 24 = .ok (.ireturn, 1) := by decide +kernel
theorem dX9_peak_25 : decode cX9_peak 25 = .ok (.aload_n 0, 1) := by decide +kernel
theorem dX9_peak_26 : decode cX9_peak 26 = .ok (.iload_n 1, 1) := by decide +kernel
theorem dX9_peak_27 : decode cX9_peak 27 = .ok (.invokevirtual 256, 3) := by decide +kernel
theorem dX9_peak_30 : decode cX9_peak 30 = .ok (.iload_n 2, 1) := by decide +kernel
theorem dX9_peak_31 : decode cX9_peak 31 = .ok (.ifCond .ne 10, 3) := by decide +kernel
theorem dX9_peak_34 : decode cX9_peak 34 = .ok (.aload_n 0, 1) := by decide +kernel
theorem dX9_peak_35 : decode cX9_peak 35 = .ok (.getfield 247, 3) := by decide +kernel
theorem dX9_peak_38 : decode cX9_peak 38 = .ok (.goto 19, 3) := by decide +kernel
theorem dX9_peak_41 : decode cX9_peak 41 = .ok (.iload_n 2, 1) := by decide +kernel
theorem dX9_peak_42 : decode cX9_peak 42 = .ok (.iconst 1, 1) := by decide +kernel
theorem dX9_peak_43 : decode cX9_peak 43 = .ok (.if_icmp .ne 10, 3) := by decide +kernel
theorem dX9_peak_46 : decode cX9_peak 46 = .ok (.aload_n 0, 1) := by decide +kernel
theorem dX9_peak_47 : decode cX9_peak 47 = .ok (.getfield 250, 3) := by decide +kernel
theorem dX9_peak_50 : decode cX9_peak 50 = .ok (.goto 7, 3) := by decide +kernel
theorem dX9_peak_53 : decode cX9_peak 53 = .ok (.aload_n 0, 1) := by decide +kernel
theorem dX9_peak_54 : decode cX9_peak 54 = .ok (.getfield 253, 3) := by decide +kernel
theorem dX9_peak_57 : decode cX9_peak 57 = .ok (.ireturn, 1) := by decide +kernel
theorem dX9_clash_0 : decode cX9_clash 0 = .ok (.aload_n 0, 1) := by decide +kernel
theorem dX9_clash_1 : decode cX9_clash 1 = .ok (.iload_n 1, 1) := by decide +kernel
theorem dX9_clash_2 : decode cX9_clash 2 = .ok (.invokevirtual 165, 3) := by decide +kernel
theorem dX9_clash_5 : decode cX9_clash 5 = .ok (.ifCond .ne 11, 3) := by decide +kernel
theorem dX9_clash_8 : decode cX9_clash 8 = .ok (.aload_n 0, 1) := by decide +kernel
theorem dX9_clash_9 : decode cX9_clash 9 = .ok (.iload_n 2, 1) := by decide +kernel
theorem dX9_clash_10 : decode cX9_clash 10 = .ok (.invokevirtual 165, 3) := by decide +kernel
theorem dX9_clash_13 : decode cX9_clash 13 = .ok (.ifCond .eq 5, 3) := by decide +kernel
theorem dX9_clash_16 : decode cX9_clash 16 = .ok (.iconst (-1), 1) := by decide +kernel
theorem dX9_clash_17 : decode cX9_clash 17 = .ok (.ireturn, 1) := by decide +kernel
theorem dX9_clash_18 : decode cX9_clash 18 = .ok (.iconst 0, 1) := by decide +kernel
theorem dX9_clash_19 : decode cX9_clash 19 = .ok (.istore_n 3, 1) := by decide +kernel
theorem dX9_clash_20 : decode cX9_clash 20 = .ok (.bipush (-5), 2) := by decide +kernel
theorem dX9_clash_22 : decode cX9_clash 22 = .ok (.istore 4, 2) := by decide +kernel
theorem dX9_clash_24 : decode cX9_clash 24 = .ok (.iload 4, 2) := by decide +kernel
theorem dX9_clash_26 : decode cX9_clash 26 = .ok (.iconst 5, 1) := by decide +kernel
theorem dX9_clash_27 : decode cX9_clash 27 = .ok (.if_icmp .gt 50, 3) := by decide +kernel
theorem dX9_clash_30 : decode cX9_clash 30 = .ok (.bipush (-5), 2) := by decide +kernel
theorem dX9_clash_32 : decode cX9_clash 32 = .ok (.istore 5, 2) := by decide +kernel
theorem dX9_clash_34 : decode cX9_clash 34 = .ok (.iload 5, 2) := by decide +kernel
theorem dX9_clash_36 : decode cX9_clash 36 = .ok (.iconst 5, 1) := by decide +kernel
theorem dX9_clash_37 : decode cX9_clash 37 = .ok (.if_icmp .gt 34, 3) := by decide +kernel
theorem dX9_clash_40 : decode cX9_clash 40 = .ok (.aload_n 0, 1) := by decide +kernel
theorem dX9_clash_41 : decode cX9_clash 41 = .ok (.iload_n 1, 1) := by decide +kernel
theorem dX9_clash_42 : decode cX9_clash 42 = .ok (.iload_n 2, 1) := by decide +kernel
theorem dX9_clash_43 : decode cX9_clash 43 = .ok (.iload 4, 2) := by decide +kernel
theorem dX9_clash_45 : decode cX9_clash 45 = .ok (.iload 5, 2) := by decide +kernel
theorem dX9_clash_47 : decode cX9_clash 47 = .ok (.invokevirtual 191, 3) := by decide +kernel
theorem dX9_clash_50 : decode cX9_clash 50 = .ok (.istore 6, 2) := by decide +kernel
theorem dX9_clash_52 : decode cX9_clash 52 = .ok (.iload 6, 2) := by decide +kernel
theorem dX9_clash_54 : decode cX9_clash 54 = .ok (.iload_n 3, 1) := by decide +kernel
theorem dX9_clash_55 : decode cX9_clash 55 = .ok (.if_icmp .le 8, 3) := by decide +kernel
theorem dX9_clash_58 : decode cX9_clash 58 = .ok (.iload 6, 2) := by decide +kernel
theorem dX9_clash_60 : decode cX9_clash 60 = .ok (.goto 4, 3) := by decide +kernel
theorem dX9_clash_63 : decode cX9_clash 63 = .ok (.iload_n 3, 1) := by decide +kernel
theorem dX9_clash_64 : decode cX9_clash 64 = .ok (.istore_n 3, 1) := by decide +kernel
theorem dX9_clash_65 : decode cX9_clash 65 = .ok (.iinc 5 1, 3) := by decide +kernel
theorem dX9_clash_68 : decode cX9_clash 68 = .ok (.goto (-34), 3) := by decide +kernel
theorem dX9_clash_71 : decode cX9_clash 71 = .ok (.iinc 4 1, 3) := by decide +kernel
theorem dX9_clash_74 : decode cX9_clash 74 = .ok (.goto (-50), 3) := by decide +kernel
theorem dX9_clash_77 : decode cX9_clash 77 = .ok (.iload_n 3, 1) := by decide +kernel
theorem dX9_clash_78 : decode cX9_clash 78 = .ok (.ireturn, 1) := by decide +kernel
theorem dX9_rows_0 : decode cX9_rows 0 = .ok (.aload_n 0, 1) := by decide +kernel
theorem dX9_rows_1 : decode cX9_rows 1 = .ok (.getfield 80, 3) := by decide +kernel
theorem dX9_rows_4 : decode cX9_rows 4 = .ok (.ifCond .ne 6, 3) := by decide +kernel
theorem dX9_rows_7 : decode cX9_rows 7 = .ok (.bipush (-3), 2) := by decide +kernel
theorem dX9_rows_9 : decode cX9_rows 9 = .ok (.ireturn, 1) := by decide +kernel
theorem dX9_rows_10 : decode cX9_rows 10 = .ok (.iconst 0, 1) := by decide +kernel
theorem dX9_rows_11 : decode cX9_rows 11 = .ok (.istore_n 1, 1) := by decide +kernel
theorem dX9_rows_12 : decode cX9_rows 12 = .ok (.aload_n 0, 1) := by decide +kernel
theorem dX9_rows_13 : decode cX9_rows 13 = .ok (.invokevirtual 259, 3) := by decide +kernel
theorem dX9_rows_16 : decode cX9_rows 16 = .ok (.iconst 1, 1) := by decide +kernel
theorem dX9_rows_17 : decode cX9_rows 17 = .ok (.istore_n 2, 1) := by decide +kernel
theorem dX9_rows_18 : decode cX9_rows 18 = .ok (.iload_n 2, 1) := by decide +kernel
theorem dX9_rows_19 : decode cX9_rows 19 = .ok (.ifCond .eq 26, 3) := by decide +kernel
theorem dX9_rows_22 : decode cX9_rows 22 = .ok (.iload_n 1, 1) := by decide +kernel
theorem dX9_rows_23 : decode cX9_rows 23 = .ok (.aload_n 0, 1) := by decide +kernel
theorem dX9_rows_24 : decode cX9_rows 24 = .ok (.invokevirtual 162, 3) := by decide +kernel
theorem dX9_rows_27 : decode cX9_rows 27 = .ok (.ifCond .eq 7, 3) := by decide +kernel
theorem dX9_rows_30 : decode cX9_rows 30 = .ok (.iconst 1, 1) := by decide +kernel
theorem dX9_rows_31 : decode cX9_rows 31 = .ok (.goto 4, 3) := by decide +kernel
theorem dX9_rows_34 : decode cX9_rows 34 = .ok (.iconst 0, 1) := by decide +kernel
theorem dX9_rows_35 : decode cX9_rows 35 = .ok (.iadd, 1) := by decide +kernel
theorem dX9_rows_36 : decode cX9_rows 36 = .ok (.istore_n 1, 1) := by decide +kernel
theorem dX9_rows_37 : decode cX9_rows 37 = .ok (.aload_n 0, 1) := by decide +kernel
theorem dX9_rows_38 : decode cX9_rows 38 = .ok (.invokevirtual 262, 3) := by decide +kernel
theorem dX9_rows_41 : decode cX9_rows 41 = .ok (.istore_n 2, 1) := by decide +kernel
theorem dX9_rows_42 : decode cX9_rows 42 = .ok (.goto (-24), 3) := by decide +kernel
theorem dX9_rows_45 : decode cX9_rows 45 = .ok (.iload_n 1, 1) := by decide +kernel
theorem dX9_rows_46 : decode cX9_rows 46 = .ok (.ireturn, 1) := by decide +kernel
theorem dX9_ways_0 : decode cX9_ways 0 = .ok (.aload_n 0, 1) := by decide +kernel
theorem dX9_ways_1 : decode cX9_ways 1 = .ok (.iload_n 1, 1) := by decide +kernel
theorem dX9_ways_2 : decode cX9_ways 2 = .ok (.invokevirtual 165, 3) := by decide +kernel
theorem dX9_ways_5 : decode cX9_ways 5 = .ok (.ifCond .eq 5, 3) := by decide +kernel
theorem dX9_ways_8 : decode cX9_ways 8 = .ok (.iconst (-1), 1) := by decide +kernel
theorem dX9_ways_9 : decode cX9_ways 9 = .ok (.ireturn, 1) := by decide +kernel
theorem dX9_ways_10 : decode cX9_ways 10 = .ok (.iload_n 2, 1) := by decide +kernel
theorem dX9_ways_11 : decode cX9_ways 11 = .ok (.i2l, 1) := by decide +kernel
theorem dX9_ways_12 : decode cX9_ways 12 = .ok (.ldc2_w 178, 3) := by decide +kernel
theorem dX9_ways_15 : decode cX9_ways 15 = .ok (.ldc2_w 186, 3) := by decide +kernel
theorem dX9_ways_18 : decode cX9_ways 18 = .ok (.invokestatic 83, 3) := by decide +kernel
theorem dX9_ways_21 : decode cX9_ways 21 = .ok (.ifCond .ne 6, 3) := by decide +kernel
theorem dX9_ways_24 : decode cX9_ways 24 = .ok (.bipush (-2), 2) := by decide +kernel
theorem dX9_ways_26 : decode cX9_ways 26 = .ok (.ireturn, 1) := by decide +kernel
theorem dX9_ways_27 : decode cX9_ways 27 = .ok (.iconst 0, 1) := by decide +kernel
theorem dX9_ways_28 : decode cX9_ways 28 = .ok (.istore_n 3, 1) := by decide +kernel
theorem dX9_ways_29 : decode cX9_ways 29 = .ok (.bipush (-9), 2) := by decide +kernel
theorem dX9_ways_31 : decode cX9_ways 31 = .ok (.istore 4, 2) := by decide +kernel
theorem dX9_ways_33 : decode cX9_ways 33 = .ok (.aload_n 0, 1) := by decide +kernel
theorem dX9_ways_34 : decode cX9_ways 34 = .ok (.invokevirtual 259, 3) := by decide +kernel
theorem dX9_ways_37 : decode cX9_ways 37 = .ok (.iconst 1, 1) := by decide +kernel
theorem dX9_ways_38 : decode cX9_ways 38 = .ok (.istore 5, 2) := by decide +kernel
theorem dX9_ways_40 : decode cX9_ways 40 = .ok (.iload 5, 2) := by decide +kernel
theorem dX9_ways_42 : decode cX9_ways 42 = .ok (.ifCond .eq 81, 3) := by decide +kernel
theorem dX9_ways_45 : decode cX9_ways 45 = .ok (.aload_n 0, 1) := by decide +kernel
theorem dX9_ways_46 : decode cX9_ways 46 = .ok (.iload_n 1, 1) := by decide +kernel
theorem dX9_ways_47 : decode cX9_ways 47 = .ok (.invokevirtual 265, 3) := by decide +kernel
theorem dX9_ways_50 : decode cX9_ways 50 = .ok (.ifCond .eq 14, 3) := by decide +kernel
theorem dX9_ways_53 : decode cX9_ways 53 = .ok (.aload_n 0, 1) := by decide +kernel
theorem dX9_ways_54 : decode cX9_ways 54 = .ok (.invokevirtual 162, 3) := by decide +kernel
theorem dX9_ways_57 : decode cX9_ways 57 = .ok (.ifCond .eq 7, 3) := by decide +kernel
theorem dX9_ways_60 : decode cX9_ways 60 = .ok (.iconst 1, 1) := by decide +kernel
theorem dX9_ways_61 : decode cX9_ways 61 = .ok (.goto 4, 3) := by decide +kernel
theorem dX9_ways_64 : decode cX9_ways 64 = .ok (.iconst 0, 1) := by decide +kernel
theorem dX9_ways_65 : decode cX9_ways 65 = .ok (.istore 6, 2) := by decide +kernel
theorem dX9_ways_67 : decode cX9_ways 67 = .ok (.iload 6, 2) := by decide +kernel
theorem dX9_ways_69 : decode cX9_ways 69 = .ok (.ifCond .eq 28, 3) := by decide +kernel
theorem dX9_ways_72 : decode cX9_ways 72 = .ok (.iload_n 3, 1) := by decide +kernel
theorem dX9_ways_73 : decode cX9_ways 73 = .ok (.ifCond .ne 24, 3) := by decide +kernel
theorem dX9_ways_76 : decode cX9_ways 76 = .ok (.iload_n 2, 1) := by decide +kernel
theorem dX9_ways_77 : decode cX9_ways 77 = .ok (.ifCond .lt 20, 3) := by decide +kernel
theorem dX9_ways_80 : decode cX9_ways 80 = .ok (.aload_n 0, 1) := by decide +kernel
theorem dX9_ways_81 : decode cX9_ways 81 = .ok (.iload_n 2, 1) := by decide +kernel
theorem dX9_ways_82 : decode cX9_ways 82 = .ok (.invokevirtual 172, 3) := by decide +kernel
theorem dX9_ways_85 : decode cX9_ways 85 = .ok (.ifCond .ne 12, 3) := by decide +kernel
theorem dX9_ways_88 : decode cX9_ways 88 = .ok (.aload_n 0, 1) := by decide +kernel
theorem dX9_ways_89 : decode cX9_ways 89 = .ok (.getfield 22, 3) := by decide +kernel
theorem dX9_ways_92 : decode cX9_ways 92 = .ok (.iload_n 2, 1) := by decide +kernel
theorem dX9_ways_93 : decode cX9_ways 93 = .ok (.iaload, 1) := by decide +kernel
theorem dX9_ways_94 : decode cX9_ways 94 = .ok (.goto 5, 3) := by decide +kernel
theorem dX9_ways_97 : decode cX9_ways 97 = .ok (.iload 4, 2) := by decide +kernel
theorem dX9_ways_99 : decode cX9_ways 99 = .ok (.istore 4, 2) := by decide +kernel
theorem dX9_ways_101 : decode cX9_ways 101 = .ok (.iload_n 3, 1) := by decide +kernel
theorem dX9_ways_102 : decode cX9_ways 102 = .ok (.iload 6, 2) := by decide +kernel
theorem dX9_ways_104 : decode cX9_ways 104 = .ok (.ifCond .eq 7, 3) := by decide +kernel
theorem dX9_ways_107 : decode cX9_ways 107 = .ok (.iconst 1, 1) := by decide +kernel
theorem dX9_ways_108 : decode cX9_ways 108 = .ok (.goto 4, 3) := by decide +kernel
theorem dX9_ways_111 : decode cX9_ways 111 = .ok (.iconst 0, 1) := by decide +kernel
theorem dX9_ways_112 : decode cX9_ways 112 = .ok (.iadd, 1) := by decide +kernel
theorem dX9_ways_113 : decode cX9_ways 113 = .ok (.istore_n 3, 1) := by decide +kernel
theorem dX9_ways_114 : decode cX9_ways 114 = .ok (.aload_n 0, 1) := by decide +kernel
theorem dX9_ways_115 : decode cX9_ways 115 = .ok (.invokevirtual 262, 3) := by decide +kernel
theorem dX9_ways_118 : decode cX9_ways 118 = .ok (.istore 5, 2) := by decide +kernel
theorem dX9_ways_120 : decode cX9_ways 120 = .ok (.goto (-80), 3) := by decide +kernel
theorem dX9_ways_123 : decode cX9_ways 123 = .ok (.iload_n 2, 1) := by decide +kernel
theorem dX9_ways_124 : decode cX9_ways 124 = .ok (.ifCond .ge 7, 3) := by decide +kernel
theorem dX9_ways_127 : decode cX9_ways 127 = .ok (.iload_n 3, 1) := by decide +kernel
theorem dX9_ways_128 : decode cX9_ways 128 = .ok (.goto 5, 3) := by decide +kernel
theorem dX9_ways_131 : decode cX9_ways 131 = .ok (.iload 4, 2) := by decide +kernel
theorem dX9_ways_133 : decode cX9_ways 133 = .ok (.ireturn, 1) := by decide +kernel
theorem dX9_next_0 : decode cX9_next 0 = .ok (.aload_n 0, 1) := by decide +kernel
theorem dX9_next_1 : decode cX9_next 1 = .ok (.iload_n 1, 1) := by decide +kernel
theorem dX9_next_2 : decode cX9_next 2 = .ok (.invokevirtual 165, 3) := by decide +kernel
theorem dX9_next_5 : decode cX9_next 5 = .ok (.ifCond .eq 5, 3) := by decide +kernel
theorem dX9_next_8 : decode cX9_next 8 = .ok (.iconst (-1), 1) := by decide +kernel
theorem dX9_next_9 : decode cX9_next 9 = .ok (.ireturn, 1) := by decide +kernel
theorem dX9_next_10 : decode cX9_next 10 = .ok (.iload_n 2, 1) := by decide +kernel
theorem dX9_next_11 : decode cX9_next 11 = .ok (.i2l, 1) := by decide +kernel
theorem dX9_next_12 : decode cX9_next 12 = .ok (.lconst 0, 1) := by decide +kernel
theorem dX9_next_13 : decode cX9_next 13 = .ok (.ldc2_w 186, 3) := by decide +kernel
theorem dX9_next_16 : decode cX9_next 16 = .ok (.invokestatic 83, 3) := by decide +kernel
theorem dX9_next_19 : decode cX9_next 19 = .ok (.ifCond .ne 6, 3) := by decide +kernel
theorem dX9_next_22 : decode cX9_next 22 = .ok (.bipush (-2), 2) := by decide +kernel
theorem dX9_next_24 : decode cX9_next 24 = .ok (.ireturn, 1) := by decide +kernel
theorem dX9_next_25 : decode cX9_next 25 = .ok (.aload_n 0, 1) := by decide +kernel
theorem dX9_next_26 : decode cX9_next 26 = .ok (.iload_n 1, 1) := by decide +kernel
theorem dX9_next_27 : decode cX9_next 27 = .ok (.invokevirtual 155, 3) := by decide +kernel
theorem dX9_next_30 : decode cX9_next 30 = .ok (.ifCond .le 6, 3) := by decide +kernel
theorem dX9_next_33 : decode cX9_next 33 = .ok (.bipush (-3), 2) := by decide +kernel
theorem dX9_next_35 : decode cX9_next 35 = .ok (.ireturn, 1) := by decide +kernel
theorem dX9_next_36 : decode cX9_next 36 = .ok (.aload_n 0, 1) := by decide +kernel
theorem dX9_next_37 : decode cX9_next 37 = .ok (.iload_n 1, 1) := by decide +kernel
theorem dX9_next_38 : decode cX9_next 38 = .ok (.invokevirtual 158, 3) := by decide +kernel
theorem dX9_next_41 : decode cX9_next 41 = .ok (.aload_n 0, 1) := by decide +kernel
theorem dX9_next_42 : decode cX9_next 42 = .ok (.invokevirtual 262, 3) := by decide +kernel
theorem dX9_next_45 : decode cX9_next 45 = .ok (.istore_n 3, 1) := by decide +kernel
theorem dX9_next_46 : decode cX9_next 46 = .ok (.iload_n 3, 1) := by decide +kernel
theorem dX9_next_47 : decode cX9_next 47 = .ok (.ifCond .eq 18, 3) := by decide +kernel
theorem dX9_next_50 : decode cX9_next 50 = .ok (.aload_n 0, 1) := by decide +kernel
theorem dX9_next_51 : decode cX9_next 51 = .ok (.invokevirtual 162, 3) := by decide +kernel
theorem dX9_next_54 : decode cX9_next 54 = .ok (.ifCond .ne 11, 3) := by decide +kernel
theorem dX9_next_57 : decode cX9_next 57 = .ok (.aload_n 0, 1) := by decide +kernel
theorem dX9_next_58 : decode cX9_next 58 = .ok (.invokevirtual 262, 3) := by decide +kernel
theorem dX9_next_61 : decode cX9_next 61 = .ok (.istore_n 3, 1) := by decide +kernel
theorem dX9_next_62 : decode cX9_next 62 = .ok (.goto (-16), 3) := by decide +kernel
theorem dX9_next_65 : decode cX9_next 65 = .ok (.iload_n 3, 1) := by decide +kernel
theorem dX9_next_66 : decode cX9_next 66 = .ok (.ifCond .eq 20, 3) := by decide +kernel
theorem dX9_next_69 : decode cX9_next 69 = .ok (.aload_n 0, 1) := by decide +kernel
theorem dX9_next_70 : decode cX9_next 70 = .ok (.iload_n 2, 1) := by decide +kernel
theorem dX9_next_71 : decode cX9_next 71 = .ok (.invokevirtual 172, 3) := by decide +kernel
theorem dX9_next_74 : decode cX9_next 74 = .ok (.ifCond .ne 12, 3) := by decide +kernel
theorem dX9_next_77 : decode cX9_next 77 = .ok (.aload_n 0, 1) := by decide +kernel
theorem dX9_next_78 : decode cX9_next 78 = .ok (.getfield 22, 3) := by decide +kernel
theorem dX9_next_81 : decode cX9_next 81 = .ok (.iload_n 2, 1) := by decide +kernel
theorem dX9_next_82 : decode cX9_next 82 = .ok (.iaload, 1) := by decide +kernel
theorem dX9_next_83 : decode cX9_next 83 = .ok (.goto 5, 3) := by decide +kernel
theorem dX9_next_86 : decode cX9_next 86 = .ok (.bipush (-9), 2) := by decide +kernel
theorem dX9_next_88 : decode cX9_next 88 = .ok (.ireturn, 1) := by decide +kernel
theorem dX9_reading_0 : decode cX9_reading 0 = .ok (.aload_n 0, 1) := by decide +kernel
theorem dX9_reading_1 : decode cX9_reading 1 = .ok (.iload_n 1, 1) := by decide +kernel
theorem dX9_reading_2 : decode cX9_reading 2 = .ok (.invokevirtual 165, 3) := by decide +kernel
theorem dX9_reading_5 : decode cX9_reading 5 = .ok (.ifCond .ne 11, 3) := by decide +kernel
theorem dX9_reading_8 : decode cX9_reading 8 = .ok (.aload_n 0, 1) := by decide +kernel
theorem dX9_reading_9 : decode cX9_reading 9 = .ok (.iload_n 2, 1) := by decide +kernel
theorem dX9_reading_10 : decode cX9_reading 10 = .ok (.invokevirtual 165, 3) := by decide +kernel
theorem dX9_reading_13 : decode cX9_reading 13 = .ok (.ifCond .eq 5, 3) := by decide +kernel
theorem dX9_reading_16 : decode cX9_reading 16 = .ok (.iconst (-1), 1) := by decide +kernel
theorem dX9_reading_17 : decode cX9_reading 17 = .ok (.ireturn, 1) := by decide +kernel
theorem dX9_reading_18 : decode cX9_reading 18 = .ok (.iload_n 3, 1) := by decide +kernel
theorem dX9_reading_19 : decode cX9_reading 19 = .ok (.invokestatic 188, 3) := by decide +kernel
theorem dX9_reading_22 : decode cX9_reading 22 = .ok (.ifCond .eq 24, 3) := by decide +kernel
theorem dX9_reading_25 : decode cX9_reading 25 = .ok (.iload 4, 2) := by decide +kernel
theorem dX9_reading_27 : decode cX9_reading 27 = .ok (.invokestatic 188, 3) := by decide +kernel
theorem dX9_reading_30 : decode cX9_reading 30 = .ok (.ifCond .eq 16, 3) := by decide +kernel
theorem dX9_reading_33 : decode cX9_reading 33 = .ok (.iload 5, 2) := by decide +kernel
theorem dX9_reading_35 : decode cX9_reading 35 = .ok (.i2l, 1) := by decide +kernel
theorem dX9_reading_36 : decode cX9_reading 36 = .ok (.lconst 0, 1) := by decide +kernel
theorem dX9_reading_37 : decode cX9_reading 37 = .ok (.ldc2_w 195, 3) := by decide +kernel
theorem dX9_reading_40 : decode cX9_reading 40 = .ok (.invokestatic 83, 3) := by decide +kernel
theorem dX9_reading_43 : decode cX9_reading 43 = .ok (.ifCond .ne 6, 3) := by decide +kernel
theorem dX9_reading_46 : decode cX9_reading 46 = .ok (.bipush (-2), 2) := by decide +kernel
theorem dX9_reading_48 : decode cX9_reading 48 = .ok (.ireturn, 1) := by decide +kernel
theorem dX9_reading_49 : decode cX9_reading 49 = .ok (.aload_n 0, 1) := by decide +kernel
theorem dX9_reading_50 : decode cX9_reading 50 = .ok (.getfield 142, 3) := by decide +kernel
theorem dX9_reading_53 : decode cX9_reading 53 = .ok (.bipush 8, 2) := by decide +kernel
theorem dX9_reading_55 : decode cX9_reading 55 = .ok (.if_icmp .ne 6, 3) := by decide +kernel
theorem dX9_reading_58 : decode cX9_reading 58 = .ok (.bipush (-4), 2) := by decide +kernel
theorem dX9_reading_60 : decode cX9_reading 60 = .ok (.ireturn, 1) := by decide +kernel
theorem dX9_reading_61 : decode cX9_reading 61 = .ok (.aload_n 0, 1) := by decide +kernel
theorem dX9_reading_62 : decode cX9_reading 62 = .ok (.getfield 43, 3) := by decide +kernel
theorem dX9_reading_65 : decode cX9_reading 65 = .ok (.aload_n 0, 1) := by decide +kernel
theorem dX9_reading_66 : decode cX9_reading 66 = .ok (.getfield 142, 3) := by decide +kernel
theorem dX9_reading_69 : decode cX9_reading 69 = .ok (.iload_n 1, 1) := by decide +kernel
theorem dX9_reading_70 : decode cX9_reading 70 = .ok (.iastore, 1) := by decide +kernel
theorem dX9_reading_71 : decode cX9_reading 71 = .ok (.aload_n 0, 1) := by decide +kernel
theorem dX9_reading_72 : decode cX9_reading 72 = .ok (.getfield 46, 3) := by decide +kernel
theorem dX9_reading_75 : decode cX9_reading 75 = .ok (.aload_n 0, 1) := by decide +kernel
theorem dX9_reading_76 : decode cX9_reading 76 = .ok (.getfield 142, 3) := by decide +kernel
theorem dX9_reading_79 : decode cX9_reading 79 = .ok (.iload_n 2, 1) := by decide +kernel
theorem dX9_reading_80 : decode cX9_reading 80 = .ok (.iastore, 1) := by decide +kernel
theorem dX9_reading_81 : decode cX9_reading 81 = .ok (.aload_n 0, 1) := by decide +kernel
theorem dX9_reading_82 : decode cX9_reading 82 = .ok (.getfield 49, 3) := by decide +kernel
theorem dX9_reading_85 : decode cX9_reading 85 = .ok (.aload_n 0, 1) := by decide +kernel
theorem dX9_reading_86 : decode cX9_reading 86 = .ok (.getfield 142, 3) := by decide +kernel
theorem dX9_reading_89 : decode cX9_reading 89 = .ok (.iload_n 3, 1) := by decide +kernel
theorem dX9_reading_90 : decode cX9_reading 90 = .ok (.iastore, 1) := by decide +kernel
theorem dX9_reading_91 : decode cX9_reading 91 = .ok (.aload_n 0, 1) := by decide +kernel
theorem dX9_reading_92 : decode cX9_reading 92 = .ok (.getfield 52, 3) := by decide +kernel
theorem dX9_reading_95 : decode cX9_reading 95 = .ok (.aload_n 0, 1) := by decide +kernel
theorem dX9_reading_96 : decode cX9_reading 96 = .ok (.getfield 142, 3) := by decide +kernel
theorem dX9_reading_99 : decode cX9_reading 99 = .ok (.iload 4, 2) := by decide +kernel
theorem dX9_reading_101 : decode cX9_reading 101 = .ok (.iastore, 1) := by decide +kernel
theorem dX9_reading_102 : decode cX9_reading 102 = .ok (.aload_n 0, 1) := by decide +kernel
theorem dX9_reading_103 : decode cX9_reading 103 = .ok (.getfield 55, 3) := by decide +kernel
theorem dX9_reading_106 : decode cX9_reading 106 = .ok (.aload_n 0, 1) := by decide +kernel
theorem dX9_reading_107 : decode cX9_reading 107 = .ok (.getfield 142, 3) := by decide +kernel
theorem dX9_reading_110 : decode cX9_reading 110 = .ok (.iload 5, 2) := by decide +kernel
theorem dX9_reading_112 : decode cX9_reading 112 = .ok (.iastore, 1) := by decide +kernel
theorem dX9_reading_113 : decode cX9_reading 113 = .ok (.aload_n 0, 1) := by decide +kernel
theorem dX9_reading_114 : decode cX9_reading 114 = .ok (.dup, 1) := by decide +kernel
theorem dX9_reading_115 : decode cX9_reading 115 = .ok (.getfield 142, 3) := by decide +kernel
theorem dX9_reading_118 : decode cX9_reading 118 = .ok (.iconst 1, 1) := by decide +kernel
theorem dX9_reading_119 : decode cX9_reading 119 = .ok (.iadd, 1) := by decide +kernel
theorem dX9_reading_120 : decode cX9_reading 120 = .ok (.putfield 142, 3) := by decide +kernel
theorem dX9_reading_123 : decode cX9_reading 123 = .ok (.aload_n 0, 1) := by decide +kernel
theorem dX9_reading_124 : decode cX9_reading 124 = .ok (.getfield 142, 3) := by decide +kernel
theorem dX9_reading_127 : decode cX9_reading 127 = .ok (.iconst 1, 1) := by decide +kernel
theorem dX9_reading_128 : decode cX9_reading 128 = .ok (.isub, 1) := by decide +kernel
theorem dX9_reading_129 : decode cX9_reading 129 = .ok (.ireturn, 1) := by decide +kernel
theorem dX9_back_0 : decode cX9_back 0 = .ok (.iload_n 1, 1) := by decide +kernel
theorem dX9_back_1 : decode cX9_back 1 = .ok (.i2l, 1) := by decide +kernel
theorem dX9_back_2 : decode cX9_back 2 = .ok (.lconst 0, 1) := by decide +kernel
theorem dX9_back_3 : decode cX9_back 3 = .ok (.aload_n 0, 1) := by decide +kernel
theorem dX9_back_4 : decode cX9_back 4 = .ok (.getfield 142, 3) := by decide +kernel
theorem dX9_back_7 : decode cX9_back 7 = .ok (.i2l, 1) := by decide +kernel
theorem dX9_back_8 : decode cX9_back 8 = .ok (.invokestatic 83, 3) := by decide +kernel
theorem dX9_back_11 : decode cX9_back 11 = .ok (.ifCond .ne 6, 3) := by decide +kernel
theorem dX9_back_14 : decode cX9_back 14 = .ok (.bipush (-2), 2) := by decide +kernel
theorem dX9_back_16 : decode cX9_back 16 = .ok (.ireturn, 1) := by decide +kernel
theorem dX9_back_17 : decode cX9_back 17 = .ok (.aload_n 0, 1) := by decide +kernel
theorem dX9_back_18 : decode cX9_back 18 = .ok (.dup, 1) := by decide +kernel
theorem dX9_back_19 : decode cX9_back 19 = .ok (.getfield 142, 3) := by decide +kernel
theorem dX9_back_22 : decode cX9_back 22 = .ok (.iload_n 1, 1) := by decide +kernel
theorem dX9_back_23 : decode cX9_back 23 = .ok (.isub, 1) := by decide +kernel
theorem dX9_back_24 : decode cX9_back 24 = .ok (.putfield 142, 3) := by decide +kernel
theorem dX9_back_27 : decode cX9_back 27 = .ok (.aload_n 0, 1) := by decide +kernel
theorem dX9_back_28 : decode cX9_back 28 = .ok (.getfield 142, 3) := by decide +kernel
theorem dX9_back_31 : decode cX9_back 31 = .ok (.ireturn, 1) := by decide +kernel
theorem dX9_areSo_0 : decode cX9_areSo 0 = .ok (.iconst 1, 1) := by decide +kernel
theorem dX9_areSo_1 : decode cX9_areSo 1 = .ok (.istore_n 1, 1) := by decide +kernel
theorem dX9_areSo_2 : decode cX9_areSo 2 = .ok (.iconst 0, 1) := by decide +kernel
theorem dX9_areSo_3 : decode cX9_areSo 3 = .ok (.istore_n 2, 1) := by decide +kernel
theorem dX9_areSo_4 : decode cX9_areSo 4 = .ok (.iload_n 2, 1) := by decide +kernel
theorem dX9_areSo_5 : decode cX9_areSo 5 = .ok (.aload_n 0, 1) := by decide +kernel
theorem dX9_areSo_6 : decode cX9_areSo 6 = .ok (.getfield 142, 3) := by decide +kernel
theorem dX9_areSo_9 : decode cX9_areSo 9 = .ok (.if_icmp .ge 56, 3) := by decide +kernel
theorem dX9_areSo_12 : decode cX9_areSo 12 = .ok (.iload_n 1, 1) := by decide +kernel
theorem dX9_areSo_13 : decode cX9_areSo 13 = .ok (.ifCond .eq 44, 3) := by decide +kernel
theorem dX9_areSo_16 : decode cX9_areSo 16 = .ok (.aload_n 0, 1) := by decide +kernel
theorem dX9_areSo_17 : decode cX9_areSo 17 = .ok (.aload_n 0, 1) := by decide +kernel
theorem dX9_areSo_18 : decode cX9_areSo 18 = .ok (.getfield 43, 3) := by decide +kernel
theorem dX9_areSo_21 : decode cX9_areSo 21 = .ok (.iload_n 2, 1) := by decide +kernel
theorem dX9_areSo_22 : decode cX9_areSo 22 = .ok (.iaload, 1) := by decide +kernel
theorem dX9_areSo_23 : decode cX9_areSo 23 = .ok (.aload_n 0, 1) := by decide +kernel
theorem dX9_areSo_24 : decode cX9_areSo 24 = .ok (.getfield 46, 3) := by decide +kernel
theorem dX9_areSo_27 : decode cX9_areSo 27 = .ok (.iload_n 2, 1) := by decide +kernel
theorem dX9_areSo_28 : decode cX9_areSo 28 = .ok (.iaload, 1) := by decide +kernel
theorem dX9_areSo_29 : decode cX9_areSo 29 = .ok (.aload_n 0, 1) := by decide +kernel
theorem dX9_areSo_30 : decode cX9_areSo 30 = .ok (.getfield 49, 3) := by decide +kernel
theorem dX9_areSo_33 : decode cX9_areSo 33 = .ok (.iload_n 2, 1) := by decide +kernel
theorem dX9_areSo_34 : decode cX9_areSo 34 = .ok (.iaload, 1) := by decide +kernel
theorem dX9_areSo_35 : decode cX9_areSo 35 = .ok (.aload_n 0, 1) := by decide +kernel
theorem dX9_areSo_36 : decode cX9_areSo 36 = .ok (.getfield 52, 3) := by decide +kernel
theorem dX9_areSo_39 : decode cX9_areSo 39 = .ok (.iload_n 2, 1) := by decide +kernel
theorem dX9_areSo_40 : decode cX9_areSo 40 = .ok (.iaload, 1) := by decide +kernel
theorem dX9_areSo_41 : decode cX9_areSo 41 = .ok (.invokevirtual 191, 3) := by decide +kernel
theorem dX9_areSo_44 : decode cX9_areSo 44 = .ok (.aload_n 0, 1) := by decide +kernel
theorem dX9_areSo_45 : decode cX9_areSo 45 = .ok (.getfield 55, 3) := by decide +kernel
theorem dX9_areSo_48 : decode cX9_areSo 48 = .ok (.iload_n 2, 1) := by decide +kernel
theorem dX9_areSo_49 : decode cX9_areSo 49 = .ok (.iaload, 1) := by decide +kernel
theorem dX9_areSo_50 : decode cX9_areSo 50 = .ok (.if_icmp .ne 7, 3) := by decide +kernel
theorem dX9_areSo_53 : decode cX9_areSo 53 = .ok (.iconst 1, 1) := by decide +kernel
theorem dX9_areSo_54 : decode cX9_areSo 54 = .ok (.goto 4, 3) := by decide +kernel
theorem dX9_areSo_57 : decode cX9_areSo 57 = .ok (.iconst 0, 1) := by decide +kernel
theorem dX9_areSo_58 : decode cX9_areSo 58 = .ok (.istore_n 1, 1) := by decide +kernel
theorem dX9_areSo_59 : decode cX9_areSo 59 = .ok (.iinc 2 1, 3) := by decide +kernel
theorem dX9_areSo_62 : decode cX9_areSo 62 = .ok (.goto (-58), 3) := by decide +kernel
theorem dX9_areSo_65 : decode cX9_areSo 65 = .ok (.iload_n 1, 1) := by decide +kernel
theorem dX9_areSo_66 : decode cX9_areSo 66 = .ok (.ireturn, 1) := by decide +kernel
theorem dX9_kinds_0 : decode cX9_kinds 0 = .ok (.aload_n 0, 1) := by decide +kernel
theorem dX9_kinds_1 : decode cX9_kinds 1 = .ok (.iload_n 1, 1) := by decide +kernel
theorem dX9_kinds_2 : decode cX9_kinds 2 = .ok (.invokevirtual 165, 3) := by decide +kernel
theorem dX9_kinds_5 : decode cX9_kinds 5 = .ok (.ifCond .eq 5, 3) := by decide +kernel
theorem dX9_kinds_8 : decode cX9_kinds 8 = .ok (.iconst (-1), 1) := by decide +kernel
theorem dX9_kinds_9 : decode cX9_kinds 9 = .ok (.ireturn, 1) := by decide +kernel
theorem dX9_kinds_10 : decode cX9_kinds 10 = .ok (.aload_n 0, 1) := by decide +kernel
theorem dX9_kinds_11 : decode cX9_kinds 11 = .ok (.getfield 7, 3) := by decide +kernel
theorem dX9_kinds_14 : decode cX9_kinds 14 = .ok (.iload_n 1, 1) := by decide +kernel
theorem dX9_kinds_15 : decode cX9_kinds 15 = .ok (.iaload, 1) := by decide +kernel
theorem dX9_kinds_16 : decode cX9_kinds 16 = .ok (.istore_n 2, 1) := by decide +kernel
theorem dX9_kinds_17 : decode cX9_kinds 17 = .ok (.iconst 0, 1) := by decide +kernel
theorem dX9_kinds_18 : decode cX9_kinds 18 = .ok (.istore_n 3, 1) := by decide +kernel
theorem dX9_kinds_19 : decode cX9_kinds 19 = .ok (.iconst 0, 1) := by decide +kernel
theorem dX9_kinds_20 : decode cX9_kinds 20 = .ok (.istore 4, 2) := by decide +kernel
theorem dX9_kinds_22 : decode cX9_kinds 22 = .ok (.iload 4, 2) := by decide +kernel
theorem dX9_kinds_24 : decode cX9_kinds 24 = .ok (.iconst 3, 1) := by decide +kernel
theorem dX9_kinds_25 : decode cX9_kinds 25 = .ok (.if_icmp .ge 35, 3) := by decide +kernel
theorem dX9_kinds_28 : decode cX9_kinds 28 = .ok (.aload_n 0, 1) := by decide +kernel
theorem dX9_kinds_29 : decode cX9_kinds 29 = .ok (.getfield 7, 3) := by decide +kernel
theorem dX9_kinds_32 : decode cX9_kinds 32 = .ok (.iload_n 1, 1) := by decide +kernel
theorem dX9_kinds_33 : decode cX9_kinds 33 = .ok (.iload 4, 2) := by decide +kernel
theorem dX9_kinds_35 : decode cX9_kinds 35 = .ok (.iastore, 1) := by decide +kernel
theorem dX9_kinds_36 : decode cX9_kinds 36 = .ok (.iload_n 3, 1) := by decide +kernel
theorem dX9_kinds_37 : decode cX9_kinds 37 = .ok (.aload_n 0, 1) := by decide +kernel
theorem dX9_kinds_38 : decode cX9_kinds 38 = .ok (.invokevirtual 268, 3) := by decide +kernel
theorem dX9_kinds_41 : decode cX9_kinds 41 = .ok (.ifCond .eq 10, 3) := by decide +kernel
theorem dX9_kinds_44 : decode cX9_kinds 44 = .ok (.iconst 1, 1) := by decide +kernel
theorem dX9_kinds_45 : decode cX9_kinds 45 = .ok (.iload 4, 2) := by decide +kernel
theorem dX9_kinds_47 : decode cX9_kinds 47 = .ok (.ishl, 1) := by decide +kernel
theorem dX9_kinds_48 : decode cX9_kinds 48 = .ok (.goto 4, 3) := by decide +kernel
theorem dX9_kinds_51 : decode cX9_kinds 51 = .ok (.iconst 0, 1) := by decide +kernel
theorem dX9_kinds_52 : decode cX9_kinds 52 = .ok (.ior, 1) := by decide +kernel
theorem dX9_kinds_53 : decode cX9_kinds 53 = .ok (.istore_n 3, 1) := by decide +kernel
theorem dX9_kinds_54 : decode cX9_kinds 54 = .ok (.iinc 4 1, 3) := by decide +kernel
theorem dX9_kinds_57 : decode cX9_kinds 57 = .ok (.goto (-35), 3) := by decide +kernel
theorem dX9_kinds_60 : decode cX9_kinds 60 = .ok (.aload_n 0, 1) := by decide +kernel
theorem dX9_kinds_61 : decode cX9_kinds 61 = .ok (.getfield 7, 3) := by decide +kernel
theorem dX9_kinds_64 : decode cX9_kinds 64 = .ok (.iload_n 1, 1) := by decide +kernel
theorem dX9_kinds_65 : decode cX9_kinds 65 = .ok (.iload_n 2, 1) := by decide +kernel
theorem dX9_kinds_66 : decode cX9_kinds 66 = .ok (.iastore, 1) := by decide +kernel
theorem dX9_kinds_67 : decode cX9_kinds 67 = .ok (.iload_n 3, 1) := by decide +kernel
theorem dX9_kinds_68 : decode cX9_kinds 68 = .ok (.ireturn, 1) := by decide +kernel
theorem dX9_pitches_0 : decode cX9_pitches 0 = .ok (.aload_n 0, 1) := by decide +kernel
theorem dX9_pitches_1 : decode cX9_pitches 1 = .ok (.iload_n 1, 1) := by decide +kernel
theorem dX9_pitches_2 : decode cX9_pitches 2 = .ok (.invokevirtual 165, 3) := by decide +kernel
theorem dX9_pitches_5 : decode cX9_pitches 5 = .ok (.ifCond .ne 11, 3) := by decide +kernel
theorem dX9_pitches_8 : decode cX9_pitches 8 = .ok (.aload_n 0, 1) := by decide +kernel
theorem dX9_pitches_9 : decode cX9_pitches 9 = .ok (.iload_n 2, 1) := by decide +kernel
theorem dX9_pitches_10 : decode cX9_pitches 10 = .ok (.invokevirtual 172, 3) := by decide +kernel
theorem dX9_pitches_13 : decode cX9_pitches 13 = .ok (.ifCond .eq 5, 3) := by decide +kernel
theorem dX9_pitches_16 : decode cX9_pitches 16 = .ok (.iconst (-1), 1) := by decide +kernel
theorem dX9_pitches_17 : decode cX9_pitches 17 = .ok (.ireturn, 1) := by decide +kernel
theorem dX9_pitches_18 : decode cX9_pitches 18 = .ok (.bipush 6, 2) := by decide +kernel
theorem dX9_pitches_20 : decode cX9_pitches 20 = .ok (.iload_n 1, 1) := by decide +kernel
theorem dX9_pitches_21 : decode cX9_pitches 21 = .ok (.imul, 1) := by decide +kernel
theorem dX9_pitches_22 : decode cX9_pitches 22 = .ok (.iload_n 2, 1) := by decide +kernel
theorem dX9_pitches_23 : decode cX9_pitches 23 = .ok (.iadd, 1) := by decide +kernel
theorem dX9_pitches_24 : decode cX9_pitches 24 = .ok (.istore_n 3, 1) := by decide +kernel
theorem dX9_pitches_25 : decode cX9_pitches 25 = .ok (.aload_n 0, 1) := by decide +kernel
theorem dX9_pitches_26 : decode cX9_pitches 26 = .ok (.getfield 13, 3) := by decide +kernel
theorem dX9_pitches_29 : decode cX9_pitches 29 = .ok (.iload_n 3, 1) := by decide +kernel
theorem dX9_pitches_30 : decode cX9_pitches 30 = .ok (.iaload, 1) := by decide +kernel
theorem dX9_pitches_31 : decode cX9_pitches 31 = .ok (.istore 4, 2) := by decide +kernel
theorem dX9_pitches_33 : decode cX9_pitches 33 = .ok (.iconst 0, 1) := by decide +kernel
theorem dX9_pitches_34 : decode cX9_pitches 34 = .ok (.istore 5, 2) := by decide +kernel
theorem dX9_pitches_36 : decode cX9_pitches 36 = .ok (.iconst 0, 1) := by decide +kernel
theorem dX9_pitches_37 : decode cX9_pitches 37 = .ok (.istore 6, 2) := by decide +kernel
theorem dX9_pitches_39 : decode cX9_pitches 39 = .ok (.iload 6, 2) := by decide +kernel
theorem dX9_pitches_41 : decode cX9_pitches 41 = .ok (.aload_n 0, 1) := by decide +kernel
theorem dX9_pitches_42 : decode cX9_pitches 42 = .ok (.getfield 87, 3) := by decide +kernel
theorem dX9_pitches_45 : decode cX9_pitches 45 = .ok (.if_icmp .ge 37, 3) := by decide +kernel
theorem dX9_pitches_48 : decode cX9_pitches 48 = .ok (.aload_n 0, 1) := by decide +kernel
theorem dX9_pitches_49 : decode cX9_pitches 49 = .ok (.getfield 13, 3) := by decide +kernel
theorem dX9_pitches_52 : decode cX9_pitches 52 = .ok (.iload_n 3, 1) := by decide +kernel
theorem dX9_pitches_53 : decode cX9_pitches 53 = .ok (.iload 6, 2) := by decide +kernel
theorem dX9_pitches_55 : decode cX9_pitches 55 = .ok (.iastore, 1) := by decide +kernel
theorem dX9_pitches_56 : decode cX9_pitches 56 = .ok (.iload 5, 2) := by decide +kernel
theorem dX9_pitches_58 : decode cX9_pitches 58 = .ok (.aload_n 0, 1) := by decide +kernel
theorem dX9_pitches_59 : decode cX9_pitches 59 = .ok (.invokevirtual 268, 3) := by decide +kernel
theorem dX9_pitches_62 : decode cX9_pitches 62 = .ok (.ifCond .eq 10, 3) := by decide +kernel
theorem dX9_pitches_65 : decode cX9_pitches 65 = .ok (.iconst 1, 1) := by decide +kernel
theorem dX9_pitches_66 : decode cX9_pitches 66 = .ok (.iload 6, 2) := by decide +kernel
theorem dX9_pitches_68 : decode cX9_pitches 68 = .ok (.ishl, 1) := by decide +kernel
theorem dX9_pitches_69 : decode cX9_pitches 69 = .ok (.goto 4, 3) := by decide +kernel
theorem dX9_pitches_72 : decode cX9_pitches 72 = .ok (.iconst 0, 1) := by decide +kernel
theorem dX9_pitches_73 : decode cX9_pitches 73 = .ok (.ior, 1) := by decide +kernel
theorem dX9_pitches_74 : decode cX9_pitches 74 = .ok (.istore 5, 2) := by decide +kernel
theorem dX9_pitches_76 : decode cX9_pitches 76 = .ok (.iinc 6 1, 3) := by decide +kernel
theorem dX9_pitches_79 : decode cX9_pitches 79 = .ok (.goto (-40), 3) := by decide +kernel
theorem dX9_pitches_82 : decode cX9_pitches 82 = .ok (.aload_n 0, 1) := by decide +kernel
theorem dX9_pitches_83 : decode cX9_pitches 83 = .ok (.getfield 13, 3) := by decide +kernel
theorem dX9_pitches_86 : decode cX9_pitches 86 = .ok (.iload_n 3, 1) := by decide +kernel
theorem dX9_pitches_87 : decode cX9_pitches 87 = .ok (.iload 4, 2) := by decide +kernel
theorem dX9_pitches_89 : decode cX9_pitches 89 = .ok (.iastore, 1) := by decide +kernel
theorem dX9_pitches_90 : decode cX9_pitches 90 = .ok (.iload 5, 2) := by decide +kernel
theorem dX9_pitches_92 : decode cX9_pitches 92 = .ok (.ireturn, 1) := by decide +kernel
theorem dX9_odds_0 : decode cX9_odds 0 = .ok (.aload_n 0, 1) := by decide +kernel
theorem dX9_odds_1 : decode cX9_odds 1 = .ok (.iload_n 1, 1) := by decide +kernel
theorem dX9_odds_2 : decode cX9_odds 2 = .ok (.invokevirtual 165, 3) := by decide +kernel
theorem dX9_odds_5 : decode cX9_odds 5 = .ok (.ifCond .ne 25, 3) := by decide +kernel
theorem dX9_odds_8 : decode cX9_odds 8 = .ok (.iload_n 2, 1) := by decide +kernel
theorem dX9_odds_9 : decode cX9_odds 9 = .ok (.i2l, 1) := by decide +kernel
theorem dX9_odds_10 : decode cX9_odds 10 = .ok (.lconst 0, 1) := by decide +kernel
theorem dX9_odds_11 : decode cX9_odds 11 = .ok (.ldc2_w 195, 3) := by decide +kernel
theorem dX9_odds_14 : decode cX9_odds 14 = .ok (.invokestatic 83, 3) := by decide +kernel
theorem dX9_odds_17 : decode cX9_odds 17 = .ok (.ifCond .eq 13, 3) := by decide +kernel
theorem dX9_odds_20 : decode cX9_odds 20 = .ok (.iload_n 3, 1) := by decide +kernel
theorem dX9_odds_21 : decode cX9_odds 21 = .ok (.i2l, 1) := by decide +kernel
theorem dX9_odds_22 : decode cX9_odds 22 = .ok (.lconst 0, 1) := by decide +kernel
theorem dX9_odds_23 : decode cX9_odds 23 = .ok (.lconst 1, 1) := by decide +kernel
theorem dX9_odds_24 : decode cX9_odds 24 = .ok (.invokestatic 83, 3) := by decide +kernel
theorem dX9_odds_27 : decode cX9_odds 27 = .ok (.ifCond .ne 7, 3) := by decide +kernel
theorem dX9_odds_30 : decode cX9_odds 30 = .ok (.invokestatic 76, 3) := by decide +kernel
theorem dX9_odds_33 : decode cX9_odds 33 = .ok (.lreturn, 1) := by decide +kernel
theorem dX9_odds_34 : decode cX9_odds 34 = .ok (.iconst 0, 1) := by decide +kernel
theorem dX9_odds_35 : decode cX9_odds 35 = .ok (.istore 4, 2) := by decide +kernel
theorem dX9_odds_37 : decode cX9_odds 37 = .ok (.bipush (-5), 2) := by decide +kernel
theorem dX9_odds_39 : decode cX9_odds 39 = .ok (.istore 5, 2) := by decide +kernel
theorem dX9_odds_41 : decode cX9_odds 41 = .ok (.iload 5, 2) := by decide +kernel
theorem dX9_odds_43 : decode cX9_odds 43 = .ok (.iconst 5, 1) := by decide +kernel
theorem dX9_odds_44 : decode cX9_odds 44 = .ok (.if_icmp .gt 59, 3) := by decide +kernel
theorem dX9_odds_47 : decode cX9_odds 47 = .ok (.bipush (-5), 2) := by decide +kernel
theorem dX9_odds_49 : decode cX9_odds 49 = .ok (.istore 6, 2) := by decide +kernel
theorem dX9_odds_51 : decode cX9_odds 51 = .ok (.iload 6, 2) := by decide +kernel
theorem dX9_odds_53 : decode cX9_odds 53 = .ok (.iconst 5, 1) := by decide +kernel
theorem dX9_odds_54 : decode cX9_odds 54 = .ok (.if_icmp .gt 43, 3) := by decide +kernel
theorem dX9_odds_57 : decode cX9_odds 57 = .ok (.iload 4, 2) := by decide +kernel
theorem dX9_odds_59 : decode cX9_odds 59 = .ok (.iload 5, 2) := by decide +kernel
theorem dX9_odds_61 : decode cX9_odds 61 = .ok (.ifCond .ne 8, 3) := by decide +kernel
theorem dX9_odds_64 : decode cX9_odds 64 = .ok (.iload 6, 2) := by decide +kernel
theorem dX9_odds_66 : decode cX9_odds 66 = .ok (.ifCond .eq 21, 3) := by decide +kernel
theorem dX9_odds_69 : decode cX9_odds 69 = .ok (.aload_n 0, 1) := by decide +kernel
theorem dX9_odds_70 : decode cX9_odds 70 = .ok (.iload_n 1, 1) := by decide +kernel
theorem dX9_odds_71 : decode cX9_odds 71 = .ok (.iload_n 1, 1) := by decide +kernel
theorem dX9_odds_72 : decode cX9_odds 72 = .ok (.iload 5, 2) := by decide +kernel
theorem dX9_odds_74 : decode cX9_odds 74 = .ok (.iload 6, 2) := by decide +kernel
theorem dX9_odds_76 : decode cX9_odds 76 = .ok (.invokevirtual 191, 3) := by decide +kernel
theorem dX9_odds_79 : decode cX9_odds 79 = .ok (.iload_n 2, 1) := by decide +kernel
theorem dX9_odds_80 : decode cX9_odds 80 = .ok (.if_icmp .lt 7, 3) := by decide +kernel
theorem dX9_odds_83 : decode cX9_odds 83 = .ok (.iconst 1, 1) := by decide +kernel
theorem dX9_odds_84 : decode cX9_odds 84 = .ok (.goto 4, 3) := by decide +kernel
theorem dX9_odds_87 : decode cX9_odds 87 = .ok (.iconst 0, 1) := by decide +kernel
theorem dX9_odds_88 : decode cX9_odds 88 = .ok (.iadd, 1) := by decide +kernel
theorem dX9_odds_89 : decode cX9_odds 89 = .ok (.istore 4, 2) := by decide +kernel
theorem dX9_odds_91 : decode cX9_odds 91 = .ok (.iinc 6 1, 3) := by decide +kernel
theorem dX9_odds_94 : decode cX9_odds 94 = .ok (.goto (-43), 3) := by decide +kernel
theorem dX9_odds_97 : decode cX9_odds 97 = .ok (.iinc 5 1, 3) := by decide +kernel
theorem dX9_odds_100 : decode cX9_odds 100 = .ok (.goto (-59), 3) := by decide +kernel
theorem dX9_odds_103 : decode cX9_odds 103 = .ok (.iload 4, 2) := by decide +kernel
theorem dX9_odds_105 : decode cX9_odds 105 = .ok (.i2l, 1) := by decide +kernel
theorem dX9_odds_106 : decode cX9_odds 106 = .ok (.ldc2_w 271, 3) := by decide +kernel
theorem dX9_odds_109 : decode cX9_odds 109 = .ok (.iload_n 3, 1) := by decide +kernel
theorem dX9_odds_110 : decode cX9_odds 110 = .ok (.invokestatic 273, 3) := by decide +kernel
theorem dX9_odds_113 : decode cX9_odds 113 = .ok (.lreturn, 1) := by decide +kernel
theorem dX9_noSheet_0 : decode cX9_noSheet 0 = .ok (.iload_n 0, 1) := by decide +kernel
theorem dX9_noSheet_1 : decode cX9_noSheet 1 = .ok (.i2l, 1) := by decide +kernel
theorem dX9_noSheet_2 : decode cX9_noSheet 2 = .ok (.lconst 0, 1) := by decide +kernel
theorem dX9_noSheet_3 : decode cX9_noSheet 3 = .ok (.ldc2_w 219, 3) := by decide +kernel
theorem dX9_noSheet_6 : decode cX9_noSheet 6 = .ok (.invokestatic 83, 3) := by decide +kernel
theorem dX9_noSheet_9 : decode cX9_noSheet 9 = .ok (.ifCond .ne 7, 3) := by decide +kernel
theorem dX9_noSheet_12 : decode cX9_noSheet 12 = .ok (.iconst 1, 1) := by decide +kernel
theorem dX9_noSheet_13 : decode cX9_noSheet 13 = .ok (.goto 4, 3) := by decide +kernel
theorem dX9_noSheet_16 : decode cX9_noSheet 16 = .ok (.iconst 0, 1) := by decide +kernel
theorem dX9_noSheet_17 : decode cX9_noSheet 17 = .ok (.ireturn, 1) := by decide +kernel
theorem dX9_sheet_0 : decode cX9_sheet 0 = .ok (.iload_n 1, 1) := by decide +kernel
theorem dX9_sheet_1 : decode cX9_sheet 1 = .ok (.invokestatic 125, 3) := by decide +kernel
theorem dX9_sheet_4 : decode cX9_sheet 4 = .ok (.ifCond .eq 9, 3) := by decide +kernel
theorem dX9_sheet_7 : decode cX9_sheet 7 = .ok (.aload_n 0, 1) := by decide +kernel
theorem dX9_sheet_8 : decode cX9_sheet 8 = .ok (.iconst (-1), 1) := by decide +kernel
theorem dX9_sheet_9 : decode cX9_sheet 9 = .ok (.invokevirtual 129, 3) := by decide +kernel
theorem dX9_sheet_12 : decode cX9_sheet 12 = .ok (.ireturn, 1) := by decide +kernel
theorem dX9_sheet_13 : decode cX9_sheet 13 = .ok (.iload_n 2, 1) := by decide +kernel
theorem dX9_sheet_14 : decode cX9_sheet 14 = .ok (.i2l, 1) := by decide +kernel
theorem dX9_sheet_15 : decode cX9_sheet 15 = .ok (.lconst 0, 1) := by decide +kernel
theorem dX9_sheet_16 : decode cX9_sheet 16 = .ok (.ldc2_w 109, 3) := by decide +kernel
theorem dX9_sheet_19 : decode cX9_sheet 19 = .ok (.invokestatic 83, 3) := by decide +kernel
theorem dX9_sheet_22 : decode cX9_sheet 22 = .ok (.ifCond .eq 9, 3) := by decide +kernel
theorem dX9_sheet_25 : decode cX9_sheet 25 = .ok (.iload_n 3, 1) := by decide +kernel
theorem dX9_sheet_26 : decode cX9_sheet 26 = .ok (.bipush 60, 2) := by decide +kernel
theorem dX9_sheet_28 : decode cX9_sheet 28 = .ok (.if_icmp .le 10, 3) := by decide +kernel
theorem dX9_sheet_31 : decode cX9_sheet 31 = .ok (.aload_n 0, 1) := by decide +kernel
theorem dX9_sheet_32 : decode cX9_sheet 32 = .ok (.bipush (-2), 2) := by decide +kernel
theorem dX9_sheet_34 : decode cX9_sheet 34 = .ok (.invokevirtual 129, 3) := by decide +kernel
theorem dX9_sheet_37 : decode cX9_sheet 37 = .ok (.ireturn, 1) := by decide +kernel
theorem dX9_sheet_38 : decode cX9_sheet 38 = .ok (.iload_n 3, 1) := by decide +kernel
theorem dX9_sheet_39 : decode cX9_sheet 39 = .ok (.ifCond .ge 9, 3) := by decide +kernel
theorem dX9_sheet_42 : decode cX9_sheet 42 = .ok (.aload_n 0, 1) := by decide +kernel
theorem dX9_sheet_43 : decode cX9_sheet 43 = .ok (.iconst 4, 1) := by decide +kernel
theorem dX9_sheet_44 : decode cX9_sheet 44 = .ok (.invokevirtual 117, 3) := by decide +kernel
theorem dX9_sheet_47 : decode cX9_sheet 47 = .ok (.ireturn, 1) := by decide +kernel
theorem dX9_sheet_48 : decode cX9_sheet 48 = .ok (.aload_n 0, 1) := by decide +kernel
theorem dX9_sheet_49 : decode cX9_sheet 49 = .ok (.getfield 58, 3) := by decide +kernel
theorem dX9_sheet_52 : decode cX9_sheet 52 = .ok (.iload_n 1, 1) := by decide +kernel
theorem dX9_sheet_53 : decode cX9_sheet 53 = .ok (.iload_n 3, 1) := by decide +kernel
theorem dX9_sheet_54 : decode cX9_sheet 54 = .ok (.iastore, 1) := by decide +kernel
theorem dX9_sheet_55 : decode cX9_sheet 55 = .ok (.aload_n 0, 1) := by decide +kernel
theorem dX9_sheet_56 : decode cX9_sheet 56 = .ok (.getfield 61, 3) := by decide +kernel
theorem dX9_sheet_59 : decode cX9_sheet 59 = .ok (.iload_n 1, 1) := by decide +kernel
theorem dX9_sheet_60 : decode cX9_sheet 60 = .ok (.iload_n 2, 1) := by decide +kernel
theorem dX9_sheet_61 : decode cX9_sheet 61 = .ok (.iastore, 1) := by decide +kernel
theorem dX9_sheet_62 : decode cX9_sheet 62 = .ok (.iconst 0, 1) := by decide +kernel
theorem dX9_sheet_63 : decode cX9_sheet 63 = .ok (.istore 4, 2) := by decide +kernel
theorem dX9_sheet_65 : decode cX9_sheet 65 = .ok (.iload 4, 2) := by decide +kernel
theorem dX9_sheet_67 : decode cX9_sheet 67 = .ok (.iload_n 3, 1) := by decide +kernel
theorem dX9_sheet_68 : decode cX9_sheet 68 = .ok (.if_icmp .ge 22, 3) := by decide +kernel
theorem dX9_sheet_71 : decode cX9_sheet 71 = .ok (.aload_n 0, 1) := by decide +kernel
theorem dX9_sheet_72 : decode cX9_sheet 72 = .ok (.getfield 64, 3) := by decide +kernel
theorem dX9_sheet_75 : decode cX9_sheet 75 = .ok (.bipush 60, 2) := by decide +kernel
theorem dX9_sheet_77 : decode cX9_sheet 77 = .ok (.iload_n 1, 1) := by decide +kernel
theorem dX9_sheet_78 : decode cX9_sheet 78 = .ok (.imul, 1) := by decide +kernel
theorem dX9_sheet_79 : decode cX9_sheet 79 = .ok (.iload 4, 2) := by decide +kernel
theorem dX9_sheet_81 : decode cX9_sheet 81 = .ok (.iadd, 1) := by decide +kernel
theorem dX9_sheet_82 : decode cX9_sheet 82 = .ok (.iconst 0, 1) := by decide +kernel
theorem dX9_sheet_83 : decode cX9_sheet 83 = .ok (.iastore, 1) := by decide +kernel
theorem dX9_sheet_84 : decode cX9_sheet 84 = .ok (.iinc 4 1, 3) := by decide +kernel
theorem dX9_sheet_87 : decode cX9_sheet 87 = .ok (.goto (-22), 3) := by decide +kernel
theorem dX9_sheet_90 : decode cX9_sheet 90 = .ok (.aload_n 0, 1) := by decide +kernel
theorem dX9_sheet_91 : decode cX9_sheet 91 = .ok (.iconst 1, 1) := by decide +kernel
theorem dX9_sheet_92 : decode cX9_sheet 92 = .ok (.invokevirtual 129, 3) := by decide +kernel
theorem dX9_sheet_95 : decode cX9_sheet 95 = .ok (.ireturn, 1) := by decide +kernel
theorem dX9_lose_0 : decode cX9_lose 0 = .ok (.iload_n 1, 1) := by decide +kernel
theorem dX9_lose_1 : decode cX9_lose 1 = .ok (.invokestatic 125, 3) := by decide +kernel
theorem dX9_lose_4 : decode cX9_lose 4 = .ok (.ifCond .eq 5, 3) := by decide +kernel
theorem dX9_lose_7 : decode cX9_lose 7 = .ok (.iconst (-1), 1) := by decide +kernel
theorem dX9_lose_8 : decode cX9_lose 8 = .ok (.ireturn, 1) := by decide +kernel
theorem dX9_lose_9 : decode cX9_lose 9 = .ok (.aload_n 0, 1) := by decide +kernel
theorem dX9_lose_10 : decode cX9_lose 10 = .ok (.getfield 58, 3) := by decide +kernel
theorem dX9_lose_13 : decode cX9_lose 13 = .ok (.iload_n 1, 1) := by decide +kernel
theorem dX9_lose_14 : decode cX9_lose 14 = .ok (.iaload, 1) := by decide +kernel
theorem dX9_lose_15 : decode cX9_lose 15 = .ok (.ifCond .ge 7, 3) := by decide +kernel
theorem dX9_lose_18 : decode cX9_lose 18 = .ok (.iconst 0, 1) := by decide +kernel
theorem dX9_lose_19 : decode cX9_lose 19 = .ok (.goto 4, 3) := by decide +kernel
theorem dX9_lose_22 : decode cX9_lose 22 = .ok (.iconst 1, 1) := by decide +kernel
theorem dX9_lose_23 : decode cX9_lose 23 = .ok (.istore_n 2, 1) := by decide +kernel
theorem dX9_lose_24 : decode cX9_lose 24 = .ok (.aload_n 0, 1) := by decide +kernel
theorem dX9_lose_25 : decode cX9_lose 25 = .ok (.getfield 58, 3) := by decide +kernel
theorem dX9_lose_28 : decode cX9_lose 28 = .ok (.iload_n 1, 1) := by decide +kernel
theorem dX9_lose_29 : decode cX9_lose 29 = .ok (.iconst (-1), 1) := by decide +kernel
theorem dX9_lose_30 : decode cX9_lose 30 = .ok (.iastore, 1) := by decide +kernel
theorem dX9_lose_31 : decode cX9_lose 31 = .ok (.iload_n 2, 1) := by decide +kernel
theorem dX9_lose_32 : decode cX9_lose 32 = .ok (.ireturn, 1) := by decide +kernel
theorem dX9_noCell_0 : decode cX9_noCell 0 = .ok (.aload_n 0, 1) := by decide +kernel
theorem dX9_noCell_1 : decode cX9_noCell 1 = .ok (.getfield 58, 3) := by decide +kernel
theorem dX9_noCell_4 : decode cX9_noCell 4 = .ok (.iload_n 1, 1) := by decide +kernel
theorem dX9_noCell_5 : decode cX9_noCell 5 = .ok (.iaload, 1) := by decide +kernel
theorem dX9_noCell_6 : decode cX9_noCell 6 = .ok (.ifCond .ge 7, 3) := by decide +kernel
theorem dX9_noCell_9 : decode cX9_noCell 9 = .ok (.iconst 1, 1) := by decide +kernel
theorem dX9_noCell_10 : decode cX9_noCell 10 = .ok (.goto 26, 3) := by decide +kernel
theorem dX9_noCell_13 : decode cX9_noCell 13 = .ok (.iload_n 2, 1) := by decide +kernel
theorem dX9_noCell_14 : decode cX9_noCell 14 = .ok (.i2l, 1) := by decide +kernel
theorem dX9_noCell_15 : decode cX9_noCell 15 = .ok (.lconst 0, 1) := by decide +kernel
theorem dX9_noCell_16 : decode cX9_noCell 16 = .ok (.aload_n 0, 1) := by decide +kernel
theorem dX9_noCell_17 : decode cX9_noCell 17 = .ok (.getfield 58, 3) := by decide +kernel
theorem dX9_noCell_20 : decode cX9_noCell 20 = .ok (.iload_n 1, 1) := by decide +kernel
theorem dX9_noCell_21 : decode cX9_noCell 21 = .ok (.iaload, 1) := by decide +kernel
theorem dX9_noCell_22 : decode cX9_noCell 22 = .ok (.i2l, 1) := by decide +kernel
theorem dX9_noCell_23 : decode cX9_noCell 23 = .ok (.lconst 1, 1) := by decide +kernel
theorem dX9_noCell_24 : decode cX9_noCell 24 = .ok (.lsub, 1) := by decide +kernel
theorem dX9_noCell_25 : decode cX9_noCell 25 = .ok (.invokestatic 83, 3) := by decide +kernel
theorem dX9_noCell_28 : decode cX9_noCell 28 = .ok (.ifCond .eq 7, 3) := by decide +kernel
theorem dX9_noCell_31 : decode cX9_noCell 31 = .ok (.iconst 0, 1) := by decide +kernel
theorem dX9_noCell_32 : decode cX9_noCell 32 = .ok (.goto 4, 3) := by decide +kernel
theorem dX9_noCell_35 : decode cX9_noCell 35 = .ok (.iconst 3, 1) := by decide +kernel
theorem dX9_noCell_36 : decode cX9_noCell 36 = .ok (.ireturn, 1) := by decide +kernel
theorem dX9_put_0 : decode cX9_put 0 = .ok (.iload_n 1, 1) := by decide +kernel
theorem dX9_put_1 : decode cX9_put 1 = .ok (.invokestatic 125, 3) := by decide +kernel
theorem dX9_put_4 : decode cX9_put 4 = .ok (.ifCond .eq 9, 3) := by decide +kernel
theorem dX9_put_7 : decode cX9_put 7 = .ok (.aload_n 0, 1) := by decide +kernel
theorem dX9_put_8 : decode cX9_put 8 = .ok (.iconst (-1), 1) := by decide +kernel
theorem dX9_put_9 : decode cX9_put 9 = .ok (.invokevirtual 129, 3) := by decide +kernel
theorem dX9_put_12 : decode cX9_put 12 = .ok (.ireturn, 1) := by decide +kernel
theorem dX9_put_13 : decode cX9_put 13 = .ok (.aload_n 0, 1) := by decide +kernel
theorem dX9_put_14 : decode cX9_put 14 = .ok (.iload_n 1, 1) := by decide +kernel
theorem dX9_put_15 : decode cX9_put 15 = .ok (.iload_n 2, 1) := by decide +kernel
theorem dX9_put_16 : decode cX9_put 16 = .ok (.invokevirtual 277, 3) := by decide +kernel
theorem dX9_put_19 : decode cX9_put 19 = .ok (.ifCond .le 14, 3) := by decide +kernel
theorem dX9_put_22 : decode cX9_put 22 = .ok (.aload_n 0, 1) := by decide +kernel
theorem dX9_put_23 : decode cX9_put 23 = .ok (.aload_n 0, 1) := by decide +kernel
theorem dX9_put_24 : decode cX9_put 24 = .ok (.iload_n 1, 1) := by decide +kernel
theorem dX9_put_25 : decode cX9_put 25 = .ok (.iload_n 2, 1) := by decide +kernel
theorem dX9_put_26 : decode cX9_put 26 = .ok (.invokevirtual 277, 3) := by decide +kernel
theorem dX9_put_29 : decode cX9_put 29 = .ok (.invokevirtual 117, 3) := by decide +kernel
theorem dX9_put_32 : decode cX9_put 32 = .ok (.ireturn, 1) := by decide +kernel
theorem dX9_put_33 : decode cX9_put 33 = .ok (.aload_n 0, 1) := by decide +kernel
theorem dX9_put_34 : decode cX9_put 34 = .ok (.getfield 64, 3) := by decide +kernel
theorem dX9_put_37 : decode cX9_put 37 = .ok (.bipush 60, 2) := by decide +kernel
theorem dX9_put_39 : decode cX9_put 39 = .ok (.iload_n 1, 1) := by decide +kernel
theorem dX9_put_40 : decode cX9_put 40 = .ok (.imul, 1) := by decide +kernel
theorem dX9_put_41 : decode cX9_put 41 = .ok (.iload_n 2, 1) := by decide +kernel
theorem dX9_put_42 : decode cX9_put 42 = .ok (.iadd, 1) := by decide +kernel
theorem dX9_put_43 : decode cX9_put 43 = .ok (.aload_n 0, 1) := by decide +kernel
theorem dX9_put_44 : decode cX9_put 44 = .ok (.getfield 61, 3) := by decide +kernel
theorem dX9_put_47 : decode cX9_put 47 = .ok (.iload_n 1, 1) := by decide +kernel
theorem dX9_put_48 : decode cX9_put 48 = .ok (.iaload, 1) := by decide +kernel
theorem dX9_put_49 : decode cX9_put 49 = .ok (.ifCond .ne 8, 3) := by decide +kernel
theorem dX9_put_52 : decode cX9_put 52 = .ok (.iload_n 3, 1) := by decide +kernel
theorem dX9_put_53 : decode cX9_put 53 = .ok (.i2b, 1) := by decide +kernel
theorem dX9_put_54 : decode cX9_put 54 = .ok (.goto 19, 3) := by decide +kernel
theorem dX9_put_57 : decode cX9_put 57 = .ok (.aload_n 0, 1) := by decide +kernel
theorem dX9_put_58 : decode cX9_put 58 = .ok (.getfield 61, 3) := by decide +kernel
theorem dX9_put_61 : decode cX9_put 61 = .ok (.iload_n 1, 1) := by decide +kernel
theorem dX9_put_62 : decode cX9_put 62 = .ok (.iaload, 1) := by decide +kernel
theorem dX9_put_63 : decode cX9_put 63 = .ok (.iconst 1, 1) := by decide +kernel
theorem dX9_put_64 : decode cX9_put 64 = .ok (.if_icmp .ne 8, 3) := by decide +kernel
theorem dX9_put_67 : decode cX9_put 67 = .ok (.iload_n 3, 1) := by decide +kernel
theorem dX9_put_68 : decode cX9_put 68 = .ok (.i2s, 1) := by decide +kernel
theorem dX9_put_69 : decode cX9_put 69 = .ok (.goto 4, 3) := by decide +kernel
theorem dX9_put_72 : decode cX9_put 72 = .ok (.iload_n 3, 1) := by decide +kernel
theorem dX9_put_73 : decode cX9_put 73 = .ok (.iastore, 1) := by decide +kernel
theorem dX9_put_74 : decode cX9_put 74 = .ok (.aload_n 0, 1) := by decide +kernel
theorem dX9_put_75 : decode cX9_put 75 = .ok (.iconst 1, 1) := by decide +kernel
theorem dX9_put_76 : decode cX9_put 76 = .ok (.invokevirtual 129, 3) := by decide +kernel
theorem dX9_put_79 : decode cX9_put 79 = .ok (.ireturn, 1) := by decide +kernel
theorem dX9_cell_0 : decode cX9_cell 0 = .ok (.aload_n 0, 1) := by decide +kernel
theorem dX9_cell_1 : decode cX9_cell 1 = .ok (.iconst 0, 1) := by decide +kernel
theorem dX9_cell_2 : decode cX9_cell 2 = .ok (.putfield 72, 3) := by decide +kernel
theorem dX9_cell_5 : decode cX9_cell 5 = .ok (.iload_n 1, 1) := by decide +kernel
theorem dX9_cell_6 : decode cX9_cell 6 = .ok (.invokestatic 125, 3) := by decide +kernel
theorem dX9_cell_9 : decode cX9_cell 9 = .ok (.ifCond .ne 15, 3) := by decide +kernel
theorem dX9_cell_12 : decode cX9_cell 12 = .ok (.iload_n 3, 1) := by decide +kernel
theorem dX9_cell_13 : decode cX9_cell 13 = .ok (.i2l, 1) := by decide +kernel
theorem dX9_cell_14 : decode cX9_cell 14 = .ok (.lconst 0, 1) := by decide +kernel
theorem dX9_cell_15 : decode cX9_cell 15 = .ok (.ldc2_w 109, 3) := by decide +kernel
theorem dX9_cell_18 : decode cX9_cell 18 = .ok (.invokestatic 83, 3) := by decide +kernel
theorem dX9_cell_21 : decode cX9_cell 21 = .ok (.ifCond .ne 7, 3) := by decide +kernel
theorem dX9_cell_24 : decode cX9_cell 24 = .ok (.invokestatic 76, 3) := by decide +kernel
theorem dX9_cell_27 : decode cX9_cell 27 = .ok (.lreturn, 1) := by decide +kernel
theorem dX9_cell_28 : decode cX9_cell 28 = .ok (.aload_n 0, 1) := by decide +kernel
theorem dX9_cell_29 : decode cX9_cell 29 = .ok (.getfield 58, 3) := by decide +kernel
theorem dX9_cell_32 : decode cX9_cell 32 = .ok (.iload_n 1, 1) := by decide +kernel
theorem dX9_cell_33 : decode cX9_cell 33 = .ok (.iaload, 1) := by decide +kernel
theorem dX9_cell_34 : decode cX9_cell 34 = .ok (.ifCond .lt 19, 3) := by decide +kernel
theorem dX9_cell_37 : decode cX9_cell 37 = .ok (.aload_n 0, 1) := by decide +kernel
theorem dX9_cell_38 : decode cX9_cell 38 = .ok (.getfield 61, 3) := by decide +kernel
theorem dX9_cell_41 : decode cX9_cell 41 = .ok (.iload_n 1, 1) := by decide +kernel
theorem dX9_cell_42 : decode cX9_cell 42 = .ok (.iaload, 1) := by decide +kernel
theorem dX9_cell_43 : decode cX9_cell 43 = .ok (.iload_n 3, 1) := by decide +kernel
theorem dX9_cell_44 : decode cX9_cell 44 = .ok (.if_icmp .eq 9, 3) := by decide +kernel
theorem dX9_cell_47 : decode cX9_cell 47 = .ok (.aload_n 0, 1) := by decide +kernel
theorem dX9_cell_48 : decode cX9_cell 48 = .ok (.iconst 2, 1) := by decide +kernel
theorem dX9_cell_49 : decode cX9_cell 49 = .ok (.invokevirtual 280, 3) := by decide +kernel
theorem dX9_cell_52 : decode cX9_cell 52 = .ok (.lreturn, 1) := by decide +kernel
theorem dX9_cell_53 : decode cX9_cell 53 = .ok (.aload_n 0, 1) := by decide +kernel
theorem dX9_cell_54 : decode cX9_cell 54 = .ok (.iload_n 1, 1) := by decide +kernel
theorem dX9_cell_55 : decode cX9_cell 55 = .ok (.iload_n 2, 1) := by decide +kernel
theorem dX9_cell_56 : decode cX9_cell 56 = .ok (.invokevirtual 277, 3) := by decide +kernel
theorem dX9_cell_59 : decode cX9_cell 59 = .ok (.ifCond .le 16, 3) := by decide +kernel
theorem dX9_cell_62 : decode cX9_cell 62 = .ok (.aload_n 0, 1) := by decide +kernel
theorem dX9_cell_63 : decode cX9_cell 63 = .ok (.aload_n 0, 1) := by decide +kernel
theorem dX9_cell_64 : decode cX9_cell 64 = .ok (.iload_n 1, 1) := by decide +kernel
theorem dX9_cell_65 : decode cX9_cell 65 = .ok (.iload_n 2, 1) := by decide +kernel
theorem dX9_cell_66 : decode cX9_cell 66 = .ok (.invokevirtual 277, 3) := by decide +kernel
theorem dX9_cell_69 : decode cX9_cell 69 = .ok (.invokevirtual 280, 3) := by decide +kernel
theorem dX9_cell_72 : decode cX9_cell 72 = .ok (.goto 15, 3) := by decide +kernel
theorem dX9_cell_75 : decode cX9_cell 75 = .ok (.aload_n 0, 1) := by decide +kernel
theorem dX9_cell_76 : decode cX9_cell 76 = .ok (.getfield 64, 3) := by decide +kernel
theorem dX9_cell_79 : decode cX9_cell 79 = .ok (.bipush 60, 2) := by decide +kernel
theorem dX9_cell_81 : decode cX9_cell 81 = .ok (.iload_n 1, 1) := by decide +kernel
theorem dX9_cell_82 : decode cX9_cell 82 = .ok (.imul, 1) := by decide +kernel
theorem dX9_cell_83 : decode cX9_cell 83 = .ok (.iload_n 2, 1) := by decide +kernel
theorem dX9_cell_84 : decode cX9_cell 84 = .ok (.iadd, 1) := by decide +kernel
theorem dX9_cell_85 : decode cX9_cell 85 = .ok (.iaload, 1) := by decide +kernel
theorem dX9_cell_86 : decode cX9_cell 86 = .ok (.i2l, 1) := by decide +kernel
theorem dX9_cell_87 : decode cX9_cell 87 = .ok (.lreturn, 1) := by decide +kernel
theorem dX9_isBeyond_0 : decode cX9_isBeyond 0 = .ok (.iload_n 0, 1) := by decide +kernel
theorem dX9_isBeyond_1 : decode cX9_isBeyond 1 = .ok (.ifCond .lt 19, 3) := by decide +kernel
theorem dX9_isBeyond_4 : decode cX9_isBeyond 4 = .ok (.lload_n 1, 1) := by decide +kernel
theorem dX9_isBeyond_5 : decode cX9_isBeyond 5 = .ok (.lconst 0, 1) := by decide +kernel
theorem dX9_isBeyond_6 : decode cX9_isBeyond 6 = .ok (.lcmp, 1) := by decide +kernel
theorem dX9_isBeyond_7 : decode cX9_isBeyond 7 = .ok (.ifCond .lt 13, 3) := by decide +kernel
theorem dX9_isBeyond_10 : decode cX9_isBeyond 10 = .ok (.iload_n 0, 1) := by decide +kernel
theorem dX9_isBeyond_11 : decode cX9_isBeyond 11 = .ok (.i2l, 1) := by decide +kernel
theorem dX9_isBeyond_12 : decode cX9_isBeyond 12 = .ok (.lload_n 1, 1) := by decide +kernel
theorem dX9_isBeyond_13 : decode cX9_isBeyond 13 = .ok (.ladd, 1) := by decide +kernel
theorem dX9_isBeyond_14 : decode cX9_isBeyond 14 = .ok (.iload_n 3, 1) := by decide +kernel
theorem dX9_isBeyond_15 : decode cX9_isBeyond 15 = .ok (.i2l, 1) := by decide +kernel
theorem dX9_isBeyond_16 : decode cX9_isBeyond 16 = .ok (.lcmp, 1) := by decide +kernel
theorem dX9_isBeyond_17 : decode cX9_isBeyond 17 = .ok (.ifCond .le 7, 3) := by decide +kernel
theorem dX9_isBeyond_20 : decode cX9_isBeyond 20 = .ok (.iconst 1, 1) := by decide +kernel
theorem dX9_isBeyond_21 : decode cX9_isBeyond 21 = .ok (.goto 4, 3) := by decide +kernel
theorem dX9_isBeyond_24 : decode cX9_isBeyond 24 = .ok (.iconst 0, 1) := by decide +kernel
theorem dX9_isBeyond_25 : decode cX9_isBeyond 25 = .ok (.ireturn, 1) := by decide +kernel
theorem dX9_copy_0 : decode cX9_copy 0 = .ok (.iload_n 1, 1) := by decide +kernel
theorem dX9_copy_1 : decode cX9_copy 1 = .ok (.invokestatic 125, 3) := by decide +kernel
theorem dX9_copy_4 : decode cX9_copy 4 = .ok (.ifCond .ne 10, 3) := by decide +kernel
theorem dX9_copy_7 : decode cX9_copy 7 = .ok (.iload_n 3, 1) := by decide +kernel
theorem dX9_copy_8 : decode cX9_copy 8 = .ok (.invokestatic 125, 3) := by decide +kernel
theorem dX9_copy_11 : decode cX9_copy 11 = .ok (.ifCond .eq 9, 3) := by decide +kernel
theorem dX9_copy_14 : decode cX9_copy 14 = .ok (.aload_n 0, 1) := by decide +kernel
theorem dX9_copy_15 : decode cX9_copy 15 = .ok (.iconst (-1), 1) := by decide +kernel
theorem dX9_copy_16 : decode cX9_copy 16 = .ok (.invokevirtual 129, 3) := by decide +kernel
theorem dX9_copy_19 : decode cX9_copy 19 = .ok (.ireturn, 1) := by decide +kernel
theorem dX9_copy_20 : decode cX9_copy 20 = .ok (.aload_n 0, 1) := by decide +kernel
theorem dX9_copy_21 : decode cX9_copy 21 = .ok (.getfield 58, 3) := by decide +kernel
theorem dX9_copy_24 : decode cX9_copy 24 = .ok (.iload_n 1, 1) := by decide +kernel
theorem dX9_copy_25 : decode cX9_copy 25 = .ok (.iaload, 1) := by decide +kernel
theorem dX9_copy_26 : decode cX9_copy 26 = .ok (.ifCond .lt 12, 3) := by decide +kernel
theorem dX9_copy_29 : decode cX9_copy 29 = .ok (.aload_n 0, 1) := by decide +kernel
theorem dX9_copy_30 : decode cX9_copy 30 = .ok (.getfield 58, 3) := by decide +kernel
theorem dX9_copy_33 : decode cX9_copy 33 = .ok (.iload_n 3, 1) := by decide +kernel
theorem dX9_copy_34 : decode cX9_copy 34 = .ok (.iaload, 1) := by decide +kernel
theorem dX9_copy_35 : decode cX9_copy 35 = .ok (.ifCond .ge 9, 3) := by decide +kernel
theorem dX9_copy_38 : decode cX9_copy 38 = .ok (.aload_n 0, 1) := by decide +kernel
theorem dX9_copy_39 : decode cX9_copy 39 = .ok (.iconst 1, 1) := by decide +kernel
theorem dX9_copy_40 : decode cX9_copy 40 = .ok (.invokevirtual 117, 3) := by decide +kernel
theorem dX9_copy_43 : decode cX9_copy 43 = .ok (.ireturn, 1) := by decide +kernel
theorem dX9_copy_44 : decode cX9_copy 44 = .ok (.aload_n 0, 1) := by decide +kernel
theorem dX9_copy_45 : decode cX9_copy 45 = .ok (.getfield 61, 3) := by decide +kernel
theorem dX9_copy_48 : decode cX9_copy 48 = .ok (.iload_n 1, 1) := by decide +kernel
theorem dX9_copy_49 : decode cX9_copy 49 = .ok (.iaload, 1) := by decide +kernel
theorem dX9_copy_50 : decode cX9_copy 50 = .ok (.aload_n 0, 1) := by decide +kernel
theorem dX9_copy_51 : decode cX9_copy 51 = .ok (.getfield 61, 3) := by decide +kernel
theorem dX9_copy_54 : decode cX9_copy 54 = .ok (.iload_n 3, 1) := by decide +kernel
theorem dX9_copy_55 : decode cX9_copy 55 = .ok (.iaload, 1) := by decide +kernel
theorem dX9_copy_56 : decode cX9_copy 56 = .ok (.if_icmp .eq 9, 3) := by decide +kernel
theorem dX9_copy_59 : decode cX9_copy 59 = .ok (.aload_n 0, 1) := by decide +kernel
theorem dX9_copy_60 : decode cX9_copy 60 = .ok (.iconst 2, 1) := by decide +kernel
theorem dX9_copy_61 : decode cX9_copy 61 = .ok (.invokevirtual 117, 3) := by decide +kernel
theorem dX9_copy_64 : decode cX9_copy 64 = .ok (.ireturn, 1) := by decide +kernel
theorem dX9_copy_65 : decode cX9_copy 65 = .ok (.iload_n 2, 1) := by decide +kernel
theorem dX9_copy_66 : decode cX9_copy 66 = .ok (.iload 5, 2) := by decide +kernel
theorem dX9_copy_68 : decode cX9_copy 68 = .ok (.i2l, 1) := by decide +kernel
theorem dX9_copy_69 : decode cX9_copy 69 = .ok (.aload_n 0, 1) := by decide +kernel
theorem dX9_copy_70 : decode cX9_copy 70 = .ok (.getfield 58, 3) := by decide +kernel
theorem dX9_copy_73 : decode cX9_copy 73 = .ok (.iload_n 1, 1) := by decide +kernel
theorem dX9_copy_74 : decode cX9_copy 74 = .ok (.iaload, 1) := by decide +kernel
theorem dX9_copy_75 : decode cX9_copy 75 = .ok (.invokestatic 121, 3) := by decide +kernel
theorem dX9_copy_78 : decode cX9_copy 78 = .ok (.ifCond .ne 20, 3) := by decide +kernel
theorem dX9_copy_81 : decode cX9_copy 81 = .ok (.iload 4, 2) := by decide +kernel
theorem dX9_copy_83 : decode cX9_copy 83 = .ok (.iload 5, 2) := by decide +kernel
theorem dX9_copy_85 : decode cX9_copy 85 = .ok (.i2l, 1) := by decide +kernel
theorem dX9_copy_86 : decode cX9_copy 86 = .ok (.aload_n 0, 1) := by decide +kernel
theorem dX9_copy_87 : decode cX9_copy 87 = .ok (.getfield 58, 3) := by decide +kernel
theorem dX9_copy_90 : decode cX9_copy 90 = .ok (.iload_n 3, 1) := by decide +kernel
theorem dX9_copy_91 : decode cX9_copy 91 = .ok (.iaload, 1) := by decide +kernel
theorem dX9_copy_92 : decode cX9_copy 92 = .ok (.invokestatic 121, 3) := by decide +kernel
theorem dX9_copy_95 : decode cX9_copy 95 = .ok (.ifCond .eq 9, 3) := by decide +kernel
theorem dX9_copy_98 : decode cX9_copy 98 = .ok (.aload_n 0, 1) := by decide +kernel
theorem dX9_copy_99 : decode cX9_copy 99 = .ok (.iconst 3, 1) := by decide +kernel
theorem dX9_copy_100 : decode cX9_copy 100 = .ok (.invokevirtual 117, 3) := by decide +kernel
theorem dX9_copy_103 : decode cX9_copy 103 = .ok (.ireturn, 1) := by decide +kernel
theorem dX9_copy_104 : decode cX9_copy 104 = .ok (.iconst 0, 1) := by decide +kernel
theorem dX9_copy_105 : decode cX9_copy 105 = .ok (.istore 6, 2) := by decide +kernel
theorem dX9_copy_107 : decode cX9_copy 107 = .ok (.iload 6, 2) := by decide +kernel
theorem dX9_copy_109 : decode cX9_copy 109 = .ok (.iload 5, 2) := by decide +kernel
theorem dX9_copy_111 : decode cX9_copy 111 = .ok (.if_icmp .ge 30, 3) := by decide +kernel
theorem dX9_copy_114 : decode cX9_copy 114 = .ok (.aload_n 0, 1) := by decide +kernel
theorem dX9_copy_115 : decode cX9_copy 115 = .ok (.getfield 67, 3) := by decide +kernel
theorem dX9_copy_118 : decode cX9_copy 118 = .ok (.iload 6, 2) := by decide +kernel
theorem dX9_copy_120 : decode cX9_copy 120 = .ok (.aload_n 0, 1) := by decide +kernel
theorem dX9_copy_121 : decode cX9_copy 121 = .ok (.getfield 64, 3) := by decide +kernel
theorem dX9_copy_124 : decode cX9_copy 124 = .ok (.bipush 60, 2) := by decide +kernel
theorem dX9_copy_126 : decode cX9_copy 126 = .ok (.iload_n 1, 1) := by decide +kernel
theorem dX9_copy_127 : decode cX9_copy 127 = .ok (.imul, 1) := by decide +kernel
theorem dX9_copy_128 : decode cX9_copy 128 = .ok (.iload_n 2, 1) := by decide +kernel
theorem dX9_copy_129 : decode cX9_copy 129 = .ok (.iadd, 1) := by decide +kernel
theorem dX9_copy_130 : decode cX9_copy 130 = .ok (.iload 6, 2) := by decide +kernel
theorem dX9_copy_132 : decode cX9_copy 132 = .ok (.iadd, 1) := by decide +kernel
theorem dX9_copy_133 : decode cX9_copy 133 = .ok (.iaload, 1) := by decide +kernel
theorem dX9_copy_134 : decode cX9_copy 134 = .ok (.iastore, 1) := by decide +kernel
theorem dX9_copy_135 : decode cX9_copy 135 = .ok (.iinc 6 1, 3) := by decide +kernel
theorem dX9_copy_138 : decode cX9_copy 138 = .ok (.goto (-31), 3) := by decide +kernel
theorem dX9_copy_141 : decode cX9_copy 141 = .ok (.iconst 0, 1) := by decide +kernel
theorem dX9_copy_142 : decode cX9_copy 142 = .ok (.istore 6, 2) := by decide +kernel
theorem dX9_copy_144 : decode cX9_copy 144 = .ok (.iload 6, 2) := by decide +kernel
theorem dX9_copy_146 : decode cX9_copy 146 = .ok (.iload 5, 2) := by decide +kernel
theorem dX9_copy_148 : decode cX9_copy 148 = .ok (.if_icmp .ge 31, 3) := by decide +kernel
theorem dX9_copy_151 : decode cX9_copy 151 = .ok (.aload_n 0, 1) := by decide +kernel
theorem dX9_copy_152 : decode cX9_copy 152 = .ok (.getfield 64, 3) := by decide +kernel
theorem dX9_copy_155 : decode cX9_copy 155 = .ok (.bipush 60, 2) := by decide +kernel
theorem dX9_copy_157 : decode cX9_copy 157 = .ok (.iload_n 3, 1) := by decide +kernel
theorem dX9_copy_158 : decode cX9_copy 158 = .ok (.imul, 1) := by decide +kernel
theorem dX9_copy_159 : decode cX9_copy 159 = .ok (.iload 4, 2) := by decide +kernel
theorem dX9_copy_161 : decode cX9_copy 161 = .ok (.iadd, 1) := by decide +kernel
theorem dX9_copy_162 : decode cX9_copy 162 = .ok (.iload 6, 2) := by decide +kernel
theorem dX9_copy_164 : decode cX9_copy 164 = .ok (.iadd, 1) := by decide +kernel
theorem dX9_copy_165 : decode cX9_copy 165 = .ok (.aload_n 0, 1) := by decide +kernel
theorem dX9_copy_166 : decode cX9_copy 166 = .ok (.getfield 67, 3) := by decide +kernel
theorem dX9_copy_169 : decode cX9_copy 169 = .ok (.iload 6, 2) := by decide +kernel
theorem dX9_copy_171 : decode cX9_copy 171 = .ok (.iaload, 1) := by decide +kernel
theorem dX9_copy_172 : decode cX9_copy 172 = .ok (.iastore, 1) := by decide +kernel
theorem dX9_copy_173 : decode cX9_copy 173 = .ok (.iinc 6 1, 3) := by decide +kernel
theorem dX9_copy_176 : decode cX9_copy 176 = .ok (.goto (-32), 3) := by decide +kernel
theorem dX9_copy_179 : decode cX9_copy 179 = .ok (.aload_n 0, 1) := by decide +kernel
theorem dX9_copy_180 : decode cX9_copy 180 = .ok (.iload 5, 2) := by decide +kernel
theorem dX9_copy_182 : decode cX9_copy 182 = .ok (.invokevirtual 129, 3) := by decide +kernel
theorem dX9_copy_185 : decode cX9_copy 185 = .ok (.ireturn, 1) := by decide +kernel
theorem dX9_traced_0 : decode cX9_traced 0 = .ok (.aload_n 0, 1) := by decide +kernel
theorem dX9_traced_1 : decode cX9_traced 1 = .ok (.bipush 31, 2) := by decide +kernel
theorem dX9_traced_3 : decode cX9_traced 3 = .ok (.aload_n 0, 1) := by decide +kernel
theorem dX9_traced_4 : decode cX9_traced 4 = .ok (.getfield 284, 3) := by decide +kernel
theorem dX9_traced_7 : decode cX9_traced 7 = .ok (.imul, 1) := by decide +kernel
theorem dX9_traced_8 : decode cX9_traced 8 = .ok (.iload_n 1, 1) := by decide +kernel
theorem dX9_traced_9 : decode cX9_traced 9 = .ok (.iadd, 1) := by decide +kernel
theorem dX9_traced_10 : decode cX9_traced 10 = .ok (.putfield 284, 3) := by decide +kernel
theorem dX9_traced_13 : decode cX9_traced 13 = .ok (.return_, 1) := by decide +kernel
theorem dX9_tell_0 : decode cX9_tell 0 = .ok (.aload_n 0, 1) := by decide +kernel
theorem dX9_tell_1 : decode cX9_tell 1 = .ok (.iload_n 1, 1) := by decide +kernel
theorem dX9_tell_2 : decode cX9_tell 2 = .ok (.invokevirtual 165, 3) := by decide +kernel
theorem dX9_tell_5 : decode cX9_tell 5 = .ok (.ifCond .eq 5, 3) := by decide +kernel
theorem dX9_tell_8 : decode cX9_tell 8 = .ok (.iconst (-1), 1) := by decide +kernel
theorem dX9_tell_9 : decode cX9_tell 9 = .ok (.ireturn, 1) := by decide +kernel
theorem dX9_tell_10 : decode cX9_tell 10 = .ok (.aload_n 0, 1) := by decide +kernel
theorem dX9_tell_11 : decode cX9_tell 11 = .ok (.getfield 7, 3) := by decide +kernel
theorem dX9_tell_14 : decode cX9_tell 14 = .ok (.iload_n 1, 1) := by decide +kernel
theorem dX9_tell_15 : decode cX9_tell 15 = .ok (.iaload, 1) := by decide +kernel
theorem dX9_tell_16 : decode cX9_tell 16 = .ok (.istore_n 2, 1) := by decide +kernel
theorem dX9_tell_17 : decode cX9_tell 17 = .ok (.iload_n 2, 1) := by decide +kernel
theorem dX9_tell_18 : decode cX9_tell 18 = .ok (.iconst 2, 1) := by decide +kernel
theorem dX9_tell_19 : decode cX9_tell 19 = .ok (.if_icmp .ne 8, 3) := by decide +kernel
theorem dX9_tell_22 : decode cX9_tell 22 = .ok (.aload_n 0, 1) := by decide +kernel
theorem dX9_tell_23 : decode cX9_tell 23 = .ok (.iconst 3, 1) := by decide +kernel
theorem dX9_tell_24 : decode cX9_tell 24 = .ok (.invokevirtual 287, 3) := by decide +kernel
theorem dX9_tell_27 : decode cX9_tell 27 = .ok (.iload_n 2, 1) := by decide +kernel
theorem dX9_tell_28 : decode cX9_tell 28 = .ok (.ifCond .le 8, 3) := by decide +kernel
theorem dX9_tell_31 : decode cX9_tell 31 = .ok (.aload_n 0, 1) := by decide +kernel
theorem dX9_tell_32 : decode cX9_tell 32 = .ok (.iconst 2, 1) := by decide +kernel
theorem dX9_tell_33 : decode cX9_tell 33 = .ok (.invokevirtual 287, 3) := by decide +kernel
theorem dX9_tell_36 : decode cX9_tell 36 = .ok (.aload_n 0, 1) := by decide +kernel
theorem dX9_tell_37 : decode cX9_tell 37 = .ok (.iconst 1, 1) := by decide +kernel
theorem dX9_tell_38 : decode cX9_tell 38 = .ok (.invokevirtual 287, 3) := by decide +kernel
theorem dX9_tell_41 : decode cX9_tell 41 = .ok (.iload_n 2, 1) := by decide +kernel
theorem dX9_tell_42 : decode cX9_tell 42 = .ok (.iconst 2, 1) := by decide +kernel
theorem dX9_tell_43 : decode cX9_tell 43 = .ok (.if_icmp .ne 8, 3) := by decide +kernel
theorem dX9_tell_46 : decode cX9_tell 46 = .ok (.aload_n 0, 1) := by decide +kernel
theorem dX9_tell_47 : decode cX9_tell 47 = .ok (.iconst 1, 1) := by decide +kernel
theorem dX9_tell_48 : decode cX9_tell 48 = .ok (.invokevirtual 287, 3) := by decide +kernel
theorem dX9_tell_51 : decode cX9_tell 51 = .ok (.aload_n 0, 1) := by decide +kernel
theorem dX9_tell_52 : decode cX9_tell 52 = .ok (.getfield 87, 3) := by decide +kernel
theorem dX9_tell_55 : decode cX9_tell 55 = .ok (.aload_n 0, 1) := by decide +kernel
theorem dX9_tell_56 : decode cX9_tell 56 = .ok (.iload_n 1, 1) := by decide +kernel
theorem dX9_tell_57 : decode cX9_tell 57 = .ok (.invokevirtual 155, 3) := by decide +kernel
theorem dX9_tell_60 : decode cX9_tell 60 = .ok (.isub, 1) := by decide +kernel
theorem dX9_tell_61 : decode cX9_tell 61 = .ok (.istore_n 3, 1) := by decide +kernel
theorem dX9_tell_62 : decode cX9_tell 62 = .ok (.iload_n 2, 1) := by decide +kernel
theorem dX9_tell_63 : decode cX9_tell 63 = .ok (.ifCond .ne 7, 3) := by decide +kernel
theorem dX9_tell_66 : decode cX9_tell 66 = .ok (.iload_n 3, 1) := by decide +kernel
theorem dX9_tell_67 : decode cX9_tell 67 = .ok (.goto 21, 3) := by decide +kernel
theorem dX9_tell_70 : decode cX9_tell 70 = .ok (.iload_n 2, 1) := by decide +kernel
theorem dX9_tell_71 : decode cX9_tell 71 = .ok (.iconst 1, 1) := by decide +kernel
theorem dX9_tell_72 : decode cX9_tell 72 = .ok (.if_icmp .ne 10, 3) := by decide +kernel
theorem dX9_tell_75 : decode cX9_tell 75 = .ok (.iload_n 3, 1) := by decide +kernel
theorem dX9_tell_76 : decode cX9_tell 76 = .ok (.bipush 100, 2) := by decide +kernel
theorem dX9_tell_78 : decode cX9_tell 78 = .ok (.iadd, 1) := by decide +kernel
theorem dX9_tell_79 : decode cX9_tell 79 = .ok (.goto 9, 3) := by decide +kernel
theorem dX9_tell_82 : decode cX9_tell 82 = .ok (.iconst 2, 1) := by decide +kernel
theorem dX9_tell_83 : decode cX9_tell 83 = .ok (.iload_n 3, 1) := by decide +kernel
theorem dX9_tell_84 : decode cX9_tell 84 = .ok (.imul, 1) := by decide +kernel
theorem dX9_tell_85 : decode cX9_tell 85 = .ok (.bipush 100, 2) := by decide +kernel
theorem dX9_tell_87 : decode cX9_tell 87 = .ok (.iadd, 1) := by decide +kernel
theorem dX9_tell_88 : decode cX9_tell 88 = .ok (.ireturn, 1) := by decide +kernel
theorem dX9_hail_0 : decode cX9_hail 0 = .ok (.aload_n 0, 1) := by decide +kernel
theorem dX9_hail_1 : decode cX9_hail 1 = .ok (.iload_n 1, 1) := by decide +kernel
theorem dX9_hail_2 : decode cX9_hail 2 = .ok (.invokevirtual 165, 3) := by decide +kernel
theorem dX9_hail_5 : decode cX9_hail 5 = .ok (.ifCond .eq 5, 3) := by decide +kernel
theorem dX9_hail_8 : decode cX9_hail 8 = .ok (.iconst (-1), 1) := by decide +kernel
theorem dX9_hail_9 : decode cX9_hail 9 = .ok (.ireturn, 1) := by decide +kernel
theorem dX9_hail_10 : decode cX9_hail 10 = .ok (.aload_n 0, 1) := by decide +kernel
theorem dX9_hail_11 : decode cX9_hail 11 = .ok (.aload_n 0, 1) := by decide +kernel
theorem dX9_hail_12 : decode cX9_hail 12 = .ok (.getfield 7, 3) := by decide +kernel
theorem dX9_hail_15 : decode cX9_hail 15 = .ok (.iload_n 1, 1) := by decide +kernel
theorem dX9_hail_16 : decode cX9_hail 16 = .ok (.iaload, 1) := by decide +kernel
theorem dX9_hail_17 : decode cX9_hail 17 = .ok (.iconst 2, 1) := by decide +kernel
theorem dX9_hail_18 : decode cX9_hail 18 = .ok (.if_icmp .ne 7, 3) := by decide +kernel
theorem dX9_hail_21 : decode cX9_hail 21 = .ok (.iconst 5, 1) := by decide +kernel
theorem dX9_hail_22 : decode cX9_hail 22 = .ok (.goto 4, 3) := by decide +kernel
theorem dX9_hail_25 : decode cX9_hail 25 = .ok (.iconst 4, 1) := by decide +kernel
theorem dX9_hail_26 : decode cX9_hail 26 = .ok (.invokevirtual 287, 3) := by decide +kernel
theorem dX9_hail_29 : decode cX9_hail 29 = .ok (.aload_n 0, 1) := by decide +kernel
theorem dX9_hail_30 : decode cX9_hail 30 = .ok (.getfield 7, 3) := by decide +kernel
theorem dX9_hail_33 : decode cX9_hail 33 = .ok (.iload_n 1, 1) := by decide +kernel
theorem dX9_hail_34 : decode cX9_hail 34 = .ok (.iaload, 1) := by decide +kernel
theorem dX9_hail_35 : decode cX9_hail 35 = .ok (.iconst 2, 1) := by decide +kernel
theorem dX9_hail_36 : decode cX9_hail 36 = .ok (.if_icmp .ne 8, 3) := by decide +kernel
theorem dX9_hail_39 : decode cX9_hail 39 = .ok (.bipush 60, 2) := by decide +kernel
theorem dX9_hail_41 : decode cX9_hail 41 = .ok (.goto 4, 3) := by decide +kernel
theorem dX9_hail_44 : decode cX9_hail 44 = .ok (.iload_n 1, 1) := by decide +kernel
theorem dX9_hail_45 : decode cX9_hail 45 = .ok (.ireturn, 1) := by decide +kernel
theorem dX9_as_0 : decode cX9_as 0 = .ok (.aload_n 0, 1) := by decide +kernel
theorem dX9_as_1 : decode cX9_as 1 = .ok (.iload_n 1, 1) := by decide +kernel
theorem dX9_as_2 : decode cX9_as 2 = .ok (.invokevirtual 165, 3) := by decide +kernel
theorem dX9_as_5 : decode cX9_as 5 = .ok (.ifCond .eq 9, 3) := by decide +kernel
theorem dX9_as_8 : decode cX9_as 8 = .ok (.aload_n 0, 1) := by decide +kernel
theorem dX9_as_9 : decode cX9_as 9 = .ok (.iconst (-1), 1) := by decide +kernel
theorem dX9_as_10 : decode cX9_as 10 = .ok (.invokevirtual 129, 3) := by decide +kernel
theorem dX9_as_13 : decode cX9_as 13 = .ok (.ireturn, 1) := by decide +kernel
theorem dX9_as_14 : decode cX9_as 14 = .ok (.iload_n 2, 1) := by decide +kernel
theorem dX9_as_15 : decode cX9_as 15 = .ok (.i2l, 1) := by decide +kernel
theorem dX9_as_16 : decode cX9_as 16 = .ok (.lconst 0, 1) := by decide +kernel
theorem dX9_as_17 : decode cX9_as 17 = .ok (.ldc2_w 109, 3) := by decide +kernel
theorem dX9_as_20 : decode cX9_as 20 = .ok (.invokestatic 83, 3) := by decide +kernel
theorem dX9_as_23 : decode cX9_as 23 = .ok (.ifCond .ne 10, 3) := by decide +kernel
theorem dX9_as_26 : decode cX9_as 26 = .ok (.aload_n 0, 1) := by decide +kernel
theorem dX9_as_27 : decode cX9_as 27 = .ok (.bipush (-2), 2) := by decide +kernel
theorem dX9_as_29 : decode cX9_as 29 = .ok (.invokevirtual 129, 3) := by decide +kernel
theorem dX9_as_32 : decode cX9_as 32 = .ok (.ireturn, 1) := by decide +kernel
theorem dX9_as_33 : decode cX9_as 33 = .ok (.aload_n 0, 1) := by decide +kernel
theorem dX9_as_34 : decode cX9_as 34 = .ok (.getfield 7, 3) := by decide +kernel
theorem dX9_as_37 : decode cX9_as 37 = .ok (.iload_n 1, 1) := by decide +kernel
theorem dX9_as_38 : decode cX9_as 38 = .ok (.iaload, 1) := by decide +kernel
theorem dX9_as_39 : decode cX9_as 39 = .ok (.iload_n 2, 1) := by decide +kernel
theorem dX9_as_40 : decode cX9_as 40 = .ok (.if_icmp .lt 11, 3) := by decide +kernel
theorem dX9_as_43 : decode cX9_as 43 = .ok (.aload_n 0, 1) := by decide +kernel
theorem dX9_as_44 : decode cX9_as 44 = .ok (.iconst 1, 1) := by decide +kernel
theorem dX9_as_45 : decode cX9_as 45 = .ok (.invokevirtual 129, 3) := by decide +kernel
theorem dX9_as_48 : decode cX9_as 48 = .ok (.goto 8, 3) := by decide +kernel
theorem dX9_as_51 : decode cX9_as 51 = .ok (.aload_n 0, 1) := by decide +kernel
theorem dX9_as_52 : decode cX9_as 52 = .ok (.iconst 2, 1) := by decide +kernel
theorem dX9_as_53 : decode cX9_as 53 = .ok (.invokevirtual 117, 3) := by decide +kernel
theorem dX9_as_56 : decode cX9_as 56 = .ok (.ireturn, 1) := by decide +kernel
theorem dX9_trace_0 : decode cX9_trace 0 = .ok (.aload_n 0, 1) := by decide +kernel
theorem dX9_trace_1 : decode cX9_trace 1 = .ok (.getfield 284, 3) := by decide +kernel
theorem dX9_trace_4 : decode cX9_trace 4 = .ok (.ireturn, 1) := by decide +kernel
theorem dX9_fault_0 : decode cX9_fault 0 = .ok (.aload_n 0, 1) := by decide +kernel
theorem dX9_fault_1 : decode cX9_fault 1 = .ok (.getfield 72, 3) := by decide +kernel
theorem dX9_fault_4 : decode cX9_fault 4 = .ok (.ireturn, 1) := by decide +kernel
theorem dX9_many_0 : decode cX9_many 0 = .ok (.iconst 0, 1) := by decide +kernel
theorem dX9_many_1 : decode cX9_many 1 = .ok (.istore_n 2, 1) := by decide +kernel
theorem dX9_many_2 : decode cX9_many 2 = .ok (.iconst 0, 1) := by decide +kernel
theorem dX9_many_3 : decode cX9_many 3 = .ok (.istore_n 3, 1) := by decide +kernel
theorem dX9_many_4 : decode cX9_many 4 = .ok (.iload_n 3, 1) := by decide +kernel
theorem dX9_many_5 : decode cX9_many 5 = .ok (.aload_n 0, 1) := by decide +kernel
theorem dX9_many_6 : decode cX9_many 6 = .ok (.getfield 80, 3) := by decide +kernel
theorem dX9_many_9 : decode cX9_many 9 = .ok (.if_icmp .ge 17, 3) := by decide +kernel
theorem dX9_many_12 : decode cX9_many 12 = .ok (.iload_n 2, 1) := by decide +kernel
theorem dX9_many_13 : decode cX9_many 13 = .ok (.aload_n 0, 1) := by decide +kernel
theorem dX9_many_14 : decode cX9_many 14 = .ok (.iload_n 3, 1) := by decide +kernel
theorem dX9_many_15 : decode cX9_many 15 = .ok (.invokevirtual 155, 3) := by decide +kernel
theorem dX9_many_18 : decode cX9_many 18 = .ok (.iadd, 1) := by decide +kernel
theorem dX9_many_19 : decode cX9_many 19 = .ok (.istore_n 2, 1) := by decide +kernel
theorem dX9_many_20 : decode cX9_many 20 = .ok (.iinc 3 1, 3) := by decide +kernel
theorem dX9_many_23 : decode cX9_many 23 = .ok (.goto (-19), 3) := by decide +kernel
theorem dX9_many_26 : decode cX9_many 26 = .ok (.iload_n 1, 1) := by decide +kernel
theorem dX9_many_27 : decode cX9_many 27 = .ok (.tableswitch 66 0 4 #[33, 38, 54, 59, 61], 33) := by decide +kernel
theorem dX9_many_60 : decode cX9_many 60 = .ok (.aload_n 0, 1) := by decide +kernel
theorem dX9_many_61 : decode cX9_many 61 = .ok (.getfield 80, 3) := by decide +kernel
theorem dX9_many_64 : decode cX9_many 64 = .ok (.ireturn, 1) := by decide +kernel
theorem dX9_many_65 : decode cX9_many 65 = .ok (.aload_n 0, 1) := by decide +kernel
theorem dX9_many_66 : decode cX9_many 66 = .ok (.getfield 80, 3) := by decide +kernel
theorem dX9_many_69 : decode cX9_many 69 = .ok (.ifCond .ne 7, 3) := by decide +kernel
theorem dX9_many_72 : decode cX9_many 72 = .ok (.iconst 0, 1) := by decide +kernel
theorem dX9_many_73 : decode cX9_many 73 = .ok (.goto 7, 3) := by decide +kernel
theorem dX9_many_76 : decode cX9_many 76 = .ok (.aload_n 0, 1) := by decide +kernel
theorem dX9_many_77 : decode cX9_many 77 = .ok (.getfield 87, 3) := by decide +kernel
theorem dX9_many_80 : decode cX9_many 80 = .ok (.ireturn, 1) := by decide +kernel
theorem dX9_many_81 : decode cX9_many 81 = .ok (.aload_n 0, 1) := by decide +kernel
theorem dX9_many_82 : decode cX9_many 82 = .ok (.getfield 139, 3) := by decide +kernel
theorem dX9_many_85 : decode cX9_many 85 = .ok (.ireturn, 1) := by decide +kernel
theorem dX9_many_86 : decode cX9_many 86 = .ok (.iload_n 2, 1) := by decide +kernel
theorem dX9_many_87 : decode cX9_many 87 = .ok (.ireturn, 1) := by decide +kernel
theorem dX9_many_88 : decode cX9_many 88 = .ok (.aload_n 0, 1) := by decide +kernel
theorem dX9_many_89 : decode cX9_many 89 = .ok (.getfield 142, 3) := by decide +kernel
theorem dX9_many_92 : decode cX9_many 92 = .ok (.ireturn, 1) := by decide +kernel
theorem dX9_many_93 : decode cX9_many 93 = .ok (.bipush (-2), 2) := by decide +kernel
theorem dX9_many_95 : decode cX9_many 95 = .ok (.ireturn, 1) := by decide +kernel
end
section
def lw_nestT : List (String × Nat × MethodName × String) := [("PitchRows$Choir", 17, (⟨"PitchRows$Caller", "<init>", "()V"⟩ : MethodName), "PitchRows"), ("PitchRows", 20, (⟨"PitchRows$Air", "<init>", "()V"⟩ : MethodName), "PitchRows"), ("PitchRows$Air", 3, (⟨"PitchRows$Numbered", "<init>", "()V"⟩ : MethodName), "PitchRows"), ("PitchRows", 30, (⟨"PitchRows$Readings", "<init>", "()V"⟩ : MethodName), "PitchRows"), ("PitchRows$Readings", 3, (⟨"PitchRows$Numbered", "<init>", "()V"⟩ : MethodName), "PitchRows"), ("PitchRows", 37, (⟨"PitchRows$GoodRows", "<init>", "()V"⟩ : MethodName), "PitchRows"), ("PitchRows", 44, (⟨"PitchRows$TextReader", "<init>", "()V"⟩ : MethodName), "PitchRows"), ("PitchRows", 55, (⟨"PitchRows$Sheet", "<init>", "()V"⟩ : MethodName), "PitchRows"), ("PitchRows$TextReader", 35, (⟨"PitchRows", "isWithin", "(III)Z"⟩ : MethodName), "PitchRows"), ("PitchRows$Choir", 22, (⟨"PitchRows", "isWithin", "(III)Z"⟩ : MethodName), "PitchRows"), ("PitchRows$Numbered", 13, (⟨"PitchRows", "isWithin", "(III)Z"⟩ : MethodName), "PitchRows")]
theorem tn_X2_17 : ("PitchRows$Choir", 17, (⟨"PitchRows$Caller", "<init>", "()V"⟩ : MethodName), "PitchRows") ∈ lw_nestT := List.mem_of_getElem? (i := 0) rfl
theorem tn_X8_20 : ("PitchRows", 20, (⟨"PitchRows$Air", "<init>", "()V"⟩ : MethodName), "PitchRows") ∈ lw_nestT := List.mem_of_getElem? (i := 1) rfl
theorem tn_X0_3 : ("PitchRows$Air", 3, (⟨"PitchRows$Numbered", "<init>", "()V"⟩ : MethodName), "PitchRows") ∈ lw_nestT := List.mem_of_getElem? (i := 2) rfl
theorem tn_X8_30 : ("PitchRows", 30, (⟨"PitchRows$Readings", "<init>", "()V"⟩ : MethodName), "PitchRows") ∈ lw_nestT := List.mem_of_getElem? (i := 3) rfl
theorem tn_X5_3 : ("PitchRows$Readings", 3, (⟨"PitchRows$Numbered", "<init>", "()V"⟩ : MethodName), "PitchRows") ∈ lw_nestT := List.mem_of_getElem? (i := 4) rfl
theorem tn_X8_37 : ("PitchRows", 37, (⟨"PitchRows$GoodRows", "<init>", "()V"⟩ : MethodName), "PitchRows") ∈ lw_nestT := List.mem_of_getElem? (i := 5) rfl
theorem tn_X8_44 : ("PitchRows", 44, (⟨"PitchRows$TextReader", "<init>", "()V"⟩ : MethodName), "PitchRows") ∈ lw_nestT := List.mem_of_getElem? (i := 6) rfl
theorem tn_X8_55 : ("PitchRows", 55, (⟨"PitchRows$Sheet", "<init>", "()V"⟩ : MethodName), "PitchRows") ∈ lw_nestT := List.mem_of_getElem? (i := 7) rfl
theorem tn_X7_35 : ("PitchRows$TextReader", 35, (⟨"PitchRows", "isWithin", "(III)Z"⟩ : MethodName), "PitchRows") ∈ lw_nestT := List.mem_of_getElem? (i := 8) rfl
theorem tn_X2_22 : ("PitchRows$Choir", 22, (⟨"PitchRows", "isWithin", "(III)Z"⟩ : MethodName), "PitchRows") ∈ lw_nestT := List.mem_of_getElem? (i := 9) rfl
theorem tn_X4_13 : ("PitchRows$Numbered", 13, (⟨"PitchRows", "isWithin", "(III)Z"⟩ : MethodName), "PitchRows") ∈ lw_nestT := List.mem_of_getElem? (i := 10) rfl
theorem lw_nestT_in : ∀ q ∈ lw_nestT, Cond.methodLinkNest q.1 q.2.1 q.2.2.1 q.2.2.2 ∈ tables_1 := by decide +kernel
/-! MY LAYER: objects that never come or go; the memory is a function of object and place. -/
abbrev my_L : Type := (Nat ⊕ (Nat × Nat × Nat)) ⊕ (Nat × List (Option Nat))
abbrev my_M : Type := Nat → Nat → Int32
abbrev my_V : Type := Launch × va_G × (Nat → ClassId) × (Nat → Nat)
abbrev my_T : Type := MethodName × ByteArray × Nat × Option FieldType
abbrev my_X : Type := Program × Env × State × MethodId × Array Value × List Frame × Method × Code
def my_fv (io : Nat → Nat) (g : Nat → Int32) (k : Nat) (o : Option Nat) : Value := match o with
  | none => .int (g k)
  | some r => .ref (io r)
def my_e (w : my_V) (σ : my_M) (j : Nat) (c : my_L) : va_E := match c with
  | .inl (.inl n) => .inl (w.2.2.1 0, n, .inl (σ j))
  | .inl (.inr (t, n, r)) => .inl (w.2.2.1 t, n, .inr (.inr (.inr (.inr (fun i => some (w.2.2.2 (r + i)))))))
  | .inr (ci, fs) => .inr (ci, fs.mapIdx (my_fv w.2.2.2 (σ j)))
def my_ws (w : my_V) (lay : List my_L) (σ : my_M) : va_W := lay.mapIdx (fun j c => (w.2.2.2 j, my_e w σ j c))
def my_ty (w : my_V) : List (ClassId × FieldType) := [(w.2.2.1 0, .int), (w.2.2.1 1, .object "PitchRows$Caller"), (w.2.2.1 2, .object "PitchRows$Sheet")]
def my_P (w : my_V) (lay : List my_L) (σ : my_M) (H : Heap) : Prop := va_P w.2.1 vwCl (my_ws w lay σ) H
def my_A (w : my_V) (lay : List my_L) : Nat → Prop := fun q => ∃ j, j < lay.length ∧ q = w.2.2.2 j
def my_I (w : my_V) (lay : List my_L) : Prop := ∀ i j, i < lay.length → j < lay.length → w.2.2.2 i = w.2.2.2 j → i = j
def my_N (U : State) : Prop := ∀ q ∈ lw_nestT, va_Nw (.methodLinkNest q.1 q.2.1 q.2.2.1 q.2.2.2) U
def my_K (w : my_V) (U : State) : Prop := va_K w.2.1 vwCl (my_ty w) U ∧ my_N U
def my_rm (k : Nat) : Room := { frames := k, cells := 0, slots := 0, locals := 60 * k }
def my_Qc (w : my_V) (lay : List my_L) (v : Option Value) (τ : my_M) : Array Value → State → Outcome → State → Prop := fun _ st o t => (o = .returned v ∧ my_P w lay τ t.heap ∧ my_K w t) ∧ va_F (my_A w lay) st t
def my_Pc (w : my_V) (lay : List my_L) (av : List Value) (σ : my_M) : Array Value → State → Prop := fun a U => a = av.toArray ∧ my_P w lay σ U.heap ∧ my_K w U
def Ct (w : my_V) (lay : List my_L) (t : my_T) (k : Nat) (av : List Value) (σ : my_M) (v : Option Value) (τ : my_M) : Prop :=
  my_I w lay → Met w.1 t.1 (Cond.code t.1 t.2.1 t.2.2.1 t.2.2.2 :: tblG) (my_rm k) (my_Pc w lay av σ) (my_Qc w lay v τ) 0 0 (my_A w lay)
def my_up (σ : my_M) (j k : Nat) (x : Int32) : my_M := va_up σ j (upd (σ j) k x)
abbrev my_ix (i : Int32) (n : Nat) : Prop := ¬ (i < 0 ∨ n ≤ i.toNatClampNeg)
def my_len (lay : List my_L) (j : Nat) : Nat := match lay[j]? with
  | some (.inl (.inl n)) => n
  | _ => 0
theorem my_len_at {lay : List my_L} {j n : Nat} (h : n < my_len lay j) : lay[j]? = some (.inl (.inl (my_len lay j))) := by
  unfold my_len at h ⊢
  split at h
  · assumption
  · omega
theorem my_len_in {lay : List my_L} {j : Nat} {i : Int32} (h : my_ix i (my_len lay j)) : lay[j]? = some (.inl (.inl (my_len lay j))) := my_len_at (n := i.toNatClampNeg) (Nat.not_le.mp fun q => h (Or.inr q))
theorem my_ws_at {w : my_V} {lay : List my_L} {σ : my_M} {j : Nat} {c : my_L} (h : lay[j]? = some c) : (my_ws w lay σ)[j]? = some (w.2.2.2 j, my_e w σ j c) := by
  simp [my_ws, List.getElem?_mapIdx, h]
theorem my_e_same {w : my_V} {σ τ : my_M} {j : Nat} {c : my_L} (h : τ j = σ j) : my_e w τ j c = my_e w σ j c := by
  rcases c with (n | ⟨t, n, r⟩) | ⟨ci, fs⟩ <;> simp only [my_e, h]
theorem my_ws_set {w : my_V} {lay : List my_L} {σ τ : my_M} {j : Nat} {c : my_L} (h : lay[j]? = some c) (ho : ∀ i, i ≠ j → τ i = σ i) : (my_ws w lay σ).set j (w.2.2.2 j, my_e w τ j c) = my_ws w lay τ := by
  have hj : j < lay.length := (List.getElem?_eq_some_iff.mp h).1
  apply List.ext_getElem?
  intro i
  by_cases hi : i = j
  · subst hi
    rw [List.getElem?_set_self (by simpa [my_ws] using hj), my_ws_at h]
  · rw [List.getElem?_set_ne (Ne.symm hi)]
    simp only [my_ws, List.getElem?_mapIdx]
    cases lay[i]? with
    | none => rfl
    | some c' => simp only [Option.map_some, my_e_same (w := w) (c := c') (ho i hi)]
theorem my_D {w : my_V} {lay : List my_L} {σ : my_M} (hI : my_I w lay) : va_D (my_A w lay) (my_ws w lay σ) := by
  have key : ∀ (i : Nat) (p : Nat × va_E), (my_ws w lay σ)[i]? = some p → i < lay.length ∧ p.1 = w.2.2.2 i := by
    intro i p hi
    have hl : i < lay.length := by
      have := (List.getElem?_eq_some_iff.mp hi).1
      simpa [my_ws] using this
    refine ⟨hl, ?_⟩
    rw [my_ws_at (List.getElem?_eq_getElem hl)] at hi
    cases hi
    rfl
  refine ⟨fun i j p q hi hj hpq => ?_, fun k q hk => ?_⟩
  · obtain ⟨a1, a2⟩ := key i p hi
    obtain ⟨b1, b2⟩ := key j q hj
    exact hI i j a1 b1 (by rw [← a2, ← b2]; exact hpq)
  · obtain ⟨a1, a2⟩ := key k q hk
    exact ⟨k, a1, a2⟩
theorem my_N_warm {s U : State} (hW : s.WarmedH U.vm) (h : my_N s) : my_N U := fun q hq => va_Nw.warmM hW (h q hq)
theorem my_N_same {s U : State} (e : s.vm = U.vm) (h : my_N s) : my_N U := fun q hq => va_Nw.same rfl e (h q hq)
theorem my_K_warm {w : my_V} {s U : State} (hW : s.WarmedH U.vm) (h : my_K w s) : my_K w U := ⟨va_K.moved hW.alike h.1, my_N_warm hW h.2⟩
theorem my_blind {w : my_V} {lay : List my_L} {av : List Value} {σ : my_M} : FrameBlind (my_Pc w lay av σ) := fun a U g mk q => ⟨q.1, q.2.1, va_K.moved (u := U) (U := U.calling g mk a) (Vm.Alike.refl U.vm) q.2.2.1, my_N_same (s := U) (U := U.calling g mk a) rfl q.2.2.2⟩
/-! the locals -/
def my_has (ls : Array Slot) (nL : Nat) (lv : List (Option Value)) : Prop := ls.size = nL ∧ lv_wf ls ∧ ∀ (i : Nat) (v : Value), lv[i]? = some (some v) → ls[i]? = some (.val v)
def my_al (lv : List (Option Value)) : List (Nat × Value) := lv.zipIdx.filterMap (fun q => q.1.map (fun v => (q.2, v)))
theorem my_al_mem {lv : List (Option Value)} {i : Nat} {v : Value} : (i, v) ∈ my_al lv ↔ lv[i]? = some (some v) := by
  simp only [my_al, List.mem_filterMap, Prod.exists, Option.map_eq_some_iff, Prod.mk.injEq]
  constructor
  · rintro ⟨o, n, h1, u, h2, h3, h4⟩
    subst h2; subst h3; subst h4
    exact List.mem_zipIdx_iff_getElem?.mp h1
  · intro h
    exact ⟨some v, i, List.mem_zipIdx_iff_getElem?.mpr h, v, rfl, rfl, rfl⟩
theorem my_has_lv {ls : Array Slot} {nL : Nat} {lv : List (Option Value)} (h : my_has ls nL lv) : lv_has ls nL (my_al lv) := ⟨h.1, h.2.1, fun q hq => h.2.2 q.1 q.2 (my_al_mem.mp hq)⟩
def my_c1 (o : Option Value) : Bool := match o with
  | some v => v.category == 1
  | none => true
def my_okp (lv : List (Option Value)) (i : Nat) : Prop := ∀ u, lv[i]? = some (some u) → u.category = 1
theorem my_okp_of {lv : List (Option Value)} {i : Nat} {o : Option Value} (h : lv[i]? = some o) (hc : my_c1 o = true) : my_okp lv i := by
  intro u hu
  rw [h] at hu
  cases hu
  simpa [my_c1] using hc
theorem my_set1 {ls : Array Slot} {nL i : Nat} {v : Value} {lv : List (Option Value)} (hp : ∀ j, j + 1 = i → my_okp lv j) (h : lv_has ls nL ((i, v) :: (my_al lv).filter (fun q => !(q.1 == i) && !(q.1 + 1 == i && q.2.category == 2)))) : my_has ls nL (lv.set i (some v)) := by
  refine ⟨h.1, h.2.1, fun j u hj => ?_⟩
  by_cases hi : j = i
  · subst hi
    by_cases hlt : j < lv.length
    · rw [List.getElem?_set_self hlt] at hj
      cases hj
      exact h.2.2 (j, v) List.mem_cons_self
    · rw [List.getElem?_eq_none (by simpa using hlt)] at hj
      cases hj
  · rw [List.getElem?_set_ne (Ne.symm hi)] at hj
    refine h.2.2 (j, u) (List.mem_cons_of_mem _ (List.mem_filter.mpr ⟨my_al_mem.mpr hj, ?_⟩))
    have hji : (j == i) = false := by simp [hi]
    by_cases hs : j + 1 = i
    · have := hp j hs u hj
      simp [hji, this]
    · simp [hji, hs]
theorem my_set2 {ls : Array Slot} {nL i : Nat} {v : Value} {lv : List (Option Value)} (hp : ∀ j, j + 1 = i → my_okp lv j) (h : lv_has ls nL ((i, v) :: (my_al lv).filter (fun q => !(q.1 == i) && (!(q.1 == i + 1) && !(q.1 + 1 == i && q.2.category == 2))))) : my_has ls nL ((lv.set i (some v)).set (i + 1) none) := by
  refine ⟨h.1, h.2.1, fun j u hj => ?_⟩
  by_cases hi1 : j = i + 1
  · subst hi1
    by_cases hlt : i + 1 < (lv.set i (some v)).length
    · rw [List.getElem?_set_self hlt] at hj
      cases hj
    · rw [List.getElem?_eq_none (by simpa using hlt)] at hj
      cases hj
  rw [List.getElem?_set_ne (Ne.symm hi1)] at hj
  by_cases hi : j = i
  · subst hi
    by_cases hlt : j < lv.length
    · rw [List.getElem?_set_self hlt] at hj
      cases hj
      exact h.2.2 (j, v) List.mem_cons_self
    · rw [List.getElem?_eq_none (by simpa using hlt)] at hj
      cases hj
  · rw [List.getElem?_set_ne (Ne.symm hi)] at hj
    refine h.2.2 (j, u) (List.mem_cons_of_mem _ (List.mem_filter.mpr ⟨my_al_mem.mpr hj, ?_⟩))
    have hji : (j == i) = false := by simp [hi]
    have hji1 : (j == i + 1) = false := by simp [hi1]
    by_cases hs : j + 1 = i
    · have := hp j hs u hj
      simp [hji, hji1, this]
    · simp [hji, hji1, hs]
/-- fewer known locals -/
def my_le (a b : List (Option Value)) : Prop := ∀ (i : Nat) (v : Value), a[i]? = some (some v) → b[i]? = some (some v)
theorem w_0 : my_le [] [] := fun i v h => h
theorem w_s {x : Option Value} {a b : List (Option Value)} (h : my_le a b) : my_le (x :: a) (x :: b) := by
  intro i v hi
  cases i with
  | zero => exact hi
  | succ i =>
    rw [List.getElem?_cons_succ] at hi ⊢
    exact h i v hi
theorem w_n {x : Option Value} {a b : List (Option Value)} (h : my_le a b) : my_le (none :: a) (x :: b) := by
  intro i v hi
  cases i with
  | zero => rw [List.getElem?_cons_zero] at hi; cases hi
  | succ i =>
    rw [List.getElem?_cons_succ] at hi ⊢
    exact h i v hi
theorem w_r {a : List (Option Value)} : my_le a a := fun i v h => h
def my_ent : List Value → List (Option Value)
  | [] => []
  | v :: vs => if v.category = 2 then some v :: none :: my_ent vs else some v :: my_ent vs
theorem my_ent_mem : ∀ (vs : List Value) (b i : Nat) (v : Value), (my_ent vs)[i]? = some (some v) → (b + i, v) ∈ lv_args b vs
  | [], b, i, v, h => by simp [my_ent] at h
  | u :: vs, b, i, v, h => by
    unfold my_ent at h
    unfold lv_args
    by_cases hc : u.category = 2
    · rw [if_pos hc] at h ⊢
      match i, h with
      | 0, h => simp at h; subst h; exact List.mem_cons_self
      | 1, h => simp at h
      | i + 2, h =>
        have := my_ent_mem vs (b + 2) i v (by simpa using h)
        refine List.mem_cons_of_mem _ ?_
        rw [show b + (i + 2) = b + 2 + i by omega]
        exact this
    · rw [if_neg hc] at h ⊢
      match i, h with
      | 0, h => simp at h; subst h; exact List.mem_cons_self
      | i + 1, h =>
        have := my_ent_mem vs (b + 1) i v (by simpa using h)
        refine List.mem_cons_of_mem _ ?_
        rw [show b + (i + 1) = b + 1 + i by omega]
        exact this
/-! the judgement -/
def my_OK (X : my_X) (w : my_V) (lay : List my_L) (cc : ByteArray) (own : String) (nL : Nat) (ret : Option FieldType) : Prop :=
  X.1.tables.exec = Jvm.exec ∧ X.2.2.2.2.2.2.2.code = cc ∧ X.2.2.2.2.2.2.2.maxLocals = nL ∧ X.2.2.1.vm.findClass own = some X.2.2.2.1.cls ∧ (∀ u ∈ tblG, u.before X.2.2.2.2.1 X.2.2.1 = true) ∧ my_K w X.2.2.1 ∧ my_I w lay ∧ X.2.2.2.2.2.2.1.locks = false ∧ X.2.2.2.2.2.2.1.sig.returnType = ret
def Go (X : my_X) (w : my_V) (lay : List my_L) (k nL : Nat) (v : Option Value) (τ σ : my_M) (pc : Nat) (lv : List (Option Value)) (st : List Value) : Prop :=
  ∀ (H : Heap) (locs : List Loc) (ls : Array Slot), my_P w lay σ H → va_S (my_A w lay) X.2.2.1.heap H locs → my_has ls nL lv →
    W X.1 w.1 X.2.1 (my_rm k) X.2.2.1 X.2.2.2.1 X.2.2.2.2.1 X.2.2.2.2.2.1 X.2.2.2.2.2.2.1 X.2.2.2.2.2.2.2 H locs 0 0 (MQ X.2.2.2.2.2.1 (my_Qc w lay v τ) X.2.2.2.2.1 X.2.2.1 0 0 (my_A w lay)) (F0 X.2.2.2.1 pc ls st)
theorem my_met {w : my_V} {lay : List my_L} {y : MethodName} {cc : ByteArray} {nL : Nat} {ret : Option FieldType} {k : Nat} {av : List Value} {σ : my_M} {v : Option Value} {τ : my_M} (own : String) (lv0 : List (Option Value)) (r : Nat) (hy : plainName y.cls = true) (hown : y.cls = own) (hlen : (lg_sl av).length ≤ nL) (hlv : my_ent av ++ List.replicate r none = lv0)
    (body : ∀ X : my_X, my_OK X w lay cc own nL ret → Go X w lay k nL v τ σ 0 lv0 []) : Ct w lay (y, cc, nL, ret) k av σ v τ := by
  intro hI
  refine Met.ofW (cc := cc) (maxL := nL) (ret := ret) hy rfl ?_
  intro p e s m args below meth c s₁ B hml hv
  obtain ⟨rfl, hP, hK⟩ := hv
  have hts := atoms_spec (ws := Cond.code y cc nL ret :: tblG) B.pre
  have hown' : s.vm.findClass own = some m.cls := by rw [← hown]; exact findClass_of_methodNamed B.named
  have hl := lv_entry av (n := nL) hlen
  rw [lg_entry_eq]
  generalize (lg_sl av ++ List.replicate (nL - (lg_sl av).length) Slot.unset).toArray = ls at hl ⊢
  refine body (p, e, s, m, av.toArray, below, meth, c) ⟨B.exec, B.bytes, hml, hown', fun u hu => hts u (List.mem_cons_of_mem _ hu), hK, hI, B.notSynchronized, B.returns⟩ s.heap [] ls hP va_S.rf ⟨hl.1, hl.2.1, fun i u hu => ?_⟩
  refine hl.2.2 (i, u) ?_
  subst hlv
  by_cases hi : i < (my_ent av).length
  · rw [List.getElem?_append_left hi] at hu
    have := my_ent_mem av 0 i u hu
    rwa [Nat.zero_add] at this
  · rw [List.getElem?_append_right (by omega)] at hu
    have := List.mem_replicate.mp (List.mem_of_getElem? hu)
    cases this.2
section ROWS
variable {X : my_X} {w : my_V} {lay : List my_L} {cc : ByteArray} {own : String} {nL : Nat} {ret : Option FieldType} {k : Nat} {v : Option Value} {τ σ : my_M} {pc : Nat} {lv : List (Option Value)} {st : List Value}
theorem g_weak {a : List (Option Value)} (hg : Go X w lay k nL v τ σ pc a st) (hl : my_le a lv) : Go X w lay k nL v τ σ pc lv st := fun H locs ls hP hS h => hg H locs ls hP hS ⟨h.1, h.2.1, fun i u hu => h.2.2 i u (hl i u hu)⟩
theorem g_iadd (h : my_OK X w lay cc own nL ret) (pc' : Nat) {x y : Int32} (d : decode cc pc = .ok (.iadd, 1)) (e : pc + 1 = pc') (kk : Go X w lay k nL v τ σ pc' lv (.int (x + y) :: st)) : Go X w lay k nL v τ σ pc lv (.int y :: .int x :: st) := by
  subst e
  exact fun H locs ls hP hS hl => lv_iadd h.1 h.2.1 d (kk H locs ls hP hS hl)
theorem g_isub (h : my_OK X w lay cc own nL ret) (pc' : Nat) {x y : Int32} (d : decode cc pc = .ok (.isub, 1)) (e : pc + 1 = pc') (kk : Go X w lay k nL v τ σ pc' lv (.int (x - y) :: st)) : Go X w lay k nL v τ σ pc lv (.int y :: .int x :: st) := by
  subst e
  exact fun H locs ls hP hS hl => lv_isub h.1 h.2.1 d (kk H locs ls hP hS hl)
theorem g_imul (h : my_OK X w lay cc own nL ret) (pc' : Nat) {x y : Int32} (d : decode cc pc = .ok (.imul, 1)) (e : pc + 1 = pc') (kk : Go X w lay k nL v τ σ pc' lv (.int (x * y) :: st)) : Go X w lay k nL v τ σ pc lv (.int y :: .int x :: st) := by
  subst e
  exact fun H locs ls hP hS hl => lv_imul h.1 h.2.1 d (kk H locs ls hP hS hl)
theorem g_iand (h : my_OK X w lay cc own nL ret) (pc' : Nat) {x y : Int32} (d : decode cc pc = .ok (.iand, 1)) (e : pc + 1 = pc') (kk : Go X w lay k nL v τ σ pc' lv (.int (x &&& y) :: st)) : Go X w lay k nL v τ σ pc lv (.int y :: .int x :: st) := by
  subst e
  exact fun H locs ls hP hS hl => lv_iand h.1 h.2.1 d (kk H locs ls hP hS hl)
theorem g_ior (h : my_OK X w lay cc own nL ret) (pc' : Nat) {x y : Int32} (d : decode cc pc = .ok (.ior, 1)) (e : pc + 1 = pc') (kk : Go X w lay k nL v τ σ pc' lv (.int (x ||| y) :: st)) : Go X w lay k nL v τ σ pc lv (.int y :: .int x :: st) := by
  subst e
  exact fun H locs ls hP hS hl => lv_ior h.1 h.2.1 d (kk H locs ls hP hS hl)
theorem g_ishl (h : my_OK X w lay cc own nL ret) (pc' : Nat) {x y : Int32} (d : decode cc pc = .ok (.ishl, 1)) (e : pc + 1 = pc') (kk : Go X w lay k nL v τ σ pc' lv (.int (x <<< (y &&& 31)) :: st)) : Go X w lay k nL v τ σ pc lv (.int y :: .int x :: st) := by
  subst e
  exact fun H locs ls hP hS hl => lv_ishl h.1 h.2.1 d (kk H locs ls hP hS hl)
theorem g_ishr (h : my_OK X w lay cc own nL ret) (pc' : Nat) {x y : Int32} (d : decode cc pc = .ok (.ishr, 1)) (e : pc + 1 = pc') (kk : Go X w lay k nL v τ σ pc' lv (.int (x >>> (y &&& 31)) :: st)) : Go X w lay k nL v τ σ pc lv (.int y :: .int x :: st) := by
  subst e
  exact fun H locs ls hP hS hl => lv_ishr h.1 h.2.1 d (kk H locs ls hP hS hl)
theorem g_iushr (h : my_OK X w lay cc own nL ret) (pc' : Nat) {x y : Int32} (d : decode cc pc = .ok (.iushr, 1)) (e : pc + 1 = pc') (kk : Go X w lay k nL v τ σ pc' lv (.int ((x.toUInt32 >>> (y.toUInt32 &&& Int32.toUInt32 31)).toInt32) :: st)) : Go X w lay k nL v τ σ pc lv (.int y :: .int x :: st) := by
  subst e
  exact fun H locs ls hP hS hl => lv_iushr h.1 h.2.1 d rfl (kk H locs ls hP hS hl)
theorem g_ineg (h : my_OK X w lay cc own nL ret) (pc' : Nat) {x : Int32} (d : decode cc pc = .ok (.ineg, 1)) (e : pc + 1 = pc') (kk : Go X w lay k nL v τ σ pc' lv (.int (-x) :: st)) : Go X w lay k nL v τ σ pc lv (.int x :: st) := by
  subst e
  exact fun H locs ls hP hS hl => lv_ineg h.1 h.2.1 d (kk H locs ls hP hS hl)
theorem g_idiv (h : my_OK X w lay cc own nL ret) (pc' : Nat) {x y : Int32} (hne : ¬ y = 0) (d : decode cc pc = .ok (.idiv, 1)) (e : pc + 1 = pc') (kk : Go X w lay k nL v τ σ pc' lv (.int (x / y) :: st)) : Go X w lay k nL v τ σ pc lv (.int y :: .int x :: st) := by
  subst e
  exact fun H locs ls hP hS hl => lv_idiv h.1 h.2.1 d hne (kk H locs ls hP hS hl)
theorem g_irem (h : my_OK X w lay cc own nL ret) (pc' : Nat) {x y : Int32} (hne : ¬ y = 0) (d : decode cc pc = .ok (.irem, 1)) (e : pc + 1 = pc') (kk : Go X w lay k nL v τ σ pc' lv (.int (x - x / y * y) :: st)) : Go X w lay k nL v τ σ pc lv (.int y :: .int x :: st) := by
  subst e
  exact fun H locs ls hP hS hl => lv_irem h.1 h.2.1 d hne (kk H locs ls hP hS hl)
theorem g_ladd (h : my_OK X w lay cc own nL ret) (pc' : Nat) {x y : Int64} (d : decode cc pc = .ok (.ladd, 1)) (e : pc + 1 = pc') (kk : Go X w lay k nL v τ σ pc' lv (.long (x + y) :: st)) : Go X w lay k nL v τ σ pc lv (.long y :: .long x :: st) := by
  subst e
  exact fun H locs ls hP hS hl => lv_ladd h.1 h.2.1 d (kk H locs ls hP hS hl)
theorem g_lsub (h : my_OK X w lay cc own nL ret) (pc' : Nat) {x y : Int64} (d : decode cc pc = .ok (.lsub, 1)) (e : pc + 1 = pc') (kk : Go X w lay k nL v τ σ pc' lv (.long (x - y) :: st)) : Go X w lay k nL v τ σ pc lv (.long y :: .long x :: st) := by
  subst e
  exact fun H locs ls hP hS hl => lv_lsub h.1 h.2.1 d (kk H locs ls hP hS hl)
theorem g_lmul (h : my_OK X w lay cc own nL ret) (pc' : Nat) {x y : Int64} (d : decode cc pc = .ok (.lmul, 1)) (e : pc + 1 = pc') (kk : Go X w lay k nL v τ σ pc' lv (.long (x * y) :: st)) : Go X w lay k nL v τ σ pc lv (.long y :: .long x :: st) := by
  subst e
  exact fun H locs ls hP hS hl => lv_lmul h.1 h.2.1 d (kk H locs ls hP hS hl)
theorem g_ldiv (h : my_OK X w lay cc own nL ret) (pc' : Nat) {x y : Int64} (hne : ¬ y = 0) (d : decode cc pc = .ok (.ldiv, 1)) (e : pc + 1 = pc') (kk : Go X w lay k nL v τ σ pc' lv (.long (x / y) :: st)) : Go X w lay k nL v τ σ pc lv (.long y :: .long x :: st) := by
  subst e
  exact fun H locs ls hP hS hl => lv_ldiv h.1 h.2.1 d hne (kk H locs ls hP hS hl)
theorem g_lrem (h : my_OK X w lay cc own nL ret) (pc' : Nat) {x y : Int64} (hne : ¬ y = 0) (d : decode cc pc = .ok (.lrem, 1)) (e : pc + 1 = pc') (kk : Go X w lay k nL v τ σ pc' lv (.long (x - x / y * y) :: st)) : Go X w lay k nL v τ σ pc lv (.long y :: .long x :: st) := by
  subst e
  exact fun H locs ls hP hS hl => lv_lrem h.1 h.2.1 d hne (kk H locs ls hP hS hl)
theorem g_lcmp (h : my_OK X w lay cc own nL ret) (pc' : Nat) {x y : Int64} (d : decode cc pc = .ok (.lcmp, 1)) (e : pc + 1 = pc') (kk : Go X w lay k nL v τ σ pc' lv (.int (lg_cmp x y) :: st)) : Go X w lay k nL v τ σ pc lv (.long y :: .long x :: st) := by
  subst e
  exact fun H locs ls hP hS hl => W.lcmp h.1 h.2.1 d (kk H locs ls hP hS hl)
theorem g_i2l (h : my_OK X w lay cc own nL ret) (pc' : Nat) {x : Int32} (d : decode cc pc = .ok (.i2l, 1)) (e : pc + 1 = pc') (kk : Go X w lay k nL v τ σ pc' lv (.long x.toInt64 :: st)) : Go X w lay k nL v τ σ pc lv (.int x :: st) := by
  subst e
  exact fun H locs ls hP hS hl => lv_i2l h.1 h.2.1 d rfl (kk H locs ls hP hS hl)
theorem g_i2b (h : my_OK X w lay cc own nL ret) (pc' : Nat) {x : Int32} (d : decode cc pc = .ok (.i2b, 1)) (e : pc + 1 = pc') (kk : Go X w lay k nL v τ σ pc' lv (.int x.toInt8.toInt32 :: st)) : Go X w lay k nL v τ σ pc lv (.int x :: st) := by
  subst e
  exact fun H locs ls hP hS hl => lv_i2b h.1 h.2.1 d rfl (kk H locs ls hP hS hl)
theorem g_i2s (h : my_OK X w lay cc own nL ret) (pc' : Nat) {x : Int32} (d : decode cc pc = .ok (.i2s, 1)) (e : pc + 1 = pc') (kk : Go X w lay k nL v τ σ pc' lv (.int x.toInt16.toInt32 :: st)) : Go X w lay k nL v τ σ pc lv (.int x :: st) := by
  subst e
  exact fun H locs ls hP hS hl => lv_i2s h.1 h.2.1 d rfl (kk H locs ls hP hS hl)
theorem g_iconst (h : my_OK X w lay cc own nL ret) (pc' : Nat) {n : Int} {x : Int32} (hv : Int32.ofInt n = x) (d : decode cc pc = .ok (.iconst n, 1)) (e : pc + 1 = pc') (kk : Go X w lay k nL v τ σ pc' lv (.int x :: st)) : Go X w lay k nL v τ σ pc lv st := by
  subst e
  exact fun H locs ls hP hS hl => lv_iconst h.1 h.2.1 d hv (kk H locs ls hP hS hl)
theorem g_bipush (h : my_OK X w lay cc own nL ret) (pc' : Nat) {n : Int} {x : Int32} (hv : (Int8.ofInt n).toInt32 = x) (d : decode cc pc = .ok (.bipush n, 2)) (e : pc + 2 = pc') (kk : Go X w lay k nL v τ σ pc' lv (.int x :: st)) : Go X w lay k nL v τ σ pc lv st := by
  subst e
  exact fun H locs ls hP hS hl => lv_bipush h.1 h.2.1 d hv (kk H locs ls hP hS hl)
theorem g_sipush (h : my_OK X w lay cc own nL ret) (pc' : Nat) {n : Int} {x : Int32} (hv : (Int16.ofInt n).toInt32 = x) (d : decode cc pc = .ok (.sipush n, 3)) (e : pc + 3 = pc') (kk : Go X w lay k nL v τ σ pc' lv (.int x :: st)) : Go X w lay k nL v τ σ pc lv st := by
  subst e
  exact fun H locs ls hP hS hl => lv_sipush h.1 h.2.1 d hv (kk H locs ls hP hS hl)
theorem g_lconst (h : my_OK X w lay cc own nL ret) (pc' : Nat) {n : Fin 2} {x : Int64} (hv : Int64.ofNat (n : Nat) = x) (d : decode cc pc = .ok (.lconst n, 1)) (e : pc + 1 = pc') (kk : Go X w lay k nL v τ σ pc' lv (.long x :: st)) : Go X w lay k nL v τ σ pc lv st := by
  subst e
  exact fun H locs ls hP hS hl => lv_lconst h.1 h.2.1 d hv (kk H locs ls hP hS hl)
theorem g_ldcw (h : my_OK X w lay cc own nL ret) (pc' : Nat) {idx : Nat} {x : Int32} (hc : Cond.constant own idx x ∈ tblG) (d : decode cc pc = .ok (.ldc_w idx, 3)) (e : pc + 3 = pc') (kk : Go X w lay k nL v τ σ pc' lv (.int x :: st)) : Go X w lay k nL v τ σ pc lv st := by
  subst e
  exact fun H locs ls hP hS hl => lv_ldcw h.1 h.2.1 h.2.2.2.1 (h.2.2.2.2.1 _ hc) d (kk H locs ls hP hS hl)
theorem g_ldc2 (h : my_OK X w lay cc own nL ret) (pc' : Nat) {idx : Nat} {x : Int64} (hc : Cond.constantLong own idx x ∈ tblG) (d : decode cc pc = .ok (.ldc2_w idx, 3)) (e : pc + 3 = pc') (kk : Go X w lay k nL v τ σ pc' lv (.long x :: st)) : Go X w lay k nL v τ σ pc lv st := by
  subst e
  exact fun H locs ls hP hS hl => lv_ldc2 h.1 h.2.1 h.2.2.2.1 (h.2.2.2.2.1 _ hc) d (kk H locs ls hP hS hl)
theorem g_dup (h : my_OK X w lay cc own nL ret) (pc' : Nat) {a : Value} (ha : a.category = 1) (d : decode cc pc = .ok (.dup, 1)) (e : pc + 1 = pc') (kk : Go X w lay k nL v τ σ pc' lv (a :: a :: st)) : Go X w lay k nL v τ σ pc lv (a :: st) := by
  subst e
  exact fun H locs ls hP hS hl => lv_dup h.1 h.2.1 d ha (kk H locs ls hP hS hl)
theorem g_pop (h : my_OK X w lay cc own nL ret) (pc' : Nat) {a : Value} (ha : a.category = 1) (d : decode cc pc = .ok (.pop, 1)) (e : pc + 1 = pc') (kk : Go X w lay k nL v τ σ pc' lv st) : Go X w lay k nL v τ σ pc lv (a :: st) := by
  subst e
  exact fun H locs ls hP hS hl => lv_pop h.1 h.2.1 d ha (kk H locs ls hP hS hl)
theorem g_dup2 (h : my_OK X w lay cc own nL ret) (pc' : Nat) {a b : Value} (ha : a.category = 1) (hb : b.category = 1) (d : decode cc pc = .ok (.dup2, 1)) (e : pc + 1 = pc') (kk : Go X w lay k nL v τ σ pc' lv (a :: b :: a :: b :: st)) : Go X w lay k nL v τ σ pc lv (a :: b :: st) := by
  subst e
  exact fun H locs ls hP hS hl => lv_dup2_11 h.1 h.2.1 d ha hb (kk H locs ls hP hS hl)
theorem g_dupx1 (h : my_OK X w lay cc own nL ret) (pc' : Nat) {a b : Value} (ha : a.category = 1) (hb : b.category = 1) (d : decode cc pc = .ok (.dup_x1, 1)) (e : pc + 1 = pc') (kk : Go X w lay k nL v τ σ pc' lv (a :: b :: a :: st)) : Go X w lay k nL v τ σ pc lv (a :: b :: st) := by
  subst e
  exact fun H locs ls hP hS hl => lv_dup_x1 h.1 h.2.1 d ha hb (kk H locs ls hP hS hl)
theorem g_goto (h : my_OK X w lay cc own nL ret) (pc' : Nat) {off : Int} (d : decode cc pc = .ok (.goto off, 3)) (ht : (pc : Int) + off = (pc' : Int)) (kk : Go X w lay k nL v τ σ pc' lv st) : Go X w lay k nL v τ σ pc lv st := fun H locs ls hP hS hl => lv_goto h.1 h.2.1 d ht (kk H locs ls hP hS hl)
theorem g_iceq (h : my_OK X w lay cc own nL ret) (tgt pc' : Nat) {x y : Int32} {off : Int} (d : decode cc pc = .ok (.if_icmp .eq off, 3)) (ht : (pc : Int) + off = (tgt : Int)) (e : pc + 3 = pc') (kt : x = y → Go X w lay k nL v τ σ tgt lv st) (kf : ¬ x = y → Go X w lay k nL v τ σ pc' lv st) : Go X w lay k nL v τ σ pc lv (.int y :: .int x :: st) := by
  subst e
  exact fun H locs ls hP hS hl => lv_icmp_eq h.1 h.2.1 d ht (fun q => kt q H locs ls hP hS hl) (fun q => kf q H locs ls hP hS hl)
theorem g_ifeq (h : my_OK X w lay cc own nL ret) (tgt pc' : Nat) {x : Int32} {off : Int} (d : decode cc pc = .ok (.ifCond .eq off, 3)) (ht : (pc : Int) + off = (tgt : Int)) (e : pc + 3 = pc') (kt : x = 0 → Go X w lay k nL v τ σ tgt lv st) (kf : ¬ x = 0 → Go X w lay k nL v τ σ pc' lv st) : Go X w lay k nL v τ σ pc lv (.int x :: st) := by
  subst e
  exact fun H locs ls hP hS hl => lv_if_eq h.1 h.2.1 d ht (fun q => kt q H locs ls hP hS hl) (fun q => kf q H locs ls hP hS hl)
theorem g_icne (h : my_OK X w lay cc own nL ret) (tgt pc' : Nat) {x y : Int32} {off : Int} (d : decode cc pc = .ok (.if_icmp .ne off, 3)) (ht : (pc : Int) + off = (tgt : Int)) (e : pc + 3 = pc') (kt : ¬ x = y → Go X w lay k nL v τ σ tgt lv st) (kf : x = y → Go X w lay k nL v τ σ pc' lv st) : Go X w lay k nL v τ σ pc lv (.int y :: .int x :: st) := by
  subst e
  exact fun H locs ls hP hS hl => lv_icmp_ne h.1 h.2.1 d ht (fun q => kt q H locs ls hP hS hl) (fun q => kf q H locs ls hP hS hl)
theorem g_ifne (h : my_OK X w lay cc own nL ret) (tgt pc' : Nat) {x : Int32} {off : Int} (d : decode cc pc = .ok (.ifCond .ne off, 3)) (ht : (pc : Int) + off = (tgt : Int)) (e : pc + 3 = pc') (kt : ¬ x = 0 → Go X w lay k nL v τ σ tgt lv st) (kf : x = 0 → Go X w lay k nL v τ σ pc' lv st) : Go X w lay k nL v τ σ pc lv (.int x :: st) := by
  subst e
  exact fun H locs ls hP hS hl => lv_if_ne h.1 h.2.1 d ht (fun q => kt q H locs ls hP hS hl) (fun q => kf q H locs ls hP hS hl)
theorem g_iclt (h : my_OK X w lay cc own nL ret) (tgt pc' : Nat) {x y : Int32} {off : Int} (d : decode cc pc = .ok (.if_icmp .lt off, 3)) (ht : (pc : Int) + off = (tgt : Int)) (e : pc + 3 = pc') (kt : x < y → Go X w lay k nL v τ σ tgt lv st) (kf : ¬ x < y → Go X w lay k nL v τ σ pc' lv st) : Go X w lay k nL v τ σ pc lv (.int y :: .int x :: st) := by
  subst e
  exact fun H locs ls hP hS hl => lv_icmp_lt h.1 h.2.1 d ht (fun q => kt q H locs ls hP hS hl) (fun q => kf q H locs ls hP hS hl)
theorem g_iflt (h : my_OK X w lay cc own nL ret) (tgt pc' : Nat) {x : Int32} {off : Int} (d : decode cc pc = .ok (.ifCond .lt off, 3)) (ht : (pc : Int) + off = (tgt : Int)) (e : pc + 3 = pc') (kt : x < 0 → Go X w lay k nL v τ σ tgt lv st) (kf : ¬ x < 0 → Go X w lay k nL v τ σ pc' lv st) : Go X w lay k nL v τ σ pc lv (.int x :: st) := by
  subst e
  exact fun H locs ls hP hS hl => lv_if_lt h.1 h.2.1 d ht (fun q => kt q H locs ls hP hS hl) (fun q => kf q H locs ls hP hS hl)
theorem g_icge (h : my_OK X w lay cc own nL ret) (tgt pc' : Nat) {x y : Int32} {off : Int} (d : decode cc pc = .ok (.if_icmp .ge off, 3)) (ht : (pc : Int) + off = (tgt : Int)) (e : pc + 3 = pc') (kt : y ≤ x → Go X w lay k nL v τ σ tgt lv st) (kf : ¬ y ≤ x → Go X w lay k nL v τ σ pc' lv st) : Go X w lay k nL v τ σ pc lv (.int y :: .int x :: st) := by
  subst e
  exact fun H locs ls hP hS hl => lv_icmp_ge h.1 h.2.1 d ht (fun q => kt q H locs ls hP hS hl) (fun q => kf q H locs ls hP hS hl)
theorem g_ifge (h : my_OK X w lay cc own nL ret) (tgt pc' : Nat) {x : Int32} {off : Int} (d : decode cc pc = .ok (.ifCond .ge off, 3)) (ht : (pc : Int) + off = (tgt : Int)) (e : pc + 3 = pc') (kt : 0 ≤ x → Go X w lay k nL v τ σ tgt lv st) (kf : ¬ 0 ≤ x → Go X w lay k nL v τ σ pc' lv st) : Go X w lay k nL v τ σ pc lv (.int x :: st) := by
  subst e
  exact fun H locs ls hP hS hl => lv_if_ge h.1 h.2.1 d ht (fun q => kt q H locs ls hP hS hl) (fun q => kf q H locs ls hP hS hl)
theorem g_icgt (h : my_OK X w lay cc own nL ret) (tgt pc' : Nat) {x y : Int32} {off : Int} (d : decode cc pc = .ok (.if_icmp .gt off, 3)) (ht : (pc : Int) + off = (tgt : Int)) (e : pc + 3 = pc') (kt : y < x → Go X w lay k nL v τ σ tgt lv st) (kf : ¬ y < x → Go X w lay k nL v τ σ pc' lv st) : Go X w lay k nL v τ σ pc lv (.int y :: .int x :: st) := by
  subst e
  exact fun H locs ls hP hS hl => lv_icmp_gt h.1 h.2.1 d ht (fun q => kt q H locs ls hP hS hl) (fun q => kf q H locs ls hP hS hl)
theorem g_ifgt (h : my_OK X w lay cc own nL ret) (tgt pc' : Nat) {x : Int32} {off : Int} (d : decode cc pc = .ok (.ifCond .gt off, 3)) (ht : (pc : Int) + off = (tgt : Int)) (e : pc + 3 = pc') (kt : 0 < x → Go X w lay k nL v τ σ tgt lv st) (kf : ¬ 0 < x → Go X w lay k nL v τ σ pc' lv st) : Go X w lay k nL v τ σ pc lv (.int x :: st) := by
  subst e
  exact fun H locs ls hP hS hl => lv_if_gt h.1 h.2.1 d ht (fun q => kt q H locs ls hP hS hl) (fun q => kf q H locs ls hP hS hl)
theorem g_icle (h : my_OK X w lay cc own nL ret) (tgt pc' : Nat) {x y : Int32} {off : Int} (d : decode cc pc = .ok (.if_icmp .le off, 3)) (ht : (pc : Int) + off = (tgt : Int)) (e : pc + 3 = pc') (kt : x ≤ y → Go X w lay k nL v τ σ tgt lv st) (kf : ¬ x ≤ y → Go X w lay k nL v τ σ pc' lv st) : Go X w lay k nL v τ σ pc lv (.int y :: .int x :: st) := by
  subst e
  exact fun H locs ls hP hS hl => lv_icmp_le h.1 h.2.1 d ht (fun q => kt q H locs ls hP hS hl) (fun q => kf q H locs ls hP hS hl)
theorem g_ifle (h : my_OK X w lay cc own nL ret) (tgt pc' : Nat) {x : Int32} {off : Int} (d : decode cc pc = .ok (.ifCond .le off, 3)) (ht : (pc : Int) + off = (tgt : Int)) (e : pc + 3 = pc') (kt : x ≤ 0 → Go X w lay k nL v τ σ tgt lv st) (kf : ¬ x ≤ 0 → Go X w lay k nL v τ σ pc' lv st) : Go X w lay k nL v τ σ pc lv (.int x :: st) := by
  subst e
  exact fun H locs ls hP hS hl => lv_if_le h.1 h.2.1 d ht (fun q => kt q H locs ls hP hS hl) (fun q => kf q H locs ls hP hS hl)
theorem g_tsI (h : my_OK X w lay cc own nL ret) (tgt : Nat) {x : Int32} {dflt lo hi : Int} {offs : Array Int} {len : Nat} {off : Int} (d : decode cc pc = .ok (.tableswitch dflt lo hi offs, len)) (c : Int32) (hc : x = c) (h1 : ¬ c.toInt < lo) (h2 : ¬ hi < c.toInt) (ho : offs[(c.toInt - lo).toNat]? = some off) (ht : (pc : Int) + off = (tgt : Int)) (kk : Go X w lay k nL v τ σ tgt lv st) : Go X w lay k nL v τ σ pc lv (.int x :: st) := by
  subst hc
  exact fun H locs ls hP hS hl => lv_tableIn h.1 h.2.1 d h1 h2 ho ht (kk H locs ls hP hS hl)
theorem g_tsO (h : my_OK X w lay cc own nL ret) (tgt : Nat) {x : Int32} {dflt lo hi : Int} {offs : Array Int} {len : Nat} (d : decode cc pc = .ok (.tableswitch dflt lo hi offs, len)) (h1 : x.toInt < lo ∨ hi < x.toInt) (ht : (pc : Int) + dflt = (tgt : Int)) (kk : Go X w lay k nL v τ σ tgt lv st) : Go X w lay k nL v τ σ pc lv (.int x :: st) := fun H locs ls hP hS hl => lv_tableOut h.1 h.2.1 d h1 ht (kk H locs ls hP hS hl)
theorem g_lsw (h : my_OK X w lay cc own nL ret) (tgt : Nat) {x : Int32} {dflt : Int} {ps : Array (Int × Int)} {len : Nat} {off : Int} (d : decode cc pc = .ok (.lookupswitch dflt ps, len)) (hp : (ps.toList.zip (ps.toList.drop 1)).all (fun (a, next) => a.1 < next.1) = true) (ho : Op.lookupswitch.offset ps.toList dflt x.toInt = off) (ht : (pc : Int) + off = (tgt : Int)) (kk : Go X w lay k nL v τ σ tgt lv st) : Go X w lay k nL v τ σ pc lv (.int x :: st) := fun H locs ls hP hS hl => lv_lookup h.1 h.2.1 d hp ho ht (kk H locs ls hP hS hl)
theorem g_iln (h : my_OK X w lay cc own nL ret) (pc' : Nat) {kk0 : Fin 4} {i : Nat} {x : Int32} (d : decode cc pc = .ok (.iload_n kk0, 1)) (hi : (kk0 : Nat) = i) (e : pc + 1 = pc') (hl0 : lv[i]? = some (some (.int x))) (kk : Go X w lay k nL v τ σ pc' lv (.int x :: st)) : Go X w lay k nL v τ σ pc lv st := by
  subst e
  exact fun H locs ls hP hS hl => lv_iload_n h.1 h.2.1 d hi (hl.2.2 _ _ hl0) (kk H locs ls hP hS hl)
theorem g_ilw (h : my_OK X w lay cc own nL ret) (pc' : Nat) {i : Nat} {x : Int32} (d : decode cc pc = .ok (.iload i, 2)) (e : pc + 2 = pc') (hl0 : lv[i]? = some (some (.int x))) (kk : Go X w lay k nL v τ σ pc' lv (.int x :: st)) : Go X w lay k nL v τ σ pc lv st := by
  subst e
  exact fun H locs ls hP hS hl => lv_iload h.1 h.2.1 d (hl.2.2 _ _ hl0) (kk H locs ls hP hS hl)
theorem g_aln (h : my_OK X w lay cc own nL ret) (pc' : Nat) {kk0 : Fin 4} {i : Nat} {x : Nat} (d : decode cc pc = .ok (.aload_n kk0, 1)) (hi : (kk0 : Nat) = i) (e : pc + 1 = pc') (hl0 : lv[i]? = some (some (.ref x))) (kk : Go X w lay k nL v τ σ pc' lv (.ref x :: st)) : Go X w lay k nL v τ σ pc lv st := by
  subst e
  exact fun H locs ls hP hS hl => lv_aload_n h.1 h.2.1 d hi (hl.2.2 _ _ hl0) (kk H locs ls hP hS hl)
theorem g_alw (h : my_OK X w lay cc own nL ret) (pc' : Nat) {i : Nat} {x : Nat} (d : decode cc pc = .ok (.aload i, 2)) (e : pc + 2 = pc') (hl0 : lv[i]? = some (some (.ref x))) (kk : Go X w lay k nL v τ σ pc' lv (.ref x :: st)) : Go X w lay k nL v τ σ pc lv st := by
  subst e
  exact fun H locs ls hP hS hl => lv_aload h.1 h.2.1 d (hl.2.2 _ _ hl0) (kk H locs ls hP hS hl)
theorem g_lln (h : my_OK X w lay cc own nL ret) (pc' : Nat) {kk0 : Fin 4} {i : Nat} {x : Int64} (d : decode cc pc = .ok (.lload_n kk0, 1)) (hi : (kk0 : Nat) = i) (e : pc + 1 = pc') (hl0 : lv[i]? = some (some (.long x))) (kk : Go X w lay k nL v τ σ pc' lv (.long x :: st)) : Go X w lay k nL v τ σ pc lv st := by
  subst e
  exact fun H locs ls hP hS hl => lv_lload_n h.1 h.2.1 d hi (hl.2.2 _ _ hl0) (kk H locs ls hP hS hl)
theorem g_llw (h : my_OK X w lay cc own nL ret) (pc' : Nat) {i : Nat} {x : Int64} (d : decode cc pc = .ok (.lload i, 2)) (e : pc + 2 = pc') (hl0 : lv[i]? = some (some (.long x))) (kk : Go X w lay k nL v τ σ pc' lv (.long x :: st)) : Go X w lay k nL v τ σ pc lv st := by
  subst e
  exact fun H locs ls hP hS hl => lv_lload h.1 h.2.1 d (hl.2.2 _ _ hl0) (kk H locs ls hP hS hl)
theorem g_isn (h : my_OK X w lay cc own nL ret) (pc' : Nat) {kk0 : Fin 4} {i : Nat} {x : Int32} (d : decode cc pc = .ok (.istore_n kk0, 1)) (hi : (kk0 : Nat) = i) (e : pc + 1 = pc') (hn : i < nL) (hp : ∀ j, j + 1 = i → my_okp lv j) (kk : Go X w lay k nL v τ σ pc' (lv.set i (some (.int x))) st) : Go X w lay k nL v τ σ pc lv (.int x :: st) := by
  subst e
  exact fun H locs ls hP hS hl => lv_istore_n h.1 h.2.1 d hi (my_has_lv hl) hn rfl (fun ls1 hl1 => kk H locs ls1 hP hS (my_set1 hp hl1))
theorem g_isw (h : my_OK X w lay cc own nL ret) (pc' : Nat) {i : Nat} {x : Int32} (d : decode cc pc = .ok (.istore i, 2)) (e : pc + 2 = pc') (hn : i < nL) (hp : ∀ j, j + 1 = i → my_okp lv j) (kk : Go X w lay k nL v τ σ pc' (lv.set i (some (.int x))) st) : Go X w lay k nL v τ σ pc lv (.int x :: st) := by
  subst e
  exact fun H locs ls hP hS hl => lv_istore h.1 h.2.1 d (my_has_lv hl) hn rfl (fun ls1 hl1 => kk H locs ls1 hP hS (my_set1 hp hl1))
theorem g_asn (h : my_OK X w lay cc own nL ret) (pc' : Nat) {kk0 : Fin 4} {i : Nat} {x : Nat} (d : decode cc pc = .ok (.astore_n kk0, 1)) (hi : (kk0 : Nat) = i) (e : pc + 1 = pc') (hn : i < nL) (hp : ∀ j, j + 1 = i → my_okp lv j) (kk : Go X w lay k nL v τ σ pc' (lv.set i (some (.ref x))) st) : Go X w lay k nL v τ σ pc lv (.ref x :: st) := by
  subst e
  exact fun H locs ls hP hS hl => lv_astore_n h.1 h.2.1 d hi (my_has_lv hl) hn rfl (fun ls1 hl1 => kk H locs ls1 hP hS (my_set1 hp hl1))
theorem g_asw (h : my_OK X w lay cc own nL ret) (pc' : Nat) {i : Nat} {x : Nat} (d : decode cc pc = .ok (.astore i, 2)) (e : pc + 2 = pc') (hn : i < nL) (hp : ∀ j, j + 1 = i → my_okp lv j) (kk : Go X w lay k nL v τ σ pc' (lv.set i (some (.ref x))) st) : Go X w lay k nL v τ σ pc lv (.ref x :: st) := by
  subst e
  exact fun H locs ls hP hS hl => lv_astore h.1 h.2.1 d (my_has_lv hl) hn rfl (fun ls1 hl1 => kk H locs ls1 hP hS (my_set1 hp hl1))
theorem g_lsn (h : my_OK X w lay cc own nL ret) (pc' : Nat) {kk0 : Fin 4} {i : Nat} {x : Int64} (d : decode cc pc = .ok (.lstore_n kk0, 1)) (hi : (kk0 : Nat) = i) (e : pc + 1 = pc') (hn : i + 1 < nL) (hp : ∀ j, j + 1 = i → my_okp lv j) (kk : Go X w lay k nL v τ σ pc' ((lv.set i (some (.long x))).set (i + 1) none) st) : Go X w lay k nL v τ σ pc lv (.long x :: st) := by
  subst e
  exact fun H locs ls hP hS hl => lv_lstore_n h.1 h.2.1 d hi (my_has_lv hl) hn rfl (fun ls1 hl1 => kk H locs ls1 hP hS (my_set2 hp hl1))
theorem g_lsw2 (h : my_OK X w lay cc own nL ret) (pc' : Nat) {i : Nat} {x : Int64} (d : decode cc pc = .ok (.lstore i, 2)) (e : pc + 2 = pc') (hn : i + 1 < nL) (hp : ∀ j, j + 1 = i → my_okp lv j) (kk : Go X w lay k nL v τ σ pc' ((lv.set i (some (.long x))).set (i + 1) none) st) : Go X w lay k nL v τ σ pc lv (.long x :: st) := by
  subst e
  exact fun H locs ls hP hS hl => lv_lstore h.1 h.2.1 d (my_has_lv hl) hn rfl (fun ls1 hl1 => kk H locs ls1 hP hS (my_set2 hp hl1))
theorem g_incg (h : my_OK X w lay cc own nL ret) (pc' : Nat) {i : Nat} {n : Int} {x y : Int32} (hv : x + Int32.ofInt n = y) (d : decode cc pc = .ok (.iinc i n, 3)) (e : pc + 3 = pc') (hl0 : lv[i]? = some (some (.int x))) (hn : i < nL) (hp : ∀ j, j + 1 = i → my_okp lv j) (kk : Go X w lay k nL v τ σ pc' (lv.set i (some (.int y))) st) : Go X w lay k nL v τ σ pc lv st := by
  subst e
  intro H locs ls hP hS hl
  obtain ⟨q, hq⟩ := List.getElem?_of_mem (my_al_mem.mpr hl0)
  exact lv_iinc h.1 h.2.1 d (my_has_lv hl) (k := q) hq hv hn rfl (fun ls1 hl1 => kk H locs ls1 hP hS (my_set1 hp hl1))
theorem g_il0 (h : my_OK X w lay cc own nL ret) (pc' : Nat) {r : List (Option Value)} {x : Int32} (d : decode cc pc = .ok (.iload_n 0, 1)) (e : pc + 1 = pc') (kk : Go X w lay k nL v τ σ pc' (some (.int x) :: r) (.int x :: st)) : Go X w lay k nL v τ σ pc (some (.int x) :: r) st := g_iln h pc' d rfl e rfl kk
theorem g_al0 (h : my_OK X w lay cc own nL ret) (pc' : Nat) {r : List (Option Value)} {x : Nat} (d : decode cc pc = .ok (.aload_n 0, 1)) (e : pc + 1 = pc') (kk : Go X w lay k nL v τ σ pc' (some (.ref x) :: r) (.ref x :: st)) : Go X w lay k nL v τ σ pc (some (.ref x) :: r) st := g_aln h pc' d rfl e rfl kk
theorem g_ll0 (h : my_OK X w lay cc own nL ret) (pc' : Nat) {r : List (Option Value)} {x : Int64} (d : decode cc pc = .ok (.lload_n 0, 1)) (e : pc + 1 = pc') (kk : Go X w lay k nL v τ σ pc' (some (.long x) :: r) (.long x :: st)) : Go X w lay k nL v τ σ pc (some (.long x) :: r) st := g_lln h pc' d rfl e rfl kk
theorem g_is0 (h : my_OK X w lay cc own nL ret) (pc' : Nat) {o : Option Value} {r : List (Option Value)} {x : Int32} (hn : 0 < nL) (d : decode cc pc = .ok (.istore_n 0, 1)) (e : pc + 1 = pc') (kk : Go X w lay k nL v τ σ pc' (some (.int x) :: r) st) : Go X w lay k nL v τ σ pc (o :: r) (.int x :: st) := g_isn h pc' d rfl e hn (fun j hj => absurd hj (by omega)) kk
theorem g_as0 (h : my_OK X w lay cc own nL ret) (pc' : Nat) {o : Option Value} {r : List (Option Value)} {x : Nat} (hn : 0 < nL) (d : decode cc pc = .ok (.astore_n 0, 1)) (e : pc + 1 = pc') (kk : Go X w lay k nL v τ σ pc' (some (.ref x) :: r) st) : Go X w lay k nL v τ σ pc (o :: r) (.ref x :: st) := g_asn h pc' d rfl e hn (fun j hj => absurd hj (by omega)) kk
theorem g_ls0 (h : my_OK X w lay cc own nL ret) (pc' : Nat) {o o2 : Option Value} {r : List (Option Value)} {x : Int64} (hn : 0 + 1 < nL) (d : decode cc pc = .ok (.lstore_n 0, 1)) (e : pc + 1 = pc') (kk : Go X w lay k nL v τ σ pc' (some (.long x) :: none :: r) st) : Go X w lay k nL v τ σ pc (o :: o2 :: r) (.long x :: st) := g_lsn h pc' d rfl e hn (fun j hj => absurd hj (by omega)) kk
theorem g_inc0 (h : my_OK X w lay cc own nL ret) (pc' : Nat) {r : List (Option Value)} {n : Int} {x y : Int32} (hv : x + Int32.ofInt n = y) (hn : 0 < nL) (d : decode cc pc = .ok (.iinc 0 n, 3)) (e : pc + 3 = pc') (kk : Go X w lay k nL v τ σ pc' (some (.int y) :: r) st) : Go X w lay k nL v τ σ pc (some (.int x) :: r) st := g_incg h pc' hv d e rfl hn (fun j hj => absurd hj (by omega)) kk
theorem g_il1 (h : my_OK X w lay cc own nL ret) (pc' : Nat) {a0 : Option Value} {r : List (Option Value)} {x : Int32} (d : decode cc pc = .ok (.iload_n 1, 1)) (e : pc + 1 = pc') (kk : Go X w lay k nL v τ σ pc' (a0 :: some (.int x) :: r) (.int x :: st)) : Go X w lay k nL v τ σ pc (a0 :: some (.int x) :: r) st := g_iln h pc' d rfl e rfl kk
theorem g_al1 (h : my_OK X w lay cc own nL ret) (pc' : Nat) {a0 : Option Value} {r : List (Option Value)} {x : Nat} (d : decode cc pc = .ok (.aload_n 1, 1)) (e : pc + 1 = pc') (kk : Go X w lay k nL v τ σ pc' (a0 :: some (.ref x) :: r) (.ref x :: st)) : Go X w lay k nL v τ σ pc (a0 :: some (.ref x) :: r) st := g_aln h pc' d rfl e rfl kk
theorem g_ll1 (h : my_OK X w lay cc own nL ret) (pc' : Nat) {a0 : Option Value} {r : List (Option Value)} {x : Int64} (d : decode cc pc = .ok (.lload_n 1, 1)) (e : pc + 1 = pc') (kk : Go X w lay k nL v τ σ pc' (a0 :: some (.long x) :: r) (.long x :: st)) : Go X w lay k nL v τ σ pc (a0 :: some (.long x) :: r) st := g_lln h pc' d rfl e rfl kk
theorem g_is1 (h : my_OK X w lay cc own nL ret) (pc' : Nat) {a0 : Option Value} {o : Option Value} {r : List (Option Value)} {x : Int32} (hn : 1 < nL) (hc : my_c1 a0 = true) (d : decode cc pc = .ok (.istore_n 1, 1)) (e : pc + 1 = pc') (kk : Go X w lay k nL v τ σ pc' (a0 :: some (.int x) :: r) st) : Go X w lay k nL v τ σ pc (a0 :: o :: r) (.int x :: st) := g_isn h pc' d rfl e hn (fun j hj => by obtain rfl : j = 0 := (by omega); exact my_okp_of rfl hc) kk
theorem g_as1 (h : my_OK X w lay cc own nL ret) (pc' : Nat) {a0 : Option Value} {o : Option Value} {r : List (Option Value)} {x : Nat} (hn : 1 < nL) (hc : my_c1 a0 = true) (d : decode cc pc = .ok (.astore_n 1, 1)) (e : pc + 1 = pc') (kk : Go X w lay k nL v τ σ pc' (a0 :: some (.ref x) :: r) st) : Go X w lay k nL v τ σ pc (a0 :: o :: r) (.ref x :: st) := g_asn h pc' d rfl e hn (fun j hj => by obtain rfl : j = 0 := (by omega); exact my_okp_of rfl hc) kk
theorem g_ls1 (h : my_OK X w lay cc own nL ret) (pc' : Nat) {a0 : Option Value} {o o2 : Option Value} {r : List (Option Value)} {x : Int64} (hn : 1 + 1 < nL) (hc : my_c1 a0 = true) (d : decode cc pc = .ok (.lstore_n 1, 1)) (e : pc + 1 = pc') (kk : Go X w lay k nL v τ σ pc' (a0 :: some (.long x) :: none :: r) st) : Go X w lay k nL v τ σ pc (a0 :: o :: o2 :: r) (.long x :: st) := g_lsn h pc' d rfl e hn (fun j hj => by obtain rfl : j = 0 := (by omega); exact my_okp_of rfl hc) kk
theorem g_inc1 (h : my_OK X w lay cc own nL ret) (pc' : Nat) {a0 : Option Value} {r : List (Option Value)} {n : Int} {x y : Int32} (hv : x + Int32.ofInt n = y) (hn : 1 < nL) (hc : my_c1 a0 = true) (d : decode cc pc = .ok (.iinc 1 n, 3)) (e : pc + 3 = pc') (kk : Go X w lay k nL v τ σ pc' (a0 :: some (.int y) :: r) st) : Go X w lay k nL v τ σ pc (a0 :: some (.int x) :: r) st := g_incg h pc' hv d e rfl hn (fun j hj => by obtain rfl : j = 0 := (by omega); exact my_okp_of rfl hc) kk
theorem g_il2 (h : my_OK X w lay cc own nL ret) (pc' : Nat) {a0 a1 : Option Value} {r : List (Option Value)} {x : Int32} (d : decode cc pc = .ok (.iload_n 2, 1)) (e : pc + 1 = pc') (kk : Go X w lay k nL v τ σ pc' (a0 :: a1 :: some (.int x) :: r) (.int x :: st)) : Go X w lay k nL v τ σ pc (a0 :: a1 :: some (.int x) :: r) st := g_iln h pc' d rfl e rfl kk
theorem g_al2 (h : my_OK X w lay cc own nL ret) (pc' : Nat) {a0 a1 : Option Value} {r : List (Option Value)} {x : Nat} (d : decode cc pc = .ok (.aload_n 2, 1)) (e : pc + 1 = pc') (kk : Go X w lay k nL v τ σ pc' (a0 :: a1 :: some (.ref x) :: r) (.ref x :: st)) : Go X w lay k nL v τ σ pc (a0 :: a1 :: some (.ref x) :: r) st := g_aln h pc' d rfl e rfl kk
theorem g_ll2 (h : my_OK X w lay cc own nL ret) (pc' : Nat) {a0 a1 : Option Value} {r : List (Option Value)} {x : Int64} (d : decode cc pc = .ok (.lload_n 2, 1)) (e : pc + 1 = pc') (kk : Go X w lay k nL v τ σ pc' (a0 :: a1 :: some (.long x) :: r) (.long x :: st)) : Go X w lay k nL v τ σ pc (a0 :: a1 :: some (.long x) :: r) st := g_lln h pc' d rfl e rfl kk
theorem g_is2 (h : my_OK X w lay cc own nL ret) (pc' : Nat) {a0 a1 : Option Value} {o : Option Value} {r : List (Option Value)} {x : Int32} (hn : 2 < nL) (hc : my_c1 a1 = true) (d : decode cc pc = .ok (.istore_n 2, 1)) (e : pc + 1 = pc') (kk : Go X w lay k nL v τ σ pc' (a0 :: a1 :: some (.int x) :: r) st) : Go X w lay k nL v τ σ pc (a0 :: a1 :: o :: r) (.int x :: st) := g_isn h pc' d rfl e hn (fun j hj => by obtain rfl : j = 1 := (by omega); exact my_okp_of rfl hc) kk
theorem g_as2 (h : my_OK X w lay cc own nL ret) (pc' : Nat) {a0 a1 : Option Value} {o : Option Value} {r : List (Option Value)} {x : Nat} (hn : 2 < nL) (hc : my_c1 a1 = true) (d : decode cc pc = .ok (.astore_n 2, 1)) (e : pc + 1 = pc') (kk : Go X w lay k nL v τ σ pc' (a0 :: a1 :: some (.ref x) :: r) st) : Go X w lay k nL v τ σ pc (a0 :: a1 :: o :: r) (.ref x :: st) := g_asn h pc' d rfl e hn (fun j hj => by obtain rfl : j = 1 := (by omega); exact my_okp_of rfl hc) kk
theorem g_ls2 (h : my_OK X w lay cc own nL ret) (pc' : Nat) {a0 a1 : Option Value} {o o2 : Option Value} {r : List (Option Value)} {x : Int64} (hn : 2 + 1 < nL) (hc : my_c1 a1 = true) (d : decode cc pc = .ok (.lstore_n 2, 1)) (e : pc + 1 = pc') (kk : Go X w lay k nL v τ σ pc' (a0 :: a1 :: some (.long x) :: none :: r) st) : Go X w lay k nL v τ σ pc (a0 :: a1 :: o :: o2 :: r) (.long x :: st) := g_lsn h pc' d rfl e hn (fun j hj => by obtain rfl : j = 1 := (by omega); exact my_okp_of rfl hc) kk
theorem g_inc2 (h : my_OK X w lay cc own nL ret) (pc' : Nat) {a0 a1 : Option Value} {r : List (Option Value)} {n : Int} {x y : Int32} (hv : x + Int32.ofInt n = y) (hn : 2 < nL) (hc : my_c1 a1 = true) (d : decode cc pc = .ok (.iinc 2 n, 3)) (e : pc + 3 = pc') (kk : Go X w lay k nL v τ σ pc' (a0 :: a1 :: some (.int y) :: r) st) : Go X w lay k nL v τ σ pc (a0 :: a1 :: some (.int x) :: r) st := g_incg h pc' hv d e rfl hn (fun j hj => by obtain rfl : j = 1 := (by omega); exact my_okp_of rfl hc) kk
theorem g_il3 (h : my_OK X w lay cc own nL ret) (pc' : Nat) {a0 a1 a2 : Option Value} {r : List (Option Value)} {x : Int32} (d : decode cc pc = .ok (.iload_n 3, 1)) (e : pc + 1 = pc') (kk : Go X w lay k nL v τ σ pc' (a0 :: a1 :: a2 :: some (.int x) :: r) (.int x :: st)) : Go X w lay k nL v τ σ pc (a0 :: a1 :: a2 :: some (.int x) :: r) st := g_iln h pc' d rfl e rfl kk
theorem g_al3 (h : my_OK X w lay cc own nL ret) (pc' : Nat) {a0 a1 a2 : Option Value} {r : List (Option Value)} {x : Nat} (d : decode cc pc = .ok (.aload_n 3, 1)) (e : pc + 1 = pc') (kk : Go X w lay k nL v τ σ pc' (a0 :: a1 :: a2 :: some (.ref x) :: r) (.ref x :: st)) : Go X w lay k nL v τ σ pc (a0 :: a1 :: a2 :: some (.ref x) :: r) st := g_aln h pc' d rfl e rfl kk
theorem g_ll3 (h : my_OK X w lay cc own nL ret) (pc' : Nat) {a0 a1 a2 : Option Value} {r : List (Option Value)} {x : Int64} (d : decode cc pc = .ok (.lload_n 3, 1)) (e : pc + 1 = pc') (kk : Go X w lay k nL v τ σ pc' (a0 :: a1 :: a2 :: some (.long x) :: r) (.long x :: st)) : Go X w lay k nL v τ σ pc (a0 :: a1 :: a2 :: some (.long x) :: r) st := g_lln h pc' d rfl e rfl kk
theorem g_is3 (h : my_OK X w lay cc own nL ret) (pc' : Nat) {a0 a1 a2 : Option Value} {o : Option Value} {r : List (Option Value)} {x : Int32} (hn : 3 < nL) (hc : my_c1 a2 = true) (d : decode cc pc = .ok (.istore_n 3, 1)) (e : pc + 1 = pc') (kk : Go X w lay k nL v τ σ pc' (a0 :: a1 :: a2 :: some (.int x) :: r) st) : Go X w lay k nL v τ σ pc (a0 :: a1 :: a2 :: o :: r) (.int x :: st) := g_isn h pc' d rfl e hn (fun j hj => by obtain rfl : j = 2 := (by omega); exact my_okp_of rfl hc) kk
theorem g_as3 (h : my_OK X w lay cc own nL ret) (pc' : Nat) {a0 a1 a2 : Option Value} {o : Option Value} {r : List (Option Value)} {x : Nat} (hn : 3 < nL) (hc : my_c1 a2 = true) (d : decode cc pc = .ok (.astore_n 3, 1)) (e : pc + 1 = pc') (kk : Go X w lay k nL v τ σ pc' (a0 :: a1 :: a2 :: some (.ref x) :: r) st) : Go X w lay k nL v τ σ pc (a0 :: a1 :: a2 :: o :: r) (.ref x :: st) := g_asn h pc' d rfl e hn (fun j hj => by obtain rfl : j = 2 := (by omega); exact my_okp_of rfl hc) kk
theorem g_ls3 (h : my_OK X w lay cc own nL ret) (pc' : Nat) {a0 a1 a2 : Option Value} {o o2 : Option Value} {r : List (Option Value)} {x : Int64} (hn : 3 + 1 < nL) (hc : my_c1 a2 = true) (d : decode cc pc = .ok (.lstore_n 3, 1)) (e : pc + 1 = pc') (kk : Go X w lay k nL v τ σ pc' (a0 :: a1 :: a2 :: some (.long x) :: none :: r) st) : Go X w lay k nL v τ σ pc (a0 :: a1 :: a2 :: o :: o2 :: r) (.long x :: st) := g_lsn h pc' d rfl e hn (fun j hj => by obtain rfl : j = 2 := (by omega); exact my_okp_of rfl hc) kk
theorem g_inc3 (h : my_OK X w lay cc own nL ret) (pc' : Nat) {a0 a1 a2 : Option Value} {r : List (Option Value)} {n : Int} {x y : Int32} (hv : x + Int32.ofInt n = y) (hn : 3 < nL) (hc : my_c1 a2 = true) (d : decode cc pc = .ok (.iinc 3 n, 3)) (e : pc + 3 = pc') (kk : Go X w lay k nL v τ σ pc' (a0 :: a1 :: a2 :: some (.int y) :: r) st) : Go X w lay k nL v τ σ pc (a0 :: a1 :: a2 :: some (.int x) :: r) st := g_incg h pc' hv d e rfl hn (fun j hj => by obtain rfl : j = 2 := (by omega); exact my_okp_of rfl hc) kk
theorem g_il4 (h : my_OK X w lay cc own nL ret) (pc' : Nat) {a0 a1 a2 a3 : Option Value} {r : List (Option Value)} {x : Int32} (d : decode cc pc = .ok (.iload 4, 2)) (e : pc + 2 = pc') (kk : Go X w lay k nL v τ σ pc' (a0 :: a1 :: a2 :: a3 :: some (.int x) :: r) (.int x :: st)) : Go X w lay k nL v τ σ pc (a0 :: a1 :: a2 :: a3 :: some (.int x) :: r) st := g_ilw h pc' d e rfl kk
theorem g_al4 (h : my_OK X w lay cc own nL ret) (pc' : Nat) {a0 a1 a2 a3 : Option Value} {r : List (Option Value)} {x : Nat} (d : decode cc pc = .ok (.aload 4, 2)) (e : pc + 2 = pc') (kk : Go X w lay k nL v τ σ pc' (a0 :: a1 :: a2 :: a3 :: some (.ref x) :: r) (.ref x :: st)) : Go X w lay k nL v τ σ pc (a0 :: a1 :: a2 :: a3 :: some (.ref x) :: r) st := g_alw h pc' d e rfl kk
theorem g_ll4 (h : my_OK X w lay cc own nL ret) (pc' : Nat) {a0 a1 a2 a3 : Option Value} {r : List (Option Value)} {x : Int64} (d : decode cc pc = .ok (.lload 4, 2)) (e : pc + 2 = pc') (kk : Go X w lay k nL v τ σ pc' (a0 :: a1 :: a2 :: a3 :: some (.long x) :: r) (.long x :: st)) : Go X w lay k nL v τ σ pc (a0 :: a1 :: a2 :: a3 :: some (.long x) :: r) st := g_llw h pc' d e rfl kk
theorem g_is4 (h : my_OK X w lay cc own nL ret) (pc' : Nat) {a0 a1 a2 a3 : Option Value} {o : Option Value} {r : List (Option Value)} {x : Int32} (hn : 4 < nL) (hc : my_c1 a3 = true) (d : decode cc pc = .ok (.istore 4, 2)) (e : pc + 2 = pc') (kk : Go X w lay k nL v τ σ pc' (a0 :: a1 :: a2 :: a3 :: some (.int x) :: r) st) : Go X w lay k nL v τ σ pc (a0 :: a1 :: a2 :: a3 :: o :: r) (.int x :: st) := g_isw h pc' d e hn (fun j hj => by obtain rfl : j = 3 := (by omega); exact my_okp_of rfl hc) kk
theorem g_as4 (h : my_OK X w lay cc own nL ret) (pc' : Nat) {a0 a1 a2 a3 : Option Value} {o : Option Value} {r : List (Option Value)} {x : Nat} (hn : 4 < nL) (hc : my_c1 a3 = true) (d : decode cc pc = .ok (.astore 4, 2)) (e : pc + 2 = pc') (kk : Go X w lay k nL v τ σ pc' (a0 :: a1 :: a2 :: a3 :: some (.ref x) :: r) st) : Go X w lay k nL v τ σ pc (a0 :: a1 :: a2 :: a3 :: o :: r) (.ref x :: st) := g_asw h pc' d e hn (fun j hj => by obtain rfl : j = 3 := (by omega); exact my_okp_of rfl hc) kk
theorem g_ls4 (h : my_OK X w lay cc own nL ret) (pc' : Nat) {a0 a1 a2 a3 : Option Value} {o o2 : Option Value} {r : List (Option Value)} {x : Int64} (hn : 4 + 1 < nL) (hc : my_c1 a3 = true) (d : decode cc pc = .ok (.lstore 4, 2)) (e : pc + 2 = pc') (kk : Go X w lay k nL v τ σ pc' (a0 :: a1 :: a2 :: a3 :: some (.long x) :: none :: r) st) : Go X w lay k nL v τ σ pc (a0 :: a1 :: a2 :: a3 :: o :: o2 :: r) (.long x :: st) := g_lsw2 h pc' d e hn (fun j hj => by obtain rfl : j = 3 := (by omega); exact my_okp_of rfl hc) kk
theorem g_inc4 (h : my_OK X w lay cc own nL ret) (pc' : Nat) {a0 a1 a2 a3 : Option Value} {r : List (Option Value)} {n : Int} {x y : Int32} (hv : x + Int32.ofInt n = y) (hn : 4 < nL) (hc : my_c1 a3 = true) (d : decode cc pc = .ok (.iinc 4 n, 3)) (e : pc + 3 = pc') (kk : Go X w lay k nL v τ σ pc' (a0 :: a1 :: a2 :: a3 :: some (.int y) :: r) st) : Go X w lay k nL v τ σ pc (a0 :: a1 :: a2 :: a3 :: some (.int x) :: r) st := g_incg h pc' hv d e rfl hn (fun j hj => by obtain rfl : j = 3 := (by omega); exact my_okp_of rfl hc) kk
theorem g_il5 (h : my_OK X w lay cc own nL ret) (pc' : Nat) {a0 a1 a2 a3 a4 : Option Value} {r : List (Option Value)} {x : Int32} (d : decode cc pc = .ok (.iload 5, 2)) (e : pc + 2 = pc') (kk : Go X w lay k nL v τ σ pc' (a0 :: a1 :: a2 :: a3 :: a4 :: some (.int x) :: r) (.int x :: st)) : Go X w lay k nL v τ σ pc (a0 :: a1 :: a2 :: a3 :: a4 :: some (.int x) :: r) st := g_ilw h pc' d e rfl kk
theorem g_al5 (h : my_OK X w lay cc own nL ret) (pc' : Nat) {a0 a1 a2 a3 a4 : Option Value} {r : List (Option Value)} {x : Nat} (d : decode cc pc = .ok (.aload 5, 2)) (e : pc + 2 = pc') (kk : Go X w lay k nL v τ σ pc' (a0 :: a1 :: a2 :: a3 :: a4 :: some (.ref x) :: r) (.ref x :: st)) : Go X w lay k nL v τ σ pc (a0 :: a1 :: a2 :: a3 :: a4 :: some (.ref x) :: r) st := g_alw h pc' d e rfl kk
theorem g_ll5 (h : my_OK X w lay cc own nL ret) (pc' : Nat) {a0 a1 a2 a3 a4 : Option Value} {r : List (Option Value)} {x : Int64} (d : decode cc pc = .ok (.lload 5, 2)) (e : pc + 2 = pc') (kk : Go X w lay k nL v τ σ pc' (a0 :: a1 :: a2 :: a3 :: a4 :: some (.long x) :: r) (.long x :: st)) : Go X w lay k nL v τ σ pc (a0 :: a1 :: a2 :: a3 :: a4 :: some (.long x) :: r) st := g_llw h pc' d e rfl kk
theorem g_is5 (h : my_OK X w lay cc own nL ret) (pc' : Nat) {a0 a1 a2 a3 a4 : Option Value} {o : Option Value} {r : List (Option Value)} {x : Int32} (hn : 5 < nL) (hc : my_c1 a4 = true) (d : decode cc pc = .ok (.istore 5, 2)) (e : pc + 2 = pc') (kk : Go X w lay k nL v τ σ pc' (a0 :: a1 :: a2 :: a3 :: a4 :: some (.int x) :: r) st) : Go X w lay k nL v τ σ pc (a0 :: a1 :: a2 :: a3 :: a4 :: o :: r) (.int x :: st) := g_isw h pc' d e hn (fun j hj => by obtain rfl : j = 4 := (by omega); exact my_okp_of rfl hc) kk
theorem g_as5 (h : my_OK X w lay cc own nL ret) (pc' : Nat) {a0 a1 a2 a3 a4 : Option Value} {o : Option Value} {r : List (Option Value)} {x : Nat} (hn : 5 < nL) (hc : my_c1 a4 = true) (d : decode cc pc = .ok (.astore 5, 2)) (e : pc + 2 = pc') (kk : Go X w lay k nL v τ σ pc' (a0 :: a1 :: a2 :: a3 :: a4 :: some (.ref x) :: r) st) : Go X w lay k nL v τ σ pc (a0 :: a1 :: a2 :: a3 :: a4 :: o :: r) (.ref x :: st) := g_asw h pc' d e hn (fun j hj => by obtain rfl : j = 4 := (by omega); exact my_okp_of rfl hc) kk
theorem g_ls5 (h : my_OK X w lay cc own nL ret) (pc' : Nat) {a0 a1 a2 a3 a4 : Option Value} {o o2 : Option Value} {r : List (Option Value)} {x : Int64} (hn : 5 + 1 < nL) (hc : my_c1 a4 = true) (d : decode cc pc = .ok (.lstore 5, 2)) (e : pc + 2 = pc') (kk : Go X w lay k nL v τ σ pc' (a0 :: a1 :: a2 :: a3 :: a4 :: some (.long x) :: none :: r) st) : Go X w lay k nL v τ σ pc (a0 :: a1 :: a2 :: a3 :: a4 :: o :: o2 :: r) (.long x :: st) := g_lsw2 h pc' d e hn (fun j hj => by obtain rfl : j = 4 := (by omega); exact my_okp_of rfl hc) kk
theorem g_inc5 (h : my_OK X w lay cc own nL ret) (pc' : Nat) {a0 a1 a2 a3 a4 : Option Value} {r : List (Option Value)} {n : Int} {x y : Int32} (hv : x + Int32.ofInt n = y) (hn : 5 < nL) (hc : my_c1 a4 = true) (d : decode cc pc = .ok (.iinc 5 n, 3)) (e : pc + 3 = pc') (kk : Go X w lay k nL v τ σ pc' (a0 :: a1 :: a2 :: a3 :: a4 :: some (.int y) :: r) st) : Go X w lay k nL v τ σ pc (a0 :: a1 :: a2 :: a3 :: a4 :: some (.int x) :: r) st := g_incg h pc' hv d e rfl hn (fun j hj => by obtain rfl : j = 4 := (by omega); exact my_okp_of rfl hc) kk
theorem g_il6 (h : my_OK X w lay cc own nL ret) (pc' : Nat) {a0 a1 a2 a3 a4 a5 : Option Value} {r : List (Option Value)} {x : Int32} (d : decode cc pc = .ok (.iload 6, 2)) (e : pc + 2 = pc') (kk : Go X w lay k nL v τ σ pc' (a0 :: a1 :: a2 :: a3 :: a4 :: a5 :: some (.int x) :: r) (.int x :: st)) : Go X w lay k nL v τ σ pc (a0 :: a1 :: a2 :: a3 :: a4 :: a5 :: some (.int x) :: r) st := g_ilw h pc' d e rfl kk
theorem g_al6 (h : my_OK X w lay cc own nL ret) (pc' : Nat) {a0 a1 a2 a3 a4 a5 : Option Value} {r : List (Option Value)} {x : Nat} (d : decode cc pc = .ok (.aload 6, 2)) (e : pc + 2 = pc') (kk : Go X w lay k nL v τ σ pc' (a0 :: a1 :: a2 :: a3 :: a4 :: a5 :: some (.ref x) :: r) (.ref x :: st)) : Go X w lay k nL v τ σ pc (a0 :: a1 :: a2 :: a3 :: a4 :: a5 :: some (.ref x) :: r) st := g_alw h pc' d e rfl kk
theorem g_ll6 (h : my_OK X w lay cc own nL ret) (pc' : Nat) {a0 a1 a2 a3 a4 a5 : Option Value} {r : List (Option Value)} {x : Int64} (d : decode cc pc = .ok (.lload 6, 2)) (e : pc + 2 = pc') (kk : Go X w lay k nL v τ σ pc' (a0 :: a1 :: a2 :: a3 :: a4 :: a5 :: some (.long x) :: r) (.long x :: st)) : Go X w lay k nL v τ σ pc (a0 :: a1 :: a2 :: a3 :: a4 :: a5 :: some (.long x) :: r) st := g_llw h pc' d e rfl kk
theorem g_is6 (h : my_OK X w lay cc own nL ret) (pc' : Nat) {a0 a1 a2 a3 a4 a5 : Option Value} {o : Option Value} {r : List (Option Value)} {x : Int32} (hn : 6 < nL) (hc : my_c1 a5 = true) (d : decode cc pc = .ok (.istore 6, 2)) (e : pc + 2 = pc') (kk : Go X w lay k nL v τ σ pc' (a0 :: a1 :: a2 :: a3 :: a4 :: a5 :: some (.int x) :: r) st) : Go X w lay k nL v τ σ pc (a0 :: a1 :: a2 :: a3 :: a4 :: a5 :: o :: r) (.int x :: st) := g_isw h pc' d e hn (fun j hj => by obtain rfl : j = 5 := (by omega); exact my_okp_of rfl hc) kk
theorem g_as6 (h : my_OK X w lay cc own nL ret) (pc' : Nat) {a0 a1 a2 a3 a4 a5 : Option Value} {o : Option Value} {r : List (Option Value)} {x : Nat} (hn : 6 < nL) (hc : my_c1 a5 = true) (d : decode cc pc = .ok (.astore 6, 2)) (e : pc + 2 = pc') (kk : Go X w lay k nL v τ σ pc' (a0 :: a1 :: a2 :: a3 :: a4 :: a5 :: some (.ref x) :: r) st) : Go X w lay k nL v τ σ pc (a0 :: a1 :: a2 :: a3 :: a4 :: a5 :: o :: r) (.ref x :: st) := g_asw h pc' d e hn (fun j hj => by obtain rfl : j = 5 := (by omega); exact my_okp_of rfl hc) kk
theorem g_ls6 (h : my_OK X w lay cc own nL ret) (pc' : Nat) {a0 a1 a2 a3 a4 a5 : Option Value} {o o2 : Option Value} {r : List (Option Value)} {x : Int64} (hn : 6 + 1 < nL) (hc : my_c1 a5 = true) (d : decode cc pc = .ok (.lstore 6, 2)) (e : pc + 2 = pc') (kk : Go X w lay k nL v τ σ pc' (a0 :: a1 :: a2 :: a3 :: a4 :: a5 :: some (.long x) :: none :: r) st) : Go X w lay k nL v τ σ pc (a0 :: a1 :: a2 :: a3 :: a4 :: a5 :: o :: o2 :: r) (.long x :: st) := g_lsw2 h pc' d e hn (fun j hj => by obtain rfl : j = 5 := (by omega); exact my_okp_of rfl hc) kk
theorem g_inc6 (h : my_OK X w lay cc own nL ret) (pc' : Nat) {a0 a1 a2 a3 a4 a5 : Option Value} {r : List (Option Value)} {n : Int} {x y : Int32} (hv : x + Int32.ofInt n = y) (hn : 6 < nL) (hc : my_c1 a5 = true) (d : decode cc pc = .ok (.iinc 6 n, 3)) (e : pc + 3 = pc') (kk : Go X w lay k nL v τ σ pc' (a0 :: a1 :: a2 :: a3 :: a4 :: a5 :: some (.int y) :: r) st) : Go X w lay k nL v τ σ pc (a0 :: a1 :: a2 :: a3 :: a4 :: a5 :: some (.int x) :: r) st := g_incg h pc' hv d e rfl hn (fun j hj => by obtain rfl : j = 5 := (by omega); exact my_okp_of rfl hc) kk
theorem g_il7 (h : my_OK X w lay cc own nL ret) (pc' : Nat) {a0 a1 a2 a3 a4 a5 a6 : Option Value} {r : List (Option Value)} {x : Int32} (d : decode cc pc = .ok (.iload 7, 2)) (e : pc + 2 = pc') (kk : Go X w lay k nL v τ σ pc' (a0 :: a1 :: a2 :: a3 :: a4 :: a5 :: a6 :: some (.int x) :: r) (.int x :: st)) : Go X w lay k nL v τ σ pc (a0 :: a1 :: a2 :: a3 :: a4 :: a5 :: a6 :: some (.int x) :: r) st := g_ilw h pc' d e rfl kk
theorem g_al7 (h : my_OK X w lay cc own nL ret) (pc' : Nat) {a0 a1 a2 a3 a4 a5 a6 : Option Value} {r : List (Option Value)} {x : Nat} (d : decode cc pc = .ok (.aload 7, 2)) (e : pc + 2 = pc') (kk : Go X w lay k nL v τ σ pc' (a0 :: a1 :: a2 :: a3 :: a4 :: a5 :: a6 :: some (.ref x) :: r) (.ref x :: st)) : Go X w lay k nL v τ σ pc (a0 :: a1 :: a2 :: a3 :: a4 :: a5 :: a6 :: some (.ref x) :: r) st := g_alw h pc' d e rfl kk
theorem g_ll7 (h : my_OK X w lay cc own nL ret) (pc' : Nat) {a0 a1 a2 a3 a4 a5 a6 : Option Value} {r : List (Option Value)} {x : Int64} (d : decode cc pc = .ok (.lload 7, 2)) (e : pc + 2 = pc') (kk : Go X w lay k nL v τ σ pc' (a0 :: a1 :: a2 :: a3 :: a4 :: a5 :: a6 :: some (.long x) :: r) (.long x :: st)) : Go X w lay k nL v τ σ pc (a0 :: a1 :: a2 :: a3 :: a4 :: a5 :: a6 :: some (.long x) :: r) st := g_llw h pc' d e rfl kk
theorem g_is7 (h : my_OK X w lay cc own nL ret) (pc' : Nat) {a0 a1 a2 a3 a4 a5 a6 : Option Value} {o : Option Value} {r : List (Option Value)} {x : Int32} (hn : 7 < nL) (hc : my_c1 a6 = true) (d : decode cc pc = .ok (.istore 7, 2)) (e : pc + 2 = pc') (kk : Go X w lay k nL v τ σ pc' (a0 :: a1 :: a2 :: a3 :: a4 :: a5 :: a6 :: some (.int x) :: r) st) : Go X w lay k nL v τ σ pc (a0 :: a1 :: a2 :: a3 :: a4 :: a5 :: a6 :: o :: r) (.int x :: st) := g_isw h pc' d e hn (fun j hj => by obtain rfl : j = 6 := (by omega); exact my_okp_of rfl hc) kk
theorem g_as7 (h : my_OK X w lay cc own nL ret) (pc' : Nat) {a0 a1 a2 a3 a4 a5 a6 : Option Value} {o : Option Value} {r : List (Option Value)} {x : Nat} (hn : 7 < nL) (hc : my_c1 a6 = true) (d : decode cc pc = .ok (.astore 7, 2)) (e : pc + 2 = pc') (kk : Go X w lay k nL v τ σ pc' (a0 :: a1 :: a2 :: a3 :: a4 :: a5 :: a6 :: some (.ref x) :: r) st) : Go X w lay k nL v τ σ pc (a0 :: a1 :: a2 :: a3 :: a4 :: a5 :: a6 :: o :: r) (.ref x :: st) := g_asw h pc' d e hn (fun j hj => by obtain rfl : j = 6 := (by omega); exact my_okp_of rfl hc) kk
theorem g_ls7 (h : my_OK X w lay cc own nL ret) (pc' : Nat) {a0 a1 a2 a3 a4 a5 a6 : Option Value} {o o2 : Option Value} {r : List (Option Value)} {x : Int64} (hn : 7 + 1 < nL) (hc : my_c1 a6 = true) (d : decode cc pc = .ok (.lstore 7, 2)) (e : pc + 2 = pc') (kk : Go X w lay k nL v τ σ pc' (a0 :: a1 :: a2 :: a3 :: a4 :: a5 :: a6 :: some (.long x) :: none :: r) st) : Go X w lay k nL v τ σ pc (a0 :: a1 :: a2 :: a3 :: a4 :: a5 :: a6 :: o :: o2 :: r) (.long x :: st) := g_lsw2 h pc' d e hn (fun j hj => by obtain rfl : j = 6 := (by omega); exact my_okp_of rfl hc) kk
theorem g_inc7 (h : my_OK X w lay cc own nL ret) (pc' : Nat) {a0 a1 a2 a3 a4 a5 a6 : Option Value} {r : List (Option Value)} {n : Int} {x y : Int32} (hv : x + Int32.ofInt n = y) (hn : 7 < nL) (hc : my_c1 a6 = true) (d : decode cc pc = .ok (.iinc 7 n, 3)) (e : pc + 3 = pc') (kk : Go X w lay k nL v τ σ pc' (a0 :: a1 :: a2 :: a3 :: a4 :: a5 :: a6 :: some (.int y) :: r) st) : Go X w lay k nL v τ σ pc (a0 :: a1 :: a2 :: a3 :: a4 :: a5 :: a6 :: some (.int x) :: r) st := g_incg h pc' hv d e rfl hn (fun j hj => by obtain rfl : j = 6 := (by omega); exact my_okp_of rfl hc) kk
theorem g_il8 (h : my_OK X w lay cc own nL ret) (pc' : Nat) {a0 a1 a2 a3 a4 a5 a6 a7 : Option Value} {r : List (Option Value)} {x : Int32} (d : decode cc pc = .ok (.iload 8, 2)) (e : pc + 2 = pc') (kk : Go X w lay k nL v τ σ pc' (a0 :: a1 :: a2 :: a3 :: a4 :: a5 :: a6 :: a7 :: some (.int x) :: r) (.int x :: st)) : Go X w lay k nL v τ σ pc (a0 :: a1 :: a2 :: a3 :: a4 :: a5 :: a6 :: a7 :: some (.int x) :: r) st := g_ilw h pc' d e rfl kk
theorem g_al8 (h : my_OK X w lay cc own nL ret) (pc' : Nat) {a0 a1 a2 a3 a4 a5 a6 a7 : Option Value} {r : List (Option Value)} {x : Nat} (d : decode cc pc = .ok (.aload 8, 2)) (e : pc + 2 = pc') (kk : Go X w lay k nL v τ σ pc' (a0 :: a1 :: a2 :: a3 :: a4 :: a5 :: a6 :: a7 :: some (.ref x) :: r) (.ref x :: st)) : Go X w lay k nL v τ σ pc (a0 :: a1 :: a2 :: a3 :: a4 :: a5 :: a6 :: a7 :: some (.ref x) :: r) st := g_alw h pc' d e rfl kk
theorem g_ll8 (h : my_OK X w lay cc own nL ret) (pc' : Nat) {a0 a1 a2 a3 a4 a5 a6 a7 : Option Value} {r : List (Option Value)} {x : Int64} (d : decode cc pc = .ok (.lload 8, 2)) (e : pc + 2 = pc') (kk : Go X w lay k nL v τ σ pc' (a0 :: a1 :: a2 :: a3 :: a4 :: a5 :: a6 :: a7 :: some (.long x) :: r) (.long x :: st)) : Go X w lay k nL v τ σ pc (a0 :: a1 :: a2 :: a3 :: a4 :: a5 :: a6 :: a7 :: some (.long x) :: r) st := g_llw h pc' d e rfl kk
theorem g_is8 (h : my_OK X w lay cc own nL ret) (pc' : Nat) {a0 a1 a2 a3 a4 a5 a6 a7 : Option Value} {o : Option Value} {r : List (Option Value)} {x : Int32} (hn : 8 < nL) (hc : my_c1 a7 = true) (d : decode cc pc = .ok (.istore 8, 2)) (e : pc + 2 = pc') (kk : Go X w lay k nL v τ σ pc' (a0 :: a1 :: a2 :: a3 :: a4 :: a5 :: a6 :: a7 :: some (.int x) :: r) st) : Go X w lay k nL v τ σ pc (a0 :: a1 :: a2 :: a3 :: a4 :: a5 :: a6 :: a7 :: o :: r) (.int x :: st) := g_isw h pc' d e hn (fun j hj => by obtain rfl : j = 7 := (by omega); exact my_okp_of rfl hc) kk
theorem g_as8 (h : my_OK X w lay cc own nL ret) (pc' : Nat) {a0 a1 a2 a3 a4 a5 a6 a7 : Option Value} {o : Option Value} {r : List (Option Value)} {x : Nat} (hn : 8 < nL) (hc : my_c1 a7 = true) (d : decode cc pc = .ok (.astore 8, 2)) (e : pc + 2 = pc') (kk : Go X w lay k nL v τ σ pc' (a0 :: a1 :: a2 :: a3 :: a4 :: a5 :: a6 :: a7 :: some (.ref x) :: r) st) : Go X w lay k nL v τ σ pc (a0 :: a1 :: a2 :: a3 :: a4 :: a5 :: a6 :: a7 :: o :: r) (.ref x :: st) := g_asw h pc' d e hn (fun j hj => by obtain rfl : j = 7 := (by omega); exact my_okp_of rfl hc) kk
theorem g_ls8 (h : my_OK X w lay cc own nL ret) (pc' : Nat) {a0 a1 a2 a3 a4 a5 a6 a7 : Option Value} {o o2 : Option Value} {r : List (Option Value)} {x : Int64} (hn : 8 + 1 < nL) (hc : my_c1 a7 = true) (d : decode cc pc = .ok (.lstore 8, 2)) (e : pc + 2 = pc') (kk : Go X w lay k nL v τ σ pc' (a0 :: a1 :: a2 :: a3 :: a4 :: a5 :: a6 :: a7 :: some (.long x) :: none :: r) st) : Go X w lay k nL v τ σ pc (a0 :: a1 :: a2 :: a3 :: a4 :: a5 :: a6 :: a7 :: o :: o2 :: r) (.long x :: st) := g_lsw2 h pc' d e hn (fun j hj => by obtain rfl : j = 7 := (by omega); exact my_okp_of rfl hc) kk
theorem g_inc8 (h : my_OK X w lay cc own nL ret) (pc' : Nat) {a0 a1 a2 a3 a4 a5 a6 a7 : Option Value} {r : List (Option Value)} {n : Int} {x y : Int32} (hv : x + Int32.ofInt n = y) (hn : 8 < nL) (hc : my_c1 a7 = true) (d : decode cc pc = .ok (.iinc 8 n, 3)) (e : pc + 3 = pc') (kk : Go X w lay k nL v τ σ pc' (a0 :: a1 :: a2 :: a3 :: a4 :: a5 :: a6 :: a7 :: some (.int y) :: r) st) : Go X w lay k nL v τ σ pc (a0 :: a1 :: a2 :: a3 :: a4 :: a5 :: a6 :: a7 :: some (.int x) :: r) st := g_incg h pc' hv d e rfl hn (fun j hj => by obtain rfl : j = 7 := (by omega); exact my_okp_of rfl hc) kk
theorem g_il9 (h : my_OK X w lay cc own nL ret) (pc' : Nat) {a0 a1 a2 a3 a4 a5 a6 a7 a8 : Option Value} {r : List (Option Value)} {x : Int32} (d : decode cc pc = .ok (.iload 9, 2)) (e : pc + 2 = pc') (kk : Go X w lay k nL v τ σ pc' (a0 :: a1 :: a2 :: a3 :: a4 :: a5 :: a6 :: a7 :: a8 :: some (.int x) :: r) (.int x :: st)) : Go X w lay k nL v τ σ pc (a0 :: a1 :: a2 :: a3 :: a4 :: a5 :: a6 :: a7 :: a8 :: some (.int x) :: r) st := g_ilw h pc' d e rfl kk
theorem g_al9 (h : my_OK X w lay cc own nL ret) (pc' : Nat) {a0 a1 a2 a3 a4 a5 a6 a7 a8 : Option Value} {r : List (Option Value)} {x : Nat} (d : decode cc pc = .ok (.aload 9, 2)) (e : pc + 2 = pc') (kk : Go X w lay k nL v τ σ pc' (a0 :: a1 :: a2 :: a3 :: a4 :: a5 :: a6 :: a7 :: a8 :: some (.ref x) :: r) (.ref x :: st)) : Go X w lay k nL v τ σ pc (a0 :: a1 :: a2 :: a3 :: a4 :: a5 :: a6 :: a7 :: a8 :: some (.ref x) :: r) st := g_alw h pc' d e rfl kk
theorem g_ll9 (h : my_OK X w lay cc own nL ret) (pc' : Nat) {a0 a1 a2 a3 a4 a5 a6 a7 a8 : Option Value} {r : List (Option Value)} {x : Int64} (d : decode cc pc = .ok (.lload 9, 2)) (e : pc + 2 = pc') (kk : Go X w lay k nL v τ σ pc' (a0 :: a1 :: a2 :: a3 :: a4 :: a5 :: a6 :: a7 :: a8 :: some (.long x) :: r) (.long x :: st)) : Go X w lay k nL v τ σ pc (a0 :: a1 :: a2 :: a3 :: a4 :: a5 :: a6 :: a7 :: a8 :: some (.long x) :: r) st := g_llw h pc' d e rfl kk
theorem g_is9 (h : my_OK X w lay cc own nL ret) (pc' : Nat) {a0 a1 a2 a3 a4 a5 a6 a7 a8 : Option Value} {o : Option Value} {r : List (Option Value)} {x : Int32} (hn : 9 < nL) (hc : my_c1 a8 = true) (d : decode cc pc = .ok (.istore 9, 2)) (e : pc + 2 = pc') (kk : Go X w lay k nL v τ σ pc' (a0 :: a1 :: a2 :: a3 :: a4 :: a5 :: a6 :: a7 :: a8 :: some (.int x) :: r) st) : Go X w lay k nL v τ σ pc (a0 :: a1 :: a2 :: a3 :: a4 :: a5 :: a6 :: a7 :: a8 :: o :: r) (.int x :: st) := g_isw h pc' d e hn (fun j hj => by obtain rfl : j = 8 := (by omega); exact my_okp_of rfl hc) kk
theorem g_as9 (h : my_OK X w lay cc own nL ret) (pc' : Nat) {a0 a1 a2 a3 a4 a5 a6 a7 a8 : Option Value} {o : Option Value} {r : List (Option Value)} {x : Nat} (hn : 9 < nL) (hc : my_c1 a8 = true) (d : decode cc pc = .ok (.astore 9, 2)) (e : pc + 2 = pc') (kk : Go X w lay k nL v τ σ pc' (a0 :: a1 :: a2 :: a3 :: a4 :: a5 :: a6 :: a7 :: a8 :: some (.ref x) :: r) st) : Go X w lay k nL v τ σ pc (a0 :: a1 :: a2 :: a3 :: a4 :: a5 :: a6 :: a7 :: a8 :: o :: r) (.ref x :: st) := g_asw h pc' d e hn (fun j hj => by obtain rfl : j = 8 := (by omega); exact my_okp_of rfl hc) kk
theorem g_ls9 (h : my_OK X w lay cc own nL ret) (pc' : Nat) {a0 a1 a2 a3 a4 a5 a6 a7 a8 : Option Value} {o o2 : Option Value} {r : List (Option Value)} {x : Int64} (hn : 9 + 1 < nL) (hc : my_c1 a8 = true) (d : decode cc pc = .ok (.lstore 9, 2)) (e : pc + 2 = pc') (kk : Go X w lay k nL v τ σ pc' (a0 :: a1 :: a2 :: a3 :: a4 :: a5 :: a6 :: a7 :: a8 :: some (.long x) :: none :: r) st) : Go X w lay k nL v τ σ pc (a0 :: a1 :: a2 :: a3 :: a4 :: a5 :: a6 :: a7 :: a8 :: o :: o2 :: r) (.long x :: st) := g_lsw2 h pc' d e hn (fun j hj => by obtain rfl : j = 8 := (by omega); exact my_okp_of rfl hc) kk
theorem g_inc9 (h : my_OK X w lay cc own nL ret) (pc' : Nat) {a0 a1 a2 a3 a4 a5 a6 a7 a8 : Option Value} {r : List (Option Value)} {n : Int} {x y : Int32} (hv : x + Int32.ofInt n = y) (hn : 9 < nL) (hc : my_c1 a8 = true) (d : decode cc pc = .ok (.iinc 9 n, 3)) (e : pc + 3 = pc') (kk : Go X w lay k nL v τ σ pc' (a0 :: a1 :: a2 :: a3 :: a4 :: a5 :: a6 :: a7 :: a8 :: some (.int y) :: r) st) : Go X w lay k nL v τ σ pc (a0 :: a1 :: a2 :: a3 :: a4 :: a5 :: a6 :: a7 :: a8 :: some (.int x) :: r) st := g_incg h pc' hv d e rfl hn (fun j hj => by obtain rfl : j = 8 := (by omega); exact my_okp_of rfl hc) kk
theorem g_il10 (h : my_OK X w lay cc own nL ret) (pc' : Nat) {a0 a1 a2 a3 a4 a5 a6 a7 a8 a9 : Option Value} {r : List (Option Value)} {x : Int32} (d : decode cc pc = .ok (.iload 10, 2)) (e : pc + 2 = pc') (kk : Go X w lay k nL v τ σ pc' (a0 :: a1 :: a2 :: a3 :: a4 :: a5 :: a6 :: a7 :: a8 :: a9 :: some (.int x) :: r) (.int x :: st)) : Go X w lay k nL v τ σ pc (a0 :: a1 :: a2 :: a3 :: a4 :: a5 :: a6 :: a7 :: a8 :: a9 :: some (.int x) :: r) st := g_ilw h pc' d e rfl kk
theorem g_al10 (h : my_OK X w lay cc own nL ret) (pc' : Nat) {a0 a1 a2 a3 a4 a5 a6 a7 a8 a9 : Option Value} {r : List (Option Value)} {x : Nat} (d : decode cc pc = .ok (.aload 10, 2)) (e : pc + 2 = pc') (kk : Go X w lay k nL v τ σ pc' (a0 :: a1 :: a2 :: a3 :: a4 :: a5 :: a6 :: a7 :: a8 :: a9 :: some (.ref x) :: r) (.ref x :: st)) : Go X w lay k nL v τ σ pc (a0 :: a1 :: a2 :: a3 :: a4 :: a5 :: a6 :: a7 :: a8 :: a9 :: some (.ref x) :: r) st := g_alw h pc' d e rfl kk
theorem g_ll10 (h : my_OK X w lay cc own nL ret) (pc' : Nat) {a0 a1 a2 a3 a4 a5 a6 a7 a8 a9 : Option Value} {r : List (Option Value)} {x : Int64} (d : decode cc pc = .ok (.lload 10, 2)) (e : pc + 2 = pc') (kk : Go X w lay k nL v τ σ pc' (a0 :: a1 :: a2 :: a3 :: a4 :: a5 :: a6 :: a7 :: a8 :: a9 :: some (.long x) :: r) (.long x :: st)) : Go X w lay k nL v τ σ pc (a0 :: a1 :: a2 :: a3 :: a4 :: a5 :: a6 :: a7 :: a8 :: a9 :: some (.long x) :: r) st := g_llw h pc' d e rfl kk
theorem g_is10 (h : my_OK X w lay cc own nL ret) (pc' : Nat) {a0 a1 a2 a3 a4 a5 a6 a7 a8 a9 : Option Value} {o : Option Value} {r : List (Option Value)} {x : Int32} (hn : 10 < nL) (hc : my_c1 a9 = true) (d : decode cc pc = .ok (.istore 10, 2)) (e : pc + 2 = pc') (kk : Go X w lay k nL v τ σ pc' (a0 :: a1 :: a2 :: a3 :: a4 :: a5 :: a6 :: a7 :: a8 :: a9 :: some (.int x) :: r) st) : Go X w lay k nL v τ σ pc (a0 :: a1 :: a2 :: a3 :: a4 :: a5 :: a6 :: a7 :: a8 :: a9 :: o :: r) (.int x :: st) := g_isw h pc' d e hn (fun j hj => by obtain rfl : j = 9 := (by omega); exact my_okp_of rfl hc) kk
theorem g_as10 (h : my_OK X w lay cc own nL ret) (pc' : Nat) {a0 a1 a2 a3 a4 a5 a6 a7 a8 a9 : Option Value} {o : Option Value} {r : List (Option Value)} {x : Nat} (hn : 10 < nL) (hc : my_c1 a9 = true) (d : decode cc pc = .ok (.astore 10, 2)) (e : pc + 2 = pc') (kk : Go X w lay k nL v τ σ pc' (a0 :: a1 :: a2 :: a3 :: a4 :: a5 :: a6 :: a7 :: a8 :: a9 :: some (.ref x) :: r) st) : Go X w lay k nL v τ σ pc (a0 :: a1 :: a2 :: a3 :: a4 :: a5 :: a6 :: a7 :: a8 :: a9 :: o :: r) (.ref x :: st) := g_asw h pc' d e hn (fun j hj => by obtain rfl : j = 9 := (by omega); exact my_okp_of rfl hc) kk
theorem g_ls10 (h : my_OK X w lay cc own nL ret) (pc' : Nat) {a0 a1 a2 a3 a4 a5 a6 a7 a8 a9 : Option Value} {o o2 : Option Value} {r : List (Option Value)} {x : Int64} (hn : 10 + 1 < nL) (hc : my_c1 a9 = true) (d : decode cc pc = .ok (.lstore 10, 2)) (e : pc + 2 = pc') (kk : Go X w lay k nL v τ σ pc' (a0 :: a1 :: a2 :: a3 :: a4 :: a5 :: a6 :: a7 :: a8 :: a9 :: some (.long x) :: none :: r) st) : Go X w lay k nL v τ σ pc (a0 :: a1 :: a2 :: a3 :: a4 :: a5 :: a6 :: a7 :: a8 :: a9 :: o :: o2 :: r) (.long x :: st) := g_lsw2 h pc' d e hn (fun j hj => by obtain rfl : j = 9 := (by omega); exact my_okp_of rfl hc) kk
theorem g_inc10 (h : my_OK X w lay cc own nL ret) (pc' : Nat) {a0 a1 a2 a3 a4 a5 a6 a7 a8 a9 : Option Value} {r : List (Option Value)} {n : Int} {x y : Int32} (hv : x + Int32.ofInt n = y) (hn : 10 < nL) (hc : my_c1 a9 = true) (d : decode cc pc = .ok (.iinc 10 n, 3)) (e : pc + 3 = pc') (kk : Go X w lay k nL v τ σ pc' (a0 :: a1 :: a2 :: a3 :: a4 :: a5 :: a6 :: a7 :: a8 :: a9 :: some (.int y) :: r) st) : Go X w lay k nL v τ σ pc (a0 :: a1 :: a2 :: a3 :: a4 :: a5 :: a6 :: a7 :: a8 :: a9 :: some (.int x) :: r) st := g_incg h pc' hv d e rfl hn (fun j hj => by obtain rfl : j = 9 := (by omega); exact my_okp_of rfl hc) kk
theorem g_il11 (h : my_OK X w lay cc own nL ret) (pc' : Nat) {a0 a1 a2 a3 a4 a5 a6 a7 a8 a9 a10 : Option Value} {r : List (Option Value)} {x : Int32} (d : decode cc pc = .ok (.iload 11, 2)) (e : pc + 2 = pc') (kk : Go X w lay k nL v τ σ pc' (a0 :: a1 :: a2 :: a3 :: a4 :: a5 :: a6 :: a7 :: a8 :: a9 :: a10 :: some (.int x) :: r) (.int x :: st)) : Go X w lay k nL v τ σ pc (a0 :: a1 :: a2 :: a3 :: a4 :: a5 :: a6 :: a7 :: a8 :: a9 :: a10 :: some (.int x) :: r) st := g_ilw h pc' d e rfl kk
theorem g_al11 (h : my_OK X w lay cc own nL ret) (pc' : Nat) {a0 a1 a2 a3 a4 a5 a6 a7 a8 a9 a10 : Option Value} {r : List (Option Value)} {x : Nat} (d : decode cc pc = .ok (.aload 11, 2)) (e : pc + 2 = pc') (kk : Go X w lay k nL v τ σ pc' (a0 :: a1 :: a2 :: a3 :: a4 :: a5 :: a6 :: a7 :: a8 :: a9 :: a10 :: some (.ref x) :: r) (.ref x :: st)) : Go X w lay k nL v τ σ pc (a0 :: a1 :: a2 :: a3 :: a4 :: a5 :: a6 :: a7 :: a8 :: a9 :: a10 :: some (.ref x) :: r) st := g_alw h pc' d e rfl kk
theorem g_ll11 (h : my_OK X w lay cc own nL ret) (pc' : Nat) {a0 a1 a2 a3 a4 a5 a6 a7 a8 a9 a10 : Option Value} {r : List (Option Value)} {x : Int64} (d : decode cc pc = .ok (.lload 11, 2)) (e : pc + 2 = pc') (kk : Go X w lay k nL v τ σ pc' (a0 :: a1 :: a2 :: a3 :: a4 :: a5 :: a6 :: a7 :: a8 :: a9 :: a10 :: some (.long x) :: r) (.long x :: st)) : Go X w lay k nL v τ σ pc (a0 :: a1 :: a2 :: a3 :: a4 :: a5 :: a6 :: a7 :: a8 :: a9 :: a10 :: some (.long x) :: r) st := g_llw h pc' d e rfl kk
theorem g_is11 (h : my_OK X w lay cc own nL ret) (pc' : Nat) {a0 a1 a2 a3 a4 a5 a6 a7 a8 a9 a10 : Option Value} {o : Option Value} {r : List (Option Value)} {x : Int32} (hn : 11 < nL) (hc : my_c1 a10 = true) (d : decode cc pc = .ok (.istore 11, 2)) (e : pc + 2 = pc') (kk : Go X w lay k nL v τ σ pc' (a0 :: a1 :: a2 :: a3 :: a4 :: a5 :: a6 :: a7 :: a8 :: a9 :: a10 :: some (.int x) :: r) st) : Go X w lay k nL v τ σ pc (a0 :: a1 :: a2 :: a3 :: a4 :: a5 :: a6 :: a7 :: a8 :: a9 :: a10 :: o :: r) (.int x :: st) := g_isw h pc' d e hn (fun j hj => by obtain rfl : j = 10 := (by omega); exact my_okp_of rfl hc) kk
theorem g_as11 (h : my_OK X w lay cc own nL ret) (pc' : Nat) {a0 a1 a2 a3 a4 a5 a6 a7 a8 a9 a10 : Option Value} {o : Option Value} {r : List (Option Value)} {x : Nat} (hn : 11 < nL) (hc : my_c1 a10 = true) (d : decode cc pc = .ok (.astore 11, 2)) (e : pc + 2 = pc') (kk : Go X w lay k nL v τ σ pc' (a0 :: a1 :: a2 :: a3 :: a4 :: a5 :: a6 :: a7 :: a8 :: a9 :: a10 :: some (.ref x) :: r) st) : Go X w lay k nL v τ σ pc (a0 :: a1 :: a2 :: a3 :: a4 :: a5 :: a6 :: a7 :: a8 :: a9 :: a10 :: o :: r) (.ref x :: st) := g_asw h pc' d e hn (fun j hj => by obtain rfl : j = 10 := (by omega); exact my_okp_of rfl hc) kk
theorem g_ls11 (h : my_OK X w lay cc own nL ret) (pc' : Nat) {a0 a1 a2 a3 a4 a5 a6 a7 a8 a9 a10 : Option Value} {o o2 : Option Value} {r : List (Option Value)} {x : Int64} (hn : 11 + 1 < nL) (hc : my_c1 a10 = true) (d : decode cc pc = .ok (.lstore 11, 2)) (e : pc + 2 = pc') (kk : Go X w lay k nL v τ σ pc' (a0 :: a1 :: a2 :: a3 :: a4 :: a5 :: a6 :: a7 :: a8 :: a9 :: a10 :: some (.long x) :: none :: r) st) : Go X w lay k nL v τ σ pc (a0 :: a1 :: a2 :: a3 :: a4 :: a5 :: a6 :: a7 :: a8 :: a9 :: a10 :: o :: o2 :: r) (.long x :: st) := g_lsw2 h pc' d e hn (fun j hj => by obtain rfl : j = 10 := (by omega); exact my_okp_of rfl hc) kk
theorem g_inc11 (h : my_OK X w lay cc own nL ret) (pc' : Nat) {a0 a1 a2 a3 a4 a5 a6 a7 a8 a9 a10 : Option Value} {r : List (Option Value)} {n : Int} {x y : Int32} (hv : x + Int32.ofInt n = y) (hn : 11 < nL) (hc : my_c1 a10 = true) (d : decode cc pc = .ok (.iinc 11 n, 3)) (e : pc + 3 = pc') (kk : Go X w lay k nL v τ σ pc' (a0 :: a1 :: a2 :: a3 :: a4 :: a5 :: a6 :: a7 :: a8 :: a9 :: a10 :: some (.int y) :: r) st) : Go X w lay k nL v τ σ pc (a0 :: a1 :: a2 :: a3 :: a4 :: a5 :: a6 :: a7 :: a8 :: a9 :: a10 :: some (.int x) :: r) st := g_incg h pc' hv d e rfl hn (fun j hj => by obtain rfl : j = 10 := (by omega); exact my_okp_of rfl hc) kk
/-! objects -/
def my_Cl (ci : Nat) (C : String) (T : u_T) (N : Nat) : Prop := vwCl[ci]? = some (C, T, N) ∧ (∀ u ∈ u_ws C T N, u ∈ tblG) ∧ ∃ ty : Nat → FieldType, (∀ q, q < N → parseFieldDescriptor (T q).2.2.1 = some (ty q)) ∧ ∀ a, a < N → ∀ b, b < N → a ≠ b → (T a).2.1 ≠ (T b).2.1
def my_F (own : String) (idx ci f : Nat) (ty : FieldType) : Prop := ∃ (C : String) (T : u_T) (N : Nat) (ref : String), my_Cl ci C T N ∧ f < N ∧ Cond.fieldLink own idx ref (T f).2.1 (T f).2.2.1 ∈ tblG ∧ (ref = (T f).1 ∨ Cond.sameField ref (T f).1 (T f).2.1 (T f).2.2.1 ∈ tblG) ∧ parseFieldDescriptor (T f).2.2.1 = some ty
def my_FP (own : String) (idx ci f : Nat) (ty : FieldType) : Prop := ∃ (C : String) (T : u_T) (N : Nat) (ref : String), my_Cl ci C T N ∧ f < N ∧ Cond.fieldLink own idx ref (T f).2.1 (T f).2.2.1 ∈ tblG ∧ (ref = (T f).1 ∨ Cond.sameField ref (T f).1 (T f).2.1 (T f).2.2.1 ∈ tblG) ∧ parseFieldDescriptor (T f).2.2.1 = some ty ∧ (T f).2.2.2 = false
theorem my_same {A : Array Value} {s : State} (hts : ∀ u ∈ tblG, u.before A s = true) {ref o n d : String} (h : ref = o ∨ Cond.sameField ref o n d ∈ tblG) : ∀ x, s.fieldFound? o n d = some x → s.fieldFound? ref n d = some x := by
  intro x hx
  rcases h with rfl | h
  · exact hx
  · exact u_same (hts _ h) x hx
theorem my_up_same {j q : Nat} {x : Int32} : my_up σ j q x j = upd (σ j) q x := by simp [my_up, va_up]
theorem my_up_ne {j q i : Nat} {x : Int32} (hi : i ≠ j) : my_up σ j q x i = σ i := by simp [my_up, va_up, hi]
theorem g_geti (h : my_OK X w lay cc own nL ret) (pc' : Nat) {idx j ci f : Nat} {ty : FieldType} {fs : List (Option Nat)} (hF : my_F own idx ci f ty) (hl0 : lay[j]? = some (.inr (ci, fs))) (ho : fs[f]? = some none) (d : decode cc pc = .ok (.getfield idx, 3)) (e : pc + 3 = pc')
    (kk : Go X w lay k nL v τ σ pc' lv (.int (σ j f) :: st)) : Go X w lay k nL v τ σ pc lv (.ref (w.2.2.2 j) :: st) := by
  subst e
  obtain ⟨C, T, N, ref, ⟨hc, hin, -⟩, hk, hlk, hsm, -⟩ := hF
  intro H locs ls hP hS hl
  exact va_get h.1 h.2.1 h.2.2.2.2.1 hin h.2.2.2.1 h.2.2.2.2.2.1.1 hP j (my_ws_at hl0) hc f hk (h.2.2.2.2.1 _ hlk) (my_same h.2.2.2.2.1 hsm) (by rw [List.getElem?_mapIdx, ho]; rfl) d (kk H locs ls hP hS hl)
theorem g_geta (h : my_OK X w lay cc own nL ret) (pc' : Nat) {idx j ci f r : Nat} {ty : FieldType} {fs : List (Option Nat)} (hF : my_F own idx ci f ty) (hl0 : lay[j]? = some (.inr (ci, fs))) (ho : fs[f]? = some (some r)) (d : decode cc pc = .ok (.getfield idx, 3)) (e : pc + 3 = pc')
    (kk : Go X w lay k nL v τ σ pc' lv (.ref (w.2.2.2 r) :: st)) : Go X w lay k nL v τ σ pc lv (.ref (w.2.2.2 j) :: st) := by
  subst e
  obtain ⟨C, T, N, ref, ⟨hc, hin, -⟩, hk, hlk, hsm, -⟩ := hF
  intro H locs ls hP hS hl
  exact va_get h.1 h.2.1 h.2.2.2.2.1 hin h.2.2.2.1 h.2.2.2.2.2.1.1 hP j (my_ws_at hl0) hc f hk (h.2.2.2.2.1 _ hlk) (my_same h.2.2.2.2.1 hsm) (by rw [List.getElem?_mapIdx, ho]; rfl) d (kk H locs ls hP hS hl)
theorem my_put_list {io : Nat → Nat} {g : Nat → Int32} {fs : List (Option Nat)} {f : Nat} {x : Int32} (ho : fs[f]? = some none) : (fs.mapIdx (my_fv io g)).set f (.int x) = fs.mapIdx (my_fv io (upd g f x)) := by
  apply List.ext_getElem?
  intro i
  by_cases hi : i = f
  · subst hi
    have hlt : i < fs.length := (List.getElem?_eq_some_iff.mp ho).1
    rw [List.getElem?_set_self (by simpa using hlt), List.getElem?_mapIdx, ho]
    simp [my_fv, upd]
  · rw [List.getElem?_set_ne (Ne.symm hi), List.getElem?_mapIdx, List.getElem?_mapIdx]
    cases fs[i]? with
    | none => rfl
    | some o => cases o <;> simp [my_fv, upd, hi]
theorem g_putt (h : my_OK X w lay cc own nL ret) (pc' : Nat) {idx j ci f : Nat} {ty : FieldType} {fs : List (Option Nat)} {x : Int32} (hF : my_FP own idx ci f ty) (hl0 : lay[j]? = some (.inr (ci, fs))) (ho : fs[f]? = some none) (hn : narrow ty (.int x) = .int x) (hfit : fits ty (.int x) = true) (d : decode cc pc = .ok (.putfield idx, 3)) (e : pc + 3 = pc')
    (kk : Go X w lay k nL v τ (my_up σ j f x) pc' lv st) : Go X w lay k nL v τ σ pc lv (.int x :: .ref (w.2.2.2 j) :: st) := by
  subst e
  obtain ⟨C, T, N, ref, ⟨hc, hin, ty0, hty, hnm⟩, hk, hlk, hsm, hd, hfin⟩ := hF
  intro H locs ls hP hS hl
  have hlt : f < (fs.mapIdx (my_fv w.2.2.2 (σ j))).length := by
    have := (List.getElem?_eq_some_iff.mp ho).1
    simpa using this
  refine va_put h.1 h.2.1 h.2.2.2.2.1 hin ty0 hty hnm h.2.2.2.1 h.2.2.2.2.2.1.1 hP (my_D h.2.2.2.2.2.2.1) hS j (my_ws_at hl0) hc f hk (h.2.2.2.2.1 _ hlk) (my_same h.2.2.2.2.1 hsm) hfin hd hn hfit hlt d (fun H1 locs1 hP1 hD1 hS1 => kk H1 locs1 ls ?_ hS1 hl)
  have hset := my_ws_set (w := w) (σ := σ) (τ := my_up σ j f x) hl0 (fun i hi => my_up_ne hi)
  have he : my_e w (my_up σ j f x) j (.inr (ci, fs)) = .inr (ci, (fs.mapIdx (my_fv w.2.2.2 (σ j))).set f (.int x)) := by
    show (Sum.inr (ci, fs.mapIdx (my_fv w.2.2.2 (my_up σ j f x j))) : va_E) = _
    rw [my_up_same, my_put_list ho]
  rw [he] at hset
  show va_P _ _ _ _
  rw [← hset]
  exact hP1
theorem g_puti (h : my_OK X w lay cc own nL ret) (pc' : Nat) {idx j ci f : Nat} {fs : List (Option Nat)} {x : Int32} (hF : my_FP own idx ci f .int) (hl0 : lay[j]? = some (.inr (ci, fs))) (ho : fs[f]? = some none) (d : decode cc pc = .ok (.putfield idx, 3)) (e : pc + 3 = pc')
    (kk : Go X w lay k nL v τ (my_up σ j f x) pc' lv st) : Go X w lay k nL v τ σ pc lv (.int x :: .ref (w.2.2.2 j) :: st) := g_putt h pc' hF hl0 ho rfl rfl d e kk
abbrev my_b (x : Int32) : Prop := x = 0 ∨ x = 1
theorem my_b_nar {x : Int32} (h : my_b x) : narrow .boolean (.int x) = .int x ∧ fits .boolean (.int x) = true := by
  rcases h with rfl | rfl <;> decide
theorem g_putz (h : my_OK X w lay cc own nL ret) (pc' : Nat) {idx j ci f : Nat} {fs : List (Option Nat)} {x : Int32} (hF : my_FP own idx ci f .boolean) (hl0 : lay[j]? = some (.inr (ci, fs))) (ho : fs[f]? = some none) (d : decode cc pc = .ok (.putfield idx, 3)) (e : pc + 3 = pc') (hx : my_b x)
    (kk : Go X w lay k nL v τ (my_up σ j f x) pc' lv st) : Go X w lay k nL v τ σ pc lv (.int x :: .ref (w.2.2.2 j) :: st) := g_putt h pc' hF hl0 ho (my_b_nar hx).1 (my_b_nar hx).2 d e kk
/-! arrays -/
theorem g_iald (h : my_OK X w lay cc own nL ret) (pc' : Nat) {j : Nat} {i : Int32} (d : decode cc pc = .ok (.iaload, 1)) (e : pc + 1 = pc') (hok : my_ix i (my_len lay j))
    (kk : Go X w lay k nL v τ σ pc' lv (.int (σ j i.toNatClampNeg) :: st)) : Go X w lay k nL v τ σ pc lv (.int i :: .ref (w.2.2.2 j) :: st) := by
  subst e
  exact fun H locs ls hP hS hl => va_iald h.1 h.2.1 h.2.2.2.2.2.1.1 hP j 0 (my_ws_at (my_len_in hok)) rfl hok d (kk H locs ls hP hS hl)
theorem g_iast (h : my_OK X w lay cc own nL ret) (pc' : Nat) {j : Nat} {i x : Int32} (d : decode cc pc = .ok (.iastore, 1)) (e : pc + 1 = pc') (hok : my_ix i (my_len lay j))
    (kk : Go X w lay k nL v τ (my_up σ j i.toNatClampNeg x) pc' lv st) : Go X w lay k nL v τ σ pc lv (.int x :: .int i :: .ref (w.2.2.2 j) :: st) := by
  subst e
  intro H locs ls hP hS hl
  refine va_iast h.1 h.2.1 h.2.2.2.2.2.1.1 hP (my_D h.2.2.2.2.2.2.1) hS j 0 (my_ws_at (my_len_in hok)) rfl hok d (fun H1 locs1 hP1 hD1 hS1 => kk H1 locs1 ls ?_ hS1 hl)
  have hset := my_ws_set (w := w) (σ := σ) (τ := my_up σ j i.toNatClampNeg x) (my_len_in hok) (fun i hi => my_up_ne hi)
  have he : my_e w (my_up σ j i.toNatClampNeg x) j (.inl (.inl (my_len lay j))) = .inl (w.2.2.1 0, my_len lay j, .inl (upd (σ j) i.toNatClampNeg x)) := by
    show (Sum.inl (w.2.2.1 0, my_len lay j, Sum.inl (my_up σ j i.toNatClampNeg x j)) : va_E) = _
    rw [my_up_same]
  rw [he] at hset
  show va_P _ _ _ _
  rw [← hset]
  exact hP1
theorem g_alen (h : my_OK X w lay cc own nL ret) (pc' : Nat) {j : Nat} (d : decode cc pc = .ok (.arraylength, 1)) (e : pc + 1 = pc') (hok : 0 < my_len lay j)
    (kk : Go X w lay k nL v τ σ pc' lv (.int (nI (my_len lay j)) :: st)) : Go X w lay k nL v τ σ pc lv (.ref (w.2.2.2 j) :: st) := by
  subst e
  exact fun H locs ls hP hS hl => va_alen h.1 h.2.1 h.2.2.2.2.2.1.1 hP j 0 (x := (my_len lay j, .inl (σ j))) (my_ws_at (my_len_at hok)) (ty := .int) rfl rfl d (kk H locs ls hP hS hl)
theorem g_aald (h : my_OK X w lay cc own nL ret) (pc' : Nat) {j t n r : Nat} {C : String} {i : Int32} (hl0 : lay[j]? = some (.inl (.inr (t, n, r)))) (ht : (my_ty w)[t]? = some (w.2.2.1 t, .object C)) (d : decode cc pc = .ok (.aaload, 1)) (e : pc + 1 = pc') (hok : my_ix i n)
    (kk : Go X w lay k nL v τ σ pc' lv (.ref (w.2.2.2 (r + i.toNatClampNeg)) :: st)) : Go X w lay k nL v τ σ pc lv (.int i :: .ref (w.2.2.2 j) :: st) := by
  subst e
  exact fun H locs ls hP hS hl => va_aldq h.1 h.2.1 h.2.2.2.2.2.1.1 hP j t (my_ws_at hl0) ht hok d (kk H locs ls hP hS hl)
/-- System.arraycopy between int rows -/
def my_cp (σ : my_M) (a b : Nat) (i j n : Int32) : my_M := va_up σ b (va_cpy (σ a) (σ b) i.toNatClampNeg j.toNatClampNeg n.toNatClampNeg)
abbrev my_cpok (lay : List my_L) (a b : Nat) (i j n : Int32) : Prop := ¬ i < 0 ∧ ¬ j < 0 ∧ ¬ n < 0 ∧ i.toNatClampNeg + n.toNatClampNeg ≤ my_len lay a ∧ j.toNatClampNeg + n.toNatClampNeg ≤ my_len lay b ∧ 0 < my_len lay a ∧ 0 < my_len lay b
theorem g_copy (h : my_OK X w lay cc own nL ret) (pc' : Nat) {idx a b : Nat} {i j n : Int32} (hlk : Cond.methodLink own idx arraycopyName ∈ tblG) (hk : 1 ≤ k) (d : decode cc pc = .ok (.invokestatic idx, 3)) (e : pc + 3 = pc') (hs : (st.map fun v => v.category).sum ≤ 8) (hok : my_cpok lay a b i j n)
    (kk : Go X w lay k nL v τ (my_cp σ a b i j n) pc' lv st) : Go X w lay k nL v τ σ pc lv (.int n :: .int j :: .ref (w.2.2.2 b) :: .int i :: .ref (w.2.2.2 a) :: st) := by
  subst e
  obtain ⟨h1, h2, h3, h4, h5, h6, h7⟩ := hok
  intro H locs ls hP hS hl
  refine va_copyi h.1 h.2.1 (h.2.2.1.trans hl.1.symm) h.2.2.2.1 (h.2.2.2.2.1 _ hlk) (h.2.2.2.2.1 _ tw_nv_J10_arraycopy) (h.2.2.2.2.1 _ tw_st_J10_arraycopy) (h.2.2.2.2.1 _ tw_in_J10) h.2.2.2.2.2.1.1 hP (my_D h.2.2.2.2.2.2.1) hS a b 0 0 (my_ws_at (my_len_at h6)) (my_ws_at (my_len_at h7)) rfl rfl rfl h1 h2 h3 h4 h5 (fun _ _ => rfl) hk ?_ d (fun H1 locs1 hP1 hD1 hS1 => kk H1 locs1 ls ?_ hS1 hl)
  · have hn : nativeFrameWords "java/lang/System" "arraycopy" 5 + 11 ≤ 52 := by decide
    show (st.map fun v => v.category).sum + (nativeFrameWords "java/lang/System" "arraycopy" 5 + 11) ≤ 60 * k
    omega
  · have hset := my_ws_set (w := w) (σ := σ) (τ := my_cp σ a b i j n) (my_len_at h7) (fun q hq => by simp [my_cp, va_up, hq])
    have he : my_e w (my_cp σ a b i j n) b (.inl (.inl (my_len lay b))) = .inl (w.2.2.1 0, my_len lay b, .inl (va_cpy (σ a) (σ b) i.toNatClampNeg j.toNatClampNeg n.toNatClampNeg)) := by
      show (Sum.inl (w.2.2.1 0, my_len lay b, Sum.inl (my_cp σ a b i j n b)) : va_E) = _
      simp [my_cp, va_up]
    rw [he] at hset
    show va_P _ _ _ _
    rw [← hset]
    exact hP1
/-! returns -/
theorem g_iret (h : my_OK X w lay cc own nL (some .int)) {x : Int32} (d : decode cc pc = .ok (.ireturn, 1)) (hv : some (.int x) = v) (hσ : σ = τ) : Go X w lay k nL v τ σ pc lv [.int x] := by
  subst hv; subst hσ
  exact fun H locs ls hP hS hl => W.iret h.1 h.2.1 h.2.2.2.2.2.2.2.2 (fun t ht hW => ⟨⟨rfl, by rw [ht]; exact hP, my_K_warm hW h.2.2.2.2.2.1⟩, hS.F ht⟩) hS.2.2 d h.2.2.2.2.2.2.2.1
theorem g_zret (h : my_OK X w lay cc own nL (some .boolean)) {x : Int32} (d : decode cc pc = .ok (.ireturn, 1)) (hb : my_b x) (hv : some (.int x) = v) (hσ : σ = τ) : Go X w lay k nL v τ σ pc lv [.int x] := by
  subst hv; subst hσ
  exact fun H locs ls hP hS hl => W.zret h.1 h.2.1 h.2.2.2.2.2.2.2.2 (my_b_nar hb).1 (fun t ht hW => ⟨⟨rfl, by rw [ht]; exact hP, my_K_warm hW h.2.2.2.2.2.1⟩, hS.F ht⟩) hS.2.2 d h.2.2.2.2.2.2.2.1
theorem g_lret (h : my_OK X w lay cc own nL (some .long)) {x : Int64} (d : decode cc pc = .ok (.lreturn, 1)) (hv : some (.long x) = v) (hσ : σ = τ) : Go X w lay k nL v τ σ pc lv [.long x] := by
  subst hv; subst hσ
  exact fun H locs ls hP hS hl => W.lret h.1 h.2.1 h.2.2.2.2.2.2.2.2 (fun t ht hW => ⟨⟨rfl, by rw [ht]; exact hP, my_K_warm hW h.2.2.2.2.2.1⟩, hS.F ht⟩) hS.2.2 d h.2.2.2.2.2.2.2.1
theorem g_vret (h : my_OK X w lay cc own nL none) (d : decode cc pc = .ok (.return_, 1)) (hv : none = v) (hσ : σ = τ) : Go X w lay k nL v τ σ pc lv [] := by
  subst hv; subst hσ
  exact fun H locs ls hP hS hl => W.vret h.1 h.2.1 h.2.2.2.2.2.2.2.2 (fun t ht hW => ⟨⟨rfl, by rw [ht]; exact hP, my_K_warm hW h.2.2.2.2.2.1⟩, hS.F ht⟩) hS.2.2 d h.2.2.2.2.2.2.2.1
/-! calls -/
theorem my_go_run {σ1 : my_M} {v1 : Option Value} {st0 rest : List Value} {a : Array Value}
    (hr : ∀ (H : Heap) (locs : List Loc) (ls : Array Slot), my_P w lay σ H → va_S (my_A w lay) X.2.2.1.heap H locs → my_has ls nL lv → va_Run X.1 w.1 X.2.1 (my_rm k) X.2.2.1 X.2.2.2.1 X.2.2.2.2.1 X.2.2.2.2.2.1 X.2.2.2.2.2.2.1 X.2.2.2.2.2.2.2 H locs 0 0 0 0 (F0 X.2.2.2.1 pc ls st0) rest (my_Qc w lay v1 σ1 a) (my_A w lay))
    (kk : Go X w lay k nL v τ σ1 (pc + 3) lv (v1.toList ++ rest)) : Go X w lay k nL v τ σ pc lv st0 := by
  intro H locs ls hP hS hl T hT Y
  obtain ⟨v', st₀, t, T', L, h0, Y', hL, e1, e2, ⟨⟨hv, hP1, hK1⟩, hz, hk⟩, sts⟩ := hr H locs ls hP hS hl T hT Y
  cases hv
  rw [h0] at hz hk
  obtain ⟨t2, a1, b1⟩ := kk T'.heap (locs ++ L) ls (by rw [e1]; exact hP1) ⟨Nat.le_trans hS.1 (by rw [e1]; exact hz), fun q h1 h2 => by rw [e1, hk q (Nat.lt_of_lt_of_le h1 hS.1) h2]; exact hS.2.1 q h1 h2, fun q hq => by
      rcases List.mem_append.mp hq with h | h
      · exact hS.2.2 q h
      · exact hL q h⟩ hl T' rfl Y'
  exact ⟨t2, sts t2 a1, b1⟩
def my_notMH (c : String) : Prop := c ≠ "java/lang/invoke/MethodHandle" ∧ c ≠ "java/lang/invoke/VarHandle"
def my_Cd (t : my_T) (n : Nat) : Prop := Cond.code t.1 t.2.1 t.2.2.1 t.2.2.2 ∈ tblG ∧ Cond.initialized t.1.cls ∈ tblG ∧ my_notMH t.1.cls ∧ (parseMethodDescriptor t.1.desc).map (fun d => d.parameters.length) = some n
def my_CV (own : String) (idx : Nat) (C : String) (t : my_T) (n : Nat) : Prop := my_Cd t n ∧ Cond.methodLink own idx t.1 ∈ tblG ∧ Cond.instanceMethod t.1 ∈ tblG ∧ Cond.selects C t.1 t.1 ∈ tblG
def my_CS (own : String) (idx : Nat) (t : my_T) (n : Nat) : Prop := my_Cd t n ∧ Cond.methodLink own idx t.1 ∈ tblG ∧ Cond.static t.1 ∈ tblG
def my_CN (own : String) (idx : Nat) (host : String) (t : my_T) (n : Nat) : Prop := my_Cd t n ∧ (own, idx, t.1, host) ∈ lw_nestT ∧ Cond.static t.1 ∈ tblG
/-- an inherited method: named x, its code y's -/
def my_CU (own : String) (idx : Nat) (C : String) (x : MethodName) (t : my_T) (n : Nat) : Prop := my_Cd t n ∧ t.1 = ⟨t.1.cls, x.name, x.desc⟩ ∧ Cond.methodLink own idx x ∈ tblG ∧ Cond.sameMethod x.cls t.1.cls x.name x.desc ∈ tblG ∧ Cond.selects C x t.1 ∈ tblG ∧ Cond.instanceMethod t.1 ∈ tblG
theorem my_good {t : my_T} {n : Nat} (h : my_Cd t n) : GoodIn tblG (Cond.code t.1 t.2.1 t.2.2.1 t.2.2.2 :: tblG) := by
  intro u hu
  rcases List.mem_cons.mp hu with rfl | hu
  · exact ⟨h.1, tblG_good h.1⟩
  · exact ⟨hu, tblG_good hu⟩
abbrev my_fit (t : my_T) (k' k : Nat) : Prop := k' + 1 ≤ k ∧ 8 + (t.2.2.1 + 11) + 60 * k' ≤ 60 * k
theorem my_CB (h : my_OK X w lay cc own nL ret) {t : my_T} {n k' idx : Nat} (hd : my_Cd t n) (hlk : Cond.methodLink own idx t.1 ∈ tblG) (hk : my_fit t k' k) : CallB (my_rm k) X.2.2.1 X.2.2.2.2.1 own idx t.1 t.2.1 t.2.2.1 t.2.2.2 (Cond.code t.1 t.2.1 t.2.2.1 t.2.2.2 :: tblG) (my_rm k') 0 0 n :=
  callB_of n h.2.2.2.2.1 (my_good hd) rfl rfl rfl (h.2.2.2.2.1 _ hd.2.1) (h.2.2.2.2.1 _ hlk) ⟨hd.2.2.1.1, hd.2.2.1.2, hd.2.2.2⟩ hk
theorem my_preV (h : my_OK X w lay cc own nL ret) {j ci N : Nat} {C : String} {T : u_T} {fs : List (Option Nat)} {As : List Value} {H : Heap} (hcl : vwCl[ci]? = some (C, T, N)) (hl0 : lay[j]? = some (.inr (ci, fs))) (hP : my_P w lay σ H) : PreV X.2.2.1 H C (w.2.2.2 j) (my_Pc w lay (.ref (w.2.2.2 j) :: As) σ) As :=
  ⟨my_blind, va_recv h.2.2.2.2.2.1.1 hP hcl (my_ws_at hl0), fun U hU hW => ⟨rfl, by rw [hU]; exact hP, my_K_warm hW h.2.2.2.2.2.1⟩⟩
theorem my_preS (h : my_OK X w lay cc own nL ret) {As : List Value} {H : Heap} (hP : my_P w lay σ H) : PreS X.2.2.1 H (my_Pc w lay As σ) As :=
  ⟨my_blind, fun U hU hW => ⟨rfl, by rw [hU]; exact hP, my_K_warm hW h.2.2.2.2.2.1⟩⟩
theorem g_callV (h : my_OK X w lay cc own nL ret) {t : my_T} {k' n idx j ci N : Nat} {C : String} {T : u_T} {fs : List (Option Nat)} {As rest st0 : List Value} {σ1 : my_M} {v1 : Option Value} (hc : my_CV own idx C t n) (hcl : vwCl[ci]? = some (C, T, N)) (hl0 : lay[j]? = some (.inr (ci, fs))) (hM : Ct w lay t k' (.ref (w.2.2.2 j) :: As) σ v1 σ1) (hn : As.length = n) (hst : st0 = As.reverse ++ .ref (w.2.2.2 j) :: rest) (hs : (rest.map fun v => v.category).sum ≤ 8) (hk : my_fit t k' k) (d : decode cc pc = .ok (.invokevirtual idx, 3))
    (kk : Go X w lay k nL v τ σ1 (pc + 3) lv (v1.toList ++ rest)) : Go X w lay k nL v τ σ pc lv st0 := by
  refine my_go_run (a := (Value.ref (w.2.2.2 j) :: As).toArray) (fun H locs ls hP hS hl => ?_) kk
  exact va_runV ⟨h.1, h.2.1, h.2.2.1, h.2.2.2.1, h.2.2.2.2.1⟩ (hM h.2.2.2.2.2.2.1) ⟨my_CB h hc.1 hc.2.1 hk, h.2.2.2.2.1 _ hc.2.2.1, h.2.2.2.2.1 _ hc.2.2.2⟩ (my_preV h hcl hl0 hP) rfl hn hl.1 hst (lv_room hs) d ⟨Nat.zero_le _, Nat.zero_le _⟩
theorem g_callS (h : my_OK X w lay cc own nL ret) {t : my_T} {k' n idx : Nat} {As rest st0 : List Value} {σ1 : my_M} {v1 : Option Value} (hc : my_CS own idx t n) (hM : Ct w lay t k' As σ v1 σ1) (hn : As.length = n) (hst : st0 = As.reverse ++ rest) (hs : (rest.map fun v => v.category).sum ≤ 8) (hk : my_fit t k' k) (d : decode cc pc = .ok (.invokestatic idx, 3))
    (kk : Go X w lay k nL v τ σ1 (pc + 3) lv (v1.toList ++ rest)) : Go X w lay k nL v τ σ pc lv st0 := by
  refine my_go_run (a := As.toArray) (fun H locs ls hP hS hl => ?_) kk
  exact va_runS ⟨h.1, h.2.1, h.2.2.1, h.2.2.2.1, h.2.2.2.2.1⟩ (hM h.2.2.2.2.2.2.1) ⟨my_CB h hc.1 hc.2.1 hk, h.2.2.2.2.1 _ hc.2.2⟩ (my_preS h hP) rfl hn hl.1 hst (lv_room hs) d ⟨Nat.zero_le _, Nat.zero_le _⟩
theorem g_callN (h : my_OK X w lay cc own nL ret) {t : my_T} {k' n idx : Nat} {host : String} {As rest st0 : List Value} {σ1 : my_M} {v1 : Option Value} (hc : my_CN own idx host t n) (hM : Ct w lay t k' As σ v1 σ1) (hn : As.length = n) (hst : st0 = As.reverse ++ rest) (hs : (rest.map fun v => v.category).sum ≤ 8) (hk : my_fit t k' k) (d : decode cc pc = .ok (.invokestatic idx, 3))
    (kk : Go X w lay k nL v τ σ1 (pc + 3) lv (v1.toList ++ rest)) : Go X w lay k nL v τ σ pc lv st0 := by
  refine my_go_run (a := As.toArray) (fun H locs ls hP hS hl => ?_) kk
  exact va_runSN ⟨h.1, h.2.1, h.2.2.1, h.2.2.2.1, h.2.2.2.2.1⟩ (hM h.2.2.2.2.2.2.1) ⟨va_cnB n h.2.2.2.2.1 (my_good hc.1) rfl rfl rfl (h.2.2.2.2.2.1.2 _ hc.2.1) (h.2.2.2.2.1 _ hc.1.2.1) ⟨hc.1.2.2.1.1, hc.1.2.2.1.2, hc.1.2.2.2⟩ hk, h.2.2.2.2.1 _ hc.2.2, trivial⟩ (my_preS h hP) rfl hn hl.1 hst (lv_room hs) d ⟨Nat.zero_le _, Nat.zero_le _⟩
theorem g_callU (h : my_OK X w lay cc own nL ret) {t : my_T} {x : MethodName} {k' n idx j ci N : Nat} {C : String} {T : u_T} {fs : List (Option Nat)} {As rest st0 : List Value} {σ1 : my_M} {v1 : Option Value} (hc : my_CU own idx C x t n) (hcl : vwCl[ci]? = some (C, T, N)) (hl0 : lay[j]? = some (.inr (ci, fs))) (hM : Ct w lay t k' (.ref (w.2.2.2 j) :: As) σ v1 σ1) (hn : As.length = n) (hst : st0 = As.reverse ++ .ref (w.2.2.2 j) :: rest) (hs : (rest.map fun v => v.category).sum ≤ 8) (hk : my_fit t k' k) (d : decode cc pc = .ok (.invokevirtual idx, 3))
    (kk : Go X w lay k nL v τ σ1 (pc + 3) lv (v1.toList ++ rest)) : Go X w lay k nL v τ σ pc lv st0 := by
  refine my_go_run (a := (Value.ref (w.2.2.2 j) :: As).toArray) (fun H locs ls hP hS hl => ?_) kk
  obtain ⟨hd, hyx, h1, h2, h3, h4⟩ := hc
  have hdx : (parseMethodDescriptor x.desc).map (fun d => d.parameters.length) = some n := by
    have h9 := hd.2.2.2
    rw [hyx] at h9
    exact h9
  refine va_runU (owner := t.1.cls) ⟨h.1, h.2.1, h.2.2.1, h.2.2.2.1, h.2.2.2.2.1⟩ (hM h.2.2.2.2.2.2.1) (va_cwU n h.2.2.2.2.1 ?_ rfl rfl rfl hyx ⟨hd.2.2.1.1, hd.2.2.1.2, hdx⟩ hk) (my_preV h hcl hl0 hP) rfl hn hl.1 hst (lv_room hs) d ⟨Nat.zero_le _, Nat.zero_le _⟩
  intro u hu
  have hu : u ∈ ([.methodLink own idx x, .sameMethod x.cls t.1.cls x.name x.desc, .selects C x t.1, .instanceMethod t.1, .initialized t.1.cls] : List Cond) ++ (Cond.code t.1 t.2.1 t.2.2.1 t.2.2.2 :: tblG) := hu
  have hin : u ∈ tblG := by
    rcases List.mem_append.mp hu with hu | hu
    · simp only [List.mem_cons, List.not_mem_nil, or_false] at hu
      rcases hu with rfl | rfl | rfl | rfl | rfl
      · exact h1
      · exact h2
      · exact h3
      · exact h4
      · exact hd.2.1
    · exact (my_good hd u hu).1
  exact ⟨hin, tblG_good hin⟩
/-! what the pure side gives -/
theorem my_ifT {α : Type} {p : Prop} [Decidable p] {a b r : α} (h : p) (hf : (if p then a else b) = r) : a = r := by rw [if_pos h] at hf; exact hf
theorem my_ifF {α : Type} {p : Prop} [Decidable p] {a b r : α} (h : ¬ p) (hf : (if p then a else b) = r) : b = r := by rw [if_neg h] at hf; exact hf
theorem my_chk {α : Type} {p : Prop} [Decidable p] {a : Option α} {r : α} (hf : (if p then a else none) = some r) : p ∧ a = some r := by
  by_cases h : p
  · rw [if_pos h] at hf; exact ⟨h, hf⟩
  · rw [if_neg h] at hf; cases hf
end ROWS
def my_bnd {α β γ : Type} (x : Option (α × β)) (g : α → β → Option γ) : Option γ := match x with
  | none => none
  | some q => g q.1 q.2
theorem my_ofb {α β γ : Type} {x : Option (α × β)} {g : α → β → Option γ} {r : γ} (h : my_bnd x g = some r) : ∃ a b, x = some (a, b) ∧ g a b = some r := by
  cases x with
  | none => cases h
  | some q => exact ⟨q.1, q.2, rfl, h⟩
theorem my_bnd_some {α β γ : Type} {a : α} {b : β} {g : α → β → Option γ} : my_bnd (some (a, b)) g = g a b := rfl
theorem my_inj {α β : Type} {a c : α} {b d : β} (h : some (a, b) = some (c, d)) : a = c ∧ b = d := by cases h; exact ⟨rfl, rfl⟩
def my_NF : Nat := 100000
theorem ic_m1 : Int32.ofInt (-1) = (-1 : Int32) := by decide
theorem ic_0 : Int32.ofInt (0) = (0 : Int32) := by decide
theorem ic_1 : Int32.ofInt (1) = (1 : Int32) := by decide
theorem ic_2 : Int32.ofInt (2) = (2 : Int32) := by decide
theorem ic_3 : Int32.ofInt (3) = (3 : Int32) := by decide
theorem ic_4 : Int32.ofInt (4) = (4 : Int32) := by decide
theorem ic_5 : Int32.ofInt (5) = (5 : Int32) := by decide
theorem bp_m100 : (Int8.ofInt (-100)).toInt32 = (-100 : Int32) := by decide
theorem bp_m10 : (Int8.ofInt (-10)).toInt32 = (-10 : Int32) := by decide
theorem bp_m9 : (Int8.ofInt (-9)).toInt32 = (-9 : Int32) := by decide
theorem bp_m5 : (Int8.ofInt (-5)).toInt32 = (-5 : Int32) := by decide
theorem bp_m4 : (Int8.ofInt (-4)).toInt32 = (-4 : Int32) := by decide
theorem bp_m3 : (Int8.ofInt (-3)).toInt32 = (-3 : Int32) := by decide
theorem bp_m2 : (Int8.ofInt (-2)).toInt32 = (-2 : Int32) := by decide
theorem bp_6 : (Int8.ofInt (6)).toInt32 = (6 : Int32) := by decide
theorem bp_7 : (Int8.ofInt (7)).toInt32 = (7 : Int32) := by decide
theorem bp_8 : (Int8.ofInt (8)).toInt32 = (8 : Int32) := by decide
theorem bp_9 : (Int8.ofInt (9)).toInt32 = (9 : Int32) := by decide
theorem bp_10 : (Int8.ofInt (10)).toInt32 = (10 : Int32) := by decide
theorem bp_12 : (Int8.ofInt (12)).toInt32 = (12 : Int32) := by decide
theorem bp_13 : (Int8.ofInt (13)).toInt32 = (13 : Int32) := by decide
theorem bp_15 : (Int8.ofInt (15)).toInt32 = (15 : Int32) := by decide
theorem bp_16 : (Int8.ofInt (16)).toInt32 = (16 : Int32) := by decide
theorem bp_20 : (Int8.ofInt (20)).toInt32 = (20 : Int32) := by decide
theorem bp_24 : (Int8.ofInt (24)).toInt32 = (24 : Int32) := by decide
theorem bp_25 : (Int8.ofInt (25)).toInt32 = (25 : Int32) := by decide
theorem bp_26 : (Int8.ofInt (26)).toInt32 = (26 : Int32) := by decide
theorem bp_31 : (Int8.ofInt (31)).toInt32 = (31 : Int32) := by decide
theorem bp_45 : (Int8.ofInt (45)).toInt32 = (45 : Int32) := by decide
theorem bp_48 : (Int8.ofInt (48)).toInt32 = (48 : Int32) := by decide
theorem bp_50 : (Int8.ofInt (50)).toInt32 = (50 : Int32) := by decide
theorem bp_54 : (Int8.ofInt (54)).toInt32 = (54 : Int32) := by decide
theorem bp_59 : (Int8.ofInt (59)).toInt32 = (59 : Int32) := by decide
theorem bp_60 : (Int8.ofInt (60)).toInt32 = (60 : Int32) := by decide
theorem bp_63 : (Int8.ofInt (63)).toInt32 = (63 : Int32) := by decide
theorem bp_98 : (Int8.ofInt (98)).toInt32 = (98 : Int32) := by decide
theorem bp_99 : (Int8.ofInt (99)).toInt32 = (99 : Int32) := by decide
theorem bp_100 : (Int8.ofInt (100)).toInt32 = (100 : Int32) := by decide
theorem bp_107 : (Int8.ofInt (107)).toInt32 = (107 : Int32) := by decide
theorem bp_112 : (Int8.ofInt (112)).toInt32 = (112 : Int32) := by decide
theorem bp_116 : (Int8.ofInt (116)).toInt32 = (116 : Int32) := by decide
theorem bp_120 : (Int8.ofInt (120)).toInt32 = (120 : Int32) := by decide
theorem sp_240 : (Int16.ofInt (240)).toInt32 = (240 : Int32) := by decide
theorem lc_0 : Int64.ofNat ((0 : Fin 2) : Nat) = (0 : Int64) := by decide
theorem lc_1 : Int64.ofNat ((1 : Fin 2) : Nat) = (1 : Int64) := by decide
end
