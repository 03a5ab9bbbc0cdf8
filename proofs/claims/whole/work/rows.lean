section
-- ===== PART A: goes FIRST, ahead of the names: the tables' words, and 'selects' of the private methods out of them =====
/-- a private method of a class that the tables say can be made, by its rows of tables_1 -/
def lw_okq (q : MethodName × Nat) : Prop := (q.1.cls ≠ "java/lang/invoke/MethodHandle" ∧ q.1.cls ≠ "java/lang/invoke/VarHandle") ∧ Cond.instantiable q.1.cls q.2 ∈ tables_1 ∧ Cond.privateMethod q.1 ∈ tables_1 ∧ Cond.instanceMethod q.1 ∈ tables_1
theorem lw_p0 : lw_okq (⟨"java/lang/Throwable", "fillInStackTrace", "(I)Ljava/lang/Throwable;"⟩, 6) := ⟨⟨by decide +kernel, by decide +kernel⟩, List.mem_of_getElem? (i := 200) (by decide +kernel), List.mem_of_getElem? (i := 198) (by decide +kernel), List.mem_of_getElem? (i := 199) (by decide +kernel)⟩
theorem lw_p1 : lw_okq (⟨"BitNotation", "keep", "(LBitNotation$Type;)I"⟩, 7) := ⟨⟨by decide +kernel, by decide +kernel⟩, List.mem_of_getElem? (i := 18) (by decide +kernel), List.mem_of_getElem? (i := 292) (by decide +kernel), List.mem_of_getElem? (i := 293) (by decide +kernel)⟩
theorem lw_p2 : lw_okq (⟨"BitNotation$Type", "measureThings", "()V"⟩, 10) := ⟨⟨by decide +kernel, by decide +kernel⟩, List.mem_of_getElem? (i := 230) (by decide +kernel), List.mem_of_getElem? (i := 306) (by decide +kernel), List.mem_of_getElem? (i := 307) (by decide +kernel)⟩
theorem lw_p3 : lw_okq (⟨"BitNotation$Type", "measureChoices", "()V"⟩, 10) := ⟨⟨by decide +kernel, by decide +kernel⟩, List.mem_of_getElem? (i := 230) (by decide +kernel), List.mem_of_getElem? (i := 316) (by decide +kernel), List.mem_of_getElem? (i := 317) (by decide +kernel)⟩
theorem lw_p4 : lw_okq (⟨"BitNotation$Type", "measureParts", "()V"⟩, 10) := ⟨⟨by decide +kernel, by decide +kernel⟩, List.mem_of_getElem? (i := 230) (by decide +kernel), List.mem_of_getElem? (i := 325) (by decide +kernel), List.mem_of_getElem? (i := 326) (by decide +kernel)⟩
theorem lw_p5 : lw_okq (⟨"BitNotation$Type", "measureAdditions", "()V"⟩, 10) := ⟨⟨by decide +kernel, by decide +kernel⟩, List.mem_of_getElem? (i := 230) (by decide +kernel), List.mem_of_getElem? (i := 333) (by decide +kernel), List.mem_of_getElem? (i := 334) (by decide +kernel)⟩
theorem lw_p6 : lw_okq (⟨"BitNotation", "typeNumbered", "(I)LBitNotation$Type;"⟩, 7) := ⟨⟨by decide +kernel, by decide +kernel⟩, List.mem_of_getElem? (i := 18) (by decide +kernel), List.mem_of_getElem? (i := 365) (by decide +kernel), List.mem_of_getElem? (i := 366) (by decide +kernel)⟩
theorem lw_p7 : lw_okq (⟨"BitNotation", "keepDraft", "(LBitNotation$Type;)I"⟩, 7) := ⟨⟨by decide +kernel, by decide +kernel⟩, List.mem_of_getElem? (i := 18) (by decide +kernel), List.mem_of_getElem? (i := 404) (by decide +kernel), List.mem_of_getElem? (i := 405) (by decide +kernel)⟩
theorem lw_p8 : lw_okq (⟨"BitNotation$Writer", "putValue", "(LBitNotation$Type;LBitNotation$Row;I)V"⟩, 3) := ⟨⟨by decide +kernel, by decide +kernel⟩, List.mem_of_getElem? (i := 59) (by decide +kernel), List.mem_of_getElem? (i := 497) (by decide +kernel), List.mem_of_getElem? (i := 498) (by decide +kernel)⟩
theorem lw_p9 : lw_okq (⟨"BitNotation$Writer", "putSequence", "(LBitNotation$Type;LBitNotation$Row;I)V"⟩, 3) := ⟨⟨by decide +kernel, by decide +kernel⟩, List.mem_of_getElem? (i := 59) (by decide +kernel), List.mem_of_getElem? (i := 502) (by decide +kernel), List.mem_of_getElem? (i := 503) (by decide +kernel)⟩
theorem lw_p10 : lw_okq (⟨"BitNotation$Writer", "nextParts", "(LBitNotation$Type;LBitNotation$Row;)I"⟩, 3) := ⟨⟨by decide +kernel, by decide +kernel⟩, List.mem_of_getElem? (i := 59) (by decide +kernel), List.mem_of_getElem? (i := 506) (by decide +kernel), List.mem_of_getElem? (i := 507) (by decide +kernel)⟩
theorem lw_p11 : lw_okq (⟨"BitNotation$Writer", "next", "(LBitNotation$Row;II)I"⟩, 3) := ⟨⟨by decide +kernel, by decide +kernel⟩, List.mem_of_getElem? (i := 59) (by decide +kernel), List.mem_of_getElem? (i := 512) (by decide +kernel), List.mem_of_getElem? (i := 513) (by decide +kernel)⟩
theorem lw_p12 : lw_okq (⟨"BitNotation$Writer", "put", "(II)V"⟩, 3) := ⟨⟨by decide +kernel, by decide +kernel⟩, List.mem_of_getElem? (i := 59) (by decide +kernel), List.mem_of_getElem? (i := 519) (by decide +kernel), List.mem_of_getElem? (i := 520) (by decide +kernel)⟩
theorem lw_p13 : lw_okq (⟨"BitNotation$Writer", "putAddition", "(LBitNotation$Type;LBitNotation$Row;I)V"⟩, 3) := ⟨⟨by decide +kernel, by decide +kernel⟩, List.mem_of_getElem? (i := 59) (by decide +kernel), List.mem_of_getElem? (i := 525) (by decide +kernel), List.mem_of_getElem? (i := 526) (by decide +kernel)⟩
theorem lw_p14 : lw_okq (⟨"BitNotation", "placeOfFault", "(II)I"⟩, 7) := ⟨⟨by decide +kernel, by decide +kernel⟩, List.mem_of_getElem? (i := 18) (by decide +kernel), List.mem_of_getElem? (i := 583) (by decide +kernel), List.mem_of_getElem? (i := 584) (by decide +kernel)⟩
theorem lw_p15 : lw_okq (⟨"BitNotation$Reader", "getValue", "(LBitNotation$Type;LBitNotation$Row;I)V"⟩, 4) := ⟨⟨by decide +kernel, by decide +kernel⟩, List.mem_of_getElem? (i := 78) (by decide +kernel), List.mem_of_getElem? (i := 593) (by decide +kernel), List.mem_of_getElem? (i := 594) (by decide +kernel)⟩
def lw_privs_1 : List (MethodName × Nat) := [(⟨"java/lang/Throwable", "fillInStackTrace", "(I)Ljava/lang/Throwable;"⟩, 6), (⟨"BitNotation", "keep", "(LBitNotation$Type;)I"⟩, 7), (⟨"BitNotation$Type", "measureThings", "()V"⟩, 10), (⟨"BitNotation$Type", "measureChoices", "()V"⟩, 10), (⟨"BitNotation$Type", "measureParts", "()V"⟩, 10), (⟨"BitNotation$Type", "measureAdditions", "()V"⟩, 10), (⟨"BitNotation", "typeNumbered", "(I)LBitNotation$Type;"⟩, 7), (⟨"BitNotation", "keepDraft", "(LBitNotation$Type;)I"⟩, 7), (⟨"BitNotation$Writer", "putValue", "(LBitNotation$Type;LBitNotation$Row;I)V"⟩, 3), (⟨"BitNotation$Writer", "putSequence", "(LBitNotation$Type;LBitNotation$Row;I)V"⟩, 3), (⟨"BitNotation$Writer", "nextParts", "(LBitNotation$Type;LBitNotation$Row;)I"⟩, 3), (⟨"BitNotation$Writer", "next", "(LBitNotation$Row;II)I"⟩, 3), (⟨"BitNotation$Writer", "put", "(II)V"⟩, 3), (⟨"BitNotation$Writer", "putAddition", "(LBitNotation$Type;LBitNotation$Row;I)V"⟩, 3), (⟨"BitNotation", "placeOfFault", "(II)I"⟩, 7), (⟨"BitNotation$Reader", "getValue", "(LBitNotation$Type;LBitNotation$Row;I)V"⟩, 4)]
theorem lw_r1 : ∀ q ∈ lw_privs_1, lw_okq q := List.forall_mem_cons.mpr ⟨lw_p0, List.forall_mem_cons.mpr ⟨lw_p1, List.forall_mem_cons.mpr ⟨lw_p2, List.forall_mem_cons.mpr ⟨lw_p3, List.forall_mem_cons.mpr ⟨lw_p4, List.forall_mem_cons.mpr ⟨lw_p5, List.forall_mem_cons.mpr ⟨lw_p6, List.forall_mem_cons.mpr ⟨lw_p7, List.forall_mem_cons.mpr ⟨lw_p8, List.forall_mem_cons.mpr ⟨lw_p9, List.forall_mem_cons.mpr ⟨lw_p10, List.forall_mem_cons.mpr ⟨lw_p11, List.forall_mem_cons.mpr ⟨lw_p12, List.forall_mem_cons.mpr ⟨lw_p13, List.forall_mem_cons.mpr ⟨lw_p14, List.forall_mem_cons.mpr ⟨lw_p15, fun _ h => absurd h List.not_mem_nil⟩⟩⟩⟩⟩⟩⟩⟩⟩⟩⟩⟩⟩⟩⟩⟩
theorem lw_p16 : lw_okq (⟨"BitNotation$Reader", "getSequence", "(LBitNotation$Type;LBitNotation$Row;I)V"⟩, 4) := ⟨⟨by decide +kernel, by decide +kernel⟩, List.mem_of_getElem? (i := 78) (by decide +kernel), List.mem_of_getElem? (i := 598) (by decide +kernel), List.mem_of_getElem? (i := 599) (by decide +kernel)⟩
theorem lw_p17 : lw_okq (⟨"BitNotation$Reader", "next", "(LBitNotation$Row;II)I"⟩, 4) := ⟨⟨by decide +kernel, by decide +kernel⟩, List.mem_of_getElem? (i := 78) (by decide +kernel), List.mem_of_getElem? (i := 602) (by decide +kernel), List.mem_of_getElem? (i := 603) (by decide +kernel)⟩
theorem lw_p18 : lw_okq (⟨"BitNotation$Reader", "nextParts", "(LBitNotation$Type;LBitNotation$Row;)I"⟩, 4) := ⟨⟨by decide +kernel, by decide +kernel⟩, List.mem_of_getElem? (i := 78) (by decide +kernel), List.mem_of_getElem? (i := 608) (by decide +kernel), List.mem_of_getElem? (i := 609) (by decide +kernel)⟩
theorem lw_p19 : lw_okq (⟨"BitNotation$Reader", "getAdditions", "(LBitNotation$Type;ILBitNotation$Row;I)V"⟩, 4) := ⟨⟨by decide +kernel, by decide +kernel⟩, List.mem_of_getElem? (i := 78) (by decide +kernel), List.mem_of_getElem? (i := 618) (by decide +kernel), List.mem_of_getElem? (i := 619) (by decide +kernel)⟩
theorem lw_p20 : lw_okq (⟨"BitNotation$Reader", "getAddition", "(LBitNotation$Type;ILBitNotation$Row;I)V"⟩, 4) := ⟨⟨by decide +kernel, by decide +kernel⟩, List.mem_of_getElem? (i := 78) (by decide +kernel), List.mem_of_getElem? (i := 622) (by decide +kernel), List.mem_of_getElem? (i := 623) (by decide +kernel)⟩
theorem lw_p21 : lw_okq (⟨"BitNotation$Reader", "skip", "(ILBitNotation$Row;)V"⟩, 4) := ⟨⟨by decide +kernel, by decide +kernel⟩, List.mem_of_getElem? (i := 78) (by decide +kernel), List.mem_of_getElem? (i := 626) (by decide +kernel), List.mem_of_getElem? (i := 627) (by decide +kernel)⟩
theorem lw_p22 : lw_okq (⟨"BitNotationModel", "refused", "(I)Z"⟩, 30) := ⟨⟨by decide +kernel, by decide +kernel⟩, List.mem_of_getElem? (i := 640) (by decide +kernel), List.mem_of_getElem? (i := 748) (by decide +kernel), List.mem_of_getElem? (i := 749) (by decide +kernel)⟩
theorem lw_p23 : lw_okq (⟨"BitNotationModel", "lay", "(IIII)V"⟩, 30) := ⟨⟨by decide +kernel, by decide +kernel⟩, List.mem_of_getElem? (i := 640) (by decide +kernel), List.mem_of_getElem? (i := 752) (by decide +kernel), List.mem_of_getElem? (i := 753) (by decide +kernel)⟩
theorem lw_p24 : lw_okq (⟨"BitNotationModel", "measure", "(I)Z"⟩, 30) := ⟨⟨by decide +kernel, by decide +kernel⟩, List.mem_of_getElem? (i := 640) (by decide +kernel), List.mem_of_getElem? (i := 756) (by decide +kernel), List.mem_of_getElem? (i := 757) (by decide +kernel)⟩
theorem lw_p25 : lw_okq (⟨"BitNotationModel", "measureSequence", "(I)V"⟩, 30) := ⟨⟨by decide +kernel, by decide +kernel⟩, List.mem_of_getElem? (i := 640) (by decide +kernel), List.mem_of_getElem? (i := 760) (by decide +kernel), List.mem_of_getElem? (i := 761) (by decide +kernel)⟩
theorem lw_p26 : lw_okq (⟨"BitNotationModel", "optionals", "(I)I"⟩, 30) := ⟨⟨by decide +kernel, by decide +kernel⟩, List.mem_of_getElem? (i := 640) (by decide +kernel), List.mem_of_getElem? (i := 764) (by decide +kernel), List.mem_of_getElem? (i := 765) (by decide +kernel)⟩
theorem lw_p27 : lw_okq (⟨"BitNotationModel", "isOptional", "(II)Z"⟩, 30) := ⟨⟨by decide +kernel, by decide +kernel⟩, List.mem_of_getElem? (i := 640) (by decide +kernel), List.mem_of_getElem? (i := 768) (by decide +kernel), List.mem_of_getElem? (i := 769) (by decide +kernel)⟩
theorem lw_p28 : lw_okq (⟨"BitNotationModel", "partOf", "(II)I"⟩, 30) := ⟨⟨by decide +kernel, by decide +kernel⟩, List.mem_of_getElem? (i := 640) (by decide +kernel), List.mem_of_getElem? (i := 772) (by decide +kernel), List.mem_of_getElem? (i := 773) (by decide +kernel)⟩
theorem lw_p29 : lw_okq (⟨"BitNotationModel", "measureChoice", "(I)V"⟩, 30) := ⟨⟨by decide +kernel, by decide +kernel⟩, List.mem_of_getElem? (i := 640) (by decide +kernel), List.mem_of_getElem? (i := 776) (by decide +kernel), List.mem_of_getElem? (i := 777) (by decide +kernel)⟩
theorem lw_p30 : lw_okq (⟨"BitNotationModel", "widthOf", "(I)I"⟩, 30) := ⟨⟨by decide +kernel, by decide +kernel⟩, List.mem_of_getElem? (i := 640) (by decide +kernel), List.mem_of_getElem? (i := 780) (by decide +kernel), List.mem_of_getElem? (i := 781) (by decide +kernel)⟩
theorem lw_p31 : lw_okq (⟨"BitNotationModel", "isType", "(I)Z"⟩, 30) := ⟨⟨by decide +kernel, by decide +kernel⟩, List.mem_of_getElem? (i := 640) (by decide +kernel), List.mem_of_getElem? (i := 791) (by decide +kernel), List.mem_of_getElem? (i := 792) (by decide +kernel)⟩
def lw_privs_2 : List (MethodName × Nat) := [(⟨"BitNotation$Reader", "getSequence", "(LBitNotation$Type;LBitNotation$Row;I)V"⟩, 4), (⟨"BitNotation$Reader", "next", "(LBitNotation$Row;II)I"⟩, 4), (⟨"BitNotation$Reader", "nextParts", "(LBitNotation$Type;LBitNotation$Row;)I"⟩, 4), (⟨"BitNotation$Reader", "getAdditions", "(LBitNotation$Type;ILBitNotation$Row;I)V"⟩, 4), (⟨"BitNotation$Reader", "getAddition", "(LBitNotation$Type;ILBitNotation$Row;I)V"⟩, 4), (⟨"BitNotation$Reader", "skip", "(ILBitNotation$Row;)V"⟩, 4), (⟨"BitNotationModel", "refused", "(I)Z"⟩, 30), (⟨"BitNotationModel", "lay", "(IIII)V"⟩, 30), (⟨"BitNotationModel", "measure", "(I)Z"⟩, 30), (⟨"BitNotationModel", "measureSequence", "(I)V"⟩, 30), (⟨"BitNotationModel", "optionals", "(I)I"⟩, 30), (⟨"BitNotationModel", "isOptional", "(II)Z"⟩, 30), (⟨"BitNotationModel", "partOf", "(II)I"⟩, 30), (⟨"BitNotationModel", "measureChoice", "(I)V"⟩, 30), (⟨"BitNotationModel", "widthOf", "(I)I"⟩, 30), (⟨"BitNotationModel", "isType", "(I)Z"⟩, 30)]
theorem lw_r2 : ∀ q ∈ lw_privs_2, lw_okq q := List.forall_mem_cons.mpr ⟨lw_p16, List.forall_mem_cons.mpr ⟨lw_p17, List.forall_mem_cons.mpr ⟨lw_p18, List.forall_mem_cons.mpr ⟨lw_p19, List.forall_mem_cons.mpr ⟨lw_p20, List.forall_mem_cons.mpr ⟨lw_p21, List.forall_mem_cons.mpr ⟨lw_p22, List.forall_mem_cons.mpr ⟨lw_p23, List.forall_mem_cons.mpr ⟨lw_p24, List.forall_mem_cons.mpr ⟨lw_p25, List.forall_mem_cons.mpr ⟨lw_p26, List.forall_mem_cons.mpr ⟨lw_p27, List.forall_mem_cons.mpr ⟨lw_p28, List.forall_mem_cons.mpr ⟨lw_p29, List.forall_mem_cons.mpr ⟨lw_p30, List.forall_mem_cons.mpr ⟨lw_p31, fun _ h => absurd h List.not_mem_nil⟩⟩⟩⟩⟩⟩⟩⟩⟩⟩⟩⟩⟩⟩⟩⟩
theorem lw_p32 : lw_okq (⟨"BitNotationModel", "addDraft", "(I)I"⟩, 30) := ⟨⟨by decide +kernel, by decide +kernel⟩, List.mem_of_getElem? (i := 640) (by decide +kernel), List.mem_of_getElem? (i := 803) (by decide +kernel), List.mem_of_getElem? (i := 804) (by decide +kernel)⟩
theorem lw_p33 : lw_okq (⟨"BitNotationModel", "measureAll", "()Z"⟩, 30) := ⟨⟨by decide +kernel, by decide +kernel⟩, List.mem_of_getElem? (i := 640) (by decide +kernel), List.mem_of_getElem? (i := 815) (by decide +kernel), List.mem_of_getElem? (i := 816) (by decide +kernel)⟩
theorem lw_p34 : lw_okq (⟨"BitNotationModel", "fine", "(I)I"⟩, 30) := ⟨⟨by decide +kernel, by decide +kernel⟩, List.mem_of_getElem? (i := 640) (by decide +kernel), List.mem_of_getElem? (i := 823) (by decide +kernel), List.mem_of_getElem? (i := 824) (by decide +kernel)⟩
theorem lw_p35 : lw_okq (⟨"BitNotationModel", "noType", "(I)Z"⟩, 30) := ⟨⟨by decide +kernel, by decide +kernel⟩, List.mem_of_getElem? (i := 640) (by decide +kernel), List.mem_of_getElem? (i := 831) (by decide +kernel), List.mem_of_getElem? (i := 832) (by decide +kernel)⟩
theorem lw_p36 : lw_okq (⟨"BitNotationModel", "walk", "(IZ)I"⟩, 30) := ⟨⟨by decide +kernel, by decide +kernel⟩, List.mem_of_getElem? (i := 640) (by decide +kernel), List.mem_of_getElem? (i := 859) (by decide +kernel), List.mem_of_getElem? (i := 860) (by decide +kernel)⟩
theorem lw_p37 : lw_okq (⟨"BitNotationModel", "push", "(I)V"⟩, 30) := ⟨⟨by decide +kernel, by decide +kernel⟩, List.mem_of_getElem? (i := 640) (by decide +kernel), List.mem_of_getElem? (i := 863) (by decide +kernel), List.mem_of_getElem? (i := 864) (by decide +kernel)⟩
theorem lw_p38 : lw_okq (⟨"BitNotationModel", "goOverTale", "(Z)Z"⟩, 30) := ⟨⟨by decide +kernel, by decide +kernel⟩, List.mem_of_getElem? (i := 640) (by decide +kernel), List.mem_of_getElem? (i := 867) (by decide +kernel), List.mem_of_getElem? (i := 868) (by decide +kernel)⟩
theorem lw_p39 : lw_okq (⟨"BitNotationModel", "headOfTale", "(IIZ)Z"⟩, 30) := ⟨⟨by decide +kernel, by decide +kernel⟩, List.mem_of_getElem? (i := 640) (by decide +kernel), List.mem_of_getElem? (i := 871) (by decide +kernel), List.mem_of_getElem? (i := 872) (by decide +kernel)⟩
theorem lw_p40 : lw_okq (⟨"BitNotationModel", "isWrong", "(II)Z"⟩, 30) := ⟨⟨by decide +kernel, by decide +kernel⟩, List.mem_of_getElem? (i := 640) (by decide +kernel), List.mem_of_getElem? (i := 875) (by decide +kernel), List.mem_of_getElem? (i := 876) (by decide +kernel)⟩
theorem lw_p41 : lw_okq (⟨"BitNotationModel", "emit", "(IIZ)V"⟩, 30) := ⟨⟨by decide +kernel, by decide +kernel⟩, List.mem_of_getElem? (i := 640) (by decide +kernel), List.mem_of_getElem? (i := 879) (by decide +kernel), List.mem_of_getElem? (i := 880) (by decide +kernel)⟩
theorem lw_p42 : lw_okq (⟨"BitNotationModel", "sequenceOfTale", "(IIIZ)Z"⟩, 30) := ⟨⟨by decide +kernel, by decide +kernel⟩, List.mem_of_getElem? (i := 640) (by decide +kernel), List.mem_of_getElem? (i := 883) (by decide +kernel), List.mem_of_getElem? (i := 884) (by decide +kernel)⟩
theorem lw_p43 : lw_okq (⟨"BitNotationModel", "noBit", "(I)Z"⟩, 30) := ⟨⟨by decide +kernel, by decide +kernel⟩, List.mem_of_getElem? (i := 640) (by decide +kernel), List.mem_of_getElem? (i := 899) (by decide +kernel), List.mem_of_getElem? (i := 900) (by decide +kernel)⟩
theorem lw_p44 : lw_okq (⟨"BitNotationModel", "walkBits", "(II)I"⟩, 30) := ⟨⟨by decide +kernel, by decide +kernel⟩, List.mem_of_getElem? (i := 640) (by decide +kernel), List.mem_of_getElem? (i := 915) (by decide +kernel), List.mem_of_getElem? (i := 916) (by decide +kernel)⟩
theorem lw_p45 : lw_okq (⟨"BitNotationModel", "goOverBits", "(I)V"⟩, 30) := ⟨⟨by decide +kernel, by decide +kernel⟩, List.mem_of_getElem? (i := 640) (by decide +kernel), List.mem_of_getElem? (i := 919) (by decide +kernel), List.mem_of_getElem? (i := 920) (by decide +kernel)⟩
theorem lw_p46 : lw_okq (⟨"BitNotationModel", "headOfBits", "(II)V"⟩, 30) := ⟨⟨by decide +kernel, by decide +kernel⟩, List.mem_of_getElem? (i := 640) (by decide +kernel), List.mem_of_getElem? (i := 923) (by decide +kernel), List.mem_of_getElem? (i := 924) (by decide +kernel)⟩
theorem lw_p47 : lw_okq (⟨"BitNotationModel", "take", "(I)I"⟩, 30) := ⟨⟨by decide +kernel, by decide +kernel⟩, List.mem_of_getElem? (i := 640) (by decide +kernel), List.mem_of_getElem? (i := 927) (by decide +kernel), List.mem_of_getElem? (i := 928) (by decide +kernel)⟩
def lw_privs_3 : List (MethodName × Nat) := [(⟨"BitNotationModel", "addDraft", "(I)I"⟩, 30), (⟨"BitNotationModel", "measureAll", "()Z"⟩, 30), (⟨"BitNotationModel", "fine", "(I)I"⟩, 30), (⟨"BitNotationModel", "noType", "(I)Z"⟩, 30), (⟨"BitNotationModel", "walk", "(IZ)I"⟩, 30), (⟨"BitNotationModel", "push", "(I)V"⟩, 30), (⟨"BitNotationModel", "goOverTale", "(Z)Z"⟩, 30), (⟨"BitNotationModel", "headOfTale", "(IIZ)Z"⟩, 30), (⟨"BitNotationModel", "isWrong", "(II)Z"⟩, 30), (⟨"BitNotationModel", "emit", "(IIZ)V"⟩, 30), (⟨"BitNotationModel", "sequenceOfTale", "(IIIZ)Z"⟩, 30), (⟨"BitNotationModel", "noBit", "(I)Z"⟩, 30), (⟨"BitNotationModel", "walkBits", "(II)I"⟩, 30), (⟨"BitNotationModel", "goOverBits", "(I)V"⟩, 30), (⟨"BitNotationModel", "headOfBits", "(II)V"⟩, 30), (⟨"BitNotationModel", "take", "(I)I"⟩, 30)]
theorem lw_r3 : ∀ q ∈ lw_privs_3, lw_okq q := List.forall_mem_cons.mpr ⟨lw_p32, List.forall_mem_cons.mpr ⟨lw_p33, List.forall_mem_cons.mpr ⟨lw_p34, List.forall_mem_cons.mpr ⟨lw_p35, List.forall_mem_cons.mpr ⟨lw_p36, List.forall_mem_cons.mpr ⟨lw_p37, List.forall_mem_cons.mpr ⟨lw_p38, List.forall_mem_cons.mpr ⟨lw_p39, List.forall_mem_cons.mpr ⟨lw_p40, List.forall_mem_cons.mpr ⟨lw_p41, List.forall_mem_cons.mpr ⟨lw_p42, List.forall_mem_cons.mpr ⟨lw_p43, List.forall_mem_cons.mpr ⟨lw_p44, List.forall_mem_cons.mpr ⟨lw_p45, List.forall_mem_cons.mpr ⟨lw_p46, List.forall_mem_cons.mpr ⟨lw_p47, fun _ h => absurd h List.not_mem_nil⟩⟩⟩⟩⟩⟩⟩⟩⟩⟩⟩⟩⟩⟩⟩⟩
theorem lw_p48 : lw_okq (⟨"BitNotationModel", "note", "(I)V"⟩, 30) := ⟨⟨by decide +kernel, by decide +kernel⟩, List.mem_of_getElem? (i := 640) (by decide +kernel), List.mem_of_getElem? (i := 931) (by decide +kernel), List.mem_of_getElem? (i := 932) (by decide +kernel)⟩
theorem lw_p49 : lw_okq (⟨"BitNotationModel", "sequenceOfBits", "(IIII)V"⟩, 30) := ⟨⟨by decide +kernel, by decide +kernel⟩, List.mem_of_getElem? (i := 640) (by decide +kernel), List.mem_of_getElem? (i := 935) (by decide +kernel), List.mem_of_getElem? (i := 936) (by decide +kernel)⟩
theorem lw_p50 : lw_okq (⟨"BitNotationModel", "takeBelow", "(II)I"⟩, 30) := ⟨⟨by decide +kernel, by decide +kernel⟩, List.mem_of_getElem? (i := 640) (by decide +kernel), List.mem_of_getElem? (i := 939) (by decide +kernel), List.mem_of_getElem? (i := 940) (by decide +kernel)⟩
theorem lw_p51 : lw_okq (⟨"BitNotationModel", "skip", "(I)V"⟩, 30) := ⟨⟨by decide +kernel, by decide +kernel⟩, List.mem_of_getElem? (i := 640) (by decide +kernel), List.mem_of_getElem? (i := 943) (by decide +kernel), List.mem_of_getElem? (i := 944) (by decide +kernel)⟩
def lw_privs_4 : List (MethodName × Nat) := [(⟨"BitNotationModel", "note", "(I)V"⟩, 30), (⟨"BitNotationModel", "sequenceOfBits", "(IIII)V"⟩, 30), (⟨"BitNotationModel", "takeBelow", "(II)I"⟩, 30), (⟨"BitNotationModel", "skip", "(I)V"⟩, 30)]
theorem lw_r4 : ∀ q ∈ lw_privs_4, lw_okq q := List.forall_mem_cons.mpr ⟨lw_p48, List.forall_mem_cons.mpr ⟨lw_p49, List.forall_mem_cons.mpr ⟨lw_p50, List.forall_mem_cons.mpr ⟨lw_p51, fun _ h => absurd h List.not_mem_nil⟩⟩⟩⟩
def lw_privs : List (MethodName × Nat) := lw_privs_1 ++ (lw_privs_2 ++ (lw_privs_3 ++ (lw_privs_4)))
def lw_tbl : List Cond := k2_sels lw_privs ++ tables_1
theorem lw_privs_ok : ∀ q ∈ lw_privs, lw_okq q := by
  show ∀ q ∈ lw_privs_1 ++ (lw_privs_2 ++ (lw_privs_3 ++ (lw_privs_4))), lw_okq q
  exact List.forall_mem_append.mpr ⟨lw_r1, List.forall_mem_append.mpr ⟨lw_r2, List.forall_mem_append.mpr ⟨lw_r3, lw_r4⟩⟩⟩
-- ===== end of PART A; then your names; then what follows =====
/-! ===== BEGIN words of one list among another's, by their places ===== -/
theorem goodIn_r {big : List Cond} (ws : List Cond) (ps : List Nat) (hp : ws = ps.filterMap (fun i => big[i]?)) (h : ws.all goodWord = true) : GoodIn big ws := by
  intro w hw
  have h1 := List.all_eq_true.mp h w hw
  rw [hp] at hw
  obtain ⟨i, -, hi⟩ := List.mem_filterMap.mp hw
  have hm : w ∈ big := by first | exact List.mem_of_getElem? hi | exact List.getElem?_mem hi
  exact ⟨hm, good_of_word h1⟩
theorem goodIn_app {big a b : List Cond} (ha : GoodIn big a) (hb : GoodIn big b) : GoodIn big (a ++ b) := fun w h => (List.mem_append.mp h).elim (ha w) (hb w)
theorem goodIn_ca {big a b : List Cond} {c : Cond} (ha : GoodIn big (c :: a)) (hb : GoodIn big b) : GoodIn big (c :: (a ++ b)) := fun w h => (List.mem_cons.mp h).elim (fun e => ha w (List.mem_cons.mpr (Or.inl e))) (fun h => (List.mem_append.mp h).elim (fun h => ha w (List.mem_cons.mpr (Or.inr h))) (hb w))
theorem goodIn_sub {big ws : List Cond} (hm : ∀ w ∈ ws, w ∈ big) (h : ws.all goodWord = true) : GoodIn big ws := fun w hw => ⟨hm w hw, good_of_word (List.all_eq_true.mp h w hw)⟩
/-! ===== END ===== -/

/-! ===== BEGIN exceptions that leave a method, and their catching by the caller (launches without stack traces) ===== -/
section VXA
/-! The laws vx_back, vx_callV, vx_callS, vx_callSW, vx_throw0, vx_throwS follow proofs of the library, with one case more: JvmDerived/Free/Laws.lean (Back.of_free), Shelf42/LK1.lean (callV, callS), Shelf/KitTraced.lean (throwNew0V, throwNewS). -/
/-- where a method has thrown q: the class by its name, the cell, what was written, the world -/
def vx_T (XC : String → State → State → Prop) (st : State) (q : Addr) (t : State) (mc ms : Nat) (free : Addr → Prop) : Prop :=
  ∃ (E : String) (ce : Cell) (L : List Loc), XC E st t ∧ t.heap[q]? = some ce ∧ ce.vm = .none ∧ st.vm.findClass E = some ce.cls ∧ st.WarmedH t.vm ∧ st.sameButNew ({ t with vm := st.vm } : State) L mc ms ∧ ∀ z ∈ L, free z.base
def vx_Q (Qc : Array Value → State → Outcome → State → Prop) (XC : String → State → State → Prop) (mc ms : Nat) (free : Addr → Prop) : Array Value → State → Outcome → State → Prop := fun a st o t =>
  (Qc a st o t ∧ ∃ L, FrameEnd st o t L mc ms ∧ ∀ q ∈ L, free q.base) ∨ ∃ q, o = .threw q ∧ vx_T XC st q t mc ms free
/-- a callee that returns or throws -/
def vx_Met (l : Launch) (y : MethodName) (ws : List Cond) (rm : Room) (Pc : Array Value → State → Prop) (Qc : Array Value → State → Outcome → State → Prop) (XC : String → State → State → Prop) (mc ms : Nat) (free : Addr → Prop) : Prop :=
  MetFree l y (headSpec ws rm) Pc (fun _ _ _ _ _ => True) (vx_Q Qc XC mc ms free)
def vx_Post (XC : String → State → State → Prop) (mc ms : Nat) (free : Addr → Prop) : Pt → Array Value → Addr → Pt → Prop := fun A a q B =>
  ∃ (g : JFrame) (mk : MethodId) (t : State) (L : List Loc) (E : String) (ce : Cell), B.U.heap = t.heap ∧ B.U.vm = t.vm ∧ XC E (A.U.calling g mk a) t ∧ t.heap[q]? = some ce ∧ ce.vm = .none ∧ A.U.vm.findClass E = some ce.cls ∧ B.locs = A.locs ++ L ∧ (∀ z ∈ L, free z.base) ∧ B.cells = A.cells + mc ∧ B.slots = A.slots + ms
def vx_Back (l : Launch) (R : Room) (p : Program) (e : Env) (below : List Frame) (s : State) (sargs : Array Value) (y : MethodName) (len W9 : Nat)
    (Pre : Pt → Array Value → Prop) (Post : Pt → Array Value → Option Value → Pt → Prop) (PostX : Pt → Array Value → Addr → Pt → Prop) : Prop :=
  ∀ (m : MethodId) (meth : Method) (c : Code) (A : Pt) (g : JFrame) (ig : Instr) (mk : MethodId) (a : Array Value),
    Stand p l e R s m sargs below meth c A.U A.locs A.cells A.slots → g.method = m → g.locals.size = c.maxLocals → decode c.code g.pc = .ok (ig, len) →
    2 * g.monitorRoom + (g.stack.map fun v => v.category).sum ≤ W9 → A.U.methodNamed? y = some mk → Pre A a →
    (∃ (v : Option Value) (B : Pt), Stand p l e R s m sargs below meth c B.U B.locs B.cells B.slots ∧ Post A a v B ∧
      Steps p.tables e below (doInvoke e (A.U.setTop g) [] mk a).1 (B.U.setTop { g with pc := g.pc + len, stack := v.toList ++ g.stack })) ∨
    (∃ (q : Addr) (B : Pt), Stand p l e R s m sargs below meth c B.U B.locs B.cells B.slots ∧ PostX A a q B ∧
      Steps p.tables e below (doInvoke e (A.U.setTop g) [] mk a).1 ((B.U.setTop g).pushFrame (.throwing q)))
section Payer
variable {l : Launch} {R : Room} {p : Program} {e : Env} {below : List Frame} {s : State} {sargs : Array Value} {y : MethodName} {len W9 : Nat}
theorem vx_back {ws : List Cond} {rm : Room} {Pc : Array Value → State → Prop} {Qc : Array Value → State → Outcome → State → Prop} {XC : String → State → State → Prop} {mc ms : Nat} {free : Addr → Prop} {bytes : ByteArray} {maxL : Nat} {ret : Option FieldType}
    (hM : vx_Met l y ws rm Pc Qc XC mc ms free) (hblind : FrameBlind Pc) (hrc : rm.cells = mc) (hrs : rm.slots = ms)
    (hframes : rm.frames + 1 ≤ R.frames) (hlocals : W9 + (maxL + 11) + rm.locals ≤ R.locals)
    (hws : ∀ w ∈ ws, ∀ a' U, s.WarmedH U.vm → w.before a' U = true) (hcode : Cond.code y bytes maxL ret ∈ ws) (hinit : ∀ a' U, s.WarmedH U.vm → (Cond.initialized y.cls).before a' U = true) :
    vx_Back l R p e below s sargs y len W9 (PreOf R mc ms Pc) (PostOf Qc mc ms free) (vx_Post XC mc ms free) := by
  intro m meth c A g ig mk a X hg hsize hdg hW hn hp
  have h1 : (headSpec ws rm).pre.before a A.U = true := atoms_intro fun w hw => hws w hw _ _ X.warmed
  have h2 : (Cond.code y bytes maxL ret).before a A.U = true := hws _ hcode _ _ X.warmed
  have h3 : (Cond.initialized y.cls).before a A.U = true := hinit _ _ X.warmed
  have h4 : A.cells + (headSpec ws rm).room.cells ≤ R.cells := by rw [show (headSpec ws rm).room.cells = mc from hrc]; exact hp.1
  have h5 : A.slots + (headSpec ws rm).room.slots ≤ R.slots := by rw [show (headSpec ws rm).room.slots = ms from hrs]; exact hp.2.1
  have hPc : Pc a (A.U.calling g mk a) := hblind _ _ _ _ hp.2.2
  obtain ⟨U, Ls, c0, s0⟩ := A
  dsimp only [Pt.U, Pt.locs, Pt.cells, Pt.slots] at h1 h2 h3 h4 h5 X hn hPc ⊢
  obtain ⟨methY, cY, hmY, hcY, -, hlY, -, -, -, -⟩ := Cond.code_spec hn h2
  obtain ⟨kY, hkY, -⟩ := className_of_methodNamed hn
  have hinitY : kY.init = .initialized := Cond.initialized_spec (findClass_of_methodNamed hn) hkY h3
  have h : At U g.method c below := by rw [hg]; exact X.here
  have hlocals9 : W9 + (maxL + 11) + (headSpec ws rm).room.locals ≤ R.locals := hlocals
  have happ : (headSpec ws rm).appliesLoose y e.platform (U.calling g mk a) = true :=
    Spec.appliesLoose_calling (g := g) h hdg hn hkY hinitY
      (X.room_calling (g := g) (R' := (headSpec ws rm).room) hsize hmY hcY hframes (by rw [hlY]; omega) h4 h5) h1
  obtain ⟨mid, hmid⟩ := h.above
  have hfr : (U.setTop g).frames = (.java g :: mid) ++ below := by rw [State.frames_setTop' g h.top, hmid]; rfl
  obtain ⟨o, s₂, hsteps, -, hend, hq⟩ := Steps.callFree hM p X.admits X.cas X.clock (acts := []) hfr happ hPc trivial
  have hq' : vx_Q Qc XC mc ms free a (U.calling g mk a) o s₂ := hq
  rw [State.frames_setTop' g h.top] at hend
  obtain ⟨g₀, hg0⟩ := Option.isSome_iff_exists.mp h.top
  obtain ⟨r, hr⟩ := State.topJava?_eq_some.mp hg0
  have hr' : (({ U with heap := s₂.heap, slotsUsed := s₂.slotsUsed } : State).setVm s₂.vm).frames = .java g₀ :: r := hr
  rcases hq' with ⟨hqc, L, hfe, hL⟩ | ⟨q, rfl, E, ce, L, hx, hce, hcv, hcl, hW₂, hsm, hL⟩
  · obtain ⟨⟨v, rfl⟩, hW₂, e2, q2, q3, q4, q5, q6⟩ := id hfe
    have e3 : s₂ = ({ (U.calling g mk a).setFrames s₂.frames with heap := s₂.heap, slotsUsed := s₂.slotsUsed } : State).setVm s₂.vm := by
      have : s₂ = ({ s₂ with vm := (U.calling g mk a).vm } : State).setVm s₂.vm := rfl
      rw [e2] at this
      exact this
    obtain ⟨c₂, i₂, len₂, hc₂, hd₂, hf₂⟩ := hend
    have hW' : U.WarmedH s₂.vm := hW₂
    have hcc : c₂ = c := by
      have h1 : s₂.code? g.method = U.code? g.method := by
        rw [State.code?_eq, State.code?_eq, hW'.alike.method?]
      exact Option.some.inj (hc₂.symm.trans (h1.trans h.code))
    subst hcc
    have hlen : len₂ = len := by rw [hdg] at hd₂; cases hd₂; rfl
    subst hlen
    have hs₂ : s₂ = (({ U with heap := s₂.heap, slotsUsed := s₂.slotsUsed } : State).setVm s₂.vm).setTop { g with pc := g.pc + len₂, stack := v.toList ++ g.stack } := by
      refine e3.trans ?_
      rw [hf₂, State.calling_eq h.top, State.setFrames_setFrames, State.setTop_of_frames _ hr', hr]
      rfl
    have hsame : U.sameButNew ({ U with heap := s₂.heap, slotsUsed := s₂.slotsUsed } : State) L mc ms := by
      refine ⟨?_, q2, q3, q4, q5, q6⟩
      obtain ⟨t, ht, -⟩ := State.frames_cons hr
      show ({ U with heap := s₂.heap, slotsUsed := s₂.slotsUsed } : State) = { U.setFrames U.frames with heap := s₂.heap, slotsUsed := s₂.slotsUsed }
      rw [State.setFrames_self ht]
    subst hg
    refine Or.inl ⟨v, ⟨(({ U with heap := s₂.heap, slotsUsed := s₂.slotsUsed } : State).setVm s₂.vm), Ls ++ L, c0 + mc, s0 + ms⟩,
      ⟨X.admits, X.cas, X.clock, X.frames, X.room, X.hears, X.method, X.code, (X.here.setHeapUsed s₂.heap s₂.slotsUsed).setVm hW'.alike, X.tail, State.WarmedH.trans X.warmed hW', X.limits, X.bytes, X.same.trans (hsame.setVm s.vm)⟩,
      ⟨g, mk, s₂, L, rfl, rfl, hqc, rfl, hL, rfl, rfl⟩, ?_⟩
    show Steps p.tables e below _ ((({ U with heap := s₂.heap, slotsUsed := s₂.slotsUsed } : State).setVm s₂.vm).setTop { g with pc := g.pc + len₂, stack := v.toList ++ g.stack })
    rw [← hs₂]
    exact hsteps
  · obtain ⟨e2, q2, q3, q4, q5, q6⟩ := id hsm
    have e3 : s₂ = ({ (U.calling g mk a).setFrames s₂.frames with heap := s₂.heap, slotsUsed := s₂.slotsUsed } : State).setVm s₂.vm := by
      have : s₂ = ({ s₂ with vm := (U.calling g mk a).vm } : State).setVm s₂.vm := rfl
      rw [e2] at this
      exact this
    have hf₂ : s₂.frames = .throwing q :: .java g :: U.frames.tail := hend
    have hW' : U.WarmedH s₂.vm := hW₂
    have hs₂ : s₂ = ((({ U with heap := s₂.heap, slotsUsed := s₂.slotsUsed } : State).setVm s₂.vm).setTop g).pushFrame (.throwing q) := by
      refine e3.trans ?_
      rw [hf₂, State.calling_eq h.top, State.setFrames_setFrames, State.pushFrame, State.frames_setTop _ hr', State.setTop_of_frames _ hr', State.setFrames_setFrames, hr]
      rfl
    have hsame : U.sameButNew ({ U with heap := s₂.heap, slotsUsed := s₂.slotsUsed } : State) L mc ms := by
      refine ⟨?_, q2, q3, q4, q5, q6⟩
      obtain ⟨t, ht, -⟩ := State.frames_cons hr
      show ({ U with heap := s₂.heap, slotsUsed := s₂.slotsUsed } : State) = { U.setFrames U.frames with heap := s₂.heap, slotsUsed := s₂.slotsUsed }
      rw [State.setFrames_self ht]
    subst hg
    refine Or.inr ⟨q, ⟨(({ U with heap := s₂.heap, slotsUsed := s₂.slotsUsed } : State).setVm s₂.vm), Ls ++ L, c0 + mc, s0 + ms⟩,
      ⟨X.admits, X.cas, X.clock, X.frames, X.room, X.hears, X.method, X.code, (X.here.setHeapUsed s₂.heap s₂.slotsUsed).setVm hW'.alike, X.tail, State.WarmedH.trans X.warmed hW', X.limits, X.bytes, X.same.trans (hsame.setVm s.vm)⟩,
      ⟨g, mk, s₂, L, E, ce, rfl, rfl, hx, hce, hcv, hcl, rfl, hL, rfl, rfl⟩, ?_⟩
    show Steps p.tables e below _ (((({ U with heap := s₂.heap, slotsUsed := s₂.slotsUsed } : State).setVm s₂.vm).setTop g).pushFrame (.throwing q))
    rw [← hs₂]
    exact hsteps
end Payer
section Calls
variable {p : Program} {l : Launch} {e : Env} {R : Room} {s : State} {m : MethodId} {args : Array Value} {below : List Frame} {meth : Method} {c : Code} {T : State} {locs : List Loc} {cells slots : Nat}
theorem vx_callV (X : Stand p l e R s m args below meth c T locs cells slots) (hexec : p.tables.exec = Jvm.exec) {own C : String} {index : Nat} {y : MethodName} {bytes : ByteArray} {maxL : Nat} {ret : Option FieldType}
    (hown : s.vm.findClass own = some m.cls) (hlink : (Cond.methodLink own index y).before args s = true) (hinst : (Cond.instanceMethod y).before args s = true) (hsel : (Cond.selects C y y).before args s = true)
    (hcode : (Cond.code y bytes maxL ret).before args s = true) (hy : y.cls ≠ "java/lang/invoke/MethodHandle" ∧ y.cls ≠ "java/lang/invoke/VarHandle")
    {W9 : Nat} {Pre : Pt → Array Value → Prop} {Post : Pt → Array Value → Option Value → Pt → Prop} {PostX : Pt → Array Value → Addr → Pt → Prop} (hK : vx_Back l R p e below s args y 3 W9 Pre Post PostX)
    {b : Addr} {cellB : Cell} (hcell : T.heap[b]? = some cellB) (hobj : cellB.vm.isStatics = false) (hcls : s.vm.findClass C = some cellB.cls)
    {g : JFrame} (hg : g.method = m) (hsize : g.locals.size = c.maxLocals) {argsL rest : List Value} (hlen : ∀ sig, parseMethodDescriptor y.desc = some sig → argsL.length = sig.parameters.length)
    (hstack : g.stack = argsL.reverse ++ .ref b :: rest) (hW : 2 * g.monitorRoom + (rest.map fun v => v.category).sum ≤ W9) (hdg : decode c.code g.pc = .ok (.invokevirtual index, 3))
    (hpre : ∀ vm₁, s.WarmedH vm₁ → Pre ⟨T.setVm vm₁, locs, cells, slots⟩ (Value.ref b :: argsL).toArray) :
    (∃ (v : Option Value) (vm₁ : Vm) (B : Pt), s.WarmedH vm₁ ∧ Stand p l e R s m args below meth c B.U B.locs B.cells B.slots ∧ Post ⟨T.setVm vm₁, locs, cells, slots⟩ (Value.ref b :: argsL).toArray v B ∧
      ∀ target, Steps p.tables e below (B.U.setTop { g with pc := g.pc + 3, stack := v.toList ++ rest }) target → Steps p.tables e below (T.setTop g) target) ∨
    (∃ (q : Addr) (vm₁ : Vm) (B : Pt), s.WarmedH vm₁ ∧ Stand p l e R s m args below meth c B.U B.locs B.cells B.slots ∧ PostX ⟨T.setVm vm₁, locs, cells, slots⟩ (Value.ref b :: argsL).toArray q B ∧
      Steps p.tables e below (T.setTop g) ((B.U.setTop { g with stack := rest }).pushFrame (.throwing q))) := by
  obtain ⟨mk, methM, hnamed, hmethM, hstM, habM⟩ := Cond.instanceMethod_spec hinst
  obtain ⟨methM', cM, hmethM', -, -, -, -, -, -, hsigM⟩ := Cond.code_spec hnamed hcode
  cases hmethM.symm.trans hmethM'
  obtain ⟨c2, r2, m2, q1, q2, q3, q4, kP, hkP, hkPi⟩ := Cond.selects_spec hsel
  cases hcls.symm.trans q1
  cases (State.methodFound?_of_named hnamed hy).symm.trans q2
  cases hnamed.symm.trans q3
  have hselP : selectMethod e.platform s.vm cellB.cls mk = .method mk := by rw [Launch.admits_selectMethod X.admits]; exact q4
  obtain ⟨vm₁, X₁, hstep₁⟩ := X.invokevirtual hexec hown hlink hnamed hmethM hstM hkP hkPi hy (a := b) (cell := cellB) hcell
    (fun z h => by rw [h] at hobj; cases hobj) hselP hmethM habM hkP hkPi (g := g) hg (argsL := argsL) (rest := rest) (hlen _ hsigM) hstack hdg
  rcases hK m meth c ⟨T.setVm vm₁, locs, cells, slots⟩ { g with stack := rest } (.invokevirtual index) mk (Value.ref b :: argsL).toArray X₁ hg hsize hdg hW (X₁.named hnamed) (hpre vm₁ X₁.warmed) with ⟨v, B, X', hpost, hsteps⟩ | ⟨q, B, X', hpost, hsteps⟩
  · exact Or.inl ⟨v, vm₁, B, X₁.warmed, X', hpost, fun target h => hstep₁ _ fun acts => by rw [doInvoke_state]; exact hsteps.trans h⟩
  · exact Or.inr ⟨q, vm₁, B, X₁.warmed, X', hpost, hstep₁ _ fun acts => by rw [doInvoke_state]; exact hsteps⟩
theorem vx_callS (X : Stand p l e R s m args below meth c T locs cells slots) (hexec : p.tables.exec = Jvm.exec) {own : String} {index : Nat} {y : MethodName} {bytes : ByteArray} {maxL : Nat} {ret : Option FieldType}
    (hown : s.vm.findClass own = some m.cls) (hlink : (Cond.methodLink own index y).before args s = true) (hstat : (Cond.static y).before args s = true) (hinit : (Cond.initialized y.cls).before args s = true)
    (hcode : (Cond.code y bytes maxL ret).before args s = true) (hy : y.cls ≠ "java/lang/invoke/MethodHandle" ∧ y.cls ≠ "java/lang/invoke/VarHandle")
    {W9 : Nat} {Pre : Pt → Array Value → Prop} {Post : Pt → Array Value → Option Value → Pt → Prop} {PostX : Pt → Array Value → Addr → Pt → Prop} (hK : vx_Back l R p e below s args y 3 W9 Pre Post PostX)
    {g : JFrame} (hg : g.method = m) (hsize : g.locals.size = c.maxLocals) {argsL rest : List Value} (hlen : ∀ sig, parseMethodDescriptor y.desc = some sig → argsL.length = sig.parameters.length)
    (hstack : g.stack = argsL.reverse ++ rest) (hW : 2 * g.monitorRoom + (rest.map fun v => v.category).sum ≤ W9) (hdg : decode c.code g.pc = .ok (.invokestatic index, 3))
    (hpre : ∀ vm₁, s.WarmedH vm₁ → Pre ⟨T.setVm vm₁, locs, cells, slots⟩ argsL.toArray) :
    (∃ (v : Option Value) (vm₁ : Vm) (B : Pt), s.WarmedH vm₁ ∧ Stand p l e R s m args below meth c B.U B.locs B.cells B.slots ∧ Post ⟨T.setVm vm₁, locs, cells, slots⟩ argsL.toArray v B ∧
      ∀ target, Steps p.tables e below (B.U.setTop { g with pc := g.pc + 3, stack := v.toList ++ rest }) target → Steps p.tables e below (T.setTop g) target) ∨
    (∃ (q : Addr) (vm₁ : Vm) (B : Pt), s.WarmedH vm₁ ∧ Stand p l e R s m args below meth c B.U B.locs B.cells B.slots ∧ PostX ⟨T.setVm vm₁, locs, cells, slots⟩ argsL.toArray q B ∧
      Steps p.tables e below (T.setTop g) ((B.U.setTop { g with stack := rest }).pushFrame (.throwing q))) := by
  obtain ⟨mk, hnamed⟩ := Cond.code_named hcode
  obtain ⟨methM, cM, hmethM, -, -, -, -, -, -, hsigM⟩ := Cond.code_spec hnamed hcode
  have hstatic : methM.isStatic = true := Cond.static_spec hnamed hmethM hstat
  obtain ⟨kP, hkP, -⟩ := className_of_methodNamed hnamed
  have hinitP : kP.init = .initialized := Cond.initialized_spec (findClass_of_methodNamed hnamed) hkP hinit
  obtain ⟨vm₁, X₁, hstep₁⟩ := X.invokestatic hexec hown hlink hnamed hmethM hstatic hkP hinitP hy (g := g) hg (argsL := argsL) (rest := rest) (hlen _ hsigM) hstack hdg
  rcases hK m meth c ⟨T.setVm vm₁, locs, cells, slots⟩ { g with stack := rest } (.invokestatic index) mk argsL.toArray X₁ hg hsize hdg hW (X₁.named hnamed) (hpre vm₁ X₁.warmed) with ⟨v, B, X', hpost, hsteps⟩ | ⟨q, B, X', hpost, hsteps⟩
  · exact Or.inl ⟨v, vm₁, B, X₁.warmed, X', hpost, fun target h => hstep₁ _ fun acts => by rw [doInvoke_state]; exact hsteps.trans h⟩
  · exact Or.inr ⟨q, vm₁, B, X₁.warmed, X', hpost, hstep₁ _ fun acts => by rw [doInvoke_state]; exact hsteps⟩
end Calls
theorem vx_cls {s : State} {T : State} {vm₁ : Vm} {E : String} {k : ClassId} (hW : s.WarmedH vm₁) (h : (T.setVm vm₁).vm.findClass E = some k) : s.vm.findClass E = some k := by
  have h1 : vm₁.findClass E = some k := h
  rw [hW.alike.findClass] at h1
  exact h1
/-- the method's frame g, with q thrown over it -/
def vx_W (p : Program) (l : Launch) (e : Env) (R : Room) (s : State) (m : MethodId) (args : Array Value) (below : List Frame) (meth : Method) (c : Code) (H : Heap) (locs : List Loc) (cells slots : Nat) (Q : State → Prop) (g : JFrame) (q : Addr) : Prop :=
  ∀ T : State, T.heap = H → Stand p l e R s m args below meth c T locs cells slots → ∃ t, Steps p.tables e below ((T.setTop g).pushFrame (.throwing q)) t ∧ Q t
def vx_Run (p : Program) (l : Launch) (e : Env) (R : Room) (s : State) (m : MethodId) (args : Array Value) (below : List Frame) (meth : Method) (c : Code) (H : Heap) (locs : List Loc) (cells slots mc ms : Nat) (g : JFrame) (rest : List Value) (Qa : State → Outcome → State → Prop) (XC : String → State → State → Prop) (free : Addr → Prop) : Prop :=
  ∀ T : State, T.heap = H → Stand p l e R s m args below meth c T locs cells slots →
    (∃ (v : Option Value) (st₀ t T' : State) (L : List Loc), st₀.heap = H ∧ Stand p l e R s m args below meth c T' (locs ++ L) (cells + mc) (slots + ms) ∧ (∀ q ∈ L, free q.base) ∧ T'.heap = t.heap ∧ T'.vm = t.vm ∧ Qa st₀ (.returned v) t ∧
      Goes p e below T g T' { g with pc := g.pc + 3, stack := v.toList ++ rest }) ∨
    (∃ (q : Addr) (st₀ t T' : State) (L : List Loc) (E : String) (ce : Cell), st₀.heap = H ∧ Stand p l e R s m args below meth c T' (locs ++ L) (cells + mc) (slots + ms) ∧ (∀ z ∈ L, free z.base) ∧ T'.heap = t.heap ∧ T'.vm = t.vm ∧ XC E st₀ t ∧ t.heap[q]? = some ce ∧ ce.vm = .none ∧ s.vm.findClass E = some ce.cls ∧
      Steps p.tables e below (T.setTop g) ((T'.setTop { g with stack := rest }).pushFrame (.throwing q)))
def vx_X {S : Type} (px : S → Prop) (B : String → S → State → Prop) (A : Nat → Prop) : String → State → State → Prop := fun E st t => ∃ u : S, px u ∧ B E u t ∧ va_F A st t
section Runs
variable {p : Program} {l : Launch} {e : Env} {R : Room} {s : State} {m : MethodId} {args : Array Value} {below : List Frame} {meth : Method} {c : Code} {H : Heap} {locs : List Loc} {cells slots : Nat}
variable {y : MethodName} {bytes cc : ByteArray} {maxL nL mc ms n index : Nat} {ret : Option FieldType} {ws : List Cond} {rm : Room} {Pc : Array Value → State → Prop} {Qc : Array Value → State → Outcome → State → Prop} {XC : String → State → State → Prop} {free : Addr → Prop} {Ts : List Cond} {own C : String} {b : Addr} {As rest : List Value} {g : JFrame}
theorem vx_callBack (cb : CallB R s args own index y bytes maxL ret ws rm mc ms n) (hM : vx_Met l y ws rm Pc Qc XC mc ms free) (hbl : FrameBlind Pc) : vx_Back l R p e below s args y 3 8 (PreOf R mc ms Pc) (PostOf Qc mc ms free) (vx_Post XC mc ms free) := by
  obtain ⟨hrc, hrs, hfr, hlo, hws, hcw, -, hini, -⟩ := cb
  exact vx_back (bytes := bytes) (maxL := maxL) (ret := ret) hM hbl hrc hrs hfr hlo hws hcw (fun a' U hW => word_at hW (Or.inl (by first | rfl | simp [Cond.onTables, Cond.keeps, Cond.steady])) hini)
theorem vx_runV (S : CallFix p m c cc nL s args Ts own) (hM : vx_Met l y ws rm Pc Qc XC mc ms free) (cw : CallW R s args own C index y bytes maxL ret ws rm mc ms n) (hp : PreV s H C b Pc As)
    (hg : g.method = m) (hn : As.length = n) (hsize : g.locals.size = nL) (hstack : g.stack = As.reverse ++ .ref b :: rest) (hW : 2 * g.monitorRoom + (rest.map fun v => v.category).sum ≤ 8) (hdg : decode cc g.pc = .ok (.invokevirtual index, 3)) (hf : cells + mc ≤ R.cells ∧ slots + ms ≤ R.slots) :
    vx_Run p l e R s m args below meth c H locs cells slots mc ms g rest (Qc (Value.ref b :: As).toArray) XC free := by
  have hK : vx_Back l R p e below s args y 3 8 (PreOf R mc ms Pc) (PostOf Qc mc ms free) (vx_Post XC mc ms free) := vx_callBack cw.1 hM hp.1
  obtain ⟨⟨-, -, -, -, -, -, hcode, -, hy, hlen, hl⟩, hin, hse⟩ := cw
  obtain ⟨hx, hb, hml, ho, -⟩ := S
  obtain ⟨-, ⟨cellB, hcB, hoB, hclB⟩, hPc⟩ := hp
  intro T hT X
  rcases vx_callV X hx (C := C) (bytes := bytes) (maxL := maxL) (ret := ret) ho hl hin hse hcode hy hK (by rw [hT]; exact hcB) hoB hclB hg (hsize.trans hml.symm) (argsL := As) (rest := rest) (fun sig h => hn.trans (hlen sig h)) hstack hW (by rw [hb]; exact hdg)
    (fun vm₁ hW₁ => ⟨hf.1, hf.2, hPc (T.setVm vm₁) hT hW₁⟩) with ⟨v, vm₁, ⟨U', l2, c2, s2⟩, hW₁, X', ⟨g', mk, t, L, e1, e2, hq, h1, hL, h2, h3⟩, st⟩ | ⟨q, vm₁, ⟨U', l2, c2, s2⟩, hW₁, X', ⟨g', mk, t, L, E, ce, e1, e2, hq, hce, hcv, hcl, h1, hL, h2, h3⟩, st⟩
  · dsimp only [Pt.U, Pt.locs, Pt.cells, Pt.slots] at X' e1 e2 h1 h2 h3 st
    subst h1; subst h2; subst h3
    exact Or.inl ⟨v, (T.setVm vm₁).calling g' mk (Value.ref b :: As).toArray, t, U', L, hT, X', hL, e1, e2, hq, st⟩
  · dsimp only [Pt.U, Pt.locs, Pt.cells, Pt.slots] at X' e1 e2 h1 h2 h3 st hcl
    subst h1; subst h2; subst h3
    exact Or.inr ⟨q, (T.setVm vm₁).calling g' mk (Value.ref b :: As).toArray, t, U', L, E, ce, hT, X', hL, e1, e2, hq, hce, hcv, vx_cls hW₁ hcl, st⟩
theorem vx_runS (S : CallFix p m c cc nL s args Ts own) (hM : vx_Met l y ws rm Pc Qc XC mc ms free) (cw : CallB R s args own index y bytes maxL ret ws rm mc ms n ∧ (Cond.static y).before args s = true) (hp : PreS s H Pc As)
    (hg : g.method = m) (hn : As.length = n) (hsize : g.locals.size = nL) (hstack : g.stack = As.reverse ++ rest) (hW : 2 * g.monitorRoom + (rest.map fun v => v.category).sum ≤ 8) (hdg : decode cc g.pc = .ok (.invokestatic index, 3)) (hf : cells + mc ≤ R.cells ∧ slots + ms ≤ R.slots) :
    vx_Run p l e R s m args below meth c H locs cells slots mc ms g rest (Qc As.toArray) XC free := by
  have hK : vx_Back l R p e below s args y 3 8 (PreOf R mc ms Pc) (PostOf Qc mc ms free) (vx_Post XC mc ms free) := vx_callBack cw.1 hM hp.1
  obtain ⟨⟨-, -, -, -, -, -, hcode, hini, hy, hlen, hl⟩, hstt⟩ := cw
  obtain ⟨hx, hb, hml, ho, -⟩ := S
  intro T hT X
  rcases vx_callS X hx (bytes := bytes) (maxL := maxL) (ret := ret) ho hl hstt hini hcode hy hK hg (hsize.trans hml.symm) (argsL := As) (rest := rest) (fun sig h => hn.trans (hlen sig h)) hstack hW (by rw [hb]; exact hdg)
    (fun vm₁ hW₁ => ⟨hf.1, hf.2, hp.2 (T.setVm vm₁) hT hW₁⟩) with ⟨v, vm₁, ⟨U', l2, c2, s2⟩, hW₁, X', ⟨g', mk, t, L, e1, e2, hq, h1, hL, h2, h3⟩, st⟩ | ⟨q, vm₁, ⟨U', l2, c2, s2⟩, hW₁, X', ⟨g', mk, t, L, E, ce, e1, e2, hq, hce, hcv, hcl, h1, hL, h2, h3⟩, st⟩
  · dsimp only [Pt.U, Pt.locs, Pt.cells, Pt.slots] at X' e1 e2 h1 h2 h3 st
    subst h1; subst h2; subst h3
    exact Or.inl ⟨v, (T.setVm vm₁).calling g' mk As.toArray, t, U', L, hT, X', hL, e1, e2, hq, st⟩
  · dsimp only [Pt.U, Pt.locs, Pt.cells, Pt.slots] at X' e1 e2 h1 h2 h3 st hcl
    subst h1; subst h2; subst h3
    exact Or.inr ⟨q, (T.setVm vm₁).calling g' mk As.toArray, t, U', L, E, ce, hT, X', hL, e1, e2, hq, hce, hcv, vx_cls hW₁ hcl, st⟩
end Runs
section Rows
variable {p : Program} {l : Launch} {e : Env} {R : Room} {s : State} {m : MethodId} {args : Array Value} {below : List Frame} {meth : Method} {c : Code} {H : Heap} {locs : List Loc} {cells slots : Nat} {Q : State → Prop}
variable {mc ms : Nat} {free : Addr → Prop} {A0 A1 : Nat → Prop} {H0 : Heap} {a : Array Value} {pc : Nat} {ls : Array Slot} {st0 rest : List Value}
theorem vx_keep {st₀ t T' : State} {L : List Loc} (h0 : st₀.heap = H) (e1 : T'.heap = t.heap) (hS : va_S A0 H0 H locs) (hA : ∀ q, q < H.size → A1 q → A0 q) (hf : ∀ q, free q → A0 q) (hL : ∀ q ∈ L, free q.base) (hF : va_F A1 st₀ t) :
    H.size ≤ T'.heap.size ∧ (∀ q : Nat, q < H.size → ¬ A1 q → T'.heap[q]? = H[q]?) ∧ va_S A0 H0 T'.heap (locs ++ L) := by
  obtain ⟨hz, hk⟩ := hF
  rw [h0] at hz hk
  exact ⟨by rw [e1]; exact hz, fun q h1 h2 => by rw [e1]; exact hk q h1 h2,
    ⟨Nat.le_trans hS.1 (by rw [e1]; exact hz), fun q h1 h2 => by rw [e1, hk q (Nat.lt_of_lt_of_le h1 hS.1) (fun z => h2 (hA q (Nat.lt_of_lt_of_le h1 hS.1) z))]; exact hS.2.1 q h1 h2, fun q hq => by
      rcases List.mem_append.mp hq with h | h
      · exact hS.2.2 q h
      · exact hf _ (hL q h)⟩⟩
theorem vx_calli {S SX : Type} {post : Int32 → S → Prop} {px : SX → Prop} {B : S → State → Prop} {BX : String → SX → State → Prop} {AX : Nat → Prop} (hr : vx_Run p l e R s m args below meth c H locs cells slots mc ms (F0 m pc ls st0) rest (va_Qi post B A1 a) (vx_X px BX AX) free) (hS : va_S A0 H0 H locs) (hA : ∀ q, q < H.size → A1 q → A0 q) (hf : ∀ q, free q → A0 q) (hAX : ∀ q, q < H.size → AX q → A0 q)
    (kx : ∀ (E : String) (ce : Cell) (q9 : Addr) (u : SX) (t : State) (H1 : Heap) (locs1 : List Loc), t.heap = H1 → s.vm.Alike t.vm → px u → BX E u t → H.size ≤ H1.size → (∀ q : Nat, q < H.size → ¬ AX q → H1[q]? = H[q]?) → va_S A0 H0 H1 locs1 → H1[q9]? = some ce → ce.vm = .none → s.vm.findClass E = some ce.cls → vx_W p l e R s m args below meth c H1 locs1 (cells + mc) (slots + ms) Q (F0 m pc ls rest) q9)
    (kk : ∀ (r : Int32) (u : S) (t : State) (H1 : Heap) (locs1 : List Loc), t.heap = H1 → s.vm.Alike t.vm → post r u → B u t → H.size ≤ H1.size → (∀ q : Nat, q < H.size → ¬ A1 q → H1[q]? = H[q]?) → va_S A0 H0 H1 locs1 → W p l e R s m args below meth c H1 locs1 (cells + mc) (slots + ms) Q (F0 m (pc + 3) ls (.int r :: rest))) : W p l e R s m args below meth c H locs cells slots Q (F0 m pc ls st0) := by
  intro T hT X
  rcases hr T hT X with ⟨v, st₀, t, T', L, h0, X', hL, e1, e2, ⟨⟨r, u, hv, hp, hb⟩, hF⟩, st⟩ | ⟨q, st₀, t, T', L, E, ce, h0, X', hL, e1, e2, ⟨u, hp, hb, hF⟩, hce, hcv, hcl, st⟩
  · cases hv
    obtain ⟨k1, k2, k3⟩ := vx_keep h0 e1 hS hA hf hL hF
    obtain ⟨t2, a1, b1⟩ := kk r u t T'.heap (locs ++ L) e1.symm (by rw [← e2]; exact X'.warmed.alike) hp hb k1 k2 k3 T' rfl X'
    exact ⟨t2, st t2 a1, b1⟩
  · obtain ⟨k1, k2, k3⟩ := vx_keep h0 e1 hS hAX hf hL hF
    obtain ⟨t2, a1, b1⟩ := kx E ce q u t T'.heap (locs ++ L) e1.symm (by rw [← e2]; exact X'.warmed.alike) hp hb k1 k2 k3 (by rw [e1]; exact hce) hcv hcl T' rfl X'
    exact ⟨t2, st.trans a1, b1⟩
theorem vx_calll {S SX : Type} {post : Int64 → S → Prop} {px : SX → Prop} {B : S → State → Prop} {BX : String → SX → State → Prop} {AX : Nat → Prop} (hr : vx_Run p l e R s m args below meth c H locs cells slots mc ms (F0 m pc ls st0) rest (va_Ql post B A1 a) (vx_X px BX AX) free) (hS : va_S A0 H0 H locs) (hA : ∀ q, q < H.size → A1 q → A0 q) (hf : ∀ q, free q → A0 q) (hAX : ∀ q, q < H.size → AX q → A0 q)
    (kx : ∀ (E : String) (ce : Cell) (q9 : Addr) (u : SX) (t : State) (H1 : Heap) (locs1 : List Loc), t.heap = H1 → s.vm.Alike t.vm → px u → BX E u t → H.size ≤ H1.size → (∀ q : Nat, q < H.size → ¬ AX q → H1[q]? = H[q]?) → va_S A0 H0 H1 locs1 → H1[q9]? = some ce → ce.vm = .none → s.vm.findClass E = some ce.cls → vx_W p l e R s m args below meth c H1 locs1 (cells + mc) (slots + ms) Q (F0 m pc ls rest) q9)
    (kk : ∀ (r : Int64) (u : S) (t : State) (H1 : Heap) (locs1 : List Loc), t.heap = H1 → s.vm.Alike t.vm → post r u → B u t → H.size ≤ H1.size → (∀ q : Nat, q < H.size → ¬ A1 q → H1[q]? = H[q]?) → va_S A0 H0 H1 locs1 → W p l e R s m args below meth c H1 locs1 (cells + mc) (slots + ms) Q (F0 m (pc + 3) ls (.long r :: rest))) : W p l e R s m args below meth c H locs cells slots Q (F0 m pc ls st0) := by
  intro T hT X
  rcases hr T hT X with ⟨v, st₀, t, T', L, h0, X', hL, e1, e2, ⟨⟨r, u, hv, hp, hb⟩, hF⟩, st⟩ | ⟨q, st₀, t, T', L, E, ce, h0, X', hL, e1, e2, ⟨u, hp, hb, hF⟩, hce, hcv, hcl, st⟩
  · cases hv
    obtain ⟨k1, k2, k3⟩ := vx_keep h0 e1 hS hA hf hL hF
    obtain ⟨t2, a1, b1⟩ := kk r u t T'.heap (locs ++ L) e1.symm (by rw [← e2]; exact X'.warmed.alike) hp hb k1 k2 k3 T' rfl X'
    exact ⟨t2, st t2 a1, b1⟩
  · obtain ⟨k1, k2, k3⟩ := vx_keep h0 e1 hS hAX hf hL hF
    obtain ⟨t2, a1, b1⟩ := kx E ce q u t T'.heap (locs ++ L) e1.symm (by rw [← e2]; exact X'.warmed.alike) hp hb k1 k2 k3 (by rw [e1]; exact hce) hcv hcl T' rfl X'
    exact ⟨t2, st.trans a1, b1⟩
theorem vx_callf {S SX : Type} {post : UInt32 → S → Prop} {px : SX → Prop} {B : S → State → Prop} {BX : String → SX → State → Prop} {AX : Nat → Prop} (hr : vx_Run p l e R s m args below meth c H locs cells slots mc ms (F0 m pc ls st0) rest (va_Qf post B A1 a) (vx_X px BX AX) free) (hS : va_S A0 H0 H locs) (hA : ∀ q, q < H.size → A1 q → A0 q) (hf : ∀ q, free q → A0 q) (hAX : ∀ q, q < H.size → AX q → A0 q)
    (kx : ∀ (E : String) (ce : Cell) (q9 : Addr) (u : SX) (t : State) (H1 : Heap) (locs1 : List Loc), t.heap = H1 → s.vm.Alike t.vm → px u → BX E u t → H.size ≤ H1.size → (∀ q : Nat, q < H.size → ¬ AX q → H1[q]? = H[q]?) → va_S A0 H0 H1 locs1 → H1[q9]? = some ce → ce.vm = .none → s.vm.findClass E = some ce.cls → vx_W p l e R s m args below meth c H1 locs1 (cells + mc) (slots + ms) Q (F0 m pc ls rest) q9)
    (kk : ∀ (r : UInt32) (u : S) (t : State) (H1 : Heap) (locs1 : List Loc), t.heap = H1 → s.vm.Alike t.vm → post r u → B u t → H.size ≤ H1.size → (∀ q : Nat, q < H.size → ¬ A1 q → H1[q]? = H[q]?) → va_S A0 H0 H1 locs1 → W p l e R s m args below meth c H1 locs1 (cells + mc) (slots + ms) Q (F0 m (pc + 3) ls (.float r :: rest))) : W p l e R s m args below meth c H locs cells slots Q (F0 m pc ls st0) := by
  intro T hT X
  rcases hr T hT X with ⟨v, st₀, t, T', L, h0, X', hL, e1, e2, ⟨⟨r, u, hv, hp, hb⟩, hF⟩, st⟩ | ⟨q, st₀, t, T', L, E, ce, h0, X', hL, e1, e2, ⟨u, hp, hb, hF⟩, hce, hcv, hcl, st⟩
  · cases hv
    obtain ⟨k1, k2, k3⟩ := vx_keep h0 e1 hS hA hf hL hF
    obtain ⟨t2, a1, b1⟩ := kk r u t T'.heap (locs ++ L) e1.symm (by rw [← e2]; exact X'.warmed.alike) hp hb k1 k2 k3 T' rfl X'
    exact ⟨t2, st t2 a1, b1⟩
  · obtain ⟨k1, k2, k3⟩ := vx_keep h0 e1 hS hAX hf hL hF
    obtain ⟨t2, a1, b1⟩ := kx E ce q u t T'.heap (locs ++ L) e1.symm (by rw [← e2]; exact X'.warmed.alike) hp hb k1 k2 k3 (by rw [e1]; exact hce) hcv hcl T' rfl X'
    exact ⟨t2, st.trans a1, b1⟩
theorem vx_calld {S SX : Type} {post : UInt64 → S → Prop} {px : SX → Prop} {B : S → State → Prop} {BX : String → SX → State → Prop} {AX : Nat → Prop} (hr : vx_Run p l e R s m args below meth c H locs cells slots mc ms (F0 m pc ls st0) rest (va_Qd post B A1 a) (vx_X px BX AX) free) (hS : va_S A0 H0 H locs) (hA : ∀ q, q < H.size → A1 q → A0 q) (hf : ∀ q, free q → A0 q) (hAX : ∀ q, q < H.size → AX q → A0 q)
    (kx : ∀ (E : String) (ce : Cell) (q9 : Addr) (u : SX) (t : State) (H1 : Heap) (locs1 : List Loc), t.heap = H1 → s.vm.Alike t.vm → px u → BX E u t → H.size ≤ H1.size → (∀ q : Nat, q < H.size → ¬ AX q → H1[q]? = H[q]?) → va_S A0 H0 H1 locs1 → H1[q9]? = some ce → ce.vm = .none → s.vm.findClass E = some ce.cls → vx_W p l e R s m args below meth c H1 locs1 (cells + mc) (slots + ms) Q (F0 m pc ls rest) q9)
    (kk : ∀ (r : UInt64) (u : S) (t : State) (H1 : Heap) (locs1 : List Loc), t.heap = H1 → s.vm.Alike t.vm → post r u → B u t → H.size ≤ H1.size → (∀ q : Nat, q < H.size → ¬ A1 q → H1[q]? = H[q]?) → va_S A0 H0 H1 locs1 → W p l e R s m args below meth c H1 locs1 (cells + mc) (slots + ms) Q (F0 m (pc + 3) ls (.double r :: rest))) : W p l e R s m args below meth c H locs cells slots Q (F0 m pc ls st0) := by
  intro T hT X
  rcases hr T hT X with ⟨v, st₀, t, T', L, h0, X', hL, e1, e2, ⟨⟨r, u, hv, hp, hb⟩, hF⟩, st⟩ | ⟨q, st₀, t, T', L, E, ce, h0, X', hL, e1, e2, ⟨u, hp, hb, hF⟩, hce, hcv, hcl, st⟩
  · cases hv
    obtain ⟨k1, k2, k3⟩ := vx_keep h0 e1 hS hA hf hL hF
    obtain ⟨t2, a1, b1⟩ := kk r u t T'.heap (locs ++ L) e1.symm (by rw [← e2]; exact X'.warmed.alike) hp hb k1 k2 k3 T' rfl X'
    exact ⟨t2, st t2 a1, b1⟩
  · obtain ⟨k1, k2, k3⟩ := vx_keep h0 e1 hS hAX hf hL hF
    obtain ⟨t2, a1, b1⟩ := kx E ce q u t T'.heap (locs ++ L) e1.symm (by rw [← e2]; exact X'.warmed.alike) hp hb k1 k2 k3 (by rw [e1]; exact hce) hcv hcl T' rfl X'
    exact ⟨t2, st.trans a1, b1⟩
theorem vx_callv {S SX : Type} {post : S → Prop} {px : SX → Prop} {B : S → State → Prop} {BX : String → SX → State → Prop} {AX : Nat → Prop} (hr : vx_Run p l e R s m args below meth c H locs cells slots mc ms (F0 m pc ls st0) rest (va_Qv post B A1 a) (vx_X px BX AX) free) (hS : va_S A0 H0 H locs) (hA : ∀ q, q < H.size → A1 q → A0 q) (hf : ∀ q, free q → A0 q) (hAX : ∀ q, q < H.size → AX q → A0 q)
    (kx : ∀ (E : String) (ce : Cell) (q9 : Addr) (u : SX) (t : State) (H1 : Heap) (locs1 : List Loc), t.heap = H1 → s.vm.Alike t.vm → px u → BX E u t → H.size ≤ H1.size → (∀ q : Nat, q < H.size → ¬ AX q → H1[q]? = H[q]?) → va_S A0 H0 H1 locs1 → H1[q9]? = some ce → ce.vm = .none → s.vm.findClass E = some ce.cls → vx_W p l e R s m args below meth c H1 locs1 (cells + mc) (slots + ms) Q (F0 m pc ls rest) q9)
    (kk : ∀ (u : S) (t : State) (H1 : Heap) (locs1 : List Loc), t.heap = H1 → s.vm.Alike t.vm → post u → B u t → H.size ≤ H1.size → (∀ q : Nat, q < H.size → ¬ A1 q → H1[q]? = H[q]?) → va_S A0 H0 H1 locs1 → W p l e R s m args below meth c H1 locs1 (cells + mc) (slots + ms) Q (F0 m (pc + 3) ls (rest))) : W p l e R s m args below meth c H locs cells slots Q (F0 m pc ls st0) := by
  intro T hT X
  rcases hr T hT X with ⟨v, st₀, t, T', L, h0, X', hL, e1, e2, ⟨⟨u, hv, hp, hb⟩, hF⟩, st⟩ | ⟨q, st₀, t, T', L, E, ce, h0, X', hL, e1, e2, ⟨u, hp, hb, hF⟩, hce, hcv, hcl, st⟩
  · cases hv
    obtain ⟨k1, k2, k3⟩ := vx_keep h0 e1 hS hA hf hL hF
    obtain ⟨t2, a1, b1⟩ := kk u t T'.heap (locs ++ L) e1.symm (by rw [← e2]; exact X'.warmed.alike) hp hb k1 k2 k3 T' rfl X'
    exact ⟨t2, st t2 a1, b1⟩
  · obtain ⟨k1, k2, k3⟩ := vx_keep h0 e1 hS hAX hf hL hF
    obtain ⟨t2, a1, b1⟩ := kx E ce q u t T'.heap (locs ++ L) e1.symm (by rw [← e2]; exact X'.warmed.alike) hp hb k1 k2 k3 (by rw [e1]; exact hce) hcv hcl T' rfl X'
    exact ⟨t2, st.trans a1, b1⟩
/-- caught by the row x of this method's table; the rows ahead don't take it -/
theorem vx_catch {own name : String} {E : String} {ce : Cell} {q : Addr} (hown : s.vm.findClass own = some m.cls) (pre : List ExceptionTableEntry) (x : ExceptionTableEntry) (suf : List ExceptionTableEntry) (hsplit : c.exceptionTable.toList = pre ++ x :: suf)
    (hpass : ∀ z ∈ pre, covers z pc = false ∨ (z.catchType ≠ 0 ∧ ∃ nm : String, (Cond.classLink own z.catchType nm).before args s = true ∧ va_Nc E nm s)) (hx : covers x pc = true) (h0 : x.catchType ≠ 0)
    (hlink : (Cond.classLink own x.catchType name).before args s = true) (hcast : (Cond.castable E name).before args s = true) (hcell : H[q]? = some ce) (hv : ce.vm = .none) (hcl : s.vm.findClass E = some ce.cls)
    (kk : W p l e R s m args below meth c H locs cells slots Q (F0 m x.handlerPc ls [.ref q])) : vx_W p l e R s m args below meth c H locs cells slots Q (F0 m pc ls rest) q := by
  intro T hT X
  have hpl : e.platform.magicAccessors = ({} : Platform).magicAccessors := by rw [X.admits.platform]
  obtain ⟨c3, c4, hc3, hc4, hasg⟩ := Cond.castable_spec hcast
  cases Option.some.inj (hc3.symm.trans hcl)
  obtain ⟨c5, hc5, hcl5⟩ := Cond.classLink_spec hown hlink e.platform hpl
  cases Option.some.inj (hc4.symm.trans hc5)
  obtain ⟨vm', X', st⟩ := X.thenCaughtThrough q (g := F0 m pc ls rest) rfl (Steps.refl _) (by rw [hT]; exact hcell) (by rw [hv]; rfl) (by obtain ⟨k9, h9, -⟩ := Vm.findClass_spec hcl; exact ⟨k9, h9⟩) pre x suf hsplit
    (fun z hz => by
      rcases hpass z hz with h | ⟨hz0, nm, hl1, hn1⟩
      · exact Or.inl h
      · obtain ⟨c6, hc6, hcl6⟩ := Cond.classLink_spec hown hl1 e.platform hpl
        obtain ⟨a8, b8, h1, h2, h3⟩ := hn1
        cases Option.some.inj (h1.symm.trans hcl)
        cases Option.some.inj (h2.symm.trans hc6)
        exact Or.inr ⟨hz0, _, hcl6, h3⟩) hx (Or.inr ⟨h0, c4, hcl5, hasg⟩)
  obtain ⟨t, a1, b1⟩ := kk (T.setVm vm') hT X'
  exact ⟨t, st.trans a1, b1⟩
end Rows
section Ends
variable {p : Program} {l : Launch} {e : Env} {R : Room} {s : State} {m : MethodId} {args : Array Value} {below : List Frame} {meth : Method} {c : Code} {H : Heap} {locs : List Loc} {cells slots : Nat} {Q : State → Prop}
variable {mc ms : Nat} {free : Addr → Prop} {A0 A1 : Nat → Prop} {H0 : Heap} {a : Array Value} {ls : Array Slot} {st0 rest : List Value}
variable {Qc : Array Value → State → Outcome → State → Prop} {XC : String → State → State → Prop}
/-- what a body that may throw owes at its end -/
def vx_MQ (below : List Frame) (Qc : Array Value → State → Outcome → State → Prop) (XC : String → State → State → Prop) (a : Array Value) (s : State) (mc ms : Nat) (free : Addr → Prop) : State → Prop := fun t =>
  ∃ o, t.status = .running ∧ Ended t below o ∧ vx_Q Qc XC mc ms free a s o t
theorem vx_ret {g : JFrame} {mc ms : Nat} (k : W p l e R s m args below meth c H locs cells slots (MQ below Qc args s mc ms free) g) : W p l e R s m args below meth c H locs cells slots (vx_MQ below Qc XC args s mc ms free) g := by
  intro T hT X
  obtain ⟨t, a1, o, b1, b2, b3, b4⟩ := k T hT X
  exact ⟨t, a1, o, b1, b2, Or.inl ⟨b3, b4⟩⟩
/-- not caught here: it goes on to the caller -/
theorem vx_widen {g : JFrame} {q : Addr} {k n : Nat} (h1 : cells ≤ k) (h2 : slots ≤ n) (kk : vx_W p l e R s m args below meth c H locs k n Q g q) : vx_W p l e R s m args below meth c H locs cells slots Q g q := fun T hT X => kk T hT (stand_widen X h1 h2)
theorem vx_out {pc : Nat} {E : String} {ce : Cell} {q : Addr} {mc ms : Nat} (hout : ∀ x ∈ c.exceptionTable.toList, covers x pc = false) (hlocks : meth.locks = false) (hcell : H[q]? = some ce) (hv : ce.vm = .none) (hcl : s.vm.findClass E = some ce.cls)
    (hx : ∀ t : State, t.heap = H → s.vm.Alike t.vm → XC E s t) (hf : ∀ z ∈ locs, free z.base) (hc : cells ≤ mc) (hs : slots ≤ ms) :
    vx_W p l e R s m args below meth c H locs cells slots (vx_MQ below Qc XC args s mc ms free) (F0 m pc ls rest) q := by
  intro T hT X
  obtain ⟨st1, hrun, hend, hW, hsm⟩ := X.leaveThrown q (g := F0 m pc ls rest) rfl rfl rfl hout hlocks
  have hcell9 : (T.setFrames (.throwing q :: below)).heap[q]? = some ce := by
    show T.heap[q]? = some ce
    rw [hT]; exact hcell
  exact ⟨_, st1, .threw q, hrun, hend, Or.inr ⟨q, rfl, E, ce, locs, hx _ hT hW.alike, hcell9, hv, hcl, hW, hsm.mono hc hs, hf⟩⟩
theorem vx_frame {U : State} {k n : Nat} (h : s.sameButNew ({ U with vm := s.vm } : State) locs k n) : s.heap.size ≤ U.heap.size ∧ ∀ q : Nat, q < s.heap.size → (∀ z ∈ locs, z.base ≠ q) → U.heap[q]? = s.heap[q]? := by
  obtain ⟨-, h2, -, -, -, h6⟩ := h
  refine ⟨h2, fun q hq hz => ?_⟩
  obtain ⟨c9, e1, e2, e3, e4⟩ := h6 q _ (Array.getElem?_eq_getElem hq)
  have hs : c9.slots = (s.heap[q]).slots := Array.ext_getElem? fun i => e4 i fun hm => hz _ hm rfl
  have h9 : c9 = s.heap[q] := by
    rw [hs] at e2
    exact e2
  have e5 : U.heap[q]? = some c9 := e1
  rw [e5, h9, Array.getElem?_eq_getElem hq]
/-- the words of a throw but the four that speak of the heap -/
def vx_no (w : Cond) : Bool := decide (w ≠ .isRef (.static Bundle.tN "UNASSIGNED_STACK" Bundle.steD)) && decide (w ≠ .isRef (.static Bundle.tN "SUPPRESSED_SENTINEL" Bundle.listD)) && decide (w ≠ .laysStatic Bundle.tN "UNASSIGNED_STACK" Bundle.steD) && decide (w ≠ .laysStatic Bundle.tN "SUPPRESSED_SENTINEL" Bundle.listD)
def vx_at0 (own : String) (ic : Nat) (X : String) (names : List String) : List Cond := (Bundle.ownAtoms0 own ic X names).filter vx_no
def vx_atS (own : String) (ic : Nat) (X : String) (names : List String) : List Cond := (Bundle.ownAtoms own ic X names).filter vx_no
/-- a word that the tables alone decide, or a good one -/
def vx_ot (w : Cond) : Bool := w.onTables || goodWord w
theorem vx_ot_at {args a' : Array Value} {s U : State} {w : Cond} (hW : s.WarmedH U.vm) (hvm : s.vm = U.vm) (hg : vx_ot w = true) (h : w.before args s = true) : w.before a' U = true := by
  simp only [vx_ot, Bool.or_eq_true] at hg
  rcases hg with hg | hg
  · exact va_tabs hg hvm h
  · exact word_at hW (good_of_word hg) h
/-- a list's words: the good ones out of the method's own list, the others by premises of their own -/
theorem vx_hat {args : Array Value} {s : State} {L B : List Cond} (h1 : ∀ w ∈ L.filter goodWord, w.before args s = true) (h2 : ∀ w ∈ L.filter (fun w => !goodWord w), w ∈ B) (h3 : ∀ w ∈ B, w.before args s = true) : ∀ w ∈ L, w.before args s = true := by
  intro w hw
  by_cases g : goodWord w = true
  · exact h1 w (List.mem_filter.mpr ⟨hw, g⟩)
  · refine h3 w (h2 w (List.mem_filter.mpr ⟨hw, ?_⟩))
    show (!goodWord w) = true
    cases hgw : goodWord w
    · rfl
    · exact absurd hgw g
theorem vx_c {args : Array Value} {s : State} {w : Cond} {B : List Cond} (h : w.before args s = true) (t : ∀ w ∈ B, w.before args s = true) : ∀ w' ∈ w :: B, w'.before args s = true := fun w' h' => (List.mem_cons.mp h').elim (fun e => by rw [e]; exact h) (t w')
theorem vx_n {args : Array Value} {s : State} : ∀ w ∈ ([] : List Cond), w.before args s = true := fun _ h => nomatch h
theorem vx_own {args : Array Value} {s : State} {L : List Cond} (h1 : ∀ w ∈ L.filter vx_no, w.before args s = true)
    (hU : (Cond.isRef (.static Bundle.tN "UNASSIGNED_STACK" Bundle.steD)).before args s = true) (hN : (Cond.isRef (.static Bundle.tN "SUPPRESSED_SENTINEL" Bundle.listD)).before args s = true)
    (lU : (Cond.laysStatic Bundle.tN "UNASSIGNED_STACK" Bundle.steD).before args s = true) (lN : (Cond.laysStatic Bundle.tN "SUPPRESSED_SENTINEL" Bundle.listD).before args s = true) : ∀ w ∈ L, w.before args s = true := by
  intro w hw
  by_cases e1 : w = .isRef (.static Bundle.tN "UNASSIGNED_STACK" Bundle.steD)
  · rw [e1]; exact hU
  · by_cases e2 : w = .isRef (.static Bundle.tN "SUPPRESSED_SENTINEL" Bundle.listD)
    · rw [e2]; exact hN
    · by_cases e3 : w = .laysStatic Bundle.tN "UNASSIGNED_STACK" Bundle.steD
      · rw [e3]; exact lU
      · by_cases e4 : w = .laysStatic Bundle.tN "SUPPRESSED_SENTINEL" Bundle.listD
        · rw [e4]; exact lN
        · exact h1 w (List.mem_filter.mpr ⟨hw, by unfold vx_no; rw [decide_eq_true e1, decide_eq_true e2, decide_eq_true e3, decide_eq_true e4]; rfl⟩)
/-- where a static field lies, its class's statics cell in H -/
def vx_L (C n d : String) (A : Nat → Prop) (U : State) (H : Heap) : Prop := ∃ (c : ClassId) (k : Class) (i : Nat) (f : Field) (a : Nat) (cell : Cell), U.vm.findClass C = some c ∧ U.fieldFound? C n d = some (c, k, i, f) ∧ f.isStatic = true ∧ k.statics = some a ∧ H[a]? = some cell ∧ cell.vm.isStatics = true ∧ cell.cls = c ∧ f.slot < cell.slots.size ∧ k.staticTypes[f.slot]? = some f.type ∧ ¬ A a
theorem vx_L.moved {C n d : String} {A : Nat → Prop} {u U : State} {H : Heap} (hvm : u.vm.Alike U.vm) (h : vx_L C n d A u H) : vx_L C n d A U H := by
  obtain ⟨c, k, i, f, a, cell, h1, h2, h3, h4, h5, h6, h7, h8, h9, h10⟩ := h
  obtain ⟨k', hi', he⟩ := State.fieldFound?_setVm hvm h2
  exact ⟨c, k', i, f, a, cell, by rw [hvm.findClass]; exact h1, hi', h3, by rw [he]; exact h4, h5, h6, h7, h8, by rw [he]; exact h9, h10⟩
theorem vx_L.kept {C n d : String} {A : Nat → Prop} {U : State} {H H1 : Heap} (h : vx_L C n d A U H) (hq : ∀ a : Nat, a < H.size → ¬ A a → H1[a]? = H[a]?) : vx_L C n d A U H1 := by
  obtain ⟨c, k, i, f, a, cell, h1, h2, h3, h4, h5, h6, h7, h8, h9, h10⟩ := h
  exact ⟨c, k, i, f, a, cell, h1, h2, h3, h4, by rw [hq a (Array.getElem?_eq_some_iff.mp h5).1 h10]; exact h5, h6, h7, h8, h9, h10⟩
theorem vx_L.narrow {C n d : String} {A B : Nat → Prop} {U : State} {H : Heap} (h : vx_L C n d A U H) (hAB : ∀ q, B q → A q) : vx_L C n d B U H := by
  obtain ⟨c, k, i, f, a, cell, h1, h2, h3, h4, h5, h6, h7, h8, h9, h10⟩ := h
  exact ⟨c, k, i, f, a, cell, h1, h2, h3, h4, h5, h6, h7, h8, h9, fun z => h10 (hAB _ z)⟩
theorem vx_L.word {C n d : String} {A : Nat → Prop} {s : State} {args : Array Value} (h : vx_L C n d A s s.heap) : (Cond.laysStatic C n d).before args s = true := by
  obtain ⟨c, k, i, f, a, cell, h1, h2, h3, h4, h5, h6, h7, h8, h9, -⟩ := h
  show (Cond.laysStatic C n d).holds args s none s [] = true
  exact Cond.laysStatic_of h1 h2 h3 h4 h5 h6 h7 h8 h9
/-- .. and what it holds: null or some reference -/
def vx_Zq (C n d : String) (A : Nat → Prop) (U : State) (H : Heap) : Prop := va_Zq C n d A U H ∧ vx_L C n d A U H
theorem vx_Zq.moved {C n d : String} {A : Nat → Prop} {u U : State} {H : Heap} (hvm : u.vm.Alike U.vm) (h : vx_Zq C n d A u H) : vx_Zq C n d A U H := ⟨va_Zq.moved hvm h.1, vx_L.moved hvm h.2⟩
theorem vx_Zq.kept {C n d : String} {A : Nat → Prop} {U : State} {H H1 : Heap} (h : vx_Zq C n d A U H) (hq : ∀ a : Nat, a < H.size → ¬ A a → H1[a]? = H[a]?) : vx_Zq C n d A U H1 := ⟨va_Zq.kept h.1 hq, vx_L.kept h.2 hq⟩
theorem vx_Zq.narrow {C n d : String} {A B : Nat → Prop} {U : State} {H : Heap} (h : vx_Zq C n d A U H) (hAB : ∀ q, B q → A q) : vx_Zq C n d B U H := ⟨va_Zq.narrow h.1 hAB, vx_L.narrow h.2 hAB⟩
theorem vx_Zqof {args : Array Value} {s : State} {C n d : String} {A : Nat → Prop} (hl : (Cond.laysStatic C n d).before args s = true) (hini : (Cond.initialized C).before args s = true) (h : (Cond.isRef (.static C n d)).before args s = true) (hA : ∀ a : Nat, a < s.heap.size → ¬ A a) : vx_Zq C n d A s s.heap := by
  refine ⟨va_Zqof hl hini h hA, ?_⟩
  obtain ⟨c, k, i, f, a, cell, h1, h2, h3, h4, h5, h6, h7, h8, h9⟩ := Cond.laysStatic_spec hl
  exact ⟨c, k, i, f, a, cell, h1, h2, h3, h4, h5, h6, h7, h8, h9, hA a (Array.getElem?_eq_some_iff.mp h5).1⟩
theorem vx_isRef {C n d : String} {v : Value} {A : Nat → Prop} {s : State} {args : Array Value} (h : va_Z C n d v A s s.heap) (hv : v.isRef = true) : (Cond.isRef (.static C n d)).before args s = true := by
  obtain ⟨cf, kf, fi, f, a, cell, h1, h2, h3, h4, h5, h6, h7, -⟩ := h
  have he : (Term.static C n d).eval args s none [] s = some v := by
    simp [Term.eval, State.fieldNamed?, h1, h2, h4, h5, h6, h7]
  simp only [Cond.before, Cond.holds, Cond.value, he]
  cases v <;> simp_all [Value.isRef]
theorem vx_isRefq {C n d : String} {A : Nat → Prop} {s : State} {args : Array Value} (h : va_Zq C n d A s s.heap) : (Cond.isRef (.static C n d)).before args s = true := by
  rcases h with h | ⟨t, h⟩
  · exact vx_isRef h rfl
  · exact vx_isRef h rfl
/-- the same frame, seen from here: as if the method were called anew in this heap -/
theorem vx_rebase {T : State} (X : Stand p l e R s m args below meth c T locs cells slots) {R' : Room} (hf : R'.frames ≤ R.frames) (hl : R'.locals ≤ R.locals) (hc : cells + R'.cells ≤ R.cells) (hs : slots + R'.slots ≤ R.slots) :
    Stand p l e R' ((T.setVm s.vm).setFrames (.invoking m args :: below)) m args below meth c T [] 0 0 := by
  have htop : (T.setVm s.vm).topJava?.isSome := X.here.top
  have hF : ((T.setVm s.vm).setFrames (.invoking m args :: below)).frames = .invoking m args :: below := State.frames_setFrames _ (State.cur_lt_of_top htop)
  obtain ⟨g₀, hg0⟩ := Option.isSome_iff_exists.mp htop
  obtain ⟨r, hr⟩ := State.topJava?_eq_some.mp hg0
  have hl9 : e.platform.stackLimits (T.setVm s.vm).me = e.platform.stackLimits s.me := X.limits
  have hb9 : (T.setVm s.vm).me.stackBytes = s.me.stackBytes := X.bytes
  refine ⟨X.admits, X.cas, X.clock, hF, ?_, X.hears, X.method, X.code, X.here, X.tail, X.warmed, ?_, ?_, ?_⟩
  · have h := X.room
    have hU : ((T.setVm s.vm).setFrames (.invoking m args :: below)).localsInUse = s.localsInUse := by
      rw [State.localsInUse_invoking hF (meth := meth) (c := c) X.method X.code, State.localsInUse_invoking X.frames X.method X.code]
    simp only [State.hasRoom, Bool.and_eq_true, decide_eq_true_eq] at h ⊢
    obtain ⟨⟨⟨⟨h1, h2, h3, h4, h5, h6⟩, h7⟩, h8⟩, h9⟩ := h
    rw [X.frames, List.length_cons] at h2 h3
    have q1 := X.heapSize
    have q2 := X.used
    simp only [hF, hU, List.length_cons, State.stackLimits_setFrames, State.stackBytes_setFrames, hl9, hb9]
    refine ⟨⟨⟨⟨by omega, by omega, by omega, by omega, by omega, h6⟩, ?_⟩, ?_⟩, X.book⟩
    · show T.heap.size + R'.cells ≤ e.platform.maxCells
      omega
    · show T.slotsUsed + R'.slots ≤ e.platform.maxSlots
      omega
  · rw [State.stackLimits_setFrames]; rfl
  · rw [State.stackBytes_setFrames]; rfl
  · refine ⟨?_, Nat.le_refl _, Nat.le_refl _, ?_, ?_, fun a c9 h9 => ⟨c9, h9, rfl, rfl, fun _ _ => rfl⟩⟩
    · obtain ⟨t, ht, -⟩ := State.frames_cons hr
      show T.setVm s.vm = { ((T.setVm s.vm).setFrames (.invoking m args :: below)).setFrames (T.setVm s.vm).frames with heap := T.heap, slotsUsed := T.slotsUsed }
      rw [State.setFrames_setFrames, State.setFrames_self ht]
      rfl
    · show T.slotsUsed = T.slotsUsed + ((T.heap.toList.drop T.heap.size).map (·.slots.size)).sum
      rw [List.drop_eq_nil_of_le (Nat.le_of_eq Array.length_toList)]
      rfl
    · show ((T.heap.toList.drop T.heap.size).map (·.slots.size)).sum ≤ 0
      rw [List.drop_eq_nil_of_le (Nat.le_of_eq Array.length_toList)]
      exact Nat.le_refl _
/-- 'throw new E()': new; dup; invokespecial; athrow -/
theorem vx_throw0 {cc : ByteArray} {pc : Nat} (hexec : p.tables.exec = Jvm.exec) (hb : c.code = cc) (hl : l.stackTraces = false) {own cls : String} {names : List String} {ik ic mc ms : Nat} {A : Nat → Prop}
    (hown : s.vm.findClass own = some m.cls) (hcls : Bundle.fit cls = true) (hnames : ∀ n ∈ names, Bundle.fit n = true)
    (hk : (Cond.classLink own ik cls).before args s = true) (hini : (Cond.initialized cls).before args s = true) (hat : ∀ w ∈ vx_at0 own ic cls names, w.before args s = true)
    (hgood : ∀ w ∈ Cond.classLink own ik cls :: Cond.initialized cls :: vx_at0 own ic cls names, vx_ot w = true)
    (hU : vx_Zq Bundle.tN "UNASSIGNED_STACK" Bundle.steD A s s.heap) (hN : vx_Zq Bundle.tN "SUPPRESSED_SENTINEL" Bundle.listD A s s.heap) (hS : va_S A s.heap H locs) (hsize : ls.size = c.maxLocals)
    (d0 : decode cc pc = .ok (.new ik, 3)) (d3 : decode cc (pc + 3) = .ok (.dup, 1)) (d4 : decode cc (pc + 4) = .ok (.invokespecial ic, 3)) (d7 : decode cc (pc + 7) = .ok (.athrow, 1))
    (hout : ∀ x ∈ c.exceptionTable.toList, covers x (pc + 7) = false)
    (hRframes : names.length + 3 < R.frames) (hRlocals : (rest.map fun v => v.category).sum + (13 * (names.length + 1) + 42) ≤ R.locals) (hRcells : cells + 1 ≤ R.cells) (hRslots : slots + 6 ≤ R.slots) (hlocks : meth.locks = false)
    (hx : ∀ t : State, s.vm.Alike t.vm → H.size ≤ t.heap.size → (∀ q : Nat, q < H.size → t.heap[q]? = H[q]?) → XC cls s t)
    (hf : ∀ z ∈ locs, free z.base) (hc : cells + 1 ≤ mc) (hs : slots + 6 ≤ ms) :
    W p l e R s m args below meth c H locs cells slots (vx_MQ below Qc XC args s mc ms free) (F0 m pc ls rest) := by
  intro T hT X
  have htr : e.platform.stackTraces = false := (show e.platform.stackTraces = l.stackTraces by rw [X.admits.platform]).trans hl
  have Y := vx_rebase X (R' := { frames := R.frames, locals := R.locals, cells := 1, slots := 6 }) (Nat.le_refl _) (Nat.le_refl _) hRcells hRslots
  obtain ⟨s', hA⟩ : ∃ z, z = (T.setVm s.vm).setFrames (.invoking m args :: below) := ⟨_, rfl⟩
  rw [← hA] at Y
  have hvm : s'.vm = s.vm := by rw [hA]; rfl
  have hhp : s'.heap = H := by rw [hA]; exact hT
  have hW0 : s.WarmedH s'.vm := by rw [hvm]; exact State.WarmedH.refl s
  have hat' : ∀ w ∈ vx_at0 own ic cls names, w.before args s' = true := fun w hw => vx_ot_at hW0 hvm.symm (hgood w (List.mem_cons_of_mem _ (List.mem_cons_of_mem _ hw))) (hat w hw)
  have hk' : (Cond.classLink own ik cls).before args s' = true := vx_ot_at hW0 hvm.symm (hgood _ List.mem_cons_self) hk
  have hini' : (Cond.initialized cls).before args s' = true := vx_ot_at hW0 hvm.symm (hgood _ (List.mem_cons_of_mem _ List.mem_cons_self)) hini
  have hU' : vx_Zq Bundle.tN "UNASSIGNED_STACK" Bundle.steD A s' s'.heap := by rw [hhp]; exact vx_Zq.moved hW0.alike (hU.kept hS.2.1)
  have hN' : vx_Zq Bundle.tN "SUPPRESSED_SENTINEL" Bundle.listD A s' s'.heap := by rw [hhp]; exact vx_Zq.moved hW0.alike (hN.kept hS.2.1)
  have h : ∀ w ∈ Bundle.ownAtoms0 own ic cls names, w.before args s' = true := vx_own hat' (vx_isRefq hU'.1) (vx_isRefq hN'.1) hU'.2.word hN'.2.word
  have hown' : s'.vm.findClass own = some m.cls := by rw [hvm]; exact hown
  have hins : (Cond.instantiable cls 6).before args s' = true := h _ (by simp [Bundle.ownAtoms0])
  obtain ⟨vm₁, cX, kX, hfX, hkX, -, -, X₁, st1⟩ := Y.newCold hexec (own := own) (C := cls) (index := ik) (n := 6) hown' hk' hins hini'
    (g := F0 m pc ls rest) rfl (by rw [hb]; exact d0) (Nat.le_refl _) (Nat.le_refl _)
  generalize hT1 : (T.setVm vm₁).pushCell { cls := cX, slots := kX.instanceTypes.map defaultValue, vm := .none } = T1 at X₁ st1
  have hcat : (Value.ref T.heap.size).category = 1 := rfl
  have hcellA : T1.heap[T.heap.size]? = some (freshCell cX kX) := by rw [← hT1]; exact State.heap_pushCell_size _ _
  have d3' : decode c.code (pc + 3) = .ok (.dup, 1) := by rw [hb]; exact d3
  obtain ⟨U, hsteps, hrun, hend, hW, hsame, ce, hce, hO⟩ := X₁.ctorThrow0 hexec htr (own := own) (cls := cls) (names := names) (ic := ic) hown' hcls hnames h (fun x hx => nomatch hx) hfX hkX hcellA (by rw [hhp, hT]; exact Nat.le_refl _)
    (g := { method := m, pc := pc + 4, locals := ls, stack := .ref T.heap.size :: .ref T.heap.size :: rest, locked := none }) rfl hsize rfl rfl (rest := rest) rfl
    (by rw [hb]; exact d4) (by rw [hb]; exact d7) hout hRframes (by simp only [List.map_cons, List.sum_cons, hcat]; omega) hlocks
  obtain ⟨f1, f2⟩ := vx_frame hsame
  rw [hhp] at f1 f2
  have hWs : s.WarmedH U.vm := State.WarmedH.trans hW0 hW
  have hcl : s.vm.findClass cls = some ce.cls := by
    have h9 := hO.cls
    rw [hvm] at h9
    exact h9
  have hall : s.sameButNew ({ U with vm := s.vm } : State) locs mc ms := by
    subst hA
    obtain ⟨e1, e2⟩ := hsame
    rw [State.setFrames_setFrames] at e1
    have h2 : (T.setVm s.vm).sameButNew ({ U with vm := s.vm } : State) [] (0 + 1) (0 + 6) := ⟨e1, e2⟩
    have h3 := X.same.trans h2
    rw [List.append_nil] at h3
    exact h3.mono hc hs
  refine ⟨U, ?_, .threw T.heap.size, hrun, hend, Or.inr ⟨T.heap.size, rfl, cls, ce, locs, hx U hWs.alike f1 (fun q hq => f2 q hq (fun z hz => nomatch hz)), hce, hO.vm, hcl, hWs, hall, hf⟩⟩
  refine st1 _ ?_
  show Steps p.tables e below (T1.setTop { method := m, pc := pc + 3, locals := ls, stack := .ref T.heap.size :: rest, locked := none }) _
  jvm_step X₁.here [X₁.here.top, hexec, d3', Value.category]
  exact hsteps
/-- 'throw new E("text")': new; dup; ldc; invokespecial; athrow -/
theorem vx_throwS {cc : ByteArray} {pc : Nat} (hexec : p.tables.exec = Jvm.exec) (hb : c.code = cc) (hl : l.stackTraces = false) {own cls text : String} {names : List String} {ik is ic mc ms sa : Nat} {A : Nat → Prop}
    (hown : s.vm.findClass own = some m.cls) (hcls : Bundle.fit cls = true) (hnames : ∀ n ∈ names, Bundle.fit n = true)
    (hk : (Cond.classLink own ik cls).before args s = true) (hini : (Cond.initialized cls).before args s = true) (hstr : vk_R own is text sa s) (hat : ∀ w ∈ vx_atS own ic cls names, w.before args s = true)
    (hgood : ∀ w ∈ Cond.classLink own ik cls :: Cond.initialized cls :: vx_atS own ic cls names, vx_ot w = true)
    (hU : vx_Zq Bundle.tN "UNASSIGNED_STACK" Bundle.steD A s s.heap) (hN : vx_Zq Bundle.tN "SUPPRESSED_SENTINEL" Bundle.listD A s s.heap) (hS : va_S A s.heap H locs) (hsize : ls.size = c.maxLocals)
    (d0 : decode cc pc = .ok (.new ik, 3)) (d3 : decode cc (pc + 3) = .ok (.dup, 1)) (d4 : decode cc (pc + 4) = .ok (.ldc is, 2)) (d6 : decode cc (pc + 6) = .ok (.invokespecial ic, 3)) (d9 : decode cc (pc + 9) = .ok (.athrow, 1))
    (hout : ∀ x ∈ c.exceptionTable.toList, covers x (pc + 9) = false)
    (hRframes : names.length + 3 < R.frames) (hRlocals : (rest.map fun v => v.category).sum + (13 * (names.length + 1) + 43) ≤ R.locals) (hRcells : cells + 1 ≤ R.cells) (hRslots : slots + 6 ≤ R.slots) (hlocks : meth.locks = false)
    (hx : ∀ t : State, s.vm.Alike t.vm → H.size ≤ t.heap.size → (∀ q : Nat, q < H.size → t.heap[q]? = H[q]?) → XC cls s t)
    (hf : ∀ z ∈ locs, free z.base) (hc : cells + 1 ≤ mc) (hs : slots + 6 ≤ ms) :
    W p l e R s m args below meth c H locs cells slots (vx_MQ below Qc XC args s mc ms free) (F0 m pc ls rest) := by
  intro T hT X
  have htr : e.platform.stackTraces = false := (show e.platform.stackTraces = l.stackTraces by rw [X.admits.platform]).trans hl
  have Y := vx_rebase X (R' := { frames := R.frames, locals := R.locals, cells := 1, slots := 6 }) (Nat.le_refl _) (Nat.le_refl _) hRcells hRslots
  obtain ⟨s', hA⟩ : ∃ z, z = (T.setVm s.vm).setFrames (.invoking m args :: below) := ⟨_, rfl⟩
  rw [← hA] at Y
  have hvm : s'.vm = s.vm := by rw [hA]; rfl
  have hhp : s'.heap = H := by rw [hA]; exact hT
  have hW0 : s.WarmedH s'.vm := by rw [hvm]; exact State.WarmedH.refl s
  have hat' : ∀ w ∈ vx_atS own ic cls names, w.before args s' = true := fun w hw => vx_ot_at hW0 hvm.symm (hgood w (List.mem_cons_of_mem _ (List.mem_cons_of_mem _ hw))) (hat w hw)
  have hk' : (Cond.classLink own ik cls).before args s' = true := vx_ot_at hW0 hvm.symm (hgood _ List.mem_cons_self) hk
  have hini' : (Cond.initialized cls).before args s' = true := vx_ot_at hW0 hvm.symm (hgood _ (List.mem_cons_of_mem _ List.mem_cons_self)) hini
  have hU' : vx_Zq Bundle.tN "UNASSIGNED_STACK" Bundle.steD A s' s'.heap := by rw [hhp]; exact vx_Zq.moved hW0.alike (hU.kept hS.2.1)
  have hN' : vx_Zq Bundle.tN "SUPPRESSED_SENTINEL" Bundle.listD A s' s'.heap := by rw [hhp]; exact vx_Zq.moved hW0.alike (hN.kept hS.2.1)
  have h : ∀ w ∈ Bundle.ownAtoms own ic cls names, w.before args s' = true := vx_own hat' (vx_isRefq hU'.1) (vx_isRefq hN'.1) hU'.2.word hN'.2.word
  have hown' : s'.vm.findClass own = some m.cls := by rw [hvm]; exact hown
  have hins : (Cond.instantiable cls 6).before args s' = true := h _ (by simp [Bundle.ownAtoms])
  obtain ⟨vm₁, cX, kX, hfX, hkX, -, -, X₁, st1⟩ := Y.newCold hexec (own := own) (C := cls) (index := ik) (n := 6) hown' hk' hins hini'
    (g := F0 m pc ls rest) rfl (by rw [hb]; exact d0) (Nat.le_refl _) (Nat.le_refl _)
  generalize hT1 : (T.setVm vm₁).pushCell { cls := cX, slots := kX.instanceTypes.map defaultValue, vm := .none } = T1 at X₁ st1
  have hcat : (Value.ref T.heap.size).category = 1 := rfl
  have hcellA : T1.heap[T.heap.size]? = some (freshCell cX kX) := by rw [← hT1]; exact State.heap_pushCell_size _ _
  have d3' : decode c.code (pc + 3) = .ok (.dup, 1) := by rw [hb]; exact d3
  have d4' : decode c.code (pc + 4) = .ok (.ldc is, 2) := by rw [hb]; exact d4
  have hstr' : vk_R own is text sa s' := vk_R.warm hW0 hstr
  obtain ⟨U, hsteps, hrun, hend, hW, hsame, ce, hce, hO⟩ := X₁.ctorThrowS hexec htr (own := own) (cls := cls) (names := names) (ic := ic) hown' hcls hnames h (fun x hx => nomatch hx) hfX hkX hcellA (by rw [hhp, hT]; exact Nat.le_refl _) (msg := .ref sa) rfl
    (g := { method := m, pc := pc + 6, locals := ls, stack := .ref sa :: .ref T.heap.size :: .ref T.heap.size :: rest, locked := none }) rfl hsize rfl rfl (rest := rest) rfl
    (by rw [hb]; exact d6) (by rw [hb]; exact d9) hout hRframes (by simp only [List.map_cons, List.sum_cons, hcat]; omega) hlocks
  obtain ⟨f1, f2⟩ := vx_frame hsame
  rw [hhp] at f1 f2
  have hWs : s.WarmedH U.vm := State.WarmedH.trans hW0 hW
  have hcl : s.vm.findClass cls = some ce.cls := by
    have h9 := hO.cls
    rw [hvm] at h9
    exact h9
  have hall : s.sameButNew ({ U with vm := s.vm } : State) locs mc ms := by
    subst hA
    obtain ⟨e1, e2⟩ := hsame
    rw [State.setFrames_setFrames] at e1
    have h2 : (T.setVm s.vm).sameButNew ({ U with vm := s.vm } : State) [] (0 + 1) (0 + 6) := ⟨e1, e2⟩
    have h3 := X.same.trans h2
    rw [List.append_nil] at h3
    exact h3.mono hc hs
  refine ⟨U, ?_, .threw T.heap.size, hrun, hend, Or.inr ⟨T.heap.size, rfl, cls, ce, locs, hx U hWs.alike f1 (fun q hq => f2 q hq (fun z hz => nomatch hz)), hce, hO.vm, hcl, hWs, hall, hf⟩⟩
  refine st1 _ ?_
  show Steps p.tables e below (T1.setTop { method := m, pc := pc + 3, locals := ls, stack := .ref T.heap.size :: rest, locked := none }) _
  jvm_step X₁.here [X₁.here.top, hexec, d3', Value.category]
  exact X₁.ldcString hexec (own := own) (text := text) (index := is) (a := sa) hown' hstr'.1 hstr'.2
    (g := { method := m, pc := pc + 4, locals := ls, stack := .ref T.heap.size :: .ref T.heap.size :: rest, locked := none }) rfl d4' _ hsteps
/-- 'throw new E("text")', the text by a wide index -/
theorem vx_throwSW {cc : ByteArray} {pc : Nat} (hexec : p.tables.exec = Jvm.exec) (hb : c.code = cc) (hl : l.stackTraces = false) {own cls text : String} {names : List String} {ik is ic mc ms sa : Nat} {A : Nat → Prop}
    (hown : s.vm.findClass own = some m.cls) (hcls : Bundle.fit cls = true) (hnames : ∀ n ∈ names, Bundle.fit n = true)
    (hk : (Cond.classLink own ik cls).before args s = true) (hini : (Cond.initialized cls).before args s = true) (hstr : vk_R own is text sa s) (hat : ∀ w ∈ vx_atS own ic cls names, w.before args s = true)
    (hgood : ∀ w ∈ Cond.classLink own ik cls :: Cond.initialized cls :: vx_atS own ic cls names, vx_ot w = true)
    (hU : vx_Zq Bundle.tN "UNASSIGNED_STACK" Bundle.steD A s s.heap) (hN : vx_Zq Bundle.tN "SUPPRESSED_SENTINEL" Bundle.listD A s s.heap) (hS : va_S A s.heap H locs) (hsize : ls.size = c.maxLocals)
    (d0 : decode cc pc = .ok (.new ik, 3)) (d3 : decode cc (pc + 3) = .ok (.dup, 1)) (d4 : decode cc (pc + 4) = .ok (.ldc_w is, 3)) (d7 : decode cc (pc + 7) = .ok (.invokespecial ic, 3)) (d10 : decode cc (pc + 10) = .ok (.athrow, 1))
    (hout : ∀ x ∈ c.exceptionTable.toList, covers x (pc + 10) = false)
    (hRframes : names.length + 3 < R.frames) (hRlocals : (rest.map fun v => v.category).sum + (13 * (names.length + 1) + 43) ≤ R.locals) (hRcells : cells + 1 ≤ R.cells) (hRslots : slots + 6 ≤ R.slots) (hlocks : meth.locks = false)
    (hx : ∀ t : State, s.vm.Alike t.vm → H.size ≤ t.heap.size → (∀ q : Nat, q < H.size → t.heap[q]? = H[q]?) → XC cls s t)
    (hf : ∀ z ∈ locs, free z.base) (hc : cells + 1 ≤ mc) (hs : slots + 6 ≤ ms) :
    W p l e R s m args below meth c H locs cells slots (vx_MQ below Qc XC args s mc ms free) (F0 m pc ls rest) := by
  intro T hT X
  have htr : e.platform.stackTraces = false := (show e.platform.stackTraces = l.stackTraces by rw [X.admits.platform]).trans hl
  have Y := vx_rebase X (R' := { frames := R.frames, locals := R.locals, cells := 1, slots := 6 }) (Nat.le_refl _) (Nat.le_refl _) hRcells hRslots
  obtain ⟨s', hA⟩ : ∃ z, z = (T.setVm s.vm).setFrames (.invoking m args :: below) := ⟨_, rfl⟩
  rw [← hA] at Y
  have hvm : s'.vm = s.vm := by rw [hA]; rfl
  have hhp : s'.heap = H := by rw [hA]; exact hT
  have hW0 : s.WarmedH s'.vm := by rw [hvm]; exact State.WarmedH.refl s
  have hat' : ∀ w ∈ vx_atS own ic cls names, w.before args s' = true := fun w hw => vx_ot_at hW0 hvm.symm (hgood w (List.mem_cons_of_mem _ (List.mem_cons_of_mem _ hw))) (hat w hw)
  have hk' : (Cond.classLink own ik cls).before args s' = true := vx_ot_at hW0 hvm.symm (hgood _ List.mem_cons_self) hk
  have hini' : (Cond.initialized cls).before args s' = true := vx_ot_at hW0 hvm.symm (hgood _ (List.mem_cons_of_mem _ List.mem_cons_self)) hini
  have hU' : vx_Zq Bundle.tN "UNASSIGNED_STACK" Bundle.steD A s' s'.heap := by rw [hhp]; exact vx_Zq.moved hW0.alike (hU.kept hS.2.1)
  have hN' : vx_Zq Bundle.tN "SUPPRESSED_SENTINEL" Bundle.listD A s' s'.heap := by rw [hhp]; exact vx_Zq.moved hW0.alike (hN.kept hS.2.1)
  have h : ∀ w ∈ Bundle.ownAtoms own ic cls names, w.before args s' = true := vx_own hat' (vx_isRefq hU'.1) (vx_isRefq hN'.1) hU'.2.word hN'.2.word
  have hown' : s'.vm.findClass own = some m.cls := by rw [hvm]; exact hown
  have hins : (Cond.instantiable cls 6).before args s' = true := h _ (by simp [Bundle.ownAtoms])
  obtain ⟨vm₁, cX, kX, hfX, hkX, -, -, X₁, st1⟩ := Y.newCold hexec (own := own) (C := cls) (index := ik) (n := 6) hown' hk' hins hini'
    (g := F0 m pc ls rest) rfl (by rw [hb]; exact d0) (Nat.le_refl _) (Nat.le_refl _)
  generalize hT1 : (T.setVm vm₁).pushCell { cls := cX, slots := kX.instanceTypes.map defaultValue, vm := .none } = T1 at X₁ st1
  have hcat : (Value.ref T.heap.size).category = 1 := rfl
  have hcellA : T1.heap[T.heap.size]? = some (freshCell cX kX) := by rw [← hT1]; exact State.heap_pushCell_size _ _
  have d3' : decode c.code (pc + 3) = .ok (.dup, 1) := by rw [hb]; exact d3
  have d4' : decode c.code (pc + 4) = .ok (.ldc_w is, 3) := by rw [hb]; exact d4
  have hstr' : vk_R own is text sa s' := vk_R.warm hW0 hstr
  obtain ⟨U, hsteps, hrun, hend, hW, hsame, ce, hce, hO⟩ := X₁.ctorThrowS hexec htr (own := own) (cls := cls) (names := names) (ic := ic) hown' hcls hnames h (fun x hx => nomatch hx) hfX hkX hcellA (by rw [hhp, hT]; exact Nat.le_refl _) (msg := .ref sa) rfl
    (g := { method := m, pc := pc + 7, locals := ls, stack := .ref sa :: .ref T.heap.size :: .ref T.heap.size :: rest, locked := none }) rfl hsize rfl rfl (rest := rest) rfl
    (by rw [hb]; exact d7) (by rw [hb]; exact d10) hout hRframes (by simp only [List.map_cons, List.sum_cons, hcat]; omega) hlocks
  obtain ⟨f1, f2⟩ := vx_frame hsame
  rw [hhp] at f1 f2
  have hWs : s.WarmedH U.vm := State.WarmedH.trans hW0 hW
  have hcl : s.vm.findClass cls = some ce.cls := by
    have h9 := hO.cls
    rw [hvm] at h9
    exact h9
  have hall : s.sameButNew ({ U with vm := s.vm } : State) locs mc ms := by
    subst hA
    obtain ⟨e1, e2⟩ := hsame
    rw [State.setFrames_setFrames] at e1
    have h2 : (T.setVm s.vm).sameButNew ({ U with vm := s.vm } : State) [] (0 + 1) (0 + 6) := ⟨e1, e2⟩
    have h3 := X.same.trans h2
    rw [List.append_nil] at h3
    exact h3.mono hc hs
  refine ⟨U, ?_, .threw T.heap.size, hrun, hend, Or.inr ⟨T.heap.size, rfl, cls, ce, locs, hx U hWs.alike f1 (fun q hq => f2 q hq (fun z hz => nomatch hz)), hce, hO.vm, hcl, hWs, hall, hf⟩⟩
  refine st1 _ ?_
  show Steps p.tables e below (T1.setTop { method := m, pc := pc + 3, locals := ls, stack := .ref T.heap.size :: rest, locked := none }) _
  jvm_step X₁.here [X₁.here.top, hexec, d3', Value.category]
  exact X₁.ldcStringW hexec (own := own) (text := text) (index := is) (a := sa) hown' hstr'.1 hstr'.2
    (g := { method := m, pc := pc + 4, locals := ls, stack := .ref T.heap.size :: .ref T.heap.size :: rest, locked := none }) rfl d4' _ hsteps
end Ends
section Bodies
variable {l : Launch}
theorem vx_ofW {y : MethodName} {ws ws' : List Cond} {rm : Room} {Pc : Array Value → State → Prop} {Qc : Array Value → State → Outcome → State → Prop} {XC : String → State → State → Prop} {mc ms : Nat} {free : Addr → Prop} {cc : ByteArray} {maxL : Nat} {ret : Option FieldType}
    (hy : plainName y.cls = true) (hw : ws = Cond.code y cc maxL ret :: ws')
    (body : ∀ p e s m args below meth c s₁, BodyLoose p l y (headSpec ws rm) cc maxL ret e s m args below meth c s₁ → c.maxLocals = maxL → (∀ x ∈ c.exceptionTable.toList, False) → Pc args s →
      W p l e (headSpec ws rm).room s m args below meth c s.heap [] 0 0 (vx_MQ below Qc XC args s mc ms free) (entryFrame m args maxL)) : vx_Met l y ws rm Pc Qc XC mc ms free := by
  refine MetFree.of_bodyS (code := cc) (maxLocals := maxL) (ret := ret) hy ?_ ?_
  · intro args s m h hn
    obtain ⟨meth, c, h1, h2, h3, h4, h5, h6, -, -⟩ := Cond.code_spec hn (atoms_spec (ws := ws) h _ (by rw [hw]; exact List.mem_cons_self))
    exact ⟨meth, c, h1, h2, h3, h4, h5, h6⟩
  · intro p e s m args below meth c s₁ B hml hP _
    have hh0 : s₁.heap = s.heap := by rw [B.state]; rfl
    have ht : ∀ x ∈ c.exceptionTable.toList, False := by
      obtain ⟨meth9, c9, h1, h2, -, -, -, -, h7, -⟩ := Cond.code_spec B.named (atoms_spec (ws := ws) B.pre _ (by rw [hw]; exact List.mem_cons_self))
      cases Option.some.inj (h1.symm.trans B.method)
      cases Option.some.inj (h2.symm.trans (Stand.of_body B).code)
      intro x hx
      rw [Array.isEmpty_iff.mp h7] at hx
      cases hx
    obtain ⟨t, a1, o, b1, b2, b3⟩ := body p e s m args below meth c s₁ B hml ht hP s₁ hh0 (Stand.of_body B)
    exact ⟨t, o, a1, b1, b2, b3⟩
/-- the table of a body with handlers -/
theorem vx_table {p : Program} {x y : MethodName} {S : Spec} {cc bytes : ByteArray} {maxL maxL' : Nat} {ret ret' : Option FieldType} {e : Env} {s s₁ : State} {m : MethodId} {args : Array Value} {below : List Frame} {meth : Method} {c : Code} {hh : List (Nat × Nat × Nat × Nat)}
    (B : BodyLoose p l y S cc maxL ret e s m args below meth c s₁) (h : (Cond.codeWith y bytes maxL' ret' hh).before args s = true) : c.exceptionTable.toList = tableOf hh := by
  obtain ⟨m9, meth9, c9, hn9, h1, h2, -, -, h6, -⟩ := Cond.codeWith_spec h
  cases Option.some.inj (hn9.symm.trans B.named)
  cases Option.some.inj (h1.symm.trans B.method)
  cases Option.some.inj (h2.symm.trans (Stand.of_body B).code)
  rw [← h6, table_eq]
end Bodies
end VXA
/-! ===== END ===== -/
/-! ===== BEGIN a static call of a method with an exception table ===== -/
section VXS
variable {p : Program} {l : Launch} {e : Env} {R : Room} {s : State} {m : MethodId} {args : Array Value} {below : List Frame} {meth : Method} {c : Code} {T : State} {H : Heap} {locs : List Loc} {cells slots : Nat}
abbrev vx_CSW (R : Room) (s : State) (args : Array Value) (own : String) (index : Nat) (y : MethodName) (bytes : ByteArray) (maxL : Nat) (ret : Option FieldType) (hh : List (Nat × Nat × Nat × Nat)) (ws : List Cond) (rm : Room) (mc ms n : Nat) : Prop :=
  (rm.cells = mc ∧ rm.slots = ms ∧ rm.frames + 1 ≤ R.frames ∧ 8 + (maxL + 11) + rm.locals ≤ R.locals ∧ (∀ w ∈ ws, ∀ (a' : Array Value) (U : State), s.WarmedH U.vm → w.before a' U = true) ∧ Cond.codeWith y bytes maxL ret hh ∈ ws) ∧
  (Cond.codeWith y bytes maxL ret hh).before args s = true ∧ (Cond.initialized y.cls).before args s = true ∧ (y.cls ≠ "java/lang/invoke/MethodHandle" ∧ y.cls ≠ "java/lang/invoke/VarHandle") ∧
  (∀ sig, parseMethodDescriptor y.desc = some sig → n = sig.parameters.length) ∧ (Cond.methodLink own index y).before args s = true ∧ (Cond.static y).before args s = true
theorem vx_cwSW {own : String} {index maxL mc ms : Nat} {y : MethodName} {bytes : ByteArray} {ret : Option FieldType} {hh : List (Nat × Nat × Nat × Nat)} {Ts ws ws' : List Cond} {rm : Room} (n : Nat) (ht : ∀ w ∈ Ts, w.before args s = true) (hT : GoodIn Ts (va_wsS own index y ws)) (hw : ws = Cond.codeWith y bytes maxL ret hh :: ws') (hrc : rm.cells = mc) (hrs : rm.slots = ms)
    (hd : y.cls ≠ "java/lang/invoke/MethodHandle" ∧ y.cls ≠ "java/lang/invoke/VarHandle" ∧ (parseMethodDescriptor y.desc).map (fun d => d.parameters.length) = some n) (hR : rm.frames + 1 ≤ R.frames ∧ 8 + (maxL + 11) + rm.locals ≤ R.locals) :
    vx_CSW R s args own index y bytes maxL ret hh ws rm mc ms n := by
  have ok : ∀ w ∈ va_wsS own index y ws, w.before args s = true := fun w h => ht w (hT w h).1
  have hG : GoodIn Ts ws := fun w h => hT w (by unfold va_wsS; exact List.mem_append_right _ h)
  have hc : Cond.codeWith y bytes maxL ret hh ∈ ws := by rw [hw]; exact List.mem_cons_self
  refine ⟨⟨hrc, hrs, hR.1, hR.2, pay_in ht hG, hc⟩, ht _ (hG _ hc).1, ok _ (by simp [va_wsS]), ⟨hd.1, hd.2.1⟩, fun sig h => ?_, ok _ (by simp [va_wsS]), ok _ (by simp [va_wsS])⟩
  have h2 := hd.2.2
  rw [h] at h2
  exact (Option.some.inj h2).symm
theorem vx_callSW (X : Stand p l e R s m args below meth c T locs cells slots) (hexec : p.tables.exec = Jvm.exec) {own : String} {index : Nat} {y : MethodName} {bytes : ByteArray} {maxL : Nat} {ret : Option FieldType} {hh : List (Nat × Nat × Nat × Nat)}
    (hown : s.vm.findClass own = some m.cls) (hlink : (Cond.methodLink own index y).before args s = true) (hstat : (Cond.static y).before args s = true) (hinit : (Cond.initialized y.cls).before args s = true)
    (hcode : (Cond.codeWith y bytes maxL ret hh).before args s = true) (hy : y.cls ≠ "java/lang/invoke/MethodHandle" ∧ y.cls ≠ "java/lang/invoke/VarHandle")
    {W9 : Nat} {Pre : Pt → Array Value → Prop} {Post : Pt → Array Value → Option Value → Pt → Prop} (hK : Back l R p e below s args y 3 W9 Pre Post)
    {g : JFrame} (hg : g.method = m) (hsize : g.locals.size = c.maxLocals) {argsL rest : List Value} (hlen : ∀ sig, parseMethodDescriptor y.desc = some sig → argsL.length = sig.parameters.length)
    (hstack : g.stack = argsL.reverse ++ rest) (hW : 2 * g.monitorRoom + (rest.map fun v => v.category).sum ≤ W9) (hdg : decode c.code g.pc = .ok (.invokestatic index, 3))
    (hpre : ∀ vm₁, s.WarmedH vm₁ → Pre ⟨T.setVm vm₁, locs, cells, slots⟩ argsL.toArray) :
    ∃ (v : Option Value) (vm₁ : Vm) (B : Pt), s.WarmedH vm₁ ∧ Stand p l e R s m args below meth c B.U B.locs B.cells B.slots ∧ Post ⟨T.setVm vm₁, locs, cells, slots⟩ argsL.toArray v B ∧
      ∀ target, Steps p.tables e below (B.U.setTop { g with pc := g.pc + 3, stack := v.toList ++ rest }) target → Steps p.tables e below (T.setTop g) target := by
  obtain ⟨mk, methM, cM, hnamed, hmethM, -, -, -, -, -, -, hsigM⟩ := Cond.codeWith_spec hcode
  have hstatic : methM.isStatic = true := Cond.static_spec hnamed hmethM hstat
  obtain ⟨kP, hkP, -⟩ := className_of_methodNamed hnamed
  have hinitP : kP.init = .initialized := Cond.initialized_spec (findClass_of_methodNamed hnamed) hkP hinit
  obtain ⟨vm₁, X₁, hstep₁⟩ := X.invokestatic hexec hown hlink hnamed hmethM hstatic hkP hinitP hy (g := g) hg (argsL := argsL) (rest := rest) (hlen _ hsigM) hstack hdg
  obtain ⟨v, B, X', hpost, hsteps⟩ := hK m meth c ⟨T.setVm vm₁, locs, cells, slots⟩ { g with stack := rest } (.invokestatic index) mk argsL.toArray X₁ hg hsize hdg hW (X₁.named hnamed) (hpre vm₁ X₁.warmed)
  exact ⟨v, vm₁, B, X₁.warmed, X', hpost, fun target h => hstep₁ _ fun acts => by rw [doInvoke_state]; exact hsteps.trans h⟩
theorem vx_runSW {y : MethodName} {bytes cc : ByteArray} {maxL nL mc ms n index : Nat} {ret : Option FieldType} {hh : List (Nat × Nat × Nat × Nat)} {ws : List Cond} {rm : Room} {Pc : Array Value → State → Prop} {Qc : Array Value → State → Outcome → State → Prop} {free : Addr → Prop} {Ts : List Cond} {own : String} {As rest : List Value} {g : JFrame}
    (S : CallFix p m c cc nL s args Ts own) (hM : Met l y ws rm Pc Qc mc ms free) (cw : vx_CSW R s args own index y bytes maxL ret hh ws rm mc ms n) (hp : PreS s H Pc As)
    (hg : g.method = m) (hn : As.length = n) (hsize : g.locals.size = nL) (hstack : g.stack = As.reverse ++ rest) (hW : 2 * g.monitorRoom + (rest.map fun v => v.category).sum ≤ 8) (hdg : decode cc g.pc = .ok (.invokestatic index, 3)) (hf : cells + mc ≤ R.cells ∧ slots + ms ≤ R.slots) :
    va_Run p l e R s m args below meth c H locs cells slots mc ms g rest (Qc As.toArray) (free) := by
  obtain ⟨⟨hrc, hrs, hfr, hlo, hws, hcw⟩, hcode, hini, hy, hlen, hl, hstt⟩ := cw
  have hK : Back l R p e below s args y 3 8 (PreOf R mc ms Pc) (PostOf Qc mc ms free) := va_backW (hh := hh) (bytes := bytes) (maxL := maxL) (ret := ret) hM hp.1 hrc hrs hfr hlo hws hcw (fun a' U hW => word_at hW (Or.inl (by first | rfl | simp [Cond.onTables, Cond.keeps, Cond.steady])) hini)
  obtain ⟨hx, hb, hml, ho, -⟩ := S
  intro T hT X
  obtain ⟨v, vm₁, ⟨U', l2, c2, s2⟩, hW₁, X', ⟨g', mk, t, L, e1, e2, hq, h1, hL, h2, h3⟩, st⟩ := vx_callSW X hx (hh := hh) (bytes := bytes) (maxL := maxL) (ret := ret) ho hl hstt hini hcode hy hK hg (hsize.trans hml.symm) (argsL := As) (rest := rest) (fun sig h => hn.trans (hlen sig h)) hstack hW (by rw [hb]; exact hdg)
    (fun vm₁ hW₁ => ⟨hf.1, hf.2, hp.2 (T.setVm vm₁) hT hW₁⟩)
  dsimp only [Pt.U, Pt.locs, Pt.cells, Pt.slots] at X' e1 e2 h1 h2 h3 st
  subst h1; subst h2; subst h3
  exact ⟨v, (T.setVm vm₁).calling g' mk As.toArray, t, U', L, hT, X', hL, e1, e2, hq, st⟩
/-- not caught here, past rows that name other classes: it goes on to the caller -/
theorem vx_outP {p : Program} {l : Launch} {e : Env} {R : Room} {s : State} {m : MethodId} {args : Array Value} {below : List Frame} {meth : Method} {c : Code} {H : Heap} {locs : List Loc} {cells slots : Nat} {free : Addr → Prop} {ls : Array Slot} {rest : List Value} {Qc : Array Value → State → Outcome → State → Prop} {XC : String → State → State → Prop}
    {pc : Nat} {own E : String} {ce : Cell} {q : Addr} {mc ms : Nat} (hown : s.vm.findClass own = some m.cls) (hlocks : meth.locks = false)
    (hpass : ∀ z ∈ c.exceptionTable.toList, covers z pc = false ∨ (z.catchType ≠ 0 ∧ ∃ nm : String, (Cond.classLink own z.catchType nm).before args s = true ∧ va_Nc E nm s)) (hcell : H[q]? = some ce) (hv : ce.vm = .none) (hcl : s.vm.findClass E = some ce.cls)
    (hx : ∀ t : State, t.heap = H → s.vm.Alike t.vm → XC E s t) (hf : ∀ z ∈ locs, free z.base) (hc : cells ≤ mc) (hs : slots ≤ ms) :
    vx_W p l e R s m args below meth c H locs cells slots (vx_MQ below Qc XC args s mc ms free) (F0 m pc ls rest) q := by
  intro T hT X
  have hpl : e.platform.magicAccessors = ({} : Platform).magicAccessors := by rw [X.admits.platform]
  obtain ⟨vm', hW', X', st⟩ := X.outThrough hlocks q (g := F0 m pc ls rest) rfl rfl rfl (cell := ce) (by rw [hT]; exact hcell) (by rw [hv]; rfl)
    (by obtain ⟨k9, h9, -⟩ := Vm.findClass_spec hcl; exact ⟨k9, h9⟩) (fun z hz => by
      rcases hpass z hz with h | ⟨hz0, nm, hl1, hn1⟩
      · exact Or.inl h
      · obtain ⟨c6, hc6, hcl6⟩ := Cond.classLink_spec hown hl1 e.platform hpl
        obtain ⟨a8, b8, h1, h2, h3⟩ := hn1
        cases Option.some.inj (h1.symm.trans hcl)
        cases Option.some.inj (h2.symm.trans hc6)
        exact Or.inr ⟨hz0, _, hcl6, h3⟩)
  obtain ⟨g₀, hfr⟩ := X'.frames_eq
  have hcell9 : ((T.setVm vm').setFrames (.throwing q :: below)).heap[q]? = some ce := by
    show T.heap[q]? = some ce
    rw [hT]; exact hcell
  have hend : Ended ((T.setVm vm').setFrames (.throwing q :: below)) below (.threw q) := State.frames_setFrames _ (State.cur_lt_of_frames hfr)
  refine ⟨(T.setVm vm').setFrames (.throwing q :: below), ?_, .threw q, X'.here.running, hend, Or.inr ⟨q, rfl, E, ce, locs, hx _ hT (X'.ends _).1.alike, hcell9, hv, hcl, (X'.ends _).1, (X'.ends _).2.mono hc hs, hf⟩⟩
  rw [X.pushThrowing_eq]
  exact st
/-- a thing of a world lies in the heap -/
theorem vx_lt {D : va_G} {cl : List vw_C} {ws : va_W} {H1 : Heap} (h : va_P D cl ws H1) {k : Nat} {q : Nat × va_E} (hk : ws[k]? = some q) : q.1 < H1.size := (h k q hk).lt
end VXS
/-! ===== END ===== -/
/-! ===== BEGIN methods with a table of their own: called by a name, returning or throwing ===== -/
section VXH
/-! vx_backW, vx_callVX, vx_callSX, vx_callVW, vx_runVW, vx_runVX, vx_runSX, vx_ofWH follow the same proofs as their sisters above (Free/Laws.lean, Shelf42/LK1.lean); vx_outP calls Shelf42/NT130.lean (outThrough). -/
section
variable {l : Launch} {R : Room} {p : Program} {e : Env} {below : List Frame} {s : State} {sargs : Array Value} {y : MethodName} {len W9 : Nat}
theorem vx_backW {ws : List Cond} {rm : Room} {Pc : Array Value → State → Prop} {Qc : Array Value → State → Outcome → State → Prop} {XC : String → State → State → Prop} {mc ms : Nat} {free : Addr → Prop} {bytes : ByteArray} {maxL : Nat} {ret : Option FieldType} {hh : List (Nat × Nat × Nat × Nat)}
    (hM : vx_Met l y ws rm Pc Qc XC mc ms free) (hblind : FrameBlind Pc) (hrc : rm.cells = mc) (hrs : rm.slots = ms)
    (hframes : rm.frames + 1 ≤ R.frames) (hlocals : W9 + (maxL + 11) + rm.locals ≤ R.locals)
    (hws : ∀ w ∈ ws, ∀ a' U, s.WarmedH U.vm → w.before a' U = true) (hcode : Cond.codeWith y bytes maxL ret hh ∈ ws) (hinit : ∀ a' U, s.WarmedH U.vm → (Cond.initialized y.cls).before a' U = true) :
    vx_Back l R p e below s sargs y len W9 (PreOf R mc ms Pc) (PostOf Qc mc ms free) (vx_Post XC mc ms free) := by
  intro m meth c A g ig mk a X hg hsize hdg hW hn hp
  have h1 : (headSpec ws rm).pre.before a A.U = true := atoms_intro fun w hw => hws w hw _ _ X.warmed
  have h2 : (Cond.codeWith y bytes maxL ret hh).before a A.U = true := hws _ hcode _ _ X.warmed
  have h3 : (Cond.initialized y.cls).before a A.U = true := hinit _ _ X.warmed
  have h4 : A.cells + (headSpec ws rm).room.cells ≤ R.cells := by rw [show (headSpec ws rm).room.cells = mc from hrc]; exact hp.1
  have h5 : A.slots + (headSpec ws rm).room.slots ≤ R.slots := by rw [show (headSpec ws rm).room.slots = ms from hrs]; exact hp.2.1
  have hPc : Pc a (A.U.calling g mk a) := hblind _ _ _ _ hp.2.2
  obtain ⟨U, Ls, c0, s0⟩ := A
  dsimp only [Pt.U, Pt.locs, Pt.cells, Pt.slots] at h1 h2 h3 h4 h5 X hn hPc ⊢
  obtain ⟨m9, methY, cY, hn9, hmY, hcY, -, hlY, -⟩ := Cond.codeWith_spec h2
  cases Option.some.inj (hn9.symm.trans hn)
  obtain ⟨kY, hkY, -⟩ := className_of_methodNamed hn
  have hinitY : kY.init = .initialized := Cond.initialized_spec (findClass_of_methodNamed hn) hkY h3
  have h : At U g.method c below := by rw [hg]; exact X.here
  have hlocals9 : W9 + (maxL + 11) + (headSpec ws rm).room.locals ≤ R.locals := hlocals
  have happ : (headSpec ws rm).appliesLoose y e.platform (U.calling g mk a) = true :=
    Spec.appliesLoose_calling (g := g) h hdg hn hkY hinitY
      (X.room_calling (g := g) (R' := (headSpec ws rm).room) hsize hmY hcY hframes (by rw [hlY]; omega) h4 h5) h1
  obtain ⟨mid, hmid⟩ := h.above
  have hfr : (U.setTop g).frames = (.java g :: mid) ++ below := by rw [State.frames_setTop' g h.top, hmid]; rfl
  obtain ⟨o, s₂, hsteps, -, hend, hq⟩ := Steps.callFree hM p X.admits X.cas X.clock (acts := []) hfr happ hPc trivial
  have hq' : vx_Q Qc XC mc ms free a (U.calling g mk a) o s₂ := hq
  rw [State.frames_setTop' g h.top] at hend
  obtain ⟨g₀, hg0⟩ := Option.isSome_iff_exists.mp h.top
  obtain ⟨r, hr⟩ := State.topJava?_eq_some.mp hg0
  have hr' : (({ U with heap := s₂.heap, slotsUsed := s₂.slotsUsed } : State).setVm s₂.vm).frames = .java g₀ :: r := hr
  rcases hq' with ⟨hqc, L, hfe, hL⟩ | ⟨q, rfl, E, ce, L, hx, hce, hcv, hcl, hW₂, hsm, hL⟩
  · obtain ⟨⟨v, rfl⟩, hW₂, e2, q2, q3, q4, q5, q6⟩ := id hfe
    have e3 : s₂ = ({ (U.calling g mk a).setFrames s₂.frames with heap := s₂.heap, slotsUsed := s₂.slotsUsed } : State).setVm s₂.vm := by
      have : s₂ = ({ s₂ with vm := (U.calling g mk a).vm } : State).setVm s₂.vm := rfl
      rw [e2] at this
      exact this
    obtain ⟨c₂, i₂, len₂, hc₂, hd₂, hf₂⟩ := hend
    have hW' : U.WarmedH s₂.vm := hW₂
    have hcc : c₂ = c := by
      have h1 : s₂.code? g.method = U.code? g.method := by
        rw [State.code?_eq, State.code?_eq, hW'.alike.method?]
      exact Option.some.inj (hc₂.symm.trans (h1.trans h.code))
    subst hcc
    have hlen : len₂ = len := by rw [hdg] at hd₂; cases hd₂; rfl
    subst hlen
    have hs₂ : s₂ = (({ U with heap := s₂.heap, slotsUsed := s₂.slotsUsed } : State).setVm s₂.vm).setTop { g with pc := g.pc + len₂, stack := v.toList ++ g.stack } := by
      refine e3.trans ?_
      rw [hf₂, State.calling_eq h.top, State.setFrames_setFrames, State.setTop_of_frames _ hr', hr]
      rfl
    have hsame : U.sameButNew ({ U with heap := s₂.heap, slotsUsed := s₂.slotsUsed } : State) L mc ms := by
      refine ⟨?_, q2, q3, q4, q5, q6⟩
      obtain ⟨t, ht, -⟩ := State.frames_cons hr
      show ({ U with heap := s₂.heap, slotsUsed := s₂.slotsUsed } : State) = { U.setFrames U.frames with heap := s₂.heap, slotsUsed := s₂.slotsUsed }
      rw [State.setFrames_self ht]
    subst hg
    refine Or.inl ⟨v, ⟨(({ U with heap := s₂.heap, slotsUsed := s₂.slotsUsed } : State).setVm s₂.vm), Ls ++ L, c0 + mc, s0 + ms⟩,
      ⟨X.admits, X.cas, X.clock, X.frames, X.room, X.hears, X.method, X.code, (X.here.setHeapUsed s₂.heap s₂.slotsUsed).setVm hW'.alike, X.tail, State.WarmedH.trans X.warmed hW', X.limits, X.bytes, X.same.trans (hsame.setVm s.vm)⟩,
      ⟨g, mk, s₂, L, rfl, rfl, hqc, rfl, hL, rfl, rfl⟩, ?_⟩
    show Steps p.tables e below _ ((({ U with heap := s₂.heap, slotsUsed := s₂.slotsUsed } : State).setVm s₂.vm).setTop { g with pc := g.pc + len₂, stack := v.toList ++ g.stack })
    rw [← hs₂]
    exact hsteps
  · obtain ⟨e2, q2, q3, q4, q5, q6⟩ := id hsm
    have e3 : s₂ = ({ (U.calling g mk a).setFrames s₂.frames with heap := s₂.heap, slotsUsed := s₂.slotsUsed } : State).setVm s₂.vm := by
      have : s₂ = ({ s₂ with vm := (U.calling g mk a).vm } : State).setVm s₂.vm := rfl
      rw [e2] at this
      exact this
    have hf₂ : s₂.frames = .throwing q :: .java g :: U.frames.tail := hend
    have hW' : U.WarmedH s₂.vm := hW₂
    have hs₂ : s₂ = ((({ U with heap := s₂.heap, slotsUsed := s₂.slotsUsed } : State).setVm s₂.vm).setTop g).pushFrame (.throwing q) := by
      refine e3.trans ?_
      rw [hf₂, State.calling_eq h.top, State.setFrames_setFrames, State.pushFrame, State.frames_setTop _ hr', State.setTop_of_frames _ hr', State.setFrames_setFrames, hr]
      rfl
    have hsame : U.sameButNew ({ U with heap := s₂.heap, slotsUsed := s₂.slotsUsed } : State) L mc ms := by
      refine ⟨?_, q2, q3, q4, q5, q6⟩
      obtain ⟨t, ht, -⟩ := State.frames_cons hr
      show ({ U with heap := s₂.heap, slotsUsed := s₂.slotsUsed } : State) = { U.setFrames U.frames with heap := s₂.heap, slotsUsed := s₂.slotsUsed }
      rw [State.setFrames_self ht]
    subst hg
    refine Or.inr ⟨q, ⟨(({ U with heap := s₂.heap, slotsUsed := s₂.slotsUsed } : State).setVm s₂.vm), Ls ++ L, c0 + mc, s0 + ms⟩,
      ⟨X.admits, X.cas, X.clock, X.frames, X.room, X.hears, X.method, X.code, (X.here.setHeapUsed s₂.heap s₂.slotsUsed).setVm hW'.alike, X.tail, State.WarmedH.trans X.warmed hW', X.limits, X.bytes, X.same.trans (hsame.setVm s.vm)⟩,
      ⟨g, mk, s₂, L, E, ce, rfl, rfl, hx, hce, hcv, hcl, rfl, hL, rfl, rfl⟩, ?_⟩
    show Steps p.tables e below _ (((({ U with heap := s₂.heap, slotsUsed := s₂.slotsUsed } : State).setVm s₂.vm).setTop g).pushFrame (.throwing q))
    rw [← hs₂]
    exact hsteps
end
variable {p : Program} {l : Launch} {e : Env} {R : Room} {s : State} {m : MethodId} {args : Array Value} {below : List Frame} {meth : Method} {c : Code} {T : State} {H : Heap} {locs : List Loc} {cells slots : Nat}
theorem vx_callVX (X : Stand p l e R s m args below meth c T locs cells slots) (hexec : p.tables.exec = Jvm.exec) {own C : String} {index : Nat} {y : MethodName} {bytes : ByteArray} {maxL : Nat} {ret : Option FieldType} {hh : List (Nat × Nat × Nat × Nat)}
    (hown : s.vm.findClass own = some m.cls) (hlink : (Cond.methodLink own index y).before args s = true) (hinst : (Cond.instanceMethod y).before args s = true) (hsel : (Cond.selects C y y).before args s = true)
    (hcode : (Cond.codeWith y bytes maxL ret hh).before args s = true) (hy : y.cls ≠ "java/lang/invoke/MethodHandle" ∧ y.cls ≠ "java/lang/invoke/VarHandle")
    {W9 : Nat} {Pre : Pt → Array Value → Prop} {Post : Pt → Array Value → Option Value → Pt → Prop} {PostX : Pt → Array Value → Addr → Pt → Prop} (hK : vx_Back l R p e below s args y 3 W9 Pre Post PostX)
    {b : Addr} {cellB : Cell} (hcell : T.heap[b]? = some cellB) (hobj : cellB.vm.isStatics = false) (hcls : s.vm.findClass C = some cellB.cls)
    {g : JFrame} (hg : g.method = m) (hsize : g.locals.size = c.maxLocals) {argsL rest : List Value} (hlen : ∀ sig, parseMethodDescriptor y.desc = some sig → argsL.length = sig.parameters.length)
    (hstack : g.stack = argsL.reverse ++ .ref b :: rest) (hW : 2 * g.monitorRoom + (rest.map fun v => v.category).sum ≤ W9) (hdg : decode c.code g.pc = .ok (.invokevirtual index, 3))
    (hpre : ∀ vm₁, s.WarmedH vm₁ → Pre ⟨T.setVm vm₁, locs, cells, slots⟩ (Value.ref b :: argsL).toArray) :
    (∃ (v : Option Value) (vm₁ : Vm) (B : Pt), s.WarmedH vm₁ ∧ Stand p l e R s m args below meth c B.U B.locs B.cells B.slots ∧ Post ⟨T.setVm vm₁, locs, cells, slots⟩ (Value.ref b :: argsL).toArray v B ∧
      ∀ target, Steps p.tables e below (B.U.setTop { g with pc := g.pc + 3, stack := v.toList ++ rest }) target → Steps p.tables e below (T.setTop g) target) ∨
    (∃ (q : Addr) (vm₁ : Vm) (B : Pt), s.WarmedH vm₁ ∧ Stand p l e R s m args below meth c B.U B.locs B.cells B.slots ∧ PostX ⟨T.setVm vm₁, locs, cells, slots⟩ (Value.ref b :: argsL).toArray q B ∧
      Steps p.tables e below (T.setTop g) ((B.U.setTop { g with stack := rest }).pushFrame (.throwing q))) := by
  obtain ⟨mk, methM, hnamed, hmethM, hstM, habM⟩ := Cond.instanceMethod_spec hinst
  obtain ⟨m8, methM', cM, hn8, hmethM', -, -, -, -, -, -, hsigM⟩ := Cond.codeWith_spec hcode
  cases Option.some.inj (hn8.symm.trans hnamed)
  cases hmethM.symm.trans hmethM'
  obtain ⟨c2, r2, m2, q1, q2, q3, q4, kP, hkP, hkPi⟩ := Cond.selects_spec hsel
  cases hcls.symm.trans q1
  cases (State.methodFound?_of_named hnamed hy).symm.trans q2
  cases hnamed.symm.trans q3
  have hselP : selectMethod e.platform s.vm cellB.cls mk = .method mk := by rw [Launch.admits_selectMethod X.admits]; exact q4
  obtain ⟨vm₁, X₁, hstep₁⟩ := X.invokevirtual hexec hown hlink hnamed hmethM hstM hkP hkPi hy (a := b) (cell := cellB) hcell
    (fun z h => by rw [h] at hobj; cases hobj) hselP hmethM habM hkP hkPi (g := g) hg (argsL := argsL) (rest := rest) (hlen _ hsigM) hstack hdg
  rcases hK m meth c ⟨T.setVm vm₁, locs, cells, slots⟩ { g with stack := rest } (.invokevirtual index) mk (Value.ref b :: argsL).toArray X₁ hg hsize hdg hW (X₁.named hnamed) (hpre vm₁ X₁.warmed) with ⟨v, B, X', hpost, hsteps⟩ | ⟨q, B, X', hpost, hsteps⟩
  · exact Or.inl ⟨v, vm₁, B, X₁.warmed, X', hpost, fun target h => hstep₁ _ fun acts => by rw [doInvoke_state]; exact hsteps.trans h⟩
  · exact Or.inr ⟨q, vm₁, B, X₁.warmed, X', hpost, hstep₁ _ fun acts => by rw [doInvoke_state]; exact hsteps⟩
theorem vx_callSX (X : Stand p l e R s m args below meth c T locs cells slots) (hexec : p.tables.exec = Jvm.exec) {own : String} {index : Nat} {y : MethodName} {bytes : ByteArray} {maxL : Nat} {ret : Option FieldType} {hh : List (Nat × Nat × Nat × Nat)}
    (hown : s.vm.findClass own = some m.cls) (hlink : (Cond.methodLink own index y).before args s = true) (hstat : (Cond.static y).before args s = true) (hinit : (Cond.initialized y.cls).before args s = true)
    (hcode : (Cond.codeWith y bytes maxL ret hh).before args s = true) (hy : y.cls ≠ "java/lang/invoke/MethodHandle" ∧ y.cls ≠ "java/lang/invoke/VarHandle")
    {W9 : Nat} {Pre : Pt → Array Value → Prop} {Post : Pt → Array Value → Option Value → Pt → Prop} {PostX : Pt → Array Value → Addr → Pt → Prop} (hK : vx_Back l R p e below s args y 3 W9 Pre Post PostX)
    {g : JFrame} (hg : g.method = m) (hsize : g.locals.size = c.maxLocals) {argsL rest : List Value} (hlen : ∀ sig, parseMethodDescriptor y.desc = some sig → argsL.length = sig.parameters.length)
    (hstack : g.stack = argsL.reverse ++ rest) (hW : 2 * g.monitorRoom + (rest.map fun v => v.category).sum ≤ W9) (hdg : decode c.code g.pc = .ok (.invokestatic index, 3))
    (hpre : ∀ vm₁, s.WarmedH vm₁ → Pre ⟨T.setVm vm₁, locs, cells, slots⟩ argsL.toArray) :
    (∃ (v : Option Value) (vm₁ : Vm) (B : Pt), s.WarmedH vm₁ ∧ Stand p l e R s m args below meth c B.U B.locs B.cells B.slots ∧ Post ⟨T.setVm vm₁, locs, cells, slots⟩ argsL.toArray v B ∧
      ∀ target, Steps p.tables e below (B.U.setTop { g with pc := g.pc + 3, stack := v.toList ++ rest }) target → Steps p.tables e below (T.setTop g) target) ∨
    (∃ (q : Addr) (vm₁ : Vm) (B : Pt), s.WarmedH vm₁ ∧ Stand p l e R s m args below meth c B.U B.locs B.cells B.slots ∧ PostX ⟨T.setVm vm₁, locs, cells, slots⟩ argsL.toArray q B ∧
      Steps p.tables e below (T.setTop g) ((B.U.setTop { g with stack := rest }).pushFrame (.throwing q))) := by
  obtain ⟨mk, methM, cM, hnamed, hmethM, -, -, -, -, -, -, hsigM⟩ := Cond.codeWith_spec hcode
  have hstatic : methM.isStatic = true := Cond.static_spec hnamed hmethM hstat
  obtain ⟨kP, hkP, -⟩ := className_of_methodNamed hnamed
  have hinitP : kP.init = .initialized := Cond.initialized_spec (findClass_of_methodNamed hnamed) hkP hinit
  obtain ⟨vm₁, X₁, hstep₁⟩ := X.invokestatic hexec hown hlink hnamed hmethM hstatic hkP hinitP hy (g := g) hg (argsL := argsL) (rest := rest) (hlen _ hsigM) hstack hdg
  rcases hK m meth c ⟨T.setVm vm₁, locs, cells, slots⟩ { g with stack := rest } (.invokestatic index) mk argsL.toArray X₁ hg hsize hdg hW (X₁.named hnamed) (hpre vm₁ X₁.warmed) with ⟨v, B, X', hpost, hsteps⟩ | ⟨q, B, X', hpost, hsteps⟩
  · exact Or.inl ⟨v, vm₁, B, X₁.warmed, X', hpost, fun target h => hstep₁ _ fun acts => by rw [doInvoke_state]; exact hsteps.trans h⟩
  · exact Or.inr ⟨q, vm₁, B, X₁.warmed, X', hpost, hstep₁ _ fun acts => by rw [doInvoke_state]; exact hsteps⟩
theorem vx_callVW (X : Stand p l e R s m args below meth c T locs cells slots) (hexec : p.tables.exec = Jvm.exec) {own C : String} {index : Nat} {y : MethodName} {bytes : ByteArray} {maxL : Nat} {ret : Option FieldType} {hh : List (Nat × Nat × Nat × Nat)}
    (hown : s.vm.findClass own = some m.cls) (hlink : (Cond.methodLink own index y).before args s = true) (hinst : (Cond.instanceMethod y).before args s = true) (hsel : (Cond.selects C y y).before args s = true)
    (hcode : (Cond.codeWith y bytes maxL ret hh).before args s = true) (hy : y.cls ≠ "java/lang/invoke/MethodHandle" ∧ y.cls ≠ "java/lang/invoke/VarHandle")
    {W9 : Nat} {Pre : Pt → Array Value → Prop} {Post : Pt → Array Value → Option Value → Pt → Prop} (hK : Back l R p e below s args y 3 W9 Pre Post)
    {b : Addr} {cellB : Cell} (hcell : T.heap[b]? = some cellB) (hobj : cellB.vm.isStatics = false) (hcls : s.vm.findClass C = some cellB.cls)
    {g : JFrame} (hg : g.method = m) (hsize : g.locals.size = c.maxLocals) {argsL rest : List Value} (hlen : ∀ sig, parseMethodDescriptor y.desc = some sig → argsL.length = sig.parameters.length)
    (hstack : g.stack = argsL.reverse ++ .ref b :: rest) (hW : 2 * g.monitorRoom + (rest.map fun v => v.category).sum ≤ W9) (hdg : decode c.code g.pc = .ok (.invokevirtual index, 3))
    (hpre : ∀ vm₁, s.WarmedH vm₁ → Pre ⟨T.setVm vm₁, locs, cells, slots⟩ (Value.ref b :: argsL).toArray) :
    ∃ (v : Option Value) (vm₁ : Vm) (B : Pt), s.WarmedH vm₁ ∧ Stand p l e R s m args below meth c B.U B.locs B.cells B.slots ∧ Post ⟨T.setVm vm₁, locs, cells, slots⟩ (Value.ref b :: argsL).toArray v B ∧
      ∀ target, Steps p.tables e below (B.U.setTop { g with pc := g.pc + 3, stack := v.toList ++ rest }) target → Steps p.tables e below (T.setTop g) target := by
  obtain ⟨mk, methM, hnamed, hmethM, hstM, habM⟩ := Cond.instanceMethod_spec hinst
  obtain ⟨m8, methM', cM, hn8, hmethM', -, -, -, -, -, -, hsigM⟩ := Cond.codeWith_spec hcode
  cases Option.some.inj (hn8.symm.trans hnamed)
  cases hmethM.symm.trans hmethM'
  obtain ⟨c2, r2, m2, q1, q2, q3, q4, kP, hkP, hkPi⟩ := Cond.selects_spec hsel
  cases hcls.symm.trans q1
  cases (State.methodFound?_of_named hnamed hy).symm.trans q2
  cases hnamed.symm.trans q3
  have hselP : selectMethod e.platform s.vm cellB.cls mk = .method mk := by rw [Launch.admits_selectMethod X.admits]; exact q4
  obtain ⟨vm₁, X₁, hstep₁⟩ := X.invokevirtual hexec hown hlink hnamed hmethM hstM hkP hkPi hy (a := b) (cell := cellB) hcell
    (fun z h => by rw [h] at hobj; cases hobj) hselP hmethM habM hkP hkPi (g := g) hg (argsL := argsL) (rest := rest) (hlen _ hsigM) hstack hdg
  obtain ⟨v, B, X', hpost, hsteps⟩ := hK m meth c ⟨T.setVm vm₁, locs, cells, slots⟩ { g with stack := rest } (.invokevirtual index) mk (Value.ref b :: argsL).toArray X₁ hg hsize hdg hW (X₁.named hnamed) (hpre vm₁ X₁.warmed)
  exact ⟨v, vm₁, B, X₁.warmed, X', hpost, fun target h => hstep₁ _ fun acts => by rw [doInvoke_state]; exact hsteps.trans h⟩
abbrev vx_CVW (R : Room) (s : State) (args : Array Value) (own C : String) (index : Nat) (y : MethodName) (bytes : ByteArray) (maxL : Nat) (ret : Option FieldType) (hh : List (Nat × Nat × Nat × Nat)) (ws : List Cond) (rm : Room) (mc ms n : Nat) : Prop :=
  (rm.cells = mc ∧ rm.slots = ms ∧ rm.frames + 1 ≤ R.frames ∧ 8 + (maxL + 11) + rm.locals ≤ R.locals ∧ (∀ w ∈ ws, ∀ (a' : Array Value) (U : State), s.WarmedH U.vm → w.before a' U = true) ∧ Cond.codeWith y bytes maxL ret hh ∈ ws) ∧
  (Cond.codeWith y bytes maxL ret hh).before args s = true ∧ (Cond.initialized y.cls).before args s = true ∧ (y.cls ≠ "java/lang/invoke/MethodHandle" ∧ y.cls ≠ "java/lang/invoke/VarHandle") ∧
  (∀ sig, parseMethodDescriptor y.desc = some sig → n = sig.parameters.length) ∧ (Cond.methodLink own index y).before args s = true ∧ (Cond.instanceMethod y).before args s = true ∧ (Cond.selects C y y).before args s = true
theorem vx_cwVW {own C : String} {index maxL mc ms : Nat} {y : MethodName} {bytes : ByteArray} {ret : Option FieldType} {hh : List (Nat × Nat × Nat × Nat)} {Ts ws ws' : List Cond} {rm : Room} (n : Nat) (ht : ∀ w ∈ Ts, w.before args s = true) (hT : GoodIn Ts (wsV own index C y ws)) (hw : ws = Cond.codeWith y bytes maxL ret hh :: ws') (hrc : rm.cells = mc) (hrs : rm.slots = ms)
    (hd : y.cls = C ∧ y.cls ≠ "java/lang/invoke/MethodHandle" ∧ y.cls ≠ "java/lang/invoke/VarHandle" ∧ (parseMethodDescriptor y.desc).map (fun d => d.parameters.length) = some n) (hR : rm.frames + 1 ≤ R.frames ∧ 8 + (maxL + 11) + rm.locals ≤ R.locals) :
    vx_CVW R s args own C index y bytes maxL ret hh ws rm mc ms n := by
  obtain ⟨hC, hd⟩ := hd
  subst hC
  have ok : ∀ w ∈ wsV own index y.cls y ws, w.before args s = true := fun w h => ht w (hT w h).1
  have hG : GoodIn Ts ws := fun w h => hT w (by unfold wsV; exact List.mem_append_right _ h)
  have hc : Cond.codeWith y bytes maxL ret hh ∈ ws := by rw [hw]; exact List.mem_cons_self
  refine ⟨⟨hrc, hrs, hR.1, hR.2, pay_in ht hG, hc⟩, ht _ (hG _ hc).1, ok _ (by simp [wsV]), ⟨hd.1, hd.2.1⟩, fun sig h => ?_, ok _ (by simp [wsV]), ok _ (by simp [wsV]), ok _ (by simp [wsV])⟩
  have h2 := hd.2.2
  rw [h] at h2
  exact (Option.some.inj h2).symm
theorem vx_runVW {y : MethodName} {bytes cc : ByteArray} {maxL nL mc ms n index : Nat} {ret : Option FieldType} {hh : List (Nat × Nat × Nat × Nat)} {ws : List Cond} {rm : Room} {Pc : Array Value → State → Prop} {Qc : Array Value → State → Outcome → State → Prop} {free : Addr → Prop} {Ts : List Cond} {own C : String} {b : Addr} {As rest : List Value} {g : JFrame}
    (S : CallFix p m c cc nL s args Ts own) (hM : Met l y ws rm Pc Qc mc ms free) (cw : vx_CVW R s args own C index y bytes maxL ret hh ws rm mc ms n) (hp : PreV s H C b Pc As)
    (hg : g.method = m) (hn : As.length = n) (hsize : g.locals.size = nL) (hstack : g.stack = As.reverse ++ .ref b :: rest) (hW : 2 * g.monitorRoom + (rest.map fun v => v.category).sum ≤ 8) (hdg : decode cc g.pc = .ok (.invokevirtual index, 3)) (hf : cells + mc ≤ R.cells ∧ slots + ms ≤ R.slots) :
    va_Run p l e R s m args below meth c H locs cells slots mc ms g rest (Qc (Value.ref b :: As).toArray) free := by
  obtain ⟨⟨hrc, hrs, hfr, hlo, hws, hcw⟩, hcode, hini, hy, hlen, hl, hin, hse⟩ := cw
  have hK : Back l R p e below s args y 3 8 (PreOf R mc ms Pc) (PostOf Qc mc ms free) := va_backW (hh := hh) (bytes := bytes) (maxL := maxL) (ret := ret) hM hp.1 hrc hrs hfr hlo hws hcw (fun a' U hW => word_at hW (Or.inl (by first | rfl | simp [Cond.onTables, Cond.keeps, Cond.steady])) hini)
  obtain ⟨hx, hb, hml, ho, -⟩ := S
  obtain ⟨-, ⟨cellB, hcB, hoB, hclB⟩, hPc⟩ := hp
  intro T hT X
  obtain ⟨v, vm₁, ⟨U', l2, c2, s2⟩, hW₁, X', ⟨g', mk, t, L, e1, e2, hq, h1, hL, h2, h3⟩, st⟩ := vx_callVW X hx (C := C) (hh := hh) (bytes := bytes) (maxL := maxL) (ret := ret) ho hl hin hse hcode hy hK (by rw [hT]; exact hcB) hoB hclB hg (hsize.trans hml.symm) (argsL := As) (rest := rest) (fun sig h => hn.trans (hlen sig h)) hstack hW (by rw [hb]; exact hdg)
    (fun vm₁ hW₁ => ⟨hf.1, hf.2, hPc (T.setVm vm₁) hT hW₁⟩)
  dsimp only [Pt.U, Pt.locs, Pt.cells, Pt.slots] at X' e1 e2 h1 h2 h3 st
  subst h1; subst h2; subst h3
  exact ⟨v, (T.setVm vm₁).calling g' mk (Value.ref b :: As).toArray, t, U', L, hT, X', hL, e1, e2, hq, st⟩
section
variable {y : MethodName} {bytes cc : ByteArray} {maxL nL mc ms n index : Nat} {ret : Option FieldType} {ws : List Cond} {rm : Room} {Pc : Array Value → State → Prop} {Qc : Array Value → State → Outcome → State → Prop} {XC : String → State → State → Prop} {free : Addr → Prop} {Ts : List Cond} {own C : String} {b : Addr} {As rest : List Value} {g : JFrame}
theorem vx_runVX {hh : List (Nat × Nat × Nat × Nat)} (S : CallFix p m c cc nL s args Ts own) (hM : vx_Met l y ws rm Pc Qc XC mc ms free) (cw : vx_CVW R s args own C index y bytes maxL ret hh ws rm mc ms n) (hp : PreV s H C b Pc As)
    (hg : g.method = m) (hn : As.length = n) (hsize : g.locals.size = nL) (hstack : g.stack = As.reverse ++ .ref b :: rest) (hW : 2 * g.monitorRoom + (rest.map fun v => v.category).sum ≤ 8) (hdg : decode cc g.pc = .ok (.invokevirtual index, 3)) (hf : cells + mc ≤ R.cells ∧ slots + ms ≤ R.slots) :
    vx_Run p l e R s m args below meth c H locs cells slots mc ms g rest (Qc (Value.ref b :: As).toArray) XC free := by
  obtain ⟨⟨hrc, hrs, hfr, hlo, hws, hcw⟩, hcode, hini, hy, hlen, hl, hin, hse⟩ := cw
  have hK : vx_Back l R p e below s args y 3 8 (PreOf R mc ms Pc) (PostOf Qc mc ms free) (vx_Post XC mc ms free) := vx_backW (hh := hh) (bytes := bytes) (maxL := maxL) (ret := ret) hM hp.1 hrc hrs hfr hlo hws hcw (fun a' U hW => word_at hW (Or.inl (by first | rfl | simp [Cond.onTables, Cond.keeps, Cond.steady])) hini)
  obtain ⟨hx, hb, hml, ho, -⟩ := S
  obtain ⟨-, ⟨cellB, hcB, hoB, hclB⟩, hPc⟩ := hp
  intro T hT X
  rcases vx_callVX X hx (C := C) (hh := hh) (bytes := bytes) (maxL := maxL) (ret := ret) ho hl hin hse hcode hy hK (by rw [hT]; exact hcB) hoB hclB hg (hsize.trans hml.symm) (argsL := As) (rest := rest) (fun sig h => hn.trans (hlen sig h)) hstack hW (by rw [hb]; exact hdg)
    (fun vm₁ hW₁ => ⟨hf.1, hf.2, hPc (T.setVm vm₁) hT hW₁⟩) with ⟨v, vm₁, ⟨U', l2, c2, s2⟩, hW₁, X', ⟨g', mk, t, L, e1, e2, hq, h1, hL, h2, h3⟩, st⟩ | ⟨q, vm₁, ⟨U', l2, c2, s2⟩, hW₁, X', ⟨g', mk, t, L, E, ce, e1, e2, hq, hce, hcv, hcl, h1, hL, h2, h3⟩, st⟩
  · dsimp only [Pt.U, Pt.locs, Pt.cells, Pt.slots] at X' e1 e2 h1 h2 h3 st
    subst h1; subst h2; subst h3
    exact Or.inl ⟨v, (T.setVm vm₁).calling g' mk (Value.ref b :: As).toArray, t, U', L, hT, X', hL, e1, e2, hq, st⟩
  · dsimp only [Pt.U, Pt.locs, Pt.cells, Pt.slots] at X' e1 e2 h1 h2 h3 st hcl
    subst h1; subst h2; subst h3
    exact Or.inr ⟨q, (T.setVm vm₁).calling g' mk (Value.ref b :: As).toArray, t, U', L, E, ce, hT, X', hL, e1, e2, hq, hce, hcv, vx_cls hW₁ hcl, st⟩
theorem vx_runSX {hh : List (Nat × Nat × Nat × Nat)} (S : CallFix p m c cc nL s args Ts own) (hM : vx_Met l y ws rm Pc Qc XC mc ms free) (cw : vx_CSW R s args own index y bytes maxL ret hh ws rm mc ms n) (hp : PreS s H Pc As)
    (hg : g.method = m) (hn : As.length = n) (hsize : g.locals.size = nL) (hstack : g.stack = As.reverse ++ rest) (hW : 2 * g.monitorRoom + (rest.map fun v => v.category).sum ≤ 8) (hdg : decode cc g.pc = .ok (.invokestatic index, 3)) (hf : cells + mc ≤ R.cells ∧ slots + ms ≤ R.slots) :
    vx_Run p l e R s m args below meth c H locs cells slots mc ms g rest (Qc As.toArray) XC free := by
  obtain ⟨⟨hrc, hrs, hfr, hlo, hws, hcw⟩, hcode, hini, hy, hlen, hl, hstt⟩ := cw
  have hK : vx_Back l R p e below s args y 3 8 (PreOf R mc ms Pc) (PostOf Qc mc ms free) (vx_Post XC mc ms free) := vx_backW (hh := hh) (bytes := bytes) (maxL := maxL) (ret := ret) hM hp.1 hrc hrs hfr hlo hws hcw (fun a' U hW => word_at hW (Or.inl (by first | rfl | simp [Cond.onTables, Cond.keeps, Cond.steady])) hini)
  obtain ⟨hx, hb, hml, ho, -⟩ := S
  intro T hT X
  rcases vx_callSX X hx (hh := hh) (bytes := bytes) (maxL := maxL) (ret := ret) ho hl hstt hini hcode hy hK hg (hsize.trans hml.symm) (argsL := As) (rest := rest) (fun sig h => hn.trans (hlen sig h)) hstack hW (by rw [hb]; exact hdg)
    (fun vm₁ hW₁ => ⟨hf.1, hf.2, hp.2 (T.setVm vm₁) hT hW₁⟩) with ⟨v, vm₁, ⟨U', l2, c2, s2⟩, hW₁, X', ⟨g', mk, t, L, e1, e2, hq, h1, hL, h2, h3⟩, st⟩ | ⟨q, vm₁, ⟨U', l2, c2, s2⟩, hW₁, X', ⟨g', mk, t, L, E, ce, e1, e2, hq, hce, hcv, hcl, h1, hL, h2, h3⟩, st⟩
  · dsimp only [Pt.U, Pt.locs, Pt.cells, Pt.slots] at X' e1 e2 h1 h2 h3 st
    subst h1; subst h2; subst h3
    exact Or.inl ⟨v, (T.setVm vm₁).calling g' mk As.toArray, t, U', L, hT, X', hL, e1, e2, hq, st⟩
  · dsimp only [Pt.U, Pt.locs, Pt.cells, Pt.slots] at X' e1 e2 h1 h2 h3 st hcl
    subst h1; subst h2; subst h3
    exact Or.inr ⟨q, (T.setVm vm₁).calling g' mk As.toArray, t, U', L, E, ce, hT, X', hL, e1, e2, hq, hce, hcv, vx_cls hW₁ hcl, st⟩
end
end VXH
theorem vx_ofWH {l : Launch} {y : MethodName} {ws ws' : List Cond} {rm : Room} {Pc : Array Value → State → Prop} {Qc : Array Value → State → Outcome → State → Prop} {XC : String → State → State → Prop} {mc ms : Nat} {free : Addr → Prop} {cc : ByteArray} {maxL : Nat} {ret : Option FieldType} {hh : List (Nat × Nat × Nat × Nat)}
    (hy : plainName y.cls = true) (hw : ws = Cond.codeWith y cc maxL ret hh :: ws')
    (body : ∀ p e s m args below meth c s₁, BodyLoose p l y (headSpec ws rm) cc maxL ret e s m args below meth c s₁ → c.maxLocals = maxL → Pc args s →
      W p l e (headSpec ws rm).room s m args below meth c s.heap [] 0 0 (vx_MQ below Qc XC args s mc ms free) (entryFrame m args maxL)) : vx_Met l y ws rm Pc Qc XC mc ms free := by
  refine MetFree.of_bodyS (code := cc) (maxLocals := maxL) (ret := ret) hy ?_ ?_
  · intro args s m h hn
    obtain ⟨m9, meth, c, hn9, h1, h2, h3, h4, -, h5, h6, -⟩ := Cond.codeWith_spec (atoms_spec (ws := ws) h _ (by rw [hw]; exact List.mem_cons_self))
    cases hn.symm.trans hn9
    exact ⟨meth, c, h1, h2, h3, h4, h5, h6⟩
  · intro p e s m args below meth c s₁ B hml hP _
    have hh0 : s₁.heap = s.heap := by rw [B.state]; rfl
    obtain ⟨t, a1, o, b1, b2, b3⟩ := body p e s m args below meth c s₁ B hml hP s₁ hh0 (Stand.of_body B)
    exact ⟨t, o, a1, b1, b2, b3⟩
/-! ===== END ===== -/
end
section
/-! ===== BEGIN printed: names, fields, word lists, decode rows ===== -/
def RX0 : String := "BitNotation$Kind"
def TX0 : u_T := fun k => match k with
  | _ => ("", "", "", false)
def tyX0 : Nat → FieldType := fun k => match k with
  | _ => .int
abbrev wsX00 : List Cond := u_ws RX0 TX0 0
theorem nmX0 : ∀ a, a < 0 → ∀ b, b < 0 → a ≠ b → (TX0 a).2.1 ≠ (TX0 b).2.1 := by decide +kernel
theorem tyX0_ok : ∀ k, k < 0 → parseFieldDescriptor (TX0 k).2.2.1 = some (tyX0 k) := by decide +kernel
def RX1 : String := "BitNotation$Reader"
def TX1 : u_T := fun k => match k with
  | 0 => ("BitNotation$Reader", "heard", "LBitNotation$Row;", true)
  | 1 => ("BitNotation$Reader", "additionsKnown", "I", false)
  | 2 => ("BitNotation$Reader", "place", "I", false)
  | _ => ("BitNotation$Reader", "fault", "I", false)
def tyX1 : Nat → FieldType := fun k => match k with
  | 0 => .object "BitNotation$Row"
  | 1 => .int
  | 2 => .int
  | _ => .int
abbrev wsX10 : List Cond := u_ws RX1 TX1 4
theorem nmX1 : ∀ a, a < 4 → ∀ b, b < 4 → a ≠ b → (TX1 a).2.1 ≠ (TX1 b).2.1 := by decide +kernel
theorem tyX1_ok : ∀ k, k < 4 → parseFieldDescriptor (TX1 k).2.2.1 = some (tyX1 k) := by decide +kernel
abbrev cX1_init : ByteArray := prog_3_method_1_code
def yX1_init : MethodName := ⟨RX1, "<init>", "()V"⟩
abbrev cX1_walk : ByteArray := prog_3_method_2_code
def yX1_walk : MethodName := ⟨RX1, "walk", "(LBitNotation$Type;LBitNotation$Row;I)I"⟩
abbrev cX1_getValue : ByteArray := prog_3_method_3_code
def yX1_getValue : MethodName := ⟨RX1, "getValue", "(LBitNotation$Type;LBitNotation$Row;I)V"⟩
abbrev cX1_getSequence : ByteArray := prog_3_method_4_code
def yX1_getSequence : MethodName := ⟨RX1, "getSequence", "(LBitNotation$Type;LBitNotation$Row;I)V"⟩
abbrev cX1_nextParts : ByteArray := prog_3_method_5_code
def yX1_nextParts : MethodName := ⟨RX1, "nextParts", "(LBitNotation$Type;LBitNotation$Row;)I"⟩
abbrev cX1_getAdditions : ByteArray := prog_3_method_6_code
def yX1_getAdditions : MethodName := ⟨RX1, "getAdditions", "(LBitNotation$Type;ILBitNotation$Row;I)V"⟩
abbrev cX1_getAddition : ByteArray := prog_3_method_7_code
def yX1_getAddition : MethodName := ⟨RX1, "getAddition", "(LBitNotation$Type;ILBitNotation$Row;I)V"⟩
abbrev cX1_skip : ByteArray := prog_3_method_8_code
def yX1_skip : MethodName := ⟨RX1, "skip", "(ILBitNotation$Row;)V"⟩
abbrev cX1_next : ByteArray := prog_3_method_9_code
def yX1_next : MethodName := ⟨RX1, "next", "(LBitNotation$Row;II)I"⟩
def RX2 : String := "BitNotation$Row"
def TX2 : u_T := fun k => match k with
  | 0 => ("BitNotation$Row", "items", "[I", true)
  | _ => ("BitNotation$Row", "count", "I", false)
def tyX2 : Nat → FieldType := fun k => match k with
  | 0 => .array .int
  | _ => .int
abbrev wsX20 : List Cond := u_ws RX2 TX2 2
theorem nmX2 : ∀ a, a < 2 → ∀ b, b < 2 → a ≠ b → (TX2 a).2.1 ≠ (TX2 b).2.1 := by decide +kernel
theorem tyX2_ok : ∀ k, k < 2 → parseFieldDescriptor (TX2 k).2.2.1 = some (tyX2 k) := by decide +kernel
abbrev cX2_init : ByteArray := prog_4_method_1_code
def yX2_init : MethodName := ⟨RX2, "<init>", "(I)V"⟩
abbrev cX2_size : ByteArray := prog_4_method_2_code
def yX2_size : MethodName := ⟨RX2, "size", "()I"⟩
abbrev cX2_isFull : ByteArray := prog_4_method_3_code
def yX2_isFull : MethodName := ⟨RX2, "isFull", "()Z"⟩
abbrev cX2_has : ByteArray := prog_4_method_4_code
def yX2_has : MethodName := ⟨RX2, "has", "(I)Z"⟩
abbrev cX2_at : ByteArray := prog_4_method_5_code
def yX2_at : MethodName := ⟨RX2, "at", "(I)I"⟩
abbrev cX2_append : ByteArray := prog_4_method_6_code
def yX2_append : MethodName := ⟨RX2, "append", "(I)V"⟩
abbrev cX2_replace : ByteArray := prog_4_method_7_code
def yX2_replace : MethodName := ⟨RX2, "replace", "(II)V"⟩
abbrev cX2_keepFirst : ByteArray := prog_4_method_8_code
def yX2_keepFirst : MethodName := ⟨RX2, "keepFirst", "(I)V"⟩
abbrev cX2_becomeCopyOf : ByteArray := prog_4_method_9_code
def yX2_becomeCopyOf : MethodName := ⟨RX2, "becomeCopyOf", "(LBitNotation$Row;)V"⟩
def RX3 : String := "BitNotation$Type"
def TX3 : u_T := fun k => match k with
  | 0 => ("BitNotation$Type", "kind", "LBitNotation$Kind;", true)
  | 1 => ("BitNotation$Type", "least", "I", true)
  | 2 => ("BitNotation$Type", "greatest", "I", true)
  | 3 => ("BitNotation$Type", "width", "I", true)
  | 4 => ("BitNotation$Type", "parts", "LBitNotation$TypeRow;", true)
  | 5 => ("BitNotation$Type", "optional", "I", true)
  | 6 => ("BitNotation$Type", "additions", "LBitNotation$TypeRow;", true)
  | 7 => ("BitNotation$Type", "fewestBits", "I", false)
  | 8 => ("BitNotation$Type", "mostBits", "I", false)
  | _ => ("BitNotation$Type", "mostNumbers", "I", false)
def tyX3 : Nat → FieldType := fun k => match k with
  | 0 => .object "BitNotation$Kind"
  | 1 => .int
  | 2 => .int
  | 3 => .int
  | 4 => .object "BitNotation$TypeRow"
  | 5 => .int
  | 6 => .object "BitNotation$TypeRow"
  | 7 => .int
  | 8 => .int
  | _ => .int
abbrev wsX30 : List Cond := u_ws RX3 TX3 10
theorem nmX3 : ∀ a, a < 10 → ∀ b, b < 10 → a ≠ b → (TX3 a).2.1 ≠ (TX3 b).2.1 := by decide +kernel
theorem tyX3_ok : ∀ k, k < 10 → parseFieldDescriptor (TX3 k).2.2.1 = some (tyX3 k) := by decide +kernel
abbrev cX3_init : ByteArray := prog_5_method_1_code
def yX3_init : MethodName := ⟨RX3, "<init>", "(LBitNotation$Kind;IILBitNotation$TypeRow;I)V"⟩
abbrev cX3_isOptional : ByteArray := prog_5_method_2_code
def yX3_isOptional : MethodName := ⟨RX3, "isOptional", "(I)Z"⟩
abbrev cX3_measure : ByteArray := prog_5_method_3_code
def yX3_measure : MethodName := ⟨RX3, "measure", "()Z"⟩
abbrev cX3_measureThings : ByteArray := prog_5_method_4_code
def yX3_measureThings : MethodName := ⟨RX3, "measureThings", "()V"⟩
abbrev cX3_measureChoices : ByteArray := prog_5_method_5_code
def yX3_measureChoices : MethodName := ⟨RX3, "measureChoices", "()V"⟩
abbrev cX3_measureParts : ByteArray := prog_5_method_6_code
def yX3_measureParts : MethodName := ⟨RX3, "measureParts", "()V"⟩
abbrev cX3_measureAdditions : ByteArray := prog_5_method_7_code
def yX3_measureAdditions : MethodName := ⟨RX3, "measureAdditions", "()V"⟩
def RX4 : String := "BitNotation$TypeRow"
def TX4 : u_T := fun k => match k with
  | 0 => ("BitNotation$TypeRow", "items", "[LBitNotation$Type;", true)
  | _ => ("BitNotation$TypeRow", "count", "I", false)
def tyX4 : Nat → FieldType := fun k => match k with
  | 0 => .array (.object "BitNotation$Type")
  | _ => .int
abbrev wsX40 : List Cond := u_ws RX4 TX4 2
theorem nmX4 : ∀ a, a < 2 → ∀ b, b < 2 → a ≠ b → (TX4 a).2.1 ≠ (TX4 b).2.1 := by decide +kernel
theorem tyX4_ok : ∀ k, k < 2 → parseFieldDescriptor (TX4 k).2.2.1 = some (tyX4 k) := by decide +kernel
abbrev cX4_init : ByteArray := prog_6_method_1_code
def yX4_init : MethodName := ⟨RX4, "<init>", "(I)V"⟩
abbrev cX4_size : ByteArray := prog_6_method_2_code
def yX4_size : MethodName := ⟨RX4, "size", "()I"⟩
abbrev cX4_isFull : ByteArray := prog_6_method_3_code
def yX4_isFull : MethodName := ⟨RX4, "isFull", "()Z"⟩
abbrev cX4_at : ByteArray := prog_6_method_4_code
def yX4_at : MethodName := ⟨RX4, "at", "(I)LBitNotation$Type;"⟩
abbrev cX4_append : ByteArray := prog_6_method_5_code
def yX4_append : MethodName := ⟨RX4, "append", "(LBitNotation$Type;)V"⟩
abbrev cX4_dropLast : ByteArray := prog_6_method_6_code
def yX4_dropLast : MethodName := ⟨RX4, "dropLast", "()V"⟩
abbrev cX4_measureAll : ByteArray := prog_6_method_7_code
def yX4_measureAll : MethodName := ⟨RX4, "measureAll", "()Z"⟩
def RX5 : String := "BitNotation$Writer"
def TX5 : u_T := fun k => match k with
  | 0 => ("BitNotation$Writer", "written", "LBitNotation$Row;", true)
  | 1 => ("BitNotation$Writer", "place", "I", false)
  | _ => ("BitNotation$Writer", "wrong", "I", false)
def tyX5 : Nat → FieldType := fun k => match k with
  | 0 => .object "BitNotation$Row"
  | 1 => .int
  | _ => .int
abbrev wsX50 : List Cond := u_ws RX5 TX5 3
theorem nmX5 : ∀ a, a < 3 → ∀ b, b < 3 → a ≠ b → (TX5 a).2.1 ≠ (TX5 b).2.1 := by decide +kernel
theorem tyX5_ok : ∀ k, k < 3 → parseFieldDescriptor (TX5 k).2.2.1 = some (tyX5 k) := by decide +kernel
abbrev cX5_init : ByteArray := prog_7_method_1_code
def yX5_init : MethodName := ⟨RX5, "<init>", "()V"⟩
abbrev cX5_walk : ByteArray := prog_7_method_2_code
def yX5_walk : MethodName := ⟨RX5, "walk", "(LBitNotation$Type;LBitNotation$Row;)I"⟩
abbrev cX5_putValue : ByteArray := prog_7_method_3_code
def yX5_putValue : MethodName := ⟨RX5, "putValue", "(LBitNotation$Type;LBitNotation$Row;I)V"⟩
abbrev cX5_putSequence : ByteArray := prog_7_method_4_code
def yX5_putSequence : MethodName := ⟨RX5, "putSequence", "(LBitNotation$Type;LBitNotation$Row;I)V"⟩
abbrev cX5_nextParts : ByteArray := prog_7_method_5_code
def yX5_nextParts : MethodName := ⟨RX5, "nextParts", "(LBitNotation$Type;LBitNotation$Row;)I"⟩
abbrev cX5_putAddition : ByteArray := prog_7_method_6_code
def yX5_putAddition : MethodName := ⟨RX5, "putAddition", "(LBitNotation$Type;LBitNotation$Row;I)V"⟩
abbrev cX5_next : ByteArray := prog_7_method_7_code
def yX5_next : MethodName := ⟨RX5, "next", "(LBitNotation$Row;II)I"⟩
abbrev cX5_put : ByteArray := prog_7_method_8_code
def yX5_put : MethodName := ⟨RX5, "put", "(II)V"⟩
def RX6 : String := "BitNotation"
def TX6 : u_T := fun k => match k with
  | 0 => ("BitNotation", "notation", "LBitNotation$TypeRow;", true)
  | 1 => ("BitNotation", "tale", "LBitNotation$Row;", true)
  | 2 => ("BitNotation", "message", "LBitNotation$Row;", true)
  | 3 => ("BitNotation", "writer", "LBitNotation$Writer;", true)
  | 4 => ("BitNotation", "reader", "LBitNotation$Reader;", true)
  | 5 => ("BitNotation", "draft", "LBitNotation$TypeRow;", false)
  | _ => ("BitNotation", "draftOptional", "I", false)
def tyX6 : Nat → FieldType := fun k => match k with
  | 0 => .object "BitNotation$TypeRow"
  | 1 => .object "BitNotation$Row"
  | 2 => .object "BitNotation$Row"
  | 3 => .object "BitNotation$Writer"
  | 4 => .object "BitNotation$Reader"
  | 5 => .object "BitNotation$TypeRow"
  | _ => .int
abbrev wsX60 : List Cond := u_ws RX6 TX6 7
theorem nmX6 : ∀ a, a < 7 → ∀ b, b < 7 → a ≠ b → (TX6 a).2.1 ≠ (TX6 b).2.1 := by decide +kernel
theorem tyX6_ok : ∀ k, k < 7 → parseFieldDescriptor (TX6 k).2.2.1 = some (tyX6 k) := by decide +kernel
abbrev cX6_init : ByteArray := prog_1_method_1_code
def yX6_init : MethodName := ⟨RX6, "<init>", "()V"⟩
abbrev cX6_addNumber : ByteArray := prog_1_method_2_code
def yX6_addNumber : MethodName := ⟨RX6, "addNumber", "(II)I"⟩
abbrev cX6_addList : ByteArray := prog_1_method_3_code
def yX6_addList : MethodName := ⟨RX6, "addList", "(III)I"⟩
abbrev cX6_part : ByteArray := prog_1_method_4_code
def yX6_part : MethodName := ⟨RX6, "part", "(IZ)I"⟩
abbrev cX6_addSequence : ByteArray := prog_1_method_5_code
def yX6_addSequence : MethodName := ⟨RX6, "addSequence", "()I"⟩
abbrev cX6_addChoice : ByteArray := prog_1_method_6_code
def yX6_addChoice : MethodName := ⟨RX6, "addChoice", "()I"⟩
abbrev cX6_extend : ByteArray := prog_1_method_7_code
def yX6_extend : MethodName := ⟨RX6, "extend", "(II)I"⟩
abbrev cX6_types : ByteArray := prog_1_method_8_code
def yX6_types : MethodName := ⟨RX6, "types", "()I"⟩
abbrev cX6_leastBits : ByteArray := prog_1_method_9_code
def yX6_leastBits : MethodName := ⟨RX6, "leastBits", "(I)I"⟩
abbrev cX6_mostBits : ByteArray := prog_1_method_10_code
def yX6_mostBits : MethodName := ⟨RX6, "mostBits", "(I)I"⟩
abbrev cX6_tell : ByteArray := prog_1_method_11_code
def yX6_tell : MethodName := ⟨RX6, "tell", "(I)I"⟩
abbrev cX6_forget : ByteArray := prog_1_method_12_code
def yX6_forget : MethodName := ⟨RX6, "forget", "()I"⟩
abbrev cX6_length : ByteArray := prog_1_method_13_code
def yX6_length : MethodName := ⟨RX6, "length", "()I"⟩
abbrev cX6_told : ByteArray := prog_1_method_14_code
def yX6_told : MethodName := ⟨RX6, "told", "(I)I"⟩
abbrev cX6_wrongAt : ByteArray := prog_1_method_15_code
def yX6_wrongAt : MethodName := ⟨RX6, "wrongAt", "(I)I"⟩
abbrev cX6_write : ByteArray := prog_1_method_16_code
def yX6_write : MethodName := ⟨RX6, "write", "(I)I"⟩
abbrev cX6_bits : ByteArray := prog_1_method_17_code
def yX6_bits : MethodName := ⟨RX6, "bits", "()I"⟩
abbrev cX6_bit : ByteArray := prog_1_method_18_code
def yX6_bit : MethodName := ⟨RX6, "bit", "(I)I"⟩
abbrev cX6_flip : ByteArray := prog_1_method_19_code
def yX6_flip : MethodName := ⟨RX6, "flip", "(I)I"⟩
abbrev cX6_cut : ByteArray := prog_1_method_20_code
def yX6_cut : MethodName := ⟨RX6, "cut", "(I)I"⟩
abbrev cX6_read : ByteArray := prog_1_method_21_code
def yX6_read : MethodName := ⟨RX6, "read", "(II)I"⟩
abbrev cX6_faultAt : ByteArray := prog_1_method_22_code
def yX6_faultAt : MethodName := ⟨RX6, "faultAt", "(II)I"⟩
abbrev cX6_isOutside : ByteArray := prog_1_method_23_code
def yX6_isOutside : MethodName := ⟨RX6, "isOutside", "(III)Z"⟩
abbrev cX6_typeNumbered : ByteArray := prog_1_method_24_code
def yX6_typeNumbered : MethodName := ⟨RX6, "typeNumbered", "(I)LBitNotation$Type;"⟩
abbrev cX6_keep : ByteArray := prog_1_method_25_code
def yX6_keep : MethodName := ⟨RX6, "keep", "(LBitNotation$Type;)I"⟩
abbrev cX6_keepDraft : ByteArray := prog_1_method_26_code
def yX6_keepDraft : MethodName := ⟨RX6, "keepDraft", "(LBitNotation$Type;)I"⟩
abbrev cX6_placeOfFault : ByteArray := prog_1_method_27_code
def yX6_placeOfFault : MethodName := ⟨RX6, "placeOfFault", "(II)I"⟩
abbrev cX6_widthFor : ByteArray := prog_1_method_28_code
def yX6_widthFor : MethodName := ⟨RX6, "widthFor", "(I)I"⟩
def RX7 : String := "BitNotationModel"
def TX7 : u_T := fun k => match k with
  | 0 => ("BitNotationModel", "refusal", "I", false)
  | 1 => ("BitNotationModel", "types", "I", false)
  | 2 => ("BitNotationModel", "kinds", "[I", true)
  | 3 => ("BitNotationModel", "leasts", "[I", true)
  | 4 => ("BitNotationModel", "greatests", "[I", true)
  | 5 => ("BitNotationModel", "parts", "[I", true)
  | 6 => ("BitNotationModel", "counts", "[I", true)
  | 7 => ("BitNotationModel", "additions", "[I", true)
  | 8 => ("BitNotationModel", "added", "[I", true)
  | 9 => ("BitNotationModel", "low", "[I", true)
  | 10 => ("BitNotationModel", "high", "[I", true)
  | 11 => ("BitNotationModel", "longest", "[I", true)
  | 12 => ("BitNotationModel", "drafted", "I", false)
  | 13 => ("BitNotationModel", "draft", "[I", true)
  | 14 => ("BitNotationModel", "told", "I", false)
  | 15 => ("BitNotationModel", "tale", "[I", true)
  | 16 => ("BitNotationModel", "written", "I", false)
  | 17 => ("BitNotationModel", "row", "[I", true)
  | 18 => ("BitNotationModel", "found", "I", false)
  | 19 => ("BitNotationModel", "read", "[I", true)
  | 20 => ("BitNotationModel", "depth", "I", false)
  | 21 => ("BitNotationModel", "piled", "[I", true)
  | 22 => ("BitNotationModel", "steps", "[I", true)
  | 23 => ("BitNotationModel", "left", "[I", true)
  | 24 => ("BitNotationModel", "more", "[I", true)
  | 25 => ("BitNotationModel", "marks", "[I", true)
  | 26 => ("BitNotationModel", "lengths", "[I", true)
  | 27 => ("BitNotationModel", "slots", "[I", true)
  | 28 => ("BitNotationModel", "place", "I", false)
  | _ => ("BitNotationModel", "fault", "I", false)
def tyX7 : Nat → FieldType := fun k => match k with
  | 0 => .int
  | 1 => .int
  | 2 => .array .int
  | 3 => .array .int
  | 4 => .array .int
  | 5 => .array .int
  | 6 => .array .int
  | 7 => .array .int
  | 8 => .array .int
  | 9 => .array .int
  | 10 => .array .int
  | 11 => .array .int
  | 12 => .int
  | 13 => .array .int
  | 14 => .int
  | 15 => .array .int
  | 16 => .int
  | 17 => .array .int
  | 18 => .int
  | 19 => .array .int
  | 20 => .int
  | 21 => .array .int
  | 22 => .array .int
  | 23 => .array .int
  | 24 => .array .int
  | 25 => .array .int
  | 26 => .array .int
  | 27 => .array .int
  | 28 => .int
  | _ => .int
abbrev wsX70 : List Cond := u_ws RX7 TX7 30
theorem nmX7 : ∀ a, a < 30 → ∀ b, b < 30 → a ≠ b → (TX7 a).2.1 ≠ (TX7 b).2.1 := by decide +kernel
theorem tyX7_ok : ∀ k, k < 30 → parseFieldDescriptor (TX7 k).2.2.1 = some (tyX7 k) := by decide +kernel
abbrev cX7_init : ByteArray := prog_9_method_1_code
def yX7_init : MethodName := ⟨RX7, "<init>", "()V"⟩
abbrev cX7_thrown : ByteArray := prog_9_method_2_code
def yX7_thrown : MethodName := ⟨RX7, "thrown", "()I"⟩
abbrev cX7_refused : ByteArray := prog_9_method_3_code
def yX7_refused : MethodName := ⟨RX7, "refused", "(I)Z"⟩
abbrev cX7_fine : ByteArray := prog_9_method_4_code
def yX7_fine : MethodName := ⟨RX7, "fine", "(I)I"⟩
abbrev cX7_in : ByteArray := prog_9_method_5_code
def yX7_in : MethodName := ⟨RX7, "in", "(III)Z"⟩
abbrev cX7_isType : ByteArray := prog_9_method_6_code
def yX7_isType : MethodName := ⟨RX7, "isType", "(I)Z"⟩
abbrev cX7_width : ByteArray := prog_9_method_7_code
def yX7_width : MethodName := ⟨RX7, "width", "(I)I"⟩
abbrev cX7_widthOf : ByteArray := prog_9_method_8_code
def yX7_widthOf : MethodName := ⟨RX7, "widthOf", "(I)I"⟩
abbrev cX7_partOf : ByteArray := prog_9_method_9_code
def yX7_partOf : MethodName := ⟨RX7, "partOf", "(II)I"⟩
abbrev cX7_isOptional : ByteArray := prog_9_method_10_code
def yX7_isOptional : MethodName := ⟨RX7, "isOptional", "(II)Z"⟩
abbrev cX7_optionals : ByteArray := prog_9_method_11_code
def yX7_optionals : MethodName := ⟨RX7, "optionals", "(I)I"⟩
abbrev cX7_measureSequence : ByteArray := prog_9_method_12_code
def yX7_measureSequence : MethodName := ⟨RX7, "measureSequence", "(I)V"⟩
abbrev cX7_measureChoice : ByteArray := prog_9_method_13_code
def yX7_measureChoice : MethodName := ⟨RX7, "measureChoice", "(I)V"⟩
abbrev cX7_measure : ByteArray := prog_9_method_14_code
def yX7_measure : MethodName := ⟨RX7, "measure", "(I)Z"⟩
abbrev cX7_lay : ByteArray := prog_9_method_15_code
def yX7_lay : MethodName := ⟨RX7, "lay", "(IIII)V"⟩
abbrev cX7_addNumber : ByteArray := prog_9_method_16_code
def yX7_addNumber : MethodName := ⟨RX7, "addNumber", "(II)I"⟩
abbrev cX7_addList : ByteArray := prog_9_method_17_code
def yX7_addList : MethodName := ⟨RX7, "addList", "(III)I"⟩
abbrev cX7_part : ByteArray := prog_9_method_18_code
def yX7_part : MethodName := ⟨RX7, "part", "(IZ)I"⟩
abbrev cX7_addDraft : ByteArray := prog_9_method_19_code
def yX7_addDraft : MethodName := ⟨RX7, "addDraft", "(I)I"⟩
abbrev cX7_addSequence : ByteArray := prog_9_method_20_code
def yX7_addSequence : MethodName := ⟨RX7, "addSequence", "()I"⟩
abbrev cX7_addChoice : ByteArray := prog_9_method_21_code
def yX7_addChoice : MethodName := ⟨RX7, "addChoice", "()I"⟩
abbrev cX7_measureAll : ByteArray := prog_9_method_22_code
def yX7_measureAll : MethodName := ⟨RX7, "measureAll", "()Z"⟩
abbrev cX7_extend : ByteArray := prog_9_method_23_code
def yX7_extend : MethodName := ⟨RX7, "extend", "(II)I"⟩
abbrev cX7_types : ByteArray := prog_9_method_24_code
def yX7_types : MethodName := ⟨RX7, "types", "()I"⟩
abbrev cX7_noType : ByteArray := prog_9_method_25_code
def yX7_noType : MethodName := ⟨RX7, "noType", "(I)Z"⟩
abbrev cX7_leastBits : ByteArray := prog_9_method_26_code
def yX7_leastBits : MethodName := ⟨RX7, "leastBits", "(I)I"⟩
abbrev cX7_mostBits : ByteArray := prog_9_method_27_code
def yX7_mostBits : MethodName := ⟨RX7, "mostBits", "(I)I"⟩
abbrev cX7_tell : ByteArray := prog_9_method_28_code
def yX7_tell : MethodName := ⟨RX7, "tell", "(I)I"⟩
abbrev cX7_forget : ByteArray := prog_9_method_29_code
def yX7_forget : MethodName := ⟨RX7, "forget", "()I"⟩
abbrev cX7_length : ByteArray := prog_9_method_30_code
def yX7_length : MethodName := ⟨RX7, "length", "()I"⟩
abbrev cX7_told : ByteArray := prog_9_method_31_code
def yX7_told : MethodName := ⟨RX7, "told", "(I)I"⟩
abbrev cX7_push : ByteArray := prog_9_method_32_code
def yX7_push : MethodName := ⟨RX7, "push", "(I)V"⟩
abbrev cX7_emit : ByteArray := prog_9_method_33_code
def yX7_emit : MethodName := ⟨RX7, "emit", "(IIZ)V"⟩
abbrev cX7_isWrong : ByteArray := prog_9_method_34_code
def yX7_isWrong : MethodName := ⟨RX7, "isWrong", "(II)Z"⟩
abbrev cX7_goOverTale : ByteArray := prog_9_method_35_code
def yX7_goOverTale : MethodName := ⟨RX7, "goOverTale", "(Z)Z"⟩
abbrev cX7_headOfTale : ByteArray := prog_9_method_36_code
def yX7_headOfTale : MethodName := ⟨RX7, "headOfTale", "(IIZ)Z"⟩
abbrev cX7_sequenceOfTale : ByteArray := prog_9_method_37_code
def yX7_sequenceOfTale : MethodName := ⟨RX7, "sequenceOfTale", "(IIIZ)Z"⟩
abbrev cX7_walk : ByteArray := prog_9_method_38_code
def yX7_walk : MethodName := ⟨RX7, "walk", "(IZ)I"⟩
abbrev cX7_wrongAt : ByteArray := prog_9_method_39_code
def yX7_wrongAt : MethodName := ⟨RX7, "wrongAt", "(I)I"⟩
abbrev cX7_write : ByteArray := prog_9_method_40_code
def yX7_write : MethodName := ⟨RX7, "write", "(I)I"⟩
abbrev cX7_bits : ByteArray := prog_9_method_41_code
def yX7_bits : MethodName := ⟨RX7, "bits", "()I"⟩
abbrev cX7_noBit : ByteArray := prog_9_method_42_code
def yX7_noBit : MethodName := ⟨RX7, "noBit", "(I)Z"⟩
abbrev cX7_bit : ByteArray := prog_9_method_43_code
def yX7_bit : MethodName := ⟨RX7, "bit", "(I)I"⟩
abbrev cX7_flip : ByteArray := prog_9_method_44_code
def yX7_flip : MethodName := ⟨RX7, "flip", "(I)I"⟩
abbrev cX7_cut : ByteArray := prog_9_method_45_code
def yX7_cut : MethodName := ⟨RX7, "cut", "(I)I"⟩
abbrev cX7_take : ByteArray := prog_9_method_46_code
def yX7_take : MethodName := ⟨RX7, "take", "(I)I"⟩
abbrev cX7_takeBelow : ByteArray := prog_9_method_47_code
def yX7_takeBelow : MethodName := ⟨RX7, "takeBelow", "(II)I"⟩
abbrev cX7_note : ByteArray := prog_9_method_48_code
def yX7_note : MethodName := ⟨RX7, "note", "(I)V"⟩
abbrev cX7_goOverBits : ByteArray := prog_9_method_49_code
def yX7_goOverBits : MethodName := ⟨RX7, "goOverBits", "(I)V"⟩
abbrev cX7_headOfBits : ByteArray := prog_9_method_50_code
def yX7_headOfBits : MethodName := ⟨RX7, "headOfBits", "(II)V"⟩
abbrev cX7_sequenceOfBits : ByteArray := prog_9_method_51_code
def yX7_sequenceOfBits : MethodName := ⟨RX7, "sequenceOfBits", "(IIII)V"⟩
abbrev cX7_skip : ByteArray := prog_9_method_52_code
def yX7_skip : MethodName := ⟨RX7, "skip", "(I)V"⟩
abbrev cX7_walkBits : ByteArray := prog_9_method_53_code
def yX7_walkBits : MethodName := ⟨RX7, "walkBits", "(II)I"⟩
abbrev cX7_read : ByteArray := prog_9_method_54_code
def yX7_read : MethodName := ⟨RX7, "read", "(II)I"⟩
abbrev cX7_faultAt : ByteArray := prog_9_method_55_code
def yX7_faultAt : MethodName := ⟨RX7, "faultAt", "(II)I"⟩
def RJx29ce0 : String := "java/lang/Enum"
def TJx29ce0 : u_T := fun k => match k with
  | _ => ("", "", "", false)
def tyJx29ce0 : Nat → FieldType := fun k => match k with
  | _ => .int
abbrev wsJx29ce00 : List Cond := u_ws RJx29ce0 TJx29ce0 0
theorem nmJx29ce0 : ∀ a, a < 0 → ∀ b, b < 0 → a ≠ b → (TJx29ce0 a).2.1 ≠ (TJx29ce0 b).2.1 := by decide +kernel
theorem tyJx29ce0_ok : ∀ k, k < 0 → parseFieldDescriptor (TJx29ce0 k).2.2.1 = some (tyJx29ce0 k) := by decide +kernel
def RJ9 : String := "java/lang/Math"
def TJ9 : u_T := fun k => match k with
  | _ => ("", "", "", false)
def tyJ9 : Nat → FieldType := fun k => match k with
  | _ => .int
abbrev wsJ90 : List Cond := u_ws RJ9 TJ9 0
theorem nmJ9 : ∀ a, a < 0 → ∀ b, b < 0 → a ≠ b → (TJ9 a).2.1 ≠ (TJ9 b).2.1 := by decide +kernel
theorem tyJ9_ok : ∀ k, k < 0 → parseFieldDescriptor (TJ9 k).2.2.1 = some (tyJ9 k) := by decide +kernel
abbrev cJ9_max_7cf53 : ByteArray := prog_15_method_65_code
def yJ9_max_7cf53 : MethodName := ⟨RJ9, "max", "(II)I"⟩
abbrev cJ9_min_7cf53 : ByteArray := prog_15_method_69_code
def yJ9_min_7cf53 : MethodName := ⟨RJ9, "min", "(II)I"⟩
def RJ0 : String := "java/lang/String"
def TJ0 : u_T := fun k => match k with
  | _ => ("", "", "", false)
def tyJ0 : Nat → FieldType := fun k => match k with
  | _ => .int
abbrev wsJ00 : List Cond := u_ws RJ0 TJ0 0
theorem nmJ0 : ∀ a, a < 0 → ∀ b, b < 0 → a ≠ b → (TJ0 a).2.1 ≠ (TJ0 b).2.1 := by decide +kernel
theorem tyJ0_ok : ∀ k, k < 0 → parseFieldDescriptor (TJ0 k).2.2.1 = some (tyJ0 k) := by decide +kernel
def RL : String := "BitNotationLaw"
abbrev cL_addNumber : ByteArray := method_3_code
def yL_addNumber : MethodName := ⟨RL, "addNumber", "(LBitNotation;II[J)I"⟩
abbrev cL_addList : ByteArray := method_4_code
def yL_addList : MethodName := ⟨RL, "addList", "(LBitNotation;III[J)I"⟩
abbrev cL_part : ByteArray := method_5_code
def yL_part : MethodName := ⟨RL, "part", "(LBitNotation;IZ[J)I"⟩
abbrev cL_addSequence : ByteArray := method_6_code
def yL_addSequence : MethodName := ⟨RL, "addSequence", "(LBitNotation;[J)I"⟩
abbrev cL_addChoice : ByteArray := method_7_code
def yL_addChoice : MethodName := ⟨RL, "addChoice", "(LBitNotation;[J)I"⟩
abbrev cL_extend : ByteArray := method_8_code
def yL_extend : MethodName := ⟨RL, "extend", "(LBitNotation;II[J)I"⟩
abbrev cL_leastBits : ByteArray := method_9_code
def yL_leastBits : MethodName := ⟨RL, "leastBits", "(LBitNotation;I[J)I"⟩
abbrev cL_mostBits : ByteArray := method_10_code
def yL_mostBits : MethodName := ⟨RL, "mostBits", "(LBitNotation;I[J)I"⟩
abbrev cL_tell : ByteArray := method_11_code
def yL_tell : MethodName := ⟨RL, "tell", "(LBitNotation;I[J)I"⟩
abbrev cL_told : ByteArray := method_12_code
def yL_told : MethodName := ⟨RL, "told", "(LBitNotation;I[J)I"⟩
abbrev cL_wrongAt : ByteArray := method_13_code
def yL_wrongAt : MethodName := ⟨RL, "wrongAt", "(LBitNotation;I[J)I"⟩
abbrev cL_write : ByteArray := method_14_code
def yL_write : MethodName := ⟨RL, "write", "(LBitNotation;I[J)I"⟩
abbrev cL_bit : ByteArray := method_15_code
def yL_bit : MethodName := ⟨RL, "bit", "(LBitNotation;I[J)I"⟩
abbrev cL_flip : ByteArray := method_16_code
def yL_flip : MethodName := ⟨RL, "flip", "(LBitNotation;I[J)I"⟩
abbrev cL_cut : ByteArray := method_17_code
def yL_cut : MethodName := ⟨RL, "cut", "(LBitNotation;I[J)I"⟩
abbrev cL_read : ByteArray := method_18_code
def yL_read : MethodName := ⟨RL, "read", "(LBitNotation;II[J)I"⟩
abbrev cL_faultAt : ByteArray := method_19_code
def yL_faultAt : MethodName := ⟨RL, "faultAt", "(LBitNotation;II[J)I"⟩
abbrev cL_law : ByteArray := code
def yL_law : MethodName := ⟨RL, "law", "([I)Z"⟩
abbrev vwCl : List vw_C := [(RX1, TX1, 4), (RX2, TX2, 2), (RX3, TX3, 10), (RX4, TX4, 2), (RX5, TX5, 3), (RX6, TX6, 7), (RX7, TX7, 30)]
/-! the good words of the tables: every method of ours asks for them all -/
def wsA : List Cond := lw_tbl.filter goodWord
theorem wsA_sel {w : Cond} (h : w ∈ k2_sels lw_privs) (hg : goodWord w = true) : w ∈ wsA := List.mem_filter.mpr ⟨List.mem_append_left _ h, hg⟩
theorem wsA_1 {w : Cond} (h : w ∈ tables_1_1) (hg : goodWord w = true) : w ∈ wsA := List.mem_filter.mpr ⟨List.mem_append_right _ (List.mem_append_left _ h), hg⟩
theorem wsA_2 {w : Cond} (h : w ∈ tables_1_2) (hg : goodWord w = true) : w ∈ wsA := List.mem_filter.mpr ⟨List.mem_append_right _ (List.mem_append_right _ (List.mem_append_left _ h)), hg⟩
theorem wsA_3 {w : Cond} (h : w ∈ tables_1_3) (hg : goodWord w = true) : w ∈ wsA := List.mem_filter.mpr ⟨List.mem_append_right _ (List.mem_append_right _ (List.mem_append_right _ (List.mem_append_left _ h))), hg⟩
theorem wsA_4 {w : Cond} (h : w ∈ tables_1_4) (hg : goodWord w = true) : w ∈ wsA := List.mem_filter.mpr ⟨List.mem_append_right _ (List.mem_append_right _ (List.mem_append_right _ (List.mem_append_right _ h))), hg⟩
theorem wsA_tbl : ∀ w ∈ wsA, w ∈ lw_tbl := fun w h => (List.mem_filter.mp h).1
theorem wsA_good {w : Cond} (h : w ∈ wsA) : (w.onTables && w.keeps) = true ∨ ∃ ty, w = .arrayClass ty := good_of_word (List.mem_filter.mp h).2
theorem wt_0_0 : Cond.selects "java/lang/Throwable" ⟨"java/lang/Throwable", "fillInStackTrace", "(I)Ljava/lang/Throwable;"⟩ ⟨"java/lang/Throwable", "fillInStackTrace", "(I)Ljava/lang/Throwable;"⟩ ∈ wsA := wsA_sel (List.mem_of_getElem? (i := 0) rfl) rfl
theorem wt_0_1 : Cond.selects "BitNotation" ⟨"BitNotation", "keep", "(LBitNotation$Type;)I"⟩ ⟨"BitNotation", "keep", "(LBitNotation$Type;)I"⟩ ∈ wsA := wsA_sel (List.mem_of_getElem? (i := 1) rfl) rfl
theorem wt_0_2 : Cond.selects "BitNotation$Type" ⟨"BitNotation$Type", "measureThings", "()V"⟩ ⟨"BitNotation$Type", "measureThings", "()V"⟩ ∈ wsA := wsA_sel (List.mem_of_getElem? (i := 2) rfl) rfl
theorem wt_0_3 : Cond.selects "BitNotation$Type" ⟨"BitNotation$Type", "measureChoices", "()V"⟩ ⟨"BitNotation$Type", "measureChoices", "()V"⟩ ∈ wsA := wsA_sel (List.mem_of_getElem? (i := 3) rfl) rfl
theorem wt_0_4 : Cond.selects "BitNotation$Type" ⟨"BitNotation$Type", "measureParts", "()V"⟩ ⟨"BitNotation$Type", "measureParts", "()V"⟩ ∈ wsA := wsA_sel (List.mem_of_getElem? (i := 4) rfl) rfl
theorem wt_0_5 : Cond.selects "BitNotation$Type" ⟨"BitNotation$Type", "measureAdditions", "()V"⟩ ⟨"BitNotation$Type", "measureAdditions", "()V"⟩ ∈ wsA := wsA_sel (List.mem_of_getElem? (i := 5) rfl) rfl
theorem wt_0_6 : Cond.selects "BitNotation" ⟨"BitNotation", "typeNumbered", "(I)LBitNotation$Type;"⟩ ⟨"BitNotation", "typeNumbered", "(I)LBitNotation$Type;"⟩ ∈ wsA := wsA_sel (List.mem_of_getElem? (i := 6) rfl) rfl
theorem wt_0_7 : Cond.selects "BitNotation" ⟨"BitNotation", "keepDraft", "(LBitNotation$Type;)I"⟩ ⟨"BitNotation", "keepDraft", "(LBitNotation$Type;)I"⟩ ∈ wsA := wsA_sel (List.mem_of_getElem? (i := 7) rfl) rfl
theorem wt_0_8 : Cond.selects "BitNotation$Writer" ⟨"BitNotation$Writer", "putValue", "(LBitNotation$Type;LBitNotation$Row;I)V"⟩ ⟨"BitNotation$Writer", "putValue", "(LBitNotation$Type;LBitNotation$Row;I)V"⟩ ∈ wsA := wsA_sel (List.mem_of_getElem? (i := 8) rfl) rfl
theorem wt_0_9 : Cond.selects "BitNotation$Writer" ⟨"BitNotation$Writer", "putSequence", "(LBitNotation$Type;LBitNotation$Row;I)V"⟩ ⟨"BitNotation$Writer", "putSequence", "(LBitNotation$Type;LBitNotation$Row;I)V"⟩ ∈ wsA := wsA_sel (List.mem_of_getElem? (i := 9) rfl) rfl
theorem wt_0_10 : Cond.selects "BitNotation$Writer" ⟨"BitNotation$Writer", "nextParts", "(LBitNotation$Type;LBitNotation$Row;)I"⟩ ⟨"BitNotation$Writer", "nextParts", "(LBitNotation$Type;LBitNotation$Row;)I"⟩ ∈ wsA := wsA_sel (List.mem_of_getElem? (i := 10) rfl) rfl
theorem wt_0_11 : Cond.selects "BitNotation$Writer" ⟨"BitNotation$Writer", "next", "(LBitNotation$Row;II)I"⟩ ⟨"BitNotation$Writer", "next", "(LBitNotation$Row;II)I"⟩ ∈ wsA := wsA_sel (List.mem_of_getElem? (i := 11) rfl) rfl
theorem wt_0_12 : Cond.selects "BitNotation$Writer" ⟨"BitNotation$Writer", "put", "(II)V"⟩ ⟨"BitNotation$Writer", "put", "(II)V"⟩ ∈ wsA := wsA_sel (List.mem_of_getElem? (i := 12) rfl) rfl
theorem wt_0_13 : Cond.selects "BitNotation$Writer" ⟨"BitNotation$Writer", "putAddition", "(LBitNotation$Type;LBitNotation$Row;I)V"⟩ ⟨"BitNotation$Writer", "putAddition", "(LBitNotation$Type;LBitNotation$Row;I)V"⟩ ∈ wsA := wsA_sel (List.mem_of_getElem? (i := 13) rfl) rfl
theorem wt_0_14 : Cond.selects "BitNotation" ⟨"BitNotation", "placeOfFault", "(II)I"⟩ ⟨"BitNotation", "placeOfFault", "(II)I"⟩ ∈ wsA := wsA_sel (List.mem_of_getElem? (i := 14) rfl) rfl
theorem wt_0_15 : Cond.selects "BitNotation$Reader" ⟨"BitNotation$Reader", "getValue", "(LBitNotation$Type;LBitNotation$Row;I)V"⟩ ⟨"BitNotation$Reader", "getValue", "(LBitNotation$Type;LBitNotation$Row;I)V"⟩ ∈ wsA := wsA_sel (List.mem_of_getElem? (i := 15) rfl) rfl
theorem wt_0_16 : Cond.selects "BitNotation$Reader" ⟨"BitNotation$Reader", "getSequence", "(LBitNotation$Type;LBitNotation$Row;I)V"⟩ ⟨"BitNotation$Reader", "getSequence", "(LBitNotation$Type;LBitNotation$Row;I)V"⟩ ∈ wsA := wsA_sel (List.mem_of_getElem? (i := 16) rfl) rfl
theorem wt_0_17 : Cond.selects "BitNotation$Reader" ⟨"BitNotation$Reader", "next", "(LBitNotation$Row;II)I"⟩ ⟨"BitNotation$Reader", "next", "(LBitNotation$Row;II)I"⟩ ∈ wsA := wsA_sel (List.mem_of_getElem? (i := 17) rfl) rfl
theorem wt_0_18 : Cond.selects "BitNotation$Reader" ⟨"BitNotation$Reader", "nextParts", "(LBitNotation$Type;LBitNotation$Row;)I"⟩ ⟨"BitNotation$Reader", "nextParts", "(LBitNotation$Type;LBitNotation$Row;)I"⟩ ∈ wsA := wsA_sel (List.mem_of_getElem? (i := 18) rfl) rfl
theorem wt_0_19 : Cond.selects "BitNotation$Reader" ⟨"BitNotation$Reader", "getAdditions", "(LBitNotation$Type;ILBitNotation$Row;I)V"⟩ ⟨"BitNotation$Reader", "getAdditions", "(LBitNotation$Type;ILBitNotation$Row;I)V"⟩ ∈ wsA := wsA_sel (List.mem_of_getElem? (i := 19) rfl) rfl
theorem wt_0_20 : Cond.selects "BitNotation$Reader" ⟨"BitNotation$Reader", "getAddition", "(LBitNotation$Type;ILBitNotation$Row;I)V"⟩ ⟨"BitNotation$Reader", "getAddition", "(LBitNotation$Type;ILBitNotation$Row;I)V"⟩ ∈ wsA := wsA_sel (List.mem_of_getElem? (i := 20) rfl) rfl
theorem wt_0_21 : Cond.selects "BitNotation$Reader" ⟨"BitNotation$Reader", "skip", "(ILBitNotation$Row;)V"⟩ ⟨"BitNotation$Reader", "skip", "(ILBitNotation$Row;)V"⟩ ∈ wsA := wsA_sel (List.mem_of_getElem? (i := 21) rfl) rfl
theorem wt_0_22 : Cond.selects "BitNotationModel" ⟨"BitNotationModel", "refused", "(I)Z"⟩ ⟨"BitNotationModel", "refused", "(I)Z"⟩ ∈ wsA := wsA_sel (List.mem_of_getElem? (i := 22) rfl) rfl
theorem wt_0_23 : Cond.selects "BitNotationModel" ⟨"BitNotationModel", "lay", "(IIII)V"⟩ ⟨"BitNotationModel", "lay", "(IIII)V"⟩ ∈ wsA := wsA_sel (List.mem_of_getElem? (i := 23) rfl) rfl
theorem wt_0_24 : Cond.selects "BitNotationModel" ⟨"BitNotationModel", "measure", "(I)Z"⟩ ⟨"BitNotationModel", "measure", "(I)Z"⟩ ∈ wsA := wsA_sel (List.mem_of_getElem? (i := 24) rfl) rfl
theorem wt_0_25 : Cond.selects "BitNotationModel" ⟨"BitNotationModel", "measureSequence", "(I)V"⟩ ⟨"BitNotationModel", "measureSequence", "(I)V"⟩ ∈ wsA := wsA_sel (List.mem_of_getElem? (i := 25) rfl) rfl
theorem wt_0_26 : Cond.selects "BitNotationModel" ⟨"BitNotationModel", "optionals", "(I)I"⟩ ⟨"BitNotationModel", "optionals", "(I)I"⟩ ∈ wsA := wsA_sel (List.mem_of_getElem? (i := 26) rfl) rfl
theorem wt_0_27 : Cond.selects "BitNotationModel" ⟨"BitNotationModel", "isOptional", "(II)Z"⟩ ⟨"BitNotationModel", "isOptional", "(II)Z"⟩ ∈ wsA := wsA_sel (List.mem_of_getElem? (i := 27) rfl) rfl
theorem wt_0_28 : Cond.selects "BitNotationModel" ⟨"BitNotationModel", "partOf", "(II)I"⟩ ⟨"BitNotationModel", "partOf", "(II)I"⟩ ∈ wsA := wsA_sel (List.mem_of_getElem? (i := 28) rfl) rfl
theorem wt_0_29 : Cond.selects "BitNotationModel" ⟨"BitNotationModel", "measureChoice", "(I)V"⟩ ⟨"BitNotationModel", "measureChoice", "(I)V"⟩ ∈ wsA := wsA_sel (List.mem_of_getElem? (i := 29) rfl) rfl
theorem wt_0_30 : Cond.selects "BitNotationModel" ⟨"BitNotationModel", "widthOf", "(I)I"⟩ ⟨"BitNotationModel", "widthOf", "(I)I"⟩ ∈ wsA := wsA_sel (List.mem_of_getElem? (i := 30) rfl) rfl
theorem wt_0_31 : Cond.selects "BitNotationModel" ⟨"BitNotationModel", "isType", "(I)Z"⟩ ⟨"BitNotationModel", "isType", "(I)Z"⟩ ∈ wsA := wsA_sel (List.mem_of_getElem? (i := 31) rfl) rfl
theorem wt_0_32 : Cond.selects "BitNotationModel" ⟨"BitNotationModel", "addDraft", "(I)I"⟩ ⟨"BitNotationModel", "addDraft", "(I)I"⟩ ∈ wsA := wsA_sel (List.mem_of_getElem? (i := 32) rfl) rfl
theorem wt_0_33 : Cond.selects "BitNotationModel" ⟨"BitNotationModel", "measureAll", "()Z"⟩ ⟨"BitNotationModel", "measureAll", "()Z"⟩ ∈ wsA := wsA_sel (List.mem_of_getElem? (i := 33) rfl) rfl
theorem wt_0_34 : Cond.selects "BitNotationModel" ⟨"BitNotationModel", "fine", "(I)I"⟩ ⟨"BitNotationModel", "fine", "(I)I"⟩ ∈ wsA := wsA_sel (List.mem_of_getElem? (i := 34) rfl) rfl
theorem wt_0_35 : Cond.selects "BitNotationModel" ⟨"BitNotationModel", "noType", "(I)Z"⟩ ⟨"BitNotationModel", "noType", "(I)Z"⟩ ∈ wsA := wsA_sel (List.mem_of_getElem? (i := 35) rfl) rfl
theorem wt_0_36 : Cond.selects "BitNotationModel" ⟨"BitNotationModel", "walk", "(IZ)I"⟩ ⟨"BitNotationModel", "walk", "(IZ)I"⟩ ∈ wsA := wsA_sel (List.mem_of_getElem? (i := 36) rfl) rfl
theorem wt_0_37 : Cond.selects "BitNotationModel" ⟨"BitNotationModel", "push", "(I)V"⟩ ⟨"BitNotationModel", "push", "(I)V"⟩ ∈ wsA := wsA_sel (List.mem_of_getElem? (i := 37) rfl) rfl
theorem wt_0_38 : Cond.selects "BitNotationModel" ⟨"BitNotationModel", "goOverTale", "(Z)Z"⟩ ⟨"BitNotationModel", "goOverTale", "(Z)Z"⟩ ∈ wsA := wsA_sel (List.mem_of_getElem? (i := 38) rfl) rfl
theorem wt_0_39 : Cond.selects "BitNotationModel" ⟨"BitNotationModel", "headOfTale", "(IIZ)Z"⟩ ⟨"BitNotationModel", "headOfTale", "(IIZ)Z"⟩ ∈ wsA := wsA_sel (List.mem_of_getElem? (i := 39) rfl) rfl
theorem wt_0_40 : Cond.selects "BitNotationModel" ⟨"BitNotationModel", "isWrong", "(II)Z"⟩ ⟨"BitNotationModel", "isWrong", "(II)Z"⟩ ∈ wsA := wsA_sel (List.mem_of_getElem? (i := 40) rfl) rfl
theorem wt_0_41 : Cond.selects "BitNotationModel" ⟨"BitNotationModel", "emit", "(IIZ)V"⟩ ⟨"BitNotationModel", "emit", "(IIZ)V"⟩ ∈ wsA := wsA_sel (List.mem_of_getElem? (i := 41) rfl) rfl
theorem wt_0_42 : Cond.selects "BitNotationModel" ⟨"BitNotationModel", "sequenceOfTale", "(IIIZ)Z"⟩ ⟨"BitNotationModel", "sequenceOfTale", "(IIIZ)Z"⟩ ∈ wsA := wsA_sel (List.mem_of_getElem? (i := 42) rfl) rfl
theorem wt_0_43 : Cond.selects "BitNotationModel" ⟨"BitNotationModel", "noBit", "(I)Z"⟩ ⟨"BitNotationModel", "noBit", "(I)Z"⟩ ∈ wsA := wsA_sel (List.mem_of_getElem? (i := 43) rfl) rfl
theorem wt_0_44 : Cond.selects "BitNotationModel" ⟨"BitNotationModel", "walkBits", "(II)I"⟩ ⟨"BitNotationModel", "walkBits", "(II)I"⟩ ∈ wsA := wsA_sel (List.mem_of_getElem? (i := 44) rfl) rfl
theorem wt_0_45 : Cond.selects "BitNotationModel" ⟨"BitNotationModel", "goOverBits", "(I)V"⟩ ⟨"BitNotationModel", "goOverBits", "(I)V"⟩ ∈ wsA := wsA_sel (List.mem_of_getElem? (i := 45) rfl) rfl
theorem wt_0_46 : Cond.selects "BitNotationModel" ⟨"BitNotationModel", "headOfBits", "(II)V"⟩ ⟨"BitNotationModel", "headOfBits", "(II)V"⟩ ∈ wsA := wsA_sel (List.mem_of_getElem? (i := 46) rfl) rfl
theorem wt_0_47 : Cond.selects "BitNotationModel" ⟨"BitNotationModel", "take", "(I)I"⟩ ⟨"BitNotationModel", "take", "(I)I"⟩ ∈ wsA := wsA_sel (List.mem_of_getElem? (i := 47) rfl) rfl
theorem wt_0_48 : Cond.selects "BitNotationModel" ⟨"BitNotationModel", "note", "(I)V"⟩ ⟨"BitNotationModel", "note", "(I)V"⟩ ∈ wsA := wsA_sel (List.mem_of_getElem? (i := 48) rfl) rfl
theorem wt_0_49 : Cond.selects "BitNotationModel" ⟨"BitNotationModel", "sequenceOfBits", "(IIII)V"⟩ ⟨"BitNotationModel", "sequenceOfBits", "(IIII)V"⟩ ∈ wsA := wsA_sel (List.mem_of_getElem? (i := 49) rfl) rfl
theorem wt_0_50 : Cond.selects "BitNotationModel" ⟨"BitNotationModel", "takeBelow", "(II)I"⟩ ⟨"BitNotationModel", "takeBelow", "(II)I"⟩ ∈ wsA := wsA_sel (List.mem_of_getElem? (i := 50) rfl) rfl
theorem wt_0_51 : Cond.selects "BitNotationModel" ⟨"BitNotationModel", "skip", "(I)V"⟩ ⟨"BitNotationModel", "skip", "(I)V"⟩ ∈ wsA := wsA_sel (List.mem_of_getElem? (i := 51) rfl) rfl
theorem wt_1_0 : (Jvm.Cond.initialized "BitNotationLaw") ∈ wsA := wsA_1 (List.mem_of_getElem? (i := 0) rfl) rfl
theorem wt_1_1 : (Jvm.Cond.initialized "BitNotation") ∈ wsA := wsA_1 (List.mem_of_getElem? (i := 1) rfl) rfl
theorem wt_1_2 : (Jvm.Cond.initialized "BitNotation$TypeRow") ∈ wsA := wsA_1 (List.mem_of_getElem? (i := 2) rfl) rfl
theorem wt_1_3 : (Jvm.Cond.initialized "java/lang/Math") ∈ wsA := wsA_1 (List.mem_of_getElem? (i := 3) rfl) rfl
theorem wt_1_4 : (Jvm.Cond.initialized "BitNotation$Row") ∈ wsA := wsA_1 (List.mem_of_getElem? (i := 4) rfl) rfl
theorem wt_1_5 : (Jvm.Cond.initialized "BitNotation$Writer") ∈ wsA := wsA_1 (List.mem_of_getElem? (i := 5) rfl) rfl
theorem wt_1_6 : (Jvm.Cond.initialized "BitNotation$Reader") ∈ wsA := wsA_1 (List.mem_of_getElem? (i := 6) rfl) rfl
theorem wt_1_7 : (Jvm.Cond.initialized "BitNotationModel") ∈ wsA := wsA_1 (List.mem_of_getElem? (i := 7) rfl) rfl
theorem wt_1_8 : (Jvm.Cond.initialized "java/lang/Throwable") ∈ wsA := wsA_1 (List.mem_of_getElem? (i := 8) rfl) rfl
theorem wt_1_9 : (Jvm.Cond.initialized "java/lang/Exception") ∈ wsA := wsA_1 (List.mem_of_getElem? (i := 9) rfl) rfl
theorem wt_1_10 : (Jvm.Cond.initialized "java/lang/RuntimeException") ∈ wsA := wsA_1 (List.mem_of_getElem? (i := 10) rfl) rfl
theorem wt_1_11 : (Jvm.Cond.initialized "java/lang/IllegalArgumentException") ∈ wsA := wsA_1 (List.mem_of_getElem? (i := 11) rfl) rfl
theorem wt_1_12 : (Jvm.Cond.initialized "BitNotation$Type") ∈ wsA := wsA_1 (List.mem_of_getElem? (i := 12) rfl) rfl
theorem wt_1_13 : (Jvm.Cond.initialized "java/lang/Enum") ∈ wsA := wsA_1 (List.mem_of_getElem? (i := 13) rfl) rfl
theorem wt_1_14 : (Jvm.Cond.initialized "BitNotation$Kind") ∈ wsA := wsA_1 (List.mem_of_getElem? (i := 14) rfl) rfl
theorem wt_1_15 : (Jvm.Cond.initialized "java/lang/IllegalStateException") ∈ wsA := wsA_1 (List.mem_of_getElem? (i := 15) rfl) rfl
theorem wt_1_16 : (Jvm.Cond.initialized "java/lang/IndexOutOfBoundsException") ∈ wsA := wsA_1 (List.mem_of_getElem? (i := 16) rfl) rfl
theorem wt_1_17 : (Jvm.Cond.classLink "BitNotationLaw" (8 : Nat) "BitNotation") ∈ wsA := wsA_1 (List.mem_of_getElem? (i := 17) rfl) rfl
theorem wt_1_18 : (Jvm.Cond.instantiable "BitNotation" (7 : Nat)) ∈ wsA := wsA_1 (List.mem_of_getElem? (i := 18) rfl) rfl
theorem wt_1_19 : (Jvm.Cond.methodLink "BitNotationLaw" (71 : Nat) ({ cls := "BitNotation", name := "<init>", desc := "()V" } : Jvm.MethodName)) ∈ wsA := wsA_1 (List.mem_of_getElem? (i := 19) rfl) rfl
theorem wt_1_20 : (Jvm.Cond.instanceMethod ({ cls := "BitNotation", name := "<init>", desc := "()V" } : Jvm.MethodName)) ∈ wsA := wsA_1 (List.mem_of_getElem? (i := 20) rfl) rfl
theorem wt_1_21 : (Jvm.Cond.code ({ cls := "BitNotation", name := "<init>", desc := "()V" } : Jvm.MethodName) prog_1_method_1_code (1 : Nat) (Option.none : Option Jvm.ClassFile.FieldType)) ∈ wsA := wsA_1 (List.mem_of_getElem? (i := 21) rfl) rfl
theorem wt_1_22 : (Jvm.Cond.methodLink "BitNotation" (1 : Nat) ({ cls := "java/lang/Object", name := "<init>", desc := "()V" } : Jvm.MethodName)) ∈ wsA := wsA_1 (List.mem_of_getElem? (i := 22) rfl) rfl
theorem wt_1_23 : (Jvm.Cond.instanceMethod ({ cls := "java/lang/Object", name := "<init>", desc := "()V" } : Jvm.MethodName)) ∈ wsA := wsA_1 (List.mem_of_getElem? (i := 23) rfl) rfl
theorem wt_1_24 : (Jvm.Cond.code ({ cls := "java/lang/Object", name := "<init>", desc := "()V" } : Jvm.MethodName) object_method_1_code (1 : Nat) (Option.none : Option Jvm.ClassFile.FieldType)) ∈ wsA := wsA_1 (List.mem_of_getElem? (i := 24) rfl) rfl
theorem wt_1_25 : (Jvm.Cond.classLink "BitNotation" (7 : Nat) "BitNotation$TypeRow") ∈ wsA := wsA_1 (List.mem_of_getElem? (i := 25) rfl) rfl
theorem wt_1_26 : (Jvm.Cond.instantiable "BitNotation$TypeRow" (2 : Nat)) ∈ wsA := wsA_1 (List.mem_of_getElem? (i := 26) rfl) rfl
theorem wt_1_27 : (Jvm.Cond.methodLink "BitNotation" (11 : Nat) ({ cls := "BitNotation$TypeRow", name := "<init>", desc := "(I)V" } : Jvm.MethodName)) ∈ wsA := wsA_1 (List.mem_of_getElem? (i := 27) rfl) rfl
theorem wt_1_28 : (Jvm.Cond.instanceMethod ({ cls := "BitNotation$TypeRow", name := "<init>", desc := "(I)V" } : Jvm.MethodName)) ∈ wsA := wsA_1 (List.mem_of_getElem? (i := 28) rfl) rfl
theorem wt_1_29 : (Jvm.Cond.code ({ cls := "BitNotation$TypeRow", name := "<init>", desc := "(I)V" } : Jvm.MethodName) prog_6_method_1_code (2 : Nat) (Option.none : Option Jvm.ClassFile.FieldType)) ∈ wsA := wsA_1 (List.mem_of_getElem? (i := 29) rfl) rfl
theorem wt_1_30 : (Jvm.Cond.methodLink "BitNotation$TypeRow" (1 : Nat) ({ cls := "java/lang/Object", name := "<init>", desc := "()V" } : Jvm.MethodName)) ∈ wsA := wsA_1 (List.mem_of_getElem? (i := 30) rfl) rfl
theorem wt_1_31 : (Jvm.Cond.methodLink "BitNotation$TypeRow" (13 : Nat) ({ cls := "java/lang/Math", name := "max", desc := "(II)I" } : Jvm.MethodName)) ∈ wsA := wsA_1 (List.mem_of_getElem? (i := 31) rfl) rfl
theorem wt_1_32 : (Jvm.Cond.static ({ cls := "java/lang/Math", name := "max", desc := "(II)I" } : Jvm.MethodName)) ∈ wsA := wsA_1 (List.mem_of_getElem? (i := 32) rfl) rfl
theorem wt_1_33 : (Jvm.Cond.code ({ cls := "java/lang/Math", name := "max", desc := "(II)I" } : Jvm.MethodName) prog_15_method_65_code (2 : Nat) (Option.some Jvm.ClassFile.FieldType.int)) ∈ wsA := wsA_1 (List.mem_of_getElem? (i := 33) rfl) rfl
theorem wt_1_34 : (Jvm.Cond.classLink "BitNotation$TypeRow" (19 : Nat) "BitNotation$Type") ∈ wsA := wsA_1 (List.mem_of_getElem? (i := 34) rfl) rfl
theorem wt_1_36 : (Jvm.Cond.fieldLink "BitNotation$TypeRow" (21 : Nat) "BitNotation$TypeRow" "items" "[LBitNotation$Type;") ∈ wsA := wsA_1 (List.mem_of_getElem? (i := 36) rfl) rfl
theorem wt_1_37 : (Jvm.Cond.fieldLink "BitNotation$TypeRow" (7 : Nat) "BitNotation$TypeRow" "count" "I") ∈ wsA := wsA_1 (List.mem_of_getElem? (i := 37) rfl) rfl
theorem wt_1_38 : (Jvm.Cond.laysFinal "BitNotation$TypeRow" "BitNotation$TypeRow" "items" "[LBitNotation$Type;") ∈ wsA := wsA_1 (List.mem_of_getElem? (i := 38) rfl) rfl
theorem wt_1_40 : (Jvm.Cond.lays "BitNotation$TypeRow" "BitNotation$TypeRow" "count" "I") ∈ wsA := wsA_1 (List.mem_of_getElem? (i := 40) rfl) rfl
theorem wt_1_43 : (Jvm.Cond.classLink "BitNotation" (18 : Nat) "BitNotation$Row") ∈ wsA := wsA_1 (List.mem_of_getElem? (i := 43) rfl) rfl
theorem wt_1_44 : (Jvm.Cond.instantiable "BitNotation$Row" (2 : Nat)) ∈ wsA := wsA_1 (List.mem_of_getElem? (i := 44) rfl) rfl
theorem wt_1_45 : (Jvm.Cond.methodLink "BitNotation" (20 : Nat) ({ cls := "BitNotation$Row", name := "<init>", desc := "(I)V" } : Jvm.MethodName)) ∈ wsA := wsA_1 (List.mem_of_getElem? (i := 45) rfl) rfl
theorem wt_1_46 : (Jvm.Cond.instanceMethod ({ cls := "BitNotation$Row", name := "<init>", desc := "(I)V" } : Jvm.MethodName)) ∈ wsA := wsA_1 (List.mem_of_getElem? (i := 46) rfl) rfl
theorem wt_1_47 : (Jvm.Cond.code ({ cls := "BitNotation$Row", name := "<init>", desc := "(I)V" } : Jvm.MethodName) prog_4_method_1_code (2 : Nat) (Option.none : Option Jvm.ClassFile.FieldType)) ∈ wsA := wsA_1 (List.mem_of_getElem? (i := 47) rfl) rfl
theorem wt_1_48 : (Jvm.Cond.methodLink "BitNotation$Row" (1 : Nat) ({ cls := "java/lang/Object", name := "<init>", desc := "()V" } : Jvm.MethodName)) ∈ wsA := wsA_1 (List.mem_of_getElem? (i := 48) rfl) rfl
theorem wt_1_49 : (Jvm.Cond.methodLink "BitNotation$Row" (13 : Nat) ({ cls := "java/lang/Math", name := "max", desc := "(II)I" } : Jvm.MethodName)) ∈ wsA := wsA_1 (List.mem_of_getElem? (i := 49) rfl) rfl
theorem wt_1_50 : (Jvm.Cond.fieldLink "BitNotation$Row" (19 : Nat) "BitNotation$Row" "items" "[I") ∈ wsA := wsA_1 (List.mem_of_getElem? (i := 50) rfl) rfl
theorem wt_1_51 : (Jvm.Cond.fieldLink "BitNotation$Row" (7 : Nat) "BitNotation$Row" "count" "I") ∈ wsA := wsA_1 (List.mem_of_getElem? (i := 51) rfl) rfl
theorem wt_1_52 : (Jvm.Cond.laysFinal "BitNotation$Row" "BitNotation$Row" "items" "[I") ∈ wsA := wsA_1 (List.mem_of_getElem? (i := 52) rfl) rfl
theorem wt_1_54 : (Jvm.Cond.lays "BitNotation$Row" "BitNotation$Row" "count" "I") ∈ wsA := wsA_1 (List.mem_of_getElem? (i := 54) rfl) rfl
theorem wt_1_57 : (Jvm.Cond.arrayClass Jvm.ClassFile.FieldType.int) ∈ wsA := wsA_1 (List.mem_of_getElem? (i := 57) rfl) rfl
theorem wt_1_58 : (Jvm.Cond.classLink "BitNotation" (28 : Nat) "BitNotation$Writer") ∈ wsA := wsA_1 (List.mem_of_getElem? (i := 58) rfl) rfl
theorem wt_1_59 : (Jvm.Cond.instantiable "BitNotation$Writer" (3 : Nat)) ∈ wsA := wsA_1 (List.mem_of_getElem? (i := 59) rfl) rfl
theorem wt_1_61 : (Jvm.Cond.instanceMethod ({ cls := "BitNotation$Writer", name := "<init>", desc := "()V" } : Jvm.MethodName)) ∈ wsA := wsA_1 (List.mem_of_getElem? (i := 61) rfl) rfl
theorem wt_1_62 : (Jvm.Cond.code ({ cls := "BitNotation$Writer", name := "<init>", desc := "()V" } : Jvm.MethodName) prog_7_method_1_code (1 : Nat) (Option.none : Option Jvm.ClassFile.FieldType)) ∈ wsA := wsA_1 (List.mem_of_getElem? (i := 62) rfl) rfl
theorem wt_1_63 : (Jvm.Cond.methodLink "BitNotation$Writer" (3 : Nat) ({ cls := "java/lang/Object", name := "<init>", desc := "()V" } : Jvm.MethodName)) ∈ wsA := wsA_1 (List.mem_of_getElem? (i := 63) rfl) rfl
theorem wt_1_64 : (Jvm.Cond.classLink "BitNotation$Writer" (9 : Nat) "BitNotation$Row") ∈ wsA := wsA_1 (List.mem_of_getElem? (i := 64) rfl) rfl
theorem wt_1_65 : (Jvm.Cond.methodLink "BitNotation$Writer" (11 : Nat) ({ cls := "BitNotation$Row", name := "<init>", desc := "(I)V" } : Jvm.MethodName)) ∈ wsA := wsA_1 (List.mem_of_getElem? (i := 65) rfl) rfl
theorem wt_1_66 : (Jvm.Cond.fieldLink "BitNotation$Writer" (14 : Nat) "BitNotation$Writer" "written" "LBitNotation$Row;") ∈ wsA := wsA_1 (List.mem_of_getElem? (i := 66) rfl) rfl
theorem wt_1_68 : (Jvm.Cond.fieldLink "BitNotation$Writer" (20 : Nat) "BitNotation$Writer" "place" "I") ∈ wsA := wsA_1 (List.mem_of_getElem? (i := 68) rfl) rfl
theorem wt_1_69 : (Jvm.Cond.fieldLink "BitNotation$Writer" (24 : Nat) "BitNotation$Writer" "wrong" "I") ∈ wsA := wsA_1 (List.mem_of_getElem? (i := 69) rfl) rfl
theorem wt_1_70 : (Jvm.Cond.laysFinal "BitNotation$Writer" "BitNotation$Writer" "written" "LBitNotation$Row;") ∈ wsA := wsA_1 (List.mem_of_getElem? (i := 70) rfl) rfl
theorem wt_1_72 : (Jvm.Cond.lays "BitNotation$Writer" "BitNotation$Writer" "place" "I") ∈ wsA := wsA_1 (List.mem_of_getElem? (i := 72) rfl) rfl
theorem wt_1_74 : (Jvm.Cond.lays "BitNotation$Writer" "BitNotation$Writer" "wrong" "I") ∈ wsA := wsA_1 (List.mem_of_getElem? (i := 74) rfl) rfl
theorem wt_1_77 : (Jvm.Cond.classLink "BitNotation" (35 : Nat) "BitNotation$Reader") ∈ wsA := wsA_1 (List.mem_of_getElem? (i := 77) rfl) rfl
theorem wt_1_78 : (Jvm.Cond.instantiable "BitNotation$Reader" (4 : Nat)) ∈ wsA := wsA_1 (List.mem_of_getElem? (i := 78) rfl) rfl
theorem wt_1_80 : (Jvm.Cond.instanceMethod ({ cls := "BitNotation$Reader", name := "<init>", desc := "()V" } : Jvm.MethodName)) ∈ wsA := wsA_1 (List.mem_of_getElem? (i := 80) rfl) rfl
theorem wt_1_81 : (Jvm.Cond.code ({ cls := "BitNotation$Reader", name := "<init>", desc := "()V" } : Jvm.MethodName) prog_3_method_1_code (1 : Nat) (Option.none : Option Jvm.ClassFile.FieldType)) ∈ wsA := wsA_1 (List.mem_of_getElem? (i := 81) rfl) rfl
theorem wt_1_82 : (Jvm.Cond.methodLink "BitNotation$Reader" (3 : Nat) ({ cls := "java/lang/Object", name := "<init>", desc := "()V" } : Jvm.MethodName)) ∈ wsA := wsA_1 (List.mem_of_getElem? (i := 82) rfl) rfl
theorem wt_1_83 : (Jvm.Cond.classLink "BitNotation$Reader" (9 : Nat) "BitNotation$Row") ∈ wsA := wsA_1 (List.mem_of_getElem? (i := 83) rfl) rfl
theorem wt_1_84 : (Jvm.Cond.methodLink "BitNotation$Reader" (11 : Nat) ({ cls := "BitNotation$Row", name := "<init>", desc := "(I)V" } : Jvm.MethodName)) ∈ wsA := wsA_1 (List.mem_of_getElem? (i := 84) rfl) rfl
theorem wt_1_85 : (Jvm.Cond.fieldLink "BitNotation$Reader" (14 : Nat) "BitNotation$Reader" "heard" "LBitNotation$Row;") ∈ wsA := wsA_1 (List.mem_of_getElem? (i := 85) rfl) rfl
theorem wt_1_87 : (Jvm.Cond.fieldLink "BitNotation$Reader" (20 : Nat) "BitNotation$Reader" "additionsKnown" "I") ∈ wsA := wsA_1 (List.mem_of_getElem? (i := 87) rfl) rfl
theorem wt_1_88 : (Jvm.Cond.fieldLink "BitNotation$Reader" (24 : Nat) "BitNotation$Reader" "place" "I") ∈ wsA := wsA_1 (List.mem_of_getElem? (i := 88) rfl) rfl
theorem wt_1_89 : (Jvm.Cond.fieldLink "BitNotation$Reader" (27 : Nat) "BitNotation$Reader" "fault" "I") ∈ wsA := wsA_1 (List.mem_of_getElem? (i := 89) rfl) rfl
theorem wt_1_90 : (Jvm.Cond.laysFinal "BitNotation$Reader" "BitNotation$Reader" "heard" "LBitNotation$Row;") ∈ wsA := wsA_1 (List.mem_of_getElem? (i := 90) rfl) rfl
theorem wt_1_92 : (Jvm.Cond.lays "BitNotation$Reader" "BitNotation$Reader" "additionsKnown" "I") ∈ wsA := wsA_1 (List.mem_of_getElem? (i := 92) rfl) rfl
theorem wt_1_94 : (Jvm.Cond.lays "BitNotation$Reader" "BitNotation$Reader" "place" "I") ∈ wsA := wsA_1 (List.mem_of_getElem? (i := 94) rfl) rfl
theorem wt_1_96 : (Jvm.Cond.lays "BitNotation$Reader" "BitNotation$Reader" "fault" "I") ∈ wsA := wsA_1 (List.mem_of_getElem? (i := 96) rfl) rfl
theorem wt_1_99 : (Jvm.Cond.fieldLink "BitNotation" (14 : Nat) "BitNotation" "notation" "LBitNotation$TypeRow;") ∈ wsA := wsA_1 (List.mem_of_getElem? (i := 99) rfl) rfl
theorem wt_1_100 : (Jvm.Cond.fieldLink "BitNotation" (21 : Nat) "BitNotation" "tale" "LBitNotation$Row;") ∈ wsA := wsA_1 (List.mem_of_getElem? (i := 100) rfl) rfl
theorem wt_1_101 : (Jvm.Cond.fieldLink "BitNotation" (25 : Nat) "BitNotation" "message" "LBitNotation$Row;") ∈ wsA := wsA_1 (List.mem_of_getElem? (i := 101) rfl) rfl
theorem wt_1_102 : (Jvm.Cond.fieldLink "BitNotation" (31 : Nat) "BitNotation" "writer" "LBitNotation$Writer;") ∈ wsA := wsA_1 (List.mem_of_getElem? (i := 102) rfl) rfl
theorem wt_1_103 : (Jvm.Cond.fieldLink "BitNotation" (38 : Nat) "BitNotation" "reader" "LBitNotation$Reader;") ∈ wsA := wsA_1 (List.mem_of_getElem? (i := 103) rfl) rfl
theorem wt_1_104 : (Jvm.Cond.fieldLink "BitNotation" (42 : Nat) "BitNotation" "draft" "LBitNotation$TypeRow;") ∈ wsA := wsA_1 (List.mem_of_getElem? (i := 104) rfl) rfl
theorem wt_1_105 : (Jvm.Cond.fieldLink "BitNotation" (45 : Nat) "BitNotation" "draftOptional" "I") ∈ wsA := wsA_1 (List.mem_of_getElem? (i := 105) rfl) rfl
theorem wt_1_106 : (Jvm.Cond.laysFinal "BitNotation" "BitNotation" "notation" "LBitNotation$TypeRow;") ∈ wsA := wsA_1 (List.mem_of_getElem? (i := 106) rfl) rfl
theorem wt_1_108 : (Jvm.Cond.laysFinal "BitNotation" "BitNotation" "tale" "LBitNotation$Row;") ∈ wsA := wsA_1 (List.mem_of_getElem? (i := 108) rfl) rfl
theorem wt_1_110 : (Jvm.Cond.laysFinal "BitNotation" "BitNotation" "message" "LBitNotation$Row;") ∈ wsA := wsA_1 (List.mem_of_getElem? (i := 110) rfl) rfl
theorem wt_1_112 : (Jvm.Cond.laysFinal "BitNotation" "BitNotation" "writer" "LBitNotation$Writer;") ∈ wsA := wsA_1 (List.mem_of_getElem? (i := 112) rfl) rfl
theorem wt_1_114 : (Jvm.Cond.laysFinal "BitNotation" "BitNotation" "reader" "LBitNotation$Reader;") ∈ wsA := wsA_1 (List.mem_of_getElem? (i := 114) rfl) rfl
theorem wt_1_116 : (Jvm.Cond.lays "BitNotation" "BitNotation" "draft" "LBitNotation$TypeRow;") ∈ wsA := wsA_1 (List.mem_of_getElem? (i := 116) rfl) rfl
theorem wt_1_118 : (Jvm.Cond.lays "BitNotation" "BitNotation" "draftOptional" "I") ∈ wsA := wsA_1 (List.mem_of_getElem? (i := 118) rfl) rfl
theorem wt_1_121 : (Jvm.Cond.methodLink "BitNotationLaw" (102 : Nat) ({ cls := "BitNotation", name := "types", desc := "()I" } : Jvm.MethodName)) ∈ wsA := wsA_1 (List.mem_of_getElem? (i := 121) rfl) rfl
theorem wt_1_122 : (Jvm.Cond.instanceMethod ({ cls := "BitNotation", name := "types", desc := "()I" } : Jvm.MethodName)) ∈ wsA := wsA_1 (List.mem_of_getElem? (i := 122) rfl) rfl
theorem wt_1_123 : (Jvm.Cond.selects "BitNotation" ({ cls := "BitNotation", name := "types", desc := "()I" } : Jvm.MethodName) ({ cls := "BitNotation", name := "types", desc := "()I" } : Jvm.MethodName)) ∈ wsA := wsA_1 (List.mem_of_getElem? (i := 123) rfl) rfl
theorem wt_1_124 : (Jvm.Cond.code ({ cls := "BitNotation", name := "types", desc := "()I" } : Jvm.MethodName) prog_1_method_8_code (1 : Nat) (Option.some Jvm.ClassFile.FieldType.int)) ∈ wsA := wsA_1 (List.mem_of_getElem? (i := 124) rfl) rfl
theorem wt_1_125 : (Jvm.Cond.methodLink "BitNotation" (97 : Nat) ({ cls := "BitNotation$TypeRow", name := "size", desc := "()I" } : Jvm.MethodName)) ∈ wsA := wsA_1 (List.mem_of_getElem? (i := 125) rfl) rfl
theorem wt_1_126 : (Jvm.Cond.instanceMethod ({ cls := "BitNotation$TypeRow", name := "size", desc := "()I" } : Jvm.MethodName)) ∈ wsA := wsA_1 (List.mem_of_getElem? (i := 126) rfl) rfl
theorem wt_1_127 : (Jvm.Cond.selects "BitNotation$TypeRow" ({ cls := "BitNotation$TypeRow", name := "size", desc := "()I" } : Jvm.MethodName) ({ cls := "BitNotation$TypeRow", name := "size", desc := "()I" } : Jvm.MethodName)) ∈ wsA := wsA_1 (List.mem_of_getElem? (i := 127) rfl) rfl
theorem wt_1_128 : (Jvm.Cond.code ({ cls := "BitNotation$TypeRow", name := "size", desc := "()I" } : Jvm.MethodName) prog_6_method_2_code (1 : Nat) (Option.some Jvm.ClassFile.FieldType.int)) ∈ wsA := wsA_1 (List.mem_of_getElem? (i := 128) rfl) rfl
theorem wt_1_129 : (Jvm.Cond.methodLink "BitNotationLaw" (116 : Nat) ({ cls := "BitNotation", name := "forget", desc := "()I" } : Jvm.MethodName)) ∈ wsA := wsA_1 (List.mem_of_getElem? (i := 129) rfl) rfl
theorem wt_1_130 : (Jvm.Cond.instanceMethod ({ cls := "BitNotation", name := "forget", desc := "()I" } : Jvm.MethodName)) ∈ wsA := wsA_1 (List.mem_of_getElem? (i := 130) rfl) rfl
theorem wt_1_131 : (Jvm.Cond.selects "BitNotation" ({ cls := "BitNotation", name := "forget", desc := "()I" } : Jvm.MethodName) ({ cls := "BitNotation", name := "forget", desc := "()I" } : Jvm.MethodName)) ∈ wsA := wsA_1 (List.mem_of_getElem? (i := 131) rfl) rfl
theorem wt_1_132 : (Jvm.Cond.code ({ cls := "BitNotation", name := "forget", desc := "()I" } : Jvm.MethodName) prog_1_method_12_code (2 : Nat) (Option.some Jvm.ClassFile.FieldType.int)) ∈ wsA := wsA_1 (List.mem_of_getElem? (i := 132) rfl) rfl
theorem wt_1_133 : (Jvm.Cond.methodLink "BitNotation" (141 : Nat) ({ cls := "BitNotation$Row", name := "size", desc := "()I" } : Jvm.MethodName)) ∈ wsA := wsA_1 (List.mem_of_getElem? (i := 133) rfl) rfl
theorem wt_1_134 : (Jvm.Cond.instanceMethod ({ cls := "BitNotation$Row", name := "size", desc := "()I" } : Jvm.MethodName)) ∈ wsA := wsA_1 (List.mem_of_getElem? (i := 134) rfl) rfl
theorem wt_1_135 : (Jvm.Cond.selects "BitNotation$Row" ({ cls := "BitNotation$Row", name := "size", desc := "()I" } : Jvm.MethodName) ({ cls := "BitNotation$Row", name := "size", desc := "()I" } : Jvm.MethodName)) ∈ wsA := wsA_1 (List.mem_of_getElem? (i := 135) rfl) rfl
theorem wt_1_136 : (Jvm.Cond.code ({ cls := "BitNotation$Row", name := "size", desc := "()I" } : Jvm.MethodName) prog_4_method_2_code (1 : Nat) (Option.some Jvm.ClassFile.FieldType.int)) ∈ wsA := wsA_1 (List.mem_of_getElem? (i := 136) rfl) rfl
theorem wt_1_137 : (Jvm.Cond.methodLink "BitNotation" (142 : Nat) ({ cls := "BitNotation$Row", name := "keepFirst", desc := "(I)V" } : Jvm.MethodName)) ∈ wsA := wsA_1 (List.mem_of_getElem? (i := 137) rfl) rfl
theorem wt_1_138 : (Jvm.Cond.instanceMethod ({ cls := "BitNotation$Row", name := "keepFirst", desc := "(I)V" } : Jvm.MethodName)) ∈ wsA := wsA_1 (List.mem_of_getElem? (i := 138) rfl) rfl
theorem wt_1_139 : (Jvm.Cond.selects "BitNotation$Row" ({ cls := "BitNotation$Row", name := "keepFirst", desc := "(I)V" } : Jvm.MethodName) ({ cls := "BitNotation$Row", name := "keepFirst", desc := "(I)V" } : Jvm.MethodName)) ∈ wsA := wsA_1 (List.mem_of_getElem? (i := 139) rfl) rfl
theorem wt_1_140 : (Jvm.Cond.code ({ cls := "BitNotation$Row", name := "keepFirst", desc := "(I)V" } : Jvm.MethodName) prog_4_method_8_code (2 : Nat) (Option.none : Option Jvm.ClassFile.FieldType)) ∈ wsA := wsA_1 (List.mem_of_getElem? (i := 140) rfl) rfl
theorem wt_1_141 : (Jvm.Cond.methodLink "BitNotationLaw" (120 : Nat) ({ cls := "BitNotation", name := "length", desc := "()I" } : Jvm.MethodName)) ∈ wsA := wsA_1 (List.mem_of_getElem? (i := 141) rfl) rfl
theorem wt_1_142 : (Jvm.Cond.instanceMethod ({ cls := "BitNotation", name := "length", desc := "()I" } : Jvm.MethodName)) ∈ wsA := wsA_1 (List.mem_of_getElem? (i := 142) rfl) rfl
theorem wt_1_143 : (Jvm.Cond.selects "BitNotation" ({ cls := "BitNotation", name := "length", desc := "()I" } : Jvm.MethodName) ({ cls := "BitNotation", name := "length", desc := "()I" } : Jvm.MethodName)) ∈ wsA := wsA_1 (List.mem_of_getElem? (i := 143) rfl) rfl
theorem wt_1_144 : (Jvm.Cond.code ({ cls := "BitNotation", name := "length", desc := "()I" } : Jvm.MethodName) prog_1_method_13_code (1 : Nat) (Option.some Jvm.ClassFile.FieldType.int)) ∈ wsA := wsA_1 (List.mem_of_getElem? (i := 144) rfl) rfl
theorem wt_1_145 : (Jvm.Cond.methodLink "BitNotationLaw" (133 : Nat) ({ cls := "BitNotation", name := "bits", desc := "()I" } : Jvm.MethodName)) ∈ wsA := wsA_1 (List.mem_of_getElem? (i := 145) rfl) rfl
theorem wt_1_146 : (Jvm.Cond.instanceMethod ({ cls := "BitNotation", name := "bits", desc := "()I" } : Jvm.MethodName)) ∈ wsA := wsA_1 (List.mem_of_getElem? (i := 146) rfl) rfl
theorem wt_1_147 : (Jvm.Cond.selects "BitNotation" ({ cls := "BitNotation", name := "bits", desc := "()I" } : Jvm.MethodName) ({ cls := "BitNotation", name := "bits", desc := "()I" } : Jvm.MethodName)) ∈ wsA := wsA_1 (List.mem_of_getElem? (i := 147) rfl) rfl
theorem wt_1_148 : (Jvm.Cond.code ({ cls := "BitNotation", name := "bits", desc := "()I" } : Jvm.MethodName) prog_1_method_17_code (1 : Nat) (Option.some Jvm.ClassFile.FieldType.int)) ∈ wsA := wsA_1 (List.mem_of_getElem? (i := 148) rfl) rfl
theorem wt_1_149 : (Jvm.Cond.methodLink "BitNotationLaw" (75 : Nat) ({ cls := "BitNotationLaw", name := "addNumber", desc := "(LBitNotation;II[J)I" } : Jvm.MethodName)) ∈ wsA := wsA_1 (List.mem_of_getElem? (i := 149) rfl) rfl
theorem wt_1_150 : (Jvm.Cond.static ({ cls := "BitNotationLaw", name := "addNumber", desc := "(LBitNotation;II[J)I" } : Jvm.MethodName)) ∈ wsA := wsA_1 (List.mem_of_getElem? (i := 150) rfl) rfl
theorem wt_1_151 : (Jvm.Cond.codeWith ({ cls := "BitNotationLaw", name := "addNumber", desc := "(LBitNotation;II[J)I" } : Jvm.MethodName) method_3_code (5 : Nat) (Option.some Jvm.ClassFile.FieldType.int) [((0 : Nat), (10 : Nat), (13 : Nat), (13 : Nat)), ((0 : Nat), (10 : Nat), (17 : Nat), (15 : Nat))]) ∈ wsA := wsA_1 (List.mem_of_getElem? (i := 151) rfl) rfl
theorem wt_1_152 : (Jvm.Cond.classLink "BitNotationLaw" (13 : Nat) "java/lang/IllegalArgumentException") ∈ wsA := wsA_1 (List.mem_of_getElem? (i := 152) rfl) rfl
theorem wt_1_153 : (Jvm.Cond.classLink "BitNotationLaw" (15 : Nat) "java/lang/IllegalStateException") ∈ wsA := wsA_1 (List.mem_of_getElem? (i := 153) rfl) rfl
theorem wt_1_154 : (Jvm.Cond.methodLink "BitNotationLaw" (7 : Nat) ({ cls := "BitNotation", name := "addNumber", desc := "(II)I" } : Jvm.MethodName)) ∈ wsA := wsA_1 (List.mem_of_getElem? (i := 154) rfl) rfl
theorem wt_1_155 : (Jvm.Cond.instanceMethod ({ cls := "BitNotation", name := "addNumber", desc := "(II)I" } : Jvm.MethodName)) ∈ wsA := wsA_1 (List.mem_of_getElem? (i := 155) rfl) rfl
theorem wt_1_156 : (Jvm.Cond.selects "BitNotation" ({ cls := "BitNotation", name := "addNumber", desc := "(II)I" } : Jvm.MethodName) ({ cls := "BitNotation", name := "addNumber", desc := "(II)I" } : Jvm.MethodName)) ∈ wsA := wsA_1 (List.mem_of_getElem? (i := 156) rfl) rfl
theorem wt_1_157 : (Jvm.Cond.code ({ cls := "BitNotation", name := "addNumber", desc := "(II)I" } : Jvm.MethodName) prog_1_method_2_code (3 : Nat) (Option.some Jvm.ClassFile.FieldType.int)) ∈ wsA := wsA_1 (List.mem_of_getElem? (i := 157) rfl) rfl
theorem wt_1_158 : (Jvm.Cond.methodLink "BitNotation" (49 : Nat) ({ cls := "BitNotation", name := "isOutside", desc := "(III)Z" } : Jvm.MethodName)) ∈ wsA := wsA_1 (List.mem_of_getElem? (i := 158) rfl) rfl
theorem wt_1_159 : (Jvm.Cond.static ({ cls := "BitNotation", name := "isOutside", desc := "(III)Z" } : Jvm.MethodName)) ∈ wsA := wsA_1 (List.mem_of_getElem? (i := 159) rfl) rfl
theorem wt_1_160 : (Jvm.Cond.code ({ cls := "BitNotation", name := "isOutside", desc := "(III)Z" } : Jvm.MethodName) prog_1_method_23_code (3 : Nat) (Option.some Jvm.ClassFile.FieldType.boolean)) ∈ wsA := wsA_1 (List.mem_of_getElem? (i := 160) rfl) rfl
theorem wt_1_161 : (Jvm.Cond.classLink "BitNotation" (53 : Nat) "java/lang/IllegalArgumentException") ∈ wsA := wsA_1 (List.mem_of_getElem? (i := 161) rfl) rfl
theorem wt_1_162 : (Jvm.Cond.instantiable "java/lang/IllegalArgumentException" (6 : Nat)) ∈ wsA := wsA_1 (List.mem_of_getElem? (i := 162) rfl) rfl
theorem wt_1_170 : (Jvm.Cond.selects "java/lang/IllegalArgumentException" ({ cls := "java/lang/Throwable", name := "fillInStackTrace", desc := "(I)Ljava/lang/Throwable;" } : Jvm.MethodName) ({ cls := "java/lang/Throwable", name := "fillInStackTrace", desc := "(I)Ljava/lang/Throwable;" } : Jvm.MethodName)) ∈ wsA := wsA_1 (List.mem_of_getElem? (i := 170) rfl) rfl
theorem wt_1_171 : (Jvm.Cond.selects "java/lang/IllegalArgumentException" ({ cls := "java/lang/Throwable", name := "fillInStackTrace", desc := "()Ljava/lang/Throwable;" } : Jvm.MethodName) ({ cls := "java/lang/Throwable", name := "fillInStackTrace", desc := "()Ljava/lang/Throwable;" } : Jvm.MethodName)) ∈ wsA := wsA_1 (List.mem_of_getElem? (i := 171) rfl) rfl
theorem wt_1_172 : (Jvm.Cond.lays "java/lang/IllegalArgumentException" "java/lang/Throwable" "cause" "Ljava/lang/Throwable;") ∈ wsA := wsA_1 (List.mem_of_getElem? (i := 172) rfl) rfl
theorem wt_1_173 : (Jvm.Cond.lays "java/lang/Throwable" "java/lang/Throwable" "cause" "Ljava/lang/Throwable;") ∈ wsA := wsA_1 (List.mem_of_getElem? (i := 173) rfl) rfl
theorem wt_1_174 : (Jvm.Cond.lays "java/lang/IllegalArgumentException" "java/lang/Throwable" "stackTrace" "[Ljava/lang/StackTraceElement;") ∈ wsA := wsA_1 (List.mem_of_getElem? (i := 174) rfl) rfl
theorem wt_1_175 : (Jvm.Cond.lays "java/lang/Throwable" "java/lang/Throwable" "stackTrace" "[Ljava/lang/StackTraceElement;") ∈ wsA := wsA_1 (List.mem_of_getElem? (i := 175) rfl) rfl
theorem wt_1_176 : (Jvm.Cond.lays "java/lang/IllegalArgumentException" "java/lang/Throwable" "suppressedExceptions" "Ljava/util/List;") ∈ wsA := wsA_1 (List.mem_of_getElem? (i := 176) rfl) rfl
theorem wt_1_177 : (Jvm.Cond.lays "java/lang/Throwable" "java/lang/Throwable" "suppressedExceptions" "Ljava/util/List;") ∈ wsA := wsA_1 (List.mem_of_getElem? (i := 177) rfl) rfl
theorem wt_1_178 : (Jvm.Cond.lays "java/lang/IllegalArgumentException" "java/lang/Throwable" "detailMessage" "Ljava/lang/String;") ∈ wsA := wsA_1 (List.mem_of_getElem? (i := 178) rfl) rfl
theorem wt_1_179 : (Jvm.Cond.lays "java/lang/Throwable" "java/lang/Throwable" "detailMessage" "Ljava/lang/String;") ∈ wsA := wsA_1 (List.mem_of_getElem? (i := 179) rfl) rfl
theorem wt_1_180 : (Jvm.Cond.lays "java/lang/IllegalArgumentException" "java/lang/Throwable" "backtrace" "Ljava/lang/Object;") ∈ wsA := wsA_1 (List.mem_of_getElem? (i := 180) rfl) rfl
theorem wt_1_181 : (Jvm.Cond.lays "java/lang/Throwable" "java/lang/Throwable" "backtrace" "Ljava/lang/Object;") ∈ wsA := wsA_1 (List.mem_of_getElem? (i := 181) rfl) rfl
theorem wt_1_182 : (Jvm.Cond.fieldLink "java/lang/Throwable" (198 : Nat) "java/lang/Throwable" "backtrace" "Ljava/lang/Object;") ∈ wsA := wsA_1 (List.mem_of_getElem? (i := 182) rfl) rfl
theorem wt_1_184 : (Jvm.Cond.instanceMethod ({ cls := "java/lang/Throwable", name := "<init>", desc := "()V" } : Jvm.MethodName)) ∈ wsA := wsA_1 (List.mem_of_getElem? (i := 184) rfl) rfl
theorem wt_1_185 : (Jvm.Cond.code ({ cls := "java/lang/Throwable", name := "<init>", desc := "()V" } : Jvm.MethodName) prog_18_method_1_code (1 : Nat) (Option.none : Option Jvm.ClassFile.FieldType)) ∈ wsA := wsA_1 (List.mem_of_getElem? (i := 185) rfl) rfl
theorem wt_1_186 : (Jvm.Cond.methodLink "java/lang/Throwable" (1 : Nat) ({ cls := "java/lang/Object", name := "<init>", desc := "()V" } : Jvm.MethodName)) ∈ wsA := wsA_1 (List.mem_of_getElem? (i := 186) rfl) rfl
theorem wt_1_187 : (Jvm.Cond.fieldLink "java/lang/Throwable" (13 : Nat) "java/lang/Throwable" "UNASSIGNED_STACK" "[Ljava/lang/StackTraceElement;") ∈ wsA := wsA_1 (List.mem_of_getElem? (i := 187) rfl) rfl
theorem wt_1_189 : (Jvm.Cond.fieldLink "java/lang/Throwable" (20 : Nat) "java/lang/Throwable" "SUPPRESSED_SENTINEL" "Ljava/util/List;") ∈ wsA := wsA_1 (List.mem_of_getElem? (i := 189) rfl) rfl
theorem wt_1_191 : (Jvm.Cond.methodLink "java/lang/Throwable" (27 : Nat) ({ cls := "java/lang/Throwable", name := "fillInStackTrace", desc := "()Ljava/lang/Throwable;" } : Jvm.MethodName)) ∈ wsA := wsA_1 (List.mem_of_getElem? (i := 191) rfl) rfl
theorem wt_1_192 : (Jvm.Cond.instanceMethod ({ cls := "java/lang/Throwable", name := "fillInStackTrace", desc := "()Ljava/lang/Throwable;" } : Jvm.MethodName)) ∈ wsA := wsA_1 (List.mem_of_getElem? (i := 192) rfl) rfl
theorem wt_1_194 : (Jvm.Cond.selects "java/lang/IllegalStateException" ({ cls := "java/lang/Throwable", name := "fillInStackTrace", desc := "()Ljava/lang/Throwable;" } : Jvm.MethodName) ({ cls := "java/lang/Throwable", name := "fillInStackTrace", desc := "()Ljava/lang/Throwable;" } : Jvm.MethodName)) ∈ wsA := wsA_1 (List.mem_of_getElem? (i := 194) rfl) rfl
theorem wt_1_195 : (Jvm.Cond.selects "java/lang/IndexOutOfBoundsException" ({ cls := "java/lang/Throwable", name := "fillInStackTrace", desc := "()Ljava/lang/Throwable;" } : Jvm.MethodName) ({ cls := "java/lang/Throwable", name := "fillInStackTrace", desc := "()Ljava/lang/Throwable;" } : Jvm.MethodName)) ∈ wsA := wsA_1 (List.mem_of_getElem? (i := 195) rfl) rfl
theorem wt_1_197 : (Jvm.Cond.methodLink "java/lang/Throwable" (202 : Nat) ({ cls := "java/lang/Throwable", name := "fillInStackTrace", desc := "(I)Ljava/lang/Throwable;" } : Jvm.MethodName)) ∈ wsA := wsA_1 (List.mem_of_getElem? (i := 197) rfl) rfl
theorem wt_1_199 : (Jvm.Cond.instanceMethod ({ cls := "java/lang/Throwable", name := "fillInStackTrace", desc := "(I)Ljava/lang/Throwable;" } : Jvm.MethodName)) ∈ wsA := wsA_1 (List.mem_of_getElem? (i := 199) rfl) rfl
theorem wt_1_200 : (Jvm.Cond.instantiable "java/lang/Throwable" (6 : Nat)) ∈ wsA := wsA_1 (List.mem_of_getElem? (i := 200) rfl) rfl
theorem wt_1_203 : (Jvm.Cond.methodLink "BitNotation" (57 : Nat) ({ cls := "java/lang/IllegalArgumentException", name := "<init>", desc := "(Ljava/lang/String;)V" } : Jvm.MethodName)) ∈ wsA := wsA_1 (List.mem_of_getElem? (i := 203) rfl) rfl
theorem wt_1_204 : (Jvm.Cond.instanceMethod ({ cls := "java/lang/IllegalArgumentException", name := "<init>", desc := "(Ljava/lang/String;)V" } : Jvm.MethodName)) ∈ wsA := wsA_1 (List.mem_of_getElem? (i := 204) rfl) rfl
theorem wt_1_205 : (Jvm.Cond.code ({ cls := "java/lang/IllegalArgumentException", name := "<init>", desc := "(Ljava/lang/String;)V" } : Jvm.MethodName) prog_12_method_2_code (2 : Nat) (Option.none : Option Jvm.ClassFile.FieldType)) ∈ wsA := wsA_1 (List.mem_of_getElem? (i := 205) rfl) rfl
theorem wt_1_206 : (Jvm.Cond.methodLink "java/lang/IllegalArgumentException" (7 : Nat) ({ cls := "java/lang/RuntimeException", name := "<init>", desc := "(Ljava/lang/String;)V" } : Jvm.MethodName)) ∈ wsA := wsA_1 (List.mem_of_getElem? (i := 206) rfl) rfl
theorem wt_1_207 : (Jvm.Cond.instanceMethod ({ cls := "java/lang/RuntimeException", name := "<init>", desc := "(Ljava/lang/String;)V" } : Jvm.MethodName)) ∈ wsA := wsA_1 (List.mem_of_getElem? (i := 207) rfl) rfl
theorem wt_1_208 : (Jvm.Cond.code ({ cls := "java/lang/RuntimeException", name := "<init>", desc := "(Ljava/lang/String;)V" } : Jvm.MethodName) prog_16_method_2_code (2 : Nat) (Option.none : Option Jvm.ClassFile.FieldType)) ∈ wsA := wsA_1 (List.mem_of_getElem? (i := 208) rfl) rfl
theorem wt_1_209 : (Jvm.Cond.methodLink "java/lang/RuntimeException" (7 : Nat) ({ cls := "java/lang/Exception", name := "<init>", desc := "(Ljava/lang/String;)V" } : Jvm.MethodName)) ∈ wsA := wsA_1 (List.mem_of_getElem? (i := 209) rfl) rfl
theorem wt_1_210 : (Jvm.Cond.instanceMethod ({ cls := "java/lang/Exception", name := "<init>", desc := "(Ljava/lang/String;)V" } : Jvm.MethodName)) ∈ wsA := wsA_1 (List.mem_of_getElem? (i := 210) rfl) rfl
theorem wt_1_211 : (Jvm.Cond.code ({ cls := "java/lang/Exception", name := "<init>", desc := "(Ljava/lang/String;)V" } : Jvm.MethodName) prog_11_method_2_code (2 : Nat) (Option.none : Option Jvm.ClassFile.FieldType)) ∈ wsA := wsA_1 (List.mem_of_getElem? (i := 211) rfl) rfl
theorem wt_1_212 : (Jvm.Cond.methodLink "java/lang/Exception" (7 : Nat) ({ cls := "java/lang/Throwable", name := "<init>", desc := "(Ljava/lang/String;)V" } : Jvm.MethodName)) ∈ wsA := wsA_1 (List.mem_of_getElem? (i := 212) rfl) rfl
theorem wt_1_213 : (Jvm.Cond.instanceMethod ({ cls := "java/lang/Throwable", name := "<init>", desc := "(Ljava/lang/String;)V" } : Jvm.MethodName)) ∈ wsA := wsA_1 (List.mem_of_getElem? (i := 213) rfl) rfl
theorem wt_1_214 : (Jvm.Cond.code ({ cls := "java/lang/Throwable", name := "<init>", desc := "(Ljava/lang/String;)V" } : Jvm.MethodName) prog_18_method_2_code (2 : Nat) (Option.none : Option Jvm.ClassFile.FieldType)) ∈ wsA := wsA_1 (List.mem_of_getElem? (i := 214) rfl) rfl
theorem wt_1_216 : (Jvm.Cond.fieldLink "java/lang/Throwable" (31 : Nat) "java/lang/Throwable" "detailMessage" "Ljava/lang/String;") ∈ wsA := wsA_1 (List.mem_of_getElem? (i := 216) rfl) rfl
theorem wt_1_217 : (Jvm.Cond.fieldLink "java/lang/Throwable" (7 : Nat) "java/lang/Throwable" "cause" "Ljava/lang/Throwable;") ∈ wsA := wsA_1 (List.mem_of_getElem? (i := 217) rfl) rfl
theorem wt_1_218 : (Jvm.Cond.fieldLink "java/lang/Throwable" (17 : Nat) "java/lang/Throwable" "stackTrace" "[Ljava/lang/StackTraceElement;") ∈ wsA := wsA_1 (List.mem_of_getElem? (i := 218) rfl) rfl
theorem wt_1_219 : (Jvm.Cond.fieldLink "java/lang/Throwable" (24 : Nat) "java/lang/Throwable" "suppressedExceptions" "Ljava/util/List;") ∈ wsA := wsA_1 (List.mem_of_getElem? (i := 219) rfl) rfl
theorem wt_1_224 : (Jvm.Cond.lays "java/lang/IllegalArgumentException" "java/lang/Throwable" "depth" "I") ∈ wsA := wsA_1 (List.mem_of_getElem? (i := 224) rfl) rfl
theorem wt_1_228 : (Jvm.Cond.arrayClass Jvm.ClassFile.FieldType.byte) ∈ wsA := wsA_1 (List.mem_of_getElem? (i := 228) rfl) rfl
theorem wt_1_229 : (Jvm.Cond.classLink "BitNotation" (60 : Nat) "BitNotation$Type") ∈ wsA := wsA_1 (List.mem_of_getElem? (i := 229) rfl) rfl
theorem wt_1_230 : (Jvm.Cond.instantiable "BitNotation$Type" (10 : Nat)) ∈ wsA := wsA_1 (List.mem_of_getElem? (i := 230) rfl) rfl
theorem wt_1_231 : (Jvm.Cond.fieldLink "BitNotation" (62 : Nat) "BitNotation$Kind" "NUMBER" "LBitNotation$Kind;") ∈ wsA := wsA_1 (List.mem_of_getElem? (i := 231) rfl) rfl
theorem wt_1_233 : (Jvm.Cond.methodLink "BitNotation" (68 : Nat) ({ cls := "BitNotation$Type", name := "<init>", desc := "(LBitNotation$Kind;IILBitNotation$TypeRow;I)V" } : Jvm.MethodName)) ∈ wsA := wsA_1 (List.mem_of_getElem? (i := 233) rfl) rfl
theorem wt_1_234 : (Jvm.Cond.instanceMethod ({ cls := "BitNotation$Type", name := "<init>", desc := "(LBitNotation$Kind;IILBitNotation$TypeRow;I)V" } : Jvm.MethodName)) ∈ wsA := wsA_1 (List.mem_of_getElem? (i := 234) rfl) rfl
theorem wt_1_235 : (Jvm.Cond.code ({ cls := "BitNotation$Type", name := "<init>", desc := "(LBitNotation$Kind;IILBitNotation$TypeRow;I)V" } : Jvm.MethodName) prog_5_method_1_code (6 : Nat) (Option.none : Option Jvm.ClassFile.FieldType)) ∈ wsA := wsA_1 (List.mem_of_getElem? (i := 235) rfl) rfl
theorem wt_1_236 : (Jvm.Cond.methodLink "BitNotation$Type" (3 : Nat) ({ cls := "java/lang/Object", name := "<init>", desc := "()V" } : Jvm.MethodName)) ∈ wsA := wsA_1 (List.mem_of_getElem? (i := 236) rfl) rfl
theorem wt_1_238 : (Jvm.Cond.static ({ cls := "BitNotation", name := "widthFor", desc := "(I)I" } : Jvm.MethodName)) ∈ wsA := wsA_1 (List.mem_of_getElem? (i := 238) rfl) rfl
theorem wt_1_239 : (Jvm.Cond.code ({ cls := "BitNotation", name := "widthFor", desc := "(I)I" } : Jvm.MethodName) prog_1_method_28_code (2 : Nat) (Option.some Jvm.ClassFile.FieldType.int)) ∈ wsA := wsA_1 (List.mem_of_getElem? (i := 239) rfl) rfl
theorem wt_2_0 : (Jvm.Cond.classLink "BitNotation$Type" (45 : Nat) "BitNotation$TypeRow") ∈ wsA := wsA_2 (List.mem_of_getElem? (i := 0) rfl) rfl
theorem wt_2_1 : (Jvm.Cond.fieldLink "BitNotation$Type" (47 : Nat) "BitNotation$Kind" "SEQUENCE" "LBitNotation$Kind;") ∈ wsA := wsA_2 (List.mem_of_getElem? (i := 1) rfl) rfl
theorem wt_2_3 : (Jvm.Cond.methodLink "BitNotation$Type" (52 : Nat) ({ cls := "BitNotation$TypeRow", name := "<init>", desc := "(I)V" } : Jvm.MethodName)) ∈ wsA := wsA_2 (List.mem_of_getElem? (i := 3) rfl) rfl
theorem wt_2_4 : (Jvm.Cond.fieldLink "BitNotation$Type" (21 : Nat) "BitNotation$Type" "kind" "LBitNotation$Kind;") ∈ wsA := wsA_2 (List.mem_of_getElem? (i := 4) rfl) rfl
theorem wt_2_8 : (Jvm.Cond.fieldLink "BitNotation$Type" (25 : Nat) "BitNotation$Type" "least" "I") ∈ wsA := wsA_2 (List.mem_of_getElem? (i := 8) rfl) rfl
theorem wt_2_11 : (Jvm.Cond.fieldLink "BitNotation$Type" (28 : Nat) "BitNotation$Type" "greatest" "I") ∈ wsA := wsA_2 (List.mem_of_getElem? (i := 11) rfl) rfl
theorem wt_2_14 : (Jvm.Cond.fieldLink "BitNotation$Type" (35 : Nat) "BitNotation$Type" "width" "I") ∈ wsA := wsA_2 (List.mem_of_getElem? (i := 14) rfl) rfl
theorem wt_2_17 : (Jvm.Cond.fieldLink "BitNotation$Type" (38 : Nat) "BitNotation$Type" "parts" "LBitNotation$TypeRow;") ∈ wsA := wsA_2 (List.mem_of_getElem? (i := 17) rfl) rfl
theorem wt_2_20 : (Jvm.Cond.fieldLink "BitNotation$Type" (42 : Nat) "BitNotation$Type" "optional" "I") ∈ wsA := wsA_2 (List.mem_of_getElem? (i := 20) rfl) rfl
theorem wt_2_21 : (Jvm.Cond.fieldLink "BitNotation$Type" (55 : Nat) "BitNotation$Type" "additions" "LBitNotation$TypeRow;") ∈ wsA := wsA_2 (List.mem_of_getElem? (i := 21) rfl) rfl
theorem wt_2_25 : (Jvm.Cond.fieldLink "BitNotation$Type" (9 : Nat) "BitNotation$Type" "fewestBits" "I") ∈ wsA := wsA_2 (List.mem_of_getElem? (i := 25) rfl) rfl
theorem wt_2_27 : (Jvm.Cond.fieldLink "BitNotation$Type" (15 : Nat) "BitNotation$Type" "mostBits" "I") ∈ wsA := wsA_2 (List.mem_of_getElem? (i := 27) rfl) rfl
theorem wt_2_29 : (Jvm.Cond.fieldLink "BitNotation$Type" (18 : Nat) "BitNotation$Type" "mostNumbers" "I") ∈ wsA := wsA_2 (List.mem_of_getElem? (i := 29) rfl) rfl
theorem wt_2_30 : (Jvm.Cond.laysFinal "BitNotation$Type" "BitNotation$Type" "kind" "LBitNotation$Kind;") ∈ wsA := wsA_2 (List.mem_of_getElem? (i := 30) rfl) rfl
theorem wt_2_32 : (Jvm.Cond.laysFinal "BitNotation$Type" "BitNotation$Type" "least" "I") ∈ wsA := wsA_2 (List.mem_of_getElem? (i := 32) rfl) rfl
theorem wt_2_34 : (Jvm.Cond.laysFinal "BitNotation$Type" "BitNotation$Type" "greatest" "I") ∈ wsA := wsA_2 (List.mem_of_getElem? (i := 34) rfl) rfl
theorem wt_2_36 : (Jvm.Cond.laysFinal "BitNotation$Type" "BitNotation$Type" "width" "I") ∈ wsA := wsA_2 (List.mem_of_getElem? (i := 36) rfl) rfl
theorem wt_2_38 : (Jvm.Cond.laysFinal "BitNotation$Type" "BitNotation$Type" "parts" "LBitNotation$TypeRow;") ∈ wsA := wsA_2 (List.mem_of_getElem? (i := 38) rfl) rfl
theorem wt_2_40 : (Jvm.Cond.laysFinal "BitNotation$Type" "BitNotation$Type" "optional" "I") ∈ wsA := wsA_2 (List.mem_of_getElem? (i := 40) rfl) rfl
theorem wt_2_42 : (Jvm.Cond.laysFinal "BitNotation$Type" "BitNotation$Type" "additions" "LBitNotation$TypeRow;") ∈ wsA := wsA_2 (List.mem_of_getElem? (i := 42) rfl) rfl
theorem wt_2_44 : (Jvm.Cond.lays "BitNotation$Type" "BitNotation$Type" "fewestBits" "I") ∈ wsA := wsA_2 (List.mem_of_getElem? (i := 44) rfl) rfl
theorem wt_2_46 : (Jvm.Cond.lays "BitNotation$Type" "BitNotation$Type" "mostBits" "I") ∈ wsA := wsA_2 (List.mem_of_getElem? (i := 46) rfl) rfl
theorem wt_2_48 : (Jvm.Cond.lays "BitNotation$Type" "BitNotation$Type" "mostNumbers" "I") ∈ wsA := wsA_2 (List.mem_of_getElem? (i := 48) rfl) rfl
theorem wt_2_51 : (Jvm.Cond.methodLink "BitNotation" (71 : Nat) ({ cls := "BitNotation", name := "keep", desc := "(LBitNotation$Type;)I" } : Jvm.MethodName)) ∈ wsA := wsA_2 (List.mem_of_getElem? (i := 51) rfl) rfl
theorem wt_2_53 : (Jvm.Cond.instanceMethod ({ cls := "BitNotation", name := "keep", desc := "(LBitNotation$Type;)I" } : Jvm.MethodName)) ∈ wsA := wsA_2 (List.mem_of_getElem? (i := 53) rfl) rfl
theorem wt_2_54 : (Jvm.Cond.code ({ cls := "BitNotation", name := "keep", desc := "(LBitNotation$Type;)I" } : Jvm.MethodName) prog_1_method_25_code (2 : Nat) (Option.some Jvm.ClassFile.FieldType.int)) ∈ wsA := wsA_2 (List.mem_of_getElem? (i := 54) rfl) rfl
theorem wt_2_55 : (Jvm.Cond.methodLink "BitNotation" (88 : Nat) ({ cls := "BitNotation$TypeRow", name := "isFull", desc := "()Z" } : Jvm.MethodName)) ∈ wsA := wsA_2 (List.mem_of_getElem? (i := 55) rfl) rfl
theorem wt_2_56 : (Jvm.Cond.instanceMethod ({ cls := "BitNotation$TypeRow", name := "isFull", desc := "()Z" } : Jvm.MethodName)) ∈ wsA := wsA_2 (List.mem_of_getElem? (i := 56) rfl) rfl
theorem wt_2_57 : (Jvm.Cond.selects "BitNotation$TypeRow" ({ cls := "BitNotation$TypeRow", name := "isFull", desc := "()Z" } : Jvm.MethodName) ({ cls := "BitNotation$TypeRow", name := "isFull", desc := "()Z" } : Jvm.MethodName)) ∈ wsA := wsA_2 (List.mem_of_getElem? (i := 57) rfl) rfl
theorem wt_2_58 : (Jvm.Cond.code ({ cls := "BitNotation$TypeRow", name := "isFull", desc := "()Z" } : Jvm.MethodName) prog_6_method_3_code (1 : Nat) (Option.some Jvm.ClassFile.FieldType.boolean)) ∈ wsA := wsA_2 (List.mem_of_getElem? (i := 58) rfl) rfl
theorem wt_2_59 : (Jvm.Cond.methodLink "BitNotation" (192 : Nat) ({ cls := "BitNotation$Type", name := "measure", desc := "()Z" } : Jvm.MethodName)) ∈ wsA := wsA_2 (List.mem_of_getElem? (i := 59) rfl) rfl
theorem wt_2_60 : (Jvm.Cond.instanceMethod ({ cls := "BitNotation$Type", name := "measure", desc := "()Z" } : Jvm.MethodName)) ∈ wsA := wsA_2 (List.mem_of_getElem? (i := 60) rfl) rfl
theorem wt_2_61 : (Jvm.Cond.selects "BitNotation$Type" ({ cls := "BitNotation$Type", name := "measure", desc := "()Z" } : Jvm.MethodName) ({ cls := "BitNotation$Type", name := "measure", desc := "()Z" } : Jvm.MethodName)) ∈ wsA := wsA_2 (List.mem_of_getElem? (i := 61) rfl) rfl
theorem wt_2_62 : (Jvm.Cond.code ({ cls := "BitNotation$Type", name := "measure", desc := "()Z" } : Jvm.MethodName) prog_5_method_3_code (1 : Nat) (Option.some Jvm.ClassFile.FieldType.boolean)) ∈ wsA := wsA_2 (List.mem_of_getElem? (i := 62) rfl) rfl
theorem wt_2_63 : (Jvm.Cond.fieldLink "BitNotation$Type" (58 : Nat) "BitNotation$Kind" "LIST" "LBitNotation$Kind;") ∈ wsA := wsA_2 (List.mem_of_getElem? (i := 63) rfl) rfl
theorem wt_2_65 : (Jvm.Cond.methodLink "BitNotation$Type" (61 : Nat) ({ cls := "BitNotation$Type", name := "measureThings", desc := "()V" } : Jvm.MethodName)) ∈ wsA := wsA_2 (List.mem_of_getElem? (i := 65) rfl) rfl
theorem wt_2_67 : (Jvm.Cond.instanceMethod ({ cls := "BitNotation$Type", name := "measureThings", desc := "()V" } : Jvm.MethodName)) ∈ wsA := wsA_2 (List.mem_of_getElem? (i := 67) rfl) rfl
theorem wt_2_68 : (Jvm.Cond.code ({ cls := "BitNotation$Type", name := "measureThings", desc := "()V" } : Jvm.MethodName) prog_5_method_4_code (2 : Nat) (Option.none : Option Jvm.ClassFile.FieldType)) ∈ wsA := wsA_2 (List.mem_of_getElem? (i := 68) rfl) rfl
theorem wt_2_69 : (Jvm.Cond.methodLink "BitNotation$Type" (76 : Nat) ({ cls := "BitNotation$TypeRow", name := "at", desc := "(I)LBitNotation$Type;" } : Jvm.MethodName)) ∈ wsA := wsA_2 (List.mem_of_getElem? (i := 69) rfl) rfl
theorem wt_2_70 : (Jvm.Cond.instanceMethod ({ cls := "BitNotation$TypeRow", name := "at", desc := "(I)LBitNotation$Type;" } : Jvm.MethodName)) ∈ wsA := wsA_2 (List.mem_of_getElem? (i := 70) rfl) rfl
theorem wt_2_71 : (Jvm.Cond.selects "BitNotation$TypeRow" ({ cls := "BitNotation$TypeRow", name := "at", desc := "(I)LBitNotation$Type;" } : Jvm.MethodName) ({ cls := "BitNotation$TypeRow", name := "at", desc := "(I)LBitNotation$Type;" } : Jvm.MethodName)) ∈ wsA := wsA_2 (List.mem_of_getElem? (i := 71) rfl) rfl
theorem wt_2_72 : (Jvm.Cond.code ({ cls := "BitNotation$TypeRow", name := "at", desc := "(I)LBitNotation$Type;" } : Jvm.MethodName) prog_6_method_4_code (2 : Nat) (Option.some (Jvm.ClassFile.FieldType.object "BitNotation$Type"))) ∈ wsA := wsA_2 (List.mem_of_getElem? (i := 72) rfl) rfl
theorem wt_2_73 : (Jvm.Cond.fieldLink "BitNotation$Type" (64 : Nat) "BitNotation$Kind" "CHOICE" "LBitNotation$Kind;") ∈ wsA := wsA_2 (List.mem_of_getElem? (i := 73) rfl) rfl
theorem wt_2_75 : (Jvm.Cond.methodLink "BitNotation$Type" (67 : Nat) ({ cls := "BitNotation$Type", name := "measureChoices", desc := "()V" } : Jvm.MethodName)) ∈ wsA := wsA_2 (List.mem_of_getElem? (i := 75) rfl) rfl
theorem wt_2_77 : (Jvm.Cond.instanceMethod ({ cls := "BitNotation$Type", name := "measureChoices", desc := "()V" } : Jvm.MethodName)) ∈ wsA := wsA_2 (List.mem_of_getElem? (i := 77) rfl) rfl
theorem wt_2_78 : (Jvm.Cond.code ({ cls := "BitNotation$Type", name := "measureChoices", desc := "()V" } : Jvm.MethodName) prog_5_method_5_code (6 : Nat) (Option.none : Option Jvm.ClassFile.FieldType)) ∈ wsA := wsA_2 (List.mem_of_getElem? (i := 78) rfl) rfl
theorem wt_2_79 : (Jvm.Cond.methodLink "BitNotation$Type" (80 : Nat) ({ cls := "BitNotation$TypeRow", name := "size", desc := "()I" } : Jvm.MethodName)) ∈ wsA := wsA_2 (List.mem_of_getElem? (i := 79) rfl) rfl
theorem wt_2_80 : (Jvm.Cond.methodLink "BitNotation$Type" (84 : Nat) ({ cls := "java/lang/Math", name := "min", desc := "(II)I" } : Jvm.MethodName)) ∈ wsA := wsA_2 (List.mem_of_getElem? (i := 80) rfl) rfl
theorem wt_2_81 : (Jvm.Cond.static ({ cls := "java/lang/Math", name := "min", desc := "(II)I" } : Jvm.MethodName)) ∈ wsA := wsA_2 (List.mem_of_getElem? (i := 81) rfl) rfl
theorem wt_2_82 : (Jvm.Cond.code ({ cls := "java/lang/Math", name := "min", desc := "(II)I" } : Jvm.MethodName) prog_15_method_69_code (2 : Nat) (Option.some Jvm.ClassFile.FieldType.int)) ∈ wsA := wsA_2 (List.mem_of_getElem? (i := 82) rfl) rfl
theorem wt_2_83 : (Jvm.Cond.methodLink "BitNotation$Type" (90 : Nat) ({ cls := "java/lang/Math", name := "max", desc := "(II)I" } : Jvm.MethodName)) ∈ wsA := wsA_2 (List.mem_of_getElem? (i := 83) rfl) rfl
theorem wt_2_84 : (Jvm.Cond.methodLink "BitNotation$Type" (70 : Nat) ({ cls := "BitNotation$Type", name := "measureParts", desc := "()V" } : Jvm.MethodName)) ∈ wsA := wsA_2 (List.mem_of_getElem? (i := 84) rfl) rfl
theorem wt_2_86 : (Jvm.Cond.instanceMethod ({ cls := "BitNotation$Type", name := "measureParts", desc := "()V" } : Jvm.MethodName)) ∈ wsA := wsA_2 (List.mem_of_getElem? (i := 86) rfl) rfl
theorem wt_2_87 : (Jvm.Cond.code ({ cls := "BitNotation$Type", name := "measureParts", desc := "()V" } : Jvm.MethodName) prog_5_method_6_code (4 : Nat) (Option.none : Option Jvm.ClassFile.FieldType)) ∈ wsA := wsA_2 (List.mem_of_getElem? (i := 87) rfl) rfl
theorem wt_2_88 : (Jvm.Cond.methodLink "BitNotation$Type" (93 : Nat) ({ cls := "BitNotation$Type", name := "isOptional", desc := "(I)Z" } : Jvm.MethodName)) ∈ wsA := wsA_2 (List.mem_of_getElem? (i := 88) rfl) rfl
theorem wt_2_89 : (Jvm.Cond.instanceMethod ({ cls := "BitNotation$Type", name := "isOptional", desc := "(I)Z" } : Jvm.MethodName)) ∈ wsA := wsA_2 (List.mem_of_getElem? (i := 89) rfl) rfl
theorem wt_2_90 : (Jvm.Cond.selects "BitNotation$Type" ({ cls := "BitNotation$Type", name := "isOptional", desc := "(I)Z" } : Jvm.MethodName) ({ cls := "BitNotation$Type", name := "isOptional", desc := "(I)Z" } : Jvm.MethodName)) ∈ wsA := wsA_2 (List.mem_of_getElem? (i := 90) rfl) rfl
theorem wt_2_91 : (Jvm.Cond.code ({ cls := "BitNotation$Type", name := "isOptional", desc := "(I)Z" } : Jvm.MethodName) prog_5_method_2_code (2 : Nat) (Option.some Jvm.ClassFile.FieldType.boolean)) ∈ wsA := wsA_2 (List.mem_of_getElem? (i := 91) rfl) rfl
theorem wt_2_92 : (Jvm.Cond.methodLink "BitNotation$Type" (73 : Nat) ({ cls := "BitNotation$Type", name := "measureAdditions", desc := "()V" } : Jvm.MethodName)) ∈ wsA := wsA_2 (List.mem_of_getElem? (i := 92) rfl) rfl
theorem wt_2_94 : (Jvm.Cond.instanceMethod ({ cls := "BitNotation$Type", name := "measureAdditions", desc := "()V" } : Jvm.MethodName)) ∈ wsA := wsA_2 (List.mem_of_getElem? (i := 94) rfl) rfl
theorem wt_2_95 : (Jvm.Cond.code ({ cls := "BitNotation$Type", name := "measureAdditions", desc := "()V" } : Jvm.MethodName) prog_5_method_7_code (3 : Nat) (Option.none : Option Jvm.ClassFile.FieldType)) ∈ wsA := wsA_2 (List.mem_of_getElem? (i := 95) rfl) rfl
theorem wt_2_96 : (Jvm.Cond.classLink "BitNotation" (92 : Nat) "java/lang/IllegalStateException") ∈ wsA := wsA_2 (List.mem_of_getElem? (i := 96) rfl) rfl
theorem wt_2_97 : (Jvm.Cond.instantiable "java/lang/IllegalStateException" (6 : Nat)) ∈ wsA := wsA_2 (List.mem_of_getElem? (i := 97) rfl) rfl
theorem wt_2_99 : (Jvm.Cond.selects "java/lang/IllegalStateException" ({ cls := "java/lang/Throwable", name := "fillInStackTrace", desc := "(I)Ljava/lang/Throwable;" } : Jvm.MethodName) ({ cls := "java/lang/Throwable", name := "fillInStackTrace", desc := "(I)Ljava/lang/Throwable;" } : Jvm.MethodName)) ∈ wsA := wsA_2 (List.mem_of_getElem? (i := 99) rfl) rfl
theorem wt_2_100 : (Jvm.Cond.lays "java/lang/IllegalStateException" "java/lang/Throwable" "cause" "Ljava/lang/Throwable;") ∈ wsA := wsA_2 (List.mem_of_getElem? (i := 100) rfl) rfl
theorem wt_2_101 : (Jvm.Cond.lays "java/lang/IllegalStateException" "java/lang/Throwable" "stackTrace" "[Ljava/lang/StackTraceElement;") ∈ wsA := wsA_2 (List.mem_of_getElem? (i := 101) rfl) rfl
theorem wt_2_102 : (Jvm.Cond.lays "java/lang/IllegalStateException" "java/lang/Throwable" "suppressedExceptions" "Ljava/util/List;") ∈ wsA := wsA_2 (List.mem_of_getElem? (i := 102) rfl) rfl
theorem wt_2_103 : (Jvm.Cond.lays "java/lang/IllegalStateException" "java/lang/Throwable" "detailMessage" "Ljava/lang/String;") ∈ wsA := wsA_2 (List.mem_of_getElem? (i := 103) rfl) rfl
theorem wt_2_104 : (Jvm.Cond.lays "java/lang/IllegalStateException" "java/lang/Throwable" "backtrace" "Ljava/lang/Object;") ∈ wsA := wsA_2 (List.mem_of_getElem? (i := 104) rfl) rfl
theorem wt_2_106 : (Jvm.Cond.methodLink "BitNotation" (96 : Nat) ({ cls := "java/lang/IllegalStateException", name := "<init>", desc := "(Ljava/lang/String;)V" } : Jvm.MethodName)) ∈ wsA := wsA_2 (List.mem_of_getElem? (i := 106) rfl) rfl
theorem wt_2_107 : (Jvm.Cond.instanceMethod ({ cls := "java/lang/IllegalStateException", name := "<init>", desc := "(Ljava/lang/String;)V" } : Jvm.MethodName)) ∈ wsA := wsA_2 (List.mem_of_getElem? (i := 107) rfl) rfl
theorem wt_2_108 : (Jvm.Cond.code ({ cls := "java/lang/IllegalStateException", name := "<init>", desc := "(Ljava/lang/String;)V" } : Jvm.MethodName) prog_13_method_2_code (2 : Nat) (Option.none : Option Jvm.ClassFile.FieldType)) ∈ wsA := wsA_2 (List.mem_of_getElem? (i := 108) rfl) rfl
theorem wt_2_109 : (Jvm.Cond.methodLink "java/lang/IllegalStateException" (7 : Nat) ({ cls := "java/lang/RuntimeException", name := "<init>", desc := "(Ljava/lang/String;)V" } : Jvm.MethodName)) ∈ wsA := wsA_2 (List.mem_of_getElem? (i := 109) rfl) rfl
theorem wt_2_110 : (Jvm.Cond.lays "java/lang/IllegalStateException" "java/lang/Throwable" "depth" "I") ∈ wsA := wsA_2 (List.mem_of_getElem? (i := 110) rfl) rfl
theorem wt_2_112 : (Jvm.Cond.methodLink "BitNotation" (81 : Nat) ({ cls := "BitNotation$TypeRow", name := "append", desc := "(LBitNotation$Type;)V" } : Jvm.MethodName)) ∈ wsA := wsA_2 (List.mem_of_getElem? (i := 112) rfl) rfl
theorem wt_2_113 : (Jvm.Cond.instanceMethod ({ cls := "BitNotation$TypeRow", name := "append", desc := "(LBitNotation$Type;)V" } : Jvm.MethodName)) ∈ wsA := wsA_2 (List.mem_of_getElem? (i := 113) rfl) rfl
theorem wt_2_114 : (Jvm.Cond.selects "BitNotation$TypeRow" ({ cls := "BitNotation$TypeRow", name := "append", desc := "(LBitNotation$Type;)V" } : Jvm.MethodName) ({ cls := "BitNotation$TypeRow", name := "append", desc := "(LBitNotation$Type;)V" } : Jvm.MethodName)) ∈ wsA := wsA_2 (List.mem_of_getElem? (i := 114) rfl) rfl
theorem wt_2_115 : (Jvm.Cond.code ({ cls := "BitNotation$TypeRow", name := "append", desc := "(LBitNotation$Type;)V" } : Jvm.MethodName) prog_6_method_5_code (2 : Nat) (Option.none : Option Jvm.ClassFile.FieldType)) ∈ wsA := wsA_2 (List.mem_of_getElem? (i := 115) rfl) rfl
theorem wt_2_116 : (Jvm.Cond.methodLink "BitNotationLaw" (84 : Nat) ({ cls := "BitNotationLaw", name := "addList", desc := "(LBitNotation;III[J)I" } : Jvm.MethodName)) ∈ wsA := wsA_2 (List.mem_of_getElem? (i := 116) rfl) rfl
theorem wt_2_117 : (Jvm.Cond.static ({ cls := "BitNotationLaw", name := "addList", desc := "(LBitNotation;III[J)I" } : Jvm.MethodName)) ∈ wsA := wsA_2 (List.mem_of_getElem? (i := 117) rfl) rfl
theorem wt_2_118 : (Jvm.Cond.codeWith ({ cls := "BitNotationLaw", name := "addList", desc := "(LBitNotation;III[J)I" } : Jvm.MethodName) method_4_code (6 : Nat) (Option.some Jvm.ClassFile.FieldType.int) [((0 : Nat), (12 : Nat), (15 : Nat), (21 : Nat)), ((0 : Nat), (12 : Nat), (19 : Nat), (13 : Nat)), ((0 : Nat), (12 : Nat), (23 : Nat), (15 : Nat))]) ∈ wsA := wsA_2 (List.mem_of_getElem? (i := 118) rfl) rfl
theorem wt_2_119 : (Jvm.Cond.classLink "BitNotationLaw" (21 : Nat) "java/lang/IndexOutOfBoundsException") ∈ wsA := wsA_2 (List.mem_of_getElem? (i := 119) rfl) rfl
theorem wt_2_120 : (Jvm.Cond.methodLink "BitNotationLaw" (17 : Nat) ({ cls := "BitNotation", name := "addList", desc := "(III)I" } : Jvm.MethodName)) ∈ wsA := wsA_2 (List.mem_of_getElem? (i := 120) rfl) rfl
theorem wt_2_121 : (Jvm.Cond.instanceMethod ({ cls := "BitNotation", name := "addList", desc := "(III)I" } : Jvm.MethodName)) ∈ wsA := wsA_2 (List.mem_of_getElem? (i := 121) rfl) rfl
theorem wt_2_122 : (Jvm.Cond.selects "BitNotation" ({ cls := "BitNotation", name := "addList", desc := "(III)I" } : Jvm.MethodName) ({ cls := "BitNotation", name := "addList", desc := "(III)I" } : Jvm.MethodName)) ∈ wsA := wsA_2 (List.mem_of_getElem? (i := 122) rfl) rfl
theorem wt_2_123 : (Jvm.Cond.code ({ cls := "BitNotation", name := "addList", desc := "(III)I" } : Jvm.MethodName) prog_1_method_3_code (6 : Nat) (Option.some Jvm.ClassFile.FieldType.int)) ∈ wsA := wsA_2 (List.mem_of_getElem? (i := 123) rfl) rfl
theorem wt_2_124 : (Jvm.Cond.methodLink "BitNotation" (75 : Nat) ({ cls := "BitNotation", name := "typeNumbered", desc := "(I)LBitNotation$Type;" } : Jvm.MethodName)) ∈ wsA := wsA_2 (List.mem_of_getElem? (i := 124) rfl) rfl
theorem wt_2_126 : (Jvm.Cond.instanceMethod ({ cls := "BitNotation", name := "typeNumbered", desc := "(I)LBitNotation$Type;" } : Jvm.MethodName)) ∈ wsA := wsA_2 (List.mem_of_getElem? (i := 126) rfl) rfl
theorem wt_2_127 : (Jvm.Cond.code ({ cls := "BitNotation", name := "typeNumbered", desc := "(I)LBitNotation$Type;" } : Jvm.MethodName) prog_1_method_24_code (3 : Nat) (Option.some (Jvm.ClassFile.FieldType.object "BitNotation$Type"))) ∈ wsA := wsA_2 (List.mem_of_getElem? (i := 127) rfl) rfl
theorem wt_2_128 : (Jvm.Cond.methodLink "BitNotation" (188 : Nat) ({ cls := "BitNotation$TypeRow", name := "at", desc := "(I)LBitNotation$Type;" } : Jvm.MethodName)) ∈ wsA := wsA_2 (List.mem_of_getElem? (i := 128) rfl) rfl
theorem wt_2_129 : (Jvm.Cond.classLink "BitNotation" (149 : Nat) "java/lang/IndexOutOfBoundsException") ∈ wsA := wsA_2 (List.mem_of_getElem? (i := 129) rfl) rfl
theorem wt_2_130 : (Jvm.Cond.instantiable "java/lang/IndexOutOfBoundsException" (6 : Nat)) ∈ wsA := wsA_2 (List.mem_of_getElem? (i := 130) rfl) rfl
theorem wt_2_132 : (Jvm.Cond.selects "java/lang/IndexOutOfBoundsException" ({ cls := "java/lang/Throwable", name := "fillInStackTrace", desc := "(I)Ljava/lang/Throwable;" } : Jvm.MethodName) ({ cls := "java/lang/Throwable", name := "fillInStackTrace", desc := "(I)Ljava/lang/Throwable;" } : Jvm.MethodName)) ∈ wsA := wsA_2 (List.mem_of_getElem? (i := 132) rfl) rfl
theorem wt_2_133 : (Jvm.Cond.lays "java/lang/IndexOutOfBoundsException" "java/lang/Throwable" "cause" "Ljava/lang/Throwable;") ∈ wsA := wsA_2 (List.mem_of_getElem? (i := 133) rfl) rfl
theorem wt_2_134 : (Jvm.Cond.lays "java/lang/IndexOutOfBoundsException" "java/lang/Throwable" "stackTrace" "[Ljava/lang/StackTraceElement;") ∈ wsA := wsA_2 (List.mem_of_getElem? (i := 134) rfl) rfl
theorem wt_2_135 : (Jvm.Cond.lays "java/lang/IndexOutOfBoundsException" "java/lang/Throwable" "suppressedExceptions" "Ljava/util/List;") ∈ wsA := wsA_2 (List.mem_of_getElem? (i := 135) rfl) rfl
theorem wt_2_136 : (Jvm.Cond.lays "java/lang/IndexOutOfBoundsException" "java/lang/Throwable" "detailMessage" "Ljava/lang/String;") ∈ wsA := wsA_2 (List.mem_of_getElem? (i := 136) rfl) rfl
theorem wt_2_137 : (Jvm.Cond.lays "java/lang/IndexOutOfBoundsException" "java/lang/Throwable" "backtrace" "Ljava/lang/Object;") ∈ wsA := wsA_2 (List.mem_of_getElem? (i := 137) rfl) rfl
theorem wt_2_139 : (Jvm.Cond.methodLink "BitNotation" (153 : Nat) ({ cls := "java/lang/IndexOutOfBoundsException", name := "<init>", desc := "(Ljava/lang/String;)V" } : Jvm.MethodName)) ∈ wsA := wsA_2 (List.mem_of_getElem? (i := 139) rfl) rfl
theorem wt_2_140 : (Jvm.Cond.instanceMethod ({ cls := "java/lang/IndexOutOfBoundsException", name := "<init>", desc := "(Ljava/lang/String;)V" } : Jvm.MethodName)) ∈ wsA := wsA_2 (List.mem_of_getElem? (i := 140) rfl) rfl
theorem wt_2_141 : (Jvm.Cond.code ({ cls := "java/lang/IndexOutOfBoundsException", name := "<init>", desc := "(Ljava/lang/String;)V" } : Jvm.MethodName) prog_14_method_2_code (2 : Nat) (Option.none : Option Jvm.ClassFile.FieldType)) ∈ wsA := wsA_2 (List.mem_of_getElem? (i := 141) rfl) rfl
theorem wt_2_142 : (Jvm.Cond.methodLink "java/lang/IndexOutOfBoundsException" (7 : Nat) ({ cls := "java/lang/RuntimeException", name := "<init>", desc := "(Ljava/lang/String;)V" } : Jvm.MethodName)) ∈ wsA := wsA_2 (List.mem_of_getElem? (i := 142) rfl) rfl
theorem wt_2_143 : (Jvm.Cond.lays "java/lang/IndexOutOfBoundsException" "java/lang/Throwable" "depth" "I") ∈ wsA := wsA_2 (List.mem_of_getElem? (i := 143) rfl) rfl
theorem wt_2_146 : (Jvm.Cond.fieldLink "BitNotation" (85 : Nat) "BitNotation$Kind" "LIST" "LBitNotation$Kind;") ∈ wsA := wsA_2 (List.mem_of_getElem? (i := 146) rfl) rfl
theorem wt_2_147 : (Jvm.Cond.methodLink "BitNotationLaw" (88 : Nat) ({ cls := "BitNotationLaw", name := "part", desc := "(LBitNotation;IZ[J)I" } : Jvm.MethodName)) ∈ wsA := wsA_2 (List.mem_of_getElem? (i := 147) rfl) rfl
theorem wt_2_148 : (Jvm.Cond.static ({ cls := "BitNotationLaw", name := "part", desc := "(LBitNotation;IZ[J)I" } : Jvm.MethodName)) ∈ wsA := wsA_2 (List.mem_of_getElem? (i := 148) rfl) rfl
theorem wt_2_149 : (Jvm.Cond.codeWith ({ cls := "BitNotationLaw", name := "part", desc := "(LBitNotation;IZ[J)I" } : Jvm.MethodName) method_5_code (5 : Nat) (Option.some Jvm.ClassFile.FieldType.int) [((0 : Nat), (10 : Nat), (13 : Nat), (21 : Nat)), ((0 : Nat), (10 : Nat), (17 : Nat), (15 : Nat))]) ∈ wsA := wsA_2 (List.mem_of_getElem? (i := 149) rfl) rfl
theorem wt_2_150 : (Jvm.Cond.methodLink "BitNotationLaw" (23 : Nat) ({ cls := "BitNotation", name := "part", desc := "(IZ)I" } : Jvm.MethodName)) ∈ wsA := wsA_2 (List.mem_of_getElem? (i := 150) rfl) rfl
theorem wt_2_151 : (Jvm.Cond.instanceMethod ({ cls := "BitNotation", name := "part", desc := "(IZ)I" } : Jvm.MethodName)) ∈ wsA := wsA_2 (List.mem_of_getElem? (i := 151) rfl) rfl
theorem wt_2_152 : (Jvm.Cond.selects "BitNotation" ({ cls := "BitNotation", name := "part", desc := "(IZ)I" } : Jvm.MethodName) ({ cls := "BitNotation", name := "part", desc := "(IZ)I" } : Jvm.MethodName)) ∈ wsA := wsA_2 (List.mem_of_getElem? (i := 152) rfl) rfl
theorem wt_2_153 : (Jvm.Cond.code ({ cls := "BitNotation", name := "part", desc := "(IZ)I" } : Jvm.MethodName) prog_1_method_4_code (4 : Nat) (Option.some Jvm.ClassFile.FieldType.int)) ∈ wsA := wsA_2 (List.mem_of_getElem? (i := 153) rfl) rfl
theorem wt_2_155 : (Jvm.Cond.methodLink "BitNotationLaw" (92 : Nat) ({ cls := "BitNotationLaw", name := "addSequence", desc := "(LBitNotation;[J)I" } : Jvm.MethodName)) ∈ wsA := wsA_2 (List.mem_of_getElem? (i := 155) rfl) rfl
theorem wt_2_156 : (Jvm.Cond.static ({ cls := "BitNotationLaw", name := "addSequence", desc := "(LBitNotation;[J)I" } : Jvm.MethodName)) ∈ wsA := wsA_2 (List.mem_of_getElem? (i := 156) rfl) rfl
theorem wt_2_157 : (Jvm.Cond.codeWith ({ cls := "BitNotationLaw", name := "addSequence", desc := "(LBitNotation;[J)I" } : Jvm.MethodName) method_6_code (3 : Nat) (Option.some Jvm.ClassFile.FieldType.int) [((0 : Nat), (8 : Nat), (11 : Nat), (15 : Nat))]) ∈ wsA := wsA_2 (List.mem_of_getElem? (i := 157) rfl) rfl
theorem wt_2_158 : (Jvm.Cond.methodLink "BitNotationLaw" (27 : Nat) ({ cls := "BitNotation", name := "addSequence", desc := "()I" } : Jvm.MethodName)) ∈ wsA := wsA_2 (List.mem_of_getElem? (i := 158) rfl) rfl
theorem wt_2_159 : (Jvm.Cond.instanceMethod ({ cls := "BitNotation", name := "addSequence", desc := "()I" } : Jvm.MethodName)) ∈ wsA := wsA_2 (List.mem_of_getElem? (i := 159) rfl) rfl
theorem wt_2_160 : (Jvm.Cond.selects "BitNotation" ({ cls := "BitNotation", name := "addSequence", desc := "()I" } : Jvm.MethodName) ({ cls := "BitNotation", name := "addSequence", desc := "()I" } : Jvm.MethodName)) ∈ wsA := wsA_2 (List.mem_of_getElem? (i := 160) rfl) rfl
theorem wt_2_161 : (Jvm.Cond.code ({ cls := "BitNotation", name := "addSequence", desc := "()I" } : Jvm.MethodName) prog_1_method_5_code (1 : Nat) (Option.some Jvm.ClassFile.FieldType.int)) ∈ wsA := wsA_2 (List.mem_of_getElem? (i := 161) rfl) rfl
theorem wt_2_162 : (Jvm.Cond.fieldLink "BitNotation" (101 : Nat) "BitNotation$Kind" "SEQUENCE" "LBitNotation$Kind;") ∈ wsA := wsA_2 (List.mem_of_getElem? (i := 162) rfl) rfl
theorem wt_2_163 : (Jvm.Cond.methodLink "BitNotation" (104 : Nat) ({ cls := "BitNotation", name := "keepDraft", desc := "(LBitNotation$Type;)I" } : Jvm.MethodName)) ∈ wsA := wsA_2 (List.mem_of_getElem? (i := 163) rfl) rfl
theorem wt_2_165 : (Jvm.Cond.instanceMethod ({ cls := "BitNotation", name := "keepDraft", desc := "(LBitNotation$Type;)I" } : Jvm.MethodName)) ∈ wsA := wsA_2 (List.mem_of_getElem? (i := 165) rfl) rfl
theorem wt_2_166 : (Jvm.Cond.code ({ cls := "BitNotation", name := "keepDraft", desc := "(LBitNotation$Type;)I" } : Jvm.MethodName) prog_1_method_26_code (3 : Nat) (Option.some Jvm.ClassFile.FieldType.int)) ∈ wsA := wsA_2 (List.mem_of_getElem? (i := 166) rfl) rfl
theorem wt_2_168 : (Jvm.Cond.methodLink "BitNotationLaw" (96 : Nat) ({ cls := "BitNotationLaw", name := "addChoice", desc := "(LBitNotation;[J)I" } : Jvm.MethodName)) ∈ wsA := wsA_2 (List.mem_of_getElem? (i := 168) rfl) rfl
theorem wt_2_169 : (Jvm.Cond.static ({ cls := "BitNotationLaw", name := "addChoice", desc := "(LBitNotation;[J)I" } : Jvm.MethodName)) ∈ wsA := wsA_2 (List.mem_of_getElem? (i := 169) rfl) rfl
theorem wt_2_170 : (Jvm.Cond.codeWith ({ cls := "BitNotationLaw", name := "addChoice", desc := "(LBitNotation;[J)I" } : Jvm.MethodName) method_7_code (3 : Nat) (Option.some Jvm.ClassFile.FieldType.int) [((0 : Nat), (8 : Nat), (11 : Nat), (15 : Nat))]) ∈ wsA := wsA_2 (List.mem_of_getElem? (i := 170) rfl) rfl
theorem wt_2_171 : (Jvm.Cond.methodLink "BitNotationLaw" (31 : Nat) ({ cls := "BitNotation", name := "addChoice", desc := "()I" } : Jvm.MethodName)) ∈ wsA := wsA_2 (List.mem_of_getElem? (i := 171) rfl) rfl
theorem wt_2_172 : (Jvm.Cond.instanceMethod ({ cls := "BitNotation", name := "addChoice", desc := "()I" } : Jvm.MethodName)) ∈ wsA := wsA_2 (List.mem_of_getElem? (i := 172) rfl) rfl
theorem wt_2_173 : (Jvm.Cond.selects "BitNotation" ({ cls := "BitNotation", name := "addChoice", desc := "()I" } : Jvm.MethodName) ({ cls := "BitNotation", name := "addChoice", desc := "()I" } : Jvm.MethodName)) ∈ wsA := wsA_2 (List.mem_of_getElem? (i := 173) rfl) rfl
theorem wt_2_174 : (Jvm.Cond.code ({ cls := "BitNotation", name := "addChoice", desc := "()I" } : Jvm.MethodName) prog_1_method_6_code (1 : Nat) (Option.some Jvm.ClassFile.FieldType.int)) ∈ wsA := wsA_2 (List.mem_of_getElem? (i := 174) rfl) rfl
theorem wt_2_175 : (Jvm.Cond.fieldLink "BitNotation" (107 : Nat) "BitNotation$Kind" "CHOICE" "LBitNotation$Kind;") ∈ wsA := wsA_2 (List.mem_of_getElem? (i := 175) rfl) rfl
theorem wt_2_176 : (Jvm.Cond.methodLink "BitNotationLaw" (99 : Nat) ({ cls := "BitNotationLaw", name := "extend", desc := "(LBitNotation;II[J)I" } : Jvm.MethodName)) ∈ wsA := wsA_2 (List.mem_of_getElem? (i := 176) rfl) rfl
theorem wt_2_177 : (Jvm.Cond.static ({ cls := "BitNotationLaw", name := "extend", desc := "(LBitNotation;II[J)I" } : Jvm.MethodName)) ∈ wsA := wsA_2 (List.mem_of_getElem? (i := 177) rfl) rfl
theorem wt_2_178 : (Jvm.Cond.codeWith ({ cls := "BitNotationLaw", name := "extend", desc := "(LBitNotation;II[J)I" } : Jvm.MethodName) method_8_code (5 : Nat) (Option.some Jvm.ClassFile.FieldType.int) [((0 : Nat), (10 : Nat), (13 : Nat), (21 : Nat)), ((0 : Nat), (10 : Nat), (17 : Nat), (13 : Nat)), ((0 : Nat), (10 : Nat), (21 : Nat), (15 : Nat))]) ∈ wsA := wsA_2 (List.mem_of_getElem? (i := 178) rfl) rfl
theorem wt_2_179 : (Jvm.Cond.methodLink "BitNotationLaw" (34 : Nat) ({ cls := "BitNotation", name := "extend", desc := "(II)I" } : Jvm.MethodName)) ∈ wsA := wsA_2 (List.mem_of_getElem? (i := 179) rfl) rfl
theorem wt_2_180 : (Jvm.Cond.instanceMethod ({ cls := "BitNotation", name := "extend", desc := "(II)I" } : Jvm.MethodName)) ∈ wsA := wsA_2 (List.mem_of_getElem? (i := 180) rfl) rfl
theorem wt_2_181 : (Jvm.Cond.selects "BitNotation" ({ cls := "BitNotation", name := "extend", desc := "(II)I" } : Jvm.MethodName) ({ cls := "BitNotation", name := "extend", desc := "(II)I" } : Jvm.MethodName)) ∈ wsA := wsA_2 (List.mem_of_getElem? (i := 181) rfl) rfl
theorem wt_2_182 : (Jvm.Cond.code ({ cls := "BitNotation", name := "extend", desc := "(II)I" } : Jvm.MethodName) prog_1_method_7_code (5 : Nat) (Option.some Jvm.ClassFile.FieldType.int)) ∈ wsA := wsA_2 (List.mem_of_getElem? (i := 182) rfl) rfl
theorem wt_2_185 : (Jvm.Cond.methodLink "BitNotation" (120 : Nat) ({ cls := "BitNotation$TypeRow", name := "measureAll", desc := "()Z" } : Jvm.MethodName)) ∈ wsA := wsA_2 (List.mem_of_getElem? (i := 185) rfl) rfl
theorem wt_2_186 : (Jvm.Cond.instanceMethod ({ cls := "BitNotation$TypeRow", name := "measureAll", desc := "()Z" } : Jvm.MethodName)) ∈ wsA := wsA_2 (List.mem_of_getElem? (i := 186) rfl) rfl
theorem wt_2_187 : (Jvm.Cond.selects "BitNotation$TypeRow" ({ cls := "BitNotation$TypeRow", name := "measureAll", desc := "()Z" } : Jvm.MethodName) ({ cls := "BitNotation$TypeRow", name := "measureAll", desc := "()Z" } : Jvm.MethodName)) ∈ wsA := wsA_2 (List.mem_of_getElem? (i := 187) rfl) rfl
theorem wt_2_188 : (Jvm.Cond.code ({ cls := "BitNotation$TypeRow", name := "measureAll", desc := "()Z" } : Jvm.MethodName) prog_6_method_7_code (3 : Nat) (Option.some Jvm.ClassFile.FieldType.boolean)) ∈ wsA := wsA_2 (List.mem_of_getElem? (i := 188) rfl) rfl
theorem wt_2_189 : (Jvm.Cond.methodLink "BitNotation$TypeRow" (25 : Nat) ({ cls := "BitNotation$TypeRow", name := "at", desc := "(I)LBitNotation$Type;" } : Jvm.MethodName)) ∈ wsA := wsA_2 (List.mem_of_getElem? (i := 189) rfl) rfl
theorem wt_2_190 : (Jvm.Cond.methodLink "BitNotation$TypeRow" (29 : Nat) ({ cls := "BitNotation$Type", name := "measure", desc := "()Z" } : Jvm.MethodName)) ∈ wsA := wsA_2 (List.mem_of_getElem? (i := 190) rfl) rfl
theorem wt_2_191 : (Jvm.Cond.methodLink "BitNotation" (123 : Nat) ({ cls := "BitNotation$TypeRow", name := "dropLast", desc := "()V" } : Jvm.MethodName)) ∈ wsA := wsA_2 (List.mem_of_getElem? (i := 191) rfl) rfl
theorem wt_2_192 : (Jvm.Cond.instanceMethod ({ cls := "BitNotation$TypeRow", name := "dropLast", desc := "()V" } : Jvm.MethodName)) ∈ wsA := wsA_2 (List.mem_of_getElem? (i := 192) rfl) rfl
theorem wt_2_193 : (Jvm.Cond.selects "BitNotation$TypeRow" ({ cls := "BitNotation$TypeRow", name := "dropLast", desc := "()V" } : Jvm.MethodName) ({ cls := "BitNotation$TypeRow", name := "dropLast", desc := "()V" } : Jvm.MethodName)) ∈ wsA := wsA_2 (List.mem_of_getElem? (i := 193) rfl) rfl
theorem wt_2_194 : (Jvm.Cond.code ({ cls := "BitNotation$TypeRow", name := "dropLast", desc := "()V" } : Jvm.MethodName) prog_6_method_6_code (1 : Nat) (Option.none : Option Jvm.ClassFile.FieldType)) ∈ wsA := wsA_2 (List.mem_of_getElem? (i := 194) rfl) rfl
theorem wt_2_196 : (Jvm.Cond.methodLink "BitNotationLaw" (106 : Nat) ({ cls := "BitNotationLaw", name := "leastBits", desc := "(LBitNotation;I[J)I" } : Jvm.MethodName)) ∈ wsA := wsA_2 (List.mem_of_getElem? (i := 196) rfl) rfl
theorem wt_2_197 : (Jvm.Cond.static ({ cls := "BitNotationLaw", name := "leastBits", desc := "(LBitNotation;I[J)I" } : Jvm.MethodName)) ∈ wsA := wsA_2 (List.mem_of_getElem? (i := 197) rfl) rfl
theorem wt_2_198 : (Jvm.Cond.codeWith ({ cls := "BitNotationLaw", name := "leastBits", desc := "(LBitNotation;I[J)I" } : Jvm.MethodName) method_9_code (4 : Nat) (Option.some Jvm.ClassFile.FieldType.int) [((0 : Nat), (9 : Nat), (12 : Nat), (21 : Nat))]) ∈ wsA := wsA_2 (List.mem_of_getElem? (i := 198) rfl) rfl
theorem wt_2_199 : (Jvm.Cond.methodLink "BitNotationLaw" (37 : Nat) ({ cls := "BitNotation", name := "leastBits", desc := "(I)I" } : Jvm.MethodName)) ∈ wsA := wsA_2 (List.mem_of_getElem? (i := 199) rfl) rfl
theorem wt_2_200 : (Jvm.Cond.instanceMethod ({ cls := "BitNotation", name := "leastBits", desc := "(I)I" } : Jvm.MethodName)) ∈ wsA := wsA_2 (List.mem_of_getElem? (i := 200) rfl) rfl
theorem wt_2_201 : (Jvm.Cond.selects "BitNotation" ({ cls := "BitNotation", name := "leastBits", desc := "(I)I" } : Jvm.MethodName) ({ cls := "BitNotation", name := "leastBits", desc := "(I)I" } : Jvm.MethodName)) ∈ wsA := wsA_2 (List.mem_of_getElem? (i := 201) rfl) rfl
theorem wt_2_202 : (Jvm.Cond.code ({ cls := "BitNotation", name := "leastBits", desc := "(I)I" } : Jvm.MethodName) prog_1_method_9_code (2 : Nat) (Option.some Jvm.ClassFile.FieldType.int)) ∈ wsA := wsA_2 (List.mem_of_getElem? (i := 202) rfl) rfl
theorem wt_2_203 : (Jvm.Cond.methodLink "BitNotationLaw" (110 : Nat) ({ cls := "BitNotationLaw", name := "mostBits", desc := "(LBitNotation;I[J)I" } : Jvm.MethodName)) ∈ wsA := wsA_2 (List.mem_of_getElem? (i := 203) rfl) rfl
theorem wt_2_204 : (Jvm.Cond.static ({ cls := "BitNotationLaw", name := "mostBits", desc := "(LBitNotation;I[J)I" } : Jvm.MethodName)) ∈ wsA := wsA_2 (List.mem_of_getElem? (i := 204) rfl) rfl
theorem wt_2_205 : (Jvm.Cond.codeWith ({ cls := "BitNotationLaw", name := "mostBits", desc := "(LBitNotation;I[J)I" } : Jvm.MethodName) method_10_code (4 : Nat) (Option.some Jvm.ClassFile.FieldType.int) [((0 : Nat), (9 : Nat), (12 : Nat), (21 : Nat))]) ∈ wsA := wsA_2 (List.mem_of_getElem? (i := 205) rfl) rfl
theorem wt_2_206 : (Jvm.Cond.methodLink "BitNotationLaw" (41 : Nat) ({ cls := "BitNotation", name := "mostBits", desc := "(I)I" } : Jvm.MethodName)) ∈ wsA := wsA_2 (List.mem_of_getElem? (i := 206) rfl) rfl
theorem wt_2_207 : (Jvm.Cond.instanceMethod ({ cls := "BitNotation", name := "mostBits", desc := "(I)I" } : Jvm.MethodName)) ∈ wsA := wsA_2 (List.mem_of_getElem? (i := 207) rfl) rfl
theorem wt_2_208 : (Jvm.Cond.selects "BitNotation" ({ cls := "BitNotation", name := "mostBits", desc := "(I)I" } : Jvm.MethodName) ({ cls := "BitNotation", name := "mostBits", desc := "(I)I" } : Jvm.MethodName)) ∈ wsA := wsA_2 (List.mem_of_getElem? (i := 208) rfl) rfl
theorem wt_2_209 : (Jvm.Cond.code ({ cls := "BitNotation", name := "mostBits", desc := "(I)I" } : Jvm.MethodName) prog_1_method_10_code (2 : Nat) (Option.some Jvm.ClassFile.FieldType.int)) ∈ wsA := wsA_2 (List.mem_of_getElem? (i := 209) rfl) rfl
theorem wt_2_210 : (Jvm.Cond.methodLink "BitNotationLaw" (113 : Nat) ({ cls := "BitNotationLaw", name := "tell", desc := "(LBitNotation;I[J)I" } : Jvm.MethodName)) ∈ wsA := wsA_2 (List.mem_of_getElem? (i := 210) rfl) rfl
theorem wt_2_211 : (Jvm.Cond.static ({ cls := "BitNotationLaw", name := "tell", desc := "(LBitNotation;I[J)I" } : Jvm.MethodName)) ∈ wsA := wsA_2 (List.mem_of_getElem? (i := 211) rfl) rfl
theorem wt_2_212 : (Jvm.Cond.codeWith ({ cls := "BitNotationLaw", name := "tell", desc := "(LBitNotation;I[J)I" } : Jvm.MethodName) method_11_code (4 : Nat) (Option.some Jvm.ClassFile.FieldType.int) [((0 : Nat), (9 : Nat), (12 : Nat), (13 : Nat)), ((0 : Nat), (9 : Nat), (15 : Nat), (15 : Nat))]) ∈ wsA := wsA_2 (List.mem_of_getElem? (i := 212) rfl) rfl
theorem wt_2_213 : (Jvm.Cond.methodLink "BitNotationLaw" (44 : Nat) ({ cls := "BitNotation", name := "tell", desc := "(I)I" } : Jvm.MethodName)) ∈ wsA := wsA_2 (List.mem_of_getElem? (i := 213) rfl) rfl
theorem wt_2_214 : (Jvm.Cond.instanceMethod ({ cls := "BitNotation", name := "tell", desc := "(I)I" } : Jvm.MethodName)) ∈ wsA := wsA_2 (List.mem_of_getElem? (i := 214) rfl) rfl
theorem wt_2_215 : (Jvm.Cond.selects "BitNotation" ({ cls := "BitNotation", name := "tell", desc := "(I)I" } : Jvm.MethodName) ({ cls := "BitNotation", name := "tell", desc := "(I)I" } : Jvm.MethodName)) ∈ wsA := wsA_2 (List.mem_of_getElem? (i := 215) rfl) rfl
theorem wt_2_216 : (Jvm.Cond.code ({ cls := "BitNotation", name := "tell", desc := "(I)I" } : Jvm.MethodName) prog_1_method_11_code (2 : Nat) (Option.some Jvm.ClassFile.FieldType.int)) ∈ wsA := wsA_2 (List.mem_of_getElem? (i := 216) rfl) rfl
theorem wt_2_218 : (Jvm.Cond.methodLink "BitNotation" (136 : Nat) ({ cls := "BitNotation$Row", name := "isFull", desc := "()Z" } : Jvm.MethodName)) ∈ wsA := wsA_2 (List.mem_of_getElem? (i := 218) rfl) rfl
theorem wt_2_219 : (Jvm.Cond.instanceMethod ({ cls := "BitNotation$Row", name := "isFull", desc := "()Z" } : Jvm.MethodName)) ∈ wsA := wsA_2 (List.mem_of_getElem? (i := 219) rfl) rfl
theorem wt_2_220 : (Jvm.Cond.selects "BitNotation$Row" ({ cls := "BitNotation$Row", name := "isFull", desc := "()Z" } : Jvm.MethodName) ({ cls := "BitNotation$Row", name := "isFull", desc := "()Z" } : Jvm.MethodName)) ∈ wsA := wsA_2 (List.mem_of_getElem? (i := 220) rfl) rfl
theorem wt_2_221 : (Jvm.Cond.code ({ cls := "BitNotation$Row", name := "isFull", desc := "()Z" } : Jvm.MethodName) prog_4_method_3_code (1 : Nat) (Option.some Jvm.ClassFile.FieldType.boolean)) ∈ wsA := wsA_2 (List.mem_of_getElem? (i := 221) rfl) rfl
theorem wt_2_223 : (Jvm.Cond.methodLink "BitNotation" (139 : Nat) ({ cls := "BitNotation$Row", name := "append", desc := "(I)V" } : Jvm.MethodName)) ∈ wsA := wsA_2 (List.mem_of_getElem? (i := 223) rfl) rfl
theorem wt_2_224 : (Jvm.Cond.instanceMethod ({ cls := "BitNotation$Row", name := "append", desc := "(I)V" } : Jvm.MethodName)) ∈ wsA := wsA_2 (List.mem_of_getElem? (i := 224) rfl) rfl
theorem wt_2_225 : (Jvm.Cond.selects "BitNotation$Row" ({ cls := "BitNotation$Row", name := "append", desc := "(I)V" } : Jvm.MethodName) ({ cls := "BitNotation$Row", name := "append", desc := "(I)V" } : Jvm.MethodName)) ∈ wsA := wsA_2 (List.mem_of_getElem? (i := 225) rfl) rfl
theorem wt_2_226 : (Jvm.Cond.code ({ cls := "BitNotation$Row", name := "append", desc := "(I)V" } : Jvm.MethodName) prog_4_method_6_code (2 : Nat) (Option.none : Option Jvm.ClassFile.FieldType)) ∈ wsA := wsA_2 (List.mem_of_getElem? (i := 226) rfl) rfl
theorem wt_2_227 : (Jvm.Cond.methodLink "BitNotationLaw" (124 : Nat) ({ cls := "BitNotationLaw", name := "told", desc := "(LBitNotation;I[J)I" } : Jvm.MethodName)) ∈ wsA := wsA_2 (List.mem_of_getElem? (i := 227) rfl) rfl
theorem wt_2_228 : (Jvm.Cond.static ({ cls := "BitNotationLaw", name := "told", desc := "(LBitNotation;I[J)I" } : Jvm.MethodName)) ∈ wsA := wsA_2 (List.mem_of_getElem? (i := 228) rfl) rfl
theorem wt_2_229 : (Jvm.Cond.codeWith ({ cls := "BitNotationLaw", name := "told", desc := "(LBitNotation;I[J)I" } : Jvm.MethodName) method_12_code (4 : Nat) (Option.some Jvm.ClassFile.FieldType.int) [((0 : Nat), (9 : Nat), (12 : Nat), (21 : Nat))]) ∈ wsA := wsA_2 (List.mem_of_getElem? (i := 229) rfl) rfl
theorem wt_2_230 : (Jvm.Cond.methodLink "BitNotationLaw" (47 : Nat) ({ cls := "BitNotation", name := "told", desc := "(I)I" } : Jvm.MethodName)) ∈ wsA := wsA_2 (List.mem_of_getElem? (i := 230) rfl) rfl
theorem wt_2_231 : (Jvm.Cond.instanceMethod ({ cls := "BitNotation", name := "told", desc := "(I)I" } : Jvm.MethodName)) ∈ wsA := wsA_2 (List.mem_of_getElem? (i := 231) rfl) rfl
theorem wt_2_232 : (Jvm.Cond.selects "BitNotation" ({ cls := "BitNotation", name := "told", desc := "(I)I" } : Jvm.MethodName) ({ cls := "BitNotation", name := "told", desc := "(I)I" } : Jvm.MethodName)) ∈ wsA := wsA_2 (List.mem_of_getElem? (i := 232) rfl) rfl
theorem wt_2_233 : (Jvm.Cond.code ({ cls := "BitNotation", name := "told", desc := "(I)I" } : Jvm.MethodName) prog_1_method_14_code (2 : Nat) (Option.some Jvm.ClassFile.FieldType.int)) ∈ wsA := wsA_2 (List.mem_of_getElem? (i := 233) rfl) rfl
theorem wt_2_234 : (Jvm.Cond.methodLink "BitNotation" (145 : Nat) ({ cls := "BitNotation$Row", name := "has", desc := "(I)Z" } : Jvm.MethodName)) ∈ wsA := wsA_2 (List.mem_of_getElem? (i := 234) rfl) rfl
theorem wt_2_235 : (Jvm.Cond.instanceMethod ({ cls := "BitNotation$Row", name := "has", desc := "(I)Z" } : Jvm.MethodName)) ∈ wsA := wsA_2 (List.mem_of_getElem? (i := 235) rfl) rfl
theorem wt_2_236 : (Jvm.Cond.selects "BitNotation$Row" ({ cls := "BitNotation$Row", name := "has", desc := "(I)Z" } : Jvm.MethodName) ({ cls := "BitNotation$Row", name := "has", desc := "(I)Z" } : Jvm.MethodName)) ∈ wsA := wsA_2 (List.mem_of_getElem? (i := 236) rfl) rfl
theorem wt_2_237 : (Jvm.Cond.code ({ cls := "BitNotation$Row", name := "has", desc := "(I)Z" } : Jvm.MethodName) prog_4_method_4_code (2 : Nat) (Option.some Jvm.ClassFile.FieldType.boolean)) ∈ wsA := wsA_2 (List.mem_of_getElem? (i := 237) rfl) rfl
theorem wt_2_239 : (Jvm.Cond.methodLink "BitNotation" (154 : Nat) ({ cls := "BitNotation$Row", name := "at", desc := "(I)I" } : Jvm.MethodName)) ∈ wsA := wsA_2 (List.mem_of_getElem? (i := 239) rfl) rfl
theorem wt_3_0 : (Jvm.Cond.instanceMethod ({ cls := "BitNotation$Row", name := "at", desc := "(I)I" } : Jvm.MethodName)) ∈ wsA := wsA_3 (List.mem_of_getElem? (i := 0) rfl) rfl
theorem wt_3_1 : (Jvm.Cond.selects "BitNotation$Row" ({ cls := "BitNotation$Row", name := "at", desc := "(I)I" } : Jvm.MethodName) ({ cls := "BitNotation$Row", name := "at", desc := "(I)I" } : Jvm.MethodName)) ∈ wsA := wsA_3 (List.mem_of_getElem? (i := 1) rfl) rfl
theorem wt_3_2 : (Jvm.Cond.code ({ cls := "BitNotation$Row", name := "at", desc := "(I)I" } : Jvm.MethodName) prog_4_method_5_code (2 : Nat) (Option.some Jvm.ClassFile.FieldType.int)) ∈ wsA := wsA_3 (List.mem_of_getElem? (i := 2) rfl) rfl
theorem wt_3_3 : (Jvm.Cond.methodLink "BitNotation$Row" (23 : Nat) ({ cls := "BitNotation$Row", name := "has", desc := "(I)Z" } : Jvm.MethodName)) ∈ wsA := wsA_3 (List.mem_of_getElem? (i := 3) rfl) rfl
theorem wt_3_4 : (Jvm.Cond.methodLink "BitNotationLaw" (127 : Nat) ({ cls := "BitNotationLaw", name := "wrongAt", desc := "(LBitNotation;I[J)I" } : Jvm.MethodName)) ∈ wsA := wsA_3 (List.mem_of_getElem? (i := 4) rfl) rfl
theorem wt_3_5 : (Jvm.Cond.static ({ cls := "BitNotationLaw", name := "wrongAt", desc := "(LBitNotation;I[J)I" } : Jvm.MethodName)) ∈ wsA := wsA_3 (List.mem_of_getElem? (i := 5) rfl) rfl
theorem wt_3_6 : (Jvm.Cond.codeWith ({ cls := "BitNotationLaw", name := "wrongAt", desc := "(LBitNotation;I[J)I" } : Jvm.MethodName) method_13_code (4 : Nat) (Option.some Jvm.ClassFile.FieldType.int) [((0 : Nat), (9 : Nat), (12 : Nat), (21 : Nat))]) ∈ wsA := wsA_3 (List.mem_of_getElem? (i := 6) rfl) rfl
theorem wt_3_7 : (Jvm.Cond.methodLink "BitNotationLaw" (50 : Nat) ({ cls := "BitNotation", name := "wrongAt", desc := "(I)I" } : Jvm.MethodName)) ∈ wsA := wsA_3 (List.mem_of_getElem? (i := 7) rfl) rfl
theorem wt_3_8 : (Jvm.Cond.instanceMethod ({ cls := "BitNotation", name := "wrongAt", desc := "(I)I" } : Jvm.MethodName)) ∈ wsA := wsA_3 (List.mem_of_getElem? (i := 8) rfl) rfl
theorem wt_3_9 : (Jvm.Cond.selects "BitNotation" ({ cls := "BitNotation", name := "wrongAt", desc := "(I)I" } : Jvm.MethodName) ({ cls := "BitNotation", name := "wrongAt", desc := "(I)I" } : Jvm.MethodName)) ∈ wsA := wsA_3 (List.mem_of_getElem? (i := 9) rfl) rfl
theorem wt_3_10 : (Jvm.Cond.code ({ cls := "BitNotation", name := "wrongAt", desc := "(I)I" } : Jvm.MethodName) prog_1_method_15_code (2 : Nat) (Option.some Jvm.ClassFile.FieldType.int)) ∈ wsA := wsA_3 (List.mem_of_getElem? (i := 10) rfl) rfl
theorem wt_3_11 : (Jvm.Cond.methodLink "BitNotation" (158 : Nat) ({ cls := "BitNotation$Writer", name := "walk", desc := "(LBitNotation$Type;LBitNotation$Row;)I" } : Jvm.MethodName)) ∈ wsA := wsA_3 (List.mem_of_getElem? (i := 11) rfl) rfl
theorem wt_3_12 : (Jvm.Cond.instanceMethod ({ cls := "BitNotation$Writer", name := "walk", desc := "(LBitNotation$Type;LBitNotation$Row;)I" } : Jvm.MethodName)) ∈ wsA := wsA_3 (List.mem_of_getElem? (i := 12) rfl) rfl
theorem wt_3_13 : (Jvm.Cond.selects "BitNotation$Writer" ({ cls := "BitNotation$Writer", name := "walk", desc := "(LBitNotation$Type;LBitNotation$Row;)I" } : Jvm.MethodName) ({ cls := "BitNotation$Writer", name := "walk", desc := "(LBitNotation$Type;LBitNotation$Row;)I" } : Jvm.MethodName)) ∈ wsA := wsA_3 (List.mem_of_getElem? (i := 13) rfl) rfl
theorem wt_3_14 : (Jvm.Cond.code ({ cls := "BitNotation$Writer", name := "walk", desc := "(LBitNotation$Type;LBitNotation$Row;)I" } : Jvm.MethodName) prog_7_method_2_code (3 : Nat) (Option.some Jvm.ClassFile.FieldType.int)) ∈ wsA := wsA_3 (List.mem_of_getElem? (i := 14) rfl) rfl
theorem wt_3_15 : (Jvm.Cond.methodLink "BitNotation$Writer" (27 : Nat) ({ cls := "BitNotation$Row", name := "keepFirst", desc := "(I)V" } : Jvm.MethodName)) ∈ wsA := wsA_3 (List.mem_of_getElem? (i := 15) rfl) rfl
theorem wt_3_16 : (Jvm.Cond.methodLink "BitNotation$Writer" (30 : Nat) ({ cls := "BitNotation$Writer", name := "putValue", desc := "(LBitNotation$Type;LBitNotation$Row;I)V" } : Jvm.MethodName)) ∈ wsA := wsA_3 (List.mem_of_getElem? (i := 16) rfl) rfl
theorem wt_3_18 : (Jvm.Cond.instanceMethod ({ cls := "BitNotation$Writer", name := "putValue", desc := "(LBitNotation$Type;LBitNotation$Row;I)V" } : Jvm.MethodName)) ∈ wsA := wsA_3 (List.mem_of_getElem? (i := 18) rfl) rfl
theorem wt_3_19 : (Jvm.Cond.code ({ cls := "BitNotation$Writer", name := "putValue", desc := "(LBitNotation$Type;LBitNotation$Row;I)V" } : Jvm.MethodName) prog_7_method_3_code (6 : Nat) (Option.none : Option Jvm.ClassFile.FieldType)) ∈ wsA := wsA_3 (List.mem_of_getElem? (i := 19) rfl) rfl
theorem wt_3_20 : (Jvm.Cond.fieldLink "BitNotation$Writer" (44 : Nat) "BitNotation$Kind" "SEQUENCE" "LBitNotation$Kind;") ∈ wsA := wsA_3 (List.mem_of_getElem? (i := 20) rfl) rfl
theorem wt_3_21 : (Jvm.Cond.methodLink "BitNotation$Writer" (49 : Nat) ({ cls := "BitNotation$Writer", name := "putSequence", desc := "(LBitNotation$Type;LBitNotation$Row;I)V" } : Jvm.MethodName)) ∈ wsA := wsA_3 (List.mem_of_getElem? (i := 21) rfl) rfl
theorem wt_3_23 : (Jvm.Cond.instanceMethod ({ cls := "BitNotation$Writer", name := "putSequence", desc := "(LBitNotation$Type;LBitNotation$Row;I)V" } : Jvm.MethodName)) ∈ wsA := wsA_3 (List.mem_of_getElem? (i := 23) rfl) rfl
theorem wt_3_24 : (Jvm.Cond.code ({ cls := "BitNotation$Writer", name := "putSequence", desc := "(LBitNotation$Type;LBitNotation$Row;I)V" } : Jvm.MethodName) prog_7_method_4_code (7 : Nat) (Option.none : Option Jvm.ClassFile.FieldType)) ∈ wsA := wsA_3 (List.mem_of_getElem? (i := 24) rfl) rfl
theorem wt_3_25 : (Jvm.Cond.methodLink "BitNotation$Writer" (85 : Nat) ({ cls := "BitNotation$Writer", name := "nextParts", desc := "(LBitNotation$Type;LBitNotation$Row;)I" } : Jvm.MethodName)) ∈ wsA := wsA_3 (List.mem_of_getElem? (i := 25) rfl) rfl
theorem wt_3_27 : (Jvm.Cond.instanceMethod ({ cls := "BitNotation$Writer", name := "nextParts", desc := "(LBitNotation$Type;LBitNotation$Row;)I" } : Jvm.MethodName)) ∈ wsA := wsA_3 (List.mem_of_getElem? (i := 27) rfl) rfl
theorem wt_3_28 : (Jvm.Cond.code ({ cls := "BitNotation$Writer", name := "nextParts", desc := "(LBitNotation$Type;LBitNotation$Row;)I" } : Jvm.MethodName) prog_7_method_5_code (5 : Nat) (Option.some Jvm.ClassFile.FieldType.int)) ∈ wsA := wsA_3 (List.mem_of_getElem? (i := 28) rfl) rfl
theorem wt_3_29 : (Jvm.Cond.methodLink "BitNotation$Writer" (92 : Nat) ({ cls := "BitNotation$TypeRow", name := "size", desc := "()I" } : Jvm.MethodName)) ∈ wsA := wsA_3 (List.mem_of_getElem? (i := 29) rfl) rfl
theorem wt_3_30 : (Jvm.Cond.methodLink "BitNotation$Writer" (93 : Nat) ({ cls := "BitNotation$Type", name := "isOptional", desc := "(I)Z" } : Jvm.MethodName)) ∈ wsA := wsA_3 (List.mem_of_getElem? (i := 30) rfl) rfl
theorem wt_3_31 : (Jvm.Cond.methodLink "BitNotation$Writer" (58 : Nat) ({ cls := "BitNotation$Writer", name := "next", desc := "(LBitNotation$Row;II)I" } : Jvm.MethodName)) ∈ wsA := wsA_3 (List.mem_of_getElem? (i := 31) rfl) rfl
theorem wt_3_33 : (Jvm.Cond.instanceMethod ({ cls := "BitNotation$Writer", name := "next", desc := "(LBitNotation$Row;II)I" } : Jvm.MethodName)) ∈ wsA := wsA_3 (List.mem_of_getElem? (i := 33) rfl) rfl
theorem wt_3_34 : (Jvm.Cond.code ({ cls := "BitNotation$Writer", name := "next", desc := "(LBitNotation$Row;II)I" } : Jvm.MethodName) prog_7_method_7_code (5 : Nat) (Option.some Jvm.ClassFile.FieldType.int)) ∈ wsA := wsA_3 (List.mem_of_getElem? (i := 34) rfl) rfl
theorem wt_3_35 : (Jvm.Cond.methodLink "BitNotation$Writer" (103 : Nat) ({ cls := "BitNotation$Row", name := "at", desc := "(I)I" } : Jvm.MethodName)) ∈ wsA := wsA_3 (List.mem_of_getElem? (i := 35) rfl) rfl
theorem wt_3_36 : (Jvm.Cond.methodLink "BitNotation$Writer" (106 : Nat) ({ cls := "BitNotation$Row", name := "has", desc := "(I)Z" } : Jvm.MethodName)) ∈ wsA := wsA_3 (List.mem_of_getElem? (i := 36) rfl) rfl
theorem wt_3_38 : (Jvm.Cond.methodLink "BitNotation$Writer" (65 : Nat) ({ cls := "BitNotation$Writer", name := "put", desc := "(II)V" } : Jvm.MethodName)) ∈ wsA := wsA_3 (List.mem_of_getElem? (i := 38) rfl) rfl
theorem wt_3_40 : (Jvm.Cond.instanceMethod ({ cls := "BitNotation$Writer", name := "put", desc := "(II)V" } : Jvm.MethodName)) ∈ wsA := wsA_3 (List.mem_of_getElem? (i := 40) rfl) rfl
theorem wt_3_41 : (Jvm.Cond.code ({ cls := "BitNotation$Writer", name := "put", desc := "(II)V" } : Jvm.MethodName) prog_7_method_8_code (4 : Nat) (Option.none : Option Jvm.ClassFile.FieldType)) ∈ wsA := wsA_3 (List.mem_of_getElem? (i := 41) rfl) rfl
theorem wt_3_42 : (Jvm.Cond.methodLink "BitNotation$Writer" (113 : Nat) ({ cls := "BitNotation$Row", name := "append", desc := "(I)V" } : Jvm.MethodName)) ∈ wsA := wsA_3 (List.mem_of_getElem? (i := 42) rfl) rfl
theorem wt_3_43 : (Jvm.Cond.methodLink "BitNotation$Writer" (76 : Nat) ({ cls := "BitNotation$TypeRow", name := "at", desc := "(I)LBitNotation$Type;" } : Jvm.MethodName)) ∈ wsA := wsA_3 (List.mem_of_getElem? (i := 43) rfl) rfl
theorem wt_3_44 : (Jvm.Cond.methodLink "BitNotation$Writer" (97 : Nat) ({ cls := "BitNotation$Writer", name := "putAddition", desc := "(LBitNotation$Type;LBitNotation$Row;I)V" } : Jvm.MethodName)) ∈ wsA := wsA_3 (List.mem_of_getElem? (i := 44) rfl) rfl
theorem wt_3_46 : (Jvm.Cond.instanceMethod ({ cls := "BitNotation$Writer", name := "putAddition", desc := "(LBitNotation$Type;LBitNotation$Row;I)V" } : Jvm.MethodName)) ∈ wsA := wsA_3 (List.mem_of_getElem? (i := 46) rfl) rfl
theorem wt_3_47 : (Jvm.Cond.code ({ cls := "BitNotation$Writer", name := "putAddition", desc := "(LBitNotation$Type;LBitNotation$Row;I)V" } : Jvm.MethodName) prog_7_method_6_code (8 : Nat) (Option.none : Option Jvm.ClassFile.FieldType)) ∈ wsA := wsA_3 (List.mem_of_getElem? (i := 47) rfl) rfl
theorem wt_3_48 : (Jvm.Cond.methodLink "BitNotation$Writer" (34 : Nat) ({ cls := "BitNotation$Row", name := "size", desc := "()I" } : Jvm.MethodName)) ∈ wsA := wsA_3 (List.mem_of_getElem? (i := 48) rfl) rfl
theorem wt_3_49 : (Jvm.Cond.methodLink "BitNotation$Writer" (100 : Nat) ({ cls := "BitNotation$Row", name := "replace", desc := "(II)V" } : Jvm.MethodName)) ∈ wsA := wsA_3 (List.mem_of_getElem? (i := 49) rfl) rfl
theorem wt_3_50 : (Jvm.Cond.instanceMethod ({ cls := "BitNotation$Row", name := "replace", desc := "(II)V" } : Jvm.MethodName)) ∈ wsA := wsA_3 (List.mem_of_getElem? (i := 50) rfl) rfl
theorem wt_3_51 : (Jvm.Cond.selects "BitNotation$Row" ({ cls := "BitNotation$Row", name := "replace", desc := "(II)V" } : Jvm.MethodName) ({ cls := "BitNotation$Row", name := "replace", desc := "(II)V" } : Jvm.MethodName)) ∈ wsA := wsA_3 (List.mem_of_getElem? (i := 51) rfl) rfl
theorem wt_3_52 : (Jvm.Cond.code ({ cls := "BitNotation$Row", name := "replace", desc := "(II)V" } : Jvm.MethodName) prog_4_method_7_code (3 : Nat) (Option.none : Option Jvm.ClassFile.FieldType)) ∈ wsA := wsA_3 (List.mem_of_getElem? (i := 52) rfl) rfl
theorem wt_3_53 : (Jvm.Cond.fieldLink "BitNotation$Writer" (69 : Nat) "BitNotation$Kind" "LIST" "LBitNotation$Kind;") ∈ wsA := wsA_3 (List.mem_of_getElem? (i := 53) rfl) rfl
theorem wt_3_54 : (Jvm.Cond.fieldLink "BitNotation$Writer" (82 : Nat) "BitNotation$Kind" "CHOICE" "LBitNotation$Kind;") ∈ wsA := wsA_3 (List.mem_of_getElem? (i := 54) rfl) rfl
theorem wt_3_55 : (Jvm.Cond.methodLink "BitNotationLaw" (130 : Nat) ({ cls := "BitNotationLaw", name := "write", desc := "(LBitNotation;I[J)I" } : Jvm.MethodName)) ∈ wsA := wsA_3 (List.mem_of_getElem? (i := 55) rfl) rfl
theorem wt_3_56 : (Jvm.Cond.static ({ cls := "BitNotationLaw", name := "write", desc := "(LBitNotation;I[J)I" } : Jvm.MethodName)) ∈ wsA := wsA_3 (List.mem_of_getElem? (i := 56) rfl) rfl
theorem wt_3_57 : (Jvm.Cond.codeWith ({ cls := "BitNotationLaw", name := "write", desc := "(LBitNotation;I[J)I" } : Jvm.MethodName) method_14_code (4 : Nat) (Option.some Jvm.ClassFile.FieldType.int) [((0 : Nat), (9 : Nat), (12 : Nat), (21 : Nat)), ((0 : Nat), (9 : Nat), (15 : Nat), (15 : Nat))]) ∈ wsA := wsA_3 (List.mem_of_getElem? (i := 57) rfl) rfl
theorem wt_3_58 : (Jvm.Cond.methodLink "BitNotationLaw" (53 : Nat) ({ cls := "BitNotation", name := "write", desc := "(I)I" } : Jvm.MethodName)) ∈ wsA := wsA_3 (List.mem_of_getElem? (i := 58) rfl) rfl
theorem wt_3_59 : (Jvm.Cond.instanceMethod ({ cls := "BitNotation", name := "write", desc := "(I)I" } : Jvm.MethodName)) ∈ wsA := wsA_3 (List.mem_of_getElem? (i := 59) rfl) rfl
theorem wt_3_60 : (Jvm.Cond.selects "BitNotation" ({ cls := "BitNotation", name := "write", desc := "(I)I" } : Jvm.MethodName) ({ cls := "BitNotation", name := "write", desc := "(I)I" } : Jvm.MethodName)) ∈ wsA := wsA_3 (List.mem_of_getElem? (i := 60) rfl) rfl
theorem wt_3_61 : (Jvm.Cond.code ({ cls := "BitNotation", name := "write", desc := "(I)I" } : Jvm.MethodName) prog_1_method_16_code (2 : Nat) (Option.some Jvm.ClassFile.FieldType.int)) ∈ wsA := wsA_3 (List.mem_of_getElem? (i := 61) rfl) rfl
theorem wt_3_63 : (Jvm.Cond.methodLink "BitNotation" (167 : Nat) ({ cls := "BitNotation$Row", name := "becomeCopyOf", desc := "(LBitNotation$Row;)V" } : Jvm.MethodName)) ∈ wsA := wsA_3 (List.mem_of_getElem? (i := 63) rfl) rfl
theorem wt_3_64 : (Jvm.Cond.instanceMethod ({ cls := "BitNotation$Row", name := "becomeCopyOf", desc := "(LBitNotation$Row;)V" } : Jvm.MethodName)) ∈ wsA := wsA_3 (List.mem_of_getElem? (i := 64) rfl) rfl
theorem wt_3_65 : (Jvm.Cond.selects "BitNotation$Row" ({ cls := "BitNotation$Row", name := "becomeCopyOf", desc := "(LBitNotation$Row;)V" } : Jvm.MethodName) ({ cls := "BitNotation$Row", name := "becomeCopyOf", desc := "(LBitNotation$Row;)V" } : Jvm.MethodName)) ∈ wsA := wsA_3 (List.mem_of_getElem? (i := 65) rfl) rfl
theorem wt_3_66 : (Jvm.Cond.code ({ cls := "BitNotation$Row", name := "becomeCopyOf", desc := "(LBitNotation$Row;)V" } : Jvm.MethodName) prog_4_method_9_code (3 : Nat) (Option.none : Option Jvm.ClassFile.FieldType)) ∈ wsA := wsA_3 (List.mem_of_getElem? (i := 66) rfl) rfl
theorem wt_3_67 : (Jvm.Cond.methodLink "BitNotation$Row" (27 : Nat) ({ cls := "BitNotation$Row", name := "keepFirst", desc := "(I)V" } : Jvm.MethodName)) ∈ wsA := wsA_3 (List.mem_of_getElem? (i := 67) rfl) rfl
theorem wt_3_68 : (Jvm.Cond.methodLink "BitNotation$Row" (31 : Nat) ({ cls := "BitNotation$Row", name := "size", desc := "()I" } : Jvm.MethodName)) ∈ wsA := wsA_3 (List.mem_of_getElem? (i := 68) rfl) rfl
theorem wt_3_69 : (Jvm.Cond.methodLink "BitNotation$Row" (35 : Nat) ({ cls := "BitNotation$Row", name := "at", desc := "(I)I" } : Jvm.MethodName)) ∈ wsA := wsA_3 (List.mem_of_getElem? (i := 69) rfl) rfl
theorem wt_3_70 : (Jvm.Cond.methodLink "BitNotation$Row" (39 : Nat) ({ cls := "BitNotation$Row", name := "append", desc := "(I)V" } : Jvm.MethodName)) ∈ wsA := wsA_3 (List.mem_of_getElem? (i := 70) rfl) rfl
theorem wt_3_71 : (Jvm.Cond.methodLink "BitNotationLaw" (137 : Nat) ({ cls := "BitNotationLaw", name := "bit", desc := "(LBitNotation;I[J)I" } : Jvm.MethodName)) ∈ wsA := wsA_3 (List.mem_of_getElem? (i := 71) rfl) rfl
theorem wt_3_72 : (Jvm.Cond.static ({ cls := "BitNotationLaw", name := "bit", desc := "(LBitNotation;I[J)I" } : Jvm.MethodName)) ∈ wsA := wsA_3 (List.mem_of_getElem? (i := 72) rfl) rfl
theorem wt_3_73 : (Jvm.Cond.codeWith ({ cls := "BitNotationLaw", name := "bit", desc := "(LBitNotation;I[J)I" } : Jvm.MethodName) method_15_code (4 : Nat) (Option.some Jvm.ClassFile.FieldType.int) [((0 : Nat), (9 : Nat), (12 : Nat), (21 : Nat))]) ∈ wsA := wsA_3 (List.mem_of_getElem? (i := 73) rfl) rfl
theorem wt_3_74 : (Jvm.Cond.methodLink "BitNotationLaw" (56 : Nat) ({ cls := "BitNotation", name := "bit", desc := "(I)I" } : Jvm.MethodName)) ∈ wsA := wsA_3 (List.mem_of_getElem? (i := 74) rfl) rfl
theorem wt_3_75 : (Jvm.Cond.instanceMethod ({ cls := "BitNotation", name := "bit", desc := "(I)I" } : Jvm.MethodName)) ∈ wsA := wsA_3 (List.mem_of_getElem? (i := 75) rfl) rfl
theorem wt_3_76 : (Jvm.Cond.selects "BitNotation" ({ cls := "BitNotation", name := "bit", desc := "(I)I" } : Jvm.MethodName) ({ cls := "BitNotation", name := "bit", desc := "(I)I" } : Jvm.MethodName)) ∈ wsA := wsA_3 (List.mem_of_getElem? (i := 76) rfl) rfl
theorem wt_3_77 : (Jvm.Cond.code ({ cls := "BitNotation", name := "bit", desc := "(I)I" } : Jvm.MethodName) prog_1_method_18_code (2 : Nat) (Option.some Jvm.ClassFile.FieldType.int)) ∈ wsA := wsA_3 (List.mem_of_getElem? (i := 77) rfl) rfl
theorem wt_3_79 : (Jvm.Cond.methodLink "BitNotationLaw" (140 : Nat) ({ cls := "BitNotationLaw", name := "flip", desc := "(LBitNotation;I[J)I" } : Jvm.MethodName)) ∈ wsA := wsA_3 (List.mem_of_getElem? (i := 79) rfl) rfl
theorem wt_3_80 : (Jvm.Cond.static ({ cls := "BitNotationLaw", name := "flip", desc := "(LBitNotation;I[J)I" } : Jvm.MethodName)) ∈ wsA := wsA_3 (List.mem_of_getElem? (i := 80) rfl) rfl
theorem wt_3_81 : (Jvm.Cond.codeWith ({ cls := "BitNotationLaw", name := "flip", desc := "(LBitNotation;I[J)I" } : Jvm.MethodName) method_16_code (4 : Nat) (Option.some Jvm.ClassFile.FieldType.int) [((0 : Nat), (9 : Nat), (12 : Nat), (21 : Nat))]) ∈ wsA := wsA_3 (List.mem_of_getElem? (i := 81) rfl) rfl
theorem wt_3_82 : (Jvm.Cond.methodLink "BitNotationLaw" (59 : Nat) ({ cls := "BitNotation", name := "flip", desc := "(I)I" } : Jvm.MethodName)) ∈ wsA := wsA_3 (List.mem_of_getElem? (i := 82) rfl) rfl
theorem wt_3_83 : (Jvm.Cond.instanceMethod ({ cls := "BitNotation", name := "flip", desc := "(I)I" } : Jvm.MethodName)) ∈ wsA := wsA_3 (List.mem_of_getElem? (i := 83) rfl) rfl
theorem wt_3_84 : (Jvm.Cond.selects "BitNotation" ({ cls := "BitNotation", name := "flip", desc := "(I)I" } : Jvm.MethodName) ({ cls := "BitNotation", name := "flip", desc := "(I)I" } : Jvm.MethodName)) ∈ wsA := wsA_3 (List.mem_of_getElem? (i := 84) rfl) rfl
theorem wt_3_85 : (Jvm.Cond.code ({ cls := "BitNotation", name := "flip", desc := "(I)I" } : Jvm.MethodName) prog_1_method_19_code (2 : Nat) (Option.some Jvm.ClassFile.FieldType.int)) ∈ wsA := wsA_3 (List.mem_of_getElem? (i := 85) rfl) rfl
theorem wt_3_86 : (Jvm.Cond.methodLink "BitNotation" (173 : Nat) ({ cls := "BitNotation$Row", name := "replace", desc := "(II)V" } : Jvm.MethodName)) ∈ wsA := wsA_3 (List.mem_of_getElem? (i := 86) rfl) rfl
theorem wt_3_87 : (Jvm.Cond.methodLink "BitNotationLaw" (143 : Nat) ({ cls := "BitNotationLaw", name := "cut", desc := "(LBitNotation;I[J)I" } : Jvm.MethodName)) ∈ wsA := wsA_3 (List.mem_of_getElem? (i := 87) rfl) rfl
theorem wt_3_88 : (Jvm.Cond.static ({ cls := "BitNotationLaw", name := "cut", desc := "(LBitNotation;I[J)I" } : Jvm.MethodName)) ∈ wsA := wsA_3 (List.mem_of_getElem? (i := 88) rfl) rfl
theorem wt_3_89 : (Jvm.Cond.codeWith ({ cls := "BitNotationLaw", name := "cut", desc := "(LBitNotation;I[J)I" } : Jvm.MethodName) method_17_code (4 : Nat) (Option.some Jvm.ClassFile.FieldType.int) [((0 : Nat), (9 : Nat), (12 : Nat), (13 : Nat))]) ∈ wsA := wsA_3 (List.mem_of_getElem? (i := 89) rfl) rfl
theorem wt_3_90 : (Jvm.Cond.methodLink "BitNotationLaw" (62 : Nat) ({ cls := "BitNotation", name := "cut", desc := "(I)I" } : Jvm.MethodName)) ∈ wsA := wsA_3 (List.mem_of_getElem? (i := 90) rfl) rfl
theorem wt_3_91 : (Jvm.Cond.instanceMethod ({ cls := "BitNotation", name := "cut", desc := "(I)I" } : Jvm.MethodName)) ∈ wsA := wsA_3 (List.mem_of_getElem? (i := 91) rfl) rfl
theorem wt_3_92 : (Jvm.Cond.selects "BitNotation" ({ cls := "BitNotation", name := "cut", desc := "(I)I" } : Jvm.MethodName) ({ cls := "BitNotation", name := "cut", desc := "(I)I" } : Jvm.MethodName)) ∈ wsA := wsA_3 (List.mem_of_getElem? (i := 92) rfl) rfl
theorem wt_3_93 : (Jvm.Cond.code ({ cls := "BitNotation", name := "cut", desc := "(I)I" } : Jvm.MethodName) prog_1_method_20_code (3 : Nat) (Option.some Jvm.ClassFile.FieldType.int)) ∈ wsA := wsA_3 (List.mem_of_getElem? (i := 93) rfl) rfl
theorem wt_3_95 : (Jvm.Cond.methodLink "BitNotationLaw" (146 : Nat) ({ cls := "BitNotationLaw", name := "read", desc := "(LBitNotation;II[J)I" } : Jvm.MethodName)) ∈ wsA := wsA_3 (List.mem_of_getElem? (i := 95) rfl) rfl
theorem wt_3_96 : (Jvm.Cond.static ({ cls := "BitNotationLaw", name := "read", desc := "(LBitNotation;II[J)I" } : Jvm.MethodName)) ∈ wsA := wsA_3 (List.mem_of_getElem? (i := 96) rfl) rfl
theorem wt_3_97 : (Jvm.Cond.codeWith ({ cls := "BitNotationLaw", name := "read", desc := "(LBitNotation;II[J)I" } : Jvm.MethodName) method_18_code (5 : Nat) (Option.some Jvm.ClassFile.FieldType.int) [((0 : Nat), (10 : Nat), (13 : Nat), (21 : Nat)), ((0 : Nat), (10 : Nat), (17 : Nat), (13 : Nat)), ((0 : Nat), (10 : Nat), (21 : Nat), (15 : Nat))]) ∈ wsA := wsA_3 (List.mem_of_getElem? (i := 97) rfl) rfl
theorem wt_3_98 : (Jvm.Cond.methodLink "BitNotationLaw" (65 : Nat) ({ cls := "BitNotation", name := "read", desc := "(II)I" } : Jvm.MethodName)) ∈ wsA := wsA_3 (List.mem_of_getElem? (i := 98) rfl) rfl
theorem wt_3_99 : (Jvm.Cond.instanceMethod ({ cls := "BitNotation", name := "read", desc := "(II)I" } : Jvm.MethodName)) ∈ wsA := wsA_3 (List.mem_of_getElem? (i := 99) rfl) rfl
theorem wt_3_100 : (Jvm.Cond.selects "BitNotation" ({ cls := "BitNotation", name := "read", desc := "(II)I" } : Jvm.MethodName) ({ cls := "BitNotation", name := "read", desc := "(II)I" } : Jvm.MethodName)) ∈ wsA := wsA_3 (List.mem_of_getElem? (i := 100) rfl) rfl
theorem wt_3_101 : (Jvm.Cond.code ({ cls := "BitNotation", name := "read", desc := "(II)I" } : Jvm.MethodName) prog_1_method_21_code (3 : Nat) (Option.some Jvm.ClassFile.FieldType.int)) ∈ wsA := wsA_3 (List.mem_of_getElem? (i := 101) rfl) rfl
theorem wt_3_102 : (Jvm.Cond.methodLink "BitNotation" (179 : Nat) ({ cls := "BitNotation", name := "placeOfFault", desc := "(II)I" } : Jvm.MethodName)) ∈ wsA := wsA_3 (List.mem_of_getElem? (i := 102) rfl) rfl
theorem wt_3_104 : (Jvm.Cond.instanceMethod ({ cls := "BitNotation", name := "placeOfFault", desc := "(II)I" } : Jvm.MethodName)) ∈ wsA := wsA_3 (List.mem_of_getElem? (i := 104) rfl) rfl
theorem wt_3_105 : (Jvm.Cond.code ({ cls := "BitNotation", name := "placeOfFault", desc := "(II)I" } : Jvm.MethodName) prog_1_method_27_code (4 : Nat) (Option.some Jvm.ClassFile.FieldType.int)) ∈ wsA := wsA_3 (List.mem_of_getElem? (i := 105) rfl) rfl
theorem wt_3_107 : (Jvm.Cond.methodLink "BitNotation" (201 : Nat) ({ cls := "BitNotation$Reader", name := "walk", desc := "(LBitNotation$Type;LBitNotation$Row;I)I" } : Jvm.MethodName)) ∈ wsA := wsA_3 (List.mem_of_getElem? (i := 107) rfl) rfl
theorem wt_3_108 : (Jvm.Cond.instanceMethod ({ cls := "BitNotation$Reader", name := "walk", desc := "(LBitNotation$Type;LBitNotation$Row;I)I" } : Jvm.MethodName)) ∈ wsA := wsA_3 (List.mem_of_getElem? (i := 108) rfl) rfl
theorem wt_3_109 : (Jvm.Cond.selects "BitNotation$Reader" ({ cls := "BitNotation$Reader", name := "walk", desc := "(LBitNotation$Type;LBitNotation$Row;I)I" } : Jvm.MethodName) ({ cls := "BitNotation$Reader", name := "walk", desc := "(LBitNotation$Type;LBitNotation$Row;I)I" } : Jvm.MethodName)) ∈ wsA := wsA_3 (List.mem_of_getElem? (i := 109) rfl) rfl
theorem wt_3_110 : (Jvm.Cond.code ({ cls := "BitNotation$Reader", name := "walk", desc := "(LBitNotation$Type;LBitNotation$Row;I)I" } : Jvm.MethodName) prog_3_method_2_code (4 : Nat) (Option.some Jvm.ClassFile.FieldType.int)) ∈ wsA := wsA_3 (List.mem_of_getElem? (i := 110) rfl) rfl
theorem wt_3_111 : (Jvm.Cond.methodLink "BitNotation$Reader" (30 : Nat) ({ cls := "BitNotation$Row", name := "keepFirst", desc := "(I)V" } : Jvm.MethodName)) ∈ wsA := wsA_3 (List.mem_of_getElem? (i := 111) rfl) rfl
theorem wt_3_112 : (Jvm.Cond.methodLink "BitNotation$Reader" (33 : Nat) ({ cls := "BitNotation$Reader", name := "getValue", desc := "(LBitNotation$Type;LBitNotation$Row;I)V" } : Jvm.MethodName)) ∈ wsA := wsA_3 (List.mem_of_getElem? (i := 112) rfl) rfl
theorem wt_3_114 : (Jvm.Cond.instanceMethod ({ cls := "BitNotation$Reader", name := "getValue", desc := "(LBitNotation$Type;LBitNotation$Row;I)V" } : Jvm.MethodName)) ∈ wsA := wsA_3 (List.mem_of_getElem? (i := 114) rfl) rfl
theorem wt_3_115 : (Jvm.Cond.code ({ cls := "BitNotation$Reader", name := "getValue", desc := "(LBitNotation$Type;LBitNotation$Row;I)V" } : Jvm.MethodName) prog_3_method_3_code (6 : Nat) (Option.none : Option Jvm.ClassFile.FieldType)) ∈ wsA := wsA_3 (List.mem_of_getElem? (i := 115) rfl) rfl
theorem wt_3_116 : (Jvm.Cond.fieldLink "BitNotation$Reader" (47 : Nat) "BitNotation$Kind" "SEQUENCE" "LBitNotation$Kind;") ∈ wsA := wsA_3 (List.mem_of_getElem? (i := 116) rfl) rfl
theorem wt_3_117 : (Jvm.Cond.methodLink "BitNotation$Reader" (52 : Nat) ({ cls := "BitNotation$Reader", name := "getSequence", desc := "(LBitNotation$Type;LBitNotation$Row;I)V" } : Jvm.MethodName)) ∈ wsA := wsA_3 (List.mem_of_getElem? (i := 117) rfl) rfl
theorem wt_3_119 : (Jvm.Cond.instanceMethod ({ cls := "BitNotation$Reader", name := "getSequence", desc := "(LBitNotation$Type;LBitNotation$Row;I)V" } : Jvm.MethodName)) ∈ wsA := wsA_3 (List.mem_of_getElem? (i := 119) rfl) rfl
theorem wt_3_120 : (Jvm.Cond.code ({ cls := "BitNotation$Reader", name := "getSequence", desc := "(LBitNotation$Type;LBitNotation$Row;I)V" } : Jvm.MethodName) prog_3_method_4_code (8 : Nat) (Option.none : Option Jvm.ClassFile.FieldType)) ∈ wsA := wsA_3 (List.mem_of_getElem? (i := 120) rfl) rfl
theorem wt_3_121 : (Jvm.Cond.methodLink "BitNotation$Reader" (64 : Nat) ({ cls := "BitNotation$Reader", name := "next", desc := "(LBitNotation$Row;II)I" } : Jvm.MethodName)) ∈ wsA := wsA_3 (List.mem_of_getElem? (i := 121) rfl) rfl
theorem wt_3_123 : (Jvm.Cond.instanceMethod ({ cls := "BitNotation$Reader", name := "next", desc := "(LBitNotation$Row;II)I" } : Jvm.MethodName)) ∈ wsA := wsA_3 (List.mem_of_getElem? (i := 123) rfl) rfl
theorem wt_3_124 : (Jvm.Cond.code ({ cls := "BitNotation$Reader", name := "next", desc := "(LBitNotation$Row;II)I" } : Jvm.MethodName) prog_3_method_9_code (6 : Nat) (Option.some Jvm.ClassFile.FieldType.int)) ∈ wsA := wsA_3 (List.mem_of_getElem? (i := 124) rfl) rfl
theorem wt_3_125 : (Jvm.Cond.methodLink "BitNotation$Reader" (120 : Nat) ({ cls := "BitNotation$Row", name := "at", desc := "(I)I" } : Jvm.MethodName)) ∈ wsA := wsA_3 (List.mem_of_getElem? (i := 125) rfl) rfl
theorem wt_3_126 : (Jvm.Cond.methodLink "BitNotation$Reader" (37 : Nat) ({ cls := "BitNotation$Row", name := "size", desc := "()I" } : Jvm.MethodName)) ∈ wsA := wsA_3 (List.mem_of_getElem? (i := 126) rfl) rfl
theorem wt_3_127 : (Jvm.Cond.methodLink "BitNotation$Reader" (87 : Nat) ({ cls := "BitNotation$Reader", name := "nextParts", desc := "(LBitNotation$Type;LBitNotation$Row;)I" } : Jvm.MethodName)) ∈ wsA := wsA_3 (List.mem_of_getElem? (i := 127) rfl) rfl
theorem wt_3_129 : (Jvm.Cond.instanceMethod ({ cls := "BitNotation$Reader", name := "nextParts", desc := "(LBitNotation$Type;LBitNotation$Row;)I" } : Jvm.MethodName)) ∈ wsA := wsA_3 (List.mem_of_getElem? (i := 129) rfl) rfl
theorem wt_3_130 : (Jvm.Cond.code ({ cls := "BitNotation$Reader", name := "nextParts", desc := "(LBitNotation$Type;LBitNotation$Row;)I" } : Jvm.MethodName) prog_3_method_5_code (6 : Nat) (Option.some Jvm.ClassFile.FieldType.int)) ∈ wsA := wsA_3 (List.mem_of_getElem? (i := 130) rfl) rfl
theorem wt_3_131 : (Jvm.Cond.methodLink "BitNotation$Reader" (91 : Nat) ({ cls := "BitNotation$TypeRow", name := "size", desc := "()I" } : Jvm.MethodName)) ∈ wsA := wsA_3 (List.mem_of_getElem? (i := 131) rfl) rfl
theorem wt_3_132 : (Jvm.Cond.methodLink "BitNotation$Reader" (109 : Nat) ({ cls := "BitNotation$Type", name := "isOptional", desc := "(I)Z" } : Jvm.MethodName)) ∈ wsA := wsA_3 (List.mem_of_getElem? (i := 132) rfl) rfl
theorem wt_3_133 : (Jvm.Cond.methodLink "BitNotation$Reader" (68 : Nat) ({ cls := "BitNotation$Row", name := "append", desc := "(I)V" } : Jvm.MethodName)) ∈ wsA := wsA_3 (List.mem_of_getElem? (i := 133) rfl) rfl
theorem wt_3_134 : (Jvm.Cond.methodLink "BitNotation$Reader" (78 : Nat) ({ cls := "BitNotation$TypeRow", name := "at", desc := "(I)LBitNotation$Type;" } : Jvm.MethodName)) ∈ wsA := wsA_3 (List.mem_of_getElem? (i := 134) rfl) rfl
theorem wt_3_135 : (Jvm.Cond.methodLink "BitNotation$Reader" (95 : Nat) ({ cls := "java/lang/Math", name := "min", desc := "(II)I" } : Jvm.MethodName)) ∈ wsA := wsA_3 (List.mem_of_getElem? (i := 135) rfl) rfl
theorem wt_3_136 : (Jvm.Cond.methodLink "BitNotation$Reader" (101 : Nat) ({ cls := "BitNotation$Row", name := "replace", desc := "(II)V" } : Jvm.MethodName)) ∈ wsA := wsA_3 (List.mem_of_getElem? (i := 136) rfl) rfl
theorem wt_3_137 : (Jvm.Cond.methodLink "BitNotation$Reader" (105 : Nat) ({ cls := "BitNotation$Reader", name := "getAdditions", desc := "(LBitNotation$Type;ILBitNotation$Row;I)V" } : Jvm.MethodName)) ∈ wsA := wsA_3 (List.mem_of_getElem? (i := 137) rfl) rfl
theorem wt_3_139 : (Jvm.Cond.instanceMethod ({ cls := "BitNotation$Reader", name := "getAdditions", desc := "(LBitNotation$Type;ILBitNotation$Row;I)V" } : Jvm.MethodName)) ∈ wsA := wsA_3 (List.mem_of_getElem? (i := 139) rfl) rfl
theorem wt_3_140 : (Jvm.Cond.code ({ cls := "BitNotation$Reader", name := "getAdditions", desc := "(LBitNotation$Type;ILBitNotation$Row;I)V" } : Jvm.MethodName) prog_3_method_6_code (7 : Nat) (Option.none : Option Jvm.ClassFile.FieldType)) ∈ wsA := wsA_3 (List.mem_of_getElem? (i := 140) rfl) rfl
theorem wt_3_141 : (Jvm.Cond.methodLink "BitNotation$Reader" (113 : Nat) ({ cls := "BitNotation$Reader", name := "getAddition", desc := "(LBitNotation$Type;ILBitNotation$Row;I)V" } : Jvm.MethodName)) ∈ wsA := wsA_3 (List.mem_of_getElem? (i := 141) rfl) rfl
theorem wt_3_143 : (Jvm.Cond.instanceMethod ({ cls := "BitNotation$Reader", name := "getAddition", desc := "(LBitNotation$Type;ILBitNotation$Row;I)V" } : Jvm.MethodName)) ∈ wsA := wsA_3 (List.mem_of_getElem? (i := 143) rfl) rfl
theorem wt_3_144 : (Jvm.Cond.code ({ cls := "BitNotation$Reader", name := "getAddition", desc := "(LBitNotation$Type;ILBitNotation$Row;I)V" } : Jvm.MethodName) prog_3_method_7_code (6 : Nat) (Option.none : Option Jvm.ClassFile.FieldType)) ∈ wsA := wsA_3 (List.mem_of_getElem? (i := 144) rfl) rfl
theorem wt_3_145 : (Jvm.Cond.methodLink "BitNotation$Reader" (116 : Nat) ({ cls := "BitNotation$Reader", name := "skip", desc := "(ILBitNotation$Row;)V" } : Jvm.MethodName)) ∈ wsA := wsA_3 (List.mem_of_getElem? (i := 145) rfl) rfl
theorem wt_3_147 : (Jvm.Cond.instanceMethod ({ cls := "BitNotation$Reader", name := "skip", desc := "(ILBitNotation$Row;)V" } : Jvm.MethodName)) ∈ wsA := wsA_3 (List.mem_of_getElem? (i := 147) rfl) rfl
theorem wt_3_148 : (Jvm.Cond.code ({ cls := "BitNotation$Reader", name := "skip", desc := "(ILBitNotation$Row;)V" } : Jvm.MethodName) prog_3_method_8_code (3 : Nat) (Option.none : Option Jvm.ClassFile.FieldType)) ∈ wsA := wsA_3 (List.mem_of_getElem? (i := 148) rfl) rfl
theorem wt_3_149 : (Jvm.Cond.fieldLink "BitNotation$Reader" (71 : Nat) "BitNotation$Kind" "LIST" "LBitNotation$Kind;") ∈ wsA := wsA_3 (List.mem_of_getElem? (i := 149) rfl) rfl
theorem wt_3_150 : (Jvm.Cond.fieldLink "BitNotation$Reader" (84 : Nat) "BitNotation$Kind" "CHOICE" "LBitNotation$Kind;") ∈ wsA := wsA_3 (List.mem_of_getElem? (i := 150) rfl) rfl
theorem wt_3_152 : (Jvm.Cond.methodLink "BitNotationLaw" (149 : Nat) ({ cls := "BitNotationLaw", name := "faultAt", desc := "(LBitNotation;II[J)I" } : Jvm.MethodName)) ∈ wsA := wsA_3 (List.mem_of_getElem? (i := 152) rfl) rfl
theorem wt_3_153 : (Jvm.Cond.static ({ cls := "BitNotationLaw", name := "faultAt", desc := "(LBitNotation;II[J)I" } : Jvm.MethodName)) ∈ wsA := wsA_3 (List.mem_of_getElem? (i := 153) rfl) rfl
theorem wt_3_154 : (Jvm.Cond.codeWith ({ cls := "BitNotationLaw", name := "faultAt", desc := "(LBitNotation;II[J)I" } : Jvm.MethodName) method_19_code (5 : Nat) (Option.some Jvm.ClassFile.FieldType.int) [((0 : Nat), (10 : Nat), (13 : Nat), (21 : Nat)), ((0 : Nat), (10 : Nat), (17 : Nat), (13 : Nat))]) ∈ wsA := wsA_3 (List.mem_of_getElem? (i := 154) rfl) rfl
theorem wt_3_155 : (Jvm.Cond.methodLink "BitNotationLaw" (68 : Nat) ({ cls := "BitNotation", name := "faultAt", desc := "(II)I" } : Jvm.MethodName)) ∈ wsA := wsA_3 (List.mem_of_getElem? (i := 155) rfl) rfl
theorem wt_3_156 : (Jvm.Cond.instanceMethod ({ cls := "BitNotation", name := "faultAt", desc := "(II)I" } : Jvm.MethodName)) ∈ wsA := wsA_3 (List.mem_of_getElem? (i := 156) rfl) rfl
theorem wt_3_157 : (Jvm.Cond.selects "BitNotation" ({ cls := "BitNotation", name := "faultAt", desc := "(II)I" } : Jvm.MethodName) ({ cls := "BitNotation", name := "faultAt", desc := "(II)I" } : Jvm.MethodName)) ∈ wsA := wsA_3 (List.mem_of_getElem? (i := 157) rfl) rfl
theorem wt_3_158 : (Jvm.Cond.code ({ cls := "BitNotation", name := "faultAt", desc := "(II)I" } : Jvm.MethodName) prog_1_method_22_code (3 : Nat) (Option.some Jvm.ClassFile.FieldType.int)) ∈ wsA := wsA_3 (List.mem_of_getElem? (i := 158) rfl) rfl
theorem wt_3_159 : (Jvm.Cond.classLink "BitNotationLaw" (72 : Nat) "BitNotationModel") ∈ wsA := wsA_3 (List.mem_of_getElem? (i := 159) rfl) rfl
theorem wt_3_160 : (Jvm.Cond.instantiable "BitNotationModel" (30 : Nat)) ∈ wsA := wsA_3 (List.mem_of_getElem? (i := 160) rfl) rfl
theorem wt_3_161 : (Jvm.Cond.methodLink "BitNotationLaw" (74 : Nat) ({ cls := "BitNotationModel", name := "<init>", desc := "()V" } : Jvm.MethodName)) ∈ wsA := wsA_3 (List.mem_of_getElem? (i := 161) rfl) rfl
theorem wt_3_162 : (Jvm.Cond.instanceMethod ({ cls := "BitNotationModel", name := "<init>", desc := "()V" } : Jvm.MethodName)) ∈ wsA := wsA_3 (List.mem_of_getElem? (i := 162) rfl) rfl
theorem wt_3_163 : (Jvm.Cond.code ({ cls := "BitNotationModel", name := "<init>", desc := "()V" } : Jvm.MethodName) prog_9_method_1_code (1 : Nat) (Option.none : Option Jvm.ClassFile.FieldType)) ∈ wsA := wsA_3 (List.mem_of_getElem? (i := 163) rfl) rfl
theorem wt_3_164 : (Jvm.Cond.methodLink "BitNotationModel" (1 : Nat) ({ cls := "java/lang/Object", name := "<init>", desc := "()V" } : Jvm.MethodName)) ∈ wsA := wsA_3 (List.mem_of_getElem? (i := 164) rfl) rfl
theorem wt_3_165 : (Jvm.Cond.fieldLink "BitNotationModel" (73 : Nat) "BitNotationModel" "refusal" "I") ∈ wsA := wsA_3 (List.mem_of_getElem? (i := 165) rfl) rfl
theorem wt_3_166 : (Jvm.Cond.fieldLink "BitNotationModel" (77 : Nat) "BitNotationModel" "types" "I") ∈ wsA := wsA_3 (List.mem_of_getElem? (i := 166) rfl) rfl
theorem wt_3_167 : (Jvm.Cond.fieldLink "BitNotationModel" (7 : Nat) "BitNotationModel" "kinds" "[I") ∈ wsA := wsA_3 (List.mem_of_getElem? (i := 167) rfl) rfl
theorem wt_3_168 : (Jvm.Cond.fieldLink "BitNotationModel" (13 : Nat) "BitNotationModel" "leasts" "[I") ∈ wsA := wsA_3 (List.mem_of_getElem? (i := 168) rfl) rfl
theorem wt_3_169 : (Jvm.Cond.fieldLink "BitNotationModel" (16 : Nat) "BitNotationModel" "greatests" "[I") ∈ wsA := wsA_3 (List.mem_of_getElem? (i := 169) rfl) rfl
theorem wt_3_170 : (Jvm.Cond.fieldLink "BitNotationModel" (19 : Nat) "BitNotationModel" "parts" "[I") ∈ wsA := wsA_3 (List.mem_of_getElem? (i := 170) rfl) rfl
theorem wt_3_171 : (Jvm.Cond.fieldLink "BitNotationModel" (22 : Nat) "BitNotationModel" "counts" "[I") ∈ wsA := wsA_3 (List.mem_of_getElem? (i := 171) rfl) rfl
theorem wt_3_172 : (Jvm.Cond.fieldLink "BitNotationModel" (25 : Nat) "BitNotationModel" "additions" "[I") ∈ wsA := wsA_3 (List.mem_of_getElem? (i := 172) rfl) rfl
theorem wt_3_173 : (Jvm.Cond.fieldLink "BitNotationModel" (28 : Nat) "BitNotationModel" "added" "[I") ∈ wsA := wsA_3 (List.mem_of_getElem? (i := 173) rfl) rfl
theorem wt_3_174 : (Jvm.Cond.fieldLink "BitNotationModel" (31 : Nat) "BitNotationModel" "low" "[I") ∈ wsA := wsA_3 (List.mem_of_getElem? (i := 174) rfl) rfl
theorem wt_3_175 : (Jvm.Cond.fieldLink "BitNotationModel" (34 : Nat) "BitNotationModel" "high" "[I") ∈ wsA := wsA_3 (List.mem_of_getElem? (i := 175) rfl) rfl
theorem wt_3_176 : (Jvm.Cond.fieldLink "BitNotationModel" (37 : Nat) "BitNotationModel" "longest" "[I") ∈ wsA := wsA_3 (List.mem_of_getElem? (i := 176) rfl) rfl
theorem wt_3_177 : (Jvm.Cond.fieldLink "BitNotationModel" (123 : Nat) "BitNotationModel" "drafted" "I") ∈ wsA := wsA_3 (List.mem_of_getElem? (i := 177) rfl) rfl
theorem wt_3_178 : (Jvm.Cond.fieldLink "BitNotationModel" (40 : Nat) "BitNotationModel" "draft" "[I") ∈ wsA := wsA_3 (List.mem_of_getElem? (i := 178) rfl) rfl
theorem wt_3_179 : (Jvm.Cond.fieldLink "BitNotationModel" (139 : Nat) "BitNotationModel" "told" "I") ∈ wsA := wsA_3 (List.mem_of_getElem? (i := 179) rfl) rfl
theorem wt_3_180 : (Jvm.Cond.fieldLink "BitNotationModel" (43 : Nat) "BitNotationModel" "tale" "[I") ∈ wsA := wsA_3 (List.mem_of_getElem? (i := 180) rfl) rfl
theorem wt_3_181 : (Jvm.Cond.fieldLink "BitNotationModel" (145 : Nat) "BitNotationModel" "written" "I") ∈ wsA := wsA_3 (List.mem_of_getElem? (i := 181) rfl) rfl
theorem wt_3_182 : (Jvm.Cond.fieldLink "BitNotationModel" (46 : Nat) "BitNotationModel" "row" "[I") ∈ wsA := wsA_3 (List.mem_of_getElem? (i := 182) rfl) rfl
theorem wt_3_183 : (Jvm.Cond.fieldLink "BitNotationModel" (186 : Nat) "BitNotationModel" "found" "I") ∈ wsA := wsA_3 (List.mem_of_getElem? (i := 183) rfl) rfl
theorem wt_3_184 : (Jvm.Cond.fieldLink "BitNotationModel" (49 : Nat) "BitNotationModel" "read" "[I") ∈ wsA := wsA_3 (List.mem_of_getElem? (i := 184) rfl) rfl
theorem wt_3_185 : (Jvm.Cond.fieldLink "BitNotationModel" (142 : Nat) "BitNotationModel" "depth" "I") ∈ wsA := wsA_3 (List.mem_of_getElem? (i := 185) rfl) rfl
theorem wt_3_186 : (Jvm.Cond.fieldLink "BitNotationModel" (52 : Nat) "BitNotationModel" "piled" "[I") ∈ wsA := wsA_3 (List.mem_of_getElem? (i := 186) rfl) rfl
theorem wt_3_187 : (Jvm.Cond.fieldLink "BitNotationModel" (55 : Nat) "BitNotationModel" "steps" "[I") ∈ wsA := wsA_3 (List.mem_of_getElem? (i := 187) rfl) rfl
theorem wt_3_188 : (Jvm.Cond.fieldLink "BitNotationModel" (58 : Nat) "BitNotationModel" "left" "[I") ∈ wsA := wsA_3 (List.mem_of_getElem? (i := 188) rfl) rfl
theorem wt_3_189 : (Jvm.Cond.fieldLink "BitNotationModel" (61 : Nat) "BitNotationModel" "more" "[I") ∈ wsA := wsA_3 (List.mem_of_getElem? (i := 189) rfl) rfl
theorem wt_3_190 : (Jvm.Cond.fieldLink "BitNotationModel" (64 : Nat) "BitNotationModel" "marks" "[I") ∈ wsA := wsA_3 (List.mem_of_getElem? (i := 190) rfl) rfl
theorem wt_3_191 : (Jvm.Cond.fieldLink "BitNotationModel" (67 : Nat) "BitNotationModel" "lengths" "[I") ∈ wsA := wsA_3 (List.mem_of_getElem? (i := 191) rfl) rfl
theorem wt_3_192 : (Jvm.Cond.fieldLink "BitNotationModel" (70 : Nat) "BitNotationModel" "slots" "[I") ∈ wsA := wsA_3 (List.mem_of_getElem? (i := 192) rfl) rfl
theorem wt_3_193 : (Jvm.Cond.fieldLink "BitNotationModel" (148 : Nat) "BitNotationModel" "place" "I") ∈ wsA := wsA_3 (List.mem_of_getElem? (i := 193) rfl) rfl
theorem wt_3_194 : (Jvm.Cond.fieldLink "BitNotationModel" (151 : Nat) "BitNotationModel" "fault" "I") ∈ wsA := wsA_3 (List.mem_of_getElem? (i := 194) rfl) rfl
theorem wt_3_195 : (Jvm.Cond.lays "BitNotationModel" "BitNotationModel" "refusal" "I") ∈ wsA := wsA_3 (List.mem_of_getElem? (i := 195) rfl) rfl
theorem wt_3_197 : (Jvm.Cond.lays "BitNotationModel" "BitNotationModel" "types" "I") ∈ wsA := wsA_3 (List.mem_of_getElem? (i := 197) rfl) rfl
theorem wt_3_199 : (Jvm.Cond.laysFinal "BitNotationModel" "BitNotationModel" "kinds" "[I") ∈ wsA := wsA_3 (List.mem_of_getElem? (i := 199) rfl) rfl
theorem wt_3_201 : (Jvm.Cond.laysFinal "BitNotationModel" "BitNotationModel" "leasts" "[I") ∈ wsA := wsA_3 (List.mem_of_getElem? (i := 201) rfl) rfl
theorem wt_3_203 : (Jvm.Cond.laysFinal "BitNotationModel" "BitNotationModel" "greatests" "[I") ∈ wsA := wsA_3 (List.mem_of_getElem? (i := 203) rfl) rfl
theorem wt_3_205 : (Jvm.Cond.laysFinal "BitNotationModel" "BitNotationModel" "parts" "[I") ∈ wsA := wsA_3 (List.mem_of_getElem? (i := 205) rfl) rfl
theorem wt_3_207 : (Jvm.Cond.laysFinal "BitNotationModel" "BitNotationModel" "counts" "[I") ∈ wsA := wsA_3 (List.mem_of_getElem? (i := 207) rfl) rfl
theorem wt_3_209 : (Jvm.Cond.laysFinal "BitNotationModel" "BitNotationModel" "additions" "[I") ∈ wsA := wsA_3 (List.mem_of_getElem? (i := 209) rfl) rfl
theorem wt_3_211 : (Jvm.Cond.laysFinal "BitNotationModel" "BitNotationModel" "added" "[I") ∈ wsA := wsA_3 (List.mem_of_getElem? (i := 211) rfl) rfl
theorem wt_3_213 : (Jvm.Cond.laysFinal "BitNotationModel" "BitNotationModel" "low" "[I") ∈ wsA := wsA_3 (List.mem_of_getElem? (i := 213) rfl) rfl
theorem wt_3_215 : (Jvm.Cond.laysFinal "BitNotationModel" "BitNotationModel" "high" "[I") ∈ wsA := wsA_3 (List.mem_of_getElem? (i := 215) rfl) rfl
theorem wt_3_217 : (Jvm.Cond.laysFinal "BitNotationModel" "BitNotationModel" "longest" "[I") ∈ wsA := wsA_3 (List.mem_of_getElem? (i := 217) rfl) rfl
theorem wt_3_219 : (Jvm.Cond.lays "BitNotationModel" "BitNotationModel" "drafted" "I") ∈ wsA := wsA_3 (List.mem_of_getElem? (i := 219) rfl) rfl
theorem wt_3_221 : (Jvm.Cond.laysFinal "BitNotationModel" "BitNotationModel" "draft" "[I") ∈ wsA := wsA_3 (List.mem_of_getElem? (i := 221) rfl) rfl
theorem wt_3_223 : (Jvm.Cond.lays "BitNotationModel" "BitNotationModel" "told" "I") ∈ wsA := wsA_3 (List.mem_of_getElem? (i := 223) rfl) rfl
theorem wt_3_225 : (Jvm.Cond.laysFinal "BitNotationModel" "BitNotationModel" "tale" "[I") ∈ wsA := wsA_3 (List.mem_of_getElem? (i := 225) rfl) rfl
theorem wt_3_227 : (Jvm.Cond.lays "BitNotationModel" "BitNotationModel" "written" "I") ∈ wsA := wsA_3 (List.mem_of_getElem? (i := 227) rfl) rfl
theorem wt_3_229 : (Jvm.Cond.laysFinal "BitNotationModel" "BitNotationModel" "row" "[I") ∈ wsA := wsA_3 (List.mem_of_getElem? (i := 229) rfl) rfl
theorem wt_3_231 : (Jvm.Cond.lays "BitNotationModel" "BitNotationModel" "found" "I") ∈ wsA := wsA_3 (List.mem_of_getElem? (i := 231) rfl) rfl
theorem wt_3_233 : (Jvm.Cond.laysFinal "BitNotationModel" "BitNotationModel" "read" "[I") ∈ wsA := wsA_3 (List.mem_of_getElem? (i := 233) rfl) rfl
theorem wt_3_235 : (Jvm.Cond.lays "BitNotationModel" "BitNotationModel" "depth" "I") ∈ wsA := wsA_3 (List.mem_of_getElem? (i := 235) rfl) rfl
theorem wt_3_237 : (Jvm.Cond.laysFinal "BitNotationModel" "BitNotationModel" "piled" "[I") ∈ wsA := wsA_3 (List.mem_of_getElem? (i := 237) rfl) rfl
theorem wt_3_239 : (Jvm.Cond.laysFinal "BitNotationModel" "BitNotationModel" "steps" "[I") ∈ wsA := wsA_3 (List.mem_of_getElem? (i := 239) rfl) rfl
theorem wt_4_1 : (Jvm.Cond.laysFinal "BitNotationModel" "BitNotationModel" "left" "[I") ∈ wsA := wsA_4 (List.mem_of_getElem? (i := 1) rfl) rfl
theorem wt_4_3 : (Jvm.Cond.laysFinal "BitNotationModel" "BitNotationModel" "more" "[I") ∈ wsA := wsA_4 (List.mem_of_getElem? (i := 3) rfl) rfl
theorem wt_4_5 : (Jvm.Cond.laysFinal "BitNotationModel" "BitNotationModel" "marks" "[I") ∈ wsA := wsA_4 (List.mem_of_getElem? (i := 5) rfl) rfl
theorem wt_4_7 : (Jvm.Cond.laysFinal "BitNotationModel" "BitNotationModel" "lengths" "[I") ∈ wsA := wsA_4 (List.mem_of_getElem? (i := 7) rfl) rfl
theorem wt_4_9 : (Jvm.Cond.laysFinal "BitNotationModel" "BitNotationModel" "slots" "[I") ∈ wsA := wsA_4 (List.mem_of_getElem? (i := 9) rfl) rfl
theorem wt_4_11 : (Jvm.Cond.lays "BitNotationModel" "BitNotationModel" "place" "I") ∈ wsA := wsA_4 (List.mem_of_getElem? (i := 11) rfl) rfl
theorem wt_4_13 : (Jvm.Cond.lays "BitNotationModel" "BitNotationModel" "fault" "I") ∈ wsA := wsA_4 (List.mem_of_getElem? (i := 13) rfl) rfl
theorem wt_4_16 : (Jvm.Cond.methodLink "BitNotationLaw" (81 : Nat) ({ cls := "BitNotationModel", name := "thrown", desc := "()I" } : Jvm.MethodName)) ∈ wsA := wsA_4 (List.mem_of_getElem? (i := 16) rfl) rfl
theorem wt_4_17 : (Jvm.Cond.instanceMethod ({ cls := "BitNotationModel", name := "thrown", desc := "()I" } : Jvm.MethodName)) ∈ wsA := wsA_4 (List.mem_of_getElem? (i := 17) rfl) rfl
theorem wt_4_18 : (Jvm.Cond.selects "BitNotationModel" ({ cls := "BitNotationModel", name := "thrown", desc := "()I" } : Jvm.MethodName) ({ cls := "BitNotationModel", name := "thrown", desc := "()I" } : Jvm.MethodName)) ∈ wsA := wsA_4 (List.mem_of_getElem? (i := 18) rfl) rfl
theorem wt_4_19 : (Jvm.Cond.code ({ cls := "BitNotationModel", name := "thrown", desc := "()I" } : Jvm.MethodName) prog_9_method_2_code (1 : Nat) (Option.some Jvm.ClassFile.FieldType.int)) ∈ wsA := wsA_4 (List.mem_of_getElem? (i := 19) rfl) rfl
theorem wt_4_20 : (Jvm.Cond.methodLink "BitNotationLaw" (80 : Nat) ({ cls := "BitNotationModel", name := "addNumber", desc := "(II)I" } : Jvm.MethodName)) ∈ wsA := wsA_4 (List.mem_of_getElem? (i := 20) rfl) rfl
theorem wt_4_21 : (Jvm.Cond.instanceMethod ({ cls := "BitNotationModel", name := "addNumber", desc := "(II)I" } : Jvm.MethodName)) ∈ wsA := wsA_4 (List.mem_of_getElem? (i := 21) rfl) rfl
theorem wt_4_22 : (Jvm.Cond.selects "BitNotationModel" ({ cls := "BitNotationModel", name := "addNumber", desc := "(II)I" } : Jvm.MethodName) ({ cls := "BitNotationModel", name := "addNumber", desc := "(II)I" } : Jvm.MethodName)) ∈ wsA := wsA_4 (List.mem_of_getElem? (i := 22) rfl) rfl
theorem wt_4_23 : (Jvm.Cond.code ({ cls := "BitNotationModel", name := "addNumber", desc := "(II)I" } : Jvm.MethodName) prog_9_method_16_code (4 : Nat) (Option.some Jvm.ClassFile.FieldType.int)) ∈ wsA := wsA_4 (List.mem_of_getElem? (i := 23) rfl) rfl
theorem wt_4_24 : (Jvm.Cond.methodLink "BitNotationModel" (80 : Nat) ({ cls := "BitNotationModel", name := "in", desc := "(III)Z" } : Jvm.MethodName)) ∈ wsA := wsA_4 (List.mem_of_getElem? (i := 24) rfl) rfl
theorem wt_4_25 : (Jvm.Cond.static ({ cls := "BitNotationModel", name := "in", desc := "(III)Z" } : Jvm.MethodName)) ∈ wsA := wsA_4 (List.mem_of_getElem? (i := 25) rfl) rfl
theorem wt_4_26 : (Jvm.Cond.code ({ cls := "BitNotationModel", name := "in", desc := "(III)Z" } : Jvm.MethodName) prog_9_method_5_code (3 : Nat) (Option.some Jvm.ClassFile.FieldType.boolean)) ∈ wsA := wsA_4 (List.mem_of_getElem? (i := 26) rfl) rfl
theorem wt_4_27 : (Jvm.Cond.methodLink "BitNotationModel" (109 : Nat) ({ cls := "BitNotationModel", name := "refused", desc := "(I)Z" } : Jvm.MethodName)) ∈ wsA := wsA_4 (List.mem_of_getElem? (i := 27) rfl) rfl
theorem wt_4_29 : (Jvm.Cond.instanceMethod ({ cls := "BitNotationModel", name := "refused", desc := "(I)Z" } : Jvm.MethodName)) ∈ wsA := wsA_4 (List.mem_of_getElem? (i := 29) rfl) rfl
theorem wt_4_30 : (Jvm.Cond.code ({ cls := "BitNotationModel", name := "refused", desc := "(I)Z" } : Jvm.MethodName) prog_9_method_3_code (2 : Nat) (Option.some Jvm.ClassFile.FieldType.boolean)) ∈ wsA := wsA_4 (List.mem_of_getElem? (i := 30) rfl) rfl
theorem wt_4_31 : (Jvm.Cond.methodLink "BitNotationModel" (113 : Nat) ({ cls := "BitNotationModel", name := "lay", desc := "(IIII)V" } : Jvm.MethodName)) ∈ wsA := wsA_4 (List.mem_of_getElem? (i := 31) rfl) rfl
theorem wt_4_33 : (Jvm.Cond.instanceMethod ({ cls := "BitNotationModel", name := "lay", desc := "(IIII)V" } : Jvm.MethodName)) ∈ wsA := wsA_4 (List.mem_of_getElem? (i := 33) rfl) rfl
theorem wt_4_34 : (Jvm.Cond.code ({ cls := "BitNotationModel", name := "lay", desc := "(IIII)V" } : Jvm.MethodName) prog_9_method_15_code (5 : Nat) (Option.none : Option Jvm.ClassFile.FieldType)) ∈ wsA := wsA_4 (List.mem_of_getElem? (i := 34) rfl) rfl
theorem wt_4_35 : (Jvm.Cond.methodLink "BitNotationModel" (117 : Nat) ({ cls := "BitNotationModel", name := "measure", desc := "(I)Z" } : Jvm.MethodName)) ∈ wsA := wsA_4 (List.mem_of_getElem? (i := 35) rfl) rfl
theorem wt_4_37 : (Jvm.Cond.instanceMethod ({ cls := "BitNotationModel", name := "measure", desc := "(I)Z" } : Jvm.MethodName)) ∈ wsA := wsA_4 (List.mem_of_getElem? (i := 37) rfl) rfl
theorem wt_4_38 : (Jvm.Cond.code ({ cls := "BitNotationModel", name := "measure", desc := "(I)Z" } : Jvm.MethodName) prog_9_method_14_code (4 : Nat) (Option.some Jvm.ClassFile.FieldType.boolean)) ∈ wsA := wsA_4 (List.mem_of_getElem? (i := 38) rfl) rfl
theorem wt_4_39 : (Jvm.Cond.methodLink "BitNotationModel" (102 : Nat) ({ cls := "BitNotationModel", name := "measureSequence", desc := "(I)V" } : Jvm.MethodName)) ∈ wsA := wsA_4 (List.mem_of_getElem? (i := 39) rfl) rfl
theorem wt_4_41 : (Jvm.Cond.instanceMethod ({ cls := "BitNotationModel", name := "measureSequence", desc := "(I)V" } : Jvm.MethodName)) ∈ wsA := wsA_4 (List.mem_of_getElem? (i := 41) rfl) rfl
theorem wt_4_42 : (Jvm.Cond.code ({ cls := "BitNotationModel", name := "measureSequence", desc := "(I)V" } : Jvm.MethodName) prog_9_method_12_code (5 : Nat) (Option.none : Option Jvm.ClassFile.FieldType)) ∈ wsA := wsA_4 (List.mem_of_getElem? (i := 42) rfl) rfl
theorem wt_4_43 : (Jvm.Cond.methodLink "BitNotationModel" (92 : Nat) ({ cls := "BitNotationModel", name := "optionals", desc := "(I)I" } : Jvm.MethodName)) ∈ wsA := wsA_4 (List.mem_of_getElem? (i := 43) rfl) rfl
theorem wt_4_45 : (Jvm.Cond.instanceMethod ({ cls := "BitNotationModel", name := "optionals", desc := "(I)I" } : Jvm.MethodName)) ∈ wsA := wsA_4 (List.mem_of_getElem? (i := 45) rfl) rfl
theorem wt_4_46 : (Jvm.Cond.code ({ cls := "BitNotationModel", name := "optionals", desc := "(I)I" } : Jvm.MethodName) prog_9_method_11_code (4 : Nat) (Option.some Jvm.ClassFile.FieldType.int)) ∈ wsA := wsA_4 (List.mem_of_getElem? (i := 46) rfl) rfl
theorem wt_4_47 : (Jvm.Cond.methodLink "BitNotationModel" (88 : Nat) ({ cls := "BitNotationModel", name := "isOptional", desc := "(II)Z" } : Jvm.MethodName)) ∈ wsA := wsA_4 (List.mem_of_getElem? (i := 47) rfl) rfl
theorem wt_4_49 : (Jvm.Cond.instanceMethod ({ cls := "BitNotationModel", name := "isOptional", desc := "(II)Z" } : Jvm.MethodName)) ∈ wsA := wsA_4 (List.mem_of_getElem? (i := 49) rfl) rfl
theorem wt_4_50 : (Jvm.Cond.code ({ cls := "BitNotationModel", name := "isOptional", desc := "(II)Z" } : Jvm.MethodName) prog_9_method_10_code (3 : Nat) (Option.some Jvm.ClassFile.FieldType.boolean)) ∈ wsA := wsA_4 (List.mem_of_getElem? (i := 50) rfl) rfl
theorem wt_4_51 : (Jvm.Cond.methodLink "BitNotationModel" (95 : Nat) ({ cls := "BitNotationModel", name := "partOf", desc := "(II)I" } : Jvm.MethodName)) ∈ wsA := wsA_4 (List.mem_of_getElem? (i := 51) rfl) rfl
theorem wt_4_53 : (Jvm.Cond.instanceMethod ({ cls := "BitNotationModel", name := "partOf", desc := "(II)I" } : Jvm.MethodName)) ∈ wsA := wsA_4 (List.mem_of_getElem? (i := 53) rfl) rfl
theorem wt_4_54 : (Jvm.Cond.code ({ cls := "BitNotationModel", name := "partOf", desc := "(II)I" } : Jvm.MethodName) prog_9_method_9_code (3 : Nat) (Option.some Jvm.ClassFile.FieldType.int)) ∈ wsA := wsA_4 (List.mem_of_getElem? (i := 54) rfl) rfl
theorem wt_4_55 : (Jvm.Cond.methodLink "BitNotationModel" (106 : Nat) ({ cls := "BitNotationModel", name := "measureChoice", desc := "(I)V" } : Jvm.MethodName)) ∈ wsA := wsA_4 (List.mem_of_getElem? (i := 55) rfl) rfl
theorem wt_4_57 : (Jvm.Cond.instanceMethod ({ cls := "BitNotationModel", name := "measureChoice", desc := "(I)V" } : Jvm.MethodName)) ∈ wsA := wsA_4 (List.mem_of_getElem? (i := 57) rfl) rfl
theorem wt_4_58 : (Jvm.Cond.code ({ cls := "BitNotationModel", name := "measureChoice", desc := "(I)V" } : Jvm.MethodName) prog_9_method_13_code (7 : Nat) (Option.none : Option Jvm.ClassFile.FieldType)) ∈ wsA := wsA_4 (List.mem_of_getElem? (i := 58) rfl) rfl
theorem wt_4_59 : (Jvm.Cond.methodLink "BitNotationModel" (99 : Nat) ({ cls := "BitNotationModel", name := "widthOf", desc := "(I)I" } : Jvm.MethodName)) ∈ wsA := wsA_4 (List.mem_of_getElem? (i := 59) rfl) rfl
theorem wt_4_61 : (Jvm.Cond.instanceMethod ({ cls := "BitNotationModel", name := "widthOf", desc := "(I)I" } : Jvm.MethodName)) ∈ wsA := wsA_4 (List.mem_of_getElem? (i := 61) rfl) rfl
theorem wt_4_62 : (Jvm.Cond.code ({ cls := "BitNotationModel", name := "widthOf", desc := "(I)I" } : Jvm.MethodName) prog_9_method_8_code (2 : Nat) (Option.some Jvm.ClassFile.FieldType.int)) ∈ wsA := wsA_4 (List.mem_of_getElem? (i := 62) rfl) rfl
theorem wt_4_63 : (Jvm.Cond.methodLink "BitNotationModel" (84 : Nat) ({ cls := "BitNotationModel", name := "width", desc := "(I)I" } : Jvm.MethodName)) ∈ wsA := wsA_4 (List.mem_of_getElem? (i := 63) rfl) rfl
theorem wt_4_64 : (Jvm.Cond.static ({ cls := "BitNotationModel", name := "width", desc := "(I)I" } : Jvm.MethodName)) ∈ wsA := wsA_4 (List.mem_of_getElem? (i := 64) rfl) rfl
theorem wt_4_65 : (Jvm.Cond.code ({ cls := "BitNotationModel", name := "width", desc := "(I)I" } : Jvm.MethodName) prog_9_method_7_code (2 : Nat) (Option.some Jvm.ClassFile.FieldType.int)) ∈ wsA := wsA_4 (List.mem_of_getElem? (i := 65) rfl) rfl
theorem wt_4_66 : (Jvm.Cond.methodLink "BitNotationLaw" (87 : Nat) ({ cls := "BitNotationModel", name := "addList", desc := "(III)I" } : Jvm.MethodName)) ∈ wsA := wsA_4 (List.mem_of_getElem? (i := 66) rfl) rfl
theorem wt_4_67 : (Jvm.Cond.instanceMethod ({ cls := "BitNotationModel", name := "addList", desc := "(III)I" } : Jvm.MethodName)) ∈ wsA := wsA_4 (List.mem_of_getElem? (i := 67) rfl) rfl
theorem wt_4_68 : (Jvm.Cond.selects "BitNotationModel" ({ cls := "BitNotationModel", name := "addList", desc := "(III)I" } : Jvm.MethodName) ({ cls := "BitNotationModel", name := "addList", desc := "(III)I" } : Jvm.MethodName)) ∈ wsA := wsA_4 (List.mem_of_getElem? (i := 68) rfl) rfl
theorem wt_4_69 : (Jvm.Cond.code ({ cls := "BitNotationModel", name := "addList", desc := "(III)I" } : Jvm.MethodName) prog_9_method_17_code (6 : Nat) (Option.some Jvm.ClassFile.FieldType.int)) ∈ wsA := wsA_4 (List.mem_of_getElem? (i := 69) rfl) rfl
theorem wt_4_70 : (Jvm.Cond.methodLink "BitNotationModel" (120 : Nat) ({ cls := "BitNotationModel", name := "isType", desc := "(I)Z" } : Jvm.MethodName)) ∈ wsA := wsA_4 (List.mem_of_getElem? (i := 70) rfl) rfl
theorem wt_4_72 : (Jvm.Cond.instanceMethod ({ cls := "BitNotationModel", name := "isType", desc := "(I)Z" } : Jvm.MethodName)) ∈ wsA := wsA_4 (List.mem_of_getElem? (i := 72) rfl) rfl
theorem wt_4_73 : (Jvm.Cond.code ({ cls := "BitNotationModel", name := "isType", desc := "(I)Z" } : Jvm.MethodName) prog_9_method_6_code (2 : Nat) (Option.some Jvm.ClassFile.FieldType.boolean)) ∈ wsA := wsA_4 (List.mem_of_getElem? (i := 73) rfl) rfl
theorem wt_4_74 : (Jvm.Cond.methodLink "BitNotationLaw" (91 : Nat) ({ cls := "BitNotationModel", name := "part", desc := "(IZ)I" } : Jvm.MethodName)) ∈ wsA := wsA_4 (List.mem_of_getElem? (i := 74) rfl) rfl
theorem wt_4_75 : (Jvm.Cond.instanceMethod ({ cls := "BitNotationModel", name := "part", desc := "(IZ)I" } : Jvm.MethodName)) ∈ wsA := wsA_4 (List.mem_of_getElem? (i := 75) rfl) rfl
theorem wt_4_76 : (Jvm.Cond.selects "BitNotationModel" ({ cls := "BitNotationModel", name := "part", desc := "(IZ)I" } : Jvm.MethodName) ({ cls := "BitNotationModel", name := "part", desc := "(IZ)I" } : Jvm.MethodName)) ∈ wsA := wsA_4 (List.mem_of_getElem? (i := 76) rfl) rfl
theorem wt_4_77 : (Jvm.Cond.code ({ cls := "BitNotationModel", name := "part", desc := "(IZ)I" } : Jvm.MethodName) prog_9_method_18_code (3 : Nat) (Option.some Jvm.ClassFile.FieldType.int)) ∈ wsA := wsA_4 (List.mem_of_getElem? (i := 77) rfl) rfl
theorem wt_4_78 : (Jvm.Cond.methodLink "BitNotationLaw" (95 : Nat) ({ cls := "BitNotationModel", name := "addSequence", desc := "()I" } : Jvm.MethodName)) ∈ wsA := wsA_4 (List.mem_of_getElem? (i := 78) rfl) rfl
theorem wt_4_79 : (Jvm.Cond.instanceMethod ({ cls := "BitNotationModel", name := "addSequence", desc := "()I" } : Jvm.MethodName)) ∈ wsA := wsA_4 (List.mem_of_getElem? (i := 79) rfl) rfl
theorem wt_4_80 : (Jvm.Cond.selects "BitNotationModel" ({ cls := "BitNotationModel", name := "addSequence", desc := "()I" } : Jvm.MethodName) ({ cls := "BitNotationModel", name := "addSequence", desc := "()I" } : Jvm.MethodName)) ∈ wsA := wsA_4 (List.mem_of_getElem? (i := 80) rfl) rfl
theorem wt_4_81 : (Jvm.Cond.code ({ cls := "BitNotationModel", name := "addSequence", desc := "()I" } : Jvm.MethodName) prog_9_method_20_code (1 : Nat) (Option.some Jvm.ClassFile.FieldType.int)) ∈ wsA := wsA_4 (List.mem_of_getElem? (i := 81) rfl) rfl
theorem wt_4_82 : (Jvm.Cond.methodLink "BitNotationModel" (126 : Nat) ({ cls := "BitNotationModel", name := "addDraft", desc := "(I)I" } : Jvm.MethodName)) ∈ wsA := wsA_4 (List.mem_of_getElem? (i := 82) rfl) rfl
theorem wt_4_84 : (Jvm.Cond.instanceMethod ({ cls := "BitNotationModel", name := "addDraft", desc := "(I)I" } : Jvm.MethodName)) ∈ wsA := wsA_4 (List.mem_of_getElem? (i := 84) rfl) rfl
theorem wt_4_85 : (Jvm.Cond.code ({ cls := "BitNotationModel", name := "addDraft", desc := "(I)I" } : Jvm.MethodName) prog_9_method_19_code (4 : Nat) (Option.some Jvm.ClassFile.FieldType.int)) ∈ wsA := wsA_4 (List.mem_of_getElem? (i := 85) rfl) rfl
theorem wt_4_86 : (Jvm.Cond.methodLink "BitNotationLaw" (98 : Nat) ({ cls := "BitNotationModel", name := "addChoice", desc := "()I" } : Jvm.MethodName)) ∈ wsA := wsA_4 (List.mem_of_getElem? (i := 86) rfl) rfl
theorem wt_4_87 : (Jvm.Cond.instanceMethod ({ cls := "BitNotationModel", name := "addChoice", desc := "()I" } : Jvm.MethodName)) ∈ wsA := wsA_4 (List.mem_of_getElem? (i := 87) rfl) rfl
theorem wt_4_88 : (Jvm.Cond.selects "BitNotationModel" ({ cls := "BitNotationModel", name := "addChoice", desc := "()I" } : Jvm.MethodName) ({ cls := "BitNotationModel", name := "addChoice", desc := "()I" } : Jvm.MethodName)) ∈ wsA := wsA_4 (List.mem_of_getElem? (i := 88) rfl) rfl
theorem wt_4_89 : (Jvm.Cond.code ({ cls := "BitNotationModel", name := "addChoice", desc := "()I" } : Jvm.MethodName) prog_9_method_21_code (1 : Nat) (Option.some Jvm.ClassFile.FieldType.int)) ∈ wsA := wsA_4 (List.mem_of_getElem? (i := 89) rfl) rfl
theorem wt_4_90 : (Jvm.Cond.methodLink "BitNotationLaw" (101 : Nat) ({ cls := "BitNotationModel", name := "extend", desc := "(II)I" } : Jvm.MethodName)) ∈ wsA := wsA_4 (List.mem_of_getElem? (i := 90) rfl) rfl
theorem wt_4_91 : (Jvm.Cond.instanceMethod ({ cls := "BitNotationModel", name := "extend", desc := "(II)I" } : Jvm.MethodName)) ∈ wsA := wsA_4 (List.mem_of_getElem? (i := 91) rfl) rfl
theorem wt_4_92 : (Jvm.Cond.selects "BitNotationModel" ({ cls := "BitNotationModel", name := "extend", desc := "(II)I" } : Jvm.MethodName) ({ cls := "BitNotationModel", name := "extend", desc := "(II)I" } : Jvm.MethodName)) ∈ wsA := wsA_4 (List.mem_of_getElem? (i := 92) rfl) rfl
theorem wt_4_93 : (Jvm.Cond.code ({ cls := "BitNotationModel", name := "extend", desc := "(II)I" } : Jvm.MethodName) prog_9_method_23_code (6 : Nat) (Option.some Jvm.ClassFile.FieldType.int)) ∈ wsA := wsA_4 (List.mem_of_getElem? (i := 93) rfl) rfl
theorem wt_4_94 : (Jvm.Cond.methodLink "BitNotationModel" (129 : Nat) ({ cls := "BitNotationModel", name := "measureAll", desc := "()Z" } : Jvm.MethodName)) ∈ wsA := wsA_4 (List.mem_of_getElem? (i := 94) rfl) rfl
theorem wt_4_96 : (Jvm.Cond.instanceMethod ({ cls := "BitNotationModel", name := "measureAll", desc := "()Z" } : Jvm.MethodName)) ∈ wsA := wsA_4 (List.mem_of_getElem? (i := 96) rfl) rfl
theorem wt_4_97 : (Jvm.Cond.code ({ cls := "BitNotationModel", name := "measureAll", desc := "()Z" } : Jvm.MethodName) prog_9_method_22_code (3 : Nat) (Option.some Jvm.ClassFile.FieldType.boolean)) ∈ wsA := wsA_4 (List.mem_of_getElem? (i := 97) rfl) rfl
theorem wt_4_98 : (Jvm.Cond.methodLink "BitNotationLaw" (105 : Nat) ({ cls := "BitNotationModel", name := "types", desc := "()I" } : Jvm.MethodName)) ∈ wsA := wsA_4 (List.mem_of_getElem? (i := 98) rfl) rfl
theorem wt_4_99 : (Jvm.Cond.instanceMethod ({ cls := "BitNotationModel", name := "types", desc := "()I" } : Jvm.MethodName)) ∈ wsA := wsA_4 (List.mem_of_getElem? (i := 99) rfl) rfl
theorem wt_4_100 : (Jvm.Cond.selects "BitNotationModel" ({ cls := "BitNotationModel", name := "types", desc := "()I" } : Jvm.MethodName) ({ cls := "BitNotationModel", name := "types", desc := "()I" } : Jvm.MethodName)) ∈ wsA := wsA_4 (List.mem_of_getElem? (i := 100) rfl) rfl
theorem wt_4_101 : (Jvm.Cond.code ({ cls := "BitNotationModel", name := "types", desc := "()I" } : Jvm.MethodName) prog_9_method_24_code (1 : Nat) (Option.some Jvm.ClassFile.FieldType.int)) ∈ wsA := wsA_4 (List.mem_of_getElem? (i := 101) rfl) rfl
theorem wt_4_102 : (Jvm.Cond.methodLink "BitNotationModel" (133 : Nat) ({ cls := "BitNotationModel", name := "fine", desc := "(I)I" } : Jvm.MethodName)) ∈ wsA := wsA_4 (List.mem_of_getElem? (i := 102) rfl) rfl
theorem wt_4_104 : (Jvm.Cond.instanceMethod ({ cls := "BitNotationModel", name := "fine", desc := "(I)I" } : Jvm.MethodName)) ∈ wsA := wsA_4 (List.mem_of_getElem? (i := 104) rfl) rfl
theorem wt_4_105 : (Jvm.Cond.code ({ cls := "BitNotationModel", name := "fine", desc := "(I)I" } : Jvm.MethodName) prog_9_method_4_code (2 : Nat) (Option.some Jvm.ClassFile.FieldType.int)) ∈ wsA := wsA_4 (List.mem_of_getElem? (i := 105) rfl) rfl
theorem wt_4_106 : (Jvm.Cond.methodLink "BitNotationLaw" (109 : Nat) ({ cls := "BitNotationModel", name := "leastBits", desc := "(I)I" } : Jvm.MethodName)) ∈ wsA := wsA_4 (List.mem_of_getElem? (i := 106) rfl) rfl
theorem wt_4_107 : (Jvm.Cond.instanceMethod ({ cls := "BitNotationModel", name := "leastBits", desc := "(I)I" } : Jvm.MethodName)) ∈ wsA := wsA_4 (List.mem_of_getElem? (i := 107) rfl) rfl
theorem wt_4_108 : (Jvm.Cond.selects "BitNotationModel" ({ cls := "BitNotationModel", name := "leastBits", desc := "(I)I" } : Jvm.MethodName) ({ cls := "BitNotationModel", name := "leastBits", desc := "(I)I" } : Jvm.MethodName)) ∈ wsA := wsA_4 (List.mem_of_getElem? (i := 108) rfl) rfl
theorem wt_4_109 : (Jvm.Cond.code ({ cls := "BitNotationModel", name := "leastBits", desc := "(I)I" } : Jvm.MethodName) prog_9_method_26_code (2 : Nat) (Option.some Jvm.ClassFile.FieldType.int)) ∈ wsA := wsA_4 (List.mem_of_getElem? (i := 109) rfl) rfl
theorem wt_4_110 : (Jvm.Cond.methodLink "BitNotationModel" (136 : Nat) ({ cls := "BitNotationModel", name := "noType", desc := "(I)Z" } : Jvm.MethodName)) ∈ wsA := wsA_4 (List.mem_of_getElem? (i := 110) rfl) rfl
theorem wt_4_112 : (Jvm.Cond.instanceMethod ({ cls := "BitNotationModel", name := "noType", desc := "(I)Z" } : Jvm.MethodName)) ∈ wsA := wsA_4 (List.mem_of_getElem? (i := 112) rfl) rfl
theorem wt_4_113 : (Jvm.Cond.code ({ cls := "BitNotationModel", name := "noType", desc := "(I)Z" } : Jvm.MethodName) prog_9_method_25_code (2 : Nat) (Option.some Jvm.ClassFile.FieldType.boolean)) ∈ wsA := wsA_4 (List.mem_of_getElem? (i := 113) rfl) rfl
theorem wt_4_114 : (Jvm.Cond.methodLink "BitNotationLaw" (112 : Nat) ({ cls := "BitNotationModel", name := "mostBits", desc := "(I)I" } : Jvm.MethodName)) ∈ wsA := wsA_4 (List.mem_of_getElem? (i := 114) rfl) rfl
theorem wt_4_115 : (Jvm.Cond.instanceMethod ({ cls := "BitNotationModel", name := "mostBits", desc := "(I)I" } : Jvm.MethodName)) ∈ wsA := wsA_4 (List.mem_of_getElem? (i := 115) rfl) rfl
theorem wt_4_116 : (Jvm.Cond.selects "BitNotationModel" ({ cls := "BitNotationModel", name := "mostBits", desc := "(I)I" } : Jvm.MethodName) ({ cls := "BitNotationModel", name := "mostBits", desc := "(I)I" } : Jvm.MethodName)) ∈ wsA := wsA_4 (List.mem_of_getElem? (i := 116) rfl) rfl
theorem wt_4_117 : (Jvm.Cond.code ({ cls := "BitNotationModel", name := "mostBits", desc := "(I)I" } : Jvm.MethodName) prog_9_method_27_code (2 : Nat) (Option.some Jvm.ClassFile.FieldType.int)) ∈ wsA := wsA_4 (List.mem_of_getElem? (i := 117) rfl) rfl
theorem wt_4_118 : (Jvm.Cond.methodLink "BitNotationLaw" (115 : Nat) ({ cls := "BitNotationModel", name := "tell", desc := "(I)I" } : Jvm.MethodName)) ∈ wsA := wsA_4 (List.mem_of_getElem? (i := 118) rfl) rfl
theorem wt_4_119 : (Jvm.Cond.instanceMethod ({ cls := "BitNotationModel", name := "tell", desc := "(I)I" } : Jvm.MethodName)) ∈ wsA := wsA_4 (List.mem_of_getElem? (i := 119) rfl) rfl
theorem wt_4_120 : (Jvm.Cond.selects "BitNotationModel" ({ cls := "BitNotationModel", name := "tell", desc := "(I)I" } : Jvm.MethodName) ({ cls := "BitNotationModel", name := "tell", desc := "(I)I" } : Jvm.MethodName)) ∈ wsA := wsA_4 (List.mem_of_getElem? (i := 120) rfl) rfl
theorem wt_4_121 : (Jvm.Cond.code ({ cls := "BitNotationModel", name := "tell", desc := "(I)I" } : Jvm.MethodName) prog_9_method_28_code (2 : Nat) (Option.some Jvm.ClassFile.FieldType.int)) ∈ wsA := wsA_4 (List.mem_of_getElem? (i := 121) rfl) rfl
theorem wt_4_122 : (Jvm.Cond.methodLink "BitNotationLaw" (119 : Nat) ({ cls := "BitNotationModel", name := "forget", desc := "()I" } : Jvm.MethodName)) ∈ wsA := wsA_4 (List.mem_of_getElem? (i := 122) rfl) rfl
theorem wt_4_123 : (Jvm.Cond.instanceMethod ({ cls := "BitNotationModel", name := "forget", desc := "()I" } : Jvm.MethodName)) ∈ wsA := wsA_4 (List.mem_of_getElem? (i := 123) rfl) rfl
theorem wt_4_124 : (Jvm.Cond.selects "BitNotationModel" ({ cls := "BitNotationModel", name := "forget", desc := "()I" } : Jvm.MethodName) ({ cls := "BitNotationModel", name := "forget", desc := "()I" } : Jvm.MethodName)) ∈ wsA := wsA_4 (List.mem_of_getElem? (i := 124) rfl) rfl
theorem wt_4_125 : (Jvm.Cond.code ({ cls := "BitNotationModel", name := "forget", desc := "()I" } : Jvm.MethodName) prog_9_method_29_code (2 : Nat) (Option.some Jvm.ClassFile.FieldType.int)) ∈ wsA := wsA_4 (List.mem_of_getElem? (i := 125) rfl) rfl
theorem wt_4_126 : (Jvm.Cond.methodLink "BitNotationLaw" (123 : Nat) ({ cls := "BitNotationModel", name := "length", desc := "()I" } : Jvm.MethodName)) ∈ wsA := wsA_4 (List.mem_of_getElem? (i := 126) rfl) rfl
theorem wt_4_127 : (Jvm.Cond.instanceMethod ({ cls := "BitNotationModel", name := "length", desc := "()I" } : Jvm.MethodName)) ∈ wsA := wsA_4 (List.mem_of_getElem? (i := 127) rfl) rfl
theorem wt_4_128 : (Jvm.Cond.selects "BitNotationModel" ({ cls := "BitNotationModel", name := "length", desc := "()I" } : Jvm.MethodName) ({ cls := "BitNotationModel", name := "length", desc := "()I" } : Jvm.MethodName)) ∈ wsA := wsA_4 (List.mem_of_getElem? (i := 128) rfl) rfl
theorem wt_4_129 : (Jvm.Cond.code ({ cls := "BitNotationModel", name := "length", desc := "()I" } : Jvm.MethodName) prog_9_method_30_code (1 : Nat) (Option.some Jvm.ClassFile.FieldType.int)) ∈ wsA := wsA_4 (List.mem_of_getElem? (i := 129) rfl) rfl
theorem wt_4_130 : (Jvm.Cond.methodLink "BitNotationLaw" (126 : Nat) ({ cls := "BitNotationModel", name := "told", desc := "(I)I" } : Jvm.MethodName)) ∈ wsA := wsA_4 (List.mem_of_getElem? (i := 130) rfl) rfl
theorem wt_4_131 : (Jvm.Cond.instanceMethod ({ cls := "BitNotationModel", name := "told", desc := "(I)I" } : Jvm.MethodName)) ∈ wsA := wsA_4 (List.mem_of_getElem? (i := 131) rfl) rfl
theorem wt_4_132 : (Jvm.Cond.selects "BitNotationModel" ({ cls := "BitNotationModel", name := "told", desc := "(I)I" } : Jvm.MethodName) ({ cls := "BitNotationModel", name := "told", desc := "(I)I" } : Jvm.MethodName)) ∈ wsA := wsA_4 (List.mem_of_getElem? (i := 132) rfl) rfl
theorem wt_4_133 : (Jvm.Cond.code ({ cls := "BitNotationModel", name := "told", desc := "(I)I" } : Jvm.MethodName) prog_9_method_31_code (2 : Nat) (Option.some Jvm.ClassFile.FieldType.int)) ∈ wsA := wsA_4 (List.mem_of_getElem? (i := 133) rfl) rfl
theorem wt_4_134 : (Jvm.Cond.methodLink "BitNotationLaw" (129 : Nat) ({ cls := "BitNotationModel", name := "wrongAt", desc := "(I)I" } : Jvm.MethodName)) ∈ wsA := wsA_4 (List.mem_of_getElem? (i := 134) rfl) rfl
theorem wt_4_135 : (Jvm.Cond.instanceMethod ({ cls := "BitNotationModel", name := "wrongAt", desc := "(I)I" } : Jvm.MethodName)) ∈ wsA := wsA_4 (List.mem_of_getElem? (i := 135) rfl) rfl
theorem wt_4_136 : (Jvm.Cond.selects "BitNotationModel" ({ cls := "BitNotationModel", name := "wrongAt", desc := "(I)I" } : Jvm.MethodName) ({ cls := "BitNotationModel", name := "wrongAt", desc := "(I)I" } : Jvm.MethodName)) ∈ wsA := wsA_4 (List.mem_of_getElem? (i := 136) rfl) rfl
theorem wt_4_137 : (Jvm.Cond.code ({ cls := "BitNotationModel", name := "wrongAt", desc := "(I)I" } : Jvm.MethodName) prog_9_method_39_code (2 : Nat) (Option.some Jvm.ClassFile.FieldType.int)) ∈ wsA := wsA_4 (List.mem_of_getElem? (i := 137) rfl) rfl
theorem wt_4_138 : (Jvm.Cond.methodLink "BitNotationModel" (176 : Nat) ({ cls := "BitNotationModel", name := "walk", desc := "(IZ)I" } : Jvm.MethodName)) ∈ wsA := wsA_4 (List.mem_of_getElem? (i := 138) rfl) rfl
theorem wt_4_140 : (Jvm.Cond.instanceMethod ({ cls := "BitNotationModel", name := "walk", desc := "(IZ)I" } : Jvm.MethodName)) ∈ wsA := wsA_4 (List.mem_of_getElem? (i := 140) rfl) rfl
theorem wt_4_141 : (Jvm.Cond.code ({ cls := "BitNotationModel", name := "walk", desc := "(IZ)I" } : Jvm.MethodName) prog_9_method_38_code (4 : Nat) (Option.some Jvm.ClassFile.FieldType.int)) ∈ wsA := wsA_4 (List.mem_of_getElem? (i := 141) rfl) rfl
theorem wt_4_142 : (Jvm.Cond.methodLink "BitNotationModel" (169 : Nat) ({ cls := "BitNotationModel", name := "push", desc := "(I)V" } : Jvm.MethodName)) ∈ wsA := wsA_4 (List.mem_of_getElem? (i := 142) rfl) rfl
theorem wt_4_144 : (Jvm.Cond.instanceMethod ({ cls := "BitNotationModel", name := "push", desc := "(I)V" } : Jvm.MethodName)) ∈ wsA := wsA_4 (List.mem_of_getElem? (i := 144) rfl) rfl
theorem wt_4_145 : (Jvm.Cond.code ({ cls := "BitNotationModel", name := "push", desc := "(I)V" } : Jvm.MethodName) prog_9_method_32_code (2 : Nat) (Option.none : Option Jvm.ClassFile.FieldType)) ∈ wsA := wsA_4 (List.mem_of_getElem? (i := 145) rfl) rfl
theorem wt_4_146 : (Jvm.Cond.methodLink "BitNotationModel" (172 : Nat) ({ cls := "BitNotationModel", name := "goOverTale", desc := "(Z)Z" } : Jvm.MethodName)) ∈ wsA := wsA_4 (List.mem_of_getElem? (i := 146) rfl) rfl
theorem wt_4_148 : (Jvm.Cond.instanceMethod ({ cls := "BitNotationModel", name := "goOverTale", desc := "(Z)Z" } : Jvm.MethodName)) ∈ wsA := wsA_4 (List.mem_of_getElem? (i := 148) rfl) rfl
theorem wt_4_149 : (Jvm.Cond.code ({ cls := "BitNotationModel", name := "goOverTale", desc := "(Z)Z" } : Jvm.MethodName) prog_9_method_35_code (7 : Nat) (Option.some Jvm.ClassFile.FieldType.boolean)) ∈ wsA := wsA_4 (List.mem_of_getElem? (i := 149) rfl) rfl
theorem wt_4_150 : (Jvm.Cond.methodLink "BitNotationModel" (154 : Nat) ({ cls := "BitNotationModel", name := "headOfTale", desc := "(IIZ)Z" } : Jvm.MethodName)) ∈ wsA := wsA_4 (List.mem_of_getElem? (i := 150) rfl) rfl
theorem wt_4_152 : (Jvm.Cond.instanceMethod ({ cls := "BitNotationModel", name := "headOfTale", desc := "(IIZ)Z" } : Jvm.MethodName)) ∈ wsA := wsA_4 (List.mem_of_getElem? (i := 152) rfl) rfl
theorem wt_4_153 : (Jvm.Cond.code ({ cls := "BitNotationModel", name := "headOfTale", desc := "(IIZ)Z" } : Jvm.MethodName) prog_9_method_36_code (6 : Nat) (Option.some Jvm.ClassFile.FieldType.boolean)) ∈ wsA := wsA_4 (List.mem_of_getElem? (i := 153) rfl) rfl
theorem wt_4_154 : (Jvm.Cond.methodLink "BitNotationModel" (162 : Nat) ({ cls := "BitNotationModel", name := "isWrong", desc := "(II)Z" } : Jvm.MethodName)) ∈ wsA := wsA_4 (List.mem_of_getElem? (i := 154) rfl) rfl
theorem wt_4_156 : (Jvm.Cond.instanceMethod ({ cls := "BitNotationModel", name := "isWrong", desc := "(II)Z" } : Jvm.MethodName)) ∈ wsA := wsA_4 (List.mem_of_getElem? (i := 156) rfl) rfl
theorem wt_4_157 : (Jvm.Cond.code ({ cls := "BitNotationModel", name := "isWrong", desc := "(II)Z" } : Jvm.MethodName) prog_9_method_34_code (4 : Nat) (Option.some Jvm.ClassFile.FieldType.boolean)) ∈ wsA := wsA_4 (List.mem_of_getElem? (i := 157) rfl) rfl
theorem wt_4_158 : (Jvm.Cond.methodLink "BitNotationModel" (165 : Nat) ({ cls := "BitNotationModel", name := "emit", desc := "(IIZ)V" } : Jvm.MethodName)) ∈ wsA := wsA_4 (List.mem_of_getElem? (i := 158) rfl) rfl
theorem wt_4_160 : (Jvm.Cond.instanceMethod ({ cls := "BitNotationModel", name := "emit", desc := "(IIZ)V" } : Jvm.MethodName)) ∈ wsA := wsA_4 (List.mem_of_getElem? (i := 160) rfl) rfl
theorem wt_4_161 : (Jvm.Cond.code ({ cls := "BitNotationModel", name := "emit", desc := "(IIZ)V" } : Jvm.MethodName) prog_9_method_33_code (5 : Nat) (Option.none : Option Jvm.ClassFile.FieldType)) ∈ wsA := wsA_4 (List.mem_of_getElem? (i := 161) rfl) rfl
theorem wt_4_162 : (Jvm.Cond.methodLink "BitNotationModel" (158 : Nat) ({ cls := "BitNotationModel", name := "sequenceOfTale", desc := "(IIIZ)Z" } : Jvm.MethodName)) ∈ wsA := wsA_4 (List.mem_of_getElem? (i := 162) rfl) rfl
theorem wt_4_164 : (Jvm.Cond.instanceMethod ({ cls := "BitNotationModel", name := "sequenceOfTale", desc := "(IIIZ)Z" } : Jvm.MethodName)) ∈ wsA := wsA_4 (List.mem_of_getElem? (i := 164) rfl) rfl
theorem wt_4_165 : (Jvm.Cond.code ({ cls := "BitNotationModel", name := "sequenceOfTale", desc := "(IIIZ)Z" } : Jvm.MethodName) prog_9_method_37_code (6 : Nat) (Option.some Jvm.ClassFile.FieldType.boolean)) ∈ wsA := wsA_4 (List.mem_of_getElem? (i := 165) rfl) rfl
theorem wt_4_166 : (Jvm.Cond.methodLink "BitNotationLaw" (132 : Nat) ({ cls := "BitNotationModel", name := "write", desc := "(I)I" } : Jvm.MethodName)) ∈ wsA := wsA_4 (List.mem_of_getElem? (i := 166) rfl) rfl
theorem wt_4_167 : (Jvm.Cond.instanceMethod ({ cls := "BitNotationModel", name := "write", desc := "(I)I" } : Jvm.MethodName)) ∈ wsA := wsA_4 (List.mem_of_getElem? (i := 167) rfl) rfl
theorem wt_4_168 : (Jvm.Cond.selects "BitNotationModel" ({ cls := "BitNotationModel", name := "write", desc := "(I)I" } : Jvm.MethodName) ({ cls := "BitNotationModel", name := "write", desc := "(I)I" } : Jvm.MethodName)) ∈ wsA := wsA_4 (List.mem_of_getElem? (i := 168) rfl) rfl
theorem wt_4_169 : (Jvm.Cond.code ({ cls := "BitNotationModel", name := "write", desc := "(I)I" } : Jvm.MethodName) prog_9_method_40_code (2 : Nat) (Option.some Jvm.ClassFile.FieldType.int)) ∈ wsA := wsA_4 (List.mem_of_getElem? (i := 169) rfl) rfl
theorem wt_4_170 : (Jvm.Cond.methodLink "BitNotationLaw" (136 : Nat) ({ cls := "BitNotationModel", name := "bits", desc := "()I" } : Jvm.MethodName)) ∈ wsA := wsA_4 (List.mem_of_getElem? (i := 170) rfl) rfl
theorem wt_4_171 : (Jvm.Cond.instanceMethod ({ cls := "BitNotationModel", name := "bits", desc := "()I" } : Jvm.MethodName)) ∈ wsA := wsA_4 (List.mem_of_getElem? (i := 171) rfl) rfl
theorem wt_4_172 : (Jvm.Cond.selects "BitNotationModel" ({ cls := "BitNotationModel", name := "bits", desc := "()I" } : Jvm.MethodName) ({ cls := "BitNotationModel", name := "bits", desc := "()I" } : Jvm.MethodName)) ∈ wsA := wsA_4 (List.mem_of_getElem? (i := 172) rfl) rfl
theorem wt_4_173 : (Jvm.Cond.code ({ cls := "BitNotationModel", name := "bits", desc := "()I" } : Jvm.MethodName) prog_9_method_41_code (1 : Nat) (Option.some Jvm.ClassFile.FieldType.int)) ∈ wsA := wsA_4 (List.mem_of_getElem? (i := 173) rfl) rfl
theorem wt_4_174 : (Jvm.Cond.methodLink "BitNotationLaw" (139 : Nat) ({ cls := "BitNotationModel", name := "bit", desc := "(I)I" } : Jvm.MethodName)) ∈ wsA := wsA_4 (List.mem_of_getElem? (i := 174) rfl) rfl
theorem wt_4_175 : (Jvm.Cond.instanceMethod ({ cls := "BitNotationModel", name := "bit", desc := "(I)I" } : Jvm.MethodName)) ∈ wsA := wsA_4 (List.mem_of_getElem? (i := 175) rfl) rfl
theorem wt_4_176 : (Jvm.Cond.selects "BitNotationModel" ({ cls := "BitNotationModel", name := "bit", desc := "(I)I" } : Jvm.MethodName) ({ cls := "BitNotationModel", name := "bit", desc := "(I)I" } : Jvm.MethodName)) ∈ wsA := wsA_4 (List.mem_of_getElem? (i := 176) rfl) rfl
theorem wt_4_177 : (Jvm.Cond.code ({ cls := "BitNotationModel", name := "bit", desc := "(I)I" } : Jvm.MethodName) prog_9_method_43_code (2 : Nat) (Option.some Jvm.ClassFile.FieldType.int)) ∈ wsA := wsA_4 (List.mem_of_getElem? (i := 177) rfl) rfl
theorem wt_4_178 : (Jvm.Cond.methodLink "BitNotationModel" (180 : Nat) ({ cls := "BitNotationModel", name := "noBit", desc := "(I)Z" } : Jvm.MethodName)) ∈ wsA := wsA_4 (List.mem_of_getElem? (i := 178) rfl) rfl
theorem wt_4_180 : (Jvm.Cond.instanceMethod ({ cls := "BitNotationModel", name := "noBit", desc := "(I)Z" } : Jvm.MethodName)) ∈ wsA := wsA_4 (List.mem_of_getElem? (i := 180) rfl) rfl
theorem wt_4_181 : (Jvm.Cond.code ({ cls := "BitNotationModel", name := "noBit", desc := "(I)Z" } : Jvm.MethodName) prog_9_method_42_code (2 : Nat) (Option.some Jvm.ClassFile.FieldType.boolean)) ∈ wsA := wsA_4 (List.mem_of_getElem? (i := 181) rfl) rfl
theorem wt_4_182 : (Jvm.Cond.methodLink "BitNotationLaw" (142 : Nat) ({ cls := "BitNotationModel", name := "flip", desc := "(I)I" } : Jvm.MethodName)) ∈ wsA := wsA_4 (List.mem_of_getElem? (i := 182) rfl) rfl
theorem wt_4_183 : (Jvm.Cond.instanceMethod ({ cls := "BitNotationModel", name := "flip", desc := "(I)I" } : Jvm.MethodName)) ∈ wsA := wsA_4 (List.mem_of_getElem? (i := 183) rfl) rfl
theorem wt_4_184 : (Jvm.Cond.selects "BitNotationModel" ({ cls := "BitNotationModel", name := "flip", desc := "(I)I" } : Jvm.MethodName) ({ cls := "BitNotationModel", name := "flip", desc := "(I)I" } : Jvm.MethodName)) ∈ wsA := wsA_4 (List.mem_of_getElem? (i := 184) rfl) rfl
theorem wt_4_185 : (Jvm.Cond.code ({ cls := "BitNotationModel", name := "flip", desc := "(I)I" } : Jvm.MethodName) prog_9_method_44_code (2 : Nat) (Option.some Jvm.ClassFile.FieldType.int)) ∈ wsA := wsA_4 (List.mem_of_getElem? (i := 185) rfl) rfl
theorem wt_4_186 : (Jvm.Cond.methodLink "BitNotationLaw" (145 : Nat) ({ cls := "BitNotationModel", name := "cut", desc := "(I)I" } : Jvm.MethodName)) ∈ wsA := wsA_4 (List.mem_of_getElem? (i := 186) rfl) rfl
theorem wt_4_187 : (Jvm.Cond.instanceMethod ({ cls := "BitNotationModel", name := "cut", desc := "(I)I" } : Jvm.MethodName)) ∈ wsA := wsA_4 (List.mem_of_getElem? (i := 187) rfl) rfl
theorem wt_4_188 : (Jvm.Cond.selects "BitNotationModel" ({ cls := "BitNotationModel", name := "cut", desc := "(I)I" } : Jvm.MethodName) ({ cls := "BitNotationModel", name := "cut", desc := "(I)I" } : Jvm.MethodName)) ∈ wsA := wsA_4 (List.mem_of_getElem? (i := 188) rfl) rfl
theorem wt_4_189 : (Jvm.Cond.code ({ cls := "BitNotationModel", name := "cut", desc := "(I)I" } : Jvm.MethodName) prog_9_method_45_code (3 : Nat) (Option.some Jvm.ClassFile.FieldType.int)) ∈ wsA := wsA_4 (List.mem_of_getElem? (i := 189) rfl) rfl
theorem wt_4_190 : (Jvm.Cond.methodLink "BitNotationLaw" (148 : Nat) ({ cls := "BitNotationModel", name := "read", desc := "(II)I" } : Jvm.MethodName)) ∈ wsA := wsA_4 (List.mem_of_getElem? (i := 190) rfl) rfl
theorem wt_4_191 : (Jvm.Cond.instanceMethod ({ cls := "BitNotationModel", name := "read", desc := "(II)I" } : Jvm.MethodName)) ∈ wsA := wsA_4 (List.mem_of_getElem? (i := 191) rfl) rfl
theorem wt_4_192 : (Jvm.Cond.selects "BitNotationModel" ({ cls := "BitNotationModel", name := "read", desc := "(II)I" } : Jvm.MethodName) ({ cls := "BitNotationModel", name := "read", desc := "(II)I" } : Jvm.MethodName)) ∈ wsA := wsA_4 (List.mem_of_getElem? (i := 192) rfl) rfl
theorem wt_4_193 : (Jvm.Cond.code ({ cls := "BitNotationModel", name := "read", desc := "(II)I" } : Jvm.MethodName) prog_9_method_54_code (5 : Nat) (Option.some Jvm.ClassFile.FieldType.int)) ∈ wsA := wsA_4 (List.mem_of_getElem? (i := 193) rfl) rfl
theorem wt_4_194 : (Jvm.Cond.methodLink "BitNotationModel" (208 : Nat) ({ cls := "BitNotationModel", name := "walkBits", desc := "(II)I" } : Jvm.MethodName)) ∈ wsA := wsA_4 (List.mem_of_getElem? (i := 194) rfl) rfl
theorem wt_4_196 : (Jvm.Cond.instanceMethod ({ cls := "BitNotationModel", name := "walkBits", desc := "(II)I" } : Jvm.MethodName)) ∈ wsA := wsA_4 (List.mem_of_getElem? (i := 196) rfl) rfl
theorem wt_4_197 : (Jvm.Cond.code ({ cls := "BitNotationModel", name := "walkBits", desc := "(II)I" } : Jvm.MethodName) prog_9_method_53_code (3 : Nat) (Option.some Jvm.ClassFile.FieldType.int)) ∈ wsA := wsA_4 (List.mem_of_getElem? (i := 197) rfl) rfl
theorem wt_4_198 : (Jvm.Cond.methodLink "BitNotationModel" (205 : Nat) ({ cls := "BitNotationModel", name := "goOverBits", desc := "(I)V" } : Jvm.MethodName)) ∈ wsA := wsA_4 (List.mem_of_getElem? (i := 198) rfl) rfl
theorem wt_4_200 : (Jvm.Cond.instanceMethod ({ cls := "BitNotationModel", name := "goOverBits", desc := "(I)V" } : Jvm.MethodName)) ∈ wsA := wsA_4 (List.mem_of_getElem? (i := 200) rfl) rfl
theorem wt_4_201 : (Jvm.Cond.code ({ cls := "BitNotationModel", name := "goOverBits", desc := "(I)V" } : Jvm.MethodName) prog_9_method_49_code (7 : Nat) (Option.none : Option Jvm.ClassFile.FieldType)) ∈ wsA := wsA_4 (List.mem_of_getElem? (i := 201) rfl) rfl
theorem wt_4_202 : (Jvm.Cond.methodLink "BitNotationModel" (189 : Nat) ({ cls := "BitNotationModel", name := "headOfBits", desc := "(II)V" } : Jvm.MethodName)) ∈ wsA := wsA_4 (List.mem_of_getElem? (i := 202) rfl) rfl
theorem wt_4_204 : (Jvm.Cond.instanceMethod ({ cls := "BitNotationModel", name := "headOfBits", desc := "(II)V" } : Jvm.MethodName)) ∈ wsA := wsA_4 (List.mem_of_getElem? (i := 204) rfl) rfl
theorem wt_4_205 : (Jvm.Cond.code ({ cls := "BitNotationModel", name := "headOfBits", desc := "(II)V" } : Jvm.MethodName) prog_9_method_50_code (6 : Nat) (Option.none : Option Jvm.ClassFile.FieldType)) ∈ wsA := wsA_4 (List.mem_of_getElem? (i := 205) rfl) rfl
theorem wt_4_206 : (Jvm.Cond.methodLink "BitNotationModel" (183 : Nat) ({ cls := "BitNotationModel", name := "take", desc := "(I)I" } : Jvm.MethodName)) ∈ wsA := wsA_4 (List.mem_of_getElem? (i := 206) rfl) rfl
theorem wt_4_208 : (Jvm.Cond.instanceMethod ({ cls := "BitNotationModel", name := "take", desc := "(I)I" } : Jvm.MethodName)) ∈ wsA := wsA_4 (List.mem_of_getElem? (i := 208) rfl) rfl
theorem wt_4_209 : (Jvm.Cond.code ({ cls := "BitNotationModel", name := "take", desc := "(I)I" } : Jvm.MethodName) prog_9_method_46_code (4 : Nat) (Option.some Jvm.ClassFile.FieldType.int)) ∈ wsA := wsA_4 (List.mem_of_getElem? (i := 209) rfl) rfl
theorem wt_4_210 : (Jvm.Cond.methodLink "BitNotationModel" (199 : Nat) ({ cls := "BitNotationModel", name := "note", desc := "(I)V" } : Jvm.MethodName)) ∈ wsA := wsA_4 (List.mem_of_getElem? (i := 210) rfl) rfl
theorem wt_4_212 : (Jvm.Cond.instanceMethod ({ cls := "BitNotationModel", name := "note", desc := "(I)V" } : Jvm.MethodName)) ∈ wsA := wsA_4 (List.mem_of_getElem? (i := 212) rfl) rfl
theorem wt_4_213 : (Jvm.Cond.code ({ cls := "BitNotationModel", name := "note", desc := "(I)V" } : Jvm.MethodName) prog_9_method_48_code (2 : Nat) (Option.none : Option Jvm.ClassFile.FieldType)) ∈ wsA := wsA_4 (List.mem_of_getElem? (i := 213) rfl) rfl
theorem wt_4_214 : (Jvm.Cond.methodLink "BitNotationModel" (193 : Nat) ({ cls := "BitNotationModel", name := "sequenceOfBits", desc := "(IIII)V" } : Jvm.MethodName)) ∈ wsA := wsA_4 (List.mem_of_getElem? (i := 214) rfl) rfl
theorem wt_4_216 : (Jvm.Cond.instanceMethod ({ cls := "BitNotationModel", name := "sequenceOfBits", desc := "(IIII)V" } : Jvm.MethodName)) ∈ wsA := wsA_4 (List.mem_of_getElem? (i := 216) rfl) rfl
theorem wt_4_217 : (Jvm.Cond.code ({ cls := "BitNotationModel", name := "sequenceOfBits", desc := "(IIII)V" } : Jvm.MethodName) prog_9_method_51_code (7 : Nat) (Option.none : Option Jvm.ClassFile.FieldType)) ∈ wsA := wsA_4 (List.mem_of_getElem? (i := 217) rfl) rfl
theorem wt_4_218 : (Jvm.Cond.methodLink "BitNotationModel" (196 : Nat) ({ cls := "BitNotationModel", name := "takeBelow", desc := "(II)I" } : Jvm.MethodName)) ∈ wsA := wsA_4 (List.mem_of_getElem? (i := 218) rfl) rfl
theorem wt_4_220 : (Jvm.Cond.instanceMethod ({ cls := "BitNotationModel", name := "takeBelow", desc := "(II)I" } : Jvm.MethodName)) ∈ wsA := wsA_4 (List.mem_of_getElem? (i := 220) rfl) rfl
theorem wt_4_221 : (Jvm.Cond.code ({ cls := "BitNotationModel", name := "takeBelow", desc := "(II)I" } : Jvm.MethodName) prog_9_method_47_code (5 : Nat) (Option.some Jvm.ClassFile.FieldType.int)) ∈ wsA := wsA_4 (List.mem_of_getElem? (i := 221) rfl) rfl
theorem wt_4_222 : (Jvm.Cond.methodLink "BitNotationModel" (202 : Nat) ({ cls := "BitNotationModel", name := "skip", desc := "(I)V" } : Jvm.MethodName)) ∈ wsA := wsA_4 (List.mem_of_getElem? (i := 222) rfl) rfl
theorem wt_4_224 : (Jvm.Cond.instanceMethod ({ cls := "BitNotationModel", name := "skip", desc := "(I)V" } : Jvm.MethodName)) ∈ wsA := wsA_4 (List.mem_of_getElem? (i := 224) rfl) rfl
theorem wt_4_225 : (Jvm.Cond.code ({ cls := "BitNotationModel", name := "skip", desc := "(I)V" } : Jvm.MethodName) prog_9_method_52_code (2 : Nat) (Option.none : Option Jvm.ClassFile.FieldType)) ∈ wsA := wsA_4 (List.mem_of_getElem? (i := 225) rfl) rfl
theorem wt_4_226 : (Jvm.Cond.methodLink "BitNotationLaw" (151 : Nat) ({ cls := "BitNotationModel", name := "faultAt", desc := "(II)I" } : Jvm.MethodName)) ∈ wsA := wsA_4 (List.mem_of_getElem? (i := 226) rfl) rfl
theorem wt_4_227 : (Jvm.Cond.instanceMethod ({ cls := "BitNotationModel", name := "faultAt", desc := "(II)I" } : Jvm.MethodName)) ∈ wsA := wsA_4 (List.mem_of_getElem? (i := 227) rfl) rfl
theorem wt_4_228 : (Jvm.Cond.selects "BitNotationModel" ({ cls := "BitNotationModel", name := "faultAt", desc := "(II)I" } : Jvm.MethodName) ({ cls := "BitNotationModel", name := "faultAt", desc := "(II)I" } : Jvm.MethodName)) ∈ wsA := wsA_4 (List.mem_of_getElem? (i := 228) rfl) rfl
theorem wt_4_229 : (Jvm.Cond.code ({ cls := "BitNotationModel", name := "faultAt", desc := "(II)I" } : Jvm.MethodName) prog_9_method_55_code (3 : Nat) (Option.some Jvm.ClassFile.FieldType.int)) ∈ wsA := wsA_4 (List.mem_of_getElem? (i := 229) rfl) rfl
theorem wt_4_230 : (Jvm.Cond.arrayClass Jvm.ClassFile.FieldType.long) ∈ wsA := wsA_4 (List.mem_of_getElem? (i := 230) rfl) rfl
theorem fw_TX1 : ∀ w ∈ u_ws RX1 TX1 4, w ∈ wsA := by
  show ∀ w ∈ ([u_lay RX1 TX1 0, u_lay RX1 TX1 1, u_lay RX1 TX1 2, u_lay RX1 TX1 3] : List Cond), w ∈ wsA
  exact List.forall_mem_cons.mpr ⟨wt_1_90, List.forall_mem_cons.mpr ⟨wt_1_92, List.forall_mem_cons.mpr ⟨wt_1_94, List.forall_mem_cons.mpr ⟨wt_1_96, fun _ h => absurd h List.not_mem_nil⟩⟩⟩⟩
theorem fw_TX2 : ∀ w ∈ u_ws RX2 TX2 2, w ∈ wsA := by
  show ∀ w ∈ ([u_lay RX2 TX2 0, u_lay RX2 TX2 1] : List Cond), w ∈ wsA
  exact List.forall_mem_cons.mpr ⟨wt_1_52, List.forall_mem_cons.mpr ⟨wt_1_54, fun _ h => absurd h List.not_mem_nil⟩⟩
theorem fw_TX3 : ∀ w ∈ u_ws RX3 TX3 10, w ∈ wsA := by
  show ∀ w ∈ ([u_lay RX3 TX3 0, u_lay RX3 TX3 1, u_lay RX3 TX3 2, u_lay RX3 TX3 3, u_lay RX3 TX3 4, u_lay RX3 TX3 5, u_lay RX3 TX3 6, u_lay RX3 TX3 7, u_lay RX3 TX3 8, u_lay RX3 TX3 9] : List Cond), w ∈ wsA
  exact List.forall_mem_cons.mpr ⟨wt_2_30, List.forall_mem_cons.mpr ⟨wt_2_32, List.forall_mem_cons.mpr ⟨wt_2_34, List.forall_mem_cons.mpr ⟨wt_2_36, List.forall_mem_cons.mpr ⟨wt_2_38, List.forall_mem_cons.mpr ⟨wt_2_40, List.forall_mem_cons.mpr ⟨wt_2_42, List.forall_mem_cons.mpr ⟨wt_2_44, List.forall_mem_cons.mpr ⟨wt_2_46, List.forall_mem_cons.mpr ⟨wt_2_48, fun _ h => absurd h List.not_mem_nil⟩⟩⟩⟩⟩⟩⟩⟩⟩⟩
theorem fw_TX4 : ∀ w ∈ u_ws RX4 TX4 2, w ∈ wsA := by
  show ∀ w ∈ ([u_lay RX4 TX4 0, u_lay RX4 TX4 1] : List Cond), w ∈ wsA
  exact List.forall_mem_cons.mpr ⟨wt_1_38, List.forall_mem_cons.mpr ⟨wt_1_40, fun _ h => absurd h List.not_mem_nil⟩⟩
theorem fw_TX5 : ∀ w ∈ u_ws RX5 TX5 3, w ∈ wsA := by
  show ∀ w ∈ ([u_lay RX5 TX5 0, u_lay RX5 TX5 1, u_lay RX5 TX5 2] : List Cond), w ∈ wsA
  exact List.forall_mem_cons.mpr ⟨wt_1_70, List.forall_mem_cons.mpr ⟨wt_1_72, List.forall_mem_cons.mpr ⟨wt_1_74, fun _ h => absurd h List.not_mem_nil⟩⟩⟩
theorem fw_TX6 : ∀ w ∈ u_ws RX6 TX6 7, w ∈ wsA := by
  show ∀ w ∈ ([u_lay RX6 TX6 0, u_lay RX6 TX6 1, u_lay RX6 TX6 2, u_lay RX6 TX6 3, u_lay RX6 TX6 4, u_lay RX6 TX6 5, u_lay RX6 TX6 6] : List Cond), w ∈ wsA
  exact List.forall_mem_cons.mpr ⟨wt_1_106, List.forall_mem_cons.mpr ⟨wt_1_108, List.forall_mem_cons.mpr ⟨wt_1_110, List.forall_mem_cons.mpr ⟨wt_1_112, List.forall_mem_cons.mpr ⟨wt_1_114, List.forall_mem_cons.mpr ⟨wt_1_116, List.forall_mem_cons.mpr ⟨wt_1_118, fun _ h => absurd h List.not_mem_nil⟩⟩⟩⟩⟩⟩⟩
theorem fw_TX7 : ∀ w ∈ u_ws RX7 TX7 30, w ∈ wsA := by
  show ∀ w ∈ ([u_lay RX7 TX7 0, u_lay RX7 TX7 1, u_lay RX7 TX7 2, u_lay RX7 TX7 3, u_lay RX7 TX7 4, u_lay RX7 TX7 5, u_lay RX7 TX7 6, u_lay RX7 TX7 7, u_lay RX7 TX7 8, u_lay RX7 TX7 9, u_lay RX7 TX7 10, u_lay RX7 TX7 11, u_lay RX7 TX7 12, u_lay RX7 TX7 13, u_lay RX7 TX7 14, u_lay RX7 TX7 15, u_lay RX7 TX7 16, u_lay RX7 TX7 17, u_lay RX7 TX7 18, u_lay RX7 TX7 19, u_lay RX7 TX7 20, u_lay RX7 TX7 21, u_lay RX7 TX7 22, u_lay RX7 TX7 23, u_lay RX7 TX7 24, u_lay RX7 TX7 25, u_lay RX7 TX7 26, u_lay RX7 TX7 27, u_lay RX7 TX7 28, u_lay RX7 TX7 29] : List Cond), w ∈ wsA
  exact List.forall_mem_cons.mpr ⟨wt_3_195, List.forall_mem_cons.mpr ⟨wt_3_197, List.forall_mem_cons.mpr ⟨wt_3_199, List.forall_mem_cons.mpr ⟨wt_3_201, List.forall_mem_cons.mpr ⟨wt_3_203, List.forall_mem_cons.mpr ⟨wt_3_205, List.forall_mem_cons.mpr ⟨wt_3_207, List.forall_mem_cons.mpr ⟨wt_3_209, List.forall_mem_cons.mpr ⟨wt_3_211, List.forall_mem_cons.mpr ⟨wt_3_213, List.forall_mem_cons.mpr ⟨wt_3_215, List.forall_mem_cons.mpr ⟨wt_3_217, List.forall_mem_cons.mpr ⟨wt_3_219, List.forall_mem_cons.mpr ⟨wt_3_221, List.forall_mem_cons.mpr ⟨wt_3_223, List.forall_mem_cons.mpr ⟨wt_3_225, List.forall_mem_cons.mpr ⟨wt_3_227, List.forall_mem_cons.mpr ⟨wt_3_229, List.forall_mem_cons.mpr ⟨wt_3_231, List.forall_mem_cons.mpr ⟨wt_3_233, List.forall_mem_cons.mpr ⟨wt_3_235, List.forall_mem_cons.mpr ⟨wt_3_237, List.forall_mem_cons.mpr ⟨wt_3_239, List.forall_mem_cons.mpr ⟨wt_4_1, List.forall_mem_cons.mpr ⟨wt_4_3, List.forall_mem_cons.mpr ⟨wt_4_5, List.forall_mem_cons.mpr ⟨wt_4_7, List.forall_mem_cons.mpr ⟨wt_4_9, List.forall_mem_cons.mpr ⟨wt_4_11, List.forall_mem_cons.mpr ⟨wt_4_13, fun _ h => absurd h List.not_mem_nil⟩⟩⟩⟩⟩⟩⟩⟩⟩⟩⟩⟩⟩⟩⟩⟩⟩⟩⟩⟩⟩⟩⟩⟩⟩⟩⟩⟩⟩⟩
end
section
/-! MEMORY: what is known of the heap, by a function from addresses to cells; a judgement J of a frame over a memory; a row an instruction -/
abbrev En : Type := (Nat × List Value) ⊕ (Nat × ((Nat → Int32) ⊕ ((Nat → Int64) ⊕ (Nat → Option Nat))))
abbrev Mm : Type := Nat → Option En
abbrev gG : Type := va_G × (ClassId × ClassId × ClassId) × (Nat → Nat)
def toE (G : gG) : En → va_E
  | .inl o => .inr o
  | .inr (n, .inl f) => .inl (G.2.1.1, n, .inl f)
  | .inr (n, .inr (.inl f)) => .inl (G.2.1.2.1, n, .inr (.inl f))
  | .inr (n, .inr (.inr f)) => .inl (G.2.1.2.2, n, .inr (.inr (.inr (.inr f))))
abbrev eO (ci : Nat) (fs : List Value) : En := .inl (ci, fs)
abbrev eI (n : Nat) (f : Nat → Int32) : En := .inr (n, .inl f)
abbrev eL (n : Nat) (f : Nat → Int64) : En := .inr (n, .inr (.inl f))
abbrev eT (n : Nat) (f : Nat → Option Nat) : En := .inr (n, .inr (.inr f))
def ups (μ : Mm) (a : Nat) (e : En) : Mm := fun b => if b = a then some e else μ b
theorem ups_s {μ : Mm} {a : Nat} {e : En} : ups μ a e a = some e := by simp [ups]
theorem ups_n {μ : Mm} {a b : Nat} {e : En} (h : b ≠ a) : ups μ a e b = μ b := by simp [ups, h]
def tysG (G : gG) : List (ClassId × FieldType) := [(G.2.1.1, .int), (G.2.1.2.1, .long), (G.2.1.2.2, .object "BitNotation$Type")]
def BM (G : gG) (A : Nat → Prop) (μ : Mm) (H : Heap) : Prop := ∀ (a : Nat) (e : En), μ a = some e → va_at G.1 vwCl (a, toE G e) H ∧ A a
theorem BM.one {G : gG} {A : Nat → Prop} {μ : Mm} {H : Heap} (h : BM G A μ H) {a : Nat} {e : En} (ha : μ a = some e) : va_P G.1 vwCl [(a, toE G e)] H := by
  intro k q hk
  cases k with
  | zero => cases hk; exact (h a e ha).1
  | succ k => simp at hk
theorem BM.lt {G : gG} {A : Nat → Prop} {μ : Mm} {H : Heap} (h : BM G A μ H) {a : Nat} {e : En} (ha : μ a = some e) : a < H.size := (h a e ha).1.lt
theorem BM.fresh {G : gG} {A : Nat → Prop} {μ : Mm} {H : Heap} (h : BM G A μ H) {q : Nat} (hq : H.size ≤ q) : μ q = none := by
  cases hm : μ q with
  | none => rfl
  | some e => exact absurd (h.lt hm) (by omega)
theorem BM.put {G : gG} {A : Nat → Prop} {μ : Mm} {H H1 : Heap} (h : BM G A μ H) {a : Nat} {e : En} (hA : A a) (he : va_at G.1 vwCl (a, toE G e) H1) (oq : ∀ q : Nat, q ≠ a → H1[q]? = H[q]?) : BM G A (ups μ a e) H1 := by
  intro b e' hb
  by_cases hab : b = a
  · subst hab
    rw [ups_s] at hb
    cases hb
    exact ⟨he, hA⟩
  · rw [ups_n hab] at hb
    exact ⟨(h b e' hb).1.kept (oq b hab), (h b e' hb).2⟩
theorem BM.add {G : gG} {A : Nat → Prop} {μ : Mm} {H H1 : Heap} (h : BM G A μ H) {a : Nat} {e : En} (hA : A a) (he : va_at G.1 vwCl (a, toE G e) H1) (oq : ∀ q : Nat, q < H.size → H1[q]? = H[q]?) : BM G A (ups μ a e) H1 := by
  intro b e' hb
  by_cases hab : b = a
  · subst hab
    rw [ups_s] at hb
    cases hb
    exact ⟨he, hA⟩
  · rw [ups_n hab] at hb
    exact ⟨(h b e' hb).1.kept (oq b (h.lt hb)), (h b e' hb).2⟩
def kdN : Nat → String
  | 0 => "NUMBER"
  | 1 => "LIST"
  | 2 => "SEQUENCE"
  | _ => "CHOICE"
def exN : List String := ["java/lang/IllegalArgumentException", "java/lang/IllegalStateException", "java/lang/IndexOutOfBoundsException"]
def stN : List (Nat × String) := [(55, "a bound is out of range"), (79, "a size is out of range"), (94, "the draft has all its parts"), (113, "no sequence, or no type from before it"), (118, "the sequence has all its additions"), (126, "a value could be too long"), (134, "the number is out of range"), (137, "the tale is full"), (151, "no such number"), (162, "the tale is no tale of such a value"), (171, "no such bit"), (177, "so many bits can't be left"), (183, "there is a fault in the bits"), (190, "no such type"), (195, "no room for the type, or its values could be too long"), (197, "the draft is empty"), (199, "so many additions can't be known")]
def nsF : List (String × Nat × String × String × String) := [("BitNotation", 164, "BitNotation$Writer", "written", "LBitNotation$Row;"), ("BitNotation", 185, "BitNotation$Reader", "heard", "LBitNotation$Row;"), ("BitNotation$Writer", 38, "BitNotation$Type", "kind", "LBitNotation$Kind;"), ("BitNotation$Reader", 41, "BitNotation$Type", "kind", "LBitNotation$Kind;"), ("BitNotation", 110, "BitNotation$Type", "kind", "LBitNotation$Kind;"), ("BitNotation$Reader", 55, "BitNotation$Type", "least", "I"), ("BitNotation$Writer", 52, "BitNotation$Type", "least", "I"), ("BitNotation$Writer", 55, "BitNotation$Type", "greatest", "I"), ("BitNotation$Reader", 61, "BitNotation$Type", "greatest", "I"), ("BitNotation$Reader", 58, "BitNotation$Type", "width", "I"), ("BitNotation$Writer", 62, "BitNotation$Type", "width", "I"), ("BitNotation$Writer", 72, "BitNotation$Type", "parts", "LBitNotation$TypeRow;"), ("BitNotation$Reader", 74, "BitNotation$Type", "parts", "LBitNotation$TypeRow;"), ("BitNotation$Writer", 89, "BitNotation$Type", "additions", "LBitNotation$TypeRow;"), ("BitNotation$Reader", 92, "BitNotation$Type", "additions", "LBitNotation$TypeRow;"), ("BitNotation", 115, "BitNotation$Type", "additions", "LBitNotation$TypeRow;"), ("BitNotation", 128, "BitNotation$Type", "fewestBits", "I"), ("BitNotation", 131, "BitNotation$Type", "mostBits", "I")]
def nsM : List (String × Nat × MethodName) := [("BitNotation", 30, ⟨"BitNotation$Writer", "<init>", "()V"⟩), ("BitNotation", 37, ⟨"BitNotation$Reader", "<init>", "()V"⟩), ("BitNotation$Type", 31, ⟨"BitNotation", "widthFor", "(I)I"⟩), ("BitNotation$Writer", 109, ⟨"BitNotation", "isOutside", "(III)Z"⟩)]
def dcN : List MethodName := [⟨"java/lang/RuntimeException", "<init>", "(Ljava/lang/String;)V"⟩, ⟨"java/lang/Exception", "<init>", "(Ljava/lang/String;)V"⟩, ⟨"java/lang/Throwable", "<init>", "(Ljava/lang/String;)V"⟩]
/-- what stays: the classes, the array classes, the constants of Kind, what a throw needs -/
def SK (G : gG) (A : Nat → Prop) (U : State) (H : Heap) : Prop :=
  va_K G.1 vwCl (tysG G) U ∧ (∀ k, k < 4 → va_Z "BitNotation$Kind" (kdN k) "LBitNotation$Kind;" (.ref (G.2.2 k)) A U H) ∧
  vx_Zq Bundle.tN "UNASSIGNED_STACK" Bundle.steD A U H ∧ vx_Zq Bundle.tN "SUPPRESSED_SENTINEL" Bundle.listD A U H ∧
  (∀ X ∈ exN, va_Nw (.castable X X) U) ∧ (∀ X ∈ exN, ∀ Y ∈ exN, X ≠ Y → va_Nc X Y U) ∧ (∀ q ∈ stN, ∃ a, vk_R RX6 q.1 q.2 a U) ∧ va_AO "BitNotation$Type" U ∧
  (∀ q ∈ nsF, va_Nw (.fieldLinkNest q.1 q.2.1 q.2.2.1 q.2.2.2.1 q.2.2.2.2 "BitNotation") U) ∧ (∀ q ∈ nsM, va_Nw (.methodLinkNest q.1 q.2.1 q.2.2 "BitNotation") U) ∧ ∀ y ∈ dcN, va_Nw (.declares y) U
theorem SK.next {G : gG} {A : Nat → Prop} {s U : State} {H0 H : Heap} {locs : List Loc} (h : SK G A s H0) (hS : va_S A H0 H locs) (hU : U.heap = H) (hW : s.WarmedH U.vm) : SK G A U U.heap := by
  obtain ⟨h1, h2, h3, h4, h5, h6, h7, h8, h9, h10, h11⟩ := h
  have hq : ∀ a : Nat, a < H0.size → ¬ A a → U.heap[a]? = H0[a]? := fun a ha hA => by rw [hU]; exact hS.2.1 a ha hA
  exact ⟨va_K.moved hW.alike h1, fun k hk => va_Z.moved hW.alike ((h2 k hk).kept hq), vx_Zq.moved hW.alike (h3.kept hq), vx_Zq.moved hW.alike (h4.kept hq), fun X hX => (h5 X hX).warmC hW, fun X hX Y hY n => (h6 X hX Y hY n).moved hW.alike, fun q hq => by obtain ⟨a, ha⟩ := h7 q hq; exact ⟨a, ha.warm hW⟩, h8.moved hW.alike, fun q hq => (h9 q hq).warmF hW, fun q hq => (h10 q hq).warmM hW, fun y hy => va_tabs rfl (rfl : (s.setVm U.vm).vm = U.vm) (by rw [Cond.declares_setVm hW.alike]; exact h11 y hy)⟩
def PcG (G : gG) (A : Nat → Prop) (μ : Mm) (av : List Value) : Array Value → State → Prop := va_Pc av (fun U => SK G A U U.heap ∧ BM G A μ U.heap ∧ ∀ q, U.heap.size ≤ q → A q)
def QG (G : gG) (A : Nat → Prop) (post : Option Value → Mm → Prop) : Array Value → State → Outcome → State → Prop := fun _ st oc t => (∃ (v : Option Value) (μ : Mm), oc = .returned v ∧ post v μ ∧ BM G A μ t.heap) ∧ va_F A st t
def XG (G : gG) (A : Nat → Prop) (px : String → Mm → Prop) : String → State → State → Prop := fun E st t => (∃ μ : Mm, px E μ ∧ BM G A μ t.heap) ∧ va_F A st t
theorem PcG.blind {G : gG} {A : Nat → Prop} {μ : Mm} {av : List Value} : FrameBlind (PcG G A μ av) := by
  intro a U g mk h
  obtain ⟨h1, h2, h3, h4⟩ := h
  exact ⟨h1, SK.next h2 (va_S.rf (A := A)) rfl (State.WarmedH.refl U), h3, h4⟩
/-- posts by the type of the answer -/
def pI (post : Int32 → Mm → Prop) : Option Value → Mm → Prop := fun v μ => ∃ r : Int32, v = some (.int r) ∧ post r μ
def pQ (post : Option Nat → Mm → Prop) : Option Value → Mm → Prop := fun v μ => ∃ r : Option Nat, v = some (va_rf r) ∧ post r μ
def pV (post : Mm → Prop) : Option Value → Mm → Prop := fun v μ => v = none ∧ post μ
/-- the room of a method of level k -/
def rmL (k mc ms : Nat) : Room := { frames := k + 6, cells := mc, slots := ms, locals := 40 * k + 120 }
def Cx (p : Program) (l : Launch) (s : State) (m : MethodId) (args : Array Value) (meth : Method) (c : Code) (cc : ByteArray) (nL : Nat) (ret : Option FieldType) (own : String) (G : gG) (A : Nat → Prop) : Prop :=
  p.tables.exec = Jvm.exec ∧ c.code = cc ∧ meth.sig.returnType = ret ∧ c.maxLocals = nL ∧ s.vm.findClass own = some m.cls ∧ (∀ w ∈ wsA, w.before args s = true) ∧ meth.locks = false ∧ SK G A s s.heap ∧ (∀ q, s.heap.size ≤ q → A q)
def J (p : Program) (l : Launch) (e : Env) (R : Room) (s : State) (m : MethodId) (args : Array Value) (below : List Frame) (meth : Method) (c : Code) (nL : Nat) (G : gG) (A : Nat → Prop) (Q : State → Prop) (cells slots pc : Nat) (loc : List (Nat × Value)) (st : List Value) (μ : Mm) : Prop :=
  ∀ (H : Heap) (locs : List Loc) (ls : Array Slot), BM G A μ H → va_S A s.heap H locs → lv_has ls nL loc → W p l e R s m args below meth c H locs cells slots Q (F0 m pc ls st)
section JR
variable {p : Program} {l : Launch} {e : Env} {R : Room} {s : State} {m : MethodId} {args : Array Value} {below : List Frame} {meth : Method} {c : Code} {nL : Nat} {G : gG} {A : Nat → Prop} {Q : State → Prop} {cells slots pc pc' : Nat} {loc loc' : List (Nat × Value)} {rest : List Value} {μ : Mm} {cc : ByteArray} {ret : Option FieldType} {own : String}
theorem j_iconst (X : Cx p l s m args meth c cc nL ret own G A) {n : Int} {v : Int32} (hv : Int32.ofInt n = v) (hdg : decode cc pc = .ok (.iconst n, 1)) (hn : pc + 1 = pc') (k : J p l e R s m args below meth c nL G A Q cells slots pc' loc (.int v :: rest) μ) : J p l e R s m args below meth c nL G A Q cells slots pc loc (rest) μ := by
  subst hn
  intro H locs ls hB hS hl
  exact lv_iconst X.1 X.2.1 hdg hv (k H locs ls hB hS hl)
theorem j_bipush (X : Cx p l s m args meth c cc nL ret own G A) {n : Int} {v : Int32} (hv : (Int8.ofInt n).toInt32 = v) (hdg : decode cc pc = .ok (.bipush n, 2)) (hn : pc + 2 = pc') (k : J p l e R s m args below meth c nL G A Q cells slots pc' loc (.int v :: rest) μ) : J p l e R s m args below meth c nL G A Q cells slots pc loc (rest) μ := by
  subst hn
  intro H locs ls hB hS hl
  exact lv_bipush X.1 X.2.1 hdg hv (k H locs ls hB hS hl)
theorem j_sipush (X : Cx p l s m args meth c cc nL ret own G A) {n : Int} {v : Int32} (hv : (Int16.ofInt n).toInt32 = v) (hdg : decode cc pc = .ok (.sipush n, 3)) (hn : pc + 3 = pc') (k : J p l e R s m args below meth c nL G A Q cells slots pc' loc (.int v :: rest) μ) : J p l e R s m args below meth c nL G A Q cells slots pc loc (rest) μ := by
  subst hn
  intro H locs ls hB hS hl
  exact lv_sipush X.1 X.2.1 hdg hv (k H locs ls hB hS hl)
theorem j_null (X : Cx p l s m args meth c cc nL ret own G A)  (hdg : decode cc pc = .ok (.aconst_null, 1)) (hn : pc + 1 = pc') (k : J p l e R s m args below meth c nL G A Q cells slots pc' loc (.null :: rest) μ) : J p l e R s m args below meth c nL G A Q cells slots pc loc (rest) μ := by
  subst hn
  intro H locs ls hB hS hl
  exact lv_null X.1 X.2.1 hdg (k H locs ls hB hS hl)
theorem j_iload_n (X : Cx p l s m args meth c cc nL ret own G A) {kk : Fin 4} {i : Nat} {x : Int32} (q : Nat) (hi : (kk : Nat) = i) (hq : loc[q]? = some (i, .int x)) (hdg : decode cc pc = .ok (.iload_n kk, 1)) (hn : pc + 1 = pc') (k : J p l e R s m args below meth c nL G A Q cells slots pc' loc (.int x :: rest) μ) : J p l e R s m args below meth c nL G A Q cells slots pc loc (rest) μ := by
  subst hn
  intro H locs ls hB hS hl
  exact lv_iload_n X.1 X.2.1 hdg hi (lv_at hl q hq) (k H locs ls hB hS hl)
theorem j_iload (X : Cx p l s m args meth c cc nL ret own G A) {i : Nat} {x : Int32} (q : Nat) (hq : loc[q]? = some (i, .int x)) (hdg : decode cc pc = .ok (.iload i, 2)) (hn : pc + 2 = pc') (k : J p l e R s m args below meth c nL G A Q cells slots pc' loc (.int x :: rest) μ) : J p l e R s m args below meth c nL G A Q cells slots pc loc (rest) μ := by
  subst hn
  intro H locs ls hB hS hl
  exact lv_iload X.1 X.2.1 hdg (lv_at hl q hq) (k H locs ls hB hS hl)
theorem j_aload_n (X : Cx p l s m args meth c cc nL ret own G A) {kk : Fin 4} {i : Nat} {x : Nat} (q : Nat) (hi : (kk : Nat) = i) (hq : loc[q]? = some (i, .ref x)) (hdg : decode cc pc = .ok (.aload_n kk, 1)) (hn : pc + 1 = pc') (k : J p l e R s m args below meth c nL G A Q cells slots pc' loc (.ref x :: rest) μ) : J p l e R s m args below meth c nL G A Q cells slots pc loc (rest) μ := by
  subst hn
  intro H locs ls hB hS hl
  exact lv_aload_n X.1 X.2.1 hdg hi (lv_at hl q hq) (k H locs ls hB hS hl)
theorem j_aload (X : Cx p l s m args meth c cc nL ret own G A) {i : Nat} {x : Nat} (q : Nat) (hq : loc[q]? = some (i, .ref x)) (hdg : decode cc pc = .ok (.aload i, 2)) (hn : pc + 2 = pc') (k : J p l e R s m args below meth c nL G A Q cells slots pc' loc (.ref x :: rest) μ) : J p l e R s m args below meth c nL G A Q cells slots pc loc (rest) μ := by
  subst hn
  intro H locs ls hB hS hl
  exact lv_aload X.1 X.2.1 hdg (lv_at hl q hq) (k H locs ls hB hS hl)
theorem j_aload_nq (X : Cx p l s m args meth c cc nL ret own G A) {kk : Fin 4} {i : Nat} {x : Option Nat} (q : Nat) (hi : (kk : Nat) = i) (hq : loc[q]? = some (i, va_rf x)) (hdg : decode cc pc = .ok (.aload_n kk, 1)) (hn : pc + 1 = pc') (k : J p l e R s m args below meth c nL G A Q cells slots pc' loc (va_rf x :: rest) μ) : J p l e R s m args below meth c nL G A Q cells slots pc loc (rest) μ := by
  subst hn
  intro H locs ls hB hS hl
  cases x with
  | none => exact lv_aload_nN X.1 X.2.1 hdg hi (lv_at hl q hq) (k H locs ls hB hS hl)
  | some x => exact lv_aload_n X.1 X.2.1 hdg hi (lv_at hl q hq) (k H locs ls hB hS hl)
theorem j_aload_q (X : Cx p l s m args meth c cc nL ret own G A) {i : Nat} {x : Option Nat} (q : Nat) (hq : loc[q]? = some (i, va_rf x)) (hdg : decode cc pc = .ok (.aload i, 2)) (hn : pc + 2 = pc') (k : J p l e R s m args below meth c nL G A Q cells slots pc' loc (va_rf x :: rest) μ) : J p l e R s m args below meth c nL G A Q cells slots pc loc (rest) μ := by
  subst hn
  intro H locs ls hB hS hl
  cases x with
  | none => exact lv_aloadN X.1 X.2.1 hdg (lv_at hl q hq) (k H locs ls hB hS hl)
  | some x => exact lv_aload X.1 X.2.1 hdg (lv_at hl q hq) (k H locs ls hB hS hl)
theorem j_istore_n (X : Cx p l s m args meth c cc nL ret own G A) {kk : Fin 4} {i : Nat} {x : Int32} (hdg : decode cc pc = .ok (.istore_n kk, 1)) (hn : pc + 1 = pc') (hi : (kk : Nat) = i) (hL : i < nL) (hl' : (i, Value.int x) :: loc.filter (fun q => !(q.1 == i) && !(q.1 + 1 == i && q.2.category == 2)) = loc') (k : J p l e R s m args below meth c nL G A Q cells slots pc' loc' rest μ) : J p l e R s m args below meth c nL G A Q cells slots pc loc (Value.int x :: rest) μ := by
  subst hn
  intro H locs ls hB hS hl
  exact lv_istore_n X.1 X.2.1 hdg hi hl hL hl' (fun ls' hl2 => k H locs ls' hB hS hl2)
theorem j_istore (X : Cx p l s m args meth c cc nL ret own G A) {i : Nat} {x : Int32} (hdg : decode cc pc = .ok (.istore i, 2)) (hn : pc + 2 = pc') (hL : i < nL) (hl' : (i, Value.int x) :: loc.filter (fun q => !(q.1 == i) && !(q.1 + 1 == i && q.2.category == 2)) = loc') (k : J p l e R s m args below meth c nL G A Q cells slots pc' loc' rest μ) : J p l e R s m args below meth c nL G A Q cells slots pc loc (Value.int x :: rest) μ := by
  subst hn
  intro H locs ls hB hS hl
  exact lv_istore X.1 X.2.1 hdg hl hL hl' (fun ls' hl2 => k H locs ls' hB hS hl2)
theorem j_astore_n (X : Cx p l s m args meth c cc nL ret own G A) {kk : Fin 4} {i : Nat} {x : Nat} (hdg : decode cc pc = .ok (.astore_n kk, 1)) (hn : pc + 1 = pc') (hi : (kk : Nat) = i) (hL : i < nL) (hl' : (i, Value.ref x) :: loc.filter (fun q => !(q.1 == i) && !(q.1 + 1 == i && q.2.category == 2)) = loc') (k : J p l e R s m args below meth c nL G A Q cells slots pc' loc' rest μ) : J p l e R s m args below meth c nL G A Q cells slots pc loc (Value.ref x :: rest) μ := by
  subst hn
  intro H locs ls hB hS hl
  exact lv_astore_n X.1 X.2.1 hdg hi hl hL hl' (fun ls' hl2 => k H locs ls' hB hS hl2)
theorem j_astore (X : Cx p l s m args meth c cc nL ret own G A) {i : Nat} {x : Nat} (hdg : decode cc pc = .ok (.astore i, 2)) (hn : pc + 2 = pc') (hL : i < nL) (hl' : (i, Value.ref x) :: loc.filter (fun q => !(q.1 == i) && !(q.1 + 1 == i && q.2.category == 2)) = loc') (k : J p l e R s m args below meth c nL G A Q cells slots pc' loc' rest μ) : J p l e R s m args below meth c nL G A Q cells slots pc loc (Value.ref x :: rest) μ := by
  subst hn
  intro H locs ls hB hS hl
  exact lv_astore X.1 X.2.1 hdg hl hL hl' (fun ls' hl2 => k H locs ls' hB hS hl2)
theorem j_astore_nq (X : Cx p l s m args meth c cc nL ret own G A) {kk : Fin 4} {i : Nat} {x : Option Nat} (hdg : decode cc pc = .ok (.astore_n kk, 1)) (hn : pc + 1 = pc') (hi : (kk : Nat) = i) (hL : i < nL) (hl' : (i, va_rf x) :: loc.filter (fun q => !(q.1 == i) && !(q.1 + 1 == i && q.2.category == 2)) = loc') (k : J p l e R s m args below meth c nL G A Q cells slots pc' loc' rest μ) : J p l e R s m args below meth c nL G A Q cells slots pc loc (va_rf x :: rest) μ := by
  cases x with
  | none =>
    subst hn
    intro H locs ls hB hS hl
    exact lv_astore_nN X.1 X.2.1 hdg hi hl hL hl' (fun ls' hl2 => k H locs ls' hB hS hl2)
  | some x => exact j_astore_n X hdg hn hi hL hl' k
theorem j_astore_q (X : Cx p l s m args meth c cc nL ret own G A) {i : Nat} {x : Option Nat} (hdg : decode cc pc = .ok (.astore i, 2)) (hn : pc + 2 = pc') (hL : i < nL) (hl' : (i, va_rf x) :: loc.filter (fun q => !(q.1 == i) && !(q.1 + 1 == i && q.2.category == 2)) = loc') (k : J p l e R s m args below meth c nL G A Q cells slots pc' loc' rest μ) : J p l e R s m args below meth c nL G A Q cells slots pc loc (va_rf x :: rest) μ := by
  cases x with
  | none =>
    subst hn
    intro H locs ls hB hS hl
    exact lv_astoreN X.1 X.2.1 hdg hl hL hl' (fun ls' hl2 => k H locs ls' hB hS hl2)
  | some x => exact j_astore X hdg hn hL hl' k
theorem j_iinc (X : Cx p l s m args meth c cc nL ret own G A) {i : Nat} {n : Int} {x v : Int32} (q : Nat) (hq : loc[q]? = some (i, .int x)) (hv : x + Int32.ofInt n = v) (hdg : decode cc pc = .ok (.iinc i n, 3)) (hn : pc + 3 = pc') (hL : i < nL) (hl' : (i, Value.int v) :: loc.filter (fun q => !(q.1 == i) && !(q.1 + 1 == i && q.2.category == 2)) = loc') (k : J p l e R s m args below meth c nL G A Q cells slots pc' loc' rest μ) : J p l e R s m args below meth c nL G A Q cells slots pc loc rest μ := by
  subst hn
  intro H locs ls hB hS hl
  exact lv_iinc X.1 X.2.1 hdg hl hq hv hL hl' (fun ls' hl2 => k H locs ls' hB hS hl2)
theorem j_iadd (X : Cx p l s m args meth c cc nL ret own G A) {x y : Int32} (hdg : decode cc pc = .ok (.iadd, 1)) (hn : pc + 1 = pc') (k : J p l e R s m args below meth c nL G A Q cells slots pc' loc (.int (x + y) :: rest) μ) : J p l e R s m args below meth c nL G A Q cells slots pc loc (.int y :: .int x :: rest) μ := by
  subst hn
  intro H locs ls hB hS hl
  exact lv_iadd X.1 X.2.1 hdg (k H locs ls hB hS hl)
theorem j_isub (X : Cx p l s m args meth c cc nL ret own G A) {x y : Int32} (hdg : decode cc pc = .ok (.isub, 1)) (hn : pc + 1 = pc') (k : J p l e R s m args below meth c nL G A Q cells slots pc' loc (.int (x - y) :: rest) μ) : J p l e R s m args below meth c nL G A Q cells slots pc loc (.int y :: .int x :: rest) μ := by
  subst hn
  intro H locs ls hB hS hl
  exact lv_isub X.1 X.2.1 hdg (k H locs ls hB hS hl)
theorem j_imul (X : Cx p l s m args meth c cc nL ret own G A) {x y : Int32} (hdg : decode cc pc = .ok (.imul, 1)) (hn : pc + 1 = pc') (k : J p l e R s m args below meth c nL G A Q cells slots pc' loc (.int (x * y) :: rest) μ) : J p l e R s m args below meth c nL G A Q cells slots pc loc (.int y :: .int x :: rest) μ := by
  subst hn
  intro H locs ls hB hS hl
  exact lv_imul X.1 X.2.1 hdg (k H locs ls hB hS hl)
theorem j_iand (X : Cx p l s m args meth c cc nL ret own G A) {x y : Int32} (hdg : decode cc pc = .ok (.iand, 1)) (hn : pc + 1 = pc') (k : J p l e R s m args below meth c nL G A Q cells slots pc' loc (.int (x &&& y) :: rest) μ) : J p l e R s m args below meth c nL G A Q cells slots pc loc (.int y :: .int x :: rest) μ := by
  subst hn
  intro H locs ls hB hS hl
  exact lv_iand X.1 X.2.1 hdg (k H locs ls hB hS hl)
theorem j_ior (X : Cx p l s m args meth c cc nL ret own G A) {x y : Int32} (hdg : decode cc pc = .ok (.ior, 1)) (hn : pc + 1 = pc') (k : J p l e R s m args below meth c nL G A Q cells slots pc' loc (.int (x ||| y) :: rest) μ) : J p l e R s m args below meth c nL G A Q cells slots pc loc (.int y :: .int x :: rest) μ := by
  subst hn
  intro H locs ls hB hS hl
  exact lv_ior X.1 X.2.1 hdg (k H locs ls hB hS hl)
theorem j_ishl (X : Cx p l s m args meth c cc nL ret own G A) {x y : Int32} (hdg : decode cc pc = .ok (.ishl, 1)) (hn : pc + 1 = pc') (k : J p l e R s m args below meth c nL G A Q cells slots pc' loc (.int (x <<< (y &&& 31)) :: rest) μ) : J p l e R s m args below meth c nL G A Q cells slots pc loc (.int y :: .int x :: rest) μ := by
  subst hn
  intro H locs ls hB hS hl
  exact lv_ishl X.1 X.2.1 hdg (k H locs ls hB hS hl)
theorem j_ishr (X : Cx p l s m args meth c cc nL ret own G A) {x y : Int32} (hdg : decode cc pc = .ok (.ishr, 1)) (hn : pc + 1 = pc') (k : J p l e R s m args below meth c nL G A Q cells slots pc' loc (.int (x >>> (y &&& 31)) :: rest) μ) : J p l e R s m args below meth c nL G A Q cells slots pc loc (.int y :: .int x :: rest) μ := by
  subst hn
  intro H locs ls hB hS hl
  exact lv_ishr X.1 X.2.1 hdg (k H locs ls hB hS hl)
theorem j_irem (X : Cx p l s m args meth c cc nL ret own G A) {x y : Int32} (h0 : ¬ y = 0) (hdg : decode cc pc = .ok (.irem, 1)) (hn : pc + 1 = pc') (k : J p l e R s m args below meth c nL G A Q cells slots pc' loc (.int (x - x / y * y) :: rest) μ) : J p l e R s m args below meth c nL G A Q cells slots pc loc (.int y :: .int x :: rest) μ := by
  subst hn
  intro H locs ls hB hS hl
  exact lv_irem X.1 X.2.1 hdg h0 (k H locs ls hB hS hl)
theorem j_i2l (X : Cx p l s m args meth c cc nL ret own G A) {x : Int32} (hdg : decode cc pc = .ok (.i2l, 1)) (hn : pc + 1 = pc') (k : J p l e R s m args below meth c nL G A Q cells slots pc' loc (.long x.toInt64 :: rest) μ) : J p l e R s m args below meth c nL G A Q cells slots pc loc (.int x :: rest) μ := by
  subst hn
  intro H locs ls hB hS hl
  exact lv_i2l X.1 X.2.1 hdg rfl (k H locs ls hB hS hl)
theorem j_dup (X : Cx p l s m args meth c cc nL ret own G A) {va : Value} (hva : va.category = 1) (hdg : decode cc pc = .ok (.dup, 1)) (hn : pc + 1 = pc') (k : J p l e R s m args below meth c nL G A Q cells slots pc' loc (va :: va :: rest) μ) : J p l e R s m args below meth c nL G A Q cells slots pc loc (va :: rest) μ := by
  subst hn
  intro H locs ls hB hS hl
  exact lv_dup X.1 X.2.1 hdg hva (k H locs ls hB hS hl)
theorem j_pop (X : Cx p l s m args meth c cc nL ret own G A) {va : Value} (hva : va.category = 1) (hdg : decode cc pc = .ok (.pop, 1)) (hn : pc + 1 = pc') (k : J p l e R s m args below meth c nL G A Q cells slots pc' loc (rest) μ) : J p l e R s m args below meth c nL G A Q cells slots pc loc (va :: rest) μ := by
  subst hn
  intro H locs ls hB hS hl
  exact lv_pop X.1 X.2.1 hdg hva (k H locs ls hB hS hl)
theorem j_dup2 (X : Cx p l s m args meth c cc nL ret own G A) {va vb : Value} (hva : va.category = 1) (hvb : vb.category = 1) (hdg : decode cc pc = .ok (.dup2, 1)) (hn : pc + 1 = pc') (k : J p l e R s m args below meth c nL G A Q cells slots pc' loc (va :: vb :: va :: vb :: rest) μ) : J p l e R s m args below meth c nL G A Q cells slots pc loc (va :: vb :: rest) μ := by
  subst hn
  intro H locs ls hB hS hl
  exact lv_dup2_11 X.1 X.2.1 hdg hva hvb (k H locs ls hB hS hl)
theorem j_dup_x1 (X : Cx p l s m args meth c cc nL ret own G A) {va vb : Value} (hva : va.category = 1) (hvb : vb.category = 1) (hdg : decode cc pc = .ok (.dup_x1, 1)) (hn : pc + 1 = pc') (k : J p l e R s m args below meth c nL G A Q cells slots pc' loc (va :: vb :: va :: rest) μ) : J p l e R s m args below meth c nL G A Q cells slots pc loc (va :: vb :: rest) μ := by
  subst hn
  intro H locs ls hB hS hl
  exact lv_dup_x1 X.1 X.2.1 hdg hva hvb (k H locs ls hB hS hl)
theorem j_dup_x2 (X : Cx p l s m args meth c cc nL ret own G A) {va vb vd : Value} (hva : va.category = 1) (hvb : vb.category = 1) (hvd : vd.category = 1) (hdg : decode cc pc = .ok (.dup_x2, 1)) (hn : pc + 1 = pc') (k : J p l e R s m args below meth c nL G A Q cells slots pc' loc (va :: vb :: vd :: va :: rest) μ) : J p l e R s m args below meth c nL G A Q cells slots pc loc (va :: vb :: vd :: rest) μ := by
  subst hn
  intro H locs ls hB hS hl
  exact lv_dup_x2 X.1 X.2.1 hdg hva hvb hvd (k H locs ls hB hS hl)
theorem j_if_eq (X : Cx p l s m args meth c cc nL ret own G A) {x : Int32} {off : Int} {tgt : Nat} (hdg : decode cc pc = .ok (.ifCond .eq off, 3)) (hn : pc + 3 = pc') (ht : (pc : Int) + off = (tgt : Int)) (kt : x = 0 → J p l e R s m args below meth c nL G A Q cells slots tgt loc rest μ) (kf : ¬ x = 0 → J p l e R s m args below meth c nL G A Q cells slots pc' loc rest μ) : J p l e R s m args below meth c nL G A Q cells slots pc loc (.int x :: rest) μ := by
  subst hn
  intro H locs ls hB hS hl
  exact lv_if_eq X.1 X.2.1 hdg ht (fun h => kt h H locs ls hB hS hl) (fun h => kf h H locs ls hB hS hl)
theorem j_icmp_eq (X : Cx p l s m args meth c cc nL ret own G A) {x y : Int32} {off : Int} {tgt : Nat} (hdg : decode cc pc = .ok (.if_icmp .eq off, 3)) (hn : pc + 3 = pc') (ht : (pc : Int) + off = (tgt : Int)) (kt : x = y → J p l e R s m args below meth c nL G A Q cells slots tgt loc rest μ) (kf : ¬ x = y → J p l e R s m args below meth c nL G A Q cells slots pc' loc rest μ) : J p l e R s m args below meth c nL G A Q cells slots pc loc (.int y :: .int x :: rest) μ := by
  subst hn
  intro H locs ls hB hS hl
  exact lv_icmp_eq X.1 X.2.1 hdg ht (fun h => kt h H locs ls hB hS hl) (fun h => kf h H locs ls hB hS hl)
theorem j_if_ne (X : Cx p l s m args meth c cc nL ret own G A) {x : Int32} {off : Int} {tgt : Nat} (hdg : decode cc pc = .ok (.ifCond .ne off, 3)) (hn : pc + 3 = pc') (ht : (pc : Int) + off = (tgt : Int)) (kt : ¬ x = 0 → J p l e R s m args below meth c nL G A Q cells slots tgt loc rest μ) (kf : x = 0 → J p l e R s m args below meth c nL G A Q cells slots pc' loc rest μ) : J p l e R s m args below meth c nL G A Q cells slots pc loc (.int x :: rest) μ := by
  subst hn
  intro H locs ls hB hS hl
  exact lv_if_ne X.1 X.2.1 hdg ht (fun h => kt h H locs ls hB hS hl) (fun h => kf h H locs ls hB hS hl)
theorem j_icmp_ne (X : Cx p l s m args meth c cc nL ret own G A) {x y : Int32} {off : Int} {tgt : Nat} (hdg : decode cc pc = .ok (.if_icmp .ne off, 3)) (hn : pc + 3 = pc') (ht : (pc : Int) + off = (tgt : Int)) (kt : ¬ x = y → J p l e R s m args below meth c nL G A Q cells slots tgt loc rest μ) (kf : x = y → J p l e R s m args below meth c nL G A Q cells slots pc' loc rest μ) : J p l e R s m args below meth c nL G A Q cells slots pc loc (.int y :: .int x :: rest) μ := by
  subst hn
  intro H locs ls hB hS hl
  exact lv_icmp_ne X.1 X.2.1 hdg ht (fun h => kt h H locs ls hB hS hl) (fun h => kf h H locs ls hB hS hl)
theorem j_if_lt (X : Cx p l s m args meth c cc nL ret own G A) {x : Int32} {off : Int} {tgt : Nat} (hdg : decode cc pc = .ok (.ifCond .lt off, 3)) (hn : pc + 3 = pc') (ht : (pc : Int) + off = (tgt : Int)) (kt : x < 0 → J p l e R s m args below meth c nL G A Q cells slots tgt loc rest μ) (kf : ¬ x < 0 → J p l e R s m args below meth c nL G A Q cells slots pc' loc rest μ) : J p l e R s m args below meth c nL G A Q cells slots pc loc (.int x :: rest) μ := by
  subst hn
  intro H locs ls hB hS hl
  exact lv_if_lt X.1 X.2.1 hdg ht (fun h => kt h H locs ls hB hS hl) (fun h => kf h H locs ls hB hS hl)
theorem j_icmp_lt (X : Cx p l s m args meth c cc nL ret own G A) {x y : Int32} {off : Int} {tgt : Nat} (hdg : decode cc pc = .ok (.if_icmp .lt off, 3)) (hn : pc + 3 = pc') (ht : (pc : Int) + off = (tgt : Int)) (kt : x < y → J p l e R s m args below meth c nL G A Q cells slots tgt loc rest μ) (kf : ¬ x < y → J p l e R s m args below meth c nL G A Q cells slots pc' loc rest μ) : J p l e R s m args below meth c nL G A Q cells slots pc loc (.int y :: .int x :: rest) μ := by
  subst hn
  intro H locs ls hB hS hl
  exact lv_icmp_lt X.1 X.2.1 hdg ht (fun h => kt h H locs ls hB hS hl) (fun h => kf h H locs ls hB hS hl)
theorem j_if_ge (X : Cx p l s m args meth c cc nL ret own G A) {x : Int32} {off : Int} {tgt : Nat} (hdg : decode cc pc = .ok (.ifCond .ge off, 3)) (hn : pc + 3 = pc') (ht : (pc : Int) + off = (tgt : Int)) (kt : 0 ≤ x → J p l e R s m args below meth c nL G A Q cells slots tgt loc rest μ) (kf : ¬ 0 ≤ x → J p l e R s m args below meth c nL G A Q cells slots pc' loc rest μ) : J p l e R s m args below meth c nL G A Q cells slots pc loc (.int x :: rest) μ := by
  subst hn
  intro H locs ls hB hS hl
  exact lv_if_ge X.1 X.2.1 hdg ht (fun h => kt h H locs ls hB hS hl) (fun h => kf h H locs ls hB hS hl)
theorem j_icmp_ge (X : Cx p l s m args meth c cc nL ret own G A) {x y : Int32} {off : Int} {tgt : Nat} (hdg : decode cc pc = .ok (.if_icmp .ge off, 3)) (hn : pc + 3 = pc') (ht : (pc : Int) + off = (tgt : Int)) (kt : y ≤ x → J p l e R s m args below meth c nL G A Q cells slots tgt loc rest μ) (kf : ¬ y ≤ x → J p l e R s m args below meth c nL G A Q cells slots pc' loc rest μ) : J p l e R s m args below meth c nL G A Q cells slots pc loc (.int y :: .int x :: rest) μ := by
  subst hn
  intro H locs ls hB hS hl
  exact lv_icmp_ge X.1 X.2.1 hdg ht (fun h => kt h H locs ls hB hS hl) (fun h => kf h H locs ls hB hS hl)
theorem j_if_gt (X : Cx p l s m args meth c cc nL ret own G A) {x : Int32} {off : Int} {tgt : Nat} (hdg : decode cc pc = .ok (.ifCond .gt off, 3)) (hn : pc + 3 = pc') (ht : (pc : Int) + off = (tgt : Int)) (kt : 0 < x → J p l e R s m args below meth c nL G A Q cells slots tgt loc rest μ) (kf : ¬ 0 < x → J p l e R s m args below meth c nL G A Q cells slots pc' loc rest μ) : J p l e R s m args below meth c nL G A Q cells slots pc loc (.int x :: rest) μ := by
  subst hn
  intro H locs ls hB hS hl
  exact lv_if_gt X.1 X.2.1 hdg ht (fun h => kt h H locs ls hB hS hl) (fun h => kf h H locs ls hB hS hl)
theorem j_icmp_gt (X : Cx p l s m args meth c cc nL ret own G A) {x y : Int32} {off : Int} {tgt : Nat} (hdg : decode cc pc = .ok (.if_icmp .gt off, 3)) (hn : pc + 3 = pc') (ht : (pc : Int) + off = (tgt : Int)) (kt : y < x → J p l e R s m args below meth c nL G A Q cells slots tgt loc rest μ) (kf : ¬ y < x → J p l e R s m args below meth c nL G A Q cells slots pc' loc rest μ) : J p l e R s m args below meth c nL G A Q cells slots pc loc (.int y :: .int x :: rest) μ := by
  subst hn
  intro H locs ls hB hS hl
  exact lv_icmp_gt X.1 X.2.1 hdg ht (fun h => kt h H locs ls hB hS hl) (fun h => kf h H locs ls hB hS hl)
theorem j_if_le (X : Cx p l s m args meth c cc nL ret own G A) {x : Int32} {off : Int} {tgt : Nat} (hdg : decode cc pc = .ok (.ifCond .le off, 3)) (hn : pc + 3 = pc') (ht : (pc : Int) + off = (tgt : Int)) (kt : x ≤ 0 → J p l e R s m args below meth c nL G A Q cells slots tgt loc rest μ) (kf : ¬ x ≤ 0 → J p l e R s m args below meth c nL G A Q cells slots pc' loc rest μ) : J p l e R s m args below meth c nL G A Q cells slots pc loc (.int x :: rest) μ := by
  subst hn
  intro H locs ls hB hS hl
  exact lv_if_le X.1 X.2.1 hdg ht (fun h => kt h H locs ls hB hS hl) (fun h => kf h H locs ls hB hS hl)
theorem j_icmp_le (X : Cx p l s m args meth c cc nL ret own G A) {x y : Int32} {off : Int} {tgt : Nat} (hdg : decode cc pc = .ok (.if_icmp .le off, 3)) (hn : pc + 3 = pc') (ht : (pc : Int) + off = (tgt : Int)) (kt : x ≤ y → J p l e R s m args below meth c nL G A Q cells slots tgt loc rest μ) (kf : ¬ x ≤ y → J p l e R s m args below meth c nL G A Q cells slots pc' loc rest μ) : J p l e R s m args below meth c nL G A Q cells slots pc loc (.int y :: .int x :: rest) μ := by
  subst hn
  intro H locs ls hB hS hl
  exact lv_icmp_le X.1 X.2.1 hdg ht (fun h => kt h H locs ls hB hS hl) (fun h => kf h H locs ls hB hS hl)
theorem j_acmp_eq (X : Cx p l s m args meth c cc nL ret own G A) {rx ry : Option Nat} {off : Int} {tgt : Nat} (hdg : decode cc pc = .ok (.if_acmp .eq off, 3)) (hn : pc + 3 = pc') (ht : (pc : Int) + off = (tgt : Int)) (kt : rx = ry → J p l e R s m args below meth c nL G A Q cells slots tgt loc rest μ) (kf : ¬ rx = ry → J p l e R s m args below meth c nL G A Q cells slots pc' loc rest μ) : J p l e R s m args below meth c nL G A Q cells slots pc loc (va_rf ry :: va_rf rx :: rest) μ := by
  subst hn
  intro H locs ls hB hS hl
  exact lv_acmp_eq X.1 X.2.1 hdg ht (fun h => kt h H locs ls hB hS hl) (fun h => kf h H locs ls hB hS hl)
theorem j_acmp_ne (X : Cx p l s m args meth c cc nL ret own G A) {rx ry : Option Nat} {off : Int} {tgt : Nat} (hdg : decode cc pc = .ok (.if_acmp .ne off, 3)) (hn : pc + 3 = pc') (ht : (pc : Int) + off = (tgt : Int)) (kt : ¬ rx = ry → J p l e R s m args below meth c nL G A Q cells slots tgt loc rest μ) (kf : rx = ry → J p l e R s m args below meth c nL G A Q cells slots pc' loc rest μ) : J p l e R s m args below meth c nL G A Q cells slots pc loc (va_rf ry :: va_rf rx :: rest) μ := by
  subst hn
  intro H locs ls hB hS hl
  exact lv_acmp_ne X.1 X.2.1 hdg ht (fun h => kt h H locs ls hB hS hl) (fun h => kf h H locs ls hB hS hl)
theorem j_ifnull (X : Cx p l s m args meth c cc nL ret own G A) {x : Option Nat} {off : Int} {tgt : Nat} (hdg : decode cc pc = .ok (.ifnull off, 3)) (hn : pc + 3 = pc') (ht : (pc : Int) + off = (tgt : Int)) (kt : x = none → J p l e R s m args below meth c nL G A Q cells slots tgt loc rest μ) (kf : ∀ a, x = some a → J p l e R s m args below meth c nL G A Q cells slots pc' loc rest μ) : J p l e R s m args below meth c nL G A Q cells slots pc loc (va_rf x :: rest) μ := by
  subst hn
  intro H locs ls hB hS hl
  cases x with
  | none => exact lv_ifnullN X.1 X.2.1 hdg ht (kt rfl H locs ls hB hS hl)
  | some x => exact lv_ifnull X.1 X.2.1 hdg (kf x rfl H locs ls hB hS hl)
theorem j_ifnonnull (X : Cx p l s m args meth c cc nL ret own G A) {x : Option Nat} {off : Int} {tgt : Nat} (hdg : decode cc pc = .ok (.ifnonnull off, 3)) (hn : pc + 3 = pc') (ht : (pc : Int) + off = (tgt : Int)) (kt : ∀ a, x = some a → J p l e R s m args below meth c nL G A Q cells slots tgt loc rest μ) (kf : x = none → J p l e R s m args below meth c nL G A Q cells slots pc' loc rest μ) : J p l e R s m args below meth c nL G A Q cells slots pc loc (va_rf x :: rest) μ := by
  subst hn
  intro H locs ls hB hS hl
  cases x with
  | none => exact lv_ifnonnullN X.1 X.2.1 hdg (kf rfl H locs ls hB hS hl)
  | some x => exact lv_ifnonnull X.1 X.2.1 hdg ht (kt x rfl H locs ls hB hS hl)
theorem j_goto (X : Cx p l s m args meth c cc nL ret own G A) {off : Int} {tgt : Nat} (hdg : decode cc pc = .ok (.goto off, 3)) (ht : (pc : Int) + off = (tgt : Int)) (k : J p l e R s m args below meth c nL G A Q cells slots tgt loc rest μ) : J p l e R s m args below meth c nL G A Q cells slots pc loc rest μ := by
  intro H locs ls hB hS hl
  exact lv_goto X.1 X.2.1 hdg ht (k H locs ls hB hS hl)
/-- the locals told anew: fewer, or in another order -/
theorem j_loc (ks : List Nat) (h : lv_pick loc ks = loc') (k : J p l e R s m args below meth c nL G A Q cells slots pc loc' rest μ) : J p l e R s m args below meth c nL G A Q cells slots pc loc rest μ := fun H locs ls hB hS hl => k H locs ls hB hS (lv_sub hl ks h)
theorem j_widen {k1 n1 : Nat} (h1 : cells ≤ k1) (h2 : slots ≤ n1) (k : J p l e R s m args below meth c nL G A Q k1 n1 pc loc rest μ) : J p l e R s m args below meth c nL G A Q cells slots pc loc rest μ := fun H locs ls hB hS hl => W.widen h1 h2 (k H locs ls hB hS hl)
theorem j_getf (X : Cx p l s m args meth c cc nL ret own G A) {C : String} {T : u_T} {N ci index a : Nat} {fs : List Value} {v : Value} (hm : μ a = some (.inl (ci, fs))) (kf : Nat) (hv : fs[kf]? = some v) (hc : vwCl[ci]? = some (C, T, N)) (hin : ∀ w ∈ u_ws C T N, w ∈ wsA) (hk : kf < N) (hlink : Cond.fieldLink own index (T kf).1 (T kf).2.1 (T kf).2.2.1 ∈ wsA) (hdg : decode cc pc = .ok (.getfield index, 3)) (hn : pc + 3 = pc') (k : J p l e R s m args below meth c nL G A Q cells slots pc' loc (v :: rest) μ) : J p l e R s m args below meth c nL G A Q cells slots pc loc (.ref a :: rest) μ := by
  subst hn
  intro H locs ls hB hS hl
  obtain ⟨hx, hb, hr, hml, hown, hts, hlk, hSK, hA⟩ := X
  exact va_get (ci := ci) hx hb hts hin hown hSK.1 (hB.one hm) 0 rfl hc kf hk (hts _ hlink) (fun _ h => h) hv hdg (k H locs ls hB hS hl)
theorem j_getfN (X : Cx p l s m args meth c cc nL ret own G A) {C : String} {T : u_T} {N ci index a : Nat} {fs : List Value} {v : Value} (hm : μ a = some (.inl (ci, fs))) (kf : Nat) (hv : fs[kf]? = some v) (hc : vwCl[ci]? = some (C, T, N)) (hin : ∀ w ∈ u_ws C T N, w ∈ wsA) (hk : kf < N) (hlink : (own, index, (T kf).1, (T kf).2.1, (T kf).2.2.1) ∈ nsF) (hdg : decode cc pc = .ok (.getfield index, 3)) (hn : pc + 3 = pc') (k : J p l e R s m args below meth c nL G A Q cells slots pc' loc (v :: rest) μ) : J p l e R s m args below meth c nL G A Q cells slots pc loc (.ref a :: rest) μ := by
  subst hn
  intro H locs ls hB hS hl
  obtain ⟨hx, hb, hr, hml, hown, hts, hlk, hSK, hA⟩ := X
  exact va_getN (ci := ci) (host := "BitNotation") hx hb hts hin hown hSK.1 (hB.one hm) 0 rfl hc kf hk (va_Nw.use rfl (hSK.2.2.2.2.2.2.2.2.1 _ hlink)) (fun _ h => h) hv hdg (k H locs ls hB hS hl)
theorem j_putf (X : Cx p l s m args meth c cc nL ret own G A) {C : String} {T : u_T} {N ci index a : Nat} {fs : List Value} {v : Value} {ty : FieldType} {ty0 : Nat → FieldType} (hm : μ a = some (.inl (ci, fs))) (kf : Nat) (hlen : kf < fs.length) (hc : vwCl[ci]? = some (C, T, N)) (hin : ∀ w ∈ u_ws C T N, w ∈ wsA) (hty : ∀ k, k < N → parseFieldDescriptor (T k).2.2.1 = some (ty0 k)) (hnm : ∀ a, a < N → ∀ b, b < N → a ≠ b → (T a).2.1 ≠ (T b).2.1) (hk : kf < N) (hfin : (T kf).2.2.2 = false) (hlink : Cond.fieldLink own index (T kf).1 (T kf).2.1 (T kf).2.2.1 ∈ wsA) (hd : parseFieldDescriptor (T kf).2.2.1 = some ty) (hnar : narrow ty v = v) (hfit : fits ty v = true) (hdg : decode cc pc = .ok (.putfield index, 3)) (hn : pc + 3 = pc') (k : J p l e R s m args below meth c nL G A Q cells slots pc' loc rest (ups μ a (.inl (ci, fs.set kf v)))) : J p l e R s m args below meth c nL G A Q cells slots pc loc (v :: .ref a :: rest) μ := by
  subst hn
  intro H locs ls hB hS hl
  obtain ⟨hx, hb, hr, hml, hown, hts, hlk, hSK, hA⟩ := X
  have hK := hSK.1
  have hap := va_apart (own := own) hts hin ty0 hty hnm hK hc
  obtain ⟨hat, hAa⟩ := hB a _ hm
  obtain ⟨r, h1, cell, q1, q2, q3, q4⟩ := hat
  have hr2 : r = (C, T, N) := Option.some.inj (h1.symm.trans hc)
  subst hr2
  obtain ⟨hSl, hfc, kC, hkC, hkind⟩ := hK.1 ci _ hc
  obtain ⟨cf, kf2, fi, f, hi, hsl⟩ := hSl kf hk
  have hlay := hts _ (hin _ (u_in_lay hk))
  unfold u_lay at hlay
  rw [if_neg (by rw [hfin]; decide)] at hlay
  have hst := (u_facts hfc hkC (u_lays hts hin hk) hi).1
  have h6 := u_store hfc hkC hkind hlay hi hd hnar hfit
  refine W.putK hx hb (f := f) ⟨hown, hts _ hlink, ⟨_, _, _, hi⟩, hst⟩ (by rw [q2]; exact h6) q1 q3 (by rw [hsl]; exact k2_hasslot (q4 kf hk)) rfl rfl hdg fun H' e1 e2 e3 => ?_
  rw [hsl] at e1 ⊢
  exact k H' _ ls (hB.put hAa ⟨_, hc, t_OB.to (V := updV (vp_V fs) kf v) ⟨_, e1, q2, q3, t_set q4 hap hk v⟩ (fun j _ => vp_updV_set hlen v j)⟩ e3) (hS.put e2 e3 hAa) hl
theorem j_putF (X : Cx p l s m args meth c cc nL ret own G A) {C : String} {T : u_T} {N ci index a : Nat} {fs : List Value} {v : Value} {ty : FieldType} {ty0 : Nat → FieldType} (hin2 : meth.name = "<init>") (hm : μ a = some (.inl (ci, fs))) (kf : Nat) (hlen : kf < fs.length) (hc : vwCl[ci]? = some (C, T, N)) (hin : ∀ w ∈ u_ws C T N, w ∈ wsA) (hty : ∀ k, k < N → parseFieldDescriptor (T k).2.2.1 = some (ty0 k)) (hnm : ∀ a, a < N → ∀ b, b < N → a ≠ b → (T a).2.1 ≠ (T b).2.1) (hk : kf < N) (hfin : (T kf).2.2.2 = true) (hdecl : (T kf).1 = own) (hlink : Cond.fieldLink own index (T kf).1 (T kf).2.1 (T kf).2.2.1 ∈ wsA) (hd : parseFieldDescriptor (T kf).2.2.1 = some ty) (hnar : narrow ty v = v) (hfit : fits ty v = true) (hdg : decode cc pc = .ok (.putfield index, 3)) (hn : pc + 3 = pc') (k : J p l e R s m args below meth c nL G A Q cells slots pc' loc rest (ups μ a (.inl (ci, fs.set kf v)))) : J p l e R s m args below meth c nL G A Q cells slots pc loc (v :: .ref a :: rest) μ := by
  subst hn
  intro H locs ls hB hS hl
  obtain ⟨hx, hb, hr, hml, hown, hts, hlk, hSK, hA⟩ := X
  have hK := hSK.1
  have hap := va_apart (own := own) hts hin ty0 hty hnm hK hc
  obtain ⟨hat, hAa⟩ := hB a _ hm
  obtain ⟨r, h1, cell, q1, q2, q3, q4⟩ := hat
  have hr2 : r = (C, T, N) := Option.some.inj (h1.symm.trans hc)
  subst hr2
  obtain ⟨hSl, hfc, kC, hkC, hkind⟩ := hK.1 ci _ hc
  obtain ⟨cf, kf2, fi, f, hi, hsl⟩ := hSl kf hk
  have hlay := hts _ (hin _ (u_in_lay hk))
  unfold u_lay at hlay
  rw [if_pos hfin] at hlay
  have hst := (u_facts hfc hkC (u_lays hts hin hk) hi).1
  have hcf : m.cls = cf := by
    obtain ⟨_, _, c', _, _, _, -, -, hf', -, -, -, hown2, -⟩ := Cond.laysFinal_spec hlay
    have e1 : c' = cf := by have := hi.symm.trans hf'; simp at this; exact this.1.symm
    rw [hdecl] at hown2
    rw [← e1]; exact Option.some.inj (hown.symm.trans hown2)
  have h6 := u_fits hfc hkC hkind (Or.inr hlay) hi hd hnar hfit
  refine W.putFinK hx hb hown (hts _ hlink) hi hst hcf hin2 (by rw [q2]; exact h6) q1 q3 (by rw [hsl]; exact k2_hasslot (q4 kf hk)) rfl rfl hdg fun H' e1 e2 e3 => ?_
  rw [hsl] at e1 ⊢
  exact k H' _ ls (hB.put hAa ⟨_, hc, t_OB.to (V := updV (vp_V fs) kf v) ⟨_, e1, q2, q3, t_set q4 hap hk v⟩ (fun j _ => vp_updV_set hlen v j)⟩ e3) (hS.put e2 e3 hAa) hl
theorem j_iald (X : Cx p l s m args meth c cc nL ret own G A) {a n : Nat} {f : Nat → Int32} {i : Int32} (hm : μ a = some (eI n f)) (hi : vp_in i n) (hdg : decode cc pc = .ok (.iaload, 1)) (hn : pc + 1 = pc') (k : J p l e R s m args below meth c nL G A Q cells slots pc' loc (.int (f i.toNatClampNeg) :: rest) μ) : J p l e R s m args below meth c nL G A Q cells slots pc loc (.int i :: .ref a :: rest) μ := by
  subst hn
  intro H locs ls hB hS hl
  exact va_iald X.1 X.2.1 X.2.2.2.2.2.2.2.1.1 (hB.one hm) 0 0 rfl rfl hi hdg (k H locs ls hB hS hl)
theorem j_lald (X : Cx p l s m args meth c cc nL ret own G A) {a n : Nat} {f : Nat → Int64} {i : Int32} (hm : μ a = some (eL n f)) (hi : vp_in i n) (hdg : decode cc pc = .ok (.laload, 1)) (hn : pc + 1 = pc') (k : J p l e R s m args below meth c nL G A Q cells slots pc' loc (.long (f i.toNatClampNeg) :: rest) μ) : J p l e R s m args below meth c nL G A Q cells slots pc loc (.int i :: .ref a :: rest) μ := by
  subst hn
  intro H locs ls hB hS hl
  exact va_lald X.1 X.2.1 X.2.2.2.2.2.2.2.1.1 (hB.one hm) 0 1 rfl rfl hi hdg (k H locs ls hB hS hl)
theorem j_aald (X : Cx p l s m args meth c cc nL ret own G A) {a n : Nat} {f : Nat → Option Nat} {i : Int32} (hm : μ a = some (eT n f)) (hi : vp_in i n) (hdg : decode cc pc = .ok (.aaload, 1)) (hn : pc + 1 = pc') (k : J p l e R s m args below meth c nL G A Q cells slots pc' loc (va_rf (f i.toNatClampNeg) :: rest) μ) : J p l e R s m args below meth c nL G A Q cells slots pc loc (.int i :: .ref a :: rest) μ := by
  subst hn
  intro H locs ls hB hS hl
  exact va_aldq X.1 X.2.1 X.2.2.2.2.2.2.2.1.1 (hB.one hm) 0 2 rfl rfl hi hdg (k H locs ls hB hS hl)
theorem j_ilen (X : Cx p l s m args meth c cc nL ret own G A) {a n : Nat} {f : Nat → Int32} (hm : μ a = some (eI n f)) (hdg : decode cc pc = .ok (.arraylength, 1)) (hn : pc + 1 = pc') (k : J p l e R s m args below meth c nL G A Q cells slots pc' loc (.int (nI n) :: rest) μ) : J p l e R s m args below meth c nL G A Q cells slots pc loc (.ref a :: rest) μ := by
  subst hn
  intro H locs ls hB hS hl
  exact va_alen X.1 X.2.1 X.2.2.2.2.2.2.2.1.1 (hB.one hm) 0 0 rfl rfl rfl hdg (k H locs ls hB hS hl)
theorem j_alen (X : Cx p l s m args meth c cc nL ret own G A) {a n : Nat} {f : Nat → Option Nat} (hm : μ a = some (eT n f)) (hdg : decode cc pc = .ok (.arraylength, 1)) (hn : pc + 1 = pc') (k : J p l e R s m args below meth c nL G A Q cells slots pc' loc (.int (nI n) :: rest) μ) : J p l e R s m args below meth c nL G A Q cells slots pc loc (.ref a :: rest) μ := by
  subst hn
  intro H locs ls hB hS hl
  exact va_alen X.1 X.2.1 X.2.2.2.2.2.2.2.1.1 (hB.one hm) 0 2 rfl rfl rfl hdg (k H locs ls hB hS hl)
theorem j_iast (X : Cx p l s m args meth c cc nL ret own G A) {a n : Nat} {f : Nat → Int32} {i x : Int32} (hm : μ a = some (eI n f)) (hi : vp_in i n) (hdg : decode cc pc = .ok (.iastore, 1)) (hn : pc + 1 = pc') (k : J p l e R s m args below meth c nL G A Q cells slots pc' loc rest (ups μ a (eI n (upd f i.toNatClampNeg x)))) : J p l e R s m args below meth c nL G A Q cells slots pc loc (.int x :: .int i :: .ref a :: rest) μ := by
  subst hn
  intro H locs ls hB hS hl
  obtain ⟨hx, hb, hr, hml, hown, hts, hlk, hSK, hA⟩ := X
  obtain ⟨hat, hAa⟩ := hB a _ hm
  refine W.iast hx hb hat ((hSK.1.2 0 _ rfl).1 n (fun j => .int (f j))) (fun q => by cases q) (by show ¬ (i < 0 ∨ (arrV _ _ _).slots.size ≤ _); rw [arrV_size]; exact hi) rfl rfl hdg fun H1 e z oq => ?_
  refine k H1 _ ls (hB.put hAa ?_ oq) (hS.put z oq hAa) hl
  show H1[a]? = some (vp_cell _ _)
  rw [e]
  rw [vp_cell_i, vp_cell_i, arrV_store]
  congr 2
  funext q
  by_cases hq : q = i.toNatClampNeg
  · subst hq
    simp [updV, upd]
  · simp [updV, upd, hq]
theorem j_last (X : Cx p l s m args meth c cc nL ret own G A) {a n : Nat} {f : Nat → Int64} {i : Int32} {x : Int64} (hm : μ a = some (eL n f)) (hi : vp_in i n) (hdg : decode cc pc = .ok (.lastore, 1)) (hn : pc + 1 = pc') (k : J p l e R s m args below meth c nL G A Q cells slots pc' loc rest (ups μ a (eL n (vp_updL f i.toNatClampNeg x)))) : J p l e R s m args below meth c nL G A Q cells slots pc loc (.long x :: .int i :: .ref a :: rest) μ := by
  subst hn
  intro H locs ls hB hS hl
  obtain ⟨hx, hb, hr, hml, hown, hts, hlk, hSK, hA⟩ := X
  obtain ⟨hat, hAa⟩ := hB a _ hm
  refine W.last hx hb hat ((hSK.1.2 1 _ rfl).1 n (fun j => .long (f j))) (fun q => by cases q) (by show ¬ (i < 0 ∨ (arrV _ _ _).slots.size ≤ _); rw [arrV_size]; exact hi) rfl rfl hdg fun H1 e z oq => ?_
  refine k H1 _ ls (hB.put hAa ?_ oq) (hS.put z oq hAa) hl
  show H1[a]? = some (vp_cell _ _)
  rw [e]
  rw [vp_cell_l, vp_cell_l, arrV_store]
  congr 2
  funext q
  by_cases hq : q = i.toNatClampNeg
  · subst hq
    simp [updV, vp_updL]
  · simp [updV, vp_updL, hq]
theorem j_aast (X : Cx p l s m args meth c cc nL ret own G A) {a n v : Nat} {vs : List Value} {f : Nat → Option Nat} {i : Int32} (hm : μ a = some (eT n f)) (hv : μ v = some (.inl (2, vs))) (hi : vp_in i n) (hdg : decode cc pc = .ok (.aastore, 1)) (hn : pc + 1 = pc') (k : J p l e R s m args below meth c nL G A Q cells slots pc' loc rest (ups μ a (eT n (va_up f i.toNatClampNeg (some v))))) : J p l e R s m args below meth c nL G A Q cells slots pc loc (.ref v :: .int i :: .ref a :: rest) μ := by
  subst hn
  intro H locs ls hB hS hl
  obtain ⟨hx, hb, hr, hml, hown, hts, hlk, hSK, hA⟩ := X
  obtain ⟨hat, hAa⟩ := hB a _ hm
  have hlt : i.toNatClampNeg < n := Nat.not_le.mp fun q => hi (Or.inr q)
  have h0 : ¬ i < 0 := fun q => hi (Or.inl q)
  obtain ⟨r', hr', cellV, g1, g2, g3, -⟩ := (hB v _ hv).1
  have hcls := (hSK.1.1 2 _ rfl).2
  obtain ⟨kA, comp, k1, k2, k3, -⟩ := (hSK.1.2 2 _ rfl).2
  have hcomp : comp = G.1.1 2 := Option.some.inj (k3.symm.trans hcls.1)
  subst hcomp
  obtain ⟨kC, hkC, -⟩ := hcls.2
  refine W.aast hx hb hat (fun q h => by cases h) (fun h => by cases h) k1 k2 rfl hkC ⟨h0, by show _ < (arrV _ _ _).slots.size; rw [arrV_size]; exact hlt⟩ g1 (fun q h => by rw [g3] at h; cases h) (by rw [g2]; exact hkC) (by rw [g2]; exact va_assign hcls) rfl rfl hdg fun H1 e z oq => ?_
  refine k H1 _ ls (hB.put hAa ?_ oq) (hS.put z oq hAa) hl
  show H1[a]? = some (vp_cell _ _)
  rw [e]
  rw [vp_cell_q, vp_cell_q, arrV_store]
  congr 2
  funext q
  by_cases hq : q = i.toNatClampNeg
  · subst hq
    simp [updV, va_up, va_rf]
  · simp [updV, va_up, hq]
theorem j_new (X : Cx p l s m args meth c cc nL ret own G A) {C : String} {T : u_T} {N ci index : Nat} {ty0 : Nat → FieldType} {fs : List Value} (hc : vwCl[ci]? = some (C, T, N)) (hin : ∀ w ∈ u_ws C T N, w ∈ wsA) (hty : ∀ k, k < N → parseFieldDescriptor (T k).2.2.1 = some (ty0 k)) (hcl : Cond.classLink own index C ∈ wsA) (hinst : Cond.instantiable C N ∈ wsA) (hini : Cond.initialized C ∈ wsA) (hfs : ∀ j, j < N → defaultValue (ty0 j) = vp_V fs j) (hcells : cells + 1 ≤ R.cells) (hslots : slots + N ≤ R.slots) (hdg : decode cc pc = .ok (.new index, 3)) (hn : pc + 3 = pc') (k : ∀ q, μ q = none → J p l e R s m args below meth c nL G A Q (cells + 1) (slots + N) pc' loc (.ref q :: rest) (ups μ q (.inl (ci, fs)))) : J p l e R s m args below meth c nL G A Q cells slots pc loc rest μ := by
  subst hn
  intro H locs ls hB hS hl
  obtain ⟨hx, hb, hr, hml, hown, hts, hlk, hSK, hA⟩ := X
  have hKn := hSK.1.1 ci _ hc
  refine W.newcK hx hb hown (hts _ hcl) (hts _ hinst) (hts _ hini) rfl hdg hcells hslots hKn.2.1 rfl fun H1 kC hkC e1 z1 o1 => ?_
  refine k H.size (hB.fresh (Nat.le_refl _)) H1 locs ls (hB.add (hA _ hS.1) ⟨_, hc, (u_born ty0 hts hin hKn hkC e1 hty).to hfs⟩ o1) ⟨Nat.le_trans hS.1 (by omega), fun x h1 h2 => (o1 x (Nat.lt_of_lt_of_le h1 hS.1)).trans (hS.2.1 x h1 h2), hS.2.2⟩ hl
theorem j_newI (X : Cx p l s m args meth c cc nL ret own G A) {n : Int32} {N : Nat} (harr : Cond.arrayClass .int ∈ wsA) (hn0 : ¬ n < 0) (hN : n.toNatClampNeg = N) (hb4 : N ≤ 1000) (hcells : cells + 1 ≤ R.cells) (hslots : slots + N ≤ R.slots) (hdg : decode cc pc = .ok (.newarray .int, 2)) (hn : pc + 2 = pc') (k : ∀ q, μ q = none → J p l e R s m args below meth c nL G A Q (cells + 1) (slots + N) pc' loc (.ref q :: rest) (ups μ q (eI N (fun _ => 0)))) : J p l e R s m args below meth c nL G A Q cells slots pc loc (.int n :: rest) μ := by
  subst hn
  intro H locs ls hB hS hl
  obtain ⟨hx, hb, hr, hml, hown, hts, hlk, hSK, hA⟩ := X
  refine va_newaK hx hb (atype := .int) (hts _ harr) rfl hdg rfl hn0 hN (by show N * 4 ≤ 536870912; omega) hcells hslots rfl fun H1 cA e1 z1 o1 hAr hNm => ?_
  have hcA : cA = G.2.1.1 := Option.some.inj (hNm.symm.trans (hSK.1.2 0 _ rfl).2)
  subst hcA
  exact k H.size (hB.fresh (Nat.le_refl _)) H1 locs ls (hB.add (hA _ hS.1) e1 o1) ⟨Nat.le_trans hS.1 (by omega), fun x h1 h2 => (o1 x (Nat.lt_of_lt_of_le h1 hS.1)).trans (hS.2.1 x h1 h2), hS.2.2⟩ hl
theorem j_newL (X : Cx p l s m args meth c cc nL ret own G A) {n : Int32} {N : Nat} (harr : Cond.arrayClass .long ∈ wsA) (hn0 : ¬ n < 0) (hN : n.toNatClampNeg = N) (hb4 : N ≤ 1000) (hcells : cells + 1 ≤ R.cells) (hslots : slots + N ≤ R.slots) (hdg : decode cc pc = .ok (.newarray .long, 2)) (hn : pc + 2 = pc') (k : ∀ q, μ q = none → J p l e R s m args below meth c nL G A Q (cells + 1) (slots + N) pc' loc (.ref q :: rest) (ups μ q (eL N (fun _ => 0)))) : J p l e R s m args below meth c nL G A Q cells slots pc loc (.int n :: rest) μ := by
  subst hn
  intro H locs ls hB hS hl
  obtain ⟨hx, hb, hr, hml, hown, hts, hlk, hSK, hA⟩ := X
  refine va_newaK hx hb (atype := .long) (hts _ harr) rfl hdg rfl hn0 hN (by show N * 8 ≤ 536870912; omega) hcells hslots rfl fun H1 cA e1 z1 o1 hAr hNm => ?_
  have hcA : cA = G.2.1.2.1 := Option.some.inj (hNm.symm.trans (hSK.1.2 1 _ rfl).2)
  subst hcA
  exact k H.size (hB.fresh (Nat.le_refl _)) H1 locs ls (hB.add (hA _ hS.1) e1 o1) ⟨Nat.le_trans hS.1 (by omega), fun x h1 h2 => (o1 x (Nat.lt_of_lt_of_le h1 hS.1)).trans (hS.2.1 x h1 h2), hS.2.2⟩ hl
theorem j_newT (X : Cx p l s m args meth c cc nL ret own G A) {n : Int32} {N index : Nat} (hcl : Cond.classLink own index "BitNotation$Type" ∈ wsA) (hn0 : ¬ n < 0) (hN : n.toNatClampNeg = N) (hb4 : N ≤ 1000) (hcells : cells + 1 ≤ R.cells) (hslots : slots + N ≤ R.slots) (hdg : decode cc pc = .ok (.anewarray index, 3)) (hn : pc + 3 = pc') (k : ∀ q, μ q = none → J p l e R s m args below meth c nL G A Q (cells + 1) (slots + N) pc' loc (.ref q :: rest) (ups μ q (eT N (fun _ => none)))) : J p l e R s m args below meth c nL G A Q cells slots pc loc (.int n :: rest) μ := by
  subst hn
  intro H locs ls hB hS hl
  obtain ⟨hx, hb, hr, hml, hown, hts, hlk, hSK, hA⟩ := X
  subst hN
  refine W.anew hx hb hown (hts _ hcl) (va_AO.use hSK.2.2.2.2.2.2.2.1) rfl hdg rfl hn0 (by omega) hcells hslots fun cA kA comp f1 f2 f3 f4 => ?_
  generalize hH1 : H.push ({ cls := cA, slots := Array.replicate n.toNatClampNeg .null, vm := .none } : Cell) = H1
  have z1 : H1.size = H.size + 1 := by rw [← hH1, Array.size_push]
  have e1 : H1[H.size]? = some (arrV cA n.toNatClampNeg (fun _ => .null)) := by rw [← hH1, Array.getElem?_push_size, ← arrV_new]
  have o1 : ∀ q : Nat, q < H.size → H1[q]? = H[q]? := fun q hq => by rw [← hH1, Array.getElem?_push, if_neg (Nat.ne_of_lt hq)]
  have hcA : cA = G.2.1.2.2 := by
    obtain ⟨kA2, comp2, g2, g3, g4, g5⟩ := (hSK.1.2 2 _ rfl).2
    exact Option.some.inj (f1.symm.trans g5)
  subst hcA
  exact k H.size (hB.fresh (Nat.le_refl _)) H1 locs ls (hB.add (hA _ hS.1) e1 o1) ⟨Nat.le_trans hS.1 (by omega), fun x h1 h2 => (o1 x (Nat.lt_of_lt_of_le h1 hS.1)).trans (hS.2.1 x h1 h2), hS.2.2⟩ hl
theorem j_kind (X : Cx p l s m args meth c cc nL ret own G A) {index : Nat} (kk : Nat) (hkk : kk < 4) (hlink : Cond.fieldLink own index "BitNotation$Kind" (kdN kk) "LBitNotation$Kind;" ∈ wsA) (hdg : decode cc pc = .ok (.getstatic index, 3)) (hn : pc + 3 = pc') (k : J p l e R s m args below meth c nL G A Q cells slots pc' loc (.ref (G.2.2 kk) :: rest) μ) : J p l e R s m args below meth c nL G A Q cells slots pc loc rest μ := by
  subst hn
  intro H locs ls hB hS hl
  obtain ⟨hx, hb, hr, hml, hown, hts, hlk, hSK, hA⟩ := X
  exact va_gets hx hb (hSK.2.1 kk hkk) hS hown (hts _ hlink) (fun _ h => h) hdg (k H locs ls hB hS hl)
theorem j_objInit (X : Cx p l s m args meth c cc nL ret own G A) {idx a : Nat} (hlink : Cond.methodLink own idx objectInit ∈ wsA) (hinst : Cond.instanceMethod objectInit ∈ wsA) (hcode : Cond.code objectInit ⟨#[0xb1]⟩ 1 none ∈ wsA) (hf : 1 ≤ R.frames) (ho : (rest.map fun v => v.category).sum + 12 ≤ R.locals) (hdg : decode cc pc = .ok (.invokespecial idx, 3)) (hn : pc + 3 = pc') (k : J p l e R s m args below meth c nL G A Q cells slots pc' loc rest μ) : J p l e R s m args below meth c nL G A Q cells slots pc loc (.ref a :: rest) μ := by
  subst hn
  intro H locs ls hB hS hl
  obtain ⟨hx, hb, hr, hml, hown, hts, hlk, hSK, hA⟩ := X
  exact W.objInit hx hb hown (hts _ hlink) (hts _ hinst) (hts _ hcode) rfl (by rw [hml]; exact hl.1) rfl hdg hf (by show 2 * 0 + _ + 12 ≤ _; omega) (k H locs ls hB hS hl)
end JR
end
section
/-! the ends of a method, its calls and its throws, over the memory -/
section JC
variable {p : Program} {l : Launch} {e : Env} {R : Room} {s : State} {m : MethodId} {args : Array Value} {below : List Frame} {meth : Method} {c : Code} {nL : Nat} {G : gG} {A : Nat → Prop} {Q : State → Prop} {cells slots pc pc' : Nat} {loc loc' : List (Nat × Value)} {rest st : List Value} {μ : Mm} {cc : ByteArray} {ret : Option FieldType} {own : String}
theorem gd_in {Ts ws : List Cond} (h : ∀ w ∈ ws, w ∈ Ts ∧ ((w.onTables && w.keeps) = true ∨ ∃ ty, w = .arrayClass ty)) : GoodIn Ts ws := h
theorem gd_ws {cd : Cond} (hc : cd ∈ wsA) : GoodIn wsA (cd :: wsA) := fun w h => (List.mem_cons.mp h).elim (fun e => by rw [e]; exact ⟨hc, wsA_good hc⟩) (fun h => ⟨h, wsA_good h⟩)
theorem gd_V {C : String} {idx : Nat} {y : MethodName} {cd : Cond} (h1 : Cond.methodLink own idx y ∈ wsA) (h2 : Cond.instanceMethod y ∈ wsA) (h3 : Cond.selects C y y ∈ wsA) (h4 : Cond.initialized C ∈ wsA) (h5 : cd ∈ wsA) : GoodIn wsA (wsV own idx C y (cd :: wsA)) := by
  intro w h
  unfold wsV at h
  rcases List.mem_append.mp h with h | h
  · simp only [List.mem_cons, List.not_mem_nil, or_false] at h
    rcases h with h | h | h | h <;> subst h
    · exact ⟨h1, wsA_good h1⟩
    · exact ⟨h2, wsA_good h2⟩
    · exact ⟨h3, wsA_good h3⟩
    · exact ⟨h4, wsA_good h4⟩
  · exact gd_ws h5 w h
theorem gd_S {idx : Nat} {y : MethodName} {cd : Cond} (h1 : Cond.methodLink own idx y ∈ wsA) (h2 : Cond.static y ∈ wsA) (h4 : Cond.initialized y.cls ∈ wsA) (h5 : cd ∈ wsA) : GoodIn wsA (va_wsS own idx y (cd :: wsA)) := by
  intro w h
  unfold va_wsS at h
  rcases List.mem_append.mp h with h | h
  · simp only [List.mem_cons, List.not_mem_nil, or_false] at h
    rcases h with h | h | h <;> subst h
    · exact ⟨h1, wsA_good h1⟩
    · exact ⟨h2, wsA_good h2⟩
    · exact ⟨h4, wsA_good h4⟩
  · exact gd_ws h5 w h
variable {post : Option Value → Mm → Prop} {px : String → Mm → Prop} {mc ms : Nat}
theorem j_iret (X : Cx p l s m args meth c cc nL (some .int) own G A) {v : Int32} (h : post (some (.int v)) μ) (hc : cells ≤ mc) (hs : slots ≤ ms) (hdg : decode cc pc = .ok (.ireturn, 1)) : J p l e R s m args below meth c nL G A (MQ below (QG G A post) args s mc ms A) cells slots pc loc [.int v] μ := by
  intro H locs ls hB hS hl
  obtain ⟨hx, hb, hr, hml, hown, hts, hlk, hSK, hA⟩ := X
  exact W.widen hc hs (W.iret (v := v) hx hb hr (fun t ht hW => ⟨⟨_, μ, rfl, h, by rw [ht]; exact hB⟩, hS.F ht⟩) hS.2.2 hdg hlk)
theorem j_zret (X : Cx p l s m args meth c cc nL (some .boolean) own G A) {v : Int32} (hv : v = 0 ∨ v = 1) (h : post (some (.int v)) μ) (hc : cells ≤ mc) (hs : slots ≤ ms) (hdg : decode cc pc = .ok (.ireturn, 1)) : J p l e R s m args below meth c nL G A (MQ below (QG G A post) args s mc ms A) cells slots pc loc [.int v] μ := by
  intro H locs ls hB hS hl
  obtain ⟨hx, hb, hr, hml, hown, hts, hlk, hSK, hA⟩ := X
  exact W.widen hc hs (W.zret (v := v) hx hb hr (by rcases hv with rfl | rfl <;> rfl) (fun t ht hW => ⟨⟨_, μ, rfl, h, by rw [ht]; exact hB⟩, hS.F ht⟩) hS.2.2 hdg hlk)
theorem j_vret (X : Cx p l s m args meth c cc nL none own G A) (h : post none μ) (hc : cells ≤ mc) (hs : slots ≤ ms) (hdg : decode cc pc = .ok (.return_, 1)) : J p l e R s m args below meth c nL G A (MQ below (QG G A post) args s mc ms A) cells slots pc loc [] μ := by
  intro H locs ls hB hS hl
  obtain ⟨hx, hb, hr, hml, hown, hts, hlk, hSK, hA⟩ := X
  exact W.widen hc hs (W.vret hx hb hr (fun t ht hW => ⟨⟨_, μ, rfl, h, by rw [ht]; exact hB⟩, hS.F ht⟩) hS.2.2 hdg hlk)
theorem j_aret {C : String} (X : Cx p l s m args meth c cc nL (some (.object C)) own G A) {r : Option Nat} (h : post (some (va_rf r)) μ) (hc : cells ≤ mc) (hs : slots ≤ ms) (hdg : decode cc pc = .ok (.areturn, 1)) : J p l e R s m args below meth c nL G A (MQ below (QG G A post) args s mc ms A) cells slots pc loc [va_rf r] μ := by
  intro H locs ls hB hS hl
  obtain ⟨hx, hb, hr, hml, hown, hts, hlk, hSK, hA⟩ := X
  exact W.widen hc hs (W.aret (v := va_rf r) hx hb hr (Or.inl ⟨_, rfl⟩) (va_rf_or r) (fun t ht hW => ⟨⟨_, μ, rfl, h, by rw [ht]; exact hB⟩, hS.F ht⟩) hS.2.2 hdg hlk)
/-- an end without a throw is an end of a body that may throw -/
theorem j_x (k : J p l e R s m args below meth c nL G A (MQ below (QG G A post) args s mc ms A) cells slots pc loc st μ) : J p l e R s m args below meth c nL G A (vx_MQ below (QG G A post) (XG G A px) args s mc ms A) cells slots pc loc st μ := fun H locs ls hB hS hl => vx_ret (k H locs ls hB hS hl)
theorem run_go {mc1 ms1 : Nat} {H : Heap} {locs : List Loc} {ls : Array Slot} {st0 : List Value} {a : Array Value} (hr : va_Run p l e R s m args below meth c H locs cells slots mc1 ms1 (F0 m pc ls st0) rest (QG G A post a) A) (hS : va_S A s.heap H locs)
    (kk : ∀ (v : Option Value) (μ' : Mm) (H1 : Heap) (locs1 : List Loc), post v μ' → BM G A μ' H1 → va_S A s.heap H1 locs1 → W p l e R s m args below meth c H1 locs1 (cells + mc1) (slots + ms1) Q (F0 m (pc + 3) ls (v.toList ++ rest))) : W p l e R s m args below meth c H locs cells slots Q (F0 m pc ls st0) := by
  intro T hT X
  obtain ⟨v, st₀, t, T', L, h0, X', hL, e1, e2, ⟨⟨v', μ', hv, hp, hb⟩, hF⟩, st⟩ := hr T hT X
  cases hv
  obtain ⟨k1, k2, k3⟩ := vx_keep h0 e1 hS (fun q _ h => h) (fun q h => h) hL hF
  obtain ⟨t2, a1, b1⟩ := kk _ μ' T'.heap (locs ++ L) hp (by rw [e1]; exact hb) k3 T' rfl X'
  exact ⟨t2, st t2 a1, b1⟩
theorem run_gox {mc1 ms1 : Nat} {H : Heap} {locs : List Loc} {ls : Array Slot} {st0 : List Value} {a : Array Value} (hr : vx_Run p l e R s m args below meth c H locs cells slots mc1 ms1 (F0 m pc ls st0) rest (QG G A post a) (XG G A px) A) (hS : va_S A s.heap H locs)
    (kx : ∀ (E : String) (ce : Cell) (q9 : Addr) (μ' : Mm) (H1 : Heap) (locs1 : List Loc), px E μ' → BM G A μ' H1 → va_S A s.heap H1 locs1 → H1[q9]? = some ce → ce.vm = .none → s.vm.findClass E = some ce.cls → vx_W p l e R s m args below meth c H1 locs1 (cells + mc1) (slots + ms1) Q (F0 m pc ls rest) q9)
    (kk : ∀ (v : Option Value) (μ' : Mm) (H1 : Heap) (locs1 : List Loc), post v μ' → BM G A μ' H1 → va_S A s.heap H1 locs1 → W p l e R s m args below meth c H1 locs1 (cells + mc1) (slots + ms1) Q (F0 m (pc + 3) ls (v.toList ++ rest))) : W p l e R s m args below meth c H locs cells slots Q (F0 m pc ls st0) := by
  intro T hT X
  rcases hr T hT X with ⟨v, st₀, t, T', L, h0, X', hL, e1, e2, ⟨⟨v', μ', hv, hp, hb⟩, hF⟩, st⟩ | ⟨q, st₀, t, T', L, E, ce, h0, X', hL, e1, e2, ⟨⟨μ', hp, hb⟩, hF⟩, hce, hcv, hcl, st⟩
  · cases hv
    obtain ⟨k1, k2, k3⟩ := vx_keep h0 e1 hS (fun q _ h => h) (fun q h => h) hL hF
    obtain ⟨t2, a1, b1⟩ := kk _ μ' T'.heap (locs ++ L) hp (by rw [e1]; exact hb) k3 T' rfl X'
    exact ⟨t2, st t2 a1, b1⟩
  · obtain ⟨k1, k2, k3⟩ := vx_keep h0 e1 hS (fun q _ h => h) (fun q h => h) hL hF
    obtain ⟨t2, a1, b1⟩ := kx E ce q μ' T'.heap (locs ++ L) hp (by rw [e1]; exact hb) k3 (by rw [e1]; exact hce) hcv hcl T' rfl X'
    exact ⟨t2, st.trans a1, b1⟩
variable {y : MethodName} {bytes : ByteArray} {maxL k1 mc1 ms1 n index ci b cells' slots' : Nat} {ret1 : Option FieldType} {As : List Value} {post1 : Option Value → Mm → Prop} {px1 : String → Mm → Prop} {C : String} {T : u_T} {N : Nat} {fs : List Value}
theorem pre_V {H : Heap} {locs : List Loc} (hSK : SK G A s s.heap) (hA : ∀ q, s.heap.size ≤ q → A q) (hB : BM G A μ H) (hS : va_S A s.heap H locs) {av : List Value} : ∀ U : State, U.heap = H → s.WarmedH U.vm → PcG G A μ av av.toArray U := fun U hU hW => ⟨rfl, SK.next hSK hS hU hW, by rw [hU]; exact hB, fun q hq => hA q (Nat.le_trans hS.1 (by rw [← hU]; exact hq))⟩
theorem j_callV (X : Cx p l s m args meth c cc nL ret own G A) (hM : Met l y (.code y bytes maxL ret1 :: wsA) (rmL k1 mc1 ms1) (PcG G A μ (.ref b :: As)) (QG G A post1) mc1 ms1 A) (hT : GoodIn wsA (wsV own index C y (.code y bytes maxL ret1 :: wsA)))
    (hd : y.cls = C ∧ y.cls ≠ "java/lang/invoke/MethodHandle" ∧ y.cls ≠ "java/lang/invoke/VarHandle" ∧ (parseMethodDescriptor y.desc).map (fun d => d.parameters.length) = some n) (hR : k1 + 6 + 1 ≤ R.frames ∧ 8 + (maxL + 11) + (40 * k1 + 120) ≤ R.locals) (hm : μ b = some (.inl (ci, fs))) (hc : vwCl[ci]? = some (C, T, N))
    (hn : As.length = n) (hst : st = As.reverse ++ .ref b :: rest) (hW : (rest.map fun v => v.category).sum ≤ 8) (hdg : decode cc pc = .ok (.invokevirtual index, 3)) (hpc : pc + 3 = pc') (hf : cells + mc1 ≤ R.cells ∧ slots + ms1 ≤ R.slots) (hce : cells + mc1 = cells') (hse : slots + ms1 = slots')
    (k : ∀ v μ', post1 v μ' → J p l e R s m args below meth c nL G A Q cells' slots' pc' loc (v.toList ++ rest) μ') : J p l e R s m args below meth c nL G A Q cells slots pc loc st μ := by
  subst hst; subst hpc; subst hce; subst hse
  intro H locs ls hB hS hl
  obtain ⟨hx, hb, hr, hml, hown, hts, hlk, hSK, hA⟩ := X
  exact run_go (va_runV (As := As) (rest := rest) ⟨hx, hb, hml, hown, hts⟩ hM (cwV n hts hT rfl rfl rfl hd hR) ⟨PcG.blind, va_recv (q0 := 0) (fs := fs) hSK.1 (hB.one hm) hc rfl, pre_V hSK hA hB hS⟩ rfl hn hl.1 rfl (lv_room hW) hdg hf) hS (fun v μ' H1 locs1 hp hB1 hS1 => k v μ' hp H1 locs1 ls hB1 hS1 hl)
theorem j_callS (X : Cx p l s m args meth c cc nL ret own G A) (hM : Met l y (.code y bytes maxL ret1 :: wsA) (rmL k1 mc1 ms1) (PcG G A μ As) (QG G A post1) mc1 ms1 A) (hT : GoodIn wsA (va_wsS own index y (.code y bytes maxL ret1 :: wsA)))
    (hd : y.cls ≠ "java/lang/invoke/MethodHandle" ∧ y.cls ≠ "java/lang/invoke/VarHandle" ∧ (parseMethodDescriptor y.desc).map (fun d => d.parameters.length) = some n) (hR : k1 + 6 + 1 ≤ R.frames ∧ 8 + (maxL + 11) + (40 * k1 + 120) ≤ R.locals)
    (hn : As.length = n) (hst : st = As.reverse ++ rest) (hW : (rest.map fun v => v.category).sum ≤ 8) (hdg : decode cc pc = .ok (.invokestatic index, 3)) (hpc : pc + 3 = pc') (hf : cells + mc1 ≤ R.cells ∧ slots + ms1 ≤ R.slots) (hce : cells + mc1 = cells') (hse : slots + ms1 = slots')
    (k : ∀ v μ', post1 v μ' → J p l e R s m args below meth c nL G A Q cells' slots' pc' loc (v.toList ++ rest) μ') : J p l e R s m args below meth c nL G A Q cells slots pc loc st μ := by
  subst hst; subst hpc; subst hce; subst hse
  intro H locs ls hB hS hl
  obtain ⟨hx, hb, hr, hml, hown, hts, hlk, hSK, hA⟩ := X
  exact run_go (va_runS (As := As) (rest := rest) ⟨hx, hb, hml, hown, hts⟩ hM (va_cwS n hts hT rfl rfl rfl hd hR) ⟨PcG.blind, pre_V hSK hA hB hS⟩ rfl hn hl.1 rfl (lv_room hW) hdg hf) hS (fun v μ' H1 locs1 hp hB1 hS1 => k v μ' hp H1 locs1 ls hB1 hS1 hl)
theorem j_callSN (X : Cx p l s m args meth c cc nL ret own G A) (hM : Met l y (.code y bytes maxL ret1 :: wsA) (rmL k1 mc1 ms1) (PcG G A μ As) (QG G A post1) mc1 ms1 A) (hnm : (own, index, y) ∈ nsM) (hs2 : Cond.static y ∈ wsA) (hi2 : Cond.initialized y.cls ∈ wsA) (hcd : Cond.code y bytes maxL ret1 ∈ wsA)
    (hd : y.cls ≠ "java/lang/invoke/MethodHandle" ∧ y.cls ≠ "java/lang/invoke/VarHandle" ∧ (parseMethodDescriptor y.desc).map (fun d => d.parameters.length) = some n) (hR : k1 + 6 + 1 ≤ R.frames ∧ 8 + (maxL + 11) + (40 * k1 + 120) ≤ R.locals)
    (hn : As.length = n) (hst : st = As.reverse ++ rest) (hW : (rest.map fun v => v.category).sum ≤ 8) (hdg : decode cc pc = .ok (.invokestatic index, 3)) (hpc : pc + 3 = pc') (hf : cells + mc1 ≤ R.cells ∧ slots + ms1 ≤ R.slots) (hce : cells + mc1 = cells') (hse : slots + ms1 = slots')
    (k : ∀ v μ', post1 v μ' → J p l e R s m args below meth c nL G A Q cells' slots' pc' loc (v.toList ++ rest) μ') : J p l e R s m args below meth c nL G A Q cells slots pc loc st μ := by
  subst hst; subst hpc; subst hce; subst hse
  intro H locs ls hB hS hl
  obtain ⟨hx, hb, hr, hml, hown, hts, hlk, hSK, hA⟩ := X
  exact run_go (va_runSN (host := "BitNotation") (As := As) (rest := rest) ⟨hx, hb, hml, hown, hts⟩ hM ⟨va_cnB n hts (gd_ws hcd) rfl rfl rfl (hSK.2.2.2.2.2.2.2.2.2.1 _ hnm) (hts _ hi2) hd hR, hts _ hs2, trivial⟩ ⟨PcG.blind, pre_V hSK hA hB hS⟩ rfl hn hl.1 rfl (lv_room hW) hdg hf) hS (fun v μ' H1 locs1 hp hB1 hS1 => k v μ' hp H1 locs1 ls hB1 hS1 hl)
theorem j_callI (X : Cx p l s m args meth c cc nL ret own G A) (hM : Met l y (.code y bytes maxL none :: wsA) (rmL k1 mc1 ms1) (PcG G A μ (.ref b :: As)) (QG G A post1) mc1 ms1 A) (h1 : Cond.methodLink own index y ∈ wsA) (h2 : Cond.instanceMethod y ∈ wsA) (hi2 : Cond.initialized y.cls ∈ wsA) (hcd : Cond.code y bytes maxL none ∈ wsA) (hy1 : y.name = "<init>")
    (hd : y.cls ≠ "java/lang/invoke/MethodHandle" ∧ y.cls ≠ "java/lang/invoke/VarHandle" ∧ (parseMethodDescriptor y.desc).map (fun d => d.parameters.length) = some n) (hR : k1 + 6 + 1 ≤ R.frames ∧ 8 + (maxL + 11) + (40 * k1 + 120) ≤ R.locals)
    (hn : As.length = n) (hst : st = As.reverse ++ .ref b :: rest) (hW : (rest.map fun v => v.category).sum ≤ 8) (hdg : decode cc pc = .ok (.invokespecial index, 3)) (hpc : pc + 3 = pc') (hf : cells + mc1 ≤ R.cells ∧ slots + ms1 ≤ R.slots) (hce : cells + mc1 = cells') (hse : slots + ms1 = slots')
    (k : ∀ v μ', post1 v μ' → J p l e R s m args below meth c nL G A Q cells' slots' pc' loc (v.toList ++ rest) μ') : J p l e R s m args below meth c nL G A Q cells slots pc loc st μ := by
  subst hst; subst hpc; subst hce; subst hse
  intro H locs ls hB hS hl
  obtain ⟨hx, hb, hr, hml, hown, hts, hlk, hSK, hA⟩ := X
  exact run_go (va_runI (As := As) (rest := rest) ⟨hx, hb, hml, hown, hts⟩ hM (cwI n hts (gd_ws hcd) rfl rfl rfl (hts _ hi2) (hts _ h1) (hts _ h2) hy1 hd hR) ⟨PcG.blind, pre_V hSK hA hB hS⟩ rfl hn hl.1 rfl (lv_room hW) hdg hf) hS (fun v μ' H1 locs1 hp hB1 hS1 => k v μ' hp H1 locs1 ls hB1 hS1 hl)
theorem j_callIN (X : Cx p l s m args meth c cc nL ret own G A) (hM : Met l y (.code y bytes maxL none :: wsA) (rmL k1 mc1 ms1) (PcG G A μ (.ref b :: As)) (QG G A post1) mc1 ms1 A) (hnm : (own, index, y) ∈ nsM) (h2 : Cond.instanceMethod y ∈ wsA) (hi2 : Cond.initialized y.cls ∈ wsA) (hcd : Cond.code y bytes maxL none ∈ wsA) (hy1 : y.name = "<init>")
    (hd : y.cls ≠ "java/lang/invoke/MethodHandle" ∧ y.cls ≠ "java/lang/invoke/VarHandle" ∧ (parseMethodDescriptor y.desc).map (fun d => d.parameters.length) = some n) (hR : k1 + 6 + 1 ≤ R.frames ∧ 8 + (maxL + 11) + (40 * k1 + 120) ≤ R.locals)
    (hn : As.length = n) (hst : st = As.reverse ++ .ref b :: rest) (hW : (rest.map fun v => v.category).sum ≤ 8) (hdg : decode cc pc = .ok (.invokespecial index, 3)) (hpc : pc + 3 = pc') (hf : cells + mc1 ≤ R.cells ∧ slots + ms1 ≤ R.slots) (hce : cells + mc1 = cells') (hse : slots + ms1 = slots')
    (k : ∀ v μ', post1 v μ' → J p l e R s m args below meth c nL G A Q cells' slots' pc' loc (v.toList ++ rest) μ') : J p l e R s m args below meth c nL G A Q cells slots pc loc st μ := by
  subst hst; subst hpc; subst hce; subst hse
  intro H locs ls hB hS hl
  obtain ⟨hx, hb, hr, hml, hown, hts, hlk, hSK, hA⟩ := X
  exact run_go (va_runIN (host := "BitNotation") (As := As) (rest := rest) ⟨hx, hb, hml, hown, hts⟩ hM ⟨va_cnB n hts (gd_ws hcd) rfl rfl rfl (hSK.2.2.2.2.2.2.2.2.2.1 _ hnm) (hts _ hi2) hd hR, hy1, hts _ h2⟩ ⟨PcG.blind, pre_V hSK hA hB hS⟩ rfl hn hl.1 rfl (lv_room hW) hdg hf) hS (fun v μ' H1 locs1 hp hB1 hS1 => k v μ' hp H1 locs1 ls hB1 hS1 hl)
/-- a call of a method that may throw; what is thrown goes on to the caller -/
theorem jx_callV (X : Cx p l s m args meth c cc nL ret own G A) (hout : ∀ x ∈ c.exceptionTable.toList, False) (hM : vx_Met l y (.code y bytes maxL ret1 :: wsA) (rmL k1 mc1 ms1) (PcG G A μ (.ref b :: As)) (QG G A post1) (XG G A px) mc1 ms1 A) (hT : GoodIn wsA (wsV own index C y (.code y bytes maxL ret1 :: wsA)))
    (hd : y.cls = C ∧ y.cls ≠ "java/lang/invoke/MethodHandle" ∧ y.cls ≠ "java/lang/invoke/VarHandle" ∧ (parseMethodDescriptor y.desc).map (fun d => d.parameters.length) = some n) (hR : k1 + 6 + 1 ≤ R.frames ∧ 8 + (maxL + 11) + (40 * k1 + 120) ≤ R.locals) (hm : μ b = some (.inl (ci, fs))) (hc : vwCl[ci]? = some (C, T, N))
    (hn : As.length = n) (hst : st = As.reverse ++ .ref b :: rest) (hW : (rest.map fun v => v.category).sum ≤ 8) (hdg : decode cc pc = .ok (.invokevirtual index, 3)) (hpc : pc + 3 = pc') (hf : cells + mc1 ≤ R.cells ∧ slots + ms1 ≤ R.slots) (hce : cells + mc1 = cells') (hse : slots + ms1 = slots') (hcm : cells' ≤ mc) (hsm : slots' ≤ ms)
    (k : ∀ v μ', post1 v μ' → J p l e R s m args below meth c nL G A (vx_MQ below (QG G A post) (XG G A px) args s mc ms A) cells' slots' pc' loc (v.toList ++ rest) μ') : J p l e R s m args below meth c nL G A (vx_MQ below (QG G A post) (XG G A px) args s mc ms A) cells slots pc loc st μ := by
  subst hst; subst hpc; subst hce; subst hse
  intro H locs ls hB hS hl
  obtain ⟨hx, hb, hr, hml, hown, hts, hlk, hSK, hA⟩ := X
  refine run_gox (vx_runV (As := As) (rest := rest) ⟨hx, hb, hml, hown, hts⟩ hM (cwV n hts hT rfl rfl rfl hd hR) ⟨PcG.blind, va_recv (q0 := 0) (fs := fs) hSK.1 (hB.one hm) hc rfl, pre_V hSK hA hB hS⟩ rfl hn hl.1 rfl (lv_room hW) hdg hf) hS (fun E ce q9 μ' H1 locs1 hp hB1 hS1 g1 g2 g3 => ?_) (fun v μ' H1 locs1 hp hB1 hS1 => k v μ' hp H1 locs1 ls hB1 hS1 hl)
  exact vx_out (fun x hx => (hout x hx).elim) hlk g1 g2 g3 (fun t ht _ => ⟨⟨μ', hp, by rw [ht]; exact hB1⟩, hS1.F ht⟩) hS1.2.2 hcm hsm
/-- 'throw new X(text)', X one of exN -/
theorem jx_throw (X : Cx p l s m args meth c cc nL ret RX6 G A) (hout : ∀ x ∈ c.exceptionTable.toList, False) (hl0 : l.stackTraces = false) {cls text : String} {ik is ic : Nat} (hX : cls ∈ exN) (hst : (is, text) ∈ stN) (hk : Cond.classLink RX6 ik cls ∈ wsA) (hini : Cond.initialized cls ∈ wsA)
    (hgd : ∀ w ∈ (vx_atS RX6 ic cls ["java/lang/RuntimeException", "java/lang/Exception"]).filter goodWord, w ∈ lw_tbl) (hng : ∀ w ∈ (vx_atS RX6 ic cls ["java/lang/RuntimeException", "java/lang/Exception"]).filter (fun w => !goodWord w), w ∈ Cond.castable cls cls :: dcN.map Cond.declares) (hcls : Bundle.fit cls = true)
    (hgood : ∀ w ∈ Cond.classLink RX6 ik cls :: Cond.initialized cls :: vx_atS RX6 ic cls ["java/lang/RuntimeException", "java/lang/Exception"], vx_ot w = true)
    (d0 : decode cc pc = .ok (.new ik, 3)) (d3 : decode cc (pc + 3) = .ok (.dup, 1)) (d4 : decode cc (pc + 4) = .ok (.ldc is, 2)) (d6 : decode cc (pc + 6) = .ok (.invokespecial ic, 3)) (d9 : decode cc (pc + 9) = .ok (.athrow, 1))
    (hRf : 5 < R.frames) (hRl : (rest.map fun v => v.category).sum + 82 ≤ R.locals) (hRc : cells + 1 ≤ R.cells) (hRs : slots + 6 ≤ R.slots) (hc : cells + 1 ≤ mc) (hs : slots + 6 ≤ ms) (h : px cls μ) :
    J p l e R s m args below meth c nL G A (vx_MQ below (QG G A post) (XG G A px) args s mc ms A) cells slots pc loc rest μ := by
  intro H locs ls hB hS hl
  obtain ⟨hx, hb, hr, hml, hown, hts, hlk, hSK, hA⟩ := X
  obtain ⟨sa, hsa⟩ := hSK.2.2.2.2.2.2.1 _ hst
  refine vx_throwS (sa := sa) hx hb hl0 hown hcls (by decide +kernel) (hts _ hk) (hts _ hini) hsa (vx_hat (fun w hw => hts w (List.mem_filter.mpr ⟨hgd w hw, (List.mem_filter.mp hw).2⟩)) hng (vx_c (va_Nw.use rfl (hSK.2.2.2.2.1 _ hX)) (fun w hw => by obtain ⟨y, hy, rfl⟩ := List.mem_map.mp hw; exact va_Nw.use rfl (hSK.2.2.2.2.2.2.2.2.2.2 y hy)))) hgood hSK.2.2.1 hSK.2.2.2.1 hS (by rw [hml]; exact hl.1) d0 d3 d4 d6 d9 (fun x hx => (hout x hx).elim) hRf hRl hRc hRs hlk (fun t _ hz hq => ⟨⟨μ, h, fun a e0 he => ⟨(hB a e0 he).1.kept (hq a (hB.lt he)), (hB a e0 he).2⟩⟩, Nat.le_trans hS.1 hz, fun q h1 h2 => by rw [hq q (Nat.lt_of_lt_of_le h1 hS.1)]; exact hS.2.1 q h1 h2⟩) hS.2.2 hc hs
theorem j_max (X : Cx p l s m args meth c cc nL ret own G A) {x z : Int32} (h1 : Cond.methodLink own index Lib.Math.max.name ∈ wsA) (h2 : Cond.static Lib.Math.max.name ∈ wsA) (h3 : Cond.initialized "java/lang/Math" ∈ wsA) (h4 : Cond.code Lib.Math.max.name Lib.Math.max.code 2 (some .int) ∈ wsA) (hf : 1 ≤ R.frames) (ho : (rest.map fun v => v.category).sum + 13 ≤ R.locals) (hc : cells ≤ R.cells) (hs : slots ≤ R.slots) (hdg : decode cc pc = .ok (.invokestatic index, 3)) (hpc : pc + 3 = pc')
    (k : J p l e R s m args below meth c nL G A Q cells slots pc' loc (.int (if x < z then z else x) :: rest) μ) : J p l e R s m args below meth c nL G A Q cells slots pc loc (.int z :: .int x :: rest) μ := by
  subst hpc
  intro H locs ls hB hS hl
  obtain ⟨hx, hb, hr, hml, hown, hts, hlk, hSK, hA⟩ := X
  exact va_mmax hx hb (hml.trans hl.1.symm) hown (hts _ h1) (hts _ h2) (hts _ h3) (hts _ h4) hf ho hc hs hdg (k H locs ls hB hS hl)
theorem j_min (X : Cx p l s m args meth c cc nL ret own G A) {x z : Int32} (h1 : Cond.methodLink own index Lib.Math.min.name ∈ wsA) (h2 : Cond.static Lib.Math.min.name ∈ wsA) (h3 : Cond.initialized "java/lang/Math" ∈ wsA) (h4 : Cond.code Lib.Math.min.name Lib.Math.min.code 2 (some .int) ∈ wsA) (hf : 1 ≤ R.frames) (ho : (rest.map fun v => v.category).sum + 13 ≤ R.locals) (hc : cells ≤ R.cells) (hs : slots ≤ R.slots) (hdg : decode cc pc = .ok (.invokestatic index, 3)) (hpc : pc + 3 = pc')
    (k : J p l e R s m args below meth c nL G A Q cells slots pc' loc (.int (if z < x then z else x) :: rest) μ) : J p l e R s m args below meth c nL G A Q cells slots pc loc (.int z :: .int x :: rest) μ := by
  subst hpc
  intro H locs ls hB hS hl
  obtain ⟨hx, hb, hr, hml, hown, hts, hlk, hSK, hA⟩ := X
  exact va_mmin hx hb (hml.trans hl.1.symm) hown (hts _ h1) (hts _ h2) (hts _ h3) (hts _ h4) hf ho hc hs hdg (k H locs ls hB hS hl)
/-- a contract out of a walk over the memory -/
theorem met_J {k0 : Nat} {av : List Value} (hy : plainName y.cls = true) (hlen : (lg_sl av).length ≤ maxL) (hloc : lv_args 0 av = loc)
    (body : ∀ (p : Program) (e : Env) (s : State) (m : MethodId) (args : Array Value) (below : List Frame) (meth : Method) (c : Code), Cx p l s m args meth c bytes maxL ret1 y.cls G A → meth.name = y.name → J p l e (rmL k0 mc ms) s m args below meth c maxL G A (MQ below (QG G A post) args s mc ms A) 0 0 0 loc [] μ) :
    Met l y (.code y bytes maxL ret1 :: wsA) (rmL k0 mc ms) (PcG G A μ av) (QG G A post) mc ms A := by
  refine Met.ofW (cc := bytes) (maxL := maxL) (ret := ret1) hy rfl ?_
  intro p e s m args below meth c s₁ B hml hv
  obtain ⟨rfl, hSK, hB, hA⟩ := hv
  have hts := atoms_spec (ws := .code y bytes maxL ret1 :: wsA) B.pre
  have hl := lv_entry av (n := maxL) hlen
  rw [hloc] at hl
  have hJ := body p e s m av.toArray below meth c ⟨B.exec, B.bytes, B.returns, hml, findClass_of_methodNamed B.named, fun w hw => hts w (List.mem_cons_of_mem _ hw), B.notSynchronized, hSK, hA⟩ (name_of_methodNamed B.named B.method).1
  rw [lg_entry_eq]
  exact hJ s.heap [] _ hB va_S.rf hl
theorem metx_J {k0 : Nat} {av : List Value} (hy : plainName y.cls = true) (hlen : (lg_sl av).length ≤ maxL) (hloc : lv_args 0 av = loc)
    (body : ∀ (p : Program) (e : Env) (s : State) (m : MethodId) (args : Array Value) (below : List Frame) (meth : Method) (c : Code), Cx p l s m args meth c bytes maxL ret1 y.cls G A → (∀ x ∈ c.exceptionTable.toList, False) → J p l e (rmL k0 mc ms) s m args below meth c maxL G A (vx_MQ below (QG G A post) (XG G A px) args s mc ms A) 0 0 0 loc [] μ) :
    vx_Met l y (.code y bytes maxL ret1 :: wsA) (rmL k0 mc ms) (PcG G A μ av) (QG G A post) (XG G A px) mc ms A := by
  refine vx_ofW (cc := bytes) (maxL := maxL) (ret := ret1) hy rfl ?_
  intro p e s m args below meth c s₁ B hml hout hv
  obtain ⟨rfl, hSK, hB, hA⟩ := hv
  have hts := atoms_spec (ws := .code y bytes maxL ret1 :: wsA) B.pre
  have hl := lv_entry av (n := maxL) hlen
  rw [hloc] at hl
  have hJ := body p e s m av.toArray below meth c ⟨B.exec, B.bytes, B.returns, hml, findClass_of_methodNamed B.named, fun w hw => hts w (List.mem_cons_of_mem _ hw), B.notSynchronized, hSK, hA⟩ hout
  rw [lg_entry_eq]
  exact hJ s.heap [] _ hB va_S.rf hl
end JC
end
section
/-! typed calls, the model's memory, and what the laid walks name -/
section JT
variable {p : Program} {l : Launch} {e : Env} {R : Room} {s : State} {m : MethodId} {args : Array Value} {below : List Frame} {meth : Method} {c : Code} {nL : Nat} {G : gG} {A : Nat → Prop} {Q : State → Prop} {cells slots pc pc' : Nat} {loc loc' : List (Nat × Value)} {rest st : List Value} {μ : Mm} {cc : ByteArray} {ret : Option FieldType} {own : String}
variable {post : Option Value → Mm → Prop} {px : String → Mm → Prop} {mc ms : Nat}
variable {y : MethodName} {bytes : ByteArray} {maxL k1 mc1 ms1 n index ci b cells' slots' : Nat} {ret1 : Option FieldType} {As : List Value} {px1 : String → Mm → Prop} {C : String} {T : u_T} {N : Nat} {fs : List Value}
theorem rmL_fit {k1 k mc ms maxL : Nat} (h : k1 < k) (hl : maxL ≤ 20) : k1 + 6 + 1 ≤ (rmL k mc ms).frames ∧ 8 + (maxL + 11) + (40 * k1 + 120) ≤ (rmL k mc ms).locals := by
  show k1 + 6 + 1 ≤ k + 6 ∧ 8 + (maxL + 11) + (40 * k1 + 120) ≤ 40 * k + 120
  omega
def pN (post : Nat → Mm → Prop) : Option Value → Mm → Prop := fun v μ => ∃ r : Nat, v = some (.ref r) ∧ post r μ
theorem j_callVi {post1 : Int32 → Mm → Prop} (X : Cx p l s m args meth c cc nL ret own G A) (hM : Met l y (.code y bytes maxL ret1 :: wsA) (rmL k1 mc1 ms1) (PcG G A μ (.ref b :: As)) (QG G A (pI post1)) mc1 ms1 A) (hT : GoodIn wsA (wsV own index C y (.code y bytes maxL ret1 :: wsA)))
    (hd : y.cls = C ∧ y.cls ≠ "java/lang/invoke/MethodHandle" ∧ y.cls ≠ "java/lang/invoke/VarHandle" ∧ (parseMethodDescriptor y.desc).map (fun d => d.parameters.length) = some n) (hR : k1 + 6 + 1 ≤ R.frames ∧ 8 + (maxL + 11) + (40 * k1 + 120) ≤ R.locals) (hm : μ b = some (.inl (ci, fs))) (hc : vwCl[ci]? = some (C, T, N))
    (hn : As.length = n) (hst : st = As.reverse ++ .ref b :: rest) (hW : (rest.map fun v => v.category).sum ≤ 8) (hdg : decode cc pc = .ok (.invokevirtual index, 3)) (hpc : pc + 3 = pc') (hf : cells + mc1 ≤ R.cells ∧ slots + ms1 ≤ R.slots) (hce : cells + mc1 = cells') (hse : slots + ms1 = slots')
    (k : ∀ r μ', post1 r μ' → J p l e R s m args below meth c nL G A Q cells' slots' pc' loc (.int r :: rest) μ') : J p l e R s m args below meth c nL G A Q cells slots pc loc st μ := j_callV X hM hT hd hR hm hc hn hst hW hdg hpc hf hce hse (fun v μ9 hv => by obtain ⟨r9, rfl, hv⟩ := hv; exact k r9 μ9 hv)
theorem j_callVq {post1 : Option Nat → Mm → Prop} (X : Cx p l s m args meth c cc nL ret own G A) (hM : Met l y (.code y bytes maxL ret1 :: wsA) (rmL k1 mc1 ms1) (PcG G A μ (.ref b :: As)) (QG G A (pQ post1)) mc1 ms1 A) (hT : GoodIn wsA (wsV own index C y (.code y bytes maxL ret1 :: wsA)))
    (hd : y.cls = C ∧ y.cls ≠ "java/lang/invoke/MethodHandle" ∧ y.cls ≠ "java/lang/invoke/VarHandle" ∧ (parseMethodDescriptor y.desc).map (fun d => d.parameters.length) = some n) (hR : k1 + 6 + 1 ≤ R.frames ∧ 8 + (maxL + 11) + (40 * k1 + 120) ≤ R.locals) (hm : μ b = some (.inl (ci, fs))) (hc : vwCl[ci]? = some (C, T, N))
    (hn : As.length = n) (hst : st = As.reverse ++ .ref b :: rest) (hW : (rest.map fun v => v.category).sum ≤ 8) (hdg : decode cc pc = .ok (.invokevirtual index, 3)) (hpc : pc + 3 = pc') (hf : cells + mc1 ≤ R.cells ∧ slots + ms1 ≤ R.slots) (hce : cells + mc1 = cells') (hse : slots + ms1 = slots')
    (k : ∀ r μ', post1 r μ' → J p l e R s m args below meth c nL G A Q cells' slots' pc' loc (va_rf r :: rest) μ') : J p l e R s m args below meth c nL G A Q cells slots pc loc st μ := j_callV X hM hT hd hR hm hc hn hst hW hdg hpc hf hce hse (fun v μ9 hv => by obtain ⟨r9, rfl, hv⟩ := hv; exact k r9 μ9 hv)
theorem j_callVv {post1 : Mm → Prop} (X : Cx p l s m args meth c cc nL ret own G A) (hM : Met l y (.code y bytes maxL ret1 :: wsA) (rmL k1 mc1 ms1) (PcG G A μ (.ref b :: As)) (QG G A (pV post1)) mc1 ms1 A) (hT : GoodIn wsA (wsV own index C y (.code y bytes maxL ret1 :: wsA)))
    (hd : y.cls = C ∧ y.cls ≠ "java/lang/invoke/MethodHandle" ∧ y.cls ≠ "java/lang/invoke/VarHandle" ∧ (parseMethodDescriptor y.desc).map (fun d => d.parameters.length) = some n) (hR : k1 + 6 + 1 ≤ R.frames ∧ 8 + (maxL + 11) + (40 * k1 + 120) ≤ R.locals) (hm : μ b = some (.inl (ci, fs))) (hc : vwCl[ci]? = some (C, T, N))
    (hn : As.length = n) (hst : st = As.reverse ++ .ref b :: rest) (hW : (rest.map fun v => v.category).sum ≤ 8) (hdg : decode cc pc = .ok (.invokevirtual index, 3)) (hpc : pc + 3 = pc') (hf : cells + mc1 ≤ R.cells ∧ slots + ms1 ≤ R.slots) (hce : cells + mc1 = cells') (hse : slots + ms1 = slots')
    (k : ∀ μ', post1 μ' → J p l e R s m args below meth c nL G A Q cells' slots' pc' loc (rest) μ') : J p l e R s m args below meth c nL G A Q cells slots pc loc st μ := j_callV X hM hT hd hR hm hc hn hst hW hdg hpc hf hce hse (fun v μ9 hv => by obtain ⟨rfl, hv⟩ := hv; exact k μ9 hv)
theorem jx_callVi {post1 : Int32 → Mm → Prop} (X : Cx p l s m args meth c cc nL ret own G A) (hout : ∀ x ∈ c.exceptionTable.toList, False) (hM : vx_Met l y (.code y bytes maxL ret1 :: wsA) (rmL k1 mc1 ms1) (PcG G A μ (.ref b :: As)) (QG G A (pI post1)) (XG G A px) mc1 ms1 A) (hT : GoodIn wsA (wsV own index C y (.code y bytes maxL ret1 :: wsA)))
    (hd : y.cls = C ∧ y.cls ≠ "java/lang/invoke/MethodHandle" ∧ y.cls ≠ "java/lang/invoke/VarHandle" ∧ (parseMethodDescriptor y.desc).map (fun d => d.parameters.length) = some n) (hR : k1 + 6 + 1 ≤ R.frames ∧ 8 + (maxL + 11) + (40 * k1 + 120) ≤ R.locals) (hm : μ b = some (.inl (ci, fs))) (hc : vwCl[ci]? = some (C, T, N))
    (hn : As.length = n) (hst : st = As.reverse ++ .ref b :: rest) (hW : (rest.map fun v => v.category).sum ≤ 8) (hdg : decode cc pc = .ok (.invokevirtual index, 3)) (hpc : pc + 3 = pc') (hf : cells + mc1 ≤ R.cells ∧ slots + ms1 ≤ R.slots) (hce : cells + mc1 = cells') (hse : slots + ms1 = slots') (hcm : cells' ≤ mc) (hsm : slots' ≤ ms)
    (k : ∀ r μ', post1 r μ' → J p l e R s m args below meth c nL G A (vx_MQ below (QG G A post) (XG G A px) args s mc ms A) cells' slots' pc' loc (.int r :: rest) μ') : J p l e R s m args below meth c nL G A (vx_MQ below (QG G A post) (XG G A px) args s mc ms A) cells slots pc loc st μ := jx_callV X hout hM hT hd hR hm hc hn hst hW hdg hpc hf hce hse hcm hsm (fun v μ9 hv => by obtain ⟨r9, rfl, hv⟩ := hv; exact k r9 μ9 hv)
theorem jx_callVn {post1 : Nat → Mm → Prop} (X : Cx p l s m args meth c cc nL ret own G A) (hout : ∀ x ∈ c.exceptionTable.toList, False) (hM : vx_Met l y (.code y bytes maxL ret1 :: wsA) (rmL k1 mc1 ms1) (PcG G A μ (.ref b :: As)) (QG G A (pN post1)) (XG G A px) mc1 ms1 A) (hT : GoodIn wsA (wsV own index C y (.code y bytes maxL ret1 :: wsA)))
    (hd : y.cls = C ∧ y.cls ≠ "java/lang/invoke/MethodHandle" ∧ y.cls ≠ "java/lang/invoke/VarHandle" ∧ (parseMethodDescriptor y.desc).map (fun d => d.parameters.length) = some n) (hR : k1 + 6 + 1 ≤ R.frames ∧ 8 + (maxL + 11) + (40 * k1 + 120) ≤ R.locals) (hm : μ b = some (.inl (ci, fs))) (hc : vwCl[ci]? = some (C, T, N))
    (hn : As.length = n) (hst : st = As.reverse ++ .ref b :: rest) (hW : (rest.map fun v => v.category).sum ≤ 8) (hdg : decode cc pc = .ok (.invokevirtual index, 3)) (hpc : pc + 3 = pc') (hf : cells + mc1 ≤ R.cells ∧ slots + ms1 ≤ R.slots) (hce : cells + mc1 = cells') (hse : slots + ms1 = slots') (hcm : cells' ≤ mc) (hsm : slots' ≤ ms)
    (k : ∀ r μ', post1 r μ' → J p l e R s m args below meth c nL G A (vx_MQ below (QG G A post) (XG G A px) args s mc ms A) cells' slots' pc' loc (.ref r :: rest) μ') : J p l e R s m args below meth c nL G A (vx_MQ below (QG G A post) (XG G A px) args s mc ms A) cells slots pc loc st μ := jx_callV X hout hM hT hd hR hm hc hn hst hW hdg hpc hf hce hse hcm hsm (fun v μ9 hv => by obtain ⟨r9, rfl, hv⟩ := hv; exact k r9 μ9 hv)
theorem jx_callVv {post1 : Mm → Prop} (X : Cx p l s m args meth c cc nL ret own G A) (hout : ∀ x ∈ c.exceptionTable.toList, False) (hM : vx_Met l y (.code y bytes maxL ret1 :: wsA) (rmL k1 mc1 ms1) (PcG G A μ (.ref b :: As)) (QG G A (pV post1)) (XG G A px) mc1 ms1 A) (hT : GoodIn wsA (wsV own index C y (.code y bytes maxL ret1 :: wsA)))
    (hd : y.cls = C ∧ y.cls ≠ "java/lang/invoke/MethodHandle" ∧ y.cls ≠ "java/lang/invoke/VarHandle" ∧ (parseMethodDescriptor y.desc).map (fun d => d.parameters.length) = some n) (hR : k1 + 6 + 1 ≤ R.frames ∧ 8 + (maxL + 11) + (40 * k1 + 120) ≤ R.locals) (hm : μ b = some (.inl (ci, fs))) (hc : vwCl[ci]? = some (C, T, N))
    (hn : As.length = n) (hst : st = As.reverse ++ .ref b :: rest) (hW : (rest.map fun v => v.category).sum ≤ 8) (hdg : decode cc pc = .ok (.invokevirtual index, 3)) (hpc : pc + 3 = pc') (hf : cells + mc1 ≤ R.cells ∧ slots + ms1 ≤ R.slots) (hce : cells + mc1 = cells') (hse : slots + ms1 = slots') (hcm : cells' ≤ mc) (hsm : slots' ≤ ms)
    (k : ∀ μ', post1 μ' → J p l e R s m args below meth c nL G A (vx_MQ below (QG G A post) (XG G A px) args s mc ms A) cells' slots' pc' loc (rest) μ') : J p l e R s m args below meth c nL G A (vx_MQ below (QG G A post) (XG G A px) args s mc ms A) cells slots pc loc st μ := jx_callV X hout hM hT hd hR hm hc hn hst hW hdg hpc hf hce hse hcm hsm (fun v μ9 hv => by obtain ⟨rfl, hv⟩ := hv; exact k μ9 hv)
theorem j_callIv {post1 : Mm → Prop} (X : Cx p l s m args meth c cc nL ret own G A) (hM : Met l y (.code y bytes maxL none :: wsA) (rmL k1 mc1 ms1) (PcG G A μ (.ref b :: As)) (QG G A (pV post1)) mc1 ms1 A) (h1 : Cond.methodLink own index y ∈ wsA) (h2 : Cond.instanceMethod y ∈ wsA) (hi2 : Cond.initialized y.cls ∈ wsA) (hcd : Cond.code y bytes maxL none ∈ wsA) (hy1 : y.name = "<init>")
    (hd : y.cls ≠ "java/lang/invoke/MethodHandle" ∧ y.cls ≠ "java/lang/invoke/VarHandle" ∧ (parseMethodDescriptor y.desc).map (fun d => d.parameters.length) = some n) (hR : k1 + 6 + 1 ≤ R.frames ∧ 8 + (maxL + 11) + (40 * k1 + 120) ≤ R.locals)
    (hn : As.length = n) (hst : st = As.reverse ++ .ref b :: rest) (hW : (rest.map fun v => v.category).sum ≤ 8) (hdg : decode cc pc = .ok (.invokespecial index, 3)) (hpc : pc + 3 = pc') (hf : cells + mc1 ≤ R.cells ∧ slots + ms1 ≤ R.slots) (hce : cells + mc1 = cells') (hse : slots + ms1 = slots')
    (k : ∀ μ', post1 μ' → J p l e R s m args below meth c nL G A Q cells' slots' pc' loc (rest) μ') : J p l e R s m args below meth c nL G A Q cells slots pc loc st μ := j_callI X hM h1 h2 hi2 hcd hy1 hd hR hn hst hW hdg hpc hf hce hse (fun v μ9 hv => by obtain ⟨rfl, hv⟩ := hv; exact k μ9 hv)
theorem j_callINv {post1 : Mm → Prop} (X : Cx p l s m args meth c cc nL ret own G A) (hM : Met l y (.code y bytes maxL none :: wsA) (rmL k1 mc1 ms1) (PcG G A μ (.ref b :: As)) (QG G A (pV post1)) mc1 ms1 A) (hnm : (own, index, y) ∈ nsM) (h2 : Cond.instanceMethod y ∈ wsA) (hi2 : Cond.initialized y.cls ∈ wsA) (hcd : Cond.code y bytes maxL none ∈ wsA) (hy1 : y.name = "<init>")
    (hd : y.cls ≠ "java/lang/invoke/MethodHandle" ∧ y.cls ≠ "java/lang/invoke/VarHandle" ∧ (parseMethodDescriptor y.desc).map (fun d => d.parameters.length) = some n) (hR : k1 + 6 + 1 ≤ R.frames ∧ 8 + (maxL + 11) + (40 * k1 + 120) ≤ R.locals)
    (hn : As.length = n) (hst : st = As.reverse ++ .ref b :: rest) (hW : (rest.map fun v => v.category).sum ≤ 8) (hdg : decode cc pc = .ok (.invokespecial index, 3)) (hpc : pc + 3 = pc') (hf : cells + mc1 ≤ R.cells ∧ slots + ms1 ≤ R.slots) (hce : cells + mc1 = cells') (hse : slots + ms1 = slots')
    (k : ∀ μ', post1 μ' → J p l e R s m args below meth c nL G A Q cells' slots' pc' loc (rest) μ') : J p l e R s m args below meth c nL G A Q cells slots pc loc st μ := j_callIN X hM hnm h2 hi2 hcd hy1 hd hR hn hst hW hdg hpc hf hce hse (fun v μ9 hv => by obtain ⟨rfl, hv⟩ := hv; exact k μ9 hv)
theorem j_callSp {post1 : Int32 → Prop} (X : Cx p l s m args meth c cc nL ret own G A) (hM : Met l y (.code y bytes maxL ret1 :: wsA) (rmL k1 mc1 ms1) (PcG G A μ As) (QG G A (pI (fun r μ9 => post1 r ∧ μ9 = μ))) mc1 ms1 A) (hT : GoodIn wsA (va_wsS own index y (.code y bytes maxL ret1 :: wsA)))
    (hd : y.cls ≠ "java/lang/invoke/MethodHandle" ∧ y.cls ≠ "java/lang/invoke/VarHandle" ∧ (parseMethodDescriptor y.desc).map (fun d => d.parameters.length) = some n) (hR : k1 + 6 + 1 ≤ R.frames ∧ 8 + (maxL + 11) + (40 * k1 + 120) ≤ R.locals)
    (hn : As.length = n) (hst : st = As.reverse ++ rest) (hW : (rest.map fun v => v.category).sum ≤ 8) (hdg : decode cc pc = .ok (.invokestatic index, 3)) (hpc : pc + 3 = pc') (hf : cells + mc1 ≤ R.cells ∧ slots + ms1 ≤ R.slots) (hce : cells + mc1 = cells') (hse : slots + ms1 = slots')
    (k : ∀ r, post1 r → J p l e R s m args below meth c nL G A Q cells' slots' pc' loc (.int r :: rest) μ) : J p l e R s m args below meth c nL G A Q cells slots pc loc st μ := j_callS X hM hT hd hR hn hst hW hdg hpc hf hce hse (fun v μ9 hv => by obtain ⟨r9, rfl, hv, rfl⟩ := hv; exact k r9 hv)
theorem j_callSNp {post1 : Int32 → Prop} (X : Cx p l s m args meth c cc nL ret own G A) (hM : Met l y (.code y bytes maxL ret1 :: wsA) (rmL k1 mc1 ms1) (PcG G A μ As) (QG G A (pI (fun r μ9 => post1 r ∧ μ9 = μ))) mc1 ms1 A) (hnm : (own, index, y) ∈ nsM) (hs2 : Cond.static y ∈ wsA) (hi2 : Cond.initialized y.cls ∈ wsA) (hcd : Cond.code y bytes maxL ret1 ∈ wsA)
    (hd : y.cls ≠ "java/lang/invoke/MethodHandle" ∧ y.cls ≠ "java/lang/invoke/VarHandle" ∧ (parseMethodDescriptor y.desc).map (fun d => d.parameters.length) = some n) (hR : k1 + 6 + 1 ≤ R.frames ∧ 8 + (maxL + 11) + (40 * k1 + 120) ≤ R.locals)
    (hn : As.length = n) (hst : st = As.reverse ++ rest) (hW : (rest.map fun v => v.category).sum ≤ 8) (hdg : decode cc pc = .ok (.invokestatic index, 3)) (hpc : pc + 3 = pc') (hf : cells + mc1 ≤ R.cells ∧ slots + ms1 ≤ R.slots) (hce : cells + mc1 = cells') (hse : slots + ms1 = slots')
    (k : ∀ r, post1 r → J p l e R s m args below meth c nL G A Q cells' slots' pc' loc (.int r :: rest) μ) : J p l e R s m args below meth c nL G A Q cells slots pc loc st μ := j_callSN X hM hnm hs2 hi2 hcd hd hR hn hst hW hdg hpc hf hce hse (fun v μ9 hv => by obtain ⟨r9, rfl, hv, rfl⟩ := hv; exact k r9 hv)
theorem jp_putf (X : Cx p l s m args meth c cc nL ret own G A) {C : String} {T : u_T} {N ci index a : Nat} {fs : List Value} {v : Value} {ty : FieldType} {ty0 : Nat → FieldType} (hm : μ a = some (.inl (ci, fs))) (kf : Nat) (hlen : kf < fs.length) (hc : vwCl[ci]? = some (C, T, N)) (hin : ∀ w ∈ u_ws C T N, w ∈ wsA) (hty : ∀ k, k < N → parseFieldDescriptor (T k).2.2.1 = some (ty0 k)) (hnm : ∀ a, a < N → ∀ b, b < N → a ≠ b → (T a).2.1 ≠ (T b).2.1) (hk : kf < N) (hfin : (T kf).2.2.2 = false) (hlink : Cond.fieldLink own index (T kf).1 (T kf).2.1 (T kf).2.2.1 ∈ wsA) (hd : parseFieldDescriptor (T kf).2.2.1 = some ty) (hnar : narrow ty v = v) (hfit : fits ty v = true) (hdg : decode cc pc = .ok (.putfield index, 3)) (hn : pc + 3 = pc') (k : ∀ μ1, μ1 = ups μ a (.inl (ci, fs.set kf v)) → J p l e R s m args below meth c nL G A Q cells slots pc' loc rest μ1) : J p l e R s m args below meth c nL G A Q cells slots pc loc (v :: .ref a :: rest) μ := j_putf X hm kf hlen hc hin hty hnm hk hfin hlink hd hnar hfit hdg hn (k _ rfl)
theorem jp_putF (X : Cx p l s m args meth c cc nL ret own G A) {C : String} {T : u_T} {N ci index a : Nat} {fs : List Value} {v : Value} {ty : FieldType} {ty0 : Nat → FieldType} (hin2 : meth.name = "<init>") (hm : μ a = some (.inl (ci, fs))) (kf : Nat) (hlen : kf < fs.length) (hc : vwCl[ci]? = some (C, T, N)) (hin : ∀ w ∈ u_ws C T N, w ∈ wsA) (hty : ∀ k, k < N → parseFieldDescriptor (T k).2.2.1 = some (ty0 k)) (hnm : ∀ a, a < N → ∀ b, b < N → a ≠ b → (T a).2.1 ≠ (T b).2.1) (hk : kf < N) (hfin : (T kf).2.2.2 = true) (hdecl : (T kf).1 = own) (hlink : Cond.fieldLink own index (T kf).1 (T kf).2.1 (T kf).2.2.1 ∈ wsA) (hd : parseFieldDescriptor (T kf).2.2.1 = some ty) (hnar : narrow ty v = v) (hfit : fits ty v = true) (hdg : decode cc pc = .ok (.putfield index, 3)) (hn : pc + 3 = pc') (k : ∀ μ1, μ1 = ups μ a (.inl (ci, fs.set kf v)) → J p l e R s m args below meth c nL G A Q cells slots pc' loc rest μ1) : J p l e R s m args below meth c nL G A Q cells slots pc loc (v :: .ref a :: rest) μ := j_putF X hin2 hm kf hlen hc hin hty hnm hk hfin hdecl hlink hd hnar hfit hdg hn (k _ rfl)
theorem jp_iast (X : Cx p l s m args meth c cc nL ret own G A) {a n : Nat} {f : Nat → Int32} {i x : Int32} (hm : μ a = some (eI n f)) (hi : vp_in i n) (hdg : decode cc pc = .ok (.iastore, 1)) (hn : pc + 1 = pc') (k : ∀ μ1, μ1 = ups μ a (eI n (upd f i.toNatClampNeg x)) → J p l e R s m args below meth c nL G A Q cells slots pc' loc rest μ1) : J p l e R s m args below meth c nL G A Q cells slots pc loc (.int x :: .int i :: .ref a :: rest) μ := j_iast X hm hi hdg hn (k _ rfl)
theorem jp_last (X : Cx p l s m args meth c cc nL ret own G A) {a n : Nat} {f : Nat → Int64} {i : Int32} {x : Int64} (hm : μ a = some (eL n f)) (hi : vp_in i n) (hdg : decode cc pc = .ok (.lastore, 1)) (hn : pc + 1 = pc') (k : ∀ μ1, μ1 = ups μ a (eL n (vp_updL f i.toNatClampNeg x)) → J p l e R s m args below meth c nL G A Q cells slots pc' loc rest μ1) : J p l e R s m args below meth c nL G A Q cells slots pc loc (.long x :: .int i :: .ref a :: rest) μ := j_last X hm hi hdg hn (k _ rfl)
theorem jp_aast (X : Cx p l s m args meth c cc nL ret own G A) {a n v : Nat} {vs : List Value} {f : Nat → Option Nat} {i : Int32} (hm : μ a = some (eT n f)) (hv : μ v = some (.inl (2, vs))) (hi : vp_in i n) (hdg : decode cc pc = .ok (.aastore, 1)) (hn : pc + 1 = pc') (k : ∀ μ1, μ1 = ups μ a (eT n (va_up f i.toNatClampNeg (some v))) → J p l e R s m args below meth c nL G A Q cells slots pc' loc rest μ1) : J p l e R s m args below meth c nL G A Q cells slots pc loc (.ref v :: .int i :: .ref a :: rest) μ := j_aast X hm hv hi hdg hn (k _ rfl)
theorem jp_new (X : Cx p l s m args meth c cc nL ret own G A) {C : String} {T : u_T} {N ci index : Nat} {ty0 : Nat → FieldType} {fs : List Value} (hc : vwCl[ci]? = some (C, T, N)) (hin : ∀ w ∈ u_ws C T N, w ∈ wsA) (hty : ∀ k, k < N → parseFieldDescriptor (T k).2.2.1 = some (ty0 k)) (hcl : Cond.classLink own index C ∈ wsA) (hinst : Cond.instantiable C N ∈ wsA) (hini : Cond.initialized C ∈ wsA) (hfs : ∀ j, j < N → defaultValue (ty0 j) = vp_V fs j) (hcells : cells + 1 ≤ R.cells) (hslots : slots + N ≤ R.slots) (hce : cells + 1 = cells') (hse : slots + N = slots') (hdg : decode cc pc = .ok (.new index, 3)) (hn : pc + 3 = pc') (k : ∀ q, μ q = none → ∀ μ1, μ1 = ups μ q (.inl (ci, fs)) → J p l e R s m args below meth c nL G A Q cells' slots' pc' loc (.ref q :: rest) μ1) : J p l e R s m args below meth c nL G A Q cells slots pc loc rest μ := by
  subst hce; subst hse
  exact j_new X hc hin hty hcl hinst hini hfs hcells hslots hdg hn (fun q hq => k q hq _ rfl)
theorem jp_newI (X : Cx p l s m args meth c cc nL ret own G A) {n : Int32} {N : Nat} (harr : Cond.arrayClass .int ∈ wsA) (hn0 : ¬ n < 0) (hN : n.toNatClampNeg = N) (hb4 : N ≤ 1000) (hcells : cells + 1 ≤ R.cells) (hslots : slots + N ≤ R.slots) (hce : cells + 1 = cells') (hse : slots + N = slots') (hdg : decode cc pc = .ok (.newarray .int, 2)) (hn : pc + 2 = pc') (k : ∀ q, μ q = none → ∀ μ1, μ1 = ups μ q (eI N (fun _ => 0)) → J p l e R s m args below meth c nL G A Q cells' slots' pc' loc (.ref q :: rest) μ1) : J p l e R s m args below meth c nL G A Q cells slots pc loc (.int n :: rest) μ := by
  subst hce; subst hse
  exact j_newI X harr hn0 hN hb4 hcells hslots hdg hn (fun q hq => k q hq _ rfl)
theorem jp_newT (X : Cx p l s m args meth c cc nL ret own G A) {n : Int32} {N index : Nat} (hcl : Cond.classLink own index "BitNotation$Type" ∈ wsA) (hn0 : ¬ n < 0) (hN : n.toNatClampNeg = N) (hb4 : N ≤ 1000) (hcells : cells + 1 ≤ R.cells) (hslots : slots + N ≤ R.slots) (hce : cells + 1 = cells') (hse : slots + N = slots') (hdg : decode cc pc = .ok (.anewarray index, 3)) (hn : pc + 3 = pc') (k : ∀ q, μ q = none → ∀ μ1, μ1 = ups μ q (eT N (fun _ => none)) → J p l e R s m args below meth c nL G A Q cells' slots' pc' loc (.ref q :: rest) μ1) : J p l e R s m args below meth c nL G A Q cells slots pc loc (.int n :: rest) μ := by
  subst hce; subst hse
  exact j_newT X hcl hn0 hN hb4 hcells hslots hdg hn (fun q hq => k q hq _ rfl)
theorem jp_newL (X : Cx p l s m args meth c cc nL ret own G A) {n : Int32} {N : Nat} (harr : Cond.arrayClass .long ∈ wsA) (hn0 : ¬ n < 0) (hN : n.toNatClampNeg = N) (hb4 : N ≤ 1000) (hcells : cells + 1 ≤ R.cells) (hslots : slots + N ≤ R.slots) (hce : cells + 1 = cells') (hse : slots + N = slots') (hdg : decode cc pc = .ok (.newarray .long, 2)) (hn : pc + 2 = pc') (k : ∀ q, μ q = none → ∀ μ1, μ1 = ups μ q (eL N (fun _ => 0)) → J p l e R s m args below meth c nL G A Q cells' slots' pc' loc (.ref q :: rest) μ1) : J p l e R s m args below meth c nL G A Q cells slots pc loc (.int n :: rest) μ := by
  subst hce; subst hse
  exact j_newL X harr hn0 hN hb4 hcells hslots hdg hn (fun q hq => k q hq _ rfl)
theorem jp_kind {kd : Nat → Nat} (X : Cx p l s m args meth c cc nL ret own G A) (hkd : G.2.2 = kd) {index : Nat} (kk : Nat) (hkk : kk < 4) (hlink : Cond.fieldLink own index "BitNotation$Kind" (kdN kk) "LBitNotation$Kind;" ∈ wsA) (hdg : decode cc pc = .ok (.getstatic index, 3)) (hn : pc + 3 = pc') (k : J p l e R s m args below meth c nL G A Q cells slots pc' loc (.ref (kd kk) :: rest) μ) : J p l e R s m args below meth c nL G A Q cells slots pc loc rest μ := by
  subst hkd
  exact j_kind X kk hkk hlink hdg hn k
/-! the reference: one object, its numbers σ by their slots, its rows α by the slots of the fields that hold them -/
def mF (σ : Nat → Int32) (rf : Nat → Nat) : List Value := [.int (σ 0), .int (σ 1), .ref (rf 2), .ref (rf 3), .ref (rf 4), .ref (rf 5), .ref (rf 6), .ref (rf 7), .ref (rf 8), .ref (rf 9), .ref (rf 10), .ref (rf 11), .int (σ 12), .ref (rf 13), .int (σ 14), .ref (rf 15), .int (σ 16), .ref (rf 17), .int (σ 18), .ref (rf 19), .int (σ 20), .ref (rf 21), .ref (rf 22), .ref (rf 23), .ref (rf 24), .ref (rf 25), .ref (rf 26), .ref (rf 27), .int (σ 28), .int (σ 29)]
def mKs : List Nat := [2, 3, 4, 5, 6, 7, 8, 9, 10, 11, 13, 15, 17, 19, 21, 22, 23, 24, 25, 26, 27]
def mLen : Nat → Nat
  | 2 => 16
  | 3 => 16
  | 4 => 16
  | 5 => 96
  | 6 => 16
  | 7 => 48
  | 8 => 16
  | 9 => 16
  | 10 => 16
  | 11 => 16
  | 13 => 6
  | 15 => 300
  | 17 => 300
  | 19 => 300
  | 21 => 20
  | 22 => 20
  | 23 => 20
  | 24 => 20
  | 25 => 20
  | 26 => 20
  | 27 => 20
  | _ => 0
def upA (α : Nat → Nat → Int32) (k : Nat) (f : Nat → Int32) : Nat → Nat → Int32 := fun j => if j = k then f else α j
def mset (μ : Mm) (mm : Nat) (rf : Nat → Nat) (σ : Nat → Int32) (α : Nat → Nat → Int32) : Mm := fun b => if b = mm then some (.inl (6, mF σ rf)) else match mKs.find? (fun k => rf k == b) with
  | some k => some (eI (mLen k) (α k))
  | none => μ b
def MOk (mm : Nat) (rf : Nat → Nat) : Prop := (∀ k ∈ mKs, rf k ≠ mm) ∧ ∀ k ∈ mKs, ∀ j ∈ mKs, rf k = rf j → k = j
theorem mfind {mm : Nat} {rf : Nat → Nat} (h : MOk mm rf) {k : Nat} (hk : k ∈ mKs) : mKs.find? (fun j => rf j == rf k) = some k := by
  cases hf : mKs.find? (fun j => rf j == rf k) with
  | none => exact absurd (List.find?_eq_none.mp hf k hk) (by simp)
  | some j =>
    have h1 := List.find?_some hf
    have h2 := List.mem_of_find?_eq_some hf
    exact congrArg some (h.2 j h2 k hk (by simpa using h1))
theorem mset_o {mm : Nat} {rf : Nat → Nat} {σ : Nat → Int32} {α : Nat → Nat → Int32} {μ0 : Mm} : mset μ0 mm rf σ α mm = some (.inl (6, mF σ rf)) := by simp [mset]
theorem mset_a {mm : Nat} {rf : Nat → Nat} {σ : Nat → Int32} {α : Nat → Nat → Int32} {μ0 : Mm} (h : MOk mm rf) (k : Nat) (hk : k ∈ mKs) : mset μ0 mm rf σ α (rf k) = some (eI (mLen k) (α k)) := by
  simp [mset, h.1 k hk, mfind h hk]
theorem mset_po {mm : Nat} {rf : Nat → Nat} {σ σ' : Nat → Int32} {α : Nat → Nat → Int32} {μ0 : Mm} : ups (mset μ0 mm rf σ α) mm (.inl (6, mF σ' rf)) = mset μ0 mm rf σ' α := by
  funext b
  by_cases hb : b = mm
  · subst hb; simp [ups, mset]
  · simp [ups, mset, hb]
theorem mset_pa {mm : Nat} {rf : Nat → Nat} {σ : Nat → Int32} {α : Nat → Nat → Int32} {μ0 : Mm} (h : MOk mm rf) (k : Nat) (hk : k ∈ mKs) (f : Nat → Int32) : ups (mset μ0 mm rf σ α) (rf k) (eI (mLen k) f) = mset μ0 mm rf σ (upA α k f) := by
  funext b
  by_cases hb : b = rf k
  · subst hb
    rw [ups_s, mset_a h k hk]
    simp [upA]
  · rw [ups_n hb]
    by_cases hm : b = mm
    · simp [mset, hm]
    · simp only [mset, hm, if_false]
      cases hf : mKs.find? (fun j => rf j == b) with
      | none => rfl
      | some j =>
        have h1 := List.find?_some hf
        have hj : j ≠ k := fun q => hb (by rw [← q]; exact (by simpa using h1 : rf j = b).symm)
        simp [upA, hj]
def pMi (μ0 : Mm) (mm : Nat) (rf : Nat → Nat) (post : Int32 → (Nat → Int32) → (Nat → Nat → Int32) → Prop) : Int32 → Mm → Prop := fun r μ => ∃ σ α, μ = mset μ0 mm rf σ α ∧ post r σ α
def pMv (μ0 : Mm) (mm : Nat) (rf : Nat → Nat) (post : (Nat → Int32) → (Nat → Nat → Int32) → Prop) : Mm → Prop := fun μ => ∃ σ α, μ = mset μ0 mm rf σ α ∧ post σ α
theorem mF_set_0 (σ : Nat → Int32) (rf : Nat → Nat) (x : Int32) : (mF σ rf).set 0 (.int x) = mF (upd σ 0 x) rf := by simp [mF, upd]
theorem mF_set_1 (σ : Nat → Int32) (rf : Nat → Nat) (x : Int32) : (mF σ rf).set 1 (.int x) = mF (upd σ 1 x) rf := by simp [mF, upd]
theorem mF_set_12 (σ : Nat → Int32) (rf : Nat → Nat) (x : Int32) : (mF σ rf).set 12 (.int x) = mF (upd σ 12 x) rf := by simp [mF, upd]
theorem mF_set_14 (σ : Nat → Int32) (rf : Nat → Nat) (x : Int32) : (mF σ rf).set 14 (.int x) = mF (upd σ 14 x) rf := by simp [mF, upd]
theorem mF_set_16 (σ : Nat → Int32) (rf : Nat → Nat) (x : Int32) : (mF σ rf).set 16 (.int x) = mF (upd σ 16 x) rf := by simp [mF, upd]
theorem mF_set_18 (σ : Nat → Int32) (rf : Nat → Nat) (x : Int32) : (mF σ rf).set 18 (.int x) = mF (upd σ 18 x) rf := by simp [mF, upd]
theorem mF_set_20 (σ : Nat → Int32) (rf : Nat → Nat) (x : Int32) : (mF σ rf).set 20 (.int x) = mF (upd σ 20 x) rf := by simp [mF, upd]
theorem mF_set_28 (σ : Nat → Int32) (rf : Nat → Nat) (x : Int32) : (mF σ rf).set 28 (.int x) = mF (upd σ 28 x) rf := by simp [mF, upd]
theorem mF_set_29 (σ : Nat → Int32) (rf : Nat → Nat) (x : Int32) : (mF σ rf).set 29 (.int x) = mF (upd σ 29 x) rf := by simp [mF, upd]
variable {mm : Nat} {rf : Nat → Nat} {σ : Nat → Int32} {α : Nat → Nat → Int32} {μ0 : Mm}
theorem jm_putf (X : Cx p l s m args meth c cc nL ret RX7 G A) (kk : Nat) {x : Int32} (hset : (mF σ rf).set kk (.int x) = mF (upd σ kk x) rf) (hk : kk < 30) (hfin : (TX7 kk).2.2.2 = false) (hlink : Cond.fieldLink RX7 index (TX7 kk).1 (TX7 kk).2.1 (TX7 kk).2.2.1 ∈ wsA) (hd : parseFieldDescriptor (TX7 kk).2.2.1 = some .int) (hdg : decode cc pc = .ok (.putfield index, 3)) (hn : pc + 3 = pc') (k : ∀ σ1, σ1 = upd σ kk x → J p l e R s m args below meth c nL G A Q cells slots pc' loc rest (mset μ0 mm rf σ1 α)) : J p l e R s m args below meth c nL G A Q cells slots pc loc (.int x :: .ref mm :: rest) (mset μ0 mm rf σ α) := by
  refine j_putf X mset_o kk (by show kk < 30; exact hk) rfl fw_TX7 tyX7_ok nmX7 hk hfin hlink hd rfl rfl hdg hn ?_
  rw [hset, mset_po]
  exact k _ rfl
theorem jm_iast (X : Cx p l s m args meth c cc nL ret own G A) (hMO : MOk mm rf) (kk : Nat) (hk : kk ∈ mKs) {i x : Int32} (hi : vp_in i (mLen kk)) (hdg : decode cc pc = .ok (.iastore, 1)) (hn : pc + 1 = pc') (k : ∀ α1, α1 = upA α kk (upd (α kk) i.toNatClampNeg x) → J p l e R s m args below meth c nL G A Q cells slots pc' loc rest (mset μ0 mm rf σ α1)) : J p l e R s m args below meth c nL G A Q cells slots pc loc (.int x :: .int i :: .ref (rf kk) :: rest) (mset μ0 mm rf σ α) := by
  refine j_iast X (mset_a hMO kk hk) hi hdg hn ?_
  rw [mset_pa hMO kk hk]
  exact k _ rfl
end JT
theorem ii_m1 (x : Int32) : x + Int32.ofInt (-1) = x + (-1) := congrArg (fun y => x + y) (by decide)
theorem df_X1 : ∀ j, j < 4 → defaultValue (tyX1 j) = vp_V [.null, .int 0, .int 0, .int 0] j := fun j hj => match j, hj with
  | 0, _ => rfl
  | 1, _ => rfl
  | 2, _ => rfl
  | 3, _ => rfl
  | j + 4, h => absurd h (by omega)
theorem df_X2 : ∀ j, j < 2 → defaultValue (tyX2 j) = vp_V [.null, .int 0] j := fun j hj => match j, hj with
  | 0, _ => rfl
  | 1, _ => rfl
  | j + 2, h => absurd h (by omega)
theorem df_X3 : ∀ j, j < 10 → defaultValue (tyX3 j) = vp_V [.null, .int 0, .int 0, .int 0, .null, .int 0, .null, .int 0, .int 0, .int 0] j := fun j hj => match j, hj with
  | 0, _ => rfl
  | 1, _ => rfl
  | 2, _ => rfl
  | 3, _ => rfl
  | 4, _ => rfl
  | 5, _ => rfl
  | 6, _ => rfl
  | 7, _ => rfl
  | 8, _ => rfl
  | 9, _ => rfl
  | j + 10, h => absurd h (by omega)
theorem df_X4 : ∀ j, j < 2 → defaultValue (tyX4 j) = vp_V [.null, .int 0] j := fun j hj => match j, hj with
  | 0, _ => rfl
  | 1, _ => rfl
  | j + 2, h => absurd h (by omega)
theorem df_X5 : ∀ j, j < 3 → defaultValue (tyX5 j) = vp_V [.null, .int 0, .int 0] j := fun j hj => match j, hj with
  | 0, _ => rfl
  | 1, _ => rfl
  | 2, _ => rfl
  | j + 3, h => absurd h (by omega)
theorem df_X6 : ∀ j, j < 7 → defaultValue (tyX6 j) = vp_V [.null, .null, .null, .null, .null, .null, .int 0] j := fun j hj => match j, hj with
  | 0, _ => rfl
  | 1, _ => rfl
  | 2, _ => rfl
  | 3, _ => rfl
  | 4, _ => rfl
  | 5, _ => rfl
  | 6, _ => rfl
  | j + 7, h => absurd h (by omega)
theorem df_X7 : ∀ j, j < 30 → defaultValue (tyX7 j) = vp_V [.int 0, .int 0, .null, .null, .null, .null, .null, .null, .null, .null, .null, .null, .int 0, .null, .int 0, .null, .int 0, .null, .int 0, .null, .int 0, .null, .null, .null, .null, .null, .null, .null, .int 0, .int 0] j := fun j hj => match j, hj with
  | 0, _ => rfl
  | 1, _ => rfl
  | 2, _ => rfl
  | 3, _ => rfl
  | 4, _ => rfl
  | 5, _ => rfl
  | 6, _ => rfl
  | 7, _ => rfl
  | 8, _ => rfl
  | 9, _ => rfl
  | 10, _ => rfl
  | 11, _ => rfl
  | 12, _ => rfl
  | 13, _ => rfl
  | 14, _ => rfl
  | 15, _ => rfl
  | 16, _ => rfl
  | 17, _ => rfl
  | 18, _ => rfl
  | 19, _ => rfl
  | 20, _ => rfl
  | 21, _ => rfl
  | 22, _ => rfl
  | 23, _ => rfl
  | 24, _ => rfl
  | 25, _ => rfl
  | 26, _ => rfl
  | 27, _ => rfl
  | 28, _ => rfl
  | 29, _ => rfl
  | j + 30, h => absurd h (by omega)
theorem xg_0 : ∀ w ∈ (vx_atS RX6 57 "java/lang/IllegalArgumentException" ["java/lang/RuntimeException", "java/lang/Exception"]).filter goodWord, w ∈ lw_tbl := by decide +kernel
theorem xn_0 : ∀ w ∈ (vx_atS RX6 57 "java/lang/IllegalArgumentException" ["java/lang/RuntimeException", "java/lang/Exception"]).filter (fun w => !goodWord w), w ∈ Cond.castable "java/lang/IllegalArgumentException" "java/lang/IllegalArgumentException" :: dcN.map Cond.declares := by decide +kernel
theorem xk_0 : ∀ w ∈ Cond.classLink RX6 53 "java/lang/IllegalArgumentException" :: Cond.initialized "java/lang/IllegalArgumentException" :: vx_atS RX6 57 "java/lang/IllegalArgumentException" ["java/lang/RuntimeException", "java/lang/Exception"], vx_ot w = true := by decide +kernel
theorem xg_1 : ∀ w ∈ (vx_atS RX6 96 "java/lang/IllegalStateException" ["java/lang/RuntimeException", "java/lang/Exception"]).filter goodWord, w ∈ lw_tbl := by decide +kernel
theorem xn_1 : ∀ w ∈ (vx_atS RX6 96 "java/lang/IllegalStateException" ["java/lang/RuntimeException", "java/lang/Exception"]).filter (fun w => !goodWord w), w ∈ Cond.castable "java/lang/IllegalStateException" "java/lang/IllegalStateException" :: dcN.map Cond.declares := by decide +kernel
theorem xk_1 : ∀ w ∈ Cond.classLink RX6 92 "java/lang/IllegalStateException" :: Cond.initialized "java/lang/IllegalStateException" :: vx_atS RX6 96 "java/lang/IllegalStateException" ["java/lang/RuntimeException", "java/lang/Exception"], vx_ot w = true := by decide +kernel
theorem xg_2 : ∀ w ∈ (vx_atS RX6 153 "java/lang/IndexOutOfBoundsException" ["java/lang/RuntimeException", "java/lang/Exception"]).filter goodWord, w ∈ lw_tbl := by decide +kernel
theorem xn_2 : ∀ w ∈ (vx_atS RX6 153 "java/lang/IndexOutOfBoundsException" ["java/lang/RuntimeException", "java/lang/Exception"]).filter (fun w => !goodWord w), w ∈ Cond.castable "java/lang/IndexOutOfBoundsException" "java/lang/IndexOutOfBoundsException" :: dcN.map Cond.declares := by decide +kernel
theorem xk_2 : ∀ w ∈ Cond.classLink RX6 149 "java/lang/IndexOutOfBoundsException" :: Cond.initialized "java/lang/IndexOutOfBoundsException" :: vx_atS RX6 153 "java/lang/IndexOutOfBoundsException" ["java/lang/RuntimeException", "java/lang/Exception"], vx_ot w = true := by decide +kernel
theorem hd_X2_init : yX2_init.cls ≠ "java/lang/invoke/MethodHandle" ∧ yX2_init.cls ≠ "java/lang/invoke/VarHandle" ∧ (parseMethodDescriptor yX2_init.desc).map (fun d => d.parameters.length) = some 1 := ⟨by decide +kernel, by decide +kernel, by decide +kernel⟩
theorem hd_X1_init : yX1_init.cls ≠ "java/lang/invoke/MethodHandle" ∧ yX1_init.cls ≠ "java/lang/invoke/VarHandle" ∧ (parseMethodDescriptor yX1_init.desc).map (fun d => d.parameters.length) = some 0 := ⟨by decide +kernel, by decide +kernel, by decide +kernel⟩
theorem hd_X2_keepFirst : yX2_keepFirst.cls = RX2 ∧ yX2_keepFirst.cls ≠ "java/lang/invoke/MethodHandle" ∧ yX2_keepFirst.cls ≠ "java/lang/invoke/VarHandle" ∧ (parseMethodDescriptor yX2_keepFirst.desc).map (fun d => d.parameters.length) = some 1 := ⟨rfl, by decide +kernel, by decide +kernel, by decide +kernel⟩
theorem gk_X2_keepFirst {own : String} {idx : Nat} (h : Cond.methodLink own idx yX2_keepFirst ∈ wsA) : GoodIn wsA (wsV own idx RX2 yX2_keepFirst (.code yX2_keepFirst cX2_keepFirst 2 none :: wsA)) := gd_V h wt_1_138 wt_1_139 wt_1_4 wt_1_140
theorem hd_X2_has : yX2_has.cls = RX2 ∧ yX2_has.cls ≠ "java/lang/invoke/MethodHandle" ∧ yX2_has.cls ≠ "java/lang/invoke/VarHandle" ∧ (parseMethodDescriptor yX2_has.desc).map (fun d => d.parameters.length) = some 1 := ⟨rfl, by decide +kernel, by decide +kernel, by decide +kernel⟩
theorem gk_X2_has {own : String} {idx : Nat} (h : Cond.methodLink own idx yX2_has ∈ wsA) : GoodIn wsA (wsV own idx RX2 yX2_has (.code yX2_has cX2_has 2 (some .boolean) :: wsA)) := gd_V h wt_2_235 wt_2_236 wt_1_4 wt_2_237
theorem hd_X2_at : yX2_at.cls = RX2 ∧ yX2_at.cls ≠ "java/lang/invoke/MethodHandle" ∧ yX2_at.cls ≠ "java/lang/invoke/VarHandle" ∧ (parseMethodDescriptor yX2_at.desc).map (fun d => d.parameters.length) = some 1 := ⟨rfl, by decide +kernel, by decide +kernel, by decide +kernel⟩
theorem gk_X2_at {own : String} {idx : Nat} (h : Cond.methodLink own idx yX2_at ∈ wsA) : GoodIn wsA (wsV own idx RX2 yX2_at (.code yX2_at cX2_at 2 (some .int) :: wsA)) := gd_V h wt_3_0 wt_3_1 wt_1_4 wt_3_2
theorem hd_X2_size : yX2_size.cls = RX2 ∧ yX2_size.cls ≠ "java/lang/invoke/MethodHandle" ∧ yX2_size.cls ≠ "java/lang/invoke/VarHandle" ∧ (parseMethodDescriptor yX2_size.desc).map (fun d => d.parameters.length) = some 0 := ⟨rfl, by decide +kernel, by decide +kernel, by decide +kernel⟩
theorem gk_X2_size {own : String} {idx : Nat} (h : Cond.methodLink own idx yX2_size ∈ wsA) : GoodIn wsA (wsV own idx RX2 yX2_size (.code yX2_size cX2_size 1 (some .int) :: wsA)) := gd_V h wt_1_134 wt_1_135 wt_1_4 wt_1_136
theorem hd_X1_next : yX1_next.cls = RX1 ∧ yX1_next.cls ≠ "java/lang/invoke/MethodHandle" ∧ yX1_next.cls ≠ "java/lang/invoke/VarHandle" ∧ (parseMethodDescriptor yX1_next.desc).map (fun d => d.parameters.length) = some 3 := ⟨rfl, by decide +kernel, by decide +kernel, by decide +kernel⟩
theorem gk_X1_next {own : String} {idx : Nat} (h : Cond.methodLink own idx yX1_next ∈ wsA) : GoodIn wsA (wsV own idx RX1 yX1_next (.code yX1_next cX1_next 6 (some .int) :: wsA)) := gd_V h wt_3_123 wt_0_17 wt_1_6 wt_3_124
theorem hd_X2_append : yX2_append.cls = RX2 ∧ yX2_append.cls ≠ "java/lang/invoke/MethodHandle" ∧ yX2_append.cls ≠ "java/lang/invoke/VarHandle" ∧ (parseMethodDescriptor yX2_append.desc).map (fun d => d.parameters.length) = some 1 := ⟨rfl, by decide +kernel, by decide +kernel, by decide +kernel⟩
theorem gk_X2_append {own : String} {idx : Nat} (h : Cond.methodLink own idx yX2_append ∈ wsA) : GoodIn wsA (wsV own idx RX2 yX2_append (.code yX2_append cX2_append 2 none :: wsA)) := gd_V h wt_2_224 wt_2_225 wt_1_4 wt_2_226
theorem hd_X4_at : yX4_at.cls = RX4 ∧ yX4_at.cls ≠ "java/lang/invoke/MethodHandle" ∧ yX4_at.cls ≠ "java/lang/invoke/VarHandle" ∧ (parseMethodDescriptor yX4_at.desc).map (fun d => d.parameters.length) = some 1 := ⟨rfl, by decide +kernel, by decide +kernel, by decide +kernel⟩
theorem gk_X4_at {own : String} {idx : Nat} (h : Cond.methodLink own idx yX4_at ∈ wsA) : GoodIn wsA (wsV own idx RX4 yX4_at (.code yX4_at cX4_at 2 (some (.object "BitNotation$Type")) :: wsA)) := gd_V h wt_2_70 wt_2_71 wt_1_2 wt_2_72
theorem hd_X4_size : yX4_size.cls = RX4 ∧ yX4_size.cls ≠ "java/lang/invoke/MethodHandle" ∧ yX4_size.cls ≠ "java/lang/invoke/VarHandle" ∧ (parseMethodDescriptor yX4_size.desc).map (fun d => d.parameters.length) = some 0 := ⟨rfl, by decide +kernel, by decide +kernel, by decide +kernel⟩
theorem gk_X4_size {own : String} {idx : Nat} (h : Cond.methodLink own idx yX4_size ∈ wsA) : GoodIn wsA (wsV own idx RX4 yX4_size (.code yX4_size cX4_size 1 (some .int) :: wsA)) := gd_V h wt_1_126 wt_1_127 wt_1_2 wt_1_128
theorem hd_X3_isOptional : yX3_isOptional.cls = RX3 ∧ yX3_isOptional.cls ≠ "java/lang/invoke/MethodHandle" ∧ yX3_isOptional.cls ≠ "java/lang/invoke/VarHandle" ∧ (parseMethodDescriptor yX3_isOptional.desc).map (fun d => d.parameters.length) = some 1 := ⟨rfl, by decide +kernel, by decide +kernel, by decide +kernel⟩
theorem gk_X3_isOptional {own : String} {idx : Nat} (h : Cond.methodLink own idx yX3_isOptional ∈ wsA) : GoodIn wsA (wsV own idx RX3 yX3_isOptional (.code yX3_isOptional cX3_isOptional 2 (some .boolean) :: wsA)) := gd_V h wt_2_89 wt_2_90 wt_1_12 wt_2_91
theorem hd_X1_nextParts : yX1_nextParts.cls = RX1 ∧ yX1_nextParts.cls ≠ "java/lang/invoke/MethodHandle" ∧ yX1_nextParts.cls ≠ "java/lang/invoke/VarHandle" ∧ (parseMethodDescriptor yX1_nextParts.desc).map (fun d => d.parameters.length) = some 2 := ⟨rfl, by decide +kernel, by decide +kernel, by decide +kernel⟩
theorem gk_X1_nextParts {own : String} {idx : Nat} (h : Cond.methodLink own idx yX1_nextParts ∈ wsA) : GoodIn wsA (wsV own idx RX1 yX1_nextParts (.code yX1_nextParts cX1_nextParts 6 (some .int) :: wsA)) := gd_V h wt_3_129 wt_0_18 wt_1_6 wt_3_130
theorem hd_X2_replace : yX2_replace.cls = RX2 ∧ yX2_replace.cls ≠ "java/lang/invoke/MethodHandle" ∧ yX2_replace.cls ≠ "java/lang/invoke/VarHandle" ∧ (parseMethodDescriptor yX2_replace.desc).map (fun d => d.parameters.length) = some 2 := ⟨rfl, by decide +kernel, by decide +kernel, by decide +kernel⟩
theorem gk_X2_replace {own : String} {idx : Nat} (h : Cond.methodLink own idx yX2_replace ∈ wsA) : GoodIn wsA (wsV own idx RX2 yX2_replace (.code yX2_replace cX2_replace 3 none :: wsA)) := gd_V h wt_3_50 wt_3_51 wt_1_4 wt_3_52
theorem hd_X1_skip : yX1_skip.cls = RX1 ∧ yX1_skip.cls ≠ "java/lang/invoke/MethodHandle" ∧ yX1_skip.cls ≠ "java/lang/invoke/VarHandle" ∧ (parseMethodDescriptor yX1_skip.desc).map (fun d => d.parameters.length) = some 2 := ⟨rfl, by decide +kernel, by decide +kernel, by decide +kernel⟩
theorem gk_X1_skip {own : String} {idx : Nat} (h : Cond.methodLink own idx yX1_skip ∈ wsA) : GoodIn wsA (wsV own idx RX1 yX1_skip (.code yX1_skip cX1_skip 3 none :: wsA)) := gd_V h wt_3_147 wt_0_21 wt_1_6 wt_3_148
theorem hd_X1_getAddition : yX1_getAddition.cls = RX1 ∧ yX1_getAddition.cls ≠ "java/lang/invoke/MethodHandle" ∧ yX1_getAddition.cls ≠ "java/lang/invoke/VarHandle" ∧ (parseMethodDescriptor yX1_getAddition.desc).map (fun d => d.parameters.length) = some 4 := ⟨rfl, by decide +kernel, by decide +kernel, by decide +kernel⟩
theorem gk_X1_getAddition {own : String} {idx : Nat} (h : Cond.methodLink own idx yX1_getAddition ∈ wsA) : GoodIn wsA (wsV own idx RX1 yX1_getAddition (.code yX1_getAddition cX1_getAddition 6 none :: wsA)) := gd_V h wt_3_143 wt_0_20 wt_1_6 wt_3_144
theorem hd_X1_getAdditions : yX1_getAdditions.cls = RX1 ∧ yX1_getAdditions.cls ≠ "java/lang/invoke/MethodHandle" ∧ yX1_getAdditions.cls ≠ "java/lang/invoke/VarHandle" ∧ (parseMethodDescriptor yX1_getAdditions.desc).map (fun d => d.parameters.length) = some 4 := ⟨rfl, by decide +kernel, by decide +kernel, by decide +kernel⟩
theorem gk_X1_getAdditions {own : String} {idx : Nat} (h : Cond.methodLink own idx yX1_getAdditions ∈ wsA) : GoodIn wsA (wsV own idx RX1 yX1_getAdditions (.code yX1_getAdditions cX1_getAdditions 7 none :: wsA)) := gd_V h wt_3_139 wt_0_19 wt_1_6 wt_3_140
theorem hd_X1_getSequence : yX1_getSequence.cls = RX1 ∧ yX1_getSequence.cls ≠ "java/lang/invoke/MethodHandle" ∧ yX1_getSequence.cls ≠ "java/lang/invoke/VarHandle" ∧ (parseMethodDescriptor yX1_getSequence.desc).map (fun d => d.parameters.length) = some 3 := ⟨rfl, by decide +kernel, by decide +kernel, by decide +kernel⟩
theorem gk_X1_getSequence {own : String} {idx : Nat} (h : Cond.methodLink own idx yX1_getSequence ∈ wsA) : GoodIn wsA (wsV own idx RX1 yX1_getSequence (.code yX1_getSequence cX1_getSequence 8 none :: wsA)) := gd_V h wt_3_119 wt_0_16 wt_1_6 wt_3_120
theorem hd_X1_getValue : yX1_getValue.cls = RX1 ∧ yX1_getValue.cls ≠ "java/lang/invoke/MethodHandle" ∧ yX1_getValue.cls ≠ "java/lang/invoke/VarHandle" ∧ (parseMethodDescriptor yX1_getValue.desc).map (fun d => d.parameters.length) = some 3 := ⟨rfl, by decide +kernel, by decide +kernel, by decide +kernel⟩
theorem gk_X1_getValue {own : String} {idx : Nat} (h : Cond.methodLink own idx yX1_getValue ∈ wsA) : GoodIn wsA (wsV own idx RX1 yX1_getValue (.code yX1_getValue cX1_getValue 6 none :: wsA)) := gd_V h wt_3_114 wt_0_15 wt_1_6 wt_3_115
theorem hd_X1_walk : yX1_walk.cls = RX1 ∧ yX1_walk.cls ≠ "java/lang/invoke/MethodHandle" ∧ yX1_walk.cls ≠ "java/lang/invoke/VarHandle" ∧ (parseMethodDescriptor yX1_walk.desc).map (fun d => d.parameters.length) = some 3 := ⟨rfl, by decide +kernel, by decide +kernel, by decide +kernel⟩
theorem gk_X1_walk {own : String} {idx : Nat} (h : Cond.methodLink own idx yX1_walk ∈ wsA) : GoodIn wsA (wsV own idx RX1 yX1_walk (.code yX1_walk cX1_walk 4 (some .int) :: wsA)) := gd_V h wt_3_108 wt_3_109 wt_1_6 wt_3_110
theorem hd_X2_isFull : yX2_isFull.cls = RX2 ∧ yX2_isFull.cls ≠ "java/lang/invoke/MethodHandle" ∧ yX2_isFull.cls ≠ "java/lang/invoke/VarHandle" ∧ (parseMethodDescriptor yX2_isFull.desc).map (fun d => d.parameters.length) = some 0 := ⟨rfl, by decide +kernel, by decide +kernel, by decide +kernel⟩
theorem gk_X2_isFull {own : String} {idx : Nat} (h : Cond.methodLink own idx yX2_isFull ∈ wsA) : GoodIn wsA (wsV own idx RX2 yX2_isFull (.code yX2_isFull cX2_isFull 1 (some .boolean) :: wsA)) := gd_V h wt_2_219 wt_2_220 wt_1_4 wt_2_221
theorem hd_X2_becomeCopyOf : yX2_becomeCopyOf.cls = RX2 ∧ yX2_becomeCopyOf.cls ≠ "java/lang/invoke/MethodHandle" ∧ yX2_becomeCopyOf.cls ≠ "java/lang/invoke/VarHandle" ∧ (parseMethodDescriptor yX2_becomeCopyOf.desc).map (fun d => d.parameters.length) = some 1 := ⟨rfl, by decide +kernel, by decide +kernel, by decide +kernel⟩
theorem gk_X2_becomeCopyOf {own : String} {idx : Nat} (h : Cond.methodLink own idx yX2_becomeCopyOf ∈ wsA) : GoodIn wsA (wsV own idx RX2 yX2_becomeCopyOf (.code yX2_becomeCopyOf cX2_becomeCopyOf 3 none :: wsA)) := gd_V h wt_3_64 wt_3_65 wt_1_4 wt_3_66
theorem hd_X6_widthFor : yX6_widthFor.cls ≠ "java/lang/invoke/MethodHandle" ∧ yX6_widthFor.cls ≠ "java/lang/invoke/VarHandle" ∧ (parseMethodDescriptor yX6_widthFor.desc).map (fun d => d.parameters.length) = some 1 := ⟨by decide +kernel, by decide +kernel, by decide +kernel⟩
theorem gk_X6_widthFor {own : String} {idx : Nat} (h : Cond.methodLink own idx yX6_widthFor ∈ wsA) : GoodIn wsA (va_wsS own idx yX6_widthFor (.code yX6_widthFor cX6_widthFor 2 (some .int) :: wsA)) := gd_S h wt_1_238 wt_1_1 wt_1_239
theorem hd_X4_init : yX4_init.cls ≠ "java/lang/invoke/MethodHandle" ∧ yX4_init.cls ≠ "java/lang/invoke/VarHandle" ∧ (parseMethodDescriptor yX4_init.desc).map (fun d => d.parameters.length) = some 1 := ⟨by decide +kernel, by decide +kernel, by decide +kernel⟩
theorem hd_X3_init : yX3_init.cls ≠ "java/lang/invoke/MethodHandle" ∧ yX3_init.cls ≠ "java/lang/invoke/VarHandle" ∧ (parseMethodDescriptor yX3_init.desc).map (fun d => d.parameters.length) = some 5 := ⟨by decide +kernel, by decide +kernel, by decide +kernel⟩
theorem hd_X3_measureThings : yX3_measureThings.cls = RX3 ∧ yX3_measureThings.cls ≠ "java/lang/invoke/MethodHandle" ∧ yX3_measureThings.cls ≠ "java/lang/invoke/VarHandle" ∧ (parseMethodDescriptor yX3_measureThings.desc).map (fun d => d.parameters.length) = some 0 := ⟨rfl, by decide +kernel, by decide +kernel, by decide +kernel⟩
theorem gk_X3_measureThings {own : String} {idx : Nat} (h : Cond.methodLink own idx yX3_measureThings ∈ wsA) : GoodIn wsA (wsV own idx RX3 yX3_measureThings (.code yX3_measureThings cX3_measureThings 2 none :: wsA)) := gd_V h wt_2_67 wt_0_2 wt_1_12 wt_2_68
theorem hd_X3_measureChoices : yX3_measureChoices.cls = RX3 ∧ yX3_measureChoices.cls ≠ "java/lang/invoke/MethodHandle" ∧ yX3_measureChoices.cls ≠ "java/lang/invoke/VarHandle" ∧ (parseMethodDescriptor yX3_measureChoices.desc).map (fun d => d.parameters.length) = some 0 := ⟨rfl, by decide +kernel, by decide +kernel, by decide +kernel⟩
theorem gk_X3_measureChoices {own : String} {idx : Nat} (h : Cond.methodLink own idx yX3_measureChoices ∈ wsA) : GoodIn wsA (wsV own idx RX3 yX3_measureChoices (.code yX3_measureChoices cX3_measureChoices 6 none :: wsA)) := gd_V h wt_2_77 wt_0_3 wt_1_12 wt_2_78
theorem hd_X3_measureParts : yX3_measureParts.cls = RX3 ∧ yX3_measureParts.cls ≠ "java/lang/invoke/MethodHandle" ∧ yX3_measureParts.cls ≠ "java/lang/invoke/VarHandle" ∧ (parseMethodDescriptor yX3_measureParts.desc).map (fun d => d.parameters.length) = some 0 := ⟨rfl, by decide +kernel, by decide +kernel, by decide +kernel⟩
theorem gk_X3_measureParts {own : String} {idx : Nat} (h : Cond.methodLink own idx yX3_measureParts ∈ wsA) : GoodIn wsA (wsV own idx RX3 yX3_measureParts (.code yX3_measureParts cX3_measureParts 4 none :: wsA)) := gd_V h wt_2_86 wt_0_4 wt_1_12 wt_2_87
theorem hd_X3_measureAdditions : yX3_measureAdditions.cls = RX3 ∧ yX3_measureAdditions.cls ≠ "java/lang/invoke/MethodHandle" ∧ yX3_measureAdditions.cls ≠ "java/lang/invoke/VarHandle" ∧ (parseMethodDescriptor yX3_measureAdditions.desc).map (fun d => d.parameters.length) = some 0 := ⟨rfl, by decide +kernel, by decide +kernel, by decide +kernel⟩
theorem gk_X3_measureAdditions {own : String} {idx : Nat} (h : Cond.methodLink own idx yX3_measureAdditions ∈ wsA) : GoodIn wsA (wsV own idx RX3 yX3_measureAdditions (.code yX3_measureAdditions cX3_measureAdditions 3 none :: wsA)) := gd_V h wt_2_94 wt_0_5 wt_1_12 wt_2_95
theorem hd_X3_measure : yX3_measure.cls = RX3 ∧ yX3_measure.cls ≠ "java/lang/invoke/MethodHandle" ∧ yX3_measure.cls ≠ "java/lang/invoke/VarHandle" ∧ (parseMethodDescriptor yX3_measure.desc).map (fun d => d.parameters.length) = some 0 := ⟨rfl, by decide +kernel, by decide +kernel, by decide +kernel⟩
theorem gk_X3_measure {own : String} {idx : Nat} (h : Cond.methodLink own idx yX3_measure ∈ wsA) : GoodIn wsA (wsV own idx RX3 yX3_measure (.code yX3_measure cX3_measure 1 (some .boolean) :: wsA)) := gd_V h wt_2_60 wt_2_61 wt_1_12 wt_2_62
theorem hd_X4_isFull : yX4_isFull.cls = RX4 ∧ yX4_isFull.cls ≠ "java/lang/invoke/MethodHandle" ∧ yX4_isFull.cls ≠ "java/lang/invoke/VarHandle" ∧ (parseMethodDescriptor yX4_isFull.desc).map (fun d => d.parameters.length) = some 0 := ⟨rfl, by decide +kernel, by decide +kernel, by decide +kernel⟩
theorem gk_X4_isFull {own : String} {idx : Nat} (h : Cond.methodLink own idx yX4_isFull ∈ wsA) : GoodIn wsA (wsV own idx RX4 yX4_isFull (.code yX4_isFull cX4_isFull 1 (some .boolean) :: wsA)) := gd_V h wt_2_56 wt_2_57 wt_1_2 wt_2_58
theorem hd_X4_append : yX4_append.cls = RX4 ∧ yX4_append.cls ≠ "java/lang/invoke/MethodHandle" ∧ yX4_append.cls ≠ "java/lang/invoke/VarHandle" ∧ (parseMethodDescriptor yX4_append.desc).map (fun d => d.parameters.length) = some 1 := ⟨rfl, by decide +kernel, by decide +kernel, by decide +kernel⟩
theorem gk_X4_append {own : String} {idx : Nat} (h : Cond.methodLink own idx yX4_append ∈ wsA) : GoodIn wsA (wsV own idx RX4 yX4_append (.code yX4_append cX4_append 2 none :: wsA)) := gd_V h wt_2_113 wt_2_114 wt_1_2 wt_2_115
theorem hd_X4_dropLast : yX4_dropLast.cls = RX4 ∧ yX4_dropLast.cls ≠ "java/lang/invoke/MethodHandle" ∧ yX4_dropLast.cls ≠ "java/lang/invoke/VarHandle" ∧ (parseMethodDescriptor yX4_dropLast.desc).map (fun d => d.parameters.length) = some 0 := ⟨rfl, by decide +kernel, by decide +kernel, by decide +kernel⟩
theorem gk_X4_dropLast {own : String} {idx : Nat} (h : Cond.methodLink own idx yX4_dropLast ∈ wsA) : GoodIn wsA (wsV own idx RX4 yX4_dropLast (.code yX4_dropLast cX4_dropLast 1 none :: wsA)) := gd_V h wt_2_192 wt_2_193 wt_1_2 wt_2_194
theorem hd_X4_measureAll : yX4_measureAll.cls = RX4 ∧ yX4_measureAll.cls ≠ "java/lang/invoke/MethodHandle" ∧ yX4_measureAll.cls ≠ "java/lang/invoke/VarHandle" ∧ (parseMethodDescriptor yX4_measureAll.desc).map (fun d => d.parameters.length) = some 0 := ⟨rfl, by decide +kernel, by decide +kernel, by decide +kernel⟩
theorem gk_X4_measureAll {own : String} {idx : Nat} (h : Cond.methodLink own idx yX4_measureAll ∈ wsA) : GoodIn wsA (wsV own idx RX4 yX4_measureAll (.code yX4_measureAll cX4_measureAll 3 (some .boolean) :: wsA)) := gd_V h wt_2_186 wt_2_187 wt_1_2 wt_2_188
theorem hd_X5_init : yX5_init.cls ≠ "java/lang/invoke/MethodHandle" ∧ yX5_init.cls ≠ "java/lang/invoke/VarHandle" ∧ (parseMethodDescriptor yX5_init.desc).map (fun d => d.parameters.length) = some 0 := ⟨by decide +kernel, by decide +kernel, by decide +kernel⟩
theorem hd_X6_isOutside : yX6_isOutside.cls ≠ "java/lang/invoke/MethodHandle" ∧ yX6_isOutside.cls ≠ "java/lang/invoke/VarHandle" ∧ (parseMethodDescriptor yX6_isOutside.desc).map (fun d => d.parameters.length) = some 3 := ⟨by decide +kernel, by decide +kernel, by decide +kernel⟩
theorem gk_X6_isOutside {own : String} {idx : Nat} (h : Cond.methodLink own idx yX6_isOutside ∈ wsA) : GoodIn wsA (va_wsS own idx yX6_isOutside (.code yX6_isOutside cX6_isOutside 3 (some .boolean) :: wsA)) := gd_S h wt_1_159 wt_1_1 wt_1_160
theorem hd_X5_next : yX5_next.cls = RX5 ∧ yX5_next.cls ≠ "java/lang/invoke/MethodHandle" ∧ yX5_next.cls ≠ "java/lang/invoke/VarHandle" ∧ (parseMethodDescriptor yX5_next.desc).map (fun d => d.parameters.length) = some 3 := ⟨rfl, by decide +kernel, by decide +kernel, by decide +kernel⟩
theorem gk_X5_next {own : String} {idx : Nat} (h : Cond.methodLink own idx yX5_next ∈ wsA) : GoodIn wsA (wsV own idx RX5 yX5_next (.code yX5_next cX5_next 5 (some .int) :: wsA)) := gd_V h wt_3_33 wt_0_11 wt_1_5 wt_3_34
theorem hd_X5_put : yX5_put.cls = RX5 ∧ yX5_put.cls ≠ "java/lang/invoke/MethodHandle" ∧ yX5_put.cls ≠ "java/lang/invoke/VarHandle" ∧ (parseMethodDescriptor yX5_put.desc).map (fun d => d.parameters.length) = some 2 := ⟨rfl, by decide +kernel, by decide +kernel, by decide +kernel⟩
theorem gk_X5_put {own : String} {idx : Nat} (h : Cond.methodLink own idx yX5_put ∈ wsA) : GoodIn wsA (wsV own idx RX5 yX5_put (.code yX5_put cX5_put 4 none :: wsA)) := gd_V h wt_3_40 wt_0_12 wt_1_5 wt_3_41
theorem hd_X5_nextParts : yX5_nextParts.cls = RX5 ∧ yX5_nextParts.cls ≠ "java/lang/invoke/MethodHandle" ∧ yX5_nextParts.cls ≠ "java/lang/invoke/VarHandle" ∧ (parseMethodDescriptor yX5_nextParts.desc).map (fun d => d.parameters.length) = some 2 := ⟨rfl, by decide +kernel, by decide +kernel, by decide +kernel⟩
theorem gk_X5_nextParts {own : String} {idx : Nat} (h : Cond.methodLink own idx yX5_nextParts ∈ wsA) : GoodIn wsA (wsV own idx RX5 yX5_nextParts (.code yX5_nextParts cX5_nextParts 5 (some .int) :: wsA)) := gd_V h wt_3_27 wt_0_10 wt_1_5 wt_3_28
theorem hd_X5_putAddition : yX5_putAddition.cls = RX5 ∧ yX5_putAddition.cls ≠ "java/lang/invoke/MethodHandle" ∧ yX5_putAddition.cls ≠ "java/lang/invoke/VarHandle" ∧ (parseMethodDescriptor yX5_putAddition.desc).map (fun d => d.parameters.length) = some 3 := ⟨rfl, by decide +kernel, by decide +kernel, by decide +kernel⟩
theorem gk_X5_putAddition {own : String} {idx : Nat} (h : Cond.methodLink own idx yX5_putAddition ∈ wsA) : GoodIn wsA (wsV own idx RX5 yX5_putAddition (.code yX5_putAddition cX5_putAddition 8 none :: wsA)) := gd_V h wt_3_46 wt_0_13 wt_1_5 wt_3_47
theorem hd_X5_putSequence : yX5_putSequence.cls = RX5 ∧ yX5_putSequence.cls ≠ "java/lang/invoke/MethodHandle" ∧ yX5_putSequence.cls ≠ "java/lang/invoke/VarHandle" ∧ (parseMethodDescriptor yX5_putSequence.desc).map (fun d => d.parameters.length) = some 3 := ⟨rfl, by decide +kernel, by decide +kernel, by decide +kernel⟩
theorem gk_X5_putSequence {own : String} {idx : Nat} (h : Cond.methodLink own idx yX5_putSequence ∈ wsA) : GoodIn wsA (wsV own idx RX5 yX5_putSequence (.code yX5_putSequence cX5_putSequence 7 none :: wsA)) := gd_V h wt_3_23 wt_0_9 wt_1_5 wt_3_24
theorem hd_X5_putValue : yX5_putValue.cls = RX5 ∧ yX5_putValue.cls ≠ "java/lang/invoke/MethodHandle" ∧ yX5_putValue.cls ≠ "java/lang/invoke/VarHandle" ∧ (parseMethodDescriptor yX5_putValue.desc).map (fun d => d.parameters.length) = some 3 := ⟨rfl, by decide +kernel, by decide +kernel, by decide +kernel⟩
theorem gk_X5_putValue {own : String} {idx : Nat} (h : Cond.methodLink own idx yX5_putValue ∈ wsA) : GoodIn wsA (wsV own idx RX5 yX5_putValue (.code yX5_putValue cX5_putValue 6 none :: wsA)) := gd_V h wt_3_18 wt_0_8 wt_1_5 wt_3_19
theorem hd_X5_walk : yX5_walk.cls = RX5 ∧ yX5_walk.cls ≠ "java/lang/invoke/MethodHandle" ∧ yX5_walk.cls ≠ "java/lang/invoke/VarHandle" ∧ (parseMethodDescriptor yX5_walk.desc).map (fun d => d.parameters.length) = some 2 := ⟨rfl, by decide +kernel, by decide +kernel, by decide +kernel⟩
theorem gk_X5_walk {own : String} {idx : Nat} (h : Cond.methodLink own idx yX5_walk ∈ wsA) : GoodIn wsA (wsV own idx RX5 yX5_walk (.code yX5_walk cX5_walk 3 (some .int) :: wsA)) := gd_V h wt_3_12 wt_3_13 wt_1_5 wt_3_14
theorem hd_X6_init : yX6_init.cls ≠ "java/lang/invoke/MethodHandle" ∧ yX6_init.cls ≠ "java/lang/invoke/VarHandle" ∧ (parseMethodDescriptor yX6_init.desc).map (fun d => d.parameters.length) = some 0 := ⟨by decide +kernel, by decide +kernel, by decide +kernel⟩
theorem hd_X6_keep : yX6_keep.cls = RX6 ∧ yX6_keep.cls ≠ "java/lang/invoke/MethodHandle" ∧ yX6_keep.cls ≠ "java/lang/invoke/VarHandle" ∧ (parseMethodDescriptor yX6_keep.desc).map (fun d => d.parameters.length) = some 1 := ⟨rfl, by decide +kernel, by decide +kernel, by decide +kernel⟩
theorem gk_X6_keep {own : String} {idx : Nat} (h : Cond.methodLink own idx yX6_keep ∈ wsA) : GoodIn wsA (wsV own idx RX6 yX6_keep (.code yX6_keep cX6_keep 2 (some .int) :: wsA)) := gd_V h wt_2_53 wt_0_1 wt_1_1 wt_2_54
theorem hd_X6_addNumber : yX6_addNumber.cls = RX6 ∧ yX6_addNumber.cls ≠ "java/lang/invoke/MethodHandle" ∧ yX6_addNumber.cls ≠ "java/lang/invoke/VarHandle" ∧ (parseMethodDescriptor yX6_addNumber.desc).map (fun d => d.parameters.length) = some 2 := ⟨rfl, by decide +kernel, by decide +kernel, by decide +kernel⟩
theorem gk_X6_addNumber {own : String} {idx : Nat} (h : Cond.methodLink own idx yX6_addNumber ∈ wsA) : GoodIn wsA (wsV own idx RX6 yX6_addNumber (.code yX6_addNumber cX6_addNumber 3 (some .int) :: wsA)) := gd_V h wt_1_155 wt_1_156 wt_1_1 wt_1_157
theorem hd_X6_typeNumbered : yX6_typeNumbered.cls = RX6 ∧ yX6_typeNumbered.cls ≠ "java/lang/invoke/MethodHandle" ∧ yX6_typeNumbered.cls ≠ "java/lang/invoke/VarHandle" ∧ (parseMethodDescriptor yX6_typeNumbered.desc).map (fun d => d.parameters.length) = some 1 := ⟨rfl, by decide +kernel, by decide +kernel, by decide +kernel⟩
theorem gk_X6_typeNumbered {own : String} {idx : Nat} (h : Cond.methodLink own idx yX6_typeNumbered ∈ wsA) : GoodIn wsA (wsV own idx RX6 yX6_typeNumbered (.code yX6_typeNumbered cX6_typeNumbered 3 (some (.object "BitNotation$Type")) :: wsA)) := gd_V h wt_2_126 wt_0_6 wt_1_1 wt_2_127
theorem hd_X6_addList : yX6_addList.cls = RX6 ∧ yX6_addList.cls ≠ "java/lang/invoke/MethodHandle" ∧ yX6_addList.cls ≠ "java/lang/invoke/VarHandle" ∧ (parseMethodDescriptor yX6_addList.desc).map (fun d => d.parameters.length) = some 3 := ⟨rfl, by decide +kernel, by decide +kernel, by decide +kernel⟩
theorem gk_X6_addList {own : String} {idx : Nat} (h : Cond.methodLink own idx yX6_addList ∈ wsA) : GoodIn wsA (wsV own idx RX6 yX6_addList (.code yX6_addList cX6_addList 6 (some .int) :: wsA)) := gd_V h wt_2_121 wt_2_122 wt_1_1 wt_2_123
theorem hd_X6_part : yX6_part.cls = RX6 ∧ yX6_part.cls ≠ "java/lang/invoke/MethodHandle" ∧ yX6_part.cls ≠ "java/lang/invoke/VarHandle" ∧ (parseMethodDescriptor yX6_part.desc).map (fun d => d.parameters.length) = some 2 := ⟨rfl, by decide +kernel, by decide +kernel, by decide +kernel⟩
theorem gk_X6_part {own : String} {idx : Nat} (h : Cond.methodLink own idx yX6_part ∈ wsA) : GoodIn wsA (wsV own idx RX6 yX6_part (.code yX6_part cX6_part 4 (some .int) :: wsA)) := gd_V h wt_2_151 wt_2_152 wt_1_1 wt_2_153
theorem hd_X6_keepDraft : yX6_keepDraft.cls = RX6 ∧ yX6_keepDraft.cls ≠ "java/lang/invoke/MethodHandle" ∧ yX6_keepDraft.cls ≠ "java/lang/invoke/VarHandle" ∧ (parseMethodDescriptor yX6_keepDraft.desc).map (fun d => d.parameters.length) = some 1 := ⟨rfl, by decide +kernel, by decide +kernel, by decide +kernel⟩
theorem gk_X6_keepDraft {own : String} {idx : Nat} (h : Cond.methodLink own idx yX6_keepDraft ∈ wsA) : GoodIn wsA (wsV own idx RX6 yX6_keepDraft (.code yX6_keepDraft cX6_keepDraft 3 (some .int) :: wsA)) := gd_V h wt_2_165 wt_0_7 wt_1_1 wt_2_166
theorem hd_X6_addSequence : yX6_addSequence.cls = RX6 ∧ yX6_addSequence.cls ≠ "java/lang/invoke/MethodHandle" ∧ yX6_addSequence.cls ≠ "java/lang/invoke/VarHandle" ∧ (parseMethodDescriptor yX6_addSequence.desc).map (fun d => d.parameters.length) = some 0 := ⟨rfl, by decide +kernel, by decide +kernel, by decide +kernel⟩
theorem gk_X6_addSequence {own : String} {idx : Nat} (h : Cond.methodLink own idx yX6_addSequence ∈ wsA) : GoodIn wsA (wsV own idx RX6 yX6_addSequence (.code yX6_addSequence cX6_addSequence 1 (some .int) :: wsA)) := gd_V h wt_2_159 wt_2_160 wt_1_1 wt_2_161
theorem hd_X6_addChoice : yX6_addChoice.cls = RX6 ∧ yX6_addChoice.cls ≠ "java/lang/invoke/MethodHandle" ∧ yX6_addChoice.cls ≠ "java/lang/invoke/VarHandle" ∧ (parseMethodDescriptor yX6_addChoice.desc).map (fun d => d.parameters.length) = some 0 := ⟨rfl, by decide +kernel, by decide +kernel, by decide +kernel⟩
theorem gk_X6_addChoice {own : String} {idx : Nat} (h : Cond.methodLink own idx yX6_addChoice ∈ wsA) : GoodIn wsA (wsV own idx RX6 yX6_addChoice (.code yX6_addChoice cX6_addChoice 1 (some .int) :: wsA)) := gd_V h wt_2_172 wt_2_173 wt_1_1 wt_2_174
theorem hd_X6_extend : yX6_extend.cls = RX6 ∧ yX6_extend.cls ≠ "java/lang/invoke/MethodHandle" ∧ yX6_extend.cls ≠ "java/lang/invoke/VarHandle" ∧ (parseMethodDescriptor yX6_extend.desc).map (fun d => d.parameters.length) = some 2 := ⟨rfl, by decide +kernel, by decide +kernel, by decide +kernel⟩
theorem gk_X6_extend {own : String} {idx : Nat} (h : Cond.methodLink own idx yX6_extend ∈ wsA) : GoodIn wsA (wsV own idx RX6 yX6_extend (.code yX6_extend cX6_extend 5 (some .int) :: wsA)) := gd_V h wt_2_180 wt_2_181 wt_1_1 wt_2_182
theorem hd_X6_types : yX6_types.cls = RX6 ∧ yX6_types.cls ≠ "java/lang/invoke/MethodHandle" ∧ yX6_types.cls ≠ "java/lang/invoke/VarHandle" ∧ (parseMethodDescriptor yX6_types.desc).map (fun d => d.parameters.length) = some 0 := ⟨rfl, by decide +kernel, by decide +kernel, by decide +kernel⟩
theorem gk_X6_types {own : String} {idx : Nat} (h : Cond.methodLink own idx yX6_types ∈ wsA) : GoodIn wsA (wsV own idx RX6 yX6_types (.code yX6_types cX6_types 1 (some .int) :: wsA)) := gd_V h wt_1_122 wt_1_123 wt_1_1 wt_1_124
theorem hd_X6_leastBits : yX6_leastBits.cls = RX6 ∧ yX6_leastBits.cls ≠ "java/lang/invoke/MethodHandle" ∧ yX6_leastBits.cls ≠ "java/lang/invoke/VarHandle" ∧ (parseMethodDescriptor yX6_leastBits.desc).map (fun d => d.parameters.length) = some 1 := ⟨rfl, by decide +kernel, by decide +kernel, by decide +kernel⟩
theorem gk_X6_leastBits {own : String} {idx : Nat} (h : Cond.methodLink own idx yX6_leastBits ∈ wsA) : GoodIn wsA (wsV own idx RX6 yX6_leastBits (.code yX6_leastBits cX6_leastBits 2 (some .int) :: wsA)) := gd_V h wt_2_200 wt_2_201 wt_1_1 wt_2_202
theorem hd_X6_mostBits : yX6_mostBits.cls = RX6 ∧ yX6_mostBits.cls ≠ "java/lang/invoke/MethodHandle" ∧ yX6_mostBits.cls ≠ "java/lang/invoke/VarHandle" ∧ (parseMethodDescriptor yX6_mostBits.desc).map (fun d => d.parameters.length) = some 1 := ⟨rfl, by decide +kernel, by decide +kernel, by decide +kernel⟩
theorem gk_X6_mostBits {own : String} {idx : Nat} (h : Cond.methodLink own idx yX6_mostBits ∈ wsA) : GoodIn wsA (wsV own idx RX6 yX6_mostBits (.code yX6_mostBits cX6_mostBits 2 (some .int) :: wsA)) := gd_V h wt_2_207 wt_2_208 wt_1_1 wt_2_209
theorem hd_X6_tell : yX6_tell.cls = RX6 ∧ yX6_tell.cls ≠ "java/lang/invoke/MethodHandle" ∧ yX6_tell.cls ≠ "java/lang/invoke/VarHandle" ∧ (parseMethodDescriptor yX6_tell.desc).map (fun d => d.parameters.length) = some 1 := ⟨rfl, by decide +kernel, by decide +kernel, by decide +kernel⟩
theorem gk_X6_tell {own : String} {idx : Nat} (h : Cond.methodLink own idx yX6_tell ∈ wsA) : GoodIn wsA (wsV own idx RX6 yX6_tell (.code yX6_tell cX6_tell 2 (some .int) :: wsA)) := gd_V h wt_2_214 wt_2_215 wt_1_1 wt_2_216
theorem hd_X6_forget : yX6_forget.cls = RX6 ∧ yX6_forget.cls ≠ "java/lang/invoke/MethodHandle" ∧ yX6_forget.cls ≠ "java/lang/invoke/VarHandle" ∧ (parseMethodDescriptor yX6_forget.desc).map (fun d => d.parameters.length) = some 0 := ⟨rfl, by decide +kernel, by decide +kernel, by decide +kernel⟩
theorem gk_X6_forget {own : String} {idx : Nat} (h : Cond.methodLink own idx yX6_forget ∈ wsA) : GoodIn wsA (wsV own idx RX6 yX6_forget (.code yX6_forget cX6_forget 2 (some .int) :: wsA)) := gd_V h wt_1_130 wt_1_131 wt_1_1 wt_1_132
theorem hd_X6_length : yX6_length.cls = RX6 ∧ yX6_length.cls ≠ "java/lang/invoke/MethodHandle" ∧ yX6_length.cls ≠ "java/lang/invoke/VarHandle" ∧ (parseMethodDescriptor yX6_length.desc).map (fun d => d.parameters.length) = some 0 := ⟨rfl, by decide +kernel, by decide +kernel, by decide +kernel⟩
theorem gk_X6_length {own : String} {idx : Nat} (h : Cond.methodLink own idx yX6_length ∈ wsA) : GoodIn wsA (wsV own idx RX6 yX6_length (.code yX6_length cX6_length 1 (some .int) :: wsA)) := gd_V h wt_1_142 wt_1_143 wt_1_1 wt_1_144
theorem hd_X6_told : yX6_told.cls = RX6 ∧ yX6_told.cls ≠ "java/lang/invoke/MethodHandle" ∧ yX6_told.cls ≠ "java/lang/invoke/VarHandle" ∧ (parseMethodDescriptor yX6_told.desc).map (fun d => d.parameters.length) = some 1 := ⟨rfl, by decide +kernel, by decide +kernel, by decide +kernel⟩
theorem gk_X6_told {own : String} {idx : Nat} (h : Cond.methodLink own idx yX6_told ∈ wsA) : GoodIn wsA (wsV own idx RX6 yX6_told (.code yX6_told cX6_told 2 (some .int) :: wsA)) := gd_V h wt_2_231 wt_2_232 wt_1_1 wt_2_233
theorem hd_X6_wrongAt : yX6_wrongAt.cls = RX6 ∧ yX6_wrongAt.cls ≠ "java/lang/invoke/MethodHandle" ∧ yX6_wrongAt.cls ≠ "java/lang/invoke/VarHandle" ∧ (parseMethodDescriptor yX6_wrongAt.desc).map (fun d => d.parameters.length) = some 1 := ⟨rfl, by decide +kernel, by decide +kernel, by decide +kernel⟩
theorem gk_X6_wrongAt {own : String} {idx : Nat} (h : Cond.methodLink own idx yX6_wrongAt ∈ wsA) : GoodIn wsA (wsV own idx RX6 yX6_wrongAt (.code yX6_wrongAt cX6_wrongAt 2 (some .int) :: wsA)) := gd_V h wt_3_8 wt_3_9 wt_1_1 wt_3_10
theorem hd_X6_write : yX6_write.cls = RX6 ∧ yX6_write.cls ≠ "java/lang/invoke/MethodHandle" ∧ yX6_write.cls ≠ "java/lang/invoke/VarHandle" ∧ (parseMethodDescriptor yX6_write.desc).map (fun d => d.parameters.length) = some 1 := ⟨rfl, by decide +kernel, by decide +kernel, by decide +kernel⟩
theorem gk_X6_write {own : String} {idx : Nat} (h : Cond.methodLink own idx yX6_write ∈ wsA) : GoodIn wsA (wsV own idx RX6 yX6_write (.code yX6_write cX6_write 2 (some .int) :: wsA)) := gd_V h wt_3_59 wt_3_60 wt_1_1 wt_3_61
theorem hd_X6_bits : yX6_bits.cls = RX6 ∧ yX6_bits.cls ≠ "java/lang/invoke/MethodHandle" ∧ yX6_bits.cls ≠ "java/lang/invoke/VarHandle" ∧ (parseMethodDescriptor yX6_bits.desc).map (fun d => d.parameters.length) = some 0 := ⟨rfl, by decide +kernel, by decide +kernel, by decide +kernel⟩
theorem gk_X6_bits {own : String} {idx : Nat} (h : Cond.methodLink own idx yX6_bits ∈ wsA) : GoodIn wsA (wsV own idx RX6 yX6_bits (.code yX6_bits cX6_bits 1 (some .int) :: wsA)) := gd_V h wt_1_146 wt_1_147 wt_1_1 wt_1_148
theorem hd_X6_bit : yX6_bit.cls = RX6 ∧ yX6_bit.cls ≠ "java/lang/invoke/MethodHandle" ∧ yX6_bit.cls ≠ "java/lang/invoke/VarHandle" ∧ (parseMethodDescriptor yX6_bit.desc).map (fun d => d.parameters.length) = some 1 := ⟨rfl, by decide +kernel, by decide +kernel, by decide +kernel⟩
theorem gk_X6_bit {own : String} {idx : Nat} (h : Cond.methodLink own idx yX6_bit ∈ wsA) : GoodIn wsA (wsV own idx RX6 yX6_bit (.code yX6_bit cX6_bit 2 (some .int) :: wsA)) := gd_V h wt_3_75 wt_3_76 wt_1_1 wt_3_77
theorem hd_X6_flip : yX6_flip.cls = RX6 ∧ yX6_flip.cls ≠ "java/lang/invoke/MethodHandle" ∧ yX6_flip.cls ≠ "java/lang/invoke/VarHandle" ∧ (parseMethodDescriptor yX6_flip.desc).map (fun d => d.parameters.length) = some 1 := ⟨rfl, by decide +kernel, by decide +kernel, by decide +kernel⟩
theorem gk_X6_flip {own : String} {idx : Nat} (h : Cond.methodLink own idx yX6_flip ∈ wsA) : GoodIn wsA (wsV own idx RX6 yX6_flip (.code yX6_flip cX6_flip 2 (some .int) :: wsA)) := gd_V h wt_3_83 wt_3_84 wt_1_1 wt_3_85
theorem hd_X6_cut : yX6_cut.cls = RX6 ∧ yX6_cut.cls ≠ "java/lang/invoke/MethodHandle" ∧ yX6_cut.cls ≠ "java/lang/invoke/VarHandle" ∧ (parseMethodDescriptor yX6_cut.desc).map (fun d => d.parameters.length) = some 1 := ⟨rfl, by decide +kernel, by decide +kernel, by decide +kernel⟩
theorem gk_X6_cut {own : String} {idx : Nat} (h : Cond.methodLink own idx yX6_cut ∈ wsA) : GoodIn wsA (wsV own idx RX6 yX6_cut (.code yX6_cut cX6_cut 3 (some .int) :: wsA)) := gd_V h wt_3_91 wt_3_92 wt_1_1 wt_3_93
theorem hd_X6_placeOfFault : yX6_placeOfFault.cls = RX6 ∧ yX6_placeOfFault.cls ≠ "java/lang/invoke/MethodHandle" ∧ yX6_placeOfFault.cls ≠ "java/lang/invoke/VarHandle" ∧ (parseMethodDescriptor yX6_placeOfFault.desc).map (fun d => d.parameters.length) = some 2 := ⟨rfl, by decide +kernel, by decide +kernel, by decide +kernel⟩
theorem gk_X6_placeOfFault {own : String} {idx : Nat} (h : Cond.methodLink own idx yX6_placeOfFault ∈ wsA) : GoodIn wsA (wsV own idx RX6 yX6_placeOfFault (.code yX6_placeOfFault cX6_placeOfFault 4 (some .int) :: wsA)) := gd_V h wt_3_104 wt_0_14 wt_1_1 wt_3_105
theorem hd_X6_read : yX6_read.cls = RX6 ∧ yX6_read.cls ≠ "java/lang/invoke/MethodHandle" ∧ yX6_read.cls ≠ "java/lang/invoke/VarHandle" ∧ (parseMethodDescriptor yX6_read.desc).map (fun d => d.parameters.length) = some 2 := ⟨rfl, by decide +kernel, by decide +kernel, by decide +kernel⟩
theorem gk_X6_read {own : String} {idx : Nat} (h : Cond.methodLink own idx yX6_read ∈ wsA) : GoodIn wsA (wsV own idx RX6 yX6_read (.code yX6_read cX6_read 3 (some .int) :: wsA)) := gd_V h wt_3_99 wt_3_100 wt_1_1 wt_3_101
theorem hd_X6_faultAt : yX6_faultAt.cls = RX6 ∧ yX6_faultAt.cls ≠ "java/lang/invoke/MethodHandle" ∧ yX6_faultAt.cls ≠ "java/lang/invoke/VarHandle" ∧ (parseMethodDescriptor yX6_faultAt.desc).map (fun d => d.parameters.length) = some 2 := ⟨rfl, by decide +kernel, by decide +kernel, by decide +kernel⟩
theorem gk_X6_faultAt {own : String} {idx : Nat} (h : Cond.methodLink own idx yX6_faultAt ∈ wsA) : GoodIn wsA (wsV own idx RX6 yX6_faultAt (.code yX6_faultAt cX6_faultAt 3 (some .int) :: wsA)) := gd_V h wt_3_156 wt_3_157 wt_1_1 wt_3_158
theorem hd_X7_init : yX7_init.cls ≠ "java/lang/invoke/MethodHandle" ∧ yX7_init.cls ≠ "java/lang/invoke/VarHandle" ∧ (parseMethodDescriptor yX7_init.desc).map (fun d => d.parameters.length) = some 0 := ⟨by decide +kernel, by decide +kernel, by decide +kernel⟩
theorem hd_X7_thrown : yX7_thrown.cls = RX7 ∧ yX7_thrown.cls ≠ "java/lang/invoke/MethodHandle" ∧ yX7_thrown.cls ≠ "java/lang/invoke/VarHandle" ∧ (parseMethodDescriptor yX7_thrown.desc).map (fun d => d.parameters.length) = some 0 := ⟨rfl, by decide +kernel, by decide +kernel, by decide +kernel⟩
theorem gk_X7_thrown {own : String} {idx : Nat} (h : Cond.methodLink own idx yX7_thrown ∈ wsA) : GoodIn wsA (wsV own idx RX7 yX7_thrown (.code yX7_thrown cX7_thrown 1 (some .int) :: wsA)) := gd_V h wt_4_17 wt_4_18 wt_1_7 wt_4_19
theorem hd_X7_refused : yX7_refused.cls = RX7 ∧ yX7_refused.cls ≠ "java/lang/invoke/MethodHandle" ∧ yX7_refused.cls ≠ "java/lang/invoke/VarHandle" ∧ (parseMethodDescriptor yX7_refused.desc).map (fun d => d.parameters.length) = some 1 := ⟨rfl, by decide +kernel, by decide +kernel, by decide +kernel⟩
theorem gk_X7_refused {own : String} {idx : Nat} (h : Cond.methodLink own idx yX7_refused ∈ wsA) : GoodIn wsA (wsV own idx RX7 yX7_refused (.code yX7_refused cX7_refused 2 (some .boolean) :: wsA)) := gd_V h wt_4_29 wt_0_22 wt_1_7 wt_4_30
theorem hd_X7_fine : yX7_fine.cls = RX7 ∧ yX7_fine.cls ≠ "java/lang/invoke/MethodHandle" ∧ yX7_fine.cls ≠ "java/lang/invoke/VarHandle" ∧ (parseMethodDescriptor yX7_fine.desc).map (fun d => d.parameters.length) = some 1 := ⟨rfl, by decide +kernel, by decide +kernel, by decide +kernel⟩
theorem gk_X7_fine {own : String} {idx : Nat} (h : Cond.methodLink own idx yX7_fine ∈ wsA) : GoodIn wsA (wsV own idx RX7 yX7_fine (.code yX7_fine cX7_fine 2 (some .int) :: wsA)) := gd_V h wt_4_104 wt_0_34 wt_1_7 wt_4_105
theorem hd_X7_in : yX7_in.cls ≠ "java/lang/invoke/MethodHandle" ∧ yX7_in.cls ≠ "java/lang/invoke/VarHandle" ∧ (parseMethodDescriptor yX7_in.desc).map (fun d => d.parameters.length) = some 3 := ⟨by decide +kernel, by decide +kernel, by decide +kernel⟩
theorem gk_X7_in {own : String} {idx : Nat} (h : Cond.methodLink own idx yX7_in ∈ wsA) : GoodIn wsA (va_wsS own idx yX7_in (.code yX7_in cX7_in 3 (some .boolean) :: wsA)) := gd_S h wt_4_25 wt_1_7 wt_4_26
theorem hd_X7_isType : yX7_isType.cls = RX7 ∧ yX7_isType.cls ≠ "java/lang/invoke/MethodHandle" ∧ yX7_isType.cls ≠ "java/lang/invoke/VarHandle" ∧ (parseMethodDescriptor yX7_isType.desc).map (fun d => d.parameters.length) = some 1 := ⟨rfl, by decide +kernel, by decide +kernel, by decide +kernel⟩
theorem gk_X7_isType {own : String} {idx : Nat} (h : Cond.methodLink own idx yX7_isType ∈ wsA) : GoodIn wsA (wsV own idx RX7 yX7_isType (.code yX7_isType cX7_isType 2 (some .boolean) :: wsA)) := gd_V h wt_4_72 wt_0_31 wt_1_7 wt_4_73
theorem hd_X7_width : yX7_width.cls ≠ "java/lang/invoke/MethodHandle" ∧ yX7_width.cls ≠ "java/lang/invoke/VarHandle" ∧ (parseMethodDescriptor yX7_width.desc).map (fun d => d.parameters.length) = some 1 := ⟨by decide +kernel, by decide +kernel, by decide +kernel⟩
theorem gk_X7_width {own : String} {idx : Nat} (h : Cond.methodLink own idx yX7_width ∈ wsA) : GoodIn wsA (va_wsS own idx yX7_width (.code yX7_width cX7_width 2 (some .int) :: wsA)) := gd_S h wt_4_64 wt_1_7 wt_4_65
theorem hd_X7_widthOf : yX7_widthOf.cls = RX7 ∧ yX7_widthOf.cls ≠ "java/lang/invoke/MethodHandle" ∧ yX7_widthOf.cls ≠ "java/lang/invoke/VarHandle" ∧ (parseMethodDescriptor yX7_widthOf.desc).map (fun d => d.parameters.length) = some 1 := ⟨rfl, by decide +kernel, by decide +kernel, by decide +kernel⟩
theorem gk_X7_widthOf {own : String} {idx : Nat} (h : Cond.methodLink own idx yX7_widthOf ∈ wsA) : GoodIn wsA (wsV own idx RX7 yX7_widthOf (.code yX7_widthOf cX7_widthOf 2 (some .int) :: wsA)) := gd_V h wt_4_61 wt_0_30 wt_1_7 wt_4_62
theorem hd_X7_partOf : yX7_partOf.cls = RX7 ∧ yX7_partOf.cls ≠ "java/lang/invoke/MethodHandle" ∧ yX7_partOf.cls ≠ "java/lang/invoke/VarHandle" ∧ (parseMethodDescriptor yX7_partOf.desc).map (fun d => d.parameters.length) = some 2 := ⟨rfl, by decide +kernel, by decide +kernel, by decide +kernel⟩
theorem gk_X7_partOf {own : String} {idx : Nat} (h : Cond.methodLink own idx yX7_partOf ∈ wsA) : GoodIn wsA (wsV own idx RX7 yX7_partOf (.code yX7_partOf cX7_partOf 3 (some .int) :: wsA)) := gd_V h wt_4_53 wt_0_28 wt_1_7 wt_4_54
theorem hd_X7_isOptional : yX7_isOptional.cls = RX7 ∧ yX7_isOptional.cls ≠ "java/lang/invoke/MethodHandle" ∧ yX7_isOptional.cls ≠ "java/lang/invoke/VarHandle" ∧ (parseMethodDescriptor yX7_isOptional.desc).map (fun d => d.parameters.length) = some 2 := ⟨rfl, by decide +kernel, by decide +kernel, by decide +kernel⟩
theorem gk_X7_isOptional {own : String} {idx : Nat} (h : Cond.methodLink own idx yX7_isOptional ∈ wsA) : GoodIn wsA (wsV own idx RX7 yX7_isOptional (.code yX7_isOptional cX7_isOptional 3 (some .boolean) :: wsA)) := gd_V h wt_4_49 wt_0_27 wt_1_7 wt_4_50
theorem hd_X7_optionals : yX7_optionals.cls = RX7 ∧ yX7_optionals.cls ≠ "java/lang/invoke/MethodHandle" ∧ yX7_optionals.cls ≠ "java/lang/invoke/VarHandle" ∧ (parseMethodDescriptor yX7_optionals.desc).map (fun d => d.parameters.length) = some 1 := ⟨rfl, by decide +kernel, by decide +kernel, by decide +kernel⟩
theorem gk_X7_optionals {own : String} {idx : Nat} (h : Cond.methodLink own idx yX7_optionals ∈ wsA) : GoodIn wsA (wsV own idx RX7 yX7_optionals (.code yX7_optionals cX7_optionals 4 (some .int) :: wsA)) := gd_V h wt_4_45 wt_0_26 wt_1_7 wt_4_46
theorem hd_X7_measureSequence : yX7_measureSequence.cls = RX7 ∧ yX7_measureSequence.cls ≠ "java/lang/invoke/MethodHandle" ∧ yX7_measureSequence.cls ≠ "java/lang/invoke/VarHandle" ∧ (parseMethodDescriptor yX7_measureSequence.desc).map (fun d => d.parameters.length) = some 1 := ⟨rfl, by decide +kernel, by decide +kernel, by decide +kernel⟩
theorem gk_X7_measureSequence {own : String} {idx : Nat} (h : Cond.methodLink own idx yX7_measureSequence ∈ wsA) : GoodIn wsA (wsV own idx RX7 yX7_measureSequence (.code yX7_measureSequence cX7_measureSequence 5 none :: wsA)) := gd_V h wt_4_41 wt_0_25 wt_1_7 wt_4_42
theorem hd_X7_measureChoice : yX7_measureChoice.cls = RX7 ∧ yX7_measureChoice.cls ≠ "java/lang/invoke/MethodHandle" ∧ yX7_measureChoice.cls ≠ "java/lang/invoke/VarHandle" ∧ (parseMethodDescriptor yX7_measureChoice.desc).map (fun d => d.parameters.length) = some 1 := ⟨rfl, by decide +kernel, by decide +kernel, by decide +kernel⟩
theorem gk_X7_measureChoice {own : String} {idx : Nat} (h : Cond.methodLink own idx yX7_measureChoice ∈ wsA) : GoodIn wsA (wsV own idx RX7 yX7_measureChoice (.code yX7_measureChoice cX7_measureChoice 7 none :: wsA)) := gd_V h wt_4_57 wt_0_29 wt_1_7 wt_4_58
theorem hd_X7_measure : yX7_measure.cls = RX7 ∧ yX7_measure.cls ≠ "java/lang/invoke/MethodHandle" ∧ yX7_measure.cls ≠ "java/lang/invoke/VarHandle" ∧ (parseMethodDescriptor yX7_measure.desc).map (fun d => d.parameters.length) = some 1 := ⟨rfl, by decide +kernel, by decide +kernel, by decide +kernel⟩
theorem gk_X7_measure {own : String} {idx : Nat} (h : Cond.methodLink own idx yX7_measure ∈ wsA) : GoodIn wsA (wsV own idx RX7 yX7_measure (.code yX7_measure cX7_measure 4 (some .boolean) :: wsA)) := gd_V h wt_4_37 wt_0_24 wt_1_7 wt_4_38
theorem hd_X7_lay : yX7_lay.cls = RX7 ∧ yX7_lay.cls ≠ "java/lang/invoke/MethodHandle" ∧ yX7_lay.cls ≠ "java/lang/invoke/VarHandle" ∧ (parseMethodDescriptor yX7_lay.desc).map (fun d => d.parameters.length) = some 4 := ⟨rfl, by decide +kernel, by decide +kernel, by decide +kernel⟩
theorem gk_X7_lay {own : String} {idx : Nat} (h : Cond.methodLink own idx yX7_lay ∈ wsA) : GoodIn wsA (wsV own idx RX7 yX7_lay (.code yX7_lay cX7_lay 5 none :: wsA)) := gd_V h wt_4_33 wt_0_23 wt_1_7 wt_4_34
theorem hd_X7_addNumber : yX7_addNumber.cls = RX7 ∧ yX7_addNumber.cls ≠ "java/lang/invoke/MethodHandle" ∧ yX7_addNumber.cls ≠ "java/lang/invoke/VarHandle" ∧ (parseMethodDescriptor yX7_addNumber.desc).map (fun d => d.parameters.length) = some 2 := ⟨rfl, by decide +kernel, by decide +kernel, by decide +kernel⟩
theorem gk_X7_addNumber {own : String} {idx : Nat} (h : Cond.methodLink own idx yX7_addNumber ∈ wsA) : GoodIn wsA (wsV own idx RX7 yX7_addNumber (.code yX7_addNumber cX7_addNumber 4 (some .int) :: wsA)) := gd_V h wt_4_21 wt_4_22 wt_1_7 wt_4_23
theorem hd_X7_addList : yX7_addList.cls = RX7 ∧ yX7_addList.cls ≠ "java/lang/invoke/MethodHandle" ∧ yX7_addList.cls ≠ "java/lang/invoke/VarHandle" ∧ (parseMethodDescriptor yX7_addList.desc).map (fun d => d.parameters.length) = some 3 := ⟨rfl, by decide +kernel, by decide +kernel, by decide +kernel⟩
theorem gk_X7_addList {own : String} {idx : Nat} (h : Cond.methodLink own idx yX7_addList ∈ wsA) : GoodIn wsA (wsV own idx RX7 yX7_addList (.code yX7_addList cX7_addList 6 (some .int) :: wsA)) := gd_V h wt_4_67 wt_4_68 wt_1_7 wt_4_69
theorem hd_X7_part : yX7_part.cls = RX7 ∧ yX7_part.cls ≠ "java/lang/invoke/MethodHandle" ∧ yX7_part.cls ≠ "java/lang/invoke/VarHandle" ∧ (parseMethodDescriptor yX7_part.desc).map (fun d => d.parameters.length) = some 2 := ⟨rfl, by decide +kernel, by decide +kernel, by decide +kernel⟩
theorem gk_X7_part {own : String} {idx : Nat} (h : Cond.methodLink own idx yX7_part ∈ wsA) : GoodIn wsA (wsV own idx RX7 yX7_part (.code yX7_part cX7_part 3 (some .int) :: wsA)) := gd_V h wt_4_75 wt_4_76 wt_1_7 wt_4_77
theorem hd_X7_addDraft : yX7_addDraft.cls = RX7 ∧ yX7_addDraft.cls ≠ "java/lang/invoke/MethodHandle" ∧ yX7_addDraft.cls ≠ "java/lang/invoke/VarHandle" ∧ (parseMethodDescriptor yX7_addDraft.desc).map (fun d => d.parameters.length) = some 1 := ⟨rfl, by decide +kernel, by decide +kernel, by decide +kernel⟩
theorem gk_X7_addDraft {own : String} {idx : Nat} (h : Cond.methodLink own idx yX7_addDraft ∈ wsA) : GoodIn wsA (wsV own idx RX7 yX7_addDraft (.code yX7_addDraft cX7_addDraft 4 (some .int) :: wsA)) := gd_V h wt_4_84 wt_0_32 wt_1_7 wt_4_85
theorem hd_X7_addSequence : yX7_addSequence.cls = RX7 ∧ yX7_addSequence.cls ≠ "java/lang/invoke/MethodHandle" ∧ yX7_addSequence.cls ≠ "java/lang/invoke/VarHandle" ∧ (parseMethodDescriptor yX7_addSequence.desc).map (fun d => d.parameters.length) = some 0 := ⟨rfl, by decide +kernel, by decide +kernel, by decide +kernel⟩
theorem gk_X7_addSequence {own : String} {idx : Nat} (h : Cond.methodLink own idx yX7_addSequence ∈ wsA) : GoodIn wsA (wsV own idx RX7 yX7_addSequence (.code yX7_addSequence cX7_addSequence 1 (some .int) :: wsA)) := gd_V h wt_4_79 wt_4_80 wt_1_7 wt_4_81
theorem hd_X7_addChoice : yX7_addChoice.cls = RX7 ∧ yX7_addChoice.cls ≠ "java/lang/invoke/MethodHandle" ∧ yX7_addChoice.cls ≠ "java/lang/invoke/VarHandle" ∧ (parseMethodDescriptor yX7_addChoice.desc).map (fun d => d.parameters.length) = some 0 := ⟨rfl, by decide +kernel, by decide +kernel, by decide +kernel⟩
theorem gk_X7_addChoice {own : String} {idx : Nat} (h : Cond.methodLink own idx yX7_addChoice ∈ wsA) : GoodIn wsA (wsV own idx RX7 yX7_addChoice (.code yX7_addChoice cX7_addChoice 1 (some .int) :: wsA)) := gd_V h wt_4_87 wt_4_88 wt_1_7 wt_4_89
theorem hd_X7_measureAll : yX7_measureAll.cls = RX7 ∧ yX7_measureAll.cls ≠ "java/lang/invoke/MethodHandle" ∧ yX7_measureAll.cls ≠ "java/lang/invoke/VarHandle" ∧ (parseMethodDescriptor yX7_measureAll.desc).map (fun d => d.parameters.length) = some 0 := ⟨rfl, by decide +kernel, by decide +kernel, by decide +kernel⟩
theorem gk_X7_measureAll {own : String} {idx : Nat} (h : Cond.methodLink own idx yX7_measureAll ∈ wsA) : GoodIn wsA (wsV own idx RX7 yX7_measureAll (.code yX7_measureAll cX7_measureAll 3 (some .boolean) :: wsA)) := gd_V h wt_4_96 wt_0_33 wt_1_7 wt_4_97
theorem hd_X7_extend : yX7_extend.cls = RX7 ∧ yX7_extend.cls ≠ "java/lang/invoke/MethodHandle" ∧ yX7_extend.cls ≠ "java/lang/invoke/VarHandle" ∧ (parseMethodDescriptor yX7_extend.desc).map (fun d => d.parameters.length) = some 2 := ⟨rfl, by decide +kernel, by decide +kernel, by decide +kernel⟩
theorem gk_X7_extend {own : String} {idx : Nat} (h : Cond.methodLink own idx yX7_extend ∈ wsA) : GoodIn wsA (wsV own idx RX7 yX7_extend (.code yX7_extend cX7_extend 6 (some .int) :: wsA)) := gd_V h wt_4_91 wt_4_92 wt_1_7 wt_4_93
theorem hd_X7_types : yX7_types.cls = RX7 ∧ yX7_types.cls ≠ "java/lang/invoke/MethodHandle" ∧ yX7_types.cls ≠ "java/lang/invoke/VarHandle" ∧ (parseMethodDescriptor yX7_types.desc).map (fun d => d.parameters.length) = some 0 := ⟨rfl, by decide +kernel, by decide +kernel, by decide +kernel⟩
theorem gk_X7_types {own : String} {idx : Nat} (h : Cond.methodLink own idx yX7_types ∈ wsA) : GoodIn wsA (wsV own idx RX7 yX7_types (.code yX7_types cX7_types 1 (some .int) :: wsA)) := gd_V h wt_4_99 wt_4_100 wt_1_7 wt_4_101
theorem hd_X7_noType : yX7_noType.cls = RX7 ∧ yX7_noType.cls ≠ "java/lang/invoke/MethodHandle" ∧ yX7_noType.cls ≠ "java/lang/invoke/VarHandle" ∧ (parseMethodDescriptor yX7_noType.desc).map (fun d => d.parameters.length) = some 1 := ⟨rfl, by decide +kernel, by decide +kernel, by decide +kernel⟩
theorem gk_X7_noType {own : String} {idx : Nat} (h : Cond.methodLink own idx yX7_noType ∈ wsA) : GoodIn wsA (wsV own idx RX7 yX7_noType (.code yX7_noType cX7_noType 2 (some .boolean) :: wsA)) := gd_V h wt_4_112 wt_0_35 wt_1_7 wt_4_113
theorem hd_X7_leastBits : yX7_leastBits.cls = RX7 ∧ yX7_leastBits.cls ≠ "java/lang/invoke/MethodHandle" ∧ yX7_leastBits.cls ≠ "java/lang/invoke/VarHandle" ∧ (parseMethodDescriptor yX7_leastBits.desc).map (fun d => d.parameters.length) = some 1 := ⟨rfl, by decide +kernel, by decide +kernel, by decide +kernel⟩
theorem gk_X7_leastBits {own : String} {idx : Nat} (h : Cond.methodLink own idx yX7_leastBits ∈ wsA) : GoodIn wsA (wsV own idx RX7 yX7_leastBits (.code yX7_leastBits cX7_leastBits 2 (some .int) :: wsA)) := gd_V h wt_4_107 wt_4_108 wt_1_7 wt_4_109
theorem hd_X7_mostBits : yX7_mostBits.cls = RX7 ∧ yX7_mostBits.cls ≠ "java/lang/invoke/MethodHandle" ∧ yX7_mostBits.cls ≠ "java/lang/invoke/VarHandle" ∧ (parseMethodDescriptor yX7_mostBits.desc).map (fun d => d.parameters.length) = some 1 := ⟨rfl, by decide +kernel, by decide +kernel, by decide +kernel⟩
theorem gk_X7_mostBits {own : String} {idx : Nat} (h : Cond.methodLink own idx yX7_mostBits ∈ wsA) : GoodIn wsA (wsV own idx RX7 yX7_mostBits (.code yX7_mostBits cX7_mostBits 2 (some .int) :: wsA)) := gd_V h wt_4_115 wt_4_116 wt_1_7 wt_4_117
theorem hd_X7_tell : yX7_tell.cls = RX7 ∧ yX7_tell.cls ≠ "java/lang/invoke/MethodHandle" ∧ yX7_tell.cls ≠ "java/lang/invoke/VarHandle" ∧ (parseMethodDescriptor yX7_tell.desc).map (fun d => d.parameters.length) = some 1 := ⟨rfl, by decide +kernel, by decide +kernel, by decide +kernel⟩
theorem gk_X7_tell {own : String} {idx : Nat} (h : Cond.methodLink own idx yX7_tell ∈ wsA) : GoodIn wsA (wsV own idx RX7 yX7_tell (.code yX7_tell cX7_tell 2 (some .int) :: wsA)) := gd_V h wt_4_119 wt_4_120 wt_1_7 wt_4_121
theorem hd_X7_forget : yX7_forget.cls = RX7 ∧ yX7_forget.cls ≠ "java/lang/invoke/MethodHandle" ∧ yX7_forget.cls ≠ "java/lang/invoke/VarHandle" ∧ (parseMethodDescriptor yX7_forget.desc).map (fun d => d.parameters.length) = some 0 := ⟨rfl, by decide +kernel, by decide +kernel, by decide +kernel⟩
theorem gk_X7_forget {own : String} {idx : Nat} (h : Cond.methodLink own idx yX7_forget ∈ wsA) : GoodIn wsA (wsV own idx RX7 yX7_forget (.code yX7_forget cX7_forget 2 (some .int) :: wsA)) := gd_V h wt_4_123 wt_4_124 wt_1_7 wt_4_125
theorem hd_X7_length : yX7_length.cls = RX7 ∧ yX7_length.cls ≠ "java/lang/invoke/MethodHandle" ∧ yX7_length.cls ≠ "java/lang/invoke/VarHandle" ∧ (parseMethodDescriptor yX7_length.desc).map (fun d => d.parameters.length) = some 0 := ⟨rfl, by decide +kernel, by decide +kernel, by decide +kernel⟩
theorem gk_X7_length {own : String} {idx : Nat} (h : Cond.methodLink own idx yX7_length ∈ wsA) : GoodIn wsA (wsV own idx RX7 yX7_length (.code yX7_length cX7_length 1 (some .int) :: wsA)) := gd_V h wt_4_127 wt_4_128 wt_1_7 wt_4_129
theorem hd_X7_told : yX7_told.cls = RX7 ∧ yX7_told.cls ≠ "java/lang/invoke/MethodHandle" ∧ yX7_told.cls ≠ "java/lang/invoke/VarHandle" ∧ (parseMethodDescriptor yX7_told.desc).map (fun d => d.parameters.length) = some 1 := ⟨rfl, by decide +kernel, by decide +kernel, by decide +kernel⟩
theorem gk_X7_told {own : String} {idx : Nat} (h : Cond.methodLink own idx yX7_told ∈ wsA) : GoodIn wsA (wsV own idx RX7 yX7_told (.code yX7_told cX7_told 2 (some .int) :: wsA)) := gd_V h wt_4_131 wt_4_132 wt_1_7 wt_4_133
theorem hd_X7_push : yX7_push.cls = RX7 ∧ yX7_push.cls ≠ "java/lang/invoke/MethodHandle" ∧ yX7_push.cls ≠ "java/lang/invoke/VarHandle" ∧ (parseMethodDescriptor yX7_push.desc).map (fun d => d.parameters.length) = some 1 := ⟨rfl, by decide +kernel, by decide +kernel, by decide +kernel⟩
theorem gk_X7_push {own : String} {idx : Nat} (h : Cond.methodLink own idx yX7_push ∈ wsA) : GoodIn wsA (wsV own idx RX7 yX7_push (.code yX7_push cX7_push 2 none :: wsA)) := gd_V h wt_4_144 wt_0_37 wt_1_7 wt_4_145
theorem hd_X7_emit : yX7_emit.cls = RX7 ∧ yX7_emit.cls ≠ "java/lang/invoke/MethodHandle" ∧ yX7_emit.cls ≠ "java/lang/invoke/VarHandle" ∧ (parseMethodDescriptor yX7_emit.desc).map (fun d => d.parameters.length) = some 3 := ⟨rfl, by decide +kernel, by decide +kernel, by decide +kernel⟩
theorem gk_X7_emit {own : String} {idx : Nat} (h : Cond.methodLink own idx yX7_emit ∈ wsA) : GoodIn wsA (wsV own idx RX7 yX7_emit (.code yX7_emit cX7_emit 5 none :: wsA)) := gd_V h wt_4_160 wt_0_41 wt_1_7 wt_4_161
theorem hd_X7_isWrong : yX7_isWrong.cls = RX7 ∧ yX7_isWrong.cls ≠ "java/lang/invoke/MethodHandle" ∧ yX7_isWrong.cls ≠ "java/lang/invoke/VarHandle" ∧ (parseMethodDescriptor yX7_isWrong.desc).map (fun d => d.parameters.length) = some 2 := ⟨rfl, by decide +kernel, by decide +kernel, by decide +kernel⟩
theorem gk_X7_isWrong {own : String} {idx : Nat} (h : Cond.methodLink own idx yX7_isWrong ∈ wsA) : GoodIn wsA (wsV own idx RX7 yX7_isWrong (.code yX7_isWrong cX7_isWrong 4 (some .boolean) :: wsA)) := gd_V h wt_4_156 wt_0_40 wt_1_7 wt_4_157
theorem hd_X7_headOfTale : yX7_headOfTale.cls = RX7 ∧ yX7_headOfTale.cls ≠ "java/lang/invoke/MethodHandle" ∧ yX7_headOfTale.cls ≠ "java/lang/invoke/VarHandle" ∧ (parseMethodDescriptor yX7_headOfTale.desc).map (fun d => d.parameters.length) = some 3 := ⟨rfl, by decide +kernel, by decide +kernel, by decide +kernel⟩
theorem gk_X7_headOfTale {own : String} {idx : Nat} (h : Cond.methodLink own idx yX7_headOfTale ∈ wsA) : GoodIn wsA (wsV own idx RX7 yX7_headOfTale (.code yX7_headOfTale cX7_headOfTale 6 (some .boolean) :: wsA)) := gd_V h wt_4_152 wt_0_39 wt_1_7 wt_4_153
theorem hd_X7_sequenceOfTale : yX7_sequenceOfTale.cls = RX7 ∧ yX7_sequenceOfTale.cls ≠ "java/lang/invoke/MethodHandle" ∧ yX7_sequenceOfTale.cls ≠ "java/lang/invoke/VarHandle" ∧ (parseMethodDescriptor yX7_sequenceOfTale.desc).map (fun d => d.parameters.length) = some 4 := ⟨rfl, by decide +kernel, by decide +kernel, by decide +kernel⟩
theorem gk_X7_sequenceOfTale {own : String} {idx : Nat} (h : Cond.methodLink own idx yX7_sequenceOfTale ∈ wsA) : GoodIn wsA (wsV own idx RX7 yX7_sequenceOfTale (.code yX7_sequenceOfTale cX7_sequenceOfTale 6 (some .boolean) :: wsA)) := gd_V h wt_4_164 wt_0_42 wt_1_7 wt_4_165
theorem hd_X7_goOverTale : yX7_goOverTale.cls = RX7 ∧ yX7_goOverTale.cls ≠ "java/lang/invoke/MethodHandle" ∧ yX7_goOverTale.cls ≠ "java/lang/invoke/VarHandle" ∧ (parseMethodDescriptor yX7_goOverTale.desc).map (fun d => d.parameters.length) = some 1 := ⟨rfl, by decide +kernel, by decide +kernel, by decide +kernel⟩
theorem gk_X7_goOverTale {own : String} {idx : Nat} (h : Cond.methodLink own idx yX7_goOverTale ∈ wsA) : GoodIn wsA (wsV own idx RX7 yX7_goOverTale (.code yX7_goOverTale cX7_goOverTale 7 (some .boolean) :: wsA)) := gd_V h wt_4_148 wt_0_38 wt_1_7 wt_4_149
theorem hd_X7_walk : yX7_walk.cls = RX7 ∧ yX7_walk.cls ≠ "java/lang/invoke/MethodHandle" ∧ yX7_walk.cls ≠ "java/lang/invoke/VarHandle" ∧ (parseMethodDescriptor yX7_walk.desc).map (fun d => d.parameters.length) = some 2 := ⟨rfl, by decide +kernel, by decide +kernel, by decide +kernel⟩
theorem gk_X7_walk {own : String} {idx : Nat} (h : Cond.methodLink own idx yX7_walk ∈ wsA) : GoodIn wsA (wsV own idx RX7 yX7_walk (.code yX7_walk cX7_walk 4 (some .int) :: wsA)) := gd_V h wt_4_140 wt_0_36 wt_1_7 wt_4_141
theorem hd_X7_wrongAt : yX7_wrongAt.cls = RX7 ∧ yX7_wrongAt.cls ≠ "java/lang/invoke/MethodHandle" ∧ yX7_wrongAt.cls ≠ "java/lang/invoke/VarHandle" ∧ (parseMethodDescriptor yX7_wrongAt.desc).map (fun d => d.parameters.length) = some 1 := ⟨rfl, by decide +kernel, by decide +kernel, by decide +kernel⟩
theorem gk_X7_wrongAt {own : String} {idx : Nat} (h : Cond.methodLink own idx yX7_wrongAt ∈ wsA) : GoodIn wsA (wsV own idx RX7 yX7_wrongAt (.code yX7_wrongAt cX7_wrongAt 2 (some .int) :: wsA)) := gd_V h wt_4_135 wt_4_136 wt_1_7 wt_4_137
theorem hd_X7_write : yX7_write.cls = RX7 ∧ yX7_write.cls ≠ "java/lang/invoke/MethodHandle" ∧ yX7_write.cls ≠ "java/lang/invoke/VarHandle" ∧ (parseMethodDescriptor yX7_write.desc).map (fun d => d.parameters.length) = some 1 := ⟨rfl, by decide +kernel, by decide +kernel, by decide +kernel⟩
theorem gk_X7_write {own : String} {idx : Nat} (h : Cond.methodLink own idx yX7_write ∈ wsA) : GoodIn wsA (wsV own idx RX7 yX7_write (.code yX7_write cX7_write 2 (some .int) :: wsA)) := gd_V h wt_4_167 wt_4_168 wt_1_7 wt_4_169
theorem hd_X7_bits : yX7_bits.cls = RX7 ∧ yX7_bits.cls ≠ "java/lang/invoke/MethodHandle" ∧ yX7_bits.cls ≠ "java/lang/invoke/VarHandle" ∧ (parseMethodDescriptor yX7_bits.desc).map (fun d => d.parameters.length) = some 0 := ⟨rfl, by decide +kernel, by decide +kernel, by decide +kernel⟩
theorem gk_X7_bits {own : String} {idx : Nat} (h : Cond.methodLink own idx yX7_bits ∈ wsA) : GoodIn wsA (wsV own idx RX7 yX7_bits (.code yX7_bits cX7_bits 1 (some .int) :: wsA)) := gd_V h wt_4_171 wt_4_172 wt_1_7 wt_4_173
theorem hd_X7_noBit : yX7_noBit.cls = RX7 ∧ yX7_noBit.cls ≠ "java/lang/invoke/MethodHandle" ∧ yX7_noBit.cls ≠ "java/lang/invoke/VarHandle" ∧ (parseMethodDescriptor yX7_noBit.desc).map (fun d => d.parameters.length) = some 1 := ⟨rfl, by decide +kernel, by decide +kernel, by decide +kernel⟩
theorem gk_X7_noBit {own : String} {idx : Nat} (h : Cond.methodLink own idx yX7_noBit ∈ wsA) : GoodIn wsA (wsV own idx RX7 yX7_noBit (.code yX7_noBit cX7_noBit 2 (some .boolean) :: wsA)) := gd_V h wt_4_180 wt_0_43 wt_1_7 wt_4_181
theorem hd_X7_bit : yX7_bit.cls = RX7 ∧ yX7_bit.cls ≠ "java/lang/invoke/MethodHandle" ∧ yX7_bit.cls ≠ "java/lang/invoke/VarHandle" ∧ (parseMethodDescriptor yX7_bit.desc).map (fun d => d.parameters.length) = some 1 := ⟨rfl, by decide +kernel, by decide +kernel, by decide +kernel⟩
theorem gk_X7_bit {own : String} {idx : Nat} (h : Cond.methodLink own idx yX7_bit ∈ wsA) : GoodIn wsA (wsV own idx RX7 yX7_bit (.code yX7_bit cX7_bit 2 (some .int) :: wsA)) := gd_V h wt_4_175 wt_4_176 wt_1_7 wt_4_177
theorem hd_X7_flip : yX7_flip.cls = RX7 ∧ yX7_flip.cls ≠ "java/lang/invoke/MethodHandle" ∧ yX7_flip.cls ≠ "java/lang/invoke/VarHandle" ∧ (parseMethodDescriptor yX7_flip.desc).map (fun d => d.parameters.length) = some 1 := ⟨rfl, by decide +kernel, by decide +kernel, by decide +kernel⟩
theorem gk_X7_flip {own : String} {idx : Nat} (h : Cond.methodLink own idx yX7_flip ∈ wsA) : GoodIn wsA (wsV own idx RX7 yX7_flip (.code yX7_flip cX7_flip 2 (some .int) :: wsA)) := gd_V h wt_4_183 wt_4_184 wt_1_7 wt_4_185
theorem hd_X7_cut : yX7_cut.cls = RX7 ∧ yX7_cut.cls ≠ "java/lang/invoke/MethodHandle" ∧ yX7_cut.cls ≠ "java/lang/invoke/VarHandle" ∧ (parseMethodDescriptor yX7_cut.desc).map (fun d => d.parameters.length) = some 1 := ⟨rfl, by decide +kernel, by decide +kernel, by decide +kernel⟩
theorem gk_X7_cut {own : String} {idx : Nat} (h : Cond.methodLink own idx yX7_cut ∈ wsA) : GoodIn wsA (wsV own idx RX7 yX7_cut (.code yX7_cut cX7_cut 3 (some .int) :: wsA)) := gd_V h wt_4_187 wt_4_188 wt_1_7 wt_4_189
theorem hd_X7_take : yX7_take.cls = RX7 ∧ yX7_take.cls ≠ "java/lang/invoke/MethodHandle" ∧ yX7_take.cls ≠ "java/lang/invoke/VarHandle" ∧ (parseMethodDescriptor yX7_take.desc).map (fun d => d.parameters.length) = some 1 := ⟨rfl, by decide +kernel, by decide +kernel, by decide +kernel⟩
theorem gk_X7_take {own : String} {idx : Nat} (h : Cond.methodLink own idx yX7_take ∈ wsA) : GoodIn wsA (wsV own idx RX7 yX7_take (.code yX7_take cX7_take 4 (some .int) :: wsA)) := gd_V h wt_4_208 wt_0_47 wt_1_7 wt_4_209
theorem hd_X7_takeBelow : yX7_takeBelow.cls = RX7 ∧ yX7_takeBelow.cls ≠ "java/lang/invoke/MethodHandle" ∧ yX7_takeBelow.cls ≠ "java/lang/invoke/VarHandle" ∧ (parseMethodDescriptor yX7_takeBelow.desc).map (fun d => d.parameters.length) = some 2 := ⟨rfl, by decide +kernel, by decide +kernel, by decide +kernel⟩
theorem gk_X7_takeBelow {own : String} {idx : Nat} (h : Cond.methodLink own idx yX7_takeBelow ∈ wsA) : GoodIn wsA (wsV own idx RX7 yX7_takeBelow (.code yX7_takeBelow cX7_takeBelow 5 (some .int) :: wsA)) := gd_V h wt_4_220 wt_0_50 wt_1_7 wt_4_221
theorem hd_X7_note : yX7_note.cls = RX7 ∧ yX7_note.cls ≠ "java/lang/invoke/MethodHandle" ∧ yX7_note.cls ≠ "java/lang/invoke/VarHandle" ∧ (parseMethodDescriptor yX7_note.desc).map (fun d => d.parameters.length) = some 1 := ⟨rfl, by decide +kernel, by decide +kernel, by decide +kernel⟩
theorem gk_X7_note {own : String} {idx : Nat} (h : Cond.methodLink own idx yX7_note ∈ wsA) : GoodIn wsA (wsV own idx RX7 yX7_note (.code yX7_note cX7_note 2 none :: wsA)) := gd_V h wt_4_212 wt_0_48 wt_1_7 wt_4_213
theorem hd_X7_headOfBits : yX7_headOfBits.cls = RX7 ∧ yX7_headOfBits.cls ≠ "java/lang/invoke/MethodHandle" ∧ yX7_headOfBits.cls ≠ "java/lang/invoke/VarHandle" ∧ (parseMethodDescriptor yX7_headOfBits.desc).map (fun d => d.parameters.length) = some 2 := ⟨rfl, by decide +kernel, by decide +kernel, by decide +kernel⟩
theorem gk_X7_headOfBits {own : String} {idx : Nat} (h : Cond.methodLink own idx yX7_headOfBits ∈ wsA) : GoodIn wsA (wsV own idx RX7 yX7_headOfBits (.code yX7_headOfBits cX7_headOfBits 6 none :: wsA)) := gd_V h wt_4_204 wt_0_46 wt_1_7 wt_4_205
theorem hd_X7_skip : yX7_skip.cls = RX7 ∧ yX7_skip.cls ≠ "java/lang/invoke/MethodHandle" ∧ yX7_skip.cls ≠ "java/lang/invoke/VarHandle" ∧ (parseMethodDescriptor yX7_skip.desc).map (fun d => d.parameters.length) = some 1 := ⟨rfl, by decide +kernel, by decide +kernel, by decide +kernel⟩
theorem gk_X7_skip {own : String} {idx : Nat} (h : Cond.methodLink own idx yX7_skip ∈ wsA) : GoodIn wsA (wsV own idx RX7 yX7_skip (.code yX7_skip cX7_skip 2 none :: wsA)) := gd_V h wt_4_224 wt_0_51 wt_1_7 wt_4_225
theorem hd_X7_sequenceOfBits : yX7_sequenceOfBits.cls = RX7 ∧ yX7_sequenceOfBits.cls ≠ "java/lang/invoke/MethodHandle" ∧ yX7_sequenceOfBits.cls ≠ "java/lang/invoke/VarHandle" ∧ (parseMethodDescriptor yX7_sequenceOfBits.desc).map (fun d => d.parameters.length) = some 4 := ⟨rfl, by decide +kernel, by decide +kernel, by decide +kernel⟩
theorem gk_X7_sequenceOfBits {own : String} {idx : Nat} (h : Cond.methodLink own idx yX7_sequenceOfBits ∈ wsA) : GoodIn wsA (wsV own idx RX7 yX7_sequenceOfBits (.code yX7_sequenceOfBits cX7_sequenceOfBits 7 none :: wsA)) := gd_V h wt_4_216 wt_0_49 wt_1_7 wt_4_217
theorem hd_X7_goOverBits : yX7_goOverBits.cls = RX7 ∧ yX7_goOverBits.cls ≠ "java/lang/invoke/MethodHandle" ∧ yX7_goOverBits.cls ≠ "java/lang/invoke/VarHandle" ∧ (parseMethodDescriptor yX7_goOverBits.desc).map (fun d => d.parameters.length) = some 1 := ⟨rfl, by decide +kernel, by decide +kernel, by decide +kernel⟩
theorem gk_X7_goOverBits {own : String} {idx : Nat} (h : Cond.methodLink own idx yX7_goOverBits ∈ wsA) : GoodIn wsA (wsV own idx RX7 yX7_goOverBits (.code yX7_goOverBits cX7_goOverBits 7 none :: wsA)) := gd_V h wt_4_200 wt_0_45 wt_1_7 wt_4_201
theorem hd_X7_walkBits : yX7_walkBits.cls = RX7 ∧ yX7_walkBits.cls ≠ "java/lang/invoke/MethodHandle" ∧ yX7_walkBits.cls ≠ "java/lang/invoke/VarHandle" ∧ (parseMethodDescriptor yX7_walkBits.desc).map (fun d => d.parameters.length) = some 2 := ⟨rfl, by decide +kernel, by decide +kernel, by decide +kernel⟩
theorem gk_X7_walkBits {own : String} {idx : Nat} (h : Cond.methodLink own idx yX7_walkBits ∈ wsA) : GoodIn wsA (wsV own idx RX7 yX7_walkBits (.code yX7_walkBits cX7_walkBits 3 (some .int) :: wsA)) := gd_V h wt_4_196 wt_0_44 wt_1_7 wt_4_197
theorem hd_X7_read : yX7_read.cls = RX7 ∧ yX7_read.cls ≠ "java/lang/invoke/MethodHandle" ∧ yX7_read.cls ≠ "java/lang/invoke/VarHandle" ∧ (parseMethodDescriptor yX7_read.desc).map (fun d => d.parameters.length) = some 2 := ⟨rfl, by decide +kernel, by decide +kernel, by decide +kernel⟩
theorem gk_X7_read {own : String} {idx : Nat} (h : Cond.methodLink own idx yX7_read ∈ wsA) : GoodIn wsA (wsV own idx RX7 yX7_read (.code yX7_read cX7_read 5 (some .int) :: wsA)) := gd_V h wt_4_191 wt_4_192 wt_1_7 wt_4_193
theorem hd_X7_faultAt : yX7_faultAt.cls = RX7 ∧ yX7_faultAt.cls ≠ "java/lang/invoke/MethodHandle" ∧ yX7_faultAt.cls ≠ "java/lang/invoke/VarHandle" ∧ (parseMethodDescriptor yX7_faultAt.desc).map (fun d => d.parameters.length) = some 2 := ⟨rfl, by decide +kernel, by decide +kernel, by decide +kernel⟩
theorem gk_X7_faultAt {own : String} {idx : Nat} (h : Cond.methodLink own idx yX7_faultAt ∈ wsA) : GoodIn wsA (wsV own idx RX7 yX7_faultAt (.code yX7_faultAt cX7_faultAt 3 (some .int) :: wsA)) := gd_V h wt_4_227 wt_4_228 wt_1_7 wt_4_229
end
section
/-! the law's own rows: wrappers with handlers, calls on a part of the memory, the script, the law's end -/
section JW
variable {p : Program} {l : Launch} {e : Env} {R : Room} {s : State} {m : MethodId} {args : Array Value} {below : List Frame} {meth : Method} {c : Code} {nL : Nat} {G : gG} {A : Nat → Prop} {Q : State → Prop} {cells slots pc pc' : Nat} {loc loc' : List (Nat × Value)} {rest st : List Value} {μ : Mm} {cc : ByteArray} {ret : Option FieldType} {own : String}
variable {post : Option Value → Mm → Prop} {px : String → Mm → Prop} {mc ms : Nat}
variable {y : MethodName} {bytes : ByteArray} {maxL k1 mc1 ms1 n index ci b cells' slots' : Nat} {ret1 : Option FieldType} {As : List Value} {C : String} {T : u_T} {N : Nat} {fs : List Value} {hh : List (Nat × Nat × Nat × Nat)}
theorem met_JW {k0 : Nat} {av : List Value} (hy : plainName y.cls = true) (hlen : (lg_sl av).length ≤ maxL) (hloc : lv_args 0 av = loc)
    (body : ∀ (p : Program) (e : Env) (s : State) (m : MethodId) (args : Array Value) (below : List Frame) (meth : Method) (c : Code), Cx p l s m args meth c bytes maxL ret1 y.cls G A → c.exceptionTable.toList = tableOf hh → J p l e (rmL k0 mc ms) s m args below meth c maxL G A (MQ below (QG G A post) args s mc ms A) 0 0 0 loc [] μ) :
    Met l y (.codeWith y bytes maxL ret1 hh :: wsA) (rmL k0 mc ms) (PcG G A μ av) (QG G A post) mc ms A := by
  refine MetFree.of_bodyS (code := bytes) (maxLocals := maxL) (ret := ret1) hy ?_ ?_
  · intro args s m h hn
    obtain ⟨m9, meth, c, hn9, h1, h2, h3, h4, -, h5, h6, -⟩ := Cond.codeWith_spec (atoms_spec (ws := .codeWith y bytes maxL ret1 hh :: wsA) h _ List.mem_cons_self)
    cases hn.symm.trans hn9
    exact ⟨meth, c, h1, h2, h3, h4, h5, h6⟩
  · intro p e s m args below meth c s₁ B hml hP _
    have hh0 : s₁.heap = s.heap := by rw [B.state]; rfl
    obtain ⟨rfl, hSK, hB, hA⟩ := hP
    have hts := atoms_spec (ws := .codeWith y bytes maxL ret1 hh :: wsA) B.pre
    have hl := lv_entry av (n := maxL) hlen
    rw [hloc] at hl
    have hJ := body p e s m av.toArray below meth c ⟨B.exec, B.bytes, B.returns, hml, findClass_of_methodNamed B.named, fun w hw => hts w (List.mem_cons_of_mem _ hw), B.notSynchronized, hSK, hA⟩ (vx_table (x := y) B (hts _ List.mem_cons_self))
    have K : W p l e (headSpec (.codeWith y bytes maxL ret1 hh :: wsA) (rmL k0 mc ms)).room s m av.toArray below meth c s.heap [] 0 0 (MQ below (QG G A post) av.toArray s mc ms A) (entryFrame m av.toArray maxL) := by
      rw [lg_entry_eq]
      exact hJ s.heap [] _ hB va_S.rf hl
    obtain ⟨t, a1, o, b1, b2, b3⟩ := K s₁ hh0 (Stand.of_body B)
    exact ⟨t, o, a1, b1, b2, ⟨b3.1, b3.2⟩⟩
theorem j_tryVi {post1 : Int32 → Mm → Prop} (X : Cx p l s m args meth c cc nL ret RL G A) (htab : c.exceptionTable.toList = tableOf hh) (hM : vx_Met l y (.code y bytes maxL ret1 :: wsA) (rmL k1 mc1 ms1) (PcG G A μ (.ref b :: As)) (QG G A (pI post1)) (XG G A px) mc1 ms1 A) (hT : GoodIn wsA (wsV RL index C y (.code y bytes maxL ret1 :: wsA)))
    (hd : y.cls = C ∧ y.cls ≠ "java/lang/invoke/MethodHandle" ∧ y.cls ≠ "java/lang/invoke/VarHandle" ∧ (parseMethodDescriptor y.desc).map (fun d => d.parameters.length) = some n) (hR : k1 + 6 + 1 ≤ R.frames ∧ 8 + (maxL + 11) + (40 * k1 + 120) ≤ R.locals) (hm : μ b = some (.inl (ci, fs))) (hc : vwCl[ci]? = some (C, T, N))
    (hn : As.length = n) (hst : st = As.reverse ++ .ref b :: rest) (hW : (rest.map fun v => v.category).sum ≤ 8) (hdg : decode cc pc = .ok (.invokevirtual index, 3)) (hpc : pc + 3 = pc') (hf : cells + mc1 ≤ R.cells ∧ slots + ms1 ≤ R.slots) (hce : cells + mc1 = cells') (hse : slots + ms1 = slots')
    (kx : ∀ E μ', px E μ' → E ∈ exN ∧ ∃ (pre : List ExceptionTableEntry) (x : ExceptionTableEntry) (suf : List ExceptionTableEntry), tableOf hh = pre ++ x :: suf ∧ (∀ z ∈ pre, z.catchType ≠ 0 ∧ ∃ nm ∈ exN, E ≠ nm ∧ Cond.classLink RL z.catchType nm ∈ wsA) ∧ covers x pc = true ∧ x.catchType ≠ 0 ∧ Cond.classLink RL x.catchType E ∈ wsA ∧ ∀ q : Nat, J p l e R s m args below meth c nL G A Q cells' slots' x.handlerPc loc [.ref q] μ')
    (k : ∀ r μ', post1 r μ' → J p l e R s m args below meth c nL G A Q cells' slots' pc' loc (.int r :: rest) μ') : J p l e R s m args below meth c nL G A Q cells slots pc loc st μ := by
  subst hst; subst hpc; subst hce; subst hse
  intro H locs ls hB hS hl
  obtain ⟨hx, hb, hr, hml, hown, hts, hlk, hSK, hA⟩ := X
  refine run_gox (vx_runV (As := As) (rest := rest) ⟨hx, hb, hml, hown, hts⟩ hM (cwV n hts hT rfl rfl rfl hd hR) ⟨PcG.blind, va_recv (q0 := 0) (fs := fs) hSK.1 (hB.one hm) hc rfl, pre_V hSK hA hB hS⟩ rfl hn hl.1 rfl (lv_room hW) hdg hf) hS (fun E ce q9 μ' H1 locs1 hp hB1 hS1 g1 g2 g3 => ?_) (fun v μ' H1 locs1 hp hB1 hS1 => ?_)
  · obtain ⟨hE, pre, x, suf, e1, hpass, hcov, h0, hlk2, kk⟩ := kx E μ' hp
    exact vx_catch hown pre x suf (htab.trans e1) (fun z hz => by obtain ⟨a1, nm, a2, a3, a4⟩ := hpass z hz; exact Or.inr ⟨a1, nm, hts _ a4, hSK.2.2.2.2.2.1 E hE nm a2 a3⟩) hcov h0 (hts _ hlk2) (va_Nw.use rfl (hSK.2.2.2.2.1 E hE)) g1 g2 g3 (kk q9 H1 locs1 ls hB1 hS1 hl)
  · obtain ⟨r9, rfl, hp⟩ := hp
    exact k r9 μ' hp H1 locs1 ls hB1 hS1 hl
/-! two memories side by side -/
def joinM (μ1 μ2 : Mm) : Mm := fun a => match μ1 a with
  | some e => some e
  | none => μ2 a
def disM (μ1 μ2 : Mm) : Prop := ∀ a, μ1 a ≠ none → μ2 a = none
theorem join_1 {μ1 μ2 : Mm} {a : Nat} {e : En} (h : μ1 a = some e) : joinM μ1 μ2 a = some e := by simp [joinM, h]
theorem join_2 {μ1 μ2 : Mm} (hd : disM μ1 μ2) {a : Nat} {e : En} (h : μ2 a = some e) : joinM μ1 μ2 a = some e := by
  cases h1 : μ1 a with
  | none => simp [joinM, h1, h]
  | some e1 => have := hd a (by rw [h1]; simp); rw [h] at this; cases this
theorem join_c {μ1 μ2 : Mm} (hd : disM μ1 μ2) : joinM μ1 μ2 = joinM μ2 μ1 := by
  funext a
  cases h1 : μ1 a with
  | none =>
    cases h2 : μ2 a with
    | none => simp [joinM, h1, h2]
    | some e2 => simp [joinM, h1, h2]
  | some e1 => have h2 := hd a (by rw [h1]; simp); simp [joinM, h1, h2]
theorem disM.symm {μ1 μ2 : Mm} (hd : disM μ1 μ2) : disM μ2 μ1 := fun a h => by
  cases h1 : μ1 a with
  | none => rfl
  | some e => exact absurd (hd a (by rw [h1]; simp)) h
theorem SK.narrow {A B : Nat → Prop} {U : State} {H : Heap} (h : SK G A U H) (hAB : ∀ q, B q → A q) : SK G B U H := by
  obtain ⟨h1, h2, h3, h4, h5⟩ := h
  exact ⟨h1, fun k hk => (h2 k hk).narrow hAB, h3.narrow hAB, h4.narrow hAB, h5⟩
def aOf (μ1 : Mm) (H : Heap) : Nat → Prop := fun q => μ1 q ≠ none ∨ H.size ≤ q
theorem frame_go {μ1 μ2 : Mm} {H : Heap} {locs : List Loc} {ls : Array Slot} {st0 : List Value} {a : Array Value} {post1 : Option Value → Mm → Prop} (hd : disM μ1 μ2) (hB : BM G A (joinM μ1 μ2) H) (hA : ∀ q, s.heap.size ≤ q → A q) (hS : va_S A s.heap H locs)
    (hr : va_Run p l e R s m args below meth c H locs cells slots mc1 ms1 (F0 m pc ls st0) rest (QG G (aOf μ1 H) post1 a) (aOf μ1 H))
    (kk : ∀ (v : Option Value) (μ' : Mm) (H1 : Heap) (locs1 : List Loc), disM μ' μ2 → post1 v μ' → BM G A (joinM μ' μ2) H1 → va_S A s.heap H1 locs1 → W p l e R s m args below meth c H1 locs1 (cells + mc1) (slots + ms1) Q (F0 m (pc + 3) ls (v.toList ++ rest))) : W p l e R s m args below meth c H locs cells slots Q (F0 m pc ls st0) := by
  have hA1 : ∀ q, aOf μ1 H q → A q := fun q h => by
    rcases h with h | h
    · cases h1 : μ1 q with
      | none => exact absurd h1 h
      | some e1 => exact (hB q e1 (join_1 h1)).2
    · exact hA q (Nat.le_trans hS.1 h)
  intro T hT X
  obtain ⟨v, st₀, t, T', L, h0, X', hL, e1, e2, ⟨⟨v', μ', hv, hp, hb⟩, hF⟩, st⟩ := hr T hT X
  cases hv
  obtain ⟨k1, k2, k3⟩ := vx_keep h0 e1 hS (fun q _ h => hA1 q h) (fun q h => hA1 q h) hL hF
  have hdis : disM μ' μ2 := fun q hq => by
    cases h1 : μ' q with
    | none => exact absurd h1 hq
    | some e1 =>
      rcases (hb q e1 h1).2 with h | h
      · exact hd q h
      · cases h2 : μ2 q with
        | none => rfl
        | some e3 => exact absurd (hB.lt (join_2 hd h2)) (by omega)
  have hB1 : BM G A (joinM μ' μ2) T'.heap := fun q e1' hq => by
    cases h1 : μ' q with
    | some e3 =>
      rw [join_1 h1] at hq
      cases hq
      rw [e1]
      exact ⟨(hb q _ h1).1, hA1 q (hb q _ h1).2⟩
    | none =>
      have h2 : μ2 q = some e1' := by simpa [joinM, h1] using hq
      have h3 := hB q e1' (join_2 hd h2)
      have hlt := hB.lt (join_2 hd h2)
      refine ⟨h3.1.kept (k2 q hlt (fun z => ?_)), h3.2⟩
      rcases z with z | z
      · rw [hd q z] at h2; cases h2
      · omega
  obtain ⟨t2, a1, b1⟩ := kk _ μ' T'.heap (locs ++ L) hdis hp hB1 k3 T' rfl X'
  exact ⟨t2, st t2 a1, b1⟩
theorem pre_F {μ1 μ2 : Mm} {H : Heap} {locs : List Loc} (hB : BM G A (joinM μ1 μ2) H) (hSK : SK G A s s.heap) (hA : ∀ q, s.heap.size ≤ q → A q) (hS : va_S A s.heap H locs) {av : List Value} : ∀ U : State, U.heap = H → s.WarmedH U.vm → PcG G (aOf μ1 H) μ1 av av.toArray U := fun U hU hW => by
  have hA1 : ∀ q, aOf μ1 H q → A q := fun q h => by
    rcases h with h | h
    · cases h1 : μ1 q with
      | none => exact absurd h1 h
      | some e1 => exact (hB q e1 (join_1 h1)).2
    · exact hA q (Nat.le_trans hS.1 h)
  exact ⟨rfl, (SK.next hSK hS hU hW).narrow hA1, fun a e1 ha => ⟨by rw [hU]; exact (hB a e1 (join_1 ha)).1, Or.inl (by rw [ha]; simp)⟩, fun q hq => Or.inr (by rw [← hU]; exact hq)⟩
theorem j_lawS {μ1 μ2 : Mm} {post1 : Int32 → Mm → Prop} (X : Cx p l s m args meth c cc nL ret own G A) (hd0 : disM μ1 μ2) (hM : ∀ A1, Met l y (.codeWith y bytes maxL ret1 hh :: wsA) (rmL k1 mc1 ms1) (PcG G A1 μ1 As) (QG G A1 (pI post1)) mc1 ms1 A1) (hT : GoodIn wsA (va_wsS own index y (.codeWith y bytes maxL ret1 hh :: wsA)))
    (hd : y.cls ≠ "java/lang/invoke/MethodHandle" ∧ y.cls ≠ "java/lang/invoke/VarHandle" ∧ (parseMethodDescriptor y.desc).map (fun d => d.parameters.length) = some n) (hR : k1 + 6 + 1 ≤ R.frames ∧ 8 + (maxL + 11) + (40 * k1 + 120) ≤ R.locals)
    (hn : As.length = n) (hst : st = As.reverse ++ rest) (hW : (rest.map fun v => v.category).sum ≤ 8) (hdg : decode cc pc = .ok (.invokestatic index, 3)) (hpc : pc + 3 = pc') (hf : cells + mc1 ≤ R.cells ∧ slots + ms1 ≤ R.slots)
    (k : ∀ r μ', disM μ' μ2 → post1 r μ' → J p l e R s m args below meth c nL G A Q (cells + mc1) (slots + ms1) pc' loc (.int r :: rest) (joinM μ' μ2)) : J p l e R s m args below meth c nL G A Q cells slots pc loc st (joinM μ1 μ2) := by
  subst hst; subst hpc
  intro H locs ls hB hS hl
  obtain ⟨hx, hb, hr, hml, hown, hts, hlk, hSK, hA⟩ := X
  refine frame_go hd0 hB hA hS (vx_runSW (As := As) (rest := rest) ⟨hx, hb, hml, hown, hts⟩ (hM _) (vx_cwSW n hts hT rfl rfl rfl hd hR) ⟨PcG.blind, pre_F hB hSK hA hS⟩ rfl hn hl.1 rfl (lv_room hW) hdg hf) (fun v μ' H1 locs1 hdi hp hB1 hS1 => ?_)
  obtain ⟨r9, rfl, hp⟩ := hp
  exact k r9 μ' hdi hp H1 locs1 ls hB1 hS1 hl
theorem j_lawV {μ1 μ2 : Mm} {post1 : Int32 → Mm → Prop} (X : Cx p l s m args meth c cc nL ret own G A) (hd0 : disM μ1 μ2) (hM : ∀ A1, Met l y (.code y bytes maxL ret1 :: wsA) (rmL k1 mc1 ms1) (PcG G A1 μ1 (.ref b :: As)) (QG G A1 (pI post1)) mc1 ms1 A1) (hT : GoodIn wsA (wsV own index C y (.code y bytes maxL ret1 :: wsA)))
    (hd : y.cls = C ∧ y.cls ≠ "java/lang/invoke/MethodHandle" ∧ y.cls ≠ "java/lang/invoke/VarHandle" ∧ (parseMethodDescriptor y.desc).map (fun d => d.parameters.length) = some n) (hR : k1 + 6 + 1 ≤ R.frames ∧ 8 + (maxL + 11) + (40 * k1 + 120) ≤ R.locals) (hm : μ1 b = some (.inl (ci, fs))) (hc : vwCl[ci]? = some (C, T, N))
    (hn : As.length = n) (hst : st = As.reverse ++ .ref b :: rest) (hW : (rest.map fun v => v.category).sum ≤ 8) (hdg : decode cc pc = .ok (.invokevirtual index, 3)) (hpc : pc + 3 = pc') (hf : cells + mc1 ≤ R.cells ∧ slots + ms1 ≤ R.slots)
    (k : ∀ r μ', disM μ' μ2 → post1 r μ' → J p l e R s m args below meth c nL G A Q (cells + mc1) (slots + ms1) pc' loc (.int r :: rest) (joinM μ' μ2)) : J p l e R s m args below meth c nL G A Q cells slots pc loc st (joinM μ1 μ2) := by
  subst hst; subst hpc
  intro H locs ls hB hS hl
  obtain ⟨hx, hb, hr, hml, hown, hts, hlk, hSK, hA⟩ := X
  have hB1 : BM G (aOf μ1 H) μ1 H := fun a e1 ha => ⟨(hB a e1 (join_1 ha)).1, Or.inl (by rw [ha]; simp)⟩
  refine frame_go hd0 hB hA hS (va_runV (As := As) (rest := rest) ⟨hx, hb, hml, hown, hts⟩ (hM _) (cwV n hts hT rfl rfl rfl hd hR) ⟨PcG.blind, va_recv (q0 := 0) (fs := fs) hSK.1 (hB1.one hm) hc rfl, pre_F hB hSK hA hS⟩ rfl hn hl.1 rfl (lv_room hW) hdg hf) (fun v μ' H1 locs1 hdi hp hB1 hS1 => ?_)
  obtain ⟨r9, rfl, hp⟩ := hp
  exact k r9 μ' hdi hp H1 locs1 ls hB1 hS1 hl
/-- .. on the second part -/
theorem j_lawV2 {μ1 μ2 : Mm} {post1 : Int32 → Mm → Prop} (X : Cx p l s m args meth c cc nL ret own G A) (hd0 : disM μ1 μ2) (hM : ∀ A1, Met l y (.code y bytes maxL ret1 :: wsA) (rmL k1 mc1 ms1) (PcG G A1 μ2 (.ref b :: As)) (QG G A1 (pI post1)) mc1 ms1 A1) (hT : GoodIn wsA (wsV own index C y (.code y bytes maxL ret1 :: wsA)))
    (hd : y.cls = C ∧ y.cls ≠ "java/lang/invoke/MethodHandle" ∧ y.cls ≠ "java/lang/invoke/VarHandle" ∧ (parseMethodDescriptor y.desc).map (fun d => d.parameters.length) = some n) (hR : k1 + 6 + 1 ≤ R.frames ∧ 8 + (maxL + 11) + (40 * k1 + 120) ≤ R.locals) (hm : μ2 b = some (.inl (ci, fs))) (hc : vwCl[ci]? = some (C, T, N))
    (hn : As.length = n) (hst : st = As.reverse ++ .ref b :: rest) (hW : (rest.map fun v => v.category).sum ≤ 8) (hdg : decode cc pc = .ok (.invokevirtual index, 3)) (hpc : pc + 3 = pc') (hf : cells + mc1 ≤ R.cells ∧ slots + ms1 ≤ R.slots)
    (k : ∀ r μ', disM μ1 μ' → post1 r μ' → J p l e R s m args below meth c nL G A Q (cells + mc1) (slots + ms1) pc' loc (.int r :: rest) (joinM μ1 μ')) : J p l e R s m args below meth c nL G A Q cells slots pc loc st (joinM μ1 μ2) := by
  rw [join_c hd0]
  refine j_lawV X hd0.symm hM hT hd hR hm hc hn hst hW hdg hpc hf (fun r μ' hdi hp => ?_)
  rw [← join_c hdi.symm]
  exact k r μ' hdi.symm hp
variable {b0 L : Nat} {xs : Nat → Int32}
theorem j_sld (X : Cx p l s m args meth c cc nL ret own G A) (hX : va_X b0 L xs s s.heap) (hbl : b0 < s.heap.size) (hbA : ¬ A b0) {i : Int32} (hi : vp_in i L) (hdg : decode cc pc = .ok (.iaload, 1)) (hn : pc + 1 = pc') (k : J p l e R s m args below meth c nL G A Q cells slots pc' loc (.int (xs i.toNatClampNeg) :: rest) μ) : J p l e R s m args below meth c nL G A Q cells slots pc loc (.int i :: .ref b0 :: rest) μ := by
  subst hn
  intro H locs ls hB hS hl
  exact va_sld X.1 X.2.1 hX hbl hbA hS hi hdg (k H locs ls hB hS hl)
theorem j_slen (X : Cx p l s m args meth c cc nL ret own G A) (hX : va_X b0 L xs s s.heap) (hbl : b0 < s.heap.size) (hbA : ¬ A b0) (hdg : decode cc pc = .ok (.arraylength, 1)) (hn : pc + 1 = pc') (k : J p l e R s m args below meth c nL G A Q cells slots pc' loc (.int (nI L) :: rest) μ) : J p l e R s m args below meth c nL G A Q cells slots pc loc (.ref b0 :: rest) μ := by
  subst hn
  intro H locs ls hB hS hl
  exact va_slen X.1 X.2.1 hX hbl hbA hS hdg (k H locs ls hB hS hl)
theorem j_tswOut (X : Cx p l s m args meth c cc nL ret own G A) {dflt lo hi : Int} {offs : Array Int} {len : Nat} {x : Int32} {tgt : Nat} (hdg : decode cc pc = .ok (.tableswitch dflt lo hi offs, len)) (h : x.toInt < lo ∨ hi < x.toInt) (ht : (pc : Int) + dflt = (tgt : Int)) (k : J p l e R s m args below meth c nL G A Q cells slots tgt loc rest μ) : J p l e R s m args below meth c nL G A Q cells slots pc loc (.int x :: rest) μ := fun H locs ls hB hS hl => lv_tableOut X.1 X.2.1 hdg h ht (k H locs ls hB hS hl)
theorem j_tswIn (X : Cx p l s m args meth c cc nL ret own G A) {dflt lo hi : Int} {offs : Array Int} {len : Nat} {x : Int32} {off : Int} {tgt : Nat} (hdg : decode cc pc = .ok (.tableswitch dflt lo hi offs, len)) (h1 : ¬ x.toInt < lo) (h2 : ¬ hi < x.toInt) (ho : offs[(x.toInt - lo).toNat]? = some off) (ht : (pc : Int) + off = (tgt : Int)) (k : J p l e R s m args below meth c nL G A Q cells slots tgt loc rest μ) : J p l e R s m args below meth c nL G A Q cells slots pc loc (.int x :: rest) μ := fun H locs ls hB hS hl => lv_tableIn X.1 X.2.1 hdg h1 h2 ho ht (k H locs ls hB hS hl)
theorem j_lcmpEq (X : Cx p l s m args meth c cc nL ret own G A) {x z : Int64} (h : x = z) (hdg : decode cc pc = .ok (.lcmp, 1)) (hn : pc + 1 = pc') (k : J p l e R s m args below meth c nL G A Q cells slots pc' loc (.int 0 :: rest) μ) : J p l e R s m args below meth c nL G A Q cells slots pc loc (.long z :: .long x :: rest) μ := by
  subst hn; subst h
  intro H locs ls hB hS hl
  exact W.lcmp X.1 X.2.1 hdg (by
    have e0 : lg_cmp x x = 0 := by
      have h1 : ¬ x < x := by rw [Int64.lt_iff_toInt_lt]; omega
      simp [lg_cmp, h1]
    rw [e0]; exact k H locs ls hB hS hl)
end JW
end
