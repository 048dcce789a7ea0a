section
-- ===== PART A: goes FIRST, ahead of the names: the tables' words, and 'selects' of the private methods out of them =====
/-- a private method of a class that the tables say can be made, by its rows of tables_1 -/
def lw_okq (q : MethodName × Nat) : Prop := (q.1.cls ≠ "java/lang/invoke/MethodHandle" ∧ q.1.cls ≠ "java/lang/invoke/VarHandle") ∧ Cond.instantiable q.1.cls q.2 ∈ tables_1 ∧ Cond.privateMethod q.1 ∈ tables_1 ∧ Cond.instanceMethod q.1 ∈ tables_1
theorem lw_p0 : lw_okq (⟨"ArchiveShelf$Unpacker", "orderFixed", "()V"⟩, 16) := ⟨⟨by decide +kernel, by decide +kernel⟩, List.mem_of_getElem? (i := 81) (by decide +kernel), List.mem_of_getElem? (i := 111) (by decide +kernel), List.mem_of_getElem? (i := 112) (by decide +kernel)⟩
theorem lw_p1 : lw_okq (⟨"ArchiveShelf$Unpacker", "fillLengths", "(III)V"⟩, 16) := ⟨⟨by decide +kernel, by decide +kernel⟩, List.mem_of_getElem? (i := 81) (by decide +kernel), List.mem_of_getElem? (i := 115) (by decide +kernel), List.mem_of_getElem? (i := 116) (by decide +kernel)⟩
theorem lw_p2 : lw_okq (⟨"ArchiveShelf$Codes", "placeLengths", "()V"⟩, 5) := ⟨⟨by decide +kernel, by decide +kernel⟩, List.mem_of_getElem? (i := 87) (by decide +kernel), List.mem_of_getElem? (i := 129) (by decide +kernel), List.mem_of_getElem? (i := 130) (by decide +kernel)⟩
theorem lw_p3 : lw_okq (⟨"ArchiveShelf$Codes", "placeSymbol", "(II)V"⟩, 5) := ⟨⟨by decide +kernel, by decide +kernel⟩, List.mem_of_getElem? (i := 87) (by decide +kernel), List.mem_of_getElem? (i := 133) (by decide +kernel), List.mem_of_getElem? (i := 134) (by decide +kernel)⟩
theorem lw_p4 : lw_okq (⟨"ArchiveShelf$Packer", "addBits", "(II)V"⟩, 4) := ⟨⟨by decide +kernel, by decide +kernel⟩, List.mem_of_getElem? (i := 62) (by decide +kernel), List.mem_of_getElem? (i := 409) (by decide +kernel), List.mem_of_getElem? (i := 410) (by decide +kernel)⟩
theorem lw_p5 : lw_okq (⟨"ArchiveShelf$Packer", "longestBefore", "(LArchiveShelf$Bytes;I)I"⟩, 4) := ⟨⟨by decide +kernel, by decide +kernel⟩, List.mem_of_getElem? (i := 62) (by decide +kernel), List.mem_of_getElem? (i := 418) (by decide +kernel), List.mem_of_getElem? (i := 419) (by decide +kernel)⟩
theorem lw_p6 : lw_okq (⟨"ArchiveShelf$Packer", "lengthStep", "(I)I"⟩, 4) := ⟨⟨by decide +kernel, by decide +kernel⟩, List.mem_of_getElem? (i := 62) (by decide +kernel), List.mem_of_getElem? (i := 424) (by decide +kernel), List.mem_of_getElem? (i := 425) (by decide +kernel)⟩
theorem lw_p7 : lw_okq (⟨"ArchiveShelf$Packer", "addSymbol", "(I)V"⟩, 4) := ⟨⟨by decide +kernel, by decide +kernel⟩, List.mem_of_getElem? (i := 62) (by decide +kernel), List.mem_of_getElem? (i := 434) (by decide +kernel), List.mem_of_getElem? (i := 435) (by decide +kernel)⟩
theorem lw_p8 : lw_okq (⟨"ArchiveShelf$Packer", "addCode", "(II)V"⟩, 4) := ⟨⟨by decide +kernel, by decide +kernel⟩, List.mem_of_getElem? (i := 62) (by decide +kernel), List.mem_of_getElem? (i := 438) (by decide +kernel), List.mem_of_getElem? (i := 439) (by decide +kernel)⟩
theorem lw_p9 : lw_okq (⟨"ArchiveShelf$Packer", "distanceSymbol", "()I"⟩, 4) := ⟨⟨by decide +kernel, by decide +kernel⟩, List.mem_of_getElem? (i := 62) (by decide +kernel), List.mem_of_getElem? (i := 443) (by decide +kernel), List.mem_of_getElem? (i := 444) (by decide +kernel)⟩
theorem lw_p10 : lw_okq (⟨"ArchiveShelf$Unpacker", "takeBits", "(I)I"⟩, 16) := ⟨⟨by decide +kernel, by decide +kernel⟩, List.mem_of_getElem? (i := 81) (by decide +kernel), List.mem_of_getElem? (i := 468) (by decide +kernel), List.mem_of_getElem? (i := 469) (by decide +kernel)⟩
theorem lw_p11 : lw_okq (⟨"ArchiveShelf$Unpacker", "isStored", "()Z"⟩, 16) := ⟨⟨by decide +kernel, by decide +kernel⟩, List.mem_of_getElem? (i := 81) (by decide +kernel), List.mem_of_getElem? (i := 477) (by decide +kernel), List.mem_of_getElem? (i := 478) (by decide +kernel)⟩
theorem lw_p12 : lw_okq (⟨"ArchiveShelf$Unpacker", "areSymbols", "(LArchiveShelf$Codes;LArchiveShelf$Codes;)Z"⟩, 16) := ⟨⟨by decide +kernel, by decide +kernel⟩, List.mem_of_getElem? (i := 81) (by decide +kernel), List.mem_of_getElem? (i := 484) (by decide +kernel), List.mem_of_getElem? (i := 485) (by decide +kernel)⟩
theorem lw_p13 : lw_okq (⟨"ArchiveShelf$Unpacker", "takeSymbol", "(LArchiveShelf$Codes;I)I"⟩, 16) := ⟨⟨by decide +kernel, by decide +kernel⟩, List.mem_of_getElem? (i := 81) (by decide +kernel), List.mem_of_getElem? (i := 488) (by decide +kernel), List.mem_of_getElem? (i := 489) (by decide +kernel)⟩
theorem lw_p14 : lw_okq (⟨"ArchiveShelf$Unpacker", "isCopied", "(ILArchiveShelf$Codes;I)Z"⟩, 16) := ⟨⟨by decide +kernel, by decide +kernel⟩, List.mem_of_getElem? (i := 81) (by decide +kernel), List.mem_of_getElem? (i := 504) (by decide +kernel), List.mem_of_getElem? (i := 505) (by decide +kernel)⟩
theorem lw_p15 : lw_okq (⟨"ArchiveShelf$Unpacker", "areLengthCodes", "()Z"⟩, 16) := ⟨⟨by decide +kernel, by decide +kernel⟩, List.mem_of_getElem? (i := 81) (by decide +kernel), List.mem_of_getElem? (i := 512) (by decide +kernel), List.mem_of_getElem? (i := 513) (by decide +kernel)⟩
def lw_privs_1 : List (MethodName × Nat) := [(⟨"ArchiveShelf$Unpacker", "orderFixed", "()V"⟩, 16), (⟨"ArchiveShelf$Unpacker", "fillLengths", "(III)V"⟩, 16), (⟨"ArchiveShelf$Codes", "placeLengths", "()V"⟩, 5), (⟨"ArchiveShelf$Codes", "placeSymbol", "(II)V"⟩, 5), (⟨"ArchiveShelf$Packer", "addBits", "(II)V"⟩, 4), (⟨"ArchiveShelf$Packer", "longestBefore", "(LArchiveShelf$Bytes;I)I"⟩, 4), (⟨"ArchiveShelf$Packer", "lengthStep", "(I)I"⟩, 4), (⟨"ArchiveShelf$Packer", "addSymbol", "(I)V"⟩, 4), (⟨"ArchiveShelf$Packer", "addCode", "(II)V"⟩, 4), (⟨"ArchiveShelf$Packer", "distanceSymbol", "()I"⟩, 4), (⟨"ArchiveShelf$Unpacker", "takeBits", "(I)I"⟩, 16), (⟨"ArchiveShelf$Unpacker", "isStored", "()Z"⟩, 16), (⟨"ArchiveShelf$Unpacker", "areSymbols", "(LArchiveShelf$Codes;LArchiveShelf$Codes;)Z"⟩, 16), (⟨"ArchiveShelf$Unpacker", "takeSymbol", "(LArchiveShelf$Codes;I)I"⟩, 16), (⟨"ArchiveShelf$Unpacker", "isCopied", "(ILArchiveShelf$Codes;I)Z"⟩, 16), (⟨"ArchiveShelf$Unpacker", "areLengthCodes", "()Z"⟩, 16)]
theorem lw_r1 : ∀ q ∈ lw_privs_1, lw_okq q := List.forall_mem_cons.mpr ⟨lw_p0, List.forall_mem_cons.mpr ⟨lw_p1, List.forall_mem_cons.mpr ⟨lw_p2, List.forall_mem_cons.mpr ⟨lw_p3, List.forall_mem_cons.mpr ⟨lw_p4, List.forall_mem_cons.mpr ⟨lw_p5, List.forall_mem_cons.mpr ⟨lw_p6, List.forall_mem_cons.mpr ⟨lw_p7, List.forall_mem_cons.mpr ⟨lw_p8, List.forall_mem_cons.mpr ⟨lw_p9, List.forall_mem_cons.mpr ⟨lw_p10, List.forall_mem_cons.mpr ⟨lw_p11, List.forall_mem_cons.mpr ⟨lw_p12, List.forall_mem_cons.mpr ⟨lw_p13, List.forall_mem_cons.mpr ⟨lw_p14, List.forall_mem_cons.mpr ⟨lw_p15, fun _ h => absurd h List.not_mem_nil⟩⟩⟩⟩⟩⟩⟩⟩⟩⟩⟩⟩⟩⟩⟩⟩
theorem lw_p16 : lw_okq (⟨"ArchiveShelf$Unpacker", "areLengths", "()Z"⟩, 16) := ⟨⟨by decide +kernel, by decide +kernel⟩, List.mem_of_getElem? (i := 81) (by decide +kernel), List.mem_of_getElem? (i := 521) (by decide +kernel), List.mem_of_getElem? (i := 522) (by decide +kernel)⟩
theorem lw_p17 : lw_okq (⟨"ArchiveShelf$Unpacker", "isRepeated", "(I)Z"⟩, 16) := ⟨⟨by decide +kernel, by decide +kernel⟩, List.mem_of_getElem? (i := 81) (by decide +kernel), List.mem_of_getElem? (i := 525) (by decide +kernel), List.mem_of_getElem? (i := 526) (by decide +kernel)⟩
theorem lw_p18 : lw_okq (⟨"ArchiveShelf$Unpacker", "lengthAt", "(I)I"⟩, 16) := ⟨⟨by decide +kernel, by decide +kernel⟩, List.mem_of_getElem? (i := 81) (by decide +kernel), List.mem_of_getElem? (i := 529) (by decide +kernel), List.mem_of_getElem? (i := 530) (by decide +kernel)⟩
theorem lw_p19 : lw_okq (⟨"ArchiveShelf$Unpacker", "areSymbolLengths", "(I)Z"⟩, 16) := ⟨⟨by decide +kernel, by decide +kernel⟩, List.mem_of_getElem? (i := 81) (by decide +kernel), List.mem_of_getElem? (i := 533) (by decide +kernel), List.mem_of_getElem? (i := 534) (by decide +kernel)⟩
theorem lw_p20 : lw_okq (⟨"java/lang/Throwable", "fillInStackTrace", "(I)Ljava/lang/Throwable;"⟩, 6) := ⟨⟨by decide +kernel, by decide +kernel⟩, List.mem_of_getElem? (i := 603) (by decide +kernel), List.mem_of_getElem? (i := 601) (by decide +kernel), List.mem_of_getElem? (i := 602) (by decide +kernel)⟩
theorem lw_p21 : lw_okq (⟨"ArchiveShelf$Shelf", "isFirstOfChild", "(LArchiveShelf$Bytes;I)Z"⟩, 2) := ⟨⟨by decide +kernel, by decide +kernel⟩, List.mem_of_getElem? (i := 284) (by decide +kernel), List.mem_of_getElem? (i := 782) (by decide +kernel), List.mem_of_getElem? (i := 783) (by decide +kernel)⟩
theorem lw_p22 : lw_okq (⟨"ArchiveShelf", "archiveOf", "(I)LArchiveShelf$Archive;"⟩, 10) := ⟨⟨by decide +kernel, by decide +kernel⟩, List.mem_of_getElem? (i := 27) (by decide +kernel), List.mem_of_getElem? (i := 811) (by decide +kernel), List.mem_of_getElem? (i := 812) (by decide +kernel)⟩
theorem lw_p23 : lw_okq (⟨"ArchiveShelf$BlockArchive", "addHead", "(LArchiveShelf$Member;)V"⟩, 3) := ⟨⟨by decide +kernel, by decide +kernel⟩, List.mem_of_getElem? (i := 188) (by decide +kernel), List.mem_of_getElem? (i := 824) (by decide +kernel), List.mem_of_getElem? (i := 825) (by decide +kernel)⟩
theorem lw_p24 : lw_okq (⟨"ArchiveShelf$BlockArchive", "addOctal", "(II)V"⟩, 3) := ⟨⟨by decide +kernel, by decide +kernel⟩, List.mem_of_getElem? (i := 188) (by decide +kernel), List.mem_of_getElem? (i := 898) (by decide +kernel), List.mem_of_getElem? (i := 899) (by decide +kernel)⟩
theorem lw_p25 : lw_okq (⟨"ArchiveShelf$BlockArchive", "setSum", "(I)V"⟩, 3) := ⟨⟨by decide +kernel, by decide +kernel⟩, List.mem_of_getElem? (i := 188) (by decide +kernel), List.mem_of_getElem? (i := 909) (by decide +kernel), List.mem_of_getElem? (i := 910) (by decide +kernel)⟩
theorem lw_p26 : lw_okq (⟨"ArchiveShelf$BlockArchive", "sumOf", "(I)I"⟩, 3) := ⟨⟨by decide +kernel, by decide +kernel⟩, List.mem_of_getElem? (i := 188) (by decide +kernel), List.mem_of_getElem? (i := 913) (by decide +kernel), List.mem_of_getElem? (i := 914) (by decide +kernel)⟩
theorem lw_p27 : lw_okq (⟨"ArchiveShelf$DigitArchive", "addHead", "(IIII)V"⟩, 3) := ⟨⟨by decide +kernel, by decide +kernel⟩, List.mem_of_getElem? (i := 225) (by decide +kernel), List.mem_of_getElem? (i := 933) (by decide +kernel), List.mem_of_getElem? (i := 934) (by decide +kernel)⟩
theorem lw_p28 : lw_okq (⟨"ArchiveShelf$DigitArchive", "addNumber", "(I)V"⟩, 3) := ⟨⟨by decide +kernel, by decide +kernel⟩, List.mem_of_getElem? (i := 225) (by decide +kernel), List.mem_of_getElem? (i := 940) (by decide +kernel), List.mem_of_getElem? (i := 941) (by decide +kernel)⟩
theorem lw_p29 : lw_okq (⟨"ArchiveShelf$DigitArchive", "addRest", "()V"⟩, 3) := ⟨⟨by decide +kernel, by decide +kernel⟩, List.mem_of_getElem? (i := 225) (by decide +kernel), List.mem_of_getElem? (i := 948) (by decide +kernel), List.mem_of_getElem? (i := 949) (by decide +kernel)⟩
theorem lw_p30 : lw_okq (⟨"ArchiveShelf$EndArchive", "addLocal", "(LArchiveShelf$Member;I)V"⟩, 16) := ⟨⟨by decide +kernel, by decide +kernel⟩, List.mem_of_getElem? (i := 235) (by decide +kernel), List.mem_of_getElem? (i := 964) (by decide +kernel), List.mem_of_getElem? (i := 965) (by decide +kernel)⟩
theorem lw_p31 : lw_okq (⟨"ArchiveShelf$EndArchive", "setSize", "(II)V"⟩, 16) := ⟨⟨by decide +kernel, by decide +kernel⟩, List.mem_of_getElem? (i := 235) (by decide +kernel), List.mem_of_getElem? (i := 986) (by decide +kernel), List.mem_of_getElem? (i := 987) (by decide +kernel)⟩
def lw_privs_2 : List (MethodName × Nat) := [(⟨"ArchiveShelf$Unpacker", "areLengths", "()Z"⟩, 16), (⟨"ArchiveShelf$Unpacker", "isRepeated", "(I)Z"⟩, 16), (⟨"ArchiveShelf$Unpacker", "lengthAt", "(I)I"⟩, 16), (⟨"ArchiveShelf$Unpacker", "areSymbolLengths", "(I)Z"⟩, 16), (⟨"java/lang/Throwable", "fillInStackTrace", "(I)Ljava/lang/Throwable;"⟩, 6), (⟨"ArchiveShelf$Shelf", "isFirstOfChild", "(LArchiveShelf$Bytes;I)Z"⟩, 2), (⟨"ArchiveShelf", "archiveOf", "(I)LArchiveShelf$Archive;"⟩, 10), (⟨"ArchiveShelf$BlockArchive", "addHead", "(LArchiveShelf$Member;)V"⟩, 3), (⟨"ArchiveShelf$BlockArchive", "addOctal", "(II)V"⟩, 3), (⟨"ArchiveShelf$BlockArchive", "setSum", "(I)V"⟩, 3), (⟨"ArchiveShelf$BlockArchive", "sumOf", "(I)I"⟩, 3), (⟨"ArchiveShelf$DigitArchive", "addHead", "(IIII)V"⟩, 3), (⟨"ArchiveShelf$DigitArchive", "addNumber", "(I)V"⟩, 3), (⟨"ArchiveShelf$DigitArchive", "addRest", "()V"⟩, 3), (⟨"ArchiveShelf$EndArchive", "addLocal", "(LArchiveShelf$Member;I)V"⟩, 16), (⟨"ArchiveShelf$EndArchive", "setSize", "(II)V"⟩, 16)]
theorem lw_r2 : ∀ q ∈ lw_privs_2, lw_okq q := List.forall_mem_cons.mpr ⟨lw_p16, List.forall_mem_cons.mpr ⟨lw_p17, List.forall_mem_cons.mpr ⟨lw_p18, List.forall_mem_cons.mpr ⟨lw_p19, List.forall_mem_cons.mpr ⟨lw_p20, List.forall_mem_cons.mpr ⟨lw_p21, List.forall_mem_cons.mpr ⟨lw_p22, List.forall_mem_cons.mpr ⟨lw_p23, List.forall_mem_cons.mpr ⟨lw_p24, List.forall_mem_cons.mpr ⟨lw_p25, List.forall_mem_cons.mpr ⟨lw_p26, List.forall_mem_cons.mpr ⟨lw_p27, List.forall_mem_cons.mpr ⟨lw_p28, List.forall_mem_cons.mpr ⟨lw_p29, List.forall_mem_cons.mpr ⟨lw_p30, List.forall_mem_cons.mpr ⟨lw_p31, fun _ h => absurd h List.not_mem_nil⟩⟩⟩⟩⟩⟩⟩⟩⟩⟩⟩⟩⟩⟩⟩⟩
theorem lw_p32 : lw_okq (⟨"ArchiveShelf$EndArchive", "addEntries", "(LArchiveShelf$Shelf;)V"⟩, 16) := ⟨⟨by decide +kernel, by decide +kernel⟩, List.mem_of_getElem? (i := 235) (by decide +kernel), List.mem_of_getElem? (i := 991) (by decide +kernel), List.mem_of_getElem? (i := 992) (by decide +kernel)⟩
theorem lw_p33 : lw_okq (⟨"ArchiveShelf$BlockArchive", "isEmptyBlock", "(I)Z"⟩, 3) := ⟨⟨by decide +kernel, by decide +kernel⟩, List.mem_of_getElem? (i := 188) (by decide +kernel), List.mem_of_getElem? (i := 1021) (by decide +kernel), List.mem_of_getElem? (i := 1022) (by decide +kernel)⟩
theorem lw_p34 : lw_okq (⟨"ArchiveShelf$BlockArchive", "isHead", "(I)Z"⟩, 3) := ⟨⟨by decide +kernel, by decide +kernel⟩, List.mem_of_getElem? (i := 188) (by decide +kernel), List.mem_of_getElem? (i := 1039) (by decide +kernel), List.mem_of_getElem? (i := 1040) (by decide +kernel)⟩
theorem lw_p35 : lw_okq (⟨"ArchiveShelf$BlockArchive", "isSummed", "(I)Z"⟩, 3) := ⟨⟨by decide +kernel, by decide +kernel⟩, List.mem_of_getElem? (i := 188) (by decide +kernel), List.mem_of_getElem? (i := 1043) (by decide +kernel), List.mem_of_getElem? (i := 1044) (by decide +kernel)⟩
theorem lw_p36 : lw_okq (⟨"ArchiveShelf$BlockArchive", "areDigits", "(III)Z"⟩, 3) := ⟨⟨by decide +kernel, by decide +kernel⟩, List.mem_of_getElem? (i := 188) (by decide +kernel), List.mem_of_getElem? (i := 1047) (by decide +kernel), List.mem_of_getElem? (i := 1048) (by decide +kernel)⟩
theorem lw_p37 : lw_okq (⟨"ArchiveShelf$BlockArchive", "octal", "(II)J"⟩, 3) := ⟨⟨by decide +kernel, by decide +kernel⟩, List.mem_of_getElem? (i := 188) (by decide +kernel), List.mem_of_getElem? (i := 1052) (by decide +kernel), List.mem_of_getElem? (i := 1053) (by decide +kernel)⟩
theorem lw_p38 : lw_okq (⟨"ArchiveShelf$BlockArchive", "isOctal", "(II)Z"⟩, 3) := ⟨⟨by decide +kernel, by decide +kernel⟩, List.mem_of_getElem? (i := 188) (by decide +kernel), List.mem_of_getElem? (i := 1062) (by decide +kernel), List.mem_of_getElem? (i := 1063) (by decide +kernel)⟩
theorem lw_p39 : lw_okq (⟨"ArchiveShelf$BlockArchive", "isSorted", "(I)Z"⟩, 3) := ⟨⟨by decide +kernel, by decide +kernel⟩, List.mem_of_getElem? (i := 188) (by decide +kernel), List.mem_of_getElem? (i := 1066) (by decide +kernel), List.mem_of_getElem? (i := 1067) (by decide +kernel)⟩
theorem lw_p40 : lw_okq (⟨"ArchiveShelf$BlockArchive", "spell", "(IZ)V"⟩, 3) := ⟨⟨by decide +kernel, by decide +kernel⟩, List.mem_of_getElem? (i := 188) (by decide +kernel), List.mem_of_getElem? (i := 1070) (by decide +kernel), List.mem_of_getElem? (i := 1071) (by decide +kernel)⟩
theorem lw_p41 : lw_okq (⟨"ArchiveShelf$BlockArchive", "addToPath", "(II)V"⟩, 3) := ⟨⟨by decide +kernel, by decide +kernel⟩, List.mem_of_getElem? (i := 188) (by decide +kernel), List.mem_of_getElem? (i := 1075) (by decide +kernel), List.mem_of_getElem? (i := 1076) (by decide +kernel)⟩
theorem lw_p42 : lw_okq (⟨"ArchiveShelf$DigitArchive", "isHead", "(I)Z"⟩, 3) := ⟨⟨by decide +kernel, by decide +kernel⟩, List.mem_of_getElem? (i := 225) (by decide +kernel), List.mem_of_getElem? (i := 1098) (by decide +kernel), List.mem_of_getElem? (i := 1099) (by decide +kernel)⟩
theorem lw_p43 : lw_okq (⟨"ArchiveShelf$DigitArchive", "isSpelt", "(I)Z"⟩, 3) := ⟨⟨by decide +kernel, by decide +kernel⟩, List.mem_of_getElem? (i := 225) (by decide +kernel), List.mem_of_getElem? (i := 1110) (by decide +kernel), List.mem_of_getElem? (i := 1111) (by decide +kernel)⟩
theorem lw_p44 : lw_okq (⟨"ArchiveShelf$DigitArchive", "number", "(I)J"⟩, 3) := ⟨⟨by decide +kernel, by decide +kernel⟩, List.mem_of_getElem? (i := 225) (by decide +kernel), List.mem_of_getElem? (i := 1114) (by decide +kernel), List.mem_of_getElem? (i := 1115) (by decide +kernel)⟩
theorem lw_p45 : lw_okq (⟨"ArchiveShelf$DigitArchive", "isSized", "(II)Z"⟩, 3) := ⟨⟨by decide +kernel, by decide +kernel⟩, List.mem_of_getElem? (i := 225) (by decide +kernel), List.mem_of_getElem? (i := 1127) (by decide +kernel), List.mem_of_getElem? (i := 1128) (by decide +kernel)⟩
theorem lw_p46 : lw_okq (⟨"ArchiveShelf$DigitArchive", "isMember", "(I)Z"⟩, 3) := ⟨⟨by decide +kernel, by decide +kernel⟩, List.mem_of_getElem? (i := 225) (by decide +kernel), List.mem_of_getElem? (i := 1134) (by decide +kernel), List.mem_of_getElem? (i := 1135) (by decide +kernel)⟩
theorem lw_p47 : lw_okq (⟨"ArchiveShelf$DigitArchive", "sortOf", "(I)I"⟩, 3) := ⟨⟨by decide +kernel, by decide +kernel⟩, List.mem_of_getElem? (i := 225) (by decide +kernel), List.mem_of_getElem? (i := 1138) (by decide +kernel), List.mem_of_getElem? (i := 1139) (by decide +kernel)⟩
def lw_privs_3 : List (MethodName × Nat) := [(⟨"ArchiveShelf$EndArchive", "addEntries", "(LArchiveShelf$Shelf;)V"⟩, 16), (⟨"ArchiveShelf$BlockArchive", "isEmptyBlock", "(I)Z"⟩, 3), (⟨"ArchiveShelf$BlockArchive", "isHead", "(I)Z"⟩, 3), (⟨"ArchiveShelf$BlockArchive", "isSummed", "(I)Z"⟩, 3), (⟨"ArchiveShelf$BlockArchive", "areDigits", "(III)Z"⟩, 3), (⟨"ArchiveShelf$BlockArchive", "octal", "(II)J"⟩, 3), (⟨"ArchiveShelf$BlockArchive", "isOctal", "(II)Z"⟩, 3), (⟨"ArchiveShelf$BlockArchive", "isSorted", "(I)Z"⟩, 3), (⟨"ArchiveShelf$BlockArchive", "spell", "(IZ)V"⟩, 3), (⟨"ArchiveShelf$BlockArchive", "addToPath", "(II)V"⟩, 3), (⟨"ArchiveShelf$DigitArchive", "isHead", "(I)Z"⟩, 3), (⟨"ArchiveShelf$DigitArchive", "isSpelt", "(I)Z"⟩, 3), (⟨"ArchiveShelf$DigitArchive", "number", "(I)J"⟩, 3), (⟨"ArchiveShelf$DigitArchive", "isSized", "(II)Z"⟩, 3), (⟨"ArchiveShelf$DigitArchive", "isMember", "(I)Z"⟩, 3), (⟨"ArchiveShelf$DigitArchive", "sortOf", "(I)I"⟩, 3)]
theorem lw_r3 : ∀ q ∈ lw_privs_3, lw_okq q := List.forall_mem_cons.mpr ⟨lw_p32, List.forall_mem_cons.mpr ⟨lw_p33, List.forall_mem_cons.mpr ⟨lw_p34, List.forall_mem_cons.mpr ⟨lw_p35, List.forall_mem_cons.mpr ⟨lw_p36, List.forall_mem_cons.mpr ⟨lw_p37, List.forall_mem_cons.mpr ⟨lw_p38, List.forall_mem_cons.mpr ⟨lw_p39, List.forall_mem_cons.mpr ⟨lw_p40, List.forall_mem_cons.mpr ⟨lw_p41, List.forall_mem_cons.mpr ⟨lw_p42, List.forall_mem_cons.mpr ⟨lw_p43, List.forall_mem_cons.mpr ⟨lw_p44, List.forall_mem_cons.mpr ⟨lw_p45, List.forall_mem_cons.mpr ⟨lw_p46, List.forall_mem_cons.mpr ⟨lw_p47, fun _ h => absurd h List.not_mem_nil⟩⟩⟩⟩⟩⟩⟩⟩⟩⟩⟩⟩⟩⟩⟩⟩
theorem lw_p48 : lw_okq (⟨"ArchiveShelf$DigitArchive", "isDirectory", "(I)Z"⟩, 3) := ⟨⟨by decide +kernel, by decide +kernel⟩, List.mem_of_getElem? (i := 225) (by decide +kernel), List.mem_of_getElem? (i := 1148) (by decide +kernel), List.mem_of_getElem? (i := 1149) (by decide +kernel)⟩
theorem lw_p49 : lw_okq (⟨"ArchiveShelf$EndArchive", "isClosing", "()Z"⟩, 16) := ⟨⟨by decide +kernel, by decide +kernel⟩, List.mem_of_getElem? (i := 235) (by decide +kernel), List.mem_of_getElem? (i := 1161) (by decide +kernel), List.mem_of_getElem? (i := 1162) (by decide +kernel)⟩
theorem lw_p50 : lw_okq (⟨"ArchiveShelf$EndArchive", "isZero", "(III)Z"⟩, 16) := ⟨⟨by decide +kernel, by decide +kernel⟩, List.mem_of_getElem? (i := 235) (by decide +kernel), List.mem_of_getElem? (i := 1169) (by decide +kernel), List.mem_of_getElem? (i := 1170) (by decide +kernel)⟩
theorem lw_p51 : lw_okq (⟨"ArchiveShelf$EndArchive", "isEntry", "(I)Z"⟩, 16) := ⟨⟨by decide +kernel, by decide +kernel⟩, List.mem_of_getElem? (i := 235) (by decide +kernel), List.mem_of_getElem? (i := 1174) (by decide +kernel), List.mem_of_getElem? (i := 1175) (by decide +kernel)⟩
theorem lw_p52 : lw_okq (⟨"ArchiveShelf$EndArchive", "isMember", "(I)Z"⟩, 16) := ⟨⟨by decide +kernel, by decide +kernel⟩, List.mem_of_getElem? (i := 235) (by decide +kernel), List.mem_of_getElem? (i := 1178) (by decide +kernel), List.mem_of_getElem? (i := 1179) (by decide +kernel)⟩
theorem lw_p53 : lw_okq (⟨"ArchiveShelf$EndArchive", "isLocal", "(I)Z"⟩, 16) := ⟨⟨by decide +kernel, by decide +kernel⟩, List.mem_of_getElem? (i := 235) (by decide +kernel), List.mem_of_getElem? (i := 1188) (by decide +kernel), List.mem_of_getElem? (i := 1189) (by decide +kernel)⟩
theorem lw_p54 : lw_okq (⟨"ArchiveShelf$EndArchive", "isSame", "(I)Z"⟩, 16) := ⟨⟨by decide +kernel, by decide +kernel⟩, List.mem_of_getElem? (i := 235) (by decide +kernel), List.mem_of_getElem? (i := 1193) (by decide +kernel), List.mem_of_getElem? (i := 1194) (by decide +kernel)⟩
theorem lw_p55 : lw_okq (⟨"ArchiveShelf$EndArchive", "isBody", "(I)Z"⟩, 16) := ⟨⟨by decide +kernel, by decide +kernel⟩, List.mem_of_getElem? (i := 235) (by decide +kernel), List.mem_of_getElem? (i := 1202) (by decide +kernel), List.mem_of_getElem? (i := 1203) (by decide +kernel)⟩
theorem lw_p56 : lw_okq (⟨"ArchiveShelfModel", "refuses", "(ZI)Z"⟩, 39) := ⟨⟨by decide +kernel, by decide +kernel⟩, List.mem_of_getElem? (i := 1266) (by decide +kernel), List.mem_of_getElem? (i := 1403) (by decide +kernel), List.mem_of_getElem? (i := 1404) (by decide +kernel)⟩
theorem lw_p57 : lw_okq (⟨"ArchiveShelfModel", "put", "(I)V"⟩, 39) := ⟨⟨by decide +kernel, by decide +kernel⟩, List.mem_of_getElem? (i := 1266) (by decide +kernel), List.mem_of_getElem? (i := 1420) (by decide +kernel), List.mem_of_getElem? (i := 1421) (by decide +kernel)⟩
theorem lw_p58 : lw_okq (⟨"ArchiveShelfModel", "isName", "()Z"⟩, 39) := ⟨⟨by decide +kernel, by decide +kernel⟩, List.mem_of_getElem? (i := 1266) (by decide +kernel), List.mem_of_getElem? (i := 1449) (by decide +kernel), List.mem_of_getElem? (i := 1450) (by decide +kernel)⟩
theorem lw_p59 : lw_okq (⟨"ArchiveShelfModel", "isInTheWay", "(II)Z"⟩, 39) := ⟨⟨by decide +kernel, by decide +kernel⟩, List.mem_of_getElem? (i := 1266) (by decide +kernel), List.mem_of_getElem? (i := 1456) (by decide +kernel), List.mem_of_getElem? (i := 1457) (by decide +kernel)⟩
theorem lw_p60 : lw_okq (⟨"ArchiveShelfModel", "isUnderNew", "(I)Z"⟩, 39) := ⟨⟨by decide +kernel, by decide +kernel⟩, List.mem_of_getElem? (i := 1266) (by decide +kernel), List.mem_of_getElem? (i := 1460) (by decide +kernel), List.mem_of_getElem? (i := 1461) (by decide +kernel)⟩
theorem lw_p61 : lw_okq (⟨"ArchiveShelfModel", "nameAt", "(II)I"⟩, 39) := ⟨⟨by decide +kernel, by decide +kernel⟩, List.mem_of_getElem? (i := 1266) (by decide +kernel), List.mem_of_getElem? (i := 1464) (by decide +kernel), List.mem_of_getElem? (i := 1465) (by decide +kernel)⟩
theorem lw_p62 : lw_okq (⟨"ArchiveShelfModel", "isNewUnder", "(I)Z"⟩, 39) := ⟨⟨by decide +kernel, by decide +kernel⟩, List.mem_of_getElem? (i := 1266) (by decide +kernel), List.mem_of_getElem? (i := 1468) (by decide +kernel), List.mem_of_getElem? (i := 1469) (by decide +kernel)⟩
theorem lw_p63 : lw_okq (⟨"ArchiveShelfModel", "isNamed", "(I)Z"⟩, 39) := ⟨⟨by decide +kernel, by decide +kernel⟩, List.mem_of_getElem? (i := 1266) (by decide +kernel), List.mem_of_getElem? (i := 1472) (by decide +kernel), List.mem_of_getElem? (i := 1473) (by decide +kernel)⟩
def lw_privs_4 : List (MethodName × Nat) := [(⟨"ArchiveShelf$DigitArchive", "isDirectory", "(I)Z"⟩, 3), (⟨"ArchiveShelf$EndArchive", "isClosing", "()Z"⟩, 16), (⟨"ArchiveShelf$EndArchive", "isZero", "(III)Z"⟩, 16), (⟨"ArchiveShelf$EndArchive", "isEntry", "(I)Z"⟩, 16), (⟨"ArchiveShelf$EndArchive", "isMember", "(I)Z"⟩, 16), (⟨"ArchiveShelf$EndArchive", "isLocal", "(I)Z"⟩, 16), (⟨"ArchiveShelf$EndArchive", "isSame", "(I)Z"⟩, 16), (⟨"ArchiveShelf$EndArchive", "isBody", "(I)Z"⟩, 16), (⟨"ArchiveShelfModel", "refuses", "(ZI)Z"⟩, 39), (⟨"ArchiveShelfModel", "put", "(I)V"⟩, 39), (⟨"ArchiveShelfModel", "isName", "()Z"⟩, 39), (⟨"ArchiveShelfModel", "isInTheWay", "(II)Z"⟩, 39), (⟨"ArchiveShelfModel", "isUnderNew", "(I)Z"⟩, 39), (⟨"ArchiveShelfModel", "nameAt", "(II)I"⟩, 39), (⟨"ArchiveShelfModel", "isNewUnder", "(I)Z"⟩, 39), (⟨"ArchiveShelfModel", "isNamed", "(I)Z"⟩, 39)]
theorem lw_r4 : ∀ q ∈ lw_privs_4, lw_okq q := List.forall_mem_cons.mpr ⟨lw_p48, List.forall_mem_cons.mpr ⟨lw_p49, List.forall_mem_cons.mpr ⟨lw_p50, List.forall_mem_cons.mpr ⟨lw_p51, List.forall_mem_cons.mpr ⟨lw_p52, List.forall_mem_cons.mpr ⟨lw_p53, List.forall_mem_cons.mpr ⟨lw_p54, List.forall_mem_cons.mpr ⟨lw_p55, List.forall_mem_cons.mpr ⟨lw_p56, List.forall_mem_cons.mpr ⟨lw_p57, List.forall_mem_cons.mpr ⟨lw_p58, List.forall_mem_cons.mpr ⟨lw_p59, List.forall_mem_cons.mpr ⟨lw_p60, List.forall_mem_cons.mpr ⟨lw_p61, List.forall_mem_cons.mpr ⟨lw_p62, List.forall_mem_cons.mpr ⟨lw_p63, fun _ h => absurd h List.not_mem_nil⟩⟩⟩⟩⟩⟩⟩⟩⟩⟩⟩⟩⟩⟩⟩⟩
theorem lw_p64 : lw_okq (⟨"ArchiveShelfModel", "seek", "(II)I"⟩, 39) := ⟨⟨by decide +kernel, by decide +kernel⟩, List.mem_of_getElem? (i := 1266) (by decide +kernel), List.mem_of_getElem? (i := 1476) (by decide +kernel), List.mem_of_getElem? (i := 1477) (by decide +kernel)⟩
theorem lw_p65 : lw_okq (⟨"ArchiveShelfModel", "stand", "(II)I"⟩, 39) := ⟨⟨by decide +kernel, by decide +kernel⟩, List.mem_of_getElem? (i := 1266) (by decide +kernel), List.mem_of_getElem? (i := 1480) (by decide +kernel), List.mem_of_getElem? (i := 1481) (by decide +kernel)⟩
theorem lw_p66 : lw_okq (⟨"ArchiveShelfModel", "move", "(II)V"⟩, 39) := ⟨⟨by decide +kernel, by decide +kernel⟩, List.mem_of_getElem? (i := 1266) (by decide +kernel), List.mem_of_getElem? (i := 1484) (by decide +kernel), List.mem_of_getElem? (i := 1485) (by decide +kernel)⟩
theorem lw_p67 : lw_okq (⟨"ArchiveShelfModel", "takePath", "()V"⟩, 39) := ⟨⟨by decide +kernel, by decide +kernel⟩, List.mem_of_getElem? (i := 1266) (by decide +kernel), List.mem_of_getElem? (i := 1505) (by decide +kernel), List.mem_of_getElem? (i := 1506) (by decide +kernel)⟩
theorem lw_p68 : lw_okq (⟨"ArchiveShelfModel", "isFresh", "(I)Z"⟩, 39) := ⟨⟨by decide +kernel, by decide +kernel⟩, List.mem_of_getElem? (i := 1266) (by decide +kernel), List.mem_of_getElem? (i := 1513) (by decide +kernel), List.mem_of_getElem? (i := 1514) (by decide +kernel)⟩
theorem lw_p69 : lw_okq (⟨"ArchiveShelfModel", "findPart", "(I)V"⟩, 39) := ⟨⟨by decide +kernel, by decide +kernel⟩, List.mem_of_getElem? (i := 1266) (by decide +kernel), List.mem_of_getElem? (i := 1517) (by decide +kernel), List.mem_of_getElem? (i := 1518) (by decide +kernel)⟩
theorem lw_p70 : lw_okq (⟨"ArchiveShelfModel", "isSamePart", "(IIII)Z"⟩, 39) := ⟨⟨by decide +kernel, by decide +kernel⟩, List.mem_of_getElem? (i := 1266) (by decide +kernel), List.mem_of_getElem? (i := 1521) (by decide +kernel), List.mem_of_getElem? (i := 1522) (by decide +kernel)⟩
theorem lw_p71 : lw_okq (⟨"ArchiveShelfModel", "readBlocks", "()Z"⟩, 39) := ⟨⟨by decide +kernel, by decide +kernel⟩, List.mem_of_getElem? (i := 1266) (by decide +kernel), List.mem_of_getElem? (i := 1530) (by decide +kernel), List.mem_of_getElem? (i := 1531) (by decide +kernel)⟩
theorem lw_p72 : lw_okq (⟨"ArchiveShelfModel", "reaches", "(J)Z"⟩, 39) := ⟨⟨by decide +kernel, by decide +kernel⟩, List.mem_of_getElem? (i := 1266) (by decide +kernel), List.mem_of_getElem? (i := 1534) (by decide +kernel), List.mem_of_getElem? (i := 1535) (by decide +kernel)⟩
theorem lw_p73 : lw_okq (⟨"ArchiveShelfModel", "fails", "(II)Z"⟩, 39) := ⟨⟨by decide +kernel, by decide +kernel⟩, List.mem_of_getElem? (i := 1266) (by decide +kernel), List.mem_of_getElem? (i := 1538) (by decide +kernel), List.mem_of_getElem? (i := 1539) (by decide +kernel)⟩
theorem lw_p74 : lw_okq (⟨"ArchiveShelfModel", "isBlank", "(I)Z"⟩, 39) := ⟨⟨by decide +kernel, by decide +kernel⟩, List.mem_of_getElem? (i := 1266) (by decide +kernel), List.mem_of_getElem? (i := 1542) (by decide +kernel), List.mem_of_getElem? (i := 1543) (by decide +kernel)⟩
theorem lw_p75 : lw_okq (⟨"ArchiveShelfModel", "areZeros", "(I)Z"⟩, 39) := ⟨⟨by decide +kernel, by decide +kernel⟩, List.mem_of_getElem? (i := 1266) (by decide +kernel), List.mem_of_getElem? (i := 1546) (by decide +kernel), List.mem_of_getElem? (i := 1547) (by decide +kernel)⟩
theorem lw_p76 : lw_okq (⟨"ArchiveShelfModel", "readBlockHead", "(I)Z"⟩, 39) := ⟨⟨by decide +kernel, by decide +kernel⟩, List.mem_of_getElem? (i := 1266) (by decide +kernel), List.mem_of_getElem? (i := 1550) (by decide +kernel), List.mem_of_getElem? (i := 1551) (by decide +kernel)⟩
theorem lw_p77 : lw_okq (⟨"ArchiveShelfModel", "readSum", "(I)Z"⟩, 39) := ⟨⟨by decide +kernel, by decide +kernel⟩, List.mem_of_getElem? (i := 1266) (by decide +kernel), List.mem_of_getElem? (i := 1554) (by decide +kernel), List.mem_of_getElem? (i := 1555) (by decide +kernel)⟩
theorem lw_p78 : lw_okq (⟨"ArchiveShelfModel", "readMark", "(I)Z"⟩, 39) := ⟨⟨by decide +kernel, by decide +kernel⟩, List.mem_of_getElem? (i := 1266) (by decide +kernel), List.mem_of_getElem? (i := 1562) (by decide +kernel), List.mem_of_getElem? (i := 1563) (by decide +kernel)⟩
theorem lw_p79 : lw_okq (⟨"ArchiveShelfModel", "readOctal", "(II)Z"⟩, 39) := ⟨⟨by decide +kernel, by decide +kernel⟩, List.mem_of_getElem? (i := 1266) (by decide +kernel), List.mem_of_getElem? (i := 1566) (by decide +kernel), List.mem_of_getElem? (i := 1567) (by decide +kernel)⟩
def lw_privs_5 : List (MethodName × Nat) := [(⟨"ArchiveShelfModel", "seek", "(II)I"⟩, 39), (⟨"ArchiveShelfModel", "stand", "(II)I"⟩, 39), (⟨"ArchiveShelfModel", "move", "(II)V"⟩, 39), (⟨"ArchiveShelfModel", "takePath", "()V"⟩, 39), (⟨"ArchiveShelfModel", "isFresh", "(I)Z"⟩, 39), (⟨"ArchiveShelfModel", "findPart", "(I)V"⟩, 39), (⟨"ArchiveShelfModel", "isSamePart", "(IIII)Z"⟩, 39), (⟨"ArchiveShelfModel", "readBlocks", "()Z"⟩, 39), (⟨"ArchiveShelfModel", "reaches", "(J)Z"⟩, 39), (⟨"ArchiveShelfModel", "fails", "(II)Z"⟩, 39), (⟨"ArchiveShelfModel", "isBlank", "(I)Z"⟩, 39), (⟨"ArchiveShelfModel", "areZeros", "(I)Z"⟩, 39), (⟨"ArchiveShelfModel", "readBlockHead", "(I)Z"⟩, 39), (⟨"ArchiveShelfModel", "readSum", "(I)Z"⟩, 39), (⟨"ArchiveShelfModel", "readMark", "(I)Z"⟩, 39), (⟨"ArchiveShelfModel", "readOctal", "(II)Z"⟩, 39)]
theorem lw_r5 : ∀ q ∈ lw_privs_5, lw_okq q := List.forall_mem_cons.mpr ⟨lw_p64, List.forall_mem_cons.mpr ⟨lw_p65, List.forall_mem_cons.mpr ⟨lw_p66, List.forall_mem_cons.mpr ⟨lw_p67, List.forall_mem_cons.mpr ⟨lw_p68, List.forall_mem_cons.mpr ⟨lw_p69, List.forall_mem_cons.mpr ⟨lw_p70, List.forall_mem_cons.mpr ⟨lw_p71, List.forall_mem_cons.mpr ⟨lw_p72, List.forall_mem_cons.mpr ⟨lw_p73, List.forall_mem_cons.mpr ⟨lw_p74, List.forall_mem_cons.mpr ⟨lw_p75, List.forall_mem_cons.mpr ⟨lw_p76, List.forall_mem_cons.mpr ⟨lw_p77, List.forall_mem_cons.mpr ⟨lw_p78, List.forall_mem_cons.mpr ⟨lw_p79, fun _ h => absurd h List.not_mem_nil⟩⟩⟩⟩⟩⟩⟩⟩⟩⟩⟩⟩⟩⟩⟩⟩
theorem lw_p80 : lw_okq (⟨"ArchiveShelfModel", "addName", "(II)V"⟩, 39) := ⟨⟨by decide +kernel, by decide +kernel⟩, List.mem_of_getElem? (i := 1266) (by decide +kernel), List.mem_of_getElem? (i := 1570) (by decide +kernel), List.mem_of_getElem? (i := 1571) (by decide +kernel)⟩
theorem lw_p81 : lw_okq (⟨"ArchiveShelfModel", "takeBytes", "(II)V"⟩, 39) := ⟨⟨by decide +kernel, by decide +kernel⟩, List.mem_of_getElem? (i := 1266) (by decide +kernel), List.mem_of_getElem? (i := 1574) (by decide +kernel), List.mem_of_getElem? (i := 1575) (by decide +kernel)⟩
theorem lw_p82 : lw_okq (⟨"ArchiveShelfModel", "comes", "(I)Z"⟩, 39) := ⟨⟨by decide +kernel, by decide +kernel⟩, List.mem_of_getElem? (i := 1266) (by decide +kernel), List.mem_of_getElem? (i := 1578) (by decide +kernel), List.mem_of_getElem? (i := 1579) (by decide +kernel)⟩
theorem lw_p83 : lw_okq (⟨"ArchiveShelfModel", "readDigits", "()Z"⟩, 39) := ⟨⟨by decide +kernel, by decide +kernel⟩, List.mem_of_getElem? (i := 1266) (by decide +kernel), List.mem_of_getElem? (i := 1582) (by decide +kernel), List.mem_of_getElem? (i := 1583) (by decide +kernel)⟩
theorem lw_p84 : lw_okq (⟨"ArchiveShelfModel", "readDigitsHead", "(I)Z"⟩, 39) := ⟨⟨by decide +kernel, by decide +kernel⟩, List.mem_of_getElem? (i := 1266) (by decide +kernel), List.mem_of_getElem? (i := 1586) (by decide +kernel), List.mem_of_getElem? (i := 1587) (by decide +kernel)⟩
theorem lw_p85 : lw_okq (⟨"ArchiveShelfModel", "hexAt", "(I)J"⟩, 39) := ⟨⟨by decide +kernel, by decide +kernel⟩, List.mem_of_getElem? (i := 1266) (by decide +kernel), List.mem_of_getElem? (i := 1598) (by decide +kernel), List.mem_of_getElem? (i := 1599) (by decide +kernel)⟩
theorem lw_p86 : lw_okq (⟨"ArchiveShelfModel", "isTrailer", "()Z"⟩, 39) := ⟨⟨by decide +kernel, by decide +kernel⟩, List.mem_of_getElem? (i := 1266) (by decide +kernel), List.mem_of_getElem? (i := 1604) (by decide +kernel), List.mem_of_getElem? (i := 1605) (by decide +kernel)⟩
theorem lw_p87 : lw_okq (⟨"ArchiveShelfModel", "readDirectory", "()Z"⟩, 39) := ⟨⟨by decide +kernel, by decide +kernel⟩, List.mem_of_getElem? (i := 1266) (by decide +kernel), List.mem_of_getElem? (i := 1616) (by decide +kernel), List.mem_of_getElem? (i := 1617) (by decide +kernel)⟩
theorem lw_p88 : lw_okq (⟨"ArchiveShelfModel", "readEnd", "(I)Z"⟩, 39) := ⟨⟨by decide +kernel, by decide +kernel⟩, List.mem_of_getElem? (i := 1266) (by decide +kernel), List.mem_of_getElem? (i := 1620) (by decide +kernel), List.mem_of_getElem? (i := 1621) (by decide +kernel)⟩
theorem lw_p89 : lw_okq (⟨"ArchiveShelfModel", "isRow", "(IIIIII)Z"⟩, 39) := ⟨⟨by decide +kernel, by decide +kernel⟩, List.mem_of_getElem? (i := 1266) (by decide +kernel), List.mem_of_getElem? (i := 1624) (by decide +kernel), List.mem_of_getElem? (i := 1625) (by decide +kernel)⟩
theorem lw_p90 : lw_okq (⟨"ArchiveShelfModel", "isZeroAt", "(III)Z"⟩, 39) := ⟨⟨by decide +kernel, by decide +kernel⟩, List.mem_of_getElem? (i := 1266) (by decide +kernel), List.mem_of_getElem? (i := 1628) (by decide +kernel), List.mem_of_getElem? (i := 1629) (by decide +kernel)⟩
theorem lw_p91 : lw_okq (⟨"ArchiveShelfModel", "twoAt", "(I)I"⟩, 39) := ⟨⟨by decide +kernel, by decide +kernel⟩, List.mem_of_getElem? (i := 1266) (by decide +kernel), List.mem_of_getElem? (i := 1632) (by decide +kernel), List.mem_of_getElem? (i := 1633) (by decide +kernel)⟩
theorem lw_p92 : lw_okq (⟨"ArchiveShelfModel", "fourAt", "(I)J"⟩, 39) := ⟨⟨by decide +kernel, by decide +kernel⟩, List.mem_of_getElem? (i := 1266) (by decide +kernel), List.mem_of_getElem? (i := 1636) (by decide +kernel), List.mem_of_getElem? (i := 1637) (by decide +kernel)⟩
theorem lw_p93 : lw_okq (⟨"ArchiveShelfModel", "readEntryHead", "(II)Z"⟩, 39) := ⟨⟨by decide +kernel, by decide +kernel⟩, List.mem_of_getElem? (i := 1266) (by decide +kernel), List.mem_of_getElem? (i := 1640) (by decide +kernel), List.mem_of_getElem? (i := 1641) (by decide +kernel)⟩
theorem lw_p94 : lw_okq (⟨"ArchiveShelfModel", "readLocal", "(II)Z"⟩, 39) := ⟨⟨by decide +kernel, by decide +kernel⟩, List.mem_of_getElem? (i := 1266) (by decide +kernel), List.mem_of_getElem? (i := 1644) (by decide +kernel), List.mem_of_getElem? (i := 1645) (by decide +kernel)⟩
theorem lw_p95 : lw_okq (⟨"ArchiveShelfModel", "isAsThere", "(III)Z"⟩, 39) := ⟨⟨by decide +kernel, by decide +kernel⟩, List.mem_of_getElem? (i := 1266) (by decide +kernel), List.mem_of_getElem? (i := 1649) (by decide +kernel), List.mem_of_getElem? (i := 1650) (by decide +kernel)⟩
def lw_privs_6 : List (MethodName × Nat) := [(⟨"ArchiveShelfModel", "addName", "(II)V"⟩, 39), (⟨"ArchiveShelfModel", "takeBytes", "(II)V"⟩, 39), (⟨"ArchiveShelfModel", "comes", "(I)Z"⟩, 39), (⟨"ArchiveShelfModel", "readDigits", "()Z"⟩, 39), (⟨"ArchiveShelfModel", "readDigitsHead", "(I)Z"⟩, 39), (⟨"ArchiveShelfModel", "hexAt", "(I)J"⟩, 39), (⟨"ArchiveShelfModel", "isTrailer", "()Z"⟩, 39), (⟨"ArchiveShelfModel", "readDirectory", "()Z"⟩, 39), (⟨"ArchiveShelfModel", "readEnd", "(I)Z"⟩, 39), (⟨"ArchiveShelfModel", "isRow", "(IIIIII)Z"⟩, 39), (⟨"ArchiveShelfModel", "isZeroAt", "(III)Z"⟩, 39), (⟨"ArchiveShelfModel", "twoAt", "(I)I"⟩, 39), (⟨"ArchiveShelfModel", "fourAt", "(I)J"⟩, 39), (⟨"ArchiveShelfModel", "readEntryHead", "(II)Z"⟩, 39), (⟨"ArchiveShelfModel", "readLocal", "(II)Z"⟩, 39), (⟨"ArchiveShelfModel", "isAsThere", "(III)Z"⟩, 39)]
theorem lw_r6 : ∀ q ∈ lw_privs_6, lw_okq q := List.forall_mem_cons.mpr ⟨lw_p80, List.forall_mem_cons.mpr ⟨lw_p81, List.forall_mem_cons.mpr ⟨lw_p82, List.forall_mem_cons.mpr ⟨lw_p83, List.forall_mem_cons.mpr ⟨lw_p84, List.forall_mem_cons.mpr ⟨lw_p85, List.forall_mem_cons.mpr ⟨lw_p86, List.forall_mem_cons.mpr ⟨lw_p87, List.forall_mem_cons.mpr ⟨lw_p88, List.forall_mem_cons.mpr ⟨lw_p89, List.forall_mem_cons.mpr ⟨lw_p90, List.forall_mem_cons.mpr ⟨lw_p91, List.forall_mem_cons.mpr ⟨lw_p92, List.forall_mem_cons.mpr ⟨lw_p93, List.forall_mem_cons.mpr ⟨lw_p94, List.forall_mem_cons.mpr ⟨lw_p95, fun _ h => absurd h List.not_mem_nil⟩⟩⟩⟩⟩⟩⟩⟩⟩⟩⟩⟩⟩⟩⟩⟩
theorem lw_p96 : lw_okq (⟨"ArchiveShelfModel", "readContent", "(III)Z"⟩, 39) := ⟨⟨by decide +kernel, by decide +kernel⟩, List.mem_of_getElem? (i := 1266) (by decide +kernel), List.mem_of_getElem? (i := 1653) (by decide +kernel), List.mem_of_getElem? (i := 1654) (by decide +kernel)⟩
theorem lw_p97 : lw_okq (⟨"ArchiveShelfModel", "unpackFrom", "(III)Z"⟩, 39) := ⟨⟨by decide +kernel, by decide +kernel⟩, List.mem_of_getElem? (i := 1266) (by decide +kernel), List.mem_of_getElem? (i := 1657) (by decide +kernel), List.mem_of_getElem? (i := 1658) (by decide +kernel)⟩
theorem lw_p98 : lw_okq (⟨"ArchiveShelfModel", "bit", "()I"⟩, 39) := ⟨⟨by decide +kernel, by decide +kernel⟩, List.mem_of_getElem? (i := 1266) (by decide +kernel), List.mem_of_getElem? (i := 1661) (by decide +kernel), List.mem_of_getElem? (i := 1662) (by decide +kernel)⟩
theorem lw_p99 : lw_okq (⟨"ArchiveShelfModel", "bits", "(I)I"⟩, 39) := ⟨⟨by decide +kernel, by decide +kernel⟩, List.mem_of_getElem? (i := 1266) (by decide +kernel), List.mem_of_getElem? (i := 1665) (by decide +kernel), List.mem_of_getElem? (i := 1666) (by decide +kernel)⟩
theorem lw_p100 : lw_okq (⟨"ArchiveShelfModel", "plain", "(I)Z"⟩, 39) := ⟨⟨by decide +kernel, by decide +kernel⟩, List.mem_of_getElem? (i := 1266) (by decide +kernel), List.mem_of_getElem? (i := 1669) (by decide +kernel), List.mem_of_getElem? (i := 1670) (by decide +kernel)⟩
theorem lw_p101 : lw_okq (⟨"ArchiveShelfModel", "add", "(II)Z"⟩, 39) := ⟨⟨by decide +kernel, by decide +kernel⟩, List.mem_of_getElem? (i := 1266) (by decide +kernel), List.mem_of_getElem? (i := 1674) (by decide +kernel), List.mem_of_getElem? (i := 1675) (by decide +kernel)⟩
theorem lw_p102 : lw_okq (⟨"ArchiveShelfModel", "layFixed", "()V"⟩, 39) := ⟨⟨by decide +kernel, by decide +kernel⟩, List.mem_of_getElem? (i := 1266) (by decide +kernel), List.mem_of_getElem? (i := 1678) (by decide +kernel), List.mem_of_getElem? (i := 1679) (by decide +kernel)⟩
theorem lw_p103 : lw_okq (⟨"ArchiveShelfModel", "layCodes", "(II)V"⟩, 39) := ⟨⟨by decide +kernel, by decide +kernel⟩, List.mem_of_getElem? (i := 1266) (by decide +kernel), List.mem_of_getElem? (i := 1682) (by decide +kernel), List.mem_of_getElem? (i := 1683) (by decide +kernel)⟩
theorem lw_p104 : lw_okq (⟨"ArchiveShelfModel", "readCodes", "(I)Z"⟩, 39) := ⟨⟨by decide +kernel, by decide +kernel⟩, List.mem_of_getElem? (i := 1266) (by decide +kernel), List.mem_of_getElem? (i := 1686) (by decide +kernel), List.mem_of_getElem? (i := 1687) (by decide +kernel)⟩
theorem lw_p105 : lw_okq (⟨"ArchiveShelfModel", "order", "(I)I"⟩, 39) := ⟨⟨by decide +kernel, by decide +kernel⟩, List.mem_of_getElem? (i := 1266) (by decide +kernel), List.mem_of_getElem? (i := 1690) (by decide +kernel), List.mem_of_getElem? (i := 1691) (by decide +kernel)⟩
theorem lw_p106 : lw_okq (⟨"ArchiveShelfModel", "fullness", "(II)I"⟩, 39) := ⟨⟨by decide +kernel, by decide +kernel⟩, List.mem_of_getElem? (i := 1266) (by decide +kernel), List.mem_of_getElem? (i := 1694) (by decide +kernel), List.mem_of_getElem? (i := 1695) (by decide +kernel)⟩
theorem lw_p107 : lw_okq (⟨"ArchiveShelfModel", "readRow", "(II)Z"⟩, 39) := ⟨⟨by decide +kernel, by decide +kernel⟩, List.mem_of_getElem? (i := 1266) (by decide +kernel), List.mem_of_getElem? (i := 1699) (by decide +kernel), List.mem_of_getElem? (i := 1700) (by decide +kernel)⟩
theorem lw_p108 : lw_okq (⟨"ArchiveShelfModel", "symbol", "(II)I"⟩, 39) := ⟨⟨by decide +kernel, by decide +kernel⟩, List.mem_of_getElem? (i := 1266) (by decide +kernel), List.mem_of_getElem? (i := 1703) (by decide +kernel), List.mem_of_getElem? (i := 1704) (by decide +kernel)⟩
theorem lw_p109 : lw_okq (⟨"ArchiveShelfModel", "readSymbols", "()Z"⟩, 39) := ⟨⟨by decide +kernel, by decide +kernel⟩, List.mem_of_getElem? (i := 1266) (by decide +kernel), List.mem_of_getElem? (i := 1707) (by decide +kernel), List.mem_of_getElem? (i := 1708) (by decide +kernel)⟩
theorem lw_p110 : lw_okq (⟨"ArchiveShelfModel", "lengthOf", "(I)I"⟩, 39) := ⟨⟨by decide +kernel, by decide +kernel⟩, List.mem_of_getElem? (i := 1266) (by decide +kernel), List.mem_of_getElem? (i := 1711) (by decide +kernel), List.mem_of_getElem? (i := 1712) (by decide +kernel)⟩
theorem lw_p111 : lw_okq (⟨"ArchiveShelfModel", "distanceOf", "(I)I"⟩, 39) := ⟨⟨by decide +kernel, by decide +kernel⟩, List.mem_of_getElem? (i := 1266) (by decide +kernel), List.mem_of_getElem? (i := 1715) (by decide +kernel), List.mem_of_getElem? (i := 1716) (by decide +kernel)⟩
def lw_privs_7 : List (MethodName × Nat) := [(⟨"ArchiveShelfModel", "readContent", "(III)Z"⟩, 39), (⟨"ArchiveShelfModel", "unpackFrom", "(III)Z"⟩, 39), (⟨"ArchiveShelfModel", "bit", "()I"⟩, 39), (⟨"ArchiveShelfModel", "bits", "(I)I"⟩, 39), (⟨"ArchiveShelfModel", "plain", "(I)Z"⟩, 39), (⟨"ArchiveShelfModel", "add", "(II)Z"⟩, 39), (⟨"ArchiveShelfModel", "layFixed", "()V"⟩, 39), (⟨"ArchiveShelfModel", "layCodes", "(II)V"⟩, 39), (⟨"ArchiveShelfModel", "readCodes", "(I)Z"⟩, 39), (⟨"ArchiveShelfModel", "order", "(I)I"⟩, 39), (⟨"ArchiveShelfModel", "fullness", "(II)I"⟩, 39), (⟨"ArchiveShelfModel", "readRow", "(II)Z"⟩, 39), (⟨"ArchiveShelfModel", "symbol", "(II)I"⟩, 39), (⟨"ArchiveShelfModel", "readSymbols", "()Z"⟩, 39), (⟨"ArchiveShelfModel", "lengthOf", "(I)I"⟩, 39), (⟨"ArchiveShelfModel", "distanceOf", "(I)I"⟩, 39)]
theorem lw_r7 : ∀ q ∈ lw_privs_7, lw_okq q := List.forall_mem_cons.mpr ⟨lw_p96, List.forall_mem_cons.mpr ⟨lw_p97, List.forall_mem_cons.mpr ⟨lw_p98, List.forall_mem_cons.mpr ⟨lw_p99, List.forall_mem_cons.mpr ⟨lw_p100, List.forall_mem_cons.mpr ⟨lw_p101, List.forall_mem_cons.mpr ⟨lw_p102, List.forall_mem_cons.mpr ⟨lw_p103, List.forall_mem_cons.mpr ⟨lw_p104, List.forall_mem_cons.mpr ⟨lw_p105, List.forall_mem_cons.mpr ⟨lw_p106, List.forall_mem_cons.mpr ⟨lw_p107, List.forall_mem_cons.mpr ⟨lw_p108, List.forall_mem_cons.mpr ⟨lw_p109, List.forall_mem_cons.mpr ⟨lw_p110, List.forall_mem_cons.mpr ⟨lw_p111, fun _ h => absurd h List.not_mem_nil⟩⟩⟩⟩⟩⟩⟩⟩⟩⟩⟩⟩⟩⟩⟩⟩
theorem lw_p112 : lw_okq (⟨"ArchiveShelfModel", "putPacked", "()V"⟩, 39) := ⟨⟨by decide +kernel, by decide +kernel⟩, List.mem_of_getElem? (i := 1266) (by decide +kernel), List.mem_of_getElem? (i := 1735) (by decide +kernel), List.mem_of_getElem? (i := 1736) (by decide +kernel)⟩
theorem lw_p113 : lw_okq (⟨"ArchiveShelfModel", "putBits", "(II)V"⟩, 39) := ⟨⟨by decide +kernel, by decide +kernel⟩, List.mem_of_getElem? (i := 1266) (by decide +kernel), List.mem_of_getElem? (i := 1739) (by decide +kernel), List.mem_of_getElem? (i := 1740) (by decide +kernel)⟩
theorem lw_p114 : lw_okq (⟨"ArchiveShelfModel", "putBit", "(I)V"⟩, 39) := ⟨⟨by decide +kernel, by decide +kernel⟩, List.mem_of_getElem? (i := 1266) (by decide +kernel), List.mem_of_getElem? (i := 1743) (by decide +kernel), List.mem_of_getElem? (i := 1744) (by decide +kernel)⟩
theorem lw_p115 : lw_okq (⟨"ArchiveShelfModel", "match", "(I)I"⟩, 39) := ⟨⟨by decide +kernel, by decide +kernel⟩, List.mem_of_getElem? (i := 1266) (by decide +kernel), List.mem_of_getElem? (i := 1747) (by decide +kernel), List.mem_of_getElem? (i := 1748) (by decide +kernel)⟩
theorem lw_p116 : lw_okq (⟨"ArchiveShelfModel", "putMatch", "(II)V"⟩, 39) := ⟨⟨by decide +kernel, by decide +kernel⟩, List.mem_of_getElem? (i := 1266) (by decide +kernel), List.mem_of_getElem? (i := 1751) (by decide +kernel), List.mem_of_getElem? (i := 1752) (by decide +kernel)⟩
theorem lw_p117 : lw_okq (⟨"ArchiveShelfModel", "putCode", "(I)V"⟩, 39) := ⟨⟨by decide +kernel, by decide +kernel⟩, List.mem_of_getElem? (i := 1266) (by decide +kernel), List.mem_of_getElem? (i := 1755) (by decide +kernel), List.mem_of_getElem? (i := 1756) (by decide +kernel)⟩
theorem lw_p118 : lw_okq (⟨"ArchiveShelfModel", "writeBlock", "(I)V"⟩, 39) := ⟨⟨by decide +kernel, by decide +kernel⟩, List.mem_of_getElem? (i := 1266) (by decide +kernel), List.mem_of_getElem? (i := 1763) (by decide +kernel), List.mem_of_getElem? (i := 1764) (by decide +kernel)⟩
theorem lw_p119 : lw_okq (⟨"ArchiveShelfModel", "putName", "(IZ)V"⟩, 39) := ⟨⟨by decide +kernel, by decide +kernel⟩, List.mem_of_getElem? (i := 1266) (by decide +kernel), List.mem_of_getElem? (i := 1767) (by decide +kernel), List.mem_of_getElem? (i := 1768) (by decide +kernel)⟩
theorem lw_p120 : lw_okq (⟨"ArchiveShelfModel", "putZeros", "(I)V"⟩, 39) := ⟨⟨by decide +kernel, by decide +kernel⟩, List.mem_of_getElem? (i := 1266) (by decide +kernel), List.mem_of_getElem? (i := 1771) (by decide +kernel), List.mem_of_getElem? (i := 1772) (by decide +kernel)⟩
theorem lw_p121 : lw_okq (⟨"ArchiveShelfModel", "octalAt", "(III)V"⟩, 39) := ⟨⟨by decide +kernel, by decide +kernel⟩, List.mem_of_getElem? (i := 1266) (by decide +kernel), List.mem_of_getElem? (i := 1775) (by decide +kernel), List.mem_of_getElem? (i := 1776) (by decide +kernel)⟩
theorem lw_p122 : lw_okq (⟨"ArchiveShelfModel", "putBytes", "(I)V"⟩, 39) := ⟨⟨by decide +kernel, by decide +kernel⟩, List.mem_of_getElem? (i := 1266) (by decide +kernel), List.mem_of_getElem? (i := 1779) (by decide +kernel), List.mem_of_getElem? (i := 1780) (by decide +kernel)⟩
theorem lw_p123 : lw_okq (⟨"ArchiveShelfModel", "writeDigits", "()V"⟩, 39) := ⟨⟨by decide +kernel, by decide +kernel⟩, List.mem_of_getElem? (i := 1266) (by decide +kernel), List.mem_of_getElem? (i := 1783) (by decide +kernel), List.mem_of_getElem? (i := 1784) (by decide +kernel)⟩
theorem lw_p124 : lw_okq (⟨"ArchiveShelfModel", "putDigitsHead", "(IIII)V"⟩, 39) := ⟨⟨by decide +kernel, by decide +kernel⟩, List.mem_of_getElem? (i := 1266) (by decide +kernel), List.mem_of_getElem? (i := 1788) (by decide +kernel), List.mem_of_getElem? (i := 1789) (by decide +kernel)⟩
theorem lw_p125 : lw_okq (⟨"ArchiveShelfModel", "putHex", "(I)V"⟩, 39) := ⟨⟨by decide +kernel, by decide +kernel⟩, List.mem_of_getElem? (i := 1266) (by decide +kernel), List.mem_of_getElem? (i := 1792) (by decide +kernel), List.mem_of_getElem? (i := 1793) (by decide +kernel)⟩
theorem lw_p126 : lw_okq (⟨"ArchiveShelfModel", "writeDirectory", "(Z)V"⟩, 39) := ⟨⟨by decide +kernel, by decide +kernel⟩, List.mem_of_getElem? (i := 1266) (by decide +kernel), List.mem_of_getElem? (i := 1796) (by decide +kernel), List.mem_of_getElem? (i := 1797) (by decide +kernel)⟩
theorem lw_p127 : lw_okq (⟨"ArchiveShelfModel", "writeLocal", "(IZ)V"⟩, 39) := ⟨⟨by decide +kernel, by decide +kernel⟩, List.mem_of_getElem? (i := 1266) (by decide +kernel), List.mem_of_getElem? (i := 1800) (by decide +kernel), List.mem_of_getElem? (i := 1801) (by decide +kernel)⟩
def lw_privs_8 : List (MethodName × Nat) := [(⟨"ArchiveShelfModel", "putPacked", "()V"⟩, 39), (⟨"ArchiveShelfModel", "putBits", "(II)V"⟩, 39), (⟨"ArchiveShelfModel", "putBit", "(I)V"⟩, 39), (⟨"ArchiveShelfModel", "match", "(I)I"⟩, 39), (⟨"ArchiveShelfModel", "putMatch", "(II)V"⟩, 39), (⟨"ArchiveShelfModel", "putCode", "(I)V"⟩, 39), (⟨"ArchiveShelfModel", "writeBlock", "(I)V"⟩, 39), (⟨"ArchiveShelfModel", "putName", "(IZ)V"⟩, 39), (⟨"ArchiveShelfModel", "putZeros", "(I)V"⟩, 39), (⟨"ArchiveShelfModel", "octalAt", "(III)V"⟩, 39), (⟨"ArchiveShelfModel", "putBytes", "(I)V"⟩, 39), (⟨"ArchiveShelfModel", "writeDigits", "()V"⟩, 39), (⟨"ArchiveShelfModel", "putDigitsHead", "(IIII)V"⟩, 39), (⟨"ArchiveShelfModel", "putHex", "(I)V"⟩, 39), (⟨"ArchiveShelfModel", "writeDirectory", "(Z)V"⟩, 39), (⟨"ArchiveShelfModel", "writeLocal", "(IZ)V"⟩, 39)]
theorem lw_r8 : ∀ q ∈ lw_privs_8, lw_okq q := List.forall_mem_cons.mpr ⟨lw_p112, List.forall_mem_cons.mpr ⟨lw_p113, List.forall_mem_cons.mpr ⟨lw_p114, List.forall_mem_cons.mpr ⟨lw_p115, List.forall_mem_cons.mpr ⟨lw_p116, List.forall_mem_cons.mpr ⟨lw_p117, List.forall_mem_cons.mpr ⟨lw_p118, List.forall_mem_cons.mpr ⟨lw_p119, List.forall_mem_cons.mpr ⟨lw_p120, List.forall_mem_cons.mpr ⟨lw_p121, List.forall_mem_cons.mpr ⟨lw_p122, List.forall_mem_cons.mpr ⟨lw_p123, List.forall_mem_cons.mpr ⟨lw_p124, List.forall_mem_cons.mpr ⟨lw_p125, List.forall_mem_cons.mpr ⟨lw_p126, List.forall_mem_cons.mpr ⟨lw_p127, fun _ h => absurd h List.not_mem_nil⟩⟩⟩⟩⟩⟩⟩⟩⟩⟩⟩⟩⟩⟩⟩⟩
theorem lw_p128 : lw_okq (⟨"ArchiveShelfModel", "putTwo", "(I)V"⟩, 39) := ⟨⟨by decide +kernel, by decide +kernel⟩, List.mem_of_getElem? (i := 1266) (by decide +kernel), List.mem_of_getElem? (i := 1804) (by decide +kernel), List.mem_of_getElem? (i := 1805) (by decide +kernel)⟩
theorem lw_p129 : lw_okq (⟨"ArchiveShelfModel", "checkOf", "(I)I"⟩, 39) := ⟨⟨by decide +kernel, by decide +kernel⟩, List.mem_of_getElem? (i := 1266) (by decide +kernel), List.mem_of_getElem? (i := 1808) (by decide +kernel), List.mem_of_getElem? (i := 1809) (by decide +kernel)⟩
theorem lw_p130 : lw_okq (⟨"ArchiveShelfModel", "putFour", "(I)V"⟩, 39) := ⟨⟨by decide +kernel, by decide +kernel⟩, List.mem_of_getElem? (i := 1266) (by decide +kernel), List.mem_of_getElem? (i := 1812) (by decide +kernel), List.mem_of_getElem? (i := 1813) (by decide +kernel)⟩
theorem lw_p131 : lw_okq (⟨"ArchiveShelfModel", "namedSize", "(I)I"⟩, 39) := ⟨⟨by decide +kernel, by decide +kernel⟩, List.mem_of_getElem? (i := 1266) (by decide +kernel), List.mem_of_getElem? (i := 1816) (by decide +kernel), List.mem_of_getElem? (i := 1817) (by decide +kernel)⟩
theorem lw_p132 : lw_okq (⟨"ArchiveShelfModel", "fourInto", "(II)V"⟩, 39) := ⟨⟨by decide +kernel, by decide +kernel⟩, List.mem_of_getElem? (i := 1266) (by decide +kernel), List.mem_of_getElem? (i := 1820) (by decide +kernel), List.mem_of_getElem? (i := 1821) (by decide +kernel)⟩
theorem lw_p133 : lw_okq (⟨"ArchiveShelfModel", "writeEntry", "(I)V"⟩, 39) := ⟨⟨by decide +kernel, by decide +kernel⟩, List.mem_of_getElem? (i := 1266) (by decide +kernel), List.mem_of_getElem? (i := 1824) (by decide +kernel), List.mem_of_getElem? (i := 1825) (by decide +kernel)⟩
def lw_privs_9 : List (MethodName × Nat) := [(⟨"ArchiveShelfModel", "putTwo", "(I)V"⟩, 39), (⟨"ArchiveShelfModel", "checkOf", "(I)I"⟩, 39), (⟨"ArchiveShelfModel", "putFour", "(I)V"⟩, 39), (⟨"ArchiveShelfModel", "namedSize", "(I)I"⟩, 39), (⟨"ArchiveShelfModel", "fourInto", "(II)V"⟩, 39), (⟨"ArchiveShelfModel", "writeEntry", "(I)V"⟩, 39)]
theorem lw_r9 : ∀ q ∈ lw_privs_9, lw_okq q := List.forall_mem_cons.mpr ⟨lw_p128, List.forall_mem_cons.mpr ⟨lw_p129, List.forall_mem_cons.mpr ⟨lw_p130, List.forall_mem_cons.mpr ⟨lw_p131, List.forall_mem_cons.mpr ⟨lw_p132, List.forall_mem_cons.mpr ⟨lw_p133, fun _ h => absurd h List.not_mem_nil⟩⟩⟩⟩⟩⟩
def lw_privs : List (MethodName × Nat) := lw_privs_1 ++ (lw_privs_2 ++ (lw_privs_3 ++ (lw_privs_4 ++ (lw_privs_5 ++ (lw_privs_6 ++ (lw_privs_7 ++ (lw_privs_8 ++ (lw_privs_9))))))))
def lw_tbl : List Cond := k2_sels lw_privs ++ tables_1
theorem lw_privs_ok : ∀ q ∈ lw_privs, lw_okq q := by
  show ∀ q ∈ lw_privs_1 ++ (lw_privs_2 ++ (lw_privs_3 ++ (lw_privs_4 ++ (lw_privs_5 ++ (lw_privs_6 ++ (lw_privs_7 ++ (lw_privs_8 ++ (lw_privs_9)))))))), lw_okq q
  exact List.forall_mem_append.mpr ⟨lw_r1, List.forall_mem_append.mpr ⟨lw_r2, List.forall_mem_append.mpr ⟨lw_r3, List.forall_mem_append.mpr ⟨lw_r4, List.forall_mem_append.mpr ⟨lw_r5, List.forall_mem_append.mpr ⟨lw_r6, List.forall_mem_append.mpr ⟨lw_r7, List.forall_mem_append.mpr ⟨lw_r8, lw_r9⟩⟩⟩⟩⟩⟩⟩⟩
-- ===== end of PART A; then your names; then what follows =====
end
section
/-! ===== BEGIN printed: names, fields, word lists, decode rows ===== -/
def RX0 : String := "ArchiveShelf$Archive"
def TX0 : u_T := fun k => match k with
  | _ => ("", "", "", false)
def tyX0 : Nat → FieldType := fun k => match k with
  | _ => .int
abbrev wsX00 : List Cond := u_ws RX0 TX0 0
theorem nmX0 : ∀ a, a < 0 → ∀ b, b < 0 → a ≠ b → (TX0 a).2.1 ≠ (TX0 b).2.1 := by decide +kernel
theorem tyX0_ok : ∀ k, k < 0 → parseFieldDescriptor (TX0 k).2.2.1 = some (tyX0 k) := by decide +kernel
abbrev cX0_init : ByteArray := prog_2_method_1_code
def yX0_init : MethodName := ⟨RX0, "<init>", "(LArchiveShelf$Bytes;LArchiveShelf$Bytes;LArchiveShelf$Flaw;)V"⟩
abbrev cX0_reaches : ByteArray := prog_2_method_4_code
def yX0_reaches : MethodName := ⟨RX0, "reaches", "(I)Z"⟩
abbrev cX0_isMarked : ByteArray := prog_2_method_5_code
def yX0_isMarked : MethodName := ⟨RX0, "isMarked", "(I[II)Z"⟩
abbrev cX0_isZeroFrom : ByteArray := prog_2_method_6_code
def yX0_isZeroFrom : MethodName := ⟨RX0, "isZeroFrom", "(I)Z"⟩
abbrev cX0_isNamed : ByteArray := prog_2_method_7_code
def yX0_isNamed : MethodName := ⟨RX0, "isNamed", "(I)Z"⟩
abbrev cX0_arrives : ByteArray := prog_2_method_8_code
def yX0_arrives : MethodName := ⟨RX0, "arrives", "(LArchiveShelf$Shelf;ZLArchiveShelf$Bytes;III)Z"⟩
abbrev cX0_addTitle : ByteArray := prog_2_method_9_code
def yX0_addTitle : MethodName := ⟨RX0, "addTitle", "(LArchiveShelf$Member;Z)V"⟩
def RX1 : String := "ArchiveShelf$BlockArchive"
def TX1 : u_T := fun k => match k with
  | 0 => ("ArchiveShelf$Archive", "tape", "LArchiveShelf$Bytes;", true)
  | 1 => ("ArchiveShelf$Archive", "path", "LArchiveShelf$Bytes;", true)
  | _ => ("ArchiveShelf$Archive", "flaw", "LArchiveShelf$Flaw;", true)
def tyX1 : Nat → FieldType := fun k => match k with
  | 0 => .object "ArchiveShelf$Bytes"
  | 1 => .object "ArchiveShelf$Bytes"
  | _ => .object "ArchiveShelf$Flaw"
abbrev wsX10 : List Cond := u_ws RX1 TX1 3
theorem nmX1 : ∀ a, a < 3 → ∀ b, b < 3 → a ≠ b → (TX1 a).2.1 ≠ (TX1 b).2.1 := by decide +kernel
theorem tyX1_ok : ∀ k, k < 3 → parseFieldDescriptor (TX1 k).2.2.1 = some (tyX1 k) := by decide +kernel
abbrev cX1_init : ByteArray := prog_3_method_1_code
def yX1_init : MethodName := ⟨RX1, "<init>", "(LArchiveShelf$Bytes;LArchiveShelf$Bytes;LArchiveShelf$Flaw;)V"⟩
abbrev cX1_takeIn : ByteArray := prog_3_method_2_code
def yX1_takeIn : MethodName := ⟨RX1, "takeIn", "(LArchiveShelf$Shelf;)Z"⟩
abbrev cX1_isEmptyBlock : ByteArray := prog_3_method_3_code
def yX1_isEmptyBlock : MethodName := ⟨RX1, "isEmptyBlock", "(I)Z"⟩
abbrev cX1_isHead : ByteArray := prog_3_method_4_code
def yX1_isHead : MethodName := ⟨RX1, "isHead", "(I)Z"⟩
abbrev cX1_isSummed : ByteArray := prog_3_method_5_code
def yX1_isSummed : MethodName := ⟨RX1, "isSummed", "(I)Z"⟩
abbrev cX1_isSorted : ByteArray := prog_3_method_6_code
def yX1_isSorted : MethodName := ⟨RX1, "isSorted", "(I)Z"⟩
abbrev cX1_areDigits : ByteArray := prog_3_method_7_code
def yX1_areDigits : MethodName := ⟨RX1, "areDigits", "(III)Z"⟩
abbrev cX1_isOctal : ByteArray := prog_3_method_8_code
def yX1_isOctal : MethodName := ⟨RX1, "isOctal", "(II)Z"⟩
abbrev cX1_octal : ByteArray := prog_3_method_9_code
def yX1_octal : MethodName := ⟨RX1, "octal", "(II)J"⟩
abbrev cX1_sumOf : ByteArray := prog_3_method_10_code
def yX1_sumOf : MethodName := ⟨RX1, "sumOf", "(I)I"⟩
abbrev cX1_spell : ByteArray := prog_3_method_11_code
def yX1_spell : MethodName := ⟨RX1, "spell", "(IZ)V"⟩
abbrev cX1_addToPath : ByteArray := prog_3_method_12_code
def yX1_addToPath : MethodName := ⟨RX1, "addToPath", "(II)V"⟩
abbrev cX1_layOut : ByteArray := prog_3_method_13_code
def yX1_layOut : MethodName := ⟨RX1, "layOut", "(LArchiveShelf$Shelf;Z)V"⟩
abbrev cX1_addHead : ByteArray := prog_3_method_14_code
def yX1_addHead : MethodName := ⟨RX1, "addHead", "(LArchiveShelf$Member;)V"⟩
abbrev cX1_addOctal : ByteArray := prog_3_method_15_code
def yX1_addOctal : MethodName := ⟨RX1, "addOctal", "(II)V"⟩
abbrev cX1_setSum : ByteArray := prog_3_method_16_code
def yX1_setSum : MethodName := ⟨RX1, "setSum", "(I)V"⟩
def RX2 : String := "ArchiveShelf$Bytes"
def TX2 : u_T := fun k => match k with
  | 0 => ("ArchiveShelf$Bytes", "cells", "[I", true)
  | _ => ("ArchiveShelf$Bytes", "size", "I", false)
def tyX2 : Nat → FieldType := fun k => match k with
  | 0 => .array .int
  | _ => .int
abbrev wsX20 : List Cond := u_ws RX2 TX2 2
theorem nmX2 : ∀ a, a < 2 → ∀ b, b < 2 → a ≠ b → (TX2 a).2.1 ≠ (TX2 b).2.1 := by decide +kernel
theorem tyX2_ok : ∀ k, k < 2 → parseFieldDescriptor (TX2 k).2.2.1 = some (tyX2 k) := by decide +kernel
abbrev cX2_init : ByteArray := prog_4_method_1_code
def yX2_init : MethodName := ⟨RX2, "<init>", "(I)V"⟩
abbrev cX2_size : ByteArray := prog_4_method_2_code
def yX2_size : MethodName := ⟨RX2, "size", "()I"⟩
abbrev cX2_has : ByteArray := prog_4_method_3_code
def yX2_has : MethodName := ⟨RX2, "has", "(I)Z"⟩
abbrev cX2_get : ByteArray := prog_4_method_4_code
def yX2_get : MethodName := ⟨RX2, "get", "(I)I"⟩
abbrev cX2_set : ByteArray := prog_4_method_5_code
def yX2_set : MethodName := ⟨RX2, "set", "(II)V"⟩
abbrev cX2_cutTo : ByteArray := prog_4_method_6_code
def yX2_cutTo : MethodName := ⟨RX2, "cutTo", "(I)V"⟩
abbrev cX2_add : ByteArray := prog_4_method_7_code
def yX2_add : MethodName := ⟨RX2, "add", "(I)V"⟩
abbrev cX2_addRow : ByteArray := prog_4_method_8_code
def yX2_addRow : MethodName := ⟨RX2, "addRow", "(LArchiveShelf$Bytes;II)V"⟩
abbrev cX2_addText : ByteArray := prog_4_method_9_code
def yX2_addText : MethodName := ⟨RX2, "addText", "(Ljava/lang/String;)V"⟩
abbrev cX2_addMark : ByteArray := prog_4_method_10_code
def yX2_addMark : MethodName := ⟨RX2, "addMark", "([I)V"⟩
abbrev cX2_addZeros : ByteArray := prog_4_method_11_code
def yX2_addZeros : MethodName := ⟨RX2, "addZeros", "(I)V"⟩
abbrev cX2_addBig : ByteArray := prog_4_method_12_code
def yX2_addBig : MethodName := ⟨RX2, "addBig", "(JI)V"⟩
abbrev cX2_addLittle : ByteArray := prog_4_method_13_code
def yX2_addLittle : MethodName := ⟨RX2, "addLittle", "(JI)V"⟩
abbrev cX2_little : ByteArray := prog_4_method_14_code
def yX2_little : MethodName := ⟨RX2, "little", "(II)J"⟩
abbrev cX2_beginsWith : ByteArray := prog_4_method_15_code
def yX2_beginsWith : MethodName := ⟨RX2, "beginsWith", "(LArchiveShelf$Bytes;)Z"⟩
abbrev cX2_isText : ByteArray := prog_4_method_16_code
def yX2_isText : MethodName := ⟨RX2, "isText", "(Ljava/lang/String;)Z"⟩
abbrev cX2_liesUnder : ByteArray := prog_4_method_17_code
def yX2_liesUnder : MethodName := ⟨RX2, "liesUnder", "(LArchiveShelf$Bytes;)Z"⟩
def RX3 : String := "ArchiveShelf$Codes"
def TX3 : u_T := fun k => match k with
  | 0 => ("ArchiveShelf$Codes", "amounts", "[I", true)
  | 1 => ("ArchiveShelf$Codes", "nexts", "[I", true)
  | 2 => ("ArchiveShelf$Codes", "symbols", "[I", true)
  | 3 => ("ArchiveShelf$Codes", "total", "I", false)
  | _ => ("ArchiveShelf$Codes", "longest", "I", false)
def tyX3 : Nat → FieldType := fun k => match k with
  | 0 => .array .int
  | 1 => .array .int
  | 2 => .array .int
  | 3 => .int
  | _ => .int
abbrev wsX30 : List Cond := u_ws RX3 TX3 5
theorem nmX3 : ∀ a, a < 5 → ∀ b, b < 5 → a ≠ b → (TX3 a).2.1 ≠ (TX3 b).2.1 := by decide +kernel
theorem tyX3_ok : ∀ k, k < 5 → parseFieldDescriptor (TX3 k).2.2.1 = some (tyX3 k) := by decide +kernel
abbrev cX3_init : ByteArray := prog_5_method_1_code
def yX3_init : MethodName := ⟨RX3, "<init>", "(I)V"⟩
abbrev cX3_longest : ByteArray := prog_5_method_2_code
def yX3_longest : MethodName := ⟨RX3, "longest", "()I"⟩
abbrev cX3_amount : ByteArray := prog_5_method_3_code
def yX3_amount : MethodName := ⟨RX3, "amount", "(I)I"⟩
abbrev cX3_symbol : ByteArray := prog_5_method_4_code
def yX3_symbol : MethodName := ⟨RX3, "symbol", "(I)I"⟩
abbrev cX3_order : ByteArray := prog_5_method_5_code
def yX3_order : MethodName := ⟨RX3, "order", "([III)V"⟩
abbrev cX3_placeLengths : ByteArray := prog_5_method_6_code
def yX3_placeLengths : MethodName := ⟨RX3, "placeLengths", "()V"⟩
abbrev cX3_placeSymbol : ByteArray := prog_5_method_7_code
def yX3_placeSymbol : MethodName := ⟨RX3, "placeSymbol", "(II)V"⟩
abbrev cX3_areComplete : ByteArray := prog_5_method_8_code
def yX3_areComplete : MethodName := ⟨RX3, "areComplete", "()Z"⟩
abbrev cX3_areNoneOrOneBit : ByteArray := prog_5_method_9_code
def yX3_areNoneOrOneBit : MethodName := ⟨RX3, "areNoneOrOneBit", "()Z"⟩
def RX4 : String := "ArchiveShelf$DigitArchive"
def TX4 : u_T := fun k => match k with
  | 0 => ("ArchiveShelf$Archive", "tape", "LArchiveShelf$Bytes;", true)
  | 1 => ("ArchiveShelf$Archive", "path", "LArchiveShelf$Bytes;", true)
  | _ => ("ArchiveShelf$Archive", "flaw", "LArchiveShelf$Flaw;", true)
def tyX4 : Nat → FieldType := fun k => match k with
  | 0 => .object "ArchiveShelf$Bytes"
  | 1 => .object "ArchiveShelf$Bytes"
  | _ => .object "ArchiveShelf$Flaw"
abbrev wsX40 : List Cond := u_ws RX4 TX4 3
theorem nmX4 : ∀ a, a < 3 → ∀ b, b < 3 → a ≠ b → (TX4 a).2.1 ≠ (TX4 b).2.1 := by decide +kernel
theorem tyX4_ok : ∀ k, k < 3 → parseFieldDescriptor (TX4 k).2.2.1 = some (tyX4 k) := by decide +kernel
abbrev cX4_init : ByteArray := prog_6_method_1_code
def yX4_init : MethodName := ⟨RX4, "<init>", "(LArchiveShelf$Bytes;LArchiveShelf$Bytes;LArchiveShelf$Flaw;)V"⟩
abbrev cX4_takeIn : ByteArray := prog_6_method_2_code
def yX4_takeIn : MethodName := ⟨RX4, "takeIn", "(LArchiveShelf$Shelf;)Z"⟩
abbrev cX4_isHead : ByteArray := prog_6_method_3_code
def yX4_isHead : MethodName := ⟨RX4, "isHead", "(I)Z"⟩
abbrev cX4_isSpelt : ByteArray := prog_6_method_4_code
def yX4_isSpelt : MethodName := ⟨RX4, "isSpelt", "(I)Z"⟩
abbrev cX4_isMember : ByteArray := prog_6_method_5_code
def yX4_isMember : MethodName := ⟨RX4, "isMember", "(I)Z"⟩
abbrev cX4_isSized : ByteArray := prog_6_method_6_code
def yX4_isSized : MethodName := ⟨RX4, "isSized", "(II)Z"⟩
abbrev cX4_isDirectory : ByteArray := prog_6_method_7_code
def yX4_isDirectory : MethodName := ⟨RX4, "isDirectory", "(I)Z"⟩
abbrev cX4_sortOf : ByteArray := prog_6_method_8_code
def yX4_sortOf : MethodName := ⟨RX4, "sortOf", "(I)I"⟩
abbrev cX4_sortBits : ByteArray := prog_6_method_9_code
def yX4_sortBits : MethodName := ⟨RX4, "sortBits", "(J)I"⟩
abbrev cX4_number : ByteArray := prog_6_method_10_code
def yX4_number : MethodName := ⟨RX4, "number", "(I)J"⟩
abbrev cX4_digit : ByteArray := prog_6_method_11_code
def yX4_digit : MethodName := ⟨RX4, "digit", "(I)I"⟩
abbrev cX4_layOut : ByteArray := prog_6_method_12_code
def yX4_layOut : MethodName := ⟨RX4, "layOut", "(LArchiveShelf$Shelf;Z)V"⟩
abbrev cX4_addHead : ByteArray := prog_6_method_13_code
def yX4_addHead : MethodName := ⟨RX4, "addHead", "(IIII)V"⟩
abbrev cX4_addNumber : ByteArray := prog_6_method_14_code
def yX4_addNumber : MethodName := ⟨RX4, "addNumber", "(I)V"⟩
abbrev cX4_addRest : ByteArray := prog_6_method_15_code
def yX4_addRest : MethodName := ⟨RX4, "addRest", "()V"⟩
def RX5 : String := "ArchiveShelf$EndArchive"
def TX5 : u_T := fun k => match k with
  | 0 => ("ArchiveShelf$Archive", "tape", "LArchiveShelf$Bytes;", true)
  | 1 => ("ArchiveShelf$Archive", "path", "LArchiveShelf$Bytes;", true)
  | 2 => ("ArchiveShelf$Archive", "flaw", "LArchiveShelf$Flaw;", true)
  | 3 => ("ArchiveShelf$EndArchive", "packer", "LArchiveShelf$Packer;", true)
  | 4 => ("ArchiveShelf$EndArchive", "unpacker", "LArchiveShelf$Unpacker;", true)
  | 5 => ("ArchiveShelf$EndArchive", "body", "LArchiveShelf$Bytes;", true)
  | 6 => ("ArchiveShelf$EndArchive", "closing", "I", false)
  | 7 => ("ArchiveShelf$EndArchive", "begin", "I", false)
  | 8 => ("ArchiveShelf$EndArchive", "way", "I", false)
  | 9 => ("ArchiveShelf$EndArchive", "titleLength", "I", false)
  | 10 => ("ArchiveShelf$EndArchive", "behindEntry", "I", false)
  | 11 => ("ArchiveShelf$EndArchive", "directory", "Z", false)
  | 12 => ("ArchiveShelf$EndArchive", "length", "I", false)
  | 13 => ("ArchiveShelf$EndArchive", "local", "I", false)
  | 14 => ("ArchiveShelf$EndArchive", "data", "I", false)
  | _ => ("ArchiveShelf$EndArchive", "behindData", "I", false)
def tyX5 : Nat → FieldType := fun k => match k with
  | 0 => .object "ArchiveShelf$Bytes"
  | 1 => .object "ArchiveShelf$Bytes"
  | 2 => .object "ArchiveShelf$Flaw"
  | 3 => .object "ArchiveShelf$Packer"
  | 4 => .object "ArchiveShelf$Unpacker"
  | 5 => .object "ArchiveShelf$Bytes"
  | 6 => .int
  | 7 => .int
  | 8 => .int
  | 9 => .int
  | 10 => .int
  | 11 => .boolean
  | 12 => .int
  | 13 => .int
  | 14 => .int
  | _ => .int
abbrev wsX50 : List Cond := u_ws RX5 TX5 16
theorem nmX5 : ∀ a, a < 16 → ∀ b, b < 16 → a ≠ b → (TX5 a).2.1 ≠ (TX5 b).2.1 := by decide +kernel
theorem tyX5_ok : ∀ k, k < 16 → parseFieldDescriptor (TX5 k).2.2.1 = some (tyX5 k) := by decide +kernel
abbrev cX5_init : ByteArray := prog_7_method_1_code
def yX5_init : MethodName := ⟨RX5, "<init>", "(LArchiveShelf$Bytes;LArchiveShelf$Bytes;LArchiveShelf$Flaw;LArchiveShelf$Packer;LArchiveShelf$Unpacker;LArchiveShelf$Bytes;)V"⟩
abbrev cX5_takeIn : ByteArray := prog_7_method_2_code
def yX5_takeIn : MethodName := ⟨RX5, "takeIn", "(LArchiveShelf$Shelf;)Z"⟩
abbrev cX5_isClosing : ByteArray := prog_7_method_3_code
def yX5_isClosing : MethodName := ⟨RX5, "isClosing", "()Z"⟩
abbrev cX5_isZero : ByteArray := prog_7_method_4_code
def yX5_isZero : MethodName := ⟨RX5, "isZero", "(III)Z"⟩
abbrev cX5_isEntry : ByteArray := prog_7_method_5_code
def yX5_isEntry : MethodName := ⟨RX5, "isEntry", "(I)Z"⟩
abbrev cX5_isMember : ByteArray := prog_7_method_6_code
def yX5_isMember : MethodName := ⟨RX5, "isMember", "(I)Z"⟩
abbrev cX5_isLocal : ByteArray := prog_7_method_7_code
def yX5_isLocal : MethodName := ⟨RX5, "isLocal", "(I)Z"⟩
abbrev cX5_isSame : ByteArray := prog_7_method_8_code
def yX5_isSame : MethodName := ⟨RX5, "isSame", "(I)Z"⟩
abbrev cX5_isBody : ByteArray := prog_7_method_9_code
def yX5_isBody : MethodName := ⟨RX5, "isBody", "(I)Z"⟩
abbrev cX5_layOut : ByteArray := prog_7_method_10_code
def yX5_layOut : MethodName := ⟨RX5, "layOut", "(LArchiveShelf$Shelf;Z)V"⟩
abbrev cX5_addLocal : ByteArray := prog_7_method_11_code
def yX5_addLocal : MethodName := ⟨RX5, "addLocal", "(LArchiveShelf$Member;I)V"⟩
abbrev cX5_titleBytes : ByteArray := prog_7_method_12_code
def yX5_titleBytes : MethodName := ⟨RX5, "titleBytes", "(LArchiveShelf$Member;)I"⟩
abbrev cX5_setSize : ByteArray := prog_7_method_13_code
def yX5_setSize : MethodName := ⟨RX5, "setSize", "(II)V"⟩
abbrev cX5_addEntries : ByteArray := prog_7_method_14_code
def yX5_addEntries : MethodName := ⟨RX5, "addEntries", "(LArchiveShelf$Shelf;)V"⟩
def RX6 : String := "ArchiveShelf$Flaw"
def TX6 : u_T := fun k => match k with
  | 0 => ("ArchiveShelf$Flaw", "number", "I", false)
  | _ => ("ArchiveShelf$Flaw", "place", "I", false)
def tyX6 : Nat → FieldType := fun k => match k with
  | 0 => .int
  | _ => .int
abbrev wsX60 : List Cond := u_ws RX6 TX6 2
theorem nmX6 : ∀ a, a < 2 → ∀ b, b < 2 → a ≠ b → (TX6 a).2.1 ≠ (TX6 b).2.1 := by decide +kernel
theorem tyX6_ok : ∀ k, k < 2 → parseFieldDescriptor (TX6 k).2.2.1 = some (tyX6 k) := by decide +kernel
abbrev cX6_init : ByteArray := prog_8_method_1_code
def yX6_init : MethodName := ⟨RX6, "<init>", "()V"⟩
abbrev cX6_number : ByteArray := prog_8_method_2_code
def yX6_number : MethodName := ⟨RX6, "number", "()I"⟩
abbrev cX6_place : ByteArray := prog_8_method_3_code
def yX6_place : MethodName := ⟨RX6, "place", "()I"⟩
abbrev cX6_clear : ByteArray := prog_8_method_4_code
def yX6_clear : MethodName := ⟨RX6, "clear", "()V"⟩
abbrev cX6_tell : ByteArray := prog_8_method_5_code
def yX6_tell : MethodName := ⟨RX6, "tell", "(II)Z"⟩
def RX7 : String := "ArchiveShelf$Member"
def TX7 : u_T := fun k => match k with
  | 0 => ("ArchiveShelf$Member", "title", "LArchiveShelf$Bytes;", true)
  | 1 => ("ArchiveShelf$Member", "body", "LArchiveShelf$Bytes;", true)
  | _ => ("ArchiveShelf$Member", "directory", "Z", false)
def tyX7 : Nat → FieldType := fun k => match k with
  | 0 => .object "ArchiveShelf$Bytes"
  | 1 => .object "ArchiveShelf$Bytes"
  | _ => .boolean
abbrev wsX70 : List Cond := u_ws RX7 TX7 3
theorem nmX7 : ∀ a, a < 3 → ∀ b, b < 3 → a ≠ b → (TX7 a).2.1 ≠ (TX7 b).2.1 := by decide +kernel
theorem tyX7_ok : ∀ k, k < 3 → parseFieldDescriptor (TX7 k).2.2.1 = some (tyX7 k) := by decide +kernel
abbrev cX7_init : ByteArray := prog_9_method_1_code
def yX7_init : MethodName := ⟨RX7, "<init>", "()V"⟩
def RX8 : String := "ArchiveShelf$Packer"
def TX8 : u_T := fun k => match k with
  | 0 => ("ArchiveShelf$Packer", "tape", "LArchiveShelf$Bytes;", true)
  | 1 => ("ArchiveShelf$Packer", "held", "I", false)
  | 2 => ("ArchiveShelf$Packer", "heldBits", "I", false)
  | _ => ("ArchiveShelf$Packer", "distance", "I", false)
def tyX8 : Nat → FieldType := fun k => match k with
  | 0 => .object "ArchiveShelf$Bytes"
  | 1 => .int
  | 2 => .int
  | _ => .int
abbrev wsX80 : List Cond := u_ws RX8 TX8 4
theorem nmX8 : ∀ a, a < 4 → ∀ b, b < 4 → a ≠ b → (TX8 a).2.1 ≠ (TX8 b).2.1 := by decide +kernel
theorem tyX8_ok : ∀ k, k < 4 → parseFieldDescriptor (TX8 k).2.2.1 = some (tyX8 k) := by decide +kernel
abbrev cX8_init : ByteArray := prog_10_method_1_code
def yX8_init : MethodName := ⟨RX8, "<init>", "(LArchiveShelf$Bytes;)V"⟩
abbrev cX8_addPacked : ByteArray := prog_10_method_2_code
def yX8_addPacked : MethodName := ⟨RX8, "addPacked", "(LArchiveShelf$Bytes;)V"⟩
abbrev cX8_longestBefore : ByteArray := prog_10_method_3_code
def yX8_longestBefore : MethodName := ⟨RX8, "longestBefore", "(LArchiveShelf$Bytes;I)I"⟩
abbrev cX8_lengthStep : ByteArray := prog_10_method_4_code
def yX8_lengthStep : MethodName := ⟨RX8, "lengthStep", "(I)I"⟩
abbrev cX8_distanceSymbol : ByteArray := prog_10_method_5_code
def yX8_distanceSymbol : MethodName := ⟨RX8, "distanceSymbol", "()I"⟩
abbrev cX8_addSymbol : ByteArray := prog_10_method_6_code
def yX8_addSymbol : MethodName := ⟨RX8, "addSymbol", "(I)V"⟩
abbrev cX8_addCode : ByteArray := prog_10_method_7_code
def yX8_addCode : MethodName := ⟨RX8, "addCode", "(II)V"⟩
abbrev cX8_addBits : ByteArray := prog_10_method_8_code
def yX8_addBits : MethodName := ⟨RX8, "addBits", "(II)V"⟩
def RX9 : String := "ArchiveShelf$Shelf"
def TX9 : u_T := fun k => match k with
  | 0 => ("ArchiveShelf$Shelf", "members", "[LArchiveShelf$Member;", true)
  | _ => ("ArchiveShelf$Shelf", "size", "I", false)
def tyX9 : Nat → FieldType := fun k => match k with
  | 0 => .array (.object "ArchiveShelf$Member")
  | _ => .int
abbrev wsX90 : List Cond := u_ws RX9 TX9 2
theorem nmX9 : ∀ a, a < 2 → ∀ b, b < 2 → a ≠ b → (TX9 a).2.1 ≠ (TX9 b).2.1 := by decide +kernel
theorem tyX9_ok : ∀ k, k < 2 → parseFieldDescriptor (TX9 k).2.2.1 = some (tyX9 k) := by decide +kernel
abbrev cX9_init : ByteArray := prog_11_method_1_code
def yX9_init : MethodName := ⟨RX9, "<init>", "()V"⟩
abbrev cX9_size : ByteArray := prog_11_method_2_code
def yX9_size : MethodName := ⟨RX9, "size", "()I"⟩
abbrev cX9_clear : ByteArray := prog_11_method_3_code
def yX9_clear : MethodName := ⟨RX9, "clear", "()V"⟩
abbrev cX9_member : ByteArray := prog_11_method_4_code
def yX9_member : MethodName := ⟨RX9, "member", "(I)LArchiveShelf$Member;"⟩
abbrev cX9_find : ByteArray := prog_11_method_5_code
def yX9_find : MethodName := ⟨RX9, "find", "(LArchiveShelf$Bytes;)I"⟩
abbrev cX9_hasUnder : ByteArray := prog_11_method_6_code
def yX9_hasUnder : MethodName := ⟨RX9, "hasUnder", "(LArchiveShelf$Bytes;)Z"⟩
abbrev cX9_isInTheWay : ByteArray := prog_11_method_7_code
def yX9_isInTheWay : MethodName := ⟨RX9, "isInTheWay", "(LArchiveShelf$Bytes;Z)Z"⟩
abbrev cX9_hasRoomFor : ByteArray := prog_11_method_8_code
def yX9_hasRoomFor : MethodName := ⟨RX9, "hasRoomFor", "(LArchiveShelf$Bytes;)Z"⟩
abbrev cX9_drop : ByteArray := prog_11_method_9_code
def yX9_drop : MethodName := ⟨RX9, "drop", "(I)V"⟩
abbrev cX9_take : ByteArray := prog_11_method_10_code
def yX9_take : MethodName := ⟨RX9, "take", "(LArchiveShelf$Bytes;ZLArchiveShelf$Bytes;II)V"⟩
abbrev cX9_children : ByteArray := prog_11_method_11_code
def yX9_children : MethodName := ⟨RX9, "children", "(LArchiveShelf$Bytes;)I"⟩
abbrev cX9_firstOfChild : ByteArray := prog_11_method_12_code
def yX9_firstOfChild : MethodName := ⟨RX9, "firstOfChild", "(LArchiveShelf$Bytes;I)I"⟩
abbrev cX9_isFirstOfChild : ByteArray := prog_11_method_13_code
def yX9_isFirstOfChild : MethodName := ⟨RX9, "isFirstOfChild", "(LArchiveShelf$Bytes;I)Z"⟩
abbrev cX9_isSamePart : ByteArray := prog_11_method_14_code
def yX9_isSamePart : MethodName := ⟨RX9, "isSamePart", "(LArchiveShelf$Bytes;LArchiveShelf$Bytes;I)Z"⟩
def RX10 : String := "ArchiveShelf$Unpacker"
def TX10 : u_T := fun k => match k with
  | 0 => ("ArchiveShelf$Unpacker", "tape", "LArchiveShelf$Bytes;", true)
  | 1 => ("ArchiveShelf$Unpacker", "body", "LArchiveShelf$Bytes;", true)
  | 2 => ("ArchiveShelf$Unpacker", "flaw", "LArchiveShelf$Flaw;", true)
  | 3 => ("ArchiveShelf$Unpacker", "fixedSymbols", "LArchiveShelf$Codes;", true)
  | 4 => ("ArchiveShelf$Unpacker", "fixedDistances", "LArchiveShelf$Codes;", true)
  | 5 => ("ArchiveShelf$Unpacker", "symbols", "LArchiveShelf$Codes;", true)
  | 6 => ("ArchiveShelf$Unpacker", "distances", "LArchiveShelf$Codes;", true)
  | 7 => ("ArchiveShelf$Unpacker", "lengthCodes", "LArchiveShelf$Codes;", true)
  | 8 => ("ArchiveShelf$Unpacker", "lengths", "[I", true)
  | 9 => ("ArchiveShelf$Unpacker", "bit", "I", false)
  | 10 => ("ArchiveShelf$Unpacker", "behindBits", "I", false)
  | 11 => ("ArchiveShelf$Unpacker", "most", "I", false)
  | 12 => ("ArchiveShelf$Unpacker", "block", "I", false)
  | 13 => ("ArchiveShelf$Unpacker", "symbolLengths", "I", false)
  | 14 => ("ArchiveShelf$Unpacker", "allLengths", "I", false)
  | _ => ("ArchiveShelf$Unpacker", "filled", "I", false)
def tyX10 : Nat → FieldType := fun k => match k with
  | 0 => .object "ArchiveShelf$Bytes"
  | 1 => .object "ArchiveShelf$Bytes"
  | 2 => .object "ArchiveShelf$Flaw"
  | 3 => .object "ArchiveShelf$Codes"
  | 4 => .object "ArchiveShelf$Codes"
  | 5 => .object "ArchiveShelf$Codes"
  | 6 => .object "ArchiveShelf$Codes"
  | 7 => .object "ArchiveShelf$Codes"
  | 8 => .array .int
  | 9 => .int
  | 10 => .int
  | 11 => .int
  | 12 => .int
  | 13 => .int
  | 14 => .int
  | _ => .int
abbrev wsX100 : List Cond := u_ws RX10 TX10 16
theorem nmX10 : ∀ a, a < 16 → ∀ b, b < 16 → a ≠ b → (TX10 a).2.1 ≠ (TX10 b).2.1 := by decide +kernel
theorem tyX10_ok : ∀ k, k < 16 → parseFieldDescriptor (TX10 k).2.2.1 = some (tyX10 k) := by decide +kernel
abbrev cX10_init : ByteArray := prog_12_method_1_code
def yX10_init : MethodName := ⟨RX10, "<init>", "(LArchiveShelf$Bytes;LArchiveShelf$Bytes;LArchiveShelf$Flaw;)V"⟩
abbrev cX10_open : ByteArray := prog_12_method_2_code
def yX10_open : MethodName := ⟨RX10, "open", "(III)Z"⟩
abbrev cX10_takeBits : ByteArray := prog_12_method_3_code
def yX10_takeBits : MethodName := ⟨RX10, "takeBits", "(I)I"⟩
abbrev cX10_takeSymbol : ByteArray := prog_12_method_4_code
def yX10_takeSymbol : MethodName := ⟨RX10, "takeSymbol", "(LArchiveShelf$Codes;I)I"⟩
abbrev cX10_isStored : ByteArray := prog_12_method_5_code
def yX10_isStored : MethodName := ⟨RX10, "isStored", "()Z"⟩
abbrev cX10_orderFixed : ByteArray := prog_12_method_6_code
def yX10_orderFixed : MethodName := ⟨RX10, "orderFixed", "()V"⟩
abbrev cX10_fillLengths : ByteArray := prog_12_method_7_code
def yX10_fillLengths : MethodName := ⟨RX10, "fillLengths", "(III)V"⟩
abbrev cX10_areLengthCodes : ByteArray := prog_12_method_8_code
def yX10_areLengthCodes : MethodName := ⟨RX10, "areLengthCodes", "()Z"⟩
abbrev cX10_areLengths : ByteArray := prog_12_method_9_code
def yX10_areLengths : MethodName := ⟨RX10, "areLengths", "()Z"⟩
abbrev cX10_isRepeated : ByteArray := prog_12_method_10_code
def yX10_isRepeated : MethodName := ⟨RX10, "isRepeated", "(I)Z"⟩
abbrev cX10_lengthAt : ByteArray := prog_12_method_11_code
def yX10_lengthAt : MethodName := ⟨RX10, "lengthAt", "(I)I"⟩
abbrev cX10_areSymbolLengths : ByteArray := prog_12_method_12_code
def yX10_areSymbolLengths : MethodName := ⟨RX10, "areSymbolLengths", "(I)Z"⟩
abbrev cX10_areSymbols : ByteArray := prog_12_method_13_code
def yX10_areSymbols : MethodName := ⟨RX10, "areSymbols", "(LArchiveShelf$Codes;LArchiveShelf$Codes;)Z"⟩
abbrev cX10_isCopied : ByteArray := prog_12_method_14_code
def yX10_isCopied : MethodName := ⟨RX10, "isCopied", "(ILArchiveShelf$Codes;I)Z"⟩
def RX11 : String := "ArchiveShelf"
def TX11 : u_T := fun k => match k with
  | 0 => ("ArchiveShelf", "buffer", "LArchiveShelf$Bytes;", true)
  | 1 => ("ArchiveShelf", "tape", "LArchiveShelf$Bytes;", true)
  | 2 => ("ArchiveShelf", "path", "LArchiveShelf$Bytes;", true)
  | 3 => ("ArchiveShelf", "body", "LArchiveShelf$Bytes;", true)
  | 4 => ("ArchiveShelf", "flaw", "LArchiveShelf$Flaw;", true)
  | 5 => ("ArchiveShelf", "packer", "LArchiveShelf$Packer;", true)
  | 6 => ("ArchiveShelf", "unpacker", "LArchiveShelf$Unpacker;", true)
  | 7 => ("ArchiveShelf", "archives", "[LArchiveShelf$Archive;", true)
  | 8 => ("ArchiveShelf", "shelf", "LArchiveShelf$Shelf;", false)
  | _ => ("ArchiveShelf", "spare", "LArchiveShelf$Shelf;", false)
def tyX11 : Nat → FieldType := fun k => match k with
  | 0 => .object "ArchiveShelf$Bytes"
  | 1 => .object "ArchiveShelf$Bytes"
  | 2 => .object "ArchiveShelf$Bytes"
  | 3 => .object "ArchiveShelf$Bytes"
  | 4 => .object "ArchiveShelf$Flaw"
  | 5 => .object "ArchiveShelf$Packer"
  | 6 => .object "ArchiveShelf$Unpacker"
  | 7 => .array (.object "ArchiveShelf$Archive")
  | 8 => .object "ArchiveShelf$Shelf"
  | _ => .object "ArchiveShelf$Shelf"
abbrev wsX110 : List Cond := u_ws RX11 TX11 10
theorem nmX11 : ∀ a, a < 10 → ∀ b, b < 10 → a ≠ b → (TX11 a).2.1 ≠ (TX11 b).2.1 := by decide +kernel
theorem tyX11_ok : ∀ k, k < 10 → parseFieldDescriptor (TX11 k).2.2.1 = some (tyX11 k) := by decide +kernel
abbrev cX11_init : ByteArray := prog_1_method_1_code
def yX11_init : MethodName := ⟨RX11, "<init>", "()V"⟩
abbrev cX11_type : ByteArray := prog_1_method_2_code
def yX11_type : MethodName := ⟨RX11, "type", "(JI)I"⟩
abbrev cX11_keep : ByteArray := prog_1_method_3_code
def yX11_keep : MethodName := ⟨RX11, "keep", "(I)V"⟩
abbrev cX11_typed : ByteArray := prog_1_method_4_code
def yX11_typed : MethodName := ⟨RX11, "typed", "(I)I"⟩
abbrev cX11_come : ByteArray := prog_1_method_5_code
def yX11_come : MethodName := ⟨RX11, "come", "(IZ)I"⟩
abbrev cX11_go : ByteArray := prog_1_method_6_code
def yX11_go : MethodName := ⟨RX11, "go", "(I)I"⟩
abbrev cX11_name : ByteArray := prog_1_method_7_code
def yX11_name : MethodName := ⟨RX11, "name", "(II)I"⟩
abbrev cX11_byteAt : ByteArray := prog_1_method_8_code
def yX11_byteAt : MethodName := ⟨RX11, "byteAt", "(II)I"⟩
abbrev cX11_kind : ByteArray := prog_1_method_9_code
def yX11_kind : MethodName := ⟨RX11, "kind", "()I"⟩
abbrev cX11_child : ByteArray := prog_1_method_10_code
def yX11_child : MethodName := ⟨RX11, "child", "(II)I"⟩
abbrev cX11_write : ByteArray := prog_1_method_11_code
def yX11_write : MethodName := ⟨RX11, "write", "(IZ)I"⟩
abbrev cX11_read : ByteArray := prog_1_method_12_code
def yX11_read : MethodName := ⟨RX11, "read", "(I)I"⟩
abbrev cX11_fault : ByteArray := prog_1_method_13_code
def yX11_fault : MethodName := ⟨RX11, "fault", "(I)I"⟩
abbrev cX11_pack : ByteArray := prog_1_method_14_code
def yX11_pack : MethodName := ⟨RX11, "pack", "()I"⟩
abbrev cX11_unpack : ByteArray := prog_1_method_15_code
def yX11_unpack : MethodName := ⟨RX11, "unpack", "()I"⟩
abbrev cX11_check : ByteArray := prog_1_method_16_code
def yX11_check : MethodName := ⟨RX11, "check", "()I"⟩
abbrev cX11_feed : ByteArray := prog_1_method_17_code
def yX11_feed : MethodName := ⟨RX11, "feed", "(IIIII)I"⟩
abbrev cX11_end : ByteArray := prog_1_method_18_code
def yX11_end : MethodName := ⟨RX11, "end", "(I)V"⟩
abbrev cX11_poke : ByteArray := prog_1_method_19_code
def yX11_poke : MethodName := ⟨RX11, "poke", "(II)I"⟩
abbrev cX11_at : ByteArray := prog_1_method_20_code
def yX11_at : MethodName := ⟨RX11, "at", "(II)J"⟩
abbrev cX11_count : ByteArray := prog_1_method_21_code
def yX11_count : MethodName := ⟨RX11, "count", "(I)I"⟩
abbrev cX11_archiveOf : ByteArray := prog_1_method_22_code
def yX11_archiveOf : MethodName := ⟨RX11, "archiveOf", "(I)LArchiveShelf$Archive;"⟩
abbrev cX11_isName : ByteArray := prog_1_method_23_code
def yX11_isName : MethodName := ⟨RX11, "isName", "(LArchiveShelf$Bytes;)Z"⟩
abbrev cX11_isPart : ByteArray := prog_1_method_24_code
def yX11_isPart : MethodName := ⟨RX11, "isPart", "(LArchiveShelf$Bytes;II)Z"⟩
abbrev cX11_partBehind : ByteArray := prog_1_method_25_code
def yX11_partBehind : MethodName := ⟨RX11, "partBehind", "(LArchiveShelf$Bytes;)I"⟩
abbrev cX11_partLength : ByteArray := prog_1_method_26_code
def yX11_partLength : MethodName := ⟨RX11, "partLength", "(LArchiveShelf$Bytes;I)I"⟩
abbrev cX11_checkOf : ByteArray := prog_1_method_27_code
def yX11_checkOf : MethodName := ⟨RX11, "checkOf", "(LArchiveShelf$Bytes;)I"⟩
abbrev cX11_roundedUp : ByteArray := prog_1_method_28_code
def yX11_roundedUp : MethodName := ⟨RX11, "roundedUp", "(II)I"⟩
abbrev cX11_lengthBits : ByteArray := prog_1_method_29_code
def yX11_lengthBits : MethodName := ⟨RX11, "lengthBits", "(I)I"⟩
abbrev cX11_lengthBase : ByteArray := prog_1_method_30_code
def yX11_lengthBase : MethodName := ⟨RX11, "lengthBase", "(I)I"⟩
abbrev cX11_distanceBits : ByteArray := prog_1_method_31_code
def yX11_distanceBits : MethodName := ⟨RX11, "distanceBits", "(I)I"⟩
abbrev cX11_distanceBase : ByteArray := prog_1_method_32_code
def yX11_distanceBase : MethodName := ⟨RX11, "distanceBase", "(I)I"⟩
def RX12 : String := "ArchiveShelfModel"
def TX12 : u_T := fun k => match k with
  | 0 => ("ArchiveShelfModel", "thrown", "I", false)
  | 1 => ("ArchiveShelfModel", "buffer", "[I", false)
  | 2 => ("ArchiveShelfModel", "buffered", "I", false)
  | 3 => ("ArchiveShelfModel", "tape", "[I", false)
  | 4 => ("ArchiveShelfModel", "taped", "I", false)
  | 5 => ("ArchiveShelfModel", "fault", "I", false)
  | 6 => ("ArchiveShelfModel", "faultPlace", "I", false)
  | 7 => ("ArchiveShelfModel", "members", "I", false)
  | 8 => ("ArchiveShelfModel", "reading", "I", false)
  | 9 => ("ArchiveShelfModel", "nameSize", "[I", false)
  | 10 => ("ArchiveShelfModel", "names", "[I", false)
  | 11 => ("ArchiveShelfModel", "size", "[I", false)
  | 12 => ("ArchiveShelfModel", "bytes", "[I", false)
  | 13 => ("ArchiveShelfModel", "isDirectory", "[Z", false)
  | 14 => ("ArchiveShelfModel", "newName", "I", false)
  | 15 => ("ArchiveShelfModel", "newNames", "[I", false)
  | 16 => ("ArchiveShelfModel", "newSize", "I", false)
  | 17 => ("ArchiveShelfModel", "newBytes", "[I", false)
  | 18 => ("ArchiveShelfModel", "newDirectory", "Z", false)
  | 19 => ("ArchiveShelfModel", "partFrom", "I", false)
  | 20 => ("ArchiveShelfModel", "partSize", "I", false)
  | 21 => ("ArchiveShelfModel", "octal", "J", false)
  | 22 => ("ArchiveShelfModel", "out", "[I", false)
  | 23 => ("ArchiveShelfModel", "outSize", "I", false)
  | 24 => ("ArchiveShelfModel", "most", "I", false)
  | 25 => ("ArchiveShelfModel", "bitAt", "I", false)
  | 26 => ("ArchiveShelfModel", "lastBit", "I", false)
  | 27 => ("ArchiveShelfModel", "lengths", "[I", false)
  | 28 => ("ArchiveShelfModel", "codes", "[I", false)
  | 29 => ("ArchiveShelfModel", "lengthRow", "[I", false)
  | 30 => ("ArchiveShelfModel", "more", "I", false)
  | 31 => ("ArchiveShelfModel", "raw", "[I", false)
  | 32 => ("ArchiveShelfModel", "rawSize", "I", false)
  | 33 => ("ArchiveShelfModel", "held", "I", false)
  | 34 => ("ArchiveShelfModel", "holds", "I", false)
  | 35 => ("ArchiveShelfModel", "matchFar", "I", false)
  | 36 => ("ArchiveShelfModel", "headAt", "[I", false)
  | 37 => ("ArchiveShelfModel", "wayOf", "[I", false)
  | _ => ("ArchiveShelfModel", "packedSize", "[I", false)
def tyX12 : Nat → FieldType := fun k => match k with
  | 0 => .int
  | 1 => .array .int
  | 2 => .int
  | 3 => .array .int
  | 4 => .int
  | 5 => .int
  | 6 => .int
  | 7 => .int
  | 8 => .int
  | 9 => .array .int
  | 10 => .array .int
  | 11 => .array .int
  | 12 => .array .int
  | 13 => .array .boolean
  | 14 => .int
  | 15 => .array .int
  | 16 => .int
  | 17 => .array .int
  | 18 => .boolean
  | 19 => .int
  | 20 => .int
  | 21 => .long
  | 22 => .array .int
  | 23 => .int
  | 24 => .int
  | 25 => .int
  | 26 => .int
  | 27 => .array .int
  | 28 => .array .int
  | 29 => .array .int
  | 30 => .int
  | 31 => .array .int
  | 32 => .int
  | 33 => .int
  | 34 => .int
  | 35 => .int
  | 36 => .array .int
  | 37 => .array .int
  | _ => .array .int
abbrev wsX120 : List Cond := u_ws RX12 TX12 39
theorem nmX12 : ∀ a, a < 39 → ∀ b, b < 39 → a ≠ b → (TX12 a).2.1 ≠ (TX12 b).2.1 := by decide +kernel
theorem tyX12_ok : ∀ k, k < 39 → parseFieldDescriptor (TX12 k).2.2.1 = some (tyX12 k) := by decide +kernel
abbrev cX12_init : ByteArray := prog_14_method_1_code
def yX12_init : MethodName := ⟨RX12, "<init>", "()V"⟩
abbrev cX12_thrown : ByteArray := prog_14_method_2_code
def yX12_thrown : MethodName := ⟨RX12, "thrown", "()I"⟩
abbrev cX12_in : ByteArray := prog_14_method_3_code
def yX12_in : MethodName := ⟨RX12, "in", "(JJJ)Z"⟩
abbrev cX12_refuses : ByteArray := prog_14_method_4_code
def yX12_refuses : MethodName := ⟨RX12, "refuses", "(ZI)Z"⟩
abbrev cX12_fails : ByteArray := prog_14_method_5_code
def yX12_fails : MethodName := ⟨RX12, "fails", "(II)Z"⟩
abbrev cX12_type : ByteArray := prog_14_method_6_code
def yX12_type : MethodName := ⟨RX12, "type", "(JI)I"⟩
abbrev cX12_keep : ByteArray := prog_14_method_7_code
def yX12_keep : MethodName := ⟨RX12, "keep", "(I)V"⟩
abbrev cX12_typed : ByteArray := prog_14_method_8_code
def yX12_typed : MethodName := ⟨RX12, "typed", "(I)I"⟩
abbrev cX12_put : ByteArray := prog_14_method_9_code
def yX12_put : MethodName := ⟨RX12, "put", "(I)V"⟩
abbrev cX12_feed : ByteArray := prog_14_method_10_code
def yX12_feed : MethodName := ⟨RX12, "feed", "(IIIII)I"⟩
abbrev cX12_end : ByteArray := prog_14_method_11_code
def yX12_end : MethodName := ⟨RX12, "end", "(I)V"⟩
abbrev cX12_poke : ByteArray := prog_14_method_12_code
def yX12_poke : MethodName := ⟨RX12, "poke", "(II)I"⟩
abbrev cX12_at : ByteArray := prog_14_method_13_code
def yX12_at : MethodName := ⟨RX12, "at", "(II)J"⟩
abbrev cX12_count : ByteArray := prog_14_method_14_code
def yX12_count : MethodName := ⟨RX12, "count", "(I)I"⟩
abbrev cX12_fault : ByteArray := prog_14_method_15_code
def yX12_fault : MethodName := ⟨RX12, "fault", "(I)I"⟩
abbrev cX12_nameAt : ByteArray := prog_14_method_16_code
def yX12_nameAt : MethodName := ⟨RX12, "nameAt", "(II)I"⟩
abbrev cX12_isName : ByteArray := prog_14_method_17_code
def yX12_isName : MethodName := ⟨RX12, "isName", "()Z"⟩
abbrev cX12_isNamed : ByteArray := prog_14_method_18_code
def yX12_isNamed : MethodName := ⟨RX12, "isNamed", "(I)Z"⟩
abbrev cX12_isUnderNew : ByteArray := prog_14_method_19_code
def yX12_isUnderNew : MethodName := ⟨RX12, "isUnderNew", "(I)Z"⟩
abbrev cX12_isNewUnder : ByteArray := prog_14_method_20_code
def yX12_isNewUnder : MethodName := ⟨RX12, "isNewUnder", "(I)Z"⟩
abbrev cX12_seek : ByteArray := prog_14_method_21_code
def yX12_seek : MethodName := ⟨RX12, "seek", "(II)I"⟩
abbrev cX12_isInTheWay : ByteArray := prog_14_method_22_code
def yX12_isInTheWay : MethodName := ⟨RX12, "isInTheWay", "(II)Z"⟩
abbrev cX12_move : ByteArray := prog_14_method_23_code
def yX12_move : MethodName := ⟨RX12, "move", "(II)V"⟩
abbrev cX12_stand : ByteArray := prog_14_method_24_code
def yX12_stand : MethodName := ⟨RX12, "stand", "(II)I"⟩
abbrev cX12_come : ByteArray := prog_14_method_25_code
def yX12_come : MethodName := ⟨RX12, "come", "(IZ)I"⟩
abbrev cX12_go : ByteArray := prog_14_method_26_code
def yX12_go : MethodName := ⟨RX12, "go", "(I)I"⟩
abbrev cX12_name : ByteArray := prog_14_method_27_code
def yX12_name : MethodName := ⟨RX12, "name", "(II)I"⟩
abbrev cX12_byteAt : ByteArray := prog_14_method_28_code
def yX12_byteAt : MethodName := ⟨RX12, "byteAt", "(II)I"⟩
abbrev cX12_takePath : ByteArray := prog_14_method_29_code
def yX12_takePath : MethodName := ⟨RX12, "takePath", "()V"⟩
abbrev cX12_kind : ByteArray := prog_14_method_30_code
def yX12_kind : MethodName := ⟨RX12, "kind", "()I"⟩
abbrev cX12_findPart : ByteArray := prog_14_method_31_code
def yX12_findPart : MethodName := ⟨RX12, "findPart", "(I)V"⟩
abbrev cX12_isSamePart : ByteArray := prog_14_method_32_code
def yX12_isSamePart : MethodName := ⟨RX12, "isSamePart", "(IIII)Z"⟩
abbrev cX12_isFresh : ByteArray := prog_14_method_33_code
def yX12_isFresh : MethodName := ⟨RX12, "isFresh", "(I)Z"⟩
abbrev cX12_child : ByteArray := prog_14_method_34_code
def yX12_child : MethodName := ⟨RX12, "child", "(II)I"⟩
abbrev cX12_isRow : ByteArray := prog_14_method_35_code
def yX12_isRow : MethodName := ⟨RX12, "isRow", "(IIIIII)Z"⟩
abbrev cX12_reaches : ByteArray := prog_14_method_36_code
def yX12_reaches : MethodName := ⟨RX12, "reaches", "(J)Z"⟩
abbrev cX12_areZeros : ByteArray := prog_14_method_37_code
def yX12_areZeros : MethodName := ⟨RX12, "areZeros", "(I)Z"⟩
abbrev cX12_comes : ByteArray := prog_14_method_38_code
def yX12_comes : MethodName := ⟨RX12, "comes", "(I)Z"⟩
abbrev cX12_takeBytes : ByteArray := prog_14_method_39_code
def yX12_takeBytes : MethodName := ⟨RX12, "takeBytes", "(II)V"⟩
abbrev cX12_readOctal : ByteArray := prog_14_method_40_code
def yX12_readOctal : MethodName := ⟨RX12, "readOctal", "(II)Z"⟩
abbrev cX12_readSum : ByteArray := prog_14_method_41_code
def yX12_readSum : MethodName := ⟨RX12, "readSum", "(I)Z"⟩
abbrev cX12_readMark : ByteArray := prog_14_method_42_code
def yX12_readMark : MethodName := ⟨RX12, "readMark", "(I)Z"⟩
abbrev cX12_addName : ByteArray := prog_14_method_43_code
def yX12_addName : MethodName := ⟨RX12, "addName", "(II)V"⟩
abbrev cX12_readBlockHead : ByteArray := prog_14_method_44_code
def yX12_readBlockHead : MethodName := ⟨RX12, "readBlockHead", "(I)Z"⟩
abbrev cX12_isBlank : ByteArray := prog_14_method_45_code
def yX12_isBlank : MethodName := ⟨RX12, "isBlank", "(I)Z"⟩
abbrev cX12_readBlocks : ByteArray := prog_14_method_46_code
def yX12_readBlocks : MethodName := ⟨RX12, "readBlocks", "()Z"⟩
abbrev cX12_digitOf : ByteArray := prog_14_method_47_code
def yX12_digitOf : MethodName := ⟨RX12, "digitOf", "(I)I"⟩
abbrev cX12_hexAt : ByteArray := prog_14_method_48_code
def yX12_hexAt : MethodName := ⟨RX12, "hexAt", "(I)J"⟩
abbrev cX12_readDigitsHead : ByteArray := prog_14_method_49_code
def yX12_readDigitsHead : MethodName := ⟨RX12, "readDigitsHead", "(I)Z"⟩
abbrev cX12_trailerAt : ByteArray := prog_14_method_50_code
def yX12_trailerAt : MethodName := ⟨RX12, "trailerAt", "(I)I"⟩
abbrev cX12_isTrailer : ByteArray := prog_14_method_51_code
def yX12_isTrailer : MethodName := ⟨RX12, "isTrailer", "()Z"⟩
abbrev cX12_upToFour : ByteArray := prog_14_method_52_code
def yX12_upToFour : MethodName := ⟨RX12, "upToFour", "(I)I"⟩
abbrev cX12_readDigits : ByteArray := prog_14_method_53_code
def yX12_readDigits : MethodName := ⟨RX12, "readDigits", "()Z"⟩
abbrev cX12_twoAt : ByteArray := prog_14_method_54_code
def yX12_twoAt : MethodName := ⟨RX12, "twoAt", "(I)I"⟩
abbrev cX12_fourAt : ByteArray := prog_14_method_55_code
def yX12_fourAt : MethodName := ⟨RX12, "fourAt", "(I)J"⟩
abbrev cX12_isZeroAt : ByteArray := prog_14_method_56_code
def yX12_isZeroAt : MethodName := ⟨RX12, "isZeroAt", "(III)Z"⟩
abbrev cX12_readEnd : ByteArray := prog_14_method_57_code
def yX12_readEnd : MethodName := ⟨RX12, "readEnd", "(I)Z"⟩
abbrev cX12_readEntryHead : ByteArray := prog_14_method_58_code
def yX12_readEntryHead : MethodName := ⟨RX12, "readEntryHead", "(II)Z"⟩
abbrev cX12_isAsThere : ByteArray := prog_14_method_59_code
def yX12_isAsThere : MethodName := ⟨RX12, "isAsThere", "(III)Z"⟩
abbrev cX12_readLocal : ByteArray := prog_14_method_60_code
def yX12_readLocal : MethodName := ⟨RX12, "readLocal", "(II)Z"⟩
abbrev cX12_readContent : ByteArray := prog_14_method_61_code
def yX12_readContent : MethodName := ⟨RX12, "readContent", "(III)Z"⟩
abbrev cX12_readDirectory : ByteArray := prog_14_method_62_code
def yX12_readDirectory : MethodName := ⟨RX12, "readDirectory", "()Z"⟩
abbrev cX12_read : ByteArray := prog_14_method_63_code
def yX12_read : MethodName := ⟨RX12, "read", "(I)I"⟩
abbrev cX12_order : ByteArray := prog_14_method_64_code
def yX12_order : MethodName := ⟨RX12, "order", "(I)I"⟩
abbrev cX12_bit : ByteArray := prog_14_method_65_code
def yX12_bit : MethodName := ⟨RX12, "bit", "()I"⟩
abbrev cX12_bits : ByteArray := prog_14_method_66_code
def yX12_bits : MethodName := ⟨RX12, "bits", "(I)I"⟩
abbrev cX12_layCodes : ByteArray := prog_14_method_67_code
def yX12_layCodes : MethodName := ⟨RX12, "layCodes", "(II)V"⟩
abbrev cX12_fullness : ByteArray := prog_14_method_68_code
def yX12_fullness : MethodName := ⟨RX12, "fullness", "(II)I"⟩
abbrev cX12_symbol : ByteArray := prog_14_method_69_code
def yX12_symbol : MethodName := ⟨RX12, "symbol", "(II)I"⟩
abbrev cX12_add : ByteArray := prog_14_method_70_code
def yX12_add : MethodName := ⟨RX12, "add", "(II)Z"⟩
abbrev cX12_plain : ByteArray := prog_14_method_71_code
def yX12_plain : MethodName := ⟨RX12, "plain", "(I)Z"⟩
abbrev cX12_layFixed : ByteArray := prog_14_method_72_code
def yX12_layFixed : MethodName := ⟨RX12, "layFixed", "()V"⟩
abbrev cX12_readRow : ByteArray := prog_14_method_73_code
def yX12_readRow : MethodName := ⟨RX12, "readRow", "(II)Z"⟩
abbrev cX12_readCodes : ByteArray := prog_14_method_74_code
def yX12_readCodes : MethodName := ⟨RX12, "readCodes", "(I)Z"⟩
abbrev cX12_lengthOf : ByteArray := prog_14_method_75_code
def yX12_lengthOf : MethodName := ⟨RX12, "lengthOf", "(I)I"⟩
abbrev cX12_distanceOf : ByteArray := prog_14_method_76_code
def yX12_distanceOf : MethodName := ⟨RX12, "distanceOf", "(I)I"⟩
abbrev cX12_readSymbols : ByteArray := prog_14_method_77_code
def yX12_readSymbols : MethodName := ⟨RX12, "readSymbols", "()Z"⟩
abbrev cX12_unpackFrom : ByteArray := prog_14_method_78_code
def yX12_unpackFrom : MethodName := ⟨RX12, "unpackFrom", "(III)Z"⟩
abbrev cX12_unpack : ByteArray := prog_14_method_79_code
def yX12_unpack : MethodName := ⟨RX12, "unpack", "()I"⟩
abbrev cX12_checkMore : ByteArray := prog_14_method_80_code
def yX12_checkMore : MethodName := ⟨RX12, "checkMore", "(II)I"⟩
abbrev cX12_check : ByteArray := prog_14_method_81_code
def yX12_check : MethodName := ⟨RX12, "check", "()I"⟩
abbrev cX12_putBit : ByteArray := prog_14_method_82_code
def yX12_putBit : MethodName := ⟨RX12, "putBit", "(I)V"⟩
abbrev cX12_putBits : ByteArray := prog_14_method_83_code
def yX12_putBits : MethodName := ⟨RX12, "putBits", "(II)V"⟩
abbrev cX12_putCode : ByteArray := prog_14_method_84_code
def yX12_putCode : MethodName := ⟨RX12, "putCode", "(I)V"⟩
abbrev cX12_match : ByteArray := prog_14_method_85_code
def yX12_match : MethodName := ⟨RX12, "match", "(I)I"⟩
abbrev cX12_putMatch : ByteArray := prog_14_method_86_code
def yX12_putMatch : MethodName := ⟨RX12, "putMatch", "(II)V"⟩
abbrev cX12_putPacked : ByteArray := prog_14_method_87_code
def yX12_putPacked : MethodName := ⟨RX12, "putPacked", "()V"⟩
abbrev cX12_pack : ByteArray := prog_14_method_88_code
def yX12_pack : MethodName := ⟨RX12, "pack", "()I"⟩
abbrev cX12_putZeros : ByteArray := prog_14_method_89_code
def yX12_putZeros : MethodName := ⟨RX12, "putZeros", "(I)V"⟩
abbrev cX12_putName : ByteArray := prog_14_method_90_code
def yX12_putName : MethodName := ⟨RX12, "putName", "(IZ)V"⟩
abbrev cX12_putBytes : ByteArray := prog_14_method_91_code
def yX12_putBytes : MethodName := ⟨RX12, "putBytes", "(I)V"⟩
abbrev cX12_octalAt : ByteArray := prog_14_method_92_code
def yX12_octalAt : MethodName := ⟨RX12, "octalAt", "(III)V"⟩
abbrev cX12_writeBlock : ByteArray := prog_14_method_93_code
def yX12_writeBlock : MethodName := ⟨RX12, "writeBlock", "(I)V"⟩
abbrev cX12_putHex : ByteArray := prog_14_method_94_code
def yX12_putHex : MethodName := ⟨RX12, "putHex", "(I)V"⟩
abbrev cX12_putDigitsHead : ByteArray := prog_14_method_95_code
def yX12_putDigitsHead : MethodName := ⟨RX12, "putDigitsHead", "(IIII)V"⟩
abbrev cX12_writeDigits : ByteArray := prog_14_method_96_code
def yX12_writeDigits : MethodName := ⟨RX12, "writeDigits", "()V"⟩
abbrev cX12_putTwo : ByteArray := prog_14_method_97_code
def yX12_putTwo : MethodName := ⟨RX12, "putTwo", "(I)V"⟩
abbrev cX12_putFour : ByteArray := prog_14_method_98_code
def yX12_putFour : MethodName := ⟨RX12, "putFour", "(I)V"⟩
abbrev cX12_checkOf : ByteArray := prog_14_method_99_code
def yX12_checkOf : MethodName := ⟨RX12, "checkOf", "(I)I"⟩
abbrev cX12_namedSize : ByteArray := prog_14_method_100_code
def yX12_namedSize : MethodName := ⟨RX12, "namedSize", "(I)I"⟩
abbrev cX12_fourInto : ByteArray := prog_14_method_101_code
def yX12_fourInto : MethodName := ⟨RX12, "fourInto", "(II)V"⟩
abbrev cX12_writeLocal : ByteArray := prog_14_method_102_code
def yX12_writeLocal : MethodName := ⟨RX12, "writeLocal", "(IZ)V"⟩
abbrev cX12_writeEntry : ByteArray := prog_14_method_103_code
def yX12_writeEntry : MethodName := ⟨RX12, "writeEntry", "(I)V"⟩
abbrev cX12_writeDirectory : ByteArray := prog_14_method_104_code
def yX12_writeDirectory : MethodName := ⟨RX12, "writeDirectory", "(Z)V"⟩
abbrev cX12_write : ByteArray := prog_14_method_105_code
def yX12_write : MethodName := ⟨RX12, "write", "(IZ)I"⟩
def RJ9 : String := "java/lang/Math"
def TJ9 : u_T := fun k => match k with
  | _ => ("", "", "", false)
def tyJ9 : Nat → FieldType := fun k => match k with
  | _ => .int
abbrev wsJ90 : List Cond := u_ws RJ9 TJ9 0
theorem nmJ9 : ∀ a, a < 0 → ∀ b, b < 0 → a ≠ b → (TJ9 a).2.1 ≠ (TJ9 b).2.1 := by decide +kernel
theorem tyJ9_ok : ∀ k, k < 0 → parseFieldDescriptor (TJ9 k).2.2.1 = some (tyJ9 k) := by decide +kernel
abbrev cJ9_max_7cf53 : ByteArray := prog_19_method_65_code
def yJ9_max_7cf53 : MethodName := ⟨RJ9, "max", "(II)I"⟩
abbrev cJ9_min_7cf53 : ByteArray := prog_19_method_69_code
def yJ9_min_7cf53 : MethodName := ⟨RJ9, "min", "(II)I"⟩
def RJ0 : String := "java/lang/String"
def TJ0 : u_T := fun k => match k with
  | _ => ("", "", "", false)
def tyJ0 : Nat → FieldType := fun k => match k with
  | _ => .int
abbrev wsJ00 : List Cond := u_ws RJ0 TJ0 0
theorem nmJ0 : ∀ a, a < 0 → ∀ b, b < 0 → a ≠ b → (TJ0 a).2.1 ≠ (TJ0 b).2.1 := by decide +kernel
theorem tyJ0_ok : ∀ k, k < 0 → parseFieldDescriptor (TJ0 k).2.2.1 = some (tyJ0 k) := by decide +kernel
abbrev cJ0_length_8abf5 : ByteArray := prog_21_method_54_code
def yJ0_length_8abf5 : MethodName := ⟨RJ0, "length", "()I"⟩
abbrev cJ0_charAt_5068e : ByteArray := prog_21_method_56_code
def yJ0_charAt_5068e : MethodName := ⟨RJ0, "charAt", "(I)C"⟩
abbrev cJ0_coder_7d493 : ByteArray := prog_21_method_152_code
def yJ0_coder_7d493 : MethodName := ⟨RJ0, "coder", "()B"⟩
abbrev cJ0_isLatin1_aae02 : ByteArray := prog_21_method_154_code
def yJ0_isLatin1_aae02 : MethodName := ⟨RJ0, "isLatin1", "()Z"⟩
abbrev cJ0_checkIndex_df160 : ByteArray := prog_21_method_155_code
def yJ0_checkIndex_df160 : MethodName := ⟨RJ0, "checkIndex", "(II)V"⟩
def RJ1 : String := "java/lang/StringLatin1"
def TJ1 : u_T := fun k => match k with
  | _ => ("", "", "", false)
def tyJ1 : Nat → FieldType := fun k => match k with
  | _ => .int
abbrev wsJ10 : List Cond := u_ws RJ1 TJ1 0
theorem nmJ1 : ∀ a, a < 0 → ∀ b, b < 0 → a ≠ b → (TJ1 a).2.1 ≠ (TJ1 b).2.1 := by decide +kernel
theorem tyJ1_ok : ∀ k, k < 0 → parseFieldDescriptor (TJ1 k).2.2.1 = some (tyJ1 k) := by decide +kernel
abbrev cJ1_charAt_3b067 : ByteArray := prog_22_method_2_code
def yJ1_charAt_3b067 : MethodName := ⟨RJ1, "charAt", "([BI)C"⟩
def RJ2 : String := "java/lang/StringUTF16"
def TJ2 : u_T := fun k => match k with
  | _ => ("", "", "", false)
def tyJ2 : Nat → FieldType := fun k => match k with
  | _ => .int
abbrev wsJ20 : List Cond := u_ws RJ2 TJ2 0
theorem nmJ2 : ∀ a, a < 0 → ∀ b, b < 0 → a ≠ b → (TJ2 a).2.1 ≠ (TJ2 b).2.1 := by decide +kernel
theorem tyJ2_ok : ∀ k, k < 0 → parseFieldDescriptor (TJ2 k).2.2.1 = some (tyJ2 k) := by decide +kernel
abbrev cJ2_getChar_3b067 : ByteArray := prog_23_method_5_code
def yJ2_getChar_3b067 : MethodName := ⟨RJ2, "getChar", "([BI)C"⟩
abbrev cJ2_length_9d52b : ByteArray := prog_23_method_6_code
def yJ2_length_9d52b : MethodName := ⟨RJ2, "length", "([B)I"⟩
abbrev cJ2_charAt_3b067 : ByteArray := prog_23_method_83_code
def yJ2_charAt_3b067 : MethodName := ⟨RJ2, "charAt", "([BI)C"⟩
abbrev cJ2_checkIndex_2214a : ByteArray := prog_23_method_91_code
def yJ2_checkIndex_2214a : MethodName := ⟨RJ2, "checkIndex", "(I[B)V"⟩
def RJ3 : String := "jdk/internal/util/Preconditions"
def TJ3 : u_T := fun k => match k with
  | _ => ("", "", "", false)
def tyJ3 : Nat → FieldType := fun k => match k with
  | _ => .int
abbrev wsJ30 : List Cond := u_ws RJ3 TJ3 0
theorem nmJ3 : ∀ a, a < 0 → ∀ b, b < 0 → a ≠ b → (TJ3 a).2.1 ≠ (TJ3 b).2.1 := by decide +kernel
theorem tyJ3_ok : ∀ k, k < 0 → parseFieldDescriptor (TJ3 k).2.2.1 = some (tyJ3 k) := by decide +kernel
abbrev cJ3_checkIndex_8e157 : ByteArray := prog_26_method_11_code
def yJ3_checkIndex_8e157 : MethodName := ⟨RJ3, "checkIndex", "(IILjava/util/function/BiFunction;)I"⟩
def RL : String := "ArchiveShelfLaw"
abbrev cL_type : ByteArray := method_3_code
def yL_type : MethodName := ⟨RL, "type", "(LArchiveShelf;JI[J)I"⟩
abbrev cL_keep : ByteArray := method_4_code
def yL_keep : MethodName := ⟨RL, "keep", "(LArchiveShelf;I)I"⟩
abbrev cL_typed : ByteArray := method_5_code
def yL_typed : MethodName := ⟨RL, "typed", "(LArchiveShelf;I[J)I"⟩
abbrev cL_come : ByteArray := method_6_code
def yL_come : MethodName := ⟨RL, "come", "(LArchiveShelf;IZ[J)I"⟩
abbrev cL_go : ByteArray := method_7_code
def yL_go : MethodName := ⟨RL, "go", "(LArchiveShelf;I[J)I"⟩
abbrev cL_name : ByteArray := method_8_code
def yL_name : MethodName := ⟨RL, "name", "(LArchiveShelf;II[J)I"⟩
abbrev cL_byteAt : ByteArray := method_9_code
def yL_byteAt : MethodName := ⟨RL, "byteAt", "(LArchiveShelf;II[J)I"⟩
abbrev cL_child : ByteArray := method_10_code
def yL_child : MethodName := ⟨RL, "child", "(LArchiveShelf;II[J)I"⟩
abbrev cL_write : ByteArray := method_11_code
def yL_write : MethodName := ⟨RL, "write", "(LArchiveShelf;IZ[J)I"⟩
abbrev cL_read : ByteArray := method_12_code
def yL_read : MethodName := ⟨RL, "read", "(LArchiveShelf;I[J)I"⟩
abbrev cL_fault : ByteArray := method_13_code
def yL_fault : MethodName := ⟨RL, "fault", "(LArchiveShelf;I[J)I"⟩
abbrev cL_feed : ByteArray := method_14_code
def yL_feed : MethodName := ⟨RL, "feed", "(LArchiveShelf;IIIII[J)I"⟩
abbrev cL_end : ByteArray := method_15_code
def yL_end : MethodName := ⟨RL, "end", "(LArchiveShelf;I)I"⟩
abbrev cL_poke : ByteArray := method_16_code
def yL_poke : MethodName := ⟨RL, "poke", "(LArchiveShelf;II[J)I"⟩
abbrev cL_at : ByteArray := method_17_code
def yL_at : MethodName := ⟨RL, "at", "(LArchiveShelf;II[J)I"⟩
abbrev cL_count : ByteArray := method_18_code
def yL_count : MethodName := ⟨RL, "count", "(LArchiveShelf;I[J)I"⟩
abbrev cL_law : ByteArray := code
def yL_law : MethodName := ⟨RL, "law", "([I)Z"⟩
end
section
/-! THE ABSTRACT MACHINE: values with numbered references; the frame's instructions -/
def am_v (ad : Nat → Nat) (v : Value) : Value := match v with
  | .ref k => .ref (ad k)
  | v => v
theorem am_v_cat (ad : Nat → Nat) (v : Value) : (am_v ad v).category = v.category := by cases v <;> rfl
abbrev am_lo (ad : Nat → Nat) (lo : List (Nat × Value)) : List (Nat × Value) := lo.map (fun q => (q.1, am_v ad q.2))
def am_get (lo : List (Nat × Value)) (i : Nat) : Option Value := match lo with
  | [] => none
  | (j, v) :: r => bif Nat.beq j i then some v else am_get r i
def am_set (lo : List (Nat × Value)) (i : Nat) (v : Value) : List (Nat × Value) := (i, v) :: lo.filter (fun q => !(q.1 == i) && !(q.1 + 1 == i && q.2.category == 2))
def am_setL (lo : List (Nat × Value)) (i : Nat) (v : Value) : List (Nat × Value) := (i, v) :: lo.filter (fun q => !(q.1 == i) && (!(q.1 == i + 1) && !(q.1 + 1 == i && q.2.category == 2)))
def am_jmp (pc : Nat) (off : Int) : Option Nat := match (pc : Int) + off with
  | .ofNat t => some t
  | _ => none
theorem am_jmp_eq {pc t : Nat} {off : Int} (h : am_jmp pc off = some t) : (pc : Int) + off = (t : Int) := by
  unfold am_jmp at h
  split at h
  · cases h; assumption
  · cases h
theorem am_get_at : ∀ {lo : List (Nat × Value)} {i : Nat} {v : Value}, am_get lo i = some v → ∃ k : Nat, lo[k]? = some (i, v)
  | [], i, v, h => by simp [am_get] at h
  | (j, w) :: r, i, v, h => by
    unfold am_get at h
    cases hb : Nat.beq j i with
    | true =>
      rw [hb] at h
      cases h
      exact ⟨0, by rw [Nat.eq_of_beq_eq_true hb]; rfl⟩
    | false =>
      rw [hb] at h
      obtain ⟨k, hk⟩ := am_get_at (lo := r) h
      exact ⟨k + 1, by simpa using hk⟩
theorem am_get_lo {ad : Nat → Nat} {lo : List (Nat × Value)} {i : Nat} {v : Value} (h : am_get lo i = some v) : ∃ k : Nat, (am_lo ad lo)[k]? = some (i, am_v ad v) := by
  obtain ⟨k, hk⟩ := am_get_at h
  exact ⟨k, by simp [am_lo, hk]⟩
theorem am_has {ad : Nat → Nat} {ls : Array Slot} {nL : Nat} {lo : List (Nat × Value)} {i : Nat} {v : Value} (hL : lv_has ls nL (am_lo ad lo)) (h : am_get lo i = some v) : ls[i]? = some (.val (am_v ad v)) := by
  obtain ⟨k, hk⟩ := am_get_lo (ad := ad) h
  exact lv_at hL k hk
theorem am_set_lo {ad : Nat → Nat} (lo : List (Nat × Value)) (i : Nat) (v : Value) : (i, am_v ad v) :: (am_lo ad lo).filter (fun q => !(q.1 == i) && !(q.1 + 1 == i && q.2.category == 2)) = am_lo ad (am_set lo i v) := by
  simp [am_lo, am_set, List.filter_map, Function.comp_def, am_v_cat]
theorem am_setL_lo {ad : Nat → Nat} (lo : List (Nat × Value)) (i : Nat) (v : Value) : (i, am_v ad v) :: (am_lo ad lo).filter (fun q => !(q.1 == i) && (!(q.1 == i + 1) && !(q.1 + 1 == i && q.2.category == 2))) = am_lo ad (am_setL lo i v) := by
  simp [am_lo, am_setL, List.filter_map, Function.comp_def, am_v_cat]
theorem am_bT {b : Bool} {t f : Nat} {P : Nat → Prop} (hb : b = true) (h : P (bif b then t else f)) : P t := by rw [hb] at h; exact h
theorem am_bF {b : Bool} {t f : Nat} {P : Nat → Prop} (hb : b = false) (h : P (bif b then t else f)) : P f := by rw [hb] at h; exact h
def am_cc (cd : Jvm.ClassFile.Cond) (x y : Int32) : Bool := match cd with
  | .eq => decide (x = y)
  | .ne => !decide (x = y)
  | .lt => decide (x < y)
  | .ge => decide (y ≤ x)
  | .gt => decide (y < x)
  | .le => decide (x ≤ y)

def am_s0 (nL : Nat) (i : Instr) (pc : Nat) (lo : List (Nat × Value)) (st : List Value) : Option (Nat × List (Nat × Value) × List Value) := match i with
  | .iconst n => some (pc + 1, lo, .int (Int32.ofInt n) :: st)
  | .bipush n => some (pc + 2, lo, .int (Int8.ofInt n).toInt32 :: st)
  | .sipush n => some (pc + 3, lo, .int (Int16.ofInt n).toInt32 :: st)
  | .lconst n => some (pc + 1, lo, .long (Int64.ofNat (n : Nat)) :: st)
  | .aconst_null => some (pc + 1, lo, .null :: st)
  | .iload n => match am_get lo n with
    | some (.int x) => some (pc + 2, lo, .int x :: st)
    | _ => none
  | .iload_n n => match am_get lo (n : Nat) with
    | some (.int x) => some (pc + 1, lo, .int x :: st)
    | _ => none
  | .lload n => match am_get lo n with
    | some (.long x) => some (pc + 2, lo, .long x :: st)
    | _ => none
  | .lload_n n => match am_get lo (n : Nat) with
    | some (.long x) => some (pc + 1, lo, .long x :: st)
    | _ => none
  | .aload n => match am_get lo n with
    | some (.ref x) => some (pc + 2, lo, .ref x :: st)
    | some (.null) => some (pc + 2, lo, .null :: st)
    | _ => none
  | .aload_n n => match am_get lo (n : Nat) with
    | some (.ref x) => some (pc + 1, lo, .ref x :: st)
    | some (.null) => some (pc + 1, lo, .null :: st)
    | _ => none
  | .istore n => match st with
    | .int x :: r => bif Nat.blt (n) nL then some (pc + 2, am_set lo n (.int x), r) else none
    | _ => none
  | .istore_n n => match st with
    | .int x :: r => bif Nat.blt ((n : Nat)) nL then some (pc + 1, am_set lo (n : Nat) (.int x), r) else none
    | _ => none
  | .lstore n => match st with
    | .long x :: r => bif Nat.blt (n + 1) nL then some (pc + 2, am_setL lo n (.long x), r) else none
    | _ => none
  | .lstore_n n => match st with
    | .long x :: r => bif Nat.blt ((n : Nat) + 1) nL then some (pc + 1, am_setL lo (n : Nat) (.long x), r) else none
    | _ => none
  | .astore n => match st with
    | .ref x :: r => bif Nat.blt (n) nL then some (pc + 2, am_set lo n (.ref x), r) else none
    | .null :: r => bif Nat.blt (n) nL then some (pc + 2, am_set lo n (.null), r) else none
    | _ => none
  | .astore_n n => match st with
    | .ref x :: r => bif Nat.blt ((n : Nat)) nL then some (pc + 1, am_set lo (n : Nat) (.ref x), r) else none
    | .null :: r => bif Nat.blt ((n : Nat)) nL then some (pc + 1, am_set lo (n : Nat) (.null), r) else none
    | _ => none
  | .iinc n d => match am_get lo n with
    | some (.int x) => bif Nat.blt n nL then some (pc + 3, am_set lo n (.int (x + Int32.ofInt d)), st) else none
    | _ => none
  | .iadd => match st with
    | .int y :: .int x :: r => some (pc + 1, lo, .int (x + y) :: r)
    | _ => none
  | .isub => match st with
    | .int y :: .int x :: r => some (pc + 1, lo, .int (x - y) :: r)
    | _ => none
  | .imul => match st with
    | .int y :: .int x :: r => some (pc + 1, lo, .int (x * y) :: r)
    | _ => none
  | .iand => match st with
    | .int y :: .int x :: r => some (pc + 1, lo, .int (x &&& y) :: r)
    | _ => none
  | .ior => match st with
    | .int y :: .int x :: r => some (pc + 1, lo, .int (x ||| y) :: r)
    | _ => none
  | .ixor => match st with
    | .int y :: .int x :: r => some (pc + 1, lo, .int (x ^^^ y) :: r)
    | _ => none
  | .ishl => match st with
    | .int y :: .int x :: r => some (pc + 1, lo, .int (x <<< (y &&& 31)) :: r)
    | _ => none
  | .ishr => match st with
    | .int y :: .int x :: r => some (pc + 1, lo, .int (x >>> (y &&& 31)) :: r)
    | _ => none
  | .iushr => match st with
    | .int y :: .int x :: r => some (pc + 1, lo, .int (x.toUInt32 >>> (y.toUInt32 &&& Int32.toUInt32 31)).toInt32 :: r)
    | _ => none
  | .idiv => match st with
    | .int y :: .int x :: r => if y = 0 then none else some (pc + 1, lo, .int (x / y) :: r)
    | _ => none
  | .irem => match st with
    | .int y :: .int x :: r => if y = 0 then none else some (pc + 1, lo, .int (x - x / y * y) :: r)
    | _ => none
  | .ladd => match st with
    | .long y :: .long x :: r => some (pc + 1, lo, .long (x + y) :: r)
    | _ => none
  | .lsub => match st with
    | .long y :: .long x :: r => some (pc + 1, lo, .long (x - y) :: r)
    | _ => none
  | .lmul => match st with
    | .long y :: .long x :: r => some (pc + 1, lo, .long (x * y) :: r)
    | _ => none
  | .land => match st with
    | .long y :: .long x :: r => some (pc + 1, lo, .long (x &&& y) :: r)
    | _ => none
  | .lor => match st with
    | .long y :: .long x :: r => some (pc + 1, lo, .long (x ||| y) :: r)
    | _ => none
  | .lxor => match st with
    | .long y :: .long x :: r => some (pc + 1, lo, .long (x ^^^ y) :: r)
    | _ => none
  | .lshl => match st with
    | .int y :: .long x :: r => some (pc + 1, lo, .long (x <<< (y.toInt64 &&& 63)) :: r)
    | _ => none
  | .lshr => match st with
    | .int y :: .long x :: r => some (pc + 1, lo, .long (x >>> (y.toInt64 &&& 63)) :: r)
    | _ => none
  | .lushr => match st with
    | .int y :: .long x :: r => some (pc + 1, lo, .long (x.toUInt64 >>> (y.toInt64.toUInt64 &&& Int64.toUInt64 63)).toInt64 :: r)
    | _ => none
  | .lcmp => match st with
    | .long y :: .long x :: r => some (pc + 1, lo, .int (lg_cmp x y) :: r)
    | _ => none
  | .ineg => match st with
    | .int x :: r => some (pc + 1, lo, .int (-x) :: r)
    | _ => none
  | .i2l => match st with
    | .int x :: r => some (pc + 1, lo, .long x.toInt64 :: r)
    | _ => none
  | .l2i => match st with
    | .long x :: r => some (pc + 1, lo, .int x.toInt32 :: r)
    | _ => none
  | .i2c => match st with
    | .int x :: r => some (pc + 1, lo, .int (x.toUInt32 % 65536).toInt32 :: r)
    | _ => none
  | .dup => match st with
    | v :: r => if v.category = 1 then some (pc + 1, lo, v :: v :: r) else none
    | _ => none
  | .pop => match st with
    | v :: r => if v.category = 1 then some (pc + 1, lo, r) else none
    | _ => none
  | .dup2 => match st with
    | v :: w :: r => if v.category = 1 ∧ w.category = 1 then some (pc + 1, lo, v :: w :: v :: w :: r) else none
    | _ => none
  | .if_icmp cd off => match st, am_jmp pc off with
    | .int y :: .int x :: r, some t => some (bif am_cc cd x y then t else pc + 3, lo, r)
    | _, _ => none
  | .ifCond cd off => match st, am_jmp pc off with
    | .int x :: r, some t => some (bif am_cc cd x 0 then t else pc + 3, lo, r)
    | _, _ => none
  | .goto off => match am_jmp pc off with
    | some t => some (t, lo, st)
    | _ => none
  | .ifnull off => match st, am_jmp pc off with
    | .ref _ :: r, _ => some (pc + 3, lo, r)
    | .null :: r, some t => some (t, lo, r)
    | _, _ => none
  | .ifnonnull off => match st, am_jmp pc off with
    | .ref _ :: r, some t => some (t, lo, r)
    | .null :: r, _ => some (pc + 3, lo, r)
    | _, _ => none
  | .tableswitch dflt a b offs => match st with
    | .int x :: r => if x.toInt < a ∨ b < x.toInt then (match am_jmp pc dflt with | some t => some (t, lo, r) | none => none) else (match offs[(x.toInt - a).toNat]? with | some off => (match am_jmp pc off with | some t => some (t, lo, r) | none => none) | none => none)
    | _ => none
  | .lookupswitch dflt ps => match st with
    | .int x :: r => if (ps.toList.zip (ps.toList.drop 1)).all (fun (a, next) => a.1 < next.1) = true then (match am_jmp pc (Op.lookupswitch.offset ps.toList dflt x.toInt) with | some t => some (t, lo, r) | none => none) else none
    | _ => none
  | _ => none
/-- an instruction's length, where its row asks it -/
def am_len (i : Instr) : Nat := match i with
  | .bipush _ => 2
  | .sipush _ => 3
  | .iload _ => 2
  | .lload _ => 2
  | .aload _ => 2
  | .istore _ => 2
  | .lstore _ => 2
  | .astore _ => 2
  | .iinc _ _ => 3
  | .if_icmp _ _ => 3
  | .ifCond _ _ => 3
  | .goto _ => 3
  | .ifnull _ => 3
  | .ifnonnull _ => 3
  | .tableswitch _ _ _ _ => 0
  | .lookupswitch _ _ => 0
  | .getfield _ => 3
  | .putfield _ => 3
  | .getstatic _ => 3
  | .new _ => 3
  | .invokevirtual _ => 3
  | .invokespecial _ => 3
  | .invokestatic _ => 3
  | .newarray _ => 2
  | .anewarray _ => 3
  | .ldc _ => 2
  | .ldc_w _ => 3
  | .ldc2_w _ => 3
  | _ => 1
section AMS
variable {p : Program} {l : Launch} {e : Env} {R : Room} {s : State} {m : MethodId} {args : Array Value} {below : List Frame} {meth : Method} {c : Code} {H : Heap} {locs : List Loc} {cells slots : Nat} {Q : State → Prop}
variable {cc : ByteArray} {pc nL : Nat} {ls : Array Slot} {ad : Nat → Nat} {lo : List (Nat × Value)} {st : List Value} {i : Instr} {len : Nat} {u : Nat × List (Nat × Value) × List Value}

theorem am_icmp (cd : Jvm.ClassFile.Cond) (X1 : p.tables.exec = Jvm.exec) (X2 : c.code = cc) {off : Int} {t : Nat} {x : Int32} {y : Int32} {r : List Value} (hd : decode cc pc = .ok (.if_icmp cd off, 3)) (ht : (pc : Int) + off = (t : Int)) (k : W p l e R s m args below meth c H locs cells slots Q (F0 m (bif am_cc cd x y then t else pc + 3) ls r)) : W p l e R s m args below meth c H locs cells slots Q (F0 m pc ls (.int y :: .int x :: r)) := by
  cases cd
  · exact lv_icmp_eq X1 X2 hd ht (fun q => am_bT (P := fun z => W p l e R s m args below meth c H locs cells slots Q (F0 m z ls r)) (show am_cc .eq x y = true from decide_eq_true q) k) (fun q => am_bF (P := fun z => W p l e R s m args below meth c H locs cells slots Q (F0 m z ls r)) (show am_cc .eq x y = false from decide_eq_false q) k)
  · exact lv_icmp_ne X1 X2 hd ht (fun q => am_bT (P := fun z => W p l e R s m args below meth c H locs cells slots Q (F0 m z ls r)) (show am_cc .ne x y = true from (by rw [decide_eq_false q]; rfl : (!decide (x = y)) = true)) k) (fun q => am_bF (P := fun z => W p l e R s m args below meth c H locs cells slots Q (F0 m z ls r)) (show am_cc .ne x y = false from (by rw [decide_eq_true q]; rfl : (!decide (x = y)) = false)) k)
  · exact lv_icmp_lt X1 X2 hd ht (fun q => am_bT (P := fun z => W p l e R s m args below meth c H locs cells slots Q (F0 m z ls r)) (show am_cc .lt x y = true from decide_eq_true q) k) (fun q => am_bF (P := fun z => W p l e R s m args below meth c H locs cells slots Q (F0 m z ls r)) (show am_cc .lt x y = false from decide_eq_false q) k)
  · exact lv_icmp_ge X1 X2 hd ht (fun q => am_bT (P := fun z => W p l e R s m args below meth c H locs cells slots Q (F0 m z ls r)) (show am_cc .ge x y = true from decide_eq_true q) k) (fun q => am_bF (P := fun z => W p l e R s m args below meth c H locs cells slots Q (F0 m z ls r)) (show am_cc .ge x y = false from decide_eq_false q) k)
  · exact lv_icmp_gt X1 X2 hd ht (fun q => am_bT (P := fun z => W p l e R s m args below meth c H locs cells slots Q (F0 m z ls r)) (show am_cc .gt x y = true from decide_eq_true q) k) (fun q => am_bF (P := fun z => W p l e R s m args below meth c H locs cells slots Q (F0 m z ls r)) (show am_cc .gt x y = false from decide_eq_false q) k)
  · exact lv_icmp_le X1 X2 hd ht (fun q => am_bT (P := fun z => W p l e R s m args below meth c H locs cells slots Q (F0 m z ls r)) (show am_cc .le x y = true from decide_eq_true q) k) (fun q => am_bF (P := fun z => W p l e R s m args below meth c H locs cells slots Q (F0 m z ls r)) (show am_cc .le x y = false from decide_eq_false q) k)
theorem am_icond (cd : Jvm.ClassFile.Cond) (X1 : p.tables.exec = Jvm.exec) (X2 : c.code = cc) {off : Int} {t : Nat} {x : Int32} {r : List Value} (hd : decode cc pc = .ok (.ifCond cd off, 3)) (ht : (pc : Int) + off = (t : Int)) (k : W p l e R s m args below meth c H locs cells slots Q (F0 m (bif am_cc cd x 0 then t else pc + 3) ls r)) : W p l e R s m args below meth c H locs cells slots Q (F0 m pc ls (.int x :: r)) := by
  cases cd
  · exact lv_if_eq X1 X2 hd ht (fun q => am_bT (P := fun z => W p l e R s m args below meth c H locs cells slots Q (F0 m z ls r)) (show am_cc .eq x 0 = true from decide_eq_true q) k) (fun q => am_bF (P := fun z => W p l e R s m args below meth c H locs cells slots Q (F0 m z ls r)) (show am_cc .eq x 0 = false from decide_eq_false q) k)
  · exact lv_if_ne X1 X2 hd ht (fun q => am_bT (P := fun z => W p l e R s m args below meth c H locs cells slots Q (F0 m z ls r)) (show am_cc .ne x 0 = true from (by rw [decide_eq_false q]; rfl : (!decide (x = 0)) = true)) k) (fun q => am_bF (P := fun z => W p l e R s m args below meth c H locs cells slots Q (F0 m z ls r)) (show am_cc .ne x 0 = false from (by rw [decide_eq_true q]; rfl : (!decide (x = 0)) = false)) k)
  · exact lv_if_lt X1 X2 hd ht (fun q => am_bT (P := fun z => W p l e R s m args below meth c H locs cells slots Q (F0 m z ls r)) (show am_cc .lt x 0 = true from decide_eq_true q) k) (fun q => am_bF (P := fun z => W p l e R s m args below meth c H locs cells slots Q (F0 m z ls r)) (show am_cc .lt x 0 = false from decide_eq_false q) k)
  · exact lv_if_ge X1 X2 hd ht (fun q => am_bT (P := fun z => W p l e R s m args below meth c H locs cells slots Q (F0 m z ls r)) (show am_cc .ge x 0 = true from decide_eq_true q) k) (fun q => am_bF (P := fun z => W p l e R s m args below meth c H locs cells slots Q (F0 m z ls r)) (show am_cc .ge x 0 = false from decide_eq_false q) k)
  · exact lv_if_gt X1 X2 hd ht (fun q => am_bT (P := fun z => W p l e R s m args below meth c H locs cells slots Q (F0 m z ls r)) (show am_cc .gt x 0 = true from decide_eq_true q) k) (fun q => am_bF (P := fun z => W p l e R s m args below meth c H locs cells slots Q (F0 m z ls r)) (show am_cc .gt x 0 = false from decide_eq_false q) k)
  · exact lv_if_le X1 X2 hd ht (fun q => am_bT (P := fun z => W p l e R s m args below meth c H locs cells slots Q (F0 m z ls r)) (show am_cc .le x 0 = true from decide_eq_true q) k) (fun q => am_bF (P := fun z => W p l e R s m args below meth c H locs cells slots Q (F0 m z ls r)) (show am_cc .le x 0 = false from decide_eq_false q) k)
set_option maxHeartbeats 4000000 in
theorem am_s0_ok (X1 : p.tables.exec = Jvm.exec) (X2 : c.code = cc) (hd : decode cc pc = .ok (i, len)) (hlen : am_len i = 0 ∨ len = am_len i) (h : am_s0 nL i pc lo st = some u) (hL : lv_has ls nL (am_lo ad lo)) (k : ∀ ls' : Array Slot, lv_has ls' nL (am_lo ad u.2.1) → W p l e R s m args below meth c H locs cells slots Q (F0 m u.1 ls' (u.2.2.map (am_v ad)))) : W p l e R s m args below meth c H locs cells slots Q (F0 m pc ls (st.map (am_v ad))) := by
  unfold am_s0 at h
  split at h
  · -- .iconst
    replace hlen : len = 1 := by rcases hlen with q | q; exact absurd q (by simp [am_len]); simpa [am_len] using q
    subst hlen
    cases h
    exact lv_iconst X1 X2 hd rfl (k ls hL)
  · -- .bipush
    replace hlen : len = 2 := by rcases hlen with q | q; exact absurd q (by simp [am_len]); simpa [am_len] using q
    subst hlen
    cases h
    exact lv_bipush X1 X2 hd rfl (k ls hL)
  · -- .sipush
    replace hlen : len = 3 := by rcases hlen with q | q; exact absurd q (by simp [am_len]); simpa [am_len] using q
    subst hlen
    cases h
    exact lv_sipush X1 X2 hd rfl (k ls hL)
  · -- .lconst
    replace hlen : len = 1 := by rcases hlen with q | q; exact absurd q (by simp [am_len]); simpa [am_len] using q
    subst hlen
    cases h
    exact lv_lconst X1 X2 hd rfl (k ls hL)
  · -- .aconst_null
    replace hlen : len = 1 := by rcases hlen with q | q; exact absurd q (by simp [am_len]); simpa [am_len] using q
    subst hlen
    cases h
    exact lv_null X1 X2 hd (k ls hL)
  · -- .iload
    replace hlen : len = 2 := by rcases hlen with q | q; exact absurd q (by simp [am_len]); simpa [am_len] using q
    subst hlen
    split at h
    · rename_i hq; cases h
      exact lv_iload X1 X2 hd (am_has hL hq) (k ls hL)
    · cases h
  · -- .iload_n
    replace hlen : len = 1 := by rcases hlen with q | q; exact absurd q (by simp [am_len]); simpa [am_len] using q
    subst hlen
    split at h
    · rename_i hq; cases h
      exact lv_iload_n X1 X2 hd rfl (am_has hL hq) (k ls hL)
    · cases h
  · -- .lload
    replace hlen : len = 2 := by rcases hlen with q | q; exact absurd q (by simp [am_len]); simpa [am_len] using q
    subst hlen
    split at h
    · rename_i hq; cases h
      exact lv_lload X1 X2 hd (am_has hL hq) (k ls hL)
    · cases h
  · -- .lload_n
    replace hlen : len = 1 := by rcases hlen with q | q; exact absurd q (by simp [am_len]); simpa [am_len] using q
    subst hlen
    split at h
    · rename_i hq; cases h
      exact lv_lload_n X1 X2 hd rfl (am_has hL hq) (k ls hL)
    · cases h
  · -- .aload
    replace hlen : len = 2 := by rcases hlen with q | q; exact absurd q (by simp [am_len]); simpa [am_len] using q
    subst hlen
    split at h
    · rename_i hq; cases h
      exact lv_aload X1 X2 hd (am_has hL hq) (k ls hL)
    · rename_i hq; cases h
      exact lv_aloadN X1 X2 hd (am_has hL hq) (k ls hL)
    · cases h
  · -- .aload_n
    replace hlen : len = 1 := by rcases hlen with q | q; exact absurd q (by simp [am_len]); simpa [am_len] using q
    subst hlen
    split at h
    · rename_i hq; cases h
      exact lv_aload_n X1 X2 hd rfl (am_has hL hq) (k ls hL)
    · rename_i hq; cases h
      exact lv_aload_nN X1 X2 hd rfl (am_has hL hq) (k ls hL)
    · cases h
  · -- .istore
    replace hlen : len = 2 := by rcases hlen with q | q; exact absurd q (by simp [am_len]); simpa [am_len] using q
    subst hlen
    split at h
    · cases hB : Nat.blt _ nL with
      | false => rw [hB] at h; cases h
      | true =>
        rw [hB] at h
        cases h
        exact lv_istore X1 X2 hd hL (by simpa using hB) (am_set_lo lo _ (.int _)) k
    · cases h
  · -- .istore_n
    replace hlen : len = 1 := by rcases hlen with q | q; exact absurd q (by simp [am_len]); simpa [am_len] using q
    subst hlen
    split at h
    · cases hB : Nat.blt _ nL with
      | false => rw [hB] at h; cases h
      | true =>
        rw [hB] at h
        cases h
        exact lv_istore_n X1 X2 hd rfl hL (by simpa using hB) (am_set_lo lo _ (.int _)) k
    · cases h
  · -- .lstore
    replace hlen : len = 2 := by rcases hlen with q | q; exact absurd q (by simp [am_len]); simpa [am_len] using q
    subst hlen
    split at h
    · cases hB : Nat.blt _ nL with
      | false => rw [hB] at h; cases h
      | true =>
        rw [hB] at h
        cases h
        exact lv_lstore X1 X2 hd hL (by simpa using hB) (am_setL_lo lo _ (.long _)) k
    · cases h
  · -- .lstore_n
    replace hlen : len = 1 := by rcases hlen with q | q; exact absurd q (by simp [am_len]); simpa [am_len] using q
    subst hlen
    split at h
    · cases hB : Nat.blt _ nL with
      | false => rw [hB] at h; cases h
      | true =>
        rw [hB] at h
        cases h
        exact lv_lstore_n X1 X2 hd rfl hL (by simpa using hB) (am_setL_lo lo _ (.long _)) k
    · cases h
  · -- .astore
    replace hlen : len = 2 := by rcases hlen with q | q; exact absurd q (by simp [am_len]); simpa [am_len] using q
    subst hlen
    split at h
    · cases hB : Nat.blt _ nL with
      | false => rw [hB] at h; cases h
      | true =>
        rw [hB] at h
        cases h
        exact lv_astore X1 X2 hd hL (by simpa using hB) (am_set_lo lo _ (.ref _)) k
    · cases hB : Nat.blt _ nL with
      | false => rw [hB] at h; cases h
      | true =>
        rw [hB] at h
        cases h
        exact lv_astoreN X1 X2 hd hL (by simpa using hB) (am_set_lo lo _ .null) k
    · cases h
  · -- .astore_n
    replace hlen : len = 1 := by rcases hlen with q | q; exact absurd q (by simp [am_len]); simpa [am_len] using q
    subst hlen
    split at h
    · cases hB : Nat.blt _ nL with
      | false => rw [hB] at h; cases h
      | true =>
        rw [hB] at h
        cases h
        exact lv_astore_n X1 X2 hd rfl hL (by simpa using hB) (am_set_lo lo _ (.ref _)) k
    · cases hB : Nat.blt _ nL with
      | false => rw [hB] at h; cases h
      | true =>
        rw [hB] at h
        cases h
        exact lv_astore_nN X1 X2 hd rfl hL (by simpa using hB) (am_set_lo lo _ .null) k
    · cases h
  · -- .iinc
    replace hlen : len = 3 := by rcases hlen with q | q; exact absurd q (by simp [am_len]); simpa [am_len] using q
    subst hlen
    split at h
    · rename_i hq
      cases hB : Nat.blt _ nL with
      | false => rw [hB] at h; cases h
      | true =>
        rw [hB] at h
        cases h
        obtain ⟨kk, hkk⟩ := am_get_lo (ad := ad) hq
        exact lv_iinc X1 X2 hd hL hkk rfl (by simpa using hB) (am_set_lo lo _ (.int _)) k
    · cases h
  · -- .iadd
    replace hlen : len = 1 := by rcases hlen with q | q; exact absurd q (by simp [am_len]); simpa [am_len] using q
    subst hlen
    split at h
    · cases h
      exact lv_iadd X1 X2 hd (k ls hL)
    · cases h
  · -- .isub
    replace hlen : len = 1 := by rcases hlen with q | q; exact absurd q (by simp [am_len]); simpa [am_len] using q
    subst hlen
    split at h
    · cases h
      exact lv_isub X1 X2 hd (k ls hL)
    · cases h
  · -- .imul
    replace hlen : len = 1 := by rcases hlen with q | q; exact absurd q (by simp [am_len]); simpa [am_len] using q
    subst hlen
    split at h
    · cases h
      exact lv_imul X1 X2 hd (k ls hL)
    · cases h
  · -- .iand
    replace hlen : len = 1 := by rcases hlen with q | q; exact absurd q (by simp [am_len]); simpa [am_len] using q
    subst hlen
    split at h
    · cases h
      exact lv_iand X1 X2 hd (k ls hL)
    · cases h
  · -- .ior
    replace hlen : len = 1 := by rcases hlen with q | q; exact absurd q (by simp [am_len]); simpa [am_len] using q
    subst hlen
    split at h
    · cases h
      exact lv_ior X1 X2 hd (k ls hL)
    · cases h
  · -- .ixor
    replace hlen : len = 1 := by rcases hlen with q | q; exact absurd q (by simp [am_len]); simpa [am_len] using q
    subst hlen
    split at h
    · cases h
      exact lv_ixor X1 X2 hd (k ls hL)
    · cases h
  · -- .ishl
    replace hlen : len = 1 := by rcases hlen with q | q; exact absurd q (by simp [am_len]); simpa [am_len] using q
    subst hlen
    split at h
    · cases h
      exact lv_ishl X1 X2 hd (k ls hL)
    · cases h
  · -- .ishr
    replace hlen : len = 1 := by rcases hlen with q | q; exact absurd q (by simp [am_len]); simpa [am_len] using q
    subst hlen
    split at h
    · cases h
      exact lv_ishr X1 X2 hd (k ls hL)
    · cases h
  · -- .iushr
    replace hlen : len = 1 := by rcases hlen with q | q; exact absurd q (by simp [am_len]); simpa [am_len] using q
    subst hlen
    split at h
    · cases h
      exact lv_iushr X1 X2 hd rfl (k ls hL)
    · cases h
  · -- .idiv
    replace hlen : len = 1 := by rcases hlen with q | q; exact absurd q (by simp [am_len]); simpa [am_len] using q
    subst hlen
    split at h
    · split at h
      · cases h
      · rename_i hn; cases h
        exact lv_idiv X1 X2 hd hn (k ls hL)
    · cases h
  · -- .irem
    replace hlen : len = 1 := by rcases hlen with q | q; exact absurd q (by simp [am_len]); simpa [am_len] using q
    subst hlen
    split at h
    · split at h
      · cases h
      · rename_i hn; cases h
        exact lv_irem X1 X2 hd hn (k ls hL)
    · cases h
  · -- .ladd
    replace hlen : len = 1 := by rcases hlen with q | q; exact absurd q (by simp [am_len]); simpa [am_len] using q
    subst hlen
    split at h
    · cases h
      exact lv_ladd X1 X2 hd (k ls hL)
    · cases h
  · -- .lsub
    replace hlen : len = 1 := by rcases hlen with q | q; exact absurd q (by simp [am_len]); simpa [am_len] using q
    subst hlen
    split at h
    · cases h
      exact lv_lsub X1 X2 hd (k ls hL)
    · cases h
  · -- .lmul
    replace hlen : len = 1 := by rcases hlen with q | q; exact absurd q (by simp [am_len]); simpa [am_len] using q
    subst hlen
    split at h
    · cases h
      exact lv_lmul X1 X2 hd (k ls hL)
    · cases h
  · -- .land
    replace hlen : len = 1 := by rcases hlen with q | q; exact absurd q (by simp [am_len]); simpa [am_len] using q
    subst hlen
    split at h
    · cases h
      exact lv_land X1 X2 hd (k ls hL)
    · cases h
  · -- .lor
    replace hlen : len = 1 := by rcases hlen with q | q; exact absurd q (by simp [am_len]); simpa [am_len] using q
    subst hlen
    split at h
    · cases h
      exact lv_lor X1 X2 hd (k ls hL)
    · cases h
  · -- .lxor
    replace hlen : len = 1 := by rcases hlen with q | q; exact absurd q (by simp [am_len]); simpa [am_len] using q
    subst hlen
    split at h
    · cases h
      exact lv_lxor X1 X2 hd (k ls hL)
    · cases h
  · -- .lshl
    replace hlen : len = 1 := by rcases hlen with q | q; exact absurd q (by simp [am_len]); simpa [am_len] using q
    subst hlen
    split at h
    · cases h
      exact lv_lshl X1 X2 hd rfl (k ls hL)
    · cases h
  · -- .lshr
    replace hlen : len = 1 := by rcases hlen with q | q; exact absurd q (by simp [am_len]); simpa [am_len] using q
    subst hlen
    split at h
    · cases h
      exact lv_lshr X1 X2 hd rfl (k ls hL)
    · cases h
  · -- .lushr
    replace hlen : len = 1 := by rcases hlen with q | q; exact absurd q (by simp [am_len]); simpa [am_len] using q
    subst hlen
    split at h
    · cases h
      exact lv_lushr X1 X2 hd rfl (k ls hL)
    · cases h
  · -- .lcmp
    replace hlen : len = 1 := by rcases hlen with q | q; exact absurd q (by simp [am_len]); simpa [am_len] using q
    subst hlen
    split at h
    · cases h
      exact W.lcmp X1 X2 hd (k ls hL)
    · cases h
  · -- .ineg
    replace hlen : len = 1 := by rcases hlen with q | q; exact absurd q (by simp [am_len]); simpa [am_len] using q
    subst hlen
    split at h
    · cases h
      exact lv_ineg X1 X2 hd (k ls hL)
    · cases h
  · -- .i2l
    replace hlen : len = 1 := by rcases hlen with q | q; exact absurd q (by simp [am_len]); simpa [am_len] using q
    subst hlen
    split at h
    · cases h
      exact lv_i2l X1 X2 hd rfl (k ls hL)
    · cases h
  · -- .l2i
    replace hlen : len = 1 := by rcases hlen with q | q; exact absurd q (by simp [am_len]); simpa [am_len] using q
    subst hlen
    split at h
    · cases h
      exact lv_l2i X1 X2 hd rfl (k ls hL)
    · cases h
  · -- .i2c
    replace hlen : len = 1 := by rcases hlen with q | q; exact absurd q (by simp [am_len]); simpa [am_len] using q
    subst hlen
    split at h
    · cases h
      exact lv_i2c X1 X2 hd rfl (k ls hL)
    · cases h
  · -- .dup
    replace hlen : len = 1 := by rcases hlen with q | q; exact absurd q (by simp [am_len]); simpa [am_len] using q
    subst hlen
    split at h
    · split at h
      · rename_i hc; cases h
        exact lv_dup X1 X2 hd (by rw [am_v_cat]; exact hc) (k ls hL)
      · cases h
    · cases h
  · -- .pop
    replace hlen : len = 1 := by rcases hlen with q | q; exact absurd q (by simp [am_len]); simpa [am_len] using q
    subst hlen
    split at h
    · split at h
      · rename_i hc; cases h
        exact lv_pop X1 X2 hd (by rw [am_v_cat]; exact hc) (k ls hL)
      · cases h
    · cases h
  · -- .dup2
    replace hlen : len = 1 := by rcases hlen with q | q; exact absurd q (by simp [am_len]); simpa [am_len] using q
    subst hlen
    split at h
    · split at h
      · rename_i hc; cases h
        exact lv_dup2_11 X1 X2 hd (by rw [am_v_cat]; exact hc.1) (by rw [am_v_cat]; exact hc.2) (k ls hL)
      · cases h
    · cases h
  · -- .if_icmp
    replace hlen : len = 3 := by rcases hlen with q | q; exact absurd q (by simp [am_len]); simpa [am_len] using q
    subst hlen
    split at h
    · rename_i hj
      cases h
      exact am_icmp _ X1 X2 hd (am_jmp_eq hj) (k ls hL)
    · cases h
  · -- .ifCond
    replace hlen : len = 3 := by rcases hlen with q | q; exact absurd q (by simp [am_len]); simpa [am_len] using q
    subst hlen
    split at h
    · rename_i hj
      cases h
      exact am_icond _ X1 X2 hd (am_jmp_eq hj) (k ls hL)
    · cases h
  · -- .goto
    replace hlen : len = 3 := by rcases hlen with q | q; exact absurd q (by simp [am_len]); simpa [am_len] using q
    subst hlen
    split at h
    · rename_i hj; cases h
      exact lv_goto X1 X2 hd (am_jmp_eq hj) (k ls hL)
    · cases h
  · -- .ifnull
    replace hlen : len = 3 := by rcases hlen with q | q; exact absurd q (by simp [am_len]); simpa [am_len] using q
    subst hlen
    split at h
    · cases h
      exact lv_ifnull X1 X2 hd (k ls hL)
    · rename_i hj; cases h
      exact lv_ifnullN X1 X2 hd (am_jmp_eq hj) (k ls hL)
    · cases h
  · -- .ifnonnull
    replace hlen : len = 3 := by rcases hlen with q | q; exact absurd q (by simp [am_len]); simpa [am_len] using q
    subst hlen
    split at h
    · rename_i hj; cases h
      exact lv_ifnonnull X1 X2 hd (am_jmp_eq hj) (k ls hL)
    · cases h
      exact lv_ifnonnullN X1 X2 hd (k ls hL)
    · cases h
  · -- .tableswitch
    split at h
    · split at h
      · rename_i hc
        split at h
        · rename_i hj; cases h
          exact lv_tableOut X1 X2 hd hc (am_jmp_eq hj) (k ls hL)
        · cases h
      · rename_i hc
        split at h
        · rename_i ho
          split at h
          · rename_i hj; cases h
            exact lv_tableIn X1 X2 hd (fun q => hc (Or.inl q)) (fun q => hc (Or.inr q)) ho (am_jmp_eq hj) (k ls hL)
          · cases h
        · cases h
    · cases h
  · -- .lookupswitch
    split at h
    · split at h
      · rename_i hc
        split at h
        · rename_i hj; cases h
          exact lv_lookup X1 X2 hd hc rfl (am_jmp_eq hj) (k ls hL)
        · cases h
      · cases h
    · cases h
  · cases h
end AMS
end
section
abbrev am_cl : List vw_C := [(RX1, TX1, 3), (RX2, TX2, 2), (RX3, TX3, 5), (RX4, TX4, 3), (RX5, TX5, 16), (RX6, TX6, 2), (RX7, TX7, 3), (RX8, TX8, 4), (RX9, TX9, 2), (RX10, TX10, 16), (RX11, TX11, 10), (RX12, TX12, 39)]
def am_ty0 (ci : Nat) : Nat → FieldType := match ci with
  | 0 => tyX1
  | 1 => tyX2
  | 2 => tyX3
  | 3 => tyX4
  | 4 => tyX5
  | 5 => tyX6
  | 6 => tyX7
  | 7 => tyX8
  | 8 => tyX9
  | 9 => tyX10
  | 10 => tyX11
  | 11 => tyX12
  | _ => fun _ => .int
theorem am_in0 : ∀ w ∈ wsX10, w ∈ lw_tbl := by decide +kernel
theorem am_in1 : ∀ w ∈ wsX20, w ∈ lw_tbl := by decide +kernel
theorem am_in2 : ∀ w ∈ wsX30, w ∈ lw_tbl := by decide +kernel
theorem am_in3 : ∀ w ∈ wsX40, w ∈ lw_tbl := by decide +kernel
theorem am_in4 : ∀ w ∈ wsX50, w ∈ lw_tbl := by decide +kernel
theorem am_in5 : ∀ w ∈ wsX60, w ∈ lw_tbl := by decide +kernel
theorem am_in6 : ∀ w ∈ wsX70, w ∈ lw_tbl := by decide +kernel
theorem am_in7 : ∀ w ∈ wsX80, w ∈ lw_tbl := by decide +kernel
theorem am_in8 : ∀ w ∈ wsX90, w ∈ lw_tbl := by decide +kernel
theorem am_in9 : ∀ w ∈ wsX100, w ∈ lw_tbl := by decide +kernel
theorem am_in10 : ∀ w ∈ wsX110, w ∈ lw_tbl := by decide +kernel
theorem am_in11 : ∀ w ∈ wsX120, w ∈ lw_tbl := by decide +kernel
theorem am_ty_ok {ci : Nat} {C : String} {T : u_T} {N : Nat} (h : am_cl[ci]? = some (C, T, N)) : ∀ k, k < N → parseFieldDescriptor (T k).2.2.1 = some (am_ty0 ci k) := by
  match ci, h with
  | 0, h => cases h; exact tyX1_ok
  | 1, h => cases h; exact tyX2_ok
  | 2, h => cases h; exact tyX3_ok
  | 3, h => cases h; exact tyX4_ok
  | 4, h => cases h; exact tyX5_ok
  | 5, h => cases h; exact tyX6_ok
  | 6, h => cases h; exact tyX7_ok
  | 7, h => cases h; exact tyX8_ok
  | 8, h => cases h; exact tyX9_ok
  | 9, h => cases h; exact tyX10_ok
  | 10, h => cases h; exact tyX11_ok
  | 11, h => cases h; exact tyX12_ok
  | n + 12, h => simp [am_cl] at h
theorem am_nm_ok {ci : Nat} {C : String} {T : u_T} {N : Nat} (h : am_cl[ci]? = some (C, T, N)) : ∀ a, a < N → ∀ b, b < N → a ≠ b → (T a).2.1 ≠ (T b).2.1 := by
  match ci, h with
  | 0, h => cases h; exact nmX1
  | 1, h => cases h; exact nmX2
  | 2, h => cases h; exact nmX3
  | 3, h => cases h; exact nmX4
  | 4, h => cases h; exact nmX5
  | 5, h => cases h; exact nmX6
  | 6, h => cases h; exact nmX7
  | 7, h => cases h; exact nmX8
  | 8, h => cases h; exact nmX9
  | 9, h => cases h; exact nmX10
  | 10, h => cases h; exact nmX11
  | 11, h => cases h; exact nmX12
  | n + 12, h => simp [am_cl] at h
theorem am_in_ok {ci : Nat} {C : String} {T : u_T} {N : Nat} (h : am_cl[ci]? = some (C, T, N)) : ∀ w ∈ u_ws C T N, w ∈ lw_tbl := by
  match ci, h with
  | 0, h => cases h; exact am_in0
  | 1, h => cases h; exact am_in1
  | 2, h => cases h; exact am_in2
  | 3, h => cases h; exact am_in3
  | 4, h => cases h; exact am_in4
  | 5, h => cases h; exact am_in5
  | 6, h => cases h; exact am_in6
  | 7, h => cases h; exact am_in7
  | 8, h => cases h; exact am_in8
  | 9, h => cases h; exact am_in9
  | 10, h => cases h; exact am_in10
  | 11, h => cases h; exact am_in11
  | n + 12, h => simp [am_cl] at h

/-! THE ABSTRACT HEAP -/
abbrev am_C : Type := Nat × Nat × (Nat → Value)
/-- how many numbers, cells, slots; what stands at each number: kind, length, contents -/
abbrev am_H : Type := Nat × Nat × Nat × (Nat → am_C)
def am_up {α : Type} (f : Nat → α) (k : Nat) (v : α) : Nat → α := fun j => bif Nat.beq j k then v else f j
theorem am_up_s {α : Type} (f : Nat → α) (k : Nat) (v : α) : am_up f k v k = v := by simp [am_up]
theorem am_up_n {α : Type} {f : Nat → α} {k j : Nat} {v : α} (h : j ≠ k) : am_up f k v j = f j := by
  have : Nat.beq j k = false := by cases hb : Nat.beq j k with | true => exact absurd (Nat.eq_of_beq_eq_true hb) h | false => rfl
  simp [am_up, this]
def am_i (v : Value) : Int32 := match v with
  | .int x => x
  | _ => 0
def am_l (v : Value) : Int64 := match v with
  | .long x => x
  | _ => 0
def am_o (ad : Nat → Nat) (v : Value) : Option Nat := match v with
  | .ref k => some (ad k)
  | _ => none
def am_nf (ci : Nat) : Nat := match am_cl[ci]? with
  | some q => q.2.2
  | none => 0
def am_E (cy : Nat → ClassId) (ad : Nat → Nat) (c : am_C) : va_E :=
  if c.1 = 20 then .inl (cy 0, c.2.1, .inl fun j => am_i (c.2.2 j))
  else if c.1 = 21 then .inl (cy 1, c.2.1, .inr (.inl fun j => am_l (c.2.2 j)))
  else if c.1 = 22 then .inl (cy 2, c.2.1, .inl fun j => am_i (c.2.2 j))
  else if c.1 = 23 then .inl (cy 3, c.2.1, .inr (.inr (.inr (.inr fun j => am_o ad (c.2.2 j)))))
  else if c.1 = 24 then .inl (cy 4, c.2.1, .inr (.inr (.inr (.inr fun j => am_o ad (c.2.2 j)))))
  else .inr (c.1, (List.range (am_nf c.1)).map fun k => am_v ad (c.2.2 k))
def am_wl (cy : Nat → ClassId) (ad : Nat → Nat) (h : am_H) : va_W := (List.range h.1).map fun k => (ad k, am_E cy ad (h.2.2.2 k))
abbrev am_tys (cy : Nat → ClassId) : List (ClassId × FieldType) := [(cy 0, .int), (cy 1, .long), (cy 2, .boolean), (cy 3, .object "ArchiveShelf$Archive"), (cy 4, .object "ArchiveShelf$Member")]
/-- a value whose reference is a number that stands, or one of the old ones -/
def am_cv (n : Nat) (v : Value) : Prop := match v with
  | .ref k => k < n ∨ 1000000000 ≤ k
  | _ => True
def am_put (h : am_H) (o : Nat) (c : am_C) : am_H := (h.1, h.2.1, h.2.2.1, am_up h.2.2.2 o c)
def am_new (h : am_H) (sl : Nat) (c : am_C) : am_H := (h.1 + 1, h.2.1 + 1, h.2.2.1 + sl, am_up h.2.2.2 h.1 c)
theorem am_wl_at {cy : Nat → ClassId} {ad : Nat → Nat} {h : am_H} {o : Nat} (ho : o < h.1) : (am_wl cy ad h)[o]? = some (ad o, am_E cy ad (h.2.2.2 o)) := by
  simp [am_wl, ho]
theorem am_wl_set {cy : Nat → ClassId} {ad : Nat → Nat} {h : am_H} {o : Nat} (ho : o < h.1) (c : am_C) : (am_wl cy ad h).set o (ad o, am_E cy ad c) = am_wl cy ad (am_put h o c) := by
  apply List.ext_getElem?
  intro k
  rw [List.getElem?_set]
  by_cases hk : o = k
  · subst hk
    simp [am_wl, am_put, ho, am_up_s]
  · rw [if_neg hk]
    by_cases hkn : k < h.1
    · simp [am_wl, am_put, hkn, am_up_n (Ne.symm hk)]
    · simp [am_wl, am_put, hkn]
theorem am_lt {k n : Nat} (h : k < n ∨ 1000000000 ≤ k) (hn : n < 1000000000) : k ≠ n := by omega
theorem am_lt2 {k n : Nat} (h : k < n ∨ 1000000000 ≤ k) : k < n + 1 ∨ 1000000000 ≤ k := by omega
theorem am_v_ext {ad : Nat → Nat} {n q : Nat} {v : Value} (hn : n < 1000000000) (h : am_cv n v) : am_v (am_up ad n q) v = am_v ad v := by
  cases v with
  | ref k =>
    have hk : k ≠ n := am_lt h hn
    simp [am_v, am_up_n hk]
  | _ => rfl
theorem am_o_ext {ad : Nat → Nat} {n q : Nat} {v : Value} (hn : n < 1000000000) (h : am_cv n v) : am_o (am_up ad n q) v = am_o ad v := by
  cases v with
  | ref k =>
    have hk : k ≠ n := am_lt h hn
    simp [am_o, am_up_n hk]
  | _ => rfl
theorem am_E_ext {cy : Nat → ClassId} {ad : Nat → Nat} {n q : Nat} {c : am_C} (hn : n < 1000000000) (h : ∀ j, am_cv n (c.2.2 j)) : am_E cy (am_up ad n q) c = am_E cy ad c := by
  unfold am_E
  simp only [am_v_ext hn (h _), am_o_ext hn (h _)]
theorem am_wl_new {cy : Nat → ClassId} {ad : Nat → Nat} {h : am_H} {sl q : Nat} {c : am_C} (hn : h.1 < 1000000000) (hc : ∀ o, o < h.1 → ∀ j, am_cv h.1 ((h.2.2.2 o).2.2 j)) (hc' : ∀ j, am_cv h.1 (c.2.2 j)) : am_wl cy ad h ++ [(q, am_E cy ad c)] = am_wl cy (am_up ad h.1 q) (am_new h sl c) := by
  unfold am_wl am_new
  rw [List.range_succ, List.map_append]
  congr 1
  · apply List.map_congr_left
    intro k hk
    have hk : k < h.1 := List.mem_range.mp hk
    have hne : k ≠ h.1 := by omega
    simp only [am_up_n hne]
    rw [am_E_ext hn (hc k hk)]
  · simp only [List.map_cons, List.map_nil, am_up_s]
    rw [am_E_ext hn hc']
def am_cls (h : am_H) : Prop := ∀ o, o < h.1 → ∀ j, am_cv h.1 ((h.2.2.2 o).2.2 j)
theorem am_cv_mono {n : Nat} {v : Value} (h : am_cv n v) : am_cv (n + 1) v := by
  cases v with
  | ref k => exact am_lt2 h
  | _ => trivial
theorem am_cls_put {h : am_H} {o : Nat} {c : am_C} (hc : am_cls h) (h2 : ∀ j, am_cv h.1 (c.2.2 j)) : am_cls (am_put h o c) := by
  intro a ha j
  show am_cv h.1 ((am_up h.2.2.2 o c a).2.2 j)
  by_cases e : a = o
  · subst e; rw [am_up_s]; exact h2 j
  · rw [am_up_n e]; exact hc a ha j
theorem am_cls_new {h : am_H} {sl : Nat} {c : am_C} (hc : am_cls h) (h2 : ∀ j, am_cv h.1 (c.2.2 j)) : am_cls (am_new h sl c) := by
  intro a ha j
  have ha : a < h.1 + 1 := ha
  show am_cv (h.1 + 1) ((am_up h.2.2.2 h.1 c a).2.2 j)
  by_cases e : a = h.1
  · subst e; rw [am_up_s]; exact am_cv_mono (h2 j)
  · rw [am_up_n e]; exact am_cv_mono (hc a (by omega) j)
theorem am_cv_up {n i : Nat} {f : Nat → Value} {v : Value} (hf : ∀ j, am_cv n (f j)) (hv : am_cv n v) : ∀ j, am_cv n (am_up f i v j) := by
  intro j
  by_cases e : j = i
  · subst e; rw [am_up_s]; exact hv
  · rw [am_up_n e]; exact hf j
/-- what may be stored in a field -/
def am_fit (ty : FieldType) (v : Value) : Bool := match ty, v with
  | .int, .int _ => true
  | .boolean, .int x => decide (x = 0) || decide (x = 1)
  | .long, .long _ => true
  | .object _, .ref _ => true
  | .object _, .null => true
  | .array _, .ref _ => true
  | .array _, .null => true
  | _, _ => false
theorem am_fit_ok {ad : Nat → Nat} {ty : FieldType} {v : Value} (h : am_fit ty v = true) : narrow ty (am_v ad v) = am_v ad v ∧ fits ty (am_v ad v) = true := by
  unfold am_fit at h
  split at h
  · exact ⟨rfl, rfl⟩
  · rename_i x
    simp only [Bool.or_eq_true, decide_eq_true_eq] at h
    rcases h with rfl | rfl
    · exact (by decide +kernel : narrow FieldType.boolean (Value.int 0) = Value.int 0 ∧ fits FieldType.boolean (Value.int 0) = true)
    · exact (by decide +kernel : narrow FieldType.boolean (Value.int 1) = Value.int 1 ∧ fits FieldType.boolean (Value.int 1) = true)
  · exact ⟨rfl, rfl⟩
  · exact ⟨rfl, rfl⟩
  · exact ⟨rfl, rfl⟩
  · exact ⟨rfl, rfl⟩
  · exact ⟨rfl, rfl⟩
  · cases h
end
section
/-! THE ABSTRACT HEAP'S ROWS: each instruction that touches the heap, over the abstract one -/
def am_gd : List Cond := lw_tbl.filter goodWord
def am_isN (w : Cond) : Bool := match w with
  | .fieldLinkNest _ _ _ _ _ _ => true
  | .methodLinkNest _ _ _ _ => true
  | .castable _ _ => true
  | _ => false
def am_nw : List Cond := lw_tbl.filter am_isN
theorem am_gd_in {w : Cond} (h : w ∈ lw_tbl) (hg : goodWord w = true) : w ∈ am_gd := List.mem_filter.mpr ⟨h, hg⟩
theorem am_u_good {C : String} {T : u_T} {N : Nat} : ∀ w ∈ u_ws C T N, goodWord w = true := by
  intro w hw
  unfold u_ws at hw
  obtain ⟨k, -, rfl⟩ := List.mem_map.mp hw
  unfold u_lay
  split <;> first | rfl | simp [goodWord, Cond.onTables, Cond.keeps, Cond.steady]
theorem am_in_gd {ci : Nat} {C : String} {T : u_T} {N : Nat} (h : am_cl[ci]? = some (C, T, N)) : ∀ w ∈ u_ws C T N, w ∈ am_gd := fun w hw => am_gd_in (am_in_ok h w hw) (am_u_good w hw)
theorem am_cl_lt {ci : Nat} {q : vw_C} (h : am_cl[ci]? = some q) : ci < 12 := (List.getElem?_eq_some_iff.mp h).1
theorem am_nf_eq {ci : Nat} {C : String} {T : u_T} {N : Nat} (h : am_cl[ci]? = some (C, T, N)) : am_nf ci = N := by
  unfold am_nf; rw [h]
theorem am_E_ob {cy : Nat → ClassId} {ad : Nat → Nat} {c : am_C} {ci : Nat} (h : c.1 = ci) (hl : ci < 20) : am_E cy ad c = .inr (ci, (List.range (am_nf ci)).map fun k => am_v ad (c.2.2 k)) := by
  subst h
  unfold am_E
  rw [if_neg (by omega), if_neg (by omega), if_neg (by omega), if_neg (by omega), if_neg (by omega)]
theorem am_E_i {cy : Nat → ClassId} {ad : Nat → Nat} {c : am_C} (h : c.1 = 20) : am_E cy ad c = .inl (cy 0, c.2.1, .inl fun j => am_i (c.2.2 j)) := by
  unfold am_E; rw [if_pos h]
theorem am_E_l {cy : Nat → ClassId} {ad : Nat → Nat} {c : am_C} (h : c.1 = 21) : am_E cy ad c = .inl (cy 1, c.2.1, .inr (.inl fun j => am_l (c.2.2 j))) := by
  unfold am_E; rw [if_neg (by omega), if_pos h]
theorem am_E_z {cy : Nat → ClassId} {ad : Nat → Nat} {c : am_C} (h : c.1 = 22) : am_E cy ad c = .inl (cy 2, c.2.1, .inl fun j => am_i (c.2.2 j)) := by
  unfold am_E; rw [if_neg (by omega), if_neg (by omega), if_pos h]
theorem am_E_a {cy : Nat → ClassId} {ad : Nat → Nat} {c : am_C} (h : c.1 = 23) : am_E cy ad c = .inl (cy 3, c.2.1, .inr (.inr (.inr (.inr fun j => am_o ad (c.2.2 j))))) := by
  unfold am_E; rw [if_neg (by omega), if_neg (by omega), if_neg (by omega), if_pos h]
theorem am_E_m {cy : Nat → ClassId} {ad : Nat → Nat} {c : am_C} (h : c.1 = 24) : am_E cy ad c = .inl (cy 4, c.2.1, .inr (.inr (.inr (.inr fun j => am_o ad (c.2.2 j))))) := by
  unfold am_E; rw [if_neg (by omega), if_neg (by omega), if_neg (by omega), if_neg (by omega), if_pos h]
theorem am_map_set {α : Type} {N k : Nat} {f : Nat → α} {v : α} : ((List.range N).map f).set k v = (List.range N).map (am_up f k v) := by
  apply List.ext_getElem?
  intro j
  rw [List.getElem?_set]
  by_cases hj : k = j
  · subst hj
    by_cases hk : k < N
    · simp [hk, am_up_s]
    · simp [hk]
  · rw [if_neg hj]
    by_cases hk : j < N
    · simp [hk, am_up_n (Ne.symm hj)]
    · simp [hk]
theorem am_v_up {ad : Nat → Nat} {f : Nat → Value} {k : Nat} {v : Value} : am_up (fun j => am_v ad (f j)) k (am_v ad v) = fun j => am_v ad (am_up f k v j) := by
  funext j
  by_cases e : j = k
  · subst e; simp only [am_up_s]
  · simp only [am_up_n e]
theorem am_i_up {f : Nat → Value} {k : Nat} {x : Int32} : upd (fun j => am_i (f j)) k x = fun j => am_i (am_up f k (.int x) j) := by
  funext j
  by_cases e : j = k
  · subst e; simp only [am_up_s, pk_us]; rfl
  · simp only [am_up_n e, pk_un e]
theorem am_l_up {f : Nat → Value} {k : Nat} {x : Int64} : vp_updL (fun j => am_l (f j)) k x = fun j => am_l (am_up f k (.long x) j) := by
  funext j
  by_cases e : j = k
  · subst e; simp only [am_up_s, pk_uLs]; rfl
  · simp only [am_up_n e, pk_uLn e]
theorem am_o_up {ad : Nat → Nat} {f : Nat → Value} {k o : Nat} : va_up (fun j => am_o ad (f j)) k (some (ad o)) = fun j => am_o ad (am_up f k (.ref o) j) := by
  funext j
  by_cases e : j = k
  · subst e; simp [am_up_s, va_up, am_o]
  · simp [am_up_n e, va_up, e]
section AMR
variable {p : Program} {l : Launch} {e : Env} {R : Room} {s : State} {m : MethodId} {args : Array Value} {below : List Frame} {meth : Method} {c : Code} {H : Heap} {locs : List Loc} {cells slots : Nat} {Q : State → Prop}
variable {cc : ByteArray} {pc : Nat} {ls : Array Slot} {ad : Nat → Nat} {rest : List Value} {own : String} {D : va_G} {cy : Nat → ClassId} {A : Nat → Prop} {h : am_H}
/-- a method's own: the machine, its code, its class, the tables' words -/
def am_X (cc : ByteArray) (own : String) (p : Program) (s : State) (m : MethodId) (args : Array Value) (c : Code) : Prop := p.tables.exec = Jvm.exec ∧ c.code = cc ∧ s.vm.findClass own = some m.cls ∧ (∀ w ∈ am_gd, w.before args s = true) ∧ ∀ w ∈ am_nw, w.before args s = true
/-- the heap is the abstract one -/
def am_R (D : va_G) (cy : Nat → ClassId) (A : Nat → Prop) (ad : Nat → Nat) (h : am_H) (s : State) (H : Heap) (locs : List Loc) : Prop := va_K D am_cl (am_tys cy) s ∧ va_P D am_cl (am_wl cy ad h) H ∧ va_D A (am_wl cy ad h) ∧ va_S A s.heap H locs ∧ (∀ q, s.heap.size ≤ q → A q) ∧ am_cls h
theorem am_r_get (X : am_X cc own p s m args c) (r : am_R D cy A ad h s H locs) {o ci k idx : Nat} (ho : o < h.1) (hci : (h.2.2.2 o).1 = ci) {C ref : String} {T : u_T} {N : Nat} (hc : am_cl[ci]? = some (C, T, N)) (hk : k < N) (hlink : Cond.fieldLink own idx ref (T k).2.1 (T k).2.2.1 ∈ am_gd) (hsame : ref = (T k).1 ∨ Cond.sameField ref (T k).1 (T k).2.1 (T k).2.2.1 ∈ am_gd) (hd : decode cc pc = .ok (.getfield idx, 3))
    (kk : W p l e R s m args below meth c H locs cells slots Q (F0 m (pc + 3) ls (am_v ad ((h.2.2.2 o).2.2 k) :: rest))) : W p l e R s m args below meth c H locs cells slots Q (F0 m pc ls (.ref (ad o) :: rest)) := by
  obtain ⟨hx, hb, hown, hts, hnw⟩ := X
  obtain ⟨hK, hP, hD, hS, hA, hcl⟩ := r
  have hl : ci < 20 := Nat.lt_trans (am_cl_lt hc) (by decide)
  refine va_get (C := C) (T := T) (N := N) (ci := ci) (fs := (List.range (am_nf ci)).map fun k => am_v ad ((h.2.2.2 o).2.2 k)) hx hb hts (am_in_gd hc) hown hK hP o (by rw [am_wl_at ho, am_E_ob hci hl]) hc k hk (hts _ hlink) ?_ ?_ hd kk
  · rcases hsame with e1 | e1
    · intro x hx; rw [e1]; exact hx
    · exact u_same (hts _ e1)
  · rw [am_nf_eq hc]; simp [hk]
theorem am_r_getN (X : am_X cc own p s m args c) (r : am_R D cy A ad h s H locs) {o ci k idx : Nat} (ho : o < h.1) (hci : (h.2.2.2 o).1 = ci) {C ref host : String} {T : u_T} {N : Nat} (hc : am_cl[ci]? = some (C, T, N)) (hk : k < N) (hlink : Cond.fieldLinkNest own idx ref (T k).2.1 (T k).2.2.1 host ∈ am_nw) (hsame : ref = (T k).1) (hd : decode cc pc = .ok (.getfield idx, 3))
    (kk : W p l e R s m args below meth c H locs cells slots Q (F0 m (pc + 3) ls (am_v ad ((h.2.2.2 o).2.2 k) :: rest))) : W p l e R s m args below meth c H locs cells slots Q (F0 m pc ls (.ref (ad o) :: rest)) := by
  obtain ⟨hx, hb, hown, hts, hnw⟩ := X
  obtain ⟨hK, hP, hD, hS, hA, hcl⟩ := r
  have hl : ci < 20 := Nat.lt_trans (am_cl_lt hc) (by decide)
  refine va_getN (C := C) (T := T) (N := N) (ci := ci) (fs := (List.range (am_nf ci)).map fun k => am_v ad ((h.2.2.2 o).2.2 k)) hx hb hts (am_in_gd hc) hown hK hP o (by rw [am_wl_at ho, am_E_ob hci hl]) hc k hk (hnw _ hlink) ?_ ?_ hd kk
  · intro x hx; rw [hsame]; exact hx
  · rw [am_nf_eq hc]; simp [hk]
theorem am_R.put (hK : va_K D am_cl (am_tys cy) s) (hA : ∀ q, s.heap.size ≤ q → A q) (hcl : am_cls h) {o : Nat} (ho : o < h.1) {c' : am_C} (hc' : ∀ j, am_cv h.1 (c'.2.2 j)) {x : va_E} (hx : x = am_E cy ad c') (hP : va_P D am_cl ((am_wl cy ad h).set o (ad o, x)) H) (hD : va_D A ((am_wl cy ad h).set o (ad o, x))) (hS : va_S A s.heap H locs) : am_R D cy A ad (am_put h o c') s H locs := by
  subst hx
  rw [am_wl_set ho] at hP hD
  exact ⟨hK, hP, hD, hS, hA, am_cls_put hcl hc'⟩
theorem am_r_put (X : am_X cc own p s m args c) (r : am_R D cy A ad h s H locs) {o ci k idx : Nat} (ho : o < h.1) (hci : (h.2.2.2 o).1 = ci) {C ref : String} {T : u_T} {N : Nat} (hc : am_cl[ci]? = some (C, T, N)) (hk : k < N) (hlink : Cond.fieldLink own idx ref (T k).2.1 (T k).2.2.1 ∈ am_gd) (hsame : ref = (T k).1 ∨ Cond.sameField ref (T k).1 (T k).2.1 (T k).2.2.1 ∈ am_gd) (hfin : (T k).2.2.2 = false ∨ (meth.name = "<init>" ∧ (T k).1 = own)) {v : Value} (hfit : am_fit (am_ty0 ci k) v = true) (hv : am_cv h.1 v) (hd : decode cc pc = .ok (.putfield idx, 3))
    (kk : ∀ (H1 : Heap) (locs1 : List Loc), am_R D cy A ad (am_put h o ((h.2.2.2 o).1, (h.2.2.2 o).2.1, am_up (h.2.2.2 o).2.2 k v)) s H1 locs1 → W p l e R s m args below meth c H1 locs1 cells slots Q (F0 m (pc + 3) ls rest)) : W p l e R s m args below meth c H locs cells slots Q (F0 m pc ls (am_v ad v :: .ref (ad o) :: rest)) := by
  obtain ⟨hx, hb, hown, hts, hnw⟩ := X
  obtain ⟨hK, hP, hD, hS, hA, hcl⟩ := r
  have hl : ci < 20 := Nat.lt_trans (am_cl_lt hc) (by decide)
  have he : (am_wl cy ad h)[o]? = some (ad o, .inr (ci, (List.range (am_nf ci)).map fun k => am_v ad ((h.2.2.2 o).2.2 k))) := by rw [am_wl_at ho, am_E_ob hci hl]
  have hsm : ∀ x, s.fieldFound? (T k).1 (T k).2.1 (T k).2.2.1 = some x → s.fieldFound? ref (T k).2.1 (T k).2.2.1 = some x := by
    rcases hsame with e1 | e1
    · intro x hx; rw [e1]; exact hx
    · exact u_same (hts _ e1)
  have hff := am_fit_ok (ad := ad) hfit
  have hxx : (.inr (ci, ((List.range (am_nf ci)).map fun k => am_v ad ((h.2.2.2 o).2.2 k)).set k (am_v ad v)) : va_E) = am_E cy ad ((h.2.2.2 o).1, (h.2.2.2 o).2.1, am_up (h.2.2.2 o).2.2 k v) := by
    rw [am_E_ob (c := ((h.2.2.2 o).1, (h.2.2.2 o).2.1, am_up (h.2.2.2 o).2.2 k v)) hci hl, am_map_set, am_v_up]
  have hgo : ∀ (H1 : Heap) (locs1 : List Loc), va_P D am_cl ((am_wl cy ad h).set o (ad o, .inr (ci, ((List.range (am_nf ci)).map fun k => am_v ad ((h.2.2.2 o).2.2 k)).set k (am_v ad v)))) H1 → va_D A ((am_wl cy ad h).set o (ad o, .inr (ci, ((List.range (am_nf ci)).map fun k => am_v ad ((h.2.2.2 o).2.2 k)).set k (am_v ad v)))) → va_S A s.heap H1 locs1 → W p l e R s m args below meth c H1 locs1 cells slots Q (F0 m (pc + 3) ls rest) :=
    fun H1 locs1 hP1 hD1 hS1 => kk H1 locs1 (am_R.put hK hA hcl ho (am_cv_up (fun j => hcl o ho j) hv) hxx hP1 hD1 hS1)
  rcases hfin with hfin | ⟨hin2, hdecl⟩
  · exact va_put hx hb hts (am_in_gd hc) (am_ty0 ci) (am_ty_ok hc) (am_nm_ok hc) hown hK hP hD hS o he hc k hk (hts _ hlink) hsm hfin (am_ty_ok hc k hk) hff.1 hff.2 (by rw [am_nf_eq hc]; simpa using hk) hd hgo
  · cases hfb : (T k).2.2.2 with
    | false => exact va_put hx hb hts (am_in_gd hc) (am_ty0 ci) (am_ty_ok hc) (am_nm_ok hc) hown hK hP hD hS o he hc k hk (hts _ hlink) hsm hfb (am_ty_ok hc k hk) hff.1 hff.2 (by rw [am_nf_eq hc]; simpa using hk) hd hgo
    | true => exact va_putF hx hb hts (am_in_gd hc) (am_ty0 ci) (am_ty_ok hc) (am_nm_ok hc) hown hK hP hD hS o he hc k hk (hts _ hlink) hsm hfb hin2 hdecl (am_ty_ok hc k hk) hff.1 hff.2 (by rw [am_nf_eq hc]; simpa using hk) hd hgo
theorem am_r_putN (X : am_X cc own p s m args c) (r : am_R D cy A ad h s H locs) {o ci k idx : Nat} (ho : o < h.1) (hci : (h.2.2.2 o).1 = ci) {C ref host : String} {T : u_T} {N : Nat} (hc : am_cl[ci]? = some (C, T, N)) (hk : k < N) (hlink : Cond.fieldLinkNest own idx ref (T k).2.1 (T k).2.2.1 host ∈ am_nw) (hsame : ref = (T k).1) (hfin : (T k).2.2.2 = false) {v : Value} (hfit : am_fit (am_ty0 ci k) v = true) (hv : am_cv h.1 v) (hd : decode cc pc = .ok (.putfield idx, 3))
    (kk : ∀ (H1 : Heap) (locs1 : List Loc), am_R D cy A ad (am_put h o ((h.2.2.2 o).1, (h.2.2.2 o).2.1, am_up (h.2.2.2 o).2.2 k v)) s H1 locs1 → W p l e R s m args below meth c H1 locs1 cells slots Q (F0 m (pc + 3) ls rest)) : W p l e R s m args below meth c H locs cells slots Q (F0 m pc ls (am_v ad v :: .ref (ad o) :: rest)) := by
  obtain ⟨hx, hb, hown, hts, hnw⟩ := X
  obtain ⟨hK, hP, hD, hS, hA, hcl⟩ := r
  have hl : ci < 20 := Nat.lt_trans (am_cl_lt hc) (by decide)
  have he : (am_wl cy ad h)[o]? = some (ad o, .inr (ci, (List.range (am_nf ci)).map fun k => am_v ad ((h.2.2.2 o).2.2 k))) := by rw [am_wl_at ho, am_E_ob hci hl]
  have hff := am_fit_ok (ad := ad) hfit
  have hxx : (.inr (ci, ((List.range (am_nf ci)).map fun k => am_v ad ((h.2.2.2 o).2.2 k)).set k (am_v ad v)) : va_E) = am_E cy ad ((h.2.2.2 o).1, (h.2.2.2 o).2.1, am_up (h.2.2.2 o).2.2 k v) := by
    rw [am_E_ob (c := ((h.2.2.2 o).1, (h.2.2.2 o).2.1, am_up (h.2.2.2 o).2.2 k v)) hci hl, am_map_set, am_v_up]
  exact va_putN hx hb hts (am_in_gd hc) (am_ty0 ci) (am_ty_ok hc) (am_nm_ok hc) hown hK hP hD hS o he hc k hk (hnw _ hlink) (fun x hx => by rw [hsame]; exact hx) hfin (am_ty_ok hc k hk) hff.1 hff.2 (by rw [am_nf_eq hc]; simpa using hk) hd (fun H1 locs1 hP1 hD1 hS1 => kk H1 locs1 (am_R.put hK hA hcl ho (am_cv_up (fun j => hcl o ho j) hv) hxx hP1 hD1 hS1))
end AMR
end
section
/-! THE ABSTRACT HEAP'S ROWS: arrays, new objects -/
section AMA
variable {p : Program} {l : Launch} {e : Env} {R : Room} {s : State} {m : MethodId} {args : Array Value} {below : List Frame} {meth : Method} {c : Code} {H : Heap} {locs : List Loc} {cells slots : Nat} {Q : State → Prop}
variable {cc : ByteArray} {pc : Nat} {ls : Array Slot} {ad : Nat → Nat} {rest : List Value} {own : String} {D : va_G} {cy : Nat → ClassId} {A : Nat → Prop} {h : am_H}
theorem am_r_iald (X : am_X cc own p s m args c) (r : am_R D cy A ad h s H locs) {o : Nat} (ho : o < h.1) (hk : (h.2.2.2 o).1 = 20) {i : Int32} (hin : vp_in i (h.2.2.2 o).2.1) (hd : decode cc pc = .ok (.iaload, 1))
    (kk : W p l e R s m args below meth c H locs cells slots Q (F0 m (pc + 1) ls (.int (am_i ((h.2.2.2 o).2.2 i.toNatClampNeg)) :: rest))) : W p l e R s m args below meth c H locs cells slots Q (F0 m pc ls (.int i :: .ref (ad o) :: rest)) :=
  va_iald X.1 X.2.1 r.1 r.2.1 o 0 (by rw [am_wl_at ho, am_E_i hk]) rfl hin hd kk
theorem am_r_iast (X : am_X cc own p s m args c) (r : am_R D cy A ad h s H locs) {o : Nat} (ho : o < h.1) (hk : (h.2.2.2 o).1 = 20) {i x : Int32} (hin : vp_in i (h.2.2.2 o).2.1) (hd : decode cc pc = .ok (.iastore, 1))
    (kk : ∀ (H1 : Heap) (locs1 : List Loc), am_R D cy A ad (am_put h o ((h.2.2.2 o).1, (h.2.2.2 o).2.1, am_up (h.2.2.2 o).2.2 i.toNatClampNeg (.int x))) s H1 locs1 → W p l e R s m args below meth c H1 locs1 cells slots Q (F0 m (pc + 1) ls rest)) : W p l e R s m args below meth c H locs cells slots Q (F0 m pc ls (.int x :: .int i :: .ref (ad o) :: rest)) := by
  obtain ⟨hK, hP, hD, hS, hA, hcl⟩ := r
  exact va_iast X.1 X.2.1 hK hP hD hS o 0 (by rw [am_wl_at ho, am_E_i hk]) rfl hin hd (fun H1 locs1 hP1 hD1 hS1 => kk H1 locs1 (am_R.put hK hA hcl ho (am_cv_up (fun j => hcl o ho j) trivial) (by rw [am_E_i (c := ((h.2.2.2 o).1, (h.2.2.2 o).2.1, am_up (h.2.2.2 o).2.2 i.toNatClampNeg (.int x))) hk, am_i_up]) hP1 hD1 hS1))
theorem am_r_lald (X : am_X cc own p s m args c) (r : am_R D cy A ad h s H locs) {o : Nat} (ho : o < h.1) (hk : (h.2.2.2 o).1 = 21) {i : Int32} (hin : vp_in i (h.2.2.2 o).2.1) (hd : decode cc pc = .ok (.laload, 1))
    (kk : W p l e R s m args below meth c H locs cells slots Q (F0 m (pc + 1) ls (.long (am_l ((h.2.2.2 o).2.2 i.toNatClampNeg)) :: rest))) : W p l e R s m args below meth c H locs cells slots Q (F0 m pc ls (.int i :: .ref (ad o) :: rest)) :=
  va_lald X.1 X.2.1 r.1 r.2.1 o 1 (by rw [am_wl_at ho, am_E_l hk]) rfl hin hd kk
theorem am_r_last (X : am_X cc own p s m args c) (r : am_R D cy A ad h s H locs) {o : Nat} (ho : o < h.1) (hk : (h.2.2.2 o).1 = 21) {i : Int32} {x : Int64} (hin : vp_in i (h.2.2.2 o).2.1) (hd : decode cc pc = .ok (.lastore, 1))
    (kk : ∀ (H1 : Heap) (locs1 : List Loc), am_R D cy A ad (am_put h o ((h.2.2.2 o).1, (h.2.2.2 o).2.1, am_up (h.2.2.2 o).2.2 i.toNatClampNeg (.long x))) s H1 locs1 → W p l e R s m args below meth c H1 locs1 cells slots Q (F0 m (pc + 1) ls rest)) : W p l e R s m args below meth c H locs cells slots Q (F0 m pc ls (.long x :: .int i :: .ref (ad o) :: rest)) := by
  obtain ⟨hK, hP, hD, hS, hA, hcl⟩ := r
  exact va_last X.1 X.2.1 hK hP hD hS o 1 (by rw [am_wl_at ho, am_E_l hk]) rfl hin hd (fun H1 locs1 hP1 hD1 hS1 => kk H1 locs1 (am_R.put hK hA hcl ho (am_cv_up (fun j => hcl o ho j) trivial) (by rw [am_E_l (c := ((h.2.2.2 o).1, (h.2.2.2 o).2.1, am_up (h.2.2.2 o).2.2 i.toNatClampNeg (.long x))) hk, am_l_up]) hP1 hD1 hS1))
theorem am_r_zald (X : am_X cc own p s m args c) (r : am_R D cy A ad h s H locs) {o : Nat} (ho : o < h.1) (hk : (h.2.2.2 o).1 = 22) {i : Int32} (hin : vp_in i (h.2.2.2 o).2.1) (hd : decode cc pc = .ok (.baload, 1))
    (kk : W p l e R s m args below meth c H locs cells slots Q (F0 m (pc + 1) ls (.int (am_i ((h.2.2.2 o).2.2 i.toNatClampNeg)) :: rest))) : W p l e R s m args below meth c H locs cells slots Q (F0 m pc ls (.int i :: .ref (ad o) :: rest)) :=
  va_zald X.1 X.2.1 r.1 r.2.1 o 2 (by rw [am_wl_at ho, am_E_z hk]) rfl hin hd kk
theorem am_r_zast (X : am_X cc own p s m args c) (r : am_R D cy A ad h s H locs) {o : Nat} (ho : o < h.1) (hk : (h.2.2.2 o).1 = 22) {i x : Int32} (hin : vp_in i (h.2.2.2 o).2.1) (hd : decode cc pc = .ok (.bastore, 1))
    (kk : ∀ (H1 : Heap) (locs1 : List Loc), am_R D cy A ad (am_put h o ((h.2.2.2 o).1, (h.2.2.2 o).2.1, am_up (h.2.2.2 o).2.2 i.toNatClampNeg (.int (vp_nar .boolean x)))) s H1 locs1 → W p l e R s m args below meth c H1 locs1 cells slots Q (F0 m (pc + 1) ls rest)) : W p l e R s m args below meth c H locs cells slots Q (F0 m pc ls (.int x :: .int i :: .ref (ad o) :: rest)) := by
  obtain ⟨hK, hP, hD, hS, hA, hcl⟩ := r
  exact va_zast X.1 X.2.1 hK hP hD hS o 2 (by rw [am_wl_at ho, am_E_z hk]) rfl hin hd (fun H1 locs1 hP1 hD1 hS1 => kk H1 locs1 (am_R.put hK hA hcl ho (am_cv_up (fun j => hcl o ho j) trivial) (by rw [am_E_z (c := ((h.2.2.2 o).1, (h.2.2.2 o).2.1, am_up (h.2.2.2 o).2.2 i.toNatClampNeg (.int (vp_nar .boolean x)))) hk, am_i_up]) hP1 hD1 hS1))
/-- what an array of references gives -/
def am_rv (v : Value) : Value := match v with
  | .ref k => .ref k
  | _ => .null
theorem am_rv_o {ad : Nat → Nat} {v : Value} : va_rf (am_o ad v) = am_v ad (am_rv v) := by cases v <;> rfl
theorem am_rv_c {n : Nat} {v : Value} (hv : am_cv n v) : am_cv n (am_rv v) := by cases v <;> first | exact hv | trivial
theorem am_r_aald (X : am_X cc own p s m args c) (r : am_R D cy A ad h s H locs) {o : Nat} (ho : o < h.1) (hk : (h.2.2.2 o).1 = 23 ∨ (h.2.2.2 o).1 = 24) {i : Int32} (hin : vp_in i (h.2.2.2 o).2.1) (hd : decode cc pc = .ok (.aaload, 1))
    (kk : W p l e R s m args below meth c H locs cells slots Q (F0 m (pc + 1) ls (am_v ad (am_rv ((h.2.2.2 o).2.2 i.toNatClampNeg)) :: rest))) : W p l e R s m args below meth c H locs cells slots Q (F0 m pc ls (.int i :: .ref (ad o) :: rest)) := by
  rw [← am_rv_o] at kk
  rcases hk with hk | hk
  · exact va_aldq X.1 X.2.1 r.1 r.2.1 o 3 (by rw [am_wl_at ho, am_E_a hk]) rfl hin hd kk
  · exact va_aldq X.1 X.2.1 r.1 r.2.1 o 4 (by rw [am_wl_at ho, am_E_m hk]) rfl hin hd kk
theorem am_r_aastM (X : am_X cc own p s m args c) (r : am_R D cy A ad h s H locs) {o q : Nat} (ho : o < h.1) (hk : (h.2.2.2 o).1 = 24) (hq : q < h.1) (hqk : (h.2.2.2 q).1 = 6) {i : Int32} (hin : vp_in i (h.2.2.2 o).2.1) (hd : decode cc pc = .ok (.aastore, 1))
    (kk : ∀ (H1 : Heap) (locs1 : List Loc), am_R D cy A ad (am_put h o ((h.2.2.2 o).1, (h.2.2.2 o).2.1, am_up (h.2.2.2 o).2.2 i.toNatClampNeg (.ref q))) s H1 locs1 → W p l e R s m args below meth c H1 locs1 cells slots Q (F0 m (pc + 1) ls rest)) : W p l e R s m args below meth c H locs cells slots Q (F0 m pc ls (.ref (ad q) :: .int i :: .ref (ad o) :: rest)) := by
  obtain ⟨hK, hP, hD, hS, hA, hcl⟩ := r
  exact va_astq X.1 X.2.1 hK hP hD hS o 4 q 6 (r := (RX7, TX7, 3)) (by rw [am_wl_at ho, am_E_m hk]) rfl (by rw [am_wl_at hq, am_E_ob hqk (by decide)]) rfl hin hd (fun H1 locs1 hP1 hD1 hS1 => kk H1 locs1 (am_R.put hK hA hcl ho (am_cv_up (fun j => hcl o ho j) (Or.inl hq)) (by rw [am_E_m (c := ((h.2.2.2 o).1, (h.2.2.2 o).2.1, am_up (h.2.2.2 o).2.2 i.toNatClampNeg (.ref q))) hk, am_o_up]) hP1 hD1 hS1))
theorem am_r_aastA (X : am_X cc own p s m args c) (r : am_R D cy A ad h s H locs) {o q ci : Nat} (ho : o < h.1) (hk : (h.2.2.2 o).1 = 23) (hq : q < h.1) (hqk : (h.2.2.2 q).1 = ci) {C : String} {T : u_T} {N : Nat} (hc : am_cl[ci]? = some (C, T, N)) (hca : Cond.castable C "ArchiveShelf$Archive" ∈ am_nw) {i : Int32} (hin : vp_in i (h.2.2.2 o).2.1) (hd : decode cc pc = .ok (.aastore, 1))
    (kk : ∀ (H1 : Heap) (locs1 : List Loc), am_R D cy A ad (am_put h o ((h.2.2.2 o).1, (h.2.2.2 o).2.1, am_up (h.2.2.2 o).2.2 i.toNatClampNeg (.ref q))) s H1 locs1 → W p l e R s m args below meth c H1 locs1 cells slots Q (F0 m (pc + 1) ls rest)) : W p l e R s m args below meth c H locs cells slots Q (F0 m pc ls (.ref (ad q) :: .int i :: .ref (ad o) :: rest)) := by
  obtain ⟨hK, hP, hD, hS, hA, hcl⟩ := r
  have hl : ci < 20 := Nat.lt_trans (am_cl_lt hc) (by decide)
  exact va_astqO X.1 X.2.1 hK hP hD hS o 3 q ci (r := (C, T, N)) (E := "ArchiveShelf$Archive") (by rw [am_wl_at ho, am_E_a hk]) rfl (va_Nw.of rfl (X.2.2.2.2 _ hca)) (by rw [am_wl_at hq, am_E_ob hqk hl]) hc hin hd (fun H1 locs1 hP1 hD1 hS1 => kk H1 locs1 (am_R.put hK hA hcl ho (am_cv_up (fun j => hcl o ho j) (Or.inl hq)) (by rw [am_E_a (c := ((h.2.2.2 o).1, (h.2.2.2 o).2.1, am_up (h.2.2.2 o).2.2 i.toNatClampNeg (.ref q))) hk, am_o_up]) hP1 hD1 hS1))
theorem am_r_alen (X : am_X cc own p s m args c) (r : am_R D cy A ad h s H locs) {o : Nat} (ho : o < h.1) (hk : (h.2.2.2 o).1 = 20 ∨ (h.2.2.2 o).1 = 21 ∨ (h.2.2.2 o).1 = 22 ∨ (h.2.2.2 o).1 = 23 ∨ (h.2.2.2 o).1 = 24) (hd : decode cc pc = .ok (.arraylength, 1))
    (kk : W p l e R s m args below meth c H locs cells slots Q (F0 m (pc + 1) ls (.int (Int32.ofNat (h.2.2.2 o).2.1) :: rest))) : W p l e R s m args below meth c H locs cells slots Q (F0 m pc ls (.ref (ad o) :: rest)) := by
  rcases hk with hk | hk | hk | hk | hk
  · exact va_alen X.1 X.2.1 r.1 r.2.1 o 0 (by rw [am_wl_at ho, am_E_i hk]) rfl rfl hd kk
  · exact va_alen X.1 X.2.1 r.1 r.2.1 o 1 (by rw [am_wl_at ho, am_E_l hk]) rfl rfl hd kk
  · exact va_alen X.1 X.2.1 r.1 r.2.1 o 2 (by rw [am_wl_at ho, am_E_z hk]) rfl rfl hd kk
  · exact va_alen X.1 X.2.1 r.1 r.2.1 o 3 (by rw [am_wl_at ho, am_E_a hk]) rfl rfl hd kk
  · exact va_alen X.1 X.2.1 r.1 r.2.1 o 4 (by rw [am_wl_at ho, am_E_m hk]) rfl rfl hd kk
/-- a new cell, at the next number -/
theorem am_R.new (hK : va_K D am_cl (am_tys cy) s) (hA : ∀ q, s.heap.size ≤ q → A q) (hcl : am_cls h) (hn : h.1 < 1000000000) {sl q : Nat} {c' : am_C} (hc' : ∀ j, am_cv h.1 (c'.2.2 j)) {x : va_E} (hx : x = am_E cy ad c') (hP : va_P D am_cl (am_wl cy ad h ++ [(q, x)]) H) (hD : va_D A (am_wl cy ad h ++ [(q, x)])) (hS : va_S A s.heap H locs) : am_R D cy A (am_up ad h.1 q) (am_new h sl c') s H locs := by
  subst hx
  rw [am_wl_new (sl := sl) hn hcl hc'] at hP hD
  exact ⟨hK, hP, hD, hS, hA, am_cls_new hcl hc'⟩
theorem am_r_new (X : am_X cc own p s m args c) (r : am_R D cy A ad h s H locs) (hn : h.1 < 1000000000) {ci idx : Nat} {C : String} {T : u_T} {N : Nat} (hc : am_cl[ci]? = some (C, T, N)) (hlink : Cond.classLink own idx C ∈ am_gd) (hinst : Cond.instantiable C N ∈ am_gd) (hini : Cond.initialized C ∈ am_gd) (hcells : cells + 1 ≤ R.cells) (hslots : slots + N ≤ R.slots) (hd : decode cc pc = .ok (.new idx, 3))
    (kk : ∀ (q : Nat) (H1 : Heap), am_R D cy A (am_up ad h.1 q) (am_new h N (ci, 0, fun j => defaultValue (am_ty0 ci j))) s H1 locs → W p l e R s m args below meth c H1 locs (cells + 1) (slots + N) Q (F0 m (pc + 3) ls (.ref q :: rest))) : W p l e R s m args below meth c H locs cells slots Q (F0 m pc ls rest) := by
  obtain ⟨hx, hb, hown, hts, hnw⟩ := X
  obtain ⟨hK, hP, hD, hS, hA, hcl⟩ := r
  have hl : ci < 20 := Nat.lt_trans (am_cl_lt hc) (by decide)
  have hdv : ∀ j, am_cv h.1 (defaultValue (am_ty0 ci j)) := fun j => by cases am_ty0 ci j <;> trivial
  have hdm : ∀ j, am_v ad (defaultValue (am_ty0 ci j)) = defaultValue (am_ty0 ci j) := fun j => by cases am_ty0 ci j <;> rfl
  refine va_new (ci := ci) (fs := (List.range N).map fun j => defaultValue (am_ty0 ci j)) (C := C) (T := T) (N := N) hx hb hts (am_in_gd hc) (am_ty0 ci) (am_ty_ok hc) hown (hts _ hlink) (hts _ hinst) (hts _ hini) hK hP hD hS hA hc (fun j hj => by simp [vp_V, hj]) hcells hslots hd (fun q H1 hP1 hD1 hS1 => kk q H1 ?_)
  exact am_R.new hK hA hcl hn hdv (by rw [am_E_ob (c := (ci, 0, fun j => defaultValue (am_ty0 ci j))) rfl hl, am_nf_eq hc]; simp only [hdm]) hP1 hD1 hS1
theorem am_cy {t : Nat} {ty : FieldType} {cA : ClassId} (hK : va_K D am_cl (am_tys cy) s) (ht : (am_tys cy)[t]? = some (cy t, ty)) (hK1 : va_K D am_cl (am_tys cy ++ [(cA, ty)]) s) : cA = cy t := by
  have h1 := (hK.2 t _ ht).2
  have h2 := (hK1.2 5 (cA, ty) rfl).2
  unfold va_RA at h1 h2
  cases ty with
  | object C =>
    obtain ⟨_, _, -, -, -, h3⟩ := h1
    obtain ⟨_, _, -, -, -, h4⟩ := h2
    exact Option.some.inj (h4.symm.trans h3)
  | _ => exact Option.some.inj (h2.symm.trans h1)
/-- kind and element of a new array -/
def am_at (ty : ArrayType) : Option (Nat × Nat × Value) := match ty with
  | .int => some (0, 20, .int 0)
  | .long => some (1, 21, .long 0)
  | .boolean => some (2, 22, .int 0)
  | _ => none
theorem am_r_newa (X : am_X cc own p s m args c) (r : am_R D cy A ad h s H locs) (hn : h.1 < 1000000000) {ty : ArrayType} {t kd : Nat} {v0 : Value} (hat : am_at ty = some (t, kd, v0)) (harr : Cond.arrayClass (newarray.typeOf ty) ∈ am_gd) {n : Int32} (hp : ¬ n < 0) (hbytes : n.toNatClampNeg * 8 ≤ 536870912) (hcells : cells + 1 ≤ R.cells) (hslots : slots + n.toNatClampNeg ≤ R.slots) (hd : decode cc pc = .ok (.newarray ty, 2))
    (kk : ∀ (q : Nat) (H1 : Heap), am_R D cy A (am_up ad h.1 q) (am_new h n.toNatClampNeg (kd, n.toNatClampNeg, fun _ => v0)) s H1 locs → W p l e R s m args below meth c H1 locs (cells + 1) (slots + n.toNatClampNeg) Q (F0 m (pc + 2) ls (.ref q :: rest))) : W p l e R s m args below meth c H locs cells slots Q (F0 m pc ls (.int n :: rest)) := by
  obtain ⟨hx, hb, hown, hts, hnw⟩ := X
  obtain ⟨hK, hP, hD, hS, hA, hcl⟩ := r
  cases ty <;> simp only [am_at, Option.some.injEq, Prod.mk.injEq, reduceCtorEq] at hat
  · obtain ⟨rfl, rfl, rfl⟩ := hat
    refine va_newa hx hb (hts _ harr) (ty := .boolean) rfl hK hP hD hS hA (a0 := (n.toNatClampNeg, .inl fun _ => 0)) (fun cA => rfl) hp rfl (Nat.le_trans (Nat.mul_le_mul_left _ (by decide)) hbytes) hcells hslots hd (fun q cA H1 hK1 hP1 hD1 hS1 => kk q H1 ?_)
    rw [am_cy (t := 2) hK rfl hK1] at hP1 hD1
    exact am_R.new hK hA hcl hn (fun _ => trivial) (by rw [am_E_z rfl]; rfl) hP1 hD1 hS1
  · obtain ⟨rfl, rfl, rfl⟩ := hat
    refine va_newa hx hb (hts _ harr) (ty := .int) rfl hK hP hD hS hA (a0 := (n.toNatClampNeg, .inl fun _ => 0)) (fun cA => rfl) hp rfl (Nat.le_trans (Nat.mul_le_mul_left _ (by decide)) hbytes) hcells hslots hd (fun q cA H1 hK1 hP1 hD1 hS1 => kk q H1 ?_)
    rw [am_cy (t := 0) hK rfl hK1] at hP1 hD1
    exact am_R.new hK hA hcl hn (fun _ => trivial) (by rw [am_E_i rfl]; rfl) hP1 hD1 hS1
  · obtain ⟨rfl, rfl, rfl⟩ := hat
    refine va_newa hx hb (hts _ harr) (ty := .long) rfl hK hP hD hS hA (a0 := (n.toNatClampNeg, .inr (.inl fun _ => 0))) (fun cA => rfl) hp rfl (Nat.le_trans (Nat.mul_le_mul_left _ (by decide)) hbytes) hcells hslots hd (fun q cA H1 hK1 hP1 hD1 hS1 => kk q H1 ?_)
    rw [am_cy (t := 1) hK rfl hK1] at hP1 hD1
    exact am_R.new hK hA hcl hn (fun _ => trivial) (by rw [am_E_l rfl]; rfl) hP1 hD1 hS1
/-- kind of a new array of references, by its element's class -/
def am_aq (C : String) : Option (Nat × Nat) := if C = "ArchiveShelf$Archive" then some (3, 23) else if C = "ArchiveShelf$Member" then some (4, 24) else none
theorem am_r_newq (X : am_X cc own p s m args c) (r : am_R D cy A ad h s H locs) (hn : h.1 < 1000000000) {idx : Nat} {C : String} {t kd : Nat} (haq : am_aq C = some (t, kd)) (hlink : Cond.classLink own idx C ∈ am_gd) (hover : va_AO C s) {n : Int32} (hp : ¬ n < 0) (hbytes : n.toNatClampNeg * 4 ≤ 536870912) (hcells : cells + 1 ≤ R.cells) (hslots : slots + n.toNatClampNeg ≤ R.slots) (hd : decode cc pc = .ok (.anewarray idx, 3))
    (kk : ∀ (q : Nat) (H1 : Heap), am_R D cy A (am_up ad h.1 q) (am_new h n.toNatClampNeg (kd, n.toNatClampNeg, fun _ => .null)) s H1 locs → W p l e R s m args below meth c H1 locs (cells + 1) (slots + n.toNatClampNeg) Q (F0 m (pc + 3) ls (.ref q :: rest))) : W p l e R s m args below meth c H locs cells slots Q (F0 m pc ls (.int n :: rest)) := by
  obtain ⟨hx, hb, hown, hts, hnw⟩ := X
  obtain ⟨hK, hP, hD, hS, hA, hcl⟩ := r
  unfold am_aq at haq
  split at haq
  · rename_i hC; subst hC; cases haq
    refine va_newq hx hb hown (hts _ hlink) hover hK hP hD hS hA hp rfl hbytes hcells hslots hd (fun q cA H1 hK1 hP1 hD1 hS1 => kk q H1 ?_)
    rw [am_cy (t := 3) hK rfl hK1] at hP1 hD1
    exact am_R.new hK hA hcl hn (fun _ => trivial) (by rw [am_E_a rfl]; rfl) hP1 hD1 hS1
  · split at haq
    · rename_i hC; subst hC; cases haq
      refine va_newq hx hb hown (hts _ hlink) hover hK hP hD hS hA hp rfl hbytes hcells hslots hd (fun q cA H1 hK1 hP1 hD1 hS1 => kk q H1 ?_)
      rw [am_cy (t := 4) hK rfl hK1] at hP1 hD1
      exact am_R.new hK hA hcl hn (fun _ => trivial) (by rw [am_E_m rfl]; rfl) hP1 hD1 hS1
    · cases haq
end AMA
end
section
/-! TABLES: what the constant pools' entries are, by the number of the class they stand in -/
def am_cn (o : Nat) : String := match o with
  | 0 => RX0
  | 1 => RX1
  | 2 => RX2
  | 3 => RX3
  | 4 => RX4
  | 5 => RX5
  | 6 => RX6
  | 7 => RX7
  | 8 => RX8
  | 9 => RX9
  | 10 => RX10
  | 11 => RX11
  | 12 => RX12
  | 13 => RL
  | 14 => RJ9
  | 15 => RJ0
  | 16 => RJ1
  | _ => ""
def am_ft (o : Nat) : List (Nat × Nat × Nat × Nat × Nat) := match o with
  | 0 => [(9, 0, 0, 0, 1), (9, 3, 0, 0, 1), (9, 4, 0, 0, 1), (15, 0, 1, 0, 1), (15, 3, 1, 0, 1), (15, 4, 1, 0, 1), (18, 0, 2, 0, 1), (18, 3, 2, 0, 1), (18, 4, 2, 0, 1), (55, 6, 0, 2, 2), (64, 6, 2, 2, 0)]
  | 1 => [(11, 0, 0, 1, 2), (91, 0, 1, 1, 2), (57, 0, 2, 1, 2), (116, 6, 1, 2, 2), (132, 6, 2, 2, 0)]
  | 2 => [(9, 1, 0, 0, 1), (15, 1, 1, 0, 0)]
  | 3 => [(11, 2, 0, 0, 1), (15, 2, 1, 0, 1), (18, 2, 2, 0, 1), (21, 2, 3, 0, 0), (25, 2, 4, 0, 0)]
  | 4 => [(11, 3, 0, 1, 2), (28, 3, 1, 1, 2), (65, 3, 2, 1, 2), (132, 6, 0, 2, 2), (122, 6, 1, 2, 2), (127, 6, 2, 2, 0)]
  | 5 => [(27, 4, 0, 1, 2), (135, 4, 1, 1, 2), (100, 4, 2, 1, 2), (9, 4, 3, 0, 1), (15, 4, 4, 0, 1), (19, 4, 5, 0, 1), (30, 4, 6, 0, 0), (40, 4, 7, 0, 0), (56, 4, 8, 0, 0), (128, 4, 9, 0, 0), (97, 4, 10, 0, 0), (85, 4, 11, 0, 0), (73, 4, 12, 0, 0), (142, 4, 13, 0, 0), (63, 4, 14, 0, 0), (66, 4, 15, 0, 0), (207, 6, 0, 2, 2), (168, 6, 1, 2, 2), (210, 6, 2, 2, 0)]
  | 6 => [(9, 5, 0, 0, 0), (15, 5, 1, 0, 0)]
  | 7 => [(14, 6, 0, 0, 1), (20, 6, 1, 0, 1)]
  | 8 => [(7, 7, 0, 0, 1), (13, 7, 1, 0, 0), (17, 7, 2, 0, 0), (56, 7, 3, 0, 0)]
  | 9 => [(11, 8, 0, 0, 1), (18, 8, 1, 0, 0), (26, 6, 0, 2, 2), (61, 6, 1, 2, 2), (42, 6, 2, 2, 0)]
  | 10 => [(9, 9, 0, 0, 1), (15, 9, 1, 0, 1), (18, 9, 2, 0, 1), (27, 9, 3, 0, 1), (31, 9, 4, 0, 1), (34, 9, 5, 0, 1), (37, 9, 6, 0, 1), (44, 9, 7, 0, 1), (47, 9, 8, 0, 1), (53, 9, 9, 0, 0), (57, 9, 10, 0, 0), (60, 9, 11, 0, 0), (69, 9, 12, 0, 0), (124, 9, 13, 0, 0), (127, 9, 14, 0, 0), (133, 9, 15, 0, 0)]
  | 11 => [(14, 10, 0, 0, 1), (18, 10, 1, 0, 1), (21, 10, 2, 0, 1), (24, 10, 3, 0, 1), (30, 10, 4, 0, 1), (39, 10, 5, 0, 1), (48, 10, 6, 0, 1), (65, 10, 7, 0, 1), (72, 10, 8, 0, 0), (76, 10, 9, 0, 0), (157, 6, 0, 2, 2), (162, 6, 1, 2, 2), (163, 6, 2, 2, 0)]
  | 12 => [(66, 11, 0, 0, 0), (7, 11, 1, 0, 0), (82, 11, 2, 0, 0), (13, 11, 3, 0, 0), (87, 11, 4, 0, 0), (69, 11, 5, 0, 0), (16, 11, 6, 0, 0), (96, 11, 7, 0, 0), (173, 11, 8, 0, 0), (20, 11, 9, 0, 0), (23, 11, 10, 0, 0), (26, 11, 11, 0, 0), (29, 11, 12, 0, 0), (32, 11, 13, 0, 0), (99, 11, 14, 0, 0), (36, 11, 15, 0, 0), (133, 11, 16, 0, 0), (39, 11, 17, 0, 0), (116, 11, 18, 0, 0), (155, 11, 19, 0, 0), (152, 11, 20, 0, 0), (176, 11, 21, 0, 0), (42, 11, 22, 0, 0), (282, 11, 23, 0, 0), (317, 11, 24, 0, 0), (306, 11, 25, 0, 0), (309, 11, 26, 0, 0), (45, 11, 27, 0, 0), (48, 11, 28, 0, 0), (51, 11, 29, 0, 0), (342, 11, 30, 0, 0), (54, 11, 31, 0, 0), (373, 11, 32, 0, 0), (364, 11, 33, 0, 0), (367, 11, 34, 0, 0), (376, 11, 35, 0, 0), (57, 11, 36, 0, 0), (60, 11, 37, 0, 0), (63, 11, 38, 0, 0)]
  | _ => []
def am_nt (o : Nat) : List (Nat × Nat) := match o with
  | 7 => [(9, 1)]
  | 9 => [(9, 6)]
  | 10 => [(22, 2)]
  | 11 => [(7, 1), (27, 5), (34, 7), (43, 9), (54, 0), (57, 3), (60, 4), (69, 8)]
  | 13 => [(8, 10), (73, 11)]
  | _ => []
def am_qt (o : Nat) : List (Nat × Nat) := match o with
  | 9 => [(9, 24)]
  | 11 => [(52, 23)]
  | _ => []
def am_gt (o : Nat) : List (Nat × Nat) := match o with
  | 1 => [(70, 1)]
  | 4 => [(74, 2)]
  | 5 => [(145, 3), (123, 4), (110, 5), (151, 6), (154, 7)]
  | 10 => [(40, 0)]
  | _ => []
def am_ct (o : Nat) : List (Nat × Int32) := match o with
  | 3 => [(44, 32768)]
  | 4 => [(131, 33188)]
  | 10 => [(68, 160000), (109, 65535)]
  | 11 => [(251, (-306674912))]
  | 12 => [(323, 65535), (316, 32768), (363, (-306674912)), (411, 33188)]
  | _ => []
def am_lt0 (o : Nat) : List (Nat × Int64) := match o with
  | 4 => [(89, 100), (113, 15), (102, 33188), (108, 16877)]
  | 5 => [(126, 20), (197, 33), (121, 16), (138, 400), (140, 30)]
  | 12 => [(72, 8), (85, 255), (94, 2), (102, 90), (104, 33), (106, 126), (147, (-3)), (168, (-1)), (180, 48), (182, 55), (184, 148), (186, 155), (219, 57), (221, 97), (223, 102), (225, 65), (227, 70), (229, 16), (239, 100), (250, 15), (252, 400), (271, 30)]
  | 13 => [(76, 4294967295)]
  | _ => []
def am_stt (o : Nat) : List (Nat × Nat) := match o with
  | 1 => [(136, 15), (138, 16), (144, 17), (149, 18)]
  | 4 => [(31, 19)]
  | 11 => [(81, 0), (92, 1), (99, 2), (110, 3), (125, 4), (127, 5), (135, 6), (141, 7), (152, 8), (167, 9), (169, 10), (178, 11), (187, 12), (195, 13), (201, 14), (221, 20), (233, 21), (235, 22), (237, 23), (239, 24), (245, 25)]
  | _ => []
def am_sa : List (String × String × List Int32) := [("ArchiveShelf$Unpacker", "LENGTHS_ORDER", [16, 17, 18, 0, 8, 7, 9, 6, 10, 5, 11, 4, 12, 3, 13, 2, 14, 1, 15]), ("ArchiveShelf$BlockArchive", "MARK_BYTES", [117, 115, 116, 97, 114, 0, 48, 48]), ("ArchiveShelf$DigitArchive", "MARK_BYTES", [48, 55, 48, 55, 48, 49]), ("ArchiveShelf$EndArchive", "LOCAL_MARK", [80, 75, 3, 4]), ("ArchiveShelf$EndArchive", "ENTRY_MARK", [80, 75, 1, 2]), ("ArchiveShelf$EndArchive", "CLOSING_MARK", [80, 75, 5, 6]), ("ArchiveShelf$EndArchive", "SAME_FIELDS", [6, 8, 14, 18, 22, 26]), ("ArchiveShelf$EndArchive", "SAME_WIDTHS", [2, 2, 4, 4, 4, 2])]
def am_st : List (String × Nat × String × List Int32) := [("ArchiveShelf", 81, "n is not 1 .. 8", [110, 32, 105, 115, 32, 110, 111, 116, 32, 49, 32, 46, 46, 32, 56]), ("ArchiveShelf", 92, "more than 512 bytes", [109, 111, 114, 101, 32, 116, 104, 97, 110, 32, 53, 49, 50, 32, 98, 121, 116, 101, 115]), ("ArchiveShelf", 99, "the buffer has not so many bytes", [116, 104, 101, 32, 98, 117, 102, 102, 101, 114, 32, 104, 97, 115, 32, 110, 111, 116, 32, 115, 111, 32, 109, 97, 110, 121, 32, 98, 121, 116, 101, 115]), ("ArchiveShelf", 110, "no such byte of the buffer", [110, 111, 32, 115, 117, 99, 104, 32, 98, 121, 116, 101, 32, 111, 102, 32, 116, 104, 101, 32, 98, 117, 102, 102, 101, 114]), ("ArchiveShelf", 125, "no name", [110, 111, 32, 110, 97, 109, 101]), ("ArchiveShelf", 127, "too many bytes", [116, 111, 111, 32, 109, 97, 110, 121, 32, 98, 121, 116, 101, 115]), ("ArchiveShelf", 135, "in the way", [105, 110, 32, 116, 104, 101, 32, 119, 97, 121]), ("ArchiveShelf", 141, "more than 16 members", [109, 111, 114, 101, 32, 116, 104, 97, 110, 32, 49, 54, 32, 109, 101, 109, 98, 101, 114, 115]), ("ArchiveShelf", 152, "no such member", [110, 111, 32, 115, 117, 99, 104, 32, 109, 101, 109, 98, 101, 114]), ("ArchiveShelf", 167, "no such byte of the name", [110, 111, 32, 115, 117, 99, 104, 32, 98, 121, 116, 101, 32, 111, 102, 32, 116, 104, 101, 32, 110, 97, 109, 101]), ("ArchiveShelf", 169, "no such member or byte", [110, 111, 32, 115, 117, 99, 104, 32, 109, 101, 109, 98, 101, 114, 32, 111, 114, 32, 98, 121, 116, 101]), ("ArchiveShelf", 178, "all children have no byte", [97, 108, 108, 32, 99, 104, 105, 108, 100, 114, 101, 110, 32, 104, 97, 118, 101, 32, 110, 111, 32, 98, 121, 116, 101]), ("ArchiveShelf", 187, "no such child", [110, 111, 32, 115, 117, 99, 104, 32, 99, 104, 105, 108, 100]), ("ArchiveShelf", 195, "no such byte of the child", [110, 111, 32, 115, 117, 99, 104, 32, 98, 121, 116, 101, 32, 111, 102, 32, 116, 104, 101, 32, 99, 104, 105, 108, 100]), ("ArchiveShelf", 201, "no such kind", [110, 111, 32, 115, 117, 99, 104, 32, 107, 105, 110, 100]), ("ArchiveShelf$BlockArchive", 136, "0000755", [48, 48, 48, 48, 55, 53, 53]), ("ArchiveShelf$BlockArchive", 138, "0000644", [48, 48, 48, 48, 54, 52, 52]), ("ArchiveShelf$BlockArchive", 144, "0000000", [48, 48, 48, 48, 48, 48, 48]), ("ArchiveShelf$BlockArchive", 149, "000000", [48, 48, 48, 48, 48, 48]), ("ArchiveShelf$DigitArchive", 31, "TRAILER!!!", [84, 82, 65, 73, 76, 69, 82, 33, 33, 33]), ("ArchiveShelf", 221, "no such what", [110, 111, 32, 115, 117, 99, 104, 32, 119, 104, 97, 116]), ("ArchiveShelf", 233, "more than 20000 bytes", [109, 111, 114, 101, 32, 116, 104, 97, 110, 32, 50, 48, 48, 48, 48, 32, 98, 121, 116, 101, 115]), ("ArchiveShelf", 235, "the tape has not so many bytes", [116, 104, 101, 32, 116, 97, 112, 101, 32, 104, 97, 115, 32, 110, 111, 116, 32, 115, 111, 32, 109, 97, 110, 121, 32, 98, 121, 116, 101, 115]), ("ArchiveShelf", 237, "no such byte of the tape", [110, 111, 32, 115, 117, 99, 104, 32, 98, 121, 116, 101, 32, 111, 102, 32, 116, 104, 101, 32, 116, 97, 112, 101]), ("ArchiveShelf", 239, "no byte", [110, 111, 32, 98, 121, 116, 101]), ("ArchiveShelf", 245, "no such bytes of the tape", [110, 111, 32, 115, 117, 99, 104, 32, 98, 121, 116, 101, 115, 32, 111, 102, 32, 116, 104, 101, 32, 116, 97, 112, 101])]
def am_ftok (own : String) (e : Nat × Nat × Nat × Nat × Nat) : Bool := match am_cl[e.2.1]? with
  | some (C, T, N) => Nat.blt e.2.2.1 N && (match e.2.2.2.1 with
    | 0 => decide (Cond.fieldLink own e.1 (T e.2.2.1).1 (T e.2.2.1).2.1 (T e.2.2.1).2.2.1 ∈ lw_tbl)
    | 1 => decide (Cond.fieldLink own e.1 C (T e.2.2.1).2.1 (T e.2.2.1).2.2.1 ∈ lw_tbl) && decide (Cond.sameField C (T e.2.2.1).1 (T e.2.2.1).2.1 (T e.2.2.1).2.2.1 ∈ lw_tbl)
    | _ => decide (Cond.fieldLinkNest own e.1 (T e.2.2.1).1 (T e.2.2.1).2.1 (T e.2.2.1).2.2.1 "ArchiveShelf" ∈ lw_tbl)) && (match e.2.2.2.2 with
    | 0 => !(T e.2.2.1).2.2.2
    | 1 => decide ((T e.2.2.1).1 = own) && Nat.blt e.2.2.2.1 2
    | _ => true)
  | none => false
def am_ntok (own : String) (e : Nat × Nat) : Bool := match am_cl[e.2]? with
  | some (C, T, N) => decide (Cond.classLink own e.1 C ∈ lw_tbl) && decide (Cond.instantiable C N ∈ lw_tbl) && decide (Cond.initialized C ∈ lw_tbl)
  | none => false
def am_qn (kd : Nat) : String := if kd = 23 then "ArchiveShelf$Archive" else "ArchiveShelf$Member"
def am_qtok (own : String) (e : Nat × Nat) : Bool := (Nat.beq e.2 23 || Nat.beq e.2 24) && decide (Cond.classLink own e.1 (am_qn e.2) ∈ lw_tbl)
def am_gtok (own : String) (e : Nat × Nat) : Bool := match am_sa[e.2]? with
  | some q => decide (Cond.fieldLink own e.1 q.1 q.2.1 "[I" ∈ lw_tbl)
  | none => false
def am_ctok (own : String) (e : Nat × Int32) : Bool := decide (Cond.constant own e.1 e.2 ∈ lw_tbl)
def am_ltok (own : String) (e : Nat × Int64) : Bool := decide (Cond.constantLong own e.1 e.2 ∈ lw_tbl)
def am_sttok (own : String) (e : Nat × Nat) : Bool := match am_st[e.2]? with
  | some q => decide (q.1 = own) && Nat.beq q.2.1 e.1
  | none => false
theorem am_ft_all : (List.range 17).all (fun o => (am_ft o).all (am_ftok (am_cn o))) = true := by decide +kernel
theorem am_nt_all : (List.range 17).all (fun o => (am_nt o).all (am_ntok (am_cn o))) = true := by decide +kernel
theorem am_qt_all : (List.range 17).all (fun o => (am_qt o).all (am_qtok (am_cn o))) = true := by decide +kernel
theorem am_gt_all : (List.range 17).all (fun o => (am_gt o).all (am_gtok (am_cn o))) = true := by decide +kernel
theorem am_ct_all : (List.range 17).all (fun o => (am_ct o).all (am_ctok (am_cn o))) = true := by decide +kernel
theorem am_lt_all : (List.range 17).all (fun o => (am_lt0 o).all (am_ltok (am_cn o))) = true := by decide +kernel
theorem am_stt_all : (List.range 17).all (fun o => (am_stt o).all (am_sttok (am_cn o))) = true := by decide +kernel
theorem am_ac_i : Cond.arrayClass .int ∈ lw_tbl := by decide +kernel
theorem am_ac_l : Cond.arrayClass .long ∈ lw_tbl := by decide +kernel
theorem am_ac_z : Cond.arrayClass .boolean ∈ lw_tbl := by decide +kernel
theorem am_ca0 : Cond.castable RX1 "ArchiveShelf$Archive" ∈ lw_tbl ∧ Cond.castable RX4 "ArchiveShelf$Archive" ∈ lw_tbl ∧ Cond.castable RX5 "ArchiveShelf$Archive" ∈ lw_tbl := by decide +kernel
end
section
/-! THE HEAP'S INSTRUCTIONS, as one function, and that the machine follows it -/
def am_find (t : List (Nat × Nat × Nat × Nat × Nat)) (idx ci : Nat) : Option (Nat × Nat × Nat) := match t with
  | [] => none
  | e :: r => bif Nat.beq e.1 idx && Nat.beq e.2.1 ci then some e.2.2 else am_find r idx ci
theorem am_find_mem {t : List (Nat × Nat × Nat × Nat × Nat)} {idx ci : Nat} {u : Nat × Nat × Nat} (h : am_find t idx ci = some u) : (idx, ci, u) ∈ t := by
  induction t with
  | nil => cases h
  | cons e r ih =>
    unfold am_find at h
    cases hb : (Nat.beq e.1 idx && Nat.beq e.2.1 ci) with
    | true =>
      rw [hb] at h
      simp only [Bool.and_eq_true] at hb
      obtain ⟨e1, e2, e3⟩ := e
      cases h
      have h1 : e1 = idx := Nat.eq_of_beq_eq_true hb.1
      have h2 : e2 = ci := Nat.eq_of_beq_eq_true hb.2
      subst h1; subst h2
      exact List.mem_cons_self
    | false =>
      rw [hb] at h
      exact List.mem_cons_of_mem _ (ih h)
def am_fnd {α : Type} (t : List (Nat × α)) (idx : Nat) : Option α := match t with
  | [] => none
  | e :: r => bif Nat.beq e.1 idx then some e.2 else am_fnd r idx
theorem am_fnd_mem {α : Type} {t : List (Nat × α)} {idx : Nat} {u : α} (h : am_fnd t idx = some u) : (idx, u) ∈ t := by
  induction t with
  | nil => cases h
  | cons e r ih =>
    unfold am_fnd at h
    cases hb : Nat.beq e.1 idx with
    | true =>
      rw [hb] at h
      obtain ⟨e1, e2⟩ := e
      cases h
      have h1 : e1 = idx := Nat.eq_of_beq_eq_true hb
      subst h1
      exact List.mem_cons_self
    | false =>
      rw [hb] at h
      exact List.mem_cons_of_mem _ (ih h)
theorem am_all {α : Type} {n : Nat} {t : Nat → List α} {f : Nat → α → Bool} (h : (List.range n).all (fun o => (t o).all (f o)) = true) {o : Nat} (ho : o < n) {e : α} (he : e ∈ t o) : f o e = true := List.all_eq_true.mp (List.all_eq_true.mp h o (List.mem_range.mpr ho)) e he
theorem am_gd_of {w : Cond} (hd : decide (w ∈ lw_tbl) = true) (hg : goodWord w = true) : w ∈ am_gd := am_gd_in (of_decide_eq_true hd) hg
theorem am_nw_of {w : Cond} (hd : decide (w ∈ lw_tbl) = true) (hg : am_isN w = true) : w ∈ am_nw := List.mem_filter.mpr ⟨of_decide_eq_true hd, hg⟩
/-- an index within -/
def am_in (i : Int32) (n : Nat) : Bool := !decide (i < 0) && Nat.blt i.toNatClampNeg n
theorem am_in_ok2 {i : Int32} {n : Nat} (h : am_in i n = true) : vp_in i n := by
  unfold am_in at h
  simp only [Bool.and_eq_true, Bool.not_eq_true', decide_eq_false_iff_not] at h
  intro q
  rcases q with q | q
  · exact h.1 q
  · exact absurd (Nat.blt_eq.mp h.2) (Nat.not_lt.mpr q)
def am_isA (kd : Nat) : Bool := Nat.beq kd 20 || Nat.beq kd 21 || Nat.beq kd 22 || Nat.beq kd 23 || Nat.beq kd 24
/-- the old ones: static arrays from 1000000000 on, texts from 1000000100 on, their bytes from 1000000200 on -/
def am_oarr (o : Nat) : Option (List Int32) := match am_sa[o - 1000000000]? with
  | some q => some q.2.2
  | none => none
def am_obyt (o : Nat) : Option (List Int32) := match am_st[o - 1000000200]? with
  | some q => some q.2.2.2
  | none => none
def am_s1 (own : Nat) (ini : Bool) (i : Instr) (pc : Nat) (st : List Value) (h : am_H) : Option (Nat × List Value × am_H) := match i with
  | .getfield idx => match st with
    | .ref o :: r => bif Nat.blt o h.1 then (match am_find (am_ft own) idx (h.2.2.2 o).1 with
      | some u => some (pc + 3, (h.2.2.2 o).2.2 u.1 :: r, h)
      | none => none) else none
    | _ => none
  | .putfield idx => match st with
    | v :: .ref o :: r => bif Nat.blt o h.1 then (match am_find (am_ft own) idx (h.2.2.2 o).1 with
      | some u => bif (Nat.beq u.2.2 0 || (Nat.beq u.2.2 1 && ini)) && am_fit (am_ty0 (h.2.2.2 o).1 u.1) v then some (pc + 3, r, am_put h o ((h.2.2.2 o).1, (h.2.2.2 o).2.1, am_up (h.2.2.2 o).2.2 u.1 v)) else none
      | none => none) else none
    | _ => none
  | .iaload => match st with
    | .int j :: .ref o :: r => bif Nat.blt o h.1 then (bif Nat.beq (h.2.2.2 o).1 20 && am_in j (h.2.2.2 o).2.1 then some (pc + 1, .int (am_i ((h.2.2.2 o).2.2 j.toNatClampNeg)) :: r, h) else none) else none
    | _ => none
  | .iastore => match st with
    | .int x :: .int j :: .ref o :: r => bif Nat.blt o h.1 && Nat.beq (h.2.2.2 o).1 20 && am_in j (h.2.2.2 o).2.1 then some (pc + 1, r, am_put h o ((h.2.2.2 o).1, (h.2.2.2 o).2.1, am_up (h.2.2.2 o).2.2 j.toNatClampNeg (.int x))) else none
    | _ => none
  | .laload => match st with
    | .int j :: .ref o :: r => bif Nat.blt o h.1 && Nat.beq (h.2.2.2 o).1 21 && am_in j (h.2.2.2 o).2.1 then some (pc + 1, .long (am_l ((h.2.2.2 o).2.2 j.toNatClampNeg)) :: r, h) else none
    | _ => none
  | .lastore => match st with
    | .long x :: .int j :: .ref o :: r => bif Nat.blt o h.1 && Nat.beq (h.2.2.2 o).1 21 && am_in j (h.2.2.2 o).2.1 then some (pc + 1, r, am_put h o ((h.2.2.2 o).1, (h.2.2.2 o).2.1, am_up (h.2.2.2 o).2.2 j.toNatClampNeg (.long x))) else none
    | _ => none
  | .baload => match st with
    | .int j :: .ref o :: r => bif Nat.blt o h.1 && Nat.beq (h.2.2.2 o).1 22 && am_in j (h.2.2.2 o).2.1 then some (pc + 1, .int (am_i ((h.2.2.2 o).2.2 j.toNatClampNeg)) :: r, h) else none
    | _ => none
  | .bastore => match st with
    | .int x :: .int j :: .ref o :: r => bif Nat.blt o h.1 && Nat.beq (h.2.2.2 o).1 22 && am_in j (h.2.2.2 o).2.1 then some (pc + 1, r, am_put h o ((h.2.2.2 o).1, (h.2.2.2 o).2.1, am_up (h.2.2.2 o).2.2 j.toNatClampNeg (.int (vp_nar .boolean x)))) else none
    | _ => none
  | .aaload => match st with
    | .int j :: .ref o :: r => bif Nat.blt o h.1 && (Nat.beq (h.2.2.2 o).1 23 || Nat.beq (h.2.2.2 o).1 24) && am_in j (h.2.2.2 o).2.1 then some (pc + 1, am_rv ((h.2.2.2 o).2.2 j.toNatClampNeg) :: r, h) else none
    | _ => none
  | .aastore => match st with
    | .ref q :: .int j :: .ref o :: r => bif Nat.blt o h.1 && Nat.blt q h.1 && am_in j (h.2.2.2 o).2.1 && ((Nat.beq (h.2.2.2 o).1 24 && Nat.beq (h.2.2.2 q).1 6) || (Nat.beq (h.2.2.2 o).1 23 && (Nat.beq (h.2.2.2 q).1 0 || Nat.beq (h.2.2.2 q).1 3 || Nat.beq (h.2.2.2 q).1 4))) then some (pc + 1, r, am_put h o ((h.2.2.2 o).1, (h.2.2.2 o).2.1, am_up (h.2.2.2 o).2.2 j.toNatClampNeg (.ref q))) else none
    | _ => none
  | .arraylength => match st with
    | .ref o :: r => bif Nat.blt o h.1 && am_isA (h.2.2.2 o).1 then some (pc + 1, .int (Int32.ofNat (h.2.2.2 o).2.1) :: r, h) else none
    | _ => none
  | .new idx => match am_fnd (am_nt own) idx with
    | some ci => bif Nat.blt h.1 1000000000 then some (pc + 3, .ref h.1 :: st, am_new h (am_nf ci) (ci, 0, fun j => defaultValue (am_ty0 ci j))) else none
    | none => none
  | .newarray ty => match st, am_at ty with
    | .int n :: r, some u => bif Nat.blt h.1 1000000000 && !decide (n < 0) && Nat.ble (n.toNatClampNeg * 8) 536870912 then some (pc + 2, .ref h.1 :: r, am_new h n.toNatClampNeg (u.2.1, n.toNatClampNeg, fun _ => u.2.2)) else none
    | _, _ => none
  | .anewarray idx => match st, am_fnd (am_qt own) idx with
    | .int n :: r, some kd => bif Nat.blt h.1 1000000000 && !decide (n < 0) && Nat.ble (n.toNatClampNeg * 4) 536870912 then some (pc + 3, .ref h.1 :: r, am_new h n.toNatClampNeg (kd, n.toNatClampNeg, fun _ => .null)) else none
    | _, _ => none
  | .ldc idx => match am_fnd (am_ct own) idx with
    | some v => some (pc + 2, .int v :: st, h)
    | none => none
  | .ldc2_w idx => match am_fnd (am_lt0 own) idx with
    | some v => some (pc + 3, .long v :: st, h)
    | none => none
  | .ldc_w idx => match am_fnd (am_ct own) idx with
    | some v => some (pc + 3, .int v :: st, h)
    | none => none
  | _ => none
theorem am_b2 {a b : Bool} (h : (a && b) = true) : a = true ∧ b = true := by simpa using h
theorem am_cf {α : Type} {b : Bool} {x u : α} (h : (bif b then some x else none) = some u) : b = true ∧ x = u := by
  cases b with
  | true => exact ⟨rfl, Option.some.inj h⟩
  | false => cases h
theorem am_cg {α : Type} {b : Bool} {x : Option α} {u : α} (h : (bif b then x else none) = some u) : b = true ∧ x = some u := by
  cases b with
  | true => exact ⟨rfl, h⟩
  | false => cases h
section AM1
variable {p : Program} {l : Launch} {e : Env} {R : Room} {s : State} {m : MethodId} {args : Array Value} {below : List Frame} {meth : Method} {c : Code} {H : Heap} {locs : List Loc} {cells slots : Nat} {Q : State → Prop}
variable {cc : ByteArray} {pc own : Nat} {ls : Array Slot} {ad : Nat → Nat} {st : List Value} {D : va_G} {cy : Nat → ClassId} {A : Nat → Prop} {h : am_H} {i : Instr} {len : Nat} {u : Nat × List Value × am_H}
/-- what the road behind a heap's instruction owes -/
def am_K1 (p : Program) (l : Launch) (e : Env) (R : Room) (s : State) (m : MethodId) (args : Array Value) (below : List Frame) (meth : Method) (c : Code) (cells slots : Nat) (Q : State → Prop) (D : va_G) (cy : Nat → ClassId) (A : Nat → Prop) (ad : Nat → Nat) (h : am_H) (ls : Array Slot) (u : Nat × List Value × am_H) : Prop :=
  ∀ (ad' : Nat → Nat) (H1 : Heap) (locs1 : List Loc), (∀ k, k < h.1 ∨ 1000000000 ≤ k → ad' k = ad k) → am_R D cy A ad' u.2.2 s H1 locs1 → W p l e R s m args below meth c H1 locs1 (cells + (u.2.2.2.1 - h.2.1)) (slots + (u.2.2.2.2.1 - h.2.2.1)) Q (F0 m u.1 ls (u.2.1.map (am_v ad')))
theorem am_K1.same (k : am_K1 p l e R s m args below meth c cells slots Q D cy A ad h ls u) {H1 : Heap} {locs1 : List Loc} (r : am_R D cy A ad u.2.2 s H1 locs1) (h1 : u.2.2.2.1 = h.2.1) (h2 : u.2.2.2.2.1 = h.2.2.1) : W p l e R s m args below meth c H1 locs1 cells slots Q (F0 m u.1 ls (u.2.1.map (am_v ad))) := by
  have := k ad H1 locs1 (fun _ _ => rfl) r
  rw [h1, h2, Nat.sub_self, Nat.sub_self, Nat.add_zero, Nat.add_zero] at this
  exact this
theorem am_adn {n q : Nat} (hn : n < 1000000000) : ∀ k, k < n ∨ 1000000000 ≤ k → am_up ad n q k = ad k := fun k hk => am_up_n (am_lt hk hn)
theorem am_st_ext {n q : Nat} (hn : n < 1000000000) {st : List Value} (hs : ∀ v ∈ st, am_cv n v) : st.map (am_v (am_up ad n q)) = st.map (am_v ad) := List.map_congr_left fun v hv => am_v_ext hn (hs v hv)
theorem am_K1.fresh {sl : Nat} {cl : am_C} {r : List Value} (hn : h.1 < 1000000000) (hs : ∀ v ∈ r, am_cv h.1 v) {pc' : Nat} (k : am_K1 p l e R s m args below meth c cells slots Q D cy A ad h ls (pc', .ref h.1 :: r, am_new h sl cl)) (q : Nat) (H1 : Heap) (locs1 : List Loc) (rr : am_R D cy A (am_up ad h.1 q) (am_new h sl cl) s H1 locs1) : W p l e R s m args below meth c H1 locs1 (cells + 1) (slots + sl) Q (F0 m pc' ls (.ref q :: r.map (am_v ad))) := by
  have w := k (am_up ad h.1 q) H1 locs1 (am_adn hn) rr
  have e1 : (am_new h sl cl).2.1 - h.2.1 = 1 := by show h.2.1 + 1 - h.2.1 = 1; omega
  have e2 : (am_new h sl cl).2.2.1 - h.2.2.1 = sl := by show h.2.2.1 + sl - h.2.2.1 = sl; omega
  simp only [e1, e2, List.map_cons] at w
  rw [am_st_ext hn hs] at w
  have e3 : am_v (am_up ad h.1 q) (.ref h.1) = .ref q := by simp [am_v, am_up_s]
  rw [e3] at w
  exact w
set_option maxHeartbeats 4000000 in
theorem am_s1_ok {ini : Bool} (X : am_X cc (am_cn own) p s m args c) (hown : own < 17) (hini : ini = true → meth.name = "<init>") (hd : decode cc pc = .ok (i, len)) (hlen : am_len i = 0 ∨ len = am_len i) (hs : am_s1 own ini i pc st h = some u) (r : am_R D cy A ad h s H locs) (hao : va_AO "ArchiveShelf$Archive" s ∧ va_AO "ArchiveShelf$Member" s) (hcv : ∀ v ∈ st, am_cv h.1 v) (hrc : cells + (u.2.2.2.1 - h.2.1) ≤ R.cells) (hrs : slots + (u.2.2.2.2.1 - h.2.2.1) ≤ R.slots)
    (k : am_K1 p l e R s m args below meth c cells slots Q D cy A ad h ls u) : W p l e R s m args below meth c H locs cells slots Q (F0 m pc ls (st.map (am_v ad))) := by
  unfold am_s1 at hs
  split at hs
  · -- getfield
    replace hlen : len = 3 := by rcases hlen with q | q; exact absurd q (by simp [am_len]); simpa [am_len] using q
    subst hlen
    split at hs
    · rename_i idx o r0
      obtain ⟨ho, hs⟩ := am_cg hs
      split at hs
      · rename_i w hf
        cases hs
        have hok := am_all am_ft_all hown (am_find_mem hf)
        unfold am_ftok at hok
        split at hok
        · rename_i C T N hc
          simp only [Bool.and_eq_true] at hok
          obtain ⟨⟨hk, hl⟩, hp⟩ := hok
          have ho : o < h.1 := Nat.blt_eq.mp ho
          have hk : w.1 < N := Nat.blt_eq.mp hk
          have kk := k.same r rfl rfl
          split at hl
          · exact am_r_get X r ho rfl hc hk (am_gd_of hl rfl) (Or.inl rfl) hd kk
          · have hl := am_b2 hl
            exact am_r_get X r ho rfl hc hk (am_gd_of hl.1 rfl) (Or.inr (am_gd_of hl.2 rfl)) hd kk
          · exact am_r_getN X r ho rfl hc hk (am_nw_of hl rfl) rfl hd kk
        · cases hok
      · cases hs
    · cases hs
  · -- putfield
    replace hlen : len = 3 := by rcases hlen with q | q; exact absurd q (by simp [am_len]); simpa [am_len] using q
    subst hlen
    split at hs
    · rename_i idx v o r0
      obtain ⟨ho, hs⟩ := am_cg hs
      split at hs
      · rename_i w hf
        obtain ⟨hb, rfl⟩ := am_cf hs
        obtain ⟨hpf, hfit⟩ := am_b2 hb
        have hok := am_all am_ft_all hown (am_find_mem hf)
        have hv : am_cv h.1 v := hcv v List.mem_cons_self
        have kk : ∀ (H1 : Heap) (locs1 : List Loc), am_R D cy A ad (am_put h o ((h.2.2.2 o).1, (h.2.2.2 o).2.1, am_up (h.2.2.2 o).2.2 w.1 v)) s H1 locs1 → W p l e R s m args below meth c H1 locs1 cells slots Q (F0 m (pc + 3) ls (r0.map (am_v ad))) := fun H1 locs1 r1 => k.same r1 rfl rfl
        unfold am_ftok at hok
        split at hok
        · rename_i C T N hc
          simp only [Bool.and_eq_true] at hok
          obtain ⟨⟨hk, hl⟩, hp⟩ := hok
          have ho : o < h.1 := Nat.blt_eq.mp ho
          have hk : w.1 < N := Nat.blt_eq.mp hk
          have hfin : (T w.1).2.2.2 = false ∨ (meth.name = "<init>" ∧ (T w.1).1 = am_cn own ∧ Nat.blt w.2.1 2 = true) := by
            simp only [Bool.or_eq_true, Bool.and_eq_true] at hpf
            rcases hpf with e1 | ⟨e1, e2⟩
            · have e1 := Nat.eq_of_beq_eq_true e1
              rw [e1] at hp
              exact Or.inl (by simpa using hp)
            · have e1 := Nat.eq_of_beq_eq_true e1
              rw [e1] at hp
              have hp := am_b2 hp
              exact Or.inr ⟨hini e2, of_decide_eq_true hp.1, hp.2⟩
          have hfin2 : (T w.1).2.2.2 = false ∨ (meth.name = "<init>" ∧ (T w.1).1 = am_cn own) := hfin.imp id (fun q => ⟨q.1, q.2.1⟩)
          split at hl
          · exact am_r_put X r ho rfl hc hk (am_gd_of hl rfl) (Or.inl rfl) hfin2 hfit hv hd kk
          · have hl := am_b2 hl
            exact am_r_put X r ho rfl hc hk (am_gd_of hl.1 rfl) (Or.inr (am_gd_of hl.2 rfl)) hfin2 hfit hv hd kk
          · refine am_r_putN X r ho rfl hc hk (am_nw_of hl rfl) rfl ?_ hfit hv hd kk
            rcases hfin with q | q
            · exact q
            · have h2 : w.2.1 < 2 := Nat.blt_eq.mp q.2.2
              have h3 : w.2.1 = 0 ∨ w.2.1 = 1 := by omega
              rcases h3 with h3 | h3
              · exact absurd h3 (by assumption)
              · exact absurd h3 (by assumption)
        · cases hok
      · cases hs
    · cases hs
  · -- iaload
    replace hlen : len = 1 := by rcases hlen with q | q; exact absurd q (by simp [am_len]); simpa [am_len] using q
    subst hlen
    split at hs
    · obtain ⟨ho, hs⟩ := am_cg hs
      obtain ⟨hb, rfl⟩ := am_cf hs
      obtain ⟨hk, hi⟩ := am_b2 hb
      exact am_r_iald X r (Nat.blt_eq.mp ho) (Nat.eq_of_beq_eq_true hk) (am_in_ok2 hi) hd (k.same r rfl rfl)
    · cases hs
  · -- iastore
    replace hlen : len = 1 := by rcases hlen with q | q; exact absurd q (by simp [am_len]); simpa [am_len] using q
    subst hlen
    split at hs
    · obtain ⟨hb, rfl⟩ := am_cf hs
      obtain ⟨hb, hi⟩ := am_b2 hb
      obtain ⟨ho, hk⟩ := am_b2 hb
      exact am_r_iast X r (Nat.blt_eq.mp ho) (Nat.eq_of_beq_eq_true hk) (am_in_ok2 hi) hd (fun H1 locs1 r1 => k.same r1 rfl rfl)
    · cases hs
  · -- laload
    replace hlen : len = 1 := by rcases hlen with q | q; exact absurd q (by simp [am_len]); simpa [am_len] using q
    subst hlen
    split at hs
    · obtain ⟨hb, rfl⟩ := am_cf hs
      obtain ⟨hb, hi⟩ := am_b2 hb
      obtain ⟨ho, hk⟩ := am_b2 hb
      exact am_r_lald X r (Nat.blt_eq.mp ho) (Nat.eq_of_beq_eq_true hk) (am_in_ok2 hi) hd (k.same r rfl rfl)
    · cases hs
  · -- lastore
    replace hlen : len = 1 := by rcases hlen with q | q; exact absurd q (by simp [am_len]); simpa [am_len] using q
    subst hlen
    split at hs
    · obtain ⟨hb, rfl⟩ := am_cf hs
      obtain ⟨hb, hi⟩ := am_b2 hb
      obtain ⟨ho, hk⟩ := am_b2 hb
      exact am_r_last X r (Nat.blt_eq.mp ho) (Nat.eq_of_beq_eq_true hk) (am_in_ok2 hi) hd (fun H1 locs1 r1 => k.same r1 rfl rfl)
    · cases hs
  · -- baload
    replace hlen : len = 1 := by rcases hlen with q | q; exact absurd q (by simp [am_len]); simpa [am_len] using q
    subst hlen
    split at hs
    · obtain ⟨hb, rfl⟩ := am_cf hs
      obtain ⟨hb, hi⟩ := am_b2 hb
      obtain ⟨ho, hk⟩ := am_b2 hb
      exact am_r_zald X r (Nat.blt_eq.mp ho) (Nat.eq_of_beq_eq_true hk) (am_in_ok2 hi) hd (k.same r rfl rfl)
    · cases hs
  · -- bastore
    replace hlen : len = 1 := by rcases hlen with q | q; exact absurd q (by simp [am_len]); simpa [am_len] using q
    subst hlen
    split at hs
    · obtain ⟨hb, rfl⟩ := am_cf hs
      obtain ⟨hb, hi⟩ := am_b2 hb
      obtain ⟨ho, hk⟩ := am_b2 hb
      exact am_r_zast X r (Nat.blt_eq.mp ho) (Nat.eq_of_beq_eq_true hk) (am_in_ok2 hi) hd (fun H1 locs1 r1 => k.same r1 rfl rfl)
    · cases hs
  · -- aaload
    replace hlen : len = 1 := by rcases hlen with q | q; exact absurd q (by simp [am_len]); simpa [am_len] using q
    subst hlen
    split at hs
    · obtain ⟨hb, rfl⟩ := am_cf hs
      obtain ⟨hb, hi⟩ := am_b2 hb
      obtain ⟨ho, hk⟩ := am_b2 hb
      simp only [Bool.or_eq_true] at hk
      exact am_r_aald X r (Nat.blt_eq.mp ho) (hk.imp Nat.eq_of_beq_eq_true Nat.eq_of_beq_eq_true) (am_in_ok2 hi) hd (k.same r rfl rfl)
    · cases hs
  · -- aastore
    replace hlen : len = 1 := by rcases hlen with q | q; exact absurd q (by simp [am_len]); simpa [am_len] using q
    subst hlen
    split at hs
    · obtain ⟨hb, rfl⟩ := am_cf hs
      obtain ⟨hb, hk⟩ := am_b2 hb
      obtain ⟨hb, hi⟩ := am_b2 hb
      obtain ⟨ho, hq⟩ := am_b2 hb
      simp only [Bool.or_eq_true, Bool.and_eq_true] at hk
      rcases hk with ⟨k1, k2⟩ | ⟨k1, (k2 | k2) | k2⟩
      · exact am_r_aastM X r (Nat.blt_eq.mp ho) (Nat.eq_of_beq_eq_true k1) (Nat.blt_eq.mp hq) (Nat.eq_of_beq_eq_true k2) (am_in_ok2 hi) hd (fun H1 locs1 r1 => k.same r1 rfl rfl)
      · exact am_r_aastA X r (Nat.blt_eq.mp ho) (Nat.eq_of_beq_eq_true k1) (Nat.blt_eq.mp hq) (Nat.eq_of_beq_eq_true k2) (C := RX1) (T := TX1) (N := 3) rfl (List.mem_filter.mpr ⟨am_ca0.1, rfl⟩) (am_in_ok2 hi) hd (fun H1 locs1 r1 => k.same r1 rfl rfl)
      · exact am_r_aastA X r (Nat.blt_eq.mp ho) (Nat.eq_of_beq_eq_true k1) (Nat.blt_eq.mp hq) (Nat.eq_of_beq_eq_true k2) (C := RX4) (T := TX4) (N := 3) rfl (List.mem_filter.mpr ⟨am_ca0.2.1, rfl⟩) (am_in_ok2 hi) hd (fun H1 locs1 r1 => k.same r1 rfl rfl)
      · exact am_r_aastA X r (Nat.blt_eq.mp ho) (Nat.eq_of_beq_eq_true k1) (Nat.blt_eq.mp hq) (Nat.eq_of_beq_eq_true k2) (C := RX5) (T := TX5) (N := 16) rfl (List.mem_filter.mpr ⟨am_ca0.2.2, rfl⟩) (am_in_ok2 hi) hd (fun H1 locs1 r1 => k.same r1 rfl rfl)
    · cases hs
  · -- arraylength
    replace hlen : len = 1 := by rcases hlen with q | q; exact absurd q (by simp [am_len]); simpa [am_len] using q
    subst hlen
    split at hs
    · obtain ⟨hb, rfl⟩ := am_cf hs
      obtain ⟨ho, hk⟩ := am_b2 hb
      refine am_r_alen X r (Nat.blt_eq.mp ho) ?_ hd (k.same r rfl rfl)
      unfold am_isA at hk
      simp only [Bool.or_eq_true] at hk
      rcases hk with (((q | q) | q) | q) | q
      · exact Or.inl (Nat.eq_of_beq_eq_true q)
      · exact Or.inr (Or.inl (Nat.eq_of_beq_eq_true q))
      · exact Or.inr (Or.inr (Or.inl (Nat.eq_of_beq_eq_true q)))
      · exact Or.inr (Or.inr (Or.inr (Or.inl (Nat.eq_of_beq_eq_true q))))
      · exact Or.inr (Or.inr (Or.inr (Or.inr (Nat.eq_of_beq_eq_true q))))
    · cases hs
  · -- new
    replace hlen : len = 3 := by rcases hlen with q | q; exact absurd q (by simp [am_len]); simpa [am_len] using q
    subst hlen
    split at hs
    · rename_i ci hf
      obtain ⟨hb, rfl⟩ := am_cf hs
      have hn : h.1 < 1000000000 := Nat.blt_eq.mp hb
      have hok := am_all am_nt_all hown (am_fnd_mem hf)
      unfold am_ntok at hok
      split at hok
      · rename_i C T N hc
        have hc : am_cl[ci]? = some (C, T, N) := hc
        obtain ⟨hok, h3⟩ := am_b2 hok
        obtain ⟨h1, h2⟩ := am_b2 hok
        have e1 : (am_new h (am_nf ci) (ci, 0, fun j => defaultValue (am_ty0 ci j))).2.1 - h.2.1 = 1 := by show h.2.1 + 1 - h.2.1 = 1; omega
        have e2 : (am_new h (am_nf ci) (ci, 0, fun j => defaultValue (am_ty0 ci j))).2.2.1 - h.2.2.1 = am_nf ci := by show h.2.2.1 + am_nf ci - h.2.2.1 = am_nf ci; omega
        simp only [e1, e2] at hrc hrs
        rw [am_nf_eq hc] at hrs
        refine am_r_new X r hn hc (am_gd_of h1 rfl) (am_gd_of h2 rfl) (am_gd_of h3 rfl) hrc hrs hd (fun q H1 rr => ?_)
        have w := am_K1.fresh hn hcv k q H1 locs (by rw [am_nf_eq hc]; exact rr)
        rw [am_nf_eq hc] at w
        exact w
      · cases hok
    · cases hs
  · -- newarray
    replace hlen : len = 2 := by rcases hlen with q | q; exact absurd q (by simp [am_len]); simpa [am_len] using q
    subst hlen
    split at hs
    · rename_i ty st0 nn n r0 w hat
      obtain ⟨hb, rfl⟩ := am_cf hs
      obtain ⟨hb, h3⟩ := am_b2 hb
      obtain ⟨h1, h2⟩ := am_b2 hb
      have hn : h.1 < 1000000000 := Nat.blt_eq.mp h1
      have e1 : (am_new h n.toNatClampNeg (w.2.1, n.toNatClampNeg, fun _ => w.2.2)).2.1 - h.2.1 = 1 := by show h.2.1 + 1 - h.2.1 = 1; omega
      have e2 : (am_new h n.toNatClampNeg (w.2.1, n.toNatClampNeg, fun _ => w.2.2)).2.2.1 - h.2.2.1 = n.toNatClampNeg := by show h.2.2.1 + n.toNatClampNeg - h.2.2.1 = n.toNatClampNeg; omega
      simp only [e1, e2] at hrc hrs
      have harr : Cond.arrayClass (newarray.typeOf ty) ∈ am_gd := by
        cases ty <;> simp only [am_at, reduceCtorEq] at hat
        · exact am_gd_in am_ac_z rfl
        · exact am_gd_in am_ac_i rfl
        · exact am_gd_in am_ac_l rfl
      exact am_r_newa X r hn hat harr (by simpa using h2) (Nat.le_of_ble_eq_true h3) hrc hrs hd (fun q H1 rr => am_K1.fresh hn (fun v hv => hcv v (List.mem_cons_of_mem _ hv)) k q H1 locs rr)
    · cases hs
  · -- anewarray
    replace hlen : len = 3 := by rcases hlen with q | q; exact absurd q (by simp [am_len]); simpa [am_len] using q
    subst hlen
    split at hs
    · rename_i idx st0 nn n r0 kd hf
      obtain ⟨hb, rfl⟩ := am_cf hs
      obtain ⟨hb, h3⟩ := am_b2 hb
      obtain ⟨h1, h2⟩ := am_b2 hb
      have hn : h.1 < 1000000000 := Nat.blt_eq.mp h1
      have e1 : (am_new h n.toNatClampNeg (kd, n.toNatClampNeg, fun _ => .null)).2.1 - h.2.1 = 1 := by show h.2.1 + 1 - h.2.1 = 1; omega
      have e2 : (am_new h n.toNatClampNeg (kd, n.toNatClampNeg, fun _ => .null)).2.2.1 - h.2.2.1 = n.toNatClampNeg := by show h.2.2.1 + n.toNatClampNeg - h.2.2.1 = n.toNatClampNeg; omega
      simp only [e1, e2] at hrc hrs
      have hok := am_all am_qt_all hown (am_fnd_mem hf)
      unfold am_qtok at hok
      obtain ⟨hq1, hq2⟩ := am_b2 hok
      simp only [Bool.or_eq_true] at hq1
      rcases hq1 with hq1 | hq1
      · have hq1 : kd = 23 := Nat.eq_of_beq_eq_true hq1
        subst hq1
        exact am_r_newq X r hn (C := "ArchiveShelf$Archive") (t := 3) rfl (am_gd_of hq2 rfl) hao.1 (by simpa using h2) (Nat.le_of_ble_eq_true h3) hrc hrs hd (fun q H1 rr => am_K1.fresh hn (fun v hv => hcv v (List.mem_cons_of_mem _ hv)) k q H1 locs rr)
      · have hq1 : kd = 24 := Nat.eq_of_beq_eq_true hq1
        subst hq1
        exact am_r_newq X r hn (C := "ArchiveShelf$Member") (t := 4) rfl (am_gd_of hq2 rfl) hao.2 (by simpa using h2) (Nat.le_of_ble_eq_true h3) hrc hrs hd (fun q H1 rr => am_K1.fresh hn (fun v hv => hcv v (List.mem_cons_of_mem _ hv)) k q H1 locs rr)
    · cases hs
  · -- ldc
    replace hlen : len = 2 := by rcases hlen with q | q; exact absurd q (by simp [am_len]); simpa [am_len] using q
    subst hlen
    split at hs
    · rename_i v hf
      cases hs
      exact lv_ldc X.1 X.2.1 X.2.2.1 (X.2.2.2.1 _ (am_gd_of (am_all am_ct_all hown (am_fnd_mem hf)) rfl)) hd (k.same r rfl rfl)
    · cases hs
  · -- ldc2_w
    replace hlen : len = 3 := by rcases hlen with q | q; exact absurd q (by simp [am_len]); simpa [am_len] using q
    subst hlen
    split at hs
    · rename_i v hf
      cases hs
      exact lv_ldc2 X.1 X.2.1 X.2.2.1 (X.2.2.2.1 _ (am_gd_of (am_all am_lt_all hown (am_fnd_mem hf)) rfl)) hd (k.same r rfl rfl)
    · cases hs
  · -- ldc_w
    replace hlen : len = 3 := by rcases hlen with q | q; exact absurd q (by simp [am_len]); simpa [am_len] using q
    subst hlen
    split at hs
    · rename_i v hf
      cases hs
      exact lv_ldcw X.1 X.2.1 X.2.2.1 (X.2.2.2.1 _ (am_gd_of (am_all am_ct_all hown (am_fnd_mem hf)) rfl)) hd (k.same r rfl rfl)
    · cases hs
  · cases hs
end AM1
end
