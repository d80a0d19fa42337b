section
-- ===== PART A: goes FIRST, ahead of the names: the tables' words, and 'selects' of the private methods out of them =====
/-- a private method of a class that the tables say can be made, by its rows of tables_1 -/
def lw_okq (q : MethodName × Nat) : Prop := (q.1.cls ≠ "java/lang/invoke/MethodHandle" ∧ q.1.cls ≠ "java/lang/invoke/VarHandle") ∧ Cond.instantiable q.1.cls q.2 ∈ tables_1 ∧ Cond.privateMethod q.1 ∈ tables_1 ∧ Cond.instanceMethod q.1 ∈ tables_1
theorem lw_p0 : lw_okq (⟨"SongSquares$Reader", "skipBlanks", "()V"⟩, 5) := ⟨⟨by decide +kernel, by decide +kernel⟩, List.mem_of_getElem? (i := 153) (by decide +kernel), List.mem_of_getElem? (i := 364) (by decide +kernel), List.mem_of_getElem? (i := 365) (by decide +kernel)⟩
theorem lw_p1 : lw_okq (⟨"SongSquares$Reader", "letterHere", "()I"⟩, 5) := ⟨⟨by decide +kernel, by decide +kernel⟩, List.mem_of_getElem? (i := 153) (by decide +kernel), List.mem_of_getElem? (i := 368) (by decide +kernel), List.mem_of_getElem? (i := 369) (by decide +kernel)⟩
theorem lw_p2 : lw_okq (⟨"SongSquares$Reader", "readClause", "(LSongSquares$Register;)V"⟩, 5) := ⟨⟨by decide +kernel, by decide +kernel⟩, List.mem_of_getElem? (i := 153) (by decide +kernel), List.mem_of_getElem? (i := 372) (by decide +kernel), List.mem_of_getElem? (i := 373) (by decide +kernel)⟩
theorem lw_p3 : lw_okq (⟨"SongSquares$Reader", "fail", "(II)V"⟩, 5) := ⟨⟨by decide +kernel, by decide +kernel⟩, List.mem_of_getElem? (i := 153) (by decide +kernel), List.mem_of_getElem? (i := 380) (by decide +kernel), List.mem_of_getElem? (i := 381) (by decide +kernel)⟩
theorem lw_p4 : lw_okq (⟨"SongSquares$Reader", "readNumbers", "(ILSongSquares$Register;)V"⟩, 5) := ⟨⟨by decide +kernel, by decide +kernel⟩, List.mem_of_getElem? (i := 153) (by decide +kernel), List.mem_of_getElem? (i := 384) (by decide +kernel), List.mem_of_getElem? (i := 385) (by decide +kernel)⟩
theorem lw_p5 : lw_okq (⟨"SongSquares$Reader", "readNumber", "(II)I"⟩, 5) := ⟨⟨by decide +kernel, by decide +kernel⟩, List.mem_of_getElem? (i := 153) (by decide +kernel), List.mem_of_getElem? (i := 388) (by decide +kernel), List.mem_of_getElem? (i := 389) (by decide +kernel)⟩
theorem lw_p6 : lw_okq (⟨"SongSquares$Reader", "readEnd", "()V"⟩, 5) := ⟨⟨by decide +kernel, by decide +kernel⟩, List.mem_of_getElem? (i := 153) (by decide +kernel), List.mem_of_getElem? (i := 407) (by decide +kernel), List.mem_of_getElem? (i := 408) (by decide +kernel)⟩
theorem lw_p7 : lw_okq (⟨"SongSquares", "fewest", "()I"⟩, 12) := ⟨⟨by decide +kernel, by decide +kernel⟩, List.mem_of_getElem? (i := 17) (by decide +kernel), List.mem_of_getElem? (i := 475) (by decide +kernel), List.mem_of_getElem? (i := 476) (by decide +kernel)⟩
theorem lw_p8 : lw_okq (⟨"SongSquares", "toldOfChoirs", "(I)I"⟩, 12) := ⟨⟨by decide +kernel, by decide +kernel⟩, List.mem_of_getElem? (i := 17) (by decide +kernel), List.mem_of_getElem? (i := 498) (by decide +kernel), List.mem_of_getElem? (i := 499) (by decide +kernel)⟩
theorem lw_p9 : lw_okq (⟨"SongSquares$Choirs", "add", "(I)V"⟩, 3) := ⟨⟨by decide +kernel, by decide +kernel⟩, List.mem_of_getElem? (i := 226) (by decide +kernel), List.mem_of_getElem? (i := 516) (by decide +kernel), List.mem_of_getElem? (i := 517) (by decide +kernel)⟩
theorem lw_p10 : lw_okq (⟨"SongSquares", "refusalOfVerses", "(I)I"⟩, 12) := ⟨⟨by decide +kernel, by decide +kernel⟩, List.mem_of_getElem? (i := 17) (by decide +kernel), List.mem_of_getElem? (i := 555) (by decide +kernel), List.mem_of_getElem? (i := 556) (by decide +kernel)⟩
theorem lw_p11 : lw_okq (⟨"SongSquares$Hall", "takePence", "(II)V"⟩, 9) := ⟨⟨by decide +kernel, by decide +kernel⟩, List.mem_of_getElem? (i := 95) (by decide +kernel), List.mem_of_getElem? (i := 576) (by decide +kernel), List.mem_of_getElem? (i := 577) (by decide +kernel)⟩
theorem lw_p12 : lw_okq (⟨"SongSquares", "stirByDraws", "()V"⟩, 12) := ⟨⟨by decide +kernel, by decide +kernel⟩, List.mem_of_getElem? (i := 17) (by decide +kernel), List.mem_of_getElem? (i := 639) (by decide +kernel), List.mem_of_getElem? (i := 640) (by decide +kernel)⟩
theorem lw_p13 : lw_okq (⟨"SongSquares", "sendByDraws", "()V"⟩, 12) := ⟨⟨by decide +kernel, by decide +kernel⟩, List.mem_of_getElem? (i := 17) (by decide +kernel), List.mem_of_getElem? (i := 651) (by decide +kernel), List.mem_of_getElem? (i := 652) (by decide +kernel)⟩
theorem lw_p14 : lw_okq (⟨"SongSquares$Hall", "canPay", "(II)Z"⟩, 9) := ⟨⟨by decide +kernel, by decide +kernel⟩, List.mem_of_getElem? (i := 95) (by decide +kernel), List.mem_of_getElem? (i := 691) (by decide +kernel), List.mem_of_getElem? (i := 692) (by decide +kernel)⟩
theorem lw_p15 : lw_okq (⟨"SongSquares$Sharing", "fewestBehind", "(II)I"⟩, 4) := ⟨⟨by decide +kernel, by decide +kernel⟩, List.mem_of_getElem? (i := 244) (by decide +kernel), List.mem_of_getElem? (i := 708) (by decide +kernel), List.mem_of_getElem? (i := 709) (by decide +kernel)⟩
def lw_privs_1 : List (MethodName × Nat) := [(⟨"SongSquares$Reader", "skipBlanks", "()V"⟩, 5), (⟨"SongSquares$Reader", "letterHere", "()I"⟩, 5), (⟨"SongSquares$Reader", "readClause", "(LSongSquares$Register;)V"⟩, 5), (⟨"SongSquares$Reader", "fail", "(II)V"⟩, 5), (⟨"SongSquares$Reader", "readNumbers", "(ILSongSquares$Register;)V"⟩, 5), (⟨"SongSquares$Reader", "readNumber", "(II)I"⟩, 5), (⟨"SongSquares$Reader", "readEnd", "()V"⟩, 5), (⟨"SongSquares", "fewest", "()I"⟩, 12), (⟨"SongSquares", "toldOfChoirs", "(I)I"⟩, 12), (⟨"SongSquares$Choirs", "add", "(I)V"⟩, 3), (⟨"SongSquares", "refusalOfVerses", "(I)I"⟩, 12), (⟨"SongSquares$Hall", "takePence", "(II)V"⟩, 9), (⟨"SongSquares", "stirByDraws", "()V"⟩, 12), (⟨"SongSquares", "sendByDraws", "()V"⟩, 12), (⟨"SongSquares$Hall", "canPay", "(II)Z"⟩, 9), (⟨"SongSquares$Sharing", "fewestBehind", "(II)I"⟩, 4)]
theorem lw_r1 : ∀ q ∈ lw_privs_1, lw_okq q := List.forall_mem_cons.mpr ⟨lw_p0, List.forall_mem_cons.mpr ⟨lw_p1, List.forall_mem_cons.mpr ⟨lw_p2, List.forall_mem_cons.mpr ⟨lw_p3, List.forall_mem_cons.mpr ⟨lw_p4, List.forall_mem_cons.mpr ⟨lw_p5, List.forall_mem_cons.mpr ⟨lw_p6, List.forall_mem_cons.mpr ⟨lw_p7, List.forall_mem_cons.mpr ⟨lw_p8, List.forall_mem_cons.mpr ⟨lw_p9, List.forall_mem_cons.mpr ⟨lw_p10, List.forall_mem_cons.mpr ⟨lw_p11, List.forall_mem_cons.mpr ⟨lw_p12, List.forall_mem_cons.mpr ⟨lw_p13, List.forall_mem_cons.mpr ⟨lw_p14, List.forall_mem_cons.mpr ⟨lw_p15, fun _ h => absurd h List.not_mem_nil⟩⟩⟩⟩⟩⟩⟩⟩⟩⟩⟩⟩⟩⟩⟩⟩
theorem lw_p16 : lw_okq (⟨"SongSquares$Sharing", "bestFor", "(II)I"⟩, 4) := ⟨⟨by decide +kernel, by decide +kernel⟩, List.mem_of_getElem? (i := 244) (by decide +kernel), List.mem_of_getElem? (i := 713) (by decide +kernel), List.mem_of_getElem? (i := 714) (by decide +kernel)⟩
theorem lw_p17 : lw_okq (⟨"SongSquares$Sharing", "costOf", "(III)I"⟩, 4) := ⟨⟨by decide +kernel, by decide +kernel⟩, List.mem_of_getElem? (i := 244) (by decide +kernel), List.mem_of_getElem? (i := 718) (by decide +kernel), List.mem_of_getElem? (i := 719) (by decide +kernel)⟩
theorem lw_p18 : lw_okq (⟨"SongSquares$Grouping", "leastFrom", "(ILSongSquares$Hall;)I"⟩, 6) := ⟨⟨by decide +kernel, by decide +kernel⟩, List.mem_of_getElem? (i := 267) (by decide +kernel), List.mem_of_getElem? (i := 732) (by decide +kernel), List.mem_of_getElem? (i := 733) (by decide +kernel)⟩
theorem lw_p19 : lw_okq (⟨"SongSquares$Grouping", "bestPlace", "(ILSongSquares$Hall;)I"⟩, 6) := ⟨⟨by decide +kernel, by decide +kernel⟩, List.mem_of_getElem? (i := 267) (by decide +kernel), List.mem_of_getElem? (i := 740) (by decide +kernel), List.mem_of_getElem? (i := 741) (by decide +kernel)⟩
theorem lw_p20 : lw_okq (⟨"SongSquares$Grouping", "costOf", "(IILSongSquares$Hall;)I"⟩, 6) := ⟨⟨by decide +kernel, by decide +kernel⟩, List.mem_of_getElem? (i := 267) (by decide +kernel), List.mem_of_getElem? (i := 744) (by decide +kernel), List.mem_of_getElem? (i := 745) (by decide +kernel)⟩
theorem lw_p21 : lw_okq (⟨"SongSquaresModel", "here", "()I"⟩, 40) := ⟨⟨by decide +kernel, by decide +kernel⟩, List.mem_of_getElem? (i := 805) (by decide +kernel), List.mem_of_getElem? (i := 947) (by decide +kernel), List.mem_of_getElem? (i := 948) (by decide +kernel)⟩
theorem lw_p22 : lw_okq (⟨"SongSquaresModel", "takeClause", "()I"⟩, 40) := ⟨⟨by decide +kernel, by decide +kernel⟩, List.mem_of_getElem? (i := 805) (by decide +kernel), List.mem_of_getElem? (i := 951) (by decide +kernel), List.mem_of_getElem? (i := 952) (by decide +kernel)⟩
theorem lw_p23 : lw_okq (⟨"SongSquaresModel", "fails", "(II)I"⟩, 40) := ⟨⟨by decide +kernel, by decide +kernel⟩, List.mem_of_getElem? (i := 805) (by decide +kernel), List.mem_of_getElem? (i := 955) (by decide +kernel), List.mem_of_getElem? (i := 956) (by decide +kernel)⟩
theorem lw_p24 : lw_okq (⟨"SongSquaresModel", "takeDuchy", "()I"⟩, 40) := ⟨⟨by decide +kernel, by decide +kernel⟩, List.mem_of_getElem? (i := 805) (by decide +kernel), List.mem_of_getElem? (i := 959) (by decide +kernel), List.mem_of_getElem? (i := 960) (by decide +kernel)⟩
theorem lw_p25 : lw_okq (⟨"SongSquaresModel", "takeNumber", "(II)I"⟩, 40) := ⟨⟨by decide +kernel, by decide +kernel⟩, List.mem_of_getElem? (i := 805) (by decide +kernel), List.mem_of_getElem? (i := 963) (by decide +kernel), List.mem_of_getElem? (i := 964) (by decide +kernel)⟩
theorem lw_p26 : lw_okq (⟨"SongSquaresModel", "takeSinger", "()I"⟩, 40) := ⟨⟨by decide +kernel, by decide +kernel⟩, List.mem_of_getElem? (i := 805) (by decide +kernel), List.mem_of_getElem? (i := 969) (by decide +kernel), List.mem_of_getElem? (i := 970) (by decide +kernel)⟩
theorem lw_p27 : lw_okq (⟨"SongSquaresModel", "into", "([IIII)I"⟩, 40) := ⟨⟨by decide +kernel, by decide +kernel⟩, List.mem_of_getElem? (i := 805) (by decide +kernel), List.mem_of_getElem? (i := 973) (by decide +kernel), List.mem_of_getElem? (i := 974) (by decide +kernel)⟩
theorem lw_p28 : lw_okq (⟨"SongSquaresModel", "takeInspector", "()I"⟩, 40) := ⟨⟨by decide +kernel, by decide +kernel⟩, List.mem_of_getElem? (i := 805) (by decide +kernel), List.mem_of_getElem? (i := 977) (by decide +kernel), List.mem_of_getElem? (i := 978) (by decide +kernel)⟩
theorem lw_p29 : lw_okq (⟨"SongSquaresModel", "takeRead", "()V"⟩, 40) := ⟨⟨by decide +kernel, by decide +kernel⟩, List.mem_of_getElem? (i := 805) (by decide +kernel), List.mem_of_getElem? (i := 981) (by decide +kernel), List.mem_of_getElem? (i := 982) (by decide +kernel)⟩
theorem lw_p30 : lw_okq (⟨"SongSquaresModel", "singingOnes", "()I"⟩, 40) := ⟨⟨by decide +kernel, by decide +kernel⟩, List.mem_of_getElem? (i := 805) (by decide +kernel), List.mem_of_getElem? (i := 998) (by decide +kernel), List.mem_of_getElem? (i := 999) (by decide +kernel)⟩
theorem lw_p31 : lw_okq (⟨"SongSquaresModel", "sings", "(I)Z"⟩, 40) := ⟨⟨by decide +kernel, by decide +kernel⟩, List.mem_of_getElem? (i := 805) (by decide +kernel), List.mem_of_getElem? (i := 1002) (by decide +kernel), List.mem_of_getElem? (i := 1003) (by decide +kernel)⟩
def lw_privs_2 : List (MethodName × Nat) := [(⟨"SongSquares$Sharing", "bestFor", "(II)I"⟩, 4), (⟨"SongSquares$Sharing", "costOf", "(III)I"⟩, 4), (⟨"SongSquares$Grouping", "leastFrom", "(ILSongSquares$Hall;)I"⟩, 6), (⟨"SongSquares$Grouping", "bestPlace", "(ILSongSquares$Hall;)I"⟩, 6), (⟨"SongSquares$Grouping", "costOf", "(IILSongSquares$Hall;)I"⟩, 6), (⟨"SongSquaresModel", "here", "()I"⟩, 40), (⟨"SongSquaresModel", "takeClause", "()I"⟩, 40), (⟨"SongSquaresModel", "fails", "(II)I"⟩, 40), (⟨"SongSquaresModel", "takeDuchy", "()I"⟩, 40), (⟨"SongSquaresModel", "takeNumber", "(II)I"⟩, 40), (⟨"SongSquaresModel", "takeSinger", "()I"⟩, 40), (⟨"SongSquaresModel", "into", "([IIII)I"⟩, 40), (⟨"SongSquaresModel", "takeInspector", "()I"⟩, 40), (⟨"SongSquaresModel", "takeRead", "()V"⟩, 40), (⟨"SongSquaresModel", "singingOnes", "()I"⟩, 40), (⟨"SongSquaresModel", "sings", "(I)Z"⟩, 40)]
theorem lw_r2 : ∀ q ∈ lw_privs_2, lw_okq q := List.forall_mem_cons.mpr ⟨lw_p16, List.forall_mem_cons.mpr ⟨lw_p17, List.forall_mem_cons.mpr ⟨lw_p18, List.forall_mem_cons.mpr ⟨lw_p19, List.forall_mem_cons.mpr ⟨lw_p20, List.forall_mem_cons.mpr ⟨lw_p21, List.forall_mem_cons.mpr ⟨lw_p22, List.forall_mem_cons.mpr ⟨lw_p23, List.forall_mem_cons.mpr ⟨lw_p24, List.forall_mem_cons.mpr ⟨lw_p25, List.forall_mem_cons.mpr ⟨lw_p26, List.forall_mem_cons.mpr ⟨lw_p27, List.forall_mem_cons.mpr ⟨lw_p28, List.forall_mem_cons.mpr ⟨lw_p29, List.forall_mem_cons.mpr ⟨lw_p30, List.forall_mem_cons.mpr ⟨lw_p31, fun _ h => absurd h List.not_mem_nil⟩⟩⟩⟩⟩⟩⟩⟩⟩⟩⟩⟩⟩⟩⟩⟩
theorem lw_p32 : lw_okq (⟨"SongSquaresModel", "owedByAll", "()I"⟩, 40) := ⟨⟨by decide +kernel, by decide +kernel⟩, List.mem_of_getElem? (i := 805) (by decide +kernel), List.mem_of_getElem? (i := 1006) (by decide +kernel), List.mem_of_getElem? (i := 1007) (by decide +kernel)⟩
theorem lw_p33 : lw_okq (⟨"SongSquaresModel", "owesOf", "(I)I"⟩, 40) := ⟨⟨by decide +kernel, by decide +kernel⟩, List.mem_of_getElem? (i := 805) (by decide +kernel), List.mem_of_getElem? (i := 1010) (by decide +kernel), List.mem_of_getElem? (i := 1011) (by decide +kernel)⟩
theorem lw_p34 : lw_okq (⟨"SongSquaresModel", "owesBy", "(IIII)I"⟩, 40) := ⟨⟨by decide +kernel, by decide +kernel⟩, List.mem_of_getElem? (i := 805) (by decide +kernel), List.mem_of_getElem? (i := 1014) (by decide +kernel), List.mem_of_getElem? (i := 1015) (by decide +kernel)⟩
theorem lw_p35 : lw_okq (⟨"SongSquaresModel", "inspectorsAt", "(I)I"⟩, 40) := ⟨⟨by decide +kernel, by decide +kernel⟩, List.mem_of_getElem? (i := 805) (by decide +kernel), List.mem_of_getElem? (i := 1018) (by decide +kernel), List.mem_of_getElem? (i := 1019) (by decide +kernel)⟩
theorem lw_p36 : lw_okq (⟨"SongSquaresModel", "deafPlaces", "()I"⟩, 40) := ⟨⟨by decide +kernel, by decide +kernel⟩, List.mem_of_getElem? (i := 805) (by decide +kernel), List.mem_of_getElem? (i := 1022) (by decide +kernel), List.mem_of_getElem? (i := 1023) (by decide +kernel)⟩
theorem lw_p37 : lw_okq (⟨"SongSquaresModel", "richest", "()I"⟩, 40) := ⟨⟨by decide +kernel, by decide +kernel⟩, List.mem_of_getElem? (i := 805) (by decide +kernel), List.mem_of_getElem? (i := 1026) (by decide +kernel), List.mem_of_getElem? (i := 1027) (by decide +kernel)⟩
theorem lw_p38 : lw_okq (⟨"SongSquaresModel", "fewest", "()I"⟩, 40) := ⟨⟨by decide +kernel, by decide +kernel⟩, List.mem_of_getElem? (i := 805) (by decide +kernel), List.mem_of_getElem? (i := 1030) (by decide +kernel), List.mem_of_getElem? (i := 1031) (by decide +kernel)⟩
theorem lw_p39 : lw_okq (⟨"SongSquaresModel", "choirs", "()I"⟩, 40) := ⟨⟨by decide +kernel, by decide +kernel⟩, List.mem_of_getElem? (i := 805) (by decide +kernel), List.mem_of_getElem? (i := 1040) (by decide +kernel), List.mem_of_getElem? (i := 1041) (by decide +kernel)⟩
theorem lw_p40 : lw_okq (⟨"SongSquaresModel", "choirsWith", "(I)I"⟩, 40) := ⟨⟨by decide +kernel, by decide +kernel⟩, List.mem_of_getElem? (i := 805) (by decide +kernel), List.mem_of_getElem? (i := 1044) (by decide +kernel), List.mem_of_getElem? (i := 1045) (by decide +kernel)⟩
theorem lw_p41 : lw_okq (⟨"SongSquaresModel", "couldBe", "(I)Z"⟩, 40) := ⟨⟨by decide +kernel, by decide +kernel⟩, List.mem_of_getElem? (i := 805) (by decide +kernel), List.mem_of_getElem? (i := 1048) (by decide +kernel), List.mem_of_getElem? (i := 1049) (by decide +kernel)⟩
theorem lw_p42 : lw_okq (⟨"SongSquaresModel", "owedBy", "(II)I"⟩, 40) := ⟨⟨by decide +kernel, by decide +kernel⟩, List.mem_of_getElem? (i := 805) (by decide +kernel), List.mem_of_getElem? (i := 1052) (by decide +kernel), List.mem_of_getElem? (i := 1053) (by decide +kernel)⟩
theorem lw_p43 : lw_okq (⟨"SongSquaresModel", "inEach", "()I"⟩, 40) := ⟨⟨by decide +kernel, by decide +kernel⟩, List.mem_of_getElem? (i := 805) (by decide +kernel), List.mem_of_getElem? (i := 1056) (by decide +kernel), List.mem_of_getElem? (i := 1057) (by decide +kernel)⟩
theorem lw_p44 : lw_okq (⟨"SongSquaresModel", "lip", "()I"⟩, 40) := ⟨⟨by decide +kernel, by decide +kernel⟩, List.mem_of_getElem? (i := 805) (by decide +kernel), List.mem_of_getElem? (i := 1060) (by decide +kernel), List.mem_of_getElem? (i := 1061) (by decide +kernel)⟩
theorem lw_p45 : lw_okq (⟨"SongSquaresModel", "isSinger", "(I)Z"⟩, 40) := ⟨⟨by decide +kernel, by decide +kernel⟩, List.mem_of_getElem? (i := 805) (by decide +kernel), List.mem_of_getElem? (i := 1068) (by decide +kernel), List.mem_of_getElem? (i := 1069) (by decide +kernel)⟩
theorem lw_p46 : lw_okq (⟨"SongSquaresModel", "isPlace", "(I)Z"⟩, 40) := ⟨⟨by decide +kernel, by decide +kernel⟩, List.mem_of_getElem? (i := 805) (by decide +kernel), List.mem_of_getElem? (i := 1077) (by decide +kernel), List.mem_of_getElem? (i := 1078) (by decide +kernel)⟩
theorem lw_p47 : lw_okq (⟨"SongSquaresModel", "whoIsIn", "(I)I"⟩, 40) := ⟨⟨by decide +kernel, by decide +kernel⟩, List.mem_of_getElem? (i := 805) (by decide +kernel), List.mem_of_getElem? (i := 1081) (by decide +kernel), List.mem_of_getElem? (i := 1082) (by decide +kernel)⟩
def lw_privs_3 : List (MethodName × Nat) := [(⟨"SongSquaresModel", "owedByAll", "()I"⟩, 40), (⟨"SongSquaresModel", "owesOf", "(I)I"⟩, 40), (⟨"SongSquaresModel", "owesBy", "(IIII)I"⟩, 40), (⟨"SongSquaresModel", "inspectorsAt", "(I)I"⟩, 40), (⟨"SongSquaresModel", "deafPlaces", "()I"⟩, 40), (⟨"SongSquaresModel", "richest", "()I"⟩, 40), (⟨"SongSquaresModel", "fewest", "()I"⟩, 40), (⟨"SongSquaresModel", "choirs", "()I"⟩, 40), (⟨"SongSquaresModel", "choirsWith", "(I)I"⟩, 40), (⟨"SongSquaresModel", "couldBe", "(I)Z"⟩, 40), (⟨"SongSquaresModel", "owedBy", "(II)I"⟩, 40), (⟨"SongSquaresModel", "inEach", "()I"⟩, 40), (⟨"SongSquaresModel", "lip", "()I"⟩, 40), (⟨"SongSquaresModel", "isSinger", "(I)Z"⟩, 40), (⟨"SongSquaresModel", "isPlace", "(I)Z"⟩, 40), (⟨"SongSquaresModel", "whoIsIn", "(I)I"⟩, 40)]
theorem lw_r3 : ∀ q ∈ lw_privs_3, lw_okq q := List.forall_mem_cons.mpr ⟨lw_p32, List.forall_mem_cons.mpr ⟨lw_p33, List.forall_mem_cons.mpr ⟨lw_p34, List.forall_mem_cons.mpr ⟨lw_p35, List.forall_mem_cons.mpr ⟨lw_p36, List.forall_mem_cons.mpr ⟨lw_p37, List.forall_mem_cons.mpr ⟨lw_p38, List.forall_mem_cons.mpr ⟨lw_p39, List.forall_mem_cons.mpr ⟨lw_p40, List.forall_mem_cons.mpr ⟨lw_p41, List.forall_mem_cons.mpr ⟨lw_p42, List.forall_mem_cons.mpr ⟨lw_p43, List.forall_mem_cons.mpr ⟨lw_p44, List.forall_mem_cons.mpr ⟨lw_p45, List.forall_mem_cons.mpr ⟨lw_p46, List.forall_mem_cons.mpr ⟨lw_p47, fun _ h => absurd h List.not_mem_nil⟩⟩⟩⟩⟩⟩⟩⟩⟩⟩⟩⟩⟩⟩⟩⟩
theorem lw_p48 : lw_okq (⟨"SongSquaresModel", "owedIn", "(I)I"⟩, 40) := ⟨⟨by decide +kernel, by decide +kernel⟩, List.mem_of_getElem? (i := 805) (by decide +kernel), List.mem_of_getElem? (i := 1085) (by decide +kernel), List.mem_of_getElem? (i := 1086) (by decide +kernel)⟩
theorem lw_p49 : lw_okq (⟨"SongSquaresModel", "versesRefused", "(I)I"⟩, 40) := ⟨⟨by decide +kernel, by decide +kernel⟩, List.mem_of_getElem? (i := 805) (by decide +kernel), List.mem_of_getElem? (i := 1093) (by decide +kernel), List.mem_of_getElem? (i := 1094) (by decide +kernel)⟩
theorem lw_p50 : lw_okq (⟨"SongSquaresModel", "remember", "()V"⟩, 40) := ⟨⟨by decide +kernel, by decide +kernel⟩, List.mem_of_getElem? (i := 805) (by decide +kernel), List.mem_of_getElem? (i := 1099) (by decide +kernel), List.mem_of_getElem? (i := 1100) (by decide +kernel)⟩
theorem lw_p51 : lw_okq (⟨"SongSquaresModel", "pass", "()V"⟩, 40) := ⟨⟨by decide +kernel, by decide +kernel⟩, List.mem_of_getElem? (i := 805) (by decide +kernel), List.mem_of_getElem? (i := 1103) (by decide +kernel), List.mem_of_getElem? (i := 1104) (by decide +kernel)⟩
theorem lw_p52 : lw_okq (⟨"SongSquaresModel", "hushNow", "(I)V"⟩, 40) := ⟨⟨by decide +kernel, by decide +kernel⟩, List.mem_of_getElem? (i := 805) (by decide +kernel), List.mem_of_getElem? (i := 1108) (by decide +kernel), List.mem_of_getElem? (i := 1109) (by decide +kernel)⟩
theorem lw_p53 : lw_okq (⟨"SongSquaresModel", "joinNow", "(I)V"⟩, 40) := ⟨⟨by decide +kernel, by decide +kernel⟩, List.mem_of_getElem? (i := 805) (by decide +kernel), List.mem_of_getElem? (i := 1116) (by decide +kernel), List.mem_of_getElem? (i := 1117) (by decide +kernel)⟩
theorem lw_p54 : lw_okq (⟨"SongSquaresModel", "voicesIn", "(I)I"⟩, 40) := ⟨⟨by decide +kernel, by decide +kernel⟩, List.mem_of_getElem? (i := 805) (by decide +kernel), List.mem_of_getElem? (i := 1120) (by decide +kernel), List.mem_of_getElem? (i := 1121) (by decide +kernel)⟩
theorem lw_p55 : lw_okq (⟨"SongSquaresModel", "goNow", "(II)V"⟩, 40) := ⟨⟨by decide +kernel, by decide +kernel⟩, List.mem_of_getElem? (i := 805) (by decide +kernel), List.mem_of_getElem? (i := 1132) (by decide +kernel), List.mem_of_getElem? (i := 1133) (by decide +kernel)⟩
theorem lw_p56 : lw_okq (⟨"SongSquaresModel", "giveNow", "(II)V"⟩, 40) := ⟨⟨by decide +kernel, by decide +kernel⟩, List.mem_of_getElem? (i := 805) (by decide +kernel), List.mem_of_getElem? (i := 1141) (by decide +kernel), List.mem_of_getElem? (i := 1142) (by decide +kernel)⟩
theorem lw_p57 : lw_okq (⟨"SongSquaresModel", "chance", "()V"⟩, 40) := ⟨⟨by decide +kernel, by decide +kernel⟩, List.mem_of_getElem? (i := 805) (by decide +kernel), List.mem_of_getElem? (i := 1158) (by decide +kernel), List.mem_of_getElem? (i := 1159) (by decide +kernel)⟩
theorem lw_p58 : lw_okq (⟨"SongSquaresModel", "draw", "(I)I"⟩, 40) := ⟨⟨by decide +kernel, by decide +kernel⟩, List.mem_of_getElem? (i := 805) (by decide +kernel), List.mem_of_getElem? (i := 1162) (by decide +kernel), List.mem_of_getElem? (i := 1163) (by decide +kernel)⟩
theorem lw_p59 : lw_okq (⟨"SongSquaresModel", "isSet", "(I)Z"⟩, 40) := ⟨⟨by decide +kernel, by decide +kernel⟩, List.mem_of_getElem? (i := 805) (by decide +kernel), List.mem_of_getElem? (i := 1191) (by decide +kernel), List.mem_of_getElem? (i := 1192) (by decide +kernel)⟩
theorem lw_p60 : lw_okq (⟨"SongSquaresModel", "areBorne", "(II)Z"⟩, 40) := ⟨⟨by decide +kernel, by decide +kernel⟩, List.mem_of_getElem? (i := 805) (by decide +kernel), List.mem_of_getElem? (i := 1195) (by decide +kernel), List.mem_of_getElem? (i := 1196) (by decide +kernel)⟩
theorem lw_p61 : lw_okq (⟨"SongSquaresModel", "findChanges", "(I)V"⟩, 40) := ⟨⟨by decide +kernel, by decide +kernel⟩, List.mem_of_getElem? (i := 805) (by decide +kernel), List.mem_of_getElem? (i := 1204) (by decide +kernel), List.mem_of_getElem? (i := 1205) (by decide +kernel)⟩
theorem lw_p62 : lw_okq (⟨"SongSquaresModel", "leastAt", "(III)I"⟩, 40) := ⟨⟨by decide +kernel, by decide +kernel⟩, List.mem_of_getElem? (i := 805) (by decide +kernel), List.mem_of_getElem? (i := 1208) (by decide +kernel), List.mem_of_getElem? (i := 1209) (by decide +kernel)⟩
theorem lw_p63 : lw_okq (⟨"SongSquaresModel", "canSing", "(III)Z"⟩, 40) := ⟨⟨by decide +kernel, by decide +kernel⟩, List.mem_of_getElem? (i := 805) (by decide +kernel), List.mem_of_getElem? (i := 1213) (by decide +kernel), List.mem_of_getElem? (i := 1214) (by decide +kernel)⟩
def lw_privs_4 : List (MethodName × Nat) := [(⟨"SongSquaresModel", "owedIn", "(I)I"⟩, 40), (⟨"SongSquaresModel", "versesRefused", "(I)I"⟩, 40), (⟨"SongSquaresModel", "remember", "()V"⟩, 40), (⟨"SongSquaresModel", "pass", "()V"⟩, 40), (⟨"SongSquaresModel", "hushNow", "(I)V"⟩, 40), (⟨"SongSquaresModel", "joinNow", "(I)V"⟩, 40), (⟨"SongSquaresModel", "voicesIn", "(I)I"⟩, 40), (⟨"SongSquaresModel", "goNow", "(II)V"⟩, 40), (⟨"SongSquaresModel", "giveNow", "(II)V"⟩, 40), (⟨"SongSquaresModel", "chance", "()V"⟩, 40), (⟨"SongSquaresModel", "draw", "(I)I"⟩, 40), (⟨"SongSquaresModel", "isSet", "(I)Z"⟩, 40), (⟨"SongSquaresModel", "areBorne", "(II)Z"⟩, 40), (⟨"SongSquaresModel", "findChanges", "(I)V"⟩, 40), (⟨"SongSquaresModel", "leastAt", "(III)I"⟩, 40), (⟨"SongSquaresModel", "canSing", "(III)Z"⟩, 40)]
theorem lw_r4 : ∀ q ∈ lw_privs_4, lw_okq q := List.forall_mem_cons.mpr ⟨lw_p48, List.forall_mem_cons.mpr ⟨lw_p49, List.forall_mem_cons.mpr ⟨lw_p50, List.forall_mem_cons.mpr ⟨lw_p51, List.forall_mem_cons.mpr ⟨lw_p52, List.forall_mem_cons.mpr ⟨lw_p53, List.forall_mem_cons.mpr ⟨lw_p54, List.forall_mem_cons.mpr ⟨lw_p55, List.forall_mem_cons.mpr ⟨lw_p56, List.forall_mem_cons.mpr ⟨lw_p57, List.forall_mem_cons.mpr ⟨lw_p58, List.forall_mem_cons.mpr ⟨lw_p59, List.forall_mem_cons.mpr ⟨lw_p60, List.forall_mem_cons.mpr ⟨lw_p61, List.forall_mem_cons.mpr ⟨lw_p62, List.forall_mem_cons.mpr ⟨lw_p63, fun _ h => absurd h List.not_mem_nil⟩⟩⟩⟩⟩⟩⟩⟩⟩⟩⟩⟩⟩⟩⟩⟩
theorem lw_p64 : lw_okq (⟨"SongSquaresModel", "owedByWay", "(II)I"⟩, 40) := ⟨⟨by decide +kernel, by decide +kernel⟩, List.mem_of_getElem? (i := 805) (by decide +kernel), List.mem_of_getElem? (i := 1221) (by decide +kernel), List.mem_of_getElem? (i := 1222) (by decide +kernel)⟩
def lw_privs_5 : List (MethodName × Nat) := [(⟨"SongSquaresModel", "owedByWay", "(II)I"⟩, 40)]
theorem lw_r5 : ∀ q ∈ lw_privs_5, lw_okq q := List.forall_mem_cons.mpr ⟨lw_p64, fun _ h => absurd h List.not_mem_nil⟩
def lw_privs : List (MethodName × Nat) := lw_privs_1 ++ (lw_privs_2 ++ (lw_privs_3 ++ (lw_privs_4 ++ (lw_privs_5))))
def lw_tbl : List Cond := k2_sels lw_privs ++ tables_1
theorem lw_privs_ok : ∀ q ∈ lw_privs, lw_okq q := by
  show ∀ q ∈ lw_privs_1 ++ (lw_privs_2 ++ (lw_privs_3 ++ (lw_privs_4 ++ (lw_privs_5)))), lw_okq q
  exact List.forall_mem_append.mpr ⟨lw_r1, List.forall_mem_append.mpr ⟨lw_r2, List.forall_mem_append.mpr ⟨lw_r3, List.forall_mem_append.mpr ⟨lw_r4, lw_r5⟩⟩⟩⟩
end
section
def RX0 : String := "SongSquares$Choirs"
def TX0 : u_T := fun k => match k with
  | 0 => ("SongSquares$Choirs", "count", "I", false)
  | 1 => ("SongSquares$Choirs", "common", "I", false)
  | _ => ("SongSquares$Choirs", "with", "[I", true)
def tyX0 : Nat → FieldType := fun k => match k with
  | 0 => .int
  | 1 => .int
  | _ => .array .int
abbrev wsX00 : List Cond := u_ws RX0 TX0 3
theorem nmX0 : ∀ a, a < 3 → ∀ b, b < 3 → a ≠ b → (TX0 a).2.1 ≠ (TX0 b).2.1 := by decide +kernel
theorem tyX0_ok : ∀ k, k < 3 → parseFieldDescriptor (TX0 k).2.2.1 = some (tyX0 k) := by decide +kernel
abbrev cX0_init : ByteArray := prog_2_method_1_code
def yX0_init : MethodName := ⟨RX0, "<init>", "()V"⟩
abbrev cX0_gather : ByteArray := prog_2_method_2_code
def yX0_gather : MethodName := ⟨RX0, "gather", "(LSongSquares$Register;LSongSquares$Hall;LSongSquares$Ledger;)V"⟩
abbrev cX0_add : ByteArray := prog_2_method_3_code
def yX0_add : MethodName := ⟨RX0, "add", "(I)V"⟩
abbrev cX0_bestLip : ByteArray := prog_2_method_4_code
def yX0_bestLip : MethodName := ⟨RX0, "bestLip", "(LSongSquares$Register;)I"⟩
def RX1 : String := "SongSquares$Draws"
def TX1 : u_T := fun k => match k with
  | _ => ("SongSquares$Draws", "grain", "I", false)
def tyX1 : Nat → FieldType := fun k => match k with
  | _ => .int
abbrev wsX10 : List Cond := u_ws RX1 TX1 1
theorem nmX1 : ∀ a, a < 1 → ∀ b, b < 1 → a ≠ b → (TX1 a).2.1 ≠ (TX1 b).2.1 := by decide +kernel
theorem tyX1_ok : ∀ k, k < 1 → parseFieldDescriptor (TX1 k).2.2.1 = some (tyX1 k) := by decide +kernel
abbrev cX1_init : ByteArray := prog_3_method_1_code
def yX1_init : MethodName := ⟨RX1, "<init>", "()V"⟩
abbrev cX1_draw : ByteArray := prog_3_method_2_code
def yX1_draw : MethodName := ⟨RX1, "draw", "(I)I"⟩
def RX2 : String := "SongSquares$Grouping"
def TX2 : u_T := fun k => match k with
  | 0 => ("SongSquares$Grouping", "register", "LSongSquares$Register;", true)
  | 1 => ("SongSquares$Grouping", "members", "[I", true)
  | 2 => ("SongSquares$Grouping", "best", "[I", true)
  | 3 => ("SongSquares$Grouping", "placed", "[I", true)
  | 4 => ("SongSquares$Grouping", "size", "I", false)
  | _ => ("SongSquares$Grouping", "least", "I", false)
def tyX2 : Nat → FieldType := fun k => match k with
  | 0 => .object "SongSquares$Register"
  | 1 => .array .int
  | 2 => .array .int
  | 3 => .array .int
  | 4 => .int
  | _ => .int
abbrev wsX20 : List Cond := u_ws RX2 TX2 6
theorem nmX2 : ∀ a, a < 6 → ∀ b, b < 6 → a ≠ b → (TX2 a).2.1 ≠ (TX2 b).2.1 := by decide +kernel
theorem tyX2_ok : ∀ k, k < 6 → parseFieldDescriptor (TX2 k).2.2.1 = some (tyX2 k) := by decide +kernel
abbrev cX2_init : ByteArray := prog_4_method_1_code
def yX2_init : MethodName := ⟨RX2, "<init>", "(LSongSquares$Register;)V"⟩
abbrev cX2_group : ByteArray := prog_4_method_2_code
def yX2_group : MethodName := ⟨RX2, "group", "(ILSongSquares$Hall;)V"⟩
abbrev cX2_leastFrom : ByteArray := prog_4_method_3_code
def yX2_leastFrom : MethodName := ⟨RX2, "leastFrom", "(ILSongSquares$Hall;)I"⟩
abbrev cX2_bestPlace : ByteArray := prog_4_method_4_code
def yX2_bestPlace : MethodName := ⟨RX2, "bestPlace", "(ILSongSquares$Hall;)I"⟩
abbrev cX2_costOf : ByteArray := prog_4_method_5_code
def yX2_costOf : MethodName := ⟨RX2, "costOf", "(IILSongSquares$Hall;)I"⟩
abbrev cX2_placedIn : ByteArray := prog_4_method_6_code
def yX2_placedIn : MethodName := ⟨RX2, "placedIn", "(I)I"⟩
def RX3 : String := "SongSquares$Hall"
def TX3 : u_T := fun k => match k with
  | 0 => ("SongSquares$Hall", "register", "LSongSquares$Register;", true)
  | 1 => ("SongSquares$Hall", "rate", "I", false)
  | 2 => ("SongSquares$Hall", "verses", "I", false)
  | 3 => ("SongSquares$Hall", "treasury", "I", false)
  | 4 => ("SongSquares$Hall", "caught", "I", false)
  | 5 => ("SongSquares$Hall", "at", "[I", true)
  | 6 => ("SongSquares$Hall", "purse", "[I", true)
  | 7 => ("SongSquares$Hall", "turn", "[I", true)
  | _ => ("SongSquares$Hall", "post", "[I", true)
def tyX3 : Nat → FieldType := fun k => match k with
  | 0 => .object "SongSquares$Register"
  | 1 => .int
  | 2 => .int
  | 3 => .int
  | 4 => .int
  | 5 => .array .int
  | 6 => .array .int
  | 7 => .array .int
  | _ => .array .int
abbrev wsX30 : List Cond := u_ws RX3 TX3 9
theorem nmX3 : ∀ a, a < 9 → ∀ b, b < 9 → a ≠ b → (TX3 a).2.1 ≠ (TX3 b).2.1 := by decide +kernel
theorem tyX3_ok : ∀ k, k < 9 → parseFieldDescriptor (TX3 k).2.2.1 = some (tyX3 k) := by decide +kernel
abbrev cX3_init : ByteArray := prog_5_method_1_code
def yX3_init : MethodName := ⟨RX3, "<init>", "(LSongSquares$Register;)V"⟩
abbrev cX3_begin : ByteArray := prog_5_method_2_code
def yX3_begin : MethodName := ⟨RX3, "begin", "()V"⟩
abbrev cX3_takeFrom : ByteArray := prog_5_method_3_code
def yX3_takeFrom : MethodName := ⟨RX3, "takeFrom", "(LSongSquares$Hall;)V"⟩
abbrev cX3_sings : ByteArray := prog_5_method_4_code
def yX3_sings : MethodName := ⟨RX3, "sings", "(I)Z"⟩
abbrev cX3_whoSings : ByteArray := prog_5_method_5_code
def yX3_whoSings : MethodName := ⟨RX3, "whoSings", "()I"⟩
abbrev cX3_whoIsIn : ByteArray := prog_5_method_6_code
def yX3_whoIsIn : MethodName := ⟨RX3, "whoIsIn", "(I)I"⟩
abbrev cX3_voicesIn : ByteArray := prog_5_method_7_code
def yX3_voicesIn : MethodName := ⟨RX3, "voicesIn", "(I)I"⟩
abbrev cX3_inspectorsIn : ByteArray := prog_5_method_8_code
def yX3_inspectorsIn : MethodName := ⟨RX3, "inspectorsIn", "(I)I"⟩
abbrev cX3_deafPlaces : ByteArray := prog_5_method_9_code
def yX3_deafPlaces : MethodName := ⟨RX3, "deafPlaces", "()I"⟩
abbrev cX3_richest : ByteArray := prog_5_method_10_code
def yX3_richest : MethodName := ⟨RX3, "richest", "()I"⟩
abbrev cX3_priceBy : ByteArray := prog_5_method_11_code
def yX3_priceBy : MethodName := ⟨RX3, "priceBy", "(IIII)I"⟩
abbrev cX3_owedBy : ByteArray := prog_5_method_12_code
def yX3_owedBy : MethodName := ⟨RX3, "owedBy", "(II)I"⟩
abbrev cX3_owedIn : ByteArray := prog_5_method_13_code
def yX3_owedIn : MethodName := ⟨RX3, "owedIn", "(I)I"⟩
abbrev cX3_owedByAll : ByteArray := prog_5_method_14_code
def yX3_owedByAll : MethodName := ⟨RX3, "owedByAll", "()I"⟩
abbrev cX3_paidByAll : ByteArray := prog_5_method_15_code
def yX3_paidByAll : MethodName := ⟨RX3, "paidByAll", "(I)I"⟩
abbrev cX3_owedBySet : ByteArray := prog_5_method_16_code
def yX3_owedBySet : MethodName := ⟨RX3, "owedBySet", "(II)I"⟩
abbrev cX3_mostBorne : ByteArray := prog_5_method_17_code
def yX3_mostBorne : MethodName := ⟨RX3, "mostBorne", "(II)I"⟩
abbrev cX3_canPay : ByteArray := prog_5_method_18_code
def yX3_canPay : MethodName := ⟨RX3, "canPay", "(II)Z"⟩
abbrev cX3_letIn : ByteArray := prog_5_method_19_code
def yX3_letIn : MethodName := ⟨RX3, "letIn", "(I)V"⟩
abbrev cX3_silence : ByteArray := prog_5_method_20_code
def yX3_silence : MethodName := ⟨RX3, "silence", "(I)V"⟩
abbrev cX3_move : ByteArray := prog_5_method_21_code
def yX3_move : MethodName := ⟨RX3, "move", "(II)V"⟩
abbrev cX3_fill : ByteArray := prog_5_method_22_code
def yX3_fill : MethodName := ⟨RX3, "fill", "(II)V"⟩
abbrev cX3_singVerse : ByteArray := prog_5_method_23_code
def yX3_singVerse : MethodName := ⟨RX3, "singVerse", "()V"⟩
abbrev cX3_takePence : ByteArray := prog_5_method_24_code
def yX3_takePence : MethodName := ⟨RX3, "takePence", "(II)V"⟩
def RX4 : String := "SongSquares$Image"
def TX4 : u_T := fun k => match k with
  | 0 => ("SongSquares$Image", "hall", "LSongSquares$Hall;", true)
  | 1 => ("SongSquares$Image", "grain", "I", false)
  | _ => ("SongSquares$Image", "kept", "Z", false)
def tyX4 : Nat → FieldType := fun k => match k with
  | 0 => .object "SongSquares$Hall"
  | 1 => .int
  | _ => .boolean
abbrev wsX40 : List Cond := u_ws RX4 TX4 3
theorem nmX4 : ∀ a, a < 3 → ∀ b, b < 3 → a ≠ b → (TX4 a).2.1 ≠ (TX4 b).2.1 := by decide +kernel
theorem tyX4_ok : ∀ k, k < 3 → parseFieldDescriptor (TX4 k).2.2.1 = some (tyX4 k) := by decide +kernel
abbrev cX4_init : ByteArray := prog_6_method_1_code
def yX4_init : MethodName := ⟨RX4, "<init>", "(LSongSquares$Register;)V"⟩
def RX5 : String := "SongSquares$Ledger"
def TX5 : u_T := fun k => match k with
  | 0 => ("SongSquares$Ledger", "paidAt", "[I", true)
  | 1 => ("SongSquares$Ledger", "paid", "[I", true)
  | 2 => ("SongSquares$Ledger", "owner", "[I", true)
  | 3 => ("SongSquares$Ledger", "pence", "[I", true)
  | 4 => ("SongSquares$Ledger", "payments", "I", false)
  | _ => ("SongSquares$Ledger", "entries", "I", false)
def tyX5 : Nat → FieldType := fun k => match k with
  | 0 => .array .int
  | 1 => .array .int
  | 2 => .array .int
  | 3 => .array .int
  | 4 => .int
  | _ => .int
abbrev wsX50 : List Cond := u_ws RX5 TX5 6
theorem nmX5 : ∀ a, a < 6 → ∀ b, b < 6 → a ≠ b → (TX5 a).2.1 ≠ (TX5 b).2.1 := by decide +kernel
theorem tyX5_ok : ∀ k, k < 6 → parseFieldDescriptor (TX5 k).2.2.1 = some (tyX5 k) := by decide +kernel
abbrev cX5_init : ByteArray := prog_7_method_1_code
def yX5_init : MethodName := ⟨RX5, "<init>", "()V"⟩
abbrev cX5_clear : ByteArray := prog_7_method_2_code
def yX5_clear : MethodName := ⟨RX5, "clear", "()V"⟩
abbrev cX5_addPayment : ByteArray := prog_7_method_3_code
def yX5_addPayment : MethodName := ⟨RX5, "addPayment", "(II)Z"⟩
abbrev cX5_addEntry : ByteArray := prog_7_method_4_code
def yX5_addEntry : MethodName := ⟨RX5, "addEntry", "(II)Z"⟩
abbrev cX5_firstWrong : ByteArray := prog_7_method_5_code
def yX5_firstWrong : MethodName := ⟨RX5, "firstWrong", "(LSongSquares$Hall;)I"⟩
abbrev cX5_fits : ByteArray := prog_7_method_6_code
def yX5_fits : MethodName := ⟨RX5, "fits", "(ILSongSquares$Hall;)Z"⟩
def RX6 : String := "SongSquares$Past"
def TX6 : u_T := fun k => match k with
  | 0 => ("SongSquares$Past", "ring", "[LSongSquares$Hall;", true)
  | 1 => ("SongSquares$Past", "top", "I", false)
  | _ => ("SongSquares$Past", "count", "I", false)
def tyX6 : Nat → FieldType := fun k => match k with
  | 0 => .array (.object "SongSquares$Hall")
  | 1 => .int
  | _ => .int
abbrev wsX60 : List Cond := u_ws RX6 TX6 3
theorem nmX6 : ∀ a, a < 3 → ∀ b, b < 3 → a ≠ b → (TX6 a).2.1 ≠ (TX6 b).2.1 := by decide +kernel
theorem tyX6_ok : ∀ k, k < 3 → parseFieldDescriptor (TX6 k).2.2.1 = some (tyX6 k) := by decide +kernel
abbrev cX6_init : ByteArray := prog_8_method_1_code
def yX6_init : MethodName := ⟨RX6, "<init>", "(LSongSquares$Register;)V"⟩
abbrev cX6_forget : ByteArray := prog_8_method_2_code
def yX6_forget : MethodName := ⟨RX6, "forget", "()V"⟩
abbrev cX6_mark : ByteArray := prog_8_method_3_code
def yX6_mark : MethodName := ⟨RX6, "mark", "(LSongSquares$Hall;)V"⟩
abbrev cX6_restore : ByteArray := prog_8_method_4_code
def yX6_restore : MethodName := ⟨RX6, "restore", "(LSongSquares$Hall;)Z"⟩
def RX7 : String := "SongSquares$Reader"
def TX7 : u_T := fun k => match k with
  | 0 => ("SongSquares$Reader", "text", "[I", true)
  | 1 => ("SongSquares$Reader", "length", "I", false)
  | 2 => ("SongSquares$Reader", "next", "I", false)
  | 3 => ("SongSquares$Reader", "flaw", "I", false)
  | _ => ("SongSquares$Reader", "flawAt", "I", false)
def tyX7 : Nat → FieldType := fun k => match k with
  | 0 => .array .int
  | 1 => .int
  | 2 => .int
  | 3 => .int
  | _ => .int
abbrev wsX70 : List Cond := u_ws RX7 TX7 5
theorem nmX7 : ∀ a, a < 5 → ∀ b, b < 5 → a ≠ b → (TX7 a).2.1 ≠ (TX7 b).2.1 := by decide +kernel
theorem tyX7_ok : ∀ k, k < 5 → parseFieldDescriptor (TX7 k).2.2.1 = some (tyX7 k) := by decide +kernel
abbrev cX7_init : ByteArray := prog_9_method_1_code
def yX7_init : MethodName := ⟨RX7, "<init>", "()V"⟩
abbrev cX7_append : ByteArray := prog_9_method_2_code
def yX7_append : MethodName := ⟨RX7, "append", "(I)Z"⟩
abbrev cX7_readInto : ByteArray := prog_9_method_3_code
def yX7_readInto : MethodName := ⟨RX7, "readInto", "(LSongSquares$Register;)I"⟩
abbrev cX7_readClause : ByteArray := prog_9_method_4_code
def yX7_readClause : MethodName := ⟨RX7, "readClause", "(LSongSquares$Register;)V"⟩
abbrev cX7_readNumbers : ByteArray := prog_9_method_5_code
def yX7_readNumbers : MethodName := ⟨RX7, "readNumbers", "(ILSongSquares$Register;)V"⟩
abbrev cX7_readNumber : ByteArray := prog_9_method_6_code
def yX7_readNumber : MethodName := ⟨RX7, "readNumber", "(II)I"⟩
abbrev cX7_readEnd : ByteArray := prog_9_method_7_code
def yX7_readEnd : MethodName := ⟨RX7, "readEnd", "()V"⟩
abbrev cX7_skipBlanks : ByteArray := prog_9_method_8_code
def yX7_skipBlanks : MethodName := ⟨RX7, "skipBlanks", "()V"⟩
abbrev cX7_letterHere : ByteArray := prog_9_method_9_code
def yX7_letterHere : MethodName := ⟨RX7, "letterHere", "()I"⟩
abbrev cX7_isFigure : ByteArray := prog_9_method_10_code
def yX7_isFigure : MethodName := ⟨RX7, "isFigure", "(I)Z"⟩
abbrev cX7_fail : ByteArray := prog_9_method_11_code
def yX7_fail : MethodName := ⟨RX7, "fail", "(II)V"⟩
def RX8 : String := "SongSquares$Register"
def TX8 : u_T := fun k => match k with
  | 0 => ("SongSquares$Register", "rate", "I", false)
  | 1 => ("SongSquares$Register", "places", "I", false)
  | 2 => ("SongSquares$Register", "words", "I", false)
  | 3 => ("SongSquares$Register", "singers", "I", false)
  | 4 => ("SongSquares$Register", "inspectors", "I", false)
  | 5 => ("SongSquares$Register", "kind", "[I", true)
  | 6 => ("SongSquares$Register", "home", "[I", true)
  | 7 => ("SongSquares$Register", "means", "[I", true)
  | 8 => ("SongSquares$Register", "known", "[I", true)
  | _ => ("SongSquares$Register", "firstPost", "[I", true)
def tyX8 : Nat → FieldType := fun k => match k with
  | 0 => .int
  | 1 => .int
  | 2 => .int
  | 3 => .int
  | 4 => .int
  | 5 => .array .int
  | 6 => .array .int
  | 7 => .array .int
  | 8 => .array .int
  | _ => .array .int
abbrev wsX80 : List Cond := u_ws RX8 TX8 10
theorem nmX8 : ∀ a, a < 10 → ∀ b, b < 10 → a ≠ b → (TX8 a).2.1 ≠ (TX8 b).2.1 := by decide +kernel
theorem tyX8_ok : ∀ k, k < 10 → parseFieldDescriptor (TX8 k).2.2.1 = some (tyX8 k) := by decide +kernel
abbrev cX8_init : ByteArray := prog_10_method_1_code
def yX8_init : MethodName := ⟨RX8, "<init>", "()V"⟩
abbrev cX8_clear : ByteArray := prog_10_method_2_code
def yX8_clear : MethodName := ⟨RX8, "clear", "()V"⟩
abbrev cX8_takeFrom : ByteArray := prog_10_method_3_code
def yX8_takeFrom : MethodName := ⟨RX8, "takeFrom", "(LSongSquares$Register;)V"⟩
abbrev cX8_isEmpty : ByteArray := prog_10_method_4_code
def yX8_isEmpty : MethodName := ⟨RX8, "isEmpty", "()Z"⟩
abbrev cX8_hasSinger : ByteArray := prog_10_method_5_code
def yX8_hasSinger : MethodName := ⟨RX8, "hasSinger", "(I)Z"⟩
abbrev cX8_hasPlace : ByteArray := prog_10_method_6_code
def yX8_hasPlace : MethodName := ⟨RX8, "hasPlace", "(I)Z"⟩
abbrev cX8_hasInspector : ByteArray := prog_10_method_7_code
def yX8_hasInspector : MethodName := ⟨RX8, "hasInspector", "(I)Z"⟩
abbrev cX8_hasWord : ByteArray := prog_10_method_8_code
def yX8_hasWord : MethodName := ⟨RX8, "hasWord", "(I)Z"⟩
abbrev cX8_hasAll : ByteArray := prog_10_method_9_code
def yX8_hasAll : MethodName := ⟨RX8, "hasAll", "(I)Z"⟩
abbrev cX8_everyone : ByteArray := prog_10_method_10_code
def yX8_everyone : MethodName := ⟨RX8, "everyone", "()I"⟩
abbrev cX8_everyWord : ByteArray := prog_10_method_11_code
def yX8_everyWord : MethodName := ⟨RX8, "everyWord", "()I"⟩
abbrev cX8_knownBy : ByteArray := prog_10_method_12_code
def yX8_knownBy : MethodName := ⟨RX8, "knownBy", "(I)I"⟩
abbrev cX8_addSinger : ByteArray := prog_10_method_13_code
def yX8_addSinger : MethodName := ⟨RX8, "addSinger", "(IIII)V"⟩
abbrev cX8_addInspector : ByteArray := prog_10_method_14_code
def yX8_addInspector : MethodName := ⟨RX8, "addInspector", "(I)V"⟩
def RX9 : String := "SongSquares$Sharing"
def TX9 : u_T := fun k => match k with
  | 0 => ("SongSquares$Sharing", "register", "LSongSquares$Register;", true)
  | 1 => ("SongSquares$Sharing", "ahead", "[[I", true)
  | 2 => ("SongSquares$Sharing", "row", "[I", true)
  | _ => ("SongSquares$Sharing", "changes", "I", false)
def tyX9 : Nat → FieldType := fun k => match k with
  | 0 => .object "SongSquares$Register"
  | 1 => .array (.array .int)
  | 2 => .array .int
  | _ => .int
abbrev wsX90 : List Cond := u_ws RX9 TX9 4
theorem nmX9 : ∀ a, a < 4 → ∀ b, b < 4 → a ≠ b → (TX9 a).2.1 ≠ (TX9 b).2.1 := by decide +kernel
theorem tyX9_ok : ∀ k, k < 4 → parseFieldDescriptor (TX9 k).2.2.1 = some (tyX9 k) := by decide +kernel
abbrev cX9_init : ByteArray := prog_11_method_1_code
def yX9_init : MethodName := ⟨RX9, "<init>", "(LSongSquares$Register;)V"⟩
abbrev cX9_share : ByteArray := prog_11_method_2_code
def yX9_share : MethodName := ⟨RX9, "share", "(I)V"⟩
abbrev cX9_fewestBehind : ByteArray := prog_11_method_3_code
def yX9_fewestBehind : MethodName := ⟨RX9, "fewestBehind", "(II)I"⟩
abbrev cX9_bestFor : ByteArray := prog_11_method_4_code
def yX9_bestFor : MethodName := ⟨RX9, "bestFor", "(II)I"⟩
abbrev cX9_costOf : ByteArray := prog_11_method_5_code
def yX9_costOf : MethodName := ⟨RX9, "costOf", "(III)I"⟩
def RX10 : String := "SongSquares"
def TX10 : u_T := fun k => match k with
  | 0 => ("SongSquares", "reader", "LSongSquares$Reader;", true)
  | 1 => ("SongSquares", "draft", "LSongSquares$Register;", true)
  | 2 => ("SongSquares", "register", "LSongSquares$Register;", true)
  | 3 => ("SongSquares", "now", "LSongSquares$Hall;", true)
  | 4 => ("SongSquares", "trial", "LSongSquares$Hall;", true)
  | 5 => ("SongSquares", "past", "LSongSquares$Past;", true)
  | 6 => ("SongSquares", "images", "[LSongSquares$Image;", true)
  | 7 => ("SongSquares", "ledger", "LSongSquares$Ledger;", true)
  | 8 => ("SongSquares", "choirs", "LSongSquares$Choirs;", true)
  | 9 => ("SongSquares", "sharing", "LSongSquares$Sharing;", true)
  | 10 => ("SongSquares", "grouping", "LSongSquares$Grouping;", true)
  | _ => ("SongSquares", "draws", "LSongSquares$Draws;", true)
def tyX10 : Nat → FieldType := fun k => match k with
  | 0 => .object "SongSquares$Reader"
  | 1 => .object "SongSquares$Register"
  | 2 => .object "SongSquares$Register"
  | 3 => .object "SongSquares$Hall"
  | 4 => .object "SongSquares$Hall"
  | 5 => .object "SongSquares$Past"
  | 6 => .array (.object "SongSquares$Image")
  | 7 => .object "SongSquares$Ledger"
  | 8 => .object "SongSquares$Choirs"
  | 9 => .object "SongSquares$Sharing"
  | 10 => .object "SongSquares$Grouping"
  | _ => .object "SongSquares$Draws"
abbrev wsX100 : List Cond := u_ws RX10 TX10 12
theorem nmX10 : ∀ a, a < 12 → ∀ b, b < 12 → a ≠ b → (TX10 a).2.1 ≠ (TX10 b).2.1 := by decide +kernel
theorem tyX10_ok : ∀ k, k < 12 → parseFieldDescriptor (TX10 k).2.2.1 = some (tyX10 k) := by decide +kernel
abbrev cX10_init : ByteArray := prog_1_method_1_code
def yX10_init : MethodName := ⟨RX10, "<init>", "()V"⟩
abbrev cX10_feed : ByteArray := prog_1_method_2_code
def yX10_feed : MethodName := ⟨RX10, "feed", "(I)I"⟩
abbrev cX10_duchy : ByteArray := prog_1_method_3_code
def yX10_duchy : MethodName := ⟨RX10, "duchy", "()I"⟩
abbrev cX10_fault : ByteArray := prog_1_method_4_code
def yX10_fault : MethodName := ⟨RX10, "fault", "()I"⟩
abbrev cX10_told : ByteArray := prog_1_method_5_code
def yX10_told : MethodName := ⟨RX10, "told", "(I)I"⟩
abbrev cX10_singer : ByteArray := prog_1_method_6_code
def yX10_singer : MethodName := ⟨RX10, "singer", "(II)I"⟩
abbrev cX10_place : ByteArray := prog_1_method_7_code
def yX10_place : MethodName := ⟨RX10, "place", "(II)I"⟩
abbrev cX10_verse : ByteArray := prog_1_method_8_code
def yX10_verse : MethodName := ⟨RX10, "verse", "(I)I"⟩
abbrev cX10_join : ByteArray := prog_1_method_9_code
def yX10_join : MethodName := ⟨RX10, "join", "(I)I"⟩
abbrev cX10_hush : ByteArray := prog_1_method_10_code
def yX10_hush : MethodName := ⟨RX10, "hush", "(I)I"⟩
abbrev cX10_go : ByteArray := prog_1_method_11_code
def yX10_go : MethodName := ⟨RX10, "go", "(II)I"⟩
abbrev cX10_give : ByteArray := prog_1_method_12_code
def yX10_give : MethodName := ⟨RX10, "give", "(II)I"⟩
abbrev cX10_rate : ByteArray := prog_1_method_13_code
def yX10_rate : MethodName := ⟨RX10, "rate", "(I)I"⟩
abbrev cX10_inspect : ByteArray := prog_1_method_14_code
def yX10_inspect : MethodName := ⟨RX10, "inspect", "(II)I"⟩
abbrev cX10_drift : ByteArray := prog_1_method_15_code
def yX10_drift : MethodName := ⟨RX10, "drift", "(I)I"⟩
abbrev cX10_undo : ByteArray := prog_1_method_16_code
def yX10_undo : MethodName := ⟨RX10, "undo", "()I"⟩
abbrev cX10_treasury : ByteArray := prog_1_method_17_code
def yX10_treasury : MethodName := ⟨RX10, "treasury", "(I)I"⟩
abbrev cX10_lasts : ByteArray := prog_1_method_18_code
def yX10_lasts : MethodName := ⟨RX10, "lasts", "(I)I"⟩
abbrev cX10_more : ByteArray := prog_1_method_19_code
def yX10_more : MethodName := ⟨RX10, "more", "(II)I"⟩
abbrev cX10_bears : ByteArray := prog_1_method_20_code
def yX10_bears : MethodName := ⟨RX10, "bears", "(III)I"⟩
abbrev cX10_shared : ByteArray := prog_1_method_21_code
def yX10_shared : MethodName := ⟨RX10, "shared", "(II)I"⟩
abbrev cX10_groups : ByteArray := prog_1_method_22_code
def yX10_groups : MethodName := ⟨RX10, "groups", "(II)I"⟩
abbrev cX10_rates : ByteArray := prog_1_method_23_code
def yX10_rates : MethodName := ⟨RX10, "rates", "(I)I"⟩
abbrev cX10_dry : ByteArray := prog_1_method_24_code
def yX10_dry : MethodName := ⟨RX10, "dry", "(II)I"⟩
abbrev cX10_pay : ByteArray := prog_1_method_25_code
def yX10_pay : MethodName := ⟨RX10, "pay", "(II)I"⟩
abbrev cX10_write : ByteArray := prog_1_method_26_code
def yX10_write : MethodName := ⟨RX10, "write", "(II)I"⟩
abbrev cX10_tear : ByteArray := prog_1_method_27_code
def yX10_tear : MethodName := ⟨RX10, "tear", "()I"⟩
abbrev cX10_judge : ByteArray := prog_1_method_28_code
def yX10_judge : MethodName := ⟨RX10, "judge", "()I"⟩
abbrev cX10_seed : ByteArray := prog_1_method_29_code
def yX10_seed : MethodName := ⟨RX10, "seed", "(I)I"⟩
abbrev cX10_keep : ByteArray := prog_1_method_30_code
def yX10_keep : MethodName := ⟨RX10, "keep", "(I)I"⟩
abbrev cX10_goBack : ByteArray := prog_1_method_31_code
def yX10_goBack : MethodName := ⟨RX10, "goBack", "(I)I"⟩
abbrev cX10_isIn : ByteArray := prog_1_method_32_code
def yX10_isIn : MethodName := ⟨RX10, "isIn", "(II)Z"⟩
abbrev cX10_refusalOfVerses : ByteArray := prog_1_method_33_code
def yX10_refusalOfVerses : MethodName := ⟨RX10, "refusalOfVerses", "(I)I"⟩
abbrev cX10_toldOfChoirs : ByteArray := prog_1_method_34_code
def yX10_toldOfChoirs : MethodName := ⟨RX10, "toldOfChoirs", "(I)I"⟩
abbrev cX10_fewest : ByteArray := prog_1_method_35_code
def yX10_fewest : MethodName := ⟨RX10, "fewest", "()I"⟩
abbrev cX10_stirByDraws : ByteArray := prog_1_method_36_code
def yX10_stirByDraws : MethodName := ⟨RX10, "stirByDraws", "()V"⟩
abbrev cX10_sendByDraws : ByteArray := prog_1_method_37_code
def yX10_sendByDraws : MethodName := ⟨RX10, "sendByDraws", "()V"⟩
def RX11 : String := "SongSquaresModel"
def TX11 : u_T := fun k => match k with
  | 0 => ("SongSquaresModel", "rateTold", "I", false)
  | 1 => ("SongSquaresModel", "places", "I", false)
  | 2 => ("SongSquaresModel", "words", "I", false)
  | 3 => ("SongSquaresModel", "singers", "I", false)
  | 4 => ("SongSquaresModel", "kind", "[I", true)
  | 5 => ("SongSquaresModel", "placeTold", "[I", true)
  | 6 => ("SongSquaresModel", "purseTold", "[I", true)
  | 7 => ("SongSquaresModel", "knows", "[I", true)
  | 8 => ("SongSquaresModel", "inspectors", "I", false)
  | 9 => ("SongSquaresModel", "watchTold", "[I", true)
  | 10 => ("SongSquaresModel", "now", "[I", true)
  | 11 => ("SongSquaresModel", "seed", "I", false)
  | 12 => ("SongSquaresModel", "text", "[I", true)
  | 13 => ("SongSquaresModel", "texted", "I", false)
  | 14 => ("SongSquaresModel", "faultPlace", "I", false)
  | 15 => ("SongSquaresModel", "at0", "I", false)
  | 16 => ("SongSquaresModel", "number", "I", false)
  | 17 => ("SongSquaresModel", "numberAt", "I", false)
  | 18 => ("SongSquaresModel", "readRate", "I", false)
  | 19 => ("SongSquaresModel", "readPlaces", "I", false)
  | 20 => ("SongSquaresModel", "readWords", "I", false)
  | 21 => ("SongSquaresModel", "readSingers", "I", false)
  | 22 => ("SongSquaresModel", "readKind", "[I", true)
  | 23 => ("SongSquaresModel", "readPlace", "[I", true)
  | 24 => ("SongSquaresModel", "readPurse", "[I", true)
  | 25 => ("SongSquaresModel", "readKnows", "[I", true)
  | 26 => ("SongSquaresModel", "readInspectors", "I", false)
  | 27 => ("SongSquaresModel", "readWatch", "[I", true)
  | 28 => ("SongSquaresModel", "undos", "I", false)
  | 29 => ("SongSquaresModel", "past", "[I", true)
  | 30 => ("SongSquaresModel", "before", "[I", true)
  | 31 => ("SongSquaresModel", "changes", "[I", true)
  | 32 => ("SongSquaresModel", "paid", "I", false)
  | 33 => ("SongSquaresModel", "paidIn", "[I", true)
  | 34 => ("SongSquaresModel", "paidIs", "[I", true)
  | 35 => ("SongSquaresModel", "booked", "I", false)
  | 36 => ("SongSquaresModel", "bookOf", "[I", true)
  | 37 => ("SongSquaresModel", "bookIs", "[I", true)
  | 38 => ("SongSquaresModel", "images", "[I", true)
  | _ => ("SongSquaresModel", "isKept", "[Z", true)
def tyX11 : Nat → FieldType := fun k => match k with
  | 0 => .int
  | 1 => .int
  | 2 => .int
  | 3 => .int
  | 4 => .array .int
  | 5 => .array .int
  | 6 => .array .int
  | 7 => .array .int
  | 8 => .int
  | 9 => .array .int
  | 10 => .array .int
  | 11 => .int
  | 12 => .array .int
  | 13 => .int
  | 14 => .int
  | 15 => .int
  | 16 => .int
  | 17 => .int
  | 18 => .int
  | 19 => .int
  | 20 => .int
  | 21 => .int
  | 22 => .array .int
  | 23 => .array .int
  | 24 => .array .int
  | 25 => .array .int
  | 26 => .int
  | 27 => .array .int
  | 28 => .int
  | 29 => .array .int
  | 30 => .array .int
  | 31 => .array .int
  | 32 => .int
  | 33 => .array .int
  | 34 => .array .int
  | 35 => .int
  | 36 => .array .int
  | 37 => .array .int
  | 38 => .array .int
  | _ => .array .boolean
abbrev wsX110 : List Cond := u_ws RX11 TX11 40
theorem nmX11 : ∀ a, a < 40 → ∀ b, b < 40 → a ≠ b → (TX11 a).2.1 ≠ (TX11 b).2.1 := by decide +kernel
theorem tyX11_ok : ∀ k, k < 40 → parseFieldDescriptor (TX11 k).2.2.1 = some (tyX11 k) := by decide +kernel
abbrev cX11_init : ByteArray := prog_13_method_1_code
def yX11_init : MethodName := ⟨RX11, "<init>", "()V"⟩
abbrev cX11_in : ByteArray := prog_13_method_3_code
def yX11_in : MethodName := ⟨RX11, "in", "(JJJ)Z"⟩
abbrev cX11_has : ByteArray := prog_13_method_4_code
def yX11_has : MethodName := ⟨RX11, "has", "(II)Z"⟩
abbrev cX11_bits : ByteArray := prog_13_method_5_code
def yX11_bits : MethodName := ⟨RX11, "bits", "(I)I"⟩
abbrev cX11_isSinger : ByteArray := prog_13_method_6_code
def yX11_isSinger : MethodName := ⟨RX11, "isSinger", "(I)Z"⟩
abbrev cX11_isPlace : ByteArray := prog_13_method_7_code
def yX11_isPlace : MethodName := ⟨RX11, "isPlace", "(I)Z"⟩
abbrev cX11_isSet : ByteArray := prog_13_method_8_code
def yX11_isSet : MethodName := ⟨RX11, "isSet", "(I)Z"⟩
abbrev cX11_feed : ByteArray := prog_13_method_9_code
def yX11_feed : MethodName := ⟨RX11, "feed", "(I)I"⟩
abbrev cX11_here : ByteArray := prog_13_method_10_code
def yX11_here : MethodName := ⟨RX11, "here", "()I"⟩
abbrev cX11_fails : ByteArray := prog_13_method_11_code
def yX11_fails : MethodName := ⟨RX11, "fails", "(II)I"⟩
abbrev cX11_takeNumber : ByteArray := prog_13_method_12_code
def yX11_takeNumber : MethodName := ⟨RX11, "takeNumber", "(II)I"⟩
abbrev cX11_into : ByteArray := prog_13_method_13_code
def yX11_into : MethodName := ⟨RX11, "into", "([IIII)I"⟩
abbrev cX11_takeDuchy : ByteArray := prog_13_method_14_code
def yX11_takeDuchy : MethodName := ⟨RX11, "takeDuchy", "()I"⟩
abbrev cX11_takeSinger : ByteArray := prog_13_method_15_code
def yX11_takeSinger : MethodName := ⟨RX11, "takeSinger", "()I"⟩
abbrev cX11_takeInspector : ByteArray := prog_13_method_16_code
def yX11_takeInspector : MethodName := ⟨RX11, "takeInspector", "()I"⟩
abbrev cX11_takeClause : ByteArray := prog_13_method_17_code
def yX11_takeClause : MethodName := ⟨RX11, "takeClause", "()I"⟩
abbrev cX11_copyRow : ByteArray := prog_13_method_18_code
def yX11_copyRow : MethodName := ⟨RX11, "copyRow", "([I[II)V"⟩
abbrev cX11_takeRead : ByteArray := prog_13_method_19_code
def yX11_takeRead : MethodName := ⟨RX11, "takeRead", "()V"⟩
abbrev cX11_duchy : ByteArray := prog_13_method_20_code
def yX11_duchy : MethodName := ⟨RX11, "duchy", "()I"⟩
abbrev cX11_fault : ByteArray := prog_13_method_21_code
def yX11_fault : MethodName := ⟨RX11, "fault", "()I"⟩
abbrev cX11_sings : ByteArray := prog_13_method_22_code
def yX11_sings : MethodName := ⟨RX11, "sings", "(I)Z"⟩
abbrev cX11_inspectorsAt : ByteArray := prog_13_method_23_code
def yX11_inspectorsAt : MethodName := ⟨RX11, "inspectorsAt", "(I)I"⟩
abbrev cX11_owesBy : ByteArray := prog_13_method_24_code
def yX11_owesBy : MethodName := ⟨RX11, "owesBy", "(IIII)I"⟩
abbrev cX11_owesOf : ByteArray := prog_13_method_25_code
def yX11_owesOf : MethodName := ⟨RX11, "owesOf", "(I)I"⟩
abbrev cX11_whoIsIn : ByteArray := prog_13_method_26_code
def yX11_whoIsIn : MethodName := ⟨RX11, "whoIsIn", "(I)I"⟩
abbrev cX11_singingOnes : ByteArray := prog_13_method_27_code
def yX11_singingOnes : MethodName := ⟨RX11, "singingOnes", "()I"⟩
abbrev cX11_voicesIn : ByteArray := prog_13_method_28_code
def yX11_voicesIn : MethodName := ⟨RX11, "voicesIn", "(I)I"⟩
abbrev cX11_owedIn : ByteArray := prog_13_method_29_code
def yX11_owedIn : MethodName := ⟨RX11, "owedIn", "(I)I"⟩
abbrev cX11_owedByAll : ByteArray := prog_13_method_30_code
def yX11_owedByAll : MethodName := ⟨RX11, "owedByAll", "()I"⟩
abbrev cX11_owedBy : ByteArray := prog_13_method_31_code
def yX11_owedBy : MethodName := ⟨RX11, "owedBy", "(II)I"⟩
abbrev cX11_deafPlaces : ByteArray := prog_13_method_32_code
def yX11_deafPlaces : MethodName := ⟨RX11, "deafPlaces", "()I"⟩
abbrev cX11_richest : ByteArray := prog_13_method_33_code
def yX11_richest : MethodName := ⟨RX11, "richest", "()I"⟩
abbrev cX11_fewest : ByteArray := prog_13_method_34_code
def yX11_fewest : MethodName := ⟨RX11, "fewest", "()I"⟩
abbrev cX11_told : ByteArray := prog_13_method_35_code
def yX11_told : MethodName := ⟨RX11, "told", "(I)I"⟩
abbrev cX11_singer : ByteArray := prog_13_method_36_code
def yX11_singer : MethodName := ⟨RX11, "singer", "(II)I"⟩
abbrev cX11_place : ByteArray := prog_13_method_37_code
def yX11_place : MethodName := ⟨RX11, "place", "(II)I"⟩
abbrev cX11_remember : ByteArray := prog_13_method_38_code
def yX11_remember : MethodName := ⟨RX11, "remember", "()V"⟩
abbrev cX11_hushNow : ByteArray := prog_13_method_39_code
def yX11_hushNow : MethodName := ⟨RX11, "hushNow", "(I)V"⟩
abbrev cX11_pass : ByteArray := prog_13_method_40_code
def yX11_pass : MethodName := ⟨RX11, "pass", "()V"⟩
abbrev cX11_versesRefused : ByteArray := prog_13_method_41_code
def yX11_versesRefused : MethodName := ⟨RX11, "versesRefused", "(I)I"⟩
abbrev cX11_verse : ByteArray := prog_13_method_42_code
def yX11_verse : MethodName := ⟨RX11, "verse", "(I)I"⟩
abbrev cX11_joinNow : ByteArray := prog_13_method_43_code
def yX11_joinNow : MethodName := ⟨RX11, "joinNow", "(I)V"⟩
abbrev cX11_join : ByteArray := prog_13_method_44_code
def yX11_join : MethodName := ⟨RX11, "join", "(I)I"⟩
abbrev cX11_hush : ByteArray := prog_13_method_45_code
def yX11_hush : MethodName := ⟨RX11, "hush", "(I)I"⟩
abbrev cX11_goNow : ByteArray := prog_13_method_46_code
def yX11_goNow : MethodName := ⟨RX11, "goNow", "(II)V"⟩
abbrev cX11_go : ByteArray := prog_13_method_47_code
def yX11_go : MethodName := ⟨RX11, "go", "(II)I"⟩
abbrev cX11_giveNow : ByteArray := prog_13_method_48_code
def yX11_giveNow : MethodName := ⟨RX11, "giveNow", "(II)V"⟩
abbrev cX11_give : ByteArray := prog_13_method_49_code
def yX11_give : MethodName := ⟨RX11, "give", "(II)I"⟩
abbrev cX11_rate : ByteArray := prog_13_method_50_code
def yX11_rate : MethodName := ⟨RX11, "rate", "(I)I"⟩
abbrev cX11_inspect : ByteArray := prog_13_method_51_code
def yX11_inspect : MethodName := ⟨RX11, "inspect", "(II)I"⟩
abbrev cX11_draw : ByteArray := prog_13_method_52_code
def yX11_draw : MethodName := ⟨RX11, "draw", "(I)I"⟩
abbrev cX11_chance : ByteArray := prog_13_method_53_code
def yX11_chance : MethodName := ⟨RX11, "chance", "()V"⟩
abbrev cX11_drift : ByteArray := prog_13_method_54_code
def yX11_drift : MethodName := ⟨RX11, "drift", "(I)I"⟩
abbrev cX11_undo : ByteArray := prog_13_method_55_code
def yX11_undo : MethodName := ⟨RX11, "undo", "()I"⟩
abbrev cX11_treasury : ByteArray := prog_13_method_56_code
def yX11_treasury : MethodName := ⟨RX11, "treasury", "(I)I"⟩
abbrev cX11_lasts : ByteArray := prog_13_method_57_code
def yX11_lasts : MethodName := ⟨RX11, "lasts", "(I)I"⟩
abbrev cX11_more : ByteArray := prog_13_method_58_code
def yX11_more : MethodName := ⟨RX11, "more", "(II)I"⟩
abbrev cX11_areBorne : ByteArray := prog_13_method_59_code
def yX11_areBorne : MethodName := ⟨RX11, "areBorne", "(II)Z"⟩
abbrev cX11_bears : ByteArray := prog_13_method_60_code
def yX11_bears : MethodName := ⟨RX11, "bears", "(III)I"⟩
abbrev cX11_canSing : ByteArray := prog_13_method_61_code
def yX11_canSing : MethodName := ⟨RX11, "canSing", "(III)Z"⟩
abbrev cX11_leastAt : ByteArray := prog_13_method_62_code
def yX11_leastAt : MethodName := ⟨RX11, "leastAt", "(III)I"⟩
abbrev cX11_findChanges : ByteArray := prog_13_method_63_code
def yX11_findChanges : MethodName := ⟨RX11, "findChanges", "(I)V"⟩
abbrev cX11_shared : ByteArray := prog_13_method_64_code
def yX11_shared : MethodName := ⟨RX11, "shared", "(II)I"⟩
abbrev cX11_owedByWay : ByteArray := prog_13_method_65_code
def yX11_owedByWay : MethodName := ⟨RX11, "owedByWay", "(II)I"⟩
abbrev cX11_groups : ByteArray := prog_13_method_66_code
def yX11_groups : MethodName := ⟨RX11, "groups", "(II)I"⟩
abbrev cX11_rates : ByteArray := prog_13_method_67_code
def yX11_rates : MethodName := ⟨RX11, "rates", "(I)I"⟩
abbrev cX11_dry : ByteArray := prog_13_method_68_code
def yX11_dry : MethodName := ⟨RX11, "dry", "(II)I"⟩
abbrev cX11_pay : ByteArray := prog_13_method_69_code
def yX11_pay : MethodName := ⟨RX11, "pay", "(II)I"⟩
abbrev cX11_couldBe : ByteArray := prog_13_method_70_code
def yX11_couldBe : MethodName := ⟨RX11, "couldBe", "(I)Z"⟩
abbrev cX11_choirsWith : ByteArray := prog_13_method_71_code
def yX11_choirsWith : MethodName := ⟨RX11, "choirsWith", "(I)I"⟩
abbrev cX11_choirs : ByteArray := prog_13_method_72_code
def yX11_choirs : MethodName := ⟨RX11, "choirs", "()I"⟩
abbrev cX11_inEach : ByteArray := prog_13_method_73_code
def yX11_inEach : MethodName := ⟨RX11, "inEach", "()I"⟩
abbrev cX11_lip : ByteArray := prog_13_method_74_code
def yX11_lip : MethodName := ⟨RX11, "lip", "()I"⟩
abbrev cX11_write : ByteArray := prog_13_method_75_code
def yX11_write : MethodName := ⟨RX11, "write", "(II)I"⟩
abbrev cX11_tear : ByteArray := prog_13_method_76_code
def yX11_tear : MethodName := ⟨RX11, "tear", "()I"⟩
abbrev cX11_judge : ByteArray := prog_13_method_77_code
def yX11_judge : MethodName := ⟨RX11, "judge", "()I"⟩
abbrev cX11_seed : ByteArray := prog_13_method_78_code
def yX11_seed : MethodName := ⟨RX11, "seed", "(I)I"⟩
abbrev cX11_keep : ByteArray := prog_13_method_79_code
def yX11_keep : MethodName := ⟨RX11, "keep", "(I)I"⟩
abbrev cX11_goBack : ByteArray := prog_13_method_80_code
def yX11_goBack : MethodName := ⟨RX11, "goBack", "(I)I"⟩
def RJ6 : String := "java/lang/Integer"
def TJ6 : u_T := fun k => match k with
  | _ => ("", "", "", false)
def tyJ6 : Nat → FieldType := fun k => match k with
  | _ => .int
abbrev wsJ60 : List Cond := u_ws RJ6 TJ6 0
theorem nmJ6 : ∀ a, a < 0 → ∀ b, b < 0 → a ≠ b → (TJ6 a).2.1 ≠ (TJ6 b).2.1 := by decide +kernel
theorem tyJ6_ok : ∀ k, k < 0 → parseFieldDescriptor (TJ6 k).2.2.1 = some (tyJ6 k) := by decide +kernel
abbrev cJ6_bitCount_0f7a4 : ByteArray := prog_14_method_49_code
def yJ6_bitCount_0f7a4 : MethodName := ⟨RJ6, "bitCount", "(I)I"⟩
def RJ9 : String := "java/lang/Math"
def TJ9 : u_T := fun k => match k with
  | _ => ("", "", "", false)
def tyJ9 : Nat → FieldType := fun k => match k with
  | _ => .int
abbrev wsJ90 : List Cond := u_ws RJ9 TJ9 0
theorem nmJ9 : ∀ a, a < 0 → ∀ b, b < 0 → a ≠ b → (TJ9 a).2.1 ≠ (TJ9 b).2.1 := by decide +kernel
theorem tyJ9_ok : ∀ k, k < 0 → parseFieldDescriptor (TJ9 k).2.2.1 = some (tyJ9 k) := by decide +kernel
abbrev cJ9_max_7cf53 : ByteArray := prog_15_method_65_code
def yJ9_max_7cf53 : MethodName := ⟨RJ9, "max", "(II)I"⟩
abbrev cJ9_min_7cf53 : ByteArray := prog_15_method_69_code
def yJ9_min_7cf53 : MethodName := ⟨RJ9, "min", "(II)I"⟩
def RJ10 : String := "java/lang/System"
def TJ10 : u_T := fun k => match k with
  | _ => ("", "", "", false)
def tyJ10 : Nat → FieldType := fun k => match k with
  | _ => .int
abbrev wsJ100 : List Cond := u_ws RJ10 TJ10 0
theorem nmJ10 : ∀ a, a < 0 → ∀ b, b < 0 → a ≠ b → (TJ10 a).2.1 ≠ (TJ10 b).2.1 := by decide +kernel
theorem tyJ10_ok : ∀ k, k < 0 → parseFieldDescriptor (TJ10 k).2.2.1 = some (tyJ10 k) := by decide +kernel
def RL : String := "SongSquaresLaw"
abbrev cL_law : ByteArray := code
def yL_law : MethodName := ⟨RL, "law", "([I)Z"⟩
abbrev vwCl : List vw_C := [(RX0, TX0, 3), (RX1, TX1, 1), (RX2, TX2, 6), (RX3, TX3, 9), (RX4, TX4, 3), (RX5, TX5, 6), (RX6, TX6, 3), (RX7, TX7, 5), (RX8, TX8, 10), (RX9, TX9, 4), (RX10, TX10, 12), (RX11, TX11, 40)]
end
section
theorem dX0_init_0 : decode cX0_init 0 = .ok (.aload_n 0, 1) := by decide +kernel
theorem dX0_init_1 : decode cX0_init 1 = .ok (.invokespecial 3, 3) := by decide +kernel
theorem dX0_init_4 : decode cX0_init 4 = .ok (.aload_n 0, 1) := by decide +kernel
theorem dX0_init_5 : decode cX0_init 5 = .ok (.iconst 0, 1) := by decide +kernel
theorem dX0_init_6 : decode cX0_init 6 = .ok (.putfield 9, 3) := by decide +kernel
theorem dX0_init_9 : decode cX0_init 9 = .ok (.aload_n 0, 1) := by decide +kernel
theorem dX0_init_10 : decode cX0_init 10 = .ok (.iconst (-1), 1) := by decide +kernel
theorem dX0_init_11 : decode cX0_init 11 = .ok (.putfield 15, 3) := by decide +kernel
theorem dX0_init_14 : decode cX0_init 14 = .ok (.aload_n 0, 1) := by decide +kernel
theorem dX0_init_15 : decode cX0_init 15 = .ok (.bipush 7, 2) := by decide +kernel
theorem dX0_init_17 : decode cX0_init 17 = .ok (.newarray .int, 2) := by decide +kernel
theorem dX0_init_19 : decode cX0_init 19 = .ok (.putfield 18, 3) := by decide +kernel
theorem dX0_init_22 : decode cX0_init 22 = .ok (.return_, 1) := by decide +kernel
theorem dX0_gather_0 : decode cX0_gather 0 = .ok (.aload_n 0, 1) := by decide +kernel
theorem dX0_gather_1 : decode cX0_gather 1 = .ok (.iconst 0, 1) := by decide +kernel
theorem dX0_gather_2 : decode cX0_gather 2 = .ok (.putfield 9, 3) := by decide +kernel
theorem dX0_gather_5 : decode cX0_gather 5 = .ok (.aload_n 0, 1) := by decide +kernel
theorem dX0_gather_6 : decode cX0_gather 6 = .ok (.iconst (-1), 1) := by decide +kernel
theorem dX0_gather_7 : decode cX0_gather 7 = .ok (.putfield 15, 3) := by decide +kernel
theorem dX0_gather_10 : decode cX0_gather 10 = .ok (.iconst 0, 1) := by decide +kernel
theorem dX0_gather_11 : decode cX0_gather 11 = .ok (.istore 4, 2) := by decide +kernel
theorem dX0_gather_13 : decode cX0_gather 13 = .ok (.iload 4, 2) := by decide +kernel
theorem dX0_gather_15 : decode cX0_gather 15 = .ok (.bipush 7, 2) := by decide +kernel
theorem dX0_gather_17 : decode cX0_gather 17 = .ok (.if_icmp .ge 17, 3) := by decide +kernel
theorem dX0_gather_20 : decode cX0_gather 20 = .ok (.aload_n 0, 1) := by decide +kernel
theorem dX0_gather_21 : decode cX0_gather 21 = .ok (.getfield 18, 3) := by decide +kernel
theorem dX0_gather_24 : decode cX0_gather 24 = .ok (.iload 4, 2) := by decide +kernel
theorem dX0_gather_26 : decode cX0_gather 26 = .ok (.iconst 0, 1) := by decide +kernel
theorem dX0_gather_27 : decode cX0_gather 27 = .ok (.iastore, 1) := by decide +kernel
theorem dX0_gather_28 : decode cX0_gather 28 = .ok (.iinc 4 1, 3) := by decide +kernel
theorem dX0_gather_31 : decode cX0_gather 31 = .ok (.goto (-18), 3) := by decide +kernel
theorem dX0_gather_34 : decode cX0_gather 34 = .ok (.iconst 0, 1) := by decide +kernel
theorem dX0_gather_35 : decode cX0_gather 35 = .ok (.istore 4, 2) := by decide +kernel
theorem dX0_gather_37 : decode cX0_gather 37 = .ok (.iload 4, 2) := by decide +kernel
theorem dX0_gather_39 : decode cX0_gather 39 = .ok (.aload_n 1, 1) := by decide +kernel
theorem dX0_gather_40 : decode cX0_gather 40 = .ok (.invokevirtual 22, 3) := by decide +kernel
theorem dX0_gather_43 : decode cX0_gather 43 = .ok (.if_icmp .gt 25, 3) := by decide +kernel
theorem dX0_gather_46 : decode cX0_gather 46 = .ok (.aload_n 3, 1) := by decide +kernel
theorem dX0_gather_47 : decode cX0_gather 47 = .ok (.iload 4, 2) := by decide +kernel
theorem dX0_gather_49 : decode cX0_gather 49 = .ok (.aload_n 2, 1) := by decide +kernel
theorem dX0_gather_50 : decode cX0_gather 50 = .ok (.invokevirtual 28, 3) := by decide +kernel
theorem dX0_gather_53 : decode cX0_gather 53 = .ok (.ifCond .eq 9, 3) := by decide +kernel
theorem dX0_gather_56 : decode cX0_gather 56 = .ok (.aload_n 0, 1) := by decide +kernel
theorem dX0_gather_57 : decode cX0_gather 57 = .ok (.iload 4, 2) := by decide +kernel
theorem dX0_gather_59 : decode cX0_gather 59 = .ok (.invokevirtual 34, 3) := by decide +kernel
theorem dX0_gather_62 : decode cX0_gather 62 = .ok (.iinc 4 1, 3) := by decide +kernel
theorem dX0_gather_65 : decode cX0_gather 65 = .ok (.goto (-28), 3) := by decide +kernel
theorem dX0_gather_68 : decode cX0_gather 68 = .ok (.return_, 1) := by decide +kernel
theorem dX0_add_0 : decode cX0_add 0 = .ok (.aload_n 0, 1) := by decide +kernel
theorem dX0_add_1 : decode cX0_add 1 = .ok (.dup, 1) := by decide +kernel
theorem dX0_add_2 : decode cX0_add 2 = .ok (.getfield 9, 3) := by decide +kernel
theorem dX0_add_5 : decode cX0_add 5 = .ok (.iconst 1, 1) := by decide +kernel
theorem dX0_add_6 : decode cX0_add 6 = .ok (.iadd, 1) := by decide +kernel
theorem dX0_add_7 : decode cX0_add 7 = .ok (.putfield 9, 3) := by decide +kernel
theorem dX0_add_10 : decode cX0_add 10 = .ok (.aload_n 0, 1) := by decide +kernel
theorem dX0_add_11 : decode cX0_add 11 = .ok (.dup, 1) := by decide +kernel
theorem dX0_add_12 : decode cX0_add 12 = .ok (.getfield 15, 3) := by decide +kernel
theorem dX0_add_15 : decode cX0_add 15 = .ok (.iload_n 1, 1) := by decide +kernel
theorem dX0_add_16 : decode cX0_add 16 = .ok (.iand, 1) := by decide +kernel
theorem dX0_add_17 : decode cX0_add 17 = .ok (.putfield 15, 3) := by decide +kernel
theorem dX0_add_20 : decode cX0_add 20 = .ok (.iconst 0, 1) := by decide +kernel
theorem dX0_add_21 : decode cX0_add 21 = .ok (.istore_n 2, 1) := by decide +kernel
theorem dX0_add_22 : decode cX0_add 22 = .ok (.iload_n 2, 1) := by decide +kernel
theorem dX0_add_23 : decode cX0_add 23 = .ok (.bipush 7, 2) := by decide +kernel
theorem dX0_add_25 : decode cX0_add 25 = .ok (.if_icmp .ge 23, 3) := by decide +kernel
theorem dX0_add_28 : decode cX0_add 28 = .ok (.aload_n 0, 1) := by decide +kernel
theorem dX0_add_29 : decode cX0_add 29 = .ok (.getfield 18, 3) := by decide +kernel
theorem dX0_add_32 : decode cX0_add 32 = .ok (.iload_n 2, 1) := by decide +kernel
theorem dX0_add_33 : decode cX0_add 33 = .ok (.dup2, 1) := by decide +kernel
theorem dX0_add_34 : decode cX0_add 34 = .ok (.iaload, 1) := by decide +kernel
theorem dX0_add_35 : decode cX0_add 35 = .ok (.iload_n 1, 1) := by decide +kernel
theorem dX0_add_36 : decode cX0_add 36 = .ok (.iload_n 2, 1) := by decide +kernel
theorem dX0_add_37 : decode cX0_add 37 = .ok (.ishr, 1) := by decide +kernel
theorem dX0_add_38 : decode cX0_add 38 = .ok (.iconst 1, 1) := by decide +kernel
theorem dX0_add_39 : decode cX0_add 39 = .ok (.iand, 1) := by decide +kernel
theorem dX0_add_40 : decode cX0_add 40 = .ok (.iadd, 1) := by decide +kernel
theorem dX0_add_41 : decode cX0_add 41 = .ok (.iastore, 1) := by decide +kernel
theorem dX0_add_42 : decode cX0_add 42 = .ok (.iinc 2 1, 3) := by decide +kernel
theorem dX0_add_45 : decode cX0_add 45 = .ok (.goto (-23), 3) := by decide +kernel
theorem dX0_add_48 : decode cX0_add 48 = .ok (.return_, 1) := by decide +kernel
theorem dX0_bestLip_0 : decode cX0_bestLip 0 = .ok (.iconst (-1), 1) := by decide +kernel
theorem dX0_bestLip_1 : decode cX0_bestLip 1 = .ok (.istore_n 2, 1) := by decide +kernel
theorem dX0_bestLip_2 : decode cX0_bestLip 2 = .ok (.aload_n 0, 1) := by decide +kernel
theorem dX0_bestLip_3 : decode cX0_bestLip 3 = .ok (.getfield 9, 3) := by decide +kernel
theorem dX0_bestLip_6 : decode cX0_bestLip 6 = .ok (.istore_n 3, 1) := by decide +kernel
theorem dX0_bestLip_7 : decode cX0_bestLip 7 = .ok (.iconst 0, 1) := by decide +kernel
theorem dX0_bestLip_8 : decode cX0_bestLip 8 = .ok (.istore 4, 2) := by decide +kernel
theorem dX0_bestLip_10 : decode cX0_bestLip 10 = .ok (.iload 4, 2) := by decide +kernel
theorem dX0_bestLip_12 : decode cX0_bestLip 12 = .ok (.aload_n 1, 1) := by decide +kernel
theorem dX0_bestLip_13 : decode cX0_bestLip 13 = .ok (.getfield 38, 3) := by decide +kernel
theorem dX0_bestLip_16 : decode cX0_bestLip 16 = .ok (.if_icmp .ge 45, 3) := by decide +kernel
theorem dX0_bestLip_19 : decode cX0_bestLip 19 = .ok (.aload_n 0, 1) := by decide +kernel
theorem dX0_bestLip_20 : decode cX0_bestLip 20 = .ok (.getfield 18, 3) := by decide +kernel
theorem dX0_bestLip_23 : decode cX0_bestLip 23 = .ok (.iload 4, 2) := by decide +kernel
theorem dX0_bestLip_25 : decode cX0_bestLip 25 = .ok (.iaload, 1) := by decide +kernel
theorem dX0_bestLip_26 : decode cX0_bestLip 26 = .ok (.aload_n 0, 1) := by decide +kernel
theorem dX0_bestLip_27 : decode cX0_bestLip 27 = .ok (.getfield 9, 3) := by decide +kernel
theorem dX0_bestLip_30 : decode cX0_bestLip 30 = .ok (.aload_n 0, 1) := by decide +kernel
theorem dX0_bestLip_31 : decode cX0_bestLip 31 = .ok (.getfield 18, 3) := by decide +kernel
theorem dX0_bestLip_34 : decode cX0_bestLip 34 = .ok (.iload 4, 2) := by decide +kernel
theorem dX0_bestLip_36 : decode cX0_bestLip 36 = .ok (.iaload, 1) := by decide +kernel
theorem dX0_bestLip_37 : decode cX0_bestLip 37 = .ok (.isub, 1) := by decide +kernel
theorem dX0_bestLip_38 : decode cX0_bestLip 38 = .ok (.invokestatic 41, 3) := by decide +kernel
theorem dX0_bestLip_41 : decode cX0_bestLip 41 = .ok (.istore 5, 2) := by decide +kernel
theorem dX0_bestLip_43 : decode cX0_bestLip 43 = .ok (.iload 5, 2) := by decide +kernel
theorem dX0_bestLip_45 : decode cX0_bestLip 45 = .ok (.iload_n 3, 1) := by decide +kernel
theorem dX0_bestLip_46 : decode cX0_bestLip 46 = .ok (.if_icmp .ge 9, 3) := by decide +kernel
theorem dX0_bestLip_49 : decode cX0_bestLip 49 = .ok (.iload 4, 2) := by decide +kernel
theorem dX0_bestLip_51 : decode cX0_bestLip 51 = .ok (.istore_n 2, 1) := by decide +kernel
theorem dX0_bestLip_52 : decode cX0_bestLip 52 = .ok (.iload 5, 2) := by decide +kernel
theorem dX0_bestLip_54 : decode cX0_bestLip 54 = .ok (.istore_n 3, 1) := by decide +kernel
theorem dX0_bestLip_55 : decode cX0_bestLip 55 = .ok (.iinc 4 1, 3) := by decide +kernel
theorem dX0_bestLip_58 : decode cX0_bestLip 58 = .ok (.goto (-48), 3) := by decide +kernel
theorem dX0_bestLip_61 : decode cX0_bestLip 61 = .ok (.iload_n 2, 1) := by decide +kernel
theorem dX0_bestLip_62 : decode cX0_bestLip 62 = .ok (.ireturn, 1) := by decide +kernel
theorem dX1_init_0 : decode cX1_init 0 = .ok (.aload_n 0, 1) := by decide +kernel
theorem dX1_init_1 : decode cX1_init 1 = .ok (.invokespecial 1, 3) := by decide +kernel
theorem dX1_init_4 : decode cX1_init 4 = .ok (.aload_n 0, 1) := by decide +kernel
theorem dX1_init_5 : decode cX1_init 5 = .ok (.iconst 0, 1) := by decide +kernel
theorem dX1_init_6 : decode cX1_init 6 = .ok (.putfield 7, 3) := by decide +kernel
theorem dX1_init_9 : decode cX1_init 9 = .ok (.return_, 1) := by decide +kernel
theorem dX1_draw_0 : decode cX1_draw 0 = .ok (.aload_n 0, 1) := by decide +kernel
theorem dX1_draw_1 : decode cX1_draw 1 = .ok (.aload_n 0, 1) := by decide +kernel
theorem dX1_draw_2 : decode cX1_draw 2 = .ok (.getfield 7, 3) := by decide +kernel
theorem dX1_draw_5 : decode cX1_draw 5 = .ok (.i2l, 1) := by decide +kernel
theorem dX1_draw_6 : decode cX1_draw 6 = .ok (.ldc2_w 13, 3) := by decide +kernel
theorem dX1_draw_9 : decode cX1_draw 9 = .ok (.lmul, 1) := by decide +kernel
theorem dX1_draw_10 : decode cX1_draw 10 = .ok (.ldc2_w 15, 3) := by decide +kernel
theorem dX1_draw_13 : decode cX1_draw 13 = .ok (.ladd, 1) := by decide +kernel
theorem dX1_draw_14 : decode cX1_draw 14 = .ok (.ldc2_w 17, 3) := by decide +kernel
theorem dX1_draw_17 : decode cX1_draw 17 = .ok (.land, 1) := by decide +kernel
theorem dX1_draw_18 : decode cX1_draw 18 = .ok (.l2i, 1) := by decide +kernel
theorem dX1_draw_19 : decode cX1_draw 19 = .ok (.putfield 7, 3) := by decide +kernel
theorem dX1_draw_22 : decode cX1_draw 22 = .ok (.iload_n 1, 1) := by decide +kernel
theorem dX1_draw_23 : decode cX1_draw 23 = .ok (.ifCond .le 15, 3) := by decide +kernel
theorem dX1_draw_26 : decode cX1_draw 26 = .ok (.aload_n 0, 1) := by decide +kernel
theorem dX1_draw_27 : decode cX1_draw 27 = .ok (.getfield 7, 3) := by decide +kernel
theorem dX1_draw_30 : decode cX1_draw 30 = .ok (.ldc 19, 2) := by decide +kernel
theorem dX1_draw_32 : decode cX1_draw 32 = .ok (.idiv, 1) := by decide +kernel
theorem dX1_draw_33 : decode cX1_draw 33 = .ok (.iload_n 1, 1) := by decide +kernel
theorem dX1_draw_34 : decode cX1_draw 34 = .ok (.irem, 1) := by decide +kernel
theorem dX1_draw_35 : decode cX1_draw 35 = .ok (.goto 4, 3) := by decide +kernel
theorem dX1_draw_38 : decode cX1_draw 38 = .ok (.iconst 0, 1) := by decide +kernel
theorem dX1_draw_39 : decode cX1_draw 39 = .ok (.ireturn, 1) := by decide +kernel
theorem dX2_init_0 : decode cX2_init 0 = .ok (.aload_n 0, 1) := by decide +kernel
theorem dX2_init_1 : decode cX2_init 1 = .ok (.invokespecial 3, 3) := by decide +kernel
theorem dX2_init_4 : decode cX2_init 4 = .ok (.aload_n 0, 1) := by decide +kernel
theorem dX2_init_5 : decode cX2_init 5 = .ok (.bipush 7, 2) := by decide +kernel
theorem dX2_init_7 : decode cX2_init 7 = .ok (.newarray .int, 2) := by decide +kernel
theorem dX2_init_9 : decode cX2_init 9 = .ok (.putfield 9, 3) := by decide +kernel
theorem dX2_init_12 : decode cX2_init 12 = .ok (.aload_n 0, 1) := by decide +kernel
theorem dX2_init_13 : decode cX2_init 13 = .ok (.sipush 4096, 3) := by decide +kernel
theorem dX2_init_16 : decode cX2_init 16 = .ok (.newarray .int, 2) := by decide +kernel
theorem dX2_init_18 : decode cX2_init 18 = .ok (.putfield 15, 3) := by decide +kernel
theorem dX2_init_21 : decode cX2_init 21 = .ok (.aload_n 0, 1) := by decide +kernel
theorem dX2_init_22 : decode cX2_init 22 = .ok (.bipush 7, 2) := by decide +kernel
theorem dX2_init_24 : decode cX2_init 24 = .ok (.newarray .int, 2) := by decide +kernel
theorem dX2_init_26 : decode cX2_init 26 = .ok (.putfield 18, 3) := by decide +kernel
theorem dX2_init_29 : decode cX2_init 29 = .ok (.aload_n 0, 1) := by decide +kernel
theorem dX2_init_30 : decode cX2_init 30 = .ok (.iconst 0, 1) := by decide +kernel
theorem dX2_init_31 : decode cX2_init 31 = .ok (.putfield 21, 3) := by decide +kernel
theorem dX2_init_34 : decode cX2_init 34 = .ok (.aload_n 0, 1) := by decide +kernel
theorem dX2_init_35 : decode cX2_init 35 = .ok (.iconst 0, 1) := by decide +kernel
theorem dX2_init_36 : decode cX2_init 36 = .ok (.putfield 25, 3) := by decide +kernel
theorem dX2_init_39 : decode cX2_init 39 = .ok (.aload_n 0, 1) := by decide +kernel
theorem dX2_init_40 : decode cX2_init 40 = .ok (.aload_n 1, 1) := by decide +kernel
theorem dX2_init_41 : decode cX2_init 41 = .ok (.putfield 28, 3) := by decide +kernel
theorem dX2_init_44 : decode cX2_init 44 = .ok (.return_, 1) := by decide +kernel
theorem dX2_group_0 : decode cX2_group 0 = .ok (.aload_n 0, 1) := by decide +kernel
theorem dX2_group_1 : decode cX2_group 1 = .ok (.iconst 0, 1) := by decide +kernel
theorem dX2_group_2 : decode cX2_group 2 = .ok (.putfield 21, 3) := by decide +kernel
theorem dX2_group_5 : decode cX2_group 5 = .ok (.iconst 0, 1) := by decide +kernel
theorem dX2_group_6 : decode cX2_group 6 = .ok (.istore_n 3, 1) := by decide +kernel
theorem dX2_group_7 : decode cX2_group 7 = .ok (.iload_n 3, 1) := by decide +kernel
theorem dX2_group_8 : decode cX2_group 8 = .ok (.aload_n 0, 1) := by decide +kernel
theorem dX2_group_9 : decode cX2_group 9 = .ok (.getfield 28, 3) := by decide +kernel
theorem dX2_group_12 : decode cX2_group 12 = .ok (.getfield 32, 3) := by decide +kernel
theorem dX2_group_15 : decode cX2_group 15 = .ok (.if_icmp .ge 44, 3) := by decide +kernel
theorem dX2_group_18 : decode cX2_group 18 = .ok (.aload_n 0, 1) := by decide +kernel
theorem dX2_group_19 : decode cX2_group 19 = .ok (.getfield 18, 3) := by decide +kernel
theorem dX2_group_22 : decode cX2_group 22 = .ok (.iload_n 3, 1) := by decide +kernel
theorem dX2_group_23 : decode cX2_group 23 = .ok (.iconst (-1), 1) := by decide +kernel
theorem dX2_group_24 : decode cX2_group 24 = .ok (.iastore, 1) := by decide +kernel
theorem dX2_group_25 : decode cX2_group 25 = .ok (.iload_n 3, 1) := by decide +kernel
theorem dX2_group_26 : decode cX2_group 26 = .ok (.iload_n 1, 1) := by decide +kernel
theorem dX2_group_27 : decode cX2_group 27 = .ok (.invokestatic 37, 3) := by decide +kernel
theorem dX2_group_30 : decode cX2_group 30 = .ok (.ifCond .eq 23, 3) := by decide +kernel
theorem dX2_group_33 : decode cX2_group 33 = .ok (.aload_n 0, 1) := by decide +kernel
theorem dX2_group_34 : decode cX2_group 34 = .ok (.getfield 9, 3) := by decide +kernel
theorem dX2_group_37 : decode cX2_group 37 = .ok (.aload_n 0, 1) := by decide +kernel
theorem dX2_group_38 : decode cX2_group 38 = .ok (.getfield 21, 3) := by decide +kernel
theorem dX2_group_41 : decode cX2_group 41 = .ok (.iload_n 3, 1) := by decide +kernel
theorem dX2_group_42 : decode cX2_group 42 = .ok (.iastore, 1) := by decide +kernel
theorem dX2_group_43 : decode cX2_group 43 = .ok (.aload_n 0, 1) := by decide +kernel
theorem dX2_group_44 : decode cX2_group 44 = .ok (.dup, 1) := by decide +kernel
theorem dX2_group_45 : decode cX2_group 45 = .ok (.getfield 21, 3) := by decide +kernel
theorem dX2_group_48 : decode cX2_group 48 = .ok (.iconst 1, 1) := by decide +kernel
theorem dX2_group_49 : decode cX2_group 49 = .ok (.iadd, 1) := by decide +kernel
theorem dX2_group_50 : decode cX2_group 50 = .ok (.putfield 21, 3) := by decide +kernel
theorem dX2_group_53 : decode cX2_group 53 = .ok (.iinc 3 1, 3) := by decide +kernel
theorem dX2_group_56 : decode cX2_group 56 = .ok (.goto (-49), 3) := by decide +kernel
theorem dX2_group_59 : decode cX2_group 59 = .ok (.iconst 1, 1) := by decide +kernel
theorem dX2_group_60 : decode cX2_group 60 = .ok (.iconst 3, 1) := by decide +kernel
theorem dX2_group_61 : decode cX2_group 61 = .ok (.aload_n 0, 1) := by decide +kernel
theorem dX2_group_62 : decode cX2_group 62 = .ok (.getfield 28, 3) := by decide +kernel
theorem dX2_group_65 : decode cX2_group 65 = .ok (.getfield 41, 3) := by decide +kernel
theorem dX2_group_68 : decode cX2_group 68 = .ok (.imul, 1) := by decide +kernel
theorem dX2_group_69 : decode cX2_group 69 = .ok (.ishl, 1) := by decide +kernel
theorem dX2_group_70 : decode cX2_group 70 = .ok (.iconst 1, 1) := by decide +kernel
theorem dX2_group_71 : decode cX2_group 71 = .ok (.isub, 1) := by decide +kernel
theorem dX2_group_72 : decode cX2_group 72 = .ok (.istore_n 3, 1) := by decide +kernel
theorem dX2_group_73 : decode cX2_group 73 = .ok (.iload_n 3, 1) := by decide +kernel
theorem dX2_group_74 : decode cX2_group 74 = .ok (.ifCond .lt 21, 3) := by decide +kernel
theorem dX2_group_77 : decode cX2_group 77 = .ok (.aload_n 0, 1) := by decide +kernel
theorem dX2_group_78 : decode cX2_group 78 = .ok (.getfield 15, 3) := by decide +kernel
theorem dX2_group_81 : decode cX2_group 81 = .ok (.iload_n 3, 1) := by decide +kernel
theorem dX2_group_82 : decode cX2_group 82 = .ok (.aload_n 0, 1) := by decide +kernel
theorem dX2_group_83 : decode cX2_group 83 = .ok (.iload_n 3, 1) := by decide +kernel
theorem dX2_group_84 : decode cX2_group 84 = .ok (.aload_n 2, 1) := by decide +kernel
theorem dX2_group_85 : decode cX2_group 85 = .ok (.invokevirtual 44, 3) := by decide +kernel
theorem dX2_group_88 : decode cX2_group 88 = .ok (.iastore, 1) := by decide +kernel
theorem dX2_group_89 : decode cX2_group 89 = .ok (.iinc 3 (-1), 3) := by decide +kernel
theorem dX2_group_92 : decode cX2_group 92 = .ok (.goto (-19), 3) := by decide +kernel
theorem dX2_group_95 : decode cX2_group 95 = .ok (.aload_n 0, 1) := by decide +kernel
theorem dX2_group_96 : decode cX2_group 96 = .ok (.aload_n 0, 1) := by decide +kernel
theorem dX2_group_97 : decode cX2_group 97 = .ok (.getfield 15, 3) := by decide +kernel
theorem dX2_group_100 : decode cX2_group 100 = .ok (.iconst 0, 1) := by decide +kernel
theorem dX2_group_101 : decode cX2_group 101 = .ok (.iaload, 1) := by decide +kernel
theorem dX2_group_102 : decode cX2_group 102 = .ok (.putfield 25, 3) := by decide +kernel
theorem dX2_group_105 : decode cX2_group 105 = .ok (.iconst 0, 1) := by decide +kernel
theorem dX2_group_106 : decode cX2_group 106 = .ok (.istore_n 3, 1) := by decide +kernel
theorem dX2_group_107 : decode cX2_group 107 = .ok (.iconst 0, 1) := by decide +kernel
theorem dX2_group_108 : decode cX2_group 108 = .ok (.istore 4, 2) := by decide +kernel
theorem dX2_group_110 : decode cX2_group 110 = .ok (.iload 4, 2) := by decide +kernel
theorem dX2_group_112 : decode cX2_group 112 = .ok (.aload_n 0, 1) := by decide +kernel
theorem dX2_group_113 : decode cX2_group 113 = .ok (.getfield 21, 3) := by decide +kernel
theorem dX2_group_116 : decode cX2_group 116 = .ok (.if_icmp .ge 40, 3) := by decide +kernel
theorem dX2_group_119 : decode cX2_group 119 = .ok (.aload_n 0, 1) := by decide +kernel
theorem dX2_group_120 : decode cX2_group 120 = .ok (.iload_n 3, 1) := by decide +kernel
theorem dX2_group_121 : decode cX2_group 121 = .ok (.aload_n 2, 1) := by decide +kernel
theorem dX2_group_122 : decode cX2_group 122 = .ok (.invokevirtual 48, 3) := by decide +kernel
theorem dX2_group_125 : decode cX2_group 125 = .ok (.istore 5, 2) := by decide +kernel
theorem dX2_group_127 : decode cX2_group 127 = .ok (.aload_n 0, 1) := by decide +kernel
theorem dX2_group_128 : decode cX2_group 128 = .ok (.getfield 18, 3) := by decide +kernel
theorem dX2_group_131 : decode cX2_group 131 = .ok (.aload_n 0, 1) := by decide +kernel
theorem dX2_group_132 : decode cX2_group 132 = .ok (.getfield 9, 3) := by decide +kernel
theorem dX2_group_135 : decode cX2_group 135 = .ok (.iload 4, 2) := by decide +kernel
theorem dX2_group_137 : decode cX2_group 137 = .ok (.iaload, 1) := by decide +kernel
theorem dX2_group_138 : decode cX2_group 138 = .ok (.iload 5, 2) := by decide +kernel
theorem dX2_group_140 : decode cX2_group 140 = .ok (.iastore, 1) := by decide +kernel
theorem dX2_group_141 : decode cX2_group 141 = .ok (.iload_n 3, 1) := by decide +kernel
theorem dX2_group_142 : decode cX2_group 142 = .ok (.iconst 1, 1) := by decide +kernel
theorem dX2_group_143 : decode cX2_group 143 = .ok (.iconst 3, 1) := by decide +kernel
theorem dX2_group_144 : decode cX2_group 144 = .ok (.iload 5, 2) := by decide +kernel
theorem dX2_group_146 : decode cX2_group 146 = .ok (.imul, 1) := by decide +kernel
theorem dX2_group_147 : decode cX2_group 147 = .ok (.ishl, 1) := by decide +kernel
theorem dX2_group_148 : decode cX2_group 148 = .ok (.iadd, 1) := by decide +kernel
theorem dX2_group_149 : decode cX2_group 149 = .ok (.istore_n 3, 1) := by decide +kernel
theorem dX2_group_150 : decode cX2_group 150 = .ok (.iinc 4 1, 3) := by decide +kernel
theorem dX2_group_153 : decode cX2_group 153 = .ok (.goto (-43), 3) := by decide +kernel
theorem dX2_group_156 : decode cX2_group 156 = .ok (.return_, 1) := by decide +kernel
theorem dX2_leastFrom_0 : decode cX2_leastFrom 0 = .ok (.iload_n 1, 1) := by decide +kernel
theorem dX2_leastFrom_1 : decode cX2_leastFrom 1 = .ok (.invokestatic 51, 3) := by decide +kernel
theorem dX2_leastFrom_4 : decode cX2_leastFrom 4 = .ok (.istore_n 3, 1) := by decide +kernel
theorem dX2_leastFrom_5 : decode cX2_leastFrom 5 = .ok (.iload_n 3, 1) := by decide +kernel
theorem dX2_leastFrom_6 : decode cX2_leastFrom 6 = .ok (.aload_n 0, 1) := by decide +kernel
theorem dX2_leastFrom_7 : decode cX2_leastFrom 7 = .ok (.getfield 21, 3) := by decide +kernel
theorem dX2_leastFrom_10 : decode cX2_leastFrom 10 = .ok (.if_icmp .lt 18, 3) := by decide +kernel
theorem dX2_leastFrom_13 : decode cX2_leastFrom 13 = .ok (.iload_n 3, 1) := by decide +kernel
theorem dX2_leastFrom_14 : decode cX2_leastFrom 14 = .ok (.aload_n 0, 1) := by decide +kernel
theorem dX2_leastFrom_15 : decode cX2_leastFrom 15 = .ok (.getfield 21, 3) := by decide +kernel
theorem dX2_leastFrom_18 : decode cX2_leastFrom 18 = .ok (.if_icmp .ne 7, 3) := by decide +kernel
theorem dX2_leastFrom_21 : decode cX2_leastFrom 21 = .ok (.iconst 0, 1) := by decide +kernel
theorem dX2_leastFrom_22 : decode cX2_leastFrom 22 = .ok (.goto 5, 3) := by decide +kernel
theorem dX2_leastFrom_25 : decode cX2_leastFrom 25 = .ok (.ldc 55, 2) := by decide +kernel
theorem dX2_leastFrom_27 : decode cX2_leastFrom 27 = .ok (.ireturn, 1) := by decide +kernel
theorem dX2_leastFrom_28 : decode cX2_leastFrom 28 = .ok (.aload_n 0, 1) := by decide +kernel
theorem dX2_leastFrom_29 : decode cX2_leastFrom 29 = .ok (.iload_n 1, 1) := by decide +kernel
theorem dX2_leastFrom_30 : decode cX2_leastFrom 30 = .ok (.aload_n 0, 1) := by decide +kernel
theorem dX2_leastFrom_31 : decode cX2_leastFrom 31 = .ok (.iload_n 1, 1) := by decide +kernel
theorem dX2_leastFrom_32 : decode cX2_leastFrom 32 = .ok (.aload_n 2, 1) := by decide +kernel
theorem dX2_leastFrom_33 : decode cX2_leastFrom 33 = .ok (.invokevirtual 48, 3) := by decide +kernel
theorem dX2_leastFrom_36 : decode cX2_leastFrom 36 = .ok (.aload_n 2, 1) := by decide +kernel
theorem dX2_leastFrom_37 : decode cX2_leastFrom 37 = .ok (.invokevirtual 56, 3) := by decide +kernel
theorem dX2_leastFrom_40 : decode cX2_leastFrom 40 = .ok (.ireturn, 1) := by decide +kernel
theorem dX2_bestPlace_0 : decode cX2_bestPlace 0 = .ok (.iconst 0, 1) := by decide +kernel
theorem dX2_bestPlace_1 : decode cX2_bestPlace 1 = .ok (.istore_n 3, 1) := by decide +kernel
theorem dX2_bestPlace_2 : decode cX2_bestPlace 2 = .ok (.aload_n 0, 1) := by decide +kernel
theorem dX2_bestPlace_3 : decode cX2_bestPlace 3 = .ok (.iload_n 1, 1) := by decide +kernel
theorem dX2_bestPlace_4 : decode cX2_bestPlace 4 = .ok (.iconst 0, 1) := by decide +kernel
theorem dX2_bestPlace_5 : decode cX2_bestPlace 5 = .ok (.aload_n 2, 1) := by decide +kernel
theorem dX2_bestPlace_6 : decode cX2_bestPlace 6 = .ok (.invokevirtual 56, 3) := by decide +kernel
theorem dX2_bestPlace_9 : decode cX2_bestPlace 9 = .ok (.istore 4, 2) := by decide +kernel
theorem dX2_bestPlace_11 : decode cX2_bestPlace 11 = .ok (.iconst 1, 1) := by decide +kernel
theorem dX2_bestPlace_12 : decode cX2_bestPlace 12 = .ok (.istore 5, 2) := by decide +kernel
theorem dX2_bestPlace_14 : decode cX2_bestPlace 14 = .ok (.iload 5, 2) := by decide +kernel
theorem dX2_bestPlace_16 : decode cX2_bestPlace 16 = .ok (.aload_n 0, 1) := by decide +kernel
theorem dX2_bestPlace_17 : decode cX2_bestPlace 17 = .ok (.getfield 28, 3) := by decide +kernel
theorem dX2_bestPlace_20 : decode cX2_bestPlace 20 = .ok (.getfield 41, 3) := by decide +kernel
theorem dX2_bestPlace_23 : decode cX2_bestPlace 23 = .ok (.if_icmp .ge 33, 3) := by decide +kernel
theorem dX2_bestPlace_26 : decode cX2_bestPlace 26 = .ok (.aload_n 0, 1) := by decide +kernel
theorem dX2_bestPlace_27 : decode cX2_bestPlace 27 = .ok (.iload_n 1, 1) := by decide +kernel
theorem dX2_bestPlace_28 : decode cX2_bestPlace 28 = .ok (.iload 5, 2) := by decide +kernel
theorem dX2_bestPlace_30 : decode cX2_bestPlace 30 = .ok (.aload_n 2, 1) := by decide +kernel
theorem dX2_bestPlace_31 : decode cX2_bestPlace 31 = .ok (.invokevirtual 56, 3) := by decide +kernel
theorem dX2_bestPlace_34 : decode cX2_bestPlace 34 = .ok (.istore 6, 2) := by decide +kernel
theorem dX2_bestPlace_36 : decode cX2_bestPlace 36 = .ok (.iload 6, 2) := by decide +kernel
theorem dX2_bestPlace_38 : decode cX2_bestPlace 38 = .ok (.iload 4, 2) := by decide +kernel
theorem dX2_bestPlace_40 : decode cX2_bestPlace 40 = .ok (.if_icmp .ge 10, 3) := by decide +kernel
theorem dX2_bestPlace_43 : decode cX2_bestPlace 43 = .ok (.iload 5, 2) := by decide +kernel
theorem dX2_bestPlace_45 : decode cX2_bestPlace 45 = .ok (.istore_n 3, 1) := by decide +kernel
theorem dX2_bestPlace_46 : decode cX2_bestPlace 46 = .ok (.iload 6, 2) := by decide +kernel
theorem dX2_bestPlace_48 : decode cX2_bestPlace 48 = .ok (.istore 4, 2) := by decide +kernel
theorem dX2_bestPlace_50 : decode cX2_bestPlace 50 = .ok (.iinc 5 1, 3) := by decide +kernel
theorem dX2_bestPlace_53 : decode cX2_bestPlace 53 = .ok (.goto (-39), 3) := by decide +kernel
theorem dX2_bestPlace_56 : decode cX2_bestPlace 56 = .ok (.iload_n 3, 1) := by decide +kernel
theorem dX2_bestPlace_57 : decode cX2_bestPlace 57 = .ok (.ireturn, 1) := by decide +kernel
theorem dX2_costOf_0 : decode cX2_costOf 0 = .ok (.iload_n 1, 1) := by decide +kernel
theorem dX2_costOf_1 : decode cX2_costOf 1 = .ok (.invokestatic 51, 3) := by decide +kernel
theorem dX2_costOf_4 : decode cX2_costOf 4 = .ok (.istore 4, 2) := by decide +kernel
theorem dX2_costOf_6 : decode cX2_costOf 6 = .ok (.iload_n 1, 1) := by decide +kernel
theorem dX2_costOf_7 : decode cX2_costOf 7 = .ok (.iconst 1, 1) := by decide +kernel
theorem dX2_costOf_8 : decode cX2_costOf 8 = .ok (.iconst 3, 1) := by decide +kernel
theorem dX2_costOf_9 : decode cX2_costOf 9 = .ok (.iload_n 2, 1) := by decide +kernel
theorem dX2_costOf_10 : decode cX2_costOf 10 = .ok (.imul, 1) := by decide +kernel
theorem dX2_costOf_11 : decode cX2_costOf 11 = .ok (.ishl, 1) := by decide +kernel
theorem dX2_costOf_12 : decode cX2_costOf 12 = .ok (.iadd, 1) := by decide +kernel
theorem dX2_costOf_13 : decode cX2_costOf 13 = .ok (.istore 5, 2) := by decide +kernel
theorem dX2_costOf_15 : decode cX2_costOf 15 = .ok (.iload 4, 2) := by decide +kernel
theorem dX2_costOf_17 : decode cX2_costOf 17 = .ok (.aload_n 0, 1) := by decide +kernel
theorem dX2_costOf_18 : decode cX2_costOf 18 = .ok (.getfield 21, 3) := by decide +kernel
theorem dX2_costOf_21 : decode cX2_costOf 21 = .ok (.if_icmp .ge 11, 3) := by decide +kernel
theorem dX2_costOf_24 : decode cX2_costOf 24 = .ok (.iload 5, 2) := by decide +kernel
theorem dX2_costOf_26 : decode cX2_costOf 26 = .ok (.sipush 4096, 3) := by decide +kernel
theorem dX2_costOf_29 : decode cX2_costOf 29 = .ok (.if_icmp .lt 6, 3) := by decide +kernel
theorem dX2_costOf_32 : decode cX2_costOf 32 = .ok (.ldc 55, 2) := by decide +kernel
theorem dX2_costOf_34 : decode cX2_costOf 34 = .ok (.ireturn, 1) := by decide +kernel
theorem dX2_costOf_35 : decode cX2_costOf 35 = .ok (.iload_n 1, 1) := by decide +kernel
theorem dX2_costOf_36 : decode cX2_costOf 36 = .ok (.iconst 3, 1) := by decide +kernel
theorem dX2_costOf_37 : decode cX2_costOf 37 = .ok (.iload_n 2, 1) := by decide +kernel
theorem dX2_costOf_38 : decode cX2_costOf 38 = .ok (.imul, 1) := by decide +kernel
theorem dX2_costOf_39 : decode cX2_costOf 39 = .ok (.ishr, 1) := by decide +kernel
theorem dX2_costOf_40 : decode cX2_costOf 40 = .ok (.bipush 7, 2) := by decide +kernel
theorem dX2_costOf_42 : decode cX2_costOf 42 = .ok (.iand, 1) := by decide +kernel
theorem dX2_costOf_43 : decode cX2_costOf 43 = .ok (.istore 6, 2) := by decide +kernel
theorem dX2_costOf_45 : decode cX2_costOf 45 = .ok (.aload_n 3, 1) := by decide +kernel
theorem dX2_costOf_46 : decode cX2_costOf 46 = .ok (.aload_n 3, 1) := by decide +kernel
theorem dX2_costOf_47 : decode cX2_costOf 47 = .ok (.getfield 60, 3) := by decide +kernel
theorem dX2_costOf_50 : decode cX2_costOf 50 = .ok (.aload_n 0, 1) := by decide +kernel
theorem dX2_costOf_51 : decode cX2_costOf 51 = .ok (.getfield 9, 3) := by decide +kernel
theorem dX2_costOf_54 : decode cX2_costOf 54 = .ok (.iload 4, 2) := by decide +kernel
theorem dX2_costOf_56 : decode cX2_costOf 56 = .ok (.iaload, 1) := by decide +kernel
theorem dX2_costOf_57 : decode cX2_costOf 57 = .ok (.iload 6, 2) := by decide +kernel
theorem dX2_costOf_59 : decode cX2_costOf 59 = .ok (.iload_n 2, 1) := by decide +kernel
theorem dX2_costOf_60 : decode cX2_costOf 60 = .ok (.invokevirtual 65, 3) := by decide +kernel
theorem dX2_costOf_63 : decode cX2_costOf 63 = .ok (.aload_n 0, 1) := by decide +kernel
theorem dX2_costOf_64 : decode cX2_costOf 64 = .ok (.getfield 15, 3) := by decide +kernel
theorem dX2_costOf_67 : decode cX2_costOf 67 = .ok (.iload 5, 2) := by decide +kernel
theorem dX2_costOf_69 : decode cX2_costOf 69 = .ok (.iaload, 1) := by decide +kernel
theorem dX2_costOf_70 : decode cX2_costOf 70 = .ok (.iadd, 1) := by decide +kernel
theorem dX2_costOf_71 : decode cX2_costOf 71 = .ok (.ireturn, 1) := by decide +kernel
theorem dX2_placedIn_0 : decode cX2_placedIn 0 = .ok (.iconst 0, 1) := by decide +kernel
theorem dX2_placedIn_1 : decode cX2_placedIn 1 = .ok (.istore_n 1, 1) := by decide +kernel
theorem dX2_placedIn_2 : decode cX2_placedIn 2 = .ok (.iconst 0, 1) := by decide +kernel
theorem dX2_placedIn_3 : decode cX2_placedIn 3 = .ok (.istore_n 2, 1) := by decide +kernel
theorem dX2_placedIn_4 : decode cX2_placedIn 4 = .ok (.iload_n 2, 1) := by decide +kernel
theorem dX2_placedIn_5 : decode cX2_placedIn 5 = .ok (.iconst 4, 1) := by decide +kernel
theorem dX2_placedIn_6 : decode cX2_placedIn 6 = .ok (.if_icmp .ge 20, 3) := by decide +kernel
theorem dX2_placedIn_9 : decode cX2_placedIn 9 = .ok (.iload_n 1, 1) := by decide +kernel
theorem dX2_placedIn_10 : decode cX2_placedIn 10 = .ok (.iload_n 0, 1) := by decide +kernel
theorem dX2_placedIn_11 : decode cX2_placedIn 11 = .ok (.iconst 3, 1) := by decide +kernel
theorem dX2_placedIn_12 : decode cX2_placedIn 12 = .ok (.iload_n 2, 1) := by decide +kernel
theorem dX2_placedIn_13 : decode cX2_placedIn 13 = .ok (.imul, 1) := by decide +kernel
theorem dX2_placedIn_14 : decode cX2_placedIn 14 = .ok (.ishr, 1) := by decide +kernel
theorem dX2_placedIn_15 : decode cX2_placedIn 15 = .ok (.bipush 7, 2) := by decide +kernel
theorem dX2_placedIn_17 : decode cX2_placedIn 17 = .ok (.iand, 1) := by decide +kernel
theorem dX2_placedIn_18 : decode cX2_placedIn 18 = .ok (.iadd, 1) := by decide +kernel
theorem dX2_placedIn_19 : decode cX2_placedIn 19 = .ok (.istore_n 1, 1) := by decide +kernel
theorem dX2_placedIn_20 : decode cX2_placedIn 20 = .ok (.iinc 2 1, 3) := by decide +kernel
theorem dX2_placedIn_23 : decode cX2_placedIn 23 = .ok (.goto (-19), 3) := by decide +kernel
theorem dX2_placedIn_26 : decode cX2_placedIn 26 = .ok (.iload_n 1, 1) := by decide +kernel
theorem dX2_placedIn_27 : decode cX2_placedIn 27 = .ok (.ireturn, 1) := by decide +kernel
theorem dX3_init_0 : decode cX3_init 0 = .ok (.aload_n 0, 1) := by decide +kernel
theorem dX3_init_1 : decode cX3_init 1 = .ok (.invokespecial 3, 3) := by decide +kernel
theorem dX3_init_4 : decode cX3_init 4 = .ok (.aload_n 0, 1) := by decide +kernel
theorem dX3_init_5 : decode cX3_init 5 = .ok (.iconst 0, 1) := by decide +kernel
theorem dX3_init_6 : decode cX3_init 6 = .ok (.putfield 9, 3) := by decide +kernel
theorem dX3_init_9 : decode cX3_init 9 = .ok (.aload_n 0, 1) := by decide +kernel
theorem dX3_init_10 : decode cX3_init 10 = .ok (.iconst 0, 1) := by decide +kernel
theorem dX3_init_11 : decode cX3_init 11 = .ok (.putfield 15, 3) := by decide +kernel
theorem dX3_init_14 : decode cX3_init 14 = .ok (.aload_n 0, 1) := by decide +kernel
theorem dX3_init_15 : decode cX3_init 15 = .ok (.iconst 0, 1) := by decide +kernel
theorem dX3_init_16 : decode cX3_init 16 = .ok (.putfield 18, 3) := by decide +kernel
theorem dX3_init_19 : decode cX3_init 19 = .ok (.aload_n 0, 1) := by decide +kernel
theorem dX3_init_20 : decode cX3_init 20 = .ok (.iconst 0, 1) := by decide +kernel
theorem dX3_init_21 : decode cX3_init 21 = .ok (.putfield 21, 3) := by decide +kernel
theorem dX3_init_24 : decode cX3_init 24 = .ok (.aload_n 0, 1) := by decide +kernel
theorem dX3_init_25 : decode cX3_init 25 = .ok (.bipush 7, 2) := by decide +kernel
theorem dX3_init_27 : decode cX3_init 27 = .ok (.newarray .int, 2) := by decide +kernel
theorem dX3_init_29 : decode cX3_init 29 = .ok (.putfield 24, 3) := by decide +kernel
theorem dX3_init_32 : decode cX3_init 32 = .ok (.aload_n 0, 1) := by decide +kernel
theorem dX3_init_33 : decode cX3_init 33 = .ok (.bipush 7, 2) := by decide +kernel
theorem dX3_init_35 : decode cX3_init 35 = .ok (.newarray .int, 2) := by decide +kernel
theorem dX3_init_37 : decode cX3_init 37 = .ok (.putfield 28, 3) := by decide +kernel
theorem dX3_init_40 : decode cX3_init 40 = .ok (.aload_n 0, 1) := by decide +kernel
theorem dX3_init_41 : decode cX3_init 41 = .ok (.bipush 7, 2) := by decide +kernel
theorem dX3_init_43 : decode cX3_init 43 = .ok (.newarray .int, 2) := by decide +kernel
theorem dX3_init_45 : decode cX3_init 45 = .ok (.putfield 31, 3) := by decide +kernel
theorem dX3_init_48 : decode cX3_init 48 = .ok (.aload_n 0, 1) := by decide +kernel
theorem dX3_init_49 : decode cX3_init 49 = .ok (.iconst 4, 1) := by decide +kernel
theorem dX3_init_50 : decode cX3_init 50 = .ok (.newarray .int, 2) := by decide +kernel
theorem dX3_init_52 : decode cX3_init 52 = .ok (.putfield 34, 3) := by decide +kernel
theorem dX3_init_55 : decode cX3_init 55 = .ok (.aload_n 0, 1) := by decide +kernel
theorem dX3_init_56 : decode cX3_init 56 = .ok (.aload_n 1, 1) := by decide +kernel
theorem dX3_init_57 : decode cX3_init 57 = .ok (.putfield 37, 3) := by decide +kernel
theorem dX3_init_60 : decode cX3_init 60 = .ok (.return_, 1) := by decide +kernel
theorem dX3_begin_0 : decode cX3_begin 0 = .ok (.aload_n 0, 1) := by decide +kernel
theorem dX3_begin_1 : decode cX3_begin 1 = .ok (.aload_n 0, 1) := by decide +kernel
theorem dX3_begin_2 : decode cX3_begin 2 = .ok (.getfield 37, 3) := by decide +kernel
theorem dX3_begin_5 : decode cX3_begin 5 = .ok (.getfield 41, 3) := by decide +kernel
theorem dX3_begin_8 : decode cX3_begin 8 = .ok (.putfield 9, 3) := by decide +kernel
theorem dX3_begin_11 : decode cX3_begin 11 = .ok (.aload_n 0, 1) := by decide +kernel
theorem dX3_begin_12 : decode cX3_begin 12 = .ok (.iconst 0, 1) := by decide +kernel
theorem dX3_begin_13 : decode cX3_begin 13 = .ok (.putfield 15, 3) := by decide +kernel
theorem dX3_begin_16 : decode cX3_begin 16 = .ok (.aload_n 0, 1) := by decide +kernel
theorem dX3_begin_17 : decode cX3_begin 17 = .ok (.iconst 0, 1) := by decide +kernel
theorem dX3_begin_18 : decode cX3_begin 18 = .ok (.putfield 18, 3) := by decide +kernel
theorem dX3_begin_21 : decode cX3_begin 21 = .ok (.aload_n 0, 1) := by decide +kernel
theorem dX3_begin_22 : decode cX3_begin 22 = .ok (.iconst 0, 1) := by decide +kernel
theorem dX3_begin_23 : decode cX3_begin 23 = .ok (.putfield 21, 3) := by decide +kernel
theorem dX3_begin_26 : decode cX3_begin 26 = .ok (.iconst 0, 1) := by decide +kernel
theorem dX3_begin_27 : decode cX3_begin 27 = .ok (.istore_n 1, 1) := by decide +kernel
theorem dX3_begin_28 : decode cX3_begin 28 = .ok (.iload_n 1, 1) := by decide +kernel
theorem dX3_begin_29 : decode cX3_begin 29 = .ok (.bipush 7, 2) := by decide +kernel
theorem dX3_begin_31 : decode cX3_begin 31 = .ok (.if_icmp .ge 46, 3) := by decide +kernel
theorem dX3_begin_34 : decode cX3_begin 34 = .ok (.aload_n 0, 1) := by decide +kernel
theorem dX3_begin_35 : decode cX3_begin 35 = .ok (.getfield 24, 3) := by decide +kernel
theorem dX3_begin_38 : decode cX3_begin 38 = .ok (.iload_n 1, 1) := by decide +kernel
theorem dX3_begin_39 : decode cX3_begin 39 = .ok (.aload_n 0, 1) := by decide +kernel
theorem dX3_begin_40 : decode cX3_begin 40 = .ok (.getfield 37, 3) := by decide +kernel
theorem dX3_begin_43 : decode cX3_begin 43 = .ok (.getfield 44, 3) := by decide +kernel
theorem dX3_begin_46 : decode cX3_begin 46 = .ok (.iload_n 1, 1) := by decide +kernel
theorem dX3_begin_47 : decode cX3_begin 47 = .ok (.iaload, 1) := by decide +kernel
theorem dX3_begin_48 : decode cX3_begin 48 = .ok (.iastore, 1) := by decide +kernel
theorem dX3_begin_49 : decode cX3_begin 49 = .ok (.aload_n 0, 1) := by decide +kernel
theorem dX3_begin_50 : decode cX3_begin 50 = .ok (.getfield 28, 3) := by decide +kernel
theorem dX3_begin_53 : decode cX3_begin 53 = .ok (.iload_n 1, 1) := by decide +kernel
theorem dX3_begin_54 : decode cX3_begin 54 = .ok (.aload_n 0, 1) := by decide +kernel
theorem dX3_begin_55 : decode cX3_begin 55 = .ok (.getfield 37, 3) := by decide +kernel
theorem dX3_begin_58 : decode cX3_begin 58 = .ok (.getfield 47, 3) := by decide +kernel
theorem dX3_begin_61 : decode cX3_begin 61 = .ok (.iload_n 1, 1) := by decide +kernel
theorem dX3_begin_62 : decode cX3_begin 62 = .ok (.iaload, 1) := by decide +kernel
theorem dX3_begin_63 : decode cX3_begin 63 = .ok (.iastore, 1) := by decide +kernel
theorem dX3_begin_64 : decode cX3_begin 64 = .ok (.aload_n 0, 1) := by decide +kernel
theorem dX3_begin_65 : decode cX3_begin 65 = .ok (.getfield 31, 3) := by decide +kernel
theorem dX3_begin_68 : decode cX3_begin 68 = .ok (.iload_n 1, 1) := by decide +kernel
theorem dX3_begin_69 : decode cX3_begin 69 = .ok (.iconst (-1), 1) := by decide +kernel
theorem dX3_begin_70 : decode cX3_begin 70 = .ok (.iastore, 1) := by decide +kernel
theorem dX3_begin_71 : decode cX3_begin 71 = .ok (.iinc 1 1, 3) := by decide +kernel
theorem dX3_begin_74 : decode cX3_begin 74 = .ok (.goto (-46), 3) := by decide +kernel
theorem dX3_begin_77 : decode cX3_begin 77 = .ok (.aload_n 0, 1) := by decide +kernel
theorem dX3_begin_78 : decode cX3_begin 78 = .ok (.getfield 37, 3) := by decide +kernel
theorem dX3_begin_81 : decode cX3_begin 81 = .ok (.getfield 50, 3) := by decide +kernel
theorem dX3_begin_84 : decode cX3_begin 84 = .ok (.iconst 0, 1) := by decide +kernel
theorem dX3_begin_85 : decode cX3_begin 85 = .ok (.aload_n 0, 1) := by decide +kernel
theorem dX3_begin_86 : decode cX3_begin 86 = .ok (.getfield 34, 3) := by decide +kernel
theorem dX3_begin_89 : decode cX3_begin 89 = .ok (.iconst 0, 1) := by decide +kernel
theorem dX3_begin_90 : decode cX3_begin 90 = .ok (.iconst 4, 1) := by decide +kernel
theorem dX3_begin_91 : decode cX3_begin 91 = .ok (.invokestatic 53, 3) := by decide +kernel
theorem dX3_begin_94 : decode cX3_begin 94 = .ok (.return_, 1) := by decide +kernel
theorem dX3_takeFrom_0 : decode cX3_takeFrom 0 = .ok (.aload_n 0, 1) := by decide +kernel
theorem dX3_takeFrom_1 : decode cX3_takeFrom 1 = .ok (.aload_n 1, 1) := by decide +kernel
theorem dX3_takeFrom_2 : decode cX3_takeFrom 2 = .ok (.getfield 9, 3) := by decide +kernel
theorem dX3_takeFrom_5 : decode cX3_takeFrom 5 = .ok (.putfield 9, 3) := by decide +kernel
theorem dX3_takeFrom_8 : decode cX3_takeFrom 8 = .ok (.aload_n 0, 1) := by decide +kernel
theorem dX3_takeFrom_9 : decode cX3_takeFrom 9 = .ok (.aload_n 1, 1) := by decide +kernel
theorem dX3_takeFrom_10 : decode cX3_takeFrom 10 = .ok (.getfield 15, 3) := by decide +kernel
theorem dX3_takeFrom_13 : decode cX3_takeFrom 13 = .ok (.putfield 15, 3) := by decide +kernel
theorem dX3_takeFrom_16 : decode cX3_takeFrom 16 = .ok (.aload_n 0, 1) := by decide +kernel
theorem dX3_takeFrom_17 : decode cX3_takeFrom 17 = .ok (.aload_n 1, 1) := by decide +kernel
theorem dX3_takeFrom_18 : decode cX3_takeFrom 18 = .ok (.getfield 18, 3) := by decide +kernel
theorem dX3_takeFrom_21 : decode cX3_takeFrom 21 = .ok (.putfield 18, 3) := by decide +kernel
theorem dX3_takeFrom_24 : decode cX3_takeFrom 24 = .ok (.aload_n 0, 1) := by decide +kernel
theorem dX3_takeFrom_25 : decode cX3_takeFrom 25 = .ok (.aload_n 1, 1) := by decide +kernel
theorem dX3_takeFrom_26 : decode cX3_takeFrom 26 = .ok (.getfield 21, 3) := by decide +kernel
theorem dX3_takeFrom_29 : decode cX3_takeFrom 29 = .ok (.putfield 21, 3) := by decide +kernel
theorem dX3_takeFrom_32 : decode cX3_takeFrom 32 = .ok (.aload_n 1, 1) := by decide +kernel
theorem dX3_takeFrom_33 : decode cX3_takeFrom 33 = .ok (.getfield 24, 3) := by decide +kernel
theorem dX3_takeFrom_36 : decode cX3_takeFrom 36 = .ok (.iconst 0, 1) := by decide +kernel
theorem dX3_takeFrom_37 : decode cX3_takeFrom 37 = .ok (.aload_n 0, 1) := by decide +kernel
theorem dX3_takeFrom_38 : decode cX3_takeFrom 38 = .ok (.getfield 24, 3) := by decide +kernel
theorem dX3_takeFrom_41 : decode cX3_takeFrom 41 = .ok (.iconst 0, 1) := by decide +kernel
theorem dX3_takeFrom_42 : decode cX3_takeFrom 42 = .ok (.bipush 7, 2) := by decide +kernel
theorem dX3_takeFrom_44 : decode cX3_takeFrom 44 = .ok (.invokestatic 53, 3) := by decide +kernel
theorem dX3_takeFrom_47 : decode cX3_takeFrom 47 = .ok (.aload_n 1, 1) := by decide +kernel
theorem dX3_takeFrom_48 : decode cX3_takeFrom 48 = .ok (.getfield 28, 3) := by decide +kernel
theorem dX3_takeFrom_51 : decode cX3_takeFrom 51 = .ok (.iconst 0, 1) := by decide +kernel
theorem dX3_takeFrom_52 : decode cX3_takeFrom 52 = .ok (.aload_n 0, 1) := by decide +kernel
theorem dX3_takeFrom_53 : decode cX3_takeFrom 53 = .ok (.getfield 28, 3) := by decide +kernel
theorem dX3_takeFrom_56 : decode cX3_takeFrom 56 = .ok (.iconst 0, 1) := by decide +kernel
theorem dX3_takeFrom_57 : decode cX3_takeFrom 57 = .ok (.bipush 7, 2) := by decide +kernel
theorem dX3_takeFrom_59 : decode cX3_takeFrom 59 = .ok (.invokestatic 53, 3) := by decide +kernel
theorem dX3_takeFrom_62 : decode cX3_takeFrom 62 = .ok (.aload_n 1, 1) := by decide +kernel
theorem dX3_takeFrom_63 : decode cX3_takeFrom 63 = .ok (.getfield 31, 3) := by decide +kernel
theorem dX3_takeFrom_66 : decode cX3_takeFrom 66 = .ok (.iconst 0, 1) := by decide +kernel
theorem dX3_takeFrom_67 : decode cX3_takeFrom 67 = .ok (.aload_n 0, 1) := by decide +kernel
theorem dX3_takeFrom_68 : decode cX3_takeFrom 68 = .ok (.getfield 31, 3) := by decide +kernel
theorem dX3_takeFrom_71 : decode cX3_takeFrom 71 = .ok (.iconst 0, 1) := by decide +kernel
theorem dX3_takeFrom_72 : decode cX3_takeFrom 72 = .ok (.bipush 7, 2) := by decide +kernel
theorem dX3_takeFrom_74 : decode cX3_takeFrom 74 = .ok (.invokestatic 53, 3) := by decide +kernel
theorem dX3_takeFrom_77 : decode cX3_takeFrom 77 = .ok (.aload_n 1, 1) := by decide +kernel
theorem dX3_takeFrom_78 : decode cX3_takeFrom 78 = .ok (.getfield 34, 3) := by decide +kernel
theorem dX3_takeFrom_81 : decode cX3_takeFrom 81 = .ok (.iconst 0, 1) := by decide +kernel
theorem dX3_takeFrom_82 : decode cX3_takeFrom 82 = .ok (.aload_n 0, 1) := by decide +kernel
theorem dX3_takeFrom_83 : decode cX3_takeFrom 83 = .ok (.getfield 34, 3) := by decide +kernel
theorem dX3_takeFrom_86 : decode cX3_takeFrom 86 = .ok (.iconst 0, 1) := by decide +kernel
theorem dX3_takeFrom_87 : decode cX3_takeFrom 87 = .ok (.iconst 4, 1) := by decide +kernel
theorem dX3_takeFrom_88 : decode cX3_takeFrom 88 = .ok (.invokestatic 53, 3) := by decide +kernel
theorem dX3_takeFrom_91 : decode cX3_takeFrom 91 = .ok (.return_, 1) := by decide +kernel
theorem dX3_sings_0 : decode cX3_sings 0 = .ok (.aload_n 0, 1) := by decide +kernel
theorem dX3_sings_1 : decode cX3_sings 1 = .ok (.getfield 37, 3) := by decide +kernel
theorem dX3_sings_4 : decode cX3_sings 4 = .ok (.iload_n 1, 1) := by decide +kernel
theorem dX3_sings_5 : decode cX3_sings 5 = .ok (.invokevirtual 59, 3) := by decide +kernel
theorem dX3_sings_8 : decode cX3_sings 8 = .ok (.ifCond .eq 17, 3) := by decide +kernel
theorem dX3_sings_11 : decode cX3_sings 11 = .ok (.aload_n 0, 1) := by decide +kernel
theorem dX3_sings_12 : decode cX3_sings 12 = .ok (.getfield 31, 3) := by decide +kernel
theorem dX3_sings_15 : decode cX3_sings 15 = .ok (.iload_n 1, 1) := by decide +kernel
theorem dX3_sings_16 : decode cX3_sings 16 = .ok (.iaload, 1) := by decide +kernel
theorem dX3_sings_17 : decode cX3_sings 17 = .ok (.iconst (-1), 1) := by decide +kernel
theorem dX3_sings_18 : decode cX3_sings 18 = .ok (.if_icmp .eq 7, 3) := by decide +kernel
theorem dX3_sings_21 : decode cX3_sings 21 = .ok (.iconst 1, 1) := by decide +kernel
theorem dX3_sings_22 : decode cX3_sings 22 = .ok (.goto 4, 3) := by decide +kernel
theorem dX3_sings_25 : decode cX3_sings 25 = .ok (.iconst 0, 1) := by decide +kernel
theorem dX3_sings_26 : decode cX3_sings 26 = .ok (.ireturn, 1) := by decide +kernel
theorem dX3_whoSings_0 : decode cX3_whoSings 0 = .ok (.iconst 0, 1) := by decide +kernel
theorem dX3_whoSings_1 : decode cX3_whoSings 1 = .ok (.istore_n 1, 1) := by decide +kernel
theorem dX3_whoSings_2 : decode cX3_whoSings 2 = .ok (.iconst 0, 1) := by decide +kernel
theorem dX3_whoSings_3 : decode cX3_whoSings 3 = .ok (.istore_n 2, 1) := by decide +kernel
theorem dX3_whoSings_4 : decode cX3_whoSings 4 = .ok (.iload_n 2, 1) := by decide +kernel
theorem dX3_whoSings_5 : decode cX3_whoSings 5 = .ok (.aload_n 0, 1) := by decide +kernel
theorem dX3_whoSings_6 : decode cX3_whoSings 6 = .ok (.getfield 37, 3) := by decide +kernel
theorem dX3_whoSings_9 : decode cX3_whoSings 9 = .ok (.getfield 63, 3) := by decide +kernel
theorem dX3_whoSings_12 : decode cX3_whoSings 12 = .ok (.if_icmp .ge 25, 3) := by decide +kernel
theorem dX3_whoSings_15 : decode cX3_whoSings 15 = .ok (.aload_n 0, 1) := by decide +kernel
theorem dX3_whoSings_16 : decode cX3_whoSings 16 = .ok (.getfield 31, 3) := by decide +kernel
theorem dX3_whoSings_19 : decode cX3_whoSings 19 = .ok (.iload_n 2, 1) := by decide +kernel
theorem dX3_whoSings_20 : decode cX3_whoSings 20 = .ok (.iaload, 1) := by decide +kernel
theorem dX3_whoSings_21 : decode cX3_whoSings 21 = .ok (.iconst (-1), 1) := by decide +kernel
theorem dX3_whoSings_22 : decode cX3_whoSings 22 = .ok (.if_icmp .eq 9, 3) := by decide +kernel
theorem dX3_whoSings_25 : decode cX3_whoSings 25 = .ok (.iload_n 1, 1) := by decide +kernel
theorem dX3_whoSings_26 : decode cX3_whoSings 26 = .ok (.iconst 1, 1) := by decide +kernel
theorem dX3_whoSings_27 : decode cX3_whoSings 27 = .ok (.iload_n 2, 1) := by decide +kernel
theorem dX3_whoSings_28 : decode cX3_whoSings 28 = .ok (.ishl, 1) := by decide +kernel
theorem dX3_whoSings_29 : decode cX3_whoSings 29 = .ok (.ior, 1) := by decide +kernel
theorem dX3_whoSings_30 : decode cX3_whoSings 30 = .ok (.istore_n 1, 1) := by decide +kernel
theorem dX3_whoSings_31 : decode cX3_whoSings 31 = .ok (.iinc 2 1, 3) := by decide +kernel
theorem dX3_whoSings_34 : decode cX3_whoSings 34 = .ok (.goto (-30), 3) := by decide +kernel
theorem dX3_whoSings_37 : decode cX3_whoSings 37 = .ok (.iload_n 1, 1) := by decide +kernel
theorem dX3_whoSings_38 : decode cX3_whoSings 38 = .ok (.ireturn, 1) := by decide +kernel
theorem dX3_whoIsIn_0 : decode cX3_whoIsIn 0 = .ok (.iconst 0, 1) := by decide +kernel
theorem dX3_whoIsIn_1 : decode cX3_whoIsIn 1 = .ok (.istore_n 2, 1) := by decide +kernel
theorem dX3_whoIsIn_2 : decode cX3_whoIsIn 2 = .ok (.iconst 0, 1) := by decide +kernel
theorem dX3_whoIsIn_3 : decode cX3_whoIsIn 3 = .ok (.istore_n 3, 1) := by decide +kernel
theorem dX3_whoIsIn_4 : decode cX3_whoIsIn 4 = .ok (.iload_n 3, 1) := by decide +kernel
theorem dX3_whoIsIn_5 : decode cX3_whoIsIn 5 = .ok (.aload_n 0, 1) := by decide +kernel
theorem dX3_whoIsIn_6 : decode cX3_whoIsIn 6 = .ok (.getfield 37, 3) := by decide +kernel
theorem dX3_whoIsIn_9 : decode cX3_whoIsIn 9 = .ok (.getfield 63, 3) := by decide +kernel
theorem dX3_whoIsIn_12 : decode cX3_whoIsIn 12 = .ok (.if_icmp .ge 25, 3) := by decide +kernel
theorem dX3_whoIsIn_15 : decode cX3_whoIsIn 15 = .ok (.aload_n 0, 1) := by decide +kernel
theorem dX3_whoIsIn_16 : decode cX3_whoIsIn 16 = .ok (.getfield 24, 3) := by decide +kernel
theorem dX3_whoIsIn_19 : decode cX3_whoIsIn 19 = .ok (.iload_n 3, 1) := by decide +kernel
theorem dX3_whoIsIn_20 : decode cX3_whoIsIn 20 = .ok (.iaload, 1) := by decide +kernel
theorem dX3_whoIsIn_21 : decode cX3_whoIsIn 21 = .ok (.iload_n 1, 1) := by decide +kernel
theorem dX3_whoIsIn_22 : decode cX3_whoIsIn 22 = .ok (.if_icmp .ne 9, 3) := by decide +kernel
theorem dX3_whoIsIn_25 : decode cX3_whoIsIn 25 = .ok (.iload_n 2, 1) := by decide +kernel
theorem dX3_whoIsIn_26 : decode cX3_whoIsIn 26 = .ok (.iconst 1, 1) := by decide +kernel
theorem dX3_whoIsIn_27 : decode cX3_whoIsIn 27 = .ok (.iload_n 3, 1) := by decide +kernel
theorem dX3_whoIsIn_28 : decode cX3_whoIsIn 28 = .ok (.ishl, 1) := by decide +kernel
theorem dX3_whoIsIn_29 : decode cX3_whoIsIn 29 = .ok (.ior, 1) := by decide +kernel
theorem dX3_whoIsIn_30 : decode cX3_whoIsIn 30 = .ok (.istore_n 2, 1) := by decide +kernel
theorem dX3_whoIsIn_31 : decode cX3_whoIsIn 31 = .ok (.iinc 3 1, 3) := by decide +kernel
theorem dX3_whoIsIn_34 : decode cX3_whoIsIn 34 = .ok (.goto (-30), 3) := by decide +kernel
theorem dX3_whoIsIn_37 : decode cX3_whoIsIn 37 = .ok (.iload_n 2, 1) := by decide +kernel
theorem dX3_whoIsIn_38 : decode cX3_whoIsIn 38 = .ok (.ireturn, 1) := by decide +kernel
theorem dX3_voicesIn_0 : decode cX3_voicesIn 0 = .ok (.aload_n 0, 1) := by decide +kernel
theorem dX3_voicesIn_1 : decode cX3_voicesIn 1 = .ok (.iload_n 1, 1) := by decide +kernel
theorem dX3_voicesIn_2 : decode cX3_voicesIn 2 = .ok (.invokevirtual 66, 3) := by decide +kernel
theorem dX3_voicesIn_5 : decode cX3_voicesIn 5 = .ok (.aload_n 0, 1) := by decide +kernel
theorem dX3_voicesIn_6 : decode cX3_voicesIn 6 = .ok (.invokevirtual 70, 3) := by decide +kernel
theorem dX3_voicesIn_9 : decode cX3_voicesIn 9 = .ok (.iand, 1) := by decide +kernel
theorem dX3_voicesIn_10 : decode cX3_voicesIn 10 = .ok (.invokestatic 74, 3) := by decide +kernel
theorem dX3_voicesIn_13 : decode cX3_voicesIn 13 = .ok (.ireturn, 1) := by decide +kernel
theorem dX3_inspectorsIn_0 : decode cX3_inspectorsIn 0 = .ok (.iconst 0, 1) := by decide +kernel
theorem dX3_inspectorsIn_1 : decode cX3_inspectorsIn 1 = .ok (.istore_n 2, 1) := by decide +kernel
theorem dX3_inspectorsIn_2 : decode cX3_inspectorsIn 2 = .ok (.iconst 0, 1) := by decide +kernel
theorem dX3_inspectorsIn_3 : decode cX3_inspectorsIn 3 = .ok (.istore_n 3, 1) := by decide +kernel
theorem dX3_inspectorsIn_4 : decode cX3_inspectorsIn 4 = .ok (.iload_n 3, 1) := by decide +kernel
theorem dX3_inspectorsIn_5 : decode cX3_inspectorsIn 5 = .ok (.aload_n 0, 1) := by decide +kernel
theorem dX3_inspectorsIn_6 : decode cX3_inspectorsIn 6 = .ok (.getfield 37, 3) := by decide +kernel
theorem dX3_inspectorsIn_9 : decode cX3_inspectorsIn 9 = .ok (.getfield 79, 3) := by decide +kernel
theorem dX3_inspectorsIn_12 : decode cX3_inspectorsIn 12 = .ok (.if_icmp .ge 22, 3) := by decide +kernel
theorem dX3_inspectorsIn_15 : decode cX3_inspectorsIn 15 = .ok (.aload_n 0, 1) := by decide +kernel
theorem dX3_inspectorsIn_16 : decode cX3_inspectorsIn 16 = .ok (.getfield 34, 3) := by decide +kernel
theorem dX3_inspectorsIn_19 : decode cX3_inspectorsIn 19 = .ok (.iload_n 3, 1) := by decide +kernel
theorem dX3_inspectorsIn_20 : decode cX3_inspectorsIn 20 = .ok (.iaload, 1) := by decide +kernel
theorem dX3_inspectorsIn_21 : decode cX3_inspectorsIn 21 = .ok (.iload_n 1, 1) := by decide +kernel
theorem dX3_inspectorsIn_22 : decode cX3_inspectorsIn 22 = .ok (.if_icmp .ne 6, 3) := by decide +kernel
theorem dX3_inspectorsIn_25 : decode cX3_inspectorsIn 25 = .ok (.iinc 2 1, 3) := by decide +kernel
theorem dX3_inspectorsIn_28 : decode cX3_inspectorsIn 28 = .ok (.iinc 3 1, 3) := by decide +kernel
theorem dX3_inspectorsIn_31 : decode cX3_inspectorsIn 31 = .ok (.goto (-27), 3) := by decide +kernel
theorem dX3_inspectorsIn_34 : decode cX3_inspectorsIn 34 = .ok (.iload_n 2, 1) := by decide +kernel
theorem dX3_inspectorsIn_35 : decode cX3_inspectorsIn 35 = .ok (.ireturn, 1) := by decide +kernel
theorem dX3_deafPlaces_0 : decode cX3_deafPlaces 0 = .ok (.iconst 0, 1) := by decide +kernel
theorem dX3_deafPlaces_1 : decode cX3_deafPlaces 1 = .ok (.istore_n 1, 1) := by decide +kernel
theorem dX3_deafPlaces_2 : decode cX3_deafPlaces 2 = .ok (.iconst 0, 1) := by decide +kernel
theorem dX3_deafPlaces_3 : decode cX3_deafPlaces 3 = .ok (.istore_n 2, 1) := by decide +kernel
theorem dX3_deafPlaces_4 : decode cX3_deafPlaces 4 = .ok (.iload_n 2, 1) := by decide +kernel
theorem dX3_deafPlaces_5 : decode cX3_deafPlaces 5 = .ok (.aload_n 0, 1) := by decide +kernel
theorem dX3_deafPlaces_6 : decode cX3_deafPlaces 6 = .ok (.getfield 37, 3) := by decide +kernel
theorem dX3_deafPlaces_9 : decode cX3_deafPlaces 9 = .ok (.getfield 82, 3) := by decide +kernel
theorem dX3_deafPlaces_12 : decode cX3_deafPlaces 12 = .ok (.if_icmp .ge 23, 3) := by decide +kernel
theorem dX3_deafPlaces_15 : decode cX3_deafPlaces 15 = .ok (.aload_n 0, 1) := by decide +kernel
theorem dX3_deafPlaces_16 : decode cX3_deafPlaces 16 = .ok (.iload_n 2, 1) := by decide +kernel
theorem dX3_deafPlaces_17 : decode cX3_deafPlaces 17 = .ok (.invokevirtual 85, 3) := by decide +kernel
theorem dX3_deafPlaces_20 : decode cX3_deafPlaces 20 = .ok (.ifCond .ne 9, 3) := by decide +kernel
theorem dX3_deafPlaces_23 : decode cX3_deafPlaces 23 = .ok (.iload_n 1, 1) := by decide +kernel
theorem dX3_deafPlaces_24 : decode cX3_deafPlaces 24 = .ok (.iconst 1, 1) := by decide +kernel
theorem dX3_deafPlaces_25 : decode cX3_deafPlaces 25 = .ok (.iload_n 2, 1) := by decide +kernel
theorem dX3_deafPlaces_26 : decode cX3_deafPlaces 26 = .ok (.ishl, 1) := by decide +kernel
theorem dX3_deafPlaces_27 : decode cX3_deafPlaces 27 = .ok (.ior, 1) := by decide +kernel
theorem dX3_deafPlaces_28 : decode cX3_deafPlaces 28 = .ok (.istore_n 1, 1) := by decide +kernel
theorem dX3_deafPlaces_29 : decode cX3_deafPlaces 29 = .ok (.iinc 2 1, 3) := by decide +kernel
theorem dX3_deafPlaces_32 : decode cX3_deafPlaces 32 = .ok (.goto (-28), 3) := by decide +kernel
theorem dX3_deafPlaces_35 : decode cX3_deafPlaces 35 = .ok (.iload_n 1, 1) := by decide +kernel
theorem dX3_deafPlaces_36 : decode cX3_deafPlaces 36 = .ok (.ireturn, 1) := by decide +kernel
theorem dX3_richest_0 : decode cX3_richest 0 = .ok (.iconst (-1), 1) := by decide +kernel
theorem dX3_richest_1 : decode cX3_richest 1 = .ok (.istore_n 1, 1) := by decide +kernel
theorem dX3_richest_2 : decode cX3_richest 2 = .ok (.iconst (-1), 1) := by decide +kernel
theorem dX3_richest_3 : decode cX3_richest 3 = .ok (.istore_n 2, 1) := by decide +kernel
theorem dX3_richest_4 : decode cX3_richest 4 = .ok (.iconst 0, 1) := by decide +kernel
theorem dX3_richest_5 : decode cX3_richest 5 = .ok (.istore_n 3, 1) := by decide +kernel
theorem dX3_richest_6 : decode cX3_richest 6 = .ok (.iload_n 3, 1) := by decide +kernel
theorem dX3_richest_7 : decode cX3_richest 7 = .ok (.aload_n 0, 1) := by decide +kernel
theorem dX3_richest_8 : decode cX3_richest 8 = .ok (.getfield 37, 3) := by decide +kernel
theorem dX3_richest_11 : decode cX3_richest 11 = .ok (.getfield 63, 3) := by decide +kernel
theorem dX3_richest_14 : decode cX3_richest 14 = .ok (.if_icmp .ge 28, 3) := by decide +kernel
theorem dX3_richest_17 : decode cX3_richest 17 = .ok (.aload_n 0, 1) := by decide +kernel
theorem dX3_richest_18 : decode cX3_richest 18 = .ok (.getfield 28, 3) := by decide +kernel
theorem dX3_richest_21 : decode cX3_richest 21 = .ok (.iload_n 3, 1) := by decide +kernel
theorem dX3_richest_22 : decode cX3_richest 22 = .ok (.iaload, 1) := by decide +kernel
theorem dX3_richest_23 : decode cX3_richest 23 = .ok (.iload_n 2, 1) := by decide +kernel
theorem dX3_richest_24 : decode cX3_richest 24 = .ok (.if_icmp .le 12, 3) := by decide +kernel
theorem dX3_richest_27 : decode cX3_richest 27 = .ok (.iload_n 3, 1) := by decide +kernel
theorem dX3_richest_28 : decode cX3_richest 28 = .ok (.istore_n 1, 1) := by decide +kernel
theorem dX3_richest_29 : decode cX3_richest 29 = .ok (.aload_n 0, 1) := by decide +kernel
theorem dX3_richest_30 : decode cX3_richest 30 = .ok (.getfield 28, 3) := by decide +kernel
theorem dX3_richest_33 : decode cX3_richest 33 = .ok (.iload_n 3, 1) := by decide +kernel
theorem dX3_richest_34 : decode cX3_richest 34 = .ok (.iaload, 1) := by decide +kernel
theorem dX3_richest_35 : decode cX3_richest 35 = .ok (.istore_n 2, 1) := by decide +kernel
theorem dX3_richest_36 : decode cX3_richest 36 = .ok (.iinc 3 1, 3) := by decide +kernel
theorem dX3_richest_39 : decode cX3_richest 39 = .ok (.goto (-33), 3) := by decide +kernel
theorem dX3_richest_42 : decode cX3_richest 42 = .ok (.iload_n 1, 1) := by decide +kernel
theorem dX3_richest_43 : decode cX3_richest 43 = .ok (.ireturn, 1) := by decide +kernel
theorem dX3_priceBy_0 : decode cX3_priceBy 0 = .ok (.iload_n 1, 1) := by decide +kernel
theorem dX3_priceBy_1 : decode cX3_priceBy 1 = .ok (.iload_n 3, 1) := by decide +kernel
theorem dX3_priceBy_2 : decode cX3_priceBy 2 = .ok (.imul, 1) := by decide +kernel
theorem dX3_priceBy_3 : decode cX3_priceBy 3 = .ok (.iload_n 3, 1) := by decide +kernel
theorem dX3_priceBy_4 : decode cX3_priceBy 4 = .ok (.imul, 1) := by decide +kernel
theorem dX3_priceBy_5 : decode cX3_priceBy 5 = .ok (.istore 5, 2) := by decide +kernel
theorem dX3_priceBy_7 : decode cX3_priceBy 7 = .ok (.aload_n 0, 1) := by decide +kernel
theorem dX3_priceBy_8 : decode cX3_priceBy 8 = .ok (.getfield 37, 3) := by decide +kernel
theorem dX3_priceBy_11 : decode cX3_priceBy 11 = .ok (.iload_n 2, 1) := by decide +kernel
theorem dX3_priceBy_12 : decode cX3_priceBy 12 = .ok (.invokevirtual 59, 3) := by decide +kernel
theorem dX3_priceBy_15 : decode cX3_priceBy 15 = .ok (.ifCond .eq 15, 3) := by decide +kernel
theorem dX3_priceBy_18 : decode cX3_priceBy 18 = .ok (.aload_n 0, 1) := by decide +kernel
theorem dX3_priceBy_19 : decode cX3_priceBy 19 = .ok (.getfield 37, 3) := by decide +kernel
theorem dX3_priceBy_22 : decode cX3_priceBy 22 = .ok (.getfield 88, 3) := by decide +kernel
theorem dX3_priceBy_25 : decode cX3_priceBy 25 = .ok (.iload_n 2, 1) := by decide +kernel
theorem dX3_priceBy_26 : decode cX3_priceBy 26 = .ok (.iaload, 1) := by decide +kernel
theorem dX3_priceBy_27 : decode cX3_priceBy 27 = .ok (.goto 4, 3) := by decide +kernel
theorem dX3_priceBy_30 : decode cX3_priceBy 30 = .ok (.iconst 2, 1) := by decide +kernel
theorem dX3_priceBy_31 : decode cX3_priceBy 31 = .ok (.tableswitch 51 1 3 #[25, 30, 32], 25) := by decide +kernel
theorem dX3_priceBy_56 : decode cX3_priceBy 56 = .ok (.iconst 2, 1) := by decide +kernel
theorem dX3_priceBy_57 : decode cX3_priceBy 57 = .ok (.iload 5, 2) := by decide +kernel
theorem dX3_priceBy_59 : decode cX3_priceBy 59 = .ok (.imul, 1) := by decide +kernel
theorem dX3_priceBy_60 : decode cX3_priceBy 60 = .ok (.ireturn, 1) := by decide +kernel
theorem dX3_priceBy_61 : decode cX3_priceBy 61 = .ok (.iconst 0, 1) := by decide +kernel
theorem dX3_priceBy_62 : decode cX3_priceBy 62 = .ok (.ireturn, 1) := by decide +kernel
theorem dX3_priceBy_63 : decode cX3_priceBy 63 = .ok (.aload_n 0, 1) := by decide +kernel
theorem dX3_priceBy_64 : decode cX3_priceBy 64 = .ok (.iload 4, 2) := by decide +kernel
theorem dX3_priceBy_66 : decode cX3_priceBy 66 = .ok (.invokevirtual 85, 3) := by decide +kernel
theorem dX3_priceBy_69 : decode cX3_priceBy 69 = .ok (.ifCond .le 8, 3) := by decide +kernel
theorem dX3_priceBy_72 : decode cX3_priceBy 72 = .ok (.iload 5, 2) := by decide +kernel
theorem dX3_priceBy_74 : decode cX3_priceBy 74 = .ok (.goto 7, 3) := by decide +kernel
theorem dX3_priceBy_77 : decode cX3_priceBy 77 = .ok (.iload 5, 2) := by decide +kernel
theorem dX3_priceBy_79 : decode cX3_priceBy 79 = .ok (.iconst 2, 1) := by decide +kernel
theorem dX3_priceBy_80 : decode cX3_priceBy 80 = .ok (.idiv, 1) := by decide +kernel
theorem dX3_priceBy_81 : decode cX3_priceBy 81 = .ok (.ireturn, 1) := by decide +kernel
theorem dX3_priceBy_82 : decode cX3_priceBy 82 = .ok (.iload 5, 2) := by decide +kernel
theorem dX3_priceBy_84 : decode cX3_priceBy 84 = .ok (.ireturn, 1) := by decide +kernel
theorem dX3_owedBy_0 : decode cX3_owedBy 0 = .ok (.aload_n 0, 1) := by decide +kernel
theorem dX3_owedBy_1 : decode cX3_owedBy 1 = .ok (.iload_n 1, 1) := by decide +kernel
theorem dX3_owedBy_2 : decode cX3_owedBy 2 = .ok (.invokevirtual 91, 3) := by decide +kernel
theorem dX3_owedBy_5 : decode cX3_owedBy 5 = .ok (.ifCond .eq 24, 3) := by decide +kernel
theorem dX3_owedBy_8 : decode cX3_owedBy 8 = .ok (.aload_n 0, 1) := by decide +kernel
theorem dX3_owedBy_9 : decode cX3_owedBy 9 = .ok (.iload_n 2, 1) := by decide +kernel
theorem dX3_owedBy_10 : decode cX3_owedBy 10 = .ok (.iload_n 1, 1) := by decide +kernel
theorem dX3_owedBy_11 : decode cX3_owedBy 11 = .ok (.aload_n 0, 1) := by decide +kernel
theorem dX3_owedBy_12 : decode cX3_owedBy 12 = .ok (.getfield 31, 3) := by decide +kernel
theorem dX3_owedBy_15 : decode cX3_owedBy 15 = .ok (.iload_n 1, 1) := by decide +kernel
theorem dX3_owedBy_16 : decode cX3_owedBy 16 = .ok (.iaload, 1) := by decide +kernel
theorem dX3_owedBy_17 : decode cX3_owedBy 17 = .ok (.aload_n 0, 1) := by decide +kernel
theorem dX3_owedBy_18 : decode cX3_owedBy 18 = .ok (.getfield 24, 3) := by decide +kernel
theorem dX3_owedBy_21 : decode cX3_owedBy 21 = .ok (.iload_n 1, 1) := by decide +kernel
theorem dX3_owedBy_22 : decode cX3_owedBy 22 = .ok (.iaload, 1) := by decide +kernel
theorem dX3_owedBy_23 : decode cX3_owedBy 23 = .ok (.invokevirtual 94, 3) := by decide +kernel
theorem dX3_owedBy_26 : decode cX3_owedBy 26 = .ok (.goto 4, 3) := by decide +kernel
theorem dX3_owedBy_29 : decode cX3_owedBy 29 = .ok (.iconst 0, 1) := by decide +kernel
theorem dX3_owedBy_30 : decode cX3_owedBy 30 = .ok (.ireturn, 1) := by decide +kernel
theorem dX3_owedIn_0 : decode cX3_owedIn 0 = .ok (.iconst 0, 1) := by decide +kernel
theorem dX3_owedIn_1 : decode cX3_owedIn 1 = .ok (.istore_n 2, 1) := by decide +kernel
theorem dX3_owedIn_2 : decode cX3_owedIn 2 = .ok (.iconst 0, 1) := by decide +kernel
theorem dX3_owedIn_3 : decode cX3_owedIn 3 = .ok (.istore_n 3, 1) := by decide +kernel
theorem dX3_owedIn_4 : decode cX3_owedIn 4 = .ok (.iload_n 3, 1) := by decide +kernel
theorem dX3_owedIn_5 : decode cX3_owedIn 5 = .ok (.aload_n 0, 1) := by decide +kernel
theorem dX3_owedIn_6 : decode cX3_owedIn 6 = .ok (.getfield 37, 3) := by decide +kernel
theorem dX3_owedIn_9 : decode cX3_owedIn 9 = .ok (.getfield 63, 3) := by decide +kernel
theorem dX3_owedIn_12 : decode cX3_owedIn 12 = .ok (.if_icmp .ge 31, 3) := by decide +kernel
theorem dX3_owedIn_15 : decode cX3_owedIn 15 = .ok (.aload_n 0, 1) := by decide +kernel
theorem dX3_owedIn_16 : decode cX3_owedIn 16 = .ok (.getfield 24, 3) := by decide +kernel
theorem dX3_owedIn_19 : decode cX3_owedIn 19 = .ok (.iload_n 3, 1) := by decide +kernel
theorem dX3_owedIn_20 : decode cX3_owedIn 20 = .ok (.iaload, 1) := by decide +kernel
theorem dX3_owedIn_21 : decode cX3_owedIn 21 = .ok (.iload_n 1, 1) := by decide +kernel
theorem dX3_owedIn_22 : decode cX3_owedIn 22 = .ok (.if_icmp .ne 15, 3) := by decide +kernel
theorem dX3_owedIn_25 : decode cX3_owedIn 25 = .ok (.iload_n 2, 1) := by decide +kernel
theorem dX3_owedIn_26 : decode cX3_owedIn 26 = .ok (.aload_n 0, 1) := by decide +kernel
theorem dX3_owedIn_27 : decode cX3_owedIn 27 = .ok (.iload_n 3, 1) := by decide +kernel
theorem dX3_owedIn_28 : decode cX3_owedIn 28 = .ok (.aload_n 0, 1) := by decide +kernel
theorem dX3_owedIn_29 : decode cX3_owedIn 29 = .ok (.getfield 9, 3) := by decide +kernel
theorem dX3_owedIn_32 : decode cX3_owedIn 32 = .ok (.invokevirtual 98, 3) := by decide +kernel
theorem dX3_owedIn_35 : decode cX3_owedIn 35 = .ok (.iadd, 1) := by decide +kernel
theorem dX3_owedIn_36 : decode cX3_owedIn 36 = .ok (.istore_n 2, 1) := by decide +kernel
theorem dX3_owedIn_37 : decode cX3_owedIn 37 = .ok (.iinc 3 1, 3) := by decide +kernel
theorem dX3_owedIn_40 : decode cX3_owedIn 40 = .ok (.goto (-36), 3) := by decide +kernel
theorem dX3_owedIn_43 : decode cX3_owedIn 43 = .ok (.iload_n 2, 1) := by decide +kernel
theorem dX3_owedIn_44 : decode cX3_owedIn 44 = .ok (.ireturn, 1) := by decide +kernel
theorem dX3_owedByAll_0 : decode cX3_owedByAll 0 = .ok (.iconst 0, 1) := by decide +kernel
theorem dX3_owedByAll_1 : decode cX3_owedByAll 1 = .ok (.istore_n 1, 1) := by decide +kernel
theorem dX3_owedByAll_2 : decode cX3_owedByAll 2 = .ok (.iconst 0, 1) := by decide +kernel
theorem dX3_owedByAll_3 : decode cX3_owedByAll 3 = .ok (.istore_n 2, 1) := by decide +kernel
theorem dX3_owedByAll_4 : decode cX3_owedByAll 4 = .ok (.iload_n 2, 1) := by decide +kernel
theorem dX3_owedByAll_5 : decode cX3_owedByAll 5 = .ok (.aload_n 0, 1) := by decide +kernel
theorem dX3_owedByAll_6 : decode cX3_owedByAll 6 = .ok (.getfield 37, 3) := by decide +kernel
theorem dX3_owedByAll_9 : decode cX3_owedByAll 9 = .ok (.getfield 63, 3) := by decide +kernel
theorem dX3_owedByAll_12 : decode cX3_owedByAll 12 = .ok (.if_icmp .ge 21, 3) := by decide +kernel
theorem dX3_owedByAll_15 : decode cX3_owedByAll 15 = .ok (.iload_n 1, 1) := by decide +kernel
theorem dX3_owedByAll_16 : decode cX3_owedByAll 16 = .ok (.aload_n 0, 1) := by decide +kernel
theorem dX3_owedByAll_17 : decode cX3_owedByAll 17 = .ok (.iload_n 2, 1) := by decide +kernel
theorem dX3_owedByAll_18 : decode cX3_owedByAll 18 = .ok (.aload_n 0, 1) := by decide +kernel
theorem dX3_owedByAll_19 : decode cX3_owedByAll 19 = .ok (.getfield 9, 3) := by decide +kernel
theorem dX3_owedByAll_22 : decode cX3_owedByAll 22 = .ok (.invokevirtual 98, 3) := by decide +kernel
theorem dX3_owedByAll_25 : decode cX3_owedByAll 25 = .ok (.iadd, 1) := by decide +kernel
theorem dX3_owedByAll_26 : decode cX3_owedByAll 26 = .ok (.istore_n 1, 1) := by decide +kernel
theorem dX3_owedByAll_27 : decode cX3_owedByAll 27 = .ok (.iinc 2 1, 3) := by decide +kernel
theorem dX3_owedByAll_30 : decode cX3_owedByAll 30 = .ok (.goto (-26), 3) := by decide +kernel
theorem dX3_owedByAll_33 : decode cX3_owedByAll 33 = .ok (.iload_n 1, 1) := by decide +kernel
theorem dX3_owedByAll_34 : decode cX3_owedByAll 34 = .ok (.ireturn, 1) := by decide +kernel
theorem dX3_paidByAll_0 : decode cX3_paidByAll 0 = .ok (.iconst 0, 1) := by decide +kernel
theorem dX3_paidByAll_1 : decode cX3_paidByAll 1 = .ok (.istore_n 2, 1) := by decide +kernel
theorem dX3_paidByAll_2 : decode cX3_paidByAll 2 = .ok (.iconst 0, 1) := by decide +kernel
theorem dX3_paidByAll_3 : decode cX3_paidByAll 3 = .ok (.istore_n 3, 1) := by decide +kernel
theorem dX3_paidByAll_4 : decode cX3_paidByAll 4 = .ok (.iload_n 3, 1) := by decide +kernel
theorem dX3_paidByAll_5 : decode cX3_paidByAll 5 = .ok (.aload_n 0, 1) := by decide +kernel
theorem dX3_paidByAll_6 : decode cX3_paidByAll 6 = .ok (.getfield 37, 3) := by decide +kernel
theorem dX3_paidByAll_9 : decode cX3_paidByAll 9 = .ok (.getfield 63, 3) := by decide +kernel
theorem dX3_paidByAll_12 : decode cX3_paidByAll 12 = .ok (.if_icmp .ge 27, 3) := by decide +kernel
theorem dX3_paidByAll_15 : decode cX3_paidByAll 15 = .ok (.iload_n 2, 1) := by decide +kernel
theorem dX3_paidByAll_16 : decode cX3_paidByAll 16 = .ok (.aload_n 0, 1) := by decide +kernel
theorem dX3_paidByAll_17 : decode cX3_paidByAll 17 = .ok (.getfield 28, 3) := by decide +kernel
theorem dX3_paidByAll_20 : decode cX3_paidByAll 20 = .ok (.iload_n 3, 1) := by decide +kernel
theorem dX3_paidByAll_21 : decode cX3_paidByAll 21 = .ok (.iaload, 1) := by decide +kernel
theorem dX3_paidByAll_22 : decode cX3_paidByAll 22 = .ok (.aload_n 0, 1) := by decide +kernel
theorem dX3_paidByAll_23 : decode cX3_paidByAll 23 = .ok (.iload_n 3, 1) := by decide +kernel
theorem dX3_paidByAll_24 : decode cX3_paidByAll 24 = .ok (.iload_n 1, 1) := by decide +kernel
theorem dX3_paidByAll_25 : decode cX3_paidByAll 25 = .ok (.invokevirtual 98, 3) := by decide +kernel
theorem dX3_paidByAll_28 : decode cX3_paidByAll 28 = .ok (.invokestatic 102, 3) := by decide +kernel
theorem dX3_paidByAll_31 : decode cX3_paidByAll 31 = .ok (.iadd, 1) := by decide +kernel
theorem dX3_paidByAll_32 : decode cX3_paidByAll 32 = .ok (.istore_n 2, 1) := by decide +kernel
theorem dX3_paidByAll_33 : decode cX3_paidByAll 33 = .ok (.iinc 3 1, 3) := by decide +kernel
theorem dX3_paidByAll_36 : decode cX3_paidByAll 36 = .ok (.goto (-32), 3) := by decide +kernel
theorem dX3_paidByAll_39 : decode cX3_paidByAll 39 = .ok (.iload_n 2, 1) := by decide +kernel
theorem dX3_paidByAll_40 : decode cX3_paidByAll 40 = .ok (.ireturn, 1) := by decide +kernel
theorem dX3_owedBySet_0 : decode cX3_owedBySet 0 = .ok (.iconst 0, 1) := by decide +kernel
theorem dX3_owedBySet_1 : decode cX3_owedBySet 1 = .ok (.istore_n 3, 1) := by decide +kernel
theorem dX3_owedBySet_2 : decode cX3_owedBySet 2 = .ok (.iconst 0, 1) := by decide +kernel
theorem dX3_owedBySet_3 : decode cX3_owedBySet 3 = .ok (.istore 4, 2) := by decide +kernel
theorem dX3_owedBySet_5 : decode cX3_owedBySet 5 = .ok (.iconst 0, 1) := by decide +kernel
theorem dX3_owedBySet_6 : decode cX3_owedBySet 6 = .ok (.istore 5, 2) := by decide +kernel
theorem dX3_owedBySet_8 : decode cX3_owedBySet 8 = .ok (.iload 5, 2) := by decide +kernel
theorem dX3_owedBySet_10 : decode cX3_owedBySet 10 = .ok (.aload_n 0, 1) := by decide +kernel
theorem dX3_owedBySet_11 : decode cX3_owedBySet 11 = .ok (.getfield 37, 3) := by decide +kernel
theorem dX3_owedBySet_14 : decode cX3_owedBySet 14 = .ok (.getfield 63, 3) := by decide +kernel
theorem dX3_owedBySet_17 : decode cX3_owedBySet 17 = .ok (.if_icmp .ge 37, 3) := by decide +kernel
theorem dX3_owedBySet_20 : decode cX3_owedBySet 20 = .ok (.iload 5, 2) := by decide +kernel
theorem dX3_owedBySet_22 : decode cX3_owedBySet 22 = .ok (.iload_n 1, 1) := by decide +kernel
theorem dX3_owedBySet_23 : decode cX3_owedBySet 23 = .ok (.invokestatic 107, 3) := by decide +kernel
theorem dX3_owedBySet_26 : decode cX3_owedBySet 26 = .ok (.ifCond .eq 22, 3) := by decide +kernel
theorem dX3_owedBySet_29 : decode cX3_owedBySet 29 = .ok (.iload_n 3, 1) := by decide +kernel
theorem dX3_owedBySet_30 : decode cX3_owedBySet 30 = .ok (.aload_n 0, 1) := by decide +kernel
theorem dX3_owedBySet_31 : decode cX3_owedBySet 31 = .ok (.aload_n 0, 1) := by decide +kernel
theorem dX3_owedBySet_32 : decode cX3_owedBySet 32 = .ok (.getfield 9, 3) := by decide +kernel
theorem dX3_owedBySet_35 : decode cX3_owedBySet 35 = .ok (.iload 5, 2) := by decide +kernel
theorem dX3_owedBySet_37 : decode cX3_owedBySet 37 = .ok (.iload 4, 2) := by decide +kernel
theorem dX3_owedBySet_39 : decode cX3_owedBySet 39 = .ok (.iload_n 2, 1) := by decide +kernel
theorem dX3_owedBySet_40 : decode cX3_owedBySet 40 = .ok (.invokevirtual 94, 3) := by decide +kernel
theorem dX3_owedBySet_43 : decode cX3_owedBySet 43 = .ok (.iadd, 1) := by decide +kernel
theorem dX3_owedBySet_44 : decode cX3_owedBySet 44 = .ok (.istore_n 3, 1) := by decide +kernel
theorem dX3_owedBySet_45 : decode cX3_owedBySet 45 = .ok (.iinc 4 1, 3) := by decide +kernel
theorem dX3_owedBySet_48 : decode cX3_owedBySet 48 = .ok (.iinc 5 1, 3) := by decide +kernel
theorem dX3_owedBySet_51 : decode cX3_owedBySet 51 = .ok (.goto (-43), 3) := by decide +kernel
theorem dX3_owedBySet_54 : decode cX3_owedBySet 54 = .ok (.iload_n 3, 1) := by decide +kernel
theorem dX3_owedBySet_55 : decode cX3_owedBySet 55 = .ok (.ireturn, 1) := by decide +kernel
theorem dX3_mostBorne_0 : decode cX3_mostBorne 0 = .ok (.iconst 0, 1) := by decide +kernel
theorem dX3_mostBorne_1 : decode cX3_mostBorne 1 = .ok (.istore_n 3, 1) := by decide +kernel
theorem dX3_mostBorne_2 : decode cX3_mostBorne 2 = .ok (.iconst 0, 1) := by decide +kernel
theorem dX3_mostBorne_3 : decode cX3_mostBorne 3 = .ok (.istore 4, 2) := by decide +kernel
theorem dX3_mostBorne_5 : decode cX3_mostBorne 5 = .ok (.iload 4, 2) := by decide +kernel
theorem dX3_mostBorne_7 : decode cX3_mostBorne 7 = .ok (.aload_n 0, 1) := by decide +kernel
theorem dX3_mostBorne_8 : decode cX3_mostBorne 8 = .ok (.getfield 37, 3) := by decide +kernel
theorem dX3_mostBorne_11 : decode cX3_mostBorne 11 = .ok (.invokevirtual 111, 3) := by decide +kernel
theorem dX3_mostBorne_14 : decode cX3_mostBorne 14 = .ok (.if_icmp .gt 43, 3) := by decide +kernel
theorem dX3_mostBorne_17 : decode cX3_mostBorne 17 = .ok (.iload 4, 2) := by decide +kernel
theorem dX3_mostBorne_19 : decode cX3_mostBorne 19 = .ok (.iload_n 1, 1) := by decide +kernel
theorem dX3_mostBorne_20 : decode cX3_mostBorne 20 = .ok (.iconst (-1), 1) := by decide +kernel
theorem dX3_mostBorne_21 : decode cX3_mostBorne 21 = .ok (.ixor, 1) := by decide +kernel
theorem dX3_mostBorne_22 : decode cX3_mostBorne 22 = .ok (.iand, 1) := by decide +kernel
theorem dX3_mostBorne_23 : decode cX3_mostBorne 23 = .ok (.ifCond .ne 28, 3) := by decide +kernel
theorem dX3_mostBorne_26 : decode cX3_mostBorne 26 = .ok (.iload 4, 2) := by decide +kernel
theorem dX3_mostBorne_28 : decode cX3_mostBorne 28 = .ok (.invokestatic 74, 3) := by decide +kernel
theorem dX3_mostBorne_31 : decode cX3_mostBorne 31 = .ok (.iload_n 3, 1) := by decide +kernel
theorem dX3_mostBorne_32 : decode cX3_mostBorne 32 = .ok (.invokestatic 74, 3) := by decide +kernel
theorem dX3_mostBorne_35 : decode cX3_mostBorne 35 = .ok (.if_icmp .le 16, 3) := by decide +kernel
theorem dX3_mostBorne_38 : decode cX3_mostBorne 38 = .ok (.aload_n 0, 1) := by decide +kernel
theorem dX3_mostBorne_39 : decode cX3_mostBorne 39 = .ok (.iload 4, 2) := by decide +kernel
theorem dX3_mostBorne_41 : decode cX3_mostBorne 41 = .ok (.iload_n 2, 1) := by decide +kernel
theorem dX3_mostBorne_42 : decode cX3_mostBorne 42 = .ok (.invokevirtual 114, 3) := by decide +kernel
theorem dX3_mostBorne_45 : decode cX3_mostBorne 45 = .ok (.ifCond .eq 6, 3) := by decide +kernel
theorem dX3_mostBorne_48 : decode cX3_mostBorne 48 = .ok (.iload 4, 2) := by decide +kernel
theorem dX3_mostBorne_50 : decode cX3_mostBorne 50 = .ok (.istore_n 3, 1) := by decide +kernel
theorem dX3_mostBorne_51 : decode cX3_mostBorne 51 = .ok (.iinc 4 1, 3) := by decide +kernel
theorem dX3_mostBorne_54 : decode cX3_mostBorne 54 = .ok (.goto (-49), 3) := by decide +kernel
theorem dX3_mostBorne_57 : decode cX3_mostBorne 57 = .ok (.iload_n 3, 1) := by decide +kernel
theorem dX3_mostBorne_58 : decode cX3_mostBorne 58 = .ok (.ireturn, 1) := by decide +kernel
theorem dX3_canPay_0 : decode cX3_canPay 0 = .ok (.iconst 0, 1) := by decide +kernel
theorem dX3_canPay_1 : decode cX3_canPay 1 = .ok (.istore_n 3, 1) := by decide +kernel
theorem dX3_canPay_2 : decode cX3_canPay 2 = .ok (.iconst 0, 1) := by decide +kernel
theorem dX3_canPay_3 : decode cX3_canPay 3 = .ok (.istore 4, 2) := by decide +kernel
theorem dX3_canPay_5 : decode cX3_canPay 5 = .ok (.iload 4, 2) := by decide +kernel
theorem dX3_canPay_7 : decode cX3_canPay 7 = .ok (.aload_n 0, 1) := by decide +kernel
theorem dX3_canPay_8 : decode cX3_canPay 8 = .ok (.getfield 37, 3) := by decide +kernel
theorem dX3_canPay_11 : decode cX3_canPay 11 = .ok (.getfield 63, 3) := by decide +kernel
theorem dX3_canPay_14 : decode cX3_canPay 14 = .ok (.if_icmp .ge 45, 3) := by decide +kernel
theorem dX3_canPay_17 : decode cX3_canPay 17 = .ok (.iload 4, 2) := by decide +kernel
theorem dX3_canPay_19 : decode cX3_canPay 19 = .ok (.iload_n 1, 1) := by decide +kernel
theorem dX3_canPay_20 : decode cX3_canPay 20 = .ok (.invokestatic 107, 3) := by decide +kernel
theorem dX3_canPay_23 : decode cX3_canPay 23 = .ok (.ifCond .eq 30, 3) := by decide +kernel
theorem dX3_canPay_26 : decode cX3_canPay 26 = .ok (.aload_n 0, 1) := by decide +kernel
theorem dX3_canPay_27 : decode cX3_canPay 27 = .ok (.getfield 28, 3) := by decide +kernel
theorem dX3_canPay_30 : decode cX3_canPay 30 = .ok (.iload 4, 2) := by decide +kernel
theorem dX3_canPay_32 : decode cX3_canPay 32 = .ok (.iaload, 1) := by decide +kernel
theorem dX3_canPay_33 : decode cX3_canPay 33 = .ok (.aload_n 0, 1) := by decide +kernel
theorem dX3_canPay_34 : decode cX3_canPay 34 = .ok (.aload_n 0, 1) := by decide +kernel
theorem dX3_canPay_35 : decode cX3_canPay 35 = .ok (.getfield 9, 3) := by decide +kernel
theorem dX3_canPay_38 : decode cX3_canPay 38 = .ok (.iload 4, 2) := by decide +kernel
theorem dX3_canPay_40 : decode cX3_canPay 40 = .ok (.iload_n 3, 1) := by decide +kernel
theorem dX3_canPay_41 : decode cX3_canPay 41 = .ok (.iload_n 2, 1) := by decide +kernel
theorem dX3_canPay_42 : decode cX3_canPay 42 = .ok (.invokevirtual 94, 3) := by decide +kernel
theorem dX3_canPay_45 : decode cX3_canPay 45 = .ok (.if_icmp .ge 5, 3) := by decide +kernel
theorem dX3_canPay_48 : decode cX3_canPay 48 = .ok (.iconst 0, 1) := by decide +kernel
theorem dX3_canPay_49 : decode cX3_canPay 49 = .ok (.ireturn, 1) := by decide +kernel
theorem dX3_canPay_50 : decode cX3_canPay 50 = .ok (.iinc 3 1, 3) := by decide +kernel
theorem dX3_canPay_53 : decode cX3_canPay 53 = .ok (.iinc 4 1, 3) := by decide +kernel
theorem dX3_canPay_56 : decode cX3_canPay 56 = .ok (.goto (-51), 3) := by decide +kernel
theorem dX3_canPay_59 : decode cX3_canPay 59 = .ok (.iconst 1, 1) := by decide +kernel
theorem dX3_canPay_60 : decode cX3_canPay 60 = .ok (.ireturn, 1) := by decide +kernel
theorem dX3_letIn_0 : decode cX3_letIn 0 = .ok (.aload_n 0, 1) := by decide +kernel
theorem dX3_letIn_1 : decode cX3_letIn 1 = .ok (.getfield 37, 3) := by decide +kernel
theorem dX3_letIn_4 : decode cX3_letIn 4 = .ok (.iload_n 1, 1) := by decide +kernel
theorem dX3_letIn_5 : decode cX3_letIn 5 = .ok (.invokevirtual 59, 3) := by decide +kernel
theorem dX3_letIn_8 : decode cX3_letIn 8 = .ok (.ifCond .eq 29, 3) := by decide +kernel
theorem dX3_letIn_11 : decode cX3_letIn 11 = .ok (.aload_n 0, 1) := by decide +kernel
theorem dX3_letIn_12 : decode cX3_letIn 12 = .ok (.getfield 31, 3) := by decide +kernel
theorem dX3_letIn_15 : decode cX3_letIn 15 = .ok (.iload_n 1, 1) := by decide +kernel
theorem dX3_letIn_16 : decode cX3_letIn 16 = .ok (.iaload, 1) := by decide +kernel
theorem dX3_letIn_17 : decode cX3_letIn 17 = .ok (.iconst (-1), 1) := by decide +kernel
theorem dX3_letIn_18 : decode cX3_letIn 18 = .ok (.if_icmp .ne 19, 3) := by decide +kernel
theorem dX3_letIn_21 : decode cX3_letIn 21 = .ok (.aload_n 0, 1) := by decide +kernel
theorem dX3_letIn_22 : decode cX3_letIn 22 = .ok (.getfield 31, 3) := by decide +kernel
theorem dX3_letIn_25 : decode cX3_letIn 25 = .ok (.iload_n 1, 1) := by decide +kernel
theorem dX3_letIn_26 : decode cX3_letIn 26 = .ok (.aload_n 0, 1) := by decide +kernel
theorem dX3_letIn_27 : decode cX3_letIn 27 = .ok (.aload_n 0, 1) := by decide +kernel
theorem dX3_letIn_28 : decode cX3_letIn 28 = .ok (.getfield 24, 3) := by decide +kernel
theorem dX3_letIn_31 : decode cX3_letIn 31 = .ok (.iload_n 1, 1) := by decide +kernel
theorem dX3_letIn_32 : decode cX3_letIn 32 = .ok (.iaload, 1) := by decide +kernel
theorem dX3_letIn_33 : decode cX3_letIn 33 = .ok (.invokevirtual 117, 3) := by decide +kernel
theorem dX3_letIn_36 : decode cX3_letIn 36 = .ok (.iastore, 1) := by decide +kernel
theorem dX3_letIn_37 : decode cX3_letIn 37 = .ok (.return_, 1) := by decide +kernel
theorem dX3_silence_0 : decode cX3_silence 0 = .ok (.aload_n 0, 1) := by decide +kernel
theorem dX3_silence_1 : decode cX3_silence 1 = .ok (.iload_n 1, 1) := by decide +kernel
theorem dX3_silence_2 : decode cX3_silence 2 = .ok (.invokevirtual 91, 3) := by decide +kernel
theorem dX3_silence_5 : decode cX3_silence 5 = .ok (.ifCond .ne 4, 3) := by decide +kernel
theorem dX3_silence_8 : decode cX3_silence 8 = .ok (.return_, 1) := by decide +kernel
theorem dX3_silence_9 : decode cX3_silence 9 = .ok (.iconst 0, 1) := by decide +kernel
theorem dX3_silence_10 : decode cX3_silence 10 = .ok (.istore_n 2, 1) := by decide +kernel
theorem dX3_silence_11 : decode cX3_silence 11 = .ok (.iload_n 2, 1) := by decide +kernel
theorem dX3_silence_12 : decode cX3_silence 12 = .ok (.aload_n 0, 1) := by decide +kernel
theorem dX3_silence_13 : decode cX3_silence 13 = .ok (.getfield 37, 3) := by decide +kernel
theorem dX3_silence_16 : decode cX3_silence 16 = .ok (.getfield 63, 3) := by decide +kernel
theorem dX3_silence_19 : decode cX3_silence 19 = .ok (.if_icmp .ge 49, 3) := by decide +kernel
theorem dX3_silence_22 : decode cX3_silence 22 = .ok (.aload_n 0, 1) := by decide +kernel
theorem dX3_silence_23 : decode cX3_silence 23 = .ok (.getfield 24, 3) := by decide +kernel
theorem dX3_silence_26 : decode cX3_silence 26 = .ok (.iload_n 2, 1) := by decide +kernel
theorem dX3_silence_27 : decode cX3_silence 27 = .ok (.iaload, 1) := by decide +kernel
theorem dX3_silence_28 : decode cX3_silence 28 = .ok (.aload_n 0, 1) := by decide +kernel
theorem dX3_silence_29 : decode cX3_silence 29 = .ok (.getfield 24, 3) := by decide +kernel
theorem dX3_silence_32 : decode cX3_silence 32 = .ok (.iload_n 1, 1) := by decide +kernel
theorem dX3_silence_33 : decode cX3_silence 33 = .ok (.iaload, 1) := by decide +kernel
theorem dX3_silence_34 : decode cX3_silence 34 = .ok (.if_icmp .ne 28, 3) := by decide +kernel
theorem dX3_silence_37 : decode cX3_silence 37 = .ok (.aload_n 0, 1) := by decide +kernel
theorem dX3_silence_38 : decode cX3_silence 38 = .ok (.getfield 31, 3) := by decide +kernel
theorem dX3_silence_41 : decode cX3_silence 41 = .ok (.iload_n 2, 1) := by decide +kernel
theorem dX3_silence_42 : decode cX3_silence 42 = .ok (.iaload, 1) := by decide +kernel
theorem dX3_silence_43 : decode cX3_silence 43 = .ok (.aload_n 0, 1) := by decide +kernel
theorem dX3_silence_44 : decode cX3_silence 44 = .ok (.getfield 31, 3) := by decide +kernel
theorem dX3_silence_47 : decode cX3_silence 47 = .ok (.iload_n 1, 1) := by decide +kernel
theorem dX3_silence_48 : decode cX3_silence 48 = .ok (.iaload, 1) := by decide +kernel
theorem dX3_silence_49 : decode cX3_silence 49 = .ok (.if_icmp .le 13, 3) := by decide +kernel
theorem dX3_silence_52 : decode cX3_silence 52 = .ok (.aload_n 0, 1) := by decide +kernel
theorem dX3_silence_53 : decode cX3_silence 53 = .ok (.getfield 31, 3) := by decide +kernel
theorem dX3_silence_56 : decode cX3_silence 56 = .ok (.iload_n 2, 1) := by decide +kernel
theorem dX3_silence_57 : decode cX3_silence 57 = .ok (.dup2, 1) := by decide +kernel
theorem dX3_silence_58 : decode cX3_silence 58 = .ok (.iaload, 1) := by decide +kernel
theorem dX3_silence_59 : decode cX3_silence 59 = .ok (.iconst 1, 1) := by decide +kernel
theorem dX3_silence_60 : decode cX3_silence 60 = .ok (.isub, 1) := by decide +kernel
theorem dX3_silence_61 : decode cX3_silence 61 = .ok (.iastore, 1) := by decide +kernel
theorem dX3_silence_62 : decode cX3_silence 62 = .ok (.iinc 2 1, 3) := by decide +kernel
theorem dX3_silence_65 : decode cX3_silence 65 = .ok (.goto (-54), 3) := by decide +kernel
theorem dX3_silence_68 : decode cX3_silence 68 = .ok (.aload_n 0, 1) := by decide +kernel
theorem dX3_silence_69 : decode cX3_silence 69 = .ok (.getfield 31, 3) := by decide +kernel
theorem dX3_silence_72 : decode cX3_silence 72 = .ok (.iload_n 1, 1) := by decide +kernel
theorem dX3_silence_73 : decode cX3_silence 73 = .ok (.iconst (-1), 1) := by decide +kernel
theorem dX3_silence_74 : decode cX3_silence 74 = .ok (.iastore, 1) := by decide +kernel
theorem dX3_silence_75 : decode cX3_silence 75 = .ok (.return_, 1) := by decide +kernel
theorem dX3_move_0 : decode cX3_move 0 = .ok (.aload_n 0, 1) := by decide +kernel
theorem dX3_move_1 : decode cX3_move 1 = .ok (.getfield 37, 3) := by decide +kernel
theorem dX3_move_4 : decode cX3_move 4 = .ok (.iload_n 1, 1) := by decide +kernel
theorem dX3_move_5 : decode cX3_move 5 = .ok (.invokevirtual 59, 3) := by decide +kernel
theorem dX3_move_8 : decode cX3_move 8 = .ok (.ifCond .eq 25, 3) := by decide +kernel
theorem dX3_move_11 : decode cX3_move 11 = .ok (.aload_n 0, 1) := by decide +kernel
theorem dX3_move_12 : decode cX3_move 12 = .ok (.getfield 24, 3) := by decide +kernel
theorem dX3_move_15 : decode cX3_move 15 = .ok (.iload_n 1, 1) := by decide +kernel
theorem dX3_move_16 : decode cX3_move 16 = .ok (.iaload, 1) := by decide +kernel
theorem dX3_move_17 : decode cX3_move 17 = .ok (.iload_n 2, 1) := by decide +kernel
theorem dX3_move_18 : decode cX3_move 18 = .ok (.if_icmp .eq 15, 3) := by decide +kernel
theorem dX3_move_21 : decode cX3_move 21 = .ok (.aload_n 0, 1) := by decide +kernel
theorem dX3_move_22 : decode cX3_move 22 = .ok (.iload_n 1, 1) := by decide +kernel
theorem dX3_move_23 : decode cX3_move 23 = .ok (.invokevirtual 120, 3) := by decide +kernel
theorem dX3_move_26 : decode cX3_move 26 = .ok (.aload_n 0, 1) := by decide +kernel
theorem dX3_move_27 : decode cX3_move 27 = .ok (.getfield 24, 3) := by decide +kernel
theorem dX3_move_30 : decode cX3_move 30 = .ok (.iload_n 1, 1) := by decide +kernel
theorem dX3_move_31 : decode cX3_move 31 = .ok (.iload_n 2, 1) := by decide +kernel
theorem dX3_move_32 : decode cX3_move 32 = .ok (.iastore, 1) := by decide +kernel
theorem dX3_move_33 : decode cX3_move 33 = .ok (.return_, 1) := by decide +kernel
theorem dX3_fill_0 : decode cX3_fill 0 = .ok (.aload_n 0, 1) := by decide +kernel
theorem dX3_fill_1 : decode cX3_fill 1 = .ok (.getfield 37, 3) := by decide +kernel
theorem dX3_fill_4 : decode cX3_fill 4 = .ok (.iload_n 1, 1) := by decide +kernel
theorem dX3_fill_5 : decode cX3_fill 5 = .ok (.invokevirtual 59, 3) := by decide +kernel
theorem dX3_fill_8 : decode cX3_fill 8 = .ok (.ifCond .eq 23, 3) := by decide +kernel
theorem dX3_fill_11 : decode cX3_fill 11 = .ok (.aload_n 0, 1) := by decide +kernel
theorem dX3_fill_12 : decode cX3_fill 12 = .ok (.getfield 28, 3) := by decide +kernel
theorem dX3_fill_15 : decode cX3_fill 15 = .ok (.iload_n 1, 1) := by decide +kernel
theorem dX3_fill_16 : decode cX3_fill 16 = .ok (.sipush 9999, 3) := by decide +kernel
theorem dX3_fill_19 : decode cX3_fill 19 = .ok (.aload_n 0, 1) := by decide +kernel
theorem dX3_fill_20 : decode cX3_fill 20 = .ok (.getfield 28, 3) := by decide +kernel
theorem dX3_fill_23 : decode cX3_fill 23 = .ok (.iload_n 1, 1) := by decide +kernel
theorem dX3_fill_24 : decode cX3_fill 24 = .ok (.iaload, 1) := by decide +kernel
theorem dX3_fill_25 : decode cX3_fill 25 = .ok (.iload_n 2, 1) := by decide +kernel
theorem dX3_fill_26 : decode cX3_fill 26 = .ok (.iadd, 1) := by decide +kernel
theorem dX3_fill_27 : decode cX3_fill 27 = .ok (.invokestatic 102, 3) := by decide +kernel
theorem dX3_fill_30 : decode cX3_fill 30 = .ok (.iastore, 1) := by decide +kernel
theorem dX3_fill_31 : decode cX3_fill 31 = .ok (.return_, 1) := by decide +kernel
theorem dX3_singVerse_0 : decode cX3_singVerse 0 = .ok (.iconst 0, 1) := by decide +kernel
theorem dX3_singVerse_1 : decode cX3_singVerse 1 = .ok (.istore_n 1, 1) := by decide +kernel
theorem dX3_singVerse_2 : decode cX3_singVerse 2 = .ok (.iconst 0, 1) := by decide +kernel
theorem dX3_singVerse_3 : decode cX3_singVerse 3 = .ok (.istore_n 2, 1) := by decide +kernel
theorem dX3_singVerse_4 : decode cX3_singVerse 4 = .ok (.iload_n 2, 1) := by decide +kernel
theorem dX3_singVerse_5 : decode cX3_singVerse 5 = .ok (.aload_n 0, 1) := by decide +kernel
theorem dX3_singVerse_6 : decode cX3_singVerse 6 = .ok (.getfield 37, 3) := by decide +kernel
theorem dX3_singVerse_9 : decode cX3_singVerse 9 = .ok (.getfield 63, 3) := by decide +kernel
theorem dX3_singVerse_12 : decode cX3_singVerse 12 = .ok (.if_icmp .ge 50, 3) := by decide +kernel
theorem dX3_singVerse_15 : decode cX3_singVerse 15 = .ok (.aload_n 0, 1) := by decide +kernel
theorem dX3_singVerse_16 : decode cX3_singVerse 16 = .ok (.iload_n 2, 1) := by decide +kernel
theorem dX3_singVerse_17 : decode cX3_singVerse 17 = .ok (.aload_n 0, 1) := by decide +kernel
theorem dX3_singVerse_18 : decode cX3_singVerse 18 = .ok (.getfield 9, 3) := by decide +kernel
theorem dX3_singVerse_21 : decode cX3_singVerse 21 = .ok (.invokevirtual 98, 3) := by decide +kernel
theorem dX3_singVerse_24 : decode cX3_singVerse 24 = .ok (.istore_n 3, 1) := by decide +kernel
theorem dX3_singVerse_25 : decode cX3_singVerse 25 = .ok (.aload_n 0, 1) := by decide +kernel
theorem dX3_singVerse_26 : decode cX3_singVerse 26 = .ok (.getfield 28, 3) := by decide +kernel
theorem dX3_singVerse_29 : decode cX3_singVerse 29 = .ok (.iload_n 2, 1) := by decide +kernel
theorem dX3_singVerse_30 : decode cX3_singVerse 30 = .ok (.iaload, 1) := by decide +kernel
theorem dX3_singVerse_31 : decode cX3_singVerse 31 = .ok (.iload_n 3, 1) := by decide +kernel
theorem dX3_singVerse_32 : decode cX3_singVerse 32 = .ok (.if_icmp .ge 9, 3) := by decide +kernel
theorem dX3_singVerse_35 : decode cX3_singVerse 35 = .ok (.iload_n 1, 1) := by decide +kernel
theorem dX3_singVerse_36 : decode cX3_singVerse 36 = .ok (.iconst 1, 1) := by decide +kernel
theorem dX3_singVerse_37 : decode cX3_singVerse 37 = .ok (.iload_n 2, 1) := by decide +kernel
theorem dX3_singVerse_38 : decode cX3_singVerse 38 = .ok (.ishl, 1) := by decide +kernel
theorem dX3_singVerse_39 : decode cX3_singVerse 39 = .ok (.ior, 1) := by decide +kernel
theorem dX3_singVerse_40 : decode cX3_singVerse 40 = .ok (.istore_n 1, 1) := by decide +kernel
theorem dX3_singVerse_41 : decode cX3_singVerse 41 = .ok (.aload_n 0, 1) := by decide +kernel
theorem dX3_singVerse_42 : decode cX3_singVerse 42 = .ok (.iload_n 2, 1) := by decide +kernel
theorem dX3_singVerse_43 : decode cX3_singVerse 43 = .ok (.aload_n 0, 1) := by decide +kernel
theorem dX3_singVerse_44 : decode cX3_singVerse 44 = .ok (.getfield 28, 3) := by decide +kernel
theorem dX3_singVerse_47 : decode cX3_singVerse 47 = .ok (.iload_n 2, 1) := by decide +kernel
theorem dX3_singVerse_48 : decode cX3_singVerse 48 = .ok (.iaload, 1) := by decide +kernel
theorem dX3_singVerse_49 : decode cX3_singVerse 49 = .ok (.iload_n 3, 1) := by decide +kernel
theorem dX3_singVerse_50 : decode cX3_singVerse 50 = .ok (.invokestatic 102, 3) := by decide +kernel
theorem dX3_singVerse_53 : decode cX3_singVerse 53 = .ok (.invokevirtual 124, 3) := by decide +kernel
theorem dX3_singVerse_56 : decode cX3_singVerse 56 = .ok (.iinc 2 1, 3) := by decide +kernel
theorem dX3_singVerse_59 : decode cX3_singVerse 59 = .ok (.goto (-55), 3) := by decide +kernel
theorem dX3_singVerse_62 : decode cX3_singVerse 62 = .ok (.iconst 0, 1) := by decide +kernel
theorem dX3_singVerse_63 : decode cX3_singVerse 63 = .ok (.istore_n 2, 1) := by decide +kernel
theorem dX3_singVerse_64 : decode cX3_singVerse 64 = .ok (.iload_n 2, 1) := by decide +kernel
theorem dX3_singVerse_65 : decode cX3_singVerse 65 = .ok (.aload_n 0, 1) := by decide +kernel
theorem dX3_singVerse_66 : decode cX3_singVerse 66 = .ok (.getfield 37, 3) := by decide +kernel
theorem dX3_singVerse_69 : decode cX3_singVerse 69 = .ok (.getfield 63, 3) := by decide +kernel
theorem dX3_singVerse_72 : decode cX3_singVerse 72 = .ok (.if_icmp .ge 22, 3) := by decide +kernel
theorem dX3_singVerse_75 : decode cX3_singVerse 75 = .ok (.iload_n 2, 1) := by decide +kernel
theorem dX3_singVerse_76 : decode cX3_singVerse 76 = .ok (.iload_n 1, 1) := by decide +kernel
theorem dX3_singVerse_77 : decode cX3_singVerse 77 = .ok (.invokestatic 107, 3) := by decide +kernel
theorem dX3_singVerse_80 : decode cX3_singVerse 80 = .ok (.ifCond .eq 8, 3) := by decide +kernel
theorem dX3_singVerse_83 : decode cX3_singVerse 83 = .ok (.aload_n 0, 1) := by decide +kernel
theorem dX3_singVerse_84 : decode cX3_singVerse 84 = .ok (.iload_n 2, 1) := by decide +kernel
theorem dX3_singVerse_85 : decode cX3_singVerse 85 = .ok (.invokevirtual 120, 3) := by decide +kernel
theorem dX3_singVerse_88 : decode cX3_singVerse 88 = .ok (.iinc 2 1, 3) := by decide +kernel
theorem dX3_singVerse_91 : decode cX3_singVerse 91 = .ok (.goto (-27), 3) := by decide +kernel
theorem dX3_singVerse_94 : decode cX3_singVerse 94 = .ok (.aload_n 0, 1) := by decide +kernel
theorem dX3_singVerse_95 : decode cX3_singVerse 95 = .ok (.dup, 1) := by decide +kernel
theorem dX3_singVerse_96 : decode cX3_singVerse 96 = .ok (.getfield 15, 3) := by decide +kernel
theorem dX3_singVerse_99 : decode cX3_singVerse 99 = .ok (.iconst 1, 1) := by decide +kernel
theorem dX3_singVerse_100 : decode cX3_singVerse 100 = .ok (.iadd, 1) := by decide +kernel
theorem dX3_singVerse_101 : decode cX3_singVerse 101 = .ok (.putfield 15, 3) := by decide +kernel
theorem dX3_singVerse_104 : decode cX3_singVerse 104 = .ok (.return_, 1) := by decide +kernel
theorem dX3_takePence_0 : decode cX3_takePence 0 = .ok (.aload_n 0, 1) := by decide +kernel
theorem dX3_takePence_1 : decode cX3_takePence 1 = .ok (.getfield 28, 3) := by decide +kernel
theorem dX3_takePence_4 : decode cX3_takePence 4 = .ok (.iload_n 1, 1) := by decide +kernel
theorem dX3_takePence_5 : decode cX3_takePence 5 = .ok (.dup2, 1) := by decide +kernel
theorem dX3_takePence_6 : decode cX3_takePence 6 = .ok (.iaload, 1) := by decide +kernel
theorem dX3_takePence_7 : decode cX3_takePence 7 = .ok (.iload_n 2, 1) := by decide +kernel
theorem dX3_takePence_8 : decode cX3_takePence 8 = .ok (.isub, 1) := by decide +kernel
theorem dX3_takePence_9 : decode cX3_takePence 9 = .ok (.iastore, 1) := by decide +kernel
theorem dX3_takePence_10 : decode cX3_takePence 10 = .ok (.aload_n 0, 1) := by decide +kernel
theorem dX3_takePence_11 : decode cX3_takePence 11 = .ok (.ldc 128, 2) := by decide +kernel
theorem dX3_takePence_13 : decode cX3_takePence 13 = .ok (.aload_n 0, 1) := by decide +kernel
theorem dX3_takePence_14 : decode cX3_takePence 14 = .ok (.getfield 18, 3) := by decide +kernel
theorem dX3_takePence_17 : decode cX3_takePence 17 = .ok (.iload_n 2, 1) := by decide +kernel
theorem dX3_takePence_18 : decode cX3_takePence 18 = .ok (.iadd, 1) := by decide +kernel
theorem dX3_takePence_19 : decode cX3_takePence 19 = .ok (.invokestatic 102, 3) := by decide +kernel
theorem dX3_takePence_22 : decode cX3_takePence 22 = .ok (.putfield 18, 3) := by decide +kernel
theorem dX3_takePence_25 : decode cX3_takePence 25 = .ok (.iload_n 2, 1) := by decide +kernel
theorem dX3_takePence_26 : decode cX3_takePence 26 = .ok (.ifCond .le 45, 3) := by decide +kernel
theorem dX3_takePence_29 : decode cX3_takePence 29 = .ok (.aload_n 0, 1) := by decide +kernel
theorem dX3_takePence_30 : decode cX3_takePence 30 = .ok (.getfield 37, 3) := by decide +kernel
theorem dX3_takePence_33 : decode cX3_takePence 33 = .ok (.getfield 88, 3) := by decide +kernel
theorem dX3_takePence_36 : decode cX3_takePence 36 = .ok (.iload_n 1, 1) := by decide +kernel
theorem dX3_takePence_37 : decode cX3_takePence 37 = .ok (.iaload, 1) := by decide +kernel
theorem dX3_takePence_38 : decode cX3_takePence 38 = .ok (.iconst 3, 1) := by decide +kernel
theorem dX3_takePence_39 : decode cX3_takePence 39 = .ok (.if_icmp .ne 32, 3) := by decide +kernel
theorem dX3_takePence_42 : decode cX3_takePence 42 = .ok (.aload_n 0, 1) := by decide +kernel
theorem dX3_takePence_43 : decode cX3_takePence 43 = .ok (.aload_n 0, 1) := by decide +kernel
theorem dX3_takePence_44 : decode cX3_takePence 44 = .ok (.getfield 24, 3) := by decide +kernel
theorem dX3_takePence_47 : decode cX3_takePence 47 = .ok (.iload_n 1, 1) := by decide +kernel
theorem dX3_takePence_48 : decode cX3_takePence 48 = .ok (.iaload, 1) := by decide +kernel
theorem dX3_takePence_49 : decode cX3_takePence 49 = .ok (.invokevirtual 85, 3) := by decide +kernel
theorem dX3_takePence_52 : decode cX3_takePence 52 = .ok (.ifCond .le 19, 3) := by decide +kernel
theorem dX3_takePence_55 : decode cX3_takePence 55 = .ok (.aload_n 0, 1) := by decide +kernel
theorem dX3_takePence_56 : decode cX3_takePence 56 = .ok (.sipush 9999, 3) := by decide +kernel
theorem dX3_takePence_59 : decode cX3_takePence 59 = .ok (.aload_n 0, 1) := by decide +kernel
theorem dX3_takePence_60 : decode cX3_takePence 60 = .ok (.getfield 21, 3) := by decide +kernel
theorem dX3_takePence_63 : decode cX3_takePence 63 = .ok (.iconst 1, 1) := by decide +kernel
theorem dX3_takePence_64 : decode cX3_takePence 64 = .ok (.iadd, 1) := by decide +kernel
theorem dX3_takePence_65 : decode cX3_takePence 65 = .ok (.invokestatic 102, 3) := by decide +kernel
theorem dX3_takePence_68 : decode cX3_takePence 68 = .ok (.putfield 21, 3) := by decide +kernel
theorem dX3_takePence_71 : decode cX3_takePence 71 = .ok (.return_, 1) := by decide +kernel
theorem dX4_init_0 : decode cX4_init 0 = .ok (.aload_n 0, 1) := by decide +kernel
theorem dX4_init_1 : decode cX4_init 1 = .ok (.invokespecial 1, 3) := by decide +kernel
theorem dX4_init_4 : decode cX4_init 4 = .ok (.aload_n 0, 1) := by decide +kernel
theorem dX4_init_5 : decode cX4_init 5 = .ok (.iconst 0, 1) := by decide +kernel
theorem dX4_init_6 : decode cX4_init 6 = .ok (.putfield 7, 3) := by decide +kernel
theorem dX4_init_9 : decode cX4_init 9 = .ok (.aload_n 0, 1) := by decide +kernel
theorem dX4_init_10 : decode cX4_init 10 = .ok (.iconst 0, 1) := by decide +kernel
theorem dX4_init_11 : decode cX4_init 11 = .ok (.putfield 13, 3) := by decide +kernel
theorem dX4_init_14 : decode cX4_init 14 = .ok (.aload_n 0, 1) := by decide +kernel
theorem dX4_init_15 : decode cX4_init 15 = .ok (.new 17, 3) := by decide +kernel
theorem dX4_init_18 : decode cX4_init 18 = .ok (.dup, 1) := by decide +kernel
theorem dX4_init_19 : decode cX4_init 19 = .ok (.aload_n 1, 1) := by decide +kernel
theorem dX4_init_20 : decode cX4_init 20 = .ok (.invokespecial 19, 3) := by decide +kernel
theorem dX4_init_23 : decode cX4_init 23 = .ok (.putfield 22, 3) := by decide +kernel
theorem dX4_init_26 : decode cX4_init 26 = .ok (.return_, 1) := by decide +kernel
theorem dX5_init_0 : decode cX5_init 0 = .ok (.aload_n 0, 1) := by decide +kernel
theorem dX5_init_1 : decode cX5_init 1 = .ok (.invokespecial 3, 3) := by decide +kernel
theorem dX5_init_4 : decode cX5_init 4 = .ok (.aload_n 0, 1) := by decide +kernel
theorem dX5_init_5 : decode cX5_init 5 = .ok (.bipush 6, 2) := by decide +kernel
theorem dX5_init_7 : decode cX5_init 7 = .ok (.newarray .int, 2) := by decide +kernel
theorem dX5_init_9 : decode cX5_init 9 = .ok (.putfield 9, 3) := by decide +kernel
theorem dX5_init_12 : decode cX5_init 12 = .ok (.aload_n 0, 1) := by decide +kernel
theorem dX5_init_13 : decode cX5_init 13 = .ok (.bipush 6, 2) := by decide +kernel
theorem dX5_init_15 : decode cX5_init 15 = .ok (.newarray .int, 2) := by decide +kernel
theorem dX5_init_17 : decode cX5_init 17 = .ok (.putfield 15, 3) := by decide +kernel
theorem dX5_init_20 : decode cX5_init 20 = .ok (.aload_n 0, 1) := by decide +kernel
theorem dX5_init_21 : decode cX5_init 21 = .ok (.bipush 15, 2) := by decide +kernel
theorem dX5_init_23 : decode cX5_init 23 = .ok (.newarray .int, 2) := by decide +kernel
theorem dX5_init_25 : decode cX5_init 25 = .ok (.putfield 18, 3) := by decide +kernel
theorem dX5_init_28 : decode cX5_init 28 = .ok (.aload_n 0, 1) := by decide +kernel
theorem dX5_init_29 : decode cX5_init 29 = .ok (.bipush 15, 2) := by decide +kernel
theorem dX5_init_31 : decode cX5_init 31 = .ok (.newarray .int, 2) := by decide +kernel
theorem dX5_init_33 : decode cX5_init 33 = .ok (.putfield 21, 3) := by decide +kernel
theorem dX5_init_36 : decode cX5_init 36 = .ok (.aload_n 0, 1) := by decide +kernel
theorem dX5_init_37 : decode cX5_init 37 = .ok (.iconst 0, 1) := by decide +kernel
theorem dX5_init_38 : decode cX5_init 38 = .ok (.putfield 24, 3) := by decide +kernel
theorem dX5_init_41 : decode cX5_init 41 = .ok (.aload_n 0, 1) := by decide +kernel
theorem dX5_init_42 : decode cX5_init 42 = .ok (.iconst 0, 1) := by decide +kernel
theorem dX5_init_43 : decode cX5_init 43 = .ok (.putfield 28, 3) := by decide +kernel
theorem dX5_init_46 : decode cX5_init 46 = .ok (.return_, 1) := by decide +kernel
theorem dX5_clear_0 : decode cX5_clear 0 = .ok (.aload_n 0, 1) := by decide +kernel
theorem dX5_clear_1 : decode cX5_clear 1 = .ok (.iconst 0, 1) := by decide +kernel
theorem dX5_clear_2 : decode cX5_clear 2 = .ok (.putfield 24, 3) := by decide +kernel
theorem dX5_clear_5 : decode cX5_clear 5 = .ok (.aload_n 0, 1) := by decide +kernel
theorem dX5_clear_6 : decode cX5_clear 6 = .ok (.iconst 0, 1) := by decide +kernel
theorem dX5_clear_7 : decode cX5_clear 7 = .ok (.putfield 28, 3) := by decide +kernel
theorem dX5_clear_10 : decode cX5_clear 10 = .ok (.return_, 1) := by decide +kernel
theorem dX5_addPayment_0 : decode cX5_addPayment 0 = .ok (.aload_n 0, 1) := by decide +kernel
theorem dX5_addPayment_1 : decode cX5_addPayment 1 = .ok (.getfield 24, 3) := by decide +kernel
theorem dX5_addPayment_4 : decode cX5_addPayment 4 = .ok (.bipush 6, 2) := by decide +kernel
theorem dX5_addPayment_6 : decode cX5_addPayment 6 = .ok (.if_icmp .lt 5, 3) := by decide +kernel
theorem dX5_addPayment_9 : decode cX5_addPayment 9 = .ok (.iconst 0, 1) := by decide +kernel
theorem dX5_addPayment_10 : decode cX5_addPayment 10 = .ok (.ireturn, 1) := by decide +kernel
theorem dX5_addPayment_11 : decode cX5_addPayment 11 = .ok (.aload_n 0, 1) := by decide +kernel
theorem dX5_addPayment_12 : decode cX5_addPayment 12 = .ok (.getfield 9, 3) := by decide +kernel
theorem dX5_addPayment_15 : decode cX5_addPayment 15 = .ok (.aload_n 0, 1) := by decide +kernel
theorem dX5_addPayment_16 : decode cX5_addPayment 16 = .ok (.getfield 24, 3) := by decide +kernel
theorem dX5_addPayment_19 : decode cX5_addPayment 19 = .ok (.iload_n 1, 1) := by decide +kernel
theorem dX5_addPayment_20 : decode cX5_addPayment 20 = .ok (.iastore, 1) := by decide +kernel
theorem dX5_addPayment_21 : decode cX5_addPayment 21 = .ok (.aload_n 0, 1) := by decide +kernel
theorem dX5_addPayment_22 : decode cX5_addPayment 22 = .ok (.getfield 15, 3) := by decide +kernel
theorem dX5_addPayment_25 : decode cX5_addPayment 25 = .ok (.aload_n 0, 1) := by decide +kernel
theorem dX5_addPayment_26 : decode cX5_addPayment 26 = .ok (.getfield 24, 3) := by decide +kernel
theorem dX5_addPayment_29 : decode cX5_addPayment 29 = .ok (.iload_n 2, 1) := by decide +kernel
theorem dX5_addPayment_30 : decode cX5_addPayment 30 = .ok (.iastore, 1) := by decide +kernel
theorem dX5_addPayment_31 : decode cX5_addPayment 31 = .ok (.aload_n 0, 1) := by decide +kernel
theorem dX5_addPayment_32 : decode cX5_addPayment 32 = .ok (.dup, 1) := by decide +kernel
theorem dX5_addPayment_33 : decode cX5_addPayment 33 = .ok (.getfield 24, 3) := by decide +kernel
theorem dX5_addPayment_36 : decode cX5_addPayment 36 = .ok (.iconst 1, 1) := by decide +kernel
theorem dX5_addPayment_37 : decode cX5_addPayment 37 = .ok (.iadd, 1) := by decide +kernel
theorem dX5_addPayment_38 : decode cX5_addPayment 38 = .ok (.putfield 24, 3) := by decide +kernel
theorem dX5_addPayment_41 : decode cX5_addPayment 41 = .ok (.iconst 1, 1) := by decide +kernel
theorem dX5_addPayment_42 : decode cX5_addPayment 42 = .ok (.ireturn, 1) := by decide +kernel
theorem dX5_addEntry_0 : decode cX5_addEntry 0 = .ok (.aload_n 0, 1) := by decide +kernel
theorem dX5_addEntry_1 : decode cX5_addEntry 1 = .ok (.getfield 28, 3) := by decide +kernel
theorem dX5_addEntry_4 : decode cX5_addEntry 4 = .ok (.bipush 15, 2) := by decide +kernel
theorem dX5_addEntry_6 : decode cX5_addEntry 6 = .ok (.if_icmp .lt 5, 3) := by decide +kernel
theorem dX5_addEntry_9 : decode cX5_addEntry 9 = .ok (.iconst 0, 1) := by decide +kernel
theorem dX5_addEntry_10 : decode cX5_addEntry 10 = .ok (.ireturn, 1) := by decide +kernel
theorem dX5_addEntry_11 : decode cX5_addEntry 11 = .ok (.aload_n 0, 1) := by decide +kernel
theorem dX5_addEntry_12 : decode cX5_addEntry 12 = .ok (.getfield 18, 3) := by decide +kernel
theorem dX5_addEntry_15 : decode cX5_addEntry 15 = .ok (.aload_n 0, 1) := by decide +kernel
theorem dX5_addEntry_16 : decode cX5_addEntry 16 = .ok (.getfield 28, 3) := by decide +kernel
theorem dX5_addEntry_19 : decode cX5_addEntry 19 = .ok (.iload_n 1, 1) := by decide +kernel
theorem dX5_addEntry_20 : decode cX5_addEntry 20 = .ok (.iastore, 1) := by decide +kernel
theorem dX5_addEntry_21 : decode cX5_addEntry 21 = .ok (.aload_n 0, 1) := by decide +kernel
theorem dX5_addEntry_22 : decode cX5_addEntry 22 = .ok (.getfield 21, 3) := by decide +kernel
theorem dX5_addEntry_25 : decode cX5_addEntry 25 = .ok (.aload_n 0, 1) := by decide +kernel
theorem dX5_addEntry_26 : decode cX5_addEntry 26 = .ok (.getfield 28, 3) := by decide +kernel
theorem dX5_addEntry_29 : decode cX5_addEntry 29 = .ok (.iload_n 2, 1) := by decide +kernel
theorem dX5_addEntry_30 : decode cX5_addEntry 30 = .ok (.iastore, 1) := by decide +kernel
theorem dX5_addEntry_31 : decode cX5_addEntry 31 = .ok (.aload_n 0, 1) := by decide +kernel
theorem dX5_addEntry_32 : decode cX5_addEntry 32 = .ok (.dup, 1) := by decide +kernel
theorem dX5_addEntry_33 : decode cX5_addEntry 33 = .ok (.getfield 28, 3) := by decide +kernel
theorem dX5_addEntry_36 : decode cX5_addEntry 36 = .ok (.iconst 1, 1) := by decide +kernel
theorem dX5_addEntry_37 : decode cX5_addEntry 37 = .ok (.iadd, 1) := by decide +kernel
theorem dX5_addEntry_38 : decode cX5_addEntry 38 = .ok (.putfield 28, 3) := by decide +kernel
theorem dX5_addEntry_41 : decode cX5_addEntry 41 = .ok (.iconst 1, 1) := by decide +kernel
theorem dX5_addEntry_42 : decode cX5_addEntry 42 = .ok (.ireturn, 1) := by decide +kernel
theorem dX5_firstWrong_0 : decode cX5_firstWrong 0 = .ok (.iconst 0, 1) := by decide +kernel
theorem dX5_firstWrong_1 : decode cX5_firstWrong 1 = .ok (.istore_n 2, 1) := by decide +kernel
theorem dX5_firstWrong_2 : decode cX5_firstWrong 2 = .ok (.iload_n 2, 1) := by decide +kernel
theorem dX5_firstWrong_3 : decode cX5_firstWrong 3 = .ok (.aload_n 0, 1) := by decide +kernel
theorem dX5_firstWrong_4 : decode cX5_firstWrong 4 = .ok (.getfield 28, 3) := by decide +kernel
theorem dX5_firstWrong_7 : decode cX5_firstWrong 7 = .ok (.if_icmp .ge 44, 3) := by decide +kernel
theorem dX5_firstWrong_10 : decode cX5_firstWrong 10 = .ok (.aload_n 0, 1) := by decide +kernel
theorem dX5_firstWrong_11 : decode cX5_firstWrong 11 = .ok (.getfield 18, 3) := by decide +kernel
theorem dX5_firstWrong_14 : decode cX5_firstWrong 14 = .ok (.iload_n 2, 1) := by decide +kernel
theorem dX5_firstWrong_15 : decode cX5_firstWrong 15 = .ok (.iaload, 1) := by decide +kernel
theorem dX5_firstWrong_16 : decode cX5_firstWrong 16 = .ok (.istore_n 3, 1) := by decide +kernel
theorem dX5_firstWrong_17 : decode cX5_firstWrong 17 = .ok (.aload_n 1, 1) := by decide +kernel
theorem dX5_firstWrong_18 : decode cX5_firstWrong 18 = .ok (.getfield 31, 3) := by decide +kernel
theorem dX5_firstWrong_21 : decode cX5_firstWrong 21 = .ok (.iload_n 3, 1) := by decide +kernel
theorem dX5_firstWrong_22 : decode cX5_firstWrong 22 = .ok (.invokevirtual 37, 3) := by decide +kernel
theorem dX5_firstWrong_25 : decode cX5_firstWrong 25 = .ok (.ifCond .eq 20, 3) := by decide +kernel
theorem dX5_firstWrong_28 : decode cX5_firstWrong 28 = .ok (.aload_n 1, 1) := by decide +kernel
theorem dX5_firstWrong_29 : decode cX5_firstWrong 29 = .ok (.getfield 43, 3) := by decide +kernel
theorem dX5_firstWrong_32 : decode cX5_firstWrong 32 = .ok (.iload_n 3, 1) := by decide +kernel
theorem dX5_firstWrong_33 : decode cX5_firstWrong 33 = .ok (.iaload, 1) := by decide +kernel
theorem dX5_firstWrong_34 : decode cX5_firstWrong 34 = .ok (.aload_n 0, 1) := by decide +kernel
theorem dX5_firstWrong_35 : decode cX5_firstWrong 35 = .ok (.getfield 21, 3) := by decide +kernel
theorem dX5_firstWrong_38 : decode cX5_firstWrong 38 = .ok (.iload_n 2, 1) := by decide +kernel
theorem dX5_firstWrong_39 : decode cX5_firstWrong 39 = .ok (.iaload, 1) := by decide +kernel
theorem dX5_firstWrong_40 : decode cX5_firstWrong 40 = .ok (.if_icmp .eq 5, 3) := by decide +kernel
theorem dX5_firstWrong_43 : decode cX5_firstWrong 43 = .ok (.iload_n 2, 1) := by decide +kernel
theorem dX5_firstWrong_44 : decode cX5_firstWrong 44 = .ok (.ireturn, 1) := by decide +kernel
theorem dX5_firstWrong_45 : decode cX5_firstWrong 45 = .ok (.iinc 2 1, 3) := by decide +kernel
theorem dX5_firstWrong_48 : decode cX5_firstWrong 48 = .ok (.goto (-46), 3) := by decide +kernel
theorem dX5_firstWrong_51 : decode cX5_firstWrong 51 = .ok (.iconst (-1), 1) := by decide +kernel
theorem dX5_firstWrong_52 : decode cX5_firstWrong 52 = .ok (.ireturn, 1) := by decide +kernel
theorem dX5_fits_0 : decode cX5_fits 0 = .ok (.iconst 0, 1) := by decide +kernel
theorem dX5_fits_1 : decode cX5_fits 1 = .ok (.istore_n 3, 1) := by decide +kernel
theorem dX5_fits_2 : decode cX5_fits 2 = .ok (.iload_n 3, 1) := by decide +kernel
theorem dX5_fits_3 : decode cX5_fits 3 = .ok (.aload_n 0, 1) := by decide +kernel
theorem dX5_fits_4 : decode cX5_fits 4 = .ok (.getfield 24, 3) := by decide +kernel
theorem dX5_fits_7 : decode cX5_fits 7 = .ok (.if_icmp .ge 31, 3) := by decide +kernel
theorem dX5_fits_10 : decode cX5_fits 10 = .ok (.aload_n 2, 1) := by decide +kernel
theorem dX5_fits_11 : decode cX5_fits 11 = .ok (.iload_n 1, 1) := by decide +kernel
theorem dX5_fits_12 : decode cX5_fits 12 = .ok (.aload_n 0, 1) := by decide +kernel
theorem dX5_fits_13 : decode cX5_fits 13 = .ok (.getfield 9, 3) := by decide +kernel
theorem dX5_fits_16 : decode cX5_fits 16 = .ok (.iload_n 3, 1) := by decide +kernel
theorem dX5_fits_17 : decode cX5_fits 17 = .ok (.iaload, 1) := by decide +kernel
theorem dX5_fits_18 : decode cX5_fits 18 = .ok (.invokevirtual 46, 3) := by decide +kernel
theorem dX5_fits_21 : decode cX5_fits 21 = .ok (.aload_n 0, 1) := by decide +kernel
theorem dX5_fits_22 : decode cX5_fits 22 = .ok (.getfield 15, 3) := by decide +kernel
theorem dX5_fits_25 : decode cX5_fits 25 = .ok (.iload_n 3, 1) := by decide +kernel
theorem dX5_fits_26 : decode cX5_fits 26 = .ok (.iaload, 1) := by decide +kernel
theorem dX5_fits_27 : decode cX5_fits 27 = .ok (.if_icmp .eq 5, 3) := by decide +kernel
theorem dX5_fits_30 : decode cX5_fits 30 = .ok (.iconst 0, 1) := by decide +kernel
theorem dX5_fits_31 : decode cX5_fits 31 = .ok (.ireturn, 1) := by decide +kernel
theorem dX5_fits_32 : decode cX5_fits 32 = .ok (.iinc 3 1, 3) := by decide +kernel
theorem dX5_fits_35 : decode cX5_fits 35 = .ok (.goto (-33), 3) := by decide +kernel
theorem dX5_fits_38 : decode cX5_fits 38 = .ok (.iconst 1, 1) := by decide +kernel
theorem dX5_fits_39 : decode cX5_fits 39 = .ok (.ireturn, 1) := by decide +kernel
theorem dX6_init_0 : decode cX6_init 0 = .ok (.aload_n 0, 1) := by decide +kernel
theorem dX6_init_1 : decode cX6_init 1 = .ok (.invokespecial 3, 3) := by decide +kernel
theorem dX6_init_4 : decode cX6_init 4 = .ok (.aload_n 0, 1) := by decide +kernel
theorem dX6_init_5 : decode cX6_init 5 = .ok (.bipush 16, 2) := by decide +kernel
theorem dX6_init_7 : decode cX6_init 7 = .ok (.anewarray 9, 3) := by decide +kernel
theorem dX6_init_10 : decode cX6_init 10 = .ok (.putfield 11, 3) := by decide +kernel
theorem dX6_init_13 : decode cX6_init 13 = .ok (.aload_n 0, 1) := by decide +kernel
theorem dX6_init_14 : decode cX6_init 14 = .ok (.iconst 0, 1) := by decide +kernel
theorem dX6_init_15 : decode cX6_init 15 = .ok (.putfield 17, 3) := by decide +kernel
theorem dX6_init_18 : decode cX6_init 18 = .ok (.aload_n 0, 1) := by decide +kernel
theorem dX6_init_19 : decode cX6_init 19 = .ok (.iconst 0, 1) := by decide +kernel
theorem dX6_init_20 : decode cX6_init 20 = .ok (.putfield 21, 3) := by decide +kernel
theorem dX6_init_23 : decode cX6_init 23 = .ok (.iconst 0, 1) := by decide +kernel
theorem dX6_init_24 : decode cX6_init 24 = .ok (.istore_n 2, 1) := by decide +kernel
theorem dX6_init_25 : decode cX6_init 25 = .ok (.iload_n 2, 1) := by decide +kernel
theorem dX6_init_26 : decode cX6_init 26 = .ok (.bipush 16, 2) := by decide +kernel
theorem dX6_init_28 : decode cX6_init 28 = .ok (.if_icmp .ge 23, 3) := by decide +kernel
theorem dX6_init_31 : decode cX6_init 31 = .ok (.aload_n 0, 1) := by decide +kernel
theorem dX6_init_32 : decode cX6_init 32 = .ok (.getfield 11, 3) := by decide +kernel
theorem dX6_init_35 : decode cX6_init 35 = .ok (.iload_n 2, 1) := by decide +kernel
theorem dX6_init_36 : decode cX6_init 36 = .ok (.new 9, 3) := by decide +kernel
theorem dX6_init_39 : decode cX6_init 39 = .ok (.dup, 1) := by decide +kernel
theorem dX6_init_40 : decode cX6_init 40 = .ok (.aload_n 1, 1) := by decide +kernel
theorem dX6_init_41 : decode cX6_init 41 = .ok (.invokespecial 24, 3) := by decide +kernel
theorem dX6_init_44 : decode cX6_init 44 = .ok (.aastore, 1) := by decide +kernel
theorem dX6_init_45 : decode cX6_init 45 = .ok (.iinc 2 1, 3) := by decide +kernel
theorem dX6_init_48 : decode cX6_init 48 = .ok (.goto (-23), 3) := by decide +kernel
theorem dX6_init_51 : decode cX6_init 51 = .ok (.return_, 1) := by decide +kernel
theorem dX6_forget_0 : decode cX6_forget 0 = .ok (.aload_n 0, 1) := by decide +kernel
theorem dX6_forget_1 : decode cX6_forget 1 = .ok (.iconst 0, 1) := by decide +kernel
theorem dX6_forget_2 : decode cX6_forget 2 = .ok (.putfield 21, 3) := by decide +kernel
theorem dX6_forget_5 : decode cX6_forget 5 = .ok (.return_, 1) := by decide +kernel
theorem dX6_mark_0 : decode cX6_mark 0 = .ok (.aload_n 0, 1) := by decide +kernel
theorem dX6_mark_1 : decode cX6_mark 1 = .ok (.getfield 11, 3) := by decide +kernel
theorem dX6_mark_4 : decode cX6_mark 4 = .ok (.aload_n 0, 1) := by decide +kernel
theorem dX6_mark_5 : decode cX6_mark 5 = .ok (.getfield 17, 3) := by decide +kernel
theorem dX6_mark_8 : decode cX6_mark 8 = .ok (.aaload, 1) := by decide +kernel
theorem dX6_mark_9 : decode cX6_mark 9 = .ok (.aload_n 1, 1) := by decide +kernel
theorem dX6_mark_10 : decode cX6_mark 10 = .ok (.invokevirtual 27, 3) := by decide +kernel
theorem dX6_mark_13 : decode cX6_mark 13 = .ok (.aload_n 0, 1) := by decide +kernel
theorem dX6_mark_14 : decode cX6_mark 14 = .ok (.aload_n 0, 1) := by decide +kernel
theorem dX6_mark_15 : decode cX6_mark 15 = .ok (.getfield 17, 3) := by decide +kernel
theorem dX6_mark_18 : decode cX6_mark 18 = .ok (.iconst 1, 1) := by decide +kernel
theorem dX6_mark_19 : decode cX6_mark 19 = .ok (.iadd, 1) := by decide +kernel
theorem dX6_mark_20 : decode cX6_mark 20 = .ok (.bipush 16, 2) := by decide +kernel
theorem dX6_mark_22 : decode cX6_mark 22 = .ok (.irem, 1) := by decide +kernel
theorem dX6_mark_23 : decode cX6_mark 23 = .ok (.putfield 17, 3) := by decide +kernel
theorem dX6_mark_26 : decode cX6_mark 26 = .ok (.aload_n 0, 1) := by decide +kernel
theorem dX6_mark_27 : decode cX6_mark 27 = .ok (.bipush 16, 2) := by decide +kernel
theorem dX6_mark_29 : decode cX6_mark 29 = .ok (.aload_n 0, 1) := by decide +kernel
theorem dX6_mark_30 : decode cX6_mark 30 = .ok (.getfield 21, 3) := by decide +kernel
theorem dX6_mark_33 : decode cX6_mark 33 = .ok (.iconst 1, 1) := by decide +kernel
theorem dX6_mark_34 : decode cX6_mark 34 = .ok (.iadd, 1) := by decide +kernel
theorem dX6_mark_35 : decode cX6_mark 35 = .ok (.invokestatic 31, 3) := by decide +kernel
theorem dX6_mark_38 : decode cX6_mark 38 = .ok (.putfield 21, 3) := by decide +kernel
theorem dX6_mark_41 : decode cX6_mark 41 = .ok (.return_, 1) := by decide +kernel
theorem dX6_restore_0 : decode cX6_restore 0 = .ok (.aload_n 0, 1) := by decide +kernel
theorem dX6_restore_1 : decode cX6_restore 1 = .ok (.getfield 21, 3) := by decide +kernel
theorem dX6_restore_4 : decode cX6_restore 4 = .ok (.ifCond .ne 5, 3) := by decide +kernel
theorem dX6_restore_7 : decode cX6_restore 7 = .ok (.iconst 0, 1) := by decide +kernel
theorem dX6_restore_8 : decode cX6_restore 8 = .ok (.ireturn, 1) := by decide +kernel
theorem dX6_restore_9 : decode cX6_restore 9 = .ok (.aload_n 0, 1) := by decide +kernel
theorem dX6_restore_10 : decode cX6_restore 10 = .ok (.aload_n 0, 1) := by decide +kernel
theorem dX6_restore_11 : decode cX6_restore 11 = .ok (.getfield 17, 3) := by decide +kernel
theorem dX6_restore_14 : decode cX6_restore 14 = .ok (.bipush 16, 2) := by decide +kernel
theorem dX6_restore_16 : decode cX6_restore 16 = .ok (.iadd, 1) := by decide +kernel
theorem dX6_restore_17 : decode cX6_restore 17 = .ok (.iconst 1, 1) := by decide +kernel
theorem dX6_restore_18 : decode cX6_restore 18 = .ok (.isub, 1) := by decide +kernel
theorem dX6_restore_19 : decode cX6_restore 19 = .ok (.bipush 16, 2) := by decide +kernel
theorem dX6_restore_21 : decode cX6_restore 21 = .ok (.irem, 1) := by decide +kernel
theorem dX6_restore_22 : decode cX6_restore 22 = .ok (.putfield 17, 3) := by decide +kernel
theorem dX6_restore_25 : decode cX6_restore 25 = .ok (.aload_n 0, 1) := by decide +kernel
theorem dX6_restore_26 : decode cX6_restore 26 = .ok (.dup, 1) := by decide +kernel
theorem dX6_restore_27 : decode cX6_restore 27 = .ok (.getfield 21, 3) := by decide +kernel
theorem dX6_restore_30 : decode cX6_restore 30 = .ok (.iconst 1, 1) := by decide +kernel
theorem dX6_restore_31 : decode cX6_restore 31 = .ok (.isub, 1) := by decide +kernel
theorem dX6_restore_32 : decode cX6_restore 32 = .ok (.putfield 21, 3) := by decide +kernel
theorem dX6_restore_35 : decode cX6_restore 35 = .ok (.aload_n 1, 1) := by decide +kernel
theorem dX6_restore_36 : decode cX6_restore 36 = .ok (.aload_n 0, 1) := by decide +kernel
theorem dX6_restore_37 : decode cX6_restore 37 = .ok (.getfield 11, 3) := by decide +kernel
theorem dX6_restore_40 : decode cX6_restore 40 = .ok (.aload_n 0, 1) := by decide +kernel
theorem dX6_restore_41 : decode cX6_restore 41 = .ok (.getfield 17, 3) := by decide +kernel
theorem dX6_restore_44 : decode cX6_restore 44 = .ok (.aaload, 1) := by decide +kernel
theorem dX6_restore_45 : decode cX6_restore 45 = .ok (.invokevirtual 27, 3) := by decide +kernel
theorem dX6_restore_48 : decode cX6_restore 48 = .ok (.iconst 1, 1) := by decide +kernel
theorem dX6_restore_49 : decode cX6_restore 49 = .ok (.ireturn, 1) := by decide +kernel
theorem dX7_init_0 : decode cX7_init 0 = .ok (.aload_n 0, 1) := by decide +kernel
theorem dX7_init_1 : decode cX7_init 1 = .ok (.invokespecial 3, 3) := by decide +kernel
theorem dX7_init_4 : decode cX7_init 4 = .ok (.aload_n 0, 1) := by decide +kernel
theorem dX7_init_5 : decode cX7_init 5 = .ok (.sipush 240, 3) := by decide +kernel
theorem dX7_init_8 : decode cX7_init 8 = .ok (.newarray .int, 2) := by decide +kernel
theorem dX7_init_10 : decode cX7_init 10 = .ok (.putfield 9, 3) := by decide +kernel
theorem dX7_init_13 : decode cX7_init 13 = .ok (.aload_n 0, 1) := by decide +kernel
theorem dX7_init_14 : decode cX7_init 14 = .ok (.iconst 0, 1) := by decide +kernel
theorem dX7_init_15 : decode cX7_init 15 = .ok (.putfield 15, 3) := by decide +kernel
theorem dX7_init_18 : decode cX7_init 18 = .ok (.aload_n 0, 1) := by decide +kernel
theorem dX7_init_19 : decode cX7_init 19 = .ok (.iconst 0, 1) := by decide +kernel
theorem dX7_init_20 : decode cX7_init 20 = .ok (.putfield 19, 3) := by decide +kernel
theorem dX7_init_23 : decode cX7_init 23 = .ok (.aload_n 0, 1) := by decide +kernel
theorem dX7_init_24 : decode cX7_init 24 = .ok (.iconst 0, 1) := by decide +kernel
theorem dX7_init_25 : decode cX7_init 25 = .ok (.putfield 22, 3) := by decide +kernel
theorem dX7_init_28 : decode cX7_init 28 = .ok (.aload_n 0, 1) := by decide +kernel
theorem dX7_init_29 : decode cX7_init 29 = .ok (.iconst (-1), 1) := by decide +kernel
theorem dX7_init_30 : decode cX7_init 30 = .ok (.putfield 25, 3) := by decide +kernel
theorem dX7_init_33 : decode cX7_init 33 = .ok (.return_, 1) := by decide +kernel
theorem dX7_append_0 : decode cX7_append 0 = .ok (.aload_n 0, 1) := by decide +kernel
theorem dX7_append_1 : decode cX7_append 1 = .ok (.getfield 15, 3) := by decide +kernel
theorem dX7_append_4 : decode cX7_append 4 = .ok (.sipush 240, 3) := by decide +kernel
theorem dX7_append_7 : decode cX7_append 7 = .ok (.if_icmp .lt 5, 3) := by decide +kernel
theorem dX7_append_10 : decode cX7_append 10 = .ok (.iconst 0, 1) := by decide +kernel
theorem dX7_append_11 : decode cX7_append 11 = .ok (.ireturn, 1) := by decide +kernel
theorem dX7_append_12 : decode cX7_append 12 = .ok (.aload_n 0, 1) := by decide +kernel
theorem dX7_append_13 : decode cX7_append 13 = .ok (.getfield 9, 3) := by decide +kernel
theorem dX7_append_16 : decode cX7_append 16 = .ok (.aload_n 0, 1) := by decide +kernel
theorem dX7_append_17 : decode cX7_append 17 = .ok (.getfield 15, 3) := by decide +kernel
theorem dX7_append_20 : decode cX7_append 20 = .ok (.iload_n 1, 1) := by decide +kernel
theorem dX7_append_21 : decode cX7_append 21 = .ok (.iastore, 1) := by decide +kernel
theorem dX7_append_22 : decode cX7_append 22 = .ok (.aload_n 0, 1) := by decide +kernel
theorem dX7_append_23 : decode cX7_append 23 = .ok (.dup, 1) := by decide +kernel
theorem dX7_append_24 : decode cX7_append 24 = .ok (.getfield 15, 3) := by decide +kernel
theorem dX7_append_27 : decode cX7_append 27 = .ok (.iconst 1, 1) := by decide +kernel
theorem dX7_append_28 : decode cX7_append 28 = .ok (.iadd, 1) := by decide +kernel
theorem dX7_append_29 : decode cX7_append 29 = .ok (.putfield 15, 3) := by decide +kernel
theorem dX7_append_32 : decode cX7_append 32 = .ok (.iconst 1, 1) := by decide +kernel
theorem dX7_append_33 : decode cX7_append 33 = .ok (.ireturn, 1) := by decide +kernel
theorem dX7_readInto_0 : decode cX7_readInto 0 = .ok (.aload_n 0, 1) := by decide +kernel
theorem dX7_readInto_1 : decode cX7_readInto 1 = .ok (.iconst 0, 1) := by decide +kernel
theorem dX7_readInto_2 : decode cX7_readInto 2 = .ok (.putfield 19, 3) := by decide +kernel
theorem dX7_readInto_5 : decode cX7_readInto 5 = .ok (.aload_n 0, 1) := by decide +kernel
theorem dX7_readInto_6 : decode cX7_readInto 6 = .ok (.iconst 0, 1) := by decide +kernel
theorem dX7_readInto_7 : decode cX7_readInto 7 = .ok (.putfield 22, 3) := by decide +kernel
theorem dX7_readInto_10 : decode cX7_readInto 10 = .ok (.aload_n 0, 1) := by decide +kernel
theorem dX7_readInto_11 : decode cX7_readInto 11 = .ok (.iconst (-1), 1) := by decide +kernel
theorem dX7_readInto_12 : decode cX7_readInto 12 = .ok (.putfield 25, 3) := by decide +kernel
theorem dX7_readInto_15 : decode cX7_readInto 15 = .ok (.aload_n 1, 1) := by decide +kernel
theorem dX7_readInto_16 : decode cX7_readInto 16 = .ok (.invokevirtual 28, 3) := by decide +kernel
theorem dX7_readInto_19 : decode cX7_readInto 19 = .ok (.aload_n 0, 1) := by decide +kernel
theorem dX7_readInto_20 : decode cX7_readInto 20 = .ok (.invokevirtual 33, 3) := by decide +kernel
theorem dX7_readInto_23 : decode cX7_readInto 23 = .ok (.iconst 0, 1) := by decide +kernel
theorem dX7_readInto_24 : decode cX7_readInto 24 = .ok (.istore_n 2, 1) := by decide +kernel
theorem dX7_readInto_25 : decode cX7_readInto 25 = .ok (.iload_n 2, 1) := by decide +kernel
theorem dX7_readInto_26 : decode cX7_readInto 26 = .ok (.sipush 240, 3) := by decide +kernel
theorem dX7_readInto_29 : decode cX7_readInto 29 = .ok (.if_icmp .ge 36, 3) := by decide +kernel
theorem dX7_readInto_32 : decode cX7_readInto 32 = .ok (.aload_n 0, 1) := by decide +kernel
theorem dX7_readInto_33 : decode cX7_readInto 33 = .ok (.getfield 19, 3) := by decide +kernel
theorem dX7_readInto_36 : decode cX7_readInto 36 = .ok (.aload_n 0, 1) := by decide +kernel
theorem dX7_readInto_37 : decode cX7_readInto 37 = .ok (.getfield 15, 3) := by decide +kernel
theorem dX7_readInto_40 : decode cX7_readInto 40 = .ok (.if_icmp .ge 25, 3) := by decide +kernel
theorem dX7_readInto_43 : decode cX7_readInto 43 = .ok (.aload_n 0, 1) := by decide +kernel
theorem dX7_readInto_44 : decode cX7_readInto 44 = .ok (.getfield 22, 3) := by decide +kernel
theorem dX7_readInto_47 : decode cX7_readInto 47 = .ok (.ifCond .ne 18, 3) := by decide +kernel
theorem dX7_readInto_50 : decode cX7_readInto 50 = .ok (.aload_n 0, 1) := by decide +kernel
theorem dX7_readInto_51 : decode cX7_readInto 51 = .ok (.aload_n 1, 1) := by decide +kernel
theorem dX7_readInto_52 : decode cX7_readInto 52 = .ok (.invokevirtual 36, 3) := by decide +kernel
theorem dX7_readInto_55 : decode cX7_readInto 55 = .ok (.aload_n 0, 1) := by decide +kernel
theorem dX7_readInto_56 : decode cX7_readInto 56 = .ok (.invokevirtual 33, 3) := by decide +kernel
theorem dX7_readInto_59 : decode cX7_readInto 59 = .ok (.iinc 2 1, 3) := by decide +kernel
theorem dX7_readInto_62 : decode cX7_readInto 62 = .ok (.goto (-37), 3) := by decide +kernel
theorem dX7_readInto_65 : decode cX7_readInto 65 = .ok (.aload_n 0, 1) := by decide +kernel
theorem dX7_readInto_66 : decode cX7_readInto 66 = .ok (.iconst 0, 1) := by decide +kernel
theorem dX7_readInto_67 : decode cX7_readInto 67 = .ok (.putfield 15, 3) := by decide +kernel
theorem dX7_readInto_70 : decode cX7_readInto 70 = .ok (.aload_n 0, 1) := by decide +kernel
theorem dX7_readInto_71 : decode cX7_readInto 71 = .ok (.getfield 22, 3) := by decide +kernel
theorem dX7_readInto_74 : decode cX7_readInto 74 = .ok (.ireturn, 1) := by decide +kernel
theorem dX7_readClause_0 : decode cX7_readClause 0 = .ok (.aload_n 0, 1) := by decide +kernel
theorem dX7_readClause_1 : decode cX7_readClause 1 = .ok (.invokevirtual 40, 3) := by decide +kernel
theorem dX7_readClause_4 : decode cX7_readClause 4 = .ok (.istore_n 2, 1) := by decide +kernel
theorem dX7_readClause_5 : decode cX7_readClause 5 = .ok (.aload_n 1, 1) := by decide +kernel
theorem dX7_readClause_6 : decode cX7_readClause 6 = .ok (.invokevirtual 44, 3) := by decide +kernel
theorem dX7_readClause_9 : decode cX7_readClause 9 = .ok (.istore_n 3, 1) := by decide +kernel
theorem dX7_readClause_10 : decode cX7_readClause 10 = .ok (.iload_n 2, 1) := by decide +kernel
theorem dX7_readClause_11 : decode cX7_readClause 11 = .ok (.bipush 100, 2) := by decide +kernel
theorem dX7_readClause_13 : decode cX7_readClause 13 = .ok (.if_icmp .eq 31, 3) := by decide +kernel
theorem dX7_readClause_16 : decode cX7_readClause 16 = .ok (.iload_n 3, 1) := by decide +kernel
theorem dX7_readClause_17 : decode cX7_readClause 17 = .ok (.ifCond .ne 15, 3) := by decide +kernel
theorem dX7_readClause_20 : decode cX7_readClause 20 = .ok (.iload_n 2, 1) := by decide +kernel
theorem dX7_readClause_21 : decode cX7_readClause 21 = .ok (.bipush 115, 2) := by decide +kernel
theorem dX7_readClause_23 : decode cX7_readClause 23 = .ok (.if_icmp .eq 21, 3) := by decide +kernel
theorem dX7_readClause_26 : decode cX7_readClause 26 = .ok (.iload_n 2, 1) := by decide +kernel
theorem dX7_readClause_27 : decode cX7_readClause 27 = .ok (.bipush 105, 2) := by decide +kernel
theorem dX7_readClause_29 : decode cX7_readClause 29 = .ok (.if_icmp .eq 15, 3) := by decide +kernel
theorem dX7_readClause_32 : decode cX7_readClause 32 = .ok (.aload_n 0, 1) := by decide +kernel
theorem dX7_readClause_33 : decode cX7_readClause 33 = .ok (.iconst 1, 1) := by decide +kernel
theorem dX7_readClause_34 : decode cX7_readClause 34 = .ok (.aload_n 0, 1) := by decide +kernel
theorem dX7_readClause_35 : decode cX7_readClause 35 = .ok (.getfield 19, 3) := by decide +kernel
theorem dX7_readClause_38 : decode cX7_readClause 38 = .ok (.invokevirtual 48, 3) := by decide +kernel
theorem dX7_readClause_41 : decode cX7_readClause 41 = .ok (.goto 70, 3) := by decide +kernel
theorem dX7_readClause_44 : decode cX7_readClause 44 = .ok (.iload_n 2, 1) := by decide +kernel
theorem dX7_readClause_45 : decode cX7_readClause 45 = .ok (.bipush 100, 2) := by decide +kernel
theorem dX7_readClause_47 : decode cX7_readClause 47 = .ok (.if_icmp .ne 7, 3) := by decide +kernel
theorem dX7_readClause_50 : decode cX7_readClause 50 = .ok (.iload_n 3, 1) := by decide +kernel
theorem dX7_readClause_51 : decode cX7_readClause 51 = .ok (.ifCond .eq 32, 3) := by decide +kernel
theorem dX7_readClause_54 : decode cX7_readClause 54 = .ok (.iload_n 2, 1) := by decide +kernel
theorem dX7_readClause_55 : decode cX7_readClause 55 = .ok (.bipush 115, 2) := by decide +kernel
theorem dX7_readClause_57 : decode cX7_readClause 57 = .ok (.if_icmp .ne 12, 3) := by decide +kernel
theorem dX7_readClause_60 : decode cX7_readClause 60 = .ok (.aload_n 1, 1) := by decide +kernel
theorem dX7_readClause_61 : decode cX7_readClause 61 = .ok (.getfield 52, 3) := by decide +kernel
theorem dX7_readClause_64 : decode cX7_readClause 64 = .ok (.bipush 7, 2) := by decide +kernel
theorem dX7_readClause_66 : decode cX7_readClause 66 = .ok (.if_icmp .eq 17, 3) := by decide +kernel
theorem dX7_readClause_69 : decode cX7_readClause 69 = .ok (.iload_n 2, 1) := by decide +kernel
theorem dX7_readClause_70 : decode cX7_readClause 70 = .ok (.bipush 105, 2) := by decide +kernel
theorem dX7_readClause_72 : decode cX7_readClause 72 = .ok (.if_icmp .ne 23, 3) := by decide +kernel
theorem dX7_readClause_75 : decode cX7_readClause 75 = .ok (.aload_n 1, 1) := by decide +kernel
theorem dX7_readClause_76 : decode cX7_readClause 76 = .ok (.getfield 55, 3) := by decide +kernel
theorem dX7_readClause_79 : decode cX7_readClause 79 = .ok (.iconst 4, 1) := by decide +kernel
theorem dX7_readClause_80 : decode cX7_readClause 80 = .ok (.if_icmp .ne 15, 3) := by decide +kernel
theorem dX7_readClause_83 : decode cX7_readClause 83 = .ok (.aload_n 0, 1) := by decide +kernel
theorem dX7_readClause_84 : decode cX7_readClause 84 = .ok (.iconst 3, 1) := by decide +kernel
theorem dX7_readClause_85 : decode cX7_readClause 85 = .ok (.aload_n 0, 1) := by decide +kernel
theorem dX7_readClause_86 : decode cX7_readClause 86 = .ok (.getfield 19, 3) := by decide +kernel
theorem dX7_readClause_89 : decode cX7_readClause 89 = .ok (.invokevirtual 48, 3) := by decide +kernel
theorem dX7_readClause_92 : decode cX7_readClause 92 = .ok (.goto 19, 3) := by decide +kernel
theorem dX7_readClause_95 : decode cX7_readClause 95 = .ok (.aload_n 0, 1) := by decide +kernel
theorem dX7_readClause_96 : decode cX7_readClause 96 = .ok (.dup, 1) := by decide +kernel
theorem dX7_readClause_97 : decode cX7_readClause 97 = .ok (.getfield 19, 3) := by decide +kernel
theorem dX7_readClause_100 : decode cX7_readClause 100 = .ok (.iconst 1, 1) := by decide +kernel
theorem dX7_readClause_101 : decode cX7_readClause 101 = .ok (.iadd, 1) := by decide +kernel
theorem dX7_readClause_102 : decode cX7_readClause 102 = .ok (.putfield 19, 3) := by decide +kernel
theorem dX7_readClause_105 : decode cX7_readClause 105 = .ok (.aload_n 0, 1) := by decide +kernel
theorem dX7_readClause_106 : decode cX7_readClause 106 = .ok (.iload_n 2, 1) := by decide +kernel
theorem dX7_readClause_107 : decode cX7_readClause 107 = .ok (.aload_n 1, 1) := by decide +kernel
theorem dX7_readClause_108 : decode cX7_readClause 108 = .ok (.invokevirtual 58, 3) := by decide +kernel
theorem dX7_readClause_111 : decode cX7_readClause 111 = .ok (.return_, 1) := by decide +kernel
theorem dX7_readNumbers_0 : decode cX7_readNumbers 0 = .ok (.iload_n 1, 1) := by decide +kernel
theorem dX7_readNumbers_1 : decode cX7_readNumbers 1 = .ok (.bipush 100, 2) := by decide +kernel
theorem dX7_readNumbers_3 : decode cX7_readNumbers 3 = .ok (.if_icmp .ne 38, 3) := by decide +kernel
theorem dX7_readNumbers_6 : decode cX7_readNumbers 6 = .ok (.aload_n 2, 1) := by decide +kernel
theorem dX7_readNumbers_7 : decode cX7_readNumbers 7 = .ok (.aload_n 0, 1) := by decide +kernel
theorem dX7_readNumbers_8 : decode cX7_readNumbers 8 = .ok (.iconst 1, 1) := by decide +kernel
theorem dX7_readNumbers_9 : decode cX7_readNumbers 9 = .ok (.bipush 9, 2) := by decide +kernel
theorem dX7_readNumbers_11 : decode cX7_readNumbers 11 = .ok (.invokevirtual 62, 3) := by decide +kernel
theorem dX7_readNumbers_14 : decode cX7_readNumbers 14 = .ok (.putfield 66, 3) := by decide +kernel
theorem dX7_readNumbers_17 : decode cX7_readNumbers 17 = .ok (.aload_n 2, 1) := by decide +kernel
theorem dX7_readNumbers_18 : decode cX7_readNumbers 18 = .ok (.aload_n 0, 1) := by decide +kernel
theorem dX7_readNumbers_19 : decode cX7_readNumbers 19 = .ok (.iconst 1, 1) := by decide +kernel
theorem dX7_readNumbers_20 : decode cX7_readNumbers 20 = .ok (.iconst 4, 1) := by decide +kernel
theorem dX7_readNumbers_21 : decode cX7_readNumbers 21 = .ok (.invokevirtual 62, 3) := by decide +kernel
theorem dX7_readNumbers_24 : decode cX7_readNumbers 24 = .ok (.putfield 69, 3) := by decide +kernel
theorem dX7_readNumbers_27 : decode cX7_readNumbers 27 = .ok (.aload_n 2, 1) := by decide +kernel
theorem dX7_readNumbers_28 : decode cX7_readNumbers 28 = .ok (.aload_n 0, 1) := by decide +kernel
theorem dX7_readNumbers_29 : decode cX7_readNumbers 29 = .ok (.iconst 1, 1) := by decide +kernel
theorem dX7_readNumbers_30 : decode cX7_readNumbers 30 = .ok (.bipush 9, 2) := by decide +kernel
theorem dX7_readNumbers_32 : decode cX7_readNumbers 32 = .ok (.invokevirtual 62, 3) := by decide +kernel
theorem dX7_readNumbers_35 : decode cX7_readNumbers 35 = .ok (.putfield 72, 3) := by decide +kernel
theorem dX7_readNumbers_38 : decode cX7_readNumbers 38 = .ok (.goto 75, 3) := by decide +kernel
theorem dX7_readNumbers_41 : decode cX7_readNumbers 41 = .ok (.iload_n 1, 1) := by decide +kernel
theorem dX7_readNumbers_42 : decode cX7_readNumbers 42 = .ok (.bipush 115, 2) := by decide +kernel
theorem dX7_readNumbers_44 : decode cX7_readNumbers 44 = .ok (.if_icmp .ne 54, 3) := by decide +kernel
theorem dX7_readNumbers_47 : decode cX7_readNumbers 47 = .ok (.aload_n 0, 1) := by decide +kernel
theorem dX7_readNumbers_48 : decode cX7_readNumbers 48 = .ok (.iconst 0, 1) := by decide +kernel
theorem dX7_readNumbers_49 : decode cX7_readNumbers 49 = .ok (.iconst 3, 1) := by decide +kernel
theorem dX7_readNumbers_50 : decode cX7_readNumbers 50 = .ok (.invokevirtual 62, 3) := by decide +kernel
theorem dX7_readNumbers_53 : decode cX7_readNumbers 53 = .ok (.istore_n 3, 1) := by decide +kernel
theorem dX7_readNumbers_54 : decode cX7_readNumbers 54 = .ok (.aload_n 0, 1) := by decide +kernel
theorem dX7_readNumbers_55 : decode cX7_readNumbers 55 = .ok (.iconst 0, 1) := by decide +kernel
theorem dX7_readNumbers_56 : decode cX7_readNumbers 56 = .ok (.aload_n 2, 1) := by decide +kernel
theorem dX7_readNumbers_57 : decode cX7_readNumbers 57 = .ok (.getfield 69, 3) := by decide +kernel
theorem dX7_readNumbers_60 : decode cX7_readNumbers 60 = .ok (.iconst 1, 1) := by decide +kernel
theorem dX7_readNumbers_61 : decode cX7_readNumbers 61 = .ok (.isub, 1) := by decide +kernel
theorem dX7_readNumbers_62 : decode cX7_readNumbers 62 = .ok (.invokevirtual 62, 3) := by decide +kernel
theorem dX7_readNumbers_65 : decode cX7_readNumbers 65 = .ok (.istore 4, 2) := by decide +kernel
theorem dX7_readNumbers_67 : decode cX7_readNumbers 67 = .ok (.aload_n 0, 1) := by decide +kernel
theorem dX7_readNumbers_68 : decode cX7_readNumbers 68 = .ok (.iconst 0, 1) := by decide +kernel
theorem dX7_readNumbers_69 : decode cX7_readNumbers 69 = .ok (.sipush 999, 3) := by decide +kernel
theorem dX7_readNumbers_72 : decode cX7_readNumbers 72 = .ok (.invokevirtual 62, 3) := by decide +kernel
theorem dX7_readNumbers_75 : decode cX7_readNumbers 75 = .ok (.istore 5, 2) := by decide +kernel
theorem dX7_readNumbers_77 : decode cX7_readNumbers 77 = .ok (.aload_n 2, 1) := by decide +kernel
theorem dX7_readNumbers_78 : decode cX7_readNumbers 78 = .ok (.iload_n 3, 1) := by decide +kernel
theorem dX7_readNumbers_79 : decode cX7_readNumbers 79 = .ok (.iload 4, 2) := by decide +kernel
theorem dX7_readNumbers_81 : decode cX7_readNumbers 81 = .ok (.iload 5, 2) := by decide +kernel
theorem dX7_readNumbers_83 : decode cX7_readNumbers 83 = .ok (.aload_n 0, 1) := by decide +kernel
theorem dX7_readNumbers_84 : decode cX7_readNumbers 84 = .ok (.iconst 0, 1) := by decide +kernel
theorem dX7_readNumbers_85 : decode cX7_readNumbers 85 = .ok (.aload_n 2, 1) := by decide +kernel
theorem dX7_readNumbers_86 : decode cX7_readNumbers 86 = .ok (.invokevirtual 75, 3) := by decide +kernel
theorem dX7_readNumbers_89 : decode cX7_readNumbers 89 = .ok (.invokevirtual 62, 3) := by decide +kernel
theorem dX7_readNumbers_92 : decode cX7_readNumbers 92 = .ok (.invokevirtual 78, 3) := by decide +kernel
theorem dX7_readNumbers_95 : decode cX7_readNumbers 95 = .ok (.goto 18, 3) := by decide +kernel
theorem dX7_readNumbers_98 : decode cX7_readNumbers 98 = .ok (.aload_n 2, 1) := by decide +kernel
theorem dX7_readNumbers_99 : decode cX7_readNumbers 99 = .ok (.aload_n 0, 1) := by decide +kernel
theorem dX7_readNumbers_100 : decode cX7_readNumbers 100 = .ok (.iconst 0, 1) := by decide +kernel
theorem dX7_readNumbers_101 : decode cX7_readNumbers 101 = .ok (.aload_n 2, 1) := by decide +kernel
theorem dX7_readNumbers_102 : decode cX7_readNumbers 102 = .ok (.getfield 69, 3) := by decide +kernel
theorem dX7_readNumbers_105 : decode cX7_readNumbers 105 = .ok (.iconst 1, 1) := by decide +kernel
theorem dX7_readNumbers_106 : decode cX7_readNumbers 106 = .ok (.isub, 1) := by decide +kernel
theorem dX7_readNumbers_107 : decode cX7_readNumbers 107 = .ok (.invokevirtual 62, 3) := by decide +kernel
theorem dX7_readNumbers_110 : decode cX7_readNumbers 110 = .ok (.invokevirtual 82, 3) := by decide +kernel
theorem dX7_readNumbers_113 : decode cX7_readNumbers 113 = .ok (.aload_n 0, 1) := by decide +kernel
theorem dX7_readNumbers_114 : decode cX7_readNumbers 114 = .ok (.invokevirtual 86, 3) := by decide +kernel
theorem dX7_readNumbers_117 : decode cX7_readNumbers 117 = .ok (.return_, 1) := by decide +kernel
theorem dX7_readNumber_0 : decode cX7_readNumber 0 = .ok (.aload_n 0, 1) := by decide +kernel
theorem dX7_readNumber_1 : decode cX7_readNumber 1 = .ok (.getfield 22, 3) := by decide +kernel
theorem dX7_readNumber_4 : decode cX7_readNumber 4 = .ok (.ifCond .eq 5, 3) := by decide +kernel
theorem dX7_readNumber_7 : decode cX7_readNumber 7 = .ok (.iload_n 1, 1) := by decide +kernel
theorem dX7_readNumber_8 : decode cX7_readNumber 8 = .ok (.ireturn, 1) := by decide +kernel
theorem dX7_readNumber_9 : decode cX7_readNumber 9 = .ok (.aload_n 0, 1) := by decide +kernel
theorem dX7_readNumber_10 : decode cX7_readNumber 10 = .ok (.invokevirtual 33, 3) := by decide +kernel
theorem dX7_readNumber_13 : decode cX7_readNumber 13 = .ok (.aload_n 0, 1) := by decide +kernel
theorem dX7_readNumber_14 : decode cX7_readNumber 14 = .ok (.getfield 19, 3) := by decide +kernel
theorem dX7_readNumber_17 : decode cX7_readNumber 17 = .ok (.istore_n 3, 1) := by decide +kernel
theorem dX7_readNumber_18 : decode cX7_readNumber 18 = .ok (.iconst 0, 1) := by decide +kernel
theorem dX7_readNumber_19 : decode cX7_readNumber 19 = .ok (.istore 4, 2) := by decide +kernel
theorem dX7_readNumber_21 : decode cX7_readNumber 21 = .ok (.aload_n 0, 1) := by decide +kernel
theorem dX7_readNumber_22 : decode cX7_readNumber 22 = .ok (.getfield 19, 3) := by decide +kernel
theorem dX7_readNumber_25 : decode cX7_readNumber 25 = .ok (.aload_n 0, 1) := by decide +kernel
theorem dX7_readNumber_26 : decode cX7_readNumber 26 = .ok (.getfield 15, 3) := by decide +kernel
theorem dX7_readNumber_29 : decode cX7_readNumber 29 = .ok (.if_icmp .ge 56, 3) := by decide +kernel
theorem dX7_readNumber_32 : decode cX7_readNumber 32 = .ok (.aload_n 0, 1) := by decide +kernel
theorem dX7_readNumber_33 : decode cX7_readNumber 33 = .ok (.invokevirtual 40, 3) := by decide +kernel
theorem dX7_readNumber_36 : decode cX7_readNumber 36 = .ok (.invokestatic 89, 3) := by decide +kernel
theorem dX7_readNumber_39 : decode cX7_readNumber 39 = .ok (.ifCond .eq 46, 3) := by decide +kernel
theorem dX7_readNumber_42 : decode cX7_readNumber 42 = .ok (.aload_n 0, 1) := by decide +kernel
theorem dX7_readNumber_43 : decode cX7_readNumber 43 = .ok (.getfield 19, 3) := by decide +kernel
theorem dX7_readNumber_46 : decode cX7_readNumber 46 = .ok (.iload_n 3, 1) := by decide +kernel
theorem dX7_readNumber_47 : decode cX7_readNumber 47 = .ok (.isub, 1) := by decide +kernel
theorem dX7_readNumber_48 : decode cX7_readNumber 48 = .ok (.iconst 3, 1) := by decide +kernel
theorem dX7_readNumber_49 : decode cX7_readNumber 49 = .ok (.if_icmp .ge 19, 3) := by decide +kernel
theorem dX7_readNumber_52 : decode cX7_readNumber 52 = .ok (.iload 4, 2) := by decide +kernel
theorem dX7_readNumber_54 : decode cX7_readNumber 54 = .ok (.bipush 10, 2) := by decide +kernel
theorem dX7_readNumber_56 : decode cX7_readNumber 56 = .ok (.imul, 1) := by decide +kernel
theorem dX7_readNumber_57 : decode cX7_readNumber 57 = .ok (.aload_n 0, 1) := by decide +kernel
theorem dX7_readNumber_58 : decode cX7_readNumber 58 = .ok (.invokevirtual 40, 3) := by decide +kernel
theorem dX7_readNumber_61 : decode cX7_readNumber 61 = .ok (.iadd, 1) := by decide +kernel
theorem dX7_readNumber_62 : decode cX7_readNumber 62 = .ok (.bipush 48, 2) := by decide +kernel
theorem dX7_readNumber_64 : decode cX7_readNumber 64 = .ok (.isub, 1) := by decide +kernel
theorem dX7_readNumber_65 : decode cX7_readNumber 65 = .ok (.goto 5, 3) := by decide +kernel
theorem dX7_readNumber_68 : decode cX7_readNumber 68 = .ok (.iload 4, 2) := by decide +kernel
theorem dX7_readNumber_70 : decode cX7_readNumber 70 = .ok (.istore 4, 2) := by decide +kernel
theorem dX7_readNumber_72 : decode cX7_readNumber 72 = .ok (.aload_n 0, 1) := by decide +kernel
theorem dX7_readNumber_73 : decode cX7_readNumber 73 = .ok (.dup, 1) := by decide +kernel
theorem dX7_readNumber_74 : decode cX7_readNumber 74 = .ok (.getfield 19, 3) := by decide +kernel
theorem dX7_readNumber_77 : decode cX7_readNumber 77 = .ok (.iconst 1, 1) := by decide +kernel
theorem dX7_readNumber_78 : decode cX7_readNumber 78 = .ok (.iadd, 1) := by decide +kernel
theorem dX7_readNumber_79 : decode cX7_readNumber 79 = .ok (.putfield 19, 3) := by decide +kernel
theorem dX7_readNumber_82 : decode cX7_readNumber 82 = .ok (.goto (-61), 3) := by decide +kernel
theorem dX7_readNumber_85 : decode cX7_readNumber 85 = .ok (.aload_n 0, 1) := by decide +kernel
theorem dX7_readNumber_86 : decode cX7_readNumber 86 = .ok (.getfield 19, 3) := by decide +kernel
theorem dX7_readNumber_89 : decode cX7_readNumber 89 = .ok (.iload_n 3, 1) := by decide +kernel
theorem dX7_readNumber_90 : decode cX7_readNumber 90 = .ok (.if_icmp .ne 12, 3) := by decide +kernel
theorem dX7_readNumber_93 : decode cX7_readNumber 93 = .ok (.aload_n 0, 1) := by decide +kernel
theorem dX7_readNumber_94 : decode cX7_readNumber 94 = .ok (.iconst 1, 1) := by decide +kernel
theorem dX7_readNumber_95 : decode cX7_readNumber 95 = .ok (.iload_n 3, 1) := by decide +kernel
theorem dX7_readNumber_96 : decode cX7_readNumber 96 = .ok (.invokevirtual 48, 3) := by decide +kernel
theorem dX7_readNumber_99 : decode cX7_readNumber 99 = .ok (.goto 31, 3) := by decide +kernel
theorem dX7_readNumber_102 : decode cX7_readNumber 102 = .ok (.aload_n 0, 1) := by decide +kernel
theorem dX7_readNumber_103 : decode cX7_readNumber 103 = .ok (.getfield 19, 3) := by decide +kernel
theorem dX7_readNumber_106 : decode cX7_readNumber 106 = .ok (.iload_n 3, 1) := by decide +kernel
theorem dX7_readNumber_107 : decode cX7_readNumber 107 = .ok (.isub, 1) := by decide +kernel
theorem dX7_readNumber_108 : decode cX7_readNumber 108 = .ok (.iconst 3, 1) := by decide +kernel
theorem dX7_readNumber_109 : decode cX7_readNumber 109 = .ok (.if_icmp .gt 15, 3) := by decide +kernel
theorem dX7_readNumber_112 : decode cX7_readNumber 112 = .ok (.iload 4, 2) := by decide +kernel
theorem dX7_readNumber_114 : decode cX7_readNumber 114 = .ok (.iload_n 1, 1) := by decide +kernel
theorem dX7_readNumber_115 : decode cX7_readNumber 115 = .ok (.if_icmp .lt 9, 3) := by decide +kernel
theorem dX7_readNumber_118 : decode cX7_readNumber 118 = .ok (.iload 4, 2) := by decide +kernel
theorem dX7_readNumber_120 : decode cX7_readNumber 120 = .ok (.iload_n 2, 1) := by decide +kernel
theorem dX7_readNumber_121 : decode cX7_readNumber 121 = .ok (.if_icmp .le 9, 3) := by decide +kernel
theorem dX7_readNumber_124 : decode cX7_readNumber 124 = .ok (.aload_n 0, 1) := by decide +kernel
theorem dX7_readNumber_125 : decode cX7_readNumber 125 = .ok (.iconst 2, 1) := by decide +kernel
theorem dX7_readNumber_126 : decode cX7_readNumber 126 = .ok (.iload_n 3, 1) := by decide +kernel
theorem dX7_readNumber_127 : decode cX7_readNumber 127 = .ok (.invokevirtual 48, 3) := by decide +kernel
theorem dX7_readNumber_130 : decode cX7_readNumber 130 = .ok (.aload_n 0, 1) := by decide +kernel
theorem dX7_readNumber_131 : decode cX7_readNumber 131 = .ok (.getfield 22, 3) := by decide +kernel
theorem dX7_readNumber_134 : decode cX7_readNumber 134 = .ok (.ifCond .eq 7, 3) := by decide +kernel
theorem dX7_readNumber_137 : decode cX7_readNumber 137 = .ok (.iload_n 1, 1) := by decide +kernel
theorem dX7_readNumber_138 : decode cX7_readNumber 138 = .ok (.goto 5, 3) := by decide +kernel
theorem dX7_readNumber_141 : decode cX7_readNumber 141 = .ok (.iload 4, 2) := by decide +kernel
theorem dX7_readNumber_143 : decode cX7_readNumber 143 = .ok (.ireturn, 1) := by decide +kernel
theorem dX7_readEnd_0 : decode cX7_readEnd 0 = .ok (.aload_n 0, 1) := by decide +kernel
theorem dX7_readEnd_1 : decode cX7_readEnd 1 = .ok (.getfield 22, 3) := by decide +kernel
theorem dX7_readEnd_4 : decode cX7_readEnd 4 = .ok (.ifCond .eq 4, 3) := by decide +kernel
theorem dX7_readEnd_7 : decode cX7_readEnd 7 = .ok (.return_, 1) := by decide +kernel
theorem dX7_readEnd_8 : decode cX7_readEnd 8 = .ok (.aload_n 0, 1) := by decide +kernel
theorem dX7_readEnd_9 : decode cX7_readEnd 9 = .ok (.invokevirtual 33, 3) := by decide +kernel
theorem dX7_readEnd_12 : decode cX7_readEnd 12 = .ok (.aload_n 0, 1) := by decide +kernel
theorem dX7_readEnd_13 : decode cX7_readEnd 13 = .ok (.invokevirtual 40, 3) := by decide +kernel
theorem dX7_readEnd_16 : decode cX7_readEnd 16 = .ok (.bipush 59, 2) := by decide +kernel
theorem dX7_readEnd_18 : decode cX7_readEnd 18 = .ok (.if_icmp .ne 16, 3) := by decide +kernel
theorem dX7_readEnd_21 : decode cX7_readEnd 21 = .ok (.aload_n 0, 1) := by decide +kernel
theorem dX7_readEnd_22 : decode cX7_readEnd 22 = .ok (.dup, 1) := by decide +kernel
theorem dX7_readEnd_23 : decode cX7_readEnd 23 = .ok (.getfield 19, 3) := by decide +kernel
theorem dX7_readEnd_26 : decode cX7_readEnd 26 = .ok (.iconst 1, 1) := by decide +kernel
theorem dX7_readEnd_27 : decode cX7_readEnd 27 = .ok (.iadd, 1) := by decide +kernel
theorem dX7_readEnd_28 : decode cX7_readEnd 28 = .ok (.putfield 19, 3) := by decide +kernel
theorem dX7_readEnd_31 : decode cX7_readEnd 31 = .ok (.goto 12, 3) := by decide +kernel
theorem dX7_readEnd_34 : decode cX7_readEnd 34 = .ok (.aload_n 0, 1) := by decide +kernel
theorem dX7_readEnd_35 : decode cX7_readEnd 35 = .ok (.iconst 1, 1) := by decide +kernel
theorem dX7_readEnd_36 : decode cX7_readEnd 36 = .ok (.aload_n 0, 1) := by decide +kernel
theorem dX7_readEnd_37 : decode cX7_readEnd 37 = .ok (.getfield 19, 3) := by decide +kernel
theorem dX7_readEnd_40 : decode cX7_readEnd 40 = .ok (.invokevirtual 48, 3) := by decide +kernel
theorem dX7_readEnd_43 : decode cX7_readEnd 43 = .ok (.return_, 1) := by decide +kernel
theorem dX7_skipBlanks_0 : decode cX7_skipBlanks 0 = .ok (.aload_n 0, 1) := by decide +kernel
theorem dX7_skipBlanks_1 : decode cX7_skipBlanks 1 = .ok (.getfield 19, 3) := by decide +kernel
theorem dX7_skipBlanks_4 : decode cX7_skipBlanks 4 = .ok (.aload_n 0, 1) := by decide +kernel
theorem dX7_skipBlanks_5 : decode cX7_skipBlanks 5 = .ok (.getfield 15, 3) := by decide +kernel
theorem dX7_skipBlanks_8 : decode cX7_skipBlanks 8 = .ok (.if_icmp .ge 25, 3) := by decide +kernel
theorem dX7_skipBlanks_11 : decode cX7_skipBlanks 11 = .ok (.aload_n 0, 1) := by decide +kernel
theorem dX7_skipBlanks_12 : decode cX7_skipBlanks 12 = .ok (.invokevirtual 40, 3) := by decide +kernel
theorem dX7_skipBlanks_15 : decode cX7_skipBlanks 15 = .ok (.bipush 32, 2) := by decide +kernel
theorem dX7_skipBlanks_17 : decode cX7_skipBlanks 17 = .ok (.if_icmp .ne 16, 3) := by decide +kernel
theorem dX7_skipBlanks_20 : decode cX7_skipBlanks 20 = .ok (.aload_n 0, 1) := by decide +kernel
theorem dX7_skipBlanks_21 : decode cX7_skipBlanks 21 = .ok (.dup, 1) := by decide +kernel
theorem dX7_skipBlanks_22 : decode cX7_skipBlanks 22 = .ok (.getfield 19, 3) := by decide +kernel
theorem dX7_skipBlanks_25 : decode cX7_skipBlanks 25 = .ok (.iconst 1, 1) := by decide +kernel
theorem dX7_skipBlanks_26 : decode cX7_skipBlanks 26 = .ok (.iadd, 1) := by decide +kernel
theorem dX7_skipBlanks_27 : decode cX7_skipBlanks 27 = .ok (.putfield 19, 3) := by decide +kernel
theorem dX7_skipBlanks_30 : decode cX7_skipBlanks 30 = .ok (.goto (-30), 3) := by decide +kernel
theorem dX7_skipBlanks_33 : decode cX7_skipBlanks 33 = .ok (.return_, 1) := by decide +kernel
theorem dX7_letterHere_0 : decode cX7_letterHere 0 = .ok (.aload_n 0, 1) := by decide +kernel
theorem dX7_letterHere_1 : decode cX7_letterHere 1 = .ok (.getfield 19, 3) := by decide +kernel
theorem dX7_letterHere_4 : decode cX7_letterHere 4 = .ok (.ifCond .lt 36, 3) := by decide +kernel
theorem dX7_letterHere_7 : decode cX7_letterHere 7 = .ok (.aload_n 0, 1) := by decide +kernel
theorem dX7_letterHere_8 : decode cX7_letterHere 8 = .ok (.getfield 19, 3) := by decide +kernel
theorem dX7_letterHere_11 : decode cX7_letterHere 11 = .ok (.aload_n 0, 1) := by decide +kernel
theorem dX7_letterHere_12 : decode cX7_letterHere 12 = .ok (.getfield 15, 3) := by decide +kernel
theorem dX7_letterHere_15 : decode cX7_letterHere 15 = .ok (.if_icmp .ge 25, 3) := by decide +kernel
theorem dX7_letterHere_18 : decode cX7_letterHere 18 = .ok (.aload_n 0, 1) := by decide +kernel
theorem dX7_letterHere_19 : decode cX7_letterHere 19 = .ok (.getfield 19, 3) := by decide +kernel
theorem dX7_letterHere_22 : decode cX7_letterHere 22 = .ok (.sipush 240, 3) := by decide +kernel
theorem dX7_letterHere_25 : decode cX7_letterHere 25 = .ok (.if_icmp .ge 15, 3) := by decide +kernel
theorem dX7_letterHere_28 : decode cX7_letterHere 28 = .ok (.aload_n 0, 1) := by decide +kernel
theorem dX7_letterHere_29 : decode cX7_letterHere 29 = .ok (.getfield 9, 3) := by decide +kernel
theorem dX7_letterHere_32 : decode cX7_letterHere 32 = .ok (.aload_n 0, 1) := by decide +kernel
theorem dX7_letterHere_33 : decode cX7_letterHere 33 = .ok (.getfield 19, 3) := by decide +kernel
theorem dX7_letterHere_36 : decode cX7_letterHere 36 = .ok (.iaload, 1) := by decide +kernel
theorem dX7_letterHere_37 : decode cX7_letterHere 37 = .ok (.goto 4, 3) := by decide +kernel
theorem dX7_letterHere_40 : decode cX7_letterHere 40 = .ok (.iconst (-1), 1) := by decide +kernel
theorem dX7_letterHere_41 : decode cX7_letterHere 41 = .ok (.ireturn, 1) := by decide +kernel
theorem dX7_isFigure_0 : decode cX7_isFigure 0 = .ok (.iload_n 0, 1) := by decide +kernel
theorem dX7_isFigure_1 : decode cX7_isFigure 1 = .ok (.bipush 48, 2) := by decide +kernel
theorem dX7_isFigure_3 : decode cX7_isFigure 3 = .ok (.if_icmp .lt 13, 3) := by decide +kernel
theorem dX7_isFigure_6 : decode cX7_isFigure 6 = .ok (.iload_n 0, 1) := by decide +kernel
theorem dX7_isFigure_7 : decode cX7_isFigure 7 = .ok (.bipush 57, 2) := by decide +kernel
theorem dX7_isFigure_9 : decode cX7_isFigure 9 = .ok (.if_icmp .gt 7, 3) := by decide +kernel
theorem dX7_isFigure_12 : decode cX7_isFigure 12 = .ok (.iconst 1, 1) := by decide +kernel
theorem dX7_isFigure_13 : decode cX7_isFigure 13 = .ok (.goto 4, 3) := by decide +kernel
theorem dX7_isFigure_16 : decode cX7_isFigure 16 = .ok (.iconst 0, 1) := by decide +kernel
theorem dX7_isFigure_17 : decode cX7_isFigure 17 = .ok (.ireturn, 1) := by decide +kernel
theorem dX7_fail_0 : decode cX7_fail 0 = .ok (.aload_n 0, 1) := by decide +kernel
theorem dX7_fail_1 : decode cX7_fail 1 = .ok (.iload_n 1, 1) := by decide +kernel
theorem dX7_fail_2 : decode cX7_fail 2 = .ok (.putfield 22, 3) := by decide +kernel
theorem dX7_fail_5 : decode cX7_fail 5 = .ok (.aload_n 0, 1) := by decide +kernel
theorem dX7_fail_6 : decode cX7_fail 6 = .ok (.iload_n 2, 1) := by decide +kernel
theorem dX7_fail_7 : decode cX7_fail 7 = .ok (.putfield 25, 3) := by decide +kernel
theorem dX7_fail_10 : decode cX7_fail 10 = .ok (.return_, 1) := by decide +kernel
theorem dX8_init_0 : decode cX8_init 0 = .ok (.aload_n 0, 1) := by decide +kernel
theorem dX8_init_1 : decode cX8_init 1 = .ok (.invokespecial 3, 3) := by decide +kernel
theorem dX8_init_4 : decode cX8_init 4 = .ok (.aload_n 0, 1) := by decide +kernel
theorem dX8_init_5 : decode cX8_init 5 = .ok (.bipush 7, 2) := by decide +kernel
theorem dX8_init_7 : decode cX8_init 7 = .ok (.newarray .int, 2) := by decide +kernel
theorem dX8_init_9 : decode cX8_init 9 = .ok (.putfield 9, 3) := by decide +kernel
theorem dX8_init_12 : decode cX8_init 12 = .ok (.aload_n 0, 1) := by decide +kernel
theorem dX8_init_13 : decode cX8_init 13 = .ok (.bipush 7, 2) := by decide +kernel
theorem dX8_init_15 : decode cX8_init 15 = .ok (.newarray .int, 2) := by decide +kernel
theorem dX8_init_17 : decode cX8_init 17 = .ok (.putfield 15, 3) := by decide +kernel
theorem dX8_init_20 : decode cX8_init 20 = .ok (.aload_n 0, 1) := by decide +kernel
theorem dX8_init_21 : decode cX8_init 21 = .ok (.bipush 7, 2) := by decide +kernel
theorem dX8_init_23 : decode cX8_init 23 = .ok (.newarray .int, 2) := by decide +kernel
theorem dX8_init_25 : decode cX8_init 25 = .ok (.putfield 18, 3) := by decide +kernel
theorem dX8_init_28 : decode cX8_init 28 = .ok (.aload_n 0, 1) := by decide +kernel
theorem dX8_init_29 : decode cX8_init 29 = .ok (.bipush 7, 2) := by decide +kernel
theorem dX8_init_31 : decode cX8_init 31 = .ok (.newarray .int, 2) := by decide +kernel
theorem dX8_init_33 : decode cX8_init 33 = .ok (.putfield 21, 3) := by decide +kernel
theorem dX8_init_36 : decode cX8_init 36 = .ok (.aload_n 0, 1) := by decide +kernel
theorem dX8_init_37 : decode cX8_init 37 = .ok (.iconst 4, 1) := by decide +kernel
theorem dX8_init_38 : decode cX8_init 38 = .ok (.newarray .int, 2) := by decide +kernel
theorem dX8_init_40 : decode cX8_init 40 = .ok (.putfield 24, 3) := by decide +kernel
theorem dX8_init_43 : decode cX8_init 43 = .ok (.return_, 1) := by decide +kernel
theorem dX8_clear_0 : decode cX8_clear 0 = .ok (.aload_n 0, 1) := by decide +kernel
theorem dX8_clear_1 : decode cX8_clear 1 = .ok (.iconst 0, 1) := by decide +kernel
theorem dX8_clear_2 : decode cX8_clear 2 = .ok (.putfield 27, 3) := by decide +kernel
theorem dX8_clear_5 : decode cX8_clear 5 = .ok (.aload_n 0, 1) := by decide +kernel
theorem dX8_clear_6 : decode cX8_clear 6 = .ok (.iconst 0, 1) := by decide +kernel
theorem dX8_clear_7 : decode cX8_clear 7 = .ok (.putfield 31, 3) := by decide +kernel
theorem dX8_clear_10 : decode cX8_clear 10 = .ok (.aload_n 0, 1) := by decide +kernel
theorem dX8_clear_11 : decode cX8_clear 11 = .ok (.iconst 0, 1) := by decide +kernel
theorem dX8_clear_12 : decode cX8_clear 12 = .ok (.putfield 34, 3) := by decide +kernel
theorem dX8_clear_15 : decode cX8_clear 15 = .ok (.aload_n 0, 1) := by decide +kernel
theorem dX8_clear_16 : decode cX8_clear 16 = .ok (.iconst 0, 1) := by decide +kernel
theorem dX8_clear_17 : decode cX8_clear 17 = .ok (.putfield 37, 3) := by decide +kernel
theorem dX8_clear_20 : decode cX8_clear 20 = .ok (.aload_n 0, 1) := by decide +kernel
theorem dX8_clear_21 : decode cX8_clear 21 = .ok (.iconst 0, 1) := by decide +kernel
theorem dX8_clear_22 : decode cX8_clear 22 = .ok (.putfield 40, 3) := by decide +kernel
theorem dX8_clear_25 : decode cX8_clear 25 = .ok (.return_, 1) := by decide +kernel
theorem dX8_takeFrom_0 : decode cX8_takeFrom 0 = .ok (.aload_n 0, 1) := by decide +kernel
theorem dX8_takeFrom_1 : decode cX8_takeFrom 1 = .ok (.aload_n 1, 1) := by decide +kernel
theorem dX8_takeFrom_2 : decode cX8_takeFrom 2 = .ok (.getfield 27, 3) := by decide +kernel
theorem dX8_takeFrom_5 : decode cX8_takeFrom 5 = .ok (.putfield 27, 3) := by decide +kernel
theorem dX8_takeFrom_8 : decode cX8_takeFrom 8 = .ok (.aload_n 0, 1) := by decide +kernel
theorem dX8_takeFrom_9 : decode cX8_takeFrom 9 = .ok (.aload_n 1, 1) := by decide +kernel
theorem dX8_takeFrom_10 : decode cX8_takeFrom 10 = .ok (.getfield 31, 3) := by decide +kernel
theorem dX8_takeFrom_13 : decode cX8_takeFrom 13 = .ok (.putfield 31, 3) := by decide +kernel
theorem dX8_takeFrom_16 : decode cX8_takeFrom 16 = .ok (.aload_n 0, 1) := by decide +kernel
theorem dX8_takeFrom_17 : decode cX8_takeFrom 17 = .ok (.aload_n 1, 1) := by decide +kernel
theorem dX8_takeFrom_18 : decode cX8_takeFrom 18 = .ok (.getfield 34, 3) := by decide +kernel
theorem dX8_takeFrom_21 : decode cX8_takeFrom 21 = .ok (.putfield 34, 3) := by decide +kernel
theorem dX8_takeFrom_24 : decode cX8_takeFrom 24 = .ok (.aload_n 0, 1) := by decide +kernel
theorem dX8_takeFrom_25 : decode cX8_takeFrom 25 = .ok (.aload_n 1, 1) := by decide +kernel
theorem dX8_takeFrom_26 : decode cX8_takeFrom 26 = .ok (.getfield 37, 3) := by decide +kernel
theorem dX8_takeFrom_29 : decode cX8_takeFrom 29 = .ok (.putfield 37, 3) := by decide +kernel
theorem dX8_takeFrom_32 : decode cX8_takeFrom 32 = .ok (.aload_n 0, 1) := by decide +kernel
theorem dX8_takeFrom_33 : decode cX8_takeFrom 33 = .ok (.aload_n 1, 1) := by decide +kernel
theorem dX8_takeFrom_34 : decode cX8_takeFrom 34 = .ok (.getfield 40, 3) := by decide +kernel
theorem dX8_takeFrom_37 : decode cX8_takeFrom 37 = .ok (.putfield 40, 3) := by decide +kernel
theorem dX8_takeFrom_40 : decode cX8_takeFrom 40 = .ok (.aload_n 1, 1) := by decide +kernel
theorem dX8_takeFrom_41 : decode cX8_takeFrom 41 = .ok (.getfield 9, 3) := by decide +kernel
theorem dX8_takeFrom_44 : decode cX8_takeFrom 44 = .ok (.iconst 0, 1) := by decide +kernel
theorem dX8_takeFrom_45 : decode cX8_takeFrom 45 = .ok (.aload_n 0, 1) := by decide +kernel
theorem dX8_takeFrom_46 : decode cX8_takeFrom 46 = .ok (.getfield 9, 3) := by decide +kernel
theorem dX8_takeFrom_49 : decode cX8_takeFrom 49 = .ok (.iconst 0, 1) := by decide +kernel
theorem dX8_takeFrom_50 : decode cX8_takeFrom 50 = .ok (.bipush 7, 2) := by decide +kernel
theorem dX8_takeFrom_52 : decode cX8_takeFrom 52 = .ok (.invokestatic 43, 3) := by decide +kernel
theorem dX8_takeFrom_55 : decode cX8_takeFrom 55 = .ok (.aload_n 1, 1) := by decide +kernel
theorem dX8_takeFrom_56 : decode cX8_takeFrom 56 = .ok (.getfield 15, 3) := by decide +kernel
theorem dX8_takeFrom_59 : decode cX8_takeFrom 59 = .ok (.iconst 0, 1) := by decide +kernel
theorem dX8_takeFrom_60 : decode cX8_takeFrom 60 = .ok (.aload_n 0, 1) := by decide +kernel
theorem dX8_takeFrom_61 : decode cX8_takeFrom 61 = .ok (.getfield 15, 3) := by decide +kernel
theorem dX8_takeFrom_64 : decode cX8_takeFrom 64 = .ok (.iconst 0, 1) := by decide +kernel
theorem dX8_takeFrom_65 : decode cX8_takeFrom 65 = .ok (.bipush 7, 2) := by decide +kernel
theorem dX8_takeFrom_67 : decode cX8_takeFrom 67 = .ok (.invokestatic 43, 3) := by decide +kernel
theorem dX8_takeFrom_70 : decode cX8_takeFrom 70 = .ok (.aload_n 1, 1) := by decide +kernel
theorem dX8_takeFrom_71 : decode cX8_takeFrom 71 = .ok (.getfield 18, 3) := by decide +kernel
theorem dX8_takeFrom_74 : decode cX8_takeFrom 74 = .ok (.iconst 0, 1) := by decide +kernel
theorem dX8_takeFrom_75 : decode cX8_takeFrom 75 = .ok (.aload_n 0, 1) := by decide +kernel
theorem dX8_takeFrom_76 : decode cX8_takeFrom 76 = .ok (.getfield 18, 3) := by decide +kernel
theorem dX8_takeFrom_79 : decode cX8_takeFrom 79 = .ok (.iconst 0, 1) := by decide +kernel
theorem dX8_takeFrom_80 : decode cX8_takeFrom 80 = .ok (.bipush 7, 2) := by decide +kernel
theorem dX8_takeFrom_82 : decode cX8_takeFrom 82 = .ok (.invokestatic 43, 3) := by decide +kernel
theorem dX8_takeFrom_85 : decode cX8_takeFrom 85 = .ok (.aload_n 1, 1) := by decide +kernel
theorem dX8_takeFrom_86 : decode cX8_takeFrom 86 = .ok (.getfield 21, 3) := by decide +kernel
theorem dX8_takeFrom_89 : decode cX8_takeFrom 89 = .ok (.iconst 0, 1) := by decide +kernel
theorem dX8_takeFrom_90 : decode cX8_takeFrom 90 = .ok (.aload_n 0, 1) := by decide +kernel
theorem dX8_takeFrom_91 : decode cX8_takeFrom 91 = .ok (.getfield 21, 3) := by decide +kernel
theorem dX8_takeFrom_94 : decode cX8_takeFrom 94 = .ok (.iconst 0, 1) := by decide +kernel
theorem dX8_takeFrom_95 : decode cX8_takeFrom 95 = .ok (.bipush 7, 2) := by decide +kernel
theorem dX8_takeFrom_97 : decode cX8_takeFrom 97 = .ok (.invokestatic 43, 3) := by decide +kernel
theorem dX8_takeFrom_100 : decode cX8_takeFrom 100 = .ok (.aload_n 1, 1) := by decide +kernel
theorem dX8_takeFrom_101 : decode cX8_takeFrom 101 = .ok (.getfield 24, 3) := by decide +kernel
theorem dX8_takeFrom_104 : decode cX8_takeFrom 104 = .ok (.iconst 0, 1) := by decide +kernel
theorem dX8_takeFrom_105 : decode cX8_takeFrom 105 = .ok (.aload_n 0, 1) := by decide +kernel
theorem dX8_takeFrom_106 : decode cX8_takeFrom 106 = .ok (.getfield 24, 3) := by decide +kernel
theorem dX8_takeFrom_109 : decode cX8_takeFrom 109 = .ok (.iconst 0, 1) := by decide +kernel
theorem dX8_takeFrom_110 : decode cX8_takeFrom 110 = .ok (.iconst 4, 1) := by decide +kernel
theorem dX8_takeFrom_111 : decode cX8_takeFrom 111 = .ok (.invokestatic 43, 3) := by decide +kernel
theorem dX8_takeFrom_114 : decode cX8_takeFrom 114 = .ok (.return_, 1) := by decide +kernel
theorem dX8_isEmpty_0 : decode cX8_isEmpty 0 = .ok (.aload_n 0, 1) := by decide +kernel
theorem dX8_isEmpty_1 : decode cX8_isEmpty 1 = .ok (.getfield 31, 3) := by decide +kernel
theorem dX8_isEmpty_4 : decode cX8_isEmpty 4 = .ok (.ifCond .ne 7, 3) := by decide +kernel
theorem dX8_isEmpty_7 : decode cX8_isEmpty 7 = .ok (.iconst 1, 1) := by decide +kernel
theorem dX8_isEmpty_8 : decode cX8_isEmpty 8 = .ok (.goto 4, 3) := by decide +kernel
theorem dX8_isEmpty_11 : decode cX8_isEmpty 11 = .ok (.iconst 0, 1) := by decide +kernel
theorem dX8_isEmpty_12 : decode cX8_isEmpty 12 = .ok (.ireturn, 1) := by decide +kernel
theorem dX8_hasSinger_0 : decode cX8_hasSinger 0 = .ok (.iload_n 1, 1) := by decide +kernel
theorem dX8_hasSinger_1 : decode cX8_hasSinger 1 = .ok (.ifCond .lt 15, 3) := by decide +kernel
theorem dX8_hasSinger_4 : decode cX8_hasSinger 4 = .ok (.iload_n 1, 1) := by decide +kernel
theorem dX8_hasSinger_5 : decode cX8_hasSinger 5 = .ok (.aload_n 0, 1) := by decide +kernel
theorem dX8_hasSinger_6 : decode cX8_hasSinger 6 = .ok (.getfield 37, 3) := by decide +kernel
theorem dX8_hasSinger_9 : decode cX8_hasSinger 9 = .ok (.if_icmp .ge 7, 3) := by decide +kernel
theorem dX8_hasSinger_12 : decode cX8_hasSinger 12 = .ok (.iconst 1, 1) := by decide +kernel
theorem dX8_hasSinger_13 : decode cX8_hasSinger 13 = .ok (.goto 4, 3) := by decide +kernel
theorem dX8_hasSinger_16 : decode cX8_hasSinger 16 = .ok (.iconst 0, 1) := by decide +kernel
theorem dX8_hasSinger_17 : decode cX8_hasSinger 17 = .ok (.ireturn, 1) := by decide +kernel
theorem dX8_hasPlace_0 : decode cX8_hasPlace 0 = .ok (.iload_n 1, 1) := by decide +kernel
theorem dX8_hasPlace_1 : decode cX8_hasPlace 1 = .ok (.ifCond .lt 15, 3) := by decide +kernel
theorem dX8_hasPlace_4 : decode cX8_hasPlace 4 = .ok (.iload_n 1, 1) := by decide +kernel
theorem dX8_hasPlace_5 : decode cX8_hasPlace 5 = .ok (.aload_n 0, 1) := by decide +kernel
theorem dX8_hasPlace_6 : decode cX8_hasPlace 6 = .ok (.getfield 31, 3) := by decide +kernel
theorem dX8_hasPlace_9 : decode cX8_hasPlace 9 = .ok (.if_icmp .ge 7, 3) := by decide +kernel
theorem dX8_hasPlace_12 : decode cX8_hasPlace 12 = .ok (.iconst 1, 1) := by decide +kernel
theorem dX8_hasPlace_13 : decode cX8_hasPlace 13 = .ok (.goto 4, 3) := by decide +kernel
theorem dX8_hasPlace_16 : decode cX8_hasPlace 16 = .ok (.iconst 0, 1) := by decide +kernel
theorem dX8_hasPlace_17 : decode cX8_hasPlace 17 = .ok (.ireturn, 1) := by decide +kernel
theorem dX8_hasInspector_0 : decode cX8_hasInspector 0 = .ok (.iload_n 1, 1) := by decide +kernel
theorem dX8_hasInspector_1 : decode cX8_hasInspector 1 = .ok (.ifCond .lt 15, 3) := by decide +kernel
theorem dX8_hasInspector_4 : decode cX8_hasInspector 4 = .ok (.iload_n 1, 1) := by decide +kernel
theorem dX8_hasInspector_5 : decode cX8_hasInspector 5 = .ok (.aload_n 0, 1) := by decide +kernel
theorem dX8_hasInspector_6 : decode cX8_hasInspector 6 = .ok (.getfield 40, 3) := by decide +kernel
theorem dX8_hasInspector_9 : decode cX8_hasInspector 9 = .ok (.if_icmp .ge 7, 3) := by decide +kernel
theorem dX8_hasInspector_12 : decode cX8_hasInspector 12 = .ok (.iconst 1, 1) := by decide +kernel
theorem dX8_hasInspector_13 : decode cX8_hasInspector 13 = .ok (.goto 4, 3) := by decide +kernel
theorem dX8_hasInspector_16 : decode cX8_hasInspector 16 = .ok (.iconst 0, 1) := by decide +kernel
theorem dX8_hasInspector_17 : decode cX8_hasInspector 17 = .ok (.ireturn, 1) := by decide +kernel
theorem dX8_hasWord_0 : decode cX8_hasWord 0 = .ok (.iload_n 1, 1) := by decide +kernel
theorem dX8_hasWord_1 : decode cX8_hasWord 1 = .ok (.ifCond .lt 15, 3) := by decide +kernel
theorem dX8_hasWord_4 : decode cX8_hasWord 4 = .ok (.iload_n 1, 1) := by decide +kernel
theorem dX8_hasWord_5 : decode cX8_hasWord 5 = .ok (.aload_n 0, 1) := by decide +kernel
theorem dX8_hasWord_6 : decode cX8_hasWord 6 = .ok (.getfield 34, 3) := by decide +kernel
theorem dX8_hasWord_9 : decode cX8_hasWord 9 = .ok (.if_icmp .ge 7, 3) := by decide +kernel
theorem dX8_hasWord_12 : decode cX8_hasWord 12 = .ok (.iconst 1, 1) := by decide +kernel
theorem dX8_hasWord_13 : decode cX8_hasWord 13 = .ok (.goto 4, 3) := by decide +kernel
theorem dX8_hasWord_16 : decode cX8_hasWord 16 = .ok (.iconst 0, 1) := by decide +kernel
theorem dX8_hasWord_17 : decode cX8_hasWord 17 = .ok (.ireturn, 1) := by decide +kernel
theorem dX8_hasAll_0 : decode cX8_hasAll 0 = .ok (.iload_n 1, 1) := by decide +kernel
theorem dX8_hasAll_1 : decode cX8_hasAll 1 = .ok (.aload_n 0, 1) := by decide +kernel
theorem dX8_hasAll_2 : decode cX8_hasAll 2 = .ok (.invokevirtual 49, 3) := by decide +kernel
theorem dX8_hasAll_5 : decode cX8_hasAll 5 = .ok (.iconst (-1), 1) := by decide +kernel
theorem dX8_hasAll_6 : decode cX8_hasAll 6 = .ok (.ixor, 1) := by decide +kernel
theorem dX8_hasAll_7 : decode cX8_hasAll 7 = .ok (.iand, 1) := by decide +kernel
theorem dX8_hasAll_8 : decode cX8_hasAll 8 = .ok (.ifCond .ne 7, 3) := by decide +kernel
theorem dX8_hasAll_11 : decode cX8_hasAll 11 = .ok (.iconst 1, 1) := by decide +kernel
theorem dX8_hasAll_12 : decode cX8_hasAll 12 = .ok (.goto 4, 3) := by decide +kernel
theorem dX8_hasAll_15 : decode cX8_hasAll 15 = .ok (.iconst 0, 1) := by decide +kernel
theorem dX8_hasAll_16 : decode cX8_hasAll 16 = .ok (.ireturn, 1) := by decide +kernel
theorem dX8_everyone_0 : decode cX8_everyone 0 = .ok (.iconst 1, 1) := by decide +kernel
theorem dX8_everyone_1 : decode cX8_everyone 1 = .ok (.aload_n 0, 1) := by decide +kernel
theorem dX8_everyone_2 : decode cX8_everyone 2 = .ok (.getfield 37, 3) := by decide +kernel
theorem dX8_everyone_5 : decode cX8_everyone 5 = .ok (.ishl, 1) := by decide +kernel
theorem dX8_everyone_6 : decode cX8_everyone 6 = .ok (.iconst 1, 1) := by decide +kernel
theorem dX8_everyone_7 : decode cX8_everyone 7 = .ok (.isub, 1) := by decide +kernel
theorem dX8_everyone_8 : decode cX8_everyone 8 = .ok (.ireturn, 1) := by decide +kernel
theorem dX8_everyWord_0 : decode cX8_everyWord 0 = .ok (.iconst 1, 1) := by decide +kernel
theorem dX8_everyWord_1 : decode cX8_everyWord 1 = .ok (.aload_n 0, 1) := by decide +kernel
theorem dX8_everyWord_2 : decode cX8_everyWord 2 = .ok (.getfield 34, 3) := by decide +kernel
theorem dX8_everyWord_5 : decode cX8_everyWord 5 = .ok (.ishl, 1) := by decide +kernel
theorem dX8_everyWord_6 : decode cX8_everyWord 6 = .ok (.iconst 1, 1) := by decide +kernel
theorem dX8_everyWord_7 : decode cX8_everyWord 7 = .ok (.isub, 1) := by decide +kernel
theorem dX8_everyWord_8 : decode cX8_everyWord 8 = .ok (.ireturn, 1) := by decide +kernel
theorem dX8_knownBy_0 : decode cX8_knownBy 0 = .ok (.iconst 0, 1) := by decide +kernel
theorem dX8_knownBy_1 : decode cX8_knownBy 1 = .ok (.istore_n 2, 1) := by decide +kernel
theorem dX8_knownBy_2 : decode cX8_knownBy 2 = .ok (.iconst 0, 1) := by decide +kernel
theorem dX8_knownBy_3 : decode cX8_knownBy 3 = .ok (.istore_n 3, 1) := by decide +kernel
theorem dX8_knownBy_4 : decode cX8_knownBy 4 = .ok (.iload_n 3, 1) := by decide +kernel
theorem dX8_knownBy_5 : decode cX8_knownBy 5 = .ok (.aload_n 0, 1) := by decide +kernel
theorem dX8_knownBy_6 : decode cX8_knownBy 6 = .ok (.getfield 37, 3) := by decide +kernel
theorem dX8_knownBy_9 : decode cX8_knownBy 9 = .ok (.if_icmp .ge 26, 3) := by decide +kernel
theorem dX8_knownBy_12 : decode cX8_knownBy 12 = .ok (.iload_n 3, 1) := by decide +kernel
theorem dX8_knownBy_13 : decode cX8_knownBy 13 = .ok (.iload_n 1, 1) := by decide +kernel
theorem dX8_knownBy_14 : decode cX8_knownBy 14 = .ok (.invokestatic 53, 3) := by decide +kernel
theorem dX8_knownBy_17 : decode cX8_knownBy 17 = .ok (.ifCond .eq 12, 3) := by decide +kernel
theorem dX8_knownBy_20 : decode cX8_knownBy 20 = .ok (.iload_n 2, 1) := by decide +kernel
theorem dX8_knownBy_21 : decode cX8_knownBy 21 = .ok (.aload_n 0, 1) := by decide +kernel
theorem dX8_knownBy_22 : decode cX8_knownBy 22 = .ok (.getfield 21, 3) := by decide +kernel
theorem dX8_knownBy_25 : decode cX8_knownBy 25 = .ok (.iload_n 3, 1) := by decide +kernel
theorem dX8_knownBy_26 : decode cX8_knownBy 26 = .ok (.iaload, 1) := by decide +kernel
theorem dX8_knownBy_27 : decode cX8_knownBy 27 = .ok (.ior, 1) := by decide +kernel
theorem dX8_knownBy_28 : decode cX8_knownBy 28 = .ok (.istore_n 2, 1) := by decide +kernel
theorem dX8_knownBy_29 : decode cX8_knownBy 29 = .ok (.iinc 3 1, 3) := by decide +kernel
theorem dX8_knownBy_32 : decode cX8_knownBy 32 = .ok (.goto (-28), 3) := by decide +kernel
theorem dX8_knownBy_35 : decode cX8_knownBy 35 = .ok (.iload_n 2, 1) := by decide +kernel
theorem dX8_knownBy_36 : decode cX8_knownBy 36 = .ok (.ireturn, 1) := by decide +kernel
theorem dX8_addSinger_0 : decode cX8_addSinger 0 = .ok (.aload_n 0, 1) := by decide +kernel
theorem dX8_addSinger_1 : decode cX8_addSinger 1 = .ok (.getfield 37, 3) := by decide +kernel
theorem dX8_addSinger_4 : decode cX8_addSinger 4 = .ok (.bipush 7, 2) := by decide +kernel
theorem dX8_addSinger_6 : decode cX8_addSinger 6 = .ok (.if_icmp .ge 54, 3) := by decide +kernel
theorem dX8_addSinger_9 : decode cX8_addSinger 9 = .ok (.aload_n 0, 1) := by decide +kernel
theorem dX8_addSinger_10 : decode cX8_addSinger 10 = .ok (.getfield 9, 3) := by decide +kernel
theorem dX8_addSinger_13 : decode cX8_addSinger 13 = .ok (.aload_n 0, 1) := by decide +kernel
theorem dX8_addSinger_14 : decode cX8_addSinger 14 = .ok (.getfield 37, 3) := by decide +kernel
theorem dX8_addSinger_17 : decode cX8_addSinger 17 = .ok (.iload_n 1, 1) := by decide +kernel
theorem dX8_addSinger_18 : decode cX8_addSinger 18 = .ok (.iastore, 1) := by decide +kernel
theorem dX8_addSinger_19 : decode cX8_addSinger 19 = .ok (.aload_n 0, 1) := by decide +kernel
theorem dX8_addSinger_20 : decode cX8_addSinger 20 = .ok (.getfield 15, 3) := by decide +kernel
theorem dX8_addSinger_23 : decode cX8_addSinger 23 = .ok (.aload_n 0, 1) := by decide +kernel
theorem dX8_addSinger_24 : decode cX8_addSinger 24 = .ok (.getfield 37, 3) := by decide +kernel
theorem dX8_addSinger_27 : decode cX8_addSinger 27 = .ok (.iload_n 2, 1) := by decide +kernel
theorem dX8_addSinger_28 : decode cX8_addSinger 28 = .ok (.iastore, 1) := by decide +kernel
theorem dX8_addSinger_29 : decode cX8_addSinger 29 = .ok (.aload_n 0, 1) := by decide +kernel
theorem dX8_addSinger_30 : decode cX8_addSinger 30 = .ok (.getfield 18, 3) := by decide +kernel
theorem dX8_addSinger_33 : decode cX8_addSinger 33 = .ok (.aload_n 0, 1) := by decide +kernel
theorem dX8_addSinger_34 : decode cX8_addSinger 34 = .ok (.getfield 37, 3) := by decide +kernel
theorem dX8_addSinger_37 : decode cX8_addSinger 37 = .ok (.iload_n 3, 1) := by decide +kernel
theorem dX8_addSinger_38 : decode cX8_addSinger 38 = .ok (.iastore, 1) := by decide +kernel
theorem dX8_addSinger_39 : decode cX8_addSinger 39 = .ok (.aload_n 0, 1) := by decide +kernel
theorem dX8_addSinger_40 : decode cX8_addSinger 40 = .ok (.getfield 21, 3) := by decide +kernel
theorem dX8_addSinger_43 : decode cX8_addSinger 43 = .ok (.aload_n 0, 1) := by decide +kernel
theorem dX8_addSinger_44 : decode cX8_addSinger 44 = .ok (.getfield 37, 3) := by decide +kernel
theorem dX8_addSinger_47 : decode cX8_addSinger 47 = .ok (.iload 4, 2) := by decide +kernel
theorem dX8_addSinger_49 : decode cX8_addSinger 49 = .ok (.iastore, 1) := by decide +kernel
theorem dX8_addSinger_50 : decode cX8_addSinger 50 = .ok (.aload_n 0, 1) := by decide +kernel
theorem dX8_addSinger_51 : decode cX8_addSinger 51 = .ok (.dup, 1) := by decide +kernel
theorem dX8_addSinger_52 : decode cX8_addSinger 52 = .ok (.getfield 37, 3) := by decide +kernel
theorem dX8_addSinger_55 : decode cX8_addSinger 55 = .ok (.iconst 1, 1) := by decide +kernel
theorem dX8_addSinger_56 : decode cX8_addSinger 56 = .ok (.iadd, 1) := by decide +kernel
theorem dX8_addSinger_57 : decode cX8_addSinger 57 = .ok (.putfield 37, 3) := by decide +kernel
theorem dX8_addSinger_60 : decode cX8_addSinger 60 = .ok (.return_, 1) := by decide +kernel
theorem dX8_addInspector_0 : decode cX8_addInspector 0 = .ok (.aload_n 0, 1) := by decide +kernel
theorem dX8_addInspector_1 : decode cX8_addInspector 1 = .ok (.getfield 40, 3) := by decide +kernel
theorem dX8_addInspector_4 : decode cX8_addInspector 4 = .ok (.iconst 4, 1) := by decide +kernel
theorem dX8_addInspector_5 : decode cX8_addInspector 5 = .ok (.if_icmp .ge 23, 3) := by decide +kernel
theorem dX8_addInspector_8 : decode cX8_addInspector 8 = .ok (.aload_n 0, 1) := by decide +kernel
theorem dX8_addInspector_9 : decode cX8_addInspector 9 = .ok (.getfield 24, 3) := by decide +kernel
theorem dX8_addInspector_12 : decode cX8_addInspector 12 = .ok (.aload_n 0, 1) := by decide +kernel
theorem dX8_addInspector_13 : decode cX8_addInspector 13 = .ok (.getfield 40, 3) := by decide +kernel
theorem dX8_addInspector_16 : decode cX8_addInspector 16 = .ok (.iload_n 1, 1) := by decide +kernel
theorem dX8_addInspector_17 : decode cX8_addInspector 17 = .ok (.iastore, 1) := by decide +kernel
theorem dX8_addInspector_18 : decode cX8_addInspector 18 = .ok (.aload_n 0, 1) := by decide +kernel
theorem dX8_addInspector_19 : decode cX8_addInspector 19 = .ok (.dup, 1) := by decide +kernel
theorem dX8_addInspector_20 : decode cX8_addInspector 20 = .ok (.getfield 40, 3) := by decide +kernel
theorem dX8_addInspector_23 : decode cX8_addInspector 23 = .ok (.iconst 1, 1) := by decide +kernel
theorem dX8_addInspector_24 : decode cX8_addInspector 24 = .ok (.iadd, 1) := by decide +kernel
theorem dX8_addInspector_25 : decode cX8_addInspector 25 = .ok (.putfield 40, 3) := by decide +kernel
theorem dX8_addInspector_28 : decode cX8_addInspector 28 = .ok (.return_, 1) := by decide +kernel
theorem dX9_init_0 : decode cX9_init 0 = .ok (.aload_n 0, 1) := by decide +kernel
theorem dX9_init_1 : decode cX9_init 1 = .ok (.invokespecial 3, 3) := by decide +kernel
theorem dX9_init_4 : decode cX9_init 4 = .ok (.aload_n 0, 1) := by decide +kernel
theorem dX9_init_5 : decode cX9_init 5 = .ok (.bipush 9, 2) := by decide +kernel
theorem dX9_init_7 : decode cX9_init 7 = .ok (.bipush 7, 2) := by decide +kernel
theorem dX9_init_9 : decode cX9_init 9 = .ok (.multianewarray 9 2, 4) := by decide +kernel
theorem dX9_init_13 : decode cX9_init 13 = .ok (.putfield 11, 3) := by decide +kernel
theorem dX9_init_16 : decode cX9_init 16 = .ok (.aload_n 0, 1) := by decide +kernel
theorem dX9_init_17 : decode cX9_init 17 = .ok (.bipush 9, 2) := by decide +kernel
theorem dX9_init_19 : decode cX9_init 19 = .ok (.newarray .int, 2) := by decide +kernel
theorem dX9_init_21 : decode cX9_init 21 = .ok (.putfield 16, 3) := by decide +kernel
theorem dX9_init_24 : decode cX9_init 24 = .ok (.aload_n 0, 1) := by decide +kernel
theorem dX9_init_25 : decode cX9_init 25 = .ok (.iconst 0, 1) := by decide +kernel
theorem dX9_init_26 : decode cX9_init 26 = .ok (.putfield 20, 3) := by decide +kernel
theorem dX9_init_29 : decode cX9_init 29 = .ok (.aload_n 0, 1) := by decide +kernel
theorem dX9_init_30 : decode cX9_init 30 = .ok (.aload_n 1, 1) := by decide +kernel
theorem dX9_init_31 : decode cX9_init 31 = .ok (.putfield 24, 3) := by decide +kernel
theorem dX9_init_34 : decode cX9_init 34 = .ok (.return_, 1) := by decide +kernel
theorem dX9_share_0 : decode cX9_share 0 = .ok (.aload_n 0, 1) := by decide +kernel
theorem dX9_share_1 : decode cX9_share 1 = .ok (.getfield 24, 3) := by decide +kernel
theorem dX9_share_4 : decode cX9_share 4 = .ok (.getfield 28, 3) := by decide +kernel
theorem dX9_share_7 : decode cX9_share 7 = .ok (.iconst 1, 1) := by decide +kernel
theorem dX9_share_8 : decode cX9_share 8 = .ok (.isub, 1) := by decide +kernel
theorem dX9_share_9 : decode cX9_share 9 = .ok (.istore_n 2, 1) := by decide +kernel
theorem dX9_share_10 : decode cX9_share 10 = .ok (.iload_n 2, 1) := by decide +kernel
theorem dX9_share_11 : decode cX9_share 11 = .ok (.ifCond .lt 85, 3) := by decide +kernel
theorem dX9_share_14 : decode cX9_share 14 = .ok (.iconst 0, 1) := by decide +kernel
theorem dX9_share_15 : decode cX9_share 15 = .ok (.istore_n 3, 1) := by decide +kernel
theorem dX9_share_16 : decode cX9_share 16 = .ok (.iload_n 3, 1) := by decide +kernel
theorem dX9_share_17 : decode cX9_share 17 = .ok (.aload_n 0, 1) := by decide +kernel
theorem dX9_share_18 : decode cX9_share 18 = .ok (.getfield 24, 3) := by decide +kernel
theorem dX9_share_21 : decode cX9_share 21 = .ok (.getfield 33, 3) := by decide +kernel
theorem dX9_share_24 : decode cX9_share 24 = .ok (.if_icmp .ge 66, 3) := by decide +kernel
theorem dX9_share_27 : decode cX9_share 27 = .ok (.iload_n 3, 1) := by decide +kernel
theorem dX9_share_28 : decode cX9_share 28 = .ok (.iload_n 1, 1) := by decide +kernel
theorem dX9_share_29 : decode cX9_share 29 = .ok (.invokestatic 36, 3) := by decide +kernel
theorem dX9_share_32 : decode cX9_share 32 = .ok (.ifCond .eq 23, 3) := by decide +kernel
theorem dX9_share_35 : decode cX9_share 35 = .ok (.iload_n 2, 1) := by decide +kernel
theorem dX9_share_36 : decode cX9_share 36 = .ok (.aload_n 0, 1) := by decide +kernel
theorem dX9_share_37 : decode cX9_share 37 = .ok (.getfield 24, 3) := by decide +kernel
theorem dX9_share_40 : decode cX9_share 40 = .ok (.getfield 40, 3) := by decide +kernel
theorem dX9_share_43 : decode cX9_share 43 = .ok (.iload_n 3, 1) := by decide +kernel
theorem dX9_share_44 : decode cX9_share 44 = .ok (.iaload, 1) := by decide +kernel
theorem dX9_share_45 : decode cX9_share 45 = .ok (.invokestatic 36, 3) := by decide +kernel
theorem dX9_share_48 : decode cX9_share 48 = .ok (.ifCond .eq 7, 3) := by decide +kernel
theorem dX9_share_51 : decode cX9_share 51 = .ok (.iconst 1, 1) := by decide +kernel
theorem dX9_share_52 : decode cX9_share 52 = .ok (.goto 4, 3) := by decide +kernel
theorem dX9_share_55 : decode cX9_share 55 = .ok (.iconst 0, 1) := by decide +kernel
theorem dX9_share_56 : decode cX9_share 56 = .ok (.istore 4, 2) := by decide +kernel
theorem dX9_share_58 : decode cX9_share 58 = .ok (.aload_n 0, 1) := by decide +kernel
theorem dX9_share_59 : decode cX9_share 59 = .ok (.getfield 11, 3) := by decide +kernel
theorem dX9_share_62 : decode cX9_share 62 = .ok (.iload_n 2, 1) := by decide +kernel
theorem dX9_share_63 : decode cX9_share 63 = .ok (.aaload, 1) := by decide +kernel
theorem dX9_share_64 : decode cX9_share 64 = .ok (.iload_n 3, 1) := by decide +kernel
theorem dX9_share_65 : decode cX9_share 65 = .ok (.iload 4, 2) := by decide +kernel
theorem dX9_share_67 : decode cX9_share 67 = .ok (.ifCond .eq 14, 3) := by decide +kernel
theorem dX9_share_70 : decode cX9_share 70 = .ok (.aload_n 0, 1) := by decide +kernel
theorem dX9_share_71 : decode cX9_share 71 = .ok (.iload_n 2, 1) := by decide +kernel
theorem dX9_share_72 : decode cX9_share 72 = .ok (.iconst 1, 1) := by decide +kernel
theorem dX9_share_73 : decode cX9_share 73 = .ok (.iadd, 1) := by decide +kernel
theorem dX9_share_74 : decode cX9_share 74 = .ok (.iload_n 3, 1) := by decide +kernel
theorem dX9_share_75 : decode cX9_share 75 = .ok (.invokevirtual 43, 3) := by decide +kernel
theorem dX9_share_78 : decode cX9_share 78 = .ok (.goto 5, 3) := by decide +kernel
theorem dX9_share_81 : decode cX9_share 81 = .ok (.ldc 47, 2) := by decide +kernel
theorem dX9_share_83 : decode cX9_share 83 = .ok (.iastore, 1) := by decide +kernel
theorem dX9_share_84 : decode cX9_share 84 = .ok (.iinc 3 1, 3) := by decide +kernel
theorem dX9_share_87 : decode cX9_share 87 = .ok (.goto (-71), 3) := by decide +kernel
theorem dX9_share_90 : decode cX9_share 90 = .ok (.iinc 2 (-1), 3) := by decide +kernel
theorem dX9_share_93 : decode cX9_share 93 = .ok (.goto (-83), 3) := by decide +kernel
theorem dX9_share_96 : decode cX9_share 96 = .ok (.aload_n 0, 1) := by decide +kernel
theorem dX9_share_97 : decode cX9_share 97 = .ok (.aload_n 0, 1) := by decide +kernel
theorem dX9_share_98 : decode cX9_share 98 = .ok (.iconst 0, 1) := by decide +kernel
theorem dX9_share_99 : decode cX9_share 99 = .ok (.iconst (-1), 1) := by decide +kernel
theorem dX9_share_100 : decode cX9_share 100 = .ok (.invokevirtual 43, 3) := by decide +kernel
theorem dX9_share_103 : decode cX9_share 103 = .ok (.putfield 20, 3) := by decide +kernel
theorem dX9_share_106 : decode cX9_share 106 = .ok (.iconst (-1), 1) := by decide +kernel
theorem dX9_share_107 : decode cX9_share 107 = .ok (.istore_n 2, 1) := by decide +kernel
theorem dX9_share_108 : decode cX9_share 108 = .ok (.iconst 0, 1) := by decide +kernel
theorem dX9_share_109 : decode cX9_share 109 = .ok (.istore_n 3, 1) := by decide +kernel
theorem dX9_share_110 : decode cX9_share 110 = .ok (.iload_n 3, 1) := by decide +kernel
theorem dX9_share_111 : decode cX9_share 111 = .ok (.aload_n 0, 1) := by decide +kernel
theorem dX9_share_112 : decode cX9_share 112 = .ok (.getfield 24, 3) := by decide +kernel
theorem dX9_share_115 : decode cX9_share 115 = .ok (.getfield 28, 3) := by decide +kernel
theorem dX9_share_118 : decode cX9_share 118 = .ok (.if_icmp .ge 23, 3) := by decide +kernel
theorem dX9_share_121 : decode cX9_share 121 = .ok (.aload_n 0, 1) := by decide +kernel
theorem dX9_share_122 : decode cX9_share 122 = .ok (.iload_n 3, 1) := by decide +kernel
theorem dX9_share_123 : decode cX9_share 123 = .ok (.iload_n 2, 1) := by decide +kernel
theorem dX9_share_124 : decode cX9_share 124 = .ok (.invokevirtual 48, 3) := by decide +kernel
theorem dX9_share_127 : decode cX9_share 127 = .ok (.istore_n 2, 1) := by decide +kernel
theorem dX9_share_128 : decode cX9_share 128 = .ok (.aload_n 0, 1) := by decide +kernel
theorem dX9_share_129 : decode cX9_share 129 = .ok (.getfield 16, 3) := by decide +kernel
theorem dX9_share_132 : decode cX9_share 132 = .ok (.iload_n 3, 1) := by decide +kernel
theorem dX9_share_133 : decode cX9_share 133 = .ok (.iload_n 2, 1) := by decide +kernel
theorem dX9_share_134 : decode cX9_share 134 = .ok (.iastore, 1) := by decide +kernel
theorem dX9_share_135 : decode cX9_share 135 = .ok (.iinc 3 1, 3) := by decide +kernel
theorem dX9_share_138 : decode cX9_share 138 = .ok (.goto (-28), 3) := by decide +kernel
theorem dX9_share_141 : decode cX9_share 141 = .ok (.return_, 1) := by decide +kernel
theorem dX9_fewestBehind_0 : decode cX9_fewestBehind 0 = .ok (.aload_n 0, 1) := by decide +kernel
theorem dX9_fewestBehind_1 : decode cX9_fewestBehind 1 = .ok (.getfield 24, 3) := by decide +kernel
theorem dX9_fewestBehind_4 : decode cX9_fewestBehind 4 = .ok (.iload_n 1, 1) := by decide +kernel
theorem dX9_fewestBehind_5 : decode cX9_fewestBehind 5 = .ok (.invokevirtual 51, 3) := by decide +kernel
theorem dX9_fewestBehind_8 : decode cX9_fewestBehind 8 = .ok (.ifCond .ne 5, 3) := by decide +kernel
theorem dX9_fewestBehind_11 : decode cX9_fewestBehind 11 = .ok (.iconst 0, 1) := by decide +kernel
theorem dX9_fewestBehind_12 : decode cX9_fewestBehind 12 = .ok (.ireturn, 1) := by decide +kernel
theorem dX9_fewestBehind_13 : decode cX9_fewestBehind 13 = .ok (.aload_n 0, 1) := by decide +kernel
theorem dX9_fewestBehind_14 : decode cX9_fewestBehind 14 = .ok (.iload_n 1, 1) := by decide +kernel
theorem dX9_fewestBehind_15 : decode cX9_fewestBehind 15 = .ok (.iload_n 2, 1) := by decide +kernel
theorem dX9_fewestBehind_16 : decode cX9_fewestBehind 16 = .ok (.invokevirtual 48, 3) := by decide +kernel
theorem dX9_fewestBehind_19 : decode cX9_fewestBehind 19 = .ok (.istore_n 3, 1) := by decide +kernel
theorem dX9_fewestBehind_20 : decode cX9_fewestBehind 20 = .ok (.aload_n 0, 1) := by decide +kernel
theorem dX9_fewestBehind_21 : decode cX9_fewestBehind 21 = .ok (.getfield 24, 3) := by decide +kernel
theorem dX9_fewestBehind_24 : decode cX9_fewestBehind 24 = .ok (.iload_n 3, 1) := by decide +kernel
theorem dX9_fewestBehind_25 : decode cX9_fewestBehind 25 = .ok (.invokevirtual 55, 3) := by decide +kernel
theorem dX9_fewestBehind_28 : decode cX9_fewestBehind 28 = .ok (.ifCond .eq 13, 3) := by decide +kernel
theorem dX9_fewestBehind_31 : decode cX9_fewestBehind 31 = .ok (.aload_n 0, 1) := by decide +kernel
theorem dX9_fewestBehind_32 : decode cX9_fewestBehind 32 = .ok (.iload_n 1, 1) := by decide +kernel
theorem dX9_fewestBehind_33 : decode cX9_fewestBehind 33 = .ok (.iload_n 3, 1) := by decide +kernel
theorem dX9_fewestBehind_34 : decode cX9_fewestBehind 34 = .ok (.iload_n 2, 1) := by decide +kernel
theorem dX9_fewestBehind_35 : decode cX9_fewestBehind 35 = .ok (.invokevirtual 58, 3) := by decide +kernel
theorem dX9_fewestBehind_38 : decode cX9_fewestBehind 38 = .ok (.goto 5, 3) := by decide +kernel
theorem dX9_fewestBehind_41 : decode cX9_fewestBehind 41 = .ok (.ldc 47, 2) := by decide +kernel
theorem dX9_fewestBehind_43 : decode cX9_fewestBehind 43 = .ok (.ireturn, 1) := by decide +kernel
theorem dX9_bestFor_0 : decode cX9_bestFor 0 = .ok (.iconst (-1), 1) := by decide +kernel
theorem dX9_bestFor_1 : decode cX9_bestFor 1 = .ok (.istore_n 3, 1) := by decide +kernel
theorem dX9_bestFor_2 : decode cX9_bestFor 2 = .ok (.ldc 47, 2) := by decide +kernel
theorem dX9_bestFor_4 : decode cX9_bestFor 4 = .ok (.istore 4, 2) := by decide +kernel
theorem dX9_bestFor_6 : decode cX9_bestFor 6 = .ok (.iconst 0, 1) := by decide +kernel
theorem dX9_bestFor_7 : decode cX9_bestFor 7 = .ok (.istore 5, 2) := by decide +kernel
theorem dX9_bestFor_9 : decode cX9_bestFor 9 = .ok (.iload 5, 2) := by decide +kernel
theorem dX9_bestFor_11 : decode cX9_bestFor 11 = .ok (.aload_n 0, 1) := by decide +kernel
theorem dX9_bestFor_12 : decode cX9_bestFor 12 = .ok (.getfield 24, 3) := by decide +kernel
theorem dX9_bestFor_15 : decode cX9_bestFor 15 = .ok (.getfield 33, 3) := by decide +kernel
theorem dX9_bestFor_18 : decode cX9_bestFor 18 = .ok (.if_icmp .ge 33, 3) := by decide +kernel
theorem dX9_bestFor_21 : decode cX9_bestFor 21 = .ok (.aload_n 0, 1) := by decide +kernel
theorem dX9_bestFor_22 : decode cX9_bestFor 22 = .ok (.iload_n 1, 1) := by decide +kernel
theorem dX9_bestFor_23 : decode cX9_bestFor 23 = .ok (.iload 5, 2) := by decide +kernel
theorem dX9_bestFor_25 : decode cX9_bestFor 25 = .ok (.iload_n 2, 1) := by decide +kernel
theorem dX9_bestFor_26 : decode cX9_bestFor 26 = .ok (.invokevirtual 58, 3) := by decide +kernel
theorem dX9_bestFor_29 : decode cX9_bestFor 29 = .ok (.istore 6, 2) := by decide +kernel
theorem dX9_bestFor_31 : decode cX9_bestFor 31 = .ok (.iload 6, 2) := by decide +kernel
theorem dX9_bestFor_33 : decode cX9_bestFor 33 = .ok (.iload 4, 2) := by decide +kernel
theorem dX9_bestFor_35 : decode cX9_bestFor 35 = .ok (.if_icmp .ge 10, 3) := by decide +kernel
theorem dX9_bestFor_38 : decode cX9_bestFor 38 = .ok (.iload 5, 2) := by decide +kernel
theorem dX9_bestFor_40 : decode cX9_bestFor 40 = .ok (.istore_n 3, 1) := by decide +kernel
theorem dX9_bestFor_41 : decode cX9_bestFor 41 = .ok (.iload 6, 2) := by decide +kernel
theorem dX9_bestFor_43 : decode cX9_bestFor 43 = .ok (.istore 4, 2) := by decide +kernel
theorem dX9_bestFor_45 : decode cX9_bestFor 45 = .ok (.iinc 5 1, 3) := by decide +kernel
theorem dX9_bestFor_48 : decode cX9_bestFor 48 = .ok (.goto (-39), 3) := by decide +kernel
theorem dX9_bestFor_51 : decode cX9_bestFor 51 = .ok (.iload_n 3, 1) := by decide +kernel
theorem dX9_bestFor_52 : decode cX9_bestFor 52 = .ok (.ireturn, 1) := by decide +kernel
theorem dX9_costOf_0 : decode cX9_costOf 0 = .ok (.aload_n 0, 1) := by decide +kernel
theorem dX9_costOf_1 : decode cX9_costOf 1 = .ok (.getfield 11, 3) := by decide +kernel
theorem dX9_costOf_4 : decode cX9_costOf 4 = .ok (.iload_n 1, 1) := by decide +kernel
theorem dX9_costOf_5 : decode cX9_costOf 5 = .ok (.aaload, 1) := by decide +kernel
theorem dX9_costOf_6 : decode cX9_costOf 6 = .ok (.iload_n 2, 1) := by decide +kernel
theorem dX9_costOf_7 : decode cX9_costOf 7 = .ok (.iaload, 1) := by decide +kernel
theorem dX9_costOf_8 : decode cX9_costOf 8 = .ok (.iload_n 3, 1) := by decide +kernel
theorem dX9_costOf_9 : decode cX9_costOf 9 = .ok (.iconst (-1), 1) := by decide +kernel
theorem dX9_costOf_10 : decode cX9_costOf 10 = .ok (.if_icmp .eq 8, 3) := by decide +kernel
theorem dX9_costOf_13 : decode cX9_costOf 13 = .ok (.iload_n 3, 1) := by decide +kernel
theorem dX9_costOf_14 : decode cX9_costOf 14 = .ok (.iload_n 2, 1) := by decide +kernel
theorem dX9_costOf_15 : decode cX9_costOf 15 = .ok (.if_icmp .ne 7, 3) := by decide +kernel
theorem dX9_costOf_18 : decode cX9_costOf 18 = .ok (.iconst 0, 1) := by decide +kernel
theorem dX9_costOf_19 : decode cX9_costOf 19 = .ok (.goto 4, 3) := by decide +kernel
theorem dX9_costOf_22 : decode cX9_costOf 22 = .ok (.iconst 1, 1) := by decide +kernel
theorem dX9_costOf_23 : decode cX9_costOf 23 = .ok (.iadd, 1) := by decide +kernel
theorem dX9_costOf_24 : decode cX9_costOf 24 = .ok (.ireturn, 1) := by decide +kernel
theorem dJ6_bitCount_0f7a4_0 : decode cJ6_bitCount_0f7a4 0 = .ok (.iload_n 0, 1) := by decide +kernel
theorem dJ6_bitCount_0f7a4_1 : decode cJ6_bitCount_0f7a4 1 = .ok (.iload_n 0, 1) := by decide +kernel
theorem dJ6_bitCount_0f7a4_2 : decode cJ6_bitCount_0f7a4 2 = .ok (.iconst 1, 1) := by decide +kernel
theorem dJ6_bitCount_0f7a4_3 : decode cJ6_bitCount_0f7a4 3 = .ok (.iushr, 1) := by decide +kernel
theorem dJ6_bitCount_0f7a4_4 : decode cJ6_bitCount_0f7a4 4 = .ok (.ldc_w 265, 3) := by decide +kernel
theorem dJ6_bitCount_0f7a4_7 : decode cJ6_bitCount_0f7a4 7 = .ok (.iand, 1) := by decide +kernel
theorem dJ6_bitCount_0f7a4_8 : decode cJ6_bitCount_0f7a4 8 = .ok (.isub, 1) := by decide +kernel
theorem dJ6_bitCount_0f7a4_9 : decode cJ6_bitCount_0f7a4 9 = .ok (.istore_n 0, 1) := by decide +kernel
theorem dJ6_bitCount_0f7a4_10 : decode cJ6_bitCount_0f7a4 10 = .ok (.iload_n 0, 1) := by decide +kernel
theorem dJ6_bitCount_0f7a4_11 : decode cJ6_bitCount_0f7a4 11 = .ok (.ldc_w 266, 3) := by decide +kernel
theorem dJ6_bitCount_0f7a4_14 : decode cJ6_bitCount_0f7a4 14 = .ok (.iand, 1) := by decide +kernel
theorem dJ6_bitCount_0f7a4_15 : decode cJ6_bitCount_0f7a4 15 = .ok (.iload_n 0, 1) := by decide +kernel
theorem dJ6_bitCount_0f7a4_16 : decode cJ6_bitCount_0f7a4 16 = .ok (.iconst 2, 1) := by decide +kernel
theorem dJ6_bitCount_0f7a4_17 : decode cJ6_bitCount_0f7a4 17 = .ok (.iushr, 1) := by decide +kernel
theorem dJ6_bitCount_0f7a4_18 : decode cJ6_bitCount_0f7a4 18 = .ok (.ldc_w 266, 3) := by decide +kernel
theorem dJ6_bitCount_0f7a4_21 : decode cJ6_bitCount_0f7a4 21 = .ok (.iand, 1) := by decide +kernel
theorem dJ6_bitCount_0f7a4_22 : decode cJ6_bitCount_0f7a4 22 = .ok (.iadd, 1) := by decide +kernel
theorem dJ6_bitCount_0f7a4_23 : decode cJ6_bitCount_0f7a4 23 = .ok (.istore_n 0, 1) := by decide +kernel
theorem dJ6_bitCount_0f7a4_24 : decode cJ6_bitCount_0f7a4 24 = .ok (.iload_n 0, 1) := by decide +kernel
theorem dJ6_bitCount_0f7a4_25 : decode cJ6_bitCount_0f7a4 25 = .ok (.iload_n 0, 1) := by decide +kernel
theorem dJ6_bitCount_0f7a4_26 : decode cJ6_bitCount_0f7a4 26 = .ok (.iconst 4, 1) := by decide +kernel
theorem dJ6_bitCount_0f7a4_27 : decode cJ6_bitCount_0f7a4 27 = .ok (.iushr, 1) := by decide +kernel
theorem dJ6_bitCount_0f7a4_28 : decode cJ6_bitCount_0f7a4 28 = .ok (.iadd, 1) := by decide +kernel
theorem dJ6_bitCount_0f7a4_29 : decode cJ6_bitCount_0f7a4 29 = .ok (.ldc_w 267, 3) := by decide +kernel
theorem dJ6_bitCount_0f7a4_32 : decode cJ6_bitCount_0f7a4 32 = .ok (.iand, 1) := by decide +kernel
theorem dJ6_bitCount_0f7a4_33 : decode cJ6_bitCount_0f7a4 33 = .ok (.istore_n 0, 1) := by decide +kernel
theorem dJ6_bitCount_0f7a4_34 : decode cJ6_bitCount_0f7a4 34 = .ok (.iload_n 0, 1) := by decide +kernel
theorem dJ6_bitCount_0f7a4_35 : decode cJ6_bitCount_0f7a4 35 = .ok (.iload_n 0, 1) := by decide +kernel
theorem dJ6_bitCount_0f7a4_36 : decode cJ6_bitCount_0f7a4 36 = .ok (.bipush 8, 2) := by decide +kernel
theorem dJ6_bitCount_0f7a4_38 : decode cJ6_bitCount_0f7a4 38 = .ok (.iushr, 1) := by decide +kernel
theorem dJ6_bitCount_0f7a4_39 : decode cJ6_bitCount_0f7a4 39 = .ok (.iadd, 1) := by decide +kernel
theorem dJ6_bitCount_0f7a4_40 : decode cJ6_bitCount_0f7a4 40 = .ok (.istore_n 0, 1) := by decide +kernel
theorem dJ6_bitCount_0f7a4_41 : decode cJ6_bitCount_0f7a4 41 = .ok (.iload_n 0, 1) := by decide +kernel
theorem dJ6_bitCount_0f7a4_42 : decode cJ6_bitCount_0f7a4 42 = .ok (.iload_n 0, 1) := by decide +kernel
theorem dJ6_bitCount_0f7a4_43 : decode cJ6_bitCount_0f7a4 43 = .ok (.bipush 16, 2) := by decide +kernel
theorem dJ6_bitCount_0f7a4_45 : decode cJ6_bitCount_0f7a4 45 = .ok (.iushr, 1) := by decide +kernel
theorem dJ6_bitCount_0f7a4_46 : decode cJ6_bitCount_0f7a4 46 = .ok (.iadd, 1) := by decide +kernel
theorem dJ6_bitCount_0f7a4_47 : decode cJ6_bitCount_0f7a4 47 = .ok (.istore_n 0, 1) := by decide +kernel
theorem dJ6_bitCount_0f7a4_48 : decode cJ6_bitCount_0f7a4 48 = .ok (.iload_n 0, 1) := by decide +kernel
theorem dJ6_bitCount_0f7a4_49 : decode cJ6_bitCount_0f7a4 49 = .ok (.bipush 63, 2) := by decide +kernel
theorem dJ6_bitCount_0f7a4_51 : decode cJ6_bitCount_0f7a4 51 = .ok (.iand, 1) := by decide +kernel
theorem dJ6_bitCount_0f7a4_52 : decode cJ6_bitCount_0f7a4 52 = .ok (.ireturn, 1) := by decide +kernel
theorem dJ9_max_7cf53_0 : decode cJ9_max_7cf53 0 = .ok (.iload_n 0, 1) := by decide +kernel
theorem dJ9_max_7cf53_1 : decode cJ9_max_7cf53 1 = .ok (.iload_n 1, 1) := by decide +kernel
theorem dJ9_max_7cf53_2 : decode cJ9_max_7cf53 2 = .ok (.if_icmp .lt 7, 3) := by decide +kernel
theorem dJ9_max_7cf53_5 : decode cJ9_max_7cf53 5 = .ok (.iload_n 0, 1) := by decide +kernel
theorem dJ9_max_7cf53_6 : decode cJ9_max_7cf53 6 = .ok (.goto 4, 3) := by decide +kernel
theorem dJ9_max_7cf53_9 : decode cJ9_max_7cf53 9 = .ok (.iload_n 1, 1) := by decide +kernel
theorem dJ9_max_7cf53_10 : decode cJ9_max_7cf53 10 = .ok (.ireturn, 1) := by decide +kernel
theorem dJ9_min_7cf53_0 : decode cJ9_min_7cf53 0 = .ok (.iload_n 0, 1) := by decide +kernel
theorem dJ9_min_7cf53_1 : decode cJ9_min_7cf53 1 = .ok (.iload_n 1, 1) := by decide +kernel
theorem dJ9_min_7cf53_2 : decode cJ9_min_7cf53 2 = .ok (.if_icmp .gt 7, 3) := by decide +kernel
theorem dJ9_min_7cf53_5 : decode cJ9_min_7cf53 5 = .ok (.iload_n 0, 1) := by decide +kernel
theorem dJ9_min_7cf53_6 : decode cJ9_min_7cf53 6 = .ok (.goto 4, 3) := by decide +kernel
theorem dJ9_min_7cf53_9 : decode cJ9_min_7cf53 9 = .ok (.iload_n 1, 1) := by decide +kernel
theorem dJ9_min_7cf53_10 : decode cJ9_min_7cf53 10 = .ok (.ireturn, 1) := by decide +kernel
end
section
theorem dX10_init_0 : decode cX10_init 0 = .ok (.aload_n 0, 1) := by decide +kernel
theorem dX10_init_1 : decode cX10_init 1 = .ok (.invokespecial 1, 3) := by decide +kernel
theorem dX10_init_4 : decode cX10_init 4 = .ok (.new 7, 3) := by decide +kernel
theorem dX10_init_7 : decode cX10_init 7 = .ok (.dup, 1) := by decide +kernel
theorem dX10_init_8 : decode cX10_init 8 = .ok (.invokespecial 9, 3) := by decide +kernel
theorem dX10_init_11 : decode cX10_init 11 = .ok (.astore_n 1, 1) := by decide +kernel
theorem dX10_init_12 : decode cX10_init 12 = .ok (.iconst 2, 1) := by decide +kernel
theorem dX10_init_13 : decode cX10_init 13 = .ok (.anewarray 12, 3) := by decide +kernel
theorem dX10_init_16 : decode cX10_init 16 = .ok (.astore_n 2, 1) := by decide +kernel
theorem dX10_init_17 : decode cX10_init 17 = .ok (.iconst 0, 1) := by decide +kernel
theorem dX10_init_18 : decode cX10_init 18 = .ok (.istore_n 3, 1) := by decide +kernel
theorem dX10_init_19 : decode cX10_init 19 = .ok (.iload_n 3, 1) := by decide +kernel
theorem dX10_init_20 : decode cX10_init 20 = .ok (.iconst 2, 1) := by decide +kernel
theorem dX10_init_21 : decode cX10_init 21 = .ok (.if_icmp .ge 20, 3) := by decide +kernel
theorem dX10_init_24 : decode cX10_init 24 = .ok (.aload_n 2, 1) := by decide +kernel
theorem dX10_init_25 : decode cX10_init 25 = .ok (.iload_n 3, 1) := by decide +kernel
theorem dX10_init_26 : decode cX10_init 26 = .ok (.new 12, 3) := by decide +kernel
theorem dX10_init_29 : decode cX10_init 29 = .ok (.dup, 1) := by decide +kernel
theorem dX10_init_30 : decode cX10_init 30 = .ok (.aload_n 1, 1) := by decide +kernel
theorem dX10_init_31 : decode cX10_init 31 = .ok (.invokespecial 14, 3) := by decide +kernel
theorem dX10_init_34 : decode cX10_init 34 = .ok (.aastore, 1) := by decide +kernel
theorem dX10_init_35 : decode cX10_init 35 = .ok (.iinc 3 1, 3) := by decide +kernel
theorem dX10_init_38 : decode cX10_init 38 = .ok (.goto (-19), 3) := by decide +kernel
theorem dX10_init_41 : decode cX10_init 41 = .ok (.aload_n 0, 1) := by decide +kernel
theorem dX10_init_42 : decode cX10_init 42 = .ok (.new 17, 3) := by decide +kernel
theorem dX10_init_45 : decode cX10_init 45 = .ok (.dup, 1) := by decide +kernel
theorem dX10_init_46 : decode cX10_init 46 = .ok (.invokespecial 19, 3) := by decide +kernel
theorem dX10_init_49 : decode cX10_init 49 = .ok (.putfield 20, 3) := by decide +kernel
theorem dX10_init_52 : decode cX10_init 52 = .ok (.aload_n 0, 1) := by decide +kernel
theorem dX10_init_53 : decode cX10_init 53 = .ok (.new 7, 3) := by decide +kernel
theorem dX10_init_56 : decode cX10_init 56 = .ok (.dup, 1) := by decide +kernel
theorem dX10_init_57 : decode cX10_init 57 = .ok (.invokespecial 9, 3) := by decide +kernel
theorem dX10_init_60 : decode cX10_init 60 = .ok (.putfield 24, 3) := by decide +kernel
theorem dX10_init_63 : decode cX10_init 63 = .ok (.aload_n 0, 1) := by decide +kernel
theorem dX10_init_64 : decode cX10_init 64 = .ok (.aload_n 1, 1) := by decide +kernel
theorem dX10_init_65 : decode cX10_init 65 = .ok (.putfield 28, 3) := by decide +kernel
theorem dX10_init_68 : decode cX10_init 68 = .ok (.aload_n 0, 1) := by decide +kernel
theorem dX10_init_69 : decode cX10_init 69 = .ok (.new 31, 3) := by decide +kernel
theorem dX10_init_72 : decode cX10_init 72 = .ok (.dup, 1) := by decide +kernel
theorem dX10_init_73 : decode cX10_init 73 = .ok (.aload_n 1, 1) := by decide +kernel
theorem dX10_init_74 : decode cX10_init 74 = .ok (.invokespecial 33, 3) := by decide +kernel
theorem dX10_init_77 : decode cX10_init 77 = .ok (.putfield 34, 3) := by decide +kernel
theorem dX10_init_80 : decode cX10_init 80 = .ok (.aload_n 0, 1) := by decide +kernel
theorem dX10_init_81 : decode cX10_init 81 = .ok (.new 31, 3) := by decide +kernel
theorem dX10_init_84 : decode cX10_init 84 = .ok (.dup, 1) := by decide +kernel
theorem dX10_init_85 : decode cX10_init 85 = .ok (.aload_n 1, 1) := by decide +kernel
theorem dX10_init_86 : decode cX10_init 86 = .ok (.invokespecial 33, 3) := by decide +kernel
theorem dX10_init_89 : decode cX10_init 89 = .ok (.putfield 38, 3) := by decide +kernel
theorem dX10_init_92 : decode cX10_init 92 = .ok (.aload_n 0, 1) := by decide +kernel
theorem dX10_init_93 : decode cX10_init 93 = .ok (.new 41, 3) := by decide +kernel
theorem dX10_init_96 : decode cX10_init 96 = .ok (.dup, 1) := by decide +kernel
theorem dX10_init_97 : decode cX10_init 97 = .ok (.aload_n 1, 1) := by decide +kernel
theorem dX10_init_98 : decode cX10_init 98 = .ok (.invokespecial 43, 3) := by decide +kernel
theorem dX10_init_101 : decode cX10_init 101 = .ok (.putfield 44, 3) := by decide +kernel
theorem dX10_init_104 : decode cX10_init 104 = .ok (.aload_n 0, 1) := by decide +kernel
theorem dX10_init_105 : decode cX10_init 105 = .ok (.aload_n 2, 1) := by decide +kernel
theorem dX10_init_106 : decode cX10_init 106 = .ok (.putfield 48, 3) := by decide +kernel
theorem dX10_init_109 : decode cX10_init 109 = .ok (.aload_n 0, 1) := by decide +kernel
theorem dX10_init_110 : decode cX10_init 110 = .ok (.new 52, 3) := by decide +kernel
theorem dX10_init_113 : decode cX10_init 113 = .ok (.dup, 1) := by decide +kernel
theorem dX10_init_114 : decode cX10_init 114 = .ok (.invokespecial 54, 3) := by decide +kernel
theorem dX10_init_117 : decode cX10_init 117 = .ok (.putfield 55, 3) := by decide +kernel
theorem dX10_init_120 : decode cX10_init 120 = .ok (.aload_n 0, 1) := by decide +kernel
theorem dX10_init_121 : decode cX10_init 121 = .ok (.new 59, 3) := by decide +kernel
theorem dX10_init_124 : decode cX10_init 124 = .ok (.dup, 1) := by decide +kernel
theorem dX10_init_125 : decode cX10_init 125 = .ok (.invokespecial 61, 3) := by decide +kernel
theorem dX10_init_128 : decode cX10_init 128 = .ok (.putfield 62, 3) := by decide +kernel
theorem dX10_init_131 : decode cX10_init 131 = .ok (.aload_n 0, 1) := by decide +kernel
theorem dX10_init_132 : decode cX10_init 132 = .ok (.new 66, 3) := by decide +kernel
theorem dX10_init_135 : decode cX10_init 135 = .ok (.dup, 1) := by decide +kernel
theorem dX10_init_136 : decode cX10_init 136 = .ok (.aload_n 1, 1) := by decide +kernel
theorem dX10_init_137 : decode cX10_init 137 = .ok (.invokespecial 68, 3) := by decide +kernel
theorem dX10_init_140 : decode cX10_init 140 = .ok (.putfield 69, 3) := by decide +kernel
theorem dX10_init_143 : decode cX10_init 143 = .ok (.aload_n 0, 1) := by decide +kernel
theorem dX10_init_144 : decode cX10_init 144 = .ok (.new 73, 3) := by decide +kernel
theorem dX10_init_147 : decode cX10_init 147 = .ok (.dup, 1) := by decide +kernel
theorem dX10_init_148 : decode cX10_init 148 = .ok (.aload_n 1, 1) := by decide +kernel
theorem dX10_init_149 : decode cX10_init 149 = .ok (.invokespecial 75, 3) := by decide +kernel
theorem dX10_init_152 : decode cX10_init 152 = .ok (.putfield 76, 3) := by decide +kernel
theorem dX10_init_155 : decode cX10_init 155 = .ok (.aload_n 0, 1) := by decide +kernel
theorem dX10_init_156 : decode cX10_init 156 = .ok (.new 80, 3) := by decide +kernel
theorem dX10_init_159 : decode cX10_init 159 = .ok (.dup, 1) := by decide +kernel
theorem dX10_init_160 : decode cX10_init 160 = .ok (.invokespecial 82, 3) := by decide +kernel
theorem dX10_init_163 : decode cX10_init 163 = .ok (.putfield 83, 3) := by decide +kernel
theorem dX10_init_166 : decode cX10_init 166 = .ok (.return_, 1) := by decide +kernel
theorem dX10_feed_0 : decode cX10_feed 0 = .ok (.iload_n 1, 1) := by decide +kernel
theorem dX10_feed_1 : decode cX10_feed 1 = .ok (.ifCond .lt 10, 3) := by decide +kernel
theorem dX10_feed_4 : decode cX10_feed 4 = .ok (.iload_n 1, 1) := by decide +kernel
theorem dX10_feed_5 : decode cX10_feed 5 = .ok (.sipush 255, 3) := by decide +kernel
theorem dX10_feed_8 : decode cX10_feed 8 = .ok (.if_icmp .le 6, 3) := by decide +kernel
theorem dX10_feed_11 : decode cX10_feed 11 = .ok (.ldc 87, 2) := by decide +kernel
theorem dX10_feed_13 : decode cX10_feed 13 = .ok (.ireturn, 1) := by decide +kernel
theorem dX10_feed_14 : decode cX10_feed 14 = .ok (.aload_n 0, 1) := by decide +kernel
theorem dX10_feed_15 : decode cX10_feed 15 = .ok (.getfield 20, 3) := by decide +kernel
theorem dX10_feed_18 : decode cX10_feed 18 = .ok (.iload_n 1, 1) := by decide +kernel
theorem dX10_feed_19 : decode cX10_feed 19 = .ok (.invokevirtual 88, 3) := by decide +kernel
theorem dX10_feed_22 : decode cX10_feed 22 = .ok (.ifCond .eq 13, 3) := by decide +kernel
theorem dX10_feed_25 : decode cX10_feed 25 = .ok (.aload_n 0, 1) := by decide +kernel
theorem dX10_feed_26 : decode cX10_feed 26 = .ok (.getfield 20, 3) := by decide +kernel
theorem dX10_feed_29 : decode cX10_feed 29 = .ok (.getfield 92, 3) := by decide +kernel
theorem dX10_feed_32 : decode cX10_feed 32 = .ok (.goto 5, 3) := by decide +kernel
theorem dX10_feed_35 : decode cX10_feed 35 = .ok (.ldc 96, 2) := by decide +kernel
theorem dX10_feed_37 : decode cX10_feed 37 = .ok (.ireturn, 1) := by decide +kernel
theorem dX10_duchy_0 : decode cX10_duchy 0 = .ok (.aload_n 0, 1) := by decide +kernel
theorem dX10_duchy_1 : decode cX10_duchy 1 = .ok (.getfield 20, 3) := by decide +kernel
theorem dX10_duchy_4 : decode cX10_duchy 4 = .ok (.aload_n 0, 1) := by decide +kernel
theorem dX10_duchy_5 : decode cX10_duchy 5 = .ok (.getfield 24, 3) := by decide +kernel
theorem dX10_duchy_8 : decode cX10_duchy 8 = .ok (.invokevirtual 97, 3) := by decide +kernel
theorem dX10_duchy_11 : decode cX10_duchy 11 = .ok (.istore_n 1, 1) := by decide +kernel
theorem dX10_duchy_12 : decode cX10_duchy 12 = .ok (.iload_n 1, 1) := by decide +kernel
theorem dX10_duchy_13 : decode cX10_duchy 13 = .ok (.ifCond .eq 8, 3) := by decide +kernel
theorem dX10_duchy_16 : decode cX10_duchy 16 = .ok (.bipush (-10), 2) := by decide +kernel
theorem dX10_duchy_18 : decode cX10_duchy 18 = .ok (.iload_n 1, 1) := by decide +kernel
theorem dX10_duchy_19 : decode cX10_duchy 19 = .ok (.isub, 1) := by decide +kernel
theorem dX10_duchy_20 : decode cX10_duchy 20 = .ok (.ireturn, 1) := by decide +kernel
theorem dX10_duchy_21 : decode cX10_duchy 21 = .ok (.aload_n 0, 1) := by decide +kernel
theorem dX10_duchy_22 : decode cX10_duchy 22 = .ok (.getfield 28, 3) := by decide +kernel
theorem dX10_duchy_25 : decode cX10_duchy 25 = .ok (.aload_n 0, 1) := by decide +kernel
theorem dX10_duchy_26 : decode cX10_duchy 26 = .ok (.getfield 24, 3) := by decide +kernel
theorem dX10_duchy_29 : decode cX10_duchy 29 = .ok (.invokevirtual 101, 3) := by decide +kernel
theorem dX10_duchy_32 : decode cX10_duchy 32 = .ok (.aload_n 0, 1) := by decide +kernel
theorem dX10_duchy_33 : decode cX10_duchy 33 = .ok (.getfield 34, 3) := by decide +kernel
theorem dX10_duchy_36 : decode cX10_duchy 36 = .ok (.invokevirtual 104, 3) := by decide +kernel
theorem dX10_duchy_39 : decode cX10_duchy 39 = .ok (.aload_n 0, 1) := by decide +kernel
theorem dX10_duchy_40 : decode cX10_duchy 40 = .ok (.getfield 55, 3) := by decide +kernel
theorem dX10_duchy_43 : decode cX10_duchy 43 = .ok (.invokevirtual 107, 3) := by decide +kernel
theorem dX10_duchy_46 : decode cX10_duchy 46 = .ok (.aload_n 0, 1) := by decide +kernel
theorem dX10_duchy_47 : decode cX10_duchy 47 = .ok (.getfield 44, 3) := by decide +kernel
theorem dX10_duchy_50 : decode cX10_duchy 50 = .ok (.invokevirtual 110, 3) := by decide +kernel
theorem dX10_duchy_53 : decode cX10_duchy 53 = .ok (.iconst 0, 1) := by decide +kernel
theorem dX10_duchy_54 : decode cX10_duchy 54 = .ok (.istore_n 2, 1) := by decide +kernel
theorem dX10_duchy_55 : decode cX10_duchy 55 = .ok (.iload_n 2, 1) := by decide +kernel
theorem dX10_duchy_56 : decode cX10_duchy 56 = .ok (.iconst 2, 1) := by decide +kernel
theorem dX10_duchy_57 : decode cX10_duchy 57 = .ok (.if_icmp .ge 19, 3) := by decide +kernel
theorem dX10_duchy_60 : decode cX10_duchy 60 = .ok (.aload_n 0, 1) := by decide +kernel
theorem dX10_duchy_61 : decode cX10_duchy 61 = .ok (.getfield 48, 3) := by decide +kernel
theorem dX10_duchy_64 : decode cX10_duchy 64 = .ok (.iload_n 2, 1) := by decide +kernel
theorem dX10_duchy_65 : decode cX10_duchy 65 = .ok (.aaload, 1) := by decide +kernel
theorem dX10_duchy_66 : decode cX10_duchy 66 = .ok (.iconst 0, 1) := by decide +kernel
theorem dX10_duchy_67 : decode cX10_duchy 67 = .ok (.putfield 113, 3) := by decide +kernel
theorem dX10_duchy_70 : decode cX10_duchy 70 = .ok (.iinc 2 1, 3) := by decide +kernel
theorem dX10_duchy_73 : decode cX10_duchy 73 = .ok (.goto (-18), 3) := by decide +kernel
theorem dX10_duchy_76 : decode cX10_duchy 76 = .ok (.aload_n 0, 1) := by decide +kernel
theorem dX10_duchy_77 : decode cX10_duchy 77 = .ok (.getfield 28, 3) := by decide +kernel
theorem dX10_duchy_80 : decode cX10_duchy 80 = .ok (.getfield 117, 3) := by decide +kernel
theorem dX10_duchy_83 : decode cX10_duchy 83 = .ok (.ireturn, 1) := by decide +kernel
theorem dX10_fault_0 : decode cX10_fault 0 = .ok (.aload_n 0, 1) := by decide +kernel
theorem dX10_fault_1 : decode cX10_fault 1 = .ok (.getfield 20, 3) := by decide +kernel
theorem dX10_fault_4 : decode cX10_fault 4 = .ok (.getfield 120, 3) := by decide +kernel
theorem dX10_fault_7 : decode cX10_fault 7 = .ok (.ireturn, 1) := by decide +kernel
theorem dX10_told_0 : decode cX10_told 0 = .ok (.iload_n 1, 1) := by decide +kernel
theorem dX10_told_1 : decode cX10_told 1 = .ok (.tableswitch 234 0 19 #[95, 103, 111, 119, 127, 135, 143, 151, 159, 167, 175, 183, 191, 199, 204, 212, 212, 212, 218, 226], 95) := by decide +kernel
theorem dX10_told_96 : decode cX10_told 96 = .ok (.aload_n 0, 1) := by decide +kernel
theorem dX10_told_97 : decode cX10_told 97 = .ok (.getfield 34, 3) := by decide +kernel
theorem dX10_told_100 : decode cX10_told 100 = .ok (.getfield 123, 3) := by decide +kernel
theorem dX10_told_103 : decode cX10_told 103 = .ok (.ireturn, 1) := by decide +kernel
theorem dX10_told_104 : decode cX10_told 104 = .ok (.aload_n 0, 1) := by decide +kernel
theorem dX10_told_105 : decode cX10_told 105 = .ok (.getfield 28, 3) := by decide +kernel
theorem dX10_told_108 : decode cX10_told 108 = .ok (.getfield 126, 3) := by decide +kernel
theorem dX10_told_111 : decode cX10_told 111 = .ok (.ireturn, 1) := by decide +kernel
theorem dX10_told_112 : decode cX10_told 112 = .ok (.aload_n 0, 1) := by decide +kernel
theorem dX10_told_113 : decode cX10_told 113 = .ok (.getfield 28, 3) := by decide +kernel
theorem dX10_told_116 : decode cX10_told 116 = .ok (.getfield 129, 3) := by decide +kernel
theorem dX10_told_119 : decode cX10_told 119 = .ok (.ireturn, 1) := by decide +kernel
theorem dX10_told_120 : decode cX10_told 120 = .ok (.aload_n 0, 1) := by decide +kernel
theorem dX10_told_121 : decode cX10_told 121 = .ok (.getfield 28, 3) := by decide +kernel
theorem dX10_told_124 : decode cX10_told 124 = .ok (.getfield 117, 3) := by decide +kernel
theorem dX10_told_127 : decode cX10_told 127 = .ok (.ireturn, 1) := by decide +kernel
theorem dX10_told_128 : decode cX10_told 128 = .ok (.aload_n 0, 1) := by decide +kernel
theorem dX10_told_129 : decode cX10_told 129 = .ok (.getfield 28, 3) := by decide +kernel
theorem dX10_told_132 : decode cX10_told 132 = .ok (.getfield 132, 3) := by decide +kernel
theorem dX10_told_135 : decode cX10_told 135 = .ok (.ireturn, 1) := by decide +kernel
theorem dX10_told_136 : decode cX10_told 136 = .ok (.aload_n 0, 1) := by decide +kernel
theorem dX10_told_137 : decode cX10_told 137 = .ok (.getfield 20, 3) := by decide +kernel
theorem dX10_told_140 : decode cX10_told 140 = .ok (.getfield 92, 3) := by decide +kernel
theorem dX10_told_143 : decode cX10_told 143 = .ok (.ireturn, 1) := by decide +kernel
theorem dX10_told_144 : decode cX10_told 144 = .ok (.aload_n 0, 1) := by decide +kernel
theorem dX10_told_145 : decode cX10_told 145 = .ok (.getfield 34, 3) := by decide +kernel
theorem dX10_told_148 : decode cX10_told 148 = .ok (.getfield 135, 3) := by decide +kernel
theorem dX10_told_151 : decode cX10_told 151 = .ok (.ireturn, 1) := by decide +kernel
theorem dX10_told_152 : decode cX10_told 152 = .ok (.aload_n 0, 1) := by decide +kernel
theorem dX10_told_153 : decode cX10_told 153 = .ok (.getfield 34, 3) := by decide +kernel
theorem dX10_told_156 : decode cX10_told 156 = .ok (.invokevirtual 138, 3) := by decide +kernel
theorem dX10_told_159 : decode cX10_told 159 = .ok (.ireturn, 1) := by decide +kernel
theorem dX10_told_160 : decode cX10_told 160 = .ok (.aload_n 0, 1) := by decide +kernel
theorem dX10_told_161 : decode cX10_told 161 = .ok (.getfield 34, 3) := by decide +kernel
theorem dX10_told_164 : decode cX10_told 164 = .ok (.getfield 142, 3) := by decide +kernel
theorem dX10_told_167 : decode cX10_told 167 = .ok (.ireturn, 1) := by decide +kernel
theorem dX10_told_168 : decode cX10_told 168 = .ok (.aload_n 0, 1) := by decide +kernel
theorem dX10_told_169 : decode cX10_told 169 = .ok (.getfield 34, 3) := by decide +kernel
theorem dX10_told_172 : decode cX10_told 172 = .ok (.getfield 145, 3) := by decide +kernel
theorem dX10_told_175 : decode cX10_told 175 = .ok (.ireturn, 1) := by decide +kernel
theorem dX10_told_176 : decode cX10_told 176 = .ok (.aload_n 0, 1) := by decide +kernel
theorem dX10_told_177 : decode cX10_told 177 = .ok (.getfield 34, 3) := by decide +kernel
theorem dX10_told_180 : decode cX10_told 180 = .ok (.invokevirtual 148, 3) := by decide +kernel
theorem dX10_told_183 : decode cX10_told 183 = .ok (.ireturn, 1) := by decide +kernel
theorem dX10_told_184 : decode cX10_told 184 = .ok (.aload_n 0, 1) := by decide +kernel
theorem dX10_told_185 : decode cX10_told 185 = .ok (.getfield 34, 3) := by decide +kernel
theorem dX10_told_188 : decode cX10_told 188 = .ok (.invokevirtual 151, 3) := by decide +kernel
theorem dX10_told_191 : decode cX10_told 191 = .ok (.ireturn, 1) := by decide +kernel
theorem dX10_told_192 : decode cX10_told 192 = .ok (.aload_n 0, 1) := by decide +kernel
theorem dX10_told_193 : decode cX10_told 193 = .ok (.getfield 34, 3) := by decide +kernel
theorem dX10_told_196 : decode cX10_told 196 = .ok (.invokevirtual 154, 3) := by decide +kernel
theorem dX10_told_199 : decode cX10_told 199 = .ok (.ireturn, 1) := by decide +kernel
theorem dX10_told_200 : decode cX10_told 200 = .ok (.aload_n 0, 1) := by decide +kernel
theorem dX10_told_201 : decode cX10_told 201 = .ok (.invokevirtual 157, 3) := by decide +kernel
theorem dX10_told_204 : decode cX10_told 204 = .ok (.ireturn, 1) := by decide +kernel
theorem dX10_told_205 : decode cX10_told 205 = .ok (.aload_n 0, 1) := by decide +kernel
theorem dX10_told_206 : decode cX10_told 206 = .ok (.getfield 55, 3) := by decide +kernel
theorem dX10_told_209 : decode cX10_told 209 = .ok (.getfield 160, 3) := by decide +kernel
theorem dX10_told_212 : decode cX10_told 212 = .ok (.ireturn, 1) := by decide +kernel
theorem dX10_told_213 : decode cX10_told 213 = .ok (.aload_n 0, 1) := by decide +kernel
theorem dX10_told_214 : decode cX10_told 214 = .ok (.iload_n 1, 1) := by decide +kernel
theorem dX10_told_215 : decode cX10_told 215 = .ok (.invokevirtual 163, 3) := by decide +kernel
theorem dX10_told_218 : decode cX10_told 218 = .ok (.ireturn, 1) := by decide +kernel
theorem dX10_told_219 : decode cX10_told 219 = .ok (.aload_n 0, 1) := by decide +kernel
theorem dX10_told_220 : decode cX10_told 220 = .ok (.getfield 55, 3) := by decide +kernel
theorem dX10_told_223 : decode cX10_told 223 = .ok (.getfield 167, 3) := by decide +kernel
theorem dX10_told_226 : decode cX10_told 226 = .ok (.ireturn, 1) := by decide +kernel
theorem dX10_told_227 : decode cX10_told 227 = .ok (.aload_n 0, 1) := by decide +kernel
theorem dX10_told_228 : decode cX10_told 228 = .ok (.getfield 44, 3) := by decide +kernel
theorem dX10_told_231 : decode cX10_told 231 = .ok (.getfield 170, 3) := by decide +kernel
theorem dX10_told_234 : decode cX10_told 234 = .ok (.ireturn, 1) := by decide +kernel
theorem dX10_told_235 : decode cX10_told 235 = .ok (.ldc 87, 2) := by decide +kernel
theorem dX10_told_237 : decode cX10_told 237 = .ok (.ireturn, 1) := by decide +kernel
theorem dX10_singer_0 : decode cX10_singer 0 = .ok (.aload_n 0, 1) := by decide +kernel
theorem dX10_singer_1 : decode cX10_singer 1 = .ok (.getfield 28, 3) := by decide +kernel
theorem dX10_singer_4 : decode cX10_singer 4 = .ok (.iload_n 1, 1) := by decide +kernel
theorem dX10_singer_5 : decode cX10_singer 5 = .ok (.invokevirtual 173, 3) := by decide +kernel
theorem dX10_singer_8 : decode cX10_singer 8 = .ok (.ifCond .ne 6, 3) := by decide +kernel
theorem dX10_singer_11 : decode cX10_singer 11 = .ok (.ldc 176, 2) := by decide +kernel
theorem dX10_singer_13 : decode cX10_singer 13 = .ok (.ireturn, 1) := by decide +kernel
theorem dX10_singer_14 : decode cX10_singer 14 = .ok (.iload_n 2, 1) := by decide +kernel
theorem dX10_singer_15 : decode cX10_singer 15 = .ok (.tableswitch 103 0 5 #[37, 47, 57, 67, 77, 87], 37) := by decide +kernel
theorem dX10_singer_52 : decode cX10_singer 52 = .ok (.aload_n 0, 1) := by decide +kernel
theorem dX10_singer_53 : decode cX10_singer 53 = .ok (.getfield 28, 3) := by decide +kernel
theorem dX10_singer_56 : decode cX10_singer 56 = .ok (.getfield 177, 3) := by decide +kernel
theorem dX10_singer_59 : decode cX10_singer 59 = .ok (.iload_n 1, 1) := by decide +kernel
theorem dX10_singer_60 : decode cX10_singer 60 = .ok (.iaload, 1) := by decide +kernel
theorem dX10_singer_61 : decode cX10_singer 61 = .ok (.ireturn, 1) := by decide +kernel
theorem dX10_singer_62 : decode cX10_singer 62 = .ok (.aload_n 0, 1) := by decide +kernel
theorem dX10_singer_63 : decode cX10_singer 63 = .ok (.getfield 34, 3) := by decide +kernel
theorem dX10_singer_66 : decode cX10_singer 66 = .ok (.getfield 181, 3) := by decide +kernel
theorem dX10_singer_69 : decode cX10_singer 69 = .ok (.iload_n 1, 1) := by decide +kernel
theorem dX10_singer_70 : decode cX10_singer 70 = .ok (.iaload, 1) := by decide +kernel
theorem dX10_singer_71 : decode cX10_singer 71 = .ok (.ireturn, 1) := by decide +kernel
theorem dX10_singer_72 : decode cX10_singer 72 = .ok (.aload_n 0, 1) := by decide +kernel
theorem dX10_singer_73 : decode cX10_singer 73 = .ok (.getfield 34, 3) := by decide +kernel
theorem dX10_singer_76 : decode cX10_singer 76 = .ok (.getfield 184, 3) := by decide +kernel
theorem dX10_singer_79 : decode cX10_singer 79 = .ok (.iload_n 1, 1) := by decide +kernel
theorem dX10_singer_80 : decode cX10_singer 80 = .ok (.iaload, 1) := by decide +kernel
theorem dX10_singer_81 : decode cX10_singer 81 = .ok (.ireturn, 1) := by decide +kernel
theorem dX10_singer_82 : decode cX10_singer 82 = .ok (.aload_n 0, 1) := by decide +kernel
theorem dX10_singer_83 : decode cX10_singer 83 = .ok (.getfield 28, 3) := by decide +kernel
theorem dX10_singer_86 : decode cX10_singer 86 = .ok (.getfield 187, 3) := by decide +kernel
theorem dX10_singer_89 : decode cX10_singer 89 = .ok (.iload_n 1, 1) := by decide +kernel
theorem dX10_singer_90 : decode cX10_singer 90 = .ok (.iaload, 1) := by decide +kernel
theorem dX10_singer_91 : decode cX10_singer 91 = .ok (.ireturn, 1) := by decide +kernel
theorem dX10_singer_92 : decode cX10_singer 92 = .ok (.aload_n 0, 1) := by decide +kernel
theorem dX10_singer_93 : decode cX10_singer 93 = .ok (.getfield 34, 3) := by decide +kernel
theorem dX10_singer_96 : decode cX10_singer 96 = .ok (.getfield 190, 3) := by decide +kernel
theorem dX10_singer_99 : decode cX10_singer 99 = .ok (.iload_n 1, 1) := by decide +kernel
theorem dX10_singer_100 : decode cX10_singer 100 = .ok (.iaload, 1) := by decide +kernel
theorem dX10_singer_101 : decode cX10_singer 101 = .ok (.ireturn, 1) := by decide +kernel
theorem dX10_singer_102 : decode cX10_singer 102 = .ok (.aload_n 0, 1) := by decide +kernel
theorem dX10_singer_103 : decode cX10_singer 103 = .ok (.getfield 34, 3) := by decide +kernel
theorem dX10_singer_106 : decode cX10_singer 106 = .ok (.iload_n 1, 1) := by decide +kernel
theorem dX10_singer_107 : decode cX10_singer 107 = .ok (.aload_n 0, 1) := by decide +kernel
theorem dX10_singer_108 : decode cX10_singer 108 = .ok (.getfield 34, 3) := by decide +kernel
theorem dX10_singer_111 : decode cX10_singer 111 = .ok (.getfield 123, 3) := by decide +kernel
theorem dX10_singer_114 : decode cX10_singer 114 = .ok (.invokevirtual 193, 3) := by decide +kernel
theorem dX10_singer_117 : decode cX10_singer 117 = .ok (.ireturn, 1) := by decide +kernel
theorem dX10_singer_118 : decode cX10_singer 118 = .ok (.ldc 87, 2) := by decide +kernel
theorem dX10_singer_120 : decode cX10_singer 120 = .ok (.ireturn, 1) := by decide +kernel
theorem dX10_place_0 : decode cX10_place 0 = .ok (.aload_n 0, 1) := by decide +kernel
theorem dX10_place_1 : decode cX10_place 1 = .ok (.getfield 28, 3) := by decide +kernel
theorem dX10_place_4 : decode cX10_place 4 = .ok (.iload_n 1, 1) := by decide +kernel
theorem dX10_place_5 : decode cX10_place 5 = .ok (.invokevirtual 197, 3) := by decide +kernel
theorem dX10_place_8 : decode cX10_place 8 = .ok (.ifCond .ne 6, 3) := by decide +kernel
theorem dX10_place_11 : decode cX10_place 11 = .ok (.ldc 176, 2) := by decide +kernel
theorem dX10_place_13 : decode cX10_place 13 = .ok (.ireturn, 1) := by decide +kernel
theorem dX10_place_14 : decode cX10_place 14 = .ok (.iload_n 2, 1) := by decide +kernel
theorem dX10_place_15 : decode cX10_place 15 = .ok (.tableswitch 73 0 3 #[29, 38, 55, 64], 29) := by decide +kernel
theorem dX10_place_44 : decode cX10_place 44 = .ok (.aload_n 0, 1) := by decide +kernel
theorem dX10_place_45 : decode cX10_place 45 = .ok (.getfield 34, 3) := by decide +kernel
theorem dX10_place_48 : decode cX10_place 48 = .ok (.iload_n 1, 1) := by decide +kernel
theorem dX10_place_49 : decode cX10_place 49 = .ok (.invokevirtual 200, 3) := by decide +kernel
theorem dX10_place_52 : decode cX10_place 52 = .ok (.ireturn, 1) := by decide +kernel
theorem dX10_place_53 : decode cX10_place 53 = .ok (.aload_n 0, 1) := by decide +kernel
theorem dX10_place_54 : decode cX10_place 54 = .ok (.getfield 34, 3) := by decide +kernel
theorem dX10_place_57 : decode cX10_place 57 = .ok (.iload_n 1, 1) := by decide +kernel
theorem dX10_place_58 : decode cX10_place 58 = .ok (.invokevirtual 200, 3) := by decide +kernel
theorem dX10_place_61 : decode cX10_place 61 = .ok (.aload_n 0, 1) := by decide +kernel
theorem dX10_place_62 : decode cX10_place 62 = .ok (.getfield 34, 3) := by decide +kernel
theorem dX10_place_65 : decode cX10_place 65 = .ok (.invokevirtual 138, 3) := by decide +kernel
theorem dX10_place_68 : decode cX10_place 68 = .ok (.iand, 1) := by decide +kernel
theorem dX10_place_69 : decode cX10_place 69 = .ok (.ireturn, 1) := by decide +kernel
theorem dX10_place_70 : decode cX10_place 70 = .ok (.aload_n 0, 1) := by decide +kernel
theorem dX10_place_71 : decode cX10_place 71 = .ok (.getfield 34, 3) := by decide +kernel
theorem dX10_place_74 : decode cX10_place 74 = .ok (.iload_n 1, 1) := by decide +kernel
theorem dX10_place_75 : decode cX10_place 75 = .ok (.invokevirtual 203, 3) := by decide +kernel
theorem dX10_place_78 : decode cX10_place 78 = .ok (.ireturn, 1) := by decide +kernel
theorem dX10_place_79 : decode cX10_place 79 = .ok (.aload_n 0, 1) := by decide +kernel
theorem dX10_place_80 : decode cX10_place 80 = .ok (.getfield 34, 3) := by decide +kernel
theorem dX10_place_83 : decode cX10_place 83 = .ok (.iload_n 1, 1) := by decide +kernel
theorem dX10_place_84 : decode cX10_place 84 = .ok (.invokevirtual 206, 3) := by decide +kernel
theorem dX10_place_87 : decode cX10_place 87 = .ok (.ireturn, 1) := by decide +kernel
theorem dX10_place_88 : decode cX10_place 88 = .ok (.ldc 87, 2) := by decide +kernel
theorem dX10_place_90 : decode cX10_place 90 = .ok (.ireturn, 1) := by decide +kernel
theorem dX10_verse_0 : decode cX10_verse 0 = .ok (.aload_n 0, 1) := by decide +kernel
theorem dX10_verse_1 : decode cX10_verse 1 = .ok (.iload_n 1, 1) := by decide +kernel
theorem dX10_verse_2 : decode cX10_verse 2 = .ok (.invokevirtual 209, 3) := by decide +kernel
theorem dX10_verse_5 : decode cX10_verse 5 = .ok (.istore_n 2, 1) := by decide +kernel
theorem dX10_verse_6 : decode cX10_verse 6 = .ok (.iload_n 2, 1) := by decide +kernel
theorem dX10_verse_7 : decode cX10_verse 7 = .ok (.ifCond .eq 5, 3) := by decide +kernel
theorem dX10_verse_10 : decode cX10_verse 10 = .ok (.iload_n 2, 1) := by decide +kernel
theorem dX10_verse_11 : decode cX10_verse 11 = .ok (.ireturn, 1) := by decide +kernel
theorem dX10_verse_12 : decode cX10_verse 12 = .ok (.aload_n 0, 1) := by decide +kernel
theorem dX10_verse_13 : decode cX10_verse 13 = .ok (.getfield 44, 3) := by decide +kernel
theorem dX10_verse_16 : decode cX10_verse 16 = .ok (.aload_n 0, 1) := by decide +kernel
theorem dX10_verse_17 : decode cX10_verse 17 = .ok (.getfield 34, 3) := by decide +kernel
theorem dX10_verse_20 : decode cX10_verse 20 = .ok (.invokevirtual 212, 3) := by decide +kernel
theorem dX10_verse_23 : decode cX10_verse 23 = .ok (.iconst 0, 1) := by decide +kernel
theorem dX10_verse_24 : decode cX10_verse 24 = .ok (.istore_n 3, 1) := by decide +kernel
theorem dX10_verse_25 : decode cX10_verse 25 = .ok (.iload_n 3, 1) := by decide +kernel
theorem dX10_verse_26 : decode cX10_verse 26 = .ok (.iload_n 1, 1) := by decide +kernel
theorem dX10_verse_27 : decode cX10_verse 27 = .ok (.if_icmp .ge 16, 3) := by decide +kernel
theorem dX10_verse_30 : decode cX10_verse 30 = .ok (.aload_n 0, 1) := by decide +kernel
theorem dX10_verse_31 : decode cX10_verse 31 = .ok (.getfield 34, 3) := by decide +kernel
theorem dX10_verse_34 : decode cX10_verse 34 = .ok (.invokevirtual 216, 3) := by decide +kernel
theorem dX10_verse_37 : decode cX10_verse 37 = .ok (.iinc 3 1, 3) := by decide +kernel
theorem dX10_verse_40 : decode cX10_verse 40 = .ok (.goto (-15), 3) := by decide +kernel
theorem dX10_verse_43 : decode cX10_verse 43 = .ok (.aload_n 0, 1) := by decide +kernel
theorem dX10_verse_44 : decode cX10_verse 44 = .ok (.getfield 34, 3) := by decide +kernel
theorem dX10_verse_47 : decode cX10_verse 47 = .ok (.getfield 142, 3) := by decide +kernel
theorem dX10_verse_50 : decode cX10_verse 50 = .ok (.ireturn, 1) := by decide +kernel
theorem dX10_join_0 : decode cX10_join 0 = .ok (.aload_n 0, 1) := by decide +kernel
theorem dX10_join_1 : decode cX10_join 1 = .ok (.getfield 28, 3) := by decide +kernel
theorem dX10_join_4 : decode cX10_join 4 = .ok (.iload_n 1, 1) := by decide +kernel
theorem dX10_join_5 : decode cX10_join 5 = .ok (.invokevirtual 173, 3) := by decide +kernel
theorem dX10_join_8 : decode cX10_join 8 = .ok (.ifCond .ne 6, 3) := by decide +kernel
theorem dX10_join_11 : decode cX10_join 11 = .ok (.ldc 176, 2) := by decide +kernel
theorem dX10_join_13 : decode cX10_join 13 = .ok (.ireturn, 1) := by decide +kernel
theorem dX10_join_14 : decode cX10_join 14 = .ok (.aload_n 0, 1) := by decide +kernel
theorem dX10_join_15 : decode cX10_join 15 = .ok (.getfield 34, 3) := by decide +kernel
theorem dX10_join_18 : decode cX10_join 18 = .ok (.iload_n 1, 1) := by decide +kernel
theorem dX10_join_19 : decode cX10_join 19 = .ok (.invokevirtual 219, 3) := by decide +kernel
theorem dX10_join_22 : decode cX10_join 22 = .ok (.ifCond .eq 6, 3) := by decide +kernel
theorem dX10_join_25 : decode cX10_join 25 = .ok (.ldc 222, 2) := by decide +kernel
theorem dX10_join_27 : decode cX10_join 27 = .ok (.ireturn, 1) := by decide +kernel
theorem dX10_join_28 : decode cX10_join 28 = .ok (.aload_n 0, 1) := by decide +kernel
theorem dX10_join_29 : decode cX10_join 29 = .ok (.getfield 44, 3) := by decide +kernel
theorem dX10_join_32 : decode cX10_join 32 = .ok (.aload_n 0, 1) := by decide +kernel
theorem dX10_join_33 : decode cX10_join 33 = .ok (.getfield 34, 3) := by decide +kernel
theorem dX10_join_36 : decode cX10_join 36 = .ok (.invokevirtual 212, 3) := by decide +kernel
theorem dX10_join_39 : decode cX10_join 39 = .ok (.aload_n 0, 1) := by decide +kernel
theorem dX10_join_40 : decode cX10_join 40 = .ok (.getfield 34, 3) := by decide +kernel
theorem dX10_join_43 : decode cX10_join 43 = .ok (.iload_n 1, 1) := by decide +kernel
theorem dX10_join_44 : decode cX10_join 44 = .ok (.invokevirtual 223, 3) := by decide +kernel
theorem dX10_join_47 : decode cX10_join 47 = .ok (.aload_n 0, 1) := by decide +kernel
theorem dX10_join_48 : decode cX10_join 48 = .ok (.getfield 34, 3) := by decide +kernel
theorem dX10_join_51 : decode cX10_join 51 = .ok (.getfield 190, 3) := by decide +kernel
theorem dX10_join_54 : decode cX10_join 54 = .ok (.iload_n 1, 1) := by decide +kernel
theorem dX10_join_55 : decode cX10_join 55 = .ok (.iaload, 1) := by decide +kernel
theorem dX10_join_56 : decode cX10_join 56 = .ok (.ireturn, 1) := by decide +kernel
theorem dX10_hush_0 : decode cX10_hush 0 = .ok (.aload_n 0, 1) := by decide +kernel
theorem dX10_hush_1 : decode cX10_hush 1 = .ok (.getfield 28, 3) := by decide +kernel
theorem dX10_hush_4 : decode cX10_hush 4 = .ok (.iload_n 1, 1) := by decide +kernel
theorem dX10_hush_5 : decode cX10_hush 5 = .ok (.invokevirtual 173, 3) := by decide +kernel
theorem dX10_hush_8 : decode cX10_hush 8 = .ok (.ifCond .ne 6, 3) := by decide +kernel
theorem dX10_hush_11 : decode cX10_hush 11 = .ok (.ldc 176, 2) := by decide +kernel
theorem dX10_hush_13 : decode cX10_hush 13 = .ok (.ireturn, 1) := by decide +kernel
theorem dX10_hush_14 : decode cX10_hush 14 = .ok (.aload_n 0, 1) := by decide +kernel
theorem dX10_hush_15 : decode cX10_hush 15 = .ok (.getfield 34, 3) := by decide +kernel
theorem dX10_hush_18 : decode cX10_hush 18 = .ok (.iload_n 1, 1) := by decide +kernel
theorem dX10_hush_19 : decode cX10_hush 19 = .ok (.invokevirtual 219, 3) := by decide +kernel
theorem dX10_hush_22 : decode cX10_hush 22 = .ok (.ifCond .ne 6, 3) := by decide +kernel
theorem dX10_hush_25 : decode cX10_hush 25 = .ok (.ldc 222, 2) := by decide +kernel
theorem dX10_hush_27 : decode cX10_hush 27 = .ok (.ireturn, 1) := by decide +kernel
theorem dX10_hush_28 : decode cX10_hush 28 = .ok (.aload_n 0, 1) := by decide +kernel
theorem dX10_hush_29 : decode cX10_hush 29 = .ok (.getfield 44, 3) := by decide +kernel
theorem dX10_hush_32 : decode cX10_hush 32 = .ok (.aload_n 0, 1) := by decide +kernel
theorem dX10_hush_33 : decode cX10_hush 33 = .ok (.getfield 34, 3) := by decide +kernel
theorem dX10_hush_36 : decode cX10_hush 36 = .ok (.invokevirtual 212, 3) := by decide +kernel
theorem dX10_hush_39 : decode cX10_hush 39 = .ok (.aload_n 0, 1) := by decide +kernel
theorem dX10_hush_40 : decode cX10_hush 40 = .ok (.getfield 34, 3) := by decide +kernel
theorem dX10_hush_43 : decode cX10_hush 43 = .ok (.iload_n 1, 1) := by decide +kernel
theorem dX10_hush_44 : decode cX10_hush 44 = .ok (.invokevirtual 227, 3) := by decide +kernel
theorem dX10_hush_47 : decode cX10_hush 47 = .ok (.aload_n 0, 1) := by decide +kernel
theorem dX10_hush_48 : decode cX10_hush 48 = .ok (.getfield 34, 3) := by decide +kernel
theorem dX10_hush_51 : decode cX10_hush 51 = .ok (.aload_n 0, 1) := by decide +kernel
theorem dX10_hush_52 : decode cX10_hush 52 = .ok (.getfield 34, 3) := by decide +kernel
theorem dX10_hush_55 : decode cX10_hush 55 = .ok (.getfield 181, 3) := by decide +kernel
theorem dX10_hush_58 : decode cX10_hush 58 = .ok (.iload_n 1, 1) := by decide +kernel
theorem dX10_hush_59 : decode cX10_hush 59 = .ok (.iaload, 1) := by decide +kernel
theorem dX10_hush_60 : decode cX10_hush 60 = .ok (.invokevirtual 230, 3) := by decide +kernel
theorem dX10_hush_63 : decode cX10_hush 63 = .ok (.ireturn, 1) := by decide +kernel
theorem dX10_go_0 : decode cX10_go 0 = .ok (.aload_n 0, 1) := by decide +kernel
theorem dX10_go_1 : decode cX10_go 1 = .ok (.getfield 28, 3) := by decide +kernel
theorem dX10_go_4 : decode cX10_go 4 = .ok (.iload_n 1, 1) := by decide +kernel
theorem dX10_go_5 : decode cX10_go 5 = .ok (.invokevirtual 173, 3) := by decide +kernel
theorem dX10_go_8 : decode cX10_go 8 = .ok (.ifCond .eq 14, 3) := by decide +kernel
theorem dX10_go_11 : decode cX10_go 11 = .ok (.aload_n 0, 1) := by decide +kernel
theorem dX10_go_12 : decode cX10_go 12 = .ok (.getfield 28, 3) := by decide +kernel
theorem dX10_go_15 : decode cX10_go 15 = .ok (.iload_n 2, 1) := by decide +kernel
theorem dX10_go_16 : decode cX10_go 16 = .ok (.invokevirtual 197, 3) := by decide +kernel
theorem dX10_go_19 : decode cX10_go 19 = .ok (.ifCond .ne 6, 3) := by decide +kernel
theorem dX10_go_22 : decode cX10_go 22 = .ok (.ldc 176, 2) := by decide +kernel
theorem dX10_go_24 : decode cX10_go 24 = .ok (.ireturn, 1) := by decide +kernel
theorem dX10_go_25 : decode cX10_go 25 = .ok (.aload_n 0, 1) := by decide +kernel
theorem dX10_go_26 : decode cX10_go 26 = .ok (.getfield 34, 3) := by decide +kernel
theorem dX10_go_29 : decode cX10_go 29 = .ok (.getfield 181, 3) := by decide +kernel
theorem dX10_go_32 : decode cX10_go 32 = .ok (.iload_n 1, 1) := by decide +kernel
theorem dX10_go_33 : decode cX10_go 33 = .ok (.iaload, 1) := by decide +kernel
theorem dX10_go_34 : decode cX10_go 34 = .ok (.istore_n 3, 1) := by decide +kernel
theorem dX10_go_35 : decode cX10_go 35 = .ok (.iload_n 3, 1) := by decide +kernel
theorem dX10_go_36 : decode cX10_go 36 = .ok (.iload_n 2, 1) := by decide +kernel
theorem dX10_go_37 : decode cX10_go 37 = .ok (.if_icmp .ne 6, 3) := by decide +kernel
theorem dX10_go_40 : decode cX10_go 40 = .ok (.ldc 222, 2) := by decide +kernel
theorem dX10_go_42 : decode cX10_go 42 = .ok (.ireturn, 1) := by decide +kernel
theorem dX10_go_43 : decode cX10_go 43 = .ok (.aload_n 0, 1) := by decide +kernel
theorem dX10_go_44 : decode cX10_go 44 = .ok (.getfield 44, 3) := by decide +kernel
theorem dX10_go_47 : decode cX10_go 47 = .ok (.aload_n 0, 1) := by decide +kernel
theorem dX10_go_48 : decode cX10_go 48 = .ok (.getfield 34, 3) := by decide +kernel
theorem dX10_go_51 : decode cX10_go 51 = .ok (.invokevirtual 212, 3) := by decide +kernel
theorem dX10_go_54 : decode cX10_go 54 = .ok (.aload_n 0, 1) := by decide +kernel
theorem dX10_go_55 : decode cX10_go 55 = .ok (.getfield 34, 3) := by decide +kernel
theorem dX10_go_58 : decode cX10_go 58 = .ok (.iload_n 1, 1) := by decide +kernel
theorem dX10_go_59 : decode cX10_go 59 = .ok (.iload_n 2, 1) := by decide +kernel
theorem dX10_go_60 : decode cX10_go 60 = .ok (.invokevirtual 233, 3) := by decide +kernel
theorem dX10_go_63 : decode cX10_go 63 = .ok (.iload_n 3, 1) := by decide +kernel
theorem dX10_go_64 : decode cX10_go 64 = .ok (.ireturn, 1) := by decide +kernel
theorem dX10_give_0 : decode cX10_give 0 = .ok (.aload_n 0, 1) := by decide +kernel
theorem dX10_give_1 : decode cX10_give 1 = .ok (.getfield 28, 3) := by decide +kernel
theorem dX10_give_4 : decode cX10_give 4 = .ok (.iload_n 1, 1) := by decide +kernel
theorem dX10_give_5 : decode cX10_give 5 = .ok (.invokevirtual 173, 3) := by decide +kernel
theorem dX10_give_8 : decode cX10_give 8 = .ok (.ifCond .ne 6, 3) := by decide +kernel
theorem dX10_give_11 : decode cX10_give 11 = .ok (.ldc 176, 2) := by decide +kernel
theorem dX10_give_13 : decode cX10_give 13 = .ok (.ireturn, 1) := by decide +kernel
theorem dX10_give_14 : decode cX10_give 14 = .ok (.iload_n 2, 1) := by decide +kernel
theorem dX10_give_15 : decode cX10_give 15 = .ok (.iconst 1, 1) := by decide +kernel
theorem dX10_give_16 : decode cX10_give 16 = .ok (.if_icmp .lt 10, 3) := by decide +kernel
theorem dX10_give_19 : decode cX10_give 19 = .ok (.iload_n 2, 1) := by decide +kernel
theorem dX10_give_20 : decode cX10_give 20 = .ok (.sipush 999, 3) := by decide +kernel
theorem dX10_give_23 : decode cX10_give 23 = .ok (.if_icmp .le 6, 3) := by decide +kernel
theorem dX10_give_26 : decode cX10_give 26 = .ok (.ldc 87, 2) := by decide +kernel
theorem dX10_give_28 : decode cX10_give 28 = .ok (.ireturn, 1) := by decide +kernel
theorem dX10_give_29 : decode cX10_give 29 = .ok (.aload_n 0, 1) := by decide +kernel
theorem dX10_give_30 : decode cX10_give 30 = .ok (.getfield 44, 3) := by decide +kernel
theorem dX10_give_33 : decode cX10_give 33 = .ok (.aload_n 0, 1) := by decide +kernel
theorem dX10_give_34 : decode cX10_give 34 = .ok (.getfield 34, 3) := by decide +kernel
theorem dX10_give_37 : decode cX10_give 37 = .ok (.invokevirtual 212, 3) := by decide +kernel
theorem dX10_give_40 : decode cX10_give 40 = .ok (.aload_n 0, 1) := by decide +kernel
theorem dX10_give_41 : decode cX10_give 41 = .ok (.getfield 34, 3) := by decide +kernel
theorem dX10_give_44 : decode cX10_give 44 = .ok (.iload_n 1, 1) := by decide +kernel
theorem dX10_give_45 : decode cX10_give 45 = .ok (.iload_n 2, 1) := by decide +kernel
theorem dX10_give_46 : decode cX10_give 46 = .ok (.invokevirtual 237, 3) := by decide +kernel
theorem dX10_give_49 : decode cX10_give 49 = .ok (.aload_n 0, 1) := by decide +kernel
theorem dX10_give_50 : decode cX10_give 50 = .ok (.getfield 34, 3) := by decide +kernel
theorem dX10_give_53 : decode cX10_give 53 = .ok (.getfield 184, 3) := by decide +kernel
theorem dX10_give_56 : decode cX10_give 56 = .ok (.iload_n 1, 1) := by decide +kernel
theorem dX10_give_57 : decode cX10_give 57 = .ok (.iaload, 1) := by decide +kernel
theorem dX10_give_58 : decode cX10_give 58 = .ok (.ireturn, 1) := by decide +kernel
theorem dX10_rate_0 : decode cX10_rate 0 = .ok (.iload_n 1, 1) := by decide +kernel
theorem dX10_rate_1 : decode cX10_rate 1 = .ok (.iconst 1, 1) := by decide +kernel
theorem dX10_rate_2 : decode cX10_rate 2 = .ok (.if_icmp .lt 9, 3) := by decide +kernel
theorem dX10_rate_5 : decode cX10_rate 5 = .ok (.iload_n 1, 1) := by decide +kernel
theorem dX10_rate_6 : decode cX10_rate 6 = .ok (.bipush 9, 2) := by decide +kernel
theorem dX10_rate_8 : decode cX10_rate 8 = .ok (.if_icmp .le 6, 3) := by decide +kernel
theorem dX10_rate_11 : decode cX10_rate 11 = .ok (.ldc 87, 2) := by decide +kernel
theorem dX10_rate_13 : decode cX10_rate 13 = .ok (.ireturn, 1) := by decide +kernel
theorem dX10_rate_14 : decode cX10_rate 14 = .ok (.aload_n 0, 1) := by decide +kernel
theorem dX10_rate_15 : decode cX10_rate 15 = .ok (.getfield 28, 3) := by decide +kernel
theorem dX10_rate_18 : decode cX10_rate 18 = .ok (.invokevirtual 240, 3) := by decide +kernel
theorem dX10_rate_21 : decode cX10_rate 21 = .ok (.ifCond .eq 6, 3) := by decide +kernel
theorem dX10_rate_24 : decode cX10_rate 24 = .ok (.ldc 222, 2) := by decide +kernel
theorem dX10_rate_26 : decode cX10_rate 26 = .ok (.ireturn, 1) := by decide +kernel
theorem dX10_rate_27 : decode cX10_rate 27 = .ok (.aload_n 0, 1) := by decide +kernel
theorem dX10_rate_28 : decode cX10_rate 28 = .ok (.getfield 34, 3) := by decide +kernel
theorem dX10_rate_31 : decode cX10_rate 31 = .ok (.getfield 123, 3) := by decide +kernel
theorem dX10_rate_34 : decode cX10_rate 34 = .ok (.istore_n 2, 1) := by decide +kernel
theorem dX10_rate_35 : decode cX10_rate 35 = .ok (.aload_n 0, 1) := by decide +kernel
theorem dX10_rate_36 : decode cX10_rate 36 = .ok (.getfield 44, 3) := by decide +kernel
theorem dX10_rate_39 : decode cX10_rate 39 = .ok (.aload_n 0, 1) := by decide +kernel
theorem dX10_rate_40 : decode cX10_rate 40 = .ok (.getfield 34, 3) := by decide +kernel
theorem dX10_rate_43 : decode cX10_rate 43 = .ok (.invokevirtual 212, 3) := by decide +kernel
theorem dX10_rate_46 : decode cX10_rate 46 = .ok (.aload_n 0, 1) := by decide +kernel
theorem dX10_rate_47 : decode cX10_rate 47 = .ok (.getfield 34, 3) := by decide +kernel
theorem dX10_rate_50 : decode cX10_rate 50 = .ok (.iload_n 1, 1) := by decide +kernel
theorem dX10_rate_51 : decode cX10_rate 51 = .ok (.putfield 123, 3) := by decide +kernel
theorem dX10_rate_54 : decode cX10_rate 54 = .ok (.iload_n 2, 1) := by decide +kernel
theorem dX10_rate_55 : decode cX10_rate 55 = .ok (.ireturn, 1) := by decide +kernel
theorem dX10_inspect_0 : decode cX10_inspect 0 = .ok (.aload_n 0, 1) := by decide +kernel
theorem dX10_inspect_1 : decode cX10_inspect 1 = .ok (.getfield 28, 3) := by decide +kernel
theorem dX10_inspect_4 : decode cX10_inspect 4 = .ok (.iload_n 1, 1) := by decide +kernel
theorem dX10_inspect_5 : decode cX10_inspect 5 = .ok (.invokevirtual 244, 3) := by decide +kernel
theorem dX10_inspect_8 : decode cX10_inspect 8 = .ok (.ifCond .eq 14, 3) := by decide +kernel
theorem dX10_inspect_11 : decode cX10_inspect 11 = .ok (.aload_n 0, 1) := by decide +kernel
theorem dX10_inspect_12 : decode cX10_inspect 12 = .ok (.getfield 28, 3) := by decide +kernel
theorem dX10_inspect_15 : decode cX10_inspect 15 = .ok (.iload_n 2, 1) := by decide +kernel
theorem dX10_inspect_16 : decode cX10_inspect 16 = .ok (.invokevirtual 197, 3) := by decide +kernel
theorem dX10_inspect_19 : decode cX10_inspect 19 = .ok (.ifCond .ne 6, 3) := by decide +kernel
theorem dX10_inspect_22 : decode cX10_inspect 22 = .ok (.ldc 176, 2) := by decide +kernel
theorem dX10_inspect_24 : decode cX10_inspect 24 = .ok (.ireturn, 1) := by decide +kernel
theorem dX10_inspect_25 : decode cX10_inspect 25 = .ok (.aload_n 0, 1) := by decide +kernel
theorem dX10_inspect_26 : decode cX10_inspect 26 = .ok (.getfield 34, 3) := by decide +kernel
theorem dX10_inspect_29 : decode cX10_inspect 29 = .ok (.getfield 247, 3) := by decide +kernel
theorem dX10_inspect_32 : decode cX10_inspect 32 = .ok (.iload_n 1, 1) := by decide +kernel
theorem dX10_inspect_33 : decode cX10_inspect 33 = .ok (.iaload, 1) := by decide +kernel
theorem dX10_inspect_34 : decode cX10_inspect 34 = .ok (.istore_n 3, 1) := by decide +kernel
theorem dX10_inspect_35 : decode cX10_inspect 35 = .ok (.iload_n 3, 1) := by decide +kernel
theorem dX10_inspect_36 : decode cX10_inspect 36 = .ok (.iload_n 2, 1) := by decide +kernel
theorem dX10_inspect_37 : decode cX10_inspect 37 = .ok (.if_icmp .ne 6, 3) := by decide +kernel
theorem dX10_inspect_40 : decode cX10_inspect 40 = .ok (.ldc 222, 2) := by decide +kernel
theorem dX10_inspect_42 : decode cX10_inspect 42 = .ok (.ireturn, 1) := by decide +kernel
theorem dX10_inspect_43 : decode cX10_inspect 43 = .ok (.aload_n 0, 1) := by decide +kernel
theorem dX10_inspect_44 : decode cX10_inspect 44 = .ok (.getfield 44, 3) := by decide +kernel
theorem dX10_inspect_47 : decode cX10_inspect 47 = .ok (.aload_n 0, 1) := by decide +kernel
theorem dX10_inspect_48 : decode cX10_inspect 48 = .ok (.getfield 34, 3) := by decide +kernel
theorem dX10_inspect_51 : decode cX10_inspect 51 = .ok (.invokevirtual 212, 3) := by decide +kernel
theorem dX10_inspect_54 : decode cX10_inspect 54 = .ok (.aload_n 0, 1) := by decide +kernel
theorem dX10_inspect_55 : decode cX10_inspect 55 = .ok (.getfield 34, 3) := by decide +kernel
theorem dX10_inspect_58 : decode cX10_inspect 58 = .ok (.getfield 247, 3) := by decide +kernel
theorem dX10_inspect_61 : decode cX10_inspect 61 = .ok (.iload_n 1, 1) := by decide +kernel
theorem dX10_inspect_62 : decode cX10_inspect 62 = .ok (.iload_n 2, 1) := by decide +kernel
theorem dX10_inspect_63 : decode cX10_inspect 63 = .ok (.iastore, 1) := by decide +kernel
theorem dX10_inspect_64 : decode cX10_inspect 64 = .ok (.iload_n 3, 1) := by decide +kernel
theorem dX10_inspect_65 : decode cX10_inspect 65 = .ok (.ireturn, 1) := by decide +kernel
theorem dX10_drift_0 : decode cX10_drift 0 = .ok (.aload_n 0, 1) := by decide +kernel
theorem dX10_drift_1 : decode cX10_drift 1 = .ok (.iload_n 1, 1) := by decide +kernel
theorem dX10_drift_2 : decode cX10_drift 2 = .ok (.invokevirtual 209, 3) := by decide +kernel
theorem dX10_drift_5 : decode cX10_drift 5 = .ok (.istore_n 2, 1) := by decide +kernel
theorem dX10_drift_6 : decode cX10_drift 6 = .ok (.iload_n 2, 1) := by decide +kernel
theorem dX10_drift_7 : decode cX10_drift 7 = .ok (.ifCond .eq 5, 3) := by decide +kernel
theorem dX10_drift_10 : decode cX10_drift 10 = .ok (.iload_n 2, 1) := by decide +kernel
theorem dX10_drift_11 : decode cX10_drift 11 = .ok (.ireturn, 1) := by decide +kernel
theorem dX10_drift_12 : decode cX10_drift 12 = .ok (.aload_n 0, 1) := by decide +kernel
theorem dX10_drift_13 : decode cX10_drift 13 = .ok (.getfield 44, 3) := by decide +kernel
theorem dX10_drift_16 : decode cX10_drift 16 = .ok (.aload_n 0, 1) := by decide +kernel
theorem dX10_drift_17 : decode cX10_drift 17 = .ok (.getfield 34, 3) := by decide +kernel
theorem dX10_drift_20 : decode cX10_drift 20 = .ok (.invokevirtual 212, 3) := by decide +kernel
theorem dX10_drift_23 : decode cX10_drift 23 = .ok (.iconst 0, 1) := by decide +kernel
theorem dX10_drift_24 : decode cX10_drift 24 = .ok (.istore_n 3, 1) := by decide +kernel
theorem dX10_drift_25 : decode cX10_drift 25 = .ok (.iload_n 3, 1) := by decide +kernel
theorem dX10_drift_26 : decode cX10_drift 26 = .ok (.iload_n 1, 1) := by decide +kernel
theorem dX10_drift_27 : decode cX10_drift 27 = .ok (.if_icmp .ge 20, 3) := by decide +kernel
theorem dX10_drift_30 : decode cX10_drift 30 = .ok (.aload_n 0, 1) := by decide +kernel
theorem dX10_drift_31 : decode cX10_drift 31 = .ok (.invokevirtual 250, 3) := by decide +kernel
theorem dX10_drift_34 : decode cX10_drift 34 = .ok (.aload_n 0, 1) := by decide +kernel
theorem dX10_drift_35 : decode cX10_drift 35 = .ok (.getfield 34, 3) := by decide +kernel
theorem dX10_drift_38 : decode cX10_drift 38 = .ok (.invokevirtual 216, 3) := by decide +kernel
theorem dX10_drift_41 : decode cX10_drift 41 = .ok (.iinc 3 1, 3) := by decide +kernel
theorem dX10_drift_44 : decode cX10_drift 44 = .ok (.goto (-19), 3) := by decide +kernel
theorem dX10_drift_47 : decode cX10_drift 47 = .ok (.aload_n 0, 1) := by decide +kernel
theorem dX10_drift_48 : decode cX10_drift 48 = .ok (.getfield 34, 3) := by decide +kernel
theorem dX10_drift_51 : decode cX10_drift 51 = .ok (.getfield 142, 3) := by decide +kernel
theorem dX10_drift_54 : decode cX10_drift 54 = .ok (.ireturn, 1) := by decide +kernel
theorem dX10_undo_0 : decode cX10_undo 0 = .ok (.aload_n 0, 1) := by decide +kernel
theorem dX10_undo_1 : decode cX10_undo 1 = .ok (.getfield 44, 3) := by decide +kernel
theorem dX10_undo_4 : decode cX10_undo 4 = .ok (.aload_n 0, 1) := by decide +kernel
theorem dX10_undo_5 : decode cX10_undo 5 = .ok (.getfield 34, 3) := by decide +kernel
theorem dX10_undo_8 : decode cX10_undo 8 = .ok (.invokevirtual 253, 3) := by decide +kernel
theorem dX10_undo_11 : decode cX10_undo 11 = .ok (.ifCond .eq 13, 3) := by decide +kernel
theorem dX10_undo_14 : decode cX10_undo 14 = .ok (.aload_n 0, 1) := by decide +kernel
theorem dX10_undo_15 : decode cX10_undo 15 = .ok (.getfield 44, 3) := by decide +kernel
theorem dX10_undo_18 : decode cX10_undo 18 = .ok (.getfield 170, 3) := by decide +kernel
theorem dX10_undo_21 : decode cX10_undo 21 = .ok (.goto 5, 3) := by decide +kernel
theorem dX10_undo_24 : decode cX10_undo 24 = .ok (.ldc 222, 2) := by decide +kernel
theorem dX10_undo_26 : decode cX10_undo 26 = .ok (.ireturn, 1) := by decide +kernel
theorem dX10_treasury_0 : decode cX10_treasury 0 = .ok (.iload_n 1, 1) := by decide +kernel
theorem dX10_treasury_1 : decode cX10_treasury 1 = .ok (.ifCond .lt 10, 3) := by decide +kernel
theorem dX10_treasury_4 : decode cX10_treasury 4 = .ok (.iload_n 1, 1) := by decide +kernel
theorem dX10_treasury_5 : decode cX10_treasury 5 = .ok (.sipush 200, 3) := by decide +kernel
theorem dX10_treasury_8 : decode cX10_treasury 8 = .ok (.if_icmp .le 6, 3) := by decide +kernel
theorem dX10_treasury_11 : decode cX10_treasury 11 = .ok (.ldc 87, 2) := by decide +kernel
theorem dX10_treasury_13 : decode cX10_treasury 13 = .ok (.ireturn, 1) := by decide +kernel
theorem dX10_treasury_14 : decode cX10_treasury 14 = .ok (.aload_n 0, 1) := by decide +kernel
theorem dX10_treasury_15 : decode cX10_treasury 15 = .ok (.getfield 28, 3) := by decide +kernel
theorem dX10_treasury_18 : decode cX10_treasury 18 = .ok (.invokevirtual 240, 3) := by decide +kernel
theorem dX10_treasury_21 : decode cX10_treasury 21 = .ok (.ifCond .eq 6, 3) := by decide +kernel
theorem dX10_treasury_24 : decode cX10_treasury 24 = .ok (.ldc 222, 2) := by decide +kernel
theorem dX10_treasury_26 : decode cX10_treasury 26 = .ok (.ireturn, 1) := by decide +kernel
theorem dX10_treasury_27 : decode cX10_treasury 27 = .ok (.aload_n 0, 1) := by decide +kernel
theorem dX10_treasury_28 : decode cX10_treasury 28 = .ok (.getfield 38, 3) := by decide +kernel
theorem dX10_treasury_31 : decode cX10_treasury 31 = .ok (.aload_n 0, 1) := by decide +kernel
theorem dX10_treasury_32 : decode cX10_treasury 32 = .ok (.getfield 34, 3) := by decide +kernel
theorem dX10_treasury_35 : decode cX10_treasury 35 = .ok (.invokevirtual 257, 3) := by decide +kernel
theorem dX10_treasury_38 : decode cX10_treasury 38 = .ok (.iconst 0, 1) := by decide +kernel
theorem dX10_treasury_39 : decode cX10_treasury 39 = .ok (.istore_n 2, 1) := by decide +kernel
theorem dX10_treasury_40 : decode cX10_treasury 40 = .ok (.iload_n 2, 1) := by decide +kernel
theorem dX10_treasury_41 : decode cX10_treasury 41 = .ok (.iload_n 1, 1) := by decide +kernel
theorem dX10_treasury_42 : decode cX10_treasury 42 = .ok (.if_icmp .ge 16, 3) := by decide +kernel
theorem dX10_treasury_45 : decode cX10_treasury 45 = .ok (.aload_n 0, 1) := by decide +kernel
theorem dX10_treasury_46 : decode cX10_treasury 46 = .ok (.getfield 38, 3) := by decide +kernel
theorem dX10_treasury_49 : decode cX10_treasury 49 = .ok (.invokevirtual 216, 3) := by decide +kernel
theorem dX10_treasury_52 : decode cX10_treasury 52 = .ok (.iinc 2 1, 3) := by decide +kernel
theorem dX10_treasury_55 : decode cX10_treasury 55 = .ok (.goto (-15), 3) := by decide +kernel
theorem dX10_treasury_58 : decode cX10_treasury 58 = .ok (.aload_n 0, 1) := by decide +kernel
theorem dX10_treasury_59 : decode cX10_treasury 59 = .ok (.getfield 38, 3) := by decide +kernel
theorem dX10_treasury_62 : decode cX10_treasury 62 = .ok (.getfield 142, 3) := by decide +kernel
theorem dX10_treasury_65 : decode cX10_treasury 65 = .ok (.ireturn, 1) := by decide +kernel
theorem dX10_lasts_0 : decode cX10_lasts 0 = .ok (.aload_n 0, 1) := by decide +kernel
theorem dX10_lasts_1 : decode cX10_lasts 1 = .ok (.getfield 28, 3) := by decide +kernel
theorem dX10_lasts_4 : decode cX10_lasts 4 = .ok (.iload_n 1, 1) := by decide +kernel
theorem dX10_lasts_5 : decode cX10_lasts 5 = .ok (.invokevirtual 173, 3) := by decide +kernel
theorem dX10_lasts_8 : decode cX10_lasts 8 = .ok (.ifCond .ne 6, 3) := by decide +kernel
theorem dX10_lasts_11 : decode cX10_lasts 11 = .ok (.ldc 176, 2) := by decide +kernel
theorem dX10_lasts_13 : decode cX10_lasts 13 = .ok (.ireturn, 1) := by decide +kernel
theorem dX10_lasts_14 : decode cX10_lasts 14 = .ok (.aload_n 0, 1) := by decide +kernel
theorem dX10_lasts_15 : decode cX10_lasts 15 = .ok (.getfield 38, 3) := by decide +kernel
theorem dX10_lasts_18 : decode cX10_lasts 18 = .ok (.aload_n 0, 1) := by decide +kernel
theorem dX10_lasts_19 : decode cX10_lasts 19 = .ok (.getfield 34, 3) := by decide +kernel
theorem dX10_lasts_22 : decode cX10_lasts 22 = .ok (.invokevirtual 257, 3) := by decide +kernel
theorem dX10_lasts_25 : decode cX10_lasts 25 = .ok (.iconst 0, 1) := by decide +kernel
theorem dX10_lasts_26 : decode cX10_lasts 26 = .ok (.istore_n 2, 1) := by decide +kernel
theorem dX10_lasts_27 : decode cX10_lasts 27 = .ok (.iload_n 2, 1) := by decide +kernel
theorem dX10_lasts_28 : decode cX10_lasts 28 = .ok (.sipush 500, 3) := by decide +kernel
theorem dX10_lasts_31 : decode cX10_lasts 31 = .ok (.if_icmp .gt 29, 3) := by decide +kernel
theorem dX10_lasts_34 : decode cX10_lasts 34 = .ok (.aload_n 0, 1) := by decide +kernel
theorem dX10_lasts_35 : decode cX10_lasts 35 = .ok (.getfield 38, 3) := by decide +kernel
theorem dX10_lasts_38 : decode cX10_lasts 38 = .ok (.iload_n 1, 1) := by decide +kernel
theorem dX10_lasts_39 : decode cX10_lasts 39 = .ok (.invokevirtual 219, 3) := by decide +kernel
theorem dX10_lasts_42 : decode cX10_lasts 42 = .ok (.ifCond .ne 5, 3) := by decide +kernel
theorem dX10_lasts_45 : decode cX10_lasts 45 = .ok (.iload_n 2, 1) := by decide +kernel
theorem dX10_lasts_46 : decode cX10_lasts 46 = .ok (.ireturn, 1) := by decide +kernel
theorem dX10_lasts_47 : decode cX10_lasts 47 = .ok (.aload_n 0, 1) := by decide +kernel
theorem dX10_lasts_48 : decode cX10_lasts 48 = .ok (.getfield 38, 3) := by decide +kernel
theorem dX10_lasts_51 : decode cX10_lasts 51 = .ok (.invokevirtual 216, 3) := by decide +kernel
theorem dX10_lasts_54 : decode cX10_lasts 54 = .ok (.iinc 2 1, 3) := by decide +kernel
theorem dX10_lasts_57 : decode cX10_lasts 57 = .ok (.goto (-30), 3) := by decide +kernel
theorem dX10_lasts_60 : decode cX10_lasts 60 = .ok (.iconst (-1), 1) := by decide +kernel
theorem dX10_lasts_61 : decode cX10_lasts 61 = .ok (.ireturn, 1) := by decide +kernel
theorem dX10_more_0 : decode cX10_more 0 = .ok (.aload_n 0, 1) := by decide +kernel
theorem dX10_more_1 : decode cX10_more 1 = .ok (.getfield 28, 3) := by decide +kernel
theorem dX10_more_4 : decode cX10_more 4 = .ok (.iload_n 1, 1) := by decide +kernel
theorem dX10_more_5 : decode cX10_more 5 = .ok (.invokevirtual 173, 3) := by decide +kernel
theorem dX10_more_8 : decode cX10_more 8 = .ok (.ifCond .eq 14, 3) := by decide +kernel
theorem dX10_more_11 : decode cX10_more 11 = .ok (.aload_n 0, 1) := by decide +kernel
theorem dX10_more_12 : decode cX10_more 12 = .ok (.getfield 28, 3) := by decide +kernel
theorem dX10_more_15 : decode cX10_more 15 = .ok (.iload_n 2, 1) := by decide +kernel
theorem dX10_more_16 : decode cX10_more 16 = .ok (.invokevirtual 197, 3) := by decide +kernel
theorem dX10_more_19 : decode cX10_more 19 = .ok (.ifCond .ne 6, 3) := by decide +kernel
theorem dX10_more_22 : decode cX10_more 22 = .ok (.ldc 176, 2) := by decide +kernel
theorem dX10_more_24 : decode cX10_more 24 = .ok (.ireturn, 1) := by decide +kernel
theorem dX10_more_25 : decode cX10_more 25 = .ok (.aload_n 0, 1) := by decide +kernel
theorem dX10_more_26 : decode cX10_more 26 = .ok (.getfield 34, 3) := by decide +kernel
theorem dX10_more_29 : decode cX10_more 29 = .ok (.iload_n 1, 1) := by decide +kernel
theorem dX10_more_30 : decode cX10_more 30 = .ok (.invokevirtual 219, 3) := by decide +kernel
theorem dX10_more_33 : decode cX10_more 33 = .ok (.ifCond .eq 6, 3) := by decide +kernel
theorem dX10_more_36 : decode cX10_more 36 = .ok (.ldc 222, 2) := by decide +kernel
theorem dX10_more_38 : decode cX10_more 38 = .ok (.ireturn, 1) := by decide +kernel
theorem dX10_more_39 : decode cX10_more 39 = .ok (.aload_n 0, 1) := by decide +kernel
theorem dX10_more_40 : decode cX10_more 40 = .ok (.getfield 34, 3) := by decide +kernel
theorem dX10_more_43 : decode cX10_more 43 = .ok (.aload_n 0, 1) := by decide +kernel
theorem dX10_more_44 : decode cX10_more 44 = .ok (.getfield 34, 3) := by decide +kernel
theorem dX10_more_47 : decode cX10_more 47 = .ok (.getfield 123, 3) := by decide +kernel
theorem dX10_more_50 : decode cX10_more 50 = .ok (.iload_n 1, 1) := by decide +kernel
theorem dX10_more_51 : decode cX10_more 51 = .ok (.aload_n 0, 1) := by decide +kernel
theorem dX10_more_52 : decode cX10_more 52 = .ok (.getfield 34, 3) := by decide +kernel
theorem dX10_more_55 : decode cX10_more 55 = .ok (.iload_n 2, 1) := by decide +kernel
theorem dX10_more_56 : decode cX10_more 56 = .ok (.invokevirtual 230, 3) := by decide +kernel
theorem dX10_more_59 : decode cX10_more 59 = .ok (.iload_n 2, 1) := by decide +kernel
theorem dX10_more_60 : decode cX10_more 60 = .ok (.invokevirtual 259, 3) := by decide +kernel
theorem dX10_more_63 : decode cX10_more 63 = .ok (.ireturn, 1) := by decide +kernel
theorem dX10_bears_0 : decode cX10_bears 0 = .ok (.aload_n 0, 1) := by decide +kernel
theorem dX10_bears_1 : decode cX10_bears 1 = .ok (.getfield 28, 3) := by decide +kernel
theorem dX10_bears_4 : decode cX10_bears 4 = .ok (.iload_n 1, 1) := by decide +kernel
theorem dX10_bears_5 : decode cX10_bears 5 = .ok (.invokevirtual 263, 3) := by decide +kernel
theorem dX10_bears_8 : decode cX10_bears 8 = .ok (.ifCond .eq 14, 3) := by decide +kernel
theorem dX10_bears_11 : decode cX10_bears 11 = .ok (.aload_n 0, 1) := by decide +kernel
theorem dX10_bears_12 : decode cX10_bears 12 = .ok (.getfield 28, 3) := by decide +kernel
theorem dX10_bears_15 : decode cX10_bears 15 = .ok (.iload_n 2, 1) := by decide +kernel
theorem dX10_bears_16 : decode cX10_bears 16 = .ok (.invokevirtual 197, 3) := by decide +kernel
theorem dX10_bears_19 : decode cX10_bears 19 = .ok (.ifCond .ne 6, 3) := by decide +kernel
theorem dX10_bears_22 : decode cX10_bears 22 = .ok (.ldc 176, 2) := by decide +kernel
theorem dX10_bears_24 : decode cX10_bears 24 = .ok (.ireturn, 1) := by decide +kernel
theorem dX10_bears_25 : decode cX10_bears 25 = .ok (.iload_n 3, 1) := by decide +kernel
theorem dX10_bears_26 : decode cX10_bears 26 = .ok (.ifCond .lt 8, 3) := by decide +kernel
theorem dX10_bears_29 : decode cX10_bears 29 = .ok (.iload_n 3, 1) := by decide +kernel
theorem dX10_bears_30 : decode cX10_bears 30 = .ok (.iconst 1, 1) := by decide +kernel
theorem dX10_bears_31 : decode cX10_bears 31 = .ok (.if_icmp .le 6, 3) := by decide +kernel
theorem dX10_bears_34 : decode cX10_bears 34 = .ok (.ldc 87, 2) := by decide +kernel
theorem dX10_bears_36 : decode cX10_bears 36 = .ok (.ireturn, 1) := by decide +kernel
theorem dX10_bears_37 : decode cX10_bears 37 = .ok (.aload_n 0, 1) := by decide +kernel
theorem dX10_bears_38 : decode cX10_bears 38 = .ok (.getfield 34, 3) := by decide +kernel
theorem dX10_bears_41 : decode cX10_bears 41 = .ok (.iload_n 1, 1) := by decide +kernel
theorem dX10_bears_42 : decode cX10_bears 42 = .ok (.iload_n 2, 1) := by decide +kernel
theorem dX10_bears_43 : decode cX10_bears 43 = .ok (.invokevirtual 266, 3) := by decide +kernel
theorem dX10_bears_46 : decode cX10_bears 46 = .ok (.istore 4, 2) := by decide +kernel
theorem dX10_bears_48 : decode cX10_bears 48 = .ok (.iload_n 3, 1) := by decide +kernel
theorem dX10_bears_49 : decode cX10_bears 49 = .ok (.ifCond .ne 11, 3) := by decide +kernel
theorem dX10_bears_52 : decode cX10_bears 52 = .ok (.iload 4, 2) := by decide +kernel
theorem dX10_bears_54 : decode cX10_bears 54 = .ok (.invokestatic 269, 3) := by decide +kernel
theorem dX10_bears_57 : decode cX10_bears 57 = .ok (.goto 5, 3) := by decide +kernel
theorem dX10_bears_60 : decode cX10_bears 60 = .ok (.iload 4, 2) := by decide +kernel
theorem dX10_bears_62 : decode cX10_bears 62 = .ok (.ireturn, 1) := by decide +kernel
theorem dX10_shared_0 : decode cX10_shared 0 = .ok (.aload_n 0, 1) := by decide +kernel
theorem dX10_shared_1 : decode cX10_shared 1 = .ok (.getfield 28, 3) := by decide +kernel
theorem dX10_shared_4 : decode cX10_shared 4 = .ok (.iload_n 1, 1) := by decide +kernel
theorem dX10_shared_5 : decode cX10_shared 5 = .ok (.invokevirtual 263, 3) := by decide +kernel
theorem dX10_shared_8 : decode cX10_shared 8 = .ok (.ifCond .ne 6, 3) := by decide +kernel
theorem dX10_shared_11 : decode cX10_shared 11 = .ok (.ldc 176, 2) := by decide +kernel
theorem dX10_shared_13 : decode cX10_shared 13 = .ok (.ireturn, 1) := by decide +kernel
theorem dX10_shared_14 : decode cX10_shared 14 = .ok (.iload_n 2, 1) := by decide +kernel
theorem dX10_shared_15 : decode cX10_shared 15 = .ok (.iconst (-1), 1) := by decide +kernel
theorem dX10_shared_16 : decode cX10_shared 16 = .ok (.if_icmp .eq 17, 3) := by decide +kernel
theorem dX10_shared_19 : decode cX10_shared 19 = .ok (.aload_n 0, 1) := by decide +kernel
theorem dX10_shared_20 : decode cX10_shared 20 = .ok (.getfield 28, 3) := by decide +kernel
theorem dX10_shared_23 : decode cX10_shared 23 = .ok (.iload_n 2, 1) := by decide +kernel
theorem dX10_shared_24 : decode cX10_shared 24 = .ok (.invokevirtual 274, 3) := by decide +kernel
theorem dX10_shared_27 : decode cX10_shared 27 = .ok (.ifCond .ne 6, 3) := by decide +kernel
theorem dX10_shared_30 : decode cX10_shared 30 = .ok (.ldc 87, 2) := by decide +kernel
theorem dX10_shared_32 : decode cX10_shared 32 = .ok (.ireturn, 1) := by decide +kernel
theorem dX10_shared_33 : decode cX10_shared 33 = .ok (.aload_n 0, 1) := by decide +kernel
theorem dX10_shared_34 : decode cX10_shared 34 = .ok (.getfield 28, 3) := by decide +kernel
theorem dX10_shared_37 : decode cX10_shared 37 = .ok (.invokevirtual 240, 3) := by decide +kernel
theorem dX10_shared_40 : decode cX10_shared 40 = .ok (.ifCond .eq 6, 3) := by decide +kernel
theorem dX10_shared_43 : decode cX10_shared 43 = .ok (.ldc 222, 2) := by decide +kernel
theorem dX10_shared_45 : decode cX10_shared 45 = .ok (.ireturn, 1) := by decide +kernel
theorem dX10_shared_46 : decode cX10_shared 46 = .ok (.aload_n 0, 1) := by decide +kernel
theorem dX10_shared_47 : decode cX10_shared 47 = .ok (.getfield 28, 3) := by decide +kernel
theorem dX10_shared_50 : decode cX10_shared 50 = .ok (.iload_n 1, 1) := by decide +kernel
theorem dX10_shared_51 : decode cX10_shared 51 = .ok (.invokevirtual 277, 3) := by decide +kernel
theorem dX10_shared_54 : decode cX10_shared 54 = .ok (.aload_n 0, 1) := by decide +kernel
theorem dX10_shared_55 : decode cX10_shared 55 = .ok (.getfield 28, 3) := by decide +kernel
theorem dX10_shared_58 : decode cX10_shared 58 = .ok (.invokevirtual 280, 3) := by decide +kernel
theorem dX10_shared_61 : decode cX10_shared 61 = .ok (.if_icmp .eq 5, 3) := by decide +kernel
theorem dX10_shared_64 : decode cX10_shared 64 = .ok (.iconst (-1), 1) := by decide +kernel
theorem dX10_shared_65 : decode cX10_shared 65 = .ok (.ireturn, 1) := by decide +kernel
theorem dX10_shared_66 : decode cX10_shared 66 = .ok (.aload_n 0, 1) := by decide +kernel
theorem dX10_shared_67 : decode cX10_shared 67 = .ok (.getfield 69, 3) := by decide +kernel
theorem dX10_shared_70 : decode cX10_shared 70 = .ok (.iload_n 1, 1) := by decide +kernel
theorem dX10_shared_71 : decode cX10_shared 71 = .ok (.invokevirtual 283, 3) := by decide +kernel
theorem dX10_shared_74 : decode cX10_shared 74 = .ok (.iload_n 2, 1) := by decide +kernel
theorem dX10_shared_75 : decode cX10_shared 75 = .ok (.iconst (-1), 1) := by decide +kernel
theorem dX10_shared_76 : decode cX10_shared 76 = .ok (.if_icmp .ne 13, 3) := by decide +kernel
theorem dX10_shared_79 : decode cX10_shared 79 = .ok (.aload_n 0, 1) := by decide +kernel
theorem dX10_shared_80 : decode cX10_shared 80 = .ok (.getfield 69, 3) := by decide +kernel
theorem dX10_shared_83 : decode cX10_shared 83 = .ok (.getfield 286, 3) := by decide +kernel
theorem dX10_shared_86 : decode cX10_shared 86 = .ok (.goto 12, 3) := by decide +kernel
theorem dX10_shared_89 : decode cX10_shared 89 = .ok (.aload_n 0, 1) := by decide +kernel
theorem dX10_shared_90 : decode cX10_shared 90 = .ok (.getfield 69, 3) := by decide +kernel
theorem dX10_shared_93 : decode cX10_shared 93 = .ok (.getfield 289, 3) := by decide +kernel
theorem dX10_shared_96 : decode cX10_shared 96 = .ok (.iload_n 2, 1) := by decide +kernel
theorem dX10_shared_97 : decode cX10_shared 97 = .ok (.iaload, 1) := by decide +kernel
theorem dX10_shared_98 : decode cX10_shared 98 = .ok (.ireturn, 1) := by decide +kernel
theorem dX10_groups_0 : decode cX10_groups 0 = .ok (.aload_n 0, 1) := by decide +kernel
theorem dX10_groups_1 : decode cX10_groups 1 = .ok (.getfield 28, 3) := by decide +kernel
theorem dX10_groups_4 : decode cX10_groups 4 = .ok (.iload_n 1, 1) := by decide +kernel
theorem dX10_groups_5 : decode cX10_groups 5 = .ok (.invokevirtual 263, 3) := by decide +kernel
theorem dX10_groups_8 : decode cX10_groups 8 = .ok (.ifCond .eq 19, 3) := by decide +kernel
theorem dX10_groups_11 : decode cX10_groups 11 = .ok (.iload_n 2, 1) := by decide +kernel
theorem dX10_groups_12 : decode cX10_groups 12 = .ok (.iconst (-1), 1) := by decide +kernel
theorem dX10_groups_13 : decode cX10_groups 13 = .ok (.if_icmp .eq 17, 3) := by decide +kernel
theorem dX10_groups_16 : decode cX10_groups 16 = .ok (.aload_n 0, 1) := by decide +kernel
theorem dX10_groups_17 : decode cX10_groups 17 = .ok (.getfield 28, 3) := by decide +kernel
theorem dX10_groups_20 : decode cX10_groups 20 = .ok (.iload_n 2, 1) := by decide +kernel
theorem dX10_groups_21 : decode cX10_groups 21 = .ok (.invokevirtual 173, 3) := by decide +kernel
theorem dX10_groups_24 : decode cX10_groups 24 = .ok (.ifCond .ne 6, 3) := by decide +kernel
theorem dX10_groups_27 : decode cX10_groups 27 = .ok (.ldc 176, 2) := by decide +kernel
theorem dX10_groups_29 : decode cX10_groups 29 = .ok (.ireturn, 1) := by decide +kernel
theorem dX10_groups_30 : decode cX10_groups 30 = .ok (.aload_n 0, 1) := by decide +kernel
theorem dX10_groups_31 : decode cX10_groups 31 = .ok (.getfield 28, 3) := by decide +kernel
theorem dX10_groups_34 : decode cX10_groups 34 = .ok (.invokevirtual 240, 3) := by decide +kernel
theorem dX10_groups_37 : decode cX10_groups 37 = .ok (.ifCond .eq 6, 3) := by decide +kernel
theorem dX10_groups_40 : decode cX10_groups 40 = .ok (.ldc 222, 2) := by decide +kernel
theorem dX10_groups_42 : decode cX10_groups 42 = .ok (.ireturn, 1) := by decide +kernel
theorem dX10_groups_43 : decode cX10_groups 43 = .ok (.aload_n 0, 1) := by decide +kernel
theorem dX10_groups_44 : decode cX10_groups 44 = .ok (.getfield 76, 3) := by decide +kernel
theorem dX10_groups_47 : decode cX10_groups 47 = .ok (.iload_n 1, 1) := by decide +kernel
theorem dX10_groups_48 : decode cX10_groups 48 = .ok (.aload_n 0, 1) := by decide +kernel
theorem dX10_groups_49 : decode cX10_groups 49 = .ok (.getfield 34, 3) := by decide +kernel
theorem dX10_groups_52 : decode cX10_groups 52 = .ok (.invokevirtual 292, 3) := by decide +kernel
theorem dX10_groups_55 : decode cX10_groups 55 = .ok (.iload_n 2, 1) := by decide +kernel
theorem dX10_groups_56 : decode cX10_groups 56 = .ok (.iconst (-1), 1) := by decide +kernel
theorem dX10_groups_57 : decode cX10_groups 57 = .ok (.if_icmp .ne 13, 3) := by decide +kernel
theorem dX10_groups_60 : decode cX10_groups 60 = .ok (.aload_n 0, 1) := by decide +kernel
theorem dX10_groups_61 : decode cX10_groups 61 = .ok (.getfield 76, 3) := by decide +kernel
theorem dX10_groups_64 : decode cX10_groups 64 = .ok (.getfield 296, 3) := by decide +kernel
theorem dX10_groups_67 : decode cX10_groups 67 = .ok (.goto 12, 3) := by decide +kernel
theorem dX10_groups_70 : decode cX10_groups 70 = .ok (.aload_n 0, 1) := by decide +kernel
theorem dX10_groups_71 : decode cX10_groups 71 = .ok (.getfield 76, 3) := by decide +kernel
theorem dX10_groups_74 : decode cX10_groups 74 = .ok (.getfield 299, 3) := by decide +kernel
theorem dX10_groups_77 : decode cX10_groups 77 = .ok (.iload_n 2, 1) := by decide +kernel
theorem dX10_groups_78 : decode cX10_groups 78 = .ok (.iaload, 1) := by decide +kernel
theorem dX10_groups_79 : decode cX10_groups 79 = .ok (.ireturn, 1) := by decide +kernel
theorem dX10_rates_0 : decode cX10_rates 0 = .ok (.iload_n 1, 1) := by decide +kernel
theorem dX10_rates_1 : decode cX10_rates 1 = .ok (.ifCond .lt 10, 3) := by decide +kernel
theorem dX10_rates_4 : decode cX10_rates 4 = .ok (.iload_n 1, 1) := by decide +kernel
theorem dX10_rates_5 : decode cX10_rates 5 = .ok (.ldc_w 302, 3) := by decide +kernel
theorem dX10_rates_8 : decode cX10_rates 8 = .ok (.if_icmp .le 6, 3) := by decide +kernel
theorem dX10_rates_11 : decode cX10_rates 11 = .ok (.ldc 87, 2) := by decide +kernel
theorem dX10_rates_13 : decode cX10_rates 13 = .ok (.ireturn, 1) := by decide +kernel
theorem dX10_rates_14 : decode cX10_rates 14 = .ok (.iconst 1, 1) := by decide +kernel
theorem dX10_rates_15 : decode cX10_rates 15 = .ok (.istore_n 2, 1) := by decide +kernel
theorem dX10_rates_16 : decode cX10_rates 16 = .ok (.iload_n 2, 1) := by decide +kernel
theorem dX10_rates_17 : decode cX10_rates 17 = .ok (.bipush 9, 2) := by decide +kernel
theorem dX10_rates_19 : decode cX10_rates 19 = .ok (.if_icmp .gt 23, 3) := by decide +kernel
theorem dX10_rates_22 : decode cX10_rates 22 = .ok (.aload_n 0, 1) := by decide +kernel
theorem dX10_rates_23 : decode cX10_rates 23 = .ok (.getfield 34, 3) := by decide +kernel
theorem dX10_rates_26 : decode cX10_rates 26 = .ok (.iload_n 2, 1) := by decide +kernel
theorem dX10_rates_27 : decode cX10_rates 27 = .ok (.invokevirtual 303, 3) := by decide +kernel
theorem dX10_rates_30 : decode cX10_rates 30 = .ok (.iload_n 1, 1) := by decide +kernel
theorem dX10_rates_31 : decode cX10_rates 31 = .ok (.if_icmp .lt 5, 3) := by decide +kernel
theorem dX10_rates_34 : decode cX10_rates 34 = .ok (.iload_n 2, 1) := by decide +kernel
theorem dX10_rates_35 : decode cX10_rates 35 = .ok (.ireturn, 1) := by decide +kernel
theorem dX10_rates_36 : decode cX10_rates 36 = .ok (.iinc 2 1, 3) := by decide +kernel
theorem dX10_rates_39 : decode cX10_rates 39 = .ok (.goto (-23), 3) := by decide +kernel
theorem dX10_rates_42 : decode cX10_rates 42 = .ok (.iconst (-1), 1) := by decide +kernel
theorem dX10_rates_43 : decode cX10_rates 43 = .ok (.ireturn, 1) := by decide +kernel
theorem dX10_dry_0 : decode cX10_dry 0 = .ok (.iload_n 1, 1) := by decide +kernel
theorem dX10_dry_1 : decode cX10_dry 1 = .ok (.ifCond .lt 19, 3) := by decide +kernel
theorem dX10_dry_4 : decode cX10_dry 4 = .ok (.iload_n 1, 1) := by decide +kernel
theorem dX10_dry_5 : decode cX10_dry 5 = .ok (.bipush 60, 2) := by decide +kernel
theorem dX10_dry_7 : decode cX10_dry 7 = .ok (.if_icmp .gt 13, 3) := by decide +kernel
theorem dX10_dry_10 : decode cX10_dry 10 = .ok (.iload_n 2, 1) := by decide +kernel
theorem dX10_dry_11 : decode cX10_dry 11 = .ok (.ifCond .lt 9, 3) := by decide +kernel
theorem dX10_dry_14 : decode cX10_dry 14 = .ok (.iload_n 2, 1) := by decide +kernel
theorem dX10_dry_15 : decode cX10_dry 15 = .ok (.bipush 100, 2) := by decide +kernel
theorem dX10_dry_17 : decode cX10_dry 17 = .ok (.if_icmp .le 6, 3) := by decide +kernel
theorem dX10_dry_20 : decode cX10_dry 20 = .ok (.ldc 87, 2) := by decide +kernel
theorem dX10_dry_22 : decode cX10_dry 22 = .ok (.ireturn, 1) := by decide +kernel
theorem dX10_dry_23 : decode cX10_dry 23 = .ok (.ldc2_w 306, 3) := by decide +kernel
theorem dX10_dry_26 : decode cX10_dry 26 = .ok (.lstore_n 3, 1) := by decide +kernel
theorem dX10_dry_27 : decode cX10_dry 27 = .ok (.iconst 0, 1) := by decide +kernel
theorem dX10_dry_28 : decode cX10_dry 28 = .ok (.istore 5, 2) := by decide +kernel
theorem dX10_dry_30 : decode cX10_dry 30 = .ok (.iload 5, 2) := by decide +kernel
theorem dX10_dry_32 : decode cX10_dry 32 = .ok (.iload_n 1, 1) := by decide +kernel
theorem dX10_dry_33 : decode cX10_dry 33 = .ok (.if_icmp .ge 18, 3) := by decide +kernel
theorem dX10_dry_36 : decode cX10_dry 36 = .ok (.lload_n 3, 1) := by decide +kernel
theorem dX10_dry_37 : decode cX10_dry 37 = .ok (.iload_n 2, 1) := by decide +kernel
theorem dX10_dry_38 : decode cX10_dry 38 = .ok (.i2l, 1) := by decide +kernel
theorem dX10_dry_39 : decode cX10_dry 39 = .ok (.lmul, 1) := by decide +kernel
theorem dX10_dry_40 : decode cX10_dry 40 = .ok (.ldc2_w 308, 3) := by decide +kernel
theorem dX10_dry_43 : decode cX10_dry 43 = .ok (.ldiv, 1) := by decide +kernel
theorem dX10_dry_44 : decode cX10_dry 44 = .ok (.lstore_n 3, 1) := by decide +kernel
theorem dX10_dry_45 : decode cX10_dry 45 = .ok (.iinc 5 1, 3) := by decide +kernel
theorem dX10_dry_48 : decode cX10_dry 48 = .ok (.goto (-18), 3) := by decide +kernel
theorem dX10_dry_51 : decode cX10_dry 51 = .ok (.lload_n 3, 1) := by decide +kernel
theorem dX10_dry_52 : decode cX10_dry 52 = .ok (.l2i, 1) := by decide +kernel
theorem dX10_dry_53 : decode cX10_dry 53 = .ok (.ireturn, 1) := by decide +kernel
theorem dX10_pay_0 : decode cX10_pay 0 = .ok (.aload_n 0, 1) := by decide +kernel
theorem dX10_pay_1 : decode cX10_pay 1 = .ok (.getfield 28, 3) := by decide +kernel
theorem dX10_pay_4 : decode cX10_pay 4 = .ok (.iload_n 1, 1) := by decide +kernel
theorem dX10_pay_5 : decode cX10_pay 5 = .ok (.invokevirtual 197, 3) := by decide +kernel
theorem dX10_pay_8 : decode cX10_pay 8 = .ok (.ifCond .ne 6, 3) := by decide +kernel
theorem dX10_pay_11 : decode cX10_pay 11 = .ok (.ldc 176, 2) := by decide +kernel
theorem dX10_pay_13 : decode cX10_pay 13 = .ok (.ireturn, 1) := by decide +kernel
theorem dX10_pay_14 : decode cX10_pay 14 = .ok (.iload_n 2, 1) := by decide +kernel
theorem dX10_pay_15 : decode cX10_pay 15 = .ok (.ifCond .lt 10, 3) := by decide +kernel
theorem dX10_pay_18 : decode cX10_pay 18 = .ok (.iload_n 2, 1) := by decide +kernel
theorem dX10_pay_19 : decode cX10_pay 19 = .ok (.sipush 9999, 3) := by decide +kernel
theorem dX10_pay_22 : decode cX10_pay 22 = .ok (.if_icmp .le 6, 3) := by decide +kernel
theorem dX10_pay_25 : decode cX10_pay 25 = .ok (.ldc 87, 2) := by decide +kernel
theorem dX10_pay_27 : decode cX10_pay 27 = .ok (.ireturn, 1) := by decide +kernel
theorem dX10_pay_28 : decode cX10_pay 28 = .ok (.aload_n 0, 1) := by decide +kernel
theorem dX10_pay_29 : decode cX10_pay 29 = .ok (.getfield 55, 3) := by decide +kernel
theorem dX10_pay_32 : decode cX10_pay 32 = .ok (.iload_n 1, 1) := by decide +kernel
theorem dX10_pay_33 : decode cX10_pay 33 = .ok (.iload_n 2, 1) := by decide +kernel
theorem dX10_pay_34 : decode cX10_pay 34 = .ok (.invokevirtual 310, 3) := by decide +kernel
theorem dX10_pay_37 : decode cX10_pay 37 = .ok (.ifCond .eq 13, 3) := by decide +kernel
theorem dX10_pay_40 : decode cX10_pay 40 = .ok (.aload_n 0, 1) := by decide +kernel
theorem dX10_pay_41 : decode cX10_pay 41 = .ok (.getfield 55, 3) := by decide +kernel
theorem dX10_pay_44 : decode cX10_pay 44 = .ok (.getfield 160, 3) := by decide +kernel
theorem dX10_pay_47 : decode cX10_pay 47 = .ok (.goto 5, 3) := by decide +kernel
theorem dX10_pay_50 : decode cX10_pay 50 = .ok (.ldc 96, 2) := by decide +kernel
theorem dX10_pay_52 : decode cX10_pay 52 = .ok (.ireturn, 1) := by decide +kernel
theorem dX10_write_0 : decode cX10_write 0 = .ok (.aload_n 0, 1) := by decide +kernel
theorem dX10_write_1 : decode cX10_write 1 = .ok (.getfield 28, 3) := by decide +kernel
theorem dX10_write_4 : decode cX10_write 4 = .ok (.iload_n 1, 1) := by decide +kernel
theorem dX10_write_5 : decode cX10_write 5 = .ok (.invokevirtual 173, 3) := by decide +kernel
theorem dX10_write_8 : decode cX10_write 8 = .ok (.ifCond .ne 6, 3) := by decide +kernel
theorem dX10_write_11 : decode cX10_write 11 = .ok (.ldc 176, 2) := by decide +kernel
theorem dX10_write_13 : decode cX10_write 13 = .ok (.ireturn, 1) := by decide +kernel
theorem dX10_write_14 : decode cX10_write 14 = .ok (.iload_n 2, 1) := by decide +kernel
theorem dX10_write_15 : decode cX10_write 15 = .ok (.ifCond .lt 10, 3) := by decide +kernel
theorem dX10_write_18 : decode cX10_write 18 = .ok (.iload_n 2, 1) := by decide +kernel
theorem dX10_write_19 : decode cX10_write 19 = .ok (.sipush 9999, 3) := by decide +kernel
theorem dX10_write_22 : decode cX10_write 22 = .ok (.if_icmp .le 6, 3) := by decide +kernel
theorem dX10_write_25 : decode cX10_write 25 = .ok (.ldc 87, 2) := by decide +kernel
theorem dX10_write_27 : decode cX10_write 27 = .ok (.ireturn, 1) := by decide +kernel
theorem dX10_write_28 : decode cX10_write 28 = .ok (.aload_n 0, 1) := by decide +kernel
theorem dX10_write_29 : decode cX10_write 29 = .ok (.getfield 55, 3) := by decide +kernel
theorem dX10_write_32 : decode cX10_write 32 = .ok (.iload_n 1, 1) := by decide +kernel
theorem dX10_write_33 : decode cX10_write 33 = .ok (.iload_n 2, 1) := by decide +kernel
theorem dX10_write_34 : decode cX10_write 34 = .ok (.invokevirtual 314, 3) := by decide +kernel
theorem dX10_write_37 : decode cX10_write 37 = .ok (.ifCond .eq 13, 3) := by decide +kernel
theorem dX10_write_40 : decode cX10_write 40 = .ok (.aload_n 0, 1) := by decide +kernel
theorem dX10_write_41 : decode cX10_write 41 = .ok (.getfield 55, 3) := by decide +kernel
theorem dX10_write_44 : decode cX10_write 44 = .ok (.getfield 167, 3) := by decide +kernel
theorem dX10_write_47 : decode cX10_write 47 = .ok (.goto 5, 3) := by decide +kernel
theorem dX10_write_50 : decode cX10_write 50 = .ok (.ldc 96, 2) := by decide +kernel
theorem dX10_write_52 : decode cX10_write 52 = .ok (.ireturn, 1) := by decide +kernel
theorem dX10_tear_0 : decode cX10_tear 0 = .ok (.aload_n 0, 1) := by decide +kernel
theorem dX10_tear_1 : decode cX10_tear 1 = .ok (.getfield 55, 3) := by decide +kernel
theorem dX10_tear_4 : decode cX10_tear 4 = .ok (.getfield 160, 3) := by decide +kernel
theorem dX10_tear_7 : decode cX10_tear 7 = .ok (.aload_n 0, 1) := by decide +kernel
theorem dX10_tear_8 : decode cX10_tear 8 = .ok (.getfield 55, 3) := by decide +kernel
theorem dX10_tear_11 : decode cX10_tear 11 = .ok (.getfield 167, 3) := by decide +kernel
theorem dX10_tear_14 : decode cX10_tear 14 = .ok (.iadd, 1) := by decide +kernel
theorem dX10_tear_15 : decode cX10_tear 15 = .ok (.istore_n 1, 1) := by decide +kernel
theorem dX10_tear_16 : decode cX10_tear 16 = .ok (.aload_n 0, 1) := by decide +kernel
theorem dX10_tear_17 : decode cX10_tear 17 = .ok (.getfield 55, 3) := by decide +kernel
theorem dX10_tear_20 : decode cX10_tear 20 = .ok (.invokevirtual 107, 3) := by decide +kernel
theorem dX10_tear_23 : decode cX10_tear 23 = .ok (.iload_n 1, 1) := by decide +kernel
theorem dX10_tear_24 : decode cX10_tear 24 = .ok (.ireturn, 1) := by decide +kernel
theorem dX10_judge_0 : decode cX10_judge 0 = .ok (.aload_n 0, 1) := by decide +kernel
theorem dX10_judge_1 : decode cX10_judge 1 = .ok (.getfield 55, 3) := by decide +kernel
theorem dX10_judge_4 : decode cX10_judge 4 = .ok (.aload_n 0, 1) := by decide +kernel
theorem dX10_judge_5 : decode cX10_judge 5 = .ok (.getfield 34, 3) := by decide +kernel
theorem dX10_judge_8 : decode cX10_judge 8 = .ok (.invokevirtual 317, 3) := by decide +kernel
theorem dX10_judge_11 : decode cX10_judge 11 = .ok (.ireturn, 1) := by decide +kernel
theorem dX10_seed_0 : decode cX10_seed 0 = .ok (.iload_n 1, 1) := by decide +kernel
theorem dX10_seed_1 : decode cX10_seed 1 = .ok (.ifCond .ge 6, 3) := by decide +kernel
theorem dX10_seed_4 : decode cX10_seed 4 = .ok (.ldc 87, 2) := by decide +kernel
theorem dX10_seed_6 : decode cX10_seed 6 = .ok (.ireturn, 1) := by decide +kernel
theorem dX10_seed_7 : decode cX10_seed 7 = .ok (.aload_n 0, 1) := by decide +kernel
theorem dX10_seed_8 : decode cX10_seed 8 = .ok (.getfield 83, 3) := by decide +kernel
theorem dX10_seed_11 : decode cX10_seed 11 = .ok (.getfield 321, 3) := by decide +kernel
theorem dX10_seed_14 : decode cX10_seed 14 = .ok (.istore_n 2, 1) := by decide +kernel
theorem dX10_seed_15 : decode cX10_seed 15 = .ok (.aload_n 0, 1) := by decide +kernel
theorem dX10_seed_16 : decode cX10_seed 16 = .ok (.getfield 83, 3) := by decide +kernel
theorem dX10_seed_19 : decode cX10_seed 19 = .ok (.iload_n 1, 1) := by decide +kernel
theorem dX10_seed_20 : decode cX10_seed 20 = .ok (.putfield 321, 3) := by decide +kernel
theorem dX10_seed_23 : decode cX10_seed 23 = .ok (.iload_n 2, 1) := by decide +kernel
theorem dX10_seed_24 : decode cX10_seed 24 = .ok (.ireturn, 1) := by decide +kernel
theorem dX10_keep_0 : decode cX10_keep 0 = .ok (.iload_n 1, 1) := by decide +kernel
theorem dX10_keep_1 : decode cX10_keep 1 = .ok (.ifCond .lt 8, 3) := by decide +kernel
theorem dX10_keep_4 : decode cX10_keep 4 = .ok (.iload_n 1, 1) := by decide +kernel
theorem dX10_keep_5 : decode cX10_keep 5 = .ok (.iconst 2, 1) := by decide +kernel
theorem dX10_keep_6 : decode cX10_keep 6 = .ok (.if_icmp .lt 6, 3) := by decide +kernel
theorem dX10_keep_9 : decode cX10_keep 9 = .ok (.ldc 176, 2) := by decide +kernel
theorem dX10_keep_11 : decode cX10_keep 11 = .ok (.ireturn, 1) := by decide +kernel
theorem dX10_keep_12 : decode cX10_keep 12 = .ok (.aload_n 0, 1) := by decide +kernel
theorem dX10_keep_13 : decode cX10_keep 13 = .ok (.getfield 48, 3) := by decide +kernel
theorem dX10_keep_16 : decode cX10_keep 16 = .ok (.iload_n 1, 1) := by decide +kernel
theorem dX10_keep_17 : decode cX10_keep 17 = .ok (.aaload, 1) := by decide +kernel
theorem dX10_keep_18 : decode cX10_keep 18 = .ok (.getfield 324, 3) := by decide +kernel
theorem dX10_keep_21 : decode cX10_keep 21 = .ok (.aload_n 0, 1) := by decide +kernel
theorem dX10_keep_22 : decode cX10_keep 22 = .ok (.getfield 34, 3) := by decide +kernel
theorem dX10_keep_25 : decode cX10_keep 25 = .ok (.invokevirtual 257, 3) := by decide +kernel
theorem dX10_keep_28 : decode cX10_keep 28 = .ok (.aload_n 0, 1) := by decide +kernel
theorem dX10_keep_29 : decode cX10_keep 29 = .ok (.getfield 48, 3) := by decide +kernel
theorem dX10_keep_32 : decode cX10_keep 32 = .ok (.iload_n 1, 1) := by decide +kernel
theorem dX10_keep_33 : decode cX10_keep 33 = .ok (.aaload, 1) := by decide +kernel
theorem dX10_keep_34 : decode cX10_keep 34 = .ok (.aload_n 0, 1) := by decide +kernel
theorem dX10_keep_35 : decode cX10_keep 35 = .ok (.getfield 83, 3) := by decide +kernel
theorem dX10_keep_38 : decode cX10_keep 38 = .ok (.getfield 321, 3) := by decide +kernel
theorem dX10_keep_41 : decode cX10_keep 41 = .ok (.putfield 327, 3) := by decide +kernel
theorem dX10_keep_44 : decode cX10_keep 44 = .ok (.aload_n 0, 1) := by decide +kernel
theorem dX10_keep_45 : decode cX10_keep 45 = .ok (.getfield 48, 3) := by decide +kernel
theorem dX10_keep_48 : decode cX10_keep 48 = .ok (.iload_n 1, 1) := by decide +kernel
theorem dX10_keep_49 : decode cX10_keep 49 = .ok (.aaload, 1) := by decide +kernel
theorem dX10_keep_50 : decode cX10_keep 50 = .ok (.iconst 1, 1) := by decide +kernel
theorem dX10_keep_51 : decode cX10_keep 51 = .ok (.putfield 113, 3) := by decide +kernel
theorem dX10_keep_54 : decode cX10_keep 54 = .ok (.aload_n 0, 1) := by decide +kernel
theorem dX10_keep_55 : decode cX10_keep 55 = .ok (.getfield 44, 3) := by decide +kernel
theorem dX10_keep_58 : decode cX10_keep 58 = .ok (.invokevirtual 110, 3) := by decide +kernel
theorem dX10_keep_61 : decode cX10_keep 61 = .ok (.iconst 1, 1) := by decide +kernel
theorem dX10_keep_62 : decode cX10_keep 62 = .ok (.ireturn, 1) := by decide +kernel
theorem dX10_goBack_0 : decode cX10_goBack 0 = .ok (.iload_n 1, 1) := by decide +kernel
theorem dX10_goBack_1 : decode cX10_goBack 1 = .ok (.ifCond .lt 8, 3) := by decide +kernel
theorem dX10_goBack_4 : decode cX10_goBack 4 = .ok (.iload_n 1, 1) := by decide +kernel
theorem dX10_goBack_5 : decode cX10_goBack 5 = .ok (.iconst 2, 1) := by decide +kernel
theorem dX10_goBack_6 : decode cX10_goBack 6 = .ok (.if_icmp .lt 6, 3) := by decide +kernel
theorem dX10_goBack_9 : decode cX10_goBack 9 = .ok (.ldc 176, 2) := by decide +kernel
theorem dX10_goBack_11 : decode cX10_goBack 11 = .ok (.ireturn, 1) := by decide +kernel
theorem dX10_goBack_12 : decode cX10_goBack 12 = .ok (.aload_n 0, 1) := by decide +kernel
theorem dX10_goBack_13 : decode cX10_goBack 13 = .ok (.getfield 48, 3) := by decide +kernel
theorem dX10_goBack_16 : decode cX10_goBack 16 = .ok (.iload_n 1, 1) := by decide +kernel
theorem dX10_goBack_17 : decode cX10_goBack 17 = .ok (.aaload, 1) := by decide +kernel
theorem dX10_goBack_18 : decode cX10_goBack 18 = .ok (.getfield 113, 3) := by decide +kernel
theorem dX10_goBack_21 : decode cX10_goBack 21 = .ok (.ifCond .ne 6, 3) := by decide +kernel
theorem dX10_goBack_24 : decode cX10_goBack 24 = .ok (.ldc 222, 2) := by decide +kernel
theorem dX10_goBack_26 : decode cX10_goBack 26 = .ok (.ireturn, 1) := by decide +kernel
theorem dX10_goBack_27 : decode cX10_goBack 27 = .ok (.aload_n 0, 1) := by decide +kernel
theorem dX10_goBack_28 : decode cX10_goBack 28 = .ok (.getfield 34, 3) := by decide +kernel
theorem dX10_goBack_31 : decode cX10_goBack 31 = .ok (.aload_n 0, 1) := by decide +kernel
theorem dX10_goBack_32 : decode cX10_goBack 32 = .ok (.getfield 48, 3) := by decide +kernel
theorem dX10_goBack_35 : decode cX10_goBack 35 = .ok (.iload_n 1, 1) := by decide +kernel
theorem dX10_goBack_36 : decode cX10_goBack 36 = .ok (.aaload, 1) := by decide +kernel
theorem dX10_goBack_37 : decode cX10_goBack 37 = .ok (.getfield 324, 3) := by decide +kernel
theorem dX10_goBack_40 : decode cX10_goBack 40 = .ok (.invokevirtual 257, 3) := by decide +kernel
theorem dX10_goBack_43 : decode cX10_goBack 43 = .ok (.aload_n 0, 1) := by decide +kernel
theorem dX10_goBack_44 : decode cX10_goBack 44 = .ok (.getfield 83, 3) := by decide +kernel
theorem dX10_goBack_47 : decode cX10_goBack 47 = .ok (.aload_n 0, 1) := by decide +kernel
theorem dX10_goBack_48 : decode cX10_goBack 48 = .ok (.getfield 48, 3) := by decide +kernel
theorem dX10_goBack_51 : decode cX10_goBack 51 = .ok (.iload_n 1, 1) := by decide +kernel
theorem dX10_goBack_52 : decode cX10_goBack 52 = .ok (.aaload, 1) := by decide +kernel
theorem dX10_goBack_53 : decode cX10_goBack 53 = .ok (.getfield 327, 3) := by decide +kernel
theorem dX10_goBack_56 : decode cX10_goBack 56 = .ok (.putfield 321, 3) := by decide +kernel
theorem dX10_goBack_59 : decode cX10_goBack 59 = .ok (.aload_n 0, 1) := by decide +kernel
theorem dX10_goBack_60 : decode cX10_goBack 60 = .ok (.getfield 44, 3) := by decide +kernel
theorem dX10_goBack_63 : decode cX10_goBack 63 = .ok (.invokevirtual 110, 3) := by decide +kernel
theorem dX10_goBack_66 : decode cX10_goBack 66 = .ok (.iconst 1, 1) := by decide +kernel
theorem dX10_goBack_67 : decode cX10_goBack 67 = .ok (.ireturn, 1) := by decide +kernel
theorem dX10_isIn_0 : decode cX10_isIn 0 = .ok (.iload_n 1, 1) := by decide +kernel
theorem dX10_isIn_1 : decode cX10_isIn 1 = .ok (.iload_n 0, 1) := by decide +kernel
theorem dX10_isIn_2 : decode cX10_isIn 2 = .ok (.ishr, 1) := by decide +kernel
theorem dX10_isIn_3 : decode cX10_isIn 3 = .ok (.iconst 1, 1) := by decide +kernel
theorem dX10_isIn_4 : decode cX10_isIn 4 = .ok (.iand, 1) := by decide +kernel
theorem dX10_isIn_5 : decode cX10_isIn 5 = .ok (.iconst 1, 1) := by decide +kernel
theorem dX10_isIn_6 : decode cX10_isIn 6 = .ok (.if_icmp .ne 7, 3) := by decide +kernel
theorem dX10_isIn_9 : decode cX10_isIn 9 = .ok (.iconst 1, 1) := by decide +kernel
theorem dX10_isIn_10 : decode cX10_isIn 10 = .ok (.goto 4, 3) := by decide +kernel
theorem dX10_isIn_13 : decode cX10_isIn 13 = .ok (.iconst 0, 1) := by decide +kernel
theorem dX10_isIn_14 : decode cX10_isIn 14 = .ok (.ireturn, 1) := by decide +kernel
theorem dX10_refusalOfVerses_0 : decode cX10_refusalOfVerses 0 = .ok (.iload_n 1, 1) := by decide +kernel
theorem dX10_refusalOfVerses_1 : decode cX10_refusalOfVerses 1 = .ok (.iconst 1, 1) := by decide +kernel
theorem dX10_refusalOfVerses_2 : decode cX10_refusalOfVerses 2 = .ok (.if_icmp .lt 9, 3) := by decide +kernel
theorem dX10_refusalOfVerses_5 : decode cX10_refusalOfVerses 5 = .ok (.iload_n 1, 1) := by decide +kernel
theorem dX10_refusalOfVerses_6 : decode cX10_refusalOfVerses 6 = .ok (.bipush 60, 2) := by decide +kernel
theorem dX10_refusalOfVerses_8 : decode cX10_refusalOfVerses 8 = .ok (.if_icmp .le 6, 3) := by decide +kernel
theorem dX10_refusalOfVerses_11 : decode cX10_refusalOfVerses 11 = .ok (.ldc 87, 2) := by decide +kernel
theorem dX10_refusalOfVerses_13 : decode cX10_refusalOfVerses 13 = .ok (.ireturn, 1) := by decide +kernel
theorem dX10_refusalOfVerses_14 : decode cX10_refusalOfVerses 14 = .ok (.aload_n 0, 1) := by decide +kernel
theorem dX10_refusalOfVerses_15 : decode cX10_refusalOfVerses 15 = .ok (.getfield 28, 3) := by decide +kernel
theorem dX10_refusalOfVerses_18 : decode cX10_refusalOfVerses 18 = .ok (.invokevirtual 240, 3) := by decide +kernel
theorem dX10_refusalOfVerses_21 : decode cX10_refusalOfVerses 21 = .ok (.ifCond .eq 6, 3) := by decide +kernel
theorem dX10_refusalOfVerses_24 : decode cX10_refusalOfVerses 24 = .ok (.ldc 222, 2) := by decide +kernel
theorem dX10_refusalOfVerses_26 : decode cX10_refusalOfVerses 26 = .ok (.ireturn, 1) := by decide +kernel
theorem dX10_refusalOfVerses_27 : decode cX10_refusalOfVerses 27 = .ok (.aload_n 0, 1) := by decide +kernel
theorem dX10_refusalOfVerses_28 : decode cX10_refusalOfVerses 28 = .ok (.getfield 34, 3) := by decide +kernel
theorem dX10_refusalOfVerses_31 : decode cX10_refusalOfVerses 31 = .ok (.getfield 135, 3) := by decide +kernel
theorem dX10_refusalOfVerses_34 : decode cX10_refusalOfVerses 34 = .ok (.sipush 9000, 3) := by decide +kernel
theorem dX10_refusalOfVerses_37 : decode cX10_refusalOfVerses 37 = .ok (.if_icmp .le 8, 3) := by decide +kernel
theorem dX10_refusalOfVerses_40 : decode cX10_refusalOfVerses 40 = .ok (.ldc 96, 2) := by decide +kernel
theorem dX10_refusalOfVerses_42 : decode cX10_refusalOfVerses 42 = .ok (.goto 4, 3) := by decide +kernel
theorem dX10_refusalOfVerses_45 : decode cX10_refusalOfVerses 45 = .ok (.iconst 0, 1) := by decide +kernel
theorem dX10_refusalOfVerses_46 : decode cX10_refusalOfVerses 46 = .ok (.ireturn, 1) := by decide +kernel
theorem dX10_toldOfChoirs_0 : decode cX10_toldOfChoirs 0 = .ok (.aload_n 0, 1) := by decide +kernel
theorem dX10_toldOfChoirs_1 : decode cX10_toldOfChoirs 1 = .ok (.getfield 62, 3) := by decide +kernel
theorem dX10_toldOfChoirs_4 : decode cX10_toldOfChoirs 4 = .ok (.aload_n 0, 1) := by decide +kernel
theorem dX10_toldOfChoirs_5 : decode cX10_toldOfChoirs 5 = .ok (.getfield 28, 3) := by decide +kernel
theorem dX10_toldOfChoirs_8 : decode cX10_toldOfChoirs 8 = .ok (.aload_n 0, 1) := by decide +kernel
theorem dX10_toldOfChoirs_9 : decode cX10_toldOfChoirs 9 = .ok (.getfield 34, 3) := by decide +kernel
theorem dX10_toldOfChoirs_12 : decode cX10_toldOfChoirs 12 = .ok (.aload_n 0, 1) := by decide +kernel
theorem dX10_toldOfChoirs_13 : decode cX10_toldOfChoirs 13 = .ok (.getfield 55, 3) := by decide +kernel
theorem dX10_toldOfChoirs_16 : decode cX10_toldOfChoirs 16 = .ok (.invokevirtual 328, 3) := by decide +kernel
theorem dX10_toldOfChoirs_19 : decode cX10_toldOfChoirs 19 = .ok (.iload_n 1, 1) := by decide +kernel
theorem dX10_toldOfChoirs_20 : decode cX10_toldOfChoirs 20 = .ok (.bipush 15, 2) := by decide +kernel
theorem dX10_toldOfChoirs_22 : decode cX10_toldOfChoirs 22 = .ok (.if_icmp .ne 11, 3) := by decide +kernel
theorem dX10_toldOfChoirs_25 : decode cX10_toldOfChoirs 25 = .ok (.aload_n 0, 1) := by decide +kernel
theorem dX10_toldOfChoirs_26 : decode cX10_toldOfChoirs 26 = .ok (.getfield 62, 3) := by decide +kernel
theorem dX10_toldOfChoirs_29 : decode cX10_toldOfChoirs 29 = .ok (.getfield 332, 3) := by decide +kernel
theorem dX10_toldOfChoirs_32 : decode cX10_toldOfChoirs 32 = .ok (.ireturn, 1) := by decide +kernel
theorem dX10_toldOfChoirs_33 : decode cX10_toldOfChoirs 33 = .ok (.iload_n 1, 1) := by decide +kernel
theorem dX10_toldOfChoirs_34 : decode cX10_toldOfChoirs 34 = .ok (.bipush 16, 2) := by decide +kernel
theorem dX10_toldOfChoirs_36 : decode cX10_toldOfChoirs 36 = .ok (.if_icmp .ne 13, 3) := by decide +kernel
theorem dX10_toldOfChoirs_39 : decode cX10_toldOfChoirs 39 = .ok (.aload_n 0, 1) := by decide +kernel
theorem dX10_toldOfChoirs_40 : decode cX10_toldOfChoirs 40 = .ok (.getfield 62, 3) := by decide +kernel
theorem dX10_toldOfChoirs_43 : decode cX10_toldOfChoirs 43 = .ok (.getfield 333, 3) := by decide +kernel
theorem dX10_toldOfChoirs_46 : decode cX10_toldOfChoirs 46 = .ok (.goto 14, 3) := by decide +kernel
theorem dX10_toldOfChoirs_49 : decode cX10_toldOfChoirs 49 = .ok (.aload_n 0, 1) := by decide +kernel
theorem dX10_toldOfChoirs_50 : decode cX10_toldOfChoirs 50 = .ok (.getfield 62, 3) := by decide +kernel
theorem dX10_toldOfChoirs_53 : decode cX10_toldOfChoirs 53 = .ok (.aload_n 0, 1) := by decide +kernel
theorem dX10_toldOfChoirs_54 : decode cX10_toldOfChoirs 54 = .ok (.getfield 28, 3) := by decide +kernel
theorem dX10_toldOfChoirs_57 : decode cX10_toldOfChoirs 57 = .ok (.invokevirtual 336, 3) := by decide +kernel
theorem dX10_toldOfChoirs_60 : decode cX10_toldOfChoirs 60 = .ok (.ireturn, 1) := by decide +kernel
theorem dX10_fewest_0 : decode cX10_fewest 0 = .ok (.aload_n 0, 1) := by decide +kernel
theorem dX10_fewest_1 : decode cX10_fewest 1 = .ok (.getfield 28, 3) := by decide +kernel
theorem dX10_fewest_4 : decode cX10_fewest 4 = .ok (.invokevirtual 240, 3) := by decide +kernel
theorem dX10_fewest_7 : decode cX10_fewest 7 = .ok (.ifCond .eq 5, 3) := by decide +kernel
theorem dX10_fewest_10 : decode cX10_fewest 10 = .ok (.iconst (-1), 1) := by decide +kernel
theorem dX10_fewest_11 : decode cX10_fewest 11 = .ok (.ireturn, 1) := by decide +kernel
theorem dX10_fewest_12 : decode cX10_fewest 12 = .ok (.iconst (-1), 1) := by decide +kernel
theorem dX10_fewest_13 : decode cX10_fewest 13 = .ok (.istore_n 1, 1) := by decide +kernel
theorem dX10_fewest_14 : decode cX10_fewest 14 = .ok (.bipush 8, 2) := by decide +kernel
theorem dX10_fewest_16 : decode cX10_fewest 16 = .ok (.istore_n 2, 1) := by decide +kernel
theorem dX10_fewest_17 : decode cX10_fewest 17 = .ok (.iconst 0, 1) := by decide +kernel
theorem dX10_fewest_18 : decode cX10_fewest 18 = .ok (.istore_n 3, 1) := by decide +kernel
theorem dX10_fewest_19 : decode cX10_fewest 19 = .ok (.iload_n 3, 1) := by decide +kernel
theorem dX10_fewest_20 : decode cX10_fewest 20 = .ok (.aload_n 0, 1) := by decide +kernel
theorem dX10_fewest_21 : decode cX10_fewest 21 = .ok (.getfield 28, 3) := by decide +kernel
theorem dX10_fewest_24 : decode cX10_fewest 24 = .ok (.invokevirtual 339, 3) := by decide +kernel
theorem dX10_fewest_27 : decode cX10_fewest 27 = .ok (.if_icmp .gt 42, 3) := by decide +kernel
theorem dX10_fewest_30 : decode cX10_fewest 30 = .ok (.iload_n 3, 1) := by decide +kernel
theorem dX10_fewest_31 : decode cX10_fewest 31 = .ok (.invokestatic 269, 3) := by decide +kernel
theorem dX10_fewest_34 : decode cX10_fewest 34 = .ok (.iload_n 2, 1) := by decide +kernel
theorem dX10_fewest_35 : decode cX10_fewest 35 = .ok (.if_icmp .ge 28, 3) := by decide +kernel
theorem dX10_fewest_38 : decode cX10_fewest 38 = .ok (.aload_n 0, 1) := by decide +kernel
theorem dX10_fewest_39 : decode cX10_fewest 39 = .ok (.getfield 28, 3) := by decide +kernel
theorem dX10_fewest_42 : decode cX10_fewest 42 = .ok (.iload_n 3, 1) := by decide +kernel
theorem dX10_fewest_43 : decode cX10_fewest 43 = .ok (.invokevirtual 277, 3) := by decide +kernel
theorem dX10_fewest_46 : decode cX10_fewest 46 = .ok (.aload_n 0, 1) := by decide +kernel
theorem dX10_fewest_47 : decode cX10_fewest 47 = .ok (.getfield 28, 3) := by decide +kernel
theorem dX10_fewest_50 : decode cX10_fewest 50 = .ok (.invokevirtual 280, 3) := by decide +kernel
theorem dX10_fewest_53 : decode cX10_fewest 53 = .ok (.if_icmp .ne 10, 3) := by decide +kernel
theorem dX10_fewest_56 : decode cX10_fewest 56 = .ok (.iload_n 3, 1) := by decide +kernel
theorem dX10_fewest_57 : decode cX10_fewest 57 = .ok (.istore_n 1, 1) := by decide +kernel
theorem dX10_fewest_58 : decode cX10_fewest 58 = .ok (.iload_n 3, 1) := by decide +kernel
theorem dX10_fewest_59 : decode cX10_fewest 59 = .ok (.invokestatic 269, 3) := by decide +kernel
theorem dX10_fewest_62 : decode cX10_fewest 62 = .ok (.istore_n 2, 1) := by decide +kernel
theorem dX10_fewest_63 : decode cX10_fewest 63 = .ok (.iinc 3 1, 3) := by decide +kernel
theorem dX10_fewest_66 : decode cX10_fewest 66 = .ok (.goto (-47), 3) := by decide +kernel
theorem dX10_fewest_69 : decode cX10_fewest 69 = .ok (.iload_n 1, 1) := by decide +kernel
theorem dX10_fewest_70 : decode cX10_fewest 70 = .ok (.ireturn, 1) := by decide +kernel
theorem dX10_stirByDraws_0 : decode cX10_stirByDraws 0 = .ok (.aload_n 0, 1) := by decide +kernel
theorem dX10_stirByDraws_1 : decode cX10_stirByDraws 1 = .ok (.getfield 28, 3) := by decide +kernel
theorem dX10_stirByDraws_4 : decode cX10_stirByDraws 4 = .ok (.getfield 117, 3) := by decide +kernel
theorem dX10_stirByDraws_7 : decode cX10_stirByDraws 7 = .ok (.ifCond .ne 4, 3) := by decide +kernel
theorem dX10_stirByDraws_10 : decode cX10_stirByDraws 10 = .ok (.return_, 1) := by decide +kernel
theorem dX10_stirByDraws_11 : decode cX10_stirByDraws 11 = .ok (.aload_n 0, 1) := by decide +kernel
theorem dX10_stirByDraws_12 : decode cX10_stirByDraws 12 = .ok (.getfield 83, 3) := by decide +kernel
theorem dX10_stirByDraws_15 : decode cX10_stirByDraws 15 = .ok (.iconst 5, 1) := by decide +kernel
theorem dX10_stirByDraws_16 : decode cX10_stirByDraws 16 = .ok (.invokevirtual 342, 3) := by decide +kernel
theorem dX10_stirByDraws_19 : decode cX10_stirByDraws 19 = .ok (.istore_n 1, 1) := by decide +kernel
theorem dX10_stirByDraws_20 : decode cX10_stirByDraws 20 = .ok (.aload_n 0, 1) := by decide +kernel
theorem dX10_stirByDraws_21 : decode cX10_stirByDraws 21 = .ok (.getfield 83, 3) := by decide +kernel
theorem dX10_stirByDraws_24 : decode cX10_stirByDraws 24 = .ok (.aload_n 0, 1) := by decide +kernel
theorem dX10_stirByDraws_25 : decode cX10_stirByDraws 25 = .ok (.getfield 28, 3) := by decide +kernel
theorem dX10_stirByDraws_28 : decode cX10_stirByDraws 28 = .ok (.getfield 117, 3) := by decide +kernel
theorem dX10_stirByDraws_31 : decode cX10_stirByDraws 31 = .ok (.invokevirtual 342, 3) := by decide +kernel
theorem dX10_stirByDraws_34 : decode cX10_stirByDraws 34 = .ok (.istore_n 2, 1) := by decide +kernel
theorem dX10_stirByDraws_35 : decode cX10_stirByDraws 35 = .ok (.iload_n 1, 1) := by decide +kernel
theorem dX10_stirByDraws_36 : decode cX10_stirByDraws 36 = .ok (.tableswitch 99 0 3 #[32, 43, 54, 79], 32) := by decide +kernel
theorem dX10_stirByDraws_68 : decode cX10_stirByDraws 68 = .ok (.aload_n 0, 1) := by decide +kernel
theorem dX10_stirByDraws_69 : decode cX10_stirByDraws 69 = .ok (.getfield 34, 3) := by decide +kernel
theorem dX10_stirByDraws_72 : decode cX10_stirByDraws 72 = .ok (.iload_n 2, 1) := by decide +kernel
theorem dX10_stirByDraws_73 : decode cX10_stirByDraws 73 = .ok (.invokevirtual 223, 3) := by decide +kernel
theorem dX10_stirByDraws_76 : decode cX10_stirByDraws 76 = .ok (.goto 63, 3) := by decide +kernel
theorem dX10_stirByDraws_79 : decode cX10_stirByDraws 79 = .ok (.aload_n 0, 1) := by decide +kernel
theorem dX10_stirByDraws_80 : decode cX10_stirByDraws 80 = .ok (.getfield 34, 3) := by decide +kernel
theorem dX10_stirByDraws_83 : decode cX10_stirByDraws 83 = .ok (.iload_n 2, 1) := by decide +kernel
theorem dX10_stirByDraws_84 : decode cX10_stirByDraws 84 = .ok (.invokevirtual 227, 3) := by decide +kernel
theorem dX10_stirByDraws_87 : decode cX10_stirByDraws 87 = .ok (.goto 52, 3) := by decide +kernel
theorem dX10_stirByDraws_90 : decode cX10_stirByDraws 90 = .ok (.aload_n 0, 1) := by decide +kernel
theorem dX10_stirByDraws_91 : decode cX10_stirByDraws 91 = .ok (.getfield 34, 3) := by decide +kernel
theorem dX10_stirByDraws_94 : decode cX10_stirByDraws 94 = .ok (.iload_n 2, 1) := by decide +kernel
theorem dX10_stirByDraws_95 : decode cX10_stirByDraws 95 = .ok (.aload_n 0, 1) := by decide +kernel
theorem dX10_stirByDraws_96 : decode cX10_stirByDraws 96 = .ok (.getfield 83, 3) := by decide +kernel
theorem dX10_stirByDraws_99 : decode cX10_stirByDraws 99 = .ok (.aload_n 0, 1) := by decide +kernel
theorem dX10_stirByDraws_100 : decode cX10_stirByDraws 100 = .ok (.getfield 28, 3) := by decide +kernel
theorem dX10_stirByDraws_103 : decode cX10_stirByDraws 103 = .ok (.getfield 126, 3) := by decide +kernel
theorem dX10_stirByDraws_106 : decode cX10_stirByDraws 106 = .ok (.invokevirtual 342, 3) := by decide +kernel
theorem dX10_stirByDraws_109 : decode cX10_stirByDraws 109 = .ok (.invokevirtual 233, 3) := by decide +kernel
theorem dX10_stirByDraws_112 : decode cX10_stirByDraws 112 = .ok (.goto 27, 3) := by decide +kernel
theorem dX10_stirByDraws_115 : decode cX10_stirByDraws 115 = .ok (.aload_n 0, 1) := by decide +kernel
theorem dX10_stirByDraws_116 : decode cX10_stirByDraws 116 = .ok (.getfield 34, 3) := by decide +kernel
theorem dX10_stirByDraws_119 : decode cX10_stirByDraws 119 = .ok (.iload_n 2, 1) := by decide +kernel
theorem dX10_stirByDraws_120 : decode cX10_stirByDraws 120 = .ok (.aload_n 0, 1) := by decide +kernel
theorem dX10_stirByDraws_121 : decode cX10_stirByDraws 121 = .ok (.getfield 83, 3) := by decide +kernel
theorem dX10_stirByDraws_124 : decode cX10_stirByDraws 124 = .ok (.bipush 50, 2) := by decide +kernel
theorem dX10_stirByDraws_126 : decode cX10_stirByDraws 126 = .ok (.invokevirtual 342, 3) := by decide +kernel
theorem dX10_stirByDraws_129 : decode cX10_stirByDraws 129 = .ok (.invokevirtual 237, 3) := by decide +kernel
theorem dX10_stirByDraws_132 : decode cX10_stirByDraws 132 = .ok (.goto 7, 3) := by decide +kernel
theorem dX10_stirByDraws_135 : decode cX10_stirByDraws 135 = .ok (.aload_n 0, 1) := by decide +kernel
theorem dX10_stirByDraws_136 : decode cX10_stirByDraws 136 = .ok (.invokevirtual 345, 3) := by decide +kernel
theorem dX10_stirByDraws_139 : decode cX10_stirByDraws 139 = .ok (.return_, 1) := by decide +kernel
theorem dX10_sendByDraws_0 : decode cX10_sendByDraws 0 = .ok (.aload_n 0, 1) := by decide +kernel
theorem dX10_sendByDraws_1 : decode cX10_sendByDraws 1 = .ok (.getfield 28, 3) := by decide +kernel
theorem dX10_sendByDraws_4 : decode cX10_sendByDraws 4 = .ok (.getfield 132, 3) := by decide +kernel
theorem dX10_sendByDraws_7 : decode cX10_sendByDraws 7 = .ok (.ifCond .ne 4, 3) := by decide +kernel
theorem dX10_sendByDraws_10 : decode cX10_sendByDraws 10 = .ok (.return_, 1) := by decide +kernel
theorem dX10_sendByDraws_11 : decode cX10_sendByDraws 11 = .ok (.aload_n 0, 1) := by decide +kernel
theorem dX10_sendByDraws_12 : decode cX10_sendByDraws 12 = .ok (.getfield 83, 3) := by decide +kernel
theorem dX10_sendByDraws_15 : decode cX10_sendByDraws 15 = .ok (.aload_n 0, 1) := by decide +kernel
theorem dX10_sendByDraws_16 : decode cX10_sendByDraws 16 = .ok (.getfield 28, 3) := by decide +kernel
theorem dX10_sendByDraws_19 : decode cX10_sendByDraws 19 = .ok (.getfield 132, 3) := by decide +kernel
theorem dX10_sendByDraws_22 : decode cX10_sendByDraws 22 = .ok (.invokevirtual 342, 3) := by decide +kernel
theorem dX10_sendByDraws_25 : decode cX10_sendByDraws 25 = .ok (.istore_n 1, 1) := by decide +kernel
theorem dX10_sendByDraws_26 : decode cX10_sendByDraws 26 = .ok (.aload_n 0, 1) := by decide +kernel
theorem dX10_sendByDraws_27 : decode cX10_sendByDraws 27 = .ok (.getfield 83, 3) := by decide +kernel
theorem dX10_sendByDraws_30 : decode cX10_sendByDraws 30 = .ok (.aload_n 0, 1) := by decide +kernel
theorem dX10_sendByDraws_31 : decode cX10_sendByDraws 31 = .ok (.getfield 28, 3) := by decide +kernel
theorem dX10_sendByDraws_34 : decode cX10_sendByDraws 34 = .ok (.getfield 126, 3) := by decide +kernel
theorem dX10_sendByDraws_37 : decode cX10_sendByDraws 37 = .ok (.invokevirtual 342, 3) := by decide +kernel
theorem dX10_sendByDraws_40 : decode cX10_sendByDraws 40 = .ok (.istore_n 2, 1) := by decide +kernel
theorem dX10_sendByDraws_41 : decode cX10_sendByDraws 41 = .ok (.aload_n 0, 1) := by decide +kernel
theorem dX10_sendByDraws_42 : decode cX10_sendByDraws 42 = .ok (.getfield 28, 3) := by decide +kernel
theorem dX10_sendByDraws_45 : decode cX10_sendByDraws 45 = .ok (.iload_n 1, 1) := by decide +kernel
theorem dX10_sendByDraws_46 : decode cX10_sendByDraws 46 = .ok (.invokevirtual 244, 3) := by decide +kernel
theorem dX10_sendByDraws_49 : decode cX10_sendByDraws 49 = .ok (.ifCond .eq 13, 3) := by decide +kernel
theorem dX10_sendByDraws_52 : decode cX10_sendByDraws 52 = .ok (.aload_n 0, 1) := by decide +kernel
theorem dX10_sendByDraws_53 : decode cX10_sendByDraws 53 = .ok (.getfield 34, 3) := by decide +kernel
theorem dX10_sendByDraws_56 : decode cX10_sendByDraws 56 = .ok (.getfield 247, 3) := by decide +kernel
theorem dX10_sendByDraws_59 : decode cX10_sendByDraws 59 = .ok (.iload_n 1, 1) := by decide +kernel
theorem dX10_sendByDraws_60 : decode cX10_sendByDraws 60 = .ok (.iload_n 2, 1) := by decide +kernel
theorem dX10_sendByDraws_61 : decode cX10_sendByDraws 61 = .ok (.iastore, 1) := by decide +kernel
theorem dX10_sendByDraws_62 : decode cX10_sendByDraws 62 = .ok (.return_, 1) := by decide +kernel
end
section
theorem dX11_init_0 : decode cX11_init 0 = .ok (.aload_n 0, 1) := by decide +kernel
theorem dX11_init_1 : decode cX11_init 1 = .ok (.invokespecial 1, 3) := by decide +kernel
theorem dX11_init_4 : decode cX11_init 4 = .ok (.aload_n 0, 1) := by decide +kernel
theorem dX11_init_5 : decode cX11_init 5 = .ok (.bipush 7, 2) := by decide +kernel
theorem dX11_init_7 : decode cX11_init 7 = .ok (.newarray .int, 2) := by decide +kernel
theorem dX11_init_9 : decode cX11_init 9 = .ok (.putfield 7, 3) := by decide +kernel
theorem dX11_init_12 : decode cX11_init 12 = .ok (.aload_n 0, 1) := by decide +kernel
theorem dX11_init_13 : decode cX11_init 13 = .ok (.bipush 7, 2) := by decide +kernel
theorem dX11_init_15 : decode cX11_init 15 = .ok (.newarray .int, 2) := by decide +kernel
theorem dX11_init_17 : decode cX11_init 17 = .ok (.putfield 13, 3) := by decide +kernel
theorem dX11_init_20 : decode cX11_init 20 = .ok (.aload_n 0, 1) := by decide +kernel
theorem dX11_init_21 : decode cX11_init 21 = .ok (.bipush 7, 2) := by decide +kernel
theorem dX11_init_23 : decode cX11_init 23 = .ok (.newarray .int, 2) := by decide +kernel
theorem dX11_init_25 : decode cX11_init 25 = .ok (.putfield 16, 3) := by decide +kernel
theorem dX11_init_28 : decode cX11_init 28 = .ok (.aload_n 0, 1) := by decide +kernel
theorem dX11_init_29 : decode cX11_init 29 = .ok (.bipush 7, 2) := by decide +kernel
theorem dX11_init_31 : decode cX11_init 31 = .ok (.newarray .int, 2) := by decide +kernel
theorem dX11_init_33 : decode cX11_init 33 = .ok (.putfield 19, 3) := by decide +kernel
theorem dX11_init_36 : decode cX11_init 36 = .ok (.aload_n 0, 1) := by decide +kernel
theorem dX11_init_37 : decode cX11_init 37 = .ok (.iconst 4, 1) := by decide +kernel
theorem dX11_init_38 : decode cX11_init 38 = .ok (.newarray .int, 2) := by decide +kernel
theorem dX11_init_40 : decode cX11_init 40 = .ok (.putfield 22, 3) := by decide +kernel
theorem dX11_init_43 : decode cX11_init 43 = .ok (.aload_n 0, 1) := by decide +kernel
theorem dX11_init_44 : decode cX11_init 44 = .ok (.bipush 29, 2) := by decide +kernel
theorem dX11_init_46 : decode cX11_init 46 = .ok (.newarray .int, 2) := by decide +kernel
theorem dX11_init_48 : decode cX11_init 48 = .ok (.putfield 25, 3) := by decide +kernel
theorem dX11_init_51 : decode cX11_init 51 = .ok (.aload_n 0, 1) := by decide +kernel
theorem dX11_init_52 : decode cX11_init 52 = .ok (.sipush 240, 3) := by decide +kernel
theorem dX11_init_55 : decode cX11_init 55 = .ok (.newarray .int, 2) := by decide +kernel
theorem dX11_init_57 : decode cX11_init 57 = .ok (.putfield 28, 3) := by decide +kernel
theorem dX11_init_60 : decode cX11_init 60 = .ok (.aload_n 0, 1) := by decide +kernel
theorem dX11_init_61 : decode cX11_init 61 = .ok (.iconst (-1), 1) := by decide +kernel
theorem dX11_init_62 : decode cX11_init 62 = .ok (.putfield 31, 3) := by decide +kernel
theorem dX11_init_65 : decode cX11_init 65 = .ok (.aload_n 0, 1) := by decide +kernel
theorem dX11_init_66 : decode cX11_init 66 = .ok (.bipush 7, 2) := by decide +kernel
theorem dX11_init_68 : decode cX11_init 68 = .ok (.newarray .int, 2) := by decide +kernel
theorem dX11_init_70 : decode cX11_init 70 = .ok (.putfield 35, 3) := by decide +kernel
theorem dX11_init_73 : decode cX11_init 73 = .ok (.aload_n 0, 1) := by decide +kernel
theorem dX11_init_74 : decode cX11_init 74 = .ok (.bipush 7, 2) := by decide +kernel
theorem dX11_init_76 : decode cX11_init 76 = .ok (.newarray .int, 2) := by decide +kernel
theorem dX11_init_78 : decode cX11_init 78 = .ok (.putfield 38, 3) := by decide +kernel
theorem dX11_init_81 : decode cX11_init 81 = .ok (.aload_n 0, 1) := by decide +kernel
theorem dX11_init_82 : decode cX11_init 82 = .ok (.bipush 7, 2) := by decide +kernel
theorem dX11_init_84 : decode cX11_init 84 = .ok (.newarray .int, 2) := by decide +kernel
theorem dX11_init_86 : decode cX11_init 86 = .ok (.putfield 41, 3) := by decide +kernel
theorem dX11_init_89 : decode cX11_init 89 = .ok (.aload_n 0, 1) := by decide +kernel
theorem dX11_init_90 : decode cX11_init 90 = .ok (.bipush 7, 2) := by decide +kernel
theorem dX11_init_92 : decode cX11_init 92 = .ok (.newarray .int, 2) := by decide +kernel
theorem dX11_init_94 : decode cX11_init 94 = .ok (.putfield 44, 3) := by decide +kernel
theorem dX11_init_97 : decode cX11_init 97 = .ok (.aload_n 0, 1) := by decide +kernel
theorem dX11_init_98 : decode cX11_init 98 = .ok (.iconst 4, 1) := by decide +kernel
theorem dX11_init_99 : decode cX11_init 99 = .ok (.newarray .int, 2) := by decide +kernel
theorem dX11_init_101 : decode cX11_init 101 = .ok (.putfield 47, 3) := by decide +kernel
theorem dX11_init_104 : decode cX11_init 104 = .ok (.aload_n 0, 1) := by decide +kernel
theorem dX11_init_105 : decode cX11_init 105 = .ok (.sipush 464, 3) := by decide +kernel
theorem dX11_init_108 : decode cX11_init 108 = .ok (.newarray .int, 2) := by decide +kernel
theorem dX11_init_110 : decode cX11_init 110 = .ok (.putfield 50, 3) := by decide +kernel
theorem dX11_init_113 : decode cX11_init 113 = .ok (.aload_n 0, 1) := by decide +kernel
theorem dX11_init_114 : decode cX11_init 114 = .ok (.bipush 29, 2) := by decide +kernel
theorem dX11_init_116 : decode cX11_init 116 = .ok (.newarray .int, 2) := by decide +kernel
theorem dX11_init_118 : decode cX11_init 118 = .ok (.putfield 53, 3) := by decide +kernel
theorem dX11_init_121 : decode cX11_init 121 = .ok (.aload_n 0, 1) := by decide +kernel
theorem dX11_init_122 : decode cX11_init 122 = .ok (.bipush 70, 2) := by decide +kernel
theorem dX11_init_124 : decode cX11_init 124 = .ok (.newarray .int, 2) := by decide +kernel
theorem dX11_init_126 : decode cX11_init 126 = .ok (.putfield 56, 3) := by decide +kernel
theorem dX11_init_129 : decode cX11_init 129 = .ok (.aload_n 0, 1) := by decide +kernel
theorem dX11_init_130 : decode cX11_init 130 = .ok (.bipush 6, 2) := by decide +kernel
theorem dX11_init_132 : decode cX11_init 132 = .ok (.newarray .int, 2) := by decide +kernel
theorem dX11_init_134 : decode cX11_init 134 = .ok (.putfield 59, 3) := by decide +kernel
theorem dX11_init_137 : decode cX11_init 137 = .ok (.aload_n 0, 1) := by decide +kernel
theorem dX11_init_138 : decode cX11_init 138 = .ok (.bipush 6, 2) := by decide +kernel
theorem dX11_init_140 : decode cX11_init 140 = .ok (.newarray .int, 2) := by decide +kernel
theorem dX11_init_142 : decode cX11_init 142 = .ok (.putfield 62, 3) := by decide +kernel
theorem dX11_init_145 : decode cX11_init 145 = .ok (.aload_n 0, 1) := by decide +kernel
theorem dX11_init_146 : decode cX11_init 146 = .ok (.bipush 15, 2) := by decide +kernel
theorem dX11_init_148 : decode cX11_init 148 = .ok (.newarray .int, 2) := by decide +kernel
theorem dX11_init_150 : decode cX11_init 150 = .ok (.putfield 65, 3) := by decide +kernel
theorem dX11_init_153 : decode cX11_init 153 = .ok (.aload_n 0, 1) := by decide +kernel
theorem dX11_init_154 : decode cX11_init 154 = .ok (.bipush 15, 2) := by decide +kernel
theorem dX11_init_156 : decode cX11_init 156 = .ok (.newarray .int, 2) := by decide +kernel
theorem dX11_init_158 : decode cX11_init 158 = .ok (.putfield 68, 3) := by decide +kernel
theorem dX11_init_161 : decode cX11_init 161 = .ok (.aload_n 0, 1) := by decide +kernel
theorem dX11_init_162 : decode cX11_init 162 = .ok (.bipush 60, 2) := by decide +kernel
theorem dX11_init_164 : decode cX11_init 164 = .ok (.newarray .int, 2) := by decide +kernel
theorem dX11_init_166 : decode cX11_init 166 = .ok (.putfield 71, 3) := by decide +kernel
theorem dX11_init_169 : decode cX11_init 169 = .ok (.aload_n 0, 1) := by decide +kernel
theorem dX11_init_170 : decode cX11_init 170 = .ok (.iconst 2, 1) := by decide +kernel
theorem dX11_init_171 : decode cX11_init 171 = .ok (.newarray .boolean, 2) := by decide +kernel
theorem dX11_init_173 : decode cX11_init 173 = .ok (.putfield 74, 3) := by decide +kernel
theorem dX11_init_176 : decode cX11_init 176 = .ok (.aload_n 0, 1) := by decide +kernel
theorem dX11_init_177 : decode cX11_init 177 = .ok (.iconst 0, 1) := by decide +kernel
theorem dX11_init_178 : decode cX11_init 178 = .ok (.putfield 78, 3) := by decide +kernel
theorem dX11_init_181 : decode cX11_init 181 = .ok (.return_, 1) := by decide +kernel
theorem dX11_in_0 : decode cX11_in 0 = .ok (.lload_n 0, 1) := by decide +kernel
theorem dX11_in_1 : decode cX11_in 1 = .ok (.lload_n 2, 1) := by decide +kernel
theorem dX11_in_2 : decode cX11_in 2 = .ok (.lcmp, 1) := by decide +kernel
theorem dX11_in_3 : decode cX11_in 3 = .ok (.ifCond .lt 14, 3) := by decide +kernel
theorem dX11_in_6 : decode cX11_in 6 = .ok (.lload_n 0, 1) := by decide +kernel
theorem dX11_in_7 : decode cX11_in 7 = .ok (.lload 4, 2) := by decide +kernel
theorem dX11_in_9 : decode cX11_in 9 = .ok (.lcmp, 1) := by decide +kernel
theorem dX11_in_10 : decode cX11_in 10 = .ok (.ifCond .gt 7, 3) := by decide +kernel
theorem dX11_in_13 : decode cX11_in 13 = .ok (.iconst 1, 1) := by decide +kernel
theorem dX11_in_14 : decode cX11_in 14 = .ok (.goto 4, 3) := by decide +kernel
theorem dX11_in_17 : decode cX11_in 17 = .ok (.iconst 0, 1) := by decide +kernel
theorem dX11_in_18 : decode cX11_in 18 = .ok (.ireturn, 1) := by decide +kernel
theorem dX11_has_0 : decode cX11_has 0 = .ok (.iload_n 0, 1) := by decide +kernel
theorem dX11_has_1 : decode cX11_has 1 = .ok (.iload_n 1, 1) := by decide +kernel
theorem dX11_has_2 : decode cX11_has 2 = .ok (.ishr, 1) := by decide +kernel
theorem dX11_has_3 : decode cX11_has 3 = .ok (.iconst 1, 1) := by decide +kernel
theorem dX11_has_4 : decode cX11_has 4 = .ok (.iand, 1) := by decide +kernel
theorem dX11_has_5 : decode cX11_has 5 = .ok (.iconst 1, 1) := by decide +kernel
theorem dX11_has_6 : decode cX11_has 6 = .ok (.if_icmp .ne 7, 3) := by decide +kernel
theorem dX11_has_9 : decode cX11_has 9 = .ok (.iconst 1, 1) := by decide +kernel
theorem dX11_has_10 : decode cX11_has 10 = .ok (.goto 4, 3) := by decide +kernel
theorem dX11_has_13 : decode cX11_has 13 = .ok (.iconst 0, 1) := by decide +kernel
theorem dX11_has_14 : decode cX11_has 14 = .ok (.ireturn, 1) := by decide +kernel
theorem dX11_bits_0 : decode cX11_bits 0 = .ok (.iconst 0, 1) := by decide +kernel
theorem dX11_bits_1 : decode cX11_bits 1 = .ok (.istore_n 1, 1) := by decide +kernel
theorem dX11_bits_2 : decode cX11_bits 2 = .ok (.iconst 0, 1) := by decide +kernel
theorem dX11_bits_3 : decode cX11_bits 3 = .ok (.istore_n 2, 1) := by decide +kernel
theorem dX11_bits_4 : decode cX11_bits 4 = .ok (.iload_n 2, 1) := by decide +kernel
theorem dX11_bits_5 : decode cX11_bits 5 = .ok (.bipush 9, 2) := by decide +kernel
theorem dX11_bits_7 : decode cX11_bits 7 = .ok (.if_icmp .ge 17, 3) := by decide +kernel
theorem dX11_bits_10 : decode cX11_bits 10 = .ok (.iload_n 1, 1) := by decide +kernel
theorem dX11_bits_11 : decode cX11_bits 11 = .ok (.iload_n 0, 1) := by decide +kernel
theorem dX11_bits_12 : decode cX11_bits 12 = .ok (.iload_n 2, 1) := by decide +kernel
theorem dX11_bits_13 : decode cX11_bits 13 = .ok (.ishr, 1) := by decide +kernel
theorem dX11_bits_14 : decode cX11_bits 14 = .ok (.iconst 1, 1) := by decide +kernel
theorem dX11_bits_15 : decode cX11_bits 15 = .ok (.iand, 1) := by decide +kernel
theorem dX11_bits_16 : decode cX11_bits 16 = .ok (.iadd, 1) := by decide +kernel
theorem dX11_bits_17 : decode cX11_bits 17 = .ok (.istore_n 1, 1) := by decide +kernel
theorem dX11_bits_18 : decode cX11_bits 18 = .ok (.iinc 2 1, 3) := by decide +kernel
theorem dX11_bits_21 : decode cX11_bits 21 = .ok (.goto (-17), 3) := by decide +kernel
theorem dX11_bits_24 : decode cX11_bits 24 = .ok (.iload_n 1, 1) := by decide +kernel
theorem dX11_bits_25 : decode cX11_bits 25 = .ok (.ireturn, 1) := by decide +kernel
theorem dX11_isSinger_0 : decode cX11_isSinger 0 = .ok (.iload_n 1, 1) := by decide +kernel
theorem dX11_isSinger_1 : decode cX11_isSinger 1 = .ok (.i2l, 1) := by decide +kernel
theorem dX11_isSinger_2 : decode cX11_isSinger 2 = .ok (.lconst 0, 1) := by decide +kernel
theorem dX11_isSinger_3 : decode cX11_isSinger 3 = .ok (.aload_n 0, 1) := by decide +kernel
theorem dX11_isSinger_4 : decode cX11_isSinger 4 = .ok (.getfield 81, 3) := by decide +kernel
theorem dX11_isSinger_7 : decode cX11_isSinger 7 = .ok (.iconst 1, 1) := by decide +kernel
theorem dX11_isSinger_8 : decode cX11_isSinger 8 = .ok (.isub, 1) := by decide +kernel
theorem dX11_isSinger_9 : decode cX11_isSinger 9 = .ok (.i2l, 1) := by decide +kernel
theorem dX11_isSinger_10 : decode cX11_isSinger 10 = .ok (.invokestatic 84, 3) := by decide +kernel
theorem dX11_isSinger_13 : decode cX11_isSinger 13 = .ok (.ireturn, 1) := by decide +kernel
theorem dX11_isPlace_0 : decode cX11_isPlace 0 = .ok (.iload_n 1, 1) := by decide +kernel
theorem dX11_isPlace_1 : decode cX11_isPlace 1 = .ok (.i2l, 1) := by decide +kernel
theorem dX11_isPlace_2 : decode cX11_isPlace 2 = .ok (.lconst 0, 1) := by decide +kernel
theorem dX11_isPlace_3 : decode cX11_isPlace 3 = .ok (.aload_n 0, 1) := by decide +kernel
theorem dX11_isPlace_4 : decode cX11_isPlace 4 = .ok (.getfield 88, 3) := by decide +kernel
theorem dX11_isPlace_7 : decode cX11_isPlace 7 = .ok (.iconst 1, 1) := by decide +kernel
theorem dX11_isPlace_8 : decode cX11_isPlace 8 = .ok (.isub, 1) := by decide +kernel
theorem dX11_isPlace_9 : decode cX11_isPlace 9 = .ok (.i2l, 1) := by decide +kernel
theorem dX11_isPlace_10 : decode cX11_isPlace 10 = .ok (.invokestatic 84, 3) := by decide +kernel
theorem dX11_isPlace_13 : decode cX11_isPlace 13 = .ok (.ireturn, 1) := by decide +kernel
theorem dX11_isSet_0 : decode cX11_isSet 0 = .ok (.iload_n 1, 1) := by decide +kernel
theorem dX11_isSet_1 : decode cX11_isSet 1 = .ok (.i2l, 1) := by decide +kernel
theorem dX11_isSet_2 : decode cX11_isSet 2 = .ok (.lconst 0, 1) := by decide +kernel
theorem dX11_isSet_3 : decode cX11_isSet 3 = .ok (.iconst 1, 1) := by decide +kernel
theorem dX11_isSet_4 : decode cX11_isSet 4 = .ok (.aload_n 0, 1) := by decide +kernel
theorem dX11_isSet_5 : decode cX11_isSet 5 = .ok (.getfield 81, 3) := by decide +kernel
theorem dX11_isSet_8 : decode cX11_isSet 8 = .ok (.ishl, 1) := by decide +kernel
theorem dX11_isSet_9 : decode cX11_isSet 9 = .ok (.iconst 1, 1) := by decide +kernel
theorem dX11_isSet_10 : decode cX11_isSet 10 = .ok (.isub, 1) := by decide +kernel
theorem dX11_isSet_11 : decode cX11_isSet 11 = .ok (.i2l, 1) := by decide +kernel
theorem dX11_isSet_12 : decode cX11_isSet 12 = .ok (.invokestatic 84, 3) := by decide +kernel
theorem dX11_isSet_15 : decode cX11_isSet 15 = .ok (.ireturn, 1) := by decide +kernel
theorem dX11_feed_0 : decode cX11_feed 0 = .ok (.iload_n 1, 1) := by decide +kernel
theorem dX11_feed_1 : decode cX11_feed 1 = .ok (.i2l, 1) := by decide +kernel
theorem dX11_feed_2 : decode cX11_feed 2 = .ok (.lconst 0, 1) := by decide +kernel
theorem dX11_feed_3 : decode cX11_feed 3 = .ok (.ldc2_w 91, 3) := by decide +kernel
theorem dX11_feed_6 : decode cX11_feed 6 = .ok (.invokestatic 84, 3) := by decide +kernel
theorem dX11_feed_9 : decode cX11_feed 9 = .ok (.ifCond .ne 6, 3) := by decide +kernel
theorem dX11_feed_12 : decode cX11_feed 12 = .ok (.ldc 93, 2) := by decide +kernel
theorem dX11_feed_14 : decode cX11_feed 14 = .ok (.ireturn, 1) := by decide +kernel
theorem dX11_feed_15 : decode cX11_feed 15 = .ok (.aload_n 0, 1) := by decide +kernel
theorem dX11_feed_16 : decode cX11_feed 16 = .ok (.getfield 94, 3) := by decide +kernel
theorem dX11_feed_19 : decode cX11_feed 19 = .ok (.sipush 240, 3) := by decide +kernel
theorem dX11_feed_22 : decode cX11_feed 22 = .ok (.if_icmp .ne 6, 3) := by decide +kernel
theorem dX11_feed_25 : decode cX11_feed 25 = .ok (.ldc 97, 2) := by decide +kernel
theorem dX11_feed_27 : decode cX11_feed 27 = .ok (.ireturn, 1) := by decide +kernel
theorem dX11_feed_28 : decode cX11_feed 28 = .ok (.aload_n 0, 1) := by decide +kernel
theorem dX11_feed_29 : decode cX11_feed 29 = .ok (.getfield 28, 3) := by decide +kernel
theorem dX11_feed_32 : decode cX11_feed 32 = .ok (.aload_n 0, 1) := by decide +kernel
theorem dX11_feed_33 : decode cX11_feed 33 = .ok (.getfield 94, 3) := by decide +kernel
theorem dX11_feed_36 : decode cX11_feed 36 = .ok (.iload_n 1, 1) := by decide +kernel
theorem dX11_feed_37 : decode cX11_feed 37 = .ok (.iastore, 1) := by decide +kernel
theorem dX11_feed_38 : decode cX11_feed 38 = .ok (.aload_n 0, 1) := by decide +kernel
theorem dX11_feed_39 : decode cX11_feed 39 = .ok (.dup, 1) := by decide +kernel
theorem dX11_feed_40 : decode cX11_feed 40 = .ok (.getfield 94, 3) := by decide +kernel
theorem dX11_feed_43 : decode cX11_feed 43 = .ok (.iconst 1, 1) := by decide +kernel
theorem dX11_feed_44 : decode cX11_feed 44 = .ok (.iadd, 1) := by decide +kernel
theorem dX11_feed_45 : decode cX11_feed 45 = .ok (.putfield 94, 3) := by decide +kernel
theorem dX11_feed_48 : decode cX11_feed 48 = .ok (.aload_n 0, 1) := by decide +kernel
theorem dX11_feed_49 : decode cX11_feed 49 = .ok (.getfield 94, 3) := by decide +kernel
theorem dX11_feed_52 : decode cX11_feed 52 = .ok (.ireturn, 1) := by decide +kernel
theorem dX11_here_0 : decode cX11_here 0 = .ok (.aload_n 0, 1) := by decide +kernel
theorem dX11_here_1 : decode cX11_here 1 = .ok (.getfield 98, 3) := by decide +kernel
theorem dX11_here_4 : decode cX11_here 4 = .ok (.aload_n 0, 1) := by decide +kernel
theorem dX11_here_5 : decode cX11_here 5 = .ok (.getfield 94, 3) := by decide +kernel
theorem dX11_here_8 : decode cX11_here 8 = .ok (.if_icmp .ge 30, 3) := by decide +kernel
theorem dX11_here_11 : decode cX11_here 11 = .ok (.aload_n 0, 1) := by decide +kernel
theorem dX11_here_12 : decode cX11_here 12 = .ok (.getfield 28, 3) := by decide +kernel
theorem dX11_here_15 : decode cX11_here 15 = .ok (.aload_n 0, 1) := by decide +kernel
theorem dX11_here_16 : decode cX11_here 16 = .ok (.getfield 98, 3) := by decide +kernel
theorem dX11_here_19 : decode cX11_here 19 = .ok (.iaload, 1) := by decide +kernel
theorem dX11_here_20 : decode cX11_here 20 = .ok (.bipush 32, 2) := by decide +kernel
theorem dX11_here_22 : decode cX11_here 22 = .ok (.if_icmp .ne 16, 3) := by decide +kernel
theorem dX11_here_25 : decode cX11_here 25 = .ok (.aload_n 0, 1) := by decide +kernel
theorem dX11_here_26 : decode cX11_here 26 = .ok (.dup, 1) := by decide +kernel
theorem dX11_here_27 : decode cX11_here 27 = .ok (.getfield 98, 3) := by decide +kernel
theorem dX11_here_30 : decode cX11_here 30 = .ok (.iconst 1, 1) := by decide +kernel
theorem dX11_here_31 : decode cX11_here 31 = .ok (.iadd, 1) := by decide +kernel
theorem dX11_here_32 : decode cX11_here 32 = .ok (.putfield 98, 3) := by decide +kernel
theorem dX11_here_35 : decode cX11_here 35 = .ok (.goto (-35), 3) := by decide +kernel
theorem dX11_here_38 : decode cX11_here 38 = .ok (.aload_n 0, 1) := by decide +kernel
theorem dX11_here_39 : decode cX11_here 39 = .ok (.getfield 98, 3) := by decide +kernel
theorem dX11_here_42 : decode cX11_here 42 = .ok (.aload_n 0, 1) := by decide +kernel
theorem dX11_here_43 : decode cX11_here 43 = .ok (.getfield 94, 3) := by decide +kernel
theorem dX11_here_46 : decode cX11_here 46 = .ok (.if_icmp .ge 15, 3) := by decide +kernel
theorem dX11_here_49 : decode cX11_here 49 = .ok (.aload_n 0, 1) := by decide +kernel
theorem dX11_here_50 : decode cX11_here 50 = .ok (.getfield 28, 3) := by decide +kernel
theorem dX11_here_53 : decode cX11_here 53 = .ok (.aload_n 0, 1) := by decide +kernel
theorem dX11_here_54 : decode cX11_here 54 = .ok (.getfield 98, 3) := by decide +kernel
theorem dX11_here_57 : decode cX11_here 57 = .ok (.iaload, 1) := by decide +kernel
theorem dX11_here_58 : decode cX11_here 58 = .ok (.goto 4, 3) := by decide +kernel
theorem dX11_here_61 : decode cX11_here 61 = .ok (.iconst (-1), 1) := by decide +kernel
theorem dX11_here_62 : decode cX11_here 62 = .ok (.ireturn, 1) := by decide +kernel
theorem dX11_fails_0 : decode cX11_fails 0 = .ok (.aload_n 0, 1) := by decide +kernel
theorem dX11_fails_1 : decode cX11_fails 1 = .ok (.iload_n 2, 1) := by decide +kernel
theorem dX11_fails_2 : decode cX11_fails 2 = .ok (.putfield 31, 3) := by decide +kernel
theorem dX11_fails_5 : decode cX11_fails 5 = .ok (.iload_n 1, 1) := by decide +kernel
theorem dX11_fails_6 : decode cX11_fails 6 = .ok (.ireturn, 1) := by decide +kernel
theorem dX11_takeNumber_0 : decode cX11_takeNumber 0 = .ok (.aload_n 0, 1) := by decide +kernel
theorem dX11_takeNumber_1 : decode cX11_takeNumber 1 = .ok (.invokevirtual 101, 3) := by decide +kernel
theorem dX11_takeNumber_4 : decode cX11_takeNumber 4 = .ok (.istore_n 3, 1) := by decide +kernel
theorem dX11_takeNumber_5 : decode cX11_takeNumber 5 = .ok (.iload_n 3, 1) := by decide +kernel
theorem dX11_takeNumber_6 : decode cX11_takeNumber 6 = .ok (.i2l, 1) := by decide +kernel
theorem dX11_takeNumber_7 : decode cX11_takeNumber 7 = .ok (.ldc2_w 105, 3) := by decide +kernel
theorem dX11_takeNumber_10 : decode cX11_takeNumber 10 = .ok (.ldc2_w 107, 3) := by decide +kernel
theorem dX11_takeNumber_13 : decode cX11_takeNumber 13 = .ok (.invokestatic 84, 3) := by decide +kernel
theorem dX11_takeNumber_16 : decode cX11_takeNumber 16 = .ok (.ifCond .ne 13, 3) := by decide +kernel
theorem dX11_takeNumber_19 : decode cX11_takeNumber 19 = .ok (.aload_n 0, 1) := by decide +kernel
theorem dX11_takeNumber_20 : decode cX11_takeNumber 20 = .ok (.iconst 1, 1) := by decide +kernel
theorem dX11_takeNumber_21 : decode cX11_takeNumber 21 = .ok (.aload_n 0, 1) := by decide +kernel
theorem dX11_takeNumber_22 : decode cX11_takeNumber 22 = .ok (.getfield 98, 3) := by decide +kernel
theorem dX11_takeNumber_25 : decode cX11_takeNumber 25 = .ok (.invokevirtual 109, 3) := by decide +kernel
theorem dX11_takeNumber_28 : decode cX11_takeNumber 28 = .ok (.ireturn, 1) := by decide +kernel
theorem dX11_takeNumber_29 : decode cX11_takeNumber 29 = .ok (.aload_n 0, 1) := by decide +kernel
theorem dX11_takeNumber_30 : decode cX11_takeNumber 30 = .ok (.aload_n 0, 1) := by decide +kernel
theorem dX11_takeNumber_31 : decode cX11_takeNumber 31 = .ok (.getfield 98, 3) := by decide +kernel
theorem dX11_takeNumber_34 : decode cX11_takeNumber 34 = .ok (.putfield 113, 3) := by decide +kernel
theorem dX11_takeNumber_37 : decode cX11_takeNumber 37 = .ok (.aload_n 0, 1) := by decide +kernel
theorem dX11_takeNumber_38 : decode cX11_takeNumber 38 = .ok (.iconst 0, 1) := by decide +kernel
theorem dX11_takeNumber_39 : decode cX11_takeNumber 39 = .ok (.putfield 116, 3) := by decide +kernel
theorem dX11_takeNumber_42 : decode cX11_takeNumber 42 = .ok (.aload_n 0, 1) := by decide +kernel
theorem dX11_takeNumber_43 : decode cX11_takeNumber 43 = .ok (.getfield 98, 3) := by decide +kernel
theorem dX11_takeNumber_46 : decode cX11_takeNumber 46 = .ok (.aload_n 0, 1) := by decide +kernel
theorem dX11_takeNumber_47 : decode cX11_takeNumber 47 = .ok (.getfield 94, 3) := by decide +kernel
theorem dX11_takeNumber_50 : decode cX11_takeNumber 50 = .ok (.if_icmp .ge 79, 3) := by decide +kernel
theorem dX11_takeNumber_53 : decode cX11_takeNumber 53 = .ok (.aload_n 0, 1) := by decide +kernel
theorem dX11_takeNumber_54 : decode cX11_takeNumber 54 = .ok (.getfield 28, 3) := by decide +kernel
theorem dX11_takeNumber_57 : decode cX11_takeNumber 57 = .ok (.aload_n 0, 1) := by decide +kernel
theorem dX11_takeNumber_58 : decode cX11_takeNumber 58 = .ok (.getfield 98, 3) := by decide +kernel
theorem dX11_takeNumber_61 : decode cX11_takeNumber 61 = .ok (.iaload, 1) := by decide +kernel
theorem dX11_takeNumber_62 : decode cX11_takeNumber 62 = .ok (.i2l, 1) := by decide +kernel
theorem dX11_takeNumber_63 : decode cX11_takeNumber 63 = .ok (.ldc2_w 105, 3) := by decide +kernel
theorem dX11_takeNumber_66 : decode cX11_takeNumber 66 = .ok (.ldc2_w 107, 3) := by decide +kernel
theorem dX11_takeNumber_69 : decode cX11_takeNumber 69 = .ok (.invokestatic 84, 3) := by decide +kernel
theorem dX11_takeNumber_72 : decode cX11_takeNumber 72 = .ok (.ifCond .eq 57, 3) := by decide +kernel
theorem dX11_takeNumber_75 : decode cX11_takeNumber 75 = .ok (.aload_n 0, 1) := by decide +kernel
theorem dX11_takeNumber_76 : decode cX11_takeNumber 76 = .ok (.aload_n 0, 1) := by decide +kernel
theorem dX11_takeNumber_77 : decode cX11_takeNumber 77 = .ok (.getfield 116, 3) := by decide +kernel
theorem dX11_takeNumber_80 : decode cX11_takeNumber 80 = .ok (.sipush 10000, 3) := by decide +kernel
theorem dX11_takeNumber_83 : decode cX11_takeNumber 83 = .ok (.if_icmp .le 10, 3) := by decide +kernel
theorem dX11_takeNumber_86 : decode cX11_takeNumber 86 = .ok (.aload_n 0, 1) := by decide +kernel
theorem dX11_takeNumber_87 : decode cX11_takeNumber 87 = .ok (.getfield 116, 3) := by decide +kernel
theorem dX11_takeNumber_90 : decode cX11_takeNumber 90 = .ok (.goto 23, 3) := by decide +kernel
theorem dX11_takeNumber_93 : decode cX11_takeNumber 93 = .ok (.bipush 10, 2) := by decide +kernel
theorem dX11_takeNumber_95 : decode cX11_takeNumber 95 = .ok (.aload_n 0, 1) := by decide +kernel
theorem dX11_takeNumber_96 : decode cX11_takeNumber 96 = .ok (.getfield 116, 3) := by decide +kernel
theorem dX11_takeNumber_99 : decode cX11_takeNumber 99 = .ok (.imul, 1) := by decide +kernel
theorem dX11_takeNumber_100 : decode cX11_takeNumber 100 = .ok (.aload_n 0, 1) := by decide +kernel
theorem dX11_takeNumber_101 : decode cX11_takeNumber 101 = .ok (.getfield 28, 3) := by decide +kernel
theorem dX11_takeNumber_104 : decode cX11_takeNumber 104 = .ok (.aload_n 0, 1) := by decide +kernel
theorem dX11_takeNumber_105 : decode cX11_takeNumber 105 = .ok (.getfield 98, 3) := by decide +kernel
theorem dX11_takeNumber_108 : decode cX11_takeNumber 108 = .ok (.iaload, 1) := by decide +kernel
theorem dX11_takeNumber_109 : decode cX11_takeNumber 109 = .ok (.iadd, 1) := by decide +kernel
theorem dX11_takeNumber_110 : decode cX11_takeNumber 110 = .ok (.bipush 48, 2) := by decide +kernel
theorem dX11_takeNumber_112 : decode cX11_takeNumber 112 = .ok (.isub, 1) := by decide +kernel
theorem dX11_takeNumber_113 : decode cX11_takeNumber 113 = .ok (.putfield 116, 3) := by decide +kernel
theorem dX11_takeNumber_116 : decode cX11_takeNumber 116 = .ok (.aload_n 0, 1) := by decide +kernel
theorem dX11_takeNumber_117 : decode cX11_takeNumber 117 = .ok (.dup, 1) := by decide +kernel
theorem dX11_takeNumber_118 : decode cX11_takeNumber 118 = .ok (.getfield 98, 3) := by decide +kernel
theorem dX11_takeNumber_121 : decode cX11_takeNumber 121 = .ok (.iconst 1, 1) := by decide +kernel
theorem dX11_takeNumber_122 : decode cX11_takeNumber 122 = .ok (.iadd, 1) := by decide +kernel
theorem dX11_takeNumber_123 : decode cX11_takeNumber 123 = .ok (.putfield 98, 3) := by decide +kernel
theorem dX11_takeNumber_126 : decode cX11_takeNumber 126 = .ok (.goto (-84), 3) := by decide +kernel
theorem dX11_takeNumber_129 : decode cX11_takeNumber 129 = .ok (.aload_n 0, 1) := by decide +kernel
theorem dX11_takeNumber_130 : decode cX11_takeNumber 130 = .ok (.getfield 98, 3) := by decide +kernel
theorem dX11_takeNumber_133 : decode cX11_takeNumber 133 = .ok (.aload_n 0, 1) := by decide +kernel
theorem dX11_takeNumber_134 : decode cX11_takeNumber 134 = .ok (.getfield 113, 3) := by decide +kernel
theorem dX11_takeNumber_137 : decode cX11_takeNumber 137 = .ok (.isub, 1) := by decide +kernel
theorem dX11_takeNumber_138 : decode cX11_takeNumber 138 = .ok (.iconst 3, 1) := by decide +kernel
theorem dX11_takeNumber_139 : decode cX11_takeNumber 139 = .ok (.if_icmp .gt 18, 3) := by decide +kernel
theorem dX11_takeNumber_142 : decode cX11_takeNumber 142 = .ok (.aload_n 0, 1) := by decide +kernel
theorem dX11_takeNumber_143 : decode cX11_takeNumber 143 = .ok (.getfield 116, 3) := by decide +kernel
theorem dX11_takeNumber_146 : decode cX11_takeNumber 146 = .ok (.i2l, 1) := by decide +kernel
theorem dX11_takeNumber_147 : decode cX11_takeNumber 147 = .ok (.iload_n 1, 1) := by decide +kernel
theorem dX11_takeNumber_148 : decode cX11_takeNumber 148 = .ok (.i2l, 1) := by decide +kernel
theorem dX11_takeNumber_149 : decode cX11_takeNumber 149 = .ok (.iload_n 2, 1) := by decide +kernel
theorem dX11_takeNumber_150 : decode cX11_takeNumber 150 = .ok (.i2l, 1) := by decide +kernel
theorem dX11_takeNumber_151 : decode cX11_takeNumber 151 = .ok (.invokestatic 84, 3) := by decide +kernel
theorem dX11_takeNumber_154 : decode cX11_takeNumber 154 = .ok (.ifCond .ne 15, 3) := by decide +kernel
theorem dX11_takeNumber_157 : decode cX11_takeNumber 157 = .ok (.aload_n 0, 1) := by decide +kernel
theorem dX11_takeNumber_158 : decode cX11_takeNumber 158 = .ok (.iconst 2, 1) := by decide +kernel
theorem dX11_takeNumber_159 : decode cX11_takeNumber 159 = .ok (.aload_n 0, 1) := by decide +kernel
theorem dX11_takeNumber_160 : decode cX11_takeNumber 160 = .ok (.getfield 113, 3) := by decide +kernel
theorem dX11_takeNumber_163 : decode cX11_takeNumber 163 = .ok (.invokevirtual 109, 3) := by decide +kernel
theorem dX11_takeNumber_166 : decode cX11_takeNumber 166 = .ok (.goto 4, 3) := by decide +kernel
theorem dX11_takeNumber_169 : decode cX11_takeNumber 169 = .ok (.iconst 0, 1) := by decide +kernel
theorem dX11_takeNumber_170 : decode cX11_takeNumber 170 = .ok (.ireturn, 1) := by decide +kernel
theorem dX11_into_0 : decode cX11_into 0 = .ok (.aload_n 0, 1) := by decide +kernel
theorem dX11_into_1 : decode cX11_into 1 = .ok (.iload_n 3, 1) := by decide +kernel
theorem dX11_into_2 : decode cX11_into 2 = .ok (.iload 4, 2) := by decide +kernel
theorem dX11_into_4 : decode cX11_into 4 = .ok (.invokevirtual 119, 3) := by decide +kernel
theorem dX11_into_7 : decode cX11_into 7 = .ok (.istore 5, 2) := by decide +kernel
theorem dX11_into_9 : decode cX11_into 9 = .ok (.aload_n 1, 1) := by decide +kernel
theorem dX11_into_10 : decode cX11_into 10 = .ok (.iload_n 2, 1) := by decide +kernel
theorem dX11_into_11 : decode cX11_into 11 = .ok (.aload_n 0, 1) := by decide +kernel
theorem dX11_into_12 : decode cX11_into 12 = .ok (.getfield 116, 3) := by decide +kernel
theorem dX11_into_15 : decode cX11_into 15 = .ok (.iastore, 1) := by decide +kernel
theorem dX11_into_16 : decode cX11_into 16 = .ok (.iload 5, 2) := by decide +kernel
theorem dX11_into_18 : decode cX11_into 18 = .ok (.ireturn, 1) := by decide +kernel
theorem dX11_takeDuchy_0 : decode cX11_takeDuchy 0 = .ok (.aload_n 0, 1) := by decide +kernel
theorem dX11_takeDuchy_1 : decode cX11_takeDuchy 1 = .ok (.iconst 1, 1) := by decide +kernel
theorem dX11_takeDuchy_2 : decode cX11_takeDuchy 2 = .ok (.bipush 9, 2) := by decide +kernel
theorem dX11_takeDuchy_4 : decode cX11_takeDuchy 4 = .ok (.invokevirtual 119, 3) := by decide +kernel
theorem dX11_takeDuchy_7 : decode cX11_takeDuchy 7 = .ok (.istore_n 1, 1) := by decide +kernel
theorem dX11_takeDuchy_8 : decode cX11_takeDuchy 8 = .ok (.aload_n 0, 1) := by decide +kernel
theorem dX11_takeDuchy_9 : decode cX11_takeDuchy 9 = .ok (.aload_n 0, 1) := by decide +kernel
theorem dX11_takeDuchy_10 : decode cX11_takeDuchy 10 = .ok (.getfield 116, 3) := by decide +kernel
theorem dX11_takeDuchy_13 : decode cX11_takeDuchy 13 = .ok (.putfield 122, 3) := by decide +kernel
theorem dX11_takeDuchy_16 : decode cX11_takeDuchy 16 = .ok (.iload_n 1, 1) := by decide +kernel
theorem dX11_takeDuchy_17 : decode cX11_takeDuchy 17 = .ok (.ifCond .le 7, 3) := by decide +kernel
theorem dX11_takeDuchy_20 : decode cX11_takeDuchy 20 = .ok (.iload_n 1, 1) := by decide +kernel
theorem dX11_takeDuchy_21 : decode cX11_takeDuchy 21 = .ok (.goto 9, 3) := by decide +kernel
theorem dX11_takeDuchy_24 : decode cX11_takeDuchy 24 = .ok (.aload_n 0, 1) := by decide +kernel
theorem dX11_takeDuchy_25 : decode cX11_takeDuchy 25 = .ok (.iconst 1, 1) := by decide +kernel
theorem dX11_takeDuchy_26 : decode cX11_takeDuchy 26 = .ok (.iconst 4, 1) := by decide +kernel
theorem dX11_takeDuchy_27 : decode cX11_takeDuchy 27 = .ok (.invokevirtual 119, 3) := by decide +kernel
theorem dX11_takeDuchy_30 : decode cX11_takeDuchy 30 = .ok (.istore_n 1, 1) := by decide +kernel
theorem dX11_takeDuchy_31 : decode cX11_takeDuchy 31 = .ok (.aload_n 0, 1) := by decide +kernel
theorem dX11_takeDuchy_32 : decode cX11_takeDuchy 32 = .ok (.aload_n 0, 1) := by decide +kernel
theorem dX11_takeDuchy_33 : decode cX11_takeDuchy 33 = .ok (.getfield 116, 3) := by decide +kernel
theorem dX11_takeDuchy_36 : decode cX11_takeDuchy 36 = .ok (.putfield 125, 3) := by decide +kernel
theorem dX11_takeDuchy_39 : decode cX11_takeDuchy 39 = .ok (.iload_n 1, 1) := by decide +kernel
theorem dX11_takeDuchy_40 : decode cX11_takeDuchy 40 = .ok (.ifCond .le 7, 3) := by decide +kernel
theorem dX11_takeDuchy_43 : decode cX11_takeDuchy 43 = .ok (.iload_n 1, 1) := by decide +kernel
theorem dX11_takeDuchy_44 : decode cX11_takeDuchy 44 = .ok (.goto 10, 3) := by decide +kernel
theorem dX11_takeDuchy_47 : decode cX11_takeDuchy 47 = .ok (.aload_n 0, 1) := by decide +kernel
theorem dX11_takeDuchy_48 : decode cX11_takeDuchy 48 = .ok (.iconst 1, 1) := by decide +kernel
theorem dX11_takeDuchy_49 : decode cX11_takeDuchy 49 = .ok (.bipush 9, 2) := by decide +kernel
theorem dX11_takeDuchy_51 : decode cX11_takeDuchy 51 = .ok (.invokevirtual 119, 3) := by decide +kernel
theorem dX11_takeDuchy_54 : decode cX11_takeDuchy 54 = .ok (.istore_n 1, 1) := by decide +kernel
theorem dX11_takeDuchy_55 : decode cX11_takeDuchy 55 = .ok (.aload_n 0, 1) := by decide +kernel
theorem dX11_takeDuchy_56 : decode cX11_takeDuchy 56 = .ok (.aload_n 0, 1) := by decide +kernel
theorem dX11_takeDuchy_57 : decode cX11_takeDuchy 57 = .ok (.getfield 116, 3) := by decide +kernel
theorem dX11_takeDuchy_60 : decode cX11_takeDuchy 60 = .ok (.putfield 128, 3) := by decide +kernel
theorem dX11_takeDuchy_63 : decode cX11_takeDuchy 63 = .ok (.iload_n 1, 1) := by decide +kernel
theorem dX11_takeDuchy_64 : decode cX11_takeDuchy 64 = .ok (.ireturn, 1) := by decide +kernel
theorem dX11_takeSinger_0 : decode cX11_takeSinger 0 = .ok (.aload_n 0, 1) := by decide +kernel
theorem dX11_takeSinger_1 : decode cX11_takeSinger 1 = .ok (.getfield 131, 3) := by decide +kernel
theorem dX11_takeSinger_4 : decode cX11_takeSinger 4 = .ok (.istore_n 1, 1) := by decide +kernel
theorem dX11_takeSinger_5 : decode cX11_takeSinger 5 = .ok (.aload_n 0, 1) := by decide +kernel
theorem dX11_takeSinger_6 : decode cX11_takeSinger 6 = .ok (.dup, 1) := by decide +kernel
theorem dX11_takeSinger_7 : decode cX11_takeSinger 7 = .ok (.getfield 131, 3) := by decide +kernel
theorem dX11_takeSinger_10 : decode cX11_takeSinger 10 = .ok (.iconst 1, 1) := by decide +kernel
theorem dX11_takeSinger_11 : decode cX11_takeSinger 11 = .ok (.iadd, 1) := by decide +kernel
theorem dX11_takeSinger_12 : decode cX11_takeSinger 12 = .ok (.putfield 131, 3) := by decide +kernel
theorem dX11_takeSinger_15 : decode cX11_takeSinger 15 = .ok (.aload_n 0, 1) := by decide +kernel
theorem dX11_takeSinger_16 : decode cX11_takeSinger 16 = .ok (.aload_n 0, 1) := by decide +kernel
theorem dX11_takeSinger_17 : decode cX11_takeSinger 17 = .ok (.getfield 35, 3) := by decide +kernel
theorem dX11_takeSinger_20 : decode cX11_takeSinger 20 = .ok (.iload_n 1, 1) := by decide +kernel
theorem dX11_takeSinger_21 : decode cX11_takeSinger 21 = .ok (.iconst 0, 1) := by decide +kernel
theorem dX11_takeSinger_22 : decode cX11_takeSinger 22 = .ok (.iconst 3, 1) := by decide +kernel
theorem dX11_takeSinger_23 : decode cX11_takeSinger 23 = .ok (.invokevirtual 134, 3) := by decide +kernel
theorem dX11_takeSinger_26 : decode cX11_takeSinger 26 = .ok (.istore_n 2, 1) := by decide +kernel
theorem dX11_takeSinger_27 : decode cX11_takeSinger 27 = .ok (.iload_n 2, 1) := by decide +kernel
theorem dX11_takeSinger_28 : decode cX11_takeSinger 28 = .ok (.ifCond .le 7, 3) := by decide +kernel
theorem dX11_takeSinger_31 : decode cX11_takeSinger 31 = .ok (.iload_n 2, 1) := by decide +kernel
theorem dX11_takeSinger_32 : decode cX11_takeSinger 32 = .ok (.goto 19, 3) := by decide +kernel
theorem dX11_takeSinger_35 : decode cX11_takeSinger 35 = .ok (.aload_n 0, 1) := by decide +kernel
theorem dX11_takeSinger_36 : decode cX11_takeSinger 36 = .ok (.aload_n 0, 1) := by decide +kernel
theorem dX11_takeSinger_37 : decode cX11_takeSinger 37 = .ok (.getfield 38, 3) := by decide +kernel
theorem dX11_takeSinger_40 : decode cX11_takeSinger 40 = .ok (.iload_n 1, 1) := by decide +kernel
theorem dX11_takeSinger_41 : decode cX11_takeSinger 41 = .ok (.iconst 0, 1) := by decide +kernel
theorem dX11_takeSinger_42 : decode cX11_takeSinger 42 = .ok (.aload_n 0, 1) := by decide +kernel
theorem dX11_takeSinger_43 : decode cX11_takeSinger 43 = .ok (.getfield 125, 3) := by decide +kernel
theorem dX11_takeSinger_46 : decode cX11_takeSinger 46 = .ok (.iconst 1, 1) := by decide +kernel
theorem dX11_takeSinger_47 : decode cX11_takeSinger 47 = .ok (.isub, 1) := by decide +kernel
theorem dX11_takeSinger_48 : decode cX11_takeSinger 48 = .ok (.invokevirtual 134, 3) := by decide +kernel
theorem dX11_takeSinger_51 : decode cX11_takeSinger 51 = .ok (.istore_n 2, 1) := by decide +kernel
theorem dX11_takeSinger_52 : decode cX11_takeSinger 52 = .ok (.iload_n 2, 1) := by decide +kernel
theorem dX11_takeSinger_53 : decode cX11_takeSinger 53 = .ok (.ifCond .le 7, 3) := by decide +kernel
theorem dX11_takeSinger_56 : decode cX11_takeSinger 56 = .ok (.iload_n 2, 1) := by decide +kernel
theorem dX11_takeSinger_57 : decode cX11_takeSinger 57 = .ok (.goto 16, 3) := by decide +kernel
theorem dX11_takeSinger_60 : decode cX11_takeSinger 60 = .ok (.aload_n 0, 1) := by decide +kernel
theorem dX11_takeSinger_61 : decode cX11_takeSinger 61 = .ok (.aload_n 0, 1) := by decide +kernel
theorem dX11_takeSinger_62 : decode cX11_takeSinger 62 = .ok (.getfield 41, 3) := by decide +kernel
theorem dX11_takeSinger_65 : decode cX11_takeSinger 65 = .ok (.iload_n 1, 1) := by decide +kernel
theorem dX11_takeSinger_66 : decode cX11_takeSinger 66 = .ok (.iconst 0, 1) := by decide +kernel
theorem dX11_takeSinger_67 : decode cX11_takeSinger 67 = .ok (.sipush 999, 3) := by decide +kernel
theorem dX11_takeSinger_70 : decode cX11_takeSinger 70 = .ok (.invokevirtual 134, 3) := by decide +kernel
theorem dX11_takeSinger_73 : decode cX11_takeSinger 73 = .ok (.istore_n 2, 1) := by decide +kernel
theorem dX11_takeSinger_74 : decode cX11_takeSinger 74 = .ok (.iload_n 2, 1) := by decide +kernel
theorem dX11_takeSinger_75 : decode cX11_takeSinger 75 = .ok (.ifCond .le 7, 3) := by decide +kernel
theorem dX11_takeSinger_78 : decode cX11_takeSinger 78 = .ok (.iload_n 2, 1) := by decide +kernel
theorem dX11_takeSinger_79 : decode cX11_takeSinger 79 = .ok (.goto 21, 3) := by decide +kernel
theorem dX11_takeSinger_82 : decode cX11_takeSinger 82 = .ok (.aload_n 0, 1) := by decide +kernel
theorem dX11_takeSinger_83 : decode cX11_takeSinger 83 = .ok (.aload_n 0, 1) := by decide +kernel
theorem dX11_takeSinger_84 : decode cX11_takeSinger 84 = .ok (.getfield 44, 3) := by decide +kernel
theorem dX11_takeSinger_87 : decode cX11_takeSinger 87 = .ok (.iload_n 1, 1) := by decide +kernel
theorem dX11_takeSinger_88 : decode cX11_takeSinger 88 = .ok (.iconst 0, 1) := by decide +kernel
theorem dX11_takeSinger_89 : decode cX11_takeSinger 89 = .ok (.iconst 1, 1) := by decide +kernel
theorem dX11_takeSinger_90 : decode cX11_takeSinger 90 = .ok (.aload_n 0, 1) := by decide +kernel
theorem dX11_takeSinger_91 : decode cX11_takeSinger 91 = .ok (.getfield 128, 3) := by decide +kernel
theorem dX11_takeSinger_94 : decode cX11_takeSinger 94 = .ok (.ishl, 1) := by decide +kernel
theorem dX11_takeSinger_95 : decode cX11_takeSinger 95 = .ok (.iconst 1, 1) := by decide +kernel
theorem dX11_takeSinger_96 : decode cX11_takeSinger 96 = .ok (.isub, 1) := by decide +kernel
theorem dX11_takeSinger_97 : decode cX11_takeSinger 97 = .ok (.invokevirtual 134, 3) := by decide +kernel
theorem dX11_takeSinger_100 : decode cX11_takeSinger 100 = .ok (.ireturn, 1) := by decide +kernel
theorem dX11_takeInspector_0 : decode cX11_takeInspector 0 = .ok (.aload_n 0, 1) := by decide +kernel
theorem dX11_takeInspector_1 : decode cX11_takeInspector 1 = .ok (.dup, 1) := by decide +kernel
theorem dX11_takeInspector_2 : decode cX11_takeInspector 2 = .ok (.getfield 138, 3) := by decide +kernel
theorem dX11_takeInspector_5 : decode cX11_takeInspector 5 = .ok (.iconst 1, 1) := by decide +kernel
theorem dX11_takeInspector_6 : decode cX11_takeInspector 6 = .ok (.iadd, 1) := by decide +kernel
theorem dX11_takeInspector_7 : decode cX11_takeInspector 7 = .ok (.putfield 138, 3) := by decide +kernel
theorem dX11_takeInspector_10 : decode cX11_takeInspector 10 = .ok (.aload_n 0, 1) := by decide +kernel
theorem dX11_takeInspector_11 : decode cX11_takeInspector 11 = .ok (.aload_n 0, 1) := by decide +kernel
theorem dX11_takeInspector_12 : decode cX11_takeInspector 12 = .ok (.getfield 47, 3) := by decide +kernel
theorem dX11_takeInspector_15 : decode cX11_takeInspector 15 = .ok (.aload_n 0, 1) := by decide +kernel
theorem dX11_takeInspector_16 : decode cX11_takeInspector 16 = .ok (.getfield 138, 3) := by decide +kernel
theorem dX11_takeInspector_19 : decode cX11_takeInspector 19 = .ok (.iconst 1, 1) := by decide +kernel
theorem dX11_takeInspector_20 : decode cX11_takeInspector 20 = .ok (.isub, 1) := by decide +kernel
theorem dX11_takeInspector_21 : decode cX11_takeInspector 21 = .ok (.iconst 0, 1) := by decide +kernel
theorem dX11_takeInspector_22 : decode cX11_takeInspector 22 = .ok (.aload_n 0, 1) := by decide +kernel
theorem dX11_takeInspector_23 : decode cX11_takeInspector 23 = .ok (.getfield 125, 3) := by decide +kernel
theorem dX11_takeInspector_26 : decode cX11_takeInspector 26 = .ok (.iconst 1, 1) := by decide +kernel
theorem dX11_takeInspector_27 : decode cX11_takeInspector 27 = .ok (.isub, 1) := by decide +kernel
theorem dX11_takeInspector_28 : decode cX11_takeInspector 28 = .ok (.invokevirtual 134, 3) := by decide +kernel
theorem dX11_takeInspector_31 : decode cX11_takeInspector 31 = .ok (.ireturn, 1) := by decide +kernel
theorem dX11_takeClause_0 : decode cX11_takeClause 0 = .ok (.aload_n 0, 1) := by decide +kernel
theorem dX11_takeClause_1 : decode cX11_takeClause 1 = .ok (.invokevirtual 101, 3) := by decide +kernel
theorem dX11_takeClause_4 : decode cX11_takeClause 4 = .ok (.istore_n 1, 1) := by decide +kernel
theorem dX11_takeClause_5 : decode cX11_takeClause 5 = .ok (.iload_n 1, 1) := by decide +kernel
theorem dX11_takeClause_6 : decode cX11_takeClause 6 = .ok (.bipush 100, 2) := by decide +kernel
theorem dX11_takeClause_8 : decode cX11_takeClause 8 = .ok (.if_icmp .ne 7, 3) := by decide +kernel
theorem dX11_takeClause_11 : decode cX11_takeClause 11 = .ok (.iconst 0, 1) := by decide +kernel
theorem dX11_takeClause_12 : decode cX11_takeClause 12 = .ok (.goto 24, 3) := by decide +kernel
theorem dX11_takeClause_15 : decode cX11_takeClause 15 = .ok (.iload_n 1, 1) := by decide +kernel
theorem dX11_takeClause_16 : decode cX11_takeClause 16 = .ok (.bipush 115, 2) := by decide +kernel
theorem dX11_takeClause_18 : decode cX11_takeClause 18 = .ok (.if_icmp .ne 7, 3) := by decide +kernel
theorem dX11_takeClause_21 : decode cX11_takeClause 21 = .ok (.iconst 1, 1) := by decide +kernel
theorem dX11_takeClause_22 : decode cX11_takeClause 22 = .ok (.goto 14, 3) := by decide +kernel
theorem dX11_takeClause_25 : decode cX11_takeClause 25 = .ok (.iload_n 1, 1) := by decide +kernel
theorem dX11_takeClause_26 : decode cX11_takeClause 26 = .ok (.bipush 105, 2) := by decide +kernel
theorem dX11_takeClause_28 : decode cX11_takeClause 28 = .ok (.if_icmp .ne 7, 3) := by decide +kernel
theorem dX11_takeClause_31 : decode cX11_takeClause 31 = .ok (.iconst 2, 1) := by decide +kernel
theorem dX11_takeClause_32 : decode cX11_takeClause 32 = .ok (.goto 4, 3) := by decide +kernel
theorem dX11_takeClause_35 : decode cX11_takeClause 35 = .ok (.iconst (-1), 1) := by decide +kernel
theorem dX11_takeClause_36 : decode cX11_takeClause 36 = .ok (.istore_n 2, 1) := by decide +kernel
theorem dX11_takeClause_37 : decode cX11_takeClause 37 = .ok (.iload_n 2, 1) := by decide +kernel
theorem dX11_takeClause_38 : decode cX11_takeClause 38 = .ok (.ifCond .lt 14, 3) := by decide +kernel
theorem dX11_takeClause_41 : decode cX11_takeClause 41 = .ok (.iload_n 2, 1) := by decide +kernel
theorem dX11_takeClause_42 : decode cX11_takeClause 42 = .ok (.ifCond .le 20, 3) := by decide +kernel
theorem dX11_takeClause_45 : decode cX11_takeClause 45 = .ok (.aload_n 0, 1) := by decide +kernel
theorem dX11_takeClause_46 : decode cX11_takeClause 46 = .ok (.getfield 122, 3) := by decide +kernel
theorem dX11_takeClause_49 : decode cX11_takeClause 49 = .ok (.ifCond .ne 13, 3) := by decide +kernel
theorem dX11_takeClause_52 : decode cX11_takeClause 52 = .ok (.aload_n 0, 1) := by decide +kernel
theorem dX11_takeClause_53 : decode cX11_takeClause 53 = .ok (.iconst 1, 1) := by decide +kernel
theorem dX11_takeClause_54 : decode cX11_takeClause 54 = .ok (.aload_n 0, 1) := by decide +kernel
theorem dX11_takeClause_55 : decode cX11_takeClause 55 = .ok (.getfield 98, 3) := by decide +kernel
theorem dX11_takeClause_58 : decode cX11_takeClause 58 = .ok (.invokevirtual 109, 3) := by decide +kernel
theorem dX11_takeClause_61 : decode cX11_takeClause 61 = .ok (.ireturn, 1) := by decide +kernel
theorem dX11_takeClause_62 : decode cX11_takeClause 62 = .ok (.iload_n 2, 1) := by decide +kernel
theorem dX11_takeClause_63 : decode cX11_takeClause 63 = .ok (.ifCond .ne 18, 3) := by decide +kernel
theorem dX11_takeClause_66 : decode cX11_takeClause 66 = .ok (.aload_n 0, 1) := by decide +kernel
theorem dX11_takeClause_67 : decode cX11_takeClause 67 = .ok (.getfield 122, 3) := by decide +kernel
theorem dX11_takeClause_70 : decode cX11_takeClause 70 = .ok (.ifCond .le 7, 3) := by decide +kernel
theorem dX11_takeClause_73 : decode cX11_takeClause 73 = .ok (.iconst 1, 1) := by decide +kernel
theorem dX11_takeClause_74 : decode cX11_takeClause 74 = .ok (.goto 42, 3) := by decide +kernel
theorem dX11_takeClause_77 : decode cX11_takeClause 77 = .ok (.iconst 0, 1) := by decide +kernel
theorem dX11_takeClause_78 : decode cX11_takeClause 78 = .ok (.goto 38, 3) := by decide +kernel
theorem dX11_takeClause_81 : decode cX11_takeClause 81 = .ok (.iload_n 2, 1) := by decide +kernel
theorem dX11_takeClause_82 : decode cX11_takeClause 82 = .ok (.iconst 1, 1) := by decide +kernel
theorem dX11_takeClause_83 : decode cX11_takeClause 83 = .ok (.if_icmp .ne 20, 3) := by decide +kernel
theorem dX11_takeClause_86 : decode cX11_takeClause 86 = .ok (.aload_n 0, 1) := by decide +kernel
theorem dX11_takeClause_87 : decode cX11_takeClause 87 = .ok (.getfield 131, 3) := by decide +kernel
theorem dX11_takeClause_90 : decode cX11_takeClause 90 = .ok (.bipush 7, 2) := by decide +kernel
theorem dX11_takeClause_92 : decode cX11_takeClause 92 = .ok (.if_icmp .ne 7, 3) := by decide +kernel
theorem dX11_takeClause_95 : decode cX11_takeClause 95 = .ok (.iconst 1, 1) := by decide +kernel
theorem dX11_takeClause_96 : decode cX11_takeClause 96 = .ok (.goto 20, 3) := by decide +kernel
theorem dX11_takeClause_99 : decode cX11_takeClause 99 = .ok (.iconst 0, 1) := by decide +kernel
theorem dX11_takeClause_100 : decode cX11_takeClause 100 = .ok (.goto 16, 3) := by decide +kernel
theorem dX11_takeClause_103 : decode cX11_takeClause 103 = .ok (.aload_n 0, 1) := by decide +kernel
theorem dX11_takeClause_104 : decode cX11_takeClause 104 = .ok (.getfield 138, 3) := by decide +kernel
theorem dX11_takeClause_107 : decode cX11_takeClause 107 = .ok (.iconst 4, 1) := by decide +kernel
theorem dX11_takeClause_108 : decode cX11_takeClause 108 = .ok (.if_icmp .ne 7, 3) := by decide +kernel
theorem dX11_takeClause_111 : decode cX11_takeClause 111 = .ok (.iconst 1, 1) := by decide +kernel
theorem dX11_takeClause_112 : decode cX11_takeClause 112 = .ok (.goto 4, 3) := by decide +kernel
theorem dX11_takeClause_115 : decode cX11_takeClause 115 = .ok (.iconst 0, 1) := by decide +kernel
theorem dX11_takeClause_116 : decode cX11_takeClause 116 = .ok (.istore_n 3, 1) := by decide +kernel
theorem dX11_takeClause_117 : decode cX11_takeClause 117 = .ok (.iload_n 3, 1) := by decide +kernel
theorem dX11_takeClause_118 : decode cX11_takeClause 118 = .ok (.ifCond .eq 13, 3) := by decide +kernel
theorem dX11_takeClause_121 : decode cX11_takeClause 121 = .ok (.aload_n 0, 1) := by decide +kernel
theorem dX11_takeClause_122 : decode cX11_takeClause 122 = .ok (.iconst 3, 1) := by decide +kernel
theorem dX11_takeClause_123 : decode cX11_takeClause 123 = .ok (.aload_n 0, 1) := by decide +kernel
theorem dX11_takeClause_124 : decode cX11_takeClause 124 = .ok (.getfield 98, 3) := by decide +kernel
theorem dX11_takeClause_127 : decode cX11_takeClause 127 = .ok (.invokevirtual 109, 3) := by decide +kernel
theorem dX11_takeClause_130 : decode cX11_takeClause 130 = .ok (.ireturn, 1) := by decide +kernel
theorem dX11_takeClause_131 : decode cX11_takeClause 131 = .ok (.aload_n 0, 1) := by decide +kernel
theorem dX11_takeClause_132 : decode cX11_takeClause 132 = .ok (.dup, 1) := by decide +kernel
theorem dX11_takeClause_133 : decode cX11_takeClause 133 = .ok (.getfield 98, 3) := by decide +kernel
theorem dX11_takeClause_136 : decode cX11_takeClause 136 = .ok (.iconst 1, 1) := by decide +kernel
theorem dX11_takeClause_137 : decode cX11_takeClause 137 = .ok (.iadd, 1) := by decide +kernel
theorem dX11_takeClause_138 : decode cX11_takeClause 138 = .ok (.putfield 98, 3) := by decide +kernel
theorem dX11_takeClause_141 : decode cX11_takeClause 141 = .ok (.iload_n 2, 1) := by decide +kernel
theorem dX11_takeClause_142 : decode cX11_takeClause 142 = .ok (.ifCond .ne 10, 3) := by decide +kernel
theorem dX11_takeClause_145 : decode cX11_takeClause 145 = .ok (.aload_n 0, 1) := by decide +kernel
theorem dX11_takeClause_146 : decode cX11_takeClause 146 = .ok (.invokevirtual 141, 3) := by decide +kernel
theorem dX11_takeClause_149 : decode cX11_takeClause 149 = .ok (.goto 19, 3) := by decide +kernel
theorem dX11_takeClause_152 : decode cX11_takeClause 152 = .ok (.iload_n 2, 1) := by decide +kernel
theorem dX11_takeClause_153 : decode cX11_takeClause 153 = .ok (.iconst 1, 1) := by decide +kernel
theorem dX11_takeClause_154 : decode cX11_takeClause 154 = .ok (.if_icmp .ne 10, 3) := by decide +kernel
theorem dX11_takeClause_157 : decode cX11_takeClause 157 = .ok (.aload_n 0, 1) := by decide +kernel
theorem dX11_takeClause_158 : decode cX11_takeClause 158 = .ok (.invokevirtual 144, 3) := by decide +kernel
theorem dX11_takeClause_161 : decode cX11_takeClause 161 = .ok (.goto 7, 3) := by decide +kernel
theorem dX11_takeClause_164 : decode cX11_takeClause 164 = .ok (.aload_n 0, 1) := by decide +kernel
theorem dX11_takeClause_165 : decode cX11_takeClause 165 = .ok (.invokevirtual 147, 3) := by decide +kernel
theorem dX11_takeClause_168 : decode cX11_takeClause 168 = .ok (.istore 4, 2) := by decide +kernel
theorem dX11_takeClause_170 : decode cX11_takeClause 170 = .ok (.iload 4, 2) := by decide +kernel
theorem dX11_takeClause_172 : decode cX11_takeClause 172 = .ok (.ifCond .ne 22, 3) := by decide +kernel
theorem dX11_takeClause_175 : decode cX11_takeClause 175 = .ok (.aload_n 0, 1) := by decide +kernel
theorem dX11_takeClause_176 : decode cX11_takeClause 176 = .ok (.invokevirtual 101, 3) := by decide +kernel
theorem dX11_takeClause_179 : decode cX11_takeClause 179 = .ok (.bipush 59, 2) := by decide +kernel
theorem dX11_takeClause_181 : decode cX11_takeClause 181 = .ok (.if_icmp .eq 13, 3) := by decide +kernel
theorem dX11_takeClause_184 : decode cX11_takeClause 184 = .ok (.aload_n 0, 1) := by decide +kernel
theorem dX11_takeClause_185 : decode cX11_takeClause 185 = .ok (.iconst 1, 1) := by decide +kernel
theorem dX11_takeClause_186 : decode cX11_takeClause 186 = .ok (.aload_n 0, 1) := by decide +kernel
theorem dX11_takeClause_187 : decode cX11_takeClause 187 = .ok (.getfield 98, 3) := by decide +kernel
theorem dX11_takeClause_190 : decode cX11_takeClause 190 = .ok (.invokevirtual 109, 3) := by decide +kernel
theorem dX11_takeClause_193 : decode cX11_takeClause 193 = .ok (.ireturn, 1) := by decide +kernel
theorem dX11_takeClause_194 : decode cX11_takeClause 194 = .ok (.aload_n 0, 1) := by decide +kernel
theorem dX11_takeClause_195 : decode cX11_takeClause 195 = .ok (.dup, 1) := by decide +kernel
theorem dX11_takeClause_196 : decode cX11_takeClause 196 = .ok (.getfield 98, 3) := by decide +kernel
theorem dX11_takeClause_199 : decode cX11_takeClause 199 = .ok (.iconst 1, 1) := by decide +kernel
theorem dX11_takeClause_200 : decode cX11_takeClause 200 = .ok (.iadd, 1) := by decide +kernel
theorem dX11_takeClause_201 : decode cX11_takeClause 201 = .ok (.putfield 98, 3) := by decide +kernel
theorem dX11_takeClause_204 : decode cX11_takeClause 204 = .ok (.iload 4, 2) := by decide +kernel
theorem dX11_takeClause_206 : decode cX11_takeClause 206 = .ok (.ireturn, 1) := by decide +kernel
theorem dX11_copyRow_0 : decode cX11_copyRow 0 = .ok (.iconst 0, 1) := by decide +kernel
theorem dX11_copyRow_1 : decode cX11_copyRow 1 = .ok (.istore_n 3, 1) := by decide +kernel
theorem dX11_copyRow_2 : decode cX11_copyRow 2 = .ok (.iload_n 3, 1) := by decide +kernel
theorem dX11_copyRow_3 : decode cX11_copyRow 3 = .ok (.iload_n 2, 1) := by decide +kernel
theorem dX11_copyRow_4 : decode cX11_copyRow 4 = .ok (.if_icmp .ge 15, 3) := by decide +kernel
theorem dX11_copyRow_7 : decode cX11_copyRow 7 = .ok (.aload_n 1, 1) := by decide +kernel
theorem dX11_copyRow_8 : decode cX11_copyRow 8 = .ok (.iload_n 3, 1) := by decide +kernel
theorem dX11_copyRow_9 : decode cX11_copyRow 9 = .ok (.aload_n 0, 1) := by decide +kernel
theorem dX11_copyRow_10 : decode cX11_copyRow 10 = .ok (.iload_n 3, 1) := by decide +kernel
theorem dX11_copyRow_11 : decode cX11_copyRow 11 = .ok (.iaload, 1) := by decide +kernel
theorem dX11_copyRow_12 : decode cX11_copyRow 12 = .ok (.iastore, 1) := by decide +kernel
theorem dX11_copyRow_13 : decode cX11_copyRow 13 = .ok (.iinc 3 1, 3) := by decide +kernel
theorem dX11_copyRow_16 : decode cX11_copyRow 16 = .ok (.goto (-14), 3) := by decide +kernel
theorem dX11_copyRow_19 : decode cX11_copyRow 19 = .ok (.return_, 1) := by decide +kernel
theorem dX11_takeRead_0 : decode cX11_takeRead 0 = .ok (.aload_n 0, 1) := by decide +kernel
theorem dX11_takeRead_1 : decode cX11_takeRead 1 = .ok (.aload_n 0, 1) := by decide +kernel
theorem dX11_takeRead_2 : decode cX11_takeRead 2 = .ok (.getfield 122, 3) := by decide +kernel
theorem dX11_takeRead_5 : decode cX11_takeRead 5 = .ok (.putfield 78, 3) := by decide +kernel
theorem dX11_takeRead_8 : decode cX11_takeRead 8 = .ok (.aload_n 0, 1) := by decide +kernel
theorem dX11_takeRead_9 : decode cX11_takeRead 9 = .ok (.aload_n 0, 1) := by decide +kernel
theorem dX11_takeRead_10 : decode cX11_takeRead 10 = .ok (.getfield 125, 3) := by decide +kernel
theorem dX11_takeRead_13 : decode cX11_takeRead 13 = .ok (.putfield 88, 3) := by decide +kernel
theorem dX11_takeRead_16 : decode cX11_takeRead 16 = .ok (.aload_n 0, 1) := by decide +kernel
theorem dX11_takeRead_17 : decode cX11_takeRead 17 = .ok (.aload_n 0, 1) := by decide +kernel
theorem dX11_takeRead_18 : decode cX11_takeRead 18 = .ok (.getfield 128, 3) := by decide +kernel
theorem dX11_takeRead_21 : decode cX11_takeRead 21 = .ok (.putfield 150, 3) := by decide +kernel
theorem dX11_takeRead_24 : decode cX11_takeRead 24 = .ok (.aload_n 0, 1) := by decide +kernel
theorem dX11_takeRead_25 : decode cX11_takeRead 25 = .ok (.aload_n 0, 1) := by decide +kernel
theorem dX11_takeRead_26 : decode cX11_takeRead 26 = .ok (.getfield 131, 3) := by decide +kernel
theorem dX11_takeRead_29 : decode cX11_takeRead 29 = .ok (.putfield 81, 3) := by decide +kernel
theorem dX11_takeRead_32 : decode cX11_takeRead 32 = .ok (.aload_n 0, 1) := by decide +kernel
theorem dX11_takeRead_33 : decode cX11_takeRead 33 = .ok (.aload_n 0, 1) := by decide +kernel
theorem dX11_takeRead_34 : decode cX11_takeRead 34 = .ok (.getfield 138, 3) := by decide +kernel
theorem dX11_takeRead_37 : decode cX11_takeRead 37 = .ok (.putfield 153, 3) := by decide +kernel
theorem dX11_takeRead_40 : decode cX11_takeRead 40 = .ok (.aload_n 0, 1) := by decide +kernel
theorem dX11_takeRead_41 : decode cX11_takeRead 41 = .ok (.getfield 35, 3) := by decide +kernel
theorem dX11_takeRead_44 : decode cX11_takeRead 44 = .ok (.aload_n 0, 1) := by decide +kernel
theorem dX11_takeRead_45 : decode cX11_takeRead 45 = .ok (.getfield 7, 3) := by decide +kernel
theorem dX11_takeRead_48 : decode cX11_takeRead 48 = .ok (.aload_n 0, 1) := by decide +kernel
theorem dX11_takeRead_49 : decode cX11_takeRead 49 = .ok (.getfield 81, 3) := by decide +kernel
theorem dX11_takeRead_52 : decode cX11_takeRead 52 = .ok (.invokestatic 156, 3) := by decide +kernel
theorem dX11_takeRead_55 : decode cX11_takeRead 55 = .ok (.aload_n 0, 1) := by decide +kernel
theorem dX11_takeRead_56 : decode cX11_takeRead 56 = .ok (.getfield 38, 3) := by decide +kernel
theorem dX11_takeRead_59 : decode cX11_takeRead 59 = .ok (.aload_n 0, 1) := by decide +kernel
theorem dX11_takeRead_60 : decode cX11_takeRead 60 = .ok (.getfield 13, 3) := by decide +kernel
theorem dX11_takeRead_63 : decode cX11_takeRead 63 = .ok (.aload_n 0, 1) := by decide +kernel
theorem dX11_takeRead_64 : decode cX11_takeRead 64 = .ok (.getfield 81, 3) := by decide +kernel
theorem dX11_takeRead_67 : decode cX11_takeRead 67 = .ok (.invokestatic 156, 3) := by decide +kernel
theorem dX11_takeRead_70 : decode cX11_takeRead 70 = .ok (.aload_n 0, 1) := by decide +kernel
theorem dX11_takeRead_71 : decode cX11_takeRead 71 = .ok (.getfield 41, 3) := by decide +kernel
theorem dX11_takeRead_74 : decode cX11_takeRead 74 = .ok (.aload_n 0, 1) := by decide +kernel
theorem dX11_takeRead_75 : decode cX11_takeRead 75 = .ok (.getfield 16, 3) := by decide +kernel
theorem dX11_takeRead_78 : decode cX11_takeRead 78 = .ok (.aload_n 0, 1) := by decide +kernel
theorem dX11_takeRead_79 : decode cX11_takeRead 79 = .ok (.getfield 81, 3) := by decide +kernel
theorem dX11_takeRead_82 : decode cX11_takeRead 82 = .ok (.invokestatic 156, 3) := by decide +kernel
theorem dX11_takeRead_85 : decode cX11_takeRead 85 = .ok (.aload_n 0, 1) := by decide +kernel
theorem dX11_takeRead_86 : decode cX11_takeRead 86 = .ok (.getfield 44, 3) := by decide +kernel
theorem dX11_takeRead_89 : decode cX11_takeRead 89 = .ok (.aload_n 0, 1) := by decide +kernel
theorem dX11_takeRead_90 : decode cX11_takeRead 90 = .ok (.getfield 19, 3) := by decide +kernel
theorem dX11_takeRead_93 : decode cX11_takeRead 93 = .ok (.aload_n 0, 1) := by decide +kernel
theorem dX11_takeRead_94 : decode cX11_takeRead 94 = .ok (.getfield 81, 3) := by decide +kernel
theorem dX11_takeRead_97 : decode cX11_takeRead 97 = .ok (.invokestatic 156, 3) := by decide +kernel
theorem dX11_takeRead_100 : decode cX11_takeRead 100 = .ok (.aload_n 0, 1) := by decide +kernel
theorem dX11_takeRead_101 : decode cX11_takeRead 101 = .ok (.getfield 47, 3) := by decide +kernel
theorem dX11_takeRead_104 : decode cX11_takeRead 104 = .ok (.aload_n 0, 1) := by decide +kernel
theorem dX11_takeRead_105 : decode cX11_takeRead 105 = .ok (.getfield 22, 3) := by decide +kernel
theorem dX11_takeRead_108 : decode cX11_takeRead 108 = .ok (.aload_n 0, 1) := by decide +kernel
theorem dX11_takeRead_109 : decode cX11_takeRead 109 = .ok (.getfield 153, 3) := by decide +kernel
theorem dX11_takeRead_112 : decode cX11_takeRead 112 = .ok (.invokestatic 156, 3) := by decide +kernel
theorem dX11_takeRead_115 : decode cX11_takeRead 115 = .ok (.iconst 0, 1) := by decide +kernel
theorem dX11_takeRead_116 : decode cX11_takeRead 116 = .ok (.istore_n 1, 1) := by decide +kernel
theorem dX11_takeRead_117 : decode cX11_takeRead 117 = .ok (.iload_n 1, 1) := by decide +kernel
theorem dX11_takeRead_118 : decode cX11_takeRead 118 = .ok (.bipush 29, 2) := by decide +kernel
theorem dX11_takeRead_120 : decode cX11_takeRead 120 = .ok (.if_icmp .ge 34, 3) := by decide +kernel
theorem dX11_takeRead_123 : decode cX11_takeRead 123 = .ok (.aload_n 0, 1) := by decide +kernel
theorem dX11_takeRead_124 : decode cX11_takeRead 124 = .ok (.getfield 25, 3) := by decide +kernel
theorem dX11_takeRead_127 : decode cX11_takeRead 127 = .ok (.iload_n 1, 1) := by decide +kernel
theorem dX11_takeRead_128 : decode cX11_takeRead 128 = .ok (.iload_n 1, 1) := by decide +kernel
theorem dX11_takeRead_129 : decode cX11_takeRead 129 = .ok (.i2l, 1) := by decide +kernel
theorem dX11_takeRead_130 : decode cX11_takeRead 130 = .ok (.ldc2_w 160, 3) := by decide +kernel
theorem dX11_takeRead_133 : decode cX11_takeRead 133 = .ok (.ldc2_w 162, 3) := by decide +kernel
theorem dX11_takeRead_136 : decode cX11_takeRead 136 = .ok (.invokestatic 84, 3) := by decide +kernel
theorem dX11_takeRead_139 : decode cX11_takeRead 139 = .ok (.ifCond .eq 7, 3) := by decide +kernel
theorem dX11_takeRead_142 : decode cX11_takeRead 142 = .ok (.iconst (-1), 1) := by decide +kernel
theorem dX11_takeRead_143 : decode cX11_takeRead 143 = .ok (.goto 4, 3) := by decide +kernel
theorem dX11_takeRead_146 : decode cX11_takeRead 146 = .ok (.iconst 0, 1) := by decide +kernel
theorem dX11_takeRead_147 : decode cX11_takeRead 147 = .ok (.iastore, 1) := by decide +kernel
theorem dX11_takeRead_148 : decode cX11_takeRead 148 = .ok (.iinc 1 1, 3) := by decide +kernel
theorem dX11_takeRead_151 : decode cX11_takeRead 151 = .ok (.goto (-34), 3) := by decide +kernel
theorem dX11_takeRead_154 : decode cX11_takeRead 154 = .ok (.iconst 0, 1) := by decide +kernel
theorem dX11_takeRead_155 : decode cX11_takeRead 155 = .ok (.istore_n 1, 1) := by decide +kernel
theorem dX11_takeRead_156 : decode cX11_takeRead 156 = .ok (.iload_n 1, 1) := by decide +kernel
theorem dX11_takeRead_157 : decode cX11_takeRead 157 = .ok (.aload_n 0, 1) := by decide +kernel
theorem dX11_takeRead_158 : decode cX11_takeRead 158 = .ok (.getfield 81, 3) := by decide +kernel
theorem dX11_takeRead_161 : decode cX11_takeRead 161 = .ok (.if_icmp .ge 36, 3) := by decide +kernel
theorem dX11_takeRead_164 : decode cX11_takeRead 164 = .ok (.aload_n 0, 1) := by decide +kernel
theorem dX11_takeRead_165 : decode cX11_takeRead 165 = .ok (.getfield 25, 3) := by decide +kernel
theorem dX11_takeRead_168 : decode cX11_takeRead 168 = .ok (.iload_n 1, 1) := by decide +kernel
theorem dX11_takeRead_169 : decode cX11_takeRead 169 = .ok (.aload_n 0, 1) := by decide +kernel
theorem dX11_takeRead_170 : decode cX11_takeRead 170 = .ok (.getfield 13, 3) := by decide +kernel
theorem dX11_takeRead_173 : decode cX11_takeRead 173 = .ok (.iload_n 1, 1) := by decide +kernel
theorem dX11_takeRead_174 : decode cX11_takeRead 174 = .ok (.iaload, 1) := by decide +kernel
theorem dX11_takeRead_175 : decode cX11_takeRead 175 = .ok (.iastore, 1) := by decide +kernel
theorem dX11_takeRead_176 : decode cX11_takeRead 176 = .ok (.aload_n 0, 1) := by decide +kernel
theorem dX11_takeRead_177 : decode cX11_takeRead 177 = .ok (.getfield 25, 3) := by decide +kernel
theorem dX11_takeRead_180 : decode cX11_takeRead 180 = .ok (.bipush 7, 2) := by decide +kernel
theorem dX11_takeRead_182 : decode cX11_takeRead 182 = .ok (.iload_n 1, 1) := by decide +kernel
theorem dX11_takeRead_183 : decode cX11_takeRead 183 = .ok (.iadd, 1) := by decide +kernel
theorem dX11_takeRead_184 : decode cX11_takeRead 184 = .ok (.aload_n 0, 1) := by decide +kernel
theorem dX11_takeRead_185 : decode cX11_takeRead 185 = .ok (.getfield 16, 3) := by decide +kernel
theorem dX11_takeRead_188 : decode cX11_takeRead 188 = .ok (.iload_n 1, 1) := by decide +kernel
theorem dX11_takeRead_189 : decode cX11_takeRead 189 = .ok (.iaload, 1) := by decide +kernel
theorem dX11_takeRead_190 : decode cX11_takeRead 190 = .ok (.iastore, 1) := by decide +kernel
theorem dX11_takeRead_191 : decode cX11_takeRead 191 = .ok (.iinc 1 1, 3) := by decide +kernel
theorem dX11_takeRead_194 : decode cX11_takeRead 194 = .ok (.goto (-38), 3) := by decide +kernel
theorem dX11_takeRead_197 : decode cX11_takeRead 197 = .ok (.iconst 0, 1) := by decide +kernel
theorem dX11_takeRead_198 : decode cX11_takeRead 198 = .ok (.istore_n 1, 1) := by decide +kernel
theorem dX11_takeRead_199 : decode cX11_takeRead 199 = .ok (.iload_n 1, 1) := by decide +kernel
theorem dX11_takeRead_200 : decode cX11_takeRead 200 = .ok (.aload_n 0, 1) := by decide +kernel
theorem dX11_takeRead_201 : decode cX11_takeRead 201 = .ok (.getfield 153, 3) := by decide +kernel
theorem dX11_takeRead_204 : decode cX11_takeRead 204 = .ok (.if_icmp .ge 24, 3) := by decide +kernel
theorem dX11_takeRead_207 : decode cX11_takeRead 207 = .ok (.aload_n 0, 1) := by decide +kernel
theorem dX11_takeRead_208 : decode cX11_takeRead 208 = .ok (.getfield 25, 3) := by decide +kernel
theorem dX11_takeRead_211 : decode cX11_takeRead 211 = .ok (.bipush 21, 2) := by decide +kernel
theorem dX11_takeRead_213 : decode cX11_takeRead 213 = .ok (.iload_n 1, 1) := by decide +kernel
theorem dX11_takeRead_214 : decode cX11_takeRead 214 = .ok (.iadd, 1) := by decide +kernel
theorem dX11_takeRead_215 : decode cX11_takeRead 215 = .ok (.aload_n 0, 1) := by decide +kernel
theorem dX11_takeRead_216 : decode cX11_takeRead 216 = .ok (.getfield 22, 3) := by decide +kernel
theorem dX11_takeRead_219 : decode cX11_takeRead 219 = .ok (.iload_n 1, 1) := by decide +kernel
theorem dX11_takeRead_220 : decode cX11_takeRead 220 = .ok (.iaload, 1) := by decide +kernel
theorem dX11_takeRead_221 : decode cX11_takeRead 221 = .ok (.iastore, 1) := by decide +kernel
theorem dX11_takeRead_222 : decode cX11_takeRead 222 = .ok (.iinc 1 1, 3) := by decide +kernel
theorem dX11_takeRead_225 : decode cX11_takeRead 225 = .ok (.goto (-26), 3) := by decide +kernel
theorem dX11_takeRead_228 : decode cX11_takeRead 228 = .ok (.aload_n 0, 1) := by decide +kernel
theorem dX11_takeRead_229 : decode cX11_takeRead 229 = .ok (.getfield 25, 3) := by decide +kernel
theorem dX11_takeRead_232 : decode cX11_takeRead 232 = .ok (.bipush 25, 2) := by decide +kernel
theorem dX11_takeRead_234 : decode cX11_takeRead 234 = .ok (.aload_n 0, 1) := by decide +kernel
theorem dX11_takeRead_235 : decode cX11_takeRead 235 = .ok (.getfield 78, 3) := by decide +kernel
theorem dX11_takeRead_238 : decode cX11_takeRead 238 = .ok (.iastore, 1) := by decide +kernel
theorem dX11_takeRead_239 : decode cX11_takeRead 239 = .ok (.return_, 1) := by decide +kernel
theorem dX11_duchy_0 : decode cX11_duchy 0 = .ok (.aload_n 0, 1) := by decide +kernel
theorem dX11_duchy_1 : decode cX11_duchy 1 = .ok (.iconst (-1), 1) := by decide +kernel
theorem dX11_duchy_2 : decode cX11_duchy 2 = .ok (.putfield 31, 3) := by decide +kernel
theorem dX11_duchy_5 : decode cX11_duchy 5 = .ok (.aload_n 0, 1) := by decide +kernel
theorem dX11_duchy_6 : decode cX11_duchy 6 = .ok (.iconst 0, 1) := by decide +kernel
theorem dX11_duchy_7 : decode cX11_duchy 7 = .ok (.putfield 98, 3) := by decide +kernel
theorem dX11_duchy_10 : decode cX11_duchy 10 = .ok (.aload_n 0, 1) := by decide +kernel
theorem dX11_duchy_11 : decode cX11_duchy 11 = .ok (.iconst 0, 1) := by decide +kernel
theorem dX11_duchy_12 : decode cX11_duchy 12 = .ok (.putfield 122, 3) := by decide +kernel
theorem dX11_duchy_15 : decode cX11_duchy 15 = .ok (.aload_n 0, 1) := by decide +kernel
theorem dX11_duchy_16 : decode cX11_duchy 16 = .ok (.iconst 0, 1) := by decide +kernel
theorem dX11_duchy_17 : decode cX11_duchy 17 = .ok (.putfield 125, 3) := by decide +kernel
theorem dX11_duchy_20 : decode cX11_duchy 20 = .ok (.aload_n 0, 1) := by decide +kernel
theorem dX11_duchy_21 : decode cX11_duchy 21 = .ok (.iconst 0, 1) := by decide +kernel
theorem dX11_duchy_22 : decode cX11_duchy 22 = .ok (.putfield 128, 3) := by decide +kernel
theorem dX11_duchy_25 : decode cX11_duchy 25 = .ok (.aload_n 0, 1) := by decide +kernel
theorem dX11_duchy_26 : decode cX11_duchy 26 = .ok (.iconst 0, 1) := by decide +kernel
theorem dX11_duchy_27 : decode cX11_duchy 27 = .ok (.putfield 131, 3) := by decide +kernel
theorem dX11_duchy_30 : decode cX11_duchy 30 = .ok (.aload_n 0, 1) := by decide +kernel
theorem dX11_duchy_31 : decode cX11_duchy 31 = .ok (.iconst 0, 1) := by decide +kernel
theorem dX11_duchy_32 : decode cX11_duchy 32 = .ok (.putfield 138, 3) := by decide +kernel
theorem dX11_duchy_35 : decode cX11_duchy 35 = .ok (.iconst 0, 1) := by decide +kernel
theorem dX11_duchy_36 : decode cX11_duchy 36 = .ok (.istore_n 1, 1) := by decide +kernel
theorem dX11_duchy_37 : decode cX11_duchy 37 = .ok (.iload_n 1, 1) := by decide +kernel
theorem dX11_duchy_38 : decode cX11_duchy 38 = .ok (.ifCond .ne 18, 3) := by decide +kernel
theorem dX11_duchy_41 : decode cX11_duchy 41 = .ok (.aload_n 0, 1) := by decide +kernel
theorem dX11_duchy_42 : decode cX11_duchy 42 = .ok (.invokevirtual 101, 3) := by decide +kernel
theorem dX11_duchy_45 : decode cX11_duchy 45 = .ok (.ifCond .lt 11, 3) := by decide +kernel
theorem dX11_duchy_48 : decode cX11_duchy 48 = .ok (.aload_n 0, 1) := by decide +kernel
theorem dX11_duchy_49 : decode cX11_duchy 49 = .ok (.invokevirtual 164, 3) := by decide +kernel
theorem dX11_duchy_52 : decode cX11_duchy 52 = .ok (.istore_n 1, 1) := by decide +kernel
theorem dX11_duchy_53 : decode cX11_duchy 53 = .ok (.goto (-16), 3) := by decide +kernel
theorem dX11_duchy_56 : decode cX11_duchy 56 = .ok (.aload_n 0, 1) := by decide +kernel
theorem dX11_duchy_57 : decode cX11_duchy 57 = .ok (.iconst 0, 1) := by decide +kernel
theorem dX11_duchy_58 : decode cX11_duchy 58 = .ok (.putfield 94, 3) := by decide +kernel
theorem dX11_duchy_61 : decode cX11_duchy 61 = .ok (.iload_n 1, 1) := by decide +kernel
theorem dX11_duchy_62 : decode cX11_duchy 62 = .ok (.ifCond .le 8, 3) := by decide +kernel
theorem dX11_duchy_65 : decode cX11_duchy 65 = .ok (.bipush (-10), 2) := by decide +kernel
theorem dX11_duchy_67 : decode cX11_duchy 67 = .ok (.iload_n 1, 1) := by decide +kernel
theorem dX11_duchy_68 : decode cX11_duchy 68 = .ok (.isub, 1) := by decide +kernel
theorem dX11_duchy_69 : decode cX11_duchy 69 = .ok (.ireturn, 1) := by decide +kernel
theorem dX11_duchy_70 : decode cX11_duchy 70 = .ok (.aload_n 0, 1) := by decide +kernel
theorem dX11_duchy_71 : decode cX11_duchy 71 = .ok (.invokevirtual 167, 3) := by decide +kernel
theorem dX11_duchy_74 : decode cX11_duchy 74 = .ok (.aload_n 0, 1) := by decide +kernel
theorem dX11_duchy_75 : decode cX11_duchy 75 = .ok (.iconst 0, 1) := by decide +kernel
theorem dX11_duchy_76 : decode cX11_duchy 76 = .ok (.putfield 170, 3) := by decide +kernel
theorem dX11_duchy_79 : decode cX11_duchy 79 = .ok (.aload_n 0, 1) := by decide +kernel
theorem dX11_duchy_80 : decode cX11_duchy 80 = .ok (.iconst 0, 1) := by decide +kernel
theorem dX11_duchy_81 : decode cX11_duchy 81 = .ok (.putfield 173, 3) := by decide +kernel
theorem dX11_duchy_84 : decode cX11_duchy 84 = .ok (.aload_n 0, 1) := by decide +kernel
theorem dX11_duchy_85 : decode cX11_duchy 85 = .ok (.iconst 0, 1) := by decide +kernel
theorem dX11_duchy_86 : decode cX11_duchy 86 = .ok (.putfield 176, 3) := by decide +kernel
theorem dX11_duchy_89 : decode cX11_duchy 89 = .ok (.aload_n 0, 1) := by decide +kernel
theorem dX11_duchy_90 : decode cX11_duchy 90 = .ok (.getfield 74, 3) := by decide +kernel
theorem dX11_duchy_93 : decode cX11_duchy 93 = .ok (.iconst 0, 1) := by decide +kernel
theorem dX11_duchy_94 : decode cX11_duchy 94 = .ok (.iconst 0, 1) := by decide +kernel
theorem dX11_duchy_95 : decode cX11_duchy 95 = .ok (.bastore, 1) := by decide +kernel
theorem dX11_duchy_96 : decode cX11_duchy 96 = .ok (.aload_n 0, 1) := by decide +kernel
theorem dX11_duchy_97 : decode cX11_duchy 97 = .ok (.getfield 74, 3) := by decide +kernel
theorem dX11_duchy_100 : decode cX11_duchy 100 = .ok (.iconst 1, 1) := by decide +kernel
theorem dX11_duchy_101 : decode cX11_duchy 101 = .ok (.iconst 0, 1) := by decide +kernel
theorem dX11_duchy_102 : decode cX11_duchy 102 = .ok (.bastore, 1) := by decide +kernel
theorem dX11_duchy_103 : decode cX11_duchy 103 = .ok (.aload_n 0, 1) := by decide +kernel
theorem dX11_duchy_104 : decode cX11_duchy 104 = .ok (.getfield 81, 3) := by decide +kernel
theorem dX11_duchy_107 : decode cX11_duchy 107 = .ok (.ireturn, 1) := by decide +kernel
theorem dX11_fault_0 : decode cX11_fault 0 = .ok (.aload_n 0, 1) := by decide +kernel
theorem dX11_fault_1 : decode cX11_fault 1 = .ok (.getfield 31, 3) := by decide +kernel
theorem dX11_fault_4 : decode cX11_fault 4 = .ok (.ireturn, 1) := by decide +kernel
theorem dX11_sings_0 : decode cX11_sings 0 = .ok (.aload_n 0, 1) := by decide +kernel
theorem dX11_sings_1 : decode cX11_sings 1 = .ok (.getfield 25, 3) := by decide +kernel
theorem dX11_sings_4 : decode cX11_sings 4 = .ok (.bipush 14, 2) := by decide +kernel
theorem dX11_sings_6 : decode cX11_sings 6 = .ok (.iload_n 1, 1) := by decide +kernel
theorem dX11_sings_7 : decode cX11_sings 7 = .ok (.iadd, 1) := by decide +kernel
theorem dX11_sings_8 : decode cX11_sings 8 = .ok (.iaload, 1) := by decide +kernel
theorem dX11_sings_9 : decode cX11_sings 9 = .ok (.iconst (-1), 1) := by decide +kernel
theorem dX11_sings_10 : decode cX11_sings 10 = .ok (.if_icmp .eq 7, 3) := by decide +kernel
theorem dX11_sings_13 : decode cX11_sings 13 = .ok (.iconst 1, 1) := by decide +kernel
theorem dX11_sings_14 : decode cX11_sings 14 = .ok (.goto 4, 3) := by decide +kernel
theorem dX11_sings_17 : decode cX11_sings 17 = .ok (.iconst 0, 1) := by decide +kernel
theorem dX11_sings_18 : decode cX11_sings 18 = .ok (.ireturn, 1) := by decide +kernel
theorem dX11_inspectorsAt_0 : decode cX11_inspectorsAt 0 = .ok (.iconst 0, 1) := by decide +kernel
theorem dX11_inspectorsAt_1 : decode cX11_inspectorsAt 1 = .ok (.istore_n 2, 1) := by decide +kernel
theorem dX11_inspectorsAt_2 : decode cX11_inspectorsAt 2 = .ok (.iconst 0, 1) := by decide +kernel
theorem dX11_inspectorsAt_3 : decode cX11_inspectorsAt 3 = .ok (.istore_n 3, 1) := by decide +kernel
theorem dX11_inspectorsAt_4 : decode cX11_inspectorsAt 4 = .ok (.iload_n 3, 1) := by decide +kernel
theorem dX11_inspectorsAt_5 : decode cX11_inspectorsAt 5 = .ok (.aload_n 0, 1) := by decide +kernel
theorem dX11_inspectorsAt_6 : decode cX11_inspectorsAt 6 = .ok (.getfield 153, 3) := by decide +kernel
theorem dX11_inspectorsAt_9 : decode cX11_inspectorsAt 9 = .ok (.if_icmp .ge 30, 3) := by decide +kernel
theorem dX11_inspectorsAt_12 : decode cX11_inspectorsAt 12 = .ok (.iload_n 2, 1) := by decide +kernel
theorem dX11_inspectorsAt_13 : decode cX11_inspectorsAt 13 = .ok (.aload_n 0, 1) := by decide +kernel
theorem dX11_inspectorsAt_14 : decode cX11_inspectorsAt 14 = .ok (.getfield 25, 3) := by decide +kernel
theorem dX11_inspectorsAt_17 : decode cX11_inspectorsAt 17 = .ok (.bipush 21, 2) := by decide +kernel
theorem dX11_inspectorsAt_19 : decode cX11_inspectorsAt 19 = .ok (.iload_n 3, 1) := by decide +kernel
theorem dX11_inspectorsAt_20 : decode cX11_inspectorsAt 20 = .ok (.iadd, 1) := by decide +kernel
theorem dX11_inspectorsAt_21 : decode cX11_inspectorsAt 21 = .ok (.iaload, 1) := by decide +kernel
theorem dX11_inspectorsAt_22 : decode cX11_inspectorsAt 22 = .ok (.iload_n 1, 1) := by decide +kernel
theorem dX11_inspectorsAt_23 : decode cX11_inspectorsAt 23 = .ok (.if_icmp .ne 7, 3) := by decide +kernel
theorem dX11_inspectorsAt_26 : decode cX11_inspectorsAt 26 = .ok (.iconst 1, 1) := by decide +kernel
theorem dX11_inspectorsAt_27 : decode cX11_inspectorsAt 27 = .ok (.goto 4, 3) := by decide +kernel
theorem dX11_inspectorsAt_30 : decode cX11_inspectorsAt 30 = .ok (.iconst 0, 1) := by decide +kernel
theorem dX11_inspectorsAt_31 : decode cX11_inspectorsAt 31 = .ok (.iadd, 1) := by decide +kernel
theorem dX11_inspectorsAt_32 : decode cX11_inspectorsAt 32 = .ok (.istore_n 2, 1) := by decide +kernel
theorem dX11_inspectorsAt_33 : decode cX11_inspectorsAt 33 = .ok (.iinc 3 1, 3) := by decide +kernel
theorem dX11_inspectorsAt_36 : decode cX11_inspectorsAt 36 = .ok (.goto (-32), 3) := by decide +kernel
theorem dX11_inspectorsAt_39 : decode cX11_inspectorsAt 39 = .ok (.iload_n 2, 1) := by decide +kernel
theorem dX11_inspectorsAt_40 : decode cX11_inspectorsAt 40 = .ok (.ireturn, 1) := by decide +kernel
theorem dX11_owesBy_0 : decode cX11_owesBy 0 = .ok (.iload 4, 2) := by decide +kernel
theorem dX11_owesBy_2 : decode cX11_owesBy 2 = .ok (.iload_n 3, 1) := by decide +kernel
theorem dX11_owesBy_3 : decode cX11_owesBy 3 = .ok (.imul, 1) := by decide +kernel
theorem dX11_owesBy_4 : decode cX11_owesBy 4 = .ok (.iload_n 3, 1) := by decide +kernel
theorem dX11_owesBy_5 : decode cX11_owesBy 5 = .ok (.imul, 1) := by decide +kernel
theorem dX11_owesBy_6 : decode cX11_owesBy 6 = .ok (.istore 5, 2) := by decide +kernel
theorem dX11_owesBy_8 : decode cX11_owesBy 8 = .ok (.aload_n 0, 1) := by decide +kernel
theorem dX11_owesBy_9 : decode cX11_owesBy 9 = .ok (.getfield 7, 3) := by decide +kernel
theorem dX11_owesBy_12 : decode cX11_owesBy 12 = .ok (.iload_n 1, 1) := by decide +kernel
theorem dX11_owesBy_13 : decode cX11_owesBy 13 = .ok (.iaload, 1) := by decide +kernel
theorem dX11_owesBy_14 : decode cX11_owesBy 14 = .ok (.tableswitch 51 1 3 #[26, 31, 33], 26) := by decide +kernel
theorem dX11_owesBy_40 : decode cX11_owesBy 40 = .ok (.iconst 2, 1) := by decide +kernel
theorem dX11_owesBy_41 : decode cX11_owesBy 41 = .ok (.iload 5, 2) := by decide +kernel
theorem dX11_owesBy_43 : decode cX11_owesBy 43 = .ok (.imul, 1) := by decide +kernel
theorem dX11_owesBy_44 : decode cX11_owesBy 44 = .ok (.ireturn, 1) := by decide +kernel
theorem dX11_owesBy_45 : decode cX11_owesBy 45 = .ok (.iconst 0, 1) := by decide +kernel
theorem dX11_owesBy_46 : decode cX11_owesBy 46 = .ok (.ireturn, 1) := by decide +kernel
theorem dX11_owesBy_47 : decode cX11_owesBy 47 = .ok (.aload_n 0, 1) := by decide +kernel
theorem dX11_owesBy_48 : decode cX11_owesBy 48 = .ok (.iload_n 2, 1) := by decide +kernel
theorem dX11_owesBy_49 : decode cX11_owesBy 49 = .ok (.invokevirtual 179, 3) := by decide +kernel
theorem dX11_owesBy_52 : decode cX11_owesBy 52 = .ok (.ifCond .le 8, 3) := by decide +kernel
theorem dX11_owesBy_55 : decode cX11_owesBy 55 = .ok (.iload 5, 2) := by decide +kernel
theorem dX11_owesBy_57 : decode cX11_owesBy 57 = .ok (.goto 7, 3) := by decide +kernel
theorem dX11_owesBy_60 : decode cX11_owesBy 60 = .ok (.iload 5, 2) := by decide +kernel
theorem dX11_owesBy_62 : decode cX11_owesBy 62 = .ok (.iconst 2, 1) := by decide +kernel
theorem dX11_owesBy_63 : decode cX11_owesBy 63 = .ok (.idiv, 1) := by decide +kernel
theorem dX11_owesBy_64 : decode cX11_owesBy 64 = .ok (.ireturn, 1) := by decide +kernel
theorem dX11_owesBy_65 : decode cX11_owesBy 65 = .ok (.iload 5, 2) := by decide +kernel
theorem dX11_owesBy_67 : decode cX11_owesBy 67 = .ok (.ireturn, 1) := by decide +kernel
theorem dX11_owesOf_0 : decode cX11_owesOf 0 = .ok (.aload_n 0, 1) := by decide +kernel
theorem dX11_owesOf_1 : decode cX11_owesOf 1 = .ok (.iload_n 1, 1) := by decide +kernel
theorem dX11_owesOf_2 : decode cX11_owesOf 2 = .ok (.invokevirtual 183, 3) := by decide +kernel
theorem dX11_owesOf_5 : decode cX11_owesOf 5 = .ok (.ifCond .eq 33, 3) := by decide +kernel
theorem dX11_owesOf_8 : decode cX11_owesOf 8 = .ok (.aload_n 0, 1) := by decide +kernel
theorem dX11_owesOf_9 : decode cX11_owesOf 9 = .ok (.iload_n 1, 1) := by decide +kernel
theorem dX11_owesOf_10 : decode cX11_owesOf 10 = .ok (.aload_n 0, 1) := by decide +kernel
theorem dX11_owesOf_11 : decode cX11_owesOf 11 = .ok (.getfield 25, 3) := by decide +kernel
theorem dX11_owesOf_14 : decode cX11_owesOf 14 = .ok (.iload_n 1, 1) := by decide +kernel
theorem dX11_owesOf_15 : decode cX11_owesOf 15 = .ok (.iaload, 1) := by decide +kernel
theorem dX11_owesOf_16 : decode cX11_owesOf 16 = .ok (.aload_n 0, 1) := by decide +kernel
theorem dX11_owesOf_17 : decode cX11_owesOf 17 = .ok (.getfield 25, 3) := by decide +kernel
theorem dX11_owesOf_20 : decode cX11_owesOf 20 = .ok (.bipush 14, 2) := by decide +kernel
theorem dX11_owesOf_22 : decode cX11_owesOf 22 = .ok (.iload_n 1, 1) := by decide +kernel
theorem dX11_owesOf_23 : decode cX11_owesOf 23 = .ok (.iadd, 1) := by decide +kernel
theorem dX11_owesOf_24 : decode cX11_owesOf 24 = .ok (.iaload, 1) := by decide +kernel
theorem dX11_owesOf_25 : decode cX11_owesOf 25 = .ok (.aload_n 0, 1) := by decide +kernel
theorem dX11_owesOf_26 : decode cX11_owesOf 26 = .ok (.getfield 25, 3) := by decide +kernel
theorem dX11_owesOf_29 : decode cX11_owesOf 29 = .ok (.bipush 25, 2) := by decide +kernel
theorem dX11_owesOf_31 : decode cX11_owesOf 31 = .ok (.iaload, 1) := by decide +kernel
theorem dX11_owesOf_32 : decode cX11_owesOf 32 = .ok (.invokevirtual 187, 3) := by decide +kernel
theorem dX11_owesOf_35 : decode cX11_owesOf 35 = .ok (.goto 4, 3) := by decide +kernel
theorem dX11_owesOf_38 : decode cX11_owesOf 38 = .ok (.iconst 0, 1) := by decide +kernel
theorem dX11_owesOf_39 : decode cX11_owesOf 39 = .ok (.ireturn, 1) := by decide +kernel
theorem dX11_whoIsIn_0 : decode cX11_whoIsIn 0 = .ok (.iconst 0, 1) := by decide +kernel
theorem dX11_whoIsIn_1 : decode cX11_whoIsIn 1 = .ok (.istore_n 2, 1) := by decide +kernel
theorem dX11_whoIsIn_2 : decode cX11_whoIsIn 2 = .ok (.iconst 0, 1) := by decide +kernel
theorem dX11_whoIsIn_3 : decode cX11_whoIsIn 3 = .ok (.istore_n 3, 1) := by decide +kernel
theorem dX11_whoIsIn_4 : decode cX11_whoIsIn 4 = .ok (.iload_n 3, 1) := by decide +kernel
theorem dX11_whoIsIn_5 : decode cX11_whoIsIn 5 = .ok (.aload_n 0, 1) := by decide +kernel
theorem dX11_whoIsIn_6 : decode cX11_whoIsIn 6 = .ok (.getfield 81, 3) := by decide +kernel
theorem dX11_whoIsIn_9 : decode cX11_whoIsIn 9 = .ok (.if_icmp .ge 29, 3) := by decide +kernel
theorem dX11_whoIsIn_12 : decode cX11_whoIsIn 12 = .ok (.iload_n 2, 1) := by decide +kernel
theorem dX11_whoIsIn_13 : decode cX11_whoIsIn 13 = .ok (.aload_n 0, 1) := by decide +kernel
theorem dX11_whoIsIn_14 : decode cX11_whoIsIn 14 = .ok (.getfield 25, 3) := by decide +kernel
theorem dX11_whoIsIn_17 : decode cX11_whoIsIn 17 = .ok (.iload_n 3, 1) := by decide +kernel
theorem dX11_whoIsIn_18 : decode cX11_whoIsIn 18 = .ok (.iaload, 1) := by decide +kernel
theorem dX11_whoIsIn_19 : decode cX11_whoIsIn 19 = .ok (.iload_n 1, 1) := by decide +kernel
theorem dX11_whoIsIn_20 : decode cX11_whoIsIn 20 = .ok (.if_icmp .ne 9, 3) := by decide +kernel
theorem dX11_whoIsIn_23 : decode cX11_whoIsIn 23 = .ok (.iconst 1, 1) := by decide +kernel
theorem dX11_whoIsIn_24 : decode cX11_whoIsIn 24 = .ok (.iload_n 3, 1) := by decide +kernel
theorem dX11_whoIsIn_25 : decode cX11_whoIsIn 25 = .ok (.ishl, 1) := by decide +kernel
theorem dX11_whoIsIn_26 : decode cX11_whoIsIn 26 = .ok (.goto 4, 3) := by decide +kernel
theorem dX11_whoIsIn_29 : decode cX11_whoIsIn 29 = .ok (.iconst 0, 1) := by decide +kernel
theorem dX11_whoIsIn_30 : decode cX11_whoIsIn 30 = .ok (.ior, 1) := by decide +kernel
theorem dX11_whoIsIn_31 : decode cX11_whoIsIn 31 = .ok (.istore_n 2, 1) := by decide +kernel
theorem dX11_whoIsIn_32 : decode cX11_whoIsIn 32 = .ok (.iinc 3 1, 3) := by decide +kernel
theorem dX11_whoIsIn_35 : decode cX11_whoIsIn 35 = .ok (.goto (-31), 3) := by decide +kernel
theorem dX11_whoIsIn_38 : decode cX11_whoIsIn 38 = .ok (.iload_n 2, 1) := by decide +kernel
theorem dX11_whoIsIn_39 : decode cX11_whoIsIn 39 = .ok (.ireturn, 1) := by decide +kernel
theorem dX11_singingOnes_0 : decode cX11_singingOnes 0 = .ok (.iconst 0, 1) := by decide +kernel
theorem dX11_singingOnes_1 : decode cX11_singingOnes 1 = .ok (.istore_n 1, 1) := by decide +kernel
theorem dX11_singingOnes_2 : decode cX11_singingOnes 2 = .ok (.iconst 0, 1) := by decide +kernel
theorem dX11_singingOnes_3 : decode cX11_singingOnes 3 = .ok (.istore_n 2, 1) := by decide +kernel
theorem dX11_singingOnes_4 : decode cX11_singingOnes 4 = .ok (.iload_n 2, 1) := by decide +kernel
theorem dX11_singingOnes_5 : decode cX11_singingOnes 5 = .ok (.aload_n 0, 1) := by decide +kernel
theorem dX11_singingOnes_6 : decode cX11_singingOnes 6 = .ok (.getfield 81, 3) := by decide +kernel
theorem dX11_singingOnes_9 : decode cX11_singingOnes 9 = .ok (.if_icmp .ge 27, 3) := by decide +kernel
theorem dX11_singingOnes_12 : decode cX11_singingOnes 12 = .ok (.iload_n 1, 1) := by decide +kernel
theorem dX11_singingOnes_13 : decode cX11_singingOnes 13 = .ok (.aload_n 0, 1) := by decide +kernel
theorem dX11_singingOnes_14 : decode cX11_singingOnes 14 = .ok (.iload_n 2, 1) := by decide +kernel
theorem dX11_singingOnes_15 : decode cX11_singingOnes 15 = .ok (.invokevirtual 183, 3) := by decide +kernel
theorem dX11_singingOnes_18 : decode cX11_singingOnes 18 = .ok (.ifCond .eq 9, 3) := by decide +kernel
theorem dX11_singingOnes_21 : decode cX11_singingOnes 21 = .ok (.iconst 1, 1) := by decide +kernel
theorem dX11_singingOnes_22 : decode cX11_singingOnes 22 = .ok (.iload_n 2, 1) := by decide +kernel
theorem dX11_singingOnes_23 : decode cX11_singingOnes 23 = .ok (.ishl, 1) := by decide +kernel
theorem dX11_singingOnes_24 : decode cX11_singingOnes 24 = .ok (.goto 4, 3) := by decide +kernel
theorem dX11_singingOnes_27 : decode cX11_singingOnes 27 = .ok (.iconst 0, 1) := by decide +kernel
theorem dX11_singingOnes_28 : decode cX11_singingOnes 28 = .ok (.ior, 1) := by decide +kernel
theorem dX11_singingOnes_29 : decode cX11_singingOnes 29 = .ok (.istore_n 1, 1) := by decide +kernel
theorem dX11_singingOnes_30 : decode cX11_singingOnes 30 = .ok (.iinc 2 1, 3) := by decide +kernel
theorem dX11_singingOnes_33 : decode cX11_singingOnes 33 = .ok (.goto (-29), 3) := by decide +kernel
theorem dX11_singingOnes_36 : decode cX11_singingOnes 36 = .ok (.iload_n 1, 1) := by decide +kernel
theorem dX11_singingOnes_37 : decode cX11_singingOnes 37 = .ok (.ireturn, 1) := by decide +kernel
theorem dX11_voicesIn_0 : decode cX11_voicesIn 0 = .ok (.aload_n 0, 1) := by decide +kernel
theorem dX11_voicesIn_1 : decode cX11_voicesIn 1 = .ok (.iload_n 1, 1) := by decide +kernel
theorem dX11_voicesIn_2 : decode cX11_voicesIn 2 = .ok (.invokevirtual 191, 3) := by decide +kernel
theorem dX11_voicesIn_5 : decode cX11_voicesIn 5 = .ok (.aload_n 0, 1) := by decide +kernel
theorem dX11_voicesIn_6 : decode cX11_voicesIn 6 = .ok (.invokevirtual 194, 3) := by decide +kernel
theorem dX11_voicesIn_9 : decode cX11_voicesIn 9 = .ok (.iand, 1) := by decide +kernel
theorem dX11_voicesIn_10 : decode cX11_voicesIn 10 = .ok (.invokestatic 197, 3) := by decide +kernel
theorem dX11_voicesIn_13 : decode cX11_voicesIn 13 = .ok (.ireturn, 1) := by decide +kernel
theorem dX11_owedIn_0 : decode cX11_owedIn 0 = .ok (.iconst 0, 1) := by decide +kernel
theorem dX11_owedIn_1 : decode cX11_owedIn 1 = .ok (.istore_n 2, 1) := by decide +kernel
theorem dX11_owedIn_2 : decode cX11_owedIn 2 = .ok (.iconst 0, 1) := by decide +kernel
theorem dX11_owedIn_3 : decode cX11_owedIn 3 = .ok (.istore_n 3, 1) := by decide +kernel
theorem dX11_owedIn_4 : decode cX11_owedIn 4 = .ok (.iload_n 3, 1) := by decide +kernel
theorem dX11_owedIn_5 : decode cX11_owedIn 5 = .ok (.aload_n 0, 1) := by decide +kernel
theorem dX11_owedIn_6 : decode cX11_owedIn 6 = .ok (.getfield 81, 3) := by decide +kernel
theorem dX11_owedIn_9 : decode cX11_owedIn 9 = .ok (.if_icmp .ge 31, 3) := by decide +kernel
theorem dX11_owedIn_12 : decode cX11_owedIn 12 = .ok (.iload_n 2, 1) := by decide +kernel
theorem dX11_owedIn_13 : decode cX11_owedIn 13 = .ok (.aload_n 0, 1) := by decide +kernel
theorem dX11_owedIn_14 : decode cX11_owedIn 14 = .ok (.getfield 25, 3) := by decide +kernel
theorem dX11_owedIn_17 : decode cX11_owedIn 17 = .ok (.iload_n 3, 1) := by decide +kernel
theorem dX11_owedIn_18 : decode cX11_owedIn 18 = .ok (.iaload, 1) := by decide +kernel
theorem dX11_owedIn_19 : decode cX11_owedIn 19 = .ok (.iload_n 1, 1) := by decide +kernel
theorem dX11_owedIn_20 : decode cX11_owedIn 20 = .ok (.if_icmp .ne 11, 3) := by decide +kernel
theorem dX11_owedIn_23 : decode cX11_owedIn 23 = .ok (.aload_n 0, 1) := by decide +kernel
theorem dX11_owedIn_24 : decode cX11_owedIn 24 = .ok (.iload_n 3, 1) := by decide +kernel
theorem dX11_owedIn_25 : decode cX11_owedIn 25 = .ok (.invokevirtual 200, 3) := by decide +kernel
theorem dX11_owedIn_28 : decode cX11_owedIn 28 = .ok (.goto 4, 3) := by decide +kernel
theorem dX11_owedIn_31 : decode cX11_owedIn 31 = .ok (.iconst 0, 1) := by decide +kernel
theorem dX11_owedIn_32 : decode cX11_owedIn 32 = .ok (.iadd, 1) := by decide +kernel
theorem dX11_owedIn_33 : decode cX11_owedIn 33 = .ok (.istore_n 2, 1) := by decide +kernel
theorem dX11_owedIn_34 : decode cX11_owedIn 34 = .ok (.iinc 3 1, 3) := by decide +kernel
theorem dX11_owedIn_37 : decode cX11_owedIn 37 = .ok (.goto (-33), 3) := by decide +kernel
theorem dX11_owedIn_40 : decode cX11_owedIn 40 = .ok (.iload_n 2, 1) := by decide +kernel
theorem dX11_owedIn_41 : decode cX11_owedIn 41 = .ok (.ireturn, 1) := by decide +kernel
theorem dX11_owedByAll_0 : decode cX11_owedByAll 0 = .ok (.iconst 0, 1) := by decide +kernel
theorem dX11_owedByAll_1 : decode cX11_owedByAll 1 = .ok (.istore_n 1, 1) := by decide +kernel
theorem dX11_owedByAll_2 : decode cX11_owedByAll 2 = .ok (.iconst 0, 1) := by decide +kernel
theorem dX11_owedByAll_3 : decode cX11_owedByAll 3 = .ok (.istore_n 2, 1) := by decide +kernel
theorem dX11_owedByAll_4 : decode cX11_owedByAll 4 = .ok (.iload_n 2, 1) := by decide +kernel
theorem dX11_owedByAll_5 : decode cX11_owedByAll 5 = .ok (.aload_n 0, 1) := by decide +kernel
theorem dX11_owedByAll_6 : decode cX11_owedByAll 6 = .ok (.getfield 81, 3) := by decide +kernel
theorem dX11_owedByAll_9 : decode cX11_owedByAll 9 = .ok (.if_icmp .ge 17, 3) := by decide +kernel
theorem dX11_owedByAll_12 : decode cX11_owedByAll 12 = .ok (.iload_n 1, 1) := by decide +kernel
theorem dX11_owedByAll_13 : decode cX11_owedByAll 13 = .ok (.aload_n 0, 1) := by decide +kernel
theorem dX11_owedByAll_14 : decode cX11_owedByAll 14 = .ok (.iload_n 2, 1) := by decide +kernel
theorem dX11_owedByAll_15 : decode cX11_owedByAll 15 = .ok (.invokevirtual 200, 3) := by decide +kernel
theorem dX11_owedByAll_18 : decode cX11_owedByAll 18 = .ok (.iadd, 1) := by decide +kernel
theorem dX11_owedByAll_19 : decode cX11_owedByAll 19 = .ok (.istore_n 1, 1) := by decide +kernel
theorem dX11_owedByAll_20 : decode cX11_owedByAll 20 = .ok (.iinc 2 1, 3) := by decide +kernel
theorem dX11_owedByAll_23 : decode cX11_owedByAll 23 = .ok (.goto (-19), 3) := by decide +kernel
theorem dX11_owedByAll_26 : decode cX11_owedByAll 26 = .ok (.iload_n 1, 1) := by decide +kernel
theorem dX11_owedByAll_27 : decode cX11_owedByAll 27 = .ok (.ireturn, 1) := by decide +kernel
theorem dX11_owedBy_0 : decode cX11_owedBy 0 = .ok (.iconst 0, 1) := by decide +kernel
theorem dX11_owedBy_1 : decode cX11_owedBy 1 = .ok (.istore_n 3, 1) := by decide +kernel
theorem dX11_owedBy_2 : decode cX11_owedBy 2 = .ok (.iconst 0, 1) := by decide +kernel
theorem dX11_owedBy_3 : decode cX11_owedBy 3 = .ok (.istore 4, 2) := by decide +kernel
theorem dX11_owedBy_5 : decode cX11_owedBy 5 = .ok (.iconst 0, 1) := by decide +kernel
theorem dX11_owedBy_6 : decode cX11_owedBy 6 = .ok (.istore 5, 2) := by decide +kernel
theorem dX11_owedBy_8 : decode cX11_owedBy 8 = .ok (.iload 5, 2) := by decide +kernel
theorem dX11_owedBy_10 : decode cX11_owedBy 10 = .ok (.aload_n 0, 1) := by decide +kernel
theorem dX11_owedBy_11 : decode cX11_owedBy 11 = .ok (.getfield 81, 3) := by decide +kernel
theorem dX11_owedBy_14 : decode cX11_owedBy 14 = .ok (.if_icmp .ge 40, 3) := by decide +kernel
theorem dX11_owedBy_17 : decode cX11_owedBy 17 = .ok (.iload_n 1, 1) := by decide +kernel
theorem dX11_owedBy_18 : decode cX11_owedBy 18 = .ok (.iload 5, 2) := by decide +kernel
theorem dX11_owedBy_20 : decode cX11_owedBy 20 = .ok (.invokestatic 203, 3) := by decide +kernel
theorem dX11_owedBy_23 : decode cX11_owedBy 23 = .ok (.ifCond .eq 25, 3) := by decide +kernel
theorem dX11_owedBy_26 : decode cX11_owedBy 26 = .ok (.iload_n 3, 1) := by decide +kernel
theorem dX11_owedBy_27 : decode cX11_owedBy 27 = .ok (.aload_n 0, 1) := by decide +kernel
theorem dX11_owedBy_28 : decode cX11_owedBy 28 = .ok (.iload 5, 2) := by decide +kernel
theorem dX11_owedBy_30 : decode cX11_owedBy 30 = .ok (.iload_n 2, 1) := by decide +kernel
theorem dX11_owedBy_31 : decode cX11_owedBy 31 = .ok (.iload 4, 2) := by decide +kernel
theorem dX11_owedBy_33 : decode cX11_owedBy 33 = .ok (.aload_n 0, 1) := by decide +kernel
theorem dX11_owedBy_34 : decode cX11_owedBy 34 = .ok (.getfield 25, 3) := by decide +kernel
theorem dX11_owedBy_37 : decode cX11_owedBy 37 = .ok (.bipush 25, 2) := by decide +kernel
theorem dX11_owedBy_39 : decode cX11_owedBy 39 = .ok (.iaload, 1) := by decide +kernel
theorem dX11_owedBy_40 : decode cX11_owedBy 40 = .ok (.invokevirtual 187, 3) := by decide +kernel
theorem dX11_owedBy_43 : decode cX11_owedBy 43 = .ok (.iadd, 1) := by decide +kernel
theorem dX11_owedBy_44 : decode cX11_owedBy 44 = .ok (.istore_n 3, 1) := by decide +kernel
theorem dX11_owedBy_45 : decode cX11_owedBy 45 = .ok (.iinc 4 1, 3) := by decide +kernel
theorem dX11_owedBy_48 : decode cX11_owedBy 48 = .ok (.iinc 5 1, 3) := by decide +kernel
theorem dX11_owedBy_51 : decode cX11_owedBy 51 = .ok (.goto (-43), 3) := by decide +kernel
theorem dX11_owedBy_54 : decode cX11_owedBy 54 = .ok (.iload_n 3, 1) := by decide +kernel
theorem dX11_owedBy_55 : decode cX11_owedBy 55 = .ok (.ireturn, 1) := by decide +kernel
theorem dX11_deafPlaces_0 : decode cX11_deafPlaces 0 = .ok (.iconst 0, 1) := by decide +kernel
theorem dX11_deafPlaces_1 : decode cX11_deafPlaces 1 = .ok (.istore_n 1, 1) := by decide +kernel
theorem dX11_deafPlaces_2 : decode cX11_deafPlaces 2 = .ok (.iconst 0, 1) := by decide +kernel
theorem dX11_deafPlaces_3 : decode cX11_deafPlaces 3 = .ok (.istore_n 2, 1) := by decide +kernel
theorem dX11_deafPlaces_4 : decode cX11_deafPlaces 4 = .ok (.iload_n 2, 1) := by decide +kernel
theorem dX11_deafPlaces_5 : decode cX11_deafPlaces 5 = .ok (.aload_n 0, 1) := by decide +kernel
theorem dX11_deafPlaces_6 : decode cX11_deafPlaces 6 = .ok (.getfield 88, 3) := by decide +kernel
theorem dX11_deafPlaces_9 : decode cX11_deafPlaces 9 = .ok (.if_icmp .ge 27, 3) := by decide +kernel
theorem dX11_deafPlaces_12 : decode cX11_deafPlaces 12 = .ok (.iload_n 1, 1) := by decide +kernel
theorem dX11_deafPlaces_13 : decode cX11_deafPlaces 13 = .ok (.aload_n 0, 1) := by decide +kernel
theorem dX11_deafPlaces_14 : decode cX11_deafPlaces 14 = .ok (.iload_n 2, 1) := by decide +kernel
theorem dX11_deafPlaces_15 : decode cX11_deafPlaces 15 = .ok (.invokevirtual 179, 3) := by decide +kernel
theorem dX11_deafPlaces_18 : decode cX11_deafPlaces 18 = .ok (.ifCond .ne 9, 3) := by decide +kernel
theorem dX11_deafPlaces_21 : decode cX11_deafPlaces 21 = .ok (.iconst 1, 1) := by decide +kernel
theorem dX11_deafPlaces_22 : decode cX11_deafPlaces 22 = .ok (.iload_n 2, 1) := by decide +kernel
theorem dX11_deafPlaces_23 : decode cX11_deafPlaces 23 = .ok (.ishl, 1) := by decide +kernel
theorem dX11_deafPlaces_24 : decode cX11_deafPlaces 24 = .ok (.goto 4, 3) := by decide +kernel
theorem dX11_deafPlaces_27 : decode cX11_deafPlaces 27 = .ok (.iconst 0, 1) := by decide +kernel
theorem dX11_deafPlaces_28 : decode cX11_deafPlaces 28 = .ok (.ior, 1) := by decide +kernel
theorem dX11_deafPlaces_29 : decode cX11_deafPlaces 29 = .ok (.istore_n 1, 1) := by decide +kernel
theorem dX11_deafPlaces_30 : decode cX11_deafPlaces 30 = .ok (.iinc 2 1, 3) := by decide +kernel
theorem dX11_deafPlaces_33 : decode cX11_deafPlaces 33 = .ok (.goto (-29), 3) := by decide +kernel
theorem dX11_deafPlaces_36 : decode cX11_deafPlaces 36 = .ok (.iload_n 1, 1) := by decide +kernel
theorem dX11_deafPlaces_37 : decode cX11_deafPlaces 37 = .ok (.ireturn, 1) := by decide +kernel
theorem dX11_richest_0 : decode cX11_richest 0 = .ok (.iconst (-1), 1) := by decide +kernel
theorem dX11_richest_1 : decode cX11_richest 1 = .ok (.istore_n 1, 1) := by decide +kernel
theorem dX11_richest_2 : decode cX11_richest 2 = .ok (.iconst 0, 1) := by decide +kernel
theorem dX11_richest_3 : decode cX11_richest 3 = .ok (.istore_n 2, 1) := by decide +kernel
theorem dX11_richest_4 : decode cX11_richest 4 = .ok (.iload_n 2, 1) := by decide +kernel
theorem dX11_richest_5 : decode cX11_richest 5 = .ok (.aload_n 0, 1) := by decide +kernel
theorem dX11_richest_6 : decode cX11_richest 6 = .ok (.getfield 81, 3) := by decide +kernel
theorem dX11_richest_9 : decode cX11_richest 9 = .ok (.if_icmp .ge 40, 3) := by decide +kernel
theorem dX11_richest_12 : decode cX11_richest 12 = .ok (.iload_n 1, 1) := by decide +kernel
theorem dX11_richest_13 : decode cX11_richest 13 = .ok (.ifCond .lt 24, 3) := by decide +kernel
theorem dX11_richest_16 : decode cX11_richest 16 = .ok (.aload_n 0, 1) := by decide +kernel
theorem dX11_richest_17 : decode cX11_richest 17 = .ok (.getfield 25, 3) := by decide +kernel
theorem dX11_richest_20 : decode cX11_richest 20 = .ok (.bipush 7, 2) := by decide +kernel
theorem dX11_richest_22 : decode cX11_richest 22 = .ok (.iload_n 2, 1) := by decide +kernel
theorem dX11_richest_23 : decode cX11_richest 23 = .ok (.iadd, 1) := by decide +kernel
theorem dX11_richest_24 : decode cX11_richest 24 = .ok (.iaload, 1) := by decide +kernel
theorem dX11_richest_25 : decode cX11_richest 25 = .ok (.aload_n 0, 1) := by decide +kernel
theorem dX11_richest_26 : decode cX11_richest 26 = .ok (.getfield 25, 3) := by decide +kernel
theorem dX11_richest_29 : decode cX11_richest 29 = .ok (.bipush 7, 2) := by decide +kernel
theorem dX11_richest_31 : decode cX11_richest 31 = .ok (.iload_n 1, 1) := by decide +kernel
theorem dX11_richest_32 : decode cX11_richest 32 = .ok (.iadd, 1) := by decide +kernel
theorem dX11_richest_33 : decode cX11_richest 33 = .ok (.iaload, 1) := by decide +kernel
theorem dX11_richest_34 : decode cX11_richest 34 = .ok (.if_icmp .le 7, 3) := by decide +kernel
theorem dX11_richest_37 : decode cX11_richest 37 = .ok (.iload_n 2, 1) := by decide +kernel
theorem dX11_richest_38 : decode cX11_richest 38 = .ok (.goto 4, 3) := by decide +kernel
theorem dX11_richest_41 : decode cX11_richest 41 = .ok (.iload_n 1, 1) := by decide +kernel
theorem dX11_richest_42 : decode cX11_richest 42 = .ok (.istore_n 1, 1) := by decide +kernel
theorem dX11_richest_43 : decode cX11_richest 43 = .ok (.iinc 2 1, 3) := by decide +kernel
theorem dX11_richest_46 : decode cX11_richest 46 = .ok (.goto (-42), 3) := by decide +kernel
theorem dX11_richest_49 : decode cX11_richest 49 = .ok (.iload_n 1, 1) := by decide +kernel
theorem dX11_richest_50 : decode cX11_richest 50 = .ok (.ireturn, 1) := by decide +kernel
theorem dX11_fewest_0 : decode cX11_fewest 0 = .ok (.iconst (-1), 1) := by decide +kernel
theorem dX11_fewest_1 : decode cX11_fewest 1 = .ok (.istore_n 1, 1) := by decide +kernel
theorem dX11_fewest_2 : decode cX11_fewest 2 = .ok (.iconst 0, 1) := by decide +kernel
theorem dX11_fewest_3 : decode cX11_fewest 3 = .ok (.istore_n 2, 1) := by decide +kernel
theorem dX11_fewest_4 : decode cX11_fewest 4 = .ok (.iload_n 2, 1) := by decide +kernel
theorem dX11_fewest_5 : decode cX11_fewest 5 = .ok (.iconst 1, 1) := by decide +kernel
theorem dX11_fewest_6 : decode cX11_fewest 6 = .ok (.aload_n 0, 1) := by decide +kernel
theorem dX11_fewest_7 : decode cX11_fewest 7 = .ok (.getfield 81, 3) := by decide +kernel
theorem dX11_fewest_10 : decode cX11_fewest 10 = .ok (.ishl, 1) := by decide +kernel
theorem dX11_fewest_11 : decode cX11_fewest 11 = .ok (.if_icmp .ge 104, 3) := by decide +kernel
theorem dX11_fewest_14 : decode cX11_fewest 14 = .ok (.aload_n 0, 1) := by decide +kernel
theorem dX11_fewest_15 : decode cX11_fewest 15 = .ok (.getfield 150, 3) := by decide +kernel
theorem dX11_fewest_18 : decode cX11_fewest 18 = .ok (.ifCond .le 97, 3) := by decide +kernel
theorem dX11_fewest_21 : decode cX11_fewest 21 = .ok (.iconst 0, 1) := by decide +kernel
theorem dX11_fewest_22 : decode cX11_fewest 22 = .ok (.istore_n 3, 1) := by decide +kernel
theorem dX11_fewest_23 : decode cX11_fewest 23 = .ok (.iconst 0, 1) := by decide +kernel
theorem dX11_fewest_24 : decode cX11_fewest 24 = .ok (.istore 4, 2) := by decide +kernel
theorem dX11_fewest_26 : decode cX11_fewest 26 = .ok (.iload 4, 2) := by decide +kernel
theorem dX11_fewest_28 : decode cX11_fewest 28 = .ok (.aload_n 0, 1) := by decide +kernel
theorem dX11_fewest_29 : decode cX11_fewest 29 = .ok (.getfield 81, 3) := by decide +kernel
theorem dX11_fewest_32 : decode cX11_fewest 32 = .ok (.if_icmp .ge 32, 3) := by decide +kernel
theorem dX11_fewest_35 : decode cX11_fewest 35 = .ok (.iload_n 3, 1) := by decide +kernel
theorem dX11_fewest_36 : decode cX11_fewest 36 = .ok (.iload_n 2, 1) := by decide +kernel
theorem dX11_fewest_37 : decode cX11_fewest 37 = .ok (.iload 4, 2) := by decide +kernel
theorem dX11_fewest_39 : decode cX11_fewest 39 = .ok (.invokestatic 203, 3) := by decide +kernel
theorem dX11_fewest_42 : decode cX11_fewest 42 = .ok (.ifCond .eq 13, 3) := by decide +kernel
theorem dX11_fewest_45 : decode cX11_fewest 45 = .ok (.aload_n 0, 1) := by decide +kernel
theorem dX11_fewest_46 : decode cX11_fewest 46 = .ok (.getfield 19, 3) := by decide +kernel
theorem dX11_fewest_49 : decode cX11_fewest 49 = .ok (.iload 4, 2) := by decide +kernel
theorem dX11_fewest_51 : decode cX11_fewest 51 = .ok (.iaload, 1) := by decide +kernel
theorem dX11_fewest_52 : decode cX11_fewest 52 = .ok (.goto 4, 3) := by decide +kernel
theorem dX11_fewest_55 : decode cX11_fewest 55 = .ok (.iconst 0, 1) := by decide +kernel
theorem dX11_fewest_56 : decode cX11_fewest 56 = .ok (.ior, 1) := by decide +kernel
theorem dX11_fewest_57 : decode cX11_fewest 57 = .ok (.istore_n 3, 1) := by decide +kernel
theorem dX11_fewest_58 : decode cX11_fewest 58 = .ok (.iinc 4 1, 3) := by decide +kernel
theorem dX11_fewest_61 : decode cX11_fewest 61 = .ok (.goto (-35), 3) := by decide +kernel
theorem dX11_fewest_64 : decode cX11_fewest 64 = .ok (.iload_n 1, 1) := by decide +kernel
theorem dX11_fewest_65 : decode cX11_fewest 65 = .ok (.ifCond .lt 14, 3) := by decide +kernel
theorem dX11_fewest_68 : decode cX11_fewest 68 = .ok (.iload_n 2, 1) := by decide +kernel
theorem dX11_fewest_69 : decode cX11_fewest 69 = .ok (.invokestatic 197, 3) := by decide +kernel
theorem dX11_fewest_72 : decode cX11_fewest 72 = .ok (.iload_n 1, 1) := by decide +kernel
theorem dX11_fewest_73 : decode cX11_fewest 73 = .ok (.invokestatic 197, 3) := by decide +kernel
theorem dX11_fewest_76 : decode cX11_fewest 76 = .ok (.if_icmp .ge 7, 3) := by decide +kernel
theorem dX11_fewest_79 : decode cX11_fewest 79 = .ok (.iconst 1, 1) := by decide +kernel
theorem dX11_fewest_80 : decode cX11_fewest 80 = .ok (.goto 4, 3) := by decide +kernel
theorem dX11_fewest_83 : decode cX11_fewest 83 = .ok (.iconst 0, 1) := by decide +kernel
theorem dX11_fewest_84 : decode cX11_fewest 84 = .ok (.istore 4, 2) := by decide +kernel
theorem dX11_fewest_86 : decode cX11_fewest 86 = .ok (.iload 4, 2) := by decide +kernel
theorem dX11_fewest_88 : decode cX11_fewest 88 = .ok (.ifCond .eq 19, 3) := by decide +kernel
theorem dX11_fewest_91 : decode cX11_fewest 91 = .ok (.iload_n 3, 1) := by decide +kernel
theorem dX11_fewest_92 : decode cX11_fewest 92 = .ok (.iconst 1, 1) := by decide +kernel
theorem dX11_fewest_93 : decode cX11_fewest 93 = .ok (.aload_n 0, 1) := by decide +kernel
theorem dX11_fewest_94 : decode cX11_fewest 94 = .ok (.getfield 150, 3) := by decide +kernel
theorem dX11_fewest_97 : decode cX11_fewest 97 = .ok (.ishl, 1) := by decide +kernel
theorem dX11_fewest_98 : decode cX11_fewest 98 = .ok (.iconst 1, 1) := by decide +kernel
theorem dX11_fewest_99 : decode cX11_fewest 99 = .ok (.isub, 1) := by decide +kernel
theorem dX11_fewest_100 : decode cX11_fewest 100 = .ok (.if_icmp .ne 7, 3) := by decide +kernel
theorem dX11_fewest_103 : decode cX11_fewest 103 = .ok (.iload_n 2, 1) := by decide +kernel
theorem dX11_fewest_104 : decode cX11_fewest 104 = .ok (.goto 4, 3) := by decide +kernel
theorem dX11_fewest_107 : decode cX11_fewest 107 = .ok (.iload_n 1, 1) := by decide +kernel
theorem dX11_fewest_108 : decode cX11_fewest 108 = .ok (.istore_n 1, 1) := by decide +kernel
theorem dX11_fewest_109 : decode cX11_fewest 109 = .ok (.iinc 2 1, 3) := by decide +kernel
theorem dX11_fewest_112 : decode cX11_fewest 112 = .ok (.goto (-108), 3) := by decide +kernel
theorem dX11_fewest_115 : decode cX11_fewest 115 = .ok (.iload_n 1, 1) := by decide +kernel
theorem dX11_fewest_116 : decode cX11_fewest 116 = .ok (.ireturn, 1) := by decide +kernel
theorem dX11_told_0 : decode cX11_told 0 = .ok (.iload_n 1, 1) := by decide +kernel
theorem dX11_told_1 : decode cX11_told 1 = .ok (.tableswitch 207 0 19 #[95, 103, 108, 113, 118, 123, 128, 136, 141, 149, 157, 162, 167, 172, 177, 182, 187, 192, 197, 202], 95) := by decide +kernel
theorem dX11_told_96 : decode cX11_told 96 = .ok (.aload_n 0, 1) := by decide +kernel
theorem dX11_told_97 : decode cX11_told 97 = .ok (.getfield 25, 3) := by decide +kernel
theorem dX11_told_100 : decode cX11_told 100 = .ok (.bipush 25, 2) := by decide +kernel
theorem dX11_told_102 : decode cX11_told 102 = .ok (.iaload, 1) := by decide +kernel
theorem dX11_told_103 : decode cX11_told 103 = .ok (.ireturn, 1) := by decide +kernel
theorem dX11_told_104 : decode cX11_told 104 = .ok (.aload_n 0, 1) := by decide +kernel
theorem dX11_told_105 : decode cX11_told 105 = .ok (.getfield 88, 3) := by decide +kernel
theorem dX11_told_108 : decode cX11_told 108 = .ok (.ireturn, 1) := by decide +kernel
theorem dX11_told_109 : decode cX11_told 109 = .ok (.aload_n 0, 1) := by decide +kernel
theorem dX11_told_110 : decode cX11_told 110 = .ok (.getfield 150, 3) := by decide +kernel
theorem dX11_told_113 : decode cX11_told 113 = .ok (.ireturn, 1) := by decide +kernel
theorem dX11_told_114 : decode cX11_told 114 = .ok (.aload_n 0, 1) := by decide +kernel
theorem dX11_told_115 : decode cX11_told 115 = .ok (.getfield 81, 3) := by decide +kernel
theorem dX11_told_118 : decode cX11_told 118 = .ok (.ireturn, 1) := by decide +kernel
theorem dX11_told_119 : decode cX11_told 119 = .ok (.aload_n 0, 1) := by decide +kernel
theorem dX11_told_120 : decode cX11_told 120 = .ok (.getfield 153, 3) := by decide +kernel
theorem dX11_told_123 : decode cX11_told 123 = .ok (.ireturn, 1) := by decide +kernel
theorem dX11_told_124 : decode cX11_told 124 = .ok (.aload_n 0, 1) := by decide +kernel
theorem dX11_told_125 : decode cX11_told 125 = .ok (.getfield 94, 3) := by decide +kernel
theorem dX11_told_128 : decode cX11_told 128 = .ok (.ireturn, 1) := by decide +kernel
theorem dX11_told_129 : decode cX11_told 129 = .ok (.aload_n 0, 1) := by decide +kernel
theorem dX11_told_130 : decode cX11_told 130 = .ok (.getfield 25, 3) := by decide +kernel
theorem dX11_told_133 : decode cX11_told 133 = .ok (.bipush 28, 2) := by decide +kernel
theorem dX11_told_135 : decode cX11_told 135 = .ok (.iaload, 1) := by decide +kernel
theorem dX11_told_136 : decode cX11_told 136 = .ok (.ireturn, 1) := by decide +kernel
theorem dX11_told_137 : decode cX11_told 137 = .ok (.aload_n 0, 1) := by decide +kernel
theorem dX11_told_138 : decode cX11_told 138 = .ok (.invokevirtual 194, 3) := by decide +kernel
theorem dX11_told_141 : decode cX11_told 141 = .ok (.ireturn, 1) := by decide +kernel
theorem dX11_told_142 : decode cX11_told 142 = .ok (.aload_n 0, 1) := by decide +kernel
theorem dX11_told_143 : decode cX11_told 143 = .ok (.getfield 25, 3) := by decide +kernel
theorem dX11_told_146 : decode cX11_told 146 = .ok (.bipush 26, 2) := by decide +kernel
theorem dX11_told_148 : decode cX11_told 148 = .ok (.iaload, 1) := by decide +kernel
theorem dX11_told_149 : decode cX11_told 149 = .ok (.ireturn, 1) := by decide +kernel
theorem dX11_told_150 : decode cX11_told 150 = .ok (.aload_n 0, 1) := by decide +kernel
theorem dX11_told_151 : decode cX11_told 151 = .ok (.getfield 25, 3) := by decide +kernel
theorem dX11_told_154 : decode cX11_told 154 = .ok (.bipush 27, 2) := by decide +kernel
theorem dX11_told_156 : decode cX11_told 156 = .ok (.iaload, 1) := by decide +kernel
theorem dX11_told_157 : decode cX11_told 157 = .ok (.ireturn, 1) := by decide +kernel
theorem dX11_told_158 : decode cX11_told 158 = .ok (.aload_n 0, 1) := by decide +kernel
theorem dX11_told_159 : decode cX11_told 159 = .ok (.invokevirtual 207, 3) := by decide +kernel
theorem dX11_told_162 : decode cX11_told 162 = .ok (.ireturn, 1) := by decide +kernel
theorem dX11_told_163 : decode cX11_told 163 = .ok (.aload_n 0, 1) := by decide +kernel
theorem dX11_told_164 : decode cX11_told 164 = .ok (.invokevirtual 210, 3) := by decide +kernel
theorem dX11_told_167 : decode cX11_told 167 = .ok (.ireturn, 1) := by decide +kernel
theorem dX11_told_168 : decode cX11_told 168 = .ok (.aload_n 0, 1) := by decide +kernel
theorem dX11_told_169 : decode cX11_told 169 = .ok (.invokevirtual 213, 3) := by decide +kernel
theorem dX11_told_172 : decode cX11_told 172 = .ok (.ireturn, 1) := by decide +kernel
theorem dX11_told_173 : decode cX11_told 173 = .ok (.aload_n 0, 1) := by decide +kernel
theorem dX11_told_174 : decode cX11_told 174 = .ok (.invokevirtual 216, 3) := by decide +kernel
theorem dX11_told_177 : decode cX11_told 177 = .ok (.ireturn, 1) := by decide +kernel
theorem dX11_told_178 : decode cX11_told 178 = .ok (.aload_n 0, 1) := by decide +kernel
theorem dX11_told_179 : decode cX11_told 179 = .ok (.getfield 170, 3) := by decide +kernel
theorem dX11_told_182 : decode cX11_told 182 = .ok (.ireturn, 1) := by decide +kernel
theorem dX11_told_183 : decode cX11_told 183 = .ok (.aload_n 0, 1) := by decide +kernel
theorem dX11_told_184 : decode cX11_told 184 = .ok (.invokevirtual 219, 3) := by decide +kernel
theorem dX11_told_187 : decode cX11_told 187 = .ok (.ireturn, 1) := by decide +kernel
theorem dX11_told_188 : decode cX11_told 188 = .ok (.aload_n 0, 1) := by decide +kernel
theorem dX11_told_189 : decode cX11_told 189 = .ok (.invokevirtual 222, 3) := by decide +kernel
theorem dX11_told_192 : decode cX11_told 192 = .ok (.ireturn, 1) := by decide +kernel
theorem dX11_told_193 : decode cX11_told 193 = .ok (.aload_n 0, 1) := by decide +kernel
theorem dX11_told_194 : decode cX11_told 194 = .ok (.invokevirtual 225, 3) := by decide +kernel
theorem dX11_told_197 : decode cX11_told 197 = .ok (.ireturn, 1) := by decide +kernel
theorem dX11_told_198 : decode cX11_told 198 = .ok (.aload_n 0, 1) := by decide +kernel
theorem dX11_told_199 : decode cX11_told 199 = .ok (.getfield 173, 3) := by decide +kernel
theorem dX11_told_202 : decode cX11_told 202 = .ok (.ireturn, 1) := by decide +kernel
theorem dX11_told_203 : decode cX11_told 203 = .ok (.aload_n 0, 1) := by decide +kernel
theorem dX11_told_204 : decode cX11_told 204 = .ok (.getfield 176, 3) := by decide +kernel
theorem dX11_told_207 : decode cX11_told 207 = .ok (.ireturn, 1) := by decide +kernel
theorem dX11_told_208 : decode cX11_told 208 = .ok (.ldc 93, 2) := by decide +kernel
theorem dX11_told_210 : decode cX11_told 210 = .ok (.ireturn, 1) := by decide +kernel
theorem dX11_singer_0 : decode cX11_singer 0 = .ok (.aload_n 0, 1) := by decide +kernel
theorem dX11_singer_1 : decode cX11_singer 1 = .ok (.iload_n 1, 1) := by decide +kernel
theorem dX11_singer_2 : decode cX11_singer 2 = .ok (.invokevirtual 228, 3) := by decide +kernel
theorem dX11_singer_5 : decode cX11_singer 5 = .ok (.ifCond .ne 6, 3) := by decide +kernel
theorem dX11_singer_8 : decode cX11_singer 8 = .ok (.ldc 231, 2) := by decide +kernel
theorem dX11_singer_10 : decode cX11_singer 10 = .ok (.ireturn, 1) := by decide +kernel
theorem dX11_singer_11 : decode cX11_singer 11 = .ok (.iload_n 2, 1) := by decide +kernel
theorem dX11_singer_12 : decode cX11_singer 12 = .ok (.tableswitch 87 0 5 #[40, 47, 54, 64, 71, 81], 40) := by decide +kernel
theorem dX11_singer_52 : decode cX11_singer 52 = .ok (.aload_n 0, 1) := by decide +kernel
theorem dX11_singer_53 : decode cX11_singer 53 = .ok (.getfield 7, 3) := by decide +kernel
theorem dX11_singer_56 : decode cX11_singer 56 = .ok (.iload_n 1, 1) := by decide +kernel
theorem dX11_singer_57 : decode cX11_singer 57 = .ok (.iaload, 1) := by decide +kernel
theorem dX11_singer_58 : decode cX11_singer 58 = .ok (.ireturn, 1) := by decide +kernel
theorem dX11_singer_59 : decode cX11_singer 59 = .ok (.aload_n 0, 1) := by decide +kernel
theorem dX11_singer_60 : decode cX11_singer 60 = .ok (.getfield 25, 3) := by decide +kernel
theorem dX11_singer_63 : decode cX11_singer 63 = .ok (.iload_n 1, 1) := by decide +kernel
theorem dX11_singer_64 : decode cX11_singer 64 = .ok (.iaload, 1) := by decide +kernel
theorem dX11_singer_65 : decode cX11_singer 65 = .ok (.ireturn, 1) := by decide +kernel
theorem dX11_singer_66 : decode cX11_singer 66 = .ok (.aload_n 0, 1) := by decide +kernel
theorem dX11_singer_67 : decode cX11_singer 67 = .ok (.getfield 25, 3) := by decide +kernel
theorem dX11_singer_70 : decode cX11_singer 70 = .ok (.bipush 7, 2) := by decide +kernel
theorem dX11_singer_72 : decode cX11_singer 72 = .ok (.iload_n 1, 1) := by decide +kernel
theorem dX11_singer_73 : decode cX11_singer 73 = .ok (.iadd, 1) := by decide +kernel
theorem dX11_singer_74 : decode cX11_singer 74 = .ok (.iaload, 1) := by decide +kernel
theorem dX11_singer_75 : decode cX11_singer 75 = .ok (.ireturn, 1) := by decide +kernel
theorem dX11_singer_76 : decode cX11_singer 76 = .ok (.aload_n 0, 1) := by decide +kernel
theorem dX11_singer_77 : decode cX11_singer 77 = .ok (.getfield 19, 3) := by decide +kernel
theorem dX11_singer_80 : decode cX11_singer 80 = .ok (.iload_n 1, 1) := by decide +kernel
theorem dX11_singer_81 : decode cX11_singer 81 = .ok (.iaload, 1) := by decide +kernel
theorem dX11_singer_82 : decode cX11_singer 82 = .ok (.ireturn, 1) := by decide +kernel
theorem dX11_singer_83 : decode cX11_singer 83 = .ok (.aload_n 0, 1) := by decide +kernel
theorem dX11_singer_84 : decode cX11_singer 84 = .ok (.getfield 25, 3) := by decide +kernel
theorem dX11_singer_87 : decode cX11_singer 87 = .ok (.bipush 14, 2) := by decide +kernel
theorem dX11_singer_89 : decode cX11_singer 89 = .ok (.iload_n 1, 1) := by decide +kernel
theorem dX11_singer_90 : decode cX11_singer 90 = .ok (.iadd, 1) := by decide +kernel
theorem dX11_singer_91 : decode cX11_singer 91 = .ok (.iaload, 1) := by decide +kernel
theorem dX11_singer_92 : decode cX11_singer 92 = .ok (.ireturn, 1) := by decide +kernel
theorem dX11_singer_93 : decode cX11_singer 93 = .ok (.aload_n 0, 1) := by decide +kernel
theorem dX11_singer_94 : decode cX11_singer 94 = .ok (.iload_n 1, 1) := by decide +kernel
theorem dX11_singer_95 : decode cX11_singer 95 = .ok (.invokevirtual 200, 3) := by decide +kernel
theorem dX11_singer_98 : decode cX11_singer 98 = .ok (.ireturn, 1) := by decide +kernel
theorem dX11_singer_99 : decode cX11_singer 99 = .ok (.ldc 93, 2) := by decide +kernel
theorem dX11_singer_101 : decode cX11_singer 101 = .ok (.ireturn, 1) := by decide +kernel
theorem dX11_place_0 : decode cX11_place 0 = .ok (.aload_n 0, 1) := by decide +kernel
theorem dX11_place_1 : decode cX11_place 1 = .ok (.iload_n 1, 1) := by decide +kernel
theorem dX11_place_2 : decode cX11_place 2 = .ok (.invokevirtual 232, 3) := by decide +kernel
theorem dX11_place_5 : decode cX11_place 5 = .ok (.ifCond .ne 6, 3) := by decide +kernel
theorem dX11_place_8 : decode cX11_place 8 = .ok (.ldc 231, 2) := by decide +kernel
theorem dX11_place_10 : decode cX11_place 10 = .ok (.ireturn, 1) := by decide +kernel
theorem dX11_place_11 : decode cX11_place 11 = .ok (.iload_n 2, 1) := by decide +kernel
theorem dX11_place_12 : decode cX11_place 12 = .ok (.tableswitch 61 0 3 #[32, 38, 49, 55], 32) := by decide +kernel
theorem dX11_place_44 : decode cX11_place 44 = .ok (.aload_n 0, 1) := by decide +kernel
theorem dX11_place_45 : decode cX11_place 45 = .ok (.iload_n 1, 1) := by decide +kernel
theorem dX11_place_46 : decode cX11_place 46 = .ok (.invokevirtual 191, 3) := by decide +kernel
theorem dX11_place_49 : decode cX11_place 49 = .ok (.ireturn, 1) := by decide +kernel
theorem dX11_place_50 : decode cX11_place 50 = .ok (.aload_n 0, 1) := by decide +kernel
theorem dX11_place_51 : decode cX11_place 51 = .ok (.iload_n 1, 1) := by decide +kernel
theorem dX11_place_52 : decode cX11_place 52 = .ok (.invokevirtual 191, 3) := by decide +kernel
theorem dX11_place_55 : decode cX11_place 55 = .ok (.aload_n 0, 1) := by decide +kernel
theorem dX11_place_56 : decode cX11_place 56 = .ok (.invokevirtual 194, 3) := by decide +kernel
theorem dX11_place_59 : decode cX11_place 59 = .ok (.iand, 1) := by decide +kernel
theorem dX11_place_60 : decode cX11_place 60 = .ok (.ireturn, 1) := by decide +kernel
theorem dX11_place_61 : decode cX11_place 61 = .ok (.aload_n 0, 1) := by decide +kernel
theorem dX11_place_62 : decode cX11_place 62 = .ok (.iload_n 1, 1) := by decide +kernel
theorem dX11_place_63 : decode cX11_place 63 = .ok (.invokevirtual 235, 3) := by decide +kernel
theorem dX11_place_66 : decode cX11_place 66 = .ok (.ireturn, 1) := by decide +kernel
theorem dX11_place_67 : decode cX11_place 67 = .ok (.aload_n 0, 1) := by decide +kernel
theorem dX11_place_68 : decode cX11_place 68 = .ok (.iload_n 1, 1) := by decide +kernel
theorem dX11_place_69 : decode cX11_place 69 = .ok (.invokevirtual 179, 3) := by decide +kernel
theorem dX11_place_72 : decode cX11_place 72 = .ok (.ireturn, 1) := by decide +kernel
theorem dX11_place_73 : decode cX11_place 73 = .ok (.ldc 93, 2) := by decide +kernel
theorem dX11_place_75 : decode cX11_place 75 = .ok (.ireturn, 1) := by decide +kernel
theorem dX11_remember_0 : decode cX11_remember 0 = .ok (.aload_n 0, 1) := by decide +kernel
theorem dX11_remember_1 : decode cX11_remember 1 = .ok (.getfield 176, 3) := by decide +kernel
theorem dX11_remember_4 : decode cX11_remember 4 = .ok (.bipush 16, 2) := by decide +kernel
theorem dX11_remember_6 : decode cX11_remember 6 = .ok (.if_icmp .ne 44, 3) := by decide +kernel
theorem dX11_remember_9 : decode cX11_remember 9 = .ok (.bipush 29, 2) := by decide +kernel
theorem dX11_remember_11 : decode cX11_remember 11 = .ok (.istore_n 1, 1) := by decide +kernel
theorem dX11_remember_12 : decode cX11_remember 12 = .ok (.iload_n 1, 1) := by decide +kernel
theorem dX11_remember_13 : decode cX11_remember 13 = .ok (.sipush 464, 3) := by decide +kernel
theorem dX11_remember_16 : decode cX11_remember 16 = .ok (.if_icmp .ge 24, 3) := by decide +kernel
theorem dX11_remember_19 : decode cX11_remember 19 = .ok (.aload_n 0, 1) := by decide +kernel
theorem dX11_remember_20 : decode cX11_remember 20 = .ok (.getfield 50, 3) := by decide +kernel
theorem dX11_remember_23 : decode cX11_remember 23 = .ok (.iload_n 1, 1) := by decide +kernel
theorem dX11_remember_24 : decode cX11_remember 24 = .ok (.bipush 29, 2) := by decide +kernel
theorem dX11_remember_26 : decode cX11_remember 26 = .ok (.isub, 1) := by decide +kernel
theorem dX11_remember_27 : decode cX11_remember 27 = .ok (.aload_n 0, 1) := by decide +kernel
theorem dX11_remember_28 : decode cX11_remember 28 = .ok (.getfield 50, 3) := by decide +kernel
theorem dX11_remember_31 : decode cX11_remember 31 = .ok (.iload_n 1, 1) := by decide +kernel
theorem dX11_remember_32 : decode cX11_remember 32 = .ok (.iaload, 1) := by decide +kernel
theorem dX11_remember_33 : decode cX11_remember 33 = .ok (.iastore, 1) := by decide +kernel
theorem dX11_remember_34 : decode cX11_remember 34 = .ok (.iinc 1 1, 3) := by decide +kernel
theorem dX11_remember_37 : decode cX11_remember 37 = .ok (.goto (-25), 3) := by decide +kernel
theorem dX11_remember_40 : decode cX11_remember 40 = .ok (.aload_n 0, 1) := by decide +kernel
theorem dX11_remember_41 : decode cX11_remember 41 = .ok (.dup, 1) := by decide +kernel
theorem dX11_remember_42 : decode cX11_remember 42 = .ok (.getfield 176, 3) := by decide +kernel
theorem dX11_remember_45 : decode cX11_remember 45 = .ok (.iconst 1, 1) := by decide +kernel
theorem dX11_remember_46 : decode cX11_remember 46 = .ok (.isub, 1) := by decide +kernel
theorem dX11_remember_47 : decode cX11_remember 47 = .ok (.putfield 176, 3) := by decide +kernel
theorem dX11_remember_50 : decode cX11_remember 50 = .ok (.iconst 0, 1) := by decide +kernel
theorem dX11_remember_51 : decode cX11_remember 51 = .ok (.istore_n 1, 1) := by decide +kernel
theorem dX11_remember_52 : decode cX11_remember 52 = .ok (.iload_n 1, 1) := by decide +kernel
theorem dX11_remember_53 : decode cX11_remember 53 = .ok (.bipush 29, 2) := by decide +kernel
theorem dX11_remember_55 : decode cX11_remember 55 = .ok (.if_icmp .ge 29, 3) := by decide +kernel
theorem dX11_remember_58 : decode cX11_remember 58 = .ok (.aload_n 0, 1) := by decide +kernel
theorem dX11_remember_59 : decode cX11_remember 59 = .ok (.getfield 50, 3) := by decide +kernel
theorem dX11_remember_62 : decode cX11_remember 62 = .ok (.bipush 29, 2) := by decide +kernel
theorem dX11_remember_64 : decode cX11_remember 64 = .ok (.aload_n 0, 1) := by decide +kernel
theorem dX11_remember_65 : decode cX11_remember 65 = .ok (.getfield 176, 3) := by decide +kernel
theorem dX11_remember_68 : decode cX11_remember 68 = .ok (.imul, 1) := by decide +kernel
theorem dX11_remember_69 : decode cX11_remember 69 = .ok (.iload_n 1, 1) := by decide +kernel
theorem dX11_remember_70 : decode cX11_remember 70 = .ok (.iadd, 1) := by decide +kernel
theorem dX11_remember_71 : decode cX11_remember 71 = .ok (.aload_n 0, 1) := by decide +kernel
theorem dX11_remember_72 : decode cX11_remember 72 = .ok (.getfield 25, 3) := by decide +kernel
theorem dX11_remember_75 : decode cX11_remember 75 = .ok (.iload_n 1, 1) := by decide +kernel
theorem dX11_remember_76 : decode cX11_remember 76 = .ok (.iaload, 1) := by decide +kernel
theorem dX11_remember_77 : decode cX11_remember 77 = .ok (.iastore, 1) := by decide +kernel
theorem dX11_remember_78 : decode cX11_remember 78 = .ok (.iinc 1 1, 3) := by decide +kernel
theorem dX11_remember_81 : decode cX11_remember 81 = .ok (.goto (-29), 3) := by decide +kernel
theorem dX11_remember_84 : decode cX11_remember 84 = .ok (.aload_n 0, 1) := by decide +kernel
theorem dX11_remember_85 : decode cX11_remember 85 = .ok (.dup, 1) := by decide +kernel
theorem dX11_remember_86 : decode cX11_remember 86 = .ok (.getfield 176, 3) := by decide +kernel
theorem dX11_remember_89 : decode cX11_remember 89 = .ok (.iconst 1, 1) := by decide +kernel
theorem dX11_remember_90 : decode cX11_remember 90 = .ok (.iadd, 1) := by decide +kernel
theorem dX11_remember_91 : decode cX11_remember 91 = .ok (.putfield 176, 3) := by decide +kernel
theorem dX11_remember_94 : decode cX11_remember 94 = .ok (.return_, 1) := by decide +kernel
theorem dX11_hushNow_0 : decode cX11_hushNow 0 = .ok (.aload_n 0, 1) := by decide +kernel
theorem dX11_hushNow_1 : decode cX11_hushNow 1 = .ok (.getfield 25, 3) := by decide +kernel
theorem dX11_hushNow_4 : decode cX11_hushNow 4 = .ok (.bipush 14, 2) := by decide +kernel
theorem dX11_hushNow_6 : decode cX11_hushNow 6 = .ok (.iload_n 1, 1) := by decide +kernel
theorem dX11_hushNow_7 : decode cX11_hushNow 7 = .ok (.iadd, 1) := by decide +kernel
theorem dX11_hushNow_8 : decode cX11_hushNow 8 = .ok (.iaload, 1) := by decide +kernel
theorem dX11_hushNow_9 : decode cX11_hushNow 9 = .ok (.istore_n 2, 1) := by decide +kernel
theorem dX11_hushNow_10 : decode cX11_hushNow 10 = .ok (.iconst 0, 1) := by decide +kernel
theorem dX11_hushNow_11 : decode cX11_hushNow 11 = .ok (.istore_n 3, 1) := by decide +kernel
theorem dX11_hushNow_12 : decode cX11_hushNow 12 = .ok (.iload_n 3, 1) := by decide +kernel
theorem dX11_hushNow_13 : decode cX11_hushNow 13 = .ok (.aload_n 0, 1) := by decide +kernel
theorem dX11_hushNow_14 : decode cX11_hushNow 14 = .ok (.getfield 81, 3) := by decide +kernel
theorem dX11_hushNow_17 : decode cX11_hushNow 17 = .ok (.if_icmp .ge 59, 3) := by decide +kernel
theorem dX11_hushNow_20 : decode cX11_hushNow 20 = .ok (.iload_n 2, 1) := by decide +kernel
theorem dX11_hushNow_21 : decode cX11_hushNow 21 = .ok (.iconst (-1), 1) := by decide +kernel
theorem dX11_hushNow_22 : decode cX11_hushNow 22 = .ok (.if_icmp .eq 54, 3) := by decide +kernel
theorem dX11_hushNow_25 : decode cX11_hushNow 25 = .ok (.aload_n 0, 1) := by decide +kernel
theorem dX11_hushNow_26 : decode cX11_hushNow 26 = .ok (.getfield 25, 3) := by decide +kernel
theorem dX11_hushNow_29 : decode cX11_hushNow 29 = .ok (.bipush 14, 2) := by decide +kernel
theorem dX11_hushNow_31 : decode cX11_hushNow 31 = .ok (.iload_n 3, 1) := by decide +kernel
theorem dX11_hushNow_32 : decode cX11_hushNow 32 = .ok (.iadd, 1) := by decide +kernel
theorem dX11_hushNow_33 : decode cX11_hushNow 33 = .ok (.dup2, 1) := by decide +kernel
theorem dX11_hushNow_34 : decode cX11_hushNow 34 = .ok (.iaload, 1) := by decide +kernel
theorem dX11_hushNow_35 : decode cX11_hushNow 35 = .ok (.aload_n 0, 1) := by decide +kernel
theorem dX11_hushNow_36 : decode cX11_hushNow 36 = .ok (.getfield 25, 3) := by decide +kernel
theorem dX11_hushNow_39 : decode cX11_hushNow 39 = .ok (.iload_n 3, 1) := by decide +kernel
theorem dX11_hushNow_40 : decode cX11_hushNow 40 = .ok (.iaload, 1) := by decide +kernel
theorem dX11_hushNow_41 : decode cX11_hushNow 41 = .ok (.aload_n 0, 1) := by decide +kernel
theorem dX11_hushNow_42 : decode cX11_hushNow 42 = .ok (.getfield 25, 3) := by decide +kernel
theorem dX11_hushNow_45 : decode cX11_hushNow 45 = .ok (.iload_n 1, 1) := by decide +kernel
theorem dX11_hushNow_46 : decode cX11_hushNow 46 = .ok (.iaload, 1) := by decide +kernel
theorem dX11_hushNow_47 : decode cX11_hushNow 47 = .ok (.if_icmp .ne 20, 3) := by decide +kernel
theorem dX11_hushNow_50 : decode cX11_hushNow 50 = .ok (.aload_n 0, 1) := by decide +kernel
theorem dX11_hushNow_51 : decode cX11_hushNow 51 = .ok (.getfield 25, 3) := by decide +kernel
theorem dX11_hushNow_54 : decode cX11_hushNow 54 = .ok (.bipush 14, 2) := by decide +kernel
theorem dX11_hushNow_56 : decode cX11_hushNow 56 = .ok (.iload_n 3, 1) := by decide +kernel
theorem dX11_hushNow_57 : decode cX11_hushNow 57 = .ok (.iadd, 1) := by decide +kernel
theorem dX11_hushNow_58 : decode cX11_hushNow 58 = .ok (.iaload, 1) := by decide +kernel
theorem dX11_hushNow_59 : decode cX11_hushNow 59 = .ok (.iload_n 2, 1) := by decide +kernel
theorem dX11_hushNow_60 : decode cX11_hushNow 60 = .ok (.if_icmp .le 7, 3) := by decide +kernel
theorem dX11_hushNow_63 : decode cX11_hushNow 63 = .ok (.iconst 1, 1) := by decide +kernel
theorem dX11_hushNow_64 : decode cX11_hushNow 64 = .ok (.goto 4, 3) := by decide +kernel
theorem dX11_hushNow_67 : decode cX11_hushNow 67 = .ok (.iconst 0, 1) := by decide +kernel
theorem dX11_hushNow_68 : decode cX11_hushNow 68 = .ok (.isub, 1) := by decide +kernel
theorem dX11_hushNow_69 : decode cX11_hushNow 69 = .ok (.iastore, 1) := by decide +kernel
theorem dX11_hushNow_70 : decode cX11_hushNow 70 = .ok (.iinc 3 1, 3) := by decide +kernel
theorem dX11_hushNow_73 : decode cX11_hushNow 73 = .ok (.goto (-61), 3) := by decide +kernel
theorem dX11_hushNow_76 : decode cX11_hushNow 76 = .ok (.aload_n 0, 1) := by decide +kernel
theorem dX11_hushNow_77 : decode cX11_hushNow 77 = .ok (.getfield 25, 3) := by decide +kernel
theorem dX11_hushNow_80 : decode cX11_hushNow 80 = .ok (.bipush 14, 2) := by decide +kernel
theorem dX11_hushNow_82 : decode cX11_hushNow 82 = .ok (.iload_n 1, 1) := by decide +kernel
theorem dX11_hushNow_83 : decode cX11_hushNow 83 = .ok (.iadd, 1) := by decide +kernel
theorem dX11_hushNow_84 : decode cX11_hushNow 84 = .ok (.iconst (-1), 1) := by decide +kernel
theorem dX11_hushNow_85 : decode cX11_hushNow 85 = .ok (.iastore, 1) := by decide +kernel
theorem dX11_hushNow_86 : decode cX11_hushNow 86 = .ok (.return_, 1) := by decide +kernel
theorem dX11_pass_0 : decode cX11_pass 0 = .ok (.iconst 0, 1) := by decide +kernel
theorem dX11_pass_1 : decode cX11_pass 1 = .ok (.istore_n 1, 1) := by decide +kernel
theorem dX11_pass_2 : decode cX11_pass 2 = .ok (.iconst 0, 1) := by decide +kernel
theorem dX11_pass_3 : decode cX11_pass 3 = .ok (.istore_n 2, 1) := by decide +kernel
theorem dX11_pass_4 : decode cX11_pass 4 = .ok (.iconst 0, 1) := by decide +kernel
theorem dX11_pass_5 : decode cX11_pass 5 = .ok (.istore_n 3, 1) := by decide +kernel
theorem dX11_pass_6 : decode cX11_pass 6 = .ok (.iload_n 3, 1) := by decide +kernel
theorem dX11_pass_7 : decode cX11_pass 7 = .ok (.aload_n 0, 1) := by decide +kernel
theorem dX11_pass_8 : decode cX11_pass 8 = .ok (.getfield 81, 3) := by decide +kernel
theorem dX11_pass_11 : decode cX11_pass 11 = .ok (.if_icmp .ge 150, 3) := by decide +kernel
theorem dX11_pass_14 : decode cX11_pass 14 = .ok (.aload_n 0, 1) := by decide +kernel
theorem dX11_pass_15 : decode cX11_pass 15 = .ok (.iload_n 3, 1) := by decide +kernel
theorem dX11_pass_16 : decode cX11_pass 16 = .ok (.invokevirtual 200, 3) := by decide +kernel
theorem dX11_pass_19 : decode cX11_pass 19 = .ok (.istore 4, 2) := by decide +kernel
theorem dX11_pass_21 : decode cX11_pass 21 = .ok (.iload 4, 2) := by decide +kernel
theorem dX11_pass_23 : decode cX11_pass 23 = .ok (.aload_n 0, 1) := by decide +kernel
theorem dX11_pass_24 : decode cX11_pass 24 = .ok (.getfield 25, 3) := by decide +kernel
theorem dX11_pass_27 : decode cX11_pass 27 = .ok (.bipush 7, 2) := by decide +kernel
theorem dX11_pass_29 : decode cX11_pass 29 = .ok (.iload_n 3, 1) := by decide +kernel
theorem dX11_pass_30 : decode cX11_pass 30 = .ok (.iadd, 1) := by decide +kernel
theorem dX11_pass_31 : decode cX11_pass 31 = .ok (.iaload, 1) := by decide +kernel
theorem dX11_pass_32 : decode cX11_pass 32 = .ok (.if_icmp .ge 8, 3) := by decide +kernel
theorem dX11_pass_35 : decode cX11_pass 35 = .ok (.iload 4, 2) := by decide +kernel
theorem dX11_pass_37 : decode cX11_pass 37 = .ok (.goto 12, 3) := by decide +kernel
theorem dX11_pass_40 : decode cX11_pass 40 = .ok (.aload_n 0, 1) := by decide +kernel
theorem dX11_pass_41 : decode cX11_pass 41 = .ok (.getfield 25, 3) := by decide +kernel
theorem dX11_pass_44 : decode cX11_pass 44 = .ok (.bipush 7, 2) := by decide +kernel
theorem dX11_pass_46 : decode cX11_pass 46 = .ok (.iload_n 3, 1) := by decide +kernel
theorem dX11_pass_47 : decode cX11_pass 47 = .ok (.iadd, 1) := by decide +kernel
theorem dX11_pass_48 : decode cX11_pass 48 = .ok (.iaload, 1) := by decide +kernel
theorem dX11_pass_49 : decode cX11_pass 49 = .ok (.istore 5, 2) := by decide +kernel
theorem dX11_pass_51 : decode cX11_pass 51 = .ok (.iload_n 1, 1) := by decide +kernel
theorem dX11_pass_52 : decode cX11_pass 52 = .ok (.iload 5, 2) := by decide +kernel
theorem dX11_pass_54 : decode cX11_pass 54 = .ok (.iload 4, 2) := by decide +kernel
theorem dX11_pass_56 : decode cX11_pass 56 = .ok (.if_icmp .ge 9, 3) := by decide +kernel
theorem dX11_pass_59 : decode cX11_pass 59 = .ok (.iconst 1, 1) := by decide +kernel
theorem dX11_pass_60 : decode cX11_pass 60 = .ok (.iload_n 3, 1) := by decide +kernel
theorem dX11_pass_61 : decode cX11_pass 61 = .ok (.ishl, 1) := by decide +kernel
theorem dX11_pass_62 : decode cX11_pass 62 = .ok (.goto 4, 3) := by decide +kernel
theorem dX11_pass_65 : decode cX11_pass 65 = .ok (.iconst 0, 1) := by decide +kernel
theorem dX11_pass_66 : decode cX11_pass 66 = .ok (.ior, 1) := by decide +kernel
theorem dX11_pass_67 : decode cX11_pass 67 = .ok (.istore_n 1, 1) := by decide +kernel
theorem dX11_pass_68 : decode cX11_pass 68 = .ok (.aload_n 0, 1) := by decide +kernel
theorem dX11_pass_69 : decode cX11_pass 69 = .ok (.getfield 7, 3) := by decide +kernel
theorem dX11_pass_72 : decode cX11_pass 72 = .ok (.iload_n 3, 1) := by decide +kernel
theorem dX11_pass_73 : decode cX11_pass 73 = .ok (.iaload, 1) := by decide +kernel
theorem dX11_pass_74 : decode cX11_pass 74 = .ok (.iconst 3, 1) := by decide +kernel
theorem dX11_pass_75 : decode cX11_pass 75 = .ok (.if_icmp .ne 25, 3) := by decide +kernel
theorem dX11_pass_78 : decode cX11_pass 78 = .ok (.iload 5, 2) := by decide +kernel
theorem dX11_pass_80 : decode cX11_pass 80 = .ok (.ifCond .le 20, 3) := by decide +kernel
theorem dX11_pass_83 : decode cX11_pass 83 = .ok (.aload_n 0, 1) := by decide +kernel
theorem dX11_pass_84 : decode cX11_pass 84 = .ok (.aload_n 0, 1) := by decide +kernel
theorem dX11_pass_85 : decode cX11_pass 85 = .ok (.getfield 25, 3) := by decide +kernel
theorem dX11_pass_88 : decode cX11_pass 88 = .ok (.iload_n 3, 1) := by decide +kernel
theorem dX11_pass_89 : decode cX11_pass 89 = .ok (.iaload, 1) := by decide +kernel
theorem dX11_pass_90 : decode cX11_pass 90 = .ok (.invokevirtual 179, 3) := by decide +kernel
theorem dX11_pass_93 : decode cX11_pass 93 = .ok (.ifCond .le 7, 3) := by decide +kernel
theorem dX11_pass_96 : decode cX11_pass 96 = .ok (.iconst 1, 1) := by decide +kernel
theorem dX11_pass_97 : decode cX11_pass 97 = .ok (.goto 4, 3) := by decide +kernel
theorem dX11_pass_100 : decode cX11_pass 100 = .ok (.iconst 0, 1) := by decide +kernel
theorem dX11_pass_101 : decode cX11_pass 101 = .ok (.istore 6, 2) := by decide +kernel
theorem dX11_pass_103 : decode cX11_pass 103 = .ok (.aload_n 0, 1) := by decide +kernel
theorem dX11_pass_104 : decode cX11_pass 104 = .ok (.getfield 25, 3) := by decide +kernel
theorem dX11_pass_107 : decode cX11_pass 107 = .ok (.bipush 27, 2) := by decide +kernel
theorem dX11_pass_109 : decode cX11_pass 109 = .ok (.dup2, 1) := by decide +kernel
theorem dX11_pass_110 : decode cX11_pass 110 = .ok (.iaload, 1) := by decide +kernel
theorem dX11_pass_111 : decode cX11_pass 111 = .ok (.iload 6, 2) := by decide +kernel
theorem dX11_pass_113 : decode cX11_pass 113 = .ok (.ifCond .eq 20, 3) := by decide +kernel
theorem dX11_pass_116 : decode cX11_pass 116 = .ok (.aload_n 0, 1) := by decide +kernel
theorem dX11_pass_117 : decode cX11_pass 117 = .ok (.getfield 25, 3) := by decide +kernel
theorem dX11_pass_120 : decode cX11_pass 120 = .ok (.bipush 27, 2) := by decide +kernel
theorem dX11_pass_122 : decode cX11_pass 122 = .ok (.iaload, 1) := by decide +kernel
theorem dX11_pass_123 : decode cX11_pass 123 = .ok (.sipush 9999, 3) := by decide +kernel
theorem dX11_pass_126 : decode cX11_pass 126 = .ok (.if_icmp .ge 7, 3) := by decide +kernel
theorem dX11_pass_129 : decode cX11_pass 129 = .ok (.iconst 1, 1) := by decide +kernel
theorem dX11_pass_130 : decode cX11_pass 130 = .ok (.goto 4, 3) := by decide +kernel
theorem dX11_pass_133 : decode cX11_pass 133 = .ok (.iconst 0, 1) := by decide +kernel
theorem dX11_pass_134 : decode cX11_pass 134 = .ok (.iadd, 1) := by decide +kernel
theorem dX11_pass_135 : decode cX11_pass 135 = .ok (.iastore, 1) := by decide +kernel
theorem dX11_pass_136 : decode cX11_pass 136 = .ok (.aload_n 0, 1) := by decide +kernel
theorem dX11_pass_137 : decode cX11_pass 137 = .ok (.getfield 25, 3) := by decide +kernel
theorem dX11_pass_140 : decode cX11_pass 140 = .ok (.bipush 7, 2) := by decide +kernel
theorem dX11_pass_142 : decode cX11_pass 142 = .ok (.iload_n 3, 1) := by decide +kernel
theorem dX11_pass_143 : decode cX11_pass 143 = .ok (.iadd, 1) := by decide +kernel
theorem dX11_pass_144 : decode cX11_pass 144 = .ok (.dup2, 1) := by decide +kernel
theorem dX11_pass_145 : decode cX11_pass 145 = .ok (.iaload, 1) := by decide +kernel
theorem dX11_pass_146 : decode cX11_pass 146 = .ok (.iload 5, 2) := by decide +kernel
theorem dX11_pass_148 : decode cX11_pass 148 = .ok (.isub, 1) := by decide +kernel
theorem dX11_pass_149 : decode cX11_pass 149 = .ok (.iastore, 1) := by decide +kernel
theorem dX11_pass_150 : decode cX11_pass 150 = .ok (.iload_n 2, 1) := by decide +kernel
theorem dX11_pass_151 : decode cX11_pass 151 = .ok (.iload 5, 2) := by decide +kernel
theorem dX11_pass_153 : decode cX11_pass 153 = .ok (.iadd, 1) := by decide +kernel
theorem dX11_pass_154 : decode cX11_pass 154 = .ok (.istore_n 2, 1) := by decide +kernel
theorem dX11_pass_155 : decode cX11_pass 155 = .ok (.iinc 3 1, 3) := by decide +kernel
theorem dX11_pass_158 : decode cX11_pass 158 = .ok (.goto (-152), 3) := by decide +kernel
theorem dX11_pass_161 : decode cX11_pass 161 = .ok (.aload_n 0, 1) := by decide +kernel
theorem dX11_pass_162 : decode cX11_pass 162 = .ok (.getfield 25, 3) := by decide +kernel
theorem dX11_pass_165 : decode cX11_pass 165 = .ok (.bipush 26, 2) := by decide +kernel
theorem dX11_pass_167 : decode cX11_pass 167 = .ok (.aload_n 0, 1) := by decide +kernel
theorem dX11_pass_168 : decode cX11_pass 168 = .ok (.getfield 25, 3) := by decide +kernel
theorem dX11_pass_171 : decode cX11_pass 171 = .ok (.bipush 26, 2) := by decide +kernel
theorem dX11_pass_173 : decode cX11_pass 173 = .ok (.iaload, 1) := by decide +kernel
theorem dX11_pass_174 : decode cX11_pass 174 = .ok (.iload_n 2, 1) := by decide +kernel
theorem dX11_pass_175 : decode cX11_pass 175 = .ok (.iadd, 1) := by decide +kernel
theorem dX11_pass_176 : decode cX11_pass 176 = .ok (.ldc 238, 2) := by decide +kernel
theorem dX11_pass_178 : decode cX11_pass 178 = .ok (.if_icmp .ge 15, 3) := by decide +kernel
theorem dX11_pass_181 : decode cX11_pass 181 = .ok (.aload_n 0, 1) := by decide +kernel
theorem dX11_pass_182 : decode cX11_pass 182 = .ok (.getfield 25, 3) := by decide +kernel
theorem dX11_pass_185 : decode cX11_pass 185 = .ok (.bipush 26, 2) := by decide +kernel
theorem dX11_pass_187 : decode cX11_pass 187 = .ok (.iaload, 1) := by decide +kernel
theorem dX11_pass_188 : decode cX11_pass 188 = .ok (.iload_n 2, 1) := by decide +kernel
theorem dX11_pass_189 : decode cX11_pass 189 = .ok (.iadd, 1) := by decide +kernel
theorem dX11_pass_190 : decode cX11_pass 190 = .ok (.goto 5, 3) := by decide +kernel
theorem dX11_pass_193 : decode cX11_pass 193 = .ok (.ldc 238, 2) := by decide +kernel
theorem dX11_pass_195 : decode cX11_pass 195 = .ok (.iastore, 1) := by decide +kernel
theorem dX11_pass_196 : decode cX11_pass 196 = .ok (.iconst 0, 1) := by decide +kernel
theorem dX11_pass_197 : decode cX11_pass 197 = .ok (.istore_n 3, 1) := by decide +kernel
theorem dX11_pass_198 : decode cX11_pass 198 = .ok (.iload_n 3, 1) := by decide +kernel
theorem dX11_pass_199 : decode cX11_pass 199 = .ok (.aload_n 0, 1) := by decide +kernel
theorem dX11_pass_200 : decode cX11_pass 200 = .ok (.getfield 81, 3) := by decide +kernel
theorem dX11_pass_203 : decode cX11_pass 203 = .ok (.if_icmp .ge 22, 3) := by decide +kernel
theorem dX11_pass_206 : decode cX11_pass 206 = .ok (.iload_n 1, 1) := by decide +kernel
theorem dX11_pass_207 : decode cX11_pass 207 = .ok (.iload_n 3, 1) := by decide +kernel
theorem dX11_pass_208 : decode cX11_pass 208 = .ok (.invokestatic 203, 3) := by decide +kernel
theorem dX11_pass_211 : decode cX11_pass 211 = .ok (.ifCond .eq 8, 3) := by decide +kernel
theorem dX11_pass_214 : decode cX11_pass 214 = .ok (.aload_n 0, 1) := by decide +kernel
theorem dX11_pass_215 : decode cX11_pass 215 = .ok (.iload_n 3, 1) := by decide +kernel
theorem dX11_pass_216 : decode cX11_pass 216 = .ok (.invokevirtual 239, 3) := by decide +kernel
theorem dX11_pass_219 : decode cX11_pass 219 = .ok (.iinc 3 1, 3) := by decide +kernel
end
section
theorem dX11_pass_222 : decode cX11_pass 222 = .ok (.goto (-24), 3) := by decide +kernel
theorem dX11_pass_225 : decode cX11_pass 225 = .ok (.aload_n 0, 1) := by decide +kernel
theorem dX11_pass_226 : decode cX11_pass 226 = .ok (.getfield 25, 3) := by decide +kernel
theorem dX11_pass_229 : decode cX11_pass 229 = .ok (.bipush 28, 2) := by decide +kernel
theorem dX11_pass_231 : decode cX11_pass 231 = .ok (.dup2, 1) := by decide +kernel
theorem dX11_pass_232 : decode cX11_pass 232 = .ok (.iaload, 1) := by decide +kernel
theorem dX11_pass_233 : decode cX11_pass 233 = .ok (.iconst 1, 1) := by decide +kernel
theorem dX11_pass_234 : decode cX11_pass 234 = .ok (.iadd, 1) := by decide +kernel
theorem dX11_pass_235 : decode cX11_pass 235 = .ok (.iastore, 1) := by decide +kernel
theorem dX11_pass_236 : decode cX11_pass 236 = .ok (.return_, 1) := by decide +kernel
theorem dX11_versesRefused_0 : decode cX11_versesRefused 0 = .ok (.iload_n 1, 1) := by decide +kernel
theorem dX11_versesRefused_1 : decode cX11_versesRefused 1 = .ok (.i2l, 1) := by decide +kernel
theorem dX11_versesRefused_2 : decode cX11_versesRefused 2 = .ok (.lconst 1, 1) := by decide +kernel
theorem dX11_versesRefused_3 : decode cX11_versesRefused 3 = .ok (.ldc2_w 243, 3) := by decide +kernel
theorem dX11_versesRefused_6 : decode cX11_versesRefused 6 = .ok (.invokestatic 84, 3) := by decide +kernel
theorem dX11_versesRefused_9 : decode cX11_versesRefused 9 = .ok (.ifCond .ne 6, 3) := by decide +kernel
theorem dX11_versesRefused_12 : decode cX11_versesRefused 12 = .ok (.ldc 93, 2) := by decide +kernel
theorem dX11_versesRefused_14 : decode cX11_versesRefused 14 = .ok (.ireturn, 1) := by decide +kernel
theorem dX11_versesRefused_15 : decode cX11_versesRefused 15 = .ok (.aload_n 0, 1) := by decide +kernel
theorem dX11_versesRefused_16 : decode cX11_versesRefused 16 = .ok (.getfield 88, 3) := by decide +kernel
theorem dX11_versesRefused_19 : decode cX11_versesRefused 19 = .ok (.ifCond .ne 8, 3) := by decide +kernel
theorem dX11_versesRefused_22 : decode cX11_versesRefused 22 = .ok (.ldc 245, 2) := by decide +kernel
theorem dX11_versesRefused_24 : decode cX11_versesRefused 24 = .ok (.goto 22, 3) := by decide +kernel
theorem dX11_versesRefused_27 : decode cX11_versesRefused 27 = .ok (.aload_n 0, 1) := by decide +kernel
theorem dX11_versesRefused_28 : decode cX11_versesRefused 28 = .ok (.getfield 25, 3) := by decide +kernel
theorem dX11_versesRefused_31 : decode cX11_versesRefused 31 = .ok (.bipush 28, 2) := by decide +kernel
theorem dX11_versesRefused_33 : decode cX11_versesRefused 33 = .ok (.iaload, 1) := by decide +kernel
theorem dX11_versesRefused_34 : decode cX11_versesRefused 34 = .ok (.sipush 9000, 3) := by decide +kernel
theorem dX11_versesRefused_37 : decode cX11_versesRefused 37 = .ok (.if_icmp .le 8, 3) := by decide +kernel
theorem dX11_versesRefused_40 : decode cX11_versesRefused 40 = .ok (.ldc 97, 2) := by decide +kernel
theorem dX11_versesRefused_42 : decode cX11_versesRefused 42 = .ok (.goto 4, 3) := by decide +kernel
theorem dX11_versesRefused_45 : decode cX11_versesRefused 45 = .ok (.iconst 0, 1) := by decide +kernel
theorem dX11_versesRefused_46 : decode cX11_versesRefused 46 = .ok (.ireturn, 1) := by decide +kernel
theorem dX11_verse_0 : decode cX11_verse 0 = .ok (.aload_n 0, 1) := by decide +kernel
theorem dX11_verse_1 : decode cX11_verse 1 = .ok (.iload_n 1, 1) := by decide +kernel
theorem dX11_verse_2 : decode cX11_verse 2 = .ok (.invokevirtual 246, 3) := by decide +kernel
theorem dX11_verse_5 : decode cX11_verse 5 = .ok (.istore_n 2, 1) := by decide +kernel
theorem dX11_verse_6 : decode cX11_verse 6 = .ok (.iload_n 2, 1) := by decide +kernel
theorem dX11_verse_7 : decode cX11_verse 7 = .ok (.ifCond .eq 5, 3) := by decide +kernel
theorem dX11_verse_10 : decode cX11_verse 10 = .ok (.iload_n 2, 1) := by decide +kernel
theorem dX11_verse_11 : decode cX11_verse 11 = .ok (.ireturn, 1) := by decide +kernel
theorem dX11_verse_12 : decode cX11_verse 12 = .ok (.aload_n 0, 1) := by decide +kernel
theorem dX11_verse_13 : decode cX11_verse 13 = .ok (.invokevirtual 249, 3) := by decide +kernel
theorem dX11_verse_16 : decode cX11_verse 16 = .ok (.iconst 0, 1) := by decide +kernel
theorem dX11_verse_17 : decode cX11_verse 17 = .ok (.istore_n 3, 1) := by decide +kernel
theorem dX11_verse_18 : decode cX11_verse 18 = .ok (.iload_n 3, 1) := by decide +kernel
theorem dX11_verse_19 : decode cX11_verse 19 = .ok (.iload_n 1, 1) := by decide +kernel
theorem dX11_verse_20 : decode cX11_verse 20 = .ok (.if_icmp .ge 13, 3) := by decide +kernel
theorem dX11_verse_23 : decode cX11_verse 23 = .ok (.aload_n 0, 1) := by decide +kernel
theorem dX11_verse_24 : decode cX11_verse 24 = .ok (.invokevirtual 252, 3) := by decide +kernel
theorem dX11_verse_27 : decode cX11_verse 27 = .ok (.iinc 3 1, 3) := by decide +kernel
theorem dX11_verse_30 : decode cX11_verse 30 = .ok (.goto (-12), 3) := by decide +kernel
theorem dX11_verse_33 : decode cX11_verse 33 = .ok (.aload_n 0, 1) := by decide +kernel
theorem dX11_verse_34 : decode cX11_verse 34 = .ok (.getfield 25, 3) := by decide +kernel
theorem dX11_verse_37 : decode cX11_verse 37 = .ok (.bipush 26, 2) := by decide +kernel
theorem dX11_verse_39 : decode cX11_verse 39 = .ok (.iaload, 1) := by decide +kernel
theorem dX11_verse_40 : decode cX11_verse 40 = .ok (.ireturn, 1) := by decide +kernel
theorem dX11_joinNow_0 : decode cX11_joinNow 0 = .ok (.aload_n 0, 1) := by decide +kernel
theorem dX11_joinNow_1 : decode cX11_joinNow 1 = .ok (.getfield 25, 3) := by decide +kernel
theorem dX11_joinNow_4 : decode cX11_joinNow 4 = .ok (.bipush 14, 2) := by decide +kernel
theorem dX11_joinNow_6 : decode cX11_joinNow 6 = .ok (.iload_n 1, 1) := by decide +kernel
theorem dX11_joinNow_7 : decode cX11_joinNow 7 = .ok (.iadd, 1) := by decide +kernel
theorem dX11_joinNow_8 : decode cX11_joinNow 8 = .ok (.aload_n 0, 1) := by decide +kernel
theorem dX11_joinNow_9 : decode cX11_joinNow 9 = .ok (.aload_n 0, 1) := by decide +kernel
theorem dX11_joinNow_10 : decode cX11_joinNow 10 = .ok (.getfield 25, 3) := by decide +kernel
theorem dX11_joinNow_13 : decode cX11_joinNow 13 = .ok (.iload_n 1, 1) := by decide +kernel
theorem dX11_joinNow_14 : decode cX11_joinNow 14 = .ok (.iaload, 1) := by decide +kernel
theorem dX11_joinNow_15 : decode cX11_joinNow 15 = .ok (.invokevirtual 255, 3) := by decide +kernel
theorem dX11_joinNow_18 : decode cX11_joinNow 18 = .ok (.iastore, 1) := by decide +kernel
theorem dX11_joinNow_19 : decode cX11_joinNow 19 = .ok (.return_, 1) := by decide +kernel
theorem dX11_join_0 : decode cX11_join 0 = .ok (.aload_n 0, 1) := by decide +kernel
theorem dX11_join_1 : decode cX11_join 1 = .ok (.iload_n 1, 1) := by decide +kernel
theorem dX11_join_2 : decode cX11_join 2 = .ok (.invokevirtual 228, 3) := by decide +kernel
theorem dX11_join_5 : decode cX11_join 5 = .ok (.ifCond .ne 6, 3) := by decide +kernel
theorem dX11_join_8 : decode cX11_join 8 = .ok (.ldc 231, 2) := by decide +kernel
theorem dX11_join_10 : decode cX11_join 10 = .ok (.ireturn, 1) := by decide +kernel
theorem dX11_join_11 : decode cX11_join 11 = .ok (.aload_n 0, 1) := by decide +kernel
theorem dX11_join_12 : decode cX11_join 12 = .ok (.iload_n 1, 1) := by decide +kernel
theorem dX11_join_13 : decode cX11_join 13 = .ok (.invokevirtual 183, 3) := by decide +kernel
theorem dX11_join_16 : decode cX11_join 16 = .ok (.ifCond .eq 6, 3) := by decide +kernel
theorem dX11_join_19 : decode cX11_join 19 = .ok (.ldc 245, 2) := by decide +kernel
theorem dX11_join_21 : decode cX11_join 21 = .ok (.ireturn, 1) := by decide +kernel
theorem dX11_join_22 : decode cX11_join 22 = .ok (.aload_n 0, 1) := by decide +kernel
theorem dX11_join_23 : decode cX11_join 23 = .ok (.invokevirtual 249, 3) := by decide +kernel
theorem dX11_join_26 : decode cX11_join 26 = .ok (.aload_n 0, 1) := by decide +kernel
theorem dX11_join_27 : decode cX11_join 27 = .ok (.iload_n 1, 1) := by decide +kernel
theorem dX11_join_28 : decode cX11_join 28 = .ok (.invokevirtual 258, 3) := by decide +kernel
theorem dX11_join_31 : decode cX11_join 31 = .ok (.aload_n 0, 1) := by decide +kernel
theorem dX11_join_32 : decode cX11_join 32 = .ok (.getfield 25, 3) := by decide +kernel
theorem dX11_join_35 : decode cX11_join 35 = .ok (.bipush 14, 2) := by decide +kernel
theorem dX11_join_37 : decode cX11_join 37 = .ok (.iload_n 1, 1) := by decide +kernel
theorem dX11_join_38 : decode cX11_join 38 = .ok (.iadd, 1) := by decide +kernel
theorem dX11_join_39 : decode cX11_join 39 = .ok (.iaload, 1) := by decide +kernel
theorem dX11_join_40 : decode cX11_join 40 = .ok (.ireturn, 1) := by decide +kernel
theorem dX11_hush_0 : decode cX11_hush 0 = .ok (.aload_n 0, 1) := by decide +kernel
theorem dX11_hush_1 : decode cX11_hush 1 = .ok (.iload_n 1, 1) := by decide +kernel
theorem dX11_hush_2 : decode cX11_hush 2 = .ok (.invokevirtual 228, 3) := by decide +kernel
theorem dX11_hush_5 : decode cX11_hush 5 = .ok (.ifCond .ne 6, 3) := by decide +kernel
theorem dX11_hush_8 : decode cX11_hush 8 = .ok (.ldc 231, 2) := by decide +kernel
theorem dX11_hush_10 : decode cX11_hush 10 = .ok (.ireturn, 1) := by decide +kernel
theorem dX11_hush_11 : decode cX11_hush 11 = .ok (.aload_n 0, 1) := by decide +kernel
theorem dX11_hush_12 : decode cX11_hush 12 = .ok (.iload_n 1, 1) := by decide +kernel
theorem dX11_hush_13 : decode cX11_hush 13 = .ok (.invokevirtual 183, 3) := by decide +kernel
theorem dX11_hush_16 : decode cX11_hush 16 = .ok (.ifCond .ne 6, 3) := by decide +kernel
theorem dX11_hush_19 : decode cX11_hush 19 = .ok (.ldc 245, 2) := by decide +kernel
theorem dX11_hush_21 : decode cX11_hush 21 = .ok (.ireturn, 1) := by decide +kernel
theorem dX11_hush_22 : decode cX11_hush 22 = .ok (.aload_n 0, 1) := by decide +kernel
theorem dX11_hush_23 : decode cX11_hush 23 = .ok (.invokevirtual 249, 3) := by decide +kernel
theorem dX11_hush_26 : decode cX11_hush 26 = .ok (.aload_n 0, 1) := by decide +kernel
theorem dX11_hush_27 : decode cX11_hush 27 = .ok (.iload_n 1, 1) := by decide +kernel
theorem dX11_hush_28 : decode cX11_hush 28 = .ok (.invokevirtual 239, 3) := by decide +kernel
theorem dX11_hush_31 : decode cX11_hush 31 = .ok (.aload_n 0, 1) := by decide +kernel
theorem dX11_hush_32 : decode cX11_hush 32 = .ok (.aload_n 0, 1) := by decide +kernel
theorem dX11_hush_33 : decode cX11_hush 33 = .ok (.getfield 25, 3) := by decide +kernel
theorem dX11_hush_36 : decode cX11_hush 36 = .ok (.iload_n 1, 1) := by decide +kernel
theorem dX11_hush_37 : decode cX11_hush 37 = .ok (.iaload, 1) := by decide +kernel
theorem dX11_hush_38 : decode cX11_hush 38 = .ok (.invokevirtual 255, 3) := by decide +kernel
theorem dX11_hush_41 : decode cX11_hush 41 = .ok (.ireturn, 1) := by decide +kernel
theorem dX11_goNow_0 : decode cX11_goNow 0 = .ok (.aload_n 0, 1) := by decide +kernel
theorem dX11_goNow_1 : decode cX11_goNow 1 = .ok (.iload_n 1, 1) := by decide +kernel
theorem dX11_goNow_2 : decode cX11_goNow 2 = .ok (.invokevirtual 239, 3) := by decide +kernel
theorem dX11_goNow_5 : decode cX11_goNow 5 = .ok (.aload_n 0, 1) := by decide +kernel
theorem dX11_goNow_6 : decode cX11_goNow 6 = .ok (.getfield 25, 3) := by decide +kernel
theorem dX11_goNow_9 : decode cX11_goNow 9 = .ok (.iload_n 1, 1) := by decide +kernel
theorem dX11_goNow_10 : decode cX11_goNow 10 = .ok (.iload_n 2, 1) := by decide +kernel
theorem dX11_goNow_11 : decode cX11_goNow 11 = .ok (.iastore, 1) := by decide +kernel
theorem dX11_goNow_12 : decode cX11_goNow 12 = .ok (.return_, 1) := by decide +kernel
theorem dX11_go_0 : decode cX11_go 0 = .ok (.aload_n 0, 1) := by decide +kernel
theorem dX11_go_1 : decode cX11_go 1 = .ok (.iload_n 1, 1) := by decide +kernel
theorem dX11_go_2 : decode cX11_go 2 = .ok (.invokevirtual 228, 3) := by decide +kernel
theorem dX11_go_5 : decode cX11_go 5 = .ok (.ifCond .eq 11, 3) := by decide +kernel
theorem dX11_go_8 : decode cX11_go 8 = .ok (.aload_n 0, 1) := by decide +kernel
theorem dX11_go_9 : decode cX11_go 9 = .ok (.iload_n 2, 1) := by decide +kernel
theorem dX11_go_10 : decode cX11_go 10 = .ok (.invokevirtual 232, 3) := by decide +kernel
theorem dX11_go_13 : decode cX11_go 13 = .ok (.ifCond .ne 6, 3) := by decide +kernel
theorem dX11_go_16 : decode cX11_go 16 = .ok (.ldc 231, 2) := by decide +kernel
theorem dX11_go_18 : decode cX11_go 18 = .ok (.ireturn, 1) := by decide +kernel
theorem dX11_go_19 : decode cX11_go 19 = .ok (.aload_n 0, 1) := by decide +kernel
theorem dX11_go_20 : decode cX11_go 20 = .ok (.getfield 25, 3) := by decide +kernel
theorem dX11_go_23 : decode cX11_go 23 = .ok (.iload_n 1, 1) := by decide +kernel
theorem dX11_go_24 : decode cX11_go 24 = .ok (.iaload, 1) := by decide +kernel
theorem dX11_go_25 : decode cX11_go 25 = .ok (.iload_n 2, 1) := by decide +kernel
theorem dX11_go_26 : decode cX11_go 26 = .ok (.if_icmp .ne 6, 3) := by decide +kernel
theorem dX11_go_29 : decode cX11_go 29 = .ok (.ldc 245, 2) := by decide +kernel
theorem dX11_go_31 : decode cX11_go 31 = .ok (.ireturn, 1) := by decide +kernel
theorem dX11_go_32 : decode cX11_go 32 = .ok (.aload_n 0, 1) := by decide +kernel
theorem dX11_go_33 : decode cX11_go 33 = .ok (.invokevirtual 249, 3) := by decide +kernel
theorem dX11_go_36 : decode cX11_go 36 = .ok (.aload_n 0, 1) := by decide +kernel
theorem dX11_go_37 : decode cX11_go 37 = .ok (.getfield 25, 3) := by decide +kernel
theorem dX11_go_40 : decode cX11_go 40 = .ok (.iload_n 1, 1) := by decide +kernel
theorem dX11_go_41 : decode cX11_go 41 = .ok (.iaload, 1) := by decide +kernel
theorem dX11_go_42 : decode cX11_go 42 = .ok (.istore_n 3, 1) := by decide +kernel
theorem dX11_go_43 : decode cX11_go 43 = .ok (.aload_n 0, 1) := by decide +kernel
theorem dX11_go_44 : decode cX11_go 44 = .ok (.iload_n 1, 1) := by decide +kernel
theorem dX11_go_45 : decode cX11_go 45 = .ok (.iload_n 2, 1) := by decide +kernel
theorem dX11_go_46 : decode cX11_go 46 = .ok (.invokevirtual 261, 3) := by decide +kernel
theorem dX11_go_49 : decode cX11_go 49 = .ok (.iload_n 3, 1) := by decide +kernel
theorem dX11_go_50 : decode cX11_go 50 = .ok (.ireturn, 1) := by decide +kernel
theorem dX11_giveNow_0 : decode cX11_giveNow 0 = .ok (.aload_n 0, 1) := by decide +kernel
theorem dX11_giveNow_1 : decode cX11_giveNow 1 = .ok (.getfield 25, 3) := by decide +kernel
theorem dX11_giveNow_4 : decode cX11_giveNow 4 = .ok (.bipush 7, 2) := by decide +kernel
theorem dX11_giveNow_6 : decode cX11_giveNow 6 = .ok (.iload_n 1, 1) := by decide +kernel
theorem dX11_giveNow_7 : decode cX11_giveNow 7 = .ok (.iadd, 1) := by decide +kernel
theorem dX11_giveNow_8 : decode cX11_giveNow 8 = .ok (.aload_n 0, 1) := by decide +kernel
theorem dX11_giveNow_9 : decode cX11_giveNow 9 = .ok (.getfield 25, 3) := by decide +kernel
theorem dX11_giveNow_12 : decode cX11_giveNow 12 = .ok (.bipush 7, 2) := by decide +kernel
theorem dX11_giveNow_14 : decode cX11_giveNow 14 = .ok (.iload_n 1, 1) := by decide +kernel
theorem dX11_giveNow_15 : decode cX11_giveNow 15 = .ok (.iadd, 1) := by decide +kernel
theorem dX11_giveNow_16 : decode cX11_giveNow 16 = .ok (.iaload, 1) := by decide +kernel
theorem dX11_giveNow_17 : decode cX11_giveNow 17 = .ok (.iload_n 2, 1) := by decide +kernel
theorem dX11_giveNow_18 : decode cX11_giveNow 18 = .ok (.iadd, 1) := by decide +kernel
theorem dX11_giveNow_19 : decode cX11_giveNow 19 = .ok (.sipush 9999, 3) := by decide +kernel
theorem dX11_giveNow_22 : decode cX11_giveNow 22 = .ok (.if_icmp .ge 17, 3) := by decide +kernel
theorem dX11_giveNow_25 : decode cX11_giveNow 25 = .ok (.aload_n 0, 1) := by decide +kernel
theorem dX11_giveNow_26 : decode cX11_giveNow 26 = .ok (.getfield 25, 3) := by decide +kernel
theorem dX11_giveNow_29 : decode cX11_giveNow 29 = .ok (.bipush 7, 2) := by decide +kernel
theorem dX11_giveNow_31 : decode cX11_giveNow 31 = .ok (.iload_n 1, 1) := by decide +kernel
theorem dX11_giveNow_32 : decode cX11_giveNow 32 = .ok (.iadd, 1) := by decide +kernel
theorem dX11_giveNow_33 : decode cX11_giveNow 33 = .ok (.iaload, 1) := by decide +kernel
theorem dX11_giveNow_34 : decode cX11_giveNow 34 = .ok (.iload_n 2, 1) := by decide +kernel
theorem dX11_giveNow_35 : decode cX11_giveNow 35 = .ok (.iadd, 1) := by decide +kernel
theorem dX11_giveNow_36 : decode cX11_giveNow 36 = .ok (.goto 6, 3) := by decide +kernel
theorem dX11_giveNow_39 : decode cX11_giveNow 39 = .ok (.sipush 9999, 3) := by decide +kernel
theorem dX11_giveNow_42 : decode cX11_giveNow 42 = .ok (.iastore, 1) := by decide +kernel
theorem dX11_giveNow_43 : decode cX11_giveNow 43 = .ok (.return_, 1) := by decide +kernel
theorem dX11_give_0 : decode cX11_give 0 = .ok (.aload_n 0, 1) := by decide +kernel
theorem dX11_give_1 : decode cX11_give 1 = .ok (.iload_n 1, 1) := by decide +kernel
theorem dX11_give_2 : decode cX11_give 2 = .ok (.invokevirtual 228, 3) := by decide +kernel
theorem dX11_give_5 : decode cX11_give 5 = .ok (.ifCond .ne 6, 3) := by decide +kernel
theorem dX11_give_8 : decode cX11_give 8 = .ok (.ldc 231, 2) := by decide +kernel
theorem dX11_give_10 : decode cX11_give 10 = .ok (.ireturn, 1) := by decide +kernel
theorem dX11_give_11 : decode cX11_give 11 = .ok (.iload_n 2, 1) := by decide +kernel
theorem dX11_give_12 : decode cX11_give 12 = .ok (.i2l, 1) := by decide +kernel
theorem dX11_give_13 : decode cX11_give 13 = .ok (.lconst 1, 1) := by decide +kernel
theorem dX11_give_14 : decode cX11_give 14 = .ok (.ldc2_w 265, 3) := by decide +kernel
theorem dX11_give_17 : decode cX11_give 17 = .ok (.invokestatic 84, 3) := by decide +kernel
theorem dX11_give_20 : decode cX11_give 20 = .ok (.ifCond .ne 6, 3) := by decide +kernel
theorem dX11_give_23 : decode cX11_give 23 = .ok (.ldc 93, 2) := by decide +kernel
theorem dX11_give_25 : decode cX11_give 25 = .ok (.ireturn, 1) := by decide +kernel
theorem dX11_give_26 : decode cX11_give 26 = .ok (.aload_n 0, 1) := by decide +kernel
theorem dX11_give_27 : decode cX11_give 27 = .ok (.invokevirtual 249, 3) := by decide +kernel
theorem dX11_give_30 : decode cX11_give 30 = .ok (.aload_n 0, 1) := by decide +kernel
theorem dX11_give_31 : decode cX11_give 31 = .ok (.iload_n 1, 1) := by decide +kernel
theorem dX11_give_32 : decode cX11_give 32 = .ok (.iload_n 2, 1) := by decide +kernel
theorem dX11_give_33 : decode cX11_give 33 = .ok (.invokevirtual 267, 3) := by decide +kernel
theorem dX11_give_36 : decode cX11_give 36 = .ok (.aload_n 0, 1) := by decide +kernel
theorem dX11_give_37 : decode cX11_give 37 = .ok (.getfield 25, 3) := by decide +kernel
theorem dX11_give_40 : decode cX11_give 40 = .ok (.bipush 7, 2) := by decide +kernel
theorem dX11_give_42 : decode cX11_give 42 = .ok (.iload_n 1, 1) := by decide +kernel
theorem dX11_give_43 : decode cX11_give 43 = .ok (.iadd, 1) := by decide +kernel
theorem dX11_give_44 : decode cX11_give 44 = .ok (.iaload, 1) := by decide +kernel
theorem dX11_give_45 : decode cX11_give 45 = .ok (.ireturn, 1) := by decide +kernel
theorem dX11_rate_0 : decode cX11_rate 0 = .ok (.iload_n 1, 1) := by decide +kernel
theorem dX11_rate_1 : decode cX11_rate 1 = .ok (.i2l, 1) := by decide +kernel
theorem dX11_rate_2 : decode cX11_rate 2 = .ok (.lconst 1, 1) := by decide +kernel
theorem dX11_rate_3 : decode cX11_rate 3 = .ok (.ldc2_w 270, 3) := by decide +kernel
theorem dX11_rate_6 : decode cX11_rate 6 = .ok (.invokestatic 84, 3) := by decide +kernel
theorem dX11_rate_9 : decode cX11_rate 9 = .ok (.ifCond .ne 6, 3) := by decide +kernel
theorem dX11_rate_12 : decode cX11_rate 12 = .ok (.ldc 93, 2) := by decide +kernel
theorem dX11_rate_14 : decode cX11_rate 14 = .ok (.ireturn, 1) := by decide +kernel
theorem dX11_rate_15 : decode cX11_rate 15 = .ok (.aload_n 0, 1) := by decide +kernel
theorem dX11_rate_16 : decode cX11_rate 16 = .ok (.getfield 88, 3) := by decide +kernel
theorem dX11_rate_19 : decode cX11_rate 19 = .ok (.ifCond .ne 6, 3) := by decide +kernel
theorem dX11_rate_22 : decode cX11_rate 22 = .ok (.ldc 245, 2) := by decide +kernel
theorem dX11_rate_24 : decode cX11_rate 24 = .ok (.ireturn, 1) := by decide +kernel
theorem dX11_rate_25 : decode cX11_rate 25 = .ok (.aload_n 0, 1) := by decide +kernel
theorem dX11_rate_26 : decode cX11_rate 26 = .ok (.invokevirtual 249, 3) := by decide +kernel
theorem dX11_rate_29 : decode cX11_rate 29 = .ok (.aload_n 0, 1) := by decide +kernel
theorem dX11_rate_30 : decode cX11_rate 30 = .ok (.getfield 25, 3) := by decide +kernel
theorem dX11_rate_33 : decode cX11_rate 33 = .ok (.bipush 25, 2) := by decide +kernel
theorem dX11_rate_35 : decode cX11_rate 35 = .ok (.iaload, 1) := by decide +kernel
theorem dX11_rate_36 : decode cX11_rate 36 = .ok (.istore_n 2, 1) := by decide +kernel
theorem dX11_rate_37 : decode cX11_rate 37 = .ok (.aload_n 0, 1) := by decide +kernel
theorem dX11_rate_38 : decode cX11_rate 38 = .ok (.getfield 25, 3) := by decide +kernel
theorem dX11_rate_41 : decode cX11_rate 41 = .ok (.bipush 25, 2) := by decide +kernel
theorem dX11_rate_43 : decode cX11_rate 43 = .ok (.iload_n 1, 1) := by decide +kernel
theorem dX11_rate_44 : decode cX11_rate 44 = .ok (.iastore, 1) := by decide +kernel
theorem dX11_rate_45 : decode cX11_rate 45 = .ok (.iload_n 2, 1) := by decide +kernel
theorem dX11_rate_46 : decode cX11_rate 46 = .ok (.ireturn, 1) := by decide +kernel
theorem dX11_inspect_0 : decode cX11_inspect 0 = .ok (.iload_n 1, 1) := by decide +kernel
theorem dX11_inspect_1 : decode cX11_inspect 1 = .ok (.i2l, 1) := by decide +kernel
theorem dX11_inspect_2 : decode cX11_inspect 2 = .ok (.lconst 0, 1) := by decide +kernel
theorem dX11_inspect_3 : decode cX11_inspect 3 = .ok (.aload_n 0, 1) := by decide +kernel
theorem dX11_inspect_4 : decode cX11_inspect 4 = .ok (.getfield 153, 3) := by decide +kernel
theorem dX11_inspect_7 : decode cX11_inspect 7 = .ok (.iconst 1, 1) := by decide +kernel
theorem dX11_inspect_8 : decode cX11_inspect 8 = .ok (.isub, 1) := by decide +kernel
theorem dX11_inspect_9 : decode cX11_inspect 9 = .ok (.i2l, 1) := by decide +kernel
theorem dX11_inspect_10 : decode cX11_inspect 10 = .ok (.invokestatic 84, 3) := by decide +kernel
theorem dX11_inspect_13 : decode cX11_inspect 13 = .ok (.ifCond .eq 11, 3) := by decide +kernel
theorem dX11_inspect_16 : decode cX11_inspect 16 = .ok (.aload_n 0, 1) := by decide +kernel
theorem dX11_inspect_17 : decode cX11_inspect 17 = .ok (.iload_n 2, 1) := by decide +kernel
theorem dX11_inspect_18 : decode cX11_inspect 18 = .ok (.invokevirtual 232, 3) := by decide +kernel
theorem dX11_inspect_21 : decode cX11_inspect 21 = .ok (.ifCond .ne 6, 3) := by decide +kernel
theorem dX11_inspect_24 : decode cX11_inspect 24 = .ok (.ldc 231, 2) := by decide +kernel
theorem dX11_inspect_26 : decode cX11_inspect 26 = .ok (.ireturn, 1) := by decide +kernel
theorem dX11_inspect_27 : decode cX11_inspect 27 = .ok (.aload_n 0, 1) := by decide +kernel
theorem dX11_inspect_28 : decode cX11_inspect 28 = .ok (.getfield 25, 3) := by decide +kernel
theorem dX11_inspect_31 : decode cX11_inspect 31 = .ok (.bipush 21, 2) := by decide +kernel
theorem dX11_inspect_33 : decode cX11_inspect 33 = .ok (.iload_n 1, 1) := by decide +kernel
theorem dX11_inspect_34 : decode cX11_inspect 34 = .ok (.iadd, 1) := by decide +kernel
theorem dX11_inspect_35 : decode cX11_inspect 35 = .ok (.iaload, 1) := by decide +kernel
theorem dX11_inspect_36 : decode cX11_inspect 36 = .ok (.iload_n 2, 1) := by decide +kernel
theorem dX11_inspect_37 : decode cX11_inspect 37 = .ok (.if_icmp .ne 6, 3) := by decide +kernel
theorem dX11_inspect_40 : decode cX11_inspect 40 = .ok (.ldc 245, 2) := by decide +kernel
theorem dX11_inspect_42 : decode cX11_inspect 42 = .ok (.ireturn, 1) := by decide +kernel
theorem dX11_inspect_43 : decode cX11_inspect 43 = .ok (.aload_n 0, 1) := by decide +kernel
theorem dX11_inspect_44 : decode cX11_inspect 44 = .ok (.invokevirtual 249, 3) := by decide +kernel
theorem dX11_inspect_47 : decode cX11_inspect 47 = .ok (.aload_n 0, 1) := by decide +kernel
theorem dX11_inspect_48 : decode cX11_inspect 48 = .ok (.getfield 25, 3) := by decide +kernel
theorem dX11_inspect_51 : decode cX11_inspect 51 = .ok (.bipush 21, 2) := by decide +kernel
theorem dX11_inspect_53 : decode cX11_inspect 53 = .ok (.iload_n 1, 1) := by decide +kernel
theorem dX11_inspect_54 : decode cX11_inspect 54 = .ok (.iadd, 1) := by decide +kernel
theorem dX11_inspect_55 : decode cX11_inspect 55 = .ok (.iaload, 1) := by decide +kernel
theorem dX11_inspect_56 : decode cX11_inspect 56 = .ok (.istore_n 3, 1) := by decide +kernel
theorem dX11_inspect_57 : decode cX11_inspect 57 = .ok (.aload_n 0, 1) := by decide +kernel
theorem dX11_inspect_58 : decode cX11_inspect 58 = .ok (.getfield 25, 3) := by decide +kernel
theorem dX11_inspect_61 : decode cX11_inspect 61 = .ok (.bipush 21, 2) := by decide +kernel
theorem dX11_inspect_63 : decode cX11_inspect 63 = .ok (.iload_n 1, 1) := by decide +kernel
theorem dX11_inspect_64 : decode cX11_inspect 64 = .ok (.iadd, 1) := by decide +kernel
theorem dX11_inspect_65 : decode cX11_inspect 65 = .ok (.iload_n 2, 1) := by decide +kernel
theorem dX11_inspect_66 : decode cX11_inspect 66 = .ok (.iastore, 1) := by decide +kernel
theorem dX11_inspect_67 : decode cX11_inspect 67 = .ok (.iload_n 3, 1) := by decide +kernel
theorem dX11_inspect_68 : decode cX11_inspect 68 = .ok (.ireturn, 1) := by decide +kernel
theorem dX11_draw_0 : decode cX11_draw 0 = .ok (.aload_n 0, 1) := by decide +kernel
theorem dX11_draw_1 : decode cX11_draw 1 = .ok (.aload_n 0, 1) := by decide +kernel
theorem dX11_draw_2 : decode cX11_draw 2 = .ok (.getfield 272, 3) := by decide +kernel
theorem dX11_draw_5 : decode cX11_draw 5 = .ok (.i2l, 1) := by decide +kernel
theorem dX11_draw_6 : decode cX11_draw 6 = .ok (.ldc2_w 275, 3) := by decide +kernel
theorem dX11_draw_9 : decode cX11_draw 9 = .ok (.lmul, 1) := by decide +kernel
theorem dX11_draw_10 : decode cX11_draw 10 = .ok (.ldc2_w 277, 3) := by decide +kernel
theorem dX11_draw_13 : decode cX11_draw 13 = .ok (.ladd, 1) := by decide +kernel
theorem dX11_draw_14 : decode cX11_draw 14 = .ok (.ldc2_w 279, 3) := by decide +kernel
theorem dX11_draw_17 : decode cX11_draw 17 = .ok (.lrem, 1) := by decide +kernel
theorem dX11_draw_18 : decode cX11_draw 18 = .ok (.l2i, 1) := by decide +kernel
theorem dX11_draw_19 : decode cX11_draw 19 = .ok (.putfield 272, 3) := by decide +kernel
theorem dX11_draw_22 : decode cX11_draw 22 = .ok (.aload_n 0, 1) := by decide +kernel
theorem dX11_draw_23 : decode cX11_draw 23 = .ok (.getfield 272, 3) := by decide +kernel
theorem dX11_draw_26 : decode cX11_draw 26 = .ok (.ldc_w 281, 3) := by decide +kernel
theorem dX11_draw_29 : decode cX11_draw 29 = .ok (.idiv, 1) := by decide +kernel
theorem dX11_draw_30 : decode cX11_draw 30 = .ok (.iload_n 1, 1) := by decide +kernel
theorem dX11_draw_31 : decode cX11_draw 31 = .ok (.irem, 1) := by decide +kernel
theorem dX11_draw_32 : decode cX11_draw 32 = .ok (.ireturn, 1) := by decide +kernel
theorem dX11_chance_0 : decode cX11_chance 0 = .ok (.aload_n 0, 1) := by decide +kernel
theorem dX11_chance_1 : decode cX11_chance 1 = .ok (.iconst 5, 1) := by decide +kernel
theorem dX11_chance_2 : decode cX11_chance 2 = .ok (.invokevirtual 282, 3) := by decide +kernel
theorem dX11_chance_5 : decode cX11_chance 5 = .ok (.istore_n 1, 1) := by decide +kernel
theorem dX11_chance_6 : decode cX11_chance 6 = .ok (.aload_n 0, 1) := by decide +kernel
theorem dX11_chance_7 : decode cX11_chance 7 = .ok (.aload_n 0, 1) := by decide +kernel
theorem dX11_chance_8 : decode cX11_chance 8 = .ok (.getfield 81, 3) := by decide +kernel
theorem dX11_chance_11 : decode cX11_chance 11 = .ok (.invokevirtual 282, 3) := by decide +kernel
theorem dX11_chance_14 : decode cX11_chance 14 = .ok (.istore_n 2, 1) := by decide +kernel
theorem dX11_chance_15 : decode cX11_chance 15 = .ok (.iload_n 1, 1) := by decide +kernel
theorem dX11_chance_16 : decode cX11_chance 16 = .ok (.ifCond .ne 19, 3) := by decide +kernel
theorem dX11_chance_19 : decode cX11_chance 19 = .ok (.aload_n 0, 1) := by decide +kernel
theorem dX11_chance_20 : decode cX11_chance 20 = .ok (.iload_n 2, 1) := by decide +kernel
theorem dX11_chance_21 : decode cX11_chance 21 = .ok (.invokevirtual 183, 3) := by decide +kernel
theorem dX11_chance_24 : decode cX11_chance 24 = .ok (.ifCond .ne 11, 3) := by decide +kernel
theorem dX11_chance_27 : decode cX11_chance 27 = .ok (.aload_n 0, 1) := by decide +kernel
theorem dX11_chance_28 : decode cX11_chance 28 = .ok (.iload_n 2, 1) := by decide +kernel
theorem dX11_chance_29 : decode cX11_chance 29 = .ok (.invokevirtual 258, 3) := by decide +kernel
theorem dX11_chance_32 : decode cX11_chance 32 = .ok (.goto 106, 3) := by decide +kernel
theorem dX11_chance_35 : decode cX11_chance 35 = .ok (.iload_n 1, 1) := by decide +kernel
theorem dX11_chance_36 : decode cX11_chance 36 = .ok (.iconst 1, 1) := by decide +kernel
theorem dX11_chance_37 : decode cX11_chance 37 = .ok (.if_icmp .ne 11, 3) := by decide +kernel
theorem dX11_chance_40 : decode cX11_chance 40 = .ok (.aload_n 0, 1) := by decide +kernel
theorem dX11_chance_41 : decode cX11_chance 41 = .ok (.iload_n 2, 1) := by decide +kernel
theorem dX11_chance_42 : decode cX11_chance 42 = .ok (.invokevirtual 239, 3) := by decide +kernel
theorem dX11_chance_45 : decode cX11_chance 45 = .ok (.goto 93, 3) := by decide +kernel
theorem dX11_chance_48 : decode cX11_chance 48 = .ok (.iload_n 1, 1) := by decide +kernel
theorem dX11_chance_49 : decode cX11_chance 49 = .ok (.iconst 2, 1) := by decide +kernel
theorem dX11_chance_50 : decode cX11_chance 50 = .ok (.if_icmp .ne 31, 3) := by decide +kernel
theorem dX11_chance_53 : decode cX11_chance 53 = .ok (.aload_n 0, 1) := by decide +kernel
theorem dX11_chance_54 : decode cX11_chance 54 = .ok (.aload_n 0, 1) := by decide +kernel
theorem dX11_chance_55 : decode cX11_chance 55 = .ok (.getfield 88, 3) := by decide +kernel
theorem dX11_chance_58 : decode cX11_chance 58 = .ok (.invokevirtual 282, 3) := by decide +kernel
theorem dX11_chance_61 : decode cX11_chance 61 = .ok (.istore_n 3, 1) := by decide +kernel
theorem dX11_chance_62 : decode cX11_chance 62 = .ok (.iload_n 3, 1) := by decide +kernel
theorem dX11_chance_63 : decode cX11_chance 63 = .ok (.aload_n 0, 1) := by decide +kernel
theorem dX11_chance_64 : decode cX11_chance 64 = .ok (.getfield 25, 3) := by decide +kernel
theorem dX11_chance_67 : decode cX11_chance 67 = .ok (.iload_n 2, 1) := by decide +kernel
theorem dX11_chance_68 : decode cX11_chance 68 = .ok (.iaload, 1) := by decide +kernel
theorem dX11_chance_69 : decode cX11_chance 69 = .ok (.if_icmp .eq 9, 3) := by decide +kernel
theorem dX11_chance_72 : decode cX11_chance 72 = .ok (.aload_n 0, 1) := by decide +kernel
theorem dX11_chance_73 : decode cX11_chance 73 = .ok (.iload_n 2, 1) := by decide +kernel
theorem dX11_chance_74 : decode cX11_chance 74 = .ok (.iload_n 3, 1) := by decide +kernel
theorem dX11_chance_75 : decode cX11_chance 75 = .ok (.invokevirtual 261, 3) := by decide +kernel
theorem dX11_chance_78 : decode cX11_chance 78 = .ok (.goto 60, 3) := by decide +kernel
theorem dX11_chance_81 : decode cX11_chance 81 = .ok (.iload_n 1, 1) := by decide +kernel
theorem dX11_chance_82 : decode cX11_chance 82 = .ok (.iconst 3, 1) := by decide +kernel
theorem dX11_chance_83 : decode cX11_chance 83 = .ok (.if_icmp .ne 17, 3) := by decide +kernel
theorem dX11_chance_86 : decode cX11_chance 86 = .ok (.aload_n 0, 1) := by decide +kernel
theorem dX11_chance_87 : decode cX11_chance 87 = .ok (.iload_n 2, 1) := by decide +kernel
theorem dX11_chance_88 : decode cX11_chance 88 = .ok (.aload_n 0, 1) := by decide +kernel
theorem dX11_chance_89 : decode cX11_chance 89 = .ok (.bipush 50, 2) := by decide +kernel
theorem dX11_chance_91 : decode cX11_chance 91 = .ok (.invokevirtual 282, 3) := by decide +kernel
theorem dX11_chance_94 : decode cX11_chance 94 = .ok (.invokevirtual 267, 3) := by decide +kernel
theorem dX11_chance_97 : decode cX11_chance 97 = .ok (.goto 41, 3) := by decide +kernel
theorem dX11_chance_100 : decode cX11_chance 100 = .ok (.iload_n 1, 1) := by decide +kernel
theorem dX11_chance_101 : decode cX11_chance 101 = .ok (.iconst 4, 1) := by decide +kernel
theorem dX11_chance_102 : decode cX11_chance 102 = .ok (.if_icmp .ne 36, 3) := by decide +kernel
theorem dX11_chance_105 : decode cX11_chance 105 = .ok (.aload_n 0, 1) := by decide +kernel
theorem dX11_chance_106 : decode cX11_chance 106 = .ok (.getfield 153, 3) := by decide +kernel
theorem dX11_chance_109 : decode cX11_chance 109 = .ok (.ifCond .le 29, 3) := by decide +kernel
theorem dX11_chance_112 : decode cX11_chance 112 = .ok (.aload_n 0, 1) := by decide +kernel
theorem dX11_chance_113 : decode cX11_chance 113 = .ok (.aload_n 0, 1) := by decide +kernel
theorem dX11_chance_114 : decode cX11_chance 114 = .ok (.getfield 153, 3) := by decide +kernel
theorem dX11_chance_117 : decode cX11_chance 117 = .ok (.invokevirtual 282, 3) := by decide +kernel
theorem dX11_chance_120 : decode cX11_chance 120 = .ok (.istore_n 3, 1) := by decide +kernel
theorem dX11_chance_121 : decode cX11_chance 121 = .ok (.aload_n 0, 1) := by decide +kernel
theorem dX11_chance_122 : decode cX11_chance 122 = .ok (.getfield 25, 3) := by decide +kernel
theorem dX11_chance_125 : decode cX11_chance 125 = .ok (.bipush 21, 2) := by decide +kernel
theorem dX11_chance_127 : decode cX11_chance 127 = .ok (.iload_n 3, 1) := by decide +kernel
theorem dX11_chance_128 : decode cX11_chance 128 = .ok (.iadd, 1) := by decide +kernel
theorem dX11_chance_129 : decode cX11_chance 129 = .ok (.aload_n 0, 1) := by decide +kernel
theorem dX11_chance_130 : decode cX11_chance 130 = .ok (.aload_n 0, 1) := by decide +kernel
theorem dX11_chance_131 : decode cX11_chance 131 = .ok (.getfield 88, 3) := by decide +kernel
theorem dX11_chance_134 : decode cX11_chance 134 = .ok (.invokevirtual 282, 3) := by decide +kernel
theorem dX11_chance_137 : decode cX11_chance 137 = .ok (.iastore, 1) := by decide +kernel
theorem dX11_chance_138 : decode cX11_chance 138 = .ok (.return_, 1) := by decide +kernel
theorem dX11_drift_0 : decode cX11_drift 0 = .ok (.aload_n 0, 1) := by decide +kernel
theorem dX11_drift_1 : decode cX11_drift 1 = .ok (.iload_n 1, 1) := by decide +kernel
theorem dX11_drift_2 : decode cX11_drift 2 = .ok (.invokevirtual 246, 3) := by decide +kernel
theorem dX11_drift_5 : decode cX11_drift 5 = .ok (.istore_n 2, 1) := by decide +kernel
theorem dX11_drift_6 : decode cX11_drift 6 = .ok (.iload_n 2, 1) := by decide +kernel
theorem dX11_drift_7 : decode cX11_drift 7 = .ok (.ifCond .eq 5, 3) := by decide +kernel
theorem dX11_drift_10 : decode cX11_drift 10 = .ok (.iload_n 2, 1) := by decide +kernel
theorem dX11_drift_11 : decode cX11_drift 11 = .ok (.ireturn, 1) := by decide +kernel
theorem dX11_drift_12 : decode cX11_drift 12 = .ok (.aload_n 0, 1) := by decide +kernel
theorem dX11_drift_13 : decode cX11_drift 13 = .ok (.invokevirtual 249, 3) := by decide +kernel
theorem dX11_drift_16 : decode cX11_drift 16 = .ok (.iconst 0, 1) := by decide +kernel
theorem dX11_drift_17 : decode cX11_drift 17 = .ok (.istore_n 3, 1) := by decide +kernel
theorem dX11_drift_18 : decode cX11_drift 18 = .ok (.iload_n 3, 1) := by decide +kernel
theorem dX11_drift_19 : decode cX11_drift 19 = .ok (.iload_n 1, 1) := by decide +kernel
theorem dX11_drift_20 : decode cX11_drift 20 = .ok (.if_icmp .ge 24, 3) := by decide +kernel
theorem dX11_drift_23 : decode cX11_drift 23 = .ok (.aload_n 0, 1) := by decide +kernel
theorem dX11_drift_24 : decode cX11_drift 24 = .ok (.getfield 81, 3) := by decide +kernel
theorem dX11_drift_27 : decode cX11_drift 27 = .ok (.ifCond .le 7, 3) := by decide +kernel
theorem dX11_drift_30 : decode cX11_drift 30 = .ok (.aload_n 0, 1) := by decide +kernel
theorem dX11_drift_31 : decode cX11_drift 31 = .ok (.invokevirtual 285, 3) := by decide +kernel
theorem dX11_drift_34 : decode cX11_drift 34 = .ok (.aload_n 0, 1) := by decide +kernel
theorem dX11_drift_35 : decode cX11_drift 35 = .ok (.invokevirtual 252, 3) := by decide +kernel
theorem dX11_drift_38 : decode cX11_drift 38 = .ok (.iinc 3 1, 3) := by decide +kernel
theorem dX11_drift_41 : decode cX11_drift 41 = .ok (.goto (-23), 3) := by decide +kernel
theorem dX11_drift_44 : decode cX11_drift 44 = .ok (.aload_n 0, 1) := by decide +kernel
theorem dX11_drift_45 : decode cX11_drift 45 = .ok (.getfield 25, 3) := by decide +kernel
theorem dX11_drift_48 : decode cX11_drift 48 = .ok (.bipush 26, 2) := by decide +kernel
theorem dX11_drift_50 : decode cX11_drift 50 = .ok (.iaload, 1) := by decide +kernel
theorem dX11_drift_51 : decode cX11_drift 51 = .ok (.ireturn, 1) := by decide +kernel
theorem dX11_undo_0 : decode cX11_undo 0 = .ok (.aload_n 0, 1) := by decide +kernel
theorem dX11_undo_1 : decode cX11_undo 1 = .ok (.getfield 176, 3) := by decide +kernel
theorem dX11_undo_4 : decode cX11_undo 4 = .ok (.ifCond .ne 6, 3) := by decide +kernel
theorem dX11_undo_7 : decode cX11_undo 7 = .ok (.ldc 245, 2) := by decide +kernel
theorem dX11_undo_9 : decode cX11_undo 9 = .ok (.ireturn, 1) := by decide +kernel
theorem dX11_undo_10 : decode cX11_undo 10 = .ok (.aload_n 0, 1) := by decide +kernel
theorem dX11_undo_11 : decode cX11_undo 11 = .ok (.dup, 1) := by decide +kernel
theorem dX11_undo_12 : decode cX11_undo 12 = .ok (.getfield 176, 3) := by decide +kernel
theorem dX11_undo_15 : decode cX11_undo 15 = .ok (.iconst 1, 1) := by decide +kernel
theorem dX11_undo_16 : decode cX11_undo 16 = .ok (.isub, 1) := by decide +kernel
theorem dX11_undo_17 : decode cX11_undo 17 = .ok (.putfield 176, 3) := by decide +kernel
theorem dX11_undo_20 : decode cX11_undo 20 = .ok (.iconst 0, 1) := by decide +kernel
theorem dX11_undo_21 : decode cX11_undo 21 = .ok (.istore_n 1, 1) := by decide +kernel
theorem dX11_undo_22 : decode cX11_undo 22 = .ok (.iload_n 1, 1) := by decide +kernel
theorem dX11_undo_23 : decode cX11_undo 23 = .ok (.bipush 29, 2) := by decide +kernel
theorem dX11_undo_25 : decode cX11_undo 25 = .ok (.if_icmp .ge 29, 3) := by decide +kernel
theorem dX11_undo_28 : decode cX11_undo 28 = .ok (.aload_n 0, 1) := by decide +kernel
theorem dX11_undo_29 : decode cX11_undo 29 = .ok (.getfield 25, 3) := by decide +kernel
theorem dX11_undo_32 : decode cX11_undo 32 = .ok (.iload_n 1, 1) := by decide +kernel
theorem dX11_undo_33 : decode cX11_undo 33 = .ok (.aload_n 0, 1) := by decide +kernel
theorem dX11_undo_34 : decode cX11_undo 34 = .ok (.getfield 50, 3) := by decide +kernel
theorem dX11_undo_37 : decode cX11_undo 37 = .ok (.bipush 29, 2) := by decide +kernel
theorem dX11_undo_39 : decode cX11_undo 39 = .ok (.aload_n 0, 1) := by decide +kernel
theorem dX11_undo_40 : decode cX11_undo 40 = .ok (.getfield 176, 3) := by decide +kernel
theorem dX11_undo_43 : decode cX11_undo 43 = .ok (.imul, 1) := by decide +kernel
theorem dX11_undo_44 : decode cX11_undo 44 = .ok (.iload_n 1, 1) := by decide +kernel
theorem dX11_undo_45 : decode cX11_undo 45 = .ok (.iadd, 1) := by decide +kernel
theorem dX11_undo_46 : decode cX11_undo 46 = .ok (.iaload, 1) := by decide +kernel
theorem dX11_undo_47 : decode cX11_undo 47 = .ok (.iastore, 1) := by decide +kernel
theorem dX11_undo_48 : decode cX11_undo 48 = .ok (.iinc 1 1, 3) := by decide +kernel
theorem dX11_undo_51 : decode cX11_undo 51 = .ok (.goto (-29), 3) := by decide +kernel
theorem dX11_undo_54 : decode cX11_undo 54 = .ok (.aload_n 0, 1) := by decide +kernel
theorem dX11_undo_55 : decode cX11_undo 55 = .ok (.getfield 176, 3) := by decide +kernel
theorem dX11_undo_58 : decode cX11_undo 58 = .ok (.ireturn, 1) := by decide +kernel
theorem dX11_treasury_0 : decode cX11_treasury 0 = .ok (.iload_n 1, 1) := by decide +kernel
theorem dX11_treasury_1 : decode cX11_treasury 1 = .ok (.i2l, 1) := by decide +kernel
theorem dX11_treasury_2 : decode cX11_treasury 2 = .ok (.lconst 0, 1) := by decide +kernel
theorem dX11_treasury_3 : decode cX11_treasury 3 = .ok (.ldc2_w 288, 3) := by decide +kernel
theorem dX11_treasury_6 : decode cX11_treasury 6 = .ok (.invokestatic 84, 3) := by decide +kernel
theorem dX11_treasury_9 : decode cX11_treasury 9 = .ok (.ifCond .ne 6, 3) := by decide +kernel
theorem dX11_treasury_12 : decode cX11_treasury 12 = .ok (.ldc 93, 2) := by decide +kernel
theorem dX11_treasury_14 : decode cX11_treasury 14 = .ok (.ireturn, 1) := by decide +kernel
theorem dX11_treasury_15 : decode cX11_treasury 15 = .ok (.aload_n 0, 1) := by decide +kernel
theorem dX11_treasury_16 : decode cX11_treasury 16 = .ok (.getfield 88, 3) := by decide +kernel
theorem dX11_treasury_19 : decode cX11_treasury 19 = .ok (.ifCond .ne 6, 3) := by decide +kernel
theorem dX11_treasury_22 : decode cX11_treasury 22 = .ok (.ldc 245, 2) := by decide +kernel
theorem dX11_treasury_24 : decode cX11_treasury 24 = .ok (.ireturn, 1) := by decide +kernel
theorem dX11_treasury_25 : decode cX11_treasury 25 = .ok (.aload_n 0, 1) := by decide +kernel
theorem dX11_treasury_26 : decode cX11_treasury 26 = .ok (.getfield 25, 3) := by decide +kernel
theorem dX11_treasury_29 : decode cX11_treasury 29 = .ok (.aload_n 0, 1) := by decide +kernel
theorem dX11_treasury_30 : decode cX11_treasury 30 = .ok (.getfield 53, 3) := by decide +kernel
theorem dX11_treasury_33 : decode cX11_treasury 33 = .ok (.bipush 29, 2) := by decide +kernel
theorem dX11_treasury_35 : decode cX11_treasury 35 = .ok (.invokestatic 156, 3) := by decide +kernel
theorem dX11_treasury_38 : decode cX11_treasury 38 = .ok (.iconst 0, 1) := by decide +kernel
theorem dX11_treasury_39 : decode cX11_treasury 39 = .ok (.istore_n 2, 1) := by decide +kernel
theorem dX11_treasury_40 : decode cX11_treasury 40 = .ok (.iload_n 2, 1) := by decide +kernel
theorem dX11_treasury_41 : decode cX11_treasury 41 = .ok (.iload_n 1, 1) := by decide +kernel
theorem dX11_treasury_42 : decode cX11_treasury 42 = .ok (.if_icmp .ge 13, 3) := by decide +kernel
theorem dX11_treasury_45 : decode cX11_treasury 45 = .ok (.aload_n 0, 1) := by decide +kernel
theorem dX11_treasury_46 : decode cX11_treasury 46 = .ok (.invokevirtual 252, 3) := by decide +kernel
theorem dX11_treasury_49 : decode cX11_treasury 49 = .ok (.iinc 2 1, 3) := by decide +kernel
theorem dX11_treasury_52 : decode cX11_treasury 52 = .ok (.goto (-12), 3) := by decide +kernel
theorem dX11_treasury_55 : decode cX11_treasury 55 = .ok (.aload_n 0, 1) := by decide +kernel
theorem dX11_treasury_56 : decode cX11_treasury 56 = .ok (.getfield 25, 3) := by decide +kernel
theorem dX11_treasury_59 : decode cX11_treasury 59 = .ok (.bipush 26, 2) := by decide +kernel
theorem dX11_treasury_61 : decode cX11_treasury 61 = .ok (.iaload, 1) := by decide +kernel
theorem dX11_treasury_62 : decode cX11_treasury 62 = .ok (.istore_n 2, 1) := by decide +kernel
theorem dX11_treasury_63 : decode cX11_treasury 63 = .ok (.aload_n 0, 1) := by decide +kernel
theorem dX11_treasury_64 : decode cX11_treasury 64 = .ok (.getfield 53, 3) := by decide +kernel
theorem dX11_treasury_67 : decode cX11_treasury 67 = .ok (.aload_n 0, 1) := by decide +kernel
theorem dX11_treasury_68 : decode cX11_treasury 68 = .ok (.getfield 25, 3) := by decide +kernel
theorem dX11_treasury_71 : decode cX11_treasury 71 = .ok (.bipush 29, 2) := by decide +kernel
theorem dX11_treasury_73 : decode cX11_treasury 73 = .ok (.invokestatic 156, 3) := by decide +kernel
theorem dX11_treasury_76 : decode cX11_treasury 76 = .ok (.iload_n 2, 1) := by decide +kernel
theorem dX11_treasury_77 : decode cX11_treasury 77 = .ok (.ireturn, 1) := by decide +kernel
theorem dX11_lasts_0 : decode cX11_lasts 0 = .ok (.aload_n 0, 1) := by decide +kernel
theorem dX11_lasts_1 : decode cX11_lasts 1 = .ok (.iload_n 1, 1) := by decide +kernel
theorem dX11_lasts_2 : decode cX11_lasts 2 = .ok (.invokevirtual 228, 3) := by decide +kernel
theorem dX11_lasts_5 : decode cX11_lasts 5 = .ok (.ifCond .ne 6, 3) := by decide +kernel
theorem dX11_lasts_8 : decode cX11_lasts 8 = .ok (.ldc 231, 2) := by decide +kernel
theorem dX11_lasts_10 : decode cX11_lasts 10 = .ok (.ireturn, 1) := by decide +kernel
theorem dX11_lasts_11 : decode cX11_lasts 11 = .ok (.aload_n 0, 1) := by decide +kernel
theorem dX11_lasts_12 : decode cX11_lasts 12 = .ok (.getfield 25, 3) := by decide +kernel
theorem dX11_lasts_15 : decode cX11_lasts 15 = .ok (.aload_n 0, 1) := by decide +kernel
theorem dX11_lasts_16 : decode cX11_lasts 16 = .ok (.getfield 53, 3) := by decide +kernel
theorem dX11_lasts_19 : decode cX11_lasts 19 = .ok (.bipush 29, 2) := by decide +kernel
theorem dX11_lasts_21 : decode cX11_lasts 21 = .ok (.invokestatic 156, 3) := by decide +kernel
theorem dX11_lasts_24 : decode cX11_lasts 24 = .ok (.iconst 0, 1) := by decide +kernel
theorem dX11_lasts_25 : decode cX11_lasts 25 = .ok (.istore_n 2, 1) := by decide +kernel
theorem dX11_lasts_26 : decode cX11_lasts 26 = .ok (.iload_n 2, 1) := by decide +kernel
theorem dX11_lasts_27 : decode cX11_lasts 27 = .ok (.sipush 500, 3) := by decide +kernel
theorem dX11_lasts_30 : decode cX11_lasts 30 = .ok (.if_icmp .ge 21, 3) := by decide +kernel
theorem dX11_lasts_33 : decode cX11_lasts 33 = .ok (.aload_n 0, 1) := by decide +kernel
theorem dX11_lasts_34 : decode cX11_lasts 34 = .ok (.iload_n 1, 1) := by decide +kernel
theorem dX11_lasts_35 : decode cX11_lasts 35 = .ok (.invokevirtual 183, 3) := by decide +kernel
theorem dX11_lasts_38 : decode cX11_lasts 38 = .ok (.ifCond .eq 13, 3) := by decide +kernel
theorem dX11_lasts_41 : decode cX11_lasts 41 = .ok (.aload_n 0, 1) := by decide +kernel
theorem dX11_lasts_42 : decode cX11_lasts 42 = .ok (.invokevirtual 252, 3) := by decide +kernel
theorem dX11_lasts_45 : decode cX11_lasts 45 = .ok (.iinc 2 1, 3) := by decide +kernel
theorem dX11_lasts_48 : decode cX11_lasts 48 = .ok (.goto (-22), 3) := by decide +kernel
theorem dX11_lasts_51 : decode cX11_lasts 51 = .ok (.aload_n 0, 1) := by decide +kernel
theorem dX11_lasts_52 : decode cX11_lasts 52 = .ok (.iload_n 1, 1) := by decide +kernel
theorem dX11_lasts_53 : decode cX11_lasts 53 = .ok (.invokevirtual 183, 3) := by decide +kernel
theorem dX11_lasts_56 : decode cX11_lasts 56 = .ok (.ifCond .eq 7, 3) := by decide +kernel
theorem dX11_lasts_59 : decode cX11_lasts 59 = .ok (.iconst (-1), 1) := by decide +kernel
theorem dX11_lasts_60 : decode cX11_lasts 60 = .ok (.goto 4, 3) := by decide +kernel
theorem dX11_lasts_63 : decode cX11_lasts 63 = .ok (.iload_n 2, 1) := by decide +kernel
theorem dX11_lasts_64 : decode cX11_lasts 64 = .ok (.istore_n 3, 1) := by decide +kernel
theorem dX11_lasts_65 : decode cX11_lasts 65 = .ok (.aload_n 0, 1) := by decide +kernel
theorem dX11_lasts_66 : decode cX11_lasts 66 = .ok (.getfield 53, 3) := by decide +kernel
theorem dX11_lasts_69 : decode cX11_lasts 69 = .ok (.aload_n 0, 1) := by decide +kernel
theorem dX11_lasts_70 : decode cX11_lasts 70 = .ok (.getfield 25, 3) := by decide +kernel
theorem dX11_lasts_73 : decode cX11_lasts 73 = .ok (.bipush 29, 2) := by decide +kernel
theorem dX11_lasts_75 : decode cX11_lasts 75 = .ok (.invokestatic 156, 3) := by decide +kernel
theorem dX11_lasts_78 : decode cX11_lasts 78 = .ok (.iload_n 3, 1) := by decide +kernel
theorem dX11_lasts_79 : decode cX11_lasts 79 = .ok (.ireturn, 1) := by decide +kernel
theorem dX11_more_0 : decode cX11_more 0 = .ok (.aload_n 0, 1) := by decide +kernel
theorem dX11_more_1 : decode cX11_more 1 = .ok (.iload_n 1, 1) := by decide +kernel
theorem dX11_more_2 : decode cX11_more 2 = .ok (.invokevirtual 228, 3) := by decide +kernel
theorem dX11_more_5 : decode cX11_more 5 = .ok (.ifCond .eq 11, 3) := by decide +kernel
theorem dX11_more_8 : decode cX11_more 8 = .ok (.aload_n 0, 1) := by decide +kernel
theorem dX11_more_9 : decode cX11_more 9 = .ok (.iload_n 2, 1) := by decide +kernel
theorem dX11_more_10 : decode cX11_more 10 = .ok (.invokevirtual 232, 3) := by decide +kernel
theorem dX11_more_13 : decode cX11_more 13 = .ok (.ifCond .ne 6, 3) := by decide +kernel
theorem dX11_more_16 : decode cX11_more 16 = .ok (.ldc 231, 2) := by decide +kernel
theorem dX11_more_18 : decode cX11_more 18 = .ok (.ireturn, 1) := by decide +kernel
theorem dX11_more_19 : decode cX11_more 19 = .ok (.aload_n 0, 1) := by decide +kernel
theorem dX11_more_20 : decode cX11_more 20 = .ok (.iload_n 1, 1) := by decide +kernel
theorem dX11_more_21 : decode cX11_more 21 = .ok (.invokevirtual 183, 3) := by decide +kernel
theorem dX11_more_24 : decode cX11_more 24 = .ok (.ifCond .eq 8, 3) := by decide +kernel
theorem dX11_more_27 : decode cX11_more 27 = .ok (.ldc 245, 2) := by decide +kernel
theorem dX11_more_29 : decode cX11_more 29 = .ok (.goto 21, 3) := by decide +kernel
theorem dX11_more_32 : decode cX11_more 32 = .ok (.aload_n 0, 1) := by decide +kernel
theorem dX11_more_33 : decode cX11_more 33 = .ok (.iload_n 1, 1) := by decide +kernel
theorem dX11_more_34 : decode cX11_more 34 = .ok (.iload_n 2, 1) := by decide +kernel
theorem dX11_more_35 : decode cX11_more 35 = .ok (.aload_n 0, 1) := by decide +kernel
theorem dX11_more_36 : decode cX11_more 36 = .ok (.iload_n 2, 1) := by decide +kernel
theorem dX11_more_37 : decode cX11_more 37 = .ok (.invokevirtual 255, 3) := by decide +kernel
theorem dX11_more_40 : decode cX11_more 40 = .ok (.aload_n 0, 1) := by decide +kernel
theorem dX11_more_41 : decode cX11_more 41 = .ok (.getfield 25, 3) := by decide +kernel
theorem dX11_more_44 : decode cX11_more 44 = .ok (.bipush 25, 2) := by decide +kernel
theorem dX11_more_46 : decode cX11_more 46 = .ok (.iaload, 1) := by decide +kernel
theorem dX11_more_47 : decode cX11_more 47 = .ok (.invokevirtual 187, 3) := by decide +kernel
theorem dX11_more_50 : decode cX11_more 50 = .ok (.ireturn, 1) := by decide +kernel
theorem dX11_areBorne_0 : decode cX11_areBorne 0 = .ok (.iconst 1, 1) := by decide +kernel
theorem dX11_areBorne_1 : decode cX11_areBorne 1 = .ok (.istore_n 3, 1) := by decide +kernel
theorem dX11_areBorne_2 : decode cX11_areBorne 2 = .ok (.iconst 0, 1) := by decide +kernel
theorem dX11_areBorne_3 : decode cX11_areBorne 3 = .ok (.istore 4, 2) := by decide +kernel
theorem dX11_areBorne_5 : decode cX11_areBorne 5 = .ok (.iconst 0, 1) := by decide +kernel
theorem dX11_areBorne_6 : decode cX11_areBorne 6 = .ok (.istore 5, 2) := by decide +kernel
theorem dX11_areBorne_8 : decode cX11_areBorne 8 = .ok (.iload 5, 2) := by decide +kernel
theorem dX11_areBorne_10 : decode cX11_areBorne 10 = .ok (.aload_n 0, 1) := by decide +kernel
theorem dX11_areBorne_11 : decode cX11_areBorne 11 = .ok (.getfield 81, 3) := by decide +kernel
theorem dX11_areBorne_14 : decode cX11_areBorne 14 = .ok (.if_icmp .ge 60, 3) := by decide +kernel
theorem dX11_areBorne_17 : decode cX11_areBorne 17 = .ok (.iload_n 1, 1) := by decide +kernel
theorem dX11_areBorne_18 : decode cX11_areBorne 18 = .ok (.iload 5, 2) := by decide +kernel
theorem dX11_areBorne_20 : decode cX11_areBorne 20 = .ok (.invokestatic 203, 3) := by decide +kernel
theorem dX11_areBorne_23 : decode cX11_areBorne 23 = .ok (.ifCond .eq 45, 3) := by decide +kernel
theorem dX11_areBorne_26 : decode cX11_areBorne 26 = .ok (.iload_n 3, 1) := by decide +kernel
theorem dX11_areBorne_27 : decode cX11_areBorne 27 = .ok (.ifCond .eq 36, 3) := by decide +kernel
theorem dX11_areBorne_30 : decode cX11_areBorne 30 = .ok (.aload_n 0, 1) := by decide +kernel
theorem dX11_areBorne_31 : decode cX11_areBorne 31 = .ok (.getfield 25, 3) := by decide +kernel
theorem dX11_areBorne_34 : decode cX11_areBorne 34 = .ok (.bipush 7, 2) := by decide +kernel
theorem dX11_areBorne_36 : decode cX11_areBorne 36 = .ok (.iload 5, 2) := by decide +kernel
theorem dX11_areBorne_38 : decode cX11_areBorne 38 = .ok (.iadd, 1) := by decide +kernel
theorem dX11_areBorne_39 : decode cX11_areBorne 39 = .ok (.iaload, 1) := by decide +kernel
theorem dX11_areBorne_40 : decode cX11_areBorne 40 = .ok (.aload_n 0, 1) := by decide +kernel
theorem dX11_areBorne_41 : decode cX11_areBorne 41 = .ok (.iload 5, 2) := by decide +kernel
theorem dX11_areBorne_43 : decode cX11_areBorne 43 = .ok (.iload_n 2, 1) := by decide +kernel
theorem dX11_areBorne_44 : decode cX11_areBorne 44 = .ok (.iload 4, 2) := by decide +kernel
theorem dX11_areBorne_46 : decode cX11_areBorne 46 = .ok (.aload_n 0, 1) := by decide +kernel
theorem dX11_areBorne_47 : decode cX11_areBorne 47 = .ok (.getfield 25, 3) := by decide +kernel
theorem dX11_areBorne_50 : decode cX11_areBorne 50 = .ok (.bipush 25, 2) := by decide +kernel
theorem dX11_areBorne_52 : decode cX11_areBorne 52 = .ok (.iaload, 1) := by decide +kernel
theorem dX11_areBorne_53 : decode cX11_areBorne 53 = .ok (.invokevirtual 187, 3) := by decide +kernel
theorem dX11_areBorne_56 : decode cX11_areBorne 56 = .ok (.if_icmp .lt 7, 3) := by decide +kernel
theorem dX11_areBorne_59 : decode cX11_areBorne 59 = .ok (.iconst 1, 1) := by decide +kernel
theorem dX11_areBorne_60 : decode cX11_areBorne 60 = .ok (.goto 4, 3) := by decide +kernel
theorem dX11_areBorne_63 : decode cX11_areBorne 63 = .ok (.iconst 0, 1) := by decide +kernel
theorem dX11_areBorne_64 : decode cX11_areBorne 64 = .ok (.istore_n 3, 1) := by decide +kernel
theorem dX11_areBorne_65 : decode cX11_areBorne 65 = .ok (.iinc 4 1, 3) := by decide +kernel
theorem dX11_areBorne_68 : decode cX11_areBorne 68 = .ok (.iinc 5 1, 3) := by decide +kernel
theorem dX11_areBorne_71 : decode cX11_areBorne 71 = .ok (.goto (-63), 3) := by decide +kernel
theorem dX11_areBorne_74 : decode cX11_areBorne 74 = .ok (.iload_n 3, 1) := by decide +kernel
theorem dX11_areBorne_75 : decode cX11_areBorne 75 = .ok (.ireturn, 1) := by decide +kernel
theorem dX11_bears_0 : decode cX11_bears 0 = .ok (.aload_n 0, 1) := by decide +kernel
theorem dX11_bears_1 : decode cX11_bears 1 = .ok (.iload_n 1, 1) := by decide +kernel
theorem dX11_bears_2 : decode cX11_bears 2 = .ok (.invokevirtual 290, 3) := by decide +kernel
theorem dX11_bears_5 : decode cX11_bears 5 = .ok (.ifCond .eq 11, 3) := by decide +kernel
theorem dX11_bears_8 : decode cX11_bears 8 = .ok (.aload_n 0, 1) := by decide +kernel
theorem dX11_bears_9 : decode cX11_bears 9 = .ok (.iload_n 2, 1) := by decide +kernel
theorem dX11_bears_10 : decode cX11_bears 10 = .ok (.invokevirtual 232, 3) := by decide +kernel
theorem dX11_bears_13 : decode cX11_bears 13 = .ok (.ifCond .ne 6, 3) := by decide +kernel
theorem dX11_bears_16 : decode cX11_bears 16 = .ok (.ldc 231, 2) := by decide +kernel
theorem dX11_bears_18 : decode cX11_bears 18 = .ok (.ireturn, 1) := by decide +kernel
theorem dX11_bears_19 : decode cX11_bears 19 = .ok (.iload_n 3, 1) := by decide +kernel
theorem dX11_bears_20 : decode cX11_bears 20 = .ok (.i2l, 1) := by decide +kernel
theorem dX11_bears_21 : decode cX11_bears 21 = .ok (.lconst 0, 1) := by decide +kernel
theorem dX11_bears_22 : decode cX11_bears 22 = .ok (.lconst 1, 1) := by decide +kernel
theorem dX11_bears_23 : decode cX11_bears 23 = .ok (.invokestatic 84, 3) := by decide +kernel
theorem dX11_bears_26 : decode cX11_bears 26 = .ok (.ifCond .ne 6, 3) := by decide +kernel
theorem dX11_bears_29 : decode cX11_bears 29 = .ok (.ldc 93, 2) := by decide +kernel
theorem dX11_bears_31 : decode cX11_bears 31 = .ok (.ireturn, 1) := by decide +kernel
theorem dX11_bears_32 : decode cX11_bears 32 = .ok (.iconst 0, 1) := by decide +kernel
theorem dX11_bears_33 : decode cX11_bears 33 = .ok (.istore 4, 2) := by decide +kernel
theorem dX11_bears_35 : decode cX11_bears 35 = .ok (.iconst 1, 1) := by decide +kernel
theorem dX11_bears_36 : decode cX11_bears 36 = .ok (.istore 5, 2) := by decide +kernel
theorem dX11_bears_38 : decode cX11_bears 38 = .ok (.iload 5, 2) := by decide +kernel
theorem dX11_bears_40 : decode cX11_bears 40 = .ok (.iload_n 1, 1) := by decide +kernel
theorem dX11_bears_41 : decode cX11_bears 41 = .ok (.if_icmp .gt 62, 3) := by decide +kernel
theorem dX11_bears_44 : decode cX11_bears 44 = .ok (.iload 5, 2) := by decide +kernel
theorem dX11_bears_46 : decode cX11_bears 46 = .ok (.iload_n 1, 1) := by decide +kernel
theorem dX11_bears_47 : decode cX11_bears 47 = .ok (.iconst (-1), 1) := by decide +kernel
theorem dX11_bears_48 : decode cX11_bears 48 = .ok (.ixor, 1) := by decide +kernel
theorem dX11_bears_49 : decode cX11_bears 49 = .ok (.iand, 1) := by decide +kernel
theorem dX11_bears_50 : decode cX11_bears 50 = .ok (.ifCond .ne 20, 3) := by decide +kernel
theorem dX11_bears_53 : decode cX11_bears 53 = .ok (.iload 5, 2) := by decide +kernel
theorem dX11_bears_55 : decode cX11_bears 55 = .ok (.invokestatic 197, 3) := by decide +kernel
theorem dX11_bears_58 : decode cX11_bears 58 = .ok (.iload 4, 2) := by decide +kernel
theorem dX11_bears_60 : decode cX11_bears 60 = .ok (.invokestatic 197, 3) := by decide +kernel
theorem dX11_bears_63 : decode cX11_bears 63 = .ok (.if_icmp .le 7, 3) := by decide +kernel
theorem dX11_bears_66 : decode cX11_bears 66 = .ok (.iconst 1, 1) := by decide +kernel
theorem dX11_bears_67 : decode cX11_bears 67 = .ok (.goto 4, 3) := by decide +kernel
theorem dX11_bears_70 : decode cX11_bears 70 = .ok (.iconst 0, 1) := by decide +kernel
theorem dX11_bears_71 : decode cX11_bears 71 = .ok (.istore 6, 2) := by decide +kernel
theorem dX11_bears_73 : decode cX11_bears 73 = .ok (.iload 6, 2) := by decide +kernel
theorem dX11_bears_75 : decode cX11_bears 75 = .ok (.ifCond .eq 18, 3) := by decide +kernel
theorem dX11_bears_78 : decode cX11_bears 78 = .ok (.aload_n 0, 1) := by decide +kernel
theorem dX11_bears_79 : decode cX11_bears 79 = .ok (.iload 5, 2) := by decide +kernel
theorem dX11_bears_81 : decode cX11_bears 81 = .ok (.iload_n 2, 1) := by decide +kernel
theorem dX11_bears_82 : decode cX11_bears 82 = .ok (.invokevirtual 293, 3) := by decide +kernel
theorem dX11_bears_85 : decode cX11_bears 85 = .ok (.ifCond .eq 8, 3) := by decide +kernel
theorem dX11_bears_88 : decode cX11_bears 88 = .ok (.iload 5, 2) := by decide +kernel
theorem dX11_bears_90 : decode cX11_bears 90 = .ok (.goto 5, 3) := by decide +kernel
theorem dX11_bears_93 : decode cX11_bears 93 = .ok (.iload 4, 2) := by decide +kernel
theorem dX11_bears_95 : decode cX11_bears 95 = .ok (.istore 4, 2) := by decide +kernel
theorem dX11_bears_97 : decode cX11_bears 97 = .ok (.iinc 5 1, 3) := by decide +kernel
theorem dX11_bears_100 : decode cX11_bears 100 = .ok (.goto (-62), 3) := by decide +kernel
theorem dX11_bears_103 : decode cX11_bears 103 = .ok (.iload_n 3, 1) := by decide +kernel
theorem dX11_bears_104 : decode cX11_bears 104 = .ok (.ifCond .ne 11, 3) := by decide +kernel
theorem dX11_bears_107 : decode cX11_bears 107 = .ok (.iload 4, 2) := by decide +kernel
theorem dX11_bears_109 : decode cX11_bears 109 = .ok (.invokestatic 197, 3) := by decide +kernel
theorem dX11_bears_112 : decode cX11_bears 112 = .ok (.goto 5, 3) := by decide +kernel
theorem dX11_bears_115 : decode cX11_bears 115 = .ok (.iload 4, 2) := by decide +kernel
theorem dX11_bears_117 : decode cX11_bears 117 = .ok (.ireturn, 1) := by decide +kernel
theorem dX11_canSing_0 : decode cX11_canSing 0 = .ok (.iload_n 1, 1) := by decide +kernel
theorem dX11_canSing_1 : decode cX11_canSing 1 = .ok (.iload_n 3, 1) := by decide +kernel
theorem dX11_canSing_2 : decode cX11_canSing 2 = .ok (.invokestatic 203, 3) := by decide +kernel
theorem dX11_canSing_5 : decode cX11_canSing 5 = .ok (.ifCond .eq 20, 3) := by decide +kernel
theorem dX11_canSing_8 : decode cX11_canSing 8 = .ok (.aload_n 0, 1) := by decide +kernel
theorem dX11_canSing_9 : decode cX11_canSing 9 = .ok (.getfield 19, 3) := by decide +kernel
theorem dX11_canSing_12 : decode cX11_canSing 12 = .ok (.iload_n 3, 1) := by decide +kernel
theorem dX11_canSing_13 : decode cX11_canSing 13 = .ok (.iaload, 1) := by decide +kernel
theorem dX11_canSing_14 : decode cX11_canSing 14 = .ok (.iload_n 2, 1) := by decide +kernel
theorem dX11_canSing_15 : decode cX11_canSing 15 = .ok (.invokestatic 203, 3) := by decide +kernel
theorem dX11_canSing_18 : decode cX11_canSing 18 = .ok (.ifCond .eq 7, 3) := by decide +kernel
theorem dX11_canSing_21 : decode cX11_canSing 21 = .ok (.iconst 1, 1) := by decide +kernel
theorem dX11_canSing_22 : decode cX11_canSing 22 = .ok (.goto 4, 3) := by decide +kernel
theorem dX11_canSing_25 : decode cX11_canSing 25 = .ok (.iconst 0, 1) := by decide +kernel
theorem dX11_canSing_26 : decode cX11_canSing 26 = .ok (.ireturn, 1) := by decide +kernel
theorem dX11_leastAt_0 : decode cX11_leastAt 0 = .ok (.ldc_w 296, 3) := by decide +kernel
theorem dX11_leastAt_3 : decode cX11_leastAt 3 = .ok (.istore 4, 2) := by decide +kernel
theorem dX11_leastAt_5 : decode cX11_leastAt 5 = .ok (.iconst 0, 1) := by decide +kernel
theorem dX11_leastAt_6 : decode cX11_leastAt 6 = .ok (.istore 5, 2) := by decide +kernel
theorem dX11_leastAt_8 : decode cX11_leastAt 8 = .ok (.iload 5, 2) := by decide +kernel
theorem dX11_leastAt_10 : decode cX11_leastAt 10 = .ok (.aload_n 0, 1) := by decide +kernel
theorem dX11_leastAt_11 : decode cX11_leastAt 11 = .ok (.getfield 81, 3) := by decide +kernel
theorem dX11_leastAt_14 : decode cX11_leastAt 14 = .ok (.if_icmp .ge 72, 3) := by decide +kernel
theorem dX11_leastAt_17 : decode cX11_leastAt 17 = .ok (.aload_n 0, 1) := by decide +kernel
theorem dX11_leastAt_18 : decode cX11_leastAt 18 = .ok (.iload_n 1, 1) := by decide +kernel
theorem dX11_leastAt_19 : decode cX11_leastAt 19 = .ok (.iload_n 2, 1) := by decide +kernel
theorem dX11_leastAt_20 : decode cX11_leastAt 20 = .ok (.iload 5, 2) := by decide +kernel
theorem dX11_leastAt_22 : decode cX11_leastAt 22 = .ok (.invokevirtual 297, 3) := by decide +kernel
theorem dX11_leastAt_25 : decode cX11_leastAt 25 = .ok (.ifCond .eq 34, 3) := by decide +kernel
theorem dX11_leastAt_28 : decode cX11_leastAt 28 = .ok (.aload_n 0, 1) := by decide +kernel
theorem dX11_leastAt_29 : decode cX11_leastAt 29 = .ok (.getfield 56, 3) := by decide +kernel
theorem dX11_leastAt_32 : decode cX11_leastAt 32 = .ok (.bipush 7, 2) := by decide +kernel
theorem dX11_leastAt_34 : decode cX11_leastAt 34 = .ok (.iload_n 2, 1) := by decide +kernel
theorem dX11_leastAt_35 : decode cX11_leastAt 35 = .ok (.imul, 1) := by decide +kernel
theorem dX11_leastAt_36 : decode cX11_leastAt 36 = .ok (.iload 5, 2) := by decide +kernel
theorem dX11_leastAt_38 : decode cX11_leastAt 38 = .ok (.iadd, 1) := by decide +kernel
theorem dX11_leastAt_39 : decode cX11_leastAt 39 = .ok (.iaload, 1) := by decide +kernel
theorem dX11_leastAt_40 : decode cX11_leastAt 40 = .ok (.iload_n 3, 1) := by decide +kernel
theorem dX11_leastAt_41 : decode cX11_leastAt 41 = .ok (.ifCond .lt 13, 3) := by decide +kernel
theorem dX11_leastAt_44 : decode cX11_leastAt 44 = .ok (.iload 5, 2) := by decide +kernel
theorem dX11_leastAt_46 : decode cX11_leastAt 46 = .ok (.iload_n 3, 1) := by decide +kernel
theorem dX11_leastAt_47 : decode cX11_leastAt 47 = .ok (.if_icmp .eq 7, 3) := by decide +kernel
theorem dX11_leastAt_50 : decode cX11_leastAt 50 = .ok (.iconst 1, 1) := by decide +kernel
theorem dX11_leastAt_51 : decode cX11_leastAt 51 = .ok (.goto 4, 3) := by decide +kernel
theorem dX11_leastAt_54 : decode cX11_leastAt 54 = .ok (.iconst 0, 1) := by decide +kernel
theorem dX11_leastAt_55 : decode cX11_leastAt 55 = .ok (.iadd, 1) := by decide +kernel
theorem dX11_leastAt_56 : decode cX11_leastAt 56 = .ok (.goto 6, 3) := by decide +kernel
theorem dX11_leastAt_59 : decode cX11_leastAt 59 = .ok (.ldc_w 296, 3) := by decide +kernel
theorem dX11_leastAt_62 : decode cX11_leastAt 62 = .ok (.istore 6, 2) := by decide +kernel
theorem dX11_leastAt_64 : decode cX11_leastAt 64 = .ok (.iload 6, 2) := by decide +kernel
theorem dX11_leastAt_66 : decode cX11_leastAt 66 = .ok (.iload 4, 2) := by decide +kernel
theorem dX11_leastAt_68 : decode cX11_leastAt 68 = .ok (.if_icmp .ge 8, 3) := by decide +kernel
theorem dX11_leastAt_71 : decode cX11_leastAt 71 = .ok (.iload 6, 2) := by decide +kernel
theorem dX11_leastAt_73 : decode cX11_leastAt 73 = .ok (.goto 5, 3) := by decide +kernel
theorem dX11_leastAt_76 : decode cX11_leastAt 76 = .ok (.iload 4, 2) := by decide +kernel
theorem dX11_leastAt_78 : decode cX11_leastAt 78 = .ok (.istore 4, 2) := by decide +kernel
theorem dX11_leastAt_80 : decode cX11_leastAt 80 = .ok (.iinc 5 1, 3) := by decide +kernel
theorem dX11_leastAt_83 : decode cX11_leastAt 83 = .ok (.goto (-75), 3) := by decide +kernel
theorem dX11_leastAt_86 : decode cX11_leastAt 86 = .ok (.iload 4, 2) := by decide +kernel
theorem dX11_leastAt_88 : decode cX11_leastAt 88 = .ok (.ireturn, 1) := by decide +kernel
theorem dX11_findChanges_0 : decode cX11_findChanges 0 = .ok (.aload_n 0, 1) := by decide +kernel
theorem dX11_findChanges_1 : decode cX11_findChanges 1 = .ok (.getfield 150, 3) := by decide +kernel
theorem dX11_findChanges_4 : decode cX11_findChanges 4 = .ok (.iconst 1, 1) := by decide +kernel
theorem dX11_findChanges_5 : decode cX11_findChanges 5 = .ok (.isub, 1) := by decide +kernel
theorem dX11_findChanges_6 : decode cX11_findChanges 6 = .ok (.istore_n 2, 1) := by decide +kernel
theorem dX11_findChanges_7 : decode cX11_findChanges 7 = .ok (.iload_n 2, 1) := by decide +kernel
theorem dX11_findChanges_8 : decode cX11_findChanges 8 = .ok (.ifCond .lt 59, 3) := by decide +kernel
theorem dX11_findChanges_11 : decode cX11_findChanges 11 = .ok (.iconst 0, 1) := by decide +kernel
theorem dX11_findChanges_12 : decode cX11_findChanges 12 = .ok (.istore_n 3, 1) := by decide +kernel
theorem dX11_findChanges_13 : decode cX11_findChanges 13 = .ok (.iload_n 3, 1) := by decide +kernel
theorem dX11_findChanges_14 : decode cX11_findChanges 14 = .ok (.aload_n 0, 1) := by decide +kernel
theorem dX11_findChanges_15 : decode cX11_findChanges 15 = .ok (.getfield 81, 3) := by decide +kernel
theorem dX11_findChanges_18 : decode cX11_findChanges 18 = .ok (.if_icmp .ge 43, 3) := by decide +kernel
theorem dX11_findChanges_21 : decode cX11_findChanges 21 = .ok (.aload_n 0, 1) := by decide +kernel
theorem dX11_findChanges_22 : decode cX11_findChanges 22 = .ok (.getfield 56, 3) := by decide +kernel
theorem dX11_findChanges_25 : decode cX11_findChanges 25 = .ok (.bipush 7, 2) := by decide +kernel
theorem dX11_findChanges_27 : decode cX11_findChanges 27 = .ok (.iload_n 2, 1) := by decide +kernel
theorem dX11_findChanges_28 : decode cX11_findChanges 28 = .ok (.imul, 1) := by decide +kernel
theorem dX11_findChanges_29 : decode cX11_findChanges 29 = .ok (.iload_n 3, 1) := by decide +kernel
theorem dX11_findChanges_30 : decode cX11_findChanges 30 = .ok (.iadd, 1) := by decide +kernel
theorem dX11_findChanges_31 : decode cX11_findChanges 31 = .ok (.iload_n 2, 1) := by decide +kernel
theorem dX11_findChanges_32 : decode cX11_findChanges 32 = .ok (.aload_n 0, 1) := by decide +kernel
theorem dX11_findChanges_33 : decode cX11_findChanges 33 = .ok (.getfield 150, 3) := by decide +kernel
theorem dX11_findChanges_36 : decode cX11_findChanges 36 = .ok (.iconst 1, 1) := by decide +kernel
theorem dX11_findChanges_37 : decode cX11_findChanges 37 = .ok (.isub, 1) := by decide +kernel
theorem dX11_findChanges_38 : decode cX11_findChanges 38 = .ok (.if_icmp .ne 7, 3) := by decide +kernel
theorem dX11_findChanges_41 : decode cX11_findChanges 41 = .ok (.iconst 0, 1) := by decide +kernel
theorem dX11_findChanges_42 : decode cX11_findChanges 42 = .ok (.goto 12, 3) := by decide +kernel
theorem dX11_findChanges_45 : decode cX11_findChanges 45 = .ok (.aload_n 0, 1) := by decide +kernel
theorem dX11_findChanges_46 : decode cX11_findChanges 46 = .ok (.iload_n 1, 1) := by decide +kernel
theorem dX11_findChanges_47 : decode cX11_findChanges 47 = .ok (.iload_n 2, 1) := by decide +kernel
theorem dX11_findChanges_48 : decode cX11_findChanges 48 = .ok (.iconst 1, 1) := by decide +kernel
theorem dX11_findChanges_49 : decode cX11_findChanges 49 = .ok (.iadd, 1) := by decide +kernel
theorem dX11_findChanges_50 : decode cX11_findChanges 50 = .ok (.iload_n 3, 1) := by decide +kernel
theorem dX11_findChanges_51 : decode cX11_findChanges 51 = .ok (.invokevirtual 301, 3) := by decide +kernel
theorem dX11_findChanges_54 : decode cX11_findChanges 54 = .ok (.iastore, 1) := by decide +kernel
theorem dX11_findChanges_55 : decode cX11_findChanges 55 = .ok (.iinc 3 1, 3) := by decide +kernel
theorem dX11_findChanges_58 : decode cX11_findChanges 58 = .ok (.goto (-45), 3) := by decide +kernel
theorem dX11_findChanges_61 : decode cX11_findChanges 61 = .ok (.iinc 2 (-1), 3) := by decide +kernel
theorem dX11_findChanges_64 : decode cX11_findChanges 64 = .ok (.goto (-57), 3) := by decide +kernel
theorem dX11_findChanges_67 : decode cX11_findChanges 67 = .ok (.return_, 1) := by decide +kernel
theorem dX11_shared_0 : decode cX11_shared 0 = .ok (.aload_n 0, 1) := by decide +kernel
theorem dX11_shared_1 : decode cX11_shared 1 = .ok (.iload_n 1, 1) := by decide +kernel
theorem dX11_shared_2 : decode cX11_shared 2 = .ok (.invokevirtual 290, 3) := by decide +kernel
theorem dX11_shared_5 : decode cX11_shared 5 = .ok (.ifCond .ne 6, 3) := by decide +kernel
theorem dX11_shared_8 : decode cX11_shared 8 = .ok (.ldc 231, 2) := by decide +kernel
theorem dX11_shared_10 : decode cX11_shared 10 = .ok (.ireturn, 1) := by decide +kernel
theorem dX11_shared_11 : decode cX11_shared 11 = .ok (.iload_n 2, 1) := by decide +kernel
theorem dX11_shared_12 : decode cX11_shared 12 = .ok (.i2l, 1) := by decide +kernel
theorem dX11_shared_13 : decode cX11_shared 13 = .ok (.ldc2_w 305, 3) := by decide +kernel
theorem dX11_shared_16 : decode cX11_shared 16 = .ok (.aload_n 0, 1) := by decide +kernel
theorem dX11_shared_17 : decode cX11_shared 17 = .ok (.getfield 150, 3) := by decide +kernel
theorem dX11_shared_20 : decode cX11_shared 20 = .ok (.iconst 1, 1) := by decide +kernel
theorem dX11_shared_21 : decode cX11_shared 21 = .ok (.isub, 1) := by decide +kernel
theorem dX11_shared_22 : decode cX11_shared 22 = .ok (.i2l, 1) := by decide +kernel
theorem dX11_shared_23 : decode cX11_shared 23 = .ok (.invokestatic 84, 3) := by decide +kernel
theorem dX11_shared_26 : decode cX11_shared 26 = .ok (.ifCond .ne 6, 3) := by decide +kernel
theorem dX11_shared_29 : decode cX11_shared 29 = .ok (.ldc 93, 2) := by decide +kernel
theorem dX11_shared_31 : decode cX11_shared 31 = .ok (.ireturn, 1) := by decide +kernel
theorem dX11_shared_32 : decode cX11_shared 32 = .ok (.aload_n 0, 1) := by decide +kernel
theorem dX11_shared_33 : decode cX11_shared 33 = .ok (.getfield 88, 3) := by decide +kernel
theorem dX11_shared_36 : decode cX11_shared 36 = .ok (.ifCond .ne 6, 3) := by decide +kernel
theorem dX11_shared_39 : decode cX11_shared 39 = .ok (.ldc 245, 2) := by decide +kernel
theorem dX11_shared_41 : decode cX11_shared 41 = .ok (.ireturn, 1) := by decide +kernel
theorem dX11_shared_42 : decode cX11_shared 42 = .ok (.aload_n 0, 1) := by decide +kernel
theorem dX11_shared_43 : decode cX11_shared 43 = .ok (.iload_n 1, 1) := by decide +kernel
theorem dX11_shared_44 : decode cX11_shared 44 = .ok (.invokevirtual 307, 3) := by decide +kernel
theorem dX11_shared_47 : decode cX11_shared 47 = .ok (.aload_n 0, 1) := by decide +kernel
theorem dX11_shared_48 : decode cX11_shared 48 = .ok (.iload_n 1, 1) := by decide +kernel
theorem dX11_shared_49 : decode cX11_shared 49 = .ok (.iconst 0, 1) := by decide +kernel
theorem dX11_shared_50 : decode cX11_shared 50 = .ok (.iconst (-1), 1) := by decide +kernel
theorem dX11_shared_51 : decode cX11_shared 51 = .ok (.invokevirtual 301, 3) := by decide +kernel
theorem dX11_shared_54 : decode cX11_shared 54 = .ok (.istore_n 3, 1) := by decide +kernel
theorem dX11_shared_55 : decode cX11_shared 55 = .ok (.iload_n 3, 1) := by decide +kernel
theorem dX11_shared_56 : decode cX11_shared 56 = .ok (.ldc_w 296, 3) := by decide +kernel
theorem dX11_shared_59 : decode cX11_shared 59 = .ok (.if_icmp .ge 8, 3) := by decide +kernel
theorem dX11_shared_62 : decode cX11_shared 62 = .ok (.iload_n 2, 1) := by decide +kernel
theorem dX11_shared_63 : decode cX11_shared 63 = .ok (.iconst (-1), 1) := by decide +kernel
theorem dX11_shared_64 : decode cX11_shared 64 = .ok (.if_icmp .ne 16, 3) := by decide +kernel
theorem dX11_shared_67 : decode cX11_shared 67 = .ok (.iload_n 3, 1) := by decide +kernel
theorem dX11_shared_68 : decode cX11_shared 68 = .ok (.ldc_w 296, 3) := by decide +kernel
theorem dX11_shared_71 : decode cX11_shared 71 = .ok (.if_icmp .lt 7, 3) := by decide +kernel
theorem dX11_shared_74 : decode cX11_shared 74 = .ok (.iconst (-1), 1) := by decide +kernel
theorem dX11_shared_75 : decode cX11_shared 75 = .ok (.goto 4, 3) := by decide +kernel
theorem dX11_shared_78 : decode cX11_shared 78 = .ok (.iload_n 3, 1) := by decide +kernel
theorem dX11_shared_79 : decode cX11_shared 79 = .ok (.ireturn, 1) := by decide +kernel
theorem dX11_shared_80 : decode cX11_shared 80 = .ok (.iconst (-1), 1) := by decide +kernel
theorem dX11_shared_81 : decode cX11_shared 81 = .ok (.istore 4, 2) := by decide +kernel
theorem dX11_shared_83 : decode cX11_shared 83 = .ok (.iconst 0, 1) := by decide +kernel
theorem dX11_shared_84 : decode cX11_shared 84 = .ok (.istore 5, 2) := by decide +kernel
theorem dX11_shared_86 : decode cX11_shared 86 = .ok (.iload 5, 2) := by decide +kernel
theorem dX11_shared_88 : decode cX11_shared 88 = .ok (.iload_n 2, 1) := by decide +kernel
theorem dX11_shared_89 : decode cX11_shared 89 = .ok (.if_icmp .gt 112, 3) := by decide +kernel
theorem dX11_shared_92 : decode cX11_shared 92 = .ok (.iload 4, 2) := by decide +kernel
theorem dX11_shared_94 : decode cX11_shared 94 = .ok (.istore 6, 2) := by decide +kernel
theorem dX11_shared_96 : decode cX11_shared 96 = .ok (.aload_n 0, 1) := by decide +kernel
theorem dX11_shared_97 : decode cX11_shared 97 = .ok (.iload_n 1, 1) := by decide +kernel
theorem dX11_shared_98 : decode cX11_shared 98 = .ok (.iload 5, 2) := by decide +kernel
theorem dX11_shared_100 : decode cX11_shared 100 = .ok (.iload 6, 2) := by decide +kernel
theorem dX11_shared_102 : decode cX11_shared 102 = .ok (.invokevirtual 301, 3) := by decide +kernel
theorem dX11_shared_105 : decode cX11_shared 105 = .ok (.istore 7, 2) := by decide +kernel
theorem dX11_shared_107 : decode cX11_shared 107 = .ok (.aload_n 0, 1) := by decide +kernel
theorem dX11_shared_108 : decode cX11_shared 108 = .ok (.getfield 81, 3) := by decide +kernel
theorem dX11_shared_111 : decode cX11_shared 111 = .ok (.iconst 1, 1) := by decide +kernel
theorem dX11_shared_112 : decode cX11_shared 112 = .ok (.isub, 1) := by decide +kernel
theorem dX11_shared_113 : decode cX11_shared 113 = .ok (.istore 8, 2) := by decide +kernel
theorem dX11_shared_115 : decode cX11_shared 115 = .ok (.iload 8, 2) := by decide +kernel
theorem dX11_shared_117 : decode cX11_shared 117 = .ok (.ifCond .lt 78, 3) := by decide +kernel
theorem dX11_shared_120 : decode cX11_shared 120 = .ok (.aload_n 0, 1) := by decide +kernel
theorem dX11_shared_121 : decode cX11_shared 121 = .ok (.iload_n 1, 1) := by decide +kernel
theorem dX11_shared_122 : decode cX11_shared 122 = .ok (.iload 5, 2) := by decide +kernel
theorem dX11_shared_124 : decode cX11_shared 124 = .ok (.iload 8, 2) := by decide +kernel
theorem dX11_shared_126 : decode cX11_shared 126 = .ok (.invokevirtual 297, 3) := by decide +kernel
theorem dX11_shared_129 : decode cX11_shared 129 = .ok (.ifCond .eq 43, 3) := by decide +kernel
theorem dX11_shared_132 : decode cX11_shared 132 = .ok (.aload_n 0, 1) := by decide +kernel
theorem dX11_shared_133 : decode cX11_shared 133 = .ok (.getfield 56, 3) := by decide +kernel
theorem dX11_shared_136 : decode cX11_shared 136 = .ok (.bipush 7, 2) := by decide +kernel
theorem dX11_shared_138 : decode cX11_shared 138 = .ok (.iload 5, 2) := by decide +kernel
theorem dX11_shared_140 : decode cX11_shared 140 = .ok (.imul, 1) := by decide +kernel
theorem dX11_shared_141 : decode cX11_shared 141 = .ok (.iload 8, 2) := by decide +kernel
theorem dX11_shared_143 : decode cX11_shared 143 = .ok (.iadd, 1) := by decide +kernel
theorem dX11_shared_144 : decode cX11_shared 144 = .ok (.iaload, 1) := by decide +kernel
theorem dX11_shared_145 : decode cX11_shared 145 = .ok (.iload 6, 2) := by decide +kernel
theorem dX11_shared_147 : decode cX11_shared 147 = .ok (.ifCond .lt 14, 3) := by decide +kernel
theorem dX11_shared_150 : decode cX11_shared 150 = .ok (.iload 8, 2) := by decide +kernel
theorem dX11_shared_152 : decode cX11_shared 152 = .ok (.iload 6, 2) := by decide +kernel
theorem dX11_shared_154 : decode cX11_shared 154 = .ok (.if_icmp .eq 7, 3) := by decide +kernel
theorem dX11_shared_157 : decode cX11_shared 157 = .ok (.iconst 1, 1) := by decide +kernel
theorem dX11_shared_158 : decode cX11_shared 158 = .ok (.goto 4, 3) := by decide +kernel
theorem dX11_shared_161 : decode cX11_shared 161 = .ok (.iconst 0, 1) := by decide +kernel
theorem dX11_shared_162 : decode cX11_shared 162 = .ok (.iadd, 1) := by decide +kernel
theorem dX11_shared_163 : decode cX11_shared 163 = .ok (.iload 7, 2) := by decide +kernel
theorem dX11_shared_165 : decode cX11_shared 165 = .ok (.if_icmp .ne 7, 3) := by decide +kernel
theorem dX11_shared_168 : decode cX11_shared 168 = .ok (.iconst 1, 1) := by decide +kernel
theorem dX11_shared_169 : decode cX11_shared 169 = .ok (.goto 4, 3) := by decide +kernel
theorem dX11_shared_172 : decode cX11_shared 172 = .ok (.iconst 0, 1) := by decide +kernel
theorem dX11_shared_173 : decode cX11_shared 173 = .ok (.istore 9, 2) := by decide +kernel
theorem dX11_shared_175 : decode cX11_shared 175 = .ok (.iload 9, 2) := by decide +kernel
theorem dX11_shared_177 : decode cX11_shared 177 = .ok (.ifCond .eq 8, 3) := by decide +kernel
theorem dX11_shared_180 : decode cX11_shared 180 = .ok (.iload 8, 2) := by decide +kernel
theorem dX11_shared_182 : decode cX11_shared 182 = .ok (.goto 5, 3) := by decide +kernel
theorem dX11_shared_185 : decode cX11_shared 185 = .ok (.iload 4, 2) := by decide +kernel
theorem dX11_shared_187 : decode cX11_shared 187 = .ok (.istore 4, 2) := by decide +kernel
theorem dX11_shared_189 : decode cX11_shared 189 = .ok (.iinc 8 (-1), 3) := by decide +kernel
theorem dX11_shared_192 : decode cX11_shared 192 = .ok (.goto (-77), 3) := by decide +kernel
theorem dX11_shared_195 : decode cX11_shared 195 = .ok (.iinc 5 1, 3) := by decide +kernel
theorem dX11_shared_198 : decode cX11_shared 198 = .ok (.goto (-112), 3) := by decide +kernel
theorem dX11_shared_201 : decode cX11_shared 201 = .ok (.iload 4, 2) := by decide +kernel
theorem dX11_shared_203 : decode cX11_shared 203 = .ok (.ireturn, 1) := by decide +kernel
theorem dX11_owedByWay_0 : decode cX11_owedByWay 0 = .ok (.iconst 0, 1) := by decide +kernel
theorem dX11_owedByWay_1 : decode cX11_owedByWay 1 = .ok (.istore_n 3, 1) := by decide +kernel
theorem dX11_owedByWay_2 : decode cX11_owedByWay 2 = .ok (.iconst 0, 1) := by decide +kernel
theorem dX11_owedByWay_3 : decode cX11_owedByWay 3 = .ok (.istore 4, 2) := by decide +kernel
theorem dX11_owedByWay_5 : decode cX11_owedByWay 5 = .ok (.iload 4, 2) := by decide +kernel
theorem dX11_owedByWay_7 : decode cX11_owedByWay 7 = .ok (.aload_n 0, 1) := by decide +kernel
theorem dX11_owedByWay_8 : decode cX11_owedByWay 8 = .ok (.getfield 88, 3) := by decide +kernel
theorem dX11_owedByWay_11 : decode cX11_owedByWay 11 = .ok (.if_icmp .ge 88, 3) := by decide +kernel
theorem dX11_owedByWay_14 : decode cX11_owedByWay 14 = .ok (.iconst 0, 1) := by decide +kernel
theorem dX11_owedByWay_15 : decode cX11_owedByWay 15 = .ok (.istore 5, 2) := by decide +kernel
theorem dX11_owedByWay_17 : decode cX11_owedByWay 17 = .ok (.iload_n 1, 1) := by decide +kernel
theorem dX11_owedByWay_18 : decode cX11_owedByWay 18 = .ok (.istore 6, 2) := by decide +kernel
theorem dX11_owedByWay_20 : decode cX11_owedByWay 20 = .ok (.aload_n 0, 1) := by decide +kernel
theorem dX11_owedByWay_21 : decode cX11_owedByWay 21 = .ok (.getfield 81, 3) := by decide +kernel
theorem dX11_owedByWay_24 : decode cX11_owedByWay 24 = .ok (.iconst 1, 1) := by decide +kernel
theorem dX11_owedByWay_25 : decode cX11_owedByWay 25 = .ok (.isub, 1) := by decide +kernel
theorem dX11_owedByWay_26 : decode cX11_owedByWay 26 = .ok (.istore 7, 2) := by decide +kernel
theorem dX11_owedByWay_28 : decode cX11_owedByWay 28 = .ok (.iload 7, 2) := by decide +kernel
theorem dX11_owedByWay_30 : decode cX11_owedByWay 30 = .ok (.ifCond .lt 52, 3) := by decide +kernel
theorem dX11_owedByWay_33 : decode cX11_owedByWay 33 = .ok (.iload_n 2, 1) := by decide +kernel
theorem dX11_owedByWay_34 : decode cX11_owedByWay 34 = .ok (.iload 7, 2) := by decide +kernel
theorem dX11_owedByWay_36 : decode cX11_owedByWay 36 = .ok (.invokestatic 203, 3) := by decide +kernel
theorem dX11_owedByWay_39 : decode cX11_owedByWay 39 = .ok (.ifCond .eq 37, 3) := by decide +kernel
theorem dX11_owedByWay_42 : decode cX11_owedByWay 42 = .ok (.iload 5, 2) := by decide +kernel
theorem dX11_owedByWay_44 : decode cX11_owedByWay 44 = .ok (.iload 6, 2) := by decide +kernel
theorem dX11_owedByWay_46 : decode cX11_owedByWay 46 = .ok (.aload_n 0, 1) := by decide +kernel
theorem dX11_owedByWay_47 : decode cX11_owedByWay 47 = .ok (.getfield 88, 3) := by decide +kernel
theorem dX11_owedByWay_50 : decode cX11_owedByWay 50 = .ok (.irem, 1) := by decide +kernel
theorem dX11_owedByWay_51 : decode cX11_owedByWay 51 = .ok (.iload 4, 2) := by decide +kernel
theorem dX11_owedByWay_53 : decode cX11_owedByWay 53 = .ok (.if_icmp .ne 10, 3) := by decide +kernel
theorem dX11_owedByWay_56 : decode cX11_owedByWay 56 = .ok (.iconst 1, 1) := by decide +kernel
theorem dX11_owedByWay_57 : decode cX11_owedByWay 57 = .ok (.iload 7, 2) := by decide +kernel
theorem dX11_owedByWay_59 : decode cX11_owedByWay 59 = .ok (.ishl, 1) := by decide +kernel
theorem dX11_owedByWay_60 : decode cX11_owedByWay 60 = .ok (.goto 4, 3) := by decide +kernel
theorem dX11_owedByWay_63 : decode cX11_owedByWay 63 = .ok (.iconst 0, 1) := by decide +kernel
theorem dX11_owedByWay_64 : decode cX11_owedByWay 64 = .ok (.ior, 1) := by decide +kernel
theorem dX11_owedByWay_65 : decode cX11_owedByWay 65 = .ok (.istore 5, 2) := by decide +kernel
theorem dX11_owedByWay_67 : decode cX11_owedByWay 67 = .ok (.iload 6, 2) := by decide +kernel
theorem dX11_owedByWay_69 : decode cX11_owedByWay 69 = .ok (.aload_n 0, 1) := by decide +kernel
theorem dX11_owedByWay_70 : decode cX11_owedByWay 70 = .ok (.getfield 88, 3) := by decide +kernel
theorem dX11_owedByWay_73 : decode cX11_owedByWay 73 = .ok (.idiv, 1) := by decide +kernel
theorem dX11_owedByWay_74 : decode cX11_owedByWay 74 = .ok (.istore 6, 2) := by decide +kernel
theorem dX11_owedByWay_76 : decode cX11_owedByWay 76 = .ok (.iinc 7 (-1), 3) := by decide +kernel
theorem dX11_owedByWay_79 : decode cX11_owedByWay 79 = .ok (.goto (-51), 3) := by decide +kernel
theorem dX11_owedByWay_82 : decode cX11_owedByWay 82 = .ok (.iload_n 3, 1) := by decide +kernel
theorem dX11_owedByWay_83 : decode cX11_owedByWay 83 = .ok (.aload_n 0, 1) := by decide +kernel
theorem dX11_owedByWay_84 : decode cX11_owedByWay 84 = .ok (.iload 5, 2) := by decide +kernel
theorem dX11_owedByWay_86 : decode cX11_owedByWay 86 = .ok (.iload 4, 2) := by decide +kernel
theorem dX11_owedByWay_88 : decode cX11_owedByWay 88 = .ok (.invokevirtual 310, 3) := by decide +kernel
theorem dX11_owedByWay_91 : decode cX11_owedByWay 91 = .ok (.iadd, 1) := by decide +kernel
theorem dX11_owedByWay_92 : decode cX11_owedByWay 92 = .ok (.istore_n 3, 1) := by decide +kernel
theorem dX11_owedByWay_93 : decode cX11_owedByWay 93 = .ok (.iinc 4 1, 3) := by decide +kernel
theorem dX11_owedByWay_96 : decode cX11_owedByWay 96 = .ok (.goto (-91), 3) := by decide +kernel
theorem dX11_owedByWay_99 : decode cX11_owedByWay 99 = .ok (.iload_n 3, 1) := by decide +kernel
theorem dX11_owedByWay_100 : decode cX11_owedByWay 100 = .ok (.ireturn, 1) := by decide +kernel
theorem dX11_groups_0 : decode cX11_groups 0 = .ok (.aload_n 0, 1) := by decide +kernel
theorem dX11_groups_1 : decode cX11_groups 1 = .ok (.iload_n 1, 1) := by decide +kernel
theorem dX11_groups_2 : decode cX11_groups 2 = .ok (.invokevirtual 290, 3) := by decide +kernel
theorem dX11_groups_5 : decode cX11_groups 5 = .ok (.ifCond .eq 16, 3) := by decide +kernel
theorem dX11_groups_8 : decode cX11_groups 8 = .ok (.iload_n 2, 1) := by decide +kernel
theorem dX11_groups_9 : decode cX11_groups 9 = .ok (.iconst (-1), 1) := by decide +kernel
theorem dX11_groups_10 : decode cX11_groups 10 = .ok (.if_icmp .eq 14, 3) := by decide +kernel
theorem dX11_groups_13 : decode cX11_groups 13 = .ok (.aload_n 0, 1) := by decide +kernel
theorem dX11_groups_14 : decode cX11_groups 14 = .ok (.iload_n 2, 1) := by decide +kernel
theorem dX11_groups_15 : decode cX11_groups 15 = .ok (.invokevirtual 228, 3) := by decide +kernel
theorem dX11_groups_18 : decode cX11_groups 18 = .ok (.ifCond .ne 6, 3) := by decide +kernel
theorem dX11_groups_21 : decode cX11_groups 21 = .ok (.ldc 231, 2) := by decide +kernel
theorem dX11_groups_23 : decode cX11_groups 23 = .ok (.ireturn, 1) := by decide +kernel
theorem dX11_groups_24 : decode cX11_groups 24 = .ok (.aload_n 0, 1) := by decide +kernel
theorem dX11_groups_25 : decode cX11_groups 25 = .ok (.getfield 88, 3) := by decide +kernel
theorem dX11_groups_28 : decode cX11_groups 28 = .ok (.ifCond .ne 6, 3) := by decide +kernel
theorem dX11_groups_31 : decode cX11_groups 31 = .ok (.ldc 245, 2) := by decide +kernel
theorem dX11_groups_33 : decode cX11_groups 33 = .ok (.ireturn, 1) := by decide +kernel
theorem dX11_groups_34 : decode cX11_groups 34 = .ok (.iconst 1, 1) := by decide +kernel
theorem dX11_groups_35 : decode cX11_groups 35 = .ok (.istore_n 3, 1) := by decide +kernel
theorem dX11_groups_36 : decode cX11_groups 36 = .ok (.iconst 0, 1) := by decide +kernel
theorem dX11_groups_37 : decode cX11_groups 37 = .ok (.istore 4, 2) := by decide +kernel
theorem dX11_groups_39 : decode cX11_groups 39 = .ok (.iload 4, 2) := by decide +kernel
theorem dX11_groups_41 : decode cX11_groups 41 = .ok (.iload_n 1, 1) := by decide +kernel
theorem dX11_groups_42 : decode cX11_groups 42 = .ok (.invokestatic 197, 3) := by decide +kernel
theorem dX11_groups_45 : decode cX11_groups 45 = .ok (.if_icmp .ge 16, 3) := by decide +kernel
theorem dX11_groups_48 : decode cX11_groups 48 = .ok (.iload_n 3, 1) := by decide +kernel
theorem dX11_groups_49 : decode cX11_groups 49 = .ok (.aload_n 0, 1) := by decide +kernel
theorem dX11_groups_50 : decode cX11_groups 50 = .ok (.getfield 88, 3) := by decide +kernel
theorem dX11_groups_53 : decode cX11_groups 53 = .ok (.imul, 1) := by decide +kernel
theorem dX11_groups_54 : decode cX11_groups 54 = .ok (.istore_n 3, 1) := by decide +kernel
theorem dX11_groups_55 : decode cX11_groups 55 = .ok (.iinc 4 1, 3) := by decide +kernel
theorem dX11_groups_58 : decode cX11_groups 58 = .ok (.goto (-19), 3) := by decide +kernel
theorem dX11_groups_61 : decode cX11_groups 61 = .ok (.iconst 0, 1) := by decide +kernel
theorem dX11_groups_62 : decode cX11_groups 62 = .ok (.istore 4, 2) := by decide +kernel
theorem dX11_groups_64 : decode cX11_groups 64 = .ok (.ldc_w 296, 3) := by decide +kernel
theorem dX11_groups_67 : decode cX11_groups 67 = .ok (.istore 5, 2) := by decide +kernel
theorem dX11_groups_69 : decode cX11_groups 69 = .ok (.iconst 0, 1) := by decide +kernel
theorem dX11_groups_70 : decode cX11_groups 70 = .ok (.istore 6, 2) := by decide +kernel
theorem dX11_groups_72 : decode cX11_groups 72 = .ok (.iload 6, 2) := by decide +kernel
theorem dX11_groups_74 : decode cX11_groups 74 = .ok (.iload_n 3, 1) := by decide +kernel
theorem dX11_groups_75 : decode cX11_groups 75 = .ok (.if_icmp .ge 50, 3) := by decide +kernel
theorem dX11_groups_78 : decode cX11_groups 78 = .ok (.aload_n 0, 1) := by decide +kernel
theorem dX11_groups_79 : decode cX11_groups 79 = .ok (.iload 6, 2) := by decide +kernel
theorem dX11_groups_81 : decode cX11_groups 81 = .ok (.iload_n 1, 1) := by decide +kernel
theorem dX11_groups_82 : decode cX11_groups 82 = .ok (.invokevirtual 313, 3) := by decide +kernel
theorem dX11_groups_85 : decode cX11_groups 85 = .ok (.istore 7, 2) := by decide +kernel
theorem dX11_groups_87 : decode cX11_groups 87 = .ok (.iload 7, 2) := by decide +kernel
theorem dX11_groups_89 : decode cX11_groups 89 = .ok (.iload 5, 2) := by decide +kernel
theorem dX11_groups_91 : decode cX11_groups 91 = .ok (.if_icmp .ge 8, 3) := by decide +kernel
theorem dX11_groups_94 : decode cX11_groups 94 = .ok (.iload 6, 2) := by decide +kernel
theorem dX11_groups_96 : decode cX11_groups 96 = .ok (.goto 5, 3) := by decide +kernel
theorem dX11_groups_99 : decode cX11_groups 99 = .ok (.iload 4, 2) := by decide +kernel
theorem dX11_groups_101 : decode cX11_groups 101 = .ok (.istore 4, 2) := by decide +kernel
theorem dX11_groups_103 : decode cX11_groups 103 = .ok (.iload 7, 2) := by decide +kernel
theorem dX11_groups_105 : decode cX11_groups 105 = .ok (.iload 5, 2) := by decide +kernel
theorem dX11_groups_107 : decode cX11_groups 107 = .ok (.if_icmp .ge 8, 3) := by decide +kernel
theorem dX11_groups_110 : decode cX11_groups 110 = .ok (.iload 7, 2) := by decide +kernel
theorem dX11_groups_112 : decode cX11_groups 112 = .ok (.goto 5, 3) := by decide +kernel
theorem dX11_groups_115 : decode cX11_groups 115 = .ok (.iload 5, 2) := by decide +kernel
theorem dX11_groups_117 : decode cX11_groups 117 = .ok (.istore 5, 2) := by decide +kernel
theorem dX11_groups_119 : decode cX11_groups 119 = .ok (.iinc 6 1, 3) := by decide +kernel
theorem dX11_groups_122 : decode cX11_groups 122 = .ok (.goto (-50), 3) := by decide +kernel
theorem dX11_groups_125 : decode cX11_groups 125 = .ok (.iload_n 2, 1) := by decide +kernel
theorem dX11_groups_126 : decode cX11_groups 126 = .ok (.iconst (-1), 1) := by decide +kernel
theorem dX11_groups_127 : decode cX11_groups 127 = .ok (.if_icmp .eq 11, 3) := by decide +kernel
theorem dX11_groups_130 : decode cX11_groups 130 = .ok (.iload_n 1, 1) := by decide +kernel
theorem dX11_groups_131 : decode cX11_groups 131 = .ok (.iload_n 2, 1) := by decide +kernel
theorem dX11_groups_132 : decode cX11_groups 132 = .ok (.invokestatic 203, 3) := by decide +kernel
theorem dX11_groups_135 : decode cX11_groups 135 = .ok (.ifCond .ne 15, 3) := by decide +kernel
theorem dX11_groups_138 : decode cX11_groups 138 = .ok (.iload_n 2, 1) := by decide +kernel
theorem dX11_groups_139 : decode cX11_groups 139 = .ok (.iconst (-1), 1) := by decide +kernel
theorem dX11_groups_140 : decode cX11_groups 140 = .ok (.if_icmp .ne 8, 3) := by decide +kernel
theorem dX11_groups_143 : decode cX11_groups 143 = .ok (.iload 5, 2) := by decide +kernel
theorem dX11_groups_145 : decode cX11_groups 145 = .ok (.goto 4, 3) := by decide +kernel
theorem dX11_groups_148 : decode cX11_groups 148 = .ok (.iconst (-1), 1) := by decide +kernel
theorem dX11_groups_149 : decode cX11_groups 149 = .ok (.ireturn, 1) := by decide +kernel
theorem dX11_groups_150 : decode cX11_groups 150 = .ok (.iload 4, 2) := by decide +kernel
theorem dX11_groups_152 : decode cX11_groups 152 = .ok (.istore 6, 2) := by decide +kernel
theorem dX11_groups_154 : decode cX11_groups 154 = .ok (.aload_n 0, 1) := by decide +kernel
theorem dX11_groups_155 : decode cX11_groups 155 = .ok (.getfield 81, 3) := by decide +kernel
theorem dX11_groups_158 : decode cX11_groups 158 = .ok (.iconst 1, 1) := by decide +kernel
theorem dX11_groups_159 : decode cX11_groups 159 = .ok (.isub, 1) := by decide +kernel
theorem dX11_groups_160 : decode cX11_groups 160 = .ok (.istore 7, 2) := by decide +kernel
theorem dX11_groups_162 : decode cX11_groups 162 = .ok (.iload 7, 2) := by decide +kernel
theorem dX11_groups_164 : decode cX11_groups 164 = .ok (.iload_n 2, 1) := by decide +kernel
theorem dX11_groups_165 : decode cX11_groups 165 = .ok (.if_icmp .le 31, 3) := by decide +kernel
theorem dX11_groups_168 : decode cX11_groups 168 = .ok (.iload 6, 2) := by decide +kernel
theorem dX11_groups_170 : decode cX11_groups 170 = .ok (.iload_n 1, 1) := by decide +kernel
theorem dX11_groups_171 : decode cX11_groups 171 = .ok (.iload 7, 2) := by decide +kernel
theorem dX11_groups_173 : decode cX11_groups 173 = .ok (.invokestatic 203, 3) := by decide +kernel
theorem dX11_groups_176 : decode cX11_groups 176 = .ok (.ifCond .eq 10, 3) := by decide +kernel
theorem dX11_groups_179 : decode cX11_groups 179 = .ok (.aload_n 0, 1) := by decide +kernel
theorem dX11_groups_180 : decode cX11_groups 180 = .ok (.getfield 88, 3) := by decide +kernel
theorem dX11_groups_183 : decode cX11_groups 183 = .ok (.goto 4, 3) := by decide +kernel
theorem dX11_groups_186 : decode cX11_groups 186 = .ok (.iconst 1, 1) := by decide +kernel
theorem dX11_groups_187 : decode cX11_groups 187 = .ok (.idiv, 1) := by decide +kernel
theorem dX11_groups_188 : decode cX11_groups 188 = .ok (.istore 6, 2) := by decide +kernel
theorem dX11_groups_190 : decode cX11_groups 190 = .ok (.iinc 7 (-1), 3) := by decide +kernel
theorem dX11_groups_193 : decode cX11_groups 193 = .ok (.goto (-31), 3) := by decide +kernel
theorem dX11_groups_196 : decode cX11_groups 196 = .ok (.iload 6, 2) := by decide +kernel
theorem dX11_groups_198 : decode cX11_groups 198 = .ok (.aload_n 0, 1) := by decide +kernel
theorem dX11_groups_199 : decode cX11_groups 199 = .ok (.getfield 88, 3) := by decide +kernel
theorem dX11_groups_202 : decode cX11_groups 202 = .ok (.irem, 1) := by decide +kernel
theorem dX11_groups_203 : decode cX11_groups 203 = .ok (.ireturn, 1) := by decide +kernel
theorem dX11_rates_0 : decode cX11_rates 0 = .ok (.iload_n 1, 1) := by decide +kernel
theorem dX11_rates_1 : decode cX11_rates 1 = .ok (.i2l, 1) := by decide +kernel
theorem dX11_rates_2 : decode cX11_rates 2 = .ok (.lconst 0, 1) := by decide +kernel
theorem dX11_rates_3 : decode cX11_rates 3 = .ok (.ldc2_w 316, 3) := by decide +kernel
theorem dX11_rates_6 : decode cX11_rates 6 = .ok (.invokestatic 84, 3) := by decide +kernel
theorem dX11_rates_9 : decode cX11_rates 9 = .ok (.ifCond .ne 6, 3) := by decide +kernel
theorem dX11_rates_12 : decode cX11_rates 12 = .ok (.ldc 93, 2) := by decide +kernel
theorem dX11_rates_14 : decode cX11_rates 14 = .ok (.ireturn, 1) := by decide +kernel
theorem dX11_rates_15 : decode cX11_rates 15 = .ok (.iconst 1, 1) := by decide +kernel
theorem dX11_rates_16 : decode cX11_rates 16 = .ok (.istore_n 2, 1) := by decide +kernel
theorem dX11_rates_17 : decode cX11_rates 17 = .ok (.iload_n 2, 1) := by decide +kernel
theorem dX11_rates_18 : decode cX11_rates 18 = .ok (.bipush 9, 2) := by decide +kernel
theorem dX11_rates_20 : decode cX11_rates 20 = .ok (.if_icmp .gt 108, 3) := by decide +kernel
theorem dX11_rates_23 : decode cX11_rates 23 = .ok (.iconst 0, 1) := by decide +kernel
theorem dX11_rates_24 : decode cX11_rates 24 = .ok (.istore_n 3, 1) := by decide +kernel
theorem dX11_rates_25 : decode cX11_rates 25 = .ok (.iconst 0, 1) := by decide +kernel
theorem dX11_rates_26 : decode cX11_rates 26 = .ok (.istore 4, 2) := by decide +kernel
theorem dX11_rates_28 : decode cX11_rates 28 = .ok (.iload 4, 2) := by decide +kernel
theorem dX11_rates_30 : decode cX11_rates 30 = .ok (.aload_n 0, 1) := by decide +kernel
theorem dX11_rates_31 : decode cX11_rates 31 = .ok (.getfield 81, 3) := by decide +kernel
theorem dX11_rates_34 : decode cX11_rates 34 = .ok (.if_icmp .ge 81, 3) := by decide +kernel
theorem dX11_rates_37 : decode cX11_rates 37 = .ok (.aload_n 0, 1) := by decide +kernel
theorem dX11_rates_38 : decode cX11_rates 38 = .ok (.iload 4, 2) := by decide +kernel
theorem dX11_rates_40 : decode cX11_rates 40 = .ok (.invokevirtual 183, 3) := by decide +kernel
theorem dX11_rates_43 : decode cX11_rates 43 = .ok (.ifCond .eq 30, 3) := by decide +kernel
theorem dX11_rates_46 : decode cX11_rates 46 = .ok (.aload_n 0, 1) := by decide +kernel
theorem dX11_rates_47 : decode cX11_rates 47 = .ok (.iload 4, 2) := by decide +kernel
theorem dX11_rates_49 : decode cX11_rates 49 = .ok (.aload_n 0, 1) := by decide +kernel
theorem dX11_rates_50 : decode cX11_rates 50 = .ok (.getfield 25, 3) := by decide +kernel
theorem dX11_rates_53 : decode cX11_rates 53 = .ok (.iload 4, 2) := by decide +kernel
theorem dX11_rates_55 : decode cX11_rates 55 = .ok (.iaload, 1) := by decide +kernel
theorem dX11_rates_56 : decode cX11_rates 56 = .ok (.aload_n 0, 1) := by decide +kernel
theorem dX11_rates_57 : decode cX11_rates 57 = .ok (.getfield 25, 3) := by decide +kernel
theorem dX11_rates_60 : decode cX11_rates 60 = .ok (.bipush 14, 2) := by decide +kernel
theorem dX11_rates_62 : decode cX11_rates 62 = .ok (.iload 4, 2) := by decide +kernel
theorem dX11_rates_64 : decode cX11_rates 64 = .ok (.iadd, 1) := by decide +kernel
theorem dX11_rates_65 : decode cX11_rates 65 = .ok (.iaload, 1) := by decide +kernel
theorem dX11_rates_66 : decode cX11_rates 66 = .ok (.iload_n 2, 1) := by decide +kernel
theorem dX11_rates_67 : decode cX11_rates 67 = .ok (.invokevirtual 187, 3) := by decide +kernel
theorem dX11_rates_70 : decode cX11_rates 70 = .ok (.goto 4, 3) := by decide +kernel
theorem dX11_rates_73 : decode cX11_rates 73 = .ok (.iconst 0, 1) := by decide +kernel
theorem dX11_rates_74 : decode cX11_rates 74 = .ok (.istore 5, 2) := by decide +kernel
theorem dX11_rates_76 : decode cX11_rates 76 = .ok (.iload_n 3, 1) := by decide +kernel
theorem dX11_rates_77 : decode cX11_rates 77 = .ok (.iload 5, 2) := by decide +kernel
theorem dX11_rates_79 : decode cX11_rates 79 = .ok (.aload_n 0, 1) := by decide +kernel
theorem dX11_rates_80 : decode cX11_rates 80 = .ok (.getfield 25, 3) := by decide +kernel
theorem dX11_rates_83 : decode cX11_rates 83 = .ok (.bipush 7, 2) := by decide +kernel
theorem dX11_rates_85 : decode cX11_rates 85 = .ok (.iload 4, 2) := by decide +kernel
theorem dX11_rates_87 : decode cX11_rates 87 = .ok (.iadd, 1) := by decide +kernel
theorem dX11_rates_88 : decode cX11_rates 88 = .ok (.iaload, 1) := by decide +kernel
theorem dX11_rates_89 : decode cX11_rates 89 = .ok (.if_icmp .ge 8, 3) := by decide +kernel
theorem dX11_rates_92 : decode cX11_rates 92 = .ok (.iload 5, 2) := by decide +kernel
theorem dX11_rates_94 : decode cX11_rates 94 = .ok (.goto 13, 3) := by decide +kernel
theorem dX11_rates_97 : decode cX11_rates 97 = .ok (.aload_n 0, 1) := by decide +kernel
theorem dX11_rates_98 : decode cX11_rates 98 = .ok (.getfield 25, 3) := by decide +kernel
theorem dX11_rates_101 : decode cX11_rates 101 = .ok (.bipush 7, 2) := by decide +kernel
theorem dX11_rates_103 : decode cX11_rates 103 = .ok (.iload 4, 2) := by decide +kernel
theorem dX11_rates_105 : decode cX11_rates 105 = .ok (.iadd, 1) := by decide +kernel
theorem dX11_rates_106 : decode cX11_rates 106 = .ok (.iaload, 1) := by decide +kernel
theorem dX11_rates_107 : decode cX11_rates 107 = .ok (.iadd, 1) := by decide +kernel
theorem dX11_rates_108 : decode cX11_rates 108 = .ok (.istore_n 3, 1) := by decide +kernel
theorem dX11_rates_109 : decode cX11_rates 109 = .ok (.iinc 4 1, 3) := by decide +kernel
theorem dX11_rates_112 : decode cX11_rates 112 = .ok (.goto (-84), 3) := by decide +kernel
theorem dX11_rates_115 : decode cX11_rates 115 = .ok (.iload_n 3, 1) := by decide +kernel
theorem dX11_rates_116 : decode cX11_rates 116 = .ok (.iload_n 1, 1) := by decide +kernel
theorem dX11_rates_117 : decode cX11_rates 117 = .ok (.if_icmp .lt 5, 3) := by decide +kernel
theorem dX11_rates_120 : decode cX11_rates 120 = .ok (.iload_n 2, 1) := by decide +kernel
theorem dX11_rates_121 : decode cX11_rates 121 = .ok (.ireturn, 1) := by decide +kernel
theorem dX11_rates_122 : decode cX11_rates 122 = .ok (.iinc 2 1, 3) := by decide +kernel
theorem dX11_rates_125 : decode cX11_rates 125 = .ok (.goto (-108), 3) := by decide +kernel
theorem dX11_rates_128 : decode cX11_rates 128 = .ok (.iconst (-1), 1) := by decide +kernel
theorem dX11_rates_129 : decode cX11_rates 129 = .ok (.ireturn, 1) := by decide +kernel
theorem dX11_dry_0 : decode cX11_dry 0 = .ok (.iload_n 1, 1) := by decide +kernel
theorem dX11_dry_1 : decode cX11_dry 1 = .ok (.i2l, 1) := by decide +kernel
theorem dX11_dry_2 : decode cX11_dry 2 = .ok (.lconst 0, 1) := by decide +kernel
theorem dX11_dry_3 : decode cX11_dry 3 = .ok (.ldc2_w 243, 3) := by decide +kernel
theorem dX11_dry_6 : decode cX11_dry 6 = .ok (.invokestatic 84, 3) := by decide +kernel
theorem dX11_dry_9 : decode cX11_dry 9 = .ok (.ifCond .eq 15, 3) := by decide +kernel
theorem dX11_dry_12 : decode cX11_dry 12 = .ok (.iload_n 2, 1) := by decide +kernel
theorem dX11_dry_13 : decode cX11_dry 13 = .ok (.i2l, 1) := by decide +kernel
theorem dX11_dry_14 : decode cX11_dry 14 = .ok (.lconst 0, 1) := by decide +kernel
theorem dX11_dry_15 : decode cX11_dry 15 = .ok (.ldc2_w 318, 3) := by decide +kernel
theorem dX11_dry_18 : decode cX11_dry 18 = .ok (.invokestatic 84, 3) := by decide +kernel
theorem dX11_dry_21 : decode cX11_dry 21 = .ok (.ifCond .ne 6, 3) := by decide +kernel
theorem dX11_dry_24 : decode cX11_dry 24 = .ok (.ldc 93, 2) := by decide +kernel
theorem dX11_dry_26 : decode cX11_dry 26 = .ok (.ireturn, 1) := by decide +kernel
theorem dX11_dry_27 : decode cX11_dry 27 = .ok (.ldc2_w 320, 3) := by decide +kernel
theorem dX11_dry_30 : decode cX11_dry 30 = .ok (.lstore_n 3, 1) := by decide +kernel
theorem dX11_dry_31 : decode cX11_dry 31 = .ok (.iconst 0, 1) := by decide +kernel
theorem dX11_dry_32 : decode cX11_dry 32 = .ok (.istore 5, 2) := by decide +kernel
theorem dX11_dry_34 : decode cX11_dry 34 = .ok (.iload 5, 2) := by decide +kernel
theorem dX11_dry_36 : decode cX11_dry 36 = .ok (.iload_n 1, 1) := by decide +kernel
theorem dX11_dry_37 : decode cX11_dry 37 = .ok (.if_icmp .ge 18, 3) := by decide +kernel
theorem dX11_dry_40 : decode cX11_dry 40 = .ok (.lload_n 3, 1) := by decide +kernel
theorem dX11_dry_41 : decode cX11_dry 41 = .ok (.iload_n 2, 1) := by decide +kernel
theorem dX11_dry_42 : decode cX11_dry 42 = .ok (.i2l, 1) := by decide +kernel
theorem dX11_dry_43 : decode cX11_dry 43 = .ok (.lmul, 1) := by decide +kernel
theorem dX11_dry_44 : decode cX11_dry 44 = .ok (.ldc2_w 318, 3) := by decide +kernel
theorem dX11_dry_47 : decode cX11_dry 47 = .ok (.ldiv, 1) := by decide +kernel
theorem dX11_dry_48 : decode cX11_dry 48 = .ok (.lstore_n 3, 1) := by decide +kernel
theorem dX11_dry_49 : decode cX11_dry 49 = .ok (.iinc 5 1, 3) := by decide +kernel
theorem dX11_dry_52 : decode cX11_dry 52 = .ok (.goto (-18), 3) := by decide +kernel
theorem dX11_dry_55 : decode cX11_dry 55 = .ok (.lload_n 3, 1) := by decide +kernel
theorem dX11_dry_56 : decode cX11_dry 56 = .ok (.l2i, 1) := by decide +kernel
theorem dX11_dry_57 : decode cX11_dry 57 = .ok (.ireturn, 1) := by decide +kernel
theorem dX11_pay_0 : decode cX11_pay 0 = .ok (.aload_n 0, 1) := by decide +kernel
theorem dX11_pay_1 : decode cX11_pay 1 = .ok (.iload_n 1, 1) := by decide +kernel
theorem dX11_pay_2 : decode cX11_pay 2 = .ok (.invokevirtual 232, 3) := by decide +kernel
theorem dX11_pay_5 : decode cX11_pay 5 = .ok (.ifCond .ne 6, 3) := by decide +kernel
theorem dX11_pay_8 : decode cX11_pay 8 = .ok (.ldc 231, 2) := by decide +kernel
theorem dX11_pay_10 : decode cX11_pay 10 = .ok (.ireturn, 1) := by decide +kernel
theorem dX11_pay_11 : decode cX11_pay 11 = .ok (.iload_n 2, 1) := by decide +kernel
theorem dX11_pay_12 : decode cX11_pay 12 = .ok (.i2l, 1) := by decide +kernel
theorem dX11_pay_13 : decode cX11_pay 13 = .ok (.lconst 0, 1) := by decide +kernel
theorem dX11_pay_14 : decode cX11_pay 14 = .ok (.ldc2_w 322, 3) := by decide +kernel
theorem dX11_pay_17 : decode cX11_pay 17 = .ok (.invokestatic 84, 3) := by decide +kernel
theorem dX11_pay_20 : decode cX11_pay 20 = .ok (.ifCond .ne 6, 3) := by decide +kernel
theorem dX11_pay_23 : decode cX11_pay 23 = .ok (.ldc 93, 2) := by decide +kernel
theorem dX11_pay_25 : decode cX11_pay 25 = .ok (.ireturn, 1) := by decide +kernel
theorem dX11_pay_26 : decode cX11_pay 26 = .ok (.aload_n 0, 1) := by decide +kernel
theorem dX11_pay_27 : decode cX11_pay 27 = .ok (.getfield 170, 3) := by decide +kernel
theorem dX11_pay_30 : decode cX11_pay 30 = .ok (.bipush 6, 2) := by decide +kernel
theorem dX11_pay_32 : decode cX11_pay 32 = .ok (.if_icmp .ne 6, 3) := by decide +kernel
theorem dX11_pay_35 : decode cX11_pay 35 = .ok (.ldc 97, 2) := by decide +kernel
theorem dX11_pay_37 : decode cX11_pay 37 = .ok (.ireturn, 1) := by decide +kernel
theorem dX11_pay_38 : decode cX11_pay 38 = .ok (.aload_n 0, 1) := by decide +kernel
theorem dX11_pay_39 : decode cX11_pay 39 = .ok (.getfield 59, 3) := by decide +kernel
theorem dX11_pay_42 : decode cX11_pay 42 = .ok (.aload_n 0, 1) := by decide +kernel
theorem dX11_pay_43 : decode cX11_pay 43 = .ok (.getfield 170, 3) := by decide +kernel
theorem dX11_pay_46 : decode cX11_pay 46 = .ok (.iload_n 1, 1) := by decide +kernel
theorem dX11_pay_47 : decode cX11_pay 47 = .ok (.iastore, 1) := by decide +kernel
theorem dX11_pay_48 : decode cX11_pay 48 = .ok (.aload_n 0, 1) := by decide +kernel
theorem dX11_pay_49 : decode cX11_pay 49 = .ok (.getfield 62, 3) := by decide +kernel
theorem dX11_pay_52 : decode cX11_pay 52 = .ok (.aload_n 0, 1) := by decide +kernel
theorem dX11_pay_53 : decode cX11_pay 53 = .ok (.getfield 170, 3) := by decide +kernel
theorem dX11_pay_56 : decode cX11_pay 56 = .ok (.iload_n 2, 1) := by decide +kernel
theorem dX11_pay_57 : decode cX11_pay 57 = .ok (.iastore, 1) := by decide +kernel
theorem dX11_pay_58 : decode cX11_pay 58 = .ok (.aload_n 0, 1) := by decide +kernel
theorem dX11_pay_59 : decode cX11_pay 59 = .ok (.dup, 1) := by decide +kernel
theorem dX11_pay_60 : decode cX11_pay 60 = .ok (.getfield 170, 3) := by decide +kernel
theorem dX11_pay_63 : decode cX11_pay 63 = .ok (.iconst 1, 1) := by decide +kernel
theorem dX11_pay_64 : decode cX11_pay 64 = .ok (.iadd, 1) := by decide +kernel
theorem dX11_pay_65 : decode cX11_pay 65 = .ok (.putfield 170, 3) := by decide +kernel
theorem dX11_pay_68 : decode cX11_pay 68 = .ok (.aload_n 0, 1) := by decide +kernel
theorem dX11_pay_69 : decode cX11_pay 69 = .ok (.getfield 170, 3) := by decide +kernel
theorem dX11_pay_72 : decode cX11_pay 72 = .ok (.ireturn, 1) := by decide +kernel
theorem dX11_couldBe_0 : decode cX11_couldBe 0 = .ok (.iconst 1, 1) := by decide +kernel
theorem dX11_couldBe_1 : decode cX11_couldBe 1 = .ok (.istore_n 2, 1) := by decide +kernel
theorem dX11_couldBe_2 : decode cX11_couldBe 2 = .ok (.iconst 0, 1) := by decide +kernel
theorem dX11_couldBe_3 : decode cX11_couldBe 3 = .ok (.istore_n 3, 1) := by decide +kernel
theorem dX11_couldBe_4 : decode cX11_couldBe 4 = .ok (.iload_n 3, 1) := by decide +kernel
theorem dX11_couldBe_5 : decode cX11_couldBe 5 = .ok (.aload_n 0, 1) := by decide +kernel
theorem dX11_couldBe_6 : decode cX11_couldBe 6 = .ok (.getfield 170, 3) := by decide +kernel
theorem dX11_couldBe_9 : decode cX11_couldBe 9 = .ok (.if_icmp .ge 39, 3) := by decide +kernel
theorem dX11_couldBe_12 : decode cX11_couldBe 12 = .ok (.iload_n 2, 1) := by decide +kernel
theorem dX11_couldBe_13 : decode cX11_couldBe 13 = .ok (.ifCond .eq 35, 3) := by decide +kernel
theorem dX11_couldBe_16 : decode cX11_couldBe 16 = .ok (.aload_n 0, 1) := by decide +kernel
theorem dX11_couldBe_17 : decode cX11_couldBe 17 = .ok (.iload_n 1, 1) := by decide +kernel
theorem dX11_couldBe_18 : decode cX11_couldBe 18 = .ok (.aload_n 0, 1) := by decide +kernel
theorem dX11_couldBe_19 : decode cX11_couldBe 19 = .ok (.getfield 59, 3) := by decide +kernel
theorem dX11_couldBe_22 : decode cX11_couldBe 22 = .ok (.iload_n 3, 1) := by decide +kernel
theorem dX11_couldBe_23 : decode cX11_couldBe 23 = .ok (.iaload, 1) := by decide +kernel
theorem dX11_couldBe_24 : decode cX11_couldBe 24 = .ok (.invokevirtual 310, 3) := by decide +kernel
theorem dX11_couldBe_27 : decode cX11_couldBe 27 = .ok (.aload_n 0, 1) := by decide +kernel
theorem dX11_couldBe_28 : decode cX11_couldBe 28 = .ok (.getfield 62, 3) := by decide +kernel
theorem dX11_couldBe_31 : decode cX11_couldBe 31 = .ok (.iload_n 3, 1) := by decide +kernel
theorem dX11_couldBe_32 : decode cX11_couldBe 32 = .ok (.iaload, 1) := by decide +kernel
theorem dX11_couldBe_33 : decode cX11_couldBe 33 = .ok (.if_icmp .ne 7, 3) := by decide +kernel
theorem dX11_couldBe_36 : decode cX11_couldBe 36 = .ok (.iconst 1, 1) := by decide +kernel
theorem dX11_couldBe_37 : decode cX11_couldBe 37 = .ok (.goto 4, 3) := by decide +kernel
theorem dX11_couldBe_40 : decode cX11_couldBe 40 = .ok (.iconst 0, 1) := by decide +kernel
theorem dX11_couldBe_41 : decode cX11_couldBe 41 = .ok (.istore_n 2, 1) := by decide +kernel
theorem dX11_couldBe_42 : decode cX11_couldBe 42 = .ok (.iinc 3 1, 3) := by decide +kernel
theorem dX11_couldBe_45 : decode cX11_couldBe 45 = .ok (.goto (-41), 3) := by decide +kernel
theorem dX11_couldBe_48 : decode cX11_couldBe 48 = .ok (.iload_n 2, 1) := by decide +kernel
theorem dX11_couldBe_49 : decode cX11_couldBe 49 = .ok (.ireturn, 1) := by decide +kernel
theorem dX11_choirsWith_0 : decode cX11_choirsWith 0 = .ok (.iconst 0, 1) := by decide +kernel
theorem dX11_choirsWith_1 : decode cX11_choirsWith 1 = .ok (.istore_n 2, 1) := by decide +kernel
theorem dX11_choirsWith_2 : decode cX11_choirsWith 2 = .ok (.iconst 0, 1) := by decide +kernel
theorem dX11_choirsWith_3 : decode cX11_choirsWith 3 = .ok (.istore_n 3, 1) := by decide +kernel
theorem dX11_choirsWith_4 : decode cX11_choirsWith 4 = .ok (.iload_n 3, 1) := by decide +kernel
theorem dX11_choirsWith_5 : decode cX11_choirsWith 5 = .ok (.iconst 1, 1) := by decide +kernel
theorem dX11_choirsWith_6 : decode cX11_choirsWith 6 = .ok (.aload_n 0, 1) := by decide +kernel
theorem dX11_choirsWith_7 : decode cX11_choirsWith 7 = .ok (.getfield 81, 3) := by decide +kernel
theorem dX11_choirsWith_10 : decode cX11_choirsWith 10 = .ok (.ishl, 1) := by decide +kernel
theorem dX11_choirsWith_11 : decode cX11_choirsWith 11 = .ok (.if_icmp .ge 32, 3) := by decide +kernel
theorem dX11_choirsWith_14 : decode cX11_choirsWith 14 = .ok (.iload_n 2, 1) := by decide +kernel
theorem dX11_choirsWith_15 : decode cX11_choirsWith 15 = .ok (.iload_n 3, 1) := by decide +kernel
theorem dX11_choirsWith_16 : decode cX11_choirsWith 16 = .ok (.iload_n 1, 1) := by decide +kernel
theorem dX11_choirsWith_17 : decode cX11_choirsWith 17 = .ok (.iand, 1) := by decide +kernel
theorem dX11_choirsWith_18 : decode cX11_choirsWith 18 = .ok (.iload_n 1, 1) := by decide +kernel
theorem dX11_choirsWith_19 : decode cX11_choirsWith 19 = .ok (.if_icmp .ne 15, 3) := by decide +kernel
theorem dX11_choirsWith_22 : decode cX11_choirsWith 22 = .ok (.aload_n 0, 1) := by decide +kernel
theorem dX11_choirsWith_23 : decode cX11_choirsWith 23 = .ok (.iload_n 3, 1) := by decide +kernel
theorem dX11_choirsWith_24 : decode cX11_choirsWith 24 = .ok (.invokevirtual 324, 3) := by decide +kernel
theorem dX11_choirsWith_27 : decode cX11_choirsWith 27 = .ok (.ifCond .eq 7, 3) := by decide +kernel
theorem dX11_choirsWith_30 : decode cX11_choirsWith 30 = .ok (.iconst 1, 1) := by decide +kernel
theorem dX11_choirsWith_31 : decode cX11_choirsWith 31 = .ok (.goto 4, 3) := by decide +kernel
theorem dX11_choirsWith_34 : decode cX11_choirsWith 34 = .ok (.iconst 0, 1) := by decide +kernel
theorem dX11_choirsWith_35 : decode cX11_choirsWith 35 = .ok (.iadd, 1) := by decide +kernel
theorem dX11_choirsWith_36 : decode cX11_choirsWith 36 = .ok (.istore_n 2, 1) := by decide +kernel
theorem dX11_choirsWith_37 : decode cX11_choirsWith 37 = .ok (.iinc 3 1, 3) := by decide +kernel
theorem dX11_choirsWith_40 : decode cX11_choirsWith 40 = .ok (.goto (-36), 3) := by decide +kernel
theorem dX11_choirsWith_43 : decode cX11_choirsWith 43 = .ok (.iload_n 2, 1) := by decide +kernel
theorem dX11_choirsWith_44 : decode cX11_choirsWith 44 = .ok (.ireturn, 1) := by decide +kernel
theorem dX11_choirs_0 : decode cX11_choirs 0 = .ok (.aload_n 0, 1) := by decide +kernel
theorem dX11_choirs_1 : decode cX11_choirs 1 = .ok (.iconst 0, 1) := by decide +kernel
theorem dX11_choirs_2 : decode cX11_choirs 2 = .ok (.invokevirtual 327, 3) := by decide +kernel
theorem dX11_choirs_5 : decode cX11_choirs 5 = .ok (.ireturn, 1) := by decide +kernel
theorem dX11_inEach_0 : decode cX11_inEach 0 = .ok (.iconst (-1), 1) := by decide +kernel
theorem dX11_inEach_1 : decode cX11_inEach 1 = .ok (.istore_n 1, 1) := by decide +kernel
theorem dX11_inEach_2 : decode cX11_inEach 2 = .ok (.iconst 0, 1) := by decide +kernel
theorem dX11_inEach_3 : decode cX11_inEach 3 = .ok (.istore_n 2, 1) := by decide +kernel
theorem dX11_inEach_4 : decode cX11_inEach 4 = .ok (.iload_n 2, 1) := by decide +kernel
theorem dX11_inEach_5 : decode cX11_inEach 5 = .ok (.iconst 1, 1) := by decide +kernel
theorem dX11_inEach_6 : decode cX11_inEach 6 = .ok (.aload_n 0, 1) := by decide +kernel
theorem dX11_inEach_7 : decode cX11_inEach 7 = .ok (.getfield 81, 3) := by decide +kernel
theorem dX11_inEach_10 : decode cX11_inEach 10 = .ok (.ishl, 1) := by decide +kernel
theorem dX11_inEach_11 : decode cX11_inEach 11 = .ok (.if_icmp .ge 33, 3) := by decide +kernel
theorem dX11_inEach_14 : decode cX11_inEach 14 = .ok (.aload_n 0, 1) := by decide +kernel
theorem dX11_inEach_15 : decode cX11_inEach 15 = .ok (.iload_n 2, 1) := by decide +kernel
theorem dX11_inEach_16 : decode cX11_inEach 16 = .ok (.invokevirtual 324, 3) := by decide +kernel
theorem dX11_inEach_19 : decode cX11_inEach 19 = .ok (.ifCond .eq 17, 3) := by decide +kernel
theorem dX11_inEach_22 : decode cX11_inEach 22 = .ok (.iload_n 1, 1) := by decide +kernel
theorem dX11_inEach_23 : decode cX11_inEach 23 = .ok (.ifCond .ge 7, 3) := by decide +kernel
theorem dX11_inEach_26 : decode cX11_inEach 26 = .ok (.iload_n 2, 1) := by decide +kernel
theorem dX11_inEach_27 : decode cX11_inEach 27 = .ok (.goto 10, 3) := by decide +kernel
theorem dX11_inEach_30 : decode cX11_inEach 30 = .ok (.iload_n 1, 1) := by decide +kernel
theorem dX11_inEach_31 : decode cX11_inEach 31 = .ok (.iload_n 2, 1) := by decide +kernel
theorem dX11_inEach_32 : decode cX11_inEach 32 = .ok (.iand, 1) := by decide +kernel
theorem dX11_inEach_33 : decode cX11_inEach 33 = .ok (.goto 4, 3) := by decide +kernel
theorem dX11_inEach_36 : decode cX11_inEach 36 = .ok (.iload_n 1, 1) := by decide +kernel
theorem dX11_inEach_37 : decode cX11_inEach 37 = .ok (.istore_n 1, 1) := by decide +kernel
theorem dX11_inEach_38 : decode cX11_inEach 38 = .ok (.iinc 2 1, 3) := by decide +kernel
theorem dX11_inEach_41 : decode cX11_inEach 41 = .ok (.goto (-37), 3) := by decide +kernel
theorem dX11_inEach_44 : decode cX11_inEach 44 = .ok (.iload_n 1, 1) := by decide +kernel
theorem dX11_inEach_45 : decode cX11_inEach 45 = .ok (.ireturn, 1) := by decide +kernel
theorem dX11_lip_0 : decode cX11_lip 0 = .ok (.aload_n 0, 1) := by decide +kernel
theorem dX11_lip_1 : decode cX11_lip 1 = .ok (.invokevirtual 219, 3) := by decide +kernel
theorem dX11_lip_4 : decode cX11_lip 4 = .ok (.istore_n 1, 1) := by decide +kernel
theorem dX11_lip_5 : decode cX11_lip 5 = .ok (.iconst (-1), 1) := by decide +kernel
theorem dX11_lip_6 : decode cX11_lip 6 = .ok (.istore_n 2, 1) := by decide +kernel
theorem dX11_lip_7 : decode cX11_lip 7 = .ok (.iload_n 1, 1) := by decide +kernel
theorem dX11_lip_8 : decode cX11_lip 8 = .ok (.istore_n 3, 1) := by decide +kernel
theorem dX11_lip_9 : decode cX11_lip 9 = .ok (.iconst 0, 1) := by decide +kernel
theorem dX11_lip_10 : decode cX11_lip 10 = .ok (.istore 4, 2) := by decide +kernel
theorem dX11_lip_12 : decode cX11_lip 12 = .ok (.iload 4, 2) := by decide +kernel
theorem dX11_lip_14 : decode cX11_lip 14 = .ok (.aload_n 0, 1) := by decide +kernel
theorem dX11_lip_15 : decode cX11_lip 15 = .ok (.getfield 81, 3) := by decide +kernel
theorem dX11_lip_18 : decode cX11_lip 18 = .ok (.if_icmp .ge 65, 3) := by decide +kernel
theorem dX11_lip_21 : decode cX11_lip 21 = .ok (.aload_n 0, 1) := by decide +kernel
theorem dX11_lip_22 : decode cX11_lip 22 = .ok (.iconst 1, 1) := by decide +kernel
theorem dX11_lip_23 : decode cX11_lip 23 = .ok (.iload 4, 2) := by decide +kernel
theorem dX11_lip_25 : decode cX11_lip 25 = .ok (.ishl, 1) := by decide +kernel
theorem dX11_lip_26 : decode cX11_lip 26 = .ok (.invokevirtual 327, 3) := by decide +kernel
theorem dX11_lip_29 : decode cX11_lip 29 = .ok (.istore 5, 2) := by decide +kernel
theorem dX11_lip_31 : decode cX11_lip 31 = .ok (.iload 5, 2) := by decide +kernel
theorem dX11_lip_33 : decode cX11_lip 33 = .ok (.iload_n 1, 1) := by decide +kernel
theorem dX11_lip_34 : decode cX11_lip 34 = .ok (.iload 5, 2) := by decide +kernel
theorem dX11_lip_36 : decode cX11_lip 36 = .ok (.isub, 1) := by decide +kernel
theorem dX11_lip_37 : decode cX11_lip 37 = .ok (.if_icmp .le 8, 3) := by decide +kernel
theorem dX11_lip_40 : decode cX11_lip 40 = .ok (.iload 5, 2) := by decide +kernel
theorem dX11_lip_42 : decode cX11_lip 42 = .ok (.goto 7, 3) := by decide +kernel
theorem dX11_lip_45 : decode cX11_lip 45 = .ok (.iload_n 1, 1) := by decide +kernel
theorem dX11_lip_46 : decode cX11_lip 46 = .ok (.iload 5, 2) := by decide +kernel
theorem dX11_lip_48 : decode cX11_lip 48 = .ok (.isub, 1) := by decide +kernel
theorem dX11_lip_49 : decode cX11_lip 49 = .ok (.istore 6, 2) := by decide +kernel
theorem dX11_lip_51 : decode cX11_lip 51 = .ok (.iload 6, 2) := by decide +kernel
theorem dX11_lip_53 : decode cX11_lip 53 = .ok (.iload_n 3, 1) := by decide +kernel
theorem dX11_lip_54 : decode cX11_lip 54 = .ok (.if_icmp .ge 8, 3) := by decide +kernel
theorem dX11_lip_57 : decode cX11_lip 57 = .ok (.iload 4, 2) := by decide +kernel
theorem dX11_lip_59 : decode cX11_lip 59 = .ok (.goto 4, 3) := by decide +kernel
theorem dX11_lip_62 : decode cX11_lip 62 = .ok (.iload_n 2, 1) := by decide +kernel
theorem dX11_lip_63 : decode cX11_lip 63 = .ok (.istore_n 2, 1) := by decide +kernel
theorem dX11_lip_64 : decode cX11_lip 64 = .ok (.iload 6, 2) := by decide +kernel
theorem dX11_lip_66 : decode cX11_lip 66 = .ok (.iload_n 3, 1) := by decide +kernel
theorem dX11_lip_67 : decode cX11_lip 67 = .ok (.if_icmp .ge 8, 3) := by decide +kernel
theorem dX11_lip_70 : decode cX11_lip 70 = .ok (.iload 6, 2) := by decide +kernel
theorem dX11_lip_72 : decode cX11_lip 72 = .ok (.goto 4, 3) := by decide +kernel
theorem dX11_lip_75 : decode cX11_lip 75 = .ok (.iload_n 3, 1) := by decide +kernel
theorem dX11_lip_76 : decode cX11_lip 76 = .ok (.istore_n 3, 1) := by decide +kernel
theorem dX11_lip_77 : decode cX11_lip 77 = .ok (.iinc 4 1, 3) := by decide +kernel
theorem dX11_lip_80 : decode cX11_lip 80 = .ok (.goto (-68), 3) := by decide +kernel
theorem dX11_lip_83 : decode cX11_lip 83 = .ok (.iload_n 2, 1) := by decide +kernel
theorem dX11_lip_84 : decode cX11_lip 84 = .ok (.ireturn, 1) := by decide +kernel
theorem dX11_write_0 : decode cX11_write 0 = .ok (.aload_n 0, 1) := by decide +kernel
theorem dX11_write_1 : decode cX11_write 1 = .ok (.iload_n 1, 1) := by decide +kernel
theorem dX11_write_2 : decode cX11_write 2 = .ok (.invokevirtual 228, 3) := by decide +kernel
theorem dX11_write_5 : decode cX11_write 5 = .ok (.ifCond .ne 6, 3) := by decide +kernel
theorem dX11_write_8 : decode cX11_write 8 = .ok (.ldc 231, 2) := by decide +kernel
theorem dX11_write_10 : decode cX11_write 10 = .ok (.ireturn, 1) := by decide +kernel
theorem dX11_write_11 : decode cX11_write 11 = .ok (.iload_n 2, 1) := by decide +kernel
theorem dX11_write_12 : decode cX11_write 12 = .ok (.i2l, 1) := by decide +kernel
theorem dX11_write_13 : decode cX11_write 13 = .ok (.lconst 0, 1) := by decide +kernel
theorem dX11_write_14 : decode cX11_write 14 = .ok (.ldc2_w 322, 3) := by decide +kernel
theorem dX11_write_17 : decode cX11_write 17 = .ok (.invokestatic 84, 3) := by decide +kernel
theorem dX11_write_20 : decode cX11_write 20 = .ok (.ifCond .ne 6, 3) := by decide +kernel
theorem dX11_write_23 : decode cX11_write 23 = .ok (.ldc 93, 2) := by decide +kernel
theorem dX11_write_25 : decode cX11_write 25 = .ok (.ireturn, 1) := by decide +kernel
theorem dX11_write_26 : decode cX11_write 26 = .ok (.aload_n 0, 1) := by decide +kernel
theorem dX11_write_27 : decode cX11_write 27 = .ok (.getfield 173, 3) := by decide +kernel
theorem dX11_write_30 : decode cX11_write 30 = .ok (.bipush 15, 2) := by decide +kernel
theorem dX11_write_32 : decode cX11_write 32 = .ok (.if_icmp .ne 6, 3) := by decide +kernel
theorem dX11_write_35 : decode cX11_write 35 = .ok (.ldc 97, 2) := by decide +kernel
theorem dX11_write_37 : decode cX11_write 37 = .ok (.ireturn, 1) := by decide +kernel
theorem dX11_write_38 : decode cX11_write 38 = .ok (.aload_n 0, 1) := by decide +kernel
theorem dX11_write_39 : decode cX11_write 39 = .ok (.getfield 65, 3) := by decide +kernel
theorem dX11_write_42 : decode cX11_write 42 = .ok (.aload_n 0, 1) := by decide +kernel
theorem dX11_write_43 : decode cX11_write 43 = .ok (.getfield 173, 3) := by decide +kernel
theorem dX11_write_46 : decode cX11_write 46 = .ok (.iload_n 1, 1) := by decide +kernel
theorem dX11_write_47 : decode cX11_write 47 = .ok (.iastore, 1) := by decide +kernel
theorem dX11_write_48 : decode cX11_write 48 = .ok (.aload_n 0, 1) := by decide +kernel
theorem dX11_write_49 : decode cX11_write 49 = .ok (.getfield 68, 3) := by decide +kernel
theorem dX11_write_52 : decode cX11_write 52 = .ok (.aload_n 0, 1) := by decide +kernel
theorem dX11_write_53 : decode cX11_write 53 = .ok (.getfield 173, 3) := by decide +kernel
theorem dX11_write_56 : decode cX11_write 56 = .ok (.iload_n 2, 1) := by decide +kernel
theorem dX11_write_57 : decode cX11_write 57 = .ok (.iastore, 1) := by decide +kernel
theorem dX11_write_58 : decode cX11_write 58 = .ok (.aload_n 0, 1) := by decide +kernel
theorem dX11_write_59 : decode cX11_write 59 = .ok (.dup, 1) := by decide +kernel
theorem dX11_write_60 : decode cX11_write 60 = .ok (.getfield 173, 3) := by decide +kernel
theorem dX11_write_63 : decode cX11_write 63 = .ok (.iconst 1, 1) := by decide +kernel
theorem dX11_write_64 : decode cX11_write 64 = .ok (.iadd, 1) := by decide +kernel
theorem dX11_write_65 : decode cX11_write 65 = .ok (.putfield 173, 3) := by decide +kernel
theorem dX11_write_68 : decode cX11_write 68 = .ok (.aload_n 0, 1) := by decide +kernel
theorem dX11_write_69 : decode cX11_write 69 = .ok (.getfield 173, 3) := by decide +kernel
theorem dX11_write_72 : decode cX11_write 72 = .ok (.ireturn, 1) := by decide +kernel
theorem dX11_tear_0 : decode cX11_tear 0 = .ok (.aload_n 0, 1) := by decide +kernel
theorem dX11_tear_1 : decode cX11_tear 1 = .ok (.getfield 170, 3) := by decide +kernel
theorem dX11_tear_4 : decode cX11_tear 4 = .ok (.aload_n 0, 1) := by decide +kernel
theorem dX11_tear_5 : decode cX11_tear 5 = .ok (.getfield 173, 3) := by decide +kernel
theorem dX11_tear_8 : decode cX11_tear 8 = .ok (.iadd, 1) := by decide +kernel
theorem dX11_tear_9 : decode cX11_tear 9 = .ok (.istore_n 1, 1) := by decide +kernel
theorem dX11_tear_10 : decode cX11_tear 10 = .ok (.aload_n 0, 1) := by decide +kernel
theorem dX11_tear_11 : decode cX11_tear 11 = .ok (.iconst 0, 1) := by decide +kernel
theorem dX11_tear_12 : decode cX11_tear 12 = .ok (.putfield 170, 3) := by decide +kernel
theorem dX11_tear_15 : decode cX11_tear 15 = .ok (.aload_n 0, 1) := by decide +kernel
theorem dX11_tear_16 : decode cX11_tear 16 = .ok (.iconst 0, 1) := by decide +kernel
theorem dX11_tear_17 : decode cX11_tear 17 = .ok (.putfield 173, 3) := by decide +kernel
theorem dX11_tear_20 : decode cX11_tear 20 = .ok (.iload_n 1, 1) := by decide +kernel
theorem dX11_tear_21 : decode cX11_tear 21 = .ok (.ireturn, 1) := by decide +kernel
theorem dX11_judge_0 : decode cX11_judge 0 = .ok (.iconst 0, 1) := by decide +kernel
theorem dX11_judge_1 : decode cX11_judge 1 = .ok (.istore_n 1, 1) := by decide +kernel
theorem dX11_judge_2 : decode cX11_judge 2 = .ok (.iload_n 1, 1) := by decide +kernel
theorem dX11_judge_3 : decode cX11_judge 3 = .ok (.aload_n 0, 1) := by decide +kernel
theorem dX11_judge_4 : decode cX11_judge 4 = .ok (.getfield 173, 3) := by decide +kernel
theorem dX11_judge_7 : decode cX11_judge 7 = .ok (.if_icmp .ge 34, 3) := by decide +kernel
theorem dX11_judge_10 : decode cX11_judge 10 = .ok (.aload_n 0, 1) := by decide +kernel
theorem dX11_judge_11 : decode cX11_judge 11 = .ok (.getfield 25, 3) := by decide +kernel
theorem dX11_judge_14 : decode cX11_judge 14 = .ok (.bipush 7, 2) := by decide +kernel
theorem dX11_judge_16 : decode cX11_judge 16 = .ok (.aload_n 0, 1) := by decide +kernel
theorem dX11_judge_17 : decode cX11_judge 17 = .ok (.getfield 65, 3) := by decide +kernel
theorem dX11_judge_20 : decode cX11_judge 20 = .ok (.iload_n 1, 1) := by decide +kernel
theorem dX11_judge_21 : decode cX11_judge 21 = .ok (.iaload, 1) := by decide +kernel
theorem dX11_judge_22 : decode cX11_judge 22 = .ok (.iadd, 1) := by decide +kernel
theorem dX11_judge_23 : decode cX11_judge 23 = .ok (.iaload, 1) := by decide +kernel
theorem dX11_judge_24 : decode cX11_judge 24 = .ok (.aload_n 0, 1) := by decide +kernel
theorem dX11_judge_25 : decode cX11_judge 25 = .ok (.getfield 68, 3) := by decide +kernel
theorem dX11_judge_28 : decode cX11_judge 28 = .ok (.iload_n 1, 1) := by decide +kernel
theorem dX11_judge_29 : decode cX11_judge 29 = .ok (.iaload, 1) := by decide +kernel
theorem dX11_judge_30 : decode cX11_judge 30 = .ok (.if_icmp .eq 5, 3) := by decide +kernel
theorem dX11_judge_33 : decode cX11_judge 33 = .ok (.iload_n 1, 1) := by decide +kernel
theorem dX11_judge_34 : decode cX11_judge 34 = .ok (.ireturn, 1) := by decide +kernel
theorem dX11_judge_35 : decode cX11_judge 35 = .ok (.iinc 1 1, 3) := by decide +kernel
theorem dX11_judge_38 : decode cX11_judge 38 = .ok (.goto (-36), 3) := by decide +kernel
theorem dX11_judge_41 : decode cX11_judge 41 = .ok (.iconst (-1), 1) := by decide +kernel
theorem dX11_judge_42 : decode cX11_judge 42 = .ok (.ireturn, 1) := by decide +kernel
theorem dX11_seed_0 : decode cX11_seed 0 = .ok (.iload_n 1, 1) := by decide +kernel
theorem dX11_seed_1 : decode cX11_seed 1 = .ok (.ifCond .ge 6, 3) := by decide +kernel
theorem dX11_seed_4 : decode cX11_seed 4 = .ok (.ldc 93, 2) := by decide +kernel
theorem dX11_seed_6 : decode cX11_seed 6 = .ok (.ireturn, 1) := by decide +kernel
theorem dX11_seed_7 : decode cX11_seed 7 = .ok (.aload_n 0, 1) := by decide +kernel
theorem dX11_seed_8 : decode cX11_seed 8 = .ok (.getfield 272, 3) := by decide +kernel
theorem dX11_seed_11 : decode cX11_seed 11 = .ok (.istore_n 2, 1) := by decide +kernel
theorem dX11_seed_12 : decode cX11_seed 12 = .ok (.aload_n 0, 1) := by decide +kernel
theorem dX11_seed_13 : decode cX11_seed 13 = .ok (.iload_n 1, 1) := by decide +kernel
theorem dX11_seed_14 : decode cX11_seed 14 = .ok (.putfield 272, 3) := by decide +kernel
theorem dX11_seed_17 : decode cX11_seed 17 = .ok (.iload_n 2, 1) := by decide +kernel
theorem dX11_seed_18 : decode cX11_seed 18 = .ok (.ireturn, 1) := by decide +kernel
theorem dX11_keep_0 : decode cX11_keep 0 = .ok (.iload_n 1, 1) := by decide +kernel
theorem dX11_keep_1 : decode cX11_keep 1 = .ok (.i2l, 1) := by decide +kernel
theorem dX11_keep_2 : decode cX11_keep 2 = .ok (.lconst 0, 1) := by decide +kernel
theorem dX11_keep_3 : decode cX11_keep 3 = .ok (.lconst 1, 1) := by decide +kernel
theorem dX11_keep_4 : decode cX11_keep 4 = .ok (.invokestatic 84, 3) := by decide +kernel
theorem dX11_keep_7 : decode cX11_keep 7 = .ok (.ifCond .ne 6, 3) := by decide +kernel
theorem dX11_keep_10 : decode cX11_keep 10 = .ok (.ldc 231, 2) := by decide +kernel
theorem dX11_keep_12 : decode cX11_keep 12 = .ok (.ireturn, 1) := by decide +kernel
theorem dX11_keep_13 : decode cX11_keep 13 = .ok (.iconst 0, 1) := by decide +kernel
theorem dX11_keep_14 : decode cX11_keep 14 = .ok (.istore_n 2, 1) := by decide +kernel
theorem dX11_keep_15 : decode cX11_keep 15 = .ok (.iload_n 2, 1) := by decide +kernel
theorem dX11_keep_16 : decode cX11_keep 16 = .ok (.bipush 29, 2) := by decide +kernel
theorem dX11_keep_18 : decode cX11_keep 18 = .ok (.if_icmp .ge 26, 3) := by decide +kernel
theorem dX11_keep_21 : decode cX11_keep 21 = .ok (.aload_n 0, 1) := by decide +kernel
theorem dX11_keep_22 : decode cX11_keep 22 = .ok (.getfield 71, 3) := by decide +kernel
theorem dX11_keep_25 : decode cX11_keep 25 = .ok (.bipush 30, 2) := by decide +kernel
theorem dX11_keep_27 : decode cX11_keep 27 = .ok (.iload_n 1, 1) := by decide +kernel
theorem dX11_keep_28 : decode cX11_keep 28 = .ok (.imul, 1) := by decide +kernel
theorem dX11_keep_29 : decode cX11_keep 29 = .ok (.iload_n 2, 1) := by decide +kernel
theorem dX11_keep_30 : decode cX11_keep 30 = .ok (.iadd, 1) := by decide +kernel
theorem dX11_keep_31 : decode cX11_keep 31 = .ok (.aload_n 0, 1) := by decide +kernel
theorem dX11_keep_32 : decode cX11_keep 32 = .ok (.getfield 25, 3) := by decide +kernel
theorem dX11_keep_35 : decode cX11_keep 35 = .ok (.iload_n 2, 1) := by decide +kernel
theorem dX11_keep_36 : decode cX11_keep 36 = .ok (.iaload, 1) := by decide +kernel
theorem dX11_keep_37 : decode cX11_keep 37 = .ok (.iastore, 1) := by decide +kernel
theorem dX11_keep_38 : decode cX11_keep 38 = .ok (.iinc 2 1, 3) := by decide +kernel
theorem dX11_keep_41 : decode cX11_keep 41 = .ok (.goto (-26), 3) := by decide +kernel
theorem dX11_keep_44 : decode cX11_keep 44 = .ok (.aload_n 0, 1) := by decide +kernel
theorem dX11_keep_45 : decode cX11_keep 45 = .ok (.getfield 71, 3) := by decide +kernel
theorem dX11_keep_48 : decode cX11_keep 48 = .ok (.bipush 30, 2) := by decide +kernel
theorem dX11_keep_50 : decode cX11_keep 50 = .ok (.iload_n 1, 1) := by decide +kernel
theorem dX11_keep_51 : decode cX11_keep 51 = .ok (.imul, 1) := by decide +kernel
theorem dX11_keep_52 : decode cX11_keep 52 = .ok (.bipush 29, 2) := by decide +kernel
theorem dX11_keep_54 : decode cX11_keep 54 = .ok (.iadd, 1) := by decide +kernel
theorem dX11_keep_55 : decode cX11_keep 55 = .ok (.aload_n 0, 1) := by decide +kernel
theorem dX11_keep_56 : decode cX11_keep 56 = .ok (.getfield 272, 3) := by decide +kernel
theorem dX11_keep_59 : decode cX11_keep 59 = .ok (.iastore, 1) := by decide +kernel
theorem dX11_keep_60 : decode cX11_keep 60 = .ok (.aload_n 0, 1) := by decide +kernel
theorem dX11_keep_61 : decode cX11_keep 61 = .ok (.getfield 74, 3) := by decide +kernel
theorem dX11_keep_64 : decode cX11_keep 64 = .ok (.iload_n 1, 1) := by decide +kernel
theorem dX11_keep_65 : decode cX11_keep 65 = .ok (.iconst 1, 1) := by decide +kernel
theorem dX11_keep_66 : decode cX11_keep 66 = .ok (.bastore, 1) := by decide +kernel
theorem dX11_keep_67 : decode cX11_keep 67 = .ok (.aload_n 0, 1) := by decide +kernel
theorem dX11_keep_68 : decode cX11_keep 68 = .ok (.iconst 0, 1) := by decide +kernel
theorem dX11_keep_69 : decode cX11_keep 69 = .ok (.putfield 176, 3) := by decide +kernel
theorem dX11_keep_72 : decode cX11_keep 72 = .ok (.iconst 1, 1) := by decide +kernel
theorem dX11_keep_73 : decode cX11_keep 73 = .ok (.ireturn, 1) := by decide +kernel
theorem dX11_goBack_0 : decode cX11_goBack 0 = .ok (.iload_n 1, 1) := by decide +kernel
theorem dX11_goBack_1 : decode cX11_goBack 1 = .ok (.i2l, 1) := by decide +kernel
theorem dX11_goBack_2 : decode cX11_goBack 2 = .ok (.lconst 0, 1) := by decide +kernel
theorem dX11_goBack_3 : decode cX11_goBack 3 = .ok (.lconst 1, 1) := by decide +kernel
theorem dX11_goBack_4 : decode cX11_goBack 4 = .ok (.invokestatic 84, 3) := by decide +kernel
theorem dX11_goBack_7 : decode cX11_goBack 7 = .ok (.ifCond .ne 6, 3) := by decide +kernel
theorem dX11_goBack_10 : decode cX11_goBack 10 = .ok (.ldc 231, 2) := by decide +kernel
theorem dX11_goBack_12 : decode cX11_goBack 12 = .ok (.ireturn, 1) := by decide +kernel
theorem dX11_goBack_13 : decode cX11_goBack 13 = .ok (.aload_n 0, 1) := by decide +kernel
theorem dX11_goBack_14 : decode cX11_goBack 14 = .ok (.getfield 74, 3) := by decide +kernel
theorem dX11_goBack_17 : decode cX11_goBack 17 = .ok (.iload_n 1, 1) := by decide +kernel
theorem dX11_goBack_18 : decode cX11_goBack 18 = .ok (.baload, 1) := by decide +kernel
theorem dX11_goBack_19 : decode cX11_goBack 19 = .ok (.ifCond .ne 6, 3) := by decide +kernel
theorem dX11_goBack_22 : decode cX11_goBack 22 = .ok (.ldc 245, 2) := by decide +kernel
theorem dX11_goBack_24 : decode cX11_goBack 24 = .ok (.ireturn, 1) := by decide +kernel
theorem dX11_goBack_25 : decode cX11_goBack 25 = .ok (.iconst 0, 1) := by decide +kernel
theorem dX11_goBack_26 : decode cX11_goBack 26 = .ok (.istore_n 2, 1) := by decide +kernel
theorem dX11_goBack_27 : decode cX11_goBack 27 = .ok (.iload_n 2, 1) := by decide +kernel
theorem dX11_goBack_28 : decode cX11_goBack 28 = .ok (.bipush 29, 2) := by decide +kernel
theorem dX11_goBack_30 : decode cX11_goBack 30 = .ok (.if_icmp .ge 26, 3) := by decide +kernel
theorem dX11_goBack_33 : decode cX11_goBack 33 = .ok (.aload_n 0, 1) := by decide +kernel
theorem dX11_goBack_34 : decode cX11_goBack 34 = .ok (.getfield 25, 3) := by decide +kernel
theorem dX11_goBack_37 : decode cX11_goBack 37 = .ok (.iload_n 2, 1) := by decide +kernel
theorem dX11_goBack_38 : decode cX11_goBack 38 = .ok (.aload_n 0, 1) := by decide +kernel
theorem dX11_goBack_39 : decode cX11_goBack 39 = .ok (.getfield 71, 3) := by decide +kernel
theorem dX11_goBack_42 : decode cX11_goBack 42 = .ok (.bipush 30, 2) := by decide +kernel
theorem dX11_goBack_44 : decode cX11_goBack 44 = .ok (.iload_n 1, 1) := by decide +kernel
theorem dX11_goBack_45 : decode cX11_goBack 45 = .ok (.imul, 1) := by decide +kernel
theorem dX11_goBack_46 : decode cX11_goBack 46 = .ok (.iload_n 2, 1) := by decide +kernel
theorem dX11_goBack_47 : decode cX11_goBack 47 = .ok (.iadd, 1) := by decide +kernel
theorem dX11_goBack_48 : decode cX11_goBack 48 = .ok (.iaload, 1) := by decide +kernel
theorem dX11_goBack_49 : decode cX11_goBack 49 = .ok (.iastore, 1) := by decide +kernel
theorem dX11_goBack_50 : decode cX11_goBack 50 = .ok (.iinc 2 1, 3) := by decide +kernel
theorem dX11_goBack_53 : decode cX11_goBack 53 = .ok (.goto (-26), 3) := by decide +kernel
theorem dX11_goBack_56 : decode cX11_goBack 56 = .ok (.aload_n 0, 1) := by decide +kernel
theorem dX11_goBack_57 : decode cX11_goBack 57 = .ok (.aload_n 0, 1) := by decide +kernel
theorem dX11_goBack_58 : decode cX11_goBack 58 = .ok (.getfield 71, 3) := by decide +kernel
theorem dX11_goBack_61 : decode cX11_goBack 61 = .ok (.bipush 30, 2) := by decide +kernel
theorem dX11_goBack_63 : decode cX11_goBack 63 = .ok (.iload_n 1, 1) := by decide +kernel
theorem dX11_goBack_64 : decode cX11_goBack 64 = .ok (.imul, 1) := by decide +kernel
theorem dX11_goBack_65 : decode cX11_goBack 65 = .ok (.bipush 29, 2) := by decide +kernel
theorem dX11_goBack_67 : decode cX11_goBack 67 = .ok (.iadd, 1) := by decide +kernel
theorem dX11_goBack_68 : decode cX11_goBack 68 = .ok (.iaload, 1) := by decide +kernel
theorem dX11_goBack_69 : decode cX11_goBack 69 = .ok (.putfield 272, 3) := by decide +kernel
theorem dX11_goBack_72 : decode cX11_goBack 72 = .ok (.aload_n 0, 1) := by decide +kernel
theorem dX11_goBack_73 : decode cX11_goBack 73 = .ok (.iconst 0, 1) := by decide +kernel
theorem dX11_goBack_74 : decode cX11_goBack 74 = .ok (.putfield 176, 3) := by decide +kernel
theorem dX11_goBack_77 : decode cX11_goBack 77 = .ok (.iconst 1, 1) := by decide +kernel
theorem dX11_goBack_78 : decode cX11_goBack 78 = .ok (.ireturn, 1) := by decide +kernel
end
section
theorem dL_law_0 : decode cL_law 0 = .ok (.new 7, 3) := by decide +kernel
theorem dL_law_3 : decode cL_law 3 = .ok (.dup, 1) := by decide +kernel
theorem dL_law_4 : decode cL_law 4 = .ok (.invokespecial 9, 3) := by decide +kernel
theorem dL_law_7 : decode cL_law 7 = .ok (.astore_n 1, 1) := by decide +kernel
theorem dL_law_8 : decode cL_law 8 = .ok (.new 10, 3) := by decide +kernel
theorem dL_law_11 : decode cL_law 11 = .ok (.dup, 1) := by decide +kernel
theorem dL_law_12 : decode cL_law 12 = .ok (.invokespecial 12, 3) := by decide +kernel
theorem dL_law_15 : decode cL_law 15 = .ok (.astore_n 2, 1) := by decide +kernel
theorem dL_law_16 : decode cL_law 16 = .ok (.iconst 0, 1) := by decide +kernel
theorem dL_law_17 : decode cL_law 17 = .ok (.istore_n 3, 1) := by decide +kernel
theorem dL_law_18 : decode cL_law 18 = .ok (.iload_n 3, 1) := by decide +kernel
theorem dL_law_19 : decode cL_law 19 = .ok (.aload_n 0, 1) := by decide +kernel
theorem dL_law_20 : decode cL_law 20 = .ok (.arraylength, 1) := by decide +kernel
theorem dL_law_21 : decode cL_law 21 = .ok (.iconst 4, 1) := by decide +kernel
theorem dL_law_22 : decode cL_law 22 = .ok (.isub, 1) := by decide +kernel
theorem dL_law_23 : decode cL_law 23 = .ok (.if_icmp .gt 921, 3) := by decide +kernel
theorem dL_law_26 : decode cL_law 26 = .ok (.aload_n 0, 1) := by decide +kernel
theorem dL_law_27 : decode cL_law 27 = .ok (.iload_n 3, 1) := by decide +kernel
theorem dL_law_28 : decode cL_law 28 = .ok (.iaload, 1) := by decide +kernel
theorem dL_law_29 : decode cL_law 29 = .ok (.bipush 31, 2) := by decide +kernel
theorem dL_law_31 : decode cL_law 31 = .ok (.iand, 1) := by decide +kernel
theorem dL_law_32 : decode cL_law 32 = .ok (.tableswitch 906 0 29 #[136, 159, 172, 185, 208, 241, 274, 297, 320, 343, 376, 409, 432, 465, 488, 501, 524, 547, 580, 623, 656, 689, 712, 745, 778, 811, 824, 837, 860, 883], 136) := by decide +kernel
theorem dL_law_168 : decode cL_law 168 = .ok (.aload_n 1, 1) := by decide +kernel
theorem dL_law_169 : decode cL_law 169 = .ok (.aload_n 0, 1) := by decide +kernel
theorem dL_law_170 : decode cL_law 170 = .ok (.iload_n 3, 1) := by decide +kernel
theorem dL_law_171 : decode cL_law 171 = .ok (.iconst 1, 1) := by decide +kernel
theorem dL_law_172 : decode cL_law 172 = .ok (.iadd, 1) := by decide +kernel
theorem dL_law_173 : decode cL_law 173 = .ok (.iaload, 1) := by decide +kernel
theorem dL_law_174 : decode cL_law 174 = .ok (.invokevirtual 13, 3) := by decide +kernel
theorem dL_law_177 : decode cL_law 177 = .ok (.aload_n 2, 1) := by decide +kernel
theorem dL_law_178 : decode cL_law 178 = .ok (.aload_n 0, 1) := by decide +kernel
theorem dL_law_179 : decode cL_law 179 = .ok (.iload_n 3, 1) := by decide +kernel
theorem dL_law_180 : decode cL_law 180 = .ok (.iconst 1, 1) := by decide +kernel
theorem dL_law_181 : decode cL_law 181 = .ok (.iadd, 1) := by decide +kernel
theorem dL_law_182 : decode cL_law 182 = .ok (.iaload, 1) := by decide +kernel
theorem dL_law_183 : decode cL_law 183 = .ok (.invokevirtual 17, 3) := by decide +kernel
theorem dL_law_186 : decode cL_law 186 = .ok (.if_icmp .eq 752, 3) := by decide +kernel
theorem dL_law_189 : decode cL_law 189 = .ok (.iconst 0, 1) := by decide +kernel
theorem dL_law_190 : decode cL_law 190 = .ok (.ireturn, 1) := by decide +kernel
theorem dL_law_191 : decode cL_law 191 = .ok (.aload_n 1, 1) := by decide +kernel
theorem dL_law_192 : decode cL_law 192 = .ok (.invokevirtual 18, 3) := by decide +kernel
theorem dL_law_195 : decode cL_law 195 = .ok (.aload_n 2, 1) := by decide +kernel
theorem dL_law_196 : decode cL_law 196 = .ok (.invokevirtual 22, 3) := by decide +kernel
theorem dL_law_199 : decode cL_law 199 = .ok (.if_icmp .eq 739, 3) := by decide +kernel
theorem dL_law_202 : decode cL_law 202 = .ok (.iconst 0, 1) := by decide +kernel
theorem dL_law_203 : decode cL_law 203 = .ok (.ireturn, 1) := by decide +kernel
theorem dL_law_204 : decode cL_law 204 = .ok (.aload_n 1, 1) := by decide +kernel
theorem dL_law_205 : decode cL_law 205 = .ok (.invokevirtual 23, 3) := by decide +kernel
theorem dL_law_208 : decode cL_law 208 = .ok (.aload_n 2, 1) := by decide +kernel
theorem dL_law_209 : decode cL_law 209 = .ok (.invokevirtual 26, 3) := by decide +kernel
theorem dL_law_212 : decode cL_law 212 = .ok (.if_icmp .eq 726, 3) := by decide +kernel
theorem dL_law_215 : decode cL_law 215 = .ok (.iconst 0, 1) := by decide +kernel
theorem dL_law_216 : decode cL_law 216 = .ok (.ireturn, 1) := by decide +kernel
theorem dL_law_217 : decode cL_law 217 = .ok (.aload_n 1, 1) := by decide +kernel
theorem dL_law_218 : decode cL_law 218 = .ok (.aload_n 0, 1) := by decide +kernel
theorem dL_law_219 : decode cL_law 219 = .ok (.iload_n 3, 1) := by decide +kernel
theorem dL_law_220 : decode cL_law 220 = .ok (.iconst 1, 1) := by decide +kernel
theorem dL_law_221 : decode cL_law 221 = .ok (.iadd, 1) := by decide +kernel
theorem dL_law_222 : decode cL_law 222 = .ok (.iaload, 1) := by decide +kernel
theorem dL_law_223 : decode cL_law 223 = .ok (.invokevirtual 27, 3) := by decide +kernel
theorem dL_law_226 : decode cL_law 226 = .ok (.aload_n 2, 1) := by decide +kernel
theorem dL_law_227 : decode cL_law 227 = .ok (.aload_n 0, 1) := by decide +kernel
theorem dL_law_228 : decode cL_law 228 = .ok (.iload_n 3, 1) := by decide +kernel
theorem dL_law_229 : decode cL_law 229 = .ok (.iconst 1, 1) := by decide +kernel
theorem dL_law_230 : decode cL_law 230 = .ok (.iadd, 1) := by decide +kernel
theorem dL_law_231 : decode cL_law 231 = .ok (.iaload, 1) := by decide +kernel
theorem dL_law_232 : decode cL_law 232 = .ok (.invokevirtual 30, 3) := by decide +kernel
theorem dL_law_235 : decode cL_law 235 = .ok (.if_icmp .eq 703, 3) := by decide +kernel
theorem dL_law_238 : decode cL_law 238 = .ok (.iconst 0, 1) := by decide +kernel
theorem dL_law_239 : decode cL_law 239 = .ok (.ireturn, 1) := by decide +kernel
theorem dL_law_240 : decode cL_law 240 = .ok (.aload_n 1, 1) := by decide +kernel
theorem dL_law_241 : decode cL_law 241 = .ok (.aload_n 0, 1) := by decide +kernel
theorem dL_law_242 : decode cL_law 242 = .ok (.iload_n 3, 1) := by decide +kernel
theorem dL_law_243 : decode cL_law 243 = .ok (.iconst 1, 1) := by decide +kernel
theorem dL_law_244 : decode cL_law 244 = .ok (.iadd, 1) := by decide +kernel
theorem dL_law_245 : decode cL_law 245 = .ok (.iaload, 1) := by decide +kernel
theorem dL_law_246 : decode cL_law 246 = .ok (.aload_n 0, 1) := by decide +kernel
theorem dL_law_247 : decode cL_law 247 = .ok (.iload_n 3, 1) := by decide +kernel
theorem dL_law_248 : decode cL_law 248 = .ok (.iconst 2, 1) := by decide +kernel
theorem dL_law_249 : decode cL_law 249 = .ok (.iadd, 1) := by decide +kernel
theorem dL_law_250 : decode cL_law 250 = .ok (.iaload, 1) := by decide +kernel
theorem dL_law_251 : decode cL_law 251 = .ok (.invokevirtual 31, 3) := by decide +kernel
theorem dL_law_254 : decode cL_law 254 = .ok (.aload_n 2, 1) := by decide +kernel
theorem dL_law_255 : decode cL_law 255 = .ok (.aload_n 0, 1) := by decide +kernel
theorem dL_law_256 : decode cL_law 256 = .ok (.iload_n 3, 1) := by decide +kernel
theorem dL_law_257 : decode cL_law 257 = .ok (.iconst 1, 1) := by decide +kernel
theorem dL_law_258 : decode cL_law 258 = .ok (.iadd, 1) := by decide +kernel
theorem dL_law_259 : decode cL_law 259 = .ok (.iaload, 1) := by decide +kernel
theorem dL_law_260 : decode cL_law 260 = .ok (.aload_n 0, 1) := by decide +kernel
theorem dL_law_261 : decode cL_law 261 = .ok (.iload_n 3, 1) := by decide +kernel
theorem dL_law_262 : decode cL_law 262 = .ok (.iconst 2, 1) := by decide +kernel
theorem dL_law_263 : decode cL_law 263 = .ok (.iadd, 1) := by decide +kernel
theorem dL_law_264 : decode cL_law 264 = .ok (.iaload, 1) := by decide +kernel
theorem dL_law_265 : decode cL_law 265 = .ok (.invokevirtual 35, 3) := by decide +kernel
theorem dL_law_268 : decode cL_law 268 = .ok (.if_icmp .eq 670, 3) := by decide +kernel
theorem dL_law_271 : decode cL_law 271 = .ok (.iconst 0, 1) := by decide +kernel
theorem dL_law_272 : decode cL_law 272 = .ok (.ireturn, 1) := by decide +kernel
theorem dL_law_273 : decode cL_law 273 = .ok (.aload_n 1, 1) := by decide +kernel
theorem dL_law_274 : decode cL_law 274 = .ok (.aload_n 0, 1) := by decide +kernel
theorem dL_law_275 : decode cL_law 275 = .ok (.iload_n 3, 1) := by decide +kernel
theorem dL_law_276 : decode cL_law 276 = .ok (.iconst 1, 1) := by decide +kernel
theorem dL_law_277 : decode cL_law 277 = .ok (.iadd, 1) := by decide +kernel
theorem dL_law_278 : decode cL_law 278 = .ok (.iaload, 1) := by decide +kernel
theorem dL_law_279 : decode cL_law 279 = .ok (.aload_n 0, 1) := by decide +kernel
theorem dL_law_280 : decode cL_law 280 = .ok (.iload_n 3, 1) := by decide +kernel
theorem dL_law_281 : decode cL_law 281 = .ok (.iconst 2, 1) := by decide +kernel
theorem dL_law_282 : decode cL_law 282 = .ok (.iadd, 1) := by decide +kernel
theorem dL_law_283 : decode cL_law 283 = .ok (.iaload, 1) := by decide +kernel
theorem dL_law_284 : decode cL_law 284 = .ok (.invokevirtual 36, 3) := by decide +kernel
theorem dL_law_287 : decode cL_law 287 = .ok (.aload_n 2, 1) := by decide +kernel
theorem dL_law_288 : decode cL_law 288 = .ok (.aload_n 0, 1) := by decide +kernel
theorem dL_law_289 : decode cL_law 289 = .ok (.iload_n 3, 1) := by decide +kernel
theorem dL_law_290 : decode cL_law 290 = .ok (.iconst 1, 1) := by decide +kernel
theorem dL_law_291 : decode cL_law 291 = .ok (.iadd, 1) := by decide +kernel
theorem dL_law_292 : decode cL_law 292 = .ok (.iaload, 1) := by decide +kernel
theorem dL_law_293 : decode cL_law 293 = .ok (.aload_n 0, 1) := by decide +kernel
theorem dL_law_294 : decode cL_law 294 = .ok (.iload_n 3, 1) := by decide +kernel
theorem dL_law_295 : decode cL_law 295 = .ok (.iconst 2, 1) := by decide +kernel
theorem dL_law_296 : decode cL_law 296 = .ok (.iadd, 1) := by decide +kernel
theorem dL_law_297 : decode cL_law 297 = .ok (.iaload, 1) := by decide +kernel
theorem dL_law_298 : decode cL_law 298 = .ok (.invokevirtual 39, 3) := by decide +kernel
theorem dL_law_301 : decode cL_law 301 = .ok (.if_icmp .eq 637, 3) := by decide +kernel
theorem dL_law_304 : decode cL_law 304 = .ok (.iconst 0, 1) := by decide +kernel
theorem dL_law_305 : decode cL_law 305 = .ok (.ireturn, 1) := by decide +kernel
theorem dL_law_306 : decode cL_law 306 = .ok (.aload_n 1, 1) := by decide +kernel
theorem dL_law_307 : decode cL_law 307 = .ok (.aload_n 0, 1) := by decide +kernel
theorem dL_law_308 : decode cL_law 308 = .ok (.iload_n 3, 1) := by decide +kernel
theorem dL_law_309 : decode cL_law 309 = .ok (.iconst 1, 1) := by decide +kernel
theorem dL_law_310 : decode cL_law 310 = .ok (.iadd, 1) := by decide +kernel
theorem dL_law_311 : decode cL_law 311 = .ok (.iaload, 1) := by decide +kernel
theorem dL_law_312 : decode cL_law 312 = .ok (.invokevirtual 40, 3) := by decide +kernel
theorem dL_law_315 : decode cL_law 315 = .ok (.aload_n 2, 1) := by decide +kernel
theorem dL_law_316 : decode cL_law 316 = .ok (.aload_n 0, 1) := by decide +kernel
theorem dL_law_317 : decode cL_law 317 = .ok (.iload_n 3, 1) := by decide +kernel
theorem dL_law_318 : decode cL_law 318 = .ok (.iconst 1, 1) := by decide +kernel
theorem dL_law_319 : decode cL_law 319 = .ok (.iadd, 1) := by decide +kernel
theorem dL_law_320 : decode cL_law 320 = .ok (.iaload, 1) := by decide +kernel
theorem dL_law_321 : decode cL_law 321 = .ok (.invokevirtual 43, 3) := by decide +kernel
theorem dL_law_324 : decode cL_law 324 = .ok (.if_icmp .eq 614, 3) := by decide +kernel
theorem dL_law_327 : decode cL_law 327 = .ok (.iconst 0, 1) := by decide +kernel
theorem dL_law_328 : decode cL_law 328 = .ok (.ireturn, 1) := by decide +kernel
theorem dL_law_329 : decode cL_law 329 = .ok (.aload_n 1, 1) := by decide +kernel
theorem dL_law_330 : decode cL_law 330 = .ok (.aload_n 0, 1) := by decide +kernel
theorem dL_law_331 : decode cL_law 331 = .ok (.iload_n 3, 1) := by decide +kernel
theorem dL_law_332 : decode cL_law 332 = .ok (.iconst 1, 1) := by decide +kernel
theorem dL_law_333 : decode cL_law 333 = .ok (.iadd, 1) := by decide +kernel
theorem dL_law_334 : decode cL_law 334 = .ok (.iaload, 1) := by decide +kernel
theorem dL_law_335 : decode cL_law 335 = .ok (.invokevirtual 44, 3) := by decide +kernel
theorem dL_law_338 : decode cL_law 338 = .ok (.aload_n 2, 1) := by decide +kernel
theorem dL_law_339 : decode cL_law 339 = .ok (.aload_n 0, 1) := by decide +kernel
theorem dL_law_340 : decode cL_law 340 = .ok (.iload_n 3, 1) := by decide +kernel
theorem dL_law_341 : decode cL_law 341 = .ok (.iconst 1, 1) := by decide +kernel
theorem dL_law_342 : decode cL_law 342 = .ok (.iadd, 1) := by decide +kernel
theorem dL_law_343 : decode cL_law 343 = .ok (.iaload, 1) := by decide +kernel
theorem dL_law_344 : decode cL_law 344 = .ok (.invokevirtual 47, 3) := by decide +kernel
theorem dL_law_347 : decode cL_law 347 = .ok (.if_icmp .eq 591, 3) := by decide +kernel
theorem dL_law_350 : decode cL_law 350 = .ok (.iconst 0, 1) := by decide +kernel
theorem dL_law_351 : decode cL_law 351 = .ok (.ireturn, 1) := by decide +kernel
theorem dL_law_352 : decode cL_law 352 = .ok (.aload_n 1, 1) := by decide +kernel
theorem dL_law_353 : decode cL_law 353 = .ok (.aload_n 0, 1) := by decide +kernel
theorem dL_law_354 : decode cL_law 354 = .ok (.iload_n 3, 1) := by decide +kernel
theorem dL_law_355 : decode cL_law 355 = .ok (.iconst 1, 1) := by decide +kernel
theorem dL_law_356 : decode cL_law 356 = .ok (.iadd, 1) := by decide +kernel
theorem dL_law_357 : decode cL_law 357 = .ok (.iaload, 1) := by decide +kernel
theorem dL_law_358 : decode cL_law 358 = .ok (.invokevirtual 48, 3) := by decide +kernel
theorem dL_law_361 : decode cL_law 361 = .ok (.aload_n 2, 1) := by decide +kernel
theorem dL_law_362 : decode cL_law 362 = .ok (.aload_n 0, 1) := by decide +kernel
theorem dL_law_363 : decode cL_law 363 = .ok (.iload_n 3, 1) := by decide +kernel
theorem dL_law_364 : decode cL_law 364 = .ok (.iconst 1, 1) := by decide +kernel
theorem dL_law_365 : decode cL_law 365 = .ok (.iadd, 1) := by decide +kernel
theorem dL_law_366 : decode cL_law 366 = .ok (.iaload, 1) := by decide +kernel
theorem dL_law_367 : decode cL_law 367 = .ok (.invokevirtual 51, 3) := by decide +kernel
theorem dL_law_370 : decode cL_law 370 = .ok (.if_icmp .eq 568, 3) := by decide +kernel
theorem dL_law_373 : decode cL_law 373 = .ok (.iconst 0, 1) := by decide +kernel
theorem dL_law_374 : decode cL_law 374 = .ok (.ireturn, 1) := by decide +kernel
theorem dL_law_375 : decode cL_law 375 = .ok (.aload_n 1, 1) := by decide +kernel
theorem dL_law_376 : decode cL_law 376 = .ok (.aload_n 0, 1) := by decide +kernel
theorem dL_law_377 : decode cL_law 377 = .ok (.iload_n 3, 1) := by decide +kernel
theorem dL_law_378 : decode cL_law 378 = .ok (.iconst 1, 1) := by decide +kernel
theorem dL_law_379 : decode cL_law 379 = .ok (.iadd, 1) := by decide +kernel
theorem dL_law_380 : decode cL_law 380 = .ok (.iaload, 1) := by decide +kernel
theorem dL_law_381 : decode cL_law 381 = .ok (.aload_n 0, 1) := by decide +kernel
theorem dL_law_382 : decode cL_law 382 = .ok (.iload_n 3, 1) := by decide +kernel
theorem dL_law_383 : decode cL_law 383 = .ok (.iconst 2, 1) := by decide +kernel
theorem dL_law_384 : decode cL_law 384 = .ok (.iadd, 1) := by decide +kernel
theorem dL_law_385 : decode cL_law 385 = .ok (.iaload, 1) := by decide +kernel
theorem dL_law_386 : decode cL_law 386 = .ok (.invokevirtual 52, 3) := by decide +kernel
theorem dL_law_389 : decode cL_law 389 = .ok (.aload_n 2, 1) := by decide +kernel
theorem dL_law_390 : decode cL_law 390 = .ok (.aload_n 0, 1) := by decide +kernel
theorem dL_law_391 : decode cL_law 391 = .ok (.iload_n 3, 1) := by decide +kernel
theorem dL_law_392 : decode cL_law 392 = .ok (.iconst 1, 1) := by decide +kernel
theorem dL_law_393 : decode cL_law 393 = .ok (.iadd, 1) := by decide +kernel
theorem dL_law_394 : decode cL_law 394 = .ok (.iaload, 1) := by decide +kernel
theorem dL_law_395 : decode cL_law 395 = .ok (.aload_n 0, 1) := by decide +kernel
theorem dL_law_396 : decode cL_law 396 = .ok (.iload_n 3, 1) := by decide +kernel
theorem dL_law_397 : decode cL_law 397 = .ok (.iconst 2, 1) := by decide +kernel
theorem dL_law_398 : decode cL_law 398 = .ok (.iadd, 1) := by decide +kernel
theorem dL_law_399 : decode cL_law 399 = .ok (.iaload, 1) := by decide +kernel
theorem dL_law_400 : decode cL_law 400 = .ok (.invokevirtual 55, 3) := by decide +kernel
theorem dL_law_403 : decode cL_law 403 = .ok (.if_icmp .eq 535, 3) := by decide +kernel
theorem dL_law_406 : decode cL_law 406 = .ok (.iconst 0, 1) := by decide +kernel
theorem dL_law_407 : decode cL_law 407 = .ok (.ireturn, 1) := by decide +kernel
theorem dL_law_408 : decode cL_law 408 = .ok (.aload_n 1, 1) := by decide +kernel
theorem dL_law_409 : decode cL_law 409 = .ok (.aload_n 0, 1) := by decide +kernel
theorem dL_law_410 : decode cL_law 410 = .ok (.iload_n 3, 1) := by decide +kernel
theorem dL_law_411 : decode cL_law 411 = .ok (.iconst 1, 1) := by decide +kernel
theorem dL_law_412 : decode cL_law 412 = .ok (.iadd, 1) := by decide +kernel
theorem dL_law_413 : decode cL_law 413 = .ok (.iaload, 1) := by decide +kernel
theorem dL_law_414 : decode cL_law 414 = .ok (.aload_n 0, 1) := by decide +kernel
theorem dL_law_415 : decode cL_law 415 = .ok (.iload_n 3, 1) := by decide +kernel
theorem dL_law_416 : decode cL_law 416 = .ok (.iconst 2, 1) := by decide +kernel
theorem dL_law_417 : decode cL_law 417 = .ok (.iadd, 1) := by decide +kernel
theorem dL_law_418 : decode cL_law 418 = .ok (.iaload, 1) := by decide +kernel
theorem dL_law_419 : decode cL_law 419 = .ok (.invokevirtual 56, 3) := by decide +kernel
theorem dL_law_422 : decode cL_law 422 = .ok (.aload_n 2, 1) := by decide +kernel
theorem dL_law_423 : decode cL_law 423 = .ok (.aload_n 0, 1) := by decide +kernel
theorem dL_law_424 : decode cL_law 424 = .ok (.iload_n 3, 1) := by decide +kernel
theorem dL_law_425 : decode cL_law 425 = .ok (.iconst 1, 1) := by decide +kernel
theorem dL_law_426 : decode cL_law 426 = .ok (.iadd, 1) := by decide +kernel
theorem dL_law_427 : decode cL_law 427 = .ok (.iaload, 1) := by decide +kernel
theorem dL_law_428 : decode cL_law 428 = .ok (.aload_n 0, 1) := by decide +kernel
theorem dL_law_429 : decode cL_law 429 = .ok (.iload_n 3, 1) := by decide +kernel
theorem dL_law_430 : decode cL_law 430 = .ok (.iconst 2, 1) := by decide +kernel
theorem dL_law_431 : decode cL_law 431 = .ok (.iadd, 1) := by decide +kernel
theorem dL_law_432 : decode cL_law 432 = .ok (.iaload, 1) := by decide +kernel
theorem dL_law_433 : decode cL_law 433 = .ok (.invokevirtual 59, 3) := by decide +kernel
theorem dL_law_436 : decode cL_law 436 = .ok (.if_icmp .eq 502, 3) := by decide +kernel
theorem dL_law_439 : decode cL_law 439 = .ok (.iconst 0, 1) := by decide +kernel
theorem dL_law_440 : decode cL_law 440 = .ok (.ireturn, 1) := by decide +kernel
theorem dL_law_441 : decode cL_law 441 = .ok (.aload_n 1, 1) := by decide +kernel
theorem dL_law_442 : decode cL_law 442 = .ok (.aload_n 0, 1) := by decide +kernel
theorem dL_law_443 : decode cL_law 443 = .ok (.iload_n 3, 1) := by decide +kernel
theorem dL_law_444 : decode cL_law 444 = .ok (.iconst 1, 1) := by decide +kernel
theorem dL_law_445 : decode cL_law 445 = .ok (.iadd, 1) := by decide +kernel
theorem dL_law_446 : decode cL_law 446 = .ok (.iaload, 1) := by decide +kernel
theorem dL_law_447 : decode cL_law 447 = .ok (.invokevirtual 60, 3) := by decide +kernel
theorem dL_law_450 : decode cL_law 450 = .ok (.aload_n 2, 1) := by decide +kernel
theorem dL_law_451 : decode cL_law 451 = .ok (.aload_n 0, 1) := by decide +kernel
theorem dL_law_452 : decode cL_law 452 = .ok (.iload_n 3, 1) := by decide +kernel
theorem dL_law_453 : decode cL_law 453 = .ok (.iconst 1, 1) := by decide +kernel
theorem dL_law_454 : decode cL_law 454 = .ok (.iadd, 1) := by decide +kernel
theorem dL_law_455 : decode cL_law 455 = .ok (.iaload, 1) := by decide +kernel
theorem dL_law_456 : decode cL_law 456 = .ok (.invokevirtual 63, 3) := by decide +kernel
theorem dL_law_459 : decode cL_law 459 = .ok (.if_icmp .eq 479, 3) := by decide +kernel
theorem dL_law_462 : decode cL_law 462 = .ok (.iconst 0, 1) := by decide +kernel
theorem dL_law_463 : decode cL_law 463 = .ok (.ireturn, 1) := by decide +kernel
theorem dL_law_464 : decode cL_law 464 = .ok (.aload_n 1, 1) := by decide +kernel
theorem dL_law_465 : decode cL_law 465 = .ok (.aload_n 0, 1) := by decide +kernel
theorem dL_law_466 : decode cL_law 466 = .ok (.iload_n 3, 1) := by decide +kernel
theorem dL_law_467 : decode cL_law 467 = .ok (.iconst 1, 1) := by decide +kernel
theorem dL_law_468 : decode cL_law 468 = .ok (.iadd, 1) := by decide +kernel
theorem dL_law_469 : decode cL_law 469 = .ok (.iaload, 1) := by decide +kernel
theorem dL_law_470 : decode cL_law 470 = .ok (.aload_n 0, 1) := by decide +kernel
theorem dL_law_471 : decode cL_law 471 = .ok (.iload_n 3, 1) := by decide +kernel
theorem dL_law_472 : decode cL_law 472 = .ok (.iconst 2, 1) := by decide +kernel
theorem dL_law_473 : decode cL_law 473 = .ok (.iadd, 1) := by decide +kernel
theorem dL_law_474 : decode cL_law 474 = .ok (.iaload, 1) := by decide +kernel
theorem dL_law_475 : decode cL_law 475 = .ok (.invokevirtual 64, 3) := by decide +kernel
theorem dL_law_478 : decode cL_law 478 = .ok (.aload_n 2, 1) := by decide +kernel
theorem dL_law_479 : decode cL_law 479 = .ok (.aload_n 0, 1) := by decide +kernel
theorem dL_law_480 : decode cL_law 480 = .ok (.iload_n 3, 1) := by decide +kernel
theorem dL_law_481 : decode cL_law 481 = .ok (.iconst 1, 1) := by decide +kernel
theorem dL_law_482 : decode cL_law 482 = .ok (.iadd, 1) := by decide +kernel
theorem dL_law_483 : decode cL_law 483 = .ok (.iaload, 1) := by decide +kernel
theorem dL_law_484 : decode cL_law 484 = .ok (.aload_n 0, 1) := by decide +kernel
theorem dL_law_485 : decode cL_law 485 = .ok (.iload_n 3, 1) := by decide +kernel
theorem dL_law_486 : decode cL_law 486 = .ok (.iconst 2, 1) := by decide +kernel
theorem dL_law_487 : decode cL_law 487 = .ok (.iadd, 1) := by decide +kernel
theorem dL_law_488 : decode cL_law 488 = .ok (.iaload, 1) := by decide +kernel
theorem dL_law_489 : decode cL_law 489 = .ok (.invokevirtual 67, 3) := by decide +kernel
theorem dL_law_492 : decode cL_law 492 = .ok (.if_icmp .eq 446, 3) := by decide +kernel
theorem dL_law_495 : decode cL_law 495 = .ok (.iconst 0, 1) := by decide +kernel
theorem dL_law_496 : decode cL_law 496 = .ok (.ireturn, 1) := by decide +kernel
theorem dL_law_497 : decode cL_law 497 = .ok (.aload_n 1, 1) := by decide +kernel
theorem dL_law_498 : decode cL_law 498 = .ok (.aload_n 0, 1) := by decide +kernel
theorem dL_law_499 : decode cL_law 499 = .ok (.iload_n 3, 1) := by decide +kernel
theorem dL_law_500 : decode cL_law 500 = .ok (.iconst 1, 1) := by decide +kernel
theorem dL_law_501 : decode cL_law 501 = .ok (.iadd, 1) := by decide +kernel
theorem dL_law_502 : decode cL_law 502 = .ok (.iaload, 1) := by decide +kernel
theorem dL_law_503 : decode cL_law 503 = .ok (.invokevirtual 68, 3) := by decide +kernel
theorem dL_law_506 : decode cL_law 506 = .ok (.aload_n 2, 1) := by decide +kernel
theorem dL_law_507 : decode cL_law 507 = .ok (.aload_n 0, 1) := by decide +kernel
theorem dL_law_508 : decode cL_law 508 = .ok (.iload_n 3, 1) := by decide +kernel
theorem dL_law_509 : decode cL_law 509 = .ok (.iconst 1, 1) := by decide +kernel
theorem dL_law_510 : decode cL_law 510 = .ok (.iadd, 1) := by decide +kernel
theorem dL_law_511 : decode cL_law 511 = .ok (.iaload, 1) := by decide +kernel
theorem dL_law_512 : decode cL_law 512 = .ok (.invokevirtual 71, 3) := by decide +kernel
theorem dL_law_515 : decode cL_law 515 = .ok (.if_icmp .eq 423, 3) := by decide +kernel
theorem dL_law_518 : decode cL_law 518 = .ok (.iconst 0, 1) := by decide +kernel
theorem dL_law_519 : decode cL_law 519 = .ok (.ireturn, 1) := by decide +kernel
theorem dL_law_520 : decode cL_law 520 = .ok (.aload_n 1, 1) := by decide +kernel
theorem dL_law_521 : decode cL_law 521 = .ok (.invokevirtual 72, 3) := by decide +kernel
theorem dL_law_524 : decode cL_law 524 = .ok (.aload_n 2, 1) := by decide +kernel
theorem dL_law_525 : decode cL_law 525 = .ok (.invokevirtual 75, 3) := by decide +kernel
theorem dL_law_528 : decode cL_law 528 = .ok (.if_icmp .eq 410, 3) := by decide +kernel
theorem dL_law_531 : decode cL_law 531 = .ok (.iconst 0, 1) := by decide +kernel
theorem dL_law_532 : decode cL_law 532 = .ok (.ireturn, 1) := by decide +kernel
theorem dL_law_533 : decode cL_law 533 = .ok (.aload_n 1, 1) := by decide +kernel
theorem dL_law_534 : decode cL_law 534 = .ok (.aload_n 0, 1) := by decide +kernel
theorem dL_law_535 : decode cL_law 535 = .ok (.iload_n 3, 1) := by decide +kernel
theorem dL_law_536 : decode cL_law 536 = .ok (.iconst 1, 1) := by decide +kernel
theorem dL_law_537 : decode cL_law 537 = .ok (.iadd, 1) := by decide +kernel
theorem dL_law_538 : decode cL_law 538 = .ok (.iaload, 1) := by decide +kernel
theorem dL_law_539 : decode cL_law 539 = .ok (.invokevirtual 76, 3) := by decide +kernel
theorem dL_law_542 : decode cL_law 542 = .ok (.aload_n 2, 1) := by decide +kernel
theorem dL_law_543 : decode cL_law 543 = .ok (.aload_n 0, 1) := by decide +kernel
theorem dL_law_544 : decode cL_law 544 = .ok (.iload_n 3, 1) := by decide +kernel
theorem dL_law_545 : decode cL_law 545 = .ok (.iconst 1, 1) := by decide +kernel
theorem dL_law_546 : decode cL_law 546 = .ok (.iadd, 1) := by decide +kernel
theorem dL_law_547 : decode cL_law 547 = .ok (.iaload, 1) := by decide +kernel
theorem dL_law_548 : decode cL_law 548 = .ok (.invokevirtual 79, 3) := by decide +kernel
theorem dL_law_551 : decode cL_law 551 = .ok (.if_icmp .eq 387, 3) := by decide +kernel
theorem dL_law_554 : decode cL_law 554 = .ok (.iconst 0, 1) := by decide +kernel
theorem dL_law_555 : decode cL_law 555 = .ok (.ireturn, 1) := by decide +kernel
theorem dL_law_556 : decode cL_law 556 = .ok (.aload_n 1, 1) := by decide +kernel
theorem dL_law_557 : decode cL_law 557 = .ok (.aload_n 0, 1) := by decide +kernel
theorem dL_law_558 : decode cL_law 558 = .ok (.iload_n 3, 1) := by decide +kernel
theorem dL_law_559 : decode cL_law 559 = .ok (.iconst 1, 1) := by decide +kernel
theorem dL_law_560 : decode cL_law 560 = .ok (.iadd, 1) := by decide +kernel
theorem dL_law_561 : decode cL_law 561 = .ok (.iaload, 1) := by decide +kernel
theorem dL_law_562 : decode cL_law 562 = .ok (.invokevirtual 80, 3) := by decide +kernel
theorem dL_law_565 : decode cL_law 565 = .ok (.aload_n 2, 1) := by decide +kernel
theorem dL_law_566 : decode cL_law 566 = .ok (.aload_n 0, 1) := by decide +kernel
theorem dL_law_567 : decode cL_law 567 = .ok (.iload_n 3, 1) := by decide +kernel
theorem dL_law_568 : decode cL_law 568 = .ok (.iconst 1, 1) := by decide +kernel
theorem dL_law_569 : decode cL_law 569 = .ok (.iadd, 1) := by decide +kernel
theorem dL_law_570 : decode cL_law 570 = .ok (.iaload, 1) := by decide +kernel
theorem dL_law_571 : decode cL_law 571 = .ok (.invokevirtual 83, 3) := by decide +kernel
theorem dL_law_574 : decode cL_law 574 = .ok (.if_icmp .eq 364, 3) := by decide +kernel
theorem dL_law_577 : decode cL_law 577 = .ok (.iconst 0, 1) := by decide +kernel
theorem dL_law_578 : decode cL_law 578 = .ok (.ireturn, 1) := by decide +kernel
theorem dL_law_579 : decode cL_law 579 = .ok (.aload_n 1, 1) := by decide +kernel
theorem dL_law_580 : decode cL_law 580 = .ok (.aload_n 0, 1) := by decide +kernel
theorem dL_law_581 : decode cL_law 581 = .ok (.iload_n 3, 1) := by decide +kernel
theorem dL_law_582 : decode cL_law 582 = .ok (.iconst 1, 1) := by decide +kernel
theorem dL_law_583 : decode cL_law 583 = .ok (.iadd, 1) := by decide +kernel
theorem dL_law_584 : decode cL_law 584 = .ok (.iaload, 1) := by decide +kernel
theorem dL_law_585 : decode cL_law 585 = .ok (.aload_n 0, 1) := by decide +kernel
theorem dL_law_586 : decode cL_law 586 = .ok (.iload_n 3, 1) := by decide +kernel
theorem dL_law_587 : decode cL_law 587 = .ok (.iconst 2, 1) := by decide +kernel
theorem dL_law_588 : decode cL_law 588 = .ok (.iadd, 1) := by decide +kernel
theorem dL_law_589 : decode cL_law 589 = .ok (.iaload, 1) := by decide +kernel
theorem dL_law_590 : decode cL_law 590 = .ok (.invokevirtual 84, 3) := by decide +kernel
theorem dL_law_593 : decode cL_law 593 = .ok (.aload_n 2, 1) := by decide +kernel
theorem dL_law_594 : decode cL_law 594 = .ok (.aload_n 0, 1) := by decide +kernel
theorem dL_law_595 : decode cL_law 595 = .ok (.iload_n 3, 1) := by decide +kernel
theorem dL_law_596 : decode cL_law 596 = .ok (.iconst 1, 1) := by decide +kernel
theorem dL_law_597 : decode cL_law 597 = .ok (.iadd, 1) := by decide +kernel
theorem dL_law_598 : decode cL_law 598 = .ok (.iaload, 1) := by decide +kernel
theorem dL_law_599 : decode cL_law 599 = .ok (.aload_n 0, 1) := by decide +kernel
theorem dL_law_600 : decode cL_law 600 = .ok (.iload_n 3, 1) := by decide +kernel
theorem dL_law_601 : decode cL_law 601 = .ok (.iconst 2, 1) := by decide +kernel
theorem dL_law_602 : decode cL_law 602 = .ok (.iadd, 1) := by decide +kernel
theorem dL_law_603 : decode cL_law 603 = .ok (.iaload, 1) := by decide +kernel
theorem dL_law_604 : decode cL_law 604 = .ok (.invokevirtual 87, 3) := by decide +kernel
theorem dL_law_607 : decode cL_law 607 = .ok (.if_icmp .eq 331, 3) := by decide +kernel
theorem dL_law_610 : decode cL_law 610 = .ok (.iconst 0, 1) := by decide +kernel
theorem dL_law_611 : decode cL_law 611 = .ok (.ireturn, 1) := by decide +kernel
theorem dL_law_612 : decode cL_law 612 = .ok (.aload_n 1, 1) := by decide +kernel
theorem dL_law_613 : decode cL_law 613 = .ok (.aload_n 0, 1) := by decide +kernel
theorem dL_law_614 : decode cL_law 614 = .ok (.iload_n 3, 1) := by decide +kernel
theorem dL_law_615 : decode cL_law 615 = .ok (.iconst 1, 1) := by decide +kernel
theorem dL_law_616 : decode cL_law 616 = .ok (.iadd, 1) := by decide +kernel
theorem dL_law_617 : decode cL_law 617 = .ok (.iaload, 1) := by decide +kernel
theorem dL_law_618 : decode cL_law 618 = .ok (.aload_n 0, 1) := by decide +kernel
theorem dL_law_619 : decode cL_law 619 = .ok (.iload_n 3, 1) := by decide +kernel
theorem dL_law_620 : decode cL_law 620 = .ok (.iconst 2, 1) := by decide +kernel
theorem dL_law_621 : decode cL_law 621 = .ok (.iadd, 1) := by decide +kernel
theorem dL_law_622 : decode cL_law 622 = .ok (.iaload, 1) := by decide +kernel
theorem dL_law_623 : decode cL_law 623 = .ok (.aload_n 0, 1) := by decide +kernel
theorem dL_law_624 : decode cL_law 624 = .ok (.iload_n 3, 1) := by decide +kernel
theorem dL_law_625 : decode cL_law 625 = .ok (.iconst 3, 1) := by decide +kernel
theorem dL_law_626 : decode cL_law 626 = .ok (.iadd, 1) := by decide +kernel
theorem dL_law_627 : decode cL_law 627 = .ok (.iaload, 1) := by decide +kernel
theorem dL_law_628 : decode cL_law 628 = .ok (.invokevirtual 88, 3) := by decide +kernel
theorem dL_law_631 : decode cL_law 631 = .ok (.aload_n 2, 1) := by decide +kernel
theorem dL_law_632 : decode cL_law 632 = .ok (.aload_n 0, 1) := by decide +kernel
theorem dL_law_633 : decode cL_law 633 = .ok (.iload_n 3, 1) := by decide +kernel
theorem dL_law_634 : decode cL_law 634 = .ok (.iconst 1, 1) := by decide +kernel
theorem dL_law_635 : decode cL_law 635 = .ok (.iadd, 1) := by decide +kernel
theorem dL_law_636 : decode cL_law 636 = .ok (.iaload, 1) := by decide +kernel
theorem dL_law_637 : decode cL_law 637 = .ok (.aload_n 0, 1) := by decide +kernel
theorem dL_law_638 : decode cL_law 638 = .ok (.iload_n 3, 1) := by decide +kernel
theorem dL_law_639 : decode cL_law 639 = .ok (.iconst 2, 1) := by decide +kernel
theorem dL_law_640 : decode cL_law 640 = .ok (.iadd, 1) := by decide +kernel
theorem dL_law_641 : decode cL_law 641 = .ok (.iaload, 1) := by decide +kernel
theorem dL_law_642 : decode cL_law 642 = .ok (.aload_n 0, 1) := by decide +kernel
theorem dL_law_643 : decode cL_law 643 = .ok (.iload_n 3, 1) := by decide +kernel
theorem dL_law_644 : decode cL_law 644 = .ok (.iconst 3, 1) := by decide +kernel
theorem dL_law_645 : decode cL_law 645 = .ok (.iadd, 1) := by decide +kernel
theorem dL_law_646 : decode cL_law 646 = .ok (.iaload, 1) := by decide +kernel
theorem dL_law_647 : decode cL_law 647 = .ok (.invokevirtual 92, 3) := by decide +kernel
theorem dL_law_650 : decode cL_law 650 = .ok (.if_icmp .eq 288, 3) := by decide +kernel
theorem dL_law_653 : decode cL_law 653 = .ok (.iconst 0, 1) := by decide +kernel
theorem dL_law_654 : decode cL_law 654 = .ok (.ireturn, 1) := by decide +kernel
theorem dL_law_655 : decode cL_law 655 = .ok (.aload_n 1, 1) := by decide +kernel
theorem dL_law_656 : decode cL_law 656 = .ok (.aload_n 0, 1) := by decide +kernel
theorem dL_law_657 : decode cL_law 657 = .ok (.iload_n 3, 1) := by decide +kernel
theorem dL_law_658 : decode cL_law 658 = .ok (.iconst 1, 1) := by decide +kernel
theorem dL_law_659 : decode cL_law 659 = .ok (.iadd, 1) := by decide +kernel
theorem dL_law_660 : decode cL_law 660 = .ok (.iaload, 1) := by decide +kernel
theorem dL_law_661 : decode cL_law 661 = .ok (.aload_n 0, 1) := by decide +kernel
theorem dL_law_662 : decode cL_law 662 = .ok (.iload_n 3, 1) := by decide +kernel
theorem dL_law_663 : decode cL_law 663 = .ok (.iconst 2, 1) := by decide +kernel
theorem dL_law_664 : decode cL_law 664 = .ok (.iadd, 1) := by decide +kernel
theorem dL_law_665 : decode cL_law 665 = .ok (.iaload, 1) := by decide +kernel
theorem dL_law_666 : decode cL_law 666 = .ok (.invokevirtual 93, 3) := by decide +kernel
theorem dL_law_669 : decode cL_law 669 = .ok (.aload_n 2, 1) := by decide +kernel
theorem dL_law_670 : decode cL_law 670 = .ok (.aload_n 0, 1) := by decide +kernel
theorem dL_law_671 : decode cL_law 671 = .ok (.iload_n 3, 1) := by decide +kernel
theorem dL_law_672 : decode cL_law 672 = .ok (.iconst 1, 1) := by decide +kernel
theorem dL_law_673 : decode cL_law 673 = .ok (.iadd, 1) := by decide +kernel
theorem dL_law_674 : decode cL_law 674 = .ok (.iaload, 1) := by decide +kernel
theorem dL_law_675 : decode cL_law 675 = .ok (.aload_n 0, 1) := by decide +kernel
theorem dL_law_676 : decode cL_law 676 = .ok (.iload_n 3, 1) := by decide +kernel
theorem dL_law_677 : decode cL_law 677 = .ok (.iconst 2, 1) := by decide +kernel
theorem dL_law_678 : decode cL_law 678 = .ok (.iadd, 1) := by decide +kernel
theorem dL_law_679 : decode cL_law 679 = .ok (.iaload, 1) := by decide +kernel
theorem dL_law_680 : decode cL_law 680 = .ok (.invokevirtual 96, 3) := by decide +kernel
theorem dL_law_683 : decode cL_law 683 = .ok (.if_icmp .eq 255, 3) := by decide +kernel
theorem dL_law_686 : decode cL_law 686 = .ok (.iconst 0, 1) := by decide +kernel
theorem dL_law_687 : decode cL_law 687 = .ok (.ireturn, 1) := by decide +kernel
theorem dL_law_688 : decode cL_law 688 = .ok (.aload_n 1, 1) := by decide +kernel
theorem dL_law_689 : decode cL_law 689 = .ok (.aload_n 0, 1) := by decide +kernel
theorem dL_law_690 : decode cL_law 690 = .ok (.iload_n 3, 1) := by decide +kernel
theorem dL_law_691 : decode cL_law 691 = .ok (.iconst 1, 1) := by decide +kernel
theorem dL_law_692 : decode cL_law 692 = .ok (.iadd, 1) := by decide +kernel
theorem dL_law_693 : decode cL_law 693 = .ok (.iaload, 1) := by decide +kernel
theorem dL_law_694 : decode cL_law 694 = .ok (.aload_n 0, 1) := by decide +kernel
theorem dL_law_695 : decode cL_law 695 = .ok (.iload_n 3, 1) := by decide +kernel
theorem dL_law_696 : decode cL_law 696 = .ok (.iconst 2, 1) := by decide +kernel
theorem dL_law_697 : decode cL_law 697 = .ok (.iadd, 1) := by decide +kernel
theorem dL_law_698 : decode cL_law 698 = .ok (.iaload, 1) := by decide +kernel
theorem dL_law_699 : decode cL_law 699 = .ok (.invokevirtual 97, 3) := by decide +kernel
theorem dL_law_702 : decode cL_law 702 = .ok (.aload_n 2, 1) := by decide +kernel
theorem dL_law_703 : decode cL_law 703 = .ok (.aload_n 0, 1) := by decide +kernel
theorem dL_law_704 : decode cL_law 704 = .ok (.iload_n 3, 1) := by decide +kernel
theorem dL_law_705 : decode cL_law 705 = .ok (.iconst 1, 1) := by decide +kernel
theorem dL_law_706 : decode cL_law 706 = .ok (.iadd, 1) := by decide +kernel
theorem dL_law_707 : decode cL_law 707 = .ok (.iaload, 1) := by decide +kernel
theorem dL_law_708 : decode cL_law 708 = .ok (.aload_n 0, 1) := by decide +kernel
theorem dL_law_709 : decode cL_law 709 = .ok (.iload_n 3, 1) := by decide +kernel
theorem dL_law_710 : decode cL_law 710 = .ok (.iconst 2, 1) := by decide +kernel
theorem dL_law_711 : decode cL_law 711 = .ok (.iadd, 1) := by decide +kernel
theorem dL_law_712 : decode cL_law 712 = .ok (.iaload, 1) := by decide +kernel
theorem dL_law_713 : decode cL_law 713 = .ok (.invokevirtual 100, 3) := by decide +kernel
theorem dL_law_716 : decode cL_law 716 = .ok (.if_icmp .eq 222, 3) := by decide +kernel
theorem dL_law_719 : decode cL_law 719 = .ok (.iconst 0, 1) := by decide +kernel
theorem dL_law_720 : decode cL_law 720 = .ok (.ireturn, 1) := by decide +kernel
theorem dL_law_721 : decode cL_law 721 = .ok (.aload_n 1, 1) := by decide +kernel
theorem dL_law_722 : decode cL_law 722 = .ok (.aload_n 0, 1) := by decide +kernel
theorem dL_law_723 : decode cL_law 723 = .ok (.iload_n 3, 1) := by decide +kernel
theorem dL_law_724 : decode cL_law 724 = .ok (.iconst 1, 1) := by decide +kernel
theorem dL_law_725 : decode cL_law 725 = .ok (.iadd, 1) := by decide +kernel
theorem dL_law_726 : decode cL_law 726 = .ok (.iaload, 1) := by decide +kernel
theorem dL_law_727 : decode cL_law 727 = .ok (.invokevirtual 101, 3) := by decide +kernel
theorem dL_law_730 : decode cL_law 730 = .ok (.aload_n 2, 1) := by decide +kernel
theorem dL_law_731 : decode cL_law 731 = .ok (.aload_n 0, 1) := by decide +kernel
theorem dL_law_732 : decode cL_law 732 = .ok (.iload_n 3, 1) := by decide +kernel
theorem dL_law_733 : decode cL_law 733 = .ok (.iconst 1, 1) := by decide +kernel
theorem dL_law_734 : decode cL_law 734 = .ok (.iadd, 1) := by decide +kernel
theorem dL_law_735 : decode cL_law 735 = .ok (.iaload, 1) := by decide +kernel
theorem dL_law_736 : decode cL_law 736 = .ok (.invokevirtual 104, 3) := by decide +kernel
theorem dL_law_739 : decode cL_law 739 = .ok (.if_icmp .eq 199, 3) := by decide +kernel
theorem dL_law_742 : decode cL_law 742 = .ok (.iconst 0, 1) := by decide +kernel
theorem dL_law_743 : decode cL_law 743 = .ok (.ireturn, 1) := by decide +kernel
theorem dL_law_744 : decode cL_law 744 = .ok (.aload_n 1, 1) := by decide +kernel
theorem dL_law_745 : decode cL_law 745 = .ok (.aload_n 0, 1) := by decide +kernel
theorem dL_law_746 : decode cL_law 746 = .ok (.iload_n 3, 1) := by decide +kernel
theorem dL_law_747 : decode cL_law 747 = .ok (.iconst 1, 1) := by decide +kernel
theorem dL_law_748 : decode cL_law 748 = .ok (.iadd, 1) := by decide +kernel
theorem dL_law_749 : decode cL_law 749 = .ok (.iaload, 1) := by decide +kernel
theorem dL_law_750 : decode cL_law 750 = .ok (.aload_n 0, 1) := by decide +kernel
theorem dL_law_751 : decode cL_law 751 = .ok (.iload_n 3, 1) := by decide +kernel
theorem dL_law_752 : decode cL_law 752 = .ok (.iconst 2, 1) := by decide +kernel
theorem dL_law_753 : decode cL_law 753 = .ok (.iadd, 1) := by decide +kernel
theorem dL_law_754 : decode cL_law 754 = .ok (.iaload, 1) := by decide +kernel
theorem dL_law_755 : decode cL_law 755 = .ok (.invokevirtual 105, 3) := by decide +kernel
theorem dL_law_758 : decode cL_law 758 = .ok (.aload_n 2, 1) := by decide +kernel
theorem dL_law_759 : decode cL_law 759 = .ok (.aload_n 0, 1) := by decide +kernel
theorem dL_law_760 : decode cL_law 760 = .ok (.iload_n 3, 1) := by decide +kernel
theorem dL_law_761 : decode cL_law 761 = .ok (.iconst 1, 1) := by decide +kernel
theorem dL_law_762 : decode cL_law 762 = .ok (.iadd, 1) := by decide +kernel
theorem dL_law_763 : decode cL_law 763 = .ok (.iaload, 1) := by decide +kernel
theorem dL_law_764 : decode cL_law 764 = .ok (.aload_n 0, 1) := by decide +kernel
theorem dL_law_765 : decode cL_law 765 = .ok (.iload_n 3, 1) := by decide +kernel
theorem dL_law_766 : decode cL_law 766 = .ok (.iconst 2, 1) := by decide +kernel
theorem dL_law_767 : decode cL_law 767 = .ok (.iadd, 1) := by decide +kernel
theorem dL_law_768 : decode cL_law 768 = .ok (.iaload, 1) := by decide +kernel
theorem dL_law_769 : decode cL_law 769 = .ok (.invokevirtual 108, 3) := by decide +kernel
theorem dL_law_772 : decode cL_law 772 = .ok (.if_icmp .eq 166, 3) := by decide +kernel
theorem dL_law_775 : decode cL_law 775 = .ok (.iconst 0, 1) := by decide +kernel
theorem dL_law_776 : decode cL_law 776 = .ok (.ireturn, 1) := by decide +kernel
theorem dL_law_777 : decode cL_law 777 = .ok (.aload_n 1, 1) := by decide +kernel
theorem dL_law_778 : decode cL_law 778 = .ok (.aload_n 0, 1) := by decide +kernel
theorem dL_law_779 : decode cL_law 779 = .ok (.iload_n 3, 1) := by decide +kernel
theorem dL_law_780 : decode cL_law 780 = .ok (.iconst 1, 1) := by decide +kernel
theorem dL_law_781 : decode cL_law 781 = .ok (.iadd, 1) := by decide +kernel
theorem dL_law_782 : decode cL_law 782 = .ok (.iaload, 1) := by decide +kernel
theorem dL_law_783 : decode cL_law 783 = .ok (.aload_n 0, 1) := by decide +kernel
theorem dL_law_784 : decode cL_law 784 = .ok (.iload_n 3, 1) := by decide +kernel
theorem dL_law_785 : decode cL_law 785 = .ok (.iconst 2, 1) := by decide +kernel
theorem dL_law_786 : decode cL_law 786 = .ok (.iadd, 1) := by decide +kernel
theorem dL_law_787 : decode cL_law 787 = .ok (.iaload, 1) := by decide +kernel
theorem dL_law_788 : decode cL_law 788 = .ok (.invokevirtual 109, 3) := by decide +kernel
theorem dL_law_791 : decode cL_law 791 = .ok (.aload_n 2, 1) := by decide +kernel
theorem dL_law_792 : decode cL_law 792 = .ok (.aload_n 0, 1) := by decide +kernel
theorem dL_law_793 : decode cL_law 793 = .ok (.iload_n 3, 1) := by decide +kernel
theorem dL_law_794 : decode cL_law 794 = .ok (.iconst 1, 1) := by decide +kernel
theorem dL_law_795 : decode cL_law 795 = .ok (.iadd, 1) := by decide +kernel
theorem dL_law_796 : decode cL_law 796 = .ok (.iaload, 1) := by decide +kernel
theorem dL_law_797 : decode cL_law 797 = .ok (.aload_n 0, 1) := by decide +kernel
theorem dL_law_798 : decode cL_law 798 = .ok (.iload_n 3, 1) := by decide +kernel
theorem dL_law_799 : decode cL_law 799 = .ok (.iconst 2, 1) := by decide +kernel
theorem dL_law_800 : decode cL_law 800 = .ok (.iadd, 1) := by decide +kernel
theorem dL_law_801 : decode cL_law 801 = .ok (.iaload, 1) := by decide +kernel
theorem dL_law_802 : decode cL_law 802 = .ok (.invokevirtual 112, 3) := by decide +kernel
theorem dL_law_805 : decode cL_law 805 = .ok (.if_icmp .eq 133, 3) := by decide +kernel
theorem dL_law_808 : decode cL_law 808 = .ok (.iconst 0, 1) := by decide +kernel
theorem dL_law_809 : decode cL_law 809 = .ok (.ireturn, 1) := by decide +kernel
theorem dL_law_810 : decode cL_law 810 = .ok (.aload_n 1, 1) := by decide +kernel
theorem dL_law_811 : decode cL_law 811 = .ok (.aload_n 0, 1) := by decide +kernel
theorem dL_law_812 : decode cL_law 812 = .ok (.iload_n 3, 1) := by decide +kernel
theorem dL_law_813 : decode cL_law 813 = .ok (.iconst 1, 1) := by decide +kernel
theorem dL_law_814 : decode cL_law 814 = .ok (.iadd, 1) := by decide +kernel
theorem dL_law_815 : decode cL_law 815 = .ok (.iaload, 1) := by decide +kernel
theorem dL_law_816 : decode cL_law 816 = .ok (.aload_n 0, 1) := by decide +kernel
theorem dL_law_817 : decode cL_law 817 = .ok (.iload_n 3, 1) := by decide +kernel
theorem dL_law_818 : decode cL_law 818 = .ok (.iconst 2, 1) := by decide +kernel
theorem dL_law_819 : decode cL_law 819 = .ok (.iadd, 1) := by decide +kernel
theorem dL_law_820 : decode cL_law 820 = .ok (.iaload, 1) := by decide +kernel
theorem dL_law_821 : decode cL_law 821 = .ok (.invokevirtual 113, 3) := by decide +kernel
theorem dL_law_824 : decode cL_law 824 = .ok (.aload_n 2, 1) := by decide +kernel
theorem dL_law_825 : decode cL_law 825 = .ok (.aload_n 0, 1) := by decide +kernel
theorem dL_law_826 : decode cL_law 826 = .ok (.iload_n 3, 1) := by decide +kernel
theorem dL_law_827 : decode cL_law 827 = .ok (.iconst 1, 1) := by decide +kernel
theorem dL_law_828 : decode cL_law 828 = .ok (.iadd, 1) := by decide +kernel
theorem dL_law_829 : decode cL_law 829 = .ok (.iaload, 1) := by decide +kernel
theorem dL_law_830 : decode cL_law 830 = .ok (.aload_n 0, 1) := by decide +kernel
theorem dL_law_831 : decode cL_law 831 = .ok (.iload_n 3, 1) := by decide +kernel
theorem dL_law_832 : decode cL_law 832 = .ok (.iconst 2, 1) := by decide +kernel
theorem dL_law_833 : decode cL_law 833 = .ok (.iadd, 1) := by decide +kernel
theorem dL_law_834 : decode cL_law 834 = .ok (.iaload, 1) := by decide +kernel
theorem dL_law_835 : decode cL_law 835 = .ok (.invokevirtual 116, 3) := by decide +kernel
theorem dL_law_838 : decode cL_law 838 = .ok (.if_icmp .eq 100, 3) := by decide +kernel
theorem dL_law_841 : decode cL_law 841 = .ok (.iconst 0, 1) := by decide +kernel
theorem dL_law_842 : decode cL_law 842 = .ok (.ireturn, 1) := by decide +kernel
theorem dL_law_843 : decode cL_law 843 = .ok (.aload_n 1, 1) := by decide +kernel
theorem dL_law_844 : decode cL_law 844 = .ok (.invokevirtual 117, 3) := by decide +kernel
theorem dL_law_847 : decode cL_law 847 = .ok (.aload_n 2, 1) := by decide +kernel
theorem dL_law_848 : decode cL_law 848 = .ok (.invokevirtual 120, 3) := by decide +kernel
theorem dL_law_851 : decode cL_law 851 = .ok (.if_icmp .eq 87, 3) := by decide +kernel
theorem dL_law_854 : decode cL_law 854 = .ok (.iconst 0, 1) := by decide +kernel
theorem dL_law_855 : decode cL_law 855 = .ok (.ireturn, 1) := by decide +kernel
theorem dL_law_856 : decode cL_law 856 = .ok (.aload_n 1, 1) := by decide +kernel
theorem dL_law_857 : decode cL_law 857 = .ok (.invokevirtual 121, 3) := by decide +kernel
theorem dL_law_860 : decode cL_law 860 = .ok (.aload_n 2, 1) := by decide +kernel
theorem dL_law_861 : decode cL_law 861 = .ok (.invokevirtual 124, 3) := by decide +kernel
theorem dL_law_864 : decode cL_law 864 = .ok (.if_icmp .eq 74, 3) := by decide +kernel
theorem dL_law_867 : decode cL_law 867 = .ok (.iconst 0, 1) := by decide +kernel
theorem dL_law_868 : decode cL_law 868 = .ok (.ireturn, 1) := by decide +kernel
theorem dL_law_869 : decode cL_law 869 = .ok (.aload_n 1, 1) := by decide +kernel
theorem dL_law_870 : decode cL_law 870 = .ok (.aload_n 0, 1) := by decide +kernel
theorem dL_law_871 : decode cL_law 871 = .ok (.iload_n 3, 1) := by decide +kernel
theorem dL_law_872 : decode cL_law 872 = .ok (.iconst 1, 1) := by decide +kernel
theorem dL_law_873 : decode cL_law 873 = .ok (.iadd, 1) := by decide +kernel
theorem dL_law_874 : decode cL_law 874 = .ok (.iaload, 1) := by decide +kernel
theorem dL_law_875 : decode cL_law 875 = .ok (.invokevirtual 125, 3) := by decide +kernel
theorem dL_law_878 : decode cL_law 878 = .ok (.aload_n 2, 1) := by decide +kernel
theorem dL_law_879 : decode cL_law 879 = .ok (.aload_n 0, 1) := by decide +kernel
theorem dL_law_880 : decode cL_law 880 = .ok (.iload_n 3, 1) := by decide +kernel
theorem dL_law_881 : decode cL_law 881 = .ok (.iconst 1, 1) := by decide +kernel
theorem dL_law_882 : decode cL_law 882 = .ok (.iadd, 1) := by decide +kernel
theorem dL_law_883 : decode cL_law 883 = .ok (.iaload, 1) := by decide +kernel
theorem dL_law_884 : decode cL_law 884 = .ok (.invokevirtual 128, 3) := by decide +kernel
theorem dL_law_887 : decode cL_law 887 = .ok (.if_icmp .eq 51, 3) := by decide +kernel
theorem dL_law_890 : decode cL_law 890 = .ok (.iconst 0, 1) := by decide +kernel
theorem dL_law_891 : decode cL_law 891 = .ok (.ireturn, 1) := by decide +kernel
theorem dL_law_892 : decode cL_law 892 = .ok (.aload_n 1, 1) := by decide +kernel
theorem dL_law_893 : decode cL_law 893 = .ok (.aload_n 0, 1) := by decide +kernel
theorem dL_law_894 : decode cL_law 894 = .ok (.iload_n 3, 1) := by decide +kernel
theorem dL_law_895 : decode cL_law 895 = .ok (.iconst 1, 1) := by decide +kernel
theorem dL_law_896 : decode cL_law 896 = .ok (.iadd, 1) := by decide +kernel
theorem dL_law_897 : decode cL_law 897 = .ok (.iaload, 1) := by decide +kernel
theorem dL_law_898 : decode cL_law 898 = .ok (.invokevirtual 129, 3) := by decide +kernel
theorem dL_law_901 : decode cL_law 901 = .ok (.aload_n 2, 1) := by decide +kernel
theorem dL_law_902 : decode cL_law 902 = .ok (.aload_n 0, 1) := by decide +kernel
theorem dL_law_903 : decode cL_law 903 = .ok (.iload_n 3, 1) := by decide +kernel
theorem dL_law_904 : decode cL_law 904 = .ok (.iconst 1, 1) := by decide +kernel
theorem dL_law_905 : decode cL_law 905 = .ok (.iadd, 1) := by decide +kernel
theorem dL_law_906 : decode cL_law 906 = .ok (.iaload, 1) := by decide +kernel
theorem dL_law_907 : decode cL_law 907 = .ok (.invokevirtual 132, 3) := by decide +kernel
theorem dL_law_910 : decode cL_law 910 = .ok (.if_icmp .eq 28, 3) := by decide +kernel
theorem dL_law_913 : decode cL_law 913 = .ok (.iconst 0, 1) := by decide +kernel
theorem dL_law_914 : decode cL_law 914 = .ok (.ireturn, 1) := by decide +kernel
theorem dL_law_915 : decode cL_law 915 = .ok (.aload_n 1, 1) := by decide +kernel
theorem dL_law_916 : decode cL_law 916 = .ok (.aload_n 0, 1) := by decide +kernel
theorem dL_law_917 : decode cL_law 917 = .ok (.iload_n 3, 1) := by decide +kernel
theorem dL_law_918 : decode cL_law 918 = .ok (.iconst 1, 1) := by decide +kernel
theorem dL_law_919 : decode cL_law 919 = .ok (.iadd, 1) := by decide +kernel
theorem dL_law_920 : decode cL_law 920 = .ok (.iaload, 1) := by decide +kernel
theorem dL_law_921 : decode cL_law 921 = .ok (.invokevirtual 133, 3) := by decide +kernel
theorem dL_law_924 : decode cL_law 924 = .ok (.aload_n 2, 1) := by decide +kernel
theorem dL_law_925 : decode cL_law 925 = .ok (.aload_n 0, 1) := by decide +kernel
theorem dL_law_926 : decode cL_law 926 = .ok (.iload_n 3, 1) := by decide +kernel
theorem dL_law_927 : decode cL_law 927 = .ok (.iconst 1, 1) := by decide +kernel
theorem dL_law_928 : decode cL_law 928 = .ok (.iadd, 1) := by decide +kernel
theorem dL_law_929 : decode cL_law 929 = .ok (.iaload, 1) := by decide +kernel
theorem dL_law_930 : decode cL_law 930 = .ok (.invokevirtual 136, 3) := by decide +kernel
theorem dL_law_933 : decode cL_law 933 = .ok (.if_icmp .eq 5, 3) := by decide +kernel
theorem dL_law_936 : decode cL_law 936 = .ok (.iconst 0, 1) := by decide +kernel
theorem dL_law_937 : decode cL_law 937 = .ok (.ireturn, 1) := by decide +kernel
theorem dL_law_938 : decode cL_law 938 = .ok (.iinc 3 4, 3) := by decide +kernel
theorem dL_law_941 : decode cL_law 941 = .ok (.goto (-923), 3) := by decide +kernel
theorem dL_law_944 : decode cL_law 944 = .ok (.iconst 1, 1) := by decide +kernel
theorem dL_law_945 : decode cL_law 945 = .ok (.ireturn, 1) := by decide +kernel
end
section
/-! the words of all methods: the tables' good words -/
def W0 : List Cond := lw_tbl.filter goodWord
theorem tw_of {w : Cond} (h : w ∈ lw_tbl) (hg : goodWord w = true) : w ∈ W0 := List.mem_filter.mpr ⟨h, hg⟩
theorem tq_0 {w : Cond} (i : Nat) (h : (k2_sels lw_privs)[i]? = some w) : w ∈ lw_tbl := List.mem_append_left _ (List.mem_of_getElem? h)
theorem tq_1 {w : Cond} (i : Nat) (h : tables_1_1[i]? = some w) : w ∈ lw_tbl := List.mem_append_right _ (List.mem_append_left _ (List.mem_of_getElem? h))
theorem tq_2 {w : Cond} (i : Nat) (h : tables_1_2[i]? = some w) : w ∈ lw_tbl := List.mem_append_right _ (List.mem_append_right _ (List.mem_append_left _ (List.mem_of_getElem? h)))
theorem tq_3 {w : Cond} (i : Nat) (h : tables_1_3[i]? = some w) : w ∈ lw_tbl := List.mem_append_right _ (List.mem_append_right _ (List.mem_append_right _ (List.mem_append_left _ (List.mem_of_getElem? h))))
theorem tq_4 {w : Cond} (i : Nat) (h : tables_1_4[i]? = some w) : w ∈ lw_tbl := List.mem_append_right _ (List.mem_append_right _ (List.mem_append_right _ (List.mem_append_right _ (List.mem_append_left _ (List.mem_of_getElem? h)))))
theorem tq_5 {w : Cond} (i : Nat) (h : tables_1_5[i]? = some w) : w ∈ lw_tbl := List.mem_append_right _ (List.mem_append_right _ (List.mem_append_right _ (List.mem_append_right _ (List.mem_append_right _ (List.mem_append_left _ (List.mem_of_getElem? h))))))
theorem tq_6 {w : Cond} (i : Nat) (h : tables_1_6[i]? = some w) : w ∈ lw_tbl := List.mem_append_right _ (List.mem_append_right _ (List.mem_append_right _ (List.mem_append_right _ (List.mem_append_right _ (List.mem_append_right _ (List.mem_of_getElem? h))))))
theorem tw_0 {w : Cond} (i : Nat) (h : (k2_sels lw_privs)[i]? = some w) (hg : goodWord w = true) : w ∈ W0 := tw_of (tq_0 i h) hg
theorem tw_1 {w : Cond} (i : Nat) (h : tables_1_1[i]? = some w) (hg : goodWord w = true) : w ∈ W0 := tw_of (tq_1 i h) hg
theorem tw_2 {w : Cond} (i : Nat) (h : tables_1_2[i]? = some w) (hg : goodWord w = true) : w ∈ W0 := tw_of (tq_2 i h) hg
theorem tw_3 {w : Cond} (i : Nat) (h : tables_1_3[i]? = some w) (hg : goodWord w = true) : w ∈ W0 := tw_of (tq_3 i h) hg
theorem tw_4 {w : Cond} (i : Nat) (h : tables_1_4[i]? = some w) (hg : goodWord w = true) : w ∈ W0 := tw_of (tq_4 i h) hg
theorem tw_5 {w : Cond} (i : Nat) (h : tables_1_5[i]? = some w) (hg : goodWord w = true) : w ∈ W0 := tw_of (tq_5 i h) hg
theorem tw_6 {w : Cond} (i : Nat) (h : tables_1_6[i]? = some w) (hg : goodWord w = true) : w ∈ W0 := tw_of (tq_6 i h) hg
theorem w0_good : ∀ w ∈ W0, (w.onTables && w.keeps) = true ∨ ∃ ty, w = .arrayClass ty := fun _ h => good_of_word (List.mem_filter.mp h).2
theorem w0_in : ∀ w ∈ W0, w ∈ lw_tbl := fun _ h => (List.mem_filter.mp h).1
theorem lay_in {C : String} {T : u_T} {N : Nat} (h : ∀ k, k < N → u_lay C T k ∈ W0) : ∀ w ∈ u_ws C T N, w ∈ W0 := by
  intro w hw
  obtain ⟨k, hk, rfl⟩ := List.mem_map.mp hw
  exact h k (List.mem_range.mp hk)
/-! the words of nest mates -/
def nestW : List Cond := [(Jvm.Cond.methodLinkNest "SongSquares" (9 : Nat) ({ cls := "SongSquares$Register", name := "<init>", desc := "()V" } : Jvm.MethodName) "SongSquares"), (Jvm.Cond.fieldLinkNest "SongSquares$Hall" (41 : Nat) "SongSquares$Register" "rate" "I" "SongSquares"), (Jvm.Cond.fieldLinkNest "SongSquares$Reader" (66 : Nat) "SongSquares$Register" "rate" "I" "SongSquares"), (Jvm.Cond.fieldLinkNest "SongSquares$Grouping" (41 : Nat) "SongSquares$Register" "places" "I" "SongSquares"), (Jvm.Cond.fieldLinkNest "SongSquares$Reader" (69 : Nat) "SongSquares$Register" "places" "I" "SongSquares"), (Jvm.Cond.fieldLinkNest "SongSquares" (126 : Nat) "SongSquares$Register" "places" "I" "SongSquares"), (Jvm.Cond.fieldLinkNest "SongSquares$Hall" (82 : Nat) "SongSquares$Register" "places" "I" "SongSquares"), (Jvm.Cond.fieldLinkNest "SongSquares$Sharing" (28 : Nat) "SongSquares$Register" "words" "I" "SongSquares"), (Jvm.Cond.fieldLinkNest "SongSquares$Reader" (72 : Nat) "SongSquares$Register" "words" "I" "SongSquares"), (Jvm.Cond.fieldLinkNest "SongSquares" (129 : Nat) "SongSquares$Register" "words" "I" "SongSquares"), (Jvm.Cond.fieldLinkNest "SongSquares$Grouping" (32 : Nat) "SongSquares$Register" "singers" "I" "SongSquares"), (Jvm.Cond.fieldLinkNest "SongSquares$Sharing" (33 : Nat) "SongSquares$Register" "singers" "I" "SongSquares"), (Jvm.Cond.fieldLinkNest "SongSquares" (117 : Nat) "SongSquares$Register" "singers" "I" "SongSquares"), (Jvm.Cond.fieldLinkNest "SongSquares$Choirs" (38 : Nat) "SongSquares$Register" "singers" "I" "SongSquares"), (Jvm.Cond.fieldLinkNest "SongSquares$Reader" (52 : Nat) "SongSquares$Register" "singers" "I" "SongSquares"), (Jvm.Cond.fieldLinkNest "SongSquares$Hall" (63 : Nat) "SongSquares$Register" "singers" "I" "SongSquares"), (Jvm.Cond.fieldLinkNest "SongSquares$Reader" (55 : Nat) "SongSquares$Register" "inspectors" "I" "SongSquares"), (Jvm.Cond.fieldLinkNest "SongSquares" (132 : Nat) "SongSquares$Register" "inspectors" "I" "SongSquares"), (Jvm.Cond.fieldLinkNest "SongSquares$Hall" (79 : Nat) "SongSquares$Register" "inspectors" "I" "SongSquares"), (Jvm.Cond.fieldLinkNest "SongSquares" (177 : Nat) "SongSquares$Register" "kind" "[I" "SongSquares"), (Jvm.Cond.fieldLinkNest "SongSquares$Hall" (88 : Nat) "SongSquares$Register" "kind" "[I" "SongSquares"), (Jvm.Cond.fieldLinkNest "SongSquares$Hall" (44 : Nat) "SongSquares$Register" "home" "[I" "SongSquares"), (Jvm.Cond.fieldLinkNest "SongSquares$Hall" (47 : Nat) "SongSquares$Register" "means" "[I" "SongSquares"), (Jvm.Cond.fieldLinkNest "SongSquares$Sharing" (40 : Nat) "SongSquares$Register" "known" "[I" "SongSquares"), (Jvm.Cond.fieldLinkNest "SongSquares" (187 : Nat) "SongSquares$Register" "known" "[I" "SongSquares"), (Jvm.Cond.fieldLinkNest "SongSquares$Hall" (50 : Nat) "SongSquares$Register" "firstPost" "[I" "SongSquares"), (Jvm.Cond.fieldLinkNest "SongSquares$Ledger" (31 : Nat) "SongSquares$Hall" "register" "LSongSquares$Register;" "SongSquares"), (Jvm.Cond.fieldLinkNest "SongSquares$Grouping" (60 : Nat) "SongSquares$Hall" "rate" "I" "SongSquares"), (Jvm.Cond.fieldLinkNest "SongSquares" (123 : Nat) "SongSquares$Hall" "rate" "I" "SongSquares"), (Jvm.Cond.fieldLinkNest "SongSquares" (135 : Nat) "SongSquares$Hall" "verses" "I" "SongSquares"), (Jvm.Cond.fieldLinkNest "SongSquares" (142 : Nat) "SongSquares$Hall" "treasury" "I" "SongSquares"), (Jvm.Cond.fieldLinkNest "SongSquares" (145 : Nat) "SongSquares$Hall" "caught" "I" "SongSquares"), (Jvm.Cond.fieldLinkNest "SongSquares" (181 : Nat) "SongSquares$Hall" "at" "[I" "SongSquares"), (Jvm.Cond.fieldLinkNest "SongSquares$Ledger" (43 : Nat) "SongSquares$Hall" "purse" "[I" "SongSquares"), (Jvm.Cond.fieldLinkNest "SongSquares" (184 : Nat) "SongSquares$Hall" "purse" "[I" "SongSquares"), (Jvm.Cond.fieldLinkNest "SongSquares" (190 : Nat) "SongSquares$Hall" "turn" "[I" "SongSquares"), (Jvm.Cond.fieldLinkNest "SongSquares" (247 : Nat) "SongSquares$Hall" "post" "[I" "SongSquares"), (Jvm.Cond.fieldLinkNest "SongSquares" (324 : Nat) "SongSquares$Image" "hall" "LSongSquares$Hall;" "SongSquares"), (Jvm.Cond.fieldLinkNest "SongSquares" (327 : Nat) "SongSquares$Image" "grain" "I" "SongSquares"), (Jvm.Cond.fieldLinkNest "SongSquares" (113 : Nat) "SongSquares$Image" "kept" "Z" "SongSquares"), (Jvm.Cond.methodLinkNest "SongSquares" (19 : Nat) ({ cls := "SongSquares$Reader", name := "<init>", desc := "()V" } : Jvm.MethodName) "SongSquares"), (Jvm.Cond.fieldLinkNest "SongSquares" (92 : Nat) "SongSquares$Reader" "length" "I" "SongSquares"), (Jvm.Cond.fieldLinkNest "SongSquares" (120 : Nat) "SongSquares$Reader" "flawAt" "I" "SongSquares"), (Jvm.Cond.fieldLinkNest "SongSquares" (170 : Nat) "SongSquares$Past" "count" "I" "SongSquares"), (Jvm.Cond.methodLinkNest "SongSquares" (54 : Nat) ({ cls := "SongSquares$Ledger", name := "<init>", desc := "()V" } : Jvm.MethodName) "SongSquares"), (Jvm.Cond.fieldLinkNest "SongSquares" (160 : Nat) "SongSquares$Ledger" "payments" "I" "SongSquares"), (Jvm.Cond.fieldLinkNest "SongSquares" (167 : Nat) "SongSquares$Ledger" "entries" "I" "SongSquares"), (Jvm.Cond.methodLinkNest "SongSquares" (61 : Nat) ({ cls := "SongSquares$Choirs", name := "<init>", desc := "()V" } : Jvm.MethodName) "SongSquares"), (Jvm.Cond.fieldLinkNest "SongSquares" (332 : Nat) "SongSquares$Choirs" "count" "I" "SongSquares"), (Jvm.Cond.fieldLinkNest "SongSquares" (333 : Nat) "SongSquares$Choirs" "common" "I" "SongSquares"), (Jvm.Cond.fieldLinkNest "SongSquares" (289 : Nat) "SongSquares$Sharing" "row" "[I" "SongSquares"), (Jvm.Cond.fieldLinkNest "SongSquares" (286 : Nat) "SongSquares$Sharing" "changes" "I" "SongSquares"), (Jvm.Cond.fieldLinkNest "SongSquares" (299 : Nat) "SongSquares$Grouping" "placed" "[I" "SongSquares"), (Jvm.Cond.fieldLinkNest "SongSquares" (296 : Nat) "SongSquares$Grouping" "least" "I" "SongSquares"), (Jvm.Cond.methodLinkNest "SongSquares" (82 : Nat) ({ cls := "SongSquares$Draws", name := "<init>", desc := "()V" } : Jvm.MethodName) "SongSquares"), (Jvm.Cond.fieldLinkNest "SongSquares" (321 : Nat) "SongSquares$Draws" "grain" "I" "SongSquares"), (Jvm.Cond.methodLinkNest "SongSquares$Register" (53 : Nat) ({ cls := "SongSquares", name := "isIn", desc := "(II)Z" } : Jvm.MethodName) "SongSquares"), (Jvm.Cond.methodLinkNest "SongSquares$Hall" (107 : Nat) ({ cls := "SongSquares", name := "isIn", desc := "(II)Z" } : Jvm.MethodName) "SongSquares"), (Jvm.Cond.methodLinkNest "SongSquares$Sharing" (36 : Nat) ({ cls := "SongSquares", name := "isIn", desc := "(II)Z" } : Jvm.MethodName) "SongSquares"), (Jvm.Cond.methodLinkNest "SongSquares$Grouping" (37 : Nat) ({ cls := "SongSquares", name := "isIn", desc := "(II)Z" } : Jvm.MethodName) "SongSquares")]
def isN : Cond → Bool
  | .fieldLinkNest .. => true
  | .methodLinkNest .. => true
  | _ => false
def NW (U : State) : Prop := ∀ w ∈ nestW, va_Nw w U
theorem nest_all : ∀ w ∈ nestW, isN w = true := by decide
theorem NW_warm {s U : State} (hW : s.WarmedH U.vm) (h : NW s) : NW U := by
  intro w hw
  have h1 := nest_all w hw
  have h2 := h w hw
  cases w <;> first | exact va_Nw.warmF hW h2 | exact va_Nw.warmM hW h2 | cases h1
theorem NW_same {s U : State} (hv : s.vm = U.vm) (h : NW s) : NW U := by
  intro w hw
  have h1 := nest_all w hw
  have h2 := h w hw
  cases w <;> first | exact va_Nw.same rfl hv h2 | cases h1
/-! the world: what every cell holds, by its number and place -/
abbrev St : Type := Nat → Nat → Int32
abbrev Cx : Type := va_G × (Nat → Nat) × (Nat → ClassId)
def upR (t : St) (o : Nat) (r : Nat → Int32) : St := fun a => if a = o then r else t a
def up (t : St) (o k : Nat) (x : Int32) : St := upR t o (upd (t o) k x)
def rA (X : Cx) (n : Nat) (f : Nat → Nat) (k : Nat) : va_E := .inl (X.2.2 k, n, .inr (.inr (.inr (.inr (fun i => some (X.2.1 (f i)))))))
def iA (X : Cx) (n : Nat) (r : Nat → Int32) : va_E := .inl (X.2.2 0, n, .inl r)
def zA (X : Cx) (n : Nat) (r : Nat → Int32) : va_E := .inl (X.2.2 1, n, .inl r)
abbrev NC : Nat := 166
/-- the hall of an image -/
abbrev imgH (o : Nat) : Nat := 134 + 5 * (o - 18)
def cE2 (X : Cx) (o : Nat) (r : Nat → Int32) : va_E :=
  if o = 0 then .inr (10, [.ref (X.2.1 1), .ref (X.2.1 9), .ref (X.2.1 3), .ref (X.2.1 44), .ref (X.2.1 49), .ref (X.2.1 15), .ref (X.2.1 17), .ref (X.2.1 20), .ref (X.2.1 25), .ref (X.2.1 27), .ref (X.2.1 39), .ref (X.2.1 43)])
  else if o = 1 then .inr (7, [.ref (X.2.1 2), .int (r 1), .int (r 2), .int (r 3), .int (r 4)])
  else if o = 2 then iA X 240 r
  else if o = 3 then .inr (8, [.int (r 0), .int (r 1), .int (r 2), .int (r 3), .int (r 4), .ref (X.2.1 4), .ref (X.2.1 5), .ref (X.2.1 6), .ref (X.2.1 7), .ref (X.2.1 8)])
  else if o = 4 then iA X 7 r
  else if o = 5 then iA X 7 r
  else if o = 6 then iA X 7 r
  else if o = 7 then iA X 7 r
  else if o = 8 then iA X 4 r
  else if o = 9 then .inr (8, [.int (r 0), .int (r 1), .int (r 2), .int (r 3), .int (r 4), .ref (X.2.1 10), .ref (X.2.1 11), .ref (X.2.1 12), .ref (X.2.1 13), .ref (X.2.1 14)])
  else if o = 10 then iA X 7 r
  else if o = 11 then iA X 7 r
  else if o = 12 then iA X 7 r
  else if o = 13 then iA X 7 r
  else if o = 14 then iA X 4 r
  else if o = 15 then .inr (6, [.ref (X.2.1 16), .int (r 1), .int (r 2)])
  else if o = 16 then rA X 16 (fun i => 54 + 5 * i) 2
  else if o = 17 then rA X 2 (fun i => 18 + i) 3
  else if o = 18 then .inr (4, [.ref (X.2.1 (imgH 18)), .int (r 1), .int (r 2)])
  else if o = 19 then .inr (4, [.ref (X.2.1 (imgH 19)), .int (r 1), .int (r 2)])
  else if o = 20 then .inr (5, [.ref (X.2.1 21), .ref (X.2.1 22), .ref (X.2.1 23), .ref (X.2.1 24), .int (r 4), .int (r 5)])
  else if o = 21 then iA X 6 r
  else if o = 22 then iA X 6 r
  else if o = 23 then iA X 15 r
  else if o = 24 then iA X 15 r
  else if o = 25 then .inr (0, [.int (r 0), .int (r 1), .ref (X.2.1 26)])
  else if o = 26 then iA X 7 r
  else if o = 27 then .inr (9, [.ref (X.2.1 3), .ref (X.2.1 28), .ref (X.2.1 38), .int (r 3)])
  else if o = 28 then rA X 9 (fun i => 29 + i) 4
  else if o = 29 then iA X 7 r
  else if o = 30 then iA X 7 r
  else if o = 31 then iA X 7 r
  else if o = 32 then iA X 7 r
  else if o = 33 then iA X 7 r
  else if o = 34 then iA X 7 r
  else if o = 35 then iA X 7 r
  else if o = 36 then iA X 7 r
  else if o = 37 then iA X 7 r
  else if o = 38 then iA X 9 r
  else if o = 39 then .inr (2, [.ref (X.2.1 3), .ref (X.2.1 40), .ref (X.2.1 41), .ref (X.2.1 42), .int (r 4), .int (r 5)])
  else if o = 40 then iA X 7 r
  else if o = 41 then iA X 4096 r
  else if o = 42 then iA X 7 r
  else if o = 43 then .inr (1, [.int (r 0)])
  else if o = 144 then .inr (11, [.int (r 0), .int (r 1), .int (r 2), .int (r 3), .ref (X.2.1 145), .ref (X.2.1 146), .ref (X.2.1 147), .ref (X.2.1 148), .int (r 8), .ref (X.2.1 149), .ref (X.2.1 150), .int (r 11), .ref (X.2.1 151), .int (r 13), .int (r 14), .int (r 15), .int (r 16), .int (r 17), .int (r 18), .int (r 19), .int (r 20), .int (r 21), .ref (X.2.1 152), .ref (X.2.1 153), .ref (X.2.1 154), .ref (X.2.1 155), .int (r 26), .ref (X.2.1 156), .int (r 28), .ref (X.2.1 157), .ref (X.2.1 158), .ref (X.2.1 159), .int (r 32), .ref (X.2.1 160), .ref (X.2.1 161), .int (r 35), .ref (X.2.1 162), .ref (X.2.1 163), .ref (X.2.1 164), .ref (X.2.1 165)])
  else if o = 145 then iA X 7 r
  else if o = 146 then iA X 7 r
  else if o = 147 then iA X 7 r
  else if o = 148 then iA X 7 r
  else if o = 149 then iA X 4 r
  else if o = 150 then iA X 29 r
  else if o = 151 then iA X 240 r
  else if o = 152 then iA X 7 r
  else if o = 153 then iA X 7 r
  else if o = 154 then iA X 7 r
  else if o = 155 then iA X 7 r
  else if o = 156 then iA X 4 r
  else if o = 157 then iA X 464 r
  else if o = 158 then iA X 29 r
  else if o = 159 then iA X 70 r
  else if o = 160 then iA X 6 r
  else if o = 161 then iA X 6 r
  else if o = 162 then iA X 15 r
  else if o = 163 then iA X 15 r
  else if o = 164 then iA X 60 r
  else if o = 165 then zA X 2 r
  else iA X 0 r
def cE (X : Cx) (o : Nat) (r : Nat → Int32) : va_E :=
  if 44 ≤ o ∧ o < 144 then (if (o - 44) % 5 = 0 then .inr (3, [.ref (X.2.1 3), .int (r 1), .int (r 2), .int (r 3), .int (r 4), .ref (X.2.1 (o + 1)), .ref (X.2.1 (o + 2)), .ref (X.2.1 (o + 3)), .ref (X.2.1 (o + 4))]) else if (o - 44) % 5 = 4 then iA X 4 r else iA X 7 r) else cE2 X o r
def wl (X : Cx) (t : St) : va_W := (List.range NC).map (fun o => (X.2.1 o, cE X o (t o)))
abbrev tys0 (X : Cx) : List (ClassId × FieldType) := [(X.2.2 0, .int), (X.2.2 1, .boolean), (X.2.2 2, .object RX3), (X.2.2 3, .object RX4), (X.2.2 4, .array .int)]
def AN (X : Cx) : Nat → Prop := fun q => ∃ o, o < NC ∧ q = X.2.1 o
def Inj (X : Cx) : Prop := ∀ i j, i < NC → j < NC → X.2.1 i = X.2.1 j → i = j
def PW (X : Cx) (t : St) (U : State) : Prop := va_P X.1 vwCl (wl X t) U.heap ∧ va_K X.1 vwCl (tys0 X) U ∧ NW U ∧ Inj X
def SS (X : Cx) (t : St) (H0 H : Heap) (locs : List Loc) : Prop := va_P X.1 vwCl (wl X t) H ∧ va_S (AN X) H0 H locs
theorem wl_at {X : Cx} {t : St} {o : Nat} (ho : o < NC) : (wl X t)[o]? = some (X.2.1 o, cE X o (t o)) := by
  unfold wl
  rw [List.getElem?_map, List.getElem?_range ho]
  rfl
theorem wl_of {X : Cx} {t : St} {o : Nat} {e : va_E} (ho : o < NC) (he : cE X o (t o) = e) : (wl X t)[o]? = some (X.2.1 o, e) := by rw [wl_at ho, he]
theorem wl_lt {X : Cx} {t : St} {j : Nat} {q : Nat × va_E} (h : (wl X t)[j]? = some q) : j < NC := by
  have := (List.getElem?_eq_some_iff.mp h).1
  simpa [wl] using this
theorem wl_set {X : Cx} {t : St} {o : Nat} {r : Nat → Int32} {e : va_E} (ho : o < NC) (he : cE X o r = e) : (wl X t).set o (X.2.1 o, e) = wl X (upR t o r) := by
  apply List.ext_getElem?
  intro j
  by_cases hj : j = o
  · subst hj
    rw [List.getElem?_set_self (by simpa [wl] using ho), wl_at ho]
    simp [upR, he]
  · rw [List.getElem?_set_ne (Ne.symm hj)]
    by_cases hl : j < NC
    · rw [wl_at hl, wl_at hl]
      simp [upR, hj]
    · rw [List.getElem?_eq_none (by simp [wl] at *; omega), List.getElem?_eq_none (by simp [wl] at *; omega)]
theorem D_of {X : Cx} {t : St} (hI : Inj X) : va_D (AN X) (wl X t) := by
  refine ⟨fun i j p q hi hj hpq => ?_, fun k q hk => ?_⟩
  · have h1 := wl_lt hi
    have h2 := wl_lt hj
    rw [wl_at h1] at hi
    rw [wl_at h2] at hj
    cases hi
    cases hj
    exact hI i j h1 h2 hpq
  · have h1 := wl_lt hk
    rw [wl_at h1] at hk
    cases hk
    exact ⟨k, h1, rfl⟩
/-! guards of the pure functions, and how they open -/
def gd {α : Type} (i : Int32) (n : Nat) (k : Option α) : Option α := if i < 0 ∨ n ≤ i.toNatClampNeg then none else k
def gz {α : Type} (y : Int32) (k : Option α) : Option α := if y = 0 then none else k
def gb {α : Type} (v : Int32) (k : Option α) : Option α := if v = 0 ∨ v = 1 then k else none
def bd2 {α β γ : Type} (o : Option (α × β)) (f : α → β → Option γ) : Option γ := o.bind (fun q => f q.1 q.2)
theorem gdE {α : Type} {i : Int32} {n : Nat} {k : Option α} {r : α} (h : gd i n k = some r) : vp_in i n ∧ k = some r := by
  unfold gd at h
  split at h
  · cases h
  · exact ⟨by assumption, h⟩
theorem gzE {α : Type} {y : Int32} {k : Option α} {r : α} (h : gz y k = some r) : ¬ y = 0 ∧ k = some r := by
  unfold gz at h
  split at h
  · cases h
  · exact ⟨by assumption, h⟩
theorem gbE {α : Type} {v : Int32} {k : Option α} {r : α} (h : gb v k = some r) : (v = 0 ∨ v = 1) ∧ k = some r := by
  unfold gb at h
  split at h
  · exact ⟨by assumption, h⟩
  · cases h
theorem bdE {α γ : Type} {o : Option α} {f : α → Option γ} {r : γ} (h : o.bind f = some r) : ∃ a, o = some a ∧ f a = some r := by
  cases o with
  | none => cases h
  | some a => exact ⟨a, rfl, h⟩
theorem bd2E {α β γ : Type} {o : Option (α × β)} {f : α → β → Option γ} {r : γ} (h : bd2 o f = some r) : ∃ a b, o = some (a, b) ∧ f a b = some r := by
  obtain ⟨⟨a, b⟩, h1, h2⟩ := bdE h
  exact ⟨a, b, h1, h2⟩
theorem bsE {α γ : Type} {a : α} {f : α → Option γ} {r : γ} (h : (some a).bind f = some r) : ∃ x, x = a ∧ f x = some r := ⟨a, rfl, h⟩
theorem ip {c : Prop} [d : Decidable c] {α : Type} {A B r : α} (h : c) (e : (if c then A else B) = r) : A = r := (if_pos h).symm.trans e
theorem iq {c : Prop} [d : Decidable c] {α : Type} {A B r : α} (h : ¬ c) (e : (if c then A else B) = r) : B = r := (if_neg h).symm.trans e
def fuelN : Nat := 20000
/-! the fixed facts of a walk -/
def Bx (p : Program) (s : State) (m : MethodId) (args : Array Value) (c : Code) (cc : ByteArray) (nL : Nat) (X : Cx) (own : String) : Prop :=
  p.tables.exec = Jvm.exec ∧ c.code = cc ∧ c.maxLocals = nL ∧ s.vm.findClass own = some m.cls ∧ (∀ w ∈ W0, w.before args s = true) ∧ va_K X.1 vwCl (tys0 X) s ∧ NW s ∧ Inj X
section RW
variable {p : Program} {l : Launch} {e : Env} {R : Room} {s : State} {m : MethodId} {args : Array Value} {below : List Frame} {meth : Method} {c : Code} {H : Heap} {locs : List Loc} {cells slots : Nat} {Q : State → Prop}
variable {cc : ByteArray} {pc : Nat} {ls : Array Slot} {rest : List Value} {X : Cx} {t : St} {H0 : Heap} {own : String} {nL : Nat}
theorem xg (B : Bx p s m args c cc nL X own) (hS : SS X t H0 H locs) {C ref : String} {T : u_T} {N ci index : Nat} (hin : ∀ w ∈ u_ws C T N, w ∈ W0) {o : Nat} (ho : o < NC) {fs : List Value} (he : cE X o (t o) = .inr (ci, fs)) (hc : vwCl[ci]? = some (C, T, N)) (k : Nat) (hk : k < N) (hlink : Cond.fieldLink own index ref (T k).2.1 (T k).2.2.1 ∈ W0) (href : (T k).1 = ref) {v : Value} (hv : fs[k]? = some v) (hdg : decode cc pc = .ok (.getfield index, 3))
    (kk : W p l e R s m args below meth c H locs cells slots Q (F0 m (pc + 3) ls (v :: rest))) : W p l e R s m args below meth c H locs cells slots Q (F0 m pc ls (.ref (X.2.1 o) :: rest)) := by
  obtain ⟨h1, h2, h3, h4, h5, h6, h7, h8⟩ := B
  exact va_get h1 h2 h5 hin h4 h6 hS.1 o (wl_of ho he) hc k hk (h5 _ hlink) (fun x hx => by rw [← href]; exact hx) hv hdg kk
theorem xgN (B : Bx p s m args c cc nL X own) (hS : SS X t H0 H locs) {C ref host : String} {T : u_T} {N ci index : Nat} (hin : ∀ w ∈ u_ws C T N, w ∈ W0) {o : Nat} (ho : o < NC) {fs : List Value} (he : cE X o (t o) = .inr (ci, fs)) (hc : vwCl[ci]? = some (C, T, N)) (k : Nat) (hk : k < N) (hlink : Cond.fieldLinkNest own index ref (T k).2.1 (T k).2.2.1 host ∈ nestW) (href : (T k).1 = ref) {v : Value} (hv : fs[k]? = some v) (hdg : decode cc pc = .ok (.getfield index, 3))
    (kk : W p l e R s m args below meth c H locs cells slots Q (F0 m (pc + 3) ls (v :: rest))) : W p l e R s m args below meth c H locs cells slots Q (F0 m pc ls (.ref (X.2.1 o) :: rest)) := by
  obtain ⟨h1, h2, h3, h4, h5, h6, h7, h8⟩ := B
  exact va_getN h1 h2 h5 hin h4 h6 hS.1 o (wl_of ho he) hc k hk (va_Nw.use rfl (h7 _ hlink)) (fun x hx => by rw [← href]; exact hx) hv hdg kk
theorem xp (B : Bx p s m args c cc nL X own) (hS : SS X t H0 H locs) {C ref : String} {T : u_T} {N ci index : Nat} (hin : ∀ w ∈ u_ws C T N, w ∈ W0) (ty0 : Nat → FieldType) (hty : ∀ k, k < N → parseFieldDescriptor (T k).2.2.1 = some (ty0 k)) (hnm : ∀ a, a < N → ∀ b, b < N → a ≠ b → (T a).2.1 ≠ (T b).2.1) {o : Nat} (ho : o < NC) {fs : List Value} (he : cE X o (t o) = .inr (ci, fs)) (hc : vwCl[ci]? = some (C, T, N)) (k : Nat) (hk : k < N) (hlink : Cond.fieldLink own index ref (T k).2.1 (T k).2.2.1 ∈ W0) (href : (T k).1 = ref) (hfin : (T k).2.2.2 = false) {x : Int32} {ty : FieldType} (hd : ty0 k = ty) (hn : narrow ty (.int x) = .int x) (hfit : fits ty (.int x) = true) (hl : k < fs.length) (he2 : cE X o (upd (t o) k x) = .inr (ci, fs.set k (.int x))) (hdg : decode cc pc = .ok (.putfield index, 3))
    (kk : ∀ (H1 : Heap) (locs1 : List Loc), SS X (up t o k x) H0 H1 locs1 → W p l e R s m args below meth c H1 locs1 cells slots Q (F0 m (pc + 3) ls rest)) : W p l e R s m args below meth c H locs cells slots Q (F0 m pc ls (.int x :: .ref (X.2.1 o) :: rest)) := by
  obtain ⟨h1, h2, h3, h4, h5, h6, h7, h8⟩ := B
  exact va_put h1 h2 h5 hin ty0 hty hnm h4 h6 hS.1 (D_of h8) hS.2 o (wl_of ho he) hc k hk (h5 _ hlink) (fun y hy => by rw [← href]; exact hy) hfin ((hty k hk).trans (by rw [hd])) hn hfit hl hdg (fun H1 locs1 hP _ hS1 => kk H1 locs1 ⟨by rw [wl_set ho he2] at hP; exact hP, hS1⟩)
theorem xpN (B : Bx p s m args c cc nL X own) (hS : SS X t H0 H locs) {C ref host : String} {T : u_T} {N ci index : Nat} (hin : ∀ w ∈ u_ws C T N, w ∈ W0) (ty0 : Nat → FieldType) (hty : ∀ k, k < N → parseFieldDescriptor (T k).2.2.1 = some (ty0 k)) (hnm : ∀ a, a < N → ∀ b, b < N → a ≠ b → (T a).2.1 ≠ (T b).2.1) {o : Nat} (ho : o < NC) {fs : List Value} (he : cE X o (t o) = .inr (ci, fs)) (hc : vwCl[ci]? = some (C, T, N)) (k : Nat) (hk : k < N) (hlink : Cond.fieldLinkNest own index ref (T k).2.1 (T k).2.2.1 host ∈ nestW) (href : (T k).1 = ref) (hfin : (T k).2.2.2 = false) {x : Int32} {ty : FieldType} (hd : ty0 k = ty) (hn : narrow ty (.int x) = .int x) (hfit : fits ty (.int x) = true) (hl : k < fs.length) (he2 : cE X o (upd (t o) k x) = .inr (ci, fs.set k (.int x))) (hdg : decode cc pc = .ok (.putfield index, 3))
    (kk : ∀ (H1 : Heap) (locs1 : List Loc), SS X (up t o k x) H0 H1 locs1 → W p l e R s m args below meth c H1 locs1 cells slots Q (F0 m (pc + 3) ls rest)) : W p l e R s m args below meth c H locs cells slots Q (F0 m pc ls (.int x :: .ref (X.2.1 o) :: rest)) := by
  obtain ⟨h1, h2, h3, h4, h5, h6, h7, h8⟩ := B
  exact va_putN h1 h2 h5 hin ty0 hty hnm h4 h6 hS.1 (D_of h8) hS.2 o (wl_of ho he) hc k hk (va_Nw.use rfl (h7 _ hlink)) (fun y hy => by rw [← href]; exact hy) hfin ((hty k hk).trans (by rw [hd])) hn hfit hl hdg (fun H1 locs1 hP _ hS1 => kk H1 locs1 ⟨by rw [wl_set ho he2] at hP; exact hP, hS1⟩)
/-- a cell that is an array of ints, of n -/
def isI (X : Cx) (o n : Nat) : Prop := o < NC ∧ ∀ r : Nat → Int32, cE X o r = iA X n r
theorem xa (B : Bx p s m args c cc nL X own) (hS : SS X t H0 H locs) {o n : Nat} (ha : isI X o n) {i : Int32} (hin : vp_in i n) (hdg : decode cc pc = .ok (.iaload, 1))
    (kk : W p l e R s m args below meth c H locs cells slots Q (F0 m (pc + 1) ls (.int (t o i.toNatClampNeg) :: rest))) : W p l e R s m args below meth c H locs cells slots Q (F0 m pc ls (.int i :: .ref (X.2.1 o) :: rest)) :=
  va_iald B.1 B.2.1 B.2.2.2.2.2.1 hS.1 o 0 (wl_of ha.1 (ha.2 _)) rfl hin hdg kk
theorem xs (B : Bx p s m args c cc nL X own) (hS : SS X t H0 H locs) {o n : Nat} (ha : isI X o n) {i x : Int32} (hin : vp_in i n) (hdg : decode cc pc = .ok (.iastore, 1))
    (kk : ∀ (H1 : Heap) (locs1 : List Loc), SS X (up t o i.toNatClampNeg x) H0 H1 locs1 → W p l e R s m args below meth c H1 locs1 cells slots Q (F0 m (pc + 1) ls rest)) : W p l e R s m args below meth c H locs cells slots Q (F0 m pc ls (.int x :: .int i :: .ref (X.2.1 o) :: rest)) :=
  va_iast B.1 B.2.1 B.2.2.2.2.2.1 hS.1 (D_of B.2.2.2.2.2.2.2) hS.2 o 0 (wl_of ha.1 (ha.2 _)) rfl hin hdg (fun H1 locs1 hP _ hS1 => kk H1 locs1 ⟨Eq.mp (congrArg (fun w => va_P X.1 vwCl w H1) (wl_set (t := t) (r := upd (t o) i.toNatClampNeg x) ha.1 (ha.2 _))) hP, hS1⟩)
/-- a cell that is an array of booleans, of n -/
def isZ (X : Cx) (o n : Nat) : Prop := o < NC ∧ ∀ r : Nat → Int32, cE X o r = zA X n r
theorem xaz (B : Bx p s m args c cc nL X own) (hS : SS X t H0 H locs) {o n : Nat} (ha : isZ X o n) {i : Int32} (hin : vp_in i n) (hdg : decode cc pc = .ok (.baload, 1))
    (kk : W p l e R s m args below meth c H locs cells slots Q (F0 m (pc + 1) ls (.int (t o i.toNatClampNeg) :: rest))) : W p l e R s m args below meth c H locs cells slots Q (F0 m pc ls (.int i :: .ref (X.2.1 o) :: rest)) :=
  va_zald B.1 B.2.1 B.2.2.2.2.2.1 hS.1 o 1 (wl_of ha.1 (ha.2 _)) rfl hin hdg kk
theorem xsz (B : Bx p s m args c cc nL X own) (hS : SS X t H0 H locs) {o n : Nat} (ha : isZ X o n) {i x : Int32} (hin : vp_in i n) (hx : vp_nar .boolean x = x) (hdg : decode cc pc = .ok (.bastore, 1))
    (kk : ∀ (H1 : Heap) (locs1 : List Loc), SS X (up t o i.toNatClampNeg x) H0 H1 locs1 → W p l e R s m args below meth c H1 locs1 cells slots Q (F0 m (pc + 1) ls rest)) : W p l e R s m args below meth c H locs cells slots Q (F0 m pc ls (.int x :: .int i :: .ref (X.2.1 o) :: rest)) :=
  va_zast B.1 B.2.1 B.2.2.2.2.2.1 hS.1 (D_of B.2.2.2.2.2.2.2) hS.2 o 1 (wl_of ha.1 (ha.2 _)) rfl hin hdg (fun H1 locs1 hP _ hS1 => kk H1 locs1 ⟨by rw [hx] at hP; exact Eq.mp (congrArg (fun w => va_P X.1 vwCl w H1) (wl_set (t := t) (r := upd (t o) i.toNatClampNeg x) ha.1 (ha.2 _))) hP, hS1⟩)
/-- a cell that is an array of references, of n: the i-th is the cell number f i -/
def isQ (X : Cx) (o n k : Nat) (f : Nat → Nat) : Prop := o < NC ∧ ∀ r : Nat → Int32, cE X o r = rA X n f k
theorem xq (B : Bx p s m args c cc nL X own) (hS : SS X t H0 H locs) {o n k : Nat} {f : Nat → Nat} (ha : isQ X o n k f) {C : String} (hk : (tys0 X)[k]? = some (X.2.2 k, .object C)) {i : Int32} (hin : vp_in i n) (hdg : decode cc pc = .ok (.aaload, 1))
    (kk : W p l e R s m args below meth c H locs cells slots Q (F0 m (pc + 1) ls (.ref (X.2.1 (f i.toNatClampNeg)) :: rest))) : W p l e R s m args below meth c H locs cells slots Q (F0 m pc ls (.int i :: .ref (X.2.1 o) :: rest)) :=
  va_aldq B.1 B.2.1 B.2.2.2.2.2.1 hS.1 o k (f := fun i => some (X.2.1 (f i))) (wl_of ha.1 (ha.2 _)) hk hin hdg kk
theorem xqa (B : Bx p s m args c cc nL X own) (hS : SS X t H0 H locs) {o n k : Nat} {f : Nat → Nat} (ha : isQ X o n k f) (hk : (tys0 X)[k]? = some (X.2.2 k, .array .int)) {i : Int32} (hin : vp_in i n) (hdg : decode cc pc = .ok (.aaload, 1))
    (kk : W p l e R s m args below meth c H locs cells slots Q (F0 m (pc + 1) ls (.ref (X.2.1 (f i.toNatClampNeg)) :: rest))) : W p l e R s m args below meth c H locs cells slots Q (F0 m pc ls (.int i :: .ref (X.2.1 o) :: rest)) := by
  have hlt : i.toNatClampNeg < n := Nat.not_le.mp fun q => hin (Or.inr q)
  exact W.aald (v := .ref (X.2.1 (f i.toNatClampNeg))) (ty := .array .int) B.1 B.2.1 (hS.1 o _ (wl_of ha.1 (ha.2 _))) ((B.2.2.2.2.2.1.2 k _ hk).1 n (fun j => va_rf (some (X.2.1 (f j))))) rfl (fun q => by cases q) (by show ¬ (i < 0 ∨ (arrV _ _ _).slots.size ≤ _); rw [arrV_size]; exact hin) (by show (arrV _ _ _).slots[_]? = _; rw [arrV_read _ _ hlt]; rfl) rfl rfl hdg kk
theorem xcp (B : Bx p s m args c cc nL X own) (hS : SS X t H0 H locs) (hsz : ls.size = nL) {index : Nat} (hlink : Cond.methodLink own index arraycopyName ∈ W0) (hnat : Cond.native arraycopyName ∈ W0) (hstat : Cond.static arraycopyName ∈ W0) (hini : Cond.initialized "java/lang/System" ∈ W0) {o1 n1 o2 n2 : Nat} (ha1 : isI X o1 n1) (ha2 : isI X o2 n2) {n : Int32} {N' : Nat} (hn : n.toNatClampNeg = N') (h3 : ¬ n < 0) (h4 : N' ≤ n1) (h5 : N' ≤ n2)
    (hframes : 1 ≤ R.frames) (hlocals : (rest.map fun v => v.category).sum + (nativeFrameWords "java/lang/System" "arraycopy" 5 + 11) ≤ R.locals) (hdg : decode cc pc = .ok (.invokestatic index, 3))
    (kk : ∀ (H1 : Heap) (locs1 : List Loc), SS X (upR t o2 (va_cpy (t o1) (t o2) 0 0 N')) H0 H1 locs1 → W p l e R s m args below meth c H1 locs1 cells slots Q (F0 m (pc + 3) ls rest)) : W p l e R s m args below meth c H locs cells slots Q (F0 m pc ls (.int n :: .int 0 :: .ref (X.2.1 o2) :: .int 0 :: .ref (X.2.1 o1) :: rest)) := by
  obtain ⟨b1, b2, b3, b4, b5, b6, b7, b8⟩ := B
  have z0 : (0 : Int32).toNatClampNeg = 0 := rfl
  refine va_copyi b1 b2 (b3.trans hsz.symm) b4 (b5 _ hlink) (b5 _ hnat) (b5 _ hstat) (b5 _ hini) b6 hS.1 (D_of b8) hS.2 o1 o2 0 0 (ty := .int) (wl_of ha1.1 (ha1.2 _)) (wl_of ha2.1 (ha2.2 _)) rfl rfl rfl (by decide) (by decide) h3 (by rw [z0, hn]; omega) (by rw [z0, hn]; omega) (fun i _ => rfl) hframes hlocals hdg (fun H1 locs1 hP _ hS1 => kk H1 locs1 ⟨?_, hS1⟩)
  rw [hn, z0] at hP
  exact Eq.mp (congrArg (fun w => va_P X.1 vwCl w H1) (wl_set (t := t) (r := va_cpy (t o1) (t o2) 0 0 N') ha2.1 (ha2.2 _))) hP
theorem xmin (B : Bx p s m args c cc nL X own) (hsz : ls.size = nL) {index : Nat} (hlink : Cond.methodLink own index Lib.Math.min.name ∈ W0) (hstat : Cond.static Lib.Math.min.name ∈ W0) (hini : Cond.initialized "java/lang/Math" ∈ W0) (hcode : Cond.code Lib.Math.min.name Lib.Math.min.code 2 (some .int) ∈ W0) (hframes : 1 ≤ R.frames) (hlocals : (rest.map fun v => v.category).sum + 13 ≤ R.locals) (hc : cells ≤ R.cells) (hs : slots ≤ R.slots) {x y : Int32} (hdg : decode cc pc = .ok (.invokestatic index, 3))
    (kk : W p l e R s m args below meth c H locs cells slots Q (F0 m (pc + 3) ls (.int (if y < x then y else x) :: rest))) : W p l e R s m args below meth c H locs cells slots Q (F0 m pc ls (.int y :: .int x :: rest)) := by
  obtain ⟨b1, b2, b3, b4, b5, b6, b7, b8⟩ := B
  exact va_mmin b1 b2 (b3.trans hsz.symm) b4 (b5 _ hlink) (b5 _ hstat) (b5 _ hini) (b5 _ hcode) hframes hlocals hc hs hdg kk
theorem xmax (B : Bx p s m args c cc nL X own) (hsz : ls.size = nL) {index : Nat} (hlink : Cond.methodLink own index Lib.Math.max.name ∈ W0) (hstat : Cond.static Lib.Math.max.name ∈ W0) (hini : Cond.initialized "java/lang/Math" ∈ W0) (hcode : Cond.code Lib.Math.max.name Lib.Math.max.code 2 (some .int) ∈ W0) (hframes : 1 ≤ R.frames) (hlocals : (rest.map fun v => v.category).sum + 13 ≤ R.locals) (hc : cells ≤ R.cells) (hs : slots ≤ R.slots) {x y : Int32} (hdg : decode cc pc = .ok (.invokestatic index, 3))
    (kk : W p l e R s m args below meth c H locs cells slots Q (F0 m (pc + 3) ls (.int (if x < y then y else x) :: rest))) : W p l e R s m args below meth c H locs cells slots Q (F0 m pc ls (.int y :: .int x :: rest)) := by
  obtain ⟨b1, b2, b3, b4, b5, b6, b7, b8⟩ := B
  exact va_mmax b1 b2 (b3.trans hsz.symm) b4 (b5 _ hlink) (b5 _ hstat) (b5 _ hini) (b5 _ hcode) hframes hlocals hc hs hdg kk
end RW
/-! contracts -/
def Ci (l : Launch) (X : Cx) (t : St) (y : MethodName) (cc : ByteArray) (n : Nat) (ret : FieldType) (fr lo : Nat) (vs : List Value) (r : Int32) (t' : St) : Prop :=
  Met l y (.code y cc n (some ret) :: W0) ({ frames := fr, cells := 0, slots := 0, locals := lo }) (va_Pc vs (PW X t)) (va_Qi (fun (r' : Int32) (u : St) => r' = r ∧ u = t') (fun u U => PW X u U) (AN X)) 0 0 (AN X)
def Cv (l : Launch) (X : Cx) (t : St) (y : MethodName) (cc : ByteArray) (n : Nat) (fr lo : Nat) (vs : List Value) (t' : St) : Prop :=
  Met l y (.code y cc n none :: W0) ({ frames := fr, cells := 0, slots := 0, locals := lo }) (va_Pc vs (PW X t)) (va_Qv (fun (u : St) => u = t') (fun u U => PW X u U) (AN X)) 0 0 (AN X)
theorem PW_blind {X : Cx} {t : St} {vs : List Value} : FrameBlind (va_Pc vs (PW X t)) := by
  intro a U g mk q
  obtain ⟨q0, qP, qK, qN, qI⟩ := q
  exact ⟨q0, qP, va_K.moved (u := U) (U := U.calling g mk a) (Vm.Alike.refl U.vm) qK, NW_same (s := U) (U := U.calling g mk a) rfl qN, qI⟩
theorem PW_at {p : Program} {s : State} {m : MethodId} {args : Array Value} {c : Code} {cc : ByteArray} {nL : Nat} {X : Cx} {own : String} {t : St} {H0 H : Heap} {locs : List Loc} (B : Bx p s m args c cc nL X own) (hS : SS X t H0 H locs) {U : State} (hU : U.heap = H) (hW : s.WarmedH U.vm) : PW X t U :=
  ⟨by rw [hU]; exact hS.1, va_K.moved hW.alike B.2.2.2.2.2.1, NW_warm hW B.2.2.2.2.2.2.1, B.2.2.2.2.2.2.2⟩
theorem good_call {y : MethodName} {cc : ByteArray} {n : Nat} {ret : Option FieldType} (h : Cond.code y cc n ret ∈ W0) : GoodIn W0 (.code y cc n ret :: W0) := by
  intro w hw
  rcases List.mem_cons.mp hw with rfl | h1
  · exact ⟨h, w0_good _ h⟩
  · exact ⟨h1, w0_good _ h1⟩
theorem good_V {own : String} {idx : Nat} {C : String} {y : MethodName} {cc : ByteArray} {n : Nat} {ret : Option FieldType} (h1 : Cond.methodLink own idx y ∈ W0) (h2 : Cond.instanceMethod y ∈ W0) (h3 : Cond.selects C y y ∈ W0) (h4 : Cond.initialized C ∈ W0) (h : Cond.code y cc n ret ∈ W0) : GoodIn W0 (wsV own idx C y (.code y cc n ret :: W0)) := by
  intro w hw
  rcases List.mem_append.mp hw with h5 | h5
  · have : w ∈ W0 := by
      rcases List.mem_cons.mp h5 with rfl | h5
      · exact h1
      rcases List.mem_cons.mp h5 with rfl | h5
      · exact h2
      rcases List.mem_cons.mp h5 with rfl | h5
      · exact h3
      rcases List.mem_cons.mp h5 with rfl | h5
      · exact h4
      · cases h5
    exact ⟨this, w0_good _ this⟩
  · exact good_call h w h5
theorem good_S {own : String} {idx : Nat} {y : MethodName} {cc : ByteArray} {n : Nat} {ret : Option FieldType} (h1 : Cond.methodLink own idx y ∈ W0) (h2 : Cond.static y ∈ W0) (h4 : Cond.initialized y.cls ∈ W0) (h : Cond.code y cc n ret ∈ W0) : GoodIn W0 (va_wsS own idx y (.code y cc n ret :: W0)) := by
  intro w hw
  rcases List.mem_append.mp hw with h5 | h5
  · have : w ∈ W0 := by
      rcases List.mem_cons.mp h5 with rfl | h5
      · exact h1
      rcases List.mem_cons.mp h5 with rfl | h5
      · exact h2
      rcases List.mem_cons.mp h5 with rfl | h5
      · exact h4
      · cases h5
    exact ⟨this, w0_good _ this⟩
  · exact good_call h w h5
section CW
variable {p : Program} {l : Launch} {e : Env} {R : Room} {s : State} {m : MethodId} {args : Array Value} {below : List Frame} {meth : Method} {c : Code} {H : Heap} {locs : List Loc} {cells slots : Nat} {Q : State → Prop}
variable {cc : ByteArray} {pc : Nat} {ls : Array Slot} {rest st0 : List Value} {X : Cx} {t t' : St} {H0 : Heap} {own : String} {nL : Nat} {y : MethodName} {bytes : ByteArray} {maxL fr lo index n : Nat} {ret : FieldType} {As : List Value} {r : Int32} {o : Nat}
/-- what a call has of its method: decided once -/
def MD (y : MethodName) (n : Nat) : Prop := y.cls ≠ "java/lang/invoke/MethodHandle" ∧ y.cls ≠ "java/lang/invoke/VarHandle" ∧ (parseMethodDescriptor y.desc).map (fun d => d.parameters.length) = some n
theorem xVi (B : Bx p s m args c cc nL X own) (hS : SS X t H0 H locs) (hM : Ci l X t y bytes maxL ret fr lo (.ref (X.2.1 o) :: As) r t') (h1 : Cond.methodLink own index y ∈ W0) (h2 : Cond.instanceMethod y ∈ W0) (h3 : Cond.selects y.cls y y ∈ W0) (h4 : Cond.initialized y.cls ∈ W0) (h5 : Cond.code y bytes maxL (some ret) ∈ W0) (hd : MD y n)
    {ci : Nat} {fs : List Value} {q : vw_C} (ho : o < NC) (he : cE X o (t o) = .inr (ci, fs)) (hc : vwCl[ci]? = some q) (hq : q.1 = y.cls)
    (hn : As.length = n) (hsz : ls.size = nL) (hst : st0 = As.reverse ++ .ref (X.2.1 o) :: rest) (hW : (rest.map fun v => v.category).sum ≤ 8) (hR : fr + 1 ≤ R.frames ∧ 8 + (maxL + 11) + lo ≤ R.locals) (hR2 : cells ≤ R.cells ∧ slots ≤ R.slots) (hdg : decode cc pc = .ok (.invokevirtual index, 3))
    (kk : ∀ (H1 : Heap) (locs1 : List Loc), SS X t' H0 H1 locs1 → W p l e R s m args below meth c H1 locs1 cells slots Q (F0 m (pc + 3) ls (.int r :: rest))) : W p l e R s m args below meth c H locs cells slots Q (F0 m pc ls st0) := by
  refine va_calli (va_runV (C := y.cls) (As := As) (rest := rest) (b := X.2.1 o) (n := n) ⟨B.1, B.2.1, B.2.2.1, B.2.2.2.1, B.2.2.2.2.1⟩ hM (cwV n B.2.2.2.2.1 (good_V h1 h2 h3 h4 h5) rfl rfl rfl ⟨rfl, hd⟩ hR) ⟨PW_blind, by rw [← hq]; exact va_recv B.2.2.2.2.2.1 hS.1 hc (wl_of ho he), fun U hU hWm => ⟨rfl, PW_at B hS hU hWm⟩⟩ rfl hn hsz hst (lv_room hW) hdg hR2) hS.2 (fun _ _ h => h) (fun _ h => h) (fun r1 u t1 H1 locs1 ht hvm hw hB hz1 hk1 hS1 => ?_)
  obtain ⟨rfl, rfl⟩ := hw
  exact kk H1 locs1 ⟨by rw [← ht]; exact hB.1, hS1⟩
theorem xVv (B : Bx p s m args c cc nL X own) (hS : SS X t H0 H locs) (hM : Cv l X t y bytes maxL fr lo (.ref (X.2.1 o) :: As) t') (h1 : Cond.methodLink own index y ∈ W0) (h2 : Cond.instanceMethod y ∈ W0) (h3 : Cond.selects y.cls y y ∈ W0) (h4 : Cond.initialized y.cls ∈ W0) (h5 : Cond.code y bytes maxL none ∈ W0) (hd : MD y n)
    {ci : Nat} {fs : List Value} {q : vw_C} (ho : o < NC) (he : cE X o (t o) = .inr (ci, fs)) (hc : vwCl[ci]? = some q) (hq : q.1 = y.cls)
    (hn : As.length = n) (hsz : ls.size = nL) (hst : st0 = As.reverse ++ .ref (X.2.1 o) :: rest) (hW : (rest.map fun v => v.category).sum ≤ 8) (hR : fr + 1 ≤ R.frames ∧ 8 + (maxL + 11) + lo ≤ R.locals) (hR2 : cells ≤ R.cells ∧ slots ≤ R.slots) (hdg : decode cc pc = .ok (.invokevirtual index, 3))
    (kk : ∀ (H1 : Heap) (locs1 : List Loc), SS X t' H0 H1 locs1 → W p l e R s m args below meth c H1 locs1 cells slots Q (F0 m (pc + 3) ls rest)) : W p l e R s m args below meth c H locs cells slots Q (F0 m pc ls st0) := by
  refine va_callv (va_runV (C := y.cls) (As := As) (rest := rest) (b := X.2.1 o) (n := n) ⟨B.1, B.2.1, B.2.2.1, B.2.2.2.1, B.2.2.2.2.1⟩ hM (cwV n B.2.2.2.2.1 (good_V h1 h2 h3 h4 h5) rfl rfl rfl ⟨rfl, hd⟩ hR) ⟨PW_blind, by rw [← hq]; exact va_recv B.2.2.2.2.2.1 hS.1 hc (wl_of ho he), fun U hU hWm => ⟨rfl, PW_at B hS hU hWm⟩⟩ rfl hn hsz hst (lv_room hW) hdg hR2) hS.2 (fun _ _ h => h) (fun _ h => h) (fun u t1 H1 locs1 ht hvm hw hB hz1 hk1 hS1 => ?_)
  obtain rfl := hw
  exact kk H1 locs1 ⟨by rw [← ht]; exact hB.1, hS1⟩
theorem xSi (B : Bx p s m args c cc nL X own) (hS : SS X t H0 H locs) (hM : Ci l X t y bytes maxL ret fr lo As r t') (h1 : Cond.methodLink own index y ∈ W0) (h2 : Cond.static y ∈ W0) (h4 : Cond.initialized y.cls ∈ W0) (h5 : Cond.code y bytes maxL (some ret) ∈ W0) (hd : MD y n)
    (hn : As.length = n) (hsz : ls.size = nL) (hst : st0 = As.reverse ++ rest) (hW : (rest.map fun v => v.category).sum ≤ 8) (hR : fr + 1 ≤ R.frames ∧ 8 + (maxL + 11) + lo ≤ R.locals) (hR2 : cells ≤ R.cells ∧ slots ≤ R.slots) (hdg : decode cc pc = .ok (.invokestatic index, 3))
    (kk : ∀ (H1 : Heap) (locs1 : List Loc), SS X t' H0 H1 locs1 → W p l e R s m args below meth c H1 locs1 cells slots Q (F0 m (pc + 3) ls (.int r :: rest))) : W p l e R s m args below meth c H locs cells slots Q (F0 m pc ls st0) := by
  refine va_calli (va_runS (As := As) (rest := rest) (n := n) ⟨B.1, B.2.1, B.2.2.1, B.2.2.2.1, B.2.2.2.2.1⟩ hM (va_cwS n B.2.2.2.2.1 (good_S h1 h2 h4 h5) rfl rfl rfl hd hR) ⟨PW_blind, fun U hU hWm => ⟨rfl, PW_at B hS hU hWm⟩⟩ rfl hn hsz hst (lv_room hW) hdg hR2) hS.2 (fun _ _ h => h) (fun _ h => h) (fun r1 u t1 H1 locs1 ht hvm hw hB hz1 hk1 hS1 => ?_)
  obtain ⟨rfl, rfl⟩ := hw
  exact kk H1 locs1 ⟨by rw [← ht]; exact hB.1, hS1⟩
theorem xSv (B : Bx p s m args c cc nL X own) (hS : SS X t H0 H locs) (hM : Cv l X t y bytes maxL fr lo As t') (h1 : Cond.methodLink own index y ∈ W0) (h2 : Cond.static y ∈ W0) (h4 : Cond.initialized y.cls ∈ W0) (h5 : Cond.code y bytes maxL none ∈ W0) (hd : MD y n)
    (hn : As.length = n) (hsz : ls.size = nL) (hst : st0 = As.reverse ++ rest) (hW : (rest.map fun v => v.category).sum ≤ 8) (hR : fr + 1 ≤ R.frames ∧ 8 + (maxL + 11) + lo ≤ R.locals) (hR2 : cells ≤ R.cells ∧ slots ≤ R.slots) (hdg : decode cc pc = .ok (.invokestatic index, 3))
    (kk : ∀ (H1 : Heap) (locs1 : List Loc), SS X t' H0 H1 locs1 → W p l e R s m args below meth c H1 locs1 cells slots Q (F0 m (pc + 3) ls rest)) : W p l e R s m args below meth c H locs cells slots Q (F0 m pc ls st0) := by
  refine va_callv (va_runS (As := As) (rest := rest) (n := n) ⟨B.1, B.2.1, B.2.2.1, B.2.2.2.1, B.2.2.2.2.1⟩ hM (va_cwS n B.2.2.2.2.1 (good_S h1 h2 h4 h5) rfl rfl rfl hd hR) ⟨PW_blind, fun U hU hWm => ⟨rfl, PW_at B hS hU hWm⟩⟩ rfl hn hsz hst (lv_room hW) hdg hR2) hS.2 (fun _ _ h => h) (fun _ h => h) (fun u t1 H1 locs1 ht hvm hw hB hz1 hk1 hS1 => ?_)
  obtain rfl := hw
  exact kk H1 locs1 ⟨by rw [← ht]; exact hB.1, hS1⟩
theorem xSNi (B : Bx p s m args c cc nL X own) (hS : SS X t H0 H locs) (hM : Ci l X t y bytes maxL ret fr lo As r t') {host : String} (h1 : Cond.methodLinkNest own index y host ∈ nestW) (h2 : Cond.static y ∈ W0) (h4 : Cond.initialized y.cls ∈ W0) (h5 : Cond.code y bytes maxL (some ret) ∈ W0) (hd : MD y n)
    (hn : As.length = n) (hsz : ls.size = nL) (hst : st0 = As.reverse ++ rest) (hW : (rest.map fun v => v.category).sum ≤ 8) (hR : fr + 1 ≤ R.frames ∧ 8 + (maxL + 11) + lo ≤ R.locals) (hR2 : cells ≤ R.cells ∧ slots ≤ R.slots) (hdg : decode cc pc = .ok (.invokestatic index, 3))
    (kk : ∀ (H1 : Heap) (locs1 : List Loc), SS X t' H0 H1 locs1 → W p l e R s m args below meth c H1 locs1 cells slots Q (F0 m (pc + 3) ls (.int r :: rest))) : W p l e R s m args below meth c H locs cells slots Q (F0 m pc ls st0) := by
  refine va_calli (va_runSN (As := As) (rest := rest) (n := n) ⟨B.1, B.2.1, B.2.2.1, B.2.2.2.1, B.2.2.2.2.1⟩ hM ⟨va_cnB n B.2.2.2.2.1 (good_call h5) rfl rfl rfl (B.2.2.2.2.2.2.1 _ h1) (B.2.2.2.2.1 _ h4) hd hR, B.2.2.2.2.1 _ h2, trivial⟩ ⟨PW_blind, fun U hU hWm => ⟨rfl, PW_at B hS hU hWm⟩⟩ rfl hn hsz hst (lv_room hW) hdg hR2) hS.2 (fun _ _ h => h) (fun _ h => h) (fun r1 u t1 H1 locs1 ht hvm hw hB hz1 hk1 hS1 => ?_)
  obtain ⟨rfl, rfl⟩ := hw
  exact kk H1 locs1 ⟨by rw [← ht]; exact hB.1, hS1⟩
theorem Ci_of {vs : List Value} (hy : plainName y.cls = true) (hent : (lg_sl vs).length ≤ maxL)
    (body : ∀ (p : Program) (e : Env) (s : State) (m : MethodId) (args : Array Value) (below : List Frame) (meth : Method) (c : Code) (Q : State → Prop) (_ : Bx p s m args c bytes maxL X y.cls)
      (_ : ∀ (v : Int32) (u : St) (pc : Nat) (ls : Array Slot) (H : Heap) (locs : List Loc), some (v, u) = some (r, t') → narrow ret (.int v) = .int v → SS X u s.heap H locs → decode bytes pc = .ok (.ireturn, 1) → W p l e ({ frames := fr, cells := 0, slots := 0, locals := lo }) s m args below meth c H locs 0 0 Q (F0 m pc ls [.int v]))
      (_ : SS X t s.heap s.heap []) (ls : Array Slot) (_ : lv_has ls maxL (lv_args 0 vs)), W p l e ({ frames := fr, cells := 0, slots := 0, locals := lo }) s m args below meth c s.heap [] 0 0 Q (F0 m 0 ls [])) : Ci l X t y bytes maxL ret fr lo vs r t' := by
  refine Met.ofW (cc := bytes) (maxL := maxL) (ret := some ret) hy rfl ?_
  intro p e s m args below meth c s₁ B hml hv
  obtain ⟨rfl, hP, hK, hN, hI⟩ := hv
  have hts := atoms_spec (ws := .code y bytes maxL (some ret) :: W0) B.pre
  have hown : s.vm.findClass y.cls = some m.cls := findClass_of_methodNamed B.named
  have hlocks := B.notSynchronized
  have hl := lv_entry vs (n := maxL) hent
  rw [lg_entry_eq]
  refine body p e s m _ below meth c _ ⟨B.exec, B.bytes, hml, hown, fun w h => hts w (List.mem_cons_of_mem _ h), hK, hN, hI⟩ ?_ ⟨hP, va_S.rf⟩ _ hl
  intro v u pc ls H locs hr hnar hS hdg
  cases hr
  exact W.zret (v := r) B.exec B.bytes B.returns hnar (fun tt ht hW => ⟨⟨r, t', rfl, ⟨rfl, rfl⟩, by rw [ht]; exact hS.1, va_K.moved hW.alike hK, NW_warm hW hN, hI⟩, hS.2.F ht⟩) hS.2.2.2 hdg
theorem Cv_of {vs : List Value} (hy : plainName y.cls = true) (hent : (lg_sl vs).length ≤ maxL)
    (body : ∀ (p : Program) (e : Env) (s : State) (m : MethodId) (args : Array Value) (below : List Frame) (meth : Method) (c : Code) (Q : State → Prop) (_ : Bx p s m args c bytes maxL X y.cls)
      (_ : ∀ (u : St) (pc : Nat) (ls : Array Slot) (H : Heap) (locs : List Loc), some u = some t' → SS X u s.heap H locs → decode bytes pc = .ok (.return_, 1) → W p l e ({ frames := fr, cells := 0, slots := 0, locals := lo }) s m args below meth c H locs 0 0 Q (F0 m pc ls []))
      (_ : SS X t s.heap s.heap []) (ls : Array Slot) (_ : lv_has ls maxL (lv_args 0 vs)), W p l e ({ frames := fr, cells := 0, slots := 0, locals := lo }) s m args below meth c s.heap [] 0 0 Q (F0 m 0 ls [])) : Cv l X t y bytes maxL fr lo vs t' := by
  refine Met.ofW (cc := bytes) (maxL := maxL) (ret := none) hy rfl ?_
  intro p e s m args below meth c s₁ B hml hv
  obtain ⟨rfl, hP, hK, hN, hI⟩ := hv
  have hts := atoms_spec (ws := .code y bytes maxL none :: W0) B.pre
  have hown : s.vm.findClass y.cls = some m.cls := findClass_of_methodNamed B.named
  have hlocks := B.notSynchronized
  have hl := lv_entry vs (n := maxL) hent
  rw [lg_entry_eq]
  refine body p e s m _ below meth c _ ⟨B.exec, B.bytes, hml, hown, fun w h => hts w (List.mem_cons_of_mem _ h), hK, hN, hI⟩ ?_ ⟨hP, va_S.rf⟩ _ hl
  intro u pc ls H locs hr hS hdg
  cases hr
  exact W.vret B.exec B.bytes B.returns (fun tt ht hW => ⟨⟨t', rfl, rfl, by rw [ht]; exact hS.1, va_K.moved hW.alike hK, NW_warm hW hN, hI⟩, hS.2.F ht⟩) hS.2.2.2 hdg
end CW
end
section
/-! the cells by their numbers -/
def isHall (h : Nat) : Prop := 44 ≤ h ∧ h < 144 ∧ (h - 44) % 5 = 0
def isReg (g : Nat) : Prop := g = 3 ∨ g = 9
def isImg (g : Nat) : Prop := g = 18 ∨ g = 19
theorem hall_lt {h : Nat} (hh : isHall h) : h < NC := Nat.lt_trans hh.2.1 (by decide)
theorem ceX3 {X : Cx} {h : Nat} (hh : isHall h) (r : Nat → Int32) : cE X h r = .inr (3, [.ref (X.2.1 3), .int (r 1), .int (r 2), .int (r 3), .int (r 4), .ref (X.2.1 (h + 1)), .ref (X.2.1 (h + 2)), .ref (X.2.1 (h + 3)), .ref (X.2.1 (h + 4))]) := by
  unfold cE
  rw [if_pos ⟨hh.1, hh.2.1⟩, if_pos hh.2.2]
theorem iaX3_1 {X : Cx} {h : Nat} (hh : isHall h) : isI X (h + 1) 7 := by
  obtain ⟨h1, h2, h3⟩ := hh
  refine ⟨by show h + 1 < 166; omega, fun r => ?_⟩
  unfold cE
  rw [if_pos ⟨by omega, by omega⟩, if_neg (by omega)]
  rw [if_neg (by omega)]
theorem iaX3_2 {X : Cx} {h : Nat} (hh : isHall h) : isI X (h + 2) 7 := by
  obtain ⟨h1, h2, h3⟩ := hh
  refine ⟨by show h + 2 < 166; omega, fun r => ?_⟩
  unfold cE
  rw [if_pos ⟨by omega, by omega⟩, if_neg (by omega)]
  rw [if_neg (by omega)]
theorem iaX3_3 {X : Cx} {h : Nat} (hh : isHall h) : isI X (h + 3) 7 := by
  obtain ⟨h1, h2, h3⟩ := hh
  refine ⟨by show h + 3 < 166; omega, fun r => ?_⟩
  unfold cE
  rw [if_pos ⟨by omega, by omega⟩, if_neg (by omega)]
  rw [if_neg (by omega)]
theorem iaX3_4 {X : Cx} {h : Nat} (hh : isHall h) : isI X (h + 4) 4 := by
  obtain ⟨h1, h2, h3⟩ := hh
  refine ⟨by show h + 4 < 166; omega, fun r => ?_⟩
  unfold cE
  rw [if_pos ⟨by omega, by omega⟩, if_neg (by omega)]
  rw [if_pos (by omega)]
theorem reg_lt {h : Nat} (hh : isReg h) : h < NC := by
  rcases hh with rfl | rfl <;> decide
theorem ceX8 {X : Cx} {h : Nat} (hh : isReg h) (r : Nat → Int32) : cE X h r = .inr (8, [.int (r 0), .int (r 1), .int (r 2), .int (r 3), .int (r 4), .ref (X.2.1 (h + 1)), .ref (X.2.1 (h + 2)), .ref (X.2.1 (h + 3)), .ref (X.2.1 (h + 4)), .ref (X.2.1 (h + 5))]) := by
  rcases hh with rfl | rfl <;> rfl
theorem iaX8_1 {X : Cx} {h : Nat} (hh : isReg h) : isI X (h + 1) 7 := by
  rcases hh with rfl | rfl <;> exact ⟨by decide, fun r => rfl⟩
theorem iaX8_2 {X : Cx} {h : Nat} (hh : isReg h) : isI X (h + 2) 7 := by
  rcases hh with rfl | rfl <;> exact ⟨by decide, fun r => rfl⟩
theorem iaX8_3 {X : Cx} {h : Nat} (hh : isReg h) : isI X (h + 3) 7 := by
  rcases hh with rfl | rfl <;> exact ⟨by decide, fun r => rfl⟩
theorem iaX8_4 {X : Cx} {h : Nat} (hh : isReg h) : isI X (h + 4) 7 := by
  rcases hh with rfl | rfl <;> exact ⟨by decide, fun r => rfl⟩
theorem iaX8_5 {X : Cx} {h : Nat} (hh : isReg h) : isI X (h + 5) 4 := by
  rcases hh with rfl | rfl <;> exact ⟨by decide, fun r => rfl⟩
theorem img_lt {h : Nat} (hh : isImg h) : h < NC := by
  rcases hh with rfl | rfl <;> decide
theorem ceX4 {X : Cx} {h : Nat} (hh : isImg h) (r : Nat → Int32) : cE X h r = .inr (4, [.ref (X.2.1 (imgH h)), .int (r 1), .int (r 2)]) := by
  rcases hh with rfl | rfl <;> rfl
theorem img_hall {h : Nat} (hh : isImg h) : isHall (imgH h) := by
  rcases hh with rfl | rfl <;> exact ⟨by decide, by decide, by decide⟩
theorem ceX10 {X : Cx} (r : Nat → Int32) : cE X 0 r = .inr (10, [.ref (X.2.1 1), .ref (X.2.1 9), .ref (X.2.1 3), .ref (X.2.1 44), .ref (X.2.1 49), .ref (X.2.1 15), .ref (X.2.1 17), .ref (X.2.1 20), .ref (X.2.1 25), .ref (X.2.1 27), .ref (X.2.1 39), .ref (X.2.1 43)]) := rfl
theorem ceX7 {X : Cx} (r : Nat → Int32) : cE X 1 r = .inr (7, [.ref (X.2.1 2), .int (r 1), .int (r 2), .int (r 3), .int (r 4)]) := rfl
theorem ceX6 {X : Cx} (r : Nat → Int32) : cE X 15 r = .inr (6, [.ref (X.2.1 16), .int (r 1), .int (r 2)]) := rfl
theorem ceX5 {X : Cx} (r : Nat → Int32) : cE X 20 r = .inr (5, [.ref (X.2.1 21), .ref (X.2.1 22), .ref (X.2.1 23), .ref (X.2.1 24), .int (r 4), .int (r 5)]) := rfl
theorem ceX0 {X : Cx} (r : Nat → Int32) : cE X 25 r = .inr (0, [.int (r 0), .int (r 1), .ref (X.2.1 26)]) := rfl
theorem ceX9 {X : Cx} (r : Nat → Int32) : cE X 27 r = .inr (9, [.ref (X.2.1 3), .ref (X.2.1 28), .ref (X.2.1 38), .int (r 3)]) := rfl
theorem ceX2 {X : Cx} (r : Nat → Int32) : cE X 39 r = .inr (2, [.ref (X.2.1 3), .ref (X.2.1 40), .ref (X.2.1 41), .ref (X.2.1 42), .int (r 4), .int (r 5)]) := rfl
theorem ceX1 {X : Cx} (r : Nat → Int32) : cE X 43 r = .inr (1, [.int (r 0)]) := rfl
theorem ceX11 {X : Cx} (r : Nat → Int32) : cE X 144 r = .inr (11, [.int (r 0), .int (r 1), .int (r 2), .int (r 3), .ref (X.2.1 145), .ref (X.2.1 146), .ref (X.2.1 147), .ref (X.2.1 148), .int (r 8), .ref (X.2.1 149), .ref (X.2.1 150), .int (r 11), .ref (X.2.1 151), .int (r 13), .int (r 14), .int (r 15), .int (r 16), .int (r 17), .int (r 18), .int (r 19), .int (r 20), .int (r 21), .ref (X.2.1 152), .ref (X.2.1 153), .ref (X.2.1 154), .ref (X.2.1 155), .int (r 26), .ref (X.2.1 156), .int (r 28), .ref (X.2.1 157), .ref (X.2.1 158), .ref (X.2.1 159), .int (r 32), .ref (X.2.1 160), .ref (X.2.1 161), .int (r 35), .ref (X.2.1 162), .ref (X.2.1 163), .ref (X.2.1 164), .ref (X.2.1 165)]) := rfl
theorem ia_2 {X : Cx} : isI X 2 240 := ⟨by decide, fun r => rfl⟩
theorem ia_4 {X : Cx} : isI X 4 7 := ⟨by decide, fun r => rfl⟩
theorem ia_5 {X : Cx} : isI X 5 7 := ⟨by decide, fun r => rfl⟩
theorem ia_6 {X : Cx} : isI X 6 7 := ⟨by decide, fun r => rfl⟩
theorem ia_7 {X : Cx} : isI X 7 7 := ⟨by decide, fun r => rfl⟩
theorem ia_8 {X : Cx} : isI X 8 4 := ⟨by decide, fun r => rfl⟩
theorem ia_10 {X : Cx} : isI X 10 7 := ⟨by decide, fun r => rfl⟩
theorem ia_11 {X : Cx} : isI X 11 7 := ⟨by decide, fun r => rfl⟩
theorem ia_12 {X : Cx} : isI X 12 7 := ⟨by decide, fun r => rfl⟩
theorem ia_13 {X : Cx} : isI X 13 7 := ⟨by decide, fun r => rfl⟩
theorem ia_14 {X : Cx} : isI X 14 4 := ⟨by decide, fun r => rfl⟩
theorem ia_21 {X : Cx} : isI X 21 6 := ⟨by decide, fun r => rfl⟩
theorem ia_22 {X : Cx} : isI X 22 6 := ⟨by decide, fun r => rfl⟩
theorem ia_23 {X : Cx} : isI X 23 15 := ⟨by decide, fun r => rfl⟩
theorem ia_24 {X : Cx} : isI X 24 15 := ⟨by decide, fun r => rfl⟩
theorem ia_26 {X : Cx} : isI X 26 7 := ⟨by decide, fun r => rfl⟩
theorem ia_29 {X : Cx} : isI X 29 7 := ⟨by decide, fun r => rfl⟩
theorem ia_30 {X : Cx} : isI X 30 7 := ⟨by decide, fun r => rfl⟩
theorem ia_31 {X : Cx} : isI X 31 7 := ⟨by decide, fun r => rfl⟩
theorem ia_32 {X : Cx} : isI X 32 7 := ⟨by decide, fun r => rfl⟩
theorem ia_33 {X : Cx} : isI X 33 7 := ⟨by decide, fun r => rfl⟩
theorem ia_34 {X : Cx} : isI X 34 7 := ⟨by decide, fun r => rfl⟩
theorem ia_35 {X : Cx} : isI X 35 7 := ⟨by decide, fun r => rfl⟩
theorem ia_36 {X : Cx} : isI X 36 7 := ⟨by decide, fun r => rfl⟩
theorem ia_37 {X : Cx} : isI X 37 7 := ⟨by decide, fun r => rfl⟩
theorem ia_38 {X : Cx} : isI X 38 9 := ⟨by decide, fun r => rfl⟩
theorem ia_40 {X : Cx} : isI X 40 7 := ⟨by decide, fun r => rfl⟩
theorem ia_41 {X : Cx} : isI X 41 4096 := ⟨by decide, fun r => rfl⟩
theorem ia_42 {X : Cx} : isI X 42 7 := ⟨by decide, fun r => rfl⟩
theorem ia_145 {X : Cx} : isI X 145 7 := ⟨by decide, fun r => rfl⟩
theorem ia_146 {X : Cx} : isI X 146 7 := ⟨by decide, fun r => rfl⟩
theorem ia_147 {X : Cx} : isI X 147 7 := ⟨by decide, fun r => rfl⟩
theorem ia_148 {X : Cx} : isI X 148 7 := ⟨by decide, fun r => rfl⟩
theorem ia_149 {X : Cx} : isI X 149 4 := ⟨by decide, fun r => rfl⟩
theorem ia_150 {X : Cx} : isI X 150 29 := ⟨by decide, fun r => rfl⟩
theorem ia_151 {X : Cx} : isI X 151 240 := ⟨by decide, fun r => rfl⟩
theorem ia_152 {X : Cx} : isI X 152 7 := ⟨by decide, fun r => rfl⟩
theorem ia_153 {X : Cx} : isI X 153 7 := ⟨by decide, fun r => rfl⟩
theorem ia_154 {X : Cx} : isI X 154 7 := ⟨by decide, fun r => rfl⟩
theorem ia_155 {X : Cx} : isI X 155 7 := ⟨by decide, fun r => rfl⟩
theorem ia_156 {X : Cx} : isI X 156 4 := ⟨by decide, fun r => rfl⟩
theorem ia_157 {X : Cx} : isI X 157 464 := ⟨by decide, fun r => rfl⟩
theorem ia_158 {X : Cx} : isI X 158 29 := ⟨by decide, fun r => rfl⟩
theorem ia_159 {X : Cx} : isI X 159 70 := ⟨by decide, fun r => rfl⟩
theorem ia_160 {X : Cx} : isI X 160 6 := ⟨by decide, fun r => rfl⟩
theorem ia_161 {X : Cx} : isI X 161 6 := ⟨by decide, fun r => rfl⟩
theorem ia_162 {X : Cx} : isI X 162 15 := ⟨by decide, fun r => rfl⟩
theorem ia_163 {X : Cx} : isI X 163 15 := ⟨by decide, fun r => rfl⟩
theorem ia_164 {X : Cx} : isI X 164 60 := ⟨by decide, fun r => rfl⟩
theorem za_165 {X : Cx} : isZ X 165 2 := ⟨by decide, fun r => rfl⟩
theorem qa_16 {X : Cx} : isQ X 16 16 2 (fun i => 54 + 5 * i) := ⟨by decide, fun r => rfl⟩
theorem qa_17 {X : Cx} : isQ X 17 2 3 (fun i => 18 + i) := ⟨by decide, fun r => rfl⟩
theorem qa_28 {X : Cx} : isQ X 28 9 4 (fun i => 29 + i) := ⟨by decide, fun r => rfl⟩
theorem hall_now : isHall 44 := ⟨by decide, by decide, by decide⟩
theorem hall_trial : isHall 49 := ⟨by decide, by decide, by decide⟩
theorem reg_3 : isReg 3 := Or.inl rfl
theorem reg_9 : isReg 9 := Or.inr rfl
theorem hall_ring {i : Int32} (h : vp_in i 16) : isHall (54 + 5 * i.toNatClampNeg) := by
  have : i.toNatClampNeg < 16 := Nat.not_le.mp fun q => h (Or.inr q)
  exact ⟨by omega, by omega, by omega⟩
theorem img_at {i : Int32} (h : vp_in i 2) : isImg (18 + i.toNatClampNeg) := by
  have : i.toNatClampNeg < 2 := Nat.not_le.mp fun q => h (Or.inr q)
  unfold isImg
  omega
theorem ia_ahead {X : Cx} {i : Int32} (h : vp_in i 9) : isI X (29 + i.toNatClampNeg) 7 := by
  have h9 : i.toNatClampNeg < 9 := Nat.not_le.mp fun q => h (Or.inr q)
  generalize i.toNatClampNeg = k at h9 ⊢
  rcases (show k = 0 ∨ k = 1 ∨ k = 2 ∨ k = 3 ∨ k = 4 ∨ k = 5 ∨ k = 6 ∨ k = 7 ∨ k = 8 by omega) with rfl | rfl | rfl | rfl | rfl | rfl | rfl | rfl | rfl
  · exact ia_29
  · exact ia_30
  · exact ia_31
  · exact ia_32
  · exact ia_33
  · exact ia_34
  · exact ia_35
  · exact ia_36
  · exact ia_37
theorem layX0 : ∀ w ∈ u_ws RX0 TX0 3, w ∈ W0 := lay_in (fun k hk => match k, hk with
  | 0, _ => tw_1 236 rfl rfl
  | 1, _ => tw_1 238 rfl rfl
  | 2, _ => tw_2 0 rfl rfl
  | k + 3, h => absurd h (by omega))
theorem layX1 : ∀ w ∈ u_ws RX1 TX1 1, w ∈ W0 := lay_in (fun k hk => match k, hk with
  | 0, _ => tw_2 61 rfl rfl
  | k + 1, h => absurd h (by omega))
theorem layX2 : ∀ w ∈ u_ws RX2 TX2 6, w ∈ W0 := lay_in (fun k hk => match k, hk with
  | 0, _ => tw_2 40 rfl rfl
  | 1, _ => tw_2 42 rfl rfl
  | 2, _ => tw_2 44 rfl rfl
  | 3, _ => tw_2 46 rfl rfl
  | 4, _ => tw_2 48 rfl rfl
  | 5, _ => tw_2 50 rfl rfl
  | k + 6, h => absurd h (by omega))
theorem layX3 : ∀ w ∈ u_ws RX3 TX3 9, w ∈ W0 := lay_in (fun k hk => match k, hk with
  | 0, _ => tw_1 120 rfl rfl
  | 1, _ => tw_1 122 rfl rfl
  | 2, _ => tw_1 124 rfl rfl
  | 3, _ => tw_1 126 rfl rfl
  | 4, _ => tw_1 128 rfl rfl
  | 5, _ => tw_1 130 rfl rfl
  | 6, _ => tw_1 132 rfl rfl
  | 7, _ => tw_1 134 rfl rfl
  | 8, _ => tw_1 136 rfl rfl
  | k + 9, h => absurd h (by omega))
theorem layX4 : ∀ w ∈ u_ws RX4 TX4 3, w ∈ W0 := lay_in (fun k hk => match k, hk with
  | 0, _ => tw_1 145 rfl rfl
  | 1, _ => tw_1 147 rfl rfl
  | 2, _ => tw_1 149 rfl rfl
  | k + 3, h => absurd h (by omega))
theorem layX5 : ∀ w ∈ u_ws RX5 TX5 6, w ∈ W0 := lay_in (fun k hk => match k, hk with
  | 0, _ => tw_1 212 rfl rfl
  | 1, _ => tw_1 214 rfl rfl
  | 2, _ => tw_1 216 rfl rfl
  | 3, _ => tw_1 218 rfl rfl
  | 4, _ => tw_1 220 rfl rfl
  | 5, _ => tw_1 222 rfl rfl
  | k + 6, h => absurd h (by omega))
theorem layX6 : ∀ w ∈ u_ws RX6 TX6 3, w ∈ W0 := lay_in (fun k hk => match k, hk with
  | 0, _ => tw_1 191 rfl rfl
  | 1, _ => tw_1 193 rfl rfl
  | 2, _ => tw_1 195 rfl rfl
  | k + 3, h => absurd h (by omega))
theorem layX7 : ∀ w ∈ u_ws RX7 TX7 5, w ∈ W0 := lay_in (fun k hk => match k, hk with
  | 0, _ => tw_1 165 rfl rfl
  | 1, _ => tw_1 167 rfl rfl
  | 2, _ => tw_1 169 rfl rfl
  | 3, _ => tw_1 171 rfl rfl
  | 4, _ => tw_1 173 rfl rfl
  | k + 5, h => absurd h (by omega))
theorem layX8 : ∀ w ∈ u_ws RX8 TX8 10, w ∈ W0 := lay_in (fun k hk => match k, hk with
  | 0, _ => tw_1 65 rfl rfl
  | 1, _ => tw_1 67 rfl rfl
  | 2, _ => tw_1 69 rfl rfl
  | 3, _ => tw_1 71 rfl rfl
  | 4, _ => tw_1 73 rfl rfl
  | 5, _ => tw_1 75 rfl rfl
  | 6, _ => tw_1 77 rfl rfl
  | 7, _ => tw_1 79 rfl rfl
  | 8, _ => tw_1 81 rfl rfl
  | 9, _ => tw_1 83 rfl rfl
  | k + 10, h => absurd h (by omega))
theorem layX9 : ∀ w ∈ u_ws RX9 TX9 4, w ∈ W0 := lay_in (fun k hk => match k, hk with
  | 0, _ => tw_2 17 rfl rfl
  | 1, _ => tw_2 19 rfl rfl
  | 2, _ => tw_2 21 rfl rfl
  | 3, _ => tw_2 23 rfl rfl
  | k + 4, h => absurd h (by omega))
theorem layX10 : ∀ w ∈ u_ws RX10 TX10 12, w ∈ W0 := lay_in (fun k hk => match k, hk with
  | 0, _ => tw_2 76 rfl rfl
  | 1, _ => tw_2 78 rfl rfl
  | 2, _ => tw_2 80 rfl rfl
  | 3, _ => tw_2 82 rfl rfl
  | 4, _ => tw_2 84 rfl rfl
  | 5, _ => tw_2 86 rfl rfl
  | 6, _ => tw_2 88 rfl rfl
  | 7, _ => tw_2 90 rfl rfl
  | 8, _ => tw_2 92 rfl rfl
  | 9, _ => tw_2 94 rfl rfl
  | 10, _ => tw_2 96 rfl rfl
  | 11, _ => tw_2 98 rfl rfl
  | k + 12, h => absurd h (by omega))
theorem layX11 : ∀ w ∈ u_ws RX11 TX11 40, w ∈ W0 := lay_in (fun k hk => match k, hk with
  | 0, _ => tw_4 130 rfl rfl
  | 1, _ => tw_4 132 rfl rfl
  | 2, _ => tw_4 134 rfl rfl
  | 3, _ => tw_4 136 rfl rfl
  | 4, _ => tw_4 138 rfl rfl
  | 5, _ => tw_4 140 rfl rfl
  | 6, _ => tw_4 142 rfl rfl
  | 7, _ => tw_4 144 rfl rfl
  | 8, _ => tw_4 146 rfl rfl
  | 9, _ => tw_4 148 rfl rfl
  | 10, _ => tw_4 150 rfl rfl
  | 11, _ => tw_4 152 rfl rfl
  | 12, _ => tw_4 154 rfl rfl
  | 13, _ => tw_4 156 rfl rfl
  | 14, _ => tw_4 158 rfl rfl
  | 15, _ => tw_4 160 rfl rfl
  | 16, _ => tw_4 162 rfl rfl
  | 17, _ => tw_4 164 rfl rfl
  | 18, _ => tw_4 166 rfl rfl
  | 19, _ => tw_4 168 rfl rfl
  | 20, _ => tw_4 170 rfl rfl
  | 21, _ => tw_4 172 rfl rfl
  | 22, _ => tw_4 174 rfl rfl
  | 23, _ => tw_4 176 rfl rfl
  | 24, _ => tw_4 178 rfl rfl
  | 25, _ => tw_4 180 rfl rfl
  | 26, _ => tw_4 182 rfl rfl
  | 27, _ => tw_4 184 rfl rfl
  | 28, _ => tw_4 186 rfl rfl
  | 29, _ => tw_4 188 rfl rfl
  | 30, _ => tw_4 190 rfl rfl
  | 31, _ => tw_4 192 rfl rfl
  | 32, _ => tw_4 194 rfl rfl
  | 33, _ => tw_4 196 rfl rfl
  | 34, _ => tw_4 198 rfl rfl
  | 35, _ => tw_4 200 rfl rfl
  | 36, _ => tw_4 202 rfl rfl
  | 37, _ => tw_4 204 rfl rfl
  | 38, _ => tw_4 206 rfl rfl
  | 39, _ => tw_4 208 rfl rfl
  | k + 40, h => absurd h (by omega))
section FR
variable {p : Program} {l : Launch} {e : Env} {R : Room} {s : State} {m : MethodId} {args : Array Value} {below : List Frame} {meth : Method} {c : Code} {H : Heap} {locs : List Loc} {cells slots : Nat} {Q : State → Prop}
variable {cc : ByteArray} {pc : Nat} {ls : Array Slot} {rest : List Value} {X : Cx} {t : St} {H0 : Heap} {nL : Nat}
theorem gX8_27 (B : Bx p s m args c cc nL X RX8) (hS : SS X t H0 H locs) {h : Nat} (hh : isReg h) (hdg : decode cc pc = .ok (.getfield 27, 3)) (kk : W p l e R s m args below meth c H locs cells slots Q (F0 m (pc + 3) ls (.int (t h 0) :: rest))) : W p l e R s m args below meth c H locs cells slots Q (F0 m pc ls (.ref (X.2.1 h) :: rest)) :=
  xg B hS layX8 (reg_lt hh) (ceX8 hh _) rfl 0 (by decide) (tw_1 30 rfl rfl) rfl rfl hdg kk
theorem pX8_27 (B : Bx p s m args c cc nL X RX8) (hS : SS X t H0 H locs) {h : Nat} (hh : isReg h) {x : Int32} (hdg : decode cc pc = .ok (.putfield 27, 3)) (kk : ∀ (H1 : Heap) (locs1 : List Loc), SS X (up t h 0 x) H0 H1 locs1 → W p l e R s m args below meth c H1 locs1 cells slots Q (F0 m (pc + 3) ls (rest))) : W p l e R s m args below meth c H locs cells slots Q (F0 m pc ls (.int x :: .ref (X.2.1 h) :: rest)) :=
  xp B hS layX8 tyX8 tyX8_ok nmX8 (reg_lt hh) (ceX8 hh _) rfl 0 (by decide) (tw_1 30 rfl rfl) rfl rfl rfl rfl rfl (Nat.le_of_ble_eq_true rfl) (ceX8 hh _) hdg kk
theorem gX3_41 (B : Bx p s m args c cc nL X RX3) (hS : SS X t H0 H locs) {h : Nat} (hh : isReg h) (hdg : decode cc pc = .ok (.getfield 41, 3)) (kk : W p l e R s m args below meth c H locs cells slots Q (F0 m (pc + 3) ls (.int (t h 0) :: rest))) : W p l e R s m args below meth c H locs cells slots Q (F0 m pc ls (.ref (X.2.1 h) :: rest)) :=
  xgN B hS layX8 (reg_lt hh) (ceX8 hh _) rfl 0 (by decide) (List.mem_of_getElem? (i := 1) rfl) rfl rfl hdg kk
theorem pX3_41 (B : Bx p s m args c cc nL X RX3) (hS : SS X t H0 H locs) {h : Nat} (hh : isReg h) {x : Int32} (hdg : decode cc pc = .ok (.putfield 41, 3)) (kk : ∀ (H1 : Heap) (locs1 : List Loc), SS X (up t h 0 x) H0 H1 locs1 → W p l e R s m args below meth c H1 locs1 cells slots Q (F0 m (pc + 3) ls (rest))) : W p l e R s m args below meth c H locs cells slots Q (F0 m pc ls (.int x :: .ref (X.2.1 h) :: rest)) :=
  xpN B hS layX8 tyX8 tyX8_ok nmX8 (reg_lt hh) (ceX8 hh _) rfl 0 (by decide) (List.mem_of_getElem? (i := 1) rfl) rfl rfl rfl rfl rfl (Nat.le_of_ble_eq_true rfl) (ceX8 hh _) hdg kk
theorem gX7_66 (B : Bx p s m args c cc nL X RX7) (hS : SS X t H0 H locs) {h : Nat} (hh : isReg h) (hdg : decode cc pc = .ok (.getfield 66, 3)) (kk : W p l e R s m args below meth c H locs cells slots Q (F0 m (pc + 3) ls (.int (t h 0) :: rest))) : W p l e R s m args below meth c H locs cells slots Q (F0 m pc ls (.ref (X.2.1 h) :: rest)) :=
  xgN B hS layX8 (reg_lt hh) (ceX8 hh _) rfl 0 (by decide) (List.mem_of_getElem? (i := 2) rfl) rfl rfl hdg kk
theorem pX7_66 (B : Bx p s m args c cc nL X RX7) (hS : SS X t H0 H locs) {h : Nat} (hh : isReg h) {x : Int32} (hdg : decode cc pc = .ok (.putfield 66, 3)) (kk : ∀ (H1 : Heap) (locs1 : List Loc), SS X (up t h 0 x) H0 H1 locs1 → W p l e R s m args below meth c H1 locs1 cells slots Q (F0 m (pc + 3) ls (rest))) : W p l e R s m args below meth c H locs cells slots Q (F0 m pc ls (.int x :: .ref (X.2.1 h) :: rest)) :=
  xpN B hS layX8 tyX8 tyX8_ok nmX8 (reg_lt hh) (ceX8 hh _) rfl 0 (by decide) (List.mem_of_getElem? (i := 2) rfl) rfl rfl rfl rfl rfl (Nat.le_of_ble_eq_true rfl) (ceX8 hh _) hdg kk
theorem gX8_31 (B : Bx p s m args c cc nL X RX8) (hS : SS X t H0 H locs) {h : Nat} (hh : isReg h) (hdg : decode cc pc = .ok (.getfield 31, 3)) (kk : W p l e R s m args below meth c H locs cells slots Q (F0 m (pc + 3) ls (.int (t h 1) :: rest))) : W p l e R s m args below meth c H locs cells slots Q (F0 m pc ls (.ref (X.2.1 h) :: rest)) :=
  xg B hS layX8 (reg_lt hh) (ceX8 hh _) rfl 1 (by decide) (tw_1 33 rfl rfl) rfl rfl hdg kk
theorem pX8_31 (B : Bx p s m args c cc nL X RX8) (hS : SS X t H0 H locs) {h : Nat} (hh : isReg h) {x : Int32} (hdg : decode cc pc = .ok (.putfield 31, 3)) (kk : ∀ (H1 : Heap) (locs1 : List Loc), SS X (up t h 1 x) H0 H1 locs1 → W p l e R s m args below meth c H1 locs1 cells slots Q (F0 m (pc + 3) ls (rest))) : W p l e R s m args below meth c H locs cells slots Q (F0 m pc ls (.int x :: .ref (X.2.1 h) :: rest)) :=
  xp B hS layX8 tyX8 tyX8_ok nmX8 (reg_lt hh) (ceX8 hh _) rfl 1 (by decide) (tw_1 33 rfl rfl) rfl rfl rfl rfl rfl (Nat.le_of_ble_eq_true rfl) (ceX8 hh _) hdg kk
theorem gX2_41 (B : Bx p s m args c cc nL X RX2) (hS : SS X t H0 H locs) {h : Nat} (hh : isReg h) (hdg : decode cc pc = .ok (.getfield 41, 3)) (kk : W p l e R s m args below meth c H locs cells slots Q (F0 m (pc + 3) ls (.int (t h 1) :: rest))) : W p l e R s m args below meth c H locs cells slots Q (F0 m pc ls (.ref (X.2.1 h) :: rest)) :=
  xgN B hS layX8 (reg_lt hh) (ceX8 hh _) rfl 1 (by decide) (List.mem_of_getElem? (i := 3) rfl) rfl rfl hdg kk
theorem pX2_41 (B : Bx p s m args c cc nL X RX2) (hS : SS X t H0 H locs) {h : Nat} (hh : isReg h) {x : Int32} (hdg : decode cc pc = .ok (.putfield 41, 3)) (kk : ∀ (H1 : Heap) (locs1 : List Loc), SS X (up t h 1 x) H0 H1 locs1 → W p l e R s m args below meth c H1 locs1 cells slots Q (F0 m (pc + 3) ls (rest))) : W p l e R s m args below meth c H locs cells slots Q (F0 m pc ls (.int x :: .ref (X.2.1 h) :: rest)) :=
  xpN B hS layX8 tyX8 tyX8_ok nmX8 (reg_lt hh) (ceX8 hh _) rfl 1 (by decide) (List.mem_of_getElem? (i := 3) rfl) rfl rfl rfl rfl rfl (Nat.le_of_ble_eq_true rfl) (ceX8 hh _) hdg kk
theorem gX7_69 (B : Bx p s m args c cc nL X RX7) (hS : SS X t H0 H locs) {h : Nat} (hh : isReg h) (hdg : decode cc pc = .ok (.getfield 69, 3)) (kk : W p l e R s m args below meth c H locs cells slots Q (F0 m (pc + 3) ls (.int (t h 1) :: rest))) : W p l e R s m args below meth c H locs cells slots Q (F0 m pc ls (.ref (X.2.1 h) :: rest)) :=
  xgN B hS layX8 (reg_lt hh) (ceX8 hh _) rfl 1 (by decide) (List.mem_of_getElem? (i := 4) rfl) rfl rfl hdg kk
theorem pX7_69 (B : Bx p s m args c cc nL X RX7) (hS : SS X t H0 H locs) {h : Nat} (hh : isReg h) {x : Int32} (hdg : decode cc pc = .ok (.putfield 69, 3)) (kk : ∀ (H1 : Heap) (locs1 : List Loc), SS X (up t h 1 x) H0 H1 locs1 → W p l e R s m args below meth c H1 locs1 cells slots Q (F0 m (pc + 3) ls (rest))) : W p l e R s m args below meth c H locs cells slots Q (F0 m pc ls (.int x :: .ref (X.2.1 h) :: rest)) :=
  xpN B hS layX8 tyX8 tyX8_ok nmX8 (reg_lt hh) (ceX8 hh _) rfl 1 (by decide) (List.mem_of_getElem? (i := 4) rfl) rfl rfl rfl rfl rfl (Nat.le_of_ble_eq_true rfl) (ceX8 hh _) hdg kk
theorem gX10_126 (B : Bx p s m args c cc nL X RX10) (hS : SS X t H0 H locs) {h : Nat} (hh : isReg h) (hdg : decode cc pc = .ok (.getfield 126, 3)) (kk : W p l e R s m args below meth c H locs cells slots Q (F0 m (pc + 3) ls (.int (t h 1) :: rest))) : W p l e R s m args below meth c H locs cells slots Q (F0 m pc ls (.ref (X.2.1 h) :: rest)) :=
  xgN B hS layX8 (reg_lt hh) (ceX8 hh _) rfl 1 (by decide) (List.mem_of_getElem? (i := 5) rfl) rfl rfl hdg kk
theorem pX10_126 (B : Bx p s m args c cc nL X RX10) (hS : SS X t H0 H locs) {h : Nat} (hh : isReg h) {x : Int32} (hdg : decode cc pc = .ok (.putfield 126, 3)) (kk : ∀ (H1 : Heap) (locs1 : List Loc), SS X (up t h 1 x) H0 H1 locs1 → W p l e R s m args below meth c H1 locs1 cells slots Q (F0 m (pc + 3) ls (rest))) : W p l e R s m args below meth c H locs cells slots Q (F0 m pc ls (.int x :: .ref (X.2.1 h) :: rest)) :=
  xpN B hS layX8 tyX8 tyX8_ok nmX8 (reg_lt hh) (ceX8 hh _) rfl 1 (by decide) (List.mem_of_getElem? (i := 5) rfl) rfl rfl rfl rfl rfl (Nat.le_of_ble_eq_true rfl) (ceX8 hh _) hdg kk
theorem gX3_82 (B : Bx p s m args c cc nL X RX3) (hS : SS X t H0 H locs) {h : Nat} (hh : isReg h) (hdg : decode cc pc = .ok (.getfield 82, 3)) (kk : W p l e R s m args below meth c H locs cells slots Q (F0 m (pc + 3) ls (.int (t h 1) :: rest))) : W p l e R s m args below meth c H locs cells slots Q (F0 m pc ls (.ref (X.2.1 h) :: rest)) :=
  xgN B hS layX8 (reg_lt hh) (ceX8 hh _) rfl 1 (by decide) (List.mem_of_getElem? (i := 6) rfl) rfl rfl hdg kk
theorem pX3_82 (B : Bx p s m args c cc nL X RX3) (hS : SS X t H0 H locs) {h : Nat} (hh : isReg h) {x : Int32} (hdg : decode cc pc = .ok (.putfield 82, 3)) (kk : ∀ (H1 : Heap) (locs1 : List Loc), SS X (up t h 1 x) H0 H1 locs1 → W p l e R s m args below meth c H1 locs1 cells slots Q (F0 m (pc + 3) ls (rest))) : W p l e R s m args below meth c H locs cells slots Q (F0 m pc ls (.int x :: .ref (X.2.1 h) :: rest)) :=
  xpN B hS layX8 tyX8 tyX8_ok nmX8 (reg_lt hh) (ceX8 hh _) rfl 1 (by decide) (List.mem_of_getElem? (i := 6) rfl) rfl rfl rfl rfl rfl (Nat.le_of_ble_eq_true rfl) (ceX8 hh _) hdg kk
theorem gX9_28 (B : Bx p s m args c cc nL X RX9) (hS : SS X t H0 H locs) {h : Nat} (hh : isReg h) (hdg : decode cc pc = .ok (.getfield 28, 3)) (kk : W p l e R s m args below meth c H locs cells slots Q (F0 m (pc + 3) ls (.int (t h 2) :: rest))) : W p l e R s m args below meth c H locs cells slots Q (F0 m pc ls (.ref (X.2.1 h) :: rest)) :=
  xgN B hS layX8 (reg_lt hh) (ceX8 hh _) rfl 2 (by decide) (List.mem_of_getElem? (i := 7) rfl) rfl rfl hdg kk
theorem pX9_28 (B : Bx p s m args c cc nL X RX9) (hS : SS X t H0 H locs) {h : Nat} (hh : isReg h) {x : Int32} (hdg : decode cc pc = .ok (.putfield 28, 3)) (kk : ∀ (H1 : Heap) (locs1 : List Loc), SS X (up t h 2 x) H0 H1 locs1 → W p l e R s m args below meth c H1 locs1 cells slots Q (F0 m (pc + 3) ls (rest))) : W p l e R s m args below meth c H locs cells slots Q (F0 m pc ls (.int x :: .ref (X.2.1 h) :: rest)) :=
  xpN B hS layX8 tyX8 tyX8_ok nmX8 (reg_lt hh) (ceX8 hh _) rfl 2 (by decide) (List.mem_of_getElem? (i := 7) rfl) rfl rfl rfl rfl rfl (Nat.le_of_ble_eq_true rfl) (ceX8 hh _) hdg kk
theorem gX8_34 (B : Bx p s m args c cc nL X RX8) (hS : SS X t H0 H locs) {h : Nat} (hh : isReg h) (hdg : decode cc pc = .ok (.getfield 34, 3)) (kk : W p l e R s m args below meth c H locs cells slots Q (F0 m (pc + 3) ls (.int (t h 2) :: rest))) : W p l e R s m args below meth c H locs cells slots Q (F0 m pc ls (.ref (X.2.1 h) :: rest)) :=
  xg B hS layX8 (reg_lt hh) (ceX8 hh _) rfl 2 (by decide) (tw_1 39 rfl rfl) rfl rfl hdg kk
theorem pX8_34 (B : Bx p s m args c cc nL X RX8) (hS : SS X t H0 H locs) {h : Nat} (hh : isReg h) {x : Int32} (hdg : decode cc pc = .ok (.putfield 34, 3)) (kk : ∀ (H1 : Heap) (locs1 : List Loc), SS X (up t h 2 x) H0 H1 locs1 → W p l e R s m args below meth c H1 locs1 cells slots Q (F0 m (pc + 3) ls (rest))) : W p l e R s m args below meth c H locs cells slots Q (F0 m pc ls (.int x :: .ref (X.2.1 h) :: rest)) :=
  xp B hS layX8 tyX8 tyX8_ok nmX8 (reg_lt hh) (ceX8 hh _) rfl 2 (by decide) (tw_1 39 rfl rfl) rfl rfl rfl rfl rfl (Nat.le_of_ble_eq_true rfl) (ceX8 hh _) hdg kk
theorem gX7_72 (B : Bx p s m args c cc nL X RX7) (hS : SS X t H0 H locs) {h : Nat} (hh : isReg h) (hdg : decode cc pc = .ok (.getfield 72, 3)) (kk : W p l e R s m args below meth c H locs cells slots Q (F0 m (pc + 3) ls (.int (t h 2) :: rest))) : W p l e R s m args below meth c H locs cells slots Q (F0 m pc ls (.ref (X.2.1 h) :: rest)) :=
  xgN B hS layX8 (reg_lt hh) (ceX8 hh _) rfl 2 (by decide) (List.mem_of_getElem? (i := 8) rfl) rfl rfl hdg kk
theorem pX7_72 (B : Bx p s m args c cc nL X RX7) (hS : SS X t H0 H locs) {h : Nat} (hh : isReg h) {x : Int32} (hdg : decode cc pc = .ok (.putfield 72, 3)) (kk : ∀ (H1 : Heap) (locs1 : List Loc), SS X (up t h 2 x) H0 H1 locs1 → W p l e R s m args below meth c H1 locs1 cells slots Q (F0 m (pc + 3) ls (rest))) : W p l e R s m args below meth c H locs cells slots Q (F0 m pc ls (.int x :: .ref (X.2.1 h) :: rest)) :=
  xpN B hS layX8 tyX8 tyX8_ok nmX8 (reg_lt hh) (ceX8 hh _) rfl 2 (by decide) (List.mem_of_getElem? (i := 8) rfl) rfl rfl rfl rfl rfl (Nat.le_of_ble_eq_true rfl) (ceX8 hh _) hdg kk
theorem gX10_129 (B : Bx p s m args c cc nL X RX10) (hS : SS X t H0 H locs) {h : Nat} (hh : isReg h) (hdg : decode cc pc = .ok (.getfield 129, 3)) (kk : W p l e R s m args below meth c H locs cells slots Q (F0 m (pc + 3) ls (.int (t h 2) :: rest))) : W p l e R s m args below meth c H locs cells slots Q (F0 m pc ls (.ref (X.2.1 h) :: rest)) :=
  xgN B hS layX8 (reg_lt hh) (ceX8 hh _) rfl 2 (by decide) (List.mem_of_getElem? (i := 9) rfl) rfl rfl hdg kk
theorem pX10_129 (B : Bx p s m args c cc nL X RX10) (hS : SS X t H0 H locs) {h : Nat} (hh : isReg h) {x : Int32} (hdg : decode cc pc = .ok (.putfield 129, 3)) (kk : ∀ (H1 : Heap) (locs1 : List Loc), SS X (up t h 2 x) H0 H1 locs1 → W p l e R s m args below meth c H1 locs1 cells slots Q (F0 m (pc + 3) ls (rest))) : W p l e R s m args below meth c H locs cells slots Q (F0 m pc ls (.int x :: .ref (X.2.1 h) :: rest)) :=
  xpN B hS layX8 tyX8 tyX8_ok nmX8 (reg_lt hh) (ceX8 hh _) rfl 2 (by decide) (List.mem_of_getElem? (i := 9) rfl) rfl rfl rfl rfl rfl (Nat.le_of_ble_eq_true rfl) (ceX8 hh _) hdg kk
theorem gX2_32 (B : Bx p s m args c cc nL X RX2) (hS : SS X t H0 H locs) {h : Nat} (hh : isReg h) (hdg : decode cc pc = .ok (.getfield 32, 3)) (kk : W p l e R s m args below meth c H locs cells slots Q (F0 m (pc + 3) ls (.int (t h 3) :: rest))) : W p l e R s m args below meth c H locs cells slots Q (F0 m pc ls (.ref (X.2.1 h) :: rest)) :=
  xgN B hS layX8 (reg_lt hh) (ceX8 hh _) rfl 3 (by decide) (List.mem_of_getElem? (i := 10) rfl) rfl rfl hdg kk
theorem pX2_32 (B : Bx p s m args c cc nL X RX2) (hS : SS X t H0 H locs) {h : Nat} (hh : isReg h) {x : Int32} (hdg : decode cc pc = .ok (.putfield 32, 3)) (kk : ∀ (H1 : Heap) (locs1 : List Loc), SS X (up t h 3 x) H0 H1 locs1 → W p l e R s m args below meth c H1 locs1 cells slots Q (F0 m (pc + 3) ls (rest))) : W p l e R s m args below meth c H locs cells slots Q (F0 m pc ls (.int x :: .ref (X.2.1 h) :: rest)) :=
  xpN B hS layX8 tyX8 tyX8_ok nmX8 (reg_lt hh) (ceX8 hh _) rfl 3 (by decide) (List.mem_of_getElem? (i := 10) rfl) rfl rfl rfl rfl rfl (Nat.le_of_ble_eq_true rfl) (ceX8 hh _) hdg kk
theorem gX8_37 (B : Bx p s m args c cc nL X RX8) (hS : SS X t H0 H locs) {h : Nat} (hh : isReg h) (hdg : decode cc pc = .ok (.getfield 37, 3)) (kk : W p l e R s m args below meth c H locs cells slots Q (F0 m (pc + 3) ls (.int (t h 3) :: rest))) : W p l e R s m args below meth c H locs cells slots Q (F0 m pc ls (.ref (X.2.1 h) :: rest)) :=
  xg B hS layX8 (reg_lt hh) (ceX8 hh _) rfl 3 (by decide) (tw_1 43 rfl rfl) rfl rfl hdg kk
theorem pX8_37 (B : Bx p s m args c cc nL X RX8) (hS : SS X t H0 H locs) {h : Nat} (hh : isReg h) {x : Int32} (hdg : decode cc pc = .ok (.putfield 37, 3)) (kk : ∀ (H1 : Heap) (locs1 : List Loc), SS X (up t h 3 x) H0 H1 locs1 → W p l e R s m args below meth c H1 locs1 cells slots Q (F0 m (pc + 3) ls (rest))) : W p l e R s m args below meth c H locs cells slots Q (F0 m pc ls (.int x :: .ref (X.2.1 h) :: rest)) :=
  xp B hS layX8 tyX8 tyX8_ok nmX8 (reg_lt hh) (ceX8 hh _) rfl 3 (by decide) (tw_1 43 rfl rfl) rfl rfl rfl rfl rfl (Nat.le_of_ble_eq_true rfl) (ceX8 hh _) hdg kk
theorem gX9_33 (B : Bx p s m args c cc nL X RX9) (hS : SS X t H0 H locs) {h : Nat} (hh : isReg h) (hdg : decode cc pc = .ok (.getfield 33, 3)) (kk : W p l e R s m args below meth c H locs cells slots Q (F0 m (pc + 3) ls (.int (t h 3) :: rest))) : W p l e R s m args below meth c H locs cells slots Q (F0 m pc ls (.ref (X.2.1 h) :: rest)) :=
  xgN B hS layX8 (reg_lt hh) (ceX8 hh _) rfl 3 (by decide) (List.mem_of_getElem? (i := 11) rfl) rfl rfl hdg kk
theorem pX9_33 (B : Bx p s m args c cc nL X RX9) (hS : SS X t H0 H locs) {h : Nat} (hh : isReg h) {x : Int32} (hdg : decode cc pc = .ok (.putfield 33, 3)) (kk : ∀ (H1 : Heap) (locs1 : List Loc), SS X (up t h 3 x) H0 H1 locs1 → W p l e R s m args below meth c H1 locs1 cells slots Q (F0 m (pc + 3) ls (rest))) : W p l e R s m args below meth c H locs cells slots Q (F0 m pc ls (.int x :: .ref (X.2.1 h) :: rest)) :=
  xpN B hS layX8 tyX8 tyX8_ok nmX8 (reg_lt hh) (ceX8 hh _) rfl 3 (by decide) (List.mem_of_getElem? (i := 11) rfl) rfl rfl rfl rfl rfl (Nat.le_of_ble_eq_true rfl) (ceX8 hh _) hdg kk
theorem gX10_117 (B : Bx p s m args c cc nL X RX10) (hS : SS X t H0 H locs) {h : Nat} (hh : isReg h) (hdg : decode cc pc = .ok (.getfield 117, 3)) (kk : W p l e R s m args below meth c H locs cells slots Q (F0 m (pc + 3) ls (.int (t h 3) :: rest))) : W p l e R s m args below meth c H locs cells slots Q (F0 m pc ls (.ref (X.2.1 h) :: rest)) :=
  xgN B hS layX8 (reg_lt hh) (ceX8 hh _) rfl 3 (by decide) (List.mem_of_getElem? (i := 12) rfl) rfl rfl hdg kk
theorem pX10_117 (B : Bx p s m args c cc nL X RX10) (hS : SS X t H0 H locs) {h : Nat} (hh : isReg h) {x : Int32} (hdg : decode cc pc = .ok (.putfield 117, 3)) (kk : ∀ (H1 : Heap) (locs1 : List Loc), SS X (up t h 3 x) H0 H1 locs1 → W p l e R s m args below meth c H1 locs1 cells slots Q (F0 m (pc + 3) ls (rest))) : W p l e R s m args below meth c H locs cells slots Q (F0 m pc ls (.int x :: .ref (X.2.1 h) :: rest)) :=
  xpN B hS layX8 tyX8 tyX8_ok nmX8 (reg_lt hh) (ceX8 hh _) rfl 3 (by decide) (List.mem_of_getElem? (i := 12) rfl) rfl rfl rfl rfl rfl (Nat.le_of_ble_eq_true rfl) (ceX8 hh _) hdg kk
theorem gX0_38 (B : Bx p s m args c cc nL X RX0) (hS : SS X t H0 H locs) {h : Nat} (hh : isReg h) (hdg : decode cc pc = .ok (.getfield 38, 3)) (kk : W p l e R s m args below meth c H locs cells slots Q (F0 m (pc + 3) ls (.int (t h 3) :: rest))) : W p l e R s m args below meth c H locs cells slots Q (F0 m pc ls (.ref (X.2.1 h) :: rest)) :=
  xgN B hS layX8 (reg_lt hh) (ceX8 hh _) rfl 3 (by decide) (List.mem_of_getElem? (i := 13) rfl) rfl rfl hdg kk
theorem pX0_38 (B : Bx p s m args c cc nL X RX0) (hS : SS X t H0 H locs) {h : Nat} (hh : isReg h) {x : Int32} (hdg : decode cc pc = .ok (.putfield 38, 3)) (kk : ∀ (H1 : Heap) (locs1 : List Loc), SS X (up t h 3 x) H0 H1 locs1 → W p l e R s m args below meth c H1 locs1 cells slots Q (F0 m (pc + 3) ls (rest))) : W p l e R s m args below meth c H locs cells slots Q (F0 m pc ls (.int x :: .ref (X.2.1 h) :: rest)) :=
  xpN B hS layX8 tyX8 tyX8_ok nmX8 (reg_lt hh) (ceX8 hh _) rfl 3 (by decide) (List.mem_of_getElem? (i := 13) rfl) rfl rfl rfl rfl rfl (Nat.le_of_ble_eq_true rfl) (ceX8 hh _) hdg kk
theorem gX7_52 (B : Bx p s m args c cc nL X RX7) (hS : SS X t H0 H locs) {h : Nat} (hh : isReg h) (hdg : decode cc pc = .ok (.getfield 52, 3)) (kk : W p l e R s m args below meth c H locs cells slots Q (F0 m (pc + 3) ls (.int (t h 3) :: rest))) : W p l e R s m args below meth c H locs cells slots Q (F0 m pc ls (.ref (X.2.1 h) :: rest)) :=
  xgN B hS layX8 (reg_lt hh) (ceX8 hh _) rfl 3 (by decide) (List.mem_of_getElem? (i := 14) rfl) rfl rfl hdg kk
theorem pX7_52 (B : Bx p s m args c cc nL X RX7) (hS : SS X t H0 H locs) {h : Nat} (hh : isReg h) {x : Int32} (hdg : decode cc pc = .ok (.putfield 52, 3)) (kk : ∀ (H1 : Heap) (locs1 : List Loc), SS X (up t h 3 x) H0 H1 locs1 → W p l e R s m args below meth c H1 locs1 cells slots Q (F0 m (pc + 3) ls (rest))) : W p l e R s m args below meth c H locs cells slots Q (F0 m pc ls (.int x :: .ref (X.2.1 h) :: rest)) :=
  xpN B hS layX8 tyX8 tyX8_ok nmX8 (reg_lt hh) (ceX8 hh _) rfl 3 (by decide) (List.mem_of_getElem? (i := 14) rfl) rfl rfl rfl rfl rfl (Nat.le_of_ble_eq_true rfl) (ceX8 hh _) hdg kk
theorem gX3_63 (B : Bx p s m args c cc nL X RX3) (hS : SS X t H0 H locs) {h : Nat} (hh : isReg h) (hdg : decode cc pc = .ok (.getfield 63, 3)) (kk : W p l e R s m args below meth c H locs cells slots Q (F0 m (pc + 3) ls (.int (t h 3) :: rest))) : W p l e R s m args below meth c H locs cells slots Q (F0 m pc ls (.ref (X.2.1 h) :: rest)) :=
  xgN B hS layX8 (reg_lt hh) (ceX8 hh _) rfl 3 (by decide) (List.mem_of_getElem? (i := 15) rfl) rfl rfl hdg kk
theorem pX3_63 (B : Bx p s m args c cc nL X RX3) (hS : SS X t H0 H locs) {h : Nat} (hh : isReg h) {x : Int32} (hdg : decode cc pc = .ok (.putfield 63, 3)) (kk : ∀ (H1 : Heap) (locs1 : List Loc), SS X (up t h 3 x) H0 H1 locs1 → W p l e R s m args below meth c H1 locs1 cells slots Q (F0 m (pc + 3) ls (rest))) : W p l e R s m args below meth c H locs cells slots Q (F0 m pc ls (.int x :: .ref (X.2.1 h) :: rest)) :=
  xpN B hS layX8 tyX8 tyX8_ok nmX8 (reg_lt hh) (ceX8 hh _) rfl 3 (by decide) (List.mem_of_getElem? (i := 15) rfl) rfl rfl rfl rfl rfl (Nat.le_of_ble_eq_true rfl) (ceX8 hh _) hdg kk
theorem gX8_40 (B : Bx p s m args c cc nL X RX8) (hS : SS X t H0 H locs) {h : Nat} (hh : isReg h) (hdg : decode cc pc = .ok (.getfield 40, 3)) (kk : W p l e R s m args below meth c H locs cells slots Q (F0 m (pc + 3) ls (.int (t h 4) :: rest))) : W p l e R s m args below meth c H locs cells slots Q (F0 m pc ls (.ref (X.2.1 h) :: rest)) :=
  xg B hS layX8 (reg_lt hh) (ceX8 hh _) rfl 4 (by decide) (tw_1 49 rfl rfl) rfl rfl hdg kk
theorem pX8_40 (B : Bx p s m args c cc nL X RX8) (hS : SS X t H0 H locs) {h : Nat} (hh : isReg h) {x : Int32} (hdg : decode cc pc = .ok (.putfield 40, 3)) (kk : ∀ (H1 : Heap) (locs1 : List Loc), SS X (up t h 4 x) H0 H1 locs1 → W p l e R s m args below meth c H1 locs1 cells slots Q (F0 m (pc + 3) ls (rest))) : W p l e R s m args below meth c H locs cells slots Q (F0 m pc ls (.int x :: .ref (X.2.1 h) :: rest)) :=
  xp B hS layX8 tyX8 tyX8_ok nmX8 (reg_lt hh) (ceX8 hh _) rfl 4 (by decide) (tw_1 49 rfl rfl) rfl rfl rfl rfl rfl (Nat.le_of_ble_eq_true rfl) (ceX8 hh _) hdg kk
theorem gX7_55 (B : Bx p s m args c cc nL X RX7) (hS : SS X t H0 H locs) {h : Nat} (hh : isReg h) (hdg : decode cc pc = .ok (.getfield 55, 3)) (kk : W p l e R s m args below meth c H locs cells slots Q (F0 m (pc + 3) ls (.int (t h 4) :: rest))) : W p l e R s m args below meth c H locs cells slots Q (F0 m pc ls (.ref (X.2.1 h) :: rest)) :=
  xgN B hS layX8 (reg_lt hh) (ceX8 hh _) rfl 4 (by decide) (List.mem_of_getElem? (i := 16) rfl) rfl rfl hdg kk
theorem pX7_55 (B : Bx p s m args c cc nL X RX7) (hS : SS X t H0 H locs) {h : Nat} (hh : isReg h) {x : Int32} (hdg : decode cc pc = .ok (.putfield 55, 3)) (kk : ∀ (H1 : Heap) (locs1 : List Loc), SS X (up t h 4 x) H0 H1 locs1 → W p l e R s m args below meth c H1 locs1 cells slots Q (F0 m (pc + 3) ls (rest))) : W p l e R s m args below meth c H locs cells slots Q (F0 m pc ls (.int x :: .ref (X.2.1 h) :: rest)) :=
  xpN B hS layX8 tyX8 tyX8_ok nmX8 (reg_lt hh) (ceX8 hh _) rfl 4 (by decide) (List.mem_of_getElem? (i := 16) rfl) rfl rfl rfl rfl rfl (Nat.le_of_ble_eq_true rfl) (ceX8 hh _) hdg kk
theorem gX10_132 (B : Bx p s m args c cc nL X RX10) (hS : SS X t H0 H locs) {h : Nat} (hh : isReg h) (hdg : decode cc pc = .ok (.getfield 132, 3)) (kk : W p l e R s m args below meth c H locs cells slots Q (F0 m (pc + 3) ls (.int (t h 4) :: rest))) : W p l e R s m args below meth c H locs cells slots Q (F0 m pc ls (.ref (X.2.1 h) :: rest)) :=
  xgN B hS layX8 (reg_lt hh) (ceX8 hh _) rfl 4 (by decide) (List.mem_of_getElem? (i := 17) rfl) rfl rfl hdg kk
theorem pX10_132 (B : Bx p s m args c cc nL X RX10) (hS : SS X t H0 H locs) {h : Nat} (hh : isReg h) {x : Int32} (hdg : decode cc pc = .ok (.putfield 132, 3)) (kk : ∀ (H1 : Heap) (locs1 : List Loc), SS X (up t h 4 x) H0 H1 locs1 → W p l e R s m args below meth c H1 locs1 cells slots Q (F0 m (pc + 3) ls (rest))) : W p l e R s m args below meth c H locs cells slots Q (F0 m pc ls (.int x :: .ref (X.2.1 h) :: rest)) :=
  xpN B hS layX8 tyX8 tyX8_ok nmX8 (reg_lt hh) (ceX8 hh _) rfl 4 (by decide) (List.mem_of_getElem? (i := 17) rfl) rfl rfl rfl rfl rfl (Nat.le_of_ble_eq_true rfl) (ceX8 hh _) hdg kk
theorem gX3_79 (B : Bx p s m args c cc nL X RX3) (hS : SS X t H0 H locs) {h : Nat} (hh : isReg h) (hdg : decode cc pc = .ok (.getfield 79, 3)) (kk : W p l e R s m args below meth c H locs cells slots Q (F0 m (pc + 3) ls (.int (t h 4) :: rest))) : W p l e R s m args below meth c H locs cells slots Q (F0 m pc ls (.ref (X.2.1 h) :: rest)) :=
  xgN B hS layX8 (reg_lt hh) (ceX8 hh _) rfl 4 (by decide) (List.mem_of_getElem? (i := 18) rfl) rfl rfl hdg kk
theorem pX3_79 (B : Bx p s m args c cc nL X RX3) (hS : SS X t H0 H locs) {h : Nat} (hh : isReg h) {x : Int32} (hdg : decode cc pc = .ok (.putfield 79, 3)) (kk : ∀ (H1 : Heap) (locs1 : List Loc), SS X (up t h 4 x) H0 H1 locs1 → W p l e R s m args below meth c H1 locs1 cells slots Q (F0 m (pc + 3) ls (rest))) : W p l e R s m args below meth c H locs cells slots Q (F0 m pc ls (.int x :: .ref (X.2.1 h) :: rest)) :=
  xpN B hS layX8 tyX8 tyX8_ok nmX8 (reg_lt hh) (ceX8 hh _) rfl 4 (by decide) (List.mem_of_getElem? (i := 18) rfl) rfl rfl rfl rfl rfl (Nat.le_of_ble_eq_true rfl) (ceX8 hh _) hdg kk
theorem gX8_9 (B : Bx p s m args c cc nL X RX8) (hS : SS X t H0 H locs) {h : Nat} (hh : isReg h) (hdg : decode cc pc = .ok (.getfield 9, 3)) (kk : W p l e R s m args below meth c H locs cells slots Q (F0 m (pc + 3) ls (.ref (X.2.1 (h + 1)) :: rest))) : W p l e R s m args below meth c H locs cells slots Q (F0 m pc ls (.ref (X.2.1 h) :: rest)) :=
  xg B hS layX8 (reg_lt hh) (ceX8 hh _) rfl 5 (by decide) (tw_1 53 rfl rfl) rfl rfl hdg kk
theorem gX10_177 (B : Bx p s m args c cc nL X RX10) (hS : SS X t H0 H locs) {h : Nat} (hh : isReg h) (hdg : decode cc pc = .ok (.getfield 177, 3)) (kk : W p l e R s m args below meth c H locs cells slots Q (F0 m (pc + 3) ls (.ref (X.2.1 (h + 1)) :: rest))) : W p l e R s m args below meth c H locs cells slots Q (F0 m pc ls (.ref (X.2.1 h) :: rest)) :=
  xgN B hS layX8 (reg_lt hh) (ceX8 hh _) rfl 5 (by decide) (List.mem_of_getElem? (i := 19) rfl) rfl rfl hdg kk
theorem gX3_88 (B : Bx p s m args c cc nL X RX3) (hS : SS X t H0 H locs) {h : Nat} (hh : isReg h) (hdg : decode cc pc = .ok (.getfield 88, 3)) (kk : W p l e R s m args below meth c H locs cells slots Q (F0 m (pc + 3) ls (.ref (X.2.1 (h + 1)) :: rest))) : W p l e R s m args below meth c H locs cells slots Q (F0 m pc ls (.ref (X.2.1 h) :: rest)) :=
  xgN B hS layX8 (reg_lt hh) (ceX8 hh _) rfl 5 (by decide) (List.mem_of_getElem? (i := 20) rfl) rfl rfl hdg kk
theorem gX8_15 (B : Bx p s m args c cc nL X RX8) (hS : SS X t H0 H locs) {h : Nat} (hh : isReg h) (hdg : decode cc pc = .ok (.getfield 15, 3)) (kk : W p l e R s m args below meth c H locs cells slots Q (F0 m (pc + 3) ls (.ref (X.2.1 (h + 2)) :: rest))) : W p l e R s m args below meth c H locs cells slots Q (F0 m pc ls (.ref (X.2.1 h) :: rest)) :=
  xg B hS layX8 (reg_lt hh) (ceX8 hh _) rfl 6 (by decide) (tw_1 56 rfl rfl) rfl rfl hdg kk
theorem gX3_44 (B : Bx p s m args c cc nL X RX3) (hS : SS X t H0 H locs) {h : Nat} (hh : isReg h) (hdg : decode cc pc = .ok (.getfield 44, 3)) (kk : W p l e R s m args below meth c H locs cells slots Q (F0 m (pc + 3) ls (.ref (X.2.1 (h + 2)) :: rest))) : W p l e R s m args below meth c H locs cells slots Q (F0 m pc ls (.ref (X.2.1 h) :: rest)) :=
  xgN B hS layX8 (reg_lt hh) (ceX8 hh _) rfl 6 (by decide) (List.mem_of_getElem? (i := 21) rfl) rfl rfl hdg kk
theorem gX8_18 (B : Bx p s m args c cc nL X RX8) (hS : SS X t H0 H locs) {h : Nat} (hh : isReg h) (hdg : decode cc pc = .ok (.getfield 18, 3)) (kk : W p l e R s m args below meth c H locs cells slots Q (F0 m (pc + 3) ls (.ref (X.2.1 (h + 3)) :: rest))) : W p l e R s m args below meth c H locs cells slots Q (F0 m pc ls (.ref (X.2.1 h) :: rest)) :=
  xg B hS layX8 (reg_lt hh) (ceX8 hh _) rfl 7 (by decide) (tw_1 58 rfl rfl) rfl rfl hdg kk
theorem gX3_47 (B : Bx p s m args c cc nL X RX3) (hS : SS X t H0 H locs) {h : Nat} (hh : isReg h) (hdg : decode cc pc = .ok (.getfield 47, 3)) (kk : W p l e R s m args below meth c H locs cells slots Q (F0 m (pc + 3) ls (.ref (X.2.1 (h + 3)) :: rest))) : W p l e R s m args below meth c H locs cells slots Q (F0 m pc ls (.ref (X.2.1 h) :: rest)) :=
  xgN B hS layX8 (reg_lt hh) (ceX8 hh _) rfl 7 (by decide) (List.mem_of_getElem? (i := 22) rfl) rfl rfl hdg kk
theorem gX8_21 (B : Bx p s m args c cc nL X RX8) (hS : SS X t H0 H locs) {h : Nat} (hh : isReg h) (hdg : decode cc pc = .ok (.getfield 21, 3)) (kk : W p l e R s m args below meth c H locs cells slots Q (F0 m (pc + 3) ls (.ref (X.2.1 (h + 4)) :: rest))) : W p l e R s m args below meth c H locs cells slots Q (F0 m pc ls (.ref (X.2.1 h) :: rest)) :=
  xg B hS layX8 (reg_lt hh) (ceX8 hh _) rfl 8 (by decide) (tw_1 60 rfl rfl) rfl rfl hdg kk
theorem gX9_40 (B : Bx p s m args c cc nL X RX9) (hS : SS X t H0 H locs) {h : Nat} (hh : isReg h) (hdg : decode cc pc = .ok (.getfield 40, 3)) (kk : W p l e R s m args below meth c H locs cells slots Q (F0 m (pc + 3) ls (.ref (X.2.1 (h + 4)) :: rest))) : W p l e R s m args below meth c H locs cells slots Q (F0 m pc ls (.ref (X.2.1 h) :: rest)) :=
  xgN B hS layX8 (reg_lt hh) (ceX8 hh _) rfl 8 (by decide) (List.mem_of_getElem? (i := 23) rfl) rfl rfl hdg kk
theorem gX10_187 (B : Bx p s m args c cc nL X RX10) (hS : SS X t H0 H locs) {h : Nat} (hh : isReg h) (hdg : decode cc pc = .ok (.getfield 187, 3)) (kk : W p l e R s m args below meth c H locs cells slots Q (F0 m (pc + 3) ls (.ref (X.2.1 (h + 4)) :: rest))) : W p l e R s m args below meth c H locs cells slots Q (F0 m pc ls (.ref (X.2.1 h) :: rest)) :=
  xgN B hS layX8 (reg_lt hh) (ceX8 hh _) rfl 8 (by decide) (List.mem_of_getElem? (i := 24) rfl) rfl rfl hdg kk
theorem gX8_24 (B : Bx p s m args c cc nL X RX8) (hS : SS X t H0 H locs) {h : Nat} (hh : isReg h) (hdg : decode cc pc = .ok (.getfield 24, 3)) (kk : W p l e R s m args below meth c H locs cells slots Q (F0 m (pc + 3) ls (.ref (X.2.1 (h + 5)) :: rest))) : W p l e R s m args below meth c H locs cells slots Q (F0 m pc ls (.ref (X.2.1 h) :: rest)) :=
  xg B hS layX8 (reg_lt hh) (ceX8 hh _) rfl 9 (by decide) (tw_1 63 rfl rfl) rfl rfl hdg kk
theorem gX3_50 (B : Bx p s m args c cc nL X RX3) (hS : SS X t H0 H locs) {h : Nat} (hh : isReg h) (hdg : decode cc pc = .ok (.getfield 50, 3)) (kk : W p l e R s m args below meth c H locs cells slots Q (F0 m (pc + 3) ls (.ref (X.2.1 (h + 5)) :: rest))) : W p l e R s m args below meth c H locs cells slots Q (F0 m pc ls (.ref (X.2.1 h) :: rest)) :=
  xgN B hS layX8 (reg_lt hh) (ceX8 hh _) rfl 9 (by decide) (List.mem_of_getElem? (i := 25) rfl) rfl rfl hdg kk
theorem gX3_37 (B : Bx p s m args c cc nL X RX3) (hS : SS X t H0 H locs) {h : Nat} (hh : isHall h) (hdg : decode cc pc = .ok (.getfield 37, 3)) (kk : W p l e R s m args below meth c H locs cells slots Q (F0 m (pc + 3) ls (.ref (X.2.1 3) :: rest))) : W p l e R s m args below meth c H locs cells slots Q (F0 m pc ls (.ref (X.2.1 h) :: rest)) :=
  xg B hS layX3 (hall_lt hh) (ceX3 hh _) rfl 0 (by decide) (tw_1 100 rfl rfl) rfl rfl hdg kk
theorem gX5_31 (B : Bx p s m args c cc nL X RX5) (hS : SS X t H0 H locs) {h : Nat} (hh : isHall h) (hdg : decode cc pc = .ok (.getfield 31, 3)) (kk : W p l e R s m args below meth c H locs cells slots Q (F0 m (pc + 3) ls (.ref (X.2.1 3) :: rest))) : W p l e R s m args below meth c H locs cells slots Q (F0 m pc ls (.ref (X.2.1 h) :: rest)) :=
  xgN B hS layX3 (hall_lt hh) (ceX3 hh _) rfl 0 (by decide) (List.mem_of_getElem? (i := 26) rfl) rfl rfl hdg kk
theorem gX3_9 (B : Bx p s m args c cc nL X RX3) (hS : SS X t H0 H locs) {h : Nat} (hh : isHall h) (hdg : decode cc pc = .ok (.getfield 9, 3)) (kk : W p l e R s m args below meth c H locs cells slots Q (F0 m (pc + 3) ls (.int (t h 1) :: rest))) : W p l e R s m args below meth c H locs cells slots Q (F0 m pc ls (.ref (X.2.1 h) :: rest)) :=
  xg B hS layX3 (hall_lt hh) (ceX3 hh _) rfl 1 (by decide) (tw_1 102 rfl rfl) rfl rfl hdg kk
theorem pX3_9 (B : Bx p s m args c cc nL X RX3) (hS : SS X t H0 H locs) {h : Nat} (hh : isHall h) {x : Int32} (hdg : decode cc pc = .ok (.putfield 9, 3)) (kk : ∀ (H1 : Heap) (locs1 : List Loc), SS X (up t h 1 x) H0 H1 locs1 → W p l e R s m args below meth c H1 locs1 cells slots Q (F0 m (pc + 3) ls (rest))) : W p l e R s m args below meth c H locs cells slots Q (F0 m pc ls (.int x :: .ref (X.2.1 h) :: rest)) :=
  xp B hS layX3 tyX3 tyX3_ok nmX3 (hall_lt hh) (ceX3 hh _) rfl 1 (by decide) (tw_1 102 rfl rfl) rfl rfl rfl rfl rfl (Nat.le_of_ble_eq_true rfl) (ceX3 hh _) hdg kk
theorem gX2_60 (B : Bx p s m args c cc nL X RX2) (hS : SS X t H0 H locs) {h : Nat} (hh : isHall h) (hdg : decode cc pc = .ok (.getfield 60, 3)) (kk : W p l e R s m args below meth c H locs cells slots Q (F0 m (pc + 3) ls (.int (t h 1) :: rest))) : W p l e R s m args below meth c H locs cells slots Q (F0 m pc ls (.ref (X.2.1 h) :: rest)) :=
  xgN B hS layX3 (hall_lt hh) (ceX3 hh _) rfl 1 (by decide) (List.mem_of_getElem? (i := 27) rfl) rfl rfl hdg kk
theorem pX2_60 (B : Bx p s m args c cc nL X RX2) (hS : SS X t H0 H locs) {h : Nat} (hh : isHall h) {x : Int32} (hdg : decode cc pc = .ok (.putfield 60, 3)) (kk : ∀ (H1 : Heap) (locs1 : List Loc), SS X (up t h 1 x) H0 H1 locs1 → W p l e R s m args below meth c H1 locs1 cells slots Q (F0 m (pc + 3) ls (rest))) : W p l e R s m args below meth c H locs cells slots Q (F0 m pc ls (.int x :: .ref (X.2.1 h) :: rest)) :=
  xpN B hS layX3 tyX3 tyX3_ok nmX3 (hall_lt hh) (ceX3 hh _) rfl 1 (by decide) (List.mem_of_getElem? (i := 27) rfl) rfl rfl rfl rfl rfl (Nat.le_of_ble_eq_true rfl) (ceX3 hh _) hdg kk
theorem gX10_123 (B : Bx p s m args c cc nL X RX10) (hS : SS X t H0 H locs) {h : Nat} (hh : isHall h) (hdg : decode cc pc = .ok (.getfield 123, 3)) (kk : W p l e R s m args below meth c H locs cells slots Q (F0 m (pc + 3) ls (.int (t h 1) :: rest))) : W p l e R s m args below meth c H locs cells slots Q (F0 m pc ls (.ref (X.2.1 h) :: rest)) :=
  xgN B hS layX3 (hall_lt hh) (ceX3 hh _) rfl 1 (by decide) (List.mem_of_getElem? (i := 28) rfl) rfl rfl hdg kk
theorem pX10_123 (B : Bx p s m args c cc nL X RX10) (hS : SS X t H0 H locs) {h : Nat} (hh : isHall h) {x : Int32} (hdg : decode cc pc = .ok (.putfield 123, 3)) (kk : ∀ (H1 : Heap) (locs1 : List Loc), SS X (up t h 1 x) H0 H1 locs1 → W p l e R s m args below meth c H1 locs1 cells slots Q (F0 m (pc + 3) ls (rest))) : W p l e R s m args below meth c H locs cells slots Q (F0 m pc ls (.int x :: .ref (X.2.1 h) :: rest)) :=
  xpN B hS layX3 tyX3 tyX3_ok nmX3 (hall_lt hh) (ceX3 hh _) rfl 1 (by decide) (List.mem_of_getElem? (i := 28) rfl) rfl rfl rfl rfl rfl (Nat.le_of_ble_eq_true rfl) (ceX3 hh _) hdg kk
theorem gX3_15 (B : Bx p s m args c cc nL X RX3) (hS : SS X t H0 H locs) {h : Nat} (hh : isHall h) (hdg : decode cc pc = .ok (.getfield 15, 3)) (kk : W p l e R s m args below meth c H locs cells slots Q (F0 m (pc + 3) ls (.int (t h 2) :: rest))) : W p l e R s m args below meth c H locs cells slots Q (F0 m pc ls (.ref (X.2.1 h) :: rest)) :=
  xg B hS layX3 (hall_lt hh) (ceX3 hh _) rfl 2 (by decide) (tw_1 105 rfl rfl) rfl rfl hdg kk
theorem pX3_15 (B : Bx p s m args c cc nL X RX3) (hS : SS X t H0 H locs) {h : Nat} (hh : isHall h) {x : Int32} (hdg : decode cc pc = .ok (.putfield 15, 3)) (kk : ∀ (H1 : Heap) (locs1 : List Loc), SS X (up t h 2 x) H0 H1 locs1 → W p l e R s m args below meth c H1 locs1 cells slots Q (F0 m (pc + 3) ls (rest))) : W p l e R s m args below meth c H locs cells slots Q (F0 m pc ls (.int x :: .ref (X.2.1 h) :: rest)) :=
  xp B hS layX3 tyX3 tyX3_ok nmX3 (hall_lt hh) (ceX3 hh _) rfl 2 (by decide) (tw_1 105 rfl rfl) rfl rfl rfl rfl rfl (Nat.le_of_ble_eq_true rfl) (ceX3 hh _) hdg kk
theorem gX10_135 (B : Bx p s m args c cc nL X RX10) (hS : SS X t H0 H locs) {h : Nat} (hh : isHall h) (hdg : decode cc pc = .ok (.getfield 135, 3)) (kk : W p l e R s m args below meth c H locs cells slots Q (F0 m (pc + 3) ls (.int (t h 2) :: rest))) : W p l e R s m args below meth c H locs cells slots Q (F0 m pc ls (.ref (X.2.1 h) :: rest)) :=
  xgN B hS layX3 (hall_lt hh) (ceX3 hh _) rfl 2 (by decide) (List.mem_of_getElem? (i := 29) rfl) rfl rfl hdg kk
theorem pX10_135 (B : Bx p s m args c cc nL X RX10) (hS : SS X t H0 H locs) {h : Nat} (hh : isHall h) {x : Int32} (hdg : decode cc pc = .ok (.putfield 135, 3)) (kk : ∀ (H1 : Heap) (locs1 : List Loc), SS X (up t h 2 x) H0 H1 locs1 → W p l e R s m args below meth c H1 locs1 cells slots Q (F0 m (pc + 3) ls (rest))) : W p l e R s m args below meth c H locs cells slots Q (F0 m pc ls (.int x :: .ref (X.2.1 h) :: rest)) :=
  xpN B hS layX3 tyX3 tyX3_ok nmX3 (hall_lt hh) (ceX3 hh _) rfl 2 (by decide) (List.mem_of_getElem? (i := 29) rfl) rfl rfl rfl rfl rfl (Nat.le_of_ble_eq_true rfl) (ceX3 hh _) hdg kk
theorem gX3_18 (B : Bx p s m args c cc nL X RX3) (hS : SS X t H0 H locs) {h : Nat} (hh : isHall h) (hdg : decode cc pc = .ok (.getfield 18, 3)) (kk : W p l e R s m args below meth c H locs cells slots Q (F0 m (pc + 3) ls (.int (t h 3) :: rest))) : W p l e R s m args below meth c H locs cells slots Q (F0 m pc ls (.ref (X.2.1 h) :: rest)) :=
  xg B hS layX3 (hall_lt hh) (ceX3 hh _) rfl 3 (by decide) (tw_1 107 rfl rfl) rfl rfl hdg kk
theorem pX3_18 (B : Bx p s m args c cc nL X RX3) (hS : SS X t H0 H locs) {h : Nat} (hh : isHall h) {x : Int32} (hdg : decode cc pc = .ok (.putfield 18, 3)) (kk : ∀ (H1 : Heap) (locs1 : List Loc), SS X (up t h 3 x) H0 H1 locs1 → W p l e R s m args below meth c H1 locs1 cells slots Q (F0 m (pc + 3) ls (rest))) : W p l e R s m args below meth c H locs cells slots Q (F0 m pc ls (.int x :: .ref (X.2.1 h) :: rest)) :=
  xp B hS layX3 tyX3 tyX3_ok nmX3 (hall_lt hh) (ceX3 hh _) rfl 3 (by decide) (tw_1 107 rfl rfl) rfl rfl rfl rfl rfl (Nat.le_of_ble_eq_true rfl) (ceX3 hh _) hdg kk
theorem gX10_142 (B : Bx p s m args c cc nL X RX10) (hS : SS X t H0 H locs) {h : Nat} (hh : isHall h) (hdg : decode cc pc = .ok (.getfield 142, 3)) (kk : W p l e R s m args below meth c H locs cells slots Q (F0 m (pc + 3) ls (.int (t h 3) :: rest))) : W p l e R s m args below meth c H locs cells slots Q (F0 m pc ls (.ref (X.2.1 h) :: rest)) :=
  xgN B hS layX3 (hall_lt hh) (ceX3 hh _) rfl 3 (by decide) (List.mem_of_getElem? (i := 30) rfl) rfl rfl hdg kk
theorem pX10_142 (B : Bx p s m args c cc nL X RX10) (hS : SS X t H0 H locs) {h : Nat} (hh : isHall h) {x : Int32} (hdg : decode cc pc = .ok (.putfield 142, 3)) (kk : ∀ (H1 : Heap) (locs1 : List Loc), SS X (up t h 3 x) H0 H1 locs1 → W p l e R s m args below meth c H1 locs1 cells slots Q (F0 m (pc + 3) ls (rest))) : W p l e R s m args below meth c H locs cells slots Q (F0 m pc ls (.int x :: .ref (X.2.1 h) :: rest)) :=
  xpN B hS layX3 tyX3 tyX3_ok nmX3 (hall_lt hh) (ceX3 hh _) rfl 3 (by decide) (List.mem_of_getElem? (i := 30) rfl) rfl rfl rfl rfl rfl (Nat.le_of_ble_eq_true rfl) (ceX3 hh _) hdg kk
theorem gX3_21 (B : Bx p s m args c cc nL X RX3) (hS : SS X t H0 H locs) {h : Nat} (hh : isHall h) (hdg : decode cc pc = .ok (.getfield 21, 3)) (kk : W p l e R s m args below meth c H locs cells slots Q (F0 m (pc + 3) ls (.int (t h 4) :: rest))) : W p l e R s m args below meth c H locs cells slots Q (F0 m pc ls (.ref (X.2.1 h) :: rest)) :=
  xg B hS layX3 (hall_lt hh) (ceX3 hh _) rfl 4 (by decide) (tw_1 109 rfl rfl) rfl rfl hdg kk
theorem pX3_21 (B : Bx p s m args c cc nL X RX3) (hS : SS X t H0 H locs) {h : Nat} (hh : isHall h) {x : Int32} (hdg : decode cc pc = .ok (.putfield 21, 3)) (kk : ∀ (H1 : Heap) (locs1 : List Loc), SS X (up t h 4 x) H0 H1 locs1 → W p l e R s m args below meth c H1 locs1 cells slots Q (F0 m (pc + 3) ls (rest))) : W p l e R s m args below meth c H locs cells slots Q (F0 m pc ls (.int x :: .ref (X.2.1 h) :: rest)) :=
  xp B hS layX3 tyX3 tyX3_ok nmX3 (hall_lt hh) (ceX3 hh _) rfl 4 (by decide) (tw_1 109 rfl rfl) rfl rfl rfl rfl rfl (Nat.le_of_ble_eq_true rfl) (ceX3 hh _) hdg kk
theorem gX10_145 (B : Bx p s m args c cc nL X RX10) (hS : SS X t H0 H locs) {h : Nat} (hh : isHall h) (hdg : decode cc pc = .ok (.getfield 145, 3)) (kk : W p l e R s m args below meth c H locs cells slots Q (F0 m (pc + 3) ls (.int (t h 4) :: rest))) : W p l e R s m args below meth c H locs cells slots Q (F0 m pc ls (.ref (X.2.1 h) :: rest)) :=
  xgN B hS layX3 (hall_lt hh) (ceX3 hh _) rfl 4 (by decide) (List.mem_of_getElem? (i := 31) rfl) rfl rfl hdg kk
theorem pX10_145 (B : Bx p s m args c cc nL X RX10) (hS : SS X t H0 H locs) {h : Nat} (hh : isHall h) {x : Int32} (hdg : decode cc pc = .ok (.putfield 145, 3)) (kk : ∀ (H1 : Heap) (locs1 : List Loc), SS X (up t h 4 x) H0 H1 locs1 → W p l e R s m args below meth c H1 locs1 cells slots Q (F0 m (pc + 3) ls (rest))) : W p l e R s m args below meth c H locs cells slots Q (F0 m pc ls (.int x :: .ref (X.2.1 h) :: rest)) :=
  xpN B hS layX3 tyX3 tyX3_ok nmX3 (hall_lt hh) (ceX3 hh _) rfl 4 (by decide) (List.mem_of_getElem? (i := 31) rfl) rfl rfl rfl rfl rfl (Nat.le_of_ble_eq_true rfl) (ceX3 hh _) hdg kk
theorem gX3_24 (B : Bx p s m args c cc nL X RX3) (hS : SS X t H0 H locs) {h : Nat} (hh : isHall h) (hdg : decode cc pc = .ok (.getfield 24, 3)) (kk : W p l e R s m args below meth c H locs cells slots Q (F0 m (pc + 3) ls (.ref (X.2.1 (h + 1)) :: rest))) : W p l e R s m args below meth c H locs cells slots Q (F0 m pc ls (.ref (X.2.1 h) :: rest)) :=
  xg B hS layX3 (hall_lt hh) (ceX3 hh _) rfl 5 (by decide) (tw_1 111 rfl rfl) rfl rfl hdg kk
theorem gX10_181 (B : Bx p s m args c cc nL X RX10) (hS : SS X t H0 H locs) {h : Nat} (hh : isHall h) (hdg : decode cc pc = .ok (.getfield 181, 3)) (kk : W p l e R s m args below meth c H locs cells slots Q (F0 m (pc + 3) ls (.ref (X.2.1 (h + 1)) :: rest))) : W p l e R s m args below meth c H locs cells slots Q (F0 m pc ls (.ref (X.2.1 h) :: rest)) :=
  xgN B hS layX3 (hall_lt hh) (ceX3 hh _) rfl 5 (by decide) (List.mem_of_getElem? (i := 32) rfl) rfl rfl hdg kk
theorem gX3_28 (B : Bx p s m args c cc nL X RX3) (hS : SS X t H0 H locs) {h : Nat} (hh : isHall h) (hdg : decode cc pc = .ok (.getfield 28, 3)) (kk : W p l e R s m args below meth c H locs cells slots Q (F0 m (pc + 3) ls (.ref (X.2.1 (h + 2)) :: rest))) : W p l e R s m args below meth c H locs cells slots Q (F0 m pc ls (.ref (X.2.1 h) :: rest)) :=
  xg B hS layX3 (hall_lt hh) (ceX3 hh _) rfl 6 (by decide) (tw_1 113 rfl rfl) rfl rfl hdg kk
theorem gX5_43 (B : Bx p s m args c cc nL X RX5) (hS : SS X t H0 H locs) {h : Nat} (hh : isHall h) (hdg : decode cc pc = .ok (.getfield 43, 3)) (kk : W p l e R s m args below meth c H locs cells slots Q (F0 m (pc + 3) ls (.ref (X.2.1 (h + 2)) :: rest))) : W p l e R s m args below meth c H locs cells slots Q (F0 m pc ls (.ref (X.2.1 h) :: rest)) :=
  xgN B hS layX3 (hall_lt hh) (ceX3 hh _) rfl 6 (by decide) (List.mem_of_getElem? (i := 33) rfl) rfl rfl hdg kk
theorem gX10_184 (B : Bx p s m args c cc nL X RX10) (hS : SS X t H0 H locs) {h : Nat} (hh : isHall h) (hdg : decode cc pc = .ok (.getfield 184, 3)) (kk : W p l e R s m args below meth c H locs cells slots Q (F0 m (pc + 3) ls (.ref (X.2.1 (h + 2)) :: rest))) : W p l e R s m args below meth c H locs cells slots Q (F0 m pc ls (.ref (X.2.1 h) :: rest)) :=
  xgN B hS layX3 (hall_lt hh) (ceX3 hh _) rfl 6 (by decide) (List.mem_of_getElem? (i := 34) rfl) rfl rfl hdg kk
theorem gX3_31 (B : Bx p s m args c cc nL X RX3) (hS : SS X t H0 H locs) {h : Nat} (hh : isHall h) (hdg : decode cc pc = .ok (.getfield 31, 3)) (kk : W p l e R s m args below meth c H locs cells slots Q (F0 m (pc + 3) ls (.ref (X.2.1 (h + 3)) :: rest))) : W p l e R s m args below meth c H locs cells slots Q (F0 m pc ls (.ref (X.2.1 h) :: rest)) :=
  xg B hS layX3 (hall_lt hh) (ceX3 hh _) rfl 7 (by decide) (tw_1 116 rfl rfl) rfl rfl hdg kk
theorem gX10_190 (B : Bx p s m args c cc nL X RX10) (hS : SS X t H0 H locs) {h : Nat} (hh : isHall h) (hdg : decode cc pc = .ok (.getfield 190, 3)) (kk : W p l e R s m args below meth c H locs cells slots Q (F0 m (pc + 3) ls (.ref (X.2.1 (h + 3)) :: rest))) : W p l e R s m args below meth c H locs cells slots Q (F0 m pc ls (.ref (X.2.1 h) :: rest)) :=
  xgN B hS layX3 (hall_lt hh) (ceX3 hh _) rfl 7 (by decide) (List.mem_of_getElem? (i := 35) rfl) rfl rfl hdg kk
theorem gX3_34 (B : Bx p s m args c cc nL X RX3) (hS : SS X t H0 H locs) {h : Nat} (hh : isHall h) (hdg : decode cc pc = .ok (.getfield 34, 3)) (kk : W p l e R s m args below meth c H locs cells slots Q (F0 m (pc + 3) ls (.ref (X.2.1 (h + 4)) :: rest))) : W p l e R s m args below meth c H locs cells slots Q (F0 m pc ls (.ref (X.2.1 h) :: rest)) :=
  xg B hS layX3 (hall_lt hh) (ceX3 hh _) rfl 8 (by decide) (tw_1 118 rfl rfl) rfl rfl hdg kk
theorem gX10_247 (B : Bx p s m args c cc nL X RX10) (hS : SS X t H0 H locs) {h : Nat} (hh : isHall h) (hdg : decode cc pc = .ok (.getfield 247, 3)) (kk : W p l e R s m args below meth c H locs cells slots Q (F0 m (pc + 3) ls (.ref (X.2.1 (h + 4)) :: rest))) : W p l e R s m args below meth c H locs cells slots Q (F0 m pc ls (.ref (X.2.1 h) :: rest)) :=
  xgN B hS layX3 (hall_lt hh) (ceX3 hh _) rfl 8 (by decide) (List.mem_of_getElem? (i := 36) rfl) rfl rfl hdg kk
theorem gX4_22 (B : Bx p s m args c cc nL X RX4) (hS : SS X t H0 H locs) {h : Nat} (hh : isImg h) (hdg : decode cc pc = .ok (.getfield 22, 3)) (kk : W p l e R s m args below meth c H locs cells slots Q (F0 m (pc + 3) ls (.ref (X.2.1 (imgH h)) :: rest))) : W p l e R s m args below meth c H locs cells slots Q (F0 m pc ls (.ref (X.2.1 h) :: rest)) :=
  xg B hS layX4 (img_lt hh) (ceX4 hh _) rfl 0 (by decide) (tw_1 139 rfl rfl) rfl rfl hdg kk
theorem gX10_324 (B : Bx p s m args c cc nL X RX10) (hS : SS X t H0 H locs) {h : Nat} (hh : isImg h) (hdg : decode cc pc = .ok (.getfield 324, 3)) (kk : W p l e R s m args below meth c H locs cells slots Q (F0 m (pc + 3) ls (.ref (X.2.1 (imgH h)) :: rest))) : W p l e R s m args below meth c H locs cells slots Q (F0 m pc ls (.ref (X.2.1 h) :: rest)) :=
  xgN B hS layX4 (img_lt hh) (ceX4 hh _) rfl 0 (by decide) (List.mem_of_getElem? (i := 37) rfl) rfl rfl hdg kk
theorem gX4_7 (B : Bx p s m args c cc nL X RX4) (hS : SS X t H0 H locs) {h : Nat} (hh : isImg h) (hdg : decode cc pc = .ok (.getfield 7, 3)) (kk : W p l e R s m args below meth c H locs cells slots Q (F0 m (pc + 3) ls (.int (t h 1) :: rest))) : W p l e R s m args below meth c H locs cells slots Q (F0 m pc ls (.ref (X.2.1 h) :: rest)) :=
  xg B hS layX4 (img_lt hh) (ceX4 hh _) rfl 1 (by decide) (tw_1 141 rfl rfl) rfl rfl hdg kk
theorem pX4_7 (B : Bx p s m args c cc nL X RX4) (hS : SS X t H0 H locs) {h : Nat} (hh : isImg h) {x : Int32} (hdg : decode cc pc = .ok (.putfield 7, 3)) (kk : ∀ (H1 : Heap) (locs1 : List Loc), SS X (up t h 1 x) H0 H1 locs1 → W p l e R s m args below meth c H1 locs1 cells slots Q (F0 m (pc + 3) ls (rest))) : W p l e R s m args below meth c H locs cells slots Q (F0 m pc ls (.int x :: .ref (X.2.1 h) :: rest)) :=
  xp B hS layX4 tyX4 tyX4_ok nmX4 (img_lt hh) (ceX4 hh _) rfl 1 (by decide) (tw_1 141 rfl rfl) rfl rfl rfl rfl rfl (Nat.le_of_ble_eq_true rfl) (ceX4 hh _) hdg kk
theorem gX10_327 (B : Bx p s m args c cc nL X RX10) (hS : SS X t H0 H locs) {h : Nat} (hh : isImg h) (hdg : decode cc pc = .ok (.getfield 327, 3)) (kk : W p l e R s m args below meth c H locs cells slots Q (F0 m (pc + 3) ls (.int (t h 1) :: rest))) : W p l e R s m args below meth c H locs cells slots Q (F0 m pc ls (.ref (X.2.1 h) :: rest)) :=
  xgN B hS layX4 (img_lt hh) (ceX4 hh _) rfl 1 (by decide) (List.mem_of_getElem? (i := 38) rfl) rfl rfl hdg kk
theorem pX10_327 (B : Bx p s m args c cc nL X RX10) (hS : SS X t H0 H locs) {h : Nat} (hh : isImg h) {x : Int32} (hdg : decode cc pc = .ok (.putfield 327, 3)) (kk : ∀ (H1 : Heap) (locs1 : List Loc), SS X (up t h 1 x) H0 H1 locs1 → W p l e R s m args below meth c H1 locs1 cells slots Q (F0 m (pc + 3) ls (rest))) : W p l e R s m args below meth c H locs cells slots Q (F0 m pc ls (.int x :: .ref (X.2.1 h) :: rest)) :=
  xpN B hS layX4 tyX4 tyX4_ok nmX4 (img_lt hh) (ceX4 hh _) rfl 1 (by decide) (List.mem_of_getElem? (i := 38) rfl) rfl rfl rfl rfl rfl (Nat.le_of_ble_eq_true rfl) (ceX4 hh _) hdg kk
theorem gX4_13 (B : Bx p s m args c cc nL X RX4) (hS : SS X t H0 H locs) {h : Nat} (hh : isImg h) (hdg : decode cc pc = .ok (.getfield 13, 3)) (kk : W p l e R s m args below meth c H locs cells slots Q (F0 m (pc + 3) ls (.int (t h 2) :: rest))) : W p l e R s m args below meth c H locs cells slots Q (F0 m pc ls (.ref (X.2.1 h) :: rest)) :=
  xg B hS layX4 (img_lt hh) (ceX4 hh _) rfl 2 (by decide) (tw_1 143 rfl rfl) rfl rfl hdg kk
theorem pX4_13 (B : Bx p s m args c cc nL X RX4) (hS : SS X t H0 H locs) {h : Nat} (hh : isImg h) {x : Int32} (hx : narrow .boolean (.int x) = .int x) (hdg : decode cc pc = .ok (.putfield 13, 3)) (kk : ∀ (H1 : Heap) (locs1 : List Loc), SS X (up t h 2 x) H0 H1 locs1 → W p l e R s m args below meth c H1 locs1 cells slots Q (F0 m (pc + 3) ls (rest))) : W p l e R s m args below meth c H locs cells slots Q (F0 m pc ls (.int x :: .ref (X.2.1 h) :: rest)) :=
  xp B hS layX4 tyX4 tyX4_ok nmX4 (img_lt hh) (ceX4 hh _) rfl 2 (by decide) (tw_1 143 rfl rfl) rfl rfl rfl hx rfl (Nat.le_of_ble_eq_true rfl) (ceX4 hh _) hdg kk
theorem gX10_113 (B : Bx p s m args c cc nL X RX10) (hS : SS X t H0 H locs) {h : Nat} (hh : isImg h) (hdg : decode cc pc = .ok (.getfield 113, 3)) (kk : W p l e R s m args below meth c H locs cells slots Q (F0 m (pc + 3) ls (.int (t h 2) :: rest))) : W p l e R s m args below meth c H locs cells slots Q (F0 m pc ls (.ref (X.2.1 h) :: rest)) :=
  xgN B hS layX4 (img_lt hh) (ceX4 hh _) rfl 2 (by decide) (List.mem_of_getElem? (i := 39) rfl) rfl rfl hdg kk
theorem pX10_113 (B : Bx p s m args c cc nL X RX10) (hS : SS X t H0 H locs) {h : Nat} (hh : isImg h) {x : Int32} (hx : narrow .boolean (.int x) = .int x) (hdg : decode cc pc = .ok (.putfield 113, 3)) (kk : ∀ (H1 : Heap) (locs1 : List Loc), SS X (up t h 2 x) H0 H1 locs1 → W p l e R s m args below meth c H1 locs1 cells slots Q (F0 m (pc + 3) ls (rest))) : W p l e R s m args below meth c H locs cells slots Q (F0 m pc ls (.int x :: .ref (X.2.1 h) :: rest)) :=
  xpN B hS layX4 tyX4 tyX4_ok nmX4 (img_lt hh) (ceX4 hh _) rfl 2 (by decide) (List.mem_of_getElem? (i := 39) rfl) rfl rfl rfl hx rfl (Nat.le_of_ble_eq_true rfl) (ceX4 hh _) hdg kk
theorem gX7_9 (B : Bx p s m args c cc nL X RX7) (hS : SS X t H0 H locs) (hdg : decode cc pc = .ok (.getfield 9, 3)) (kk : W p l e R s m args below meth c H locs cells slots Q (F0 m (pc + 3) ls (.ref (X.2.1 2) :: rest))) : W p l e R s m args below meth c H locs cells slots Q (F0 m pc ls (.ref (X.2.1 1) :: rest)) :=
  xg B hS layX7 (by decide) (ceX7 _) rfl 0 (by decide) (tw_1 158 rfl rfl) rfl rfl hdg kk
theorem gX7_15 (B : Bx p s m args c cc nL X RX7) (hS : SS X t H0 H locs) (hdg : decode cc pc = .ok (.getfield 15, 3)) (kk : W p l e R s m args below meth c H locs cells slots Q (F0 m (pc + 3) ls (.int (t 1 1) :: rest))) : W p l e R s m args below meth c H locs cells slots Q (F0 m pc ls (.ref (X.2.1 1) :: rest)) :=
  xg B hS layX7 (by decide) (ceX7 _) rfl 1 (by decide) (tw_1 159 rfl rfl) rfl rfl hdg kk
theorem pX7_15 (B : Bx p s m args c cc nL X RX7) (hS : SS X t H0 H locs) {x : Int32} (hdg : decode cc pc = .ok (.putfield 15, 3)) (kk : ∀ (H1 : Heap) (locs1 : List Loc), SS X (up t 1 1 x) H0 H1 locs1 → W p l e R s m args below meth c H1 locs1 cells slots Q (F0 m (pc + 3) ls (rest))) : W p l e R s m args below meth c H locs cells slots Q (F0 m pc ls (.int x :: .ref (X.2.1 1) :: rest)) :=
  xp B hS layX7 tyX7 tyX7_ok nmX7 (by decide) (ceX7 _) rfl 1 (by decide) (tw_1 159 rfl rfl) rfl rfl rfl rfl rfl (Nat.le_of_ble_eq_true rfl) (ceX7 _) hdg kk
theorem gX10_92 (B : Bx p s m args c cc nL X RX10) (hS : SS X t H0 H locs) (hdg : decode cc pc = .ok (.getfield 92, 3)) (kk : W p l e R s m args below meth c H locs cells slots Q (F0 m (pc + 3) ls (.int (t 1 1) :: rest))) : W p l e R s m args below meth c H locs cells slots Q (F0 m pc ls (.ref (X.2.1 1) :: rest)) :=
  xgN B hS layX7 (by decide) (ceX7 _) rfl 1 (by decide) (List.mem_of_getElem? (i := 41) rfl) rfl rfl hdg kk
theorem pX10_92 (B : Bx p s m args c cc nL X RX10) (hS : SS X t H0 H locs) {x : Int32} (hdg : decode cc pc = .ok (.putfield 92, 3)) (kk : ∀ (H1 : Heap) (locs1 : List Loc), SS X (up t 1 1 x) H0 H1 locs1 → W p l e R s m args below meth c H1 locs1 cells slots Q (F0 m (pc + 3) ls (rest))) : W p l e R s m args below meth c H locs cells slots Q (F0 m pc ls (.int x :: .ref (X.2.1 1) :: rest)) :=
  xpN B hS layX7 tyX7 tyX7_ok nmX7 (by decide) (ceX7 _) rfl 1 (by decide) (List.mem_of_getElem? (i := 41) rfl) rfl rfl rfl rfl rfl (Nat.le_of_ble_eq_true rfl) (ceX7 _) hdg kk
theorem gX7_19 (B : Bx p s m args c cc nL X RX7) (hS : SS X t H0 H locs) (hdg : decode cc pc = .ok (.getfield 19, 3)) (kk : W p l e R s m args below meth c H locs cells slots Q (F0 m (pc + 3) ls (.int (t 1 2) :: rest))) : W p l e R s m args below meth c H locs cells slots Q (F0 m pc ls (.ref (X.2.1 1) :: rest)) :=
  xg B hS layX7 (by decide) (ceX7 _) rfl 2 (by decide) (tw_1 161 rfl rfl) rfl rfl hdg kk
theorem pX7_19 (B : Bx p s m args c cc nL X RX7) (hS : SS X t H0 H locs) {x : Int32} (hdg : decode cc pc = .ok (.putfield 19, 3)) (kk : ∀ (H1 : Heap) (locs1 : List Loc), SS X (up t 1 2 x) H0 H1 locs1 → W p l e R s m args below meth c H1 locs1 cells slots Q (F0 m (pc + 3) ls (rest))) : W p l e R s m args below meth c H locs cells slots Q (F0 m pc ls (.int x :: .ref (X.2.1 1) :: rest)) :=
  xp B hS layX7 tyX7 tyX7_ok nmX7 (by decide) (ceX7 _) rfl 2 (by decide) (tw_1 161 rfl rfl) rfl rfl rfl rfl rfl (Nat.le_of_ble_eq_true rfl) (ceX7 _) hdg kk
theorem gX7_22 (B : Bx p s m args c cc nL X RX7) (hS : SS X t H0 H locs) (hdg : decode cc pc = .ok (.getfield 22, 3)) (kk : W p l e R s m args below meth c H locs cells slots Q (F0 m (pc + 3) ls (.int (t 1 3) :: rest))) : W p l e R s m args below meth c H locs cells slots Q (F0 m pc ls (.ref (X.2.1 1) :: rest)) :=
  xg B hS layX7 (by decide) (ceX7 _) rfl 3 (by decide) (tw_1 162 rfl rfl) rfl rfl hdg kk
theorem pX7_22 (B : Bx p s m args c cc nL X RX7) (hS : SS X t H0 H locs) {x : Int32} (hdg : decode cc pc = .ok (.putfield 22, 3)) (kk : ∀ (H1 : Heap) (locs1 : List Loc), SS X (up t 1 3 x) H0 H1 locs1 → W p l e R s m args below meth c H1 locs1 cells slots Q (F0 m (pc + 3) ls (rest))) : W p l e R s m args below meth c H locs cells slots Q (F0 m pc ls (.int x :: .ref (X.2.1 1) :: rest)) :=
  xp B hS layX7 tyX7 tyX7_ok nmX7 (by decide) (ceX7 _) rfl 3 (by decide) (tw_1 162 rfl rfl) rfl rfl rfl rfl rfl (Nat.le_of_ble_eq_true rfl) (ceX7 _) hdg kk
theorem gX7_25 (B : Bx p s m args c cc nL X RX7) (hS : SS X t H0 H locs) (hdg : decode cc pc = .ok (.getfield 25, 3)) (kk : W p l e R s m args below meth c H locs cells slots Q (F0 m (pc + 3) ls (.int (t 1 4) :: rest))) : W p l e R s m args below meth c H locs cells slots Q (F0 m pc ls (.ref (X.2.1 1) :: rest)) :=
  xg B hS layX7 (by decide) (ceX7 _) rfl 4 (by decide) (tw_1 163 rfl rfl) rfl rfl hdg kk
theorem pX7_25 (B : Bx p s m args c cc nL X RX7) (hS : SS X t H0 H locs) {x : Int32} (hdg : decode cc pc = .ok (.putfield 25, 3)) (kk : ∀ (H1 : Heap) (locs1 : List Loc), SS X (up t 1 4 x) H0 H1 locs1 → W p l e R s m args below meth c H1 locs1 cells slots Q (F0 m (pc + 3) ls (rest))) : W p l e R s m args below meth c H locs cells slots Q (F0 m pc ls (.int x :: .ref (X.2.1 1) :: rest)) :=
  xp B hS layX7 tyX7 tyX7_ok nmX7 (by decide) (ceX7 _) rfl 4 (by decide) (tw_1 163 rfl rfl) rfl rfl rfl rfl rfl (Nat.le_of_ble_eq_true rfl) (ceX7 _) hdg kk
theorem gX10_120 (B : Bx p s m args c cc nL X RX10) (hS : SS X t H0 H locs) (hdg : decode cc pc = .ok (.getfield 120, 3)) (kk : W p l e R s m args below meth c H locs cells slots Q (F0 m (pc + 3) ls (.int (t 1 4) :: rest))) : W p l e R s m args below meth c H locs cells slots Q (F0 m pc ls (.ref (X.2.1 1) :: rest)) :=
  xgN B hS layX7 (by decide) (ceX7 _) rfl 4 (by decide) (List.mem_of_getElem? (i := 42) rfl) rfl rfl hdg kk
theorem pX10_120 (B : Bx p s m args c cc nL X RX10) (hS : SS X t H0 H locs) {x : Int32} (hdg : decode cc pc = .ok (.putfield 120, 3)) (kk : ∀ (H1 : Heap) (locs1 : List Loc), SS X (up t 1 4 x) H0 H1 locs1 → W p l e R s m args below meth c H1 locs1 cells slots Q (F0 m (pc + 3) ls (rest))) : W p l e R s m args below meth c H locs cells slots Q (F0 m pc ls (.int x :: .ref (X.2.1 1) :: rest)) :=
  xpN B hS layX7 tyX7 tyX7_ok nmX7 (by decide) (ceX7 _) rfl 4 (by decide) (List.mem_of_getElem? (i := 42) rfl) rfl rfl rfl rfl rfl (Nat.le_of_ble_eq_true rfl) (ceX7 _) hdg kk
theorem gX6_11 (B : Bx p s m args c cc nL X RX6) (hS : SS X t H0 H locs) (hdg : decode cc pc = .ok (.getfield 11, 3)) (kk : W p l e R s m args below meth c H locs cells slots Q (F0 m (pc + 3) ls (.ref (X.2.1 16) :: rest))) : W p l e R s m args below meth c H locs cells slots Q (F0 m pc ls (.ref (X.2.1 15) :: rest)) :=
  xg B hS layX6 (by decide) (ceX6 _) rfl 0 (by decide) (tw_1 187 rfl rfl) rfl rfl hdg kk
theorem gX6_17 (B : Bx p s m args c cc nL X RX6) (hS : SS X t H0 H locs) (hdg : decode cc pc = .ok (.getfield 17, 3)) (kk : W p l e R s m args below meth c H locs cells slots Q (F0 m (pc + 3) ls (.int (t 15 1) :: rest))) : W p l e R s m args below meth c H locs cells slots Q (F0 m pc ls (.ref (X.2.1 15) :: rest)) :=
  xg B hS layX6 (by decide) (ceX6 _) rfl 1 (by decide) (tw_1 188 rfl rfl) rfl rfl hdg kk
theorem pX6_17 (B : Bx p s m args c cc nL X RX6) (hS : SS X t H0 H locs) {x : Int32} (hdg : decode cc pc = .ok (.putfield 17, 3)) (kk : ∀ (H1 : Heap) (locs1 : List Loc), SS X (up t 15 1 x) H0 H1 locs1 → W p l e R s m args below meth c H1 locs1 cells slots Q (F0 m (pc + 3) ls (rest))) : W p l e R s m args below meth c H locs cells slots Q (F0 m pc ls (.int x :: .ref (X.2.1 15) :: rest)) :=
  xp B hS layX6 tyX6 tyX6_ok nmX6 (by decide) (ceX6 _) rfl 1 (by decide) (tw_1 188 rfl rfl) rfl rfl rfl rfl rfl (Nat.le_of_ble_eq_true rfl) (ceX6 _) hdg kk
theorem gX6_21 (B : Bx p s m args c cc nL X RX6) (hS : SS X t H0 H locs) (hdg : decode cc pc = .ok (.getfield 21, 3)) (kk : W p l e R s m args below meth c H locs cells slots Q (F0 m (pc + 3) ls (.int (t 15 2) :: rest))) : W p l e R s m args below meth c H locs cells slots Q (F0 m pc ls (.ref (X.2.1 15) :: rest)) :=
  xg B hS layX6 (by decide) (ceX6 _) rfl 2 (by decide) (tw_1 189 rfl rfl) rfl rfl hdg kk
theorem pX6_21 (B : Bx p s m args c cc nL X RX6) (hS : SS X t H0 H locs) {x : Int32} (hdg : decode cc pc = .ok (.putfield 21, 3)) (kk : ∀ (H1 : Heap) (locs1 : List Loc), SS X (up t 15 2 x) H0 H1 locs1 → W p l e R s m args below meth c H1 locs1 cells slots Q (F0 m (pc + 3) ls (rest))) : W p l e R s m args below meth c H locs cells slots Q (F0 m pc ls (.int x :: .ref (X.2.1 15) :: rest)) :=
  xp B hS layX6 tyX6 tyX6_ok nmX6 (by decide) (ceX6 _) rfl 2 (by decide) (tw_1 189 rfl rfl) rfl rfl rfl rfl rfl (Nat.le_of_ble_eq_true rfl) (ceX6 _) hdg kk
theorem gX10_170 (B : Bx p s m args c cc nL X RX10) (hS : SS X t H0 H locs) (hdg : decode cc pc = .ok (.getfield 170, 3)) (kk : W p l e R s m args below meth c H locs cells slots Q (F0 m (pc + 3) ls (.int (t 15 2) :: rest))) : W p l e R s m args below meth c H locs cells slots Q (F0 m pc ls (.ref (X.2.1 15) :: rest)) :=
  xgN B hS layX6 (by decide) (ceX6 _) rfl 2 (by decide) (List.mem_of_getElem? (i := 43) rfl) rfl rfl hdg kk
theorem pX10_170 (B : Bx p s m args c cc nL X RX10) (hS : SS X t H0 H locs) {x : Int32} (hdg : decode cc pc = .ok (.putfield 170, 3)) (kk : ∀ (H1 : Heap) (locs1 : List Loc), SS X (up t 15 2 x) H0 H1 locs1 → W p l e R s m args below meth c H1 locs1 cells slots Q (F0 m (pc + 3) ls (rest))) : W p l e R s m args below meth c H locs cells slots Q (F0 m pc ls (.int x :: .ref (X.2.1 15) :: rest)) :=
  xpN B hS layX6 tyX6 tyX6_ok nmX6 (by decide) (ceX6 _) rfl 2 (by decide) (List.mem_of_getElem? (i := 43) rfl) rfl rfl rfl rfl rfl (Nat.le_of_ble_eq_true rfl) (ceX6 _) hdg kk
theorem gX5_9 (B : Bx p s m args c cc nL X RX5) (hS : SS X t H0 H locs) (hdg : decode cc pc = .ok (.getfield 9, 3)) (kk : W p l e R s m args below meth c H locs cells slots Q (F0 m (pc + 3) ls (.ref (X.2.1 21) :: rest))) : W p l e R s m args below meth c H locs cells slots Q (F0 m pc ls (.ref (X.2.1 20) :: rest)) :=
  xg B hS layX5 (by decide) (ceX5 _) rfl 0 (by decide) (tw_1 204 rfl rfl) rfl rfl hdg kk
theorem gX5_15 (B : Bx p s m args c cc nL X RX5) (hS : SS X t H0 H locs) (hdg : decode cc pc = .ok (.getfield 15, 3)) (kk : W p l e R s m args below meth c H locs cells slots Q (F0 m (pc + 3) ls (.ref (X.2.1 22) :: rest))) : W p l e R s m args below meth c H locs cells slots Q (F0 m pc ls (.ref (X.2.1 20) :: rest)) :=
  xg B hS layX5 (by decide) (ceX5 _) rfl 1 (by decide) (tw_1 205 rfl rfl) rfl rfl hdg kk
theorem gX5_18 (B : Bx p s m args c cc nL X RX5) (hS : SS X t H0 H locs) (hdg : decode cc pc = .ok (.getfield 18, 3)) (kk : W p l e R s m args below meth c H locs cells slots Q (F0 m (pc + 3) ls (.ref (X.2.1 23) :: rest))) : W p l e R s m args below meth c H locs cells slots Q (F0 m pc ls (.ref (X.2.1 20) :: rest)) :=
  xg B hS layX5 (by decide) (ceX5 _) rfl 2 (by decide) (tw_1 206 rfl rfl) rfl rfl hdg kk
theorem gX5_21 (B : Bx p s m args c cc nL X RX5) (hS : SS X t H0 H locs) (hdg : decode cc pc = .ok (.getfield 21, 3)) (kk : W p l e R s m args below meth c H locs cells slots Q (F0 m (pc + 3) ls (.ref (X.2.1 24) :: rest))) : W p l e R s m args below meth c H locs cells slots Q (F0 m pc ls (.ref (X.2.1 20) :: rest)) :=
  xg B hS layX5 (by decide) (ceX5 _) rfl 3 (by decide) (tw_1 207 rfl rfl) rfl rfl hdg kk
theorem gX5_24 (B : Bx p s m args c cc nL X RX5) (hS : SS X t H0 H locs) (hdg : decode cc pc = .ok (.getfield 24, 3)) (kk : W p l e R s m args below meth c H locs cells slots Q (F0 m (pc + 3) ls (.int (t 20 4) :: rest))) : W p l e R s m args below meth c H locs cells slots Q (F0 m pc ls (.ref (X.2.1 20) :: rest)) :=
  xg B hS layX5 (by decide) (ceX5 _) rfl 4 (by decide) (tw_1 208 rfl rfl) rfl rfl hdg kk
theorem pX5_24 (B : Bx p s m args c cc nL X RX5) (hS : SS X t H0 H locs) {x : Int32} (hdg : decode cc pc = .ok (.putfield 24, 3)) (kk : ∀ (H1 : Heap) (locs1 : List Loc), SS X (up t 20 4 x) H0 H1 locs1 → W p l e R s m args below meth c H1 locs1 cells slots Q (F0 m (pc + 3) ls (rest))) : W p l e R s m args below meth c H locs cells slots Q (F0 m pc ls (.int x :: .ref (X.2.1 20) :: rest)) :=
  xp B hS layX5 tyX5 tyX5_ok nmX5 (by decide) (ceX5 _) rfl 4 (by decide) (tw_1 208 rfl rfl) rfl rfl rfl rfl rfl (Nat.le_of_ble_eq_true rfl) (ceX5 _) hdg kk
theorem gX10_160 (B : Bx p s m args c cc nL X RX10) (hS : SS X t H0 H locs) (hdg : decode cc pc = .ok (.getfield 160, 3)) (kk : W p l e R s m args below meth c H locs cells slots Q (F0 m (pc + 3) ls (.int (t 20 4) :: rest))) : W p l e R s m args below meth c H locs cells slots Q (F0 m pc ls (.ref (X.2.1 20) :: rest)) :=
  xgN B hS layX5 (by decide) (ceX5 _) rfl 4 (by decide) (List.mem_of_getElem? (i := 45) rfl) rfl rfl hdg kk
theorem pX10_160 (B : Bx p s m args c cc nL X RX10) (hS : SS X t H0 H locs) {x : Int32} (hdg : decode cc pc = .ok (.putfield 160, 3)) (kk : ∀ (H1 : Heap) (locs1 : List Loc), SS X (up t 20 4 x) H0 H1 locs1 → W p l e R s m args below meth c H1 locs1 cells slots Q (F0 m (pc + 3) ls (rest))) : W p l e R s m args below meth c H locs cells slots Q (F0 m pc ls (.int x :: .ref (X.2.1 20) :: rest)) :=
  xpN B hS layX5 tyX5 tyX5_ok nmX5 (by decide) (ceX5 _) rfl 4 (by decide) (List.mem_of_getElem? (i := 45) rfl) rfl rfl rfl rfl rfl (Nat.le_of_ble_eq_true rfl) (ceX5 _) hdg kk
theorem gX5_28 (B : Bx p s m args c cc nL X RX5) (hS : SS X t H0 H locs) (hdg : decode cc pc = .ok (.getfield 28, 3)) (kk : W p l e R s m args below meth c H locs cells slots Q (F0 m (pc + 3) ls (.int (t 20 5) :: rest))) : W p l e R s m args below meth c H locs cells slots Q (F0 m pc ls (.ref (X.2.1 20) :: rest)) :=
  xg B hS layX5 (by decide) (ceX5 _) rfl 5 (by decide) (tw_1 210 rfl rfl) rfl rfl hdg kk
theorem pX5_28 (B : Bx p s m args c cc nL X RX5) (hS : SS X t H0 H locs) {x : Int32} (hdg : decode cc pc = .ok (.putfield 28, 3)) (kk : ∀ (H1 : Heap) (locs1 : List Loc), SS X (up t 20 5 x) H0 H1 locs1 → W p l e R s m args below meth c H1 locs1 cells slots Q (F0 m (pc + 3) ls (rest))) : W p l e R s m args below meth c H locs cells slots Q (F0 m pc ls (.int x :: .ref (X.2.1 20) :: rest)) :=
  xp B hS layX5 tyX5 tyX5_ok nmX5 (by decide) (ceX5 _) rfl 5 (by decide) (tw_1 210 rfl rfl) rfl rfl rfl rfl rfl (Nat.le_of_ble_eq_true rfl) (ceX5 _) hdg kk
theorem gX10_167 (B : Bx p s m args c cc nL X RX10) (hS : SS X t H0 H locs) (hdg : decode cc pc = .ok (.getfield 167, 3)) (kk : W p l e R s m args below meth c H locs cells slots Q (F0 m (pc + 3) ls (.int (t 20 5) :: rest))) : W p l e R s m args below meth c H locs cells slots Q (F0 m pc ls (.ref (X.2.1 20) :: rest)) :=
  xgN B hS layX5 (by decide) (ceX5 _) rfl 5 (by decide) (List.mem_of_getElem? (i := 46) rfl) rfl rfl hdg kk
theorem pX10_167 (B : Bx p s m args c cc nL X RX10) (hS : SS X t H0 H locs) {x : Int32} (hdg : decode cc pc = .ok (.putfield 167, 3)) (kk : ∀ (H1 : Heap) (locs1 : List Loc), SS X (up t 20 5 x) H0 H1 locs1 → W p l e R s m args below meth c H1 locs1 cells slots Q (F0 m (pc + 3) ls (rest))) : W p l e R s m args below meth c H locs cells slots Q (F0 m pc ls (.int x :: .ref (X.2.1 20) :: rest)) :=
  xpN B hS layX5 tyX5 tyX5_ok nmX5 (by decide) (ceX5 _) rfl 5 (by decide) (List.mem_of_getElem? (i := 46) rfl) rfl rfl rfl rfl rfl (Nat.le_of_ble_eq_true rfl) (ceX5 _) hdg kk
theorem gX0_9 (B : Bx p s m args c cc nL X RX0) (hS : SS X t H0 H locs) (hdg : decode cc pc = .ok (.getfield 9, 3)) (kk : W p l e R s m args below meth c H locs cells slots Q (F0 m (pc + 3) ls (.int (t 25 0) :: rest))) : W p l e R s m args below meth c H locs cells slots Q (F0 m pc ls (.ref (X.2.1 25) :: rest)) :=
  xg B hS layX0 (by decide) (ceX0 _) rfl 0 (by decide) (tw_1 231 rfl rfl) rfl rfl hdg kk
theorem pX0_9 (B : Bx p s m args c cc nL X RX0) (hS : SS X t H0 H locs) {x : Int32} (hdg : decode cc pc = .ok (.putfield 9, 3)) (kk : ∀ (H1 : Heap) (locs1 : List Loc), SS X (up t 25 0 x) H0 H1 locs1 → W p l e R s m args below meth c H1 locs1 cells slots Q (F0 m (pc + 3) ls (rest))) : W p l e R s m args below meth c H locs cells slots Q (F0 m pc ls (.int x :: .ref (X.2.1 25) :: rest)) :=
  xp B hS layX0 tyX0 tyX0_ok nmX0 (by decide) (ceX0 _) rfl 0 (by decide) (tw_1 231 rfl rfl) rfl rfl rfl rfl rfl (Nat.le_of_ble_eq_true rfl) (ceX0 _) hdg kk
theorem gX10_332 (B : Bx p s m args c cc nL X RX10) (hS : SS X t H0 H locs) (hdg : decode cc pc = .ok (.getfield 332, 3)) (kk : W p l e R s m args below meth c H locs cells slots Q (F0 m (pc + 3) ls (.int (t 25 0) :: rest))) : W p l e R s m args below meth c H locs cells slots Q (F0 m pc ls (.ref (X.2.1 25) :: rest)) :=
  xgN B hS layX0 (by decide) (ceX0 _) rfl 0 (by decide) (List.mem_of_getElem? (i := 48) rfl) rfl rfl hdg kk
theorem pX10_332 (B : Bx p s m args c cc nL X RX10) (hS : SS X t H0 H locs) {x : Int32} (hdg : decode cc pc = .ok (.putfield 332, 3)) (kk : ∀ (H1 : Heap) (locs1 : List Loc), SS X (up t 25 0 x) H0 H1 locs1 → W p l e R s m args below meth c H1 locs1 cells slots Q (F0 m (pc + 3) ls (rest))) : W p l e R s m args below meth c H locs cells slots Q (F0 m pc ls (.int x :: .ref (X.2.1 25) :: rest)) :=
  xpN B hS layX0 tyX0 tyX0_ok nmX0 (by decide) (ceX0 _) rfl 0 (by decide) (List.mem_of_getElem? (i := 48) rfl) rfl rfl rfl rfl rfl (Nat.le_of_ble_eq_true rfl) (ceX0 _) hdg kk
theorem gX0_15 (B : Bx p s m args c cc nL X RX0) (hS : SS X t H0 H locs) (hdg : decode cc pc = .ok (.getfield 15, 3)) (kk : W p l e R s m args below meth c H locs cells slots Q (F0 m (pc + 3) ls (.int (t 25 1) :: rest))) : W p l e R s m args below meth c H locs cells slots Q (F0 m pc ls (.ref (X.2.1 25) :: rest)) :=
  xg B hS layX0 (by decide) (ceX0 _) rfl 1 (by decide) (tw_1 233 rfl rfl) rfl rfl hdg kk
theorem pX0_15 (B : Bx p s m args c cc nL X RX0) (hS : SS X t H0 H locs) {x : Int32} (hdg : decode cc pc = .ok (.putfield 15, 3)) (kk : ∀ (H1 : Heap) (locs1 : List Loc), SS X (up t 25 1 x) H0 H1 locs1 → W p l e R s m args below meth c H1 locs1 cells slots Q (F0 m (pc + 3) ls (rest))) : W p l e R s m args below meth c H locs cells slots Q (F0 m pc ls (.int x :: .ref (X.2.1 25) :: rest)) :=
  xp B hS layX0 tyX0 tyX0_ok nmX0 (by decide) (ceX0 _) rfl 1 (by decide) (tw_1 233 rfl rfl) rfl rfl rfl rfl rfl (Nat.le_of_ble_eq_true rfl) (ceX0 _) hdg kk
theorem gX10_333 (B : Bx p s m args c cc nL X RX10) (hS : SS X t H0 H locs) (hdg : decode cc pc = .ok (.getfield 333, 3)) (kk : W p l e R s m args below meth c H locs cells slots Q (F0 m (pc + 3) ls (.int (t 25 1) :: rest))) : W p l e R s m args below meth c H locs cells slots Q (F0 m pc ls (.ref (X.2.1 25) :: rest)) :=
  xgN B hS layX0 (by decide) (ceX0 _) rfl 1 (by decide) (List.mem_of_getElem? (i := 49) rfl) rfl rfl hdg kk
theorem pX10_333 (B : Bx p s m args c cc nL X RX10) (hS : SS X t H0 H locs) {x : Int32} (hdg : decode cc pc = .ok (.putfield 333, 3)) (kk : ∀ (H1 : Heap) (locs1 : List Loc), SS X (up t 25 1 x) H0 H1 locs1 → W p l e R s m args below meth c H1 locs1 cells slots Q (F0 m (pc + 3) ls (rest))) : W p l e R s m args below meth c H locs cells slots Q (F0 m pc ls (.int x :: .ref (X.2.1 25) :: rest)) :=
  xpN B hS layX0 tyX0 tyX0_ok nmX0 (by decide) (ceX0 _) rfl 1 (by decide) (List.mem_of_getElem? (i := 49) rfl) rfl rfl rfl rfl rfl (Nat.le_of_ble_eq_true rfl) (ceX0 _) hdg kk
theorem gX0_18 (B : Bx p s m args c cc nL X RX0) (hS : SS X t H0 H locs) (hdg : decode cc pc = .ok (.getfield 18, 3)) (kk : W p l e R s m args below meth c H locs cells slots Q (F0 m (pc + 3) ls (.ref (X.2.1 26) :: rest))) : W p l e R s m args below meth c H locs cells slots Q (F0 m pc ls (.ref (X.2.1 25) :: rest)) :=
  xg B hS layX0 (by decide) (ceX0 _) rfl 2 (by decide) (tw_1 235 rfl rfl) rfl rfl hdg kk
theorem gX9_24 (B : Bx p s m args c cc nL X RX9) (hS : SS X t H0 H locs) (hdg : decode cc pc = .ok (.getfield 24, 3)) (kk : W p l e R s m args below meth c H locs cells slots Q (F0 m (pc + 3) ls (.ref (X.2.1 3) :: rest))) : W p l e R s m args below meth c H locs cells slots Q (F0 m pc ls (.ref (X.2.1 27) :: rest)) :=
  xg B hS layX9 (by decide) (ceX9 _) rfl 0 (by decide) (tw_2 11 rfl rfl) rfl rfl hdg kk
theorem gX9_11 (B : Bx p s m args c cc nL X RX9) (hS : SS X t H0 H locs) (hdg : decode cc pc = .ok (.getfield 11, 3)) (kk : W p l e R s m args below meth c H locs cells slots Q (F0 m (pc + 3) ls (.ref (X.2.1 28) :: rest))) : W p l e R s m args below meth c H locs cells slots Q (F0 m pc ls (.ref (X.2.1 27) :: rest)) :=
  xg B hS layX9 (by decide) (ceX9 _) rfl 1 (by decide) (tw_2 12 rfl rfl) rfl rfl hdg kk
theorem gX9_16 (B : Bx p s m args c cc nL X RX9) (hS : SS X t H0 H locs) (hdg : decode cc pc = .ok (.getfield 16, 3)) (kk : W p l e R s m args below meth c H locs cells slots Q (F0 m (pc + 3) ls (.ref (X.2.1 38) :: rest))) : W p l e R s m args below meth c H locs cells slots Q (F0 m pc ls (.ref (X.2.1 27) :: rest)) :=
  xg B hS layX9 (by decide) (ceX9 _) rfl 2 (by decide) (tw_2 13 rfl rfl) rfl rfl hdg kk
theorem gX10_289 (B : Bx p s m args c cc nL X RX10) (hS : SS X t H0 H locs) (hdg : decode cc pc = .ok (.getfield 289, 3)) (kk : W p l e R s m args below meth c H locs cells slots Q (F0 m (pc + 3) ls (.ref (X.2.1 38) :: rest))) : W p l e R s m args below meth c H locs cells slots Q (F0 m pc ls (.ref (X.2.1 27) :: rest)) :=
  xgN B hS layX9 (by decide) (ceX9 _) rfl 2 (by decide) (List.mem_of_getElem? (i := 50) rfl) rfl rfl hdg kk
theorem gX9_20 (B : Bx p s m args c cc nL X RX9) (hS : SS X t H0 H locs) (hdg : decode cc pc = .ok (.getfield 20, 3)) (kk : W p l e R s m args below meth c H locs cells slots Q (F0 m (pc + 3) ls (.int (t 27 3) :: rest))) : W p l e R s m args below meth c H locs cells slots Q (F0 m pc ls (.ref (X.2.1 27) :: rest)) :=
  xg B hS layX9 (by decide) (ceX9 _) rfl 3 (by decide) (tw_2 15 rfl rfl) rfl rfl hdg kk
theorem pX9_20 (B : Bx p s m args c cc nL X RX9) (hS : SS X t H0 H locs) {x : Int32} (hdg : decode cc pc = .ok (.putfield 20, 3)) (kk : ∀ (H1 : Heap) (locs1 : List Loc), SS X (up t 27 3 x) H0 H1 locs1 → W p l e R s m args below meth c H1 locs1 cells slots Q (F0 m (pc + 3) ls (rest))) : W p l e R s m args below meth c H locs cells slots Q (F0 m pc ls (.int x :: .ref (X.2.1 27) :: rest)) :=
  xp B hS layX9 tyX9 tyX9_ok nmX9 (by decide) (ceX9 _) rfl 3 (by decide) (tw_2 15 rfl rfl) rfl rfl rfl rfl rfl (Nat.le_of_ble_eq_true rfl) (ceX9 _) hdg kk
theorem gX10_286 (B : Bx p s m args c cc nL X RX10) (hS : SS X t H0 H locs) (hdg : decode cc pc = .ok (.getfield 286, 3)) (kk : W p l e R s m args below meth c H locs cells slots Q (F0 m (pc + 3) ls (.int (t 27 3) :: rest))) : W p l e R s m args below meth c H locs cells slots Q (F0 m pc ls (.ref (X.2.1 27) :: rest)) :=
  xgN B hS layX9 (by decide) (ceX9 _) rfl 3 (by decide) (List.mem_of_getElem? (i := 51) rfl) rfl rfl hdg kk
theorem pX10_286 (B : Bx p s m args c cc nL X RX10) (hS : SS X t H0 H locs) {x : Int32} (hdg : decode cc pc = .ok (.putfield 286, 3)) (kk : ∀ (H1 : Heap) (locs1 : List Loc), SS X (up t 27 3 x) H0 H1 locs1 → W p l e R s m args below meth c H1 locs1 cells slots Q (F0 m (pc + 3) ls (rest))) : W p l e R s m args below meth c H locs cells slots Q (F0 m pc ls (.int x :: .ref (X.2.1 27) :: rest)) :=
  xpN B hS layX9 tyX9 tyX9_ok nmX9 (by decide) (ceX9 _) rfl 3 (by decide) (List.mem_of_getElem? (i := 51) rfl) rfl rfl rfl rfl rfl (Nat.le_of_ble_eq_true rfl) (ceX9 _) hdg kk
theorem gX2_28 (B : Bx p s m args c cc nL X RX2) (hS : SS X t H0 H locs) (hdg : decode cc pc = .ok (.getfield 28, 3)) (kk : W p l e R s m args below meth c H locs cells slots Q (F0 m (pc + 3) ls (.ref (X.2.1 3) :: rest))) : W p l e R s m args below meth c H locs cells slots Q (F0 m pc ls (.ref (X.2.1 39) :: rest)) :=
  xg B hS layX2 (by decide) (ceX2 _) rfl 0 (by decide) (tw_2 32 rfl rfl) rfl rfl hdg kk
theorem gX2_9 (B : Bx p s m args c cc nL X RX2) (hS : SS X t H0 H locs) (hdg : decode cc pc = .ok (.getfield 9, 3)) (kk : W p l e R s m args below meth c H locs cells slots Q (F0 m (pc + 3) ls (.ref (X.2.1 40) :: rest))) : W p l e R s m args below meth c H locs cells slots Q (F0 m pc ls (.ref (X.2.1 39) :: rest)) :=
  xg B hS layX2 (by decide) (ceX2 _) rfl 1 (by decide) (tw_2 33 rfl rfl) rfl rfl hdg kk
theorem gX2_15 (B : Bx p s m args c cc nL X RX2) (hS : SS X t H0 H locs) (hdg : decode cc pc = .ok (.getfield 15, 3)) (kk : W p l e R s m args below meth c H locs cells slots Q (F0 m (pc + 3) ls (.ref (X.2.1 41) :: rest))) : W p l e R s m args below meth c H locs cells slots Q (F0 m pc ls (.ref (X.2.1 39) :: rest)) :=
  xg B hS layX2 (by decide) (ceX2 _) rfl 2 (by decide) (tw_2 34 rfl rfl) rfl rfl hdg kk
theorem gX2_18 (B : Bx p s m args c cc nL X RX2) (hS : SS X t H0 H locs) (hdg : decode cc pc = .ok (.getfield 18, 3)) (kk : W p l e R s m args below meth c H locs cells slots Q (F0 m (pc + 3) ls (.ref (X.2.1 42) :: rest))) : W p l e R s m args below meth c H locs cells slots Q (F0 m pc ls (.ref (X.2.1 39) :: rest)) :=
  xg B hS layX2 (by decide) (ceX2 _) rfl 3 (by decide) (tw_2 35 rfl rfl) rfl rfl hdg kk
theorem gX10_299 (B : Bx p s m args c cc nL X RX10) (hS : SS X t H0 H locs) (hdg : decode cc pc = .ok (.getfield 299, 3)) (kk : W p l e R s m args below meth c H locs cells slots Q (F0 m (pc + 3) ls (.ref (X.2.1 42) :: rest))) : W p l e R s m args below meth c H locs cells slots Q (F0 m pc ls (.ref (X.2.1 39) :: rest)) :=
  xgN B hS layX2 (by decide) (ceX2 _) rfl 3 (by decide) (List.mem_of_getElem? (i := 52) rfl) rfl rfl hdg kk
theorem gX2_21 (B : Bx p s m args c cc nL X RX2) (hS : SS X t H0 H locs) (hdg : decode cc pc = .ok (.getfield 21, 3)) (kk : W p l e R s m args below meth c H locs cells slots Q (F0 m (pc + 3) ls (.int (t 39 4) :: rest))) : W p l e R s m args below meth c H locs cells slots Q (F0 m pc ls (.ref (X.2.1 39) :: rest)) :=
  xg B hS layX2 (by decide) (ceX2 _) rfl 4 (by decide) (tw_2 37 rfl rfl) rfl rfl hdg kk
theorem pX2_21 (B : Bx p s m args c cc nL X RX2) (hS : SS X t H0 H locs) {x : Int32} (hdg : decode cc pc = .ok (.putfield 21, 3)) (kk : ∀ (H1 : Heap) (locs1 : List Loc), SS X (up t 39 4 x) H0 H1 locs1 → W p l e R s m args below meth c H1 locs1 cells slots Q (F0 m (pc + 3) ls (rest))) : W p l e R s m args below meth c H locs cells slots Q (F0 m pc ls (.int x :: .ref (X.2.1 39) :: rest)) :=
  xp B hS layX2 tyX2 tyX2_ok nmX2 (by decide) (ceX2 _) rfl 4 (by decide) (tw_2 37 rfl rfl) rfl rfl rfl rfl rfl (Nat.le_of_ble_eq_true rfl) (ceX2 _) hdg kk
theorem gX2_25 (B : Bx p s m args c cc nL X RX2) (hS : SS X t H0 H locs) (hdg : decode cc pc = .ok (.getfield 25, 3)) (kk : W p l e R s m args below meth c H locs cells slots Q (F0 m (pc + 3) ls (.int (t 39 5) :: rest))) : W p l e R s m args below meth c H locs cells slots Q (F0 m pc ls (.ref (X.2.1 39) :: rest)) :=
  xg B hS layX2 (by decide) (ceX2 _) rfl 5 (by decide) (tw_2 38 rfl rfl) rfl rfl hdg kk
theorem pX2_25 (B : Bx p s m args c cc nL X RX2) (hS : SS X t H0 H locs) {x : Int32} (hdg : decode cc pc = .ok (.putfield 25, 3)) (kk : ∀ (H1 : Heap) (locs1 : List Loc), SS X (up t 39 5 x) H0 H1 locs1 → W p l e R s m args below meth c H1 locs1 cells slots Q (F0 m (pc + 3) ls (rest))) : W p l e R s m args below meth c H locs cells slots Q (F0 m pc ls (.int x :: .ref (X.2.1 39) :: rest)) :=
  xp B hS layX2 tyX2 tyX2_ok nmX2 (by decide) (ceX2 _) rfl 5 (by decide) (tw_2 38 rfl rfl) rfl rfl rfl rfl rfl (Nat.le_of_ble_eq_true rfl) (ceX2 _) hdg kk
theorem gX10_296 (B : Bx p s m args c cc nL X RX10) (hS : SS X t H0 H locs) (hdg : decode cc pc = .ok (.getfield 296, 3)) (kk : W p l e R s m args below meth c H locs cells slots Q (F0 m (pc + 3) ls (.int (t 39 5) :: rest))) : W p l e R s m args below meth c H locs cells slots Q (F0 m pc ls (.ref (X.2.1 39) :: rest)) :=
  xgN B hS layX2 (by decide) (ceX2 _) rfl 5 (by decide) (List.mem_of_getElem? (i := 53) rfl) rfl rfl hdg kk
theorem pX10_296 (B : Bx p s m args c cc nL X RX10) (hS : SS X t H0 H locs) {x : Int32} (hdg : decode cc pc = .ok (.putfield 296, 3)) (kk : ∀ (H1 : Heap) (locs1 : List Loc), SS X (up t 39 5 x) H0 H1 locs1 → W p l e R s m args below meth c H1 locs1 cells slots Q (F0 m (pc + 3) ls (rest))) : W p l e R s m args below meth c H locs cells slots Q (F0 m pc ls (.int x :: .ref (X.2.1 39) :: rest)) :=
  xpN B hS layX2 tyX2 tyX2_ok nmX2 (by decide) (ceX2 _) rfl 5 (by decide) (List.mem_of_getElem? (i := 53) rfl) rfl rfl rfl rfl rfl (Nat.le_of_ble_eq_true rfl) (ceX2 _) hdg kk
theorem gX1_7 (B : Bx p s m args c cc nL X RX1) (hS : SS X t H0 H locs) (hdg : decode cc pc = .ok (.getfield 7, 3)) (kk : W p l e R s m args below meth c H locs cells slots Q (F0 m (pc + 3) ls (.int (t 43 0) :: rest))) : W p l e R s m args below meth c H locs cells slots Q (F0 m pc ls (.ref (X.2.1 43) :: rest)) :=
  xg B hS layX1 (by decide) (ceX1 _) rfl 0 (by decide) (tw_2 59 rfl rfl) rfl rfl hdg kk
theorem pX1_7 (B : Bx p s m args c cc nL X RX1) (hS : SS X t H0 H locs) {x : Int32} (hdg : decode cc pc = .ok (.putfield 7, 3)) (kk : ∀ (H1 : Heap) (locs1 : List Loc), SS X (up t 43 0 x) H0 H1 locs1 → W p l e R s m args below meth c H1 locs1 cells slots Q (F0 m (pc + 3) ls (rest))) : W p l e R s m args below meth c H locs cells slots Q (F0 m pc ls (.int x :: .ref (X.2.1 43) :: rest)) :=
  xp B hS layX1 tyX1 tyX1_ok nmX1 (by decide) (ceX1 _) rfl 0 (by decide) (tw_2 59 rfl rfl) rfl rfl rfl rfl rfl (Nat.le_of_ble_eq_true rfl) (ceX1 _) hdg kk
theorem gX10_321 (B : Bx p s m args c cc nL X RX10) (hS : SS X t H0 H locs) (hdg : decode cc pc = .ok (.getfield 321, 3)) (kk : W p l e R s m args below meth c H locs cells slots Q (F0 m (pc + 3) ls (.int (t 43 0) :: rest))) : W p l e R s m args below meth c H locs cells slots Q (F0 m pc ls (.ref (X.2.1 43) :: rest)) :=
  xgN B hS layX1 (by decide) (ceX1 _) rfl 0 (by decide) (List.mem_of_getElem? (i := 55) rfl) rfl rfl hdg kk
theorem pX10_321 (B : Bx p s m args c cc nL X RX10) (hS : SS X t H0 H locs) {x : Int32} (hdg : decode cc pc = .ok (.putfield 321, 3)) (kk : ∀ (H1 : Heap) (locs1 : List Loc), SS X (up t 43 0 x) H0 H1 locs1 → W p l e R s m args below meth c H1 locs1 cells slots Q (F0 m (pc + 3) ls (rest))) : W p l e R s m args below meth c H locs cells slots Q (F0 m pc ls (.int x :: .ref (X.2.1 43) :: rest)) :=
  xpN B hS layX1 tyX1 tyX1_ok nmX1 (by decide) (ceX1 _) rfl 0 (by decide) (List.mem_of_getElem? (i := 55) rfl) rfl rfl rfl rfl rfl (Nat.le_of_ble_eq_true rfl) (ceX1 _) hdg kk
theorem gX10_20 (B : Bx p s m args c cc nL X RX10) (hS : SS X t H0 H locs) (hdg : decode cc pc = .ok (.getfield 20, 3)) (kk : W p l e R s m args below meth c H locs cells slots Q (F0 m (pc + 3) ls (.ref (X.2.1 1) :: rest))) : W p l e R s m args below meth c H locs cells slots Q (F0 m pc ls (.ref (X.2.1 0) :: rest)) :=
  xg B hS layX10 (by decide) (ceX10 _) rfl 0 (by decide) (tw_2 64 rfl rfl) rfl rfl hdg kk
theorem gX10_24 (B : Bx p s m args c cc nL X RX10) (hS : SS X t H0 H locs) (hdg : decode cc pc = .ok (.getfield 24, 3)) (kk : W p l e R s m args below meth c H locs cells slots Q (F0 m (pc + 3) ls (.ref (X.2.1 9) :: rest))) : W p l e R s m args below meth c H locs cells slots Q (F0 m pc ls (.ref (X.2.1 0) :: rest)) :=
  xg B hS layX10 (by decide) (ceX10 _) rfl 1 (by decide) (tw_2 65 rfl rfl) rfl rfl hdg kk
theorem gX10_28 (B : Bx p s m args c cc nL X RX10) (hS : SS X t H0 H locs) (hdg : decode cc pc = .ok (.getfield 28, 3)) (kk : W p l e R s m args below meth c H locs cells slots Q (F0 m (pc + 3) ls (.ref (X.2.1 3) :: rest))) : W p l e R s m args below meth c H locs cells slots Q (F0 m pc ls (.ref (X.2.1 0) :: rest)) :=
  xg B hS layX10 (by decide) (ceX10 _) rfl 2 (by decide) (tw_2 66 rfl rfl) rfl rfl hdg kk
theorem gX10_34 (B : Bx p s m args c cc nL X RX10) (hS : SS X t H0 H locs) (hdg : decode cc pc = .ok (.getfield 34, 3)) (kk : W p l e R s m args below meth c H locs cells slots Q (F0 m (pc + 3) ls (.ref (X.2.1 44) :: rest))) : W p l e R s m args below meth c H locs cells slots Q (F0 m pc ls (.ref (X.2.1 0) :: rest)) :=
  xg B hS layX10 (by decide) (ceX10 _) rfl 3 (by decide) (tw_2 67 rfl rfl) rfl rfl hdg kk
theorem gX10_38 (B : Bx p s m args c cc nL X RX10) (hS : SS X t H0 H locs) (hdg : decode cc pc = .ok (.getfield 38, 3)) (kk : W p l e R s m args below meth c H locs cells slots Q (F0 m (pc + 3) ls (.ref (X.2.1 49) :: rest))) : W p l e R s m args below meth c H locs cells slots Q (F0 m pc ls (.ref (X.2.1 0) :: rest)) :=
  xg B hS layX10 (by decide) (ceX10 _) rfl 4 (by decide) (tw_2 68 rfl rfl) rfl rfl hdg kk
theorem gX10_44 (B : Bx p s m args c cc nL X RX10) (hS : SS X t H0 H locs) (hdg : decode cc pc = .ok (.getfield 44, 3)) (kk : W p l e R s m args below meth c H locs cells slots Q (F0 m (pc + 3) ls (.ref (X.2.1 15) :: rest))) : W p l e R s m args below meth c H locs cells slots Q (F0 m pc ls (.ref (X.2.1 0) :: rest)) :=
  xg B hS layX10 (by decide) (ceX10 _) rfl 5 (by decide) (tw_2 69 rfl rfl) rfl rfl hdg kk
theorem gX10_48 (B : Bx p s m args c cc nL X RX10) (hS : SS X t H0 H locs) (hdg : decode cc pc = .ok (.getfield 48, 3)) (kk : W p l e R s m args below meth c H locs cells slots Q (F0 m (pc + 3) ls (.ref (X.2.1 17) :: rest))) : W p l e R s m args below meth c H locs cells slots Q (F0 m pc ls (.ref (X.2.1 0) :: rest)) :=
  xg B hS layX10 (by decide) (ceX10 _) rfl 6 (by decide) (tw_2 70 rfl rfl) rfl rfl hdg kk
theorem gX10_55 (B : Bx p s m args c cc nL X RX10) (hS : SS X t H0 H locs) (hdg : decode cc pc = .ok (.getfield 55, 3)) (kk : W p l e R s m args below meth c H locs cells slots Q (F0 m (pc + 3) ls (.ref (X.2.1 20) :: rest))) : W p l e R s m args below meth c H locs cells slots Q (F0 m pc ls (.ref (X.2.1 0) :: rest)) :=
  xg B hS layX10 (by decide) (ceX10 _) rfl 7 (by decide) (tw_2 71 rfl rfl) rfl rfl hdg kk
theorem gX10_62 (B : Bx p s m args c cc nL X RX10) (hS : SS X t H0 H locs) (hdg : decode cc pc = .ok (.getfield 62, 3)) (kk : W p l e R s m args below meth c H locs cells slots Q (F0 m (pc + 3) ls (.ref (X.2.1 25) :: rest))) : W p l e R s m args below meth c H locs cells slots Q (F0 m pc ls (.ref (X.2.1 0) :: rest)) :=
  xg B hS layX10 (by decide) (ceX10 _) rfl 8 (by decide) (tw_2 72 rfl rfl) rfl rfl hdg kk
theorem gX10_69 (B : Bx p s m args c cc nL X RX10) (hS : SS X t H0 H locs) (hdg : decode cc pc = .ok (.getfield 69, 3)) (kk : W p l e R s m args below meth c H locs cells slots Q (F0 m (pc + 3) ls (.ref (X.2.1 27) :: rest))) : W p l e R s m args below meth c H locs cells slots Q (F0 m pc ls (.ref (X.2.1 0) :: rest)) :=
  xg B hS layX10 (by decide) (ceX10 _) rfl 9 (by decide) (tw_2 73 rfl rfl) rfl rfl hdg kk
theorem gX10_76 (B : Bx p s m args c cc nL X RX10) (hS : SS X t H0 H locs) (hdg : decode cc pc = .ok (.getfield 76, 3)) (kk : W p l e R s m args below meth c H locs cells slots Q (F0 m (pc + 3) ls (.ref (X.2.1 39) :: rest))) : W p l e R s m args below meth c H locs cells slots Q (F0 m pc ls (.ref (X.2.1 0) :: rest)) :=
  xg B hS layX10 (by decide) (ceX10 _) rfl 10 (by decide) (tw_2 74 rfl rfl) rfl rfl hdg kk
theorem gX10_83 (B : Bx p s m args c cc nL X RX10) (hS : SS X t H0 H locs) (hdg : decode cc pc = .ok (.getfield 83, 3)) (kk : W p l e R s m args below meth c H locs cells slots Q (F0 m (pc + 3) ls (.ref (X.2.1 43) :: rest))) : W p l e R s m args below meth c H locs cells slots Q (F0 m pc ls (.ref (X.2.1 0) :: rest)) :=
  xg B hS layX10 (by decide) (ceX10 _) rfl 11 (by decide) (tw_2 75 rfl rfl) rfl rfl hdg kk
theorem gX11_78 (B : Bx p s m args c cc nL X RX11) (hS : SS X t H0 H locs) (hdg : decode cc pc = .ok (.getfield 78, 3)) (kk : W p l e R s m args below meth c H locs cells slots Q (F0 m (pc + 3) ls (.int (t 144 0) :: rest))) : W p l e R s m args below meth c H locs cells slots Q (F0 m pc ls (.ref (X.2.1 144) :: rest)) :=
  xg B hS layX11 (by decide) (ceX11 _) rfl 0 (by decide) (tw_4 90 rfl rfl) rfl rfl hdg kk
theorem pX11_78 (B : Bx p s m args c cc nL X RX11) (hS : SS X t H0 H locs) {x : Int32} (hdg : decode cc pc = .ok (.putfield 78, 3)) (kk : ∀ (H1 : Heap) (locs1 : List Loc), SS X (up t 144 0 x) H0 H1 locs1 → W p l e R s m args below meth c H1 locs1 cells slots Q (F0 m (pc + 3) ls (rest))) : W p l e R s m args below meth c H locs cells slots Q (F0 m pc ls (.int x :: .ref (X.2.1 144) :: rest)) :=
  xp B hS layX11 tyX11 tyX11_ok nmX11 (by decide) (ceX11 _) rfl 0 (by decide) (tw_4 90 rfl rfl) rfl rfl rfl rfl rfl (Nat.le_of_ble_eq_true rfl) (ceX11 _) hdg kk
theorem gX11_88 (B : Bx p s m args c cc nL X RX11) (hS : SS X t H0 H locs) (hdg : decode cc pc = .ok (.getfield 88, 3)) (kk : W p l e R s m args below meth c H locs cells slots Q (F0 m (pc + 3) ls (.int (t 144 1) :: rest))) : W p l e R s m args below meth c H locs cells slots Q (F0 m pc ls (.ref (X.2.1 144) :: rest)) :=
  xg B hS layX11 (by decide) (ceX11 _) rfl 1 (by decide) (tw_4 91 rfl rfl) rfl rfl hdg kk
theorem pX11_88 (B : Bx p s m args c cc nL X RX11) (hS : SS X t H0 H locs) {x : Int32} (hdg : decode cc pc = .ok (.putfield 88, 3)) (kk : ∀ (H1 : Heap) (locs1 : List Loc), SS X (up t 144 1 x) H0 H1 locs1 → W p l e R s m args below meth c H1 locs1 cells slots Q (F0 m (pc + 3) ls (rest))) : W p l e R s m args below meth c H locs cells slots Q (F0 m pc ls (.int x :: .ref (X.2.1 144) :: rest)) :=
  xp B hS layX11 tyX11 tyX11_ok nmX11 (by decide) (ceX11 _) rfl 1 (by decide) (tw_4 91 rfl rfl) rfl rfl rfl rfl rfl (Nat.le_of_ble_eq_true rfl) (ceX11 _) hdg kk
theorem gX11_150 (B : Bx p s m args c cc nL X RX11) (hS : SS X t H0 H locs) (hdg : decode cc pc = .ok (.getfield 150, 3)) (kk : W p l e R s m args below meth c H locs cells slots Q (F0 m (pc + 3) ls (.int (t 144 2) :: rest))) : W p l e R s m args below meth c H locs cells slots Q (F0 m pc ls (.ref (X.2.1 144) :: rest)) :=
  xg B hS layX11 (by decide) (ceX11 _) rfl 2 (by decide) (tw_4 92 rfl rfl) rfl rfl hdg kk
theorem pX11_150 (B : Bx p s m args c cc nL X RX11) (hS : SS X t H0 H locs) {x : Int32} (hdg : decode cc pc = .ok (.putfield 150, 3)) (kk : ∀ (H1 : Heap) (locs1 : List Loc), SS X (up t 144 2 x) H0 H1 locs1 → W p l e R s m args below meth c H1 locs1 cells slots Q (F0 m (pc + 3) ls (rest))) : W p l e R s m args below meth c H locs cells slots Q (F0 m pc ls (.int x :: .ref (X.2.1 144) :: rest)) :=
  xp B hS layX11 tyX11 tyX11_ok nmX11 (by decide) (ceX11 _) rfl 2 (by decide) (tw_4 92 rfl rfl) rfl rfl rfl rfl rfl (Nat.le_of_ble_eq_true rfl) (ceX11 _) hdg kk
theorem gX11_81 (B : Bx p s m args c cc nL X RX11) (hS : SS X t H0 H locs) (hdg : decode cc pc = .ok (.getfield 81, 3)) (kk : W p l e R s m args below meth c H locs cells slots Q (F0 m (pc + 3) ls (.int (t 144 3) :: rest))) : W p l e R s m args below meth c H locs cells slots Q (F0 m pc ls (.ref (X.2.1 144) :: rest)) :=
  xg B hS layX11 (by decide) (ceX11 _) rfl 3 (by decide) (tw_4 93 rfl rfl) rfl rfl hdg kk
theorem pX11_81 (B : Bx p s m args c cc nL X RX11) (hS : SS X t H0 H locs) {x : Int32} (hdg : decode cc pc = .ok (.putfield 81, 3)) (kk : ∀ (H1 : Heap) (locs1 : List Loc), SS X (up t 144 3 x) H0 H1 locs1 → W p l e R s m args below meth c H1 locs1 cells slots Q (F0 m (pc + 3) ls (rest))) : W p l e R s m args below meth c H locs cells slots Q (F0 m pc ls (.int x :: .ref (X.2.1 144) :: rest)) :=
  xp B hS layX11 tyX11 tyX11_ok nmX11 (by decide) (ceX11 _) rfl 3 (by decide) (tw_4 93 rfl rfl) rfl rfl rfl rfl rfl (Nat.le_of_ble_eq_true rfl) (ceX11 _) hdg kk
theorem gX11_7 (B : Bx p s m args c cc nL X RX11) (hS : SS X t H0 H locs) (hdg : decode cc pc = .ok (.getfield 7, 3)) (kk : W p l e R s m args below meth c H locs cells slots Q (F0 m (pc + 3) ls (.ref (X.2.1 145) :: rest))) : W p l e R s m args below meth c H locs cells slots Q (F0 m pc ls (.ref (X.2.1 144) :: rest)) :=
  xg B hS layX11 (by decide) (ceX11 _) rfl 4 (by decide) (tw_4 94 rfl rfl) rfl rfl hdg kk
theorem gX11_13 (B : Bx p s m args c cc nL X RX11) (hS : SS X t H0 H locs) (hdg : decode cc pc = .ok (.getfield 13, 3)) (kk : W p l e R s m args below meth c H locs cells slots Q (F0 m (pc + 3) ls (.ref (X.2.1 146) :: rest))) : W p l e R s m args below meth c H locs cells slots Q (F0 m pc ls (.ref (X.2.1 144) :: rest)) :=
  xg B hS layX11 (by decide) (ceX11 _) rfl 5 (by decide) (tw_4 95 rfl rfl) rfl rfl hdg kk
theorem gX11_16 (B : Bx p s m args c cc nL X RX11) (hS : SS X t H0 H locs) (hdg : decode cc pc = .ok (.getfield 16, 3)) (kk : W p l e R s m args below meth c H locs cells slots Q (F0 m (pc + 3) ls (.ref (X.2.1 147) :: rest))) : W p l e R s m args below meth c H locs cells slots Q (F0 m pc ls (.ref (X.2.1 144) :: rest)) :=
  xg B hS layX11 (by decide) (ceX11 _) rfl 6 (by decide) (tw_4 96 rfl rfl) rfl rfl hdg kk
theorem gX11_19 (B : Bx p s m args c cc nL X RX11) (hS : SS X t H0 H locs) (hdg : decode cc pc = .ok (.getfield 19, 3)) (kk : W p l e R s m args below meth c H locs cells slots Q (F0 m (pc + 3) ls (.ref (X.2.1 148) :: rest))) : W p l e R s m args below meth c H locs cells slots Q (F0 m pc ls (.ref (X.2.1 144) :: rest)) :=
  xg B hS layX11 (by decide) (ceX11 _) rfl 7 (by decide) (tw_4 97 rfl rfl) rfl rfl hdg kk
theorem gX11_153 (B : Bx p s m args c cc nL X RX11) (hS : SS X t H0 H locs) (hdg : decode cc pc = .ok (.getfield 153, 3)) (kk : W p l e R s m args below meth c H locs cells slots Q (F0 m (pc + 3) ls (.int (t 144 8) :: rest))) : W p l e R s m args below meth c H locs cells slots Q (F0 m pc ls (.ref (X.2.1 144) :: rest)) :=
  xg B hS layX11 (by decide) (ceX11 _) rfl 8 (by decide) (tw_4 98 rfl rfl) rfl rfl hdg kk
theorem pX11_153 (B : Bx p s m args c cc nL X RX11) (hS : SS X t H0 H locs) {x : Int32} (hdg : decode cc pc = .ok (.putfield 153, 3)) (kk : ∀ (H1 : Heap) (locs1 : List Loc), SS X (up t 144 8 x) H0 H1 locs1 → W p l e R s m args below meth c H1 locs1 cells slots Q (F0 m (pc + 3) ls (rest))) : W p l e R s m args below meth c H locs cells slots Q (F0 m pc ls (.int x :: .ref (X.2.1 144) :: rest)) :=
  xp B hS layX11 tyX11 tyX11_ok nmX11 (by decide) (ceX11 _) rfl 8 (by decide) (tw_4 98 rfl rfl) rfl rfl rfl rfl rfl (Nat.le_of_ble_eq_true rfl) (ceX11 _) hdg kk
theorem gX11_22 (B : Bx p s m args c cc nL X RX11) (hS : SS X t H0 H locs) (hdg : decode cc pc = .ok (.getfield 22, 3)) (kk : W p l e R s m args below meth c H locs cells slots Q (F0 m (pc + 3) ls (.ref (X.2.1 149) :: rest))) : W p l e R s m args below meth c H locs cells slots Q (F0 m pc ls (.ref (X.2.1 144) :: rest)) :=
  xg B hS layX11 (by decide) (ceX11 _) rfl 9 (by decide) (tw_4 99 rfl rfl) rfl rfl hdg kk
theorem gX11_25 (B : Bx p s m args c cc nL X RX11) (hS : SS X t H0 H locs) (hdg : decode cc pc = .ok (.getfield 25, 3)) (kk : W p l e R s m args below meth c H locs cells slots Q (F0 m (pc + 3) ls (.ref (X.2.1 150) :: rest))) : W p l e R s m args below meth c H locs cells slots Q (F0 m pc ls (.ref (X.2.1 144) :: rest)) :=
  xg B hS layX11 (by decide) (ceX11 _) rfl 10 (by decide) (tw_4 100 rfl rfl) rfl rfl hdg kk
theorem gX11_272 (B : Bx p s m args c cc nL X RX11) (hS : SS X t H0 H locs) (hdg : decode cc pc = .ok (.getfield 272, 3)) (kk : W p l e R s m args below meth c H locs cells slots Q (F0 m (pc + 3) ls (.int (t 144 11) :: rest))) : W p l e R s m args below meth c H locs cells slots Q (F0 m pc ls (.ref (X.2.1 144) :: rest)) :=
  xg B hS layX11 (by decide) (ceX11 _) rfl 11 (by decide) (tw_4 101 rfl rfl) rfl rfl hdg kk
theorem pX11_272 (B : Bx p s m args c cc nL X RX11) (hS : SS X t H0 H locs) {x : Int32} (hdg : decode cc pc = .ok (.putfield 272, 3)) (kk : ∀ (H1 : Heap) (locs1 : List Loc), SS X (up t 144 11 x) H0 H1 locs1 → W p l e R s m args below meth c H1 locs1 cells slots Q (F0 m (pc + 3) ls (rest))) : W p l e R s m args below meth c H locs cells slots Q (F0 m pc ls (.int x :: .ref (X.2.1 144) :: rest)) :=
  xp B hS layX11 tyX11 tyX11_ok nmX11 (by decide) (ceX11 _) rfl 11 (by decide) (tw_4 101 rfl rfl) rfl rfl rfl rfl rfl (Nat.le_of_ble_eq_true rfl) (ceX11 _) hdg kk
theorem gX11_28 (B : Bx p s m args c cc nL X RX11) (hS : SS X t H0 H locs) (hdg : decode cc pc = .ok (.getfield 28, 3)) (kk : W p l e R s m args below meth c H locs cells slots Q (F0 m (pc + 3) ls (.ref (X.2.1 151) :: rest))) : W p l e R s m args below meth c H locs cells slots Q (F0 m pc ls (.ref (X.2.1 144) :: rest)) :=
  xg B hS layX11 (by decide) (ceX11 _) rfl 12 (by decide) (tw_4 102 rfl rfl) rfl rfl hdg kk
theorem gX11_94 (B : Bx p s m args c cc nL X RX11) (hS : SS X t H0 H locs) (hdg : decode cc pc = .ok (.getfield 94, 3)) (kk : W p l e R s m args below meth c H locs cells slots Q (F0 m (pc + 3) ls (.int (t 144 13) :: rest))) : W p l e R s m args below meth c H locs cells slots Q (F0 m pc ls (.ref (X.2.1 144) :: rest)) :=
  xg B hS layX11 (by decide) (ceX11 _) rfl 13 (by decide) (tw_4 103 rfl rfl) rfl rfl hdg kk
theorem pX11_94 (B : Bx p s m args c cc nL X RX11) (hS : SS X t H0 H locs) {x : Int32} (hdg : decode cc pc = .ok (.putfield 94, 3)) (kk : ∀ (H1 : Heap) (locs1 : List Loc), SS X (up t 144 13 x) H0 H1 locs1 → W p l e R s m args below meth c H1 locs1 cells slots Q (F0 m (pc + 3) ls (rest))) : W p l e R s m args below meth c H locs cells slots Q (F0 m pc ls (.int x :: .ref (X.2.1 144) :: rest)) :=
  xp B hS layX11 tyX11 tyX11_ok nmX11 (by decide) (ceX11 _) rfl 13 (by decide) (tw_4 103 rfl rfl) rfl rfl rfl rfl rfl (Nat.le_of_ble_eq_true rfl) (ceX11 _) hdg kk
theorem gX11_31 (B : Bx p s m args c cc nL X RX11) (hS : SS X t H0 H locs) (hdg : decode cc pc = .ok (.getfield 31, 3)) (kk : W p l e R s m args below meth c H locs cells slots Q (F0 m (pc + 3) ls (.int (t 144 14) :: rest))) : W p l e R s m args below meth c H locs cells slots Q (F0 m pc ls (.ref (X.2.1 144) :: rest)) :=
  xg B hS layX11 (by decide) (ceX11 _) rfl 14 (by decide) (tw_4 104 rfl rfl) rfl rfl hdg kk
theorem pX11_31 (B : Bx p s m args c cc nL X RX11) (hS : SS X t H0 H locs) {x : Int32} (hdg : decode cc pc = .ok (.putfield 31, 3)) (kk : ∀ (H1 : Heap) (locs1 : List Loc), SS X (up t 144 14 x) H0 H1 locs1 → W p l e R s m args below meth c H1 locs1 cells slots Q (F0 m (pc + 3) ls (rest))) : W p l e R s m args below meth c H locs cells slots Q (F0 m pc ls (.int x :: .ref (X.2.1 144) :: rest)) :=
  xp B hS layX11 tyX11 tyX11_ok nmX11 (by decide) (ceX11 _) rfl 14 (by decide) (tw_4 104 rfl rfl) rfl rfl rfl rfl rfl (Nat.le_of_ble_eq_true rfl) (ceX11 _) hdg kk
theorem gX11_98 (B : Bx p s m args c cc nL X RX11) (hS : SS X t H0 H locs) (hdg : decode cc pc = .ok (.getfield 98, 3)) (kk : W p l e R s m args below meth c H locs cells slots Q (F0 m (pc + 3) ls (.int (t 144 15) :: rest))) : W p l e R s m args below meth c H locs cells slots Q (F0 m pc ls (.ref (X.2.1 144) :: rest)) :=
  xg B hS layX11 (by decide) (ceX11 _) rfl 15 (by decide) (tw_4 105 rfl rfl) rfl rfl hdg kk
theorem pX11_98 (B : Bx p s m args c cc nL X RX11) (hS : SS X t H0 H locs) {x : Int32} (hdg : decode cc pc = .ok (.putfield 98, 3)) (kk : ∀ (H1 : Heap) (locs1 : List Loc), SS X (up t 144 15 x) H0 H1 locs1 → W p l e R s m args below meth c H1 locs1 cells slots Q (F0 m (pc + 3) ls (rest))) : W p l e R s m args below meth c H locs cells slots Q (F0 m pc ls (.int x :: .ref (X.2.1 144) :: rest)) :=
  xp B hS layX11 tyX11 tyX11_ok nmX11 (by decide) (ceX11 _) rfl 15 (by decide) (tw_4 105 rfl rfl) rfl rfl rfl rfl rfl (Nat.le_of_ble_eq_true rfl) (ceX11 _) hdg kk
theorem gX11_116 (B : Bx p s m args c cc nL X RX11) (hS : SS X t H0 H locs) (hdg : decode cc pc = .ok (.getfield 116, 3)) (kk : W p l e R s m args below meth c H locs cells slots Q (F0 m (pc + 3) ls (.int (t 144 16) :: rest))) : W p l e R s m args below meth c H locs cells slots Q (F0 m pc ls (.ref (X.2.1 144) :: rest)) :=
  xg B hS layX11 (by decide) (ceX11 _) rfl 16 (by decide) (tw_4 106 rfl rfl) rfl rfl hdg kk
theorem pX11_116 (B : Bx p s m args c cc nL X RX11) (hS : SS X t H0 H locs) {x : Int32} (hdg : decode cc pc = .ok (.putfield 116, 3)) (kk : ∀ (H1 : Heap) (locs1 : List Loc), SS X (up t 144 16 x) H0 H1 locs1 → W p l e R s m args below meth c H1 locs1 cells slots Q (F0 m (pc + 3) ls (rest))) : W p l e R s m args below meth c H locs cells slots Q (F0 m pc ls (.int x :: .ref (X.2.1 144) :: rest)) :=
  xp B hS layX11 tyX11 tyX11_ok nmX11 (by decide) (ceX11 _) rfl 16 (by decide) (tw_4 106 rfl rfl) rfl rfl rfl rfl rfl (Nat.le_of_ble_eq_true rfl) (ceX11 _) hdg kk
theorem gX11_113 (B : Bx p s m args c cc nL X RX11) (hS : SS X t H0 H locs) (hdg : decode cc pc = .ok (.getfield 113, 3)) (kk : W p l e R s m args below meth c H locs cells slots Q (F0 m (pc + 3) ls (.int (t 144 17) :: rest))) : W p l e R s m args below meth c H locs cells slots Q (F0 m pc ls (.ref (X.2.1 144) :: rest)) :=
  xg B hS layX11 (by decide) (ceX11 _) rfl 17 (by decide) (tw_4 107 rfl rfl) rfl rfl hdg kk
theorem pX11_113 (B : Bx p s m args c cc nL X RX11) (hS : SS X t H0 H locs) {x : Int32} (hdg : decode cc pc = .ok (.putfield 113, 3)) (kk : ∀ (H1 : Heap) (locs1 : List Loc), SS X (up t 144 17 x) H0 H1 locs1 → W p l e R s m args below meth c H1 locs1 cells slots Q (F0 m (pc + 3) ls (rest))) : W p l e R s m args below meth c H locs cells slots Q (F0 m pc ls (.int x :: .ref (X.2.1 144) :: rest)) :=
  xp B hS layX11 tyX11 tyX11_ok nmX11 (by decide) (ceX11 _) rfl 17 (by decide) (tw_4 107 rfl rfl) rfl rfl rfl rfl rfl (Nat.le_of_ble_eq_true rfl) (ceX11 _) hdg kk
theorem gX11_122 (B : Bx p s m args c cc nL X RX11) (hS : SS X t H0 H locs) (hdg : decode cc pc = .ok (.getfield 122, 3)) (kk : W p l e R s m args below meth c H locs cells slots Q (F0 m (pc + 3) ls (.int (t 144 18) :: rest))) : W p l e R s m args below meth c H locs cells slots Q (F0 m pc ls (.ref (X.2.1 144) :: rest)) :=
  xg B hS layX11 (by decide) (ceX11 _) rfl 18 (by decide) (tw_4 108 rfl rfl) rfl rfl hdg kk
theorem pX11_122 (B : Bx p s m args c cc nL X RX11) (hS : SS X t H0 H locs) {x : Int32} (hdg : decode cc pc = .ok (.putfield 122, 3)) (kk : ∀ (H1 : Heap) (locs1 : List Loc), SS X (up t 144 18 x) H0 H1 locs1 → W p l e R s m args below meth c H1 locs1 cells slots Q (F0 m (pc + 3) ls (rest))) : W p l e R s m args below meth c H locs cells slots Q (F0 m pc ls (.int x :: .ref (X.2.1 144) :: rest)) :=
  xp B hS layX11 tyX11 tyX11_ok nmX11 (by decide) (ceX11 _) rfl 18 (by decide) (tw_4 108 rfl rfl) rfl rfl rfl rfl rfl (Nat.le_of_ble_eq_true rfl) (ceX11 _) hdg kk
theorem gX11_125 (B : Bx p s m args c cc nL X RX11) (hS : SS X t H0 H locs) (hdg : decode cc pc = .ok (.getfield 125, 3)) (kk : W p l e R s m args below meth c H locs cells slots Q (F0 m (pc + 3) ls (.int (t 144 19) :: rest))) : W p l e R s m args below meth c H locs cells slots Q (F0 m pc ls (.ref (X.2.1 144) :: rest)) :=
  xg B hS layX11 (by decide) (ceX11 _) rfl 19 (by decide) (tw_4 109 rfl rfl) rfl rfl hdg kk
theorem pX11_125 (B : Bx p s m args c cc nL X RX11) (hS : SS X t H0 H locs) {x : Int32} (hdg : decode cc pc = .ok (.putfield 125, 3)) (kk : ∀ (H1 : Heap) (locs1 : List Loc), SS X (up t 144 19 x) H0 H1 locs1 → W p l e R s m args below meth c H1 locs1 cells slots Q (F0 m (pc + 3) ls (rest))) : W p l e R s m args below meth c H locs cells slots Q (F0 m pc ls (.int x :: .ref (X.2.1 144) :: rest)) :=
  xp B hS layX11 tyX11 tyX11_ok nmX11 (by decide) (ceX11 _) rfl 19 (by decide) (tw_4 109 rfl rfl) rfl rfl rfl rfl rfl (Nat.le_of_ble_eq_true rfl) (ceX11 _) hdg kk
theorem gX11_128 (B : Bx p s m args c cc nL X RX11) (hS : SS X t H0 H locs) (hdg : decode cc pc = .ok (.getfield 128, 3)) (kk : W p l e R s m args below meth c H locs cells slots Q (F0 m (pc + 3) ls (.int (t 144 20) :: rest))) : W p l e R s m args below meth c H locs cells slots Q (F0 m pc ls (.ref (X.2.1 144) :: rest)) :=
  xg B hS layX11 (by decide) (ceX11 _) rfl 20 (by decide) (tw_4 110 rfl rfl) rfl rfl hdg kk
theorem pX11_128 (B : Bx p s m args c cc nL X RX11) (hS : SS X t H0 H locs) {x : Int32} (hdg : decode cc pc = .ok (.putfield 128, 3)) (kk : ∀ (H1 : Heap) (locs1 : List Loc), SS X (up t 144 20 x) H0 H1 locs1 → W p l e R s m args below meth c H1 locs1 cells slots Q (F0 m (pc + 3) ls (rest))) : W p l e R s m args below meth c H locs cells slots Q (F0 m pc ls (.int x :: .ref (X.2.1 144) :: rest)) :=
  xp B hS layX11 tyX11 tyX11_ok nmX11 (by decide) (ceX11 _) rfl 20 (by decide) (tw_4 110 rfl rfl) rfl rfl rfl rfl rfl (Nat.le_of_ble_eq_true rfl) (ceX11 _) hdg kk
theorem gX11_131 (B : Bx p s m args c cc nL X RX11) (hS : SS X t H0 H locs) (hdg : decode cc pc = .ok (.getfield 131, 3)) (kk : W p l e R s m args below meth c H locs cells slots Q (F0 m (pc + 3) ls (.int (t 144 21) :: rest))) : W p l e R s m args below meth c H locs cells slots Q (F0 m pc ls (.ref (X.2.1 144) :: rest)) :=
  xg B hS layX11 (by decide) (ceX11 _) rfl 21 (by decide) (tw_4 111 rfl rfl) rfl rfl hdg kk
theorem pX11_131 (B : Bx p s m args c cc nL X RX11) (hS : SS X t H0 H locs) {x : Int32} (hdg : decode cc pc = .ok (.putfield 131, 3)) (kk : ∀ (H1 : Heap) (locs1 : List Loc), SS X (up t 144 21 x) H0 H1 locs1 → W p l e R s m args below meth c H1 locs1 cells slots Q (F0 m (pc + 3) ls (rest))) : W p l e R s m args below meth c H locs cells slots Q (F0 m pc ls (.int x :: .ref (X.2.1 144) :: rest)) :=
  xp B hS layX11 tyX11 tyX11_ok nmX11 (by decide) (ceX11 _) rfl 21 (by decide) (tw_4 111 rfl rfl) rfl rfl rfl rfl rfl (Nat.le_of_ble_eq_true rfl) (ceX11 _) hdg kk
theorem gX11_35 (B : Bx p s m args c cc nL X RX11) (hS : SS X t H0 H locs) (hdg : decode cc pc = .ok (.getfield 35, 3)) (kk : W p l e R s m args below meth c H locs cells slots Q (F0 m (pc + 3) ls (.ref (X.2.1 152) :: rest))) : W p l e R s m args below meth c H locs cells slots Q (F0 m pc ls (.ref (X.2.1 144) :: rest)) :=
  xg B hS layX11 (by decide) (ceX11 _) rfl 22 (by decide) (tw_4 112 rfl rfl) rfl rfl hdg kk
theorem gX11_38 (B : Bx p s m args c cc nL X RX11) (hS : SS X t H0 H locs) (hdg : decode cc pc = .ok (.getfield 38, 3)) (kk : W p l e R s m args below meth c H locs cells slots Q (F0 m (pc + 3) ls (.ref (X.2.1 153) :: rest))) : W p l e R s m args below meth c H locs cells slots Q (F0 m pc ls (.ref (X.2.1 144) :: rest)) :=
  xg B hS layX11 (by decide) (ceX11 _) rfl 23 (by decide) (tw_4 113 rfl rfl) rfl rfl hdg kk
theorem gX11_41 (B : Bx p s m args c cc nL X RX11) (hS : SS X t H0 H locs) (hdg : decode cc pc = .ok (.getfield 41, 3)) (kk : W p l e R s m args below meth c H locs cells slots Q (F0 m (pc + 3) ls (.ref (X.2.1 154) :: rest))) : W p l e R s m args below meth c H locs cells slots Q (F0 m pc ls (.ref (X.2.1 144) :: rest)) :=
  xg B hS layX11 (by decide) (ceX11 _) rfl 24 (by decide) (tw_4 114 rfl rfl) rfl rfl hdg kk
theorem gX11_44 (B : Bx p s m args c cc nL X RX11) (hS : SS X t H0 H locs) (hdg : decode cc pc = .ok (.getfield 44, 3)) (kk : W p l e R s m args below meth c H locs cells slots Q (F0 m (pc + 3) ls (.ref (X.2.1 155) :: rest))) : W p l e R s m args below meth c H locs cells slots Q (F0 m pc ls (.ref (X.2.1 144) :: rest)) :=
  xg B hS layX11 (by decide) (ceX11 _) rfl 25 (by decide) (tw_4 115 rfl rfl) rfl rfl hdg kk
theorem gX11_138 (B : Bx p s m args c cc nL X RX11) (hS : SS X t H0 H locs) (hdg : decode cc pc = .ok (.getfield 138, 3)) (kk : W p l e R s m args below meth c H locs cells slots Q (F0 m (pc + 3) ls (.int (t 144 26) :: rest))) : W p l e R s m args below meth c H locs cells slots Q (F0 m pc ls (.ref (X.2.1 144) :: rest)) :=
  xg B hS layX11 (by decide) (ceX11 _) rfl 26 (by decide) (tw_4 116 rfl rfl) rfl rfl hdg kk
theorem pX11_138 (B : Bx p s m args c cc nL X RX11) (hS : SS X t H0 H locs) {x : Int32} (hdg : decode cc pc = .ok (.putfield 138, 3)) (kk : ∀ (H1 : Heap) (locs1 : List Loc), SS X (up t 144 26 x) H0 H1 locs1 → W p l e R s m args below meth c H1 locs1 cells slots Q (F0 m (pc + 3) ls (rest))) : W p l e R s m args below meth c H locs cells slots Q (F0 m pc ls (.int x :: .ref (X.2.1 144) :: rest)) :=
  xp B hS layX11 tyX11 tyX11_ok nmX11 (by decide) (ceX11 _) rfl 26 (by decide) (tw_4 116 rfl rfl) rfl rfl rfl rfl rfl (Nat.le_of_ble_eq_true rfl) (ceX11 _) hdg kk
theorem gX11_47 (B : Bx p s m args c cc nL X RX11) (hS : SS X t H0 H locs) (hdg : decode cc pc = .ok (.getfield 47, 3)) (kk : W p l e R s m args below meth c H locs cells slots Q (F0 m (pc + 3) ls (.ref (X.2.1 156) :: rest))) : W p l e R s m args below meth c H locs cells slots Q (F0 m pc ls (.ref (X.2.1 144) :: rest)) :=
  xg B hS layX11 (by decide) (ceX11 _) rfl 27 (by decide) (tw_4 117 rfl rfl) rfl rfl hdg kk
theorem gX11_176 (B : Bx p s m args c cc nL X RX11) (hS : SS X t H0 H locs) (hdg : decode cc pc = .ok (.getfield 176, 3)) (kk : W p l e R s m args below meth c H locs cells slots Q (F0 m (pc + 3) ls (.int (t 144 28) :: rest))) : W p l e R s m args below meth c H locs cells slots Q (F0 m pc ls (.ref (X.2.1 144) :: rest)) :=
  xg B hS layX11 (by decide) (ceX11 _) rfl 28 (by decide) (tw_4 118 rfl rfl) rfl rfl hdg kk
theorem pX11_176 (B : Bx p s m args c cc nL X RX11) (hS : SS X t H0 H locs) {x : Int32} (hdg : decode cc pc = .ok (.putfield 176, 3)) (kk : ∀ (H1 : Heap) (locs1 : List Loc), SS X (up t 144 28 x) H0 H1 locs1 → W p l e R s m args below meth c H1 locs1 cells slots Q (F0 m (pc + 3) ls (rest))) : W p l e R s m args below meth c H locs cells slots Q (F0 m pc ls (.int x :: .ref (X.2.1 144) :: rest)) :=
  xp B hS layX11 tyX11 tyX11_ok nmX11 (by decide) (ceX11 _) rfl 28 (by decide) (tw_4 118 rfl rfl) rfl rfl rfl rfl rfl (Nat.le_of_ble_eq_true rfl) (ceX11 _) hdg kk
theorem gX11_50 (B : Bx p s m args c cc nL X RX11) (hS : SS X t H0 H locs) (hdg : decode cc pc = .ok (.getfield 50, 3)) (kk : W p l e R s m args below meth c H locs cells slots Q (F0 m (pc + 3) ls (.ref (X.2.1 157) :: rest))) : W p l e R s m args below meth c H locs cells slots Q (F0 m pc ls (.ref (X.2.1 144) :: rest)) :=
  xg B hS layX11 (by decide) (ceX11 _) rfl 29 (by decide) (tw_4 119 rfl rfl) rfl rfl hdg kk
theorem gX11_53 (B : Bx p s m args c cc nL X RX11) (hS : SS X t H0 H locs) (hdg : decode cc pc = .ok (.getfield 53, 3)) (kk : W p l e R s m args below meth c H locs cells slots Q (F0 m (pc + 3) ls (.ref (X.2.1 158) :: rest))) : W p l e R s m args below meth c H locs cells slots Q (F0 m pc ls (.ref (X.2.1 144) :: rest)) :=
  xg B hS layX11 (by decide) (ceX11 _) rfl 30 (by decide) (tw_4 120 rfl rfl) rfl rfl hdg kk
theorem gX11_56 (B : Bx p s m args c cc nL X RX11) (hS : SS X t H0 H locs) (hdg : decode cc pc = .ok (.getfield 56, 3)) (kk : W p l e R s m args below meth c H locs cells slots Q (F0 m (pc + 3) ls (.ref (X.2.1 159) :: rest))) : W p l e R s m args below meth c H locs cells slots Q (F0 m pc ls (.ref (X.2.1 144) :: rest)) :=
  xg B hS layX11 (by decide) (ceX11 _) rfl 31 (by decide) (tw_4 121 rfl rfl) rfl rfl hdg kk
theorem gX11_170 (B : Bx p s m args c cc nL X RX11) (hS : SS X t H0 H locs) (hdg : decode cc pc = .ok (.getfield 170, 3)) (kk : W p l e R s m args below meth c H locs cells slots Q (F0 m (pc + 3) ls (.int (t 144 32) :: rest))) : W p l e R s m args below meth c H locs cells slots Q (F0 m pc ls (.ref (X.2.1 144) :: rest)) :=
  xg B hS layX11 (by decide) (ceX11 _) rfl 32 (by decide) (tw_4 122 rfl rfl) rfl rfl hdg kk
theorem pX11_170 (B : Bx p s m args c cc nL X RX11) (hS : SS X t H0 H locs) {x : Int32} (hdg : decode cc pc = .ok (.putfield 170, 3)) (kk : ∀ (H1 : Heap) (locs1 : List Loc), SS X (up t 144 32 x) H0 H1 locs1 → W p l e R s m args below meth c H1 locs1 cells slots Q (F0 m (pc + 3) ls (rest))) : W p l e R s m args below meth c H locs cells slots Q (F0 m pc ls (.int x :: .ref (X.2.1 144) :: rest)) :=
  xp B hS layX11 tyX11 tyX11_ok nmX11 (by decide) (ceX11 _) rfl 32 (by decide) (tw_4 122 rfl rfl) rfl rfl rfl rfl rfl (Nat.le_of_ble_eq_true rfl) (ceX11 _) hdg kk
theorem gX11_59 (B : Bx p s m args c cc nL X RX11) (hS : SS X t H0 H locs) (hdg : decode cc pc = .ok (.getfield 59, 3)) (kk : W p l e R s m args below meth c H locs cells slots Q (F0 m (pc + 3) ls (.ref (X.2.1 160) :: rest))) : W p l e R s m args below meth c H locs cells slots Q (F0 m pc ls (.ref (X.2.1 144) :: rest)) :=
  xg B hS layX11 (by decide) (ceX11 _) rfl 33 (by decide) (tw_4 123 rfl rfl) rfl rfl hdg kk
theorem gX11_62 (B : Bx p s m args c cc nL X RX11) (hS : SS X t H0 H locs) (hdg : decode cc pc = .ok (.getfield 62, 3)) (kk : W p l e R s m args below meth c H locs cells slots Q (F0 m (pc + 3) ls (.ref (X.2.1 161) :: rest))) : W p l e R s m args below meth c H locs cells slots Q (F0 m pc ls (.ref (X.2.1 144) :: rest)) :=
  xg B hS layX11 (by decide) (ceX11 _) rfl 34 (by decide) (tw_4 124 rfl rfl) rfl rfl hdg kk
theorem gX11_173 (B : Bx p s m args c cc nL X RX11) (hS : SS X t H0 H locs) (hdg : decode cc pc = .ok (.getfield 173, 3)) (kk : W p l e R s m args below meth c H locs cells slots Q (F0 m (pc + 3) ls (.int (t 144 35) :: rest))) : W p l e R s m args below meth c H locs cells slots Q (F0 m pc ls (.ref (X.2.1 144) :: rest)) :=
  xg B hS layX11 (by decide) (ceX11 _) rfl 35 (by decide) (tw_4 125 rfl rfl) rfl rfl hdg kk
theorem pX11_173 (B : Bx p s m args c cc nL X RX11) (hS : SS X t H0 H locs) {x : Int32} (hdg : decode cc pc = .ok (.putfield 173, 3)) (kk : ∀ (H1 : Heap) (locs1 : List Loc), SS X (up t 144 35 x) H0 H1 locs1 → W p l e R s m args below meth c H1 locs1 cells slots Q (F0 m (pc + 3) ls (rest))) : W p l e R s m args below meth c H locs cells slots Q (F0 m pc ls (.int x :: .ref (X.2.1 144) :: rest)) :=
  xp B hS layX11 tyX11 tyX11_ok nmX11 (by decide) (ceX11 _) rfl 35 (by decide) (tw_4 125 rfl rfl) rfl rfl rfl rfl rfl (Nat.le_of_ble_eq_true rfl) (ceX11 _) hdg kk
theorem gX11_65 (B : Bx p s m args c cc nL X RX11) (hS : SS X t H0 H locs) (hdg : decode cc pc = .ok (.getfield 65, 3)) (kk : W p l e R s m args below meth c H locs cells slots Q (F0 m (pc + 3) ls (.ref (X.2.1 162) :: rest))) : W p l e R s m args below meth c H locs cells slots Q (F0 m pc ls (.ref (X.2.1 144) :: rest)) :=
  xg B hS layX11 (by decide) (ceX11 _) rfl 36 (by decide) (tw_4 126 rfl rfl) rfl rfl hdg kk
theorem gX11_68 (B : Bx p s m args c cc nL X RX11) (hS : SS X t H0 H locs) (hdg : decode cc pc = .ok (.getfield 68, 3)) (kk : W p l e R s m args below meth c H locs cells slots Q (F0 m (pc + 3) ls (.ref (X.2.1 163) :: rest))) : W p l e R s m args below meth c H locs cells slots Q (F0 m pc ls (.ref (X.2.1 144) :: rest)) :=
  xg B hS layX11 (by decide) (ceX11 _) rfl 37 (by decide) (tw_4 127 rfl rfl) rfl rfl hdg kk
theorem gX11_71 (B : Bx p s m args c cc nL X RX11) (hS : SS X t H0 H locs) (hdg : decode cc pc = .ok (.getfield 71, 3)) (kk : W p l e R s m args below meth c H locs cells slots Q (F0 m (pc + 3) ls (.ref (X.2.1 164) :: rest))) : W p l e R s m args below meth c H locs cells slots Q (F0 m pc ls (.ref (X.2.1 144) :: rest)) :=
  xg B hS layX11 (by decide) (ceX11 _) rfl 38 (by decide) (tw_4 128 rfl rfl) rfl rfl hdg kk
theorem gX11_74 (B : Bx p s m args c cc nL X RX11) (hS : SS X t H0 H locs) (hdg : decode cc pc = .ok (.getfield 74, 3)) (kk : W p l e R s m args below meth c H locs cells slots Q (F0 m (pc + 3) ls (.ref (X.2.1 165) :: rest))) : W p l e R s m args below meth c H locs cells slots Q (F0 m pc ls (.ref (X.2.1 144) :: rest)) :=
  xg B hS layX11 (by decide) (ceX11 _) rfl 39 (by decide) (tw_4 129 rfl rfl) rfl rfl hdg kk
end FR
end
