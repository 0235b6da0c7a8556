section
-- ===== PART A: goes FIRST, ahead of the names: the tables' words, and 'selects' of the private methods out of them =====
/-- a private method of a class that the tables say can be made, by its rows of tables_1 -/
def lw_okq (q : MethodName × Nat) : Prop := (q.1.cls ≠ "java/lang/invoke/MethodHandle" ∧ q.1.cls ≠ "java/lang/invoke/VarHandle") ∧ Cond.instantiable q.1.cls q.2 ∈ tables_1 ∧ Cond.privateMethod q.1 ∈ tables_1 ∧ Cond.instanceMethod q.1 ∈ tables_1
theorem lw_p0 : lw_okq (⟨"ChessLedger", "adoptDraft", "()Z"⟩, 10) := ⟨⟨by decide +kernel, by decide +kernel⟩, List.mem_of_getElem? (i := 19) (by decide +kernel), List.mem_of_getElem? (i := 240) (by decide +kernel), List.mem_of_getElem? (i := 241) (by decide +kernel)⟩
theorem lw_p1 : lw_okq (⟨"ChessLedger$Board", "hasKingsAndPawnsRight", "()Z"⟩, 5) := ⟨⟨by decide +kernel, by decide +kernel⟩, List.mem_of_getElem? (i := 33) (by decide +kernel), List.mem_of_getElem? (i := 248) (by decide +kernel), List.mem_of_getElem? (i := 249) (by decide +kernel)⟩
theorem lw_p2 : lw_okq (⟨"ChessLedger$Board", "hasRightsRight", "()Z"⟩, 5) := ⟨⟨by decide +kernel, by decide +kernel⟩, List.mem_of_getElem? (i := 33) (by decide +kernel), List.mem_of_getElem? (i := 258) (by decide +kernel), List.mem_of_getElem? (i := 259) (by decide +kernel)⟩
theorem lw_p3 : lw_okq (⟨"ChessLedger$Board", "hasFileRight", "()Z"⟩, 5) := ⟨⟨by decide +kernel, by decide +kernel⟩, List.mem_of_getElem? (i := 33) (by decide +kernel), List.mem_of_getElem? (i := 277) (by decide +kernel), List.mem_of_getElem? (i := 278) (by decide +kernel)⟩
theorem lw_p4 : lw_okq (⟨"ChessLedger$Board", "firstAlong", "(II)I"⟩, 5) := ⟨⟨by decide +kernel, by decide +kernel⟩, List.mem_of_getElem? (i := 33) (by decide +kernel), List.mem_of_getElem? (i := 298) (by decide +kernel), List.mem_of_getElem? (i := 299) (by decide +kernel)⟩
theorem lw_p5 : lw_okq (⟨"ChessLedger$Board", "attacksAgainst", "(III)Z"⟩, 5) := ⟨⟨by decide +kernel, by decide +kernel⟩, List.mem_of_getElem? (i := 33) (by decide +kernel), List.mem_of_getElem? (i := 312) (by decide +kernel), List.mem_of_getElem? (i := 313) (by decide +kernel)⟩
theorem lw_p6 : lw_okq (⟨"ChessLedger$MoveTable", "addPiece", "(LChessLedger$Board;I)V"⟩, 2) := ⟨⟨by decide +kernel, by decide +kernel⟩, List.mem_of_getElem? (i := 115) (by decide +kernel), List.mem_of_getElem? (i := 376) (by decide +kernel), List.mem_of_getElem? (i := 377) (by decide +kernel)⟩
theorem lw_p7 : lw_okq (⟨"ChessLedger$MoveTable", "addSteps", "(LChessLedger$Board;I)V"⟩, 2) := ⟨⟨by decide +kernel, by decide +kernel⟩, List.mem_of_getElem? (i := 115) (by decide +kernel), List.mem_of_getElem? (i := 381) (by decide +kernel), List.mem_of_getElem? (i := 382) (by decide +kernel)⟩
theorem lw_p8 : lw_okq (⟨"ChessLedger$MoveTable", "addPawn", "(II)V"⟩, 2) := ⟨⟨by decide +kernel, by decide +kernel⟩, List.mem_of_getElem? (i := 115) (by decide +kernel), List.mem_of_getElem? (i := 387) (by decide +kernel), List.mem_of_getElem? (i := 388) (by decide +kernel)⟩
theorem lw_p9 : lw_okq (⟨"ChessLedger$MoveTable", "addTakes", "(LChessLedger$Board;I)V"⟩, 2) := ⟨⟨by decide +kernel, by decide +kernel⟩, List.mem_of_getElem? (i := 115) (by decide +kernel), List.mem_of_getElem? (i := 392) (by decide +kernel), List.mem_of_getElem? (i := 393) (by decide +kernel)⟩
theorem lw_p10 : lw_okq (⟨"ChessLedger$MoveTable", "addLeaps", "(LChessLedger$Board;I)V"⟩, 2) := ⟨⟨by decide +kernel, by decide +kernel⟩, List.mem_of_getElem? (i := 115) (by decide +kernel), List.mem_of_getElem? (i := 400) (by decide +kernel), List.mem_of_getElem? (i := 401) (by decide +kernel)⟩
theorem lw_p11 : lw_okq (⟨"ChessLedger$MoveTable", "addAlong", "(LChessLedger$Board;III)V"⟩, 2) := ⟨⟨by decide +kernel, by decide +kernel⟩, List.mem_of_getElem? (i := 115) (by decide +kernel), List.mem_of_getElem? (i := 407) (by decide +kernel), List.mem_of_getElem? (i := 408) (by decide +kernel)⟩
theorem lw_p12 : lw_okq (⟨"ChessLedger$MoveTable", "addCastling", "(LChessLedger$Board;)V"⟩, 2) := ⟨⟨by decide +kernel, by decide +kernel⟩, List.mem_of_getElem? (i := 115) (by decide +kernel), List.mem_of_getElem? (i := 413) (by decide +kernel), List.mem_of_getElem? (i := 414) (by decide +kernel)⟩
theorem lw_p13 : lw_okq (⟨"ChessLedger$MoveTable", "size", "()I"⟩, 2) := ⟨⟨by decide +kernel, by decide +kernel⟩, List.mem_of_getElem? (i := 115) (by decide +kernel), List.mem_of_getElem? (i := 443) (by decide +kernel), List.mem_of_getElem? (i := 444) (by decide +kernel)⟩
theorem lw_p14 : lw_okq (⟨"ChessLedger$MoveTable", "sourcesOf", "(II)J"⟩, 2) := ⟨⟨by decide +kernel, by decide +kernel⟩, List.mem_of_getElem? (i := 115) (by decide +kernel), List.mem_of_getElem? (i := 455) (by decide +kernel), List.mem_of_getElem? (i := 456) (by decide +kernel)⟩
theorem lw_p15 : lw_okq (⟨"ChessLedger$Game", "remember", "(II)V"⟩, 7) := ⟨⟨by decide +kernel, by decide +kernel⟩, List.mem_of_getElem? (i := 27) (by decide +kernel), List.mem_of_getElem? (i := 475) (by decide +kernel), List.mem_of_getElem? (i := 476) (by decide +kernel)⟩
def lw_privs_1 : List (MethodName × Nat) := [(⟨"ChessLedger", "adoptDraft", "()Z"⟩, 10), (⟨"ChessLedger$Board", "hasKingsAndPawnsRight", "()Z"⟩, 5), (⟨"ChessLedger$Board", "hasRightsRight", "()Z"⟩, 5), (⟨"ChessLedger$Board", "hasFileRight", "()Z"⟩, 5), (⟨"ChessLedger$Board", "firstAlong", "(II)I"⟩, 5), (⟨"ChessLedger$Board", "attacksAgainst", "(III)Z"⟩, 5), (⟨"ChessLedger$MoveTable", "addPiece", "(LChessLedger$Board;I)V"⟩, 2), (⟨"ChessLedger$MoveTable", "addSteps", "(LChessLedger$Board;I)V"⟩, 2), (⟨"ChessLedger$MoveTable", "addPawn", "(II)V"⟩, 2), (⟨"ChessLedger$MoveTable", "addTakes", "(LChessLedger$Board;I)V"⟩, 2), (⟨"ChessLedger$MoveTable", "addLeaps", "(LChessLedger$Board;I)V"⟩, 2), (⟨"ChessLedger$MoveTable", "addAlong", "(LChessLedger$Board;III)V"⟩, 2), (⟨"ChessLedger$MoveTable", "addCastling", "(LChessLedger$Board;)V"⟩, 2), (⟨"ChessLedger$MoveTable", "size", "()I"⟩, 2), (⟨"ChessLedger$MoveTable", "sourcesOf", "(II)J"⟩, 2), (⟨"ChessLedger$Game", "remember", "(II)V"⟩, 7)]
theorem lw_r1 : ∀ q ∈ lw_privs_1, lw_okq q := List.forall_mem_cons.mpr ⟨lw_p0, List.forall_mem_cons.mpr ⟨lw_p1, List.forall_mem_cons.mpr ⟨lw_p2, List.forall_mem_cons.mpr ⟨lw_p3, List.forall_mem_cons.mpr ⟨lw_p4, List.forall_mem_cons.mpr ⟨lw_p5, List.forall_mem_cons.mpr ⟨lw_p6, List.forall_mem_cons.mpr ⟨lw_p7, List.forall_mem_cons.mpr ⟨lw_p8, List.forall_mem_cons.mpr ⟨lw_p9, List.forall_mem_cons.mpr ⟨lw_p10, List.forall_mem_cons.mpr ⟨lw_p11, List.forall_mem_cons.mpr ⟨lw_p12, List.forall_mem_cons.mpr ⟨lw_p13, List.forall_mem_cons.mpr ⟨lw_p14, List.forall_mem_cons.mpr ⟨lw_p15, fun _ h => absurd h List.not_mem_nil⟩⟩⟩⟩⟩⟩⟩⟩⟩⟩⟩⟩⟩⟩⟩⟩
theorem lw_p16 : lw_okq (⟨"ChessLedger$Game", "shiftPiece", "(II)V"⟩, 7) := ⟨⟨by decide +kernel, by decide +kernel⟩, List.mem_of_getElem? (i := 27) (by decide +kernel), List.mem_of_getElem? (i := 489) (by decide +kernel), List.mem_of_getElem? (i := 490) (by decide +kernel)⟩
theorem lw_p17 : lw_okq (⟨"ChessLedger$Past", "isSame", "(II)Z"⟩, 1) := ⟨⟨by decide +kernel, by decide +kernel⟩, List.mem_of_getElem? (i := 104) (by decide +kernel), List.mem_of_getElem? (i := 527) (by decide +kernel), List.mem_of_getElem? (i := 528) (by decide +kernel)⟩
theorem lw_p18 : lw_okq (⟨"ChessLedger$Reader", "takeSquares", "()Z"⟩, 4) := ⟨⟨by decide +kernel, by decide +kernel⟩, List.mem_of_getElem? (i := 128) (by decide +kernel), List.mem_of_getElem? (i := 567) (by decide +kernel), List.mem_of_getElem? (i := 568) (by decide +kernel)⟩
theorem lw_p19 : lw_okq (⟨"ChessLedger$Reader", "takeLetter", "(I)Z"⟩, 4) := ⟨⟨by decide +kernel, by decide +kernel⟩, List.mem_of_getElem? (i := 128) (by decide +kernel), List.mem_of_getElem? (i := 571) (by decide +kernel), List.mem_of_getElem? (i := 572) (by decide +kernel)⟩
theorem lw_p20 : lw_okq (⟨"ChessLedger$Reader", "letter", "()I"⟩, 4) := ⟨⟨by decide +kernel, by decide +kernel⟩, List.mem_of_getElem? (i := 128) (by decide +kernel), List.mem_of_getElem? (i := 575) (by decide +kernel), List.mem_of_getElem? (i := 576) (by decide +kernel)⟩
theorem lw_p21 : lw_okq (⟨"ChessLedger$Reader", "takeRank", "(I)Z"⟩, 4) := ⟨⟨by decide +kernel, by decide +kernel⟩, List.mem_of_getElem? (i := 128) (by decide +kernel), List.mem_of_getElem? (i := 583) (by decide +kernel), List.mem_of_getElem? (i := 584) (by decide +kernel)⟩
theorem lw_p22 : lw_okq (⟨"ChessLedger$Reader", "takeSide", "()Z"⟩, 4) := ⟨⟨by decide +kernel, by decide +kernel⟩, List.mem_of_getElem? (i := 128) (by decide +kernel), List.mem_of_getElem? (i := 632) (by decide +kernel), List.mem_of_getElem? (i := 633) (by decide +kernel)⟩
theorem lw_p23 : lw_okq (⟨"ChessLedger$Reader", "takeRights", "()Z"⟩, 4) := ⟨⟨by decide +kernel, by decide +kernel⟩, List.mem_of_getElem? (i := 128) (by decide +kernel), List.mem_of_getElem? (i := 636) (by decide +kernel), List.mem_of_getElem? (i := 637) (by decide +kernel)⟩
theorem lw_p24 : lw_okq (⟨"ChessLedger$Reader", "takePassed", "()Z"⟩, 4) := ⟨⟨by decide +kernel, by decide +kernel⟩, List.mem_of_getElem? (i := 128) (by decide +kernel), List.mem_of_getElem? (i := 641) (by decide +kernel), List.mem_of_getElem? (i := 642) (by decide +kernel)⟩
theorem lw_p25 : lw_okq (⟨"ChessLedger$Reader", "takeCount", "()Z"⟩, 4) := ⟨⟨by decide +kernel, by decide +kernel⟩, List.mem_of_getElem? (i := 128) (by decide +kernel), List.mem_of_getElem? (i := 645) (by decide +kernel), List.mem_of_getElem? (i := 646) (by decide +kernel)⟩
theorem lw_p26 : lw_okq (⟨"ChessLedger$Text", "addRank", "(LChessLedger$Board;I)V"⟩, 2) := ⟨⟨by decide +kernel, by decide +kernel⟩, List.mem_of_getElem? (i := 134) (by decide +kernel), List.mem_of_getElem? (i := 668) (by decide +kernel), List.mem_of_getElem? (i := 669) (by decide +kernel)⟩
theorem lw_p27 : lw_okq (⟨"ChessLedger$Text", "addGap", "(I)V"⟩, 2) := ⟨⟨by decide +kernel, by decide +kernel⟩, List.mem_of_getElem? (i := 134) (by decide +kernel), List.mem_of_getElem? (i := 673) (by decide +kernel), List.mem_of_getElem? (i := 674) (by decide +kernel)⟩
theorem lw_p28 : lw_okq (⟨"ChessLedger$Text", "addRights", "(I)V"⟩, 2) := ⟨⟨by decide +kernel, by decide +kernel⟩, List.mem_of_getElem? (i := 134) (by decide +kernel), List.mem_of_getElem? (i := 684) (by decide +kernel), List.mem_of_getElem? (i := 685) (by decide +kernel)⟩
theorem lw_p29 : lw_okq (⟨"ChessLedger$Text", "addPassed", "(I)V"⟩, 2) := ⟨⟨by decide +kernel, by decide +kernel⟩, List.mem_of_getElem? (i := 134) (by decide +kernel), List.mem_of_getElem? (i := 690) (by decide +kernel), List.mem_of_getElem? (i := 691) (by decide +kernel)⟩
theorem lw_p30 : lw_okq (⟨"ChessLedger$Text", "addNumber", "(I)V"⟩, 2) := ⟨⟨by decide +kernel, by decide +kernel⟩, List.mem_of_getElem? (i := 134) (by decide +kernel), List.mem_of_getElem? (i := 694) (by decide +kernel), List.mem_of_getElem? (i := 695) (by decide +kernel)⟩
theorem lw_p31 : lw_okq (⟨"ChessLedgerModel", "copy", "(II)V"⟩, 15) := ⟨⟨by decide +kernel, by decide +kernel⟩, List.mem_of_getElem? (i := 711) (by decide +kernel), List.mem_of_getElem? (i := 771) (by decide +kernel), List.mem_of_getElem? (i := 772) (by decide +kernel)⟩
def lw_privs_2 : List (MethodName × Nat) := [(⟨"ChessLedger$Game", "shiftPiece", "(II)V"⟩, 7), (⟨"ChessLedger$Past", "isSame", "(II)Z"⟩, 1), (⟨"ChessLedger$Reader", "takeSquares", "()Z"⟩, 4), (⟨"ChessLedger$Reader", "takeLetter", "(I)Z"⟩, 4), (⟨"ChessLedger$Reader", "letter", "()I"⟩, 4), (⟨"ChessLedger$Reader", "takeRank", "(I)Z"⟩, 4), (⟨"ChessLedger$Reader", "takeSide", "()Z"⟩, 4), (⟨"ChessLedger$Reader", "takeRights", "()Z"⟩, 4), (⟨"ChessLedger$Reader", "takePassed", "()Z"⟩, 4), (⟨"ChessLedger$Reader", "takeCount", "()Z"⟩, 4), (⟨"ChessLedger$Text", "addRank", "(LChessLedger$Board;I)V"⟩, 2), (⟨"ChessLedger$Text", "addGap", "(I)V"⟩, 2), (⟨"ChessLedger$Text", "addRights", "(I)V"⟩, 2), (⟨"ChessLedger$Text", "addPassed", "(I)V"⟩, 2), (⟨"ChessLedger$Text", "addNumber", "(I)V"⟩, 2), (⟨"ChessLedgerModel", "copy", "(II)V"⟩, 15)]
theorem lw_r2 : ∀ q ∈ lw_privs_2, lw_okq q := List.forall_mem_cons.mpr ⟨lw_p16, List.forall_mem_cons.mpr ⟨lw_p17, List.forall_mem_cons.mpr ⟨lw_p18, List.forall_mem_cons.mpr ⟨lw_p19, List.forall_mem_cons.mpr ⟨lw_p20, List.forall_mem_cons.mpr ⟨lw_p21, List.forall_mem_cons.mpr ⟨lw_p22, List.forall_mem_cons.mpr ⟨lw_p23, List.forall_mem_cons.mpr ⟨lw_p24, List.forall_mem_cons.mpr ⟨lw_p25, List.forall_mem_cons.mpr ⟨lw_p26, List.forall_mem_cons.mpr ⟨lw_p27, List.forall_mem_cons.mpr ⟨lw_p28, List.forall_mem_cons.mpr ⟨lw_p29, List.forall_mem_cons.mpr ⟨lw_p30, List.forall_mem_cons.mpr ⟨lw_p31, fun _ h => absurd h List.not_mem_nil⟩⟩⟩⟩⟩⟩⟩⟩⟩⟩⟩⟩⟩⟩⟩⟩
theorem lw_p32 : lw_okq (⟨"ChessLedgerModel", "isGood", "(I)Z"⟩, 15) := ⟨⟨by decide +kernel, by decide +kernel⟩, List.mem_of_getElem? (i := 711) (by decide +kernel), List.mem_of_getElem? (i := 779) (by decide +kernel), List.mem_of_getElem? (i := 780) (by decide +kernel)⟩
theorem lw_p33 : lw_okq (⟨"ChessLedgerModel", "hasKings", "(I)Z"⟩, 15) := ⟨⟨by decide +kernel, by decide +kernel⟩, List.mem_of_getElem? (i := 711) (by decide +kernel), List.mem_of_getElem? (i := 783) (by decide +kernel), List.mem_of_getElem? (i := 784) (by decide +kernel)⟩
theorem lw_p34 : lw_okq (⟨"ChessLedgerModel", "piece", "(II)I"⟩, 15) := ⟨⟨by decide +kernel, by decide +kernel⟩, List.mem_of_getElem? (i := 711) (by decide +kernel), List.mem_of_getElem? (i := 787) (by decide +kernel), List.mem_of_getElem? (i := 788) (by decide +kernel)⟩
theorem lw_p35 : lw_okq (⟨"ChessLedgerModel", "areRights", "(I)Z"⟩, 15) := ⟨⟨by decide +kernel, by decide +kernel⟩, List.mem_of_getElem? (i := 711) (by decide +kernel), List.mem_of_getElem? (i := 794) (by decide +kernel), List.mem_of_getElem? (i := 795) (by decide +kernel)⟩
theorem lw_p36 : lw_okq (⟨"ChessLedgerModel", "isFile", "(I)Z"⟩, 15) := ⟨⟨by decide +kernel, by decide +kernel⟩, List.mem_of_getElem? (i := 711) (by decide +kernel), List.mem_of_getElem? (i := 798) (by decide +kernel), List.mem_of_getElem? (i := 799) (by decide +kernel)⟩
theorem lw_p37 : lw_okq (⟨"ChessLedgerModel", "kingOf", "(II)I"⟩, 15) := ⟨⟨by decide +kernel, by decide +kernel⟩, List.mem_of_getElem? (i := 711) (by decide +kernel), List.mem_of_getElem? (i := 802) (by decide +kernel), List.mem_of_getElem? (i := 803) (by decide +kernel)⟩
theorem lw_p38 : lw_okq (⟨"ChessLedgerModel", "isAttacked", "(III)Z"⟩, 15) := ⟨⟨by decide +kernel, by decide +kernel⟩, List.mem_of_getElem? (i := 711) (by decide +kernel), List.mem_of_getElem? (i := 806) (by decide +kernel), List.mem_of_getElem? (i := 807) (by decide +kernel)⟩
theorem lw_p39 : lw_okq (⟨"ChessLedgerModel", "isSeen", "(IIIII)Z"⟩, 15) := ⟨⟨by decide +kernel, by decide +kernel⟩, List.mem_of_getElem? (i := 711) (by decide +kernel), List.mem_of_getElem? (i := 810) (by decide +kernel), List.mem_of_getElem? (i := 811) (by decide +kernel)⟩
theorem lw_p40 : lw_okq (⟨"ChessLedgerModel", "isOf", "(III)Z"⟩, 15) := ⟨⟨by decide +kernel, by decide +kernel⟩, List.mem_of_getElem? (i := 711) (by decide +kernel), List.mem_of_getElem? (i := 814) (by decide +kernel), List.mem_of_getElem? (i := 815) (by decide +kernel)⟩
theorem lw_p41 : lw_okq (⟨"ChessLedgerModel", "doesAttack", "(III)Z"⟩, 15) := ⟨⟨by decide +kernel, by decide +kernel⟩, List.mem_of_getElem? (i := 711) (by decide +kernel), List.mem_of_getElem? (i := 818) (by decide +kernel), List.mem_of_getElem? (i := 819) (by decide +kernel)⟩
theorem lw_p42 : lw_okq (⟨"ChessLedgerModel", "isClear", "(III)Z"⟩, 15) := ⟨⟨by decide +kernel, by decide +kernel⟩, List.mem_of_getElem? (i := 711) (by decide +kernel), List.mem_of_getElem? (i := 825) (by decide +kernel), List.mem_of_getElem? (i := 826) (by decide +kernel)⟩
theorem lw_p43 : lw_okq (⟨"ChessLedgerModel", "isJumped", "(IIIII)Z"⟩, 15) := ⟨⟨by decide +kernel, by decide +kernel⟩, List.mem_of_getElem? (i := 711) (by decide +kernel), List.mem_of_getElem? (i := 832) (by decide +kernel), List.mem_of_getElem? (i := 833) (by decide +kernel)⟩
theorem lw_p44 : lw_okq (⟨"ChessLedgerModel", "begin", "()V"⟩, 15) := ⟨⟨by decide +kernel, by decide +kernel⟩, List.mem_of_getElem? (i := 711) (by decide +kernel), List.mem_of_getElem? (i := 836) (by decide +kernel), List.mem_of_getElem? (i := 837) (by decide +kernel)⟩
theorem lw_p45 : lw_okq (⟨"ChessLedgerModel", "findTakers", "(I)V"⟩, 15) := ⟨⟨by decide +kernel, by decide +kernel⟩, List.mem_of_getElem? (i := 711) (by decide +kernel), List.mem_of_getElem? (i := 840) (by decide +kernel), List.mem_of_getElem? (i := 841) (by decide +kernel)⟩
theorem lw_p46 : lw_okq (⟨"ChessLedgerModel", "isBehind", "(III)Z"⟩, 15) := ⟨⟨by decide +kernel, by decide +kernel⟩, List.mem_of_getElem? (i := 711) (by decide +kernel), List.mem_of_getElem? (i := 844) (by decide +kernel), List.mem_of_getElem? (i := 845) (by decide +kernel)⟩
theorem lw_p47 : lw_okq (⟨"ChessLedgerModel", "isSafe", "(IIII)Z"⟩, 15) := ⟨⟨by decide +kernel, by decide +kernel⟩, List.mem_of_getElem? (i := 711) (by decide +kernel), List.mem_of_getElem? (i := 848) (by decide +kernel), List.mem_of_getElem? (i := 849) (by decide +kernel)⟩
def lw_privs_3 : List (MethodName × Nat) := [(⟨"ChessLedgerModel", "isGood", "(I)Z"⟩, 15), (⟨"ChessLedgerModel", "hasKings", "(I)Z"⟩, 15), (⟨"ChessLedgerModel", "piece", "(II)I"⟩, 15), (⟨"ChessLedgerModel", "areRights", "(I)Z"⟩, 15), (⟨"ChessLedgerModel", "isFile", "(I)Z"⟩, 15), (⟨"ChessLedgerModel", "kingOf", "(II)I"⟩, 15), (⟨"ChessLedgerModel", "isAttacked", "(III)Z"⟩, 15), (⟨"ChessLedgerModel", "isSeen", "(IIIII)Z"⟩, 15), (⟨"ChessLedgerModel", "isOf", "(III)Z"⟩, 15), (⟨"ChessLedgerModel", "doesAttack", "(III)Z"⟩, 15), (⟨"ChessLedgerModel", "isClear", "(III)Z"⟩, 15), (⟨"ChessLedgerModel", "isJumped", "(IIIII)Z"⟩, 15), (⟨"ChessLedgerModel", "begin", "()V"⟩, 15), (⟨"ChessLedgerModel", "findTakers", "(I)V"⟩, 15), (⟨"ChessLedgerModel", "isBehind", "(III)Z"⟩, 15), (⟨"ChessLedgerModel", "isSafe", "(IIII)Z"⟩, 15)]
theorem lw_r3 : ∀ q ∈ lw_privs_3, lw_okq q := List.forall_mem_cons.mpr ⟨lw_p32, List.forall_mem_cons.mpr ⟨lw_p33, List.forall_mem_cons.mpr ⟨lw_p34, List.forall_mem_cons.mpr ⟨lw_p35, List.forall_mem_cons.mpr ⟨lw_p36, List.forall_mem_cons.mpr ⟨lw_p37, List.forall_mem_cons.mpr ⟨lw_p38, List.forall_mem_cons.mpr ⟨lw_p39, List.forall_mem_cons.mpr ⟨lw_p40, List.forall_mem_cons.mpr ⟨lw_p41, List.forall_mem_cons.mpr ⟨lw_p42, List.forall_mem_cons.mpr ⟨lw_p43, List.forall_mem_cons.mpr ⟨lw_p44, List.forall_mem_cons.mpr ⟨lw_p45, List.forall_mem_cons.mpr ⟨lw_p46, List.forall_mem_cons.mpr ⟨lw_p47, fun _ h => absurd h List.not_mem_nil⟩⟩⟩⟩⟩⟩⟩⟩⟩⟩⟩⟩⟩⟩⟩⟩
theorem lw_p48 : lw_okq (⟨"ChessLedgerModel", "lay", "(III)V"⟩, 15) := ⟨⟨by decide +kernel, by decide +kernel⟩, List.mem_of_getElem? (i := 711) (by decide +kernel), List.mem_of_getElem? (i := 852) (by decide +kernel), List.mem_of_getElem? (i := 853) (by decide +kernel)⟩
theorem lw_p49 : lw_okq (⟨"ChessLedgerModel", "movesOf", "(I)I"⟩, 15) := ⟨⟨by decide +kernel, by decide +kernel⟩, List.mem_of_getElem? (i := 711) (by decide +kernel), List.mem_of_getElem? (i := 868) (by decide +kernel), List.mem_of_getElem? (i := 869) (by decide +kernel)⟩
theorem lw_p50 : lw_okq (⟨"ChessLedgerModel", "isLast", "(III)Z"⟩, 15) := ⟨⟨by decide +kernel, by decide +kernel⟩, List.mem_of_getElem? (i := 711) (by decide +kernel), List.mem_of_getElem? (i := 872) (by decide +kernel), List.mem_of_getElem? (i := 873) (by decide +kernel)⟩
theorem lw_p51 : lw_okq (⟨"ChessLedgerModel", "isLegal", "(IIII)Z"⟩, 15) := ⟨⟨by decide +kernel, by decide +kernel⟩, List.mem_of_getElem? (i := 711) (by decide +kernel), List.mem_of_getElem? (i := 876) (by decide +kernel), List.mem_of_getElem? (i := 877) (by decide +kernel)⟩
theorem lw_p52 : lw_okq (⟨"ChessLedgerModel", "mayGo", "(IIII)Z"⟩, 15) := ⟨⟨by decide +kernel, by decide +kernel⟩, List.mem_of_getElem? (i := 711) (by decide +kernel), List.mem_of_getElem? (i := 880) (by decide +kernel), List.mem_of_getElem? (i := 881) (by decide +kernel)⟩
theorem lw_p53 : lw_okq (⟨"ChessLedgerModel", "mayPawn", "(IIII)Z"⟩, 15) := ⟨⟨by decide +kernel, by decide +kernel⟩, List.mem_of_getElem? (i := 711) (by decide +kernel), List.mem_of_getElem? (i := 884) (by decide +kernel), List.mem_of_getElem? (i := 885) (by decide +kernel)⟩
theorem lw_p54 : lw_okq (⟨"ChessLedgerModel", "mayCastle", "(III)Z"⟩, 15) := ⟨⟨by decide +kernel, by decide +kernel⟩, List.mem_of_getElem? (i := 711) (by decide +kernel), List.mem_of_getElem? (i := 888) (by decide +kernel), List.mem_of_getElem? (i := 889) (by decide +kernel)⟩
theorem lw_p55 : lw_okq (⟨"ChessLedgerModel", "codeOf", "(II)I"⟩, 15) := ⟨⟨by decide +kernel, by decide +kernel⟩, List.mem_of_getElem? (i := 711) (by decide +kernel), List.mem_of_getElem? (i := 896) (by decide +kernel), List.mem_of_getElem? (i := 897) (by decide +kernel)⟩
theorem lw_p56 : lw_okq (⟨"ChessLedgerModel", "go", "(IIII)V"⟩, 15) := ⟨⟨by decide +kernel, by decide +kernel⟩, List.mem_of_getElem? (i := 711) (by decide +kernel), List.mem_of_getElem? (i := 904) (by decide +kernel), List.mem_of_getElem? (i := 905) (by decide +kernel)⟩
theorem lw_p57 : lw_okq (⟨"ChessLedgerModel", "attackersOf", "(III)J"⟩, 15) := ⟨⟨by decide +kernel, by decide +kernel⟩, List.mem_of_getElem? (i := 711) (by decide +kernel), List.mem_of_getElem? (i := 919) (by decide +kernel), List.mem_of_getElem? (i := 920) (by decide +kernel)⟩
theorem lw_p58 : lw_okq (⟨"ChessLedgerModel", "isChecked", "(I)Z"⟩, 15) := ⟨⟨by decide +kernel, by decide +kernel⟩, List.mem_of_getElem? (i := 711) (by decide +kernel), List.mem_of_getElem? (i := 927) (by decide +kernel), List.mem_of_getElem? (i := 928) (by decide +kernel)⟩
theorem lw_p59 : lw_okq (⟨"ChessLedgerModel", "seenOf", "()I"⟩, 15) := ⟨⟨by decide +kernel, by decide +kernel⟩, List.mem_of_getElem? (i := 711) (by decide +kernel), List.mem_of_getElem? (i := 935) (by decide +kernel), List.mem_of_getElem? (i := 936) (by decide +kernel)⟩
theorem lw_p60 : lw_okq (⟨"ChessLedgerModel", "isDead", "()Z"⟩, 15) := ⟨⟨by decide +kernel, by decide +kernel⟩, List.mem_of_getElem? (i := 711) (by decide +kernel), List.mem_of_getElem? (i := 943) (by decide +kernel), List.mem_of_getElem? (i := 944) (by decide +kernel)⟩
theorem lw_p61 : lw_okq (⟨"ChessLedgerModel", "behindAll", "(I)I"⟩, 15) := ⟨⟨by decide +kernel, by decide +kernel⟩, List.mem_of_getElem? (i := 711) (by decide +kernel), List.mem_of_getElem? (i := 951) (by decide +kernel), List.mem_of_getElem? (i := 952) (by decide +kernel)⟩
theorem lw_p62 : lw_okq (⟨"ChessLedgerModel", "readAll", "()Z"⟩, 15) := ⟨⟨by decide +kernel, by decide +kernel⟩, List.mem_of_getElem? (i := 711) (by decide +kernel), List.mem_of_getElem? (i := 970) (by decide +kernel), List.mem_of_getElem? (i := 971) (by decide +kernel)⟩
theorem lw_p63 : lw_okq (⟨"ChessLedgerModel", "readSquares", "()I"⟩, 15) := ⟨⟨by decide +kernel, by decide +kernel⟩, List.mem_of_getElem? (i := 711) (by decide +kernel), List.mem_of_getElem? (i := 974) (by decide +kernel), List.mem_of_getElem? (i := 975) (by decide +kernel)⟩
def lw_privs_4 : List (MethodName × Nat) := [(⟨"ChessLedgerModel", "lay", "(III)V"⟩, 15), (⟨"ChessLedgerModel", "movesOf", "(I)I"⟩, 15), (⟨"ChessLedgerModel", "isLast", "(III)Z"⟩, 15), (⟨"ChessLedgerModel", "isLegal", "(IIII)Z"⟩, 15), (⟨"ChessLedgerModel", "mayGo", "(IIII)Z"⟩, 15), (⟨"ChessLedgerModel", "mayPawn", "(IIII)Z"⟩, 15), (⟨"ChessLedgerModel", "mayCastle", "(III)Z"⟩, 15), (⟨"ChessLedgerModel", "codeOf", "(II)I"⟩, 15), (⟨"ChessLedgerModel", "go", "(IIII)V"⟩, 15), (⟨"ChessLedgerModel", "attackersOf", "(III)J"⟩, 15), (⟨"ChessLedgerModel", "isChecked", "(I)Z"⟩, 15), (⟨"ChessLedgerModel", "seenOf", "()I"⟩, 15), (⟨"ChessLedgerModel", "isDead", "()Z"⟩, 15), (⟨"ChessLedgerModel", "behindAll", "(I)I"⟩, 15), (⟨"ChessLedgerModel", "readAll", "()Z"⟩, 15), (⟨"ChessLedgerModel", "readSquares", "()I"⟩, 15)]
theorem lw_r4 : ∀ q ∈ lw_privs_4, lw_okq q := List.forall_mem_cons.mpr ⟨lw_p48, List.forall_mem_cons.mpr ⟨lw_p49, List.forall_mem_cons.mpr ⟨lw_p50, List.forall_mem_cons.mpr ⟨lw_p51, List.forall_mem_cons.mpr ⟨lw_p52, List.forall_mem_cons.mpr ⟨lw_p53, List.forall_mem_cons.mpr ⟨lw_p54, List.forall_mem_cons.mpr ⟨lw_p55, List.forall_mem_cons.mpr ⟨lw_p56, List.forall_mem_cons.mpr ⟨lw_p57, List.forall_mem_cons.mpr ⟨lw_p58, List.forall_mem_cons.mpr ⟨lw_p59, List.forall_mem_cons.mpr ⟨lw_p60, List.forall_mem_cons.mpr ⟨lw_p61, List.forall_mem_cons.mpr ⟨lw_p62, List.forall_mem_cons.mpr ⟨lw_p63, fun _ h => absurd h List.not_mem_nil⟩⟩⟩⟩⟩⟩⟩⟩⟩⟩⟩⟩⟩⟩⟩⟩
theorem lw_p64 : lw_okq (⟨"ChessLedgerModel", "is", "(I)Z"⟩, 15) := ⟨⟨by decide +kernel, by decide +kernel⟩, List.mem_of_getElem? (i := 711) (by decide +kernel), List.mem_of_getElem? (i := 978) (by decide +kernel), List.mem_of_getElem? (i := 979) (by decide +kernel)⟩
theorem lw_p65 : lw_okq (⟨"ChessLedgerModel", "next", "()I"⟩, 15) := ⟨⟨by decide +kernel, by decide +kernel⟩, List.mem_of_getElem? (i := 711) (by decide +kernel), List.mem_of_getElem? (i := 982) (by decide +kernel), List.mem_of_getElem? (i := 983) (by decide +kernel)⟩
theorem lw_p66 : lw_okq (⟨"ChessLedgerModel", "readRights", "()Z"⟩, 15) := ⟨⟨by decide +kernel, by decide +kernel⟩, List.mem_of_getElem? (i := 711) (by decide +kernel), List.mem_of_getElem? (i := 989) (by decide +kernel), List.mem_of_getElem? (i := 990) (by decide +kernel)⟩
theorem lw_p67 : lw_okq (⟨"ChessLedgerModel", "readFile", "()Z"⟩, 15) := ⟨⟨by decide +kernel, by decide +kernel⟩, List.mem_of_getElem? (i := 711) (by decide +kernel), List.mem_of_getElem? (i := 993) (by decide +kernel), List.mem_of_getElem? (i := 994) (by decide +kernel)⟩
theorem lw_p68 : lw_okq (⟨"ChessLedgerModel", "readCount", "()Z"⟩, 15) := ⟨⟨by decide +kernel, by decide +kernel⟩, List.mem_of_getElem? (i := 711) (by decide +kernel), List.mem_of_getElem? (i := 997) (by decide +kernel), List.mem_of_getElem? (i := 998) (by decide +kernel)⟩
theorem lw_p69 : lw_okq (⟨"ChessLedgerModel", "say", "(I)V"⟩, 15) := ⟨⟨by decide +kernel, by decide +kernel⟩, List.mem_of_getElem? (i := 711) (by decide +kernel), List.mem_of_getElem? (i := 1005) (by decide +kernel), List.mem_of_getElem? (i := 1006) (by decide +kernel)⟩
def lw_privs_5 : List (MethodName × Nat) := [(⟨"ChessLedgerModel", "is", "(I)Z"⟩, 15), (⟨"ChessLedgerModel", "next", "()I"⟩, 15), (⟨"ChessLedgerModel", "readRights", "()Z"⟩, 15), (⟨"ChessLedgerModel", "readFile", "()Z"⟩, 15), (⟨"ChessLedgerModel", "readCount", "()Z"⟩, 15), (⟨"ChessLedgerModel", "say", "(I)V"⟩, 15)]
theorem lw_r5 : ∀ q ∈ lw_privs_5, lw_okq q := List.forall_mem_cons.mpr ⟨lw_p64, List.forall_mem_cons.mpr ⟨lw_p65, List.forall_mem_cons.mpr ⟨lw_p66, List.forall_mem_cons.mpr ⟨lw_p67, List.forall_mem_cons.mpr ⟨lw_p68, List.forall_mem_cons.mpr ⟨lw_p69, fun _ h => absurd h List.not_mem_nil⟩⟩⟩⟩⟩⟩
def lw_privs : List (MethodName × Nat) := lw_privs_1 ++ (lw_privs_2 ++ (lw_privs_3 ++ (lw_privs_4 ++ (lw_privs_5))))
def lw_tbl : List Cond := k2_sels lw_privs ++ tables_1
theorem lw_privs_ok : ∀ q ∈ lw_privs, lw_okq q := by
  show ∀ q ∈ lw_privs_1 ++ (lw_privs_2 ++ (lw_privs_3 ++ (lw_privs_4 ++ (lw_privs_5)))), lw_okq q
  exact List.forall_mem_append.mpr ⟨lw_r1, List.forall_mem_append.mpr ⟨lw_r2, List.forall_mem_append.mpr ⟨lw_r3, List.forall_mem_append.mpr ⟨lw_r4, lw_r5⟩⟩⟩⟩
end
section
/-! numbers: an int is an Int between -2^31 and 2^31, a long one between -2^63 and 2^63 -/
def w32 (x : Int) : Int := (x + 2147483648) % 4294967296 - 2147483648
def w64 (x : Int) : Int := (x + 9223372036854775808) % 18446744073709551616 - 9223372036854775808
def ok32 (x : Int) : Prop := -2147483648 ≤ x ∧ x < 2147483648
def ok64 (x : Int) : Prop := -9223372036854775808 ≤ x ∧ x < 9223372036854775808
theorem w32_ok (x : Int) : ok32 (w32 x) := by unfold ok32 w32; omega
theorem w64_ok (x : Int) : ok64 (w64 x) := by unfold ok64 w64; omega
theorem w32_id {x : Int} (h : -2147483648 ≤ x) (h' : x < 2147483648) : w32 x = x := by unfold w32; omega
theorem w64_id {x : Int} (h : -9223372036854775808 ≤ x) (h' : x < 9223372036854775808) : w64 x = x := by unfold w64; omega
theorem ok32_id {x : Int} (h : ok32 x) : w32 x = x := w32_id h.1 h.2
theorem ok64_id {x : Int} (h : ok64 x) : w64 x = x := w64_id h.1 h.2
theorem jn_toInt (x : Int) : (Int32.ofInt x).toInt = w32 x := by
  rw [Int32.toInt_ofInt, Int.bmod_def]
  unfold w32
  simp only [Int32.size]
  split <;> omega
theorem jl_toInt (x : Int) : (Int64.ofInt x).toInt = w64 x := by
  rw [Int64.toInt_ofInt, Int.bmod_def]
  unfold w64
  simp only [Int64.size]
  split <;> omega
theorem jn_ok (x : Int32) : ok32 x.toInt := by
  have := jn_toInt x.toInt
  rw [Int32.ofInt_toInt] at this
  rw [this]
  exact w32_ok _
theorem jl_ok (x : Int64) : ok64 x.toInt := by
  have := jl_toInt x.toInt
  rw [Int64.ofInt_toInt] at this
  rw [this]
  exact w64_ok _
theorem jn_w (x : Int) : Int32.ofInt (w32 x) = Int32.ofInt x := by
  apply Int32.toInt_inj.mp
  rw [jn_toInt, jn_toInt, ok32_id (w32_ok x)]
theorem jl_w (x : Int) : Int64.ofInt (w64 x) = Int64.ofInt x := by
  apply Int64.toInt_inj.mp
  rw [jl_toInt, jl_toInt, ok64_id (w64_ok x)]
theorem jn_inj {a b : Int} (ha : ok32 a) (hb : ok32 b) : Int32.ofInt a = Int32.ofInt b ↔ a = b := by
  constructor
  · intro h
    have h2 := congrArg Int32.toInt h
    rw [jn_toInt, jn_toInt, ok32_id ha, ok32_id hb] at h2
    exact h2
  · intro h; rw [h]
theorem jn_lt {a b : Int} (ha : ok32 a) (hb : ok32 b) : Int32.ofInt a < Int32.ofInt b ↔ a < b := by
  rw [Int32.lt_iff_toInt_lt, jn_toInt, jn_toInt, ok32_id ha, ok32_id hb]
theorem jn_le {a b : Int} (ha : ok32 a) (hb : ok32 b) : Int32.ofInt a ≤ Int32.ofInt b ↔ a ≤ b := by
  rw [Int32.le_iff_toInt_le, jn_toInt, jn_toInt, ok32_id ha, ok32_id hb]
theorem jl_inj {a b : Int} (ha : ok64 a) (hb : ok64 b) : Int64.ofInt a = Int64.ofInt b ↔ a = b := by
  constructor
  · intro h
    have h2 := congrArg Int64.toInt h
    rw [jl_toInt, jl_toInt, ok64_id ha, ok64_id hb] at h2
    exact h2
  · intro h; rw [h]
theorem jl_lt {a b : Int} (ha : ok64 a) (hb : ok64 b) : Int64.ofInt a < Int64.ofInt b ↔ a < b := by
  rw [Int64.lt_iff_toInt_lt, jl_toInt, jl_toInt, ok64_id ha, ok64_id hb]
theorem jn_zero : (0 : Int32) = Int32.ofInt 0 := rfl
theorem ok32_0 : ok32 0 := by unfold ok32; omega
/-! operations -/
def jadd (a b : Int) : Int := w32 (a + b)
def jsub (a b : Int) : Int := w32 (a - b)
def jmul (a b : Int) : Int := w32 (a * b)
def jneg (a : Int) : Int := w32 (-a)
def jdiv (a b : Int) : Int := (Int32.ofInt a / Int32.ofInt b).toInt
def jrem (a b : Int) : Int := (Int32.ofInt a - Int32.ofInt a / Int32.ofInt b * Int32.ofInt b).toInt
def jand (a b : Int) : Int := (Int32.ofInt a &&& Int32.ofInt b).toInt
def jor (a b : Int) : Int := (Int32.ofInt a ||| Int32.ofInt b).toInt
def jxor (a b : Int) : Int := (Int32.ofInt a ^^^ Int32.ofInt b).toInt
def jshl (a b : Int) : Int := (Int32.ofInt a <<< (Int32.ofInt b &&& 31)).toInt
def jshr (a b : Int) : Int := (Int32.ofInt a >>> (Int32.ofInt b &&& 31)).toInt
def jushr (a b : Int) : Int := ((Int32.ofInt a).toUInt32 >>> ((Int32.ofInt b).toUInt32 &&& Int32.toUInt32 31)).toInt32.toInt
def jladd (a b : Int) : Int := w64 (a + b)
def jlsub (a b : Int) : Int := w64 (a - b)
def jlmul (a b : Int) : Int := w64 (a * b)
def jland (a b : Int) : Int := (Int64.ofInt a &&& Int64.ofInt b).toInt
def jlor (a b : Int) : Int := (Int64.ofInt a ||| Int64.ofInt b).toInt
def jlxor (a b : Int) : Int := (Int64.ofInt a ^^^ Int64.ofInt b).toInt
def jlshl (a b : Int) : Int := (Int64.ofInt a <<< ((Int32.ofInt b).toInt64 &&& 63)).toInt
def jlshr (a b : Int) : Int := (Int64.ofInt a >>> ((Int32.ofInt b).toInt64 &&& 63)).toInt
def jlushr (a b : Int) : Int := ((Int64.ofInt a).toUInt64 >>> ((Int32.ofInt b).toInt64.toUInt64 &&& Int64.toUInt64 63)).toInt64.toInt
def ji2l (a : Int) : Int := a
def jl2i (a : Int) : Int := w32 a
def ji2b (a : Int) : Int := (Int32.ofInt a).toInt8.toInt32.toInt
def ji2c (a : Int) : Int := ((Int32.ofInt a).toUInt32 % 65536).toInt32.toInt
def jcmp (a b : Int) : Int := if b < a then 1 else if a = b then 0 else -1
theorem jn_add (a b : Int) : Int32.ofInt a + Int32.ofInt b = Int32.ofInt (jadd a b) := by rw [jadd, jn_w, Int32.ofInt_add]
theorem jn_sub (a b : Int) : Int32.ofInt a - Int32.ofInt b = Int32.ofInt (jsub a b) := by rw [jsub, jn_w, Int32.ofInt_sub]
theorem jn_mul (a b : Int) : Int32.ofInt a * Int32.ofInt b = Int32.ofInt (jmul a b) := by rw [jmul, jn_w, Int32.ofInt_mul]
theorem jn_neg (a : Int) : -Int32.ofInt a = Int32.ofInt (jneg a) := by rw [jneg, jn_w, Int32.ofInt_neg]
theorem jl_add (a b : Int) : Int64.ofInt a + Int64.ofInt b = Int64.ofInt (jladd a b) := by rw [jladd, jl_w, Int64.ofInt_add]
theorem jl_sub (a b : Int) : Int64.ofInt a - Int64.ofInt b = Int64.ofInt (jlsub a b) := by rw [jlsub, jl_w, Int64.ofInt_sub]
theorem jl_mul (a b : Int) : Int64.ofInt a * Int64.ofInt b = Int64.ofInt (jlmul a b) := by rw [jlmul, jl_w, Int64.ofInt_mul]
theorem jl_i2l {a : Int} (ha : ok32 a) : (Int32.ofInt a).toInt64 = Int64.ofInt (ji2l a) := by
  apply Int64.toInt_inj.mp
  rw [Int32.toInt_toInt64, jn_toInt, jl_toInt, ok32_id ha, ji2l, w64_id] <;> (have := ha.1; have := ha.2; omega)
theorem jl_l2i (a : Int) : (Int64.ofInt a).toInt32 = Int32.ofInt (jl2i a) := by rw [jl2i, jn_w, Int64.toInt32_ofInt]
theorem jl_cmp {a b : Int} (ha : ok64 a) (hb : ok64 b) : lg_cmp (Int64.ofInt a) (Int64.ofInt b) = Int32.ofInt (jcmp a b) := by
  unfold lg_cmp jcmp
  simp only [GT.gt, jl_lt ha hb, jl_lt hb ha]
  by_cases h1 : b < a
  · simp [h1]
  · by_cases h2 : a = b
    · subst h2; simp
    · have h3 : a < b := by omega
      simp [h1, h2, jl_inj ha hb]
end
section
/-! the claim's tables: written by gen/world.py -/
abbrev jV : Type := Nat × Int
abbrev jH : Type := Nat → Nat → Int
def jT0 : u_T := fun k => match k with
  | 0 => ("ChessLedger", "game", "LChessLedger$Game;", true)
  | 1 => ("ChessLedger", "board", "LChessLedger$Board;", true)
  | 2 => ("ChessLedger", "past", "LChessLedger$Past;", true)
  | 3 => ("ChessLedger", "now", "LChessLedger$MoveTable;", true)
  | 4 => ("ChessLedger", "next", "LChessLedger$MoveTable;", true)
  | 5 => ("ChessLedger", "reader", "LChessLedger$Reader;", true)
  | 6 => ("ChessLedger", "typed", "LChessLedger$Text;", true)
  | 7 => ("ChessLedger", "draft", "LChessLedger$Board;", true)
  | 8 => ("ChessLedger", "printed", "LChessLedger$Text;", true)
  | _ => ("ChessLedger", "good", "Z", false)
def jT1 : u_T := fun k => match k with
  | 0 => ("ChessLedger$Board", "squares", "[I", true)
  | 1 => ("ChessLedger$Board", "side", "I", false)
  | 2 => ("ChessLedger$Board", "rights", "I", false)
  | 3 => ("ChessLedger$Board", "file", "I", false)
  | _ => ("ChessLedger$Board", "count", "I", false)
def jT2 : u_T := fun k => match k with
  | 0 => ("ChessLedger$Game", "board", "LChessLedger$Board;", true)
  | 1 => ("ChessLedger$Game", "codes", "[I", true)
  | 2 => ("ChessLedger$Game", "takenPieces", "[I", true)
  | 3 => ("ChessLedger$Game", "rightsBefore", "[I", true)
  | 4 => ("ChessLedger$Game", "filesBefore", "[I", true)
  | 5 => ("ChessLedger$Game", "countsBefore", "[I", true)
  | _ => ("ChessLedger$Game", "length", "I", false)
def jT3 : u_T := fun k => match k with
  | 0 => ("ChessLedger$MoveTable", "plain", "[J", true)
  | _ => ("ChessLedger$MoveTable", "becoming", "[J", true)
def jT4 : u_T := fun k => match k with
  | _ => ("ChessLedger$Past", "words", "[J", true)
def jT5 : u_T := fun k => match k with
  | 0 => ("ChessLedger$Reader", "text", "LChessLedger$Text;", true)
  | 1 => ("ChessLedger$Reader", "draft", "LChessLedger$Board;", true)
  | 2 => ("ChessLedger$Reader", "place", "I", false)
  | _ => ("ChessLedger$Reader", "passedRank", "I", false)
def jT6 : u_T := fun k => match k with
  | 0 => ("ChessLedger$Text", "letters", "[C", true)
  | _ => ("ChessLedger$Text", "length", "I", false)
def jT7 : u_T := fun k => match k with
  | 0 => ("ChessLedgerModel", "thrown", "I", false)
  | 1 => ("ChessLedgerModel", "boards", "[B", true)
  | 2 => ("ChessLedgerModel", "sides", "[I", true)
  | 3 => ("ChessLedgerModel", "rights", "[I", true)
  | 4 => ("ChessLedgerModel", "files", "[I", true)
  | 5 => ("ChessLedgerModel", "counts", "[I", true)
  | 6 => ("ChessLedgerModel", "takers", "[J", true)
  | 7 => ("ChessLedgerModel", "made", "I", false)
  | 8 => ("ChessLedgerModel", "good", "Z", false)
  | 9 => ("ChessLedgerModel", "text", "[I", true)
  | 10 => ("ChessLedgerModel", "length", "I", false)
  | 11 => ("ChessLedgerModel", "place", "I", false)
  | 12 => ("ChessLedgerModel", "over", "I", false)
  | 13 => ("ChessLedgerModel", "printed", "[I", true)
  | _ => ("ChessLedgerModel", "printedSize", "I", false)
abbrev jcl : List vw_C := [("ChessLedger", jT0, 10), ("ChessLedger$Board", jT1, 5), ("ChessLedger$Game", jT2, 7), ("ChessLedger$MoveTable", jT3, 2), ("ChessLedger$Past", jT4, 1), ("ChessLedger$Reader", jT5, 4), ("ChessLedger$Text", jT6, 2), ("ChessLedgerModel", jT7, 15)]
/-- the types of the fields: 0 int, 1 long, 2 a reference, 3 boolean -/
def jft : List (List Nat) := [[2, 2, 2, 2, 2, 2, 2, 2, 2, 3], [2, 0, 0, 0, 0], [2, 2, 2, 2, 2, 2, 0], [2, 2], [2], [2, 2, 0, 0], [2, 0], [0, 2, 2, 2, 2, 2, 2, 0, 3, 2, 0, 0, 0, 2, 0]]
/-- the cells: (0, class), or an array: 1 int, 2 long, 3 byte, 4 char, with its length -/
def jkd : List (Nat × Nat) := [(0, 0), (0, 2), (0, 1), (1, 64), (1, 301), (1, 301), (1, 301), (1, 301), (1, 301), (0, 4), (2, 1806), (0, 3), (2, 64), (2, 64), (0, 3), (2, 64), (2, 64), (0, 5), (0, 6), (4, 100), (0, 1), (1, 64), (0, 6), (4, 100), (0, 7), (3, 19456), (1, 304), (1, 304), (1, 304), (1, 304), (2, 304), (1, 100), (1, 100)]
def jN : Nat := 33
theorem jN_len : jkd.length = jN := by decide
/-- what the fields that are references hold -/
def jrf : List (List Nat) := [[1, 2, 9, 11, 14, 17, 18, 20, 22, 0], [2, 4, 5, 6, 7, 8, 0], [3, 0, 0, 0, 0], [], [], [], [], [], [], [10], [], [12, 13], [], [], [15, 16], [], [], [18, 20, 0, 0], [19, 0], [], [21, 0, 0, 0, 0], [], [23, 0], [], [0, 25, 26, 27, 28, 29, 30, 0, 0, 31, 0, 0, 0, 32, 0], [], [], [], [], [], [], [], []]
/-- arrays that are only read: 0 the script; what the others hold -/
def jxc : List (List Int) := [[], [1, 1, 0, -1, -1, -1, 0, 1], [0, 1, 1, 1, 0, -1, -1, -1], [1, 2, 2, 1, -1, -2, -2, -1], [2, 1, -1, -2, -2, -1, 1, 2], [80, 78, 66, 82, 81, 75, 112, 110, 98, 114, 113, 107], [75, 81, 107, 113]]
def jxn : Nat := 7
def jxt : List FieldType := [.int, .int, .int, .int, .int, .byte, .byte]
def jst : List (String × String × String × jV) := [("ChessLedger", "FILE_STEPS", "[I", (3, 1)), ("ChessLedger", "RANK_STEPS", "[I", (3, 2)), ("ChessLedger", "KNIGHT_FILES", "[I", (3, 3)), ("ChessLedger", "KNIGHT_RANKS", "[I", (3, 4)), ("java/lang/String", "COMPACT_STRINGS", "Z", (0, 1)), ("jdk/internal/util/Preconditions", "SIOOBE_FORMATTER", "Ljava/util/function/BiFunction;", (4, 0))]
def jsr : List (String × Nat × String × Nat) := [("ChessLedger$Reader", 86, "PNBRQKpnbrqk", 7), ("ChessLedger$Reader", 94, "KQkq", 8), ("ChessLedger$Text", 40, "PNBRQKpnbrqk", 7), ("ChessLedger$Text", 70, "KQkq", 8)]
def jso : List (Nat × Nat) := [(7, 5), (8, 6)]
def jyn : List MethodName := [⟨"ChessLedger", "clear", "()V"⟩, ⟨"ChessLedger$Board", "wipe", "()V"⟩, ⟨"java/util/Arrays", "fill", "([II)V"⟩, ⟨"ChessLedger$Board", "enterState", "(IIII)V"⟩, ⟨"ChessLedger$Game", "forget", "()V"⟩, ⟨"ChessLedger", "put", "(II)I"⟩, ⟨"ChessLedger", "isSquare", "(I)Z"⟩, ⟨"ChessLedger", "set", "(IIII)I"⟩, ⟨"ChessLedger", "isSide", "(I)Z"⟩, ⟨"ChessLedger$Board", "copyFrom", "(LChessLedger$Board;)V"⟩, ⟨"ChessLedger", "adoptDraft", "()Z"⟩, ⟨"ChessLedger$Board", "isGood", "()Z"⟩, ⟨"ChessLedger$Board", "hasKingsAndPawnsRight", "()Z"⟩, ⟨"ChessLedger", "kindOf", "(I)I"⟩, ⟨"ChessLedger", "pieceOf", "(II)I"⟩, ⟨"ChessLedger$Board", "hasRightsRight", "()Z"⟩, ⟨"ChessLedger", "kingHome", "(I)I"⟩, ⟨"ChessLedger", "rankFor", "(II)I"⟩, ⟨"ChessLedger", "squareAt", "(II)I"⟩, ⟨"ChessLedger", "rookHome", "(II)I"⟩, ⟨"ChessLedger", "rightOf", "(II)I"⟩, ⟨"ChessLedger$Board", "hasFileRight", "()Z"⟩, ⟨"ChessLedger", "otherSide", "(I)I"⟩, ⟨"ChessLedger$Board", "isKingAttacked", "(I)Z"⟩, ⟨"ChessLedger$Board", "kingSquare", "(I)I"⟩, ⟨"ChessLedger$Board", "attacksOn", "(II)J"⟩, ⟨"ChessLedger$Board", "firstAlong", "(II)I"⟩, ⟨"ChessLedger", "shifted", "(III)I"⟩, ⟨"ChessLedger", "sideOf", "(I)I"⟩, ⟨"ChessLedger$Board", "attacksAgainst", "(III)Z"⟩, ⟨"java/lang/Math", "abs", "(I)I"⟩, ⟨"ChessLedger", "forwardOf", "(I)I"⟩, ⟨"java/lang/Math", "max", "(II)I"⟩, ⟨"ChessLedger", "reachOf", "(II)I"⟩, ⟨"ChessLedger$Board", "passingTakers", "()J"⟩, ⟨"ChessLedger$Board", "passedSquare", "()I"⟩, ⟨"ChessLedger$Board", "isSafeBehind", "(III)Z"⟩, ⟨"ChessLedger$Board", "victimSquare", "(II)I"⟩, ⟨"ChessLedger$Past", "enter", "(ILChessLedger$Board;J)V"⟩, ⟨"ChessLedger$Past", "packed", "(LChessLedger$Board;I)J"⟩, ⟨"ChessLedger", "at", "(I)I"⟩, ⟨"ChessLedger", "state", "(I)I"⟩, ⟨"ChessLedger", "moves", "()I"⟩, ⟨"ChessLedger$MoveTable", "gather", "(LChessLedger$Board;)I"⟩, ⟨"java/util/Arrays", "fill", "([JJ)V"⟩, ⟨"ChessLedger$MoveTable", "addPiece", "(LChessLedger$Board;I)V"⟩, ⟨"ChessLedger$MoveTable", "addSteps", "(LChessLedger$Board;I)V"⟩, ⟨"ChessLedger$MoveTable", "addPawn", "(II)V"⟩, ⟨"ChessLedger$MoveTable", "addTakes", "(LChessLedger$Board;I)V"⟩, ⟨"ChessLedger$Board", "mayPawnTake", "(I)Z"⟩, ⟨"ChessLedger$MoveTable", "addLeaps", "(LChessLedger$Board;I)V"⟩, ⟨"ChessLedger$MoveTable", "addAlong", "(LChessLedger$Board;III)V"⟩, ⟨"ChessLedger$MoveTable", "addCastling", "(LChessLedger$Board;)V"⟩, ⟨"ChessLedger$Board", "mayCastle", "(I)Z"⟩, ⟨"java/lang/Math", "min", "(II)I"⟩, ⟨"ChessLedger$MoveTable", "legalOf", "(LChessLedger$Board;JII)J"⟩, ⟨"java/lang/Long", "bitCount", "(J)I"⟩, ⟨"java/lang/Long", "numberOfTrailingZeros", "(J)I"⟩, ⟨"java/lang/Integer", "numberOfTrailingZeros", "(I)I"⟩, ⟨"ChessLedger$MoveTable", "size", "()I"⟩, ⟨"ChessLedger", "move", "(I)I"⟩, ⟨"ChessLedger$MoveTable", "codeOf", "(I)I"⟩, ⟨"ChessLedger$MoveTable", "sourcesOf", "(II)J"⟩, ⟨"ChessLedger$MoveTable", "bitNumber", "(JI)I"⟩, ⟨"ChessLedger", "make", "(I)I"⟩, ⟨"ChessLedger$MoveTable", "holds", "(I)Z"⟩, ⟨"ChessLedger$Game", "play", "(I)V"⟩, ⟨"ChessLedger$Game", "remember", "(II)V"⟩, ⟨"ChessLedger$Game", "isCastling", "(III)Z"⟩, ⟨"ChessLedger$Game", "castledRookFrom", "(II)I"⟩, ⟨"ChessLedger$Game", "shiftPiece", "(II)V"⟩, ⟨"ChessLedger$Game", "rightsAt", "(I)I"⟩, ⟨"ChessLedger", "back", "()I"⟩, ⟨"ChessLedger$Game", "takeBack", "()V"⟩, ⟨"ChessLedger", "attackers", "(II)J"⟩, ⟨"ChessLedger", "checked", "()I"⟩, ⟨"ChessLedger", "status", "()I"⟩, ⟨"ChessLedger$Past", "countSame", "(I)I"⟩, ⟨"ChessLedger$Past", "isSame", "(II)Z"⟩, ⟨"ChessLedger$Board", "isBare", "()Z"⟩, ⟨"ChessLedger", "seen", "()I"⟩, ⟨"ChessLedger", "lines", "(I)I"⟩, ⟨"ChessLedger", "mates", "()I"⟩, ⟨"ChessLedger", "type", "(JI)I"⟩, ⟨"ChessLedger", "byteOf", "(JI)I"⟩, ⟨"ChessLedger$Text", "add", "(I)V"⟩, ⟨"ChessLedger", "read", "()I"⟩, ⟨"ChessLedger$Reader", "parse", "()I"⟩, ⟨"ChessLedger$Reader", "takeSquares", "()Z"⟩, ⟨"ChessLedger$Reader", "takeLetter", "(I)Z"⟩, ⟨"ChessLedger$Reader", "letter", "()I"⟩, ⟨"ChessLedger$Text", "letterAt", "(I)I"⟩, ⟨"ChessLedger$Reader", "takeRank", "(I)Z"⟩, ⟨"ChessLedger$Reader", "pieceFor", "(I)I"⟩, ⟨"java/lang/String", "charAt", "(I)C"⟩, ⟨"java/lang/String", "isLatin1", "()Z"⟩, ⟨"java/lang/StringLatin1", "charAt", "([BI)C"⟩, ⟨"java/lang/String", "checkIndex", "(II)V"⟩, ⟨"jdk/internal/util/Preconditions", "checkIndex", "(IILjava/util/function/BiFunction;)I"⟩, ⟨"ChessLedger$Reader", "takeSide", "()Z"⟩, ⟨"ChessLedger$Reader", "takeRights", "()Z"⟩, ⟨"ChessLedger$Reader", "takePassed", "()Z"⟩, ⟨"ChessLedger$Reader", "takeCount", "()Z"⟩, ⟨"ChessLedger$Text", "wipe", "()V"⟩, ⟨"ChessLedger$Reader", "isPassedRankDue", "()Z"⟩, ⟨"ChessLedger", "print", "()I"⟩, ⟨"ChessLedger$Text", "addSquares", "(LChessLedger$Board;)V"⟩, ⟨"ChessLedger$Text", "addRank", "(LChessLedger$Board;I)V"⟩, ⟨"ChessLedger$Text", "addGap", "(I)V"⟩, ⟨"ChessLedger$Text", "addState", "(LChessLedger$Board;)V"⟩, ⟨"ChessLedger$Text", "addRights", "(I)V"⟩, ⟨"ChessLedger$Text", "addPassed", "(I)V"⟩, ⟨"ChessLedger$Text", "addNumber", "(I)V"⟩, ⟨"ChessLedger", "character", "(I)I"⟩, ⟨"ChessLedger", "check", "()I"⟩, ⟨"ChessLedger$Board", "isLike", "(LChessLedger$Board;)Z"⟩, ⟨"ChessLedgerModel", "clear", "()V"⟩, ⟨"ChessLedgerModel", "put", "(II)I"⟩, ⟨"ChessLedgerModel", "copy", "(II)V"⟩, ⟨"ChessLedgerModel", "set", "(IIII)I"⟩, ⟨"ChessLedgerModel", "isGood", "(I)Z"⟩, ⟨"ChessLedgerModel", "hasKings", "(I)Z"⟩, ⟨"ChessLedgerModel", "piece", "(II)I"⟩, ⟨"ChessLedgerModel", "kindOf", "(I)I"⟩, ⟨"ChessLedgerModel", "areRights", "(I)Z"⟩, ⟨"ChessLedgerModel", "isFile", "(I)Z"⟩, ⟨"ChessLedgerModel", "kingOf", "(II)I"⟩, ⟨"ChessLedgerModel", "isAttacked", "(III)Z"⟩, ⟨"ChessLedgerModel", "isSeen", "(IIIII)Z"⟩, ⟨"ChessLedgerModel", "isOf", "(III)Z"⟩, ⟨"ChessLedgerModel", "doesAttack", "(III)Z"⟩, ⟨"ChessLedgerModel", "size", "(I)I"⟩, ⟨"ChessLedgerModel", "isClear", "(III)Z"⟩, ⟨"ChessLedgerModel", "signOf", "(I)I"⟩, ⟨"ChessLedgerModel", "isJumped", "(IIIII)Z"⟩, ⟨"ChessLedgerModel", "begin", "()V"⟩, ⟨"ChessLedgerModel", "findTakers", "(I)V"⟩, ⟨"ChessLedgerModel", "isBehind", "(III)Z"⟩, ⟨"ChessLedgerModel", "isSafe", "(IIII)Z"⟩, ⟨"ChessLedgerModel", "lay", "(III)V"⟩, ⟨"ChessLedgerModel", "at", "(I)I"⟩, ⟨"ChessLedgerModel", "state", "(I)I"⟩, ⟨"ChessLedgerModel", "moves", "()I"⟩, ⟨"ChessLedgerModel", "movesOf", "(I)I"⟩, ⟨"ChessLedgerModel", "isLast", "(III)Z"⟩, ⟨"ChessLedgerModel", "isLegal", "(IIII)Z"⟩, ⟨"ChessLedgerModel", "mayGo", "(IIII)Z"⟩, ⟨"ChessLedgerModel", "mayPawn", "(IIII)Z"⟩, ⟨"ChessLedgerModel", "mayCastle", "(III)Z"⟩, ⟨"ChessLedgerModel", "move", "(I)I"⟩, ⟨"ChessLedgerModel", "codeOf", "(II)I"⟩, ⟨"ChessLedgerModel", "make", "(I)I"⟩, ⟨"ChessLedgerModel", "go", "(IIII)V"⟩, ⟨"ChessLedgerModel", "rightsOf", "(I)I"⟩, ⟨"ChessLedgerModel", "back", "()I"⟩, ⟨"ChessLedgerModel", "attackers", "(II)J"⟩, ⟨"ChessLedgerModel", "attackersOf", "(III)J"⟩, ⟨"ChessLedgerModel", "checked", "()I"⟩, ⟨"ChessLedgerModel", "isChecked", "(I)Z"⟩, ⟨"ChessLedgerModel", "seen", "()I"⟩, ⟨"ChessLedgerModel", "seenOf", "()I"⟩, ⟨"ChessLedgerModel", "status", "()I"⟩, ⟨"ChessLedgerModel", "isDead", "()Z"⟩, ⟨"ChessLedgerModel", "lines", "(I)I"⟩, ⟨"ChessLedgerModel", "behindAll", "(I)I"⟩, ⟨"ChessLedgerModel", "mates", "()I"⟩, ⟨"ChessLedgerModel", "type", "(JI)I"⟩, ⟨"ChessLedgerModel", "read", "()I"⟩, ⟨"ChessLedgerModel", "readAll", "()Z"⟩, ⟨"ChessLedgerModel", "readSquares", "()I"⟩, ⟨"ChessLedgerModel", "is", "(I)Z"⟩, ⟨"ChessLedgerModel", "next", "()I"⟩, ⟨"ChessLedgerModel", "letterOf", "(I)I"⟩, ⟨"ChessLedgerModel", "readRights", "()Z"⟩, ⟨"ChessLedgerModel", "readFile", "()Z"⟩, ⟨"ChessLedgerModel", "readCount", "()Z"⟩, ⟨"ChessLedgerModel", "print", "()I"⟩, ⟨"ChessLedgerModel", "say", "(I)V"⟩, ⟨"ChessLedgerModel", "character", "(I)I"⟩, ⟨"ChessLedgerModel", "check", "()I"⟩, ⟨"ChessLedgerLaw", "law", "([I)Z"⟩]
end
section
/-! the judgement: a frame of a method with abstract locals, stack and world comes to the method's answer -/
abbrev jE : Type := Launch × va_G × (Nat → ClassId) × (Nat → Nat) × (Nat → Nat) × Nat × (Nat → Int) × Option Nat
abbrev jel (E : jE) : Launch := E.1
abbrev jeD (E : jE) : va_G := E.2.1
abbrev jca (E : jE) : Nat → ClassId := E.2.2.1
abbrev jad (E : jE) : Nat → Nat := E.2.2.2.1
abbrev jex (E : jE) : Nat → Nat := E.2.2.2.2.1
abbrev jsl (E : jE) : Nat := E.2.2.2.2.2.1
abbrev jsx (E : jE) : Nat → Int := E.2.2.2.2.2.2.1
abbrev jeo (E : jE) : Option Nat := E.2.2.2.2.2.2.2
def jty0 (t n k : Nat) : Nat := match t with
  | 0 => (jft.getD n []).getD k 2
  | 1 => 0
  | 2 => 1
  | 3 => 4
  | 4 => 5
  | _ => 2
def jty (a k : Nat) : Nat := jty0 (jkd.getD a (9, 0)).1 (jkd.getD a (9, 0)).2 k
def jokT (t : Nat) (x : Int) : Prop := match t with
  | 0 => ok32 x
  | 1 => ok64 x
  | 3 => x = 0 ∨ x = 1
  | 4 => -128 ≤ x ∧ x < 128
  | 5 => 0 ≤ x ∧ x < 65536
  | _ => True
def jHok (h : jH) : Prop := ∀ a k, jokT (jty a k) (h a k)
def tv (E : jE) (v : jV) : Value := match v.1 with
  | 0 => .int (Int32.ofInt v.2)
  | 1 => .long (Int64.ofInt v.2)
  | 2 => .ref (jad E v.2.toNat)
  | 3 => .ref (jex E v.2.toNat)
  | _ => va_rf (jeo E)
def jtp (E : jE) (q : Nat × jV) : Nat × Value := (q.1, tv E q.2)
def jokV (v : jV) : Prop := match v.1 with
  | 0 => ok32 v.2
  | 1 => ok64 v.2
  | _ => True
def jokS (st : List jV) : Prop := ∀ v ∈ st, jokV v
def jokL (L : List (Nat × jV)) : Prop := ∀ q ∈ L, jokV q.2
def jfv (E : jE) (a k : Nat) (x : Int) : Value := match jty a k with
  | 2 => .ref (jad E ((jrf.getD a []).getD k 0))
  | 1 => .long (Int64.ofInt x)
  | _ => .int (Int32.ofInt x)
def jent (E : jE) (a : Nat) (f : Nat → Int) : va_E := match jkd.getD a (9, 0) with
  | (0, ci) => .inr (ci, (List.range (jft.getD ci []).length).map (fun k => jfv E a k (f k)))
  | (2, n) => .inl (jca E 2, n, .inr (.inl (fun j => Int64.ofInt (f j))))
  | (t, n) => .inl (jca E t, n, .inl (fun j => Int32.ofInt (f j)))
def jwd (E : jE) (h : jH) : va_W := (List.range jN).map (fun a => (jad E a, jent E a (h a)))
def jcp (h : jH) (a : Nat) (f : Nat → Int) : jH := fun a' => if a' = a then f else h a'
def jup (h : jH) (a k : Nat) (v : Int) : jH := jcp h a (fun k' => if k' = k then v else h a k')
theorem jwd_at {E : jE} {h : jH} {a : Nat} (ha : a < jN) : (jwd E h)[a]? = some (jad E a, jent E a (h a)) := by
  simp [jwd, ha]
theorem jwd_cp {E : jE} {h : jH} {a : Nat} (ha : a < jN) (f : Nat → Int) : (jwd E h).set a (jad E a, jent E a f) = jwd E (jcp h a f) := by
  apply List.ext_getElem?
  intro i
  rw [List.getElem?_set]
  by_cases hi : a = i
  · subst hi
    rw [if_pos rfl, jwd_at ha]
    simp [jwd, ha, jcp]
  · rw [if_neg hi]
    simp only [jwd, List.getElem?_map]
    by_cases h2 : i < jN
    · simp [h2, jcp, Ne.symm hi]
    · simp [h2]
def jtys (E : jE) : List (ClassId × FieldType) := [(jca E 1, .int), (jca E 2, .long), (jca E 3, .byte), (jca E 4, .char)]
def jAE (E : jE) : Nat → Prop := fun q => ∃ i, i < jN ∧ q = jad E i
def jDi (E : jE) : Prop := ∀ i j, i < jN → j < jN → jad E i = jad E j → i = j
def jA (E : jE) (A : Nat → Prop) : Prop := jDi E ∧ ∀ i, i < jN → A (jad E i)
theorem jwd_D {E : jE} {A : Nat → Prop} {h : jH} (hA : jA E A) : va_D A (jwd E h) := by
  have key : ∀ (i : Nat) (q : Nat × va_E), (jwd E h)[i]? = some q → i < jN ∧ q.1 = jad E i := by
    intro i q hq
    by_cases hi : i < jN
    · rw [jwd_at hi] at hq
      cases hq
      exact ⟨hi, rfl⟩
    · rw [List.getElem?_eq_none (by simp [jwd]; omega)] at hq
      cases hq
  refine ⟨fun i j p q hp hq e => ?_, fun k q hq => ?_⟩
  · obtain ⟨h1, h2⟩ := key i p hp
    obtain ⟨h3, h4⟩ := key j q hq
    exact hA.1 i j h1 h3 (by rw [← h2, ← h4]; exact e)
  · obtain ⟨h1, h2⟩ := key k q hq
    rw [h2]
    exact hA.2 k h1
/-! methods: (name, code, locals, answer), their instructions with what they link, (frames, locals' room, static or not, parameters), places of their words -/
abbrev jI : Type := Instr × Nat × List Int
abbrev jM : Type := (MethodName × ByteArray × Nat × Option FieldType) × List (Option jI) × (Nat × Nat × Nat × Nat) × List Nat
abbrev jy (M : jM) : MethodName := M.1.1
abbrev jb (M : jM) : ByteArray := M.1.2.1
abbrev jL (M : jM) : Nat := M.1.2.2.1
abbrev jr (M : jM) : Option FieldType := M.1.2.2.2
abbrev jt (M : jM) : List (Option jI) := M.2.1
abbrev jf (M : jM) : Nat := M.2.2.1.1
abbrev jlr (M : jM) : Nat := M.2.2.1.2.1
abbrev jk (M : jM) : Nat := M.2.2.1.2.2.1
abbrev jn (M : jM) : Nat := M.2.2.1.2.2.2
abbrev jw (M : jM) : List Nat := M.2.2.2
def jnest : Cond → Bool
  | .fieldLinkNest .. => true
  | .methodLinkNest .. => true
  | _ => false
def jWS : List Cond := lw_tbl.filter goodWord
def jNW : List Cond := lw_tbl.filter jnest
def jwat (i : Nat) (w : Cond) : Bool := decide (lw_tbl[i]? = some w) && goodWord w
def jnat (i : Nat) (w : Cond) : Bool := decide (lw_tbl[i]? = some w) && jnest w
theorem jwat_in {i : Nat} {w : Cond} (h : jwat i w = true) : w ∈ jWS := by
  simp only [jwat, Bool.and_eq_true, decide_eq_true_eq] at h
  exact List.mem_filter.mpr ⟨List.mem_of_getElem? h.1, h.2⟩
theorem jnat_in {i : Nat} {w : Cond} (h : jnat i w = true) : w ∈ jNW := by
  simp only [jnat, Bool.and_eq_true, decide_eq_true_eq] at h
  exact List.mem_filter.mpr ⟨List.mem_of_getElem? h.1, h.2⟩
theorem jNW_is {w : Cond} (h : w ∈ jNW) : jnest w = true := (List.mem_filter.mp h).2
theorem jWS_good {w : Cond} (h : w ∈ jWS) : (w.onTables && w.keeps) = true ∨ ∃ ty, w = .arrayClass ty := good_of_word (List.mem_filter.mp h).2
def jhost : String := "ChessLedger"
def jws (M : jM) : List Cond := .code (jy M) (jb M) (jL M) (jr M) :: jWS
def jrm (M : jM) : Room := { frames := jf M, cells := 0, slots := 0, locals := jlr M }
/-! what lies outside the world and is only read: the script, static arrays, statics, String constants; words of nest mates -/
def jxl (E : jE) (e : Nat) : Nat := if e = 0 then jsl E else (jxc.getD e []).length
def jxv (E : jE) (e j : Nat) : Int := if e = 0 then jsx E j else (jxc.getD e []).getD j 0
def jX (E : jE) (A : Nat → Prop) (U : State) (H : Heap) : Prop :=
  (∀ e, e < jxn → va_T (jxt.getD e .int) (jex E e) (jxl E e) (fun j => .int (Int32.ofInt (jxv E e j))) A U H) ∧
  (∀ q ∈ jst, va_Z q.1 q.2.1 q.2.2.1 (tv E q.2.2.2) A U H) ∧
  (∀ q ∈ jsr, vk_R q.1 q.2.1 q.2.2.1 (jex E q.2.2.2) U) ∧
  (∀ q ∈ jso, va_O "java/lang/String" (jex E q.1) A U H ∧ va_OF "java/lang/String" "coder" "B" (.int 0) (jex E q.1) A U H ∧ va_OF "java/lang/String" "value" "[B" (.ref (jex E q.2)) (jex E q.1) A U H) ∧
  (∀ w ∈ jNW, va_Nw w U)
theorem jX.move {E : jE} {A B : Nat → Prop} {s U : State} {H H1 : Heap} (h : jX E A s H) (hW : s.WarmedH U.vm) (hk : ∀ a : Nat, a < H.size → ¬ A a → H1[a]? = H[a]?) (hAB : ∀ q, B q → A q) : jX E B U H1 := by
  obtain ⟨h1, h2, h3, h4, h5⟩ := h
  refine ⟨fun e he => (va_T.moved hW.alike ((h1 e he).kept hk)).narrow hAB, fun q hq => (va_Z.moved hW.alike ((h2 q hq).kept hk)).narrow hAB, fun q hq => (h3 q hq).warm hW, fun q hq => ?_, fun w hw => ?_⟩
  · obtain ⟨a1, a2, a3⟩ := h4 q hq
    exact ⟨(va_O.moved hW.alike (a1.kept hk)).narrow hAB, (va_OF.moved hW.alike (a2.kept hk)).narrow hAB, (va_OF.moved hW.alike (a3.kept hk)).narrow hAB⟩
  · have h6 := h5 w hw
    have h7 := jNW_is hw
    cases w <;> first | exact va_Nw.warmF hW h6 | exact va_Nw.warmM hW h6 | (simp [jnest] at h7)
theorem jX.same {E : jE} {A : Nat → Prop} {u U : State} {H : Heap} (hv : U.vm = u.vm) (h : jX E A u H) : jX E A U H := by
  have ha : u.vm.Alike U.vm := by rw [hv]; exact Vm.Alike.refl _
  obtain ⟨h1, h2, h3, h4, h5⟩ := h
  refine ⟨fun e he => va_T.moved ha (h1 e he), fun q hq => va_Z.moved ha (h2 q hq), fun q hq => (h3 q hq).same hv, fun q hq => ?_, fun w hw => ?_⟩
  · obtain ⟨a1, a2, a3⟩ := h4 q hq
    exact ⟨va_O.moved ha a1, va_OF.moved ha a2, va_OF.moved ha a3⟩
  · have h6 := h5 w hw
    have h7 := jNW_is hw
    cases w <;> first | exact va_Nw.same rfl hv.symm h6 | (simp [jnest] at h7)
def jFr (E : jE) (M : jM) (A : Nat → Prop) (p : Program) (R : Room) (s : State) (m : MethodId) (args : Array Value) (meth : Method) (c : Code) (cells slots : Nat) : Prop :=
  p.tables.exec = Jvm.exec ∧ c.code = jb M ∧ c.maxLocals = jL M ∧ meth.locks = false ∧ s.vm.findClass (jy M).cls = some m.cls ∧ (∀ w ∈ jWS, w.before args s = true) ∧ va_K (jeD E) jcl (jtys E) s ∧ jX E A s s.heap ∧ jA E A ∧ jf M ≤ R.frames ∧ jlr M ≤ R.locals ∧ cells ≤ R.cells ∧ slots ≤ R.slots
/-- an answer that a method of that type may give, by that instruction -/
def jro (ty : Option FieldType) (i : Instr) (r : Option jV) : Prop := match ty, i, r with
  | some .int, .ireturn, some (0, _) => True
  | some .boolean, .ireturn, some (0, x) => x = 0 ∨ x = 1
  | some .char, .ireturn, some (0, x) => 0 ≤ x ∧ x < 65536
  | some .long, .lreturn, some (1, _) => True
  | none, .return_, none => True
  | _, _, _ => False
def jG (E : jE) (M : jM) (pc : Nat) (L : List (Nat × jV)) (st : List jV) (h : jH) (r : Option jV) (h' : jH) : Prop :=
  ∀ (A : Nat → Prop) (p : Program) (e : Env) (R : Room) (s : State) (m : MethodId) (args : Array Value) (below : List Frame) (meth : Method) (c : Code) (cells slots : Nat) (Q : State → Prop),
    jFr E M A p R s m args meth c cells slots →
    (∀ (pc' : Nat) (ls' : Array Slot) (H' : Heap) (locs' : List Loc) (i : Instr), decode (jb M) pc' = .ok (i, 1) → jro (jr M) i r → jokS r.toList → jHok h' → va_P (jeD E) jcl (jwd E h') H' → va_S A s.heap H' locs' → W p (jel E) e R s m args below meth c H' locs' cells slots Q (F0 m pc' ls' (r.toList.map (tv E)))) →
    ∀ (H : Heap) (locs : List Loc) (ls : Array Slot), jokL L → jokS st → jHok h → lv_has ls (jL M) (L.map (jtp E)) → va_P (jeD E) jcl (jwd E h) H → va_S A s.heap H locs →
      W p (jel E) e R s m args below meth c H locs cells slots Q (F0 m pc ls (st.map (tv E)))
section JG
variable {E : jE} {M : jM} {pc pc1 : Nat} {L L1 : List (Nat × jV)} {st st1 : List jV} {h h1 : jH} {r : Option jV} {h' : jH}
/-- fewer locals -/
theorem jG.sub (g : jG E M pc L1 st h r h') (hs : ∀ q ∈ L1, q ∈ L) : jG E M pc L st h r h' := by
  intro A p e R s m args below meth c cells slots Q hF hend H locs ls oL oS oH hl hP hS
  refine g A p e R s m args below meth c cells slots Q hF hend H locs ls (fun q hq => oL q (hs q hq)) oS oH ⟨hl.1, hl.2.1, fun q hq => ?_⟩ hP hS
  obtain ⟨q0, h0, rfl⟩ := List.mem_map.mp hq
  exact hl.2.2 _ (List.mem_map.mpr ⟨q0, hs q0 h0, rfl⟩)
theorem jokS_cons {v : jV} {st : List jV} (hv : jokV v) (h : jokS st) : jokS (v :: st) := by
  intro w hw
  rcases List.mem_cons.mp hw with rfl | hw
  · exact hv
  · exact h w hw
theorem jokS_tl {v : jV} {st : List jV} (h : jokS (v :: st)) : jokS st := fun w hw => h w (List.mem_cons_of_mem _ hw)
theorem jokS_hd {v : jV} {st : List jV} (h : jokS (v :: st)) : jokV v := h v List.mem_cons_self
theorem jokS_app {a b : List jV} (ha : jokS a) (hb : jokS b) : jokS (a ++ b) := by
  intro w hw
  rcases List.mem_append.mp hw with hw | hw
  · exact ha w hw
  · exact hb w hw
/-- an instruction that touches the stack alone -/
theorem jG.sk (g : jG E M pc1 L st1 h r h') (hok : jokL L → jokS st → jokS st1)
    (hW : ∀ {p : Program} {l : Launch} {e : Env} {R : Room} {s : State} {m : MethodId} {args : Array Value} {below : List Frame} {meth : Method} {c : Code} {H : Heap} {locs : List Loc} {cells slots : Nat} {Q : State → Prop} {ls : Array Slot}, p.tables.exec = Jvm.exec → c.code = jb M → jokL L → jokS st → lv_has ls (jL M) (L.map (jtp E)) → s.vm.findClass (jy M).cls = some m.cls → (∀ w ∈ jWS, w.before args s = true) →
      W p l e R s m args below meth c H locs cells slots Q (F0 m pc1 ls (st1.map (tv E))) → W p l e R s m args below meth c H locs cells slots Q (F0 m pc ls (st.map (tv E)))) : jG E M pc L st h r h' := by
  intro A p e R s m args below meth c cells slots Q hF hend H locs ls oL oS oH hl hP hS
  exact hW hF.1 hF.2.1 oL oS hl hF.2.2.2.2.1 hF.2.2.2.2.2.1 (g A p e R s m args below meth c cells slots Q hF hend H locs ls oL (hok oL oS) oH hl hP hS)
/-- an instruction that stores a local -/
theorem jG.lc (g : jG E M pc1 L1 st1 h r h') (hok : jokL L → jokS st → jokS st1 ∧ jokL L1)
    (hW : ∀ {p : Program} {l : Launch} {e : Env} {R : Room} {s : State} {m : MethodId} {args : Array Value} {below : List Frame} {meth : Method} {c : Code} {H : Heap} {locs : List Loc} {cells slots : Nat} {Q : State → Prop} {ls : Array Slot}, p.tables.exec = Jvm.exec → c.code = jb M → jokL L → jokS st → lv_has ls (jL M) (L.map (jtp E)) →
      (∀ ls' : Array Slot, lv_has ls' (jL M) (L1.map (jtp E)) → W p l e R s m args below meth c H locs cells slots Q (F0 m pc1 ls' (st1.map (tv E)))) → W p l e R s m args below meth c H locs cells slots Q (F0 m pc ls (st.map (tv E)))) : jG E M pc L st h r h' := by
  intro A p e R s m args below meth c cells slots Q hF hend H locs ls oL oS oH hl hP hS
  exact hW hF.1 hF.2.1 oL oS hl (fun ls' hl' => g A p e R s m args below meth c cells slots Q hF hend H locs ls' (hok oL oS).2 (hok oL oS).1 oH hl' hP hS)
theorem jG.ret {i : Instr} (hd : decode (jb M) pc = .ok (i, 1)) (hr : jro (jr M) i r) : jG E M pc L r.toList h r h := by
  intro A p e R s m args below meth c cells slots Q hF hend H locs ls oL oS oH hl hP hS
  exact hend pc ls H locs i hd hr oS oH hP hS
/-! locals -/
def jlk : List (Nat × jV) → Nat → Option jV
  | [], _ => none
  | q :: l, i => if q.1 = i then some q.2 else jlk l i
def jset1 (L : List (Nat × jV)) (i : Nat) (v : jV) : List (Nat × jV) := (i, v) :: L.filter (fun q => !(q.1 == i) && !(q.1 + 1 == i && q.2.1 == 1))
def jset2 (L : List (Nat × jV)) (i : Nat) (v : jV) : List (Nat × jV) := (i, v) :: L.filter (fun q => !(q.1 == i) && (!(q.1 == i + 1) && !(q.1 + 1 == i && q.2.1 == 1)))
theorem jlk_mem : ∀ {L : List (Nat × jV)} {i : Nat} {v : jV}, jlk L i = some v → (i, v) ∈ L := by
  intro L
  induction L with
  | nil => intro i v h; cases h
  | cons q l ih =>
    intro i v h
    unfold jlk at h
    by_cases hq : q.1 = i
    · rw [if_pos hq] at h
      cases h
      subst hq
      exact List.mem_cons_self
    · rw [if_neg hq] at h
      exact List.mem_cons_of_mem _ (ih h)
theorem jlk_ok (oL : jokL L) {i : Nat} {v : jV} (hk : jlk L i = some v) : jokV v := oL _ (jlk_mem hk)
theorem jlk_at {ls : Array Slot} {n : Nat} (hl : lv_has ls n (L.map (jtp E))) {i : Nat} {v : jV} (hk : jlk L i = some v) : ls[i]? = some (.val (tv E v)) :=
  hl.2.2 (i, tv E v) (List.mem_map.mpr ⟨(i, v), jlk_mem hk, rfl⟩)
theorem jcat (v : jV) : ((tv E v).category == 2) = (v.1 == 1) := by
  obtain ⟨t, n⟩ := v
  match t with
  | 0 => rfl
  | 1 => rfl
  | 2 => rfl
  | 3 => rfl
  | k + 4 =>
    show ((va_rf (jeo E)).category == 2) = (k + 4 == 1)
    rw [show (k + 4 == 1) = false by simp]
    cases jeo E <;> rfl
theorem jset1_map (i : Nat) (v : jV) : (i, tv E v) :: (L.map (jtp E)).filter (fun q => !(q.1 == i) && !(q.1 + 1 == i && q.2.category == 2)) = (jset1 L i v).map (jtp E) := by
  unfold jset1
  rw [List.map_cons, List.filter_map]
  congr 2
  apply List.filter_congr
  intro q _
  show (!(q.1 == i) && !(q.1 + 1 == i && (tv E q.2).category == 2)) = _
  rw [jcat]
theorem jset2_map (i : Nat) (v : jV) : (i, tv E v) :: (L.map (jtp E)).filter (fun q => !(q.1 == i) && (!(q.1 == i + 1) && !(q.1 + 1 == i && q.2.category == 2))) = (jset2 L i v).map (jtp E) := by
  unfold jset2
  rw [List.map_cons, List.filter_map]
  congr 2
  apply List.filter_congr
  intro q _
  show (!(q.1 == i) && (!(q.1 == i + 1) && !(q.1 + 1 == i && (tv E q.2).category == 2))) = _
  rw [jcat]
theorem jset1_ok {i : Nat} {v : jV} (oL : jokL L) (hv : jokV v) : jokL (jset1 L i v) := by
  intro q hq
  rcases List.mem_cons.mp hq with rfl | hq
  · exact hv
  · exact oL q (List.mem_filter.mp hq).1
theorem jset2_ok {i : Nat} {v : jV} (oL : jokL L) (hv : jokV v) : jokL (jset2 L i v) := by
  intro q hq
  rcases List.mem_cons.mp hq with rfl | hq
  · exact hv
  · exact oL q (List.mem_filter.mp hq).1
/-! one instruction, one rule -/
theorem jG.iconst {n : Int} (hd : decode (jb M) pc = .ok (.iconst n, 1)) (hn : ok32 n) (g : jG E M (pc + 1) L ((0, n) :: st) h r h') : jG E M pc L st h r h' :=
  jG.sk g (fun _ o => jokS_cons hn o) (fun hx hb _ _ _ _ _ k => lv_iconst hx hb hd rfl k)
theorem jn_b {n : Int} (h0 : -128 ≤ n) (h1 : n < 128) : (Int8.ofInt n).toInt32 = Int32.ofInt n := by
  apply Int32.toInt_inj.mp
  rw [Int8.toInt_toInt32, Int8.toInt_ofInt_of_le (by omega) (by omega), jn_toInt, w32_id (by omega) (by omega)]
theorem jn_s {n : Int} (h0 : -32768 ≤ n) (h1 : n < 32768) : (Int16.ofInt n).toInt32 = Int32.ofInt n := by
  apply Int32.toInt_inj.mp
  rw [Int16.toInt_toInt32, Int16.toInt_ofInt_of_le (by omega) (by omega), jn_toInt, w32_id (by omega) (by omega)]
theorem jG.bipush {n : Int} (hd : decode (jb M) pc = .ok (.bipush n, 2)) (h0 : -128 ≤ n) (h1 : n < 128) (g : jG E M (pc + 2) L ((0, n) :: st) h r h') : jG E M pc L st h r h' :=
  jG.sk g (fun _ o => jokS_cons ⟨by show -2147483648 ≤ n; omega, by show n < 2147483648; omega⟩ o) (fun hx hb _ _ _ _ _ k => lv_bipush hx hb hd (jn_b h0 h1) k)
theorem jG.sipush {n : Int} (hd : decode (jb M) pc = .ok (.sipush n, 3)) (h0 : -32768 ≤ n) (h1 : n < 32768) (g : jG E M (pc + 3) L ((0, n) :: st) h r h') : jG E M pc L st h r h' :=
  jG.sk g (fun _ o => jokS_cons ⟨by show -2147483648 ≤ n; omega, by show n < 2147483648; omega⟩ o) (fun hx hb _ _ _ _ _ k => lv_sipush hx hb hd (jn_s h0 h1) k)
theorem jl_c : ∀ n : Fin 2, Int64.ofNat (n : Nat) = Int64.ofInt ((n : Nat) : Int) := by decide +kernel
theorem jG.lconst {n : Fin 2} (hd : decode (jb M) pc = .ok (.lconst n, 1)) (g : jG E M (pc + 1) L ((1, ((n : Nat) : Int)) :: st) h r h') : jG E M pc L st h r h' :=
  jG.sk g (fun _ o => jokS_cons ⟨by show -9223372036854775808 ≤ ((n : Nat) : Int); omega, by show ((n : Nat) : Int) < 9223372036854775808; have := n.2; omega⟩ o) (fun hx hb _ _ _ _ _ k => lv_lconst hx hb hd (jl_c n) k)
theorem jG.ldc {ix : Nat} {n : Int} (hd : decode (jb M) pc = .ok (.ldc ix, 2)) (hw : Cond.constant (jy M).cls ix (Int32.ofInt n) ∈ jWS) (hn : ok32 n) (g : jG E M (pc + 2) L ((0, n) :: st) h r h') : jG E M pc L st h r h' :=
  jG.sk g (fun _ o => jokS_cons hn o) (fun hx hb _ _ _ ho hts k => lv_ldc hx hb ho (hts _ hw) hd k)
theorem jG.ldc2 {ix : Nat} {n : Int} (hd : decode (jb M) pc = .ok (.ldc2_w ix, 3)) (hw : Cond.constantLong (jy M).cls ix (Int64.ofInt n) ∈ jWS) (hn : ok64 n) (g : jG E M (pc + 3) L ((1, n) :: st) h r h') : jG E M pc L st h r h' :=
  jG.sk g (fun _ o => jokS_cons hn o) (fun hx hb _ _ _ ho hts k => lv_ldc2 hx hb ho (hts _ hw) hd k)
theorem jG.iload_n {k : Fin 4} {x : Int} (hd : decode (jb M) pc = .ok (.iload_n k, 1)) (hk : jlk L k.val = some (0, x)) (g : jG E M (pc + 1) L ((0, x) :: st) h r h') : jG E M pc L st h r h' :=
  jG.sk g (fun oL o => jokS_cons (jlk_ok oL hk) o) (fun hx hb _ _ hl _ _ k => lv_iload_n hx hb hd rfl (jlk_at hl hk) k)
theorem jG.iload {i : Nat} {x : Int} (hd : decode (jb M) pc = .ok (.iload i, 2)) (hk : jlk L i = some (0, x)) (g : jG E M (pc + 2) L ((0, x) :: st) h r h') : jG E M pc L st h r h' :=
  jG.sk g (fun oL o => jokS_cons (jlk_ok oL hk) o) (fun hx hb _ _ hl _ _ k => lv_iload hx hb hd (jlk_at hl hk) k)
theorem jG.lload_n {k : Fin 4} {x : Int} (hd : decode (jb M) pc = .ok (.lload_n k, 1)) (hk : jlk L k.val = some (1, x)) (g : jG E M (pc + 1) L ((1, x) :: st) h r h') : jG E M pc L st h r h' :=
  jG.sk g (fun oL o => jokS_cons (jlk_ok oL hk) o) (fun hx hb _ _ hl _ _ k => lv_lload_n hx hb hd rfl (jlk_at hl hk) k)
theorem jG.lload {i : Nat} {x : Int} (hd : decode (jb M) pc = .ok (.lload i, 2)) (hk : jlk L i = some (1, x)) (g : jG E M (pc + 2) L ((1, x) :: st) h r h') : jG E M pc L st h r h' :=
  jG.sk g (fun oL o => jokS_cons (jlk_ok oL hk) o) (fun hx hb _ _ hl _ _ k => lv_lload hx hb hd (jlk_at hl hk) k)
theorem jtv_ref {t : Nat} {x : Int} (ht : t = 2 ∨ t = 3) : ∃ a : Nat, tv E (t, x) = .ref a := by
  rcases ht with rfl | rfl <;> exact ⟨_, rfl⟩
theorem jG.aload_n {k : Fin 4} {t : Nat} {x : Int} (hd : decode (jb M) pc = .ok (.aload_n k, 1)) (ht : t = 2 ∨ t = 3) (hk : jlk L k.val = some (t, x)) (g : jG E M (pc + 1) L ((t, x) :: st) h r h') : jG E M pc L st h r h' := by
  obtain ⟨a, ha⟩ := jtv_ref (E := E) (x := x) ht
  refine jG.sk g (fun oL o => jokS_cons (jlk_ok oL hk) o) (fun hx hb _ _ hl _ _ k => ?_)
  have h2 := jlk_at hl hk
  rw [List.map_cons, ha] at k
  rw [ha] at h2
  exact lv_aload_n hx hb hd rfl h2 k
theorem jG.aload {i : Nat} {t : Nat} {x : Int} (hd : decode (jb M) pc = .ok (.aload i, 2)) (ht : t = 2 ∨ t = 3) (hk : jlk L i = some (t, x)) (g : jG E M (pc + 2) L ((t, x) :: st) h r h') : jG E M pc L st h r h' := by
  obtain ⟨a, ha⟩ := jtv_ref (E := E) (x := x) ht
  refine jG.sk g (fun oL o => jokS_cons (jlk_ok oL hk) o) (fun hx hb _ _ hl _ _ k => ?_)
  have h2 := jlk_at hl hk
  rw [List.map_cons, ha] at k
  rw [ha] at h2
  exact lv_aload hx hb hd h2 k
theorem jG.astore_n {k : Fin 4} {t : Nat} {x : Int} (hd : decode (jb M) pc = .ok (.astore_n k, 1)) (ht : t = 2 ∨ t = 3) (hn : k.val < jL M) (g : jG E M (pc + 1) (jset1 L k.val (t, x)) st h r h') : jG E M pc L ((t, x) :: st) h r h' := by
  obtain ⟨a, ha⟩ := jtv_ref (E := E) (x := x) ht
  refine jG.lc g (fun oL o => ⟨jokS_tl o, jset1_ok oL (jokS_hd o)⟩) (fun hx hb _ _ hl k => ?_)
  rw [List.map_cons, ha]
  refine lv_astore_n hx hb hd rfl hl hn ?_ k
  rw [← jset1_map, ha]
theorem jG.astore {i : Nat} {t : Nat} {x : Int} (hd : decode (jb M) pc = .ok (.astore i, 2)) (ht : t = 2 ∨ t = 3) (hn : i < jL M) (g : jG E M (pc + 2) (jset1 L i (t, x)) st h r h') : jG E M pc L ((t, x) :: st) h r h' := by
  obtain ⟨a, ha⟩ := jtv_ref (E := E) (x := x) ht
  refine jG.lc g (fun oL o => ⟨jokS_tl o, jset1_ok oL (jokS_hd o)⟩) (fun hx hb _ _ hl k => ?_)
  rw [List.map_cons, ha]
  refine lv_astore hx hb hd hl hn ?_ k
  rw [← jset1_map, ha]
theorem jG.istore_n {k : Fin 4} {x : Int} (hd : decode (jb M) pc = .ok (.istore_n k, 1)) (hn : k.val < jL M) (g : jG E M (pc + 1) (jset1 L k.val (0, x)) st h r h') : jG E M pc L ((0, x) :: st) h r h' :=
  jG.lc g (fun oL o => ⟨jokS_tl o, jset1_ok oL (jokS_hd o)⟩) (fun hx hb _ _ hl k => lv_istore_n hx hb hd rfl hl hn (jset1_map _ (0, x)) k)
theorem jG.istore {i : Nat} {x : Int} (hd : decode (jb M) pc = .ok (.istore i, 2)) (hn : i < jL M) (g : jG E M (pc + 2) (jset1 L i (0, x)) st h r h') : jG E M pc L ((0, x) :: st) h r h' :=
  jG.lc g (fun oL o => ⟨jokS_tl o, jset1_ok oL (jokS_hd o)⟩) (fun hx hb _ _ hl k => lv_istore hx hb hd hl hn (jset1_map _ (0, x)) k)
theorem jG.lstore_n {k : Fin 4} {x : Int} (hd : decode (jb M) pc = .ok (.lstore_n k, 1)) (hn : k.val + 1 < jL M) (g : jG E M (pc + 1) (jset2 L k.val (1, x)) st h r h') : jG E M pc L ((1, x) :: st) h r h' :=
  jG.lc g (fun oL o => ⟨jokS_tl o, jset2_ok oL (jokS_hd o)⟩) (fun hx hb _ _ hl k => lv_lstore_n hx hb hd rfl hl hn (jset2_map _ (1, x)) k)
theorem jG.lstore {i : Nat} {x : Int} (hd : decode (jb M) pc = .ok (.lstore i, 2)) (hn : i + 1 < jL M) (g : jG E M (pc + 2) (jset2 L i (1, x)) st h r h') : jG E M pc L ((1, x) :: st) h r h' :=
  jG.lc g (fun oL o => ⟨jokS_tl o, jset2_ok oL (jokS_hd o)⟩) (fun hx hb _ _ hl k => lv_lstore hx hb hd hl hn (jset2_map _ (1, x)) k)
theorem jG.iinc {i : Nat} {n x : Int} (hd : decode (jb M) pc = .ok (.iinc i n, 3)) (hn : i < jL M) (hk : jlk L i = some (0, x)) (g : jG E M (pc + 3) (jset1 L i (0, jadd x n)) st h r h') : jG E M pc L st h r h' := by
  refine jG.lc g (fun oL o => ⟨o, jset1_ok oL (w32_ok _)⟩) (fun hx hb _ _ hl k => ?_)
  obtain ⟨z, hz⟩ := List.getElem?_of_mem (List.mem_map.mpr ⟨(i, (0, x)), jlk_mem hk, rfl⟩ : (jtp E (i, (0, x))) ∈ L.map (jtp E))
  exact lv_iinc hx hb hd hl hz (jn_add x n) hn (jset1_map _ (0, jadd x n)) k
theorem jG.iadd {a b : Int} (hd : decode (jb M) pc = .ok (.iadd, 1)) (g : jG E M (pc + 1) L ((0, jadd a b) :: st) h r h') : jG E M pc L ((0, b) :: (0, a) :: st) h r h' := by
  refine jG.sk g (fun _ o => jokS_cons (w32_ok _) (jokS_tl (jokS_tl o))) (fun hx hb _ _ _ _ _ k => ?_)
  refine lv_iadd hx hb hd ?_
  rw [jn_add]
  exact k
theorem jG.isub {a b : Int} (hd : decode (jb M) pc = .ok (.isub, 1)) (g : jG E M (pc + 1) L ((0, jsub a b) :: st) h r h') : jG E M pc L ((0, b) :: (0, a) :: st) h r h' := by
  refine jG.sk g (fun _ o => jokS_cons (w32_ok _) (jokS_tl (jokS_tl o))) (fun hx hb _ _ _ _ _ k => ?_)
  refine lv_isub hx hb hd ?_
  rw [jn_sub]
  exact k
theorem jG.imul {a b : Int} (hd : decode (jb M) pc = .ok (.imul, 1)) (g : jG E M (pc + 1) L ((0, jmul a b) :: st) h r h') : jG E M pc L ((0, b) :: (0, a) :: st) h r h' := by
  refine jG.sk g (fun _ o => jokS_cons (w32_ok _) (jokS_tl (jokS_tl o))) (fun hx hb _ _ _ _ _ k => ?_)
  refine lv_imul hx hb hd ?_
  rw [jn_mul]
  exact k
theorem jG.iand {a b : Int} (hd : decode (jb M) pc = .ok (.iand, 1)) (g : jG E M (pc + 1) L ((0, jand a b) :: st) h r h') : jG E M pc L ((0, b) :: (0, a) :: st) h r h' := by
  refine jG.sk g (fun _ o => jokS_cons (jn_ok _) (jokS_tl (jokS_tl o))) (fun hx hb _ _ _ _ _ k => ?_)
  refine lv_iand hx hb hd ?_
  have e := Int32.ofInt_toInt (Int32.ofInt a &&& Int32.ofInt b)
  rw [← e]
  exact k
theorem jG.ior {a b : Int} (hd : decode (jb M) pc = .ok (.ior, 1)) (g : jG E M (pc + 1) L ((0, jor a b) :: st) h r h') : jG E M pc L ((0, b) :: (0, a) :: st) h r h' := by
  refine jG.sk g (fun _ o => jokS_cons (jn_ok _) (jokS_tl (jokS_tl o))) (fun hx hb _ _ _ _ _ k => ?_)
  refine lv_ior hx hb hd ?_
  have e := Int32.ofInt_toInt (Int32.ofInt a ||| Int32.ofInt b)
  rw [← e]
  exact k
theorem jG.ixor {a b : Int} (hd : decode (jb M) pc = .ok (.ixor, 1)) (g : jG E M (pc + 1) L ((0, jxor a b) :: st) h r h') : jG E M pc L ((0, b) :: (0, a) :: st) h r h' := by
  refine jG.sk g (fun _ o => jokS_cons (jn_ok _) (jokS_tl (jokS_tl o))) (fun hx hb _ _ _ _ _ k => ?_)
  refine lv_ixor hx hb hd ?_
  have e := Int32.ofInt_toInt (Int32.ofInt a ^^^ Int32.ofInt b)
  rw [← e]
  exact k
theorem jG.ishl {a b : Int} (hd : decode (jb M) pc = .ok (.ishl, 1)) (g : jG E M (pc + 1) L ((0, jshl a b) :: st) h r h') : jG E M pc L ((0, b) :: (0, a) :: st) h r h' := by
  refine jG.sk g (fun _ o => jokS_cons (jn_ok _) (jokS_tl (jokS_tl o))) (fun hx hb _ _ _ _ _ k => ?_)
  refine lv_ishl hx hb hd ?_
  have e := Int32.ofInt_toInt (Int32.ofInt a <<< (Int32.ofInt b &&& 31))
  rw [← e]
  exact k
theorem jG.ishr {a b : Int} (hd : decode (jb M) pc = .ok (.ishr, 1)) (g : jG E M (pc + 1) L ((0, jshr a b) :: st) h r h') : jG E M pc L ((0, b) :: (0, a) :: st) h r h' := by
  refine jG.sk g (fun _ o => jokS_cons (jn_ok _) (jokS_tl (jokS_tl o))) (fun hx hb _ _ _ _ _ k => ?_)
  refine lv_ishr hx hb hd ?_
  have e := Int32.ofInt_toInt (Int32.ofInt a >>> (Int32.ofInt b &&& 31))
  rw [← e]
  exact k
theorem jG.iushr {a b : Int} (hd : decode (jb M) pc = .ok (.iushr, 1)) (g : jG E M (pc + 1) L ((0, jushr a b) :: st) h r h') : jG E M pc L ((0, b) :: (0, a) :: st) h r h' :=
  jG.sk g (fun _ o => jokS_cons (jn_ok _) (jokS_tl (jokS_tl o))) (fun hx hb _ _ _ _ _ k => lv_iushr hx hb hd (Int32.ofInt_toInt _).symm k)
theorem jG.idiv {a b : Int} (hd : decode (jb M) pc = .ok (.idiv, 1)) (hb0 : b ≠ 0) (g : jG E M (pc + 1) L ((0, jdiv a b) :: st) h r h') : jG E M pc L ((0, b) :: (0, a) :: st) h r h' := by
  refine jG.sk g (fun _ o => jokS_cons (jn_ok _) (jokS_tl (jokS_tl o))) (fun hx hb _ oS _ _ _ k => ?_)
  refine lv_idiv hx hb hd (fun z => hb0 ((jn_inj (jokS_hd oS) ok32_0).mp z)) ?_
  have e := Int32.ofInt_toInt (Int32.ofInt a / Int32.ofInt b)
  rw [← e]
  exact k
theorem jG.irem {a b : Int} (hd : decode (jb M) pc = .ok (.irem, 1)) (hb0 : b ≠ 0) (g : jG E M (pc + 1) L ((0, jrem a b) :: st) h r h') : jG E M pc L ((0, b) :: (0, a) :: st) h r h' := by
  refine jG.sk g (fun _ o => jokS_cons (jn_ok _) (jokS_tl (jokS_tl o))) (fun hx hb _ oS _ _ _ k => ?_)
  refine lv_irem hx hb hd (fun z => hb0 ((jn_inj (jokS_hd oS) ok32_0).mp z)) ?_
  have e := Int32.ofInt_toInt (Int32.ofInt a - Int32.ofInt a / Int32.ofInt b * Int32.ofInt b)
  rw [← e]
  exact k
theorem jG.ineg {a : Int} (hd : decode (jb M) pc = .ok (.ineg, 1)) (g : jG E M (pc + 1) L ((0, jneg a) :: st) h r h') : jG E M pc L ((0, a) :: st) h r h' := by
  refine jG.sk g (fun _ o => jokS_cons (w32_ok _) (jokS_tl o)) (fun hx hb _ _ _ _ _ k => ?_)
  refine lv_ineg hx hb hd ?_
  rw [jn_neg]
  exact k
theorem jG.ladd {a b : Int} (hd : decode (jb M) pc = .ok (.ladd, 1)) (g : jG E M (pc + 1) L ((1, jladd a b) :: st) h r h') : jG E M pc L ((1, b) :: (1, a) :: st) h r h' := by
  refine jG.sk g (fun _ o => jokS_cons (w64_ok _) (jokS_tl (jokS_tl o))) (fun hx hb _ _ _ _ _ k => ?_)
  refine lv_ladd hx hb hd ?_
  rw [jl_add]
  exact k
theorem jG.lsub {a b : Int} (hd : decode (jb M) pc = .ok (.lsub, 1)) (g : jG E M (pc + 1) L ((1, jlsub a b) :: st) h r h') : jG E M pc L ((1, b) :: (1, a) :: st) h r h' := by
  refine jG.sk g (fun _ o => jokS_cons (w64_ok _) (jokS_tl (jokS_tl o))) (fun hx hb _ _ _ _ _ k => ?_)
  refine lv_lsub hx hb hd ?_
  rw [jl_sub]
  exact k
theorem jG.lmul {a b : Int} (hd : decode (jb M) pc = .ok (.lmul, 1)) (g : jG E M (pc + 1) L ((1, jlmul a b) :: st) h r h') : jG E M pc L ((1, b) :: (1, a) :: st) h r h' := by
  refine jG.sk g (fun _ o => jokS_cons (w64_ok _) (jokS_tl (jokS_tl o))) (fun hx hb _ _ _ _ _ k => ?_)
  refine lv_lmul hx hb hd ?_
  rw [jl_mul]
  exact k
theorem jG.land {a b : Int} (hd : decode (jb M) pc = .ok (.land, 1)) (g : jG E M (pc + 1) L ((1, jland a b) :: st) h r h') : jG E M pc L ((1, b) :: (1, a) :: st) h r h' := by
  refine jG.sk g (fun _ o => jokS_cons (jl_ok _) (jokS_tl (jokS_tl o))) (fun hx hb _ _ _ _ _ k => ?_)
  refine lv_land hx hb hd ?_
  have e := Int64.ofInt_toInt (Int64.ofInt a &&& Int64.ofInt b)
  rw [← e]
  exact k
theorem jG.lor {a b : Int} (hd : decode (jb M) pc = .ok (.lor, 1)) (g : jG E M (pc + 1) L ((1, jlor a b) :: st) h r h') : jG E M pc L ((1, b) :: (1, a) :: st) h r h' := by
  refine jG.sk g (fun _ o => jokS_cons (jl_ok _) (jokS_tl (jokS_tl o))) (fun hx hb _ _ _ _ _ k => ?_)
  refine lv_lor hx hb hd ?_
  have e := Int64.ofInt_toInt (Int64.ofInt a ||| Int64.ofInt b)
  rw [← e]
  exact k
theorem jG.lxor {a b : Int} (hd : decode (jb M) pc = .ok (.lxor, 1)) (g : jG E M (pc + 1) L ((1, jlxor a b) :: st) h r h') : jG E M pc L ((1, b) :: (1, a) :: st) h r h' := by
  refine jG.sk g (fun _ o => jokS_cons (jl_ok _) (jokS_tl (jokS_tl o))) (fun hx hb _ _ _ _ _ k => ?_)
  refine lv_lxor hx hb hd ?_
  have e := Int64.ofInt_toInt (Int64.ofInt a ^^^ Int64.ofInt b)
  rw [← e]
  exact k
theorem jG.lshl {a b : Int} (hd : decode (jb M) pc = .ok (.lshl, 1)) (g : jG E M (pc + 1) L ((1, jlshl a b) :: st) h r h') : jG E M pc L ((0, b) :: (1, a) :: st) h r h' :=
  jG.sk g (fun _ o => jokS_cons (jl_ok _) (jokS_tl (jokS_tl o))) (fun hx hb _ _ _ _ _ k => lv_lshl hx hb hd (Int64.ofInt_toInt _).symm k)
theorem jG.lshr {a b : Int} (hd : decode (jb M) pc = .ok (.lshr, 1)) (g : jG E M (pc + 1) L ((1, jlshr a b) :: st) h r h') : jG E M pc L ((0, b) :: (1, a) :: st) h r h' :=
  jG.sk g (fun _ o => jokS_cons (jl_ok _) (jokS_tl (jokS_tl o))) (fun hx hb _ _ _ _ _ k => lv_lshr hx hb hd (Int64.ofInt_toInt _).symm k)
theorem jG.lushr {a b : Int} (hd : decode (jb M) pc = .ok (.lushr, 1)) (g : jG E M (pc + 1) L ((1, jlushr a b) :: st) h r h') : jG E M pc L ((0, b) :: (1, a) :: st) h r h' :=
  jG.sk g (fun _ o => jokS_cons (jl_ok _) (jokS_tl (jokS_tl o))) (fun hx hb _ _ _ _ _ k => lv_lushr hx hb hd (Int64.ofInt_toInt _).symm k)
theorem jG.i2l {a : Int} (hd : decode (jb M) pc = .ok (.i2l, 1)) (g : jG E M (pc + 1) L ((1, a) :: st) h r h') : jG E M pc L ((0, a) :: st) h r h' :=
  jG.sk g (fun _ o => jokS_cons (by have h2 : ok32 a := jokS_hd o; have := h2.1; have := h2.2; exact ⟨by show -9223372036854775808 ≤ a; omega, by show a < 9223372036854775808; omega⟩) (jokS_tl o)) (fun hx hb _ oS _ _ _ k => lv_i2l hx hb hd (jl_i2l (jokS_hd oS)) k)
theorem jG.l2i {a : Int} (hd : decode (jb M) pc = .ok (.l2i, 1)) (g : jG E M (pc + 1) L ((0, jl2i a) :: st) h r h') : jG E M pc L ((1, a) :: st) h r h' :=
  jG.sk g (fun _ o => jokS_cons (w32_ok _) (jokS_tl o)) (fun hx hb _ _ _ _ _ k => lv_l2i hx hb hd (jl_l2i a) k)
theorem jG.i2b {a : Int} (hd : decode (jb M) pc = .ok (.i2b, 1)) (g : jG E M (pc + 1) L ((0, ji2b a) :: st) h r h') : jG E M pc L ((0, a) :: st) h r h' :=
  jG.sk g (fun _ o => jokS_cons (jn_ok _) (jokS_tl o)) (fun hx hb _ _ _ _ _ k => lv_i2b hx hb hd (Int32.ofInt_toInt _).symm k)
theorem jG.i2c {a : Int} (hd : decode (jb M) pc = .ok (.i2c, 1)) (g : jG E M (pc + 1) L ((0, ji2c a) :: st) h r h') : jG E M pc L ((0, a) :: st) h r h' :=
  jG.sk g (fun _ o => jokS_cons (jn_ok _) (jokS_tl o)) (fun hx hb _ _ _ _ _ k => lv_i2c hx hb hd (Int32.ofInt_toInt _).symm k)
theorem jG.lcmp {a b : Int} (hd : decode (jb M) pc = .ok (.lcmp, 1)) (g : jG E M (pc + 1) L ((0, jcmp a b) :: st) h r h') : jG E M pc L ((1, b) :: (1, a) :: st) h r h' := by
  refine jG.sk g (fun _ o => jokS_cons (by show ok32 (jcmp a b); unfold jcmp ok32; split <;> (try split) <;> omega) (jokS_tl (jokS_tl o))) (fun hx hb _ oS _ _ _ k => ?_)
  refine W.lcmp hx hb hd ?_
  rw [jl_cmp (jokS_hd (jokS_tl oS)) (jokS_hd oS)]
  exact k
theorem jcat1 {v : jV} (hv : v.1 ≠ 1) : (tv E v).category = 1 := by
  have h1 := jcat (E := E) v
  rcases lv_cat (tv E v) with h2 | h2
  · exact h2
  · rw [h2] at h1
    simp at h1
    exact absurd h1 hv
theorem jcat2 {x : Int} : (tv E (1, x)).category = 2 := rfl
theorem jG.dup {v : jV} (hd : decode (jb M) pc = .ok (.dup, 1)) (hv : v.1 ≠ 1) (g : jG E M (pc + 1) L (v :: v :: st) h r h') : jG E M pc L (v :: st) h r h' :=
  jG.sk g (fun _ o => jokS_cons (jokS_hd o) o) (fun hx hb _ _ _ _ _ k => lv_dup hx hb hd (jcat1 hv) k)
theorem jG.pop {v : jV} (hd : decode (jb M) pc = .ok (.pop, 1)) (hv : v.1 ≠ 1) (g : jG E M (pc + 1) L st h r h') : jG E M pc L (v :: st) h r h' :=
  jG.sk g (fun _ o => jokS_tl o) (fun hx hb _ _ _ _ _ k => lv_pop hx hb hd (jcat1 hv) k)
theorem jG.dup_x1 {v w : jV} (hd : decode (jb M) pc = .ok (.dup_x1, 1)) (hv : v.1 ≠ 1) (hw : w.1 ≠ 1) (g : jG E M (pc + 1) L (v :: w :: v :: st) h r h') : jG E M pc L (v :: w :: st) h r h' :=
  jG.sk g (fun _ o => jokS_cons (jokS_hd o) (jokS_cons (jokS_hd (jokS_tl o)) (jokS_cons (jokS_hd o) (jokS_tl (jokS_tl o))))) (fun hx hb _ _ _ _ _ k => lv_dup_x1 hx hb hd (jcat1 hv) (jcat1 hw) k)
theorem jG.dup2 {v w : jV} (hd : decode (jb M) pc = .ok (.dup2, 1)) (hv : v.1 ≠ 1) (hw : w.1 ≠ 1) (g : jG E M (pc + 1) L (v :: w :: v :: w :: st) h r h') : jG E M pc L (v :: w :: st) h r h' :=
  jG.sk g (fun _ o => jokS_cons (jokS_hd o) (jokS_cons (jokS_hd (jokS_tl o)) o)) (fun hx hb _ _ _ _ _ k => lv_dup2_11 hx hb hd (jcat1 hv) (jcat1 hw) k)
theorem jG.dup2l {x : Int} (hd : decode (jb M) pc = .ok (.dup2, 1)) (g : jG E M (pc + 1) L ((1, x) :: (1, x) :: st) h r h') : jG E M pc L ((1, x) :: st) h r h' :=
  jG.sk g (fun _ o => jokS_cons (jokS_hd o) o) (fun hx hb _ _ _ _ _ k => lv_dup2_2 hx hb hd jcat2 k)
/-! branches -/
def jcn (cn : Jvm.ClassFile.Cond) (x y : Int) : Prop := match cn with
  | .eq => x = y
  | .ne => ¬ x = y
  | .lt => x < y
  | .ge => y ≤ x
  | .gt => y < x
  | .le => x ≤ y
theorem jG.b2 {C : Prop} {tgt : Nat} (hok : jokS st → jokS st1)
    (hW : ∀ {p : Program} {l : Launch} {e : Env} {R : Room} {s : State} {m : MethodId} {args : Array Value} {below : List Frame} {meth : Method} {c : Code} {H : Heap} {locs : List Loc} {cells slots : Nat} {Q : State → Prop} {ls : Array Slot}, p.tables.exec = Jvm.exec → c.code = jb M → jokS st →
      (C → W p l e R s m args below meth c H locs cells slots Q (F0 m tgt ls (st1.map (tv E)))) → (¬ C → W p l e R s m args below meth c H locs cells slots Q (F0 m pc1 ls (st1.map (tv E)))) → W p l e R s m args below meth c H locs cells slots Q (F0 m pc ls (st.map (tv E))))
    (kt : C → jG E M tgt L st1 h r h') (kf : ¬ C → jG E M pc1 L st1 h r h') : jG E M pc L st h r h' := by
  intro A p e R s m args below meth c cells slots Q hF hend H locs ls oL oS oH hl hP hS
  exact hW hF.1 hF.2.1 oS (fun z => kt z A p e R s m args below meth c cells slots Q hF hend H locs ls oL (hok oS) oH hl hP hS) (fun z => kf z A p e R s m args below meth c cells slots Q hF hend H locs ls oL (hok oS) oH hl hP hS)
theorem j0e : Int32.ofInt 0 = 0 := rfl
theorem jG.if1 {cn : Jvm.ClassFile.Cond} {off : Int} {tgt : Nat} {x : Int} (hd : decode (jb M) pc = .ok (.ifCond cn off, 3)) (ht : (pc : Int) + off = (tgt : Int)) (kt : jcn cn x 0 → jG E M tgt L st h r h') (kf : ¬ jcn cn x 0 → jG E M (pc + 3) L st h r h') : jG E M pc L ((0, x) :: st) h r h' := by
  refine jG.b2 (C := jcn cn x 0) jokS_tl (fun hx hb oS k1 k2 => ?_) kt kf
  have ox : ok32 x := jokS_hd oS
  have e0 := jn_inj ox ok32_0
  have e1 := jn_lt ox ok32_0
  have e2 := jn_le ox ok32_0
  have e3 := jn_lt ok32_0 ox
  have e4 := jn_le ok32_0 ox
  rw [j0e] at e0 e1 e2 e3 e4
  cases cn with
  | eq => exact lv_if_eq hx hb hd ht (fun z => k1 (e0.mp z)) (fun z => k2 (fun y => z (e0.mpr y)))
  | ne => exact lv_if_ne hx hb hd ht (fun z => k1 (fun y => z (e0.mpr y))) (fun z => k2 (fun y => y (e0.mp z)))
  | lt => exact lv_if_lt hx hb hd ht (fun z => k1 (e1.mp z)) (fun z => k2 (fun y => z (e1.mpr y)))
  | ge => exact lv_if_ge hx hb hd ht (fun z => k1 (e4.mp z)) (fun z => k2 (fun y => z (e4.mpr y)))
  | gt => exact lv_if_gt hx hb hd ht (fun z => k1 (e3.mp z)) (fun z => k2 (fun y => z (e3.mpr y)))
  | le => exact lv_if_le hx hb hd ht (fun z => k1 (e2.mp z)) (fun z => k2 (fun y => z (e2.mpr y)))
theorem jG.if2 {cn : Jvm.ClassFile.Cond} {off : Int} {tgt : Nat} {x y : Int} (hd : decode (jb M) pc = .ok (.if_icmp cn off, 3)) (ht : (pc : Int) + off = (tgt : Int)) (kt : jcn cn x y → jG E M tgt L st h r h') (kf : ¬ jcn cn x y → jG E M (pc + 3) L st h r h') : jG E M pc L ((0, y) :: (0, x) :: st) h r h' := by
  refine jG.b2 (C := jcn cn x y) (fun o => jokS_tl (jokS_tl o)) (fun hx hb oS k1 k2 => ?_) kt kf
  have oy : ok32 y := jokS_hd oS
  have ox : ok32 x := jokS_hd (jokS_tl oS)
  have e0 := jn_inj ox oy
  have e1 := jn_lt ox oy
  have e2 := jn_le ox oy
  have e3 := jn_lt oy ox
  have e4 := jn_le oy ox
  cases cn with
  | eq => exact lv_icmp_eq hx hb hd ht (fun z => k1 (e0.mp z)) (fun z => k2 (fun y => z (e0.mpr y)))
  | ne => exact lv_icmp_ne hx hb hd ht (fun z => k1 (fun y => z (e0.mpr y))) (fun z => k2 (fun y => y (e0.mp z)))
  | lt => exact lv_icmp_lt hx hb hd ht (fun z => k1 (e1.mp z)) (fun z => k2 (fun y => z (e1.mpr y)))
  | ge => exact lv_icmp_ge hx hb hd ht (fun z => k1 (e4.mp z)) (fun z => k2 (fun y => z (e4.mpr y)))
  | gt => exact lv_icmp_gt hx hb hd ht (fun z => k1 (e3.mp z)) (fun z => k2 (fun y => z (e3.mpr y)))
  | le => exact lv_icmp_le hx hb hd ht (fun z => k1 (e2.mp z)) (fun z => k2 (fun y => z (e2.mpr y)))
theorem jG.goto {off : Int} {tgt : Nat} (hd : decode (jb M) pc = .ok (.goto off, 3)) (ht : (pc : Int) + off = (tgt : Int)) (g : jG E M tgt L st h r h') : jG E M pc L st h r h' :=
  jG.sk g (fun _ o => o) (fun hx hb _ _ _ _ _ k => lv_goto hx hb hd ht k)
/-! switches: the offset that is taken -/
theorem jG.lsw {d : Int} {ps : Array (Int × Int)} {len : Nat} {x off : Int} {tgt : Nat} (hd : decode (jb M) pc = .ok (.lookupswitch d ps, len)) (hp : (ps.toList.zip (ps.toList.drop 1)).all (fun (a, next) => a.1 < next.1) = true) (ho : Op.lookupswitch.offset ps.toList d x = off) (ht : (pc : Int) + off = (tgt : Int)) (g : jG E M tgt L st h r h') : jG E M pc L ((0, x) :: st) h r h' := by
  refine jG.sk g (fun _ o => jokS_tl o) (fun hx hb _ oS _ _ _ k => ?_)
  exact lv_lookup hx hb hd hp (by rw [jn_toInt, ok32_id (jokS_hd oS)]; exact ho) ht k
theorem jG.tswO {d lo hi : Int} {offs : Array Int} {len : Nat} {x : Int} {tgt : Nat} (hd : decode (jb M) pc = .ok (.tableswitch d lo hi offs, len)) (hc : x < lo ∨ hi < x) (ht : (pc : Int) + d = (tgt : Int)) (g : jG E M tgt L st h r h') : jG E M pc L ((0, x) :: st) h r h' := by
  refine jG.sk g (fun _ o => jokS_tl o) (fun hx hb _ oS _ _ _ k => ?_)
  exact lv_tableOut hx hb hd (by rw [jn_toInt, ok32_id (jokS_hd oS)]; exact hc) ht k
theorem jG.tswI {d lo hi : Int} {offs : Array Int} {len : Nat} {x off : Int} {tgt : Nat} (hd : decode (jb M) pc = .ok (.tableswitch d lo hi offs, len)) (h1 : ¬ x < lo) (h2 : ¬ hi < x) (ho : offs[(x - lo).toNat]? = some off) (ht : (pc : Int) + off = (tgt : Int)) (g : jG E M tgt L st h r h') : jG E M pc L ((0, x) :: st) h r h' := by
  refine jG.sk g (fun _ o => jokS_tl o) (fun hx hb _ oS _ _ _ k => ?_)
  have ex : (Int32.ofInt x).toInt = x := by rw [jn_toInt, ok32_id (jokS_hd oS)]
  exact lv_tableIn hx hb hd (by rw [ex]; exact h1) (by rw [ex]; exact h2) (by rw [ex]; exact ho) ht k

/-! the world: a cell that changes, a cell that is read -/
theorem jG.hp (g : jG E M pc1 L st1 h1 r h') (hok : jokL L → jokS st → jHok h → jokS st1 ∧ jHok h1)
    (hW : ∀ {A : Nat → Prop} {p : Program} {e : Env} {R : Room} {s : State} {m : MethodId} {args : Array Value} {below : List Frame} {meth : Method} {c : Code} {H : Heap} {locs : List Loc} {cells slots : Nat} {Q : State → Prop} {ls : Array Slot}, jFr E M A p R s m args meth c cells slots → lv_has ls (jL M) (L.map (jtp E)) → jokS st → jHok h → va_P (jeD E) jcl (jwd E h) H → va_S A s.heap H locs →
      (∀ (H1 : Heap) (locs1 : List Loc), va_P (jeD E) jcl (jwd E h1) H1 → va_S A s.heap H1 locs1 → W p (jel E) e R s m args below meth c H1 locs1 cells slots Q (F0 m pc1 ls (st1.map (tv E)))) → W p (jel E) e R s m args below meth c H locs cells slots Q (F0 m pc ls (st.map (tv E)))) : jG E M pc L st h r h' := by
  intro A p e R s m args below meth c cells slots Q hF hend H locs ls oL oS oH hl hP hS
  obtain ⟨o1, o2⟩ := hok oL oS oH
  exact hW hF hl oS oH hP hS (fun H1 locs1 hP1 hS1 => g A p e R s m args below meth c cells slots Q hF hend H1 locs1 ls oL o1 o2 hl hP1 hS1)
theorem jin {i : Int} {n : Nat} (h0 : 0 ≤ i) (h1 : i < (n : Int)) (hn : (n : Int) < 2147483648) : vp_in (Int32.ofInt i) n ∧ (Int32.ofInt i).toNatClampNeg = i.toNat := by
  have e : (Int32.ofInt i).toInt = i := by rw [jn_toInt, w32_id (by omega) (by omega)]
  refine ⟨vp_in_iff.mpr ⟨by rw [e]; exact h0, by rw [e]; exact h1⟩, ?_⟩
  show (Int32.ofInt i).toInt.toNat = i.toNat
  rw [e]
theorem jHok_cp {a : Nat} {f : Nat → Int} (oH : jHok h) (hf : ∀ k, jokT (jty a k) (f k)) : jHok (jcp h a f) := by
  intro a' k
  unfold jcp
  by_cases he : a' = a
  · rw [if_pos he, he]; exact hf k
  · rw [if_neg he]; exact oH a' k
theorem jHok_up {a k : Nat} {v : Int} (oH : jHok h) (hv : jokT (jty a k) v) : jHok (jup h a k v) := by
  refine jHok_cp oH (fun k' => ?_)
  by_cases he : k' = k
  · rw [if_pos he, he]; exact hv
  · rw [if_neg he]; exact oH a k'
theorem jent_i {E : jE} {a t n : Nat} (f : Nat → Int) (hk : jkd.getD a (9, 0) = (t, n)) (ht : t = 1 ∨ t = 3 ∨ t = 4) : jent E a f = .inl (jca E t, n, .inl (fun j => Int32.ofInt (f j))) := by
  unfold jent
  rw [hk]
  rcases ht with rfl | rfl | rfl <;> rfl
theorem jent_l {E : jE} {a n : Nat} (f : Nat → Int) (hk : jkd.getD a (9, 0) = (2, n)) : jent E a f = .inl (jca E 2, n, .inr (.inl (fun j => Int64.ofInt (f j)))) := by
  unfold jent
  rw [hk]
  rfl
theorem jent_o {E : jE} {a ci : Nat} (f : Nat → Int) (hk : jkd.getD a (9, 0) = (0, ci)) : jent E a f = .inr (ci, (List.range (jft.getD ci []).length).map (fun k => jfv E a k (f k))) := by
  unfold jent
  rw [hk]
  rfl
theorem jkd_lt {a t n : Nat} (hk : jkd.getD a (9, 0) = (t, n)) (ht : t ≠ 9) : a < jN := by
  rcases Nat.lt_or_ge a jN with h1 | h1
  · exact h1
  · rw [List.getD_eq_getElem?_getD, List.getElem?_eq_none (by rw [← jN_len] at h1; exact h1)] at hk
    cases hk
    exact absurd rfl ht
theorem jty_k {a t n : Nat} (hk : jkd.getD a (9, 0) = (t, n)) (k : Nat) : jty a k = jty0 t n k := by
  unfold jty
  rw [hk]
theorem jG.iald {a n : Nat} {i : Int} (hd : decode (jb M) pc = .ok (.iaload, 1)) (hk : jkd.getD a (9, 0) = (1, n)) (hn : (n : Int) < 2147483648) (h0 : 0 ≤ i) (h1 : i < (n : Int)) (g : jG E M (pc + 1) L ((0, h a i.toNat) :: st) h r h') : jG E M pc L ((0, i) :: (2, (a : Int)) :: st) h r h' := by
  obtain ⟨z1, z2⟩ := jin h0 h1 hn
  refine jG.hp g (fun _ oS oH => ⟨jokS_cons (by have h2 := oH a i.toNat; rw [jty_k hk] at h2; exact h2) (jokS_tl (jokS_tl oS)), oH⟩) (fun hF hl oS oH hP hS k => ?_)
  have hw := jwd_at (E := E) (h := h) (jkd_lt hk (by decide))
  rw [jent_i _ hk (by decide)] at hw
  refine va_iald hF.1 hF.2.1 hF.2.2.2.2.2.2.1 hP a 0 hw rfl z1 hd ?_
  rw [z2]
  exact k _ _ hP hS
theorem jG.bald {a n : Nat} {i : Int} (hd : decode (jb M) pc = .ok (.baload, 1)) (hk : jkd.getD a (9, 0) = (3, n)) (hn : (n : Int) < 2147483648) (h0 : 0 ≤ i) (h1 : i < (n : Int)) (g : jG E M (pc + 1) L ((0, h a i.toNat) :: st) h r h') : jG E M pc L ((0, i) :: (2, (a : Int)) :: st) h r h' := by
  obtain ⟨z1, z2⟩ := jin h0 h1 hn
  refine jG.hp g (fun _ oS oH => ⟨jokS_cons (by have h2 := oH a i.toNat; rw [jty_k hk] at h2; have h3 : -128 ≤ h a i.toNat ∧ h a i.toNat < 128 := h2; exact ⟨by show -2147483648 ≤ h a i.toNat; omega, by show h a i.toNat < 2147483648; omega⟩) (jokS_tl (jokS_tl oS)), oH⟩) (fun hF hl oS oH hP hS k => ?_)
  have hw := jwd_at (E := E) (h := h) (jkd_lt hk (by decide))
  rw [jent_i _ hk (by decide)] at hw
  refine va_bald hF.1 hF.2.1 hF.2.2.2.2.2.2.1 hP a 2 hw rfl z1 hd ?_
  rw [z2]
  exact k _ _ hP hS
theorem jG.cald {a n : Nat} {i : Int} (hd : decode (jb M) pc = .ok (.caload, 1)) (hk : jkd.getD a (9, 0) = (4, n)) (hn : (n : Int) < 2147483648) (h0 : 0 ≤ i) (h1 : i < (n : Int)) (g : jG E M (pc + 1) L ((0, h a i.toNat) :: st) h r h') : jG E M pc L ((0, i) :: (2, (a : Int)) :: st) h r h' := by
  obtain ⟨z1, z2⟩ := jin h0 h1 hn
  refine jG.hp g (fun _ oS oH => ⟨jokS_cons (by have h2 := oH a i.toNat; rw [jty_k hk] at h2; have h3 : 0 ≤ h a i.toNat ∧ h a i.toNat < 65536 := h2; exact ⟨by show -2147483648 ≤ h a i.toNat; omega, by show h a i.toNat < 2147483648; omega⟩) (jokS_tl (jokS_tl oS)), oH⟩) (fun hF hl oS oH hP hS k => ?_)
  have hw := jwd_at (E := E) (h := h) (jkd_lt hk (by decide))
  rw [jent_i _ hk (by decide)] at hw
  refine va_cald hF.1 hF.2.1 hF.2.2.2.2.2.2.1 hP a 3 hw rfl z1 hd ?_
  rw [z2]
  exact k _ _ hP hS
theorem jG.lald {a n : Nat} {i : Int} (hd : decode (jb M) pc = .ok (.laload, 1)) (hk : jkd.getD a (9, 0) = (2, n)) (hn : (n : Int) < 2147483648) (h0 : 0 ≤ i) (h1 : i < (n : Int)) (g : jG E M (pc + 1) L ((1, h a i.toNat) :: st) h r h') : jG E M pc L ((0, i) :: (2, (a : Int)) :: st) h r h' := by
  obtain ⟨z1, z2⟩ := jin h0 h1 hn
  refine jG.hp g (fun _ oS oH => ⟨jokS_cons (by have h2 := oH a i.toNat; rw [jty_k hk] at h2; exact h2) (jokS_tl (jokS_tl oS)), oH⟩) (fun hF hl oS oH hP hS k => ?_)
  have hw := jwd_at (E := E) (h := h) (jkd_lt hk (by decide))
  rw [jent_l _ hk] at hw
  refine va_lald hF.1 hF.2.1 hF.2.2.2.2.2.2.1 hP a 1 hw rfl z1 hd ?_
  rw [z2]
  exact k _ _ hP hS
theorem jnar_b {v : Int} (h0 : -128 ≤ v) (h1 : v < 128) : vp_nar .byte (Int32.ofInt v) = Int32.ofInt v := by
  rw [vp_nar_byte]
  apply Int32.toInt_inj.mp
  rw [Int8.toInt_toInt32, Int32.toInt_toInt8, jn_toInt, w32_id (by omega) (by omega), Int.bmod_def]
  split <;> omega
theorem jnar_c {v : Int} (h0 : 0 ≤ v) (h1 : v < 65536) : vp_nar .char (Int32.ofInt v) = Int32.ofInt v := by
  have e : Int32.ofInt v = nI v.toNat := by
    apply Int32.toInt_inj.mp
    rw [jn_toInt, w32_id (by omega) (by omega), nI_toInt (by omega)]
    omega
  have h2 := (pk_charN (q := v.toNat) (by omega)).1
  rw [e]
  unfold vp_nar
  rw [h2]
theorem jG.iast {a n : Nat} {i v : Int} (hd : decode (jb M) pc = .ok (.iastore, 1)) (hk : jkd.getD a (9, 0) = (1, n)) (hn : (n : Int) < 2147483648) (h0 : 0 ≤ i) (h1 : i < (n : Int)) (g : jG E M (pc + 1) L st (jup h a i.toNat v) r h') : jG E M pc L ((0, v) :: (0, i) :: (2, (a : Int)) :: st) h r h' := by
  obtain ⟨z1, z2⟩ := jin h0 h1 hn
  refine jG.hp g (fun _ oS oH => ⟨jokS_tl (jokS_tl (jokS_tl oS)), jHok_up oH (by rw [jty_k hk]; exact jokS_hd oS)⟩) (fun hF hl oS oH hP hS k => ?_)
  have ha := jkd_lt hk (by decide)
  have hw := jwd_at (E := E) (h := h) ha
  rw [jent_i _ hk (by decide)] at hw
  refine va_iast hF.1 hF.2.1 hF.2.2.2.2.2.2.1 hP (jwd_D hF.2.2.2.2.2.2.2.2.1) hS a 0 hw rfl z1 hd (fun H1 locs1 hP1 _ hS1 => k H1 locs1 ?_ hS1)
  rw [z2] at hP1
  have e := jwd_cp (E := E) (h := h) ha (fun k' => if k' = i.toNat then v else h a k')
  rw [jent_i _ hk (by decide)] at e
  have e2 : (fun j => Int32.ofInt (if j = i.toNat then v else h a j)) = upd (fun j => Int32.ofInt (h a j)) i.toNat (Int32.ofInt v) := by
    funext j
    unfold upd
    by_cases hj : j = i.toNat
    · rw [if_pos hj, if_pos hj]
    · rw [if_neg hj, if_neg hj]
  rw [e2] at e
  rw [e] at hP1
  exact hP1
theorem jG.bast {a n : Nat} {i v : Int} (hd : decode (jb M) pc = .ok (.bastore, 1)) (hk : jkd.getD a (9, 0) = (3, n)) (hn : (n : Int) < 2147483648) (h0 : 0 ≤ i) (h1 : i < (n : Int)) (hv0 : -128 ≤ v) (hv1 : v < 128) (g : jG E M (pc + 1) L st (jup h a i.toNat v) r h') : jG E M pc L ((0, v) :: (0, i) :: (2, (a : Int)) :: st) h r h' := by
  obtain ⟨z1, z2⟩ := jin h0 h1 hn
  refine jG.hp g (fun _ oS oH => ⟨jokS_tl (jokS_tl (jokS_tl oS)), jHok_up oH (by rw [jty_k hk]; exact ⟨hv0, hv1⟩)⟩) (fun hF hl oS oH hP hS k => ?_)
  have ha := jkd_lt hk (by decide)
  have hw := jwd_at (E := E) (h := h) ha
  rw [jent_i _ hk (by decide)] at hw
  refine va_bast hF.1 hF.2.1 hF.2.2.2.2.2.2.1 hP (jwd_D hF.2.2.2.2.2.2.2.2.1) hS a 2 hw rfl z1 hd (fun H1 locs1 hP1 _ hS1 => k H1 locs1 ?_ hS1)
  rw [jnar_b hv0 hv1] at hP1
  rw [z2] at hP1
  have e := jwd_cp (E := E) (h := h) ha (fun k' => if k' = i.toNat then v else h a k')
  rw [jent_i _ hk (by decide)] at e
  have e2 : (fun j => Int32.ofInt (if j = i.toNat then v else h a j)) = upd (fun j => Int32.ofInt (h a j)) i.toNat (Int32.ofInt v) := by
    funext j
    unfold upd
    by_cases hj : j = i.toNat
    · rw [if_pos hj, if_pos hj]
    · rw [if_neg hj, if_neg hj]
  rw [e2] at e
  rw [e] at hP1
  exact hP1
theorem jG.cast {a n : Nat} {i v : Int} (hd : decode (jb M) pc = .ok (.castore, 1)) (hk : jkd.getD a (9, 0) = (4, n)) (hn : (n : Int) < 2147483648) (h0 : 0 ≤ i) (h1 : i < (n : Int)) (hv0 : 0 ≤ v) (hv1 : v < 65536) (g : jG E M (pc + 1) L st (jup h a i.toNat v) r h') : jG E M pc L ((0, v) :: (0, i) :: (2, (a : Int)) :: st) h r h' := by
  obtain ⟨z1, z2⟩ := jin h0 h1 hn
  refine jG.hp g (fun _ oS oH => ⟨jokS_tl (jokS_tl (jokS_tl oS)), jHok_up oH (by rw [jty_k hk]; exact ⟨hv0, hv1⟩)⟩) (fun hF hl oS oH hP hS k => ?_)
  have ha := jkd_lt hk (by decide)
  have hw := jwd_at (E := E) (h := h) ha
  rw [jent_i _ hk (by decide)] at hw
  refine va_cast hF.1 hF.2.1 hF.2.2.2.2.2.2.1 hP (jwd_D hF.2.2.2.2.2.2.2.2.1) hS a 3 hw rfl z1 hd (fun H1 locs1 hP1 _ hS1 => k H1 locs1 ?_ hS1)
  rw [jnar_c hv0 hv1] at hP1
  rw [z2] at hP1
  have e := jwd_cp (E := E) (h := h) ha (fun k' => if k' = i.toNat then v else h a k')
  rw [jent_i _ hk (by decide)] at e
  have e2 : (fun j => Int32.ofInt (if j = i.toNat then v else h a j)) = upd (fun j => Int32.ofInt (h a j)) i.toNat (Int32.ofInt v) := by
    funext j
    unfold upd
    by_cases hj : j = i.toNat
    · rw [if_pos hj, if_pos hj]
    · rw [if_neg hj, if_neg hj]
  rw [e2] at e
  rw [e] at hP1
  exact hP1
theorem jG.last {a n : Nat} {i v : Int} (hd : decode (jb M) pc = .ok (.lastore, 1)) (hk : jkd.getD a (9, 0) = (2, n)) (hn : (n : Int) < 2147483648) (h0 : 0 ≤ i) (h1 : i < (n : Int)) (g : jG E M (pc + 1) L st (jup h a i.toNat v) r h') : jG E M pc L ((1, v) :: (0, i) :: (2, (a : Int)) :: st) h r h' := by
  obtain ⟨z1, z2⟩ := jin h0 h1 hn
  refine jG.hp g (fun _ oS oH => ⟨jokS_tl (jokS_tl (jokS_tl oS)), jHok_up oH (by rw [jty_k hk]; exact jokS_hd oS)⟩) (fun hF hl oS oH hP hS k => ?_)
  have ha := jkd_lt hk (by decide)
  have hw := jwd_at (E := E) (h := h) ha
  rw [jent_l _ hk] at hw
  refine va_last hF.1 hF.2.1 hF.2.2.2.2.2.2.1 hP (jwd_D hF.2.2.2.2.2.2.2.2.1) hS a 1 hw rfl z1 hd (fun H1 locs1 hP1 _ hS1 => k H1 locs1 ?_ hS1)
  rw [z2] at hP1
  have e := jwd_cp (E := E) (h := h) ha (fun k' => if k' = i.toNat then v else h a k')
  rw [jent_l _ hk] at e
  have e2 : (fun j => Int64.ofInt (if j = i.toNat then v else h a j)) = vp_updL (fun j => Int64.ofInt (h a j)) i.toNat (Int64.ofInt v) := by
    funext j
    unfold vp_updL
    by_cases hj : j = i.toNat
    · rw [if_pos hj, if_pos hj]
    · rw [if_neg hj, if_neg hj]
  rw [e2] at e
  rw [e] at hP1
  exact hP1
theorem jG.alen {a t n : Nat} (hd : decode (jb M) pc = .ok (.arraylength, 1)) (hk : jkd.getD a (9, 0) = (t, n)) (ht : t = 1 ∨ t = 2 ∨ t = 3 ∨ t = 4) (hn : (n : Int) < 2147483648) (g : jG E M (pc + 1) L ((0, (n : Int)) :: st) h r h') : jG E M pc L ((2, (a : Int)) :: st) h r h' := by
  refine jG.hp g (fun _ oS oH => ⟨jokS_cons ⟨by show -2147483648 ≤ (n : Int); omega, hn⟩ (jokS_tl oS), oH⟩) (fun hF hl oS oH hP hS k => ?_)
  have ha : a < jN := jkd_lt hk (by rcases ht with rfl | rfl | rfl | rfl <;> decide)
  have hw := jwd_at (E := E) (h := h) ha
  have hK := hF.2.2.2.2.2.2.1
  have e : Int32.ofNat n = Int32.ofInt (n : Int) := (Int32.ofInt_eq_ofNat).symm
  rcases ht with rfl | rfl | rfl | rfl
  · rw [jent_i _ hk (by decide)] at hw
    exact va_alen hF.1 hF.2.1 hK hP a 0 hw (by rfl : (jtys E)[0]? = some (jca E 1, .int)) e hd (k _ _ hP hS)
  · rw [jent_l _ hk] at hw
    exact va_alen hF.1 hF.2.1 hK hP a 1 hw (by rfl : (jtys E)[1]? = some (jca E 2, .long)) e hd (k _ _ hP hS)
  · rw [jent_i _ hk (by decide)] at hw
    exact va_alen hF.1 hF.2.1 hK hP a 2 hw (by rfl : (jtys E)[2]? = some (jca E 3, .byte)) e hd (k _ _ hP hS)
  · rw [jent_i _ hk (by decide)] at hw
    exact va_alen hF.1 hF.2.1 hK hP a 3 hw (by rfl : (jtys E)[3]? = some (jca E 4, .char)) e hd (k _ _ hP hS)
/-! fields -/
def jfd (a k : Nat) (x : Int) : jV := match jty a k with
  | 2 => (2, (((jrf.getD a []).getD k 0 : Nat) : Int))
  | 1 => (1, x)
  | _ => (0, x)
theorem jfd_tv (a k : Nat) (x : Int) : tv E (jfd a k x) = jfv E a k x := by
  unfold jfd jfv
  match jty a k with
  | 0 => rfl
  | 1 => rfl
  | 2 => rfl
  | _ + 3 => rfl
theorem jfd_ok {a k : Nat} (hty : jty a k ≤ 3) (oH : jHok h) : jokV (jfd a k (h a k)) := by
  have h2 := oH a k
  unfold jfd
  revert h2 hty
  match jty a k with
  | 0 => intro _ h2; exact h2
  | 1 => intro _ h2; exact h2
  | 2 => intro _ h2; trivial
  | 3 => intro _ h2; have h3 : h a k = 0 ∨ h a k = 1 := h2; exact ⟨by show -2147483648 ≤ h a k; omega, by show h a k < 2147483648; omega⟩
  | _ + 4 => intro h1; omega
/-- a class of the world: its words, its fields' types -/
def jclOk (ci : Nat) (C : String) (T : u_T) (N : Nat) : Prop :=
  (∀ w ∈ u_ws C T N, w ∈ jWS) ∧ (jft.getD ci []).length = N ∧ (∀ a, a < N → ∀ b, b < N → a ≠ b → (T a).2.1 ≠ (T b).2.1) ∧ (∀ k, k < N → ∃ ty, parseFieldDescriptor (T k).2.2.1 = some ty ∧ (match (jft.getD ci []).getD k 2 with | 0 => ty = .int | 1 => ty = .long | 3 => ty = .boolean | 2 => True | _ => False))
theorem jft_le {ci : Nat} {C : String} {T : u_T} {N k : Nat} (hO : jclOk ci C T N) (hk : k < N) : (jft.getD ci []).getD k 2 ≤ 3 := by
  obtain ⟨ty, -, h2⟩ := hO.2.2.2 k hk
  revert h2
  match (jft.getD ci []).getD k 2 with
  | 0 => intro _; omega
  | 1 => intro _; omega
  | 2 => intro _; omega
  | 3 => intro _; omega
  | _ + 4 => intro z; exact z.elim
theorem jG.getf {ix a ci k : Nat} {C : String} {T : u_T} {N : Nat} (hd : decode (jb M) pc = .ok (.getfield ix, 3)) (hk : jkd.getD a (9, 0) = (0, ci)) (hc : jcl[ci]? = some (C, T, N)) (hO : jclOk ci C T N) (hkN : k < N) (hw : Cond.fieldLink (jy M).cls ix (T k).1 (T k).2.1 (T k).2.2.1 ∈ jWS) (g : jG E M (pc + 3) L (jfd a k (h a k) :: st) h r h') : jG E M pc L ((2, (a : Int)) :: st) h r h' := by
  refine jG.hp g (fun _ oS oH => ⟨jokS_cons (jfd_ok (by rw [jty_k hk]; exact jft_le hO hkN) oH) (jokS_tl oS), oH⟩) (fun hF hl oS oH hP hS kk => ?_)
  have hx := jwd_at (E := E) (h := h) (jkd_lt hk (by decide))
  rw [jent_o _ hk] at hx
  have hts := hF.2.2.2.2.2.1
  refine va_get hF.1 hF.2.1 hts hO.1 hF.2.2.2.2.1 hF.2.2.2.2.2.2.1 hP a hx hc k hkN (hts _ hw) (fun _ z => z) (v := jfv E a k (h a k)) ?_ hd ?_
  · rw [List.getElem?_map, List.getElem?_range (by rw [hO.2.1]; exact hkN)]
    rfl
  · rw [← jfd_tv]
    exact kk _ _ hP hS
theorem jG.getfN {ix a ci k : Nat} {C : String} {T : u_T} {N : Nat} (hd : decode (jb M) pc = .ok (.getfield ix, 3)) (hk : jkd.getD a (9, 0) = (0, ci)) (hc : jcl[ci]? = some (C, T, N)) (hO : jclOk ci C T N) (hkN : k < N) (hw : Cond.fieldLinkNest (jy M).cls ix (T k).1 (T k).2.1 (T k).2.2.1 jhost ∈ jNW) (g : jG E M (pc + 3) L (jfd a k (h a k) :: st) h r h') : jG E M pc L ((2, (a : Int)) :: st) h r h' := by
  refine jG.hp g (fun _ oS oH => ⟨jokS_cons (jfd_ok (by rw [jty_k hk]; exact jft_le hO hkN) oH) (jokS_tl oS), oH⟩) (fun hF hl oS oH hP hS kk => ?_)
  have hx := jwd_at (E := E) (h := h) (jkd_lt hk (by decide))
  rw [jent_o _ hk] at hx
  have hts := hF.2.2.2.2.2.1
  refine va_getN hF.1 hF.2.1 hts hO.1 hF.2.2.2.2.1 hF.2.2.2.2.2.2.1 hP a hx hc k hkN (va_Nw.use rfl (hF.2.2.2.2.2.2.2.1.2.2.2.2 _ hw)) (fun _ z => z) (v := jfv E a k (h a k)) ?_ hd ?_
  · rw [List.getElem?_map, List.getElem?_range (by rw [hO.2.1]; exact hkN)]
    rfl
  · rw [← jfd_tv]
    exact kk _ _ hP hS
theorem jset_range {α : Type} {n k : Nat} (f : Nat → α) (v : α) : ((List.range n).map f).set k v = (List.range n).map (fun j => if j = k then v else f j) := by
  apply List.ext_getElem?
  intro i
  rw [List.getElem?_set]
  by_cases hi : k = i
  · subst hi
    rw [if_pos rfl]
    by_cases h2 : k < n
    · simp [h2]
    · simp [h2]
  · rw [if_neg hi]
    by_cases h2 : i < n
    · simp [h2, Ne.symm hi]
    · simp [h2]
/-- what may be stored: by the field's type -/
def jput (t : Nat) (v : jV) : Prop := match t with
  | 0 => v.1 = 0
  | 1 => v.1 = 1
  | 3 => v.1 = 0 ∧ (v.2 = 0 ∨ v.2 = 1)
  | _ => False
theorem jput_val {ci k : Nat} {ty : FieldType} {v : jV} {a : Nat} (hk : jkd.getD a (9, 0) = (0, ci)) (h2 : match (jft.getD ci []).getD k 2 with | 0 => ty = .int | 1 => ty = .long | 3 => ty = .boolean | 2 => True | _ => False) (hp : jput ((jft.getD ci []).getD k 2) v) :
    tv E v = jfv E a k v.2 ∧ narrow ty (tv E v) = tv E v ∧ fits ty (tv E v) = true := by
  have hty : jty a k = (jft.getD ci []).getD k 2 := by rw [jty_k hk]; rfl
  unfold jfv
  rw [hty]
  revert h2 hp
  obtain ⟨t, x⟩ := v
  match (jft.getD ci []).getD k 2 with
  | 0 =>
    intro h2 hp
    have : t = 0 := hp
    subst this
    subst h2
    exact ⟨rfl, rfl, rfl⟩
  | 1 =>
    intro h2 hp
    have : t = 1 := hp
    subst this
    subst h2
    exact ⟨rfl, rfl, rfl⟩
  | 2 => intro _ hp; exact hp.elim
  | 3 =>
    intro h2 hp
    obtain ⟨h3, h4⟩ : t = 0 ∧ (x = 0 ∨ x = 1) := hp
    subst h3
    subst h2
    rcases h4 with rfl | rfl
    · exact ⟨rfl, by show narrow .boolean (.int (Int32.ofInt 0)) = .int (Int32.ofInt 0); decide, rfl⟩
    · exact ⟨rfl, by show narrow .boolean (.int (Int32.ofInt 1)) = .int (Int32.ofInt 1); decide, rfl⟩
  | _ + 4 => intro z; exact z.elim
theorem jput_ok {ci k : Nat} {v : jV} {a : Nat} (hk : jkd.getD a (9, 0) = (0, ci)) (hp : jput ((jft.getD ci []).getD k 2) v) (hv : jokV v) : jokT (jty a k) v.2 := by
  rw [jty_k hk]
  show jokT ((jft.getD ci []).getD k 2) v.2
  revert hp hv
  obtain ⟨t, x⟩ := v
  match (jft.getD ci []).getD k 2 with
  | 0 => intro hp hv; have : t = 0 := hp; subst this; exact hv
  | 1 => intro hp hv; have : t = 1 := hp; subst this; exact hv
  | 2 => intro hp; exact hp.elim
  | 3 => intro hp hv; exact hp.2
  | _ + 4 => intro z; exact z.elim
theorem jput_world {ci k a : Nat} {v : jV} (hk : jkd.getD a (9, 0) = (0, ci)) (ha : a < jN) (hv : tv E v = jfv E a k v.2) : (jwd E h).set a (jad E a, .inr (ci, ((List.range (jft.getD ci []).length).map (fun j => jfv E a j (h a j))).set k (tv E v))) = jwd E (jup h a k v.2) := by
  have e := jwd_cp (E := E) (h := h) ha (fun k' => if k' = k then v.2 else h a k')
  rw [jent_o _ hk] at e
  unfold jup
  rw [← e, jset_range]
  congr 4
  apply List.map_congr_left
  intro j _
  by_cases hj : j = k
  · rw [if_pos hj, if_pos hj, hv, hj]
  · rw [if_neg hj, if_neg hj]
theorem jG.putf {ix a ci k : Nat} {C : String} {T : u_T} {N : Nat} {v : jV} (hd : decode (jb M) pc = .ok (.putfield ix, 3)) (hk : jkd.getD a (9, 0) = (0, ci)) (hc : jcl[ci]? = some (C, T, N)) (hO : jclOk ci C T N) (hkN : k < N) (hfin : (T k).2.2.2 = false) (hp : jput ((jft.getD ci []).getD k 2) v) (hw : Cond.fieldLink (jy M).cls ix (T k).1 (T k).2.1 (T k).2.2.1 ∈ jWS) (g : jG E M (pc + 3) L st (jup h a k v.2) r h') : jG E M pc L (v :: (2, (a : Int)) :: st) h r h' := by
  refine jG.hp g (fun _ oS oH => ⟨jokS_tl (jokS_tl oS), jHok_up oH (jput_ok hk hp (jokS_hd oS))⟩) (fun hF hl oS oH hP hS kk => ?_)
  have ha := jkd_lt hk (by decide)
  have hx := jwd_at (E := E) (h := h) ha
  rw [jent_o _ hk] at hx
  have hts := hF.2.2.2.2.2.1
  obtain ⟨hu, hlen, hnm, htys⟩ := hO
  obtain ⟨ty, ht1, ht2⟩ := htys k hkN
  obtain ⟨q1, q2, q3⟩ := jput_val (E := E) (a := a) hk ht2 hp
  refine va_put hF.1 hF.2.1 hts hu (fun j => if h : j < N then (htys j h).choose else .int) (fun j hj => by rw [dif_pos hj]; exact (htys j hj).choose_spec.1) hnm hF.2.2.2.2.1 hF.2.2.2.2.2.2.1 hP (jwd_D hF.2.2.2.2.2.2.2.2.1) hS a hx hc k hkN (hts _ hw) (fun _ z => z) hfin ht1 q2 q3 (by rw [List.length_map, List.length_range, hlen]; exact hkN) hd (fun H1 locs1 hP1 _ hS1 => kk H1 locs1 ?_ hS1)
  rw [jput_world hk ha q1] at hP1
  exact hP1
theorem jG.putfN {ix a ci k : Nat} {C : String} {T : u_T} {N : Nat} {v : jV} (hd : decode (jb M) pc = .ok (.putfield ix, 3)) (hk : jkd.getD a (9, 0) = (0, ci)) (hc : jcl[ci]? = some (C, T, N)) (hO : jclOk ci C T N) (hkN : k < N) (hfin : (T k).2.2.2 = false) (hp : jput ((jft.getD ci []).getD k 2) v) (hw : Cond.fieldLinkNest (jy M).cls ix (T k).1 (T k).2.1 (T k).2.2.1 jhost ∈ jNW) (g : jG E M (pc + 3) L st (jup h a k v.2) r h') : jG E M pc L (v :: (2, (a : Int)) :: st) h r h' := by
  refine jG.hp g (fun _ oS oH => ⟨jokS_tl (jokS_tl oS), jHok_up oH (jput_ok hk hp (jokS_hd oS))⟩) (fun hF hl oS oH hP hS kk => ?_)
  have ha := jkd_lt hk (by decide)
  have hx := jwd_at (E := E) (h := h) ha
  rw [jent_o _ hk] at hx
  have hts := hF.2.2.2.2.2.1
  obtain ⟨hu, hlen, hnm, htys⟩ := hO
  obtain ⟨ty, ht1, ht2⟩ := htys k hkN
  obtain ⟨q1, q2, q3⟩ := jput_val (E := E) (a := a) hk ht2 hp
  refine va_putN hF.1 hF.2.1 hts hu (fun j => if h : j < N then (htys j h).choose else .int) (fun j hj => by rw [dif_pos hj]; exact (htys j hj).choose_spec.1) hnm hF.2.2.2.2.1 hF.2.2.2.2.2.2.1 hP (jwd_D hF.2.2.2.2.2.2.2.2.1) hS a hx hc k hkN (va_Nw.use rfl (hF.2.2.2.2.2.2.2.1.2.2.2.2 _ hw)) (fun _ z => z) hfin ht1 q2 q3 (by rw [List.length_map, List.length_range, hlen]; exact hkN) hd (fun H1 locs1 hP1 _ hS1 => kk H1 locs1 ?_ hS1)
  rw [jput_world hk ha q1] at hP1
  exact hP1
/-! what is only read -/
theorem jG.gets {ix : Nat} {q : String × String × String × jV} (hd : decode (jb M) pc = .ok (.getstatic ix, 3)) (hq : q ∈ jst) (hw : Cond.fieldLink (jy M).cls ix q.1 q.2.1 q.2.2.1 ∈ jWS) (hv : jokV q.2.2.2) (g : jG E M (pc + 3) L (q.2.2.2 :: st) h r h') : jG E M pc L st h r h' := by
  refine jG.hp g (fun _ oS oH => ⟨jokS_cons hv oS, oH⟩) (fun hF hl oS oH hP hS kk => ?_)
  exact va_gets hF.1 hF.2.1 (hF.2.2.2.2.2.2.2.1.2.1 q hq) hS hF.2.2.2.2.1 (hF.2.2.2.2.2.1 _ hw) (fun _ z => z) hd (kk _ _ hP hS)
theorem jG.getsN {ix : Nat} {q : String × String × String × jV} (hd : decode (jb M) pc = .ok (.getstatic ix, 3)) (hq : q ∈ jst) (hw : Cond.fieldLinkNest (jy M).cls ix q.1 q.2.1 q.2.2.1 jhost ∈ jNW) (hv : jokV q.2.2.2) (g : jG E M (pc + 3) L (q.2.2.2 :: st) h r h') : jG E M pc L st h r h' := by
  refine jG.hp g (fun _ oS oH => ⟨jokS_cons hv oS, oH⟩) (fun hF hl oS oH hP hS kk => ?_)
  exact va_getsN hF.1 hF.2.1 (hF.2.2.2.2.2.2.2.1.2.1 q hq) hS hF.2.2.2.2.1 (va_Nw.use rfl (hF.2.2.2.2.2.2.2.1.2.2.2.2 _ hw)) (fun _ z => z) hd (kk _ _ hP hS)
theorem jG.xald {x : Nat} {i : Int} (hd : decode (jb M) pc = .ok (.iaload, 1)) (hx : x < jxn) (ht : jxt.getD x .int = .int) (hn : (jxl E x : Int) < 2147483648) (h0 : 0 ≤ i) (h1 : i < (jxl E x : Int)) (hv : ok32 (jxv E x i.toNat)) (g : jG E M (pc + 1) L ((0, jxv E x i.toNat) :: st) h r h') : jG E M pc L ((0, i) :: (3, (x : Int)) :: st) h r h' := by
  obtain ⟨z1, z2⟩ := jin h0 h1 hn
  refine jG.hp g (fun _ oS oH => ⟨jokS_cons hv (jokS_tl (jokS_tl oS)), oH⟩) (fun hF hl oS oH hP hS kk => ?_)
  have hT := hF.2.2.2.2.2.2.2.1.1 x hx
  rw [ht] at hT
  exact va_ti hF.1 hF.2.1 hT hS z1 (by rw [z2]; rfl) hd (kk _ _ hP hS)
theorem jG.xbld {x : Nat} {i : Int} (hd : decode (jb M) pc = .ok (.baload, 1)) (hx : x < jxn) (ht : jxt.getD x .int = .byte) (hn : (jxl E x : Int) < 2147483648) (h0 : 0 ≤ i) (h1 : i < (jxl E x : Int)) (hv : ok32 (jxv E x i.toNat)) (g : jG E M (pc + 1) L ((0, jxv E x i.toNat) :: st) h r h') : jG E M pc L ((0, i) :: (3, (x : Int)) :: st) h r h' := by
  obtain ⟨z1, z2⟩ := jin h0 h1 hn
  refine jG.hp g (fun _ oS oH => ⟨jokS_cons hv (jokS_tl (jokS_tl oS)), oH⟩) (fun hF hl oS oH hP hS kk => ?_)
  have hT := hF.2.2.2.2.2.2.2.1.1 x hx
  rw [ht] at hT
  exact va_tb hF.1 hF.2.1 hT hS z1 (by rw [z2]; rfl) hd (kk _ _ hP hS)
theorem jG.xlen {x : Nat} (hd : decode (jb M) pc = .ok (.arraylength, 1)) (hx : x < jxn) (hn : (jxl E x : Int) < 2147483648) (g : jG E M (pc + 1) L ((0, (jxl E x : Int)) :: st) h r h') : jG E M pc L ((3, (x : Int)) :: st) h r h' := by
  refine jG.hp g (fun _ oS oH => ⟨jokS_cons ⟨by show -2147483648 ≤ (jxl E x : Int); omega, hn⟩ (jokS_tl oS), oH⟩) (fun hF hl oS oH hP hS kk => ?_)
  exact va_tlen hF.1 hF.2.1 (hF.2.2.2.2.2.2.2.1.1 x hx) hS (Int32.ofInt_eq_ofNat).symm hd (kk _ _ hP hS)
theorem jG.ldcs {ix : Nat} {q : String × Nat × String × Nat} (hd : decode (jb M) pc = .ok (.ldc ix, 2)) (hq : q ∈ jsr) (h1 : q.1 = (jy M).cls) (h2 : q.2.1 = ix) (g : jG E M (pc + 2) L ((3, (q.2.2.2 : Int)) :: st) h r h') : jG E M pc L st h r h' := by
  refine jG.hp g (fun _ oS oH => ⟨jokS_cons (by trivial) oS, oH⟩) (fun hF hl oS oH hP hS kk => ?_)
  have hZ := hF.2.2.2.2.2.2.2.1.2.2.1 q hq
  rw [h1, h2] at hZ
  exact va_ldcS hF.1 hF.2.1 hF.2.2.2.2.1 hZ hd (kk _ _ hP hS)
theorem jG.xcod {ix : Nat} {q : Nat × Nat} (hd : decode (jb M) pc = .ok (.getfield ix, 3)) (hq : q ∈ jso) (hw : Cond.fieldLink (jy M).cls ix "java/lang/String" "coder" "B" ∈ jWS) (g : jG E M (pc + 3) L ((0, 0) :: st) h r h') : jG E M pc L ((3, (q.1 : Int)) :: st) h r h' := by
  refine jG.hp g (fun _ oS oH => ⟨jokS_cons ok32_0 (jokS_tl oS), oH⟩) (fun hF hl oS oH hP hS kk => ?_)
  exact vk_getf hF.1 hF.2.1 (hF.2.2.2.2.2.2.2.1.2.2.2.1 q hq).2.1 hS hF.2.2.2.2.1 (hF.2.2.2.2.2.1 _ hw) (fun _ z => z) hd (kk _ _ hP hS)
theorem jG.xval {ix : Nat} {q : Nat × Nat} (hd : decode (jb M) pc = .ok (.getfield ix, 3)) (hq : q ∈ jso) (hw : Cond.fieldLink (jy M).cls ix "java/lang/String" "value" "[B" ∈ jWS) (g : jG E M (pc + 3) L ((3, (q.2 : Int)) :: st) h r h') : jG E M pc L ((3, (q.1 : Int)) :: st) h r h' := by
  refine jG.hp g (fun _ oS oH => ⟨jokS_cons (by trivial) (jokS_tl oS), oH⟩) (fun hF hl oS oH hP hS kk => ?_)
  exact vk_getf hF.1 hF.2.1 (hF.2.2.2.2.2.2.2.1.2.2.2.1 q hq).2.2 hS hF.2.2.2.2.1 (hF.2.2.2.2.2.1 _ hw) (fun _ z => z) hd (kk _ _ hP hS)
/-! contracts -/
def jPc (E : jE) (args : List jV) (h : jH) : Array Value → State → Prop := va_Pc (args.map (tv E)) (fun U => jokS args ∧ jHok h ∧ va_P (jeD E) jcl (jwd E h) U.heap ∧ va_K (jeD E) jcl (jtys E) U ∧ jX E (jAE E) U U.heap ∧ jDi E)
def jQc (E : jE) (r : Option jV) (h' : jH) : Array Value → State → Outcome → State → Prop := fun _ st oc t => oc = .returned (r.map (tv E)) ∧ jokS r.toList ∧ jHok h' ∧ va_P (jeD E) jcl (jwd E h') t.heap ∧ va_F (jAE E) st t
def jC (E : jE) (M : jM) (args : List jV) (h : jH) (r : Option jV) (h' : jH) : Prop := Met (jel E) (jy M) (jws M) (jrm M) (jPc E args h) (jQc E r h') 0 0 (jAE E)
def jargs : Nat → List jV → List (Nat × jV)
  | _, [] => []
  | i, v :: l => (i, v) :: jargs (if v.1 = 1 then i + 2 else i + 1) l
theorem jargs_map : ∀ (args : List jV) (i : Nat), (jargs i args).map (jtp E) = lv_args i (args.map (tv E)) := by
  intro args
  induction args with
  | nil => intro i; rfl
  | cons v l ih =>
    intro i
    have hc : (tv E v).category = if v.1 = 1 then 2 else 1 := by
      by_cases hv : v.1 = 1
      · rw [if_pos hv]
        have h2 := jcat (E := E) v
        rw [hv] at h2
        simpa using h2
      · rw [if_neg hv]
        exact jcat1 hv
    show (i, tv E v) :: (jargs (if v.1 = 1 then i + 2 else i + 1) l).map (jtp E) = (i, tv E v) :: lv_args (if (tv E v).category = 2 then i + 2 else i + 1) (l.map (tv E))
    rw [ih, hc]
    by_cases hv : v.1 = 1
    · rw [if_pos hv, if_pos hv, if_pos rfl]
    · rw [if_neg hv, if_neg hv, if_neg (by decide)]
theorem jargs_ok : ∀ {args : List jV} {i : Nat}, jokS args → jokL (jargs i args) := by
  intro args
  induction args with
  | nil => intro i _ q hq; cases hq
  | cons v l ih =>
    intro i o q hq
    rcases List.mem_cons.mp hq with rfl | hq
    · exact jokS_hd o
    · exact ih (jokS_tl o) q hq
theorem jC.of {args : List jV} (hpl : plainName (jy M).cls = true) (hlen : (lg_sl (args.map (tv E))).length ≤ jL M) (g : jG E M 0 (jargs 0 args) [] h r h') : jC E M args h r h' := by
  refine Met.ofW (cc := jb M) (maxL := jL M) (ret := jr M) hpl rfl ?_
  intro p e s m args' below meth c s₁ B hml hv
  obtain ⟨rfl, oS, oH, hP, hK, hX, hDi⟩ := hv
  have hts := atoms_spec (ws := jws M) B.pre
  have hl := lv_entry (args.map (tv E)) (n := jL M) hlen
  rw [lg_entry_eq]
  generalize (lg_sl (args.map (tv E)) ++ List.replicate (jL M - (lg_sl (args.map (tv E))).length) Slot.unset).toArray = ls at hl ⊢
  refine g (jAE E) p e (headSpec (jws M) (jrm M)).room s m _ below meth c 0 0 (MQ below (jQc E r h') _ s 0 0 (jAE E)) ⟨B.exec, B.bytes, hml, B.notSynchronized, findClass_of_methodNamed B.named, fun w hw => hts w (List.mem_cons_of_mem _ hw), hK, hX, ⟨hDi, fun i hi => ⟨i, hi, rfl⟩⟩, Nat.le_refl _, Nat.le_refl _, Nat.zero_le _, Nat.zero_le _⟩ ?_ s.heap [] ls (jargs_ok oS) (fun _ h => by cases h) oH (by rw [jargs_map]; exact hl) hP va_S.rf
  intro pc' ls' H' locs' i hd hro oR oH' hP' hS'
  have hr0 : meth.sig.returnType = jr M := B.returns
  have hlk := B.notSynchronized
  have hfree : ∀ q ∈ locs', jAE E q.base := hS'.2.2
  have hq : ∀ (v : Option Value) (t : State), v = r.map (tv E) → t.heap = H' → jQc E r h' (args.map (tv E)).toArray s (.returned v) t := fun v t hv ht => ⟨by rw [hv], oR, oH', by rw [ht]; exact hP', hS'.F ht⟩
  unfold jro at hro
  split at hro
  · rename_i x hty
    exact W.iret B.exec B.bytes (hr0.trans hty) (fun t ht _ => hq _ t rfl ht) hfree hd hlk
  · rename_i x hty
    refine W.zret (ty := .boolean) B.exec B.bytes (hr0.trans hty) ?_ (fun t ht _ => hq _ t rfl ht) hfree hd hlk
    rcases hro with rfl | rfl <;> decide
  · rename_i x hty
    refine W.zret (ty := .char) B.exec B.bytes (hr0.trans hty) ?_ (fun t ht _ => hq _ t rfl ht) hfree hd hlk
    have e : Int32.ofInt x = nI x.toNat := by
      apply Int32.toInt_inj.mp
      rw [jn_toInt, w32_id (by omega) (by omega), nI_toInt (by omega)]
      omega
    rw [e]
    exact (pk_charN (q := x.toNat) (by omega)).1
  · rename_i x hty
    exact W.lret B.exec B.bytes (hr0.trans hty) (fun t ht _ => hq _ t rfl ht) hfree hd hlk
  · rename_i hty
    exact W.vret B.exec B.bytes (hr0.trans hty) (fun t ht _ => hq _ t rfl ht) hfree hd hlk
  · exact hro.elim
/-- a method's own words -/
def jokM (M : jM) : Prop := plainName (jy M).cls = true ∧ Cond.code (jy M) (jb M) (jL M) (jr M) ∈ jWS ∧ Cond.initialized (jy M).cls ∈ jWS ∧ ((jy M).cls ≠ "java/lang/invoke/MethodHandle" ∧ (jy M).cls ≠ "java/lang/invoke/VarHandle" ∧ (parseMethodDescriptor (jy M).desc).map (fun d => d.parameters.length) = some (jn M)) ∧ (if jk M = 0 then Cond.static (jy M) ∈ jWS else Cond.instanceMethod (jy M) ∈ jWS ∧ Cond.selects (jy M).cls (jy M) (jy M) ∈ jWS)
theorem jokM.good {M1 : jM} (hM : jokM M1) : GoodIn jWS (jws M1) := by
  intro w hw
  rcases List.mem_cons.mp hw with rfl | hw
  · exact ⟨hM.2.1, jWS_good hM.2.1⟩
  · exact ⟨hw, jWS_good hw⟩
theorem jcats (st : List jV) : ((st.map (tv E)).map fun v => v.category).sum = (st.map fun v => if v.1 = 1 then 2 else 1).sum := by
  congr 1
  rw [List.map_map]
  apply List.map_congr_left
  intro v _
  show (tv E v).category = _
  by_cases hv : v.1 = 1
  · rw [if_pos hv]
    have h2 := jcat (E := E) v
    rw [hv] at h2
    simpa using h2
  · rw [if_neg hv]
    exact jcat1 hv
/-- behind a call -/
theorem jG.behind {M1 : jM} {args1 rest : List jV} {r1 : Option jV} {A : Nat → Prop} {p : Program} {e : Env} {R : Room} {s : State} {m : MethodId} {args : Array Value} {below : List Frame} {meth : Method} {c : Code} {H : Heap} {locs : List Loc} {cells slots : Nat} {Q : State → Prop} {ls : Array Slot} {st0 : List Value} {a1 : Array Value} (hA : jA E A)
    (hr : va_Run p (jel E) e R s m args below meth c H locs cells slots 0 0 (F0 m pc ls st0) (rest.map (tv E)) (jQc E r1 h1 a1) (jAE E)) (hS : va_S A s.heap H locs)
    (k : ∀ (H1 : Heap) (locs1 : List Loc), jokS r1.toList → jHok h1 → va_P (jeD E) jcl (jwd E h1) H1 → va_S A s.heap H1 locs1 → W p (jel E) e R s m args below meth c H1 locs1 cells slots Q (F0 m (pc + 3) ls ((r1.toList ++ rest).map (tv E)))) : W p (jel E) e R s m args below meth c H locs cells slots Q (F0 m pc ls st0) := by
  intro T hT X
  obtain ⟨v, st₀, t, T', L', h0, X', hL, e1, e2, ⟨hv, o1, o2, hP1, hz, hkp⟩, stp⟩ := hr T hT X
  have hAA : ∀ q, jAE E q → A q := by
    rintro q ⟨i, hi, rfl⟩
    exact hA.2 i hi
  rw [h0] at hz hkp
  obtain ⟨t2, b1, b2⟩ := k T'.heap (locs ++ L') o1 o2 (by rw [e1]; exact hP1)
    ⟨Nat.le_trans hS.1 (by rw [e1]; exact hz), fun q g1 g2 => by rw [e1, hkp q (Nat.lt_of_lt_of_le g1 hS.1) (fun z => g2 (hAA q z))]; exact hS.2.1 q g1 g2, fun q hq => by
      rcases List.mem_append.mp hq with g | g
      · exact hS.2.2 q g
      · exact hAA _ (hL q g)⟩ T' rfl X'
  refine ⟨t2, stp t2 ?_, b2⟩
  have hv' : v = r1.map (tv E) := Outcome.returned.inj hv
  have e3 : v.toList ++ rest.map (tv E) = (r1.toList ++ rest).map (tv E) := by
    rw [hv', List.map_append]
    cases r1 <;> rfl
  rw [e3]
  exact b1
theorem jPre {args1 : List jV} {A : Nat → Prop} {s : State} {H : Heap} {locs : List Loc} (hK : va_K (jeD E) jcl (jtys E) s) (hX : jX E A s s.heap) (hA : jA E A) (oS : jokS args1) (oH : jHok h) (hP : va_P (jeD E) jcl (jwd E h) H) (hS : va_S A s.heap H locs) : FrameBlind (jPc E args1 h) ∧ ∀ U : State, U.heap = H → s.WarmedH U.vm → jPc E args1 h (args1.map (tv E)).toArray U := by
  refine ⟨fun a U g mk q => ?_, fun U hU hW => ?_⟩
  · obtain ⟨q0, q1, q2, q3, q4, q5, q6⟩ := q
    exact ⟨q0, q1, q2, q3, va_K.moved (u := U) (U := U.calling g mk a) (Vm.Alike.refl U.vm) q4, jX.same (u := U) (U := U.calling g mk a) rfl q5, q6⟩
  · refine ⟨rfl, oS, oH, by rw [hU]; exact hP, va_K.moved hW.alike hK, ?_, hA.1⟩
    rw [hU]
    exact hX.move hW (fun q g1 g2 => hS.2.1 q g1 g2) (by rintro q ⟨i, hi, rfl⟩; exact hA.2 i hi)
theorem jG.callS {M1 : jM} {ix : Nat} {r1 : Option jV} (args1 rest : List jV) (hd : decode (jb M) pc = .ok (.invokestatic ix, 3)) (hM : jokM M1) (hk : jk M1 = 0) (hw : Cond.methodLink (jy M).cls ix (jy M1) ∈ jWS) (hfr : jf M1 + 1 ≤ jf M) (hlo : 8 + (jL M1 + 11) + jlr M1 ≤ jlr M) (hn : args1.length = jn M1) (hrs : (rest.map fun v => if v.1 = 1 then 2 else 1).sum ≤ 8) (hC : jC E M1 args1 h r1 h1) (g : jG E M (pc + 3) L (r1.toList ++ rest) h1 r h') : jG E M pc L (args1.reverse ++ rest) h r h' := by
  intro A p e R s m args below meth c cells slots Q hF hend H locs ls oL oS oH hl hP hS
  have hF0 := hF
  obtain ⟨hx, hb, hml, hlk, hown, hts, hK, hX, hA, hf1, hl1, hc1, hs1⟩ := hF
  have oA : jokS args1 := fun v hv => oS v (List.mem_append_left _ (List.mem_reverse.mpr hv))
  have oR : jokS rest := fun v hv => oS v (List.mem_append_right _ hv)
  have hst := hM.2.2.2.2
  rw [if_pos hk] at hst
  have cw := callB_of (R := R) (rm := jrm M1) (mc := 0) (ms := 0) (index := ix) (jn M1) hts hM.good rfl rfl rfl (hts _ hM.2.2.1) (hts _ hw) hM.2.2.2.1 ⟨Nat.le_trans hfr hf1, Nat.le_trans hlo hl1⟩
  refine jG.behind (M1 := M1) (args1 := args1) hA (va_runS (As := args1.map (tv E)) (rest := rest.map (tv E)) ⟨hx, hb, hml, hown, hts⟩ hC ⟨cw, hts _ hst⟩ (jPre hK hX hA oA oH hP hS) rfl (by rw [List.length_map]; exact hn) hl.1 (by show List.map (tv E) (args1.reverse ++ rest) = _; rw [List.map_append, List.map_reverse]) (lv_room (by rw [jcats]; exact hrs)) hd ⟨hc1, hs1⟩) hS ?_
  intro H1 locs1 o1 o2 hP1 hS1
  exact g A p e R s m args below meth c cells slots Q hF0 hend H1 locs1 ls oL (jokS_app o1 oR) o2 hl hP1 hS1
theorem jG.callSN {M1 : jM} {ix : Nat} {r1 : Option jV} (args1 rest : List jV) (hd : decode (jb M) pc = .ok (.invokestatic ix, 3)) (hM : jokM M1) (hk : jk M1 = 0) (hw : Cond.methodLinkNest (jy M).cls ix (jy M1) jhost ∈ jNW) (hfr : jf M1 + 1 ≤ jf M) (hlo : 8 + (jL M1 + 11) + jlr M1 ≤ jlr M) (hn : args1.length = jn M1) (hrs : (rest.map fun v => if v.1 = 1 then 2 else 1).sum ≤ 8) (hC : jC E M1 args1 h r1 h1) (g : jG E M (pc + 3) L (r1.toList ++ rest) h1 r h') : jG E M pc L (args1.reverse ++ rest) h r h' := by
  intro A p e R s m args below meth c cells slots Q hF hend H locs ls oL oS oH hl hP hS
  have hF0 := hF
  obtain ⟨hx, hb, hml, hlk, hown, hts, hK, hX, hA, hf1, hl1, hc1, hs1⟩ := hF
  have oA : jokS args1 := fun v hv => oS v (List.mem_append_left _ (List.mem_reverse.mpr hv))
  have oR : jokS rest := fun v hv => oS v (List.mem_append_right _ hv)
  have hst := hM.2.2.2.2
  rw [if_pos hk] at hst
  have cw := va_cnB (R := R) (rm := jrm M1) (mc := 0) (ms := 0) (index := ix) (jn M1) hts hM.good rfl rfl rfl (hX.2.2.2.2 _ hw) (hts _ hM.2.2.1) hM.2.2.2.1 ⟨Nat.le_trans hfr hf1, Nat.le_trans hlo hl1⟩
  refine jG.behind (M1 := M1) (args1 := args1) hA (va_runSN (As := args1.map (tv E)) (rest := rest.map (tv E)) ⟨hx, hb, hml, hown, hts⟩ hC ⟨cw, hts _ hst, trivial⟩ (jPre hK hX hA oA oH hP hS) rfl (by rw [List.length_map]; exact hn) hl.1 (by show List.map (tv E) (args1.reverse ++ rest) = _; rw [List.map_append, List.map_reverse]) (lv_room (by rw [jcats]; exact hrs)) hd ⟨hc1, hs1⟩) hS ?_
  intro H1 locs1 o1 o2 hP1 hS1
  exact g A p e R s m args below meth c cells slots Q hF0 hend H1 locs1 ls oL (jokS_app o1 oR) o2 hl hP1 hS1
/-- the receiver: a cell of the world, or a String constant -/
def jrc (C : String) (v : jV) : Prop := (v.1 = 2 ∧ ∃ (ci : Nat) (T : u_T) (N : Nat), jkd.getD v.2.toNat (9, 0) = (0, ci) ∧ jcl[ci]? = some (C, T, N)) ∨ (v.1 = 3 ∧ C = "java/lang/String" ∧ ∃ q ∈ jso, q.1 = v.2.toNat)
theorem jrc.at {C : String} {v : jV} (hv : jrc C v) {A : Nat → Prop} {s : State} {H : Heap} {locs : List Loc} (hK : va_K (jeD E) jcl (jtys E) s) (hX : jX E A s s.heap) (hP : va_P (jeD E) jcl (jwd E h) H) (hS : va_S A s.heap H locs) : ∃ b : Nat, tv E v = .ref b ∧ ∃ cellB : Cell, H[b]? = some cellB ∧ cellB.vm.isStatics = false ∧ s.vm.findClass C = some cellB.cls := by
  obtain ⟨t, x⟩ := v
  rcases hv with ⟨h0, ci, T, N, h1, h2⟩ | ⟨h0, h1, q, hq, h2⟩
  · have ht : t = 2 := h0
    subst ht
    have hx := jwd_at (E := E) (h := h) (jkd_lt h1 (by decide))
    rw [jent_o _ h1] at hx
    exact ⟨_, rfl, va_recv hK hP h2 hx⟩
  · have ht : t = 3 := h0
    subst ht
    subst h1
    obtain ⟨cell, g1, g2, g3, -⟩ := (hX.2.2.2.1 q hq).1.kept hS.2.1
    have h3 : q.1 = x.toNat := h2
    rw [h3] at g1
    exact ⟨_, rfl, cell, g1, g2, g3⟩
theorem jG.callV {M1 : jM} {ix : Nat} {r1 : Option jV} (v1 : jV) (args1 rest : List jV) (hd : decode (jb M) pc = .ok (.invokevirtual ix, 3)) (hM : jokM M1) (hk : jk M1 = 1) (hv : jrc (jy M1).cls v1) (hw : Cond.methodLink (jy M).cls ix (jy M1) ∈ jWS) (hfr : jf M1 + 1 ≤ jf M) (hlo : 8 + (jL M1 + 11) + jlr M1 ≤ jlr M) (hn : args1.length = jn M1) (hrs : (rest.map fun v => if v.1 = 1 then 2 else 1).sum ≤ 8) (hC : jC E M1 (v1 :: args1) h r1 h1) (g : jG E M (pc + 3) L (r1.toList ++ rest) h1 r h') : jG E M pc L (args1.reverse ++ v1 :: rest) h r h' := by
  intro A p e R s m args below meth c cells slots Q hF hend H locs ls oL oS oH hl hP hS
  have hF0 := hF
  obtain ⟨hx, hb, hml, hlk, hown, hts, hK, hX, hA, hf1, hl1, hc1, hs1⟩ := hF
  have oA : jokS (v1 :: args1) := by
    intro v hv
    rcases List.mem_cons.mp hv with rfl | hv
    · exact oS _ (List.mem_append_right _ List.mem_cons_self)
    · exact oS v (List.mem_append_left _ (List.mem_reverse.mpr hv))
  have oR : jokS rest := fun v hv => oS v (List.mem_append_right _ (List.mem_cons_of_mem _ hv))
  have hst := hM.2.2.2.2
  rw [if_neg (by rw [hk]; decide)] at hst
  obtain ⟨b, hb1, hcell⟩ := hv.at hK hX hP hS
  obtain ⟨hp1, hp2⟩ := jPre (args1 := v1 :: args1) hK hX hA oA oH hP hS
  rw [List.map_cons, hb1] at hp2
  have cw := callB_of (R := R) (rm := jrm M1) (mc := 0) (ms := 0) (index := ix) (jn M1) hts hM.good rfl rfl rfl (hts _ hM.2.2.1) (hts _ hw) hM.2.2.2.1 ⟨Nat.le_trans hfr hf1, Nat.le_trans hlo hl1⟩
  refine jG.behind (M1 := M1) (args1 := args1) hA (va_runV (C := (jy M1).cls) (b := b) (As := args1.map (tv E)) (rest := rest.map (tv E)) ⟨hx, hb, hml, hown, hts⟩ hC ⟨cw, hts _ hst.1, hts _ hst.2⟩ ⟨hp1, hcell, hp2⟩ rfl (by rw [List.length_map]; exact hn) hl.1 (by show List.map (tv E) (args1.reverse ++ v1 :: rest) = _; rw [List.map_append, List.map_reverse, List.map_cons, hb1]) (lv_room (by rw [jcats]; exact hrs)) hd ⟨hc1, hs1⟩) hS ?_
  intro H1 locs1 o1 o2 hP1 hS1
  exact g A p e R s m args below meth c cells slots Q hF0 hend H1 locs1 ls oL (jokS_app o1 oR) o2 hl hP1 hS1
theorem jG.callVN {M1 : jM} {ix : Nat} {r1 : Option jV} (v1 : jV) (args1 rest : List jV) (hd : decode (jb M) pc = .ok (.invokevirtual ix, 3)) (hM : jokM M1) (hk : jk M1 = 1) (hv : jrc (jy M1).cls v1) (hw : Cond.methodLinkNest (jy M).cls ix (jy M1) jhost ∈ jNW) (hfr : jf M1 + 1 ≤ jf M) (hlo : 8 + (jL M1 + 11) + jlr M1 ≤ jlr M) (hn : args1.length = jn M1) (hrs : (rest.map fun v => if v.1 = 1 then 2 else 1).sum ≤ 8) (hC : jC E M1 (v1 :: args1) h r1 h1) (g : jG E M (pc + 3) L (r1.toList ++ rest) h1 r h') : jG E M pc L (args1.reverse ++ v1 :: rest) h r h' := by
  intro A p e R s m args below meth c cells slots Q hF hend H locs ls oL oS oH hl hP hS
  have hF0 := hF
  obtain ⟨hx, hb, hml, hlk, hown, hts, hK, hX, hA, hf1, hl1, hc1, hs1⟩ := hF
  have oA : jokS (v1 :: args1) := by
    intro v hv
    rcases List.mem_cons.mp hv with rfl | hv
    · exact oS _ (List.mem_append_right _ List.mem_cons_self)
    · exact oS v (List.mem_append_left _ (List.mem_reverse.mpr hv))
  have oR : jokS rest := fun v hv => oS v (List.mem_append_right _ (List.mem_cons_of_mem _ hv))
  have hst := hM.2.2.2.2
  rw [if_neg (by rw [hk]; decide)] at hst
  obtain ⟨b, hb1, hcell⟩ := hv.at hK hX hP hS
  obtain ⟨hp1, hp2⟩ := jPre (args1 := v1 :: args1) hK hX hA oA oH hP hS
  rw [List.map_cons, hb1] at hp2
  have cw := va_cnB (R := R) (rm := jrm M1) (mc := 0) (ms := 0) (index := ix) (jn M1) hts hM.good rfl rfl rfl (hX.2.2.2.2 _ hw) (hts _ hM.2.2.1) hM.2.2.2.1 ⟨Nat.le_trans hfr hf1, Nat.le_trans hlo hl1⟩
  refine jG.behind (M1 := M1) (args1 := args1) hA (va_runVN (C := (jy M1).cls) (b := b) (As := args1.map (tv E)) (rest := rest.map (tv E)) ⟨hx, hb, hml, hown, hts⟩ hC ⟨cw, hts _ hst.1, hts _ hst.2⟩ ⟨hp1, hcell, hp2⟩ rfl (by rw [List.length_map]; exact hn) hl.1 (by show List.map (tv E) (args1.reverse ++ v1 :: rest) = _; rw [List.map_append, List.map_reverse, List.map_cons, hb1]) (lv_room (by rw [jcats]; exact hrs)) hd ⟨hc1, hs1⟩) hS ?_
  intro H1 locs1 o1 o2 hP1 hS1
  exact g A p e R s m args below meth c cells slots Q hF0 hend H1 locs1 ls oL (jokS_app o1 oR) o2 hl hP1 hS1
end JG
end
section
section JX
variable {E : jE} {M : jM} {pc pc1 : Nat} {L L1 : List (Nat × jV)} {st st1 : List jV} {h h1 : jH} {r : Option jV} {h' : jH}
theorem jG.ldcw {ix : Nat} {n : Int} (hd : decode (jb M) pc = .ok (.ldc_w ix, 3)) (hw : Cond.constant (jy M).cls ix (Int32.ofInt n) ∈ jWS) (hn : ok32 n) (g : jG E M (pc + 3) L ((0, n) :: st) h r h') : jG E M pc L st h r h' :=
  jG.sk g (fun _ o => jokS_cons hn o) (fun hx hb _ _ _ ho hts k => lv_ldcw hx hb ho (hts _ hw) hd k)
/-- words by their places -/
theorem jws_by {ws : List Cond} (ps : List Nat) (h : (ws.zip ps).all (fun q => jwat q.2 q.1) && decide (ws.length = ps.length) = true) : ∀ w ∈ ws, w ∈ jWS := by
  simp only [Bool.and_eq_true, decide_eq_true_eq] at h
  intro w hw
  obtain ⟨i, hi⟩ := List.getElem?_of_mem hw
  have hl : i < ps.length := by rw [← h.2]; exact (List.getElem?_eq_some_iff.mp hi).1
  have hz : (ws.zip ps)[i]? = some (w, ps[i]) := by
    rw [List.getElem?_zip_eq_some]
    exact ⟨hi, List.getElem?_eq_getElem hl⟩
  exact jwat_in (List.all_eq_true.mp h.1 _ (List.mem_of_getElem? hz))
def jpick (L : List (Nat × jV)) (ks : List Nat) : List (Nat × jV) := ks.filterMap (fun k => L[k]?)
theorem jG.subp (ks : List Nat) (hs : jpick L ks = L1) (g : jG E M pc L1 st h r h') : jG E M pc L st h r h' := by
  refine jG.sub g (fun q hq => ?_)
  rw [← hs] at hq
  obtain ⟨k, -, hk⟩ := List.mem_filterMap.mp hq
  exact List.mem_of_getElem? hk
def jputb (t : Nat) (v : jV) : Bool := match t with
  | 0 => v.1 == 0
  | 1 => v.1 == 1
  | 3 => v.1 == 0 && (v.2 == 0 || v.2 == 1)
  | _ => false
theorem jputb_ok {t : Nat} {v : jV} (h : jputb t v = true) : jput t v := by
  match t, h with
  | 0, h => simpa [jputb, jput] using h
  | 1, h => simpa [jputb, jput] using h
  | 2, h => cases h
  | 3, h => simpa [jputb, jput] using h
  | _ + 4, h => cases h
def jgd {α : Type} (c : Prop) [Decidable c] (x : Option α) : Option α := if c then x else none
theorem jgd_some {α : Type} {c : Prop} [Decidable c] {x : Option α} {v : α} (h : jgd c x = some v) : c ∧ x = some v := by
  unfold jgd at h
  by_cases hc : c
  · rw [if_pos hc] at h; exact ⟨hc, h⟩
  · rw [if_neg hc] at h; cases h
theorem jgd_pos {α : Type} {c : Prop} [Decidable c] {x : Option α} (hc : c) : jgd c x = x := if_pos hc
/-! the classes of the world: their words -/
theorem jcw0 : ∀ w ∈ u_ws "ChessLedger" jT0 10, w ∈ jWS := jws_by [247, 249, 251, 253, 255, 257, 259, 261, 263, 265] (by decide +kernel)
theorem jco0 : jclOk 0 "ChessLedger" jT0 10 := ⟨jcw0, by decide, by decide +kernel, by
  intro k hk
  match k, hk with
  | 0, _ => exact ⟨.object "ChessLedger$Game", by decide +kernel, by trivial⟩
  | 1, _ => exact ⟨.object "ChessLedger$Board", by decide +kernel, by trivial⟩
  | 2, _ => exact ⟨.object "ChessLedger$Past", by decide +kernel, by trivial⟩
  | 3, _ => exact ⟨.object "ChessLedger$MoveTable", by decide +kernel, by trivial⟩
  | 4, _ => exact ⟨.object "ChessLedger$MoveTable", by decide +kernel, by trivial⟩
  | 5, _ => exact ⟨.object "ChessLedger$Reader", by decide +kernel, by trivial⟩
  | 6, _ => exact ⟨.object "ChessLedger$Text", by decide +kernel, by trivial⟩
  | 7, _ => exact ⟨.object "ChessLedger$Board", by decide +kernel, by trivial⟩
  | 8, _ => exact ⟨.object "ChessLedger$Text", by decide +kernel, by trivial⟩
  | 9, _ => exact ⟨.boolean, by decide +kernel, by rfl⟩
  | k + 10, h => omega⟩
theorem jcw1 : ∀ w ∈ u_ws "ChessLedger$Board" jT1 5, w ∈ jWS := jws_by [137, 139, 141, 143, 145] (by decide +kernel)
theorem jco1 : jclOk 1 "ChessLedger$Board" jT1 5 := ⟨jcw1, by decide, by decide +kernel, by
  intro k hk
  match k, hk with
  | 0, _ => exact ⟨.array .int, by decide +kernel, by trivial⟩
  | 1, _ => exact ⟨.int, by decide +kernel, by rfl⟩
  | 2, _ => exact ⟨.int, by decide +kernel, by rfl⟩
  | 3, _ => exact ⟨.int, by decide +kernel, by rfl⟩
  | 4, _ => exact ⟨.int, by decide +kernel, by rfl⟩
  | k + 5, h => omega⟩
theorem jcw2 : ∀ w ∈ u_ws "ChessLedger$Game" jT2 7, w ∈ jWS := jws_by [158, 160, 162, 164, 166, 168, 170] (by decide +kernel)
theorem jco2 : jclOk 2 "ChessLedger$Game" jT2 7 := ⟨jcw2, by decide, by decide +kernel, by
  intro k hk
  match k, hk with
  | 0, _ => exact ⟨.object "ChessLedger$Board", by decide +kernel, by trivial⟩
  | 1, _ => exact ⟨.array .int, by decide +kernel, by trivial⟩
  | 2, _ => exact ⟨.array .int, by decide +kernel, by trivial⟩
  | 3, _ => exact ⟨.array .int, by decide +kernel, by trivial⟩
  | 4, _ => exact ⟨.array .int, by decide +kernel, by trivial⟩
  | 5, _ => exact ⟨.array .int, by decide +kernel, by trivial⟩
  | 6, _ => exact ⟨.int, by decide +kernel, by rfl⟩
  | k + 7, h => omega⟩
theorem jcw3 : ∀ w ∈ u_ws "ChessLedger$MoveTable" jT3 2, w ∈ jWS := jws_by [192, 194] (by decide +kernel)
theorem jco3 : jclOk 3 "ChessLedger$MoveTable" jT3 2 := ⟨jcw3, by decide, by decide +kernel, by
  intro k hk
  match k, hk with
  | 0, _ => exact ⟨.array .long, by decide +kernel, by trivial⟩
  | 1, _ => exact ⟨.array .long, by decide +kernel, by trivial⟩
  | k + 2, h => omega⟩
theorem jcw4 : ∀ w ∈ u_ws "ChessLedger$Past" jT4 1, w ∈ jWS := jws_by [180] (by decide +kernel)
theorem jco4 : jclOk 4 "ChessLedger$Past" jT4 1 := ⟨jcw4, by decide, by decide +kernel, by
  intro k hk
  match k, hk with
  | 0, _ => exact ⟨.array .long, by decide +kernel, by trivial⟩
  | k + 1, h => omega⟩
theorem jcw5 : ∀ w ∈ u_ws "ChessLedger$Reader" jT5 4, w ∈ jWS := jws_by [226, 228, 230, 232] (by decide +kernel)
theorem jco5 : jclOk 5 "ChessLedger$Reader" jT5 4 := ⟨jcw5, by decide, by decide +kernel, by
  intro k hk
  match k, hk with
  | 0, _ => exact ⟨.object "ChessLedger$Text", by decide +kernel, by trivial⟩
  | 1, _ => exact ⟨.object "ChessLedger$Board", by decide +kernel, by trivial⟩
  | 2, _ => exact ⟨.int, by decide +kernel, by rfl⟩
  | 3, _ => exact ⟨.int, by decide +kernel, by rfl⟩
  | k + 4, h => omega⟩
theorem jcw6 : ∀ w ∈ u_ws "ChessLedger$Text" jT6 2, w ∈ jWS := jws_by [212, 214] (by decide +kernel)
theorem jco6 : jclOk 6 "ChessLedger$Text" jT6 2 := ⟨jcw6, by decide, by decide +kernel, by
  intro k hk
  match k, hk with
  | 0, _ => exact ⟨.array .char, by decide +kernel, by trivial⟩
  | 1, _ => exact ⟨.int, by decide +kernel, by rfl⟩
  | k + 2, h => omega⟩
theorem jcw7 : ∀ w ∈ u_ws "ChessLedgerModel" jT7 15, w ∈ jWS := jws_by [801, 803, 805, 807, 809, 811, 813, 815, 817, 819, 821, 823, 825, 827, 829] (by decide +kernel)
theorem jco7 : jclOk 7 "ChessLedgerModel" jT7 15 := ⟨jcw7, by decide, by decide +kernel, by
  intro k hk
  match k, hk with
  | 0, _ => exact ⟨.int, by decide +kernel, by rfl⟩
  | 1, _ => exact ⟨.array .byte, by decide +kernel, by trivial⟩
  | 2, _ => exact ⟨.array .int, by decide +kernel, by trivial⟩
  | 3, _ => exact ⟨.array .int, by decide +kernel, by trivial⟩
  | 4, _ => exact ⟨.array .int, by decide +kernel, by trivial⟩
  | 5, _ => exact ⟨.array .int, by decide +kernel, by trivial⟩
  | 6, _ => exact ⟨.array .long, by decide +kernel, by trivial⟩
  | 7, _ => exact ⟨.int, by decide +kernel, by rfl⟩
  | 8, _ => exact ⟨.boolean, by decide +kernel, by rfl⟩
  | 9, _ => exact ⟨.array .int, by decide +kernel, by trivial⟩
  | 10, _ => exact ⟨.int, by decide +kernel, by rfl⟩
  | 11, _ => exact ⟨.int, by decide +kernel, by rfl⟩
  | 12, _ => exact ⟨.int, by decide +kernel, by rfl⟩
  | 13, _ => exact ⟨.array .int, by decide +kernel, by trivial⟩
  | 14, _ => exact ⟨.int, by decide +kernel, by rfl⟩
  | k + 15, h => omega⟩
theorem jcl_ok {ci : Nat} {C : String} {T : u_T} {N : Nat} (h : jcl[ci]? = some (C, T, N)) : jclOk ci C T N := by
  match ci, h with
  | 0, h => cases h; exact jco0
  | 1, h => cases h; exact jco1
  | 2, h => cases h; exact jco2
  | 3, h => cases h; exact jco3
  | 4, h => cases h; exact jco4
  | 5, h => cases h; exact jco5
  | 6, h => cases h; exact jco6
  | 7, h => cases h; exact jco7
  | k + 8, h => simp [jcl] at h
theorem jcl_all {x ci : Nat} (h : jkd.getD x (9, 0) = (0, ci)) : ∃ C T N, jcl[ci]? = some (C, T, N) := by
  have hx : x < jN := jkd_lt h (by decide)
  have hc : ci < 8 := (by decide : ∀ x, x < jN → (jkd.getD x (9, 0)).1 = 0 → (jkd.getD x (9, 0)).2 < 8) x hx (by rw [h]) |> fun z => by rw [h] at z; exact z
  match ci, hc with
  | 0, _ => exact ⟨_, _, _, rfl⟩
  | 1, _ => exact ⟨_, _, _, rfl⟩
  | 2, _ => exact ⟨_, _, _, rfl⟩
  | 3, _ => exact ⟨_, _, _, rfl⟩
  | 4, _ => exact ⟨_, _, _, rfl⟩
  | 5, _ => exact ⟨_, _, _, rfl⟩
  | 6, _ => exact ⟨_, _, _, rfl⟩
  | 7, _ => exact ⟨_, _, _, rfl⟩
  | k + 8, h => omega
theorem jst_ok : ∀ q ∈ jst, jokV q.2.2.2 := by
  intro q hq
  simp only [jst, List.mem_cons, List.not_mem_nil, or_false] at hq
  rcases hq with rfl | rfl | rfl | rfl | rfl | rfl <;> first | trivial | exact ⟨by decide, by decide⟩
theorem jxl_small {E : jE} {x : Nat} (h0 : x ≠ 0) (hx : x < jxn) : (jxl E x : Int) < 2147483648 := by
  unfold jxl
  rw [if_neg h0]
  exact (by decide : ∀ x, x < jxn → ((jxc.getD x []).length : Int) < 2147483648) x hx
/-! straight stretches: a program that runs them, and why it may -/
def jlen : Instr → Nat
  | .bipush _ => 2
  | .sipush _ => 3
  | .ldc _ => 2
  | .ldc2_w _ => 3
  | .ldc_w _ => 3
  | .iload _ => 2
  | .lload _ => 2
  | .aload _ => 2
  | .istore _ => 2
  | .lstore _ => 2
  | .astore _ => 2
  | .iinc _ _ => 3
  | .getfield _ => 3
  | .putfield _ => 3
  | .getstatic _ => 3
  | .invokestatic _ => 3
  | .invokevirtual _ => 3
  | .ifCond _ _ => 3
  | .if_icmp _ _ => 3
  | .goto _ => 3
  | .tableswitch _ _ _ _ => 0
  | .lookupswitch _ _ => 0
  | _ => 1
def jfl (ci k : Nat) : String × String × String × Bool := match jcl[ci]? with
  | some q => q.2.1 k
  | none => ("", "", "", true)
def jfn (ci : Nat) : Nat := match jcl[ci]? with
  | some q => q.2.2
  | none => 0
def jokR (M : jM) (i : Instr) (res : List Int) : Bool := match i with
  | .iconst n => decide (-2147483648 ≤ n ∧ n < 2147483648)
  | .bipush n => decide (-128 ≤ n ∧ n < 128)
  | .sipush n => decide (-32768 ≤ n ∧ n < 32768)
  | .ldc ix => (match res with
    | [0, wi, n] => jwat wi.toNat (.constant (jy M).cls ix (Int32.ofInt n)) && decide (-2147483648 ≤ n ∧ n < 2147483648)
    | [1, k] => (match jsr[k.toNat]? with
      | some q => decide (q.1 = (jy M).cls) && decide (q.2.1 = ix)
      | none => false)
    | _ => false)
  | .ldc_w ix => (match res with
    | [wi, n] => jwat wi.toNat (.constant (jy M).cls ix (Int32.ofInt n)) && decide (-2147483648 ≤ n ∧ n < 2147483648)
    | _ => false)
  | .ldc2_w ix => (match res with
    | [wi, n] => jwat wi.toNat (.constantLong (jy M).cls ix (Int64.ofInt n)) && decide (-9223372036854775808 ≤ n ∧ n < 9223372036854775808)
    | _ => false)
  | .istore_n k => decide (k.val < jL M)
  | .istore k => decide (k < jL M)
  | .astore_n k => decide (k.val < jL M)
  | .astore k => decide (k < jL M)
  | .lstore_n k => decide (k.val + 1 < jL M)
  | .lstore k => decide (k + 1 < jL M)
  | .iinc k _ => decide (k < jL M)
  | .getfield ix => (match res with
    | [ci, k, wi, 0] => decide (k.toNat < jfn ci.toNat) && jwat wi.toNat (.fieldLink (jy M).cls ix (jfl ci.toNat k.toNat).1 (jfl ci.toNat k.toNat).2.1 (jfl ci.toNat k.toNat).2.2.1)
    | [ci, k, wi, 1] => decide (k.toNat < jfn ci.toNat) && jnat wi.toNat (.fieldLinkNest (jy M).cls ix (jfl ci.toNat k.toNat).1 (jfl ci.toNat k.toNat).2.1 (jfl ci.toNat k.toNat).2.2.1 jhost)
    | [0, wi] => jwat wi.toNat (.fieldLink (jy M).cls ix "java/lang/String" "coder" "B")
    | [1, wi] => jwat wi.toNat (.fieldLink (jy M).cls ix "java/lang/String" "value" "[B")
    | _ => false)
  | .putfield ix => (match res with
    | [ci, k, wi, 0] => decide (k.toNat < jfn ci.toNat) && !(jfl ci.toNat k.toNat).2.2.2 && jwat wi.toNat (.fieldLink (jy M).cls ix (jfl ci.toNat k.toNat).1 (jfl ci.toNat k.toNat).2.1 (jfl ci.toNat k.toNat).2.2.1)
    | [ci, k, wi, 1] => decide (k.toNat < jfn ci.toNat) && !(jfl ci.toNat k.toNat).2.2.2 && jnat wi.toNat (.fieldLinkNest (jy M).cls ix (jfl ci.toNat k.toNat).1 (jfl ci.toNat k.toNat).2.1 (jfl ci.toNat k.toNat).2.2.1 jhost)
    | _ => false)
  | .getstatic ix => (match res with
    | [j, wi, 0] => (match jst[j.toNat]? with
      | some q => jwat wi.toNat (.fieldLink (jy M).cls ix q.1 q.2.1 q.2.2.1)
      | none => false)
    | [j, wi, 1] => (match jst[j.toNat]? with
      | some q => jnat wi.toNat (.fieldLinkNest (jy M).cls ix q.1 q.2.1 q.2.2.1 jhost)
      | none => false)
    | _ => false)
  | .invokestatic ix => (match res with
    | [wi, w2, w3, w4] => jwat wi.toNat (.methodLink (jy M).cls ix arraycopyName) && jwat w2.toNat (.native arraycopyName) && jwat w3.toNat (.static arraycopyName) && jwat w4.toNat (.initialized "java/lang/System")
    | [j, wi, 0] => jwat wi.toNat (.methodLink (jy M).cls ix (jyn.getD j.toNat ⟨"", "", ""⟩))
    | [j, wi, 1] => jnat wi.toNat (.methodLinkNest (jy M).cls ix (jyn.getD j.toNat ⟨"", "", ""⟩) jhost)
    | _ => false)
  | .invokevirtual ix => (match res with
    | [j, wi, 0] => jwat wi.toNat (.methodLink (jy M).cls ix (jyn.getD j.toNat ⟨"", "", ""⟩))
    | [j, wi, 1] => jnat wi.toNat (.methodLinkNest (jy M).cls ix (jyn.getD j.toNat ⟨"", "", ""⟩) jhost)
    | _ => false)
  | _ => true
def jokE (M : jM) (pc : Nat) (q : jI) : Bool := decide (decode (jb M) pc = .ok (q.1, q.2.1)) && (decide (jlen q.1 = 0) || decide (q.2.1 = jlen q.1)) && jokR M q.1 q.2.2
def jokT2 (M : jM) : Nat → List (Option jI) → Bool
  | _, [] => true
  | pc, none :: l => jokT2 M (pc + 1) l
  | pc, some q :: l => jokE M pc q && jokT2 M (pc + 1) l
theorem jokT2_at {M : jM} : ∀ {l : List (Option jI)} {pc k : Nat} {q : jI}, jokT2 M pc l = true → l[k]? = some (some q) → jokE M (pc + k) q = true := by
  intro l
  induction l with
  | nil => intro pc k q _ h; simp at h
  | cons x l ih =>
    intro pc k q hT h
    cases k with
    | zero =>
      simp at h
      subst h
      unfold jokT2 at hT
      simp only [Bool.and_eq_true] at hT
      exact hT.1
    | succ k =>
      simp at h
      have h2 : jokT2 M (pc + 1) l = true := by
        cases x with
        | none => exact hT
        | some y => unfold jokT2 at hT; simp only [Bool.and_eq_true] at hT; exact hT.2
      have h3 := ih h2 h
      rw [show pc + 1 + k = pc + (k + 1) by omega] at h3
      exact h3
theorem jokT_at {M : jM} (hT : jokT2 M 0 (jt M) = true) {pc : Nat} {i : Instr} {len : Nat} {res : List Int} (he : (jt M)[pc]? = some (some (i, len, res))) : decode (jb M) pc = .ok (i, len) ∧ (jlen i = 0 ∨ len = jlen i) ∧ jokR M i res = true := by
  have h1 := jokT2_at hT he
  rw [Nat.zero_add] at h1
  simp only [jokE, Bool.and_eq_true, Bool.or_eq_true, decide_eq_true_eq] at h1
  exact ⟨h1.1.1, h1.1.2, h1.2⟩
def jx1 (i : Instr) (res : List Int) (L : List (Nat × jV)) (st : List jV) (h : jH) : Option (List (Nat × jV) × List jV × jH) := match i with
  | .iconst n => some (L, (0, n) :: st, h)
  | .bipush n => some (L, (0, n) :: st, h)
  | .sipush n => some (L, (0, n) :: st, h)
  | .lconst n => some (L, (1, ((n : Nat) : Int)) :: st, h)
  | .ldc _ => (match res with
    | [0, _, n] => some (L, (0, n) :: st, h)
    | [1, k] => (match jsr[k.toNat]? with
      | some q => some (L, (3, (q.2.2.2 : Int)) :: st, h)
      | none => none)
    | _ => none)
  | .ldc_w _ => (match res with
    | [_, n] => some (L, (0, n) :: st, h)
    | _ => none)
  | .ldc2_w _ => (match res with
    | [_, n] => some (L, (1, n) :: st, h)
    | _ => none)
  | .iload_n k => (match jlk L k.val with
    | some (0, x) => some (L, (0, x) :: st, h)
    | _ => none)
  | .iload k => (match jlk L k with
    | some (0, x) => some (L, (0, x) :: st, h)
    | _ => none)
  | .lload_n k => (match jlk L k.val with
    | some (1, x) => some (L, (1, x) :: st, h)
    | _ => none)
  | .lload k => (match jlk L k with
    | some (1, x) => some (L, (1, x) :: st, h)
    | _ => none)
  | .aload_n k => (match jlk L k.val with
    | some (t, x) => if t = 2 ∨ t = 3 then some (L, (t, x) :: st, h) else none
    | none => none)
  | .aload k => (match jlk L k with
    | some (t, x) => if t = 2 ∨ t = 3 then some (L, (t, x) :: st, h) else none
    | none => none)
  | .istore_n k => (match st with
    | (0, x) :: s => some (jset1 L k.val (0, x), s, h)
    | _ => none)
  | .istore k => (match st with
    | (0, x) :: s => some (jset1 L k (0, x), s, h)
    | _ => none)
  | .lstore_n k => (match st with
    | (1, x) :: s => some (jset2 L k.val (1, x), s, h)
    | _ => none)
  | .lstore k => (match st with
    | (1, x) :: s => some (jset2 L k (1, x), s, h)
    | _ => none)
  | .astore_n k => (match st with
    | (t, x) :: s => if t = 2 ∨ t = 3 then some (jset1 L k.val (t, x), s, h) else none
    | _ => none)
  | .astore k => (match st with
    | (t, x) :: s => if t = 2 ∨ t = 3 then some (jset1 L k (t, x), s, h) else none
    | _ => none)
  | .iinc k n => (match jlk L k with
    | some (0, x) => some (jset1 L k (0, jadd x n), st, h)
    | _ => none)
  | .iadd => (match st with
    | (0, b) :: (0, a) :: s => some (L, (0, jadd a b) :: s, h)
    | _ => none)
  | .isub => (match st with
    | (0, b) :: (0, a) :: s => some (L, (0, jsub a b) :: s, h)
    | _ => none)
  | .imul => (match st with
    | (0, b) :: (0, a) :: s => some (L, (0, jmul a b) :: s, h)
    | _ => none)
  | .iand => (match st with
    | (0, b) :: (0, a) :: s => some (L, (0, jand a b) :: s, h)
    | _ => none)
  | .ior => (match st with
    | (0, b) :: (0, a) :: s => some (L, (0, jor a b) :: s, h)
    | _ => none)
  | .ixor => (match st with
    | (0, b) :: (0, a) :: s => some (L, (0, jxor a b) :: s, h)
    | _ => none)
  | .ishl => (match st with
    | (0, b) :: (0, a) :: s => some (L, (0, jshl a b) :: s, h)
    | _ => none)
  | .ishr => (match st with
    | (0, b) :: (0, a) :: s => some (L, (0, jshr a b) :: s, h)
    | _ => none)
  | .iushr => (match st with
    | (0, b) :: (0, a) :: s => some (L, (0, jushr a b) :: s, h)
    | _ => none)
  | .idiv => (match st with
    | (0, b) :: (0, a) :: s => if b ≠ 0 then some (L, (0, jdiv a b) :: s, h) else none
    | _ => none)
  | .irem => (match st with
    | (0, b) :: (0, a) :: s => if b ≠ 0 then some (L, (0, jrem a b) :: s, h) else none
    | _ => none)
  | .ladd => (match st with
    | (1, b) :: (1, a) :: s => some (L, (1, jladd a b) :: s, h)
    | _ => none)
  | .lsub => (match st with
    | (1, b) :: (1, a) :: s => some (L, (1, jlsub a b) :: s, h)
    | _ => none)
  | .lmul => (match st with
    | (1, b) :: (1, a) :: s => some (L, (1, jlmul a b) :: s, h)
    | _ => none)
  | .land => (match st with
    | (1, b) :: (1, a) :: s => some (L, (1, jland a b) :: s, h)
    | _ => none)
  | .lor => (match st with
    | (1, b) :: (1, a) :: s => some (L, (1, jlor a b) :: s, h)
    | _ => none)
  | .lxor => (match st with
    | (1, b) :: (1, a) :: s => some (L, (1, jlxor a b) :: s, h)
    | _ => none)
  | .lshl => (match st with
    | (0, b) :: (1, a) :: s => some (L, (1, jlshl a b) :: s, h)
    | _ => none)
  | .lshr => (match st with
    | (0, b) :: (1, a) :: s => some (L, (1, jlshr a b) :: s, h)
    | _ => none)
  | .lushr => (match st with
    | (0, b) :: (1, a) :: s => some (L, (1, jlushr a b) :: s, h)
    | _ => none)
  | .ineg => (match st with
    | (0, a) :: s => some (L, (0, jneg a) :: s, h)
    | _ => none)
  | .i2l => (match st with
    | (0, a) :: s => some (L, (1, a) :: s, h)
    | _ => none)
  | .l2i => (match st with
    | (1, a) :: s => some (L, (0, jl2i a) :: s, h)
    | _ => none)
  | .i2b => (match st with
    | (0, a) :: s => some (L, (0, ji2b a) :: s, h)
    | _ => none)
  | .i2c => (match st with
    | (0, a) :: s => some (L, (0, ji2c a) :: s, h)
    | _ => none)
  | .lcmp => (match st with
    | (1, b) :: (1, a) :: s => some (L, (0, jcmp a b) :: s, h)
    | _ => none)
  | .dup => (match st with
    | v :: s => if v.1 ≠ 1 then some (L, v :: v :: s, h) else none
    | _ => none)
  | .pop => (match st with
    | v :: s => if v.1 ≠ 1 then some (L, s, h) else none
    | _ => none)
  | .dup_x1 => (match st with
    | v :: w :: s => if v.1 ≠ 1 ∧ w.1 ≠ 1 then some (L, v :: w :: v :: s, h) else none
    | _ => none)
  | .dup2 => (match st with
    | v :: w :: s => if v.1 ≠ 1 ∧ w.1 ≠ 1 then some (L, v :: w :: v :: w :: s, h) else none
    | _ => none)
  | .getfield _ => (match res, st with
    | [ci, k, _, _], (2, x) :: s => if jkd.getD x.toNat (9, 0) = (0, ci.toNat) ∧ 0 ≤ x then some (L, jfd x.toNat k.toNat (h x.toNat k.toNat) :: s, h) else none
    | _, _ => none)
  | .putfield _ => (match res, st with
    | [ci, k, _, _], v :: (2, x) :: s => if jkd.getD x.toNat (9, 0) = (0, ci.toNat) ∧ 0 ≤ x ∧ jputb ((jft.getD ci.toNat []).getD k.toNat 2) v = true then some (L, s, jup h x.toNat k.toNat v.2) else none
    | _, _ => none)
  | .getstatic _ => (match res with
    | [j, _, _] => (match jst[j.toNat]? with
      | some q => some (L, q.2.2.2 :: st, h)
      | none => none)
    | _ => none)
  | _ => none
def jxN (T : List (Option jI)) : Nat → Nat → List (Nat × jV) → List jV → jH → Option (Nat × List (Nat × jV) × List jV × jH)
  | 0, pc, L, st, h => some (pc, L, st, h)
  | k + 1, pc, L, st, h => match T[pc]? with
    | some (some (i, len, res)) => (match jx1 i res L st h with
      | some (L1, st1, h1) => jxN T k (pc + len) L1 st1 h1
      | none => none)
    | _ => none
theorem jG.x1 {i : Instr} {len : Nat} {res : List Int} (hT : jokT2 M 0 (jt M) = true) (he : (jt M)[pc]? = some (some (i, len, res))) (hx : jx1 i res L st h = some (L1, st1, h1)) (g : jG E M (pc + len) L1 st1 h1 r h') : jG E M pc L st h r h' := by
  obtain ⟨hd, hlen, hR⟩ := jokT_at hT he
  cases i with
  | iconst n =>
    obtain rfl : len = 1 := by simpa [jlen] using hlen
    simp only [jx1, jokR, decide_eq_true_eq] at hx hR
    cases hx
    exact jG.iconst hd hR g
  | bipush n =>
    obtain rfl : len = 2 := by simpa [jlen] using hlen
    simp only [jx1, jokR, decide_eq_true_eq] at hx hR
    cases hx
    exact jG.bipush hd hR.1 hR.2 g
  | sipush n =>
    obtain rfl : len = 3 := by simpa [jlen] using hlen
    simp only [jx1, jokR, decide_eq_true_eq] at hx hR
    cases hx
    exact jG.sipush hd hR.1 hR.2 g
  | lconst n =>
    obtain rfl : len = 1 := by simpa [jlen] using hlen
    simp only [jx1] at hx
    cases hx
    exact jG.lconst hd g
  | ldc ix =>
    obtain rfl : len = 2 := by simpa [jlen] using hlen
    simp only [jx1, jokR] at hx hR
    split at hx
    · simp only [Bool.and_eq_true, decide_eq_true_eq] at hR
      cases hx
      exact jG.ldc hd (jwat_in hR.1) hR.2 g
    · split at hx
      · rename_i q hq
        simp only [hq, Bool.and_eq_true, decide_eq_true_eq] at hR
        cases hx
        exact jG.ldcs hd (List.mem_of_getElem? hq) hR.1 hR.2 g
      · cases hx
    · cases hx
  | ldc_w ix =>
    obtain rfl : len = 3 := by simpa [jlen] using hlen
    simp only [jx1, jokR] at hx hR
    split at hx
    · simp only [Bool.and_eq_true, decide_eq_true_eq] at hR
      cases hx
      exact jG.ldcw hd (jwat_in hR.1) hR.2 g
    · cases hx
  | ldc2_w ix =>
    obtain rfl : len = 3 := by simpa [jlen] using hlen
    simp only [jx1, jokR] at hx hR
    split at hx
    · simp only [Bool.and_eq_true, decide_eq_true_eq] at hR
      cases hx
      exact jG.ldc2 hd (jwat_in hR.1) hR.2 g
    · cases hx
  | iload_n k =>
    obtain rfl : len = 1 := by simpa [jlen] using hlen
    simp only [jx1] at hx
    split at hx
    · rename_i x hk
      cases hx
      exact jG.iload_n hd hk g
    · cases hx
  | iload k =>
    obtain rfl : len = 2 := by simpa [jlen] using hlen
    simp only [jx1] at hx
    split at hx
    · rename_i x hk
      cases hx
      exact jG.iload hd hk g
    · cases hx
  | lload_n k =>
    obtain rfl : len = 1 := by simpa [jlen] using hlen
    simp only [jx1] at hx
    split at hx
    · rename_i x hk
      cases hx
      exact jG.lload_n hd hk g
    · cases hx
  | lload k =>
    obtain rfl : len = 2 := by simpa [jlen] using hlen
    simp only [jx1] at hx
    split at hx
    · rename_i x hk
      cases hx
      exact jG.lload hd hk g
    · cases hx
  | aload_n k =>
    obtain rfl : len = 1 := by simpa [jlen] using hlen
    simp only [jx1] at hx
    split at hx
    · rename_i t x hk
      split at hx
      · rename_i ht
        cases hx
        exact jG.aload_n hd ht hk g
      · cases hx
    · cases hx
  | aload k =>
    obtain rfl : len = 2 := by simpa [jlen] using hlen
    simp only [jx1] at hx
    split at hx
    · rename_i t x hk
      split at hx
      · rename_i ht
        cases hx
        exact jG.aload hd ht hk g
      · cases hx
    · cases hx
  | istore_n k =>
    obtain rfl : len = 1 := by simpa [jlen] using hlen
    simp only [jx1, jokR, decide_eq_true_eq] at hx hR
    split at hx
    · cases hx
      exact jG.istore_n hd hR g
    · cases hx
  | istore k =>
    obtain rfl : len = 2 := by simpa [jlen] using hlen
    simp only [jx1, jokR, decide_eq_true_eq] at hx hR
    split at hx
    · cases hx
      exact jG.istore hd hR g
    · cases hx
  | lstore_n k =>
    obtain rfl : len = 1 := by simpa [jlen] using hlen
    simp only [jx1, jokR, decide_eq_true_eq] at hx hR
    split at hx
    · cases hx
      exact jG.lstore_n hd hR g
    · cases hx
  | lstore k =>
    obtain rfl : len = 2 := by simpa [jlen] using hlen
    simp only [jx1, jokR, decide_eq_true_eq] at hx hR
    split at hx
    · cases hx
      exact jG.lstore hd hR g
    · cases hx
  | astore_n k =>
    obtain rfl : len = 1 := by simpa [jlen] using hlen
    simp only [jx1, jokR, decide_eq_true_eq] at hx hR
    split at hx
    · split at hx
      · rename_i ht
        cases hx
        exact jG.astore_n hd ht hR g
      · cases hx
    · cases hx
  | astore k =>
    obtain rfl : len = 2 := by simpa [jlen] using hlen
    simp only [jx1, jokR, decide_eq_true_eq] at hx hR
    split at hx
    · split at hx
      · rename_i ht
        cases hx
        exact jG.astore hd ht hR g
      · cases hx
    · cases hx
  | iinc k n =>
    obtain rfl : len = 3 := by simpa [jlen] using hlen
    simp only [jx1, jokR, decide_eq_true_eq] at hx hR
    split at hx
    · rename_i x hk
      cases hx
      exact jG.iinc hd hR hk g
    · cases hx
  | iadd =>
    obtain rfl : len = 1 := by simpa [jlen] using hlen
    simp only [jx1] at hx
    split at hx
    · cases hx
      exact jG.iadd hd g
    · cases hx
  | isub =>
    obtain rfl : len = 1 := by simpa [jlen] using hlen
    simp only [jx1] at hx
    split at hx
    · cases hx
      exact jG.isub hd g
    · cases hx
  | imul =>
    obtain rfl : len = 1 := by simpa [jlen] using hlen
    simp only [jx1] at hx
    split at hx
    · cases hx
      exact jG.imul hd g
    · cases hx
  | iand =>
    obtain rfl : len = 1 := by simpa [jlen] using hlen
    simp only [jx1] at hx
    split at hx
    · cases hx
      exact jG.iand hd g
    · cases hx
  | ior =>
    obtain rfl : len = 1 := by simpa [jlen] using hlen
    simp only [jx1] at hx
    split at hx
    · cases hx
      exact jG.ior hd g
    · cases hx
  | ixor =>
    obtain rfl : len = 1 := by simpa [jlen] using hlen
    simp only [jx1] at hx
    split at hx
    · cases hx
      exact jG.ixor hd g
    · cases hx
  | ishl =>
    obtain rfl : len = 1 := by simpa [jlen] using hlen
    simp only [jx1] at hx
    split at hx
    · cases hx
      exact jG.ishl hd g
    · cases hx
  | ishr =>
    obtain rfl : len = 1 := by simpa [jlen] using hlen
    simp only [jx1] at hx
    split at hx
    · cases hx
      exact jG.ishr hd g
    · cases hx
  | iushr =>
    obtain rfl : len = 1 := by simpa [jlen] using hlen
    simp only [jx1] at hx
    split at hx
    · cases hx
      exact jG.iushr hd g
    · cases hx
  | ladd =>
    obtain rfl : len = 1 := by simpa [jlen] using hlen
    simp only [jx1] at hx
    split at hx
    · cases hx
      exact jG.ladd hd g
    · cases hx
  | lsub =>
    obtain rfl : len = 1 := by simpa [jlen] using hlen
    simp only [jx1] at hx
    split at hx
    · cases hx
      exact jG.lsub hd g
    · cases hx
  | lmul =>
    obtain rfl : len = 1 := by simpa [jlen] using hlen
    simp only [jx1] at hx
    split at hx
    · cases hx
      exact jG.lmul hd g
    · cases hx
  | land =>
    obtain rfl : len = 1 := by simpa [jlen] using hlen
    simp only [jx1] at hx
    split at hx
    · cases hx
      exact jG.land hd g
    · cases hx
  | lor =>
    obtain rfl : len = 1 := by simpa [jlen] using hlen
    simp only [jx1] at hx
    split at hx
    · cases hx
      exact jG.lor hd g
    · cases hx
  | lxor =>
    obtain rfl : len = 1 := by simpa [jlen] using hlen
    simp only [jx1] at hx
    split at hx
    · cases hx
      exact jG.lxor hd g
    · cases hx
  | lshl =>
    obtain rfl : len = 1 := by simpa [jlen] using hlen
    simp only [jx1] at hx
    split at hx
    · cases hx
      exact jG.lshl hd g
    · cases hx
  | lshr =>
    obtain rfl : len = 1 := by simpa [jlen] using hlen
    simp only [jx1] at hx
    split at hx
    · cases hx
      exact jG.lshr hd g
    · cases hx
  | lushr =>
    obtain rfl : len = 1 := by simpa [jlen] using hlen
    simp only [jx1] at hx
    split at hx
    · cases hx
      exact jG.lushr hd g
    · cases hx
  | ineg =>
    obtain rfl : len = 1 := by simpa [jlen] using hlen
    simp only [jx1] at hx
    split at hx
    · cases hx
      exact jG.ineg hd g
    · cases hx
  | i2l =>
    obtain rfl : len = 1 := by simpa [jlen] using hlen
    simp only [jx1] at hx
    split at hx
    · cases hx
      exact jG.i2l hd g
    · cases hx
  | l2i =>
    obtain rfl : len = 1 := by simpa [jlen] using hlen
    simp only [jx1] at hx
    split at hx
    · cases hx
      exact jG.l2i hd g
    · cases hx
  | i2b =>
    obtain rfl : len = 1 := by simpa [jlen] using hlen
    simp only [jx1] at hx
    split at hx
    · cases hx
      exact jG.i2b hd g
    · cases hx
  | i2c =>
    obtain rfl : len = 1 := by simpa [jlen] using hlen
    simp only [jx1] at hx
    split at hx
    · cases hx
      exact jG.i2c hd g
    · cases hx
  | lcmp =>
    obtain rfl : len = 1 := by simpa [jlen] using hlen
    simp only [jx1] at hx
    split at hx
    · cases hx
      exact jG.lcmp hd g
    · cases hx
  | idiv =>
    obtain rfl : len = 1 := by simpa [jlen] using hlen
    simp only [jx1] at hx
    split at hx
    · split at hx
      · rename_i hb
        cases hx
        exact jG.idiv hd hb g
      · cases hx
    · cases hx
  | irem =>
    obtain rfl : len = 1 := by simpa [jlen] using hlen
    simp only [jx1] at hx
    split at hx
    · split at hx
      · rename_i hb
        cases hx
        exact jG.irem hd hb g
      · cases hx
    · cases hx
  | dup =>
    obtain rfl : len = 1 := by simpa [jlen] using hlen
    simp only [jx1] at hx
    split at hx
    · split at hx
      · rename_i hb
        cases hx
        exact jG.dup hd hb g
      · cases hx
    · cases hx
  | pop =>
    obtain rfl : len = 1 := by simpa [jlen] using hlen
    simp only [jx1] at hx
    split at hx
    · split at hx
      · rename_i hb
        cases hx
        exact jG.pop hd hb g
      · cases hx
    · cases hx
  | dup_x1 =>
    obtain rfl : len = 1 := by simpa [jlen] using hlen
    simp only [jx1] at hx
    split at hx
    · split at hx
      · rename_i hb
        cases hx
        exact jG.dup_x1 hd hb.1 hb.2 g
      · cases hx
    · cases hx
  | dup2 =>
    obtain rfl : len = 1 := by simpa [jlen] using hlen
    simp only [jx1] at hx
    split at hx
    · split at hx
      · rename_i hb
        cases hx
        exact jG.dup2 hd hb.1 hb.2 g
      · cases hx
    · cases hx
  | getfield ix =>
    obtain rfl : len = 3 := by simpa [jlen] using hlen
    simp only [jx1, jokR] at hx hR
    split at hx
    · rename_i ci k wi ne x s
      split at hx
      · rename_i hc
        cases hx
        obtain ⟨C, T, N, hcl⟩ : ∃ C T N, jcl[ci.toNat]? = some (C, T, N) := jcl_all hc.1
        have e1 : jfl ci.toNat = T := by funext z; simp only [jfl, hcl]
        have e2 : jfn ci.toNat = N := by simp only [jfn, hcl]
        have ex : x = ((x.toNat : Nat) : Int) := by omega
        rw [ex]
        split at hR
        · rename_i hres
          cases hres
          simp only [Bool.and_eq_true, decide_eq_true_eq] at hR
          rw [e1, e2] at hR
          exact jG.getf hd hc.1 hcl (jcl_ok hcl) hR.1 (jwat_in hR.2) g
        · rename_i hres
          cases hres
          simp only [Bool.and_eq_true, decide_eq_true_eq] at hR
          rw [e1, e2] at hR
          exact jG.getfN hd hc.1 hcl (jcl_ok hcl) hR.1 (jnat_in hR.2) g
        · rename_i hres; cases hres
        · rename_i hres; cases hres
        · cases hR
      · cases hx
    · cases hx
  | putfield ix =>
    obtain rfl : len = 3 := by simpa [jlen] using hlen
    simp only [jx1, jokR] at hx hR
    split at hx
    · rename_i ci k wi ne v x s
      split at hx
      · rename_i hc
        cases hx
        obtain ⟨C, T, N, hcl⟩ : ∃ C T N, jcl[ci.toNat]? = some (C, T, N) := jcl_all hc.1
        have e1 : jfl ci.toNat = T := by funext z; simp only [jfl, hcl]
        have e2 : jfn ci.toNat = N := by simp only [jfn, hcl]
        have ex : x = ((x.toNat : Nat) : Int) := by omega
        rw [ex]
        have hp := jputb_ok hc.2.2
        split at hR
        · rename_i hres
          cases hres
          simp only [Bool.and_eq_true, decide_eq_true_eq, Bool.not_eq_true'] at hR
          rw [e1, e2] at hR
          exact jG.putf hd hc.1 hcl (jcl_ok hcl) hR.1.1 hR.1.2 hp (jwat_in hR.2) g
        · rename_i hres
          cases hres
          simp only [Bool.and_eq_true, decide_eq_true_eq, Bool.not_eq_true'] at hR
          rw [e1, e2] at hR
          exact jG.putfN hd hc.1 hcl (jcl_ok hcl) hR.1.1 hR.1.2 hp (jnat_in hR.2) g
        · cases hR
      · cases hx
    · cases hx
  | getstatic ix =>
    obtain rfl : len = 3 := by simpa [jlen] using hlen
    simp only [jx1, jokR] at hx hR
    split at hx
    · rename_i j wi ne
      split at hx
      · rename_i q hq
        cases hx
        have hv : jokV q.2.2.2 := jst_ok _ (List.mem_of_getElem? hq)
        split at hR
        · rename_i hres
          cases hres
          rw [hq] at hR
          exact jG.gets hd (List.mem_of_getElem? hq) (jwat_in hR) hv g
        · rename_i hres
          cases hres
          rw [hq] at hR
          exact jG.getsN hd (List.mem_of_getElem? hq) (jnat_in hR) hv g
        · cases hR
      · cases hx
    · cases hx
  | _ => simp [jx1] at hx
theorem jG.blk (hT : jokT2 M 0 (jt M) = true) : ∀ (k : Nat) {pc : Nat} {L : List (Nat × jV)} {st : List jV} {h : jH}, jxN (jt M) k pc L st h = some (pc1, L1, st1, h1) → jG E M pc1 L1 st1 h1 r h' → jG E M pc L st h r h' := by
  intro k
  induction k with
  | zero =>
    intro pc L st h hx g
    cases hx
    exact g
  | succ k ih =>
    intro pc L st h hx g
    unfold jxN at hx
    split at hx
    · rename_i i len res he
      split at hx
      · rename_i L2 st2 h2 h3
        exact jG.x1 hT he h3 (ih hx g)
      · cases hx
    · cases hx

/-! the same rules, by the table -/
theorem jT.iald {a n : Nat} {i : Int} (hT : jokT2 M 0 (jt M) = true) (he : (jt M)[pc]? = some (some (.iaload, 1, []))) (hk : jkd.getD a (9, 0) = (1, n)) (hn : (n : Int) < 2147483648) (h0 : 0 ≤ i) (h1 : i < (n : Int)) (g : jG E M (pc + 1) L ((0, h a i.toNat) :: st) h r h') : jG E M pc L ((0, i) :: (2, (a : Int)) :: st) h r h' := jG.iald (jokT_at hT he).1 hk hn h0 h1 g
theorem jT.bald {a n : Nat} {i : Int} (hT : jokT2 M 0 (jt M) = true) (he : (jt M)[pc]? = some (some (.baload, 1, []))) (hk : jkd.getD a (9, 0) = (3, n)) (hn : (n : Int) < 2147483648) (h0 : 0 ≤ i) (h1 : i < (n : Int)) (g : jG E M (pc + 1) L ((0, h a i.toNat) :: st) h r h') : jG E M pc L ((0, i) :: (2, (a : Int)) :: st) h r h' := jG.bald (jokT_at hT he).1 hk hn h0 h1 g
theorem jT.cald {a n : Nat} {i : Int} (hT : jokT2 M 0 (jt M) = true) (he : (jt M)[pc]? = some (some (.caload, 1, []))) (hk : jkd.getD a (9, 0) = (4, n)) (hn : (n : Int) < 2147483648) (h0 : 0 ≤ i) (h1 : i < (n : Int)) (g : jG E M (pc + 1) L ((0, h a i.toNat) :: st) h r h') : jG E M pc L ((0, i) :: (2, (a : Int)) :: st) h r h' := jG.cald (jokT_at hT he).1 hk hn h0 h1 g
theorem jT.lald {a n : Nat} {i : Int} (hT : jokT2 M 0 (jt M) = true) (he : (jt M)[pc]? = some (some (.laload, 1, []))) (hk : jkd.getD a (9, 0) = (2, n)) (hn : (n : Int) < 2147483648) (h0 : 0 ≤ i) (h1 : i < (n : Int)) (g : jG E M (pc + 1) L ((1, h a i.toNat) :: st) h r h') : jG E M pc L ((0, i) :: (2, (a : Int)) :: st) h r h' := jG.lald (jokT_at hT he).1 hk hn h0 h1 g
theorem jT.iast {a n : Nat} {i v : Int} (hT : jokT2 M 0 (jt M) = true) (he : (jt M)[pc]? = some (some (.iastore, 1, []))) (hk : jkd.getD a (9, 0) = (1, n)) (hn : (n : Int) < 2147483648) (h0 : 0 ≤ i) (h1 : i < (n : Int)) (g : jG E M (pc + 1) L st (jup h a i.toNat v) r h') : jG E M pc L ((0, v) :: (0, i) :: (2, (a : Int)) :: st) h r h' := jG.iast (jokT_at hT he).1 hk hn h0 h1 g
theorem jT.last {a n : Nat} {i v : Int} (hT : jokT2 M 0 (jt M) = true) (he : (jt M)[pc]? = some (some (.lastore, 1, []))) (hk : jkd.getD a (9, 0) = (2, n)) (hn : (n : Int) < 2147483648) (h0 : 0 ≤ i) (h1 : i < (n : Int)) (g : jG E M (pc + 1) L st (jup h a i.toNat v) r h') : jG E M pc L ((1, v) :: (0, i) :: (2, (a : Int)) :: st) h r h' := jG.last (jokT_at hT he).1 hk hn h0 h1 g
theorem jT.bast {a n : Nat} {i v : Int} (hT : jokT2 M 0 (jt M) = true) (he : (jt M)[pc]? = some (some (.bastore, 1, []))) (hk : jkd.getD a (9, 0) = (3, n)) (hn : (n : Int) < 2147483648) (h0 : 0 ≤ i) (h1 : i < (n : Int)) (hv0 : -128 ≤ v) (hv1 : v < 128) (g : jG E M (pc + 1) L st (jup h a i.toNat v) r h') : jG E M pc L ((0, v) :: (0, i) :: (2, (a : Int)) :: st) h r h' := jG.bast (jokT_at hT he).1 hk hn h0 h1 hv0 hv1 g
theorem jT.cast {a n : Nat} {i v : Int} (hT : jokT2 M 0 (jt M) = true) (he : (jt M)[pc]? = some (some (.castore, 1, []))) (hk : jkd.getD a (9, 0) = (4, n)) (hn : (n : Int) < 2147483648) (h0 : 0 ≤ i) (h1 : i < (n : Int)) (hv0 : 0 ≤ v) (hv1 : v < 65536) (g : jG E M (pc + 1) L st (jup h a i.toNat v) r h') : jG E M pc L ((0, v) :: (0, i) :: (2, (a : Int)) :: st) h r h' := jG.cast (jokT_at hT he).1 hk hn h0 h1 hv0 hv1 g
theorem jT.alen {a t n : Nat} (hT : jokT2 M 0 (jt M) = true) (he : (jt M)[pc]? = some (some (.arraylength, 1, []))) (hk : jkd.getD a (9, 0) = (t, n)) (ht : t = 1 ∨ t = 2 ∨ t = 3 ∨ t = 4) (hn : (n : Int) < 2147483648) (g : jG E M (pc + 1) L ((0, (n : Int)) :: st) h r h') : jG E M pc L ((2, (a : Int)) :: st) h r h' := jG.alen (jokT_at hT he).1 hk ht hn g
theorem jT.xald {x : Nat} {i : Int} (hT : jokT2 M 0 (jt M) = true) (he : (jt M)[pc]? = some (some (.iaload, 1, []))) (hx : x < jxn) (ht : jxt.getD x .int = .int) (hn : (jxl E x : Int) < 2147483648) (h0 : 0 ≤ i) (h1 : i < (jxl E x : Int)) (hv : ok32 (jxv E x i.toNat)) (g : jG E M (pc + 1) L ((0, jxv E x i.toNat) :: st) h r h') : jG E M pc L ((0, i) :: (3, (x : Int)) :: st) h r h' := jG.xald (jokT_at hT he).1 hx ht hn h0 h1 hv g
theorem jT.xbld {x : Nat} {i : Int} (hT : jokT2 M 0 (jt M) = true) (he : (jt M)[pc]? = some (some (.baload, 1, []))) (hx : x < jxn) (ht : jxt.getD x .int = .byte) (hn : (jxl E x : Int) < 2147483648) (h0 : 0 ≤ i) (h1 : i < (jxl E x : Int)) (hv : ok32 (jxv E x i.toNat)) (g : jG E M (pc + 1) L ((0, jxv E x i.toNat) :: st) h r h') : jG E M pc L ((0, i) :: (3, (x : Int)) :: st) h r h' := jG.xbld (jokT_at hT he).1 hx ht hn h0 h1 hv g
theorem jT.xlen {x : Nat} (hT : jokT2 M 0 (jt M) = true) (he : (jt M)[pc]? = some (some (.arraylength, 1, []))) (hx : x < jxn) (hn : (jxl E x : Int) < 2147483648) (g : jG E M (pc + 1) L ((0, (jxl E x : Int)) :: st) h r h') : jG E M pc L ((3, (x : Int)) :: st) h r h' := jG.xlen (jokT_at hT he).1 hx hn g
theorem jT.xcod {ix : Nat} {wi : Int} {q : Nat × Nat} (hT : jokT2 M 0 (jt M) = true) (he : (jt M)[pc]? = some (some (.getfield ix, 3, [0, wi]))) (hq : q ∈ jso) (g : jG E M (pc + 3) L ((0, 0) :: st) h r h') : jG E M pc L ((3, (q.1 : Int)) :: st) h r h' := jG.xcod (jokT_at hT he).1 hq (jwat_in (jokT_at hT he).2.2) g
theorem jT.xval {ix : Nat} {wi : Int} {q : Nat × Nat} (hT : jokT2 M 0 (jt M) = true) (he : (jt M)[pc]? = some (some (.getfield ix, 3, [1, wi]))) (hq : q ∈ jso) (g : jG E M (pc + 3) L ((3, (q.2 : Int)) :: st) h r h') : jG E M pc L ((3, (q.1 : Int)) :: st) h r h' := jG.xval (jokT_at hT he).1 hq (jwat_in (jokT_at hT he).2.2) g
theorem jT.if1 {cn : Jvm.ClassFile.Cond} {off : Int} {tgt : Nat} {x : Int} (hT : jokT2 M 0 (jt M) = true) (he : (jt M)[pc]? = some (some (.ifCond cn off, 3, []))) (ht : (pc : Int) + off = (tgt : Int)) (kt : jcn cn x 0 → jG E M tgt L st h r h') (kf : ¬ jcn cn x 0 → jG E M (pc + 3) L st h r h') : jG E M pc L ((0, x) :: st) h r h' := jG.if1 (jokT_at hT he).1 ht kt kf
theorem jT.if2 {cn : Jvm.ClassFile.Cond} {off : Int} {tgt : Nat} {x y : Int} (hT : jokT2 M 0 (jt M) = true) (he : (jt M)[pc]? = some (some (.if_icmp cn off, 3, []))) (ht : (pc : Int) + off = (tgt : Int)) (kt : jcn cn x y → jG E M tgt L st h r h') (kf : ¬ jcn cn x y → jG E M (pc + 3) L st h r h') : jG E M pc L ((0, y) :: (0, x) :: st) h r h' := jG.if2 (jokT_at hT he).1 ht kt kf
theorem jT.goto {off : Int} {tgt : Nat} (hT : jokT2 M 0 (jt M) = true) (he : (jt M)[pc]? = some (some (.goto off, 3, []))) (ht : (pc : Int) + off = (tgt : Int)) (g : jG E M tgt L st h r h') : jG E M pc L st h r h' := jG.goto (jokT_at hT he).1 ht g
theorem jT.lsw {d : Int} {ps : Array (Int × Int)} {len : Nat} {x off : Int} {tgt : Nat} (hT : jokT2 M 0 (jt M) = true) (he : (jt M)[pc]? = some (some (.lookupswitch d ps, len, []))) (hp : (ps.toList.zip (ps.toList.drop 1)).all (fun (a, next) => a.1 < next.1) = true) (ho : Op.lookupswitch.offset ps.toList d x = off) (ht : (pc : Int) + off = (tgt : Int)) (g : jG E M tgt L st h r h') : jG E M pc L ((0, x) :: st) h r h' := jG.lsw (jokT_at hT he).1 hp ho ht g
theorem jT.tswO {d lo hi : Int} {offs : Array Int} {len : Nat} {x : Int} {tgt : Nat} (hT : jokT2 M 0 (jt M) = true) (he : (jt M)[pc]? = some (some (.tableswitch d lo hi offs, len, []))) (hc : x < lo ∨ hi < x) (ht : (pc : Int) + d = (tgt : Int)) (g : jG E M tgt L st h r h') : jG E M pc L ((0, x) :: st) h r h' := jG.tswO (jokT_at hT he).1 hc ht g
theorem jT.tswI {d lo hi : Int} {offs : Array Int} {len : Nat} {x off : Int} {tgt : Nat} (hT : jokT2 M 0 (jt M) = true) (he : (jt M)[pc]? = some (some (.tableswitch d lo hi offs, len, []))) (h1 : ¬ x < lo) (h2 : ¬ hi < x) (ho : offs[(x - lo).toNat]? = some off) (ht : (pc : Int) + off = (tgt : Int)) (g : jG E M tgt L st h r h') : jG E M pc L ((0, x) :: st) h r h' := jG.tswI (jokT_at hT he).1 h1 h2 ho ht g
theorem jT.iret {x : Int} (hT : jokT2 M 0 (jt M) = true) (he : (jt M)[pc]? = some (some (.ireturn, 1, []))) (hr : jro (jr M) .ireturn (some (0, x))) : jG E M pc L [(0, x)] h (some (0, x)) h := jG.ret (r := some (0, x)) (jokT_at hT he).1 hr
theorem jT.lret {x : Int} (hT : jokT2 M 0 (jt M) = true) (he : (jt M)[pc]? = some (some (.lreturn, 1, []))) (hr : jro (jr M) .lreturn (some (1, x))) : jG E M pc L [(1, x)] h (some (1, x)) h := jG.ret (r := some (1, x)) (jokT_at hT he).1 hr
theorem jT.vret (hT : jokT2 M 0 (jt M) = true) (he : (jt M)[pc]? = some (some (.return_, 1, []))) (hr : jro (jr M) .return_ none) : jG E M pc L [] h none h := jG.ret (r := none) (jokT_at hT he).1 hr
theorem jT.cS {M1 : jM} {ix : Nat} {j wi : Int} {r1 : Option jV} (args1 rest : List jV) (hT : jokT2 M 0 (jt M) = true) (he : (jt M)[pc]? = some (some (.invokestatic ix, 3, [j, wi, 0]))) (hy : jyn.getD j.toNat ⟨"", "", ""⟩ = jy M1) (hM : jokM M1) (hk : jk M1 = 0) (hfr : jf M1 + 1 ≤ jf M) (hlo : 8 + (jL M1 + 11) + jlr M1 ≤ jlr M) (hn : args1.length = jn M1) (hrs : (rest.map fun v => if v.1 = 1 then 2 else 1).sum ≤ 8) (hC : jC E M1 args1 h r1 h1) (g : jG E M (pc + 3) L (r1.toList ++ rest) h1 r h') : jG E M pc L (args1.reverse ++ rest) h r h' := by
  have h2 := jokT_at hT he
  exact jG.callS args1 rest h2.1 hM hk (by rw [← hy]; exact jwat_in h2.2.2) hfr hlo hn hrs hC g
theorem jT.cSN {M1 : jM} {ix : Nat} {j wi : Int} {r1 : Option jV} (args1 rest : List jV) (hT : jokT2 M 0 (jt M) = true) (he : (jt M)[pc]? = some (some (.invokestatic ix, 3, [j, wi, 1]))) (hy : jyn.getD j.toNat ⟨"", "", ""⟩ = jy M1) (hM : jokM M1) (hk : jk M1 = 0) (hfr : jf M1 + 1 ≤ jf M) (hlo : 8 + (jL M1 + 11) + jlr M1 ≤ jlr M) (hn : args1.length = jn M1) (hrs : (rest.map fun v => if v.1 = 1 then 2 else 1).sum ≤ 8) (hC : jC E M1 args1 h r1 h1) (g : jG E M (pc + 3) L (r1.toList ++ rest) h1 r h') : jG E M pc L (args1.reverse ++ rest) h r h' := by
  have h2 := jokT_at hT he
  exact jG.callSN args1 rest h2.1 hM hk (by rw [← hy]; exact jnat_in h2.2.2) hfr hlo hn hrs hC g
theorem jT.cV {M1 : jM} {ix : Nat} {j wi : Int} {r1 : Option jV} (v1 : jV) (args1 rest : List jV) (hT : jokT2 M 0 (jt M) = true) (he : (jt M)[pc]? = some (some (.invokevirtual ix, 3, [j, wi, 0]))) (hy : jyn.getD j.toNat ⟨"", "", ""⟩ = jy M1) (hM : jokM M1) (hk : jk M1 = 1) (hv : jrc (jy M1).cls v1) (hfr : jf M1 + 1 ≤ jf M) (hlo : 8 + (jL M1 + 11) + jlr M1 ≤ jlr M) (hn : args1.length = jn M1) (hrs : (rest.map fun v => if v.1 = 1 then 2 else 1).sum ≤ 8) (hC : jC E M1 (v1 :: args1) h r1 h1) (g : jG E M (pc + 3) L (r1.toList ++ rest) h1 r h') : jG E M pc L (args1.reverse ++ v1 :: rest) h r h' := by
  have h2 := jokT_at hT he
  exact jG.callV v1 args1 rest h2.1 hM hk hv (by rw [← hy]; exact jwat_in h2.2.2) hfr hlo hn hrs hC g
theorem jT.cVN {M1 : jM} {ix : Nat} {j wi : Int} {r1 : Option jV} (v1 : jV) (args1 rest : List jV) (hT : jokT2 M 0 (jt M) = true) (he : (jt M)[pc]? = some (some (.invokevirtual ix, 3, [j, wi, 1]))) (hy : jyn.getD j.toNat ⟨"", "", ""⟩ = jy M1) (hM : jokM M1) (hk : jk M1 = 1) (hv : jrc (jy M1).cls v1) (hfr : jf M1 + 1 ≤ jf M) (hlo : 8 + (jL M1 + 11) + jlr M1 ≤ jlr M) (hn : args1.length = jn M1) (hrs : (rest.map fun v => if v.1 = 1 then 2 else 1).sum ≤ 8) (hC : jC E M1 (v1 :: args1) h r1 h1) (g : jG E M (pc + 3) L (r1.toList ++ rest) h1 r h') : jG E M pc L (args1.reverse ++ v1 :: rest) h r h' := by
  have h2 := jokT_at hT he
  exact jG.callVN v1 args1 rest h2.1 hM hk hv (by rw [← hy]; exact jnat_in h2.2.2) hfr hlo hn hrs hC g
theorem jT.acp {ix a0 a n0 n1 : Nat} {wi w2 w3 w4 : Int} {rest : List jV} (hT : jokT2 M 0 (jt M) = true) (he : (jt M)[pc]? = some (some (.invokestatic ix, 3, [wi, w2, w3, w4]))) (hk0 : jkd.getD a0 (9, 0) = (1, n0)) (hk1 : jkd.getD a (9, 0) = (1, n1)) (h0 : 64 ≤ n0) (h1 : 64 ≤ n1) (hf : 1 ≤ jf M) (hlo : 8 + (nativeFrameWords "java/lang/System" "arraycopy" 5 + 11) ≤ jlr M) (hrs : (rest.map fun v => if v.1 = 1 then 2 else 1).sum ≤ 8) (g : jG E M (pc + 3) L rest (jcp h a (fun k => if k < 64 then h a0 k else h a k)) r h') : jG E M pc L ((0, 64) :: (0, 0) :: (2, (a : Int)) :: (0, 0) :: (2, (a0 : Int)) :: rest) h r h' := by
  obtain ⟨hd, -, hR⟩ := jokT_at hT he
  simp only [jokR, Bool.and_eq_true] at hR
  obtain ⟨⟨⟨hw1, hw2⟩, hw3⟩, hw4⟩ := hR
  refine jG.hp g (fun _ oS oH => ⟨jokS_tl (jokS_tl (jokS_tl (jokS_tl (jokS_tl oS)))), jHok_cp oH (fun k => ?_)⟩) (fun hF hl oS oH hP hS k => ?_)
  · rw [jty_k hk1]
    by_cases hk : k < 64
    · rw [if_pos hk]
      have h2 := oH a0 k
      rw [jty_k hk0] at h2
      exact h2
    · rw [if_neg hk]
      have h2 := oH a k
      rw [jty_k hk1] at h2
      exact h2
  · have ha := jkd_lt hk1 (by decide)
    have hx0 := jwd_at (E := E) (h := h) (jkd_lt hk0 (by decide))
    have hx1 := jwd_at (E := E) (h := h) ha
    rw [jent_i _ hk0 (by decide)] at hx0
    rw [jent_i _ hk1 (by decide)] at hx1
    have hK := hF.2.2.2.2.2.2.1
    have hts := hF.2.2.2.2.2.1
    have e64 : (Int32.ofInt 64).toNatClampNeg = 64 := by decide
    have e0 : (Int32.ofInt 0).toNatClampNeg = 0 := by decide
    have hlr : jlr M ≤ _ := hF.2.2.2.2.2.2.2.2.2.2.1
    have hfr : jf M ≤ _ := hF.2.2.2.2.2.2.2.2.2.1
    refine va_copyi (rest := rest.map (tv E)) hF.1 hF.2.1 (hF.2.2.1.trans hl.1.symm) hF.2.2.2.2.1 (hts _ (jwat_in hw1)) (hts _ (jwat_in hw2)) (hts _ (jwat_in hw3)) (hts _ (jwat_in hw4)) hK hP (jwd_D hF.2.2.2.2.2.2.2.2.1) hS a0 a 0 0 hx0 hx1 (by rfl : (jtys E)[0]? = some (jca E 1, .int)) (by rfl : (jtys E)[0]? = some (jca E 1, .int)) rfl (by decide) (by decide) (by decide) (by rw [e0, e64]; omega) (by rw [e0, e64]; omega) (fun _ _ => rfl) (Nat.le_trans hf hfr) (by rw [jcats]; omega) hd (fun H1 locs1 hP1 _ hS1 => k H1 locs1 ?_ hS1)
    rw [e0, e64] at hP1
    have e := jwd_cp (E := E) (h := h) ha (fun k => if k < 64 then h a0 k else h a k)
    rw [jent_i _ hk1 (by decide)] at e
    have e2 : (fun j => Int32.ofInt (if j < 64 then h a0 j else h a j)) = va_cpy (fun j => Int32.ofInt (h a0 j)) (fun j => Int32.ofInt (h a j)) 0 0 64 := by
      funext j
      unfold va_cpy
      by_cases hj : j < 64
      · rw [if_pos hj, if_pos ⟨Nat.zero_le _, by omega⟩, Nat.zero_add, Nat.sub_zero]
      · rw [if_neg hj, if_neg (fun z => hj (by omega))]
    rw [e2] at e
    rw [e] at hP1
    exact hP1
end JX
end
