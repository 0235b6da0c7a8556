section
-- ===== PART A: goes FIRST, ahead of the names: the tables' words, and 'selects' of the private methods out of them =====
/-- a private method of a class that the tables say can be made, by its rows of tables_1 -/
def lw_okq (q : MethodName × Nat) : Prop := (q.1.cls ≠ "java/lang/invoke/MethodHandle" ∧ q.1.cls ≠ "java/lang/invoke/VarHandle") ∧ Cond.instantiable q.1.cls q.2 ∈ tables_1 ∧ Cond.privateMethod q.1 ∈ tables_1 ∧ Cond.instanceMethod q.1 ∈ tables_1
theorem lw_p0 : lw_okq (⟨"ChessLedger", "adoptDraft", "()Z"⟩, 10) := ⟨⟨by decide +kernel, by decide +kernel⟩, List.mem_of_getElem? (i := 19) (by decide +kernel), List.mem_of_getElem? (i := 240) (by decide +kernel), List.mem_of_getElem? (i := 241) (by decide +kernel)⟩
theorem lw_p1 : lw_okq (⟨"ChessLedger$Board", "hasKingsAndPawnsRight", "()Z"⟩, 5) := ⟨⟨by decide +kernel, by decide +kernel⟩, List.mem_of_getElem? (i := 33) (by decide +kernel), List.mem_of_getElem? (i := 248) (by decide +kernel), List.mem_of_getElem? (i := 249) (by decide +kernel)⟩
theorem lw_p2 : lw_okq (⟨"ChessLedger$Board", "hasRightsRight", "()Z"⟩, 5) := ⟨⟨by decide +kernel, by decide +kernel⟩, List.mem_of_getElem? (i := 33) (by decide +kernel), List.mem_of_getElem? (i := 258) (by decide +kernel), List.mem_of_getElem? (i := 259) (by decide +kernel)⟩
theorem lw_p3 : lw_okq (⟨"ChessLedger$Board", "hasFileRight", "()Z"⟩, 5) := ⟨⟨by decide +kernel, by decide +kernel⟩, List.mem_of_getElem? (i := 33) (by decide +kernel), List.mem_of_getElem? (i := 277) (by decide +kernel), List.mem_of_getElem? (i := 278) (by decide +kernel)⟩
theorem lw_p4 : lw_okq (⟨"ChessLedger$Board", "firstAlong", "(II)I"⟩, 5) := ⟨⟨by decide +kernel, by decide +kernel⟩, List.mem_of_getElem? (i := 33) (by decide +kernel), List.mem_of_getElem? (i := 298) (by decide +kernel), List.mem_of_getElem? (i := 299) (by decide +kernel)⟩
theorem lw_p5 : lw_okq (⟨"ChessLedger$Board", "attacksAgainst", "(III)Z"⟩, 5) := ⟨⟨by decide +kernel, by decide +kernel⟩, List.mem_of_getElem? (i := 33) (by decide +kernel), List.mem_of_getElem? (i := 312) (by decide +kernel), List.mem_of_getElem? (i := 313) (by decide +kernel)⟩
theorem lw_p6 : lw_okq (⟨"ChessLedger$MoveTable", "addPiece", "(LChessLedger$Board;I)V"⟩, 2) := ⟨⟨by decide +kernel, by decide +kernel⟩, List.mem_of_getElem? (i := 115) (by decide +kernel), List.mem_of_getElem? (i := 376) (by decide +kernel), List.mem_of_getElem? (i := 377) (by decide +kernel)⟩
theorem lw_p7 : lw_okq (⟨"ChessLedger$MoveTable", "addSteps", "(LChessLedger$Board;I)V"⟩, 2) := ⟨⟨by decide +kernel, by decide +kernel⟩, List.mem_of_getElem? (i := 115) (by decide +kernel), List.mem_of_getElem? (i := 381) (by decide +kernel), List.mem_of_getElem? (i := 382) (by decide +kernel)⟩
theorem lw_p8 : lw_okq (⟨"ChessLedger$MoveTable", "addPawn", "(II)V"⟩, 2) := ⟨⟨by decide +kernel, by decide +kernel⟩, List.mem_of_getElem? (i := 115) (by decide +kernel), List.mem_of_getElem? (i := 387) (by decide +kernel), List.mem_of_getElem? (i := 388) (by decide +kernel)⟩
theorem lw_p9 : lw_okq (⟨"ChessLedger$MoveTable", "addTakes", "(LChessLedger$Board;I)V"⟩, 2) := ⟨⟨by decide +kernel, by decide +kernel⟩, List.mem_of_getElem? (i := 115) (by decide +kernel), List.mem_of_getElem? (i := 392) (by decide +kernel), List.mem_of_getElem? (i := 393) (by decide +kernel)⟩
theorem lw_p10 : lw_okq (⟨"ChessLedger$MoveTable", "addLeaps", "(LChessLedger$Board;I)V"⟩, 2) := ⟨⟨by decide +kernel, by decide +kernel⟩, List.mem_of_getElem? (i := 115) (by decide +kernel), List.mem_of_getElem? (i := 400) (by decide +kernel), List.mem_of_getElem? (i := 401) (by decide +kernel)⟩
theorem lw_p11 : lw_okq (⟨"ChessLedger$MoveTable", "addAlong", "(LChessLedger$Board;III)V"⟩, 2) := ⟨⟨by decide +kernel, by decide +kernel⟩, List.mem_of_getElem? (i := 115) (by decide +kernel), List.mem_of_getElem? (i := 407) (by decide +kernel), List.mem_of_getElem? (i := 408) (by decide +kernel)⟩
theorem lw_p12 : lw_okq (⟨"ChessLedger$MoveTable", "addCastling", "(LChessLedger$Board;)V"⟩, 2) := ⟨⟨by decide +kernel, by decide +kernel⟩, List.mem_of_getElem? (i := 115) (by decide +kernel), List.mem_of_getElem? (i := 413) (by decide +kernel), List.mem_of_getElem? (i := 414) (by decide +kernel)⟩
theorem lw_p13 : lw_okq (⟨"ChessLedger$MoveTable", "size", "()I"⟩, 2) := ⟨⟨by decide +kernel, by decide +kernel⟩, List.mem_of_getElem? (i := 115) (by decide +kernel), List.mem_of_getElem? (i := 443) (by decide +kernel), List.mem_of_getElem? (i := 444) (by decide +kernel)⟩
theorem lw_p14 : lw_okq (⟨"ChessLedger$MoveTable", "sourcesOf", "(II)J"⟩, 2) := ⟨⟨by decide +kernel, by decide +kernel⟩, List.mem_of_getElem? (i := 115) (by decide +kernel), List.mem_of_getElem? (i := 455) (by decide +kernel), List.mem_of_getElem? (i := 456) (by decide +kernel)⟩
theorem lw_p15 : lw_okq (⟨"ChessLedger$Game", "remember", "(II)V"⟩, 7) := ⟨⟨by decide +kernel, by decide +kernel⟩, List.mem_of_getElem? (i := 27) (by decide +kernel), List.mem_of_getElem? (i := 475) (by decide +kernel), List.mem_of_getElem? (i := 476) (by decide +kernel)⟩
def lw_privs_1 : List (MethodName × Nat) := [(⟨"ChessLedger", "adoptDraft", "()Z"⟩, 10), (⟨"ChessLedger$Board", "hasKingsAndPawnsRight", "()Z"⟩, 5), (⟨"ChessLedger$Board", "hasRightsRight", "()Z"⟩, 5), (⟨"ChessLedger$Board", "hasFileRight", "()Z"⟩, 5), (⟨"ChessLedger$Board", "firstAlong", "(II)I"⟩, 5), (⟨"ChessLedger$Board", "attacksAgainst", "(III)Z"⟩, 5), (⟨"ChessLedger$MoveTable", "addPiece", "(LChessLedger$Board;I)V"⟩, 2), (⟨"ChessLedger$MoveTable", "addSteps", "(LChessLedger$Board;I)V"⟩, 2), (⟨"ChessLedger$MoveTable", "addPawn", "(II)V"⟩, 2), (⟨"ChessLedger$MoveTable", "addTakes", "(LChessLedger$Board;I)V"⟩, 2), (⟨"ChessLedger$MoveTable", "addLeaps", "(LChessLedger$Board;I)V"⟩, 2), (⟨"ChessLedger$MoveTable", "addAlong", "(LChessLedger$Board;III)V"⟩, 2), (⟨"ChessLedger$MoveTable", "addCastling", "(LChessLedger$Board;)V"⟩, 2), (⟨"ChessLedger$MoveTable", "size", "()I"⟩, 2), (⟨"ChessLedger$MoveTable", "sourcesOf", "(II)J"⟩, 2), (⟨"ChessLedger$Game", "remember", "(II)V"⟩, 7)]
theorem lw_r1 : ∀ q ∈ lw_privs_1, lw_okq q := List.forall_mem_cons.mpr ⟨lw_p0, List.forall_mem_cons.mpr ⟨lw_p1, List.forall_mem_cons.mpr ⟨lw_p2, List.forall_mem_cons.mpr ⟨lw_p3, List.forall_mem_cons.mpr ⟨lw_p4, List.forall_mem_cons.mpr ⟨lw_p5, List.forall_mem_cons.mpr ⟨lw_p6, List.forall_mem_cons.mpr ⟨lw_p7, List.forall_mem_cons.mpr ⟨lw_p8, List.forall_mem_cons.mpr ⟨lw_p9, List.forall_mem_cons.mpr ⟨lw_p10, List.forall_mem_cons.mpr ⟨lw_p11, List.forall_mem_cons.mpr ⟨lw_p12, List.forall_mem_cons.mpr ⟨lw_p13, List.forall_mem_cons.mpr ⟨lw_p14, List.forall_mem_cons.mpr ⟨lw_p15, fun _ h => absurd h List.not_mem_nil⟩⟩⟩⟩⟩⟩⟩⟩⟩⟩⟩⟩⟩⟩⟩⟩
theorem lw_p16 : lw_okq (⟨"ChessLedger$Game", "shiftPiece", "(II)V"⟩, 7) := ⟨⟨by decide +kernel, by decide +kernel⟩, List.mem_of_getElem? (i := 27) (by decide +kernel), List.mem_of_getElem? (i := 489) (by decide +kernel), List.mem_of_getElem? (i := 490) (by decide +kernel)⟩
theorem lw_p17 : lw_okq (⟨"ChessLedger$Past", "isSame", "(II)Z"⟩, 1) := ⟨⟨by decide +kernel, by decide +kernel⟩, List.mem_of_getElem? (i := 104) (by decide +kernel), List.mem_of_getElem? (i := 527) (by decide +kernel), List.mem_of_getElem? (i := 528) (by decide +kernel)⟩
theorem lw_p18 : lw_okq (⟨"ChessLedger$Reader", "takeSquares", "()Z"⟩, 4) := ⟨⟨by decide +kernel, by decide +kernel⟩, List.mem_of_getElem? (i := 128) (by decide +kernel), List.mem_of_getElem? (i := 567) (by decide +kernel), List.mem_of_getElem? (i := 568) (by decide +kernel)⟩
theorem lw_p19 : lw_okq (⟨"ChessLedger$Reader", "takeLetter", "(I)Z"⟩, 4) := ⟨⟨by decide +kernel, by decide +kernel⟩, List.mem_of_getElem? (i := 128) (by decide +kernel), List.mem_of_getElem? (i := 571) (by decide +kernel), List.mem_of_getElem? (i := 572) (by decide +kernel)⟩
theorem lw_p20 : lw_okq (⟨"ChessLedger$Reader", "letter", "()I"⟩, 4) := ⟨⟨by decide +kernel, by decide +kernel⟩, List.mem_of_getElem? (i := 128) (by decide +kernel), List.mem_of_getElem? (i := 575) (by decide +kernel), List.mem_of_getElem? (i := 576) (by decide +kernel)⟩
theorem lw_p21 : lw_okq (⟨"ChessLedger$Reader", "takeRank", "(I)Z"⟩, 4) := ⟨⟨by decide +kernel, by decide +kernel⟩, List.mem_of_getElem? (i := 128) (by decide +kernel), List.mem_of_getElem? (i := 583) (by decide +kernel), List.mem_of_getElem? (i := 584) (by decide +kernel)⟩
theorem lw_p22 : lw_okq (⟨"ChessLedger$Reader", "takeSide", "()Z"⟩, 4) := ⟨⟨by decide +kernel, by decide +kernel⟩, List.mem_of_getElem? (i := 128) (by decide +kernel), List.mem_of_getElem? (i := 632) (by decide +kernel), List.mem_of_getElem? (i := 633) (by decide +kernel)⟩
theorem lw_p23 : lw_okq (⟨"ChessLedger$Reader", "takeRights", "()Z"⟩, 4) := ⟨⟨by decide +kernel, by decide +kernel⟩, List.mem_of_getElem? (i := 128) (by decide +kernel), List.mem_of_getElem? (i := 636) (by decide +kernel), List.mem_of_getElem? (i := 637) (by decide +kernel)⟩
theorem lw_p24 : lw_okq (⟨"ChessLedger$Reader", "takePassed", "()Z"⟩, 4) := ⟨⟨by decide +kernel, by decide +kernel⟩, List.mem_of_getElem? (i := 128) (by decide +kernel), List.mem_of_getElem? (i := 641) (by decide +kernel), List.mem_of_getElem? (i := 642) (by decide +kernel)⟩
theorem lw_p25 : lw_okq (⟨"ChessLedger$Reader", "takeCount", "()Z"⟩, 4) := ⟨⟨by decide +kernel, by decide +kernel⟩, List.mem_of_getElem? (i := 128) (by decide +kernel), List.mem_of_getElem? (i := 645) (by decide +kernel), List.mem_of_getElem? (i := 646) (by decide +kernel)⟩
theorem lw_p26 : lw_okq (⟨"ChessLedger$Text", "addRank", "(LChessLedger$Board;I)V"⟩, 2) := ⟨⟨by decide +kernel, by decide +kernel⟩, List.mem_of_getElem? (i := 134) (by decide +kernel), List.mem_of_getElem? (i := 668) (by decide +kernel), List.mem_of_getElem? (i := 669) (by decide +kernel)⟩
theorem lw_p27 : lw_okq (⟨"ChessLedger$Text", "addGap", "(I)V"⟩, 2) := ⟨⟨by decide +kernel, by decide +kernel⟩, List.mem_of_getElem? (i := 134) (by decide +kernel), List.mem_of_getElem? (i := 673) (by decide +kernel), List.mem_of_getElem? (i := 674) (by decide +kernel)⟩
theorem lw_p28 : lw_okq (⟨"ChessLedger$Text", "addRights", "(I)V"⟩, 2) := ⟨⟨by decide +kernel, by decide +kernel⟩, List.mem_of_getElem? (i := 134) (by decide +kernel), List.mem_of_getElem? (i := 684) (by decide +kernel), List.mem_of_getElem? (i := 685) (by decide +kernel)⟩
theorem lw_p29 : lw_okq (⟨"ChessLedger$Text", "addPassed", "(I)V"⟩, 2) := ⟨⟨by decide +kernel, by decide +kernel⟩, List.mem_of_getElem? (i := 134) (by decide +kernel), List.mem_of_getElem? (i := 690) (by decide +kernel), List.mem_of_getElem? (i := 691) (by decide +kernel)⟩
theorem lw_p30 : lw_okq (⟨"ChessLedger$Text", "addNumber", "(I)V"⟩, 2) := ⟨⟨by decide +kernel, by decide +kernel⟩, List.mem_of_getElem? (i := 134) (by decide +kernel), List.mem_of_getElem? (i := 694) (by decide +kernel), List.mem_of_getElem? (i := 695) (by decide +kernel)⟩
theorem lw_p31 : lw_okq (⟨"ChessLedgerModel", "copy", "(II)V"⟩, 15) := ⟨⟨by decide +kernel, by decide +kernel⟩, List.mem_of_getElem? (i := 711) (by decide +kernel), List.mem_of_getElem? (i := 771) (by decide +kernel), List.mem_of_getElem? (i := 772) (by decide +kernel)⟩
def lw_privs_2 : List (MethodName × Nat) := [(⟨"ChessLedger$Game", "shiftPiece", "(II)V"⟩, 7), (⟨"ChessLedger$Past", "isSame", "(II)Z"⟩, 1), (⟨"ChessLedger$Reader", "takeSquares", "()Z"⟩, 4), (⟨"ChessLedger$Reader", "takeLetter", "(I)Z"⟩, 4), (⟨"ChessLedger$Reader", "letter", "()I"⟩, 4), (⟨"ChessLedger$Reader", "takeRank", "(I)Z"⟩, 4), (⟨"ChessLedger$Reader", "takeSide", "()Z"⟩, 4), (⟨"ChessLedger$Reader", "takeRights", "()Z"⟩, 4), (⟨"ChessLedger$Reader", "takePassed", "()Z"⟩, 4), (⟨"ChessLedger$Reader", "takeCount", "()Z"⟩, 4), (⟨"ChessLedger$Text", "addRank", "(LChessLedger$Board;I)V"⟩, 2), (⟨"ChessLedger$Text", "addGap", "(I)V"⟩, 2), (⟨"ChessLedger$Text", "addRights", "(I)V"⟩, 2), (⟨"ChessLedger$Text", "addPassed", "(I)V"⟩, 2), (⟨"ChessLedger$Text", "addNumber", "(I)V"⟩, 2), (⟨"ChessLedgerModel", "copy", "(II)V"⟩, 15)]
theorem lw_r2 : ∀ q ∈ lw_privs_2, lw_okq q := List.forall_mem_cons.mpr ⟨lw_p16, List.forall_mem_cons.mpr ⟨lw_p17, List.forall_mem_cons.mpr ⟨lw_p18, List.forall_mem_cons.mpr ⟨lw_p19, List.forall_mem_cons.mpr ⟨lw_p20, List.forall_mem_cons.mpr ⟨lw_p21, List.forall_mem_cons.mpr ⟨lw_p22, List.forall_mem_cons.mpr ⟨lw_p23, List.forall_mem_cons.mpr ⟨lw_p24, List.forall_mem_cons.mpr ⟨lw_p25, List.forall_mem_cons.mpr ⟨lw_p26, List.forall_mem_cons.mpr ⟨lw_p27, List.forall_mem_cons.mpr ⟨lw_p28, List.forall_mem_cons.mpr ⟨lw_p29, List.forall_mem_cons.mpr ⟨lw_p30, List.forall_mem_cons.mpr ⟨lw_p31, fun _ h => absurd h List.not_mem_nil⟩⟩⟩⟩⟩⟩⟩⟩⟩⟩⟩⟩⟩⟩⟩⟩
theorem lw_p32 : lw_okq (⟨"ChessLedgerModel", "isGood", "(I)Z"⟩, 15) := ⟨⟨by decide +kernel, by decide +kernel⟩, List.mem_of_getElem? (i := 711) (by decide +kernel), List.mem_of_getElem? (i := 779) (by decide +kernel), List.mem_of_getElem? (i := 780) (by decide +kernel)⟩
theorem lw_p33 : lw_okq (⟨"ChessLedgerModel", "hasKings", "(I)Z"⟩, 15) := ⟨⟨by decide +kernel, by decide +kernel⟩, List.mem_of_getElem? (i := 711) (by decide +kernel), List.mem_of_getElem? (i := 783) (by decide +kernel), List.mem_of_getElem? (i := 784) (by decide +kernel)⟩
theorem lw_p34 : lw_okq (⟨"ChessLedgerModel", "piece", "(II)I"⟩, 15) := ⟨⟨by decide +kernel, by decide +kernel⟩, List.mem_of_getElem? (i := 711) (by decide +kernel), List.mem_of_getElem? (i := 787) (by decide +kernel), List.mem_of_getElem? (i := 788) (by decide +kernel)⟩
theorem lw_p35 : lw_okq (⟨"ChessLedgerModel", "areRights", "(I)Z"⟩, 15) := ⟨⟨by decide +kernel, by decide +kernel⟩, List.mem_of_getElem? (i := 711) (by decide +kernel), List.mem_of_getElem? (i := 794) (by decide +kernel), List.mem_of_getElem? (i := 795) (by decide +kernel)⟩
theorem lw_p36 : lw_okq (⟨"ChessLedgerModel", "isFile", "(I)Z"⟩, 15) := ⟨⟨by decide +kernel, by decide +kernel⟩, List.mem_of_getElem? (i := 711) (by decide +kernel), List.mem_of_getElem? (i := 798) (by decide +kernel), List.mem_of_getElem? (i := 799) (by decide +kernel)⟩
theorem lw_p37 : lw_okq (⟨"ChessLedgerModel", "kingOf", "(II)I"⟩, 15) := ⟨⟨by decide +kernel, by decide +kernel⟩, List.mem_of_getElem? (i := 711) (by decide +kernel), List.mem_of_getElem? (i := 802) (by decide +kernel), List.mem_of_getElem? (i := 803) (by decide +kernel)⟩
theorem lw_p38 : lw_okq (⟨"ChessLedgerModel", "isAttacked", "(III)Z"⟩, 15) := ⟨⟨by decide +kernel, by decide +kernel⟩, List.mem_of_getElem? (i := 711) (by decide +kernel), List.mem_of_getElem? (i := 806) (by decide +kernel), List.mem_of_getElem? (i := 807) (by decide +kernel)⟩
theorem lw_p39 : lw_okq (⟨"ChessLedgerModel", "isSeen", "(IIIII)Z"⟩, 15) := ⟨⟨by decide +kernel, by decide +kernel⟩, List.mem_of_getElem? (i := 711) (by decide +kernel), List.mem_of_getElem? (i := 810) (by decide +kernel), List.mem_of_getElem? (i := 811) (by decide +kernel)⟩
theorem lw_p40 : lw_okq (⟨"ChessLedgerModel", "isOf", "(III)Z"⟩, 15) := ⟨⟨by decide +kernel, by decide +kernel⟩, List.mem_of_getElem? (i := 711) (by decide +kernel), List.mem_of_getElem? (i := 814) (by decide +kernel), List.mem_of_getElem? (i := 815) (by decide +kernel)⟩
theorem lw_p41 : lw_okq (⟨"ChessLedgerModel", "doesAttack", "(III)Z"⟩, 15) := ⟨⟨by decide +kernel, by decide +kernel⟩, List.mem_of_getElem? (i := 711) (by decide +kernel), List.mem_of_getElem? (i := 818) (by decide +kernel), List.mem_of_getElem? (i := 819) (by decide +kernel)⟩
theorem lw_p42 : lw_okq (⟨"ChessLedgerModel", "isClear", "(III)Z"⟩, 15) := ⟨⟨by decide +kernel, by decide +kernel⟩, List.mem_of_getElem? (i := 711) (by decide +kernel), List.mem_of_getElem? (i := 825) (by decide +kernel), List.mem_of_getElem? (i := 826) (by decide +kernel)⟩
theorem lw_p43 : lw_okq (⟨"ChessLedgerModel", "isJumped", "(IIIII)Z"⟩, 15) := ⟨⟨by decide +kernel, by decide +kernel⟩, List.mem_of_getElem? (i := 711) (by decide +kernel), List.mem_of_getElem? (i := 832) (by decide +kernel), List.mem_of_getElem? (i := 833) (by decide +kernel)⟩
theorem lw_p44 : lw_okq (⟨"ChessLedgerModel", "begin", "()V"⟩, 15) := ⟨⟨by decide +kernel, by decide +kernel⟩, List.mem_of_getElem? (i := 711) (by decide +kernel), List.mem_of_getElem? (i := 836) (by decide +kernel), List.mem_of_getElem? (i := 837) (by decide +kernel)⟩
theorem lw_p45 : lw_okq (⟨"ChessLedgerModel", "findTakers", "(I)V"⟩, 15) := ⟨⟨by decide +kernel, by decide +kernel⟩, List.mem_of_getElem? (i := 711) (by decide +kernel), List.mem_of_getElem? (i := 840) (by decide +kernel), List.mem_of_getElem? (i := 841) (by decide +kernel)⟩
theorem lw_p46 : lw_okq (⟨"ChessLedgerModel", "isBehind", "(III)Z"⟩, 15) := ⟨⟨by decide +kernel, by decide +kernel⟩, List.mem_of_getElem? (i := 711) (by decide +kernel), List.mem_of_getElem? (i := 844) (by decide +kernel), List.mem_of_getElem? (i := 845) (by decide +kernel)⟩
theorem lw_p47 : lw_okq (⟨"ChessLedgerModel", "isSafe", "(IIII)Z"⟩, 15) := ⟨⟨by decide +kernel, by decide +kernel⟩, List.mem_of_getElem? (i := 711) (by decide +kernel), List.mem_of_getElem? (i := 848) (by decide +kernel), List.mem_of_getElem? (i := 849) (by decide +kernel)⟩
def lw_privs_3 : List (MethodName × Nat) := [(⟨"ChessLedgerModel", "isGood", "(I)Z"⟩, 15), (⟨"ChessLedgerModel", "hasKings", "(I)Z"⟩, 15), (⟨"ChessLedgerModel", "piece", "(II)I"⟩, 15), (⟨"ChessLedgerModel", "areRights", "(I)Z"⟩, 15), (⟨"ChessLedgerModel", "isFile", "(I)Z"⟩, 15), (⟨"ChessLedgerModel", "kingOf", "(II)I"⟩, 15), (⟨"ChessLedgerModel", "isAttacked", "(III)Z"⟩, 15), (⟨"ChessLedgerModel", "isSeen", "(IIIII)Z"⟩, 15), (⟨"ChessLedgerModel", "isOf", "(III)Z"⟩, 15), (⟨"ChessLedgerModel", "doesAttack", "(III)Z"⟩, 15), (⟨"ChessLedgerModel", "isClear", "(III)Z"⟩, 15), (⟨"ChessLedgerModel", "isJumped", "(IIIII)Z"⟩, 15), (⟨"ChessLedgerModel", "begin", "()V"⟩, 15), (⟨"ChessLedgerModel", "findTakers", "(I)V"⟩, 15), (⟨"ChessLedgerModel", "isBehind", "(III)Z"⟩, 15), (⟨"ChessLedgerModel", "isSafe", "(IIII)Z"⟩, 15)]
theorem lw_r3 : ∀ q ∈ lw_privs_3, lw_okq q := List.forall_mem_cons.mpr ⟨lw_p32, List.forall_mem_cons.mpr ⟨lw_p33, List.forall_mem_cons.mpr ⟨lw_p34, List.forall_mem_cons.mpr ⟨lw_p35, List.forall_mem_cons.mpr ⟨lw_p36, List.forall_mem_cons.mpr ⟨lw_p37, List.forall_mem_cons.mpr ⟨lw_p38, List.forall_mem_cons.mpr ⟨lw_p39, List.forall_mem_cons.mpr ⟨lw_p40, List.forall_mem_cons.mpr ⟨lw_p41, List.forall_mem_cons.mpr ⟨lw_p42, List.forall_mem_cons.mpr ⟨lw_p43, List.forall_mem_cons.mpr ⟨lw_p44, List.forall_mem_cons.mpr ⟨lw_p45, List.forall_mem_cons.mpr ⟨lw_p46, List.forall_mem_cons.mpr ⟨lw_p47, fun _ h => absurd h List.not_mem_nil⟩⟩⟩⟩⟩⟩⟩⟩⟩⟩⟩⟩⟩⟩⟩⟩
theorem lw_p48 : lw_okq (⟨"ChessLedgerModel", "lay", "(III)V"⟩, 15) := ⟨⟨by decide +kernel, by decide +kernel⟩, List.mem_of_getElem? (i := 711) (by decide +kernel), List.mem_of_getElem? (i := 852) (by decide +kernel), List.mem_of_getElem? (i := 853) (by decide +kernel)⟩
theorem lw_p49 : lw_okq (⟨"ChessLedgerModel", "movesOf", "(I)I"⟩, 15) := ⟨⟨by decide +kernel, by decide +kernel⟩, List.mem_of_getElem? (i := 711) (by decide +kernel), List.mem_of_getElem? (i := 868) (by decide +kernel), List.mem_of_getElem? (i := 869) (by decide +kernel)⟩
theorem lw_p50 : lw_okq (⟨"ChessLedgerModel", "isLast", "(III)Z"⟩, 15) := ⟨⟨by decide +kernel, by decide +kernel⟩, List.mem_of_getElem? (i := 711) (by decide +kernel), List.mem_of_getElem? (i := 872) (by decide +kernel), List.mem_of_getElem? (i := 873) (by decide +kernel)⟩
theorem lw_p51 : lw_okq (⟨"ChessLedgerModel", "isLegal", "(IIII)Z"⟩, 15) := ⟨⟨by decide +kernel, by decide +kernel⟩, List.mem_of_getElem? (i := 711) (by decide +kernel), List.mem_of_getElem? (i := 876) (by decide +kernel), List.mem_of_getElem? (i := 877) (by decide +kernel)⟩
theorem lw_p52 : lw_okq (⟨"ChessLedgerModel", "mayGo", "(IIII)Z"⟩, 15) := ⟨⟨by decide +kernel, by decide +kernel⟩, List.mem_of_getElem? (i := 711) (by decide +kernel), List.mem_of_getElem? (i := 880) (by decide +kernel), List.mem_of_getElem? (i := 881) (by decide +kernel)⟩
theorem lw_p53 : lw_okq (⟨"ChessLedgerModel", "mayPawn", "(IIII)Z"⟩, 15) := ⟨⟨by decide +kernel, by decide +kernel⟩, List.mem_of_getElem? (i := 711) (by decide +kernel), List.mem_of_getElem? (i := 884) (by decide +kernel), List.mem_of_getElem? (i := 885) (by decide +kernel)⟩
theorem lw_p54 : lw_okq (⟨"ChessLedgerModel", "mayCastle", "(III)Z"⟩, 15) := ⟨⟨by decide +kernel, by decide +kernel⟩, List.mem_of_getElem? (i := 711) (by decide +kernel), List.mem_of_getElem? (i := 888) (by decide +kernel), List.mem_of_getElem? (i := 889) (by decide +kernel)⟩
theorem lw_p55 : lw_okq (⟨"ChessLedgerModel", "codeOf", "(II)I"⟩, 15) := ⟨⟨by decide +kernel, by decide +kernel⟩, List.mem_of_getElem? (i := 711) (by decide +kernel), List.mem_of_getElem? (i := 896) (by decide +kernel), List.mem_of_getElem? (i := 897) (by decide +kernel)⟩
theorem lw_p56 : lw_okq (⟨"ChessLedgerModel", "go", "(IIII)V"⟩, 15) := ⟨⟨by decide +kernel, by decide +kernel⟩, List.mem_of_getElem? (i := 711) (by decide +kernel), List.mem_of_getElem? (i := 904) (by decide +kernel), List.mem_of_getElem? (i := 905) (by decide +kernel)⟩
theorem lw_p57 : lw_okq (⟨"ChessLedgerModel", "attackersOf", "(III)J"⟩, 15) := ⟨⟨by decide +kernel, by decide +kernel⟩, List.mem_of_getElem? (i := 711) (by decide +kernel), List.mem_of_getElem? (i := 919) (by decide +kernel), List.mem_of_getElem? (i := 920) (by decide +kernel)⟩
theorem lw_p58 : lw_okq (⟨"ChessLedgerModel", "isChecked", "(I)Z"⟩, 15) := ⟨⟨by decide +kernel, by decide +kernel⟩, List.mem_of_getElem? (i := 711) (by decide +kernel), List.mem_of_getElem? (i := 927) (by decide +kernel), List.mem_of_getElem? (i := 928) (by decide +kernel)⟩
theorem lw_p59 : lw_okq (⟨"ChessLedgerModel", "seenOf", "()I"⟩, 15) := ⟨⟨by decide +kernel, by decide +kernel⟩, List.mem_of_getElem? (i := 711) (by decide +kernel), List.mem_of_getElem? (i := 935) (by decide +kernel), List.mem_of_getElem? (i := 936) (by decide +kernel)⟩
theorem lw_p60 : lw_okq (⟨"ChessLedgerModel", "isDead", "()Z"⟩, 15) := ⟨⟨by decide +kernel, by decide +kernel⟩, List.mem_of_getElem? (i := 711) (by decide +kernel), List.mem_of_getElem? (i := 943) (by decide +kernel), List.mem_of_getElem? (i := 944) (by decide +kernel)⟩
theorem lw_p61 : lw_okq (⟨"ChessLedgerModel", "behindAll", "(I)I"⟩, 15) := ⟨⟨by decide +kernel, by decide +kernel⟩, List.mem_of_getElem? (i := 711) (by decide +kernel), List.mem_of_getElem? (i := 951) (by decide +kernel), List.mem_of_getElem? (i := 952) (by decide +kernel)⟩
theorem lw_p62 : lw_okq (⟨"ChessLedgerModel", "readAll", "()Z"⟩, 15) := ⟨⟨by decide +kernel, by decide +kernel⟩, List.mem_of_getElem? (i := 711) (by decide +kernel), List.mem_of_getElem? (i := 970) (by decide +kernel), List.mem_of_getElem? (i := 971) (by decide +kernel)⟩
theorem lw_p63 : lw_okq (⟨"ChessLedgerModel", "readSquares", "()I"⟩, 15) := ⟨⟨by decide +kernel, by decide +kernel⟩, List.mem_of_getElem? (i := 711) (by decide +kernel), List.mem_of_getElem? (i := 974) (by decide +kernel), List.mem_of_getElem? (i := 975) (by decide +kernel)⟩
def lw_privs_4 : List (MethodName × Nat) := [(⟨"ChessLedgerModel", "lay", "(III)V"⟩, 15), (⟨"ChessLedgerModel", "movesOf", "(I)I"⟩, 15), (⟨"ChessLedgerModel", "isLast", "(III)Z"⟩, 15), (⟨"ChessLedgerModel", "isLegal", "(IIII)Z"⟩, 15), (⟨"ChessLedgerModel", "mayGo", "(IIII)Z"⟩, 15), (⟨"ChessLedgerModel", "mayPawn", "(IIII)Z"⟩, 15), (⟨"ChessLedgerModel", "mayCastle", "(III)Z"⟩, 15), (⟨"ChessLedgerModel", "codeOf", "(II)I"⟩, 15), (⟨"ChessLedgerModel", "go", "(IIII)V"⟩, 15), (⟨"ChessLedgerModel", "attackersOf", "(III)J"⟩, 15), (⟨"ChessLedgerModel", "isChecked", "(I)Z"⟩, 15), (⟨"ChessLedgerModel", "seenOf", "()I"⟩, 15), (⟨"ChessLedgerModel", "isDead", "()Z"⟩, 15), (⟨"ChessLedgerModel", "behindAll", "(I)I"⟩, 15), (⟨"ChessLedgerModel", "readAll", "()Z"⟩, 15), (⟨"ChessLedgerModel", "readSquares", "()I"⟩, 15)]
theorem lw_r4 : ∀ q ∈ lw_privs_4, lw_okq q := List.forall_mem_cons.mpr ⟨lw_p48, List.forall_mem_cons.mpr ⟨lw_p49, List.forall_mem_cons.mpr ⟨lw_p50, List.forall_mem_cons.mpr ⟨lw_p51, List.forall_mem_cons.mpr ⟨lw_p52, List.forall_mem_cons.mpr ⟨lw_p53, List.forall_mem_cons.mpr ⟨lw_p54, List.forall_mem_cons.mpr ⟨lw_p55, List.forall_mem_cons.mpr ⟨lw_p56, List.forall_mem_cons.mpr ⟨lw_p57, List.forall_mem_cons.mpr ⟨lw_p58, List.forall_mem_cons.mpr ⟨lw_p59, List.forall_mem_cons.mpr ⟨lw_p60, List.forall_mem_cons.mpr ⟨lw_p61, List.forall_mem_cons.mpr ⟨lw_p62, List.forall_mem_cons.mpr ⟨lw_p63, fun _ h => absurd h List.not_mem_nil⟩⟩⟩⟩⟩⟩⟩⟩⟩⟩⟩⟩⟩⟩⟩⟩
theorem lw_p64 : lw_okq (⟨"ChessLedgerModel", "is", "(I)Z"⟩, 15) := ⟨⟨by decide +kernel, by decide +kernel⟩, List.mem_of_getElem? (i := 711) (by decide +kernel), List.mem_of_getElem? (i := 978) (by decide +kernel), List.mem_of_getElem? (i := 979) (by decide +kernel)⟩
theorem lw_p65 : lw_okq (⟨"ChessLedgerModel", "next", "()I"⟩, 15) := ⟨⟨by decide +kernel, by decide +kernel⟩, List.mem_of_getElem? (i := 711) (by decide +kernel), List.mem_of_getElem? (i := 982) (by decide +kernel), List.mem_of_getElem? (i := 983) (by decide +kernel)⟩
theorem lw_p66 : lw_okq (⟨"ChessLedgerModel", "readRights", "()Z"⟩, 15) := ⟨⟨by decide +kernel, by decide +kernel⟩, List.mem_of_getElem? (i := 711) (by decide +kernel), List.mem_of_getElem? (i := 989) (by decide +kernel), List.mem_of_getElem? (i := 990) (by decide +kernel)⟩
theorem lw_p67 : lw_okq (⟨"ChessLedgerModel", "readFile", "()Z"⟩, 15) := ⟨⟨by decide +kernel, by decide +kernel⟩, List.mem_of_getElem? (i := 711) (by decide +kernel), List.mem_of_getElem? (i := 993) (by decide +kernel), List.mem_of_getElem? (i := 994) (by decide +kernel)⟩
theorem lw_p68 : lw_okq (⟨"ChessLedgerModel", "readCount", "()Z"⟩, 15) := ⟨⟨by decide +kernel, by decide +kernel⟩, List.mem_of_getElem? (i := 711) (by decide +kernel), List.mem_of_getElem? (i := 997) (by decide +kernel), List.mem_of_getElem? (i := 998) (by decide +kernel)⟩
theorem lw_p69 : lw_okq (⟨"ChessLedgerModel", "say", "(I)V"⟩, 15) := ⟨⟨by decide +kernel, by decide +kernel⟩, List.mem_of_getElem? (i := 711) (by decide +kernel), List.mem_of_getElem? (i := 1005) (by decide +kernel), List.mem_of_getElem? (i := 1006) (by decide +kernel)⟩
def lw_privs_5 : List (MethodName × Nat) := [(⟨"ChessLedgerModel", "is", "(I)Z"⟩, 15), (⟨"ChessLedgerModel", "next", "()I"⟩, 15), (⟨"ChessLedgerModel", "readRights", "()Z"⟩, 15), (⟨"ChessLedgerModel", "readFile", "()Z"⟩, 15), (⟨"ChessLedgerModel", "readCount", "()Z"⟩, 15), (⟨"ChessLedgerModel", "say", "(I)V"⟩, 15)]
theorem lw_r5 : ∀ q ∈ lw_privs_5, lw_okq q := List.forall_mem_cons.mpr ⟨lw_p64, List.forall_mem_cons.mpr ⟨lw_p65, List.forall_mem_cons.mpr ⟨lw_p66, List.forall_mem_cons.mpr ⟨lw_p67, List.forall_mem_cons.mpr ⟨lw_p68, List.forall_mem_cons.mpr ⟨lw_p69, fun _ h => absurd h List.not_mem_nil⟩⟩⟩⟩⟩⟩
def lw_privs : List (MethodName × Nat) := lw_privs_1 ++ (lw_privs_2 ++ (lw_privs_3 ++ (lw_privs_4 ++ (lw_privs_5))))
def lw_tbl : List Cond := k2_sels lw_privs ++ tables_1
theorem lw_privs_ok : ∀ q ∈ lw_privs, lw_okq q := by
  show ∀ q ∈ lw_privs_1 ++ (lw_privs_2 ++ (lw_privs_3 ++ (lw_privs_4 ++ (lw_privs_5)))), lw_okq q
  exact List.forall_mem_append.mpr ⟨lw_r1, List.forall_mem_append.mpr ⟨lw_r2, List.forall_mem_append.mpr ⟨lw_r3, List.forall_mem_append.mpr ⟨lw_r4, lw_r5⟩⟩⟩⟩
end
section
/-! numbers: an int is an Int between -2^31 and 2^31, a long one between -2^63 and 2^63 -/
def w32 (x : Int) : Int := (x + 2147483648) % 4294967296 - 2147483648
def w64 (x : Int) : Int := (x + 9223372036854775808) % 18446744073709551616 - 9223372036854775808
def ok32 (x : Int) : Prop := -2147483648 ≤ x ∧ x < 2147483648
def ok64 (x : Int) : Prop := -9223372036854775808 ≤ x ∧ x < 9223372036854775808
theorem w32_ok (x : Int) : ok32 (w32 x) := by unfold ok32 w32; omega
theorem w64_ok (x : Int) : ok64 (w64 x) := by unfold ok64 w64; omega
theorem w32_id {x : Int} (h : -2147483648 ≤ x) (h' : x < 2147483648) : w32 x = x := by unfold w32; omega
theorem w64_id {x : Int} (h : -9223372036854775808 ≤ x) (h' : x < 9223372036854775808) : w64 x = x := by unfold w64; omega
theorem ok32_id {x : Int} (h : ok32 x) : w32 x = x := w32_id h.1 h.2
theorem ok64_id {x : Int} (h : ok64 x) : w64 x = x := w64_id h.1 h.2
theorem jn_toInt (x : Int) : (Int32.ofInt x).toInt = w32 x := by
  rw [Int32.toInt_ofInt, Int.bmod_def]
  unfold w32
  simp only [Int32.size]
  split <;> omega
theorem jl_toInt (x : Int) : (Int64.ofInt x).toInt = w64 x := by
  rw [Int64.toInt_ofInt, Int.bmod_def]
  unfold w64
  simp only [Int64.size]
  split <;> omega
theorem jn_ok (x : Int32) : ok32 x.toInt := by
  have := jn_toInt x.toInt
  rw [Int32.ofInt_toInt] at this
  rw [this]
  exact w32_ok _
theorem jl_ok (x : Int64) : ok64 x.toInt := by
  have := jl_toInt x.toInt
  rw [Int64.ofInt_toInt] at this
  rw [this]
  exact w64_ok _
theorem jn_w (x : Int) : Int32.ofInt (w32 x) = Int32.ofInt x := by
  apply Int32.toInt_inj.mp
  rw [jn_toInt, jn_toInt, ok32_id (w32_ok x)]
theorem jl_w (x : Int) : Int64.ofInt (w64 x) = Int64.ofInt x := by
  apply Int64.toInt_inj.mp
  rw [jl_toInt, jl_toInt, ok64_id (w64_ok x)]
theorem jn_inj {a b : Int} (ha : ok32 a) (hb : ok32 b) : Int32.ofInt a = Int32.ofInt b ↔ a = b := by
  constructor
  · intro h
    have h2 := congrArg Int32.toInt h
    rw [jn_toInt, jn_toInt, ok32_id ha, ok32_id hb] at h2
    exact h2
  · intro h; rw [h]
theorem jn_lt {a b : Int} (ha : ok32 a) (hb : ok32 b) : Int32.ofInt a < Int32.ofInt b ↔ a < b := by
  rw [Int32.lt_iff_toInt_lt, jn_toInt, jn_toInt, ok32_id ha, ok32_id hb]
theorem jn_le {a b : Int} (ha : ok32 a) (hb : ok32 b) : Int32.ofInt a ≤ Int32.ofInt b ↔ a ≤ b := by
  rw [Int32.le_iff_toInt_le, jn_toInt, jn_toInt, ok32_id ha, ok32_id hb]
theorem jl_inj {a b : Int} (ha : ok64 a) (hb : ok64 b) : Int64.ofInt a = Int64.ofInt b ↔ a = b := by
  constructor
  · intro h
    have h2 := congrArg Int64.toInt h
    rw [jl_toInt, jl_toInt, ok64_id ha, ok64_id hb] at h2
    exact h2
  · intro h; rw [h]
theorem jl_lt {a b : Int} (ha : ok64 a) (hb : ok64 b) : Int64.ofInt a < Int64.ofInt b ↔ a < b := by
  rw [Int64.lt_iff_toInt_lt, jl_toInt, jl_toInt, ok64_id ha, ok64_id hb]
theorem jn_zero : (0 : Int32) = Int32.ofInt 0 := rfl
theorem ok32_0 : ok32 0 := by unfold ok32; omega
/-! operations -/
def jadd (a b : Int) : Int := w32 (a + b)
def jsub (a b : Int) : Int := w32 (a - b)
def jmul (a b : Int) : Int := w32 (a * b)
def jneg (a : Int) : Int := w32 (-a)
def jdiv (a b : Int) : Int := (Int32.ofInt a / Int32.ofInt b).toInt
def jrem (a b : Int) : Int := (Int32.ofInt a - Int32.ofInt a / Int32.ofInt b * Int32.ofInt b).toInt
def jand (a b : Int) : Int := (Int32.ofInt a &&& Int32.ofInt b).toInt
def jor (a b : Int) : Int := (Int32.ofInt a ||| Int32.ofInt b).toInt
def jxor (a b : Int) : Int := (Int32.ofInt a ^^^ Int32.ofInt b).toInt
def jshl (a b : Int) : Int := (Int32.ofInt a <<< (Int32.ofInt b &&& 31)).toInt
def jshr (a b : Int) : Int := (Int32.ofInt a >>> (Int32.ofInt b &&& 31)).toInt
def jushr (a b : Int) : Int := ((Int32.ofInt a).toUInt32 >>> ((Int32.ofInt b).toUInt32 &&& Int32.toUInt32 31)).toInt32.toInt
def jladd (a b : Int) : Int := w64 (a + b)
def jlsub (a b : Int) : Int := w64 (a - b)
def jlmul (a b : Int) : Int := w64 (a * b)
def jland (a b : Int) : Int := (Int64.ofInt a &&& Int64.ofInt b).toInt
def jlor (a b : Int) : Int := (Int64.ofInt a ||| Int64.ofInt b).toInt
def jlxor (a b : Int) : Int := (Int64.ofInt a ^^^ Int64.ofInt b).toInt
def jlshl (a b : Int) : Int := (Int64.ofInt a <<< ((Int32.ofInt b).toInt64 &&& 63)).toInt
def jlshr (a b : Int) : Int := (Int64.ofInt a >>> ((Int32.ofInt b).toInt64 &&& 63)).toInt
def jlushr (a b : Int) : Int := ((Int64.ofInt a).toUInt64 >>> ((Int32.ofInt b).toInt64.toUInt64 &&& Int64.toUInt64 63)).toInt64.toInt
def ji2l (a : Int) : Int := a
def jl2i (a : Int) : Int := w32 a
def ji2b (a : Int) : Int := (Int32.ofInt a).toInt8.toInt32.toInt
def ji2c (a : Int) : Int := ((Int32.ofInt a).toUInt32 % 65536).toInt32.toInt
def jcmp (a b : Int) : Int := if b < a then 1 else if a = b then 0 else -1
theorem jn_add (a b : Int) : Int32.ofInt a + Int32.ofInt b = Int32.ofInt (jadd a b) := by rw [jadd, jn_w, Int32.ofInt_add]
theorem jn_sub (a b : Int) : Int32.ofInt a - Int32.ofInt b = Int32.ofInt (jsub a b) := by rw [jsub, jn_w, Int32.ofInt_sub]
theorem jn_mul (a b : Int) : Int32.ofInt a * Int32.ofInt b = Int32.ofInt (jmul a b) := by rw [jmul, jn_w, Int32.ofInt_mul]
theorem jn_neg (a : Int) : -Int32.ofInt a = Int32.ofInt (jneg a) := by rw [jneg, jn_w, Int32.ofInt_neg]
theorem jl_add (a b : Int) : Int64.ofInt a + Int64.ofInt b = Int64.ofInt (jladd a b) := by rw [jladd, jl_w, Int64.ofInt_add]
theorem jl_sub (a b : Int) : Int64.ofInt a - Int64.ofInt b = Int64.ofInt (jlsub a b) := by rw [jlsub, jl_w, Int64.ofInt_sub]
theorem jl_mul (a b : Int) : Int64.ofInt a * Int64.ofInt b = Int64.ofInt (jlmul a b) := by rw [jlmul, jl_w, Int64.ofInt_mul]
theorem jl_i2l {a : Int} (ha : ok32 a) : (Int32.ofInt a).toInt64 = Int64.ofInt (ji2l a) := by
  apply Int64.toInt_inj.mp
  rw [Int32.toInt_toInt64, jn_toInt, jl_toInt, ok32_id ha, ji2l, w64_id] <;> (have := ha.1; have := ha.2; omega)
theorem jl_l2i (a : Int) : (Int64.ofInt a).toInt32 = Int32.ofInt (jl2i a) := by rw [jl2i, jn_w, Int64.toInt32_ofInt]
theorem jl_cmp {a b : Int} (ha : ok64 a) (hb : ok64 b) : lg_cmp (Int64.ofInt a) (Int64.ofInt b) = Int32.ofInt (jcmp a b) := by
  unfold lg_cmp jcmp
  simp only [GT.gt, jl_lt ha hb, jl_lt hb ha]
  by_cases h1 : b < a
  · simp [h1]
  · by_cases h2 : a = b
    · subst h2; simp
    · have h3 : a < b := by omega
      simp [h1, h2, jl_inj ha hb]
end
section
/-! the claim's tables: written by gen/world.py -/
abbrev jV : Type := Nat × Int
abbrev jH : Type := Nat → Nat → Int
def jT0 : u_T := fun k => match k with
  | 0 => ("ChessLedger", "game", "LChessLedger$Game;", true)
  | 1 => ("ChessLedger", "board", "LChessLedger$Board;", true)
  | 2 => ("ChessLedger", "past", "LChessLedger$Past;", true)
  | 3 => ("ChessLedger", "now", "LChessLedger$MoveTable;", true)
  | 4 => ("ChessLedger", "next", "LChessLedger$MoveTable;", true)
  | 5 => ("ChessLedger", "reader", "LChessLedger$Reader;", true)
  | 6 => ("ChessLedger", "typed", "LChessLedger$Text;", true)
  | 7 => ("ChessLedger", "draft", "LChessLedger$Board;", true)
  | 8 => ("ChessLedger", "printed", "LChessLedger$Text;", true)
  | _ => ("ChessLedger", "good", "Z", false)
def jT1 : u_T := fun k => match k with
  | 0 => ("ChessLedger$Board", "squares", "[I", true)
  | 1 => ("ChessLedger$Board", "side", "I", false)
  | 2 => ("ChessLedger$Board", "rights", "I", false)
  | 3 => ("ChessLedger$Board", "file", "I", false)
  | _ => ("ChessLedger$Board", "count", "I", false)
def jT2 : u_T := fun k => match k with
  | 0 => ("ChessLedger$Game", "board", "LChessLedger$Board;", true)
  | 1 => ("ChessLedger$Game", "codes", "[I", true)
  | 2 => ("ChessLedger$Game", "takenPieces", "[I", true)
  | 3 => ("ChessLedger$Game", "rightsBefore", "[I", true)
  | 4 => ("ChessLedger$Game", "filesBefore", "[I", true)
  | 5 => ("ChessLedger$Game", "countsBefore", "[I", true)
  | _ => ("ChessLedger$Game", "length", "I", false)
def jT3 : u_T := fun k => match k with
  | 0 => ("ChessLedger$MoveTable", "plain", "[J", true)
  | _ => ("ChessLedger$MoveTable", "becoming", "[J", true)
def jT4 : u_T := fun k => match k with
  | _ => ("ChessLedger$Past", "words", "[J", true)
def jT5 : u_T := fun k => match k with
  | 0 => ("ChessLedger$Reader", "text", "LChessLedger$Text;", true)
  | 1 => ("ChessLedger$Reader", "draft", "LChessLedger$Board;", true)
  | 2 => ("ChessLedger$Reader", "place", "I", false)
  | _ => ("ChessLedger$Reader", "passedRank", "I", false)
def jT6 : u_T := fun k => match k with
  | 0 => ("ChessLedger$Text", "letters", "[C", true)
  | _ => ("ChessLedger$Text", "length", "I", false)
def jT7 : u_T := fun k => match k with
  | 0 => ("ChessLedgerModel", "thrown", "I", false)
  | 1 => ("ChessLedgerModel", "boards", "[B", true)
  | 2 => ("ChessLedgerModel", "sides", "[I", true)
  | 3 => ("ChessLedgerModel", "rights", "[I", true)
  | 4 => ("ChessLedgerModel", "files", "[I", true)
  | 5 => ("ChessLedgerModel", "counts", "[I", true)
  | 6 => ("ChessLedgerModel", "takers", "[J", true)
  | 7 => ("ChessLedgerModel", "made", "I", false)
  | 8 => ("ChessLedgerModel", "good", "Z", false)
  | 9 => ("ChessLedgerModel", "text", "[I", true)
  | 10 => ("ChessLedgerModel", "length", "I", false)
  | 11 => ("ChessLedgerModel", "place", "I", false)
  | 12 => ("ChessLedgerModel", "over", "I", false)
  | 13 => ("ChessLedgerModel", "printed", "[I", true)
  | _ => ("ChessLedgerModel", "printedSize", "I", false)
abbrev jcl : List vw_C := [("ChessLedger", jT0, 10), ("ChessLedger$Board", jT1, 5), ("ChessLedger$Game", jT2, 7), ("ChessLedger$MoveTable", jT3, 2), ("ChessLedger$Past", jT4, 1), ("ChessLedger$Reader", jT5, 4), ("ChessLedger$Text", jT6, 2), ("ChessLedgerModel", jT7, 15)]
/-- the types of the fields: 0 int, 1 long, 2 a reference, 3 boolean -/
def jft : List (List Nat) := [[2, 2, 2, 2, 2, 2, 2, 2, 2, 3], [2, 0, 0, 0, 0], [2, 2, 2, 2, 2, 2, 0], [2, 2], [2], [2, 2, 0, 0], [2, 0], [0, 2, 2, 2, 2, 2, 2, 0, 3, 2, 0, 0, 0, 2, 0]]
/-- the cells: (0, class), or an array: 1 int, 2 long, 3 byte, 4 char, with its length -/
def jkd : List (Nat × Nat) := [(0, 0), (0, 2), (0, 1), (1, 64), (1, 301), (1, 301), (1, 301), (1, 301), (1, 301), (0, 4), (2, 1806), (0, 3), (2, 64), (2, 64), (0, 3), (2, 64), (2, 64), (0, 5), (0, 6), (4, 100), (0, 1), (1, 64), (0, 6), (4, 100), (0, 7), (3, 19456), (1, 304), (1, 304), (1, 304), (1, 304), (2, 304), (1, 100), (1, 100)]
def jN : Nat := 33
theorem jN_len : jkd.length = jN := by decide
/-- what the fields that are references hold -/
def jrf : List (List Nat) := [[1, 2, 9, 11, 14, 17, 18, 20, 22, 0], [2, 4, 5, 6, 7, 8, 0], [3, 0, 0, 0, 0], [], [], [], [], [], [], [10], [], [12, 13], [], [], [15, 16], [], [], [18, 20, 0, 0], [19, 0], [], [21, 0, 0, 0, 0], [], [23, 0], [], [0, 25, 26, 27, 28, 29, 30, 0, 0, 31, 0, 0, 0, 32, 0], [], [], [], [], [], [], [], []]
/-- arrays that are only read: 0 the script; what the others hold -/
def jxc : List (List Int) := [[], [1, 1, 0, -1, -1, -1, 0, 1], [0, 1, 1, 1, 0, -1, -1, -1], [1, 2, 2, 1, -1, -2, -2, -1], [2, 1, -1, -2, -2, -1, 1, 2], [80, 78, 66, 82, 81, 75, 112, 110, 98, 114, 113, 107], [75, 81, 107, 113]]
def jxn : Nat := 7
def jxt : List FieldType := [.int, .int, .int, .int, .int, .byte, .byte]
def jst : List (String × String × String × jV) := [("ChessLedger", "FILE_STEPS", "[I", (3, 1)), ("ChessLedger", "RANK_STEPS", "[I", (3, 2)), ("ChessLedger", "KNIGHT_FILES", "[I", (3, 3)), ("ChessLedger", "KNIGHT_RANKS", "[I", (3, 4)), ("java/lang/String", "COMPACT_STRINGS", "Z", (0, 1)), ("jdk/internal/util/Preconditions", "SIOOBE_FORMATTER", "Ljava/util/function/BiFunction;", (4, 0))]
def jsr : List (String × Nat × String × Nat) := [("ChessLedger$Reader", 86, "PNBRQKpnbrqk", 7), ("ChessLedger$Reader", 94, "KQkq", 8), ("ChessLedger$Text", 40, "PNBRQKpnbrqk", 7), ("ChessLedger$Text", 70, "KQkq", 8)]
def jso : List (Nat × Nat) := [(7, 5), (8, 6)]
def jyn : List MethodName := [⟨"ChessLedger", "clear", "()V"⟩, ⟨"ChessLedger$Board", "wipe", "()V"⟩, ⟨"java/util/Arrays", "fill", "([II)V"⟩, ⟨"ChessLedger$Board", "enterState", "(IIII)V"⟩, ⟨"ChessLedger$Game", "forget", "()V"⟩, ⟨"ChessLedger", "put", "(II)I"⟩, ⟨"ChessLedger", "isSquare", "(I)Z"⟩, ⟨"ChessLedger", "set", "(IIII)I"⟩, ⟨"ChessLedger", "isSide", "(I)Z"⟩, ⟨"ChessLedger$Board", "copyFrom", "(LChessLedger$Board;)V"⟩, ⟨"ChessLedger", "adoptDraft", "()Z"⟩, ⟨"ChessLedger$Board", "isGood", "()Z"⟩, ⟨"ChessLedger$Board", "hasKingsAndPawnsRight", "()Z"⟩, ⟨"ChessLedger", "kindOf", "(I)I"⟩, ⟨"ChessLedger", "pieceOf", "(II)I"⟩, ⟨"ChessLedger$Board", "hasRightsRight", "()Z"⟩, ⟨"ChessLedger", "kingHome", "(I)I"⟩, ⟨"ChessLedger", "rankFor", "(II)I"⟩, ⟨"ChessLedger", "squareAt", "(II)I"⟩, ⟨"ChessLedger", "rookHome", "(II)I"⟩, ⟨"ChessLedger", "rightOf", "(II)I"⟩, ⟨"ChessLedger$Board", "hasFileRight", "()Z"⟩, ⟨"ChessLedger", "otherSide", "(I)I"⟩, ⟨"ChessLedger$Board", "isKingAttacked", "(I)Z"⟩, ⟨"ChessLedger$Board", "kingSquare", "(I)I"⟩, ⟨"ChessLedger$Board", "attacksOn", "(II)J"⟩, ⟨"ChessLedger$Board", "firstAlong", "(II)I"⟩, ⟨"ChessLedger", "shifted", "(III)I"⟩, ⟨"ChessLedger", "sideOf", "(I)I"⟩, ⟨"ChessLedger$Board", "attacksAgainst", "(III)Z"⟩, ⟨"ChessLedger", "forwardOf", "(I)I"⟩, ⟨"ChessLedger", "reachOf", "(II)I"⟩, ⟨"ChessLedger$Board", "passingTakers", "()J"⟩, ⟨"ChessLedger$Board", "passedSquare", "()I"⟩, ⟨"ChessLedger$Board", "isSafeBehind", "(III)Z"⟩, ⟨"ChessLedger$Board", "victimSquare", "(II)I"⟩, ⟨"ChessLedger$Past", "enter", "(ILChessLedger$Board;J)V"⟩, ⟨"ChessLedger$Past", "packed", "(LChessLedger$Board;I)J"⟩, ⟨"ChessLedger", "at", "(I)I"⟩, ⟨"ChessLedger", "state", "(I)I"⟩, ⟨"ChessLedger", "moves", "()I"⟩, ⟨"ChessLedger$MoveTable", "gather", "(LChessLedger$Board;)I"⟩, ⟨"java/util/Arrays", "fill", "([JJ)V"⟩, ⟨"ChessLedger$MoveTable", "addPiece", "(LChessLedger$Board;I)V"⟩, ⟨"ChessLedger$MoveTable", "addSteps", "(LChessLedger$Board;I)V"⟩, ⟨"ChessLedger$MoveTable", "addPawn", "(II)V"⟩, ⟨"ChessLedger$MoveTable", "addTakes", "(LChessLedger$Board;I)V"⟩, ⟨"ChessLedger$Board", "mayPawnTake", "(I)Z"⟩, ⟨"ChessLedger$MoveTable", "addLeaps", "(LChessLedger$Board;I)V"⟩, ⟨"ChessLedger$MoveTable", "addAlong", "(LChessLedger$Board;III)V"⟩, ⟨"ChessLedger$MoveTable", "addCastling", "(LChessLedger$Board;)V"⟩, ⟨"ChessLedger$Board", "mayCastle", "(I)Z"⟩, ⟨"ChessLedger$MoveTable", "legalOf", "(LChessLedger$Board;JII)J"⟩, ⟨"java/lang/Long", "bitCount", "(J)I"⟩, ⟨"java/lang/Long", "numberOfTrailingZeros", "(J)I"⟩, ⟨"java/lang/Integer", "numberOfTrailingZeros", "(I)I"⟩, ⟨"ChessLedger$MoveTable", "size", "()I"⟩, ⟨"ChessLedger", "move", "(I)I"⟩, ⟨"ChessLedger$MoveTable", "codeOf", "(I)I"⟩, ⟨"ChessLedger$MoveTable", "sourcesOf", "(II)J"⟩, ⟨"ChessLedger$MoveTable", "bitNumber", "(JI)I"⟩, ⟨"ChessLedger", "make", "(I)I"⟩, ⟨"ChessLedger$MoveTable", "holds", "(I)Z"⟩, ⟨"ChessLedger$Game", "play", "(I)V"⟩, ⟨"ChessLedger$Game", "remember", "(II)V"⟩, ⟨"ChessLedger$Game", "isCastling", "(III)Z"⟩, ⟨"ChessLedger$Game", "castledRookFrom", "(II)I"⟩, ⟨"ChessLedger$Game", "shiftPiece", "(II)V"⟩, ⟨"ChessLedger$Game", "rightsAt", "(I)I"⟩, ⟨"ChessLedger", "back", "()I"⟩, ⟨"ChessLedger$Game", "takeBack", "()V"⟩, ⟨"ChessLedger", "attackers", "(II)J"⟩, ⟨"ChessLedger", "checked", "()I"⟩, ⟨"ChessLedger", "status", "()I"⟩, ⟨"ChessLedger$Past", "countSame", "(I)I"⟩, ⟨"ChessLedger$Past", "isSame", "(II)Z"⟩, ⟨"ChessLedger$Board", "isBare", "()Z"⟩, ⟨"ChessLedger", "seen", "()I"⟩, ⟨"ChessLedger", "lines", "(I)I"⟩, ⟨"ChessLedger", "mates", "()I"⟩, ⟨"ChessLedger", "type", "(JI)I"⟩, ⟨"ChessLedger", "byteOf", "(JI)I"⟩, ⟨"ChessLedger$Text", "add", "(I)V"⟩, ⟨"ChessLedger", "read", "()I"⟩, ⟨"ChessLedger$Reader", "parse", "()I"⟩, ⟨"ChessLedger$Reader", "takeSquares", "()Z"⟩, ⟨"ChessLedger$Reader", "takeLetter", "(I)Z"⟩, ⟨"ChessLedger$Reader", "letter", "()I"⟩, ⟨"ChessLedger$Text", "letterAt", "(I)I"⟩, ⟨"ChessLedger$Reader", "takeRank", "(I)Z"⟩, ⟨"ChessLedger$Reader", "pieceFor", "(I)I"⟩, ⟨"java/lang/String", "charAt", "(I)C"⟩, ⟨"java/lang/String", "isLatin1", "()Z"⟩, ⟨"java/lang/StringLatin1", "charAt", "([BI)C"⟩, ⟨"java/lang/String", "checkIndex", "(II)V"⟩, ⟨"jdk/internal/util/Preconditions", "checkIndex", "(IILjava/util/function/BiFunction;)I"⟩, ⟨"ChessLedger$Reader", "takeSide", "()Z"⟩, ⟨"ChessLedger$Reader", "takeRights", "()Z"⟩, ⟨"ChessLedger$Reader", "takePassed", "()Z"⟩, ⟨"ChessLedger$Reader", "takeCount", "()Z"⟩, ⟨"ChessLedger$Text", "wipe", "()V"⟩, ⟨"ChessLedger$Reader", "isPassedRankDue", "()Z"⟩, ⟨"ChessLedger", "print", "()I"⟩, ⟨"ChessLedger$Text", "addSquares", "(LChessLedger$Board;)V"⟩, ⟨"ChessLedger$Text", "addRank", "(LChessLedger$Board;I)V"⟩, ⟨"ChessLedger$Text", "addGap", "(I)V"⟩, ⟨"ChessLedger$Text", "addState", "(LChessLedger$Board;)V"⟩, ⟨"ChessLedger$Text", "addRights", "(I)V"⟩, ⟨"ChessLedger$Text", "addPassed", "(I)V"⟩, ⟨"ChessLedger$Text", "addNumber", "(I)V"⟩, ⟨"ChessLedger", "character", "(I)I"⟩, ⟨"ChessLedger", "check", "()I"⟩, ⟨"ChessLedger$Board", "isLike", "(LChessLedger$Board;)Z"⟩, ⟨"ChessLedgerModel", "clear", "()V"⟩, ⟨"ChessLedgerModel", "put", "(II)I"⟩, ⟨"ChessLedgerModel", "copy", "(II)V"⟩, ⟨"ChessLedgerModel", "set", "(IIII)I"⟩, ⟨"ChessLedgerModel", "isGood", "(I)Z"⟩, ⟨"ChessLedgerModel", "hasKings", "(I)Z"⟩, ⟨"ChessLedgerModel", "piece", "(II)I"⟩, ⟨"ChessLedgerModel", "kindOf", "(I)I"⟩, ⟨"ChessLedgerModel", "areRights", "(I)Z"⟩, ⟨"ChessLedgerModel", "isFile", "(I)Z"⟩, ⟨"ChessLedgerModel", "kingOf", "(II)I"⟩, ⟨"ChessLedgerModel", "isAttacked", "(III)Z"⟩, ⟨"ChessLedgerModel", "isSeen", "(IIIII)Z"⟩, ⟨"ChessLedgerModel", "isOf", "(III)Z"⟩, ⟨"ChessLedgerModel", "doesAttack", "(III)Z"⟩, ⟨"ChessLedgerModel", "size", "(I)I"⟩, ⟨"ChessLedgerModel", "isClear", "(III)Z"⟩, ⟨"ChessLedgerModel", "signOf", "(I)I"⟩, ⟨"ChessLedgerModel", "isJumped", "(IIIII)Z"⟩, ⟨"ChessLedgerModel", "begin", "()V"⟩, ⟨"ChessLedgerModel", "findTakers", "(I)V"⟩, ⟨"ChessLedgerModel", "isBehind", "(III)Z"⟩, ⟨"ChessLedgerModel", "isSafe", "(IIII)Z"⟩, ⟨"ChessLedgerModel", "lay", "(III)V"⟩, ⟨"ChessLedgerModel", "at", "(I)I"⟩, ⟨"ChessLedgerModel", "state", "(I)I"⟩, ⟨"ChessLedgerModel", "moves", "()I"⟩, ⟨"ChessLedgerModel", "movesOf", "(I)I"⟩, ⟨"ChessLedgerModel", "isLast", "(III)Z"⟩, ⟨"ChessLedgerModel", "isLegal", "(IIII)Z"⟩, ⟨"ChessLedgerModel", "mayGo", "(IIII)Z"⟩, ⟨"ChessLedgerModel", "mayPawn", "(IIII)Z"⟩, ⟨"ChessLedgerModel", "mayCastle", "(III)Z"⟩, ⟨"ChessLedgerModel", "move", "(I)I"⟩, ⟨"ChessLedgerModel", "codeOf", "(II)I"⟩, ⟨"ChessLedgerModel", "make", "(I)I"⟩, ⟨"ChessLedgerModel", "go", "(IIII)V"⟩, ⟨"ChessLedgerModel", "rightsOf", "(I)I"⟩, ⟨"ChessLedgerModel", "back", "()I"⟩, ⟨"ChessLedgerModel", "attackers", "(II)J"⟩, ⟨"ChessLedgerModel", "attackersOf", "(III)J"⟩, ⟨"ChessLedgerModel", "checked", "()I"⟩, ⟨"ChessLedgerModel", "isChecked", "(I)Z"⟩, ⟨"ChessLedgerModel", "seen", "()I"⟩, ⟨"ChessLedgerModel", "seenOf", "()I"⟩, ⟨"ChessLedgerModel", "status", "()I"⟩, ⟨"ChessLedgerModel", "isDead", "()Z"⟩, ⟨"ChessLedgerModel", "lines", "(I)I"⟩, ⟨"ChessLedgerModel", "behindAll", "(I)I"⟩, ⟨"ChessLedgerModel", "mates", "()I"⟩, ⟨"ChessLedgerModel", "type", "(JI)I"⟩, ⟨"ChessLedgerModel", "read", "()I"⟩, ⟨"ChessLedgerModel", "readAll", "()Z"⟩, ⟨"ChessLedgerModel", "readSquares", "()I"⟩, ⟨"ChessLedgerModel", "is", "(I)Z"⟩, ⟨"ChessLedgerModel", "next", "()I"⟩, ⟨"ChessLedgerModel", "letterOf", "(I)I"⟩, ⟨"ChessLedgerModel", "readRights", "()Z"⟩, ⟨"ChessLedgerModel", "readFile", "()Z"⟩, ⟨"ChessLedgerModel", "readCount", "()Z"⟩, ⟨"ChessLedgerModel", "print", "()I"⟩, ⟨"ChessLedgerModel", "say", "(I)V"⟩, ⟨"ChessLedgerModel", "character", "(I)I"⟩, ⟨"ChessLedgerModel", "check", "()I"⟩, ⟨"ChessLedgerLaw", "law", "([I)Z"⟩]
end
section
/-! the judgement: a frame of a method with abstract locals, stack and world comes to the method's answer -/
abbrev jE : Type := Launch × va_G × (Nat → ClassId) × (Nat → Nat) × (Nat → Nat) × Nat × (Nat → Int) × Option Nat
abbrev jel (E : jE) : Launch := E.1
abbrev jeD (E : jE) : va_G := E.2.1
abbrev jca (E : jE) : Nat → ClassId := E.2.2.1
abbrev jad (E : jE) : Nat → Nat := E.2.2.2.1
abbrev jex (E : jE) : Nat → Nat := E.2.2.2.2.1
abbrev jsl (E : jE) : Nat := E.2.2.2.2.2.1
abbrev jsx (E : jE) : Nat → Int := E.2.2.2.2.2.2.1
abbrev jeo (E : jE) : Option Nat := E.2.2.2.2.2.2.2
def jty0 (t n k : Nat) : Nat := match t with
  | 0 => (jft.getD n []).getD k 2
  | 1 => 0
  | 2 => 1
  | 3 => 4
  | 4 => 5
  | _ => 2
def jty (a k : Nat) : Nat := jty0 (jkd.getD a (9, 0)).1 (jkd.getD a (9, 0)).2 k
def jokT (t : Nat) (x : Int) : Prop := match t with
  | 0 => ok32 x
  | 1 => ok64 x
  | 3 => x = 0 ∨ x = 1
  | 4 => -128 ≤ x ∧ x < 128
  | 5 => 0 ≤ x ∧ x < 65536
  | _ => True
def jHok (h : jH) : Prop := ∀ a k, jokT (jty a k) (h a k)
def tv (E : jE) (v : jV) : Value := match v.1 with
  | 0 => .int (Int32.ofInt v.2)
  | 1 => .long (Int64.ofInt v.2)
  | 2 => .ref (jad E v.2.toNat)
  | 3 => .ref (jex E v.2.toNat)
  | _ => va_rf (jeo E)
def jtp (E : jE) (q : Nat × jV) : Nat × Value := (q.1, tv E q.2)
def jokV (v : jV) : Prop := match v.1 with
  | 0 => ok32 v.2
  | 1 => ok64 v.2
  | _ => True
def jokS (st : List jV) : Prop := ∀ v ∈ st, jokV v
def jokL (L : List (Nat × jV)) : Prop := ∀ q ∈ L, jokV q.2
def jfv (E : jE) (a k : Nat) (x : Int) : Value := match jty a k with
  | 2 => .ref (jad E ((jrf.getD a []).getD k 0))
  | 1 => .long (Int64.ofInt x)
  | _ => .int (Int32.ofInt x)
def jent (E : jE) (a : Nat) (f : Nat → Int) : va_E := match jkd.getD a (9, 0) with
  | (0, ci) => .inr (ci, (List.range (jft.getD ci []).length).map (fun k => jfv E a k (f k)))
  | (2, n) => .inl (jca E 2, n, .inr (.inl (fun j => Int64.ofInt (f j))))
  | (t, n) => .inl (jca E t, n, .inl (fun j => Int32.ofInt (f j)))
def jwd (E : jE) (h : jH) : va_W := (List.range jN).map (fun a => (jad E a, jent E a (h a)))
def jcp (h : jH) (a : Nat) (f : Nat → Int) : jH := fun a' => if a' = a then f else h a'
def jup (h : jH) (a k : Nat) (v : Int) : jH := jcp h a (fun k' => if k' = k then v else h a k')
theorem jwd_at {E : jE} {h : jH} {a : Nat} (ha : a < jN) : (jwd E h)[a]? = some (jad E a, jent E a (h a)) := by
  simp [jwd, ha]
theorem jwd_cp {E : jE} {h : jH} {a : Nat} (ha : a < jN) (f : Nat → Int) : (jwd E h).set a (jad E a, jent E a f) = jwd E (jcp h a f) := by
  apply List.ext_getElem?
  intro i
  rw [List.getElem?_set]
  by_cases hi : a = i
  · subst hi
    rw [if_pos rfl, jwd_at ha]
    simp [jwd, ha, jcp]
  · rw [if_neg hi]
    simp only [jwd, List.getElem?_map]
    by_cases h2 : i < jN
    · simp [h2, jcp, Ne.symm hi]
    · simp [h2]
def jtys (E : jE) : List (ClassId × FieldType) := [(jca E 1, .int), (jca E 2, .long), (jca E 3, .byte), (jca E 4, .char)]
def jAE (E : jE) : Nat → Prop := fun q => ∃ i, i < jN ∧ q = jad E i
def jDi (E : jE) : Prop := ∀ i j, i < jN → j < jN → jad E i = jad E j → i = j
def jA (E : jE) (A : Nat → Prop) : Prop := jDi E ∧ ∀ i, i < jN → A (jad E i)
theorem jwd_D {E : jE} {A : Nat → Prop} {h : jH} (hA : jA E A) : va_D A (jwd E h) := by
  have key : ∀ (i : Nat) (q : Nat × va_E), (jwd E h)[i]? = some q → i < jN ∧ q.1 = jad E i := by
    intro i q hq
    by_cases hi : i < jN
    · rw [jwd_at hi] at hq
      cases hq
      exact ⟨hi, rfl⟩
    · rw [List.getElem?_eq_none (by simp [jwd]; omega)] at hq
      cases hq
  refine ⟨fun i j p q hp hq e => ?_, fun k q hq => ?_⟩
  · obtain ⟨h1, h2⟩ := key i p hp
    obtain ⟨h3, h4⟩ := key j q hq
    exact hA.1 i j h1 h3 (by rw [← h2, ← h4]; exact e)
  · obtain ⟨h1, h2⟩ := key k q hq
    rw [h2]
    exact hA.2 k h1
/-! methods: (name, code, locals, answer), their instructions with what they link, (frames, locals' room, static or not, parameters), places of their words -/
abbrev jI : Type := Instr × Nat × List Int
abbrev jM : Type := (MethodName × ByteArray × Nat × Option FieldType) × List (Option jI) × (Nat × Nat × Nat × Nat) × List Nat
abbrev jy (M : jM) : MethodName := M.1.1
abbrev jb (M : jM) : ByteArray := M.1.2.1
abbrev jL (M : jM) : Nat := M.1.2.2.1
abbrev jr (M : jM) : Option FieldType := M.1.2.2.2
abbrev jt (M : jM) : List (Option jI) := M.2.1
abbrev jf (M : jM) : Nat := M.2.2.1.1
abbrev jlr (M : jM) : Nat := M.2.2.1.2.1
abbrev jk (M : jM) : Nat := M.2.2.1.2.2.1
abbrev jn (M : jM) : Nat := M.2.2.1.2.2.2
abbrev jw (M : jM) : List Nat := M.2.2.2
def jnest : Cond → Bool
  | .fieldLinkNest .. => true
  | .methodLinkNest .. => true
  | _ => false
def jWS : List Cond := lw_tbl.filter goodWord
def jNW : List Cond := lw_tbl.filter jnest
def jwat (i : Nat) (w : Cond) : Bool := decide (lw_tbl[i]? = some w) && goodWord w
def jnat (i : Nat) (w : Cond) : Bool := decide (lw_tbl[i]? = some w) && jnest w
theorem jwat_in {i : Nat} {w : Cond} (h : jwat i w = true) : w ∈ jWS := by
  simp only [jwat, Bool.and_eq_true, decide_eq_true_eq] at h
  exact List.mem_filter.mpr ⟨List.mem_of_getElem? h.1, h.2⟩
theorem jnat_in {i : Nat} {w : Cond} (h : jnat i w = true) : w ∈ jNW := by
  simp only [jnat, Bool.and_eq_true, decide_eq_true_eq] at h
  exact List.mem_filter.mpr ⟨List.mem_of_getElem? h.1, h.2⟩
theorem jNW_is {w : Cond} (h : w ∈ jNW) : jnest w = true := (List.mem_filter.mp h).2
theorem jWS_good {w : Cond} (h : w ∈ jWS) : (w.onTables && w.keeps) = true ∨ ∃ ty, w = .arrayClass ty := good_of_word (List.mem_filter.mp h).2
def jhost : String := "ChessLedger"
def jws (M : jM) : List Cond := .code (jy M) (jb M) (jL M) (jr M) :: jWS
def jrm (M : jM) : Room := { frames := jf M, cells := 0, slots := 0, locals := jlr M }
/-! what lies outside the world and is only read: the script, static arrays, statics, String constants; words of nest mates -/
def jxl (E : jE) (e : Nat) : Nat := if e = 0 then jsl E else (jxc.getD e []).length
def jxv (E : jE) (e j : Nat) : Int := if e = 0 then jsx E j else (jxc.getD e []).getD j 0
def jX (E : jE) (A : Nat → Prop) (U : State) (H : Heap) : Prop :=
  (∀ e, e < jxn → va_T (jxt.getD e .int) (jex E e) (jxl E e) (fun j => .int (Int32.ofInt (jxv E e j))) A U H) ∧
  (∀ q ∈ jst, va_Z q.1 q.2.1 q.2.2.1 (tv E q.2.2.2) A U H) ∧
  (∀ q ∈ jsr, vk_R q.1 q.2.1 q.2.2.1 (jex E q.2.2.2) U) ∧
  (∀ q ∈ jso, va_O "java/lang/String" (jex E q.1) A U H ∧ va_OF "java/lang/String" "coder" "B" (.int 0) (jex E q.1) A U H ∧ va_OF "java/lang/String" "value" "[B" (.ref (jex E q.2)) (jex E q.1) A U H) ∧
  (∀ w ∈ jNW, va_Nw w U)
theorem jX.move {E : jE} {A B : Nat → Prop} {s U : State} {H H1 : Heap} (h : jX E A s H) (hW : s.WarmedH U.vm) (hk : ∀ a : Nat, a < H.size → ¬ A a → H1[a]? = H[a]?) (hAB : ∀ q, B q → A q) : jX E B U H1 := by
  obtain ⟨h1, h2, h3, h4, h5⟩ := h
  refine ⟨fun e he => (va_T.moved hW.alike ((h1 e he).kept hk)).narrow hAB, fun q hq => (va_Z.moved hW.alike ((h2 q hq).kept hk)).narrow hAB, fun q hq => (h3 q hq).warm hW, fun q hq => ?_, fun w hw => ?_⟩
  · obtain ⟨a1, a2, a3⟩ := h4 q hq
    exact ⟨(va_O.moved hW.alike (a1.kept hk)).narrow hAB, (va_OF.moved hW.alike (a2.kept hk)).narrow hAB, (va_OF.moved hW.alike (a3.kept hk)).narrow hAB⟩
  · have h6 := h5 w hw
    have h7 := jNW_is hw
    cases w <;> first | exact va_Nw.warmF hW h6 | exact va_Nw.warmM hW h6 | (simp [jnest] at h7)
theorem jX.same {E : jE} {A : Nat → Prop} {u U : State} {H : Heap} (hv : U.vm = u.vm) (h : jX E A u H) : jX E A U H := by
  have ha : u.vm.Alike U.vm := by rw [hv]; exact Vm.Alike.refl _
  obtain ⟨h1, h2, h3, h4, h5⟩ := h
  refine ⟨fun e he => va_T.moved ha (h1 e he), fun q hq => va_Z.moved ha (h2 q hq), fun q hq => (h3 q hq).same hv, fun q hq => ?_, fun w hw => ?_⟩
  · obtain ⟨a1, a2, a3⟩ := h4 q hq
    exact ⟨va_O.moved ha a1, va_OF.moved ha a2, va_OF.moved ha a3⟩
  · have h6 := h5 w hw
    have h7 := jNW_is hw
    cases w <;> first | exact va_Nw.same rfl hv.symm h6 | (simp [jnest] at h7)
def jFr (E : jE) (M : jM) (A : Nat → Prop) (p : Program) (R : Room) (s : State) (m : MethodId) (args : Array Value) (meth : Method) (c : Code) (cells slots : Nat) : Prop :=
  p.tables.exec = Jvm.exec ∧ c.code = jb M ∧ c.maxLocals = jL M ∧ meth.locks = false ∧ s.vm.findClass (jy M).cls = some m.cls ∧ (∀ w ∈ jWS, w.before args s = true) ∧ va_K (jeD E) jcl (jtys E) s ∧ jX E A s s.heap ∧ jA E A ∧ jf M ≤ R.frames ∧ jlr M ≤ R.locals ∧ cells ≤ R.cells ∧ slots ≤ R.slots
/-- an answer that a method of that type may give, by that instruction -/
def jro (ty : Option FieldType) (i : Instr) (r : Option jV) : Prop := match ty, i, r with
  | some .int, .ireturn, some (0, _) => True
  | some .boolean, .ireturn, some (0, x) => x = 0 ∨ x = 1
  | some .char, .ireturn, some (0, x) => 0 ≤ x ∧ x < 65536
  | some .long, .lreturn, some (1, _) => True
  | none, .return_, none => True
  | _, _, _ => False
def jG (E : jE) (M : jM) (pc : Nat) (L : List (Nat × jV)) (st : List jV) (h : jH) (r : Option jV) (h' : jH) : Prop :=
  ∀ (A : Nat → Prop) (p : Program) (e : Env) (R : Room) (s : State) (m : MethodId) (args : Array Value) (below : List Frame) (meth : Method) (c : Code) (cells slots : Nat) (Q : State → Prop),
    jFr E M A p R s m args meth c cells slots →
    (∀ (pc' : Nat) (ls' : Array Slot) (H' : Heap) (locs' : List Loc) (i : Instr), decode (jb M) pc' = .ok (i, 1) → jro (jr M) i r → jokS r.toList → jHok h' → va_P (jeD E) jcl (jwd E h') H' → va_S A s.heap H' locs' → W p (jel E) e R s m args below meth c H' locs' cells slots Q (F0 m pc' ls' (r.toList.map (tv E)))) →
    ∀ (H : Heap) (locs : List Loc) (ls : Array Slot), jokL L → jokS st → jHok h → lv_has ls (jL M) (L.map (jtp E)) → va_P (jeD E) jcl (jwd E h) H → va_S A s.heap H locs →
      W p (jel E) e R s m args below meth c H locs cells slots Q (F0 m pc ls (st.map (tv E)))
section JG
variable {E : jE} {M : jM} {pc pc1 : Nat} {L L1 : List (Nat × jV)} {st st1 : List jV} {h h1 : jH} {r : Option jV} {h' : jH}
/-- fewer locals -/
theorem jG.sub (g : jG E M pc L1 st h r h') (hs : ∀ q ∈ L1, q ∈ L) : jG E M pc L st h r h' := by
  intro A p e R s m args below meth c cells slots Q hF hend H locs ls oL oS oH hl hP hS
  refine g A p e R s m args below meth c cells slots Q hF hend H locs ls (fun q hq => oL q (hs q hq)) oS oH ⟨hl.1, hl.2.1, fun q hq => ?_⟩ hP hS
  obtain ⟨q0, h0, rfl⟩ := List.mem_map.mp hq
  exact hl.2.2 _ (List.mem_map.mpr ⟨q0, hs q0 h0, rfl⟩)
theorem jokS_cons {v : jV} {st : List jV} (hv : jokV v) (h : jokS st) : jokS (v :: st) := by
  intro w hw
  rcases List.mem_cons.mp hw with rfl | hw
  · exact hv
  · exact h w hw
theorem jokS_tl {v : jV} {st : List jV} (h : jokS (v :: st)) : jokS st := fun w hw => h w (List.mem_cons_of_mem _ hw)
theorem jokS_hd {v : jV} {st : List jV} (h : jokS (v :: st)) : jokV v := h v List.mem_cons_self
theorem jokS_app {a b : List jV} (ha : jokS a) (hb : jokS b) : jokS (a ++ b) := by
  intro w hw
  rcases List.mem_append.mp hw with hw | hw
  · exact ha w hw
  · exact hb w hw
/-- an instruction that touches the stack alone -/
theorem jG.sk (g : jG E M pc1 L st1 h r h') (hok : jokL L → jokS st → jokS st1)
    (hW : ∀ {p : Program} {l : Launch} {e : Env} {R : Room} {s : State} {m : MethodId} {args : Array Value} {below : List Frame} {meth : Method} {c : Code} {H : Heap} {locs : List Loc} {cells slots : Nat} {Q : State → Prop} {ls : Array Slot}, p.tables.exec = Jvm.exec → c.code = jb M → jokL L → jokS st → lv_has ls (jL M) (L.map (jtp E)) → s.vm.findClass (jy M).cls = some m.cls → (∀ w ∈ jWS, w.before args s = true) →
      W p l e R s m args below meth c H locs cells slots Q (F0 m pc1 ls (st1.map (tv E))) → W p l e R s m args below meth c H locs cells slots Q (F0 m pc ls (st.map (tv E)))) : jG E M pc L st h r h' := by
  intro A p e R s m args below meth c cells slots Q hF hend H locs ls oL oS oH hl hP hS
  exact hW hF.1 hF.2.1 oL oS hl hF.2.2.2.2.1 hF.2.2.2.2.2.1 (g A p e R s m args below meth c cells slots Q hF hend H locs ls oL (hok oL oS) oH hl hP hS)
/-- an instruction that stores a local -/
theorem jG.lc (g : jG E M pc1 L1 st1 h r h') (hok : jokL L → jokS st → jokS st1 ∧ jokL L1)
    (hW : ∀ {p : Program} {l : Launch} {e : Env} {R : Room} {s : State} {m : MethodId} {args : Array Value} {below : List Frame} {meth : Method} {c : Code} {H : Heap} {locs : List Loc} {cells slots : Nat} {Q : State → Prop} {ls : Array Slot}, p.tables.exec = Jvm.exec → c.code = jb M → jokL L → jokS st → lv_has ls (jL M) (L.map (jtp E)) →
      (∀ ls' : Array Slot, lv_has ls' (jL M) (L1.map (jtp E)) → W p l e R s m args below meth c H locs cells slots Q (F0 m pc1 ls' (st1.map (tv E)))) → W p l e R s m args below meth c H locs cells slots Q (F0 m pc ls (st.map (tv E)))) : jG E M pc L st h r h' := by
  intro A p e R s m args below meth c cells slots Q hF hend H locs ls oL oS oH hl hP hS
  exact hW hF.1 hF.2.1 oL oS hl (fun ls' hl' => g A p e R s m args below meth c cells slots Q hF hend H locs ls' (hok oL oS).2 (hok oL oS).1 oH hl' hP hS)
theorem jG.ret {i : Instr} (hd : decode (jb M) pc = .ok (i, 1)) (hr : jro (jr M) i r) : jG E M pc L r.toList h r h := by
  intro A p e R s m args below meth c cells slots Q hF hend H locs ls oL oS oH hl hP hS
  exact hend pc ls H locs i hd hr oS oH hP hS
/-! locals -/
def jlk : List (Nat × jV) → Nat → Option jV
  | [], _ => none
  | q :: l, i => if q.1 = i then some q.2 else jlk l i
def jset1 (L : List (Nat × jV)) (i : Nat) (v : jV) : List (Nat × jV) := (i, v) :: L.filter (fun q => !(q.1 == i) && !(q.1 + 1 == i && q.2.1 == 1))
def jset2 (L : List (Nat × jV)) (i : Nat) (v : jV) : List (Nat × jV) := (i, v) :: L.filter (fun q => !(q.1 == i) && (!(q.1 == i + 1) && !(q.1 + 1 == i && q.2.1 == 1)))
theorem jlk_mem : ∀ {L : List (Nat × jV)} {i : Nat} {v : jV}, jlk L i = some v → (i, v) ∈ L := by
  intro L
  induction L with
  | nil => intro i v h; cases h
  | cons q l ih =>
    intro i v h
    unfold jlk at h
    by_cases hq : q.1 = i
    · rw [if_pos hq] at h
      cases h
      subst hq
      exact List.mem_cons_self
    · rw [if_neg hq] at h
      exact List.mem_cons_of_mem _ (ih h)
theorem jlk_ok (oL : jokL L) {i : Nat} {v : jV} (hk : jlk L i = some v) : jokV v := oL _ (jlk_mem hk)
theorem jlk_at {ls : Array Slot} {n : Nat} (hl : lv_has ls n (L.map (jtp E))) {i : Nat} {v : jV} (hk : jlk L i = some v) : ls[i]? = some (.val (tv E v)) :=
  hl.2.2 (i, tv E v) (List.mem_map.mpr ⟨(i, v), jlk_mem hk, rfl⟩)
theorem jcat (v : jV) : ((tv E v).category == 2) = (v.1 == 1) := by
  obtain ⟨t, n⟩ := v
  match t with
  | 0 => rfl
  | 1 => rfl
  | 2 => rfl
  | 3 => rfl
  | k + 4 =>
    show ((va_rf (jeo E)).category == 2) = (k + 4 == 1)
    rw [show (k + 4 == 1) = false by simp]
    cases jeo E <;> rfl
theorem jset1_map (i : Nat) (v : jV) : (i, tv E v) :: (L.map (jtp E)).filter (fun q => !(q.1 == i) && !(q.1 + 1 == i && q.2.category == 2)) = (jset1 L i v).map (jtp E) := by
  unfold jset1
  rw [List.map_cons, List.filter_map]
  congr 2
  apply List.filter_congr
  intro q _
  show (!(q.1 == i) && !(q.1 + 1 == i && (tv E q.2).category == 2)) = _
  rw [jcat]
theorem jset2_map (i : Nat) (v : jV) : (i, tv E v) :: (L.map (jtp E)).filter (fun q => !(q.1 == i) && (!(q.1 == i + 1) && !(q.1 + 1 == i && q.2.category == 2))) = (jset2 L i v).map (jtp E) := by
  unfold jset2
  rw [List.map_cons, List.filter_map]
  congr 2
  apply List.filter_congr
  intro q _
  show (!(q.1 == i) && (!(q.1 == i + 1) && !(q.1 + 1 == i && (tv E q.2).category == 2))) = _
  rw [jcat]
theorem jset1_ok {i : Nat} {v : jV} (oL : jokL L) (hv : jokV v) : jokL (jset1 L i v) := by
  intro q hq
  rcases List.mem_cons.mp hq with rfl | hq
  · exact hv
  · exact oL q (List.mem_filter.mp hq).1
theorem jset2_ok {i : Nat} {v : jV} (oL : jokL L) (hv : jokV v) : jokL (jset2 L i v) := by
  intro q hq
  rcases List.mem_cons.mp hq with rfl | hq
  · exact hv
  · exact oL q (List.mem_filter.mp hq).1
/-! one instruction, one rule -/
theorem jG.iconst {n : Int} (hd : decode (jb M) pc = .ok (.iconst n, 1)) (hn : ok32 n) (g : jG E M (pc + 1) L ((0, n) :: st) h r h') : jG E M pc L st h r h' :=
  jG.sk g (fun _ o => jokS_cons hn o) (fun hx hb _ _ _ _ _ k => lv_iconst hx hb hd rfl k)
theorem jn_b {n : Int} (h0 : -128 ≤ n) (h1 : n < 128) : (Int8.ofInt n).toInt32 = Int32.ofInt n := by
  apply Int32.toInt_inj.mp
  rw [Int8.toInt_toInt32, Int8.toInt_ofInt_of_le (by omega) (by omega), jn_toInt, w32_id (by omega) (by omega)]
theorem jn_s {n : Int} (h0 : -32768 ≤ n) (h1 : n < 32768) : (Int16.ofInt n).toInt32 = Int32.ofInt n := by
  apply Int32.toInt_inj.mp
  rw [Int16.toInt_toInt32, Int16.toInt_ofInt_of_le (by omega) (by omega), jn_toInt, w32_id (by omega) (by omega)]
theorem jG.bipush {n : Int} (hd : decode (jb M) pc = .ok (.bipush n, 2)) (h0 : -128 ≤ n) (h1 : n < 128) (g : jG E M (pc + 2) L ((0, n) :: st) h r h') : jG E M pc L st h r h' :=
  jG.sk g (fun _ o => jokS_cons ⟨by show -2147483648 ≤ n; omega, by show n < 2147483648; omega⟩ o) (fun hx hb _ _ _ _ _ k => lv_bipush hx hb hd (jn_b h0 h1) k)
theorem jG.sipush {n : Int} (hd : decode (jb M) pc = .ok (.sipush n, 3)) (h0 : -32768 ≤ n) (h1 : n < 32768) (g : jG E M (pc + 3) L ((0, n) :: st) h r h') : jG E M pc L st h r h' :=
  jG.sk g (fun _ o => jokS_cons ⟨by show -2147483648 ≤ n; omega, by show n < 2147483648; omega⟩ o) (fun hx hb _ _ _ _ _ k => lv_sipush hx hb hd (jn_s h0 h1) k)
theorem jl_c : ∀ n : Fin 2, Int64.ofNat (n : Nat) = Int64.ofInt ((n : Nat) : Int) := by decide +kernel
theorem jG.lconst {n : Fin 2} (hd : decode (jb M) pc = .ok (.lconst n, 1)) (g : jG E M (pc + 1) L ((1, ((n : Nat) : Int)) :: st) h r h') : jG E M pc L st h r h' :=
  jG.sk g (fun _ o => jokS_cons ⟨by show -9223372036854775808 ≤ ((n : Nat) : Int); omega, by show ((n : Nat) : Int) < 9223372036854775808; have := n.2; omega⟩ o) (fun hx hb _ _ _ _ _ k => lv_lconst hx hb hd (jl_c n) k)
theorem jG.ldc {ix : Nat} {n : Int} (hd : decode (jb M) pc = .ok (.ldc ix, 2)) (hw : Cond.constant (jy M).cls ix (Int32.ofInt n) ∈ jWS) (hn : ok32 n) (g : jG E M (pc + 2) L ((0, n) :: st) h r h') : jG E M pc L st h r h' :=
  jG.sk g (fun _ o => jokS_cons hn o) (fun hx hb _ _ _ ho hts k => lv_ldc hx hb ho (hts _ hw) hd k)
theorem jG.ldc2 {ix : Nat} {n : Int} (hd : decode (jb M) pc = .ok (.ldc2_w ix, 3)) (hw : Cond.constantLong (jy M).cls ix (Int64.ofInt n) ∈ jWS) (hn : ok64 n) (g : jG E M (pc + 3) L ((1, n) :: st) h r h') : jG E M pc L st h r h' :=
  jG.sk g (fun _ o => jokS_cons hn o) (fun hx hb _ _ _ ho hts k => lv_ldc2 hx hb ho (hts _ hw) hd k)
theorem jG.iload_n {k : Fin 4} {x : Int} (hd : decode (jb M) pc = .ok (.iload_n k, 1)) (hk : jlk L k.val = some (0, x)) (g : jG E M (pc + 1) L ((0, x) :: st) h r h') : jG E M pc L st h r h' :=
  jG.sk g (fun oL o => jokS_cons (jlk_ok oL hk) o) (fun hx hb _ _ hl _ _ k => lv_iload_n hx hb hd rfl (jlk_at hl hk) k)
theorem jG.iload {i : Nat} {x : Int} (hd : decode (jb M) pc = .ok (.iload i, 2)) (hk : jlk L i = some (0, x)) (g : jG E M (pc + 2) L ((0, x) :: st) h r h') : jG E M pc L st h r h' :=
  jG.sk g (fun oL o => jokS_cons (jlk_ok oL hk) o) (fun hx hb _ _ hl _ _ k => lv_iload hx hb hd (jlk_at hl hk) k)
theorem jG.lload_n {k : Fin 4} {x : Int} (hd : decode (jb M) pc = .ok (.lload_n k, 1)) (hk : jlk L k.val = some (1, x)) (g : jG E M (pc + 1) L ((1, x) :: st) h r h') : jG E M pc L st h r h' :=
  jG.sk g (fun oL o => jokS_cons (jlk_ok oL hk) o) (fun hx hb _ _ hl _ _ k => lv_lload_n hx hb hd rfl (jlk_at hl hk) k)
theorem jG.lload {i : Nat} {x : Int} (hd : decode (jb M) pc = .ok (.lload i, 2)) (hk : jlk L i = some (1, x)) (g : jG E M (pc + 2) L ((1, x) :: st) h r h') : jG E M pc L st h r h' :=
  jG.sk g (fun oL o => jokS_cons (jlk_ok oL hk) o) (fun hx hb _ _ hl _ _ k => lv_lload hx hb hd (jlk_at hl hk) k)
theorem jtv_ref {t : Nat} {x : Int} (ht : t = 2 ∨ t = 3) : ∃ a : Nat, tv E (t, x) = .ref a := by
  rcases ht with rfl | rfl <;> exact ⟨_, rfl⟩
theorem jG.aload_n {k : Fin 4} {t : Nat} {x : Int} (hd : decode (jb M) pc = .ok (.aload_n k, 1)) (ht : t = 2 ∨ t = 3) (hk : jlk L k.val = some (t, x)) (g : jG E M (pc + 1) L ((t, x) :: st) h r h') : jG E M pc L st h r h' := by
  obtain ⟨a, ha⟩ := jtv_ref (E := E) (x := x) ht
  refine jG.sk g (fun oL o => jokS_cons (jlk_ok oL hk) o) (fun hx hb _ _ hl _ _ k => ?_)
  have h2 := jlk_at hl hk
  rw [List.map_cons, ha] at k
  rw [ha] at h2
  exact lv_aload_n hx hb hd rfl h2 k
theorem jG.aload {i : Nat} {t : Nat} {x : Int} (hd : decode (jb M) pc = .ok (.aload i, 2)) (ht : t = 2 ∨ t = 3) (hk : jlk L i = some (t, x)) (g : jG E M (pc + 2) L ((t, x) :: st) h r h') : jG E M pc L st h r h' := by
  obtain ⟨a, ha⟩ := jtv_ref (E := E) (x := x) ht
  refine jG.sk g (fun oL o => jokS_cons (jlk_ok oL hk) o) (fun hx hb _ _ hl _ _ k => ?_)
  have h2 := jlk_at hl hk
  rw [List.map_cons, ha] at k
  rw [ha] at h2
  exact lv_aload hx hb hd h2 k
theorem jG.astore_n {k : Fin 4} {t : Nat} {x : Int} (hd : decode (jb M) pc = .ok (.astore_n k, 1)) (ht : t = 2 ∨ t = 3) (hn : k.val < jL M) (g : jG E M (pc + 1) (jset1 L k.val (t, x)) st h r h') : jG E M pc L ((t, x) :: st) h r h' := by
  obtain ⟨a, ha⟩ := jtv_ref (E := E) (x := x) ht
  refine jG.lc g (fun oL o => ⟨jokS_tl o, jset1_ok oL (jokS_hd o)⟩) (fun hx hb _ _ hl k => ?_)
  rw [List.map_cons, ha]
  refine lv_astore_n hx hb hd rfl hl hn ?_ k
  rw [← jset1_map, ha]
theorem jG.astore {i : Nat} {t : Nat} {x : Int} (hd : decode (jb M) pc = .ok (.astore i, 2)) (ht : t = 2 ∨ t = 3) (hn : i < jL M) (g : jG E M (pc + 2) (jset1 L i (t, x)) st h r h') : jG E M pc L ((t, x) :: st) h r h' := by
  obtain ⟨a, ha⟩ := jtv_ref (E := E) (x := x) ht
  refine jG.lc g (fun oL o => ⟨jokS_tl o, jset1_ok oL (jokS_hd o)⟩) (fun hx hb _ _ hl k => ?_)
  rw [List.map_cons, ha]
  refine lv_astore hx hb hd hl hn ?_ k
  rw [← jset1_map, ha]
theorem jG.istore_n {k : Fin 4} {x : Int} (hd : decode (jb M) pc = .ok (.istore_n k, 1)) (hn : k.val < jL M) (g : jG E M (pc + 1) (jset1 L k.val (0, x)) st h r h') : jG E M pc L ((0, x) :: st) h r h' :=
  jG.lc g (fun oL o => ⟨jokS_tl o, jset1_ok oL (jokS_hd o)⟩) (fun hx hb _ _ hl k => lv_istore_n hx hb hd rfl hl hn (jset1_map _ (0, x)) k)
theorem jG.istore {i : Nat} {x : Int} (hd : decode (jb M) pc = .ok (.istore i, 2)) (hn : i < jL M) (g : jG E M (pc + 2) (jset1 L i (0, x)) st h r h') : jG E M pc L ((0, x) :: st) h r h' :=
  jG.lc g (fun oL o => ⟨jokS_tl o, jset1_ok oL (jokS_hd o)⟩) (fun hx hb _ _ hl k => lv_istore hx hb hd hl hn (jset1_map _ (0, x)) k)
theorem jG.lstore_n {k : Fin 4} {x : Int} (hd : decode (jb M) pc = .ok (.lstore_n k, 1)) (hn : k.val + 1 < jL M) (g : jG E M (pc + 1) (jset2 L k.val (1, x)) st h r h') : jG E M pc L ((1, x) :: st) h r h' :=
  jG.lc g (fun oL o => ⟨jokS_tl o, jset2_ok oL (jokS_hd o)⟩) (fun hx hb _ _ hl k => lv_lstore_n hx hb hd rfl hl hn (jset2_map _ (1, x)) k)
theorem jG.lstore {i : Nat} {x : Int} (hd : decode (jb M) pc = .ok (.lstore i, 2)) (hn : i + 1 < jL M) (g : jG E M (pc + 2) (jset2 L i (1, x)) st h r h') : jG E M pc L ((1, x) :: st) h r h' :=
  jG.lc g (fun oL o => ⟨jokS_tl o, jset2_ok oL (jokS_hd o)⟩) (fun hx hb _ _ hl k => lv_lstore hx hb hd hl hn (jset2_map _ (1, x)) k)
theorem jG.iinc {i : Nat} {n x : Int} (hd : decode (jb M) pc = .ok (.iinc i n, 3)) (hn : i < jL M) (hk : jlk L i = some (0, x)) (g : jG E M (pc + 3) (jset1 L i (0, jadd x n)) st h r h') : jG E M pc L st h r h' := by
  refine jG.lc g (fun oL o => ⟨o, jset1_ok oL (w32_ok _)⟩) (fun hx hb _ _ hl k => ?_)
  obtain ⟨z, hz⟩ := List.getElem?_of_mem (List.mem_map.mpr ⟨(i, (0, x)), jlk_mem hk, rfl⟩ : (jtp E (i, (0, x))) ∈ L.map (jtp E))
  exact lv_iinc hx hb hd hl hz (jn_add x n) hn (jset1_map _ (0, jadd x n)) k
theorem jG.iadd {a b : Int} (hd : decode (jb M) pc = .ok (.iadd, 1)) (g : jG E M (pc + 1) L ((0, jadd a b) :: st) h r h') : jG E M pc L ((0, b) :: (0, a) :: st) h r h' := by
  refine jG.sk g (fun _ o => jokS_cons (w32_ok _) (jokS_tl (jokS_tl o))) (fun hx hb _ _ _ _ _ k => ?_)
  refine lv_iadd hx hb hd ?_
  rw [jn_add]
  exact k
theorem jG.isub {a b : Int} (hd : decode (jb M) pc = .ok (.isub, 1)) (g : jG E M (pc + 1) L ((0, jsub a b) :: st) h r h') : jG E M pc L ((0, b) :: (0, a) :: st) h r h' := by
  refine jG.sk g (fun _ o => jokS_cons (w32_ok _) (jokS_tl (jokS_tl o))) (fun hx hb _ _ _ _ _ k => ?_)
  refine lv_isub hx hb hd ?_
  rw [jn_sub]
  exact k
theorem jG.imul {a b : Int} (hd : decode (jb M) pc = .ok (.imul, 1)) (g : jG E M (pc + 1) L ((0, jmul a b) :: st) h r h') : jG E M pc L ((0, b) :: (0, a) :: st) h r h' := by
  refine jG.sk g (fun _ o => jokS_cons (w32_ok _) (jokS_tl (jokS_tl o))) (fun hx hb _ _ _ _ _ k => ?_)
  refine lv_imul hx hb hd ?_
  rw [jn_mul]
  exact k
theorem jG.iand {a b : Int} (hd : decode (jb M) pc = .ok (.iand, 1)) (g : jG E M (pc + 1) L ((0, jand a b) :: st) h r h') : jG E M pc L ((0, b) :: (0, a) :: st) h r h' := by
  refine jG.sk g (fun _ o => jokS_cons (jn_ok _) (jokS_tl (jokS_tl o))) (fun hx hb _ _ _ _ _ k => ?_)
  refine lv_iand hx hb hd ?_
  have e := Int32.ofInt_toInt (Int32.ofInt a &&& Int32.ofInt b)
  rw [← e]
  exact k
theorem jG.ior {a b : Int} (hd : decode (jb M) pc = .ok (.ior, 1)) (g : jG E M (pc + 1) L ((0, jor a b) :: st) h r h') : jG E M pc L ((0, b) :: (0, a) :: st) h r h' := by
  refine jG.sk g (fun _ o => jokS_cons (jn_ok _) (jokS_tl (jokS_tl o))) (fun hx hb _ _ _ _ _ k => ?_)
  refine lv_ior hx hb hd ?_
  have e := Int32.ofInt_toInt (Int32.ofInt a ||| Int32.ofInt b)
  rw [← e]
  exact k
theorem jG.ixor {a b : Int} (hd : decode (jb M) pc = .ok (.ixor, 1)) (g : jG E M (pc + 1) L ((0, jxor a b) :: st) h r h') : jG E M pc L ((0, b) :: (0, a) :: st) h r h' := by
  refine jG.sk g (fun _ o => jokS_cons (jn_ok _) (jokS_tl (jokS_tl o))) (fun hx hb _ _ _ _ _ k => ?_)
  refine lv_ixor hx hb hd ?_
  have e := Int32.ofInt_toInt (Int32.ofInt a ^^^ Int32.ofInt b)
  rw [← e]
  exact k
theorem jG.ishl {a b : Int} (hd : decode (jb M) pc = .ok (.ishl, 1)) (g : jG E M (pc + 1) L ((0, jshl a b) :: st) h r h') : jG E M pc L ((0, b) :: (0, a) :: st) h r h' := by
  refine jG.sk g (fun _ o => jokS_cons (jn_ok _) (jokS_tl (jokS_tl o))) (fun hx hb _ _ _ _ _ k => ?_)
  refine lv_ishl hx hb hd ?_
  have e := Int32.ofInt_toInt (Int32.ofInt a <<< (Int32.ofInt b &&& 31))
  rw [← e]
  exact k
theorem jG.ishr {a b : Int} (hd : decode (jb M) pc = .ok (.ishr, 1)) (g : jG E M (pc + 1) L ((0, jshr a b) :: st) h r h') : jG E M pc L ((0, b) :: (0, a) :: st) h r h' := by
  refine jG.sk g (fun _ o => jokS_cons (jn_ok _) (jokS_tl (jokS_tl o))) (fun hx hb _ _ _ _ _ k => ?_)
  refine lv_ishr hx hb hd ?_
  have e := Int32.ofInt_toInt (Int32.ofInt a >>> (Int32.ofInt b &&& 31))
  rw [← e]
  exact k
theorem jG.iushr {a b : Int} (hd : decode (jb M) pc = .ok (.iushr, 1)) (g : jG E M (pc + 1) L ((0, jushr a b) :: st) h r h') : jG E M pc L ((0, b) :: (0, a) :: st) h r h' :=
  jG.sk g (fun _ o => jokS_cons (jn_ok _) (jokS_tl (jokS_tl o))) (fun hx hb _ _ _ _ _ k => lv_iushr hx hb hd (Int32.ofInt_toInt _).symm k)
theorem jG.idiv {a b : Int} (hd : decode (jb M) pc = .ok (.idiv, 1)) (hb0 : b ≠ 0) (g : jG E M (pc + 1) L ((0, jdiv a b) :: st) h r h') : jG E M pc L ((0, b) :: (0, a) :: st) h r h' := by
  refine jG.sk g (fun _ o => jokS_cons (jn_ok _) (jokS_tl (jokS_tl o))) (fun hx hb _ oS _ _ _ k => ?_)
  refine lv_idiv hx hb hd (fun z => hb0 ((jn_inj (jokS_hd oS) ok32_0).mp z)) ?_
  have e := Int32.ofInt_toInt (Int32.ofInt a / Int32.ofInt b)
  rw [← e]
  exact k
theorem jG.irem {a b : Int} (hd : decode (jb M) pc = .ok (.irem, 1)) (hb0 : b ≠ 0) (g : jG E M (pc + 1) L ((0, jrem a b) :: st) h r h') : jG E M pc L ((0, b) :: (0, a) :: st) h r h' := by
  refine jG.sk g (fun _ o => jokS_cons (jn_ok _) (jokS_tl (jokS_tl o))) (fun hx hb _ oS _ _ _ k => ?_)
  refine lv_irem hx hb hd (fun z => hb0 ((jn_inj (jokS_hd oS) ok32_0).mp z)) ?_
  have e := Int32.ofInt_toInt (Int32.ofInt a - Int32.ofInt a / Int32.ofInt b * Int32.ofInt b)
  rw [← e]
  exact k
theorem jG.ineg {a : Int} (hd : decode (jb M) pc = .ok (.ineg, 1)) (g : jG E M (pc + 1) L ((0, jneg a) :: st) h r h') : jG E M pc L ((0, a) :: st) h r h' := by
  refine jG.sk g (fun _ o => jokS_cons (w32_ok _) (jokS_tl o)) (fun hx hb _ _ _ _ _ k => ?_)
  refine lv_ineg hx hb hd ?_
  rw [jn_neg]
  exact k
theorem jG.ladd {a b : Int} (hd : decode (jb M) pc = .ok (.ladd, 1)) (g : jG E M (pc + 1) L ((1, jladd a b) :: st) h r h') : jG E M pc L ((1, b) :: (1, a) :: st) h r h' := by
  refine jG.sk g (fun _ o => jokS_cons (w64_ok _) (jokS_tl (jokS_tl o))) (fun hx hb _ _ _ _ _ k => ?_)
  refine lv_ladd hx hb hd ?_
  rw [jl_add]
  exact k
theorem jG.lsub {a b : Int} (hd : decode (jb M) pc = .ok (.lsub, 1)) (g : jG E M (pc + 1) L ((1, jlsub a b) :: st) h r h') : jG E M pc L ((1, b) :: (1, a) :: st) h r h' := by
  refine jG.sk g (fun _ o => jokS_cons (w64_ok _) (jokS_tl (jokS_tl o))) (fun hx hb _ _ _ _ _ k => ?_)
  refine lv_lsub hx hb hd ?_
  rw [jl_sub]
  exact k
theorem jG.lmul {a b : Int} (hd : decode (jb M) pc = .ok (.lmul, 1)) (g : jG E M (pc + 1) L ((1, jlmul a b) :: st) h r h') : jG E M pc L ((1, b) :: (1, a) :: st) h r h' := by
  refine jG.sk g (fun _ o => jokS_cons (w64_ok _) (jokS_tl (jokS_tl o))) (fun hx hb _ _ _ _ _ k => ?_)
  refine lv_lmul hx hb hd ?_
  rw [jl_mul]
  exact k
theorem jG.land {a b : Int} (hd : decode (jb M) pc = .ok (.land, 1)) (g : jG E M (pc + 1) L ((1, jland a b) :: st) h r h') : jG E M pc L ((1, b) :: (1, a) :: st) h r h' := by
  refine jG.sk g (fun _ o => jokS_cons (jl_ok _) (jokS_tl (jokS_tl o))) (fun hx hb _ _ _ _ _ k => ?_)
  refine lv_land hx hb hd ?_
  have e := Int64.ofInt_toInt (Int64.ofInt a &&& Int64.ofInt b)
  rw [← e]
  exact k
theorem jG.lor {a b : Int} (hd : decode (jb M) pc = .ok (.lor, 1)) (g : jG E M (pc + 1) L ((1, jlor a b) :: st) h r h') : jG E M pc L ((1, b) :: (1, a) :: st) h r h' := by
  refine jG.sk g (fun _ o => jokS_cons (jl_ok _) (jokS_tl (jokS_tl o))) (fun hx hb _ _ _ _ _ k => ?_)
  refine lv_lor hx hb hd ?_
  have e := Int64.ofInt_toInt (Int64.ofInt a ||| Int64.ofInt b)
  rw [← e]
  exact k
theorem jG.lxor {a b : Int} (hd : decode (jb M) pc = .ok (.lxor, 1)) (g : jG E M (pc + 1) L ((1, jlxor a b) :: st) h r h') : jG E M pc L ((1, b) :: (1, a) :: st) h r h' := by
  refine jG.sk g (fun _ o => jokS_cons (jl_ok _) (jokS_tl (jokS_tl o))) (fun hx hb _ _ _ _ _ k => ?_)
  refine lv_lxor hx hb hd ?_
  have e := Int64.ofInt_toInt (Int64.ofInt a ^^^ Int64.ofInt b)
  rw [← e]
  exact k
theorem jG.lshl {a b : Int} (hd : decode (jb M) pc = .ok (.lshl, 1)) (g : jG E M (pc + 1) L ((1, jlshl a b) :: st) h r h') : jG E M pc L ((0, b) :: (1, a) :: st) h r h' :=
  jG.sk g (fun _ o => jokS_cons (jl_ok _) (jokS_tl (jokS_tl o))) (fun hx hb _ _ _ _ _ k => lv_lshl hx hb hd (Int64.ofInt_toInt _).symm k)
theorem jG.lshr {a b : Int} (hd : decode (jb M) pc = .ok (.lshr, 1)) (g : jG E M (pc + 1) L ((1, jlshr a b) :: st) h r h') : jG E M pc L ((0, b) :: (1, a) :: st) h r h' :=
  jG.sk g (fun _ o => jokS_cons (jl_ok _) (jokS_tl (jokS_tl o))) (fun hx hb _ _ _ _ _ k => lv_lshr hx hb hd (Int64.ofInt_toInt _).symm k)
theorem jG.lushr {a b : Int} (hd : decode (jb M) pc = .ok (.lushr, 1)) (g : jG E M (pc + 1) L ((1, jlushr a b) :: st) h r h') : jG E M pc L ((0, b) :: (1, a) :: st) h r h' :=
  jG.sk g (fun _ o => jokS_cons (jl_ok _) (jokS_tl (jokS_tl o))) (fun hx hb _ _ _ _ _ k => lv_lushr hx hb hd (Int64.ofInt_toInt _).symm k)
theorem jG.i2l {a : Int} (hd : decode (jb M) pc = .ok (.i2l, 1)) (g : jG E M (pc + 1) L ((1, a) :: st) h r h') : jG E M pc L ((0, a) :: st) h r h' :=
  jG.sk g (fun _ o => jokS_cons (by have h2 : ok32 a := jokS_hd o; have := h2.1; have := h2.2; exact ⟨by show -9223372036854775808 ≤ a; omega, by show a < 9223372036854775808; omega⟩) (jokS_tl o)) (fun hx hb _ oS _ _ _ k => lv_i2l hx hb hd (jl_i2l (jokS_hd oS)) k)
theorem jG.l2i {a : Int} (hd : decode (jb M) pc = .ok (.l2i, 1)) (g : jG E M (pc + 1) L ((0, jl2i a) :: st) h r h') : jG E M pc L ((1, a) :: st) h r h' :=
  jG.sk g (fun _ o => jokS_cons (w32_ok _) (jokS_tl o)) (fun hx hb _ _ _ _ _ k => lv_l2i hx hb hd (jl_l2i a) k)
theorem jG.i2b {a : Int} (hd : decode (jb M) pc = .ok (.i2b, 1)) (g : jG E M (pc + 1) L ((0, ji2b a) :: st) h r h') : jG E M pc L ((0, a) :: st) h r h' :=
  jG.sk g (fun _ o => jokS_cons (jn_ok _) (jokS_tl o)) (fun hx hb _ _ _ _ _ k => lv_i2b hx hb hd (Int32.ofInt_toInt _).symm k)
theorem jG.i2c {a : Int} (hd : decode (jb M) pc = .ok (.i2c, 1)) (g : jG E M (pc + 1) L ((0, ji2c a) :: st) h r h') : jG E M pc L ((0, a) :: st) h r h' :=
  jG.sk g (fun _ o => jokS_cons (jn_ok _) (jokS_tl o)) (fun hx hb _ _ _ _ _ k => lv_i2c hx hb hd (Int32.ofInt_toInt _).symm k)
theorem jG.lcmp {a b : Int} (hd : decode (jb M) pc = .ok (.lcmp, 1)) (g : jG E M (pc + 1) L ((0, jcmp a b) :: st) h r h') : jG E M pc L ((1, b) :: (1, a) :: st) h r h' := by
  refine jG.sk g (fun _ o => jokS_cons (by show ok32 (jcmp a b); unfold jcmp ok32; split <;> (try split) <;> omega) (jokS_tl (jokS_tl o))) (fun hx hb _ oS _ _ _ k => ?_)
  refine W.lcmp hx hb hd ?_
  rw [jl_cmp (jokS_hd (jokS_tl oS)) (jokS_hd oS)]
  exact k
theorem jcat1 {v : jV} (hv : v.1 ≠ 1) : (tv E v).category = 1 := by
  have h1 := jcat (E := E) v
  rcases lv_cat (tv E v) with h2 | h2
  · exact h2
  · rw [h2] at h1
    simp at h1
    exact absurd h1 hv
theorem jcat2 {x : Int} : (tv E (1, x)).category = 2 := rfl
theorem jG.dup {v : jV} (hd : decode (jb M) pc = .ok (.dup, 1)) (hv : v.1 ≠ 1) (g : jG E M (pc + 1) L (v :: v :: st) h r h') : jG E M pc L (v :: st) h r h' :=
  jG.sk g (fun _ o => jokS_cons (jokS_hd o) o) (fun hx hb _ _ _ _ _ k => lv_dup hx hb hd (jcat1 hv) k)
theorem jG.pop {v : jV} (hd : decode (jb M) pc = .ok (.pop, 1)) (hv : v.1 ≠ 1) (g : jG E M (pc + 1) L st h r h') : jG E M pc L (v :: st) h r h' :=
  jG.sk g (fun _ o => jokS_tl o) (fun hx hb _ _ _ _ _ k => lv_pop hx hb hd (jcat1 hv) k)
theorem jG.dup_x1 {v w : jV} (hd : decode (jb M) pc = .ok (.dup_x1, 1)) (hv : v.1 ≠ 1) (hw : w.1 ≠ 1) (g : jG E M (pc + 1) L (v :: w :: v :: st) h r h') : jG E M pc L (v :: w :: st) h r h' :=
  jG.sk g (fun _ o => jokS_cons (jokS_hd o) (jokS_cons (jokS_hd (jokS_tl o)) (jokS_cons (jokS_hd o) (jokS_tl (jokS_tl o))))) (fun hx hb _ _ _ _ _ k => lv_dup_x1 hx hb hd (jcat1 hv) (jcat1 hw) k)
theorem jG.dup2 {v w : jV} (hd : decode (jb M) pc = .ok (.dup2, 1)) (hv : v.1 ≠ 1) (hw : w.1 ≠ 1) (g : jG E M (pc + 1) L (v :: w :: v :: w :: st) h r h') : jG E M pc L (v :: w :: st) h r h' :=
  jG.sk g (fun _ o => jokS_cons (jokS_hd o) (jokS_cons (jokS_hd (jokS_tl o)) o)) (fun hx hb _ _ _ _ _ k => lv_dup2_11 hx hb hd (jcat1 hv) (jcat1 hw) k)
theorem jG.dup2l {x : Int} (hd : decode (jb M) pc = .ok (.dup2, 1)) (g : jG E M (pc + 1) L ((1, x) :: (1, x) :: st) h r h') : jG E M pc L ((1, x) :: st) h r h' :=
  jG.sk g (fun _ o => jokS_cons (jokS_hd o) o) (fun hx hb _ _ _ _ _ k => lv_dup2_2 hx hb hd jcat2 k)
/-! branches -/
def jcn (cn : Jvm.ClassFile.Cond) (x y : Int) : Prop := match cn with
  | .eq => x = y
  | .ne => ¬ x = y
  | .lt => x < y
  | .ge => y ≤ x
  | .gt => y < x
  | .le => x ≤ y
theorem jG.b2 {C : Prop} {tgt : Nat} (hok : jokS st → jokS st1)
    (hW : ∀ {p : Program} {l : Launch} {e : Env} {R : Room} {s : State} {m : MethodId} {args : Array Value} {below : List Frame} {meth : Method} {c : Code} {H : Heap} {locs : List Loc} {cells slots : Nat} {Q : State → Prop} {ls : Array Slot}, p.tables.exec = Jvm.exec → c.code = jb M → jokS st →
      (C → W p l e R s m args below meth c H locs cells slots Q (F0 m tgt ls (st1.map (tv E)))) → (¬ C → W p l e R s m args below meth c H locs cells slots Q (F0 m pc1 ls (st1.map (tv E)))) → W p l e R s m args below meth c H locs cells slots Q (F0 m pc ls (st.map (tv E))))
    (kt : C → jG E M tgt L st1 h r h') (kf : ¬ C → jG E M pc1 L st1 h r h') : jG E M pc L st h r h' := by
  intro A p e R s m args below meth c cells slots Q hF hend H locs ls oL oS oH hl hP hS
  exact hW hF.1 hF.2.1 oS (fun z => kt z A p e R s m args below meth c cells slots Q hF hend H locs ls oL (hok oS) oH hl hP hS) (fun z => kf z A p e R s m args below meth c cells slots Q hF hend H locs ls oL (hok oS) oH hl hP hS)
theorem j0e : Int32.ofInt 0 = 0 := rfl
theorem jG.if1 {cn : Jvm.ClassFile.Cond} {off : Int} {tgt : Nat} {x : Int} (hd : decode (jb M) pc = .ok (.ifCond cn off, 3)) (ht : (pc : Int) + off = (tgt : Int)) (kt : jcn cn x 0 → jG E M tgt L st h r h') (kf : ¬ jcn cn x 0 → jG E M (pc + 3) L st h r h') : jG E M pc L ((0, x) :: st) h r h' := by
  refine jG.b2 (C := jcn cn x 0) jokS_tl (fun hx hb oS k1 k2 => ?_) kt kf
  have ox : ok32 x := jokS_hd oS
  have e0 := jn_inj ox ok32_0
  have e1 := jn_lt ox ok32_0
  have e2 := jn_le ox ok32_0
  have e3 := jn_lt ok32_0 ox
  have e4 := jn_le ok32_0 ox
  rw [j0e] at e0 e1 e2 e3 e4
  cases cn with
  | eq => exact lv_if_eq hx hb hd ht (fun z => k1 (e0.mp z)) (fun z => k2 (fun y => z (e0.mpr y)))
  | ne => exact lv_if_ne hx hb hd ht (fun z => k1 (fun y => z (e0.mpr y))) (fun z => k2 (fun y => y (e0.mp z)))
  | lt => exact lv_if_lt hx hb hd ht (fun z => k1 (e1.mp z)) (fun z => k2 (fun y => z (e1.mpr y)))
  | ge => exact lv_if_ge hx hb hd ht (fun z => k1 (e4.mp z)) (fun z => k2 (fun y => z (e4.mpr y)))
  | gt => exact lv_if_gt hx hb hd ht (fun z => k1 (e3.mp z)) (fun z => k2 (fun y => z (e3.mpr y)))
  | le => exact lv_if_le hx hb hd ht (fun z => k1 (e2.mp z)) (fun z => k2 (fun y => z (e2.mpr y)))
theorem jG.if2 {cn : Jvm.ClassFile.Cond} {off : Int} {tgt : Nat} {x y : Int} (hd : decode (jb M) pc = .ok (.if_icmp cn off, 3)) (ht : (pc : Int) + off = (tgt : Int)) (kt : jcn cn x y → jG E M tgt L st h r h') (kf : ¬ jcn cn x y → jG E M (pc + 3) L st h r h') : jG E M pc L ((0, y) :: (0, x) :: st) h r h' := by
  refine jG.b2 (C := jcn cn x y) (fun o => jokS_tl (jokS_tl o)) (fun hx hb oS k1 k2 => ?_) kt kf
  have oy : ok32 y := jokS_hd oS
  have ox : ok32 x := jokS_hd (jokS_tl oS)
  have e0 := jn_inj ox oy
  have e1 := jn_lt ox oy
  have e2 := jn_le ox oy
  have e3 := jn_lt oy ox
  have e4 := jn_le oy ox
  cases cn with
  | eq => exact lv_icmp_eq hx hb hd ht (fun z => k1 (e0.mp z)) (fun z => k2 (fun y => z (e0.mpr y)))
  | ne => exact lv_icmp_ne hx hb hd ht (fun z => k1 (fun y => z (e0.mpr y))) (fun z => k2 (fun y => y (e0.mp z)))
  | lt => exact lv_icmp_lt hx hb hd ht (fun z => k1 (e1.mp z)) (fun z => k2 (fun y => z (e1.mpr y)))
  | ge => exact lv_icmp_ge hx hb hd ht (fun z => k1 (e4.mp z)) (fun z => k2 (fun y => z (e4.mpr y)))
  | gt => exact lv_icmp_gt hx hb hd ht (fun z => k1 (e3.mp z)) (fun z => k2 (fun y => z (e3.mpr y)))
  | le => exact lv_icmp_le hx hb hd ht (fun z => k1 (e2.mp z)) (fun z => k2 (fun y => z (e2.mpr y)))
theorem jG.goto {off : Int} {tgt : Nat} (hd : decode (jb M) pc = .ok (.goto off, 3)) (ht : (pc : Int) + off = (tgt : Int)) (g : jG E M tgt L st h r h') : jG E M pc L st h r h' :=
  jG.sk g (fun _ o => o) (fun hx hb _ _ _ _ _ k => lv_goto hx hb hd ht k)
/-! switches: the offset that is taken -/
theorem jG.lsw {d : Int} {ps : Array (Int × Int)} {len : Nat} {x off : Int} {tgt : Nat} (hd : decode (jb M) pc = .ok (.lookupswitch d ps, len)) (hp : (ps.toList.zip (ps.toList.drop 1)).all (fun (a, next) => a.1 < next.1) = true) (ho : Op.lookupswitch.offset ps.toList d x = off) (ht : (pc : Int) + off = (tgt : Int)) (g : jG E M tgt L st h r h') : jG E M pc L ((0, x) :: st) h r h' := by
  refine jG.sk g (fun _ o => jokS_tl o) (fun hx hb _ oS _ _ _ k => ?_)
  exact lv_lookup hx hb hd hp (by rw [jn_toInt, ok32_id (jokS_hd oS)]; exact ho) ht k
theorem jG.tswO {d lo hi : Int} {offs : Array Int} {len : Nat} {x : Int} {tgt : Nat} (hd : decode (jb M) pc = .ok (.tableswitch d lo hi offs, len)) (hc : x < lo ∨ hi < x) (ht : (pc : Int) + d = (tgt : Int)) (g : jG E M tgt L st h r h') : jG E M pc L ((0, x) :: st) h r h' := by
  refine jG.sk g (fun _ o => jokS_tl o) (fun hx hb _ oS _ _ _ k => ?_)
  exact lv_tableOut hx hb hd (by rw [jn_toInt, ok32_id (jokS_hd oS)]; exact hc) ht k
theorem jG.tswI {d lo hi : Int} {offs : Array Int} {len : Nat} {x off : Int} {tgt : Nat} (hd : decode (jb M) pc = .ok (.tableswitch d lo hi offs, len)) (h1 : ¬ x < lo) (h2 : ¬ hi < x) (ho : offs[(x - lo).toNat]? = some off) (ht : (pc : Int) + off = (tgt : Int)) (g : jG E M tgt L st h r h') : jG E M pc L ((0, x) :: st) h r h' := by
  refine jG.sk g (fun _ o => jokS_tl o) (fun hx hb _ oS _ _ _ k => ?_)
  have ex : (Int32.ofInt x).toInt = x := by rw [jn_toInt, ok32_id (jokS_hd oS)]
  exact lv_tableIn hx hb hd (by rw [ex]; exact h1) (by rw [ex]; exact h2) (by rw [ex]; exact ho) ht k

/-! the world: a cell that changes, a cell that is read -/
theorem jG.hp (g : jG E M pc1 L st1 h1 r h') (hok : jokL L → jokS st → jHok h → jokS st1 ∧ jHok h1)
    (hW : ∀ {A : Nat → Prop} {p : Program} {e : Env} {R : Room} {s : State} {m : MethodId} {args : Array Value} {below : List Frame} {meth : Method} {c : Code} {H : Heap} {locs : List Loc} {cells slots : Nat} {Q : State → Prop} {ls : Array Slot}, jFr E M A p R s m args meth c cells slots → lv_has ls (jL M) (L.map (jtp E)) → jokS st → jHok h → va_P (jeD E) jcl (jwd E h) H → va_S A s.heap H locs →
      (∀ (H1 : Heap) (locs1 : List Loc), va_P (jeD E) jcl (jwd E h1) H1 → va_S A s.heap H1 locs1 → W p (jel E) e R s m args below meth c H1 locs1 cells slots Q (F0 m pc1 ls (st1.map (tv E)))) → W p (jel E) e R s m args below meth c H locs cells slots Q (F0 m pc ls (st.map (tv E)))) : jG E M pc L st h r h' := by
  intro A p e R s m args below meth c cells slots Q hF hend H locs ls oL oS oH hl hP hS
  obtain ⟨o1, o2⟩ := hok oL oS oH
  exact hW hF hl oS oH hP hS (fun H1 locs1 hP1 hS1 => g A p e R s m args below meth c cells slots Q hF hend H1 locs1 ls oL o1 o2 hl hP1 hS1)
theorem jin {i : Int} {n : Nat} (h0 : 0 ≤ i) (h1 : i < (n : Int)) (hn : (n : Int) < 2147483648) : vp_in (Int32.ofInt i) n ∧ (Int32.ofInt i).toNatClampNeg = i.toNat := by
  have e : (Int32.ofInt i).toInt = i := by rw [jn_toInt, w32_id (by omega) (by omega)]
  refine ⟨vp_in_iff.mpr ⟨by rw [e]; exact h0, by rw [e]; exact h1⟩, ?_⟩
  show (Int32.ofInt i).toInt.toNat = i.toNat
  rw [e]
theorem jHok_cp {a : Nat} {f : Nat → Int} (oH : jHok h) (hf : ∀ k, jokT (jty a k) (f k)) : jHok (jcp h a f) := by
  intro a' k
  unfold jcp
  by_cases he : a' = a
  · rw [if_pos he, he]; exact hf k
  · rw [if_neg he]; exact oH a' k
theorem jHok_up {a k : Nat} {v : Int} (oH : jHok h) (hv : jokT (jty a k) v) : jHok (jup h a k v) := by
  refine jHok_cp oH (fun k' => ?_)
  by_cases he : k' = k
  · rw [if_pos he, he]; exact hv
  · rw [if_neg he]; exact oH a k'
theorem jent_i {E : jE} {a t n : Nat} (f : Nat → Int) (hk : jkd.getD a (9, 0) = (t, n)) (ht : t = 1 ∨ t = 3 ∨ t = 4) : jent E a f = .inl (jca E t, n, .inl (fun j => Int32.ofInt (f j))) := by
  unfold jent
  rw [hk]
  rcases ht with rfl | rfl | rfl <;> rfl
theorem jent_l {E : jE} {a n : Nat} (f : Nat → Int) (hk : jkd.getD a (9, 0) = (2, n)) : jent E a f = .inl (jca E 2, n, .inr (.inl (fun j => Int64.ofInt (f j)))) := by
  unfold jent
  rw [hk]
  rfl
theorem jent_o {E : jE} {a ci : Nat} (f : Nat → Int) (hk : jkd.getD a (9, 0) = (0, ci)) : jent E a f = .inr (ci, (List.range (jft.getD ci []).length).map (fun k => jfv E a k (f k))) := by
  unfold jent
  rw [hk]
  rfl
theorem jkd_lt {a t n : Nat} (hk : jkd.getD a (9, 0) = (t, n)) (ht : t ≠ 9) : a < jN := by
  rcases Nat.lt_or_ge a jN with h1 | h1
  · exact h1
  · rw [List.getD_eq_getElem?_getD, List.getElem?_eq_none (by rw [← jN_len] at h1; exact h1)] at hk
    cases hk
    exact absurd rfl ht
theorem jty_k {a t n : Nat} (hk : jkd.getD a (9, 0) = (t, n)) (k : Nat) : jty a k = jty0 t n k := by
  unfold jty
  rw [hk]
theorem jG.iald {a n : Nat} {i : Int} (hd : decode (jb M) pc = .ok (.iaload, 1)) (hk : jkd.getD a (9, 0) = (1, n)) (hn : (n : Int) < 2147483648) (h0 : 0 ≤ i) (h1 : i < (n : Int)) (g : jG E M (pc + 1) L ((0, h a i.toNat) :: st) h r h') : jG E M pc L ((0, i) :: (2, (a : Int)) :: st) h r h' := by
  obtain ⟨z1, z2⟩ := jin h0 h1 hn
  refine jG.hp g (fun _ oS oH => ⟨jokS_cons (by have h2 := oH a i.toNat; rw [jty_k hk] at h2; exact h2) (jokS_tl (jokS_tl oS)), oH⟩) (fun hF hl oS oH hP hS k => ?_)
  have hw := jwd_at (E := E) (h := h) (jkd_lt hk (by decide))
  rw [jent_i _ hk (by decide)] at hw
  refine va_iald hF.1 hF.2.1 hF.2.2.2.2.2.2.1 hP a 0 hw rfl z1 hd ?_
  rw [z2]
  exact k _ _ hP hS
theorem jG.bald {a n : Nat} {i : Int} (hd : decode (jb M) pc = .ok (.baload, 1)) (hk : jkd.getD a (9, 0) = (3, n)) (hn : (n : Int) < 2147483648) (h0 : 0 ≤ i) (h1 : i < (n : Int)) (g : jG E M (pc + 1) L ((0, h a i.toNat) :: st) h r h') : jG E M pc L ((0, i) :: (2, (a : Int)) :: st) h r h' := by
  obtain ⟨z1, z2⟩ := jin h0 h1 hn
  refine jG.hp g (fun _ oS oH => ⟨jokS_cons (by have h2 := oH a i.toNat; rw [jty_k hk] at h2; have h3 : -128 ≤ h a i.toNat ∧ h a i.toNat < 128 := h2; exact ⟨by show -2147483648 ≤ h a i.toNat; omega, by show h a i.toNat < 2147483648; omega⟩) (jokS_tl (jokS_tl oS)), oH⟩) (fun hF hl oS oH hP hS k => ?_)
  have hw := jwd_at (E := E) (h := h) (jkd_lt hk (by decide))
  rw [jent_i _ hk (by decide)] at hw
  refine va_bald hF.1 hF.2.1 hF.2.2.2.2.2.2.1 hP a 2 hw rfl z1 hd ?_
  rw [z2]
  exact k _ _ hP hS
theorem jG.cald {a n : Nat} {i : Int} (hd : decode (jb M) pc = .ok (.caload, 1)) (hk : jkd.getD a (9, 0) = (4, n)) (hn : (n : Int) < 2147483648) (h0 : 0 ≤ i) (h1 : i < (n : Int)) (g : jG E M (pc + 1) L ((0, h a i.toNat) :: st) h r h') : jG E M pc L ((0, i) :: (2, (a : Int)) :: st) h r h' := by
  obtain ⟨z1, z2⟩ := jin h0 h1 hn
  refine jG.hp g (fun _ oS oH => ⟨jokS_cons (by have h2 := oH a i.toNat; rw [jty_k hk] at h2; have h3 : 0 ≤ h a i.toNat ∧ h a i.toNat < 65536 := h2; exact ⟨by show -2147483648 ≤ h a i.toNat; omega, by show h a i.toNat < 2147483648; omega⟩) (jokS_tl (jokS_tl oS)), oH⟩) (fun hF hl oS oH hP hS k => ?_)
  have hw := jwd_at (E := E) (h := h) (jkd_lt hk (by decide))
  rw [jent_i _ hk (by decide)] at hw
  refine va_cald hF.1 hF.2.1 hF.2.2.2.2.2.2.1 hP a 3 hw rfl z1 hd ?_
  rw [z2]
  exact k _ _ hP hS
theorem jG.lald {a n : Nat} {i : Int} (hd : decode (jb M) pc = .ok (.laload, 1)) (hk : jkd.getD a (9, 0) = (2, n)) (hn : (n : Int) < 2147483648) (h0 : 0 ≤ i) (h1 : i < (n : Int)) (g : jG E M (pc + 1) L ((1, h a i.toNat) :: st) h r h') : jG E M pc L ((0, i) :: (2, (a : Int)) :: st) h r h' := by
  obtain ⟨z1, z2⟩ := jin h0 h1 hn
  refine jG.hp g (fun _ oS oH => ⟨jokS_cons (by have h2 := oH a i.toNat; rw [jty_k hk] at h2; exact h2) (jokS_tl (jokS_tl oS)), oH⟩) (fun hF hl oS oH hP hS k => ?_)
  have hw := jwd_at (E := E) (h := h) (jkd_lt hk (by decide))
  rw [jent_l _ hk] at hw
  refine va_lald hF.1 hF.2.1 hF.2.2.2.2.2.2.1 hP a 1 hw rfl z1 hd ?_
  rw [z2]
  exact k _ _ hP hS
theorem jnar_b {v : Int} (h0 : -128 ≤ v) (h1 : v < 128) : vp_nar .byte (Int32.ofInt v) = Int32.ofInt v := by
  rw [vp_nar_byte]
  apply Int32.toInt_inj.mp
  rw [Int8.toInt_toInt32, Int32.toInt_toInt8, jn_toInt, w32_id (by omega) (by omega), Int.bmod_def]
  split <;> omega
theorem jnar_c {v : Int} (h0 : 0 ≤ v) (h1 : v < 65536) : vp_nar .char (Int32.ofInt v) = Int32.ofInt v := by
  have e : Int32.ofInt v = nI v.toNat := by
    apply Int32.toInt_inj.mp
    rw [jn_toInt, w32_id (by omega) (by omega), nI_toInt (by omega)]
    omega
  have h2 := (pk_charN (q := v.toNat) (by omega)).1
  rw [e]
  unfold vp_nar
  rw [h2]
theorem jG.iast {a n : Nat} {i v : Int} (hd : decode (jb M) pc = .ok (.iastore, 1)) (hk : jkd.getD a (9, 0) = (1, n)) (hn : (n : Int) < 2147483648) (h0 : 0 ≤ i) (h1 : i < (n : Int)) (g : jG E M (pc + 1) L st (jup h a i.toNat v) r h') : jG E M pc L ((0, v) :: (0, i) :: (2, (a : Int)) :: st) h r h' := by
  obtain ⟨z1, z2⟩ := jin h0 h1 hn
  refine jG.hp g (fun _ oS oH => ⟨jokS_tl (jokS_tl (jokS_tl oS)), jHok_up oH (by rw [jty_k hk]; exact jokS_hd oS)⟩) (fun hF hl oS oH hP hS k => ?_)
  have ha := jkd_lt hk (by decide)
  have hw := jwd_at (E := E) (h := h) ha
  rw [jent_i _ hk (by decide)] at hw
  refine va_iast hF.1 hF.2.1 hF.2.2.2.2.2.2.1 hP (jwd_D hF.2.2.2.2.2.2.2.2.1) hS a 0 hw rfl z1 hd (fun H1 locs1 hP1 _ hS1 => k H1 locs1 ?_ hS1)
  rw [z2] at hP1
  have e := jwd_cp (E := E) (h := h) ha (fun k' => if k' = i.toNat then v else h a k')
  rw [jent_i _ hk (by decide)] at e
  have e2 : (fun j => Int32.ofInt (if j = i.toNat then v else h a j)) = upd (fun j => Int32.ofInt (h a j)) i.toNat (Int32.ofInt v) := by
    funext j
    unfold upd
    by_cases hj : j = i.toNat
    · rw [if_pos hj, if_pos hj]
    · rw [if_neg hj, if_neg hj]
  rw [e2] at e
  rw [e] at hP1
  exact hP1
theorem jG.bast {a n : Nat} {i v : Int} (hd : decode (jb M) pc = .ok (.bastore, 1)) (hk : jkd.getD a (9, 0) = (3, n)) (hn : (n : Int) < 2147483648) (h0 : 0 ≤ i) (h1 : i < (n : Int)) (hv0 : -128 ≤ v) (hv1 : v < 128) (g : jG E M (pc + 1) L st (jup h a i.toNat v) r h') : jG E M pc L ((0, v) :: (0, i) :: (2, (a : Int)) :: st) h r h' := by
  obtain ⟨z1, z2⟩ := jin h0 h1 hn
  refine jG.hp g (fun _ oS oH => ⟨jokS_tl (jokS_tl (jokS_tl oS)), jHok_up oH (by rw [jty_k hk]; exact ⟨hv0, hv1⟩)⟩) (fun hF hl oS oH hP hS k => ?_)
  have ha := jkd_lt hk (by decide)
  have hw := jwd_at (E := E) (h := h) ha
  rw [jent_i _ hk (by decide)] at hw
  refine va_bast hF.1 hF.2.1 hF.2.2.2.2.2.2.1 hP (jwd_D hF.2.2.2.2.2.2.2.2.1) hS a 2 hw rfl z1 hd (fun H1 locs1 hP1 _ hS1 => k H1 locs1 ?_ hS1)
  rw [jnar_b hv0 hv1] at hP1
  rw [z2] at hP1
  have e := jwd_cp (E := E) (h := h) ha (fun k' => if k' = i.toNat then v else h a k')
  rw [jent_i _ hk (by decide)] at e
  have e2 : (fun j => Int32.ofInt (if j = i.toNat then v else h a j)) = upd (fun j => Int32.ofInt (h a j)) i.toNat (Int32.ofInt v) := by
    funext j
    unfold upd
    by_cases hj : j = i.toNat
    · rw [if_pos hj, if_pos hj]
    · rw [if_neg hj, if_neg hj]
  rw [e2] at e
  rw [e] at hP1
  exact hP1
theorem jG.cast {a n : Nat} {i v : Int} (hd : decode (jb M) pc = .ok (.castore, 1)) (hk : jkd.getD a (9, 0) = (4, n)) (hn : (n : Int) < 2147483648) (h0 : 0 ≤ i) (h1 : i < (n : Int)) (hv0 : 0 ≤ v) (hv1 : v < 65536) (g : jG E M (pc + 1) L st (jup h a i.toNat v) r h') : jG E M pc L ((0, v) :: (0, i) :: (2, (a : Int)) :: st) h r h' := by
  obtain ⟨z1, z2⟩ := jin h0 h1 hn
  refine jG.hp g (fun _ oS oH => ⟨jokS_tl (jokS_tl (jokS_tl oS)), jHok_up oH (by rw [jty_k hk]; exact ⟨hv0, hv1⟩)⟩) (fun hF hl oS oH hP hS k => ?_)
  have ha := jkd_lt hk (by decide)
  have hw := jwd_at (E := E) (h := h) ha
  rw [jent_i _ hk (by decide)] at hw
  refine va_cast hF.1 hF.2.1 hF.2.2.2.2.2.2.1 hP (jwd_D hF.2.2.2.2.2.2.2.2.1) hS a 3 hw rfl z1 hd (fun H1 locs1 hP1 _ hS1 => k H1 locs1 ?_ hS1)
  rw [jnar_c hv0 hv1] at hP1
  rw [z2] at hP1
  have e := jwd_cp (E := E) (h := h) ha (fun k' => if k' = i.toNat then v else h a k')
  rw [jent_i _ hk (by decide)] at e
  have e2 : (fun j => Int32.ofInt (if j = i.toNat then v else h a j)) = upd (fun j => Int32.ofInt (h a j)) i.toNat (Int32.ofInt v) := by
    funext j
    unfold upd
    by_cases hj : j = i.toNat
    · rw [if_pos hj, if_pos hj]
    · rw [if_neg hj, if_neg hj]
  rw [e2] at e
  rw [e] at hP1
  exact hP1
theorem jG.last {a n : Nat} {i v : Int} (hd : decode (jb M) pc = .ok (.lastore, 1)) (hk : jkd.getD a (9, 0) = (2, n)) (hn : (n : Int) < 2147483648) (h0 : 0 ≤ i) (h1 : i < (n : Int)) (g : jG E M (pc + 1) L st (jup h a i.toNat v) r h') : jG E M pc L ((1, v) :: (0, i) :: (2, (a : Int)) :: st) h r h' := by
  obtain ⟨z1, z2⟩ := jin h0 h1 hn
  refine jG.hp g (fun _ oS oH => ⟨jokS_tl (jokS_tl (jokS_tl oS)), jHok_up oH (by rw [jty_k hk]; exact jokS_hd oS)⟩) (fun hF hl oS oH hP hS k => ?_)
  have ha := jkd_lt hk (by decide)
  have hw := jwd_at (E := E) (h := h) ha
  rw [jent_l _ hk] at hw
  refine va_last hF.1 hF.2.1 hF.2.2.2.2.2.2.1 hP (jwd_D hF.2.2.2.2.2.2.2.2.1) hS a 1 hw rfl z1 hd (fun H1 locs1 hP1 _ hS1 => k H1 locs1 ?_ hS1)
  rw [z2] at hP1
  have e := jwd_cp (E := E) (h := h) ha (fun k' => if k' = i.toNat then v else h a k')
  rw [jent_l _ hk] at e
  have e2 : (fun j => Int64.ofInt (if j = i.toNat then v else h a j)) = vp_updL (fun j => Int64.ofInt (h a j)) i.toNat (Int64.ofInt v) := by
    funext j
    unfold vp_updL
    by_cases hj : j = i.toNat
    · rw [if_pos hj, if_pos hj]
    · rw [if_neg hj, if_neg hj]
  rw [e2] at e
  rw [e] at hP1
  exact hP1
theorem jG.alen {a t n : Nat} (hd : decode (jb M) pc = .ok (.arraylength, 1)) (hk : jkd.getD a (9, 0) = (t, n)) (ht : t = 1 ∨ t = 2 ∨ t = 3 ∨ t = 4) (hn : (n : Int) < 2147483648) (g : jG E M (pc + 1) L ((0, (n : Int)) :: st) h r h') : jG E M pc L ((2, (a : Int)) :: st) h r h' := by
  refine jG.hp g (fun _ oS oH => ⟨jokS_cons ⟨by show -2147483648 ≤ (n : Int); omega, hn⟩ (jokS_tl oS), oH⟩) (fun hF hl oS oH hP hS k => ?_)
  have ha : a < jN := jkd_lt hk (by rcases ht with rfl | rfl | rfl | rfl <;> decide)
  have hw := jwd_at (E := E) (h := h) ha
  have hK := hF.2.2.2.2.2.2.1
  have e : Int32.ofNat n = Int32.ofInt (n : Int) := (Int32.ofInt_eq_ofNat).symm
  rcases ht with rfl | rfl | rfl | rfl
  · rw [jent_i _ hk (by decide)] at hw
    exact va_alen hF.1 hF.2.1 hK hP a 0 hw (by rfl : (jtys E)[0]? = some (jca E 1, .int)) e hd (k _ _ hP hS)
  · rw [jent_l _ hk] at hw
    exact va_alen hF.1 hF.2.1 hK hP a 1 hw (by rfl : (jtys E)[1]? = some (jca E 2, .long)) e hd (k _ _ hP hS)
  · rw [jent_i _ hk (by decide)] at hw
    exact va_alen hF.1 hF.2.1 hK hP a 2 hw (by rfl : (jtys E)[2]? = some (jca E 3, .byte)) e hd (k _ _ hP hS)
  · rw [jent_i _ hk (by decide)] at hw
    exact va_alen hF.1 hF.2.1 hK hP a 3 hw (by rfl : (jtys E)[3]? = some (jca E 4, .char)) e hd (k _ _ hP hS)
/-! fields -/
def jfd (a k : Nat) (x : Int) : jV := match jty a k with
  | 2 => (2, (((jrf.getD a []).getD k 0 : Nat) : Int))
  | 1 => (1, x)
  | _ => (0, x)
theorem jfd_tv (a k : Nat) (x : Int) : tv E (jfd a k x) = jfv E a k x := by
  unfold jfd jfv
  match jty a k with
  | 0 => rfl
  | 1 => rfl
  | 2 => rfl
  | _ + 3 => rfl
theorem jfd_ok {a k : Nat} (hty : jty a k ≤ 3) (oH : jHok h) : jokV (jfd a k (h a k)) := by
  have h2 := oH a k
  unfold jfd
  revert h2 hty
  match jty a k with
  | 0 => intro _ h2; exact h2
  | 1 => intro _ h2; exact h2
  | 2 => intro _ h2; trivial
  | 3 => intro _ h2; have h3 : h a k = 0 ∨ h a k = 1 := h2; exact ⟨by show -2147483648 ≤ h a k; omega, by show h a k < 2147483648; omega⟩
  | _ + 4 => intro h1; omega
/-- a class of the world: its words, its fields' types -/
def jclOk (ci : Nat) (C : String) (T : u_T) (N : Nat) : Prop :=
  (∀ w ∈ u_ws C T N, w ∈ jWS) ∧ (jft.getD ci []).length = N ∧ (∀ a, a < N → ∀ b, b < N → a ≠ b → (T a).2.1 ≠ (T b).2.1) ∧ (∀ k, k < N → ∃ ty, parseFieldDescriptor (T k).2.2.1 = some ty ∧ (match (jft.getD ci []).getD k 2 with | 0 => ty = .int | 1 => ty = .long | 3 => ty = .boolean | 2 => True | _ => False))
theorem jft_le {ci : Nat} {C : String} {T : u_T} {N k : Nat} (hO : jclOk ci C T N) (hk : k < N) : (jft.getD ci []).getD k 2 ≤ 3 := by
  obtain ⟨ty, -, h2⟩ := hO.2.2.2 k hk
  revert h2
  match (jft.getD ci []).getD k 2 with
  | 0 => intro _; omega
  | 1 => intro _; omega
  | 2 => intro _; omega
  | 3 => intro _; omega
  | _ + 4 => intro z; exact z.elim
theorem jG.getf {ix a ci k : Nat} {C : String} {T : u_T} {N : Nat} (hd : decode (jb M) pc = .ok (.getfield ix, 3)) (hk : jkd.getD a (9, 0) = (0, ci)) (hc : jcl[ci]? = some (C, T, N)) (hO : jclOk ci C T N) (hkN : k < N) (hw : Cond.fieldLink (jy M).cls ix (T k).1 (T k).2.1 (T k).2.2.1 ∈ jWS) (g : jG E M (pc + 3) L (jfd a k (h a k) :: st) h r h') : jG E M pc L ((2, (a : Int)) :: st) h r h' := by
  refine jG.hp g (fun _ oS oH => ⟨jokS_cons (jfd_ok (by rw [jty_k hk]; exact jft_le hO hkN) oH) (jokS_tl oS), oH⟩) (fun hF hl oS oH hP hS kk => ?_)
  have hx := jwd_at (E := E) (h := h) (jkd_lt hk (by decide))
  rw [jent_o _ hk] at hx
  have hts := hF.2.2.2.2.2.1
  refine va_get hF.1 hF.2.1 hts hO.1 hF.2.2.2.2.1 hF.2.2.2.2.2.2.1 hP a hx hc k hkN (hts _ hw) (fun _ z => z) (v := jfv E a k (h a k)) ?_ hd ?_
  · rw [List.getElem?_map, List.getElem?_range (by rw [hO.2.1]; exact hkN)]
    rfl
  · rw [← jfd_tv]
    exact kk _ _ hP hS
theorem jG.getfN {ix a ci k : Nat} {C : String} {T : u_T} {N : Nat} (hd : decode (jb M) pc = .ok (.getfield ix, 3)) (hk : jkd.getD a (9, 0) = (0, ci)) (hc : jcl[ci]? = some (C, T, N)) (hO : jclOk ci C T N) (hkN : k < N) (hw : Cond.fieldLinkNest (jy M).cls ix (T k).1 (T k).2.1 (T k).2.2.1 jhost ∈ jNW) (g : jG E M (pc + 3) L (jfd a k (h a k) :: st) h r h') : jG E M pc L ((2, (a : Int)) :: st) h r h' := by
  refine jG.hp g (fun _ oS oH => ⟨jokS_cons (jfd_ok (by rw [jty_k hk]; exact jft_le hO hkN) oH) (jokS_tl oS), oH⟩) (fun hF hl oS oH hP hS kk => ?_)
  have hx := jwd_at (E := E) (h := h) (jkd_lt hk (by decide))
  rw [jent_o _ hk] at hx
  have hts := hF.2.2.2.2.2.1
  refine va_getN hF.1 hF.2.1 hts hO.1 hF.2.2.2.2.1 hF.2.2.2.2.2.2.1 hP a hx hc k hkN (va_Nw.use rfl (hF.2.2.2.2.2.2.2.1.2.2.2.2 _ hw)) (fun _ z => z) (v := jfv E a k (h a k)) ?_ hd ?_
  · rw [List.getElem?_map, List.getElem?_range (by rw [hO.2.1]; exact hkN)]
    rfl
  · rw [← jfd_tv]
    exact kk _ _ hP hS
theorem jset_range {α : Type} {n k : Nat} (f : Nat → α) (v : α) : ((List.range n).map f).set k v = (List.range n).map (fun j => if j = k then v else f j) := by
  apply List.ext_getElem?
  intro i
  rw [List.getElem?_set]
  by_cases hi : k = i
  · subst hi
    rw [if_pos rfl]
    by_cases h2 : k < n
    · simp [h2]
    · simp [h2]
  · rw [if_neg hi]
    by_cases h2 : i < n
    · simp [h2, Ne.symm hi]
    · simp [h2]
/-- what may be stored: by the field's type -/
def jput (t : Nat) (v : jV) : Prop := match t with
  | 0 => v.1 = 0
  | 1 => v.1 = 1
  | 3 => v.1 = 0 ∧ (v.2 = 0 ∨ v.2 = 1)
  | _ => False
theorem jput_val {ci k : Nat} {ty : FieldType} {v : jV} {a : Nat} (hk : jkd.getD a (9, 0) = (0, ci)) (h2 : match (jft.getD ci []).getD k 2 with | 0 => ty = .int | 1 => ty = .long | 3 => ty = .boolean | 2 => True | _ => False) (hp : jput ((jft.getD ci []).getD k 2) v) :
    tv E v = jfv E a k v.2 ∧ narrow ty (tv E v) = tv E v ∧ fits ty (tv E v) = true := by
  have hty : jty a k = (jft.getD ci []).getD k 2 := by rw [jty_k hk]; rfl
  unfold jfv
  rw [hty]
  revert h2 hp
  obtain ⟨t, x⟩ := v
  match (jft.getD ci []).getD k 2 with
  | 0 =>
    intro h2 hp
    have : t = 0 := hp
    subst this
    subst h2
    exact ⟨rfl, rfl, rfl⟩
  | 1 =>
    intro h2 hp
    have : t = 1 := hp
    subst this
    subst h2
    exact ⟨rfl, rfl, rfl⟩
  | 2 => intro _ hp; exact hp.elim
  | 3 =>
    intro h2 hp
    obtain ⟨h3, h4⟩ : t = 0 ∧ (x = 0 ∨ x = 1) := hp
    subst h3
    subst h2
    rcases h4 with rfl | rfl
    · exact ⟨rfl, by show narrow .boolean (.int (Int32.ofInt 0)) = .int (Int32.ofInt 0); decide, rfl⟩
    · exact ⟨rfl, by show narrow .boolean (.int (Int32.ofInt 1)) = .int (Int32.ofInt 1); decide, rfl⟩
  | _ + 4 => intro z; exact z.elim
theorem jput_ok {ci k : Nat} {v : jV} {a : Nat} (hk : jkd.getD a (9, 0) = (0, ci)) (hp : jput ((jft.getD ci []).getD k 2) v) (hv : jokV v) : jokT (jty a k) v.2 := by
  rw [jty_k hk]
  show jokT ((jft.getD ci []).getD k 2) v.2
  revert hp hv
  obtain ⟨t, x⟩ := v
  match (jft.getD ci []).getD k 2 with
  | 0 => intro hp hv; have : t = 0 := hp; subst this; exact hv
  | 1 => intro hp hv; have : t = 1 := hp; subst this; exact hv
  | 2 => intro hp; exact hp.elim
  | 3 => intro hp hv; exact hp.2
  | _ + 4 => intro z; exact z.elim
theorem jput_world {ci k a : Nat} {v : jV} (hk : jkd.getD a (9, 0) = (0, ci)) (ha : a < jN) (hv : tv E v = jfv E a k v.2) : (jwd E h).set a (jad E a, .inr (ci, ((List.range (jft.getD ci []).length).map (fun j => jfv E a j (h a j))).set k (tv E v))) = jwd E (jup h a k v.2) := by
  have e := jwd_cp (E := E) (h := h) ha (fun k' => if k' = k then v.2 else h a k')
  rw [jent_o _ hk] at e
  unfold jup
  rw [← e, jset_range]
  congr 4
  apply List.map_congr_left
  intro j _
  by_cases hj : j = k
  · rw [if_pos hj, if_pos hj, hv, hj]
  · rw [if_neg hj, if_neg hj]
theorem jG.putf {ix a ci k : Nat} {C : String} {T : u_T} {N : Nat} {v : jV} (hd : decode (jb M) pc = .ok (.putfield ix, 3)) (hk : jkd.getD a (9, 0) = (0, ci)) (hc : jcl[ci]? = some (C, T, N)) (hO : jclOk ci C T N) (hkN : k < N) (hfin : (T k).2.2.2 = false) (hp : jput ((jft.getD ci []).getD k 2) v) (hw : Cond.fieldLink (jy M).cls ix (T k).1 (T k).2.1 (T k).2.2.1 ∈ jWS) (g : jG E M (pc + 3) L st (jup h a k v.2) r h') : jG E M pc L (v :: (2, (a : Int)) :: st) h r h' := by
  refine jG.hp g (fun _ oS oH => ⟨jokS_tl (jokS_tl oS), jHok_up oH (jput_ok hk hp (jokS_hd oS))⟩) (fun hF hl oS oH hP hS kk => ?_)
  have ha := jkd_lt hk (by decide)
  have hx := jwd_at (E := E) (h := h) ha
  rw [jent_o _ hk] at hx
  have hts := hF.2.2.2.2.2.1
  obtain ⟨hu, hlen, hnm, htys⟩ := hO
  obtain ⟨ty, ht1, ht2⟩ := htys k hkN
  obtain ⟨q1, q2, q3⟩ := jput_val (E := E) (a := a) hk ht2 hp
  refine va_put hF.1 hF.2.1 hts hu (fun j => if h : j < N then (htys j h).choose else .int) (fun j hj => by rw [dif_pos hj]; exact (htys j hj).choose_spec.1) hnm hF.2.2.2.2.1 hF.2.2.2.2.2.2.1 hP (jwd_D hF.2.2.2.2.2.2.2.2.1) hS a hx hc k hkN (hts _ hw) (fun _ z => z) hfin ht1 q2 q3 (by rw [List.length_map, List.length_range, hlen]; exact hkN) hd (fun H1 locs1 hP1 _ hS1 => kk H1 locs1 ?_ hS1)
  rw [jput_world hk ha q1] at hP1
  exact hP1
theorem jG.putfN {ix a ci k : Nat} {C : String} {T : u_T} {N : Nat} {v : jV} (hd : decode (jb M) pc = .ok (.putfield ix, 3)) (hk : jkd.getD a (9, 0) = (0, ci)) (hc : jcl[ci]? = some (C, T, N)) (hO : jclOk ci C T N) (hkN : k < N) (hfin : (T k).2.2.2 = false) (hp : jput ((jft.getD ci []).getD k 2) v) (hw : Cond.fieldLinkNest (jy M).cls ix (T k).1 (T k).2.1 (T k).2.2.1 jhost ∈ jNW) (g : jG E M (pc + 3) L st (jup h a k v.2) r h') : jG E M pc L (v :: (2, (a : Int)) :: st) h r h' := by
  refine jG.hp g (fun _ oS oH => ⟨jokS_tl (jokS_tl oS), jHok_up oH (jput_ok hk hp (jokS_hd oS))⟩) (fun hF hl oS oH hP hS kk => ?_)
  have ha := jkd_lt hk (by decide)
  have hx := jwd_at (E := E) (h := h) ha
  rw [jent_o _ hk] at hx
  have hts := hF.2.2.2.2.2.1
  obtain ⟨hu, hlen, hnm, htys⟩ := hO
  obtain ⟨ty, ht1, ht2⟩ := htys k hkN
  obtain ⟨q1, q2, q3⟩ := jput_val (E := E) (a := a) hk ht2 hp
  refine va_putN hF.1 hF.2.1 hts hu (fun j => if h : j < N then (htys j h).choose else .int) (fun j hj => by rw [dif_pos hj]; exact (htys j hj).choose_spec.1) hnm hF.2.2.2.2.1 hF.2.2.2.2.2.2.1 hP (jwd_D hF.2.2.2.2.2.2.2.2.1) hS a hx hc k hkN (va_Nw.use rfl (hF.2.2.2.2.2.2.2.1.2.2.2.2 _ hw)) (fun _ z => z) hfin ht1 q2 q3 (by rw [List.length_map, List.length_range, hlen]; exact hkN) hd (fun H1 locs1 hP1 _ hS1 => kk H1 locs1 ?_ hS1)
  rw [jput_world hk ha q1] at hP1
  exact hP1
/-! what is only read -/
theorem jG.gets {ix : Nat} {q : String × String × String × jV} (hd : decode (jb M) pc = .ok (.getstatic ix, 3)) (hq : q ∈ jst) (hw : Cond.fieldLink (jy M).cls ix q.1 q.2.1 q.2.2.1 ∈ jWS) (hv : jokV q.2.2.2) (g : jG E M (pc + 3) L (q.2.2.2 :: st) h r h') : jG E M pc L st h r h' := by
  refine jG.hp g (fun _ oS oH => ⟨jokS_cons hv oS, oH⟩) (fun hF hl oS oH hP hS kk => ?_)
  exact va_gets hF.1 hF.2.1 (hF.2.2.2.2.2.2.2.1.2.1 q hq) hS hF.2.2.2.2.1 (hF.2.2.2.2.2.1 _ hw) (fun _ z => z) hd (kk _ _ hP hS)
theorem jG.getsN {ix : Nat} {q : String × String × String × jV} (hd : decode (jb M) pc = .ok (.getstatic ix, 3)) (hq : q ∈ jst) (hw : Cond.fieldLinkNest (jy M).cls ix q.1 q.2.1 q.2.2.1 jhost ∈ jNW) (hv : jokV q.2.2.2) (g : jG E M (pc + 3) L (q.2.2.2 :: st) h r h') : jG E M pc L st h r h' := by
  refine jG.hp g (fun _ oS oH => ⟨jokS_cons hv oS, oH⟩) (fun hF hl oS oH hP hS kk => ?_)
  exact va_getsN hF.1 hF.2.1 (hF.2.2.2.2.2.2.2.1.2.1 q hq) hS hF.2.2.2.2.1 (va_Nw.use rfl (hF.2.2.2.2.2.2.2.1.2.2.2.2 _ hw)) (fun _ z => z) hd (kk _ _ hP hS)
theorem jG.xald {x : Nat} {i : Int} (hd : decode (jb M) pc = .ok (.iaload, 1)) (hx : x < jxn) (ht : jxt.getD x .int = .int) (hn : (jxl E x : Int) < 2147483648) (h0 : 0 ≤ i) (h1 : i < (jxl E x : Int)) (hv : ok32 (jxv E x i.toNat)) (g : jG E M (pc + 1) L ((0, jxv E x i.toNat) :: st) h r h') : jG E M pc L ((0, i) :: (3, (x : Int)) :: st) h r h' := by
  obtain ⟨z1, z2⟩ := jin h0 h1 hn
  refine jG.hp g (fun _ oS oH => ⟨jokS_cons hv (jokS_tl (jokS_tl oS)), oH⟩) (fun hF hl oS oH hP hS kk => ?_)
  have hT := hF.2.2.2.2.2.2.2.1.1 x hx
  rw [ht] at hT
  exact va_ti hF.1 hF.2.1 hT hS z1 (by rw [z2]; rfl) hd (kk _ _ hP hS)
theorem jG.xbld {x : Nat} {i : Int} (hd : decode (jb M) pc = .ok (.baload, 1)) (hx : x < jxn) (ht : jxt.getD x .int = .byte) (hn : (jxl E x : Int) < 2147483648) (h0 : 0 ≤ i) (h1 : i < (jxl E x : Int)) (hv : ok32 (jxv E x i.toNat)) (g : jG E M (pc + 1) L ((0, jxv E x i.toNat) :: st) h r h') : jG E M pc L ((0, i) :: (3, (x : Int)) :: st) h r h' := by
  obtain ⟨z1, z2⟩ := jin h0 h1 hn
  refine jG.hp g (fun _ oS oH => ⟨jokS_cons hv (jokS_tl (jokS_tl oS)), oH⟩) (fun hF hl oS oH hP hS kk => ?_)
  have hT := hF.2.2.2.2.2.2.2.1.1 x hx
  rw [ht] at hT
  exact va_tb hF.1 hF.2.1 hT hS z1 (by rw [z2]; rfl) hd (kk _ _ hP hS)
theorem jG.xlen {x : Nat} (hd : decode (jb M) pc = .ok (.arraylength, 1)) (hx : x < jxn) (hn : (jxl E x : Int) < 2147483648) (g : jG E M (pc + 1) L ((0, (jxl E x : Int)) :: st) h r h') : jG E M pc L ((3, (x : Int)) :: st) h r h' := by
  refine jG.hp g (fun _ oS oH => ⟨jokS_cons ⟨by show -2147483648 ≤ (jxl E x : Int); omega, hn⟩ (jokS_tl oS), oH⟩) (fun hF hl oS oH hP hS kk => ?_)
  exact va_tlen hF.1 hF.2.1 (hF.2.2.2.2.2.2.2.1.1 x hx) hS (Int32.ofInt_eq_ofNat).symm hd (kk _ _ hP hS)
theorem jG.ldcs {ix : Nat} {q : String × Nat × String × Nat} (hd : decode (jb M) pc = .ok (.ldc ix, 2)) (hq : q ∈ jsr) (h1 : q.1 = (jy M).cls) (h2 : q.2.1 = ix) (g : jG E M (pc + 2) L ((3, (q.2.2.2 : Int)) :: st) h r h') : jG E M pc L st h r h' := by
  refine jG.hp g (fun _ oS oH => ⟨jokS_cons (by trivial) oS, oH⟩) (fun hF hl oS oH hP hS kk => ?_)
  have hZ := hF.2.2.2.2.2.2.2.1.2.2.1 q hq
  rw [h1, h2] at hZ
  exact va_ldcS hF.1 hF.2.1 hF.2.2.2.2.1 hZ hd (kk _ _ hP hS)
theorem jG.xcod {ix : Nat} {q : Nat × Nat} (hd : decode (jb M) pc = .ok (.getfield ix, 3)) (hq : q ∈ jso) (hw : Cond.fieldLink (jy M).cls ix "java/lang/String" "coder" "B" ∈ jWS) (g : jG E M (pc + 3) L ((0, 0) :: st) h r h') : jG E M pc L ((3, (q.1 : Int)) :: st) h r h' := by
  refine jG.hp g (fun _ oS oH => ⟨jokS_cons ok32_0 (jokS_tl oS), oH⟩) (fun hF hl oS oH hP hS kk => ?_)
  exact vk_getf hF.1 hF.2.1 (hF.2.2.2.2.2.2.2.1.2.2.2.1 q hq).2.1 hS hF.2.2.2.2.1 (hF.2.2.2.2.2.1 _ hw) (fun _ z => z) hd (kk _ _ hP hS)
theorem jG.xval {ix : Nat} {q : Nat × Nat} (hd : decode (jb M) pc = .ok (.getfield ix, 3)) (hq : q ∈ jso) (hw : Cond.fieldLink (jy M).cls ix "java/lang/String" "value" "[B" ∈ jWS) (g : jG E M (pc + 3) L ((3, (q.2 : Int)) :: st) h r h') : jG E M pc L ((3, (q.1 : Int)) :: st) h r h' := by
  refine jG.hp g (fun _ oS oH => ⟨jokS_cons (by trivial) (jokS_tl oS), oH⟩) (fun hF hl oS oH hP hS kk => ?_)
  exact vk_getf hF.1 hF.2.1 (hF.2.2.2.2.2.2.2.1.2.2.2.1 q hq).2.2 hS hF.2.2.2.2.1 (hF.2.2.2.2.2.1 _ hw) (fun _ z => z) hd (kk _ _ hP hS)
/-! contracts -/
def jPc (E : jE) (args : List jV) (h : jH) : Array Value → State → Prop := va_Pc (args.map (tv E)) (fun U => jokS args ∧ jHok h ∧ va_P (jeD E) jcl (jwd E h) U.heap ∧ va_K (jeD E) jcl (jtys E) U ∧ jX E (jAE E) U U.heap ∧ jDi E)
def jQc (E : jE) (r : Option jV) (h' : jH) : Array Value → State → Outcome → State → Prop := fun _ st oc t => oc = .returned (r.map (tv E)) ∧ jokS r.toList ∧ jHok h' ∧ va_P (jeD E) jcl (jwd E h') t.heap ∧ va_F (jAE E) st t
def jC (E : jE) (M : jM) (args : List jV) (h : jH) (r : Option jV) (h' : jH) : Prop := Met (jel E) (jy M) (jws M) (jrm M) (jPc E args h) (jQc E r h') 0 0 (jAE E)
def jargs : Nat → List jV → List (Nat × jV)
  | _, [] => []
  | i, v :: l => (i, v) :: jargs (if v.1 = 1 then i + 2 else i + 1) l
theorem jargs_map : ∀ (args : List jV) (i : Nat), (jargs i args).map (jtp E) = lv_args i (args.map (tv E)) := by
  intro args
  induction args with
  | nil => intro i; rfl
  | cons v l ih =>
    intro i
    have hc : (tv E v).category = if v.1 = 1 then 2 else 1 := by
      by_cases hv : v.1 = 1
      · rw [if_pos hv]
        have h2 := jcat (E := E) v
        rw [hv] at h2
        simpa using h2
      · rw [if_neg hv]
        exact jcat1 hv
    show (i, tv E v) :: (jargs (if v.1 = 1 then i + 2 else i + 1) l).map (jtp E) = (i, tv E v) :: lv_args (if (tv E v).category = 2 then i + 2 else i + 1) (l.map (tv E))
    rw [ih, hc]
    by_cases hv : v.1 = 1
    · rw [if_pos hv, if_pos hv, if_pos rfl]
    · rw [if_neg hv, if_neg hv, if_neg (by decide)]
theorem jargs_ok : ∀ {args : List jV} {i : Nat}, jokS args → jokL (jargs i args) := by
  intro args
  induction args with
  | nil => intro i _ q hq; cases hq
  | cons v l ih =>
    intro i o q hq
    rcases List.mem_cons.mp hq with rfl | hq
    · exact jokS_hd o
    · exact ih (jokS_tl o) q hq
theorem jC.of {args : List jV} (hpl : plainName (jy M).cls = true) (hlen : (lg_sl (args.map (tv E))).length ≤ jL M) (g : jG E M 0 (jargs 0 args) [] h r h') : jC E M args h r h' := by
  refine Met.ofW (cc := jb M) (maxL := jL M) (ret := jr M) hpl rfl ?_
  intro p e s m args' below meth c s₁ B hml hv
  obtain ⟨rfl, oS, oH, hP, hK, hX, hDi⟩ := hv
  have hts := atoms_spec (ws := jws M) B.pre
  have hl := lv_entry (args.map (tv E)) (n := jL M) hlen
  rw [lg_entry_eq]
  generalize (lg_sl (args.map (tv E)) ++ List.replicate (jL M - (lg_sl (args.map (tv E))).length) Slot.unset).toArray = ls at hl ⊢
  refine g (jAE E) p e (headSpec (jws M) (jrm M)).room s m _ below meth c 0 0 (MQ below (jQc E r h') _ s 0 0 (jAE E)) ⟨B.exec, B.bytes, hml, B.notSynchronized, findClass_of_methodNamed B.named, fun w hw => hts w (List.mem_cons_of_mem _ hw), hK, hX, ⟨hDi, fun i hi => ⟨i, hi, rfl⟩⟩, Nat.le_refl _, Nat.le_refl _, Nat.zero_le _, Nat.zero_le _⟩ ?_ s.heap [] ls (jargs_ok oS) (fun _ h => by cases h) oH (by rw [jargs_map]; exact hl) hP va_S.rf
  intro pc' ls' H' locs' i hd hro oR oH' hP' hS'
  have hr0 : meth.sig.returnType = jr M := B.returns
  have hlk := B.notSynchronized
  have hfree : ∀ q ∈ locs', jAE E q.base := hS'.2.2
  have hq : ∀ (v : Option Value) (t : State), v = r.map (tv E) → t.heap = H' → jQc E r h' (args.map (tv E)).toArray s (.returned v) t := fun v t hv ht => ⟨by rw [hv], oR, oH', by rw [ht]; exact hP', hS'.F ht⟩
  unfold jro at hro
  split at hro
  · rename_i x hty
    exact W.iret B.exec B.bytes (hr0.trans hty) (fun t ht _ => hq _ t rfl ht) hfree hd hlk
  · rename_i x hty
    refine W.zret (ty := .boolean) B.exec B.bytes (hr0.trans hty) ?_ (fun t ht _ => hq _ t rfl ht) hfree hd hlk
    rcases hro with rfl | rfl <;> decide
  · rename_i x hty
    refine W.zret (ty := .char) B.exec B.bytes (hr0.trans hty) ?_ (fun t ht _ => hq _ t rfl ht) hfree hd hlk
    have e : Int32.ofInt x = nI x.toNat := by
      apply Int32.toInt_inj.mp
      rw [jn_toInt, w32_id (by omega) (by omega), nI_toInt (by omega)]
      omega
    rw [e]
    exact (pk_charN (q := x.toNat) (by omega)).1
  · rename_i x hty
    exact W.lret B.exec B.bytes (hr0.trans hty) (fun t ht _ => hq _ t rfl ht) hfree hd hlk
  · rename_i hty
    exact W.vret B.exec B.bytes (hr0.trans hty) (fun t ht _ => hq _ t rfl ht) hfree hd hlk
  · exact hro.elim
/-- a method's own words -/
def jokM (M : jM) : Prop := plainName (jy M).cls = true ∧ Cond.code (jy M) (jb M) (jL M) (jr M) ∈ jWS ∧ Cond.initialized (jy M).cls ∈ jWS ∧ ((jy M).cls ≠ "java/lang/invoke/MethodHandle" ∧ (jy M).cls ≠ "java/lang/invoke/VarHandle" ∧ (parseMethodDescriptor (jy M).desc).map (fun d => d.parameters.length) = some (jn M)) ∧ (if jk M = 0 then Cond.static (jy M) ∈ jWS else Cond.instanceMethod (jy M) ∈ jWS ∧ Cond.selects (jy M).cls (jy M) (jy M) ∈ jWS)
theorem jokM.good {M1 : jM} (hM : jokM M1) : GoodIn jWS (jws M1) := by
  intro w hw
  rcases List.mem_cons.mp hw with rfl | hw
  · exact ⟨hM.2.1, jWS_good hM.2.1⟩
  · exact ⟨hw, jWS_good hw⟩
theorem jcats (st : List jV) : ((st.map (tv E)).map fun v => v.category).sum = (st.map fun v => if v.1 = 1 then 2 else 1).sum := by
  congr 1
  rw [List.map_map]
  apply List.map_congr_left
  intro v _
  show (tv E v).category = _
  by_cases hv : v.1 = 1
  · rw [if_pos hv]
    have h2 := jcat (E := E) v
    rw [hv] at h2
    simpa using h2
  · rw [if_neg hv]
    exact jcat1 hv
/-- behind a call -/
theorem jG.behind {M1 : jM} {args1 rest : List jV} {r1 : Option jV} {A : Nat → Prop} {p : Program} {e : Env} {R : Room} {s : State} {m : MethodId} {args : Array Value} {below : List Frame} {meth : Method} {c : Code} {H : Heap} {locs : List Loc} {cells slots : Nat} {Q : State → Prop} {ls : Array Slot} {st0 : List Value} {a1 : Array Value} (hA : jA E A)
    (hr : va_Run p (jel E) e R s m args below meth c H locs cells slots 0 0 (F0 m pc ls st0) (rest.map (tv E)) (jQc E r1 h1 a1) (jAE E)) (hS : va_S A s.heap H locs)
    (k : ∀ (H1 : Heap) (locs1 : List Loc), jokS r1.toList → jHok h1 → va_P (jeD E) jcl (jwd E h1) H1 → va_S A s.heap H1 locs1 → W p (jel E) e R s m args below meth c H1 locs1 cells slots Q (F0 m (pc + 3) ls ((r1.toList ++ rest).map (tv E)))) : W p (jel E) e R s m args below meth c H locs cells slots Q (F0 m pc ls st0) := by
  intro T hT X
  obtain ⟨v, st₀, t, T', L', h0, X', hL, e1, e2, ⟨hv, o1, o2, hP1, hz, hkp⟩, stp⟩ := hr T hT X
  have hAA : ∀ q, jAE E q → A q := by
    rintro q ⟨i, hi, rfl⟩
    exact hA.2 i hi
  rw [h0] at hz hkp
  obtain ⟨t2, b1, b2⟩ := k T'.heap (locs ++ L') o1 o2 (by rw [e1]; exact hP1)
    ⟨Nat.le_trans hS.1 (by rw [e1]; exact hz), fun q g1 g2 => by rw [e1, hkp q (Nat.lt_of_lt_of_le g1 hS.1) (fun z => g2 (hAA q z))]; exact hS.2.1 q g1 g2, fun q hq => by
      rcases List.mem_append.mp hq with g | g
      · exact hS.2.2 q g
      · exact hAA _ (hL q g)⟩ T' rfl X'
  refine ⟨t2, stp t2 ?_, b2⟩
  have hv' : v = r1.map (tv E) := Outcome.returned.inj hv
  have e3 : v.toList ++ rest.map (tv E) = (r1.toList ++ rest).map (tv E) := by
    rw [hv', List.map_append]
    cases r1 <;> rfl
  rw [e3]
  exact b1
theorem jPre {args1 : List jV} {A : Nat → Prop} {s : State} {H : Heap} {locs : List Loc} (hK : va_K (jeD E) jcl (jtys E) s) (hX : jX E A s s.heap) (hA : jA E A) (oS : jokS args1) (oH : jHok h) (hP : va_P (jeD E) jcl (jwd E h) H) (hS : va_S A s.heap H locs) : FrameBlind (jPc E args1 h) ∧ ∀ U : State, U.heap = H → s.WarmedH U.vm → jPc E args1 h (args1.map (tv E)).toArray U := by
  refine ⟨fun a U g mk q => ?_, fun U hU hW => ?_⟩
  · obtain ⟨q0, q1, q2, q3, q4, q5, q6⟩ := q
    exact ⟨q0, q1, q2, q3, va_K.moved (u := U) (U := U.calling g mk a) (Vm.Alike.refl U.vm) q4, jX.same (u := U) (U := U.calling g mk a) rfl q5, q6⟩
  · refine ⟨rfl, oS, oH, by rw [hU]; exact hP, va_K.moved hW.alike hK, ?_, hA.1⟩
    rw [hU]
    exact hX.move hW (fun q g1 g2 => hS.2.1 q g1 g2) (by rintro q ⟨i, hi, rfl⟩; exact hA.2 i hi)
theorem jG.callS {M1 : jM} {ix : Nat} {r1 : Option jV} (args1 rest : List jV) (hd : decode (jb M) pc = .ok (.invokestatic ix, 3)) (hM : jokM M1) (hk : jk M1 = 0) (hw : Cond.methodLink (jy M).cls ix (jy M1) ∈ jWS) (hfr : jf M1 + 1 ≤ jf M) (hlo : 8 + (jL M1 + 11) + jlr M1 ≤ jlr M) (hn : args1.length = jn M1) (hrs : (rest.map fun v => if v.1 = 1 then 2 else 1).sum ≤ 8) (hC : jC E M1 args1 h r1 h1) (g : jG E M (pc + 3) L (r1.toList ++ rest) h1 r h') : jG E M pc L (args1.reverse ++ rest) h r h' := by
  intro A p e R s m args below meth c cells slots Q hF hend H locs ls oL oS oH hl hP hS
  have hF0 := hF
  obtain ⟨hx, hb, hml, hlk, hown, hts, hK, hX, hA, hf1, hl1, hc1, hs1⟩ := hF
  have oA : jokS args1 := fun v hv => oS v (List.mem_append_left _ (List.mem_reverse.mpr hv))
  have oR : jokS rest := fun v hv => oS v (List.mem_append_right _ hv)
  have hst := hM.2.2.2.2
  rw [if_pos hk] at hst
  have cw := callB_of (R := R) (rm := jrm M1) (mc := 0) (ms := 0) (index := ix) (jn M1) hts hM.good rfl rfl rfl (hts _ hM.2.2.1) (hts _ hw) hM.2.2.2.1 ⟨Nat.le_trans hfr hf1, Nat.le_trans hlo hl1⟩
  refine jG.behind (M1 := M1) (args1 := args1) hA (va_runS (As := args1.map (tv E)) (rest := rest.map (tv E)) ⟨hx, hb, hml, hown, hts⟩ hC ⟨cw, hts _ hst⟩ (jPre hK hX hA oA oH hP hS) rfl (by rw [List.length_map]; exact hn) hl.1 (by show List.map (tv E) (args1.reverse ++ rest) = _; rw [List.map_append, List.map_reverse]) (lv_room (by rw [jcats]; exact hrs)) hd ⟨hc1, hs1⟩) hS ?_
  intro H1 locs1 o1 o2 hP1 hS1
  exact g A p e R s m args below meth c cells slots Q hF0 hend H1 locs1 ls oL (jokS_app o1 oR) o2 hl hP1 hS1
theorem jG.callSN {M1 : jM} {ix : Nat} {r1 : Option jV} (args1 rest : List jV) (hd : decode (jb M) pc = .ok (.invokestatic ix, 3)) (hM : jokM M1) (hk : jk M1 = 0) (hw : Cond.methodLinkNest (jy M).cls ix (jy M1) jhost ∈ jNW) (hfr : jf M1 + 1 ≤ jf M) (hlo : 8 + (jL M1 + 11) + jlr M1 ≤ jlr M) (hn : args1.length = jn M1) (hrs : (rest.map fun v => if v.1 = 1 then 2 else 1).sum ≤ 8) (hC : jC E M1 args1 h r1 h1) (g : jG E M (pc + 3) L (r1.toList ++ rest) h1 r h') : jG E M pc L (args1.reverse ++ rest) h r h' := by
  intro A p e R s m args below meth c cells slots Q hF hend H locs ls oL oS oH hl hP hS
  have hF0 := hF
  obtain ⟨hx, hb, hml, hlk, hown, hts, hK, hX, hA, hf1, hl1, hc1, hs1⟩ := hF
  have oA : jokS args1 := fun v hv => oS v (List.mem_append_left _ (List.mem_reverse.mpr hv))
  have oR : jokS rest := fun v hv => oS v (List.mem_append_right _ hv)
  have hst := hM.2.2.2.2
  rw [if_pos hk] at hst
  have cw := va_cnB (R := R) (rm := jrm M1) (mc := 0) (ms := 0) (index := ix) (jn M1) hts hM.good rfl rfl rfl (hX.2.2.2.2 _ hw) (hts _ hM.2.2.1) hM.2.2.2.1 ⟨Nat.le_trans hfr hf1, Nat.le_trans hlo hl1⟩
  refine jG.behind (M1 := M1) (args1 := args1) hA (va_runSN (As := args1.map (tv E)) (rest := rest.map (tv E)) ⟨hx, hb, hml, hown, hts⟩ hC ⟨cw, hts _ hst, trivial⟩ (jPre hK hX hA oA oH hP hS) rfl (by rw [List.length_map]; exact hn) hl.1 (by show List.map (tv E) (args1.reverse ++ rest) = _; rw [List.map_append, List.map_reverse]) (lv_room (by rw [jcats]; exact hrs)) hd ⟨hc1, hs1⟩) hS ?_
  intro H1 locs1 o1 o2 hP1 hS1
  exact g A p e R s m args below meth c cells slots Q hF0 hend H1 locs1 ls oL (jokS_app o1 oR) o2 hl hP1 hS1
/-- the receiver: a cell of the world, or a String constant -/
def jrc (C : String) (v : jV) : Prop := (v.1 = 2 ∧ ∃ (ci : Nat) (T : u_T) (N : Nat), jkd.getD v.2.toNat (9, 0) = (0, ci) ∧ jcl[ci]? = some (C, T, N)) ∨ (v.1 = 3 ∧ C = "java/lang/String" ∧ ∃ q ∈ jso, q.1 = v.2.toNat)
theorem jrc.at {C : String} {v : jV} (hv : jrc C v) {A : Nat → Prop} {s : State} {H : Heap} {locs : List Loc} (hK : va_K (jeD E) jcl (jtys E) s) (hX : jX E A s s.heap) (hP : va_P (jeD E) jcl (jwd E h) H) (hS : va_S A s.heap H locs) : ∃ b : Nat, tv E v = .ref b ∧ ∃ cellB : Cell, H[b]? = some cellB ∧ cellB.vm.isStatics = false ∧ s.vm.findClass C = some cellB.cls := by
  obtain ⟨t, x⟩ := v
  rcases hv with ⟨h0, ci, T, N, h1, h2⟩ | ⟨h0, h1, q, hq, h2⟩
  · have ht : t = 2 := h0
    subst ht
    have hx := jwd_at (E := E) (h := h) (jkd_lt h1 (by decide))
    rw [jent_o _ h1] at hx
    exact ⟨_, rfl, va_recv hK hP h2 hx⟩
  · have ht : t = 3 := h0
    subst ht
    subst h1
    obtain ⟨cell, g1, g2, g3, -⟩ := (hX.2.2.2.1 q hq).1.kept hS.2.1
    have h3 : q.1 = x.toNat := h2
    rw [h3] at g1
    exact ⟨_, rfl, cell, g1, g2, g3⟩
theorem jG.callV {M1 : jM} {ix : Nat} {r1 : Option jV} (v1 : jV) (args1 rest : List jV) (hd : decode (jb M) pc = .ok (.invokevirtual ix, 3)) (hM : jokM M1) (hk : jk M1 = 1) (hv : jrc (jy M1).cls v1) (hw : Cond.methodLink (jy M).cls ix (jy M1) ∈ jWS) (hfr : jf M1 + 1 ≤ jf M) (hlo : 8 + (jL M1 + 11) + jlr M1 ≤ jlr M) (hn : args1.length = jn M1) (hrs : (rest.map fun v => if v.1 = 1 then 2 else 1).sum ≤ 8) (hC : jC E M1 (v1 :: args1) h r1 h1) (g : jG E M (pc + 3) L (r1.toList ++ rest) h1 r h') : jG E M pc L (args1.reverse ++ v1 :: rest) h r h' := by
  intro A p e R s m args below meth c cells slots Q hF hend H locs ls oL oS oH hl hP hS
  have hF0 := hF
  obtain ⟨hx, hb, hml, hlk, hown, hts, hK, hX, hA, hf1, hl1, hc1, hs1⟩ := hF
  have oA : jokS (v1 :: args1) := by
    intro v hv
    rcases List.mem_cons.mp hv with rfl | hv
    · exact oS _ (List.mem_append_right _ List.mem_cons_self)
    · exact oS v (List.mem_append_left _ (List.mem_reverse.mpr hv))
  have oR : jokS rest := fun v hv => oS v (List.mem_append_right _ (List.mem_cons_of_mem _ hv))
  have hst := hM.2.2.2.2
  rw [if_neg (by rw [hk]; decide)] at hst
  obtain ⟨b, hb1, hcell⟩ := hv.at hK hX hP hS
  obtain ⟨hp1, hp2⟩ := jPre (args1 := v1 :: args1) hK hX hA oA oH hP hS
  rw [List.map_cons, hb1] at hp2
  have cw := callB_of (R := R) (rm := jrm M1) (mc := 0) (ms := 0) (index := ix) (jn M1) hts hM.good rfl rfl rfl (hts _ hM.2.2.1) (hts _ hw) hM.2.2.2.1 ⟨Nat.le_trans hfr hf1, Nat.le_trans hlo hl1⟩
  refine jG.behind (M1 := M1) (args1 := args1) hA (va_runV (C := (jy M1).cls) (b := b) (As := args1.map (tv E)) (rest := rest.map (tv E)) ⟨hx, hb, hml, hown, hts⟩ hC ⟨cw, hts _ hst.1, hts _ hst.2⟩ ⟨hp1, hcell, hp2⟩ rfl (by rw [List.length_map]; exact hn) hl.1 (by show List.map (tv E) (args1.reverse ++ v1 :: rest) = _; rw [List.map_append, List.map_reverse, List.map_cons, hb1]) (lv_room (by rw [jcats]; exact hrs)) hd ⟨hc1, hs1⟩) hS ?_
  intro H1 locs1 o1 o2 hP1 hS1
  exact g A p e R s m args below meth c cells slots Q hF0 hend H1 locs1 ls oL (jokS_app o1 oR) o2 hl hP1 hS1
theorem jG.callVN {M1 : jM} {ix : Nat} {r1 : Option jV} (v1 : jV) (args1 rest : List jV) (hd : decode (jb M) pc = .ok (.invokevirtual ix, 3)) (hM : jokM M1) (hk : jk M1 = 1) (hv : jrc (jy M1).cls v1) (hw : Cond.methodLinkNest (jy M).cls ix (jy M1) jhost ∈ jNW) (hfr : jf M1 + 1 ≤ jf M) (hlo : 8 + (jL M1 + 11) + jlr M1 ≤ jlr M) (hn : args1.length = jn M1) (hrs : (rest.map fun v => if v.1 = 1 then 2 else 1).sum ≤ 8) (hC : jC E M1 (v1 :: args1) h r1 h1) (g : jG E M (pc + 3) L (r1.toList ++ rest) h1 r h') : jG E M pc L (args1.reverse ++ v1 :: rest) h r h' := by
  intro A p e R s m args below meth c cells slots Q hF hend H locs ls oL oS oH hl hP hS
  have hF0 := hF
  obtain ⟨hx, hb, hml, hlk, hown, hts, hK, hX, hA, hf1, hl1, hc1, hs1⟩ := hF
  have oA : jokS (v1 :: args1) := by
    intro v hv
    rcases List.mem_cons.mp hv with rfl | hv
    · exact oS _ (List.mem_append_right _ List.mem_cons_self)
    · exact oS v (List.mem_append_left _ (List.mem_reverse.mpr hv))
  have oR : jokS rest := fun v hv => oS v (List.mem_append_right _ (List.mem_cons_of_mem _ hv))
  have hst := hM.2.2.2.2
  rw [if_neg (by rw [hk]; decide)] at hst
  obtain ⟨b, hb1, hcell⟩ := hv.at hK hX hP hS
  obtain ⟨hp1, hp2⟩ := jPre (args1 := v1 :: args1) hK hX hA oA oH hP hS
  rw [List.map_cons, hb1] at hp2
  have cw := va_cnB (R := R) (rm := jrm M1) (mc := 0) (ms := 0) (index := ix) (jn M1) hts hM.good rfl rfl rfl (hX.2.2.2.2 _ hw) (hts _ hM.2.2.1) hM.2.2.2.1 ⟨Nat.le_trans hfr hf1, Nat.le_trans hlo hl1⟩
  refine jG.behind (M1 := M1) (args1 := args1) hA (va_runVN (C := (jy M1).cls) (b := b) (As := args1.map (tv E)) (rest := rest.map (tv E)) ⟨hx, hb, hml, hown, hts⟩ hC ⟨cw, hts _ hst.1, hts _ hst.2⟩ ⟨hp1, hcell, hp2⟩ rfl (by rw [List.length_map]; exact hn) hl.1 (by show List.map (tv E) (args1.reverse ++ v1 :: rest) = _; rw [List.map_append, List.map_reverse, List.map_cons, hb1]) (lv_room (by rw [jcats]; exact hrs)) hd ⟨hc1, hs1⟩) hS ?_
  intro H1 locs1 o1 o2 hP1 hS1
  exact g A p e R s m args below meth c cells slots Q hF0 hend H1 locs1 ls oL (jokS_app o1 oR) o2 hl hP1 hS1
end JG
end
section
section JX
variable {E : jE} {M : jM} {pc pc1 : Nat} {L L1 : List (Nat × jV)} {st st1 : List jV} {h h1 : jH} {r : Option jV} {h' : jH}
theorem jG.ldcw {ix : Nat} {n : Int} (hd : decode (jb M) pc = .ok (.ldc_w ix, 3)) (hw : Cond.constant (jy M).cls ix (Int32.ofInt n) ∈ jWS) (hn : ok32 n) (g : jG E M (pc + 3) L ((0, n) :: st) h r h') : jG E M pc L st h r h' :=
  jG.sk g (fun _ o => jokS_cons hn o) (fun hx hb _ _ _ ho hts k => lv_ldcw hx hb ho (hts _ hw) hd k)
/-- words by their places -/
theorem jws_by {ws : List Cond} (ps : List Nat) (h : (ws.zip ps).all (fun q => jwat q.2 q.1) && decide (ws.length = ps.length) = true) : ∀ w ∈ ws, w ∈ jWS := by
  simp only [Bool.and_eq_true, decide_eq_true_eq] at h
  intro w hw
  obtain ⟨i, hi⟩ := List.getElem?_of_mem hw
  have hl : i < ps.length := by rw [← h.2]; exact (List.getElem?_eq_some_iff.mp hi).1
  have hz : (ws.zip ps)[i]? = some (w, ps[i]) := by
    rw [List.getElem?_zip_eq_some]
    exact ⟨hi, List.getElem?_eq_getElem hl⟩
  exact jwat_in (List.all_eq_true.mp h.1 _ (List.mem_of_getElem? hz))
def jpick (L : List (Nat × jV)) (ks : List Nat) : List (Nat × jV) := ks.filterMap (fun k => L[k]?)
theorem jG.subp (ks : List Nat) (hs : jpick L ks = L1) (g : jG E M pc L1 st h r h') : jG E M pc L st h r h' := by
  refine jG.sub g (fun q hq => ?_)
  rw [← hs] at hq
  obtain ⟨k, -, hk⟩ := List.mem_filterMap.mp hq
  exact List.mem_of_getElem? hk
def jputb (t : Nat) (v : jV) : Bool := match t with
  | 0 => v.1 == 0
  | 1 => v.1 == 1
  | 3 => v.1 == 0 && (v.2 == 0 || v.2 == 1)
  | _ => false
theorem jputb_ok {t : Nat} {v : jV} (h : jputb t v = true) : jput t v := by
  match t, h with
  | 0, h => simpa [jputb, jput] using h
  | 1, h => simpa [jputb, jput] using h
  | 2, h => cases h
  | 3, h => simpa [jputb, jput] using h
  | _ + 4, h => cases h
def jgd {α : Type} (c : Prop) [Decidable c] (x : Option α) : Option α := if c then x else none
theorem jgd_some {α : Type} {c : Prop} [Decidable c] {x : Option α} {v : α} (h : jgd c x = some v) : c ∧ x = some v := by
  unfold jgd at h
  by_cases hc : c
  · rw [if_pos hc] at h; exact ⟨hc, h⟩
  · rw [if_neg hc] at h; cases h
theorem jgd_pos {α : Type} {c : Prop} [Decidable c] {x : Option α} (hc : c) : jgd c x = x := if_pos hc
/-! the classes of the world: their words -/
theorem jcw0 : ∀ w ∈ u_ws "ChessLedger" jT0 10, w ∈ jWS := jws_by [247, 249, 251, 253, 255, 257, 259, 261, 263, 265] (by decide +kernel)
theorem jco0 : jclOk 0 "ChessLedger" jT0 10 := ⟨jcw0, by decide, by decide +kernel, by
  intro k hk
  match k, hk with
  | 0, _ => exact ⟨.object "ChessLedger$Game", by decide +kernel, by trivial⟩
  | 1, _ => exact ⟨.object "ChessLedger$Board", by decide +kernel, by trivial⟩
  | 2, _ => exact ⟨.object "ChessLedger$Past", by decide +kernel, by trivial⟩
  | 3, _ => exact ⟨.object "ChessLedger$MoveTable", by decide +kernel, by trivial⟩
  | 4, _ => exact ⟨.object "ChessLedger$MoveTable", by decide +kernel, by trivial⟩
  | 5, _ => exact ⟨.object "ChessLedger$Reader", by decide +kernel, by trivial⟩
  | 6, _ => exact ⟨.object "ChessLedger$Text", by decide +kernel, by trivial⟩
  | 7, _ => exact ⟨.object "ChessLedger$Board", by decide +kernel, by trivial⟩
  | 8, _ => exact ⟨.object "ChessLedger$Text", by decide +kernel, by trivial⟩
  | 9, _ => exact ⟨.boolean, by decide +kernel, by rfl⟩
  | k + 10, h => omega⟩
theorem jcw1 : ∀ w ∈ u_ws "ChessLedger$Board" jT1 5, w ∈ jWS := jws_by [137, 139, 141, 143, 145] (by decide +kernel)
theorem jco1 : jclOk 1 "ChessLedger$Board" jT1 5 := ⟨jcw1, by decide, by decide +kernel, by
  intro k hk
  match k, hk with
  | 0, _ => exact ⟨.array .int, by decide +kernel, by trivial⟩
  | 1, _ => exact ⟨.int, by decide +kernel, by rfl⟩
  | 2, _ => exact ⟨.int, by decide +kernel, by rfl⟩
  | 3, _ => exact ⟨.int, by decide +kernel, by rfl⟩
  | 4, _ => exact ⟨.int, by decide +kernel, by rfl⟩
  | k + 5, h => omega⟩
theorem jcw2 : ∀ w ∈ u_ws "ChessLedger$Game" jT2 7, w ∈ jWS := jws_by [158, 160, 162, 164, 166, 168, 170] (by decide +kernel)
theorem jco2 : jclOk 2 "ChessLedger$Game" jT2 7 := ⟨jcw2, by decide, by decide +kernel, by
  intro k hk
  match k, hk with
  | 0, _ => exact ⟨.object "ChessLedger$Board", by decide +kernel, by trivial⟩
  | 1, _ => exact ⟨.array .int, by decide +kernel, by trivial⟩
  | 2, _ => exact ⟨.array .int, by decide +kernel, by trivial⟩
  | 3, _ => exact ⟨.array .int, by decide +kernel, by trivial⟩
  | 4, _ => exact ⟨.array .int, by decide +kernel, by trivial⟩
  | 5, _ => exact ⟨.array .int, by decide +kernel, by trivial⟩
  | 6, _ => exact ⟨.int, by decide +kernel, by rfl⟩
  | k + 7, h => omega⟩
theorem jcw3 : ∀ w ∈ u_ws "ChessLedger$MoveTable" jT3 2, w ∈ jWS := jws_by [192, 194] (by decide +kernel)
theorem jco3 : jclOk 3 "ChessLedger$MoveTable" jT3 2 := ⟨jcw3, by decide, by decide +kernel, by
  intro k hk
  match k, hk with
  | 0, _ => exact ⟨.array .long, by decide +kernel, by trivial⟩
  | 1, _ => exact ⟨.array .long, by decide +kernel, by trivial⟩
  | k + 2, h => omega⟩
theorem jcw4 : ∀ w ∈ u_ws "ChessLedger$Past" jT4 1, w ∈ jWS := jws_by [180] (by decide +kernel)
theorem jco4 : jclOk 4 "ChessLedger$Past" jT4 1 := ⟨jcw4, by decide, by decide +kernel, by
  intro k hk
  match k, hk with
  | 0, _ => exact ⟨.array .long, by decide +kernel, by trivial⟩
  | k + 1, h => omega⟩
theorem jcw5 : ∀ w ∈ u_ws "ChessLedger$Reader" jT5 4, w ∈ jWS := jws_by [226, 228, 230, 232] (by decide +kernel)
theorem jco5 : jclOk 5 "ChessLedger$Reader" jT5 4 := ⟨jcw5, by decide, by decide +kernel, by
  intro k hk
  match k, hk with
  | 0, _ => exact ⟨.object "ChessLedger$Text", by decide +kernel, by trivial⟩
  | 1, _ => exact ⟨.object "ChessLedger$Board", by decide +kernel, by trivial⟩
  | 2, _ => exact ⟨.int, by decide +kernel, by rfl⟩
  | 3, _ => exact ⟨.int, by decide +kernel, by rfl⟩
  | k + 4, h => omega⟩
theorem jcw6 : ∀ w ∈ u_ws "ChessLedger$Text" jT6 2, w ∈ jWS := jws_by [212, 214] (by decide +kernel)
theorem jco6 : jclOk 6 "ChessLedger$Text" jT6 2 := ⟨jcw6, by decide, by decide +kernel, by
  intro k hk
  match k, hk with
  | 0, _ => exact ⟨.array .char, by decide +kernel, by trivial⟩
  | 1, _ => exact ⟨.int, by decide +kernel, by rfl⟩
  | k + 2, h => omega⟩
theorem jcw7 : ∀ w ∈ u_ws "ChessLedgerModel" jT7 15, w ∈ jWS := jws_by [801, 803, 805, 807, 809, 811, 813, 815, 817, 819, 821, 823, 825, 827, 829] (by decide +kernel)
theorem jco7 : jclOk 7 "ChessLedgerModel" jT7 15 := ⟨jcw7, by decide, by decide +kernel, by
  intro k hk
  match k, hk with
  | 0, _ => exact ⟨.int, by decide +kernel, by rfl⟩
  | 1, _ => exact ⟨.array .byte, by decide +kernel, by trivial⟩
  | 2, _ => exact ⟨.array .int, by decide +kernel, by trivial⟩
  | 3, _ => exact ⟨.array .int, by decide +kernel, by trivial⟩
  | 4, _ => exact ⟨.array .int, by decide +kernel, by trivial⟩
  | 5, _ => exact ⟨.array .int, by decide +kernel, by trivial⟩
  | 6, _ => exact ⟨.array .long, by decide +kernel, by trivial⟩
  | 7, _ => exact ⟨.int, by decide +kernel, by rfl⟩
  | 8, _ => exact ⟨.boolean, by decide +kernel, by rfl⟩
  | 9, _ => exact ⟨.array .int, by decide +kernel, by trivial⟩
  | 10, _ => exact ⟨.int, by decide +kernel, by rfl⟩
  | 11, _ => exact ⟨.int, by decide +kernel, by rfl⟩
  | 12, _ => exact ⟨.int, by decide +kernel, by rfl⟩
  | 13, _ => exact ⟨.array .int, by decide +kernel, by trivial⟩
  | 14, _ => exact ⟨.int, by decide +kernel, by rfl⟩
  | k + 15, h => omega⟩
theorem jcl_ok {ci : Nat} {C : String} {T : u_T} {N : Nat} (h : jcl[ci]? = some (C, T, N)) : jclOk ci C T N := by
  match ci, h with
  | 0, h => cases h; exact jco0
  | 1, h => cases h; exact jco1
  | 2, h => cases h; exact jco2
  | 3, h => cases h; exact jco3
  | 4, h => cases h; exact jco4
  | 5, h => cases h; exact jco5
  | 6, h => cases h; exact jco6
  | 7, h => cases h; exact jco7
  | k + 8, h => simp [jcl] at h
theorem jcl_all {x ci : Nat} (h : jkd.getD x (9, 0) = (0, ci)) : ∃ C T N, jcl[ci]? = some (C, T, N) := by
  have hx : x < jN := jkd_lt h (by decide)
  have hc : ci < 8 := (by decide : ∀ x, x < jN → (jkd.getD x (9, 0)).1 = 0 → (jkd.getD x (9, 0)).2 < 8) x hx (by rw [h]) |> fun z => by rw [h] at z; exact z
  match ci, hc with
  | 0, _ => exact ⟨_, _, _, rfl⟩
  | 1, _ => exact ⟨_, _, _, rfl⟩
  | 2, _ => exact ⟨_, _, _, rfl⟩
  | 3, _ => exact ⟨_, _, _, rfl⟩
  | 4, _ => exact ⟨_, _, _, rfl⟩
  | 5, _ => exact ⟨_, _, _, rfl⟩
  | 6, _ => exact ⟨_, _, _, rfl⟩
  | 7, _ => exact ⟨_, _, _, rfl⟩
  | k + 8, h => omega
theorem jst_ok : ∀ q ∈ jst, jokV q.2.2.2 := by
  intro q hq
  simp only [jst, List.mem_cons, List.not_mem_nil, or_false] at hq
  rcases hq with rfl | rfl | rfl | rfl | rfl | rfl <;> first | trivial | exact ⟨by decide, by decide⟩
theorem jxl_small {E : jE} {x : Nat} (h0 : x ≠ 0) (hx : x < jxn) : (jxl E x : Int) < 2147483648 := by
  unfold jxl
  rw [if_neg h0]
  exact (by decide : ∀ x, x < jxn → ((jxc.getD x []).length : Int) < 2147483648) x hx
/-! straight stretches: a program that runs them, and why it may -/
def jlen : Instr → Nat
  | .bipush _ => 2
  | .sipush _ => 3
  | .ldc _ => 2
  | .ldc2_w _ => 3
  | .ldc_w _ => 3
  | .iload _ => 2
  | .lload _ => 2
  | .aload _ => 2
  | .istore _ => 2
  | .lstore _ => 2
  | .astore _ => 2
  | .iinc _ _ => 3
  | .getfield _ => 3
  | .putfield _ => 3
  | .getstatic _ => 3
  | .invokestatic _ => 3
  | .invokevirtual _ => 3
  | .ifCond _ _ => 3
  | .if_icmp _ _ => 3
  | .goto _ => 3
  | .tableswitch _ _ _ _ => 0
  | .lookupswitch _ _ => 0
  | _ => 1
def jfl (ci k : Nat) : String × String × String × Bool := match jcl[ci]? with
  | some q => q.2.1 k
  | none => ("", "", "", true)
def jfn (ci : Nat) : Nat := match jcl[ci]? with
  | some q => q.2.2
  | none => 0
def jokR (M : jM) (i : Instr) (res : List Int) : Bool := match i with
  | .iconst n => decide (-2147483648 ≤ n ∧ n < 2147483648)
  | .bipush n => decide (-128 ≤ n ∧ n < 128)
  | .sipush n => decide (-32768 ≤ n ∧ n < 32768)
  | .ldc ix => (match res with
    | [0, wi, n] => jwat wi.toNat (.constant (jy M).cls ix (Int32.ofInt n)) && decide (-2147483648 ≤ n ∧ n < 2147483648)
    | [1, k] => (match jsr[k.toNat]? with
      | some q => decide (q.1 = (jy M).cls) && decide (q.2.1 = ix)
      | none => false)
    | _ => false)
  | .ldc_w ix => (match res with
    | [wi, n] => jwat wi.toNat (.constant (jy M).cls ix (Int32.ofInt n)) && decide (-2147483648 ≤ n ∧ n < 2147483648)
    | _ => false)
  | .ldc2_w ix => (match res with
    | [wi, n] => jwat wi.toNat (.constantLong (jy M).cls ix (Int64.ofInt n)) && decide (-9223372036854775808 ≤ n ∧ n < 9223372036854775808)
    | _ => false)
  | .istore_n k => decide (k.val < jL M)
  | .istore k => decide (k < jL M)
  | .astore_n k => decide (k.val < jL M)
  | .astore k => decide (k < jL M)
  | .lstore_n k => decide (k.val + 1 < jL M)
  | .lstore k => decide (k + 1 < jL M)
  | .iinc k _ => decide (k < jL M)
  | .getfield ix => (match res with
    | [ci, k, wi, 0] => decide (k.toNat < jfn ci.toNat) && jwat wi.toNat (.fieldLink (jy M).cls ix (jfl ci.toNat k.toNat).1 (jfl ci.toNat k.toNat).2.1 (jfl ci.toNat k.toNat).2.2.1)
    | [ci, k, wi, 1] => decide (k.toNat < jfn ci.toNat) && jnat wi.toNat (.fieldLinkNest (jy M).cls ix (jfl ci.toNat k.toNat).1 (jfl ci.toNat k.toNat).2.1 (jfl ci.toNat k.toNat).2.2.1 jhost)
    | [0, wi] => jwat wi.toNat (.fieldLink (jy M).cls ix "java/lang/String" "coder" "B")
    | [1, wi] => jwat wi.toNat (.fieldLink (jy M).cls ix "java/lang/String" "value" "[B")
    | _ => false)
  | .putfield ix => (match res with
    | [ci, k, wi, 0] => decide (k.toNat < jfn ci.toNat) && !(jfl ci.toNat k.toNat).2.2.2 && jwat wi.toNat (.fieldLink (jy M).cls ix (jfl ci.toNat k.toNat).1 (jfl ci.toNat k.toNat).2.1 (jfl ci.toNat k.toNat).2.2.1)
    | [ci, k, wi, 1] => decide (k.toNat < jfn ci.toNat) && !(jfl ci.toNat k.toNat).2.2.2 && jnat wi.toNat (.fieldLinkNest (jy M).cls ix (jfl ci.toNat k.toNat).1 (jfl ci.toNat k.toNat).2.1 (jfl ci.toNat k.toNat).2.2.1 jhost)
    | _ => false)
  | .getstatic ix => (match res with
    | [j, wi, 0] => (match jst[j.toNat]? with
      | some q => jwat wi.toNat (.fieldLink (jy M).cls ix q.1 q.2.1 q.2.2.1)
      | none => false)
    | [j, wi, 1] => (match jst[j.toNat]? with
      | some q => jnat wi.toNat (.fieldLinkNest (jy M).cls ix q.1 q.2.1 q.2.2.1 jhost)
      | none => false)
    | _ => false)
  | .invokestatic ix => (match res with
    | [wi, w2, w3, w4] => jwat wi.toNat (.methodLink (jy M).cls ix arraycopyName) && jwat w2.toNat (.native arraycopyName) && jwat w3.toNat (.static arraycopyName) && jwat w4.toNat (.initialized "java/lang/System")
    | [0, wi, w2, w3, w4] => jwat wi.toNat (.methodLink (jy M).cls ix Lib.Math.abs.name) && jwat w2.toNat (.static Lib.Math.abs.name) && jwat w3.toNat (.initialized "java/lang/Math") && jwat w4.toNat (.code Lib.Math.abs.name Lib.Math.abs.code 1 (some .int))
    | [1, wi, w2, w3, w4] => jwat wi.toNat (.methodLink (jy M).cls ix Lib.Math.max.name) && jwat w2.toNat (.static Lib.Math.max.name) && jwat w3.toNat (.initialized "java/lang/Math") && jwat w4.toNat (.code Lib.Math.max.name Lib.Math.max.code 2 (some .int))
    | [2, wi, w2, w3, w4] => jwat wi.toNat (.methodLink (jy M).cls ix Lib.Math.min.name) && jwat w2.toNat (.static Lib.Math.min.name) && jwat w3.toNat (.initialized "java/lang/Math") && jwat w4.toNat (.code Lib.Math.min.name Lib.Math.min.code 2 (some .int))
    | [j, wi, 0] => jwat wi.toNat (.methodLink (jy M).cls ix (jyn.getD j.toNat ⟨"", "", ""⟩))
    | [j, wi, 1] => jnat wi.toNat (.methodLinkNest (jy M).cls ix (jyn.getD j.toNat ⟨"", "", ""⟩) jhost)
    | _ => false)
  | .invokevirtual ix => (match res with
    | [j, wi, 0] => jwat wi.toNat (.methodLink (jy M).cls ix (jyn.getD j.toNat ⟨"", "", ""⟩))
    | [j, wi, 1] => jnat wi.toNat (.methodLinkNest (jy M).cls ix (jyn.getD j.toNat ⟨"", "", ""⟩) jhost)
    | _ => false)
  | _ => true
def jokE (M : jM) (pc : Nat) (q : jI) : Bool := decide (decode (jb M) pc = .ok (q.1, q.2.1)) && (decide (jlen q.1 = 0) || decide (q.2.1 = jlen q.1)) && jokR M q.1 q.2.2
def jokT2 (M : jM) : Nat → List (Option jI) → Bool
  | _, [] => true
  | pc, none :: l => jokT2 M (pc + 1) l
  | pc, some q :: l => jokE M pc q && jokT2 M (pc + 1) l
theorem jokT2_at {M : jM} : ∀ {l : List (Option jI)} {pc k : Nat} {q : jI}, jokT2 M pc l = true → l[k]? = some (some q) → jokE M (pc + k) q = true := by
  intro l
  induction l with
  | nil => intro pc k q _ h; simp at h
  | cons x l ih =>
    intro pc k q hT h
    cases k with
    | zero =>
      simp at h
      subst h
      unfold jokT2 at hT
      simp only [Bool.and_eq_true] at hT
      exact hT.1
    | succ k =>
      simp at h
      have h2 : jokT2 M (pc + 1) l = true := by
        cases x with
        | none => exact hT
        | some y => unfold jokT2 at hT; simp only [Bool.and_eq_true] at hT; exact hT.2
      have h3 := ih h2 h
      rw [show pc + 1 + k = pc + (k + 1) by omega] at h3
      exact h3
theorem jokT_at {M : jM} (hT : jokT2 M 0 (jt M) = true) {pc : Nat} {i : Instr} {len : Nat} {res : List Int} (he : (jt M)[pc]? = some (some (i, len, res))) : decode (jb M) pc = .ok (i, len) ∧ (jlen i = 0 ∨ len = jlen i) ∧ jokR M i res = true := by
  have h1 := jokT2_at hT he
  rw [Nat.zero_add] at h1
  simp only [jokE, Bool.and_eq_true, Bool.or_eq_true, decide_eq_true_eq] at h1
  exact ⟨h1.1.1, h1.1.2, h1.2⟩
def jx1 (i : Instr) (res : List Int) (L : List (Nat × jV)) (st : List jV) (h : jH) : Option (List (Nat × jV) × List jV × jH) := match i with
  | .iconst n => some (L, (0, n) :: st, h)
  | .bipush n => some (L, (0, n) :: st, h)
  | .sipush n => some (L, (0, n) :: st, h)
  | .lconst n => some (L, (1, ((n : Nat) : Int)) :: st, h)
  | .ldc _ => (match res with
    | [0, _, n] => some (L, (0, n) :: st, h)
    | [1, k] => (match jsr[k.toNat]? with
      | some q => some (L, (3, (q.2.2.2 : Int)) :: st, h)
      | none => none)
    | _ => none)
  | .ldc_w _ => (match res with
    | [_, n] => some (L, (0, n) :: st, h)
    | _ => none)
  | .ldc2_w _ => (match res with
    | [_, n] => some (L, (1, n) :: st, h)
    | _ => none)
  | .iload_n k => (match jlk L k.val with
    | some (0, x) => some (L, (0, x) :: st, h)
    | _ => none)
  | .iload k => (match jlk L k with
    | some (0, x) => some (L, (0, x) :: st, h)
    | _ => none)
  | .lload_n k => (match jlk L k.val with
    | some (1, x) => some (L, (1, x) :: st, h)
    | _ => none)
  | .lload k => (match jlk L k with
    | some (1, x) => some (L, (1, x) :: st, h)
    | _ => none)
  | .aload_n k => (match jlk L k.val with
    | some (t, x) => if t = 2 ∨ t = 3 then some (L, (t, x) :: st, h) else none
    | none => none)
  | .aload k => (match jlk L k with
    | some (t, x) => if t = 2 ∨ t = 3 then some (L, (t, x) :: st, h) else none
    | none => none)
  | .istore_n k => (match st with
    | (0, x) :: s => some (jset1 L k.val (0, x), s, h)
    | _ => none)
  | .istore k => (match st with
    | (0, x) :: s => some (jset1 L k (0, x), s, h)
    | _ => none)
  | .lstore_n k => (match st with
    | (1, x) :: s => some (jset2 L k.val (1, x), s, h)
    | _ => none)
  | .lstore k => (match st with
    | (1, x) :: s => some (jset2 L k (1, x), s, h)
    | _ => none)
  | .astore_n k => (match st with
    | (t, x) :: s => if t = 2 ∨ t = 3 then some (jset1 L k.val (t, x), s, h) else none
    | _ => none)
  | .astore k => (match st with
    | (t, x) :: s => if t = 2 ∨ t = 3 then some (jset1 L k (t, x), s, h) else none
    | _ => none)
  | .iinc k n => (match jlk L k with
    | some (0, x) => some (jset1 L k (0, jadd x n), st, h)
    | _ => none)
  | .iadd => (match st with
    | (0, b) :: (0, a) :: s => some (L, (0, jadd a b) :: s, h)
    | _ => none)
  | .isub => (match st with
    | (0, b) :: (0, a) :: s => some (L, (0, jsub a b) :: s, h)
    | _ => none)
  | .imul => (match st with
    | (0, b) :: (0, a) :: s => some (L, (0, jmul a b) :: s, h)
    | _ => none)
  | .iand => (match st with
    | (0, b) :: (0, a) :: s => some (L, (0, jand a b) :: s, h)
    | _ => none)
  | .ior => (match st with
    | (0, b) :: (0, a) :: s => some (L, (0, jor a b) :: s, h)
    | _ => none)
  | .ixor => (match st with
    | (0, b) :: (0, a) :: s => some (L, (0, jxor a b) :: s, h)
    | _ => none)
  | .ishl => (match st with
    | (0, b) :: (0, a) :: s => some (L, (0, jshl a b) :: s, h)
    | _ => none)
  | .ishr => (match st with
    | (0, b) :: (0, a) :: s => some (L, (0, jshr a b) :: s, h)
    | _ => none)
  | .iushr => (match st with
    | (0, b) :: (0, a) :: s => some (L, (0, jushr a b) :: s, h)
    | _ => none)
  | .idiv => (match st with
    | (0, b) :: (0, a) :: s => if b ≠ 0 then some (L, (0, jdiv a b) :: s, h) else none
    | _ => none)
  | .irem => (match st with
    | (0, b) :: (0, a) :: s => if b ≠ 0 then some (L, (0, jrem a b) :: s, h) else none
    | _ => none)
  | .ladd => (match st with
    | (1, b) :: (1, a) :: s => some (L, (1, jladd a b) :: s, h)
    | _ => none)
  | .lsub => (match st with
    | (1, b) :: (1, a) :: s => some (L, (1, jlsub a b) :: s, h)
    | _ => none)
  | .lmul => (match st with
    | (1, b) :: (1, a) :: s => some (L, (1, jlmul a b) :: s, h)
    | _ => none)
  | .land => (match st with
    | (1, b) :: (1, a) :: s => some (L, (1, jland a b) :: s, h)
    | _ => none)
  | .lor => (match st with
    | (1, b) :: (1, a) :: s => some (L, (1, jlor a b) :: s, h)
    | _ => none)
  | .lxor => (match st with
    | (1, b) :: (1, a) :: s => some (L, (1, jlxor a b) :: s, h)
    | _ => none)
  | .lshl => (match st with
    | (0, b) :: (1, a) :: s => some (L, (1, jlshl a b) :: s, h)
    | _ => none)
  | .lshr => (match st with
    | (0, b) :: (1, a) :: s => some (L, (1, jlshr a b) :: s, h)
    | _ => none)
  | .lushr => (match st with
    | (0, b) :: (1, a) :: s => some (L, (1, jlushr a b) :: s, h)
    | _ => none)
  | .ineg => (match st with
    | (0, a) :: s => some (L, (0, jneg a) :: s, h)
    | _ => none)
  | .i2l => (match st with
    | (0, a) :: s => some (L, (1, a) :: s, h)
    | _ => none)
  | .l2i => (match st with
    | (1, a) :: s => some (L, (0, jl2i a) :: s, h)
    | _ => none)
  | .i2b => (match st with
    | (0, a) :: s => some (L, (0, ji2b a) :: s, h)
    | _ => none)
  | .i2c => (match st with
    | (0, a) :: s => some (L, (0, ji2c a) :: s, h)
    | _ => none)
  | .lcmp => (match st with
    | (1, b) :: (1, a) :: s => some (L, (0, jcmp a b) :: s, h)
    | _ => none)
  | .dup => (match st with
    | v :: s => if v.1 ≠ 1 then some (L, v :: v :: s, h) else none
    | _ => none)
  | .pop => (match st with
    | v :: s => if v.1 ≠ 1 then some (L, s, h) else none
    | _ => none)
  | .dup_x1 => (match st with
    | v :: w :: s => if v.1 ≠ 1 ∧ w.1 ≠ 1 then some (L, v :: w :: v :: s, h) else none
    | _ => none)
  | .dup2 => (match st with
    | v :: w :: s => if v.1 ≠ 1 ∧ w.1 ≠ 1 then some (L, v :: w :: v :: w :: s, h) else none
    | _ => none)
  | .getfield _ => (match res, st with
    | [ci, k, _, _], (2, x) :: s => if jkd.getD x.toNat (9, 0) = (0, ci.toNat) ∧ 0 ≤ x then some (L, jfd x.toNat k.toNat (h x.toNat k.toNat) :: s, h) else none
    | _, _ => none)
  | .putfield _ => (match res, st with
    | [ci, k, _, _], v :: (2, x) :: s => if jkd.getD x.toNat (9, 0) = (0, ci.toNat) ∧ 0 ≤ x ∧ jputb ((jft.getD ci.toNat []).getD k.toNat 2) v = true then some (L, s, jup h x.toNat k.toNat v.2) else none
    | _, _ => none)
  | .getstatic _ => (match res with
    | [j, _, _] => (match jst[j.toNat]? with
      | some q => some (L, q.2.2.2 :: st, h)
      | none => none)
    | _ => none)
  | _ => none
def jxN (T : List (Option jI)) : Nat → Nat → List (Nat × jV) → List jV → jH → Option (Nat × List (Nat × jV) × List jV × jH)
  | 0, pc, L, st, h => some (pc, L, st, h)
  | k + 1, pc, L, st, h => match T[pc]? with
    | some (some (i, len, res)) => (match jx1 i res L st h with
      | some (L1, st1, h1) => jxN T k (pc + len) L1 st1 h1
      | none => none)
    | _ => none
theorem jG.x1 {i : Instr} {len : Nat} {res : List Int} (hT : jokT2 M 0 (jt M) = true) (he : (jt M)[pc]? = some (some (i, len, res))) (hx : jx1 i res L st h = some (L1, st1, h1)) (g : jG E M (pc + len) L1 st1 h1 r h') : jG E M pc L st h r h' := by
  obtain ⟨hd, hlen, hR⟩ := jokT_at hT he
  cases i with
  | iconst n =>
    obtain rfl : len = 1 := by simpa [jlen] using hlen
    simp only [jx1, jokR, decide_eq_true_eq] at hx hR
    cases hx
    exact jG.iconst hd hR g
  | bipush n =>
    obtain rfl : len = 2 := by simpa [jlen] using hlen
    simp only [jx1, jokR, decide_eq_true_eq] at hx hR
    cases hx
    exact jG.bipush hd hR.1 hR.2 g
  | sipush n =>
    obtain rfl : len = 3 := by simpa [jlen] using hlen
    simp only [jx1, jokR, decide_eq_true_eq] at hx hR
    cases hx
    exact jG.sipush hd hR.1 hR.2 g
  | lconst n =>
    obtain rfl : len = 1 := by simpa [jlen] using hlen
    simp only [jx1] at hx
    cases hx
    exact jG.lconst hd g
  | ldc ix =>
    obtain rfl : len = 2 := by simpa [jlen] using hlen
    simp only [jx1, jokR] at hx hR
    split at hx
    · simp only [Bool.and_eq_true, decide_eq_true_eq] at hR
      cases hx
      exact jG.ldc hd (jwat_in hR.1) hR.2 g
    · split at hx
      · rename_i q hq
        simp only [hq, Bool.and_eq_true, decide_eq_true_eq] at hR
        cases hx
        exact jG.ldcs hd (List.mem_of_getElem? hq) hR.1 hR.2 g
      · cases hx
    · cases hx
  | ldc_w ix =>
    obtain rfl : len = 3 := by simpa [jlen] using hlen
    simp only [jx1, jokR] at hx hR
    split at hx
    · simp only [Bool.and_eq_true, decide_eq_true_eq] at hR
      cases hx
      exact jG.ldcw hd (jwat_in hR.1) hR.2 g
    · cases hx
  | ldc2_w ix =>
    obtain rfl : len = 3 := by simpa [jlen] using hlen
    simp only [jx1, jokR] at hx hR
    split at hx
    · simp only [Bool.and_eq_true, decide_eq_true_eq] at hR
      cases hx
      exact jG.ldc2 hd (jwat_in hR.1) hR.2 g
    · cases hx
  | iload_n k =>
    obtain rfl : len = 1 := by simpa [jlen] using hlen
    simp only [jx1] at hx
    split at hx
    · rename_i x hk
      cases hx
      exact jG.iload_n hd hk g
    · cases hx
  | iload k =>
    obtain rfl : len = 2 := by simpa [jlen] using hlen
    simp only [jx1] at hx
    split at hx
    · rename_i x hk
      cases hx
      exact jG.iload hd hk g
    · cases hx
  | lload_n k =>
    obtain rfl : len = 1 := by simpa [jlen] using hlen
    simp only [jx1] at hx
    split at hx
    · rename_i x hk
      cases hx
      exact jG.lload_n hd hk g
    · cases hx
  | lload k =>
    obtain rfl : len = 2 := by simpa [jlen] using hlen
    simp only [jx1] at hx
    split at hx
    · rename_i x hk
      cases hx
      exact jG.lload hd hk g
    · cases hx
  | aload_n k =>
    obtain rfl : len = 1 := by simpa [jlen] using hlen
    simp only [jx1] at hx
    split at hx
    · rename_i t x hk
      split at hx
      · rename_i ht
        cases hx
        exact jG.aload_n hd ht hk g
      · cases hx
    · cases hx
  | aload k =>
    obtain rfl : len = 2 := by simpa [jlen] using hlen
    simp only [jx1] at hx
    split at hx
    · rename_i t x hk
      split at hx
      · rename_i ht
        cases hx
        exact jG.aload hd ht hk g
      · cases hx
    · cases hx
  | istore_n k =>
    obtain rfl : len = 1 := by simpa [jlen] using hlen
    simp only [jx1, jokR, decide_eq_true_eq] at hx hR
    split at hx
    · cases hx
      exact jG.istore_n hd hR g
    · cases hx
  | istore k =>
    obtain rfl : len = 2 := by simpa [jlen] using hlen
    simp only [jx1, jokR, decide_eq_true_eq] at hx hR
    split at hx
    · cases hx
      exact jG.istore hd hR g
    · cases hx
  | lstore_n k =>
    obtain rfl : len = 1 := by simpa [jlen] using hlen
    simp only [jx1, jokR, decide_eq_true_eq] at hx hR
    split at hx
    · cases hx
      exact jG.lstore_n hd hR g
    · cases hx
  | lstore k =>
    obtain rfl : len = 2 := by simpa [jlen] using hlen
    simp only [jx1, jokR, decide_eq_true_eq] at hx hR
    split at hx
    · cases hx
      exact jG.lstore hd hR g
    · cases hx
  | astore_n k =>
    obtain rfl : len = 1 := by simpa [jlen] using hlen
    simp only [jx1, jokR, decide_eq_true_eq] at hx hR
    split at hx
    · split at hx
      · rename_i ht
        cases hx
        exact jG.astore_n hd ht hR g
      · cases hx
    · cases hx
  | astore k =>
    obtain rfl : len = 2 := by simpa [jlen] using hlen
    simp only [jx1, jokR, decide_eq_true_eq] at hx hR
    split at hx
    · split at hx
      · rename_i ht
        cases hx
        exact jG.astore hd ht hR g
      · cases hx
    · cases hx
  | iinc k n =>
    obtain rfl : len = 3 := by simpa [jlen] using hlen
    simp only [jx1, jokR, decide_eq_true_eq] at hx hR
    split at hx
    · rename_i x hk
      cases hx
      exact jG.iinc hd hR hk g
    · cases hx
  | iadd =>
    obtain rfl : len = 1 := by simpa [jlen] using hlen
    simp only [jx1] at hx
    split at hx
    · cases hx
      exact jG.iadd hd g
    · cases hx
  | isub =>
    obtain rfl : len = 1 := by simpa [jlen] using hlen
    simp only [jx1] at hx
    split at hx
    · cases hx
      exact jG.isub hd g
    · cases hx
  | imul =>
    obtain rfl : len = 1 := by simpa [jlen] using hlen
    simp only [jx1] at hx
    split at hx
    · cases hx
      exact jG.imul hd g
    · cases hx
  | iand =>
    obtain rfl : len = 1 := by simpa [jlen] using hlen
    simp only [jx1] at hx
    split at hx
    · cases hx
      exact jG.iand hd g
    · cases hx
  | ior =>
    obtain rfl : len = 1 := by simpa [jlen] using hlen
    simp only [jx1] at hx
    split at hx
    · cases hx
      exact jG.ior hd g
    · cases hx
  | ixor =>
    obtain rfl : len = 1 := by simpa [jlen] using hlen
    simp only [jx1] at hx
    split at hx
    · cases hx
      exact jG.ixor hd g
    · cases hx
  | ishl =>
    obtain rfl : len = 1 := by simpa [jlen] using hlen
    simp only [jx1] at hx
    split at hx
    · cases hx
      exact jG.ishl hd g
    · cases hx
  | ishr =>
    obtain rfl : len = 1 := by simpa [jlen] using hlen
    simp only [jx1] at hx
    split at hx
    · cases hx
      exact jG.ishr hd g
    · cases hx
  | iushr =>
    obtain rfl : len = 1 := by simpa [jlen] using hlen
    simp only [jx1] at hx
    split at hx
    · cases hx
      exact jG.iushr hd g
    · cases hx
  | ladd =>
    obtain rfl : len = 1 := by simpa [jlen] using hlen
    simp only [jx1] at hx
    split at hx
    · cases hx
      exact jG.ladd hd g
    · cases hx
  | lsub =>
    obtain rfl : len = 1 := by simpa [jlen] using hlen
    simp only [jx1] at hx
    split at hx
    · cases hx
      exact jG.lsub hd g
    · cases hx
  | lmul =>
    obtain rfl : len = 1 := by simpa [jlen] using hlen
    simp only [jx1] at hx
    split at hx
    · cases hx
      exact jG.lmul hd g
    · cases hx
  | land =>
    obtain rfl : len = 1 := by simpa [jlen] using hlen
    simp only [jx1] at hx
    split at hx
    · cases hx
      exact jG.land hd g
    · cases hx
  | lor =>
    obtain rfl : len = 1 := by simpa [jlen] using hlen
    simp only [jx1] at hx
    split at hx
    · cases hx
      exact jG.lor hd g
    · cases hx
  | lxor =>
    obtain rfl : len = 1 := by simpa [jlen] using hlen
    simp only [jx1] at hx
    split at hx
    · cases hx
      exact jG.lxor hd g
    · cases hx
  | lshl =>
    obtain rfl : len = 1 := by simpa [jlen] using hlen
    simp only [jx1] at hx
    split at hx
    · cases hx
      exact jG.lshl hd g
    · cases hx
  | lshr =>
    obtain rfl : len = 1 := by simpa [jlen] using hlen
    simp only [jx1] at hx
    split at hx
    · cases hx
      exact jG.lshr hd g
    · cases hx
  | lushr =>
    obtain rfl : len = 1 := by simpa [jlen] using hlen
    simp only [jx1] at hx
    split at hx
    · cases hx
      exact jG.lushr hd g
    · cases hx
  | ineg =>
    obtain rfl : len = 1 := by simpa [jlen] using hlen
    simp only [jx1] at hx
    split at hx
    · cases hx
      exact jG.ineg hd g
    · cases hx
  | i2l =>
    obtain rfl : len = 1 := by simpa [jlen] using hlen
    simp only [jx1] at hx
    split at hx
    · cases hx
      exact jG.i2l hd g
    · cases hx
  | l2i =>
    obtain rfl : len = 1 := by simpa [jlen] using hlen
    simp only [jx1] at hx
    split at hx
    · cases hx
      exact jG.l2i hd g
    · cases hx
  | i2b =>
    obtain rfl : len = 1 := by simpa [jlen] using hlen
    simp only [jx1] at hx
    split at hx
    · cases hx
      exact jG.i2b hd g
    · cases hx
  | i2c =>
    obtain rfl : len = 1 := by simpa [jlen] using hlen
    simp only [jx1] at hx
    split at hx
    · cases hx
      exact jG.i2c hd g
    · cases hx
  | lcmp =>
    obtain rfl : len = 1 := by simpa [jlen] using hlen
    simp only [jx1] at hx
    split at hx
    · cases hx
      exact jG.lcmp hd g
    · cases hx
  | idiv =>
    obtain rfl : len = 1 := by simpa [jlen] using hlen
    simp only [jx1] at hx
    split at hx
    · split at hx
      · rename_i hb
        cases hx
        exact jG.idiv hd hb g
      · cases hx
    · cases hx
  | irem =>
    obtain rfl : len = 1 := by simpa [jlen] using hlen
    simp only [jx1] at hx
    split at hx
    · split at hx
      · rename_i hb
        cases hx
        exact jG.irem hd hb g
      · cases hx
    · cases hx
  | dup =>
    obtain rfl : len = 1 := by simpa [jlen] using hlen
    simp only [jx1] at hx
    split at hx
    · split at hx
      · rename_i hb
        cases hx
        exact jG.dup hd hb g
      · cases hx
    · cases hx
  | pop =>
    obtain rfl : len = 1 := by simpa [jlen] using hlen
    simp only [jx1] at hx
    split at hx
    · split at hx
      · rename_i hb
        cases hx
        exact jG.pop hd hb g
      · cases hx
    · cases hx
  | dup_x1 =>
    obtain rfl : len = 1 := by simpa [jlen] using hlen
    simp only [jx1] at hx
    split at hx
    · split at hx
      · rename_i hb
        cases hx
        exact jG.dup_x1 hd hb.1 hb.2 g
      · cases hx
    · cases hx
  | dup2 =>
    obtain rfl : len = 1 := by simpa [jlen] using hlen
    simp only [jx1] at hx
    split at hx
    · split at hx
      · rename_i hb
        cases hx
        exact jG.dup2 hd hb.1 hb.2 g
      · cases hx
    · cases hx
  | getfield ix =>
    obtain rfl : len = 3 := by simpa [jlen] using hlen
    simp only [jx1, jokR] at hx hR
    split at hx
    · rename_i ci k wi ne x s
      split at hx
      · rename_i hc
        cases hx
        obtain ⟨C, T, N, hcl⟩ : ∃ C T N, jcl[ci.toNat]? = some (C, T, N) := jcl_all hc.1
        have e1 : jfl ci.toNat = T := by funext z; simp only [jfl, hcl]
        have e2 : jfn ci.toNat = N := by simp only [jfn, hcl]
        have ex : x = ((x.toNat : Nat) : Int) := by omega
        rw [ex]
        split at hR
        · rename_i hres
          cases hres
          simp only [Bool.and_eq_true, decide_eq_true_eq] at hR
          rw [e1, e2] at hR
          exact jG.getf hd hc.1 hcl (jcl_ok hcl) hR.1 (jwat_in hR.2) g
        · rename_i hres
          cases hres
          simp only [Bool.and_eq_true, decide_eq_true_eq] at hR
          rw [e1, e2] at hR
          exact jG.getfN hd hc.1 hcl (jcl_ok hcl) hR.1 (jnat_in hR.2) g
        · rename_i hres; cases hres
        · rename_i hres; cases hres
        · cases hR
      · cases hx
    · cases hx
  | putfield ix =>
    obtain rfl : len = 3 := by simpa [jlen] using hlen
    simp only [jx1, jokR] at hx hR
    split at hx
    · rename_i ci k wi ne v x s
      split at hx
      · rename_i hc
        cases hx
        obtain ⟨C, T, N, hcl⟩ : ∃ C T N, jcl[ci.toNat]? = some (C, T, N) := jcl_all hc.1
        have e1 : jfl ci.toNat = T := by funext z; simp only [jfl, hcl]
        have e2 : jfn ci.toNat = N := by simp only [jfn, hcl]
        have ex : x = ((x.toNat : Nat) : Int) := by omega
        rw [ex]
        have hp := jputb_ok hc.2.2
        split at hR
        · rename_i hres
          cases hres
          simp only [Bool.and_eq_true, decide_eq_true_eq, Bool.not_eq_true'] at hR
          rw [e1, e2] at hR
          exact jG.putf hd hc.1 hcl (jcl_ok hcl) hR.1.1 hR.1.2 hp (jwat_in hR.2) g
        · rename_i hres
          cases hres
          simp only [Bool.and_eq_true, decide_eq_true_eq, Bool.not_eq_true'] at hR
          rw [e1, e2] at hR
          exact jG.putfN hd hc.1 hcl (jcl_ok hcl) hR.1.1 hR.1.2 hp (jnat_in hR.2) g
        · cases hR
      · cases hx
    · cases hx
  | getstatic ix =>
    obtain rfl : len = 3 := by simpa [jlen] using hlen
    simp only [jx1, jokR] at hx hR
    split at hx
    · rename_i j wi ne
      split at hx
      · rename_i q hq
        cases hx
        have hv : jokV q.2.2.2 := jst_ok _ (List.mem_of_getElem? hq)
        split at hR
        · rename_i hres
          cases hres
          rw [hq] at hR
          exact jG.gets hd (List.mem_of_getElem? hq) (jwat_in hR) hv g
        · rename_i hres
          cases hres
          rw [hq] at hR
          exact jG.getsN hd (List.mem_of_getElem? hq) (jnat_in hR) hv g
        · cases hR
      · cases hx
    · cases hx
  | _ => simp [jx1] at hx
theorem jG.blk (hT : jokT2 M 0 (jt M) = true) : ∀ (k : Nat) {pc : Nat} {L : List (Nat × jV)} {st : List jV} {h : jH}, jxN (jt M) k pc L st h = some (pc1, L1, st1, h1) → jG E M pc1 L1 st1 h1 r h' → jG E M pc L st h r h' := by
  intro k
  induction k with
  | zero =>
    intro pc L st h hx g
    cases hx
    exact g
  | succ k ih =>
    intro pc L st h hx g
    unfold jxN at hx
    split at hx
    · rename_i i len res he
      split at hx
      · rename_i L2 st2 h2 h3
        exact jG.x1 hT he h3 (ih hx g)
      · cases hx
    · cases hx

/-! the same rules, by the table -/
theorem jT.iald {a n : Nat} {i : Int} (hT : jokT2 M 0 (jt M) = true) (he : (jt M)[pc]? = some (some (.iaload, 1, []))) (hk : jkd.getD a (9, 0) = (1, n)) (hn : (n : Int) < 2147483648) (h0 : 0 ≤ i) (h1 : i < (n : Int)) (g : jG E M (pc + 1) L ((0, h a i.toNat) :: st) h r h') : jG E M pc L ((0, i) :: (2, (a : Int)) :: st) h r h' := jG.iald (jokT_at hT he).1 hk hn h0 h1 g
theorem jT.bald {a n : Nat} {i : Int} (hT : jokT2 M 0 (jt M) = true) (he : (jt M)[pc]? = some (some (.baload, 1, []))) (hk : jkd.getD a (9, 0) = (3, n)) (hn : (n : Int) < 2147483648) (h0 : 0 ≤ i) (h1 : i < (n : Int)) (g : jG E M (pc + 1) L ((0, h a i.toNat) :: st) h r h') : jG E M pc L ((0, i) :: (2, (a : Int)) :: st) h r h' := jG.bald (jokT_at hT he).1 hk hn h0 h1 g
theorem jT.cald {a n : Nat} {i : Int} (hT : jokT2 M 0 (jt M) = true) (he : (jt M)[pc]? = some (some (.caload, 1, []))) (hk : jkd.getD a (9, 0) = (4, n)) (hn : (n : Int) < 2147483648) (h0 : 0 ≤ i) (h1 : i < (n : Int)) (g : jG E M (pc + 1) L ((0, h a i.toNat) :: st) h r h') : jG E M pc L ((0, i) :: (2, (a : Int)) :: st) h r h' := jG.cald (jokT_at hT he).1 hk hn h0 h1 g
theorem jT.lald {a n : Nat} {i : Int} (hT : jokT2 M 0 (jt M) = true) (he : (jt M)[pc]? = some (some (.laload, 1, []))) (hk : jkd.getD a (9, 0) = (2, n)) (hn : (n : Int) < 2147483648) (h0 : 0 ≤ i) (h1 : i < (n : Int)) (g : jG E M (pc + 1) L ((1, h a i.toNat) :: st) h r h') : jG E M pc L ((0, i) :: (2, (a : Int)) :: st) h r h' := jG.lald (jokT_at hT he).1 hk hn h0 h1 g
theorem jT.iast {a n : Nat} {i v : Int} (hT : jokT2 M 0 (jt M) = true) (he : (jt M)[pc]? = some (some (.iastore, 1, []))) (hk : jkd.getD a (9, 0) = (1, n)) (hn : (n : Int) < 2147483648) (h0 : 0 ≤ i) (h1 : i < (n : Int)) (g : jG E M (pc + 1) L st (jup h a i.toNat v) r h') : jG E M pc L ((0, v) :: (0, i) :: (2, (a : Int)) :: st) h r h' := jG.iast (jokT_at hT he).1 hk hn h0 h1 g
theorem jT.last {a n : Nat} {i v : Int} (hT : jokT2 M 0 (jt M) = true) (he : (jt M)[pc]? = some (some (.lastore, 1, []))) (hk : jkd.getD a (9, 0) = (2, n)) (hn : (n : Int) < 2147483648) (h0 : 0 ≤ i) (h1 : i < (n : Int)) (g : jG E M (pc + 1) L st (jup h a i.toNat v) r h') : jG E M pc L ((1, v) :: (0, i) :: (2, (a : Int)) :: st) h r h' := jG.last (jokT_at hT he).1 hk hn h0 h1 g
theorem jT.bast {a n : Nat} {i v : Int} (hT : jokT2 M 0 (jt M) = true) (he : (jt M)[pc]? = some (some (.bastore, 1, []))) (hk : jkd.getD a (9, 0) = (3, n)) (hn : (n : Int) < 2147483648) (h0 : 0 ≤ i) (h1 : i < (n : Int)) (hv0 : -128 ≤ v) (hv1 : v < 128) (g : jG E M (pc + 1) L st (jup h a i.toNat v) r h') : jG E M pc L ((0, v) :: (0, i) :: (2, (a : Int)) :: st) h r h' := jG.bast (jokT_at hT he).1 hk hn h0 h1 hv0 hv1 g
theorem jT.cast {a n : Nat} {i v : Int} (hT : jokT2 M 0 (jt M) = true) (he : (jt M)[pc]? = some (some (.castore, 1, []))) (hk : jkd.getD a (9, 0) = (4, n)) (hn : (n : Int) < 2147483648) (h0 : 0 ≤ i) (h1 : i < (n : Int)) (hv0 : 0 ≤ v) (hv1 : v < 65536) (g : jG E M (pc + 1) L st (jup h a i.toNat v) r h') : jG E M pc L ((0, v) :: (0, i) :: (2, (a : Int)) :: st) h r h' := jG.cast (jokT_at hT he).1 hk hn h0 h1 hv0 hv1 g
theorem jT.alen {a t n : Nat} (hT : jokT2 M 0 (jt M) = true) (he : (jt M)[pc]? = some (some (.arraylength, 1, []))) (hk : jkd.getD a (9, 0) = (t, n)) (ht : t = 1 ∨ t = 2 ∨ t = 3 ∨ t = 4) (hn : (n : Int) < 2147483648) (g : jG E M (pc + 1) L ((0, (n : Int)) :: st) h r h') : jG E M pc L ((2, (a : Int)) :: st) h r h' := jG.alen (jokT_at hT he).1 hk ht hn g
theorem jT.xald {x : Nat} {i : Int} (hT : jokT2 M 0 (jt M) = true) (he : (jt M)[pc]? = some (some (.iaload, 1, []))) (hx : x < jxn) (ht : jxt.getD x .int = .int) (hn : (jxl E x : Int) < 2147483648) (h0 : 0 ≤ i) (h1 : i < (jxl E x : Int)) (hv : ok32 (jxv E x i.toNat)) (g : jG E M (pc + 1) L ((0, jxv E x i.toNat) :: st) h r h') : jG E M pc L ((0, i) :: (3, (x : Int)) :: st) h r h' := jG.xald (jokT_at hT he).1 hx ht hn h0 h1 hv g
theorem jT.xbld {x : Nat} {i : Int} (hT : jokT2 M 0 (jt M) = true) (he : (jt M)[pc]? = some (some (.baload, 1, []))) (hx : x < jxn) (ht : jxt.getD x .int = .byte) (hn : (jxl E x : Int) < 2147483648) (h0 : 0 ≤ i) (h1 : i < (jxl E x : Int)) (hv : ok32 (jxv E x i.toNat)) (g : jG E M (pc + 1) L ((0, jxv E x i.toNat) :: st) h r h') : jG E M pc L ((0, i) :: (3, (x : Int)) :: st) h r h' := jG.xbld (jokT_at hT he).1 hx ht hn h0 h1 hv g
theorem jT.xlen {x : Nat} (hT : jokT2 M 0 (jt M) = true) (he : (jt M)[pc]? = some (some (.arraylength, 1, []))) (hx : x < jxn) (hn : (jxl E x : Int) < 2147483648) (g : jG E M (pc + 1) L ((0, (jxl E x : Int)) :: st) h r h') : jG E M pc L ((3, (x : Int)) :: st) h r h' := jG.xlen (jokT_at hT he).1 hx hn g
theorem jT.xcod {ix : Nat} {wi : Int} {q : Nat × Nat} (hT : jokT2 M 0 (jt M) = true) (he : (jt M)[pc]? = some (some (.getfield ix, 3, [0, wi]))) (hq : q ∈ jso) (g : jG E M (pc + 3) L ((0, 0) :: st) h r h') : jG E M pc L ((3, (q.1 : Int)) :: st) h r h' := jG.xcod (jokT_at hT he).1 hq (jwat_in (jokT_at hT he).2.2) g
theorem jT.xval {ix : Nat} {wi : Int} {q : Nat × Nat} (hT : jokT2 M 0 (jt M) = true) (he : (jt M)[pc]? = some (some (.getfield ix, 3, [1, wi]))) (hq : q ∈ jso) (g : jG E M (pc + 3) L ((3, (q.2 : Int)) :: st) h r h') : jG E M pc L ((3, (q.1 : Int)) :: st) h r h' := jG.xval (jokT_at hT he).1 hq (jwat_in (jokT_at hT he).2.2) g
theorem jT.if1 {cn : Jvm.ClassFile.Cond} {off : Int} {tgt : Nat} {x : Int} (hT : jokT2 M 0 (jt M) = true) (he : (jt M)[pc]? = some (some (.ifCond cn off, 3, []))) (ht : (pc : Int) + off = (tgt : Int)) (kt : jcn cn x 0 → jG E M tgt L st h r h') (kf : ¬ jcn cn x 0 → jG E M (pc + 3) L st h r h') : jG E M pc L ((0, x) :: st) h r h' := jG.if1 (jokT_at hT he).1 ht kt kf
theorem jT.if2 {cn : Jvm.ClassFile.Cond} {off : Int} {tgt : Nat} {x y : Int} (hT : jokT2 M 0 (jt M) = true) (he : (jt M)[pc]? = some (some (.if_icmp cn off, 3, []))) (ht : (pc : Int) + off = (tgt : Int)) (kt : jcn cn x y → jG E M tgt L st h r h') (kf : ¬ jcn cn x y → jG E M (pc + 3) L st h r h') : jG E M pc L ((0, y) :: (0, x) :: st) h r h' := jG.if2 (jokT_at hT he).1 ht kt kf
theorem jT.goto {off : Int} {tgt : Nat} (hT : jokT2 M 0 (jt M) = true) (he : (jt M)[pc]? = some (some (.goto off, 3, []))) (ht : (pc : Int) + off = (tgt : Int)) (g : jG E M tgt L st h r h') : jG E M pc L st h r h' := jG.goto (jokT_at hT he).1 ht g
theorem jT.lsw {d : Int} {ps : Array (Int × Int)} {len : Nat} {x off : Int} {tgt : Nat} (hT : jokT2 M 0 (jt M) = true) (he : (jt M)[pc]? = some (some (.lookupswitch d ps, len, []))) (hp : (ps.toList.zip (ps.toList.drop 1)).all (fun (a, next) => a.1 < next.1) = true) (ho : Op.lookupswitch.offset ps.toList d x = off) (ht : (pc : Int) + off = (tgt : Int)) (g : jG E M tgt L st h r h') : jG E M pc L ((0, x) :: st) h r h' := jG.lsw (jokT_at hT he).1 hp ho ht g
theorem jT.tswO {d lo hi : Int} {offs : Array Int} {len : Nat} {x : Int} {tgt : Nat} (hT : jokT2 M 0 (jt M) = true) (he : (jt M)[pc]? = some (some (.tableswitch d lo hi offs, len, []))) (hc : x < lo ∨ hi < x) (ht : (pc : Int) + d = (tgt : Int)) (g : jG E M tgt L st h r h') : jG E M pc L ((0, x) :: st) h r h' := jG.tswO (jokT_at hT he).1 hc ht g
theorem jT.tswI {d lo hi : Int} {offs : Array Int} {len : Nat} {x off : Int} {tgt : Nat} (hT : jokT2 M 0 (jt M) = true) (he : (jt M)[pc]? = some (some (.tableswitch d lo hi offs, len, []))) (h1 : ¬ x < lo) (h2 : ¬ hi < x) (ho : offs[(x - lo).toNat]? = some off) (ht : (pc : Int) + off = (tgt : Int)) (g : jG E M tgt L st h r h') : jG E M pc L ((0, x) :: st) h r h' := jG.tswI (jokT_at hT he).1 h1 h2 ho ht g
theorem jT.iret {x : Int} (hT : jokT2 M 0 (jt M) = true) (he : (jt M)[pc]? = some (some (.ireturn, 1, []))) (hr : jro (jr M) .ireturn (some (0, x))) : jG E M pc L [(0, x)] h (some (0, x)) h := jG.ret (r := some (0, x)) (jokT_at hT he).1 hr
theorem jT.lret {x : Int} (hT : jokT2 M 0 (jt M) = true) (he : (jt M)[pc]? = some (some (.lreturn, 1, []))) (hr : jro (jr M) .lreturn (some (1, x))) : jG E M pc L [(1, x)] h (some (1, x)) h := jG.ret (r := some (1, x)) (jokT_at hT he).1 hr
theorem jT.vret (hT : jokT2 M 0 (jt M) = true) (he : (jt M)[pc]? = some (some (.return_, 1, []))) (hr : jro (jr M) .return_ none) : jG E M pc L [] h none h := jG.ret (r := none) (jokT_at hT he).1 hr
theorem jT.cS {M1 : jM} {ix : Nat} {j wi : Int} {r1 : Option jV} (args1 rest : List jV) (hT : jokT2 M 0 (jt M) = true) (he : (jt M)[pc]? = some (some (.invokestatic ix, 3, [j, wi, 0]))) (hy : jyn.getD j.toNat ⟨"", "", ""⟩ = jy M1) (hM : jokM M1) (hk : jk M1 = 0) (hfr : jf M1 + 1 ≤ jf M) (hlo : 8 + (jL M1 + 11) + jlr M1 ≤ jlr M) (hn : args1.length = jn M1) (hrs : (rest.map fun v => if v.1 = 1 then 2 else 1).sum ≤ 8) (hC : jC E M1 args1 h r1 h1) (g : jG E M (pc + 3) L (r1.toList ++ rest) h1 r h') : jG E M pc L (args1.reverse ++ rest) h r h' := by
  have h2 := jokT_at hT he
  exact jG.callS args1 rest h2.1 hM hk (by rw [← hy]; exact jwat_in h2.2.2) hfr hlo hn hrs hC g
theorem jT.cSN {M1 : jM} {ix : Nat} {j wi : Int} {r1 : Option jV} (args1 rest : List jV) (hT : jokT2 M 0 (jt M) = true) (he : (jt M)[pc]? = some (some (.invokestatic ix, 3, [j, wi, 1]))) (hy : jyn.getD j.toNat ⟨"", "", ""⟩ = jy M1) (hM : jokM M1) (hk : jk M1 = 0) (hfr : jf M1 + 1 ≤ jf M) (hlo : 8 + (jL M1 + 11) + jlr M1 ≤ jlr M) (hn : args1.length = jn M1) (hrs : (rest.map fun v => if v.1 = 1 then 2 else 1).sum ≤ 8) (hC : jC E M1 args1 h r1 h1) (g : jG E M (pc + 3) L (r1.toList ++ rest) h1 r h') : jG E M pc L (args1.reverse ++ rest) h r h' := by
  have h2 := jokT_at hT he
  exact jG.callSN args1 rest h2.1 hM hk (by rw [← hy]; exact jnat_in h2.2.2) hfr hlo hn hrs hC g
theorem jT.cV {M1 : jM} {ix : Nat} {j wi : Int} {r1 : Option jV} (v1 : jV) (args1 rest : List jV) (hT : jokT2 M 0 (jt M) = true) (he : (jt M)[pc]? = some (some (.invokevirtual ix, 3, [j, wi, 0]))) (hy : jyn.getD j.toNat ⟨"", "", ""⟩ = jy M1) (hM : jokM M1) (hk : jk M1 = 1) (hv : jrc (jy M1).cls v1) (hfr : jf M1 + 1 ≤ jf M) (hlo : 8 + (jL M1 + 11) + jlr M1 ≤ jlr M) (hn : args1.length = jn M1) (hrs : (rest.map fun v => if v.1 = 1 then 2 else 1).sum ≤ 8) (hC : jC E M1 (v1 :: args1) h r1 h1) (g : jG E M (pc + 3) L (r1.toList ++ rest) h1 r h') : jG E M pc L (args1.reverse ++ v1 :: rest) h r h' := by
  have h2 := jokT_at hT he
  exact jG.callV v1 args1 rest h2.1 hM hk hv (by rw [← hy]; exact jwat_in h2.2.2) hfr hlo hn hrs hC g
theorem jT.cVN {M1 : jM} {ix : Nat} {j wi : Int} {r1 : Option jV} (v1 : jV) (args1 rest : List jV) (hT : jokT2 M 0 (jt M) = true) (he : (jt M)[pc]? = some (some (.invokevirtual ix, 3, [j, wi, 1]))) (hy : jyn.getD j.toNat ⟨"", "", ""⟩ = jy M1) (hM : jokM M1) (hk : jk M1 = 1) (hv : jrc (jy M1).cls v1) (hfr : jf M1 + 1 ≤ jf M) (hlo : 8 + (jL M1 + 11) + jlr M1 ≤ jlr M) (hn : args1.length = jn M1) (hrs : (rest.map fun v => if v.1 = 1 then 2 else 1).sum ≤ 8) (hC : jC E M1 (v1 :: args1) h r1 h1) (g : jG E M (pc + 3) L (r1.toList ++ rest) h1 r h') : jG E M pc L (args1.reverse ++ v1 :: rest) h r h' := by
  have h2 := jokT_at hT he
  exact jG.callVN v1 args1 rest h2.1 hM hk hv (by rw [← hy]; exact jnat_in h2.2.2) hfr hlo hn hrs hC g
theorem jT.acp {ix a0 a n0 n1 : Nat} {wi w2 w3 w4 : Int} {rest : List jV} (hT : jokT2 M 0 (jt M) = true) (he : (jt M)[pc]? = some (some (.invokestatic ix, 3, [wi, w2, w3, w4]))) (hk0 : jkd.getD a0 (9, 0) = (1, n0)) (hk1 : jkd.getD a (9, 0) = (1, n1)) (h0 : 64 ≤ n0) (h1 : 64 ≤ n1) (hf : 1 ≤ jf M) (hlo : 8 + (nativeFrameWords "java/lang/System" "arraycopy" 5 + 11) ≤ jlr M) (hrs : (rest.map fun v => if v.1 = 1 then 2 else 1).sum ≤ 8) (g : jG E M (pc + 3) L rest (jcp h a (fun k => if k < 64 then h a0 k else h a k)) r h') : jG E M pc L ((0, 64) :: (0, 0) :: (2, (a : Int)) :: (0, 0) :: (2, (a0 : Int)) :: rest) h r h' := by
  obtain ⟨hd, -, hR⟩ := jokT_at hT he
  simp only [jokR, Bool.and_eq_true] at hR
  obtain ⟨⟨⟨hw1, hw2⟩, hw3⟩, hw4⟩ := hR
  refine jG.hp g (fun _ oS oH => ⟨jokS_tl (jokS_tl (jokS_tl (jokS_tl (jokS_tl oS)))), jHok_cp oH (fun k => ?_)⟩) (fun hF hl oS oH hP hS k => ?_)
  · rw [jty_k hk1]
    by_cases hk : k < 64
    · rw [if_pos hk]
      have h2 := oH a0 k
      rw [jty_k hk0] at h2
      exact h2
    · rw [if_neg hk]
      have h2 := oH a k
      rw [jty_k hk1] at h2
      exact h2
  · have ha := jkd_lt hk1 (by decide)
    have hx0 := jwd_at (E := E) (h := h) (jkd_lt hk0 (by decide))
    have hx1 := jwd_at (E := E) (h := h) ha
    rw [jent_i _ hk0 (by decide)] at hx0
    rw [jent_i _ hk1 (by decide)] at hx1
    have hK := hF.2.2.2.2.2.2.1
    have hts := hF.2.2.2.2.2.1
    have e64 : (Int32.ofInt 64).toNatClampNeg = 64 := by decide
    have e0 : (Int32.ofInt 0).toNatClampNeg = 0 := by decide
    have hlr : jlr M ≤ _ := hF.2.2.2.2.2.2.2.2.2.2.1
    have hfr : jf M ≤ _ := hF.2.2.2.2.2.2.2.2.2.1
    refine va_copyi (rest := rest.map (tv E)) hF.1 hF.2.1 (hF.2.2.1.trans hl.1.symm) hF.2.2.2.2.1 (hts _ (jwat_in hw1)) (hts _ (jwat_in hw2)) (hts _ (jwat_in hw3)) (hts _ (jwat_in hw4)) hK hP (jwd_D hF.2.2.2.2.2.2.2.2.1) hS a0 a 0 0 hx0 hx1 (by rfl : (jtys E)[0]? = some (jca E 1, .int)) (by rfl : (jtys E)[0]? = some (jca E 1, .int)) rfl (by decide) (by decide) (by decide) (by rw [e0, e64]; omega) (by rw [e0, e64]; omega) (fun _ _ => rfl) (Nat.le_trans hf hfr) (by rw [jcats]; omega) hd (fun H1 locs1 hP1 _ hS1 => k H1 locs1 ?_ hS1)
    rw [e0, e64] at hP1
    have e := jwd_cp (E := E) (h := h) ha (fun k => if k < 64 then h a0 k else h a k)
    rw [jent_i _ hk1 (by decide)] at e
    have e2 : (fun j => Int32.ofInt (if j < 64 then h a0 j else h a j)) = va_cpy (fun j => Int32.ofInt (h a0 j)) (fun j => Int32.ofInt (h a j)) 0 0 64 := by
      funext j
      unfold va_cpy
      by_cases hj : j < 64
      · rw [if_pos hj, if_pos ⟨Nat.zero_le _, by omega⟩, Nat.zero_add, Nat.sub_zero]
      · rw [if_neg hj, if_neg (fun z => hj (by omega))]
    rw [e2] at e
    rw [e] at hP1
    exact hP1
theorem jT.mabs {ix : Nat} {wi w2 w3 w4 : Int} {a : Int} {rest : List jV} (hT : jokT2 M 0 (jt M) = true) (he : (jt M)[pc]? = some (some (.invokestatic ix, 3, [0, wi, w2, w3, w4]))) (hf : 1 ≤ jf M) (hlo : 8 + 13 ≤ jlr M) (hrs : (rest.map fun v => if v.1 = 1 then 2 else 1).sum ≤ 8) (g : jG E M (pc + 3) L ((0, if 0 ≤ a then a else jsub 0 a) :: rest) h r h') : jG E M pc L ((0, a) :: rest) h r h' := by
  obtain ⟨hd, -, hR⟩ := jokT_at hT he
  simp only [jokR, Bool.and_eq_true] at hR
  obtain ⟨⟨⟨hw1, hw2⟩, hw3⟩, hw4⟩ := hR
  refine jG.hp g (fun _ oS oH => ⟨jokS_cons ?_ (jokS_tl oS), oH⟩) (fun hF hl oS oH hP hS k => ?_)
  · show ok32 _
    have oa : ok32 a := jokS_hd oS
    split
    · exact oa
    · exact w32_ok _
  · have hts := hF.2.2.2.2.2.1
    have hlr : jlr M ≤ _ := hF.2.2.2.2.2.2.2.2.2.2.1
    have hfr : jf M ≤ _ := hF.2.2.2.2.2.2.2.2.2.1
    refine va_mabs (rest := rest.map (tv E)) hF.1 hF.2.1 (hF.2.2.1.trans hl.1.symm) hF.2.2.2.2.1 (hts _ (jwat_in hw1)) (hts _ (jwat_in hw2)) (hts _ (jwat_in hw3)) (hts _ (jwat_in hw4)) (Nat.le_trans hf hfr) (by rw [jcats]; omega) hF.2.2.2.2.2.2.2.2.2.2.2.1 hF.2.2.2.2.2.2.2.2.2.2.2.2 hd ?_
    have oa : ok32 a := jokS_hd oS
    have e : (if 0 ≤ Int32.ofInt a then Int32.ofInt a else 0 - Int32.ofInt a) = Int32.ofInt (if 0 ≤ a then a else jsub 0 a) := by
      have e4 := jn_le ok32_0 oa
      rw [j0e] at e4
      by_cases hab : 0 ≤ a
      · rw [if_pos hab, if_pos (e4.mpr hab)]
      · rw [if_neg hab, if_neg (fun z => hab (e4.mp z)), ← jn_sub, j0e]
    rw [e]
    exact k _ _ hP hS
theorem jT.mmax {ix : Nat} {wi w2 w3 w4 : Int} {a b : Int} {rest : List jV} (hT : jokT2 M 0 (jt M) = true) (he : (jt M)[pc]? = some (some (.invokestatic ix, 3, [1, wi, w2, w3, w4]))) (hf : 1 ≤ jf M) (hlo : 8 + 13 ≤ jlr M) (hrs : (rest.map fun v => if v.1 = 1 then 2 else 1).sum ≤ 8) (g : jG E M (pc + 3) L ((0, if a < b then b else a) :: rest) h r h') : jG E M pc L ((0, b) :: (0, a) :: rest) h r h' := by
  obtain ⟨hd, -, hR⟩ := jokT_at hT he
  simp only [jokR, Bool.and_eq_true] at hR
  obtain ⟨⟨⟨hw1, hw2⟩, hw3⟩, hw4⟩ := hR
  refine jG.hp g (fun _ oS oH => ⟨jokS_cons ?_ (jokS_tl (jokS_tl oS)), oH⟩) (fun hF hl oS oH hP hS k => ?_)
  · show ok32 _
    have ob : ok32 b := jokS_hd oS
    have oa : ok32 a := jokS_hd (jokS_tl oS)
    split
    · exact ob
    · exact oa
  · have hts := hF.2.2.2.2.2.1
    have hlr : jlr M ≤ _ := hF.2.2.2.2.2.2.2.2.2.2.1
    have hfr : jf M ≤ _ := hF.2.2.2.2.2.2.2.2.2.1
    refine va_mmax (rest := rest.map (tv E)) hF.1 hF.2.1 (hF.2.2.1.trans hl.1.symm) hF.2.2.2.2.1 (hts _ (jwat_in hw1)) (hts _ (jwat_in hw2)) (hts _ (jwat_in hw3)) (hts _ (jwat_in hw4)) (Nat.le_trans hf hfr) (by rw [jcats]; omega) hF.2.2.2.2.2.2.2.2.2.2.2.1 hF.2.2.2.2.2.2.2.2.2.2.2.2 hd ?_
    have ob : ok32 b := jokS_hd oS
    have oa : ok32 a := jokS_hd (jokS_tl oS)
    have e : (if Int32.ofInt a < Int32.ofInt b then Int32.ofInt b else Int32.ofInt a) = Int32.ofInt (if a < b then b else a) := by
      by_cases hab : a < b
      · rw [if_pos hab, if_pos ((jn_lt oa ob).mpr hab)]
      · rw [if_neg hab, if_neg (fun z => hab ((jn_lt oa ob).mp z))]
    rw [e]
    exact k _ _ hP hS
theorem jT.mmin {ix : Nat} {wi w2 w3 w4 : Int} {a b : Int} {rest : List jV} (hT : jokT2 M 0 (jt M) = true) (he : (jt M)[pc]? = some (some (.invokestatic ix, 3, [2, wi, w2, w3, w4]))) (hf : 1 ≤ jf M) (hlo : 8 + 13 ≤ jlr M) (hrs : (rest.map fun v => if v.1 = 1 then 2 else 1).sum ≤ 8) (g : jG E M (pc + 3) L ((0, if b < a then b else a) :: rest) h r h') : jG E M pc L ((0, b) :: (0, a) :: rest) h r h' := by
  obtain ⟨hd, -, hR⟩ := jokT_at hT he
  simp only [jokR, Bool.and_eq_true] at hR
  obtain ⟨⟨⟨hw1, hw2⟩, hw3⟩, hw4⟩ := hR
  refine jG.hp g (fun _ oS oH => ⟨jokS_cons ?_ (jokS_tl (jokS_tl oS)), oH⟩) (fun hF hl oS oH hP hS k => ?_)
  · show ok32 _
    have ob : ok32 b := jokS_hd oS
    have oa : ok32 a := jokS_hd (jokS_tl oS)
    split
    · exact ob
    · exact oa
  · have hts := hF.2.2.2.2.2.1
    have hlr : jlr M ≤ _ := hF.2.2.2.2.2.2.2.2.2.2.1
    have hfr : jf M ≤ _ := hF.2.2.2.2.2.2.2.2.2.1
    refine va_mmin (rest := rest.map (tv E)) hF.1 hF.2.1 (hF.2.2.1.trans hl.1.symm) hF.2.2.2.2.1 (hts _ (jwat_in hw1)) (hts _ (jwat_in hw2)) (hts _ (jwat_in hw3)) (hts _ (jwat_in hw4)) (Nat.le_trans hf hfr) (by rw [jcats]; omega) hF.2.2.2.2.2.2.2.2.2.2.2.1 hF.2.2.2.2.2.2.2.2.2.2.2.2 hd ?_
    have ob : ok32 b := jokS_hd oS
    have oa : ok32 a := jokS_hd (jokS_tl oS)
    have e : (if Int32.ofInt b < Int32.ofInt a then Int32.ofInt b else Int32.ofInt a) = Int32.ofInt (if b < a then b else a) := by
      by_cases hab : b < a
      · rw [if_pos hab, if_pos ((jn_lt ob oa).mpr hab)]
      · rw [if_neg hab, if_neg (fun z => hab ((jn_lt ob oa).mp z))]
    rw [e]
    exact k _ _ hP hS
end JX
end
section
def M_X_clear : jM := ((⟨"ChessLedger", "clear", "()V"⟩, prog_1_method_2_code, 1, none), [some (.aload_n 0, 1, []), some (.getfield 20, 3, [0, 1, 238, 0]), none, none, some (.invokevirtual 66, 3, [1, 272, 0]), none, none, some (.aload_n 0, 1, []), some (.getfield 10, 3, [0, 0, 237, 0]), none, none, some (.invokevirtual 71, 3, [4, 283, 0]), none, none, some (.aload_n 0, 1, []), some (.iconst (0), 1, []), some (.putfield 62, 3, [0, 9, 246, 0]), none, none, some (.return_, 1, [])], (2, 44, 1, 0), [])
set_option maxRecDepth 100000 in
theorem st_X_clear : jokT2 M_X_clear 0 (jt M_X_clear) = true := by decide +kernel
set_option maxRecDepth 100000 in
theorem ok_X_clear : jokM M_X_clear := ⟨by decide +kernel, jwat_in (i := 271) (by decide +kernel), jwat_in (i := 71) (by decide +kernel), ⟨by decide +kernel, by decide +kernel, by decide +kernel⟩, by rw [if_neg (by decide)]; exact ⟨jwat_in (i := 269) (by decide +kernel), jwat_in (i := 270) (by decide +kernel)⟩⟩
def M_Bd_wipe : jM := ((⟨"ChessLedger$Board", "wipe", "()V"⟩, prog_2_method_2_code, 1, none), [some (.aload_n 0, 1, []), some (.getfield 9, 3, [1, 0, 108, 0]), none, none, some (.iconst (0), 1, []), some (.invokestatic 28, 3, [2, 276, 0]), none, none, some (.aload_n 0, 1, []), some (.iconst (0), 1, []), some (.iconst (0), 1, []), some (.iconst (-1), 1, []), some (.iconst (0), 1, []), some (.invokevirtual 34, 3, [3, 279, 0]), none, none, some (.return_, 1, [])], (1, 24, 1, 0), [])
set_option maxRecDepth 100000 in
theorem st_Bd_wipe : jokT2 M_Bd_wipe 0 (jt M_Bd_wipe) = true := by decide +kernel
set_option maxRecDepth 100000 in
theorem ok_Bd_wipe : jokM M_Bd_wipe := ⟨by decide +kernel, jwat_in (i := 275) (by decide +kernel), jwat_in (i := 73) (by decide +kernel), ⟨by decide +kernel, by decide +kernel, by decide +kernel⟩, by rw [if_neg (by decide)]; exact ⟨jwat_in (i := 273) (by decide +kernel), jwat_in (i := 274) (by decide +kernel)⟩⟩
def M_Ja_fillI : jM := ((⟨"java/util/Arrays", "fill", "([II)V"⟩, prog_17_method_103_code, 4, none), [some (.iconst (0), 1, []), some (.istore_n 2, 1, []), some (.aload_n 0, 1, []), some (.arraylength, 1, []), some (.istore_n 3, 1, []), some (.iload_n 2, 1, []), some (.iload_n 3, 1, []), some (.if_icmp .ge (13), 3, []), none, none, some (.aload_n 0, 1, []), some (.iload_n 2, 1, []), some (.iload_n 1, 1, []), some (.iastore, 1, []), some (.iinc 2 (1), 3, []), none, none, some (.goto (-12), 3, []), none, none, some (.return_, 1, [])], (0, 0, 0, 2), [])
set_option maxRecDepth 100000 in
theorem st_Ja_fillI : jokT2 M_Ja_fillI 0 (jt M_Ja_fillI) = true := by decide +kernel
set_option maxRecDepth 100000 in
theorem ok_Ja_fillI : jokM M_Ja_fillI := ⟨by decide +kernel, jwat_in (i := 278) (by decide +kernel), jwat_in (i := 79) (by decide +kernel), ⟨by decide +kernel, by decide +kernel, by decide +kernel⟩, by rw [if_pos (show jk M_Ja_fillI = 0 from rfl)]; exact jwat_in (i := 277) (by decide +kernel)⟩
def M_Bd_enterState : jM := ((⟨"ChessLedger$Board", "enterState", "(IIII)V"⟩, prog_2_method_3_code, 5, none), [some (.aload_n 0, 1, []), some (.iload_n 1, 1, []), some (.putfield 15, 3, [1, 1, 115, 0]), none, none, some (.aload_n 0, 1, []), some (.iload_n 2, 1, []), some (.putfield 19, 3, [1, 2, 122, 0]), none, none, some (.aload_n 0, 1, []), some (.iload_n 3, 1, []), some (.putfield 22, 3, [1, 3, 128, 0]), none, none, some (.aload_n 0, 1, []), some (.iload 4, 2, []), none, some (.putfield 25, 3, [1, 4, 132, 0]), none, none, some (.return_, 1, [])], (0, 0, 1, 4), [])
set_option maxRecDepth 100000 in
theorem st_Bd_enterState : jokT2 M_Bd_enterState 0 (jt M_Bd_enterState) = true := by decide +kernel
set_option maxRecDepth 100000 in
theorem ok_Bd_enterState : jokM M_Bd_enterState := ⟨by decide +kernel, jwat_in (i := 282) (by decide +kernel), jwat_in (i := 73) (by decide +kernel), ⟨by decide +kernel, by decide +kernel, by decide +kernel⟩, by rw [if_neg (by decide)]; exact ⟨jwat_in (i := 280) (by decide +kernel), jwat_in (i := 281) (by decide +kernel)⟩⟩
def M_Gm_forget : jM := ((⟨"ChessLedger$Game", "forget", "()V"⟩, prog_3_method_2_code, 1, none), [some (.aload_n 0, 1, []), some (.iconst (0), 1, []), some (.putfield 34, 3, [2, 6, 156, 0]), none, none, some (.return_, 1, [])], (0, 0, 1, 0), [])
set_option maxRecDepth 100000 in
theorem st_Gm_forget : jokT2 M_Gm_forget 0 (jt M_Gm_forget) = true := by decide +kernel
set_option maxRecDepth 100000 in
theorem ok_Gm_forget : jokM M_Gm_forget := ⟨by decide +kernel, jwat_in (i := 286) (by decide +kernel), jwat_in (i := 72) (by decide +kernel), ⟨by decide +kernel, by decide +kernel, by decide +kernel⟩, by rw [if_neg (by decide)]; exact ⟨jwat_in (i := 284) (by decide +kernel), jwat_in (i := 285) (by decide +kernel)⟩⟩
def M_X_put : jM := ((⟨"ChessLedger", "put", "(II)I"⟩, prog_1_method_3_code, 3, (some .int)), [some (.iload_n 1, 1, []), some (.invokestatic 74, 3, [6, 291, 0]), none, none, some (.ifCond .eq (13), 3, []), none, none, some (.iload_n 2, 1, []), some (.ifCond .lt (9), 3, []), none, none, some (.iload_n 2, 1, []), some (.bipush (12), 2, []), none, some (.if_icmp .le (5), 3, []), none, none, some (.iconst (0), 1, []), some (.ireturn, 1, []), some (.aload_n 0, 1, []), some (.getfield 20, 3, [0, 1, 238, 0]), none, none, some (.getfield 78, 3, [1, 0, 111, 1]), none, none, some (.iload_n 1, 1, []), some (.iload_n 2, 1, []), some (.iastore, 1, []), some (.aload_n 0, 1, []), some (.getfield 10, 3, [0, 0, 237, 0]), none, none, some (.invokevirtual 71, 3, [4, 283, 0]), none, none, some (.aload_n 0, 1, []), some (.iconst (0), 1, []), some (.putfield 62, 3, [0, 9, 246, 0]), none, none, some (.iconst (1), 1, []), some (.ireturn, 1, [])], (1, 20, 1, 2), [])
set_option maxRecDepth 100000 in
theorem st_X_put : jokT2 M_X_put 0 (jt M_X_put) = true := by decide +kernel
set_option maxRecDepth 100000 in
theorem ok_X_put : jokM M_X_put := ⟨by decide +kernel, jwat_in (i := 290) (by decide +kernel), jwat_in (i := 71) (by decide +kernel), ⟨by decide +kernel, by decide +kernel, by decide +kernel⟩, by rw [if_neg (by decide)]; exact ⟨jwat_in (i := 288) (by decide +kernel), jwat_in (i := 289) (by decide +kernel)⟩⟩
def M_X_isSquare : jM := ((⟨"ChessLedger", "isSquare", "(I)Z"⟩, prog_1_method_24_code, 1, (some .boolean)), [some (.iload_n 0, 1, []), some (.ifCond .lt (13), 3, []), none, none, some (.iload_n 0, 1, []), some (.bipush (64), 2, []), none, some (.if_icmp .ge (7), 3, []), none, none, some (.iconst (1), 1, []), some (.goto (4), 3, []), none, none, some (.iconst (0), 1, []), some (.ireturn, 1, [])], (0, 0, 0, 1), [])
set_option maxRecDepth 100000 in
theorem st_X_isSquare : jokT2 M_X_isSquare 0 (jt M_X_isSquare) = true := by decide +kernel
set_option maxRecDepth 100000 in
theorem ok_X_isSquare : jokM M_X_isSquare := ⟨by decide +kernel, jwat_in (i := 293) (by decide +kernel), jwat_in (i := 71) (by decide +kernel), ⟨by decide +kernel, by decide +kernel, by decide +kernel⟩, by rw [if_pos (show jk M_X_isSquare = 0 from rfl)]; exact jwat_in (i := 292) (by decide +kernel)⟩
def M_X_set : jM := ((⟨"ChessLedger", "set", "(IIII)I"⟩, prog_1_method_4_code, 5, (some .int)), [some (.iload_n 1, 1, []), some (.invokestatic 82, 3, [8, 298, 0]), none, none, some (.ifCond .eq (13), 3, []), none, none, some (.iload_n 2, 1, []), some (.ifCond .lt (9), 3, []), none, none, some (.iload_n 2, 1, []), some (.bipush (15), 2, []), none, some (.if_icmp .le (5), 3, []), none, none, some (.iconst (0), 1, []), some (.ireturn, 1, []), some (.iload_n 3, 1, []), some (.iconst (-1), 1, []), some (.if_icmp .lt (22), 3, []), none, none, some (.iload_n 3, 1, []), some (.bipush (7), 2, []), none, some (.if_icmp .gt (16), 3, []), none, none, some (.iload 4, 2, []), none, some (.ifCond .lt (11), 3, []), none, none, some (.iload 4, 2, []), none, some (.sipush (150), 3, []), none, none, some (.if_icmp .le (5), 3, []), none, none, some (.iconst (0), 1, []), some (.ireturn, 1, []), some (.aload_n 0, 1, []), some (.getfield 55, 3, [0, 7, 244, 0]), none, none, some (.aload_n 0, 1, []), some (.getfield 20, 3, [0, 1, 238, 0]), none, none, some (.invokevirtual 85, 3, [9, 301, 0]), none, none, some (.aload_n 0, 1, []), some (.getfield 55, 3, [0, 7, 244, 0]), none, none, some (.iload_n 1, 1, []), some (.iload_n 2, 1, []), some (.iload_n 3, 1, []), some (.iload 4, 2, []), none, some (.invokevirtual 89, 3, [3, 308, 0]), none, none, some (.aload_n 0, 1, []), some (.invokevirtual 93, 3, [10, 309, 0]), none, none, some (.ifCond .eq (7), 3, []), none, none, some (.iconst (1), 1, []), some (.goto (4), 3, []), none, none, some (.iconst (0), 1, []), some (.ireturn, 1, [])], (6, 148, 1, 4), [])
set_option maxRecDepth 100000 in
theorem st_X_set : jokT2 M_X_set 0 (jt M_X_set) = true := by decide +kernel
set_option maxRecDepth 100000 in
theorem ok_X_set : jokM M_X_set := ⟨by decide +kernel, jwat_in (i := 297) (by decide +kernel), jwat_in (i := 71) (by decide +kernel), ⟨by decide +kernel, by decide +kernel, by decide +kernel⟩, by rw [if_neg (by decide)]; exact ⟨jwat_in (i := 295) (by decide +kernel), jwat_in (i := 296) (by decide +kernel)⟩⟩
def M_X_isSide : jM := ((⟨"ChessLedger", "isSide", "(I)Z"⟩, prog_1_method_25_code, 1, (some .boolean)), [some (.iload_n 0, 1, []), some (.ifCond .eq (8), 3, []), none, none, some (.iload_n 0, 1, []), some (.iconst (1), 1, []), some (.if_icmp .ne (7), 3, []), none, none, some (.iconst (1), 1, []), some (.goto (4), 3, []), none, none, some (.iconst (0), 1, []), some (.ireturn, 1, [])], (0, 0, 0, 1), [])
set_option maxRecDepth 100000 in
theorem st_X_isSide : jokT2 M_X_isSide 0 (jt M_X_isSide) = true := by decide +kernel
set_option maxRecDepth 100000 in
theorem ok_X_isSide : jokM M_X_isSide := ⟨by decide +kernel, jwat_in (i := 300) (by decide +kernel), jwat_in (i := 71) (by decide +kernel), ⟨by decide +kernel, by decide +kernel, by decide +kernel⟩, by rw [if_pos (show jk M_X_isSide = 0 from rfl)]; exact jwat_in (i := 299) (by decide +kernel)⟩
def M_Bd_copyFrom : jM := ((⟨"ChessLedger$Board", "copyFrom", "(LChessLedger$Board;)V"⟩, prog_2_method_4_code, 2, none), [some (.aload_n 1, 1, []), some (.getfield 9, 3, [1, 0, 108, 0]), none, none, some (.iconst (0), 1, []), some (.aload_n 0, 1, []), some (.getfield 9, 3, [1, 0, 108, 0]), none, none, some (.iconst (0), 1, []), some (.bipush (64), 2, []), none, some (.invokestatic 38, 3, [305, 307, 306, 80]), none, none, some (.aload_n 0, 1, []), some (.aload_n 1, 1, []), some (.getfield 15, 3, [1, 1, 115, 0]), none, none, some (.aload_n 1, 1, []), some (.getfield 19, 3, [1, 2, 122, 0]), none, none, some (.aload_n 1, 1, []), some (.getfield 22, 3, [1, 3, 128, 0]), none, none, some (.aload_n 1, 1, []), some (.getfield 25, 3, [1, 4, 132, 0]), none, none, some (.invokevirtual 34, 3, [3, 279, 0]), none, none, some (.return_, 1, [])], (1, 40, 1, 1), [])
set_option maxRecDepth 100000 in
theorem st_Bd_copyFrom : jokT2 M_Bd_copyFrom 0 (jt M_Bd_copyFrom) = true := by decide +kernel
set_option maxRecDepth 100000 in
theorem ok_Bd_copyFrom : jokM M_Bd_copyFrom := ⟨by decide +kernel, jwat_in (i := 304) (by decide +kernel), jwat_in (i := 73) (by decide +kernel), ⟨by decide +kernel, by decide +kernel, by decide +kernel⟩, by rw [if_neg (by decide)]; exact ⟨jwat_in (i := 302) (by decide +kernel), jwat_in (i := 303) (by decide +kernel)⟩⟩
def M_X_adoptDraft : jM := ((⟨"ChessLedger", "adoptDraft", "()Z"⟩, prog_1_method_22_code, 1, (some .boolean)), [some (.aload_n 0, 1, []), some (.getfield 55, 3, [0, 7, 244, 0]), none, none, some (.invokevirtual 181, 3, [11, 313, 0]), none, none, some (.ifCond .ne (5), 3, []), none, none, some (.iconst (0), 1, []), some (.ireturn, 1, []), some (.aload_n 0, 1, []), some (.getfield 20, 3, [0, 1, 238, 0]), none, none, some (.aload_n 0, 1, []), some (.getfield 55, 3, [0, 7, 244, 0]), none, none, some (.invokevirtual 85, 3, [9, 301, 0]), none, none, some (.aload_n 0, 1, []), some (.getfield 10, 3, [0, 0, 237, 0]), none, none, some (.invokevirtual 71, 3, [4, 283, 0]), none, none, some (.aload_n 0, 1, []), some (.getfield 24, 3, [0, 2, 239, 0]), none, none, some (.iconst (0), 1, []), some (.aload_n 0, 1, []), some (.getfield 20, 3, [0, 1, 238, 0]), none, none, some (.aload_n 0, 1, []), some (.getfield 20, 3, [0, 1, 238, 0]), none, none, some (.invokevirtual 128, 3, [32, 401, 0]), none, none, some (.invokevirtual 132, 3, [36, 417, 0]), none, none, some (.aload_n 0, 1, []), some (.iconst (1), 1, []), some (.putfield 62, 3, [0, 9, 246, 0]), none, none, some (.iconst (1), 1, []), some (.ireturn, 1, [])], (5, 128, 1, 0), [])
set_option maxRecDepth 100000 in
theorem st_X_adoptDraft : jokT2 M_X_adoptDraft 0 (jt M_X_adoptDraft) = true := by decide +kernel
set_option maxRecDepth 100000 in
theorem ok_X_adoptDraft : jokM M_X_adoptDraft := ⟨by decide +kernel, jwat_in (i := 312) (by decide +kernel), jwat_in (i := 71) (by decide +kernel), ⟨by decide +kernel, by decide +kernel, by decide +kernel⟩, by rw [if_neg (by decide)]; exact ⟨jwat_in (i := 311) (by decide +kernel), jwat_in (i := 0) (by decide +kernel)⟩⟩
def M_Bd_isGood : jM := ((⟨"ChessLedger$Board", "isGood", "()Z"⟩, prog_2_method_17_code, 1, (some .boolean)), [some (.aload_n 0, 1, []), some (.invokevirtual 130, 3, [12, 317, 0]), none, none, some (.ifCond .eq (35), 3, []), none, none, some (.aload_n 0, 1, []), some (.invokevirtual 134, 3, [15, 327, 0]), none, none, some (.ifCond .eq (28), 3, []), none, none, some (.aload_n 0, 1, []), some (.invokevirtual 137, 3, [21, 346, 0]), none, none, some (.ifCond .eq (21), 3, []), none, none, some (.aload_n 0, 1, []), some (.aload_n 0, 1, []), some (.getfield 15, 3, [1, 1, 115, 0]), none, none, some (.invokestatic 95, 3, [22, 350, 1]), none, none, some (.invokevirtual 140, 3, [23, 355, 0]), none, none, some (.ifCond .ne (7), 3, []), none, none, some (.iconst (1), 1, []), some (.goto (4), 3, []), none, none, some (.iconst (0), 1, []), some (.ireturn, 1, [])], (4, 97, 1, 0), [])
set_option maxRecDepth 100000 in
theorem st_Bd_isGood : jokT2 M_Bd_isGood 0 (jt M_Bd_isGood) = true := by decide +kernel
set_option maxRecDepth 100000 in
theorem ok_Bd_isGood : jokM M_Bd_isGood := ⟨by decide +kernel, jwat_in (i := 316) (by decide +kernel), jwat_in (i := 73) (by decide +kernel), ⟨by decide +kernel, by decide +kernel, by decide +kernel⟩, by rw [if_neg (by decide)]; exact ⟨jwat_in (i := 314) (by decide +kernel), jwat_in (i := 315) (by decide +kernel)⟩⟩
def M_Bd_hasKingsAndPawnsRight : jM := ((⟨"ChessLedger$Board", "hasKingsAndPawnsRight", "()Z"⟩, prog_2_method_18_code, 6, (some .boolean)), [some (.iconst (0), 1, []), some (.istore_n 1, 1, []), some (.iconst (0), 1, []), some (.istore_n 2, 1, []), some (.iconst (0), 1, []), some (.istore_n 3, 1, []), some (.iload_n 3, 1, []), some (.bipush (64), 2, []), none, some (.if_icmp .ge (83), 3, []), none, none, some (.aload_n 0, 1, []), some (.getfield 9, 3, [1, 0, 108, 0]), none, none, some (.iload_n 3, 1, []), some (.iaload, 1, []), some (.istore 4, 2, []), none, some (.iload_n 3, 1, []), some (.iconst (3), 1, []), some (.ishr, 1, []), some (.istore 5, 2, []), none, some (.iload 4, 2, []), none, some (.invokestatic 75, 3, [13, 321, 1]), none, none, some (.iconst (1), 1, []), some (.if_icmp .ne (17), 3, []), none, none, some (.iload 5, 2, []), none, some (.ifCond .eq (10), 3, []), none, none, some (.iload 5, 2, []), none, some (.bipush (7), 2, []), none, some (.if_icmp .ne (5), 3, []), none, none, some (.iconst (0), 1, []), some (.ireturn, 1, []), some (.iload_n 1, 1, []), some (.iload 4, 2, []), none, some (.bipush (6), 2, []), none, some (.iconst (0), 1, []), some (.invokestatic 66, 3, [14, 324, 1]), none, none, some (.if_icmp .ne (7), 3, []), none, none, some (.iconst (1), 1, []), some (.goto (4), 3, []), none, none, some (.iconst (0), 1, []), some (.iadd, 1, []), some (.istore_n 1, 1, []), some (.iload_n 2, 1, []), some (.iload 4, 2, []), none, some (.bipush (6), 2, []), none, some (.iconst (1), 1, []), some (.invokestatic 66, 3, [14, 324, 1]), none, none, some (.if_icmp .ne (7), 3, []), none, none, some (.iconst (1), 1, []), some (.goto (4), 3, []), none, none, some (.iconst (0), 1, []), some (.iadd, 1, []), some (.istore_n 2, 1, []), some (.iinc 3 (1), 3, []), none, none, some (.goto (-83), 3, []), none, none, some (.iload_n 1, 1, []), some (.iconst (1), 1, []), some (.if_icmp .ne (12), 3, []), none, none, some (.iload_n 2, 1, []), some (.iconst (1), 1, []), some (.if_icmp .ne (7), 3, []), none, none, some (.iconst (1), 1, []), some (.goto (4), 3, []), none, none, some (.iconst (0), 1, []), some (.ireturn, 1, [])], (1, 21, 1, 0), [])
set_option maxRecDepth 100000 in
theorem st_Bd_hasKingsAndPawnsRight : jokT2 M_Bd_hasKingsAndPawnsRight 0 (jt M_Bd_hasKingsAndPawnsRight) = true := by decide +kernel
set_option maxRecDepth 100000 in
theorem ok_Bd_hasKingsAndPawnsRight : jokM M_Bd_hasKingsAndPawnsRight := ⟨by decide +kernel, jwat_in (i := 320) (by decide +kernel), jwat_in (i := 73) (by decide +kernel), ⟨by decide +kernel, by decide +kernel, by decide +kernel⟩, by rw [if_neg (by decide)]; exact ⟨jwat_in (i := 319) (by decide +kernel), jwat_in (i := 1) (by decide +kernel)⟩⟩
def M_X_kindOf : jM := ((⟨"ChessLedger", "kindOf", "(I)I"⟩, prog_1_method_28_code, 1, (some .int)), [some (.iload_n 0, 1, []), some (.bipush (6), 2, []), none, some (.if_icmp .le (10), 3, []), none, none, some (.iload_n 0, 1, []), some (.bipush (6), 2, []), none, some (.isub, 1, []), some (.goto (4), 3, []), none, none, some (.iload_n 0, 1, []), some (.ireturn, 1, [])], (0, 0, 0, 1), [])
set_option maxRecDepth 100000 in
theorem st_X_kindOf : jokT2 M_X_kindOf 0 (jt M_X_kindOf) = true := by decide +kernel
set_option maxRecDepth 100000 in
theorem ok_X_kindOf : jokM M_X_kindOf := ⟨by decide +kernel, jwat_in (i := 323) (by decide +kernel), jwat_in (i := 71) (by decide +kernel), ⟨by decide +kernel, by decide +kernel, by decide +kernel⟩, by rw [if_pos (show jk M_X_kindOf = 0 from rfl)]; exact jwat_in (i := 322) (by decide +kernel)⟩
def M_X_pieceOf : jM := ((⟨"ChessLedger", "pieceOf", "(II)I"⟩, prog_1_method_27_code, 2, (some .int)), [some (.iload_n 1, 1, []), some (.ifCond .ne (7), 3, []), none, none, some (.iload_n 0, 1, []), some (.goto (7), 3, []), none, none, some (.iload_n 0, 1, []), some (.bipush (6), 2, []), none, some (.iadd, 1, []), some (.ireturn, 1, [])], (0, 0, 0, 2), [])
set_option maxRecDepth 100000 in
theorem st_X_pieceOf : jokT2 M_X_pieceOf 0 (jt M_X_pieceOf) = true := by decide +kernel
set_option maxRecDepth 100000 in
theorem ok_X_pieceOf : jokM M_X_pieceOf := ⟨by decide +kernel, jwat_in (i := 326) (by decide +kernel), jwat_in (i := 71) (by decide +kernel), ⟨by decide +kernel, by decide +kernel, by decide +kernel⟩, by rw [if_pos (show jk M_X_pieceOf = 0 from rfl)]; exact jwat_in (i := 325) (by decide +kernel)⟩
def M_Bd_hasRightsRight : jM := ((⟨"ChessLedger$Board", "hasRightsRight", "()Z"⟩, prog_2_method_19_code, 4, (some .boolean)), [some (.iconst (0), 1, []), some (.istore_n 1, 1, []), some (.iload_n 1, 1, []), some (.iconst (1), 1, []), some (.if_icmp .gt (83), 3, []), none, none, some (.iconst (0), 1, []), some (.istore_n 2, 1, []), some (.iload_n 2, 1, []), some (.iconst (2), 1, []), some (.if_icmp .ge (70), 3, []), none, none, some (.aload_n 0, 1, []), some (.getfield 9, 3, [1, 0, 108, 0]), none, none, some (.iload_n 1, 1, []), some (.invokestatic 121, 3, [16, 331, 1]), none, none, some (.iaload, 1, []), some (.bipush (6), 2, []), none, some (.iload_n 1, 1, []), some (.invokestatic 66, 3, [14, 324, 1]), none, none, some (.if_icmp .ne (25), 3, []), none, none, some (.aload_n 0, 1, []), some (.getfield 9, 3, [1, 0, 108, 0]), none, none, some (.iload_n 1, 1, []), some (.iload_n 2, 1, []), some (.invokestatic 124, 3, [19, 340, 1]), none, none, some (.iaload, 1, []), some (.iconst (4), 1, []), some (.iload_n 1, 1, []), some (.invokestatic 66, 3, [14, 324, 1]), none, none, some (.if_icmp .ne (7), 3, []), none, none, some (.iconst (1), 1, []), some (.goto (4), 3, []), none, none, some (.iconst (0), 1, []), some (.istore_n 3, 1, []), some (.aload_n 0, 1, []), some (.getfield 19, 3, [1, 2, 122, 0]), none, none, some (.iload_n 1, 1, []), some (.iload_n 2, 1, []), some (.invokestatic 118, 3, [20, 343, 1]), none, none, some (.iand, 1, []), some (.ifCond .eq (9), 3, []), none, none, some (.iload_n 3, 1, []), some (.ifCond .ne (5), 3, []), none, none, some (.iconst (0), 1, []), some (.ireturn, 1, []), some (.iinc 2 (1), 3, []), none, none, some (.goto (-69), 3, []), none, none, some (.iinc 1 (1), 3, []), none, none, some (.goto (-82), 3, []), none, none, some (.iconst (1), 1, []), some (.ireturn, 1, [])], (2, 42, 1, 0), [])
set_option maxRecDepth 100000 in
theorem st_Bd_hasRightsRight : jokT2 M_Bd_hasRightsRight 0 (jt M_Bd_hasRightsRight) = true := by decide +kernel
set_option maxRecDepth 100000 in
theorem ok_Bd_hasRightsRight : jokM M_Bd_hasRightsRight := ⟨by decide +kernel, jwat_in (i := 330) (by decide +kernel), jwat_in (i := 73) (by decide +kernel), ⟨by decide +kernel, by decide +kernel, by decide +kernel⟩, by rw [if_neg (by decide)]; exact ⟨jwat_in (i := 329) (by decide +kernel), jwat_in (i := 2) (by decide +kernel)⟩⟩
def M_X_kingHome : jM := ((⟨"ChessLedger", "kingHome", "(I)I"⟩, prog_1_method_35_code, 1, (some .int)), [some (.iconst (4), 1, []), some (.iload_n 0, 1, []), some (.iconst (0), 1, []), some (.invokestatic 184, 3, [17, 334, 0]), none, none, some (.invokestatic 188, 3, [18, 337, 0]), none, none, some (.ireturn, 1, [])], (1, 21, 0, 1), [])
set_option maxRecDepth 100000 in
theorem st_X_kingHome : jokT2 M_X_kingHome 0 (jt M_X_kingHome) = true := by decide +kernel
set_option maxRecDepth 100000 in
theorem ok_X_kingHome : jokM M_X_kingHome := ⟨by decide +kernel, jwat_in (i := 333) (by decide +kernel), jwat_in (i := 71) (by decide +kernel), ⟨by decide +kernel, by decide +kernel, by decide +kernel⟩, by rw [if_pos (show jk M_X_kingHome = 0 from rfl)]; exact jwat_in (i := 332) (by decide +kernel)⟩
def M_X_rankFor : jM := ((⟨"ChessLedger", "rankFor", "(II)I"⟩, prog_1_method_30_code, 2, (some .int)), [some (.iload_n 0, 1, []), some (.ifCond .ne (7), 3, []), none, none, some (.iload_n 1, 1, []), some (.goto (7), 3, []), none, none, some (.bipush (7), 2, []), none, some (.iload_n 1, 1, []), some (.isub, 1, []), some (.ireturn, 1, [])], (0, 0, 0, 2), [])
set_option maxRecDepth 100000 in
theorem st_X_rankFor : jokT2 M_X_rankFor 0 (jt M_X_rankFor) = true := by decide +kernel
set_option maxRecDepth 100000 in
theorem ok_X_rankFor : jokM M_X_rankFor := ⟨by decide +kernel, jwat_in (i := 336) (by decide +kernel), jwat_in (i := 71) (by decide +kernel), ⟨by decide +kernel, by decide +kernel, by decide +kernel⟩, by rw [if_pos (show jk M_X_rankFor = 0 from rfl)]; exact jwat_in (i := 335) (by decide +kernel)⟩
def M_X_squareAt : jM := ((⟨"ChessLedger", "squareAt", "(II)I"⟩, prog_1_method_32_code, 2, (some .int)), [some (.bipush (8), 2, []), none, some (.iload_n 1, 1, []), some (.imul, 1, []), some (.iload_n 0, 1, []), some (.iadd, 1, []), some (.ireturn, 1, [])], (0, 0, 0, 2), [])
set_option maxRecDepth 100000 in
theorem st_X_squareAt : jokT2 M_X_squareAt 0 (jt M_X_squareAt) = true := by decide +kernel
set_option maxRecDepth 100000 in
theorem ok_X_squareAt : jokM M_X_squareAt := ⟨by decide +kernel, jwat_in (i := 339) (by decide +kernel), jwat_in (i := 71) (by decide +kernel), ⟨by decide +kernel, by decide +kernel, by decide +kernel⟩, by rw [if_pos (show jk M_X_squareAt = 0 from rfl)]; exact jwat_in (i := 338) (by decide +kernel)⟩
def M_X_rookHome : jM := ((⟨"ChessLedger", "rookHome", "(II)I"⟩, prog_1_method_34_code, 2, (some .int)), [some (.iload_n 1, 1, []), some (.ifCond .ne (8), 3, []), none, none, some (.bipush (7), 2, []), none, some (.goto (4), 3, []), none, none, some (.iconst (0), 1, []), some (.iload_n 0, 1, []), some (.iconst (0), 1, []), some (.invokestatic 184, 3, [17, 334, 0]), none, none, some (.invokestatic 188, 3, [18, 337, 0]), none, none, some (.ireturn, 1, [])], (1, 21, 0, 2), [])
set_option maxRecDepth 100000 in
theorem st_X_rookHome : jokT2 M_X_rookHome 0 (jt M_X_rookHome) = true := by decide +kernel
set_option maxRecDepth 100000 in
theorem ok_X_rookHome : jokM M_X_rookHome := ⟨by decide +kernel, jwat_in (i := 342) (by decide +kernel), jwat_in (i := 71) (by decide +kernel), ⟨by decide +kernel, by decide +kernel, by decide +kernel⟩, by rw [if_pos (show jk M_X_rookHome = 0 from rfl)]; exact jwat_in (i := 341) (by decide +kernel)⟩
def M_X_rightOf : jM := ((⟨"ChessLedger", "rightOf", "(II)I"⟩, prog_1_method_36_code, 2, (some .int)), [some (.iconst (1), 1, []), some (.iconst (2), 1, []), some (.iload_n 0, 1, []), some (.imul, 1, []), some (.iload_n 1, 1, []), some (.iadd, 1, []), some (.ishl, 1, []), some (.ireturn, 1, [])], (0, 0, 0, 2), [])
set_option maxRecDepth 100000 in
theorem st_X_rightOf : jokT2 M_X_rightOf 0 (jt M_X_rightOf) = true := by decide +kernel
set_option maxRecDepth 100000 in
theorem ok_X_rightOf : jokM M_X_rightOf := ⟨by decide +kernel, jwat_in (i := 345) (by decide +kernel), jwat_in (i := 71) (by decide +kernel), ⟨by decide +kernel, by decide +kernel, by decide +kernel⟩, by rw [if_pos (show jk M_X_rightOf = 0 from rfl)]; exact jwat_in (i := 344) (by decide +kernel)⟩
def M_Bd_hasFileRight : jM := ((⟨"ChessLedger$Board", "hasFileRight", "()Z"⟩, prog_2_method_20_code, 2, (some .boolean)), [some (.aload_n 0, 1, []), some (.getfield 22, 3, [1, 3, 128, 0]), none, none, some (.iconst (-1), 1, []), some (.if_icmp .ne (5), 3, []), none, none, some (.iconst (1), 1, []), some (.ireturn, 1, []), some (.aload_n 0, 1, []), some (.getfield 15, 3, [1, 1, 115, 0]), none, none, some (.invokestatic 95, 3, [22, 350, 1]), none, none, some (.istore_n 1, 1, []), some (.aload_n 0, 1, []), some (.getfield 9, 3, [1, 0, 108, 0]), none, none, some (.aload_n 0, 1, []), some (.getfield 22, 3, [1, 3, 128, 0]), none, none, some (.iload_n 1, 1, []), some (.iconst (1), 1, []), some (.invokestatic 105, 3, [17, 353, 1]), none, none, some (.invokestatic 108, 3, [18, 354, 1]), none, none, some (.iaload, 1, []), some (.ifCond .ne (52), 3, []), none, none, some (.aload_n 0, 1, []), some (.getfield 9, 3, [1, 0, 108, 0]), none, none, some (.aload_n 0, 1, []), some (.getfield 22, 3, [1, 3, 128, 0]), none, none, some (.iload_n 1, 1, []), some (.iconst (2), 1, []), some (.invokestatic 105, 3, [17, 353, 1]), none, none, some (.invokestatic 108, 3, [18, 354, 1]), none, none, some (.iaload, 1, []), some (.ifCond .ne (32), 3, []), none, none, some (.aload_n 0, 1, []), some (.getfield 9, 3, [1, 0, 108, 0]), none, none, some (.aload_n 0, 1, []), some (.getfield 22, 3, [1, 3, 128, 0]), none, none, some (.iload_n 1, 1, []), some (.iconst (3), 1, []), some (.invokestatic 105, 3, [17, 353, 1]), none, none, some (.invokestatic 108, 3, [18, 354, 1]), none, none, some (.iaload, 1, []), some (.iconst (1), 1, []), some (.iload_n 1, 1, []), some (.invokestatic 66, 3, [14, 324, 1]), none, none, some (.if_icmp .ne (7), 3, []), none, none, some (.iconst (1), 1, []), some (.goto (4), 3, []), none, none, some (.iconst (0), 1, []), some (.ireturn, 1, [])], (1, 21, 1, 0), [])
set_option maxRecDepth 100000 in
theorem st_Bd_hasFileRight : jokT2 M_Bd_hasFileRight 0 (jt M_Bd_hasFileRight) = true := by decide +kernel
set_option maxRecDepth 100000 in
theorem ok_Bd_hasFileRight : jokM M_Bd_hasFileRight := ⟨by decide +kernel, jwat_in (i := 349) (by decide +kernel), jwat_in (i := 73) (by decide +kernel), ⟨by decide +kernel, by decide +kernel, by decide +kernel⟩, by rw [if_neg (by decide)]; exact ⟨jwat_in (i := 348) (by decide +kernel), jwat_in (i := 3) (by decide +kernel)⟩⟩
def M_X_otherSide : jM := ((⟨"ChessLedger", "otherSide", "(I)I"⟩, prog_1_method_26_code, 1, (some .int)), [some (.iconst (1), 1, []), some (.iload_n 0, 1, []), some (.isub, 1, []), some (.ireturn, 1, [])], (0, 0, 0, 1), [])
set_option maxRecDepth 100000 in
theorem st_X_otherSide : jokT2 M_X_otherSide 0 (jt M_X_otherSide) = true := by decide +kernel
set_option maxRecDepth 100000 in
theorem ok_X_otherSide : jokM M_X_otherSide := ⟨by decide +kernel, jwat_in (i := 352) (by decide +kernel), jwat_in (i := 71) (by decide +kernel), ⟨by decide +kernel, by decide +kernel, by decide +kernel⟩, by rw [if_pos (show jk M_X_otherSide = 0 from rfl)]; exact jwat_in (i := 351) (by decide +kernel)⟩
def M_Bd_isKingAttacked : jM := ((⟨"ChessLedger$Board", "isKingAttacked", "(I)Z"⟩, prog_2_method_10_code, 3, (some .boolean)), [some (.aload_n 0, 1, []), some (.iload_n 1, 1, []), some (.invokevirtual 92, 3, [24, 359, 0]), none, none, some (.istore_n 2, 1, []), some (.iload_n 2, 1, []), some (.iconst (-1), 1, []), some (.if_icmp .eq (21), 3, []), none, none, some (.aload_n 0, 1, []), some (.iload_n 2, 1, []), some (.iload_n 1, 1, []), some (.invokestatic 95, 3, [22, 350, 1]), none, none, some (.invokevirtual 98, 3, [25, 363, 0]), none, none, some (.lconst 0, 1, []), some (.lcmp, 1, []), some (.ifCond .eq (7), 3, []), none, none, some (.iconst (1), 1, []), some (.goto (4), 3, []), none, none, some (.iconst (0), 1, []), some (.ireturn, 1, [])], (3, 75, 1, 1), [])
set_option maxRecDepth 100000 in
theorem st_Bd_isKingAttacked : jokT2 M_Bd_isKingAttacked 0 (jt M_Bd_isKingAttacked) = true := by decide +kernel
set_option maxRecDepth 100000 in
theorem ok_Bd_isKingAttacked : jokM M_Bd_isKingAttacked := ⟨by decide +kernel, jwat_in (i := 358) (by decide +kernel), jwat_in (i := 73) (by decide +kernel), ⟨by decide +kernel, by decide +kernel, by decide +kernel⟩, by rw [if_neg (by decide)]; exact ⟨jwat_in (i := 356) (by decide +kernel), jwat_in (i := 357) (by decide +kernel)⟩⟩
def M_Bd_kingSquare : jM := ((⟨"ChessLedger$Board", "kingSquare", "(I)I"⟩, prog_2_method_9_code, 4, (some .int)), [some (.bipush (6), 2, []), none, some (.iload_n 1, 1, []), some (.invokestatic 66, 3, [14, 324, 1]), none, none, some (.istore_n 2, 1, []), some (.iconst (0), 1, []), some (.istore_n 3, 1, []), some (.iload_n 3, 1, []), some (.bipush (64), 2, []), none, some (.if_icmp .ge (21), 3, []), none, none, some (.aload_n 0, 1, []), some (.getfield 9, 3, [1, 0, 108, 0]), none, none, some (.iload_n 3, 1, []), some (.iaload, 1, []), some (.iload_n 2, 1, []), some (.if_icmp .ne (5), 3, []), none, none, some (.iload_n 3, 1, []), some (.ireturn, 1, []), some (.iinc 3 (1), 3, []), none, none, some (.goto (-21), 3, []), none, none, some (.iconst (-1), 1, []), some (.ireturn, 1, [])], (1, 21, 1, 1), [])
set_option maxRecDepth 100000 in
theorem st_Bd_kingSquare : jokT2 M_Bd_kingSquare 0 (jt M_Bd_kingSquare) = true := by decide +kernel
set_option maxRecDepth 100000 in
theorem ok_Bd_kingSquare : jokM M_Bd_kingSquare := ⟨by decide +kernel, jwat_in (i := 362) (by decide +kernel), jwat_in (i := 73) (by decide +kernel), ⟨by decide +kernel, by decide +kernel, by decide +kernel⟩, by rw [if_neg (by decide)]; exact ⟨jwat_in (i := 360) (by decide +kernel), jwat_in (i := 361) (by decide +kernel)⟩⟩
def M_Bd_attacksOn : jM := ((⟨"ChessLedger$Board", "attacksOn", "(II)J"⟩, prog_2_method_6_code, 8, (some .long)), [some (.lconst 0, 1, []), some (.lstore_n 3, 1, []), some (.iconst (0), 1, []), some (.istore 5, 2, []), none, some (.iload 5, 2, []), none, some (.bipush (8), 2, []), none, some (.if_icmp .ge (103), 3, []), none, none, some (.aload_n 0, 1, []), some (.iload_n 1, 1, []), some (.iload 5, 2, []), none, some (.invokevirtual 44, 3, [26, 367, 0]), none, none, some (.istore 6, 2, []), none, some (.iload 6, 2, []), none, some (.iconst (-1), 1, []), some (.if_icmp .eq (36), 3, []), none, none, some (.aload_n 0, 1, []), some (.getfield 9, 3, [1, 0, 108, 0]), none, none, some (.iload 6, 2, []), none, some (.iaload, 1, []), some (.invokestatic 48, 3, [28, 378, 1]), none, none, some (.iload_n 2, 1, []), some (.if_icmp .ne (22), 3, []), none, none, some (.aload_n 0, 1, []), some (.iload 6, 2, []), none, some (.iload_n 1, 1, []), some (.iload 5, 2, []), none, some (.invokevirtual 52, 3, [29, 381, 0]), none, none, some (.ifCond .eq (10), 3, []), none, none, some (.lload_n 3, 1, []), some (.lconst 1, 1, []), some (.iload 6, 2, []), none, some (.lshl, 1, []), some (.lor, 1, []), some (.lstore_n 3, 1, []), some (.iload_n 1, 1, []), some (.getstatic 56, 3, [2, 397, 1]), none, none, some (.iload 5, 2, []), none, some (.iaload, 1, []), some (.getstatic 59, 3, [3, 399, 1]), none, none, some (.iload 5, 2, []), none, some (.iaload, 1, []), some (.invokestatic 62, 3, [27, 375, 1]), none, none, some (.istore 7, 2, []), none, some (.iload 7, 2, []), none, some (.iconst (-1), 1, []), some (.if_icmp .eq (25), 3, []), none, none, some (.aload_n 0, 1, []), some (.getfield 9, 3, [1, 0, 108, 0]), none, none, some (.iload 7, 2, []), none, some (.iaload, 1, []), some (.iconst (2), 1, []), some (.iload_n 2, 1, []), some (.invokestatic 66, 3, [14, 324, 1]), none, none, some (.if_icmp .ne (10), 3, []), none, none, some (.lload_n 3, 1, []), some (.lconst 1, 1, []), some (.iload 7, 2, []), none, some (.lshl, 1, []), some (.lor, 1, []), some (.lstore_n 3, 1, []), some (.iinc 5 (1), 3, []), none, none, some (.goto (-104), 3, []), none, none, some (.lload_n 3, 1, []), some (.lreturn, 1, [])], (2, 48, 1, 2), [])
set_option maxRecDepth 100000 in
theorem st_Bd_attacksOn : jokT2 M_Bd_attacksOn 0 (jt M_Bd_attacksOn) = true := by decide +kernel
set_option maxRecDepth 100000 in
theorem ok_Bd_attacksOn : jokM M_Bd_attacksOn := ⟨by decide +kernel, jwat_in (i := 366) (by decide +kernel), jwat_in (i := 73) (by decide +kernel), ⟨by decide +kernel, by decide +kernel, by decide +kernel⟩, by rw [if_neg (by decide)]; exact ⟨jwat_in (i := 364) (by decide +kernel), jwat_in (i := 365) (by decide +kernel)⟩⟩
def M_Bd_firstAlong : jM := ((⟨"ChessLedger$Board", "firstAlong", "(II)I"⟩, prog_2_method_7_code, 5, (some .int)), [some (.iload_n 1, 1, []), some (.getstatic 69, 3, [0, 371, 1]), none, none, some (.iload_n 2, 1, []), some (.iaload, 1, []), some (.getstatic 72, 3, [1, 373, 1]), none, none, some (.iload_n 2, 1, []), some (.iaload, 1, []), some (.invokestatic 62, 3, [27, 375, 1]), none, none, some (.istore_n 3, 1, []), some (.iconst (1), 1, []), some (.istore 4, 2, []), none, some (.iload 4, 2, []), none, some (.bipush (8), 2, []), none, some (.if_icmp .ge (40), 3, []), none, none, some (.iload_n 3, 1, []), some (.iconst (-1), 1, []), some (.if_icmp .eq (35), 3, []), none, none, some (.aload_n 0, 1, []), some (.getfield 9, 3, [1, 0, 108, 0]), none, none, some (.iload_n 3, 1, []), some (.iaload, 1, []), some (.ifCond .eq (5), 3, []), none, none, some (.iload_n 3, 1, []), some (.ireturn, 1, []), some (.iload_n 3, 1, []), some (.getstatic 69, 3, [0, 371, 1]), none, none, some (.iload_n 2, 1, []), some (.iaload, 1, []), some (.getstatic 72, 3, [1, 373, 1]), none, none, some (.iload_n 2, 1, []), some (.iaload, 1, []), some (.invokestatic 62, 3, [27, 375, 1]), none, none, some (.istore_n 3, 1, []), some (.iinc 4 (1), 3, []), none, none, some (.goto (-41), 3, []), none, none, some (.iconst (-1), 1, []), some (.ireturn, 1, [])], (1, 24, 1, 2), [])
set_option maxRecDepth 100000 in
theorem st_Bd_firstAlong : jokT2 M_Bd_firstAlong 0 (jt M_Bd_firstAlong) = true := by decide +kernel
set_option maxRecDepth 100000 in
theorem ok_Bd_firstAlong : jokM M_Bd_firstAlong := ⟨by decide +kernel, jwat_in (i := 370) (by decide +kernel), jwat_in (i := 73) (by decide +kernel), ⟨by decide +kernel, by decide +kernel, by decide +kernel⟩, by rw [if_neg (by decide)]; exact ⟨jwat_in (i := 369) (by decide +kernel), jwat_in (i := 4) (by decide +kernel)⟩⟩
def M_X_shifted : jM := ((⟨"ChessLedger", "shifted", "(III)I"⟩, prog_1_method_33_code, 5, (some .int)), [some (.iload_n 0, 1, []), some (.bipush (7), 2, []), none, some (.iand, 1, []), some (.iload_n 1, 1, []), some (.iadd, 1, []), some (.istore_n 3, 1, []), some (.iload_n 0, 1, []), some (.iconst (3), 1, []), some (.ishr, 1, []), some (.iload_n 2, 1, []), some (.iadd, 1, []), some (.istore 4, 2, []), none, some (.iload_n 3, 1, []), some (.ifCond .lt (21), 3, []), none, none, some (.iload_n 3, 1, []), some (.bipush (7), 2, []), none, some (.if_icmp .gt (15), 3, []), none, none, some (.iload 4, 2, []), none, some (.ifCond .lt (10), 3, []), none, none, some (.iload 4, 2, []), none, some (.bipush (7), 2, []), none, some (.if_icmp .le (5), 3, []), none, none, some (.iconst (-1), 1, []), some (.ireturn, 1, []), some (.bipush (8), 2, []), none, some (.iload 4, 2, []), none, some (.imul, 1, []), some (.iload_n 3, 1, []), some (.iadd, 1, []), some (.ireturn, 1, [])], (0, 0, 0, 3), [])
set_option maxRecDepth 100000 in
theorem st_X_shifted : jokT2 M_X_shifted 0 (jt M_X_shifted) = true := by decide +kernel
set_option maxRecDepth 100000 in
theorem ok_X_shifted : jokM M_X_shifted := ⟨by decide +kernel, jwat_in (i := 377) (by decide +kernel), jwat_in (i := 71) (by decide +kernel), ⟨by decide +kernel, by decide +kernel, by decide +kernel⟩, by rw [if_pos (show jk M_X_shifted = 0 from rfl)]; exact jwat_in (i := 376) (by decide +kernel)⟩
def M_X_sideOf : jM := ((⟨"ChessLedger", "sideOf", "(I)I"⟩, prog_1_method_29_code, 1, (some .int)), [some (.iload_n 0, 1, []), some (.ifCond .ne (5), 3, []), none, none, some (.iconst (-1), 1, []), some (.ireturn, 1, []), some (.iload_n 0, 1, []), some (.bipush (6), 2, []), none, some (.if_icmp .le (7), 3, []), none, none, some (.iconst (1), 1, []), some (.goto (4), 3, []), none, none, some (.iconst (0), 1, []), some (.ireturn, 1, [])], (0, 0, 0, 1), [])
set_option maxRecDepth 100000 in
theorem st_X_sideOf : jokT2 M_X_sideOf 0 (jt M_X_sideOf) = true := by decide +kernel
set_option maxRecDepth 100000 in
theorem ok_X_sideOf : jokM M_X_sideOf := ⟨by decide +kernel, jwat_in (i := 380) (by decide +kernel), jwat_in (i := 71) (by decide +kernel), ⟨by decide +kernel, by decide +kernel, by decide +kernel⟩, by rw [if_pos (show jk M_X_sideOf = 0 from rfl)]; exact jwat_in (i := 379) (by decide +kernel)⟩
def M_Bd_attacksAgainst : jM := ((⟨"ChessLedger$Board", "attacksAgainst", "(III)Z"⟩, prog_2_method_8_code, 7, (some .boolean)), [some (.aload_n 0, 1, []), some (.getfield 9, 3, [1, 0, 108, 0]), none, none, some (.iload_n 1, 1, []), some (.iaload, 1, []), some (.invokestatic 75, 3, [13, 321, 1]), none, none, some (.istore 4, 2, []), none, some (.iload_n 1, 1, []), some (.bipush (7), 2, []), none, some (.iand, 1, []), some (.iload_n 2, 1, []), some (.bipush (7), 2, []), none, some (.iand, 1, []), some (.isub, 1, []), some (.invokestatic 78, 3, [0, 385, 386, 81, 387]), none, none, some (.istore 5, 2, []), none, some (.iload_n 2, 1, []), some (.iconst (3), 1, []), some (.ishr, 1, []), some (.iload_n 1, 1, []), some (.iconst (3), 1, []), some (.ishr, 1, []), some (.isub, 1, []), some (.istore 6, 2, []), none, some (.iload 4, 2, []), none, some (.iconst (1), 1, []), some (.if_icmp .ne (32), 3, []), none, none, some (.iload 5, 2, []), none, some (.iconst (1), 1, []), some (.if_icmp .ne (24), 3, []), none, none, some (.iload 6, 2, []), none, some (.aload_n 0, 1, []), some (.getfield 9, 3, [1, 0, 108, 0]), none, none, some (.iload_n 1, 1, []), some (.iaload, 1, []), some (.invokestatic 48, 3, [28, 378, 1]), none, none, some (.invokestatic 83, 3, [30, 388, 1]), none, none, some (.if_icmp .ne (7), 3, []), none, none, some (.iconst (1), 1, []), some (.goto (4), 3, []), none, none, some (.iconst (0), 1, []), some (.ireturn, 1, []), some (.iload 5, 2, []), none, some (.iload 6, 2, []), none, some (.invokestatic 78, 3, [0, 385, 386, 81, 387]), none, none, some (.invokestatic 86, 3, [1, 391, 392, 81, 393]), none, none, some (.iload 4, 2, []), none, some (.iload_n 3, 1, []), some (.invokestatic 89, 3, [31, 394, 1]), none, none, some (.if_icmp .gt (7), 3, []), none, none, some (.iconst (1), 1, []), some (.goto (4), 3, []), none, none, some (.iconst (0), 1, []), some (.ireturn, 1, [])], (1, 22, 1, 3), [])
set_option maxRecDepth 100000 in
theorem st_Bd_attacksAgainst : jokT2 M_Bd_attacksAgainst 0 (jt M_Bd_attacksAgainst) = true := by decide +kernel
set_option maxRecDepth 100000 in
theorem ok_Bd_attacksAgainst : jokM M_Bd_attacksAgainst := ⟨by decide +kernel, jwat_in (i := 384) (by decide +kernel), jwat_in (i := 73) (by decide +kernel), ⟨by decide +kernel, by decide +kernel, by decide +kernel⟩, by rw [if_neg (by decide)]; exact ⟨jwat_in (i := 383) (by decide +kernel), jwat_in (i := 5) (by decide +kernel)⟩⟩
def M_X_forwardOf : jM := ((⟨"ChessLedger", "forwardOf", "(I)I"⟩, prog_1_method_31_code, 1, (some .int)), [some (.iload_n 0, 1, []), some (.ifCond .ne (7), 3, []), none, none, some (.iconst (1), 1, []), some (.goto (4), 3, []), none, none, some (.iconst (-1), 1, []), some (.ireturn, 1, [])], (0, 0, 0, 1), [])
set_option maxRecDepth 100000 in
theorem st_X_forwardOf : jokT2 M_X_forwardOf 0 (jt M_X_forwardOf) = true := by decide +kernel
set_option maxRecDepth 100000 in
theorem ok_X_forwardOf : jokM M_X_forwardOf := ⟨by decide +kernel, jwat_in (i := 390) (by decide +kernel), jwat_in (i := 71) (by decide +kernel), ⟨by decide +kernel, by decide +kernel, by decide +kernel⟩, by rw [if_pos (show jk M_X_forwardOf = 0 from rfl)]; exact jwat_in (i := 389) (by decide +kernel)⟩
def M_X_reachOf : jM := ((⟨"ChessLedger", "reachOf", "(II)I"⟩, prog_1_method_37_code, 3, (some .int)), [some (.iload_n 1, 1, []), some (.iconst (1), 1, []), some (.iand, 1, []), some (.ifCond .ne (7), 3, []), none, none, some (.iconst (1), 1, []), some (.goto (4), 3, []), none, none, some (.iconst (0), 1, []), some (.istore_n 2, 1, []), some (.iload_n 0, 1, []), some (.bipush (6), 2, []), none, some (.if_icmp .ne (5), 3, []), none, none, some (.iconst (1), 1, []), some (.ireturn, 1, []), some (.iload_n 0, 1, []), some (.iconst (5), 1, []), some (.if_icmp .eq (21), 3, []), none, none, some (.iload_n 0, 1, []), some (.iconst (4), 1, []), some (.if_icmp .ne (7), 3, []), none, none, some (.iload_n 2, 1, []), some (.ifCond .ne (12), 3, []), none, none, some (.iload_n 0, 1, []), some (.iconst (3), 1, []), some (.if_icmp .ne (10), 3, []), none, none, some (.iload_n 2, 1, []), some (.ifCond .ne (6), 3, []), none, none, some (.bipush (7), 2, []), none, some (.ireturn, 1, []), some (.iconst (0), 1, []), some (.ireturn, 1, [])], (0, 0, 0, 2), [])
set_option maxRecDepth 100000 in
theorem st_X_reachOf : jokT2 M_X_reachOf 0 (jt M_X_reachOf) = true := by decide +kernel
set_option maxRecDepth 100000 in
theorem ok_X_reachOf : jokM M_X_reachOf := ⟨by decide +kernel, jwat_in (i := 396) (by decide +kernel), jwat_in (i := 71) (by decide +kernel), ⟨by decide +kernel, by decide +kernel, by decide +kernel⟩, by rw [if_pos (show jk M_X_reachOf = 0 from rfl)]; exact jwat_in (i := 395) (by decide +kernel)⟩
def M_Bd_passingTakers : jM := ((⟨"ChessLedger$Board", "passingTakers", "()J"⟩, prog_2_method_14_code, 7, (some .long)), [some (.aload_n 0, 1, []), some (.invokevirtual 111, 3, [33, 405, 0]), none, none, some (.istore_n 1, 1, []), some (.iload_n 1, 1, []), some (.iconst (-1), 1, []), some (.if_icmp .ne (5), 3, []), none, none, some (.lconst 0, 1, []), some (.lreturn, 1, []), some (.aload_n 0, 1, []), some (.aload_n 0, 1, []), some (.getfield 15, 3, [1, 1, 115, 0]), none, none, some (.invokevirtual 92, 3, [24, 359, 0]), none, none, some (.istore_n 2, 1, []), some (.lconst 0, 1, []), some (.lstore_n 3, 1, []), some (.iconst (-1), 1, []), some (.istore 5, 2, []), none, some (.iload 5, 2, []), none, some (.iconst (1), 1, []), some (.if_icmp .gt (67), 3, []), none, none, some (.iload_n 1, 1, []), some (.iload 5, 2, []), none, some (.aload_n 0, 1, []), some (.getfield 15, 3, [1, 1, 115, 0]), none, none, some (.invokestatic 83, 3, [30, 388, 1]), none, none, some (.ineg, 1, []), some (.invokestatic 62, 3, [27, 375, 1]), none, none, some (.istore 6, 2, []), none, some (.iload 6, 2, []), none, some (.iconst (-1), 1, []), some (.if_icmp .eq (39), 3, []), none, none, some (.aload_n 0, 1, []), some (.getfield 9, 3, [1, 0, 108, 0]), none, none, some (.iload 6, 2, []), none, some (.iaload, 1, []), some (.iconst (1), 1, []), some (.aload_n 0, 1, []), some (.getfield 15, 3, [1, 1, 115, 0]), none, none, some (.invokestatic 66, 3, [14, 324, 1]), none, none, some (.if_icmp .ne (21), 3, []), none, none, some (.aload_n 0, 1, []), some (.iload 6, 2, []), none, some (.iload_n 1, 1, []), some (.iload_n 2, 1, []), some (.invokevirtual 115, 3, [34, 409, 0]), none, none, some (.ifCond .eq (10), 3, []), none, none, some (.lload_n 3, 1, []), some (.lconst 1, 1, []), some (.iload 6, 2, []), none, some (.lshl, 1, []), some (.lor, 1, []), some (.lstore_n 3, 1, []), some (.iinc 5 (2), 3, []), none, none, some (.goto (-67), 3, []), none, none, some (.lload_n 3, 1, []), some (.lreturn, 1, [])], (4, 102, 1, 0), [])
set_option maxRecDepth 100000 in
theorem st_Bd_passingTakers : jokT2 M_Bd_passingTakers 0 (jt M_Bd_passingTakers) = true := by decide +kernel
set_option maxRecDepth 100000 in
theorem ok_Bd_passingTakers : jokM M_Bd_passingTakers := ⟨by decide +kernel, jwat_in (i := 404) (by decide +kernel), jwat_in (i := 73) (by decide +kernel), ⟨by decide +kernel, by decide +kernel, by decide +kernel⟩, by rw [if_neg (by decide)]; exact ⟨jwat_in (i := 402) (by decide +kernel), jwat_in (i := 403) (by decide +kernel)⟩⟩
def M_Bd_passedSquare : jM := ((⟨"ChessLedger$Board", "passedSquare", "()I"⟩, prog_2_method_12_code, 1, (some .int)), [some (.aload_n 0, 1, []), some (.getfield 22, 3, [1, 3, 128, 0]), none, none, some (.iconst (-1), 1, []), some (.if_icmp .ne (7), 3, []), none, none, some (.iconst (-1), 1, []), some (.goto (21), 3, []), none, none, some (.aload_n 0, 1, []), some (.getfield 22, 3, [1, 3, 128, 0]), none, none, some (.aload_n 0, 1, []), some (.getfield 15, 3, [1, 1, 115, 0]), none, none, some (.invokestatic 95, 3, [22, 350, 1]), none, none, some (.iconst (2), 1, []), some (.invokestatic 105, 3, [17, 353, 1]), none, none, some (.invokestatic 108, 3, [18, 354, 1]), none, none, some (.ireturn, 1, [])], (1, 21, 1, 0), [])
set_option maxRecDepth 100000 in
theorem st_Bd_passedSquare : jokT2 M_Bd_passedSquare 0 (jt M_Bd_passedSquare) = true := by decide +kernel
set_option maxRecDepth 100000 in
theorem ok_Bd_passedSquare : jokM M_Bd_passedSquare := ⟨by decide +kernel, jwat_in (i := 408) (by decide +kernel), jwat_in (i := 73) (by decide +kernel), ⟨by decide +kernel, by decide +kernel, by decide +kernel⟩, by rw [if_neg (by decide)]; exact ⟨jwat_in (i := 406) (by decide +kernel), jwat_in (i := 407) (by decide +kernel)⟩⟩
def M_Bd_isSafeBehind : jM := ((⟨"ChessLedger$Board", "isSafeBehind", "(III)Z"⟩, prog_2_method_11_code, 8, (some .boolean)), [some (.aload_n 0, 1, []), some (.iload_n 1, 1, []), some (.iload_n 2, 1, []), some (.invokevirtual 102, 3, [35, 413, 0]), none, none, some (.istore 4, 2, []), none, some (.aload_n 0, 1, []), some (.getfield 9, 3, [1, 0, 108, 0]), none, none, some (.iload_n 1, 1, []), some (.iaload, 1, []), some (.istore 5, 2, []), none, some (.aload_n 0, 1, []), some (.getfield 9, 3, [1, 0, 108, 0]), none, none, some (.iload 4, 2, []), none, some (.iaload, 1, []), some (.istore 6, 2, []), none, some (.aload_n 0, 1, []), some (.getfield 9, 3, [1, 0, 108, 0]), none, none, some (.iload 4, 2, []), none, some (.iconst (0), 1, []), some (.iastore, 1, []), some (.aload_n 0, 1, []), some (.getfield 9, 3, [1, 0, 108, 0]), none, none, some (.iload_n 1, 1, []), some (.iconst (0), 1, []), some (.iastore, 1, []), some (.aload_n 0, 1, []), some (.getfield 9, 3, [1, 0, 108, 0]), none, none, some (.iload_n 2, 1, []), some (.iload 5, 2, []), none, some (.iastore, 1, []), some (.aload_n 0, 1, []), some (.iload_n 1, 1, []), some (.iload_n 3, 1, []), some (.if_icmp .ne (7), 3, []), none, none, some (.iload_n 2, 1, []), some (.goto (4), 3, []), none, none, some (.iload_n 3, 1, []), some (.aload_n 0, 1, []), some (.getfield 15, 3, [1, 1, 115, 0]), none, none, some (.invokestatic 95, 3, [22, 350, 1]), none, none, some (.invokevirtual 98, 3, [25, 363, 0]), none, none, some (.lconst 0, 1, []), some (.lcmp, 1, []), some (.ifCond .ne (7), 3, []), none, none, some (.iconst (1), 1, []), some (.goto (4), 3, []), none, none, some (.iconst (0), 1, []), some (.istore 7, 2, []), none, some (.aload_n 0, 1, []), some (.getfield 9, 3, [1, 0, 108, 0]), none, none, some (.iload_n 2, 1, []), some (.iconst (0), 1, []), some (.iastore, 1, []), some (.aload_n 0, 1, []), some (.getfield 9, 3, [1, 0, 108, 0]), none, none, some (.iload_n 1, 1, []), some (.iload 5, 2, []), none, some (.iastore, 1, []), some (.aload_n 0, 1, []), some (.getfield 9, 3, [1, 0, 108, 0]), none, none, some (.iload 4, 2, []), none, some (.iload 6, 2, []), none, some (.iastore, 1, []), some (.iload 7, 2, []), none, some (.ireturn, 1, [])], (3, 75, 1, 3), [])
set_option maxRecDepth 100000 in
theorem st_Bd_isSafeBehind : jokT2 M_Bd_isSafeBehind 0 (jt M_Bd_isSafeBehind) = true := by decide +kernel
set_option maxRecDepth 100000 in
theorem ok_Bd_isSafeBehind : jokM M_Bd_isSafeBehind := ⟨by decide +kernel, jwat_in (i := 412) (by decide +kernel), jwat_in (i := 73) (by decide +kernel), ⟨by decide +kernel, by decide +kernel, by decide +kernel⟩, by rw [if_neg (by decide)]; exact ⟨jwat_in (i := 410) (by decide +kernel), jwat_in (i := 411) (by decide +kernel)⟩⟩
def M_Bd_victimSquare : jM := ((⟨"ChessLedger$Board", "victimSquare", "(II)I"⟩, prog_2_method_13_code, 3, (some .int)), [some (.aload_n 0, 1, []), some (.getfield 9, 3, [1, 0, 108, 0]), none, none, some (.iload_n 1, 1, []), some (.iaload, 1, []), some (.invokestatic 75, 3, [13, 321, 1]), none, none, some (.iconst (1), 1, []), some (.if_icmp .ne (22), 3, []), none, none, some (.iload_n 2, 1, []), some (.aload_n 0, 1, []), some (.invokevirtual 111, 3, [33, 405, 0]), none, none, some (.if_icmp .ne (14), 3, []), none, none, some (.iload_n 2, 1, []), some (.bipush (7), 2, []), none, some (.iand, 1, []), some (.iload_n 1, 1, []), some (.iconst (3), 1, []), some (.ishr, 1, []), some (.invokestatic 108, 3, [18, 354, 1]), none, none, some (.ireturn, 1, []), some (.iload_n 2, 1, []), some (.ireturn, 1, [])], (2, 41, 1, 2), [])
set_option maxRecDepth 100000 in
theorem st_Bd_victimSquare : jokT2 M_Bd_victimSquare 0 (jt M_Bd_victimSquare) = true := by decide +kernel
set_option maxRecDepth 100000 in
theorem ok_Bd_victimSquare : jokM M_Bd_victimSquare := ⟨by decide +kernel, jwat_in (i := 416) (by decide +kernel), jwat_in (i := 73) (by decide +kernel), ⟨by decide +kernel, by decide +kernel, by decide +kernel⟩, by rw [if_neg (by decide)]; exact ⟨jwat_in (i := 414) (by decide +kernel), jwat_in (i := 415) (by decide +kernel)⟩⟩
def M_Ps_enter : jM := ((⟨"ChessLedger$Past", "enter", "(ILChessLedger$Board;J)V"⟩, prog_5_method_2_code, 7, none), [some (.bipush (6), 2, []), none, some (.iload_n 1, 1, []), some (.imul, 1, []), some (.istore 5, 2, []), none, some (.iload 5, 2, []), none, some (.ifCond .lt (14), 3, []), none, none, some (.iload 5, 2, []), none, some (.bipush (6), 2, []), none, some (.iadd, 1, []), some (.sipush (1806), 3, []), none, none, some (.if_icmp .le (4), 3, []), none, none, some (.return_, 1, []), some (.iconst (0), 1, []), some (.istore 6, 2, []), none, some (.iload 6, 2, []), none, some (.iconst (4), 1, []), some (.if_icmp .ge (28), 3, []), none, none, some (.aload_n 0, 1, []), some (.getfield 11, 3, [4, 0, 179, 0]), none, none, some (.iload 5, 2, []), none, some (.iload 6, 2, []), none, some (.iadd, 1, []), some (.aload_n 2, 1, []), some (.bipush (16), 2, []), none, some (.iload 6, 2, []), none, some (.imul, 1, []), some (.invokestatic 15, 3, [37, 421, 0]), none, none, some (.lastore, 1, []), some (.iinc 6 (1), 3, []), none, none, some (.goto (-28), 3, []), none, none, some (.aload_n 0, 1, []), some (.getfield 11, 3, [4, 0, 179, 0]), none, none, some (.iload 5, 2, []), none, some (.iconst (4), 1, []), some (.iadd, 1, []), some (.ldc2_w 19, 3, [424, 2]), none, none, some (.aload_n 2, 1, []), some (.getfield 21, 3, [1, 2, 123, 1]), none, none, some (.i2l, 1, []), some (.lmul, 1, []), some (.aload_n 2, 1, []), some (.getfield 27, 3, [1, 1, 117, 1]), none, none, some (.i2l, 1, []), some (.ladd, 1, []), some (.lastore, 1, []), some (.aload_n 0, 1, []), some (.getfield 11, 3, [4, 0, 179, 0]), none, none, some (.iload 5, 2, []), none, some (.iconst (5), 1, []), some (.iadd, 1, []), some (.lload_n 3, 1, []), some (.lastore, 1, []), some (.return_, 1, [])], (1, 24, 1, 3), [])
set_option maxRecDepth 100000 in
theorem st_Ps_enter : jokT2 M_Ps_enter 0 (jt M_Ps_enter) = true := by decide +kernel
set_option maxRecDepth 100000 in
theorem ok_Ps_enter : jokM M_Ps_enter := ⟨by decide +kernel, jwat_in (i := 420) (by decide +kernel), jwat_in (i := 74) (by decide +kernel), ⟨by decide +kernel, by decide +kernel, by decide +kernel⟩, by rw [if_neg (by decide)]; exact ⟨jwat_in (i := 418) (by decide +kernel), jwat_in (i := 419) (by decide +kernel)⟩⟩
def M_Ps_packed : jM := ((⟨"ChessLedger$Past", "packed", "(LChessLedger$Board;I)J"⟩, prog_5_method_3_code, 5, (some .long)), [some (.lconst 0, 1, []), some (.lstore_n 2, 1, []), some (.iconst (0), 1, []), some (.istore 4, 2, []), none, some (.iload 4, 2, []), none, some (.bipush (16), 2, []), none, some (.if_icmp .ge (24), 3, []), none, none, some (.lload_n 2, 1, []), some (.iconst (4), 1, []), some (.lshl, 1, []), some (.aload_n 0, 1, []), some (.getfield 30, 3, [1, 0, 110, 1]), none, none, some (.iload_n 1, 1, []), some (.iload 4, 2, []), none, some (.iadd, 1, []), some (.iaload, 1, []), some (.i2l, 1, []), some (.lor, 1, []), some (.lstore_n 2, 1, []), some (.iinc 4 (1), 3, []), none, none, some (.goto (-25), 3, []), none, none, some (.lload_n 2, 1, []), some (.lreturn, 1, [])], (0, 0, 0, 2), [])
set_option maxRecDepth 100000 in
theorem st_Ps_packed : jokT2 M_Ps_packed 0 (jt M_Ps_packed) = true := by decide +kernel
set_option maxRecDepth 100000 in
theorem ok_Ps_packed : jokM M_Ps_packed := ⟨by decide +kernel, jwat_in (i := 423) (by decide +kernel), jwat_in (i := 74) (by decide +kernel), ⟨by decide +kernel, by decide +kernel, by decide +kernel⟩, by rw [if_pos (show jk M_Ps_packed = 0 from rfl)]; exact jwat_in (i := 422) (by decide +kernel)⟩
def M_X_at : jM := ((⟨"ChessLedger", "at", "(I)I"⟩, prog_1_method_5_code, 2, (some .int)), [some (.iload_n 1, 1, []), some (.invokestatic 74, 3, [6, 291, 0]), none, none, some (.ifCond .eq (15), 3, []), none, none, some (.aload_n 0, 1, []), some (.getfield 20, 3, [0, 1, 238, 0]), none, none, some (.getfield 78, 3, [1, 0, 111, 1]), none, none, some (.iload_n 1, 1, []), some (.iaload, 1, []), some (.goto (4), 3, []), none, none, some (.iconst (-1), 1, []), some (.ireturn, 1, [])], (1, 20, 1, 1), [])
set_option maxRecDepth 100000 in
theorem st_X_at : jokT2 M_X_at 0 (jt M_X_at) = true := by decide +kernel
set_option maxRecDepth 100000 in
theorem ok_X_at : jokM M_X_at := ⟨by decide +kernel, jwat_in (i := 428) (by decide +kernel), jwat_in (i := 71) (by decide +kernel), ⟨by decide +kernel, by decide +kernel, by decide +kernel⟩, by rw [if_neg (by decide)]; exact ⟨jwat_in (i := 426) (by decide +kernel), jwat_in (i := 427) (by decide +kernel)⟩⟩
def M_X_state : jM := ((⟨"ChessLedger", "state", "(I)I"⟩, prog_1_method_6_code, 2, (some .int)), [some (.aload_n 0, 1, []), some (.getfield 62, 3, [0, 9, 246, 0]), none, none, some (.ifCond .ne (6), 3, []), none, none, some (.bipush (-2), 2, []), none, some (.ireturn, 1, []), some (.iload_n 1, 1, []), some (.tableswitch (73) (0) (4) #[33, 41, 49, 57, 65], 33, []), none, none, none, none, none, none, none, none, none, none, none, none, none, none, none, none, none, none, none, none, none, none, none, none, none, none, none, none, none, none, none, none, some (.aload_n 0, 1, []), some (.getfield 20, 3, [0, 1, 238, 0]), none, none, some (.getfield 97, 3, [1, 1, 120, 1]), none, none, some (.ireturn, 1, []), some (.aload_n 0, 1, []), some (.getfield 20, 3, [0, 1, 238, 0]), none, none, some (.getfield 101, 3, [1, 2, 125, 1]), none, none, some (.ireturn, 1, []), some (.aload_n 0, 1, []), some (.getfield 20, 3, [0, 1, 238, 0]), none, none, some (.getfield 104, 3, [1, 3, 130, 1]), none, none, some (.ireturn, 1, []), some (.aload_n 0, 1, []), some (.getfield 20, 3, [0, 1, 238, 0]), none, none, some (.getfield 107, 3, [1, 4, 134, 1]), none, none, some (.ireturn, 1, []), some (.aload_n 0, 1, []), some (.getfield 10, 3, [0, 0, 237, 0]), none, none, some (.getfield 110, 3, [2, 6, 157, 1]), none, none, some (.ireturn, 1, []), some (.bipush (-2), 2, []), none, some (.ireturn, 1, [])], (0, 0, 1, 1), [])
set_option maxRecDepth 100000 in
theorem st_X_state : jokT2 M_X_state 0 (jt M_X_state) = true := by decide +kernel
set_option maxRecDepth 100000 in
theorem ok_X_state : jokM M_X_state := ⟨by decide +kernel, jwat_in (i := 432) (by decide +kernel), jwat_in (i := 71) (by decide +kernel), ⟨by decide +kernel, by decide +kernel, by decide +kernel⟩, by rw [if_neg (by decide)]; exact ⟨jwat_in (i := 430) (by decide +kernel), jwat_in (i := 431) (by decide +kernel)⟩⟩
def M_X_moves : jM := ((⟨"ChessLedger", "moves", "()I"⟩, prog_1_method_7_code, 1, (some .int)), [some (.aload_n 0, 1, []), some (.getfield 62, 3, [0, 9, 246, 0]), none, none, some (.ifCond .eq (17), 3, []), none, none, some (.aload_n 0, 1, []), some (.getfield 31, 3, [0, 3, 240, 0]), none, none, some (.aload_n 0, 1, []), some (.getfield 20, 3, [0, 1, 238, 0]), none, none, some (.invokevirtual 113, 3, [41, 437, 0]), none, none, some (.goto (4), 3, []), none, none, some (.iconst (-1), 1, []), some (.ireturn, 1, [])], (6, 155, 1, 0), [])
set_option maxRecDepth 100000 in
theorem st_X_moves : jokT2 M_X_moves 0 (jt M_X_moves) = true := by decide +kernel
set_option maxRecDepth 100000 in
theorem ok_X_moves : jokM M_X_moves := ⟨by decide +kernel, jwat_in (i := 436) (by decide +kernel), jwat_in (i := 71) (by decide +kernel), ⟨by decide +kernel, by decide +kernel, by decide +kernel⟩, by rw [if_neg (by decide)]; exact ⟨jwat_in (i := 434) (by decide +kernel), jwat_in (i := 435) (by decide +kernel)⟩⟩
def M_Mt_gather : jM := ((⟨"ChessLedger$MoveTable", "gather", "(LChessLedger$Board;)I"⟩, prog_4_method_2_code, 4, (some .int)), [some (.aload_n 0, 1, []), some (.getfield 9, 3, [3, 0, 190, 0]), none, none, some (.lconst 0, 1, []), some (.invokestatic 18, 3, [42, 441, 0]), none, none, some (.aload_n 0, 1, []), some (.getfield 15, 3, [3, 1, 191, 0]), none, none, some (.lconst 0, 1, []), some (.invokestatic 18, 3, [42, 441, 0]), none, none, some (.iconst (0), 1, []), some (.istore_n 2, 1, []), some (.iload_n 2, 1, []), some (.bipush (64), 2, []), none, some (.if_icmp .ge (31), 3, []), none, none, some (.aload_n 1, 1, []), some (.getfield 24, 3, [1, 0, 109, 1]), none, none, some (.iload_n 2, 1, []), some (.iaload, 1, []), some (.invokestatic 30, 3, [28, 444, 1]), none, none, some (.aload_n 1, 1, []), some (.getfield 34, 3, [1, 1, 116, 1]), none, none, some (.if_icmp .ne (9), 3, []), none, none, some (.aload_n 0, 1, []), some (.aload_n 1, 1, []), some (.iload_n 2, 1, []), some (.invokevirtual 38, 3, [43, 445, 0]), none, none, some (.iinc 2 (1), 3, []), none, none, some (.goto (-31), 3, []), none, none, some (.aload_n 0, 1, []), some (.aload_n 1, 1, []), some (.invokevirtual 42, 3, [50, 482, 0]), none, none, some (.aload_n 1, 1, []), some (.aload_n 1, 1, []), some (.getfield 34, 3, [1, 1, 116, 1]), none, none, some (.invokevirtual 46, 3, [24, 494, 0]), none, none, some (.istore_n 2, 1, []), some (.iconst (0), 1, []), some (.istore_n 3, 1, []), some (.iload_n 3, 1, []), some (.bipush (64), 2, []), none, some (.if_icmp .ge (50), 3, []), none, none, some (.iload_n 2, 1, []), some (.iconst (-1), 1, []), some (.if_icmp .eq (45), 3, []), none, none, some (.aload_n 0, 1, []), some (.getfield 9, 3, [3, 0, 190, 0]), none, none, some (.iload_n 3, 1, []), some (.aload_n 1, 1, []), some (.aload_n 0, 1, []), some (.getfield 9, 3, [3, 0, 190, 0]), none, none, some (.iload_n 3, 1, []), some (.laload, 1, []), some (.iload_n 3, 1, []), some (.iload_n 2, 1, []), some (.invokestatic 49, 3, [52, 495, 0]), none, none, some (.lastore, 1, []), some (.aload_n 0, 1, []), some (.getfield 15, 3, [3, 1, 191, 0]), none, none, some (.iload_n 3, 1, []), some (.aload_n 1, 1, []), some (.aload_n 0, 1, []), some (.getfield 15, 3, [3, 1, 191, 0]), none, none, some (.iload_n 3, 1, []), some (.laload, 1, []), some (.iload_n 3, 1, []), some (.iload_n 2, 1, []), some (.invokestatic 49, 3, [52, 495, 0]), none, none, some (.lastore, 1, []), some (.iinc 3 (1), 3, []), none, none, some (.goto (-50), 3, []), none, none, some (.aload_n 0, 1, []), some (.invokevirtual 53, 3, [56, 512, 0]), none, none, some (.ireturn, 1, [])], (5, 132, 1, 1), [])
set_option maxRecDepth 100000 in
theorem st_Mt_gather : jokT2 M_Mt_gather 0 (jt M_Mt_gather) = true := by decide +kernel
set_option maxRecDepth 100000 in
theorem ok_Mt_gather : jokM M_Mt_gather := ⟨by decide +kernel, jwat_in (i := 440) (by decide +kernel), jwat_in (i := 75) (by decide +kernel), ⟨by decide +kernel, by decide +kernel, by decide +kernel⟩, by rw [if_neg (by decide)]; exact ⟨jwat_in (i := 438) (by decide +kernel), jwat_in (i := 439) (by decide +kernel)⟩⟩
def M_Ja_fillJ : jM := ((⟨"java/util/Arrays", "fill", "([JJ)V"⟩, prog_17_method_101_code, 5, none), [some (.iconst (0), 1, []), some (.istore_n 3, 1, []), some (.aload_n 0, 1, []), some (.arraylength, 1, []), some (.istore 4, 2, []), none, some (.iload_n 3, 1, []), some (.iload 4, 2, []), none, some (.if_icmp .ge (13), 3, []), none, none, some (.aload_n 0, 1, []), some (.iload_n 3, 1, []), some (.lload_n 1, 1, []), some (.lastore, 1, []), some (.iinc 3 (1), 3, []), none, none, some (.goto (-13), 3, []), none, none, some (.return_, 1, [])], (0, 0, 0, 2), [])
set_option maxRecDepth 100000 in
theorem st_Ja_fillJ : jokT2 M_Ja_fillJ 0 (jt M_Ja_fillJ) = true := by decide +kernel
set_option maxRecDepth 100000 in
theorem ok_Ja_fillJ : jokM M_Ja_fillJ := ⟨by decide +kernel, jwat_in (i := 443) (by decide +kernel), jwat_in (i := 79) (by decide +kernel), ⟨by decide +kernel, by decide +kernel, by decide +kernel⟩, by rw [if_pos (show jk M_Ja_fillJ = 0 from rfl)]; exact jwat_in (i := 442) (by decide +kernel)⟩
def M_Mt_addPiece : jM := ((⟨"ChessLedger$MoveTable", "addPiece", "(LChessLedger$Board;I)V"⟩, prog_4_method_3_code, 5, none), [some (.aload_n 1, 1, []), some (.getfield 24, 3, [1, 0, 109, 1]), none, none, some (.iload_n 2, 1, []), some (.iaload, 1, []), some (.invokestatic 57, 3, [13, 449, 1]), none, none, some (.istore_n 3, 1, []), some (.iload_n 3, 1, []), some (.iconst (1), 1, []), some (.if_icmp .ne (18), 3, []), none, none, some (.aload_n 0, 1, []), some (.aload_n 1, 1, []), some (.iload_n 2, 1, []), some (.invokevirtual 60, 3, [44, 450, 0]), none, none, some (.aload_n 0, 1, []), some (.aload_n 1, 1, []), some (.iload_n 2, 1, []), some (.invokevirtual 63, 3, [46, 461, 0]), none, none, some (.goto (47), 3, []), none, none, some (.iload_n 3, 1, []), some (.iconst (2), 1, []), some (.if_icmp .ne (12), 3, []), none, none, some (.aload_n 0, 1, []), some (.aload_n 1, 1, []), some (.iload_n 2, 1, []), some (.invokevirtual 66, 3, [48, 469, 0]), none, none, some (.goto (33), 3, []), none, none, some (.iconst (0), 1, []), some (.istore 4, 2, []), none, some (.iload 4, 2, []), none, some (.bipush (8), 2, []), none, some (.if_icmp .ge (23), 3, []), none, none, some (.aload_n 0, 1, []), some (.aload_n 1, 1, []), some (.iload_n 2, 1, []), some (.iload 4, 2, []), none, some (.iload_n 3, 1, []), some (.iload 4, 2, []), none, some (.invokestatic 69, 3, [31, 475, 1]), none, none, some (.invokevirtual 73, 3, [49, 476, 0]), none, none, some (.iinc 4 (1), 3, []), none, none, some (.goto (-24), 3, []), none, none, some (.return_, 1, [])], (4, 86, 1, 2), [])
set_option maxRecDepth 100000 in
theorem st_Mt_addPiece : jokT2 M_Mt_addPiece 0 (jt M_Mt_addPiece) = true := by decide +kernel
set_option maxRecDepth 100000 in
theorem ok_Mt_addPiece : jokM M_Mt_addPiece := ⟨by decide +kernel, jwat_in (i := 448) (by decide +kernel), jwat_in (i := 75) (by decide +kernel), ⟨by decide +kernel, by decide +kernel, by decide +kernel⟩, by rw [if_neg (by decide)]; exact ⟨jwat_in (i := 447) (by decide +kernel), jwat_in (i := 6) (by decide +kernel)⟩⟩
def M_Mt_addSteps : jM := ((⟨"ChessLedger$MoveTable", "addSteps", "(LChessLedger$Board;I)V"⟩, prog_4_method_4_code, 6, none), [some (.aload_n 1, 1, []), some (.getfield 34, 3, [1, 1, 116, 1]), none, none, some (.invokestatic 77, 3, [30, 454, 1]), none, none, some (.istore_n 3, 1, []), some (.iload_n 2, 1, []), some (.iconst (0), 1, []), some (.iload_n 3, 1, []), some (.invokestatic 80, 3, [27, 455, 1]), none, none, some (.istore 4, 2, []), none, some (.iload 4, 2, []), none, some (.iconst (-1), 1, []), some (.if_icmp .eq (13), 3, []), none, none, some (.aload_n 1, 1, []), some (.getfield 24, 3, [1, 0, 109, 1]), none, none, some (.iload 4, 2, []), none, some (.iaload, 1, []), some (.ifCond .eq (4), 3, []), none, none, some (.return_, 1, []), some (.aload_n 0, 1, []), some (.iload_n 2, 1, []), some (.iload 4, 2, []), none, some (.invokevirtual 84, 3, [45, 456, 0]), none, none, some (.iload 4, 2, []), none, some (.iconst (0), 1, []), some (.iload_n 3, 1, []), some (.invokestatic 80, 3, [27, 455, 1]), none, none, some (.istore 5, 2, []), none, some (.iload_n 2, 1, []), some (.iconst (3), 1, []), some (.ishr, 1, []), some (.aload_n 1, 1, []), some (.getfield 34, 3, [1, 1, 116, 1]), none, none, some (.iconst (1), 1, []), some (.invokestatic 88, 3, [17, 460, 1]), none, none, some (.if_icmp .ne (26), 3, []), none, none, some (.iload 5, 2, []), none, some (.iconst (-1), 1, []), some (.if_icmp .eq (20), 3, []), none, none, some (.aload_n 1, 1, []), some (.getfield 24, 3, [1, 0, 109, 1]), none, none, some (.iload 5, 2, []), none, some (.iaload, 1, []), some (.ifCond .ne (10), 3, []), none, none, some (.aload_n 0, 1, []), some (.iload_n 2, 1, []), some (.iload 5, 2, []), none, some (.invokevirtual 84, 3, [45, 456, 0]), none, none, some (.return_, 1, [])], (1, 24, 1, 2), [])
set_option maxRecDepth 100000 in
theorem st_Mt_addSteps : jokT2 M_Mt_addSteps 0 (jt M_Mt_addSteps) = true := by decide +kernel
set_option maxRecDepth 100000 in
theorem ok_Mt_addSteps : jokM M_Mt_addSteps := ⟨by decide +kernel, jwat_in (i := 453) (by decide +kernel), jwat_in (i := 75) (by decide +kernel), ⟨by decide +kernel, by decide +kernel, by decide +kernel⟩, by rw [if_neg (by decide)]; exact ⟨jwat_in (i := 452) (by decide +kernel), jwat_in (i := 7) (by decide +kernel)⟩⟩
def M_Mt_addPawn : jM := ((⟨"ChessLedger$MoveTable", "addPawn", "(II)V"⟩, prog_4_method_6_code, 4, none), [some (.iload_n 2, 1, []), some (.iconst (3), 1, []), some (.ishr, 1, []), some (.istore_n 3, 1, []), some (.iload_n 3, 1, []), some (.ifCond .eq (9), 3, []), none, none, some (.iload_n 3, 1, []), some (.bipush (7), 2, []), none, some (.if_icmp .ne (18), 3, []), none, none, some (.aload_n 0, 1, []), some (.getfield 15, 3, [3, 1, 191, 0]), none, none, some (.iload_n 2, 1, []), some (.dup2, 1, []), some (.laload, 1, []), some (.lconst 1, 1, []), some (.iload_n 1, 1, []), some (.lshl, 1, []), some (.lor, 1, []), some (.lastore, 1, []), some (.goto (15), 3, []), none, none, some (.aload_n 0, 1, []), some (.getfield 9, 3, [3, 0, 190, 0]), none, none, some (.iload_n 2, 1, []), some (.dup2, 1, []), some (.laload, 1, []), some (.lconst 1, 1, []), some (.iload_n 1, 1, []), some (.lshl, 1, []), some (.lor, 1, []), some (.lastore, 1, []), some (.return_, 1, [])], (0, 0, 1, 2), [])
set_option maxRecDepth 100000 in
theorem st_Mt_addPawn : jokT2 M_Mt_addPawn 0 (jt M_Mt_addPawn) = true := by decide +kernel
set_option maxRecDepth 100000 in
theorem ok_Mt_addPawn : jokM M_Mt_addPawn := ⟨by decide +kernel, jwat_in (i := 459) (by decide +kernel), jwat_in (i := 75) (by decide +kernel), ⟨by decide +kernel, by decide +kernel, by decide +kernel⟩, by rw [if_neg (by decide)]; exact ⟨jwat_in (i := 458) (by decide +kernel), jwat_in (i := 8) (by decide +kernel)⟩⟩
def M_Mt_addTakes : jM := ((⟨"ChessLedger$MoveTable", "addTakes", "(LChessLedger$Board;I)V"⟩, prog_4_method_5_code, 5, none), [some (.iconst (-1), 1, []), some (.istore_n 3, 1, []), some (.iload_n 3, 1, []), some (.iconst (1), 1, []), some (.if_icmp .gt (45), 3, []), none, none, some (.iload_n 2, 1, []), some (.iload_n 3, 1, []), some (.aload_n 1, 1, []), some (.getfield 34, 3, [1, 1, 116, 1]), none, none, some (.invokestatic 77, 3, [30, 454, 1]), none, none, some (.invokestatic 80, 3, [27, 455, 1]), none, none, some (.istore 4, 2, []), none, some (.iload 4, 2, []), none, some (.iconst (-1), 1, []), some (.if_icmp .eq (19), 3, []), none, none, some (.aload_n 1, 1, []), some (.iload 4, 2, []), none, some (.invokevirtual 91, 3, [47, 465, 0]), none, none, some (.ifCond .eq (10), 3, []), none, none, some (.aload_n 0, 1, []), some (.iload_n 2, 1, []), some (.iload 4, 2, []), none, some (.invokevirtual 84, 3, [45, 456, 0]), none, none, some (.iinc 3 (2), 3, []), none, none, some (.goto (-44), 3, []), none, none, some (.return_, 1, [])], (3, 62, 1, 2), [])
set_option maxRecDepth 100000 in
theorem st_Mt_addTakes : jokT2 M_Mt_addTakes 0 (jt M_Mt_addTakes) = true := by decide +kernel
set_option maxRecDepth 100000 in
theorem ok_Mt_addTakes : jokM M_Mt_addTakes := ⟨by decide +kernel, jwat_in (i := 464) (by decide +kernel), jwat_in (i := 75) (by decide +kernel), ⟨by decide +kernel, by decide +kernel, by decide +kernel⟩, by rw [if_neg (by decide)]; exact ⟨jwat_in (i := 463) (by decide +kernel), jwat_in (i := 9) (by decide +kernel)⟩⟩
def M_Bd_mayPawnTake : jM := ((⟨"ChessLedger$Board", "mayPawnTake", "(I)Z"⟩, prog_2_method_15_code, 2, (some .boolean)), [some (.aload_n 0, 1, []), some (.getfield 9, 3, [1, 0, 108, 0]), none, none, some (.iload_n 1, 1, []), some (.iaload, 1, []), some (.invokestatic 48, 3, [28, 378, 1]), none, none, some (.aload_n 0, 1, []), some (.getfield 15, 3, [1, 1, 115, 0]), none, none, some (.invokestatic 95, 3, [22, 350, 1]), none, none, some (.if_icmp .eq (11), 3, []), none, none, some (.iload_n 1, 1, []), some (.aload_n 0, 1, []), some (.invokevirtual 111, 3, [33, 405, 0]), none, none, some (.if_icmp .ne (7), 3, []), none, none, some (.iconst (1), 1, []), some (.goto (4), 3, []), none, none, some (.iconst (0), 1, []), some (.ireturn, 1, [])], (2, 41, 1, 1), [])
set_option maxRecDepth 100000 in
theorem st_Bd_mayPawnTake : jokT2 M_Bd_mayPawnTake 0 (jt M_Bd_mayPawnTake) = true := by decide +kernel
set_option maxRecDepth 100000 in
theorem ok_Bd_mayPawnTake : jokM M_Bd_mayPawnTake := ⟨by decide +kernel, jwat_in (i := 468) (by decide +kernel), jwat_in (i := 73) (by decide +kernel), ⟨by decide +kernel, by decide +kernel, by decide +kernel⟩, by rw [if_neg (by decide)]; exact ⟨jwat_in (i := 466) (by decide +kernel), jwat_in (i := 467) (by decide +kernel)⟩⟩
def M_Mt_addLeaps : jM := ((⟨"ChessLedger$MoveTable", "addLeaps", "(LChessLedger$Board;I)V"⟩, prog_4_method_7_code, 5, none), [some (.iconst (0), 1, []), some (.istore_n 3, 1, []), some (.iload_n 3, 1, []), some (.bipush (8), 2, []), none, some (.if_icmp .ge (61), 3, []), none, none, some (.iload_n 2, 1, []), some (.getstatic 95, 3, [2, 473, 1]), none, none, some (.iload_n 3, 1, []), some (.iaload, 1, []), some (.getstatic 98, 3, [3, 474, 1]), none, none, some (.iload_n 3, 1, []), some (.iaload, 1, []), some (.invokestatic 80, 3, [27, 455, 1]), none, none, some (.istore 4, 2, []), none, some (.iload 4, 2, []), none, some (.iconst (-1), 1, []), some (.if_icmp .eq (33), 3, []), none, none, some (.aload_n 1, 1, []), some (.getfield 24, 3, [1, 0, 109, 1]), none, none, some (.iload 4, 2, []), none, some (.iaload, 1, []), some (.invokestatic 30, 3, [28, 444, 1]), none, none, some (.aload_n 1, 1, []), some (.getfield 34, 3, [1, 1, 116, 1]), none, none, some (.if_icmp .eq (16), 3, []), none, none, some (.aload_n 0, 1, []), some (.getfield 9, 3, [3, 0, 190, 0]), none, none, some (.iload 4, 2, []), none, some (.dup2, 1, []), some (.laload, 1, []), some (.lconst 1, 1, []), some (.iload_n 2, 1, []), some (.lshl, 1, []), some (.lor, 1, []), some (.lastore, 1, []), some (.iinc 3 (1), 3, []), none, none, some (.goto (-61), 3, []), none, none, some (.return_, 1, [])], (1, 24, 1, 2), [])
set_option maxRecDepth 100000 in
theorem st_Mt_addLeaps : jokT2 M_Mt_addLeaps 0 (jt M_Mt_addLeaps) = true := by decide +kernel
set_option maxRecDepth 100000 in
theorem ok_Mt_addLeaps : jokM M_Mt_addLeaps := ⟨by decide +kernel, jwat_in (i := 472) (by decide +kernel), jwat_in (i := 75) (by decide +kernel), ⟨by decide +kernel, by decide +kernel, by decide +kernel⟩, by rw [if_neg (by decide)]; exact ⟨jwat_in (i := 471) (by decide +kernel), jwat_in (i := 10) (by decide +kernel)⟩⟩
def M_Mt_addAlong : jM := ((⟨"ChessLedger$MoveTable", "addAlong", "(LChessLedger$Board;III)V"⟩, prog_4_method_8_code, 7, none), [some (.iload_n 2, 1, []), some (.istore 5, 2, []), none, some (.iconst (1), 1, []), some (.istore 6, 2, []), none, some (.iload 6, 2, []), none, some (.iload 4, 2, []), none, some (.if_icmp .gt (74), 3, []), none, none, some (.iload 5, 2, []), none, some (.getstatic 101, 3, [0, 480, 1]), none, none, some (.iload_n 3, 1, []), some (.iaload, 1, []), some (.getstatic 104, 3, [1, 481, 1]), none, none, some (.iload_n 3, 1, []), some (.iaload, 1, []), some (.invokestatic 80, 3, [27, 455, 1]), none, none, some (.istore 5, 2, []), none, some (.iload 5, 2, []), none, some (.iconst (-1), 1, []), some (.if_icmp .eq (20), 3, []), none, none, some (.aload_n 1, 1, []), some (.getfield 24, 3, [1, 0, 109, 1]), none, none, some (.iload 5, 2, []), none, some (.iaload, 1, []), some (.invokestatic 30, 3, [28, 444, 1]), none, none, some (.aload_n 1, 1, []), some (.getfield 34, 3, [1, 1, 116, 1]), none, none, some (.if_icmp .ne (4), 3, []), none, none, some (.return_, 1, []), some (.aload_n 0, 1, []), some (.getfield 9, 3, [3, 0, 190, 0]), none, none, some (.iload 5, 2, []), none, some (.dup2, 1, []), some (.laload, 1, []), some (.lconst 1, 1, []), some (.iload_n 2, 1, []), some (.lshl, 1, []), some (.lor, 1, []), some (.lastore, 1, []), some (.aload_n 1, 1, []), some (.getfield 24, 3, [1, 0, 109, 1]), none, none, some (.iload 5, 2, []), none, some (.iaload, 1, []), some (.ifCond .eq (4), 3, []), none, none, some (.return_, 1, []), some (.iinc 6 (1), 3, []), none, none, some (.goto (-75), 3, []), none, none, some (.return_, 1, [])], (1, 24, 1, 4), [])
set_option maxRecDepth 100000 in
theorem st_Mt_addAlong : jokT2 M_Mt_addAlong 0 (jt M_Mt_addAlong) = true := by decide +kernel
set_option maxRecDepth 100000 in
theorem ok_Mt_addAlong : jokM M_Mt_addAlong := ⟨by decide +kernel, jwat_in (i := 479) (by decide +kernel), jwat_in (i := 75) (by decide +kernel), ⟨by decide +kernel, by decide +kernel, by decide +kernel⟩, by rw [if_neg (by decide)]; exact ⟨jwat_in (i := 478) (by decide +kernel), jwat_in (i := 11) (by decide +kernel)⟩⟩
end
section
def M_Mt_addCastling : jM := ((⟨"ChessLedger$MoveTable", "addCastling", "(LChessLedger$Board;)V"⟩, prog_4_method_9_code, 3, none), [some (.aload_n 1, 1, []), some (.getfield 34, 3, [1, 1, 116, 1]), none, none, some (.invokestatic 107, 3, [16, 486, 1]), none, none, some (.istore_n 2, 1, []), some (.aload_n 1, 1, []), some (.iconst (0), 1, []), some (.invokevirtual 110, 3, [51, 487, 0]), none, none, some (.ifCond .eq (17), 3, []), none, none, some (.aload_n 0, 1, []), some (.getfield 9, 3, [3, 0, 190, 0]), none, none, some (.iload_n 2, 1, []), some (.iconst (2), 1, []), some (.iadd, 1, []), some (.dup2, 1, []), some (.laload, 1, []), some (.lconst 1, 1, []), some (.iload_n 2, 1, []), some (.lshl, 1, []), some (.lor, 1, []), some (.lastore, 1, []), some (.aload_n 1, 1, []), some (.iconst (1), 1, []), some (.invokevirtual 110, 3, [51, 487, 0]), none, none, some (.ifCond .eq (17), 3, []), none, none, some (.aload_n 0, 1, []), some (.getfield 9, 3, [3, 0, 190, 0]), none, none, some (.iload_n 2, 1, []), some (.iconst (2), 1, []), some (.isub, 1, []), some (.dup2, 1, []), some (.laload, 1, []), some (.lconst 1, 1, []), some (.iload_n 2, 1, []), some (.lshl, 1, []), some (.lor, 1, []), some (.lastore, 1, []), some (.return_, 1, [])], (4, 100, 1, 1), [])
set_option maxRecDepth 100000 in
theorem st_Mt_addCastling : jokT2 M_Mt_addCastling 0 (jt M_Mt_addCastling) = true := by decide +kernel
set_option maxRecDepth 100000 in
theorem ok_Mt_addCastling : jokM M_Mt_addCastling := ⟨by decide +kernel, jwat_in (i := 485) (by decide +kernel), jwat_in (i := 75) (by decide +kernel), ⟨by decide +kernel, by decide +kernel, by decide +kernel⟩, by rw [if_neg (by decide)]; exact ⟨jwat_in (i := 484) (by decide +kernel), jwat_in (i := 12) (by decide +kernel)⟩⟩
def M_Bd_mayCastle : jM := ((⟨"ChessLedger$Board", "mayCastle", "(I)Z"⟩, prog_2_method_16_code, 6, (some .boolean)), [some (.aload_n 0, 1, []), some (.getfield 19, 3, [1, 2, 122, 0]), none, none, some (.aload_n 0, 1, []), some (.getfield 15, 3, [1, 1, 115, 0]), none, none, some (.iload_n 1, 1, []), some (.invokestatic 118, 3, [20, 343, 1]), none, none, some (.iand, 1, []), some (.ifCond .ne (5), 3, []), none, none, some (.iconst (0), 1, []), some (.ireturn, 1, []), some (.aload_n 0, 1, []), some (.getfield 15, 3, [1, 1, 115, 0]), none, none, some (.invokestatic 121, 3, [16, 331, 1]), none, none, some (.istore_n 2, 1, []), some (.aload_n 0, 1, []), some (.getfield 15, 3, [1, 1, 115, 0]), none, none, some (.iload_n 1, 1, []), some (.invokestatic 124, 3, [19, 340, 1]), none, none, some (.istore_n 3, 1, []), some (.iload_n 2, 1, []), some (.iload_n 3, 1, []), some (.invokestatic 127, 3, [2, 491, 492, 81, 493]), none, none, some (.iconst (1), 1, []), some (.iadd, 1, []), some (.istore 4, 2, []), none, some (.iload 4, 2, []), none, some (.iload_n 2, 1, []), some (.iload_n 3, 1, []), some (.invokestatic 86, 3, [1, 391, 392, 81, 393]), none, none, some (.if_icmp .ge (21), 3, []), none, none, some (.aload_n 0, 1, []), some (.getfield 9, 3, [1, 0, 108, 0]), none, none, some (.iload 4, 2, []), none, some (.iaload, 1, []), some (.ifCond .eq (5), 3, []), none, none, some (.iconst (0), 1, []), some (.ireturn, 1, []), some (.iinc 4 (1), 3, []), none, none, some (.goto (-25), 3, []), none, none, some (.iconst (0), 1, []), some (.istore 4, 2, []), none, some (.iload 4, 2, []), none, some (.iconst (2), 1, []), some (.if_icmp .gt (47), 3, []), none, none, some (.iload_n 3, 1, []), some (.iload_n 2, 1, []), some (.if_icmp .le (10), 3, []), none, none, some (.iload_n 2, 1, []), some (.iload 4, 2, []), none, some (.iadd, 1, []), some (.goto (7), 3, []), none, none, some (.iload_n 2, 1, []), some (.iload 4, 2, []), none, some (.isub, 1, []), some (.istore 5, 2, []), none, some (.aload_n 0, 1, []), some (.iload 5, 2, []), none, some (.aload_n 0, 1, []), some (.getfield 15, 3, [1, 1, 115, 0]), none, none, some (.invokestatic 95, 3, [22, 350, 1]), none, none, some (.invokevirtual 98, 3, [25, 363, 0]), none, none, some (.lconst 0, 1, []), some (.lcmp, 1, []), some (.ifCond .eq (5), 3, []), none, none, some (.iconst (0), 1, []), some (.ireturn, 1, []), some (.iinc 4 (1), 3, []), none, none, some (.goto (-47), 3, []), none, none, some (.iconst (1), 1, []), some (.ireturn, 1, [])], (3, 75, 1, 1), [])
set_option maxRecDepth 100000 in
theorem st_Bd_mayCastle : jokT2 M_Bd_mayCastle 0 (jt M_Bd_mayCastle) = true := by decide +kernel
set_option maxRecDepth 100000 in
theorem ok_Bd_mayCastle : jokM M_Bd_mayCastle := ⟨by decide +kernel, jwat_in (i := 490) (by decide +kernel), jwat_in (i := 73) (by decide +kernel), ⟨by decide +kernel, by decide +kernel, by decide +kernel⟩, by rw [if_neg (by decide)]; exact ⟨jwat_in (i := 488) (by decide +kernel), jwat_in (i := 489) (by decide +kernel)⟩⟩
def M_Mt_legalOf : jM := ((⟨"ChessLedger$MoveTable", "legalOf", "(LChessLedger$Board;JII)J"⟩, prog_4_method_10_code, 11, (some .long)), [some (.lconst 0, 1, []), some (.lstore 5, 2, []), none, some (.lload_n 1, 1, []), some (.lstore 7, 2, []), none, some (.lload_n 1, 1, []), some (.invokestatic 113, 3, [53, 498, 0]), none, none, some (.istore 9, 2, []), none, some (.iload 9, 2, []), none, some (.ifCond .le (46), 3, []), none, none, some (.lload 7, 2, []), none, some (.invokestatic 119, 3, [54, 504, 0]), none, none, some (.istore 10, 2, []), none, some (.lload 7, 2, []), none, some (.lload 7, 2, []), none, some (.lconst 1, 1, []), some (.lsub, 1, []), some (.land, 1, []), some (.lstore 7, 2, []), none, some (.aload_n 0, 1, []), some (.iload 10, 2, []), none, some (.iload_n 3, 1, []), some (.iload 4, 2, []), none, some (.invokevirtual 122, 3, [34, 511, 0]), none, none, some (.ifCond .eq (12), 3, []), none, none, some (.lload 5, 2, []), none, some (.lconst 1, 1, []), some (.iload 10, 2, []), none, some (.lshl, 1, []), some (.lor, 1, []), some (.lstore 5, 2, []), none, some (.iinc 9 (-1), 3, []), none, none, some (.goto (-45), 3, []), none, none, some (.lload 5, 2, []), none, some (.lreturn, 1, [])], (4, 102, 0, 4), [])
set_option maxRecDepth 100000 in
theorem st_Mt_legalOf : jokT2 M_Mt_legalOf 0 (jt M_Mt_legalOf) = true := by decide +kernel
set_option maxRecDepth 100000 in
theorem ok_Mt_legalOf : jokM M_Mt_legalOf := ⟨by decide +kernel, jwat_in (i := 497) (by decide +kernel), jwat_in (i := 75) (by decide +kernel), ⟨by decide +kernel, by decide +kernel, by decide +kernel⟩, by rw [if_pos (show jk M_Mt_legalOf = 0 from rfl)]; exact jwat_in (i := 496) (by decide +kernel)⟩
def M_Jl_bitCount : jM := ((⟨"java/lang/Long", "bitCount", "(J)I"⟩, prog_11_method_50_code, 2, (some .int)), [some (.lload_n 0, 1, []), some (.lload_n 0, 1, []), some (.iconst (1), 1, []), some (.lushr, 1, []), some (.ldc2_w 314, 3, [501, 6148914691236517205]), none, none, some (.land, 1, []), some (.lsub, 1, []), some (.lstore_n 0, 1, []), some (.lload_n 0, 1, []), some (.ldc2_w 316, 3, [502, 3689348814741910323]), none, none, some (.land, 1, []), some (.lload_n 0, 1, []), some (.iconst (2), 1, []), some (.lushr, 1, []), some (.ldc2_w 316, 3, [502, 3689348814741910323]), none, none, some (.land, 1, []), some (.ladd, 1, []), some (.lstore_n 0, 1, []), some (.lload_n 0, 1, []), some (.lload_n 0, 1, []), some (.iconst (4), 1, []), some (.lushr, 1, []), some (.ladd, 1, []), some (.ldc2_w 318, 3, [503, 1085102592571150095]), none, none, some (.land, 1, []), some (.lstore_n 0, 1, []), some (.lload_n 0, 1, []), some (.lload_n 0, 1, []), some (.bipush (8), 2, []), none, some (.lushr, 1, []), some (.ladd, 1, []), some (.lstore_n 0, 1, []), some (.lload_n 0, 1, []), some (.lload_n 0, 1, []), some (.bipush (16), 2, []), none, some (.lushr, 1, []), some (.ladd, 1, []), some (.lstore_n 0, 1, []), some (.lload_n 0, 1, []), some (.lload_n 0, 1, []), some (.bipush (32), 2, []), none, some (.lushr, 1, []), some (.ladd, 1, []), some (.lstore_n 0, 1, []), some (.lload_n 0, 1, []), some (.l2i, 1, []), some (.bipush (127), 2, []), none, some (.iand, 1, []), some (.ireturn, 1, [])], (0, 0, 0, 1), [])
set_option maxRecDepth 100000 in
theorem st_Jl_bitCount : jokT2 M_Jl_bitCount 0 (jt M_Jl_bitCount) = true := by decide +kernel
set_option maxRecDepth 100000 in
theorem ok_Jl_bitCount : jokM M_Jl_bitCount := ⟨by decide +kernel, jwat_in (i := 500) (by decide +kernel), jwat_in (i := 82) (by decide +kernel), ⟨by decide +kernel, by decide +kernel, by decide +kernel⟩, by rw [if_pos (show jk M_Jl_bitCount = 0 from rfl)]; exact jwat_in (i := 499) (by decide +kernel)⟩
def M_Jl_numberOfTrailingZeros : jM := ((⟨"java/lang/Long", "numberOfTrailingZeros", "(J)I"⟩, prog_11_method_49_code, 3, (some .int)), [some (.lload_n 0, 1, []), some (.l2i, 1, []), some (.istore_n 2, 1, []), some (.iload_n 2, 1, []), some (.ifCond .ne (17), 3, []), none, none, some (.bipush (32), 2, []), none, some (.lload_n 0, 1, []), some (.bipush (32), 2, []), none, some (.lushr, 1, []), some (.l2i, 1, []), some (.invokestatic 311, 3, [55, 507, 0]), none, none, some (.iadd, 1, []), some (.goto (7), 3, []), none, none, some (.iload_n 2, 1, []), some (.invokestatic 311, 3, [55, 507, 0]), none, none, some (.ireturn, 1, [])], (1, 21, 0, 1), [])
set_option maxRecDepth 100000 in
theorem st_Jl_numberOfTrailingZeros : jokT2 M_Jl_numberOfTrailingZeros 0 (jt M_Jl_numberOfTrailingZeros) = true := by decide +kernel
set_option maxRecDepth 100000 in
theorem ok_Jl_numberOfTrailingZeros : jokM M_Jl_numberOfTrailingZeros := ⟨by decide +kernel, jwat_in (i := 506) (by decide +kernel), jwat_in (i := 82) (by decide +kernel), ⟨by decide +kernel, by decide +kernel, by decide +kernel⟩, by rw [if_pos (show jk M_Jl_numberOfTrailingZeros = 0 from rfl)]; exact jwat_in (i := 505) (by decide +kernel)⟩
def M_Ji_numberOfTrailingZeros : jM := ((⟨"java/lang/Integer", "numberOfTrailingZeros", "(I)I"⟩, prog_10_method_48_code, 2, (some .int)), [some (.iload_n 0, 1, []), some (.iconst (-1), 1, []), some (.ixor, 1, []), some (.iload_n 0, 1, []), some (.iconst (1), 1, []), some (.isub, 1, []), some (.iand, 1, []), some (.istore_n 0, 1, []), some (.iload_n 0, 1, []), some (.ifCond .gt (8), 3, []), none, none, some (.iload_n 0, 1, []), some (.bipush (32), 2, []), none, some (.iand, 1, []), some (.ireturn, 1, []), some (.iconst (1), 1, []), some (.istore_n 1, 1, []), some (.iload_n 0, 1, []), some (.ldc_w 264, 3, [510, 65536]), none, none, some (.if_icmp .le (11), 3, []), none, none, some (.iinc 1 (16), 3, []), none, none, some (.iload_n 0, 1, []), some (.bipush (16), 2, []), none, some (.iushr, 1, []), some (.istore_n 0, 1, []), some (.iload_n 0, 1, []), some (.sipush (256), 3, []), none, none, some (.if_icmp .le (11), 3, []), none, none, some (.iinc 1 (8), 3, []), none, none, some (.iload_n 0, 1, []), some (.bipush (8), 2, []), none, some (.iushr, 1, []), some (.istore_n 0, 1, []), some (.iload_n 0, 1, []), some (.bipush (16), 2, []), none, some (.if_icmp .le (10), 3, []), none, none, some (.iinc 1 (4), 3, []), none, none, some (.iload_n 0, 1, []), some (.iconst (4), 1, []), some (.iushr, 1, []), some (.istore_n 0, 1, []), some (.iload_n 0, 1, []), some (.iconst (4), 1, []), some (.if_icmp .le (10), 3, []), none, none, some (.iinc 1 (2), 3, []), none, none, some (.iload_n 0, 1, []), some (.iconst (2), 1, []), some (.iushr, 1, []), some (.istore_n 0, 1, []), some (.iload_n 1, 1, []), some (.iload_n 0, 1, []), some (.iconst (1), 1, []), some (.iushr, 1, []), some (.iadd, 1, []), some (.ireturn, 1, [])], (0, 0, 0, 1), [])
set_option maxRecDepth 100000 in
theorem st_Ji_numberOfTrailingZeros : jokT2 M_Ji_numberOfTrailingZeros 0 (jt M_Ji_numberOfTrailingZeros) = true := by decide +kernel
set_option maxRecDepth 100000 in
theorem ok_Ji_numberOfTrailingZeros : jokM M_Ji_numberOfTrailingZeros := ⟨by decide +kernel, jwat_in (i := 509) (by decide +kernel), jwat_in (i := 83) (by decide +kernel), ⟨by decide +kernel, by decide +kernel, by decide +kernel⟩, by rw [if_pos (show jk M_Ji_numberOfTrailingZeros = 0 from rfl)]; exact jwat_in (i := 508) (by decide +kernel)⟩
def M_Mt_size : jM := ((⟨"ChessLedger$MoveTable", "size", "()I"⟩, prog_4_method_11_code, 3, (some .int)), [some (.iconst (0), 1, []), some (.istore_n 1, 1, []), some (.iconst (0), 1, []), some (.istore_n 2, 1, []), some (.iload_n 2, 1, []), some (.bipush (64), 2, []), none, some (.if_icmp .ge (33), 3, []), none, none, some (.iload_n 1, 1, []), some (.aload_n 0, 1, []), some (.getfield 9, 3, [3, 0, 190, 0]), none, none, some (.iload_n 2, 1, []), some (.laload, 1, []), some (.invokestatic 113, 3, [53, 498, 0]), none, none, some (.iconst (4), 1, []), some (.aload_n 0, 1, []), some (.getfield 15, 3, [3, 1, 191, 0]), none, none, some (.iload_n 2, 1, []), some (.laload, 1, []), some (.invokestatic 113, 3, [53, 498, 0]), none, none, some (.imul, 1, []), some (.iadd, 1, []), some (.iadd, 1, []), some (.istore_n 1, 1, []), some (.iinc 2 (1), 3, []), none, none, some (.goto (-33), 3, []), none, none, some (.iload_n 1, 1, []), some (.ireturn, 1, [])], (1, 21, 1, 0), [])
set_option maxRecDepth 100000 in
theorem st_Mt_size : jokT2 M_Mt_size 0 (jt M_Mt_size) = true := by decide +kernel
set_option maxRecDepth 100000 in
theorem ok_Mt_size : jokM M_Mt_size := ⟨by decide +kernel, jwat_in (i := 515) (by decide +kernel), jwat_in (i := 75) (by decide +kernel), ⟨by decide +kernel, by decide +kernel, by decide +kernel⟩, by rw [if_neg (by decide)]; exact ⟨jwat_in (i := 514) (by decide +kernel), jwat_in (i := 13) (by decide +kernel)⟩⟩
def M_X_move : jM := ((⟨"ChessLedger", "move", "(I)I"⟩, prog_1_method_8_code, 2, (some .int)), [some (.aload_n 0, 1, []), some (.getfield 62, 3, [0, 9, 246, 0]), none, none, some (.ifCond .eq (22), 3, []), none, none, some (.iload_n 1, 1, []), some (.ifCond .lt (18), 3, []), none, none, some (.iload_n 1, 1, []), some (.aload_n 0, 1, []), some (.getfield 31, 3, [0, 3, 240, 0]), none, none, some (.aload_n 0, 1, []), some (.getfield 20, 3, [0, 1, 238, 0]), none, none, some (.invokevirtual 113, 3, [41, 437, 0]), none, none, some (.if_icmp .lt (5), 3, []), none, none, some (.iconst (-1), 1, []), some (.ireturn, 1, []), some (.aload_n 0, 1, []), some (.getfield 31, 3, [0, 3, 240, 0]), none, none, some (.iload_n 1, 1, []), some (.invokevirtual 117, 3, [58, 520, 0]), none, none, some (.ireturn, 1, [])], (6, 155, 1, 1), [])
set_option maxRecDepth 100000 in
theorem st_X_move : jokT2 M_X_move 0 (jt M_X_move) = true := by decide +kernel
set_option maxRecDepth 100000 in
theorem ok_X_move : jokM M_X_move := ⟨by decide +kernel, jwat_in (i := 519) (by decide +kernel), jwat_in (i := 71) (by decide +kernel), ⟨by decide +kernel, by decide +kernel, by decide +kernel⟩, by rw [if_neg (by decide)]; exact ⟨jwat_in (i := 517) (by decide +kernel), jwat_in (i := 518) (by decide +kernel)⟩⟩
def M_Mt_codeOf : jM := ((⟨"ChessLedger$MoveTable", "codeOf", "(I)I"⟩, prog_4_method_13_code, 8, (some .int)), [some (.iload_n 1, 1, []), some (.istore_n 2, 1, []), some (.iconst (0), 1, []), some (.istore_n 3, 1, []), some (.iload_n 3, 1, []), some (.iconst (4), 1, []), some (.if_icmp .gt (71), 3, []), none, none, some (.iconst (0), 1, []), some (.istore 4, 2, []), none, some (.iload 4, 2, []), none, some (.bipush (64), 2, []), none, some (.if_icmp .ge (55), 3, []), none, none, some (.aload_n 0, 1, []), some (.iload_n 3, 1, []), some (.iload 4, 2, []), none, some (.invokevirtual 126, 3, [59, 524, 0]), none, none, some (.lstore 5, 2, []), none, some (.lload 5, 2, []), none, some (.invokestatic 113, 3, [53, 498, 0]), none, none, some (.istore 7, 2, []), none, some (.iload_n 2, 1, []), some (.iload 7, 2, []), none, some (.if_icmp .ge (22), 3, []), none, none, some (.lload 5, 2, []), none, some (.iload_n 2, 1, []), some (.invokestatic 130, 3, [60, 528, 0]), none, none, some (.bipush (64), 2, []), none, some (.iload 4, 2, []), none, some (.imul, 1, []), some (.iadd, 1, []), some (.sipush (4096), 3, []), none, none, some (.iload_n 3, 1, []), some (.imul, 1, []), some (.iadd, 1, []), some (.ireturn, 1, []), some (.iload_n 2, 1, []), some (.iload 7, 2, []), none, some (.isub, 1, []), some (.istore_n 2, 1, []), some (.iinc 4 (1), 3, []), none, none, some (.goto (-56), 3, []), none, none, some (.iinc 3 (1), 3, []), none, none, some (.goto (-70), 3, []), none, none, some (.iconst (-1), 1, []), some (.ireturn, 1, [])], (3, 68, 1, 1), [])
set_option maxRecDepth 100000 in
theorem st_Mt_codeOf : jokT2 M_Mt_codeOf 0 (jt M_Mt_codeOf) = true := by decide +kernel
set_option maxRecDepth 100000 in
theorem ok_Mt_codeOf : jokM M_Mt_codeOf := ⟨by decide +kernel, jwat_in (i := 523) (by decide +kernel), jwat_in (i := 75) (by decide +kernel), ⟨by decide +kernel, by decide +kernel, by decide +kernel⟩, by rw [if_neg (by decide)]; exact ⟨jwat_in (i := 521) (by decide +kernel), jwat_in (i := 522) (by decide +kernel)⟩⟩
def M_Mt_sourcesOf : jM := ((⟨"ChessLedger$MoveTable", "sourcesOf", "(II)J"⟩, prog_4_method_12_code, 3, (some .long)), [some (.iload_n 1, 1, []), some (.ifCond .ne (12), 3, []), none, none, some (.aload_n 0, 1, []), some (.getfield 9, 3, [3, 0, 190, 0]), none, none, some (.iload_n 2, 1, []), some (.laload, 1, []), some (.goto (9), 3, []), none, none, some (.aload_n 0, 1, []), some (.getfield 15, 3, [3, 1, 191, 0]), none, none, some (.iload_n 2, 1, []), some (.laload, 1, []), some (.lreturn, 1, [])], (0, 0, 1, 2), [])
set_option maxRecDepth 100000 in
theorem st_Mt_sourcesOf : jokT2 M_Mt_sourcesOf 0 (jt M_Mt_sourcesOf) = true := by decide +kernel
set_option maxRecDepth 100000 in
theorem ok_Mt_sourcesOf : jokM M_Mt_sourcesOf := ⟨by decide +kernel, jwat_in (i := 527) (by decide +kernel), jwat_in (i := 75) (by decide +kernel), ⟨by decide +kernel, by decide +kernel, by decide +kernel⟩, by rw [if_neg (by decide)]; exact ⟨jwat_in (i := 526) (by decide +kernel), jwat_in (i := 14) (by decide +kernel)⟩⟩
def M_Mt_bitNumber : jM := ((⟨"ChessLedger$MoveTable", "bitNumber", "(JI)I"⟩, prog_4_method_14_code, 6, (some .int)), [some (.lload_n 0, 1, []), some (.lstore_n 3, 1, []), some (.iconst (0), 1, []), some (.istore 5, 2, []), none, some (.iload 5, 2, []), none, some (.iload_n 2, 1, []), some (.if_icmp .ge (15), 3, []), none, none, some (.lload_n 3, 1, []), some (.lload_n 3, 1, []), some (.lconst 1, 1, []), some (.lsub, 1, []), some (.land, 1, []), some (.lstore_n 3, 1, []), some (.iinc 5 (1), 3, []), none, none, some (.goto (-15), 3, []), none, none, some (.lload_n 3, 1, []), some (.invokestatic 119, 3, [54, 504, 0]), none, none, some (.ireturn, 1, [])], (2, 43, 0, 2), [])
set_option maxRecDepth 100000 in
theorem st_Mt_bitNumber : jokT2 M_Mt_bitNumber 0 (jt M_Mt_bitNumber) = true := by decide +kernel
set_option maxRecDepth 100000 in
theorem ok_Mt_bitNumber : jokM M_Mt_bitNumber := ⟨by decide +kernel, jwat_in (i := 530) (by decide +kernel), jwat_in (i := 75) (by decide +kernel), ⟨by decide +kernel, by decide +kernel, by decide +kernel⟩, by rw [if_pos (show jk M_Mt_bitNumber = 0 from rfl)]; exact jwat_in (i := 529) (by decide +kernel)⟩
def M_X_make : jM := ((⟨"ChessLedger", "make", "(I)I"⟩, prog_1_method_9_code, 2, (some .int)), [some (.aload_n 0, 1, []), some (.getfield 62, 3, [0, 9, 246, 0]), none, none, some (.ifCond .eq (16), 3, []), none, none, some (.aload_n 0, 1, []), some (.getfield 10, 3, [0, 0, 237, 0]), none, none, some (.getfield 110, 3, [2, 6, 157, 1]), none, none, some (.sipush (300), 3, []), none, none, some (.if_icmp .lt (5), 3, []), none, none, some (.iconst (0), 1, []), some (.ireturn, 1, []), some (.aload_n 0, 1, []), some (.getfield 31, 3, [0, 3, 240, 0]), none, none, some (.aload_n 0, 1, []), some (.getfield 20, 3, [0, 1, 238, 0]), none, none, some (.invokevirtual 113, 3, [41, 437, 0]), none, none, some (.pop, 1, []), some (.aload_n 0, 1, []), some (.getfield 31, 3, [0, 3, 240, 0]), none, none, some (.iload_n 1, 1, []), some (.invokevirtual 121, 3, [62, 535, 0]), none, none, some (.ifCond .ne (5), 3, []), none, none, some (.iconst (0), 1, []), some (.ireturn, 1, []), some (.aload_n 0, 1, []), some (.getfield 10, 3, [0, 0, 237, 0]), none, none, some (.iload_n 1, 1, []), some (.invokevirtual 124, 3, [63, 539, 0]), none, none, some (.aload_n 0, 1, []), some (.getfield 24, 3, [0, 2, 239, 0]), none, none, some (.aload_n 0, 1, []), some (.getfield 10, 3, [0, 0, 237, 0]), none, none, some (.getfield 110, 3, [2, 6, 157, 1]), none, none, some (.aload_n 0, 1, []), some (.getfield 20, 3, [0, 1, 238, 0]), none, none, some (.aload_n 0, 1, []), some (.getfield 20, 3, [0, 1, 238, 0]), none, none, some (.invokevirtual 128, 3, [32, 401, 0]), none, none, some (.invokevirtual 132, 3, [36, 417, 0]), none, none, some (.iconst (1), 1, []), some (.ireturn, 1, [])], (6, 155, 1, 1), [])
set_option maxRecDepth 100000 in
theorem st_X_make : jokT2 M_X_make 0 (jt M_X_make) = true := by decide +kernel
set_option maxRecDepth 100000 in
theorem ok_X_make : jokM M_X_make := ⟨by decide +kernel, jwat_in (i := 534) (by decide +kernel), jwat_in (i := 71) (by decide +kernel), ⟨by decide +kernel, by decide +kernel, by decide +kernel⟩, by rw [if_neg (by decide)]; exact ⟨jwat_in (i := 532) (by decide +kernel), jwat_in (i := 533) (by decide +kernel)⟩⟩
def M_Mt_holds : jM := ((⟨"ChessLedger$MoveTable", "holds", "(I)Z"⟩, prog_4_method_15_code, 4, (some .boolean)), [some (.iload_n 1, 1, []), some (.ifCond .lt (10), 3, []), none, none, some (.iload_n 1, 1, []), some (.sipush (20480), 3, []), none, none, some (.if_icmp .lt (5), 3, []), none, none, some (.iconst (0), 1, []), some (.ireturn, 1, []), some (.aload_n 0, 1, []), some (.iload_n 1, 1, []), some (.bipush (12), 2, []), none, some (.ishr, 1, []), some (.iload_n 1, 1, []), some (.bipush (6), 2, []), none, some (.ishr, 1, []), some (.bipush (63), 2, []), none, some (.iand, 1, []), some (.invokevirtual 126, 3, [59, 524, 0]), none, none, some (.lstore_n 2, 1, []), some (.lload_n 2, 1, []), some (.iload_n 1, 1, []), some (.bipush (63), 2, []), none, some (.iand, 1, []), some (.lshr, 1, []), some (.lconst 1, 1, []), some (.land, 1, []), some (.lconst 0, 1, []), some (.lcmp, 1, []), some (.ifCond .eq (7), 3, []), none, none, some (.iconst (1), 1, []), some (.goto (4), 3, []), none, none, some (.iconst (0), 1, []), some (.ireturn, 1, [])], (1, 22, 1, 1), [])
set_option maxRecDepth 100000 in
theorem st_Mt_holds : jokT2 M_Mt_holds 0 (jt M_Mt_holds) = true := by decide +kernel
set_option maxRecDepth 100000 in
theorem ok_Mt_holds : jokM M_Mt_holds := ⟨by decide +kernel, jwat_in (i := 538) (by decide +kernel), jwat_in (i := 75) (by decide +kernel), ⟨by decide +kernel, by decide +kernel, by decide +kernel⟩, by rw [if_neg (by decide)]; exact ⟨jwat_in (i := 536) (by decide +kernel), jwat_in (i := 537) (by decide +kernel)⟩⟩
def M_Gm_play : jM := ((⟨"ChessLedger$Game", "play", "(I)V"⟩, prog_3_method_3_code, 8, none), [some (.iload_n 1, 1, []), some (.ifCond .lt (13), 3, []), none, none, some (.aload_n 0, 1, []), some (.getfield 34, 3, [2, 6, 156, 0]), none, none, some (.sipush (301), 3, []), none, none, some (.if_icmp .lt (4), 3, []), none, none, some (.return_, 1, []), some (.iload_n 1, 1, []), some (.bipush (63), 2, []), none, some (.iand, 1, []), some (.istore_n 2, 1, []), some (.iload_n 1, 1, []), some (.bipush (6), 2, []), none, some (.ishr, 1, []), some (.bipush (63), 2, []), none, some (.iand, 1, []), some (.istore_n 3, 1, []), some (.aload_n 0, 1, []), some (.getfield 12, 3, [2, 0, 149, 0]), none, none, some (.iload_n 2, 1, []), some (.iload_n 3, 1, []), some (.invokevirtual 38, 3, [35, 543, 0]), none, none, some (.istore 4, 2, []), none, some (.aload_n 0, 1, []), some (.getfield 12, 3, [2, 0, 149, 0]), none, none, some (.getfield 42, 3, [1, 0, 112, 1]), none, none, some (.iload_n 2, 1, []), some (.iaload, 1, []), some (.istore 5, 2, []), none, some (.aload_n 0, 1, []), some (.getfield 12, 3, [2, 0, 149, 0]), none, none, some (.getfield 42, 3, [1, 0, 112, 1]), none, none, some (.iload 4, 2, []), none, some (.iaload, 1, []), some (.istore 6, 2, []), none, some (.aload_n 0, 1, []), some (.iload_n 1, 1, []), some (.iload 6, 2, []), none, some (.invokevirtual 45, 3, [64, 544, 0]), none, none, some (.aload_n 0, 1, []), some (.getfield 12, 3, [2, 0, 149, 0]), none, none, some (.getfield 42, 3, [1, 0, 112, 1]), none, none, some (.iload 4, 2, []), none, some (.iconst (0), 1, []), some (.iastore, 1, []), some (.aload_n 0, 1, []), some (.getfield 12, 3, [2, 0, 149, 0]), none, none, some (.getfield 42, 3, [1, 0, 112, 1]), none, none, some (.iload_n 2, 1, []), some (.iconst (0), 1, []), some (.iastore, 1, []), some (.aload_n 0, 1, []), some (.getfield 12, 3, [2, 0, 149, 0]), none, none, some (.getfield 42, 3, [1, 0, 112, 1]), none, none, some (.iload_n 3, 1, []), some (.iload 5, 2, []), none, some (.iastore, 1, []), some (.iload 5, 2, []), none, some (.invokestatic 49, 3, [13, 548, 1]), none, none, some (.iconst (1), 1, []), some (.if_icmp .ne (7), 3, []), none, none, some (.iconst (1), 1, []), some (.goto (4), 3, []), none, none, some (.iconst (0), 1, []), some (.istore 7, 2, []), none, some (.iload_n 1, 1, []), some (.sipush (4096), 3, []), none, none, some (.if_icmp .lt (28), 3, []), none, none, some (.aload_n 0, 1, []), some (.getfield 12, 3, [2, 0, 149, 0]), none, none, some (.getfield 42, 3, [1, 0, 112, 1]), none, none, some (.iload_n 3, 1, []), some (.iconst (1), 1, []), some (.iload_n 1, 1, []), some (.bipush (12), 2, []), none, some (.ishr, 1, []), some (.iadd, 1, []), some (.aload_n 0, 1, []), some (.getfield 12, 3, [2, 0, 149, 0]), none, none, some (.getfield 53, 3, [1, 1, 119, 1]), none, none, some (.invokestatic 56, 3, [14, 549, 1]), none, none, some (.iastore, 1, []), some (.iload 5, 2, []), none, some (.iload_n 2, 1, []), some (.iload_n 3, 1, []), some (.invokestatic 59, 3, [65, 550, 0]), none, none, some (.ifCond .eq (17), 3, []), none, none, some (.aload_n 0, 1, []), some (.iload_n 2, 1, []), some (.iload_n 3, 1, []), some (.invokestatic 63, 3, [66, 554, 0]), none, none, some (.iload_n 2, 1, []), some (.iload_n 3, 1, []), some (.iadd, 1, []), some (.iconst (2), 1, []), some (.idiv, 1, []), some (.invokevirtual 66, 3, [67, 558, 0]), none, none, some (.aload_n 0, 1, []), some (.getfield 12, 3, [2, 0, 149, 0]), none, none, some (.aload_n 0, 1, []), some (.getfield 12, 3, [2, 0, 149, 0]), none, none, some (.getfield 53, 3, [1, 1, 119, 1]), none, none, some (.invokestatic 69, 3, [22, 562, 1]), none, none, some (.aload_n 0, 1, []), some (.getfield 12, 3, [2, 0, 149, 0]), none, none, some (.getfield 72, 3, [1, 2, 124, 1]), none, none, some (.iload_n 2, 1, []), some (.invokestatic 75, 3, [68, 563, 0]), none, none, some (.iload_n 3, 1, []), some (.invokestatic 75, 3, [68, 563, 0]), none, none, some (.ior, 1, []), some (.iconst (-1), 1, []), some (.ixor, 1, []), some (.iand, 1, []), some (.iload 7, 2, []), none, some (.ifCond .eq (21), 3, []), none, none, some (.iload_n 3, 1, []), some (.iload_n 2, 1, []), some (.isub, 1, []), some (.invokestatic 78, 3, [0, 553, 386, 81, 387]), none, none, some (.bipush (16), 2, []), none, some (.if_icmp .ne (10), 3, []), none, none, some (.iload_n 2, 1, []), some (.bipush (7), 2, []), none, some (.iand, 1, []), some (.goto (4), 3, []), none, none, some (.iconst (-1), 1, []), some (.iload 7, 2, []), none, some (.ifCond .ne (8), 3, []), none, none, some (.iload 6, 2, []), none, some (.ifCond .eq (7), 3, []), none, none, some (.iconst (0), 1, []), some (.goto (12), 3, []), none, none, some (.aload_n 0, 1, []), some (.getfield 12, 3, [2, 0, 149, 0]), none, none, some (.getfield 83, 3, [1, 4, 133, 1]), none, none, some (.iconst (1), 1, []), some (.iadd, 1, []), some (.invokevirtual 86, 3, [3, 569, 0]), none, none, some (.return_, 1, [])], (3, 65, 1, 1), [])
set_option maxRecDepth 100000 in
theorem st_Gm_play : jokT2 M_Gm_play 0 (jt M_Gm_play) = true := by decide +kernel
set_option maxRecDepth 100000 in
theorem ok_Gm_play : jokM M_Gm_play := ⟨by decide +kernel, jwat_in (i := 542) (by decide +kernel), jwat_in (i := 72) (by decide +kernel), ⟨by decide +kernel, by decide +kernel, by decide +kernel⟩, by rw [if_neg (by decide)]; exact ⟨jwat_in (i := 540) (by decide +kernel), jwat_in (i := 541) (by decide +kernel)⟩⟩
def M_Gm_remember : jM := ((⟨"ChessLedger$Game", "remember", "(II)V"⟩, prog_3_method_4_code, 3, none), [some (.aload_n 0, 1, []), some (.getfield 18, 3, [2, 1, 151, 0]), none, none, some (.aload_n 0, 1, []), some (.getfield 34, 3, [2, 6, 156, 0]), none, none, some (.iload_n 1, 1, []), some (.iastore, 1, []), some (.aload_n 0, 1, []), some (.getfield 22, 3, [2, 2, 152, 0]), none, none, some (.aload_n 0, 1, []), some (.getfield 34, 3, [2, 6, 156, 0]), none, none, some (.iload_n 2, 1, []), some (.iastore, 1, []), some (.aload_n 0, 1, []), some (.getfield 25, 3, [2, 3, 153, 0]), none, none, some (.aload_n 0, 1, []), some (.getfield 34, 3, [2, 6, 156, 0]), none, none, some (.aload_n 0, 1, []), some (.getfield 12, 3, [2, 0, 149, 0]), none, none, some (.getfield 72, 3, [1, 2, 124, 1]), none, none, some (.iastore, 1, []), some (.aload_n 0, 1, []), some (.getfield 28, 3, [2, 4, 154, 0]), none, none, some (.aload_n 0, 1, []), some (.getfield 34, 3, [2, 6, 156, 0]), none, none, some (.aload_n 0, 1, []), some (.getfield 12, 3, [2, 0, 149, 0]), none, none, some (.getfield 90, 3, [1, 3, 129, 1]), none, none, some (.iastore, 1, []), some (.aload_n 0, 1, []), some (.getfield 31, 3, [2, 5, 155, 0]), none, none, some (.aload_n 0, 1, []), some (.getfield 34, 3, [2, 6, 156, 0]), none, none, some (.aload_n 0, 1, []), some (.getfield 12, 3, [2, 0, 149, 0]), none, none, some (.getfield 83, 3, [1, 4, 133, 1]), none, none, some (.iastore, 1, []), some (.aload_n 0, 1, []), some (.dup, 1, []), some (.getfield 34, 3, [2, 6, 156, 0]), none, none, some (.iconst (1), 1, []), some (.iadd, 1, []), some (.putfield 34, 3, [2, 6, 156, 0]), none, none, some (.return_, 1, [])], (0, 0, 1, 2), [])
set_option maxRecDepth 100000 in
theorem st_Gm_remember : jokT2 M_Gm_remember 0 (jt M_Gm_remember) = true := by decide +kernel
set_option maxRecDepth 100000 in
theorem ok_Gm_remember : jokM M_Gm_remember := ⟨by decide +kernel, jwat_in (i := 547) (by decide +kernel), jwat_in (i := 72) (by decide +kernel), ⟨by decide +kernel, by decide +kernel, by decide +kernel⟩, by rw [if_neg (by decide)]; exact ⟨jwat_in (i := 546) (by decide +kernel), jwat_in (i := 15) (by decide +kernel)⟩⟩
def M_Gm_isCastling : jM := ((⟨"ChessLedger$Game", "isCastling", "(III)Z"⟩, prog_3_method_7_code, 3, (some .boolean)), [some (.iload_n 0, 1, []), some (.invokestatic 49, 3, [13, 548, 1]), none, none, some (.bipush (6), 2, []), none, some (.if_icmp .ne (17), 3, []), none, none, some (.iload_n 2, 1, []), some (.iload_n 1, 1, []), some (.isub, 1, []), some (.invokestatic 78, 3, [0, 553, 386, 81, 387]), none, none, some (.iconst (2), 1, []), some (.if_icmp .ne (7), 3, []), none, none, some (.iconst (1), 1, []), some (.goto (4), 3, []), none, none, some (.iconst (0), 1, []), some (.ireturn, 1, [])], (1, 21, 0, 3), [])
set_option maxRecDepth 100000 in
theorem st_Gm_isCastling : jokT2 M_Gm_isCastling 0 (jt M_Gm_isCastling) = true := by decide +kernel
set_option maxRecDepth 100000 in
theorem ok_Gm_isCastling : jokM M_Gm_isCastling := ⟨by decide +kernel, jwat_in (i := 552) (by decide +kernel), jwat_in (i := 72) (by decide +kernel), ⟨by decide +kernel, by decide +kernel, by decide +kernel⟩, by rw [if_pos (show jk M_Gm_isCastling = 0 from rfl)]; exact jwat_in (i := 551) (by decide +kernel)⟩
def M_Gm_castledRookFrom : jM := ((⟨"ChessLedger$Game", "castledRookFrom", "(II)I"⟩, prog_3_method_8_code, 2, (some .int)), [some (.iload_n 1, 1, []), some (.iload_n 0, 1, []), some (.if_icmp .le (8), 3, []), none, none, some (.bipush (7), 2, []), none, some (.goto (4), 3, []), none, none, some (.iconst (0), 1, []), some (.iload_n 0, 1, []), some (.iconst (3), 1, []), some (.ishr, 1, []), some (.invokestatic 93, 3, [18, 557, 1]), none, none, some (.ireturn, 1, [])], (1, 21, 0, 2), [])
set_option maxRecDepth 100000 in
theorem st_Gm_castledRookFrom : jokT2 M_Gm_castledRookFrom 0 (jt M_Gm_castledRookFrom) = true := by decide +kernel
set_option maxRecDepth 100000 in
theorem ok_Gm_castledRookFrom : jokM M_Gm_castledRookFrom := ⟨by decide +kernel, jwat_in (i := 556) (by decide +kernel), jwat_in (i := 72) (by decide +kernel), ⟨by decide +kernel, by decide +kernel, by decide +kernel⟩, by rw [if_pos (show jk M_Gm_castledRookFrom = 0 from rfl)]; exact jwat_in (i := 555) (by decide +kernel)⟩
def M_Gm_shiftPiece : jM := ((⟨"ChessLedger$Game", "shiftPiece", "(II)V"⟩, prog_3_method_6_code, 3, none), [some (.aload_n 0, 1, []), some (.getfield 12, 3, [2, 0, 149, 0]), none, none, some (.getfield 42, 3, [1, 0, 112, 1]), none, none, some (.iload_n 2, 1, []), some (.aload_n 0, 1, []), some (.getfield 12, 3, [2, 0, 149, 0]), none, none, some (.getfield 42, 3, [1, 0, 112, 1]), none, none, some (.iload_n 1, 1, []), some (.iaload, 1, []), some (.iastore, 1, []), some (.aload_n 0, 1, []), some (.getfield 12, 3, [2, 0, 149, 0]), none, none, some (.getfield 42, 3, [1, 0, 112, 1]), none, none, some (.iload_n 1, 1, []), some (.iconst (0), 1, []), some (.iastore, 1, []), some (.return_, 1, [])], (0, 0, 1, 2), [])
set_option maxRecDepth 100000 in
theorem st_Gm_shiftPiece : jokT2 M_Gm_shiftPiece 0 (jt M_Gm_shiftPiece) = true := by decide +kernel
set_option maxRecDepth 100000 in
theorem ok_Gm_shiftPiece : jokM M_Gm_shiftPiece := ⟨by decide +kernel, jwat_in (i := 561) (by decide +kernel), jwat_in (i := 72) (by decide +kernel), ⟨by decide +kernel, by decide +kernel, by decide +kernel⟩, by rw [if_neg (by decide)]; exact ⟨jwat_in (i := 560) (by decide +kernel), jwat_in (i := 16) (by decide +kernel)⟩⟩
def M_Gm_rightsAt : jM := ((⟨"ChessLedger$Game", "rightsAt", "(I)I"⟩, prog_3_method_9_code, 4, (some .int)), [some (.iconst (0), 1, []), some (.istore_n 1, 1, []), some (.iconst (0), 1, []), some (.istore_n 2, 1, []), some (.iload_n 2, 1, []), some (.iconst (1), 1, []), some (.if_icmp .gt (47), 3, []), none, none, some (.iconst (0), 1, []), some (.istore_n 3, 1, []), some (.iload_n 3, 1, []), some (.iconst (2), 1, []), some (.if_icmp .ge (34), 3, []), none, none, some (.iload_n 0, 1, []), some (.iload_n 2, 1, []), some (.invokestatic 96, 3, [16, 566, 1]), none, none, some (.if_icmp .eq (12), 3, []), none, none, some (.iload_n 0, 1, []), some (.iload_n 2, 1, []), some (.iload_n 3, 1, []), some (.invokestatic 99, 3, [19, 567, 1]), none, none, some (.if_icmp .ne (11), 3, []), none, none, some (.iload_n 1, 1, []), some (.iload_n 2, 1, []), some (.iload_n 3, 1, []), some (.invokestatic 102, 3, [20, 568, 1]), none, none, some (.ior, 1, []), some (.istore_n 1, 1, []), some (.iinc 3 (1), 3, []), none, none, some (.goto (-33), 3, []), none, none, some (.iinc 2 (1), 3, []), none, none, some (.goto (-46), 3, []), none, none, some (.iload_n 1, 1, []), some (.ireturn, 1, [])], (2, 42, 0, 1), [])
set_option maxRecDepth 100000 in
theorem st_Gm_rightsAt : jokT2 M_Gm_rightsAt 0 (jt M_Gm_rightsAt) = true := by decide +kernel
set_option maxRecDepth 100000 in
theorem ok_Gm_rightsAt : jokM M_Gm_rightsAt := ⟨by decide +kernel, jwat_in (i := 565) (by decide +kernel), jwat_in (i := 72) (by decide +kernel), ⟨by decide +kernel, by decide +kernel, by decide +kernel⟩, by rw [if_pos (show jk M_Gm_rightsAt = 0 from rfl)]; exact jwat_in (i := 564) (by decide +kernel)⟩
def M_X_back : jM := ((⟨"ChessLedger", "back", "()I"⟩, prog_1_method_10_code, 1, (some .int)), [some (.aload_n 0, 1, []), some (.getfield 10, 3, [0, 0, 237, 0]), none, none, some (.getfield 110, 3, [2, 6, 157, 1]), none, none, some (.ifCond .ne (5), 3, []), none, none, some (.iconst (0), 1, []), some (.ireturn, 1, []), some (.aload_n 0, 1, []), some (.getfield 10, 3, [0, 0, 237, 0]), none, none, some (.invokevirtual 136, 3, [70, 574, 0]), none, none, some (.iconst (1), 1, []), some (.ireturn, 1, [])], (4, 86, 1, 0), [])
set_option maxRecDepth 100000 in
theorem st_X_back : jokT2 M_X_back 0 (jt M_X_back) = true := by decide +kernel
set_option maxRecDepth 100000 in
theorem ok_X_back : jokM M_X_back := ⟨by decide +kernel, jwat_in (i := 573) (by decide +kernel), jwat_in (i := 71) (by decide +kernel), ⟨by decide +kernel, by decide +kernel, by decide +kernel⟩, by rw [if_neg (by decide)]; exact ⟨jwat_in (i := 571) (by decide +kernel), jwat_in (i := 572) (by decide +kernel)⟩⟩
def M_Gm_takeBack : jM := ((⟨"ChessLedger$Game", "takeBack", "()V"⟩, prog_3_method_5_code, 4, none), [some (.aload_n 0, 1, []), some (.getfield 34, 3, [2, 6, 156, 0]), none, none, some (.ifCond .ne (4), 3, []), none, none, some (.return_, 1, []), some (.aload_n 0, 1, []), some (.dup, 1, []), some (.getfield 34, 3, [2, 6, 156, 0]), none, none, some (.iconst (1), 1, []), some (.isub, 1, []), some (.putfield 34, 3, [2, 6, 156, 0]), none, none, some (.aload_n 0, 1, []), some (.getfield 18, 3, [2, 1, 151, 0]), none, none, some (.aload_n 0, 1, []), some (.getfield 34, 3, [2, 6, 156, 0]), none, none, some (.iaload, 1, []), some (.istore_n 1, 1, []), some (.iload_n 1, 1, []), some (.bipush (63), 2, []), none, some (.iand, 1, []), some (.istore_n 2, 1, []), some (.iload_n 1, 1, []), some (.bipush (6), 2, []), none, some (.ishr, 1, []), some (.bipush (63), 2, []), none, some (.iand, 1, []), some (.istore_n 3, 1, []), some (.aload_n 0, 1, []), some (.getfield 12, 3, [2, 0, 149, 0]), none, none, some (.aload_n 0, 1, []), some (.getfield 12, 3, [2, 0, 149, 0]), none, none, some (.getfield 53, 3, [1, 1, 119, 1]), none, none, some (.invokestatic 69, 3, [22, 562, 1]), none, none, some (.aload_n 0, 1, []), some (.getfield 25, 3, [2, 3, 153, 0]), none, none, some (.aload_n 0, 1, []), some (.getfield 34, 3, [2, 6, 156, 0]), none, none, some (.iaload, 1, []), some (.aload_n 0, 1, []), some (.getfield 28, 3, [2, 4, 154, 0]), none, none, some (.aload_n 0, 1, []), some (.getfield 34, 3, [2, 6, 156, 0]), none, none, some (.iaload, 1, []), some (.aload_n 0, 1, []), some (.getfield 31, 3, [2, 5, 155, 0]), none, none, some (.aload_n 0, 1, []), some (.getfield 34, 3, [2, 6, 156, 0]), none, none, some (.iaload, 1, []), some (.invokevirtual 86, 3, [3, 569, 0]), none, none, some (.aload_n 0, 1, []), some (.iload_n 3, 1, []), some (.iload_n 2, 1, []), some (.invokevirtual 66, 3, [67, 558, 0]), none, none, some (.iload_n 1, 1, []), some (.sipush (4096), 3, []), none, none, some (.if_icmp .lt (23), 3, []), none, none, some (.aload_n 0, 1, []), some (.getfield 12, 3, [2, 0, 149, 0]), none, none, some (.getfield 42, 3, [1, 0, 112, 1]), none, none, some (.iload_n 2, 1, []), some (.iconst (1), 1, []), some (.aload_n 0, 1, []), some (.getfield 12, 3, [2, 0, 149, 0]), none, none, some (.getfield 53, 3, [1, 1, 119, 1]), none, none, some (.invokestatic 56, 3, [14, 549, 1]), none, none, some (.iastore, 1, []), some (.aload_n 0, 1, []), some (.getfield 12, 3, [2, 0, 149, 0]), none, none, some (.getfield 42, 3, [1, 0, 112, 1]), none, none, some (.aload_n 0, 1, []), some (.getfield 12, 3, [2, 0, 149, 0]), none, none, some (.iload_n 2, 1, []), some (.iload_n 3, 1, []), some (.invokevirtual 38, 3, [35, 543, 0]), none, none, some (.aload_n 0, 1, []), some (.getfield 22, 3, [2, 2, 152, 0]), none, none, some (.aload_n 0, 1, []), some (.getfield 34, 3, [2, 6, 156, 0]), none, none, some (.iaload, 1, []), some (.iastore, 1, []), some (.aload_n 0, 1, []), some (.getfield 12, 3, [2, 0, 149, 0]), none, none, some (.getfield 42, 3, [1, 0, 112, 1]), none, none, some (.iload_n 2, 1, []), some (.iaload, 1, []), some (.iload_n 2, 1, []), some (.iload_n 3, 1, []), some (.invokestatic 59, 3, [65, 550, 0]), none, none, some (.ifCond .eq (17), 3, []), none, none, some (.aload_n 0, 1, []), some (.iload_n 2, 1, []), some (.iload_n 3, 1, []), some (.iadd, 1, []), some (.iconst (2), 1, []), some (.idiv, 1, []), some (.iload_n 2, 1, []), some (.iload_n 3, 1, []), some (.invokestatic 63, 3, [66, 554, 0]), none, none, some (.invokevirtual 66, 3, [67, 558, 0]), none, none, some (.return_, 1, [])], (3, 63, 1, 0), [])
set_option maxRecDepth 100000 in
theorem st_Gm_takeBack : jokT2 M_Gm_takeBack 0 (jt M_Gm_takeBack) = true := by decide +kernel
set_option maxRecDepth 100000 in
theorem ok_Gm_takeBack : jokM M_Gm_takeBack := ⟨by decide +kernel, jwat_in (i := 577) (by decide +kernel), jwat_in (i := 72) (by decide +kernel), ⟨by decide +kernel, by decide +kernel, by decide +kernel⟩, by rw [if_neg (by decide)]; exact ⟨jwat_in (i := 575) (by decide +kernel), jwat_in (i := 576) (by decide +kernel)⟩⟩
def M_X_attackers : jM := ((⟨"ChessLedger", "attackers", "(II)J"⟩, prog_1_method_11_code, 3, (some .long)), [some (.iload_n 1, 1, []), some (.invokestatic 74, 3, [6, 291, 0]), none, none, some (.ifCond .eq (10), 3, []), none, none, some (.iload_n 2, 1, []), some (.invokestatic 82, 3, [8, 298, 0]), none, none, some (.ifCond .ne (5), 3, []), none, none, some (.lconst 0, 1, []), some (.lreturn, 1, []), some (.aload_n 0, 1, []), some (.getfield 20, 3, [0, 1, 238, 0]), none, none, some (.iload_n 1, 1, []), some (.iload_n 2, 1, []), some (.invokevirtual 139, 3, [25, 582, 0]), none, none, some (.lreturn, 1, [])], (3, 75, 1, 2), [])
set_option maxRecDepth 100000 in
theorem st_X_attackers : jokT2 M_X_attackers 0 (jt M_X_attackers) = true := by decide +kernel
set_option maxRecDepth 100000 in
theorem ok_X_attackers : jokM M_X_attackers := ⟨by decide +kernel, jwat_in (i := 581) (by decide +kernel), jwat_in (i := 71) (by decide +kernel), ⟨by decide +kernel, by decide +kernel, by decide +kernel⟩, by rw [if_neg (by decide)]; exact ⟨jwat_in (i := 579) (by decide +kernel), jwat_in (i := 580) (by decide +kernel)⟩⟩
def M_X_checked : jM := ((⟨"ChessLedger", "checked", "()I"⟩, prog_1_method_12_code, 1, (some .int)), [some (.aload_n 0, 1, []), some (.getfield 62, 3, [0, 9, 246, 0]), none, none, some (.ifCond .ne (5), 3, []), none, none, some (.iconst (-1), 1, []), some (.ireturn, 1, []), some (.aload_n 0, 1, []), some (.getfield 20, 3, [0, 1, 238, 0]), none, none, some (.aload_n 0, 1, []), some (.getfield 20, 3, [0, 1, 238, 0]), none, none, some (.getfield 97, 3, [1, 1, 120, 1]), none, none, some (.invokevirtual 143, 3, [23, 587, 0]), none, none, some (.ifCond .eq (7), 3, []), none, none, some (.iconst (1), 1, []), some (.goto (4), 3, []), none, none, some (.iconst (0), 1, []), some (.ireturn, 1, [])], (4, 97, 1, 0), [])
set_option maxRecDepth 100000 in
theorem st_X_checked : jokT2 M_X_checked 0 (jt M_X_checked) = true := by decide +kernel
set_option maxRecDepth 100000 in
theorem ok_X_checked : jokM M_X_checked := ⟨by decide +kernel, jwat_in (i := 586) (by decide +kernel), jwat_in (i := 71) (by decide +kernel), ⟨by decide +kernel, by decide +kernel, by decide +kernel⟩, by rw [if_neg (by decide)]; exact ⟨jwat_in (i := 584) (by decide +kernel), jwat_in (i := 585) (by decide +kernel)⟩⟩
def M_X_status : jM := ((⟨"ChessLedger", "status", "()I"⟩, prog_1_method_13_code, 1, (some .int)), [some (.aload_n 0, 1, []), some (.getfield 62, 3, [0, 9, 246, 0]), none, none, some (.ifCond .ne (5), 3, []), none, none, some (.iconst (-1), 1, []), some (.ireturn, 1, []), some (.aload_n 0, 1, []), some (.getfield 31, 3, [0, 3, 240, 0]), none, none, some (.aload_n 0, 1, []), some (.getfield 20, 3, [0, 1, 238, 0]), none, none, some (.invokevirtual 113, 3, [41, 437, 0]), none, none, some (.ifCond .ne (26), 3, []), none, none, some (.aload_n 0, 1, []), some (.getfield 20, 3, [0, 1, 238, 0]), none, none, some (.aload_n 0, 1, []), some (.getfield 20, 3, [0, 1, 238, 0]), none, none, some (.getfield 97, 3, [1, 1, 120, 1]), none, none, some (.invokevirtual 143, 3, [23, 587, 0]), none, none, some (.ifCond .eq (7), 3, []), none, none, some (.iconst (1), 1, []), some (.goto (4), 3, []), none, none, some (.iconst (2), 1, []), some (.ireturn, 1, []), some (.aload_n 0, 1, []), some (.getfield 20, 3, [0, 1, 238, 0]), none, none, some (.getfield 107, 3, [1, 4, 134, 1]), none, none, some (.sipush (150), 3, []), none, none, some (.if_icmp .lt (5), 3, []), none, none, some (.iconst (3), 1, []), some (.ireturn, 1, []), some (.aload_n 0, 1, []), some (.getfield 24, 3, [0, 2, 239, 0]), none, none, some (.aload_n 0, 1, []), some (.getfield 10, 3, [0, 0, 237, 0]), none, none, some (.getfield 110, 3, [2, 6, 157, 1]), none, none, some (.invokevirtual 146, 3, [74, 592, 0]), none, none, some (.iconst (5), 1, []), some (.if_icmp .lt (5), 3, []), none, none, some (.iconst (4), 1, []), some (.ireturn, 1, []), some (.aload_n 0, 1, []), some (.getfield 20, 3, [0, 1, 238, 0]), none, none, some (.invokevirtual 149, 3, [76, 600, 0]), none, none, some (.ifCond .eq (7), 3, []), none, none, some (.iconst (5), 1, []), some (.goto (4), 3, []), none, none, some (.iconst (0), 1, []), some (.ireturn, 1, [])], (6, 155, 1, 0), [])
set_option maxRecDepth 100000 in
theorem st_X_status : jokT2 M_X_status 0 (jt M_X_status) = true := by decide +kernel
set_option maxRecDepth 100000 in
theorem ok_X_status : jokM M_X_status := ⟨by decide +kernel, jwat_in (i := 591) (by decide +kernel), jwat_in (i := 71) (by decide +kernel), ⟨by decide +kernel, by decide +kernel, by decide +kernel⟩, by rw [if_neg (by decide)]; exact ⟨jwat_in (i := 589) (by decide +kernel), jwat_in (i := 590) (by decide +kernel)⟩⟩
def M_Ps_countSame : jM := ((⟨"ChessLedger$Past", "countSame", "(I)I"⟩, prog_5_method_4_code, 4, (some .int)), [some (.iconst (0), 1, []), some (.istore_n 2, 1, []), some (.iconst (0), 1, []), some (.istore_n 3, 1, []), some (.iload_n 3, 1, []), some (.iload_n 1, 1, []), some (.if_icmp .gt (27), 3, []), none, none, some (.aload_n 0, 1, []), some (.bipush (6), 2, []), none, some (.iload_n 3, 1, []), some (.imul, 1, []), some (.bipush (6), 2, []), none, some (.iload_n 1, 1, []), some (.imul, 1, []), some (.invokevirtual 34, 3, [75, 596, 0]), none, none, some (.ifCond .eq (6), 3, []), none, none, some (.iinc 2 (1), 3, []), none, none, some (.iinc 3 (1), 3, []), none, none, some (.goto (-26), 3, []), none, none, some (.iload_n 2, 1, []), some (.ireturn, 1, [])], (1, 23, 1, 1), [])
set_option maxRecDepth 100000 in
theorem st_Ps_countSame : jokT2 M_Ps_countSame 0 (jt M_Ps_countSame) = true := by decide +kernel
set_option maxRecDepth 100000 in
theorem ok_Ps_countSame : jokM M_Ps_countSame := ⟨by decide +kernel, jwat_in (i := 595) (by decide +kernel), jwat_in (i := 74) (by decide +kernel), ⟨by decide +kernel, by decide +kernel, by decide +kernel⟩, by rw [if_neg (by decide)]; exact ⟨jwat_in (i := 593) (by decide +kernel), jwat_in (i := 594) (by decide +kernel)⟩⟩
def M_Ps_isSame : jM := ((⟨"ChessLedger$Past", "isSame", "(II)Z"⟩, prog_5_method_5_code, 4, (some .boolean)), [some (.iload_n 1, 1, []), some (.bipush (6), 2, []), none, some (.iadd, 1, []), some (.sipush (1806), 3, []), none, none, some (.if_icmp .gt (13), 3, []), none, none, some (.iload_n 2, 1, []), some (.bipush (6), 2, []), none, some (.iadd, 1, []), some (.sipush (1806), 3, []), none, none, some (.if_icmp .le (5), 3, []), none, none, some (.iconst (0), 1, []), some (.ireturn, 1, []), some (.iconst (0), 1, []), some (.istore_n 3, 1, []), some (.iload_n 3, 1, []), some (.bipush (6), 2, []), none, some (.if_icmp .ge (31), 3, []), none, none, some (.aload_n 0, 1, []), some (.getfield 11, 3, [4, 0, 179, 0]), none, none, some (.iload_n 1, 1, []), some (.iload_n 3, 1, []), some (.iadd, 1, []), some (.laload, 1, []), some (.aload_n 0, 1, []), some (.getfield 11, 3, [4, 0, 179, 0]), none, none, some (.iload_n 2, 1, []), some (.iload_n 3, 1, []), some (.iadd, 1, []), some (.laload, 1, []), some (.lcmp, 1, []), some (.ifCond .eq (5), 3, []), none, none, some (.iconst (0), 1, []), some (.ireturn, 1, []), some (.iinc 3 (1), 3, []), none, none, some (.goto (-31), 3, []), none, none, some (.iconst (1), 1, []), some (.ireturn, 1, [])], (0, 0, 1, 2), [])
set_option maxRecDepth 100000 in
theorem st_Ps_isSame : jokT2 M_Ps_isSame 0 (jt M_Ps_isSame) = true := by decide +kernel
set_option maxRecDepth 100000 in
theorem ok_Ps_isSame : jokM M_Ps_isSame := ⟨by decide +kernel, jwat_in (i := 599) (by decide +kernel), jwat_in (i := 74) (by decide +kernel), ⟨by decide +kernel, by decide +kernel, by decide +kernel⟩, by rw [if_neg (by decide)]; exact ⟨jwat_in (i := 598) (by decide +kernel), jwat_in (i := 17) (by decide +kernel)⟩⟩
def M_Bd_isBare : jM := ((⟨"ChessLedger$Board", "isBare", "()Z"⟩, prog_2_method_21_code, 4, (some .boolean)), [some (.iconst (0), 1, []), some (.istore_n 1, 1, []), some (.iconst (0), 1, []), some (.istore_n 2, 1, []), some (.iload_n 2, 1, []), some (.bipush (64), 2, []), none, some (.if_icmp .ge (54), 3, []), none, none, some (.aload_n 0, 1, []), some (.getfield 9, 3, [1, 0, 108, 0]), none, none, some (.iload_n 2, 1, []), some (.iaload, 1, []), some (.invokestatic 75, 3, [13, 321, 1]), none, none, some (.istore_n 3, 1, []), some (.iload_n 3, 1, []), some (.iconst (1), 1, []), some (.if_icmp .eq (13), 3, []), none, none, some (.iload_n 3, 1, []), some (.iconst (4), 1, []), some (.if_icmp .eq (8), 3, []), none, none, some (.iload_n 3, 1, []), some (.iconst (5), 1, []), some (.if_icmp .ne (5), 3, []), none, none, some (.iconst (0), 1, []), some (.ireturn, 1, []), some (.iload_n 1, 1, []), some (.iload_n 3, 1, []), some (.iconst (2), 1, []), some (.if_icmp .eq (8), 3, []), none, none, some (.iload_n 3, 1, []), some (.iconst (3), 1, []), some (.if_icmp .ne (7), 3, []), none, none, some (.iconst (1), 1, []), some (.goto (4), 3, []), none, none, some (.iconst (0), 1, []), some (.iadd, 1, []), some (.istore_n 1, 1, []), some (.iinc 2 (1), 3, []), none, none, some (.goto (-54), 3, []), none, none, some (.iload_n 1, 1, []), some (.iconst (1), 1, []), some (.if_icmp .gt (7), 3, []), none, none, some (.iconst (1), 1, []), some (.goto (4), 3, []), none, none, some (.iconst (0), 1, []), some (.ireturn, 1, [])], (1, 20, 1, 0), [])
set_option maxRecDepth 100000 in
theorem st_Bd_isBare : jokT2 M_Bd_isBare 0 (jt M_Bd_isBare) = true := by decide +kernel
set_option maxRecDepth 100000 in
theorem ok_Bd_isBare : jokM M_Bd_isBare := ⟨by decide +kernel, jwat_in (i := 603) (by decide +kernel), jwat_in (i := 73) (by decide +kernel), ⟨by decide +kernel, by decide +kernel, by decide +kernel⟩, by rw [if_neg (by decide)]; exact ⟨jwat_in (i := 601) (by decide +kernel), jwat_in (i := 602) (by decide +kernel)⟩⟩
def M_X_seen : jM := ((⟨"ChessLedger", "seen", "()I"⟩, prog_1_method_14_code, 1, (some .int)), [some (.aload_n 0, 1, []), some (.getfield 62, 3, [0, 9, 246, 0]), none, none, some (.ifCond .eq (20), 3, []), none, none, some (.aload_n 0, 1, []), some (.getfield 24, 3, [0, 2, 239, 0]), none, none, some (.aload_n 0, 1, []), some (.getfield 10, 3, [0, 0, 237, 0]), none, none, some (.getfield 110, 3, [2, 6, 157, 1]), none, none, some (.invokevirtual 146, 3, [74, 592, 0]), none, none, some (.goto (4), 3, []), none, none, some (.iconst (-1), 1, []), some (.ireturn, 1, [])], (2, 46, 1, 0), [])
set_option maxRecDepth 100000 in
theorem st_X_seen : jokT2 M_X_seen 0 (jt M_X_seen) = true := by decide +kernel
set_option maxRecDepth 100000 in
theorem ok_X_seen : jokM M_X_seen := ⟨by decide +kernel, jwat_in (i := 607) (by decide +kernel), jwat_in (i := 71) (by decide +kernel), ⟨by decide +kernel, by decide +kernel, by decide +kernel⟩, by rw [if_neg (by decide)]; exact ⟨jwat_in (i := 605) (by decide +kernel), jwat_in (i := 606) (by decide +kernel)⟩⟩
def M_X_lines : jM := ((⟨"ChessLedger", "lines", "(I)I"⟩, prog_1_method_15_code, 5, (some .int)), [some (.aload_n 0, 1, []), some (.getfield 62, 3, [0, 9, 246, 0]), none, none, some (.ifCond .eq (12), 3, []), none, none, some (.iload_n 1, 1, []), some (.ifCond .lt (8), 3, []), none, none, some (.iload_n 1, 1, []), some (.iconst (2), 1, []), some (.if_icmp .le (5), 3, []), none, none, some (.iconst (-1), 1, []), some (.ireturn, 1, []), some (.iload_n 1, 1, []), some (.ifCond .ne (5), 3, []), none, none, some (.iconst (1), 1, []), some (.ireturn, 1, []), some (.aload_n 0, 1, []), some (.getfield 31, 3, [0, 3, 240, 0]), none, none, some (.aload_n 0, 1, []), some (.getfield 20, 3, [0, 1, 238, 0]), none, none, some (.invokevirtual 113, 3, [41, 437, 0]), none, none, some (.istore_n 2, 1, []), some (.iload_n 1, 1, []), some (.iconst (1), 1, []), some (.if_icmp .ne (5), 3, []), none, none, some (.iload_n 2, 1, []), some (.ireturn, 1, []), some (.iconst (0), 1, []), some (.istore_n 3, 1, []), some (.iconst (0), 1, []), some (.istore 4, 2, []), none, some (.iload 4, 2, []), none, some (.iload_n 2, 1, []), some (.if_icmp .ge (46), 3, []), none, none, some (.aload_n 0, 1, []), some (.getfield 10, 3, [0, 0, 237, 0]), none, none, some (.aload_n 0, 1, []), some (.getfield 31, 3, [0, 3, 240, 0]), none, none, some (.iload 4, 2, []), none, some (.invokevirtual 117, 3, [58, 520, 0]), none, none, some (.invokevirtual 124, 3, [63, 539, 0]), none, none, some (.iload_n 3, 1, []), some (.aload_n 0, 1, []), some (.getfield 35, 3, [0, 4, 241, 0]), none, none, some (.aload_n 0, 1, []), some (.getfield 20, 3, [0, 1, 238, 0]), none, none, some (.invokevirtual 113, 3, [41, 437, 0]), none, none, some (.iadd, 1, []), some (.istore_n 3, 1, []), some (.aload_n 0, 1, []), some (.getfield 10, 3, [0, 0, 237, 0]), none, none, some (.invokevirtual 136, 3, [70, 574, 0]), none, none, some (.iinc 4 (1), 3, []), none, none, some (.goto (-46), 3, []), none, none, some (.iload_n 3, 1, []), some (.ireturn, 1, [])], (6, 155, 1, 1), [])
set_option maxRecDepth 100000 in
theorem st_X_lines : jokT2 M_X_lines 0 (jt M_X_lines) = true := by decide +kernel
set_option maxRecDepth 100000 in
theorem ok_X_lines : jokM M_X_lines := ⟨by decide +kernel, jwat_in (i := 611) (by decide +kernel), jwat_in (i := 71) (by decide +kernel), ⟨by decide +kernel, by decide +kernel, by decide +kernel⟩, by rw [if_neg (by decide)]; exact ⟨jwat_in (i := 609) (by decide +kernel), jwat_in (i := 610) (by decide +kernel)⟩⟩
def M_X_mates : jM := ((⟨"ChessLedger", "mates", "()I"⟩, prog_1_method_16_code, 4, (some .int)), [some (.aload_n 0, 1, []), some (.getfield 62, 3, [0, 9, 246, 0]), none, none, some (.ifCond .ne (5), 3, []), none, none, some (.iconst (-1), 1, []), some (.ireturn, 1, []), some (.aload_n 0, 1, []), some (.getfield 31, 3, [0, 3, 240, 0]), none, none, some (.aload_n 0, 1, []), some (.getfield 20, 3, [0, 1, 238, 0]), none, none, some (.invokevirtual 113, 3, [41, 437, 0]), none, none, some (.istore_n 1, 1, []), some (.iconst (0), 1, []), some (.istore_n 2, 1, []), some (.iconst (0), 1, []), some (.istore_n 3, 1, []), some (.iload_n 3, 1, []), some (.iload_n 1, 1, []), some (.if_icmp .ge (65), 3, []), none, none, some (.aload_n 0, 1, []), some (.getfield 10, 3, [0, 0, 237, 0]), none, none, some (.aload_n 0, 1, []), some (.getfield 31, 3, [0, 3, 240, 0]), none, none, some (.iload_n 3, 1, []), some (.invokevirtual 117, 3, [58, 520, 0]), none, none, some (.invokevirtual 124, 3, [63, 539, 0]), none, none, some (.aload_n 0, 1, []), some (.getfield 20, 3, [0, 1, 238, 0]), none, none, some (.aload_n 0, 1, []), some (.getfield 20, 3, [0, 1, 238, 0]), none, none, some (.getfield 97, 3, [1, 1, 120, 1]), none, none, some (.invokevirtual 143, 3, [23, 587, 0]), none, none, some (.ifCond .eq (20), 3, []), none, none, some (.aload_n 0, 1, []), some (.getfield 35, 3, [0, 4, 241, 0]), none, none, some (.aload_n 0, 1, []), some (.getfield 20, 3, [0, 1, 238, 0]), none, none, some (.invokevirtual 113, 3, [41, 437, 0]), none, none, some (.ifCond .ne (6), 3, []), none, none, some (.iinc 2 (1), 3, []), none, none, some (.aload_n 0, 1, []), some (.getfield 10, 3, [0, 0, 237, 0]), none, none, some (.invokevirtual 136, 3, [70, 574, 0]), none, none, some (.iinc 3 (1), 3, []), none, none, some (.goto (-64), 3, []), none, none, some (.iload_n 2, 1, []), some (.ireturn, 1, [])], (6, 155, 1, 0), [])
set_option maxRecDepth 100000 in
theorem st_X_mates : jokT2 M_X_mates 0 (jt M_X_mates) = true := by decide +kernel
set_option maxRecDepth 100000 in
theorem ok_X_mates : jokM M_X_mates := ⟨by decide +kernel, jwat_in (i := 615) (by decide +kernel), jwat_in (i := 71) (by decide +kernel), ⟨by decide +kernel, by decide +kernel, by decide +kernel⟩, by rw [if_neg (by decide)]; exact ⟨jwat_in (i := 613) (by decide +kernel), jwat_in (i := 614) (by decide +kernel)⟩⟩
def M_X_type : jM := ((⟨"ChessLedger", "type", "(JI)I"⟩, prog_1_method_17_code, 6, (some .int)), [some (.iload_n 3, 1, []), some (.iconst (1), 1, []), some (.if_icmp .lt (23), 3, []), none, none, some (.iload_n 3, 1, []), some (.bipush (8), 2, []), none, some (.if_icmp .gt (17), 3, []), none, none, some (.aload_n 0, 1, []), some (.getfield 49, 3, [0, 6, 243, 0]), none, none, some (.getfield 152, 3, [6, 1, 211, 1]), none, none, some (.iload_n 3, 1, []), some (.iadd, 1, []), some (.bipush (100), 2, []), none, some (.if_icmp .le (5), 3, []), none, none, some (.iconst (-1), 1, []), some (.ireturn, 1, []), some (.iconst (0), 1, []), some (.istore 4, 2, []), none, some (.iload 4, 2, []), none, some (.iload_n 3, 1, []), some (.if_icmp .ge (33), 3, []), none, none, some (.lload_n 1, 1, []), some (.iload 4, 2, []), none, some (.invokestatic 153, 3, [81, 620, 0]), none, none, some (.istore 5, 2, []), none, some (.iload 5, 2, []), none, some (.bipush (32), 2, []), none, some (.if_icmp .lt (10), 3, []), none, none, some (.iload 5, 2, []), none, some (.bipush (126), 2, []), none, some (.if_icmp .le (5), 3, []), none, none, some (.iconst (-1), 1, []), some (.ireturn, 1, []), some (.iinc 4 (1), 3, []), none, none, some (.goto (-33), 3, []), none, none, some (.iload_n 3, 1, []), some (.iconst (1), 1, []), some (.isub, 1, []), some (.istore 4, 2, []), none, some (.iload 4, 2, []), none, some (.ifCond .lt (22), 3, []), none, none, some (.aload_n 0, 1, []), some (.getfield 49, 3, [0, 6, 243, 0]), none, none, some (.lload_n 1, 1, []), some (.iload 4, 2, []), none, some (.invokestatic 153, 3, [81, 620, 0]), none, none, some (.invokevirtual 157, 3, [82, 623, 0]), none, none, some (.iinc 4 (-1), 3, []), none, none, some (.goto (-21), 3, []), none, none, some (.aload_n 0, 1, []), some (.getfield 49, 3, [0, 6, 243, 0]), none, none, some (.getfield 152, 3, [6, 1, 211, 1]), none, none, some (.ireturn, 1, [])], (1, 22, 1, 2), [])
set_option maxRecDepth 100000 in
theorem st_X_type : jokT2 M_X_type 0 (jt M_X_type) = true := by decide +kernel
set_option maxRecDepth 100000 in
theorem ok_X_type : jokM M_X_type := ⟨by decide +kernel, jwat_in (i := 619) (by decide +kernel), jwat_in (i := 71) (by decide +kernel), ⟨by decide +kernel, by decide +kernel, by decide +kernel⟩, by rw [if_neg (by decide)]; exact ⟨jwat_in (i := 617) (by decide +kernel), jwat_in (i := 618) (by decide +kernel)⟩⟩
def M_X_byteOf : jM := ((⟨"ChessLedger", "byteOf", "(JI)I"⟩, prog_1_method_23_code, 3, (some .int)), [some (.lload_n 0, 1, []), some (.bipush (8), 2, []), none, some (.iload_n 2, 1, []), some (.imul, 1, []), some (.lushr, 1, []), some (.l2i, 1, []), some (.sipush (255), 3, []), none, none, some (.iand, 1, []), some (.ireturn, 1, [])], (0, 0, 0, 2), [])
set_option maxRecDepth 100000 in
theorem st_X_byteOf : jokT2 M_X_byteOf 0 (jt M_X_byteOf) = true := by decide +kernel
set_option maxRecDepth 100000 in
theorem ok_X_byteOf : jokM M_X_byteOf := ⟨by decide +kernel, jwat_in (i := 622) (by decide +kernel), jwat_in (i := 71) (by decide +kernel), ⟨by decide +kernel, by decide +kernel, by decide +kernel⟩, by rw [if_pos (show jk M_X_byteOf = 0 from rfl)]; exact jwat_in (i := 621) (by decide +kernel)⟩
def M_Tx_add : jM := ((⟨"ChessLedger$Text", "add", "(I)V"⟩, prog_7_method_3_code, 2, none), [some (.aload_n 0, 1, []), some (.getfield 15, 3, [6, 1, 210, 0]), none, none, some (.bipush (100), 2, []), none, some (.if_icmp .ge (24), 3, []), none, none, some (.aload_n 0, 1, []), some (.getfield 9, 3, [6, 0, 209, 0]), none, none, some (.aload_n 0, 1, []), some (.getfield 15, 3, [6, 1, 210, 0]), none, none, some (.iload_n 1, 1, []), some (.i2c, 1, []), some (.castore, 1, []), some (.aload_n 0, 1, []), some (.dup, 1, []), some (.getfield 15, 3, [6, 1, 210, 0]), none, none, some (.iconst (1), 1, []), some (.iadd, 1, []), some (.putfield 15, 3, [6, 1, 210, 0]), none, none, some (.return_, 1, [])], (0, 0, 1, 1), [])
set_option maxRecDepth 100000 in
theorem st_Tx_add : jokT2 M_Tx_add 0 (jt M_Tx_add) = true := by decide +kernel
set_option maxRecDepth 100000 in
theorem ok_Tx_add : jokM M_Tx_add := ⟨by decide +kernel, jwat_in (i := 626) (by decide +kernel), jwat_in (i := 77) (by decide +kernel), ⟨by decide +kernel, by decide +kernel, by decide +kernel⟩, by rw [if_neg (by decide)]; exact ⟨jwat_in (i := 624) (by decide +kernel), jwat_in (i := 625) (by decide +kernel)⟩⟩
def M_X_read : jM := ((⟨"ChessLedger", "read", "()I"⟩, prog_1_method_18_code, 2, (some .int)), [some (.aload_n 0, 1, []), some (.getfield 41, 3, [0, 5, 242, 0]), none, none, some (.invokevirtual 160, 3, [84, 631, 0]), none, none, some (.istore_n 1, 1, []), some (.aload_n 0, 1, []), some (.getfield 49, 3, [0, 6, 243, 0]), none, none, some (.invokevirtual 164, 3, [100, 718, 0]), none, none, some (.iload_n 1, 1, []), some (.ifCond .eq (5), 3, []), none, none, some (.iload_n 1, 1, []), some (.ireturn, 1, []), some (.aload_n 0, 1, []), some (.getfield 55, 3, [0, 7, 244, 0]), none, none, some (.getfield 107, 3, [1, 4, 134, 1]), none, none, some (.sipush (150), 3, []), none, none, some (.if_icmp .gt (20), 3, []), none, none, some (.aload_n 0, 1, []), some (.getfield 41, 3, [0, 5, 242, 0]), none, none, some (.invokevirtual 165, 3, [101, 722, 0]), none, none, some (.ifCond .eq (10), 3, []), none, none, some (.aload_n 0, 1, []), some (.invokevirtual 93, 3, [10, 309, 0]), none, none, some (.ifCond .ne (6), 3, []), none, none, some (.bipush (-2), 2, []), none, some (.ireturn, 1, []), some (.iconst (0), 1, []), some (.ireturn, 1, [])], (8, 174, 1, 0), [])
set_option maxRecDepth 100000 in
theorem st_X_read : jokT2 M_X_read 0 (jt M_X_read) = true := by decide +kernel
set_option maxRecDepth 100000 in
theorem ok_X_read : jokM M_X_read := ⟨by decide +kernel, jwat_in (i := 630) (by decide +kernel), jwat_in (i := 71) (by decide +kernel), ⟨by decide +kernel, by decide +kernel, by decide +kernel⟩, by rw [if_neg (by decide)]; exact ⟨jwat_in (i := 628) (by decide +kernel), jwat_in (i := 629) (by decide +kernel)⟩⟩
def M_Rd_parse : jM := ((⟨"ChessLedger$Reader", "parse", "()I"⟩, prog_6_method_2_code, 2, (some .int)), [some (.aload_n 0, 1, []), some (.getfield 21, 3, [5, 1, 222, 0]), none, none, some (.invokevirtual 32, 3, [1, 635, 0]), none, none, some (.aload_n 0, 1, []), some (.iconst (0), 1, []), some (.putfield 25, 3, [5, 2, 224, 0]), none, none, some (.aload_n 0, 1, []), some (.iconst (-1), 1, []), some (.putfield 29, 3, [5, 3, 225, 0]), none, none, some (.aload_n 0, 1, []), some (.invokevirtual 35, 3, [85, 636, 0]), none, none, some (.ifCond .eq (79), 3, []), none, none, some (.aload_n 0, 1, []), some (.bipush (32), 2, []), none, some (.invokevirtual 39, 3, [86, 640, 0]), none, none, some (.ifCond .eq (70), 3, []), none, none, some (.aload_n 0, 1, []), some (.invokevirtual 43, 3, [96, 701, 0]), none, none, some (.ifCond .eq (63), 3, []), none, none, some (.aload_n 0, 1, []), some (.bipush (32), 2, []), none, some (.invokevirtual 39, 3, [86, 640, 0]), none, none, some (.ifCond .eq (54), 3, []), none, none, some (.aload_n 0, 1, []), some (.invokevirtual 46, 3, [97, 705, 0]), none, none, some (.ifCond .eq (47), 3, []), none, none, some (.aload_n 0, 1, []), some (.bipush (32), 2, []), none, some (.invokevirtual 39, 3, [86, 640, 0]), none, none, some (.ifCond .eq (38), 3, []), none, none, some (.aload_n 0, 1, []), some (.invokevirtual 49, 3, [98, 710, 0]), none, none, some (.ifCond .eq (31), 3, []), none, none, some (.aload_n 0, 1, []), some (.bipush (32), 2, []), none, some (.invokevirtual 39, 3, [86, 640, 0]), none, none, some (.ifCond .eq (22), 3, []), none, none, some (.aload_n 0, 1, []), some (.invokevirtual 52, 3, [99, 714, 0]), none, none, some (.ifCond .eq (15), 3, []), none, none, some (.aload_n 0, 1, []), some (.invokevirtual 55, 3, [87, 644, 0]), none, none, some (.iconst (-1), 1, []), some (.if_icmp .ne (7), 3, []), none, none, some (.iconst (1), 1, []), some (.goto (4), 3, []), none, none, some (.iconst (0), 1, []), some (.istore_n 1, 1, []), some (.iload_n 1, 1, []), some (.ifCond .eq (7), 3, []), none, none, some (.iconst (0), 1, []), some (.goto (9), 3, []), none, none, some (.aload_n 0, 1, []), some (.getfield 25, 3, [5, 2, 224, 0]), none, none, some (.iconst (1), 1, []), some (.iadd, 1, []), some (.ireturn, 1, [])], (7, 153, 1, 0), [])
set_option maxRecDepth 100000 in
theorem st_Rd_parse : jokT2 M_Rd_parse 0 (jt M_Rd_parse) = true := by decide +kernel
set_option maxRecDepth 100000 in
theorem ok_Rd_parse : jokM M_Rd_parse := ⟨by decide +kernel, jwat_in (i := 634) (by decide +kernel), jwat_in (i := 76) (by decide +kernel), ⟨by decide +kernel, by decide +kernel, by decide +kernel⟩, by rw [if_neg (by decide)]; exact ⟨jwat_in (i := 632) (by decide +kernel), jwat_in (i := 633) (by decide +kernel)⟩⟩
def M_Rd_takeSquares : jM := ((⟨"ChessLedger$Reader", "takeSquares", "()Z"⟩, prog_6_method_6_code, 2, (some .boolean)), [some (.bipush (7), 2, []), none, some (.istore_n 1, 1, []), some (.iload_n 1, 1, []), some (.ifCond .lt (34), 3, []), none, none, some (.iload_n 1, 1, []), some (.bipush (7), 2, []), none, some (.if_icmp .ge (12), 3, []), none, none, some (.aload_n 0, 1, []), some (.bipush (47), 2, []), none, some (.invokevirtual 39, 3, [86, 640, 0]), none, none, some (.ifCond .eq (11), 3, []), none, none, some (.aload_n 0, 1, []), some (.iload_n 1, 1, []), some (.invokevirtual 73, 3, [89, 652, 0]), none, none, some (.ifCond .ne (5), 3, []), none, none, some (.iconst (0), 1, []), some (.ireturn, 1, []), some (.iinc 1 (-1), 3, []), none, none, some (.goto (-32), 3, []), none, none, some (.iconst (1), 1, []), some (.ireturn, 1, [])], (6, 132, 1, 0), [])
set_option maxRecDepth 100000 in
theorem st_Rd_takeSquares : jokT2 M_Rd_takeSquares 0 (jt M_Rd_takeSquares) = true := by decide +kernel
set_option maxRecDepth 100000 in
theorem ok_Rd_takeSquares : jokM M_Rd_takeSquares := ⟨by decide +kernel, jwat_in (i := 639) (by decide +kernel), jwat_in (i := 76) (by decide +kernel), ⟨by decide +kernel, by decide +kernel, by decide +kernel⟩, by rw [if_neg (by decide)]; exact ⟨jwat_in (i := 638) (by decide +kernel), jwat_in (i := 18) (by decide +kernel)⟩⟩
end
section
def M_Rd_takeLetter : jM := ((⟨"ChessLedger$Reader", "takeLetter", "(I)Z"⟩, prog_6_method_5_code, 2, (some .boolean)), [some (.aload_n 0, 1, []), some (.invokevirtual 55, 3, [87, 644, 0]), none, none, some (.iload_n 1, 1, []), some (.if_icmp .eq (5), 3, []), none, none, some (.iconst (0), 1, []), some (.ireturn, 1, []), some (.aload_n 0, 1, []), some (.dup, 1, []), some (.getfield 25, 3, [5, 2, 224, 0]), none, none, some (.iconst (1), 1, []), some (.iadd, 1, []), some (.putfield 25, 3, [5, 2, 224, 0]), none, none, some (.iconst (1), 1, []), some (.ireturn, 1, [])], (2, 41, 1, 1), [])
set_option maxRecDepth 100000 in
theorem st_Rd_takeLetter : jokT2 M_Rd_takeLetter 0 (jt M_Rd_takeLetter) = true := by decide +kernel
set_option maxRecDepth 100000 in
theorem ok_Rd_takeLetter : jokM M_Rd_takeLetter := ⟨by decide +kernel, jwat_in (i := 643) (by decide +kernel), jwat_in (i := 76) (by decide +kernel), ⟨by decide +kernel, by decide +kernel, by decide +kernel⟩, by rw [if_neg (by decide)]; exact ⟨jwat_in (i := 642) (by decide +kernel), jwat_in (i := 19) (by decide +kernel)⟩⟩
def M_Rd_letter : jM := ((⟨"ChessLedger$Reader", "letter", "()I"⟩, prog_6_method_4_code, 1, (some .int)), [some (.aload_n 0, 1, []), some (.getfield 12, 3, [5, 0, 220, 0]), none, none, some (.aload_n 0, 1, []), some (.getfield 25, 3, [5, 2, 224, 0]), none, none, some (.invokevirtual 70, 3, [88, 648, 0]), none, none, some (.ireturn, 1, [])], (1, 21, 1, 0), [])
set_option maxRecDepth 100000 in
theorem st_Rd_letter : jokT2 M_Rd_letter 0 (jt M_Rd_letter) = true := by decide +kernel
set_option maxRecDepth 100000 in
theorem ok_Rd_letter : jokM M_Rd_letter := ⟨by decide +kernel, jwat_in (i := 647) (by decide +kernel), jwat_in (i := 76) (by decide +kernel), ⟨by decide +kernel, by decide +kernel, by decide +kernel⟩, by rw [if_neg (by decide)]; exact ⟨jwat_in (i := 646) (by decide +kernel), jwat_in (i := 20) (by decide +kernel)⟩⟩
def M_Tx_letterAt : jM := ((⟨"ChessLedger$Text", "letterAt", "(I)I"⟩, prog_7_method_4_code, 2, (some .int)), [some (.iload_n 1, 1, []), some (.ifCond .lt (11), 3, []), none, none, some (.iload_n 1, 1, []), some (.aload_n 0, 1, []), some (.getfield 15, 3, [6, 1, 210, 0]), none, none, some (.if_icmp .lt (5), 3, []), none, none, some (.iconst (-1), 1, []), some (.ireturn, 1, []), some (.aload_n 0, 1, []), some (.getfield 9, 3, [6, 0, 209, 0]), none, none, some (.iload_n 1, 1, []), some (.caload, 1, []), some (.ireturn, 1, [])], (0, 0, 1, 1), [])
set_option maxRecDepth 100000 in
theorem st_Tx_letterAt : jokT2 M_Tx_letterAt 0 (jt M_Tx_letterAt) = true := by decide +kernel
set_option maxRecDepth 100000 in
theorem ok_Tx_letterAt : jokM M_Tx_letterAt := ⟨by decide +kernel, jwat_in (i := 651) (by decide +kernel), jwat_in (i := 77) (by decide +kernel), ⟨by decide +kernel, by decide +kernel, by decide +kernel⟩, by rw [if_neg (by decide)]; exact ⟨jwat_in (i := 649) (by decide +kernel), jwat_in (i := 650) (by decide +kernel)⟩⟩
def M_Rd_takeRank : jM := ((⟨"ChessLedger$Reader", "takeRank", "(I)Z"⟩, prog_6_method_7_code, 7, (some .boolean)), [some (.iconst (0), 1, []), some (.istore_n 2, 1, []), some (.iconst (0), 1, []), some (.istore_n 3, 1, []), some (.iconst (0), 1, []), some (.istore 4, 2, []), none, some (.iload 4, 2, []), none, some (.bipush (8), 2, []), none, some (.if_icmp .ge (118), 3, []), none, none, some (.iload_n 3, 1, []), some (.bipush (8), 2, []), none, some (.if_icmp .ge (112), 3, []), none, none, some (.aload_n 0, 1, []), some (.invokevirtual 55, 3, [87, 644, 0]), none, none, some (.invokestatic 76, 3, [90, 656, 0]), none, none, some (.istore 5, 2, []), none, some (.iload 5, 2, []), none, some (.iconst (-1), 1, []), some (.if_icmp .ne (13), 3, []), none, none, some (.aload_n 0, 1, []), some (.invokevirtual 55, 3, [87, 644, 0]), none, none, some (.bipush (48), 2, []), none, some (.isub, 1, []), some (.goto (4), 3, []), none, none, some (.iconst (0), 1, []), some (.istore 6, 2, []), none, some (.iload 5, 2, []), none, some (.iconst (-1), 1, []), some (.if_icmp .eq (24), 3, []), none, none, some (.aload_n 0, 1, []), some (.getfield 21, 3, [5, 1, 222, 0]), none, none, some (.getfield 79, 3, [1, 0, 114, 1]), none, none, some (.iload_n 3, 1, []), some (.iload_n 1, 1, []), some (.invokestatic 83, 3, [18, 700, 1]), none, none, some (.iload 5, 2, []), none, some (.iastore, 1, []), some (.iinc 3 (1), 3, []), none, none, some (.goto (29), 3, []), none, none, some (.iload_n 2, 1, []), some (.ifCond .ne (18), 3, []), none, none, some (.iload 6, 2, []), none, some (.iconst (1), 1, []), some (.if_icmp .lt (12), 3, []), none, none, some (.iload_n 3, 1, []), some (.iload 6, 2, []), none, some (.iadd, 1, []), some (.bipush (8), 2, []), none, some (.if_icmp .le (5), 3, []), none, none, some (.iconst (0), 1, []), some (.ireturn, 1, []), some (.iload_n 3, 1, []), some (.iload 6, 2, []), none, some (.iadd, 1, []), some (.istore_n 3, 1, []), some (.iload 5, 2, []), none, some (.iconst (-1), 1, []), some (.if_icmp .ne (7), 3, []), none, none, some (.iconst (1), 1, []), some (.goto (4), 3, []), none, none, some (.iconst (0), 1, []), some (.istore_n 2, 1, []), some (.aload_n 0, 1, []), some (.dup, 1, []), some (.getfield 25, 3, [5, 2, 224, 0]), none, none, some (.iconst (1), 1, []), some (.iadd, 1, []), some (.putfield 25, 3, [5, 2, 224, 0]), none, none, some (.iinc 4 (1), 3, []), none, none, some (.goto (-119), 3, []), none, none, some (.iconst (1), 1, []), some (.ireturn, 1, [])], (5, 106, 1, 1), [])
set_option maxRecDepth 100000 in
theorem st_Rd_takeRank : jokT2 M_Rd_takeRank 0 (jt M_Rd_takeRank) = true := by decide +kernel
set_option maxRecDepth 100000 in
theorem ok_Rd_takeRank : jokM M_Rd_takeRank := ⟨by decide +kernel, jwat_in (i := 655) (by decide +kernel), jwat_in (i := 76) (by decide +kernel), ⟨by decide +kernel, by decide +kernel, by decide +kernel⟩, by rw [if_neg (by decide)]; exact ⟨jwat_in (i := 654) (by decide +kernel), jwat_in (i := 21) (by decide +kernel)⟩⟩
def M_Rd_pieceFor : jM := ((⟨"ChessLedger$Reader", "pieceFor", "(I)I"⟩, prog_6_method_8_code, 2, (some .int)), [some (.iconst (0), 1, []), some (.istore_n 1, 1, []), some (.iload_n 1, 1, []), some (.bipush (12), 2, []), none, some (.if_icmp .ge (23), 3, []), none, none, some (.ldc 86, 2, [1, 0]), none, some (.iload_n 1, 1, []), some (.invokevirtual 88, 3, [91, 660, 0]), none, none, some (.iload_n 0, 1, []), some (.if_icmp .ne (7), 3, []), none, none, some (.iload_n 1, 1, []), some (.iconst (1), 1, []), some (.iadd, 1, []), some (.ireturn, 1, []), some (.iinc 1 (1), 3, []), none, none, some (.goto (-23), 3, []), none, none, some (.iconst (-1), 1, []), some (.ireturn, 1, [])], (4, 85, 0, 1), [])
set_option maxRecDepth 100000 in
theorem st_Rd_pieceFor : jokT2 M_Rd_pieceFor 0 (jt M_Rd_pieceFor) = true := by decide +kernel
set_option maxRecDepth 100000 in
theorem ok_Rd_pieceFor : jokM M_Rd_pieceFor := ⟨by decide +kernel, jwat_in (i := 658) (by decide +kernel), jwat_in (i := 76) (by decide +kernel), ⟨by decide +kernel, by decide +kernel, by decide +kernel⟩, by rw [if_pos (show jk M_Rd_pieceFor = 0 from rfl)]; exact jwat_in (i := 657) (by decide +kernel)⟩
def M_Js_charAt : jM := ((⟨"java/lang/String", "charAt", "(I)C"⟩, prog_13_method_56_code, 2, (some .char)), [some (.aload_n 0, 1, []), some (.invokevirtual 492, 3, [92, 664, 0]), none, none, some (.ifCond .eq (12), 3, []), none, none, some (.aload_n 0, 1, []), some (.getfield 9, 3, [1, 1088]), none, none, some (.iload_n 1, 1, []), some (.invokestatic 495, 3, [93, 670, 0]), none, none, some (.ireturn, 1, []), some (.aload_n 0, 1, []), some (.getfield 9, 3, [1, 1088]), none, none, some (.iload_n 1, 1, []), none, none, none, some (.ireturn, 1, [])], (3, 64, 1, 1), [])
set_option maxRecDepth 100000 in
theorem st_Js_charAt : jokT2 M_Js_charAt 0 (jt M_Js_charAt) = true := by decide +kernel
set_option maxRecDepth 100000 in
theorem ok_Js_charAt : jokM M_Js_charAt := ⟨by decide +kernel, jwat_in (i := 663) (by decide +kernel), jwat_in (i := 84) (by decide +kernel), ⟨by decide +kernel, by decide +kernel, by decide +kernel⟩, by rw [if_neg (by decide)]; exact ⟨jwat_in (i := 661) (by decide +kernel), jwat_in (i := 662) (by decide +kernel)⟩⟩
def M_Js_isLatin1 : jM := ((⟨"java/lang/String", "isLatin1", "()Z"⟩, prog_13_method_154_code, 1, (some .boolean)), [some (.getstatic 38, 3, [4, 668, 0]), none, none, some (.ifCond .eq (14), 3, []), none, none, some (.aload_n 0, 1, []), some (.getfield 15, 3, [0, 1087]), none, none, some (.ifCond .ne (7), 3, []), none, none, some (.iconst (1), 1, []), some (.goto (4), 3, []), none, none, some (.iconst (0), 1, []), some (.ireturn, 1, [])], (0, 0, 1, 0), [])
set_option maxRecDepth 100000 in
theorem st_Js_isLatin1 : jokT2 M_Js_isLatin1 0 (jt M_Js_isLatin1) = true := by decide +kernel
set_option maxRecDepth 100000 in
theorem ok_Js_isLatin1 : jokM M_Js_isLatin1 := ⟨by decide +kernel, jwat_in (i := 667) (by decide +kernel), jwat_in (i := 84) (by decide +kernel), ⟨by decide +kernel, by decide +kernel, by decide +kernel⟩, by rw [if_neg (by decide)]; exact ⟨jwat_in (i := 665) (by decide +kernel), jwat_in (i := 666) (by decide +kernel)⟩⟩
def M_Jt_charAt : jM := ((⟨"java/lang/StringLatin1", "charAt", "([BI)C"⟩, prog_14_method_2_code, 2, (some .char)), [some (.iload_n 1, 1, []), some (.aload_n 0, 1, []), some (.arraylength, 1, []), some (.invokestatic 9, 3, [94, 673, 0]), none, none, some (.aload_n 0, 1, []), some (.iload_n 1, 1, []), some (.baload, 1, []), some (.sipush (255), 3, []), none, none, some (.iand, 1, []), some (.i2c, 1, []), some (.ireturn, 1, [])], (2, 43, 0, 2), [])
set_option maxRecDepth 100000 in
theorem st_Jt_charAt : jokT2 M_Jt_charAt 0 (jt M_Jt_charAt) = true := by decide +kernel
set_option maxRecDepth 100000 in
theorem ok_Jt_charAt : jokM M_Jt_charAt := ⟨by decide +kernel, jwat_in (i := 672) (by decide +kernel), jwat_in (i := 85) (by decide +kernel), ⟨by decide +kernel, by decide +kernel, by decide +kernel⟩, by rw [if_pos (show jk M_Jt_charAt = 0 from rfl)]; exact jwat_in (i := 671) (by decide +kernel)⟩
def M_Js_checkIndex : jM := ((⟨"java/lang/String", "checkIndex", "(II)V"⟩, prog_13_method_155_code, 2, none), [some (.iload_n 0, 1, []), some (.iload_n 1, 1, []), some (.getstatic 1053, 3, [5, 676, 0]), none, none, some (.invokestatic 1059, 3, [95, 678, 0]), none, none, some (.pop, 1, []), some (.return_, 1, [])], (1, 22, 0, 2), [])
set_option maxRecDepth 100000 in
theorem st_Js_checkIndex : jokT2 M_Js_checkIndex 0 (jt M_Js_checkIndex) = true := by decide +kernel
set_option maxRecDepth 100000 in
theorem ok_Js_checkIndex : jokM M_Js_checkIndex := ⟨by decide +kernel, jwat_in (i := 675) (by decide +kernel), jwat_in (i := 84) (by decide +kernel), ⟨by decide +kernel, by decide +kernel, by decide +kernel⟩, by rw [if_pos (show jk M_Js_checkIndex = 0 from rfl)]; exact jwat_in (i := 674) (by decide +kernel)⟩
def M_Jp_checkIndex : jM := ((⟨"jdk/internal/util/Preconditions", "checkIndex", "(IILjava/util/function/BiFunction;)I"⟩, prog_18_method_11_code, 3, (some .int)), [some (.iload_n 0, 1, []), some (.ifCond .lt (8), 3, []), none, none, some (.iload_n 0, 1, []), some (.iload_n 1, 1, []), some (.if_icmp .lt (10), 3, []), none, none, some (.aload_n 2, 1, []), some (.iload_n 0, 1, []), some (.iload_n 1, 1, []), none, none, none, none, some (.iload_n 0, 1, []), some (.ireturn, 1, [])], (0, 0, 0, 3), [])
set_option maxRecDepth 100000 in
theorem st_Jp_checkIndex : jokT2 M_Jp_checkIndex 0 (jt M_Jp_checkIndex) = true := by decide +kernel
set_option maxRecDepth 100000 in
theorem ok_Jp_checkIndex : jokM M_Jp_checkIndex := ⟨by decide +kernel, jwat_in (i := 680) (by decide +kernel), jwat_in (i := 86) (by decide +kernel), ⟨by decide +kernel, by decide +kernel, by decide +kernel⟩, by rw [if_pos (show jk M_Jp_checkIndex = 0 from rfl)]; exact jwat_in (i := 679) (by decide +kernel)⟩
def M_Rd_takeSide : jM := ((⟨"ChessLedger$Reader", "takeSide", "()Z"⟩, prog_6_method_9_code, 1, (some .boolean)), [some (.aload_n 0, 1, []), some (.bipush (119), 2, []), none, some (.invokevirtual 39, 3, [86, 640, 0]), none, none, some (.ifCond .eq (13), 3, []), none, none, some (.aload_n 0, 1, []), some (.getfield 21, 3, [5, 1, 222, 0]), none, none, some (.iconst (0), 1, []), some (.putfield 59, 3, [1, 1, 118, 1]), none, none, some (.iconst (1), 1, []), some (.ireturn, 1, []), some (.aload_n 0, 1, []), some (.getfield 21, 3, [5, 1, 222, 0]), none, none, some (.iconst (1), 1, []), some (.putfield 59, 3, [1, 1, 118, 1]), none, none, some (.aload_n 0, 1, []), some (.bipush (98), 2, []), none, some (.invokevirtual 39, 3, [86, 640, 0]), none, none, some (.ireturn, 1, [])], (3, 62, 1, 0), [])
set_option maxRecDepth 100000 in
theorem st_Rd_takeSide : jokT2 M_Rd_takeSide 0 (jt M_Rd_takeSide) = true := by decide +kernel
set_option maxRecDepth 100000 in
theorem ok_Rd_takeSide : jokM M_Rd_takeSide := ⟨by decide +kernel, jwat_in (i := 704) (by decide +kernel), jwat_in (i := 76) (by decide +kernel), ⟨by decide +kernel, by decide +kernel, by decide +kernel⟩, by rw [if_neg (by decide)]; exact ⟨jwat_in (i := 703) (by decide +kernel), jwat_in (i := 22) (by decide +kernel)⟩⟩
def M_Rd_takeRights : jM := ((⟨"ChessLedger$Reader", "takeRights", "()Z"⟩, prog_6_method_10_code, 2, (some .boolean)), [some (.aload_n 0, 1, []), some (.bipush (45), 2, []), none, some (.invokevirtual 39, 3, [86, 640, 0]), none, none, some (.ifCond .eq (5), 3, []), none, none, some (.iconst (1), 1, []), some (.ireturn, 1, []), some (.iconst (0), 1, []), some (.istore_n 1, 1, []), some (.iload_n 1, 1, []), some (.iconst (4), 1, []), some (.if_icmp .ge (37), 3, []), none, none, some (.aload_n 0, 1, []), some (.ldc 94, 2, [1, 1]), none, some (.iload_n 1, 1, []), some (.invokevirtual 88, 3, [91, 660, 0]), none, none, some (.invokevirtual 39, 3, [86, 640, 0]), none, none, some (.ifCond .eq (18), 3, []), none, none, some (.aload_n 0, 1, []), some (.getfield 21, 3, [5, 1, 222, 0]), none, none, some (.dup, 1, []), some (.getfield 96, 3, [1, 2, 127, 1]), none, none, some (.iconst (1), 1, []), some (.iload_n 1, 1, []), some (.ishl, 1, []), some (.ior, 1, []), some (.putfield 96, 3, [1, 2, 127, 1]), none, none, some (.iinc 1 (1), 3, []), none, none, some (.goto (-36), 3, []), none, none, some (.aload_n 0, 1, []), some (.getfield 21, 3, [5, 1, 222, 0]), none, none, some (.getfield 96, 3, [1, 2, 127, 1]), none, none, some (.ifCond .eq (7), 3, []), none, none, some (.iconst (1), 1, []), some (.goto (4), 3, []), none, none, some (.iconst (0), 1, []), some (.ireturn, 1, [])], (4, 85, 1, 0), [])
set_option maxRecDepth 100000 in
theorem st_Rd_takeRights : jokT2 M_Rd_takeRights 0 (jt M_Rd_takeRights) = true := by decide +kernel
set_option maxRecDepth 100000 in
theorem ok_Rd_takeRights : jokM M_Rd_takeRights := ⟨by decide +kernel, jwat_in (i := 708) (by decide +kernel), jwat_in (i := 76) (by decide +kernel), ⟨by decide +kernel, by decide +kernel, by decide +kernel⟩, by rw [if_neg (by decide)]; exact ⟨jwat_in (i := 707) (by decide +kernel), jwat_in (i := 23) (by decide +kernel)⟩⟩
def M_Rd_takePassed : jM := ((⟨"ChessLedger$Reader", "takePassed", "()Z"⟩, prog_6_method_11_code, 1, (some .boolean)), [some (.aload_n 0, 1, []), some (.bipush (45), 2, []), none, some (.invokevirtual 39, 3, [86, 640, 0]), none, none, some (.ifCond .eq (5), 3, []), none, none, some (.iconst (1), 1, []), some (.ireturn, 1, []), some (.aload_n 0, 1, []), some (.invokevirtual 55, 3, [87, 644, 0]), none, none, some (.bipush (97), 2, []), none, some (.if_icmp .lt (12), 3, []), none, none, some (.aload_n 0, 1, []), some (.invokevirtual 55, 3, [87, 644, 0]), none, none, some (.bipush (104), 2, []), none, some (.if_icmp .le (5), 3, []), none, none, some (.iconst (0), 1, []), some (.ireturn, 1, []), some (.aload_n 0, 1, []), some (.getfield 21, 3, [5, 1, 222, 0]), none, none, some (.aload_n 0, 1, []), some (.invokevirtual 55, 3, [87, 644, 0]), none, none, some (.bipush (97), 2, []), none, some (.isub, 1, []), some (.putfield 99, 3, [1, 3, 131, 1]), none, none, some (.aload_n 0, 1, []), some (.dup, 1, []), some (.getfield 25, 3, [5, 2, 224, 0]), none, none, some (.iconst (1), 1, []), some (.iadd, 1, []), some (.putfield 25, 3, [5, 2, 224, 0]), none, none, some (.aload_n 0, 1, []), some (.aload_n 0, 1, []), some (.invokevirtual 55, 3, [87, 644, 0]), none, none, some (.bipush (49), 2, []), none, some (.isub, 1, []), some (.putfield 29, 3, [5, 3, 225, 0]), none, none, some (.aload_n 0, 1, []), some (.bipush (51), 2, []), none, some (.invokevirtual 39, 3, [86, 640, 0]), none, none, some (.ifCond .ne (12), 3, []), none, none, some (.aload_n 0, 1, []), some (.bipush (54), 2, []), none, some (.invokevirtual 39, 3, [86, 640, 0]), none, none, some (.ifCond .eq (7), 3, []), none, none, some (.iconst (1), 1, []), some (.goto (4), 3, []), none, none, some (.iconst (0), 1, []), some (.ireturn, 1, [])], (3, 62, 1, 0), [])
set_option maxRecDepth 100000 in
theorem st_Rd_takePassed : jokT2 M_Rd_takePassed 0 (jt M_Rd_takePassed) = true := by decide +kernel
set_option maxRecDepth 100000 in
theorem ok_Rd_takePassed : jokM M_Rd_takePassed := ⟨by decide +kernel, jwat_in (i := 713) (by decide +kernel), jwat_in (i := 76) (by decide +kernel), ⟨by decide +kernel, by decide +kernel, by decide +kernel⟩, by rw [if_neg (by decide)]; exact ⟨jwat_in (i := 712) (by decide +kernel), jwat_in (i := 24) (by decide +kernel)⟩⟩
def M_Rd_takeCount : jM := ((⟨"ChessLedger$Reader", "takeCount", "()Z"⟩, prog_6_method_12_code, 2, (some .boolean)), [some (.aload_n 0, 1, []), some (.bipush (48), 2, []), none, some (.invokevirtual 39, 3, [86, 640, 0]), none, none, some (.ifCond .eq (5), 3, []), none, none, some (.iconst (1), 1, []), some (.ireturn, 1, []), some (.iconst (0), 1, []), some (.istore_n 1, 1, []), some (.iload_n 1, 1, []), some (.iconst (3), 1, []), some (.if_icmp .ge (62), 3, []), none, none, some (.aload_n 0, 1, []), some (.invokevirtual 55, 3, [87, 644, 0]), none, none, some (.bipush (48), 2, []), none, some (.if_icmp .lt (53), 3, []), none, none, some (.aload_n 0, 1, []), some (.invokevirtual 55, 3, [87, 644, 0]), none, none, some (.bipush (57), 2, []), none, some (.if_icmp .gt (44), 3, []), none, none, some (.aload_n 0, 1, []), some (.getfield 21, 3, [5, 1, 222, 0]), none, none, some (.bipush (10), 2, []), none, some (.aload_n 0, 1, []), some (.getfield 21, 3, [5, 1, 222, 0]), none, none, some (.getfield 102, 3, [1, 4, 136, 1]), none, none, some (.imul, 1, []), some (.aload_n 0, 1, []), some (.invokevirtual 55, 3, [87, 644, 0]), none, none, some (.iadd, 1, []), some (.bipush (48), 2, []), none, some (.isub, 1, []), some (.putfield 102, 3, [1, 4, 136, 1]), none, none, some (.aload_n 0, 1, []), some (.dup, 1, []), some (.getfield 25, 3, [5, 2, 224, 0]), none, none, some (.iconst (1), 1, []), some (.iadd, 1, []), some (.putfield 25, 3, [5, 2, 224, 0]), none, none, some (.iinc 1 (1), 3, []), none, none, some (.goto (-61), 3, []), none, none, some (.iload_n 1, 1, []), some (.ifCond .le (7), 3, []), none, none, some (.iconst (1), 1, []), some (.goto (4), 3, []), none, none, some (.iconst (0), 1, []), some (.ireturn, 1, [])], (3, 62, 1, 0), [])
set_option maxRecDepth 100000 in
theorem st_Rd_takeCount : jokT2 M_Rd_takeCount 0 (jt M_Rd_takeCount) = true := by decide +kernel
set_option maxRecDepth 100000 in
theorem ok_Rd_takeCount : jokM M_Rd_takeCount := ⟨by decide +kernel, jwat_in (i := 717) (by decide +kernel), jwat_in (i := 76) (by decide +kernel), ⟨by decide +kernel, by decide +kernel, by decide +kernel⟩, by rw [if_neg (by decide)]; exact ⟨jwat_in (i := 716) (by decide +kernel), jwat_in (i := 25) (by decide +kernel)⟩⟩
def M_Tx_wipe : jM := ((⟨"ChessLedger$Text", "wipe", "()V"⟩, prog_7_method_2_code, 1, none), [some (.aload_n 0, 1, []), some (.iconst (0), 1, []), some (.putfield 15, 3, [6, 1, 210, 0]), none, none, some (.return_, 1, [])], (0, 0, 1, 0), [])
set_option maxRecDepth 100000 in
theorem st_Tx_wipe : jokT2 M_Tx_wipe 0 (jt M_Tx_wipe) = true := by decide +kernel
set_option maxRecDepth 100000 in
theorem ok_Tx_wipe : jokM M_Tx_wipe := ⟨by decide +kernel, jwat_in (i := 721) (by decide +kernel), jwat_in (i := 77) (by decide +kernel), ⟨by decide +kernel, by decide +kernel, by decide +kernel⟩, by rw [if_neg (by decide)]; exact ⟨jwat_in (i := 719) (by decide +kernel), jwat_in (i := 720) (by decide +kernel)⟩⟩
def M_Rd_isPassedRankDue : jM := ((⟨"ChessLedger$Reader", "isPassedRankDue", "()Z"⟩, prog_6_method_3_code, 1, (some .boolean)), [some (.aload_n 0, 1, []), some (.getfield 29, 3, [5, 3, 225, 0]), none, none, some (.iconst (-1), 1, []), some (.if_icmp .eq (24), 3, []), none, none, some (.aload_n 0, 1, []), some (.getfield 29, 3, [5, 3, 225, 0]), none, none, some (.aload_n 0, 1, []), some (.getfield 21, 3, [5, 1, 222, 0]), none, none, some (.getfield 59, 3, [1, 1, 118, 1]), none, none, some (.invokestatic 62, 3, [22, 726, 1]), none, none, some (.iconst (2), 1, []), some (.invokestatic 66, 3, [17, 727, 1]), none, none, some (.if_icmp .ne (7), 3, []), none, none, some (.iconst (1), 1, []), some (.goto (4), 3, []), none, none, some (.iconst (0), 1, []), some (.ireturn, 1, [])], (1, 21, 1, 0), [])
set_option maxRecDepth 100000 in
theorem st_Rd_isPassedRankDue : jokT2 M_Rd_isPassedRankDue 0 (jt M_Rd_isPassedRankDue) = true := by decide +kernel
set_option maxRecDepth 100000 in
theorem ok_Rd_isPassedRankDue : jokM M_Rd_isPassedRankDue := ⟨by decide +kernel, jwat_in (i := 725) (by decide +kernel), jwat_in (i := 76) (by decide +kernel), ⟨by decide +kernel, by decide +kernel, by decide +kernel⟩, by rw [if_neg (by decide)]; exact ⟨jwat_in (i := 723) (by decide +kernel), jwat_in (i := 724) (by decide +kernel)⟩⟩
def M_X_print : jM := ((⟨"ChessLedger", "print", "()I"⟩, prog_1_method_19_code, 1, (some .int)), [some (.aload_n 0, 1, []), some (.getfield 62, 3, [0, 9, 246, 0]), none, none, some (.ifCond .ne (5), 3, []), none, none, some (.iconst (-1), 1, []), some (.ireturn, 1, []), some (.aload_n 0, 1, []), some (.getfield 59, 3, [0, 8, 245, 0]), none, none, some (.invokevirtual 164, 3, [100, 718, 0]), none, none, some (.aload_n 0, 1, []), some (.getfield 59, 3, [0, 8, 245, 0]), none, none, some (.aload_n 0, 1, []), some (.getfield 20, 3, [0, 1, 238, 0]), none, none, some (.invokevirtual 168, 3, [103, 733, 0]), none, none, some (.aload_n 0, 1, []), some (.getfield 59, 3, [0, 8, 245, 0]), none, none, some (.aload_n 0, 1, []), some (.getfield 20, 3, [0, 1, 238, 0]), none, none, some (.invokevirtual 171, 3, [106, 749, 0]), none, none, some (.aload_n 0, 1, []), some (.getfield 59, 3, [0, 8, 245, 0]), none, none, some (.getfield 152, 3, [6, 1, 211, 1]), none, none, some (.ireturn, 1, [])], (6, 132, 1, 0), [])
set_option maxRecDepth 100000 in
theorem st_X_print : jokT2 M_X_print 0 (jt M_X_print) = true := by decide +kernel
set_option maxRecDepth 100000 in
theorem ok_X_print : jokM M_X_print := ⟨by decide +kernel, jwat_in (i := 732) (by decide +kernel), jwat_in (i := 71) (by decide +kernel), ⟨by decide +kernel, by decide +kernel, by decide +kernel⟩, by rw [if_neg (by decide)]; exact ⟨jwat_in (i := 730) (by decide +kernel), jwat_in (i := 731) (by decide +kernel)⟩⟩
def M_Tx_addSquares : jM := ((⟨"ChessLedger$Text", "addSquares", "(LChessLedger$Board;)V"⟩, prog_7_method_5_code, 3, none), [some (.bipush (7), 2, []), none, some (.istore_n 2, 1, []), some (.iload_n 2, 1, []), some (.ifCond .lt (25), 3, []), none, none, some (.aload_n 0, 1, []), some (.aload_n 1, 1, []), some (.iload_n 2, 1, []), some (.invokevirtual 19, 3, [104, 737, 0]), none, none, some (.iload_n 2, 1, []), some (.ifCond .le (9), 3, []), none, none, some (.aload_n 0, 1, []), some (.bipush (47), 2, []), none, some (.invokevirtual 23, 3, [82, 746, 0]), none, none, some (.iinc 2 (-1), 3, []), none, none, some (.goto (-23), 3, []), none, none, some (.return_, 1, [])], (5, 110, 1, 1), [])
set_option maxRecDepth 100000 in
theorem st_Tx_addSquares : jokT2 M_Tx_addSquares 0 (jt M_Tx_addSquares) = true := by decide +kernel
set_option maxRecDepth 100000 in
theorem ok_Tx_addSquares : jokM M_Tx_addSquares := ⟨by decide +kernel, jwat_in (i := 736) (by decide +kernel), jwat_in (i := 77) (by decide +kernel), ⟨by decide +kernel, by decide +kernel, by decide +kernel⟩, by rw [if_neg (by decide)]; exact ⟨jwat_in (i := 734) (by decide +kernel), jwat_in (i := 735) (by decide +kernel)⟩⟩
def M_Tx_addRank : jM := ((⟨"ChessLedger$Text", "addRank", "(LChessLedger$Board;I)V"⟩, prog_7_method_6_code, 6, none), [some (.iconst (0), 1, []), some (.istore_n 3, 1, []), some (.iconst (0), 1, []), some (.istore 4, 2, []), none, some (.iload 4, 2, []), none, some (.bipush (8), 2, []), none, some (.if_icmp .ge (53), 3, []), none, none, some (.aload_n 1, 1, []), some (.getfield 27, 3, [1, 0, 113, 1]), none, none, some (.iload 4, 2, []), none, some (.iload_n 2, 1, []), some (.invokestatic 33, 3, [18, 741, 1]), none, none, some (.iaload, 1, []), some (.istore 5, 2, []), none, some (.iload 5, 2, []), none, some (.ifCond .ne (9), 3, []), none, none, some (.iinc 3 (1), 3, []), none, none, some (.goto (23), 3, []), none, none, some (.aload_n 0, 1, []), some (.iload_n 3, 1, []), some (.invokevirtual 37, 3, [105, 742, 0]), none, none, some (.aload_n 0, 1, []), some (.ldc 40, 2, [1, 2]), none, some (.iload 5, 2, []), none, some (.iconst (1), 1, []), some (.isub, 1, []), some (.invokevirtual 42, 3, [91, 748, 0]), none, none, some (.invokevirtual 23, 3, [82, 746, 0]), none, none, some (.iconst (0), 1, []), some (.istore_n 3, 1, []), some (.iinc 4 (1), 3, []), none, none, some (.goto (-54), 3, []), none, none, some (.aload_n 0, 1, []), some (.iload_n 3, 1, []), some (.invokevirtual 37, 3, [105, 742, 0]), none, none, some (.return_, 1, [])], (4, 85, 1, 2), [])
set_option maxRecDepth 100000 in
theorem st_Tx_addRank : jokT2 M_Tx_addRank 0 (jt M_Tx_addRank) = true := by decide +kernel
set_option maxRecDepth 100000 in
theorem ok_Tx_addRank : jokM M_Tx_addRank := ⟨by decide +kernel, jwat_in (i := 740) (by decide +kernel), jwat_in (i := 77) (by decide +kernel), ⟨by decide +kernel, by decide +kernel, by decide +kernel⟩, by rw [if_neg (by decide)]; exact ⟨jwat_in (i := 739) (by decide +kernel), jwat_in (i := 26) (by decide +kernel)⟩⟩
def M_Tx_addGap : jM := ((⟨"ChessLedger$Text", "addGap", "(I)V"⟩, prog_7_method_7_code, 2, none), [some (.iload_n 1, 1, []), some (.ifCond .le (11), 3, []), none, none, some (.aload_n 0, 1, []), some (.bipush (48), 2, []), none, some (.iload_n 1, 1, []), some (.iadd, 1, []), some (.invokevirtual 23, 3, [82, 746, 0]), none, none, some (.return_, 1, [])], (1, 21, 1, 1), [])
set_option maxRecDepth 100000 in
theorem st_Tx_addGap : jokT2 M_Tx_addGap 0 (jt M_Tx_addGap) = true := by decide +kernel
set_option maxRecDepth 100000 in
theorem ok_Tx_addGap : jokM M_Tx_addGap := ⟨by decide +kernel, jwat_in (i := 745) (by decide +kernel), jwat_in (i := 77) (by decide +kernel), ⟨by decide +kernel, by decide +kernel, by decide +kernel⟩, by rw [if_neg (by decide)]; exact ⟨jwat_in (i := 744) (by decide +kernel), jwat_in (i := 27) (by decide +kernel)⟩⟩
def M_Tx_addState : jM := ((⟨"ChessLedger$Text", "addState", "(LChessLedger$Board;)V"⟩, prog_7_method_8_code, 2, none), [some (.aload_n 0, 1, []), some (.bipush (32), 2, []), none, some (.invokevirtual 23, 3, [82, 746, 0]), none, none, some (.aload_n 0, 1, []), some (.aload_n 1, 1, []), some (.getfield 48, 3, [1, 1, 121, 1]), none, none, some (.ifCond .ne (8), 3, []), none, none, some (.bipush (119), 2, []), none, some (.goto (5), 3, []), none, none, some (.bipush (98), 2, []), none, some (.invokevirtual 23, 3, [82, 746, 0]), none, none, some (.aload_n 0, 1, []), some (.bipush (32), 2, []), none, some (.invokevirtual 23, 3, [82, 746, 0]), none, none, some (.aload_n 0, 1, []), some (.aload_n 1, 1, []), some (.getfield 51, 3, [1, 2, 126, 1]), none, none, some (.invokevirtual 54, 3, [107, 753, 0]), none, none, some (.aload_n 0, 1, []), some (.bipush (32), 2, []), none, some (.invokevirtual 23, 3, [82, 746, 0]), none, none, some (.aload_n 0, 1, []), some (.aload_n 1, 1, []), some (.invokevirtual 57, 3, [33, 758, 0]), none, none, some (.invokevirtual 61, 3, [108, 759, 0]), none, none, some (.aload_n 0, 1, []), some (.bipush (32), 2, []), none, some (.invokevirtual 23, 3, [82, 746, 0]), none, none, some (.aload_n 0, 1, []), some (.aload_n 1, 1, []), some (.getfield 64, 3, [1, 4, 135, 1]), none, none, some (.invokevirtual 67, 3, [109, 763, 0]), none, none, some (.return_, 1, [])], (5, 107, 1, 1), [])
set_option maxRecDepth 100000 in
theorem st_Tx_addState : jokT2 M_Tx_addState 0 (jt M_Tx_addState) = true := by decide +kernel
set_option maxRecDepth 100000 in
theorem ok_Tx_addState : jokM M_Tx_addState := ⟨by decide +kernel, jwat_in (i := 752) (by decide +kernel), jwat_in (i := 77) (by decide +kernel), ⟨by decide +kernel, by decide +kernel, by decide +kernel⟩, by rw [if_neg (by decide)]; exact ⟨jwat_in (i := 750) (by decide +kernel), jwat_in (i := 751) (by decide +kernel)⟩⟩
def M_Tx_addRights : jM := ((⟨"ChessLedger$Text", "addRights", "(I)V"⟩, prog_7_method_9_code, 3, none), [some (.iload_n 1, 1, []), some (.ifCond .ne (9), 3, []), none, none, some (.aload_n 0, 1, []), some (.bipush (45), 2, []), none, some (.invokevirtual 23, 3, [82, 746, 0]), none, none, some (.iconst (0), 1, []), some (.istore_n 2, 1, []), some (.iload_n 2, 1, []), some (.iconst (4), 1, []), some (.if_icmp .ge (27), 3, []), none, none, some (.iload_n 1, 1, []), some (.iload_n 2, 1, []), some (.ishr, 1, []), some (.iconst (1), 1, []), some (.iand, 1, []), some (.ifCond .eq (13), 3, []), none, none, some (.aload_n 0, 1, []), some (.ldc 70, 2, [1, 3]), none, some (.iload_n 2, 1, []), some (.invokevirtual 42, 3, [91, 748, 0]), none, none, some (.invokevirtual 23, 3, [82, 746, 0]), none, none, some (.iinc 2 (1), 3, []), none, none, some (.goto (-26), 3, []), none, none, some (.return_, 1, [])], (4, 85, 1, 1), [])
set_option maxRecDepth 100000 in
theorem st_Tx_addRights : jokT2 M_Tx_addRights 0 (jt M_Tx_addRights) = true := by decide +kernel
set_option maxRecDepth 100000 in
theorem ok_Tx_addRights : jokM M_Tx_addRights := ⟨by decide +kernel, jwat_in (i := 756) (by decide +kernel), jwat_in (i := 77) (by decide +kernel), ⟨by decide +kernel, by decide +kernel, by decide +kernel⟩, by rw [if_neg (by decide)]; exact ⟨jwat_in (i := 755) (by decide +kernel), jwat_in (i := 28) (by decide +kernel)⟩⟩
def M_Tx_addPassed : jM := ((⟨"ChessLedger$Text", "addPassed", "(I)V"⟩, prog_7_method_10_code, 2, none), [some (.iload_n 1, 1, []), some (.iconst (-1), 1, []), some (.if_icmp .ne (12), 3, []), none, none, some (.aload_n 0, 1, []), some (.bipush (45), 2, []), none, some (.invokevirtual 23, 3, [82, 746, 0]), none, none, some (.goto (24), 3, []), none, none, some (.aload_n 0, 1, []), some (.bipush (97), 2, []), none, some (.iload_n 1, 1, []), some (.bipush (7), 2, []), none, some (.iand, 1, []), some (.iadd, 1, []), some (.invokevirtual 23, 3, [82, 746, 0]), none, none, some (.aload_n 0, 1, []), some (.bipush (49), 2, []), none, some (.iload_n 1, 1, []), some (.iconst (3), 1, []), some (.ishr, 1, []), some (.iadd, 1, []), some (.invokevirtual 23, 3, [82, 746, 0]), none, none, some (.return_, 1, [])], (1, 21, 1, 1), [])
set_option maxRecDepth 100000 in
theorem st_Tx_addPassed : jokT2 M_Tx_addPassed 0 (jt M_Tx_addPassed) = true := by decide +kernel
set_option maxRecDepth 100000 in
theorem ok_Tx_addPassed : jokM M_Tx_addPassed := ⟨by decide +kernel, jwat_in (i := 762) (by decide +kernel), jwat_in (i := 77) (by decide +kernel), ⟨by decide +kernel, by decide +kernel, by decide +kernel⟩, by rw [if_neg (by decide)]; exact ⟨jwat_in (i := 761) (by decide +kernel), jwat_in (i := 29) (by decide +kernel)⟩⟩
def M_Tx_addNumber : jM := ((⟨"ChessLedger$Text", "addNumber", "(I)V"⟩, prog_7_method_11_code, 2, none), [some (.iload_n 1, 1, []), some (.bipush (100), 2, []), none, some (.if_icmp .lt (17), 3, []), none, none, some (.aload_n 0, 1, []), some (.bipush (48), 2, []), none, some (.iload_n 1, 1, []), some (.bipush (100), 2, []), none, some (.idiv, 1, []), some (.bipush (10), 2, []), none, some (.irem, 1, []), some (.iadd, 1, []), some (.invokevirtual 23, 3, [82, 746, 0]), none, none, some (.iload_n 1, 1, []), some (.bipush (10), 2, []), none, some (.if_icmp .lt (17), 3, []), none, none, some (.aload_n 0, 1, []), some (.bipush (48), 2, []), none, some (.iload_n 1, 1, []), some (.bipush (10), 2, []), none, some (.idiv, 1, []), some (.bipush (10), 2, []), none, some (.irem, 1, []), some (.iadd, 1, []), some (.invokevirtual 23, 3, [82, 746, 0]), none, none, some (.aload_n 0, 1, []), some (.bipush (48), 2, []), none, some (.iload_n 1, 1, []), some (.bipush (10), 2, []), none, some (.irem, 1, []), some (.iadd, 1, []), some (.invokevirtual 23, 3, [82, 746, 0]), none, none, some (.return_, 1, [])], (1, 21, 1, 1), [])
set_option maxRecDepth 100000 in
theorem st_Tx_addNumber : jokT2 M_Tx_addNumber 0 (jt M_Tx_addNumber) = true := by decide +kernel
set_option maxRecDepth 100000 in
theorem ok_Tx_addNumber : jokM M_Tx_addNumber := ⟨by decide +kernel, jwat_in (i := 766) (by decide +kernel), jwat_in (i := 77) (by decide +kernel), ⟨by decide +kernel, by decide +kernel, by decide +kernel⟩, by rw [if_neg (by decide)]; exact ⟨jwat_in (i := 765) (by decide +kernel), jwat_in (i := 30) (by decide +kernel)⟩⟩
def M_X_character : jM := ((⟨"ChessLedger", "character", "(I)I"⟩, prog_1_method_20_code, 2, (some .int)), [some (.aload_n 0, 1, []), some (.getfield 59, 3, [0, 8, 245, 0]), none, none, some (.iload_n 1, 1, []), some (.invokevirtual 174, 3, [88, 771, 0]), none, none, some (.ireturn, 1, [])], (1, 21, 1, 1), [])
set_option maxRecDepth 100000 in
theorem st_X_character : jokT2 M_X_character 0 (jt M_X_character) = true := by decide +kernel
set_option maxRecDepth 100000 in
theorem ok_X_character : jokM M_X_character := ⟨by decide +kernel, jwat_in (i := 770) (by decide +kernel), jwat_in (i := 71) (by decide +kernel), ⟨by decide +kernel, by decide +kernel, by decide +kernel⟩, by rw [if_neg (by decide)]; exact ⟨jwat_in (i := 768) (by decide +kernel), jwat_in (i := 769) (by decide +kernel)⟩⟩
def M_X_check : jM := ((⟨"ChessLedger", "check", "()I"⟩, prog_1_method_21_code, 6, (some .int)), [some (.aload_n 0, 1, []), some (.getfield 62, 3, [0, 9, 246, 0]), none, none, some (.ifCond .ne (5), 3, []), none, none, some (.iconst (-1), 1, []), some (.ireturn, 1, []), some (.aload_n 0, 1, []), some (.getfield 31, 3, [0, 3, 240, 0]), none, none, some (.aload_n 0, 1, []), some (.getfield 20, 3, [0, 1, 238, 0]), none, none, some (.invokevirtual 113, 3, [41, 437, 0]), none, none, some (.istore_n 1, 1, []), some (.aload_n 0, 1, []), some (.getfield 10, 3, [0, 0, 237, 0]), none, none, some (.getfield 110, 3, [2, 6, 157, 1]), none, none, some (.istore_n 2, 1, []), some (.aload_n 0, 1, []), some (.getfield 20, 3, [0, 1, 238, 0]), none, none, some (.getfield 97, 3, [1, 1, 120, 1]), none, none, some (.istore_n 3, 1, []), some (.aload_n 0, 1, []), some (.getfield 55, 3, [0, 7, 244, 0]), none, none, some (.aload_n 0, 1, []), some (.getfield 20, 3, [0, 1, 238, 0]), none, none, some (.invokevirtual 85, 3, [9, 301, 0]), none, none, some (.iconst (0), 1, []), some (.istore 4, 2, []), none, some (.iload 4, 2, []), none, some (.iload_n 1, 1, []), some (.if_icmp .ge (82), 3, []), none, none, some (.aload_n 0, 1, []), some (.getfield 10, 3, [0, 0, 237, 0]), none, none, some (.aload_n 0, 1, []), some (.getfield 31, 3, [0, 3, 240, 0]), none, none, some (.iload 4, 2, []), none, some (.invokevirtual 117, 3, [58, 520, 0]), none, none, some (.invokevirtual 124, 3, [63, 539, 0]), none, none, some (.aload_n 0, 1, []), some (.getfield 20, 3, [0, 1, 238, 0]), none, none, some (.iload_n 3, 1, []), some (.invokevirtual 143, 3, [23, 587, 0]), none, none, some (.ifCond .ne (7), 3, []), none, none, some (.iconst (1), 1, []), some (.goto (4), 3, []), none, none, some (.iconst (0), 1, []), some (.istore 5, 2, []), none, some (.aload_n 0, 1, []), some (.getfield 10, 3, [0, 0, 237, 0]), none, none, some (.invokevirtual 136, 3, [70, 574, 0]), none, none, some (.iload 5, 2, []), none, some (.ifCond .eq (28), 3, []), none, none, some (.aload_n 0, 1, []), some (.getfield 10, 3, [0, 0, 237, 0]), none, none, some (.getfield 110, 3, [2, 6, 157, 1]), none, none, some (.iload_n 2, 1, []), some (.if_icmp .ne (17), 3, []), none, none, some (.aload_n 0, 1, []), some (.getfield 20, 3, [0, 1, 238, 0]), none, none, some (.aload_n 0, 1, []), some (.getfield 55, 3, [0, 7, 244, 0]), none, none, some (.invokevirtual 177, 3, [112, 776, 0]), none, none, some (.ifCond .ne (5), 3, []), none, none, some (.iconst (0), 1, []), some (.ireturn, 1, []), some (.iinc 4 (1), 3, []), none, none, some (.goto (-82), 3, []), none, none, some (.iload_n 1, 1, []), some (.aload_n 0, 1, []), some (.getfield 35, 3, [0, 4, 241, 0]), none, none, some (.aload_n 0, 1, []), some (.getfield 20, 3, [0, 1, 238, 0]), none, none, some (.invokevirtual 113, 3, [41, 437, 0]), none, none, some (.if_icmp .ne (7), 3, []), none, none, some (.iconst (1), 1, []), some (.goto (4), 3, []), none, none, some (.iconst (0), 1, []), some (.ireturn, 1, [])], (6, 155, 1, 0), [])
set_option maxRecDepth 100000 in
theorem st_X_check : jokT2 M_X_check 0 (jt M_X_check) = true := by decide +kernel
set_option maxRecDepth 100000 in
theorem ok_X_check : jokM M_X_check := ⟨by decide +kernel, jwat_in (i := 775) (by decide +kernel), jwat_in (i := 71) (by decide +kernel), ⟨by decide +kernel, by decide +kernel, by decide +kernel⟩, by rw [if_neg (by decide)]; exact ⟨jwat_in (i := 773) (by decide +kernel), jwat_in (i := 774) (by decide +kernel)⟩⟩
def M_Bd_isLike : jM := ((⟨"ChessLedger$Board", "isLike", "(LChessLedger$Board;)Z"⟩, prog_2_method_5_code, 3, (some .boolean)), [some (.iconst (0), 1, []), some (.istore_n 2, 1, []), some (.iload_n 2, 1, []), some (.bipush (64), 2, []), none, some (.if_icmp .ge (26), 3, []), none, none, some (.aload_n 0, 1, []), some (.getfield 9, 3, [1, 0, 108, 0]), none, none, some (.iload_n 2, 1, []), some (.iaload, 1, []), some (.aload_n 1, 1, []), some (.getfield 9, 3, [1, 0, 108, 0]), none, none, some (.iload_n 2, 1, []), some (.iaload, 1, []), some (.if_icmp .eq (5), 3, []), none, none, some (.iconst (0), 1, []), some (.ireturn, 1, []), some (.iinc 2 (1), 3, []), none, none, some (.goto (-26), 3, []), none, none, some (.aload_n 0, 1, []), some (.getfield 15, 3, [1, 1, 115, 0]), none, none, some (.aload_n 1, 1, []), some (.getfield 15, 3, [1, 1, 115, 0]), none, none, some (.if_icmp .ne (40), 3, []), none, none, some (.aload_n 0, 1, []), some (.getfield 19, 3, [1, 2, 122, 0]), none, none, some (.aload_n 1, 1, []), some (.getfield 19, 3, [1, 2, 122, 0]), none, none, some (.if_icmp .ne (29), 3, []), none, none, some (.aload_n 0, 1, []), some (.getfield 22, 3, [1, 3, 128, 0]), none, none, some (.aload_n 1, 1, []), some (.getfield 22, 3, [1, 3, 128, 0]), none, none, some (.if_icmp .ne (18), 3, []), none, none, some (.aload_n 0, 1, []), some (.getfield 25, 3, [1, 4, 132, 0]), none, none, some (.aload_n 1, 1, []), some (.getfield 25, 3, [1, 4, 132, 0]), none, none, some (.if_icmp .ne (7), 3, []), none, none, some (.iconst (1), 1, []), some (.goto (4), 3, []), none, none, some (.iconst (0), 1, []), some (.ireturn, 1, [])], (0, 0, 1, 1), [])
set_option maxRecDepth 100000 in
theorem st_Bd_isLike : jokT2 M_Bd_isLike 0 (jt M_Bd_isLike) = true := by decide +kernel
set_option maxRecDepth 100000 in
theorem ok_Bd_isLike : jokM M_Bd_isLike := ⟨by decide +kernel, jwat_in (i := 779) (by decide +kernel), jwat_in (i := 73) (by decide +kernel), ⟨by decide +kernel, by decide +kernel, by decide +kernel⟩, by rw [if_neg (by decide)]; exact ⟨jwat_in (i := 777) (by decide +kernel), jwat_in (i := 778) (by decide +kernel)⟩⟩
def M_M_clear : jM := ((⟨"ChessLedgerModel", "clear", "()V"⟩, prog_9_method_32_code, 2, none), [some (.aload_n 0, 1, []), some (.iconst (0), 1, []), some (.putfield 36, 3, [7, 0, 786, 0]), none, none, some (.aload_n 0, 1, []), some (.iconst (0), 1, []), some (.putfield 120, 3, [7, 7, 793, 0]), none, none, some (.aload_n 0, 1, []), some (.iconst (0), 1, []), some (.putfield 123, 3, [7, 8, 794, 0]), none, none, some (.iconst (0), 1, []), some (.istore_n 1, 1, []), some (.iload_n 1, 1, []), some (.bipush (64), 2, []), none, some (.if_icmp .ge (16), 3, []), none, none, some (.aload_n 0, 1, []), some (.getfield 7, 3, [7, 1, 787, 0]), none, none, some (.iload_n 1, 1, []), some (.iconst (0), 1, []), some (.bastore, 1, []), some (.iinc 1 (1), 3, []), none, none, some (.goto (-16), 3, []), none, none, some (.aload_n 0, 1, []), some (.getfield 13, 3, [7, 2, 788, 0]), none, none, some (.iconst (0), 1, []), some (.iconst (0), 1, []), some (.iastore, 1, []), some (.aload_n 0, 1, []), some (.getfield 17, 3, [7, 3, 789, 0]), none, none, some (.iconst (0), 1, []), some (.iconst (0), 1, []), some (.iastore, 1, []), some (.aload_n 0, 1, []), some (.getfield 20, 3, [7, 4, 790, 0]), none, none, some (.iconst (0), 1, []), some (.iconst (-1), 1, []), some (.iastore, 1, []), some (.aload_n 0, 1, []), some (.getfield 23, 3, [7, 5, 791, 0]), none, none, some (.iconst (0), 1, []), some (.iconst (0), 1, []), some (.iastore, 1, []), some (.return_, 1, [])], (0, 0, 1, 0), [])
set_option maxRecDepth 100000 in
theorem st_M_clear : jokT2 M_M_clear 0 (jt M_M_clear) = true := by decide +kernel
set_option maxRecDepth 100000 in
theorem ok_M_clear : jokM M_M_clear := ⟨by decide +kernel, jwat_in (i := 835) (by decide +kernel), jwat_in (i := 78) (by decide +kernel), ⟨by decide +kernel, by decide +kernel, by decide +kernel⟩, by rw [if_neg (by decide)]; exact ⟨jwat_in (i := 833) (by decide +kernel), jwat_in (i := 834) (by decide +kernel)⟩⟩
def M_M_put : jM := ((⟨"ChessLedgerModel", "put", "(II)I"⟩, prog_9_method_33_code, 3, (some .int)), [some (.aload_n 0, 1, []), some (.iconst (0), 1, []), some (.putfield 36, 3, [7, 0, 786, 0]), none, none, some (.iload_n 1, 1, []), some (.ifCond .lt (19), 3, []), none, none, some (.iload_n 1, 1, []), some (.bipush (63), 2, []), none, some (.if_icmp .gt (13), 3, []), none, none, some (.iload_n 2, 1, []), some (.ifCond .lt (9), 3, []), none, none, some (.iload_n 2, 1, []), some (.bipush (12), 2, []), none, some (.if_icmp .le (5), 3, []), none, none, some (.iconst (0), 1, []), some (.ireturn, 1, []), some (.aload_n 0, 1, []), some (.aload_n 0, 1, []), some (.getfield 120, 3, [7, 7, 793, 0]), none, none, some (.iconst (0), 1, []), some (.invokevirtual 107, 3, [115, 840, 0]), none, none, some (.aload_n 0, 1, []), some (.iconst (0), 1, []), some (.putfield 120, 3, [7, 7, 793, 0]), none, none, some (.aload_n 0, 1, []), some (.iconst (0), 1, []), some (.putfield 123, 3, [7, 8, 794, 0]), none, none, some (.aload_n 0, 1, []), some (.getfield 7, 3, [7, 1, 787, 0]), none, none, some (.iload_n 1, 1, []), some (.iload_n 2, 1, []), some (.i2b, 1, []), some (.bastore, 1, []), some (.iconst (1), 1, []), some (.ireturn, 1, [])], (1, 23, 1, 2), [])
set_option maxRecDepth 100000 in
theorem st_M_put : jokT2 M_M_put 0 (jt M_M_put) = true := by decide +kernel
set_option maxRecDepth 100000 in
theorem ok_M_put : jokM M_M_put := ⟨by decide +kernel, jwat_in (i := 839) (by decide +kernel), jwat_in (i := 78) (by decide +kernel), ⟨by decide +kernel, by decide +kernel, by decide +kernel⟩, by rw [if_neg (by decide)]; exact ⟨jwat_in (i := 837) (by decide +kernel), jwat_in (i := 838) (by decide +kernel)⟩⟩
def M_M_copy : jM := ((⟨"ChessLedgerModel", "copy", "(II)V"⟩, prog_9_method_27_code, 4, none), [some (.iconst (0), 1, []), some (.istore_n 3, 1, []), some (.iload_n 3, 1, []), some (.bipush (64), 2, []), none, some (.if_icmp .ge (31), 3, []), none, none, some (.aload_n 0, 1, []), some (.getfield 7, 3, [7, 1, 787, 0]), none, none, some (.bipush (64), 2, []), none, some (.iload_n 2, 1, []), some (.imul, 1, []), some (.iload_n 3, 1, []), some (.iadd, 1, []), some (.aload_n 0, 1, []), some (.getfield 7, 3, [7, 1, 787, 0]), none, none, some (.bipush (64), 2, []), none, some (.iload_n 1, 1, []), some (.imul, 1, []), some (.iload_n 3, 1, []), some (.iadd, 1, []), some (.baload, 1, []), some (.bastore, 1, []), some (.iinc 3 (1), 3, []), none, none, some (.goto (-31), 3, []), none, none, some (.aload_n 0, 1, []), some (.getfield 13, 3, [7, 2, 788, 0]), none, none, some (.iload_n 2, 1, []), some (.aload_n 0, 1, []), some (.getfield 13, 3, [7, 2, 788, 0]), none, none, some (.iload_n 1, 1, []), some (.iaload, 1, []), some (.iastore, 1, []), some (.aload_n 0, 1, []), some (.getfield 17, 3, [7, 3, 789, 0]), none, none, some (.iload_n 2, 1, []), some (.aload_n 0, 1, []), some (.getfield 17, 3, [7, 3, 789, 0]), none, none, some (.iload_n 1, 1, []), some (.iaload, 1, []), some (.iastore, 1, []), some (.aload_n 0, 1, []), some (.getfield 20, 3, [7, 4, 790, 0]), none, none, some (.iload_n 2, 1, []), some (.aload_n 0, 1, []), some (.getfield 20, 3, [7, 4, 790, 0]), none, none, some (.iload_n 1, 1, []), some (.iaload, 1, []), some (.iastore, 1, []), some (.aload_n 0, 1, []), some (.getfield 23, 3, [7, 5, 791, 0]), none, none, some (.iload_n 2, 1, []), some (.aload_n 0, 1, []), some (.getfield 23, 3, [7, 5, 791, 0]), none, none, some (.iload_n 1, 1, []), some (.iaload, 1, []), some (.iastore, 1, []), some (.return_, 1, [])], (0, 0, 1, 2), [])
set_option maxRecDepth 100000 in
theorem st_M_copy : jokT2 M_M_copy 0 (jt M_M_copy) = true := by decide +kernel
set_option maxRecDepth 100000 in
theorem ok_M_copy : jokM M_M_copy := ⟨by decide +kernel, jwat_in (i := 843) (by decide +kernel), jwat_in (i := 78) (by decide +kernel), ⟨by decide +kernel, by decide +kernel, by decide +kernel⟩, by rw [if_neg (by decide)]; exact ⟨jwat_in (i := 842) (by decide +kernel), jwat_in (i := 31) (by decide +kernel)⟩⟩
def M_M_set : jM := ((⟨"ChessLedgerModel", "set", "(IIII)I"⟩, prog_9_method_36_code, 5, (some .int)), [some (.aload_n 0, 1, []), some (.iconst (0), 1, []), some (.putfield 36, 3, [7, 0, 786, 0]), none, none, some (.iload_n 1, 1, []), some (.ifCond .lt (42), 3, []), none, none, some (.iload_n 1, 1, []), some (.iconst (1), 1, []), some (.if_icmp .gt (37), 3, []), none, none, some (.iload_n 2, 1, []), some (.ifCond .lt (33), 3, []), none, none, some (.iload_n 2, 1, []), some (.bipush (15), 2, []), none, some (.if_icmp .gt (27), 3, []), none, none, some (.iload_n 3, 1, []), some (.iconst (-1), 1, []), some (.if_icmp .lt (22), 3, []), none, none, some (.iload_n 3, 1, []), some (.bipush (7), 2, []), none, some (.if_icmp .gt (16), 3, []), none, none, some (.iload 4, 2, []), none, some (.ifCond .lt (11), 3, []), none, none, some (.iload 4, 2, []), none, some (.sipush (150), 3, []), none, none, some (.if_icmp .le (5), 3, []), none, none, some (.iconst (0), 1, []), some (.ireturn, 1, []), some (.aload_n 0, 1, []), some (.aload_n 0, 1, []), some (.getfield 120, 3, [7, 7, 793, 0]), none, none, some (.sipush (303), 3, []), none, none, some (.invokevirtual 107, 3, [115, 840, 0]), none, none, some (.aload_n 0, 1, []), some (.getfield 13, 3, [7, 2, 788, 0]), none, none, some (.sipush (303), 3, []), none, none, some (.iload_n 1, 1, []), some (.iastore, 1, []), some (.aload_n 0, 1, []), some (.getfield 17, 3, [7, 3, 789, 0]), none, none, some (.sipush (303), 3, []), none, none, some (.iload_n 2, 1, []), some (.iastore, 1, []), some (.aload_n 0, 1, []), some (.getfield 20, 3, [7, 4, 790, 0]), none, none, some (.sipush (303), 3, []), none, none, some (.iload_n 3, 1, []), some (.iastore, 1, []), some (.aload_n 0, 1, []), some (.getfield 23, 3, [7, 5, 791, 0]), none, none, some (.sipush (303), 3, []), none, none, some (.iload 4, 2, []), none, some (.iastore, 1, []), some (.aload_n 0, 1, []), some (.sipush (303), 3, []), none, none, some (.invokevirtual 131, 3, [117, 848, 0]), none, none, some (.ifCond .ne (5), 3, []), none, none, some (.iconst (0), 1, []), some (.ireturn, 1, []), some (.aload_n 0, 1, []), some (.invokevirtual 134, 3, [132, 905, 0]), none, none, some (.iconst (1), 1, []), some (.ireturn, 1, [])], (8, 204, 1, 4), [])
set_option maxRecDepth 100000 in
theorem st_M_set : jokT2 M_M_set 0 (jt M_M_set) = true := by decide +kernel
set_option maxRecDepth 100000 in
theorem ok_M_set : jokM M_M_set := ⟨by decide +kernel, jwat_in (i := 847) (by decide +kernel), jwat_in (i := 78) (by decide +kernel), ⟨by decide +kernel, by decide +kernel, by decide +kernel⟩, by rw [if_neg (by decide)]; exact ⟨jwat_in (i := 845) (by decide +kernel), jwat_in (i := 846) (by decide +kernel)⟩⟩
def M_M_isGood : jM := ((⟨"ChessLedgerModel", "isGood", "(I)Z"⟩, prog_9_method_18_code, 2, (some .boolean)), [some (.aload_n 0, 1, []), some (.iload_n 1, 1, []), some (.invokevirtual 71, 3, [118, 852, 0]), none, none, some (.ifCond .eq (50), 3, []), none, none, some (.aload_n 0, 1, []), some (.iload_n 1, 1, []), some (.invokevirtual 75, 3, [121, 863, 0]), none, none, some (.ifCond .eq (42), 3, []), none, none, some (.aload_n 0, 1, []), some (.iload_n 1, 1, []), some (.invokevirtual 78, 3, [122, 867, 0]), none, none, some (.ifCond .eq (34), 3, []), none, none, some (.aload_n 0, 1, []), some (.iload_n 1, 1, []), some (.aload_n 0, 1, []), some (.iload_n 1, 1, []), some (.iconst (1), 1, []), some (.aload_n 0, 1, []), some (.getfield 13, 3, [7, 2, 788, 0]), none, none, some (.iload_n 1, 1, []), some (.iaload, 1, []), some (.isub, 1, []), some (.invokevirtual 81, 3, [123, 871, 0]), none, none, some (.aload_n 0, 1, []), some (.getfield 13, 3, [7, 2, 788, 0]), none, none, some (.iload_n 1, 1, []), some (.iaload, 1, []), some (.invokevirtual 84, 3, [124, 875, 0]), none, none, some (.ifCond .ne (7), 3, []), none, none, some (.iconst (1), 1, []), some (.goto (4), 3, []), none, none, some (.iconst (0), 1, []), some (.ireturn, 1, [])], (5, 130, 1, 1), [])
set_option maxRecDepth 100000 in
theorem st_M_isGood : jokT2 M_M_isGood 0 (jt M_M_isGood) = true := by decide +kernel
set_option maxRecDepth 100000 in
theorem ok_M_isGood : jokM M_M_isGood := ⟨by decide +kernel, jwat_in (i := 851) (by decide +kernel), jwat_in (i := 78) (by decide +kernel), ⟨by decide +kernel, by decide +kernel, by decide +kernel⟩, by rw [if_neg (by decide)]; exact ⟨jwat_in (i := 850) (by decide +kernel), jwat_in (i := 32) (by decide +kernel)⟩⟩
def M_M_hasKings : jM := ((⟨"ChessLedgerModel", "hasKings", "(I)Z"⟩, prog_9_method_15_code, 7, (some .boolean)), [some (.iconst (0), 1, []), some (.istore_n 2, 1, []), some (.iconst (0), 1, []), some (.istore_n 3, 1, []), some (.iconst (1), 1, []), some (.istore 4, 2, []), none, some (.iconst (0), 1, []), some (.istore 5, 2, []), none, some (.iload 5, 2, []), none, some (.bipush (64), 2, []), none, some (.if_icmp .ge (83), 3, []), none, none, some (.aload_n 0, 1, []), some (.iload_n 1, 1, []), some (.iload 5, 2, []), none, some (.invokevirtual 40, 3, [119, 856, 0]), none, none, some (.istore 6, 2, []), none, some (.iload 6, 2, []), none, some (.bipush (6), 2, []), none, some (.if_icmp .ne (9), 3, []), none, none, some (.iload_n 2, 1, []), some (.iconst (1), 1, []), some (.iadd, 1, []), some (.goto (4), 3, []), none, none, some (.iload_n 2, 1, []), some (.istore_n 2, 1, []), some (.iload 6, 2, []), none, some (.bipush (12), 2, []), none, some (.if_icmp .ne (9), 3, []), none, none, some (.iload_n 3, 1, []), some (.iconst (1), 1, []), some (.iadd, 1, []), some (.goto (4), 3, []), none, none, some (.iload_n 3, 1, []), some (.istore_n 3, 1, []), some (.iload 4, 2, []), none, some (.ifCond .eq (30), 3, []), none, none, some (.iload 6, 2, []), none, some (.invokestatic 51, 3, [120, 860, 0]), none, none, some (.iconst (1), 1, []), some (.if_icmp .ne (17), 3, []), none, none, some (.iload 5, 2, []), none, some (.bipush (8), 2, []), none, some (.if_icmp .lt (14), 3, []), none, none, some (.iload 5, 2, []), none, some (.bipush (55), 2, []), none, some (.if_icmp .gt (7), 3, []), none, none, some (.iconst (1), 1, []), some (.goto (4), 3, []), none, none, some (.iconst (0), 1, []), some (.istore 4, 2, []), none, some (.iinc 5 (1), 3, []), none, none, some (.goto (-84), 3, []), none, none, some (.iload_n 2, 1, []), some (.iconst (1), 1, []), some (.if_icmp .ne (17), 3, []), none, none, some (.iload_n 3, 1, []), some (.iconst (1), 1, []), some (.if_icmp .ne (12), 3, []), none, none, some (.iload 4, 2, []), none, some (.ifCond .eq (7), 3, []), none, none, some (.iconst (1), 1, []), some (.goto (4), 3, []), none, none, some (.iconst (0), 1, []), some (.ireturn, 1, [])], (1, 22, 1, 1), [])
set_option maxRecDepth 100000 in
theorem st_M_hasKings : jokT2 M_M_hasKings 0 (jt M_M_hasKings) = true := by decide +kernel
set_option maxRecDepth 100000 in
theorem ok_M_hasKings : jokM M_M_hasKings := ⟨by decide +kernel, jwat_in (i := 855) (by decide +kernel), jwat_in (i := 78) (by decide +kernel), ⟨by decide +kernel, by decide +kernel, by decide +kernel⟩, by rw [if_neg (by decide)]; exact ⟨jwat_in (i := 854) (by decide +kernel), jwat_in (i := 33) (by decide +kernel)⟩⟩
def M_M_piece : jM := ((⟨"ChessLedgerModel", "piece", "(II)I"⟩, prog_9_method_3_code, 3, (some .int)), [some (.aload_n 0, 1, []), some (.getfield 7, 3, [7, 1, 787, 0]), none, none, some (.bipush (64), 2, []), none, some (.iload_n 1, 1, []), some (.imul, 1, []), some (.iload_n 2, 1, []), some (.iadd, 1, []), some (.baload, 1, []), some (.ireturn, 1, [])], (0, 0, 1, 2), [])
set_option maxRecDepth 100000 in
theorem st_M_piece : jokT2 M_M_piece 0 (jt M_M_piece) = true := by decide +kernel
set_option maxRecDepth 100000 in
theorem ok_M_piece : jokM M_M_piece := ⟨by decide +kernel, jwat_in (i := 859) (by decide +kernel), jwat_in (i := 78) (by decide +kernel), ⟨by decide +kernel, by decide +kernel, by decide +kernel⟩, by rw [if_neg (by decide)]; exact ⟨jwat_in (i := 858) (by decide +kernel), jwat_in (i := 34) (by decide +kernel)⟩⟩
def M_M_kindOf : jM := ((⟨"ChessLedgerModel", "kindOf", "(I)I"⟩, prog_9_method_4_code, 1, (some .int)), [some (.iload_n 0, 1, []), some (.bipush (6), 2, []), none, some (.if_icmp .le (10), 3, []), none, none, some (.iload_n 0, 1, []), some (.bipush (6), 2, []), none, some (.isub, 1, []), some (.goto (4), 3, []), none, none, some (.iload_n 0, 1, []), some (.ireturn, 1, [])], (0, 0, 0, 1), [])
set_option maxRecDepth 100000 in
theorem st_M_kindOf : jokT2 M_M_kindOf 0 (jt M_M_kindOf) = true := by decide +kernel
set_option maxRecDepth 100000 in
theorem ok_M_kindOf : jokM M_M_kindOf := ⟨by decide +kernel, jwat_in (i := 862) (by decide +kernel), jwat_in (i := 78) (by decide +kernel), ⟨by decide +kernel, by decide +kernel, by decide +kernel⟩, by rw [if_pos (show jk M_M_kindOf = 0 from rfl)]; exact jwat_in (i := 861) (by decide +kernel)⟩
def M_M_areRights : jM := ((⟨"ChessLedgerModel", "areRights", "(I)Z"⟩, prog_9_method_16_code, 6, (some .boolean)), [some (.iconst (1), 1, []), some (.istore_n 2, 1, []), some (.iconst (0), 1, []), some (.istore_n 3, 1, []), some (.iload_n 3, 1, []), some (.iconst (4), 1, []), some (.if_icmp .ge (103), 3, []), none, none, some (.aload_n 0, 1, []), some (.getfield 17, 3, [7, 3, 789, 0]), none, none, some (.iload_n 1, 1, []), some (.iaload, 1, []), some (.iload_n 3, 1, []), some (.ishr, 1, []), some (.iconst (1), 1, []), some (.iand, 1, []), some (.iconst (1), 1, []), some (.if_icmp .ne (83), 3, []), none, none, some (.iload_n 3, 1, []), some (.iconst (2), 1, []), some (.if_icmp .ge (7), 3, []), none, none, some (.iconst (0), 1, []), some (.goto (5), 3, []), none, none, some (.bipush (56), 2, []), none, some (.istore 4, 2, []), none, some (.iload_n 3, 1, []), some (.iconst (2), 1, []), some (.if_icmp .ge (7), 3, []), none, none, some (.iconst (0), 1, []), some (.goto (5), 3, []), none, none, some (.bipush (6), 2, []), none, some (.istore 5, 2, []), none, some (.iload_n 2, 1, []), some (.ifCond .eq (51), 3, []), none, none, some (.aload_n 0, 1, []), some (.iload_n 1, 1, []), some (.iload 4, 2, []), none, some (.iconst (4), 1, []), some (.iadd, 1, []), some (.invokevirtual 40, 3, [119, 856, 0]), none, none, some (.bipush (6), 2, []), none, some (.iload 5, 2, []), none, some (.iadd, 1, []), some (.if_icmp .ne (34), 3, []), none, none, some (.aload_n 0, 1, []), some (.iload_n 1, 1, []), some (.iload 4, 2, []), none, some (.iload_n 3, 1, []), some (.iconst (2), 1, []), some (.irem, 1, []), some (.ifCond .ne (8), 3, []), none, none, some (.bipush (7), 2, []), none, some (.goto (4), 3, []), none, none, some (.iconst (0), 1, []), some (.iadd, 1, []), some (.invokevirtual 40, 3, [119, 856, 0]), none, none, some (.iconst (4), 1, []), some (.iload 5, 2, []), none, some (.iadd, 1, []), some (.if_icmp .ne (7), 3, []), none, none, some (.iconst (1), 1, []), some (.goto (4), 3, []), none, none, some (.iconst (0), 1, []), some (.istore_n 2, 1, []), some (.iinc 3 (1), 3, []), none, none, some (.goto (-102), 3, []), none, none, some (.iload_n 2, 1, []), some (.ireturn, 1, [])], (1, 22, 1, 1), [])
set_option maxRecDepth 100000 in
theorem st_M_areRights : jokT2 M_M_areRights 0 (jt M_M_areRights) = true := by decide +kernel
set_option maxRecDepth 100000 in
theorem ok_M_areRights : jokM M_M_areRights := ⟨by decide +kernel, jwat_in (i := 866) (by decide +kernel), jwat_in (i := 78) (by decide +kernel), ⟨by decide +kernel, by decide +kernel, by decide +kernel⟩, by rw [if_neg (by decide)]; exact ⟨jwat_in (i := 865) (by decide +kernel), jwat_in (i := 35) (by decide +kernel)⟩⟩
def M_M_isFile : jM := ((⟨"ChessLedgerModel", "isFile", "(I)Z"⟩, prog_9_method_17_code, 3, (some .boolean)), [some (.aload_n 0, 1, []), some (.getfield 20, 3, [7, 4, 790, 0]), none, none, some (.iload_n 1, 1, []), some (.iaload, 1, []), some (.istore_n 2, 1, []), some (.iload_n 2, 1, []), some (.ifCond .ge (5), 3, []), none, none, some (.iconst (1), 1, []), some (.ireturn, 1, []), some (.aload_n 0, 1, []), some (.getfield 13, 3, [7, 2, 788, 0]), none, none, some (.iload_n 1, 1, []), some (.iaload, 1, []), some (.iconst (1), 1, []), some (.if_icmp .ne (48), 3, []), none, none, some (.aload_n 0, 1, []), some (.iload_n 1, 1, []), some (.bipush (24), 2, []), none, some (.iload_n 2, 1, []), some (.iadd, 1, []), some (.invokevirtual 40, 3, [119, 856, 0]), none, none, some (.iconst (1), 1, []), some (.if_icmp .ne (31), 3, []), none, none, some (.aload_n 0, 1, []), some (.iload_n 1, 1, []), some (.bipush (16), 2, []), none, some (.iload_n 2, 1, []), some (.iadd, 1, []), some (.invokevirtual 40, 3, [119, 856, 0]), none, none, some (.ifCond .ne (19), 3, []), none, none, some (.aload_n 0, 1, []), some (.iload_n 1, 1, []), some (.bipush (8), 2, []), none, some (.iload_n 2, 1, []), some (.iadd, 1, []), some (.invokevirtual 40, 3, [119, 856, 0]), none, none, some (.ifCond .ne (7), 3, []), none, none, some (.iconst (1), 1, []), some (.goto (50), 3, []), none, none, some (.iconst (0), 1, []), some (.goto (46), 3, []), none, none, some (.aload_n 0, 1, []), some (.iload_n 1, 1, []), some (.bipush (32), 2, []), none, some (.iload_n 2, 1, []), some (.iadd, 1, []), some (.invokevirtual 40, 3, [119, 856, 0]), none, none, some (.bipush (7), 2, []), none, some (.if_icmp .ne (31), 3, []), none, none, some (.aload_n 0, 1, []), some (.iload_n 1, 1, []), some (.bipush (40), 2, []), none, some (.iload_n 2, 1, []), some (.iadd, 1, []), some (.invokevirtual 40, 3, [119, 856, 0]), none, none, some (.ifCond .ne (19), 3, []), none, none, some (.aload_n 0, 1, []), some (.iload_n 1, 1, []), some (.bipush (48), 2, []), none, some (.iload_n 2, 1, []), some (.iadd, 1, []), some (.invokevirtual 40, 3, [119, 856, 0]), none, none, some (.ifCond .ne (7), 3, []), none, none, some (.iconst (1), 1, []), some (.goto (4), 3, []), none, none, some (.iconst (0), 1, []), some (.ireturn, 1, [])], (1, 22, 1, 1), [])
set_option maxRecDepth 100000 in
theorem st_M_isFile : jokT2 M_M_isFile 0 (jt M_M_isFile) = true := by decide +kernel
set_option maxRecDepth 100000 in
theorem ok_M_isFile : jokM M_M_isFile := ⟨by decide +kernel, jwat_in (i := 870) (by decide +kernel), jwat_in (i := 78) (by decide +kernel), ⟨by decide +kernel, by decide +kernel, by decide +kernel⟩, by rw [if_neg (by decide)]; exact ⟨jwat_in (i := 869) (by decide +kernel), jwat_in (i := 36) (by decide +kernel)⟩⟩
def M_M_kingOf : jM := ((⟨"ChessLedgerModel", "kingOf", "(II)I"⟩, prog_9_method_14_code, 5, (some .int)), [some (.iconst (-1), 1, []), some (.istore_n 3, 1, []), some (.iconst (0), 1, []), some (.istore 4, 2, []), none, some (.iload 4, 2, []), none, some (.bipush (64), 2, []), none, some (.if_icmp .ge (37), 3, []), none, none, some (.aload_n 0, 1, []), some (.iload_n 1, 1, []), some (.iload 4, 2, []), none, some (.invokevirtual 40, 3, [119, 856, 0]), none, none, some (.iload_n 2, 1, []), some (.ifCond .ne (8), 3, []), none, none, some (.bipush (6), 2, []), none, some (.goto (5), 3, []), none, none, some (.bipush (12), 2, []), none, some (.if_icmp .ne (8), 3, []), none, none, some (.iload 4, 2, []), none, some (.goto (4), 3, []), none, none, some (.iload_n 3, 1, []), some (.istore_n 3, 1, []), some (.iinc 4 (1), 3, []), none, none, some (.goto (-38), 3, []), none, none, some (.iload_n 3, 1, []), some (.ireturn, 1, [])], (1, 22, 1, 2), [])
set_option maxRecDepth 100000 in
theorem st_M_kingOf : jokT2 M_M_kingOf 0 (jt M_M_kingOf) = true := by decide +kernel
set_option maxRecDepth 100000 in
theorem ok_M_kingOf : jokM M_M_kingOf := ⟨by decide +kernel, jwat_in (i := 874) (by decide +kernel), jwat_in (i := 78) (by decide +kernel), ⟨by decide +kernel, by decide +kernel, by decide +kernel⟩, by rw [if_neg (by decide)]; exact ⟨jwat_in (i := 873) (by decide +kernel), jwat_in (i := 37) (by decide +kernel)⟩⟩
def M_M_isAttacked : jM := ((⟨"ChessLedgerModel", "isAttacked", "(III)Z"⟩, prog_9_method_13_code, 7, (some .boolean)), [some (.iconst (0), 1, []), some (.istore 4, 2, []), none, some (.iconst (0), 1, []), some (.istore 5, 2, []), none, some (.iload 5, 2, []), none, some (.bipush (9), 2, []), none, some (.if_icmp .ge (49), 3, []), none, none, some (.iload 4, 2, []), none, some (.ifCond .ne (44), 3, []), none, none, some (.iload 5, 2, []), none, some (.iconst (4), 1, []), some (.if_icmp .eq (29), 3, []), none, none, some (.aload_n 0, 1, []), some (.iload_n 1, 1, []), some (.iload_n 2, 1, []), some (.iload_n 3, 1, []), some (.iload 5, 2, []), none, some (.iconst (3), 1, []), some (.idiv, 1, []), some (.iconst (1), 1, []), some (.isub, 1, []), some (.iload 5, 2, []), none, some (.iconst (3), 1, []), some (.irem, 1, []), some (.iconst (1), 1, []), some (.isub, 1, []), some (.invokevirtual 64, 3, [125, 879, 0]), none, none, some (.ifCond .eq (7), 3, []), none, none, some (.iconst (1), 1, []), some (.goto (4), 3, []), none, none, some (.iconst (0), 1, []), some (.istore 4, 2, []), none, some (.iinc 5 (1), 3, []), none, none, some (.goto (-50), 3, []), none, none, some (.iconst (0), 1, []), some (.istore 5, 2, []), none, some (.iload 5, 2, []), none, some (.bipush (8), 2, []), none, some (.if_icmp .ge (65), 3, []), none, none, some (.iload 4, 2, []), none, some (.ifCond .ne (60), 3, []), none, none, some (.iload 5, 2, []), none, some (.iconst (2), 1, []), some (.irem, 1, []), some (.iconst (1), 1, []), some (.iadd, 1, []), some (.istore 6, 2, []), none, some (.aload_n 0, 1, []), some (.iload_n 1, 1, []), some (.iload_n 2, 1, []), some (.iload_n 3, 1, []), some (.iload 5, 2, []), none, some (.iconst (4), 1, []), some (.if_icmp .ge (8), 3, []), none, none, some (.iload 6, 2, []), none, some (.goto (6), 3, []), none, none, some (.iload 6, 2, []), none, some (.ineg, 1, []), some (.iload 5, 2, []), none, some (.iconst (2), 1, []), some (.idiv, 1, []), some (.iconst (2), 1, []), some (.irem, 1, []), some (.ifCond .ne (10), 3, []), none, none, some (.iconst (3), 1, []), some (.iload 6, 2, []), none, some (.isub, 1, []), some (.goto (7), 3, []), none, none, some (.iload 6, 2, []), none, some (.iconst (3), 1, []), some (.isub, 1, []), some (.invokevirtual 68, 3, [131, 901, 0]), none, none, some (.istore 4, 2, []), none, some (.iinc 5 (1), 3, []), none, none, some (.goto (-66), 3, []), none, none, some (.iload 4, 2, []), none, some (.ireturn, 1, [])], (4, 104, 1, 3), [])
set_option maxRecDepth 100000 in
theorem st_M_isAttacked : jokT2 M_M_isAttacked 0 (jt M_M_isAttacked) = true := by decide +kernel
set_option maxRecDepth 100000 in
theorem ok_M_isAttacked : jokM M_M_isAttacked := ⟨by decide +kernel, jwat_in (i := 878) (by decide +kernel), jwat_in (i := 78) (by decide +kernel), ⟨by decide +kernel, by decide +kernel, by decide +kernel⟩, by rw [if_neg (by decide)]; exact ⟨jwat_in (i := 877) (by decide +kernel), jwat_in (i := 38) (by decide +kernel)⟩⟩
def M_M_isSeen : jM := ((⟨"ChessLedgerModel", "isSeen", "(IIIII)Z"⟩, prog_9_method_11_code, 9, (some .boolean)), [some (.iload_n 2, 1, []), some (.bipush (8), 2, []), none, some (.idiv, 1, []), some (.iload 4, 2, []), none, some (.iadd, 1, []), some (.istore 6, 2, []), none, some (.iload_n 2, 1, []), some (.bipush (8), 2, []), none, some (.irem, 1, []), some (.iload 5, 2, []), none, some (.iadd, 1, []), some (.istore 7, 2, []), none, some (.iload 6, 2, []), none, some (.ifCond .lt (87), 3, []), none, none, some (.iload 6, 2, []), none, some (.bipush (8), 2, []), none, some (.if_icmp .ge (80), 3, []), none, none, some (.iload 7, 2, []), none, some (.ifCond .lt (75), 3, []), none, none, some (.iload 7, 2, []), none, some (.bipush (8), 2, []), none, some (.if_icmp .ge (68), 3, []), none, none, some (.bipush (8), 2, []), none, some (.iload 6, 2, []), none, some (.imul, 1, []), some (.iload 7, 2, []), none, some (.iadd, 1, []), some (.istore 8, 2, []), none, some (.aload_n 0, 1, []), some (.iload_n 1, 1, []), some (.iload 8, 2, []), none, some (.invokevirtual 40, 3, [119, 856, 0]), none, none, some (.ifCond .eq (31), 3, []), none, none, some (.aload_n 0, 1, []), some (.iload_n 1, 1, []), some (.iload 8, 2, []), none, some (.iload_n 3, 1, []), some (.invokevirtual 58, 3, [126, 883, 0]), none, none, some (.ifCond .eq (18), 3, []), none, none, some (.aload_n 0, 1, []), some (.iload_n 1, 1, []), some (.iload 8, 2, []), none, some (.iload_n 2, 1, []), some (.invokevirtual 61, 3, [127, 887, 0]), none, none, some (.ifCond .eq (7), 3, []), none, none, some (.iconst (1), 1, []), some (.goto (4), 3, []), none, none, some (.iconst (0), 1, []), some (.ireturn, 1, []), some (.iload 6, 2, []), none, some (.iload 4, 2, []), none, some (.iadd, 1, []), some (.istore 6, 2, []), none, some (.iload 7, 2, []), none, some (.iload 5, 2, []), none, some (.iadd, 1, []), some (.istore 7, 2, []), none, some (.goto (-86), 3, []), none, none, some (.iconst (0), 1, []), some (.ireturn, 1, [])], (3, 76, 1, 5), [])
set_option maxRecDepth 100000 in
theorem st_M_isSeen : jokT2 M_M_isSeen 0 (jt M_M_isSeen) = true := by decide +kernel
set_option maxRecDepth 100000 in
theorem ok_M_isSeen : jokM M_M_isSeen := ⟨by decide +kernel, jwat_in (i := 882) (by decide +kernel), jwat_in (i := 78) (by decide +kernel), ⟨by decide +kernel, by decide +kernel, by decide +kernel⟩, by rw [if_neg (by decide)]; exact ⟨jwat_in (i := 881) (by decide +kernel), jwat_in (i := 39) (by decide +kernel)⟩⟩
def M_M_isOf : jM := ((⟨"ChessLedgerModel", "isOf", "(III)Z"⟩, prog_9_method_5_code, 5, (some .boolean)), [some (.aload_n 0, 1, []), some (.iload_n 1, 1, []), some (.iload_n 2, 1, []), some (.invokevirtual 40, 3, [119, 856, 0]), none, none, some (.istore 4, 2, []), none, some (.iload_n 3, 1, []), some (.ifCond .ne (24), 3, []), none, none, some (.iload 4, 2, []), none, some (.iconst (1), 1, []), some (.if_icmp .lt (14), 3, []), none, none, some (.iload 4, 2, []), none, some (.bipush (6), 2, []), none, some (.if_icmp .gt (7), 3, []), none, none, some (.iconst (1), 1, []), some (.goto (19), 3, []), none, none, some (.iconst (0), 1, []), some (.goto (15), 3, []), none, none, some (.iload 4, 2, []), none, some (.bipush (7), 2, []), none, some (.if_icmp .lt (7), 3, []), none, none, some (.iconst (1), 1, []), some (.goto (4), 3, []), none, none, some (.iconst (0), 1, []), some (.ireturn, 1, [])], (1, 22, 1, 3), [])
set_option maxRecDepth 100000 in
theorem st_M_isOf : jokT2 M_M_isOf 0 (jt M_M_isOf) = true := by decide +kernel
set_option maxRecDepth 100000 in
theorem ok_M_isOf : jokM M_M_isOf := ⟨by decide +kernel, jwat_in (i := 886) (by decide +kernel), jwat_in (i := 78) (by decide +kernel), ⟨by decide +kernel, by decide +kernel, by decide +kernel⟩, by rw [if_neg (by decide)]; exact ⟨jwat_in (i := 885) (by decide +kernel), jwat_in (i := 40) (by decide +kernel)⟩⟩
end
section
def M_M_doesAttack : jM := ((⟨"ChessLedgerModel", "doesAttack", "(III)Z"⟩, prog_9_method_9_code, 9, (some .boolean)), [some (.aload_n 0, 1, []), some (.iload_n 1, 1, []), some (.iload_n 2, 1, []), some (.invokevirtual 40, 3, [119, 856, 0]), none, none, some (.istore 4, 2, []), none, some (.iload_n 3, 1, []), some (.bipush (8), 2, []), none, some (.irem, 1, []), some (.iload_n 2, 1, []), some (.bipush (8), 2, []), none, some (.irem, 1, []), some (.isub, 1, []), some (.invokestatic 48, 3, [128, 891, 0]), none, none, some (.istore 5, 2, []), none, some (.iload_n 3, 1, []), some (.bipush (8), 2, []), none, some (.idiv, 1, []), some (.iload_n 2, 1, []), some (.bipush (8), 2, []), none, some (.idiv, 1, []), some (.isub, 1, []), some (.invokestatic 48, 3, [128, 891, 0]), none, none, some (.istore 6, 2, []), none, some (.iload 5, 2, []), none, some (.ifCond .ne (7), 3, []), none, none, some (.iconst (1), 1, []), some (.goto (4), 3, []), none, none, some (.iconst (0), 1, []), some (.iload 6, 2, []), none, some (.ifCond .ne (7), 3, []), none, none, some (.iconst (1), 1, []), some (.goto (4), 3, []), none, none, some (.iconst (0), 1, []), some (.if_icmp .eq (7), 3, []), none, none, some (.iconst (1), 1, []), some (.goto (4), 3, []), none, none, some (.iconst (0), 1, []), some (.istore 7, 2, []), none, some (.iload 5, 2, []), none, some (.iload 6, 2, []), none, some (.if_icmp .ne (12), 3, []), none, none, some (.iload 5, 2, []), none, some (.ifCond .le (7), 3, []), none, none, some (.iconst (1), 1, []), some (.goto (4), 3, []), none, none, some (.iconst (0), 1, []), some (.istore 8, 2, []), none, some (.iload 4, 2, []), none, some (.invokestatic 51, 3, [120, 860, 0]), none, none, some (.tableswitch (182) (1) (6) #[38, 73, 88, 109, 130, 156], 38, []), none, none, none, none, none, none, none, none, none, none, none, none, none, none, none, none, none, none, none, none, none, none, none, none, none, none, none, none, none, none, none, none, none, none, none, none, none, some (.iload 5, 2, []), none, some (.iconst (1), 1, []), some (.if_icmp .ne (30), 3, []), none, none, some (.iload_n 3, 1, []), some (.bipush (8), 2, []), none, some (.idiv, 1, []), some (.iload_n 2, 1, []), some (.bipush (8), 2, []), none, some (.idiv, 1, []), some (.isub, 1, []), some (.iload 4, 2, []), none, some (.iconst (1), 1, []), some (.if_icmp .ne (7), 3, []), none, none, some (.iconst (1), 1, []), some (.goto (4), 3, []), none, none, some (.iconst (-1), 1, []), some (.if_icmp .ne (7), 3, []), none, none, some (.iconst (1), 1, []), some (.goto (4), 3, []), none, none, some (.iconst (0), 1, []), some (.ireturn, 1, []), some (.iload 5, 2, []), none, some (.iload 6, 2, []), none, some (.imul, 1, []), some (.iconst (2), 1, []), some (.if_icmp .ne (7), 3, []), none, none, some (.iconst (1), 1, []), some (.goto (4), 3, []), none, none, some (.iconst (0), 1, []), some (.ireturn, 1, []), some (.iload 8, 2, []), none, some (.ifCond .eq (17), 3, []), none, none, some (.aload_n 0, 1, []), some (.iload_n 1, 1, []), some (.iload_n 2, 1, []), some (.iload_n 3, 1, []), some (.invokevirtual 54, 3, [129, 894, 0]), none, none, some (.ifCond .eq (7), 3, []), none, none, some (.iconst (1), 1, []), some (.goto (4), 3, []), none, none, some (.iconst (0), 1, []), some (.ireturn, 1, []), some (.iload 7, 2, []), none, some (.ifCond .eq (17), 3, []), none, none, some (.aload_n 0, 1, []), some (.iload_n 1, 1, []), some (.iload_n 2, 1, []), some (.iload_n 3, 1, []), some (.invokevirtual 54, 3, [129, 894, 0]), none, none, some (.ifCond .eq (7), 3, []), none, none, some (.iconst (1), 1, []), some (.goto (4), 3, []), none, none, some (.iconst (0), 1, []), some (.ireturn, 1, []), some (.iload 7, 2, []), none, some (.ifCond .ne (8), 3, []), none, none, some (.iload 8, 2, []), none, some (.ifCond .eq (17), 3, []), none, none, some (.aload_n 0, 1, []), some (.iload_n 1, 1, []), some (.iload_n 2, 1, []), some (.iload_n 3, 1, []), some (.invokevirtual 54, 3, [129, 894, 0]), none, none, some (.ifCond .eq (7), 3, []), none, none, some (.iconst (1), 1, []), some (.goto (4), 3, []), none, none, some (.iconst (0), 1, []), some (.ireturn, 1, []), some (.iload 5, 2, []), none, some (.iconst (1), 1, []), some (.if_icmp .gt (21), 3, []), none, none, some (.iload 6, 2, []), none, some (.iconst (1), 1, []), some (.if_icmp .gt (15), 3, []), none, none, some (.iload 5, 2, []), none, some (.iload 6, 2, []), none, some (.iadd, 1, []), some (.ifCond .le (7), 3, []), none, none, some (.iconst (1), 1, []), some (.goto (4), 3, []), none, none, some (.iconst (0), 1, []), some (.ireturn, 1, []), some (.iconst (0), 1, []), some (.ireturn, 1, [])], (2, 48, 1, 3), [])
set_option maxRecDepth 100000 in
theorem st_M_doesAttack : jokT2 M_M_doesAttack 0 (jt M_M_doesAttack) = true := by decide +kernel
set_option maxRecDepth 100000 in
theorem ok_M_doesAttack : jokM M_M_doesAttack := ⟨by decide +kernel, jwat_in (i := 890) (by decide +kernel), jwat_in (i := 78) (by decide +kernel), ⟨by decide +kernel, by decide +kernel, by decide +kernel⟩, by rw [if_neg (by decide)]; exact ⟨jwat_in (i := 889) (by decide +kernel), jwat_in (i := 41) (by decide +kernel)⟩⟩
def M_M_size : jM := ((⟨"ChessLedgerModel", "size", "(I)I"⟩, prog_9_method_6_code, 1, (some .int)), [some (.iload_n 0, 1, []), some (.ifCond .ge (8), 3, []), none, none, some (.iload_n 0, 1, []), some (.ineg, 1, []), some (.goto (4), 3, []), none, none, some (.iload_n 0, 1, []), some (.ireturn, 1, [])], (0, 0, 0, 1), [])
set_option maxRecDepth 100000 in
theorem st_M_size : jokT2 M_M_size 0 (jt M_M_size) = true := by decide +kernel
set_option maxRecDepth 100000 in
theorem ok_M_size : jokM M_M_size := ⟨by decide +kernel, jwat_in (i := 893) (by decide +kernel), jwat_in (i := 78) (by decide +kernel), ⟨by decide +kernel, by decide +kernel, by decide +kernel⟩, by rw [if_pos (show jk M_M_size = 0 from rfl)]; exact jwat_in (i := 892) (by decide +kernel)⟩
def M_M_isClear : jM := ((⟨"ChessLedgerModel", "isClear", "(III)Z"⟩, prog_9_method_8_code, 7, (some .boolean)), [some (.bipush (8), 2, []), none, some (.iload_n 3, 1, []), some (.bipush (8), 2, []), none, some (.idiv, 1, []), some (.iload_n 2, 1, []), some (.bipush (8), 2, []), none, some (.idiv, 1, []), some (.isub, 1, []), some (.invokestatic 44, 3, [130, 898, 0]), none, none, some (.imul, 1, []), some (.iload_n 3, 1, []), some (.bipush (8), 2, []), none, some (.irem, 1, []), some (.iload_n 2, 1, []), some (.bipush (8), 2, []), none, some (.irem, 1, []), some (.isub, 1, []), some (.invokestatic 44, 3, [130, 898, 0]), none, none, some (.iadd, 1, []), some (.istore 4, 2, []), none, some (.iconst (1), 1, []), some (.istore 5, 2, []), none, some (.iload_n 2, 1, []), some (.iload 4, 2, []), none, some (.iadd, 1, []), some (.istore 6, 2, []), none, some (.iload 6, 2, []), none, some (.iload_n 3, 1, []), some (.if_icmp .eq (35), 3, []), none, none, some (.iload 5, 2, []), none, some (.ifCond .eq (30), 3, []), none, none, some (.aload_n 0, 1, []), some (.iload_n 1, 1, []), some (.iload 6, 2, []), none, some (.invokevirtual 40, 3, [119, 856, 0]), none, none, some (.ifCond .ne (7), 3, []), none, none, some (.iconst (1), 1, []), some (.goto (4), 3, []), none, none, some (.iconst (0), 1, []), some (.istore 5, 2, []), none, some (.iload 6, 2, []), none, some (.iload 4, 2, []), none, some (.iadd, 1, []), some (.istore 6, 2, []), none, some (.goto (-35), 3, []), none, none, some (.iload 5, 2, []), none, some (.ireturn, 1, [])], (1, 22, 1, 3), [])
set_option maxRecDepth 100000 in
theorem st_M_isClear : jokT2 M_M_isClear 0 (jt M_M_isClear) = true := by decide +kernel
set_option maxRecDepth 100000 in
theorem ok_M_isClear : jokM M_M_isClear := ⟨by decide +kernel, jwat_in (i := 897) (by decide +kernel), jwat_in (i := 78) (by decide +kernel), ⟨by decide +kernel, by decide +kernel, by decide +kernel⟩, by rw [if_neg (by decide)]; exact ⟨jwat_in (i := 896) (by decide +kernel), jwat_in (i := 42) (by decide +kernel)⟩⟩
def M_M_signOf : jM := ((⟨"ChessLedgerModel", "signOf", "(I)I"⟩, prog_9_method_7_code, 1, (some .int)), [some (.iload_n 0, 1, []), some (.ifCond .le (7), 3, []), none, none, some (.iconst (1), 1, []), some (.goto (12), 3, []), none, none, some (.iload_n 0, 1, []), some (.ifCond .ge (7), 3, []), none, none, some (.iconst (-1), 1, []), some (.goto (4), 3, []), none, none, some (.iconst (0), 1, []), some (.ireturn, 1, [])], (0, 0, 0, 1), [])
set_option maxRecDepth 100000 in
theorem st_M_signOf : jokT2 M_M_signOf 0 (jt M_M_signOf) = true := by decide +kernel
set_option maxRecDepth 100000 in
theorem ok_M_signOf : jokM M_M_signOf := ⟨by decide +kernel, jwat_in (i := 900) (by decide +kernel), jwat_in (i := 78) (by decide +kernel), ⟨by decide +kernel, by decide +kernel, by decide +kernel⟩, by rw [if_pos (show jk M_M_signOf = 0 from rfl)]; exact jwat_in (i := 899) (by decide +kernel)⟩
def M_M_isJumped : jM := ((⟨"ChessLedgerModel", "isJumped", "(IIIII)Z"⟩, prog_9_method_12_code, 9, (some .boolean)), [some (.iload_n 2, 1, []), some (.bipush (8), 2, []), none, some (.idiv, 1, []), some (.iload 4, 2, []), none, some (.iadd, 1, []), some (.istore 6, 2, []), none, some (.iload_n 2, 1, []), some (.bipush (8), 2, []), none, some (.irem, 1, []), some (.iload 5, 2, []), none, some (.iadd, 1, []), some (.istore 7, 2, []), none, some (.iload 6, 2, []), none, some (.ifCond .lt (26), 3, []), none, none, some (.iload 6, 2, []), none, some (.bipush (8), 2, []), none, some (.if_icmp .ge (19), 3, []), none, none, some (.iload 7, 2, []), none, some (.ifCond .lt (14), 3, []), none, none, some (.iload 7, 2, []), none, some (.bipush (8), 2, []), none, some (.if_icmp .ge (7), 3, []), none, none, some (.iconst (1), 1, []), some (.goto (4), 3, []), none, none, some (.iconst (0), 1, []), some (.istore 8, 2, []), none, some (.iload 8, 2, []), none, some (.ifCond .eq (44), 3, []), none, none, some (.aload_n 0, 1, []), some (.iload_n 1, 1, []), some (.bipush (8), 2, []), none, some (.iload 6, 2, []), none, some (.imul, 1, []), some (.iload 7, 2, []), none, some (.iadd, 1, []), some (.iload_n 3, 1, []), some (.invokevirtual 58, 3, [126, 883, 0]), none, none, some (.ifCond .eq (27), 3, []), none, none, some (.aload_n 0, 1, []), some (.iload_n 1, 1, []), some (.bipush (8), 2, []), none, some (.iload 6, 2, []), none, some (.imul, 1, []), some (.iload 7, 2, []), none, some (.iadd, 1, []), some (.invokevirtual 40, 3, [119, 856, 0]), none, none, some (.invokestatic 51, 3, [120, 860, 0]), none, none, some (.iconst (2), 1, []), some (.if_icmp .ne (7), 3, []), none, none, some (.iconst (1), 1, []), some (.goto (4), 3, []), none, none, some (.iconst (0), 1, []), some (.ireturn, 1, [])], (2, 46, 1, 5), [])
set_option maxRecDepth 100000 in
theorem st_M_isJumped : jokT2 M_M_isJumped 0 (jt M_M_isJumped) = true := by decide +kernel
set_option maxRecDepth 100000 in
theorem ok_M_isJumped : jokM M_M_isJumped := ⟨by decide +kernel, jwat_in (i := 904) (by decide +kernel), jwat_in (i := 78) (by decide +kernel), ⟨by decide +kernel, by decide +kernel, by decide +kernel⟩, by rw [if_neg (by decide)]; exact ⟨jwat_in (i := 903) (by decide +kernel), jwat_in (i := 43) (by decide +kernel)⟩⟩
def M_M_begin : jM := ((⟨"ChessLedgerModel", "begin", "()V"⟩, prog_9_method_34_code, 1, none), [some (.aload_n 0, 1, []), some (.sipush (303), 3, []), none, none, some (.iconst (0), 1, []), some (.invokevirtual 107, 3, [115, 840, 0]), none, none, some (.aload_n 0, 1, []), some (.iconst (0), 1, []), some (.putfield 120, 3, [7, 7, 793, 0]), none, none, some (.aload_n 0, 1, []), some (.iconst (1), 1, []), some (.putfield 123, 3, [7, 8, 794, 0]), none, none, some (.aload_n 0, 1, []), some (.iconst (0), 1, []), some (.invokevirtual 127, 3, [133, 909, 0]), none, none, some (.return_, 1, [])], (7, 184, 1, 0), [])
set_option maxRecDepth 100000 in
theorem st_M_begin : jokT2 M_M_begin 0 (jt M_M_begin) = true := by decide +kernel
set_option maxRecDepth 100000 in
theorem ok_M_begin : jokM M_M_begin := ⟨by decide +kernel, jwat_in (i := 908) (by decide +kernel), jwat_in (i := 78) (by decide +kernel), ⟨by decide +kernel, by decide +kernel, by decide +kernel⟩, by rw [if_neg (by decide)]; exact ⟨jwat_in (i := 907) (by decide +kernel), jwat_in (i := 44) (by decide +kernel)⟩⟩
def M_M_findTakers : jM := ((⟨"ChessLedgerModel", "findTakers", "(I)V"⟩, prog_9_method_35_code, 5, none), [some (.aload_n 0, 1, []), some (.getfield 26, 3, [7, 6, 792, 0]), none, none, some (.iload_n 1, 1, []), some (.lconst 0, 1, []), some (.lastore, 1, []), some (.aload_n 0, 1, []), some (.getfield 20, 3, [7, 4, 790, 0]), none, none, some (.iload_n 1, 1, []), some (.iaload, 1, []), some (.ifCond .ge (7), 3, []), none, none, some (.iconst (0), 1, []), some (.goto (26), 3, []), none, none, some (.aload_n 0, 1, []), some (.getfield 13, 3, [7, 2, 788, 0]), none, none, some (.iload_n 1, 1, []), some (.iaload, 1, []), some (.ifCond .ne (8), 3, []), none, none, some (.bipush (40), 2, []), none, some (.goto (5), 3, []), none, none, some (.bipush (16), 2, []), none, some (.aload_n 0, 1, []), some (.getfield 20, 3, [7, 4, 790, 0]), none, none, some (.iload_n 1, 1, []), some (.iaload, 1, []), some (.iadd, 1, []), some (.istore_n 2, 1, []), some (.iconst (0), 1, []), some (.istore_n 3, 1, []), some (.iload_n 3, 1, []), some (.bipush (64), 2, []), none, some (.if_icmp .ge (91), 3, []), none, none, some (.aload_n 0, 1, []), some (.getfield 20, 3, [7, 4, 790, 0]), none, none, some (.iload_n 1, 1, []), some (.iaload, 1, []), some (.ifCond .lt (82), 3, []), none, none, some (.aload_n 0, 1, []), some (.iload_n 1, 1, []), some (.iload_n 3, 1, []), some (.aload_n 0, 1, []), some (.getfield 13, 3, [7, 2, 788, 0]), none, none, some (.iload_n 1, 1, []), some (.iaload, 1, []), some (.invokevirtual 58, 3, [126, 883, 0]), none, none, some (.ifCond .eq (28), 3, []), none, none, some (.aload_n 0, 1, []), some (.iload_n 1, 1, []), some (.iload_n 3, 1, []), some (.iload_n 2, 1, []), some (.invokevirtual 87, 3, [134, 913, 0]), none, none, some (.ifCond .eq (18), 3, []), none, none, some (.aload_n 0, 1, []), some (.iload_n 1, 1, []), some (.iload_n 3, 1, []), some (.iload_n 2, 1, []), some (.iconst (0), 1, []), some (.invokevirtual 104, 3, [135, 917, 0]), none, none, some (.ifCond .eq (7), 3, []), none, none, some (.iconst (1), 1, []), some (.goto (4), 3, []), none, none, some (.iconst (0), 1, []), some (.istore 4, 2, []), none, some (.aload_n 0, 1, []), some (.getfield 26, 3, [7, 6, 792, 0]), none, none, some (.iload_n 1, 1, []), some (.iload 4, 2, []), none, some (.ifCond .eq (16), 3, []), none, none, some (.aload_n 0, 1, []), some (.getfield 26, 3, [7, 6, 792, 0]), none, none, some (.iload_n 1, 1, []), some (.laload, 1, []), some (.lconst 1, 1, []), some (.iload_n 3, 1, []), some (.lshl, 1, []), some (.lor, 1, []), some (.goto (9), 3, []), none, none, some (.aload_n 0, 1, []), some (.getfield 26, 3, [7, 6, 792, 0]), none, none, some (.iload_n 1, 1, []), some (.laload, 1, []), some (.lastore, 1, []), some (.iinc 3 (1), 3, []), none, none, some (.goto (-91), 3, []), none, none, some (.return_, 1, [])], (6, 160, 1, 1), [])
set_option maxRecDepth 100000 in
theorem st_M_findTakers : jokT2 M_M_findTakers 0 (jt M_M_findTakers) = true := by decide +kernel
set_option maxRecDepth 100000 in
theorem ok_M_findTakers : jokM M_M_findTakers := ⟨by decide +kernel, jwat_in (i := 912) (by decide +kernel), jwat_in (i := 78) (by decide +kernel), ⟨by decide +kernel, by decide +kernel, by decide +kernel⟩, by rw [if_neg (by decide)]; exact ⟨jwat_in (i := 911) (by decide +kernel), jwat_in (i := 45) (by decide +kernel)⟩⟩
def M_M_isBehind : jM := ((⟨"ChessLedgerModel", "isBehind", "(III)Z"⟩, prog_9_method_20_code, 4, (some .boolean)), [some (.aload_n 0, 1, []), some (.iload_n 1, 1, []), some (.iload_n 2, 1, []), some (.invokevirtual 40, 3, [119, 856, 0]), none, none, some (.invokestatic 51, 3, [120, 860, 0]), none, none, some (.iconst (1), 1, []), some (.if_icmp .ne (53), 3, []), none, none, some (.aload_n 0, 1, []), some (.getfield 20, 3, [7, 4, 790, 0]), none, none, some (.iload_n 1, 1, []), some (.iaload, 1, []), some (.ifCond .lt (44), 3, []), none, none, some (.iload_n 3, 1, []), some (.aload_n 0, 1, []), some (.getfield 13, 3, [7, 2, 788, 0]), none, none, some (.iload_n 1, 1, []), some (.iaload, 1, []), some (.ifCond .ne (8), 3, []), none, none, some (.bipush (40), 2, []), none, some (.goto (5), 3, []), none, none, some (.bipush (16), 2, []), none, some (.aload_n 0, 1, []), some (.getfield 20, 3, [7, 4, 790, 0]), none, none, some (.iload_n 1, 1, []), some (.iaload, 1, []), some (.iadd, 1, []), some (.if_icmp .ne (17), 3, []), none, none, some (.aload_n 0, 1, []), some (.iload_n 1, 1, []), some (.iload_n 2, 1, []), some (.iload_n 3, 1, []), some (.invokevirtual 61, 3, [127, 887, 0]), none, none, some (.ifCond .eq (7), 3, []), none, none, some (.iconst (1), 1, []), some (.goto (4), 3, []), none, none, some (.iconst (0), 1, []), some (.ireturn, 1, [])], (3, 76, 1, 3), [])
set_option maxRecDepth 100000 in
theorem st_M_isBehind : jokT2 M_M_isBehind 0 (jt M_M_isBehind) = true := by decide +kernel
set_option maxRecDepth 100000 in
theorem ok_M_isBehind : jokM M_M_isBehind := ⟨by decide +kernel, jwat_in (i := 916) (by decide +kernel), jwat_in (i := 78) (by decide +kernel), ⟨by decide +kernel, by decide +kernel, by decide +kernel⟩, by rw [if_neg (by decide)]; exact ⟨jwat_in (i := 915) (by decide +kernel), jwat_in (i := 46) (by decide +kernel)⟩⟩
def M_M_isSafe : jM := ((⟨"ChessLedgerModel", "isSafe", "(IIII)Z"⟩, prog_9_method_24_code, 11, (some .boolean)), [some (.aload_n 0, 1, []), some (.getfield 13, 3, [7, 2, 788, 0]), none, none, some (.iload_n 1, 1, []), some (.iaload, 1, []), some (.istore 5, 2, []), none, some (.aload_n 0, 1, []), some (.iload_n 1, 1, []), some (.iload_n 2, 1, []), some (.invokevirtual 40, 3, [119, 856, 0]), none, none, some (.istore 6, 2, []), none, some (.aload_n 0, 1, []), some (.iload_n 1, 1, []), some (.iload_n 3, 1, []), some (.invokevirtual 40, 3, [119, 856, 0]), none, none, some (.istore 7, 2, []), none, some (.aload_n 0, 1, []), some (.iload_n 1, 1, []), some (.iload_n 2, 1, []), some (.iload_n 3, 1, []), some (.invokevirtual 87, 3, [134, 913, 0]), none, none, some (.ifCond .eq (18), 3, []), none, none, some (.iload_n 2, 1, []), some (.bipush (8), 2, []), none, some (.idiv, 1, []), some (.bipush (8), 2, []), none, some (.imul, 1, []), some (.iload_n 3, 1, []), some (.bipush (8), 2, []), none, some (.irem, 1, []), some (.iadd, 1, []), some (.goto (4), 3, []), none, none, some (.iconst (-1), 1, []), some (.istore 8, 2, []), none, some (.iload 8, 2, []), none, some (.ifCond .ge (7), 3, []), none, none, some (.iconst (0), 1, []), some (.goto (10), 3, []), none, none, some (.aload_n 0, 1, []), some (.iload_n 1, 1, []), some (.iload 8, 2, []), none, some (.invokevirtual 40, 3, [119, 856, 0]), none, none, some (.istore 9, 2, []), none, some (.aload_n 0, 1, []), some (.iload_n 1, 1, []), some (.iload_n 2, 1, []), some (.iconst (0), 1, []), some (.invokevirtual 97, 3, [136, 921, 0]), none, none, some (.aload_n 0, 1, []), some (.iload_n 1, 1, []), some (.iload_n 3, 1, []), some (.iload 6, 2, []), none, some (.invokevirtual 97, 3, [136, 921, 0]), none, none, some (.iload 8, 2, []), none, some (.ifCond .lt (11), 3, []), none, none, some (.aload_n 0, 1, []), some (.iload_n 1, 1, []), some (.iload 8, 2, []), none, some (.iconst (0), 1, []), some (.invokevirtual 97, 3, [136, 921, 0]), none, none, some (.aload_n 0, 1, []), some (.iload_n 1, 1, []), some (.aload_n 0, 1, []), some (.iload_n 1, 1, []), some (.iload 5, 2, []), none, some (.invokevirtual 81, 3, [123, 871, 0]), none, none, some (.iconst (1), 1, []), some (.iload 5, 2, []), none, some (.isub, 1, []), some (.invokevirtual 84, 3, [124, 875, 0]), none, none, some (.ifCond .ne (7), 3, []), none, none, some (.iconst (1), 1, []), some (.goto (4), 3, []), none, none, some (.iconst (0), 1, []), some (.istore 10, 2, []), none, some (.aload_n 0, 1, []), some (.iload_n 1, 1, []), some (.iload_n 2, 1, []), some (.iload 6, 2, []), none, some (.invokevirtual 97, 3, [136, 921, 0]), none, none, some (.aload_n 0, 1, []), some (.iload_n 1, 1, []), some (.iload_n 3, 1, []), some (.iload 7, 2, []), none, some (.invokevirtual 97, 3, [136, 921, 0]), none, none, some (.iload 8, 2, []), none, some (.ifCond .lt (12), 3, []), none, none, some (.aload_n 0, 1, []), some (.iload_n 1, 1, []), some (.iload 8, 2, []), none, some (.iload 9, 2, []), none, some (.invokevirtual 97, 3, [136, 921, 0]), none, none, some (.iload 10, 2, []), none, some (.ireturn, 1, [])], (5, 130, 1, 4), [])
set_option maxRecDepth 100000 in
theorem st_M_isSafe : jokT2 M_M_isSafe 0 (jt M_M_isSafe) = true := by decide +kernel
set_option maxRecDepth 100000 in
theorem ok_M_isSafe : jokM M_M_isSafe := ⟨by decide +kernel, jwat_in (i := 920) (by decide +kernel), jwat_in (i := 78) (by decide +kernel), ⟨by decide +kernel, by decide +kernel, by decide +kernel⟩, by rw [if_neg (by decide)]; exact ⟨jwat_in (i := 919) (by decide +kernel), jwat_in (i := 47) (by decide +kernel)⟩⟩
def M_M_lay : jM := ((⟨"ChessLedgerModel", "lay", "(III)V"⟩, prog_9_method_23_code, 4, none), [some (.aload_n 0, 1, []), some (.getfield 7, 3, [7, 1, 787, 0]), none, none, some (.bipush (64), 2, []), none, some (.iload_n 1, 1, []), some (.imul, 1, []), some (.iload_n 2, 1, []), some (.iadd, 1, []), some (.iload_n 3, 1, []), some (.i2b, 1, []), some (.bastore, 1, []), some (.return_, 1, [])], (0, 0, 1, 3), [])
set_option maxRecDepth 100000 in
theorem st_M_lay : jokT2 M_M_lay 0 (jt M_M_lay) = true := by decide +kernel
set_option maxRecDepth 100000 in
theorem ok_M_lay : jokM M_M_lay := ⟨by decide +kernel, jwat_in (i := 924) (by decide +kernel), jwat_in (i := 78) (by decide +kernel), ⟨by decide +kernel, by decide +kernel, by decide +kernel⟩, by rw [if_neg (by decide)]; exact ⟨jwat_in (i := 923) (by decide +kernel), jwat_in (i := 48) (by decide +kernel)⟩⟩
def M_M_at : jM := ((⟨"ChessLedgerModel", "at", "(I)I"⟩, prog_9_method_37_code, 2, (some .int)), [some (.aload_n 0, 1, []), some (.iconst (0), 1, []), some (.putfield 36, 3, [7, 0, 786, 0]), none, none, some (.iload_n 1, 1, []), some (.ifCond .lt (21), 3, []), none, none, some (.iload_n 1, 1, []), some (.bipush (64), 2, []), none, some (.if_icmp .ge (15), 3, []), none, none, some (.aload_n 0, 1, []), some (.aload_n 0, 1, []), some (.getfield 120, 3, [7, 7, 793, 0]), none, none, some (.iload_n 1, 1, []), some (.invokevirtual 40, 3, [119, 856, 0]), none, none, some (.goto (4), 3, []), none, none, some (.iconst (-1), 1, []), some (.ireturn, 1, [])], (1, 22, 1, 1), [])
set_option maxRecDepth 100000 in
theorem st_M_at : jokT2 M_M_at 0 (jt M_M_at) = true := by decide +kernel
set_option maxRecDepth 100000 in
theorem ok_M_at : jokM M_M_at := ⟨by decide +kernel, jwat_in (i := 928) (by decide +kernel), jwat_in (i := 78) (by decide +kernel), ⟨by decide +kernel, by decide +kernel, by decide +kernel⟩, by rw [if_neg (by decide)]; exact ⟨jwat_in (i := 926) (by decide +kernel), jwat_in (i := 927) (by decide +kernel)⟩⟩
def M_M_state : jM := ((⟨"ChessLedgerModel", "state", "(I)I"⟩, prog_9_method_38_code, 2, (some .int)), [some (.aload_n 0, 1, []), some (.iconst (0), 1, []), some (.putfield 36, 3, [7, 0, 786, 0]), none, none, some (.aload_n 0, 1, []), some (.getfield 123, 3, [7, 8, 794, 0]), none, none, some (.ifCond .ne (6), 3, []), none, none, some (.bipush (-2), 2, []), none, some (.ireturn, 1, []), some (.iload_n 1, 1, []), some (.ifCond .ne (15), 3, []), none, none, some (.aload_n 0, 1, []), some (.getfield 13, 3, [7, 2, 788, 0]), none, none, some (.aload_n 0, 1, []), some (.getfield 120, 3, [7, 7, 793, 0]), none, none, some (.iaload, 1, []), some (.goto (68), 3, []), none, none, some (.iload_n 1, 1, []), some (.iconst (1), 1, []), some (.if_icmp .ne (15), 3, []), none, none, some (.aload_n 0, 1, []), some (.getfield 17, 3, [7, 3, 789, 0]), none, none, some (.aload_n 0, 1, []), some (.getfield 120, 3, [7, 7, 793, 0]), none, none, some (.iaload, 1, []), some (.goto (51), 3, []), none, none, some (.iload_n 1, 1, []), some (.iconst (2), 1, []), some (.if_icmp .ne (15), 3, []), none, none, some (.aload_n 0, 1, []), some (.getfield 20, 3, [7, 4, 790, 0]), none, none, some (.aload_n 0, 1, []), some (.getfield 120, 3, [7, 7, 793, 0]), none, none, some (.iaload, 1, []), some (.goto (34), 3, []), none, none, some (.iload_n 1, 1, []), some (.iconst (3), 1, []), some (.if_icmp .ne (15), 3, []), none, none, some (.aload_n 0, 1, []), some (.getfield 23, 3, [7, 5, 791, 0]), none, none, some (.aload_n 0, 1, []), some (.getfield 120, 3, [7, 7, 793, 0]), none, none, some (.iaload, 1, []), some (.goto (17), 3, []), none, none, some (.iload_n 1, 1, []), some (.iconst (4), 1, []), some (.if_icmp .ne (10), 3, []), none, none, some (.aload_n 0, 1, []), some (.getfield 120, 3, [7, 7, 793, 0]), none, none, some (.goto (5), 3, []), none, none, some (.bipush (-2), 2, []), none, some (.ireturn, 1, [])], (0, 0, 1, 1), [])
set_option maxRecDepth 100000 in
theorem st_M_state : jokT2 M_M_state 0 (jt M_M_state) = true := by decide +kernel
set_option maxRecDepth 100000 in
theorem ok_M_state : jokM M_M_state := ⟨by decide +kernel, jwat_in (i := 932) (by decide +kernel), jwat_in (i := 78) (by decide +kernel), ⟨by decide +kernel, by decide +kernel, by decide +kernel⟩, by rw [if_neg (by decide)]; exact ⟨jwat_in (i := 930) (by decide +kernel), jwat_in (i := 931) (by decide +kernel)⟩⟩
def M_M_moves : jM := ((⟨"ChessLedgerModel", "moves", "()I"⟩, prog_9_method_39_code, 1, (some .int)), [some (.aload_n 0, 1, []), some (.iconst (0), 1, []), some (.putfield 36, 3, [7, 0, 786, 0]), none, none, some (.aload_n 0, 1, []), some (.getfield 123, 3, [7, 8, 794, 0]), none, none, some (.ifCond .eq (14), 3, []), none, none, some (.aload_n 0, 1, []), some (.aload_n 0, 1, []), some (.getfield 120, 3, [7, 7, 793, 0]), none, none, some (.invokevirtual 137, 3, [140, 937, 0]), none, none, some (.goto (4), 3, []), none, none, some (.iconst (-1), 1, []), some (.ireturn, 1, [])], (9, 232, 1, 0), [])
set_option maxRecDepth 100000 in
theorem st_M_moves : jokT2 M_M_moves 0 (jt M_M_moves) = true := by decide +kernel
set_option maxRecDepth 100000 in
theorem ok_M_moves : jokM M_M_moves := ⟨by decide +kernel, jwat_in (i := 936) (by decide +kernel), jwat_in (i := 78) (by decide +kernel), ⟨by decide +kernel, by decide +kernel, by decide +kernel⟩, by rw [if_neg (by decide)]; exact ⟨jwat_in (i := 934) (by decide +kernel), jwat_in (i := 935) (by decide +kernel)⟩⟩
def M_M_movesOf : jM := ((⟨"ChessLedgerModel", "movesOf", "(I)I"⟩, prog_9_method_30_code, 6, (some .int)), [some (.iconst (0), 1, []), some (.istore_n 2, 1, []), some (.iconst (0), 1, []), some (.istore_n 3, 1, []), some (.iload_n 3, 1, []), some (.bipush (64), 2, []), none, some (.if_icmp .ge (88), 3, []), none, none, some (.aload_n 0, 1, []), some (.iload_n 1, 1, []), some (.iload_n 3, 1, []), some (.aload_n 0, 1, []), some (.getfield 13, 3, [7, 2, 788, 0]), none, none, some (.iload_n 1, 1, []), some (.iaload, 1, []), some (.invokevirtual 58, 3, [126, 883, 0]), none, none, some (.ifCond .eq (67), 3, []), none, none, some (.iconst (0), 1, []), some (.istore 4, 2, []), none, some (.iload 4, 2, []), none, some (.bipush (64), 2, []), none, some (.if_icmp .ge (57), 3, []), none, none, some (.aload_n 0, 1, []), some (.iload_n 1, 1, []), some (.iload_n 3, 1, []), some (.iload 4, 2, []), none, some (.invokevirtual 114, 3, [141, 941, 0]), none, none, some (.ifCond .eq (7), 3, []), none, none, some (.iconst (1), 1, []), some (.goto (4), 3, []), none, none, some (.iconst (0), 1, []), some (.istore 5, 2, []), none, some (.aload_n 0, 1, []), some (.iload_n 1, 1, []), some (.iload_n 3, 1, []), some (.iload 4, 2, []), none, some (.iload 5, 2, []), none, some (.invokevirtual 117, 3, [142, 945, 0]), none, none, some (.ifCond .eq (18), 3, []), none, none, some (.iload_n 2, 1, []), some (.iload 5, 2, []), none, some (.ifCond .le (7), 3, []), none, none, some (.iconst (4), 1, []), some (.goto (4), 3, []), none, none, some (.iconst (1), 1, []), some (.iadd, 1, []), some (.goto (4), 3, []), none, none, some (.iload_n 2, 1, []), some (.istore_n 2, 1, []), some (.iinc 4 (1), 3, []), none, none, some (.goto (-58), 3, []), none, none, some (.iinc 3 (1), 3, []), none, none, some (.goto (-88), 3, []), none, none, some (.iload_n 2, 1, []), some (.ireturn, 1, [])], (8, 207, 1, 1), [])
set_option maxRecDepth 100000 in
theorem st_M_movesOf : jokT2 M_M_movesOf 0 (jt M_M_movesOf) = true := by decide +kernel
set_option maxRecDepth 100000 in
theorem ok_M_movesOf : jokM M_M_movesOf := ⟨by decide +kernel, jwat_in (i := 940) (by decide +kernel), jwat_in (i := 78) (by decide +kernel), ⟨by decide +kernel, by decide +kernel, by decide +kernel⟩, by rw [if_neg (by decide)]; exact ⟨jwat_in (i := 939) (by decide +kernel), jwat_in (i := 49) (by decide +kernel)⟩⟩
def M_M_isLast : jM := ((⟨"ChessLedgerModel", "isLast", "(III)Z"⟩, prog_9_method_29_code, 4, (some .boolean)), [some (.aload_n 0, 1, []), some (.iload_n 1, 1, []), some (.iload_n 2, 1, []), some (.invokevirtual 40, 3, [119, 856, 0]), none, none, some (.invokestatic 51, 3, [120, 860, 0]), none, none, some (.iconst (1), 1, []), some (.if_icmp .ne (19), 3, []), none, none, some (.iload_n 3, 1, []), some (.bipush (8), 2, []), none, some (.if_icmp .lt (9), 3, []), none, none, some (.iload_n 3, 1, []), some (.bipush (55), 2, []), none, some (.if_icmp .le (7), 3, []), none, none, some (.iconst (1), 1, []), some (.goto (4), 3, []), none, none, some (.iconst (0), 1, []), some (.ireturn, 1, [])], (1, 22, 1, 3), [])
set_option maxRecDepth 100000 in
theorem st_M_isLast : jokT2 M_M_isLast 0 (jt M_M_isLast) = true := by decide +kernel
set_option maxRecDepth 100000 in
theorem ok_M_isLast : jokM M_M_isLast := ⟨by decide +kernel, jwat_in (i := 944) (by decide +kernel), jwat_in (i := 78) (by decide +kernel), ⟨by decide +kernel, by decide +kernel, by decide +kernel⟩, by rw [if_neg (by decide)]; exact ⟨jwat_in (i := 943) (by decide +kernel), jwat_in (i := 50) (by decide +kernel)⟩⟩
def M_M_isLegal : jM := ((⟨"ChessLedgerModel", "isLegal", "(IIII)Z"⟩, prog_9_method_25_code, 5, (some .boolean)), [some (.aload_n 0, 1, []), some (.iload_n 1, 1, []), some (.iload_n 2, 1, []), some (.iload_n 3, 1, []), some (.iload 4, 2, []), none, some (.invokevirtual 101, 3, [143, 949, 0]), none, none, some (.ifCond .eq (19), 3, []), none, none, some (.aload_n 0, 1, []), some (.iload_n 1, 1, []), some (.iload_n 2, 1, []), some (.iload_n 3, 1, []), some (.iload 4, 2, []), none, some (.invokevirtual 104, 3, [135, 917, 0]), none, none, some (.ifCond .eq (7), 3, []), none, none, some (.iconst (1), 1, []), some (.goto (4), 3, []), none, none, some (.iconst (0), 1, []), some (.ireturn, 1, [])], (7, 183, 1, 4), [])
set_option maxRecDepth 100000 in
theorem st_M_isLegal : jokT2 M_M_isLegal 0 (jt M_M_isLegal) = true := by decide +kernel
set_option maxRecDepth 100000 in
theorem ok_M_isLegal : jokM M_M_isLegal := ⟨by decide +kernel, jwat_in (i := 948) (by decide +kernel), jwat_in (i := 78) (by decide +kernel), ⟨by decide +kernel, by decide +kernel, by decide +kernel⟩, by rw [if_neg (by decide)]; exact ⟨jwat_in (i := 947) (by decide +kernel), jwat_in (i := 51) (by decide +kernel)⟩⟩
def M_M_mayGo : jM := ((⟨"ChessLedgerModel", "mayGo", "(IIII)Z"⟩, prog_9_method_22_code, 7, (some .boolean)), [some (.aload_n 0, 1, []), some (.getfield 13, 3, [7, 2, 788, 0]), none, none, some (.iload_n 1, 1, []), some (.iaload, 1, []), some (.istore 5, 2, []), none, some (.aload_n 0, 1, []), some (.iload_n 1, 1, []), some (.iload_n 2, 1, []), some (.iload 5, 2, []), none, some (.invokevirtual 58, 3, [126, 883, 0]), none, none, some (.ifCond .eq (14), 3, []), none, none, some (.aload_n 0, 1, []), some (.iload_n 1, 1, []), some (.iload_n 3, 1, []), some (.iload 5, 2, []), none, some (.invokevirtual 58, 3, [126, 883, 0]), none, none, some (.ifCond .eq (5), 3, []), none, none, some (.iconst (0), 1, []), some (.ireturn, 1, []), some (.aload_n 0, 1, []), some (.iload_n 1, 1, []), some (.iload_n 2, 1, []), some (.invokevirtual 40, 3, [119, 856, 0]), none, none, some (.invokestatic 51, 3, [120, 860, 0]), none, none, some (.istore 6, 2, []), none, some (.iload 6, 2, []), none, some (.iconst (1), 1, []), some (.if_icmp .ne (13), 3, []), none, none, some (.aload_n 0, 1, []), some (.iload_n 1, 1, []), some (.iload_n 2, 1, []), some (.iload_n 3, 1, []), some (.iload 4, 2, []), none, some (.invokevirtual 90, 3, [144, 953, 0]), none, none, some (.ireturn, 1, []), some (.iload 4, 2, []), none, some (.ifCond .ne (34), 3, []), none, none, some (.aload_n 0, 1, []), some (.iload_n 1, 1, []), some (.iload_n 2, 1, []), some (.iload_n 3, 1, []), some (.invokevirtual 61, 3, [127, 887, 0]), none, none, some (.ifCond .ne (20), 3, []), none, none, some (.iload 6, 2, []), none, some (.bipush (6), 2, []), none, some (.if_icmp .ne (17), 3, []), none, none, some (.aload_n 0, 1, []), some (.iload_n 1, 1, []), some (.iload_n 2, 1, []), some (.iload_n 3, 1, []), some (.invokevirtual 94, 3, [145, 957, 0]), none, none, some (.ifCond .eq (7), 3, []), none, none, some (.iconst (1), 1, []), some (.goto (4), 3, []), none, none, some (.iconst (0), 1, []), some (.ireturn, 1, [])], (6, 157, 1, 4), [])
set_option maxRecDepth 100000 in
theorem st_M_mayGo : jokT2 M_M_mayGo 0 (jt M_M_mayGo) = true := by decide +kernel
set_option maxRecDepth 100000 in
theorem ok_M_mayGo : jokM M_M_mayGo := ⟨by decide +kernel, jwat_in (i := 952) (by decide +kernel), jwat_in (i := 78) (by decide +kernel), ⟨by decide +kernel, by decide +kernel, by decide +kernel⟩, by rw [if_neg (by decide)]; exact ⟨jwat_in (i := 951) (by decide +kernel), jwat_in (i := 52) (by decide +kernel)⟩⟩
def M_M_mayPawn : jM := ((⟨"ChessLedgerModel", "mayPawn", "(IIII)Z"⟩, prog_9_method_21_code, 10, (some .boolean)), [some (.aload_n 0, 1, []), some (.getfield 13, 3, [7, 2, 788, 0]), none, none, some (.iload_n 1, 1, []), some (.iaload, 1, []), some (.istore 5, 2, []), none, some (.iload 5, 2, []), none, some (.ifCond .ne (8), 3, []), none, none, some (.bipush (8), 2, []), none, some (.goto (5), 3, []), none, none, some (.bipush (-8), 2, []), none, some (.istore 6, 2, []), none, some (.iload_n 3, 1, []), some (.bipush (8), 2, []), none, some (.idiv, 1, []), some (.iload 5, 2, []), none, some (.ifCond .ne (8), 3, []), none, none, some (.bipush (7), 2, []), none, some (.goto (4), 3, []), none, none, some (.iconst (0), 1, []), some (.if_icmp .ne (7), 3, []), none, none, some (.iconst (1), 1, []), some (.goto (4), 3, []), none, none, some (.iconst (0), 1, []), some (.istore 7, 2, []), none, some (.iload 7, 2, []), none, some (.iload 4, 2, []), none, some (.ifCond .le (7), 3, []), none, none, some (.iconst (1), 1, []), some (.goto (4), 3, []), none, none, some (.iconst (0), 1, []), some (.if_icmp .eq (5), 3, []), none, none, some (.iconst (0), 1, []), some (.ireturn, 1, []), some (.aload_n 0, 1, []), some (.iload_n 1, 1, []), some (.iload_n 2, 1, []), some (.iload_n 3, 1, []), some (.invokevirtual 61, 3, [127, 887, 0]), none, none, some (.ifCond .eq (32), 3, []), none, none, some (.aload_n 0, 1, []), some (.iload_n 1, 1, []), some (.iload_n 3, 1, []), some (.iconst (1), 1, []), some (.iload 5, 2, []), none, some (.isub, 1, []), some (.invokevirtual 58, 3, [126, 883, 0]), none, none, some (.ifCond .ne (13), 3, []), none, none, some (.aload_n 0, 1, []), some (.iload_n 1, 1, []), some (.iload_n 2, 1, []), some (.iload_n 3, 1, []), some (.invokevirtual 87, 3, [134, 913, 0]), none, none, some (.ifCond .eq (7), 3, []), none, none, some (.iconst (1), 1, []), some (.goto (4), 3, []), none, none, some (.iconst (0), 1, []), some (.ireturn, 1, []), some (.iload_n 3, 1, []), some (.iload_n 2, 1, []), some (.iload 6, 2, []), none, some (.iadd, 1, []), some (.if_icmp .ne (16), 3, []), none, none, some (.aload_n 0, 1, []), some (.iload_n 1, 1, []), some (.iload_n 3, 1, []), some (.invokevirtual 40, 3, [119, 856, 0]), none, none, some (.ifCond .ne (7), 3, []), none, none, some (.iconst (1), 1, []), some (.goto (4), 3, []), none, none, some (.iconst (0), 1, []), some (.istore 8, 2, []), none, some (.iload_n 2, 1, []), some (.bipush (8), 2, []), none, some (.idiv, 1, []), some (.iload 5, 2, []), none, some (.ifCond .ne (7), 3, []), none, none, some (.iconst (1), 1, []), some (.goto (5), 3, []), none, none, some (.bipush (6), 2, []), none, some (.if_icmp .ne (38), 3, []), none, none, some (.iload_n 3, 1, []), some (.iload_n 2, 1, []), some (.iconst (2), 1, []), some (.iload 6, 2, []), none, some (.imul, 1, []), some (.iadd, 1, []), some (.if_icmp .ne (28), 3, []), none, none, some (.aload_n 0, 1, []), some (.iload_n 1, 1, []), some (.iload_n 3, 1, []), some (.invokevirtual 40, 3, [119, 856, 0]), none, none, some (.ifCond .ne (19), 3, []), none, none, some (.aload_n 0, 1, []), some (.iload_n 1, 1, []), some (.iload_n 2, 1, []), some (.iload 6, 2, []), none, some (.iadd, 1, []), some (.invokevirtual 40, 3, [119, 856, 0]), none, none, some (.ifCond .ne (7), 3, []), none, none, some (.iconst (1), 1, []), some (.goto (4), 3, []), none, none, some (.iconst (0), 1, []), some (.istore 9, 2, []), none, some (.iload 8, 2, []), none, some (.ifCond .ne (8), 3, []), none, none, some (.iload 9, 2, []), none, some (.ifCond .eq (7), 3, []), none, none, some (.iconst (1), 1, []), some (.goto (4), 3, []), none, none, some (.iconst (0), 1, []), some (.ireturn, 1, [])], (4, 99, 1, 4), [])
set_option maxRecDepth 100000 in
theorem st_M_mayPawn : jokT2 M_M_mayPawn 0 (jt M_M_mayPawn) = true := by decide +kernel
set_option maxRecDepth 100000 in
theorem ok_M_mayPawn : jokM M_M_mayPawn := ⟨by decide +kernel, jwat_in (i := 956) (by decide +kernel), jwat_in (i := 78) (by decide +kernel), ⟨by decide +kernel, by decide +kernel, by decide +kernel⟩, by rw [if_neg (by decide)]; exact ⟨jwat_in (i := 955) (by decide +kernel), jwat_in (i := 53) (by decide +kernel)⟩⟩
def M_M_mayCastle : jM := ((⟨"ChessLedgerModel", "mayCastle", "(III)Z"⟩, prog_9_method_19_code, 8, (some .boolean)), [some (.aload_n 0, 1, []), some (.getfield 13, 3, [7, 2, 788, 0]), none, none, some (.iload_n 1, 1, []), some (.iaload, 1, []), some (.istore 4, 2, []), none, some (.iload 4, 2, []), none, some (.ifCond .ne (7), 3, []), none, none, some (.iconst (4), 1, []), some (.goto (5), 3, []), none, none, some (.bipush (60), 2, []), none, some (.istore 5, 2, []), none, some (.iload_n 2, 1, []), some (.iload 5, 2, []), none, some (.if_icmp .ne (19), 3, []), none, none, some (.iload_n 3, 1, []), some (.iload 5, 2, []), none, some (.iconst (2), 1, []), some (.iadd, 1, []), some (.if_icmp .eq (13), 3, []), none, none, some (.iload_n 3, 1, []), some (.iload 5, 2, []), none, some (.iconst (2), 1, []), some (.isub, 1, []), some (.if_icmp .eq (5), 3, []), none, none, some (.iconst (0), 1, []), some (.ireturn, 1, []), some (.iload 4, 2, []), none, some (.ifCond .ne (7), 3, []), none, none, some (.iconst (0), 1, []), some (.goto (4), 3, []), none, none, some (.iconst (2), 1, []), some (.iload_n 3, 1, []), some (.iload_n 2, 1, []), some (.if_icmp .le (7), 3, []), none, none, some (.iconst (0), 1, []), some (.goto (4), 3, []), none, none, some (.iconst (1), 1, []), some (.iadd, 1, []), some (.istore 6, 2, []), none, some (.iload_n 3, 1, []), some (.iload_n 2, 1, []), some (.if_icmp .le (10), 3, []), none, none, some (.iload 5, 2, []), none, some (.iconst (3), 1, []), some (.iadd, 1, []), some (.goto (7), 3, []), none, none, some (.iload 5, 2, []), none, some (.iconst (4), 1, []), some (.isub, 1, []), some (.istore 7, 2, []), none, some (.aload_n 0, 1, []), some (.getfield 17, 3, [7, 3, 789, 0]), none, none, some (.iload_n 1, 1, []), some (.iaload, 1, []), some (.iload 6, 2, []), none, some (.ishr, 1, []), some (.iconst (1), 1, []), some (.iand, 1, []), some (.iconst (1), 1, []), some (.if_icmp .ne (48), 3, []), none, none, some (.aload_n 0, 1, []), some (.iload_n 1, 1, []), some (.iload_n 2, 1, []), some (.iload 7, 2, []), none, some (.invokevirtual 54, 3, [129, 894, 0]), none, none, some (.ifCond .eq (37), 3, []), none, none, some (.aload_n 0, 1, []), some (.iload_n 1, 1, []), some (.iload_n 2, 1, []), some (.iconst (1), 1, []), some (.iload 4, 2, []), none, some (.isub, 1, []), some (.invokevirtual 84, 3, [124, 875, 0]), none, none, some (.ifCond .ne (24), 3, []), none, none, some (.aload_n 0, 1, []), some (.iload_n 1, 1, []), some (.iload_n 2, 1, []), some (.iload_n 3, 1, []), some (.iadd, 1, []), some (.iconst (2), 1, []), some (.idiv, 1, []), some (.iconst (1), 1, []), some (.iload 4, 2, []), none, some (.isub, 1, []), some (.invokevirtual 84, 3, [124, 875, 0]), none, none, some (.ifCond .ne (7), 3, []), none, none, some (.iconst (1), 1, []), some (.goto (4), 3, []), none, none, some (.iconst (0), 1, []), some (.ireturn, 1, [])], (5, 130, 1, 3), [])
set_option maxRecDepth 100000 in
theorem st_M_mayCastle : jokT2 M_M_mayCastle 0 (jt M_M_mayCastle) = true := by decide +kernel
set_option maxRecDepth 100000 in
theorem ok_M_mayCastle : jokM M_M_mayCastle := ⟨by decide +kernel, jwat_in (i := 960) (by decide +kernel), jwat_in (i := 78) (by decide +kernel), ⟨by decide +kernel, by decide +kernel, by decide +kernel⟩, by rw [if_neg (by decide)]; exact ⟨jwat_in (i := 959) (by decide +kernel), jwat_in (i := 54) (by decide +kernel)⟩⟩
def M_M_move : jM := ((⟨"ChessLedgerModel", "move", "(I)I"⟩, prog_9_method_40_code, 2, (some .int)), [some (.aload_n 0, 1, []), some (.iconst (0), 1, []), some (.putfield 36, 3, [7, 0, 786, 0]), none, none, some (.aload_n 0, 1, []), some (.getfield 123, 3, [7, 8, 794, 0]), none, none, some (.ifCond .eq (19), 3, []), none, none, some (.iload_n 1, 1, []), some (.ifCond .lt (15), 3, []), none, none, some (.aload_n 0, 1, []), some (.aload_n 0, 1, []), some (.getfield 120, 3, [7, 7, 793, 0]), none, none, some (.iload_n 1, 1, []), some (.invokevirtual 140, 3, [147, 965, 0]), none, none, some (.goto (4), 3, []), none, none, some (.iconst (-1), 1, []), some (.ireturn, 1, [])], (9, 233, 1, 1), [])
set_option maxRecDepth 100000 in
theorem st_M_move : jokT2 M_M_move 0 (jt M_M_move) = true := by decide +kernel
set_option maxRecDepth 100000 in
theorem ok_M_move : jokM M_M_move := ⟨by decide +kernel, jwat_in (i := 964) (by decide +kernel), jwat_in (i := 78) (by decide +kernel), ⟨by decide +kernel, by decide +kernel, by decide +kernel⟩, by rw [if_neg (by decide)]; exact ⟨jwat_in (i := 962) (by decide +kernel), jwat_in (i := 963) (by decide +kernel)⟩⟩
def M_M_codeOf : jM := ((⟨"ChessLedgerModel", "codeOf", "(II)I"⟩, prog_9_method_31_code, 7, (some .int)), [some (.iconst (0), 1, []), some (.istore_n 3, 1, []), some (.iconst (0), 1, []), some (.istore 4, 2, []), none, some (.iload 4, 2, []), none, some (.iconst (5), 1, []), some (.if_icmp .ge (79), 3, []), none, none, some (.iconst (0), 1, []), some (.istore 5, 2, []), none, some (.iload 5, 2, []), none, some (.bipush (64), 2, []), none, some (.if_icmp .ge (63), 3, []), none, none, some (.iconst (0), 1, []), some (.istore 6, 2, []), none, some (.iload 6, 2, []), none, some (.bipush (64), 2, []), none, some (.if_icmp .ge (47), 3, []), none, none, some (.aload_n 0, 1, []), some (.iload_n 1, 1, []), some (.iload 6, 2, []), none, some (.iload 5, 2, []), none, some (.iload 4, 2, []), none, some (.invokevirtual 117, 3, [142, 945, 0]), none, none, some (.ifCond .eq (27), 3, []), none, none, some (.iload_n 3, 1, []), some (.iload_n 2, 1, []), some (.if_icmp .ne (19), 3, []), none, none, some (.sipush (4096), 3, []), none, none, some (.iload 4, 2, []), none, some (.imul, 1, []), some (.bipush (64), 2, []), none, some (.iload 5, 2, []), none, some (.imul, 1, []), some (.iadd, 1, []), some (.iload 6, 2, []), none, some (.iadd, 1, []), some (.ireturn, 1, []), some (.iinc 3 (1), 3, []), none, none, some (.iinc 6 (1), 3, []), none, none, some (.goto (-48), 3, []), none, none, some (.iinc 5 (1), 3, []), none, none, some (.goto (-64), 3, []), none, none, some (.iinc 4 (1), 3, []), none, none, some (.goto (-79), 3, []), none, none, some (.iconst (-1), 1, []), some (.ireturn, 1, [])], (8, 207, 1, 2), [])
set_option maxRecDepth 100000 in
theorem st_M_codeOf : jokT2 M_M_codeOf 0 (jt M_M_codeOf) = true := by decide +kernel
set_option maxRecDepth 100000 in
theorem ok_M_codeOf : jokM M_M_codeOf := ⟨by decide +kernel, jwat_in (i := 968) (by decide +kernel), jwat_in (i := 78) (by decide +kernel), ⟨by decide +kernel, by decide +kernel, by decide +kernel⟩, by rw [if_neg (by decide)]; exact ⟨jwat_in (i := 967) (by decide +kernel), jwat_in (i := 55) (by decide +kernel)⟩⟩
def M_M_make : jM := ((⟨"ChessLedgerModel", "make", "(I)I"⟩, prog_9_method_41_code, 3, (some .int)), [some (.aload_n 0, 1, []), some (.iconst (0), 1, []), some (.putfield 36, 3, [7, 0, 786, 0]), none, none, some (.aload_n 0, 1, []), some (.getfield 123, 3, [7, 8, 794, 0]), none, none, some (.ifCond .eq (55), 3, []), none, none, some (.aload_n 0, 1, []), some (.getfield 120, 3, [7, 7, 793, 0]), none, none, some (.sipush (300), 3, []), none, none, some (.if_icmp .ge (45), 3, []), none, none, some (.iload_n 1, 1, []), some (.ifCond .lt (41), 3, []), none, none, some (.iload_n 1, 1, []), some (.sipush (20480), 3, []), none, none, some (.if_icmp .ge (34), 3, []), none, none, some (.aload_n 0, 1, []), some (.aload_n 0, 1, []), some (.getfield 120, 3, [7, 7, 793, 0]), none, none, some (.iload_n 1, 1, []), some (.bipush (64), 2, []), none, some (.irem, 1, []), some (.iload_n 1, 1, []), some (.bipush (64), 2, []), none, some (.idiv, 1, []), some (.bipush (64), 2, []), none, some (.irem, 1, []), some (.iload_n 1, 1, []), some (.sipush (4096), 3, []), none, none, some (.idiv, 1, []), some (.invokevirtual 117, 3, [142, 945, 0]), none, none, some (.ifCond .eq (7), 3, []), none, none, some (.iconst (1), 1, []), some (.goto (4), 3, []), none, none, some (.iconst (0), 1, []), some (.istore_n 2, 1, []), some (.iload_n 2, 1, []), some (.ifCond .ne (5), 3, []), none, none, some (.iconst (0), 1, []), some (.ireturn, 1, []), some (.aload_n 0, 1, []), some (.aload_n 0, 1, []), some (.getfield 120, 3, [7, 7, 793, 0]), none, none, some (.iload_n 1, 1, []), some (.bipush (64), 2, []), none, some (.irem, 1, []), some (.iload_n 1, 1, []), some (.bipush (64), 2, []), none, some (.idiv, 1, []), some (.bipush (64), 2, []), none, some (.irem, 1, []), some (.iload_n 1, 1, []), some (.sipush (4096), 3, []), none, none, some (.idiv, 1, []), some (.invokevirtual 143, 3, [149, 973, 0]), none, none, some (.aload_n 0, 1, []), some (.dup, 1, []), some (.getfield 120, 3, [7, 7, 793, 0]), none, none, some (.iconst (1), 1, []), some (.iadd, 1, []), some (.putfield 120, 3, [7, 7, 793, 0]), none, none, some (.aload_n 0, 1, []), some (.aload_n 0, 1, []), some (.getfield 120, 3, [7, 7, 793, 0]), none, none, some (.invokevirtual 127, 3, [133, 909, 0]), none, none, some (.iconst (1), 1, []), some (.ireturn, 1, [])], (8, 207, 1, 1), [])
set_option maxRecDepth 100000 in
theorem st_M_make : jokT2 M_M_make 0 (jt M_M_make) = true := by decide +kernel
set_option maxRecDepth 100000 in
theorem ok_M_make : jokM M_M_make := ⟨by decide +kernel, jwat_in (i := 972) (by decide +kernel), jwat_in (i := 78) (by decide +kernel), ⟨by decide +kernel, by decide +kernel, by decide +kernel⟩, by rw [if_neg (by decide)]; exact ⟨jwat_in (i := 970) (by decide +kernel), jwat_in (i := 971) (by decide +kernel)⟩⟩
def M_M_go : jM := ((⟨"ChessLedgerModel", "go", "(IIII)V"⟩, prog_9_method_28_code, 11, none), [some (.iload_n 1, 1, []), some (.iconst (1), 1, []), some (.iadd, 1, []), some (.istore 5, 2, []), none, some (.aload_n 0, 1, []), some (.iload_n 1, 1, []), some (.iload 5, 2, []), none, some (.invokevirtual 107, 3, [115, 840, 0]), none, none, some (.aload_n 0, 1, []), some (.getfield 13, 3, [7, 2, 788, 0]), none, none, some (.iload_n 1, 1, []), some (.iaload, 1, []), some (.istore 6, 2, []), none, some (.aload_n 0, 1, []), some (.iload_n 1, 1, []), some (.iload_n 2, 1, []), some (.invokevirtual 40, 3, [119, 856, 0]), none, none, some (.istore 7, 2, []), none, some (.iload 7, 2, []), none, some (.invokestatic 51, 3, [120, 860, 0]), none, none, some (.iconst (1), 1, []), some (.if_icmp .ne (7), 3, []), none, none, some (.iconst (1), 1, []), some (.goto (4), 3, []), none, none, some (.iconst (0), 1, []), some (.istore 8, 2, []), none, some (.aload_n 0, 1, []), some (.iload_n 1, 1, []), some (.iload_n 2, 1, []), some (.iload_n 3, 1, []), some (.invokevirtual 87, 3, [134, 913, 0]), none, none, some (.istore 9, 2, []), none, some (.aload_n 0, 1, []), some (.iload_n 1, 1, []), some (.iload_n 3, 1, []), some (.invokevirtual 40, 3, [119, 856, 0]), none, none, some (.ifCond .eq (7), 3, []), none, none, some (.iconst (1), 1, []), some (.goto (4), 3, []), none, none, some (.iconst (0), 1, []), some (.istore 10, 2, []), none, some (.aload_n 0, 1, []), some (.iload 5, 2, []), none, some (.iload_n 2, 1, []), some (.iconst (0), 1, []), some (.invokevirtual 97, 3, [136, 921, 0]), none, none, some (.aload_n 0, 1, []), some (.iload 5, 2, []), none, some (.iload_n 3, 1, []), some (.iload 4, 2, []), none, some (.ifCond .le (16), 3, []), none, none, some (.iload 4, 2, []), none, some (.iconst (1), 1, []), some (.iadd, 1, []), some (.bipush (6), 2, []), none, some (.iload 6, 2, []), none, some (.imul, 1, []), some (.iadd, 1, []), some (.goto (5), 3, []), none, none, some (.iload 7, 2, []), none, some (.invokevirtual 97, 3, [136, 921, 0]), none, none, some (.iload 9, 2, []), none, some (.ifCond .eq (22), 3, []), none, none, some (.aload_n 0, 1, []), some (.iload 5, 2, []), none, some (.iload_n 2, 1, []), some (.bipush (8), 2, []), none, some (.idiv, 1, []), some (.bipush (8), 2, []), none, some (.imul, 1, []), some (.iload_n 3, 1, []), some (.bipush (8), 2, []), none, some (.irem, 1, []), some (.iadd, 1, []), some (.iconst (0), 1, []), some (.invokevirtual 97, 3, [136, 921, 0]), none, none, some (.iload 7, 2, []), none, some (.invokestatic 51, 3, [120, 860, 0]), none, none, some (.bipush (6), 2, []), none, some (.if_icmp .ne (52), 3, []), none, none, some (.iload_n 3, 1, []), some (.iload_n 2, 1, []), some (.isub, 1, []), some (.invokestatic 48, 3, [128, 891, 0]), none, none, some (.iconst (2), 1, []), some (.if_icmp .ne (42), 3, []), none, none, some (.aload_n 0, 1, []), some (.iload 5, 2, []), none, some (.iload_n 3, 1, []), some (.iload_n 2, 1, []), some (.if_icmp .le (9), 3, []), none, none, some (.iload_n 2, 1, []), some (.iconst (3), 1, []), some (.iadd, 1, []), some (.goto (6), 3, []), none, none, some (.iload_n 2, 1, []), some (.iconst (4), 1, []), some (.isub, 1, []), some (.iconst (0), 1, []), some (.invokevirtual 97, 3, [136, 921, 0]), none, none, some (.aload_n 0, 1, []), some (.iload 5, 2, []), none, some (.iload_n 2, 1, []), some (.iload_n 3, 1, []), some (.iadd, 1, []), some (.iconst (2), 1, []), some (.idiv, 1, []), some (.iconst (4), 1, []), some (.bipush (6), 2, []), none, some (.iload 6, 2, []), none, some (.imul, 1, []), some (.iadd, 1, []), some (.invokevirtual 97, 3, [136, 921, 0]), none, none, some (.aload_n 0, 1, []), some (.getfield 13, 3, [7, 2, 788, 0]), none, none, some (.iload 5, 2, []), none, some (.iconst (1), 1, []), some (.iload 6, 2, []), none, some (.isub, 1, []), some (.iastore, 1, []), some (.aload_n 0, 1, []), some (.getfield 17, 3, [7, 3, 789, 0]), none, none, some (.iload 5, 2, []), none, some (.aload_n 0, 1, []), some (.getfield 17, 3, [7, 3, 789, 0]), none, none, some (.iload_n 1, 1, []), some (.iaload, 1, []), some (.iload_n 2, 1, []), some (.invokestatic 111, 3, [150, 977, 0]), none, none, some (.iconst (-1), 1, []), some (.ixor, 1, []), some (.iand, 1, []), some (.iload_n 3, 1, []), some (.invokestatic 111, 3, [150, 977, 0]), none, none, some (.iconst (-1), 1, []), some (.ixor, 1, []), some (.iand, 1, []), some (.iastore, 1, []), some (.aload_n 0, 1, []), some (.getfield 20, 3, [7, 4, 790, 0]), none, none, some (.iload 5, 2, []), none, some (.iload 8, 2, []), none, some (.ifCond .eq (21), 3, []), none, none, some (.iload_n 3, 1, []), some (.iload_n 2, 1, []), some (.isub, 1, []), some (.invokestatic 48, 3, [128, 891, 0]), none, none, some (.bipush (16), 2, []), none, some (.if_icmp .ne (10), 3, []), none, none, some (.iload_n 2, 1, []), some (.bipush (8), 2, []), none, some (.irem, 1, []), some (.goto (4), 3, []), none, none, some (.iconst (-1), 1, []), some (.iastore, 1, []), some (.aload_n 0, 1, []), some (.getfield 23, 3, [7, 5, 791, 0]), none, none, some (.iload 5, 2, []), none, some (.iload 8, 2, []), none, some (.ifCond .ne (8), 3, []), none, none, some (.iload 10, 2, []), none, some (.ifCond .eq (7), 3, []), none, none, some (.iconst (0), 1, []), some (.goto (11), 3, []), none, none, some (.aload_n 0, 1, []), some (.getfield 23, 3, [7, 5, 791, 0]), none, none, some (.iload_n 1, 1, []), some (.iaload, 1, []), some (.iconst (1), 1, []), some (.iadd, 1, []), some (.iastore, 1, []), some (.return_, 1, [])], (4, 99, 1, 4), [])
set_option maxRecDepth 100000 in
theorem st_M_go : jokT2 M_M_go 0 (jt M_M_go) = true := by decide +kernel
set_option maxRecDepth 100000 in
theorem ok_M_go : jokM M_M_go := ⟨by decide +kernel, jwat_in (i := 976) (by decide +kernel), jwat_in (i := 78) (by decide +kernel), ⟨by decide +kernel, by decide +kernel, by decide +kernel⟩, by rw [if_neg (by decide)]; exact ⟨jwat_in (i := 975) (by decide +kernel), jwat_in (i := 56) (by decide +kernel)⟩⟩
def M_M_rightsOf : jM := ((⟨"ChessLedgerModel", "rightsOf", "(I)I"⟩, prog_9_method_26_code, 1, (some .int)), [some (.iload_n 0, 1, []), some (.lookupswitch (73) #[(0, 59), (4, 61), (7, 63), (56, 65), (60, 68), (63, 71)], 59, []), none, none, none, none, none, none, none, none, none, none, none, none, none, none, none, none, none, none, none, none, none, none, none, none, none, none, none, none, none, none, none, none, none, none, none, none, none, none, none, none, none, none, none, none, none, none, none, none, none, none, none, none, none, none, none, none, none, none, some (.iconst (2), 1, []), some (.ireturn, 1, []), some (.iconst (3), 1, []), some (.ireturn, 1, []), some (.iconst (1), 1, []), some (.ireturn, 1, []), some (.bipush (8), 2, []), none, some (.ireturn, 1, []), some (.bipush (12), 2, []), none, some (.ireturn, 1, []), some (.iconst (4), 1, []), some (.ireturn, 1, []), some (.iconst (0), 1, []), some (.ireturn, 1, [])], (0, 0, 0, 1), [])
set_option maxRecDepth 100000 in
theorem st_M_rightsOf : jokT2 M_M_rightsOf 0 (jt M_M_rightsOf) = true := by decide +kernel
set_option maxRecDepth 100000 in
theorem ok_M_rightsOf : jokM M_M_rightsOf := ⟨by decide +kernel, jwat_in (i := 979) (by decide +kernel), jwat_in (i := 78) (by decide +kernel), ⟨by decide +kernel, by decide +kernel, by decide +kernel⟩, by rw [if_pos (show jk M_M_rightsOf = 0 from rfl)]; exact jwat_in (i := 978) (by decide +kernel)⟩
def M_M_back : jM := ((⟨"ChessLedgerModel", "back", "()I"⟩, prog_9_method_42_code, 1, (some .int)), [some (.aload_n 0, 1, []), some (.iconst (0), 1, []), some (.putfield 36, 3, [7, 0, 786, 0]), none, none, some (.aload_n 0, 1, []), some (.getfield 123, 3, [7, 8, 794, 0]), none, none, some (.ifCond .eq (10), 3, []), none, none, some (.aload_n 0, 1, []), some (.getfield 120, 3, [7, 7, 793, 0]), none, none, some (.ifCond .ne (5), 3, []), none, none, some (.iconst (0), 1, []), some (.ireturn, 1, []), some (.aload_n 0, 1, []), some (.dup, 1, []), some (.getfield 120, 3, [7, 7, 793, 0]), none, none, some (.iconst (1), 1, []), some (.isub, 1, []), some (.putfield 120, 3, [7, 7, 793, 0]), none, none, some (.iconst (1), 1, []), some (.ireturn, 1, [])], (0, 0, 1, 0), [])
set_option maxRecDepth 100000 in
theorem st_M_back : jokT2 M_M_back 0 (jt M_M_back) = true := by decide +kernel
set_option maxRecDepth 100000 in
theorem ok_M_back : jokM M_M_back := ⟨by decide +kernel, jwat_in (i := 983) (by decide +kernel), jwat_in (i := 78) (by decide +kernel), ⟨by decide +kernel, by decide +kernel, by decide +kernel⟩, by rw [if_neg (by decide)]; exact ⟨jwat_in (i := 981) (by decide +kernel), jwat_in (i := 982) (by decide +kernel)⟩⟩
def M_M_attackers : jM := ((⟨"ChessLedgerModel", "attackers", "(II)J"⟩, prog_9_method_43_code, 3, (some .long)), [some (.aload_n 0, 1, []), some (.iconst (0), 1, []), some (.putfield 36, 3, [7, 0, 786, 0]), none, none, some (.iload_n 1, 1, []), some (.ifCond .lt (31), 3, []), none, none, some (.iload_n 1, 1, []), some (.bipush (64), 2, []), none, some (.if_icmp .ge (25), 3, []), none, none, some (.iload_n 2, 1, []), some (.ifCond .eq (8), 3, []), none, none, some (.iload_n 2, 1, []), some (.iconst (1), 1, []), some (.if_icmp .ne (16), 3, []), none, none, some (.aload_n 0, 1, []), some (.aload_n 0, 1, []), some (.getfield 120, 3, [7, 7, 793, 0]), none, none, some (.iload_n 1, 1, []), some (.iload_n 2, 1, []), some (.invokevirtual 147, 3, [153, 988, 0]), none, none, some (.goto (4), 3, []), none, none, some (.lconst 0, 1, []), some (.lreturn, 1, [])], (4, 102, 1, 2), [])
set_option maxRecDepth 100000 in
theorem st_M_attackers : jokT2 M_M_attackers 0 (jt M_M_attackers) = true := by decide +kernel
set_option maxRecDepth 100000 in
theorem ok_M_attackers : jokM M_M_attackers := ⟨by decide +kernel, jwat_in (i := 987) (by decide +kernel), jwat_in (i := 78) (by decide +kernel), ⟨by decide +kernel, by decide +kernel, by decide +kernel⟩, by rw [if_neg (by decide)]; exact ⟨jwat_in (i := 985) (by decide +kernel), jwat_in (i := 986) (by decide +kernel)⟩⟩
def M_M_attackersOf : jM := ((⟨"ChessLedgerModel", "attackersOf", "(III)J"⟩, prog_9_method_10_code, 7, (some .long)), [some (.lconst 0, 1, []), some (.lstore 4, 2, []), none, some (.iconst (0), 1, []), some (.istore 6, 2, []), none, some (.iload 6, 2, []), none, some (.bipush (64), 2, []), none, some (.if_icmp .ge (45), 3, []), none, none, some (.aload_n 0, 1, []), some (.iload_n 1, 1, []), some (.iload 6, 2, []), none, some (.iload_n 3, 1, []), some (.invokevirtual 58, 3, [126, 883, 0]), none, none, some (.ifCond .eq (24), 3, []), none, none, some (.aload_n 0, 1, []), some (.iload_n 1, 1, []), some (.iload 6, 2, []), none, some (.iload_n 2, 1, []), some (.invokevirtual 61, 3, [127, 887, 0]), none, none, some (.ifCond .eq (13), 3, []), none, none, some (.lload 4, 2, []), none, some (.lconst 1, 1, []), some (.iload 6, 2, []), none, some (.lshl, 1, []), some (.lor, 1, []), some (.goto (5), 3, []), none, none, some (.lload 4, 2, []), none, some (.lstore 4, 2, []), none, some (.iinc 6 (1), 3, []), none, none, some (.goto (-46), 3, []), none, none, some (.lload 4, 2, []), none, some (.lreturn, 1, [])], (3, 76, 1, 3), [])
set_option maxRecDepth 100000 in
theorem st_M_attackersOf : jokT2 M_M_attackersOf 0 (jt M_M_attackersOf) = true := by decide +kernel
set_option maxRecDepth 100000 in
theorem ok_M_attackersOf : jokM M_M_attackersOf := ⟨by decide +kernel, jwat_in (i := 991) (by decide +kernel), jwat_in (i := 78) (by decide +kernel), ⟨by decide +kernel, by decide +kernel, by decide +kernel⟩, by rw [if_neg (by decide)]; exact ⟨jwat_in (i := 990) (by decide +kernel), jwat_in (i := 57) (by decide +kernel)⟩⟩
end
section
def M_M_checked : jM := ((⟨"ChessLedgerModel", "checked", "()I"⟩, prog_9_method_45_code, 1, (some .int)), [some (.aload_n 0, 1, []), some (.iconst (0), 1, []), some (.putfield 36, 3, [7, 0, 786, 0]), none, none, some (.aload_n 0, 1, []), some (.getfield 123, 3, [7, 8, 794, 0]), none, none, some (.ifCond .ne (7), 3, []), none, none, some (.iconst (-1), 1, []), some (.goto (19), 3, []), none, none, some (.aload_n 0, 1, []), some (.aload_n 0, 1, []), some (.getfield 120, 3, [7, 7, 793, 0]), none, none, some (.invokevirtual 151, 3, [155, 996, 0]), none, none, some (.ifCond .eq (7), 3, []), none, none, some (.iconst (1), 1, []), some (.goto (4), 3, []), none, none, some (.iconst (0), 1, []), some (.ireturn, 1, [])], (6, 151, 1, 0), [])
set_option maxRecDepth 100000 in
theorem st_M_checked : jokT2 M_M_checked 0 (jt M_M_checked) = true := by decide +kernel
set_option maxRecDepth 100000 in
theorem ok_M_checked : jokM M_M_checked := ⟨by decide +kernel, jwat_in (i := 995) (by decide +kernel), jwat_in (i := 78) (by decide +kernel), ⟨by decide +kernel, by decide +kernel, by decide +kernel⟩, by rw [if_neg (by decide)]; exact ⟨jwat_in (i := 993) (by decide +kernel), jwat_in (i := 994) (by decide +kernel)⟩⟩
def M_M_isChecked : jM := ((⟨"ChessLedgerModel", "isChecked", "(I)Z"⟩, prog_9_method_44_code, 2, (some .boolean)), [some (.aload_n 0, 1, []), some (.iload_n 1, 1, []), some (.aload_n 0, 1, []), some (.iload_n 1, 1, []), some (.aload_n 0, 1, []), some (.getfield 13, 3, [7, 2, 788, 0]), none, none, some (.iload_n 1, 1, []), some (.iaload, 1, []), some (.invokevirtual 81, 3, [123, 871, 0]), none, none, some (.iconst (1), 1, []), some (.aload_n 0, 1, []), some (.getfield 13, 3, [7, 2, 788, 0]), none, none, some (.iload_n 1, 1, []), some (.iaload, 1, []), some (.isub, 1, []), some (.invokevirtual 84, 3, [124, 875, 0]), none, none, some (.ireturn, 1, [])], (5, 130, 1, 1), [])
set_option maxRecDepth 100000 in
theorem st_M_isChecked : jokT2 M_M_isChecked 0 (jt M_M_isChecked) = true := by decide +kernel
set_option maxRecDepth 100000 in
theorem ok_M_isChecked : jokM M_M_isChecked := ⟨by decide +kernel, jwat_in (i := 999) (by decide +kernel), jwat_in (i := 78) (by decide +kernel), ⟨by decide +kernel, by decide +kernel, by decide +kernel⟩, by rw [if_neg (by decide)]; exact ⟨jwat_in (i := 998) (by decide +kernel), jwat_in (i := 58) (by decide +kernel)⟩⟩
def M_M_seen : jM := ((⟨"ChessLedgerModel", "seen", "()I"⟩, prog_9_method_48_code, 1, (some .int)), [some (.aload_n 0, 1, []), some (.iconst (0), 1, []), some (.putfield 36, 3, [7, 0, 786, 0]), none, none, some (.aload_n 0, 1, []), some (.getfield 123, 3, [7, 8, 794, 0]), none, none, some (.ifCond .eq (10), 3, []), none, none, some (.aload_n 0, 1, []), some (.invokevirtual 154, 3, [157, 1004, 0]), none, none, some (.goto (4), 3, []), none, none, some (.iconst (-1), 1, []), some (.ireturn, 1, [])], (2, 46, 1, 0), [])
set_option maxRecDepth 100000 in
theorem st_M_seen : jokT2 M_M_seen 0 (jt M_M_seen) = true := by decide +kernel
set_option maxRecDepth 100000 in
theorem ok_M_seen : jokM M_M_seen := ⟨by decide +kernel, jwat_in (i := 1003) (by decide +kernel), jwat_in (i := 78) (by decide +kernel), ⟨by decide +kernel, by decide +kernel, by decide +kernel⟩, by rw [if_neg (by decide)]; exact ⟨jwat_in (i := 1001) (by decide +kernel), jwat_in (i := 1002) (by decide +kernel)⟩⟩
def M_M_seenOf : jM := ((⟨"ChessLedgerModel", "seenOf", "()I"⟩, prog_9_method_47_code, 5, (some .int)), [some (.iconst (0), 1, []), some (.istore_n 1, 1, []), some (.iconst (0), 1, []), some (.istore_n 2, 1, []), some (.iload_n 2, 1, []), some (.aload_n 0, 1, []), some (.getfield 120, 3, [7, 7, 793, 0]), none, none, some (.if_icmp .gt (128), 3, []), none, none, some (.aload_n 0, 1, []), some (.getfield 13, 3, [7, 2, 788, 0]), none, none, some (.iload_n 2, 1, []), some (.iaload, 1, []), some (.aload_n 0, 1, []), some (.getfield 13, 3, [7, 2, 788, 0]), none, none, some (.aload_n 0, 1, []), some (.getfield 120, 3, [7, 7, 793, 0]), none, none, some (.iaload, 1, []), some (.if_icmp .ne (44), 3, []), none, none, some (.aload_n 0, 1, []), some (.getfield 17, 3, [7, 3, 789, 0]), none, none, some (.iload_n 2, 1, []), some (.iaload, 1, []), some (.aload_n 0, 1, []), some (.getfield 17, 3, [7, 3, 789, 0]), none, none, some (.aload_n 0, 1, []), some (.getfield 120, 3, [7, 7, 793, 0]), none, none, some (.iaload, 1, []), some (.if_icmp .ne (26), 3, []), none, none, some (.aload_n 0, 1, []), some (.getfield 26, 3, [7, 6, 792, 0]), none, none, some (.iload_n 2, 1, []), some (.laload, 1, []), some (.aload_n 0, 1, []), some (.getfield 26, 3, [7, 6, 792, 0]), none, none, some (.aload_n 0, 1, []), some (.getfield 120, 3, [7, 7, 793, 0]), none, none, some (.laload, 1, []), some (.lcmp, 1, []), some (.ifCond .ne (7), 3, []), none, none, some (.iconst (1), 1, []), some (.goto (4), 3, []), none, none, some (.iconst (0), 1, []), some (.istore_n 3, 1, []), some (.iconst (0), 1, []), some (.istore 4, 2, []), none, some (.iload 4, 2, []), none, some (.bipush (64), 2, []), none, some (.if_icmp .ge (39), 3, []), none, none, some (.iload_n 3, 1, []), some (.ifCond .eq (35), 3, []), none, none, some (.aload_n 0, 1, []), some (.iload_n 2, 1, []), some (.iload 4, 2, []), none, some (.invokevirtual 40, 3, [119, 856, 0]), none, none, some (.aload_n 0, 1, []), some (.aload_n 0, 1, []), some (.getfield 120, 3, [7, 7, 793, 0]), none, none, some (.iload 4, 2, []), none, some (.invokevirtual 40, 3, [119, 856, 0]), none, none, some (.if_icmp .ne (7), 3, []), none, none, some (.iconst (1), 1, []), some (.goto (4), 3, []), none, none, some (.iconst (0), 1, []), some (.istore_n 3, 1, []), some (.iinc 4 (1), 3, []), none, none, some (.goto (-40), 3, []), none, none, some (.iload_n 3, 1, []), some (.ifCond .eq (9), 3, []), none, none, some (.iload_n 1, 1, []), some (.iconst (1), 1, []), some (.iadd, 1, []), some (.goto (4), 3, []), none, none, some (.iload_n 1, 1, []), some (.istore_n 1, 1, []), some (.iinc 2 (1), 3, []), none, none, some (.goto (-130), 3, []), none, none, some (.iload_n 1, 1, []), some (.ireturn, 1, [])], (1, 22, 1, 0), [])
set_option maxRecDepth 100000 in
theorem st_M_seenOf : jokT2 M_M_seenOf 0 (jt M_M_seenOf) = true := by decide +kernel
set_option maxRecDepth 100000 in
theorem ok_M_seenOf : jokM M_M_seenOf := ⟨by decide +kernel, jwat_in (i := 1007) (by decide +kernel), jwat_in (i := 78) (by decide +kernel), ⟨by decide +kernel, by decide +kernel, by decide +kernel⟩, by rw [if_neg (by decide)]; exact ⟨jwat_in (i := 1006) (by decide +kernel), jwat_in (i := 59) (by decide +kernel)⟩⟩
def M_M_status : jM := ((⟨"ChessLedgerModel", "status", "()I"⟩, prog_9_method_49_code, 1, (some .int)), [some (.aload_n 0, 1, []), some (.iconst (0), 1, []), some (.putfield 36, 3, [7, 0, 786, 0]), none, none, some (.aload_n 0, 1, []), some (.getfield 123, 3, [7, 8, 794, 0]), none, none, some (.ifCond .ne (5), 3, []), none, none, some (.iconst (-1), 1, []), some (.ireturn, 1, []), some (.aload_n 0, 1, []), some (.aload_n 0, 1, []), some (.getfield 120, 3, [7, 7, 793, 0]), none, none, some (.invokevirtual 137, 3, [140, 937, 0]), none, none, some (.ifCond .ne (20), 3, []), none, none, some (.aload_n 0, 1, []), some (.aload_n 0, 1, []), some (.getfield 120, 3, [7, 7, 793, 0]), none, none, some (.invokevirtual 151, 3, [155, 996, 0]), none, none, some (.ifCond .eq (7), 3, []), none, none, some (.iconst (1), 1, []), some (.goto (4), 3, []), none, none, some (.iconst (2), 1, []), some (.ireturn, 1, []), some (.aload_n 0, 1, []), some (.getfield 23, 3, [7, 5, 791, 0]), none, none, some (.aload_n 0, 1, []), some (.getfield 120, 3, [7, 7, 793, 0]), none, none, some (.iaload, 1, []), some (.sipush (150), 3, []), none, none, some (.if_icmp .lt (7), 3, []), none, none, some (.iconst (3), 1, []), some (.goto (27), 3, []), none, none, some (.aload_n 0, 1, []), some (.invokevirtual 154, 3, [157, 1004, 0]), none, none, some (.iconst (5), 1, []), some (.if_icmp .lt (7), 3, []), none, none, some (.iconst (4), 1, []), some (.goto (15), 3, []), none, none, some (.aload_n 0, 1, []), some (.invokevirtual 158, 3, [159, 1012, 0]), none, none, some (.ifCond .eq (7), 3, []), none, none, some (.iconst (5), 1, []), some (.goto (4), 3, []), none, none, some (.iconst (0), 1, []), some (.ireturn, 1, [])], (9, 232, 1, 0), [])
set_option maxRecDepth 100000 in
theorem st_M_status : jokT2 M_M_status 0 (jt M_M_status) = true := by decide +kernel
set_option maxRecDepth 100000 in
theorem ok_M_status : jokM M_M_status := ⟨by decide +kernel, jwat_in (i := 1011) (by decide +kernel), jwat_in (i := 78) (by decide +kernel), ⟨by decide +kernel, by decide +kernel, by decide +kernel⟩, by rw [if_neg (by decide)]; exact ⟨jwat_in (i := 1009) (by decide +kernel), jwat_in (i := 1010) (by decide +kernel)⟩⟩
def M_M_isDead : jM := ((⟨"ChessLedgerModel", "isDead", "()Z"⟩, prog_9_method_46_code, 4, (some .boolean)), [some (.iconst (0), 1, []), some (.istore_n 1, 1, []), some (.iconst (0), 1, []), some (.istore_n 2, 1, []), some (.iload_n 2, 1, []), some (.bipush (64), 2, []), none, some (.if_icmp .ge (61), 3, []), none, none, some (.aload_n 0, 1, []), some (.aload_n 0, 1, []), some (.getfield 120, 3, [7, 7, 793, 0]), none, none, some (.iload_n 2, 1, []), some (.invokevirtual 40, 3, [119, 856, 0]), none, none, some (.invokestatic 51, 3, [120, 860, 0]), none, none, some (.istore_n 3, 1, []), some (.iload_n 3, 1, []), some (.iconst (2), 1, []), some (.if_icmp .eq (8), 3, []), none, none, some (.iload_n 3, 1, []), some (.iconst (3), 1, []), some (.if_icmp .ne (9), 3, []), none, none, some (.iload_n 1, 1, []), some (.iconst (1), 1, []), some (.iadd, 1, []), some (.goto (25), 3, []), none, none, some (.iload_n 3, 1, []), some (.iconst (1), 1, []), some (.if_icmp .eq (13), 3, []), none, none, some (.iload_n 3, 1, []), some (.iconst (4), 1, []), some (.if_icmp .eq (8), 3, []), none, none, some (.iload_n 3, 1, []), some (.iconst (5), 1, []), some (.if_icmp .ne (9), 3, []), none, none, some (.iload_n 1, 1, []), some (.iconst (2), 1, []), some (.iadd, 1, []), some (.goto (4), 3, []), none, none, some (.iload_n 1, 1, []), some (.istore_n 1, 1, []), some (.iinc 2 (1), 3, []), none, none, some (.goto (-61), 3, []), none, none, some (.iload_n 1, 1, []), some (.iconst (2), 1, []), some (.if_icmp .ge (7), 3, []), none, none, some (.iconst (1), 1, []), some (.goto (4), 3, []), none, none, some (.iconst (0), 1, []), some (.ireturn, 1, [])], (1, 22, 1, 0), [])
set_option maxRecDepth 100000 in
theorem st_M_isDead : jokT2 M_M_isDead 0 (jt M_M_isDead) = true := by decide +kernel
set_option maxRecDepth 100000 in
theorem ok_M_isDead : jokM M_M_isDead := ⟨by decide +kernel, jwat_in (i := 1015) (by decide +kernel), jwat_in (i := 78) (by decide +kernel), ⟨by decide +kernel, by decide +kernel, by decide +kernel⟩, by rw [if_neg (by decide)]; exact ⟨jwat_in (i := 1014) (by decide +kernel), jwat_in (i := 60) (by decide +kernel)⟩⟩
def M_M_lines : jM := ((⟨"ChessLedgerModel", "lines", "(I)I"⟩, prog_9_method_51_code, 2, (some .int)), [some (.aload_n 0, 1, []), some (.iconst (0), 1, []), some (.putfield 36, 3, [7, 0, 786, 0]), none, none, some (.aload_n 0, 1, []), some (.getfield 123, 3, [7, 8, 794, 0]), none, none, some (.ifCond .eq (12), 3, []), none, none, some (.iload_n 1, 1, []), some (.ifCond .lt (8), 3, []), none, none, some (.iload_n 1, 1, []), some (.iconst (2), 1, []), some (.if_icmp .le (5), 3, []), none, none, some (.iconst (-1), 1, []), some (.ireturn, 1, []), some (.iload_n 1, 1, []), some (.ifCond .ne (7), 3, []), none, none, some (.iconst (1), 1, []), some (.goto (24), 3, []), none, none, some (.iload_n 1, 1, []), some (.iconst (1), 1, []), some (.if_icmp .ne (14), 3, []), none, none, some (.aload_n 0, 1, []), some (.aload_n 0, 1, []), some (.getfield 120, 3, [7, 7, 793, 0]), none, none, some (.invokevirtual 137, 3, [140, 937, 0]), none, none, some (.goto (8), 3, []), none, none, some (.aload_n 0, 1, []), some (.iconst (0), 1, []), some (.invokevirtual 162, 3, [161, 1020, 0]), none, none, some (.ireturn, 1, [])], (10, 258, 1, 1), [])
set_option maxRecDepth 100000 in
theorem st_M_lines : jokT2 M_M_lines 0 (jt M_M_lines) = true := by decide +kernel
set_option maxRecDepth 100000 in
theorem ok_M_lines : jokM M_M_lines := ⟨by decide +kernel, jwat_in (i := 1019) (by decide +kernel), jwat_in (i := 78) (by decide +kernel), ⟨by decide +kernel, by decide +kernel, by decide +kernel⟩, by rw [if_neg (by decide)]; exact ⟨jwat_in (i := 1017) (by decide +kernel), jwat_in (i := 1018) (by decide +kernel)⟩⟩
def M_M_behindAll : jM := ((⟨"ChessLedgerModel", "behindAll", "(I)I"⟩, prog_9_method_50_code, 7, (some .int)), [some (.iconst (0), 1, []), some (.istore_n 2, 1, []), some (.iconst (0), 1, []), some (.istore_n 3, 1, []), some (.iload_n 3, 1, []), some (.bipush (64), 2, []), none, some (.if_icmp .ge (175), 3, []), none, none, some (.iconst (0), 1, []), some (.istore 4, 2, []), none, some (.iload 4, 2, []), none, some (.bipush (64), 2, []), none, some (.if_icmp .ge (159), 3, []), none, none, some (.aload_n 0, 1, []), some (.aload_n 0, 1, []), some (.getfield 120, 3, [7, 7, 793, 0]), none, none, some (.iload_n 3, 1, []), some (.aload_n 0, 1, []), some (.getfield 13, 3, [7, 2, 788, 0]), none, none, some (.aload_n 0, 1, []), some (.getfield 120, 3, [7, 7, 793, 0]), none, none, some (.iaload, 1, []), some (.invokevirtual 58, 3, [126, 883, 0]), none, none, some (.ifCond .eq (138), 3, []), none, none, some (.aload_n 0, 1, []), some (.aload_n 0, 1, []), some (.getfield 120, 3, [7, 7, 793, 0]), none, none, some (.iload_n 3, 1, []), some (.iload 4, 2, []), none, some (.invokevirtual 114, 3, [141, 941, 0]), none, none, some (.istore 5, 2, []), none, some (.iload 5, 2, []), none, some (.ifCond .eq (7), 3, []), none, none, some (.iconst (1), 1, []), some (.goto (4), 3, []), none, none, some (.iconst (0), 1, []), some (.istore 6, 2, []), none, some (.iload 6, 2, []), none, some (.iload 5, 2, []), none, some (.ifCond .eq (7), 3, []), none, none, some (.iconst (5), 1, []), some (.goto (4), 3, []), none, none, some (.iconst (1), 1, []), some (.if_icmp .ge (92), 3, []), none, none, some (.aload_n 0, 1, []), some (.aload_n 0, 1, []), some (.getfield 120, 3, [7, 7, 793, 0]), none, none, some (.iload_n 3, 1, []), some (.iload 4, 2, []), none, some (.iload 6, 2, []), none, some (.invokevirtual 117, 3, [142, 945, 0]), none, none, some (.ifCond .eq (70), 3, []), none, none, some (.aload_n 0, 1, []), some (.aload_n 0, 1, []), some (.getfield 120, 3, [7, 7, 793, 0]), none, none, some (.iload_n 3, 1, []), some (.iload 4, 2, []), none, some (.iload 6, 2, []), none, some (.invokevirtual 143, 3, [149, 973, 0]), none, none, some (.iload_n 1, 1, []), some (.ifCond .ne (19), 3, []), none, none, some (.iload_n 2, 1, []), some (.aload_n 0, 1, []), some (.aload_n 0, 1, []), some (.getfield 120, 3, [7, 7, 793, 0]), none, none, some (.iconst (1), 1, []), some (.iadd, 1, []), some (.invokevirtual 137, 3, [140, 937, 0]), none, none, some (.iadd, 1, []), some (.istore_n 2, 1, []), some (.goto (37), 3, []), none, none, some (.aload_n 0, 1, []), some (.aload_n 0, 1, []), some (.getfield 120, 3, [7, 7, 793, 0]), none, none, some (.iconst (1), 1, []), some (.iadd, 1, []), some (.invokevirtual 151, 3, [155, 996, 0]), none, none, some (.ifCond .eq (22), 3, []), none, none, some (.aload_n 0, 1, []), some (.aload_n 0, 1, []), some (.getfield 120, 3, [7, 7, 793, 0]), none, none, some (.iconst (1), 1, []), some (.iadd, 1, []), some (.invokevirtual 137, 3, [140, 937, 0]), none, none, some (.ifCond .ne (9), 3, []), none, none, some (.iload_n 2, 1, []), some (.iconst (1), 1, []), some (.iadd, 1, []), some (.goto (4), 3, []), none, none, some (.iload_n 2, 1, []), some (.istore_n 2, 1, []), some (.iinc 6 (1), 3, []), none, none, some (.goto (-101), 3, []), none, none, some (.iinc 4 (1), 3, []), none, none, some (.goto (-160), 3, []), none, none, some (.iinc 3 (1), 3, []), none, none, some (.goto (-175), 3, []), none, none, some (.iload_n 2, 1, []), some (.ireturn, 1, [])], (9, 232, 1, 1), [])
set_option maxRecDepth 100000 in
theorem st_M_behindAll : jokT2 M_M_behindAll 0 (jt M_M_behindAll) = true := by decide +kernel
set_option maxRecDepth 100000 in
theorem ok_M_behindAll : jokM M_M_behindAll := ⟨by decide +kernel, jwat_in (i := 1023) (by decide +kernel), jwat_in (i := 78) (by decide +kernel), ⟨by decide +kernel, by decide +kernel, by decide +kernel⟩, by rw [if_neg (by decide)]; exact ⟨jwat_in (i := 1022) (by decide +kernel), jwat_in (i := 61) (by decide +kernel)⟩⟩
def M_M_mates : jM := ((⟨"ChessLedgerModel", "mates", "()I"⟩, prog_9_method_52_code, 1, (some .int)), [some (.aload_n 0, 1, []), some (.iconst (0), 1, []), some (.putfield 36, 3, [7, 0, 786, 0]), none, none, some (.aload_n 0, 1, []), some (.getfield 123, 3, [7, 8, 794, 0]), none, none, some (.ifCond .eq (11), 3, []), none, none, some (.aload_n 0, 1, []), some (.iconst (1), 1, []), some (.invokevirtual 162, 3, [161, 1020, 0]), none, none, some (.goto (4), 3, []), none, none, some (.iconst (-1), 1, []), some (.ireturn, 1, [])], (10, 258, 1, 0), [])
set_option maxRecDepth 100000 in
theorem st_M_mates : jokT2 M_M_mates 0 (jt M_M_mates) = true := by decide +kernel
set_option maxRecDepth 100000 in
theorem ok_M_mates : jokM M_M_mates := ⟨by decide +kernel, jwat_in (i := 1027) (by decide +kernel), jwat_in (i := 78) (by decide +kernel), ⟨by decide +kernel, by decide +kernel, by decide +kernel⟩, by rw [if_neg (by decide)]; exact ⟨jwat_in (i := 1025) (by decide +kernel), jwat_in (i := 1026) (by decide +kernel)⟩⟩
def M_M_type : jM := ((⟨"ChessLedgerModel", "type", "(JI)I"⟩, prog_9_method_53_code, 8, (some .int)), [some (.aload_n 0, 1, []), some (.iconst (0), 1, []), some (.putfield 36, 3, [7, 0, 786, 0]), none, none, some (.iload_n 3, 1, []), some (.iconst (1), 1, []), some (.if_icmp .lt (24), 3, []), none, none, some (.iload_n 3, 1, []), some (.bipush (8), 2, []), none, some (.if_icmp .gt (18), 3, []), none, none, some (.aload_n 0, 1, []), some (.getfield 165, 3, [7, 10, 796, 0]), none, none, some (.iload_n 3, 1, []), some (.iadd, 1, []), some (.bipush (100), 2, []), none, some (.if_icmp .gt (7), 3, []), none, none, some (.iconst (1), 1, []), some (.goto (4), 3, []), none, none, some (.iconst (0), 1, []), some (.istore 4, 2, []), none, some (.iconst (0), 1, []), some (.istore 5, 2, []), none, some (.iload 4, 2, []), none, some (.ifCond .eq (53), 3, []), none, none, some (.iload 5, 2, []), none, some (.iload_n 3, 1, []), some (.if_icmp .ge (47), 3, []), none, none, some (.lload_n 1, 1, []), some (.bipush (8), 2, []), none, some (.iload 5, 2, []), none, some (.imul, 1, []), some (.lshr, 1, []), some (.ldc2_w 168, 3, [1032, 255]), none, none, some (.land, 1, []), some (.lstore 6, 2, []), none, some (.lload 6, 2, []), none, some (.ldc2_w 170, 3, [1033, 32]), none, none, some (.lcmp, 1, []), some (.ifCond .lt (16), 3, []), none, none, some (.lload 6, 2, []), none, some (.ldc2_w 172, 3, [1034, 126]), none, none, some (.lcmp, 1, []), some (.ifCond .gt (7), 3, []), none, none, some (.iconst (1), 1, []), some (.goto (4), 3, []), none, none, some (.iconst (0), 1, []), some (.istore 4, 2, []), none, some (.iinc 5 (1), 3, []), none, none, some (.goto (-52), 3, []), none, none, some (.iload 4, 2, []), none, some (.ifCond .ne (5), 3, []), none, none, some (.iconst (-1), 1, []), some (.ireturn, 1, []), some (.iload_n 3, 1, []), some (.iconst (1), 1, []), some (.isub, 1, []), some (.istore 5, 2, []), none, some (.iload 5, 2, []), none, some (.ifCond .lt (40), 3, []), none, none, some (.aload_n 0, 1, []), some (.getfield 30, 3, [7, 9, 795, 0]), none, none, some (.aload_n 0, 1, []), some (.getfield 165, 3, [7, 10, 796, 0]), none, none, some (.lload_n 1, 1, []), some (.bipush (8), 2, []), none, some (.iload 5, 2, []), none, some (.imul, 1, []), some (.lshr, 1, []), some (.ldc2_w 168, 3, [1032, 255]), none, none, some (.land, 1, []), some (.l2i, 1, []), some (.iastore, 1, []), some (.aload_n 0, 1, []), some (.dup, 1, []), some (.getfield 165, 3, [7, 10, 796, 0]), none, none, some (.iconst (1), 1, []), some (.iadd, 1, []), some (.putfield 165, 3, [7, 10, 796, 0]), none, none, some (.iinc 5 (-1), 3, []), none, none, some (.goto (-39), 3, []), none, none, some (.aload_n 0, 1, []), some (.getfield 165, 3, [7, 10, 796, 0]), none, none, some (.ireturn, 1, [])], (0, 0, 1, 2), [])
set_option maxRecDepth 100000 in
theorem st_M_type : jokT2 M_M_type 0 (jt M_M_type) = true := by decide +kernel
set_option maxRecDepth 100000 in
theorem ok_M_type : jokM M_M_type := ⟨by decide +kernel, jwat_in (i := 1031) (by decide +kernel), jwat_in (i := 78) (by decide +kernel), ⟨by decide +kernel, by decide +kernel, by decide +kernel⟩, by rw [if_neg (by decide)]; exact ⟨jwat_in (i := 1029) (by decide +kernel), jwat_in (i := 1030) (by decide +kernel)⟩⟩
def M_M_read : jM := ((⟨"ChessLedgerModel", "read", "()I"⟩, prog_9_method_62_code, 3, (some .int)), [some (.aload_n 0, 1, []), some (.iconst (0), 1, []), some (.putfield 36, 3, [7, 0, 786, 0]), none, none, some (.aload_n 0, 1, []), some (.invokevirtual 201, 3, [165, 1039, 0]), none, none, some (.istore_n 1, 1, []), some (.aload_n 0, 1, []), some (.iconst (0), 1, []), some (.putfield 165, 3, [7, 10, 796, 0]), none, none, some (.iload_n 1, 1, []), some (.ifCond .ne (10), 3, []), none, none, some (.aload_n 0, 1, []), some (.getfield 174, 3, [7, 11, 797, 0]), none, none, some (.iconst (1), 1, []), some (.iadd, 1, []), some (.ireturn, 1, []), some (.aload_n 0, 1, []), some (.getfield 23, 3, [7, 5, 791, 0]), none, none, some (.sipush (303), 3, []), none, none, some (.iaload, 1, []), some (.sipush (150), 3, []), none, none, some (.if_icmp .gt (49), 3, []), none, none, some (.aload_n 0, 1, []), some (.getfield 186, 3, [7, 12, 798, 0]), none, none, some (.ifCond .eq (28), 3, []), none, none, some (.aload_n 0, 1, []), some (.getfield 186, 3, [7, 12, 798, 0]), none, none, some (.aload_n 0, 1, []), some (.getfield 13, 3, [7, 2, 788, 0]), none, none, some (.sipush (303), 3, []), none, none, some (.iaload, 1, []), some (.ifCond .ne (8), 3, []), none, none, some (.bipush (54), 2, []), none, some (.goto (5), 3, []), none, none, some (.bipush (51), 2, []), none, some (.if_icmp .ne (17), 3, []), none, none, some (.aload_n 0, 1, []), some (.sipush (303), 3, []), none, none, some (.invokevirtual 131, 3, [117, 848, 0]), none, none, some (.ifCond .eq (7), 3, []), none, none, some (.iconst (1), 1, []), some (.goto (4), 3, []), none, none, some (.iconst (0), 1, []), some (.istore_n 2, 1, []), some (.iload_n 2, 1, []), some (.ifCond .ne (6), 3, []), none, none, some (.bipush (-2), 2, []), none, some (.ireturn, 1, []), some (.aload_n 0, 1, []), some (.invokevirtual 134, 3, [132, 905, 0]), none, none, some (.iconst (0), 1, []), some (.ireturn, 1, [])], (8, 204, 1, 0), [])
set_option maxRecDepth 100000 in
theorem st_M_read : jokT2 M_M_read 0 (jt M_M_read) = true := by decide +kernel
set_option maxRecDepth 100000 in
theorem ok_M_read : jokM M_M_read := ⟨by decide +kernel, jwat_in (i := 1038) (by decide +kernel), jwat_in (i := 78) (by decide +kernel), ⟨by decide +kernel, by decide +kernel, by decide +kernel⟩, by rw [if_neg (by decide)]; exact ⟨jwat_in (i := 1036) (by decide +kernel), jwat_in (i := 1037) (by decide +kernel)⟩⟩
def M_M_readAll : jM := ((⟨"ChessLedgerModel", "readAll", "()Z"⟩, prog_9_method_61_code, 2, (some .boolean)), [some (.aload_n 0, 1, []), some (.iconst (0), 1, []), some (.putfield 174, 3, [7, 11, 797, 0]), none, none, some (.aload_n 0, 1, []), some (.invokevirtual 189, 3, [166, 1043, 0]), none, none, some (.bipush (64), 2, []), none, some (.if_icmp .lt (12), 3, []), none, none, some (.aload_n 0, 1, []), some (.bipush (32), 2, []), none, some (.invokevirtual 180, 3, [167, 1047, 0]), none, none, some (.ifCond .ne (5), 3, []), none, none, some (.iconst (0), 1, []), some (.ireturn, 1, []), some (.aload_n 0, 1, []), some (.getfield 13, 3, [7, 2, 788, 0]), none, none, some (.sipush (303), 3, []), none, none, some (.aload_n 0, 1, []), some (.invokevirtual 177, 3, [168, 1051, 0]), none, none, some (.bipush (98), 2, []), none, some (.if_icmp .ne (7), 3, []), none, none, some (.iconst (1), 1, []), some (.goto (4), 3, []), none, none, some (.iconst (0), 1, []), some (.iastore, 1, []), some (.aload_n 0, 1, []), some (.bipush (119), 2, []), none, some (.invokevirtual 180, 3, [167, 1047, 0]), none, none, some (.ifCond .ne (12), 3, []), none, none, some (.aload_n 0, 1, []), some (.bipush (98), 2, []), none, some (.invokevirtual 180, 3, [167, 1047, 0]), none, none, some (.ifCond .eq (7), 3, []), none, none, some (.iconst (1), 1, []), some (.goto (4), 3, []), none, none, some (.iconst (0), 1, []), some (.istore_n 1, 1, []), some (.iload_n 1, 1, []), some (.ifCond .eq (66), 3, []), none, none, some (.aload_n 0, 1, []), some (.bipush (32), 2, []), none, some (.invokevirtual 180, 3, [167, 1047, 0]), none, none, some (.ifCond .eq (57), 3, []), none, none, some (.aload_n 0, 1, []), some (.invokevirtual 192, 3, [170, 1058, 0]), none, none, some (.ifCond .eq (50), 3, []), none, none, some (.aload_n 0, 1, []), some (.bipush (32), 2, []), none, some (.invokevirtual 180, 3, [167, 1047, 0]), none, none, some (.ifCond .eq (41), 3, []), none, none, some (.aload_n 0, 1, []), some (.invokevirtual 195, 3, [171, 1062, 0]), none, none, some (.ifCond .eq (34), 3, []), none, none, some (.aload_n 0, 1, []), some (.bipush (32), 2, []), none, some (.invokevirtual 180, 3, [167, 1047, 0]), none, none, some (.ifCond .eq (25), 3, []), none, none, some (.aload_n 0, 1, []), some (.invokevirtual 198, 3, [172, 1066, 0]), none, none, some (.ifCond .eq (18), 3, []), none, none, some (.aload_n 0, 1, []), some (.getfield 174, 3, [7, 11, 797, 0]), none, none, some (.aload_n 0, 1, []), some (.getfield 165, 3, [7, 10, 796, 0]), none, none, some (.if_icmp .ne (7), 3, []), none, none, some (.iconst (1), 1, []), some (.goto (4), 3, []), none, none, some (.iconst (0), 1, []), some (.ireturn, 1, [])], (3, 69, 1, 0), [])
set_option maxRecDepth 100000 in
theorem st_M_readAll : jokT2 M_M_readAll 0 (jt M_M_readAll) = true := by decide +kernel
set_option maxRecDepth 100000 in
theorem ok_M_readAll : jokM M_M_readAll := ⟨by decide +kernel, jwat_in (i := 1042) (by decide +kernel), jwat_in (i := 78) (by decide +kernel), ⟨by decide +kernel, by decide +kernel, by decide +kernel⟩, by rw [if_neg (by decide)]; exact ⟨jwat_in (i := 1041) (by decide +kernel), jwat_in (i := 62) (by decide +kernel)⟩⟩
def M_M_readSquares : jM := ((⟨"ChessLedgerModel", "readSquares", "()I"⟩, prog_9_method_57_code, 8, (some .int)), [some (.iconst (0), 1, []), some (.istore_n 1, 1, []), some (.iconst (0), 1, []), some (.istore_n 2, 1, []), some (.iconst (1), 1, []), some (.istore_n 3, 1, []), some (.iload_n 3, 1, []), some (.ifCond .eq (286), 3, []), none, none, some (.iload_n 1, 1, []), some (.bipush (64), 2, []), none, some (.if_icmp .ge (280), 3, []), none, none, some (.iload_n 1, 1, []), some (.ifCond .le (21), 3, []), none, none, some (.iload_n 1, 1, []), some (.bipush (8), 2, []), none, some (.irem, 1, []), some (.ifCond .ne (14), 3, []), none, none, some (.aload_n 0, 1, []), some (.bipush (47), 2, []), none, some (.invokevirtual 180, 3, [167, 1047, 0]), none, none, some (.ifCond .ne (5), 3, []), none, none, some (.iload_n 1, 1, []), some (.ireturn, 1, []), some (.iload_n 2, 1, []), some (.ifCond .eq (14), 3, []), none, none, some (.iload_n 1, 1, []), some (.bipush (8), 2, []), none, some (.irem, 1, []), some (.ifCond .le (7), 3, []), none, none, some (.iconst (1), 1, []), some (.goto (4), 3, []), none, none, some (.iconst (0), 1, []), some (.istore_n 2, 1, []), some (.aload_n 0, 1, []), some (.invokevirtual 177, 3, [168, 1051, 0]), none, none, some (.istore 4, 2, []), none, some (.iload 4, 2, []), none, some (.bipush (49), 2, []), none, some (.if_icmp .lt (22), 3, []), none, none, some (.iload 4, 2, []), none, some (.bipush (56), 2, []), none, some (.if_icmp .gt (15), 3, []), none, none, some (.iload_n 2, 1, []), some (.ifCond .ne (11), 3, []), none, none, some (.iload 4, 2, []), none, some (.bipush (48), 2, []), none, some (.isub, 1, []), some (.goto (4), 3, []), none, none, some (.iconst (0), 1, []), some (.istore 5, 2, []), none, some (.iconst (0), 1, []), some (.istore 6, 2, []), none, some (.iconst (1), 1, []), some (.istore 7, 2, []), none, some (.iload 7, 2, []), none, some (.bipush (12), 2, []), none, some (.if_icmp .gt (28), 3, []), none, none, some (.iload 7, 2, []), none, some (.invokestatic 183, 3, [169, 1055, 0]), none, none, some (.iload 4, 2, []), none, some (.if_icmp .ne (8), 3, []), none, none, some (.iload 7, 2, []), none, some (.goto (5), 3, []), none, none, some (.iload 6, 2, []), none, some (.istore 6, 2, []), none, some (.iinc 7 (1), 3, []), none, none, some (.goto (-29), 3, []), none, none, some (.iload 5, 2, []), none, some (.ifCond .le (15), 3, []), none, none, some (.iload_n 1, 1, []), some (.bipush (8), 2, []), none, some (.irem, 1, []), some (.iload 5, 2, []), none, some (.iadd, 1, []), some (.bipush (8), 2, []), none, some (.if_icmp .le (8), 3, []), none, none, some (.iload 6, 2, []), none, some (.ifCond .le (7), 3, []), none, none, some (.iconst (1), 1, []), some (.goto (4), 3, []), none, none, some (.iconst (0), 1, []), some (.istore_n 3, 1, []), some (.iconst (0), 1, []), some (.istore 7, 2, []), none, some (.iload 7, 2, []), none, some (.iload 5, 2, []), none, some (.if_icmp .ge (41), 3, []), none, none, some (.iload_n 3, 1, []), some (.ifCond .eq (37), 3, []), none, none, some (.aload_n 0, 1, []), some (.getfield 7, 3, [7, 1, 787, 0]), none, none, some (.sipush (19392), 3, []), none, none, some (.bipush (8), 2, []), none, some (.bipush (7), 2, []), none, some (.iload_n 1, 1, []), some (.bipush (8), 2, []), none, some (.idiv, 1, []), some (.isub, 1, []), some (.imul, 1, []), some (.iadd, 1, []), some (.iload_n 1, 1, []), some (.bipush (8), 2, []), none, some (.irem, 1, []), some (.iadd, 1, []), some (.iload 7, 2, []), none, some (.iadd, 1, []), some (.iconst (0), 1, []), some (.bastore, 1, []), some (.iinc 7 (1), 3, []), none, none, some (.goto (-42), 3, []), none, none, some (.iload 6, 2, []), none, some (.ifCond .le (30), 3, []), none, none, some (.aload_n 0, 1, []), some (.getfield 7, 3, [7, 1, 787, 0]), none, none, some (.sipush (19392), 3, []), none, none, some (.bipush (8), 2, []), none, some (.bipush (7), 2, []), none, some (.iload_n 1, 1, []), some (.bipush (8), 2, []), none, some (.idiv, 1, []), some (.isub, 1, []), some (.imul, 1, []), some (.iadd, 1, []), some (.iload_n 1, 1, []), some (.bipush (8), 2, []), none, some (.irem, 1, []), some (.iadd, 1, []), some (.iload 6, 2, []), none, some (.i2b, 1, []), some (.bastore, 1, []), some (.iload_n 3, 1, []), some (.ifCond .eq (19), 3, []), none, none, some (.iload_n 1, 1, []), some (.iload 6, 2, []), none, some (.ifCond .le (7), 3, []), none, none, some (.iconst (1), 1, []), some (.goto (5), 3, []), none, none, some (.iload 5, 2, []), none, some (.iadd, 1, []), some (.goto (4), 3, []), none, none, some (.iload_n 1, 1, []), some (.istore_n 1, 1, []), some (.aload_n 0, 1, []), some (.iload_n 3, 1, []), some (.ifCond .eq (12), 3, []), none, none, some (.aload_n 0, 1, []), some (.getfield 174, 3, [7, 11, 797, 0]), none, none, some (.iconst (1), 1, []), some (.iadd, 1, []), some (.goto (7), 3, []), none, none, some (.aload_n 0, 1, []), some (.getfield 174, 3, [7, 11, 797, 0]), none, none, some (.putfield 174, 3, [7, 11, 797, 0]), none, none, some (.iload 5, 2, []), none, some (.ifCond .le (7), 3, []), none, none, some (.iconst (1), 1, []), some (.goto (4), 3, []), none, none, some (.iconst (0), 1, []), some (.istore_n 2, 1, []), some (.goto (-284), 3, []), none, none, some (.iload_n 1, 1, []), some (.ireturn, 1, [])], (2, 42, 1, 0), [])
set_option maxRecDepth 100000 in
theorem st_M_readSquares : jokT2 M_M_readSquares 0 (jt M_M_readSquares) = true := by decide +kernel
set_option maxRecDepth 100000 in
theorem ok_M_readSquares : jokM M_M_readSquares := ⟨by decide +kernel, jwat_in (i := 1046) (by decide +kernel), jwat_in (i := 78) (by decide +kernel), ⟨by decide +kernel, by decide +kernel, by decide +kernel⟩, by rw [if_neg (by decide)]; exact ⟨jwat_in (i := 1045) (by decide +kernel), jwat_in (i := 63) (by decide +kernel)⟩⟩
def M_M_is : jM := ((⟨"ChessLedgerModel", "is", "(I)Z"⟩, prog_9_method_56_code, 3, (some .boolean)), [some (.aload_n 0, 1, []), some (.invokevirtual 177, 3, [168, 1051, 0]), none, none, some (.iload_n 1, 1, []), some (.if_icmp .ne (7), 3, []), none, none, some (.iconst (1), 1, []), some (.goto (4), 3, []), none, none, some (.iconst (0), 1, []), some (.istore_n 2, 1, []), some (.aload_n 0, 1, []), some (.iload_n 2, 1, []), some (.ifCond .eq (12), 3, []), none, none, some (.aload_n 0, 1, []), some (.getfield 174, 3, [7, 11, 797, 0]), none, none, some (.iconst (1), 1, []), some (.iadd, 1, []), some (.goto (7), 3, []), none, none, some (.aload_n 0, 1, []), some (.getfield 174, 3, [7, 11, 797, 0]), none, none, some (.putfield 174, 3, [7, 11, 797, 0]), none, none, some (.iload_n 2, 1, []), some (.ireturn, 1, [])], (1, 20, 1, 1), [])
set_option maxRecDepth 100000 in
theorem st_M_is : jokT2 M_M_is 0 (jt M_M_is) = true := by decide +kernel
set_option maxRecDepth 100000 in
theorem ok_M_is : jokM M_M_is := ⟨by decide +kernel, jwat_in (i := 1050) (by decide +kernel), jwat_in (i := 78) (by decide +kernel), ⟨by decide +kernel, by decide +kernel, by decide +kernel⟩, by rw [if_neg (by decide)]; exact ⟨jwat_in (i := 1049) (by decide +kernel), jwat_in (i := 64) (by decide +kernel)⟩⟩
def M_M_next : jM := ((⟨"ChessLedgerModel", "next", "()I"⟩, prog_9_method_55_code, 1, (some .int)), [some (.aload_n 0, 1, []), some (.getfield 174, 3, [7, 11, 797, 0]), none, none, some (.aload_n 0, 1, []), some (.getfield 165, 3, [7, 10, 796, 0]), none, none, some (.if_icmp .ge (15), 3, []), none, none, some (.aload_n 0, 1, []), some (.getfield 30, 3, [7, 9, 795, 0]), none, none, some (.aload_n 0, 1, []), some (.getfield 174, 3, [7, 11, 797, 0]), none, none, some (.iaload, 1, []), some (.goto (4), 3, []), none, none, some (.iconst (0), 1, []), some (.ireturn, 1, [])], (0, 0, 1, 0), [])
set_option maxRecDepth 100000 in
theorem st_M_next : jokT2 M_M_next 0 (jt M_M_next) = true := by decide +kernel
set_option maxRecDepth 100000 in
theorem ok_M_next : jokM M_M_next := ⟨by decide +kernel, jwat_in (i := 1054) (by decide +kernel), jwat_in (i := 78) (by decide +kernel), ⟨by decide +kernel, by decide +kernel, by decide +kernel⟩, by rw [if_neg (by decide)]; exact ⟨jwat_in (i := 1053) (by decide +kernel), jwat_in (i := 65) (by decide +kernel)⟩⟩
def M_M_letterOf : jM := ((⟨"ChessLedgerModel", "letterOf", "(I)I"⟩, prog_9_method_54_code, 3, (some .int)), [some (.iload_n 0, 1, []), some (.invokestatic 51, 3, [120, 860, 0]), none, none, some (.istore_n 1, 1, []), some (.iload_n 1, 1, []), some (.iconst (1), 1, []), some (.if_icmp .ne (8), 3, []), none, none, some (.bipush (80), 2, []), none, some (.goto (45), 3, []), none, none, some (.iload_n 1, 1, []), some (.iconst (2), 1, []), some (.if_icmp .ne (8), 3, []), none, none, some (.bipush (78), 2, []), none, some (.goto (35), 3, []), none, none, some (.iload_n 1, 1, []), some (.iconst (3), 1, []), some (.if_icmp .ne (8), 3, []), none, none, some (.bipush (66), 2, []), none, some (.goto (25), 3, []), none, none, some (.iload_n 1, 1, []), some (.iconst (4), 1, []), some (.if_icmp .ne (8), 3, []), none, none, some (.bipush (82), 2, []), none, some (.goto (15), 3, []), none, none, some (.iload_n 1, 1, []), some (.iconst (5), 1, []), some (.if_icmp .ne (8), 3, []), none, none, some (.bipush (81), 2, []), none, some (.goto (5), 3, []), none, none, some (.bipush (75), 2, []), none, some (.istore_n 2, 1, []), some (.iload_n 0, 1, []), some (.bipush (6), 2, []), none, some (.if_icmp .le (10), 3, []), none, none, some (.iload_n 2, 1, []), some (.bipush (32), 2, []), none, some (.iadd, 1, []), some (.goto (4), 3, []), none, none, some (.iload_n 2, 1, []), some (.ireturn, 1, [])], (1, 20, 0, 1), [])
set_option maxRecDepth 100000 in
theorem st_M_letterOf : jokT2 M_M_letterOf 0 (jt M_M_letterOf) = true := by decide +kernel
set_option maxRecDepth 100000 in
theorem ok_M_letterOf : jokM M_M_letterOf := ⟨by decide +kernel, jwat_in (i := 1057) (by decide +kernel), jwat_in (i := 78) (by decide +kernel), ⟨by decide +kernel, by decide +kernel, by decide +kernel⟩, by rw [if_pos (show jk M_M_letterOf = 0 from rfl)]; exact jwat_in (i := 1056) (by decide +kernel)⟩
def M_M_readRights : jM := ((⟨"ChessLedgerModel", "readRights", "()Z"⟩, prog_9_method_58_code, 2, (some .boolean)), [some (.aload_n 0, 1, []), some (.getfield 17, 3, [7, 3, 789, 0]), none, none, some (.sipush (303), 3, []), none, none, some (.iconst (0), 1, []), some (.iastore, 1, []), some (.aload_n 0, 1, []), some (.bipush (45), 2, []), none, some (.invokevirtual 180, 3, [167, 1047, 0]), none, none, some (.ifCond .eq (5), 3, []), none, none, some (.iconst (1), 1, []), some (.ireturn, 1, []), some (.iconst (0), 1, []), some (.istore_n 1, 1, []), some (.aload_n 0, 1, []), some (.bipush (75), 2, []), none, some (.invokevirtual 180, 3, [167, 1047, 0]), none, none, some (.ifCond .eq (7), 3, []), none, none, some (.iconst (1), 1, []), some (.goto (4), 3, []), none, none, some (.iload_n 1, 1, []), some (.istore_n 1, 1, []), some (.aload_n 0, 1, []), some (.bipush (81), 2, []), none, some (.invokevirtual 180, 3, [167, 1047, 0]), none, none, some (.ifCond .eq (9), 3, []), none, none, some (.iload_n 1, 1, []), some (.iconst (2), 1, []), some (.iadd, 1, []), some (.goto (4), 3, []), none, none, some (.iload_n 1, 1, []), some (.istore_n 1, 1, []), some (.aload_n 0, 1, []), some (.bipush (107), 2, []), none, some (.invokevirtual 180, 3, [167, 1047, 0]), none, none, some (.ifCond .eq (9), 3, []), none, none, some (.iload_n 1, 1, []), some (.iconst (4), 1, []), some (.iadd, 1, []), some (.goto (4), 3, []), none, none, some (.iload_n 1, 1, []), some (.istore_n 1, 1, []), some (.aload_n 0, 1, []), some (.bipush (113), 2, []), none, some (.invokevirtual 180, 3, [167, 1047, 0]), none, none, some (.ifCond .eq (10), 3, []), none, none, some (.iload_n 1, 1, []), some (.bipush (8), 2, []), none, some (.iadd, 1, []), some (.goto (4), 3, []), none, none, some (.iload_n 1, 1, []), some (.istore_n 1, 1, []), some (.aload_n 0, 1, []), some (.getfield 17, 3, [7, 3, 789, 0]), none, none, some (.sipush (303), 3, []), none, none, some (.iload_n 1, 1, []), some (.iastore, 1, []), some (.iload_n 1, 1, []), some (.ifCond .le (7), 3, []), none, none, some (.iconst (1), 1, []), some (.goto (4), 3, []), none, none, some (.iconst (0), 1, []), some (.ireturn, 1, [])], (2, 42, 1, 0), [])
set_option maxRecDepth 100000 in
theorem st_M_readRights : jokT2 M_M_readRights 0 (jt M_M_readRights) = true := by decide +kernel
set_option maxRecDepth 100000 in
theorem ok_M_readRights : jokM M_M_readRights := ⟨by decide +kernel, jwat_in (i := 1061) (by decide +kernel), jwat_in (i := 78) (by decide +kernel), ⟨by decide +kernel, by decide +kernel, by decide +kernel⟩, by rw [if_neg (by decide)]; exact ⟨jwat_in (i := 1060) (by decide +kernel), jwat_in (i := 66) (by decide +kernel)⟩⟩
def M_M_readFile : jM := ((⟨"ChessLedgerModel", "readFile", "()Z"⟩, prog_9_method_59_code, 2, (some .boolean)), [some (.aload_n 0, 1, []), some (.getfield 20, 3, [7, 4, 790, 0]), none, none, some (.sipush (303), 3, []), none, none, some (.iconst (-1), 1, []), some (.iastore, 1, []), some (.aload_n 0, 1, []), some (.iconst (0), 1, []), some (.putfield 186, 3, [7, 12, 798, 0]), none, none, some (.aload_n 0, 1, []), some (.bipush (45), 2, []), none, some (.invokevirtual 180, 3, [167, 1047, 0]), none, none, some (.ifCond .eq (5), 3, []), none, none, some (.iconst (1), 1, []), some (.ireturn, 1, []), some (.aload_n 0, 1, []), some (.invokevirtual 177, 3, [168, 1051, 0]), none, none, some (.istore_n 1, 1, []), some (.iload_n 1, 1, []), some (.bipush (97), 2, []), none, some (.if_icmp .lt (9), 3, []), none, none, some (.iload_n 1, 1, []), some (.bipush (104), 2, []), none, some (.if_icmp .le (5), 3, []), none, none, some (.iconst (0), 1, []), some (.ireturn, 1, []), some (.aload_n 0, 1, []), some (.getfield 20, 3, [7, 4, 790, 0]), none, none, some (.sipush (303), 3, []), none, none, some (.iload_n 1, 1, []), some (.bipush (97), 2, []), none, some (.isub, 1, []), some (.iastore, 1, []), some (.aload_n 0, 1, []), some (.dup, 1, []), some (.getfield 174, 3, [7, 11, 797, 0]), none, none, some (.iconst (1), 1, []), some (.iadd, 1, []), some (.putfield 174, 3, [7, 11, 797, 0]), none, none, some (.aload_n 0, 1, []), some (.aload_n 0, 1, []), some (.invokevirtual 177, 3, [168, 1051, 0]), none, none, some (.putfield 186, 3, [7, 12, 798, 0]), none, none, some (.aload_n 0, 1, []), some (.bipush (51), 2, []), none, some (.invokevirtual 180, 3, [167, 1047, 0]), none, none, some (.ifCond .ne (12), 3, []), none, none, some (.aload_n 0, 1, []), some (.bipush (54), 2, []), none, some (.invokevirtual 180, 3, [167, 1047, 0]), none, none, some (.ifCond .eq (7), 3, []), none, none, some (.iconst (1), 1, []), some (.goto (4), 3, []), none, none, some (.iconst (0), 1, []), some (.ireturn, 1, [])], (2, 42, 1, 0), [])
set_option maxRecDepth 100000 in
theorem st_M_readFile : jokT2 M_M_readFile 0 (jt M_M_readFile) = true := by decide +kernel
set_option maxRecDepth 100000 in
theorem ok_M_readFile : jokM M_M_readFile := ⟨by decide +kernel, jwat_in (i := 1065) (by decide +kernel), jwat_in (i := 78) (by decide +kernel), ⟨by decide +kernel, by decide +kernel, by decide +kernel⟩, by rw [if_neg (by decide)]; exact ⟨jwat_in (i := 1064) (by decide +kernel), jwat_in (i := 67) (by decide +kernel)⟩⟩
def M_M_readCount : jM := ((⟨"ChessLedgerModel", "readCount", "()Z"⟩, prog_9_method_60_code, 3, (some .boolean)), [some (.iconst (0), 1, []), some (.istore_n 1, 1, []), some (.iconst (0), 1, []), some (.istore_n 2, 1, []), some (.iload_n 1, 1, []), some (.iconst (3), 1, []), some (.if_icmp .ge (58), 3, []), none, none, some (.aload_n 0, 1, []), some (.invokevirtual 177, 3, [168, 1051, 0]), none, none, some (.bipush (48), 2, []), none, some (.if_icmp .lt (49), 3, []), none, none, some (.aload_n 0, 1, []), some (.invokevirtual 177, 3, [168, 1051, 0]), none, none, some (.bipush (57), 2, []), none, some (.if_icmp .gt (40), 3, []), none, none, some (.iload_n 1, 1, []), some (.ifCond .eq (7), 3, []), none, none, some (.iload_n 2, 1, []), some (.ifCond .le (32), 3, []), none, none, some (.bipush (10), 2, []), none, some (.iload_n 2, 1, []), some (.imul, 1, []), some (.aload_n 0, 1, []), some (.invokevirtual 177, 3, [168, 1051, 0]), none, none, some (.iadd, 1, []), some (.bipush (48), 2, []), none, some (.isub, 1, []), some (.istore_n 2, 1, []), some (.iinc 1 (1), 3, []), none, none, some (.aload_n 0, 1, []), some (.dup, 1, []), some (.getfield 174, 3, [7, 11, 797, 0]), none, none, some (.iconst (1), 1, []), some (.iadd, 1, []), some (.putfield 174, 3, [7, 11, 797, 0]), none, none, some (.goto (-57), 3, []), none, none, some (.aload_n 0, 1, []), some (.getfield 23, 3, [7, 5, 791, 0]), none, none, some (.sipush (303), 3, []), none, none, some (.iload_n 2, 1, []), some (.iastore, 1, []), some (.iload_n 1, 1, []), some (.ifCond .le (7), 3, []), none, none, some (.iconst (1), 1, []), some (.goto (4), 3, []), none, none, some (.iconst (0), 1, []), some (.ireturn, 1, [])], (1, 20, 1, 0), [])
set_option maxRecDepth 100000 in
theorem st_M_readCount : jokT2 M_M_readCount 0 (jt M_M_readCount) = true := by decide +kernel
set_option maxRecDepth 100000 in
theorem ok_M_readCount : jokM M_M_readCount := ⟨by decide +kernel, jwat_in (i := 1069) (by decide +kernel), jwat_in (i := 78) (by decide +kernel), ⟨by decide +kernel, by decide +kernel, by decide +kernel⟩, by rw [if_neg (by decide)]; exact ⟨jwat_in (i := 1068) (by decide +kernel), jwat_in (i := 68) (by decide +kernel)⟩⟩
def M_M_print : jM := ((⟨"ChessLedgerModel", "print", "()I"⟩, prog_9_method_64_code, 5, (some .int)), [some (.aload_n 0, 1, []), some (.iconst (0), 1, []), some (.putfield 36, 3, [7, 0, 786, 0]), none, none, some (.aload_n 0, 1, []), some (.getfield 123, 3, [7, 8, 794, 0]), none, none, some (.ifCond .ne (5), 3, []), none, none, some (.iconst (-1), 1, []), some (.ireturn, 1, []), some (.aload_n 0, 1, []), some (.iconst (0), 1, []), some (.putfield 204, 3, [7, 14, 800, 0]), none, none, some (.iconst (0), 1, []), some (.istore_n 1, 1, []), some (.iconst (0), 1, []), some (.istore_n 2, 1, []), some (.iload_n 2, 1, []), some (.bipush (64), 2, []), none, some (.if_icmp .ge (131), 3, []), none, none, some (.aload_n 0, 1, []), some (.aload_n 0, 1, []), some (.getfield 120, 3, [7, 7, 793, 0]), none, none, some (.bipush (8), 2, []), none, some (.bipush (7), 2, []), none, some (.iload_n 2, 1, []), some (.bipush (8), 2, []), none, some (.idiv, 1, []), some (.isub, 1, []), some (.imul, 1, []), some (.iload_n 2, 1, []), some (.bipush (8), 2, []), none, some (.irem, 1, []), some (.iadd, 1, []), some (.invokevirtual 40, 3, [119, 856, 0]), none, none, some (.istore_n 3, 1, []), some (.iload_n 3, 1, []), some (.ifCond .gt (12), 3, []), none, none, some (.iload_n 2, 1, []), some (.bipush (8), 2, []), none, some (.irem, 1, []), some (.bipush (7), 2, []), none, some (.if_icmp .ne (7), 3, []), none, none, some (.iconst (1), 1, []), some (.goto (4), 3, []), none, none, some (.iconst (0), 1, []), some (.istore 4, 2, []), none, some (.iload_n 3, 1, []), some (.ifCond .le (7), 3, []), none, none, some (.iload_n 1, 1, []), some (.goto (6), 3, []), none, none, some (.iload_n 1, 1, []), some (.iconst (1), 1, []), some (.iadd, 1, []), some (.istore_n 1, 1, []), some (.iload 4, 2, []), none, some (.ifCond .eq (15), 3, []), none, none, some (.iload_n 1, 1, []), some (.ifCond .le (11), 3, []), none, none, some (.aload_n 0, 1, []), some (.bipush (48), 2, []), none, some (.iload_n 1, 1, []), some (.iadd, 1, []), some (.invokevirtual 207, 3, [174, 1074, 0]), none, none, some (.iload 4, 2, []), none, some (.ifCond .eq (7), 3, []), none, none, some (.iconst (0), 1, []), some (.goto (4), 3, []), none, none, some (.iload_n 1, 1, []), some (.istore_n 1, 1, []), some (.iload_n 3, 1, []), some (.ifCond .le (11), 3, []), none, none, some (.aload_n 0, 1, []), some (.iload_n 3, 1, []), some (.invokestatic 183, 3, [169, 1055, 0]), none, none, some (.invokevirtual 207, 3, [174, 1074, 0]), none, none, some (.iload_n 2, 1, []), some (.bipush (8), 2, []), none, some (.irem, 1, []), some (.bipush (7), 2, []), none, some (.if_icmp .ne (20), 3, []), none, none, some (.aload_n 0, 1, []), some (.iload_n 2, 1, []), some (.bipush (63), 2, []), none, some (.if_icmp .ge (8), 3, []), none, none, some (.bipush (47), 2, []), none, some (.goto (5), 3, []), none, none, some (.bipush (32), 2, []), none, some (.invokevirtual 207, 3, [174, 1074, 0]), none, none, some (.iinc 2 (1), 3, []), none, none, some (.goto (-131), 3, []), none, none, some (.aload_n 0, 1, []), some (.aload_n 0, 1, []), some (.getfield 13, 3, [7, 2, 788, 0]), none, none, some (.aload_n 0, 1, []), some (.getfield 120, 3, [7, 7, 793, 0]), none, none, some (.iaload, 1, []), some (.ifCond .ne (8), 3, []), none, none, some (.bipush (119), 2, []), none, some (.goto (5), 3, []), none, none, some (.bipush (98), 2, []), none, some (.invokevirtual 207, 3, [174, 1074, 0]), none, none, some (.aload_n 0, 1, []), some (.bipush (32), 2, []), none, some (.invokevirtual 207, 3, [174, 1074, 0]), none, none, some (.iconst (0), 1, []), some (.istore_n 2, 1, []), some (.iload_n 2, 1, []), some (.iconst (4), 1, []), some (.if_icmp .ge (61), 3, []), none, none, some (.aload_n 0, 1, []), some (.getfield 17, 3, [7, 3, 789, 0]), none, none, some (.aload_n 0, 1, []), some (.getfield 120, 3, [7, 7, 793, 0]), none, none, some (.iaload, 1, []), some (.iload_n 2, 1, []), some (.ishr, 1, []), some (.iconst (1), 1, []), some (.iand, 1, []), some (.iconst (1), 1, []), some (.if_icmp .ne (38), 3, []), none, none, some (.aload_n 0, 1, []), some (.iload_n 2, 1, []), some (.ifCond .ne (8), 3, []), none, none, some (.bipush (75), 2, []), none, some (.goto (25), 3, []), none, none, some (.iload_n 2, 1, []), some (.iconst (1), 1, []), some (.if_icmp .ne (8), 3, []), none, none, some (.bipush (81), 2, []), none, some (.goto (15), 3, []), none, none, some (.iload_n 2, 1, []), some (.iconst (2), 1, []), some (.if_icmp .ne (8), 3, []), none, none, some (.bipush (107), 2, []), none, some (.goto (5), 3, []), none, none, some (.bipush (113), 2, []), none, some (.invokevirtual 207, 3, [174, 1074, 0]), none, none, some (.iinc 2 (1), 3, []), none, none, some (.goto (-60), 3, []), none, none, some (.aload_n 0, 1, []), some (.getfield 17, 3, [7, 3, 789, 0]), none, none, some (.aload_n 0, 1, []), some (.getfield 120, 3, [7, 7, 793, 0]), none, none, some (.iaload, 1, []), some (.ifCond .ne (9), 3, []), none, none, some (.aload_n 0, 1, []), some (.bipush (45), 2, []), none, some (.invokevirtual 207, 3, [174, 1074, 0]), none, none, some (.aload_n 0, 1, []), some (.bipush (32), 2, []), none, some (.invokevirtual 207, 3, [174, 1074, 0]), none, none, some (.aload_n 0, 1, []), some (.getfield 20, 3, [7, 4, 790, 0]), none, none, some (.aload_n 0, 1, []), some (.getfield 120, 3, [7, 7, 793, 0]), none, none, some (.iaload, 1, []), some (.ifCond .ge (12), 3, []), none, none, some (.aload_n 0, 1, []), some (.bipush (45), 2, []), none, some (.invokevirtual 207, 3, [174, 1074, 0]), none, none, some (.goto (42), 3, []), none, none, some (.aload_n 0, 1, []), some (.bipush (97), 2, []), none, some (.aload_n 0, 1, []), some (.getfield 20, 3, [7, 4, 790, 0]), none, none, some (.aload_n 0, 1, []), some (.getfield 120, 3, [7, 7, 793, 0]), none, none, some (.iaload, 1, []), some (.iadd, 1, []), some (.invokevirtual 207, 3, [174, 1074, 0]), none, none, some (.aload_n 0, 1, []), some (.aload_n 0, 1, []), some (.getfield 13, 3, [7, 2, 788, 0]), none, none, some (.aload_n 0, 1, []), some (.getfield 120, 3, [7, 7, 793, 0]), none, none, some (.iaload, 1, []), some (.ifCond .ne (8), 3, []), none, none, some (.bipush (54), 2, []), none, some (.goto (5), 3, []), none, none, some (.bipush (51), 2, []), none, some (.invokevirtual 207, 3, [174, 1074, 0]), none, none, some (.aload_n 0, 1, []), some (.bipush (32), 2, []), none, some (.invokevirtual 207, 3, [174, 1074, 0]), none, none, some (.aload_n 0, 1, []), some (.getfield 23, 3, [7, 5, 791, 0]), none, none, some (.aload_n 0, 1, []), some (.getfield 120, 3, [7, 7, 793, 0]), none, none, some (.iaload, 1, []), some (.istore_n 2, 1, []), some (.iload_n 2, 1, []), some (.bipush (99), 2, []), none, some (.if_icmp .le (14), 3, []), none, none, some (.aload_n 0, 1, []), some (.bipush (48), 2, []), none, some (.iload_n 2, 1, []), some (.bipush (100), 2, []), none, some (.idiv, 1, []), some (.iadd, 1, []), some (.invokevirtual 207, 3, [174, 1074, 0]), none, none, some (.iload_n 2, 1, []), some (.bipush (9), 2, []), none, some (.if_icmp .le (17), 3, []), none, none, some (.aload_n 0, 1, []), some (.bipush (48), 2, []), none, some (.iload_n 2, 1, []), some (.bipush (10), 2, []), none, some (.idiv, 1, []), some (.bipush (10), 2, []), none, some (.irem, 1, []), some (.iadd, 1, []), some (.invokevirtual 207, 3, [174, 1074, 0]), none, none, some (.aload_n 0, 1, []), some (.bipush (48), 2, []), none, some (.iload_n 2, 1, []), some (.bipush (10), 2, []), none, some (.irem, 1, []), some (.iadd, 1, []), some (.invokevirtual 207, 3, [174, 1074, 0]), none, none, some (.aload_n 0, 1, []), some (.getfield 204, 3, [7, 14, 800, 0]), none, none, some (.ireturn, 1, [])], (2, 42, 1, 0), [])
set_option maxRecDepth 100000 in
theorem st_M_print : jokT2 M_M_print 0 (jt M_M_print) = true := by decide +kernel
set_option maxRecDepth 100000 in
theorem ok_M_print : jokM M_M_print := ⟨by decide +kernel, jwat_in (i := 1073) (by decide +kernel), jwat_in (i := 78) (by decide +kernel), ⟨by decide +kernel, by decide +kernel, by decide +kernel⟩, by rw [if_neg (by decide)]; exact ⟨jwat_in (i := 1071) (by decide +kernel), jwat_in (i := 1072) (by decide +kernel)⟩⟩
def M_M_say : jM := ((⟨"ChessLedgerModel", "say", "(I)V"⟩, prog_9_method_63_code, 2, none), [some (.aload_n 0, 1, []), some (.getfield 33, 3, [7, 13, 799, 0]), none, none, some (.aload_n 0, 1, []), some (.getfield 204, 3, [7, 14, 800, 0]), none, none, some (.iload_n 1, 1, []), some (.iastore, 1, []), some (.aload_n 0, 1, []), some (.dup, 1, []), some (.getfield 204, 3, [7, 14, 800, 0]), none, none, some (.iconst (1), 1, []), some (.iadd, 1, []), some (.putfield 204, 3, [7, 14, 800, 0]), none, none, some (.return_, 1, [])], (0, 0, 1, 1), [])
set_option maxRecDepth 100000 in
theorem st_M_say : jokT2 M_M_say 0 (jt M_M_say) = true := by decide +kernel
set_option maxRecDepth 100000 in
theorem ok_M_say : jokM M_M_say := ⟨by decide +kernel, jwat_in (i := 1077) (by decide +kernel), jwat_in (i := 78) (by decide +kernel), ⟨by decide +kernel, by decide +kernel, by decide +kernel⟩, by rw [if_neg (by decide)]; exact ⟨jwat_in (i := 1076) (by decide +kernel), jwat_in (i := 69) (by decide +kernel)⟩⟩
def M_M_character : jM := ((⟨"ChessLedgerModel", "character", "(I)I"⟩, prog_9_method_65_code, 2, (some .int)), [some (.aload_n 0, 1, []), some (.iconst (0), 1, []), some (.putfield 36, 3, [7, 0, 786, 0]), none, none, some (.iload_n 1, 1, []), some (.ifCond .lt (20), 3, []), none, none, some (.iload_n 1, 1, []), some (.aload_n 0, 1, []), some (.getfield 204, 3, [7, 14, 800, 0]), none, none, some (.if_icmp .ge (12), 3, []), none, none, some (.aload_n 0, 1, []), some (.getfield 33, 3, [7, 13, 799, 0]), none, none, some (.iload_n 1, 1, []), some (.iaload, 1, []), some (.goto (4), 3, []), none, none, some (.iconst (-1), 1, []), some (.ireturn, 1, [])], (0, 0, 1, 1), [])
set_option maxRecDepth 100000 in
theorem st_M_character : jokT2 M_M_character 0 (jt M_M_character) = true := by decide +kernel
set_option maxRecDepth 100000 in
theorem ok_M_character : jokM M_M_character := ⟨by decide +kernel, jwat_in (i := 1081) (by decide +kernel), jwat_in (i := 78) (by decide +kernel), ⟨by decide +kernel, by decide +kernel, by decide +kernel⟩, by rw [if_neg (by decide)]; exact ⟨jwat_in (i := 1079) (by decide +kernel), jwat_in (i := 1080) (by decide +kernel)⟩⟩
def M_M_check : jM := ((⟨"ChessLedgerModel", "check", "()I"⟩, prog_9_method_66_code, 1, (some .int)), [some (.aload_n 0, 1, []), some (.iconst (0), 1, []), some (.putfield 36, 3, [7, 0, 786, 0]), none, none, some (.aload_n 0, 1, []), some (.getfield 123, 3, [7, 8, 794, 0]), none, none, some (.ifCond .eq (7), 3, []), none, none, some (.iconst (1), 1, []), some (.goto (4), 3, []), none, none, some (.iconst (-1), 1, []), some (.ireturn, 1, [])], (0, 0, 1, 0), [])
set_option maxRecDepth 100000 in
theorem st_M_check : jokT2 M_M_check 0 (jt M_M_check) = true := by decide +kernel
set_option maxRecDepth 100000 in
theorem ok_M_check : jokM M_M_check := ⟨by decide +kernel, jwat_in (i := 1085) (by decide +kernel), jwat_in (i := 78) (by decide +kernel), ⟨by decide +kernel, by decide +kernel, by decide +kernel⟩, by rw [if_neg (by decide)]; exact ⟨jwat_in (i := 1083) (by decide +kernel), jwat_in (i := 1084) (by decide +kernel)⟩⟩
end
section
theorem jlg {E : jE} (args : List jV) : (lg_sl (args.map (tv E))).length = (args.map fun v => if v.1 = 1 then 2 else 1).sum := by
  induction args with
  | nil => rfl
  | cons v l ih =>
    have hc : (tv E v).category = if v.1 = 1 then 2 else 1 := by
      by_cases hv : v.1 = 1
      · rw [if_pos hv]
        have h2 := jcat (E := E) v
        rw [hv] at h2
        simpa using h2
      · rw [if_neg hv]
        exact jcat1 hv
    have e : lg_sl ((v :: l).map (tv E)) = (if (tv E v).category = 2 then [Slot.val (tv E v), Slot.second] else [Slot.val (tv E v)]) ++ lg_sl (l.map (tv E)) := rfl
    rw [e, List.length_append, ih, List.map_cons, List.sum_cons, hc]
    by_cases hv : v.1 = 1
    · rw [if_pos hv, if_pos rfl]; rfl
    · rw [if_neg hv, if_neg (by decide)]; rfl
theorem jxc_ok (x j : Nat) : ok32 ((jxc.getD x []).getD j 0) := by
  have h1 : ∀ l ∈ jxc, ∀ v ∈ l, -2147483648 ≤ v ∧ v < 2147483648 := by decide
  rw [List.getD_eq_getElem?_getD (l := jxc.getD x [])]
  cases hl : (jxc.getD x [])[j]? with
  | none => exact ok32_0
  | some v =>
    have hm := List.mem_of_getElem? hl
    rw [List.getD_eq_getElem?_getD] at hm
    cases hx : jxc[x]? with
    | none => rw [hx] at hm; cases hm
    | some l =>
      rw [hx] at hm
      exact h1 l (List.mem_of_getElem? hx) v hm
end
section
def f_Ja_fillI_lp5 (q : Nat) (x2 : Int) (x3 : Int) (k : Int → jH → Option (jH)) : Nat → Int → jH → Option (jH)
  | 0, _, _ => none
  | n + 1, l1, h4 => if x3 ≤ l1 then k l1 h4 else jgd (0 ≤ l1 ∧ l1 < 64) (f_Ja_fillI_lp5 q x2 x3 k n (jadd l1 1) (jup h4 q l1.toNat x2))
def f_Ja_fillI (q : Nat) (h : jH) (a1 : Int) : Option (jH) := f_Ja_fillI_lp5 q a1 64 (fun l5 h6 => some h6) 1000 0 h
set_option maxRecDepth 100000 in
set_option maxHeartbeats 4000000 in
theorem f_Ja_fillI_lp5_ok (E : jE) (q : Nat) (hr : q = 3 ∨ q = 21) {x2 : Int} {x3 : Int} {k : Int → jH → Option (jH)} (hk : ∀ (l1 : Int) (h4 : jH) (res : jH), k l1 h4 = some res → jG E M_Ja_fillI 20 [] [] h4 none res) : ∀ (n : Nat) (l1 : Int) (h4 : jH) (res : jH), f_Ja_fillI_lp5 q x2 x3 k n l1 h4 = some res → jG E M_Ja_fillI 5 [(0, (2, ((q : Nat) : Int))), (1, (0, x2)), (2, (0, l1)), (3, (0, x3))] [] h4 none res := by
  rcases hr with rfl | rfl
  · intro n
    induction n with
    | zero => intro l1 h4 res hv; cases hv
    | succ n ih =>
      intro l1 h4 res hv
      rw [f_Ja_fillI_lp5] at hv
      refine jG.blk (st_Ja_fillI) 2 (pc1 := 7) (L1 := [(0, (2, ((3 : Nat) : Int))), (1, (0, x2)), (2, (0, l1)), (3, (0, x3))]) (st1 := [(0, x3), (0, l1)]) (h1 := h4) rfl ?_
      refine jT.if2 (st_Ja_fillI) rfl (tgt := 20) (by decide) (fun hc => ?_) (fun hc => ?_)
      · have hc : x3 ≤ l1 := hc
        try rw [if_pos hc] at hv
        refine jG.subp [] (L1 := []) rfl ?_
        exact hk _ _ _ hv
      · have hc : ¬ (x3 ≤ l1) := hc
        try rw [if_neg hc] at hv
        refine jG.blk (st_Ja_fillI) 3 (pc1 := 13) (L1 := [(0, (2, ((3 : Nat) : Int))), (1, (0, x2)), (2, (0, l1)), (3, (0, x3))]) (st1 := [(0, x2), (0, l1), (2, ((3 : Nat) : Int))]) (h1 := h4) rfl ?_
        obtain ⟨hg, hv⟩ := jgd_some hv
        refine jT.iast (a := 3) (st_Ja_fillI) rfl rfl (by decide) hg.1 hg.2 ?_
        refine jG.blk (st_Ja_fillI) 1 (pc1 := 17) (L1 := [(2, (0, jadd l1 1)), (0, (2, ((3 : Nat) : Int))), (1, (0, x2)), (3, (0, x3))]) (st1 := []) (h1 := jup h4 3 l1.toNat x2) rfl ?_
        refine jT.goto (st_Ja_fillI) rfl (tgt := 5) (by decide) ?_
        refine jG.subp [1, 2, 0, 3] (L1 := [(0, (2, ((3 : Nat) : Int))), (1, (0, x2)), (2, (0, jadd l1 1)), (3, (0, x3))]) rfl ?_
        exact ih _ _ _ hv
  · intro n
    induction n with
    | zero => intro l1 h4 res hv; cases hv
    | succ n ih =>
      intro l1 h4 res hv
      rw [f_Ja_fillI_lp5] at hv
      refine jG.blk (st_Ja_fillI) 2 (pc1 := 7) (L1 := [(0, (2, ((21 : Nat) : Int))), (1, (0, x2)), (2, (0, l1)), (3, (0, x3))]) (st1 := [(0, x3), (0, l1)]) (h1 := h4) rfl ?_
      refine jT.if2 (st_Ja_fillI) rfl (tgt := 20) (by decide) (fun hc => ?_) (fun hc => ?_)
      · have hc : x3 ≤ l1 := hc
        try rw [if_pos hc] at hv
        refine jG.subp [] (L1 := []) rfl ?_
        exact hk _ _ _ hv
      · have hc : ¬ (x3 ≤ l1) := hc
        try rw [if_neg hc] at hv
        refine jG.blk (st_Ja_fillI) 3 (pc1 := 13) (L1 := [(0, (2, ((21 : Nat) : Int))), (1, (0, x2)), (2, (0, l1)), (3, (0, x3))]) (st1 := [(0, x2), (0, l1), (2, ((21 : Nat) : Int))]) (h1 := h4) rfl ?_
        obtain ⟨hg, hv⟩ := jgd_some hv
        refine jT.iast (a := 21) (st_Ja_fillI) rfl rfl (by decide) hg.1 hg.2 ?_
        refine jG.blk (st_Ja_fillI) 1 (pc1 := 17) (L1 := [(2, (0, jadd l1 1)), (0, (2, ((21 : Nat) : Int))), (1, (0, x2)), (3, (0, x3))]) (st1 := []) (h1 := jup h4 21 l1.toNat x2) rfl ?_
        refine jT.goto (st_Ja_fillI) rfl (tgt := 5) (by decide) ?_
        refine jG.subp [1, 2, 0, 3] (L1 := [(0, (2, ((21 : Nat) : Int))), (1, (0, x2)), (2, (0, jadd l1 1)), (3, (0, x3))]) rfl ?_
        exact ih _ _ _ hv
set_option maxRecDepth 100000 in
set_option maxHeartbeats 4000000 in
theorem C_Ja_fillI {E : jE} {q : Nat} (hr : q = 3 ∨ q = 21) {h : jH} {a1 : Int} {res : jH} (hv : f_Ja_fillI q h a1 = some res) : jC E M_Ja_fillI [(2, ((q : Nat) : Int)), (0, a1)] h none res := by
  rcases hr with rfl | rfl
  · refine jC.of ok_Ja_fillI.1 (by rw [jlg]; exact Nat.le_of_ble_eq_true rfl) ?_
    show jG E _ 0 [(0, (2, ((3 : Nat) : Int))), (1, (0, a1))] [] h _ _
    unfold f_Ja_fillI at hv
    refine jG.blk (st_Ja_fillI) 3 (pc1 := 3) (L1 := [(2, (0, 0)), (0, (2, ((3 : Nat) : Int))), (1, (0, a1))]) (st1 := [(2, ((3 : Nat) : Int))]) (h1 := h) rfl ?_
    refine jT.alen (a := 3) (st_Ja_fillI) rfl rfl (by decide) (by decide) ?_
    refine jG.blk (st_Ja_fillI) 1 (pc1 := 5) (L1 := [(3, (0, 64)), (2, (0, 0)), (0, (2, ((3 : Nat) : Int))), (1, (0, a1))]) (st1 := []) (h1 := h) rfl ?_
    refine jG.subp [2, 3, 1, 0] (L1 := [(0, (2, ((3 : Nat) : Int))), (1, (0, a1)), (2, (0, 0)), (3, (0, 64))]) rfl ?_
    refine f_Ja_fillI_lp5_ok E 3 (by decide) (fun l5 h6 res hv => ?_) 1000 _ _ _ hv
    · cases hv
      exact jT.vret (st_Ja_fillI) rfl trivial
  · refine jC.of ok_Ja_fillI.1 (by rw [jlg]; exact Nat.le_of_ble_eq_true rfl) ?_
    show jG E _ 0 [(0, (2, ((21 : Nat) : Int))), (1, (0, a1))] [] h _ _
    unfold f_Ja_fillI at hv
    refine jG.blk (st_Ja_fillI) 3 (pc1 := 3) (L1 := [(2, (0, 0)), (0, (2, ((21 : Nat) : Int))), (1, (0, a1))]) (st1 := [(2, ((21 : Nat) : Int))]) (h1 := h) rfl ?_
    refine jT.alen (a := 21) (st_Ja_fillI) rfl rfl (by decide) (by decide) ?_
    refine jG.blk (st_Ja_fillI) 1 (pc1 := 5) (L1 := [(3, (0, 64)), (2, (0, 0)), (0, (2, ((21 : Nat) : Int))), (1, (0, a1))]) (st1 := []) (h1 := h) rfl ?_
    refine jG.subp [2, 3, 1, 0] (L1 := [(0, (2, ((21 : Nat) : Int))), (1, (0, a1)), (2, (0, 0)), (3, (0, 64))]) rfl ?_
    refine f_Ja_fillI_lp5_ok E 21 (by decide) (fun l5 h6 res hv => ?_) 1000 _ _ _ hv
    · cases hv
      exact jT.vret (st_Ja_fillI) rfl trivial
def f_Ja_fillJ_lp6 (q : Nat) (x2 : Int) (x3 : Int) (k : Int → jH → Option (jH)) : Nat → Int → jH → Option (jH)
  | 0, _, _ => none
  | n + 1, l1, h4 => if x3 ≤ l1 then k l1 h4 else jgd (0 ≤ l1 ∧ l1 < 64) (f_Ja_fillJ_lp6 q x2 x3 k n (jadd l1 1) (jup h4 q l1.toNat x2))
def f_Ja_fillJ (q : Nat) (h : jH) (a1 : Int) : Option (jH) := f_Ja_fillJ_lp6 q a1 64 (fun l5 h6 => some h6) 1000 0 h
set_option maxRecDepth 100000 in
set_option maxHeartbeats 4000000 in
theorem f_Ja_fillJ_lp6_ok (E : jE) (q : Nat) (hr : q = 12 ∨ q = 13 ∨ q = 15 ∨ q = 16) {x2 : Int} {x3 : Int} {k : Int → jH → Option (jH)} (hk : ∀ (l1 : Int) (h4 : jH) (res : jH), k l1 h4 = some res → jG E M_Ja_fillJ 22 [] [] h4 none res) : ∀ (n : Nat) (l1 : Int) (h4 : jH) (res : jH), f_Ja_fillJ_lp6 q x2 x3 k n l1 h4 = some res → jG E M_Ja_fillJ 6 [(0, (2, ((q : Nat) : Int))), (1, (1, x2)), (3, (0, l1)), (4, (0, x3))] [] h4 none res := by
  rcases hr with rfl | rfl | rfl | rfl
  · intro n
    induction n with
    | zero => intro l1 h4 res hv; cases hv
    | succ n ih =>
      intro l1 h4 res hv
      rw [f_Ja_fillJ_lp6] at hv
      refine jG.blk (st_Ja_fillJ) 2 (pc1 := 9) (L1 := [(0, (2, ((12 : Nat) : Int))), (1, (1, x2)), (3, (0, l1)), (4, (0, x3))]) (st1 := [(0, x3), (0, l1)]) (h1 := h4) rfl ?_
      refine jT.if2 (st_Ja_fillJ) rfl (tgt := 22) (by decide) (fun hc => ?_) (fun hc => ?_)
      · have hc : x3 ≤ l1 := hc
        try rw [if_pos hc] at hv
        refine jG.subp [] (L1 := []) rfl ?_
        exact hk _ _ _ hv
      · have hc : ¬ (x3 ≤ l1) := hc
        try rw [if_neg hc] at hv
        refine jG.blk (st_Ja_fillJ) 3 (pc1 := 15) (L1 := [(0, (2, ((12 : Nat) : Int))), (1, (1, x2)), (3, (0, l1)), (4, (0, x3))]) (st1 := [(1, x2), (0, l1), (2, ((12 : Nat) : Int))]) (h1 := h4) rfl ?_
        obtain ⟨hg, hv⟩ := jgd_some hv
        refine jT.last (a := 12) (st_Ja_fillJ) rfl rfl (by decide) hg.1 hg.2 ?_
        refine jG.blk (st_Ja_fillJ) 1 (pc1 := 19) (L1 := [(3, (0, jadd l1 1)), (0, (2, ((12 : Nat) : Int))), (1, (1, x2)), (4, (0, x3))]) (st1 := []) (h1 := jup h4 12 l1.toNat x2) rfl ?_
        refine jT.goto (st_Ja_fillJ) rfl (tgt := 6) (by decide) ?_
        refine jG.subp [1, 2, 0, 3] (L1 := [(0, (2, ((12 : Nat) : Int))), (1, (1, x2)), (3, (0, jadd l1 1)), (4, (0, x3))]) rfl ?_
        exact ih _ _ _ hv
  · intro n
    induction n with
    | zero => intro l1 h4 res hv; cases hv
    | succ n ih =>
      intro l1 h4 res hv
      rw [f_Ja_fillJ_lp6] at hv
      refine jG.blk (st_Ja_fillJ) 2 (pc1 := 9) (L1 := [(0, (2, ((13 : Nat) : Int))), (1, (1, x2)), (3, (0, l1)), (4, (0, x3))]) (st1 := [(0, x3), (0, l1)]) (h1 := h4) rfl ?_
      refine jT.if2 (st_Ja_fillJ) rfl (tgt := 22) (by decide) (fun hc => ?_) (fun hc => ?_)
      · have hc : x3 ≤ l1 := hc
        try rw [if_pos hc] at hv
        refine jG.subp [] (L1 := []) rfl ?_
        exact hk _ _ _ hv
      · have hc : ¬ (x3 ≤ l1) := hc
        try rw [if_neg hc] at hv
        refine jG.blk (st_Ja_fillJ) 3 (pc1 := 15) (L1 := [(0, (2, ((13 : Nat) : Int))), (1, (1, x2)), (3, (0, l1)), (4, (0, x3))]) (st1 := [(1, x2), (0, l1), (2, ((13 : Nat) : Int))]) (h1 := h4) rfl ?_
        obtain ⟨hg, hv⟩ := jgd_some hv
        refine jT.last (a := 13) (st_Ja_fillJ) rfl rfl (by decide) hg.1 hg.2 ?_
        refine jG.blk (st_Ja_fillJ) 1 (pc1 := 19) (L1 := [(3, (0, jadd l1 1)), (0, (2, ((13 : Nat) : Int))), (1, (1, x2)), (4, (0, x3))]) (st1 := []) (h1 := jup h4 13 l1.toNat x2) rfl ?_
        refine jT.goto (st_Ja_fillJ) rfl (tgt := 6) (by decide) ?_
        refine jG.subp [1, 2, 0, 3] (L1 := [(0, (2, ((13 : Nat) : Int))), (1, (1, x2)), (3, (0, jadd l1 1)), (4, (0, x3))]) rfl ?_
        exact ih _ _ _ hv
  · intro n
    induction n with
    | zero => intro l1 h4 res hv; cases hv
    | succ n ih =>
      intro l1 h4 res hv
      rw [f_Ja_fillJ_lp6] at hv
      refine jG.blk (st_Ja_fillJ) 2 (pc1 := 9) (L1 := [(0, (2, ((15 : Nat) : Int))), (1, (1, x2)), (3, (0, l1)), (4, (0, x3))]) (st1 := [(0, x3), (0, l1)]) (h1 := h4) rfl ?_
      refine jT.if2 (st_Ja_fillJ) rfl (tgt := 22) (by decide) (fun hc => ?_) (fun hc => ?_)
      · have hc : x3 ≤ l1 := hc
        try rw [if_pos hc] at hv
        refine jG.subp [] (L1 := []) rfl ?_
        exact hk _ _ _ hv
      · have hc : ¬ (x3 ≤ l1) := hc
        try rw [if_neg hc] at hv
        refine jG.blk (st_Ja_fillJ) 3 (pc1 := 15) (L1 := [(0, (2, ((15 : Nat) : Int))), (1, (1, x2)), (3, (0, l1)), (4, (0, x3))]) (st1 := [(1, x2), (0, l1), (2, ((15 : Nat) : Int))]) (h1 := h4) rfl ?_
        obtain ⟨hg, hv⟩ := jgd_some hv
        refine jT.last (a := 15) (st_Ja_fillJ) rfl rfl (by decide) hg.1 hg.2 ?_
        refine jG.blk (st_Ja_fillJ) 1 (pc1 := 19) (L1 := [(3, (0, jadd l1 1)), (0, (2, ((15 : Nat) : Int))), (1, (1, x2)), (4, (0, x3))]) (st1 := []) (h1 := jup h4 15 l1.toNat x2) rfl ?_
        refine jT.goto (st_Ja_fillJ) rfl (tgt := 6) (by decide) ?_
        refine jG.subp [1, 2, 0, 3] (L1 := [(0, (2, ((15 : Nat) : Int))), (1, (1, x2)), (3, (0, jadd l1 1)), (4, (0, x3))]) rfl ?_
        exact ih _ _ _ hv
  · intro n
    induction n with
    | zero => intro l1 h4 res hv; cases hv
    | succ n ih =>
      intro l1 h4 res hv
      rw [f_Ja_fillJ_lp6] at hv
      refine jG.blk (st_Ja_fillJ) 2 (pc1 := 9) (L1 := [(0, (2, ((16 : Nat) : Int))), (1, (1, x2)), (3, (0, l1)), (4, (0, x3))]) (st1 := [(0, x3), (0, l1)]) (h1 := h4) rfl ?_
      refine jT.if2 (st_Ja_fillJ) rfl (tgt := 22) (by decide) (fun hc => ?_) (fun hc => ?_)
      · have hc : x3 ≤ l1 := hc
        try rw [if_pos hc] at hv
        refine jG.subp [] (L1 := []) rfl ?_
        exact hk _ _ _ hv
      · have hc : ¬ (x3 ≤ l1) := hc
        try rw [if_neg hc] at hv
        refine jG.blk (st_Ja_fillJ) 3 (pc1 := 15) (L1 := [(0, (2, ((16 : Nat) : Int))), (1, (1, x2)), (3, (0, l1)), (4, (0, x3))]) (st1 := [(1, x2), (0, l1), (2, ((16 : Nat) : Int))]) (h1 := h4) rfl ?_
        obtain ⟨hg, hv⟩ := jgd_some hv
        refine jT.last (a := 16) (st_Ja_fillJ) rfl rfl (by decide) hg.1 hg.2 ?_
        refine jG.blk (st_Ja_fillJ) 1 (pc1 := 19) (L1 := [(3, (0, jadd l1 1)), (0, (2, ((16 : Nat) : Int))), (1, (1, x2)), (4, (0, x3))]) (st1 := []) (h1 := jup h4 16 l1.toNat x2) rfl ?_
        refine jT.goto (st_Ja_fillJ) rfl (tgt := 6) (by decide) ?_
        refine jG.subp [1, 2, 0, 3] (L1 := [(0, (2, ((16 : Nat) : Int))), (1, (1, x2)), (3, (0, jadd l1 1)), (4, (0, x3))]) rfl ?_
        exact ih _ _ _ hv
set_option maxRecDepth 100000 in
set_option maxHeartbeats 4000000 in
theorem C_Ja_fillJ {E : jE} {q : Nat} (hr : q = 12 ∨ q = 13 ∨ q = 15 ∨ q = 16) {h : jH} {a1 : Int} {res : jH} (hv : f_Ja_fillJ q h a1 = some res) : jC E M_Ja_fillJ [(2, ((q : Nat) : Int)), (1, a1)] h none res := by
  rcases hr with rfl | rfl | rfl | rfl
  · refine jC.of ok_Ja_fillJ.1 (by rw [jlg]; exact Nat.le_of_ble_eq_true rfl) ?_
    show jG E _ 0 [(0, (2, ((12 : Nat) : Int))), (1, (1, a1))] [] h _ _
    unfold f_Ja_fillJ at hv
    refine jG.blk (st_Ja_fillJ) 3 (pc1 := 3) (L1 := [(3, (0, 0)), (0, (2, ((12 : Nat) : Int))), (1, (1, a1))]) (st1 := [(2, ((12 : Nat) : Int))]) (h1 := h) rfl ?_
    refine jT.alen (a := 12) (st_Ja_fillJ) rfl rfl (by decide) (by decide) ?_
    refine jG.blk (st_Ja_fillJ) 1 (pc1 := 6) (L1 := [(4, (0, 64)), (3, (0, 0)), (0, (2, ((12 : Nat) : Int))), (1, (1, a1))]) (st1 := []) (h1 := h) rfl ?_
    refine jG.subp [2, 3, 1, 0] (L1 := [(0, (2, ((12 : Nat) : Int))), (1, (1, a1)), (3, (0, 0)), (4, (0, 64))]) rfl ?_
    refine f_Ja_fillJ_lp6_ok E 12 (by decide) (fun l5 h6 res hv => ?_) 1000 _ _ _ hv
    · cases hv
      exact jT.vret (st_Ja_fillJ) rfl trivial
  · refine jC.of ok_Ja_fillJ.1 (by rw [jlg]; exact Nat.le_of_ble_eq_true rfl) ?_
    show jG E _ 0 [(0, (2, ((13 : Nat) : Int))), (1, (1, a1))] [] h _ _
    unfold f_Ja_fillJ at hv
    refine jG.blk (st_Ja_fillJ) 3 (pc1 := 3) (L1 := [(3, (0, 0)), (0, (2, ((13 : Nat) : Int))), (1, (1, a1))]) (st1 := [(2, ((13 : Nat) : Int))]) (h1 := h) rfl ?_
    refine jT.alen (a := 13) (st_Ja_fillJ) rfl rfl (by decide) (by decide) ?_
    refine jG.blk (st_Ja_fillJ) 1 (pc1 := 6) (L1 := [(4, (0, 64)), (3, (0, 0)), (0, (2, ((13 : Nat) : Int))), (1, (1, a1))]) (st1 := []) (h1 := h) rfl ?_
    refine jG.subp [2, 3, 1, 0] (L1 := [(0, (2, ((13 : Nat) : Int))), (1, (1, a1)), (3, (0, 0)), (4, (0, 64))]) rfl ?_
    refine f_Ja_fillJ_lp6_ok E 13 (by decide) (fun l5 h6 res hv => ?_) 1000 _ _ _ hv
    · cases hv
      exact jT.vret (st_Ja_fillJ) rfl trivial
  · refine jC.of ok_Ja_fillJ.1 (by rw [jlg]; exact Nat.le_of_ble_eq_true rfl) ?_
    show jG E _ 0 [(0, (2, ((15 : Nat) : Int))), (1, (1, a1))] [] h _ _
    unfold f_Ja_fillJ at hv
    refine jG.blk (st_Ja_fillJ) 3 (pc1 := 3) (L1 := [(3, (0, 0)), (0, (2, ((15 : Nat) : Int))), (1, (1, a1))]) (st1 := [(2, ((15 : Nat) : Int))]) (h1 := h) rfl ?_
    refine jT.alen (a := 15) (st_Ja_fillJ) rfl rfl (by decide) (by decide) ?_
    refine jG.blk (st_Ja_fillJ) 1 (pc1 := 6) (L1 := [(4, (0, 64)), (3, (0, 0)), (0, (2, ((15 : Nat) : Int))), (1, (1, a1))]) (st1 := []) (h1 := h) rfl ?_
    refine jG.subp [2, 3, 1, 0] (L1 := [(0, (2, ((15 : Nat) : Int))), (1, (1, a1)), (3, (0, 0)), (4, (0, 64))]) rfl ?_
    refine f_Ja_fillJ_lp6_ok E 15 (by decide) (fun l5 h6 res hv => ?_) 1000 _ _ _ hv
    · cases hv
      exact jT.vret (st_Ja_fillJ) rfl trivial
  · refine jC.of ok_Ja_fillJ.1 (by rw [jlg]; exact Nat.le_of_ble_eq_true rfl) ?_
    show jG E _ 0 [(0, (2, ((16 : Nat) : Int))), (1, (1, a1))] [] h _ _
    unfold f_Ja_fillJ at hv
    refine jG.blk (st_Ja_fillJ) 3 (pc1 := 3) (L1 := [(3, (0, 0)), (0, (2, ((16 : Nat) : Int))), (1, (1, a1))]) (st1 := [(2, ((16 : Nat) : Int))]) (h1 := h) rfl ?_
    refine jT.alen (a := 16) (st_Ja_fillJ) rfl rfl (by decide) (by decide) ?_
    refine jG.blk (st_Ja_fillJ) 1 (pc1 := 6) (L1 := [(4, (0, 64)), (3, (0, 0)), (0, (2, ((16 : Nat) : Int))), (1, (1, a1))]) (st1 := []) (h1 := h) rfl ?_
    refine jG.subp [2, 3, 1, 0] (L1 := [(0, (2, ((16 : Nat) : Int))), (1, (1, a1)), (3, (0, 0)), (4, (0, 64))]) rfl ?_
    refine f_Ja_fillJ_lp6_ok E 16 (by decide) (fun l5 h6 res hv => ?_) 1000 _ _ _ hv
    · cases hv
      exact jT.vret (st_Ja_fillJ) rfl trivial
def f_Jl_bitCount (h : jH) (a0 : Int) : Option (Int) := some (jand (jl2i (jladd (jladd (jladd (jland (jladd (jladd (jland (jlsub a0 (jland (jlushr a0 1) 6148914691236517205)) 3689348814741910323) (jland (jlushr (jlsub a0 (jland (jlushr a0 1) 6148914691236517205)) 2) 3689348814741910323)) (jlushr (jladd (jland (jlsub a0 (jland (jlushr a0 1) 6148914691236517205)) 3689348814741910323) (jland (jlushr (jlsub a0 (jland (jlushr a0 1) 6148914691236517205)) 2) 3689348814741910323)) 4)) 1085102592571150095) (jlushr (jland (jladd (jladd (jland (jlsub a0 (jland (jlushr a0 1) 6148914691236517205)) 3689348814741910323) (jland (jlushr (jlsub a0 (jland (jlushr a0 1) 6148914691236517205)) 2) 3689348814741910323)) (jlushr (jladd (jland (jlsub a0 (jland (jlushr a0 1) 6148914691236517205)) 3689348814741910323) (jland (jlushr (jlsub a0 (jland (jlushr a0 1) 6148914691236517205)) 2) 3689348814741910323)) 4)) 1085102592571150095) 8)) (jlushr (jladd (jland (jladd (jladd (jland (jlsub a0 (jland (jlushr a0 1) 6148914691236517205)) 3689348814741910323) (jland (jlushr (jlsub a0 (jland (jlushr a0 1) 6148914691236517205)) 2) 3689348814741910323)) (jlushr (jladd (jland (jlsub a0 (jland (jlushr a0 1) 6148914691236517205)) 3689348814741910323) (jland (jlushr (jlsub a0 (jland (jlushr a0 1) 6148914691236517205)) 2) 3689348814741910323)) 4)) 1085102592571150095) (jlushr (jland (jladd (jladd (jland (jlsub a0 (jland (jlushr a0 1) 6148914691236517205)) 3689348814741910323) (jland (jlushr (jlsub a0 (jland (jlushr a0 1) 6148914691236517205)) 2) 3689348814741910323)) (jlushr (jladd (jland (jlsub a0 (jland (jlushr a0 1) 6148914691236517205)) 3689348814741910323) (jland (jlushr (jlsub a0 (jland (jlushr a0 1) 6148914691236517205)) 2) 3689348814741910323)) 4)) 1085102592571150095) 8)) 16)) (jlushr (jladd (jladd (jland (jladd (jladd (jland (jlsub a0 (jland (jlushr a0 1) 6148914691236517205)) 3689348814741910323) (jland (jlushr (jlsub a0 (jland (jlushr a0 1) 6148914691236517205)) 2) 3689348814741910323)) (jlushr (jladd (jland (jlsub a0 (jland (jlushr a0 1) 6148914691236517205)) 3689348814741910323) (jland (jlushr (jlsub a0 (jland (jlushr a0 1) 6148914691236517205)) 2) 3689348814741910323)) 4)) 1085102592571150095) (jlushr (jland (jladd (jladd (jland (jlsub a0 (jland (jlushr a0 1) 6148914691236517205)) 3689348814741910323) (jland (jlushr (jlsub a0 (jland (jlushr a0 1) 6148914691236517205)) 2) 3689348814741910323)) (jlushr (jladd (jland (jlsub a0 (jland (jlushr a0 1) 6148914691236517205)) 3689348814741910323) (jland (jlushr (jlsub a0 (jland (jlushr a0 1) 6148914691236517205)) 2) 3689348814741910323)) 4)) 1085102592571150095) 8)) (jlushr (jladd (jland (jladd (jladd (jland (jlsub a0 (jland (jlushr a0 1) 6148914691236517205)) 3689348814741910323) (jland (jlushr (jlsub a0 (jland (jlushr a0 1) 6148914691236517205)) 2) 3689348814741910323)) (jlushr (jladd (jland (jlsub a0 (jland (jlushr a0 1) 6148914691236517205)) 3689348814741910323) (jland (jlushr (jlsub a0 (jland (jlushr a0 1) 6148914691236517205)) 2) 3689348814741910323)) 4)) 1085102592571150095) (jlushr (jland (jladd (jladd (jland (jlsub a0 (jland (jlushr a0 1) 6148914691236517205)) 3689348814741910323) (jland (jlushr (jlsub a0 (jland (jlushr a0 1) 6148914691236517205)) 2) 3689348814741910323)) (jlushr (jladd (jland (jlsub a0 (jland (jlushr a0 1) 6148914691236517205)) 3689348814741910323) (jland (jlushr (jlsub a0 (jland (jlushr a0 1) 6148914691236517205)) 2) 3689348814741910323)) 4)) 1085102592571150095) 8)) 16)) 32))) 127)
set_option maxRecDepth 100000 in
set_option maxHeartbeats 4000000 in
theorem C_Jl_bitCount {E : jE} {h : jH} {a0 : Int} {res : Int} (hv : f_Jl_bitCount h a0 = some res) : jC E M_Jl_bitCount [(1, a0)] h (some (0, res)) h := by
  refine jC.of ok_Jl_bitCount.1 (by rw [jlg]; exact Nat.le_of_ble_eq_true rfl) ?_
  show jG E _ 0 [(0, (1, a0))] [] h _ _
  unfold f_Jl_bitCount at hv
  refine jG.blk (st_Jl_bitCount) 48 (pc1 := 60) (L1 := [(0, (1, jladd (jladd (jladd (jland (jladd (jladd (jland (jlsub a0 (jland (jlushr a0 1) 6148914691236517205)) 3689348814741910323) (jland (jlushr (jlsub a0 (jland (jlushr a0 1) 6148914691236517205)) 2) 3689348814741910323)) (jlushr (jladd (jland (jlsub a0 (jland (jlushr a0 1) 6148914691236517205)) 3689348814741910323) (jland (jlushr (jlsub a0 (jland (jlushr a0 1) 6148914691236517205)) 2) 3689348814741910323)) 4)) 1085102592571150095) (jlushr (jland (jladd (jladd (jland (jlsub a0 (jland (jlushr a0 1) 6148914691236517205)) 3689348814741910323) (jland (jlushr (jlsub a0 (jland (jlushr a0 1) 6148914691236517205)) 2) 3689348814741910323)) (jlushr (jladd (jland (jlsub a0 (jland (jlushr a0 1) 6148914691236517205)) 3689348814741910323) (jland (jlushr (jlsub a0 (jland (jlushr a0 1) 6148914691236517205)) 2) 3689348814741910323)) 4)) 1085102592571150095) 8)) (jlushr (jladd (jland (jladd (jladd (jland (jlsub a0 (jland (jlushr a0 1) 6148914691236517205)) 3689348814741910323) (jland (jlushr (jlsub a0 (jland (jlushr a0 1) 6148914691236517205)) 2) 3689348814741910323)) (jlushr (jladd (jland (jlsub a0 (jland (jlushr a0 1) 6148914691236517205)) 3689348814741910323) (jland (jlushr (jlsub a0 (jland (jlushr a0 1) 6148914691236517205)) 2) 3689348814741910323)) 4)) 1085102592571150095) (jlushr (jland (jladd (jladd (jland (jlsub a0 (jland (jlushr a0 1) 6148914691236517205)) 3689348814741910323) (jland (jlushr (jlsub a0 (jland (jlushr a0 1) 6148914691236517205)) 2) 3689348814741910323)) (jlushr (jladd (jland (jlsub a0 (jland (jlushr a0 1) 6148914691236517205)) 3689348814741910323) (jland (jlushr (jlsub a0 (jland (jlushr a0 1) 6148914691236517205)) 2) 3689348814741910323)) 4)) 1085102592571150095) 8)) 16)) (jlushr (jladd (jladd (jland (jladd (jladd (jland (jlsub a0 (jland (jlushr a0 1) 6148914691236517205)) 3689348814741910323) (jland (jlushr (jlsub a0 (jland (jlushr a0 1) 6148914691236517205)) 2) 3689348814741910323)) (jlushr (jladd (jland (jlsub a0 (jland (jlushr a0 1) 6148914691236517205)) 3689348814741910323) (jland (jlushr (jlsub a0 (jland (jlushr a0 1) 6148914691236517205)) 2) 3689348814741910323)) 4)) 1085102592571150095) (jlushr (jland (jladd (jladd (jland (jlsub a0 (jland (jlushr a0 1) 6148914691236517205)) 3689348814741910323) (jland (jlushr (jlsub a0 (jland (jlushr a0 1) 6148914691236517205)) 2) 3689348814741910323)) (jlushr (jladd (jland (jlsub a0 (jland (jlushr a0 1) 6148914691236517205)) 3689348814741910323) (jland (jlushr (jlsub a0 (jland (jlushr a0 1) 6148914691236517205)) 2) 3689348814741910323)) 4)) 1085102592571150095) 8)) (jlushr (jladd (jland (jladd (jladd (jland (jlsub a0 (jland (jlushr a0 1) 6148914691236517205)) 3689348814741910323) (jland (jlushr (jlsub a0 (jland (jlushr a0 1) 6148914691236517205)) 2) 3689348814741910323)) (jlushr (jladd (jland (jlsub a0 (jland (jlushr a0 1) 6148914691236517205)) 3689348814741910323) (jland (jlushr (jlsub a0 (jland (jlushr a0 1) 6148914691236517205)) 2) 3689348814741910323)) 4)) 1085102592571150095) (jlushr (jland (jladd (jladd (jland (jlsub a0 (jland (jlushr a0 1) 6148914691236517205)) 3689348814741910323) (jland (jlushr (jlsub a0 (jland (jlushr a0 1) 6148914691236517205)) 2) 3689348814741910323)) (jlushr (jladd (jland (jlsub a0 (jland (jlushr a0 1) 6148914691236517205)) 3689348814741910323) (jland (jlushr (jlsub a0 (jland (jlushr a0 1) 6148914691236517205)) 2) 3689348814741910323)) 4)) 1085102592571150095) 8)) 16)) 32)))]) (st1 := [(0, jand (jl2i (jladd (jladd (jladd (jland (jladd (jladd (jland (jlsub a0 (jland (jlushr a0 1) 6148914691236517205)) 3689348814741910323) (jland (jlushr (jlsub a0 (jland (jlushr a0 1) 6148914691236517205)) 2) 3689348814741910323)) (jlushr (jladd (jland (jlsub a0 (jland (jlushr a0 1) 6148914691236517205)) 3689348814741910323) (jland (jlushr (jlsub a0 (jland (jlushr a0 1) 6148914691236517205)) 2) 3689348814741910323)) 4)) 1085102592571150095) (jlushr (jland (jladd (jladd (jland (jlsub a0 (jland (jlushr a0 1) 6148914691236517205)) 3689348814741910323) (jland (jlushr (jlsub a0 (jland (jlushr a0 1) 6148914691236517205)) 2) 3689348814741910323)) (jlushr (jladd (jland (jlsub a0 (jland (jlushr a0 1) 6148914691236517205)) 3689348814741910323) (jland (jlushr (jlsub a0 (jland (jlushr a0 1) 6148914691236517205)) 2) 3689348814741910323)) 4)) 1085102592571150095) 8)) (jlushr (jladd (jland (jladd (jladd (jland (jlsub a0 (jland (jlushr a0 1) 6148914691236517205)) 3689348814741910323) (jland (jlushr (jlsub a0 (jland (jlushr a0 1) 6148914691236517205)) 2) 3689348814741910323)) (jlushr (jladd (jland (jlsub a0 (jland (jlushr a0 1) 6148914691236517205)) 3689348814741910323) (jland (jlushr (jlsub a0 (jland (jlushr a0 1) 6148914691236517205)) 2) 3689348814741910323)) 4)) 1085102592571150095) (jlushr (jland (jladd (jladd (jland (jlsub a0 (jland (jlushr a0 1) 6148914691236517205)) 3689348814741910323) (jland (jlushr (jlsub a0 (jland (jlushr a0 1) 6148914691236517205)) 2) 3689348814741910323)) (jlushr (jladd (jland (jlsub a0 (jland (jlushr a0 1) 6148914691236517205)) 3689348814741910323) (jland (jlushr (jlsub a0 (jland (jlushr a0 1) 6148914691236517205)) 2) 3689348814741910323)) 4)) 1085102592571150095) 8)) 16)) (jlushr (jladd (jladd (jland (jladd (jladd (jland (jlsub a0 (jland (jlushr a0 1) 6148914691236517205)) 3689348814741910323) (jland (jlushr (jlsub a0 (jland (jlushr a0 1) 6148914691236517205)) 2) 3689348814741910323)) (jlushr (jladd (jland (jlsub a0 (jland (jlushr a0 1) 6148914691236517205)) 3689348814741910323) (jland (jlushr (jlsub a0 (jland (jlushr a0 1) 6148914691236517205)) 2) 3689348814741910323)) 4)) 1085102592571150095) (jlushr (jland (jladd (jladd (jland (jlsub a0 (jland (jlushr a0 1) 6148914691236517205)) 3689348814741910323) (jland (jlushr (jlsub a0 (jland (jlushr a0 1) 6148914691236517205)) 2) 3689348814741910323)) (jlushr (jladd (jland (jlsub a0 (jland (jlushr a0 1) 6148914691236517205)) 3689348814741910323) (jland (jlushr (jlsub a0 (jland (jlushr a0 1) 6148914691236517205)) 2) 3689348814741910323)) 4)) 1085102592571150095) 8)) (jlushr (jladd (jland (jladd (jladd (jland (jlsub a0 (jland (jlushr a0 1) 6148914691236517205)) 3689348814741910323) (jland (jlushr (jlsub a0 (jland (jlushr a0 1) 6148914691236517205)) 2) 3689348814741910323)) (jlushr (jladd (jland (jlsub a0 (jland (jlushr a0 1) 6148914691236517205)) 3689348814741910323) (jland (jlushr (jlsub a0 (jland (jlushr a0 1) 6148914691236517205)) 2) 3689348814741910323)) 4)) 1085102592571150095) (jlushr (jland (jladd (jladd (jland (jlsub a0 (jland (jlushr a0 1) 6148914691236517205)) 3689348814741910323) (jland (jlushr (jlsub a0 (jland (jlushr a0 1) 6148914691236517205)) 2) 3689348814741910323)) (jlushr (jladd (jland (jlsub a0 (jland (jlushr a0 1) 6148914691236517205)) 3689348814741910323) (jland (jlushr (jlsub a0 (jland (jlushr a0 1) 6148914691236517205)) 2) 3689348814741910323)) 4)) 1085102592571150095) 8)) 16)) 32))) 127)]) (h1 := h) rfl ?_
  cases hv
  exact jT.iret (st_Jl_bitCount) rfl trivial
def f_Ji_numberOfTrailingZeros_j62 (h : jH) (l5 : Int) (l6 : Int) : Option (Int) := some (if l5 ≤ 4 then jadd l6 (jushr l5 1) else jadd (jadd l6 2) (jushr (jushr l5 2) 1))
def f_Ji_numberOfTrailingZeros_j49 (h : jH) (l3 : Int) (l4 : Int) : Option (Int) := if l3 ≤ 16 then f_Ji_numberOfTrailingZeros_j62 h l3 l4 else f_Ji_numberOfTrailingZeros_j62 h (jushr l3 4) (jadd l4 4)
def f_Ji_numberOfTrailingZeros_j34 (h : jH) (l1 : Int) (l2 : Int) : Option (Int) := if l1 ≤ 256 then f_Ji_numberOfTrailingZeros_j49 h l1 l2 else f_Ji_numberOfTrailingZeros_j49 h (jushr l1 8) (jadd l2 8)
def f_Ji_numberOfTrailingZeros (h : jH) (a0 : Int) : Option (Int) := if 0 < jand (jxor a0 (-1)) (jsub a0 1) then if jand (jxor a0 (-1)) (jsub a0 1) ≤ 65536 then f_Ji_numberOfTrailingZeros_j34 h (jand (jxor a0 (-1)) (jsub a0 1)) 1 else f_Ji_numberOfTrailingZeros_j34 h (jushr (jand (jxor a0 (-1)) (jsub a0 1)) 16) (jadd 1 16) else some (jand (jand (jxor a0 (-1)) (jsub a0 1)) 32)
set_option maxRecDepth 100000 in
set_option maxHeartbeats 4000000 in
theorem f_Ji_numberOfTrailingZeros_j62_ok (E : jE) {h : jH} {l5 : Int} {l6 : Int} {res : Int} (hv : f_Ji_numberOfTrailingZeros_j62 h l5 l6 = some res) : jG E M_Ji_numberOfTrailingZeros 62 [(0, (0, l5)), (1, (0, l6))] [] h (some (0, res)) h := by
  unfold f_Ji_numberOfTrailingZeros_j62 at hv
  refine jG.blk (st_Ji_numberOfTrailingZeros) 2 (pc1 := 64) (L1 := [(0, (0, l5)), (1, (0, l6))]) (st1 := [(0, 4), (0, l5)]) (h1 := h) rfl ?_
  refine jT.if2 (st_Ji_numberOfTrailingZeros) rfl (tgt := 74) (by decide) (fun hc => ?_) (fun hc => ?_)
  · have hc : l5 ≤ 4 := hc
    try rw [if_pos hc] at hv
    refine jG.blk (st_Ji_numberOfTrailingZeros) 5 (pc1 := 79) (L1 := [(0, (0, l5)), (1, (0, l6))]) (st1 := [(0, jadd l6 (jushr l5 1))]) (h1 := h) rfl ?_
    cases hv
    exact jT.iret (st_Ji_numberOfTrailingZeros) rfl trivial
  · have hc : ¬ (l5 ≤ 4) := hc
    try rw [if_neg hc] at hv
    refine jG.blk (st_Ji_numberOfTrailingZeros) 10 (pc1 := 79) (L1 := [(0, (0, jushr l5 2)), (1, (0, jadd l6 2))]) (st1 := [(0, jadd (jadd l6 2) (jushr (jushr l5 2) 1))]) (h1 := h) rfl ?_
    cases hv
    exact jT.iret (st_Ji_numberOfTrailingZeros) rfl trivial
set_option maxRecDepth 100000 in
set_option maxHeartbeats 4000000 in
theorem f_Ji_numberOfTrailingZeros_j49_ok (E : jE) {h : jH} {l3 : Int} {l4 : Int} {res : Int} (hv : f_Ji_numberOfTrailingZeros_j49 h l3 l4 = some res) : jG E M_Ji_numberOfTrailingZeros 49 [(0, (0, l3)), (1, (0, l4))] [] h (some (0, res)) h := by
  unfold f_Ji_numberOfTrailingZeros_j49 at hv
  refine jG.blk (st_Ji_numberOfTrailingZeros) 2 (pc1 := 52) (L1 := [(0, (0, l3)), (1, (0, l4))]) (st1 := [(0, 16), (0, l3)]) (h1 := h) rfl ?_
  refine jT.if2 (st_Ji_numberOfTrailingZeros) rfl (tgt := 62) (by decide) (fun hc => ?_) (fun hc => ?_)
  · have hc : l3 ≤ 16 := hc
    try rw [if_pos hc] at hv
    exact f_Ji_numberOfTrailingZeros_j62_ok E hv
  · have hc : ¬ (l3 ≤ 16) := hc
    try rw [if_neg hc] at hv
    refine jG.blk (st_Ji_numberOfTrailingZeros) 5 (pc1 := 62) (L1 := [(0, (0, jushr l3 4)), (1, (0, jadd l4 4))]) (st1 := []) (h1 := h) rfl ?_
    exact f_Ji_numberOfTrailingZeros_j62_ok E hv
set_option maxRecDepth 100000 in
set_option maxHeartbeats 4000000 in
theorem f_Ji_numberOfTrailingZeros_j34_ok (E : jE) {h : jH} {l1 : Int} {l2 : Int} {res : Int} (hv : f_Ji_numberOfTrailingZeros_j34 h l1 l2 = some res) : jG E M_Ji_numberOfTrailingZeros 34 [(0, (0, l1)), (1, (0, l2))] [] h (some (0, res)) h := by
  unfold f_Ji_numberOfTrailingZeros_j34 at hv
  refine jG.blk (st_Ji_numberOfTrailingZeros) 2 (pc1 := 38) (L1 := [(0, (0, l1)), (1, (0, l2))]) (st1 := [(0, 256), (0, l1)]) (h1 := h) rfl ?_
  refine jT.if2 (st_Ji_numberOfTrailingZeros) rfl (tgt := 49) (by decide) (fun hc => ?_) (fun hc => ?_)
  · have hc : l1 ≤ 256 := hc
    try rw [if_pos hc] at hv
    exact f_Ji_numberOfTrailingZeros_j49_ok E hv
  · have hc : ¬ (l1 ≤ 256) := hc
    try rw [if_neg hc] at hv
    refine jG.blk (st_Ji_numberOfTrailingZeros) 5 (pc1 := 49) (L1 := [(0, (0, jushr l1 8)), (1, (0, jadd l2 8))]) (st1 := []) (h1 := h) rfl ?_
    exact f_Ji_numberOfTrailingZeros_j49_ok E hv
set_option maxRecDepth 100000 in
set_option maxHeartbeats 4000000 in
theorem C_Ji_numberOfTrailingZeros {E : jE} {h : jH} {a0 : Int} {res : Int} (hv : f_Ji_numberOfTrailingZeros h a0 = some res) : jC E M_Ji_numberOfTrailingZeros [(0, a0)] h (some (0, res)) h := by
  refine jC.of ok_Ji_numberOfTrailingZeros.1 (by rw [jlg]; exact Nat.le_of_ble_eq_true rfl) ?_
  show jG E _ 0 [(0, (0, a0))] [] h _ _
  unfold f_Ji_numberOfTrailingZeros at hv
  refine jG.blk (st_Ji_numberOfTrailingZeros) 9 (pc1 := 9) (L1 := [(0, (0, jand (jxor a0 (-1)) (jsub a0 1)))]) (st1 := [(0, jand (jxor a0 (-1)) (jsub a0 1))]) (h1 := h) rfl ?_
  refine jT.if1 (st_Ji_numberOfTrailingZeros) rfl (tgt := 17) (by decide) (fun hc => ?_) (fun hc => ?_)
  · have hc : 0 < jand (jxor a0 (-1)) (jsub a0 1) := hc
    try rw [if_pos hc] at hv
    refine jG.blk (st_Ji_numberOfTrailingZeros) 4 (pc1 := 23) (L1 := [(1, (0, 1)), (0, (0, jand (jxor a0 (-1)) (jsub a0 1)))]) (st1 := [(0, 65536), (0, jand (jxor a0 (-1)) (jsub a0 1))]) (h1 := h) rfl ?_
    refine jT.if2 (st_Ji_numberOfTrailingZeros) rfl (tgt := 34) (by decide) (fun hc => ?_) (fun hc => ?_)
    · have hc : jand (jxor a0 (-1)) (jsub a0 1) ≤ 65536 := hc
      try rw [if_pos hc] at hv
      refine jG.subp [1, 0] (L1 := [(0, (0, jand (jxor a0 (-1)) (jsub a0 1))), (1, (0, 1))]) rfl ?_
      exact f_Ji_numberOfTrailingZeros_j34_ok E hv
    · have hc : ¬ (jand (jxor a0 (-1)) (jsub a0 1) ≤ 65536) := hc
      try rw [if_neg hc] at hv
      refine jG.blk (st_Ji_numberOfTrailingZeros) 5 (pc1 := 34) (L1 := [(0, (0, jushr (jand (jxor a0 (-1)) (jsub a0 1)) 16)), (1, (0, jadd 1 16))]) (st1 := []) (h1 := h) rfl ?_
      exact f_Ji_numberOfTrailingZeros_j34_ok E hv
  · have hc : ¬ (0 < jand (jxor a0 (-1)) (jsub a0 1)) := hc
    try rw [if_neg hc] at hv
    refine jG.blk (st_Ji_numberOfTrailingZeros) 3 (pc1 := 16) (L1 := [(0, (0, jand (jxor a0 (-1)) (jsub a0 1)))]) (st1 := [(0, jand (jand (jxor a0 (-1)) (jsub a0 1)) 32)]) (h1 := h) rfl ?_
    cases hv
    exact jT.iret (st_Ji_numberOfTrailingZeros) rfl trivial
def f_Jl_numberOfTrailingZeros (h : jH) (a0 : Int) : Option (Int) := if jl2i a0 = 0 then (f_Ji_numberOfTrailingZeros h (jl2i (jlushr a0 32))).bind fun v2 => some (jadd 32 v2) else (f_Ji_numberOfTrailingZeros h (jl2i a0)).bind fun v1 => some v1
set_option maxRecDepth 100000 in
set_option maxHeartbeats 4000000 in
theorem C_Jl_numberOfTrailingZeros {E : jE} {h : jH} {a0 : Int} {res : Int} (hv : f_Jl_numberOfTrailingZeros h a0 = some res) : jC E M_Jl_numberOfTrailingZeros [(1, a0)] h (some (0, res)) h := by
  refine jC.of ok_Jl_numberOfTrailingZeros.1 (by rw [jlg]; exact Nat.le_of_ble_eq_true rfl) ?_
  show jG E _ 0 [(0, (1, a0))] [] h _ _
  unfold f_Jl_numberOfTrailingZeros at hv
  refine jG.blk (st_Jl_numberOfTrailingZeros) 4 (pc1 := 4) (L1 := [(2, (0, jl2i a0)), (0, (1, a0))]) (st1 := [(0, jl2i a0)]) (h1 := h) rfl ?_
  refine jT.if1 (st_Jl_numberOfTrailingZeros) rfl (tgt := 21) (by decide) (fun hc => ?_) (fun hc => ?_)
  · have hc : ¬ (jl2i a0 = 0) := hc
    try rw [if_neg hc] at hv
    refine jG.blk (st_Jl_numberOfTrailingZeros) 1 (pc1 := 22) (L1 := [(2, (0, jl2i a0)), (0, (1, a0))]) (st1 := [(0, jl2i a0)]) (h1 := h) rfl ?_
    obtain ⟨v1, hq, hv⟩ := Option.bind_eq_some_iff.mp hv
    refine jT.cS (M1 := M_Ji_numberOfTrailingZeros) [(0, jl2i a0)] [] (st_Jl_numberOfTrailingZeros) rfl rfl ok_Ji_numberOfTrailingZeros rfl (Nat.le_of_ble_eq_true rfl) (Nat.le_of_ble_eq_true rfl) rfl (Nat.le_of_ble_eq_true rfl) (C_Ji_numberOfTrailingZeros hq) ?_
    show jG E _ 25 [(2, (0, jl2i a0)), (0, (1, a0))] [(0, v1)] h _ _
    cases hv
    exact jT.iret (st_Jl_numberOfTrailingZeros) rfl trivial
  · have hc : jl2i a0 = 0 := Decidable.not_not.mp hc
    try rw [if_pos hc] at hv
    refine jG.blk (st_Jl_numberOfTrailingZeros) 5 (pc1 := 14) (L1 := [(2, (0, jl2i a0)), (0, (1, a0))]) (st1 := [(0, jl2i (jlushr a0 32)), (0, 32)]) (h1 := h) rfl ?_
    obtain ⟨v2, hq, hv⟩ := Option.bind_eq_some_iff.mp hv
    refine jT.cS (M1 := M_Ji_numberOfTrailingZeros) [(0, jl2i (jlushr a0 32))] [(0, 32)] (st_Jl_numberOfTrailingZeros) rfl rfl ok_Ji_numberOfTrailingZeros rfl (Nat.le_of_ble_eq_true rfl) (Nat.le_of_ble_eq_true rfl) rfl (Nat.le_of_ble_eq_true rfl) (C_Ji_numberOfTrailingZeros hq) ?_
    show jG E _ 17 [(2, (0, jl2i a0)), (0, (1, a0))] [(0, v2), (0, 32)] h _ _
    refine jG.blk (st_Jl_numberOfTrailingZeros) 1 (pc1 := 18) (L1 := [(2, (0, jl2i a0)), (0, (1, a0))]) (st1 := [(0, jadd 32 v2)]) (h1 := h) rfl ?_
    refine jT.goto (st_Jl_numberOfTrailingZeros) rfl (tgt := 25) (by decide) ?_
    cases hv
    exact jT.iret (st_Jl_numberOfTrailingZeros) rfl trivial
def f_Js_isLatin1 (e : Nat) (h : jH) : Option (Int) := some (if (1 : Int) = 0 then 0 else if (0 : Int) = 0 then 1 else 0)
set_option maxRecDepth 100000 in
set_option maxHeartbeats 4000000 in
theorem C_Js_isLatin1 {E : jE} {e : Nat} (hr : e = 7 ∨ e = 8) {h : jH} {res : Int} (hv : f_Js_isLatin1 e h = some res) : jC E M_Js_isLatin1 [(3, ((e : Nat) : Int))] h (some (0, res)) h := by
  rcases hr with rfl | rfl
  · refine jC.of ok_Js_isLatin1.1 (by rw [jlg]; exact Nat.le_of_ble_eq_true rfl) ?_
    show jG E _ 0 [(0, (3, ((7 : Nat) : Int)))] [] h _ _
    unfold f_Js_isLatin1 at hv
    refine jG.blk (st_Js_isLatin1) 1 (pc1 := 3) (L1 := [(0, (3, ((7 : Nat) : Int)))]) (st1 := [(0, 1)]) (h1 := h) rfl ?_
    refine jT.if1 (st_Js_isLatin1) rfl (tgt := 17) (by decide) (fun hc => ?_) (fun hc => ?_)
    · have hc : (1 : Int) = 0 := hc
      try rw [if_pos hc] at hv
      refine jG.blk (st_Js_isLatin1) 1 (pc1 := 18) (L1 := [(0, (3, ((7 : Nat) : Int)))]) (st1 := [(0, 0)]) (h1 := h) rfl ?_
      cases hv
      exact jT.iret (st_Js_isLatin1) rfl (Or.inl rfl)
    · have hc : ¬ ((1 : Int) = 0) := hc
      try rw [if_neg hc] at hv
      refine jG.blk (st_Js_isLatin1) 1 (pc1 := 7) (L1 := [(0, (3, ((7 : Nat) : Int)))]) (st1 := [(3, ((7 : Nat) : Int))]) (h1 := h) rfl ?_
      refine jT.xcod (q := (7, 7 - 2)) (st_Js_isLatin1) rfl (by decide) ?_
      refine jT.if1 (st_Js_isLatin1) rfl (tgt := 17) (by decide) (fun hc => ?_) (fun hc => ?_)
      · have hc : ¬ ((0 : Int) = 0) := hc
        try rw [if_neg hc] at hv
        refine jG.blk (st_Js_isLatin1) 1 (pc1 := 18) (L1 := [(0, (3, ((7 : Nat) : Int)))]) (st1 := [(0, 0)]) (h1 := h) rfl ?_
        cases hv
        exact jT.iret (st_Js_isLatin1) rfl (Or.inl rfl)
      · have hc : (0 : Int) = 0 := Decidable.not_not.mp hc
        try rw [if_pos hc] at hv
        refine jG.blk (st_Js_isLatin1) 1 (pc1 := 14) (L1 := [(0, (3, ((7 : Nat) : Int)))]) (st1 := [(0, 1)]) (h1 := h) rfl ?_
        refine jT.goto (st_Js_isLatin1) rfl (tgt := 18) (by decide) ?_
        cases hv
        exact jT.iret (st_Js_isLatin1) rfl (Or.inr rfl)
  · refine jC.of ok_Js_isLatin1.1 (by rw [jlg]; exact Nat.le_of_ble_eq_true rfl) ?_
    show jG E _ 0 [(0, (3, ((8 : Nat) : Int)))] [] h _ _
    unfold f_Js_isLatin1 at hv
    refine jG.blk (st_Js_isLatin1) 1 (pc1 := 3) (L1 := [(0, (3, ((8 : Nat) : Int)))]) (st1 := [(0, 1)]) (h1 := h) rfl ?_
    refine jT.if1 (st_Js_isLatin1) rfl (tgt := 17) (by decide) (fun hc => ?_) (fun hc => ?_)
    · have hc : (1 : Int) = 0 := hc
      try rw [if_pos hc] at hv
      refine jG.blk (st_Js_isLatin1) 1 (pc1 := 18) (L1 := [(0, (3, ((8 : Nat) : Int)))]) (st1 := [(0, 0)]) (h1 := h) rfl ?_
      cases hv
      exact jT.iret (st_Js_isLatin1) rfl (Or.inl rfl)
    · have hc : ¬ ((1 : Int) = 0) := hc
      try rw [if_neg hc] at hv
      refine jG.blk (st_Js_isLatin1) 1 (pc1 := 7) (L1 := [(0, (3, ((8 : Nat) : Int)))]) (st1 := [(3, ((8 : Nat) : Int))]) (h1 := h) rfl ?_
      refine jT.xcod (q := (8, 8 - 2)) (st_Js_isLatin1) rfl (by decide) ?_
      refine jT.if1 (st_Js_isLatin1) rfl (tgt := 17) (by decide) (fun hc => ?_) (fun hc => ?_)
      · have hc : ¬ ((0 : Int) = 0) := hc
        try rw [if_neg hc] at hv
        refine jG.blk (st_Js_isLatin1) 1 (pc1 := 18) (L1 := [(0, (3, ((8 : Nat) : Int)))]) (st1 := [(0, 0)]) (h1 := h) rfl ?_
        cases hv
        exact jT.iret (st_Js_isLatin1) rfl (Or.inl rfl)
      · have hc : (0 : Int) = 0 := Decidable.not_not.mp hc
        try rw [if_pos hc] at hv
        refine jG.blk (st_Js_isLatin1) 1 (pc1 := 14) (L1 := [(0, (3, ((8 : Nat) : Int)))]) (st1 := [(0, 1)]) (h1 := h) rfl ?_
        refine jT.goto (st_Js_isLatin1) rfl (tgt := 18) (by decide) ?_
        cases hv
        exact jT.iret (st_Js_isLatin1) rfl (Or.inr rfl)
def f_Jp_checkIndex_j9 (h : jH) (l1 : Int) (l2 : Int) : Option (Int) := none
def f_Jp_checkIndex (h : jH) (a0 : Int) (a1 : Int) : Option (Int) := if a0 < 0 then f_Jp_checkIndex_j9 h a0 a1 else if a0 < a1 then some a0 else f_Jp_checkIndex_j9 h a0 a1
set_option maxRecDepth 100000 in
set_option maxHeartbeats 4000000 in
theorem f_Jp_checkIndex_j9_ok (E : jE) {h : jH} {l1 : Int} {l2 : Int} {res : Int} (hv : f_Jp_checkIndex_j9 h l1 l2 = some res) : jG E M_Jp_checkIndex 9 [(0, (0, l1)), (1, (0, l2)), (2, (4, 0))] [] h (some (0, res)) h := by
  unfold f_Jp_checkIndex_j9 at hv
  cases hv
set_option maxRecDepth 100000 in
set_option maxHeartbeats 4000000 in
theorem C_Jp_checkIndex {E : jE} {h : jH} {a0 : Int} {a1 : Int} {res : Int} (hv : f_Jp_checkIndex h a0 a1 = some res) : jC E M_Jp_checkIndex [(0, a0), (0, a1), (4, 0)] h (some (0, res)) h := by
  refine jC.of ok_Jp_checkIndex.1 (by rw [jlg]; exact Nat.le_of_ble_eq_true rfl) ?_
  show jG E _ 0 [(0, (0, a0)), (1, (0, a1)), (2, (4, 0))] [] h _ _
  unfold f_Jp_checkIndex at hv
  refine jG.blk (st_Jp_checkIndex) 1 (pc1 := 1) (L1 := [(0, (0, a0)), (1, (0, a1)), (2, (4, 0))]) (st1 := [(0, a0)]) (h1 := h) rfl ?_
  refine jT.if1 (st_Jp_checkIndex) rfl (tgt := 9) (by decide) (fun hc => ?_) (fun hc => ?_)
  · have hc : a0 < 0 := hc
    try rw [if_pos hc] at hv
    exact f_Jp_checkIndex_j9_ok E hv
  · have hc : ¬ (a0 < 0) := hc
    try rw [if_neg hc] at hv
    refine jG.blk (st_Jp_checkIndex) 2 (pc1 := 6) (L1 := [(0, (0, a0)), (1, (0, a1)), (2, (4, 0))]) (st1 := [(0, a1), (0, a0)]) (h1 := h) rfl ?_
    refine jT.if2 (st_Jp_checkIndex) rfl (tgt := 16) (by decide) (fun hc => ?_) (fun hc => ?_)
    · have hc : a0 < a1 := hc
      try rw [if_pos hc] at hv
      refine jG.blk (st_Jp_checkIndex) 1 (pc1 := 17) (L1 := [(0, (0, a0)), (1, (0, a1)), (2, (4, 0))]) (st1 := [(0, a0)]) (h1 := h) rfl ?_
      cases hv
      exact jT.iret (st_Jp_checkIndex) rfl trivial
    · have hc : ¬ (a0 < a1) := hc
      try rw [if_neg hc] at hv
      exact f_Jp_checkIndex_j9_ok E hv
def f_Js_checkIndex (h : jH) (a0 : Int) (a1 : Int) : Option (Unit) := (f_Jp_checkIndex h a0 a1).bind fun v1 => some ()
set_option maxRecDepth 100000 in
set_option maxHeartbeats 4000000 in
theorem C_Js_checkIndex {E : jE} {h : jH} {a0 : Int} {a1 : Int} {res : Unit} (hv : f_Js_checkIndex h a0 a1 = some res) : jC E M_Js_checkIndex [(0, a0), (0, a1)] h none h := by
  refine jC.of ok_Js_checkIndex.1 (by rw [jlg]; exact Nat.le_of_ble_eq_true rfl) ?_
  show jG E _ 0 [(0, (0, a0)), (1, (0, a1))] [] h _ _
  unfold f_Js_checkIndex at hv
  refine jG.blk (st_Js_checkIndex) 3 (pc1 := 5) (L1 := [(0, (0, a0)), (1, (0, a1))]) (st1 := [(4, 0), (0, a1), (0, a0)]) (h1 := h) rfl ?_
  obtain ⟨v1, hq, hv⟩ := Option.bind_eq_some_iff.mp hv
  refine jT.cS (M1 := M_Jp_checkIndex) [(0, a0), (0, a1), (4, 0)] [] (st_Js_checkIndex) rfl rfl ok_Jp_checkIndex rfl (Nat.le_of_ble_eq_true rfl) (Nat.le_of_ble_eq_true rfl) rfl (Nat.le_of_ble_eq_true rfl) (C_Jp_checkIndex hq) ?_
  show jG E _ 8 [(0, (0, a0)), (1, (0, a1))] [(0, v1)] h _ _
  refine jG.blk (st_Js_checkIndex) 1 (pc1 := 9) (L1 := [(0, (0, a0)), (1, (0, a1))]) (st1 := []) (h1 := h) rfl ?_
  cases hv
  exact jT.vret (st_Js_checkIndex) rfl trivial
def f_Jt_charAt (b : Nat) (h : jH) (a1 : Int) : Option (Int) := (f_Js_checkIndex h a1 (((jxc.getD b []).length : Nat) : Int)).bind fun _ => jgd (0 ≤ a1 ∧ a1 < (((jxc.getD b []).length : Nat) : Int)) (jgd (0 ≤ ji2c (jand ((jxc.getD b []).getD a1.toNat 0) 255) ∧ ji2c (jand ((jxc.getD b []).getD a1.toNat 0) 255) < 65536) (some (ji2c (jand ((jxc.getD b []).getD a1.toNat 0) 255))))
set_option maxRecDepth 100000 in
set_option maxHeartbeats 4000000 in
theorem C_Jt_charAt {E : jE} {b : Nat} (hr : b = 5 ∨ b = 6) {h : jH} {a1 : Int} {res : Int} (hv : f_Jt_charAt b h a1 = some res) : jC E M_Jt_charAt [(3, ((b : Nat) : Int)), (0, a1)] h (some (0, res)) h := by
  rcases hr with rfl | rfl
  · refine jC.of ok_Jt_charAt.1 (by rw [jlg]; exact Nat.le_of_ble_eq_true rfl) ?_
    show jG E _ 0 [(0, (3, ((5 : Nat) : Int))), (1, (0, a1))] [] h _ _
    unfold f_Jt_charAt at hv
    refine jG.blk (st_Jt_charAt) 2 (pc1 := 2) (L1 := [(0, (3, ((5 : Nat) : Int))), (1, (0, a1))]) (st1 := [(3, ((5 : Nat) : Int)), (0, a1)]) (h1 := h) rfl ?_
    refine jT.xlen (x := 5) (st_Jt_charAt) rfl (by decide) (jxl_small (by decide) (by decide)) ?_
    obtain ⟨_, hq, hv⟩ := Option.bind_eq_some_iff.mp hv
    refine jT.cS (M1 := M_Js_checkIndex) [(0, a1), (0, (((jxc.getD 5 []).length : Nat) : Int))] [] (st_Jt_charAt) rfl rfl ok_Js_checkIndex rfl (Nat.le_of_ble_eq_true rfl) (Nat.le_of_ble_eq_true rfl) rfl (Nat.le_of_ble_eq_true rfl) (C_Js_checkIndex hq) ?_
    show jG E _ 6 [(0, (3, ((5 : Nat) : Int))), (1, (0, a1))] [] h _ _
    refine jG.blk (st_Jt_charAt) 2 (pc1 := 8) (L1 := [(0, (3, ((5 : Nat) : Int))), (1, (0, a1))]) (st1 := [(0, a1), (3, ((5 : Nat) : Int))]) (h1 := h) rfl ?_
    obtain ⟨hg, hv⟩ := jgd_some hv
    refine jT.xbld (x := 5) (st_Jt_charAt) rfl (by decide) rfl (jxl_small (by decide) (by decide)) hg.1 hg.2 (jxc_ok _ _) ?_
    refine jG.blk (st_Jt_charAt) 3 (pc1 := 14) (L1 := [(0, (3, ((5 : Nat) : Int))), (1, (0, a1))]) (st1 := [(0, ji2c (jand ((jxc.getD 5 []).getD a1.toNat 0) 255))]) (h1 := h) rfl ?_
    obtain ⟨hg, hv⟩ := jgd_some hv
    cases hv
    exact jT.iret (st_Jt_charAt) rfl hg
  · refine jC.of ok_Jt_charAt.1 (by rw [jlg]; exact Nat.le_of_ble_eq_true rfl) ?_
    show jG E _ 0 [(0, (3, ((6 : Nat) : Int))), (1, (0, a1))] [] h _ _
    unfold f_Jt_charAt at hv
    refine jG.blk (st_Jt_charAt) 2 (pc1 := 2) (L1 := [(0, (3, ((6 : Nat) : Int))), (1, (0, a1))]) (st1 := [(3, ((6 : Nat) : Int)), (0, a1)]) (h1 := h) rfl ?_
    refine jT.xlen (x := 6) (st_Jt_charAt) rfl (by decide) (jxl_small (by decide) (by decide)) ?_
    obtain ⟨_, hq, hv⟩ := Option.bind_eq_some_iff.mp hv
    refine jT.cS (M1 := M_Js_checkIndex) [(0, a1), (0, (((jxc.getD 6 []).length : Nat) : Int))] [] (st_Jt_charAt) rfl rfl ok_Js_checkIndex rfl (Nat.le_of_ble_eq_true rfl) (Nat.le_of_ble_eq_true rfl) rfl (Nat.le_of_ble_eq_true rfl) (C_Js_checkIndex hq) ?_
    show jG E _ 6 [(0, (3, ((6 : Nat) : Int))), (1, (0, a1))] [] h _ _
    refine jG.blk (st_Jt_charAt) 2 (pc1 := 8) (L1 := [(0, (3, ((6 : Nat) : Int))), (1, (0, a1))]) (st1 := [(0, a1), (3, ((6 : Nat) : Int))]) (h1 := h) rfl ?_
    obtain ⟨hg, hv⟩ := jgd_some hv
    refine jT.xbld (x := 6) (st_Jt_charAt) rfl (by decide) rfl (jxl_small (by decide) (by decide)) hg.1 hg.2 (jxc_ok _ _) ?_
    refine jG.blk (st_Jt_charAt) 3 (pc1 := 14) (L1 := [(0, (3, ((6 : Nat) : Int))), (1, (0, a1))]) (st1 := [(0, ji2c (jand ((jxc.getD 6 []).getD a1.toNat 0) 255))]) (h1 := h) rfl ?_
    obtain ⟨hg, hv⟩ := jgd_some hv
    cases hv
    exact jT.iret (st_Jt_charAt) rfl hg
def f_Js_charAt (e : Nat) (h : jH) (a1 : Int) : Option (Int) := (f_Js_isLatin1 e h).bind fun v1 => if v1 = 0 then none else (f_Jt_charAt (e - 2) h a1).bind fun v2 => jgd (0 ≤ v2 ∧ v2 < 65536) (some v2)
set_option maxRecDepth 100000 in
set_option maxHeartbeats 4000000 in
theorem C_Js_charAt {E : jE} {e : Nat} (hr : e = 7 ∨ e = 8) {h : jH} {a1 : Int} {res : Int} (hv : f_Js_charAt e h a1 = some res) : jC E M_Js_charAt [(3, ((e : Nat) : Int)), (0, a1)] h (some (0, res)) h := by
  rcases hr with rfl | rfl
  · refine jC.of ok_Js_charAt.1 (by rw [jlg]; exact Nat.le_of_ble_eq_true rfl) ?_
    show jG E _ 0 [(0, (3, ((7 : Nat) : Int))), (1, (0, a1))] [] h _ _
    unfold f_Js_charAt at hv
    refine jG.blk (st_Js_charAt) 1 (pc1 := 1) (L1 := [(0, (3, ((7 : Nat) : Int))), (1, (0, a1))]) (st1 := [(3, ((7 : Nat) : Int))]) (h1 := h) rfl ?_
    obtain ⟨v1, hq, hv⟩ := Option.bind_eq_some_iff.mp hv
    refine jT.cV (M1 := M_Js_isLatin1) (3, ((7 : Nat) : Int)) [] [] (st_Js_charAt) rfl rfl ok_Js_isLatin1 rfl (Or.inr ⟨rfl, rfl, (7, 7 - 2), by decide, rfl⟩) (Nat.le_of_ble_eq_true rfl) (Nat.le_of_ble_eq_true rfl) rfl (Nat.le_of_ble_eq_true rfl) (C_Js_isLatin1 (by decide) hq) ?_
    show jG E _ 4 [(0, (3, ((7 : Nat) : Int))), (1, (0, a1))] [(0, v1)] h _ _
    refine jT.if1 (st_Js_charAt) rfl (tgt := 16) (by decide) (fun hc => ?_) (fun hc => ?_)
    · have hc : v1 = 0 := hc
      try rw [if_pos hc] at hv
      refine jG.blk (st_Js_charAt) 1 (pc1 := 17) (L1 := [(0, (3, ((7 : Nat) : Int))), (1, (0, a1))]) (st1 := [(3, ((7 : Nat) : Int))]) (h1 := h) rfl ?_
      refine jT.xval (q := (7, 7 - 2)) (st_Js_charAt) rfl (by decide) ?_
      refine jG.blk (st_Js_charAt) 1 (pc1 := 21) (L1 := [(0, (3, ((7 : Nat) : Int))), (1, (0, a1))]) (st1 := [(0, a1), (3, ((7 - 2 : Nat) : Int))]) (h1 := h) rfl ?_
      cases hv
    · have hc : ¬ (v1 = 0) := hc
      try rw [if_neg hc] at hv
      refine jG.blk (st_Js_charAt) 1 (pc1 := 8) (L1 := [(0, (3, ((7 : Nat) : Int))), (1, (0, a1))]) (st1 := [(3, ((7 : Nat) : Int))]) (h1 := h) rfl ?_
      refine jT.xval (q := (7, 7 - 2)) (st_Js_charAt) rfl (by decide) ?_
      refine jG.blk (st_Js_charAt) 1 (pc1 := 12) (L1 := [(0, (3, ((7 : Nat) : Int))), (1, (0, a1))]) (st1 := [(0, a1), (3, ((7 - 2 : Nat) : Int))]) (h1 := h) rfl ?_
      obtain ⟨v2, hq, hv⟩ := Option.bind_eq_some_iff.mp hv
      refine jT.cS (M1 := M_Jt_charAt) [(3, ((7 - 2 : Nat) : Int)), (0, a1)] [] (st_Js_charAt) rfl rfl ok_Jt_charAt rfl (Nat.le_of_ble_eq_true rfl) (Nat.le_of_ble_eq_true rfl) rfl (Nat.le_of_ble_eq_true rfl) (C_Jt_charAt (by decide) hq) ?_
      show jG E _ 15 [(0, (3, ((7 : Nat) : Int))), (1, (0, a1))] [(0, v2)] h _ _
      obtain ⟨hg, hv⟩ := jgd_some hv
      cases hv
      exact jT.iret (st_Js_charAt) rfl hg
  · refine jC.of ok_Js_charAt.1 (by rw [jlg]; exact Nat.le_of_ble_eq_true rfl) ?_
    show jG E _ 0 [(0, (3, ((8 : Nat) : Int))), (1, (0, a1))] [] h _ _
    unfold f_Js_charAt at hv
    refine jG.blk (st_Js_charAt) 1 (pc1 := 1) (L1 := [(0, (3, ((8 : Nat) : Int))), (1, (0, a1))]) (st1 := [(3, ((8 : Nat) : Int))]) (h1 := h) rfl ?_
    obtain ⟨v1, hq, hv⟩ := Option.bind_eq_some_iff.mp hv
    refine jT.cV (M1 := M_Js_isLatin1) (3, ((8 : Nat) : Int)) [] [] (st_Js_charAt) rfl rfl ok_Js_isLatin1 rfl (Or.inr ⟨rfl, rfl, (8, 8 - 2), by decide, rfl⟩) (Nat.le_of_ble_eq_true rfl) (Nat.le_of_ble_eq_true rfl) rfl (Nat.le_of_ble_eq_true rfl) (C_Js_isLatin1 (by decide) hq) ?_
    show jG E _ 4 [(0, (3, ((8 : Nat) : Int))), (1, (0, a1))] [(0, v1)] h _ _
    refine jT.if1 (st_Js_charAt) rfl (tgt := 16) (by decide) (fun hc => ?_) (fun hc => ?_)
    · have hc : v1 = 0 := hc
      try rw [if_pos hc] at hv
      refine jG.blk (st_Js_charAt) 1 (pc1 := 17) (L1 := [(0, (3, ((8 : Nat) : Int))), (1, (0, a1))]) (st1 := [(3, ((8 : Nat) : Int))]) (h1 := h) rfl ?_
      refine jT.xval (q := (8, 8 - 2)) (st_Js_charAt) rfl (by decide) ?_
      refine jG.blk (st_Js_charAt) 1 (pc1 := 21) (L1 := [(0, (3, ((8 : Nat) : Int))), (1, (0, a1))]) (st1 := [(0, a1), (3, ((8 - 2 : Nat) : Int))]) (h1 := h) rfl ?_
      cases hv
    · have hc : ¬ (v1 = 0) := hc
      try rw [if_neg hc] at hv
      refine jG.blk (st_Js_charAt) 1 (pc1 := 8) (L1 := [(0, (3, ((8 : Nat) : Int))), (1, (0, a1))]) (st1 := [(3, ((8 : Nat) : Int))]) (h1 := h) rfl ?_
      refine jT.xval (q := (8, 8 - 2)) (st_Js_charAt) rfl (by decide) ?_
      refine jG.blk (st_Js_charAt) 1 (pc1 := 12) (L1 := [(0, (3, ((8 : Nat) : Int))), (1, (0, a1))]) (st1 := [(0, a1), (3, ((8 - 2 : Nat) : Int))]) (h1 := h) rfl ?_
      obtain ⟨v2, hq, hv⟩ := Option.bind_eq_some_iff.mp hv
      refine jT.cS (M1 := M_Jt_charAt) [(3, ((8 - 2 : Nat) : Int)), (0, a1)] [] (st_Js_charAt) rfl rfl ok_Jt_charAt rfl (Nat.le_of_ble_eq_true rfl) (Nat.le_of_ble_eq_true rfl) rfl (Nat.le_of_ble_eq_true rfl) (C_Jt_charAt (by decide) hq) ?_
      show jG E _ 15 [(0, (3, ((8 : Nat) : Int))), (1, (0, a1))] [(0, v2)] h _ _
      obtain ⟨hg, hv⟩ := jgd_some hv
      cases hv
      exact jT.iret (st_Js_charAt) rfl hg
end
section
def f_X_isSquare (h : jH) (a0 : Int) : Option (Int) := some (if a0 < 0 then 0 else if 64 ≤ a0 then 0 else 1)
set_option maxRecDepth 100000 in
set_option maxHeartbeats 4000000 in
theorem C_X_isSquare {E : jE} {h : jH} {a0 : Int} {res : Int} (hv : f_X_isSquare h a0 = some res) : jC E M_X_isSquare [(0, a0)] h (some (0, res)) h := by
  refine jC.of ok_X_isSquare.1 (by rw [jlg]; exact Nat.le_of_ble_eq_true rfl) ?_
  show jG E _ 0 [(0, (0, a0))] [] h _ _
  unfold f_X_isSquare at hv
  refine jG.blk (st_X_isSquare) 1 (pc1 := 1) (L1 := [(0, (0, a0))]) (st1 := [(0, a0)]) (h1 := h) rfl ?_
  refine jT.if1 (st_X_isSquare) rfl (tgt := 14) (by decide) (fun hc => ?_) (fun hc => ?_)
  · have hc : a0 < 0 := hc
    try rw [if_pos hc] at hv
    refine jG.blk (st_X_isSquare) 1 (pc1 := 15) (L1 := [(0, (0, a0))]) (st1 := [(0, 0)]) (h1 := h) rfl ?_
    cases hv
    exact jT.iret (st_X_isSquare) rfl (Or.inl rfl)
  · have hc : ¬ (a0 < 0) := hc
    try rw [if_neg hc] at hv
    refine jG.blk (st_X_isSquare) 2 (pc1 := 7) (L1 := [(0, (0, a0))]) (st1 := [(0, 64), (0, a0)]) (h1 := h) rfl ?_
    refine jT.if2 (st_X_isSquare) rfl (tgt := 14) (by decide) (fun hc => ?_) (fun hc => ?_)
    · have hc : 64 ≤ a0 := hc
      try rw [if_pos hc] at hv
      refine jG.blk (st_X_isSquare) 1 (pc1 := 15) (L1 := [(0, (0, a0))]) (st1 := [(0, 0)]) (h1 := h) rfl ?_
      cases hv
      exact jT.iret (st_X_isSquare) rfl (Or.inl rfl)
    · have hc : ¬ (64 ≤ a0) := hc
      try rw [if_neg hc] at hv
      refine jG.blk (st_X_isSquare) 1 (pc1 := 11) (L1 := [(0, (0, a0))]) (st1 := [(0, 1)]) (h1 := h) rfl ?_
      refine jT.goto (st_X_isSquare) rfl (tgt := 15) (by decide) ?_
      cases hv
      exact jT.iret (st_X_isSquare) rfl (Or.inr rfl)
def f_X_isSide (h : jH) (a0 : Int) : Option (Int) := some (if a0 = 0 then 1 else if a0 = 1 then 1 else 0)
set_option maxRecDepth 100000 in
set_option maxHeartbeats 4000000 in
theorem C_X_isSide {E : jE} {h : jH} {a0 : Int} {res : Int} (hv : f_X_isSide h a0 = some res) : jC E M_X_isSide [(0, a0)] h (some (0, res)) h := by
  refine jC.of ok_X_isSide.1 (by rw [jlg]; exact Nat.le_of_ble_eq_true rfl) ?_
  show jG E _ 0 [(0, (0, a0))] [] h _ _
  unfold f_X_isSide at hv
  refine jG.blk (st_X_isSide) 1 (pc1 := 1) (L1 := [(0, (0, a0))]) (st1 := [(0, a0)]) (h1 := h) rfl ?_
  refine jT.if1 (st_X_isSide) rfl (tgt := 9) (by decide) (fun hc => ?_) (fun hc => ?_)
  · have hc : a0 = 0 := hc
    try rw [if_pos hc] at hv
    refine jG.blk (st_X_isSide) 1 (pc1 := 10) (L1 := [(0, (0, a0))]) (st1 := [(0, 1)]) (h1 := h) rfl ?_
    refine jT.goto (st_X_isSide) rfl (tgt := 14) (by decide) ?_
    cases hv
    exact jT.iret (st_X_isSide) rfl (Or.inr rfl)
  · have hc : ¬ (a0 = 0) := hc
    try rw [if_neg hc] at hv
    refine jG.blk (st_X_isSide) 2 (pc1 := 6) (L1 := [(0, (0, a0))]) (st1 := [(0, 1), (0, a0)]) (h1 := h) rfl ?_
    refine jT.if2 (st_X_isSide) rfl (tgt := 13) (by decide) (fun hc => ?_) (fun hc => ?_)
    · have hc : ¬ (a0 = 1) := hc
      try rw [if_neg hc] at hv
      refine jG.blk (st_X_isSide) 1 (pc1 := 14) (L1 := [(0, (0, a0))]) (st1 := [(0, 0)]) (h1 := h) rfl ?_
      cases hv
      exact jT.iret (st_X_isSide) rfl (Or.inl rfl)
    · have hc : a0 = 1 := Decidable.not_not.mp hc
      try rw [if_pos hc] at hv
      refine jG.blk (st_X_isSide) 1 (pc1 := 10) (L1 := [(0, (0, a0))]) (st1 := [(0, 1)]) (h1 := h) rfl ?_
      refine jT.goto (st_X_isSide) rfl (tgt := 14) (by decide) ?_
      cases hv
      exact jT.iret (st_X_isSide) rfl (Or.inr rfl)
def f_X_kindOf (h : jH) (a0 : Int) : Option (Int) := some (if a0 ≤ 6 then a0 else jsub a0 6)
set_option maxRecDepth 100000 in
set_option maxHeartbeats 4000000 in
theorem C_X_kindOf {E : jE} {h : jH} {a0 : Int} {res : Int} (hv : f_X_kindOf h a0 = some res) : jC E M_X_kindOf [(0, a0)] h (some (0, res)) h := by
  refine jC.of ok_X_kindOf.1 (by rw [jlg]; exact Nat.le_of_ble_eq_true rfl) ?_
  show jG E _ 0 [(0, (0, a0))] [] h _ _
  unfold f_X_kindOf at hv
  refine jG.blk (st_X_kindOf) 2 (pc1 := 3) (L1 := [(0, (0, a0))]) (st1 := [(0, 6), (0, a0)]) (h1 := h) rfl ?_
  refine jT.if2 (st_X_kindOf) rfl (tgt := 13) (by decide) (fun hc => ?_) (fun hc => ?_)
  · have hc : a0 ≤ 6 := hc
    try rw [if_pos hc] at hv
    refine jG.blk (st_X_kindOf) 1 (pc1 := 14) (L1 := [(0, (0, a0))]) (st1 := [(0, a0)]) (h1 := h) rfl ?_
    cases hv
    exact jT.iret (st_X_kindOf) rfl trivial
  · have hc : ¬ (a0 ≤ 6) := hc
    try rw [if_neg hc] at hv
    refine jG.blk (st_X_kindOf) 3 (pc1 := 10) (L1 := [(0, (0, a0))]) (st1 := [(0, jsub a0 6)]) (h1 := h) rfl ?_
    refine jT.goto (st_X_kindOf) rfl (tgt := 14) (by decide) ?_
    cases hv
    exact jT.iret (st_X_kindOf) rfl trivial
def f_X_pieceOf (h : jH) (a0 : Int) (a1 : Int) : Option (Int) := some (if a1 = 0 then a0 else jadd a0 6)
set_option maxRecDepth 100000 in
set_option maxHeartbeats 4000000 in
theorem C_X_pieceOf {E : jE} {h : jH} {a0 : Int} {a1 : Int} {res : Int} (hv : f_X_pieceOf h a0 a1 = some res) : jC E M_X_pieceOf [(0, a0), (0, a1)] h (some (0, res)) h := by
  refine jC.of ok_X_pieceOf.1 (by rw [jlg]; exact Nat.le_of_ble_eq_true rfl) ?_
  show jG E _ 0 [(0, (0, a0)), (1, (0, a1))] [] h _ _
  unfold f_X_pieceOf at hv
  refine jG.blk (st_X_pieceOf) 1 (pc1 := 1) (L1 := [(0, (0, a0)), (1, (0, a1))]) (st1 := [(0, a1)]) (h1 := h) rfl ?_
  refine jT.if1 (st_X_pieceOf) rfl (tgt := 8) (by decide) (fun hc => ?_) (fun hc => ?_)
  · have hc : ¬ (a1 = 0) := hc
    try rw [if_neg hc] at hv
    refine jG.blk (st_X_pieceOf) 3 (pc1 := 12) (L1 := [(0, (0, a0)), (1, (0, a1))]) (st1 := [(0, jadd a0 6)]) (h1 := h) rfl ?_
    cases hv
    exact jT.iret (st_X_pieceOf) rfl trivial
  · have hc : a1 = 0 := Decidable.not_not.mp hc
    try rw [if_pos hc] at hv
    refine jG.blk (st_X_pieceOf) 1 (pc1 := 5) (L1 := [(0, (0, a0)), (1, (0, a1))]) (st1 := [(0, a0)]) (h1 := h) rfl ?_
    refine jT.goto (st_X_pieceOf) rfl (tgt := 12) (by decide) ?_
    cases hv
    exact jT.iret (st_X_pieceOf) rfl trivial
def f_X_rankFor (h : jH) (a0 : Int) (a1 : Int) : Option (Int) := some (if a0 = 0 then a1 else jsub 7 a1)
set_option maxRecDepth 100000 in
set_option maxHeartbeats 4000000 in
theorem C_X_rankFor {E : jE} {h : jH} {a0 : Int} {a1 : Int} {res : Int} (hv : f_X_rankFor h a0 a1 = some res) : jC E M_X_rankFor [(0, a0), (0, a1)] h (some (0, res)) h := by
  refine jC.of ok_X_rankFor.1 (by rw [jlg]; exact Nat.le_of_ble_eq_true rfl) ?_
  show jG E _ 0 [(0, (0, a0)), (1, (0, a1))] [] h _ _
  unfold f_X_rankFor at hv
  refine jG.blk (st_X_rankFor) 1 (pc1 := 1) (L1 := [(0, (0, a0)), (1, (0, a1))]) (st1 := [(0, a0)]) (h1 := h) rfl ?_
  refine jT.if1 (st_X_rankFor) rfl (tgt := 8) (by decide) (fun hc => ?_) (fun hc => ?_)
  · have hc : ¬ (a0 = 0) := hc
    try rw [if_neg hc] at hv
    refine jG.blk (st_X_rankFor) 3 (pc1 := 12) (L1 := [(0, (0, a0)), (1, (0, a1))]) (st1 := [(0, jsub 7 a1)]) (h1 := h) rfl ?_
    cases hv
    exact jT.iret (st_X_rankFor) rfl trivial
  · have hc : a0 = 0 := Decidable.not_not.mp hc
    try rw [if_pos hc] at hv
    refine jG.blk (st_X_rankFor) 1 (pc1 := 5) (L1 := [(0, (0, a0)), (1, (0, a1))]) (st1 := [(0, a1)]) (h1 := h) rfl ?_
    refine jT.goto (st_X_rankFor) rfl (tgt := 12) (by decide) ?_
    cases hv
    exact jT.iret (st_X_rankFor) rfl trivial
def f_X_squareAt (h : jH) (a0 : Int) (a1 : Int) : Option (Int) := some (jadd (jmul 8 a1) a0)
set_option maxRecDepth 100000 in
set_option maxHeartbeats 4000000 in
theorem C_X_squareAt {E : jE} {h : jH} {a0 : Int} {a1 : Int} {res : Int} (hv : f_X_squareAt h a0 a1 = some res) : jC E M_X_squareAt [(0, a0), (0, a1)] h (some (0, res)) h := by
  refine jC.of ok_X_squareAt.1 (by rw [jlg]; exact Nat.le_of_ble_eq_true rfl) ?_
  show jG E _ 0 [(0, (0, a0)), (1, (0, a1))] [] h _ _
  unfold f_X_squareAt at hv
  refine jG.blk (st_X_squareAt) 5 (pc1 := 6) (L1 := [(0, (0, a0)), (1, (0, a1))]) (st1 := [(0, jadd (jmul 8 a1) a0)]) (h1 := h) rfl ?_
  cases hv
  exact jT.iret (st_X_squareAt) rfl trivial
def f_X_kingHome (h : jH) (a0 : Int) : Option (Int) := (f_X_rankFor h a0 0).bind fun v1 => (f_X_squareAt h 4 v1).bind fun v2 => some v2
set_option maxRecDepth 100000 in
set_option maxHeartbeats 4000000 in
theorem C_X_kingHome {E : jE} {h : jH} {a0 : Int} {res : Int} (hv : f_X_kingHome h a0 = some res) : jC E M_X_kingHome [(0, a0)] h (some (0, res)) h := by
  refine jC.of ok_X_kingHome.1 (by rw [jlg]; exact Nat.le_of_ble_eq_true rfl) ?_
  show jG E _ 0 [(0, (0, a0))] [] h _ _
  unfold f_X_kingHome at hv
  refine jG.blk (st_X_kingHome) 3 (pc1 := 3) (L1 := [(0, (0, a0))]) (st1 := [(0, 0), (0, a0), (0, 4)]) (h1 := h) rfl ?_
  obtain ⟨v1, hq, hv⟩ := Option.bind_eq_some_iff.mp hv
  refine jT.cS (M1 := M_X_rankFor) [(0, a0), (0, 0)] [(0, 4)] (st_X_kingHome) rfl rfl ok_X_rankFor rfl (Nat.le_of_ble_eq_true rfl) (Nat.le_of_ble_eq_true rfl) rfl (Nat.le_of_ble_eq_true rfl) (C_X_rankFor hq) ?_
  show jG E _ 6 [(0, (0, a0))] [(0, v1), (0, 4)] h _ _
  obtain ⟨v2, hq, hv⟩ := Option.bind_eq_some_iff.mp hv
  refine jT.cS (M1 := M_X_squareAt) [(0, 4), (0, v1)] [] (st_X_kingHome) rfl rfl ok_X_squareAt rfl (Nat.le_of_ble_eq_true rfl) (Nat.le_of_ble_eq_true rfl) rfl (Nat.le_of_ble_eq_true rfl) (C_X_squareAt hq) ?_
  show jG E _ 9 [(0, (0, a0))] [(0, v2)] h _ _
  cases hv
  exact jT.iret (st_X_kingHome) rfl trivial
def f_X_rookHome_j10 (h : jH) (l1 : Int) (s2 : Int) : Option (Int) := (f_X_rankFor h l1 0).bind fun v3 => (f_X_squareAt h s2 v3).bind fun v4 => some v4
def f_X_rookHome (h : jH) (a0 : Int) (a1 : Int) : Option (Int) := f_X_rookHome_j10 h a0 (if a1 = 0 then 7 else 0)
set_option maxRecDepth 100000 in
set_option maxHeartbeats 4000000 in
theorem f_X_rookHome_j10_ok (E : jE) {h : jH} {l1 : Int} {s2 : Int} {res : Int} (hv : f_X_rookHome_j10 h l1 s2 = some res) : jG E M_X_rookHome 10 [(0, (0, l1))] [(0, s2)] h (some (0, res)) h := by
  unfold f_X_rookHome_j10 at hv
  refine jG.blk (st_X_rookHome) 2 (pc1 := 12) (L1 := [(0, (0, l1))]) (st1 := [(0, 0), (0, l1), (0, s2)]) (h1 := h) rfl ?_
  obtain ⟨v3, hq, hv⟩ := Option.bind_eq_some_iff.mp hv
  refine jT.cS (M1 := M_X_rankFor) [(0, l1), (0, 0)] [(0, s2)] (st_X_rookHome) rfl rfl ok_X_rankFor rfl (Nat.le_of_ble_eq_true rfl) (Nat.le_of_ble_eq_true rfl) rfl (Nat.le_of_ble_eq_true rfl) (C_X_rankFor hq) ?_
  show jG E _ 15 [(0, (0, l1))] [(0, v3), (0, s2)] h _ _
  obtain ⟨v4, hq, hv⟩ := Option.bind_eq_some_iff.mp hv
  refine jT.cS (M1 := M_X_squareAt) [(0, s2), (0, v3)] [] (st_X_rookHome) rfl rfl ok_X_squareAt rfl (Nat.le_of_ble_eq_true rfl) (Nat.le_of_ble_eq_true rfl) rfl (Nat.le_of_ble_eq_true rfl) (C_X_squareAt hq) ?_
  show jG E _ 18 [(0, (0, l1))] [(0, v4)] h _ _
  cases hv
  exact jT.iret (st_X_rookHome) rfl trivial
set_option maxRecDepth 100000 in
set_option maxHeartbeats 4000000 in
theorem C_X_rookHome {E : jE} {h : jH} {a0 : Int} {a1 : Int} {res : Int} (hv : f_X_rookHome h a0 a1 = some res) : jC E M_X_rookHome [(0, a0), (0, a1)] h (some (0, res)) h := by
  refine jC.of ok_X_rookHome.1 (by rw [jlg]; exact Nat.le_of_ble_eq_true rfl) ?_
  show jG E _ 0 [(0, (0, a0)), (1, (0, a1))] [] h _ _
  unfold f_X_rookHome at hv
  refine jG.blk (st_X_rookHome) 1 (pc1 := 1) (L1 := [(0, (0, a0)), (1, (0, a1))]) (st1 := [(0, a1)]) (h1 := h) rfl ?_
  refine jT.if1 (st_X_rookHome) rfl (tgt := 9) (by decide) (fun hc => ?_) (fun hc => ?_)
  · have hc : ¬ (a1 = 0) := hc
    try rw [if_neg hc] at hv
    refine jG.blk (st_X_rookHome) 1 (pc1 := 10) (L1 := [(0, (0, a0)), (1, (0, a1))]) (st1 := [(0, 0)]) (h1 := h) rfl ?_
    refine jG.subp [0] (L1 := [(0, (0, a0))]) rfl ?_
    exact f_X_rookHome_j10_ok E hv
  · have hc : a1 = 0 := Decidable.not_not.mp hc
    try rw [if_pos hc] at hv
    refine jG.blk (st_X_rookHome) 1 (pc1 := 6) (L1 := [(0, (0, a0)), (1, (0, a1))]) (st1 := [(0, 7)]) (h1 := h) rfl ?_
    refine jT.goto (st_X_rookHome) rfl (tgt := 10) (by decide) ?_
    refine jG.subp [0] (L1 := [(0, (0, a0))]) rfl ?_
    exact f_X_rookHome_j10_ok E hv
def f_X_rightOf (h : jH) (a0 : Int) (a1 : Int) : Option (Int) := some (jshl 1 (jadd (jmul 2 a0) a1))
set_option maxRecDepth 100000 in
set_option maxHeartbeats 4000000 in
theorem C_X_rightOf {E : jE} {h : jH} {a0 : Int} {a1 : Int} {res : Int} (hv : f_X_rightOf h a0 a1 = some res) : jC E M_X_rightOf [(0, a0), (0, a1)] h (some (0, res)) h := by
  refine jC.of ok_X_rightOf.1 (by rw [jlg]; exact Nat.le_of_ble_eq_true rfl) ?_
  show jG E _ 0 [(0, (0, a0)), (1, (0, a1))] [] h _ _
  unfold f_X_rightOf at hv
  refine jG.blk (st_X_rightOf) 7 (pc1 := 7) (L1 := [(0, (0, a0)), (1, (0, a1))]) (st1 := [(0, jshl 1 (jadd (jmul 2 a0) a1))]) (h1 := h) rfl ?_
  cases hv
  exact jT.iret (st_X_rightOf) rfl trivial
def f_X_otherSide (h : jH) (a0 : Int) : Option (Int) := some (jsub 1 a0)
set_option maxRecDepth 100000 in
set_option maxHeartbeats 4000000 in
theorem C_X_otherSide {E : jE} {h : jH} {a0 : Int} {res : Int} (hv : f_X_otherSide h a0 = some res) : jC E M_X_otherSide [(0, a0)] h (some (0, res)) h := by
  refine jC.of ok_X_otherSide.1 (by rw [jlg]; exact Nat.le_of_ble_eq_true rfl) ?_
  show jG E _ 0 [(0, (0, a0))] [] h _ _
  unfold f_X_otherSide at hv
  refine jG.blk (st_X_otherSide) 3 (pc1 := 3) (L1 := [(0, (0, a0))]) (st1 := [(0, jsub 1 a0)]) (h1 := h) rfl ?_
  cases hv
  exact jT.iret (st_X_otherSide) rfl trivial
def f_X_shifted (h : jH) (a0 : Int) (a1 : Int) (a2 : Int) : Option (Int) := some (if jadd (jand a0 7) a1 < 0 then (-1) else if 7 < jadd (jand a0 7) a1 then (-1) else if jadd (jshr a0 3) a2 < 0 then (-1) else if jadd (jshr a0 3) a2 ≤ 7 then jadd (jmul 8 (jadd (jshr a0 3) a2)) (jadd (jand a0 7) a1) else (-1))
set_option maxRecDepth 100000 in
set_option maxHeartbeats 4000000 in
theorem C_X_shifted {E : jE} {h : jH} {a0 : Int} {a1 : Int} {a2 : Int} {res : Int} (hv : f_X_shifted h a0 a1 a2 = some res) : jC E M_X_shifted [(0, a0), (0, a1), (0, a2)] h (some (0, res)) h := by
  refine jC.of ok_X_shifted.1 (by rw [jlg]; exact Nat.le_of_ble_eq_true rfl) ?_
  show jG E _ 0 [(0, (0, a0)), (1, (0, a1)), (2, (0, a2))] [] h _ _
  unfold f_X_shifted at hv
  refine jG.blk (st_X_shifted) 13 (pc1 := 15) (L1 := [(4, (0, jadd (jshr a0 3) a2)), (3, (0, jadd (jand a0 7) a1)), (0, (0, a0)), (1, (0, a1)), (2, (0, a2))]) (st1 := [(0, jadd (jand a0 7) a1)]) (h1 := h) rfl ?_
  refine jT.if1 (st_X_shifted) rfl (tgt := 36) (by decide) (fun hc => ?_) (fun hc => ?_)
  · have hc : jadd (jand a0 7) a1 < 0 := hc
    try rw [if_pos hc] at hv
    refine jG.blk (st_X_shifted) 1 (pc1 := 37) (L1 := [(4, (0, jadd (jshr a0 3) a2)), (3, (0, jadd (jand a0 7) a1)), (0, (0, a0)), (1, (0, a1)), (2, (0, a2))]) (st1 := [(0, (-1))]) (h1 := h) rfl ?_
    cases hv
    exact jT.iret (st_X_shifted) rfl trivial
  · have hc : ¬ (jadd (jand a0 7) a1 < 0) := hc
    try rw [if_neg hc] at hv
    refine jG.blk (st_X_shifted) 2 (pc1 := 21) (L1 := [(4, (0, jadd (jshr a0 3) a2)), (3, (0, jadd (jand a0 7) a1)), (0, (0, a0)), (1, (0, a1)), (2, (0, a2))]) (st1 := [(0, 7), (0, jadd (jand a0 7) a1)]) (h1 := h) rfl ?_
    refine jT.if2 (st_X_shifted) rfl (tgt := 36) (by decide) (fun hc => ?_) (fun hc => ?_)
    · have hc : 7 < jadd (jand a0 7) a1 := hc
      try rw [if_pos hc] at hv
      refine jG.blk (st_X_shifted) 1 (pc1 := 37) (L1 := [(4, (0, jadd (jshr a0 3) a2)), (3, (0, jadd (jand a0 7) a1)), (0, (0, a0)), (1, (0, a1)), (2, (0, a2))]) (st1 := [(0, (-1))]) (h1 := h) rfl ?_
      cases hv
      exact jT.iret (st_X_shifted) rfl trivial
    · have hc : ¬ (7 < jadd (jand a0 7) a1) := hc
      try rw [if_neg hc] at hv
      refine jG.blk (st_X_shifted) 1 (pc1 := 26) (L1 := [(4, (0, jadd (jshr a0 3) a2)), (3, (0, jadd (jand a0 7) a1)), (0, (0, a0)), (1, (0, a1)), (2, (0, a2))]) (st1 := [(0, jadd (jshr a0 3) a2)]) (h1 := h) rfl ?_
      refine jT.if1 (st_X_shifted) rfl (tgt := 36) (by decide) (fun hc => ?_) (fun hc => ?_)
      · have hc : jadd (jshr a0 3) a2 < 0 := hc
        try rw [if_pos hc] at hv
        refine jG.blk (st_X_shifted) 1 (pc1 := 37) (L1 := [(4, (0, jadd (jshr a0 3) a2)), (3, (0, jadd (jand a0 7) a1)), (0, (0, a0)), (1, (0, a1)), (2, (0, a2))]) (st1 := [(0, (-1))]) (h1 := h) rfl ?_
        cases hv
        exact jT.iret (st_X_shifted) rfl trivial
      · have hc : ¬ (jadd (jshr a0 3) a2 < 0) := hc
        try rw [if_neg hc] at hv
        refine jG.blk (st_X_shifted) 2 (pc1 := 33) (L1 := [(4, (0, jadd (jshr a0 3) a2)), (3, (0, jadd (jand a0 7) a1)), (0, (0, a0)), (1, (0, a1)), (2, (0, a2))]) (st1 := [(0, 7), (0, jadd (jshr a0 3) a2)]) (h1 := h) rfl ?_
        refine jT.if2 (st_X_shifted) rfl (tgt := 38) (by decide) (fun hc => ?_) (fun hc => ?_)
        · have hc : jadd (jshr a0 3) a2 ≤ 7 := hc
          try rw [if_pos hc] at hv
          refine jG.blk (st_X_shifted) 5 (pc1 := 45) (L1 := [(4, (0, jadd (jshr a0 3) a2)), (3, (0, jadd (jand a0 7) a1)), (0, (0, a0)), (1, (0, a1)), (2, (0, a2))]) (st1 := [(0, jadd (jmul 8 (jadd (jshr a0 3) a2)) (jadd (jand a0 7) a1))]) (h1 := h) rfl ?_
          cases hv
          exact jT.iret (st_X_shifted) rfl trivial
        · have hc : ¬ (jadd (jshr a0 3) a2 ≤ 7) := hc
          try rw [if_neg hc] at hv
          refine jG.blk (st_X_shifted) 1 (pc1 := 37) (L1 := [(4, (0, jadd (jshr a0 3) a2)), (3, (0, jadd (jand a0 7) a1)), (0, (0, a0)), (1, (0, a1)), (2, (0, a2))]) (st1 := [(0, (-1))]) (h1 := h) rfl ?_
          cases hv
          exact jT.iret (st_X_shifted) rfl trivial
def f_X_sideOf (h : jH) (a0 : Int) : Option (Int) := some (if a0 = 0 then (-1) else if a0 ≤ 6 then 0 else 1)
set_option maxRecDepth 100000 in
set_option maxHeartbeats 4000000 in
theorem C_X_sideOf {E : jE} {h : jH} {a0 : Int} {res : Int} (hv : f_X_sideOf h a0 = some res) : jC E M_X_sideOf [(0, a0)] h (some (0, res)) h := by
  refine jC.of ok_X_sideOf.1 (by rw [jlg]; exact Nat.le_of_ble_eq_true rfl) ?_
  show jG E _ 0 [(0, (0, a0))] [] h _ _
  unfold f_X_sideOf at hv
  refine jG.blk (st_X_sideOf) 1 (pc1 := 1) (L1 := [(0, (0, a0))]) (st1 := [(0, a0)]) (h1 := h) rfl ?_
  refine jT.if1 (st_X_sideOf) rfl (tgt := 6) (by decide) (fun hc => ?_) (fun hc => ?_)
  · have hc : ¬ (a0 = 0) := hc
    try rw [if_neg hc] at hv
    refine jG.blk (st_X_sideOf) 2 (pc1 := 9) (L1 := [(0, (0, a0))]) (st1 := [(0, 6), (0, a0)]) (h1 := h) rfl ?_
    refine jT.if2 (st_X_sideOf) rfl (tgt := 16) (by decide) (fun hc => ?_) (fun hc => ?_)
    · have hc : a0 ≤ 6 := hc
      try rw [if_pos hc] at hv
      refine jG.blk (st_X_sideOf) 1 (pc1 := 17) (L1 := [(0, (0, a0))]) (st1 := [(0, 0)]) (h1 := h) rfl ?_
      cases hv
      exact jT.iret (st_X_sideOf) rfl trivial
    · have hc : ¬ (a0 ≤ 6) := hc
      try rw [if_neg hc] at hv
      refine jG.blk (st_X_sideOf) 1 (pc1 := 13) (L1 := [(0, (0, a0))]) (st1 := [(0, 1)]) (h1 := h) rfl ?_
      refine jT.goto (st_X_sideOf) rfl (tgt := 17) (by decide) ?_
      cases hv
      exact jT.iret (st_X_sideOf) rfl trivial
  · have hc : a0 = 0 := Decidable.not_not.mp hc
    try rw [if_pos hc] at hv
    refine jG.blk (st_X_sideOf) 1 (pc1 := 5) (L1 := [(0, (0, a0))]) (st1 := [(0, (-1))]) (h1 := h) rfl ?_
    cases hv
    exact jT.iret (st_X_sideOf) rfl trivial
def f_X_forwardOf (h : jH) (a0 : Int) : Option (Int) := some (if a0 = 0 then 1 else (-1))
set_option maxRecDepth 100000 in
set_option maxHeartbeats 4000000 in
theorem C_X_forwardOf {E : jE} {h : jH} {a0 : Int} {res : Int} (hv : f_X_forwardOf h a0 = some res) : jC E M_X_forwardOf [(0, a0)] h (some (0, res)) h := by
  refine jC.of ok_X_forwardOf.1 (by rw [jlg]; exact Nat.le_of_ble_eq_true rfl) ?_
  show jG E _ 0 [(0, (0, a0))] [] h _ _
  unfold f_X_forwardOf at hv
  refine jG.blk (st_X_forwardOf) 1 (pc1 := 1) (L1 := [(0, (0, a0))]) (st1 := [(0, a0)]) (h1 := h) rfl ?_
  refine jT.if1 (st_X_forwardOf) rfl (tgt := 8) (by decide) (fun hc => ?_) (fun hc => ?_)
  · have hc : ¬ (a0 = 0) := hc
    try rw [if_neg hc] at hv
    refine jG.blk (st_X_forwardOf) 1 (pc1 := 9) (L1 := [(0, (0, a0))]) (st1 := [(0, (-1))]) (h1 := h) rfl ?_
    cases hv
    exact jT.iret (st_X_forwardOf) rfl trivial
  · have hc : a0 = 0 := Decidable.not_not.mp hc
    try rw [if_pos hc] at hv
    refine jG.blk (st_X_forwardOf) 1 (pc1 := 5) (L1 := [(0, (0, a0))]) (st1 := [(0, 1)]) (h1 := h) rfl ?_
    refine jT.goto (st_X_forwardOf) rfl (tgt := 9) (by decide) ?_
    cases hv
    exact jT.iret (st_X_forwardOf) rfl trivial
def f_X_reachOf_j34 (h : jH) (l3 : Int) (l4 : Int) : Option (Int) := some (if l3 = 3 then if l4 = 0 then 7 else 0 else 0)
def f_X_reachOf_j11 (h : jH) (l1 : Int) (s2 : Int) : Option (Int) := if l1 = 6 then some 1 else if l1 = 5 then some 7 else if l1 = 4 then if s2 = 0 then f_X_reachOf_j34 h l1 s2 else some 7 else f_X_reachOf_j34 h l1 s2
def f_X_reachOf (h : jH) (a0 : Int) (a1 : Int) : Option (Int) := f_X_reachOf_j11 h a0 (if jand a1 1 = 0 then 1 else 0)
set_option maxRecDepth 100000 in
set_option maxHeartbeats 4000000 in
theorem f_X_reachOf_j34_ok (E : jE) {h : jH} {l3 : Int} {l4 : Int} {res : Int} (hv : f_X_reachOf_j34 h l3 l4 = some res) : jG E M_X_reachOf 34 [(0, (0, l3)), (2, (0, l4))] [] h (some (0, res)) h := by
  unfold f_X_reachOf_j34 at hv
  refine jG.blk (st_X_reachOf) 2 (pc1 := 36) (L1 := [(0, (0, l3)), (2, (0, l4))]) (st1 := [(0, 3), (0, l3)]) (h1 := h) rfl ?_
  refine jT.if2 (st_X_reachOf) rfl (tgt := 46) (by decide) (fun hc => ?_) (fun hc => ?_)
  · have hc : ¬ (l3 = 3) := hc
    try rw [if_neg hc] at hv
    refine jG.blk (st_X_reachOf) 1 (pc1 := 47) (L1 := [(0, (0, l3)), (2, (0, l4))]) (st1 := [(0, 0)]) (h1 := h) rfl ?_
    cases hv
    exact jT.iret (st_X_reachOf) rfl trivial
  · have hc : l3 = 3 := Decidable.not_not.mp hc
    try rw [if_pos hc] at hv
    refine jG.blk (st_X_reachOf) 1 (pc1 := 40) (L1 := [(0, (0, l3)), (2, (0, l4))]) (st1 := [(0, l4)]) (h1 := h) rfl ?_
    refine jT.if1 (st_X_reachOf) rfl (tgt := 46) (by decide) (fun hc => ?_) (fun hc => ?_)
    · have hc : ¬ (l4 = 0) := hc
      try rw [if_neg hc] at hv
      refine jG.blk (st_X_reachOf) 1 (pc1 := 47) (L1 := [(0, (0, l3)), (2, (0, l4))]) (st1 := [(0, 0)]) (h1 := h) rfl ?_
      cases hv
      exact jT.iret (st_X_reachOf) rfl trivial
    · have hc : l4 = 0 := Decidable.not_not.mp hc
      try rw [if_pos hc] at hv
      refine jG.blk (st_X_reachOf) 1 (pc1 := 45) (L1 := [(0, (0, l3)), (2, (0, l4))]) (st1 := [(0, 7)]) (h1 := h) rfl ?_
      cases hv
      exact jT.iret (st_X_reachOf) rfl trivial
set_option maxRecDepth 100000 in
set_option maxHeartbeats 4000000 in
theorem f_X_reachOf_j11_ok (E : jE) {h : jH} {l1 : Int} {s2 : Int} {res : Int} (hv : f_X_reachOf_j11 h l1 s2 = some res) : jG E M_X_reachOf 11 [(0, (0, l1))] [(0, s2)] h (some (0, res)) h := by
  unfold f_X_reachOf_j11 at hv
  refine jG.blk (st_X_reachOf) 3 (pc1 := 15) (L1 := [(2, (0, s2)), (0, (0, l1))]) (st1 := [(0, 6), (0, l1)]) (h1 := h) rfl ?_
  refine jT.if2 (st_X_reachOf) rfl (tgt := 20) (by decide) (fun hc => ?_) (fun hc => ?_)
  · have hc : ¬ (l1 = 6) := hc
    try rw [if_neg hc] at hv
    refine jG.blk (st_X_reachOf) 2 (pc1 := 22) (L1 := [(2, (0, s2)), (0, (0, l1))]) (st1 := [(0, 5), (0, l1)]) (h1 := h) rfl ?_
    refine jT.if2 (st_X_reachOf) rfl (tgt := 43) (by decide) (fun hc => ?_) (fun hc => ?_)
    · have hc : l1 = 5 := hc
      try rw [if_pos hc] at hv
      refine jG.blk (st_X_reachOf) 1 (pc1 := 45) (L1 := [(2, (0, s2)), (0, (0, l1))]) (st1 := [(0, 7)]) (h1 := h) rfl ?_
      cases hv
      exact jT.iret (st_X_reachOf) rfl trivial
    · have hc : ¬ (l1 = 5) := hc
      try rw [if_neg hc] at hv
      refine jG.blk (st_X_reachOf) 2 (pc1 := 27) (L1 := [(2, (0, s2)), (0, (0, l1))]) (st1 := [(0, 4), (0, l1)]) (h1 := h) rfl ?_
      refine jT.if2 (st_X_reachOf) rfl (tgt := 34) (by decide) (fun hc => ?_) (fun hc => ?_)
      · have hc : ¬ (l1 = 4) := hc
        try rw [if_neg hc] at hv
        refine jG.subp [1, 0] (L1 := [(0, (0, l1)), (2, (0, s2))]) rfl ?_
        exact f_X_reachOf_j34_ok E hv
      · have hc : l1 = 4 := Decidable.not_not.mp hc
        try rw [if_pos hc] at hv
        refine jG.blk (st_X_reachOf) 1 (pc1 := 31) (L1 := [(2, (0, s2)), (0, (0, l1))]) (st1 := [(0, s2)]) (h1 := h) rfl ?_
        refine jT.if1 (st_X_reachOf) rfl (tgt := 43) (by decide) (fun hc => ?_) (fun hc => ?_)
        · have hc : ¬ (s2 = 0) := hc
          try rw [if_neg hc] at hv
          refine jG.blk (st_X_reachOf) 1 (pc1 := 45) (L1 := [(2, (0, s2)), (0, (0, l1))]) (st1 := [(0, 7)]) (h1 := h) rfl ?_
          cases hv
          exact jT.iret (st_X_reachOf) rfl trivial
        · have hc : s2 = 0 := Decidable.not_not.mp hc
          try rw [if_pos hc] at hv
          refine jG.subp [1, 0] (L1 := [(0, (0, l1)), (2, (0, s2))]) rfl ?_
          exact f_X_reachOf_j34_ok E hv
  · have hc : l1 = 6 := Decidable.not_not.mp hc
    try rw [if_pos hc] at hv
    refine jG.blk (st_X_reachOf) 1 (pc1 := 19) (L1 := [(2, (0, s2)), (0, (0, l1))]) (st1 := [(0, 1)]) (h1 := h) rfl ?_
    cases hv
    exact jT.iret (st_X_reachOf) rfl trivial
set_option maxRecDepth 100000 in
set_option maxHeartbeats 4000000 in
theorem C_X_reachOf {E : jE} {h : jH} {a0 : Int} {a1 : Int} {res : Int} (hv : f_X_reachOf h a0 a1 = some res) : jC E M_X_reachOf [(0, a0), (0, a1)] h (some (0, res)) h := by
  refine jC.of ok_X_reachOf.1 (by rw [jlg]; exact Nat.le_of_ble_eq_true rfl) ?_
  show jG E _ 0 [(0, (0, a0)), (1, (0, a1))] [] h _ _
  unfold f_X_reachOf at hv
  refine jG.blk (st_X_reachOf) 3 (pc1 := 3) (L1 := [(0, (0, a0)), (1, (0, a1))]) (st1 := [(0, jand a1 1)]) (h1 := h) rfl ?_
  refine jT.if1 (st_X_reachOf) rfl (tgt := 10) (by decide) (fun hc => ?_) (fun hc => ?_)
  · have hc : ¬ (jand a1 1 = 0) := hc
    try rw [if_neg hc] at hv
    refine jG.blk (st_X_reachOf) 1 (pc1 := 11) (L1 := [(0, (0, a0)), (1, (0, a1))]) (st1 := [(0, 0)]) (h1 := h) rfl ?_
    refine jG.subp [0] (L1 := [(0, (0, a0))]) rfl ?_
    exact f_X_reachOf_j11_ok E hv
  · have hc : jand a1 1 = 0 := Decidable.not_not.mp hc
    try rw [if_pos hc] at hv
    refine jG.blk (st_X_reachOf) 1 (pc1 := 7) (L1 := [(0, (0, a0)), (1, (0, a1))]) (st1 := [(0, 1)]) (h1 := h) rfl ?_
    refine jT.goto (st_X_reachOf) rfl (tgt := 11) (by decide) ?_
    refine jG.subp [0] (L1 := [(0, (0, a0))]) rfl ?_
    exact f_X_reachOf_j11_ok E hv
def f_X_byteOf (h : jH) (a0 : Int) (a1 : Int) : Option (Int) := some (jand (jl2i (jlushr a0 (jmul 8 a1))) 255)
set_option maxRecDepth 100000 in
set_option maxHeartbeats 4000000 in
theorem C_X_byteOf {E : jE} {h : jH} {a0 : Int} {a1 : Int} {res : Int} (hv : f_X_byteOf h a0 a1 = some res) : jC E M_X_byteOf [(1, a0), (0, a1)] h (some (0, res)) h := by
  refine jC.of ok_X_byteOf.1 (by rw [jlg]; exact Nat.le_of_ble_eq_true rfl) ?_
  show jG E _ 0 [(0, (1, a0)), (2, (0, a1))] [] h _ _
  unfold f_X_byteOf at hv
  refine jG.blk (st_X_byteOf) 8 (pc1 := 11) (L1 := [(0, (1, a0)), (2, (0, a1))]) (st1 := [(0, jand (jl2i (jlushr a0 (jmul 8 a1))) 255)]) (h1 := h) rfl ?_
  cases hv
  exact jT.iret (st_X_byteOf) rfl trivial
end
section
def f_Bd_enterState (r : Nat) (h : jH) (a1 : Int) (a2 : Int) (a3 : Int) (a4 : Int) : Option (jH) := some (jup (jup (jup (jup h r 1 a1) r 2 a2) r 3 a3) r 4 a4)
set_option maxRecDepth 100000 in
set_option maxHeartbeats 4000000 in
theorem C_Bd_enterState {E : jE} {r : Nat} (hr : r = 2 ∨ r = 20) {h : jH} {a1 : Int} {a2 : Int} {a3 : Int} {a4 : Int} {res : jH} (hv : f_Bd_enterState r h a1 a2 a3 a4 = some res) : jC E M_Bd_enterState [(2, ((r : Nat) : Int)), (0, a1), (0, a2), (0, a3), (0, a4)] h none res := by
  rcases hr with rfl | rfl
  · refine jC.of ok_Bd_enterState.1 (by rw [jlg]; exact Nat.le_of_ble_eq_true rfl) ?_
    show jG E _ 0 [(0, (2, ((2 : Nat) : Int))), (1, (0, a1)), (2, (0, a2)), (3, (0, a3)), (4, (0, a4))] [] h _ _
    unfold f_Bd_enterState at hv
    refine jG.blk (st_Bd_enterState) 12 (pc1 := 21) (L1 := [(0, (2, ((2 : Nat) : Int))), (1, (0, a1)), (2, (0, a2)), (3, (0, a3)), (4, (0, a4))]) (st1 := []) (h1 := jup (jup (jup (jup h 2 1 a1) 2 2 a2) 2 3 a3) 2 4 a4) rfl ?_
    cases hv
    exact jT.vret (st_Bd_enterState) rfl trivial
  · refine jC.of ok_Bd_enterState.1 (by rw [jlg]; exact Nat.le_of_ble_eq_true rfl) ?_
    show jG E _ 0 [(0, (2, ((20 : Nat) : Int))), (1, (0, a1)), (2, (0, a2)), (3, (0, a3)), (4, (0, a4))] [] h _ _
    unfold f_Bd_enterState at hv
    refine jG.blk (st_Bd_enterState) 12 (pc1 := 21) (L1 := [(0, (2, ((20 : Nat) : Int))), (1, (0, a1)), (2, (0, a2)), (3, (0, a3)), (4, (0, a4))]) (st1 := []) (h1 := jup (jup (jup (jup h 20 1 a1) 20 2 a2) 20 3 a3) 20 4 a4) rfl ?_
    cases hv
    exact jT.vret (st_Bd_enterState) rfl trivial
def f_Bd_wipe (r : Nat) (h : jH) : Option (jH) := (f_Ja_fillI (r + 1) h 0).bind fun v1 => (f_Bd_enterState r v1 0 0 (-1) 0).bind fun v2 => some v2
set_option maxRecDepth 100000 in
set_option maxHeartbeats 4000000 in
theorem C_Bd_wipe {E : jE} {r : Nat} (hr : r = 2 ∨ r = 20) {h : jH} {res : jH} (hv : f_Bd_wipe r h = some res) : jC E M_Bd_wipe [(2, ((r : Nat) : Int))] h none res := by
  rcases hr with rfl | rfl
  · refine jC.of ok_Bd_wipe.1 (by rw [jlg]; exact Nat.le_of_ble_eq_true rfl) ?_
    show jG E _ 0 [(0, (2, ((2 : Nat) : Int)))] [] h _ _
    unfold f_Bd_wipe at hv
    refine jG.blk (st_Bd_wipe) 3 (pc1 := 5) (L1 := [(0, (2, ((2 : Nat) : Int)))]) (st1 := [(0, 0), (2, ((2 + 1 : Nat) : Int))]) (h1 := h) rfl ?_
    obtain ⟨v1, hq, hv⟩ := Option.bind_eq_some_iff.mp hv
    refine jT.cS (M1 := M_Ja_fillI) [(2, ((2 + 1 : Nat) : Int)), (0, 0)] [] (st_Bd_wipe) rfl rfl ok_Ja_fillI rfl (Nat.le_of_ble_eq_true rfl) (Nat.le_of_ble_eq_true rfl) rfl (Nat.le_of_ble_eq_true rfl) (C_Ja_fillI (by decide) hq) ?_
    show jG E _ 8 [(0, (2, ((2 : Nat) : Int)))] [] v1 _ _
    refine jG.blk (st_Bd_wipe) 5 (pc1 := 13) (L1 := [(0, (2, ((2 : Nat) : Int)))]) (st1 := [(0, 0), (0, (-1)), (0, 0), (0, 0), (2, ((2 : Nat) : Int))]) (h1 := v1) rfl ?_
    obtain ⟨v2, hq, hv⟩ := Option.bind_eq_some_iff.mp hv
    refine jT.cV (M1 := M_Bd_enterState) (2, ((2 : Nat) : Int)) [(0, 0), (0, 0), (0, (-1)), (0, 0)] [] (st_Bd_wipe) rfl rfl ok_Bd_enterState rfl (Or.inl ⟨rfl, _, _, _, rfl, rfl⟩) (Nat.le_of_ble_eq_true rfl) (Nat.le_of_ble_eq_true rfl) rfl (Nat.le_of_ble_eq_true rfl) (C_Bd_enterState (by decide) hq) ?_
    show jG E _ 16 [(0, (2, ((2 : Nat) : Int)))] [] v2 _ _
    cases hv
    exact jT.vret (st_Bd_wipe) rfl trivial
  · refine jC.of ok_Bd_wipe.1 (by rw [jlg]; exact Nat.le_of_ble_eq_true rfl) ?_
    show jG E _ 0 [(0, (2, ((20 : Nat) : Int)))] [] h _ _
    unfold f_Bd_wipe at hv
    refine jG.blk (st_Bd_wipe) 3 (pc1 := 5) (L1 := [(0, (2, ((20 : Nat) : Int)))]) (st1 := [(0, 0), (2, ((20 + 1 : Nat) : Int))]) (h1 := h) rfl ?_
    obtain ⟨v1, hq, hv⟩ := Option.bind_eq_some_iff.mp hv
    refine jT.cS (M1 := M_Ja_fillI) [(2, ((20 + 1 : Nat) : Int)), (0, 0)] [] (st_Bd_wipe) rfl rfl ok_Ja_fillI rfl (Nat.le_of_ble_eq_true rfl) (Nat.le_of_ble_eq_true rfl) rfl (Nat.le_of_ble_eq_true rfl) (C_Ja_fillI (by decide) hq) ?_
    show jG E _ 8 [(0, (2, ((20 : Nat) : Int)))] [] v1 _ _
    refine jG.blk (st_Bd_wipe) 5 (pc1 := 13) (L1 := [(0, (2, ((20 : Nat) : Int)))]) (st1 := [(0, 0), (0, (-1)), (0, 0), (0, 0), (2, ((20 : Nat) : Int))]) (h1 := v1) rfl ?_
    obtain ⟨v2, hq, hv⟩ := Option.bind_eq_some_iff.mp hv
    refine jT.cV (M1 := M_Bd_enterState) (2, ((20 : Nat) : Int)) [(0, 0), (0, 0), (0, (-1)), (0, 0)] [] (st_Bd_wipe) rfl rfl ok_Bd_enterState rfl (Or.inl ⟨rfl, _, _, _, rfl, rfl⟩) (Nat.le_of_ble_eq_true rfl) (Nat.le_of_ble_eq_true rfl) rfl (Nat.le_of_ble_eq_true rfl) (C_Bd_enterState (by decide) hq) ?_
    show jG E _ 16 [(0, (2, ((20 : Nat) : Int)))] [] v2 _ _
    cases hv
    exact jT.vret (st_Bd_wipe) rfl trivial
def f_Bd_copyFrom (r : Nat) (o : Nat) (h : jH) : Option (jH) := (f_Bd_enterState r (jcp h (r + 1) (fun k => if k < 64 then h (o + 1) k else h (r + 1) k)) ((jcp h (r + 1) (fun k => if k < 64 then h (o + 1) k else h (r + 1) k)) o 1) ((jcp h (r + 1) (fun k => if k < 64 then h (o + 1) k else h (r + 1) k)) o 2) ((jcp h (r + 1) (fun k => if k < 64 then h (o + 1) k else h (r + 1) k)) o 3) ((jcp h (r + 1) (fun k => if k < 64 then h (o + 1) k else h (r + 1) k)) o 4)).bind fun v1 => some v1
set_option maxRecDepth 100000 in
set_option maxHeartbeats 4000000 in
theorem C_Bd_copyFrom {E : jE} {r : Nat} {o : Nat} (hr : (r = 2 ∧ o = 20) ∨ (r = 20 ∧ o = 2)) {h : jH} {res : jH} (hv : f_Bd_copyFrom r o h = some res) : jC E M_Bd_copyFrom [(2, ((r : Nat) : Int)), (2, ((o : Nat) : Int))] h none res := by
  rcases hr with ⟨rfl, rfl⟩ | ⟨rfl, rfl⟩
  · refine jC.of ok_Bd_copyFrom.1 (by rw [jlg]; exact Nat.le_of_ble_eq_true rfl) ?_
    show jG E _ 0 [(0, (2, ((2 : Nat) : Int))), (1, (2, ((20 : Nat) : Int)))] [] h _ _
    unfold f_Bd_copyFrom at hv
    refine jG.blk (st_Bd_copyFrom) 7 (pc1 := 12) (L1 := [(0, (2, ((2 : Nat) : Int))), (1, (2, ((20 : Nat) : Int)))]) (st1 := [(0, 64), (0, 0), (2, ((2 + 1 : Nat) : Int)), (0, 0), (2, ((20 + 1 : Nat) : Int))]) (h1 := h) rfl ?_
    refine jT.acp (a0 := 20 + 1) (a := 2 + 1) (rest := []) (st_Bd_copyFrom) rfl rfl rfl (by decide) (by decide) (by decide) (by decide) (Nat.le_of_ble_eq_true rfl) ?_
    refine jG.blk (st_Bd_copyFrom) 9 (pc1 := 32) (L1 := [(0, (2, ((2 : Nat) : Int))), (1, (2, ((20 : Nat) : Int)))]) (st1 := [(0, (jcp h (2 + 1) (fun k => if k < 64 then h (20 + 1) k else h (2 + 1) k)) 20 4), (0, (jcp h (2 + 1) (fun k => if k < 64 then h (20 + 1) k else h (2 + 1) k)) 20 3), (0, (jcp h (2 + 1) (fun k => if k < 64 then h (20 + 1) k else h (2 + 1) k)) 20 2), (0, (jcp h (2 + 1) (fun k => if k < 64 then h (20 + 1) k else h (2 + 1) k)) 20 1), (2, ((2 : Nat) : Int))]) (h1 := jcp h (2 + 1) (fun k => if k < 64 then h (20 + 1) k else h (2 + 1) k)) rfl ?_
    obtain ⟨v1, hq, hv⟩ := Option.bind_eq_some_iff.mp hv
    refine jT.cV (M1 := M_Bd_enterState) (2, ((2 : Nat) : Int)) [(0, (jcp h (2 + 1) (fun k => if k < 64 then h (20 + 1) k else h (2 + 1) k)) 20 1), (0, (jcp h (2 + 1) (fun k => if k < 64 then h (20 + 1) k else h (2 + 1) k)) 20 2), (0, (jcp h (2 + 1) (fun k => if k < 64 then h (20 + 1) k else h (2 + 1) k)) 20 3), (0, (jcp h (2 + 1) (fun k => if k < 64 then h (20 + 1) k else h (2 + 1) k)) 20 4)] [] (st_Bd_copyFrom) rfl rfl ok_Bd_enterState rfl (Or.inl ⟨rfl, _, _, _, rfl, rfl⟩) (Nat.le_of_ble_eq_true rfl) (Nat.le_of_ble_eq_true rfl) rfl (Nat.le_of_ble_eq_true rfl) (C_Bd_enterState (by decide) hq) ?_
    show jG E _ 35 [(0, (2, ((2 : Nat) : Int))), (1, (2, ((20 : Nat) : Int)))] [] v1 _ _
    cases hv
    exact jT.vret (st_Bd_copyFrom) rfl trivial
  · refine jC.of ok_Bd_copyFrom.1 (by rw [jlg]; exact Nat.le_of_ble_eq_true rfl) ?_
    show jG E _ 0 [(0, (2, ((20 : Nat) : Int))), (1, (2, ((2 : Nat) : Int)))] [] h _ _
    unfold f_Bd_copyFrom at hv
    refine jG.blk (st_Bd_copyFrom) 7 (pc1 := 12) (L1 := [(0, (2, ((20 : Nat) : Int))), (1, (2, ((2 : Nat) : Int)))]) (st1 := [(0, 64), (0, 0), (2, ((20 + 1 : Nat) : Int)), (0, 0), (2, ((2 + 1 : Nat) : Int))]) (h1 := h) rfl ?_
    refine jT.acp (a0 := 2 + 1) (a := 20 + 1) (rest := []) (st_Bd_copyFrom) rfl rfl rfl (by decide) (by decide) (by decide) (by decide) (Nat.le_of_ble_eq_true rfl) ?_
    refine jG.blk (st_Bd_copyFrom) 9 (pc1 := 32) (L1 := [(0, (2, ((20 : Nat) : Int))), (1, (2, ((2 : Nat) : Int)))]) (st1 := [(0, (jcp h (20 + 1) (fun k => if k < 64 then h (2 + 1) k else h (20 + 1) k)) 2 4), (0, (jcp h (20 + 1) (fun k => if k < 64 then h (2 + 1) k else h (20 + 1) k)) 2 3), (0, (jcp h (20 + 1) (fun k => if k < 64 then h (2 + 1) k else h (20 + 1) k)) 2 2), (0, (jcp h (20 + 1) (fun k => if k < 64 then h (2 + 1) k else h (20 + 1) k)) 2 1), (2, ((20 : Nat) : Int))]) (h1 := jcp h (20 + 1) (fun k => if k < 64 then h (2 + 1) k else h (20 + 1) k)) rfl ?_
    obtain ⟨v1, hq, hv⟩ := Option.bind_eq_some_iff.mp hv
    refine jT.cV (M1 := M_Bd_enterState) (2, ((20 : Nat) : Int)) [(0, (jcp h (20 + 1) (fun k => if k < 64 then h (2 + 1) k else h (20 + 1) k)) 2 1), (0, (jcp h (20 + 1) (fun k => if k < 64 then h (2 + 1) k else h (20 + 1) k)) 2 2), (0, (jcp h (20 + 1) (fun k => if k < 64 then h (2 + 1) k else h (20 + 1) k)) 2 3), (0, (jcp h (20 + 1) (fun k => if k < 64 then h (2 + 1) k else h (20 + 1) k)) 2 4)] [] (st_Bd_copyFrom) rfl rfl ok_Bd_enterState rfl (Or.inl ⟨rfl, _, _, _, rfl, rfl⟩) (Nat.le_of_ble_eq_true rfl) (Nat.le_of_ble_eq_true rfl) rfl (Nat.le_of_ble_eq_true rfl) (C_Bd_enterState (by decide) hq) ?_
    show jG E _ 35 [(0, (2, ((20 : Nat) : Int))), (1, (2, ((2 : Nat) : Int)))] [] v1 _ _
    cases hv
    exact jT.vret (st_Bd_copyFrom) rfl trivial
def f_Bd_hasKingsAndPawnsRight_j65_6 (rc : Int → Int → Int → Option (Int)) (k : Int → Int → Int → Option (Int)) (h : jH) (l10 : Int) (l11 : Int) (l12 : Int) (s13 : Int) (s14 : Int) : Option (Int) := (f_X_pieceOf h 6 1).bind fun v15 => rc (jadd s14 s13) (if l12 = v15 then jadd l10 1 else jadd l10 0) (jadd l11 1)
def f_Bd_hasKingsAndPawnsRight_j48_6 (rc : Int → Int → Int → Option (Int)) (k : Int → Int → Int → Option (Int)) (h : jH) (l5 : Int) (l6 : Int) (l7 : Int) (l8 : Int) : Option (Int) := (f_X_pieceOf h 6 0).bind fun v9 => f_Bd_hasKingsAndPawnsRight_j65_6 rc k h l6 l7 l8 (if l8 = v9 then 1 else 0) l5
def f_Bd_hasKingsAndPawnsRight_lp6 (h : jH) (k : Int → Int → Int → Option (Int)) : Nat → Int → Int → Int → Option (Int)
  | 0, _, _, _ => none
  | n + 1, l1, l2, l3 => if 64 ≤ l3 then k l1 l2 l3 else jgd (0 ≤ l3 ∧ l3 < 64) ((f_X_kindOf h (h 21 l3.toNat)).bind fun v4 => if v4 = 1 then if jshr l3 3 = 0 then some 0 else if jshr l3 3 = 7 then some 0 else f_Bd_hasKingsAndPawnsRight_j48_6 (f_Bd_hasKingsAndPawnsRight_lp6 h k n) k h l1 l2 l3 (h 21 l3.toNat) else f_Bd_hasKingsAndPawnsRight_j48_6 (f_Bd_hasKingsAndPawnsRight_lp6 h k n) k h l1 l2 l3 (h 21 l3.toNat))
def f_Bd_hasKingsAndPawnsRight (h : jH) : Option (Int) := f_Bd_hasKingsAndPawnsRight_lp6 h (fun l16 l17 l18 => some (if l16 = 1 then if l17 = 1 then 1 else 0 else 0)) 1000 0 0 0
set_option maxRecDepth 100000 in
set_option maxHeartbeats 4000000 in
theorem f_Bd_hasKingsAndPawnsRight_j65_6_ok (E : jE) {rc : Int → Int → Int → Option (Int)} {k : Int → Int → Int → Option (Int)} {h : jH} (hrc : ∀ (l1 : Int) (l2 : Int) (l3 : Int) (res : Int), rc l1 l2 l3 = some res → jG E M_Bd_hasKingsAndPawnsRight 6 [(0, (2, ((20 : Nat) : Int))), (1, (0, l1)), (2, (0, l2)), (3, (0, l3))] [] h (some (0, res)) h) (hk : ∀ (l1 : Int) (l2 : Int) (l3 : Int) (res : Int), k l1 l2 l3 = some res → jG E M_Bd_hasKingsAndPawnsRight 92 [(1, (0, l1)), (2, (0, l2))] [] h (some (0, res)) h) {l10 : Int} {l11 : Int} {l12 : Int} {s13 : Int} {s14 : Int} {res : Int} (hv : f_Bd_hasKingsAndPawnsRight_j65_6 rc k h l10 l11 l12 s13 s14 = some res) : jG E M_Bd_hasKingsAndPawnsRight 65 [(0, (2, ((20 : Nat) : Int))), (2, (0, l10)), (3, (0, l11)), (4, (0, l12))] [(0, s13), (0, s14)] h (some (0, res)) h := by
  unfold f_Bd_hasKingsAndPawnsRight_j65_6 at hv
  refine jG.blk (st_Bd_hasKingsAndPawnsRight) 6 (pc1 := 73) (L1 := [(1, (0, jadd s14 s13)), (0, (2, ((20 : Nat) : Int))), (2, (0, l10)), (3, (0, l11)), (4, (0, l12))]) (st1 := [(0, 1), (0, 6), (0, l12), (0, l10)]) (h1 := h) rfl ?_
  obtain ⟨v15, hq, hv⟩ := Option.bind_eq_some_iff.mp hv
  refine jT.cSN (M1 := M_X_pieceOf) [(0, 6), (0, 1)] [(0, l12), (0, l10)] (st_Bd_hasKingsAndPawnsRight) rfl rfl ok_X_pieceOf rfl (Nat.le_of_ble_eq_true rfl) (Nat.le_of_ble_eq_true rfl) rfl (Nat.le_of_ble_eq_true rfl) (C_X_pieceOf hq) ?_
  show jG E _ 76 [(1, (0, jadd s14 s13)), (0, (2, ((20 : Nat) : Int))), (2, (0, l10)), (3, (0, l11)), (4, (0, l12))] [(0, v15), (0, l12), (0, l10)] h _ _
  refine jT.if2 (st_Bd_hasKingsAndPawnsRight) rfl (tgt := 83) (by decide) (fun hc => ?_) (fun hc => ?_)
  · have hc : ¬ (l12 = v15) := hc
    try rw [if_neg hc] at hv
    refine jG.blk (st_Bd_hasKingsAndPawnsRight) 4 (pc1 := 89) (L1 := [(3, (0, jadd l11 1)), (2, (0, jadd l10 0)), (1, (0, jadd s14 s13)), (0, (2, ((20 : Nat) : Int))), (4, (0, l12))]) (st1 := []) (h1 := h) rfl ?_
    refine jT.goto (st_Bd_hasKingsAndPawnsRight) rfl (tgt := 6) (by decide) ?_
    refine jG.subp [3, 2, 1, 0] (L1 := [(0, (2, ((20 : Nat) : Int))), (1, (0, jadd s14 s13)), (2, (0, jadd l10 0)), (3, (0, jadd l11 1))]) rfl ?_
    exact hrc _ _ _ _ hv
  · have hc : l12 = v15 := Decidable.not_not.mp hc
    try rw [if_pos hc] at hv
    refine jG.blk (st_Bd_hasKingsAndPawnsRight) 1 (pc1 := 80) (L1 := [(1, (0, jadd s14 s13)), (0, (2, ((20 : Nat) : Int))), (2, (0, l10)), (3, (0, l11)), (4, (0, l12))]) (st1 := [(0, 1), (0, l10)]) (h1 := h) rfl ?_
    refine jT.goto (st_Bd_hasKingsAndPawnsRight) rfl (tgt := 84) (by decide) ?_
    refine jG.blk (st_Bd_hasKingsAndPawnsRight) 3 (pc1 := 89) (L1 := [(3, (0, jadd l11 1)), (2, (0, jadd l10 1)), (1, (0, jadd s14 s13)), (0, (2, ((20 : Nat) : Int))), (4, (0, l12))]) (st1 := []) (h1 := h) rfl ?_
    refine jT.goto (st_Bd_hasKingsAndPawnsRight) rfl (tgt := 6) (by decide) ?_
    refine jG.subp [3, 2, 1, 0] (L1 := [(0, (2, ((20 : Nat) : Int))), (1, (0, jadd s14 s13)), (2, (0, jadd l10 1)), (3, (0, jadd l11 1))]) rfl ?_
    exact hrc _ _ _ _ hv
set_option maxRecDepth 100000 in
set_option maxHeartbeats 4000000 in
theorem f_Bd_hasKingsAndPawnsRight_j48_6_ok (E : jE) {rc : Int → Int → Int → Option (Int)} {k : Int → Int → Int → Option (Int)} {h : jH} (hrc : ∀ (l1 : Int) (l2 : Int) (l3 : Int) (res : Int), rc l1 l2 l3 = some res → jG E M_Bd_hasKingsAndPawnsRight 6 [(0, (2, ((20 : Nat) : Int))), (1, (0, l1)), (2, (0, l2)), (3, (0, l3))] [] h (some (0, res)) h) (hk : ∀ (l1 : Int) (l2 : Int) (l3 : Int) (res : Int), k l1 l2 l3 = some res → jG E M_Bd_hasKingsAndPawnsRight 92 [(1, (0, l1)), (2, (0, l2))] [] h (some (0, res)) h) {l5 : Int} {l6 : Int} {l7 : Int} {l8 : Int} {res : Int} (hv : f_Bd_hasKingsAndPawnsRight_j48_6 rc k h l5 l6 l7 l8 = some res) : jG E M_Bd_hasKingsAndPawnsRight 48 [(0, (2, ((20 : Nat) : Int))), (1, (0, l5)), (2, (0, l6)), (3, (0, l7)), (4, (0, l8))] [] h (some (0, res)) h := by
  unfold f_Bd_hasKingsAndPawnsRight_j48_6 at hv
  refine jG.blk (st_Bd_hasKingsAndPawnsRight) 4 (pc1 := 54) (L1 := [(0, (2, ((20 : Nat) : Int))), (1, (0, l5)), (2, (0, l6)), (3, (0, l7)), (4, (0, l8))]) (st1 := [(0, 0), (0, 6), (0, l8), (0, l5)]) (h1 := h) rfl ?_
  obtain ⟨v9, hq, hv⟩ := Option.bind_eq_some_iff.mp hv
  refine jT.cSN (M1 := M_X_pieceOf) [(0, 6), (0, 0)] [(0, l8), (0, l5)] (st_Bd_hasKingsAndPawnsRight) rfl rfl ok_X_pieceOf rfl (Nat.le_of_ble_eq_true rfl) (Nat.le_of_ble_eq_true rfl) rfl (Nat.le_of_ble_eq_true rfl) (C_X_pieceOf hq) ?_
  show jG E _ 57 [(0, (2, ((20 : Nat) : Int))), (1, (0, l5)), (2, (0, l6)), (3, (0, l7)), (4, (0, l8))] [(0, v9), (0, l8), (0, l5)] h _ _
  refine jT.if2 (st_Bd_hasKingsAndPawnsRight) rfl (tgt := 64) (by decide) (fun hc => ?_) (fun hc => ?_)
  · have hc : ¬ (l8 = v9) := hc
    try rw [if_neg hc] at hv
    refine jG.blk (st_Bd_hasKingsAndPawnsRight) 1 (pc1 := 65) (L1 := [(0, (2, ((20 : Nat) : Int))), (1, (0, l5)), (2, (0, l6)), (3, (0, l7)), (4, (0, l8))]) (st1 := [(0, 0), (0, l5)]) (h1 := h) rfl ?_
    refine jG.subp [0, 2, 3, 4] (L1 := [(0, (2, ((20 : Nat) : Int))), (2, (0, l6)), (3, (0, l7)), (4, (0, l8))]) rfl ?_
    exact f_Bd_hasKingsAndPawnsRight_j65_6_ok E hrc hk hv
  · have hc : l8 = v9 := Decidable.not_not.mp hc
    try rw [if_pos hc] at hv
    refine jG.blk (st_Bd_hasKingsAndPawnsRight) 1 (pc1 := 61) (L1 := [(0, (2, ((20 : Nat) : Int))), (1, (0, l5)), (2, (0, l6)), (3, (0, l7)), (4, (0, l8))]) (st1 := [(0, 1), (0, l5)]) (h1 := h) rfl ?_
    refine jT.goto (st_Bd_hasKingsAndPawnsRight) rfl (tgt := 65) (by decide) ?_
    refine jG.subp [0, 2, 3, 4] (L1 := [(0, (2, ((20 : Nat) : Int))), (2, (0, l6)), (3, (0, l7)), (4, (0, l8))]) rfl ?_
    exact f_Bd_hasKingsAndPawnsRight_j65_6_ok E hrc hk hv
set_option maxRecDepth 100000 in
set_option maxHeartbeats 4000000 in
theorem f_Bd_hasKingsAndPawnsRight_lp6_ok (E : jE) {h : jH} {k : Int → Int → Int → Option (Int)} (hk : ∀ (l1 : Int) (l2 : Int) (l3 : Int) (res : Int), k l1 l2 l3 = some res → jG E M_Bd_hasKingsAndPawnsRight 92 [(1, (0, l1)), (2, (0, l2))] [] h (some (0, res)) h) : ∀ (n : Nat) (l1 : Int) (l2 : Int) (l3 : Int) (res : Int), f_Bd_hasKingsAndPawnsRight_lp6 h k n l1 l2 l3 = some res → jG E M_Bd_hasKingsAndPawnsRight 6 [(0, (2, ((20 : Nat) : Int))), (1, (0, l1)), (2, (0, l2)), (3, (0, l3))] [] h (some (0, res)) h := by
  intro n
  induction n with
  | zero => intro l1 l2 l3 res hv; cases hv
  | succ n ih =>
    intro l1 l2 l3 res hv
    rw [f_Bd_hasKingsAndPawnsRight_lp6] at hv
    refine jG.blk (st_Bd_hasKingsAndPawnsRight) 2 (pc1 := 9) (L1 := [(0, (2, ((20 : Nat) : Int))), (1, (0, l1)), (2, (0, l2)), (3, (0, l3))]) (st1 := [(0, 64), (0, l3)]) (h1 := h) rfl ?_
    refine jT.if2 (st_Bd_hasKingsAndPawnsRight) rfl (tgt := 92) (by decide) (fun hc => ?_) (fun hc => ?_)
    · have hc : 64 ≤ l3 := hc
      try rw [if_pos hc] at hv
      refine jG.subp [1, 2] (L1 := [(1, (0, l1)), (2, (0, l2))]) rfl ?_
      exact hk _ _ _ _ hv
    · have hc : ¬ (64 ≤ l3) := hc
      try rw [if_neg hc] at hv
      refine jG.blk (st_Bd_hasKingsAndPawnsRight) 3 (pc1 := 17) (L1 := [(0, (2, ((20 : Nat) : Int))), (1, (0, l1)), (2, (0, l2)), (3, (0, l3))]) (st1 := [(0, l3), (2, ((21 : Nat) : Int))]) (h1 := h) rfl ?_
      obtain ⟨hg, hv⟩ := jgd_some hv
      refine jT.iald (a := 21) (st_Bd_hasKingsAndPawnsRight) rfl rfl (by decide) hg.1 hg.2 ?_
      refine jG.blk (st_Bd_hasKingsAndPawnsRight) 6 (pc1 := 27) (L1 := [(5, (0, jshr l3 3)), (4, (0, h 21 l3.toNat)), (0, (2, ((20 : Nat) : Int))), (1, (0, l1)), (2, (0, l2)), (3, (0, l3))]) (st1 := [(0, h 21 l3.toNat)]) (h1 := h) rfl ?_
      obtain ⟨v4, hq, hv⟩ := Option.bind_eq_some_iff.mp hv
      refine jT.cSN (M1 := M_X_kindOf) [(0, h 21 l3.toNat)] [] (st_Bd_hasKingsAndPawnsRight) rfl rfl ok_X_kindOf rfl (Nat.le_of_ble_eq_true rfl) (Nat.le_of_ble_eq_true rfl) rfl (Nat.le_of_ble_eq_true rfl) (C_X_kindOf hq) ?_
      show jG E _ 30 [(5, (0, jshr l3 3)), (4, (0, h 21 l3.toNat)), (0, (2, ((20 : Nat) : Int))), (1, (0, l1)), (2, (0, l2)), (3, (0, l3))] [(0, v4)] h _ _
      refine jG.blk (st_Bd_hasKingsAndPawnsRight) 1 (pc1 := 31) (L1 := [(5, (0, jshr l3 3)), (4, (0, h 21 l3.toNat)), (0, (2, ((20 : Nat) : Int))), (1, (0, l1)), (2, (0, l2)), (3, (0, l3))]) (st1 := [(0, 1), (0, v4)]) (h1 := h) rfl ?_
      refine jT.if2 (st_Bd_hasKingsAndPawnsRight) rfl (tgt := 48) (by decide) (fun hc => ?_) (fun hc => ?_)
      · have hc : ¬ (v4 = 1) := hc
        try rw [if_neg hc] at hv
        refine jG.subp [2, 3, 4, 5, 1] (L1 := [(0, (2, ((20 : Nat) : Int))), (1, (0, l1)), (2, (0, l2)), (3, (0, l3)), (4, (0, h 21 l3.toNat))]) rfl ?_
        exact f_Bd_hasKingsAndPawnsRight_j48_6_ok E ih hk hv
      · have hc : v4 = 1 := Decidable.not_not.mp hc
        try rw [if_pos hc] at hv
        refine jG.blk (st_Bd_hasKingsAndPawnsRight) 1 (pc1 := 36) (L1 := [(5, (0, jshr l3 3)), (4, (0, h 21 l3.toNat)), (0, (2, ((20 : Nat) : Int))), (1, (0, l1)), (2, (0, l2)), (3, (0, l3))]) (st1 := [(0, jshr l3 3)]) (h1 := h) rfl ?_
        refine jT.if1 (st_Bd_hasKingsAndPawnsRight) rfl (tgt := 46) (by decide) (fun hc => ?_) (fun hc => ?_)
        · have hc : jshr l3 3 = 0 := hc
          try rw [if_pos hc] at hv
          refine jG.blk (st_Bd_hasKingsAndPawnsRight) 1 (pc1 := 47) (L1 := [(5, (0, jshr l3 3)), (4, (0, h 21 l3.toNat)), (0, (2, ((20 : Nat) : Int))), (1, (0, l1)), (2, (0, l2)), (3, (0, l3))]) (st1 := [(0, 0)]) (h1 := h) rfl ?_
          cases hv
          exact jT.iret (st_Bd_hasKingsAndPawnsRight) rfl (Or.inl rfl)
        · have hc : ¬ (jshr l3 3 = 0) := hc
          try rw [if_neg hc] at hv
          refine jG.blk (st_Bd_hasKingsAndPawnsRight) 2 (pc1 := 43) (L1 := [(5, (0, jshr l3 3)), (4, (0, h 21 l3.toNat)), (0, (2, ((20 : Nat) : Int))), (1, (0, l1)), (2, (0, l2)), (3, (0, l3))]) (st1 := [(0, 7), (0, jshr l3 3)]) (h1 := h) rfl ?_
          refine jT.if2 (st_Bd_hasKingsAndPawnsRight) rfl (tgt := 48) (by decide) (fun hc => ?_) (fun hc => ?_)
          · have hc : ¬ (jshr l3 3 = 7) := hc
            try rw [if_neg hc] at hv
            refine jG.subp [2, 3, 4, 5, 1] (L1 := [(0, (2, ((20 : Nat) : Int))), (1, (0, l1)), (2, (0, l2)), (3, (0, l3)), (4, (0, h 21 l3.toNat))]) rfl ?_
            exact f_Bd_hasKingsAndPawnsRight_j48_6_ok E ih hk hv
          · have hc : jshr l3 3 = 7 := Decidable.not_not.mp hc
            try rw [if_pos hc] at hv
            refine jG.blk (st_Bd_hasKingsAndPawnsRight) 1 (pc1 := 47) (L1 := [(5, (0, jshr l3 3)), (4, (0, h 21 l3.toNat)), (0, (2, ((20 : Nat) : Int))), (1, (0, l1)), (2, (0, l2)), (3, (0, l3))]) (st1 := [(0, 0)]) (h1 := h) rfl ?_
            cases hv
            exact jT.iret (st_Bd_hasKingsAndPawnsRight) rfl (Or.inl rfl)
set_option maxRecDepth 100000 in
set_option maxHeartbeats 4000000 in
theorem C_Bd_hasKingsAndPawnsRight {E : jE} {h : jH} {res : Int} (hv : f_Bd_hasKingsAndPawnsRight h = some res) : jC E M_Bd_hasKingsAndPawnsRight [(2, ((20 : Nat) : Int))] h (some (0, res)) h := by
  refine jC.of ok_Bd_hasKingsAndPawnsRight.1 (by rw [jlg]; exact Nat.le_of_ble_eq_true rfl) ?_
  show jG E _ 0 [(0, (2, ((20 : Nat) : Int)))] [] h _ _
  unfold f_Bd_hasKingsAndPawnsRight at hv
  refine jG.blk (st_Bd_hasKingsAndPawnsRight) 6 (pc1 := 6) (L1 := [(3, (0, 0)), (2, (0, 0)), (1, (0, 0)), (0, (2, ((20 : Nat) : Int)))]) (st1 := []) (h1 := h) rfl ?_
  refine jG.subp [3, 2, 1, 0] (L1 := [(0, (2, ((20 : Nat) : Int))), (1, (0, 0)), (2, (0, 0)), (3, (0, 0))]) rfl ?_
  refine f_Bd_hasKingsAndPawnsRight_lp6_ok E (fun l16 l17 l18 res hv => ?_) 1000 _ _ _ _ hv
  · refine jG.blk (st_Bd_hasKingsAndPawnsRight) 2 (pc1 := 94) (L1 := [(1, (0, l16)), (2, (0, l17))]) (st1 := [(0, 1), (0, l16)]) (h1 := h) rfl ?_
    refine jT.if2 (st_Bd_hasKingsAndPawnsRight) rfl (tgt := 106) (by decide) (fun hc => ?_) (fun hc => ?_)
    · have hc : ¬ (l16 = 1) := hc
      try rw [if_neg hc] at hv
      refine jG.blk (st_Bd_hasKingsAndPawnsRight) 1 (pc1 := 107) (L1 := [(1, (0, l16)), (2, (0, l17))]) (st1 := [(0, 0)]) (h1 := h) rfl ?_
      cases hv
      exact jT.iret (st_Bd_hasKingsAndPawnsRight) rfl (Or.inl rfl)
    · have hc : l16 = 1 := Decidable.not_not.mp hc
      try rw [if_pos hc] at hv
      refine jG.blk (st_Bd_hasKingsAndPawnsRight) 2 (pc1 := 99) (L1 := [(1, (0, l16)), (2, (0, l17))]) (st1 := [(0, 1), (0, l17)]) (h1 := h) rfl ?_
      refine jT.if2 (st_Bd_hasKingsAndPawnsRight) rfl (tgt := 106) (by decide) (fun hc => ?_) (fun hc => ?_)
      · have hc : ¬ (l17 = 1) := hc
        try rw [if_neg hc] at hv
        refine jG.blk (st_Bd_hasKingsAndPawnsRight) 1 (pc1 := 107) (L1 := [(1, (0, l16)), (2, (0, l17))]) (st1 := [(0, 0)]) (h1 := h) rfl ?_
        cases hv
        exact jT.iret (st_Bd_hasKingsAndPawnsRight) rfl (Or.inl rfl)
      · have hc : l17 = 1 := Decidable.not_not.mp hc
        try rw [if_pos hc] at hv
        refine jG.blk (st_Bd_hasKingsAndPawnsRight) 1 (pc1 := 103) (L1 := [(1, (0, l16)), (2, (0, l17))]) (st1 := [(0, 1)]) (h1 := h) rfl ?_
        refine jT.goto (st_Bd_hasKingsAndPawnsRight) rfl (tgt := 107) (by decide) ?_
        cases hv
        exact jT.iret (st_Bd_hasKingsAndPawnsRight) rfl (Or.inr rfl)
def f_Bd_hasRightsRight_j55_9 (rc : Int → Option (Int)) (k : Int → Option (Int)) (h : jH) (x3 : Int) (l7 : Int) (s8 : Int) : Option (Int) := (f_X_rightOf h x3 l7).bind fun v9 => if jand (h 20 2) v9 = 0 then rc (jadd l7 1) else if s8 = 0 then some 0 else rc (jadd l7 1)
def f_Bd_hasRightsRight_j54_9 (rc : Int → Option (Int)) (k : Int → Option (Int)) (h : jH) (x3 : Int) (l6 : Int) : Option (Int) := f_Bd_hasRightsRight_j55_9 rc k h x3 l6 0
def f_Bd_hasRightsRight_lp9 (h : jH) (x3 : Int) (k : Int → Option (Int)) : Nat → Int → Option (Int)
  | 0, _ => none
  | n + 1, l2 => if 2 ≤ l2 then k l2 else (f_X_kingHome h x3).bind fun v4 => jgd (0 ≤ v4 ∧ v4 < 64) ((f_X_pieceOf h 6 x3).bind fun v5 => if h 21 v4.toNat = v5 then (f_X_rookHome h x3 l2).bind fun v10 => jgd (0 ≤ v10 ∧ v10 < 64) ((f_X_pieceOf h 4 x3).bind fun v11 => if h 21 v10.toNat = v11 then f_Bd_hasRightsRight_j55_9 (f_Bd_hasRightsRight_lp9 h x3 k n) k h x3 l2 1 else f_Bd_hasRightsRight_j54_9 (f_Bd_hasRightsRight_lp9 h x3 k n) k h x3 l2) else f_Bd_hasRightsRight_j54_9 (f_Bd_hasRightsRight_lp9 h x3 k n) k h x3 l2)
def f_Bd_hasRightsRight_lp2 (h : jH) (k : Int → Option (Int)) : Nat → Int → Option (Int)
  | 0, _ => none
  | n + 1, l1 => if 1 < l1 then k l1 else f_Bd_hasRightsRight_lp9 h l1 (fun l12 => f_Bd_hasRightsRight_lp2 h k n (jadd l1 1)) 1000 0
def f_Bd_hasRightsRight (h : jH) : Option (Int) := f_Bd_hasRightsRight_lp2 h (fun l13 => some 1) 1000 0
set_option maxRecDepth 100000 in
set_option maxHeartbeats 4000000 in
theorem f_Bd_hasRightsRight_j55_9_ok (E : jE) {rc : Int → Option (Int)} {k : Int → Option (Int)} {h : jH} {x3 : Int} (hrc : ∀ (l2 : Int) (res : Int), rc l2 = some res → jG E M_Bd_hasRightsRight 9 [(0, (2, ((20 : Nat) : Int))), (1, (0, x3)), (2, (0, l2))] [] h (some (0, res)) h) (hk : ∀ (l2 : Int) (res : Int), k l2 = some res → jG E M_Bd_hasRightsRight 81 [(0, (2, ((20 : Nat) : Int))), (1, (0, x3))] [] h (some (0, res)) h) {l7 : Int} {s8 : Int} {res : Int} (hv : f_Bd_hasRightsRight_j55_9 rc k h x3 l7 s8 = some res) : jG E M_Bd_hasRightsRight 55 [(0, (2, ((20 : Nat) : Int))), (1, (0, x3)), (2, (0, l7))] [(0, s8)] h (some (0, res)) h := by
  unfold f_Bd_hasRightsRight_j55_9 at hv
  refine jG.blk (st_Bd_hasRightsRight) 5 (pc1 := 62) (L1 := [(3, (0, s8)), (0, (2, ((20 : Nat) : Int))), (1, (0, x3)), (2, (0, l7))]) (st1 := [(0, l7), (0, x3), (0, h 20 2)]) (h1 := h) rfl ?_
  obtain ⟨v9, hq, hv⟩ := Option.bind_eq_some_iff.mp hv
  refine jT.cSN (M1 := M_X_rightOf) [(0, x3), (0, l7)] [(0, h 20 2)] (st_Bd_hasRightsRight) rfl rfl ok_X_rightOf rfl (Nat.le_of_ble_eq_true rfl) (Nat.le_of_ble_eq_true rfl) rfl (Nat.le_of_ble_eq_true rfl) (C_X_rightOf hq) ?_
  show jG E _ 65 [(3, (0, s8)), (0, (2, ((20 : Nat) : Int))), (1, (0, x3)), (2, (0, l7))] [(0, v9), (0, h 20 2)] h _ _
  refine jG.blk (st_Bd_hasRightsRight) 1 (pc1 := 66) (L1 := [(3, (0, s8)), (0, (2, ((20 : Nat) : Int))), (1, (0, x3)), (2, (0, l7))]) (st1 := [(0, jand (h 20 2) v9)]) (h1 := h) rfl ?_
  refine jT.if1 (st_Bd_hasRightsRight) rfl (tgt := 75) (by decide) (fun hc => ?_) (fun hc => ?_)
  · have hc : jand (h 20 2) v9 = 0 := hc
    try rw [if_pos hc] at hv
    refine jG.blk (st_Bd_hasRightsRight) 1 (pc1 := 78) (L1 := [(2, (0, jadd l7 1)), (3, (0, s8)), (0, (2, ((20 : Nat) : Int))), (1, (0, x3))]) (st1 := []) (h1 := h) rfl ?_
    refine jT.goto (st_Bd_hasRightsRight) rfl (tgt := 9) (by decide) ?_
    refine jG.subp [2, 3, 0] (L1 := [(0, (2, ((20 : Nat) : Int))), (1, (0, x3)), (2, (0, jadd l7 1))]) rfl ?_
    exact hrc _ _ hv
  · have hc : ¬ (jand (h 20 2) v9 = 0) := hc
    try rw [if_neg hc] at hv
    refine jG.blk (st_Bd_hasRightsRight) 1 (pc1 := 70) (L1 := [(3, (0, s8)), (0, (2, ((20 : Nat) : Int))), (1, (0, x3)), (2, (0, l7))]) (st1 := [(0, s8)]) (h1 := h) rfl ?_
    refine jT.if1 (st_Bd_hasRightsRight) rfl (tgt := 75) (by decide) (fun hc => ?_) (fun hc => ?_)
    · have hc : ¬ (s8 = 0) := hc
      try rw [if_neg hc] at hv
      refine jG.blk (st_Bd_hasRightsRight) 1 (pc1 := 78) (L1 := [(2, (0, jadd l7 1)), (3, (0, s8)), (0, (2, ((20 : Nat) : Int))), (1, (0, x3))]) (st1 := []) (h1 := h) rfl ?_
      refine jT.goto (st_Bd_hasRightsRight) rfl (tgt := 9) (by decide) ?_
      refine jG.subp [2, 3, 0] (L1 := [(0, (2, ((20 : Nat) : Int))), (1, (0, x3)), (2, (0, jadd l7 1))]) rfl ?_
      exact hrc _ _ hv
    · have hc : s8 = 0 := Decidable.not_not.mp hc
      try rw [if_pos hc] at hv
      refine jG.blk (st_Bd_hasRightsRight) 1 (pc1 := 74) (L1 := [(3, (0, s8)), (0, (2, ((20 : Nat) : Int))), (1, (0, x3)), (2, (0, l7))]) (st1 := [(0, 0)]) (h1 := h) rfl ?_
      cases hv
      exact jT.iret (st_Bd_hasRightsRight) rfl (Or.inl rfl)
set_option maxRecDepth 100000 in
set_option maxHeartbeats 4000000 in
theorem f_Bd_hasRightsRight_j54_9_ok (E : jE) {rc : Int → Option (Int)} {k : Int → Option (Int)} {h : jH} {x3 : Int} (hrc : ∀ (l2 : Int) (res : Int), rc l2 = some res → jG E M_Bd_hasRightsRight 9 [(0, (2, ((20 : Nat) : Int))), (1, (0, x3)), (2, (0, l2))] [] h (some (0, res)) h) (hk : ∀ (l2 : Int) (res : Int), k l2 = some res → jG E M_Bd_hasRightsRight 81 [(0, (2, ((20 : Nat) : Int))), (1, (0, x3))] [] h (some (0, res)) h) {l6 : Int} {res : Int} (hv : f_Bd_hasRightsRight_j54_9 rc k h x3 l6 = some res) : jG E M_Bd_hasRightsRight 54 [(0, (2, ((20 : Nat) : Int))), (1, (0, x3)), (2, (0, l6))] [] h (some (0, res)) h := by
  unfold f_Bd_hasRightsRight_j54_9 at hv
  refine jG.blk (st_Bd_hasRightsRight) 1 (pc1 := 55) (L1 := [(0, (2, ((20 : Nat) : Int))), (1, (0, x3)), (2, (0, l6))]) (st1 := [(0, 0)]) (h1 := h) rfl ?_
  exact f_Bd_hasRightsRight_j55_9_ok E hrc hk hv
set_option maxRecDepth 100000 in
set_option maxHeartbeats 4000000 in
theorem f_Bd_hasRightsRight_lp9_ok (E : jE) {h : jH} {x3 : Int} {k : Int → Option (Int)} (hk : ∀ (l2 : Int) (res : Int), k l2 = some res → jG E M_Bd_hasRightsRight 81 [(0, (2, ((20 : Nat) : Int))), (1, (0, x3))] [] h (some (0, res)) h) : ∀ (n : Nat) (l2 : Int) (res : Int), f_Bd_hasRightsRight_lp9 h x3 k n l2 = some res → jG E M_Bd_hasRightsRight 9 [(0, (2, ((20 : Nat) : Int))), (1, (0, x3)), (2, (0, l2))] [] h (some (0, res)) h := by
  intro n
  induction n with
  | zero => intro l2 res hv; cases hv
  | succ n ih =>
    intro l2 res hv
    rw [f_Bd_hasRightsRight_lp9] at hv
    refine jG.blk (st_Bd_hasRightsRight) 2 (pc1 := 11) (L1 := [(0, (2, ((20 : Nat) : Int))), (1, (0, x3)), (2, (0, l2))]) (st1 := [(0, 2), (0, l2)]) (h1 := h) rfl ?_
    refine jT.if2 (st_Bd_hasRightsRight) rfl (tgt := 81) (by decide) (fun hc => ?_) (fun hc => ?_)
    · have hc : 2 ≤ l2 := hc
      try rw [if_pos hc] at hv
      refine jG.subp [0, 1] (L1 := [(0, (2, ((20 : Nat) : Int))), (1, (0, x3))]) rfl ?_
      exact hk _ _ hv
    · have hc : ¬ (2 ≤ l2) := hc
      try rw [if_neg hc] at hv
      refine jG.blk (st_Bd_hasRightsRight) 3 (pc1 := 19) (L1 := [(0, (2, ((20 : Nat) : Int))), (1, (0, x3)), (2, (0, l2))]) (st1 := [(0, x3), (2, ((21 : Nat) : Int))]) (h1 := h) rfl ?_
      obtain ⟨v4, hq, hv⟩ := Option.bind_eq_some_iff.mp hv
      refine jT.cSN (M1 := M_X_kingHome) [(0, x3)] [(2, ((21 : Nat) : Int))] (st_Bd_hasRightsRight) rfl rfl ok_X_kingHome rfl (Nat.le_of_ble_eq_true rfl) (Nat.le_of_ble_eq_true rfl) rfl (Nat.le_of_ble_eq_true rfl) (C_X_kingHome hq) ?_
      show jG E _ 22 [(0, (2, ((20 : Nat) : Int))), (1, (0, x3)), (2, (0, l2))] [(0, v4), (2, ((21 : Nat) : Int))] h _ _
      obtain ⟨hg, hv⟩ := jgd_some hv
      refine jT.iald (a := 21) (st_Bd_hasRightsRight) rfl rfl (by decide) hg.1 hg.2 ?_
      refine jG.blk (st_Bd_hasRightsRight) 2 (pc1 := 26) (L1 := [(0, (2, ((20 : Nat) : Int))), (1, (0, x3)), (2, (0, l2))]) (st1 := [(0, x3), (0, 6), (0, h 21 v4.toNat)]) (h1 := h) rfl ?_
      obtain ⟨v5, hq, hv⟩ := Option.bind_eq_some_iff.mp hv
      refine jT.cSN (M1 := M_X_pieceOf) [(0, 6), (0, x3)] [(0, h 21 v4.toNat)] (st_Bd_hasRightsRight) rfl rfl ok_X_pieceOf rfl (Nat.le_of_ble_eq_true rfl) (Nat.le_of_ble_eq_true rfl) rfl (Nat.le_of_ble_eq_true rfl) (C_X_pieceOf hq) ?_
      show jG E _ 29 [(0, (2, ((20 : Nat) : Int))), (1, (0, x3)), (2, (0, l2))] [(0, v5), (0, h 21 v4.toNat)] h _ _
      refine jT.if2 (st_Bd_hasRightsRight) rfl (tgt := 54) (by decide) (fun hc => ?_) (fun hc => ?_)
      · have hc : ¬ (h 21 v4.toNat = v5) := hc
        try rw [if_neg hc] at hv
        exact f_Bd_hasRightsRight_j54_9_ok E ih hk hv
      · have hc : h 21 v4.toNat = v5 := Decidable.not_not.mp hc
        try rw [if_pos hc] at hv
        refine jG.blk (st_Bd_hasRightsRight) 4 (pc1 := 38) (L1 := [(0, (2, ((20 : Nat) : Int))), (1, (0, x3)), (2, (0, l2))]) (st1 := [(0, l2), (0, x3), (2, ((21 : Nat) : Int))]) (h1 := h) rfl ?_
        obtain ⟨v10, hq, hv⟩ := Option.bind_eq_some_iff.mp hv
        refine jT.cSN (M1 := M_X_rookHome) [(0, x3), (0, l2)] [(2, ((21 : Nat) : Int))] (st_Bd_hasRightsRight) rfl rfl ok_X_rookHome rfl (Nat.le_of_ble_eq_true rfl) (Nat.le_of_ble_eq_true rfl) rfl (Nat.le_of_ble_eq_true rfl) (C_X_rookHome hq) ?_
        show jG E _ 41 [(0, (2, ((20 : Nat) : Int))), (1, (0, x3)), (2, (0, l2))] [(0, v10), (2, ((21 : Nat) : Int))] h _ _
        obtain ⟨hg, hv⟩ := jgd_some hv
        refine jT.iald (a := 21) (st_Bd_hasRightsRight) rfl rfl (by decide) hg.1 hg.2 ?_
        refine jG.blk (st_Bd_hasRightsRight) 2 (pc1 := 44) (L1 := [(0, (2, ((20 : Nat) : Int))), (1, (0, x3)), (2, (0, l2))]) (st1 := [(0, x3), (0, 4), (0, h 21 v10.toNat)]) (h1 := h) rfl ?_
        obtain ⟨v11, hq, hv⟩ := Option.bind_eq_some_iff.mp hv
        refine jT.cSN (M1 := M_X_pieceOf) [(0, 4), (0, x3)] [(0, h 21 v10.toNat)] (st_Bd_hasRightsRight) rfl rfl ok_X_pieceOf rfl (Nat.le_of_ble_eq_true rfl) (Nat.le_of_ble_eq_true rfl) rfl (Nat.le_of_ble_eq_true rfl) (C_X_pieceOf hq) ?_
        show jG E _ 47 [(0, (2, ((20 : Nat) : Int))), (1, (0, x3)), (2, (0, l2))] [(0, v11), (0, h 21 v10.toNat)] h _ _
        refine jT.if2 (st_Bd_hasRightsRight) rfl (tgt := 54) (by decide) (fun hc => ?_) (fun hc => ?_)
        · have hc : ¬ (h 21 v10.toNat = v11) := hc
          try rw [if_neg hc] at hv
          exact f_Bd_hasRightsRight_j54_9_ok E ih hk hv
        · have hc : h 21 v10.toNat = v11 := Decidable.not_not.mp hc
          try rw [if_pos hc] at hv
          refine jG.blk (st_Bd_hasRightsRight) 1 (pc1 := 51) (L1 := [(0, (2, ((20 : Nat) : Int))), (1, (0, x3)), (2, (0, l2))]) (st1 := [(0, 1)]) (h1 := h) rfl ?_
          refine jT.goto (st_Bd_hasRightsRight) rfl (tgt := 55) (by decide) ?_
          exact f_Bd_hasRightsRight_j55_9_ok E ih hk hv
set_option maxRecDepth 100000 in
set_option maxHeartbeats 4000000 in
theorem f_Bd_hasRightsRight_lp2_ok (E : jE) {h : jH} {k : Int → Option (Int)} (hk : ∀ (l1 : Int) (res : Int), k l1 = some res → jG E M_Bd_hasRightsRight 87 [] [] h (some (0, res)) h) : ∀ (n : Nat) (l1 : Int) (res : Int), f_Bd_hasRightsRight_lp2 h k n l1 = some res → jG E M_Bd_hasRightsRight 2 [(0, (2, ((20 : Nat) : Int))), (1, (0, l1))] [] h (some (0, res)) h := by
  intro n
  induction n with
  | zero => intro l1 res hv; cases hv
  | succ n ih =>
    intro l1 res hv
    rw [f_Bd_hasRightsRight_lp2] at hv
    refine jG.blk (st_Bd_hasRightsRight) 2 (pc1 := 4) (L1 := [(0, (2, ((20 : Nat) : Int))), (1, (0, l1))]) (st1 := [(0, 1), (0, l1)]) (h1 := h) rfl ?_
    refine jT.if2 (st_Bd_hasRightsRight) rfl (tgt := 87) (by decide) (fun hc => ?_) (fun hc => ?_)
    · have hc : 1 < l1 := hc
      try rw [if_pos hc] at hv
      refine jG.subp [] (L1 := []) rfl ?_
      exact hk _ _ hv
    · have hc : ¬ (1 < l1) := hc
      try rw [if_neg hc] at hv
      refine jG.blk (st_Bd_hasRightsRight) 2 (pc1 := 9) (L1 := [(2, (0, 0)), (0, (2, ((20 : Nat) : Int))), (1, (0, l1))]) (st1 := []) (h1 := h) rfl ?_
      refine jG.subp [1, 2, 0] (L1 := [(0, (2, ((20 : Nat) : Int))), (1, (0, l1)), (2, (0, 0))]) rfl ?_
      refine f_Bd_hasRightsRight_lp9_ok E (fun l12 res hv => ?_) 1000 _ _ hv
      · refine jG.blk (st_Bd_hasRightsRight) 1 (pc1 := 84) (L1 := [(1, (0, jadd l1 1)), (0, (2, ((20 : Nat) : Int)))]) (st1 := []) (h1 := h) rfl ?_
        refine jT.goto (st_Bd_hasRightsRight) rfl (tgt := 2) (by decide) ?_
        refine jG.subp [1, 0] (L1 := [(0, (2, ((20 : Nat) : Int))), (1, (0, jadd l1 1))]) rfl ?_
        exact ih _ _ hv
set_option maxRecDepth 100000 in
set_option maxHeartbeats 4000000 in
theorem C_Bd_hasRightsRight {E : jE} {h : jH} {res : Int} (hv : f_Bd_hasRightsRight h = some res) : jC E M_Bd_hasRightsRight [(2, ((20 : Nat) : Int))] h (some (0, res)) h := by
  refine jC.of ok_Bd_hasRightsRight.1 (by rw [jlg]; exact Nat.le_of_ble_eq_true rfl) ?_
  show jG E _ 0 [(0, (2, ((20 : Nat) : Int)))] [] h _ _
  unfold f_Bd_hasRightsRight at hv
  refine jG.blk (st_Bd_hasRightsRight) 2 (pc1 := 2) (L1 := [(1, (0, 0)), (0, (2, ((20 : Nat) : Int)))]) (st1 := []) (h1 := h) rfl ?_
  refine jG.subp [1, 0] (L1 := [(0, (2, ((20 : Nat) : Int))), (1, (0, 0))]) rfl ?_
  refine f_Bd_hasRightsRight_lp2_ok E (fun l13 res hv => ?_) 1000 _ _ hv
  · refine jG.blk (st_Bd_hasRightsRight) 1 (pc1 := 88) (L1 := []) (st1 := [(0, 1)]) (h1 := h) rfl ?_
    cases hv
    exact jT.iret (st_Bd_hasRightsRight) rfl (Or.inr rfl)
def f_Bd_hasFileRight (h : jH) : Option (Int) := if h 20 3 = (-1) then some 1 else (f_X_otherSide h (h 20 1)).bind fun v1 => (f_X_rankFor h v1 1).bind fun v2 => (f_X_squareAt h (h 20 3) v2).bind fun v3 => jgd (0 ≤ v3 ∧ v3 < 64) (if h 21 v3.toNat = 0 then (f_X_rankFor h v1 2).bind fun v4 => (f_X_squareAt h (h 20 3) v4).bind fun v5 => jgd (0 ≤ v5 ∧ v5 < 64) (if h 21 v5.toNat = 0 then (f_X_rankFor h v1 3).bind fun v6 => (f_X_squareAt h (h 20 3) v6).bind fun v7 => jgd (0 ≤ v7 ∧ v7 < 64) ((f_X_pieceOf h 1 v1).bind fun v8 => some (if h 21 v7.toNat = v8 then 1 else 0)) else some 0) else some 0)
set_option maxRecDepth 100000 in
set_option maxHeartbeats 4000000 in
theorem C_Bd_hasFileRight {E : jE} {h : jH} {res : Int} (hv : f_Bd_hasFileRight h = some res) : jC E M_Bd_hasFileRight [(2, ((20 : Nat) : Int))] h (some (0, res)) h := by
  refine jC.of ok_Bd_hasFileRight.1 (by rw [jlg]; exact Nat.le_of_ble_eq_true rfl) ?_
  show jG E _ 0 [(0, (2, ((20 : Nat) : Int)))] [] h _ _
  unfold f_Bd_hasFileRight at hv
  refine jG.blk (st_Bd_hasFileRight) 3 (pc1 := 5) (L1 := [(0, (2, ((20 : Nat) : Int)))]) (st1 := [(0, (-1)), (0, h 20 3)]) (h1 := h) rfl ?_
  refine jT.if2 (st_Bd_hasFileRight) rfl (tgt := 10) (by decide) (fun hc => ?_) (fun hc => ?_)
  · have hc : ¬ (h 20 3 = (-1)) := hc
    try rw [if_neg hc] at hv
    refine jG.blk (st_Bd_hasFileRight) 2 (pc1 := 14) (L1 := [(0, (2, ((20 : Nat) : Int)))]) (st1 := [(0, h 20 1)]) (h1 := h) rfl ?_
    obtain ⟨v1, hq, hv⟩ := Option.bind_eq_some_iff.mp hv
    refine jT.cSN (M1 := M_X_otherSide) [(0, h 20 1)] [] (st_Bd_hasFileRight) rfl rfl ok_X_otherSide rfl (Nat.le_of_ble_eq_true rfl) (Nat.le_of_ble_eq_true rfl) rfl (Nat.le_of_ble_eq_true rfl) (C_X_otherSide hq) ?_
    show jG E _ 17 [(0, (2, ((20 : Nat) : Int)))] [(0, v1)] h _ _
    refine jG.blk (st_Bd_hasFileRight) 7 (pc1 := 28) (L1 := [(1, (0, v1)), (0, (2, ((20 : Nat) : Int)))]) (st1 := [(0, 1), (0, v1), (0, h 20 3), (2, ((21 : Nat) : Int))]) (h1 := h) rfl ?_
    obtain ⟨v2, hq, hv⟩ := Option.bind_eq_some_iff.mp hv
    refine jT.cSN (M1 := M_X_rankFor) [(0, v1), (0, 1)] [(0, h 20 3), (2, ((21 : Nat) : Int))] (st_Bd_hasFileRight) rfl rfl ok_X_rankFor rfl (Nat.le_of_ble_eq_true rfl) (Nat.le_of_ble_eq_true rfl) rfl (Nat.le_of_ble_eq_true rfl) (C_X_rankFor hq) ?_
    show jG E _ 31 [(1, (0, v1)), (0, (2, ((20 : Nat) : Int)))] [(0, v2), (0, h 20 3), (2, ((21 : Nat) : Int))] h _ _
    obtain ⟨v3, hq, hv⟩ := Option.bind_eq_some_iff.mp hv
    refine jT.cSN (M1 := M_X_squareAt) [(0, h 20 3), (0, v2)] [(2, ((21 : Nat) : Int))] (st_Bd_hasFileRight) rfl rfl ok_X_squareAt rfl (Nat.le_of_ble_eq_true rfl) (Nat.le_of_ble_eq_true rfl) rfl (Nat.le_of_ble_eq_true rfl) (C_X_squareAt hq) ?_
    show jG E _ 34 [(1, (0, v1)), (0, (2, ((20 : Nat) : Int)))] [(0, v3), (2, ((21 : Nat) : Int))] h _ _
    obtain ⟨hg, hv⟩ := jgd_some hv
    refine jT.iald (a := 21) (st_Bd_hasFileRight) rfl rfl (by decide) hg.1 hg.2 ?_
    refine jT.if1 (st_Bd_hasFileRight) rfl (tgt := 87) (by decide) (fun hc => ?_) (fun hc => ?_)
    · have hc : ¬ (h 21 v3.toNat = 0) := hc
      try rw [if_neg hc] at hv
      refine jG.blk (st_Bd_hasFileRight) 1 (pc1 := 88) (L1 := [(1, (0, v1)), (0, (2, ((20 : Nat) : Int)))]) (st1 := [(0, 0)]) (h1 := h) rfl ?_
      cases hv
      exact jT.iret (st_Bd_hasFileRight) rfl (Or.inl rfl)
    · have hc : h 21 v3.toNat = 0 := Decidable.not_not.mp hc
      try rw [if_pos hc] at hv
      refine jG.blk (st_Bd_hasFileRight) 6 (pc1 := 48) (L1 := [(1, (0, v1)), (0, (2, ((20 : Nat) : Int)))]) (st1 := [(0, 2), (0, v1), (0, h 20 3), (2, ((21 : Nat) : Int))]) (h1 := h) rfl ?_
      obtain ⟨v4, hq, hv⟩ := Option.bind_eq_some_iff.mp hv
      refine jT.cSN (M1 := M_X_rankFor) [(0, v1), (0, 2)] [(0, h 20 3), (2, ((21 : Nat) : Int))] (st_Bd_hasFileRight) rfl rfl ok_X_rankFor rfl (Nat.le_of_ble_eq_true rfl) (Nat.le_of_ble_eq_true rfl) rfl (Nat.le_of_ble_eq_true rfl) (C_X_rankFor hq) ?_
      show jG E _ 51 [(1, (0, v1)), (0, (2, ((20 : Nat) : Int)))] [(0, v4), (0, h 20 3), (2, ((21 : Nat) : Int))] h _ _
      obtain ⟨v5, hq, hv⟩ := Option.bind_eq_some_iff.mp hv
      refine jT.cSN (M1 := M_X_squareAt) [(0, h 20 3), (0, v4)] [(2, ((21 : Nat) : Int))] (st_Bd_hasFileRight) rfl rfl ok_X_squareAt rfl (Nat.le_of_ble_eq_true rfl) (Nat.le_of_ble_eq_true rfl) rfl (Nat.le_of_ble_eq_true rfl) (C_X_squareAt hq) ?_
      show jG E _ 54 [(1, (0, v1)), (0, (2, ((20 : Nat) : Int)))] [(0, v5), (2, ((21 : Nat) : Int))] h _ _
      obtain ⟨hg, hv⟩ := jgd_some hv
      refine jT.iald (a := 21) (st_Bd_hasFileRight) rfl rfl (by decide) hg.1 hg.2 ?_
      refine jT.if1 (st_Bd_hasFileRight) rfl (tgt := 87) (by decide) (fun hc => ?_) (fun hc => ?_)
      · have hc : ¬ (h 21 v5.toNat = 0) := hc
        try rw [if_neg hc] at hv
        refine jG.blk (st_Bd_hasFileRight) 1 (pc1 := 88) (L1 := [(1, (0, v1)), (0, (2, ((20 : Nat) : Int)))]) (st1 := [(0, 0)]) (h1 := h) rfl ?_
        cases hv
        exact jT.iret (st_Bd_hasFileRight) rfl (Or.inl rfl)
      · have hc : h 21 v5.toNat = 0 := Decidable.not_not.mp hc
        try rw [if_pos hc] at hv
        refine jG.blk (st_Bd_hasFileRight) 6 (pc1 := 68) (L1 := [(1, (0, v1)), (0, (2, ((20 : Nat) : Int)))]) (st1 := [(0, 3), (0, v1), (0, h 20 3), (2, ((21 : Nat) : Int))]) (h1 := h) rfl ?_
        obtain ⟨v6, hq, hv⟩ := Option.bind_eq_some_iff.mp hv
        refine jT.cSN (M1 := M_X_rankFor) [(0, v1), (0, 3)] [(0, h 20 3), (2, ((21 : Nat) : Int))] (st_Bd_hasFileRight) rfl rfl ok_X_rankFor rfl (Nat.le_of_ble_eq_true rfl) (Nat.le_of_ble_eq_true rfl) rfl (Nat.le_of_ble_eq_true rfl) (C_X_rankFor hq) ?_
        show jG E _ 71 [(1, (0, v1)), (0, (2, ((20 : Nat) : Int)))] [(0, v6), (0, h 20 3), (2, ((21 : Nat) : Int))] h _ _
        obtain ⟨v7, hq, hv⟩ := Option.bind_eq_some_iff.mp hv
        refine jT.cSN (M1 := M_X_squareAt) [(0, h 20 3), (0, v6)] [(2, ((21 : Nat) : Int))] (st_Bd_hasFileRight) rfl rfl ok_X_squareAt rfl (Nat.le_of_ble_eq_true rfl) (Nat.le_of_ble_eq_true rfl) rfl (Nat.le_of_ble_eq_true rfl) (C_X_squareAt hq) ?_
        show jG E _ 74 [(1, (0, v1)), (0, (2, ((20 : Nat) : Int)))] [(0, v7), (2, ((21 : Nat) : Int))] h _ _
        obtain ⟨hg, hv⟩ := jgd_some hv
        refine jT.iald (a := 21) (st_Bd_hasFileRight) rfl rfl (by decide) hg.1 hg.2 ?_
        refine jG.blk (st_Bd_hasFileRight) 2 (pc1 := 77) (L1 := [(1, (0, v1)), (0, (2, ((20 : Nat) : Int)))]) (st1 := [(0, v1), (0, 1), (0, h 21 v7.toNat)]) (h1 := h) rfl ?_
        obtain ⟨v8, hq, hv⟩ := Option.bind_eq_some_iff.mp hv
        refine jT.cSN (M1 := M_X_pieceOf) [(0, 1), (0, v1)] [(0, h 21 v7.toNat)] (st_Bd_hasFileRight) rfl rfl ok_X_pieceOf rfl (Nat.le_of_ble_eq_true rfl) (Nat.le_of_ble_eq_true rfl) rfl (Nat.le_of_ble_eq_true rfl) (C_X_pieceOf hq) ?_
        show jG E _ 80 [(1, (0, v1)), (0, (2, ((20 : Nat) : Int)))] [(0, v8), (0, h 21 v7.toNat)] h _ _
        refine jT.if2 (st_Bd_hasFileRight) rfl (tgt := 87) (by decide) (fun hc => ?_) (fun hc => ?_)
        · have hc : ¬ (h 21 v7.toNat = v8) := hc
          try rw [if_neg hc] at hv
          refine jG.blk (st_Bd_hasFileRight) 1 (pc1 := 88) (L1 := [(1, (0, v1)), (0, (2, ((20 : Nat) : Int)))]) (st1 := [(0, 0)]) (h1 := h) rfl ?_
          cases hv
          exact jT.iret (st_Bd_hasFileRight) rfl (Or.inl rfl)
        · have hc : h 21 v7.toNat = v8 := Decidable.not_not.mp hc
          try rw [if_pos hc] at hv
          refine jG.blk (st_Bd_hasFileRight) 1 (pc1 := 84) (L1 := [(1, (0, v1)), (0, (2, ((20 : Nat) : Int)))]) (st1 := [(0, 1)]) (h1 := h) rfl ?_
          refine jT.goto (st_Bd_hasFileRight) rfl (tgt := 88) (by decide) ?_
          cases hv
          exact jT.iret (st_Bd_hasFileRight) rfl (Or.inr rfl)
  · have hc : h 20 3 = (-1) := Decidable.not_not.mp hc
    try rw [if_pos hc] at hv
    refine jG.blk (st_Bd_hasFileRight) 1 (pc1 := 9) (L1 := [(0, (2, ((20 : Nat) : Int)))]) (st1 := [(0, 1)]) (h1 := h) rfl ?_
    cases hv
    exact jT.iret (st_Bd_hasFileRight) rfl (Or.inr rfl)
def f_Bd_kingSquare_lp9 (r : Nat) (h : jH) (x3 : Int) (k : Int → Option (Int)) : Nat → Int → Option (Int)
  | 0, _ => none
  | n + 1, l2 => if 64 ≤ l2 then k l2 else jgd (0 ≤ l2 ∧ l2 < 64) (if h (r + 1) l2.toNat = x3 then some l2 else f_Bd_kingSquare_lp9 r h x3 k n (jadd l2 1))
def f_Bd_kingSquare (r : Nat) (h : jH) (a1 : Int) : Option (Int) := (f_X_pieceOf h 6 a1).bind fun v1 => f_Bd_kingSquare_lp9 r h v1 (fun l4 => some (-1)) 1000 0
set_option maxRecDepth 100000 in
set_option maxHeartbeats 4000000 in
theorem f_Bd_kingSquare_lp9_ok (E : jE) (r : Nat) (hr : r = 2 ∨ r = 20) {h : jH} {x3 : Int} {k : Int → Option (Int)} (hk : ∀ (l2 : Int) (res : Int), k l2 = some res → jG E M_Bd_kingSquare 33 [] [] h (some (0, res)) h) : ∀ (n : Nat) (l2 : Int) (res : Int), f_Bd_kingSquare_lp9 r h x3 k n l2 = some res → jG E M_Bd_kingSquare 9 [(0, (2, ((r : Nat) : Int))), (2, (0, x3)), (3, (0, l2))] [] h (some (0, res)) h := by
  rcases hr with rfl | rfl
  · intro n
    induction n with
    | zero => intro l2 res hv; cases hv
    | succ n ih =>
      intro l2 res hv
      rw [f_Bd_kingSquare_lp9] at hv
      refine jG.blk (st_Bd_kingSquare) 2 (pc1 := 12) (L1 := [(0, (2, ((2 : Nat) : Int))), (2, (0, x3)), (3, (0, l2))]) (st1 := [(0, 64), (0, l2)]) (h1 := h) rfl ?_
      refine jT.if2 (st_Bd_kingSquare) rfl (tgt := 33) (by decide) (fun hc => ?_) (fun hc => ?_)
      · have hc : 64 ≤ l2 := hc
        try rw [if_pos hc] at hv
        refine jG.subp [] (L1 := []) rfl ?_
        exact hk _ _ hv
      · have hc : ¬ (64 ≤ l2) := hc
        try rw [if_neg hc] at hv
        refine jG.blk (st_Bd_kingSquare) 3 (pc1 := 20) (L1 := [(0, (2, ((2 : Nat) : Int))), (2, (0, x3)), (3, (0, l2))]) (st1 := [(0, l2), (2, ((2 + 1 : Nat) : Int))]) (h1 := h) rfl ?_
        obtain ⟨hg, hv⟩ := jgd_some hv
        refine jT.iald (a := 2 + 1) (st_Bd_kingSquare) rfl rfl (by decide) hg.1 hg.2 ?_
        refine jG.blk (st_Bd_kingSquare) 1 (pc1 := 22) (L1 := [(0, (2, ((2 : Nat) : Int))), (2, (0, x3)), (3, (0, l2))]) (st1 := [(0, x3), (0, h (2 + 1) l2.toNat)]) (h1 := h) rfl ?_
        refine jT.if2 (st_Bd_kingSquare) rfl (tgt := 27) (by decide) (fun hc => ?_) (fun hc => ?_)
        · have hc : ¬ (h (2 + 1) l2.toNat = x3) := hc
          try rw [if_neg hc] at hv
          refine jG.blk (st_Bd_kingSquare) 1 (pc1 := 30) (L1 := [(3, (0, jadd l2 1)), (0, (2, ((2 : Nat) : Int))), (2, (0, x3))]) (st1 := []) (h1 := h) rfl ?_
          refine jT.goto (st_Bd_kingSquare) rfl (tgt := 9) (by decide) ?_
          refine jG.subp [1, 2, 0] (L1 := [(0, (2, ((2 : Nat) : Int))), (2, (0, x3)), (3, (0, jadd l2 1))]) rfl ?_
          exact ih _ _ hv
        · have hc : h (2 + 1) l2.toNat = x3 := Decidable.not_not.mp hc
          try rw [if_pos hc] at hv
          refine jG.blk (st_Bd_kingSquare) 1 (pc1 := 26) (L1 := [(0, (2, ((2 : Nat) : Int))), (2, (0, x3)), (3, (0, l2))]) (st1 := [(0, l2)]) (h1 := h) rfl ?_
          cases hv
          exact jT.iret (st_Bd_kingSquare) rfl trivial
  · intro n
    induction n with
    | zero => intro l2 res hv; cases hv
    | succ n ih =>
      intro l2 res hv
      rw [f_Bd_kingSquare_lp9] at hv
      refine jG.blk (st_Bd_kingSquare) 2 (pc1 := 12) (L1 := [(0, (2, ((20 : Nat) : Int))), (2, (0, x3)), (3, (0, l2))]) (st1 := [(0, 64), (0, l2)]) (h1 := h) rfl ?_
      refine jT.if2 (st_Bd_kingSquare) rfl (tgt := 33) (by decide) (fun hc => ?_) (fun hc => ?_)
      · have hc : 64 ≤ l2 := hc
        try rw [if_pos hc] at hv
        refine jG.subp [] (L1 := []) rfl ?_
        exact hk _ _ hv
      · have hc : ¬ (64 ≤ l2) := hc
        try rw [if_neg hc] at hv
        refine jG.blk (st_Bd_kingSquare) 3 (pc1 := 20) (L1 := [(0, (2, ((20 : Nat) : Int))), (2, (0, x3)), (3, (0, l2))]) (st1 := [(0, l2), (2, ((20 + 1 : Nat) : Int))]) (h1 := h) rfl ?_
        obtain ⟨hg, hv⟩ := jgd_some hv
        refine jT.iald (a := 20 + 1) (st_Bd_kingSquare) rfl rfl (by decide) hg.1 hg.2 ?_
        refine jG.blk (st_Bd_kingSquare) 1 (pc1 := 22) (L1 := [(0, (2, ((20 : Nat) : Int))), (2, (0, x3)), (3, (0, l2))]) (st1 := [(0, x3), (0, h (20 + 1) l2.toNat)]) (h1 := h) rfl ?_
        refine jT.if2 (st_Bd_kingSquare) rfl (tgt := 27) (by decide) (fun hc => ?_) (fun hc => ?_)
        · have hc : ¬ (h (20 + 1) l2.toNat = x3) := hc
          try rw [if_neg hc] at hv
          refine jG.blk (st_Bd_kingSquare) 1 (pc1 := 30) (L1 := [(3, (0, jadd l2 1)), (0, (2, ((20 : Nat) : Int))), (2, (0, x3))]) (st1 := []) (h1 := h) rfl ?_
          refine jT.goto (st_Bd_kingSquare) rfl (tgt := 9) (by decide) ?_
          refine jG.subp [1, 2, 0] (L1 := [(0, (2, ((20 : Nat) : Int))), (2, (0, x3)), (3, (0, jadd l2 1))]) rfl ?_
          exact ih _ _ hv
        · have hc : h (20 + 1) l2.toNat = x3 := Decidable.not_not.mp hc
          try rw [if_pos hc] at hv
          refine jG.blk (st_Bd_kingSquare) 1 (pc1 := 26) (L1 := [(0, (2, ((20 : Nat) : Int))), (2, (0, x3)), (3, (0, l2))]) (st1 := [(0, l2)]) (h1 := h) rfl ?_
          cases hv
          exact jT.iret (st_Bd_kingSquare) rfl trivial
set_option maxRecDepth 100000 in
set_option maxHeartbeats 4000000 in
theorem C_Bd_kingSquare {E : jE} {r : Nat} (hr : r = 2 ∨ r = 20) {h : jH} {a1 : Int} {res : Int} (hv : f_Bd_kingSquare r h a1 = some res) : jC E M_Bd_kingSquare [(2, ((r : Nat) : Int)), (0, a1)] h (some (0, res)) h := by
  rcases hr with rfl | rfl
  · refine jC.of ok_Bd_kingSquare.1 (by rw [jlg]; exact Nat.le_of_ble_eq_true rfl) ?_
    show jG E _ 0 [(0, (2, ((2 : Nat) : Int))), (1, (0, a1))] [] h _ _
    unfold f_Bd_kingSquare at hv
    refine jG.blk (st_Bd_kingSquare) 2 (pc1 := 3) (L1 := [(0, (2, ((2 : Nat) : Int))), (1, (0, a1))]) (st1 := [(0, a1), (0, 6)]) (h1 := h) rfl ?_
    obtain ⟨v1, hq, hv⟩ := Option.bind_eq_some_iff.mp hv
    refine jT.cSN (M1 := M_X_pieceOf) [(0, 6), (0, a1)] [] (st_Bd_kingSquare) rfl rfl ok_X_pieceOf rfl (Nat.le_of_ble_eq_true rfl) (Nat.le_of_ble_eq_true rfl) rfl (Nat.le_of_ble_eq_true rfl) (C_X_pieceOf hq) ?_
    show jG E _ 6 [(0, (2, ((2 : Nat) : Int))), (1, (0, a1))] [(0, v1)] h _ _
    refine jG.blk (st_Bd_kingSquare) 3 (pc1 := 9) (L1 := [(3, (0, 0)), (2, (0, v1)), (0, (2, ((2 : Nat) : Int))), (1, (0, a1))]) (st1 := []) (h1 := h) rfl ?_
    refine jG.subp [2, 1, 0] (L1 := [(0, (2, ((2 : Nat) : Int))), (2, (0, v1)), (3, (0, 0))]) rfl ?_
    refine f_Bd_kingSquare_lp9_ok E 2 (by decide) (fun l4 res hv => ?_) 1000 _ _ hv
    · refine jG.blk (st_Bd_kingSquare) 1 (pc1 := 34) (L1 := []) (st1 := [(0, (-1))]) (h1 := h) rfl ?_
      cases hv
      exact jT.iret (st_Bd_kingSquare) rfl trivial
  · refine jC.of ok_Bd_kingSquare.1 (by rw [jlg]; exact Nat.le_of_ble_eq_true rfl) ?_
    show jG E _ 0 [(0, (2, ((20 : Nat) : Int))), (1, (0, a1))] [] h _ _
    unfold f_Bd_kingSquare at hv
    refine jG.blk (st_Bd_kingSquare) 2 (pc1 := 3) (L1 := [(0, (2, ((20 : Nat) : Int))), (1, (0, a1))]) (st1 := [(0, a1), (0, 6)]) (h1 := h) rfl ?_
    obtain ⟨v1, hq, hv⟩ := Option.bind_eq_some_iff.mp hv
    refine jT.cSN (M1 := M_X_pieceOf) [(0, 6), (0, a1)] [] (st_Bd_kingSquare) rfl rfl ok_X_pieceOf rfl (Nat.le_of_ble_eq_true rfl) (Nat.le_of_ble_eq_true rfl) rfl (Nat.le_of_ble_eq_true rfl) (C_X_pieceOf hq) ?_
    show jG E _ 6 [(0, (2, ((20 : Nat) : Int))), (1, (0, a1))] [(0, v1)] h _ _
    refine jG.blk (st_Bd_kingSquare) 3 (pc1 := 9) (L1 := [(3, (0, 0)), (2, (0, v1)), (0, (2, ((20 : Nat) : Int))), (1, (0, a1))]) (st1 := []) (h1 := h) rfl ?_
    refine jG.subp [2, 1, 0] (L1 := [(0, (2, ((20 : Nat) : Int))), (2, (0, v1)), (3, (0, 0))]) rfl ?_
    refine f_Bd_kingSquare_lp9_ok E 20 (by decide) (fun l4 res hv => ?_) 1000 _ _ hv
    · refine jG.blk (st_Bd_kingSquare) 1 (pc1 := 34) (L1 := []) (st1 := [(0, (-1))]) (h1 := h) rfl ?_
      cases hv
      exact jT.iret (st_Bd_kingSquare) rfl trivial
def f_Bd_firstAlong_lp18 (r : Nat) (h : jH) (x4 : Int) (k : Int → Int → Option (Int)) : Nat → Int → Int → Option (Int)
  | 0, _, _ => none
  | n + 1, l2, l3 => if 8 ≤ l3 then k l2 l3 else if l2 = (-1) then k l2 l3 else jgd (0 ≤ l2 ∧ l2 < 64) (if h (r + 1) l2.toNat = 0 then jgd (0 ≤ x4 ∧ x4 < (((jxc.getD 1 []).length : Nat) : Int)) (jgd (0 ≤ x4 ∧ x4 < (((jxc.getD 2 []).length : Nat) : Int)) ((f_X_shifted h l2 ((jxc.getD 1 []).getD x4.toNat 0) ((jxc.getD 2 []).getD x4.toNat 0)).bind fun v5 => f_Bd_firstAlong_lp18 r h x4 k n v5 (jadd l3 1))) else some l2)
def f_Bd_firstAlong (r : Nat) (h : jH) (a1 : Int) (a2 : Int) : Option (Int) := jgd (0 ≤ a2 ∧ a2 < (((jxc.getD 1 []).length : Nat) : Int)) (jgd (0 ≤ a2 ∧ a2 < (((jxc.getD 2 []).length : Nat) : Int)) ((f_X_shifted h a1 ((jxc.getD 1 []).getD a2.toNat 0) ((jxc.getD 2 []).getD a2.toNat 0)).bind fun v1 => f_Bd_firstAlong_lp18 r h a2 (fun l6 l7 => some (-1)) 1000 v1 1))
set_option maxRecDepth 100000 in
set_option maxHeartbeats 4000000 in
theorem f_Bd_firstAlong_lp18_ok (E : jE) (r : Nat) (hr : r = 2 ∨ r = 20) {h : jH} {x4 : Int} {k : Int → Int → Option (Int)} (hk : ∀ (l2 : Int) (l3 : Int) (res : Int), k l2 l3 = some res → jG E M_Bd_firstAlong 62 [] [] h (some (0, res)) h) : ∀ (n : Nat) (l2 : Int) (l3 : Int) (res : Int), f_Bd_firstAlong_lp18 r h x4 k n l2 l3 = some res → jG E M_Bd_firstAlong 18 [(0, (2, ((r : Nat) : Int))), (2, (0, x4)), (3, (0, l2)), (4, (0, l3))] [] h (some (0, res)) h := by
  rcases hr with rfl | rfl
  · intro n
    induction n with
    | zero => intro l2 l3 res hv; cases hv
    | succ n ih =>
      intro l2 l3 res hv
      rw [f_Bd_firstAlong_lp18] at hv
      refine jG.blk (st_Bd_firstAlong) 2 (pc1 := 22) (L1 := [(0, (2, ((2 : Nat) : Int))), (2, (0, x4)), (3, (0, l2)), (4, (0, l3))]) (st1 := [(0, 8), (0, l3)]) (h1 := h) rfl ?_
      refine jT.if2 (st_Bd_firstAlong) rfl (tgt := 62) (by decide) (fun hc => ?_) (fun hc => ?_)
      · have hc : 8 ≤ l3 := hc
        try rw [if_pos hc] at hv
        refine jG.subp [] (L1 := []) rfl ?_
        exact hk _ _ _ hv
      · have hc : ¬ (8 ≤ l3) := hc
        try rw [if_neg hc] at hv
        refine jG.blk (st_Bd_firstAlong) 2 (pc1 := 27) (L1 := [(0, (2, ((2 : Nat) : Int))), (2, (0, x4)), (3, (0, l2)), (4, (0, l3))]) (st1 := [(0, (-1)), (0, l2)]) (h1 := h) rfl ?_
        refine jT.if2 (st_Bd_firstAlong) rfl (tgt := 62) (by decide) (fun hc => ?_) (fun hc => ?_)
        · have hc : l2 = (-1) := hc
          try rw [if_pos hc] at hv
          refine jG.subp [] (L1 := []) rfl ?_
          exact hk _ _ _ hv
        · have hc : ¬ (l2 = (-1)) := hc
          try rw [if_neg hc] at hv
          refine jG.blk (st_Bd_firstAlong) 3 (pc1 := 35) (L1 := [(0, (2, ((2 : Nat) : Int))), (2, (0, x4)), (3, (0, l2)), (4, (0, l3))]) (st1 := [(0, l2), (2, ((2 + 1 : Nat) : Int))]) (h1 := h) rfl ?_
          obtain ⟨hg, hv⟩ := jgd_some hv
          refine jT.iald (a := 2 + 1) (st_Bd_firstAlong) rfl rfl (by decide) hg.1 hg.2 ?_
          refine jT.if1 (st_Bd_firstAlong) rfl (tgt := 41) (by decide) (fun hc => ?_) (fun hc => ?_)
          · have hc : h (2 + 1) l2.toNat = 0 := hc
            try rw [if_pos hc] at hv
            refine jG.blk (st_Bd_firstAlong) 3 (pc1 := 46) (L1 := [(0, (2, ((2 : Nat) : Int))), (2, (0, x4)), (3, (0, l2)), (4, (0, l3))]) (st1 := [(0, x4), (3, ((1 : Nat) : Int)), (0, l2)]) (h1 := h) rfl ?_
            obtain ⟨hg, hv⟩ := jgd_some hv
            refine jT.xald (x := 1) (st_Bd_firstAlong) rfl (by decide) rfl (jxl_small (by decide) (by decide)) hg.1 hg.2 (jxc_ok _ _) ?_
            refine jG.blk (st_Bd_firstAlong) 2 (pc1 := 51) (L1 := [(0, (2, ((2 : Nat) : Int))), (2, (0, x4)), (3, (0, l2)), (4, (0, l3))]) (st1 := [(0, x4), (3, ((2 : Nat) : Int)), (0, (jxc.getD 1 []).getD x4.toNat 0), (0, l2)]) (h1 := h) rfl ?_
            obtain ⟨hg, hv⟩ := jgd_some hv
            refine jT.xald (x := 2) (st_Bd_firstAlong) rfl (by decide) rfl (jxl_small (by decide) (by decide)) hg.1 hg.2 (jxc_ok _ _) ?_
            obtain ⟨v5, hq, hv⟩ := Option.bind_eq_some_iff.mp hv
            refine jT.cSN (M1 := M_X_shifted) [(0, l2), (0, (jxc.getD 1 []).getD x4.toNat 0), (0, (jxc.getD 2 []).getD x4.toNat 0)] [] (st_Bd_firstAlong) rfl rfl ok_X_shifted rfl (Nat.le_of_ble_eq_true rfl) (Nat.le_of_ble_eq_true rfl) rfl (Nat.le_of_ble_eq_true rfl) (C_X_shifted hq) ?_
            show jG E _ 55 [(0, (2, ((2 : Nat) : Int))), (2, (0, x4)), (3, (0, l2)), (4, (0, l3))] [(0, v5)] h _ _
            refine jG.blk (st_Bd_firstAlong) 2 (pc1 := 59) (L1 := [(4, (0, jadd l3 1)), (3, (0, v5)), (0, (2, ((2 : Nat) : Int))), (2, (0, x4))]) (st1 := []) (h1 := h) rfl ?_
            refine jT.goto (st_Bd_firstAlong) rfl (tgt := 18) (by decide) ?_
            refine jG.subp [2, 3, 1, 0] (L1 := [(0, (2, ((2 : Nat) : Int))), (2, (0, x4)), (3, (0, v5)), (4, (0, jadd l3 1))]) rfl ?_
            exact ih _ _ _ hv
          · have hc : ¬ (h (2 + 1) l2.toNat = 0) := hc
            try rw [if_neg hc] at hv
            refine jG.blk (st_Bd_firstAlong) 1 (pc1 := 40) (L1 := [(0, (2, ((2 : Nat) : Int))), (2, (0, x4)), (3, (0, l2)), (4, (0, l3))]) (st1 := [(0, l2)]) (h1 := h) rfl ?_
            cases hv
            exact jT.iret (st_Bd_firstAlong) rfl trivial
  · intro n
    induction n with
    | zero => intro l2 l3 res hv; cases hv
    | succ n ih =>
      intro l2 l3 res hv
      rw [f_Bd_firstAlong_lp18] at hv
      refine jG.blk (st_Bd_firstAlong) 2 (pc1 := 22) (L1 := [(0, (2, ((20 : Nat) : Int))), (2, (0, x4)), (3, (0, l2)), (4, (0, l3))]) (st1 := [(0, 8), (0, l3)]) (h1 := h) rfl ?_
      refine jT.if2 (st_Bd_firstAlong) rfl (tgt := 62) (by decide) (fun hc => ?_) (fun hc => ?_)
      · have hc : 8 ≤ l3 := hc
        try rw [if_pos hc] at hv
        refine jG.subp [] (L1 := []) rfl ?_
        exact hk _ _ _ hv
      · have hc : ¬ (8 ≤ l3) := hc
        try rw [if_neg hc] at hv
        refine jG.blk (st_Bd_firstAlong) 2 (pc1 := 27) (L1 := [(0, (2, ((20 : Nat) : Int))), (2, (0, x4)), (3, (0, l2)), (4, (0, l3))]) (st1 := [(0, (-1)), (0, l2)]) (h1 := h) rfl ?_
        refine jT.if2 (st_Bd_firstAlong) rfl (tgt := 62) (by decide) (fun hc => ?_) (fun hc => ?_)
        · have hc : l2 = (-1) := hc
          try rw [if_pos hc] at hv
          refine jG.subp [] (L1 := []) rfl ?_
          exact hk _ _ _ hv
        · have hc : ¬ (l2 = (-1)) := hc
          try rw [if_neg hc] at hv
          refine jG.blk (st_Bd_firstAlong) 3 (pc1 := 35) (L1 := [(0, (2, ((20 : Nat) : Int))), (2, (0, x4)), (3, (0, l2)), (4, (0, l3))]) (st1 := [(0, l2), (2, ((20 + 1 : Nat) : Int))]) (h1 := h) rfl ?_
          obtain ⟨hg, hv⟩ := jgd_some hv
          refine jT.iald (a := 20 + 1) (st_Bd_firstAlong) rfl rfl (by decide) hg.1 hg.2 ?_
          refine jT.if1 (st_Bd_firstAlong) rfl (tgt := 41) (by decide) (fun hc => ?_) (fun hc => ?_)
          · have hc : h (20 + 1) l2.toNat = 0 := hc
            try rw [if_pos hc] at hv
            refine jG.blk (st_Bd_firstAlong) 3 (pc1 := 46) (L1 := [(0, (2, ((20 : Nat) : Int))), (2, (0, x4)), (3, (0, l2)), (4, (0, l3))]) (st1 := [(0, x4), (3, ((1 : Nat) : Int)), (0, l2)]) (h1 := h) rfl ?_
            obtain ⟨hg, hv⟩ := jgd_some hv
            refine jT.xald (x := 1) (st_Bd_firstAlong) rfl (by decide) rfl (jxl_small (by decide) (by decide)) hg.1 hg.2 (jxc_ok _ _) ?_
            refine jG.blk (st_Bd_firstAlong) 2 (pc1 := 51) (L1 := [(0, (2, ((20 : Nat) : Int))), (2, (0, x4)), (3, (0, l2)), (4, (0, l3))]) (st1 := [(0, x4), (3, ((2 : Nat) : Int)), (0, (jxc.getD 1 []).getD x4.toNat 0), (0, l2)]) (h1 := h) rfl ?_
            obtain ⟨hg, hv⟩ := jgd_some hv
            refine jT.xald (x := 2) (st_Bd_firstAlong) rfl (by decide) rfl (jxl_small (by decide) (by decide)) hg.1 hg.2 (jxc_ok _ _) ?_
            obtain ⟨v5, hq, hv⟩ := Option.bind_eq_some_iff.mp hv
            refine jT.cSN (M1 := M_X_shifted) [(0, l2), (0, (jxc.getD 1 []).getD x4.toNat 0), (0, (jxc.getD 2 []).getD x4.toNat 0)] [] (st_Bd_firstAlong) rfl rfl ok_X_shifted rfl (Nat.le_of_ble_eq_true rfl) (Nat.le_of_ble_eq_true rfl) rfl (Nat.le_of_ble_eq_true rfl) (C_X_shifted hq) ?_
            show jG E _ 55 [(0, (2, ((20 : Nat) : Int))), (2, (0, x4)), (3, (0, l2)), (4, (0, l3))] [(0, v5)] h _ _
            refine jG.blk (st_Bd_firstAlong) 2 (pc1 := 59) (L1 := [(4, (0, jadd l3 1)), (3, (0, v5)), (0, (2, ((20 : Nat) : Int))), (2, (0, x4))]) (st1 := []) (h1 := h) rfl ?_
            refine jT.goto (st_Bd_firstAlong) rfl (tgt := 18) (by decide) ?_
            refine jG.subp [2, 3, 1, 0] (L1 := [(0, (2, ((20 : Nat) : Int))), (2, (0, x4)), (3, (0, v5)), (4, (0, jadd l3 1))]) rfl ?_
            exact ih _ _ _ hv
          · have hc : ¬ (h (20 + 1) l2.toNat = 0) := hc
            try rw [if_neg hc] at hv
            refine jG.blk (st_Bd_firstAlong) 1 (pc1 := 40) (L1 := [(0, (2, ((20 : Nat) : Int))), (2, (0, x4)), (3, (0, l2)), (4, (0, l3))]) (st1 := [(0, l2)]) (h1 := h) rfl ?_
            cases hv
            exact jT.iret (st_Bd_firstAlong) rfl trivial
set_option maxRecDepth 100000 in
set_option maxHeartbeats 4000000 in
theorem C_Bd_firstAlong {E : jE} {r : Nat} (hr : r = 2 ∨ r = 20) {h : jH} {a1 : Int} {a2 : Int} {res : Int} (hv : f_Bd_firstAlong r h a1 a2 = some res) : jC E M_Bd_firstAlong [(2, ((r : Nat) : Int)), (0, a1), (0, a2)] h (some (0, res)) h := by
  rcases hr with rfl | rfl
  · refine jC.of ok_Bd_firstAlong.1 (by rw [jlg]; exact Nat.le_of_ble_eq_true rfl) ?_
    show jG E _ 0 [(0, (2, ((2 : Nat) : Int))), (1, (0, a1)), (2, (0, a2))] [] h _ _
    unfold f_Bd_firstAlong at hv
    refine jG.blk (st_Bd_firstAlong) 3 (pc1 := 5) (L1 := [(0, (2, ((2 : Nat) : Int))), (1, (0, a1)), (2, (0, a2))]) (st1 := [(0, a2), (3, ((1 : Nat) : Int)), (0, a1)]) (h1 := h) rfl ?_
    obtain ⟨hg, hv⟩ := jgd_some hv
    refine jT.xald (x := 1) (st_Bd_firstAlong) rfl (by decide) rfl (jxl_small (by decide) (by decide)) hg.1 hg.2 (jxc_ok _ _) ?_
    refine jG.blk (st_Bd_firstAlong) 2 (pc1 := 10) (L1 := [(0, (2, ((2 : Nat) : Int))), (1, (0, a1)), (2, (0, a2))]) (st1 := [(0, a2), (3, ((2 : Nat) : Int)), (0, (jxc.getD 1 []).getD a2.toNat 0), (0, a1)]) (h1 := h) rfl ?_
    obtain ⟨hg, hv⟩ := jgd_some hv
    refine jT.xald (x := 2) (st_Bd_firstAlong) rfl (by decide) rfl (jxl_small (by decide) (by decide)) hg.1 hg.2 (jxc_ok _ _) ?_
    obtain ⟨v1, hq, hv⟩ := Option.bind_eq_some_iff.mp hv
    refine jT.cSN (M1 := M_X_shifted) [(0, a1), (0, (jxc.getD 1 []).getD a2.toNat 0), (0, (jxc.getD 2 []).getD a2.toNat 0)] [] (st_Bd_firstAlong) rfl rfl ok_X_shifted rfl (Nat.le_of_ble_eq_true rfl) (Nat.le_of_ble_eq_true rfl) rfl (Nat.le_of_ble_eq_true rfl) (C_X_shifted hq) ?_
    show jG E _ 14 [(0, (2, ((2 : Nat) : Int))), (1, (0, a1)), (2, (0, a2))] [(0, v1)] h _ _
    refine jG.blk (st_Bd_firstAlong) 3 (pc1 := 18) (L1 := [(4, (0, 1)), (3, (0, v1)), (0, (2, ((2 : Nat) : Int))), (1, (0, a1)), (2, (0, a2))]) (st1 := []) (h1 := h) rfl ?_
    refine jG.subp [2, 4, 1, 0] (L1 := [(0, (2, ((2 : Nat) : Int))), (2, (0, a2)), (3, (0, v1)), (4, (0, 1))]) rfl ?_
    refine f_Bd_firstAlong_lp18_ok E 2 (by decide) (fun l6 l7 res hv => ?_) 1000 _ _ _ hv
    · refine jG.blk (st_Bd_firstAlong) 1 (pc1 := 63) (L1 := []) (st1 := [(0, (-1))]) (h1 := h) rfl ?_
      cases hv
      exact jT.iret (st_Bd_firstAlong) rfl trivial
  · refine jC.of ok_Bd_firstAlong.1 (by rw [jlg]; exact Nat.le_of_ble_eq_true rfl) ?_
    show jG E _ 0 [(0, (2, ((20 : Nat) : Int))), (1, (0, a1)), (2, (0, a2))] [] h _ _
    unfold f_Bd_firstAlong at hv
    refine jG.blk (st_Bd_firstAlong) 3 (pc1 := 5) (L1 := [(0, (2, ((20 : Nat) : Int))), (1, (0, a1)), (2, (0, a2))]) (st1 := [(0, a2), (3, ((1 : Nat) : Int)), (0, a1)]) (h1 := h) rfl ?_
    obtain ⟨hg, hv⟩ := jgd_some hv
    refine jT.xald (x := 1) (st_Bd_firstAlong) rfl (by decide) rfl (jxl_small (by decide) (by decide)) hg.1 hg.2 (jxc_ok _ _) ?_
    refine jG.blk (st_Bd_firstAlong) 2 (pc1 := 10) (L1 := [(0, (2, ((20 : Nat) : Int))), (1, (0, a1)), (2, (0, a2))]) (st1 := [(0, a2), (3, ((2 : Nat) : Int)), (0, (jxc.getD 1 []).getD a2.toNat 0), (0, a1)]) (h1 := h) rfl ?_
    obtain ⟨hg, hv⟩ := jgd_some hv
    refine jT.xald (x := 2) (st_Bd_firstAlong) rfl (by decide) rfl (jxl_small (by decide) (by decide)) hg.1 hg.2 (jxc_ok _ _) ?_
    obtain ⟨v1, hq, hv⟩ := Option.bind_eq_some_iff.mp hv
    refine jT.cSN (M1 := M_X_shifted) [(0, a1), (0, (jxc.getD 1 []).getD a2.toNat 0), (0, (jxc.getD 2 []).getD a2.toNat 0)] [] (st_Bd_firstAlong) rfl rfl ok_X_shifted rfl (Nat.le_of_ble_eq_true rfl) (Nat.le_of_ble_eq_true rfl) rfl (Nat.le_of_ble_eq_true rfl) (C_X_shifted hq) ?_
    show jG E _ 14 [(0, (2, ((20 : Nat) : Int))), (1, (0, a1)), (2, (0, a2))] [(0, v1)] h _ _
    refine jG.blk (st_Bd_firstAlong) 3 (pc1 := 18) (L1 := [(4, (0, 1)), (3, (0, v1)), (0, (2, ((20 : Nat) : Int))), (1, (0, a1)), (2, (0, a2))]) (st1 := []) (h1 := h) rfl ?_
    refine jG.subp [2, 4, 1, 0] (L1 := [(0, (2, ((20 : Nat) : Int))), (2, (0, a2)), (3, (0, v1)), (4, (0, 1))]) rfl ?_
    refine f_Bd_firstAlong_lp18_ok E 20 (by decide) (fun l6 l7 res hv => ?_) 1000 _ _ _ hv
    · refine jG.blk (st_Bd_firstAlong) 1 (pc1 := 63) (L1 := []) (st1 := [(0, (-1))]) (h1 := h) rfl ?_
      cases hv
      exact jT.iret (st_Bd_firstAlong) rfl trivial
def f_Bd_attacksAgainst (r : Nat) (h : jH) (a1 : Int) (a2 : Int) (a3 : Int) : Option (Int) := jgd (0 ≤ a1 ∧ a1 < 64) ((f_X_kindOf h (h (r + 1) a1.toNat)).bind fun v1 => if v1 = 1 then if (if 0 ≤ (jsub (jand a1 7) (jand a2 7)) then (jsub (jand a1 7) (jand a2 7)) else jsub 0 (jsub (jand a1 7) (jand a2 7))) = 1 then jgd (0 ≤ a1 ∧ a1 < 64) ((f_X_sideOf h (h (r + 1) a1.toNat)).bind fun v3 => (f_X_forwardOf h v3).bind fun v4 => some (if jsub (jshr a2 3) (jshr a1 3) = v4 then 1 else 0)) else some 0 else (f_X_reachOf h v1 a3).bind fun v2 => some (if v2 < (if (if 0 ≤ (jsub (jand a1 7) (jand a2 7)) then (jsub (jand a1 7) (jand a2 7)) else jsub 0 (jsub (jand a1 7) (jand a2 7))) < (if 0 ≤ (jsub (jshr a2 3) (jshr a1 3)) then (jsub (jshr a2 3) (jshr a1 3)) else jsub 0 (jsub (jshr a2 3) (jshr a1 3))) then (if 0 ≤ (jsub (jshr a2 3) (jshr a1 3)) then (jsub (jshr a2 3) (jshr a1 3)) else jsub 0 (jsub (jshr a2 3) (jshr a1 3))) else (if 0 ≤ (jsub (jand a1 7) (jand a2 7)) then (jsub (jand a1 7) (jand a2 7)) else jsub 0 (jsub (jand a1 7) (jand a2 7)))) then 0 else 1))
set_option maxRecDepth 100000 in
set_option maxHeartbeats 4000000 in
theorem C_Bd_attacksAgainst {E : jE} {r : Nat} (hr : r = 2 ∨ r = 20) {h : jH} {a1 : Int} {a2 : Int} {a3 : Int} {res : Int} (hv : f_Bd_attacksAgainst r h a1 a2 a3 = some res) : jC E M_Bd_attacksAgainst [(2, ((r : Nat) : Int)), (0, a1), (0, a2), (0, a3)] h (some (0, res)) h := by
  rcases hr with rfl | rfl
  · refine jC.of ok_Bd_attacksAgainst.1 (by rw [jlg]; exact Nat.le_of_ble_eq_true rfl) ?_
    show jG E _ 0 [(0, (2, ((2 : Nat) : Int))), (1, (0, a1)), (2, (0, a2)), (3, (0, a3))] [] h _ _
    unfold f_Bd_attacksAgainst at hv
    refine jG.blk (st_Bd_attacksAgainst) 3 (pc1 := 5) (L1 := [(0, (2, ((2 : Nat) : Int))), (1, (0, a1)), (2, (0, a2)), (3, (0, a3))]) (st1 := [(0, a1), (2, ((2 + 1 : Nat) : Int))]) (h1 := h) rfl ?_
    obtain ⟨hg, hv⟩ := jgd_some hv
    refine jT.iald (a := 2 + 1) (st_Bd_attacksAgainst) rfl rfl (by decide) hg.1 hg.2 ?_
    obtain ⟨v1, hq, hv⟩ := Option.bind_eq_some_iff.mp hv
    refine jT.cSN (M1 := M_X_kindOf) [(0, h (2 + 1) a1.toNat)] [] (st_Bd_attacksAgainst) rfl rfl ok_X_kindOf rfl (Nat.le_of_ble_eq_true rfl) (Nat.le_of_ble_eq_true rfl) rfl (Nat.le_of_ble_eq_true rfl) (C_X_kindOf hq) ?_
    show jG E _ 9 [(0, (2, ((2 : Nat) : Int))), (1, (0, a1)), (2, (0, a2)), (3, (0, a3))] [(0, v1)] h _ _
    refine jG.blk (st_Bd_attacksAgainst) 8 (pc1 := 20) (L1 := [(4, (0, v1)), (0, (2, ((2 : Nat) : Int))), (1, (0, a1)), (2, (0, a2)), (3, (0, a3))]) (st1 := [(0, jsub (jand a1 7) (jand a2 7))]) (h1 := h) rfl ?_
    refine jT.mabs (a := (jsub (jand a1 7) (jand a2 7))) (rest := []) (st_Bd_attacksAgainst) rfl (Nat.le_of_ble_eq_true rfl) (Nat.le_of_ble_eq_true rfl) (Nat.le_of_ble_eq_true rfl) ?_
    refine jG.blk (st_Bd_attacksAgainst) 11 (pc1 := 37) (L1 := [(6, (0, jsub (jshr a2 3) (jshr a1 3))), (5, (0, if 0 ≤ (jsub (jand a1 7) (jand a2 7)) then (jsub (jand a1 7) (jand a2 7)) else jsub 0 (jsub (jand a1 7) (jand a2 7)))), (4, (0, v1)), (0, (2, ((2 : Nat) : Int))), (1, (0, a1)), (2, (0, a2)), (3, (0, a3))]) (st1 := [(0, 1), (0, v1)]) (h1 := h) rfl ?_
    refine jT.if2 (st_Bd_attacksAgainst) rfl (tgt := 69) (by decide) (fun hc => ?_) (fun hc => ?_)
    · have hc : ¬ (v1 = 1) := hc
      try rw [if_neg hc] at hv
      refine jG.blk (st_Bd_attacksAgainst) 2 (pc1 := 73) (L1 := [(6, (0, jsub (jshr a2 3) (jshr a1 3))), (5, (0, if 0 ≤ (jsub (jand a1 7) (jand a2 7)) then (jsub (jand a1 7) (jand a2 7)) else jsub 0 (jsub (jand a1 7) (jand a2 7)))), (4, (0, v1)), (0, (2, ((2 : Nat) : Int))), (1, (0, a1)), (2, (0, a2)), (3, (0, a3))]) (st1 := [(0, jsub (jshr a2 3) (jshr a1 3)), (0, if 0 ≤ (jsub (jand a1 7) (jand a2 7)) then (jsub (jand a1 7) (jand a2 7)) else jsub 0 (jsub (jand a1 7) (jand a2 7)))]) (h1 := h) rfl ?_
      refine jT.mabs (a := (jsub (jshr a2 3) (jshr a1 3))) (rest := [(0, if 0 ≤ (jsub (jand a1 7) (jand a2 7)) then (jsub (jand a1 7) (jand a2 7)) else jsub 0 (jsub (jand a1 7) (jand a2 7)))]) (st_Bd_attacksAgainst) rfl (Nat.le_of_ble_eq_true rfl) (Nat.le_of_ble_eq_true rfl) (Nat.le_of_ble_eq_true rfl) ?_
      refine jT.mmax (a := (if 0 ≤ (jsub (jand a1 7) (jand a2 7)) then (jsub (jand a1 7) (jand a2 7)) else jsub 0 (jsub (jand a1 7) (jand a2 7)))) (b := (if 0 ≤ (jsub (jshr a2 3) (jshr a1 3)) then (jsub (jshr a2 3) (jshr a1 3)) else jsub 0 (jsub (jshr a2 3) (jshr a1 3)))) (rest := []) (st_Bd_attacksAgainst) rfl (Nat.le_of_ble_eq_true rfl) (Nat.le_of_ble_eq_true rfl) (Nat.le_of_ble_eq_true rfl) ?_
      refine jG.blk (st_Bd_attacksAgainst) 2 (pc1 := 82) (L1 := [(6, (0, jsub (jshr a2 3) (jshr a1 3))), (5, (0, if 0 ≤ (jsub (jand a1 7) (jand a2 7)) then (jsub (jand a1 7) (jand a2 7)) else jsub 0 (jsub (jand a1 7) (jand a2 7)))), (4, (0, v1)), (0, (2, ((2 : Nat) : Int))), (1, (0, a1)), (2, (0, a2)), (3, (0, a3))]) (st1 := [(0, a3), (0, v1), (0, if (if 0 ≤ (jsub (jand a1 7) (jand a2 7)) then (jsub (jand a1 7) (jand a2 7)) else jsub 0 (jsub (jand a1 7) (jand a2 7))) < (if 0 ≤ (jsub (jshr a2 3) (jshr a1 3)) then (jsub (jshr a2 3) (jshr a1 3)) else jsub 0 (jsub (jshr a2 3) (jshr a1 3))) then (if 0 ≤ (jsub (jshr a2 3) (jshr a1 3)) then (jsub (jshr a2 3) (jshr a1 3)) else jsub 0 (jsub (jshr a2 3) (jshr a1 3))) else (if 0 ≤ (jsub (jand a1 7) (jand a2 7)) then (jsub (jand a1 7) (jand a2 7)) else jsub 0 (jsub (jand a1 7) (jand a2 7))))]) (h1 := h) rfl ?_
      obtain ⟨v2, hq, hv⟩ := Option.bind_eq_some_iff.mp hv
      refine jT.cSN (M1 := M_X_reachOf) [(0, v1), (0, a3)] [(0, if (if 0 ≤ (jsub (jand a1 7) (jand a2 7)) then (jsub (jand a1 7) (jand a2 7)) else jsub 0 (jsub (jand a1 7) (jand a2 7))) < (if 0 ≤ (jsub (jshr a2 3) (jshr a1 3)) then (jsub (jshr a2 3) (jshr a1 3)) else jsub 0 (jsub (jshr a2 3) (jshr a1 3))) then (if 0 ≤ (jsub (jshr a2 3) (jshr a1 3)) then (jsub (jshr a2 3) (jshr a1 3)) else jsub 0 (jsub (jshr a2 3) (jshr a1 3))) else (if 0 ≤ (jsub (jand a1 7) (jand a2 7)) then (jsub (jand a1 7) (jand a2 7)) else jsub 0 (jsub (jand a1 7) (jand a2 7))))] (st_Bd_attacksAgainst) rfl rfl ok_X_reachOf rfl (Nat.le_of_ble_eq_true rfl) (Nat.le_of_ble_eq_true rfl) rfl (Nat.le_of_ble_eq_true rfl) (C_X_reachOf hq) ?_
      show jG E _ 85 [(6, (0, jsub (jshr a2 3) (jshr a1 3))), (5, (0, if 0 ≤ (jsub (jand a1 7) (jand a2 7)) then (jsub (jand a1 7) (jand a2 7)) else jsub 0 (jsub (jand a1 7) (jand a2 7)))), (4, (0, v1)), (0, (2, ((2 : Nat) : Int))), (1, (0, a1)), (2, (0, a2)), (3, (0, a3))] [(0, v2), (0, if (if 0 ≤ (jsub (jand a1 7) (jand a2 7)) then (jsub (jand a1 7) (jand a2 7)) else jsub 0 (jsub (jand a1 7) (jand a2 7))) < (if 0 ≤ (jsub (jshr a2 3) (jshr a1 3)) then (jsub (jshr a2 3) (jshr a1 3)) else jsub 0 (jsub (jshr a2 3) (jshr a1 3))) then (if 0 ≤ (jsub (jshr a2 3) (jshr a1 3)) then (jsub (jshr a2 3) (jshr a1 3)) else jsub 0 (jsub (jshr a2 3) (jshr a1 3))) else (if 0 ≤ (jsub (jand a1 7) (jand a2 7)) then (jsub (jand a1 7) (jand a2 7)) else jsub 0 (jsub (jand a1 7) (jand a2 7))))] h _ _
      refine jT.if2 (st_Bd_attacksAgainst) rfl (tgt := 92) (by decide) (fun hc => ?_) (fun hc => ?_)
      · have hc : v2 < (if (if 0 ≤ (jsub (jand a1 7) (jand a2 7)) then (jsub (jand a1 7) (jand a2 7)) else jsub 0 (jsub (jand a1 7) (jand a2 7))) < (if 0 ≤ (jsub (jshr a2 3) (jshr a1 3)) then (jsub (jshr a2 3) (jshr a1 3)) else jsub 0 (jsub (jshr a2 3) (jshr a1 3))) then (if 0 ≤ (jsub (jshr a2 3) (jshr a1 3)) then (jsub (jshr a2 3) (jshr a1 3)) else jsub 0 (jsub (jshr a2 3) (jshr a1 3))) else (if 0 ≤ (jsub (jand a1 7) (jand a2 7)) then (jsub (jand a1 7) (jand a2 7)) else jsub 0 (jsub (jand a1 7) (jand a2 7)))) := hc
        try rw [if_pos hc] at hv
        refine jG.blk (st_Bd_attacksAgainst) 1 (pc1 := 93) (L1 := [(6, (0, jsub (jshr a2 3) (jshr a1 3))), (5, (0, if 0 ≤ (jsub (jand a1 7) (jand a2 7)) then (jsub (jand a1 7) (jand a2 7)) else jsub 0 (jsub (jand a1 7) (jand a2 7)))), (4, (0, v1)), (0, (2, ((2 : Nat) : Int))), (1, (0, a1)), (2, (0, a2)), (3, (0, a3))]) (st1 := [(0, 0)]) (h1 := h) rfl ?_
        cases hv
        exact jT.iret (st_Bd_attacksAgainst) rfl (Or.inl rfl)
      · have hc : ¬ (v2 < (if (if 0 ≤ (jsub (jand a1 7) (jand a2 7)) then (jsub (jand a1 7) (jand a2 7)) else jsub 0 (jsub (jand a1 7) (jand a2 7))) < (if 0 ≤ (jsub (jshr a2 3) (jshr a1 3)) then (jsub (jshr a2 3) (jshr a1 3)) else jsub 0 (jsub (jshr a2 3) (jshr a1 3))) then (if 0 ≤ (jsub (jshr a2 3) (jshr a1 3)) then (jsub (jshr a2 3) (jshr a1 3)) else jsub 0 (jsub (jshr a2 3) (jshr a1 3))) else (if 0 ≤ (jsub (jand a1 7) (jand a2 7)) then (jsub (jand a1 7) (jand a2 7)) else jsub 0 (jsub (jand a1 7) (jand a2 7))))) := hc
        try rw [if_neg hc] at hv
        refine jG.blk (st_Bd_attacksAgainst) 1 (pc1 := 89) (L1 := [(6, (0, jsub (jshr a2 3) (jshr a1 3))), (5, (0, if 0 ≤ (jsub (jand a1 7) (jand a2 7)) then (jsub (jand a1 7) (jand a2 7)) else jsub 0 (jsub (jand a1 7) (jand a2 7)))), (4, (0, v1)), (0, (2, ((2 : Nat) : Int))), (1, (0, a1)), (2, (0, a2)), (3, (0, a3))]) (st1 := [(0, 1)]) (h1 := h) rfl ?_
        refine jT.goto (st_Bd_attacksAgainst) rfl (tgt := 93) (by decide) ?_
        cases hv
        exact jT.iret (st_Bd_attacksAgainst) rfl (Or.inr rfl)
    · have hc : v1 = 1 := Decidable.not_not.mp hc
      try rw [if_pos hc] at hv
      refine jG.blk (st_Bd_attacksAgainst) 2 (pc1 := 43) (L1 := [(6, (0, jsub (jshr a2 3) (jshr a1 3))), (5, (0, if 0 ≤ (jsub (jand a1 7) (jand a2 7)) then (jsub (jand a1 7) (jand a2 7)) else jsub 0 (jsub (jand a1 7) (jand a2 7)))), (4, (0, v1)), (0, (2, ((2 : Nat) : Int))), (1, (0, a1)), (2, (0, a2)), (3, (0, a3))]) (st1 := [(0, 1), (0, if 0 ≤ (jsub (jand a1 7) (jand a2 7)) then (jsub (jand a1 7) (jand a2 7)) else jsub 0 (jsub (jand a1 7) (jand a2 7)))]) (h1 := h) rfl ?_
      refine jT.if2 (st_Bd_attacksAgainst) rfl (tgt := 67) (by decide) (fun hc => ?_) (fun hc => ?_)
      · have hc : ¬ ((if 0 ≤ (jsub (jand a1 7) (jand a2 7)) then (jsub (jand a1 7) (jand a2 7)) else jsub 0 (jsub (jand a1 7) (jand a2 7))) = 1) := hc
        try rw [if_neg hc] at hv
        refine jG.blk (st_Bd_attacksAgainst) 1 (pc1 := 68) (L1 := [(6, (0, jsub (jshr a2 3) (jshr a1 3))), (5, (0, if 0 ≤ (jsub (jand a1 7) (jand a2 7)) then (jsub (jand a1 7) (jand a2 7)) else jsub 0 (jsub (jand a1 7) (jand a2 7)))), (4, (0, v1)), (0, (2, ((2 : Nat) : Int))), (1, (0, a1)), (2, (0, a2)), (3, (0, a3))]) (st1 := [(0, 0)]) (h1 := h) rfl ?_
        cases hv
        exact jT.iret (st_Bd_attacksAgainst) rfl (Or.inl rfl)
      · have hc : (if 0 ≤ (jsub (jand a1 7) (jand a2 7)) then (jsub (jand a1 7) (jand a2 7)) else jsub 0 (jsub (jand a1 7) (jand a2 7))) = 1 := Decidable.not_not.mp hc
        try rw [if_pos hc] at hv
        refine jG.blk (st_Bd_attacksAgainst) 4 (pc1 := 53) (L1 := [(6, (0, jsub (jshr a2 3) (jshr a1 3))), (5, (0, if 0 ≤ (jsub (jand a1 7) (jand a2 7)) then (jsub (jand a1 7) (jand a2 7)) else jsub 0 (jsub (jand a1 7) (jand a2 7)))), (4, (0, v1)), (0, (2, ((2 : Nat) : Int))), (1, (0, a1)), (2, (0, a2)), (3, (0, a3))]) (st1 := [(0, a1), (2, ((2 + 1 : Nat) : Int)), (0, jsub (jshr a2 3) (jshr a1 3))]) (h1 := h) rfl ?_
        obtain ⟨hg, hv⟩ := jgd_some hv
        refine jT.iald (a := 2 + 1) (st_Bd_attacksAgainst) rfl rfl (by decide) hg.1 hg.2 ?_
        obtain ⟨v3, hq, hv⟩ := Option.bind_eq_some_iff.mp hv
        refine jT.cSN (M1 := M_X_sideOf) [(0, h (2 + 1) a1.toNat)] [(0, jsub (jshr a2 3) (jshr a1 3))] (st_Bd_attacksAgainst) rfl rfl ok_X_sideOf rfl (Nat.le_of_ble_eq_true rfl) (Nat.le_of_ble_eq_true rfl) rfl (Nat.le_of_ble_eq_true rfl) (C_X_sideOf hq) ?_
        show jG E _ 57 [(6, (0, jsub (jshr a2 3) (jshr a1 3))), (5, (0, if 0 ≤ (jsub (jand a1 7) (jand a2 7)) then (jsub (jand a1 7) (jand a2 7)) else jsub 0 (jsub (jand a1 7) (jand a2 7)))), (4, (0, v1)), (0, (2, ((2 : Nat) : Int))), (1, (0, a1)), (2, (0, a2)), (3, (0, a3))] [(0, v3), (0, jsub (jshr a2 3) (jshr a1 3))] h _ _
        obtain ⟨v4, hq, hv⟩ := Option.bind_eq_some_iff.mp hv
        refine jT.cSN (M1 := M_X_forwardOf) [(0, v3)] [(0, jsub (jshr a2 3) (jshr a1 3))] (st_Bd_attacksAgainst) rfl rfl ok_X_forwardOf rfl (Nat.le_of_ble_eq_true rfl) (Nat.le_of_ble_eq_true rfl) rfl (Nat.le_of_ble_eq_true rfl) (C_X_forwardOf hq) ?_
        show jG E _ 60 [(6, (0, jsub (jshr a2 3) (jshr a1 3))), (5, (0, if 0 ≤ (jsub (jand a1 7) (jand a2 7)) then (jsub (jand a1 7) (jand a2 7)) else jsub 0 (jsub (jand a1 7) (jand a2 7)))), (4, (0, v1)), (0, (2, ((2 : Nat) : Int))), (1, (0, a1)), (2, (0, a2)), (3, (0, a3))] [(0, v4), (0, jsub (jshr a2 3) (jshr a1 3))] h _ _
        refine jT.if2 (st_Bd_attacksAgainst) rfl (tgt := 67) (by decide) (fun hc => ?_) (fun hc => ?_)
        · have hc : ¬ (jsub (jshr a2 3) (jshr a1 3) = v4) := hc
          try rw [if_neg hc] at hv
          refine jG.blk (st_Bd_attacksAgainst) 1 (pc1 := 68) (L1 := [(6, (0, jsub (jshr a2 3) (jshr a1 3))), (5, (0, if 0 ≤ (jsub (jand a1 7) (jand a2 7)) then (jsub (jand a1 7) (jand a2 7)) else jsub 0 (jsub (jand a1 7) (jand a2 7)))), (4, (0, v1)), (0, (2, ((2 : Nat) : Int))), (1, (0, a1)), (2, (0, a2)), (3, (0, a3))]) (st1 := [(0, 0)]) (h1 := h) rfl ?_
          cases hv
          exact jT.iret (st_Bd_attacksAgainst) rfl (Or.inl rfl)
        · have hc : jsub (jshr a2 3) (jshr a1 3) = v4 := Decidable.not_not.mp hc
          try rw [if_pos hc] at hv
          refine jG.blk (st_Bd_attacksAgainst) 1 (pc1 := 64) (L1 := [(6, (0, jsub (jshr a2 3) (jshr a1 3))), (5, (0, if 0 ≤ (jsub (jand a1 7) (jand a2 7)) then (jsub (jand a1 7) (jand a2 7)) else jsub 0 (jsub (jand a1 7) (jand a2 7)))), (4, (0, v1)), (0, (2, ((2 : Nat) : Int))), (1, (0, a1)), (2, (0, a2)), (3, (0, a3))]) (st1 := [(0, 1)]) (h1 := h) rfl ?_
          refine jT.goto (st_Bd_attacksAgainst) rfl (tgt := 68) (by decide) ?_
          cases hv
          exact jT.iret (st_Bd_attacksAgainst) rfl (Or.inr rfl)
  · refine jC.of ok_Bd_attacksAgainst.1 (by rw [jlg]; exact Nat.le_of_ble_eq_true rfl) ?_
    show jG E _ 0 [(0, (2, ((20 : Nat) : Int))), (1, (0, a1)), (2, (0, a2)), (3, (0, a3))] [] h _ _
    unfold f_Bd_attacksAgainst at hv
    refine jG.blk (st_Bd_attacksAgainst) 3 (pc1 := 5) (L1 := [(0, (2, ((20 : Nat) : Int))), (1, (0, a1)), (2, (0, a2)), (3, (0, a3))]) (st1 := [(0, a1), (2, ((20 + 1 : Nat) : Int))]) (h1 := h) rfl ?_
    obtain ⟨hg, hv⟩ := jgd_some hv
    refine jT.iald (a := 20 + 1) (st_Bd_attacksAgainst) rfl rfl (by decide) hg.1 hg.2 ?_
    obtain ⟨v1, hq, hv⟩ := Option.bind_eq_some_iff.mp hv
    refine jT.cSN (M1 := M_X_kindOf) [(0, h (20 + 1) a1.toNat)] [] (st_Bd_attacksAgainst) rfl rfl ok_X_kindOf rfl (Nat.le_of_ble_eq_true rfl) (Nat.le_of_ble_eq_true rfl) rfl (Nat.le_of_ble_eq_true rfl) (C_X_kindOf hq) ?_
    show jG E _ 9 [(0, (2, ((20 : Nat) : Int))), (1, (0, a1)), (2, (0, a2)), (3, (0, a3))] [(0, v1)] h _ _
    refine jG.blk (st_Bd_attacksAgainst) 8 (pc1 := 20) (L1 := [(4, (0, v1)), (0, (2, ((20 : Nat) : Int))), (1, (0, a1)), (2, (0, a2)), (3, (0, a3))]) (st1 := [(0, jsub (jand a1 7) (jand a2 7))]) (h1 := h) rfl ?_
    refine jT.mabs (a := (jsub (jand a1 7) (jand a2 7))) (rest := []) (st_Bd_attacksAgainst) rfl (Nat.le_of_ble_eq_true rfl) (Nat.le_of_ble_eq_true rfl) (Nat.le_of_ble_eq_true rfl) ?_
    refine jG.blk (st_Bd_attacksAgainst) 11 (pc1 := 37) (L1 := [(6, (0, jsub (jshr a2 3) (jshr a1 3))), (5, (0, if 0 ≤ (jsub (jand a1 7) (jand a2 7)) then (jsub (jand a1 7) (jand a2 7)) else jsub 0 (jsub (jand a1 7) (jand a2 7)))), (4, (0, v1)), (0, (2, ((20 : Nat) : Int))), (1, (0, a1)), (2, (0, a2)), (3, (0, a3))]) (st1 := [(0, 1), (0, v1)]) (h1 := h) rfl ?_
    refine jT.if2 (st_Bd_attacksAgainst) rfl (tgt := 69) (by decide) (fun hc => ?_) (fun hc => ?_)
    · have hc : ¬ (v1 = 1) := hc
      try rw [if_neg hc] at hv
      refine jG.blk (st_Bd_attacksAgainst) 2 (pc1 := 73) (L1 := [(6, (0, jsub (jshr a2 3) (jshr a1 3))), (5, (0, if 0 ≤ (jsub (jand a1 7) (jand a2 7)) then (jsub (jand a1 7) (jand a2 7)) else jsub 0 (jsub (jand a1 7) (jand a2 7)))), (4, (0, v1)), (0, (2, ((20 : Nat) : Int))), (1, (0, a1)), (2, (0, a2)), (3, (0, a3))]) (st1 := [(0, jsub (jshr a2 3) (jshr a1 3)), (0, if 0 ≤ (jsub (jand a1 7) (jand a2 7)) then (jsub (jand a1 7) (jand a2 7)) else jsub 0 (jsub (jand a1 7) (jand a2 7)))]) (h1 := h) rfl ?_
      refine jT.mabs (a := (jsub (jshr a2 3) (jshr a1 3))) (rest := [(0, if 0 ≤ (jsub (jand a1 7) (jand a2 7)) then (jsub (jand a1 7) (jand a2 7)) else jsub 0 (jsub (jand a1 7) (jand a2 7)))]) (st_Bd_attacksAgainst) rfl (Nat.le_of_ble_eq_true rfl) (Nat.le_of_ble_eq_true rfl) (Nat.le_of_ble_eq_true rfl) ?_
      refine jT.mmax (a := (if 0 ≤ (jsub (jand a1 7) (jand a2 7)) then (jsub (jand a1 7) (jand a2 7)) else jsub 0 (jsub (jand a1 7) (jand a2 7)))) (b := (if 0 ≤ (jsub (jshr a2 3) (jshr a1 3)) then (jsub (jshr a2 3) (jshr a1 3)) else jsub 0 (jsub (jshr a2 3) (jshr a1 3)))) (rest := []) (st_Bd_attacksAgainst) rfl (Nat.le_of_ble_eq_true rfl) (Nat.le_of_ble_eq_true rfl) (Nat.le_of_ble_eq_true rfl) ?_
      refine jG.blk (st_Bd_attacksAgainst) 2 (pc1 := 82) (L1 := [(6, (0, jsub (jshr a2 3) (jshr a1 3))), (5, (0, if 0 ≤ (jsub (jand a1 7) (jand a2 7)) then (jsub (jand a1 7) (jand a2 7)) else jsub 0 (jsub (jand a1 7) (jand a2 7)))), (4, (0, v1)), (0, (2, ((20 : Nat) : Int))), (1, (0, a1)), (2, (0, a2)), (3, (0, a3))]) (st1 := [(0, a3), (0, v1), (0, if (if 0 ≤ (jsub (jand a1 7) (jand a2 7)) then (jsub (jand a1 7) (jand a2 7)) else jsub 0 (jsub (jand a1 7) (jand a2 7))) < (if 0 ≤ (jsub (jshr a2 3) (jshr a1 3)) then (jsub (jshr a2 3) (jshr a1 3)) else jsub 0 (jsub (jshr a2 3) (jshr a1 3))) then (if 0 ≤ (jsub (jshr a2 3) (jshr a1 3)) then (jsub (jshr a2 3) (jshr a1 3)) else jsub 0 (jsub (jshr a2 3) (jshr a1 3))) else (if 0 ≤ (jsub (jand a1 7) (jand a2 7)) then (jsub (jand a1 7) (jand a2 7)) else jsub 0 (jsub (jand a1 7) (jand a2 7))))]) (h1 := h) rfl ?_
      obtain ⟨v2, hq, hv⟩ := Option.bind_eq_some_iff.mp hv
      refine jT.cSN (M1 := M_X_reachOf) [(0, v1), (0, a3)] [(0, if (if 0 ≤ (jsub (jand a1 7) (jand a2 7)) then (jsub (jand a1 7) (jand a2 7)) else jsub 0 (jsub (jand a1 7) (jand a2 7))) < (if 0 ≤ (jsub (jshr a2 3) (jshr a1 3)) then (jsub (jshr a2 3) (jshr a1 3)) else jsub 0 (jsub (jshr a2 3) (jshr a1 3))) then (if 0 ≤ (jsub (jshr a2 3) (jshr a1 3)) then (jsub (jshr a2 3) (jshr a1 3)) else jsub 0 (jsub (jshr a2 3) (jshr a1 3))) else (if 0 ≤ (jsub (jand a1 7) (jand a2 7)) then (jsub (jand a1 7) (jand a2 7)) else jsub 0 (jsub (jand a1 7) (jand a2 7))))] (st_Bd_attacksAgainst) rfl rfl ok_X_reachOf rfl (Nat.le_of_ble_eq_true rfl) (Nat.le_of_ble_eq_true rfl) rfl (Nat.le_of_ble_eq_true rfl) (C_X_reachOf hq) ?_
      show jG E _ 85 [(6, (0, jsub (jshr a2 3) (jshr a1 3))), (5, (0, if 0 ≤ (jsub (jand a1 7) (jand a2 7)) then (jsub (jand a1 7) (jand a2 7)) else jsub 0 (jsub (jand a1 7) (jand a2 7)))), (4, (0, v1)), (0, (2, ((20 : Nat) : Int))), (1, (0, a1)), (2, (0, a2)), (3, (0, a3))] [(0, v2), (0, if (if 0 ≤ (jsub (jand a1 7) (jand a2 7)) then (jsub (jand a1 7) (jand a2 7)) else jsub 0 (jsub (jand a1 7) (jand a2 7))) < (if 0 ≤ (jsub (jshr a2 3) (jshr a1 3)) then (jsub (jshr a2 3) (jshr a1 3)) else jsub 0 (jsub (jshr a2 3) (jshr a1 3))) then (if 0 ≤ (jsub (jshr a2 3) (jshr a1 3)) then (jsub (jshr a2 3) (jshr a1 3)) else jsub 0 (jsub (jshr a2 3) (jshr a1 3))) else (if 0 ≤ (jsub (jand a1 7) (jand a2 7)) then (jsub (jand a1 7) (jand a2 7)) else jsub 0 (jsub (jand a1 7) (jand a2 7))))] h _ _
      refine jT.if2 (st_Bd_attacksAgainst) rfl (tgt := 92) (by decide) (fun hc => ?_) (fun hc => ?_)
      · have hc : v2 < (if (if 0 ≤ (jsub (jand a1 7) (jand a2 7)) then (jsub (jand a1 7) (jand a2 7)) else jsub 0 (jsub (jand a1 7) (jand a2 7))) < (if 0 ≤ (jsub (jshr a2 3) (jshr a1 3)) then (jsub (jshr a2 3) (jshr a1 3)) else jsub 0 (jsub (jshr a2 3) (jshr a1 3))) then (if 0 ≤ (jsub (jshr a2 3) (jshr a1 3)) then (jsub (jshr a2 3) (jshr a1 3)) else jsub 0 (jsub (jshr a2 3) (jshr a1 3))) else (if 0 ≤ (jsub (jand a1 7) (jand a2 7)) then (jsub (jand a1 7) (jand a2 7)) else jsub 0 (jsub (jand a1 7) (jand a2 7)))) := hc
        try rw [if_pos hc] at hv
        refine jG.blk (st_Bd_attacksAgainst) 1 (pc1 := 93) (L1 := [(6, (0, jsub (jshr a2 3) (jshr a1 3))), (5, (0, if 0 ≤ (jsub (jand a1 7) (jand a2 7)) then (jsub (jand a1 7) (jand a2 7)) else jsub 0 (jsub (jand a1 7) (jand a2 7)))), (4, (0, v1)), (0, (2, ((20 : Nat) : Int))), (1, (0, a1)), (2, (0, a2)), (3, (0, a3))]) (st1 := [(0, 0)]) (h1 := h) rfl ?_
        cases hv
        exact jT.iret (st_Bd_attacksAgainst) rfl (Or.inl rfl)
      · have hc : ¬ (v2 < (if (if 0 ≤ (jsub (jand a1 7) (jand a2 7)) then (jsub (jand a1 7) (jand a2 7)) else jsub 0 (jsub (jand a1 7) (jand a2 7))) < (if 0 ≤ (jsub (jshr a2 3) (jshr a1 3)) then (jsub (jshr a2 3) (jshr a1 3)) else jsub 0 (jsub (jshr a2 3) (jshr a1 3))) then (if 0 ≤ (jsub (jshr a2 3) (jshr a1 3)) then (jsub (jshr a2 3) (jshr a1 3)) else jsub 0 (jsub (jshr a2 3) (jshr a1 3))) else (if 0 ≤ (jsub (jand a1 7) (jand a2 7)) then (jsub (jand a1 7) (jand a2 7)) else jsub 0 (jsub (jand a1 7) (jand a2 7))))) := hc
        try rw [if_neg hc] at hv
        refine jG.blk (st_Bd_attacksAgainst) 1 (pc1 := 89) (L1 := [(6, (0, jsub (jshr a2 3) (jshr a1 3))), (5, (0, if 0 ≤ (jsub (jand a1 7) (jand a2 7)) then (jsub (jand a1 7) (jand a2 7)) else jsub 0 (jsub (jand a1 7) (jand a2 7)))), (4, (0, v1)), (0, (2, ((20 : Nat) : Int))), (1, (0, a1)), (2, (0, a2)), (3, (0, a3))]) (st1 := [(0, 1)]) (h1 := h) rfl ?_
        refine jT.goto (st_Bd_attacksAgainst) rfl (tgt := 93) (by decide) ?_
        cases hv
        exact jT.iret (st_Bd_attacksAgainst) rfl (Or.inr rfl)
    · have hc : v1 = 1 := Decidable.not_not.mp hc
      try rw [if_pos hc] at hv
      refine jG.blk (st_Bd_attacksAgainst) 2 (pc1 := 43) (L1 := [(6, (0, jsub (jshr a2 3) (jshr a1 3))), (5, (0, if 0 ≤ (jsub (jand a1 7) (jand a2 7)) then (jsub (jand a1 7) (jand a2 7)) else jsub 0 (jsub (jand a1 7) (jand a2 7)))), (4, (0, v1)), (0, (2, ((20 : Nat) : Int))), (1, (0, a1)), (2, (0, a2)), (3, (0, a3))]) (st1 := [(0, 1), (0, if 0 ≤ (jsub (jand a1 7) (jand a2 7)) then (jsub (jand a1 7) (jand a2 7)) else jsub 0 (jsub (jand a1 7) (jand a2 7)))]) (h1 := h) rfl ?_
      refine jT.if2 (st_Bd_attacksAgainst) rfl (tgt := 67) (by decide) (fun hc => ?_) (fun hc => ?_)
      · have hc : ¬ ((if 0 ≤ (jsub (jand a1 7) (jand a2 7)) then (jsub (jand a1 7) (jand a2 7)) else jsub 0 (jsub (jand a1 7) (jand a2 7))) = 1) := hc
        try rw [if_neg hc] at hv
        refine jG.blk (st_Bd_attacksAgainst) 1 (pc1 := 68) (L1 := [(6, (0, jsub (jshr a2 3) (jshr a1 3))), (5, (0, if 0 ≤ (jsub (jand a1 7) (jand a2 7)) then (jsub (jand a1 7) (jand a2 7)) else jsub 0 (jsub (jand a1 7) (jand a2 7)))), (4, (0, v1)), (0, (2, ((20 : Nat) : Int))), (1, (0, a1)), (2, (0, a2)), (3, (0, a3))]) (st1 := [(0, 0)]) (h1 := h) rfl ?_
        cases hv
        exact jT.iret (st_Bd_attacksAgainst) rfl (Or.inl rfl)
      · have hc : (if 0 ≤ (jsub (jand a1 7) (jand a2 7)) then (jsub (jand a1 7) (jand a2 7)) else jsub 0 (jsub (jand a1 7) (jand a2 7))) = 1 := Decidable.not_not.mp hc
        try rw [if_pos hc] at hv
        refine jG.blk (st_Bd_attacksAgainst) 4 (pc1 := 53) (L1 := [(6, (0, jsub (jshr a2 3) (jshr a1 3))), (5, (0, if 0 ≤ (jsub (jand a1 7) (jand a2 7)) then (jsub (jand a1 7) (jand a2 7)) else jsub 0 (jsub (jand a1 7) (jand a2 7)))), (4, (0, v1)), (0, (2, ((20 : Nat) : Int))), (1, (0, a1)), (2, (0, a2)), (3, (0, a3))]) (st1 := [(0, a1), (2, ((20 + 1 : Nat) : Int)), (0, jsub (jshr a2 3) (jshr a1 3))]) (h1 := h) rfl ?_
        obtain ⟨hg, hv⟩ := jgd_some hv
        refine jT.iald (a := 20 + 1) (st_Bd_attacksAgainst) rfl rfl (by decide) hg.1 hg.2 ?_
        obtain ⟨v3, hq, hv⟩ := Option.bind_eq_some_iff.mp hv
        refine jT.cSN (M1 := M_X_sideOf) [(0, h (20 + 1) a1.toNat)] [(0, jsub (jshr a2 3) (jshr a1 3))] (st_Bd_attacksAgainst) rfl rfl ok_X_sideOf rfl (Nat.le_of_ble_eq_true rfl) (Nat.le_of_ble_eq_true rfl) rfl (Nat.le_of_ble_eq_true rfl) (C_X_sideOf hq) ?_
        show jG E _ 57 [(6, (0, jsub (jshr a2 3) (jshr a1 3))), (5, (0, if 0 ≤ (jsub (jand a1 7) (jand a2 7)) then (jsub (jand a1 7) (jand a2 7)) else jsub 0 (jsub (jand a1 7) (jand a2 7)))), (4, (0, v1)), (0, (2, ((20 : Nat) : Int))), (1, (0, a1)), (2, (0, a2)), (3, (0, a3))] [(0, v3), (0, jsub (jshr a2 3) (jshr a1 3))] h _ _
        obtain ⟨v4, hq, hv⟩ := Option.bind_eq_some_iff.mp hv
        refine jT.cSN (M1 := M_X_forwardOf) [(0, v3)] [(0, jsub (jshr a2 3) (jshr a1 3))] (st_Bd_attacksAgainst) rfl rfl ok_X_forwardOf rfl (Nat.le_of_ble_eq_true rfl) (Nat.le_of_ble_eq_true rfl) rfl (Nat.le_of_ble_eq_true rfl) (C_X_forwardOf hq) ?_
        show jG E _ 60 [(6, (0, jsub (jshr a2 3) (jshr a1 3))), (5, (0, if 0 ≤ (jsub (jand a1 7) (jand a2 7)) then (jsub (jand a1 7) (jand a2 7)) else jsub 0 (jsub (jand a1 7) (jand a2 7)))), (4, (0, v1)), (0, (2, ((20 : Nat) : Int))), (1, (0, a1)), (2, (0, a2)), (3, (0, a3))] [(0, v4), (0, jsub (jshr a2 3) (jshr a1 3))] h _ _
        refine jT.if2 (st_Bd_attacksAgainst) rfl (tgt := 67) (by decide) (fun hc => ?_) (fun hc => ?_)
        · have hc : ¬ (jsub (jshr a2 3) (jshr a1 3) = v4) := hc
          try rw [if_neg hc] at hv
          refine jG.blk (st_Bd_attacksAgainst) 1 (pc1 := 68) (L1 := [(6, (0, jsub (jshr a2 3) (jshr a1 3))), (5, (0, if 0 ≤ (jsub (jand a1 7) (jand a2 7)) then (jsub (jand a1 7) (jand a2 7)) else jsub 0 (jsub (jand a1 7) (jand a2 7)))), (4, (0, v1)), (0, (2, ((20 : Nat) : Int))), (1, (0, a1)), (2, (0, a2)), (3, (0, a3))]) (st1 := [(0, 0)]) (h1 := h) rfl ?_
          cases hv
          exact jT.iret (st_Bd_attacksAgainst) rfl (Or.inl rfl)
        · have hc : jsub (jshr a2 3) (jshr a1 3) = v4 := Decidable.not_not.mp hc
          try rw [if_pos hc] at hv
          refine jG.blk (st_Bd_attacksAgainst) 1 (pc1 := 64) (L1 := [(6, (0, jsub (jshr a2 3) (jshr a1 3))), (5, (0, if 0 ≤ (jsub (jand a1 7) (jand a2 7)) then (jsub (jand a1 7) (jand a2 7)) else jsub 0 (jsub (jand a1 7) (jand a2 7)))), (4, (0, v1)), (0, (2, ((20 : Nat) : Int))), (1, (0, a1)), (2, (0, a2)), (3, (0, a3))]) (st1 := [(0, 1)]) (h1 := h) rfl ?_
          refine jT.goto (st_Bd_attacksAgainst) rfl (tgt := 68) (by decide) ?_
          cases hv
          exact jT.iret (st_Bd_attacksAgainst) rfl (Or.inr rfl)
def f_Bd_attacksOn_j60_5 (r : Nat) (rc : Int → Int → Option (Int)) (k : Int → Int → Option (Int)) (h : jH) (x3 : Int) (x4 : Int) (l6 : Int) (l7 : Int) : Option (Int) := jgd (0 ≤ l7 ∧ l7 < (((jxc.getD 3 []).length : Nat) : Int)) (jgd (0 ≤ l7 ∧ l7 < (((jxc.getD 4 []).length : Nat) : Int)) ((f_X_shifted h x3 ((jxc.getD 3 []).getD l7.toNat 0) ((jxc.getD 4 []).getD l7.toNat 0)).bind fun v8 => if v8 = (-1) then rc l6 (jadd l7 1) else jgd (0 ≤ v8 ∧ v8 < 64) ((f_X_pieceOf h 2 x4).bind fun v9 => rc (if h (r + 1) v8.toNat = v9 then jlor l6 (jlshl 1 v8) else l6) (jadd l7 1))))
def f_Bd_attacksOn_lp5 (r : Nat) (h : jH) (x3 : Int) (x4 : Int) (k : Int → Int → Option (Int)) : Nat → Int → Int → Option (Int)
  | 0, _, _ => none
  | n + 1, l1, l2 => if 8 ≤ l2 then k l1 l2 else (f_Bd_firstAlong r h x3 l2).bind fun v5 => if v5 = (-1) then f_Bd_attacksOn_j60_5 r (f_Bd_attacksOn_lp5 r h x3 x4 k n) k h x3 x4 l1 l2 else jgd (0 ≤ v5 ∧ v5 < 64) ((f_X_sideOf h (h (r + 1) v5.toNat)).bind fun v10 => if v10 = x4 then (f_Bd_attacksAgainst r h v5 x3 l2).bind fun v11 => f_Bd_attacksOn_j60_5 r (f_Bd_attacksOn_lp5 r h x3 x4 k n) k h x3 x4 (if v11 = 0 then l1 else jlor l1 (jlshl 1 v5)) l2 else f_Bd_attacksOn_j60_5 r (f_Bd_attacksOn_lp5 r h x3 x4 k n) k h x3 x4 l1 l2)
def f_Bd_attacksOn (r : Nat) (h : jH) (a1 : Int) (a2 : Int) : Option (Int) := f_Bd_attacksOn_lp5 r h a1 a2 (fun l12 l13 => some l12) 1000 0 0
set_option maxRecDepth 100000 in
set_option maxHeartbeats 4000000 in
theorem f_Bd_attacksOn_j60_5_ok (E : jE) (r : Nat) (hr : r = 2 ∨ r = 20) {rc : Int → Int → Option (Int)} {k : Int → Int → Option (Int)} {h : jH} {x3 : Int} {x4 : Int} (hrc : ∀ (l1 : Int) (l2 : Int) (res : Int), rc l1 l2 = some res → jG E M_Bd_attacksOn 5 [(0, (2, ((r : Nat) : Int))), (1, (0, x3)), (2, (0, x4)), (3, (1, l1)), (5, (0, l2))] [] h (some (1, res)) h) (hk : ∀ (l1 : Int) (l2 : Int) (res : Int), k l1 l2 = some res → jG E M_Bd_attacksOn 112 [(3, (1, l1))] [] h (some (1, res)) h) {l6 : Int} {l7 : Int} {res : Int} (hv : f_Bd_attacksOn_j60_5 r rc k h x3 x4 l6 l7 = some res) : jG E M_Bd_attacksOn 60 [(0, (2, ((r : Nat) : Int))), (1, (0, x3)), (2, (0, x4)), (3, (1, l6)), (5, (0, l7))] [] h (some (1, res)) h := by
  rcases hr with rfl | rfl
  · unfold f_Bd_attacksOn_j60_5 at hv
    refine jG.blk (st_Bd_attacksOn) 3 (pc1 := 66) (L1 := [(0, (2, ((2 : Nat) : Int))), (1, (0, x3)), (2, (0, x4)), (3, (1, l6)), (5, (0, l7))]) (st1 := [(0, l7), (3, ((3 : Nat) : Int)), (0, x3)]) (h1 := h) rfl ?_
    obtain ⟨hg, hv⟩ := jgd_some hv
    refine jT.xald (x := 3) (st_Bd_attacksOn) rfl (by decide) rfl (jxl_small (by decide) (by decide)) hg.1 hg.2 (jxc_ok _ _) ?_
    refine jG.blk (st_Bd_attacksOn) 2 (pc1 := 72) (L1 := [(0, (2, ((2 : Nat) : Int))), (1, (0, x3)), (2, (0, x4)), (3, (1, l6)), (5, (0, l7))]) (st1 := [(0, l7), (3, ((4 : Nat) : Int)), (0, (jxc.getD 3 []).getD l7.toNat 0), (0, x3)]) (h1 := h) rfl ?_
    obtain ⟨hg, hv⟩ := jgd_some hv
    refine jT.xald (x := 4) (st_Bd_attacksOn) rfl (by decide) rfl (jxl_small (by decide) (by decide)) hg.1 hg.2 (jxc_ok _ _) ?_
    obtain ⟨v8, hq, hv⟩ := Option.bind_eq_some_iff.mp hv
    refine jT.cSN (M1 := M_X_shifted) [(0, x3), (0, (jxc.getD 3 []).getD l7.toNat 0), (0, (jxc.getD 4 []).getD l7.toNat 0)] [] (st_Bd_attacksOn) rfl rfl ok_X_shifted rfl (Nat.le_of_ble_eq_true rfl) (Nat.le_of_ble_eq_true rfl) rfl (Nat.le_of_ble_eq_true rfl) (C_X_shifted hq) ?_
    show jG E _ 76 [(0, (2, ((2 : Nat) : Int))), (1, (0, x3)), (2, (0, x4)), (3, (1, l6)), (5, (0, l7))] [(0, v8)] h _ _
    refine jG.blk (st_Bd_attacksOn) 3 (pc1 := 81) (L1 := [(7, (0, v8)), (0, (2, ((2 : Nat) : Int))), (1, (0, x3)), (2, (0, x4)), (3, (1, l6)), (5, (0, l7))]) (st1 := [(0, (-1)), (0, v8)]) (h1 := h) rfl ?_
    refine jT.if2 (st_Bd_attacksOn) rfl (tgt := 106) (by decide) (fun hc => ?_) (fun hc => ?_)
    · have hc : v8 = (-1) := hc
      try rw [if_pos hc] at hv
      refine jG.blk (st_Bd_attacksOn) 1 (pc1 := 109) (L1 := [(5, (0, jadd l7 1)), (7, (0, v8)), (0, (2, ((2 : Nat) : Int))), (1, (0, x3)), (2, (0, x4)), (3, (1, l6))]) (st1 := []) (h1 := h) rfl ?_
      refine jT.goto (st_Bd_attacksOn) rfl (tgt := 5) (by decide) ?_
      refine jG.subp [2, 3, 4, 5, 0] (L1 := [(0, (2, ((2 : Nat) : Int))), (1, (0, x3)), (2, (0, x4)), (3, (1, l6)), (5, (0, jadd l7 1))]) rfl ?_
      exact hrc _ _ _ hv
    · have hc : ¬ (v8 = (-1)) := hc
      try rw [if_neg hc] at hv
      refine jG.blk (st_Bd_attacksOn) 3 (pc1 := 90) (L1 := [(7, (0, v8)), (0, (2, ((2 : Nat) : Int))), (1, (0, x3)), (2, (0, x4)), (3, (1, l6)), (5, (0, l7))]) (st1 := [(0, v8), (2, ((2 + 1 : Nat) : Int))]) (h1 := h) rfl ?_
      obtain ⟨hg, hv⟩ := jgd_some hv
      refine jT.iald (a := 2 + 1) (st_Bd_attacksOn) rfl rfl (by decide) hg.1 hg.2 ?_
      refine jG.blk (st_Bd_attacksOn) 2 (pc1 := 93) (L1 := [(7, (0, v8)), (0, (2, ((2 : Nat) : Int))), (1, (0, x3)), (2, (0, x4)), (3, (1, l6)), (5, (0, l7))]) (st1 := [(0, x4), (0, 2), (0, h (2 + 1) v8.toNat)]) (h1 := h) rfl ?_
      obtain ⟨v9, hq, hv⟩ := Option.bind_eq_some_iff.mp hv
      refine jT.cSN (M1 := M_X_pieceOf) [(0, 2), (0, x4)] [(0, h (2 + 1) v8.toNat)] (st_Bd_attacksOn) rfl rfl ok_X_pieceOf rfl (Nat.le_of_ble_eq_true rfl) (Nat.le_of_ble_eq_true rfl) rfl (Nat.le_of_ble_eq_true rfl) (C_X_pieceOf hq) ?_
      show jG E _ 96 [(7, (0, v8)), (0, (2, ((2 : Nat) : Int))), (1, (0, x3)), (2, (0, x4)), (3, (1, l6)), (5, (0, l7))] [(0, v9), (0, h (2 + 1) v8.toNat)] h _ _
      refine jT.if2 (st_Bd_attacksOn) rfl (tgt := 106) (by decide) (fun hc => ?_) (fun hc => ?_)
      · have hc : ¬ (h (2 + 1) v8.toNat = v9) := hc
        try rw [if_neg hc] at hv
        refine jG.blk (st_Bd_attacksOn) 1 (pc1 := 109) (L1 := [(5, (0, jadd l7 1)), (7, (0, v8)), (0, (2, ((2 : Nat) : Int))), (1, (0, x3)), (2, (0, x4)), (3, (1, l6))]) (st1 := []) (h1 := h) rfl ?_
        refine jT.goto (st_Bd_attacksOn) rfl (tgt := 5) (by decide) ?_
        refine jG.subp [2, 3, 4, 5, 0] (L1 := [(0, (2, ((2 : Nat) : Int))), (1, (0, x3)), (2, (0, x4)), (3, (1, l6)), (5, (0, jadd l7 1))]) rfl ?_
        exact hrc _ _ _ hv
      · have hc : h (2 + 1) v8.toNat = v9 := Decidable.not_not.mp hc
        try rw [if_pos hc] at hv
        refine jG.blk (st_Bd_attacksOn) 7 (pc1 := 109) (L1 := [(5, (0, jadd l7 1)), (3, (1, jlor l6 (jlshl 1 v8))), (7, (0, v8)), (0, (2, ((2 : Nat) : Int))), (1, (0, x3)), (2, (0, x4))]) (st1 := []) (h1 := h) rfl ?_
        refine jT.goto (st_Bd_attacksOn) rfl (tgt := 5) (by decide) ?_
        refine jG.subp [3, 4, 5, 1, 0] (L1 := [(0, (2, ((2 : Nat) : Int))), (1, (0, x3)), (2, (0, x4)), (3, (1, jlor l6 (jlshl 1 v8))), (5, (0, jadd l7 1))]) rfl ?_
        exact hrc _ _ _ hv
  · unfold f_Bd_attacksOn_j60_5 at hv
    refine jG.blk (st_Bd_attacksOn) 3 (pc1 := 66) (L1 := [(0, (2, ((20 : Nat) : Int))), (1, (0, x3)), (2, (0, x4)), (3, (1, l6)), (5, (0, l7))]) (st1 := [(0, l7), (3, ((3 : Nat) : Int)), (0, x3)]) (h1 := h) rfl ?_
    obtain ⟨hg, hv⟩ := jgd_some hv
    refine jT.xald (x := 3) (st_Bd_attacksOn) rfl (by decide) rfl (jxl_small (by decide) (by decide)) hg.1 hg.2 (jxc_ok _ _) ?_
    refine jG.blk (st_Bd_attacksOn) 2 (pc1 := 72) (L1 := [(0, (2, ((20 : Nat) : Int))), (1, (0, x3)), (2, (0, x4)), (3, (1, l6)), (5, (0, l7))]) (st1 := [(0, l7), (3, ((4 : Nat) : Int)), (0, (jxc.getD 3 []).getD l7.toNat 0), (0, x3)]) (h1 := h) rfl ?_
    obtain ⟨hg, hv⟩ := jgd_some hv
    refine jT.xald (x := 4) (st_Bd_attacksOn) rfl (by decide) rfl (jxl_small (by decide) (by decide)) hg.1 hg.2 (jxc_ok _ _) ?_
    obtain ⟨v8, hq, hv⟩ := Option.bind_eq_some_iff.mp hv
    refine jT.cSN (M1 := M_X_shifted) [(0, x3), (0, (jxc.getD 3 []).getD l7.toNat 0), (0, (jxc.getD 4 []).getD l7.toNat 0)] [] (st_Bd_attacksOn) rfl rfl ok_X_shifted rfl (Nat.le_of_ble_eq_true rfl) (Nat.le_of_ble_eq_true rfl) rfl (Nat.le_of_ble_eq_true rfl) (C_X_shifted hq) ?_
    show jG E _ 76 [(0, (2, ((20 : Nat) : Int))), (1, (0, x3)), (2, (0, x4)), (3, (1, l6)), (5, (0, l7))] [(0, v8)] h _ _
    refine jG.blk (st_Bd_attacksOn) 3 (pc1 := 81) (L1 := [(7, (0, v8)), (0, (2, ((20 : Nat) : Int))), (1, (0, x3)), (2, (0, x4)), (3, (1, l6)), (5, (0, l7))]) (st1 := [(0, (-1)), (0, v8)]) (h1 := h) rfl ?_
    refine jT.if2 (st_Bd_attacksOn) rfl (tgt := 106) (by decide) (fun hc => ?_) (fun hc => ?_)
    · have hc : v8 = (-1) := hc
      try rw [if_pos hc] at hv
      refine jG.blk (st_Bd_attacksOn) 1 (pc1 := 109) (L1 := [(5, (0, jadd l7 1)), (7, (0, v8)), (0, (2, ((20 : Nat) : Int))), (1, (0, x3)), (2, (0, x4)), (3, (1, l6))]) (st1 := []) (h1 := h) rfl ?_
      refine jT.goto (st_Bd_attacksOn) rfl (tgt := 5) (by decide) ?_
      refine jG.subp [2, 3, 4, 5, 0] (L1 := [(0, (2, ((20 : Nat) : Int))), (1, (0, x3)), (2, (0, x4)), (3, (1, l6)), (5, (0, jadd l7 1))]) rfl ?_
      exact hrc _ _ _ hv
    · have hc : ¬ (v8 = (-1)) := hc
      try rw [if_neg hc] at hv
      refine jG.blk (st_Bd_attacksOn) 3 (pc1 := 90) (L1 := [(7, (0, v8)), (0, (2, ((20 : Nat) : Int))), (1, (0, x3)), (2, (0, x4)), (3, (1, l6)), (5, (0, l7))]) (st1 := [(0, v8), (2, ((20 + 1 : Nat) : Int))]) (h1 := h) rfl ?_
      obtain ⟨hg, hv⟩ := jgd_some hv
      refine jT.iald (a := 20 + 1) (st_Bd_attacksOn) rfl rfl (by decide) hg.1 hg.2 ?_
      refine jG.blk (st_Bd_attacksOn) 2 (pc1 := 93) (L1 := [(7, (0, v8)), (0, (2, ((20 : Nat) : Int))), (1, (0, x3)), (2, (0, x4)), (3, (1, l6)), (5, (0, l7))]) (st1 := [(0, x4), (0, 2), (0, h (20 + 1) v8.toNat)]) (h1 := h) rfl ?_
      obtain ⟨v9, hq, hv⟩ := Option.bind_eq_some_iff.mp hv
      refine jT.cSN (M1 := M_X_pieceOf) [(0, 2), (0, x4)] [(0, h (20 + 1) v8.toNat)] (st_Bd_attacksOn) rfl rfl ok_X_pieceOf rfl (Nat.le_of_ble_eq_true rfl) (Nat.le_of_ble_eq_true rfl) rfl (Nat.le_of_ble_eq_true rfl) (C_X_pieceOf hq) ?_
      show jG E _ 96 [(7, (0, v8)), (0, (2, ((20 : Nat) : Int))), (1, (0, x3)), (2, (0, x4)), (3, (1, l6)), (5, (0, l7))] [(0, v9), (0, h (20 + 1) v8.toNat)] h _ _
      refine jT.if2 (st_Bd_attacksOn) rfl (tgt := 106) (by decide) (fun hc => ?_) (fun hc => ?_)
      · have hc : ¬ (h (20 + 1) v8.toNat = v9) := hc
        try rw [if_neg hc] at hv
        refine jG.blk (st_Bd_attacksOn) 1 (pc1 := 109) (L1 := [(5, (0, jadd l7 1)), (7, (0, v8)), (0, (2, ((20 : Nat) : Int))), (1, (0, x3)), (2, (0, x4)), (3, (1, l6))]) (st1 := []) (h1 := h) rfl ?_
        refine jT.goto (st_Bd_attacksOn) rfl (tgt := 5) (by decide) ?_
        refine jG.subp [2, 3, 4, 5, 0] (L1 := [(0, (2, ((20 : Nat) : Int))), (1, (0, x3)), (2, (0, x4)), (3, (1, l6)), (5, (0, jadd l7 1))]) rfl ?_
        exact hrc _ _ _ hv
      · have hc : h (20 + 1) v8.toNat = v9 := Decidable.not_not.mp hc
        try rw [if_pos hc] at hv
        refine jG.blk (st_Bd_attacksOn) 7 (pc1 := 109) (L1 := [(5, (0, jadd l7 1)), (3, (1, jlor l6 (jlshl 1 v8))), (7, (0, v8)), (0, (2, ((20 : Nat) : Int))), (1, (0, x3)), (2, (0, x4))]) (st1 := []) (h1 := h) rfl ?_
        refine jT.goto (st_Bd_attacksOn) rfl (tgt := 5) (by decide) ?_
        refine jG.subp [3, 4, 5, 1, 0] (L1 := [(0, (2, ((20 : Nat) : Int))), (1, (0, x3)), (2, (0, x4)), (3, (1, jlor l6 (jlshl 1 v8))), (5, (0, jadd l7 1))]) rfl ?_
        exact hrc _ _ _ hv
set_option maxRecDepth 100000 in
set_option maxHeartbeats 4000000 in
theorem f_Bd_attacksOn_lp5_ok (E : jE) (r : Nat) (hr : r = 2 ∨ r = 20) {h : jH} {x3 : Int} {x4 : Int} {k : Int → Int → Option (Int)} (hk : ∀ (l1 : Int) (l2 : Int) (res : Int), k l1 l2 = some res → jG E M_Bd_attacksOn 112 [(3, (1, l1))] [] h (some (1, res)) h) : ∀ (n : Nat) (l1 : Int) (l2 : Int) (res : Int), f_Bd_attacksOn_lp5 r h x3 x4 k n l1 l2 = some res → jG E M_Bd_attacksOn 5 [(0, (2, ((r : Nat) : Int))), (1, (0, x3)), (2, (0, x4)), (3, (1, l1)), (5, (0, l2))] [] h (some (1, res)) h := by
  rcases hr with rfl | rfl
  · intro n
    induction n with
    | zero => intro l1 l2 res hv; cases hv
    | succ n ih =>
      intro l1 l2 res hv
      rw [f_Bd_attacksOn_lp5] at hv
      refine jG.blk (st_Bd_attacksOn) 2 (pc1 := 9) (L1 := [(0, (2, ((2 : Nat) : Int))), (1, (0, x3)), (2, (0, x4)), (3, (1, l1)), (5, (0, l2))]) (st1 := [(0, 8), (0, l2)]) (h1 := h) rfl ?_
      refine jT.if2 (st_Bd_attacksOn) rfl (tgt := 112) (by decide) (fun hc => ?_) (fun hc => ?_)
      · have hc : 8 ≤ l2 := hc
        try rw [if_pos hc] at hv
        refine jG.subp [3] (L1 := [(3, (1, l1))]) rfl ?_
        exact hk _ _ _ hv
      · have hc : ¬ (8 ≤ l2) := hc
        try rw [if_neg hc] at hv
        refine jG.blk (st_Bd_attacksOn) 3 (pc1 := 16) (L1 := [(0, (2, ((2 : Nat) : Int))), (1, (0, x3)), (2, (0, x4)), (3, (1, l1)), (5, (0, l2))]) (st1 := [(0, l2), (0, x3), (2, ((2 : Nat) : Int))]) (h1 := h) rfl ?_
        obtain ⟨v5, hq, hv⟩ := Option.bind_eq_some_iff.mp hv
        refine jT.cV (M1 := M_Bd_firstAlong) (2, ((2 : Nat) : Int)) [(0, x3), (0, l2)] [] (st_Bd_attacksOn) rfl rfl ok_Bd_firstAlong rfl (Or.inl ⟨rfl, _, _, _, rfl, rfl⟩) (Nat.le_of_ble_eq_true rfl) (Nat.le_of_ble_eq_true rfl) rfl (Nat.le_of_ble_eq_true rfl) (C_Bd_firstAlong (by decide) hq) ?_
        show jG E _ 19 [(0, (2, ((2 : Nat) : Int))), (1, (0, x3)), (2, (0, x4)), (3, (1, l1)), (5, (0, l2))] [(0, v5)] h _ _
        refine jG.blk (st_Bd_attacksOn) 3 (pc1 := 24) (L1 := [(6, (0, v5)), (0, (2, ((2 : Nat) : Int))), (1, (0, x3)), (2, (0, x4)), (3, (1, l1)), (5, (0, l2))]) (st1 := [(0, (-1)), (0, v5)]) (h1 := h) rfl ?_
        refine jT.if2 (st_Bd_attacksOn) rfl (tgt := 60) (by decide) (fun hc => ?_) (fun hc => ?_)
        · have hc : v5 = (-1) := hc
          try rw [if_pos hc] at hv
          refine jG.subp [1, 2, 3, 4, 5] (L1 := [(0, (2, ((2 : Nat) : Int))), (1, (0, x3)), (2, (0, x4)), (3, (1, l1)), (5, (0, l2))]) rfl ?_
          exact f_Bd_attacksOn_j60_5_ok E 2 (by decide) ih hk hv
        · have hc : ¬ (v5 = (-1)) := hc
          try rw [if_neg hc] at hv
          refine jG.blk (st_Bd_attacksOn) 3 (pc1 := 33) (L1 := [(6, (0, v5)), (0, (2, ((2 : Nat) : Int))), (1, (0, x3)), (2, (0, x4)), (3, (1, l1)), (5, (0, l2))]) (st1 := [(0, v5), (2, ((2 + 1 : Nat) : Int))]) (h1 := h) rfl ?_
          obtain ⟨hg, hv⟩ := jgd_some hv
          refine jT.iald (a := 2 + 1) (st_Bd_attacksOn) rfl rfl (by decide) hg.1 hg.2 ?_
          obtain ⟨v10, hq, hv⟩ := Option.bind_eq_some_iff.mp hv
          refine jT.cSN (M1 := M_X_sideOf) [(0, h (2 + 1) v5.toNat)] [] (st_Bd_attacksOn) rfl rfl ok_X_sideOf rfl (Nat.le_of_ble_eq_true rfl) (Nat.le_of_ble_eq_true rfl) rfl (Nat.le_of_ble_eq_true rfl) (C_X_sideOf hq) ?_
          show jG E _ 37 [(6, (0, v5)), (0, (2, ((2 : Nat) : Int))), (1, (0, x3)), (2, (0, x4)), (3, (1, l1)), (5, (0, l2))] [(0, v10)] h _ _
          refine jG.blk (st_Bd_attacksOn) 1 (pc1 := 38) (L1 := [(6, (0, v5)), (0, (2, ((2 : Nat) : Int))), (1, (0, x3)), (2, (0, x4)), (3, (1, l1)), (5, (0, l2))]) (st1 := [(0, x4), (0, v10)]) (h1 := h) rfl ?_
          refine jT.if2 (st_Bd_attacksOn) rfl (tgt := 60) (by decide) (fun hc => ?_) (fun hc => ?_)
          · have hc : ¬ (v10 = x4) := hc
            try rw [if_neg hc] at hv
            refine jG.subp [1, 2, 3, 4, 5] (L1 := [(0, (2, ((2 : Nat) : Int))), (1, (0, x3)), (2, (0, x4)), (3, (1, l1)), (5, (0, l2))]) rfl ?_
            exact f_Bd_attacksOn_j60_5_ok E 2 (by decide) ih hk hv
          · have hc : v10 = x4 := Decidable.not_not.mp hc
            try rw [if_pos hc] at hv
            refine jG.blk (st_Bd_attacksOn) 4 (pc1 := 47) (L1 := [(6, (0, v5)), (0, (2, ((2 : Nat) : Int))), (1, (0, x3)), (2, (0, x4)), (3, (1, l1)), (5, (0, l2))]) (st1 := [(0, l2), (0, x3), (0, v5), (2, ((2 : Nat) : Int))]) (h1 := h) rfl ?_
            obtain ⟨v11, hq, hv⟩ := Option.bind_eq_some_iff.mp hv
            refine jT.cV (M1 := M_Bd_attacksAgainst) (2, ((2 : Nat) : Int)) [(0, v5), (0, x3), (0, l2)] [] (st_Bd_attacksOn) rfl rfl ok_Bd_attacksAgainst rfl (Or.inl ⟨rfl, _, _, _, rfl, rfl⟩) (Nat.le_of_ble_eq_true rfl) (Nat.le_of_ble_eq_true rfl) rfl (Nat.le_of_ble_eq_true rfl) (C_Bd_attacksAgainst (by decide) hq) ?_
            show jG E _ 50 [(6, (0, v5)), (0, (2, ((2 : Nat) : Int))), (1, (0, x3)), (2, (0, x4)), (3, (1, l1)), (5, (0, l2))] [(0, v11)] h _ _
            refine jT.if1 (st_Bd_attacksOn) rfl (tgt := 60) (by decide) (fun hc => ?_) (fun hc => ?_)
            · have hc : v11 = 0 := hc
              try rw [if_pos hc] at hv
              refine jG.subp [1, 2, 3, 4, 5] (L1 := [(0, (2, ((2 : Nat) : Int))), (1, (0, x3)), (2, (0, x4)), (3, (1, l1)), (5, (0, l2))]) rfl ?_
              exact f_Bd_attacksOn_j60_5_ok E 2 (by decide) ih hk hv
            · have hc : ¬ (v11 = 0) := hc
              try rw [if_neg hc] at hv
              refine jG.blk (st_Bd_attacksOn) 6 (pc1 := 60) (L1 := [(3, (1, jlor l1 (jlshl 1 v5))), (6, (0, v5)), (0, (2, ((2 : Nat) : Int))), (1, (0, x3)), (2, (0, x4)), (5, (0, l2))]) (st1 := []) (h1 := h) rfl ?_
              refine jG.subp [2, 3, 4, 0, 5] (L1 := [(0, (2, ((2 : Nat) : Int))), (1, (0, x3)), (2, (0, x4)), (3, (1, jlor l1 (jlshl 1 v5))), (5, (0, l2))]) rfl ?_
              exact f_Bd_attacksOn_j60_5_ok E 2 (by decide) ih hk hv
  · intro n
    induction n with
    | zero => intro l1 l2 res hv; cases hv
    | succ n ih =>
      intro l1 l2 res hv
      rw [f_Bd_attacksOn_lp5] at hv
      refine jG.blk (st_Bd_attacksOn) 2 (pc1 := 9) (L1 := [(0, (2, ((20 : Nat) : Int))), (1, (0, x3)), (2, (0, x4)), (3, (1, l1)), (5, (0, l2))]) (st1 := [(0, 8), (0, l2)]) (h1 := h) rfl ?_
      refine jT.if2 (st_Bd_attacksOn) rfl (tgt := 112) (by decide) (fun hc => ?_) (fun hc => ?_)
      · have hc : 8 ≤ l2 := hc
        try rw [if_pos hc] at hv
        refine jG.subp [3] (L1 := [(3, (1, l1))]) rfl ?_
        exact hk _ _ _ hv
      · have hc : ¬ (8 ≤ l2) := hc
        try rw [if_neg hc] at hv
        refine jG.blk (st_Bd_attacksOn) 3 (pc1 := 16) (L1 := [(0, (2, ((20 : Nat) : Int))), (1, (0, x3)), (2, (0, x4)), (3, (1, l1)), (5, (0, l2))]) (st1 := [(0, l2), (0, x3), (2, ((20 : Nat) : Int))]) (h1 := h) rfl ?_
        obtain ⟨v5, hq, hv⟩ := Option.bind_eq_some_iff.mp hv
        refine jT.cV (M1 := M_Bd_firstAlong) (2, ((20 : Nat) : Int)) [(0, x3), (0, l2)] [] (st_Bd_attacksOn) rfl rfl ok_Bd_firstAlong rfl (Or.inl ⟨rfl, _, _, _, rfl, rfl⟩) (Nat.le_of_ble_eq_true rfl) (Nat.le_of_ble_eq_true rfl) rfl (Nat.le_of_ble_eq_true rfl) (C_Bd_firstAlong (by decide) hq) ?_
        show jG E _ 19 [(0, (2, ((20 : Nat) : Int))), (1, (0, x3)), (2, (0, x4)), (3, (1, l1)), (5, (0, l2))] [(0, v5)] h _ _
        refine jG.blk (st_Bd_attacksOn) 3 (pc1 := 24) (L1 := [(6, (0, v5)), (0, (2, ((20 : Nat) : Int))), (1, (0, x3)), (2, (0, x4)), (3, (1, l1)), (5, (0, l2))]) (st1 := [(0, (-1)), (0, v5)]) (h1 := h) rfl ?_
        refine jT.if2 (st_Bd_attacksOn) rfl (tgt := 60) (by decide) (fun hc => ?_) (fun hc => ?_)
        · have hc : v5 = (-1) := hc
          try rw [if_pos hc] at hv
          refine jG.subp [1, 2, 3, 4, 5] (L1 := [(0, (2, ((20 : Nat) : Int))), (1, (0, x3)), (2, (0, x4)), (3, (1, l1)), (5, (0, l2))]) rfl ?_
          exact f_Bd_attacksOn_j60_5_ok E 20 (by decide) ih hk hv
        · have hc : ¬ (v5 = (-1)) := hc
          try rw [if_neg hc] at hv
          refine jG.blk (st_Bd_attacksOn) 3 (pc1 := 33) (L1 := [(6, (0, v5)), (0, (2, ((20 : Nat) : Int))), (1, (0, x3)), (2, (0, x4)), (3, (1, l1)), (5, (0, l2))]) (st1 := [(0, v5), (2, ((20 + 1 : Nat) : Int))]) (h1 := h) rfl ?_
          obtain ⟨hg, hv⟩ := jgd_some hv
          refine jT.iald (a := 20 + 1) (st_Bd_attacksOn) rfl rfl (by decide) hg.1 hg.2 ?_
          obtain ⟨v10, hq, hv⟩ := Option.bind_eq_some_iff.mp hv
          refine jT.cSN (M1 := M_X_sideOf) [(0, h (20 + 1) v5.toNat)] [] (st_Bd_attacksOn) rfl rfl ok_X_sideOf rfl (Nat.le_of_ble_eq_true rfl) (Nat.le_of_ble_eq_true rfl) rfl (Nat.le_of_ble_eq_true rfl) (C_X_sideOf hq) ?_
          show jG E _ 37 [(6, (0, v5)), (0, (2, ((20 : Nat) : Int))), (1, (0, x3)), (2, (0, x4)), (3, (1, l1)), (5, (0, l2))] [(0, v10)] h _ _
          refine jG.blk (st_Bd_attacksOn) 1 (pc1 := 38) (L1 := [(6, (0, v5)), (0, (2, ((20 : Nat) : Int))), (1, (0, x3)), (2, (0, x4)), (3, (1, l1)), (5, (0, l2))]) (st1 := [(0, x4), (0, v10)]) (h1 := h) rfl ?_
          refine jT.if2 (st_Bd_attacksOn) rfl (tgt := 60) (by decide) (fun hc => ?_) (fun hc => ?_)
          · have hc : ¬ (v10 = x4) := hc
            try rw [if_neg hc] at hv
            refine jG.subp [1, 2, 3, 4, 5] (L1 := [(0, (2, ((20 : Nat) : Int))), (1, (0, x3)), (2, (0, x4)), (3, (1, l1)), (5, (0, l2))]) rfl ?_
            exact f_Bd_attacksOn_j60_5_ok E 20 (by decide) ih hk hv
          · have hc : v10 = x4 := Decidable.not_not.mp hc
            try rw [if_pos hc] at hv
            refine jG.blk (st_Bd_attacksOn) 4 (pc1 := 47) (L1 := [(6, (0, v5)), (0, (2, ((20 : Nat) : Int))), (1, (0, x3)), (2, (0, x4)), (3, (1, l1)), (5, (0, l2))]) (st1 := [(0, l2), (0, x3), (0, v5), (2, ((20 : Nat) : Int))]) (h1 := h) rfl ?_
            obtain ⟨v11, hq, hv⟩ := Option.bind_eq_some_iff.mp hv
            refine jT.cV (M1 := M_Bd_attacksAgainst) (2, ((20 : Nat) : Int)) [(0, v5), (0, x3), (0, l2)] [] (st_Bd_attacksOn) rfl rfl ok_Bd_attacksAgainst rfl (Or.inl ⟨rfl, _, _, _, rfl, rfl⟩) (Nat.le_of_ble_eq_true rfl) (Nat.le_of_ble_eq_true rfl) rfl (Nat.le_of_ble_eq_true rfl) (C_Bd_attacksAgainst (by decide) hq) ?_
            show jG E _ 50 [(6, (0, v5)), (0, (2, ((20 : Nat) : Int))), (1, (0, x3)), (2, (0, x4)), (3, (1, l1)), (5, (0, l2))] [(0, v11)] h _ _
            refine jT.if1 (st_Bd_attacksOn) rfl (tgt := 60) (by decide) (fun hc => ?_) (fun hc => ?_)
            · have hc : v11 = 0 := hc
              try rw [if_pos hc] at hv
              refine jG.subp [1, 2, 3, 4, 5] (L1 := [(0, (2, ((20 : Nat) : Int))), (1, (0, x3)), (2, (0, x4)), (3, (1, l1)), (5, (0, l2))]) rfl ?_
              exact f_Bd_attacksOn_j60_5_ok E 20 (by decide) ih hk hv
            · have hc : ¬ (v11 = 0) := hc
              try rw [if_neg hc] at hv
              refine jG.blk (st_Bd_attacksOn) 6 (pc1 := 60) (L1 := [(3, (1, jlor l1 (jlshl 1 v5))), (6, (0, v5)), (0, (2, ((20 : Nat) : Int))), (1, (0, x3)), (2, (0, x4)), (5, (0, l2))]) (st1 := []) (h1 := h) rfl ?_
              refine jG.subp [2, 3, 4, 0, 5] (L1 := [(0, (2, ((20 : Nat) : Int))), (1, (0, x3)), (2, (0, x4)), (3, (1, jlor l1 (jlshl 1 v5))), (5, (0, l2))]) rfl ?_
              exact f_Bd_attacksOn_j60_5_ok E 20 (by decide) ih hk hv
set_option maxRecDepth 100000 in
set_option maxHeartbeats 4000000 in
theorem C_Bd_attacksOn {E : jE} {r : Nat} (hr : r = 2 ∨ r = 20) {h : jH} {a1 : Int} {a2 : Int} {res : Int} (hv : f_Bd_attacksOn r h a1 a2 = some res) : jC E M_Bd_attacksOn [(2, ((r : Nat) : Int)), (0, a1), (0, a2)] h (some (1, res)) h := by
  rcases hr with rfl | rfl
  · refine jC.of ok_Bd_attacksOn.1 (by rw [jlg]; exact Nat.le_of_ble_eq_true rfl) ?_
    show jG E _ 0 [(0, (2, ((2 : Nat) : Int))), (1, (0, a1)), (2, (0, a2))] [] h _ _
    unfold f_Bd_attacksOn at hv
    refine jG.blk (st_Bd_attacksOn) 4 (pc1 := 5) (L1 := [(5, (0, 0)), (3, (1, 0)), (0, (2, ((2 : Nat) : Int))), (1, (0, a1)), (2, (0, a2))]) (st1 := []) (h1 := h) rfl ?_
    refine jG.subp [2, 3, 4, 1, 0] (L1 := [(0, (2, ((2 : Nat) : Int))), (1, (0, a1)), (2, (0, a2)), (3, (1, 0)), (5, (0, 0))]) rfl ?_
    refine f_Bd_attacksOn_lp5_ok E 2 (by decide) (fun l12 l13 res hv => ?_) 1000 _ _ _ hv
    · refine jG.blk (st_Bd_attacksOn) 1 (pc1 := 113) (L1 := [(3, (1, l12))]) (st1 := [(1, l12)]) (h1 := h) rfl ?_
      cases hv
      exact jT.lret (st_Bd_attacksOn) rfl trivial
  · refine jC.of ok_Bd_attacksOn.1 (by rw [jlg]; exact Nat.le_of_ble_eq_true rfl) ?_
    show jG E _ 0 [(0, (2, ((20 : Nat) : Int))), (1, (0, a1)), (2, (0, a2))] [] h _ _
    unfold f_Bd_attacksOn at hv
    refine jG.blk (st_Bd_attacksOn) 4 (pc1 := 5) (L1 := [(5, (0, 0)), (3, (1, 0)), (0, (2, ((20 : Nat) : Int))), (1, (0, a1)), (2, (0, a2))]) (st1 := []) (h1 := h) rfl ?_
    refine jG.subp [2, 3, 4, 1, 0] (L1 := [(0, (2, ((20 : Nat) : Int))), (1, (0, a1)), (2, (0, a2)), (3, (1, 0)), (5, (0, 0))]) rfl ?_
    refine f_Bd_attacksOn_lp5_ok E 20 (by decide) (fun l12 l13 res hv => ?_) 1000 _ _ _ hv
    · refine jG.blk (st_Bd_attacksOn) 1 (pc1 := 113) (L1 := [(3, (1, l12))]) (st1 := [(1, l12)]) (h1 := h) rfl ?_
      cases hv
      exact jT.lret (st_Bd_attacksOn) rfl trivial
def f_Bd_isKingAttacked (r : Nat) (h : jH) (a1 : Int) : Option (Int) := (f_Bd_kingSquare r h a1).bind fun v1 => if v1 = (-1) then some 0 else (f_X_otherSide h a1).bind fun v2 => (f_Bd_attacksOn r h v1 v2).bind fun v3 => some (if jcmp v3 0 = 0 then 0 else 1)
set_option maxRecDepth 100000 in
set_option maxHeartbeats 4000000 in
theorem C_Bd_isKingAttacked {E : jE} {r : Nat} (hr : r = 2 ∨ r = 20) {h : jH} {a1 : Int} {res : Int} (hv : f_Bd_isKingAttacked r h a1 = some res) : jC E M_Bd_isKingAttacked [(2, ((r : Nat) : Int)), (0, a1)] h (some (0, res)) h := by
  rcases hr with rfl | rfl
  · refine jC.of ok_Bd_isKingAttacked.1 (by rw [jlg]; exact Nat.le_of_ble_eq_true rfl) ?_
    show jG E _ 0 [(0, (2, ((2 : Nat) : Int))), (1, (0, a1))] [] h _ _
    unfold f_Bd_isKingAttacked at hv
    refine jG.blk (st_Bd_isKingAttacked) 2 (pc1 := 2) (L1 := [(0, (2, ((2 : Nat) : Int))), (1, (0, a1))]) (st1 := [(0, a1), (2, ((2 : Nat) : Int))]) (h1 := h) rfl ?_
    obtain ⟨v1, hq, hv⟩ := Option.bind_eq_some_iff.mp hv
    refine jT.cV (M1 := M_Bd_kingSquare) (2, ((2 : Nat) : Int)) [(0, a1)] [] (st_Bd_isKingAttacked) rfl rfl ok_Bd_kingSquare rfl (Or.inl ⟨rfl, _, _, _, rfl, rfl⟩) (Nat.le_of_ble_eq_true rfl) (Nat.le_of_ble_eq_true rfl) rfl (Nat.le_of_ble_eq_true rfl) (C_Bd_kingSquare (by decide) hq) ?_
    show jG E _ 5 [(0, (2, ((2 : Nat) : Int))), (1, (0, a1))] [(0, v1)] h _ _
    refine jG.blk (st_Bd_isKingAttacked) 3 (pc1 := 8) (L1 := [(2, (0, v1)), (0, (2, ((2 : Nat) : Int))), (1, (0, a1))]) (st1 := [(0, (-1)), (0, v1)]) (h1 := h) rfl ?_
    refine jT.if2 (st_Bd_isKingAttacked) rfl (tgt := 29) (by decide) (fun hc => ?_) (fun hc => ?_)
    · have hc : v1 = (-1) := hc
      try rw [if_pos hc] at hv
      refine jG.blk (st_Bd_isKingAttacked) 1 (pc1 := 30) (L1 := [(2, (0, v1)), (0, (2, ((2 : Nat) : Int))), (1, (0, a1))]) (st1 := [(0, 0)]) (h1 := h) rfl ?_
      cases hv
      exact jT.iret (st_Bd_isKingAttacked) rfl (Or.inl rfl)
    · have hc : ¬ (v1 = (-1)) := hc
      try rw [if_neg hc] at hv
      refine jG.blk (st_Bd_isKingAttacked) 3 (pc1 := 14) (L1 := [(2, (0, v1)), (0, (2, ((2 : Nat) : Int))), (1, (0, a1))]) (st1 := [(0, a1), (0, v1), (2, ((2 : Nat) : Int))]) (h1 := h) rfl ?_
      obtain ⟨v2, hq, hv⟩ := Option.bind_eq_some_iff.mp hv
      refine jT.cSN (M1 := M_X_otherSide) [(0, a1)] [(0, v1), (2, ((2 : Nat) : Int))] (st_Bd_isKingAttacked) rfl rfl ok_X_otherSide rfl (Nat.le_of_ble_eq_true rfl) (Nat.le_of_ble_eq_true rfl) rfl (Nat.le_of_ble_eq_true rfl) (C_X_otherSide hq) ?_
      show jG E _ 17 [(2, (0, v1)), (0, (2, ((2 : Nat) : Int))), (1, (0, a1))] [(0, v2), (0, v1), (2, ((2 : Nat) : Int))] h _ _
      obtain ⟨v3, hq, hv⟩ := Option.bind_eq_some_iff.mp hv
      refine jT.cV (M1 := M_Bd_attacksOn) (2, ((2 : Nat) : Int)) [(0, v1), (0, v2)] [] (st_Bd_isKingAttacked) rfl rfl ok_Bd_attacksOn rfl (Or.inl ⟨rfl, _, _, _, rfl, rfl⟩) (Nat.le_of_ble_eq_true rfl) (Nat.le_of_ble_eq_true rfl) rfl (Nat.le_of_ble_eq_true rfl) (C_Bd_attacksOn (by decide) hq) ?_
      show jG E _ 20 [(2, (0, v1)), (0, (2, ((2 : Nat) : Int))), (1, (0, a1))] [(1, v3)] h _ _
      refine jG.blk (st_Bd_isKingAttacked) 2 (pc1 := 22) (L1 := [(2, (0, v1)), (0, (2, ((2 : Nat) : Int))), (1, (0, a1))]) (st1 := [(0, jcmp v3 0)]) (h1 := h) rfl ?_
      refine jT.if1 (st_Bd_isKingAttacked) rfl (tgt := 29) (by decide) (fun hc => ?_) (fun hc => ?_)
      · have hc : jcmp v3 0 = 0 := hc
        try rw [if_pos hc] at hv
        refine jG.blk (st_Bd_isKingAttacked) 1 (pc1 := 30) (L1 := [(2, (0, v1)), (0, (2, ((2 : Nat) : Int))), (1, (0, a1))]) (st1 := [(0, 0)]) (h1 := h) rfl ?_
        cases hv
        exact jT.iret (st_Bd_isKingAttacked) rfl (Or.inl rfl)
      · have hc : ¬ (jcmp v3 0 = 0) := hc
        try rw [if_neg hc] at hv
        refine jG.blk (st_Bd_isKingAttacked) 1 (pc1 := 26) (L1 := [(2, (0, v1)), (0, (2, ((2 : Nat) : Int))), (1, (0, a1))]) (st1 := [(0, 1)]) (h1 := h) rfl ?_
        refine jT.goto (st_Bd_isKingAttacked) rfl (tgt := 30) (by decide) ?_
        cases hv
        exact jT.iret (st_Bd_isKingAttacked) rfl (Or.inr rfl)
  · refine jC.of ok_Bd_isKingAttacked.1 (by rw [jlg]; exact Nat.le_of_ble_eq_true rfl) ?_
    show jG E _ 0 [(0, (2, ((20 : Nat) : Int))), (1, (0, a1))] [] h _ _
    unfold f_Bd_isKingAttacked at hv
    refine jG.blk (st_Bd_isKingAttacked) 2 (pc1 := 2) (L1 := [(0, (2, ((20 : Nat) : Int))), (1, (0, a1))]) (st1 := [(0, a1), (2, ((20 : Nat) : Int))]) (h1 := h) rfl ?_
    obtain ⟨v1, hq, hv⟩ := Option.bind_eq_some_iff.mp hv
    refine jT.cV (M1 := M_Bd_kingSquare) (2, ((20 : Nat) : Int)) [(0, a1)] [] (st_Bd_isKingAttacked) rfl rfl ok_Bd_kingSquare rfl (Or.inl ⟨rfl, _, _, _, rfl, rfl⟩) (Nat.le_of_ble_eq_true rfl) (Nat.le_of_ble_eq_true rfl) rfl (Nat.le_of_ble_eq_true rfl) (C_Bd_kingSquare (by decide) hq) ?_
    show jG E _ 5 [(0, (2, ((20 : Nat) : Int))), (1, (0, a1))] [(0, v1)] h _ _
    refine jG.blk (st_Bd_isKingAttacked) 3 (pc1 := 8) (L1 := [(2, (0, v1)), (0, (2, ((20 : Nat) : Int))), (1, (0, a1))]) (st1 := [(0, (-1)), (0, v1)]) (h1 := h) rfl ?_
    refine jT.if2 (st_Bd_isKingAttacked) rfl (tgt := 29) (by decide) (fun hc => ?_) (fun hc => ?_)
    · have hc : v1 = (-1) := hc
      try rw [if_pos hc] at hv
      refine jG.blk (st_Bd_isKingAttacked) 1 (pc1 := 30) (L1 := [(2, (0, v1)), (0, (2, ((20 : Nat) : Int))), (1, (0, a1))]) (st1 := [(0, 0)]) (h1 := h) rfl ?_
      cases hv
      exact jT.iret (st_Bd_isKingAttacked) rfl (Or.inl rfl)
    · have hc : ¬ (v1 = (-1)) := hc
      try rw [if_neg hc] at hv
      refine jG.blk (st_Bd_isKingAttacked) 3 (pc1 := 14) (L1 := [(2, (0, v1)), (0, (2, ((20 : Nat) : Int))), (1, (0, a1))]) (st1 := [(0, a1), (0, v1), (2, ((20 : Nat) : Int))]) (h1 := h) rfl ?_
      obtain ⟨v2, hq, hv⟩ := Option.bind_eq_some_iff.mp hv
      refine jT.cSN (M1 := M_X_otherSide) [(0, a1)] [(0, v1), (2, ((20 : Nat) : Int))] (st_Bd_isKingAttacked) rfl rfl ok_X_otherSide rfl (Nat.le_of_ble_eq_true rfl) (Nat.le_of_ble_eq_true rfl) rfl (Nat.le_of_ble_eq_true rfl) (C_X_otherSide hq) ?_
      show jG E _ 17 [(2, (0, v1)), (0, (2, ((20 : Nat) : Int))), (1, (0, a1))] [(0, v2), (0, v1), (2, ((20 : Nat) : Int))] h _ _
      obtain ⟨v3, hq, hv⟩ := Option.bind_eq_some_iff.mp hv
      refine jT.cV (M1 := M_Bd_attacksOn) (2, ((20 : Nat) : Int)) [(0, v1), (0, v2)] [] (st_Bd_isKingAttacked) rfl rfl ok_Bd_attacksOn rfl (Or.inl ⟨rfl, _, _, _, rfl, rfl⟩) (Nat.le_of_ble_eq_true rfl) (Nat.le_of_ble_eq_true rfl) rfl (Nat.le_of_ble_eq_true rfl) (C_Bd_attacksOn (by decide) hq) ?_
      show jG E _ 20 [(2, (0, v1)), (0, (2, ((20 : Nat) : Int))), (1, (0, a1))] [(1, v3)] h _ _
      refine jG.blk (st_Bd_isKingAttacked) 2 (pc1 := 22) (L1 := [(2, (0, v1)), (0, (2, ((20 : Nat) : Int))), (1, (0, a1))]) (st1 := [(0, jcmp v3 0)]) (h1 := h) rfl ?_
      refine jT.if1 (st_Bd_isKingAttacked) rfl (tgt := 29) (by decide) (fun hc => ?_) (fun hc => ?_)
      · have hc : jcmp v3 0 = 0 := hc
        try rw [if_pos hc] at hv
        refine jG.blk (st_Bd_isKingAttacked) 1 (pc1 := 30) (L1 := [(2, (0, v1)), (0, (2, ((20 : Nat) : Int))), (1, (0, a1))]) (st1 := [(0, 0)]) (h1 := h) rfl ?_
        cases hv
        exact jT.iret (st_Bd_isKingAttacked) rfl (Or.inl rfl)
      · have hc : ¬ (jcmp v3 0 = 0) := hc
        try rw [if_neg hc] at hv
        refine jG.blk (st_Bd_isKingAttacked) 1 (pc1 := 26) (L1 := [(2, (0, v1)), (0, (2, ((20 : Nat) : Int))), (1, (0, a1))]) (st1 := [(0, 1)]) (h1 := h) rfl ?_
        refine jT.goto (st_Bd_isKingAttacked) rfl (tgt := 30) (by decide) ?_
        cases hv
        exact jT.iret (st_Bd_isKingAttacked) rfl (Or.inr rfl)
def f_Bd_isGood (h : jH) : Option (Int) := (f_Bd_hasKingsAndPawnsRight h).bind fun v1 => if v1 = 0 then some 0 else (f_Bd_hasRightsRight h).bind fun v2 => if v2 = 0 then some 0 else (f_Bd_hasFileRight h).bind fun v3 => if v3 = 0 then some 0 else (f_X_otherSide h (h 20 1)).bind fun v4 => (f_Bd_isKingAttacked 20 h v4).bind fun v5 => some (if v5 = 0 then 1 else 0)
set_option maxRecDepth 100000 in
set_option maxHeartbeats 4000000 in
theorem C_Bd_isGood {E : jE} {h : jH} {res : Int} (hv : f_Bd_isGood h = some res) : jC E M_Bd_isGood [(2, ((20 : Nat) : Int))] h (some (0, res)) h := by
  refine jC.of ok_Bd_isGood.1 (by rw [jlg]; exact Nat.le_of_ble_eq_true rfl) ?_
  show jG E _ 0 [(0, (2, ((20 : Nat) : Int)))] [] h _ _
  unfold f_Bd_isGood at hv
  refine jG.blk (st_Bd_isGood) 1 (pc1 := 1) (L1 := [(0, (2, ((20 : Nat) : Int)))]) (st1 := [(2, ((20 : Nat) : Int))]) (h1 := h) rfl ?_
  obtain ⟨v1, hq, hv⟩ := Option.bind_eq_some_iff.mp hv
  refine jT.cV (M1 := M_Bd_hasKingsAndPawnsRight) (2, ((20 : Nat) : Int)) [] [] (st_Bd_isGood) rfl rfl ok_Bd_hasKingsAndPawnsRight rfl (Or.inl ⟨rfl, _, _, _, rfl, rfl⟩) (Nat.le_of_ble_eq_true rfl) (Nat.le_of_ble_eq_true rfl) rfl (Nat.le_of_ble_eq_true rfl) (C_Bd_hasKingsAndPawnsRight hq) ?_
  show jG E _ 4 [(0, (2, ((20 : Nat) : Int)))] [(0, v1)] h _ _
  refine jT.if1 (st_Bd_isGood) rfl (tgt := 39) (by decide) (fun hc => ?_) (fun hc => ?_)
  · have hc : v1 = 0 := hc
    try rw [if_pos hc] at hv
    refine jG.blk (st_Bd_isGood) 1 (pc1 := 40) (L1 := [(0, (2, ((20 : Nat) : Int)))]) (st1 := [(0, 0)]) (h1 := h) rfl ?_
    cases hv
    exact jT.iret (st_Bd_isGood) rfl (Or.inl rfl)
  · have hc : ¬ (v1 = 0) := hc
    try rw [if_neg hc] at hv
    refine jG.blk (st_Bd_isGood) 1 (pc1 := 8) (L1 := [(0, (2, ((20 : Nat) : Int)))]) (st1 := [(2, ((20 : Nat) : Int))]) (h1 := h) rfl ?_
    obtain ⟨v2, hq, hv⟩ := Option.bind_eq_some_iff.mp hv
    refine jT.cV (M1 := M_Bd_hasRightsRight) (2, ((20 : Nat) : Int)) [] [] (st_Bd_isGood) rfl rfl ok_Bd_hasRightsRight rfl (Or.inl ⟨rfl, _, _, _, rfl, rfl⟩) (Nat.le_of_ble_eq_true rfl) (Nat.le_of_ble_eq_true rfl) rfl (Nat.le_of_ble_eq_true rfl) (C_Bd_hasRightsRight hq) ?_
    show jG E _ 11 [(0, (2, ((20 : Nat) : Int)))] [(0, v2)] h _ _
    refine jT.if1 (st_Bd_isGood) rfl (tgt := 39) (by decide) (fun hc => ?_) (fun hc => ?_)
    · have hc : v2 = 0 := hc
      try rw [if_pos hc] at hv
      refine jG.blk (st_Bd_isGood) 1 (pc1 := 40) (L1 := [(0, (2, ((20 : Nat) : Int)))]) (st1 := [(0, 0)]) (h1 := h) rfl ?_
      cases hv
      exact jT.iret (st_Bd_isGood) rfl (Or.inl rfl)
    · have hc : ¬ (v2 = 0) := hc
      try rw [if_neg hc] at hv
      refine jG.blk (st_Bd_isGood) 1 (pc1 := 15) (L1 := [(0, (2, ((20 : Nat) : Int)))]) (st1 := [(2, ((20 : Nat) : Int))]) (h1 := h) rfl ?_
      obtain ⟨v3, hq, hv⟩ := Option.bind_eq_some_iff.mp hv
      refine jT.cV (M1 := M_Bd_hasFileRight) (2, ((20 : Nat) : Int)) [] [] (st_Bd_isGood) rfl rfl ok_Bd_hasFileRight rfl (Or.inl ⟨rfl, _, _, _, rfl, rfl⟩) (Nat.le_of_ble_eq_true rfl) (Nat.le_of_ble_eq_true rfl) rfl (Nat.le_of_ble_eq_true rfl) (C_Bd_hasFileRight hq) ?_
      show jG E _ 18 [(0, (2, ((20 : Nat) : Int)))] [(0, v3)] h _ _
      refine jT.if1 (st_Bd_isGood) rfl (tgt := 39) (by decide) (fun hc => ?_) (fun hc => ?_)
      · have hc : v3 = 0 := hc
        try rw [if_pos hc] at hv
        refine jG.blk (st_Bd_isGood) 1 (pc1 := 40) (L1 := [(0, (2, ((20 : Nat) : Int)))]) (st1 := [(0, 0)]) (h1 := h) rfl ?_
        cases hv
        exact jT.iret (st_Bd_isGood) rfl (Or.inl rfl)
      · have hc : ¬ (v3 = 0) := hc
        try rw [if_neg hc] at hv
        refine jG.blk (st_Bd_isGood) 3 (pc1 := 26) (L1 := [(0, (2, ((20 : Nat) : Int)))]) (st1 := [(0, h 20 1), (2, ((20 : Nat) : Int))]) (h1 := h) rfl ?_
        obtain ⟨v4, hq, hv⟩ := Option.bind_eq_some_iff.mp hv
        refine jT.cSN (M1 := M_X_otherSide) [(0, h 20 1)] [(2, ((20 : Nat) : Int))] (st_Bd_isGood) rfl rfl ok_X_otherSide rfl (Nat.le_of_ble_eq_true rfl) (Nat.le_of_ble_eq_true rfl) rfl (Nat.le_of_ble_eq_true rfl) (C_X_otherSide hq) ?_
        show jG E _ 29 [(0, (2, ((20 : Nat) : Int)))] [(0, v4), (2, ((20 : Nat) : Int))] h _ _
        obtain ⟨v5, hq, hv⟩ := Option.bind_eq_some_iff.mp hv
        refine jT.cV (M1 := M_Bd_isKingAttacked) (2, ((20 : Nat) : Int)) [(0, v4)] [] (st_Bd_isGood) rfl rfl ok_Bd_isKingAttacked rfl (Or.inl ⟨rfl, _, _, _, rfl, rfl⟩) (Nat.le_of_ble_eq_true rfl) (Nat.le_of_ble_eq_true rfl) rfl (Nat.le_of_ble_eq_true rfl) (C_Bd_isKingAttacked (by decide) hq) ?_
        show jG E _ 32 [(0, (2, ((20 : Nat) : Int)))] [(0, v5)] h _ _
        refine jT.if1 (st_Bd_isGood) rfl (tgt := 39) (by decide) (fun hc => ?_) (fun hc => ?_)
        · have hc : ¬ (v5 = 0) := hc
          try rw [if_neg hc] at hv
          refine jG.blk (st_Bd_isGood) 1 (pc1 := 40) (L1 := [(0, (2, ((20 : Nat) : Int)))]) (st1 := [(0, 0)]) (h1 := h) rfl ?_
          cases hv
          exact jT.iret (st_Bd_isGood) rfl (Or.inl rfl)
        · have hc : v5 = 0 := Decidable.not_not.mp hc
          try rw [if_pos hc] at hv
          refine jG.blk (st_Bd_isGood) 1 (pc1 := 36) (L1 := [(0, (2, ((20 : Nat) : Int)))]) (st1 := [(0, 1)]) (h1 := h) rfl ?_
          refine jT.goto (st_Bd_isGood) rfl (tgt := 40) (by decide) ?_
          cases hv
          exact jT.iret (st_Bd_isGood) rfl (Or.inr rfl)
def f_Bd_passedSquare (h : jH) : Option (Int) := if h 2 3 = (-1) then some (-1) else (f_X_otherSide h (h 2 1)).bind fun v1 => (f_X_rankFor h v1 2).bind fun v2 => (f_X_squareAt h (h 2 3) v2).bind fun v3 => some v3
set_option maxRecDepth 100000 in
set_option maxHeartbeats 4000000 in
theorem C_Bd_passedSquare {E : jE} {h : jH} {res : Int} (hv : f_Bd_passedSquare h = some res) : jC E M_Bd_passedSquare [(2, ((2 : Nat) : Int))] h (some (0, res)) h := by
  refine jC.of ok_Bd_passedSquare.1 (by rw [jlg]; exact Nat.le_of_ble_eq_true rfl) ?_
  show jG E _ 0 [(0, (2, ((2 : Nat) : Int)))] [] h _ _
  unfold f_Bd_passedSquare at hv
  refine jG.blk (st_Bd_passedSquare) 3 (pc1 := 5) (L1 := [(0, (2, ((2 : Nat) : Int)))]) (st1 := [(0, (-1)), (0, h 2 3)]) (h1 := h) rfl ?_
  refine jT.if2 (st_Bd_passedSquare) rfl (tgt := 12) (by decide) (fun hc => ?_) (fun hc => ?_)
  · have hc : ¬ (h 2 3 = (-1)) := hc
    try rw [if_neg hc] at hv
    refine jG.blk (st_Bd_passedSquare) 4 (pc1 := 20) (L1 := [(0, (2, ((2 : Nat) : Int)))]) (st1 := [(0, h 2 1), (0, h 2 3)]) (h1 := h) rfl ?_
    obtain ⟨v1, hq, hv⟩ := Option.bind_eq_some_iff.mp hv
    refine jT.cSN (M1 := M_X_otherSide) [(0, h 2 1)] [(0, h 2 3)] (st_Bd_passedSquare) rfl rfl ok_X_otherSide rfl (Nat.le_of_ble_eq_true rfl) (Nat.le_of_ble_eq_true rfl) rfl (Nat.le_of_ble_eq_true rfl) (C_X_otherSide hq) ?_
    show jG E _ 23 [(0, (2, ((2 : Nat) : Int)))] [(0, v1), (0, h 2 3)] h _ _
    refine jG.blk (st_Bd_passedSquare) 1 (pc1 := 24) (L1 := [(0, (2, ((2 : Nat) : Int)))]) (st1 := [(0, 2), (0, v1), (0, h 2 3)]) (h1 := h) rfl ?_
    obtain ⟨v2, hq, hv⟩ := Option.bind_eq_some_iff.mp hv
    refine jT.cSN (M1 := M_X_rankFor) [(0, v1), (0, 2)] [(0, h 2 3)] (st_Bd_passedSquare) rfl rfl ok_X_rankFor rfl (Nat.le_of_ble_eq_true rfl) (Nat.le_of_ble_eq_true rfl) rfl (Nat.le_of_ble_eq_true rfl) (C_X_rankFor hq) ?_
    show jG E _ 27 [(0, (2, ((2 : Nat) : Int)))] [(0, v2), (0, h 2 3)] h _ _
    obtain ⟨v3, hq, hv⟩ := Option.bind_eq_some_iff.mp hv
    refine jT.cSN (M1 := M_X_squareAt) [(0, h 2 3), (0, v2)] [] (st_Bd_passedSquare) rfl rfl ok_X_squareAt rfl (Nat.le_of_ble_eq_true rfl) (Nat.le_of_ble_eq_true rfl) rfl (Nat.le_of_ble_eq_true rfl) (C_X_squareAt hq) ?_
    show jG E _ 30 [(0, (2, ((2 : Nat) : Int)))] [(0, v3)] h _ _
    cases hv
    exact jT.iret (st_Bd_passedSquare) rfl trivial
  · have hc : h 2 3 = (-1) := Decidable.not_not.mp hc
    try rw [if_pos hc] at hv
    refine jG.blk (st_Bd_passedSquare) 1 (pc1 := 9) (L1 := [(0, (2, ((2 : Nat) : Int)))]) (st1 := [(0, (-1))]) (h1 := h) rfl ?_
    refine jT.goto (st_Bd_passedSquare) rfl (tgt := 30) (by decide) ?_
    cases hv
    exact jT.iret (st_Bd_passedSquare) rfl trivial
def f_Bd_victimSquare (h : jH) (a1 : Int) (a2 : Int) : Option (Int) := jgd (0 ≤ a1 ∧ a1 < 64) ((f_X_kindOf h (h 3 a1.toNat)).bind fun v1 => if v1 = 1 then (f_Bd_passedSquare h).bind fun v2 => if a2 = v2 then (f_X_squareAt h (jand a2 7) (jshr a1 3)).bind fun v3 => some v3 else some a2 else some a2)
set_option maxRecDepth 100000 in
set_option maxHeartbeats 4000000 in
theorem C_Bd_victimSquare {E : jE} {h : jH} {a1 : Int} {a2 : Int} {res : Int} (hv : f_Bd_victimSquare h a1 a2 = some res) : jC E M_Bd_victimSquare [(2, ((2 : Nat) : Int)), (0, a1), (0, a2)] h (some (0, res)) h := by
  refine jC.of ok_Bd_victimSquare.1 (by rw [jlg]; exact Nat.le_of_ble_eq_true rfl) ?_
  show jG E _ 0 [(0, (2, ((2 : Nat) : Int))), (1, (0, a1)), (2, (0, a2))] [] h _ _
  unfold f_Bd_victimSquare at hv
  refine jG.blk (st_Bd_victimSquare) 3 (pc1 := 5) (L1 := [(0, (2, ((2 : Nat) : Int))), (1, (0, a1)), (2, (0, a2))]) (st1 := [(0, a1), (2, ((3 : Nat) : Int))]) (h1 := h) rfl ?_
  obtain ⟨hg, hv⟩ := jgd_some hv
  refine jT.iald (a := 3) (st_Bd_victimSquare) rfl rfl (by decide) hg.1 hg.2 ?_
  obtain ⟨v1, hq, hv⟩ := Option.bind_eq_some_iff.mp hv
  refine jT.cSN (M1 := M_X_kindOf) [(0, h 3 a1.toNat)] [] (st_Bd_victimSquare) rfl rfl ok_X_kindOf rfl (Nat.le_of_ble_eq_true rfl) (Nat.le_of_ble_eq_true rfl) rfl (Nat.le_of_ble_eq_true rfl) (C_X_kindOf hq) ?_
  show jG E _ 9 [(0, (2, ((2 : Nat) : Int))), (1, (0, a1)), (2, (0, a2))] [(0, v1)] h _ _
  refine jG.blk (st_Bd_victimSquare) 1 (pc1 := 10) (L1 := [(0, (2, ((2 : Nat) : Int))), (1, (0, a1)), (2, (0, a2))]) (st1 := [(0, 1), (0, v1)]) (h1 := h) rfl ?_
  refine jT.if2 (st_Bd_victimSquare) rfl (tgt := 32) (by decide) (fun hc => ?_) (fun hc => ?_)
  · have hc : ¬ (v1 = 1) := hc
    try rw [if_neg hc] at hv
    refine jG.blk (st_Bd_victimSquare) 1 (pc1 := 33) (L1 := [(0, (2, ((2 : Nat) : Int))), (1, (0, a1)), (2, (0, a2))]) (st1 := [(0, a2)]) (h1 := h) rfl ?_
    cases hv
    exact jT.iret (st_Bd_victimSquare) rfl trivial
  · have hc : v1 = 1 := Decidable.not_not.mp hc
    try rw [if_pos hc] at hv
    refine jG.blk (st_Bd_victimSquare) 2 (pc1 := 15) (L1 := [(0, (2, ((2 : Nat) : Int))), (1, (0, a1)), (2, (0, a2))]) (st1 := [(2, ((2 : Nat) : Int)), (0, a2)]) (h1 := h) rfl ?_
    obtain ⟨v2, hq, hv⟩ := Option.bind_eq_some_iff.mp hv
    refine jT.cV (M1 := M_Bd_passedSquare) (2, ((2 : Nat) : Int)) [] [(0, a2)] (st_Bd_victimSquare) rfl rfl ok_Bd_passedSquare rfl (Or.inl ⟨rfl, _, _, _, rfl, rfl⟩) (Nat.le_of_ble_eq_true rfl) (Nat.le_of_ble_eq_true rfl) rfl (Nat.le_of_ble_eq_true rfl) (C_Bd_passedSquare hq) ?_
    show jG E _ 18 [(0, (2, ((2 : Nat) : Int))), (1, (0, a1)), (2, (0, a2))] [(0, v2), (0, a2)] h _ _
    refine jT.if2 (st_Bd_victimSquare) rfl (tgt := 32) (by decide) (fun hc => ?_) (fun hc => ?_)
    · have hc : ¬ (a2 = v2) := hc
      try rw [if_neg hc] at hv
      refine jG.blk (st_Bd_victimSquare) 1 (pc1 := 33) (L1 := [(0, (2, ((2 : Nat) : Int))), (1, (0, a1)), (2, (0, a2))]) (st1 := [(0, a2)]) (h1 := h) rfl ?_
      cases hv
      exact jT.iret (st_Bd_victimSquare) rfl trivial
    · have hc : a2 = v2 := Decidable.not_not.mp hc
      try rw [if_pos hc] at hv
      refine jG.blk (st_Bd_victimSquare) 6 (pc1 := 28) (L1 := [(0, (2, ((2 : Nat) : Int))), (1, (0, a1)), (2, (0, a2))]) (st1 := [(0, jshr a1 3), (0, jand a2 7)]) (h1 := h) rfl ?_
      obtain ⟨v3, hq, hv⟩ := Option.bind_eq_some_iff.mp hv
      refine jT.cSN (M1 := M_X_squareAt) [(0, jand a2 7), (0, jshr a1 3)] [] (st_Bd_victimSquare) rfl rfl ok_X_squareAt rfl (Nat.le_of_ble_eq_true rfl) (Nat.le_of_ble_eq_true rfl) rfl (Nat.le_of_ble_eq_true rfl) (C_X_squareAt hq) ?_
      show jG E _ 31 [(0, (2, ((2 : Nat) : Int))), (1, (0, a1)), (2, (0, a2))] [(0, v3)] h _ _
      cases hv
      exact jT.iret (st_Bd_victimSquare) rfl trivial
def f_Bd_isSafeBehind_j79 (h17 : jH) (l11 : Int) (l12 : Int) (l13 : Int) (l14 : Int) (l15 : Int) (s16 : Int) : Option (Int × jH) := jgd (0 ≤ l12 ∧ l12 < 64) (jgd (0 ≤ l11 ∧ l11 < 64) (jgd (0 ≤ l13 ∧ l13 < 64) (jgd (s16 = 0 ∨ s16 = 1) (some (s16, jup (jup (jup h17 3 l12.toNat 0) 3 l11.toNat l14) 3 l13.toNat l15)))))
def f_Bd_isSafeBehind_j59 (h8 : jH) (l2 : Int) (l3 : Int) (l4 : Int) (l5 : Int) (l6 : Int) (s7 : Int) : Option (Int × jH) := (f_X_otherSide h8 (h8 2 1)).bind fun v9 => (f_Bd_attacksOn 2 h8 s7 v9).bind fun v10 => f_Bd_isSafeBehind_j79 h8 l2 l3 l4 l5 l6 (if jcmp v10 0 = 0 then 1 else 0)
def f_Bd_isSafeBehind (h : jH) (a1 : Int) (a2 : Int) (a3 : Int) : Option (Int × jH) := (f_Bd_victimSquare h a1 a2).bind fun v1 => jgd (0 ≤ a1 ∧ a1 < 64) (jgd (0 ≤ v1 ∧ v1 < 64) (jgd (0 ≤ v1 ∧ v1 < 64) (jgd (0 ≤ a1 ∧ a1 < 64) (jgd (0 ≤ a2 ∧ a2 < 64) (f_Bd_isSafeBehind_j59 (jup (jup (jup h 3 v1.toNat 0) 3 a1.toNat 0) 3 a2.toNat (h 3 a1.toNat)) a1 a2 v1 (h 3 a1.toNat) (h 3 v1.toNat) (if a1 = a3 then a2 else a3))))))
set_option maxRecDepth 100000 in
set_option maxHeartbeats 4000000 in
theorem f_Bd_isSafeBehind_j79_ok (E : jE) {h17 : jH} {l11 : Int} {l12 : Int} {l13 : Int} {l14 : Int} {l15 : Int} {s16 : Int} {res : Int × jH} (hv : f_Bd_isSafeBehind_j79 h17 l11 l12 l13 l14 l15 s16 = some res) : jG E M_Bd_isSafeBehind 79 [(0, (2, ((2 : Nat) : Int))), (1, (0, l11)), (2, (0, l12)), (4, (0, l13)), (5, (0, l14)), (6, (0, l15))] [(0, s16)] h17 (some (0, res.1)) res.2 := by
  unfold f_Bd_isSafeBehind_j79 at hv
  refine jG.blk (st_Bd_isSafeBehind) 5 (pc1 := 87) (L1 := [(7, (0, s16)), (0, (2, ((2 : Nat) : Int))), (1, (0, l11)), (2, (0, l12)), (4, (0, l13)), (5, (0, l14)), (6, (0, l15))]) (st1 := [(0, 0), (0, l12), (2, ((3 : Nat) : Int))]) (h1 := h17) rfl ?_
  obtain ⟨hg, hv⟩ := jgd_some hv
  refine jT.iast (a := 3) (st_Bd_isSafeBehind) rfl rfl (by decide) hg.1 hg.2 ?_
  refine jG.blk (st_Bd_isSafeBehind) 4 (pc1 := 95) (L1 := [(7, (0, s16)), (0, (2, ((2 : Nat) : Int))), (1, (0, l11)), (2, (0, l12)), (4, (0, l13)), (5, (0, l14)), (6, (0, l15))]) (st1 := [(0, l14), (0, l11), (2, ((3 : Nat) : Int))]) (h1 := jup h17 3 l12.toNat 0) rfl ?_
  obtain ⟨hg, hv⟩ := jgd_some hv
  refine jT.iast (a := 3) (st_Bd_isSafeBehind) rfl rfl (by decide) hg.1 hg.2 ?_
  refine jG.blk (st_Bd_isSafeBehind) 4 (pc1 := 104) (L1 := [(7, (0, s16)), (0, (2, ((2 : Nat) : Int))), (1, (0, l11)), (2, (0, l12)), (4, (0, l13)), (5, (0, l14)), (6, (0, l15))]) (st1 := [(0, l15), (0, l13), (2, ((3 : Nat) : Int))]) (h1 := jup (jup h17 3 l12.toNat 0) 3 l11.toNat l14) rfl ?_
  obtain ⟨hg, hv⟩ := jgd_some hv
  refine jT.iast (a := 3) (st_Bd_isSafeBehind) rfl rfl (by decide) hg.1 hg.2 ?_
  refine jG.blk (st_Bd_isSafeBehind) 1 (pc1 := 107) (L1 := [(7, (0, s16)), (0, (2, ((2 : Nat) : Int))), (1, (0, l11)), (2, (0, l12)), (4, (0, l13)), (5, (0, l14)), (6, (0, l15))]) (st1 := [(0, s16)]) (h1 := jup (jup (jup h17 3 l12.toNat 0) 3 l11.toNat l14) 3 l13.toNat l15) rfl ?_
  obtain ⟨hg, hv⟩ := jgd_some hv
  cases hv
  exact jT.iret (st_Bd_isSafeBehind) rfl hg
set_option maxRecDepth 100000 in
set_option maxHeartbeats 4000000 in
theorem f_Bd_isSafeBehind_j59_ok (E : jE) {h8 : jH} {l2 : Int} {l3 : Int} {l4 : Int} {l5 : Int} {l6 : Int} {s7 : Int} {res : Int × jH} (hv : f_Bd_isSafeBehind_j59 h8 l2 l3 l4 l5 l6 s7 = some res) : jG E M_Bd_isSafeBehind 59 [(0, (2, ((2 : Nat) : Int))), (1, (0, l2)), (2, (0, l3)), (4, (0, l4)), (5, (0, l5)), (6, (0, l6))] [(0, s7), (2, ((2 : Nat) : Int))] h8 (some (0, res.1)) res.2 := by
  unfold f_Bd_isSafeBehind_j59 at hv
  refine jG.blk (st_Bd_isSafeBehind) 2 (pc1 := 63) (L1 := [(0, (2, ((2 : Nat) : Int))), (1, (0, l2)), (2, (0, l3)), (4, (0, l4)), (5, (0, l5)), (6, (0, l6))]) (st1 := [(0, h8 2 1), (0, s7), (2, ((2 : Nat) : Int))]) (h1 := h8) rfl ?_
  obtain ⟨v9, hq, hv⟩ := Option.bind_eq_some_iff.mp hv
  refine jT.cSN (M1 := M_X_otherSide) [(0, h8 2 1)] [(0, s7), (2, ((2 : Nat) : Int))] (st_Bd_isSafeBehind) rfl rfl ok_X_otherSide rfl (Nat.le_of_ble_eq_true rfl) (Nat.le_of_ble_eq_true rfl) rfl (Nat.le_of_ble_eq_true rfl) (C_X_otherSide hq) ?_
  show jG E _ 66 [(0, (2, ((2 : Nat) : Int))), (1, (0, l2)), (2, (0, l3)), (4, (0, l4)), (5, (0, l5)), (6, (0, l6))] [(0, v9), (0, s7), (2, ((2 : Nat) : Int))] h8 _ _
  obtain ⟨v10, hq, hv⟩ := Option.bind_eq_some_iff.mp hv
  refine jT.cV (M1 := M_Bd_attacksOn) (2, ((2 : Nat) : Int)) [(0, s7), (0, v9)] [] (st_Bd_isSafeBehind) rfl rfl ok_Bd_attacksOn rfl (Or.inl ⟨rfl, _, _, _, rfl, rfl⟩) (Nat.le_of_ble_eq_true rfl) (Nat.le_of_ble_eq_true rfl) rfl (Nat.le_of_ble_eq_true rfl) (C_Bd_attacksOn (by decide) hq) ?_
  show jG E _ 69 [(0, (2, ((2 : Nat) : Int))), (1, (0, l2)), (2, (0, l3)), (4, (0, l4)), (5, (0, l5)), (6, (0, l6))] [(1, v10)] h8 _ _
  refine jG.blk (st_Bd_isSafeBehind) 2 (pc1 := 71) (L1 := [(0, (2, ((2 : Nat) : Int))), (1, (0, l2)), (2, (0, l3)), (4, (0, l4)), (5, (0, l5)), (6, (0, l6))]) (st1 := [(0, jcmp v10 0)]) (h1 := h8) rfl ?_
  refine jT.if1 (st_Bd_isSafeBehind) rfl (tgt := 78) (by decide) (fun hc => ?_) (fun hc => ?_)
  · have hc : ¬ (jcmp v10 0 = 0) := hc
    try rw [if_neg hc] at hv
    refine jG.blk (st_Bd_isSafeBehind) 1 (pc1 := 79) (L1 := [(0, (2, ((2 : Nat) : Int))), (1, (0, l2)), (2, (0, l3)), (4, (0, l4)), (5, (0, l5)), (6, (0, l6))]) (st1 := [(0, 0)]) (h1 := h8) rfl ?_
    exact f_Bd_isSafeBehind_j79_ok E hv
  · have hc : jcmp v10 0 = 0 := Decidable.not_not.mp hc
    try rw [if_pos hc] at hv
    refine jG.blk (st_Bd_isSafeBehind) 1 (pc1 := 75) (L1 := [(0, (2, ((2 : Nat) : Int))), (1, (0, l2)), (2, (0, l3)), (4, (0, l4)), (5, (0, l5)), (6, (0, l6))]) (st1 := [(0, 1)]) (h1 := h8) rfl ?_
    refine jT.goto (st_Bd_isSafeBehind) rfl (tgt := 79) (by decide) ?_
    exact f_Bd_isSafeBehind_j79_ok E hv
set_option maxRecDepth 100000 in
set_option maxHeartbeats 4000000 in
theorem C_Bd_isSafeBehind {E : jE} {h : jH} {a1 : Int} {a2 : Int} {a3 : Int} {res : Int × jH} (hv : f_Bd_isSafeBehind h a1 a2 a3 = some res) : jC E M_Bd_isSafeBehind [(2, ((2 : Nat) : Int)), (0, a1), (0, a2), (0, a3)] h (some (0, res.1)) res.2 := by
  refine jC.of ok_Bd_isSafeBehind.1 (by rw [jlg]; exact Nat.le_of_ble_eq_true rfl) ?_
  show jG E _ 0 [(0, (2, ((2 : Nat) : Int))), (1, (0, a1)), (2, (0, a2)), (3, (0, a3))] [] h _ _
  unfold f_Bd_isSafeBehind at hv
  refine jG.blk (st_Bd_isSafeBehind) 3 (pc1 := 3) (L1 := [(0, (2, ((2 : Nat) : Int))), (1, (0, a1)), (2, (0, a2)), (3, (0, a3))]) (st1 := [(0, a2), (0, a1), (2, ((2 : Nat) : Int))]) (h1 := h) rfl ?_
  obtain ⟨v1, hq, hv⟩ := Option.bind_eq_some_iff.mp hv
  refine jT.cV (M1 := M_Bd_victimSquare) (2, ((2 : Nat) : Int)) [(0, a1), (0, a2)] [] (st_Bd_isSafeBehind) rfl rfl ok_Bd_victimSquare rfl (Or.inl ⟨rfl, _, _, _, rfl, rfl⟩) (Nat.le_of_ble_eq_true rfl) (Nat.le_of_ble_eq_true rfl) rfl (Nat.le_of_ble_eq_true rfl) (C_Bd_victimSquare hq) ?_
  show jG E _ 6 [(0, (2, ((2 : Nat) : Int))), (1, (0, a1)), (2, (0, a2)), (3, (0, a3))] [(0, v1)] h _ _
  refine jG.blk (st_Bd_isSafeBehind) 4 (pc1 := 13) (L1 := [(4, (0, v1)), (0, (2, ((2 : Nat) : Int))), (1, (0, a1)), (2, (0, a2)), (3, (0, a3))]) (st1 := [(0, a1), (2, ((3 : Nat) : Int))]) (h1 := h) rfl ?_
  obtain ⟨hg, hv⟩ := jgd_some hv
  refine jT.iald (a := 3) (st_Bd_isSafeBehind) rfl rfl (by decide) hg.1 hg.2 ?_
  refine jG.blk (st_Bd_isSafeBehind) 4 (pc1 := 22) (L1 := [(5, (0, h 3 a1.toNat)), (4, (0, v1)), (0, (2, ((2 : Nat) : Int))), (1, (0, a1)), (2, (0, a2)), (3, (0, a3))]) (st1 := [(0, v1), (2, ((3 : Nat) : Int))]) (h1 := h) rfl ?_
  obtain ⟨hg, hv⟩ := jgd_some hv
  refine jT.iald (a := 3) (st_Bd_isSafeBehind) rfl rfl (by decide) hg.1 hg.2 ?_
  refine jG.blk (st_Bd_isSafeBehind) 5 (pc1 := 32) (L1 := [(6, (0, h 3 v1.toNat)), (5, (0, h 3 a1.toNat)), (4, (0, v1)), (0, (2, ((2 : Nat) : Int))), (1, (0, a1)), (2, (0, a2)), (3, (0, a3))]) (st1 := [(0, 0), (0, v1), (2, ((3 : Nat) : Int))]) (h1 := h) rfl ?_
  obtain ⟨hg, hv⟩ := jgd_some hv
  refine jT.iast (a := 3) (st_Bd_isSafeBehind) rfl rfl (by decide) hg.1 hg.2 ?_
  refine jG.blk (st_Bd_isSafeBehind) 4 (pc1 := 39) (L1 := [(6, (0, h 3 v1.toNat)), (5, (0, h 3 a1.toNat)), (4, (0, v1)), (0, (2, ((2 : Nat) : Int))), (1, (0, a1)), (2, (0, a2)), (3, (0, a3))]) (st1 := [(0, 0), (0, a1), (2, ((3 : Nat) : Int))]) (h1 := jup h 3 v1.toNat 0) rfl ?_
  obtain ⟨hg, hv⟩ := jgd_some hv
  refine jT.iast (a := 3) (st_Bd_isSafeBehind) rfl rfl (by decide) hg.1 hg.2 ?_
  refine jG.blk (st_Bd_isSafeBehind) 4 (pc1 := 47) (L1 := [(6, (0, h 3 v1.toNat)), (5, (0, h 3 a1.toNat)), (4, (0, v1)), (0, (2, ((2 : Nat) : Int))), (1, (0, a1)), (2, (0, a2)), (3, (0, a3))]) (st1 := [(0, h 3 a1.toNat), (0, a2), (2, ((3 : Nat) : Int))]) (h1 := jup (jup h 3 v1.toNat 0) 3 a1.toNat 0) rfl ?_
  obtain ⟨hg, hv⟩ := jgd_some hv
  refine jT.iast (a := 3) (st_Bd_isSafeBehind) rfl rfl (by decide) hg.1 hg.2 ?_
  refine jG.blk (st_Bd_isSafeBehind) 3 (pc1 := 51) (L1 := [(6, (0, h 3 v1.toNat)), (5, (0, h 3 a1.toNat)), (4, (0, v1)), (0, (2, ((2 : Nat) : Int))), (1, (0, a1)), (2, (0, a2)), (3, (0, a3))]) (st1 := [(0, a3), (0, a1), (2, ((2 : Nat) : Int))]) (h1 := jup (jup (jup h 3 v1.toNat 0) 3 a1.toNat 0) 3 a2.toNat (h 3 a1.toNat)) rfl ?_
  refine jT.if2 (st_Bd_isSafeBehind) rfl (tgt := 58) (by decide) (fun hc => ?_) (fun hc => ?_)
  · have hc : ¬ (a1 = a3) := hc
    try rw [if_neg hc] at hv
    refine jG.blk (st_Bd_isSafeBehind) 1 (pc1 := 59) (L1 := [(6, (0, h 3 v1.toNat)), (5, (0, h 3 a1.toNat)), (4, (0, v1)), (0, (2, ((2 : Nat) : Int))), (1, (0, a1)), (2, (0, a2)), (3, (0, a3))]) (st1 := [(0, a3), (2, ((2 : Nat) : Int))]) (h1 := jup (jup (jup h 3 v1.toNat 0) 3 a1.toNat 0) 3 a2.toNat (h 3 a1.toNat)) rfl ?_
    refine jG.subp [3, 4, 5, 2, 1, 0] (L1 := [(0, (2, ((2 : Nat) : Int))), (1, (0, a1)), (2, (0, a2)), (4, (0, v1)), (5, (0, h 3 a1.toNat)), (6, (0, h 3 v1.toNat))]) rfl ?_
    exact f_Bd_isSafeBehind_j59_ok E hv
  · have hc : a1 = a3 := Decidable.not_not.mp hc
    try rw [if_pos hc] at hv
    refine jG.blk (st_Bd_isSafeBehind) 1 (pc1 := 55) (L1 := [(6, (0, h 3 v1.toNat)), (5, (0, h 3 a1.toNat)), (4, (0, v1)), (0, (2, ((2 : Nat) : Int))), (1, (0, a1)), (2, (0, a2)), (3, (0, a3))]) (st1 := [(0, a2), (2, ((2 : Nat) : Int))]) (h1 := jup (jup (jup h 3 v1.toNat 0) 3 a1.toNat 0) 3 a2.toNat (h 3 a1.toNat)) rfl ?_
    refine jT.goto (st_Bd_isSafeBehind) rfl (tgt := 59) (by decide) ?_
    refine jG.subp [3, 4, 5, 2, 1, 0] (L1 := [(0, (2, ((2 : Nat) : Int))), (1, (0, a1)), (2, (0, a2)), (4, (0, v1)), (5, (0, h 3 a1.toNat)), (6, (0, h 3 v1.toNat))]) rfl ?_
    exact f_Bd_isSafeBehind_j59_ok E hv
def f_Bd_passingTakers_lp26 (x5 : Int) (x6 : Int) (k : Int → Int → jH → Option (Int × jH)) : Nat → Int → Int → jH → Option (Int × jH)
  | 0, _, _, _ => none
  | n + 1, l3, l4, h7 => if 1 < l4 then k l3 l4 h7 else (f_X_forwardOf h7 (h7 2 1)).bind fun v8 => (f_X_shifted h7 x5 l4 (jneg v8)).bind fun v9 => if v9 = (-1) then f_Bd_passingTakers_lp26 x5 x6 k n l3 (jadd l4 2) h7 else jgd (0 ≤ v9 ∧ v9 < 64) ((f_X_pieceOf h7 1 (h7 2 1)).bind fun v10 => if h7 3 v9.toNat = v10 then (f_Bd_isSafeBehind h7 v9 x5 x6).bind fun v11 => f_Bd_passingTakers_lp26 x5 x6 k n (if v11.1 = 0 then l3 else jlor l3 (jlshl 1 v9)) (jadd l4 2) v11.2 else f_Bd_passingTakers_lp26 x5 x6 k n l3 (jadd l4 2) h7)
def f_Bd_passingTakers (h : jH) : Option (Int × jH) := (f_Bd_passedSquare h).bind fun v1 => if v1 = (-1) then some (0, h) else (f_Bd_kingSquare 2 h (h 2 1)).bind fun v2 => f_Bd_passingTakers_lp26 v1 v2 (fun l12 l13 h14 => some (l12, h14)) 1000 0 (-1) h
set_option maxRecDepth 100000 in
set_option maxHeartbeats 4000000 in
theorem f_Bd_passingTakers_lp26_ok (E : jE) {x5 : Int} {x6 : Int} {k : Int → Int → jH → Option (Int × jH)} (hk : ∀ (l3 : Int) (l4 : Int) (h7 : jH) (res : Int × jH), k l3 l4 h7 = some res → jG E M_Bd_passingTakers 96 [(3, (1, l3))] [] h7 (some (1, res.1)) res.2) : ∀ (n : Nat) (l3 : Int) (l4 : Int) (h7 : jH) (res : Int × jH), f_Bd_passingTakers_lp26 x5 x6 k n l3 l4 h7 = some res → jG E M_Bd_passingTakers 26 [(0, (2, ((2 : Nat) : Int))), (1, (0, x5)), (2, (0, x6)), (3, (1, l3)), (5, (0, l4))] [] h7 (some (1, res.1)) res.2 := by
  intro n
  induction n with
  | zero => intro l3 l4 h7 res hv; cases hv
  | succ n ih =>
    intro l3 l4 h7 res hv
    rw [f_Bd_passingTakers_lp26] at hv
    refine jG.blk (st_Bd_passingTakers) 2 (pc1 := 29) (L1 := [(0, (2, ((2 : Nat) : Int))), (1, (0, x5)), (2, (0, x6)), (3, (1, l3)), (5, (0, l4))]) (st1 := [(0, 1), (0, l4)]) (h1 := h7) rfl ?_
    refine jT.if2 (st_Bd_passingTakers) rfl (tgt := 96) (by decide) (fun hc => ?_) (fun hc => ?_)
    · have hc : 1 < l4 := hc
      try rw [if_pos hc] at hv
      refine jG.subp [3] (L1 := [(3, (1, l3))]) rfl ?_
      exact hk _ _ _ _ hv
    · have hc : ¬ (1 < l4) := hc
      try rw [if_neg hc] at hv
      refine jG.blk (st_Bd_passingTakers) 4 (pc1 := 39) (L1 := [(0, (2, ((2 : Nat) : Int))), (1, (0, x5)), (2, (0, x6)), (3, (1, l3)), (5, (0, l4))]) (st1 := [(0, h7 2 1), (0, l4), (0, x5)]) (h1 := h7) rfl ?_
      obtain ⟨v8, hq, hv⟩ := Option.bind_eq_some_iff.mp hv
      refine jT.cSN (M1 := M_X_forwardOf) [(0, h7 2 1)] [(0, l4), (0, x5)] (st_Bd_passingTakers) rfl rfl ok_X_forwardOf rfl (Nat.le_of_ble_eq_true rfl) (Nat.le_of_ble_eq_true rfl) rfl (Nat.le_of_ble_eq_true rfl) (C_X_forwardOf hq) ?_
      show jG E _ 42 [(0, (2, ((2 : Nat) : Int))), (1, (0, x5)), (2, (0, x6)), (3, (1, l3)), (5, (0, l4))] [(0, v8), (0, l4), (0, x5)] h7 _ _
      refine jG.blk (st_Bd_passingTakers) 1 (pc1 := 43) (L1 := [(0, (2, ((2 : Nat) : Int))), (1, (0, x5)), (2, (0, x6)), (3, (1, l3)), (5, (0, l4))]) (st1 := [(0, jneg v8), (0, l4), (0, x5)]) (h1 := h7) rfl ?_
      obtain ⟨v9, hq, hv⟩ := Option.bind_eq_some_iff.mp hv
      refine jT.cSN (M1 := M_X_shifted) [(0, x5), (0, l4), (0, jneg v8)] [] (st_Bd_passingTakers) rfl rfl ok_X_shifted rfl (Nat.le_of_ble_eq_true rfl) (Nat.le_of_ble_eq_true rfl) rfl (Nat.le_of_ble_eq_true rfl) (C_X_shifted hq) ?_
      show jG E _ 46 [(0, (2, ((2 : Nat) : Int))), (1, (0, x5)), (2, (0, x6)), (3, (1, l3)), (5, (0, l4))] [(0, v9)] h7 _ _
      refine jG.blk (st_Bd_passingTakers) 3 (pc1 := 51) (L1 := [(6, (0, v9)), (0, (2, ((2 : Nat) : Int))), (1, (0, x5)), (2, (0, x6)), (3, (1, l3)), (5, (0, l4))]) (st1 := [(0, (-1)), (0, v9)]) (h1 := h7) rfl ?_
      refine jT.if2 (st_Bd_passingTakers) rfl (tgt := 90) (by decide) (fun hc => ?_) (fun hc => ?_)
      · have hc : v9 = (-1) := hc
        try rw [if_pos hc] at hv
        refine jG.blk (st_Bd_passingTakers) 1 (pc1 := 93) (L1 := [(5, (0, jadd l4 2)), (6, (0, v9)), (0, (2, ((2 : Nat) : Int))), (1, (0, x5)), (2, (0, x6)), (3, (1, l3))]) (st1 := []) (h1 := h7) rfl ?_
        refine jT.goto (st_Bd_passingTakers) rfl (tgt := 26) (by decide) ?_
        refine jG.subp [2, 3, 4, 5, 0] (L1 := [(0, (2, ((2 : Nat) : Int))), (1, (0, x5)), (2, (0, x6)), (3, (1, l3)), (5, (0, jadd l4 2))]) rfl ?_
        exact ih _ _ _ _ hv
      · have hc : ¬ (v9 = (-1)) := hc
        try rw [if_neg hc] at hv
        refine jG.blk (st_Bd_passingTakers) 3 (pc1 := 60) (L1 := [(6, (0, v9)), (0, (2, ((2 : Nat) : Int))), (1, (0, x5)), (2, (0, x6)), (3, (1, l3)), (5, (0, l4))]) (st1 := [(0, v9), (2, ((3 : Nat) : Int))]) (h1 := h7) rfl ?_
        obtain ⟨hg, hv⟩ := jgd_some hv
        refine jT.iald (a := 3) (st_Bd_passingTakers) rfl rfl (by decide) hg.1 hg.2 ?_
        refine jG.blk (st_Bd_passingTakers) 3 (pc1 := 66) (L1 := [(6, (0, v9)), (0, (2, ((2 : Nat) : Int))), (1, (0, x5)), (2, (0, x6)), (3, (1, l3)), (5, (0, l4))]) (st1 := [(0, h7 2 1), (0, 1), (0, h7 3 v9.toNat)]) (h1 := h7) rfl ?_
        obtain ⟨v10, hq, hv⟩ := Option.bind_eq_some_iff.mp hv
        refine jT.cSN (M1 := M_X_pieceOf) [(0, 1), (0, h7 2 1)] [(0, h7 3 v9.toNat)] (st_Bd_passingTakers) rfl rfl ok_X_pieceOf rfl (Nat.le_of_ble_eq_true rfl) (Nat.le_of_ble_eq_true rfl) rfl (Nat.le_of_ble_eq_true rfl) (C_X_pieceOf hq) ?_
        show jG E _ 69 [(6, (0, v9)), (0, (2, ((2 : Nat) : Int))), (1, (0, x5)), (2, (0, x6)), (3, (1, l3)), (5, (0, l4))] [(0, v10), (0, h7 3 v9.toNat)] h7 _ _
        refine jT.if2 (st_Bd_passingTakers) rfl (tgt := 90) (by decide) (fun hc => ?_) (fun hc => ?_)
        · have hc : ¬ (h7 3 v9.toNat = v10) := hc
          try rw [if_neg hc] at hv
          refine jG.blk (st_Bd_passingTakers) 1 (pc1 := 93) (L1 := [(5, (0, jadd l4 2)), (6, (0, v9)), (0, (2, ((2 : Nat) : Int))), (1, (0, x5)), (2, (0, x6)), (3, (1, l3))]) (st1 := []) (h1 := h7) rfl ?_
          refine jT.goto (st_Bd_passingTakers) rfl (tgt := 26) (by decide) ?_
          refine jG.subp [2, 3, 4, 5, 0] (L1 := [(0, (2, ((2 : Nat) : Int))), (1, (0, x5)), (2, (0, x6)), (3, (1, l3)), (5, (0, jadd l4 2))]) rfl ?_
          exact ih _ _ _ _ hv
        · have hc : h7 3 v9.toNat = v10 := Decidable.not_not.mp hc
          try rw [if_pos hc] at hv
          refine jG.blk (st_Bd_passingTakers) 4 (pc1 := 77) (L1 := [(6, (0, v9)), (0, (2, ((2 : Nat) : Int))), (1, (0, x5)), (2, (0, x6)), (3, (1, l3)), (5, (0, l4))]) (st1 := [(0, x6), (0, x5), (0, v9), (2, ((2 : Nat) : Int))]) (h1 := h7) rfl ?_
          obtain ⟨v11, hq, hv⟩ := Option.bind_eq_some_iff.mp hv
          refine jT.cV (M1 := M_Bd_isSafeBehind) (2, ((2 : Nat) : Int)) [(0, v9), (0, x5), (0, x6)] [] (st_Bd_passingTakers) rfl rfl ok_Bd_isSafeBehind rfl (Or.inl ⟨rfl, _, _, _, rfl, rfl⟩) (Nat.le_of_ble_eq_true rfl) (Nat.le_of_ble_eq_true rfl) rfl (Nat.le_of_ble_eq_true rfl) (C_Bd_isSafeBehind hq) ?_
          show jG E _ 80 [(6, (0, v9)), (0, (2, ((2 : Nat) : Int))), (1, (0, x5)), (2, (0, x6)), (3, (1, l3)), (5, (0, l4))] [(0, v11.1)] v11.2 _ _
          refine jT.if1 (st_Bd_passingTakers) rfl (tgt := 90) (by decide) (fun hc => ?_) (fun hc => ?_)
          · have hc : v11.1 = 0 := hc
            try rw [if_pos hc] at hv
            refine jG.blk (st_Bd_passingTakers) 1 (pc1 := 93) (L1 := [(5, (0, jadd l4 2)), (6, (0, v9)), (0, (2, ((2 : Nat) : Int))), (1, (0, x5)), (2, (0, x6)), (3, (1, l3))]) (st1 := []) (h1 := v11.2) rfl ?_
            refine jT.goto (st_Bd_passingTakers) rfl (tgt := 26) (by decide) ?_
            refine jG.subp [2, 3, 4, 5, 0] (L1 := [(0, (2, ((2 : Nat) : Int))), (1, (0, x5)), (2, (0, x6)), (3, (1, l3)), (5, (0, jadd l4 2))]) rfl ?_
            exact ih _ _ _ _ hv
          · have hc : ¬ (v11.1 = 0) := hc
            try rw [if_neg hc] at hv
            refine jG.blk (st_Bd_passingTakers) 7 (pc1 := 93) (L1 := [(5, (0, jadd l4 2)), (3, (1, jlor l3 (jlshl 1 v9))), (6, (0, v9)), (0, (2, ((2 : Nat) : Int))), (1, (0, x5)), (2, (0, x6))]) (st1 := []) (h1 := v11.2) rfl ?_
            refine jT.goto (st_Bd_passingTakers) rfl (tgt := 26) (by decide) ?_
            refine jG.subp [3, 4, 5, 1, 0] (L1 := [(0, (2, ((2 : Nat) : Int))), (1, (0, x5)), (2, (0, x6)), (3, (1, jlor l3 (jlshl 1 v9))), (5, (0, jadd l4 2))]) rfl ?_
            exact ih _ _ _ _ hv
set_option maxRecDepth 100000 in
set_option maxHeartbeats 4000000 in
theorem C_Bd_passingTakers {E : jE} {h : jH} {res : Int × jH} (hv : f_Bd_passingTakers h = some res) : jC E M_Bd_passingTakers [(2, ((2 : Nat) : Int))] h (some (1, res.1)) res.2 := by
  refine jC.of ok_Bd_passingTakers.1 (by rw [jlg]; exact Nat.le_of_ble_eq_true rfl) ?_
  show jG E _ 0 [(0, (2, ((2 : Nat) : Int)))] [] h _ _
  unfold f_Bd_passingTakers at hv
  refine jG.blk (st_Bd_passingTakers) 1 (pc1 := 1) (L1 := [(0, (2, ((2 : Nat) : Int)))]) (st1 := [(2, ((2 : Nat) : Int))]) (h1 := h) rfl ?_
  obtain ⟨v1, hq, hv⟩ := Option.bind_eq_some_iff.mp hv
  refine jT.cV (M1 := M_Bd_passedSquare) (2, ((2 : Nat) : Int)) [] [] (st_Bd_passingTakers) rfl rfl ok_Bd_passedSquare rfl (Or.inl ⟨rfl, _, _, _, rfl, rfl⟩) (Nat.le_of_ble_eq_true rfl) (Nat.le_of_ble_eq_true rfl) rfl (Nat.le_of_ble_eq_true rfl) (C_Bd_passedSquare hq) ?_
  show jG E _ 4 [(0, (2, ((2 : Nat) : Int)))] [(0, v1)] h _ _
  refine jG.blk (st_Bd_passingTakers) 3 (pc1 := 7) (L1 := [(1, (0, v1)), (0, (2, ((2 : Nat) : Int)))]) (st1 := [(0, (-1)), (0, v1)]) (h1 := h) rfl ?_
  refine jT.if2 (st_Bd_passingTakers) rfl (tgt := 12) (by decide) (fun hc => ?_) (fun hc => ?_)
  · have hc : ¬ (v1 = (-1)) := hc
    try rw [if_neg hc] at hv
    refine jG.blk (st_Bd_passingTakers) 3 (pc1 := 17) (L1 := [(1, (0, v1)), (0, (2, ((2 : Nat) : Int)))]) (st1 := [(0, h 2 1), (2, ((2 : Nat) : Int))]) (h1 := h) rfl ?_
    obtain ⟨v2, hq, hv⟩ := Option.bind_eq_some_iff.mp hv
    refine jT.cV (M1 := M_Bd_kingSquare) (2, ((2 : Nat) : Int)) [(0, h 2 1)] [] (st_Bd_passingTakers) rfl rfl ok_Bd_kingSquare rfl (Or.inl ⟨rfl, _, _, _, rfl, rfl⟩) (Nat.le_of_ble_eq_true rfl) (Nat.le_of_ble_eq_true rfl) rfl (Nat.le_of_ble_eq_true rfl) (C_Bd_kingSquare (by decide) hq) ?_
    show jG E _ 20 [(1, (0, v1)), (0, (2, ((2 : Nat) : Int)))] [(0, v2)] h _ _
    refine jG.blk (st_Bd_passingTakers) 5 (pc1 := 26) (L1 := [(5, (0, (-1))), (3, (1, 0)), (2, (0, v2)), (1, (0, v1)), (0, (2, ((2 : Nat) : Int)))]) (st1 := []) (h1 := h) rfl ?_
    refine jG.subp [4, 3, 2, 1, 0] (L1 := [(0, (2, ((2 : Nat) : Int))), (1, (0, v1)), (2, (0, v2)), (3, (1, 0)), (5, (0, (-1)))]) rfl ?_
    refine f_Bd_passingTakers_lp26_ok E (fun l12 l13 h14 res hv => ?_) 1000 _ _ _ _ hv
    · refine jG.blk (st_Bd_passingTakers) 1 (pc1 := 97) (L1 := [(3, (1, l12))]) (st1 := [(1, l12)]) (h1 := h14) rfl ?_
      cases hv
      exact jT.lret (st_Bd_passingTakers) rfl trivial
  · have hc : v1 = (-1) := Decidable.not_not.mp hc
    try rw [if_pos hc] at hv
    refine jG.blk (st_Bd_passingTakers) 1 (pc1 := 11) (L1 := [(1, (0, v1)), (0, (2, ((2 : Nat) : Int)))]) (st1 := [(1, 0)]) (h1 := h) rfl ?_
    cases hv
    exact jT.lret (st_Bd_passingTakers) rfl trivial
def f_Bd_mayPawnTake (h : jH) (a1 : Int) : Option (Int) := jgd (0 ≤ a1 ∧ a1 < 64) ((f_X_sideOf h (h 3 a1.toNat)).bind fun v1 => (f_X_otherSide h (h 2 1)).bind fun v2 => if v1 = v2 then some 1 else (f_Bd_passedSquare h).bind fun v3 => some (if a1 = v3 then 1 else 0))
set_option maxRecDepth 100000 in
set_option maxHeartbeats 4000000 in
theorem C_Bd_mayPawnTake {E : jE} {h : jH} {a1 : Int} {res : Int} (hv : f_Bd_mayPawnTake h a1 = some res) : jC E M_Bd_mayPawnTake [(2, ((2 : Nat) : Int)), (0, a1)] h (some (0, res)) h := by
  refine jC.of ok_Bd_mayPawnTake.1 (by rw [jlg]; exact Nat.le_of_ble_eq_true rfl) ?_
  show jG E _ 0 [(0, (2, ((2 : Nat) : Int))), (1, (0, a1))] [] h _ _
  unfold f_Bd_mayPawnTake at hv
  refine jG.blk (st_Bd_mayPawnTake) 3 (pc1 := 5) (L1 := [(0, (2, ((2 : Nat) : Int))), (1, (0, a1))]) (st1 := [(0, a1), (2, ((3 : Nat) : Int))]) (h1 := h) rfl ?_
  obtain ⟨hg, hv⟩ := jgd_some hv
  refine jT.iald (a := 3) (st_Bd_mayPawnTake) rfl rfl (by decide) hg.1 hg.2 ?_
  obtain ⟨v1, hq, hv⟩ := Option.bind_eq_some_iff.mp hv
  refine jT.cSN (M1 := M_X_sideOf) [(0, h 3 a1.toNat)] [] (st_Bd_mayPawnTake) rfl rfl ok_X_sideOf rfl (Nat.le_of_ble_eq_true rfl) (Nat.le_of_ble_eq_true rfl) rfl (Nat.le_of_ble_eq_true rfl) (C_X_sideOf hq) ?_
  show jG E _ 9 [(0, (2, ((2 : Nat) : Int))), (1, (0, a1))] [(0, v1)] h _ _
  refine jG.blk (st_Bd_mayPawnTake) 2 (pc1 := 13) (L1 := [(0, (2, ((2 : Nat) : Int))), (1, (0, a1))]) (st1 := [(0, h 2 1), (0, v1)]) (h1 := h) rfl ?_
  obtain ⟨v2, hq, hv⟩ := Option.bind_eq_some_iff.mp hv
  refine jT.cSN (M1 := M_X_otherSide) [(0, h 2 1)] [(0, v1)] (st_Bd_mayPawnTake) rfl rfl ok_X_otherSide rfl (Nat.le_of_ble_eq_true rfl) (Nat.le_of_ble_eq_true rfl) rfl (Nat.le_of_ble_eq_true rfl) (C_X_otherSide hq) ?_
  show jG E _ 16 [(0, (2, ((2 : Nat) : Int))), (1, (0, a1))] [(0, v2), (0, v1)] h _ _
  refine jT.if2 (st_Bd_mayPawnTake) rfl (tgt := 27) (by decide) (fun hc => ?_) (fun hc => ?_)
  · have hc : v1 = v2 := hc
    try rw [if_pos hc] at hv
    refine jG.blk (st_Bd_mayPawnTake) 1 (pc1 := 28) (L1 := [(0, (2, ((2 : Nat) : Int))), (1, (0, a1))]) (st1 := [(0, 1)]) (h1 := h) rfl ?_
    refine jT.goto (st_Bd_mayPawnTake) rfl (tgt := 32) (by decide) ?_
    cases hv
    exact jT.iret (st_Bd_mayPawnTake) rfl (Or.inr rfl)
  · have hc : ¬ (v1 = v2) := hc
    try rw [if_neg hc] at hv
    refine jG.blk (st_Bd_mayPawnTake) 2 (pc1 := 21) (L1 := [(0, (2, ((2 : Nat) : Int))), (1, (0, a1))]) (st1 := [(2, ((2 : Nat) : Int)), (0, a1)]) (h1 := h) rfl ?_
    obtain ⟨v3, hq, hv⟩ := Option.bind_eq_some_iff.mp hv
    refine jT.cV (M1 := M_Bd_passedSquare) (2, ((2 : Nat) : Int)) [] [(0, a1)] (st_Bd_mayPawnTake) rfl rfl ok_Bd_passedSquare rfl (Or.inl ⟨rfl, _, _, _, rfl, rfl⟩) (Nat.le_of_ble_eq_true rfl) (Nat.le_of_ble_eq_true rfl) rfl (Nat.le_of_ble_eq_true rfl) (C_Bd_passedSquare hq) ?_
    show jG E _ 24 [(0, (2, ((2 : Nat) : Int))), (1, (0, a1))] [(0, v3), (0, a1)] h _ _
    refine jT.if2 (st_Bd_mayPawnTake) rfl (tgt := 31) (by decide) (fun hc => ?_) (fun hc => ?_)
    · have hc : ¬ (a1 = v3) := hc
      try rw [if_neg hc] at hv
      refine jG.blk (st_Bd_mayPawnTake) 1 (pc1 := 32) (L1 := [(0, (2, ((2 : Nat) : Int))), (1, (0, a1))]) (st1 := [(0, 0)]) (h1 := h) rfl ?_
      cases hv
      exact jT.iret (st_Bd_mayPawnTake) rfl (Or.inl rfl)
    · have hc : a1 = v3 := Decidable.not_not.mp hc
      try rw [if_pos hc] at hv
      refine jG.blk (st_Bd_mayPawnTake) 1 (pc1 := 28) (L1 := [(0, (2, ((2 : Nat) : Int))), (1, (0, a1))]) (st1 := [(0, 1)]) (h1 := h) rfl ?_
      refine jT.goto (st_Bd_mayPawnTake) rfl (tgt := 32) (by decide) ?_
      cases hv
      exact jT.iret (st_Bd_mayPawnTake) rfl (Or.inr rfl)
def f_Bd_mayCastle_lp44 (h : jH) (x5 : Int) (x6 : Int) (k : Int → Option (Int)) : Nat → Int → Option (Int)
  | 0, _ => none
  | n + 1, l4 => if (if x5 < x6 then x6 else x5) ≤ l4 then k l4 else jgd (0 ≤ l4 ∧ l4 < 64) (if h 3 l4.toNat = 0 then f_Bd_mayCastle_lp44 h x5 x6 k n (jadd l4 1) else some 0)
def f_Bd_mayCastle_j97_75 (rc : Int → Option (Int)) (k : Int → Option (Int)) (h : jH) (x9 : Int) (x10 : Int) (l11 : Int) (s12 : Int) : Option (Int) := (f_X_otherSide h (h 2 1)).bind fun v13 => (f_Bd_attacksOn 2 h s12 v13).bind fun v14 => if jcmp v14 0 = 0 then rc (jadd l11 1) else some 0
def f_Bd_mayCastle_lp75 (h : jH) (x9 : Int) (x10 : Int) (k : Int → Option (Int)) : Nat → Int → Option (Int)
  | 0, _ => none
  | n + 1, l8 => if 2 < l8 then k l8 else f_Bd_mayCastle_j97_75 (f_Bd_mayCastle_lp75 h x9 x10 k n) k h x9 x10 l8 (if x10 ≤ x9 then jsub x9 l8 else jadd x9 l8)
def f_Bd_mayCastle (h : jH) (a1 : Int) : Option (Int) := (f_X_rightOf h (h 2 1) a1).bind fun v1 => if jand (h 2 2) v1 = 0 then some 0 else (f_X_kingHome h (h 2 1)).bind fun v2 => (f_X_rookHome h (h 2 1) a1).bind fun v3 => f_Bd_mayCastle_lp44 h v2 v3 (fun l7 => f_Bd_mayCastle_lp75 h v2 v3 (fun l15 => some 1) 1000 0) 1000 (jadd (if v3 < v2 then v3 else v2) 1)
set_option maxRecDepth 100000 in
set_option maxHeartbeats 4000000 in
theorem f_Bd_mayCastle_lp44_ok (E : jE) {h : jH} {x5 : Int} {x6 : Int} {k : Int → Option (Int)} (hk : ∀ (l4 : Int) (res : Int), k l4 = some res → jG E M_Bd_mayCastle 72 [(0, (2, ((2 : Nat) : Int))), (2, (0, x5)), (3, (0, x6))] [] h (some (0, res)) h) : ∀ (n : Nat) (l4 : Int) (res : Int), f_Bd_mayCastle_lp44 h x5 x6 k n l4 = some res → jG E M_Bd_mayCastle 44 [(0, (2, ((2 : Nat) : Int))), (2, (0, x5)), (3, (0, x6)), (4, (0, l4))] [] h (some (0, res)) h := by
  intro n
  induction n with
  | zero => intro l4 res hv; cases hv
  | succ n ih =>
    intro l4 res hv
    rw [f_Bd_mayCastle_lp44] at hv
    refine jG.blk (st_Bd_mayCastle) 3 (pc1 := 48) (L1 := [(0, (2, ((2 : Nat) : Int))), (2, (0, x5)), (3, (0, x6)), (4, (0, l4))]) (st1 := [(0, x6), (0, x5), (0, l4)]) (h1 := h) rfl ?_
    refine jT.mmax (a := x5) (b := x6) (rest := [(0, l4)]) (st_Bd_mayCastle) rfl (Nat.le_of_ble_eq_true rfl) (Nat.le_of_ble_eq_true rfl) (Nat.le_of_ble_eq_true rfl) ?_
    refine jT.if2 (st_Bd_mayCastle) rfl (tgt := 72) (by decide) (fun hc => ?_) (fun hc => ?_)
    · have hc : (if x5 < x6 then x6 else x5) ≤ l4 := hc
      try rw [if_pos hc] at hv
      refine jG.subp [0, 1, 2] (L1 := [(0, (2, ((2 : Nat) : Int))), (2, (0, x5)), (3, (0, x6))]) rfl ?_
      exact hk _ _ hv
    · have hc : ¬ ((if x5 < x6 then x6 else x5) ≤ l4) := hc
      try rw [if_neg hc] at hv
      refine jG.blk (st_Bd_mayCastle) 3 (pc1 := 60) (L1 := [(0, (2, ((2 : Nat) : Int))), (2, (0, x5)), (3, (0, x6)), (4, (0, l4))]) (st1 := [(0, l4), (2, ((3 : Nat) : Int))]) (h1 := h) rfl ?_
      obtain ⟨hg, hv⟩ := jgd_some hv
      refine jT.iald (a := 3) (st_Bd_mayCastle) rfl rfl (by decide) hg.1 hg.2 ?_
      refine jT.if1 (st_Bd_mayCastle) rfl (tgt := 66) (by decide) (fun hc => ?_) (fun hc => ?_)
      · have hc : h 3 l4.toNat = 0 := hc
        try rw [if_pos hc] at hv
        refine jG.blk (st_Bd_mayCastle) 1 (pc1 := 69) (L1 := [(4, (0, jadd l4 1)), (0, (2, ((2 : Nat) : Int))), (2, (0, x5)), (3, (0, x6))]) (st1 := []) (h1 := h) rfl ?_
        refine jT.goto (st_Bd_mayCastle) rfl (tgt := 44) (by decide) ?_
        refine jG.subp [1, 2, 3, 0] (L1 := [(0, (2, ((2 : Nat) : Int))), (2, (0, x5)), (3, (0, x6)), (4, (0, jadd l4 1))]) rfl ?_
        exact ih _ _ hv
      · have hc : ¬ (h 3 l4.toNat = 0) := hc
        try rw [if_neg hc] at hv
        refine jG.blk (st_Bd_mayCastle) 1 (pc1 := 65) (L1 := [(0, (2, ((2 : Nat) : Int))), (2, (0, x5)), (3, (0, x6)), (4, (0, l4))]) (st1 := [(0, 0)]) (h1 := h) rfl ?_
        cases hv
        exact jT.iret (st_Bd_mayCastle) rfl (Or.inl rfl)
set_option maxRecDepth 100000 in
set_option maxHeartbeats 4000000 in
theorem f_Bd_mayCastle_j97_75_ok (E : jE) {rc : Int → Option (Int)} {k : Int → Option (Int)} {h : jH} {x9 : Int} {x10 : Int} (hrc : ∀ (l8 : Int) (res : Int), rc l8 = some res → jG E M_Bd_mayCastle 75 [(0, (2, ((2 : Nat) : Int))), (2, (0, x9)), (3, (0, x10)), (4, (0, l8))] [] h (some (0, res)) h) (hk : ∀ (l8 : Int) (res : Int), k l8 = some res → jG E M_Bd_mayCastle 125 [] [] h (some (0, res)) h) {l11 : Int} {s12 : Int} {res : Int} (hv : f_Bd_mayCastle_j97_75 rc k h x9 x10 l11 s12 = some res) : jG E M_Bd_mayCastle 97 [(0, (2, ((2 : Nat) : Int))), (2, (0, x9)), (3, (0, x10)), (4, (0, l11))] [(0, s12)] h (some (0, res)) h := by
  unfold f_Bd_mayCastle_j97_75 at hv
  refine jG.blk (st_Bd_mayCastle) 5 (pc1 := 106) (L1 := [(5, (0, s12)), (0, (2, ((2 : Nat) : Int))), (2, (0, x9)), (3, (0, x10)), (4, (0, l11))]) (st1 := [(0, h 2 1), (0, s12), (2, ((2 : Nat) : Int))]) (h1 := h) rfl ?_
  obtain ⟨v13, hq, hv⟩ := Option.bind_eq_some_iff.mp hv
  refine jT.cSN (M1 := M_X_otherSide) [(0, h 2 1)] [(0, s12), (2, ((2 : Nat) : Int))] (st_Bd_mayCastle) rfl rfl ok_X_otherSide rfl (Nat.le_of_ble_eq_true rfl) (Nat.le_of_ble_eq_true rfl) rfl (Nat.le_of_ble_eq_true rfl) (C_X_otherSide hq) ?_
  show jG E _ 109 [(5, (0, s12)), (0, (2, ((2 : Nat) : Int))), (2, (0, x9)), (3, (0, x10)), (4, (0, l11))] [(0, v13), (0, s12), (2, ((2 : Nat) : Int))] h _ _
  obtain ⟨v14, hq, hv⟩ := Option.bind_eq_some_iff.mp hv
  refine jT.cV (M1 := M_Bd_attacksOn) (2, ((2 : Nat) : Int)) [(0, s12), (0, v13)] [] (st_Bd_mayCastle) rfl rfl ok_Bd_attacksOn rfl (Or.inl ⟨rfl, _, _, _, rfl, rfl⟩) (Nat.le_of_ble_eq_true rfl) (Nat.le_of_ble_eq_true rfl) rfl (Nat.le_of_ble_eq_true rfl) (C_Bd_attacksOn (by decide) hq) ?_
  show jG E _ 112 [(5, (0, s12)), (0, (2, ((2 : Nat) : Int))), (2, (0, x9)), (3, (0, x10)), (4, (0, l11))] [(1, v14)] h _ _
  refine jG.blk (st_Bd_mayCastle) 2 (pc1 := 114) (L1 := [(5, (0, s12)), (0, (2, ((2 : Nat) : Int))), (2, (0, x9)), (3, (0, x10)), (4, (0, l11))]) (st1 := [(0, jcmp v14 0)]) (h1 := h) rfl ?_
  refine jT.if1 (st_Bd_mayCastle) rfl (tgt := 119) (by decide) (fun hc => ?_) (fun hc => ?_)
  · have hc : jcmp v14 0 = 0 := hc
    try rw [if_pos hc] at hv
    refine jG.blk (st_Bd_mayCastle) 1 (pc1 := 122) (L1 := [(4, (0, jadd l11 1)), (5, (0, s12)), (0, (2, ((2 : Nat) : Int))), (2, (0, x9)), (3, (0, x10))]) (st1 := []) (h1 := h) rfl ?_
    refine jT.goto (st_Bd_mayCastle) rfl (tgt := 75) (by decide) ?_
    refine jG.subp [2, 3, 4, 0] (L1 := [(0, (2, ((2 : Nat) : Int))), (2, (0, x9)), (3, (0, x10)), (4, (0, jadd l11 1))]) rfl ?_
    exact hrc _ _ hv
  · have hc : ¬ (jcmp v14 0 = 0) := hc
    try rw [if_neg hc] at hv
    refine jG.blk (st_Bd_mayCastle) 1 (pc1 := 118) (L1 := [(5, (0, s12)), (0, (2, ((2 : Nat) : Int))), (2, (0, x9)), (3, (0, x10)), (4, (0, l11))]) (st1 := [(0, 0)]) (h1 := h) rfl ?_
    cases hv
    exact jT.iret (st_Bd_mayCastle) rfl (Or.inl rfl)
set_option maxRecDepth 100000 in
set_option maxHeartbeats 4000000 in
theorem f_Bd_mayCastle_lp75_ok (E : jE) {h : jH} {x9 : Int} {x10 : Int} {k : Int → Option (Int)} (hk : ∀ (l8 : Int) (res : Int), k l8 = some res → jG E M_Bd_mayCastle 125 [] [] h (some (0, res)) h) : ∀ (n : Nat) (l8 : Int) (res : Int), f_Bd_mayCastle_lp75 h x9 x10 k n l8 = some res → jG E M_Bd_mayCastle 75 [(0, (2, ((2 : Nat) : Int))), (2, (0, x9)), (3, (0, x10)), (4, (0, l8))] [] h (some (0, res)) h := by
  intro n
  induction n with
  | zero => intro l8 res hv; cases hv
  | succ n ih =>
    intro l8 res hv
    rw [f_Bd_mayCastle_lp75] at hv
    refine jG.blk (st_Bd_mayCastle) 2 (pc1 := 78) (L1 := [(0, (2, ((2 : Nat) : Int))), (2, (0, x9)), (3, (0, x10)), (4, (0, l8))]) (st1 := [(0, 2), (0, l8)]) (h1 := h) rfl ?_
    refine jT.if2 (st_Bd_mayCastle) rfl (tgt := 125) (by decide) (fun hc => ?_) (fun hc => ?_)
    · have hc : 2 < l8 := hc
      try rw [if_pos hc] at hv
      refine jG.subp [] (L1 := []) rfl ?_
      exact hk _ _ hv
    · have hc : ¬ (2 < l8) := hc
      try rw [if_neg hc] at hv
      refine jG.blk (st_Bd_mayCastle) 2 (pc1 := 83) (L1 := [(0, (2, ((2 : Nat) : Int))), (2, (0, x9)), (3, (0, x10)), (4, (0, l8))]) (st1 := [(0, x9), (0, x10)]) (h1 := h) rfl ?_
      refine jT.if2 (st_Bd_mayCastle) rfl (tgt := 93) (by decide) (fun hc => ?_) (fun hc => ?_)
      · have hc : x10 ≤ x9 := hc
        try rw [if_pos hc] at hv
        refine jG.blk (st_Bd_mayCastle) 3 (pc1 := 97) (L1 := [(0, (2, ((2 : Nat) : Int))), (2, (0, x9)), (3, (0, x10)), (4, (0, l8))]) (st1 := [(0, jsub x9 l8)]) (h1 := h) rfl ?_
        exact f_Bd_mayCastle_j97_75_ok E ih hk hv
      · have hc : ¬ (x10 ≤ x9) := hc
        try rw [if_neg hc] at hv
        refine jG.blk (st_Bd_mayCastle) 3 (pc1 := 90) (L1 := [(0, (2, ((2 : Nat) : Int))), (2, (0, x9)), (3, (0, x10)), (4, (0, l8))]) (st1 := [(0, jadd x9 l8)]) (h1 := h) rfl ?_
        refine jT.goto (st_Bd_mayCastle) rfl (tgt := 97) (by decide) ?_
        exact f_Bd_mayCastle_j97_75_ok E ih hk hv
set_option maxRecDepth 100000 in
set_option maxHeartbeats 4000000 in
theorem C_Bd_mayCastle {E : jE} {h : jH} {a1 : Int} {res : Int} (hv : f_Bd_mayCastle h a1 = some res) : jC E M_Bd_mayCastle [(2, ((2 : Nat) : Int)), (0, a1)] h (some (0, res)) h := by
  refine jC.of ok_Bd_mayCastle.1 (by rw [jlg]; exact Nat.le_of_ble_eq_true rfl) ?_
  show jG E _ 0 [(0, (2, ((2 : Nat) : Int))), (1, (0, a1))] [] h _ _
  unfold f_Bd_mayCastle at hv
  refine jG.blk (st_Bd_mayCastle) 5 (pc1 := 9) (L1 := [(0, (2, ((2 : Nat) : Int))), (1, (0, a1))]) (st1 := [(0, a1), (0, h 2 1), (0, h 2 2)]) (h1 := h) rfl ?_
  obtain ⟨v1, hq, hv⟩ := Option.bind_eq_some_iff.mp hv
  refine jT.cSN (M1 := M_X_rightOf) [(0, h 2 1), (0, a1)] [(0, h 2 2)] (st_Bd_mayCastle) rfl rfl ok_X_rightOf rfl (Nat.le_of_ble_eq_true rfl) (Nat.le_of_ble_eq_true rfl) rfl (Nat.le_of_ble_eq_true rfl) (C_X_rightOf hq) ?_
  show jG E _ 12 [(0, (2, ((2 : Nat) : Int))), (1, (0, a1))] [(0, v1), (0, h 2 2)] h _ _
  refine jG.blk (st_Bd_mayCastle) 1 (pc1 := 13) (L1 := [(0, (2, ((2 : Nat) : Int))), (1, (0, a1))]) (st1 := [(0, jand (h 2 2) v1)]) (h1 := h) rfl ?_
  refine jT.if1 (st_Bd_mayCastle) rfl (tgt := 18) (by decide) (fun hc => ?_) (fun hc => ?_)
  · have hc : ¬ (jand (h 2 2) v1 = 0) := hc
    try rw [if_neg hc] at hv
    refine jG.blk (st_Bd_mayCastle) 2 (pc1 := 22) (L1 := [(0, (2, ((2 : Nat) : Int))), (1, (0, a1))]) (st1 := [(0, h 2 1)]) (h1 := h) rfl ?_
    obtain ⟨v2, hq, hv⟩ := Option.bind_eq_some_iff.mp hv
    refine jT.cSN (M1 := M_X_kingHome) [(0, h 2 1)] [] (st_Bd_mayCastle) rfl rfl ok_X_kingHome rfl (Nat.le_of_ble_eq_true rfl) (Nat.le_of_ble_eq_true rfl) rfl (Nat.le_of_ble_eq_true rfl) (C_X_kingHome hq) ?_
    show jG E _ 25 [(0, (2, ((2 : Nat) : Int))), (1, (0, a1))] [(0, v2)] h _ _
    refine jG.blk (st_Bd_mayCastle) 4 (pc1 := 31) (L1 := [(2, (0, v2)), (0, (2, ((2 : Nat) : Int))), (1, (0, a1))]) (st1 := [(0, a1), (0, h 2 1)]) (h1 := h) rfl ?_
    obtain ⟨v3, hq, hv⟩ := Option.bind_eq_some_iff.mp hv
    refine jT.cSN (M1 := M_X_rookHome) [(0, h 2 1), (0, a1)] [] (st_Bd_mayCastle) rfl rfl ok_X_rookHome rfl (Nat.le_of_ble_eq_true rfl) (Nat.le_of_ble_eq_true rfl) rfl (Nat.le_of_ble_eq_true rfl) (C_X_rookHome hq) ?_
    show jG E _ 34 [(2, (0, v2)), (0, (2, ((2 : Nat) : Int))), (1, (0, a1))] [(0, v3)] h _ _
    refine jG.blk (st_Bd_mayCastle) 3 (pc1 := 37) (L1 := [(3, (0, v3)), (2, (0, v2)), (0, (2, ((2 : Nat) : Int))), (1, (0, a1))]) (st1 := [(0, v3), (0, v2)]) (h1 := h) rfl ?_
    refine jT.mmin (a := v2) (b := v3) (rest := []) (st_Bd_mayCastle) rfl (Nat.le_of_ble_eq_true rfl) (Nat.le_of_ble_eq_true rfl) (Nat.le_of_ble_eq_true rfl) ?_
    refine jG.blk (st_Bd_mayCastle) 3 (pc1 := 44) (L1 := [(4, (0, jadd (if v3 < v2 then v3 else v2) 1)), (3, (0, v3)), (2, (0, v2)), (0, (2, ((2 : Nat) : Int))), (1, (0, a1))]) (st1 := []) (h1 := h) rfl ?_
    refine jG.subp [3, 2, 1, 0] (L1 := [(0, (2, ((2 : Nat) : Int))), (2, (0, v2)), (3, (0, v3)), (4, (0, jadd (if v3 < v2 then v3 else v2) 1))]) rfl ?_
    refine f_Bd_mayCastle_lp44_ok E (fun l7 res hv => ?_) 1000 _ _ hv
    · refine jG.blk (st_Bd_mayCastle) 2 (pc1 := 75) (L1 := [(4, (0, 0)), (0, (2, ((2 : Nat) : Int))), (2, (0, v2)), (3, (0, v3))]) (st1 := []) (h1 := h) rfl ?_
      refine jG.subp [1, 2, 3, 0] (L1 := [(0, (2, ((2 : Nat) : Int))), (2, (0, v2)), (3, (0, v3)), (4, (0, 0))]) rfl ?_
      refine f_Bd_mayCastle_lp75_ok E (fun l15 res hv => ?_) 1000 _ _ hv
      · refine jG.blk (st_Bd_mayCastle) 1 (pc1 := 126) (L1 := []) (st1 := [(0, 1)]) (h1 := h) rfl ?_
        cases hv
        exact jT.iret (st_Bd_mayCastle) rfl (Or.inr rfl)
  · have hc : jand (h 2 2) v1 = 0 := Decidable.not_not.mp hc
    try rw [if_pos hc] at hv
    refine jG.blk (st_Bd_mayCastle) 1 (pc1 := 17) (L1 := [(0, (2, ((2 : Nat) : Int))), (1, (0, a1))]) (st1 := [(0, 0)]) (h1 := h) rfl ?_
    cases hv
    exact jT.iret (st_Bd_mayCastle) rfl (Or.inl rfl)
def f_Bd_isBare_j48_4 (rc : Int → Int → Option (Int)) (k : Int → Int → Option (Int)) (h : jH) (l4 : Int) (s5 : Int) : Option (Int) := rc (jadd s5 1) (jadd l4 1)
def f_Bd_isBare_lp4 (h : jH) (k : Int → Int → Option (Int)) : Nat → Int → Int → Option (Int)
  | 0, _, _ => none
  | n + 1, l1, l2 => if 64 ≤ l2 then k l1 l2 else jgd (0 ≤ l2 ∧ l2 < 64) ((f_X_kindOf h (h 3 l2.toNat)).bind fun v3 => if v3 = 1 then some 0 else if v3 = 4 then some 0 else if v3 = 5 then some 0 else if v3 = 2 then f_Bd_isBare_j48_4 (f_Bd_isBare_lp4 h k n) k h l2 l1 else if v3 = 3 then f_Bd_isBare_j48_4 (f_Bd_isBare_lp4 h k n) k h l2 l1 else f_Bd_isBare_lp4 h k n (jadd l1 0) (jadd l2 1))
def f_Bd_isBare (h : jH) : Option (Int) := f_Bd_isBare_lp4 h (fun l6 l7 => some (if 1 < l6 then 0 else 1)) 1000 0 0
set_option maxRecDepth 100000 in
set_option maxHeartbeats 4000000 in
theorem f_Bd_isBare_j48_4_ok (E : jE) {rc : Int → Int → Option (Int)} {k : Int → Int → Option (Int)} {h : jH} (hrc : ∀ (l1 : Int) (l2 : Int) (res : Int), rc l1 l2 = some res → jG E M_Bd_isBare 4 [(0, (2, ((2 : Nat) : Int))), (1, (0, l1)), (2, (0, l2))] [] h (some (0, res)) h) (hk : ∀ (l1 : Int) (l2 : Int) (res : Int), k l1 l2 = some res → jG E M_Bd_isBare 61 [(1, (0, l1))] [] h (some (0, res)) h) {l4 : Int} {s5 : Int} {res : Int} (hv : f_Bd_isBare_j48_4 rc k h l4 s5 = some res) : jG E M_Bd_isBare 48 [(0, (2, ((2 : Nat) : Int))), (2, (0, l4))] [(0, s5)] h (some (0, res)) h := by
  unfold f_Bd_isBare_j48_4 at hv
  refine jG.blk (st_Bd_isBare) 1 (pc1 := 49) (L1 := [(0, (2, ((2 : Nat) : Int))), (2, (0, l4))]) (st1 := [(0, 1), (0, s5)]) (h1 := h) rfl ?_
  refine jT.goto (st_Bd_isBare) rfl (tgt := 53) (by decide) ?_
  refine jG.blk (st_Bd_isBare) 3 (pc1 := 58) (L1 := [(2, (0, jadd l4 1)), (1, (0, jadd s5 1)), (0, (2, ((2 : Nat) : Int)))]) (st1 := []) (h1 := h) rfl ?_
  refine jT.goto (st_Bd_isBare) rfl (tgt := 4) (by decide) ?_
  refine jG.subp [2, 1, 0] (L1 := [(0, (2, ((2 : Nat) : Int))), (1, (0, jadd s5 1)), (2, (0, jadd l4 1))]) rfl ?_
  exact hrc _ _ _ hv
set_option maxRecDepth 100000 in
set_option maxHeartbeats 4000000 in
theorem f_Bd_isBare_lp4_ok (E : jE) {h : jH} {k : Int → Int → Option (Int)} (hk : ∀ (l1 : Int) (l2 : Int) (res : Int), k l1 l2 = some res → jG E M_Bd_isBare 61 [(1, (0, l1))] [] h (some (0, res)) h) : ∀ (n : Nat) (l1 : Int) (l2 : Int) (res : Int), f_Bd_isBare_lp4 h k n l1 l2 = some res → jG E M_Bd_isBare 4 [(0, (2, ((2 : Nat) : Int))), (1, (0, l1)), (2, (0, l2))] [] h (some (0, res)) h := by
  intro n
  induction n with
  | zero => intro l1 l2 res hv; cases hv
  | succ n ih =>
    intro l1 l2 res hv
    rw [f_Bd_isBare_lp4] at hv
    refine jG.blk (st_Bd_isBare) 2 (pc1 := 7) (L1 := [(0, (2, ((2 : Nat) : Int))), (1, (0, l1)), (2, (0, l2))]) (st1 := [(0, 64), (0, l2)]) (h1 := h) rfl ?_
    refine jT.if2 (st_Bd_isBare) rfl (tgt := 61) (by decide) (fun hc => ?_) (fun hc => ?_)
    · have hc : 64 ≤ l2 := hc
      try rw [if_pos hc] at hv
      refine jG.subp [1] (L1 := [(1, (0, l1))]) rfl ?_
      exact hk _ _ _ hv
    · have hc : ¬ (64 ≤ l2) := hc
      try rw [if_neg hc] at hv
      refine jG.blk (st_Bd_isBare) 3 (pc1 := 15) (L1 := [(0, (2, ((2 : Nat) : Int))), (1, (0, l1)), (2, (0, l2))]) (st1 := [(0, l2), (2, ((3 : Nat) : Int))]) (h1 := h) rfl ?_
      obtain ⟨hg, hv⟩ := jgd_some hv
      refine jT.iald (a := 3) (st_Bd_isBare) rfl rfl (by decide) hg.1 hg.2 ?_
      obtain ⟨v3, hq, hv⟩ := Option.bind_eq_some_iff.mp hv
      refine jT.cSN (M1 := M_X_kindOf) [(0, h 3 l2.toNat)] [] (st_Bd_isBare) rfl rfl ok_X_kindOf rfl (Nat.le_of_ble_eq_true rfl) (Nat.le_of_ble_eq_true rfl) rfl (Nat.le_of_ble_eq_true rfl) (C_X_kindOf hq) ?_
      show jG E _ 19 [(0, (2, ((2 : Nat) : Int))), (1, (0, l1)), (2, (0, l2))] [(0, v3)] h _ _
      refine jG.blk (st_Bd_isBare) 3 (pc1 := 22) (L1 := [(3, (0, v3)), (0, (2, ((2 : Nat) : Int))), (1, (0, l1)), (2, (0, l2))]) (st1 := [(0, 1), (0, v3)]) (h1 := h) rfl ?_
      refine jT.if2 (st_Bd_isBare) rfl (tgt := 35) (by decide) (fun hc => ?_) (fun hc => ?_)
      · have hc : v3 = 1 := hc
        try rw [if_pos hc] at hv
        refine jG.blk (st_Bd_isBare) 1 (pc1 := 36) (L1 := [(3, (0, v3)), (0, (2, ((2 : Nat) : Int))), (1, (0, l1)), (2, (0, l2))]) (st1 := [(0, 0)]) (h1 := h) rfl ?_
        cases hv
        exact jT.iret (st_Bd_isBare) rfl (Or.inl rfl)
      · have hc : ¬ (v3 = 1) := hc
        try rw [if_neg hc] at hv
        refine jG.blk (st_Bd_isBare) 2 (pc1 := 27) (L1 := [(3, (0, v3)), (0, (2, ((2 : Nat) : Int))), (1, (0, l1)), (2, (0, l2))]) (st1 := [(0, 4), (0, v3)]) (h1 := h) rfl ?_
        refine jT.if2 (st_Bd_isBare) rfl (tgt := 35) (by decide) (fun hc => ?_) (fun hc => ?_)
        · have hc : v3 = 4 := hc
          try rw [if_pos hc] at hv
          refine jG.blk (st_Bd_isBare) 1 (pc1 := 36) (L1 := [(3, (0, v3)), (0, (2, ((2 : Nat) : Int))), (1, (0, l1)), (2, (0, l2))]) (st1 := [(0, 0)]) (h1 := h) rfl ?_
          cases hv
          exact jT.iret (st_Bd_isBare) rfl (Or.inl rfl)
        · have hc : ¬ (v3 = 4) := hc
          try rw [if_neg hc] at hv
          refine jG.blk (st_Bd_isBare) 2 (pc1 := 32) (L1 := [(3, (0, v3)), (0, (2, ((2 : Nat) : Int))), (1, (0, l1)), (2, (0, l2))]) (st1 := [(0, 5), (0, v3)]) (h1 := h) rfl ?_
          refine jT.if2 (st_Bd_isBare) rfl (tgt := 37) (by decide) (fun hc => ?_) (fun hc => ?_)
          · have hc : ¬ (v3 = 5) := hc
            try rw [if_neg hc] at hv
            refine jG.blk (st_Bd_isBare) 3 (pc1 := 40) (L1 := [(3, (0, v3)), (0, (2, ((2 : Nat) : Int))), (1, (0, l1)), (2, (0, l2))]) (st1 := [(0, 2), (0, v3), (0, l1)]) (h1 := h) rfl ?_
            refine jT.if2 (st_Bd_isBare) rfl (tgt := 48) (by decide) (fun hc => ?_) (fun hc => ?_)
            · have hc : v3 = 2 := hc
              try rw [if_pos hc] at hv
              refine jG.subp [1, 3] (L1 := [(0, (2, ((2 : Nat) : Int))), (2, (0, l2))]) rfl ?_
              exact f_Bd_isBare_j48_4_ok E ih hk hv
            · have hc : ¬ (v3 = 2) := hc
              try rw [if_neg hc] at hv
              refine jG.blk (st_Bd_isBare) 2 (pc1 := 45) (L1 := [(3, (0, v3)), (0, (2, ((2 : Nat) : Int))), (1, (0, l1)), (2, (0, l2))]) (st1 := [(0, 3), (0, v3), (0, l1)]) (h1 := h) rfl ?_
              refine jT.if2 (st_Bd_isBare) rfl (tgt := 52) (by decide) (fun hc => ?_) (fun hc => ?_)
              · have hc : ¬ (v3 = 3) := hc
                try rw [if_neg hc] at hv
                refine jG.blk (st_Bd_isBare) 4 (pc1 := 58) (L1 := [(2, (0, jadd l2 1)), (1, (0, jadd l1 0)), (3, (0, v3)), (0, (2, ((2 : Nat) : Int)))]) (st1 := []) (h1 := h) rfl ?_
                refine jT.goto (st_Bd_isBare) rfl (tgt := 4) (by decide) ?_
                refine jG.subp [3, 1, 0] (L1 := [(0, (2, ((2 : Nat) : Int))), (1, (0, jadd l1 0)), (2, (0, jadd l2 1))]) rfl ?_
                exact ih _ _ _ hv
              · have hc : v3 = 3 := Decidable.not_not.mp hc
                try rw [if_pos hc] at hv
                refine jG.subp [1, 3] (L1 := [(0, (2, ((2 : Nat) : Int))), (2, (0, l2))]) rfl ?_
                exact f_Bd_isBare_j48_4_ok E ih hk hv
          · have hc : v3 = 5 := Decidable.not_not.mp hc
            try rw [if_pos hc] at hv
            refine jG.blk (st_Bd_isBare) 1 (pc1 := 36) (L1 := [(3, (0, v3)), (0, (2, ((2 : Nat) : Int))), (1, (0, l1)), (2, (0, l2))]) (st1 := [(0, 0)]) (h1 := h) rfl ?_
            cases hv
            exact jT.iret (st_Bd_isBare) rfl (Or.inl rfl)
set_option maxRecDepth 100000 in
set_option maxHeartbeats 4000000 in
theorem C_Bd_isBare {E : jE} {h : jH} {res : Int} (hv : f_Bd_isBare h = some res) : jC E M_Bd_isBare [(2, ((2 : Nat) : Int))] h (some (0, res)) h := by
  refine jC.of ok_Bd_isBare.1 (by rw [jlg]; exact Nat.le_of_ble_eq_true rfl) ?_
  show jG E _ 0 [(0, (2, ((2 : Nat) : Int)))] [] h _ _
  unfold f_Bd_isBare at hv
  refine jG.blk (st_Bd_isBare) 4 (pc1 := 4) (L1 := [(2, (0, 0)), (1, (0, 0)), (0, (2, ((2 : Nat) : Int)))]) (st1 := []) (h1 := h) rfl ?_
  refine jG.subp [2, 1, 0] (L1 := [(0, (2, ((2 : Nat) : Int))), (1, (0, 0)), (2, (0, 0))]) rfl ?_
  refine f_Bd_isBare_lp4_ok E (fun l6 l7 res hv => ?_) 1000 _ _ _ hv
  · refine jG.blk (st_Bd_isBare) 2 (pc1 := 63) (L1 := [(1, (0, l6))]) (st1 := [(0, 1), (0, l6)]) (h1 := h) rfl ?_
    refine jT.if2 (st_Bd_isBare) rfl (tgt := 70) (by decide) (fun hc => ?_) (fun hc => ?_)
    · have hc : 1 < l6 := hc
      try rw [if_pos hc] at hv
      refine jG.blk (st_Bd_isBare) 1 (pc1 := 71) (L1 := [(1, (0, l6))]) (st1 := [(0, 0)]) (h1 := h) rfl ?_
      cases hv
      exact jT.iret (st_Bd_isBare) rfl (Or.inl rfl)
    · have hc : ¬ (1 < l6) := hc
      try rw [if_neg hc] at hv
      refine jG.blk (st_Bd_isBare) 1 (pc1 := 67) (L1 := [(1, (0, l6))]) (st1 := [(0, 1)]) (h1 := h) rfl ?_
      refine jT.goto (st_Bd_isBare) rfl (tgt := 71) (by decide) ?_
      cases hv
      exact jT.iret (st_Bd_isBare) rfl (Or.inr rfl)
def f_Bd_isLike_lp2 (h : jH) (k : Int → Option (Int)) : Nat → Int → Option (Int)
  | 0, _ => none
  | n + 1, l1 => if 64 ≤ l1 then k l1 else jgd (0 ≤ l1 ∧ l1 < 64) (jgd (0 ≤ l1 ∧ l1 < 64) (if h 3 l1.toNat = h 21 l1.toNat then f_Bd_isLike_lp2 h k n (jadd l1 1) else some 0))
def f_Bd_isLike (h : jH) : Option (Int) := f_Bd_isLike_lp2 h (fun l2 => some (if h 2 1 = h 20 1 then if h 2 2 = h 20 2 then if h 2 3 = h 20 3 then if h 2 4 = h 20 4 then 1 else 0 else 0 else 0 else 0)) 1000 0
set_option maxRecDepth 100000 in
set_option maxHeartbeats 4000000 in
theorem f_Bd_isLike_lp2_ok (E : jE) {h : jH} {k : Int → Option (Int)} (hk : ∀ (l1 : Int) (res : Int), k l1 = some res → jG E M_Bd_isLike 31 [(0, (2, ((2 : Nat) : Int))), (1, (2, ((20 : Nat) : Int)))] [] h (some (0, res)) h) : ∀ (n : Nat) (l1 : Int) (res : Int), f_Bd_isLike_lp2 h k n l1 = some res → jG E M_Bd_isLike 2 [(0, (2, ((2 : Nat) : Int))), (1, (2, ((20 : Nat) : Int))), (2, (0, l1))] [] h (some (0, res)) h := by
  intro n
  induction n with
  | zero => intro l1 res hv; cases hv
  | succ n ih =>
    intro l1 res hv
    rw [f_Bd_isLike_lp2] at hv
    refine jG.blk (st_Bd_isLike) 2 (pc1 := 5) (L1 := [(0, (2, ((2 : Nat) : Int))), (1, (2, ((20 : Nat) : Int))), (2, (0, l1))]) (st1 := [(0, 64), (0, l1)]) (h1 := h) rfl ?_
    refine jT.if2 (st_Bd_isLike) rfl (tgt := 31) (by decide) (fun hc => ?_) (fun hc => ?_)
    · have hc : 64 ≤ l1 := hc
      try rw [if_pos hc] at hv
      refine jG.subp [0, 1] (L1 := [(0, (2, ((2 : Nat) : Int))), (1, (2, ((20 : Nat) : Int)))]) rfl ?_
      exact hk _ _ hv
    · have hc : ¬ (64 ≤ l1) := hc
      try rw [if_neg hc] at hv
      refine jG.blk (st_Bd_isLike) 3 (pc1 := 13) (L1 := [(0, (2, ((2 : Nat) : Int))), (1, (2, ((20 : Nat) : Int))), (2, (0, l1))]) (st1 := [(0, l1), (2, ((3 : Nat) : Int))]) (h1 := h) rfl ?_
      obtain ⟨hg, hv⟩ := jgd_some hv
      refine jT.iald (a := 3) (st_Bd_isLike) rfl rfl (by decide) hg.1 hg.2 ?_
      refine jG.blk (st_Bd_isLike) 3 (pc1 := 19) (L1 := [(0, (2, ((2 : Nat) : Int))), (1, (2, ((20 : Nat) : Int))), (2, (0, l1))]) (st1 := [(0, l1), (2, ((21 : Nat) : Int)), (0, h 3 l1.toNat)]) (h1 := h) rfl ?_
      obtain ⟨hg, hv⟩ := jgd_some hv
      refine jT.iald (a := 21) (st_Bd_isLike) rfl rfl (by decide) hg.1 hg.2 ?_
      refine jT.if2 (st_Bd_isLike) rfl (tgt := 25) (by decide) (fun hc => ?_) (fun hc => ?_)
      · have hc : h 3 l1.toNat = h 21 l1.toNat := hc
        try rw [if_pos hc] at hv
        refine jG.blk (st_Bd_isLike) 1 (pc1 := 28) (L1 := [(2, (0, jadd l1 1)), (0, (2, ((2 : Nat) : Int))), (1, (2, ((20 : Nat) : Int)))]) (st1 := []) (h1 := h) rfl ?_
        refine jT.goto (st_Bd_isLike) rfl (tgt := 2) (by decide) ?_
        refine jG.subp [1, 2, 0] (L1 := [(0, (2, ((2 : Nat) : Int))), (1, (2, ((20 : Nat) : Int))), (2, (0, jadd l1 1))]) rfl ?_
        exact ih _ _ hv
      · have hc : ¬ (h 3 l1.toNat = h 21 l1.toNat) := hc
        try rw [if_neg hc] at hv
        refine jG.blk (st_Bd_isLike) 1 (pc1 := 24) (L1 := [(0, (2, ((2 : Nat) : Int))), (1, (2, ((20 : Nat) : Int))), (2, (0, l1))]) (st1 := [(0, 0)]) (h1 := h) rfl ?_
        cases hv
        exact jT.iret (st_Bd_isLike) rfl (Or.inl rfl)
set_option maxRecDepth 100000 in
set_option maxHeartbeats 4000000 in
theorem C_Bd_isLike {E : jE} {h : jH} {res : Int} (hv : f_Bd_isLike h = some res) : jC E M_Bd_isLike [(2, ((2 : Nat) : Int)), (2, ((20 : Nat) : Int))] h (some (0, res)) h := by
  refine jC.of ok_Bd_isLike.1 (by rw [jlg]; exact Nat.le_of_ble_eq_true rfl) ?_
  show jG E _ 0 [(0, (2, ((2 : Nat) : Int))), (1, (2, ((20 : Nat) : Int)))] [] h _ _
  unfold f_Bd_isLike at hv
  refine jG.blk (st_Bd_isLike) 2 (pc1 := 2) (L1 := [(2, (0, 0)), (0, (2, ((2 : Nat) : Int))), (1, (2, ((20 : Nat) : Int)))]) (st1 := []) (h1 := h) rfl ?_
  refine jG.subp [1, 2, 0] (L1 := [(0, (2, ((2 : Nat) : Int))), (1, (2, ((20 : Nat) : Int))), (2, (0, 0))]) rfl ?_
  refine f_Bd_isLike_lp2_ok E (fun l2 res hv => ?_) 1000 _ _ hv
  · refine jG.blk (st_Bd_isLike) 4 (pc1 := 39) (L1 := [(0, (2, ((2 : Nat) : Int))), (1, (2, ((20 : Nat) : Int)))]) (st1 := [(0, h 20 1), (0, h 2 1)]) (h1 := h) rfl ?_
    refine jT.if2 (st_Bd_isLike) rfl (tgt := 79) (by decide) (fun hc => ?_) (fun hc => ?_)
    · have hc : ¬ (h 2 1 = h 20 1) := hc
      try rw [if_neg hc] at hv
      refine jG.blk (st_Bd_isLike) 1 (pc1 := 80) (L1 := [(0, (2, ((2 : Nat) : Int))), (1, (2, ((20 : Nat) : Int)))]) (st1 := [(0, 0)]) (h1 := h) rfl ?_
      cases hv
      exact jT.iret (st_Bd_isLike) rfl (Or.inl rfl)
    · have hc : h 2 1 = h 20 1 := Decidable.not_not.mp hc
      try rw [if_pos hc] at hv
      refine jG.blk (st_Bd_isLike) 4 (pc1 := 50) (L1 := [(0, (2, ((2 : Nat) : Int))), (1, (2, ((20 : Nat) : Int)))]) (st1 := [(0, h 20 2), (0, h 2 2)]) (h1 := h) rfl ?_
      refine jT.if2 (st_Bd_isLike) rfl (tgt := 79) (by decide) (fun hc => ?_) (fun hc => ?_)
      · have hc : ¬ (h 2 2 = h 20 2) := hc
        try rw [if_neg hc] at hv
        refine jG.blk (st_Bd_isLike) 1 (pc1 := 80) (L1 := [(0, (2, ((2 : Nat) : Int))), (1, (2, ((20 : Nat) : Int)))]) (st1 := [(0, 0)]) (h1 := h) rfl ?_
        cases hv
        exact jT.iret (st_Bd_isLike) rfl (Or.inl rfl)
      · have hc : h 2 2 = h 20 2 := Decidable.not_not.mp hc
        try rw [if_pos hc] at hv
        refine jG.blk (st_Bd_isLike) 4 (pc1 := 61) (L1 := [(0, (2, ((2 : Nat) : Int))), (1, (2, ((20 : Nat) : Int)))]) (st1 := [(0, h 20 3), (0, h 2 3)]) (h1 := h) rfl ?_
        refine jT.if2 (st_Bd_isLike) rfl (tgt := 79) (by decide) (fun hc => ?_) (fun hc => ?_)
        · have hc : ¬ (h 2 3 = h 20 3) := hc
          try rw [if_neg hc] at hv
          refine jG.blk (st_Bd_isLike) 1 (pc1 := 80) (L1 := [(0, (2, ((2 : Nat) : Int))), (1, (2, ((20 : Nat) : Int)))]) (st1 := [(0, 0)]) (h1 := h) rfl ?_
          cases hv
          exact jT.iret (st_Bd_isLike) rfl (Or.inl rfl)
        · have hc : h 2 3 = h 20 3 := Decidable.not_not.mp hc
          try rw [if_pos hc] at hv
          refine jG.blk (st_Bd_isLike) 4 (pc1 := 72) (L1 := [(0, (2, ((2 : Nat) : Int))), (1, (2, ((20 : Nat) : Int)))]) (st1 := [(0, h 20 4), (0, h 2 4)]) (h1 := h) rfl ?_
          refine jT.if2 (st_Bd_isLike) rfl (tgt := 79) (by decide) (fun hc => ?_) (fun hc => ?_)
          · have hc : ¬ (h 2 4 = h 20 4) := hc
            try rw [if_neg hc] at hv
            refine jG.blk (st_Bd_isLike) 1 (pc1 := 80) (L1 := [(0, (2, ((2 : Nat) : Int))), (1, (2, ((20 : Nat) : Int)))]) (st1 := [(0, 0)]) (h1 := h) rfl ?_
            cases hv
            exact jT.iret (st_Bd_isLike) rfl (Or.inl rfl)
          · have hc : h 2 4 = h 20 4 := Decidable.not_not.mp hc
            try rw [if_pos hc] at hv
            refine jG.blk (st_Bd_isLike) 1 (pc1 := 76) (L1 := [(0, (2, ((2 : Nat) : Int))), (1, (2, ((20 : Nat) : Int)))]) (st1 := [(0, 1)]) (h1 := h) rfl ?_
            refine jT.goto (st_Bd_isLike) rfl (tgt := 80) (by decide) ?_
            cases hv
            exact jT.iret (st_Bd_isLike) rfl (Or.inr rfl)
end
