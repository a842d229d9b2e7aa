section
-- ===== PART A: goes FIRST, ahead of the names: the tables' words, and 'selects' of the private methods out of them =====
/-- a private method of a class that the tables say can be made, by its rows of tables_1 -/
def lw_okq (q : MethodName × Nat) : Prop := (q.1.cls ≠ "java/lang/invoke/MethodHandle" ∧ q.1.cls ≠ "java/lang/invoke/VarHandle") ∧ Cond.instantiable q.1.cls q.2 ∈ tables_1 ∧ Cond.privateMethod q.1 ∈ tables_1 ∧ Cond.instanceMethod q.1 ∈ tables_1
theorem lw_p0 : lw_okq (⟨"BorrowedHats", "openColoursOf", "(I)V"⟩, 10) := ⟨⟨by decide +kernel, by decide +kernel⟩, List.mem_of_getElem? (i := 13) (by decide +kernel), List.mem_of_getElem? (i := 78) (by decide +kernel), List.mem_of_getElem? (i := 79) (by decide +kernel)⟩
theorem lw_p1 : lw_okq (⟨"BorrowedHats", "countCertain", "(LBorrowedHats$Ways;)I"⟩, 10) := ⟨⟨by decide +kernel, by decide +kernel⟩, List.mem_of_getElem? (i := 13) (by decide +kernel), List.mem_of_getElem? (i := 117) (by decide +kernel), List.mem_of_getElem? (i := 118) (by decide +kernel)⟩
theorem lw_p2 : lw_okq (⟨"BorrowedHats", "isCertainBy", "(LBorrowedHats$Ways;I)Z"⟩, 10) := ⟨⟨by decide +kernel, by decide +kernel⟩, List.mem_of_getElem? (i := 13) (by decide +kernel), List.mem_of_getElem? (i := 121) (by decide +kernel), List.mem_of_getElem? (i := 122) (by decide +kernel)⟩
theorem lw_p3 : lw_okq (⟨"BorrowedHats", "possibleColours", "(LBorrowedHats$Ways;II)I"⟩, 10) := ⟨⟨by decide +kernel, by decide +kernel⟩, List.mem_of_getElem? (i := 13) (by decide +kernel), List.mem_of_getElem? (i := 125) (by decide +kernel), List.mem_of_getElem? (i := 126) (by decide +kernel)⟩
theorem lw_p4 : lw_okq (⟨"BorrowedHats", "seenHatsOf", "(I)I"⟩, 10) := ⟨⟨by decide +kernel, by decide +kernel⟩, List.mem_of_getElem? (i := 13) (by decide +kernel), List.mem_of_getElem? (i := 129) (by decide +kernel), List.mem_of_getElem? (i := 130) (by decide +kernel)⟩
theorem lw_p5 : lw_okq (⟨"BorrowedHats", "agreesWithNow", "(II)Z"⟩, 10) := ⟨⟨by decide +kernel, by decide +kernel⟩, List.mem_of_getElem? (i := 13) (by decide +kernel), List.mem_of_getElem? (i := 133) (by decide +kernel), List.mem_of_getElem? (i := 134) (by decide +kernel)⟩
theorem lw_p6 : lw_okq (⟨"BorrowedHats", "turnsUntilCertainFrom", "(II)I"⟩, 10) := ⟨⟨by decide +kernel, by decide +kernel⟩, List.mem_of_getElem? (i := 13) (by decide +kernel), List.mem_of_getElem? (i := 153) (by decide +kernel), List.mem_of_getElem? (i := 154) (by decide +kernel)⟩
theorem lw_p7 : lw_okq (⟨"BorrowedHats", "areCertainBy", "(LBorrowedHats$Ways;II)Z"⟩, 10) := ⟨⟨by decide +kernel, by decide +kernel⟩, List.mem_of_getElem? (i := 13) (by decide +kernel), List.mem_of_getElem? (i := 165) (by decide +kernel), List.mem_of_getElem? (i := 166) (by decide +kernel)⟩
theorem lw_p8 : lw_okq (⟨"BorrowedHats", "passTurn", "(LBorrowedHats$Ways;I)Z"⟩, 10) := ⟨⟨by decide +kernel, by decide +kernel⟩, List.mem_of_getElem? (i := 13) (by decide +kernel), List.mem_of_getElem? (i := 169) (by decide +kernel), List.mem_of_getElem? (i := 170) (by decide +kernel)⟩
theorem lw_p9 : lw_okq (⟨"BorrowedHats", "keepByCertainty", "(LBorrowedHats$Ways;IZ)V"⟩, 10) := ⟨⟨by decide +kernel, by decide +kernel⟩, List.mem_of_getElem? (i := 13) (by decide +kernel), List.mem_of_getElem? (i := 173) (by decide +kernel), List.mem_of_getElem? (i := 174) (by decide +kernel)⟩
theorem lw_p10 : lw_okq (⟨"BorrowedHats", "noteOwnColours", "(LBorrowedHats$Ways;I)V"⟩, 10) := ⟨⟨by decide +kernel, by decide +kernel⟩, List.mem_of_getElem? (i := 13) (by decide +kernel), List.mem_of_getElem? (i := 177) (by decide +kernel), List.mem_of_getElem? (i := 178) (by decide +kernel)⟩
theorem lw_p11 : lw_okq (⟨"BorrowedHats", "viewOf", "(II)I"⟩, 10) := ⟨⟨by decide +kernel, by decide +kernel⟩, List.mem_of_getElem? (i := 13) (by decide +kernel), List.mem_of_getElem? (i := 181) (by decide +kernel), List.mem_of_getElem? (i := 182) (by decide +kernel)⟩
theorem lw_p12 : lw_okq (⟨"BorrowedHats", "setOwnColours", "(II)V"⟩, 10) := ⟨⟨by decide +kernel, by decide +kernel⟩, List.mem_of_getElem? (i := 13) (by decide +kernel), List.mem_of_getElem? (i := 185) (by decide +kernel), List.mem_of_getElem? (i := 186) (by decide +kernel)⟩
theorem lw_p13 : lw_okq (⟨"BorrowedHats", "ownColours", "(I)I"⟩, 10) := ⟨⟨by decide +kernel, by decide +kernel⟩, List.mem_of_getElem? (i := 13) (by decide +kernel), List.mem_of_getElem? (i := 189) (by decide +kernel), List.mem_of_getElem? (i := 190) (by decide +kernel)⟩
theorem lw_p14 : lw_okq (⟨"BorrowedHats", "wouldBeCertain", "(II)Z"⟩, 10) := ⟨⟨by decide +kernel, by decide +kernel⟩, List.mem_of_getElem? (i := 13) (by decide +kernel), List.mem_of_getElem? (i := 193) (by decide +kernel), List.mem_of_getElem? (i := 194) (by decide +kernel)⟩
theorem lw_p15 : lw_okq (⟨"BorrowedHats", "playerAfter", "(I)I"⟩, 10) := ⟨⟨by decide +kernel, by decide +kernel⟩, List.mem_of_getElem? (i := 13) (by decide +kernel), List.mem_of_getElem? (i := 200) (by decide +kernel), List.mem_of_getElem? (i := 201) (by decide +kernel)⟩
def lw_privs_1 : List (MethodName × Nat) := [(⟨"BorrowedHats", "openColoursOf", "(I)V"⟩, 10), (⟨"BorrowedHats", "countCertain", "(LBorrowedHats$Ways;)I"⟩, 10), (⟨"BorrowedHats", "isCertainBy", "(LBorrowedHats$Ways;I)Z"⟩, 10), (⟨"BorrowedHats", "possibleColours", "(LBorrowedHats$Ways;II)I"⟩, 10), (⟨"BorrowedHats", "seenHatsOf", "(I)I"⟩, 10), (⟨"BorrowedHats", "agreesWithNow", "(II)Z"⟩, 10), (⟨"BorrowedHats", "turnsUntilCertainFrom", "(II)I"⟩, 10), (⟨"BorrowedHats", "areCertainBy", "(LBorrowedHats$Ways;II)Z"⟩, 10), (⟨"BorrowedHats", "passTurn", "(LBorrowedHats$Ways;I)Z"⟩, 10), (⟨"BorrowedHats", "keepByCertainty", "(LBorrowedHats$Ways;IZ)V"⟩, 10), (⟨"BorrowedHats", "noteOwnColours", "(LBorrowedHats$Ways;I)V"⟩, 10), (⟨"BorrowedHats", "viewOf", "(II)I"⟩, 10), (⟨"BorrowedHats", "setOwnColours", "(II)V"⟩, 10), (⟨"BorrowedHats", "ownColours", "(I)I"⟩, 10), (⟨"BorrowedHats", "wouldBeCertain", "(II)Z"⟩, 10), (⟨"BorrowedHats", "playerAfter", "(I)I"⟩, 10)]
theorem lw_r1 : ∀ q ∈ lw_privs_1, lw_okq q := List.forall_mem_cons.mpr ⟨lw_p0, List.forall_mem_cons.mpr ⟨lw_p1, List.forall_mem_cons.mpr ⟨lw_p2, List.forall_mem_cons.mpr ⟨lw_p3, List.forall_mem_cons.mpr ⟨lw_p4, List.forall_mem_cons.mpr ⟨lw_p5, List.forall_mem_cons.mpr ⟨lw_p6, List.forall_mem_cons.mpr ⟨lw_p7, List.forall_mem_cons.mpr ⟨lw_p8, List.forall_mem_cons.mpr ⟨lw_p9, List.forall_mem_cons.mpr ⟨lw_p10, List.forall_mem_cons.mpr ⟨lw_p11, List.forall_mem_cons.mpr ⟨lw_p12, List.forall_mem_cons.mpr ⟨lw_p13, List.forall_mem_cons.mpr ⟨lw_p14, List.forall_mem_cons.mpr ⟨lw_p15, fun _ h => absurd h List.not_mem_nil⟩⟩⟩⟩⟩⟩⟩⟩⟩⟩⟩⟩⟩⟩⟩⟩
theorem lw_p16 : lw_okq (⟨"BorrowedHats", "countNaming", "(I)I"⟩, 10) := ⟨⟨by decide +kernel, by decide +kernel⟩, List.mem_of_getElem? (i := 13) (by decide +kernel), List.mem_of_getElem? (i := 208) (by decide +kernel), List.mem_of_getElem? (i := 209) (by decide +kernel)⟩
theorem lw_p17 : lw_okq (⟨"BorrowedHats", "hatsIn", "(II)I"⟩, 10) := ⟨⟨by decide +kernel, by decide +kernel⟩, List.mem_of_getElem? (i := 13) (by decide +kernel), List.mem_of_getElem? (i := 212) (by decide +kernel), List.mem_of_getElem? (i := 213) (by decide +kernel)⟩
theorem lw_p18 : lw_okq (⟨"BorrowedHats", "countPossible", "(I)I"⟩, 10) := ⟨⟨by decide +kernel, by decide +kernel⟩, List.mem_of_getElem? (i := 13) (by decide +kernel), List.mem_of_getElem? (i := 220) (by decide +kernel), List.mem_of_getElem? (i := 221) (by decide +kernel)⟩
theorem lw_p19 : lw_okq (⟨"BorrowedHats", "requireSomePlayer", "()V"⟩, 10) := ⟨⟨by decide +kernel, by decide +kernel⟩, List.mem_of_getElem? (i := 13) (by decide +kernel), List.mem_of_getElem? (i := 244) (by decide +kernel), List.mem_of_getElem? (i := 245) (by decide +kernel)⟩
theorem lw_p20 : lw_okq (⟨"java/lang/Throwable", "fillInStackTrace", "(I)Ljava/lang/Throwable;"⟩, 6) := ⟨⟨by decide +kernel, by decide +kernel⟩, List.mem_of_getElem? (i := 286) (by decide +kernel), List.mem_of_getElem? (i := 284) (by decide +kernel), List.mem_of_getElem? (i := 285) (by decide +kernel)⟩
theorem lw_p21 : lw_okq (⟨"BorrowedHats", "digestedPlayer", "(JI)J"⟩, 10) := ⟨⟨by decide +kernel, by decide +kernel⟩, List.mem_of_getElem? (i := 13) (by decide +kernel), List.mem_of_getElem? (i := 316) (by decide +kernel), List.mem_of_getElem? (i := 317) (by decide +kernel)⟩
theorem lw_p22 : lw_okq (⟨"BorrowedHats", "requirePlayer", "(I)V"⟩, 10) := ⟨⟨by decide +kernel, by decide +kernel⟩, List.mem_of_getElem? (i := 13) (by decide +kernel), List.mem_of_getElem? (i := 324) (by decide +kernel), List.mem_of_getElem? (i := 325) (by decide +kernel)⟩
theorem lw_p23 : lw_okq (⟨"BorrowedHats", "countWithHat", "(II)I"⟩, 10) := ⟨⟨by decide +kernel, by decide +kernel⟩, List.mem_of_getElem? (i := 13) (by decide +kernel), List.mem_of_getElem? (i := 359) (by decide +kernel), List.mem_of_getElem? (i := 360) (by decide +kernel)⟩
theorem lw_p24 : lw_okq (⟨"BorrowedHats", "seesHat", "(II)Z"⟩, 10) := ⟨⟨by decide +kernel, by decide +kernel⟩, List.mem_of_getElem? (i := 13) (by decide +kernel), List.mem_of_getElem? (i := 371) (by decide +kernel), List.mem_of_getElem? (i := 372) (by decide +kernel)⟩
theorem lw_p25 : lw_okq (⟨"BorrowedHats", "lookAtEachOther", "(I)V"⟩, 10) := ⟨⟨by decide +kernel, by decide +kernel⟩, List.mem_of_getElem? (i := 13) (by decide +kernel), List.mem_of_getElem? (i := 400) (by decide +kernel), List.mem_of_getElem? (i := 401) (by decide +kernel)⟩
theorem lw_p26 : lw_okq (⟨"BorrowedHats", "setSeenHatsOf", "(II)V"⟩, 10) := ⟨⟨by decide +kernel, by decide +kernel⟩, List.mem_of_getElem? (i := 13) (by decide +kernel), List.mem_of_getElem? (i := 404) (by decide +kernel), List.mem_of_getElem? (i := 405) (by decide +kernel)⟩
theorem lw_p27 : lw_okq (⟨"BorrowedHats", "requireTwoPlayers", "(II)V"⟩, 10) := ⟨⟨by decide +kernel, by decide +kernel⟩, List.mem_of_getElem? (i := 13) (by decide +kernel), List.mem_of_getElem? (i := 416) (by decide +kernel), List.mem_of_getElem? (i := 417) (by decide +kernel)⟩
theorem lw_p28 : lw_okq (⟨"BorrowedHats", "sayBetween", "(III)I"⟩, 10) := ⟨⟨by decide +kernel, by decide +kernel⟩, List.mem_of_getElem? (i := 13) (by decide +kernel), List.mem_of_getElem? (i := 468) (by decide +kernel), List.mem_of_getElem? (i := 469) (by decide +kernel)⟩
theorem lw_p29 : lw_okq (⟨"BorrowedHats", "keepWithHats", "(LBorrowedHats$Ways;III)V"⟩, 10) := ⟨⟨by decide +kernel, by decide +kernel⟩, List.mem_of_getElem? (i := 13) (by decide +kernel), List.mem_of_getElem? (i := 473) (by decide +kernel), List.mem_of_getElem? (i := 474) (by decide +kernel)⟩
theorem lw_p30 : lw_okq (⟨"BorrowedHatsModel", "fail", "(I)I"⟩, 11) := ⟨⟨by decide +kernel, by decide +kernel⟩, List.mem_of_getElem? (i := 548) (by decide +kernel), List.mem_of_getElem? (i := 603) (by decide +kernel), List.mem_of_getElem? (i := 604) (by decide +kernel)⟩
theorem lw_p31 : lw_okq (⟨"BorrowedHatsModel", "openAll", "()V"⟩, 11) := ⟨⟨by decide +kernel, by decide +kernel⟩, List.mem_of_getElem? (i := 548) (by decide +kernel), List.mem_of_getElem? (i := 607) (by decide +kernel), List.mem_of_getElem? (i := 608) (by decide +kernel)⟩
def lw_privs_2 : List (MethodName × Nat) := [(⟨"BorrowedHats", "countNaming", "(I)I"⟩, 10), (⟨"BorrowedHats", "hatsIn", "(II)I"⟩, 10), (⟨"BorrowedHats", "countPossible", "(I)I"⟩, 10), (⟨"BorrowedHats", "requireSomePlayer", "()V"⟩, 10), (⟨"java/lang/Throwable", "fillInStackTrace", "(I)Ljava/lang/Throwable;"⟩, 6), (⟨"BorrowedHats", "digestedPlayer", "(JI)J"⟩, 10), (⟨"BorrowedHats", "requirePlayer", "(I)V"⟩, 10), (⟨"BorrowedHats", "countWithHat", "(II)I"⟩, 10), (⟨"BorrowedHats", "seesHat", "(II)Z"⟩, 10), (⟨"BorrowedHats", "lookAtEachOther", "(I)V"⟩, 10), (⟨"BorrowedHats", "setSeenHatsOf", "(II)V"⟩, 10), (⟨"BorrowedHats", "requireTwoPlayers", "(II)V"⟩, 10), (⟨"BorrowedHats", "sayBetween", "(III)I"⟩, 10), (⟨"BorrowedHats", "keepWithHats", "(LBorrowedHats$Ways;III)V"⟩, 10), (⟨"BorrowedHatsModel", "fail", "(I)I"⟩, 11), (⟨"BorrowedHatsModel", "openAll", "()V"⟩, 11)]
theorem lw_r2 : ∀ q ∈ lw_privs_2, lw_okq q := List.forall_mem_cons.mpr ⟨lw_p16, List.forall_mem_cons.mpr ⟨lw_p17, List.forall_mem_cons.mpr ⟨lw_p18, List.forall_mem_cons.mpr ⟨lw_p19, List.forall_mem_cons.mpr ⟨lw_p20, List.forall_mem_cons.mpr ⟨lw_p21, List.forall_mem_cons.mpr ⟨lw_p22, List.forall_mem_cons.mpr ⟨lw_p23, List.forall_mem_cons.mpr ⟨lw_p24, List.forall_mem_cons.mpr ⟨lw_p25, List.forall_mem_cons.mpr ⟨lw_p26, List.forall_mem_cons.mpr ⟨lw_p27, List.forall_mem_cons.mpr ⟨lw_p28, List.forall_mem_cons.mpr ⟨lw_p29, List.forall_mem_cons.mpr ⟨lw_p30, List.forall_mem_cons.mpr ⟨lw_p31, fun _ h => absurd h List.not_mem_nil⟩⟩⟩⟩⟩⟩⟩⟩⟩⟩⟩⟩⟩⟩⟩⟩
theorem lw_p32 : lw_okq (⟨"BorrowedHatsModel", "ways", "()I"⟩, 11) := ⟨⟨by decide +kernel, by decide +kernel⟩, List.mem_of_getElem? (i := 548) (by decide +kernel), List.mem_of_getElem? (i := 611) (by decide +kernel), List.mem_of_getElem? (i := 612) (by decide +kernel)⟩
theorem lw_p33 : lw_okq (⟨"BorrowedHatsModel", "areTwo", "(II)Z"⟩, 11) := ⟨⟨by decide +kernel, by decide +kernel⟩, List.mem_of_getElem? (i := 548) (by decide +kernel), List.mem_of_getElem? (i := 621) (by decide +kernel), List.mem_of_getElem? (i := 622) (by decide +kernel)⟩
theorem lw_p34 : lw_okq (⟨"BorrowedHatsModel", "isPlayer", "(I)Z"⟩, 11) := ⟨⟨by decide +kernel, by decide +kernel⟩, List.mem_of_getElem? (i := 548) (by decide +kernel), List.mem_of_getElem? (i := 625) (by decide +kernel), List.mem_of_getElem? (i := 626) (by decide +kernel)⟩
theorem lw_p35 : lw_okq (⟨"BorrowedHatsModel", "sees", "(III)Z"⟩, 11) := ⟨⟨by decide +kernel, by decide +kernel⟩, List.mem_of_getElem? (i := 548) (by decide +kernel), List.mem_of_getElem? (i := 629) (by decide +kernel), List.mem_of_getElem? (i := 630) (by decide +kernel)⟩
theorem lw_p36 : lw_okq (⟨"BorrowedHatsModel", "take", "()V"⟩, 11) := ⟨⟨by decide +kernel, by decide +kernel⟩, List.mem_of_getElem? (i := 548) (by decide +kernel), List.mem_of_getElem? (i := 640) (by decide +kernel), List.mem_of_getElem? (i := 641) (by decide +kernel)⟩
theorem lw_p37 : lw_okq (⟨"BorrowedHatsModel", "whose", "()I"⟩, 11) := ⟨⟨by decide +kernel, by decide +kernel⟩, List.mem_of_getElem? (i := 548) (by decide +kernel), List.mem_of_getElem? (i := 648) (by decide +kernel), List.mem_of_getElem? (i := 649) (by decide +kernel)⟩
theorem lw_p38 : lw_okq (⟨"BorrowedHatsModel", "real", "()I"⟩, 11) := ⟨⟨by decide +kernel, by decide +kernel⟩, List.mem_of_getElem? (i := 548) (by decide +kernel), List.mem_of_getElem? (i := 652) (by decide +kernel), List.mem_of_getElem? (i := 653) (by decide +kernel)⟩
theorem lw_p39 : lw_okq (⟨"BorrowedHatsModel", "turn", "(II)I"⟩, 11) := ⟨⟨by decide +kernel, by decide +kernel⟩, List.mem_of_getElem? (i := 548) (by decide +kernel), List.mem_of_getElem? (i := 656) (by decide +kernel), List.mem_of_getElem? (i := 657) (by decide +kernel)⟩
theorem lw_p40 : lw_okq (⟨"BorrowedHatsModel", "look", "(I)V"⟩, 11) := ⟨⟨by decide +kernel, by decide +kernel⟩, List.mem_of_getElem? (i := 548) (by decide +kernel), List.mem_of_getElem? (i := 660) (by decide +kernel), List.mem_of_getElem? (i := 661) (by decide +kernel)⟩
theorem lw_p41 : lw_okq (⟨"BorrowedHatsModel", "view", "(II)I"⟩, 11) := ⟨⟨by decide +kernel, by decide +kernel⟩, List.mem_of_getElem? (i := 548) (by decide +kernel), List.mem_of_getElem? (i := 664) (by decide +kernel), List.mem_of_getElem? (i := 665) (by decide +kernel)⟩
theorem lw_p42 : lw_okq (⟨"BorrowedHatsModel", "certain", "(II)Z"⟩, 11) := ⟨⟨by decide +kernel, by decide +kernel⟩, List.mem_of_getElem? (i := 548) (by decide +kernel), List.mem_of_getElem? (i := 668) (by decide +kernel), List.mem_of_getElem? (i := 669) (by decide +kernel)⟩
theorem lw_p43 : lw_okq (⟨"BorrowedHatsModel", "say", "(IIZ)I"⟩, 11) := ⟨⟨by decide +kernel, by decide +kernel⟩, List.mem_of_getElem? (i := 548) (by decide +kernel), List.mem_of_getElem? (i := 679) (by decide +kernel), List.mem_of_getElem? (i := 680) (by decide +kernel)⟩
theorem lw_p44 : lw_okq (⟨"BorrowedHatsModel", "is", "(IIIZ)Z"⟩, 11) := ⟨⟨by decide +kernel, by decide +kernel⟩, List.mem_of_getElem? (i := 548) (by decide +kernel), List.mem_of_getElem? (i := 683) (by decide +kernel), List.mem_of_getElem? (i := 684) (by decide +kernel)⟩
theorem lw_p45 : lw_okq (⟨"BorrowedHatsModel", "have", "(II)I"⟩, 11) := ⟨⟨by decide +kernel, by decide +kernel⟩, List.mem_of_getElem? (i := 548) (by decide +kernel), List.mem_of_getElem? (i := 687) (by decide +kernel), List.mem_of_getElem? (i := 688) (by decide +kernel)⟩
theorem lw_p46 : lw_okq (⟨"BorrowedHatsModel", "openNow", "()I"⟩, 11) := ⟨⟨by decide +kernel, by decide +kernel⟩, List.mem_of_getElem? (i := 548) (by decide +kernel), List.mem_of_getElem? (i := 691) (by decide +kernel), List.mem_of_getElem? (i := 692) (by decide +kernel)⟩
theorem lw_p47 : lw_okq (⟨"BorrowedHatsModel", "told", "(I)I"⟩, 11) := ⟨⟨by decide +kernel, by decide +kernel⟩, List.mem_of_getElem? (i := 548) (by decide +kernel), List.mem_of_getElem? (i := 707) (by decide +kernel), List.mem_of_getElem? (i := 708) (by decide +kernel)⟩
def lw_privs_3 : List (MethodName × Nat) := [(⟨"BorrowedHatsModel", "ways", "()I"⟩, 11), (⟨"BorrowedHatsModel", "areTwo", "(II)Z"⟩, 11), (⟨"BorrowedHatsModel", "isPlayer", "(I)Z"⟩, 11), (⟨"BorrowedHatsModel", "sees", "(III)Z"⟩, 11), (⟨"BorrowedHatsModel", "take", "()V"⟩, 11), (⟨"BorrowedHatsModel", "whose", "()I"⟩, 11), (⟨"BorrowedHatsModel", "real", "()I"⟩, 11), (⟨"BorrowedHatsModel", "turn", "(II)I"⟩, 11), (⟨"BorrowedHatsModel", "look", "(I)V"⟩, 11), (⟨"BorrowedHatsModel", "view", "(II)I"⟩, 11), (⟨"BorrowedHatsModel", "certain", "(II)Z"⟩, 11), (⟨"BorrowedHatsModel", "say", "(IIZ)I"⟩, 11), (⟨"BorrowedHatsModel", "is", "(IIIZ)Z"⟩, 11), (⟨"BorrowedHatsModel", "have", "(II)I"⟩, 11), (⟨"BorrowedHatsModel", "openNow", "()I"⟩, 11), (⟨"BorrowedHatsModel", "told", "(I)I"⟩, 11)]
theorem lw_r3 : ∀ q ∈ lw_privs_3, lw_okq q := List.forall_mem_cons.mpr ⟨lw_p32, List.forall_mem_cons.mpr ⟨lw_p33, List.forall_mem_cons.mpr ⟨lw_p34, List.forall_mem_cons.mpr ⟨lw_p35, List.forall_mem_cons.mpr ⟨lw_p36, List.forall_mem_cons.mpr ⟨lw_p37, List.forall_mem_cons.mpr ⟨lw_p38, List.forall_mem_cons.mpr ⟨lw_p39, List.forall_mem_cons.mpr ⟨lw_p40, List.forall_mem_cons.mpr ⟨lw_p41, List.forall_mem_cons.mpr ⟨lw_p42, List.forall_mem_cons.mpr ⟨lw_p43, List.forall_mem_cons.mpr ⟨lw_p44, List.forall_mem_cons.mpr ⟨lw_p45, List.forall_mem_cons.mpr ⟨lw_p46, List.forall_mem_cons.mpr ⟨lw_p47, fun _ h => absurd h List.not_mem_nil⟩⟩⟩⟩⟩⟩⟩⟩⟩⟩⟩⟩⟩⟩⟩⟩
theorem lw_p48 : lw_okq (⟨"BorrowedHatsModel", "openWith", "(II)I"⟩, 11) := ⟨⟨by decide +kernel, by decide +kernel⟩, List.mem_of_getElem? (i := 548) (by decide +kernel), List.mem_of_getElem? (i := 743) (by decide +kernel), List.mem_of_getElem? (i := 744) (by decide +kernel)⟩
theorem lw_p49 : lw_okq (⟨"BorrowedHatsModel", "known", "(I)Z"⟩, 11) := ⟨⟨by decide +kernel, by decide +kernel⟩, List.mem_of_getElem? (i := 548) (by decide +kernel), List.mem_of_getElem? (i := 751) (by decide +kernel), List.mem_of_getElem? (i := 752) (by decide +kernel)⟩
theorem lw_p50 : lw_okq (⟨"BorrowedHatsModel", "possible", "(I)I"⟩, 11) := ⟨⟨by decide +kernel, by decide +kernel⟩, List.mem_of_getElem? (i := 548) (by decide +kernel), List.mem_of_getElem? (i := 759) (by decide +kernel), List.mem_of_getElem? (i := 760) (by decide +kernel)⟩
theorem lw_p51 : lw_okq (⟨"BorrowedHatsModel", "colours", "(III)I"⟩, 11) := ⟨⟨by decide +kernel, by decide +kernel⟩, List.mem_of_getElem? (i := 548) (by decide +kernel), List.mem_of_getElem? (i := 767) (by decide +kernel), List.mem_of_getElem? (i := 768) (by decide +kernel)⟩
theorem lw_p52 : lw_okq (⟨"BorrowedHatsModel", "certainNow", "(I)Z"⟩, 11) := ⟨⟨by decide +kernel, by decide +kernel⟩, List.mem_of_getElem? (i := 548) (by decide +kernel), List.mem_of_getElem? (i := 775) (by decide +kernel), List.mem_of_getElem? (i := 776) (by decide +kernel)⟩
theorem lw_p53 : lw_okq (⟨"BorrowedHatsModel", "knows", "(II)Z"⟩, 11) := ⟨⟨by decide +kernel, by decide +kernel⟩, List.mem_of_getElem? (i := 548) (by decide +kernel), List.mem_of_getElem? (i := 783) (by decide +kernel), List.mem_of_getElem? (i := 784) (by decide +kernel)⟩
theorem lw_p54 : lw_okq (⟨"BorrowedHatsModel", "sure", "(II)Z"⟩, 11) := ⟨⟨by decide +kernel, by decide +kernel⟩, List.mem_of_getElem? (i := 548) (by decide +kernel), List.mem_of_getElem? (i := 791) (by decide +kernel), List.mem_of_getElem? (i := 792) (by decide +kernel)⟩
theorem lw_p55 : lw_okq (⟨"BorrowedHatsModel", "many", "()I"⟩, 11) := ⟨⟨by decide +kernel, by decide +kernel⟩, List.mem_of_getElem? (i := 548) (by decide +kernel), List.mem_of_getElem? (i := 799) (by decide +kernel), List.mem_of_getElem? (i := 800) (by decide +kernel)⟩
theorem lw_p56 : lw_okq (⟨"BorrowedHatsModel", "after", "()I"⟩, 11) := ⟨⟨by decide +kernel, by decide +kernel⟩, List.mem_of_getElem? (i := 548) (by decide +kernel), List.mem_of_getElem? (i := 807) (by decide +kernel), List.mem_of_getElem? (i := 808) (by decide +kernel)⟩
theorem lw_p57 : lw_okq (⟨"BorrowedHatsModel", "keep", "()V"⟩, 11) := ⟨⟨by decide +kernel, by decide +kernel⟩, List.mem_of_getElem? (i := 548) (by decide +kernel), List.mem_of_getElem? (i := 811) (by decide +kernel), List.mem_of_getElem? (i := 812) (by decide +kernel)⟩
theorem lw_p58 : lw_okq (⟨"BorrowedHatsModel", "bringBack", "()V"⟩, 11) := ⟨⟨by decide +kernel, by decide +kernel⟩, List.mem_of_getElem? (i := 548) (by decide +kernel), List.mem_of_getElem? (i := 818) (by decide +kernel), List.mem_of_getElem? (i := 819) (by decide +kernel)⟩
theorem lw_p59 : lw_okq (⟨"BorrowedHatsModel", "until", "(I)I"⟩, 11) := ⟨⟨by decide +kernel, by decide +kernel⟩, List.mem_of_getElem? (i := 548) (by decide +kernel), List.mem_of_getElem? (i := 826) (by decide +kernel), List.mem_of_getElem? (i := 827) (by decide +kernel)⟩
theorem lw_p60 : lw_okq (⟨"BorrowedHatsModel", "best", "()I"⟩, 11) := ⟨⟨by decide +kernel, by decide +kernel⟩, List.mem_of_getElem? (i := 548) (by decide +kernel), List.mem_of_getElem? (i := 838) (by decide +kernel), List.mem_of_getElem? (i := 839) (by decide +kernel)⟩
theorem lw_p61 : lw_okq (⟨"BorrowedHatsModel", "ifTold", "(I)I"⟩, 11) := ⟨⟨by decide +kernel, by decide +kernel⟩, List.mem_of_getElem? (i := 548) (by decide +kernel), List.mem_of_getElem? (i := 846) (by decide +kernel), List.mem_of_getElem? (i := 847) (by decide +kernel)⟩
def lw_privs_4 : List (MethodName × Nat) := [(⟨"BorrowedHatsModel", "openWith", "(II)I"⟩, 11), (⟨"BorrowedHatsModel", "known", "(I)Z"⟩, 11), (⟨"BorrowedHatsModel", "possible", "(I)I"⟩, 11), (⟨"BorrowedHatsModel", "colours", "(III)I"⟩, 11), (⟨"BorrowedHatsModel", "certainNow", "(I)Z"⟩, 11), (⟨"BorrowedHatsModel", "knows", "(II)Z"⟩, 11), (⟨"BorrowedHatsModel", "sure", "(II)Z"⟩, 11), (⟨"BorrowedHatsModel", "many", "()I"⟩, 11), (⟨"BorrowedHatsModel", "after", "()I"⟩, 11), (⟨"BorrowedHatsModel", "keep", "()V"⟩, 11), (⟨"BorrowedHatsModel", "bringBack", "()V"⟩, 11), (⟨"BorrowedHatsModel", "until", "(I)I"⟩, 11), (⟨"BorrowedHatsModel", "best", "()I"⟩, 11), (⟨"BorrowedHatsModel", "ifTold", "(I)I"⟩, 11)]
theorem lw_r4 : ∀ q ∈ lw_privs_4, lw_okq q := List.forall_mem_cons.mpr ⟨lw_p48, List.forall_mem_cons.mpr ⟨lw_p49, List.forall_mem_cons.mpr ⟨lw_p50, List.forall_mem_cons.mpr ⟨lw_p51, List.forall_mem_cons.mpr ⟨lw_p52, List.forall_mem_cons.mpr ⟨lw_p53, List.forall_mem_cons.mpr ⟨lw_p54, List.forall_mem_cons.mpr ⟨lw_p55, List.forall_mem_cons.mpr ⟨lw_p56, List.forall_mem_cons.mpr ⟨lw_p57, List.forall_mem_cons.mpr ⟨lw_p58, List.forall_mem_cons.mpr ⟨lw_p59, List.forall_mem_cons.mpr ⟨lw_p60, List.forall_mem_cons.mpr ⟨lw_p61, fun _ h => absurd h List.not_mem_nil⟩⟩⟩⟩⟩⟩⟩⟩⟩⟩⟩⟩⟩⟩
def lw_privs : List (MethodName × Nat) := lw_privs_1 ++ (lw_privs_2 ++ (lw_privs_3 ++ (lw_privs_4)))
def lw_tbl : List Cond := k2_sels lw_privs ++ tables_1
theorem lw_privs_ok : ∀ q ∈ lw_privs, lw_okq q := by
  show ∀ q ∈ lw_privs_1 ++ (lw_privs_2 ++ (lw_privs_3 ++ (lw_privs_4))), lw_okq q
  exact List.forall_mem_append.mpr ⟨lw_r1, List.forall_mem_append.mpr ⟨lw_r2, List.forall_mem_append.mpr ⟨lw_r3, lw_r4⟩⟩⟩
/-- the streams that the claim lets the run draw from -/
abbrev lw_cs : List Choice := [Jvm.Choice.named "NaN.bits"]
theorem lw_bits : nanBits ∈ lw_cs := by first | decide | exact List.mem_cons_self | simp [lw_cs, nanBits]
end
section
/-! ===== BEGIN words of one list among another's, by their places ===== -/
theorem goodIn_r {big : List Cond} (ws : List Cond) (ps : List Nat) (hp : ws = ps.filterMap (fun i => big[i]?)) (h : ws.all goodWord = true) : GoodIn big ws := by
  intro w hw
  have h1 := List.all_eq_true.mp h w hw
  rw [hp] at hw
  obtain ⟨i, -, hi⟩ := List.mem_filterMap.mp hw
  have hm : w ∈ big := by first | exact List.mem_of_getElem? hi | exact List.getElem?_mem hi
  exact ⟨hm, good_of_word h1⟩
theorem goodIn_app {big a b : List Cond} (ha : GoodIn big a) (hb : GoodIn big b) : GoodIn big (a ++ b) := fun w h => (List.mem_append.mp h).elim (ha w) (hb w)
theorem goodIn_ca {big a b : List Cond} {c : Cond} (ha : GoodIn big (c :: a)) (hb : GoodIn big b) : GoodIn big (c :: (a ++ b)) := fun w h => (List.mem_cons.mp h).elim (fun e => ha w (List.mem_cons.mpr (Or.inl e))) (fun h => (List.mem_append.mp h).elim (fun h => ha w (List.mem_cons.mpr (Or.inr h))) (hb w))
theorem goodIn_sub {big ws : List Cond} (hm : ∀ w ∈ ws, w ∈ big) (h : ws.all goodWord = true) : GoodIn big ws := fun w hw => ⟨hm w hw, good_of_word (List.all_eq_true.mp h w hw)⟩
/-! ===== END ===== -/

/-! ===== BEGIN exceptions that leave a method, and their catching by the caller (launches without stack traces) ===== -/
section VXA
/-! The laws vx_back, vx_callV, vx_callS, vx_callSW, vx_throw0, vx_throwS follow proofs of the library, with one case more: JvmDerived/Free/Laws.lean (Back.of_free), Shelf42/LK1.lean (callV, callS), Shelf/KitTraced.lean (throwNew0V, throwNewS). -/
/-- where a method has thrown q: the class by its name, the cell, what was written, the world -/
def vx_T (XC : String → State → State → Prop) (st : State) (q : Addr) (t : State) (mc ms : Nat) (free : Addr → Prop) : Prop :=
  ∃ (E : String) (ce : Cell) (L : List Loc), XC E st t ∧ t.heap[q]? = some ce ∧ ce.vm = .none ∧ st.vm.findClass E = some ce.cls ∧ st.WarmedH t.vm ∧ st.sameButNew ({ t with vm := st.vm } : State) L mc ms ∧ ∀ z ∈ L, free z.base
def vx_Q (Qc : Array Value → State → Outcome → State → Prop) (XC : String → State → State → Prop) (mc ms : Nat) (free : Addr → Prop) : Array Value → State → Outcome → State → Prop := fun a st o t =>
  (Qc a st o t ∧ ∃ L, FrameEnd st o t L mc ms ∧ ∀ q ∈ L, free q.base) ∨ ∃ q, o = .threw q ∧ vx_T XC st q t mc ms free
/-- a callee that returns or throws -/
def vx_Met (l : Launch) (y : MethodName) (ws : List Cond) (rm : Room) (Pc : Array Value → State → Prop) (Qc : Array Value → State → Outcome → State → Prop) (XC : String → State → State → Prop) (mc ms : Nat) (free : Addr → Prop) : Prop :=
  MetFree l y (headSpec ws rm) Pc (fun _ _ _ _ _ => True) (vx_Q Qc XC mc ms free)
def vx_Post (XC : String → State → State → Prop) (mc ms : Nat) (free : Addr → Prop) : Pt → Array Value → Addr → Pt → Prop := fun A a q B =>
  ∃ (g : JFrame) (mk : MethodId) (t : State) (L : List Loc) (E : String) (ce : Cell), B.U.heap = t.heap ∧ B.U.vm = t.vm ∧ XC E (A.U.calling g mk a) t ∧ t.heap[q]? = some ce ∧ ce.vm = .none ∧ A.U.vm.findClass E = some ce.cls ∧ B.locs = A.locs ++ L ∧ (∀ z ∈ L, free z.base) ∧ B.cells = A.cells + mc ∧ B.slots = A.slots + ms
def vx_Back (l : Launch) (R : Room) (p : Program) (e : Env) (below : List Frame) (s : State) (sargs : Array Value) (y : MethodName) (len W9 : Nat)
    (Pre : Pt → Array Value → Prop) (Post : Pt → Array Value → Option Value → Pt → Prop) (PostX : Pt → Array Value → Addr → Pt → Prop) : Prop :=
  ∀ (m : MethodId) (meth : Method) (c : Code) (A : Pt) (g : JFrame) (ig : Instr) (mk : MethodId) (a : Array Value),
    Stand p l e R s m sargs below meth c A.U A.locs A.cells A.slots → g.method = m → g.locals.size = c.maxLocals → decode c.code g.pc = .ok (ig, len) →
    2 * g.monitorRoom + (g.stack.map fun v => v.category).sum ≤ W9 → A.U.methodNamed? y = some mk → Pre A a →
    (∃ (v : Option Value) (B : Pt), Stand p l e R s m sargs below meth c B.U B.locs B.cells B.slots ∧ Post A a v B ∧
      Steps p.tables e below (doInvoke e (A.U.setTop g) [] mk a).1 (B.U.setTop { g with pc := g.pc + len, stack := v.toList ++ g.stack })) ∨
    (∃ (q : Addr) (B : Pt), Stand p l e R s m sargs below meth c B.U B.locs B.cells B.slots ∧ PostX A a q B ∧
      Steps p.tables e below (doInvoke e (A.U.setTop g) [] mk a).1 ((B.U.setTop g).pushFrame (.throwing q)))
section Payer
variable {l : Launch} {R : Room} {p : Program} {e : Env} {below : List Frame} {s : State} {sargs : Array Value} {y : MethodName} {len W9 : Nat}
theorem vx_back {ws : List Cond} {rm : Room} {Pc : Array Value → State → Prop} {Qc : Array Value → State → Outcome → State → Prop} {XC : String → State → State → Prop} {mc ms : Nat} {free : Addr → Prop} {bytes : ByteArray} {maxL : Nat} {ret : Option FieldType}
    (hM : vx_Met l y ws rm Pc Qc XC mc ms free) (hblind : FrameBlind Pc) (hrc : rm.cells = mc) (hrs : rm.slots = ms)
    (hframes : rm.frames + 1 ≤ R.frames) (hlocals : W9 + (maxL + 11) + rm.locals ≤ R.locals)
    (hws : ∀ w ∈ ws, ∀ a' U, s.WarmedH U.vm → w.before a' U = true) (hcode : Cond.code y bytes maxL ret ∈ ws) (hinit : ∀ a' U, s.WarmedH U.vm → (Cond.initialized y.cls).before a' U = true) :
    vx_Back l R p e below s sargs y len W9 (PreOf R mc ms Pc) (PostOf Qc mc ms free) (vx_Post XC mc ms free) := by
  intro m meth c A g ig mk a X hg hsize hdg hW hn hp
  have h1 : (headSpec ws rm).pre.before a A.U = true := atoms_intro fun w hw => hws w hw _ _ X.warmed
  have h2 : (Cond.code y bytes maxL ret).before a A.U = true := hws _ hcode _ _ X.warmed
  have h3 : (Cond.initialized y.cls).before a A.U = true := hinit _ _ X.warmed
  have h4 : A.cells + (headSpec ws rm).room.cells ≤ R.cells := by rw [show (headSpec ws rm).room.cells = mc from hrc]; exact hp.1
  have h5 : A.slots + (headSpec ws rm).room.slots ≤ R.slots := by rw [show (headSpec ws rm).room.slots = ms from hrs]; exact hp.2.1
  have hPc : Pc a (A.U.calling g mk a) := hblind _ _ _ _ hp.2.2
  obtain ⟨U, Ls, c0, s0⟩ := A
  dsimp only [Pt.U, Pt.locs, Pt.cells, Pt.slots] at h1 h2 h3 h4 h5 X hn hPc ⊢
  obtain ⟨methY, cY, hmY, hcY, -, hlY, -, -, -, -⟩ := Cond.code_spec hn h2
  obtain ⟨kY, hkY, -⟩ := className_of_methodNamed hn
  have hinitY : kY.init = .initialized := Cond.initialized_spec (findClass_of_methodNamed hn) hkY h3
  have h : At U g.method c below := by rw [hg]; exact X.here
  have hlocals9 : W9 + (maxL + 11) + (headSpec ws rm).room.locals ≤ R.locals := hlocals
  have happ : (headSpec ws rm).appliesLoose y e.platform (U.calling g mk a) = true :=
    Spec.appliesLoose_calling (g := g) h hdg hn hkY hinitY
      (X.room_calling (g := g) (R' := (headSpec ws rm).room) hsize hmY hcY hframes (by rw [hlY]; omega) h4 h5) h1
  obtain ⟨mid, hmid⟩ := h.above
  have hfr : (U.setTop g).frames = (.java g :: mid) ++ below := by rw [State.frames_setTop' g h.top, hmid]; rfl
  obtain ⟨o, s₂, hsteps, -, hend, hq⟩ := Steps.callFree hM p X.admits X.cas X.clock (acts := []) hfr happ hPc trivial
  have hq' : vx_Q Qc XC mc ms free a (U.calling g mk a) o s₂ := hq
  rw [State.frames_setTop' g h.top] at hend
  obtain ⟨g₀, hg0⟩ := Option.isSome_iff_exists.mp h.top
  obtain ⟨r, hr⟩ := State.topJava?_eq_some.mp hg0
  have hr' : (({ U with heap := s₂.heap, slotsUsed := s₂.slotsUsed } : State).setVm s₂.vm).frames = .java g₀ :: r := hr
  rcases hq' with ⟨hqc, L, hfe, hL⟩ | ⟨q, rfl, E, ce, L, hx, hce, hcv, hcl, hW₂, hsm, hL⟩
  · obtain ⟨⟨v, rfl⟩, hW₂, e2, q2, q3, q4, q5, q6⟩ := id hfe
    have e3 : s₂ = ({ (U.calling g mk a).setFrames s₂.frames with heap := s₂.heap, slotsUsed := s₂.slotsUsed } : State).setVm s₂.vm := by
      have : s₂ = ({ s₂ with vm := (U.calling g mk a).vm } : State).setVm s₂.vm := rfl
      rw [e2] at this
      exact this
    obtain ⟨c₂, i₂, len₂, hc₂, hd₂, hf₂⟩ := hend
    have hW' : U.WarmedH s₂.vm := hW₂
    have hcc : c₂ = c := by
      have h1 : s₂.code? g.method = U.code? g.method := by
        rw [State.code?_eq, State.code?_eq, hW'.alike.method?]
      exact Option.some.inj (hc₂.symm.trans (h1.trans h.code))
    subst hcc
    have hlen : len₂ = len := by rw [hdg] at hd₂; cases hd₂; rfl
    subst hlen
    have hs₂ : s₂ = (({ U with heap := s₂.heap, slotsUsed := s₂.slotsUsed } : State).setVm s₂.vm).setTop { g with pc := g.pc + len₂, stack := v.toList ++ g.stack } := by
      refine e3.trans ?_
      rw [hf₂, State.calling_eq h.top, State.setFrames_setFrames, State.setTop_of_frames _ hr', hr]
      rfl
    have hsame : U.sameButNew ({ U with heap := s₂.heap, slotsUsed := s₂.slotsUsed } : State) L mc ms := by
      refine ⟨?_, q2, q3, q4, q5, q6⟩
      obtain ⟨t, ht, -⟩ := State.frames_cons hr
      show ({ U with heap := s₂.heap, slotsUsed := s₂.slotsUsed } : State) = { U.setFrames U.frames with heap := s₂.heap, slotsUsed := s₂.slotsUsed }
      rw [State.setFrames_self ht]
    subst hg
    refine Or.inl ⟨v, ⟨(({ U with heap := s₂.heap, slotsUsed := s₂.slotsUsed } : State).setVm s₂.vm), Ls ++ L, c0 + mc, s0 + ms⟩,
      ⟨X.admits, X.cas, X.clock, X.frames, X.room, X.hears, X.method, X.code, (X.here.setHeapUsed s₂.heap s₂.slotsUsed).setVm hW'.alike, X.tail, State.WarmedH.trans X.warmed hW', X.limits, X.bytes, X.same.trans (hsame.setVm s.vm)⟩,
      ⟨g, mk, s₂, L, rfl, rfl, hqc, rfl, hL, rfl, rfl⟩, ?_⟩
    show Steps p.tables e below _ ((({ U with heap := s₂.heap, slotsUsed := s₂.slotsUsed } : State).setVm s₂.vm).setTop { g with pc := g.pc + len₂, stack := v.toList ++ g.stack })
    rw [← hs₂]
    exact hsteps
  · obtain ⟨e2, q2, q3, q4, q5, q6⟩ := id hsm
    have e3 : s₂ = ({ (U.calling g mk a).setFrames s₂.frames with heap := s₂.heap, slotsUsed := s₂.slotsUsed } : State).setVm s₂.vm := by
      have : s₂ = ({ s₂ with vm := (U.calling g mk a).vm } : State).setVm s₂.vm := rfl
      rw [e2] at this
      exact this
    have hf₂ : s₂.frames = .throwing q :: .java g :: U.frames.tail := hend
    have hW' : U.WarmedH s₂.vm := hW₂
    have hs₂ : s₂ = ((({ U with heap := s₂.heap, slotsUsed := s₂.slotsUsed } : State).setVm s₂.vm).setTop g).pushFrame (.throwing q) := by
      refine e3.trans ?_
      rw [hf₂, State.calling_eq h.top, State.setFrames_setFrames, State.pushFrame, State.frames_setTop _ hr', State.setTop_of_frames _ hr', State.setFrames_setFrames, hr]
      rfl
    have hsame : U.sameButNew ({ U with heap := s₂.heap, slotsUsed := s₂.slotsUsed } : State) L mc ms := by
      refine ⟨?_, q2, q3, q4, q5, q6⟩
      obtain ⟨t, ht, -⟩ := State.frames_cons hr
      show ({ U with heap := s₂.heap, slotsUsed := s₂.slotsUsed } : State) = { U.setFrames U.frames with heap := s₂.heap, slotsUsed := s₂.slotsUsed }
      rw [State.setFrames_self ht]
    subst hg
    refine Or.inr ⟨q, ⟨(({ U with heap := s₂.heap, slotsUsed := s₂.slotsUsed } : State).setVm s₂.vm), Ls ++ L, c0 + mc, s0 + ms⟩,
      ⟨X.admits, X.cas, X.clock, X.frames, X.room, X.hears, X.method, X.code, (X.here.setHeapUsed s₂.heap s₂.slotsUsed).setVm hW'.alike, X.tail, State.WarmedH.trans X.warmed hW', X.limits, X.bytes, X.same.trans (hsame.setVm s.vm)⟩,
      ⟨g, mk, s₂, L, E, ce, rfl, rfl, hx, hce, hcv, hcl, rfl, hL, rfl, rfl⟩, ?_⟩
    show Steps p.tables e below _ (((({ U with heap := s₂.heap, slotsUsed := s₂.slotsUsed } : State).setVm s₂.vm).setTop g).pushFrame (.throwing q))
    rw [← hs₂]
    exact hsteps
end Payer
section Calls
variable {p : Program} {l : Launch} {e : Env} {R : Room} {s : State} {m : MethodId} {args : Array Value} {below : List Frame} {meth : Method} {c : Code} {T : State} {locs : List Loc} {cells slots : Nat}
theorem vx_callV (X : Stand p l e R s m args below meth c T locs cells slots) (hexec : p.tables.exec = Jvm.exec) {own C : String} {index : Nat} {y : MethodName} {bytes : ByteArray} {maxL : Nat} {ret : Option FieldType}
    (hown : s.vm.findClass own = some m.cls) (hlink : (Cond.methodLink own index y).before args s = true) (hinst : (Cond.instanceMethod y).before args s = true) (hsel : (Cond.selects C y y).before args s = true)
    (hcode : (Cond.code y bytes maxL ret).before args s = true) (hy : y.cls ≠ "java/lang/invoke/MethodHandle" ∧ y.cls ≠ "java/lang/invoke/VarHandle")
    {W9 : Nat} {Pre : Pt → Array Value → Prop} {Post : Pt → Array Value → Option Value → Pt → Prop} {PostX : Pt → Array Value → Addr → Pt → Prop} (hK : vx_Back l R p e below s args y 3 W9 Pre Post PostX)
    {b : Addr} {cellB : Cell} (hcell : T.heap[b]? = some cellB) (hobj : cellB.vm.isStatics = false) (hcls : s.vm.findClass C = some cellB.cls)
    {g : JFrame} (hg : g.method = m) (hsize : g.locals.size = c.maxLocals) {argsL rest : List Value} (hlen : ∀ sig, parseMethodDescriptor y.desc = some sig → argsL.length = sig.parameters.length)
    (hstack : g.stack = argsL.reverse ++ .ref b :: rest) (hW : 2 * g.monitorRoom + (rest.map fun v => v.category).sum ≤ W9) (hdg : decode c.code g.pc = .ok (.invokevirtual index, 3))
    (hpre : ∀ vm₁, s.WarmedH vm₁ → Pre ⟨T.setVm vm₁, locs, cells, slots⟩ (Value.ref b :: argsL).toArray) :
    (∃ (v : Option Value) (vm₁ : Vm) (B : Pt), s.WarmedH vm₁ ∧ Stand p l e R s m args below meth c B.U B.locs B.cells B.slots ∧ Post ⟨T.setVm vm₁, locs, cells, slots⟩ (Value.ref b :: argsL).toArray v B ∧
      ∀ target, Steps p.tables e below (B.U.setTop { g with pc := g.pc + 3, stack := v.toList ++ rest }) target → Steps p.tables e below (T.setTop g) target) ∨
    (∃ (q : Addr) (vm₁ : Vm) (B : Pt), s.WarmedH vm₁ ∧ Stand p l e R s m args below meth c B.U B.locs B.cells B.slots ∧ PostX ⟨T.setVm vm₁, locs, cells, slots⟩ (Value.ref b :: argsL).toArray q B ∧
      Steps p.tables e below (T.setTop g) ((B.U.setTop { g with stack := rest }).pushFrame (.throwing q))) := by
  obtain ⟨mk, methM, hnamed, hmethM, hstM, habM⟩ := Cond.instanceMethod_spec hinst
  obtain ⟨methM', cM, hmethM', -, -, -, -, -, -, hsigM⟩ := Cond.code_spec hnamed hcode
  cases hmethM.symm.trans hmethM'
  obtain ⟨c2, r2, m2, q1, q2, q3, q4, kP, hkP, hkPi⟩ := Cond.selects_spec hsel
  cases hcls.symm.trans q1
  cases (State.methodFound?_of_named hnamed hy).symm.trans q2
  cases hnamed.symm.trans q3
  have hselP : selectMethod e.platform s.vm cellB.cls mk = .method mk := by rw [Launch.admits_selectMethod X.admits]; exact q4
  obtain ⟨vm₁, X₁, hstep₁⟩ := X.invokevirtual hexec hown hlink hnamed hmethM hstM hkP hkPi hy (a := b) (cell := cellB) hcell
    (fun z h => by rw [h] at hobj; cases hobj) hselP hmethM habM hkP hkPi (g := g) hg (argsL := argsL) (rest := rest) (hlen _ hsigM) hstack hdg
  rcases hK m meth c ⟨T.setVm vm₁, locs, cells, slots⟩ { g with stack := rest } (.invokevirtual index) mk (Value.ref b :: argsL).toArray X₁ hg hsize hdg hW (X₁.named hnamed) (hpre vm₁ X₁.warmed) with ⟨v, B, X', hpost, hsteps⟩ | ⟨q, B, X', hpost, hsteps⟩
  · exact Or.inl ⟨v, vm₁, B, X₁.warmed, X', hpost, fun target h => hstep₁ _ fun acts => by rw [doInvoke_state]; exact hsteps.trans h⟩
  · exact Or.inr ⟨q, vm₁, B, X₁.warmed, X', hpost, hstep₁ _ fun acts => by rw [doInvoke_state]; exact hsteps⟩
theorem vx_callS (X : Stand p l e R s m args below meth c T locs cells slots) (hexec : p.tables.exec = Jvm.exec) {own : String} {index : Nat} {y : MethodName} {bytes : ByteArray} {maxL : Nat} {ret : Option FieldType}
    (hown : s.vm.findClass own = some m.cls) (hlink : (Cond.methodLink own index y).before args s = true) (hstat : (Cond.static y).before args s = true) (hinit : (Cond.initialized y.cls).before args s = true)
    (hcode : (Cond.code y bytes maxL ret).before args s = true) (hy : y.cls ≠ "java/lang/invoke/MethodHandle" ∧ y.cls ≠ "java/lang/invoke/VarHandle")
    {W9 : Nat} {Pre : Pt → Array Value → Prop} {Post : Pt → Array Value → Option Value → Pt → Prop} {PostX : Pt → Array Value → Addr → Pt → Prop} (hK : vx_Back l R p e below s args y 3 W9 Pre Post PostX)
    {g : JFrame} (hg : g.method = m) (hsize : g.locals.size = c.maxLocals) {argsL rest : List Value} (hlen : ∀ sig, parseMethodDescriptor y.desc = some sig → argsL.length = sig.parameters.length)
    (hstack : g.stack = argsL.reverse ++ rest) (hW : 2 * g.monitorRoom + (rest.map fun v => v.category).sum ≤ W9) (hdg : decode c.code g.pc = .ok (.invokestatic index, 3))
    (hpre : ∀ vm₁, s.WarmedH vm₁ → Pre ⟨T.setVm vm₁, locs, cells, slots⟩ argsL.toArray) :
    (∃ (v : Option Value) (vm₁ : Vm) (B : Pt), s.WarmedH vm₁ ∧ Stand p l e R s m args below meth c B.U B.locs B.cells B.slots ∧ Post ⟨T.setVm vm₁, locs, cells, slots⟩ argsL.toArray v B ∧
      ∀ target, Steps p.tables e below (B.U.setTop { g with pc := g.pc + 3, stack := v.toList ++ rest }) target → Steps p.tables e below (T.setTop g) target) ∨
    (∃ (q : Addr) (vm₁ : Vm) (B : Pt), s.WarmedH vm₁ ∧ Stand p l e R s m args below meth c B.U B.locs B.cells B.slots ∧ PostX ⟨T.setVm vm₁, locs, cells, slots⟩ argsL.toArray q B ∧
      Steps p.tables e below (T.setTop g) ((B.U.setTop { g with stack := rest }).pushFrame (.throwing q))) := by
  obtain ⟨mk, hnamed⟩ := Cond.code_named hcode
  obtain ⟨methM, cM, hmethM, -, -, -, -, -, -, hsigM⟩ := Cond.code_spec hnamed hcode
  have hstatic : methM.isStatic = true := Cond.static_spec hnamed hmethM hstat
  obtain ⟨kP, hkP, -⟩ := className_of_methodNamed hnamed
  have hinitP : kP.init = .initialized := Cond.initialized_spec (findClass_of_methodNamed hnamed) hkP hinit
  obtain ⟨vm₁, X₁, hstep₁⟩ := X.invokestatic hexec hown hlink hnamed hmethM hstatic hkP hinitP hy (g := g) hg (argsL := argsL) (rest := rest) (hlen _ hsigM) hstack hdg
  rcases hK m meth c ⟨T.setVm vm₁, locs, cells, slots⟩ { g with stack := rest } (.invokestatic index) mk argsL.toArray X₁ hg hsize hdg hW (X₁.named hnamed) (hpre vm₁ X₁.warmed) with ⟨v, B, X', hpost, hsteps⟩ | ⟨q, B, X', hpost, hsteps⟩
  · exact Or.inl ⟨v, vm₁, B, X₁.warmed, X', hpost, fun target h => hstep₁ _ fun acts => by rw [doInvoke_state]; exact hsteps.trans h⟩
  · exact Or.inr ⟨q, vm₁, B, X₁.warmed, X', hpost, hstep₁ _ fun acts => by rw [doInvoke_state]; exact hsteps⟩
end Calls
theorem vx_cls {s : State} {T : State} {vm₁ : Vm} {E : String} {k : ClassId} (hW : s.WarmedH vm₁) (h : (T.setVm vm₁).vm.findClass E = some k) : s.vm.findClass E = some k := by
  have h1 : vm₁.findClass E = some k := h
  rw [hW.alike.findClass] at h1
  exact h1
/-- the method's frame g, with q thrown over it -/
def vx_W (p : Program) (l : Launch) (e : Env) (R : Room) (s : State) (m : MethodId) (args : Array Value) (below : List Frame) (meth : Method) (c : Code) (H : Heap) (locs : List Loc) (cells slots : Nat) (Q : State → Prop) (g : JFrame) (q : Addr) : Prop :=
  ∀ T : State, T.heap = H → Stand p l e R s m args below meth c T locs cells slots → ∃ t, Steps p.tables e below ((T.setTop g).pushFrame (.throwing q)) t ∧ Q t
def vx_Run (p : Program) (l : Launch) (e : Env) (R : Room) (s : State) (m : MethodId) (args : Array Value) (below : List Frame) (meth : Method) (c : Code) (H : Heap) (locs : List Loc) (cells slots mc ms : Nat) (g : JFrame) (rest : List Value) (Qa : State → Outcome → State → Prop) (XC : String → State → State → Prop) (free : Addr → Prop) : Prop :=
  ∀ T : State, T.heap = H → Stand p l e R s m args below meth c T locs cells slots →
    (∃ (v : Option Value) (st₀ t T' : State) (L : List Loc), st₀.heap = H ∧ Stand p l e R s m args below meth c T' (locs ++ L) (cells + mc) (slots + ms) ∧ (∀ q ∈ L, free q.base) ∧ T'.heap = t.heap ∧ T'.vm = t.vm ∧ Qa st₀ (.returned v) t ∧
      Goes p e below T g T' { g with pc := g.pc + 3, stack := v.toList ++ rest }) ∨
    (∃ (q : Addr) (st₀ t T' : State) (L : List Loc) (E : String) (ce : Cell), st₀.heap = H ∧ Stand p l e R s m args below meth c T' (locs ++ L) (cells + mc) (slots + ms) ∧ (∀ z ∈ L, free z.base) ∧ T'.heap = t.heap ∧ T'.vm = t.vm ∧ XC E st₀ t ∧ t.heap[q]? = some ce ∧ ce.vm = .none ∧ s.vm.findClass E = some ce.cls ∧
      Steps p.tables e below (T.setTop g) ((T'.setTop { g with stack := rest }).pushFrame (.throwing q)))
def vx_X {S : Type} (px : S → Prop) (B : String → S → State → Prop) (A : Nat → Prop) : String → State → State → Prop := fun E st t => ∃ u : S, px u ∧ B E u t ∧ va_F A st t
section Runs
variable {p : Program} {l : Launch} {e : Env} {R : Room} {s : State} {m : MethodId} {args : Array Value} {below : List Frame} {meth : Method} {c : Code} {H : Heap} {locs : List Loc} {cells slots : Nat}
variable {y : MethodName} {bytes cc : ByteArray} {maxL nL mc ms n index : Nat} {ret : Option FieldType} {ws : List Cond} {rm : Room} {Pc : Array Value → State → Prop} {Qc : Array Value → State → Outcome → State → Prop} {XC : String → State → State → Prop} {free : Addr → Prop} {Ts : List Cond} {own C : String} {b : Addr} {As rest : List Value} {g : JFrame}
theorem vx_callBack (cb : CallB R s args own index y bytes maxL ret ws rm mc ms n) (hM : vx_Met l y ws rm Pc Qc XC mc ms free) (hbl : FrameBlind Pc) : vx_Back l R p e below s args y 3 8 (PreOf R mc ms Pc) (PostOf Qc mc ms free) (vx_Post XC mc ms free) := by
  obtain ⟨hrc, hrs, hfr, hlo, hws, hcw, -, hini, -⟩ := cb
  exact vx_back (bytes := bytes) (maxL := maxL) (ret := ret) hM hbl hrc hrs hfr hlo hws hcw (fun a' U hW => word_at hW (Or.inl (by first | rfl | simp [Cond.onTables, Cond.keeps, Cond.steady])) hini)
theorem vx_runV (S : CallFix p m c cc nL s args Ts own) (hM : vx_Met l y ws rm Pc Qc XC mc ms free) (cw : CallW R s args own C index y bytes maxL ret ws rm mc ms n) (hp : PreV s H C b Pc As)
    (hg : g.method = m) (hn : As.length = n) (hsize : g.locals.size = nL) (hstack : g.stack = As.reverse ++ .ref b :: rest) (hW : 2 * g.monitorRoom + (rest.map fun v => v.category).sum ≤ 8) (hdg : decode cc g.pc = .ok (.invokevirtual index, 3)) (hf : cells + mc ≤ R.cells ∧ slots + ms ≤ R.slots) :
    vx_Run p l e R s m args below meth c H locs cells slots mc ms g rest (Qc (Value.ref b :: As).toArray) XC free := by
  have hK : vx_Back l R p e below s args y 3 8 (PreOf R mc ms Pc) (PostOf Qc mc ms free) (vx_Post XC mc ms free) := vx_callBack cw.1 hM hp.1
  obtain ⟨⟨-, -, -, -, -, -, hcode, -, hy, hlen, hl⟩, hin, hse⟩ := cw
  obtain ⟨hx, hb, hml, ho, -⟩ := S
  obtain ⟨-, ⟨cellB, hcB, hoB, hclB⟩, hPc⟩ := hp
  intro T hT X
  rcases vx_callV X hx (C := C) (bytes := bytes) (maxL := maxL) (ret := ret) ho hl hin hse hcode hy hK (by rw [hT]; exact hcB) hoB hclB hg (hsize.trans hml.symm) (argsL := As) (rest := rest) (fun sig h => hn.trans (hlen sig h)) hstack hW (by rw [hb]; exact hdg)
    (fun vm₁ hW₁ => ⟨hf.1, hf.2, hPc (T.setVm vm₁) hT hW₁⟩) with ⟨v, vm₁, ⟨U', l2, c2, s2⟩, hW₁, X', ⟨g', mk, t, L, e1, e2, hq, h1, hL, h2, h3⟩, st⟩ | ⟨q, vm₁, ⟨U', l2, c2, s2⟩, hW₁, X', ⟨g', mk, t, L, E, ce, e1, e2, hq, hce, hcv, hcl, h1, hL, h2, h3⟩, st⟩
  · dsimp only [Pt.U, Pt.locs, Pt.cells, Pt.slots] at X' e1 e2 h1 h2 h3 st
    subst h1; subst h2; subst h3
    exact Or.inl ⟨v, (T.setVm vm₁).calling g' mk (Value.ref b :: As).toArray, t, U', L, hT, X', hL, e1, e2, hq, st⟩
  · dsimp only [Pt.U, Pt.locs, Pt.cells, Pt.slots] at X' e1 e2 h1 h2 h3 st hcl
    subst h1; subst h2; subst h3
    exact Or.inr ⟨q, (T.setVm vm₁).calling g' mk (Value.ref b :: As).toArray, t, U', L, E, ce, hT, X', hL, e1, e2, hq, hce, hcv, vx_cls hW₁ hcl, st⟩
theorem vx_runS (S : CallFix p m c cc nL s args Ts own) (hM : vx_Met l y ws rm Pc Qc XC mc ms free) (cw : CallB R s args own index y bytes maxL ret ws rm mc ms n ∧ (Cond.static y).before args s = true) (hp : PreS s H Pc As)
    (hg : g.method = m) (hn : As.length = n) (hsize : g.locals.size = nL) (hstack : g.stack = As.reverse ++ rest) (hW : 2 * g.monitorRoom + (rest.map fun v => v.category).sum ≤ 8) (hdg : decode cc g.pc = .ok (.invokestatic index, 3)) (hf : cells + mc ≤ R.cells ∧ slots + ms ≤ R.slots) :
    vx_Run p l e R s m args below meth c H locs cells slots mc ms g rest (Qc As.toArray) XC free := by
  have hK : vx_Back l R p e below s args y 3 8 (PreOf R mc ms Pc) (PostOf Qc mc ms free) (vx_Post XC mc ms free) := vx_callBack cw.1 hM hp.1
  obtain ⟨⟨-, -, -, -, -, -, hcode, hini, hy, hlen, hl⟩, hstt⟩ := cw
  obtain ⟨hx, hb, hml, ho, -⟩ := S
  intro T hT X
  rcases vx_callS X hx (bytes := bytes) (maxL := maxL) (ret := ret) ho hl hstt hini hcode hy hK hg (hsize.trans hml.symm) (argsL := As) (rest := rest) (fun sig h => hn.trans (hlen sig h)) hstack hW (by rw [hb]; exact hdg)
    (fun vm₁ hW₁ => ⟨hf.1, hf.2, hp.2 (T.setVm vm₁) hT hW₁⟩) with ⟨v, vm₁, ⟨U', l2, c2, s2⟩, hW₁, X', ⟨g', mk, t, L, e1, e2, hq, h1, hL, h2, h3⟩, st⟩ | ⟨q, vm₁, ⟨U', l2, c2, s2⟩, hW₁, X', ⟨g', mk, t, L, E, ce, e1, e2, hq, hce, hcv, hcl, h1, hL, h2, h3⟩, st⟩
  · dsimp only [Pt.U, Pt.locs, Pt.cells, Pt.slots] at X' e1 e2 h1 h2 h3 st
    subst h1; subst h2; subst h3
    exact Or.inl ⟨v, (T.setVm vm₁).calling g' mk As.toArray, t, U', L, hT, X', hL, e1, e2, hq, st⟩
  · dsimp only [Pt.U, Pt.locs, Pt.cells, Pt.slots] at X' e1 e2 h1 h2 h3 st hcl
    subst h1; subst h2; subst h3
    exact Or.inr ⟨q, (T.setVm vm₁).calling g' mk As.toArray, t, U', L, E, ce, hT, X', hL, e1, e2, hq, hce, hcv, vx_cls hW₁ hcl, st⟩
end Runs
section Rows
variable {p : Program} {l : Launch} {e : Env} {R : Room} {s : State} {m : MethodId} {args : Array Value} {below : List Frame} {meth : Method} {c : Code} {H : Heap} {locs : List Loc} {cells slots : Nat} {Q : State → Prop}
variable {mc ms : Nat} {free : Addr → Prop} {A0 A1 : Nat → Prop} {H0 : Heap} {a : Array Value} {pc : Nat} {ls : Array Slot} {st0 rest : List Value}
theorem vx_keep {st₀ t T' : State} {L : List Loc} (h0 : st₀.heap = H) (e1 : T'.heap = t.heap) (hS : va_S A0 H0 H locs) (hA : ∀ q, q < H.size → A1 q → A0 q) (hf : ∀ q, free q → A0 q) (hL : ∀ q ∈ L, free q.base) (hF : va_F A1 st₀ t) :
    H.size ≤ T'.heap.size ∧ (∀ q : Nat, q < H.size → ¬ A1 q → T'.heap[q]? = H[q]?) ∧ va_S A0 H0 T'.heap (locs ++ L) := by
  obtain ⟨hz, hk⟩ := hF
  rw [h0] at hz hk
  exact ⟨by rw [e1]; exact hz, fun q h1 h2 => by rw [e1]; exact hk q h1 h2,
    ⟨Nat.le_trans hS.1 (by rw [e1]; exact hz), fun q h1 h2 => by rw [e1, hk q (Nat.lt_of_lt_of_le h1 hS.1) (fun z => h2 (hA q (Nat.lt_of_lt_of_le h1 hS.1) z))]; exact hS.2.1 q h1 h2, fun q hq => by
      rcases List.mem_append.mp hq with h | h
      · exact hS.2.2 q h
      · exact hf _ (hL q h)⟩⟩
theorem vx_calli {S SX : Type} {post : Int32 → S → Prop} {px : SX → Prop} {B : S → State → Prop} {BX : String → SX → State → Prop} {AX : Nat → Prop} (hr : vx_Run p l e R s m args below meth c H locs cells slots mc ms (F0 m pc ls st0) rest (va_Qi post B A1 a) (vx_X px BX AX) free) (hS : va_S A0 H0 H locs) (hA : ∀ q, q < H.size → A1 q → A0 q) (hf : ∀ q, free q → A0 q) (hAX : ∀ q, q < H.size → AX q → A0 q)
    (kx : ∀ (E : String) (ce : Cell) (q9 : Addr) (u : SX) (t : State) (H1 : Heap) (locs1 : List Loc), t.heap = H1 → s.vm.Alike t.vm → px u → BX E u t → H.size ≤ H1.size → (∀ q : Nat, q < H.size → ¬ AX q → H1[q]? = H[q]?) → va_S A0 H0 H1 locs1 → H1[q9]? = some ce → ce.vm = .none → s.vm.findClass E = some ce.cls → vx_W p l e R s m args below meth c H1 locs1 (cells + mc) (slots + ms) Q (F0 m pc ls rest) q9)
    (kk : ∀ (r : Int32) (u : S) (t : State) (H1 : Heap) (locs1 : List Loc), t.heap = H1 → s.vm.Alike t.vm → post r u → B u t → H.size ≤ H1.size → (∀ q : Nat, q < H.size → ¬ A1 q → H1[q]? = H[q]?) → va_S A0 H0 H1 locs1 → W p l e R s m args below meth c H1 locs1 (cells + mc) (slots + ms) Q (F0 m (pc + 3) ls (.int r :: rest))) : W p l e R s m args below meth c H locs cells slots Q (F0 m pc ls st0) := by
  intro T hT X
  rcases hr T hT X with ⟨v, st₀, t, T', L, h0, X', hL, e1, e2, ⟨⟨r, u, hv, hp, hb⟩, hF⟩, st⟩ | ⟨q, st₀, t, T', L, E, ce, h0, X', hL, e1, e2, ⟨u, hp, hb, hF⟩, hce, hcv, hcl, st⟩
  · cases hv
    obtain ⟨k1, k2, k3⟩ := vx_keep h0 e1 hS hA hf hL hF
    obtain ⟨t2, a1, b1⟩ := kk r u t T'.heap (locs ++ L) e1.symm (by rw [← e2]; exact X'.warmed.alike) hp hb k1 k2 k3 T' rfl X'
    exact ⟨t2, st t2 a1, b1⟩
  · obtain ⟨k1, k2, k3⟩ := vx_keep h0 e1 hS hAX hf hL hF
    obtain ⟨t2, a1, b1⟩ := kx E ce q u t T'.heap (locs ++ L) e1.symm (by rw [← e2]; exact X'.warmed.alike) hp hb k1 k2 k3 (by rw [e1]; exact hce) hcv hcl T' rfl X'
    exact ⟨t2, st.trans a1, b1⟩
theorem vx_calll {S SX : Type} {post : Int64 → S → Prop} {px : SX → Prop} {B : S → State → Prop} {BX : String → SX → State → Prop} {AX : Nat → Prop} (hr : vx_Run p l e R s m args below meth c H locs cells slots mc ms (F0 m pc ls st0) rest (va_Ql post B A1 a) (vx_X px BX AX) free) (hS : va_S A0 H0 H locs) (hA : ∀ q, q < H.size → A1 q → A0 q) (hf : ∀ q, free q → A0 q) (hAX : ∀ q, q < H.size → AX q → A0 q)
    (kx : ∀ (E : String) (ce : Cell) (q9 : Addr) (u : SX) (t : State) (H1 : Heap) (locs1 : List Loc), t.heap = H1 → s.vm.Alike t.vm → px u → BX E u t → H.size ≤ H1.size → (∀ q : Nat, q < H.size → ¬ AX q → H1[q]? = H[q]?) → va_S A0 H0 H1 locs1 → H1[q9]? = some ce → ce.vm = .none → s.vm.findClass E = some ce.cls → vx_W p l e R s m args below meth c H1 locs1 (cells + mc) (slots + ms) Q (F0 m pc ls rest) q9)
    (kk : ∀ (r : Int64) (u : S) (t : State) (H1 : Heap) (locs1 : List Loc), t.heap = H1 → s.vm.Alike t.vm → post r u → B u t → H.size ≤ H1.size → (∀ q : Nat, q < H.size → ¬ A1 q → H1[q]? = H[q]?) → va_S A0 H0 H1 locs1 → W p l e R s m args below meth c H1 locs1 (cells + mc) (slots + ms) Q (F0 m (pc + 3) ls (.long r :: rest))) : W p l e R s m args below meth c H locs cells slots Q (F0 m pc ls st0) := by
  intro T hT X
  rcases hr T hT X with ⟨v, st₀, t, T', L, h0, X', hL, e1, e2, ⟨⟨r, u, hv, hp, hb⟩, hF⟩, st⟩ | ⟨q, st₀, t, T', L, E, ce, h0, X', hL, e1, e2, ⟨u, hp, hb, hF⟩, hce, hcv, hcl, st⟩
  · cases hv
    obtain ⟨k1, k2, k3⟩ := vx_keep h0 e1 hS hA hf hL hF
    obtain ⟨t2, a1, b1⟩ := kk r u t T'.heap (locs ++ L) e1.symm (by rw [← e2]; exact X'.warmed.alike) hp hb k1 k2 k3 T' rfl X'
    exact ⟨t2, st t2 a1, b1⟩
  · obtain ⟨k1, k2, k3⟩ := vx_keep h0 e1 hS hAX hf hL hF
    obtain ⟨t2, a1, b1⟩ := kx E ce q u t T'.heap (locs ++ L) e1.symm (by rw [← e2]; exact X'.warmed.alike) hp hb k1 k2 k3 (by rw [e1]; exact hce) hcv hcl T' rfl X'
    exact ⟨t2, st.trans a1, b1⟩
theorem vx_callf {S SX : Type} {post : UInt32 → S → Prop} {px : SX → Prop} {B : S → State → Prop} {BX : String → SX → State → Prop} {AX : Nat → Prop} (hr : vx_Run p l e R s m args below meth c H locs cells slots mc ms (F0 m pc ls st0) rest (va_Qf post B A1 a) (vx_X px BX AX) free) (hS : va_S A0 H0 H locs) (hA : ∀ q, q < H.size → A1 q → A0 q) (hf : ∀ q, free q → A0 q) (hAX : ∀ q, q < H.size → AX q → A0 q)
    (kx : ∀ (E : String) (ce : Cell) (q9 : Addr) (u : SX) (t : State) (H1 : Heap) (locs1 : List Loc), t.heap = H1 → s.vm.Alike t.vm → px u → BX E u t → H.size ≤ H1.size → (∀ q : Nat, q < H.size → ¬ AX q → H1[q]? = H[q]?) → va_S A0 H0 H1 locs1 → H1[q9]? = some ce → ce.vm = .none → s.vm.findClass E = some ce.cls → vx_W p l e R s m args below meth c H1 locs1 (cells + mc) (slots + ms) Q (F0 m pc ls rest) q9)
    (kk : ∀ (r : UInt32) (u : S) (t : State) (H1 : Heap) (locs1 : List Loc), t.heap = H1 → s.vm.Alike t.vm → post r u → B u t → H.size ≤ H1.size → (∀ q : Nat, q < H.size → ¬ A1 q → H1[q]? = H[q]?) → va_S A0 H0 H1 locs1 → W p l e R s m args below meth c H1 locs1 (cells + mc) (slots + ms) Q (F0 m (pc + 3) ls (.float r :: rest))) : W p l e R s m args below meth c H locs cells slots Q (F0 m pc ls st0) := by
  intro T hT X
  rcases hr T hT X with ⟨v, st₀, t, T', L, h0, X', hL, e1, e2, ⟨⟨r, u, hv, hp, hb⟩, hF⟩, st⟩ | ⟨q, st₀, t, T', L, E, ce, h0, X', hL, e1, e2, ⟨u, hp, hb, hF⟩, hce, hcv, hcl, st⟩
  · cases hv
    obtain ⟨k1, k2, k3⟩ := vx_keep h0 e1 hS hA hf hL hF
    obtain ⟨t2, a1, b1⟩ := kk r u t T'.heap (locs ++ L) e1.symm (by rw [← e2]; exact X'.warmed.alike) hp hb k1 k2 k3 T' rfl X'
    exact ⟨t2, st t2 a1, b1⟩
  · obtain ⟨k1, k2, k3⟩ := vx_keep h0 e1 hS hAX hf hL hF
    obtain ⟨t2, a1, b1⟩ := kx E ce q u t T'.heap (locs ++ L) e1.symm (by rw [← e2]; exact X'.warmed.alike) hp hb k1 k2 k3 (by rw [e1]; exact hce) hcv hcl T' rfl X'
    exact ⟨t2, st.trans a1, b1⟩
theorem vx_calld {S SX : Type} {post : UInt64 → S → Prop} {px : SX → Prop} {B : S → State → Prop} {BX : String → SX → State → Prop} {AX : Nat → Prop} (hr : vx_Run p l e R s m args below meth c H locs cells slots mc ms (F0 m pc ls st0) rest (va_Qd post B A1 a) (vx_X px BX AX) free) (hS : va_S A0 H0 H locs) (hA : ∀ q, q < H.size → A1 q → A0 q) (hf : ∀ q, free q → A0 q) (hAX : ∀ q, q < H.size → AX q → A0 q)
    (kx : ∀ (E : String) (ce : Cell) (q9 : Addr) (u : SX) (t : State) (H1 : Heap) (locs1 : List Loc), t.heap = H1 → s.vm.Alike t.vm → px u → BX E u t → H.size ≤ H1.size → (∀ q : Nat, q < H.size → ¬ AX q → H1[q]? = H[q]?) → va_S A0 H0 H1 locs1 → H1[q9]? = some ce → ce.vm = .none → s.vm.findClass E = some ce.cls → vx_W p l e R s m args below meth c H1 locs1 (cells + mc) (slots + ms) Q (F0 m pc ls rest) q9)
    (kk : ∀ (r : UInt64) (u : S) (t : State) (H1 : Heap) (locs1 : List Loc), t.heap = H1 → s.vm.Alike t.vm → post r u → B u t → H.size ≤ H1.size → (∀ q : Nat, q < H.size → ¬ A1 q → H1[q]? = H[q]?) → va_S A0 H0 H1 locs1 → W p l e R s m args below meth c H1 locs1 (cells + mc) (slots + ms) Q (F0 m (pc + 3) ls (.double r :: rest))) : W p l e R s m args below meth c H locs cells slots Q (F0 m pc ls st0) := by
  intro T hT X
  rcases hr T hT X with ⟨v, st₀, t, T', L, h0, X', hL, e1, e2, ⟨⟨r, u, hv, hp, hb⟩, hF⟩, st⟩ | ⟨q, st₀, t, T', L, E, ce, h0, X', hL, e1, e2, ⟨u, hp, hb, hF⟩, hce, hcv, hcl, st⟩
  · cases hv
    obtain ⟨k1, k2, k3⟩ := vx_keep h0 e1 hS hA hf hL hF
    obtain ⟨t2, a1, b1⟩ := kk r u t T'.heap (locs ++ L) e1.symm (by rw [← e2]; exact X'.warmed.alike) hp hb k1 k2 k3 T' rfl X'
    exact ⟨t2, st t2 a1, b1⟩
  · obtain ⟨k1, k2, k3⟩ := vx_keep h0 e1 hS hAX hf hL hF
    obtain ⟨t2, a1, b1⟩ := kx E ce q u t T'.heap (locs ++ L) e1.symm (by rw [← e2]; exact X'.warmed.alike) hp hb k1 k2 k3 (by rw [e1]; exact hce) hcv hcl T' rfl X'
    exact ⟨t2, st.trans a1, b1⟩
theorem vx_callv {S SX : Type} {post : S → Prop} {px : SX → Prop} {B : S → State → Prop} {BX : String → SX → State → Prop} {AX : Nat → Prop} (hr : vx_Run p l e R s m args below meth c H locs cells slots mc ms (F0 m pc ls st0) rest (va_Qv post B A1 a) (vx_X px BX AX) free) (hS : va_S A0 H0 H locs) (hA : ∀ q, q < H.size → A1 q → A0 q) (hf : ∀ q, free q → A0 q) (hAX : ∀ q, q < H.size → AX q → A0 q)
    (kx : ∀ (E : String) (ce : Cell) (q9 : Addr) (u : SX) (t : State) (H1 : Heap) (locs1 : List Loc), t.heap = H1 → s.vm.Alike t.vm → px u → BX E u t → H.size ≤ H1.size → (∀ q : Nat, q < H.size → ¬ AX q → H1[q]? = H[q]?) → va_S A0 H0 H1 locs1 → H1[q9]? = some ce → ce.vm = .none → s.vm.findClass E = some ce.cls → vx_W p l e R s m args below meth c H1 locs1 (cells + mc) (slots + ms) Q (F0 m pc ls rest) q9)
    (kk : ∀ (u : S) (t : State) (H1 : Heap) (locs1 : List Loc), t.heap = H1 → s.vm.Alike t.vm → post u → B u t → H.size ≤ H1.size → (∀ q : Nat, q < H.size → ¬ A1 q → H1[q]? = H[q]?) → va_S A0 H0 H1 locs1 → W p l e R s m args below meth c H1 locs1 (cells + mc) (slots + ms) Q (F0 m (pc + 3) ls (rest))) : W p l e R s m args below meth c H locs cells slots Q (F0 m pc ls st0) := by
  intro T hT X
  rcases hr T hT X with ⟨v, st₀, t, T', L, h0, X', hL, e1, e2, ⟨⟨u, hv, hp, hb⟩, hF⟩, st⟩ | ⟨q, st₀, t, T', L, E, ce, h0, X', hL, e1, e2, ⟨u, hp, hb, hF⟩, hce, hcv, hcl, st⟩
  · cases hv
    obtain ⟨k1, k2, k3⟩ := vx_keep h0 e1 hS hA hf hL hF
    obtain ⟨t2, a1, b1⟩ := kk u t T'.heap (locs ++ L) e1.symm (by rw [← e2]; exact X'.warmed.alike) hp hb k1 k2 k3 T' rfl X'
    exact ⟨t2, st t2 a1, b1⟩
  · obtain ⟨k1, k2, k3⟩ := vx_keep h0 e1 hS hAX hf hL hF
    obtain ⟨t2, a1, b1⟩ := kx E ce q u t T'.heap (locs ++ L) e1.symm (by rw [← e2]; exact X'.warmed.alike) hp hb k1 k2 k3 (by rw [e1]; exact hce) hcv hcl T' rfl X'
    exact ⟨t2, st.trans a1, b1⟩
/-- caught by the row x of this method's table; the rows ahead don't take it -/
theorem vx_catch {own name : String} {E : String} {ce : Cell} {q : Addr} (hown : s.vm.findClass own = some m.cls) (pre : List ExceptionTableEntry) (x : ExceptionTableEntry) (suf : List ExceptionTableEntry) (hsplit : c.exceptionTable.toList = pre ++ x :: suf)
    (hpass : ∀ z ∈ pre, covers z pc = false ∨ (z.catchType ≠ 0 ∧ ∃ nm : String, (Cond.classLink own z.catchType nm).before args s = true ∧ va_Nc E nm s)) (hx : covers x pc = true) (h0 : x.catchType ≠ 0)
    (hlink : (Cond.classLink own x.catchType name).before args s = true) (hcast : (Cond.castable E name).before args s = true) (hcell : H[q]? = some ce) (hv : ce.vm = .none) (hcl : s.vm.findClass E = some ce.cls)
    (kk : W p l e R s m args below meth c H locs cells slots Q (F0 m x.handlerPc ls [.ref q])) : vx_W p l e R s m args below meth c H locs cells slots Q (F0 m pc ls rest) q := by
  intro T hT X
  have hpl : e.platform.magicAccessors = ({} : Platform).magicAccessors := by rw [X.admits.platform]
  obtain ⟨c3, c4, hc3, hc4, hasg⟩ := Cond.castable_spec hcast
  cases Option.some.inj (hc3.symm.trans hcl)
  obtain ⟨c5, hc5, hcl5⟩ := Cond.classLink_spec hown hlink e.platform hpl
  cases Option.some.inj (hc4.symm.trans hc5)
  obtain ⟨vm', X', st⟩ := X.thenCaughtThrough q (g := F0 m pc ls rest) rfl (Steps.refl _) (by rw [hT]; exact hcell) (by rw [hv]; rfl) (by obtain ⟨k9, h9, -⟩ := Vm.findClass_spec hcl; exact ⟨k9, h9⟩) pre x suf hsplit
    (fun z hz => by
      rcases hpass z hz with h | ⟨hz0, nm, hl1, hn1⟩
      · exact Or.inl h
      · obtain ⟨c6, hc6, hcl6⟩ := Cond.classLink_spec hown hl1 e.platform hpl
        obtain ⟨a8, b8, h1, h2, h3⟩ := hn1
        cases Option.some.inj (h1.symm.trans hcl)
        cases Option.some.inj (h2.symm.trans hc6)
        exact Or.inr ⟨hz0, _, hcl6, h3⟩) hx (Or.inr ⟨h0, c4, hcl5, hasg⟩)
  obtain ⟨t, a1, b1⟩ := kk (T.setVm vm') hT X'
  exact ⟨t, st.trans a1, b1⟩
end Rows
section Ends
variable {p : Program} {l : Launch} {e : Env} {R : Room} {s : State} {m : MethodId} {args : Array Value} {below : List Frame} {meth : Method} {c : Code} {H : Heap} {locs : List Loc} {cells slots : Nat} {Q : State → Prop}
variable {mc ms : Nat} {free : Addr → Prop} {A0 A1 : Nat → Prop} {H0 : Heap} {a : Array Value} {ls : Array Slot} {st0 rest : List Value}
variable {Qc : Array Value → State → Outcome → State → Prop} {XC : String → State → State → Prop}
/-- what a body that may throw owes at its end -/
def vx_MQ (below : List Frame) (Qc : Array Value → State → Outcome → State → Prop) (XC : String → State → State → Prop) (a : Array Value) (s : State) (mc ms : Nat) (free : Addr → Prop) : State → Prop := fun t =>
  ∃ o, t.status = .running ∧ Ended t below o ∧ vx_Q Qc XC mc ms free a s o t
theorem vx_ret {g : JFrame} {mc ms : Nat} (k : W p l e R s m args below meth c H locs cells slots (MQ below Qc args s mc ms free) g) : W p l e R s m args below meth c H locs cells slots (vx_MQ below Qc XC args s mc ms free) g := by
  intro T hT X
  obtain ⟨t, a1, o, b1, b2, b3, b4⟩ := k T hT X
  exact ⟨t, a1, o, b1, b2, Or.inl ⟨b3, b4⟩⟩
/-- not caught here: it goes on to the caller -/
theorem vx_widen {g : JFrame} {q : Addr} {k n : Nat} (h1 : cells ≤ k) (h2 : slots ≤ n) (kk : vx_W p l e R s m args below meth c H locs k n Q g q) : vx_W p l e R s m args below meth c H locs cells slots Q g q := fun T hT X => kk T hT (stand_widen X h1 h2)
theorem vx_out {pc : Nat} {E : String} {ce : Cell} {q : Addr} {mc ms : Nat} (hout : ∀ x ∈ c.exceptionTable.toList, covers x pc = false) (hlocks : meth.locks = false) (hcell : H[q]? = some ce) (hv : ce.vm = .none) (hcl : s.vm.findClass E = some ce.cls)
    (hx : ∀ t : State, t.heap = H → s.vm.Alike t.vm → XC E s t) (hf : ∀ z ∈ locs, free z.base) (hc : cells ≤ mc) (hs : slots ≤ ms) :
    vx_W p l e R s m args below meth c H locs cells slots (vx_MQ below Qc XC args s mc ms free) (F0 m pc ls rest) q := by
  intro T hT X
  obtain ⟨st1, hrun, hend, hW, hsm⟩ := X.leaveThrown q (g := F0 m pc ls rest) rfl rfl rfl hout hlocks
  have hcell9 : (T.setFrames (.throwing q :: below)).heap[q]? = some ce := by
    show T.heap[q]? = some ce
    rw [hT]; exact hcell
  exact ⟨_, st1, .threw q, hrun, hend, Or.inr ⟨q, rfl, E, ce, locs, hx _ hT hW.alike, hcell9, hv, hcl, hW, hsm.mono hc hs, hf⟩⟩
theorem vx_frame {U : State} {k n : Nat} (h : s.sameButNew ({ U with vm := s.vm } : State) locs k n) : s.heap.size ≤ U.heap.size ∧ ∀ q : Nat, q < s.heap.size → (∀ z ∈ locs, z.base ≠ q) → U.heap[q]? = s.heap[q]? := by
  obtain ⟨-, h2, -, -, -, h6⟩ := h
  refine ⟨h2, fun q hq hz => ?_⟩
  obtain ⟨c9, e1, e2, e3, e4⟩ := h6 q _ (Array.getElem?_eq_getElem hq)
  have hs : c9.slots = (s.heap[q]).slots := Array.ext_getElem? fun i => e4 i fun hm => hz _ hm rfl
  have h9 : c9 = s.heap[q] := by
    rw [hs] at e2
    exact e2
  have e5 : U.heap[q]? = some c9 := e1
  rw [e5, h9, Array.getElem?_eq_getElem hq]
/-- the words of a throw but the four that speak of the heap -/
def vx_no (w : Cond) : Bool := decide (w ≠ .isRef (.static Bundle.tN "UNASSIGNED_STACK" Bundle.steD)) && decide (w ≠ .isRef (.static Bundle.tN "SUPPRESSED_SENTINEL" Bundle.listD)) && decide (w ≠ .laysStatic Bundle.tN "UNASSIGNED_STACK" Bundle.steD) && decide (w ≠ .laysStatic Bundle.tN "SUPPRESSED_SENTINEL" Bundle.listD)
def vx_at0 (own : String) (ic : Nat) (X : String) (names : List String) : List Cond := (Bundle.ownAtoms0 own ic X names).filter vx_no
def vx_atS (own : String) (ic : Nat) (X : String) (names : List String) : List Cond := (Bundle.ownAtoms own ic X names).filter vx_no
/-- a word that the tables alone decide, or a good one -/
def vx_ot (w : Cond) : Bool := w.onTables || goodWord w
theorem vx_ot_at {args a' : Array Value} {s U : State} {w : Cond} (hW : s.WarmedH U.vm) (hvm : s.vm = U.vm) (hg : vx_ot w = true) (h : w.before args s = true) : w.before a' U = true := by
  simp only [vx_ot, Bool.or_eq_true] at hg
  rcases hg with hg | hg
  · exact va_tabs hg hvm h
  · exact word_at hW (good_of_word hg) h
/-- a list's words: the good ones out of the method's own list, the others by premises of their own -/
theorem vx_hat {args : Array Value} {s : State} {L B : List Cond} (h1 : ∀ w ∈ L.filter goodWord, w.before args s = true) (h2 : ∀ w ∈ L.filter (fun w => !goodWord w), w ∈ B) (h3 : ∀ w ∈ B, w.before args s = true) : ∀ w ∈ L, w.before args s = true := by
  intro w hw
  by_cases g : goodWord w = true
  · exact h1 w (List.mem_filter.mpr ⟨hw, g⟩)
  · refine h3 w (h2 w (List.mem_filter.mpr ⟨hw, ?_⟩))
    show (!goodWord w) = true
    cases hgw : goodWord w
    · rfl
    · exact absurd hgw g
theorem vx_c {args : Array Value} {s : State} {w : Cond} {B : List Cond} (h : w.before args s = true) (t : ∀ w ∈ B, w.before args s = true) : ∀ w' ∈ w :: B, w'.before args s = true := fun w' h' => (List.mem_cons.mp h').elim (fun e => by rw [e]; exact h) (t w')
theorem vx_n {args : Array Value} {s : State} : ∀ w ∈ ([] : List Cond), w.before args s = true := fun _ h => nomatch h
theorem vx_own {args : Array Value} {s : State} {L : List Cond} (h1 : ∀ w ∈ L.filter vx_no, w.before args s = true)
    (hU : (Cond.isRef (.static Bundle.tN "UNASSIGNED_STACK" Bundle.steD)).before args s = true) (hN : (Cond.isRef (.static Bundle.tN "SUPPRESSED_SENTINEL" Bundle.listD)).before args s = true)
    (lU : (Cond.laysStatic Bundle.tN "UNASSIGNED_STACK" Bundle.steD).before args s = true) (lN : (Cond.laysStatic Bundle.tN "SUPPRESSED_SENTINEL" Bundle.listD).before args s = true) : ∀ w ∈ L, w.before args s = true := by
  intro w hw
  by_cases e1 : w = .isRef (.static Bundle.tN "UNASSIGNED_STACK" Bundle.steD)
  · rw [e1]; exact hU
  · by_cases e2 : w = .isRef (.static Bundle.tN "SUPPRESSED_SENTINEL" Bundle.listD)
    · rw [e2]; exact hN
    · by_cases e3 : w = .laysStatic Bundle.tN "UNASSIGNED_STACK" Bundle.steD
      · rw [e3]; exact lU
      · by_cases e4 : w = .laysStatic Bundle.tN "SUPPRESSED_SENTINEL" Bundle.listD
        · rw [e4]; exact lN
        · exact h1 w (List.mem_filter.mpr ⟨hw, by unfold vx_no; rw [decide_eq_true e1, decide_eq_true e2, decide_eq_true e3, decide_eq_true e4]; rfl⟩)
/-- where a static field lies, its class's statics cell in H -/
def vx_L (C n d : String) (A : Nat → Prop) (U : State) (H : Heap) : Prop := ∃ (c : ClassId) (k : Class) (i : Nat) (f : Field) (a : Nat) (cell : Cell), U.vm.findClass C = some c ∧ U.fieldFound? C n d = some (c, k, i, f) ∧ f.isStatic = true ∧ k.statics = some a ∧ H[a]? = some cell ∧ cell.vm.isStatics = true ∧ cell.cls = c ∧ f.slot < cell.slots.size ∧ k.staticTypes[f.slot]? = some f.type ∧ ¬ A a
theorem vx_L.moved {C n d : String} {A : Nat → Prop} {u U : State} {H : Heap} (hvm : u.vm.Alike U.vm) (h : vx_L C n d A u H) : vx_L C n d A U H := by
  obtain ⟨c, k, i, f, a, cell, h1, h2, h3, h4, h5, h6, h7, h8, h9, h10⟩ := h
  obtain ⟨k', hi', he⟩ := State.fieldFound?_setVm hvm h2
  exact ⟨c, k', i, f, a, cell, by rw [hvm.findClass]; exact h1, hi', h3, by rw [he]; exact h4, h5, h6, h7, h8, by rw [he]; exact h9, h10⟩
theorem vx_L.kept {C n d : String} {A : Nat → Prop} {U : State} {H H1 : Heap} (h : vx_L C n d A U H) (hq : ∀ a : Nat, a < H.size → ¬ A a → H1[a]? = H[a]?) : vx_L C n d A U H1 := by
  obtain ⟨c, k, i, f, a, cell, h1, h2, h3, h4, h5, h6, h7, h8, h9, h10⟩ := h
  exact ⟨c, k, i, f, a, cell, h1, h2, h3, h4, by rw [hq a (Array.getElem?_eq_some_iff.mp h5).1 h10]; exact h5, h6, h7, h8, h9, h10⟩
theorem vx_L.narrow {C n d : String} {A B : Nat → Prop} {U : State} {H : Heap} (h : vx_L C n d A U H) (hAB : ∀ q, B q → A q) : vx_L C n d B U H := by
  obtain ⟨c, k, i, f, a, cell, h1, h2, h3, h4, h5, h6, h7, h8, h9, h10⟩ := h
  exact ⟨c, k, i, f, a, cell, h1, h2, h3, h4, h5, h6, h7, h8, h9, fun z => h10 (hAB _ z)⟩
theorem vx_L.word {C n d : String} {A : Nat → Prop} {s : State} {args : Array Value} (h : vx_L C n d A s s.heap) : (Cond.laysStatic C n d).before args s = true := by
  obtain ⟨c, k, i, f, a, cell, h1, h2, h3, h4, h5, h6, h7, h8, h9, -⟩ := h
  show (Cond.laysStatic C n d).holds args s none s [] = true
  exact Cond.laysStatic_of h1 h2 h3 h4 h5 h6 h7 h8 h9
/-- .. and what it holds: null or some reference -/
def vx_Zq (C n d : String) (A : Nat → Prop) (U : State) (H : Heap) : Prop := va_Zq C n d A U H ∧ vx_L C n d A U H
theorem vx_Zq.moved {C n d : String} {A : Nat → Prop} {u U : State} {H : Heap} (hvm : u.vm.Alike U.vm) (h : vx_Zq C n d A u H) : vx_Zq C n d A U H := ⟨va_Zq.moved hvm h.1, vx_L.moved hvm h.2⟩
theorem vx_Zq.kept {C n d : String} {A : Nat → Prop} {U : State} {H H1 : Heap} (h : vx_Zq C n d A U H) (hq : ∀ a : Nat, a < H.size → ¬ A a → H1[a]? = H[a]?) : vx_Zq C n d A U H1 := ⟨va_Zq.kept h.1 hq, vx_L.kept h.2 hq⟩
theorem vx_Zq.narrow {C n d : String} {A B : Nat → Prop} {U : State} {H : Heap} (h : vx_Zq C n d A U H) (hAB : ∀ q, B q → A q) : vx_Zq C n d B U H := ⟨va_Zq.narrow h.1 hAB, vx_L.narrow h.2 hAB⟩
theorem vx_Zqof {args : Array Value} {s : State} {C n d : String} {A : Nat → Prop} (hl : (Cond.laysStatic C n d).before args s = true) (hini : (Cond.initialized C).before args s = true) (h : (Cond.isRef (.static C n d)).before args s = true) (hA : ∀ a : Nat, a < s.heap.size → ¬ A a) : vx_Zq C n d A s s.heap := by
  refine ⟨va_Zqof hl hini h hA, ?_⟩
  obtain ⟨c, k, i, f, a, cell, h1, h2, h3, h4, h5, h6, h7, h8, h9⟩ := Cond.laysStatic_spec hl
  exact ⟨c, k, i, f, a, cell, h1, h2, h3, h4, h5, h6, h7, h8, h9, hA a (Array.getElem?_eq_some_iff.mp h5).1⟩
theorem vx_isRef {C n d : String} {v : Value} {A : Nat → Prop} {s : State} {args : Array Value} (h : va_Z C n d v A s s.heap) (hv : v.isRef = true) : (Cond.isRef (.static C n d)).before args s = true := by
  obtain ⟨cf, kf, fi, f, a, cell, h1, h2, h3, h4, h5, h6, h7, -⟩ := h
  have he : (Term.static C n d).eval args s none [] s = some v := by
    simp [Term.eval, State.fieldNamed?, h1, h2, h4, h5, h6, h7]
  simp only [Cond.before, Cond.holds, Cond.value, he]
  cases v <;> simp_all [Value.isRef]
theorem vx_isRefq {C n d : String} {A : Nat → Prop} {s : State} {args : Array Value} (h : va_Zq C n d A s s.heap) : (Cond.isRef (.static C n d)).before args s = true := by
  rcases h with h | ⟨t, h⟩
  · exact vx_isRef h rfl
  · exact vx_isRef h rfl
/-- the same frame, seen from here: as if the method were called anew in this heap -/
theorem vx_rebase {T : State} (X : Stand p l e R s m args below meth c T locs cells slots) {R' : Room} (hf : R'.frames ≤ R.frames) (hl : R'.locals ≤ R.locals) (hc : cells + R'.cells ≤ R.cells) (hs : slots + R'.slots ≤ R.slots) :
    Stand p l e R' ((T.setVm s.vm).setFrames (.invoking m args :: below)) m args below meth c T [] 0 0 := by
  have htop : (T.setVm s.vm).topJava?.isSome := X.here.top
  have hF : ((T.setVm s.vm).setFrames (.invoking m args :: below)).frames = .invoking m args :: below := State.frames_setFrames _ (State.cur_lt_of_top htop)
  obtain ⟨g₀, hg0⟩ := Option.isSome_iff_exists.mp htop
  obtain ⟨r, hr⟩ := State.topJava?_eq_some.mp hg0
  have hl9 : e.platform.stackLimits (T.setVm s.vm).me = e.platform.stackLimits s.me := X.limits
  have hb9 : (T.setVm s.vm).me.stackBytes = s.me.stackBytes := X.bytes
  refine ⟨X.admits, X.cas, X.clock, hF, ?_, X.hears, X.method, X.code, X.here, X.tail, X.warmed, ?_, ?_, ?_⟩
  · have h := X.room
    have hU : ((T.setVm s.vm).setFrames (.invoking m args :: below)).localsInUse = s.localsInUse := by
      rw [State.localsInUse_invoking hF (meth := meth) (c := c) X.method X.code, State.localsInUse_invoking X.frames X.method X.code]
    simp only [State.hasRoom, Bool.and_eq_true, decide_eq_true_eq] at h ⊢
    obtain ⟨⟨⟨⟨h1, h2, h3, h4, h5, h6⟩, h7⟩, h8⟩, h9⟩ := h
    rw [X.frames, List.length_cons] at h2 h3
    have q1 := X.heapSize
    have q2 := X.used
    simp only [hF, hU, List.length_cons, State.stackLimits_setFrames, State.stackBytes_setFrames, hl9, hb9]
    refine ⟨⟨⟨⟨by omega, by omega, by omega, by omega, by omega, h6⟩, ?_⟩, ?_⟩, X.book⟩
    · show T.heap.size + R'.cells ≤ e.platform.maxCells
      omega
    · show T.slotsUsed + R'.slots ≤ e.platform.maxSlots
      omega
  · rw [State.stackLimits_setFrames]; rfl
  · rw [State.stackBytes_setFrames]; rfl
  · refine ⟨?_, Nat.le_refl _, Nat.le_refl _, ?_, ?_, fun a c9 h9 => ⟨c9, h9, rfl, rfl, fun _ _ => rfl⟩⟩
    · obtain ⟨t, ht, -⟩ := State.frames_cons hr
      show T.setVm s.vm = { ((T.setVm s.vm).setFrames (.invoking m args :: below)).setFrames (T.setVm s.vm).frames with heap := T.heap, slotsUsed := T.slotsUsed }
      rw [State.setFrames_setFrames, State.setFrames_self ht]
      rfl
    · show T.slotsUsed = T.slotsUsed + ((T.heap.toList.drop T.heap.size).map (·.slots.size)).sum
      rw [List.drop_eq_nil_of_le (Nat.le_of_eq Array.length_toList)]
      rfl
    · show ((T.heap.toList.drop T.heap.size).map (·.slots.size)).sum ≤ 0
      rw [List.drop_eq_nil_of_le (Nat.le_of_eq Array.length_toList)]
      exact Nat.le_refl _
/-- 'throw new E()': new; dup; invokespecial; athrow -/
theorem vx_throw0 {cc : ByteArray} {pc : Nat} (hexec : p.tables.exec = Jvm.exec) (hb : c.code = cc) (hl : l.stackTraces = false) {own cls : String} {names : List String} {ik ic mc ms : Nat} {A : Nat → Prop}
    (hown : s.vm.findClass own = some m.cls) (hcls : Bundle.fit cls = true) (hnames : ∀ n ∈ names, Bundle.fit n = true)
    (hk : (Cond.classLink own ik cls).before args s = true) (hini : (Cond.initialized cls).before args s = true) (hat : ∀ w ∈ vx_at0 own ic cls names, w.before args s = true)
    (hgood : ∀ w ∈ Cond.classLink own ik cls :: Cond.initialized cls :: vx_at0 own ic cls names, vx_ot w = true)
    (hU : vx_Zq Bundle.tN "UNASSIGNED_STACK" Bundle.steD A s s.heap) (hN : vx_Zq Bundle.tN "SUPPRESSED_SENTINEL" Bundle.listD A s s.heap) (hS : va_S A s.heap H locs) (hsize : ls.size = c.maxLocals)
    (d0 : decode cc pc = .ok (.new ik, 3)) (d3 : decode cc (pc + 3) = .ok (.dup, 1)) (d4 : decode cc (pc + 4) = .ok (.invokespecial ic, 3)) (d7 : decode cc (pc + 7) = .ok (.athrow, 1))
    (hout : ∀ x ∈ c.exceptionTable.toList, covers x (pc + 7) = false)
    (hRframes : names.length + 3 < R.frames) (hRlocals : (rest.map fun v => v.category).sum + (13 * (names.length + 1) + 42) ≤ R.locals) (hRcells : cells + 1 ≤ R.cells) (hRslots : slots + 6 ≤ R.slots) (hlocks : meth.locks = false)
    (hx : ∀ t : State, s.vm.Alike t.vm → H.size ≤ t.heap.size → (∀ q : Nat, q < H.size → t.heap[q]? = H[q]?) → XC cls s t)
    (hf : ∀ z ∈ locs, free z.base) (hc : cells + 1 ≤ mc) (hs : slots + 6 ≤ ms) :
    W p l e R s m args below meth c H locs cells slots (vx_MQ below Qc XC args s mc ms free) (F0 m pc ls rest) := by
  intro T hT X
  have htr : e.platform.stackTraces = false := (show e.platform.stackTraces = l.stackTraces by rw [X.admits.platform]).trans hl
  have Y := vx_rebase X (R' := { frames := R.frames, locals := R.locals, cells := 1, slots := 6 }) (Nat.le_refl _) (Nat.le_refl _) hRcells hRslots
  obtain ⟨s', hA⟩ : ∃ z, z = (T.setVm s.vm).setFrames (.invoking m args :: below) := ⟨_, rfl⟩
  rw [← hA] at Y
  have hvm : s'.vm = s.vm := by rw [hA]; rfl
  have hhp : s'.heap = H := by rw [hA]; exact hT
  have hW0 : s.WarmedH s'.vm := by rw [hvm]; exact State.WarmedH.refl s
  have hat' : ∀ w ∈ vx_at0 own ic cls names, w.before args s' = true := fun w hw => vx_ot_at hW0 hvm.symm (hgood w (List.mem_cons_of_mem _ (List.mem_cons_of_mem _ hw))) (hat w hw)
  have hk' : (Cond.classLink own ik cls).before args s' = true := vx_ot_at hW0 hvm.symm (hgood _ List.mem_cons_self) hk
  have hini' : (Cond.initialized cls).before args s' = true := vx_ot_at hW0 hvm.symm (hgood _ (List.mem_cons_of_mem _ List.mem_cons_self)) hini
  have hU' : vx_Zq Bundle.tN "UNASSIGNED_STACK" Bundle.steD A s' s'.heap := by rw [hhp]; exact vx_Zq.moved hW0.alike (hU.kept hS.2.1)
  have hN' : vx_Zq Bundle.tN "SUPPRESSED_SENTINEL" Bundle.listD A s' s'.heap := by rw [hhp]; exact vx_Zq.moved hW0.alike (hN.kept hS.2.1)
  have h : ∀ w ∈ Bundle.ownAtoms0 own ic cls names, w.before args s' = true := vx_own hat' (vx_isRefq hU'.1) (vx_isRefq hN'.1) hU'.2.word hN'.2.word
  have hown' : s'.vm.findClass own = some m.cls := by rw [hvm]; exact hown
  have hins : (Cond.instantiable cls 6).before args s' = true := h _ (by simp [Bundle.ownAtoms0])
  obtain ⟨vm₁, cX, kX, hfX, hkX, -, -, X₁, st1⟩ := Y.newCold hexec (own := own) (C := cls) (index := ik) (n := 6) hown' hk' hins hini'
    (g := F0 m pc ls rest) rfl (by rw [hb]; exact d0) (Nat.le_refl _) (Nat.le_refl _)
  generalize hT1 : (T.setVm vm₁).pushCell { cls := cX, slots := kX.instanceTypes.map defaultValue, vm := .none } = T1 at X₁ st1
  have hcat : (Value.ref T.heap.size).category = 1 := rfl
  have hcellA : T1.heap[T.heap.size]? = some (freshCell cX kX) := by rw [← hT1]; exact State.heap_pushCell_size _ _
  have d3' : decode c.code (pc + 3) = .ok (.dup, 1) := by rw [hb]; exact d3
  obtain ⟨U, hsteps, hrun, hend, hW, hsame, ce, hce, hO⟩ := X₁.ctorThrow0 hexec htr (own := own) (cls := cls) (names := names) (ic := ic) hown' hcls hnames h (fun x hx => nomatch hx) hfX hkX hcellA (by rw [hhp, hT]; exact Nat.le_refl _)
    (g := { method := m, pc := pc + 4, locals := ls, stack := .ref T.heap.size :: .ref T.heap.size :: rest, locked := none }) rfl hsize rfl rfl (rest := rest) rfl
    (by rw [hb]; exact d4) (by rw [hb]; exact d7) hout hRframes (by simp only [List.map_cons, List.sum_cons, hcat]; omega) hlocks
  obtain ⟨f1, f2⟩ := vx_frame hsame
  rw [hhp] at f1 f2
  have hWs : s.WarmedH U.vm := State.WarmedH.trans hW0 hW
  have hcl : s.vm.findClass cls = some ce.cls := by
    have h9 := hO.cls
    rw [hvm] at h9
    exact h9
  have hall : s.sameButNew ({ U with vm := s.vm } : State) locs mc ms := by
    subst hA
    obtain ⟨e1, e2⟩ := hsame
    rw [State.setFrames_setFrames] at e1
    have h2 : (T.setVm s.vm).sameButNew ({ U with vm := s.vm } : State) [] (0 + 1) (0 + 6) := ⟨e1, e2⟩
    have h3 := X.same.trans h2
    rw [List.append_nil] at h3
    exact h3.mono hc hs
  refine ⟨U, ?_, .threw T.heap.size, hrun, hend, Or.inr ⟨T.heap.size, rfl, cls, ce, locs, hx U hWs.alike f1 (fun q hq => f2 q hq (fun z hz => nomatch hz)), hce, hO.vm, hcl, hWs, hall, hf⟩⟩
  refine st1 _ ?_
  show Steps p.tables e below (T1.setTop { method := m, pc := pc + 3, locals := ls, stack := .ref T.heap.size :: rest, locked := none }) _
  jvm_step X₁.here [X₁.here.top, hexec, d3', Value.category]
  exact hsteps
/-- 'throw new E("text")': new; dup; ldc; invokespecial; athrow -/
theorem vx_throwS {cc : ByteArray} {pc : Nat} (hexec : p.tables.exec = Jvm.exec) (hb : c.code = cc) (hl : l.stackTraces = false) {own cls text : String} {names : List String} {ik is ic mc ms sa : Nat} {A : Nat → Prop}
    (hown : s.vm.findClass own = some m.cls) (hcls : Bundle.fit cls = true) (hnames : ∀ n ∈ names, Bundle.fit n = true)
    (hk : (Cond.classLink own ik cls).before args s = true) (hini : (Cond.initialized cls).before args s = true) (hstr : vk_R own is text sa s) (hat : ∀ w ∈ vx_atS own ic cls names, w.before args s = true)
    (hgood : ∀ w ∈ Cond.classLink own ik cls :: Cond.initialized cls :: vx_atS own ic cls names, vx_ot w = true)
    (hU : vx_Zq Bundle.tN "UNASSIGNED_STACK" Bundle.steD A s s.heap) (hN : vx_Zq Bundle.tN "SUPPRESSED_SENTINEL" Bundle.listD A s s.heap) (hS : va_S A s.heap H locs) (hsize : ls.size = c.maxLocals)
    (d0 : decode cc pc = .ok (.new ik, 3)) (d3 : decode cc (pc + 3) = .ok (.dup, 1)) (d4 : decode cc (pc + 4) = .ok (.ldc is, 2)) (d6 : decode cc (pc + 6) = .ok (.invokespecial ic, 3)) (d9 : decode cc (pc + 9) = .ok (.athrow, 1))
    (hout : ∀ x ∈ c.exceptionTable.toList, covers x (pc + 9) = false)
    (hRframes : names.length + 3 < R.frames) (hRlocals : (rest.map fun v => v.category).sum + (13 * (names.length + 1) + 43) ≤ R.locals) (hRcells : cells + 1 ≤ R.cells) (hRslots : slots + 6 ≤ R.slots) (hlocks : meth.locks = false)
    (hx : ∀ t : State, s.vm.Alike t.vm → H.size ≤ t.heap.size → (∀ q : Nat, q < H.size → t.heap[q]? = H[q]?) → XC cls s t)
    (hf : ∀ z ∈ locs, free z.base) (hc : cells + 1 ≤ mc) (hs : slots + 6 ≤ ms) :
    W p l e R s m args below meth c H locs cells slots (vx_MQ below Qc XC args s mc ms free) (F0 m pc ls rest) := by
  intro T hT X
  have htr : e.platform.stackTraces = false := (show e.platform.stackTraces = l.stackTraces by rw [X.admits.platform]).trans hl
  have Y := vx_rebase X (R' := { frames := R.frames, locals := R.locals, cells := 1, slots := 6 }) (Nat.le_refl _) (Nat.le_refl _) hRcells hRslots
  obtain ⟨s', hA⟩ : ∃ z, z = (T.setVm s.vm).setFrames (.invoking m args :: below) := ⟨_, rfl⟩
  rw [← hA] at Y
  have hvm : s'.vm = s.vm := by rw [hA]; rfl
  have hhp : s'.heap = H := by rw [hA]; exact hT
  have hW0 : s.WarmedH s'.vm := by rw [hvm]; exact State.WarmedH.refl s
  have hat' : ∀ w ∈ vx_atS own ic cls names, w.before args s' = true := fun w hw => vx_ot_at hW0 hvm.symm (hgood w (List.mem_cons_of_mem _ (List.mem_cons_of_mem _ hw))) (hat w hw)
  have hk' : (Cond.classLink own ik cls).before args s' = true := vx_ot_at hW0 hvm.symm (hgood _ List.mem_cons_self) hk
  have hini' : (Cond.initialized cls).before args s' = true := vx_ot_at hW0 hvm.symm (hgood _ (List.mem_cons_of_mem _ List.mem_cons_self)) hini
  have hU' : vx_Zq Bundle.tN "UNASSIGNED_STACK" Bundle.steD A s' s'.heap := by rw [hhp]; exact vx_Zq.moved hW0.alike (hU.kept hS.2.1)
  have hN' : vx_Zq Bundle.tN "SUPPRESSED_SENTINEL" Bundle.listD A s' s'.heap := by rw [hhp]; exact vx_Zq.moved hW0.alike (hN.kept hS.2.1)
  have h : ∀ w ∈ Bundle.ownAtoms own ic cls names, w.before args s' = true := vx_own hat' (vx_isRefq hU'.1) (vx_isRefq hN'.1) hU'.2.word hN'.2.word
  have hown' : s'.vm.findClass own = some m.cls := by rw [hvm]; exact hown
  have hins : (Cond.instantiable cls 6).before args s' = true := h _ (by simp [Bundle.ownAtoms])
  obtain ⟨vm₁, cX, kX, hfX, hkX, -, -, X₁, st1⟩ := Y.newCold hexec (own := own) (C := cls) (index := ik) (n := 6) hown' hk' hins hini'
    (g := F0 m pc ls rest) rfl (by rw [hb]; exact d0) (Nat.le_refl _) (Nat.le_refl _)
  generalize hT1 : (T.setVm vm₁).pushCell { cls := cX, slots := kX.instanceTypes.map defaultValue, vm := .none } = T1 at X₁ st1
  have hcat : (Value.ref T.heap.size).category = 1 := rfl
  have hcellA : T1.heap[T.heap.size]? = some (freshCell cX kX) := by rw [← hT1]; exact State.heap_pushCell_size _ _
  have d3' : decode c.code (pc + 3) = .ok (.dup, 1) := by rw [hb]; exact d3
  have d4' : decode c.code (pc + 4) = .ok (.ldc is, 2) := by rw [hb]; exact d4
  have hstr' : vk_R own is text sa s' := vk_R.warm hW0 hstr
  obtain ⟨U, hsteps, hrun, hend, hW, hsame, ce, hce, hO⟩ := X₁.ctorThrowS hexec htr (own := own) (cls := cls) (names := names) (ic := ic) hown' hcls hnames h (fun x hx => nomatch hx) hfX hkX hcellA (by rw [hhp, hT]; exact Nat.le_refl _) (msg := .ref sa) rfl
    (g := { method := m, pc := pc + 6, locals := ls, stack := .ref sa :: .ref T.heap.size :: .ref T.heap.size :: rest, locked := none }) rfl hsize rfl rfl (rest := rest) rfl
    (by rw [hb]; exact d6) (by rw [hb]; exact d9) hout hRframes (by simp only [List.map_cons, List.sum_cons, hcat]; omega) hlocks
  obtain ⟨f1, f2⟩ := vx_frame hsame
  rw [hhp] at f1 f2
  have hWs : s.WarmedH U.vm := State.WarmedH.trans hW0 hW
  have hcl : s.vm.findClass cls = some ce.cls := by
    have h9 := hO.cls
    rw [hvm] at h9
    exact h9
  have hall : s.sameButNew ({ U with vm := s.vm } : State) locs mc ms := by
    subst hA
    obtain ⟨e1, e2⟩ := hsame
    rw [State.setFrames_setFrames] at e1
    have h2 : (T.setVm s.vm).sameButNew ({ U with vm := s.vm } : State) [] (0 + 1) (0 + 6) := ⟨e1, e2⟩
    have h3 := X.same.trans h2
    rw [List.append_nil] at h3
    exact h3.mono hc hs
  refine ⟨U, ?_, .threw T.heap.size, hrun, hend, Or.inr ⟨T.heap.size, rfl, cls, ce, locs, hx U hWs.alike f1 (fun q hq => f2 q hq (fun z hz => nomatch hz)), hce, hO.vm, hcl, hWs, hall, hf⟩⟩
  refine st1 _ ?_
  show Steps p.tables e below (T1.setTop { method := m, pc := pc + 3, locals := ls, stack := .ref T.heap.size :: rest, locked := none }) _
  jvm_step X₁.here [X₁.here.top, hexec, d3', Value.category]
  exact X₁.ldcString hexec (own := own) (text := text) (index := is) (a := sa) hown' hstr'.1 hstr'.2
    (g := { method := m, pc := pc + 4, locals := ls, stack := .ref T.heap.size :: .ref T.heap.size :: rest, locked := none }) rfl d4' _ hsteps
/-- 'throw new E("text")', the text by a wide index -/
theorem vx_throwSW {cc : ByteArray} {pc : Nat} (hexec : p.tables.exec = Jvm.exec) (hb : c.code = cc) (hl : l.stackTraces = false) {own cls text : String} {names : List String} {ik is ic mc ms sa : Nat} {A : Nat → Prop}
    (hown : s.vm.findClass own = some m.cls) (hcls : Bundle.fit cls = true) (hnames : ∀ n ∈ names, Bundle.fit n = true)
    (hk : (Cond.classLink own ik cls).before args s = true) (hini : (Cond.initialized cls).before args s = true) (hstr : vk_R own is text sa s) (hat : ∀ w ∈ vx_atS own ic cls names, w.before args s = true)
    (hgood : ∀ w ∈ Cond.classLink own ik cls :: Cond.initialized cls :: vx_atS own ic cls names, vx_ot w = true)
    (hU : vx_Zq Bundle.tN "UNASSIGNED_STACK" Bundle.steD A s s.heap) (hN : vx_Zq Bundle.tN "SUPPRESSED_SENTINEL" Bundle.listD A s s.heap) (hS : va_S A s.heap H locs) (hsize : ls.size = c.maxLocals)
    (d0 : decode cc pc = .ok (.new ik, 3)) (d3 : decode cc (pc + 3) = .ok (.dup, 1)) (d4 : decode cc (pc + 4) = .ok (.ldc_w is, 3)) (d7 : decode cc (pc + 7) = .ok (.invokespecial ic, 3)) (d10 : decode cc (pc + 10) = .ok (.athrow, 1))
    (hout : ∀ x ∈ c.exceptionTable.toList, covers x (pc + 10) = false)
    (hRframes : names.length + 3 < R.frames) (hRlocals : (rest.map fun v => v.category).sum + (13 * (names.length + 1) + 43) ≤ R.locals) (hRcells : cells + 1 ≤ R.cells) (hRslots : slots + 6 ≤ R.slots) (hlocks : meth.locks = false)
    (hx : ∀ t : State, s.vm.Alike t.vm → H.size ≤ t.heap.size → (∀ q : Nat, q < H.size → t.heap[q]? = H[q]?) → XC cls s t)
    (hf : ∀ z ∈ locs, free z.base) (hc : cells + 1 ≤ mc) (hs : slots + 6 ≤ ms) :
    W p l e R s m args below meth c H locs cells slots (vx_MQ below Qc XC args s mc ms free) (F0 m pc ls rest) := by
  intro T hT X
  have htr : e.platform.stackTraces = false := (show e.platform.stackTraces = l.stackTraces by rw [X.admits.platform]).trans hl
  have Y := vx_rebase X (R' := { frames := R.frames, locals := R.locals, cells := 1, slots := 6 }) (Nat.le_refl _) (Nat.le_refl _) hRcells hRslots
  obtain ⟨s', hA⟩ : ∃ z, z = (T.setVm s.vm).setFrames (.invoking m args :: below) := ⟨_, rfl⟩
  rw [← hA] at Y
  have hvm : s'.vm = s.vm := by rw [hA]; rfl
  have hhp : s'.heap = H := by rw [hA]; exact hT
  have hW0 : s.WarmedH s'.vm := by rw [hvm]; exact State.WarmedH.refl s
  have hat' : ∀ w ∈ vx_atS own ic cls names, w.before args s' = true := fun w hw => vx_ot_at hW0 hvm.symm (hgood w (List.mem_cons_of_mem _ (List.mem_cons_of_mem _ hw))) (hat w hw)
  have hk' : (Cond.classLink own ik cls).before args s' = true := vx_ot_at hW0 hvm.symm (hgood _ List.mem_cons_self) hk
  have hini' : (Cond.initialized cls).before args s' = true := vx_ot_at hW0 hvm.symm (hgood _ (List.mem_cons_of_mem _ List.mem_cons_self)) hini
  have hU' : vx_Zq Bundle.tN "UNASSIGNED_STACK" Bundle.steD A s' s'.heap := by rw [hhp]; exact vx_Zq.moved hW0.alike (hU.kept hS.2.1)
  have hN' : vx_Zq Bundle.tN "SUPPRESSED_SENTINEL" Bundle.listD A s' s'.heap := by rw [hhp]; exact vx_Zq.moved hW0.alike (hN.kept hS.2.1)
  have h : ∀ w ∈ Bundle.ownAtoms own ic cls names, w.before args s' = true := vx_own hat' (vx_isRefq hU'.1) (vx_isRefq hN'.1) hU'.2.word hN'.2.word
  have hown' : s'.vm.findClass own = some m.cls := by rw [hvm]; exact hown
  have hins : (Cond.instantiable cls 6).before args s' = true := h _ (by simp [Bundle.ownAtoms])
  obtain ⟨vm₁, cX, kX, hfX, hkX, -, -, X₁, st1⟩ := Y.newCold hexec (own := own) (C := cls) (index := ik) (n := 6) hown' hk' hins hini'
    (g := F0 m pc ls rest) rfl (by rw [hb]; exact d0) (Nat.le_refl _) (Nat.le_refl _)
  generalize hT1 : (T.setVm vm₁).pushCell { cls := cX, slots := kX.instanceTypes.map defaultValue, vm := .none } = T1 at X₁ st1
  have hcat : (Value.ref T.heap.size).category = 1 := rfl
  have hcellA : T1.heap[T.heap.size]? = some (freshCell cX kX) := by rw [← hT1]; exact State.heap_pushCell_size _ _
  have d3' : decode c.code (pc + 3) = .ok (.dup, 1) := by rw [hb]; exact d3
  have d4' : decode c.code (pc + 4) = .ok (.ldc_w is, 3) := by rw [hb]; exact d4
  have hstr' : vk_R own is text sa s' := vk_R.warm hW0 hstr
  obtain ⟨U, hsteps, hrun, hend, hW, hsame, ce, hce, hO⟩ := X₁.ctorThrowS hexec htr (own := own) (cls := cls) (names := names) (ic := ic) hown' hcls hnames h (fun x hx => nomatch hx) hfX hkX hcellA (by rw [hhp, hT]; exact Nat.le_refl _) (msg := .ref sa) rfl
    (g := { method := m, pc := pc + 7, locals := ls, stack := .ref sa :: .ref T.heap.size :: .ref T.heap.size :: rest, locked := none }) rfl hsize rfl rfl (rest := rest) rfl
    (by rw [hb]; exact d7) (by rw [hb]; exact d10) hout hRframes (by simp only [List.map_cons, List.sum_cons, hcat]; omega) hlocks
  obtain ⟨f1, f2⟩ := vx_frame hsame
  rw [hhp] at f1 f2
  have hWs : s.WarmedH U.vm := State.WarmedH.trans hW0 hW
  have hcl : s.vm.findClass cls = some ce.cls := by
    have h9 := hO.cls
    rw [hvm] at h9
    exact h9
  have hall : s.sameButNew ({ U with vm := s.vm } : State) locs mc ms := by
    subst hA
    obtain ⟨e1, e2⟩ := hsame
    rw [State.setFrames_setFrames] at e1
    have h2 : (T.setVm s.vm).sameButNew ({ U with vm := s.vm } : State) [] (0 + 1) (0 + 6) := ⟨e1, e2⟩
    have h3 := X.same.trans h2
    rw [List.append_nil] at h3
    exact h3.mono hc hs
  refine ⟨U, ?_, .threw T.heap.size, hrun, hend, Or.inr ⟨T.heap.size, rfl, cls, ce, locs, hx U hWs.alike f1 (fun q hq => f2 q hq (fun z hz => nomatch hz)), hce, hO.vm, hcl, hWs, hall, hf⟩⟩
  refine st1 _ ?_
  show Steps p.tables e below (T1.setTop { method := m, pc := pc + 3, locals := ls, stack := .ref T.heap.size :: rest, locked := none }) _
  jvm_step X₁.here [X₁.here.top, hexec, d3', Value.category]
  exact X₁.ldcStringW hexec (own := own) (text := text) (index := is) (a := sa) hown' hstr'.1 hstr'.2
    (g := { method := m, pc := pc + 4, locals := ls, stack := .ref T.heap.size :: .ref T.heap.size :: rest, locked := none }) rfl d4' _ hsteps
end Ends
section Bodies
variable {l : Launch}
theorem vx_ofW {y : MethodName} {ws ws' : List Cond} {rm : Room} {Pc : Array Value → State → Prop} {Qc : Array Value → State → Outcome → State → Prop} {XC : String → State → State → Prop} {mc ms : Nat} {free : Addr → Prop} {cc : ByteArray} {maxL : Nat} {ret : Option FieldType}
    (hy : plainName y.cls = true) (hw : ws = Cond.code y cc maxL ret :: ws')
    (body : ∀ p e s m args below meth c s₁, BodyLoose p l y (headSpec ws rm) cc maxL ret e s m args below meth c s₁ → c.maxLocals = maxL → (∀ x ∈ c.exceptionTable.toList, False) → Pc args s →
      W p l e (headSpec ws rm).room s m args below meth c s.heap [] 0 0 (vx_MQ below Qc XC args s mc ms free) (entryFrame m args maxL)) : vx_Met l y ws rm Pc Qc XC mc ms free := by
  refine MetFree.of_bodyS (code := cc) (maxLocals := maxL) (ret := ret) hy ?_ ?_
  · intro args s m h hn
    obtain ⟨meth, c, h1, h2, h3, h4, h5, h6, -, -⟩ := Cond.code_spec hn (atoms_spec (ws := ws) h _ (by rw [hw]; exact List.mem_cons_self))
    exact ⟨meth, c, h1, h2, h3, h4, h5, h6⟩
  · intro p e s m args below meth c s₁ B hml hP _
    have hh0 : s₁.heap = s.heap := by rw [B.state]; rfl
    have ht : ∀ x ∈ c.exceptionTable.toList, False := by
      obtain ⟨meth9, c9, h1, h2, -, -, -, -, h7, -⟩ := Cond.code_spec B.named (atoms_spec (ws := ws) B.pre _ (by rw [hw]; exact List.mem_cons_self))
      cases Option.some.inj (h1.symm.trans B.method)
      cases Option.some.inj (h2.symm.trans (Stand.of_body B).code)
      intro x hx
      rw [Array.isEmpty_iff.mp h7] at hx
      cases hx
    obtain ⟨t, a1, o, b1, b2, b3⟩ := body p e s m args below meth c s₁ B hml ht hP s₁ hh0 (Stand.of_body B)
    exact ⟨t, o, a1, b1, b2, b3⟩
/-- the table of a body with handlers -/
theorem vx_table {p : Program} {x y : MethodName} {S : Spec} {cc bytes : ByteArray} {maxL maxL' : Nat} {ret ret' : Option FieldType} {e : Env} {s s₁ : State} {m : MethodId} {args : Array Value} {below : List Frame} {meth : Method} {c : Code} {hh : List (Nat × Nat × Nat × Nat)}
    (B : BodyLoose p l y S cc maxL ret e s m args below meth c s₁) (h : (Cond.codeWith y bytes maxL' ret' hh).before args s = true) : c.exceptionTable.toList = tableOf hh := by
  obtain ⟨m9, meth9, c9, hn9, h1, h2, -, -, h6, -⟩ := Cond.codeWith_spec h
  cases Option.some.inj (hn9.symm.trans B.named)
  cases Option.some.inj (h1.symm.trans B.method)
  cases Option.some.inj (h2.symm.trans (Stand.of_body B).code)
  rw [← h6, table_eq]
end Bodies
end VXA
/-! ===== END ===== -/
/-! ===== BEGIN a static call of a method with an exception table ===== -/
section VXS
variable {p : Program} {l : Launch} {e : Env} {R : Room} {s : State} {m : MethodId} {args : Array Value} {below : List Frame} {meth : Method} {c : Code} {T : State} {H : Heap} {locs : List Loc} {cells slots : Nat}
abbrev vx_CSW (R : Room) (s : State) (args : Array Value) (own : String) (index : Nat) (y : MethodName) (bytes : ByteArray) (maxL : Nat) (ret : Option FieldType) (hh : List (Nat × Nat × Nat × Nat)) (ws : List Cond) (rm : Room) (mc ms n : Nat) : Prop :=
  (rm.cells = mc ∧ rm.slots = ms ∧ rm.frames + 1 ≤ R.frames ∧ 8 + (maxL + 11) + rm.locals ≤ R.locals ∧ (∀ w ∈ ws, ∀ (a' : Array Value) (U : State), s.WarmedH U.vm → w.before a' U = true) ∧ Cond.codeWith y bytes maxL ret hh ∈ ws) ∧
  (Cond.codeWith y bytes maxL ret hh).before args s = true ∧ (Cond.initialized y.cls).before args s = true ∧ (y.cls ≠ "java/lang/invoke/MethodHandle" ∧ y.cls ≠ "java/lang/invoke/VarHandle") ∧
  (∀ sig, parseMethodDescriptor y.desc = some sig → n = sig.parameters.length) ∧ (Cond.methodLink own index y).before args s = true ∧ (Cond.static y).before args s = true
theorem vx_cwSW {own : String} {index maxL mc ms : Nat} {y : MethodName} {bytes : ByteArray} {ret : Option FieldType} {hh : List (Nat × Nat × Nat × Nat)} {Ts ws ws' : List Cond} {rm : Room} (n : Nat) (ht : ∀ w ∈ Ts, w.before args s = true) (hT : GoodIn Ts (va_wsS own index y ws)) (hw : ws = Cond.codeWith y bytes maxL ret hh :: ws') (hrc : rm.cells = mc) (hrs : rm.slots = ms)
    (hd : y.cls ≠ "java/lang/invoke/MethodHandle" ∧ y.cls ≠ "java/lang/invoke/VarHandle" ∧ (parseMethodDescriptor y.desc).map (fun d => d.parameters.length) = some n) (hR : rm.frames + 1 ≤ R.frames ∧ 8 + (maxL + 11) + rm.locals ≤ R.locals) :
    vx_CSW R s args own index y bytes maxL ret hh ws rm mc ms n := by
  have ok : ∀ w ∈ va_wsS own index y ws, w.before args s = true := fun w h => ht w (hT w h).1
  have hG : GoodIn Ts ws := fun w h => hT w (by unfold va_wsS; exact List.mem_append_right _ h)
  have hc : Cond.codeWith y bytes maxL ret hh ∈ ws := by rw [hw]; exact List.mem_cons_self
  refine ⟨⟨hrc, hrs, hR.1, hR.2, pay_in ht hG, hc⟩, ht _ (hG _ hc).1, ok _ (by simp [va_wsS]), ⟨hd.1, hd.2.1⟩, fun sig h => ?_, ok _ (by simp [va_wsS]), ok _ (by simp [va_wsS])⟩
  have h2 := hd.2.2
  rw [h] at h2
  exact (Option.some.inj h2).symm
theorem vx_callSW (X : Stand p l e R s m args below meth c T locs cells slots) (hexec : p.tables.exec = Jvm.exec) {own : String} {index : Nat} {y : MethodName} {bytes : ByteArray} {maxL : Nat} {ret : Option FieldType} {hh : List (Nat × Nat × Nat × Nat)}
    (hown : s.vm.findClass own = some m.cls) (hlink : (Cond.methodLink own index y).before args s = true) (hstat : (Cond.static y).before args s = true) (hinit : (Cond.initialized y.cls).before args s = true)
    (hcode : (Cond.codeWith y bytes maxL ret hh).before args s = true) (hy : y.cls ≠ "java/lang/invoke/MethodHandle" ∧ y.cls ≠ "java/lang/invoke/VarHandle")
    {W9 : Nat} {Pre : Pt → Array Value → Prop} {Post : Pt → Array Value → Option Value → Pt → Prop} (hK : Back l R p e below s args y 3 W9 Pre Post)
    {g : JFrame} (hg : g.method = m) (hsize : g.locals.size = c.maxLocals) {argsL rest : List Value} (hlen : ∀ sig, parseMethodDescriptor y.desc = some sig → argsL.length = sig.parameters.length)
    (hstack : g.stack = argsL.reverse ++ rest) (hW : 2 * g.monitorRoom + (rest.map fun v => v.category).sum ≤ W9) (hdg : decode c.code g.pc = .ok (.invokestatic index, 3))
    (hpre : ∀ vm₁, s.WarmedH vm₁ → Pre ⟨T.setVm vm₁, locs, cells, slots⟩ argsL.toArray) :
    ∃ (v : Option Value) (vm₁ : Vm) (B : Pt), s.WarmedH vm₁ ∧ Stand p l e R s m args below meth c B.U B.locs B.cells B.slots ∧ Post ⟨T.setVm vm₁, locs, cells, slots⟩ argsL.toArray v B ∧
      ∀ target, Steps p.tables e below (B.U.setTop { g with pc := g.pc + 3, stack := v.toList ++ rest }) target → Steps p.tables e below (T.setTop g) target := by
  obtain ⟨mk, methM, cM, hnamed, hmethM, -, -, -, -, -, -, hsigM⟩ := Cond.codeWith_spec hcode
  have hstatic : methM.isStatic = true := Cond.static_spec hnamed hmethM hstat
  obtain ⟨kP, hkP, -⟩ := className_of_methodNamed hnamed
  have hinitP : kP.init = .initialized := Cond.initialized_spec (findClass_of_methodNamed hnamed) hkP hinit
  obtain ⟨vm₁, X₁, hstep₁⟩ := X.invokestatic hexec hown hlink hnamed hmethM hstatic hkP hinitP hy (g := g) hg (argsL := argsL) (rest := rest) (hlen _ hsigM) hstack hdg
  obtain ⟨v, B, X', hpost, hsteps⟩ := hK m meth c ⟨T.setVm vm₁, locs, cells, slots⟩ { g with stack := rest } (.invokestatic index) mk argsL.toArray X₁ hg hsize hdg hW (X₁.named hnamed) (hpre vm₁ X₁.warmed)
  exact ⟨v, vm₁, B, X₁.warmed, X', hpost, fun target h => hstep₁ _ fun acts => by rw [doInvoke_state]; exact hsteps.trans h⟩
theorem vx_runSW {y : MethodName} {bytes cc : ByteArray} {maxL nL mc ms n index : Nat} {ret : Option FieldType} {hh : List (Nat × Nat × Nat × Nat)} {ws : List Cond} {rm : Room} {Pc : Array Value → State → Prop} {Qc : Array Value → State → Outcome → State → Prop} {free : Addr → Prop} {Ts : List Cond} {own : String} {As rest : List Value} {g : JFrame}
    (S : CallFix p m c cc nL s args Ts own) (hM : Met l y ws rm Pc Qc mc ms free) (cw : vx_CSW R s args own index y bytes maxL ret hh ws rm mc ms n) (hp : PreS s H Pc As)
    (hg : g.method = m) (hn : As.length = n) (hsize : g.locals.size = nL) (hstack : g.stack = As.reverse ++ rest) (hW : 2 * g.monitorRoom + (rest.map fun v => v.category).sum ≤ 8) (hdg : decode cc g.pc = .ok (.invokestatic index, 3)) (hf : cells + mc ≤ R.cells ∧ slots + ms ≤ R.slots) :
    va_Run p l e R s m args below meth c H locs cells slots mc ms g rest (Qc As.toArray) (free) := by
  obtain ⟨⟨hrc, hrs, hfr, hlo, hws, hcw⟩, hcode, hini, hy, hlen, hl, hstt⟩ := cw
  have hK : Back l R p e below s args y 3 8 (PreOf R mc ms Pc) (PostOf Qc mc ms free) := va_backW (hh := hh) (bytes := bytes) (maxL := maxL) (ret := ret) hM hp.1 hrc hrs hfr hlo hws hcw (fun a' U hW => word_at hW (Or.inl (by first | rfl | simp [Cond.onTables, Cond.keeps, Cond.steady])) hini)
  obtain ⟨hx, hb, hml, ho, -⟩ := S
  intro T hT X
  obtain ⟨v, vm₁, ⟨U', l2, c2, s2⟩, hW₁, X', ⟨g', mk, t, L, e1, e2, hq, h1, hL, h2, h3⟩, st⟩ := vx_callSW X hx (hh := hh) (bytes := bytes) (maxL := maxL) (ret := ret) ho hl hstt hini hcode hy hK hg (hsize.trans hml.symm) (argsL := As) (rest := rest) (fun sig h => hn.trans (hlen sig h)) hstack hW (by rw [hb]; exact hdg)
    (fun vm₁ hW₁ => ⟨hf.1, hf.2, hp.2 (T.setVm vm₁) hT hW₁⟩)
  dsimp only [Pt.U, Pt.locs, Pt.cells, Pt.slots] at X' e1 e2 h1 h2 h3 st
  subst h1; subst h2; subst h3
  exact ⟨v, (T.setVm vm₁).calling g' mk As.toArray, t, U', L, hT, X', hL, e1, e2, hq, st⟩
/-- not caught here, past rows that name other classes: it goes on to the caller -/
theorem vx_outP {p : Program} {l : Launch} {e : Env} {R : Room} {s : State} {m : MethodId} {args : Array Value} {below : List Frame} {meth : Method} {c : Code} {H : Heap} {locs : List Loc} {cells slots : Nat} {free : Addr → Prop} {ls : Array Slot} {rest : List Value} {Qc : Array Value → State → Outcome → State → Prop} {XC : String → State → State → Prop}
    {pc : Nat} {own E : String} {ce : Cell} {q : Addr} {mc ms : Nat} (hown : s.vm.findClass own = some m.cls) (hlocks : meth.locks = false)
    (hpass : ∀ z ∈ c.exceptionTable.toList, covers z pc = false ∨ (z.catchType ≠ 0 ∧ ∃ nm : String, (Cond.classLink own z.catchType nm).before args s = true ∧ va_Nc E nm s)) (hcell : H[q]? = some ce) (hv : ce.vm = .none) (hcl : s.vm.findClass E = some ce.cls)
    (hx : ∀ t : State, t.heap = H → s.vm.Alike t.vm → XC E s t) (hf : ∀ z ∈ locs, free z.base) (hc : cells ≤ mc) (hs : slots ≤ ms) :
    vx_W p l e R s m args below meth c H locs cells slots (vx_MQ below Qc XC args s mc ms free) (F0 m pc ls rest) q := by
  intro T hT X
  have hpl : e.platform.magicAccessors = ({} : Platform).magicAccessors := by rw [X.admits.platform]
  obtain ⟨vm', hW', X', st⟩ := X.outThrough hlocks q (g := F0 m pc ls rest) rfl rfl rfl (cell := ce) (by rw [hT]; exact hcell) (by rw [hv]; rfl)
    (by obtain ⟨k9, h9, -⟩ := Vm.findClass_spec hcl; exact ⟨k9, h9⟩) (fun z hz => by
      rcases hpass z hz with h | ⟨hz0, nm, hl1, hn1⟩
      · exact Or.inl h
      · obtain ⟨c6, hc6, hcl6⟩ := Cond.classLink_spec hown hl1 e.platform hpl
        obtain ⟨a8, b8, h1, h2, h3⟩ := hn1
        cases Option.some.inj (h1.symm.trans hcl)
        cases Option.some.inj (h2.symm.trans hc6)
        exact Or.inr ⟨hz0, _, hcl6, h3⟩)
  obtain ⟨g₀, hfr⟩ := X'.frames_eq
  have hcell9 : ((T.setVm vm').setFrames (.throwing q :: below)).heap[q]? = some ce := by
    show T.heap[q]? = some ce
    rw [hT]; exact hcell
  have hend : Ended ((T.setVm vm').setFrames (.throwing q :: below)) below (.threw q) := State.frames_setFrames _ (State.cur_lt_of_frames hfr)
  refine ⟨(T.setVm vm').setFrames (.throwing q :: below), ?_, .threw q, X'.here.running, hend, Or.inr ⟨q, rfl, E, ce, locs, hx _ hT (X'.ends _).1.alike, hcell9, hv, hcl, (X'.ends _).1, (X'.ends _).2.mono hc hs, hf⟩⟩
  rw [X.pushThrowing_eq]
  exact st
/-- a thing of a world lies in the heap -/
theorem vx_lt {D : va_G} {cl : List vw_C} {ws : va_W} {H1 : Heap} (h : va_P D cl ws H1) {k : Nat} {q : Nat × va_E} (hk : ws[k]? = some q) : q.1 < H1.size := (h k q hk).lt
end VXS
/-! ===== END ===== -/
/-! ===== BEGIN methods with a table of their own: called by a name, returning or throwing ===== -/
section VXH
/-! vx_backW, vx_callVX, vx_callSX, vx_callVW, vx_runVW, vx_runVX, vx_runSX, vx_ofWH follow the same proofs as their sisters above (Free/Laws.lean, Shelf42/LK1.lean); vx_outP calls Shelf42/NT130.lean (outThrough). -/
section
variable {l : Launch} {R : Room} {p : Program} {e : Env} {below : List Frame} {s : State} {sargs : Array Value} {y : MethodName} {len W9 : Nat}
theorem vx_backW {ws : List Cond} {rm : Room} {Pc : Array Value → State → Prop} {Qc : Array Value → State → Outcome → State → Prop} {XC : String → State → State → Prop} {mc ms : Nat} {free : Addr → Prop} {bytes : ByteArray} {maxL : Nat} {ret : Option FieldType} {hh : List (Nat × Nat × Nat × Nat)}
    (hM : vx_Met l y ws rm Pc Qc XC mc ms free) (hblind : FrameBlind Pc) (hrc : rm.cells = mc) (hrs : rm.slots = ms)
    (hframes : rm.frames + 1 ≤ R.frames) (hlocals : W9 + (maxL + 11) + rm.locals ≤ R.locals)
    (hws : ∀ w ∈ ws, ∀ a' U, s.WarmedH U.vm → w.before a' U = true) (hcode : Cond.codeWith y bytes maxL ret hh ∈ ws) (hinit : ∀ a' U, s.WarmedH U.vm → (Cond.initialized y.cls).before a' U = true) :
    vx_Back l R p e below s sargs y len W9 (PreOf R mc ms Pc) (PostOf Qc mc ms free) (vx_Post XC mc ms free) := by
  intro m meth c A g ig mk a X hg hsize hdg hW hn hp
  have h1 : (headSpec ws rm).pre.before a A.U = true := atoms_intro fun w hw => hws w hw _ _ X.warmed
  have h2 : (Cond.codeWith y bytes maxL ret hh).before a A.U = true := hws _ hcode _ _ X.warmed
  have h3 : (Cond.initialized y.cls).before a A.U = true := hinit _ _ X.warmed
  have h4 : A.cells + (headSpec ws rm).room.cells ≤ R.cells := by rw [show (headSpec ws rm).room.cells = mc from hrc]; exact hp.1
  have h5 : A.slots + (headSpec ws rm).room.slots ≤ R.slots := by rw [show (headSpec ws rm).room.slots = ms from hrs]; exact hp.2.1
  have hPc : Pc a (A.U.calling g mk a) := hblind _ _ _ _ hp.2.2
  obtain ⟨U, Ls, c0, s0⟩ := A
  dsimp only [Pt.U, Pt.locs, Pt.cells, Pt.slots] at h1 h2 h3 h4 h5 X hn hPc ⊢
  obtain ⟨m9, methY, cY, hn9, hmY, hcY, -, hlY, -⟩ := Cond.codeWith_spec h2
  cases Option.some.inj (hn9.symm.trans hn)
  obtain ⟨kY, hkY, -⟩ := className_of_methodNamed hn
  have hinitY : kY.init = .initialized := Cond.initialized_spec (findClass_of_methodNamed hn) hkY h3
  have h : At U g.method c below := by rw [hg]; exact X.here
  have hlocals9 : W9 + (maxL + 11) + (headSpec ws rm).room.locals ≤ R.locals := hlocals
  have happ : (headSpec ws rm).appliesLoose y e.platform (U.calling g mk a) = true :=
    Spec.appliesLoose_calling (g := g) h hdg hn hkY hinitY
      (X.room_calling (g := g) (R' := (headSpec ws rm).room) hsize hmY hcY hframes (by rw [hlY]; omega) h4 h5) h1
  obtain ⟨mid, hmid⟩ := h.above
  have hfr : (U.setTop g).frames = (.java g :: mid) ++ below := by rw [State.frames_setTop' g h.top, hmid]; rfl
  obtain ⟨o, s₂, hsteps, -, hend, hq⟩ := Steps.callFree hM p X.admits X.cas X.clock (acts := []) hfr happ hPc trivial
  have hq' : vx_Q Qc XC mc ms free a (U.calling g mk a) o s₂ := hq
  rw [State.frames_setTop' g h.top] at hend
  obtain ⟨g₀, hg0⟩ := Option.isSome_iff_exists.mp h.top
  obtain ⟨r, hr⟩ := State.topJava?_eq_some.mp hg0
  have hr' : (({ U with heap := s₂.heap, slotsUsed := s₂.slotsUsed } : State).setVm s₂.vm).frames = .java g₀ :: r := hr
  rcases hq' with ⟨hqc, L, hfe, hL⟩ | ⟨q, rfl, E, ce, L, hx, hce, hcv, hcl, hW₂, hsm, hL⟩
  · obtain ⟨⟨v, rfl⟩, hW₂, e2, q2, q3, q4, q5, q6⟩ := id hfe
    have e3 : s₂ = ({ (U.calling g mk a).setFrames s₂.frames with heap := s₂.heap, slotsUsed := s₂.slotsUsed } : State).setVm s₂.vm := by
      have : s₂ = ({ s₂ with vm := (U.calling g mk a).vm } : State).setVm s₂.vm := rfl
      rw [e2] at this
      exact this
    obtain ⟨c₂, i₂, len₂, hc₂, hd₂, hf₂⟩ := hend
    have hW' : U.WarmedH s₂.vm := hW₂
    have hcc : c₂ = c := by
      have h1 : s₂.code? g.method = U.code? g.method := by
        rw [State.code?_eq, State.code?_eq, hW'.alike.method?]
      exact Option.some.inj (hc₂.symm.trans (h1.trans h.code))
    subst hcc
    have hlen : len₂ = len := by rw [hdg] at hd₂; cases hd₂; rfl
    subst hlen
    have hs₂ : s₂ = (({ U with heap := s₂.heap, slotsUsed := s₂.slotsUsed } : State).setVm s₂.vm).setTop { g with pc := g.pc + len₂, stack := v.toList ++ g.stack } := by
      refine e3.trans ?_
      rw [hf₂, State.calling_eq h.top, State.setFrames_setFrames, State.setTop_of_frames _ hr', hr]
      rfl
    have hsame : U.sameButNew ({ U with heap := s₂.heap, slotsUsed := s₂.slotsUsed } : State) L mc ms := by
      refine ⟨?_, q2, q3, q4, q5, q6⟩
      obtain ⟨t, ht, -⟩ := State.frames_cons hr
      show ({ U with heap := s₂.heap, slotsUsed := s₂.slotsUsed } : State) = { U.setFrames U.frames with heap := s₂.heap, slotsUsed := s₂.slotsUsed }
      rw [State.setFrames_self ht]
    subst hg
    refine Or.inl ⟨v, ⟨(({ U with heap := s₂.heap, slotsUsed := s₂.slotsUsed } : State).setVm s₂.vm), Ls ++ L, c0 + mc, s0 + ms⟩,
      ⟨X.admits, X.cas, X.clock, X.frames, X.room, X.hears, X.method, X.code, (X.here.setHeapUsed s₂.heap s₂.slotsUsed).setVm hW'.alike, X.tail, State.WarmedH.trans X.warmed hW', X.limits, X.bytes, X.same.trans (hsame.setVm s.vm)⟩,
      ⟨g, mk, s₂, L, rfl, rfl, hqc, rfl, hL, rfl, rfl⟩, ?_⟩
    show Steps p.tables e below _ ((({ U with heap := s₂.heap, slotsUsed := s₂.slotsUsed } : State).setVm s₂.vm).setTop { g with pc := g.pc + len₂, stack := v.toList ++ g.stack })
    rw [← hs₂]
    exact hsteps
  · obtain ⟨e2, q2, q3, q4, q5, q6⟩ := id hsm
    have e3 : s₂ = ({ (U.calling g mk a).setFrames s₂.frames with heap := s₂.heap, slotsUsed := s₂.slotsUsed } : State).setVm s₂.vm := by
      have : s₂ = ({ s₂ with vm := (U.calling g mk a).vm } : State).setVm s₂.vm := rfl
      rw [e2] at this
      exact this
    have hf₂ : s₂.frames = .throwing q :: .java g :: U.frames.tail := hend
    have hW' : U.WarmedH s₂.vm := hW₂
    have hs₂ : s₂ = ((({ U with heap := s₂.heap, slotsUsed := s₂.slotsUsed } : State).setVm s₂.vm).setTop g).pushFrame (.throwing q) := by
      refine e3.trans ?_
      rw [hf₂, State.calling_eq h.top, State.setFrames_setFrames, State.pushFrame, State.frames_setTop _ hr', State.setTop_of_frames _ hr', State.setFrames_setFrames, hr]
      rfl
    have hsame : U.sameButNew ({ U with heap := s₂.heap, slotsUsed := s₂.slotsUsed } : State) L mc ms := by
      refine ⟨?_, q2, q3, q4, q5, q6⟩
      obtain ⟨t, ht, -⟩ := State.frames_cons hr
      show ({ U with heap := s₂.heap, slotsUsed := s₂.slotsUsed } : State) = { U.setFrames U.frames with heap := s₂.heap, slotsUsed := s₂.slotsUsed }
      rw [State.setFrames_self ht]
    subst hg
    refine Or.inr ⟨q, ⟨(({ U with heap := s₂.heap, slotsUsed := s₂.slotsUsed } : State).setVm s₂.vm), Ls ++ L, c0 + mc, s0 + ms⟩,
      ⟨X.admits, X.cas, X.clock, X.frames, X.room, X.hears, X.method, X.code, (X.here.setHeapUsed s₂.heap s₂.slotsUsed).setVm hW'.alike, X.tail, State.WarmedH.trans X.warmed hW', X.limits, X.bytes, X.same.trans (hsame.setVm s.vm)⟩,
      ⟨g, mk, s₂, L, E, ce, rfl, rfl, hx, hce, hcv, hcl, rfl, hL, rfl, rfl⟩, ?_⟩
    show Steps p.tables e below _ (((({ U with heap := s₂.heap, slotsUsed := s₂.slotsUsed } : State).setVm s₂.vm).setTop g).pushFrame (.throwing q))
    rw [← hs₂]
    exact hsteps
end
variable {p : Program} {l : Launch} {e : Env} {R : Room} {s : State} {m : MethodId} {args : Array Value} {below : List Frame} {meth : Method} {c : Code} {T : State} {H : Heap} {locs : List Loc} {cells slots : Nat}
theorem vx_callVX (X : Stand p l e R s m args below meth c T locs cells slots) (hexec : p.tables.exec = Jvm.exec) {own C : String} {index : Nat} {y : MethodName} {bytes : ByteArray} {maxL : Nat} {ret : Option FieldType} {hh : List (Nat × Nat × Nat × Nat)}
    (hown : s.vm.findClass own = some m.cls) (hlink : (Cond.methodLink own index y).before args s = true) (hinst : (Cond.instanceMethod y).before args s = true) (hsel : (Cond.selects C y y).before args s = true)
    (hcode : (Cond.codeWith y bytes maxL ret hh).before args s = true) (hy : y.cls ≠ "java/lang/invoke/MethodHandle" ∧ y.cls ≠ "java/lang/invoke/VarHandle")
    {W9 : Nat} {Pre : Pt → Array Value → Prop} {Post : Pt → Array Value → Option Value → Pt → Prop} {PostX : Pt → Array Value → Addr → Pt → Prop} (hK : vx_Back l R p e below s args y 3 W9 Pre Post PostX)
    {b : Addr} {cellB : Cell} (hcell : T.heap[b]? = some cellB) (hobj : cellB.vm.isStatics = false) (hcls : s.vm.findClass C = some cellB.cls)
    {g : JFrame} (hg : g.method = m) (hsize : g.locals.size = c.maxLocals) {argsL rest : List Value} (hlen : ∀ sig, parseMethodDescriptor y.desc = some sig → argsL.length = sig.parameters.length)
    (hstack : g.stack = argsL.reverse ++ .ref b :: rest) (hW : 2 * g.monitorRoom + (rest.map fun v => v.category).sum ≤ W9) (hdg : decode c.code g.pc = .ok (.invokevirtual index, 3))
    (hpre : ∀ vm₁, s.WarmedH vm₁ → Pre ⟨T.setVm vm₁, locs, cells, slots⟩ (Value.ref b :: argsL).toArray) :
    (∃ (v : Option Value) (vm₁ : Vm) (B : Pt), s.WarmedH vm₁ ∧ Stand p l e R s m args below meth c B.U B.locs B.cells B.slots ∧ Post ⟨T.setVm vm₁, locs, cells, slots⟩ (Value.ref b :: argsL).toArray v B ∧
      ∀ target, Steps p.tables e below (B.U.setTop { g with pc := g.pc + 3, stack := v.toList ++ rest }) target → Steps p.tables e below (T.setTop g) target) ∨
    (∃ (q : Addr) (vm₁ : Vm) (B : Pt), s.WarmedH vm₁ ∧ Stand p l e R s m args below meth c B.U B.locs B.cells B.slots ∧ PostX ⟨T.setVm vm₁, locs, cells, slots⟩ (Value.ref b :: argsL).toArray q B ∧
      Steps p.tables e below (T.setTop g) ((B.U.setTop { g with stack := rest }).pushFrame (.throwing q))) := by
  obtain ⟨mk, methM, hnamed, hmethM, hstM, habM⟩ := Cond.instanceMethod_spec hinst
  obtain ⟨m8, methM', cM, hn8, hmethM', -, -, -, -, -, -, hsigM⟩ := Cond.codeWith_spec hcode
  cases Option.some.inj (hn8.symm.trans hnamed)
  cases hmethM.symm.trans hmethM'
  obtain ⟨c2, r2, m2, q1, q2, q3, q4, kP, hkP, hkPi⟩ := Cond.selects_spec hsel
  cases hcls.symm.trans q1
  cases (State.methodFound?_of_named hnamed hy).symm.trans q2
  cases hnamed.symm.trans q3
  have hselP : selectMethod e.platform s.vm cellB.cls mk = .method mk := by rw [Launch.admits_selectMethod X.admits]; exact q4
  obtain ⟨vm₁, X₁, hstep₁⟩ := X.invokevirtual hexec hown hlink hnamed hmethM hstM hkP hkPi hy (a := b) (cell := cellB) hcell
    (fun z h => by rw [h] at hobj; cases hobj) hselP hmethM habM hkP hkPi (g := g) hg (argsL := argsL) (rest := rest) (hlen _ hsigM) hstack hdg
  rcases hK m meth c ⟨T.setVm vm₁, locs, cells, slots⟩ { g with stack := rest } (.invokevirtual index) mk (Value.ref b :: argsL).toArray X₁ hg hsize hdg hW (X₁.named hnamed) (hpre vm₁ X₁.warmed) with ⟨v, B, X', hpost, hsteps⟩ | ⟨q, B, X', hpost, hsteps⟩
  · exact Or.inl ⟨v, vm₁, B, X₁.warmed, X', hpost, fun target h => hstep₁ _ fun acts => by rw [doInvoke_state]; exact hsteps.trans h⟩
  · exact Or.inr ⟨q, vm₁, B, X₁.warmed, X', hpost, hstep₁ _ fun acts => by rw [doInvoke_state]; exact hsteps⟩
theorem vx_callSX (X : Stand p l e R s m args below meth c T locs cells slots) (hexec : p.tables.exec = Jvm.exec) {own : String} {index : Nat} {y : MethodName} {bytes : ByteArray} {maxL : Nat} {ret : Option FieldType} {hh : List (Nat × Nat × Nat × Nat)}
    (hown : s.vm.findClass own = some m.cls) (hlink : (Cond.methodLink own index y).before args s = true) (hstat : (Cond.static y).before args s = true) (hinit : (Cond.initialized y.cls).before args s = true)
    (hcode : (Cond.codeWith y bytes maxL ret hh).before args s = true) (hy : y.cls ≠ "java/lang/invoke/MethodHandle" ∧ y.cls ≠ "java/lang/invoke/VarHandle")
    {W9 : Nat} {Pre : Pt → Array Value → Prop} {Post : Pt → Array Value → Option Value → Pt → Prop} {PostX : Pt → Array Value → Addr → Pt → Prop} (hK : vx_Back l R p e below s args y 3 W9 Pre Post PostX)
    {g : JFrame} (hg : g.method = m) (hsize : g.locals.size = c.maxLocals) {argsL rest : List Value} (hlen : ∀ sig, parseMethodDescriptor y.desc = some sig → argsL.length = sig.parameters.length)
    (hstack : g.stack = argsL.reverse ++ rest) (hW : 2 * g.monitorRoom + (rest.map fun v => v.category).sum ≤ W9) (hdg : decode c.code g.pc = .ok (.invokestatic index, 3))
    (hpre : ∀ vm₁, s.WarmedH vm₁ → Pre ⟨T.setVm vm₁, locs, cells, slots⟩ argsL.toArray) :
    (∃ (v : Option Value) (vm₁ : Vm) (B : Pt), s.WarmedH vm₁ ∧ Stand p l e R s m args below meth c B.U B.locs B.cells B.slots ∧ Post ⟨T.setVm vm₁, locs, cells, slots⟩ argsL.toArray v B ∧
      ∀ target, Steps p.tables e below (B.U.setTop { g with pc := g.pc + 3, stack := v.toList ++ rest }) target → Steps p.tables e below (T.setTop g) target) ∨
    (∃ (q : Addr) (vm₁ : Vm) (B : Pt), s.WarmedH vm₁ ∧ Stand p l e R s m args below meth c B.U B.locs B.cells B.slots ∧ PostX ⟨T.setVm vm₁, locs, cells, slots⟩ argsL.toArray q B ∧
      Steps p.tables e below (T.setTop g) ((B.U.setTop { g with stack := rest }).pushFrame (.throwing q))) := by
  obtain ⟨mk, methM, cM, hnamed, hmethM, -, -, -, -, -, -, hsigM⟩ := Cond.codeWith_spec hcode
  have hstatic : methM.isStatic = true := Cond.static_spec hnamed hmethM hstat
  obtain ⟨kP, hkP, -⟩ := className_of_methodNamed hnamed
  have hinitP : kP.init = .initialized := Cond.initialized_spec (findClass_of_methodNamed hnamed) hkP hinit
  obtain ⟨vm₁, X₁, hstep₁⟩ := X.invokestatic hexec hown hlink hnamed hmethM hstatic hkP hinitP hy (g := g) hg (argsL := argsL) (rest := rest) (hlen _ hsigM) hstack hdg
  rcases hK m meth c ⟨T.setVm vm₁, locs, cells, slots⟩ { g with stack := rest } (.invokestatic index) mk argsL.toArray X₁ hg hsize hdg hW (X₁.named hnamed) (hpre vm₁ X₁.warmed) with ⟨v, B, X', hpost, hsteps⟩ | ⟨q, B, X', hpost, hsteps⟩
  · exact Or.inl ⟨v, vm₁, B, X₁.warmed, X', hpost, fun target h => hstep₁ _ fun acts => by rw [doInvoke_state]; exact hsteps.trans h⟩
  · exact Or.inr ⟨q, vm₁, B, X₁.warmed, X', hpost, hstep₁ _ fun acts => by rw [doInvoke_state]; exact hsteps⟩
theorem vx_callVW (X : Stand p l e R s m args below meth c T locs cells slots) (hexec : p.tables.exec = Jvm.exec) {own C : String} {index : Nat} {y : MethodName} {bytes : ByteArray} {maxL : Nat} {ret : Option FieldType} {hh : List (Nat × Nat × Nat × Nat)}
    (hown : s.vm.findClass own = some m.cls) (hlink : (Cond.methodLink own index y).before args s = true) (hinst : (Cond.instanceMethod y).before args s = true) (hsel : (Cond.selects C y y).before args s = true)
    (hcode : (Cond.codeWith y bytes maxL ret hh).before args s = true) (hy : y.cls ≠ "java/lang/invoke/MethodHandle" ∧ y.cls ≠ "java/lang/invoke/VarHandle")
    {W9 : Nat} {Pre : Pt → Array Value → Prop} {Post : Pt → Array Value → Option Value → Pt → Prop} (hK : Back l R p e below s args y 3 W9 Pre Post)
    {b : Addr} {cellB : Cell} (hcell : T.heap[b]? = some cellB) (hobj : cellB.vm.isStatics = false) (hcls : s.vm.findClass C = some cellB.cls)
    {g : JFrame} (hg : g.method = m) (hsize : g.locals.size = c.maxLocals) {argsL rest : List Value} (hlen : ∀ sig, parseMethodDescriptor y.desc = some sig → argsL.length = sig.parameters.length)
    (hstack : g.stack = argsL.reverse ++ .ref b :: rest) (hW : 2 * g.monitorRoom + (rest.map fun v => v.category).sum ≤ W9) (hdg : decode c.code g.pc = .ok (.invokevirtual index, 3))
    (hpre : ∀ vm₁, s.WarmedH vm₁ → Pre ⟨T.setVm vm₁, locs, cells, slots⟩ (Value.ref b :: argsL).toArray) :
    ∃ (v : Option Value) (vm₁ : Vm) (B : Pt), s.WarmedH vm₁ ∧ Stand p l e R s m args below meth c B.U B.locs B.cells B.slots ∧ Post ⟨T.setVm vm₁, locs, cells, slots⟩ (Value.ref b :: argsL).toArray v B ∧
      ∀ target, Steps p.tables e below (B.U.setTop { g with pc := g.pc + 3, stack := v.toList ++ rest }) target → Steps p.tables e below (T.setTop g) target := by
  obtain ⟨mk, methM, hnamed, hmethM, hstM, habM⟩ := Cond.instanceMethod_spec hinst
  obtain ⟨m8, methM', cM, hn8, hmethM', -, -, -, -, -, -, hsigM⟩ := Cond.codeWith_spec hcode
  cases Option.some.inj (hn8.symm.trans hnamed)
  cases hmethM.symm.trans hmethM'
  obtain ⟨c2, r2, m2, q1, q2, q3, q4, kP, hkP, hkPi⟩ := Cond.selects_spec hsel
  cases hcls.symm.trans q1
  cases (State.methodFound?_of_named hnamed hy).symm.trans q2
  cases hnamed.symm.trans q3
  have hselP : selectMethod e.platform s.vm cellB.cls mk = .method mk := by rw [Launch.admits_selectMethod X.admits]; exact q4
  obtain ⟨vm₁, X₁, hstep₁⟩ := X.invokevirtual hexec hown hlink hnamed hmethM hstM hkP hkPi hy (a := b) (cell := cellB) hcell
    (fun z h => by rw [h] at hobj; cases hobj) hselP hmethM habM hkP hkPi (g := g) hg (argsL := argsL) (rest := rest) (hlen _ hsigM) hstack hdg
  obtain ⟨v, B, X', hpost, hsteps⟩ := hK m meth c ⟨T.setVm vm₁, locs, cells, slots⟩ { g with stack := rest } (.invokevirtual index) mk (Value.ref b :: argsL).toArray X₁ hg hsize hdg hW (X₁.named hnamed) (hpre vm₁ X₁.warmed)
  exact ⟨v, vm₁, B, X₁.warmed, X', hpost, fun target h => hstep₁ _ fun acts => by rw [doInvoke_state]; exact hsteps.trans h⟩
abbrev vx_CVW (R : Room) (s : State) (args : Array Value) (own C : String) (index : Nat) (y : MethodName) (bytes : ByteArray) (maxL : Nat) (ret : Option FieldType) (hh : List (Nat × Nat × Nat × Nat)) (ws : List Cond) (rm : Room) (mc ms n : Nat) : Prop :=
  (rm.cells = mc ∧ rm.slots = ms ∧ rm.frames + 1 ≤ R.frames ∧ 8 + (maxL + 11) + rm.locals ≤ R.locals ∧ (∀ w ∈ ws, ∀ (a' : Array Value) (U : State), s.WarmedH U.vm → w.before a' U = true) ∧ Cond.codeWith y bytes maxL ret hh ∈ ws) ∧
  (Cond.codeWith y bytes maxL ret hh).before args s = true ∧ (Cond.initialized y.cls).before args s = true ∧ (y.cls ≠ "java/lang/invoke/MethodHandle" ∧ y.cls ≠ "java/lang/invoke/VarHandle") ∧
  (∀ sig, parseMethodDescriptor y.desc = some sig → n = sig.parameters.length) ∧ (Cond.methodLink own index y).before args s = true ∧ (Cond.instanceMethod y).before args s = true ∧ (Cond.selects C y y).before args s = true
theorem vx_cwVW {own C : String} {index maxL mc ms : Nat} {y : MethodName} {bytes : ByteArray} {ret : Option FieldType} {hh : List (Nat × Nat × Nat × Nat)} {Ts ws ws' : List Cond} {rm : Room} (n : Nat) (ht : ∀ w ∈ Ts, w.before args s = true) (hT : GoodIn Ts (wsV own index C y ws)) (hw : ws = Cond.codeWith y bytes maxL ret hh :: ws') (hrc : rm.cells = mc) (hrs : rm.slots = ms)
    (hd : y.cls = C ∧ y.cls ≠ "java/lang/invoke/MethodHandle" ∧ y.cls ≠ "java/lang/invoke/VarHandle" ∧ (parseMethodDescriptor y.desc).map (fun d => d.parameters.length) = some n) (hR : rm.frames + 1 ≤ R.frames ∧ 8 + (maxL + 11) + rm.locals ≤ R.locals) :
    vx_CVW R s args own C index y bytes maxL ret hh ws rm mc ms n := by
  obtain ⟨hC, hd⟩ := hd
  subst hC
  have ok : ∀ w ∈ wsV own index y.cls y ws, w.before args s = true := fun w h => ht w (hT w h).1
  have hG : GoodIn Ts ws := fun w h => hT w (by unfold wsV; exact List.mem_append_right _ h)
  have hc : Cond.codeWith y bytes maxL ret hh ∈ ws := by rw [hw]; exact List.mem_cons_self
  refine ⟨⟨hrc, hrs, hR.1, hR.2, pay_in ht hG, hc⟩, ht _ (hG _ hc).1, ok _ (by simp [wsV]), ⟨hd.1, hd.2.1⟩, fun sig h => ?_, ok _ (by simp [wsV]), ok _ (by simp [wsV]), ok _ (by simp [wsV])⟩
  have h2 := hd.2.2
  rw [h] at h2
  exact (Option.some.inj h2).symm
theorem vx_runVW {y : MethodName} {bytes cc : ByteArray} {maxL nL mc ms n index : Nat} {ret : Option FieldType} {hh : List (Nat × Nat × Nat × Nat)} {ws : List Cond} {rm : Room} {Pc : Array Value → State → Prop} {Qc : Array Value → State → Outcome → State → Prop} {free : Addr → Prop} {Ts : List Cond} {own C : String} {b : Addr} {As rest : List Value} {g : JFrame}
    (S : CallFix p m c cc nL s args Ts own) (hM : Met l y ws rm Pc Qc mc ms free) (cw : vx_CVW R s args own C index y bytes maxL ret hh ws rm mc ms n) (hp : PreV s H C b Pc As)
    (hg : g.method = m) (hn : As.length = n) (hsize : g.locals.size = nL) (hstack : g.stack = As.reverse ++ .ref b :: rest) (hW : 2 * g.monitorRoom + (rest.map fun v => v.category).sum ≤ 8) (hdg : decode cc g.pc = .ok (.invokevirtual index, 3)) (hf : cells + mc ≤ R.cells ∧ slots + ms ≤ R.slots) :
    va_Run p l e R s m args below meth c H locs cells slots mc ms g rest (Qc (Value.ref b :: As).toArray) free := by
  obtain ⟨⟨hrc, hrs, hfr, hlo, hws, hcw⟩, hcode, hini, hy, hlen, hl, hin, hse⟩ := cw
  have hK : Back l R p e below s args y 3 8 (PreOf R mc ms Pc) (PostOf Qc mc ms free) := va_backW (hh := hh) (bytes := bytes) (maxL := maxL) (ret := ret) hM hp.1 hrc hrs hfr hlo hws hcw (fun a' U hW => word_at hW (Or.inl (by first | rfl | simp [Cond.onTables, Cond.keeps, Cond.steady])) hini)
  obtain ⟨hx, hb, hml, ho, -⟩ := S
  obtain ⟨-, ⟨cellB, hcB, hoB, hclB⟩, hPc⟩ := hp
  intro T hT X
  obtain ⟨v, vm₁, ⟨U', l2, c2, s2⟩, hW₁, X', ⟨g', mk, t, L, e1, e2, hq, h1, hL, h2, h3⟩, st⟩ := vx_callVW X hx (C := C) (hh := hh) (bytes := bytes) (maxL := maxL) (ret := ret) ho hl hin hse hcode hy hK (by rw [hT]; exact hcB) hoB hclB hg (hsize.trans hml.symm) (argsL := As) (rest := rest) (fun sig h => hn.trans (hlen sig h)) hstack hW (by rw [hb]; exact hdg)
    (fun vm₁ hW₁ => ⟨hf.1, hf.2, hPc (T.setVm vm₁) hT hW₁⟩)
  dsimp only [Pt.U, Pt.locs, Pt.cells, Pt.slots] at X' e1 e2 h1 h2 h3 st
  subst h1; subst h2; subst h3
  exact ⟨v, (T.setVm vm₁).calling g' mk (Value.ref b :: As).toArray, t, U', L, hT, X', hL, e1, e2, hq, st⟩
section
variable {y : MethodName} {bytes cc : ByteArray} {maxL nL mc ms n index : Nat} {ret : Option FieldType} {ws : List Cond} {rm : Room} {Pc : Array Value → State → Prop} {Qc : Array Value → State → Outcome → State → Prop} {XC : String → State → State → Prop} {free : Addr → Prop} {Ts : List Cond} {own C : String} {b : Addr} {As rest : List Value} {g : JFrame}
theorem vx_runVX {hh : List (Nat × Nat × Nat × Nat)} (S : CallFix p m c cc nL s args Ts own) (hM : vx_Met l y ws rm Pc Qc XC mc ms free) (cw : vx_CVW R s args own C index y bytes maxL ret hh ws rm mc ms n) (hp : PreV s H C b Pc As)
    (hg : g.method = m) (hn : As.length = n) (hsize : g.locals.size = nL) (hstack : g.stack = As.reverse ++ .ref b :: rest) (hW : 2 * g.monitorRoom + (rest.map fun v => v.category).sum ≤ 8) (hdg : decode cc g.pc = .ok (.invokevirtual index, 3)) (hf : cells + mc ≤ R.cells ∧ slots + ms ≤ R.slots) :
    vx_Run p l e R s m args below meth c H locs cells slots mc ms g rest (Qc (Value.ref b :: As).toArray) XC free := by
  obtain ⟨⟨hrc, hrs, hfr, hlo, hws, hcw⟩, hcode, hini, hy, hlen, hl, hin, hse⟩ := cw
  have hK : vx_Back l R p e below s args y 3 8 (PreOf R mc ms Pc) (PostOf Qc mc ms free) (vx_Post XC mc ms free) := vx_backW (hh := hh) (bytes := bytes) (maxL := maxL) (ret := ret) hM hp.1 hrc hrs hfr hlo hws hcw (fun a' U hW => word_at hW (Or.inl (by first | rfl | simp [Cond.onTables, Cond.keeps, Cond.steady])) hini)
  obtain ⟨hx, hb, hml, ho, -⟩ := S
  obtain ⟨-, ⟨cellB, hcB, hoB, hclB⟩, hPc⟩ := hp
  intro T hT X
  rcases vx_callVX X hx (C := C) (hh := hh) (bytes := bytes) (maxL := maxL) (ret := ret) ho hl hin hse hcode hy hK (by rw [hT]; exact hcB) hoB hclB hg (hsize.trans hml.symm) (argsL := As) (rest := rest) (fun sig h => hn.trans (hlen sig h)) hstack hW (by rw [hb]; exact hdg)
    (fun vm₁ hW₁ => ⟨hf.1, hf.2, hPc (T.setVm vm₁) hT hW₁⟩) with ⟨v, vm₁, ⟨U', l2, c2, s2⟩, hW₁, X', ⟨g', mk, t, L, e1, e2, hq, h1, hL, h2, h3⟩, st⟩ | ⟨q, vm₁, ⟨U', l2, c2, s2⟩, hW₁, X', ⟨g', mk, t, L, E, ce, e1, e2, hq, hce, hcv, hcl, h1, hL, h2, h3⟩, st⟩
  · dsimp only [Pt.U, Pt.locs, Pt.cells, Pt.slots] at X' e1 e2 h1 h2 h3 st
    subst h1; subst h2; subst h3
    exact Or.inl ⟨v, (T.setVm vm₁).calling g' mk (Value.ref b :: As).toArray, t, U', L, hT, X', hL, e1, e2, hq, st⟩
  · dsimp only [Pt.U, Pt.locs, Pt.cells, Pt.slots] at X' e1 e2 h1 h2 h3 st hcl
    subst h1; subst h2; subst h3
    exact Or.inr ⟨q, (T.setVm vm₁).calling g' mk (Value.ref b :: As).toArray, t, U', L, E, ce, hT, X', hL, e1, e2, hq, hce, hcv, vx_cls hW₁ hcl, st⟩
theorem vx_runSX {hh : List (Nat × Nat × Nat × Nat)} (S : CallFix p m c cc nL s args Ts own) (hM : vx_Met l y ws rm Pc Qc XC mc ms free) (cw : vx_CSW R s args own index y bytes maxL ret hh ws rm mc ms n) (hp : PreS s H Pc As)
    (hg : g.method = m) (hn : As.length = n) (hsize : g.locals.size = nL) (hstack : g.stack = As.reverse ++ rest) (hW : 2 * g.monitorRoom + (rest.map fun v => v.category).sum ≤ 8) (hdg : decode cc g.pc = .ok (.invokestatic index, 3)) (hf : cells + mc ≤ R.cells ∧ slots + ms ≤ R.slots) :
    vx_Run p l e R s m args below meth c H locs cells slots mc ms g rest (Qc As.toArray) XC free := by
  obtain ⟨⟨hrc, hrs, hfr, hlo, hws, hcw⟩, hcode, hini, hy, hlen, hl, hstt⟩ := cw
  have hK : vx_Back l R p e below s args y 3 8 (PreOf R mc ms Pc) (PostOf Qc mc ms free) (vx_Post XC mc ms free) := vx_backW (hh := hh) (bytes := bytes) (maxL := maxL) (ret := ret) hM hp.1 hrc hrs hfr hlo hws hcw (fun a' U hW => word_at hW (Or.inl (by first | rfl | simp [Cond.onTables, Cond.keeps, Cond.steady])) hini)
  obtain ⟨hx, hb, hml, ho, -⟩ := S
  intro T hT X
  rcases vx_callSX X hx (hh := hh) (bytes := bytes) (maxL := maxL) (ret := ret) ho hl hstt hini hcode hy hK hg (hsize.trans hml.symm) (argsL := As) (rest := rest) (fun sig h => hn.trans (hlen sig h)) hstack hW (by rw [hb]; exact hdg)
    (fun vm₁ hW₁ => ⟨hf.1, hf.2, hp.2 (T.setVm vm₁) hT hW₁⟩) with ⟨v, vm₁, ⟨U', l2, c2, s2⟩, hW₁, X', ⟨g', mk, t, L, e1, e2, hq, h1, hL, h2, h3⟩, st⟩ | ⟨q, vm₁, ⟨U', l2, c2, s2⟩, hW₁, X', ⟨g', mk, t, L, E, ce, e1, e2, hq, hce, hcv, hcl, h1, hL, h2, h3⟩, st⟩
  · dsimp only [Pt.U, Pt.locs, Pt.cells, Pt.slots] at X' e1 e2 h1 h2 h3 st
    subst h1; subst h2; subst h3
    exact Or.inl ⟨v, (T.setVm vm₁).calling g' mk As.toArray, t, U', L, hT, X', hL, e1, e2, hq, st⟩
  · dsimp only [Pt.U, Pt.locs, Pt.cells, Pt.slots] at X' e1 e2 h1 h2 h3 st hcl
    subst h1; subst h2; subst h3
    exact Or.inr ⟨q, (T.setVm vm₁).calling g' mk As.toArray, t, U', L, E, ce, hT, X', hL, e1, e2, hq, hce, hcv, vx_cls hW₁ hcl, st⟩
end
end VXH
theorem vx_ofWH {l : Launch} {y : MethodName} {ws ws' : List Cond} {rm : Room} {Pc : Array Value → State → Prop} {Qc : Array Value → State → Outcome → State → Prop} {XC : String → State → State → Prop} {mc ms : Nat} {free : Addr → Prop} {cc : ByteArray} {maxL : Nat} {ret : Option FieldType} {hh : List (Nat × Nat × Nat × Nat)}
    (hy : plainName y.cls = true) (hw : ws = Cond.codeWith y cc maxL ret hh :: ws')
    (body : ∀ p e s m args below meth c s₁, BodyLoose p l y (headSpec ws rm) cc maxL ret e s m args below meth c s₁ → c.maxLocals = maxL → Pc args s →
      W p l e (headSpec ws rm).room s m args below meth c s.heap [] 0 0 (vx_MQ below Qc XC args s mc ms free) (entryFrame m args maxL)) : vx_Met l y ws rm Pc Qc XC mc ms free := by
  refine MetFree.of_bodyS (code := cc) (maxLocals := maxL) (ret := ret) hy ?_ ?_
  · intro args s m h hn
    obtain ⟨m9, meth, c, hn9, h1, h2, h3, h4, -, h5, h6, -⟩ := Cond.codeWith_spec (atoms_spec (ws := ws) h _ (by rw [hw]; exact List.mem_cons_self))
    cases hn.symm.trans hn9
    exact ⟨meth, c, h1, h2, h3, h4, h5, h6⟩
  · intro p e s m args below meth c s₁ B hml hP _
    have hh0 : s₁.heap = s.heap := by rw [B.state]; rfl
    obtain ⟨t, a1, o, b1, b2, b3⟩ := body p e s m args below meth c s₁ B hml hP s₁ hh0 (Stand.of_body B)
    exact ⟨t, o, a1, b1, b2, b3⟩
/-! ===== END ===== -/
end
section
def RX0 : String := "BorrowedHats$Ways"
def TX0 : u_T := fun k => match k with
  | 0 => ("BorrowedHats$Ways", "held", "[I", true)
  | _ => ("BorrowedHats$Ways", "count", "I", false)
def tyX0 : Nat → FieldType := fun k => match k with
  | 0 => .array .int
  | _ => .int
abbrev wsX00 : List Cond := u_ws RX0 TX0 2
theorem nmX0 : ∀ a, a < 2 → ∀ b, b < 2 → a ≠ b → (TX0 a).2.1 ≠ (TX0 b).2.1 := by decide +kernel
theorem tyX0_ok : ∀ k, k < 2 → parseFieldDescriptor (TX0 k).2.2.1 = some (tyX0 k) := by decide +kernel
abbrev cX0_init : ByteArray := prog_2_method_1_code
def yX0_init : MethodName := ⟨RX0, "<init>", "()V"⟩
abbrev cX0_count : ByteArray := prog_2_method_2_code
def yX0_count : MethodName := ⟨RX0, "count", "()I"⟩
abbrev cX0_at : ByteArray := prog_2_method_3_code
def yX0_at : MethodName := ⟨RX0, "at", "(I)I"⟩
abbrev cX0_add : ByteArray := prog_2_method_4_code
def yX0_add : MethodName := ⟨RX0, "add", "(I)V"⟩
abbrev cX0_clear : ByteArray := prog_2_method_5_code
def yX0_clear : MethodName := ⟨RX0, "clear", "()V"⟩
abbrev cX0_put : ByteArray := prog_2_method_6_code
def yX0_put : MethodName := ⟨RX0, "put", "(II)V"⟩
abbrev cX0_copyFrom : ByteArray := prog_2_method_7_code
def yX0_copyFrom : MethodName := ⟨RX0, "copyFrom", "(LBorrowedHats$Ways;)V"⟩
def RX1 : String := "BorrowedHats"
def TX1 : u_T := fun k => match k with
  | 0 => ("BorrowedHats", "open", "LBorrowedHats$Ways;", true)
  | 1 => ("BorrowedHats", "trial", "LBorrowedHats$Ways;", true)
  | 2 => ("BorrowedHats", "seenHats", "[I", true)
  | 3 => ("BorrowedHats", "ownColoursByView", "[I", true)
  | 4 => ("BorrowedHats", "playerCount", "I", false)
  | 5 => ("BorrowedHats", "wayOfNow", "I", false)
  | 6 => ("BorrowedHats", "turn", "I", false)
  | 7 => ("BorrowedHats", "turnCount", "I", false)
  | 8 => ("BorrowedHats", "silentCount", "I", false)
  | _ => ("BorrowedHats", "underWay", "Z", false)
def tyX1 : Nat → FieldType := fun k => match k with
  | 0 => .object "BorrowedHats$Ways"
  | 1 => .object "BorrowedHats$Ways"
  | 2 => .array .int
  | 3 => .array .int
  | 4 => .int
  | 5 => .int
  | 6 => .int
  | 7 => .int
  | 8 => .int
  | _ => .boolean
abbrev wsX10 : List Cond := u_ws RX1 TX1 10
theorem nmX1 : ∀ a, a < 10 → ∀ b, b < 10 → a ≠ b → (TX1 a).2.1 ≠ (TX1 b).2.1 := by decide +kernel
theorem tyX1_ok : ∀ k, k < 10 → parseFieldDescriptor (TX1 k).2.2.1 = some (tyX1 k) := by decide +kernel
abbrev cX1_init : ByteArray := prog_1_method_1_code
def yX1_init : MethodName := ⟨RX1, "<init>", "()V"⟩
abbrev cX1_addPlayer : ByteArray := prog_1_method_2_code
def yX1_addPlayer : MethodName := ⟨RX1, "addPlayer", "(I)I"⟩
abbrev cX1_turnAway : ByteArray := prog_1_method_3_code
def yX1_turnAway : MethodName := ⟨RX1, "turnAway", "(II)Z"⟩
abbrev cX1_borrow : ByteArray := prog_1_method_4_code
def yX1_borrow : MethodName := ⟨RX1, "borrow", "(II)I"⟩
abbrev cX1_takeTurn : ByteArray := prog_1_method_5_code
def yX1_takeTurn : MethodName := ⟨RX1, "takeTurn", "()I"⟩
abbrev cX1_sayAtLeast : ByteArray := prog_1_method_6_code
def yX1_sayAtLeast : MethodName := ⟨RX1, "sayAtLeast", "(II)I"⟩
abbrev cX1_sayAtMost : ByteArray := prog_1_method_7_code
def yX1_sayAtMost : MethodName := ⟨RX1, "sayAtMost", "(II)I"⟩
abbrev cX1_begin : ByteArray := prog_1_method_8_code
def yX1_begin : MethodName := ⟨RX1, "begin", "()I"⟩
abbrev cX1_players : ByteArray := prog_1_method_9_code
def yX1_players : MethodName := ⟨RX1, "players", "()I"⟩
abbrev cX1_turnsTaken : ByteArray := prog_1_method_10_code
def yX1_turnsTaken : MethodName := ⟨RX1, "turnsTaken", "()I"⟩
abbrev cX1_silentTurns : ByteArray := prog_1_method_11_code
def yX1_silentTurns : MethodName := ⟨RX1, "silentTurns", "()I"⟩
abbrev cX1_playerInTurn : ByteArray := prog_1_method_12_code
def yX1_playerInTurn : MethodName := ⟨RX1, "playerInTurn", "()I"⟩
abbrev cX1_hatOf : ByteArray := prog_1_method_13_code
def yX1_hatOf : MethodName := ⟨RX1, "hatOf", "(I)I"⟩
abbrev cX1_sees : ByteArray := prog_1_method_14_code
def yX1_sees : MethodName := ⟨RX1, "sees", "(II)Z"⟩
abbrev cX1_hatsOf : ByteArray := prog_1_method_15_code
def yX1_hatsOf : MethodName := ⟨RX1, "hatsOf", "(I)I"⟩
abbrev cX1_openWays : ByteArray := prog_1_method_16_code
def yX1_openWays : MethodName := ⟨RX1, "openWays", "()I"⟩
abbrev cX1_openWaysWith : ByteArray := prog_1_method_17_code
def yX1_openWaysWith : MethodName := ⟨RX1, "openWaysWith", "(II)I"⟩
abbrev cX1_isKnownToAll : ByteArray := prog_1_method_18_code
def yX1_isKnownToAll : MethodName := ⟨RX1, "isKnownToAll", "(I)Z"⟩
abbrev cX1_possibleWays : ByteArray := prog_1_method_19_code
def yX1_possibleWays : MethodName := ⟨RX1, "possibleWays", "(I)I"⟩
abbrev cX1_holdsPossible : ByteArray := prog_1_method_20_code
def yX1_holdsPossible : MethodName := ⟨RX1, "holdsPossible", "(III)Z"⟩
abbrev cX1_isCertain : ByteArray := prog_1_method_21_code
def yX1_isCertain : MethodName := ⟨RX1, "isCertain", "(I)Z"⟩
abbrev cX1_knowsHatOf : ByteArray := prog_1_method_22_code
def yX1_knowsHatOf : MethodName := ⟨RX1, "knowsHatOf", "(II)Z"⟩
abbrev cX1_knowsCertain : ByteArray := prog_1_method_23_code
def yX1_knowsCertain : MethodName := ⟨RX1, "knowsCertain", "(II)Z"⟩
abbrev cX1_certainPlayers : ByteArray := prog_1_method_24_code
def yX1_certainPlayers : MethodName := ⟨RX1, "certainPlayers", "()I"⟩
abbrev cX1_openAfterTurn : ByteArray := prog_1_method_25_code
def yX1_openAfterTurn : MethodName := ⟨RX1, "openAfterTurn", "()I"⟩
abbrev cX1_turnsUntilCertain : ByteArray := prog_1_method_26_code
def yX1_turnsUntilCertain : MethodName := ⟨RX1, "turnsUntilCertain", "(I)I"⟩
abbrev cX1_turnsUntilAllCertain : ByteArray := prog_1_method_27_code
def yX1_turnsUntilAllCertain : MethodName := ⟨RX1, "turnsUntilAllCertain", "()I"⟩
abbrev cX1_bestToName : ByteArray := prog_1_method_28_code
def yX1_bestToName : MethodName := ⟨RX1, "bestToName", "()I"⟩
abbrev cX1_certainIfTold : ByteArray := prog_1_method_29_code
def yX1_certainIfTold : MethodName := ⟨RX1, "certainIfTold", "(I)I"⟩
abbrev cX1_meanPossible : ByteArray := prog_1_method_30_code
def yX1_meanPossible : MethodName := ⟨RX1, "meanPossible", "()D"⟩
abbrev cX1_digest : ByteArray := prog_1_method_31_code
def yX1_digest : MethodName := ⟨RX1, "digest", "()J"⟩
abbrev cX1_requirePlayer : ByteArray := prog_1_method_32_code
def yX1_requirePlayer : MethodName := ⟨RX1, "requirePlayer", "(I)V"⟩
abbrev cX1_requireTwoPlayers : ByteArray := prog_1_method_33_code
def yX1_requireTwoPlayers : MethodName := ⟨RX1, "requireTwoPlayers", "(II)V"⟩
abbrev cX1_requireSomePlayer : ByteArray := prog_1_method_34_code
def yX1_requireSomePlayer : MethodName := ⟨RX1, "requireSomePlayer", "()V"⟩
abbrev cX1_requireColour : ByteArray := prog_1_method_35_code
def yX1_requireColour : MethodName := ⟨RX1, "requireColour", "(I)V"⟩
abbrev cX1_requireMany : ByteArray := prog_1_method_36_code
def yX1_requireMany : MethodName := ⟨RX1, "requireMany", "(I)V"⟩
abbrev cX1_shiftOf : ByteArray := prog_1_method_37_code
def yX1_shiftOf : MethodName := ⟨RX1, "shiftOf", "(I)I"⟩
abbrev cX1_hatMask : ByteArray := prog_1_method_38_code
def yX1_hatMask : MethodName := ⟨RX1, "hatMask", "(I)I"⟩
abbrev cX1_colourIn : ByteArray := prog_1_method_39_code
def yX1_colourIn : MethodName := ⟨RX1, "colourIn", "(II)I"⟩
abbrev cX1_exchanged : ByteArray := prog_1_method_40_code
def yX1_exchanged : MethodName := ⟨RX1, "exchanged", "(III)I"⟩
abbrev cX1_hatsIn : ByteArray := prog_1_method_41_code
def yX1_hatsIn : MethodName := ⟨RX1, "hatsIn", "(II)I"⟩
abbrev cX1_seenHatsOf : ByteArray := prog_1_method_42_code
def yX1_seenHatsOf : MethodName := ⟨RX1, "seenHatsOf", "(I)I"⟩
abbrev cX1_setSeenHatsOf : ByteArray := prog_1_method_43_code
def yX1_setSeenHatsOf : MethodName := ⟨RX1, "setSeenHatsOf", "(II)V"⟩
abbrev cX1_seesHat : ByteArray := prog_1_method_44_code
def yX1_seesHat : MethodName := ⟨RX1, "seesHat", "(II)Z"⟩
abbrev cX1_lookAtEachOther : ByteArray := prog_1_method_45_code
def yX1_lookAtEachOther : MethodName := ⟨RX1, "lookAtEachOther", "(I)V"⟩
abbrev cX1_viewOf : ByteArray := prog_1_method_46_code
def yX1_viewOf : MethodName := ⟨RX1, "viewOf", "(II)I"⟩
abbrev cX1_agreesWithNow : ByteArray := prog_1_method_47_code
def yX1_agreesWithNow : MethodName := ⟨RX1, "agreesWithNow", "(II)Z"⟩
abbrev cX1_openColoursOf : ByteArray := prog_1_method_48_code
def yX1_openColoursOf : MethodName := ⟨RX1, "openColoursOf", "(I)V"⟩
abbrev cX1_sayBetween : ByteArray := prog_1_method_49_code
def yX1_sayBetween : MethodName := ⟨RX1, "sayBetween", "(III)I"⟩
abbrev cX1_keepWithHats : ByteArray := prog_1_method_50_code
def yX1_keepWithHats : MethodName := ⟨RX1, "keepWithHats", "(LBorrowedHats$Ways;III)V"⟩
abbrev cX1_keepWithHat : ByteArray := prog_1_method_51_code
def yX1_keepWithHat : MethodName := ⟨RX1, "keepWithHat", "(LBorrowedHats$Ways;II)V"⟩
abbrev cX1_keepByCertainty : ByteArray := prog_1_method_52_code
def yX1_keepByCertainty : MethodName := ⟨RX1, "keepByCertainty", "(LBorrowedHats$Ways;IZ)V"⟩
abbrev cX1_countWithHat : ByteArray := prog_1_method_53_code
def yX1_countWithHat : MethodName := ⟨RX1, "countWithHat", "(II)I"⟩
abbrev cX1_countNaming : ByteArray := prog_1_method_54_code
def yX1_countNaming : MethodName := ⟨RX1, "countNaming", "(I)I"⟩
abbrev cX1_countPossible : ByteArray := prog_1_method_55_code
def yX1_countPossible : MethodName := ⟨RX1, "countPossible", "(I)I"⟩
abbrev cX1_possibleColours : ByteArray := prog_1_method_56_code
def yX1_possibleColours : MethodName := ⟨RX1, "possibleColours", "(LBorrowedHats$Ways;II)I"⟩
abbrev cX1_isOneColour : ByteArray := prog_1_method_57_code
def yX1_isOneColour : MethodName := ⟨RX1, "isOneColour", "(I)Z"⟩
abbrev cX1_isCertainBy : ByteArray := prog_1_method_58_code
def yX1_isCertainBy : MethodName := ⟨RX1, "isCertainBy", "(LBorrowedHats$Ways;I)Z"⟩
abbrev cX1_countCertain : ByteArray := prog_1_method_59_code
def yX1_countCertain : MethodName := ⟨RX1, "countCertain", "(LBorrowedHats$Ways;)I"⟩
abbrev cX1_noteOwnColours : ByteArray := prog_1_method_60_code
def yX1_noteOwnColours : MethodName := ⟨RX1, "noteOwnColours", "(LBorrowedHats$Ways;I)V"⟩
abbrev cX1_ownColours : ByteArray := prog_1_method_61_code
def yX1_ownColours : MethodName := ⟨RX1, "ownColours", "(I)I"⟩
abbrev cX1_setOwnColours : ByteArray := prog_1_method_62_code
def yX1_setOwnColours : MethodName := ⟨RX1, "setOwnColours", "(II)V"⟩
abbrev cX1_wouldBeCertain : ByteArray := prog_1_method_63_code
def yX1_wouldBeCertain : MethodName := ⟨RX1, "wouldBeCertain", "(II)Z"⟩
abbrev cX1_playerAfter : ByteArray := prog_1_method_64_code
def yX1_playerAfter : MethodName := ⟨RX1, "playerAfter", "(I)I"⟩
abbrev cX1_passTurn : ByteArray := prog_1_method_65_code
def yX1_passTurn : MethodName := ⟨RX1, "passTurn", "(LBorrowedHats$Ways;I)Z"⟩
abbrev cX1_turnsUntilCertainFrom : ByteArray := prog_1_method_66_code
def yX1_turnsUntilCertainFrom : MethodName := ⟨RX1, "turnsUntilCertainFrom", "(II)I"⟩
abbrev cX1_areCertainBy : ByteArray := prog_1_method_67_code
def yX1_areCertainBy : MethodName := ⟨RX1, "areCertainBy", "(LBorrowedHats$Ways;II)Z"⟩
abbrev cX1_digested : ByteArray := prog_1_method_68_code
def yX1_digested : MethodName := ⟨RX1, "digested", "(JJ)J"⟩
abbrev cX1_digested_ : ByteArray := prog_1_method_69_code
def yX1_digested_ : MethodName := ⟨RX1, "digested", "(JZ)J"⟩
abbrev cX1_digestedPlayer : ByteArray := prog_1_method_70_code
def yX1_digestedPlayer : MethodName := ⟨RX1, "digestedPlayer", "(JI)J"⟩
def RX2 : String := "BorrowedHatsModel"
def TX2 : u_T := fun k => match k with
  | 0 => ("BorrowedHatsModel", "thrown", "I", false)
  | 1 => ("BorrowedHatsModel", "players", "I", false)
  | 2 => ("BorrowedHatsModel", "hasBegun", "Z", false)
  | 3 => ("BorrowedHatsModel", "hat", "[I", true)
  | 4 => ("BorrowedHatsModel", "seen", "[I", true)
  | 5 => ("BorrowedHatsModel", "open", "[Z", false)
  | 6 => ("BorrowedHatsModel", "next", "[Z", false)
  | 7 => ("BorrowedHatsModel", "kept", "[Z", true)
  | 8 => ("BorrowedHatsModel", "own", "[I", true)
  | 9 => ("BorrowedHatsModel", "turns", "I", false)
  | _ => ("BorrowedHatsModel", "silent", "I", false)
def tyX2 : Nat → FieldType := fun k => match k with
  | 0 => .int
  | 1 => .int
  | 2 => .boolean
  | 3 => .array .int
  | 4 => .array .int
  | 5 => .array .boolean
  | 6 => .array .boolean
  | 7 => .array .boolean
  | 8 => .array .int
  | 9 => .int
  | _ => .int
abbrev wsX20 : List Cond := u_ws RX2 TX2 11
theorem nmX2 : ∀ a, a < 11 → ∀ b, b < 11 → a ≠ b → (TX2 a).2.1 ≠ (TX2 b).2.1 := by decide +kernel
theorem tyX2_ok : ∀ k, k < 11 → parseFieldDescriptor (TX2 k).2.2.1 = some (tyX2 k) := by decide +kernel
abbrev cX2_init : ByteArray := prog_4_method_1_code
def yX2_init : MethodName := ⟨RX2, "<init>", "()V"⟩
abbrev cX2_thrown : ByteArray := prog_4_method_2_code
def yX2_thrown : MethodName := ⟨RX2, "thrown", "()I"⟩
abbrev cX2_fail : ByteArray := prog_4_method_3_code
def yX2_fail : MethodName := ⟨RX2, "fail", "(I)I"⟩
abbrev cX2_told : ByteArray := prog_4_method_4_code
def yX2_told : MethodName := ⟨RX2, "told", "(I)I"⟩
abbrev cX2_isIn : ByteArray := prog_4_method_5_code
def yX2_isIn : MethodName := ⟨RX2, "isIn", "(III)Z"⟩
abbrev cX2_isPlayer : ByteArray := prog_4_method_6_code
def yX2_isPlayer : MethodName := ⟨RX2, "isPlayer", "(I)Z"⟩
abbrev cX2_isColour : ByteArray := prog_4_method_7_code
def yX2_isColour : MethodName := ⟨RX2, "isColour", "(I)Z"⟩
abbrev cX2_ways : ByteArray := prog_4_method_8_code
def yX2_ways : MethodName := ⟨RX2, "ways", "()I"⟩
abbrev cX2_colour : ByteArray := prog_4_method_9_code
def yX2_colour : MethodName := ⟨RX2, "colour", "(II)I"⟩
abbrev cX2_real : ByteArray := prog_4_method_10_code
def yX2_real : MethodName := ⟨RX2, "real", "()I"⟩
abbrev cX2_sees : ByteArray := prog_4_method_11_code
def yX2_sees : MethodName := ⟨RX2, "sees", "(III)Z"⟩
abbrev cX2_view : ByteArray := prog_4_method_12_code
def yX2_view : MethodName := ⟨RX2, "view", "(II)I"⟩
abbrev cX2_colours : ByteArray := prog_4_method_13_code
def yX2_colours : MethodName := ⟨RX2, "colours", "(III)I"⟩
abbrev cX2_isOne : ByteArray := prog_4_method_14_code
def yX2_isOne : MethodName := ⟨RX2, "isOne", "(I)Z"⟩
abbrev cX2_look : ByteArray := prog_4_method_15_code
def yX2_look : MethodName := ⟨RX2, "look", "(I)V"⟩
abbrev cX2_certain : ByteArray := prog_4_method_16_code
def yX2_certain : MethodName := ⟨RX2, "certain", "(II)Z"⟩
abbrev cX2_certainNow : ByteArray := prog_4_method_17_code
def yX2_certainNow : MethodName := ⟨RX2, "certainNow", "(I)Z"⟩
abbrev cX2_openNow : ByteArray := prog_4_method_18_code
def yX2_openNow : MethodName := ⟨RX2, "openNow", "()I"⟩
abbrev cX2_take : ByteArray := prog_4_method_19_code
def yX2_take : MethodName := ⟨RX2, "take", "()V"⟩
abbrev cX2_turn : ByteArray := prog_4_method_20_code
def yX2_turn : MethodName := ⟨RX2, "turn", "(II)I"⟩
abbrev cX2_keep : ByteArray := prog_4_method_21_code
def yX2_keep : MethodName := ⟨RX2, "keep", "()V"⟩
abbrev cX2_bringBack : ByteArray := prog_4_method_22_code
def yX2_bringBack : MethodName := ⟨RX2, "bringBack", "()V"⟩
abbrev cX2_openAll : ByteArray := prog_4_method_23_code
def yX2_openAll : MethodName := ⟨RX2, "openAll", "()V"⟩
abbrev cX2_have : ByteArray := prog_4_method_24_code
def yX2_have : MethodName := ⟨RX2, "have", "(II)I"⟩
abbrev cX2_addPlayer : ByteArray := prog_4_method_25_code
def yX2_addPlayer : MethodName := ⟨RX2, "addPlayer", "(I)I"⟩
abbrev cX2_areTwo : ByteArray := prog_4_method_26_code
def yX2_areTwo : MethodName := ⟨RX2, "areTwo", "(II)Z"⟩
abbrev cX2_turnAway : ByteArray := prog_4_method_27_code
def yX2_turnAway : MethodName := ⟨RX2, "turnAway", "(II)Z"⟩
abbrev cX2_borrow : ByteArray := prog_4_method_28_code
def yX2_borrow : MethodName := ⟨RX2, "borrow", "(II)I"⟩
abbrev cX2_whose : ByteArray := prog_4_method_29_code
def yX2_whose : MethodName := ⟨RX2, "whose", "()I"⟩
abbrev cX2_takeTurn : ByteArray := prog_4_method_30_code
def yX2_takeTurn : MethodName := ⟨RX2, "takeTurn", "()I"⟩
abbrev cX2_say : ByteArray := prog_4_method_31_code
def yX2_say : MethodName := ⟨RX2, "say", "(IIZ)I"⟩
abbrev cX2_is : ByteArray := prog_4_method_32_code
def yX2_is : MethodName := ⟨RX2, "is", "(IIIZ)Z"⟩
abbrev cX2_sayAtLeast : ByteArray := prog_4_method_33_code
def yX2_sayAtLeast : MethodName := ⟨RX2, "sayAtLeast", "(II)I"⟩
abbrev cX2_sayAtMost : ByteArray := prog_4_method_34_code
def yX2_sayAtMost : MethodName := ⟨RX2, "sayAtMost", "(II)I"⟩
abbrev cX2_begin : ByteArray := prog_4_method_35_code
def yX2_begin : MethodName := ⟨RX2, "begin", "()I"⟩
abbrev cX2_players : ByteArray := prog_4_method_36_code
def yX2_players : MethodName := ⟨RX2, "players", "()I"⟩
abbrev cX2_turnsTaken : ByteArray := prog_4_method_37_code
def yX2_turnsTaken : MethodName := ⟨RX2, "turnsTaken", "()I"⟩
abbrev cX2_silentTurns : ByteArray := prog_4_method_38_code
def yX2_silentTurns : MethodName := ⟨RX2, "silentTurns", "()I"⟩
abbrev cX2_playerInTurn : ByteArray := prog_4_method_39_code
def yX2_playerInTurn : MethodName := ⟨RX2, "playerInTurn", "()I"⟩
abbrev cX2_hatOf : ByteArray := prog_4_method_40_code
def yX2_hatOf : MethodName := ⟨RX2, "hatOf", "(I)I"⟩
abbrev cX2_sees_ : ByteArray := prog_4_method_41_code
def yX2_sees_ : MethodName := ⟨RX2, "sees", "(II)Z"⟩
abbrev cX2_hatsOf : ByteArray := prog_4_method_42_code
def yX2_hatsOf : MethodName := ⟨RX2, "hatsOf", "(I)I"⟩
abbrev cX2_openWays : ByteArray := prog_4_method_43_code
def yX2_openWays : MethodName := ⟨RX2, "openWays", "()I"⟩
abbrev cX2_openWith : ByteArray := prog_4_method_44_code
def yX2_openWith : MethodName := ⟨RX2, "openWith", "(II)I"⟩
abbrev cX2_openWaysWith : ByteArray := prog_4_method_45_code
def yX2_openWaysWith : MethodName := ⟨RX2, "openWaysWith", "(II)I"⟩
abbrev cX2_known : ByteArray := prog_4_method_46_code
def yX2_known : MethodName := ⟨RX2, "known", "(I)Z"⟩
abbrev cX2_isKnownToAll : ByteArray := prog_4_method_47_code
def yX2_isKnownToAll : MethodName := ⟨RX2, "isKnownToAll", "(I)Z"⟩
abbrev cX2_possible : ByteArray := prog_4_method_48_code
def yX2_possible : MethodName := ⟨RX2, "possible", "(I)I"⟩
abbrev cX2_possibleWays : ByteArray := prog_4_method_49_code
def yX2_possibleWays : MethodName := ⟨RX2, "possibleWays", "(I)I"⟩
abbrev cX2_holdsPossible : ByteArray := prog_4_method_50_code
def yX2_holdsPossible : MethodName := ⟨RX2, "holdsPossible", "(III)Z"⟩
abbrev cX2_isCertain : ByteArray := prog_4_method_51_code
def yX2_isCertain : MethodName := ⟨RX2, "isCertain", "(I)Z"⟩
abbrev cX2_knows : ByteArray := prog_4_method_52_code
def yX2_knows : MethodName := ⟨RX2, "knows", "(II)Z"⟩
abbrev cX2_knowsHatOf : ByteArray := prog_4_method_53_code
def yX2_knowsHatOf : MethodName := ⟨RX2, "knowsHatOf", "(II)Z"⟩
abbrev cX2_sure : ByteArray := prog_4_method_54_code
def yX2_sure : MethodName := ⟨RX2, "sure", "(II)Z"⟩
abbrev cX2_knowsCertain : ByteArray := prog_4_method_55_code
def yX2_knowsCertain : MethodName := ⟨RX2, "knowsCertain", "(II)Z"⟩
abbrev cX2_many : ByteArray := prog_4_method_56_code
def yX2_many : MethodName := ⟨RX2, "many", "()I"⟩
abbrev cX2_certainPlayers : ByteArray := prog_4_method_57_code
def yX2_certainPlayers : MethodName := ⟨RX2, "certainPlayers", "()I"⟩
abbrev cX2_after : ByteArray := prog_4_method_58_code
def yX2_after : MethodName := ⟨RX2, "after", "()I"⟩
abbrev cX2_openAfterTurn : ByteArray := prog_4_method_59_code
def yX2_openAfterTurn : MethodName := ⟨RX2, "openAfterTurn", "()I"⟩
abbrev cX2_until : ByteArray := prog_4_method_60_code
def yX2_until : MethodName := ⟨RX2, "until", "(I)I"⟩
abbrev cX2_turnsUntilCertain : ByteArray := prog_4_method_61_code
def yX2_turnsUntilCertain : MethodName := ⟨RX2, "turnsUntilCertain", "(I)I"⟩
abbrev cX2_turnsUntilAllCertain : ByteArray := prog_4_method_62_code
def yX2_turnsUntilAllCertain : MethodName := ⟨RX2, "turnsUntilAllCertain", "()I"⟩
abbrev cX2_best : ByteArray := prog_4_method_63_code
def yX2_best : MethodName := ⟨RX2, "best", "()I"⟩
abbrev cX2_bestToName : ByteArray := prog_4_method_64_code
def yX2_bestToName : MethodName := ⟨RX2, "bestToName", "()I"⟩
abbrev cX2_ifTold : ByteArray := prog_4_method_65_code
def yX2_ifTold : MethodName := ⟨RX2, "ifTold", "(I)I"⟩
abbrev cX2_certainIfTold : ByteArray := prog_4_method_66_code
def yX2_certainIfTold : MethodName := ⟨RX2, "certainIfTold", "(I)I"⟩
abbrev cX2_meanPossible : ByteArray := prog_4_method_67_code
def yX2_meanPossible : MethodName := ⟨RX2, "meanPossible", "()D"⟩
abbrev cX2_digest : ByteArray := prog_4_method_68_code
def yX2_digest : MethodName := ⟨RX2, "digest", "()J"⟩
def RJ6 : String := "java/lang/Integer"
abbrev cJ6_bitCount_0f7a4 : ByteArray := prog_9_method_49_code
def yJ6_bitCount_0f7a4 : MethodName := ⟨RJ6, "bitCount", "(I)I"⟩
def RJ0 : String := "java/lang/String"
def RJ10 : String := "java/lang/System"
def RL : String := "BorrowedHatsLaw"
abbrev cL_addPlayer : ByteArray := method_3_code
def yL_addPlayer : MethodName := ⟨RL, "addPlayer", "(LBorrowedHats;I[J)I"⟩
abbrev cL_turnAway : ByteArray := method_4_code
def yL_turnAway : MethodName := ⟨RL, "turnAway", "(LBorrowedHats;II[J)I"⟩
abbrev cL_borrow : ByteArray := method_5_code
def yL_borrow : MethodName := ⟨RL, "borrow", "(LBorrowedHats;II[J)I"⟩
abbrev cL_takeTurn : ByteArray := method_6_code
def yL_takeTurn : MethodName := ⟨RL, "takeTurn", "(LBorrowedHats;[J)I"⟩
abbrev cL_sayAtLeast : ByteArray := method_7_code
def yL_sayAtLeast : MethodName := ⟨RL, "sayAtLeast", "(LBorrowedHats;II[J)I"⟩
abbrev cL_sayAtMost : ByteArray := method_8_code
def yL_sayAtMost : MethodName := ⟨RL, "sayAtMost", "(LBorrowedHats;II[J)I"⟩
abbrev cL_hatOf : ByteArray := method_9_code
def yL_hatOf : MethodName := ⟨RL, "hatOf", "(LBorrowedHats;I[J)I"⟩
abbrev cL_sees : ByteArray := method_10_code
def yL_sees : MethodName := ⟨RL, "sees", "(LBorrowedHats;II[J)I"⟩
abbrev cL_hatsOf : ByteArray := method_11_code
def yL_hatsOf : MethodName := ⟨RL, "hatsOf", "(LBorrowedHats;I[J)I"⟩
abbrev cL_openWaysWith : ByteArray := method_12_code
def yL_openWaysWith : MethodName := ⟨RL, "openWaysWith", "(LBorrowedHats;II[J)I"⟩
abbrev cL_isKnownToAll : ByteArray := method_13_code
def yL_isKnownToAll : MethodName := ⟨RL, "isKnownToAll", "(LBorrowedHats;I[J)I"⟩
abbrev cL_possibleWays : ByteArray := method_14_code
def yL_possibleWays : MethodName := ⟨RL, "possibleWays", "(LBorrowedHats;I[J)I"⟩
abbrev cL_holdsPossible : ByteArray := method_15_code
def yL_holdsPossible : MethodName := ⟨RL, "holdsPossible", "(LBorrowedHats;III[J)I"⟩
abbrev cL_isCertain : ByteArray := method_16_code
def yL_isCertain : MethodName := ⟨RL, "isCertain", "(LBorrowedHats;I[J)I"⟩
abbrev cL_knowsHatOf : ByteArray := method_17_code
def yL_knowsHatOf : MethodName := ⟨RL, "knowsHatOf", "(LBorrowedHats;II[J)I"⟩
abbrev cL_knowsCertain : ByteArray := method_18_code
def yL_knowsCertain : MethodName := ⟨RL, "knowsCertain", "(LBorrowedHats;II[J)I"⟩
abbrev cL_openAfterTurn : ByteArray := method_19_code
def yL_openAfterTurn : MethodName := ⟨RL, "openAfterTurn", "(LBorrowedHats;[J)I"⟩
abbrev cL_turnsUntilCertain : ByteArray := method_20_code
def yL_turnsUntilCertain : MethodName := ⟨RL, "turnsUntilCertain", "(LBorrowedHats;I[J)I"⟩
abbrev cL_certainIfTold : ByteArray := method_21_code
def yL_certainIfTold : MethodName := ⟨RL, "certainIfTold", "(LBorrowedHats;I[J)I"⟩
abbrev cL_law : ByteArray := code
def yL_law : MethodName := ⟨RL, "law", "([I)Z"⟩
abbrev vwCl : List vw_C := [(RX0, TX0, 2), (RX1, TX1, 10), (RX2, TX2, 11)]
/-- all good words of the tables -/
def bw : List Cond := lw_tbl.filter goodWord
theorem bw_good : GoodIn bw bw := fun w h => ⟨h, good_of_word (List.mem_filter.mp h).2⟩
theorem bw_tbl {w : Cond} (h : w ∈ bw) : w ∈ lw_tbl := (List.mem_filter.mp h).1
theorem bw_of {w : Cond} (i : Nat) (h : tables_1[i]? = some w) (g : goodWord w = true) : w ∈ bw := List.mem_filter.mpr ⟨List.mem_append_right _ (List.mem_of_getElem? h), g⟩
theorem bw_sel {w : Cond} (i : Nat) (h : (k2_sels lw_privs)[i]? = some w) (g : goodWord w = true) : w ∈ bw := List.mem_filter.mpr ⟨List.mem_append_left _ (List.mem_of_getElem? h), g⟩
theorem bw_V {own C : String} {idx : Nat} {y : MethodName} {cw : Cond} (h1 : Cond.methodLink own idx y ∈ bw) (h2 : Cond.instanceMethod y ∈ bw) (h3 : Cond.selects C y y ∈ bw) (h4 : Cond.initialized C ∈ bw) (h5 : cw ∈ bw) : GoodIn bw (wsV own idx C y (cw :: bw)) := by
  intro w hw
  simp only [wsV, List.mem_append, List.mem_cons, List.not_mem_nil, or_false] at hw
  rcases hw with (rfl | rfl | rfl | rfl) | rfl | hw <;> exact bw_good _ (by assumption)
theorem bw_S {own : String} {idx : Nat} {y : MethodName} {cw : Cond} (h1 : Cond.methodLink own idx y ∈ bw) (h2 : Cond.static y ∈ bw) (h4 : Cond.initialized y.cls ∈ bw) (h5 : cw ∈ bw) : GoodIn bw (va_wsS own idx y (cw :: bw)) := by
  intro w hw
  simp only [va_wsS, List.mem_append, List.mem_cons, List.not_mem_nil, or_false] at hw
  rcases hw with (rfl | rfl | rfl) | rfl | hw <;> exact bw_good _ (by assumption)
theorem bw_c {cw : Cond} (h5 : cw ∈ bw) : GoodIn bw (cw :: bw) := by
  intro w hw
  rcases List.mem_cons.mp hw with rfl | hw <;> exact bw_good _ (by assumption)
theorem inX0 : ∀ w ∈ wsX00, w ∈ bw := by decide +kernel
theorem inX1 : ∀ w ∈ wsX10, w ∈ bw := by decide +kernel
theorem inX2 : ∀ w ∈ wsX20, w ∈ bw := by decide +kernel
theorem q_in_L : Cond.initialized RL ∈ bw := bw_of 0 (by decide +kernel) (by decide +kernel)
theorem q_in_X1 : Cond.initialized RX1 ∈ bw := bw_of 1 (by decide +kernel) (by decide +kernel)
theorem q_in_X0 : Cond.initialized RX0 ∈ bw := bw_of 2 (by decide +kernel) (by decide +kernel)
theorem q_in_X2 : Cond.initialized RX2 ∈ bw := bw_of 3 (by decide +kernel) (by decide +kernel)
theorem q_in_Throwable : Cond.initialized "java/lang/Throwable" ∈ bw := bw_of 4 (by decide +kernel) (by decide +kernel)
theorem q_in_Exception : Cond.initialized "java/lang/Exception" ∈ bw := bw_of 5 (by decide +kernel) (by decide +kernel)
theorem q_in_RuntimeException : Cond.initialized "java/lang/RuntimeException" ∈ bw := bw_of 6 (by decide +kernel) (by decide +kernel)
theorem q_in_IndexOutOfBoundsException : Cond.initialized "java/lang/IndexOutOfBoundsException" ∈ bw := bw_of 7 (by decide +kernel) (by decide +kernel)
theorem q_in_IllegalStateException : Cond.initialized "java/lang/IllegalStateException" ∈ bw := bw_of 8 (by decide +kernel) (by decide +kernel)
theorem q_in_IllegalArgumentException : Cond.initialized "java/lang/IllegalArgumentException" ∈ bw := bw_of 9 (by decide +kernel) (by decide +kernel)
theorem q_in_J6 : Cond.initialized RJ6 ∈ bw := bw_of 10 (by decide +kernel) (by decide +kernel)
theorem q_in_J10 : Cond.initialized RJ10 ∈ bw := bw_of 11 (by decide +kernel) (by decide +kernel)
theorem q_cl_L_8 : Cond.classLink RL 8 RX1 ∈ bw := bw_of 12 (by decide +kernel) (by decide +kernel)
theorem q_is_X1 : Cond.instantiable RX1 10 ∈ bw := bw_of 13 (by decide +kernel) (by decide +kernel)
theorem q_ml_L_78 : Cond.methodLink RL 78 yX1_init ∈ bw := bw_of 14 (by decide +kernel) (by decide +kernel)
theorem q_im_X1_init : Cond.instanceMethod yX1_init ∈ bw := bw_of 15 (by decide +kernel) (by decide +kernel)
theorem q_c_X1_init : Cond.code yX1_init cX1_init 1 none ∈ bw := bw_of 16 (by decide +kernel) (by decide +kernel)
abbrev ws_X1_init : List Cond := Cond.code yX1_init cX1_init 1 none :: bw
theorem q_cl_X1_7 : Cond.classLink RX1 7 RX0 ∈ bw := bw_of 20 (by decide +kernel) (by decide +kernel)
theorem q_is_X0 : Cond.instantiable RX0 2 ∈ bw := bw_of 21 (by decide +kernel) (by decide +kernel)
theorem q_im_X0_init : Cond.instanceMethod yX0_init ∈ bw := bw_of 23 (by decide +kernel) (by decide +kernel)
theorem q_c_X0_init : Cond.code yX0_init cX0_init 1 none ∈ bw := bw_of 24 (by decide +kernel) (by decide +kernel)
abbrev ws_X0_init : List Cond := Cond.code yX0_init cX0_init 1 none :: bw
theorem q_fl_X0_9 : Cond.fieldLink RX0 9 "BorrowedHats$Ways" "held" "[I" ∈ bw := bw_of 26 (by decide +kernel) (by decide +kernel)
theorem q_fl_X0_15 : Cond.fieldLink RX0 15 "BorrowedHats$Ways" "count" "I" ∈ bw := bw_of 27 (by decide +kernel) (by decide +kernel)
theorem q_ac_int : Cond.arrayClass .int ∈ bw := bw_of 33 (by decide +kernel) (by decide +kernel)
theorem q_ml_X1_46 : Cond.methodLink RX1 46 yX0_add ∈ bw := bw_of 34 (by decide +kernel) (by decide +kernel)
theorem q_im_X0_add : Cond.instanceMethod yX0_add ∈ bw := bw_of 35 (by decide +kernel) (by decide +kernel)
theorem q_se_X0_add : Cond.selects RX0 yX0_add yX0_add ∈ bw := bw_of 36 (by decide +kernel) (by decide +kernel)
theorem q_c_X0_add : Cond.code yX0_add cX0_add 2 none ∈ bw := bw_of 37 (by decide +kernel) (by decide +kernel)
abbrev ws_X0_add : List Cond := Cond.code yX0_add cX0_add 2 none :: bw
theorem q_fl_X1_10 : Cond.fieldLink RX1 10 "BorrowedHats" "open" "LBorrowedHats$Ways;" ∈ bw := bw_of 38 (by decide +kernel) (by decide +kernel)
theorem q_fl_X1_16 : Cond.fieldLink RX1 16 "BorrowedHats" "trial" "LBorrowedHats$Ways;" ∈ bw := bw_of 39 (by decide +kernel) (by decide +kernel)
theorem q_fl_X1_19 : Cond.fieldLink RX1 19 "BorrowedHats" "seenHats" "[I" ∈ bw := bw_of 40 (by decide +kernel) (by decide +kernel)
theorem q_fl_X1_23 : Cond.fieldLink RX1 23 "BorrowedHats" "ownColoursByView" "[I" ∈ bw := bw_of 41 (by decide +kernel) (by decide +kernel)
theorem q_fl_X1_26 : Cond.fieldLink RX1 26 "BorrowedHats" "playerCount" "I" ∈ bw := bw_of 42 (by decide +kernel) (by decide +kernel)
theorem q_fl_X1_30 : Cond.fieldLink RX1 30 "BorrowedHats" "wayOfNow" "I" ∈ bw := bw_of 43 (by decide +kernel) (by decide +kernel)
theorem q_fl_X1_33 : Cond.fieldLink RX1 33 "BorrowedHats" "turn" "I" ∈ bw := bw_of 44 (by decide +kernel) (by decide +kernel)
theorem q_fl_X1_36 : Cond.fieldLink RX1 36 "BorrowedHats" "turnCount" "I" ∈ bw := bw_of 45 (by decide +kernel) (by decide +kernel)
theorem q_fl_X1_39 : Cond.fieldLink RX1 39 "BorrowedHats" "silentCount" "I" ∈ bw := bw_of 46 (by decide +kernel) (by decide +kernel)
theorem q_fl_X1_42 : Cond.fieldLink RX1 42 "BorrowedHats" "underWay" "Z" ∈ bw := bw_of 47 (by decide +kernel) (by decide +kernel)
theorem q_ml_L_108 : Cond.methodLink RL 108 yX1_begin ∈ bw := bw_of 69 (by decide +kernel) (by decide +kernel)
theorem q_im_X1_begin : Cond.instanceMethod yX1_begin ∈ bw := bw_of 70 (by decide +kernel) (by decide +kernel)
theorem q_se_X1_begin : Cond.selects RX1 yX1_begin yX1_begin ∈ bw := bw_of 71 (by decide +kernel) (by decide +kernel)
theorem q_c_X1_begin : Cond.code yX1_begin cX1_begin 2 (some .int) ∈ bw := bw_of 72 (by decide +kernel) (by decide +kernel)
abbrev ws_X1_begin : List Cond := Cond.code yX1_begin cX1_begin 2 (some .int) :: bw
theorem q_ml_X1_121 : Cond.methodLink RX1 121 yX0_clear ∈ bw := bw_of 73 (by decide +kernel) (by decide +kernel)
theorem q_im_X0_clear : Cond.instanceMethod yX0_clear ∈ bw := bw_of 74 (by decide +kernel) (by decide +kernel)
theorem q_se_X0_clear : Cond.selects RX0 yX0_clear yX0_clear ∈ bw := bw_of 75 (by decide +kernel) (by decide +kernel)
theorem q_c_X0_clear : Cond.code yX0_clear cX0_clear 1 none ∈ bw := bw_of 76 (by decide +kernel) (by decide +kernel)
abbrev ws_X0_clear : List Cond := Cond.code yX0_clear cX0_clear 1 none :: bw
theorem q_ml_X1_67 : Cond.methodLink RX1 67 yX1_openColoursOf ∈ bw := bw_of 77 (by decide +kernel) (by decide +kernel)
theorem q_im_X1_openColoursOf : Cond.instanceMethod yX1_openColoursOf ∈ bw := bw_of 79 (by decide +kernel) (by decide +kernel)
theorem q_c_X1_openColoursOf : Cond.code yX1_openColoursOf cX1_openColoursOf 5 none ∈ bw := bw_of 80 (by decide +kernel) (by decide +kernel)
abbrev ws_X1_openColoursOf : List Cond := Cond.code yX1_openColoursOf cX1_openColoursOf 5 none :: bw
theorem q_ml_X1_91 : Cond.methodLink RX1 91 yX0_count ∈ bw := bw_of 81 (by decide +kernel) (by decide +kernel)
theorem q_im_X0_count : Cond.instanceMethod yX0_count ∈ bw := bw_of 82 (by decide +kernel) (by decide +kernel)
theorem q_se_X0_count : Cond.selects RX0 yX0_count yX0_count ∈ bw := bw_of 83 (by decide +kernel) (by decide +kernel)
theorem q_c_X0_count : Cond.code yX0_count cX0_count 1 (some .int) ∈ bw := bw_of 84 (by decide +kernel) (by decide +kernel)
abbrev ws_X0_count : List Cond := Cond.code yX0_count cX0_count 1 (some .int) :: bw
theorem q_ml_X1_95 : Cond.methodLink RX1 95 yX0_at ∈ bw := bw_of 85 (by decide +kernel) (by decide +kernel)
theorem q_im_X0_at : Cond.instanceMethod yX0_at ∈ bw := bw_of 86 (by decide +kernel) (by decide +kernel)
theorem q_se_X0_at : Cond.selects RX0 yX0_at yX0_at ∈ bw := bw_of 87 (by decide +kernel) (by decide +kernel)
theorem q_c_X0_at : Cond.code yX0_at cX0_at 2 (some .int) ∈ bw := bw_of 88 (by decide +kernel) (by decide +kernel)
abbrev ws_X0_at : List Cond := Cond.code yX0_at cX0_at 2 (some .int) :: bw
theorem q_ml_X1_60 : Cond.methodLink RX1 60 yX1_shiftOf ∈ bw := bw_of 89 (by decide +kernel) (by decide +kernel)
theorem q_st_X1_shiftOf : Cond.static yX1_shiftOf ∈ bw := bw_of 90 (by decide +kernel) (by decide +kernel)
theorem q_c_X1_shiftOf : Cond.code yX1_shiftOf cX1_shiftOf 1 (some .int) ∈ bw := bw_of 91 (by decide +kernel) (by decide +kernel)
abbrev ws_X1_shiftOf : List Cond := Cond.code yX1_shiftOf cX1_shiftOf 1 (some .int) :: bw
theorem q_ml_L_112 : Cond.methodLink RL 112 yX1_players ∈ bw := bw_of 92 (by decide +kernel) (by decide +kernel)
theorem q_im_X1_players : Cond.instanceMethod yX1_players ∈ bw := bw_of 93 (by decide +kernel) (by decide +kernel)
theorem q_se_X1_players : Cond.selects RX1 yX1_players yX1_players ∈ bw := bw_of 94 (by decide +kernel) (by decide +kernel)
theorem q_c_X1_players : Cond.code yX1_players cX1_players 1 (some .int) ∈ bw := bw_of 95 (by decide +kernel) (by decide +kernel)
abbrev ws_X1_players : List Cond := Cond.code yX1_players cX1_players 1 (some .int) :: bw
theorem q_ml_L_116 : Cond.methodLink RL 116 yX1_turnsTaken ∈ bw := bw_of 96 (by decide +kernel) (by decide +kernel)
theorem q_im_X1_turnsTaken : Cond.instanceMethod yX1_turnsTaken ∈ bw := bw_of 97 (by decide +kernel) (by decide +kernel)
theorem q_se_X1_turnsTaken : Cond.selects RX1 yX1_turnsTaken yX1_turnsTaken ∈ bw := bw_of 98 (by decide +kernel) (by decide +kernel)
theorem q_c_X1_turnsTaken : Cond.code yX1_turnsTaken cX1_turnsTaken 1 (some .int) ∈ bw := bw_of 99 (by decide +kernel) (by decide +kernel)
abbrev ws_X1_turnsTaken : List Cond := Cond.code yX1_turnsTaken cX1_turnsTaken 1 (some .int) :: bw
theorem q_ml_L_120 : Cond.methodLink RL 120 yX1_silentTurns ∈ bw := bw_of 100 (by decide +kernel) (by decide +kernel)
theorem q_im_X1_silentTurns : Cond.instanceMethod yX1_silentTurns ∈ bw := bw_of 101 (by decide +kernel) (by decide +kernel)
theorem q_se_X1_silentTurns : Cond.selects RX1 yX1_silentTurns yX1_silentTurns ∈ bw := bw_of 102 (by decide +kernel) (by decide +kernel)
theorem q_c_X1_silentTurns : Cond.code yX1_silentTurns cX1_silentTurns 1 (some .int) ∈ bw := bw_of 103 (by decide +kernel) (by decide +kernel)
abbrev ws_X1_silentTurns : List Cond := Cond.code yX1_silentTurns cX1_silentTurns 1 (some .int) :: bw
theorem q_ml_L_124 : Cond.methodLink RL 124 yX1_playerInTurn ∈ bw := bw_of 104 (by decide +kernel) (by decide +kernel)
theorem q_im_X1_playerInTurn : Cond.instanceMethod yX1_playerInTurn ∈ bw := bw_of 105 (by decide +kernel) (by decide +kernel)
theorem q_se_X1_playerInTurn : Cond.selects RX1 yX1_playerInTurn yX1_playerInTurn ∈ bw := bw_of 106 (by decide +kernel) (by decide +kernel)
theorem q_c_X1_playerInTurn : Cond.code yX1_playerInTurn cX1_playerInTurn 1 (some .int) ∈ bw := bw_of 107 (by decide +kernel) (by decide +kernel)
abbrev ws_X1_playerInTurn : List Cond := Cond.code yX1_playerInTurn cX1_playerInTurn 1 (some .int) :: bw
theorem q_ml_L_137 : Cond.methodLink RL 137 yX1_openWays ∈ bw := bw_of 108 (by decide +kernel) (by decide +kernel)
theorem q_im_X1_openWays : Cond.instanceMethod yX1_openWays ∈ bw := bw_of 109 (by decide +kernel) (by decide +kernel)
theorem q_se_X1_openWays : Cond.selects RX1 yX1_openWays yX1_openWays ∈ bw := bw_of 110 (by decide +kernel) (by decide +kernel)
theorem q_c_X1_openWays : Cond.code yX1_openWays cX1_openWays 1 (some .int) ∈ bw := bw_of 111 (by decide +kernel) (by decide +kernel)
abbrev ws_X1_openWays : List Cond := Cond.code yX1_openWays cX1_openWays 1 (some .int) :: bw
theorem q_ml_L_163 : Cond.methodLink RL 163 yX1_certainPlayers ∈ bw := bw_of 112 (by decide +kernel) (by decide +kernel)
theorem q_im_X1_certainPlayers : Cond.instanceMethod yX1_certainPlayers ∈ bw := bw_of 113 (by decide +kernel) (by decide +kernel)
theorem q_se_X1_certainPlayers : Cond.selects RX1 yX1_certainPlayers yX1_certainPlayers ∈ bw := bw_of 114 (by decide +kernel) (by decide +kernel)
theorem q_c_X1_certainPlayers : Cond.code yX1_certainPlayers cX1_certainPlayers 1 (some .int) ∈ bw := bw_of 115 (by decide +kernel) (by decide +kernel)
abbrev ws_X1_certainPlayers : List Cond := Cond.code yX1_certainPlayers cX1_certainPlayers 1 (some .int) :: bw
theorem q_ml_X1_157 : Cond.methodLink RX1 157 yX1_countCertain ∈ bw := bw_of 116 (by decide +kernel) (by decide +kernel)
theorem q_im_X1_countCertain : Cond.instanceMethod yX1_countCertain ∈ bw := bw_of 118 (by decide +kernel) (by decide +kernel)
theorem q_c_X1_countCertain : Cond.code yX1_countCertain cX1_countCertain 4 (some .int) ∈ bw := bw_of 119 (by decide +kernel) (by decide +kernel)
abbrev ws_X1_countCertain : List Cond := Cond.code yX1_countCertain cX1_countCertain 4 (some .int) :: bw
theorem q_ml_X1_140 : Cond.methodLink RX1 140 yX1_isCertainBy ∈ bw := bw_of 120 (by decide +kernel) (by decide +kernel)
theorem q_im_X1_isCertainBy : Cond.instanceMethod yX1_isCertainBy ∈ bw := bw_of 122 (by decide +kernel) (by decide +kernel)
theorem q_c_X1_isCertainBy : Cond.code yX1_isCertainBy cX1_isCertainBy 3 (some .boolean) ∈ bw := bw_of 123 (by decide +kernel) (by decide +kernel)
abbrev ws_X1_isCertainBy : List Cond := Cond.code yX1_isCertainBy cX1_isCertainBy 3 (some .boolean) :: bw
theorem q_ml_X1_136 : Cond.methodLink RX1 136 yX1_possibleColours ∈ bw := bw_of 124 (by decide +kernel) (by decide +kernel)
theorem q_im_X1_possibleColours : Cond.instanceMethod yX1_possibleColours ∈ bw := bw_of 126 (by decide +kernel) (by decide +kernel)
theorem q_c_X1_possibleColours : Cond.code yX1_possibleColours cX1_possibleColours 8 (some .int) ∈ bw := bw_of 127 (by decide +kernel) (by decide +kernel)
abbrev ws_X1_possibleColours : List Cond := Cond.code yX1_possibleColours cX1_possibleColours 8 (some .int) :: bw
theorem q_ml_X1_74 : Cond.methodLink RX1 74 yX1_seenHatsOf ∈ bw := bw_of 128 (by decide +kernel) (by decide +kernel)
theorem q_im_X1_seenHatsOf : Cond.instanceMethod yX1_seenHatsOf ∈ bw := bw_of 130 (by decide +kernel) (by decide +kernel)
theorem q_c_X1_seenHatsOf : Cond.code yX1_seenHatsOf cX1_seenHatsOf 2 (some .int) ∈ bw := bw_of 131 (by decide +kernel) (by decide +kernel)
abbrev ws_X1_seenHatsOf : List Cond := Cond.code yX1_seenHatsOf cX1_seenHatsOf 2 (some .int) :: bw
theorem q_ml_X1_151 : Cond.methodLink RX1 151 yX1_agreesWithNow ∈ bw := bw_of 132 (by decide +kernel) (by decide +kernel)
theorem q_im_X1_agreesWithNow : Cond.instanceMethod yX1_agreesWithNow ∈ bw := bw_of 134 (by decide +kernel) (by decide +kernel)
theorem q_c_X1_agreesWithNow : Cond.code yX1_agreesWithNow cX1_agreesWithNow 3 (some .boolean) ∈ bw := bw_of 135 (by decide +kernel) (by decide +kernel)
abbrev ws_X1_agreesWithNow : List Cond := Cond.code yX1_agreesWithNow cX1_agreesWithNow 3 (some .boolean) :: bw
theorem q_ml_X1_101 : Cond.methodLink RX1 101 yX1_colourIn ∈ bw := bw_of 136 (by decide +kernel) (by decide +kernel)
theorem q_st_X1_colourIn : Cond.static yX1_colourIn ∈ bw := bw_of 137 (by decide +kernel) (by decide +kernel)
theorem q_c_X1_colourIn : Cond.code yX1_colourIn cX1_colourIn 2 (some .int) ∈ bw := bw_of 138 (by decide +kernel) (by decide +kernel)
abbrev ws_X1_colourIn : List Cond := Cond.code yX1_colourIn cX1_colourIn 2 (some .int) :: bw
theorem q_ml_X1_143 : Cond.methodLink RX1 143 yX1_isOneColour ∈ bw := bw_of 139 (by decide +kernel) (by decide +kernel)
theorem q_st_X1_isOneColour : Cond.static yX1_isOneColour ∈ bw := bw_of 140 (by decide +kernel) (by decide +kernel)
theorem q_c_X1_isOneColour : Cond.code yX1_isOneColour cX1_isOneColour 1 (some .boolean) ∈ bw := bw_of 141 (by decide +kernel) (by decide +kernel)
abbrev ws_X1_isOneColour : List Cond := Cond.code yX1_isOneColour cX1_isOneColour 1 (some .boolean) :: bw
theorem q_ml_X1_231 : Cond.methodLink RX1 231 yJ6_bitCount_0f7a4 ∈ bw := bw_of 142 (by decide +kernel) (by decide +kernel)
theorem q_st_J6_bitCount_0f7a4 : Cond.static yJ6_bitCount_0f7a4 ∈ bw := bw_of 143 (by decide +kernel) (by decide +kernel)
theorem q_c_J6_bitCount_0f7a4 : Cond.code yJ6_bitCount_0f7a4 cJ6_bitCount_0f7a4 1 (some .int) ∈ bw := bw_of 144 (by decide +kernel) (by decide +kernel)
abbrev ws_J6_bitCount_0f7a4 : List Cond := Cond.code yJ6_bitCount_0f7a4 cJ6_bitCount_0f7a4 1 (some .int) :: bw
theorem q_k_J6_265 : Cond.constant RJ6 265 (1431655765) ∈ bw := bw_of 145 (by decide +kernel) (by decide +kernel)
theorem q_k_J6_266 : Cond.constant RJ6 266 (858993459) ∈ bw := bw_of 146 (by decide +kernel) (by decide +kernel)
theorem q_k_J6_267 : Cond.constant RJ6 267 (252645135) ∈ bw := bw_of 147 (by decide +kernel) (by decide +kernel)
theorem q_ml_L_173 : Cond.methodLink RL 173 yX1_turnsUntilAllCertain ∈ bw := bw_of 148 (by decide +kernel) (by decide +kernel)
theorem q_im_X1_turnsUntilAllCertain : Cond.instanceMethod yX1_turnsUntilAllCertain ∈ bw := bw_of 149 (by decide +kernel) (by decide +kernel)
theorem q_se_X1_turnsUntilAllCertain : Cond.selects RX1 yX1_turnsUntilAllCertain yX1_turnsUntilAllCertain ∈ bw := bw_of 150 (by decide +kernel) (by decide +kernel)
theorem q_c_X1_turnsUntilAllCertain : Cond.code yX1_turnsUntilAllCertain cX1_turnsUntilAllCertain 1 (some .int) ∈ bw := bw_of 151 (by decide +kernel) (by decide +kernel)
abbrev ws_X1_turnsUntilAllCertain : List Cond := Cond.code yX1_turnsUntilAllCertain cX1_turnsUntilAllCertain 1 (some .int) :: bw
theorem q_ml_X1_165 : Cond.methodLink RX1 165 yX1_turnsUntilCertainFrom ∈ bw := bw_of 152 (by decide +kernel) (by decide +kernel)
theorem q_im_X1_turnsUntilCertainFrom : Cond.instanceMethod yX1_turnsUntilCertainFrom ∈ bw := bw_of 154 (by decide +kernel) (by decide +kernel)
theorem q_c_X1_turnsUntilCertainFrom : Cond.code yX1_turnsUntilCertainFrom cX1_turnsUntilCertainFrom 5 (some .int) ∈ bw := bw_of 155 (by decide +kernel) (by decide +kernel)
abbrev ws_X1_turnsUntilCertainFrom : List Cond := Cond.code yX1_turnsUntilCertainFrom cX1_turnsUntilCertainFrom 5 (some .int) :: bw
theorem q_ml_X1_161 : Cond.methodLink RX1 161 yX0_copyFrom ∈ bw := bw_of 156 (by decide +kernel) (by decide +kernel)
theorem q_im_X0_copyFrom : Cond.instanceMethod yX0_copyFrom ∈ bw := bw_of 157 (by decide +kernel) (by decide +kernel)
theorem q_se_X0_copyFrom : Cond.selects RX0 yX0_copyFrom yX0_copyFrom ∈ bw := bw_of 158 (by decide +kernel) (by decide +kernel)
theorem q_c_X0_copyFrom : Cond.code yX0_copyFrom cX0_copyFrom 3 none ∈ bw := bw_of 159 (by decide +kernel) (by decide +kernel)
abbrev ws_X0_copyFrom : List Cond := Cond.code yX0_copyFrom cX0_copyFrom 3 none :: bw
theorem q_ml_X0_19 : Cond.methodLink RX0 19 yX0_clear ∈ bw := bw_of 160 (by decide +kernel) (by decide +kernel)
theorem q_ml_X0_22 : Cond.methodLink RX0 22 yX0_count ∈ bw := bw_of 161 (by decide +kernel) (by decide +kernel)
theorem q_ml_X0_25 : Cond.methodLink RX0 25 yX0_at ∈ bw := bw_of 162 (by decide +kernel) (by decide +kernel)
theorem q_ml_X0_29 : Cond.methodLink RX0 29 yX0_add ∈ bw := bw_of 163 (by decide +kernel) (by decide +kernel)
theorem q_ml_X1_249 : Cond.methodLink RX1 249 yX1_areCertainBy ∈ bw := bw_of 164 (by decide +kernel) (by decide +kernel)
theorem q_im_X1_areCertainBy : Cond.instanceMethod yX1_areCertainBy ∈ bw := bw_of 166 (by decide +kernel) (by decide +kernel)
theorem q_c_X1_areCertainBy : Cond.code yX1_areCertainBy cX1_areCertainBy 5 (some .boolean) ∈ bw := bw_of 167 (by decide +kernel) (by decide +kernel)
abbrev ws_X1_areCertainBy : List Cond := Cond.code yX1_areCertainBy cX1_areCertainBy 5 (some .boolean) :: bw
theorem q_ml_X1_108 : Cond.methodLink RX1 108 yX1_passTurn ∈ bw := bw_of 168 (by decide +kernel) (by decide +kernel)
theorem q_im_X1_passTurn : Cond.instanceMethod yX1_passTurn ∈ bw := bw_of 170 (by decide +kernel) (by decide +kernel)
theorem q_c_X1_passTurn : Cond.code yX1_passTurn cX1_passTurn 4 (some .boolean) ∈ bw := bw_of 171 (by decide +kernel) (by decide +kernel)
abbrev ws_X1_passTurn : List Cond := Cond.code yX1_passTurn cX1_passTurn 4 (some .boolean) :: bw
theorem q_ml_X1_245 : Cond.methodLink RX1 245 yX1_keepByCertainty ∈ bw := bw_of 172 (by decide +kernel) (by decide +kernel)
theorem q_im_X1_keepByCertainty : Cond.instanceMethod yX1_keepByCertainty ∈ bw := bw_of 174 (by decide +kernel) (by decide +kernel)
theorem q_c_X1_keepByCertainty : Cond.code yX1_keepByCertainty cX1_keepByCertainty 7 none ∈ bw := bw_of 175 (by decide +kernel) (by decide +kernel)
abbrev ws_X1_keepByCertainty : List Cond := Cond.code yX1_keepByCertainty cX1_keepByCertainty 7 none :: bw
theorem q_ml_X1_147 : Cond.methodLink RX1 147 yX1_noteOwnColours ∈ bw := bw_of 176 (by decide +kernel) (by decide +kernel)
theorem q_im_X1_noteOwnColours : Cond.instanceMethod yX1_noteOwnColours ∈ bw := bw_of 178 (by decide +kernel) (by decide +kernel)
theorem q_c_X1_noteOwnColours : Cond.code yX1_noteOwnColours cX1_noteOwnColours 6 none ∈ bw := bw_of 179 (by decide +kernel) (by decide +kernel)
abbrev ws_X1_noteOwnColours : List Cond := Cond.code yX1_noteOwnColours cX1_noteOwnColours 6 none :: bw
theorem q_ml_X1_236 : Cond.methodLink RX1 236 yX1_viewOf ∈ bw := bw_of 180 (by decide +kernel) (by decide +kernel)
theorem q_im_X1_viewOf : Cond.instanceMethod yX1_viewOf ∈ bw := bw_of 182 (by decide +kernel) (by decide +kernel)
theorem q_c_X1_viewOf : Cond.code yX1_viewOf cX1_viewOf 3 (some .int) ∈ bw := bw_of 183 (by decide +kernel) (by decide +kernel)
abbrev ws_X1_viewOf : List Cond := Cond.code yX1_viewOf cX1_viewOf 3 (some .int) :: bw
theorem q_ml_X1_239 : Cond.methodLink RX1 239 yX1_setOwnColours ∈ bw := bw_of 184 (by decide +kernel) (by decide +kernel)
theorem q_im_X1_setOwnColours : Cond.instanceMethod yX1_setOwnColours ∈ bw := bw_of 186 (by decide +kernel) (by decide +kernel)
theorem q_c_X1_setOwnColours : Cond.code yX1_setOwnColours cX1_setOwnColours 3 none ∈ bw := bw_of 187 (by decide +kernel) (by decide +kernel)
abbrev ws_X1_setOwnColours : List Cond := Cond.code yX1_setOwnColours cX1_setOwnColours 3 none :: bw
theorem q_ml_X1_242 : Cond.methodLink RX1 242 yX1_ownColours ∈ bw := bw_of 188 (by decide +kernel) (by decide +kernel)
theorem q_im_X1_ownColours : Cond.instanceMethod yX1_ownColours ∈ bw := bw_of 190 (by decide +kernel) (by decide +kernel)
theorem q_c_X1_ownColours : Cond.code yX1_ownColours cX1_ownColours 2 (some .int) ∈ bw := bw_of 191 (by decide +kernel) (by decide +kernel)
abbrev ws_X1_ownColours : List Cond := Cond.code yX1_ownColours cX1_ownColours 2 (some .int) :: bw
theorem q_ml_X1_154 : Cond.methodLink RX1 154 yX1_wouldBeCertain ∈ bw := bw_of 192 (by decide +kernel) (by decide +kernel)
theorem q_im_X1_wouldBeCertain : Cond.instanceMethod yX1_wouldBeCertain ∈ bw := bw_of 194 (by decide +kernel) (by decide +kernel)
theorem q_c_X1_wouldBeCertain : Cond.code yX1_wouldBeCertain cX1_wouldBeCertain 3 (some .boolean) ∈ bw := bw_of 195 (by decide +kernel) (by decide +kernel)
abbrev ws_X1_wouldBeCertain : List Cond := Cond.code yX1_wouldBeCertain cX1_wouldBeCertain 3 (some .boolean) :: bw
theorem q_ml_X1_171 : Cond.methodLink RX1 171 yX1_keepWithHat ∈ bw := bw_of 196 (by decide +kernel) (by decide +kernel)
theorem q_st_X1_keepWithHat : Cond.static yX1_keepWithHat ∈ bw := bw_of 197 (by decide +kernel) (by decide +kernel)
theorem q_c_X1_keepWithHat : Cond.code yX1_keepWithHat cX1_keepWithHat 6 none ∈ bw := bw_of 198 (by decide +kernel) (by decide +kernel)
abbrev ws_X1_keepWithHat : List Cond := Cond.code yX1_keepWithHat cX1_keepWithHat 6 none :: bw
theorem q_ml_X1_112 : Cond.methodLink RX1 112 yX1_playerAfter ∈ bw := bw_of 199 (by decide +kernel) (by decide +kernel)
theorem q_im_X1_playerAfter : Cond.instanceMethod yX1_playerAfter ∈ bw := bw_of 201 (by decide +kernel) (by decide +kernel)
theorem q_c_X1_playerAfter : Cond.code yX1_playerAfter cX1_playerAfter 2 (some .int) ∈ bw := bw_of 202 (by decide +kernel) (by decide +kernel)
abbrev ws_X1_playerAfter : List Cond := Cond.code yX1_playerAfter cX1_playerAfter 2 (some .int) :: bw
theorem q_ml_L_177 : Cond.methodLink RL 177 yX1_bestToName ∈ bw := bw_of 203 (by decide +kernel) (by decide +kernel)
theorem q_im_X1_bestToName : Cond.instanceMethod yX1_bestToName ∈ bw := bw_of 204 (by decide +kernel) (by decide +kernel)
theorem q_se_X1_bestToName : Cond.selects RX1 yX1_bestToName yX1_bestToName ∈ bw := bw_of 205 (by decide +kernel) (by decide +kernel)
theorem q_c_X1_bestToName : Cond.code yX1_bestToName cX1_bestToName 5 (some .int) ∈ bw := bw_of 206 (by decide +kernel) (by decide +kernel)
abbrev ws_X1_bestToName : List Cond := Cond.code yX1_bestToName cX1_bestToName 5 (some .int) :: bw
theorem q_ml_X1_168 : Cond.methodLink RX1 168 yX1_countNaming ∈ bw := bw_of 207 (by decide +kernel) (by decide +kernel)
theorem q_im_X1_countNaming : Cond.instanceMethod yX1_countNaming ∈ bw := bw_of 209 (by decide +kernel) (by decide +kernel)
theorem q_c_X1_countNaming : Cond.code yX1_countNaming cX1_countNaming 4 (some .int) ∈ bw := bw_of 210 (by decide +kernel) (by decide +kernel)
abbrev ws_X1_countNaming : List Cond := Cond.code yX1_countNaming cX1_countNaming 4 (some .int) :: bw
theorem q_ml_X1_127 : Cond.methodLink RX1 127 yX1_hatsIn ∈ bw := bw_of 211 (by decide +kernel) (by decide +kernel)
theorem q_im_X1_hatsIn : Cond.instanceMethod yX1_hatsIn ∈ bw := bw_of 213 (by decide +kernel) (by decide +kernel)
theorem q_c_X1_hatsIn : Cond.code yX1_hatsIn cX1_hatsIn 5 (some .int) ∈ bw := bw_of 214 (by decide +kernel) (by decide +kernel)
abbrev ws_X1_hatsIn : List Cond := Cond.code yX1_hatsIn cX1_hatsIn 5 (some .int) :: bw
theorem q_ml_L_184 : Cond.methodLink RL 184 yX1_meanPossible ∈ bw := bw_of 215 (by decide +kernel) (by decide +kernel)
theorem q_im_X1_meanPossible : Cond.instanceMethod yX1_meanPossible ∈ bw := bw_of 216 (by decide +kernel) (by decide +kernel)
theorem q_se_X1_meanPossible : Cond.selects RX1 yX1_meanPossible yX1_meanPossible ∈ bw := bw_of 217 (by decide +kernel) (by decide +kernel)
theorem q_c_X1_meanPossible : Cond.code yX1_meanPossible cX1_meanPossible 3 (some .double) ∈ bw := bw_of 218 (by decide +kernel) (by decide +kernel)
abbrev ws_X1_meanPossible : List Cond := Cond.code yX1_meanPossible cX1_meanPossible 3 (some .double) :: bw
theorem q_ml_X1_133 : Cond.methodLink RX1 133 yX1_countPossible ∈ bw := bw_of 219 (by decide +kernel) (by decide +kernel)
theorem q_im_X1_countPossible : Cond.instanceMethod yX1_countPossible ∈ bw := bw_of 221 (by decide +kernel) (by decide +kernel)
theorem q_c_X1_countPossible : Cond.code yX1_countPossible cX1_countPossible 5 (some .int) ∈ bw := bw_of 222 (by decide +kernel) (by decide +kernel)
abbrev ws_X1_countPossible : List Cond := Cond.code yX1_countPossible cX1_countPossible 5 (some .int) :: bw
theorem q_ml_L_189 : Cond.methodLink RL 189 yX1_digest ∈ bw := bw_of 223 (by decide +kernel) (by decide +kernel)
theorem q_im_X1_digest : Cond.instanceMethod yX1_digest ∈ bw := bw_of 224 (by decide +kernel) (by decide +kernel)
theorem q_se_X1_digest : Cond.selects RX1 yX1_digest yX1_digest ∈ bw := bw_of 225 (by decide +kernel) (by decide +kernel)
theorem q_c_X1_digest : Cond.code yX1_digest cX1_digest 4 (some .long) ∈ bw := bw_of 226 (by decide +kernel) (by decide +kernel)
abbrev ws_X1_digest : List Cond := Cond.code yX1_digest cX1_digest 4 (some .long) :: bw
theorem q_kl_X1_175 : Cond.constantLong RX1 175 (2053) ∈ bw := bw_of 227 (by decide +kernel) (by decide +kernel)
theorem q_ml_X1_177 : Cond.methodLink RX1 177 yX1_players ∈ bw := bw_of 228 (by decide +kernel) (by decide +kernel)
theorem q_ml_X1_180 : Cond.methodLink RX1 180 yX1_digested ∈ bw := bw_of 229 (by decide +kernel) (by decide +kernel)
theorem q_st_X1_digested : Cond.static yX1_digested ∈ bw := bw_of 230 (by decide +kernel) (by decide +kernel)
theorem q_c_X1_digested : Cond.code yX1_digested cX1_digested 4 (some .long) ∈ bw := bw_of 231 (by decide +kernel) (by decide +kernel)
abbrev ws_X1_digested : List Cond := Cond.code yX1_digested cX1_digested 4 (some .long) :: bw
theorem q_kl_X1_253 : Cond.constantLong RX1 253 (31) ∈ bw := bw_of 232 (by decide +kernel) (by decide +kernel)
theorem q_ml_X1_184 : Cond.methodLink RX1 184 yX1_turnsTaken ∈ bw := bw_of 233 (by decide +kernel) (by decide +kernel)
theorem q_ml_X1_187 : Cond.methodLink RX1 187 yX1_silentTurns ∈ bw := bw_of 234 (by decide +kernel) (by decide +kernel)
theorem q_ml_X1_190 : Cond.methodLink RX1 190 yX1_playerInTurn ∈ bw := bw_of 235 (by decide +kernel) (by decide +kernel)
theorem q_ml_X1_193 : Cond.methodLink RX1 193 yX1_openWays ∈ bw := bw_of 236 (by decide +kernel) (by decide +kernel)
theorem q_ml_X1_196 : Cond.methodLink RX1 196 yX1_certainPlayers ∈ bw := bw_of 237 (by decide +kernel) (by decide +kernel)
theorem q_ml_X1_199 : Cond.methodLink RX1 199 yX1_bestToName ∈ bw := bw_of 238 (by decide +kernel) (by decide +kernel)
theorem q_ml_X1_202 : Cond.methodLink RX1 202 yX1_openAfterTurn ∈ bw := bw_of 239 (by decide +kernel) (by decide +kernel)
theorem q_im_X1_openAfterTurn : Cond.instanceMethod yX1_openAfterTurn ∈ bw := bw_of 240 (by decide +kernel) (by decide +kernel)
theorem q_se_X1_openAfterTurn : Cond.selects RX1 yX1_openAfterTurn yX1_openAfterTurn ∈ bw := bw_of 241 (by decide +kernel) (by decide +kernel)
theorem q_c_X1_openAfterTurn : Cond.code yX1_openAfterTurn cX1_openAfterTurn 1 (some .int) ∈ bw := bw_of 242 (by decide +kernel) (by decide +kernel)
abbrev ws_X1_openAfterTurn : List Cond := Cond.code yX1_openAfterTurn cX1_openAfterTurn 1 (some .int) :: bw
theorem q_ml_X1_105 : Cond.methodLink RX1 105 yX1_requireSomePlayer ∈ bw := bw_of 243 (by decide +kernel) (by decide +kernel)
theorem q_im_X1_requireSomePlayer : Cond.instanceMethod yX1_requireSomePlayer ∈ bw := bw_of 245 (by decide +kernel) (by decide +kernel)
theorem q_c_X1_requireSomePlayer : Cond.code yX1_requireSomePlayer cX1_requireSomePlayer 1 none ∈ bw := bw_of 246 (by decide +kernel) (by decide +kernel)
abbrev ws_X1_requireSomePlayer : List Cond := Cond.code yX1_requireSomePlayer cX1_requireSomePlayer 1 none :: bw
theorem q_cl_X1_53 : Cond.classLink RX1 53 "java/lang/IllegalStateException" ∈ bw := bw_of 247 (by decide +kernel) (by decide +kernel)
theorem q_is_IllegalStateException : Cond.instantiable "java/lang/IllegalStateException" 6 ∈ bw := bw_of 248 (by decide +kernel) (by decide +kernel)
theorem q_is_Throwable : Cond.instantiable "java/lang/Throwable" 6 ∈ bw := bw_of 286 (by decide +kernel) (by decide +kernel)
theorem q_ac_byte : Cond.arrayClass .byte ∈ bw := bw_of 314 (by decide +kernel) (by decide +kernel)
theorem q_ml_X1_205 : Cond.methodLink RX1 205 yX1_digestedPlayer ∈ bw := bw_of 315 (by decide +kernel) (by decide +kernel)
theorem q_im_X1_digestedPlayer : Cond.instanceMethod yX1_digestedPlayer ∈ bw := bw_of 317 (by decide +kernel) (by decide +kernel)
theorem q_c_X1_digestedPlayer : Cond.code yX1_digestedPlayer cX1_digestedPlayer 7 (some .long) ∈ bw := bw_of 318 (by decide +kernel) (by decide +kernel)
abbrev ws_X1_digestedPlayer : List Cond := Cond.code yX1_digestedPlayer cX1_digestedPlayer 7 (some .long) :: bw
theorem q_ml_X1_255 : Cond.methodLink RX1 255 yX1_hatOf ∈ bw := bw_of 319 (by decide +kernel) (by decide +kernel)
theorem q_im_X1_hatOf : Cond.instanceMethod yX1_hatOf ∈ bw := bw_of 320 (by decide +kernel) (by decide +kernel)
theorem q_se_X1_hatOf : Cond.selects RX1 yX1_hatOf yX1_hatOf ∈ bw := bw_of 321 (by decide +kernel) (by decide +kernel)
theorem q_c_X1_hatOf : Cond.code yX1_hatOf cX1_hatOf 2 (some .int) ∈ bw := bw_of 322 (by decide +kernel) (by decide +kernel)
abbrev ws_X1_hatOf : List Cond := Cond.code yX1_hatOf cX1_hatOf 2 (some .int) :: bw
theorem q_ml_X1_124 : Cond.methodLink RX1 124 yX1_requirePlayer ∈ bw := bw_of 323 (by decide +kernel) (by decide +kernel)
theorem q_im_X1_requirePlayer : Cond.instanceMethod yX1_requirePlayer ∈ bw := bw_of 325 (by decide +kernel) (by decide +kernel)
theorem q_c_X1_requirePlayer : Cond.code yX1_requirePlayer cX1_requirePlayer 2 none ∈ bw := bw_of 326 (by decide +kernel) (by decide +kernel)
abbrev ws_X1_requirePlayer : List Cond := Cond.code yX1_requirePlayer cX1_requirePlayer 2 none :: bw
theorem q_cl_X1_209 : Cond.classLink RX1 209 "java/lang/IndexOutOfBoundsException" ∈ bw := bw_of 327 (by decide +kernel) (by decide +kernel)
theorem q_is_IndexOutOfBoundsException : Cond.instantiable "java/lang/IndexOutOfBoundsException" 6 ∈ bw := bw_of 328 (by decide +kernel) (by decide +kernel)
theorem q_ml_X1_258 : Cond.methodLink RX1 258 yX1_possibleWays ∈ bw := bw_of 343 (by decide +kernel) (by decide +kernel)
theorem q_im_X1_possibleWays : Cond.instanceMethod yX1_possibleWays ∈ bw := bw_of 344 (by decide +kernel) (by decide +kernel)
theorem q_se_X1_possibleWays : Cond.selects RX1 yX1_possibleWays yX1_possibleWays ∈ bw := bw_of 345 (by decide +kernel) (by decide +kernel)
theorem q_c_X1_possibleWays : Cond.code yX1_possibleWays cX1_possibleWays 2 (some .int) ∈ bw := bw_of 346 (by decide +kernel) (by decide +kernel)
abbrev ws_X1_possibleWays : List Cond := Cond.code yX1_possibleWays cX1_possibleWays 2 (some .int) :: bw
theorem q_ml_X1_261 : Cond.methodLink RX1 261 yX1_isCertain ∈ bw := bw_of 347 (by decide +kernel) (by decide +kernel)
theorem q_im_X1_isCertain : Cond.instanceMethod yX1_isCertain ∈ bw := bw_of 348 (by decide +kernel) (by decide +kernel)
theorem q_se_X1_isCertain : Cond.selects RX1 yX1_isCertain yX1_isCertain ∈ bw := bw_of 349 (by decide +kernel) (by decide +kernel)
theorem q_c_X1_isCertain : Cond.code yX1_isCertain cX1_isCertain 2 (some .boolean) ∈ bw := bw_of 350 (by decide +kernel) (by decide +kernel)
abbrev ws_X1_isCertain : List Cond := Cond.code yX1_isCertain cX1_isCertain 2 (some .boolean) :: bw
theorem q_ml_X1_264 : Cond.methodLink RX1 264 yX1_digested_ ∈ bw := bw_of 351 (by decide +kernel) (by decide +kernel)
theorem q_st_X1_digested_ : Cond.static yX1_digested_ ∈ bw := bw_of 352 (by decide +kernel) (by decide +kernel)
theorem q_c_X1_digested_ : Cond.code yX1_digested_ cX1_digested_ 3 (some .long) ∈ bw := bw_of 353 (by decide +kernel) (by decide +kernel)
abbrev ws_X1_digested_ : List Cond := Cond.code yX1_digested_ cX1_digested_ 3 (some .long) :: bw
theorem q_ml_X1_267 : Cond.methodLink RX1 267 yX1_isKnownToAll ∈ bw := bw_of 354 (by decide +kernel) (by decide +kernel)
theorem q_im_X1_isKnownToAll : Cond.instanceMethod yX1_isKnownToAll ∈ bw := bw_of 355 (by decide +kernel) (by decide +kernel)
theorem q_se_X1_isKnownToAll : Cond.selects RX1 yX1_isKnownToAll yX1_isKnownToAll ∈ bw := bw_of 356 (by decide +kernel) (by decide +kernel)
theorem q_c_X1_isKnownToAll : Cond.code yX1_isKnownToAll cX1_isKnownToAll 2 (some .boolean) ∈ bw := bw_of 357 (by decide +kernel) (by decide +kernel)
abbrev ws_X1_isKnownToAll : List Cond := Cond.code yX1_isKnownToAll cX1_isKnownToAll 2 (some .boolean) :: bw
theorem q_ml_X1_130 : Cond.methodLink RX1 130 yX1_countWithHat ∈ bw := bw_of 358 (by decide +kernel) (by decide +kernel)
theorem q_im_X1_countWithHat : Cond.instanceMethod yX1_countWithHat ∈ bw := bw_of 360 (by decide +kernel) (by decide +kernel)
theorem q_c_X1_countWithHat : Cond.code yX1_countWithHat cX1_countWithHat 5 (some .int) ∈ bw := bw_of 361 (by decide +kernel) (by decide +kernel)
abbrev ws_X1_countWithHat : List Cond := Cond.code yX1_countWithHat cX1_countWithHat 5 (some .int) :: bw
theorem q_ml_X1_270 : Cond.methodLink RX1 270 yX1_certainIfTold ∈ bw := bw_of 362 (by decide +kernel) (by decide +kernel)
theorem q_im_X1_certainIfTold : Cond.instanceMethod yX1_certainIfTold ∈ bw := bw_of 363 (by decide +kernel) (by decide +kernel)
theorem q_se_X1_certainIfTold : Cond.selects RX1 yX1_certainIfTold yX1_certainIfTold ∈ bw := bw_of 364 (by decide +kernel) (by decide +kernel)
theorem q_c_X1_certainIfTold : Cond.code yX1_certainIfTold cX1_certainIfTold 2 (some .int) ∈ bw := bw_of 365 (by decide +kernel) (by decide +kernel)
abbrev ws_X1_certainIfTold : List Cond := Cond.code yX1_certainIfTold cX1_certainIfTold 2 (some .int) :: bw
theorem q_ml_X1_273 : Cond.methodLink RX1 273 yX1_sees ∈ bw := bw_of 366 (by decide +kernel) (by decide +kernel)
theorem q_im_X1_sees : Cond.instanceMethod yX1_sees ∈ bw := bw_of 367 (by decide +kernel) (by decide +kernel)
theorem q_se_X1_sees : Cond.selects RX1 yX1_sees yX1_sees ∈ bw := bw_of 368 (by decide +kernel) (by decide +kernel)
theorem q_c_X1_sees : Cond.code yX1_sees cX1_sees 3 (some .boolean) ∈ bw := bw_of 369 (by decide +kernel) (by decide +kernel)
abbrev ws_X1_sees : List Cond := Cond.code yX1_sees cX1_sees 3 (some .boolean) :: bw
theorem q_ml_X1_83 : Cond.methodLink RX1 83 yX1_seesHat ∈ bw := bw_of 370 (by decide +kernel) (by decide +kernel)
theorem q_im_X1_seesHat : Cond.instanceMethod yX1_seesHat ∈ bw := bw_of 372 (by decide +kernel) (by decide +kernel)
theorem q_c_X1_seesHat : Cond.code yX1_seesHat cX1_seesHat 3 (some .boolean) ∈ bw := bw_of 373 (by decide +kernel) (by decide +kernel)
abbrev ws_X1_seesHat : List Cond := Cond.code yX1_seesHat cX1_seesHat 3 (some .boolean) :: bw
theorem q_ml_X1_77 : Cond.methodLink RX1 77 yX1_hatMask ∈ bw := bw_of 374 (by decide +kernel) (by decide +kernel)
theorem q_st_X1_hatMask : Cond.static yX1_hatMask ∈ bw := bw_of 375 (by decide +kernel) (by decide +kernel)
theorem q_c_X1_hatMask : Cond.code yX1_hatMask cX1_hatMask 1 (some .int) ∈ bw := bw_of 376 (by decide +kernel) (by decide +kernel)
abbrev ws_X1_hatMask : List Cond := Cond.code yX1_hatMask cX1_hatMask 1 (some .int) :: bw
theorem q_ml_X1_276 : Cond.methodLink RX1 276 yX1_knowsHatOf ∈ bw := bw_of 377 (by decide +kernel) (by decide +kernel)
theorem q_im_X1_knowsHatOf : Cond.instanceMethod yX1_knowsHatOf ∈ bw := bw_of 378 (by decide +kernel) (by decide +kernel)
theorem q_se_X1_knowsHatOf : Cond.selects RX1 yX1_knowsHatOf yX1_knowsHatOf ∈ bw := bw_of 379 (by decide +kernel) (by decide +kernel)
theorem q_c_X1_knowsHatOf : Cond.code yX1_knowsHatOf cX1_knowsHatOf 3 (some .boolean) ∈ bw := bw_of 380 (by decide +kernel) (by decide +kernel)
abbrev ws_X1_knowsHatOf : List Cond := Cond.code yX1_knowsHatOf cX1_knowsHatOf 3 (some .boolean) :: bw
theorem q_ml_X1_279 : Cond.methodLink RX1 279 yX1_knowsCertain ∈ bw := bw_of 381 (by decide +kernel) (by decide +kernel)
theorem q_im_X1_knowsCertain : Cond.instanceMethod yX1_knowsCertain ∈ bw := bw_of 382 (by decide +kernel) (by decide +kernel)
theorem q_se_X1_knowsCertain : Cond.selects RX1 yX1_knowsCertain yX1_knowsCertain ∈ bw := bw_of 383 (by decide +kernel) (by decide +kernel)
theorem q_c_X1_knowsCertain : Cond.code yX1_knowsCertain cX1_knowsCertain 6 (some .boolean) ∈ bw := bw_of 384 (by decide +kernel) (by decide +kernel)
abbrev ws_X1_knowsCertain : List Cond := Cond.code yX1_knowsCertain cX1_knowsCertain 6 (some .boolean) :: bw
theorem q_ml_L_82 : Cond.methodLink RL 82 yL_addPlayer ∈ bw := bw_of 385 (by decide +kernel) (by decide +kernel)
theorem q_st_L_addPlayer : Cond.static yL_addPlayer ∈ bw := bw_of 386 (by decide +kernel) (by decide +kernel)
theorem q_c_L_addPlayer : Cond.codeWith yL_addPlayer cL_addPlayer 4 (some .int) [(0, 9, 12, 13), (0, 9, 15, 15)] ∈ bw := bw_of 387 (by decide +kernel) (by decide +kernel)
abbrev ws_L_addPlayer : List Cond := Cond.codeWith yL_addPlayer cL_addPlayer 4 (some .int) [(0, 9, 12, 13), (0, 9, 15, 15)] :: bw
theorem q_cl_L_13 : Cond.classLink RL 13 "java/lang/IndexOutOfBoundsException" ∈ bw := bw_of 388 (by decide +kernel) (by decide +kernel)
theorem q_cl_L_15 : Cond.classLink RL 15 "java/lang/IllegalStateException" ∈ bw := bw_of 389 (by decide +kernel) (by decide +kernel)
theorem q_ml_L_7 : Cond.methodLink RL 7 yX1_addPlayer ∈ bw := bw_of 390 (by decide +kernel) (by decide +kernel)
theorem q_im_X1_addPlayer : Cond.instanceMethod yX1_addPlayer ∈ bw := bw_of 391 (by decide +kernel) (by decide +kernel)
theorem q_se_X1_addPlayer : Cond.selects RX1 yX1_addPlayer yX1_addPlayer ∈ bw := bw_of 392 (by decide +kernel) (by decide +kernel)
theorem q_c_X1_addPlayer : Cond.code yX1_addPlayer cX1_addPlayer 3 (some .int) ∈ bw := bw_of 393 (by decide +kernel) (by decide +kernel)
abbrev ws_X1_addPlayer : List Cond := Cond.code yX1_addPlayer cX1_addPlayer 3 (some .int) :: bw
theorem q_ml_X1_50 : Cond.methodLink RX1 50 yX1_requireColour ∈ bw := bw_of 394 (by decide +kernel) (by decide +kernel)
theorem q_st_X1_requireColour : Cond.static yX1_requireColour ∈ bw := bw_of 395 (by decide +kernel) (by decide +kernel)
theorem q_c_X1_requireColour : Cond.code yX1_requireColour cX1_requireColour 1 none ∈ bw := bw_of 396 (by decide +kernel) (by decide +kernel)
abbrev ws_X1_requireColour : List Cond := Cond.code yX1_requireColour cX1_requireColour 1 none :: bw
theorem q_ml_X1_64 : Cond.methodLink RX1 64 yX1_lookAtEachOther ∈ bw := bw_of 399 (by decide +kernel) (by decide +kernel)
theorem q_im_X1_lookAtEachOther : Cond.instanceMethod yX1_lookAtEachOther ∈ bw := bw_of 401 (by decide +kernel) (by decide +kernel)
theorem q_c_X1_lookAtEachOther : Cond.code yX1_lookAtEachOther cX1_lookAtEachOther 4 none ∈ bw := bw_of 402 (by decide +kernel) (by decide +kernel)
abbrev ws_X1_lookAtEachOther : List Cond := Cond.code yX1_lookAtEachOther cX1_lookAtEachOther 4 none :: bw
theorem q_ml_X1_80 : Cond.methodLink RX1 80 yX1_setSeenHatsOf ∈ bw := bw_of 403 (by decide +kernel) (by decide +kernel)
theorem q_im_X1_setSeenHatsOf : Cond.instanceMethod yX1_setSeenHatsOf ∈ bw := bw_of 405 (by decide +kernel) (by decide +kernel)
theorem q_c_X1_setSeenHatsOf : Cond.code yX1_setSeenHatsOf cX1_setSeenHatsOf 3 none ∈ bw := bw_of 406 (by decide +kernel) (by decide +kernel)
abbrev ws_X1_setSeenHatsOf : List Cond := Cond.code yX1_setSeenHatsOf cX1_setSeenHatsOf 3 none :: bw
theorem q_ml_L_91 : Cond.methodLink RL 91 yL_turnAway ∈ bw := bw_of 407 (by decide +kernel) (by decide +kernel)
theorem q_st_L_turnAway : Cond.static yL_turnAway ∈ bw := bw_of 408 (by decide +kernel) (by decide +kernel)
theorem q_c_L_turnAway : Cond.codeWith yL_turnAway cL_turnAway 5 (some .int) [(0, 17, 20, 13), (0, 17, 24, 21)] ∈ bw := bw_of 409 (by decide +kernel) (by decide +kernel)
abbrev ws_L_turnAway : List Cond := Cond.codeWith yL_turnAway cL_turnAway 5 (some .int) [(0, 17, 20, 13), (0, 17, 24, 21)] :: bw
theorem q_cl_L_21 : Cond.classLink RL 21 "java/lang/IllegalArgumentException" ∈ bw := bw_of 410 (by decide +kernel) (by decide +kernel)
theorem q_ml_L_17 : Cond.methodLink RL 17 yX1_turnAway ∈ bw := bw_of 411 (by decide +kernel) (by decide +kernel)
theorem q_im_X1_turnAway : Cond.instanceMethod yX1_turnAway ∈ bw := bw_of 412 (by decide +kernel) (by decide +kernel)
theorem q_se_X1_turnAway : Cond.selects RX1 yX1_turnAway yX1_turnAway ∈ bw := bw_of 413 (by decide +kernel) (by decide +kernel)
theorem q_c_X1_turnAway : Cond.code yX1_turnAway cX1_turnAway 3 (some .boolean) ∈ bw := bw_of 414 (by decide +kernel) (by decide +kernel)
abbrev ws_X1_turnAway : List Cond := Cond.code yX1_turnAway cX1_turnAway 3 (some .boolean) :: bw
theorem q_ml_X1_70 : Cond.methodLink RX1 70 yX1_requireTwoPlayers ∈ bw := bw_of 415 (by decide +kernel) (by decide +kernel)
theorem q_im_X1_requireTwoPlayers : Cond.instanceMethod yX1_requireTwoPlayers ∈ bw := bw_of 417 (by decide +kernel) (by decide +kernel)
theorem q_c_X1_requireTwoPlayers : Cond.code yX1_requireTwoPlayers cX1_requireTwoPlayers 3 none ∈ bw := bw_of 418 (by decide +kernel) (by decide +kernel)
abbrev ws_X1_requireTwoPlayers : List Cond := Cond.code yX1_requireTwoPlayers cX1_requireTwoPlayers 3 none :: bw
theorem q_cl_X1_214 : Cond.classLink RX1 214 "java/lang/IllegalArgumentException" ∈ bw := bw_of 419 (by decide +kernel) (by decide +kernel)
theorem q_is_IllegalArgumentException : Cond.instantiable "java/lang/IllegalArgumentException" 6 ∈ bw := bw_of 420 (by decide +kernel) (by decide +kernel)
theorem q_ml_L_95 : Cond.methodLink RL 95 yL_borrow ∈ bw := bw_of 435 (by decide +kernel) (by decide +kernel)
theorem q_st_L_borrow : Cond.static yL_borrow ∈ bw := bw_of 436 (by decide +kernel) (by decide +kernel)
theorem q_c_L_borrow : Cond.codeWith yL_borrow cL_borrow 5 (some .int) [(0, 10, 13, 13), (0, 10, 17, 21)] ∈ bw := bw_of 437 (by decide +kernel) (by decide +kernel)
abbrev ws_L_borrow : List Cond := Cond.codeWith yL_borrow cL_borrow 5 (some .int) [(0, 10, 13, 13), (0, 10, 17, 21)] :: bw
theorem q_ml_L_23 : Cond.methodLink RL 23 yX1_borrow ∈ bw := bw_of 438 (by decide +kernel) (by decide +kernel)
theorem q_im_X1_borrow : Cond.instanceMethod yX1_borrow ∈ bw := bw_of 439 (by decide +kernel) (by decide +kernel)
theorem q_se_X1_borrow : Cond.selects RX1 yX1_borrow yX1_borrow ∈ bw := bw_of 440 (by decide +kernel) (by decide +kernel)
theorem q_c_X1_borrow : Cond.code yX1_borrow cX1_borrow 4 (some .int) ∈ bw := bw_of 441 (by decide +kernel) (by decide +kernel)
abbrev ws_X1_borrow : List Cond := Cond.code yX1_borrow cX1_borrow 4 (some .int) :: bw
theorem q_ml_X1_87 : Cond.methodLink RX1 87 yX1_exchanged ∈ bw := bw_of 442 (by decide +kernel) (by decide +kernel)
theorem q_st_X1_exchanged : Cond.static yX1_exchanged ∈ bw := bw_of 443 (by decide +kernel) (by decide +kernel)
theorem q_c_X1_exchanged : Cond.code yX1_exchanged cX1_exchanged 4 (some .int) ∈ bw := bw_of 444 (by decide +kernel) (by decide +kernel)
abbrev ws_X1_exchanged : List Cond := Cond.code yX1_exchanged cX1_exchanged 4 (some .int) :: bw
theorem q_ml_X1_98 : Cond.methodLink RX1 98 yX0_put ∈ bw := bw_of 445 (by decide +kernel) (by decide +kernel)
theorem q_im_X0_put : Cond.instanceMethod yX0_put ∈ bw := bw_of 446 (by decide +kernel) (by decide +kernel)
theorem q_se_X0_put : Cond.selects RX0 yX0_put yX0_put ∈ bw := bw_of 447 (by decide +kernel) (by decide +kernel)
theorem q_c_X0_put : Cond.code yX0_put cX0_put 3 none ∈ bw := bw_of 448 (by decide +kernel) (by decide +kernel)
abbrev ws_X0_put : List Cond := Cond.code yX0_put cX0_put 3 none :: bw
theorem q_ml_L_98 : Cond.methodLink RL 98 yL_takeTurn ∈ bw := bw_of 449 (by decide +kernel) (by decide +kernel)
theorem q_st_L_takeTurn : Cond.static yL_takeTurn ∈ bw := bw_of 450 (by decide +kernel) (by decide +kernel)
theorem q_c_L_takeTurn : Cond.codeWith yL_takeTurn cL_takeTurn 3 (some .int) [(0, 8, 11, 15)] ∈ bw := bw_of 451 (by decide +kernel) (by decide +kernel)
abbrev ws_L_takeTurn : List Cond := Cond.codeWith yL_takeTurn cL_takeTurn 3 (some .int) [(0, 8, 11, 15)] :: bw
theorem q_ml_L_27 : Cond.methodLink RL 27 yX1_takeTurn ∈ bw := bw_of 452 (by decide +kernel) (by decide +kernel)
theorem q_im_X1_takeTurn : Cond.instanceMethod yX1_takeTurn ∈ bw := bw_of 453 (by decide +kernel) (by decide +kernel)
theorem q_se_X1_takeTurn : Cond.selects RX1 yX1_takeTurn yX1_takeTurn ∈ bw := bw_of 454 (by decide +kernel) (by decide +kernel)
theorem q_c_X1_takeTurn : Cond.code yX1_takeTurn cX1_takeTurn 3 (some .int) ∈ bw := bw_of 455 (by decide +kernel) (by decide +kernel)
abbrev ws_X1_takeTurn : List Cond := Cond.code yX1_takeTurn cX1_takeTurn 3 (some .int) :: bw
theorem q_ml_L_102 : Cond.methodLink RL 102 yL_sayAtLeast ∈ bw := bw_of 456 (by decide +kernel) (by decide +kernel)
theorem q_st_L_sayAtLeast : Cond.static yL_sayAtLeast ∈ bw := bw_of 457 (by decide +kernel) (by decide +kernel)
theorem q_c_L_sayAtLeast : Cond.codeWith yL_sayAtLeast cL_sayAtLeast 5 (some .int) [(0, 10, 13, 13), (0, 10, 17, 21), (0, 10, 21, 15)] ∈ bw := bw_of 458 (by decide +kernel) (by decide +kernel)
abbrev ws_L_sayAtLeast : List Cond := Cond.codeWith yL_sayAtLeast cL_sayAtLeast 5 (some .int) [(0, 10, 13, 13), (0, 10, 17, 21), (0, 10, 21, 15)] :: bw
theorem q_ml_L_31 : Cond.methodLink RL 31 yX1_sayAtLeast ∈ bw := bw_of 459 (by decide +kernel) (by decide +kernel)
theorem q_im_X1_sayAtLeast : Cond.instanceMethod yX1_sayAtLeast ∈ bw := bw_of 460 (by decide +kernel) (by decide +kernel)
theorem q_se_X1_sayAtLeast : Cond.selects RX1 yX1_sayAtLeast yX1_sayAtLeast ∈ bw := bw_of 461 (by decide +kernel) (by decide +kernel)
theorem q_c_X1_sayAtLeast : Cond.code yX1_sayAtLeast cX1_sayAtLeast 3 (some .int) ∈ bw := bw_of 462 (by decide +kernel) (by decide +kernel)
abbrev ws_X1_sayAtLeast : List Cond := Cond.code yX1_sayAtLeast cX1_sayAtLeast 3 (some .int) :: bw
theorem q_ml_X1_115 : Cond.methodLink RX1 115 yX1_requireMany ∈ bw := bw_of 463 (by decide +kernel) (by decide +kernel)
theorem q_st_X1_requireMany : Cond.static yX1_requireMany ∈ bw := bw_of 464 (by decide +kernel) (by decide +kernel)
theorem q_c_X1_requireMany : Cond.code yX1_requireMany cX1_requireMany 1 none ∈ bw := bw_of 465 (by decide +kernel) (by decide +kernel)
abbrev ws_X1_requireMany : List Cond := Cond.code yX1_requireMany cX1_requireMany 1 none :: bw
theorem q_ml_X1_118 : Cond.methodLink RX1 118 yX1_sayBetween ∈ bw := bw_of 467 (by decide +kernel) (by decide +kernel)
theorem q_im_X1_sayBetween : Cond.instanceMethod yX1_sayBetween ∈ bw := bw_of 469 (by decide +kernel) (by decide +kernel)
theorem q_c_X1_sayBetween : Cond.code yX1_sayBetween cX1_sayBetween 5 (some .int) ∈ bw := bw_of 470 (by decide +kernel) (by decide +kernel)
abbrev ws_X1_sayBetween : List Cond := Cond.code yX1_sayBetween cX1_sayBetween 5 (some .int) :: bw
theorem q_ml_X1_227 : Cond.methodLink RX1 227 yX1_keepWithHats ∈ bw := bw_of 472 (by decide +kernel) (by decide +kernel)
theorem q_im_X1_keepWithHats : Cond.instanceMethod yX1_keepWithHats ∈ bw := bw_of 474 (by decide +kernel) (by decide +kernel)
theorem q_c_X1_keepWithHats : Cond.code yX1_keepWithHats cX1_keepWithHats 9 none ∈ bw := bw_of 475 (by decide +kernel) (by decide +kernel)
abbrev ws_X1_keepWithHats : List Cond := Cond.code yX1_keepWithHats cX1_keepWithHats 9 none :: bw
theorem q_ml_L_105 : Cond.methodLink RL 105 yL_sayAtMost ∈ bw := bw_of 476 (by decide +kernel) (by decide +kernel)
theorem q_st_L_sayAtMost : Cond.static yL_sayAtMost ∈ bw := bw_of 477 (by decide +kernel) (by decide +kernel)
theorem q_c_L_sayAtMost : Cond.codeWith yL_sayAtMost cL_sayAtMost 5 (some .int) [(0, 10, 13, 13), (0, 10, 17, 21), (0, 10, 21, 15)] ∈ bw := bw_of 478 (by decide +kernel) (by decide +kernel)
abbrev ws_L_sayAtMost : List Cond := Cond.codeWith yL_sayAtMost cL_sayAtMost 5 (some .int) [(0, 10, 13, 13), (0, 10, 17, 21), (0, 10, 21, 15)] :: bw
theorem q_ml_L_34 : Cond.methodLink RL 34 yX1_sayAtMost ∈ bw := bw_of 479 (by decide +kernel) (by decide +kernel)
theorem q_im_X1_sayAtMost : Cond.instanceMethod yX1_sayAtMost ∈ bw := bw_of 480 (by decide +kernel) (by decide +kernel)
theorem q_se_X1_sayAtMost : Cond.selects RX1 yX1_sayAtMost yX1_sayAtMost ∈ bw := bw_of 481 (by decide +kernel) (by decide +kernel)
theorem q_c_X1_sayAtMost : Cond.code yX1_sayAtMost cX1_sayAtMost 3 (some .int) ∈ bw := bw_of 482 (by decide +kernel) (by decide +kernel)
abbrev ws_X1_sayAtMost : List Cond := Cond.code yX1_sayAtMost cX1_sayAtMost 3 (some .int) :: bw
theorem q_ml_L_128 : Cond.methodLink RL 128 yL_hatOf ∈ bw := bw_of 483 (by decide +kernel) (by decide +kernel)
theorem q_st_L_hatOf : Cond.static yL_hatOf ∈ bw := bw_of 484 (by decide +kernel) (by decide +kernel)
theorem q_c_L_hatOf : Cond.codeWith yL_hatOf cL_hatOf 4 (some .int) [(0, 9, 12, 13)] ∈ bw := bw_of 485 (by decide +kernel) (by decide +kernel)
abbrev ws_L_hatOf : List Cond := Cond.codeWith yL_hatOf cL_hatOf 4 (some .int) [(0, 9, 12, 13)] :: bw
theorem q_ml_L_37 : Cond.methodLink RL 37 yX1_hatOf ∈ bw := bw_of 486 (by decide +kernel) (by decide +kernel)
theorem q_ml_L_131 : Cond.methodLink RL 131 yL_sees ∈ bw := bw_of 487 (by decide +kernel) (by decide +kernel)
theorem q_st_L_sees : Cond.static yL_sees ∈ bw := bw_of 488 (by decide +kernel) (by decide +kernel)
theorem q_c_L_sees : Cond.codeWith yL_sees cL_sees 5 (some .int) [(0, 17, 20, 13)] ∈ bw := bw_of 489 (by decide +kernel) (by decide +kernel)
abbrev ws_L_sees : List Cond := Cond.codeWith yL_sees cL_sees 5 (some .int) [(0, 17, 20, 13)] :: bw
theorem q_ml_L_40 : Cond.methodLink RL 40 yX1_sees ∈ bw := bw_of 490 (by decide +kernel) (by decide +kernel)
theorem q_ml_L_134 : Cond.methodLink RL 134 yL_hatsOf ∈ bw := bw_of 491 (by decide +kernel) (by decide +kernel)
theorem q_st_L_hatsOf : Cond.static yL_hatsOf ∈ bw := bw_of 492 (by decide +kernel) (by decide +kernel)
theorem q_c_L_hatsOf : Cond.codeWith yL_hatsOf cL_hatsOf 4 (some .int) [(0, 9, 12, 13)] ∈ bw := bw_of 493 (by decide +kernel) (by decide +kernel)
abbrev ws_L_hatsOf : List Cond := Cond.codeWith yL_hatsOf cL_hatsOf 4 (some .int) [(0, 9, 12, 13)] :: bw
theorem q_ml_L_43 : Cond.methodLink RL 43 yX1_hatsOf ∈ bw := bw_of 494 (by decide +kernel) (by decide +kernel)
theorem q_im_X1_hatsOf : Cond.instanceMethod yX1_hatsOf ∈ bw := bw_of 495 (by decide +kernel) (by decide +kernel)
theorem q_se_X1_hatsOf : Cond.selects RX1 yX1_hatsOf yX1_hatsOf ∈ bw := bw_of 496 (by decide +kernel) (by decide +kernel)
theorem q_c_X1_hatsOf : Cond.code yX1_hatsOf cX1_hatsOf 2 (some .int) ∈ bw := bw_of 497 (by decide +kernel) (by decide +kernel)
abbrev ws_X1_hatsOf : List Cond := Cond.code yX1_hatsOf cX1_hatsOf 2 (some .int) :: bw
theorem q_ml_L_141 : Cond.methodLink RL 141 yL_openWaysWith ∈ bw := bw_of 498 (by decide +kernel) (by decide +kernel)
theorem q_st_L_openWaysWith : Cond.static yL_openWaysWith ∈ bw := bw_of 499 (by decide +kernel) (by decide +kernel)
theorem q_c_L_openWaysWith : Cond.codeWith yL_openWaysWith cL_openWaysWith 5 (some .int) [(0, 10, 13, 13)] ∈ bw := bw_of 500 (by decide +kernel) (by decide +kernel)
abbrev ws_L_openWaysWith : List Cond := Cond.codeWith yL_openWaysWith cL_openWaysWith 5 (some .int) [(0, 10, 13, 13)] :: bw
theorem q_ml_L_46 : Cond.methodLink RL 46 yX1_openWaysWith ∈ bw := bw_of 501 (by decide +kernel) (by decide +kernel)
theorem q_im_X1_openWaysWith : Cond.instanceMethod yX1_openWaysWith ∈ bw := bw_of 502 (by decide +kernel) (by decide +kernel)
theorem q_se_X1_openWaysWith : Cond.selects RX1 yX1_openWaysWith yX1_openWaysWith ∈ bw := bw_of 503 (by decide +kernel) (by decide +kernel)
theorem q_c_X1_openWaysWith : Cond.code yX1_openWaysWith cX1_openWaysWith 3 (some .int) ∈ bw := bw_of 504 (by decide +kernel) (by decide +kernel)
abbrev ws_X1_openWaysWith : List Cond := Cond.code yX1_openWaysWith cX1_openWaysWith 3 (some .int) :: bw
theorem q_ml_L_144 : Cond.methodLink RL 144 yL_isKnownToAll ∈ bw := bw_of 505 (by decide +kernel) (by decide +kernel)
theorem q_st_L_isKnownToAll : Cond.static yL_isKnownToAll ∈ bw := bw_of 506 (by decide +kernel) (by decide +kernel)
theorem q_c_L_isKnownToAll : Cond.codeWith yL_isKnownToAll cL_isKnownToAll 4 (some .int) [(0, 16, 19, 13)] ∈ bw := bw_of 507 (by decide +kernel) (by decide +kernel)
abbrev ws_L_isKnownToAll : List Cond := Cond.codeWith yL_isKnownToAll cL_isKnownToAll 4 (some .int) [(0, 16, 19, 13)] :: bw
theorem q_ml_L_49 : Cond.methodLink RL 49 yX1_isKnownToAll ∈ bw := bw_of 508 (by decide +kernel) (by decide +kernel)
theorem q_ml_L_147 : Cond.methodLink RL 147 yL_possibleWays ∈ bw := bw_of 509 (by decide +kernel) (by decide +kernel)
theorem q_st_L_possibleWays : Cond.static yL_possibleWays ∈ bw := bw_of 510 (by decide +kernel) (by decide +kernel)
theorem q_c_L_possibleWays : Cond.codeWith yL_possibleWays cL_possibleWays 4 (some .int) [(0, 9, 12, 13)] ∈ bw := bw_of 511 (by decide +kernel) (by decide +kernel)
abbrev ws_L_possibleWays : List Cond := Cond.codeWith yL_possibleWays cL_possibleWays 4 (some .int) [(0, 9, 12, 13)] :: bw
theorem q_ml_L_53 : Cond.methodLink RL 53 yX1_possibleWays ∈ bw := bw_of 512 (by decide +kernel) (by decide +kernel)
theorem q_ml_L_150 : Cond.methodLink RL 150 yL_holdsPossible ∈ bw := bw_of 513 (by decide +kernel) (by decide +kernel)
theorem q_st_L_holdsPossible : Cond.static yL_holdsPossible ∈ bw := bw_of 514 (by decide +kernel) (by decide +kernel)
theorem q_c_L_holdsPossible : Cond.codeWith yL_holdsPossible cL_holdsPossible 6 (some .int) [(0, 19, 22, 13)] ∈ bw := bw_of 515 (by decide +kernel) (by decide +kernel)
abbrev ws_L_holdsPossible : List Cond := Cond.codeWith yL_holdsPossible cL_holdsPossible 6 (some .int) [(0, 19, 22, 13)] :: bw
theorem q_ml_L_56 : Cond.methodLink RL 56 yX1_holdsPossible ∈ bw := bw_of 516 (by decide +kernel) (by decide +kernel)
theorem q_im_X1_holdsPossible : Cond.instanceMethod yX1_holdsPossible ∈ bw := bw_of 517 (by decide +kernel) (by decide +kernel)
theorem q_se_X1_holdsPossible : Cond.selects RX1 yX1_holdsPossible yX1_holdsPossible ∈ bw := bw_of 518 (by decide +kernel) (by decide +kernel)
theorem q_c_X1_holdsPossible : Cond.code yX1_holdsPossible cX1_holdsPossible 4 (some .boolean) ∈ bw := bw_of 519 (by decide +kernel) (by decide +kernel)
abbrev ws_X1_holdsPossible : List Cond := Cond.code yX1_holdsPossible cX1_holdsPossible 4 (some .boolean) :: bw
theorem q_ml_L_154 : Cond.methodLink RL 154 yL_isCertain ∈ bw := bw_of 520 (by decide +kernel) (by decide +kernel)
theorem q_st_L_isCertain : Cond.static yL_isCertain ∈ bw := bw_of 521 (by decide +kernel) (by decide +kernel)
theorem q_c_L_isCertain : Cond.codeWith yL_isCertain cL_isCertain 4 (some .int) [(0, 16, 19, 13)] ∈ bw := bw_of 522 (by decide +kernel) (by decide +kernel)
abbrev ws_L_isCertain : List Cond := Cond.codeWith yL_isCertain cL_isCertain 4 (some .int) [(0, 16, 19, 13)] :: bw
theorem q_ml_L_60 : Cond.methodLink RL 60 yX1_isCertain ∈ bw := bw_of 523 (by decide +kernel) (by decide +kernel)
theorem q_ml_L_157 : Cond.methodLink RL 157 yL_knowsHatOf ∈ bw := bw_of 524 (by decide +kernel) (by decide +kernel)
theorem q_st_L_knowsHatOf : Cond.static yL_knowsHatOf ∈ bw := bw_of 525 (by decide +kernel) (by decide +kernel)
theorem q_c_L_knowsHatOf : Cond.codeWith yL_knowsHatOf cL_knowsHatOf 5 (some .int) [(0, 17, 20, 13)] ∈ bw := bw_of 526 (by decide +kernel) (by decide +kernel)
abbrev ws_L_knowsHatOf : List Cond := Cond.codeWith yL_knowsHatOf cL_knowsHatOf 5 (some .int) [(0, 17, 20, 13)] :: bw
theorem q_ml_L_63 : Cond.methodLink RL 63 yX1_knowsHatOf ∈ bw := bw_of 527 (by decide +kernel) (by decide +kernel)
theorem q_ml_L_160 : Cond.methodLink RL 160 yL_knowsCertain ∈ bw := bw_of 528 (by decide +kernel) (by decide +kernel)
theorem q_st_L_knowsCertain : Cond.static yL_knowsCertain ∈ bw := bw_of 529 (by decide +kernel) (by decide +kernel)
theorem q_c_L_knowsCertain : Cond.codeWith yL_knowsCertain cL_knowsCertain 5 (some .int) [(0, 17, 20, 13)] ∈ bw := bw_of 530 (by decide +kernel) (by decide +kernel)
abbrev ws_L_knowsCertain : List Cond := Cond.codeWith yL_knowsCertain cL_knowsCertain 5 (some .int) [(0, 17, 20, 13)] :: bw
theorem q_ml_L_66 : Cond.methodLink RL 66 yX1_knowsCertain ∈ bw := bw_of 531 (by decide +kernel) (by decide +kernel)
theorem q_ml_L_167 : Cond.methodLink RL 167 yL_openAfterTurn ∈ bw := bw_of 532 (by decide +kernel) (by decide +kernel)
theorem q_st_L_openAfterTurn : Cond.static yL_openAfterTurn ∈ bw := bw_of 533 (by decide +kernel) (by decide +kernel)
theorem q_c_L_openAfterTurn : Cond.codeWith yL_openAfterTurn cL_openAfterTurn 3 (some .int) [(0, 8, 11, 15)] ∈ bw := bw_of 534 (by decide +kernel) (by decide +kernel)
abbrev ws_L_openAfterTurn : List Cond := Cond.codeWith yL_openAfterTurn cL_openAfterTurn 3 (some .int) [(0, 8, 11, 15)] :: bw
theorem q_ml_L_69 : Cond.methodLink RL 69 yX1_openAfterTurn ∈ bw := bw_of 535 (by decide +kernel) (by decide +kernel)
theorem q_ml_L_170 : Cond.methodLink RL 170 yL_turnsUntilCertain ∈ bw := bw_of 536 (by decide +kernel) (by decide +kernel)
theorem q_st_L_turnsUntilCertain : Cond.static yL_turnsUntilCertain ∈ bw := bw_of 537 (by decide +kernel) (by decide +kernel)
theorem q_c_L_turnsUntilCertain : Cond.codeWith yL_turnsUntilCertain cL_turnsUntilCertain 4 (some .int) [(0, 9, 12, 13)] ∈ bw := bw_of 538 (by decide +kernel) (by decide +kernel)
abbrev ws_L_turnsUntilCertain : List Cond := Cond.codeWith yL_turnsUntilCertain cL_turnsUntilCertain 4 (some .int) [(0, 9, 12, 13)] :: bw
theorem q_ml_L_72 : Cond.methodLink RL 72 yX1_turnsUntilCertain ∈ bw := bw_of 539 (by decide +kernel) (by decide +kernel)
theorem q_im_X1_turnsUntilCertain : Cond.instanceMethod yX1_turnsUntilCertain ∈ bw := bw_of 540 (by decide +kernel) (by decide +kernel)
theorem q_se_X1_turnsUntilCertain : Cond.selects RX1 yX1_turnsUntilCertain yX1_turnsUntilCertain ∈ bw := bw_of 541 (by decide +kernel) (by decide +kernel)
theorem q_c_X1_turnsUntilCertain : Cond.code yX1_turnsUntilCertain cX1_turnsUntilCertain 2 (some .int) ∈ bw := bw_of 542 (by decide +kernel) (by decide +kernel)
abbrev ws_X1_turnsUntilCertain : List Cond := Cond.code yX1_turnsUntilCertain cX1_turnsUntilCertain 2 (some .int) :: bw
theorem q_ml_L_181 : Cond.methodLink RL 181 yL_certainIfTold ∈ bw := bw_of 543 (by decide +kernel) (by decide +kernel)
theorem q_st_L_certainIfTold : Cond.static yL_certainIfTold ∈ bw := bw_of 544 (by decide +kernel) (by decide +kernel)
theorem q_c_L_certainIfTold : Cond.codeWith yL_certainIfTold cL_certainIfTold 4 (some .int) [(0, 9, 12, 13)] ∈ bw := bw_of 545 (by decide +kernel) (by decide +kernel)
abbrev ws_L_certainIfTold : List Cond := Cond.codeWith yL_certainIfTold cL_certainIfTold 4 (some .int) [(0, 9, 12, 13)] :: bw
theorem q_ml_L_75 : Cond.methodLink RL 75 yX1_certainIfTold ∈ bw := bw_of 546 (by decide +kernel) (by decide +kernel)
theorem q_cl_L_79 : Cond.classLink RL 79 RX2 ∈ bw := bw_of 547 (by decide +kernel) (by decide +kernel)
theorem q_is_X2 : Cond.instantiable RX2 11 ∈ bw := bw_of 548 (by decide +kernel) (by decide +kernel)
theorem q_ml_L_81 : Cond.methodLink RL 81 yX2_init ∈ bw := bw_of 549 (by decide +kernel) (by decide +kernel)
theorem q_im_X2_init : Cond.instanceMethod yX2_init ∈ bw := bw_of 550 (by decide +kernel) (by decide +kernel)
theorem q_c_X2_init : Cond.code yX2_init cX2_init 1 none ∈ bw := bw_of 551 (by decide +kernel) (by decide +kernel)
abbrev ws_X2_init : List Cond := Cond.code yX2_init cX2_init 1 none :: bw
theorem q_fl_X2_29 : Cond.fieldLink RX2 29 "BorrowedHatsModel" "thrown" "I" ∈ bw := bw_of 553 (by decide +kernel) (by decide +kernel)
theorem q_fl_X2_33 : Cond.fieldLink RX2 33 "BorrowedHatsModel" "players" "I" ∈ bw := bw_of 554 (by decide +kernel) (by decide +kernel)
theorem q_fl_X2_92 : Cond.fieldLink RX2 92 "BorrowedHatsModel" "hasBegun" "Z" ∈ bw := bw_of 555 (by decide +kernel) (by decide +kernel)
theorem q_fl_X2_9 : Cond.fieldLink RX2 9 "BorrowedHatsModel" "hat" "[I" ∈ bw := bw_of 556 (by decide +kernel) (by decide +kernel)
theorem q_fl_X2_13 : Cond.fieldLink RX2 13 "BorrowedHatsModel" "seen" "[I" ∈ bw := bw_of 557 (by decide +kernel) (by decide +kernel)
theorem q_fl_X2_16 : Cond.fieldLink RX2 16 "BorrowedHatsModel" "open" "[Z" ∈ bw := bw_of 558 (by decide +kernel) (by decide +kernel)
theorem q_fl_X2_20 : Cond.fieldLink RX2 20 "BorrowedHatsModel" "next" "[Z" ∈ bw := bw_of 559 (by decide +kernel) (by decide +kernel)
theorem q_fl_X2_23 : Cond.fieldLink RX2 23 "BorrowedHatsModel" "kept" "[Z" ∈ bw := bw_of 560 (by decide +kernel) (by decide +kernel)
theorem q_fl_X2_26 : Cond.fieldLink RX2 26 "BorrowedHatsModel" "own" "[I" ∈ bw := bw_of 561 (by decide +kernel) (by decide +kernel)
theorem q_fl_X2_105 : Cond.fieldLink RX2 105 "BorrowedHatsModel" "turns" "I" ∈ bw := bw_of 562 (by decide +kernel) (by decide +kernel)
theorem q_fl_X2_114 : Cond.fieldLink RX2 114 "BorrowedHatsModel" "silent" "I" ∈ bw := bw_of 563 (by decide +kernel) (by decide +kernel)
theorem q_ac_boolean : Cond.arrayClass .boolean ∈ bw := bw_of 587 (by decide +kernel) (by decide +kernel)
theorem q_ml_L_88 : Cond.methodLink RL 88 yX2_thrown ∈ bw := bw_of 588 (by decide +kernel) (by decide +kernel)
theorem q_im_X2_thrown : Cond.instanceMethod yX2_thrown ∈ bw := bw_of 589 (by decide +kernel) (by decide +kernel)
theorem q_se_X2_thrown : Cond.selects RX2 yX2_thrown yX2_thrown ∈ bw := bw_of 590 (by decide +kernel) (by decide +kernel)
theorem q_c_X2_thrown : Cond.code yX2_thrown cX2_thrown 1 (some .int) ∈ bw := bw_of 591 (by decide +kernel) (by decide +kernel)
abbrev ws_X2_thrown : List Cond := Cond.code yX2_thrown cX2_thrown 1 (some .int) :: bw
theorem q_ml_L_87 : Cond.methodLink RL 87 yX2_addPlayer ∈ bw := bw_of 592 (by decide +kernel) (by decide +kernel)
theorem q_im_X2_addPlayer : Cond.instanceMethod yX2_addPlayer ∈ bw := bw_of 593 (by decide +kernel) (by decide +kernel)
theorem q_se_X2_addPlayer : Cond.selects RX2 yX2_addPlayer yX2_addPlayer ∈ bw := bw_of 594 (by decide +kernel) (by decide +kernel)
theorem q_c_X2_addPlayer : Cond.code yX2_addPlayer cX2_addPlayer 3 (some .int) ∈ bw := bw_of 595 (by decide +kernel) (by decide +kernel)
abbrev ws_X2_addPlayer : List Cond := Cond.code yX2_addPlayer cX2_addPlayer 3 (some .int) :: bw
theorem q_ml_X2_85 : Cond.methodLink RX2 85 yX2_isColour ∈ bw := bw_of 596 (by decide +kernel) (by decide +kernel)
theorem q_st_X2_isColour : Cond.static yX2_isColour ∈ bw := bw_of 597 (by decide +kernel) (by decide +kernel)
theorem q_c_X2_isColour : Cond.code yX2_isColour cX2_isColour 1 (some .boolean) ∈ bw := bw_of 598 (by decide +kernel) (by decide +kernel)
abbrev ws_X2_isColour : List Cond := Cond.code yX2_isColour cX2_isColour 1 (some .boolean) :: bw
theorem q_ml_X2_36 : Cond.methodLink RX2 36 yX2_isIn ∈ bw := bw_of 599 (by decide +kernel) (by decide +kernel)
theorem q_st_X2_isIn : Cond.static yX2_isIn ∈ bw := bw_of 600 (by decide +kernel) (by decide +kernel)
theorem q_c_X2_isIn : Cond.code yX2_isIn cX2_isIn 3 (some .boolean) ∈ bw := bw_of 601 (by decide +kernel) (by decide +kernel)
abbrev ws_X2_isIn : List Cond := Cond.code yX2_isIn cX2_isIn 3 (some .boolean) :: bw
theorem q_ml_X2_88 : Cond.methodLink RX2 88 yX2_fail ∈ bw := bw_of 602 (by decide +kernel) (by decide +kernel)
theorem q_im_X2_fail : Cond.instanceMethod yX2_fail ∈ bw := bw_of 604 (by decide +kernel) (by decide +kernel)
theorem q_c_X2_fail : Cond.code yX2_fail cX2_fail 2 (some .int) ∈ bw := bw_of 605 (by decide +kernel) (by decide +kernel)
abbrev ws_X2_fail : List Cond := Cond.code yX2_fail cX2_fail 2 (some .int) :: bw
theorem q_ml_X2_96 : Cond.methodLink RX2 96 yX2_openAll ∈ bw := bw_of 606 (by decide +kernel) (by decide +kernel)
theorem q_im_X2_openAll : Cond.instanceMethod yX2_openAll ∈ bw := bw_of 608 (by decide +kernel) (by decide +kernel)
theorem q_c_X2_openAll : Cond.code yX2_openAll cX2_openAll 2 none ∈ bw := bw_of 609 (by decide +kernel) (by decide +kernel)
abbrev ws_X2_openAll : List Cond := Cond.code yX2_openAll cX2_openAll 2 none :: bw
theorem q_ml_X2_53 : Cond.methodLink RX2 53 yX2_ways ∈ bw := bw_of 610 (by decide +kernel) (by decide +kernel)
theorem q_im_X2_ways : Cond.instanceMethod yX2_ways ∈ bw := bw_of 612 (by decide +kernel) (by decide +kernel)
theorem q_c_X2_ways : Cond.code yX2_ways cX2_ways 1 (some .int) ∈ bw := bw_of 613 (by decide +kernel) (by decide +kernel)
abbrev ws_X2_ways : List Cond := Cond.code yX2_ways cX2_ways 1 (some .int) :: bw
theorem q_fl_X2_40 : Cond.fieldLink RX2 40 "BorrowedHatsModel" "POWER" "[I" ∈ bw := bw_of 614 (by decide +kernel) (by decide +kernel)
theorem q_ml_L_94 : Cond.methodLink RL 94 yX2_turnAway ∈ bw := bw_of 616 (by decide +kernel) (by decide +kernel)
theorem q_im_X2_turnAway : Cond.instanceMethod yX2_turnAway ∈ bw := bw_of 617 (by decide +kernel) (by decide +kernel)
theorem q_se_X2_turnAway : Cond.selects RX2 yX2_turnAway yX2_turnAway ∈ bw := bw_of 618 (by decide +kernel) (by decide +kernel)
theorem q_c_X2_turnAway : Cond.code yX2_turnAway cX2_turnAway 3 (some .boolean) ∈ bw := bw_of 619 (by decide +kernel) (by decide +kernel)
abbrev ws_X2_turnAway : List Cond := Cond.code yX2_turnAway cX2_turnAway 3 (some .boolean) :: bw
theorem q_ml_X2_102 : Cond.methodLink RX2 102 yX2_areTwo ∈ bw := bw_of 620 (by decide +kernel) (by decide +kernel)
theorem q_im_X2_areTwo : Cond.instanceMethod yX2_areTwo ∈ bw := bw_of 622 (by decide +kernel) (by decide +kernel)
theorem q_c_X2_areTwo : Cond.code yX2_areTwo cX2_areTwo 3 (some .boolean) ∈ bw := bw_of 623 (by decide +kernel) (by decide +kernel)
abbrev ws_X2_areTwo : List Cond := Cond.code yX2_areTwo cX2_areTwo 3 (some .boolean) :: bw
theorem q_ml_X2_99 : Cond.methodLink RX2 99 yX2_isPlayer ∈ bw := bw_of 624 (by decide +kernel) (by decide +kernel)
theorem q_im_X2_isPlayer : Cond.instanceMethod yX2_isPlayer ∈ bw := bw_of 626 (by decide +kernel) (by decide +kernel)
theorem q_c_X2_isPlayer : Cond.code yX2_isPlayer cX2_isPlayer 2 (some .boolean) ∈ bw := bw_of 627 (by decide +kernel) (by decide +kernel)
abbrev ws_X2_isPlayer : List Cond := Cond.code yX2_isPlayer cX2_isPlayer 2 (some .boolean) :: bw
theorem q_ml_X2_43 : Cond.methodLink RX2 43 yX2_sees ∈ bw := bw_of 628 (by decide +kernel) (by decide +kernel)
theorem q_im_X2_sees : Cond.instanceMethod yX2_sees ∈ bw := bw_of 630 (by decide +kernel) (by decide +kernel)
theorem q_c_X2_sees : Cond.code yX2_sees cX2_sees 4 (some .boolean) ∈ bw := bw_of 631 (by decide +kernel) (by decide +kernel)
abbrev ws_X2_sees : List Cond := Cond.code yX2_sees cX2_sees 4 (some .boolean) :: bw
theorem q_ml_L_97 : Cond.methodLink RL 97 yX2_borrow ∈ bw := bw_of 632 (by decide +kernel) (by decide +kernel)
theorem q_im_X2_borrow : Cond.instanceMethod yX2_borrow ∈ bw := bw_of 633 (by decide +kernel) (by decide +kernel)
theorem q_se_X2_borrow : Cond.selects RX2 yX2_borrow yX2_borrow ∈ bw := bw_of 634 (by decide +kernel) (by decide +kernel)
theorem q_c_X2_borrow : Cond.code yX2_borrow cX2_borrow 5 (some .int) ∈ bw := bw_of 635 (by decide +kernel) (by decide +kernel)
abbrev ws_X2_borrow : List Cond := Cond.code yX2_borrow cX2_borrow 5 (some .int) :: bw
theorem q_ml_X2_46 : Cond.methodLink RX2 46 yX2_colour ∈ bw := bw_of 636 (by decide +kernel) (by decide +kernel)
theorem q_st_X2_colour : Cond.static yX2_colour ∈ bw := bw_of 637 (by decide +kernel) (by decide +kernel)
theorem q_c_X2_colour : Cond.code yX2_colour cX2_colour 2 (some .int) ∈ bw := bw_of 638 (by decide +kernel) (by decide +kernel)
abbrev ws_X2_colour : List Cond := Cond.code yX2_colour cX2_colour 2 (some .int) :: bw
theorem q_ml_X2_76 : Cond.methodLink RX2 76 yX2_take ∈ bw := bw_of 639 (by decide +kernel) (by decide +kernel)
theorem q_im_X2_take : Cond.instanceMethod yX2_take ∈ bw := bw_of 641 (by decide +kernel) (by decide +kernel)
theorem q_c_X2_take : Cond.code yX2_take cX2_take 2 none ∈ bw := bw_of 642 (by decide +kernel) (by decide +kernel)
abbrev ws_X2_take : List Cond := Cond.code yX2_take cX2_take 2 none :: bw
theorem q_ml_L_101 : Cond.methodLink RL 101 yX2_takeTurn ∈ bw := bw_of 643 (by decide +kernel) (by decide +kernel)
theorem q_im_X2_takeTurn : Cond.instanceMethod yX2_takeTurn ∈ bw := bw_of 644 (by decide +kernel) (by decide +kernel)
theorem q_se_X2_takeTurn : Cond.selects RX2 yX2_takeTurn yX2_takeTurn ∈ bw := bw_of 645 (by decide +kernel) (by decide +kernel)
theorem q_c_X2_takeTurn : Cond.code yX2_takeTurn cX2_takeTurn 2 (some .int) ∈ bw := bw_of 646 (by decide +kernel) (by decide +kernel)
abbrev ws_X2_takeTurn : List Cond := Cond.code yX2_takeTurn cX2_takeTurn 2 (some .int) :: bw
theorem q_ml_X2_108 : Cond.methodLink RX2 108 yX2_whose ∈ bw := bw_of 647 (by decide +kernel) (by decide +kernel)
theorem q_im_X2_whose : Cond.instanceMethod yX2_whose ∈ bw := bw_of 649 (by decide +kernel) (by decide +kernel)
theorem q_c_X2_whose : Cond.code yX2_whose cX2_whose 1 (some .int) ∈ bw := bw_of 650 (by decide +kernel) (by decide +kernel)
abbrev ws_X2_whose : List Cond := Cond.code yX2_whose cX2_whose 1 (some .int) :: bw
theorem q_ml_X2_61 : Cond.methodLink RX2 61 yX2_real ∈ bw := bw_of 651 (by decide +kernel) (by decide +kernel)
theorem q_im_X2_real : Cond.instanceMethod yX2_real ∈ bw := bw_of 653 (by decide +kernel) (by decide +kernel)
theorem q_c_X2_real : Cond.code yX2_real cX2_real 3 (some .int) ∈ bw := bw_of 654 (by decide +kernel) (by decide +kernel)
abbrev ws_X2_real : List Cond := Cond.code yX2_real cX2_real 3 (some .int) :: bw
theorem q_ml_X2_111 : Cond.methodLink RX2 111 yX2_turn ∈ bw := bw_of 655 (by decide +kernel) (by decide +kernel)
theorem q_im_X2_turn : Cond.instanceMethod yX2_turn ∈ bw := bw_of 657 (by decide +kernel) (by decide +kernel)
theorem q_c_X2_turn : Cond.code yX2_turn cX2_turn 6 (some .int) ∈ bw := bw_of 658 (by decide +kernel) (by decide +kernel)
abbrev ws_X2_turn : List Cond := Cond.code yX2_turn cX2_turn 6 (some .int) :: bw
theorem q_ml_X2_68 : Cond.methodLink RX2 68 yX2_look ∈ bw := bw_of 659 (by decide +kernel) (by decide +kernel)
theorem q_im_X2_look : Cond.instanceMethod yX2_look ∈ bw := bw_of 661 (by decide +kernel) (by decide +kernel)
theorem q_c_X2_look : Cond.code yX2_look cX2_look 3 none ∈ bw := bw_of 662 (by decide +kernel) (by decide +kernel)
abbrev ws_X2_look : List Cond := Cond.code yX2_look cX2_look 3 none :: bw
theorem q_ml_X2_50 : Cond.methodLink RX2 50 yX2_view ∈ bw := bw_of 663 (by decide +kernel) (by decide +kernel)
theorem q_im_X2_view : Cond.instanceMethod yX2_view ∈ bw := bw_of 665 (by decide +kernel) (by decide +kernel)
theorem q_c_X2_view : Cond.code yX2_view cX2_view 5 (some .int) ∈ bw := bw_of 666 (by decide +kernel) (by decide +kernel)
abbrev ws_X2_view : List Cond := Cond.code yX2_view cX2_view 5 (some .int) :: bw
theorem q_ml_X2_72 : Cond.methodLink RX2 72 yX2_certain ∈ bw := bw_of 667 (by decide +kernel) (by decide +kernel)
theorem q_im_X2_certain : Cond.instanceMethod yX2_certain ∈ bw := bw_of 669 (by decide +kernel) (by decide +kernel)
theorem q_c_X2_certain : Cond.code yX2_certain cX2_certain 3 (some .boolean) ∈ bw := bw_of 670 (by decide +kernel) (by decide +kernel)
abbrev ws_X2_certain : List Cond := Cond.code yX2_certain cX2_certain 3 (some .boolean) :: bw
theorem q_ml_X2_57 : Cond.methodLink RX2 57 yX2_isOne ∈ bw := bw_of 671 (by decide +kernel) (by decide +kernel)
theorem q_st_X2_isOne : Cond.static yX2_isOne ∈ bw := bw_of 672 (by decide +kernel) (by decide +kernel)
theorem q_c_X2_isOne : Cond.code yX2_isOne cX2_isOne 1 (some .boolean) ∈ bw := bw_of 673 (by decide +kernel) (by decide +kernel)
abbrev ws_X2_isOne : List Cond := Cond.code yX2_isOne cX2_isOne 1 (some .boolean) :: bw
theorem q_ml_L_104 : Cond.methodLink RL 104 yX2_sayAtLeast ∈ bw := bw_of 674 (by decide +kernel) (by decide +kernel)
theorem q_im_X2_sayAtLeast : Cond.instanceMethod yX2_sayAtLeast ∈ bw := bw_of 675 (by decide +kernel) (by decide +kernel)
theorem q_se_X2_sayAtLeast : Cond.selects RX2 yX2_sayAtLeast yX2_sayAtLeast ∈ bw := bw_of 676 (by decide +kernel) (by decide +kernel)
theorem q_c_X2_sayAtLeast : Cond.code yX2_sayAtLeast cX2_sayAtLeast 3 (some .int) ∈ bw := bw_of 677 (by decide +kernel) (by decide +kernel)
abbrev ws_X2_sayAtLeast : List Cond := Cond.code yX2_sayAtLeast cX2_sayAtLeast 3 (some .int) :: bw
theorem q_ml_X2_127 : Cond.methodLink RX2 127 yX2_say ∈ bw := bw_of 678 (by decide +kernel) (by decide +kernel)
theorem q_im_X2_say : Cond.instanceMethod yX2_say ∈ bw := bw_of 680 (by decide +kernel) (by decide +kernel)
theorem q_c_X2_say : Cond.code yX2_say cX2_say 5 (some .int) ∈ bw := bw_of 681 (by decide +kernel) (by decide +kernel)
abbrev ws_X2_say : List Cond := Cond.code yX2_say cX2_say 5 (some .int) :: bw
theorem q_ml_X2_117 : Cond.methodLink RX2 117 yX2_is ∈ bw := bw_of 682 (by decide +kernel) (by decide +kernel)
theorem q_im_X2_is : Cond.instanceMethod yX2_is ∈ bw := bw_of 684 (by decide +kernel) (by decide +kernel)
theorem q_c_X2_is : Cond.code yX2_is cX2_is 5 (some .boolean) ∈ bw := bw_of 685 (by decide +kernel) (by decide +kernel)
abbrev ws_X2_is : List Cond := Cond.code yX2_is cX2_is 5 (some .boolean) :: bw
theorem q_ml_X2_124 : Cond.methodLink RX2 124 yX2_have ∈ bw := bw_of 686 (by decide +kernel) (by decide +kernel)
theorem q_im_X2_have : Cond.instanceMethod yX2_have ∈ bw := bw_of 688 (by decide +kernel) (by decide +kernel)
theorem q_c_X2_have : Cond.code yX2_have cX2_have 5 (some .int) ∈ bw := bw_of 689 (by decide +kernel) (by decide +kernel)
abbrev ws_X2_have : List Cond := Cond.code yX2_have cX2_have 5 (some .int) :: bw
theorem q_ml_X2_121 : Cond.methodLink RX2 121 yX2_openNow ∈ bw := bw_of 690 (by decide +kernel) (by decide +kernel)
theorem q_im_X2_openNow : Cond.instanceMethod yX2_openNow ∈ bw := bw_of 692 (by decide +kernel) (by decide +kernel)
theorem q_c_X2_openNow : Cond.code yX2_openNow cX2_openNow 3 (some .int) ∈ bw := bw_of 693 (by decide +kernel) (by decide +kernel)
abbrev ws_X2_openNow : List Cond := Cond.code yX2_openNow cX2_openNow 3 (some .int) :: bw
theorem q_ml_L_107 : Cond.methodLink RL 107 yX2_sayAtMost ∈ bw := bw_of 694 (by decide +kernel) (by decide +kernel)
theorem q_im_X2_sayAtMost : Cond.instanceMethod yX2_sayAtMost ∈ bw := bw_of 695 (by decide +kernel) (by decide +kernel)
theorem q_se_X2_sayAtMost : Cond.selects RX2 yX2_sayAtMost yX2_sayAtMost ∈ bw := bw_of 696 (by decide +kernel) (by decide +kernel)
theorem q_c_X2_sayAtMost : Cond.code yX2_sayAtMost cX2_sayAtMost 3 (some .int) ∈ bw := bw_of 697 (by decide +kernel) (by decide +kernel)
abbrev ws_X2_sayAtMost : List Cond := Cond.code yX2_sayAtMost cX2_sayAtMost 3 (some .int) :: bw
theorem q_ml_L_111 : Cond.methodLink RL 111 yX2_begin ∈ bw := bw_of 698 (by decide +kernel) (by decide +kernel)
theorem q_im_X2_begin : Cond.instanceMethod yX2_begin ∈ bw := bw_of 699 (by decide +kernel) (by decide +kernel)
theorem q_se_X2_begin : Cond.selects RX2 yX2_begin yX2_begin ∈ bw := bw_of 700 (by decide +kernel) (by decide +kernel)
theorem q_c_X2_begin : Cond.code yX2_begin cX2_begin 1 (some .int) ∈ bw := bw_of 701 (by decide +kernel) (by decide +kernel)
abbrev ws_X2_begin : List Cond := Cond.code yX2_begin cX2_begin 1 (some .int) :: bw
theorem q_ml_L_115 : Cond.methodLink RL 115 yX2_players ∈ bw := bw_of 702 (by decide +kernel) (by decide +kernel)
theorem q_im_X2_players : Cond.instanceMethod yX2_players ∈ bw := bw_of 703 (by decide +kernel) (by decide +kernel)
theorem q_se_X2_players : Cond.selects RX2 yX2_players yX2_players ∈ bw := bw_of 704 (by decide +kernel) (by decide +kernel)
theorem q_c_X2_players : Cond.code yX2_players cX2_players 1 (some .int) ∈ bw := bw_of 705 (by decide +kernel) (by decide +kernel)
abbrev ws_X2_players : List Cond := Cond.code yX2_players cX2_players 1 (some .int) :: bw
theorem q_ml_X2_131 : Cond.methodLink RX2 131 yX2_told ∈ bw := bw_of 706 (by decide +kernel) (by decide +kernel)
theorem q_im_X2_told : Cond.instanceMethod yX2_told ∈ bw := bw_of 708 (by decide +kernel) (by decide +kernel)
theorem q_c_X2_told : Cond.code yX2_told cX2_told 2 (some .int) ∈ bw := bw_of 709 (by decide +kernel) (by decide +kernel)
abbrev ws_X2_told : List Cond := Cond.code yX2_told cX2_told 2 (some .int) :: bw
theorem q_ml_L_119 : Cond.methodLink RL 119 yX2_turnsTaken ∈ bw := bw_of 710 (by decide +kernel) (by decide +kernel)
theorem q_im_X2_turnsTaken : Cond.instanceMethod yX2_turnsTaken ∈ bw := bw_of 711 (by decide +kernel) (by decide +kernel)
theorem q_se_X2_turnsTaken : Cond.selects RX2 yX2_turnsTaken yX2_turnsTaken ∈ bw := bw_of 712 (by decide +kernel) (by decide +kernel)
theorem q_c_X2_turnsTaken : Cond.code yX2_turnsTaken cX2_turnsTaken 1 (some .int) ∈ bw := bw_of 713 (by decide +kernel) (by decide +kernel)
abbrev ws_X2_turnsTaken : List Cond := Cond.code yX2_turnsTaken cX2_turnsTaken 1 (some .int) :: bw
theorem q_ml_L_123 : Cond.methodLink RL 123 yX2_silentTurns ∈ bw := bw_of 714 (by decide +kernel) (by decide +kernel)
theorem q_im_X2_silentTurns : Cond.instanceMethod yX2_silentTurns ∈ bw := bw_of 715 (by decide +kernel) (by decide +kernel)
theorem q_se_X2_silentTurns : Cond.selects RX2 yX2_silentTurns yX2_silentTurns ∈ bw := bw_of 716 (by decide +kernel) (by decide +kernel)
theorem q_c_X2_silentTurns : Cond.code yX2_silentTurns cX2_silentTurns 1 (some .int) ∈ bw := bw_of 717 (by decide +kernel) (by decide +kernel)
abbrev ws_X2_silentTurns : List Cond := Cond.code yX2_silentTurns cX2_silentTurns 1 (some .int) :: bw
theorem q_ml_L_127 : Cond.methodLink RL 127 yX2_playerInTurn ∈ bw := bw_of 718 (by decide +kernel) (by decide +kernel)
theorem q_im_X2_playerInTurn : Cond.instanceMethod yX2_playerInTurn ∈ bw := bw_of 719 (by decide +kernel) (by decide +kernel)
theorem q_se_X2_playerInTurn : Cond.selects RX2 yX2_playerInTurn yX2_playerInTurn ∈ bw := bw_of 720 (by decide +kernel) (by decide +kernel)
theorem q_c_X2_playerInTurn : Cond.code yX2_playerInTurn cX2_playerInTurn 1 (some .int) ∈ bw := bw_of 721 (by decide +kernel) (by decide +kernel)
abbrev ws_X2_playerInTurn : List Cond := Cond.code yX2_playerInTurn cX2_playerInTurn 1 (some .int) :: bw
theorem q_ml_L_130 : Cond.methodLink RL 130 yX2_hatOf ∈ bw := bw_of 722 (by decide +kernel) (by decide +kernel)
theorem q_im_X2_hatOf : Cond.instanceMethod yX2_hatOf ∈ bw := bw_of 723 (by decide +kernel) (by decide +kernel)
theorem q_se_X2_hatOf : Cond.selects RX2 yX2_hatOf yX2_hatOf ∈ bw := bw_of 724 (by decide +kernel) (by decide +kernel)
theorem q_c_X2_hatOf : Cond.code yX2_hatOf cX2_hatOf 2 (some .int) ∈ bw := bw_of 725 (by decide +kernel) (by decide +kernel)
abbrev ws_X2_hatOf : List Cond := Cond.code yX2_hatOf cX2_hatOf 2 (some .int) :: bw
theorem q_ml_L_133 : Cond.methodLink RL 133 yX2_sees_ ∈ bw := bw_of 726 (by decide +kernel) (by decide +kernel)
theorem q_im_X2_sees_ : Cond.instanceMethod yX2_sees_ ∈ bw := bw_of 727 (by decide +kernel) (by decide +kernel)
theorem q_se_X2_sees_ : Cond.selects RX2 yX2_sees_ yX2_sees_ ∈ bw := bw_of 728 (by decide +kernel) (by decide +kernel)
theorem q_c_X2_sees_ : Cond.code yX2_sees_ cX2_sees_ 3 (some .boolean) ∈ bw := bw_of 729 (by decide +kernel) (by decide +kernel)
abbrev ws_X2_sees_ : List Cond := Cond.code yX2_sees_ cX2_sees_ 3 (some .boolean) :: bw
theorem q_ml_L_136 : Cond.methodLink RL 136 yX2_hatsOf ∈ bw := bw_of 730 (by decide +kernel) (by decide +kernel)
theorem q_im_X2_hatsOf : Cond.instanceMethod yX2_hatsOf ∈ bw := bw_of 731 (by decide +kernel) (by decide +kernel)
theorem q_se_X2_hatsOf : Cond.selects RX2 yX2_hatsOf yX2_hatsOf ∈ bw := bw_of 732 (by decide +kernel) (by decide +kernel)
theorem q_c_X2_hatsOf : Cond.code yX2_hatsOf cX2_hatsOf 2 (some .int) ∈ bw := bw_of 733 (by decide +kernel) (by decide +kernel)
abbrev ws_X2_hatsOf : List Cond := Cond.code yX2_hatsOf cX2_hatsOf 2 (some .int) :: bw
theorem q_ml_L_140 : Cond.methodLink RL 140 yX2_openWays ∈ bw := bw_of 734 (by decide +kernel) (by decide +kernel)
theorem q_im_X2_openWays : Cond.instanceMethod yX2_openWays ∈ bw := bw_of 735 (by decide +kernel) (by decide +kernel)
theorem q_se_X2_openWays : Cond.selects RX2 yX2_openWays yX2_openWays ∈ bw := bw_of 736 (by decide +kernel) (by decide +kernel)
theorem q_c_X2_openWays : Cond.code yX2_openWays cX2_openWays 1 (some .int) ∈ bw := bw_of 737 (by decide +kernel) (by decide +kernel)
abbrev ws_X2_openWays : List Cond := Cond.code yX2_openWays cX2_openWays 1 (some .int) :: bw
theorem q_ml_L_143 : Cond.methodLink RL 143 yX2_openWaysWith ∈ bw := bw_of 738 (by decide +kernel) (by decide +kernel)
theorem q_im_X2_openWaysWith : Cond.instanceMethod yX2_openWaysWith ∈ bw := bw_of 739 (by decide +kernel) (by decide +kernel)
theorem q_se_X2_openWaysWith : Cond.selects RX2 yX2_openWaysWith yX2_openWaysWith ∈ bw := bw_of 740 (by decide +kernel) (by decide +kernel)
theorem q_c_X2_openWaysWith : Cond.code yX2_openWaysWith cX2_openWaysWith 3 (some .int) ∈ bw := bw_of 741 (by decide +kernel) (by decide +kernel)
abbrev ws_X2_openWaysWith : List Cond := Cond.code yX2_openWaysWith cX2_openWaysWith 3 (some .int) :: bw
theorem q_ml_X2_134 : Cond.methodLink RX2 134 yX2_openWith ∈ bw := bw_of 742 (by decide +kernel) (by decide +kernel)
theorem q_im_X2_openWith : Cond.instanceMethod yX2_openWith ∈ bw := bw_of 744 (by decide +kernel) (by decide +kernel)
theorem q_c_X2_openWith : Cond.code yX2_openWith cX2_openWith 5 (some .int) ∈ bw := bw_of 745 (by decide +kernel) (by decide +kernel)
abbrev ws_X2_openWith : List Cond := Cond.code yX2_openWith cX2_openWith 5 (some .int) :: bw
theorem q_ml_L_146 : Cond.methodLink RL 146 yX2_isKnownToAll ∈ bw := bw_of 746 (by decide +kernel) (by decide +kernel)
theorem q_im_X2_isKnownToAll : Cond.instanceMethod yX2_isKnownToAll ∈ bw := bw_of 747 (by decide +kernel) (by decide +kernel)
theorem q_se_X2_isKnownToAll : Cond.selects RX2 yX2_isKnownToAll yX2_isKnownToAll ∈ bw := bw_of 748 (by decide +kernel) (by decide +kernel)
theorem q_c_X2_isKnownToAll : Cond.code yX2_isKnownToAll cX2_isKnownToAll 2 (some .boolean) ∈ bw := bw_of 749 (by decide +kernel) (by decide +kernel)
abbrev ws_X2_isKnownToAll : List Cond := Cond.code yX2_isKnownToAll cX2_isKnownToAll 2 (some .boolean) :: bw
theorem q_ml_X2_137 : Cond.methodLink RX2 137 yX2_known ∈ bw := bw_of 750 (by decide +kernel) (by decide +kernel)
theorem q_im_X2_known : Cond.instanceMethod yX2_known ∈ bw := bw_of 752 (by decide +kernel) (by decide +kernel)
theorem q_c_X2_known : Cond.code yX2_known cX2_known 2 (some .boolean) ∈ bw := bw_of 753 (by decide +kernel) (by decide +kernel)
abbrev ws_X2_known : List Cond := Cond.code yX2_known cX2_known 2 (some .boolean) :: bw
theorem q_ml_L_149 : Cond.methodLink RL 149 yX2_possibleWays ∈ bw := bw_of 754 (by decide +kernel) (by decide +kernel)
theorem q_im_X2_possibleWays : Cond.instanceMethod yX2_possibleWays ∈ bw := bw_of 755 (by decide +kernel) (by decide +kernel)
theorem q_se_X2_possibleWays : Cond.selects RX2 yX2_possibleWays yX2_possibleWays ∈ bw := bw_of 756 (by decide +kernel) (by decide +kernel)
theorem q_c_X2_possibleWays : Cond.code yX2_possibleWays cX2_possibleWays 2 (some .int) ∈ bw := bw_of 757 (by decide +kernel) (by decide +kernel)
abbrev ws_X2_possibleWays : List Cond := Cond.code yX2_possibleWays cX2_possibleWays 2 (some .int) :: bw
theorem q_ml_X2_140 : Cond.methodLink RX2 140 yX2_possible ∈ bw := bw_of 758 (by decide +kernel) (by decide +kernel)
theorem q_im_X2_possible : Cond.instanceMethod yX2_possible ∈ bw := bw_of 760 (by decide +kernel) (by decide +kernel)
theorem q_c_X2_possible : Cond.code yX2_possible cX2_possible 5 (some .int) ∈ bw := bw_of 761 (by decide +kernel) (by decide +kernel)
abbrev ws_X2_possible : List Cond := Cond.code yX2_possible cX2_possible 5 (some .int) :: bw
theorem q_ml_L_153 : Cond.methodLink RL 153 yX2_holdsPossible ∈ bw := bw_of 762 (by decide +kernel) (by decide +kernel)
theorem q_im_X2_holdsPossible : Cond.instanceMethod yX2_holdsPossible ∈ bw := bw_of 763 (by decide +kernel) (by decide +kernel)
theorem q_se_X2_holdsPossible : Cond.selects RX2 yX2_holdsPossible yX2_holdsPossible ∈ bw := bw_of 764 (by decide +kernel) (by decide +kernel)
theorem q_c_X2_holdsPossible : Cond.code yX2_holdsPossible cX2_holdsPossible 4 (some .boolean) ∈ bw := bw_of 765 (by decide +kernel) (by decide +kernel)
abbrev ws_X2_holdsPossible : List Cond := Cond.code yX2_holdsPossible cX2_holdsPossible 4 (some .boolean) :: bw
theorem q_ml_X2_64 : Cond.methodLink RX2 64 yX2_colours ∈ bw := bw_of 766 (by decide +kernel) (by decide +kernel)
theorem q_im_X2_colours : Cond.instanceMethod yX2_colours ∈ bw := bw_of 768 (by decide +kernel) (by decide +kernel)
theorem q_c_X2_colours : Cond.code yX2_colours cX2_colours 7 (some .int) ∈ bw := bw_of 769 (by decide +kernel) (by decide +kernel)
abbrev ws_X2_colours : List Cond := Cond.code yX2_colours cX2_colours 7 (some .int) :: bw
theorem q_ml_L_156 : Cond.methodLink RL 156 yX2_isCertain ∈ bw := bw_of 770 (by decide +kernel) (by decide +kernel)
theorem q_im_X2_isCertain : Cond.instanceMethod yX2_isCertain ∈ bw := bw_of 771 (by decide +kernel) (by decide +kernel)
theorem q_se_X2_isCertain : Cond.selects RX2 yX2_isCertain yX2_isCertain ∈ bw := bw_of 772 (by decide +kernel) (by decide +kernel)
theorem q_c_X2_isCertain : Cond.code yX2_isCertain cX2_isCertain 2 (some .boolean) ∈ bw := bw_of 773 (by decide +kernel) (by decide +kernel)
abbrev ws_X2_isCertain : List Cond := Cond.code yX2_isCertain cX2_isCertain 2 (some .boolean) :: bw
theorem q_ml_X2_143 : Cond.methodLink RX2 143 yX2_certainNow ∈ bw := bw_of 774 (by decide +kernel) (by decide +kernel)
theorem q_im_X2_certainNow : Cond.instanceMethod yX2_certainNow ∈ bw := bw_of 776 (by decide +kernel) (by decide +kernel)
theorem q_c_X2_certainNow : Cond.code yX2_certainNow cX2_certainNow 2 (some .boolean) ∈ bw := bw_of 777 (by decide +kernel) (by decide +kernel)
abbrev ws_X2_certainNow : List Cond := Cond.code yX2_certainNow cX2_certainNow 2 (some .boolean) :: bw
theorem q_ml_L_159 : Cond.methodLink RL 159 yX2_knowsHatOf ∈ bw := bw_of 778 (by decide +kernel) (by decide +kernel)
theorem q_im_X2_knowsHatOf : Cond.instanceMethod yX2_knowsHatOf ∈ bw := bw_of 779 (by decide +kernel) (by decide +kernel)
theorem q_se_X2_knowsHatOf : Cond.selects RX2 yX2_knowsHatOf yX2_knowsHatOf ∈ bw := bw_of 780 (by decide +kernel) (by decide +kernel)
theorem q_c_X2_knowsHatOf : Cond.code yX2_knowsHatOf cX2_knowsHatOf 3 (some .boolean) ∈ bw := bw_of 781 (by decide +kernel) (by decide +kernel)
abbrev ws_X2_knowsHatOf : List Cond := Cond.code yX2_knowsHatOf cX2_knowsHatOf 3 (some .boolean) :: bw
theorem q_ml_X2_146 : Cond.methodLink RX2 146 yX2_knows ∈ bw := bw_of 782 (by decide +kernel) (by decide +kernel)
theorem q_im_X2_knows : Cond.instanceMethod yX2_knows ∈ bw := bw_of 784 (by decide +kernel) (by decide +kernel)
theorem q_c_X2_knows : Cond.code yX2_knows cX2_knows 3 (some .boolean) ∈ bw := bw_of 785 (by decide +kernel) (by decide +kernel)
abbrev ws_X2_knows : List Cond := Cond.code yX2_knows cX2_knows 3 (some .boolean) :: bw
theorem q_ml_L_162 : Cond.methodLink RL 162 yX2_knowsCertain ∈ bw := bw_of 786 (by decide +kernel) (by decide +kernel)
theorem q_im_X2_knowsCertain : Cond.instanceMethod yX2_knowsCertain ∈ bw := bw_of 787 (by decide +kernel) (by decide +kernel)
theorem q_se_X2_knowsCertain : Cond.selects RX2 yX2_knowsCertain yX2_knowsCertain ∈ bw := bw_of 788 (by decide +kernel) (by decide +kernel)
theorem q_c_X2_knowsCertain : Cond.code yX2_knowsCertain cX2_knowsCertain 3 (some .boolean) ∈ bw := bw_of 789 (by decide +kernel) (by decide +kernel)
abbrev ws_X2_knowsCertain : List Cond := Cond.code yX2_knowsCertain cX2_knowsCertain 3 (some .boolean) :: bw
theorem q_ml_X2_149 : Cond.methodLink RX2 149 yX2_sure ∈ bw := bw_of 790 (by decide +kernel) (by decide +kernel)
theorem q_im_X2_sure : Cond.instanceMethod yX2_sure ∈ bw := bw_of 792 (by decide +kernel) (by decide +kernel)
theorem q_c_X2_sure : Cond.code yX2_sure cX2_sure 5 (some .boolean) ∈ bw := bw_of 793 (by decide +kernel) (by decide +kernel)
abbrev ws_X2_sure : List Cond := Cond.code yX2_sure cX2_sure 5 (some .boolean) :: bw
theorem q_ml_L_166 : Cond.methodLink RL 166 yX2_certainPlayers ∈ bw := bw_of 794 (by decide +kernel) (by decide +kernel)
theorem q_im_X2_certainPlayers : Cond.instanceMethod yX2_certainPlayers ∈ bw := bw_of 795 (by decide +kernel) (by decide +kernel)
theorem q_se_X2_certainPlayers : Cond.selects RX2 yX2_certainPlayers yX2_certainPlayers ∈ bw := bw_of 796 (by decide +kernel) (by decide +kernel)
theorem q_c_X2_certainPlayers : Cond.code yX2_certainPlayers cX2_certainPlayers 1 (some .int) ∈ bw := bw_of 797 (by decide +kernel) (by decide +kernel)
abbrev ws_X2_certainPlayers : List Cond := Cond.code yX2_certainPlayers cX2_certainPlayers 1 (some .int) :: bw
theorem q_ml_X2_152 : Cond.methodLink RX2 152 yX2_many ∈ bw := bw_of 798 (by decide +kernel) (by decide +kernel)
theorem q_im_X2_many : Cond.instanceMethod yX2_many ∈ bw := bw_of 800 (by decide +kernel) (by decide +kernel)
theorem q_c_X2_many : Cond.code yX2_many cX2_many 3 (some .int) ∈ bw := bw_of 801 (by decide +kernel) (by decide +kernel)
abbrev ws_X2_many : List Cond := Cond.code yX2_many cX2_many 3 (some .int) :: bw
theorem q_ml_L_169 : Cond.methodLink RL 169 yX2_openAfterTurn ∈ bw := bw_of 802 (by decide +kernel) (by decide +kernel)
theorem q_im_X2_openAfterTurn : Cond.instanceMethod yX2_openAfterTurn ∈ bw := bw_of 803 (by decide +kernel) (by decide +kernel)
theorem q_se_X2_openAfterTurn : Cond.selects RX2 yX2_openAfterTurn yX2_openAfterTurn ∈ bw := bw_of 804 (by decide +kernel) (by decide +kernel)
theorem q_c_X2_openAfterTurn : Cond.code yX2_openAfterTurn cX2_openAfterTurn 1 (some .int) ∈ bw := bw_of 805 (by decide +kernel) (by decide +kernel)
abbrev ws_X2_openAfterTurn : List Cond := Cond.code yX2_openAfterTurn cX2_openAfterTurn 1 (some .int) :: bw
theorem q_ml_X2_161 : Cond.methodLink RX2 161 yX2_after ∈ bw := bw_of 806 (by decide +kernel) (by decide +kernel)
theorem q_im_X2_after : Cond.instanceMethod yX2_after ∈ bw := bw_of 808 (by decide +kernel) (by decide +kernel)
theorem q_c_X2_after : Cond.code yX2_after cX2_after 2 (some .int) ∈ bw := bw_of 809 (by decide +kernel) (by decide +kernel)
abbrev ws_X2_after : List Cond := Cond.code yX2_after cX2_after 2 (some .int) :: bw
theorem q_ml_X2_155 : Cond.methodLink RX2 155 yX2_keep ∈ bw := bw_of 810 (by decide +kernel) (by decide +kernel)
theorem q_im_X2_keep : Cond.instanceMethod yX2_keep ∈ bw := bw_of 812 (by decide +kernel) (by decide +kernel)
theorem q_c_X2_keep : Cond.code yX2_keep cX2_keep 1 none ∈ bw := bw_of 813 (by decide +kernel) (by decide +kernel)
abbrev ws_X2_keep : List Cond := Cond.code yX2_keep cX2_keep 1 none :: bw
theorem q_ml_X2_158 : Cond.methodLink RX2 158 yX2_bringBack ∈ bw := bw_of 817 (by decide +kernel) (by decide +kernel)
theorem q_im_X2_bringBack : Cond.instanceMethod yX2_bringBack ∈ bw := bw_of 819 (by decide +kernel) (by decide +kernel)
theorem q_c_X2_bringBack : Cond.code yX2_bringBack cX2_bringBack 1 none ∈ bw := bw_of 820 (by decide +kernel) (by decide +kernel)
abbrev ws_X2_bringBack : List Cond := Cond.code yX2_bringBack cX2_bringBack 1 none :: bw
theorem q_ml_L_172 : Cond.methodLink RL 172 yX2_turnsUntilCertain ∈ bw := bw_of 821 (by decide +kernel) (by decide +kernel)
theorem q_im_X2_turnsUntilCertain : Cond.instanceMethod yX2_turnsUntilCertain ∈ bw := bw_of 822 (by decide +kernel) (by decide +kernel)
theorem q_se_X2_turnsUntilCertain : Cond.selects RX2 yX2_turnsUntilCertain yX2_turnsUntilCertain ∈ bw := bw_of 823 (by decide +kernel) (by decide +kernel)
theorem q_c_X2_turnsUntilCertain : Cond.code yX2_turnsUntilCertain cX2_turnsUntilCertain 2 (some .int) ∈ bw := bw_of 824 (by decide +kernel) (by decide +kernel)
abbrev ws_X2_turnsUntilCertain : List Cond := Cond.code yX2_turnsUntilCertain cX2_turnsUntilCertain 2 (some .int) :: bw
theorem q_ml_X2_164 : Cond.methodLink RX2 164 yX2_until ∈ bw := bw_of 825 (by decide +kernel) (by decide +kernel)
theorem q_im_X2_until : Cond.instanceMethod yX2_until ∈ bw := bw_of 827 (by decide +kernel) (by decide +kernel)
theorem q_c_X2_until : Cond.code yX2_until cX2_until 4 (some .int) ∈ bw := bw_of 828 (by decide +kernel) (by decide +kernel)
abbrev ws_X2_until : List Cond := Cond.code yX2_until cX2_until 4 (some .int) :: bw
theorem q_ml_L_176 : Cond.methodLink RL 176 yX2_turnsUntilAllCertain ∈ bw := bw_of 829 (by decide +kernel) (by decide +kernel)
theorem q_im_X2_turnsUntilAllCertain : Cond.instanceMethod yX2_turnsUntilAllCertain ∈ bw := bw_of 830 (by decide +kernel) (by decide +kernel)
theorem q_se_X2_turnsUntilAllCertain : Cond.selects RX2 yX2_turnsUntilAllCertain yX2_turnsUntilAllCertain ∈ bw := bw_of 831 (by decide +kernel) (by decide +kernel)
theorem q_c_X2_turnsUntilAllCertain : Cond.code yX2_turnsUntilAllCertain cX2_turnsUntilAllCertain 1 (some .int) ∈ bw := bw_of 832 (by decide +kernel) (by decide +kernel)
abbrev ws_X2_turnsUntilAllCertain : List Cond := Cond.code yX2_turnsUntilAllCertain cX2_turnsUntilAllCertain 1 (some .int) :: bw
theorem q_ml_L_180 : Cond.methodLink RL 180 yX2_bestToName ∈ bw := bw_of 833 (by decide +kernel) (by decide +kernel)
theorem q_im_X2_bestToName : Cond.instanceMethod yX2_bestToName ∈ bw := bw_of 834 (by decide +kernel) (by decide +kernel)
theorem q_se_X2_bestToName : Cond.selects RX2 yX2_bestToName yX2_bestToName ∈ bw := bw_of 835 (by decide +kernel) (by decide +kernel)
theorem q_c_X2_bestToName : Cond.code yX2_bestToName cX2_bestToName 1 (some .int) ∈ bw := bw_of 836 (by decide +kernel) (by decide +kernel)
abbrev ws_X2_bestToName : List Cond := Cond.code yX2_bestToName cX2_bestToName 1 (some .int) :: bw
theorem q_ml_X2_167 : Cond.methodLink RX2 167 yX2_best ∈ bw := bw_of 837 (by decide +kernel) (by decide +kernel)
theorem q_im_X2_best : Cond.instanceMethod yX2_best ∈ bw := bw_of 839 (by decide +kernel) (by decide +kernel)
theorem q_c_X2_best : Cond.code yX2_best cX2_best 6 (some .int) ∈ bw := bw_of 840 (by decide +kernel) (by decide +kernel)
abbrev ws_X2_best : List Cond := Cond.code yX2_best cX2_best 6 (some .int) :: bw
theorem q_ml_L_183 : Cond.methodLink RL 183 yX2_certainIfTold ∈ bw := bw_of 841 (by decide +kernel) (by decide +kernel)
theorem q_im_X2_certainIfTold : Cond.instanceMethod yX2_certainIfTold ∈ bw := bw_of 842 (by decide +kernel) (by decide +kernel)
theorem q_se_X2_certainIfTold : Cond.selects RX2 yX2_certainIfTold yX2_certainIfTold ∈ bw := bw_of 843 (by decide +kernel) (by decide +kernel)
theorem q_c_X2_certainIfTold : Cond.code yX2_certainIfTold cX2_certainIfTold 2 (some .int) ∈ bw := bw_of 844 (by decide +kernel) (by decide +kernel)
abbrev ws_X2_certainIfTold : List Cond := Cond.code yX2_certainIfTold cX2_certainIfTold 2 (some .int) :: bw
theorem q_ml_X2_170 : Cond.methodLink RX2 170 yX2_ifTold ∈ bw := bw_of 845 (by decide +kernel) (by decide +kernel)
theorem q_im_X2_ifTold : Cond.instanceMethod yX2_ifTold ∈ bw := bw_of 847 (by decide +kernel) (by decide +kernel)
theorem q_c_X2_ifTold : Cond.code yX2_ifTold cX2_ifTold 3 (some .int) ∈ bw := bw_of 848 (by decide +kernel) (by decide +kernel)
abbrev ws_X2_ifTold : List Cond := Cond.code yX2_ifTold cX2_ifTold 3 (some .int) :: bw
theorem q_ml_L_188 : Cond.methodLink RL 188 yX2_meanPossible ∈ bw := bw_of 849 (by decide +kernel) (by decide +kernel)
theorem q_im_X2_meanPossible : Cond.instanceMethod yX2_meanPossible ∈ bw := bw_of 850 (by decide +kernel) (by decide +kernel)
theorem q_se_X2_meanPossible : Cond.selects RX2 yX2_meanPossible yX2_meanPossible ∈ bw := bw_of 851 (by decide +kernel) (by decide +kernel)
theorem q_c_X2_meanPossible : Cond.code yX2_meanPossible cX2_meanPossible 3 (some .double) ∈ bw := bw_of 852 (by decide +kernel) (by decide +kernel)
abbrev ws_X2_meanPossible : List Cond := Cond.code yX2_meanPossible cX2_meanPossible 3 (some .double) :: bw
theorem q_ml_L_193 : Cond.methodLink RL 193 yX2_digest ∈ bw := bw_of 853 (by decide +kernel) (by decide +kernel)
theorem q_im_X2_digest : Cond.instanceMethod yX2_digest ∈ bw := bw_of 854 (by decide +kernel) (by decide +kernel)
theorem q_se_X2_digest : Cond.selects RX2 yX2_digest yX2_digest ∈ bw := bw_of 855 (by decide +kernel) (by decide +kernel)
theorem q_c_X2_digest : Cond.code yX2_digest cX2_digest 10 (some .long) ∈ bw := bw_of 856 (by decide +kernel) (by decide +kernel)
abbrev ws_X2_digest : List Cond := Cond.code yX2_digest cX2_digest 10 (some .long) :: bw
theorem q_kl_X2_173 : Cond.constantLong RX2 173 (2053) ∈ bw := bw_of 857 (by decide +kernel) (by decide +kernel)
theorem q_kl_X2_175 : Cond.constantLong RX2 175 (31) ∈ bw := bw_of 858 (by decide +kernel) (by decide +kernel)
theorem q_ac_long : Cond.arrayClass .long ∈ bw := bw_of 859 (by decide +kernel) (by decide +kernel)
theorem q_se_X1_openColoursOf : Cond.selects RX1 yX1_openColoursOf yX1_openColoursOf ∈ bw := bw_sel 0 (by decide +kernel) (by decide +kernel)
theorem q_se_X1_countCertain : Cond.selects RX1 yX1_countCertain yX1_countCertain ∈ bw := bw_sel 1 (by decide +kernel) (by decide +kernel)
theorem q_se_X1_isCertainBy : Cond.selects RX1 yX1_isCertainBy yX1_isCertainBy ∈ bw := bw_sel 2 (by decide +kernel) (by decide +kernel)
theorem q_se_X1_possibleColours : Cond.selects RX1 yX1_possibleColours yX1_possibleColours ∈ bw := bw_sel 3 (by decide +kernel) (by decide +kernel)
theorem q_se_X1_seenHatsOf : Cond.selects RX1 yX1_seenHatsOf yX1_seenHatsOf ∈ bw := bw_sel 4 (by decide +kernel) (by decide +kernel)
theorem q_se_X1_agreesWithNow : Cond.selects RX1 yX1_agreesWithNow yX1_agreesWithNow ∈ bw := bw_sel 5 (by decide +kernel) (by decide +kernel)
theorem q_se_X1_turnsUntilCertainFrom : Cond.selects RX1 yX1_turnsUntilCertainFrom yX1_turnsUntilCertainFrom ∈ bw := bw_sel 6 (by decide +kernel) (by decide +kernel)
theorem q_se_X1_areCertainBy : Cond.selects RX1 yX1_areCertainBy yX1_areCertainBy ∈ bw := bw_sel 7 (by decide +kernel) (by decide +kernel)
theorem q_se_X1_passTurn : Cond.selects RX1 yX1_passTurn yX1_passTurn ∈ bw := bw_sel 8 (by decide +kernel) (by decide +kernel)
theorem q_se_X1_keepByCertainty : Cond.selects RX1 yX1_keepByCertainty yX1_keepByCertainty ∈ bw := bw_sel 9 (by decide +kernel) (by decide +kernel)
theorem q_se_X1_noteOwnColours : Cond.selects RX1 yX1_noteOwnColours yX1_noteOwnColours ∈ bw := bw_sel 10 (by decide +kernel) (by decide +kernel)
theorem q_se_X1_viewOf : Cond.selects RX1 yX1_viewOf yX1_viewOf ∈ bw := bw_sel 11 (by decide +kernel) (by decide +kernel)
theorem q_se_X1_setOwnColours : Cond.selects RX1 yX1_setOwnColours yX1_setOwnColours ∈ bw := bw_sel 12 (by decide +kernel) (by decide +kernel)
theorem q_se_X1_ownColours : Cond.selects RX1 yX1_ownColours yX1_ownColours ∈ bw := bw_sel 13 (by decide +kernel) (by decide +kernel)
theorem q_se_X1_wouldBeCertain : Cond.selects RX1 yX1_wouldBeCertain yX1_wouldBeCertain ∈ bw := bw_sel 14 (by decide +kernel) (by decide +kernel)
theorem q_se_X1_playerAfter : Cond.selects RX1 yX1_playerAfter yX1_playerAfter ∈ bw := bw_sel 15 (by decide +kernel) (by decide +kernel)
theorem q_se_X1_countNaming : Cond.selects RX1 yX1_countNaming yX1_countNaming ∈ bw := bw_sel 16 (by decide +kernel) (by decide +kernel)
theorem q_se_X1_hatsIn : Cond.selects RX1 yX1_hatsIn yX1_hatsIn ∈ bw := bw_sel 17 (by decide +kernel) (by decide +kernel)
theorem q_se_X1_countPossible : Cond.selects RX1 yX1_countPossible yX1_countPossible ∈ bw := bw_sel 18 (by decide +kernel) (by decide +kernel)
theorem q_se_X1_requireSomePlayer : Cond.selects RX1 yX1_requireSomePlayer yX1_requireSomePlayer ∈ bw := bw_sel 19 (by decide +kernel) (by decide +kernel)
theorem q_se_X1_digestedPlayer : Cond.selects RX1 yX1_digestedPlayer yX1_digestedPlayer ∈ bw := bw_sel 21 (by decide +kernel) (by decide +kernel)
theorem q_se_X1_requirePlayer : Cond.selects RX1 yX1_requirePlayer yX1_requirePlayer ∈ bw := bw_sel 22 (by decide +kernel) (by decide +kernel)
theorem q_se_X1_countWithHat : Cond.selects RX1 yX1_countWithHat yX1_countWithHat ∈ bw := bw_sel 23 (by decide +kernel) (by decide +kernel)
theorem q_se_X1_seesHat : Cond.selects RX1 yX1_seesHat yX1_seesHat ∈ bw := bw_sel 24 (by decide +kernel) (by decide +kernel)
theorem q_se_X1_lookAtEachOther : Cond.selects RX1 yX1_lookAtEachOther yX1_lookAtEachOther ∈ bw := bw_sel 25 (by decide +kernel) (by decide +kernel)
theorem q_se_X1_setSeenHatsOf : Cond.selects RX1 yX1_setSeenHatsOf yX1_setSeenHatsOf ∈ bw := bw_sel 26 (by decide +kernel) (by decide +kernel)
theorem q_se_X1_requireTwoPlayers : Cond.selects RX1 yX1_requireTwoPlayers yX1_requireTwoPlayers ∈ bw := bw_sel 27 (by decide +kernel) (by decide +kernel)
theorem q_se_X1_sayBetween : Cond.selects RX1 yX1_sayBetween yX1_sayBetween ∈ bw := bw_sel 28 (by decide +kernel) (by decide +kernel)
theorem q_se_X1_keepWithHats : Cond.selects RX1 yX1_keepWithHats yX1_keepWithHats ∈ bw := bw_sel 29 (by decide +kernel) (by decide +kernel)
theorem q_se_X2_fail : Cond.selects RX2 yX2_fail yX2_fail ∈ bw := bw_sel 30 (by decide +kernel) (by decide +kernel)
theorem q_se_X2_openAll : Cond.selects RX2 yX2_openAll yX2_openAll ∈ bw := bw_sel 31 (by decide +kernel) (by decide +kernel)
theorem q_se_X2_ways : Cond.selects RX2 yX2_ways yX2_ways ∈ bw := bw_sel 32 (by decide +kernel) (by decide +kernel)
theorem q_se_X2_areTwo : Cond.selects RX2 yX2_areTwo yX2_areTwo ∈ bw := bw_sel 33 (by decide +kernel) (by decide +kernel)
theorem q_se_X2_isPlayer : Cond.selects RX2 yX2_isPlayer yX2_isPlayer ∈ bw := bw_sel 34 (by decide +kernel) (by decide +kernel)
theorem q_se_X2_sees : Cond.selects RX2 yX2_sees yX2_sees ∈ bw := bw_sel 35 (by decide +kernel) (by decide +kernel)
theorem q_se_X2_take : Cond.selects RX2 yX2_take yX2_take ∈ bw := bw_sel 36 (by decide +kernel) (by decide +kernel)
theorem q_se_X2_whose : Cond.selects RX2 yX2_whose yX2_whose ∈ bw := bw_sel 37 (by decide +kernel) (by decide +kernel)
theorem q_se_X2_real : Cond.selects RX2 yX2_real yX2_real ∈ bw := bw_sel 38 (by decide +kernel) (by decide +kernel)
theorem q_se_X2_turn : Cond.selects RX2 yX2_turn yX2_turn ∈ bw := bw_sel 39 (by decide +kernel) (by decide +kernel)
theorem q_se_X2_look : Cond.selects RX2 yX2_look yX2_look ∈ bw := bw_sel 40 (by decide +kernel) (by decide +kernel)
theorem q_se_X2_view : Cond.selects RX2 yX2_view yX2_view ∈ bw := bw_sel 41 (by decide +kernel) (by decide +kernel)
theorem q_se_X2_certain : Cond.selects RX2 yX2_certain yX2_certain ∈ bw := bw_sel 42 (by decide +kernel) (by decide +kernel)
theorem q_se_X2_say : Cond.selects RX2 yX2_say yX2_say ∈ bw := bw_sel 43 (by decide +kernel) (by decide +kernel)
theorem q_se_X2_is : Cond.selects RX2 yX2_is yX2_is ∈ bw := bw_sel 44 (by decide +kernel) (by decide +kernel)
theorem q_se_X2_have : Cond.selects RX2 yX2_have yX2_have ∈ bw := bw_sel 45 (by decide +kernel) (by decide +kernel)
theorem q_se_X2_openNow : Cond.selects RX2 yX2_openNow yX2_openNow ∈ bw := bw_sel 46 (by decide +kernel) (by decide +kernel)
theorem q_se_X2_told : Cond.selects RX2 yX2_told yX2_told ∈ bw := bw_sel 47 (by decide +kernel) (by decide +kernel)
theorem q_se_X2_openWith : Cond.selects RX2 yX2_openWith yX2_openWith ∈ bw := bw_sel 48 (by decide +kernel) (by decide +kernel)
theorem q_se_X2_known : Cond.selects RX2 yX2_known yX2_known ∈ bw := bw_sel 49 (by decide +kernel) (by decide +kernel)
theorem q_se_X2_possible : Cond.selects RX2 yX2_possible yX2_possible ∈ bw := bw_sel 50 (by decide +kernel) (by decide +kernel)
theorem q_se_X2_colours : Cond.selects RX2 yX2_colours yX2_colours ∈ bw := bw_sel 51 (by decide +kernel) (by decide +kernel)
theorem q_se_X2_certainNow : Cond.selects RX2 yX2_certainNow yX2_certainNow ∈ bw := bw_sel 52 (by decide +kernel) (by decide +kernel)
theorem q_se_X2_knows : Cond.selects RX2 yX2_knows yX2_knows ∈ bw := bw_sel 53 (by decide +kernel) (by decide +kernel)
theorem q_se_X2_sure : Cond.selects RX2 yX2_sure yX2_sure ∈ bw := bw_sel 54 (by decide +kernel) (by decide +kernel)
theorem q_se_X2_many : Cond.selects RX2 yX2_many yX2_many ∈ bw := bw_sel 55 (by decide +kernel) (by decide +kernel)
theorem q_se_X2_after : Cond.selects RX2 yX2_after yX2_after ∈ bw := bw_sel 56 (by decide +kernel) (by decide +kernel)
theorem q_se_X2_keep : Cond.selects RX2 yX2_keep yX2_keep ∈ bw := bw_sel 57 (by decide +kernel) (by decide +kernel)
theorem q_se_X2_bringBack : Cond.selects RX2 yX2_bringBack yX2_bringBack ∈ bw := bw_sel 58 (by decide +kernel) (by decide +kernel)
theorem q_se_X2_until : Cond.selects RX2 yX2_until yX2_until ∈ bw := bw_sel 59 (by decide +kernel) (by decide +kernel)
theorem q_se_X2_best : Cond.selects RX2 yX2_best yX2_best ∈ bw := bw_sel 60 (by decide +kernel) (by decide +kernel)
theorem q_se_X2_ifTold : Cond.selects RX2 yX2_ifTold yX2_ifTold ∈ bw := bw_sel 61 (by decide +kernel) (by decide +kernel)
theorem g_X1_X0_add : GoodIn bw (wsV RX1 46 RX0 yX0_add ws_X0_add) := bw_V q_ml_X1_46 q_im_X0_add q_se_X0_add q_in_X0 q_c_X0_add
theorem g_L_X1_begin : GoodIn bw (wsV RL 108 RX1 yX1_begin ws_X1_begin) := bw_V q_ml_L_108 q_im_X1_begin q_se_X1_begin q_in_X1 q_c_X1_begin
theorem g_X1_X0_clear : GoodIn bw (wsV RX1 121 RX0 yX0_clear ws_X0_clear) := bw_V q_ml_X1_121 q_im_X0_clear q_se_X0_clear q_in_X0 q_c_X0_clear
theorem g_X1_X1_openColoursOf : GoodIn bw (wsV RX1 67 RX1 yX1_openColoursOf ws_X1_openColoursOf) := bw_V q_ml_X1_67 q_im_X1_openColoursOf q_se_X1_openColoursOf q_in_X1 q_c_X1_openColoursOf
theorem g_X1_X0_count : GoodIn bw (wsV RX1 91 RX0 yX0_count ws_X0_count) := bw_V q_ml_X1_91 q_im_X0_count q_se_X0_count q_in_X0 q_c_X0_count
theorem g_X1_X0_at : GoodIn bw (wsV RX1 95 RX0 yX0_at ws_X0_at) := bw_V q_ml_X1_95 q_im_X0_at q_se_X0_at q_in_X0 q_c_X0_at
theorem g_X1_X1_shiftOf : GoodIn bw (va_wsS RX1 60 yX1_shiftOf ws_X1_shiftOf) := bw_S q_ml_X1_60 q_st_X1_shiftOf q_in_X1 q_c_X1_shiftOf
theorem g_L_X1_players : GoodIn bw (wsV RL 112 RX1 yX1_players ws_X1_players) := bw_V q_ml_L_112 q_im_X1_players q_se_X1_players q_in_X1 q_c_X1_players
theorem g_L_X1_turnsTaken : GoodIn bw (wsV RL 116 RX1 yX1_turnsTaken ws_X1_turnsTaken) := bw_V q_ml_L_116 q_im_X1_turnsTaken q_se_X1_turnsTaken q_in_X1 q_c_X1_turnsTaken
theorem g_L_X1_silentTurns : GoodIn bw (wsV RL 120 RX1 yX1_silentTurns ws_X1_silentTurns) := bw_V q_ml_L_120 q_im_X1_silentTurns q_se_X1_silentTurns q_in_X1 q_c_X1_silentTurns
theorem g_L_X1_playerInTurn : GoodIn bw (wsV RL 124 RX1 yX1_playerInTurn ws_X1_playerInTurn) := bw_V q_ml_L_124 q_im_X1_playerInTurn q_se_X1_playerInTurn q_in_X1 q_c_X1_playerInTurn
theorem g_L_X1_openWays : GoodIn bw (wsV RL 137 RX1 yX1_openWays ws_X1_openWays) := bw_V q_ml_L_137 q_im_X1_openWays q_se_X1_openWays q_in_X1 q_c_X1_openWays
theorem g_L_X1_certainPlayers : GoodIn bw (wsV RL 163 RX1 yX1_certainPlayers ws_X1_certainPlayers) := bw_V q_ml_L_163 q_im_X1_certainPlayers q_se_X1_certainPlayers q_in_X1 q_c_X1_certainPlayers
theorem g_X1_X1_countCertain : GoodIn bw (wsV RX1 157 RX1 yX1_countCertain ws_X1_countCertain) := bw_V q_ml_X1_157 q_im_X1_countCertain q_se_X1_countCertain q_in_X1 q_c_X1_countCertain
theorem g_X1_X1_isCertainBy : GoodIn bw (wsV RX1 140 RX1 yX1_isCertainBy ws_X1_isCertainBy) := bw_V q_ml_X1_140 q_im_X1_isCertainBy q_se_X1_isCertainBy q_in_X1 q_c_X1_isCertainBy
theorem g_X1_X1_possibleColours : GoodIn bw (wsV RX1 136 RX1 yX1_possibleColours ws_X1_possibleColours) := bw_V q_ml_X1_136 q_im_X1_possibleColours q_se_X1_possibleColours q_in_X1 q_c_X1_possibleColours
theorem g_X1_X1_seenHatsOf : GoodIn bw (wsV RX1 74 RX1 yX1_seenHatsOf ws_X1_seenHatsOf) := bw_V q_ml_X1_74 q_im_X1_seenHatsOf q_se_X1_seenHatsOf q_in_X1 q_c_X1_seenHatsOf
theorem g_X1_X1_agreesWithNow : GoodIn bw (wsV RX1 151 RX1 yX1_agreesWithNow ws_X1_agreesWithNow) := bw_V q_ml_X1_151 q_im_X1_agreesWithNow q_se_X1_agreesWithNow q_in_X1 q_c_X1_agreesWithNow
theorem g_X1_X1_colourIn : GoodIn bw (va_wsS RX1 101 yX1_colourIn ws_X1_colourIn) := bw_S q_ml_X1_101 q_st_X1_colourIn q_in_X1 q_c_X1_colourIn
theorem g_X1_X1_isOneColour : GoodIn bw (va_wsS RX1 143 yX1_isOneColour ws_X1_isOneColour) := bw_S q_ml_X1_143 q_st_X1_isOneColour q_in_X1 q_c_X1_isOneColour
theorem g_X1_J6_bitCount_0f7a4 : GoodIn bw (va_wsS RX1 231 yJ6_bitCount_0f7a4 ws_J6_bitCount_0f7a4) := bw_S q_ml_X1_231 q_st_J6_bitCount_0f7a4 q_in_J6 q_c_J6_bitCount_0f7a4
theorem g_L_X1_turnsUntilAllCertain : GoodIn bw (wsV RL 173 RX1 yX1_turnsUntilAllCertain ws_X1_turnsUntilAllCertain) := bw_V q_ml_L_173 q_im_X1_turnsUntilAllCertain q_se_X1_turnsUntilAllCertain q_in_X1 q_c_X1_turnsUntilAllCertain
theorem g_X1_X1_turnsUntilCertainFrom : GoodIn bw (wsV RX1 165 RX1 yX1_turnsUntilCertainFrom ws_X1_turnsUntilCertainFrom) := bw_V q_ml_X1_165 q_im_X1_turnsUntilCertainFrom q_se_X1_turnsUntilCertainFrom q_in_X1 q_c_X1_turnsUntilCertainFrom
theorem g_X1_X0_copyFrom : GoodIn bw (wsV RX1 161 RX0 yX0_copyFrom ws_X0_copyFrom) := bw_V q_ml_X1_161 q_im_X0_copyFrom q_se_X0_copyFrom q_in_X0 q_c_X0_copyFrom
theorem g_X0_X0_clear : GoodIn bw (wsV RX0 19 RX0 yX0_clear ws_X0_clear) := bw_V q_ml_X0_19 q_im_X0_clear q_se_X0_clear q_in_X0 q_c_X0_clear
theorem g_X0_X0_count : GoodIn bw (wsV RX0 22 RX0 yX0_count ws_X0_count) := bw_V q_ml_X0_22 q_im_X0_count q_se_X0_count q_in_X0 q_c_X0_count
theorem g_X0_X0_at : GoodIn bw (wsV RX0 25 RX0 yX0_at ws_X0_at) := bw_V q_ml_X0_25 q_im_X0_at q_se_X0_at q_in_X0 q_c_X0_at
theorem g_X0_X0_add : GoodIn bw (wsV RX0 29 RX0 yX0_add ws_X0_add) := bw_V q_ml_X0_29 q_im_X0_add q_se_X0_add q_in_X0 q_c_X0_add
theorem g_X1_X1_areCertainBy : GoodIn bw (wsV RX1 249 RX1 yX1_areCertainBy ws_X1_areCertainBy) := bw_V q_ml_X1_249 q_im_X1_areCertainBy q_se_X1_areCertainBy q_in_X1 q_c_X1_areCertainBy
theorem g_X1_X1_passTurn : GoodIn bw (wsV RX1 108 RX1 yX1_passTurn ws_X1_passTurn) := bw_V q_ml_X1_108 q_im_X1_passTurn q_se_X1_passTurn q_in_X1 q_c_X1_passTurn
theorem g_X1_X1_keepByCertainty : GoodIn bw (wsV RX1 245 RX1 yX1_keepByCertainty ws_X1_keepByCertainty) := bw_V q_ml_X1_245 q_im_X1_keepByCertainty q_se_X1_keepByCertainty q_in_X1 q_c_X1_keepByCertainty
theorem g_X1_X1_noteOwnColours : GoodIn bw (wsV RX1 147 RX1 yX1_noteOwnColours ws_X1_noteOwnColours) := bw_V q_ml_X1_147 q_im_X1_noteOwnColours q_se_X1_noteOwnColours q_in_X1 q_c_X1_noteOwnColours
theorem g_X1_X1_viewOf : GoodIn bw (wsV RX1 236 RX1 yX1_viewOf ws_X1_viewOf) := bw_V q_ml_X1_236 q_im_X1_viewOf q_se_X1_viewOf q_in_X1 q_c_X1_viewOf
theorem g_X1_X1_setOwnColours : GoodIn bw (wsV RX1 239 RX1 yX1_setOwnColours ws_X1_setOwnColours) := bw_V q_ml_X1_239 q_im_X1_setOwnColours q_se_X1_setOwnColours q_in_X1 q_c_X1_setOwnColours
theorem g_X1_X1_ownColours : GoodIn bw (wsV RX1 242 RX1 yX1_ownColours ws_X1_ownColours) := bw_V q_ml_X1_242 q_im_X1_ownColours q_se_X1_ownColours q_in_X1 q_c_X1_ownColours
theorem g_X1_X1_wouldBeCertain : GoodIn bw (wsV RX1 154 RX1 yX1_wouldBeCertain ws_X1_wouldBeCertain) := bw_V q_ml_X1_154 q_im_X1_wouldBeCertain q_se_X1_wouldBeCertain q_in_X1 q_c_X1_wouldBeCertain
theorem g_X1_X1_keepWithHat : GoodIn bw (va_wsS RX1 171 yX1_keepWithHat ws_X1_keepWithHat) := bw_S q_ml_X1_171 q_st_X1_keepWithHat q_in_X1 q_c_X1_keepWithHat
theorem g_X1_X1_playerAfter : GoodIn bw (wsV RX1 112 RX1 yX1_playerAfter ws_X1_playerAfter) := bw_V q_ml_X1_112 q_im_X1_playerAfter q_se_X1_playerAfter q_in_X1 q_c_X1_playerAfter
theorem g_L_X1_bestToName : GoodIn bw (wsV RL 177 RX1 yX1_bestToName ws_X1_bestToName) := bw_V q_ml_L_177 q_im_X1_bestToName q_se_X1_bestToName q_in_X1 q_c_X1_bestToName
theorem g_X1_X1_countNaming : GoodIn bw (wsV RX1 168 RX1 yX1_countNaming ws_X1_countNaming) := bw_V q_ml_X1_168 q_im_X1_countNaming q_se_X1_countNaming q_in_X1 q_c_X1_countNaming
theorem g_X1_X1_hatsIn : GoodIn bw (wsV RX1 127 RX1 yX1_hatsIn ws_X1_hatsIn) := bw_V q_ml_X1_127 q_im_X1_hatsIn q_se_X1_hatsIn q_in_X1 q_c_X1_hatsIn
theorem g_L_X1_meanPossible : GoodIn bw (wsV RL 184 RX1 yX1_meanPossible ws_X1_meanPossible) := bw_V q_ml_L_184 q_im_X1_meanPossible q_se_X1_meanPossible q_in_X1 q_c_X1_meanPossible
theorem g_X1_X1_countPossible : GoodIn bw (wsV RX1 133 RX1 yX1_countPossible ws_X1_countPossible) := bw_V q_ml_X1_133 q_im_X1_countPossible q_se_X1_countPossible q_in_X1 q_c_X1_countPossible
theorem g_L_X1_digest : GoodIn bw (wsV RL 189 RX1 yX1_digest ws_X1_digest) := bw_V q_ml_L_189 q_im_X1_digest q_se_X1_digest q_in_X1 q_c_X1_digest
theorem g_X1_X1_players : GoodIn bw (wsV RX1 177 RX1 yX1_players ws_X1_players) := bw_V q_ml_X1_177 q_im_X1_players q_se_X1_players q_in_X1 q_c_X1_players
theorem g_X1_X1_digested : GoodIn bw (va_wsS RX1 180 yX1_digested ws_X1_digested) := bw_S q_ml_X1_180 q_st_X1_digested q_in_X1 q_c_X1_digested
theorem g_X1_X1_turnsTaken : GoodIn bw (wsV RX1 184 RX1 yX1_turnsTaken ws_X1_turnsTaken) := bw_V q_ml_X1_184 q_im_X1_turnsTaken q_se_X1_turnsTaken q_in_X1 q_c_X1_turnsTaken
theorem g_X1_X1_silentTurns : GoodIn bw (wsV RX1 187 RX1 yX1_silentTurns ws_X1_silentTurns) := bw_V q_ml_X1_187 q_im_X1_silentTurns q_se_X1_silentTurns q_in_X1 q_c_X1_silentTurns
theorem g_X1_X1_playerInTurn : GoodIn bw (wsV RX1 190 RX1 yX1_playerInTurn ws_X1_playerInTurn) := bw_V q_ml_X1_190 q_im_X1_playerInTurn q_se_X1_playerInTurn q_in_X1 q_c_X1_playerInTurn
theorem g_X1_X1_openWays : GoodIn bw (wsV RX1 193 RX1 yX1_openWays ws_X1_openWays) := bw_V q_ml_X1_193 q_im_X1_openWays q_se_X1_openWays q_in_X1 q_c_X1_openWays
theorem g_X1_X1_certainPlayers : GoodIn bw (wsV RX1 196 RX1 yX1_certainPlayers ws_X1_certainPlayers) := bw_V q_ml_X1_196 q_im_X1_certainPlayers q_se_X1_certainPlayers q_in_X1 q_c_X1_certainPlayers
theorem g_X1_X1_bestToName : GoodIn bw (wsV RX1 199 RX1 yX1_bestToName ws_X1_bestToName) := bw_V q_ml_X1_199 q_im_X1_bestToName q_se_X1_bestToName q_in_X1 q_c_X1_bestToName
theorem g_X1_X1_openAfterTurn : GoodIn bw (wsV RX1 202 RX1 yX1_openAfterTurn ws_X1_openAfterTurn) := bw_V q_ml_X1_202 q_im_X1_openAfterTurn q_se_X1_openAfterTurn q_in_X1 q_c_X1_openAfterTurn
theorem g_X1_X1_requireSomePlayer : GoodIn bw (wsV RX1 105 RX1 yX1_requireSomePlayer ws_X1_requireSomePlayer) := bw_V q_ml_X1_105 q_im_X1_requireSomePlayer q_se_X1_requireSomePlayer q_in_X1 q_c_X1_requireSomePlayer
theorem g_X1_X1_digestedPlayer : GoodIn bw (wsV RX1 205 RX1 yX1_digestedPlayer ws_X1_digestedPlayer) := bw_V q_ml_X1_205 q_im_X1_digestedPlayer q_se_X1_digestedPlayer q_in_X1 q_c_X1_digestedPlayer
theorem g_X1_X1_hatOf : GoodIn bw (wsV RX1 255 RX1 yX1_hatOf ws_X1_hatOf) := bw_V q_ml_X1_255 q_im_X1_hatOf q_se_X1_hatOf q_in_X1 q_c_X1_hatOf
theorem g_X1_X1_requirePlayer : GoodIn bw (wsV RX1 124 RX1 yX1_requirePlayer ws_X1_requirePlayer) := bw_V q_ml_X1_124 q_im_X1_requirePlayer q_se_X1_requirePlayer q_in_X1 q_c_X1_requirePlayer
theorem g_X1_X1_possibleWays : GoodIn bw (wsV RX1 258 RX1 yX1_possibleWays ws_X1_possibleWays) := bw_V q_ml_X1_258 q_im_X1_possibleWays q_se_X1_possibleWays q_in_X1 q_c_X1_possibleWays
theorem g_X1_X1_isCertain : GoodIn bw (wsV RX1 261 RX1 yX1_isCertain ws_X1_isCertain) := bw_V q_ml_X1_261 q_im_X1_isCertain q_se_X1_isCertain q_in_X1 q_c_X1_isCertain
theorem g_X1_X1_digested_ : GoodIn bw (va_wsS RX1 264 yX1_digested_ ws_X1_digested_) := bw_S q_ml_X1_264 q_st_X1_digested_ q_in_X1 q_c_X1_digested_
theorem g_X1_X1_isKnownToAll : GoodIn bw (wsV RX1 267 RX1 yX1_isKnownToAll ws_X1_isKnownToAll) := bw_V q_ml_X1_267 q_im_X1_isKnownToAll q_se_X1_isKnownToAll q_in_X1 q_c_X1_isKnownToAll
theorem g_X1_X1_countWithHat : GoodIn bw (wsV RX1 130 RX1 yX1_countWithHat ws_X1_countWithHat) := bw_V q_ml_X1_130 q_im_X1_countWithHat q_se_X1_countWithHat q_in_X1 q_c_X1_countWithHat
theorem g_X1_X1_certainIfTold : GoodIn bw (wsV RX1 270 RX1 yX1_certainIfTold ws_X1_certainIfTold) := bw_V q_ml_X1_270 q_im_X1_certainIfTold q_se_X1_certainIfTold q_in_X1 q_c_X1_certainIfTold
theorem g_X1_X1_sees : GoodIn bw (wsV RX1 273 RX1 yX1_sees ws_X1_sees) := bw_V q_ml_X1_273 q_im_X1_sees q_se_X1_sees q_in_X1 q_c_X1_sees
theorem g_X1_X1_seesHat : GoodIn bw (wsV RX1 83 RX1 yX1_seesHat ws_X1_seesHat) := bw_V q_ml_X1_83 q_im_X1_seesHat q_se_X1_seesHat q_in_X1 q_c_X1_seesHat
theorem g_X1_X1_hatMask : GoodIn bw (va_wsS RX1 77 yX1_hatMask ws_X1_hatMask) := bw_S q_ml_X1_77 q_st_X1_hatMask q_in_X1 q_c_X1_hatMask
theorem g_X1_X1_knowsHatOf : GoodIn bw (wsV RX1 276 RX1 yX1_knowsHatOf ws_X1_knowsHatOf) := bw_V q_ml_X1_276 q_im_X1_knowsHatOf q_se_X1_knowsHatOf q_in_X1 q_c_X1_knowsHatOf
theorem g_X1_X1_knowsCertain : GoodIn bw (wsV RX1 279 RX1 yX1_knowsCertain ws_X1_knowsCertain) := bw_V q_ml_X1_279 q_im_X1_knowsCertain q_se_X1_knowsCertain q_in_X1 q_c_X1_knowsCertain
theorem g_L_L_addPlayer : GoodIn bw (va_wsS RL 82 yL_addPlayer ws_L_addPlayer) := bw_S q_ml_L_82 q_st_L_addPlayer q_in_L q_c_L_addPlayer
theorem g_L_X1_addPlayer : GoodIn bw (wsV RL 7 RX1 yX1_addPlayer ws_X1_addPlayer) := bw_V q_ml_L_7 q_im_X1_addPlayer q_se_X1_addPlayer q_in_X1 q_c_X1_addPlayer
theorem g_X1_X1_requireColour : GoodIn bw (va_wsS RX1 50 yX1_requireColour ws_X1_requireColour) := bw_S q_ml_X1_50 q_st_X1_requireColour q_in_X1 q_c_X1_requireColour
theorem g_X1_X1_lookAtEachOther : GoodIn bw (wsV RX1 64 RX1 yX1_lookAtEachOther ws_X1_lookAtEachOther) := bw_V q_ml_X1_64 q_im_X1_lookAtEachOther q_se_X1_lookAtEachOther q_in_X1 q_c_X1_lookAtEachOther
theorem g_X1_X1_setSeenHatsOf : GoodIn bw (wsV RX1 80 RX1 yX1_setSeenHatsOf ws_X1_setSeenHatsOf) := bw_V q_ml_X1_80 q_im_X1_setSeenHatsOf q_se_X1_setSeenHatsOf q_in_X1 q_c_X1_setSeenHatsOf
theorem g_L_L_turnAway : GoodIn bw (va_wsS RL 91 yL_turnAway ws_L_turnAway) := bw_S q_ml_L_91 q_st_L_turnAway q_in_L q_c_L_turnAway
theorem g_L_X1_turnAway : GoodIn bw (wsV RL 17 RX1 yX1_turnAway ws_X1_turnAway) := bw_V q_ml_L_17 q_im_X1_turnAway q_se_X1_turnAway q_in_X1 q_c_X1_turnAway
theorem g_X1_X1_requireTwoPlayers : GoodIn bw (wsV RX1 70 RX1 yX1_requireTwoPlayers ws_X1_requireTwoPlayers) := bw_V q_ml_X1_70 q_im_X1_requireTwoPlayers q_se_X1_requireTwoPlayers q_in_X1 q_c_X1_requireTwoPlayers
theorem g_L_L_borrow : GoodIn bw (va_wsS RL 95 yL_borrow ws_L_borrow) := bw_S q_ml_L_95 q_st_L_borrow q_in_L q_c_L_borrow
theorem g_L_X1_borrow : GoodIn bw (wsV RL 23 RX1 yX1_borrow ws_X1_borrow) := bw_V q_ml_L_23 q_im_X1_borrow q_se_X1_borrow q_in_X1 q_c_X1_borrow
theorem g_X1_X1_exchanged : GoodIn bw (va_wsS RX1 87 yX1_exchanged ws_X1_exchanged) := bw_S q_ml_X1_87 q_st_X1_exchanged q_in_X1 q_c_X1_exchanged
theorem g_X1_X0_put : GoodIn bw (wsV RX1 98 RX0 yX0_put ws_X0_put) := bw_V q_ml_X1_98 q_im_X0_put q_se_X0_put q_in_X0 q_c_X0_put
theorem g_L_L_takeTurn : GoodIn bw (va_wsS RL 98 yL_takeTurn ws_L_takeTurn) := bw_S q_ml_L_98 q_st_L_takeTurn q_in_L q_c_L_takeTurn
theorem g_L_X1_takeTurn : GoodIn bw (wsV RL 27 RX1 yX1_takeTurn ws_X1_takeTurn) := bw_V q_ml_L_27 q_im_X1_takeTurn q_se_X1_takeTurn q_in_X1 q_c_X1_takeTurn
theorem g_L_L_sayAtLeast : GoodIn bw (va_wsS RL 102 yL_sayAtLeast ws_L_sayAtLeast) := bw_S q_ml_L_102 q_st_L_sayAtLeast q_in_L q_c_L_sayAtLeast
theorem g_L_X1_sayAtLeast : GoodIn bw (wsV RL 31 RX1 yX1_sayAtLeast ws_X1_sayAtLeast) := bw_V q_ml_L_31 q_im_X1_sayAtLeast q_se_X1_sayAtLeast q_in_X1 q_c_X1_sayAtLeast
theorem g_X1_X1_requireMany : GoodIn bw (va_wsS RX1 115 yX1_requireMany ws_X1_requireMany) := bw_S q_ml_X1_115 q_st_X1_requireMany q_in_X1 q_c_X1_requireMany
theorem g_X1_X1_sayBetween : GoodIn bw (wsV RX1 118 RX1 yX1_sayBetween ws_X1_sayBetween) := bw_V q_ml_X1_118 q_im_X1_sayBetween q_se_X1_sayBetween q_in_X1 q_c_X1_sayBetween
theorem g_X1_X1_keepWithHats : GoodIn bw (wsV RX1 227 RX1 yX1_keepWithHats ws_X1_keepWithHats) := bw_V q_ml_X1_227 q_im_X1_keepWithHats q_se_X1_keepWithHats q_in_X1 q_c_X1_keepWithHats
theorem g_L_L_sayAtMost : GoodIn bw (va_wsS RL 105 yL_sayAtMost ws_L_sayAtMost) := bw_S q_ml_L_105 q_st_L_sayAtMost q_in_L q_c_L_sayAtMost
theorem g_L_X1_sayAtMost : GoodIn bw (wsV RL 34 RX1 yX1_sayAtMost ws_X1_sayAtMost) := bw_V q_ml_L_34 q_im_X1_sayAtMost q_se_X1_sayAtMost q_in_X1 q_c_X1_sayAtMost
theorem g_L_L_hatOf : GoodIn bw (va_wsS RL 128 yL_hatOf ws_L_hatOf) := bw_S q_ml_L_128 q_st_L_hatOf q_in_L q_c_L_hatOf
theorem g_L_X1_hatOf : GoodIn bw (wsV RL 37 RX1 yX1_hatOf ws_X1_hatOf) := bw_V q_ml_L_37 q_im_X1_hatOf q_se_X1_hatOf q_in_X1 q_c_X1_hatOf
theorem g_L_L_sees : GoodIn bw (va_wsS RL 131 yL_sees ws_L_sees) := bw_S q_ml_L_131 q_st_L_sees q_in_L q_c_L_sees
theorem g_L_X1_sees : GoodIn bw (wsV RL 40 RX1 yX1_sees ws_X1_sees) := bw_V q_ml_L_40 q_im_X1_sees q_se_X1_sees q_in_X1 q_c_X1_sees
theorem g_L_L_hatsOf : GoodIn bw (va_wsS RL 134 yL_hatsOf ws_L_hatsOf) := bw_S q_ml_L_134 q_st_L_hatsOf q_in_L q_c_L_hatsOf
theorem g_L_X1_hatsOf : GoodIn bw (wsV RL 43 RX1 yX1_hatsOf ws_X1_hatsOf) := bw_V q_ml_L_43 q_im_X1_hatsOf q_se_X1_hatsOf q_in_X1 q_c_X1_hatsOf
theorem g_L_L_openWaysWith : GoodIn bw (va_wsS RL 141 yL_openWaysWith ws_L_openWaysWith) := bw_S q_ml_L_141 q_st_L_openWaysWith q_in_L q_c_L_openWaysWith
theorem g_L_X1_openWaysWith : GoodIn bw (wsV RL 46 RX1 yX1_openWaysWith ws_X1_openWaysWith) := bw_V q_ml_L_46 q_im_X1_openWaysWith q_se_X1_openWaysWith q_in_X1 q_c_X1_openWaysWith
theorem g_L_L_isKnownToAll : GoodIn bw (va_wsS RL 144 yL_isKnownToAll ws_L_isKnownToAll) := bw_S q_ml_L_144 q_st_L_isKnownToAll q_in_L q_c_L_isKnownToAll
theorem g_L_X1_isKnownToAll : GoodIn bw (wsV RL 49 RX1 yX1_isKnownToAll ws_X1_isKnownToAll) := bw_V q_ml_L_49 q_im_X1_isKnownToAll q_se_X1_isKnownToAll q_in_X1 q_c_X1_isKnownToAll
theorem g_L_L_possibleWays : GoodIn bw (va_wsS RL 147 yL_possibleWays ws_L_possibleWays) := bw_S q_ml_L_147 q_st_L_possibleWays q_in_L q_c_L_possibleWays
theorem g_L_X1_possibleWays : GoodIn bw (wsV RL 53 RX1 yX1_possibleWays ws_X1_possibleWays) := bw_V q_ml_L_53 q_im_X1_possibleWays q_se_X1_possibleWays q_in_X1 q_c_X1_possibleWays
theorem g_L_L_holdsPossible : GoodIn bw (va_wsS RL 150 yL_holdsPossible ws_L_holdsPossible) := bw_S q_ml_L_150 q_st_L_holdsPossible q_in_L q_c_L_holdsPossible
theorem g_L_X1_holdsPossible : GoodIn bw (wsV RL 56 RX1 yX1_holdsPossible ws_X1_holdsPossible) := bw_V q_ml_L_56 q_im_X1_holdsPossible q_se_X1_holdsPossible q_in_X1 q_c_X1_holdsPossible
theorem g_L_L_isCertain : GoodIn bw (va_wsS RL 154 yL_isCertain ws_L_isCertain) := bw_S q_ml_L_154 q_st_L_isCertain q_in_L q_c_L_isCertain
theorem g_L_X1_isCertain : GoodIn bw (wsV RL 60 RX1 yX1_isCertain ws_X1_isCertain) := bw_V q_ml_L_60 q_im_X1_isCertain q_se_X1_isCertain q_in_X1 q_c_X1_isCertain
theorem g_L_L_knowsHatOf : GoodIn bw (va_wsS RL 157 yL_knowsHatOf ws_L_knowsHatOf) := bw_S q_ml_L_157 q_st_L_knowsHatOf q_in_L q_c_L_knowsHatOf
theorem g_L_X1_knowsHatOf : GoodIn bw (wsV RL 63 RX1 yX1_knowsHatOf ws_X1_knowsHatOf) := bw_V q_ml_L_63 q_im_X1_knowsHatOf q_se_X1_knowsHatOf q_in_X1 q_c_X1_knowsHatOf
theorem g_L_L_knowsCertain : GoodIn bw (va_wsS RL 160 yL_knowsCertain ws_L_knowsCertain) := bw_S q_ml_L_160 q_st_L_knowsCertain q_in_L q_c_L_knowsCertain
theorem g_L_X1_knowsCertain : GoodIn bw (wsV RL 66 RX1 yX1_knowsCertain ws_X1_knowsCertain) := bw_V q_ml_L_66 q_im_X1_knowsCertain q_se_X1_knowsCertain q_in_X1 q_c_X1_knowsCertain
theorem g_L_L_openAfterTurn : GoodIn bw (va_wsS RL 167 yL_openAfterTurn ws_L_openAfterTurn) := bw_S q_ml_L_167 q_st_L_openAfterTurn q_in_L q_c_L_openAfterTurn
theorem g_L_X1_openAfterTurn : GoodIn bw (wsV RL 69 RX1 yX1_openAfterTurn ws_X1_openAfterTurn) := bw_V q_ml_L_69 q_im_X1_openAfterTurn q_se_X1_openAfterTurn q_in_X1 q_c_X1_openAfterTurn
theorem g_L_L_turnsUntilCertain : GoodIn bw (va_wsS RL 170 yL_turnsUntilCertain ws_L_turnsUntilCertain) := bw_S q_ml_L_170 q_st_L_turnsUntilCertain q_in_L q_c_L_turnsUntilCertain
theorem g_L_X1_turnsUntilCertain : GoodIn bw (wsV RL 72 RX1 yX1_turnsUntilCertain ws_X1_turnsUntilCertain) := bw_V q_ml_L_72 q_im_X1_turnsUntilCertain q_se_X1_turnsUntilCertain q_in_X1 q_c_X1_turnsUntilCertain
theorem g_L_L_certainIfTold : GoodIn bw (va_wsS RL 181 yL_certainIfTold ws_L_certainIfTold) := bw_S q_ml_L_181 q_st_L_certainIfTold q_in_L q_c_L_certainIfTold
theorem g_L_X1_certainIfTold : GoodIn bw (wsV RL 75 RX1 yX1_certainIfTold ws_X1_certainIfTold) := bw_V q_ml_L_75 q_im_X1_certainIfTold q_se_X1_certainIfTold q_in_X1 q_c_X1_certainIfTold
theorem g_L_X2_thrown : GoodIn bw (wsV RL 88 RX2 yX2_thrown ws_X2_thrown) := bw_V q_ml_L_88 q_im_X2_thrown q_se_X2_thrown q_in_X2 q_c_X2_thrown
theorem g_L_X2_addPlayer : GoodIn bw (wsV RL 87 RX2 yX2_addPlayer ws_X2_addPlayer) := bw_V q_ml_L_87 q_im_X2_addPlayer q_se_X2_addPlayer q_in_X2 q_c_X2_addPlayer
theorem g_X2_X2_isColour : GoodIn bw (va_wsS RX2 85 yX2_isColour ws_X2_isColour) := bw_S q_ml_X2_85 q_st_X2_isColour q_in_X2 q_c_X2_isColour
theorem g_X2_X2_isIn : GoodIn bw (va_wsS RX2 36 yX2_isIn ws_X2_isIn) := bw_S q_ml_X2_36 q_st_X2_isIn q_in_X2 q_c_X2_isIn
theorem g_X2_X2_fail : GoodIn bw (wsV RX2 88 RX2 yX2_fail ws_X2_fail) := bw_V q_ml_X2_88 q_im_X2_fail q_se_X2_fail q_in_X2 q_c_X2_fail
theorem g_X2_X2_openAll : GoodIn bw (wsV RX2 96 RX2 yX2_openAll ws_X2_openAll) := bw_V q_ml_X2_96 q_im_X2_openAll q_se_X2_openAll q_in_X2 q_c_X2_openAll
theorem g_X2_X2_ways : GoodIn bw (wsV RX2 53 RX2 yX2_ways ws_X2_ways) := bw_V q_ml_X2_53 q_im_X2_ways q_se_X2_ways q_in_X2 q_c_X2_ways
theorem g_L_X2_turnAway : GoodIn bw (wsV RL 94 RX2 yX2_turnAway ws_X2_turnAway) := bw_V q_ml_L_94 q_im_X2_turnAway q_se_X2_turnAway q_in_X2 q_c_X2_turnAway
theorem g_X2_X2_areTwo : GoodIn bw (wsV RX2 102 RX2 yX2_areTwo ws_X2_areTwo) := bw_V q_ml_X2_102 q_im_X2_areTwo q_se_X2_areTwo q_in_X2 q_c_X2_areTwo
theorem g_X2_X2_isPlayer : GoodIn bw (wsV RX2 99 RX2 yX2_isPlayer ws_X2_isPlayer) := bw_V q_ml_X2_99 q_im_X2_isPlayer q_se_X2_isPlayer q_in_X2 q_c_X2_isPlayer
theorem g_X2_X2_sees : GoodIn bw (wsV RX2 43 RX2 yX2_sees ws_X2_sees) := bw_V q_ml_X2_43 q_im_X2_sees q_se_X2_sees q_in_X2 q_c_X2_sees
theorem g_L_X2_borrow : GoodIn bw (wsV RL 97 RX2 yX2_borrow ws_X2_borrow) := bw_V q_ml_L_97 q_im_X2_borrow q_se_X2_borrow q_in_X2 q_c_X2_borrow
theorem g_X2_X2_colour : GoodIn bw (va_wsS RX2 46 yX2_colour ws_X2_colour) := bw_S q_ml_X2_46 q_st_X2_colour q_in_X2 q_c_X2_colour
theorem g_X2_X2_take : GoodIn bw (wsV RX2 76 RX2 yX2_take ws_X2_take) := bw_V q_ml_X2_76 q_im_X2_take q_se_X2_take q_in_X2 q_c_X2_take
theorem g_L_X2_takeTurn : GoodIn bw (wsV RL 101 RX2 yX2_takeTurn ws_X2_takeTurn) := bw_V q_ml_L_101 q_im_X2_takeTurn q_se_X2_takeTurn q_in_X2 q_c_X2_takeTurn
theorem g_X2_X2_whose : GoodIn bw (wsV RX2 108 RX2 yX2_whose ws_X2_whose) := bw_V q_ml_X2_108 q_im_X2_whose q_se_X2_whose q_in_X2 q_c_X2_whose
theorem g_X2_X2_real : GoodIn bw (wsV RX2 61 RX2 yX2_real ws_X2_real) := bw_V q_ml_X2_61 q_im_X2_real q_se_X2_real q_in_X2 q_c_X2_real
theorem g_X2_X2_turn : GoodIn bw (wsV RX2 111 RX2 yX2_turn ws_X2_turn) := bw_V q_ml_X2_111 q_im_X2_turn q_se_X2_turn q_in_X2 q_c_X2_turn
theorem g_X2_X2_look : GoodIn bw (wsV RX2 68 RX2 yX2_look ws_X2_look) := bw_V q_ml_X2_68 q_im_X2_look q_se_X2_look q_in_X2 q_c_X2_look
theorem g_X2_X2_view : GoodIn bw (wsV RX2 50 RX2 yX2_view ws_X2_view) := bw_V q_ml_X2_50 q_im_X2_view q_se_X2_view q_in_X2 q_c_X2_view
theorem g_X2_X2_certain : GoodIn bw (wsV RX2 72 RX2 yX2_certain ws_X2_certain) := bw_V q_ml_X2_72 q_im_X2_certain q_se_X2_certain q_in_X2 q_c_X2_certain
theorem g_X2_X2_isOne : GoodIn bw (va_wsS RX2 57 yX2_isOne ws_X2_isOne) := bw_S q_ml_X2_57 q_st_X2_isOne q_in_X2 q_c_X2_isOne
theorem g_L_X2_sayAtLeast : GoodIn bw (wsV RL 104 RX2 yX2_sayAtLeast ws_X2_sayAtLeast) := bw_V q_ml_L_104 q_im_X2_sayAtLeast q_se_X2_sayAtLeast q_in_X2 q_c_X2_sayAtLeast
theorem g_X2_X2_say : GoodIn bw (wsV RX2 127 RX2 yX2_say ws_X2_say) := bw_V q_ml_X2_127 q_im_X2_say q_se_X2_say q_in_X2 q_c_X2_say
theorem g_X2_X2_is : GoodIn bw (wsV RX2 117 RX2 yX2_is ws_X2_is) := bw_V q_ml_X2_117 q_im_X2_is q_se_X2_is q_in_X2 q_c_X2_is
theorem g_X2_X2_have : GoodIn bw (wsV RX2 124 RX2 yX2_have ws_X2_have) := bw_V q_ml_X2_124 q_im_X2_have q_se_X2_have q_in_X2 q_c_X2_have
theorem g_X2_X2_openNow : GoodIn bw (wsV RX2 121 RX2 yX2_openNow ws_X2_openNow) := bw_V q_ml_X2_121 q_im_X2_openNow q_se_X2_openNow q_in_X2 q_c_X2_openNow
theorem g_L_X2_sayAtMost : GoodIn bw (wsV RL 107 RX2 yX2_sayAtMost ws_X2_sayAtMost) := bw_V q_ml_L_107 q_im_X2_sayAtMost q_se_X2_sayAtMost q_in_X2 q_c_X2_sayAtMost
theorem g_L_X2_begin : GoodIn bw (wsV RL 111 RX2 yX2_begin ws_X2_begin) := bw_V q_ml_L_111 q_im_X2_begin q_se_X2_begin q_in_X2 q_c_X2_begin
theorem g_L_X2_players : GoodIn bw (wsV RL 115 RX2 yX2_players ws_X2_players) := bw_V q_ml_L_115 q_im_X2_players q_se_X2_players q_in_X2 q_c_X2_players
theorem g_X2_X2_told : GoodIn bw (wsV RX2 131 RX2 yX2_told ws_X2_told) := bw_V q_ml_X2_131 q_im_X2_told q_se_X2_told q_in_X2 q_c_X2_told
theorem g_L_X2_turnsTaken : GoodIn bw (wsV RL 119 RX2 yX2_turnsTaken ws_X2_turnsTaken) := bw_V q_ml_L_119 q_im_X2_turnsTaken q_se_X2_turnsTaken q_in_X2 q_c_X2_turnsTaken
theorem g_L_X2_silentTurns : GoodIn bw (wsV RL 123 RX2 yX2_silentTurns ws_X2_silentTurns) := bw_V q_ml_L_123 q_im_X2_silentTurns q_se_X2_silentTurns q_in_X2 q_c_X2_silentTurns
theorem g_L_X2_playerInTurn : GoodIn bw (wsV RL 127 RX2 yX2_playerInTurn ws_X2_playerInTurn) := bw_V q_ml_L_127 q_im_X2_playerInTurn q_se_X2_playerInTurn q_in_X2 q_c_X2_playerInTurn
theorem g_L_X2_hatOf : GoodIn bw (wsV RL 130 RX2 yX2_hatOf ws_X2_hatOf) := bw_V q_ml_L_130 q_im_X2_hatOf q_se_X2_hatOf q_in_X2 q_c_X2_hatOf
theorem g_L_X2_sees_ : GoodIn bw (wsV RL 133 RX2 yX2_sees_ ws_X2_sees_) := bw_V q_ml_L_133 q_im_X2_sees_ q_se_X2_sees_ q_in_X2 q_c_X2_sees_
theorem g_L_X2_hatsOf : GoodIn bw (wsV RL 136 RX2 yX2_hatsOf ws_X2_hatsOf) := bw_V q_ml_L_136 q_im_X2_hatsOf q_se_X2_hatsOf q_in_X2 q_c_X2_hatsOf
theorem g_L_X2_openWays : GoodIn bw (wsV RL 140 RX2 yX2_openWays ws_X2_openWays) := bw_V q_ml_L_140 q_im_X2_openWays q_se_X2_openWays q_in_X2 q_c_X2_openWays
theorem g_L_X2_openWaysWith : GoodIn bw (wsV RL 143 RX2 yX2_openWaysWith ws_X2_openWaysWith) := bw_V q_ml_L_143 q_im_X2_openWaysWith q_se_X2_openWaysWith q_in_X2 q_c_X2_openWaysWith
theorem g_X2_X2_openWith : GoodIn bw (wsV RX2 134 RX2 yX2_openWith ws_X2_openWith) := bw_V q_ml_X2_134 q_im_X2_openWith q_se_X2_openWith q_in_X2 q_c_X2_openWith
theorem g_L_X2_isKnownToAll : GoodIn bw (wsV RL 146 RX2 yX2_isKnownToAll ws_X2_isKnownToAll) := bw_V q_ml_L_146 q_im_X2_isKnownToAll q_se_X2_isKnownToAll q_in_X2 q_c_X2_isKnownToAll
theorem g_X2_X2_known : GoodIn bw (wsV RX2 137 RX2 yX2_known ws_X2_known) := bw_V q_ml_X2_137 q_im_X2_known q_se_X2_known q_in_X2 q_c_X2_known
theorem g_L_X2_possibleWays : GoodIn bw (wsV RL 149 RX2 yX2_possibleWays ws_X2_possibleWays) := bw_V q_ml_L_149 q_im_X2_possibleWays q_se_X2_possibleWays q_in_X2 q_c_X2_possibleWays
theorem g_X2_X2_possible : GoodIn bw (wsV RX2 140 RX2 yX2_possible ws_X2_possible) := bw_V q_ml_X2_140 q_im_X2_possible q_se_X2_possible q_in_X2 q_c_X2_possible
theorem g_L_X2_holdsPossible : GoodIn bw (wsV RL 153 RX2 yX2_holdsPossible ws_X2_holdsPossible) := bw_V q_ml_L_153 q_im_X2_holdsPossible q_se_X2_holdsPossible q_in_X2 q_c_X2_holdsPossible
theorem g_X2_X2_colours : GoodIn bw (wsV RX2 64 RX2 yX2_colours ws_X2_colours) := bw_V q_ml_X2_64 q_im_X2_colours q_se_X2_colours q_in_X2 q_c_X2_colours
theorem g_L_X2_isCertain : GoodIn bw (wsV RL 156 RX2 yX2_isCertain ws_X2_isCertain) := bw_V q_ml_L_156 q_im_X2_isCertain q_se_X2_isCertain q_in_X2 q_c_X2_isCertain
theorem g_X2_X2_certainNow : GoodIn bw (wsV RX2 143 RX2 yX2_certainNow ws_X2_certainNow) := bw_V q_ml_X2_143 q_im_X2_certainNow q_se_X2_certainNow q_in_X2 q_c_X2_certainNow
theorem g_L_X2_knowsHatOf : GoodIn bw (wsV RL 159 RX2 yX2_knowsHatOf ws_X2_knowsHatOf) := bw_V q_ml_L_159 q_im_X2_knowsHatOf q_se_X2_knowsHatOf q_in_X2 q_c_X2_knowsHatOf
theorem g_X2_X2_knows : GoodIn bw (wsV RX2 146 RX2 yX2_knows ws_X2_knows) := bw_V q_ml_X2_146 q_im_X2_knows q_se_X2_knows q_in_X2 q_c_X2_knows
theorem g_L_X2_knowsCertain : GoodIn bw (wsV RL 162 RX2 yX2_knowsCertain ws_X2_knowsCertain) := bw_V q_ml_L_162 q_im_X2_knowsCertain q_se_X2_knowsCertain q_in_X2 q_c_X2_knowsCertain
theorem g_X2_X2_sure : GoodIn bw (wsV RX2 149 RX2 yX2_sure ws_X2_sure) := bw_V q_ml_X2_149 q_im_X2_sure q_se_X2_sure q_in_X2 q_c_X2_sure
theorem g_L_X2_certainPlayers : GoodIn bw (wsV RL 166 RX2 yX2_certainPlayers ws_X2_certainPlayers) := bw_V q_ml_L_166 q_im_X2_certainPlayers q_se_X2_certainPlayers q_in_X2 q_c_X2_certainPlayers
theorem g_X2_X2_many : GoodIn bw (wsV RX2 152 RX2 yX2_many ws_X2_many) := bw_V q_ml_X2_152 q_im_X2_many q_se_X2_many q_in_X2 q_c_X2_many
theorem g_L_X2_openAfterTurn : GoodIn bw (wsV RL 169 RX2 yX2_openAfterTurn ws_X2_openAfterTurn) := bw_V q_ml_L_169 q_im_X2_openAfterTurn q_se_X2_openAfterTurn q_in_X2 q_c_X2_openAfterTurn
theorem g_X2_X2_after : GoodIn bw (wsV RX2 161 RX2 yX2_after ws_X2_after) := bw_V q_ml_X2_161 q_im_X2_after q_se_X2_after q_in_X2 q_c_X2_after
theorem g_X2_X2_keep : GoodIn bw (wsV RX2 155 RX2 yX2_keep ws_X2_keep) := bw_V q_ml_X2_155 q_im_X2_keep q_se_X2_keep q_in_X2 q_c_X2_keep
theorem g_X2_X2_bringBack : GoodIn bw (wsV RX2 158 RX2 yX2_bringBack ws_X2_bringBack) := bw_V q_ml_X2_158 q_im_X2_bringBack q_se_X2_bringBack q_in_X2 q_c_X2_bringBack
theorem g_L_X2_turnsUntilCertain : GoodIn bw (wsV RL 172 RX2 yX2_turnsUntilCertain ws_X2_turnsUntilCertain) := bw_V q_ml_L_172 q_im_X2_turnsUntilCertain q_se_X2_turnsUntilCertain q_in_X2 q_c_X2_turnsUntilCertain
theorem g_X2_X2_until : GoodIn bw (wsV RX2 164 RX2 yX2_until ws_X2_until) := bw_V q_ml_X2_164 q_im_X2_until q_se_X2_until q_in_X2 q_c_X2_until
theorem g_L_X2_turnsUntilAllCertain : GoodIn bw (wsV RL 176 RX2 yX2_turnsUntilAllCertain ws_X2_turnsUntilAllCertain) := bw_V q_ml_L_176 q_im_X2_turnsUntilAllCertain q_se_X2_turnsUntilAllCertain q_in_X2 q_c_X2_turnsUntilAllCertain
theorem g_L_X2_bestToName : GoodIn bw (wsV RL 180 RX2 yX2_bestToName ws_X2_bestToName) := bw_V q_ml_L_180 q_im_X2_bestToName q_se_X2_bestToName q_in_X2 q_c_X2_bestToName
theorem g_X2_X2_best : GoodIn bw (wsV RX2 167 RX2 yX2_best ws_X2_best) := bw_V q_ml_X2_167 q_im_X2_best q_se_X2_best q_in_X2 q_c_X2_best
theorem g_L_X2_certainIfTold : GoodIn bw (wsV RL 183 RX2 yX2_certainIfTold ws_X2_certainIfTold) := bw_V q_ml_L_183 q_im_X2_certainIfTold q_se_X2_certainIfTold q_in_X2 q_c_X2_certainIfTold
theorem g_X2_X2_ifTold : GoodIn bw (wsV RX2 170 RX2 yX2_ifTold ws_X2_ifTold) := bw_V q_ml_X2_170 q_im_X2_ifTold q_se_X2_ifTold q_in_X2 q_c_X2_ifTold
theorem g_L_X2_meanPossible : GoodIn bw (wsV RL 188 RX2 yX2_meanPossible ws_X2_meanPossible) := bw_V q_ml_L_188 q_im_X2_meanPossible q_se_X2_meanPossible q_in_X2 q_c_X2_meanPossible
theorem g_L_X2_digest : GoodIn bw (wsV RL 193 RX2 yX2_digest ws_X2_digest) := bw_V q_ml_L_193 q_im_X2_digest q_se_X2_digest q_in_X2 q_c_X2_digest
end
section
theorem dX0_init_0 : decode cX0_init 0 = .ok (.aload_n 0, 1) := by decide +kernel
theorem dX0_init_1 : decode cX0_init 1 = .ok (.invokespecial 3, 3) := by decide +kernel
theorem dX0_init_4 : decode cX0_init 4 = .ok (.aload_n 0, 1) := by decide +kernel
theorem dX0_init_5 : decode cX0_init 5 = .ok (.sipush 243, 3) := by decide +kernel
theorem dX0_init_8 : decode cX0_init 8 = .ok (.newarray .int, 2) := by decide +kernel
theorem dX0_init_10 : decode cX0_init 10 = .ok (.putfield 9, 3) := by decide +kernel
theorem dX0_init_13 : decode cX0_init 13 = .ok (.aload_n 0, 1) := by decide +kernel
theorem dX0_init_14 : decode cX0_init 14 = .ok (.iconst 0, 1) := by decide +kernel
theorem dX0_init_15 : decode cX0_init 15 = .ok (.putfield 15, 3) := by decide +kernel
theorem dX0_init_18 : decode cX0_init 18 = .ok (.return_, 1) := by decide +kernel
theorem dX0_count_0 : decode cX0_count 0 = .ok (.aload_n 0, 1) := by decide +kernel
theorem dX0_count_1 : decode cX0_count 1 = .ok (.getfield 15, 3) := by decide +kernel
theorem dX0_count_4 : decode cX0_count 4 = .ok (.ireturn, 1) := by decide +kernel
theorem dX0_at_0 : decode cX0_at 0 = .ok (.iload_n 1, 1) := by decide +kernel
theorem dX0_at_1 : decode cX0_at 1 = .ok (.ifCond .lt 21, 3) := by decide +kernel
theorem dX0_at_4 : decode cX0_at 4 = .ok (.iload_n 1, 1) := by decide +kernel
theorem dX0_at_5 : decode cX0_at 5 = .ok (.aload_n 0, 1) := by decide +kernel
theorem dX0_at_6 : decode cX0_at 6 = .ok (.getfield 9, 3) := by decide +kernel
theorem dX0_at_9 : decode cX0_at 9 = .ok (.arraylength, 1) := by decide +kernel
theorem dX0_at_10 : decode cX0_at 10 = .ok (.if_icmp .ge 12, 3) := by decide +kernel
theorem dX0_at_13 : decode cX0_at 13 = .ok (.aload_n 0, 1) := by decide +kernel
theorem dX0_at_14 : decode cX0_at 14 = .ok (.getfield 9, 3) := by decide +kernel
theorem dX0_at_17 : decode cX0_at 17 = .ok (.iload_n 1, 1) := by decide +kernel
theorem dX0_at_18 : decode cX0_at 18 = .ok (.iaload, 1) := by decide +kernel
theorem dX0_at_19 : decode cX0_at 19 = .ok (.goto 4, 3) := by decide +kernel
theorem dX0_at_22 : decode cX0_at 22 = .ok (.iconst 0, 1) := by decide +kernel
theorem dX0_at_23 : decode cX0_at 23 = .ok (.ireturn, 1) := by decide +kernel
theorem dX0_add_0 : decode cX0_add 0 = .ok (.aload_n 0, 1) := by decide +kernel
theorem dX0_add_1 : decode cX0_add 1 = .ok (.getfield 15, 3) := by decide +kernel
theorem dX0_add_4 : decode cX0_add 4 = .ok (.ifCond .lt 35, 3) := by decide +kernel
theorem dX0_add_7 : decode cX0_add 7 = .ok (.aload_n 0, 1) := by decide +kernel
theorem dX0_add_8 : decode cX0_add 8 = .ok (.getfield 15, 3) := by decide +kernel
theorem dX0_add_11 : decode cX0_add 11 = .ok (.aload_n 0, 1) := by decide +kernel
theorem dX0_add_12 : decode cX0_add 12 = .ok (.getfield 9, 3) := by decide +kernel
theorem dX0_add_15 : decode cX0_add 15 = .ok (.arraylength, 1) := by decide +kernel
theorem dX0_add_16 : decode cX0_add 16 = .ok (.if_icmp .ge 23, 3) := by decide +kernel
theorem dX0_add_19 : decode cX0_add 19 = .ok (.aload_n 0, 1) := by decide +kernel
theorem dX0_add_20 : decode cX0_add 20 = .ok (.getfield 9, 3) := by decide +kernel
theorem dX0_add_23 : decode cX0_add 23 = .ok (.aload_n 0, 1) := by decide +kernel
theorem dX0_add_24 : decode cX0_add 24 = .ok (.getfield 15, 3) := by decide +kernel
theorem dX0_add_27 : decode cX0_add 27 = .ok (.iload_n 1, 1) := by decide +kernel
theorem dX0_add_28 : decode cX0_add 28 = .ok (.iastore, 1) := by decide +kernel
theorem dX0_add_29 : decode cX0_add 29 = .ok (.aload_n 0, 1) := by decide +kernel
theorem dX0_add_30 : decode cX0_add 30 = .ok (.dup, 1) := by decide +kernel
theorem dX0_add_31 : decode cX0_add 31 = .ok (.getfield 15, 3) := by decide +kernel
theorem dX0_add_34 : decode cX0_add 34 = .ok (.iconst 1, 1) := by decide +kernel
theorem dX0_add_35 : decode cX0_add 35 = .ok (.iadd, 1) := by decide +kernel
theorem dX0_add_36 : decode cX0_add 36 = .ok (.putfield 15, 3) := by decide +kernel
theorem dX0_add_39 : decode cX0_add 39 = .ok (.return_, 1) := by decide +kernel
theorem dX0_clear_0 : decode cX0_clear 0 = .ok (.aload_n 0, 1) := by decide +kernel
theorem dX0_clear_1 : decode cX0_clear 1 = .ok (.iconst 0, 1) := by decide +kernel
theorem dX0_clear_2 : decode cX0_clear 2 = .ok (.putfield 15, 3) := by decide +kernel
theorem dX0_clear_5 : decode cX0_clear 5 = .ok (.return_, 1) := by decide +kernel
theorem dX0_put_0 : decode cX0_put 0 = .ok (.iload_n 1, 1) := by decide +kernel
theorem dX0_put_1 : decode cX0_put 1 = .ok (.ifCond .lt 19, 3) := by decide +kernel
theorem dX0_put_4 : decode cX0_put 4 = .ok (.iload_n 1, 1) := by decide +kernel
theorem dX0_put_5 : decode cX0_put 5 = .ok (.aload_n 0, 1) := by decide +kernel
theorem dX0_put_6 : decode cX0_put 6 = .ok (.getfield 9, 3) := by decide +kernel
theorem dX0_put_9 : decode cX0_put 9 = .ok (.arraylength, 1) := by decide +kernel
theorem dX0_put_10 : decode cX0_put 10 = .ok (.if_icmp .ge 10, 3) := by decide +kernel
theorem dX0_put_13 : decode cX0_put 13 = .ok (.aload_n 0, 1) := by decide +kernel
theorem dX0_put_14 : decode cX0_put 14 = .ok (.getfield 9, 3) := by decide +kernel
theorem dX0_put_17 : decode cX0_put 17 = .ok (.iload_n 1, 1) := by decide +kernel
theorem dX0_put_18 : decode cX0_put 18 = .ok (.iload_n 2, 1) := by decide +kernel
theorem dX0_put_19 : decode cX0_put 19 = .ok (.iastore, 1) := by decide +kernel
theorem dX0_put_20 : decode cX0_put 20 = .ok (.return_, 1) := by decide +kernel
theorem dX0_copyFrom_0 : decode cX0_copyFrom 0 = .ok (.aload_n 0, 1) := by decide +kernel
theorem dX0_copyFrom_1 : decode cX0_copyFrom 1 = .ok (.invokevirtual 19, 3) := by decide +kernel
theorem dX0_copyFrom_4 : decode cX0_copyFrom 4 = .ok (.iconst 0, 1) := by decide +kernel
theorem dX0_copyFrom_5 : decode cX0_copyFrom 5 = .ok (.istore_n 2, 1) := by decide +kernel
theorem dX0_copyFrom_6 : decode cX0_copyFrom 6 = .ok (.iload_n 2, 1) := by decide +kernel
theorem dX0_copyFrom_7 : decode cX0_copyFrom 7 = .ok (.aload_n 1, 1) := by decide +kernel
theorem dX0_copyFrom_8 : decode cX0_copyFrom 8 = .ok (.invokevirtual 22, 3) := by decide +kernel
theorem dX0_copyFrom_11 : decode cX0_copyFrom 11 = .ok (.if_icmp .ge 18, 3) := by decide +kernel
theorem dX0_copyFrom_14 : decode cX0_copyFrom 14 = .ok (.aload_n 0, 1) := by decide +kernel
theorem dX0_copyFrom_15 : decode cX0_copyFrom 15 = .ok (.aload_n 1, 1) := by decide +kernel
theorem dX0_copyFrom_16 : decode cX0_copyFrom 16 = .ok (.iload_n 2, 1) := by decide +kernel
theorem dX0_copyFrom_17 : decode cX0_copyFrom 17 = .ok (.invokevirtual 25, 3) := by decide +kernel
theorem dX0_copyFrom_20 : decode cX0_copyFrom 20 = .ok (.invokevirtual 29, 3) := by decide +kernel
theorem dX0_copyFrom_23 : decode cX0_copyFrom 23 = .ok (.iinc 2 1, 3) := by decide +kernel
theorem dX0_copyFrom_26 : decode cX0_copyFrom 26 = .ok (.goto (-20), 3) := by decide +kernel
theorem dX0_copyFrom_29 : decode cX0_copyFrom 29 = .ok (.return_, 1) := by decide +kernel
theorem dX1_init_0 : decode cX1_init 0 = .ok (.aload_n 0, 1) := by decide +kernel
theorem dX1_init_1 : decode cX1_init 1 = .ok (.invokespecial 1, 3) := by decide +kernel
theorem dX1_init_4 : decode cX1_init 4 = .ok (.aload_n 0, 1) := by decide +kernel
theorem dX1_init_5 : decode cX1_init 5 = .ok (.new 7, 3) := by decide +kernel
theorem dX1_init_8 : decode cX1_init 8 = .ok (.dup, 1) := by decide +kernel
theorem dX1_init_9 : decode cX1_init 9 = .ok (.invokespecial 9, 3) := by decide +kernel
theorem dX1_init_12 : decode cX1_init 12 = .ok (.putfield 10, 3) := by decide +kernel
theorem dX1_init_15 : decode cX1_init 15 = .ok (.aload_n 0, 1) := by decide +kernel
theorem dX1_init_16 : decode cX1_init 16 = .ok (.new 7, 3) := by decide +kernel
theorem dX1_init_19 : decode cX1_init 19 = .ok (.dup, 1) := by decide +kernel
theorem dX1_init_20 : decode cX1_init 20 = .ok (.invokespecial 9, 3) := by decide +kernel
theorem dX1_init_23 : decode cX1_init 23 = .ok (.putfield 16, 3) := by decide +kernel
theorem dX1_init_26 : decode cX1_init 26 = .ok (.aload_n 0, 1) := by decide +kernel
theorem dX1_init_27 : decode cX1_init 27 = .ok (.iconst 5, 1) := by decide +kernel
theorem dX1_init_28 : decode cX1_init 28 = .ok (.newarray .int, 2) := by decide +kernel
theorem dX1_init_30 : decode cX1_init 30 = .ok (.putfield 19, 3) := by decide +kernel
theorem dX1_init_33 : decode cX1_init 33 = .ok (.aload_n 0, 1) := by decide +kernel
theorem dX1_init_34 : decode cX1_init 34 = .ok (.sipush 1024, 3) := by decide +kernel
theorem dX1_init_37 : decode cX1_init 37 = .ok (.newarray .int, 2) := by decide +kernel
theorem dX1_init_39 : decode cX1_init 39 = .ok (.putfield 23, 3) := by decide +kernel
theorem dX1_init_42 : decode cX1_init 42 = .ok (.aload_n 0, 1) := by decide +kernel
theorem dX1_init_43 : decode cX1_init 43 = .ok (.iconst 0, 1) := by decide +kernel
theorem dX1_init_44 : decode cX1_init 44 = .ok (.putfield 26, 3) := by decide +kernel
theorem dX1_init_47 : decode cX1_init 47 = .ok (.aload_n 0, 1) := by decide +kernel
theorem dX1_init_48 : decode cX1_init 48 = .ok (.iconst 0, 1) := by decide +kernel
theorem dX1_init_49 : decode cX1_init 49 = .ok (.putfield 30, 3) := by decide +kernel
theorem dX1_init_52 : decode cX1_init 52 = .ok (.aload_n 0, 1) := by decide +kernel
theorem dX1_init_53 : decode cX1_init 53 = .ok (.iconst 0, 1) := by decide +kernel
theorem dX1_init_54 : decode cX1_init 54 = .ok (.putfield 33, 3) := by decide +kernel
theorem dX1_init_57 : decode cX1_init 57 = .ok (.aload_n 0, 1) := by decide +kernel
theorem dX1_init_58 : decode cX1_init 58 = .ok (.iconst 0, 1) := by decide +kernel
theorem dX1_init_59 : decode cX1_init 59 = .ok (.putfield 36, 3) := by decide +kernel
theorem dX1_init_62 : decode cX1_init 62 = .ok (.aload_n 0, 1) := by decide +kernel
theorem dX1_init_63 : decode cX1_init 63 = .ok (.iconst 0, 1) := by decide +kernel
theorem dX1_init_64 : decode cX1_init 64 = .ok (.putfield 39, 3) := by decide +kernel
theorem dX1_init_67 : decode cX1_init 67 = .ok (.aload_n 0, 1) := by decide +kernel
theorem dX1_init_68 : decode cX1_init 68 = .ok (.iconst 0, 1) := by decide +kernel
theorem dX1_init_69 : decode cX1_init 69 = .ok (.putfield 42, 3) := by decide +kernel
theorem dX1_init_72 : decode cX1_init 72 = .ok (.aload_n 0, 1) := by decide +kernel
theorem dX1_init_73 : decode cX1_init 73 = .ok (.getfield 10, 3) := by decide +kernel
theorem dX1_init_76 : decode cX1_init 76 = .ok (.iconst 0, 1) := by decide +kernel
theorem dX1_init_77 : decode cX1_init 77 = .ok (.invokevirtual 46, 3) := by decide +kernel
theorem dX1_init_80 : decode cX1_init 80 = .ok (.return_, 1) := by decide +kernel
theorem dX1_addPlayer_0 : decode cX1_addPlayer 0 = .ok (.iload_n 1, 1) := by decide +kernel
theorem dX1_addPlayer_1 : decode cX1_addPlayer 1 = .ok (.invokestatic 50, 3) := by decide +kernel
theorem dX1_addPlayer_4 : decode cX1_addPlayer 4 = .ok (.aload_n 0, 1) := by decide +kernel
theorem dX1_addPlayer_5 : decode cX1_addPlayer 5 = .ok (.getfield 26, 3) := by decide +kernel
theorem dX1_addPlayer_8 : decode cX1_addPlayer 8 = .ok (.iconst 5, 1) := by decide +kernel
theorem dX1_addPlayer_9 : decode cX1_addPlayer 9 = .ok (.if_icmp .ge 10, 3) := by decide +kernel
theorem dX1_addPlayer_12 : decode cX1_addPlayer 12 = .ok (.aload_n 0, 1) := by decide +kernel
theorem dX1_addPlayer_13 : decode cX1_addPlayer 13 = .ok (.getfield 42, 3) := by decide +kernel
theorem dX1_addPlayer_16 : decode cX1_addPlayer 16 = .ok (.ifCond .eq 13, 3) := by decide +kernel
theorem dX1_addPlayer_19 : decode cX1_addPlayer 19 = .ok (.new 53, 3) := by decide +kernel
theorem dX1_addPlayer_22 : decode cX1_addPlayer 22 = .ok (.dup, 1) := by decide +kernel
theorem dX1_addPlayer_23 : decode cX1_addPlayer 23 = .ok (.ldc 55, 2) := by decide +kernel
theorem dX1_addPlayer_25 : decode cX1_addPlayer 25 = .ok (.invokespecial 57, 3) := by decide +kernel
theorem dX1_addPlayer_28 : decode cX1_addPlayer 28 = .ok (.athrow, 1) := by decide +kernel
theorem dX1_addPlayer_29 : decode cX1_addPlayer 29 = .ok (.aload_n 0, 1) := by decide +kernel
theorem dX1_addPlayer_30 : decode cX1_addPlayer 30 = .ok (.getfield 26, 3) := by decide +kernel
theorem dX1_addPlayer_33 : decode cX1_addPlayer 33 = .ok (.istore_n 2, 1) := by decide +kernel
theorem dX1_addPlayer_34 : decode cX1_addPlayer 34 = .ok (.aload_n 0, 1) := by decide +kernel
theorem dX1_addPlayer_35 : decode cX1_addPlayer 35 = .ok (.dup, 1) := by decide +kernel
theorem dX1_addPlayer_36 : decode cX1_addPlayer 36 = .ok (.getfield 26, 3) := by decide +kernel
theorem dX1_addPlayer_39 : decode cX1_addPlayer 39 = .ok (.iconst 1, 1) := by decide +kernel
theorem dX1_addPlayer_40 : decode cX1_addPlayer 40 = .ok (.iadd, 1) := by decide +kernel
theorem dX1_addPlayer_41 : decode cX1_addPlayer 41 = .ok (.putfield 26, 3) := by decide +kernel
theorem dX1_addPlayer_44 : decode cX1_addPlayer 44 = .ok (.aload_n 0, 1) := by decide +kernel
theorem dX1_addPlayer_45 : decode cX1_addPlayer 45 = .ok (.aload_n 0, 1) := by decide +kernel
theorem dX1_addPlayer_46 : decode cX1_addPlayer 46 = .ok (.getfield 30, 3) := by decide +kernel
theorem dX1_addPlayer_49 : decode cX1_addPlayer 49 = .ok (.iload_n 1, 1) := by decide +kernel
theorem dX1_addPlayer_50 : decode cX1_addPlayer 50 = .ok (.iload_n 2, 1) := by decide +kernel
theorem dX1_addPlayer_51 : decode cX1_addPlayer 51 = .ok (.invokestatic 60, 3) := by decide +kernel
theorem dX1_addPlayer_54 : decode cX1_addPlayer 54 = .ok (.ishl, 1) := by decide +kernel
theorem dX1_addPlayer_55 : decode cX1_addPlayer 55 = .ok (.ior, 1) := by decide +kernel
theorem dX1_addPlayer_56 : decode cX1_addPlayer 56 = .ok (.putfield 30, 3) := by decide +kernel
theorem dX1_addPlayer_59 : decode cX1_addPlayer 59 = .ok (.aload_n 0, 1) := by decide +kernel
theorem dX1_addPlayer_60 : decode cX1_addPlayer 60 = .ok (.iload_n 2, 1) := by decide +kernel
theorem dX1_addPlayer_61 : decode cX1_addPlayer 61 = .ok (.invokevirtual 64, 3) := by decide +kernel
theorem dX1_addPlayer_64 : decode cX1_addPlayer 64 = .ok (.aload_n 0, 1) := by decide +kernel
theorem dX1_addPlayer_65 : decode cX1_addPlayer 65 = .ok (.iload_n 2, 1) := by decide +kernel
theorem dX1_addPlayer_66 : decode cX1_addPlayer 66 = .ok (.invokevirtual 67, 3) := by decide +kernel
theorem dX1_addPlayer_69 : decode cX1_addPlayer 69 = .ok (.iload_n 2, 1) := by decide +kernel
theorem dX1_addPlayer_70 : decode cX1_addPlayer 70 = .ok (.ireturn, 1) := by decide +kernel
theorem dX1_turnAway_0 : decode cX1_turnAway 0 = .ok (.aload_n 0, 1) := by decide +kernel
theorem dX1_turnAway_1 : decode cX1_turnAway 1 = .ok (.iload_n 1, 1) := by decide +kernel
theorem dX1_turnAway_2 : decode cX1_turnAway 2 = .ok (.iload_n 2, 1) := by decide +kernel
theorem dX1_turnAway_3 : decode cX1_turnAway 3 = .ok (.invokevirtual 70, 3) := by decide +kernel
theorem dX1_turnAway_6 : decode cX1_turnAway 6 = .ok (.aload_n 0, 1) := by decide +kernel
theorem dX1_turnAway_7 : decode cX1_turnAway 7 = .ok (.iload_n 1, 1) := by decide +kernel
theorem dX1_turnAway_8 : decode cX1_turnAway 8 = .ok (.aload_n 0, 1) := by decide +kernel
theorem dX1_turnAway_9 : decode cX1_turnAway 9 = .ok (.iload_n 1, 1) := by decide +kernel
theorem dX1_turnAway_10 : decode cX1_turnAway 10 = .ok (.invokevirtual 74, 3) := by decide +kernel
theorem dX1_turnAway_13 : decode cX1_turnAway 13 = .ok (.iload_n 2, 1) := by decide +kernel
theorem dX1_turnAway_14 : decode cX1_turnAway 14 = .ok (.invokestatic 77, 3) := by decide +kernel
theorem dX1_turnAway_17 : decode cX1_turnAway 17 = .ok (.ixor, 1) := by decide +kernel
theorem dX1_turnAway_18 : decode cX1_turnAway 18 = .ok (.invokevirtual 80, 3) := by decide +kernel
theorem dX1_turnAway_21 : decode cX1_turnAway 21 = .ok (.aload_n 0, 1) := by decide +kernel
theorem dX1_turnAway_22 : decode cX1_turnAway 22 = .ok (.iload_n 1, 1) := by decide +kernel
theorem dX1_turnAway_23 : decode cX1_turnAway 23 = .ok (.iload_n 2, 1) := by decide +kernel
theorem dX1_turnAway_24 : decode cX1_turnAway 24 = .ok (.invokevirtual 83, 3) := by decide +kernel
theorem dX1_turnAway_27 : decode cX1_turnAway 27 = .ok (.ireturn, 1) := by decide +kernel
theorem dX1_borrow_0 : decode cX1_borrow 0 = .ok (.aload_n 0, 1) := by decide +kernel
theorem dX1_borrow_1 : decode cX1_borrow 1 = .ok (.iload_n 1, 1) := by decide +kernel
theorem dX1_borrow_2 : decode cX1_borrow 2 = .ok (.iload_n 2, 1) := by decide +kernel
theorem dX1_borrow_3 : decode cX1_borrow 3 = .ok (.invokevirtual 70, 3) := by decide +kernel
theorem dX1_borrow_6 : decode cX1_borrow 6 = .ok (.aload_n 0, 1) := by decide +kernel
theorem dX1_borrow_7 : decode cX1_borrow 7 = .ok (.iconst 1, 1) := by decide +kernel
theorem dX1_borrow_8 : decode cX1_borrow 8 = .ok (.putfield 42, 3) := by decide +kernel
theorem dX1_borrow_11 : decode cX1_borrow 11 = .ok (.aload_n 0, 1) := by decide +kernel
theorem dX1_borrow_12 : decode cX1_borrow 12 = .ok (.aload_n 0, 1) := by decide +kernel
theorem dX1_borrow_13 : decode cX1_borrow 13 = .ok (.getfield 30, 3) := by decide +kernel
theorem dX1_borrow_16 : decode cX1_borrow 16 = .ok (.iload_n 1, 1) := by decide +kernel
theorem dX1_borrow_17 : decode cX1_borrow 17 = .ok (.iload_n 2, 1) := by decide +kernel
theorem dX1_borrow_18 : decode cX1_borrow 18 = .ok (.invokestatic 87, 3) := by decide +kernel
theorem dX1_borrow_21 : decode cX1_borrow 21 = .ok (.putfield 30, 3) := by decide +kernel
theorem dX1_borrow_24 : decode cX1_borrow 24 = .ok (.iconst 0, 1) := by decide +kernel
theorem dX1_borrow_25 : decode cX1_borrow 25 = .ok (.istore_n 3, 1) := by decide +kernel
theorem dX1_borrow_26 : decode cX1_borrow 26 = .ok (.iload_n 3, 1) := by decide +kernel
theorem dX1_borrow_27 : decode cX1_borrow 27 = .ok (.aload_n 0, 1) := by decide +kernel
theorem dX1_borrow_28 : decode cX1_borrow 28 = .ok (.getfield 10, 3) := by decide +kernel
theorem dX1_borrow_31 : decode cX1_borrow 31 = .ok (.invokevirtual 91, 3) := by decide +kernel
theorem dX1_borrow_34 : decode cX1_borrow 34 = .ok (.if_icmp .ge 30, 3) := by decide +kernel
theorem dX1_borrow_37 : decode cX1_borrow 37 = .ok (.aload_n 0, 1) := by decide +kernel
theorem dX1_borrow_38 : decode cX1_borrow 38 = .ok (.getfield 10, 3) := by decide +kernel
theorem dX1_borrow_41 : decode cX1_borrow 41 = .ok (.iload_n 3, 1) := by decide +kernel
theorem dX1_borrow_42 : decode cX1_borrow 42 = .ok (.aload_n 0, 1) := by decide +kernel
theorem dX1_borrow_43 : decode cX1_borrow 43 = .ok (.getfield 10, 3) := by decide +kernel
theorem dX1_borrow_46 : decode cX1_borrow 46 = .ok (.iload_n 3, 1) := by decide +kernel
theorem dX1_borrow_47 : decode cX1_borrow 47 = .ok (.invokevirtual 95, 3) := by decide +kernel
theorem dX1_borrow_50 : decode cX1_borrow 50 = .ok (.iload_n 1, 1) := by decide +kernel
theorem dX1_borrow_51 : decode cX1_borrow 51 = .ok (.iload_n 2, 1) := by decide +kernel
theorem dX1_borrow_52 : decode cX1_borrow 52 = .ok (.invokestatic 87, 3) := by decide +kernel
theorem dX1_borrow_55 : decode cX1_borrow 55 = .ok (.invokevirtual 98, 3) := by decide +kernel
theorem dX1_borrow_58 : decode cX1_borrow 58 = .ok (.iinc 3 1, 3) := by decide +kernel
theorem dX1_borrow_61 : decode cX1_borrow 61 = .ok (.goto (-35), 3) := by decide +kernel
theorem dX1_borrow_64 : decode cX1_borrow 64 = .ok (.aload_n 0, 1) := by decide +kernel
theorem dX1_borrow_65 : decode cX1_borrow 65 = .ok (.getfield 30, 3) := by decide +kernel
theorem dX1_borrow_68 : decode cX1_borrow 68 = .ok (.iload_n 1, 1) := by decide +kernel
theorem dX1_borrow_69 : decode cX1_borrow 69 = .ok (.invokestatic 101, 3) := by decide +kernel
theorem dX1_borrow_72 : decode cX1_borrow 72 = .ok (.ireturn, 1) := by decide +kernel
theorem dX1_takeTurn_0 : decode cX1_takeTurn 0 = .ok (.aload_n 0, 1) := by decide +kernel
theorem dX1_takeTurn_1 : decode cX1_takeTurn 1 = .ok (.invokevirtual 105, 3) := by decide +kernel
theorem dX1_takeTurn_4 : decode cX1_takeTurn 4 = .ok (.aload_n 0, 1) := by decide +kernel
theorem dX1_takeTurn_5 : decode cX1_takeTurn 5 = .ok (.getfield 33, 3) := by decide +kernel
theorem dX1_takeTurn_8 : decode cX1_takeTurn 8 = .ok (.istore_n 1, 1) := by decide +kernel
theorem dX1_takeTurn_9 : decode cX1_takeTurn 9 = .ok (.aload_n 0, 1) := by decide +kernel
theorem dX1_takeTurn_10 : decode cX1_takeTurn 10 = .ok (.aload_n 0, 1) := by decide +kernel
theorem dX1_takeTurn_11 : decode cX1_takeTurn 11 = .ok (.getfield 10, 3) := by decide +kernel
theorem dX1_takeTurn_14 : decode cX1_takeTurn 14 = .ok (.iload_n 1, 1) := by decide +kernel
theorem dX1_takeTurn_15 : decode cX1_takeTurn 15 = .ok (.invokevirtual 108, 3) := by decide +kernel
theorem dX1_takeTurn_18 : decode cX1_takeTurn 18 = .ok (.istore_n 2, 1) := by decide +kernel
theorem dX1_takeTurn_19 : decode cX1_takeTurn 19 = .ok (.aload_n 0, 1) := by decide +kernel
theorem dX1_takeTurn_20 : decode cX1_takeTurn 20 = .ok (.iconst 1, 1) := by decide +kernel
theorem dX1_takeTurn_21 : decode cX1_takeTurn 21 = .ok (.putfield 42, 3) := by decide +kernel
theorem dX1_takeTurn_24 : decode cX1_takeTurn 24 = .ok (.aload_n 0, 1) := by decide +kernel
theorem dX1_takeTurn_25 : decode cX1_takeTurn 25 = .ok (.aload_n 0, 1) := by decide +kernel
theorem dX1_takeTurn_26 : decode cX1_takeTurn 26 = .ok (.iload_n 1, 1) := by decide +kernel
theorem dX1_takeTurn_27 : decode cX1_takeTurn 27 = .ok (.invokevirtual 112, 3) := by decide +kernel
theorem dX1_takeTurn_30 : decode cX1_takeTurn 30 = .ok (.putfield 33, 3) := by decide +kernel
theorem dX1_takeTurn_33 : decode cX1_takeTurn 33 = .ok (.aload_n 0, 1) := by decide +kernel
theorem dX1_takeTurn_34 : decode cX1_takeTurn 34 = .ok (.dup, 1) := by decide +kernel
theorem dX1_takeTurn_35 : decode cX1_takeTurn 35 = .ok (.getfield 36, 3) := by decide +kernel
theorem dX1_takeTurn_38 : decode cX1_takeTurn 38 = .ok (.iconst 1, 1) := by decide +kernel
theorem dX1_takeTurn_39 : decode cX1_takeTurn 39 = .ok (.iadd, 1) := by decide +kernel
theorem dX1_takeTurn_40 : decode cX1_takeTurn 40 = .ok (.putfield 36, 3) := by decide +kernel
theorem dX1_takeTurn_43 : decode cX1_takeTurn 43 = .ok (.iload_n 2, 1) := by decide +kernel
theorem dX1_takeTurn_44 : decode cX1_takeTurn 44 = .ok (.ifCond .eq 12, 3) := by decide +kernel
theorem dX1_takeTurn_47 : decode cX1_takeTurn 47 = .ok (.aload_n 0, 1) := by decide +kernel
theorem dX1_takeTurn_48 : decode cX1_takeTurn 48 = .ok (.getfield 30, 3) := by decide +kernel
theorem dX1_takeTurn_51 : decode cX1_takeTurn 51 = .ok (.iload_n 1, 1) := by decide +kernel
theorem dX1_takeTurn_52 : decode cX1_takeTurn 52 = .ok (.invokestatic 101, 3) := by decide +kernel
theorem dX1_takeTurn_55 : decode cX1_takeTurn 55 = .ok (.ireturn, 1) := by decide +kernel
theorem dX1_takeTurn_56 : decode cX1_takeTurn 56 = .ok (.aload_n 0, 1) := by decide +kernel
theorem dX1_takeTurn_57 : decode cX1_takeTurn 57 = .ok (.dup, 1) := by decide +kernel
theorem dX1_takeTurn_58 : decode cX1_takeTurn 58 = .ok (.getfield 39, 3) := by decide +kernel
theorem dX1_takeTurn_61 : decode cX1_takeTurn 61 = .ok (.iconst 1, 1) := by decide +kernel
theorem dX1_takeTurn_62 : decode cX1_takeTurn 62 = .ok (.iadd, 1) := by decide +kernel
theorem dX1_takeTurn_63 : decode cX1_takeTurn 63 = .ok (.putfield 39, 3) := by decide +kernel
theorem dX1_takeTurn_66 : decode cX1_takeTurn 66 = .ok (.iconst (-1), 1) := by decide +kernel
theorem dX1_takeTurn_67 : decode cX1_takeTurn 67 = .ok (.ireturn, 1) := by decide +kernel
theorem dX1_sayAtLeast_0 : decode cX1_sayAtLeast 0 = .ok (.iload_n 1, 1) := by decide +kernel
theorem dX1_sayAtLeast_1 : decode cX1_sayAtLeast 1 = .ok (.invokestatic 50, 3) := by decide +kernel
theorem dX1_sayAtLeast_4 : decode cX1_sayAtLeast 4 = .ok (.iload_n 2, 1) := by decide +kernel
theorem dX1_sayAtLeast_5 : decode cX1_sayAtLeast 5 = .ok (.invokestatic 115, 3) := by decide +kernel
theorem dX1_sayAtLeast_8 : decode cX1_sayAtLeast 8 = .ok (.aload_n 0, 1) := by decide +kernel
theorem dX1_sayAtLeast_9 : decode cX1_sayAtLeast 9 = .ok (.iload_n 1, 1) := by decide +kernel
theorem dX1_sayAtLeast_10 : decode cX1_sayAtLeast 10 = .ok (.iload_n 2, 1) := by decide +kernel
theorem dX1_sayAtLeast_11 : decode cX1_sayAtLeast 11 = .ok (.iconst 5, 1) := by decide +kernel
theorem dX1_sayAtLeast_12 : decode cX1_sayAtLeast 12 = .ok (.invokevirtual 118, 3) := by decide +kernel
theorem dX1_sayAtLeast_15 : decode cX1_sayAtLeast 15 = .ok (.ireturn, 1) := by decide +kernel
theorem dX1_sayAtMost_0 : decode cX1_sayAtMost 0 = .ok (.iload_n 1, 1) := by decide +kernel
theorem dX1_sayAtMost_1 : decode cX1_sayAtMost 1 = .ok (.invokestatic 50, 3) := by decide +kernel
theorem dX1_sayAtMost_4 : decode cX1_sayAtMost 4 = .ok (.iload_n 2, 1) := by decide +kernel
theorem dX1_sayAtMost_5 : decode cX1_sayAtMost 5 = .ok (.invokestatic 115, 3) := by decide +kernel
theorem dX1_sayAtMost_8 : decode cX1_sayAtMost 8 = .ok (.aload_n 0, 1) := by decide +kernel
theorem dX1_sayAtMost_9 : decode cX1_sayAtMost 9 = .ok (.iload_n 1, 1) := by decide +kernel
theorem dX1_sayAtMost_10 : decode cX1_sayAtMost 10 = .ok (.iconst 0, 1) := by decide +kernel
theorem dX1_sayAtMost_11 : decode cX1_sayAtMost 11 = .ok (.iload_n 2, 1) := by decide +kernel
theorem dX1_sayAtMost_12 : decode cX1_sayAtMost 12 = .ok (.invokevirtual 118, 3) := by decide +kernel
theorem dX1_sayAtMost_15 : decode cX1_sayAtMost 15 = .ok (.ireturn, 1) := by decide +kernel
theorem dX1_begin_0 : decode cX1_begin 0 = .ok (.aload_n 0, 1) := by decide +kernel
theorem dX1_begin_1 : decode cX1_begin 1 = .ok (.getfield 10, 3) := by decide +kernel
theorem dX1_begin_4 : decode cX1_begin 4 = .ok (.invokevirtual 121, 3) := by decide +kernel
theorem dX1_begin_7 : decode cX1_begin 7 = .ok (.aload_n 0, 1) := by decide +kernel
theorem dX1_begin_8 : decode cX1_begin 8 = .ok (.getfield 10, 3) := by decide +kernel
theorem dX1_begin_11 : decode cX1_begin 11 = .ok (.iconst 0, 1) := by decide +kernel
theorem dX1_begin_12 : decode cX1_begin 12 = .ok (.invokevirtual 46, 3) := by decide +kernel
theorem dX1_begin_15 : decode cX1_begin 15 = .ok (.iconst 0, 1) := by decide +kernel
theorem dX1_begin_16 : decode cX1_begin 16 = .ok (.istore_n 1, 1) := by decide +kernel
theorem dX1_begin_17 : decode cX1_begin 17 = .ok (.iload_n 1, 1) := by decide +kernel
theorem dX1_begin_18 : decode cX1_begin 18 = .ok (.aload_n 0, 1) := by decide +kernel
theorem dX1_begin_19 : decode cX1_begin 19 = .ok (.getfield 26, 3) := by decide +kernel
theorem dX1_begin_22 : decode cX1_begin 22 = .ok (.if_icmp .ge 14, 3) := by decide +kernel
theorem dX1_begin_25 : decode cX1_begin 25 = .ok (.aload_n 0, 1) := by decide +kernel
theorem dX1_begin_26 : decode cX1_begin 26 = .ok (.iload_n 1, 1) := by decide +kernel
theorem dX1_begin_27 : decode cX1_begin 27 = .ok (.invokevirtual 67, 3) := by decide +kernel
theorem dX1_begin_30 : decode cX1_begin 30 = .ok (.iinc 1 1, 3) := by decide +kernel
theorem dX1_begin_33 : decode cX1_begin 33 = .ok (.goto (-16), 3) := by decide +kernel
theorem dX1_begin_36 : decode cX1_begin 36 = .ok (.aload_n 0, 1) := by decide +kernel
theorem dX1_begin_37 : decode cX1_begin 37 = .ok (.iconst 0, 1) := by decide +kernel
theorem dX1_begin_38 : decode cX1_begin 38 = .ok (.putfield 33, 3) := by decide +kernel
theorem dX1_begin_41 : decode cX1_begin 41 = .ok (.aload_n 0, 1) := by decide +kernel
theorem dX1_begin_42 : decode cX1_begin 42 = .ok (.iconst 0, 1) := by decide +kernel
theorem dX1_begin_43 : decode cX1_begin 43 = .ok (.putfield 36, 3) := by decide +kernel
theorem dX1_begin_46 : decode cX1_begin 46 = .ok (.aload_n 0, 1) := by decide +kernel
theorem dX1_begin_47 : decode cX1_begin 47 = .ok (.iconst 0, 1) := by decide +kernel
theorem dX1_begin_48 : decode cX1_begin 48 = .ok (.putfield 39, 3) := by decide +kernel
theorem dX1_begin_51 : decode cX1_begin 51 = .ok (.aload_n 0, 1) := by decide +kernel
theorem dX1_begin_52 : decode cX1_begin 52 = .ok (.iconst 0, 1) := by decide +kernel
theorem dX1_begin_53 : decode cX1_begin 53 = .ok (.putfield 42, 3) := by decide +kernel
theorem dX1_begin_56 : decode cX1_begin 56 = .ok (.aload_n 0, 1) := by decide +kernel
theorem dX1_begin_57 : decode cX1_begin 57 = .ok (.getfield 10, 3) := by decide +kernel
theorem dX1_begin_60 : decode cX1_begin 60 = .ok (.invokevirtual 91, 3) := by decide +kernel
theorem dX1_begin_63 : decode cX1_begin 63 = .ok (.ireturn, 1) := by decide +kernel
theorem dX1_players_0 : decode cX1_players 0 = .ok (.aload_n 0, 1) := by decide +kernel
theorem dX1_players_1 : decode cX1_players 1 = .ok (.getfield 26, 3) := by decide +kernel
theorem dX1_players_4 : decode cX1_players 4 = .ok (.ireturn, 1) := by decide +kernel
theorem dX1_turnsTaken_0 : decode cX1_turnsTaken 0 = .ok (.aload_n 0, 1) := by decide +kernel
theorem dX1_turnsTaken_1 : decode cX1_turnsTaken 1 = .ok (.getfield 36, 3) := by decide +kernel
theorem dX1_turnsTaken_4 : decode cX1_turnsTaken 4 = .ok (.ireturn, 1) := by decide +kernel
theorem dX1_silentTurns_0 : decode cX1_silentTurns 0 = .ok (.aload_n 0, 1) := by decide +kernel
theorem dX1_silentTurns_1 : decode cX1_silentTurns 1 = .ok (.getfield 39, 3) := by decide +kernel
theorem dX1_silentTurns_4 : decode cX1_silentTurns 4 = .ok (.ireturn, 1) := by decide +kernel
theorem dX1_playerInTurn_0 : decode cX1_playerInTurn 0 = .ok (.aload_n 0, 1) := by decide +kernel
theorem dX1_playerInTurn_1 : decode cX1_playerInTurn 1 = .ok (.getfield 26, 3) := by decide +kernel
theorem dX1_playerInTurn_4 : decode cX1_playerInTurn 4 = .ok (.ifCond .le 10, 3) := by decide +kernel
theorem dX1_playerInTurn_7 : decode cX1_playerInTurn 7 = .ok (.aload_n 0, 1) := by decide +kernel
theorem dX1_playerInTurn_8 : decode cX1_playerInTurn 8 = .ok (.getfield 33, 3) := by decide +kernel
theorem dX1_playerInTurn_11 : decode cX1_playerInTurn 11 = .ok (.goto 4, 3) := by decide +kernel
theorem dX1_playerInTurn_14 : decode cX1_playerInTurn 14 = .ok (.iconst (-1), 1) := by decide +kernel
theorem dX1_playerInTurn_15 : decode cX1_playerInTurn 15 = .ok (.ireturn, 1) := by decide +kernel
theorem dX1_hatOf_0 : decode cX1_hatOf 0 = .ok (.aload_n 0, 1) := by decide +kernel
theorem dX1_hatOf_1 : decode cX1_hatOf 1 = .ok (.iload_n 1, 1) := by decide +kernel
theorem dX1_hatOf_2 : decode cX1_hatOf 2 = .ok (.invokevirtual 124, 3) := by decide +kernel
theorem dX1_hatOf_5 : decode cX1_hatOf 5 = .ok (.aload_n 0, 1) := by decide +kernel
theorem dX1_hatOf_6 : decode cX1_hatOf 6 = .ok (.getfield 30, 3) := by decide +kernel
theorem dX1_hatOf_9 : decode cX1_hatOf 9 = .ok (.iload_n 1, 1) := by decide +kernel
theorem dX1_hatOf_10 : decode cX1_hatOf 10 = .ok (.invokestatic 101, 3) := by decide +kernel
theorem dX1_hatOf_13 : decode cX1_hatOf 13 = .ok (.ireturn, 1) := by decide +kernel
theorem dX1_sees_0 : decode cX1_sees 0 = .ok (.aload_n 0, 1) := by decide +kernel
theorem dX1_sees_1 : decode cX1_sees 1 = .ok (.iload_n 1, 1) := by decide +kernel
theorem dX1_sees_2 : decode cX1_sees 2 = .ok (.invokevirtual 124, 3) := by decide +kernel
theorem dX1_sees_5 : decode cX1_sees 5 = .ok (.aload_n 0, 1) := by decide +kernel
theorem dX1_sees_6 : decode cX1_sees 6 = .ok (.iload_n 2, 1) := by decide +kernel
theorem dX1_sees_7 : decode cX1_sees 7 = .ok (.invokevirtual 124, 3) := by decide +kernel
theorem dX1_sees_10 : decode cX1_sees 10 = .ok (.aload_n 0, 1) := by decide +kernel
theorem dX1_sees_11 : decode cX1_sees 11 = .ok (.iload_n 1, 1) := by decide +kernel
theorem dX1_sees_12 : decode cX1_sees 12 = .ok (.iload_n 2, 1) := by decide +kernel
theorem dX1_sees_13 : decode cX1_sees 13 = .ok (.invokevirtual 83, 3) := by decide +kernel
theorem dX1_sees_16 : decode cX1_sees 16 = .ok (.ireturn, 1) := by decide +kernel
theorem dX1_hatsOf_0 : decode cX1_hatsOf 0 = .ok (.iload_n 1, 1) := by decide +kernel
theorem dX1_hatsOf_1 : decode cX1_hatsOf 1 = .ok (.invokestatic 50, 3) := by decide +kernel
theorem dX1_hatsOf_4 : decode cX1_hatsOf 4 = .ok (.aload_n 0, 1) := by decide +kernel
theorem dX1_hatsOf_5 : decode cX1_hatsOf 5 = .ok (.aload_n 0, 1) := by decide +kernel
theorem dX1_hatsOf_6 : decode cX1_hatsOf 6 = .ok (.getfield 30, 3) := by decide +kernel
theorem dX1_hatsOf_9 : decode cX1_hatsOf 9 = .ok (.iload_n 1, 1) := by decide +kernel
theorem dX1_hatsOf_10 : decode cX1_hatsOf 10 = .ok (.invokevirtual 127, 3) := by decide +kernel
theorem dX1_hatsOf_13 : decode cX1_hatsOf 13 = .ok (.ireturn, 1) := by decide +kernel
theorem dX1_openWays_0 : decode cX1_openWays 0 = .ok (.aload_n 0, 1) := by decide +kernel
theorem dX1_openWays_1 : decode cX1_openWays 1 = .ok (.getfield 10, 3) := by decide +kernel
theorem dX1_openWays_4 : decode cX1_openWays 4 = .ok (.invokevirtual 91, 3) := by decide +kernel
theorem dX1_openWays_7 : decode cX1_openWays 7 = .ok (.ireturn, 1) := by decide +kernel
theorem dX1_openWaysWith_0 : decode cX1_openWaysWith 0 = .ok (.aload_n 0, 1) := by decide +kernel
theorem dX1_openWaysWith_1 : decode cX1_openWaysWith 1 = .ok (.iload_n 1, 1) := by decide +kernel
theorem dX1_openWaysWith_2 : decode cX1_openWaysWith 2 = .ok (.invokevirtual 124, 3) := by decide +kernel
theorem dX1_openWaysWith_5 : decode cX1_openWaysWith 5 = .ok (.iload_n 2, 1) := by decide +kernel
theorem dX1_openWaysWith_6 : decode cX1_openWaysWith 6 = .ok (.invokestatic 50, 3) := by decide +kernel
theorem dX1_openWaysWith_9 : decode cX1_openWaysWith 9 = .ok (.aload_n 0, 1) := by decide +kernel
theorem dX1_openWaysWith_10 : decode cX1_openWaysWith 10 = .ok (.iload_n 1, 1) := by decide +kernel
theorem dX1_openWaysWith_11 : decode cX1_openWaysWith 11 = .ok (.iload_n 2, 1) := by decide +kernel
theorem dX1_openWaysWith_12 : decode cX1_openWaysWith 12 = .ok (.invokevirtual 130, 3) := by decide +kernel
theorem dX1_openWaysWith_15 : decode cX1_openWaysWith 15 = .ok (.ireturn, 1) := by decide +kernel
theorem dX1_isKnownToAll_0 : decode cX1_isKnownToAll 0 = .ok (.aload_n 0, 1) := by decide +kernel
theorem dX1_isKnownToAll_1 : decode cX1_isKnownToAll 1 = .ok (.iload_n 1, 1) := by decide +kernel
theorem dX1_isKnownToAll_2 : decode cX1_isKnownToAll 2 = .ok (.invokevirtual 124, 3) := by decide +kernel
theorem dX1_isKnownToAll_5 : decode cX1_isKnownToAll 5 = .ok (.aload_n 0, 1) := by decide +kernel
theorem dX1_isKnownToAll_6 : decode cX1_isKnownToAll 6 = .ok (.iload_n 1, 1) := by decide +kernel
theorem dX1_isKnownToAll_7 : decode cX1_isKnownToAll 7 = .ok (.aload_n 0, 1) := by decide +kernel
theorem dX1_isKnownToAll_8 : decode cX1_isKnownToAll 8 = .ok (.getfield 30, 3) := by decide +kernel
theorem dX1_isKnownToAll_11 : decode cX1_isKnownToAll 11 = .ok (.iload_n 1, 1) := by decide +kernel
theorem dX1_isKnownToAll_12 : decode cX1_isKnownToAll 12 = .ok (.invokestatic 101, 3) := by decide +kernel
theorem dX1_isKnownToAll_15 : decode cX1_isKnownToAll 15 = .ok (.invokevirtual 130, 3) := by decide +kernel
theorem dX1_isKnownToAll_18 : decode cX1_isKnownToAll 18 = .ok (.aload_n 0, 1) := by decide +kernel
theorem dX1_isKnownToAll_19 : decode cX1_isKnownToAll 19 = .ok (.getfield 10, 3) := by decide +kernel
theorem dX1_isKnownToAll_22 : decode cX1_isKnownToAll 22 = .ok (.invokevirtual 91, 3) := by decide +kernel
theorem dX1_isKnownToAll_25 : decode cX1_isKnownToAll 25 = .ok (.if_icmp .ne 7, 3) := by decide +kernel
theorem dX1_isKnownToAll_28 : decode cX1_isKnownToAll 28 = .ok (.iconst 1, 1) := by decide +kernel
theorem dX1_isKnownToAll_29 : decode cX1_isKnownToAll 29 = .ok (.goto 4, 3) := by decide +kernel
theorem dX1_isKnownToAll_32 : decode cX1_isKnownToAll 32 = .ok (.iconst 0, 1) := by decide +kernel
theorem dX1_isKnownToAll_33 : decode cX1_isKnownToAll 33 = .ok (.ireturn, 1) := by decide +kernel
theorem dX1_possibleWays_0 : decode cX1_possibleWays 0 = .ok (.aload_n 0, 1) := by decide +kernel
theorem dX1_possibleWays_1 : decode cX1_possibleWays 1 = .ok (.iload_n 1, 1) := by decide +kernel
theorem dX1_possibleWays_2 : decode cX1_possibleWays 2 = .ok (.invokevirtual 124, 3) := by decide +kernel
theorem dX1_possibleWays_5 : decode cX1_possibleWays 5 = .ok (.aload_n 0, 1) := by decide +kernel
theorem dX1_possibleWays_6 : decode cX1_possibleWays 6 = .ok (.iload_n 1, 1) := by decide +kernel
theorem dX1_possibleWays_7 : decode cX1_possibleWays 7 = .ok (.invokevirtual 133, 3) := by decide +kernel
theorem dX1_possibleWays_10 : decode cX1_possibleWays 10 = .ok (.ireturn, 1) := by decide +kernel
theorem dX1_holdsPossible_0 : decode cX1_holdsPossible 0 = .ok (.aload_n 0, 1) := by decide +kernel
theorem dX1_holdsPossible_1 : decode cX1_holdsPossible 1 = .ok (.iload_n 1, 1) := by decide +kernel
theorem dX1_holdsPossible_2 : decode cX1_holdsPossible 2 = .ok (.invokevirtual 124, 3) := by decide +kernel
theorem dX1_holdsPossible_5 : decode cX1_holdsPossible 5 = .ok (.aload_n 0, 1) := by decide +kernel
theorem dX1_holdsPossible_6 : decode cX1_holdsPossible 6 = .ok (.iload_n 2, 1) := by decide +kernel
theorem dX1_holdsPossible_7 : decode cX1_holdsPossible 7 = .ok (.invokevirtual 124, 3) := by decide +kernel
theorem dX1_holdsPossible_10 : decode cX1_holdsPossible 10 = .ok (.iload_n 3, 1) := by decide +kernel
theorem dX1_holdsPossible_11 : decode cX1_holdsPossible 11 = .ok (.invokestatic 50, 3) := by decide +kernel
theorem dX1_holdsPossible_14 : decode cX1_holdsPossible 14 = .ok (.aload_n 0, 1) := by decide +kernel
theorem dX1_holdsPossible_15 : decode cX1_holdsPossible 15 = .ok (.aload_n 0, 1) := by decide +kernel
theorem dX1_holdsPossible_16 : decode cX1_holdsPossible 16 = .ok (.getfield 10, 3) := by decide +kernel
theorem dX1_holdsPossible_19 : decode cX1_holdsPossible 19 = .ok (.iload_n 1, 1) := by decide +kernel
theorem dX1_holdsPossible_20 : decode cX1_holdsPossible 20 = .ok (.iload_n 2, 1) := by decide +kernel
theorem dX1_holdsPossible_21 : decode cX1_holdsPossible 21 = .ok (.invokevirtual 136, 3) := by decide +kernel
theorem dX1_holdsPossible_24 : decode cX1_holdsPossible 24 = .ok (.iconst 1, 1) := by decide +kernel
theorem dX1_holdsPossible_25 : decode cX1_holdsPossible 25 = .ok (.iload_n 3, 1) := by decide +kernel
theorem dX1_holdsPossible_26 : decode cX1_holdsPossible 26 = .ok (.ishl, 1) := by decide +kernel
theorem dX1_holdsPossible_27 : decode cX1_holdsPossible 27 = .ok (.iand, 1) := by decide +kernel
theorem dX1_holdsPossible_28 : decode cX1_holdsPossible 28 = .ok (.ifCond .eq 7, 3) := by decide +kernel
theorem dX1_holdsPossible_31 : decode cX1_holdsPossible 31 = .ok (.iconst 1, 1) := by decide +kernel
theorem dX1_holdsPossible_32 : decode cX1_holdsPossible 32 = .ok (.goto 4, 3) := by decide +kernel
theorem dX1_holdsPossible_35 : decode cX1_holdsPossible 35 = .ok (.iconst 0, 1) := by decide +kernel
theorem dX1_holdsPossible_36 : decode cX1_holdsPossible 36 = .ok (.ireturn, 1) := by decide +kernel
theorem dX1_isCertain_0 : decode cX1_isCertain 0 = .ok (.aload_n 0, 1) := by decide +kernel
theorem dX1_isCertain_1 : decode cX1_isCertain 1 = .ok (.iload_n 1, 1) := by decide +kernel
theorem dX1_isCertain_2 : decode cX1_isCertain 2 = .ok (.invokevirtual 124, 3) := by decide +kernel
theorem dX1_isCertain_5 : decode cX1_isCertain 5 = .ok (.aload_n 0, 1) := by decide +kernel
theorem dX1_isCertain_6 : decode cX1_isCertain 6 = .ok (.aload_n 0, 1) := by decide +kernel
theorem dX1_isCertain_7 : decode cX1_isCertain 7 = .ok (.getfield 10, 3) := by decide +kernel
theorem dX1_isCertain_10 : decode cX1_isCertain 10 = .ok (.iload_n 1, 1) := by decide +kernel
theorem dX1_isCertain_11 : decode cX1_isCertain 11 = .ok (.invokevirtual 140, 3) := by decide +kernel
theorem dX1_isCertain_14 : decode cX1_isCertain 14 = .ok (.ireturn, 1) := by decide +kernel
theorem dX1_knowsHatOf_0 : decode cX1_knowsHatOf 0 = .ok (.aload_n 0, 1) := by decide +kernel
theorem dX1_knowsHatOf_1 : decode cX1_knowsHatOf 1 = .ok (.iload_n 1, 1) := by decide +kernel
theorem dX1_knowsHatOf_2 : decode cX1_knowsHatOf 2 = .ok (.invokevirtual 124, 3) := by decide +kernel
theorem dX1_knowsHatOf_5 : decode cX1_knowsHatOf 5 = .ok (.aload_n 0, 1) := by decide +kernel
theorem dX1_knowsHatOf_6 : decode cX1_knowsHatOf 6 = .ok (.iload_n 2, 1) := by decide +kernel
theorem dX1_knowsHatOf_7 : decode cX1_knowsHatOf 7 = .ok (.invokevirtual 124, 3) := by decide +kernel
theorem dX1_knowsHatOf_10 : decode cX1_knowsHatOf 10 = .ok (.aload_n 0, 1) := by decide +kernel
theorem dX1_knowsHatOf_11 : decode cX1_knowsHatOf 11 = .ok (.aload_n 0, 1) := by decide +kernel
theorem dX1_knowsHatOf_12 : decode cX1_knowsHatOf 12 = .ok (.getfield 10, 3) := by decide +kernel
theorem dX1_knowsHatOf_15 : decode cX1_knowsHatOf 15 = .ok (.iload_n 1, 1) := by decide +kernel
theorem dX1_knowsHatOf_16 : decode cX1_knowsHatOf 16 = .ok (.iload_n 2, 1) := by decide +kernel
theorem dX1_knowsHatOf_17 : decode cX1_knowsHatOf 17 = .ok (.invokevirtual 136, 3) := by decide +kernel
theorem dX1_knowsHatOf_20 : decode cX1_knowsHatOf 20 = .ok (.invokestatic 143, 3) := by decide +kernel
theorem dX1_knowsHatOf_23 : decode cX1_knowsHatOf 23 = .ok (.ireturn, 1) := by decide +kernel
theorem dX1_knowsCertain_0 : decode cX1_knowsCertain 0 = .ok (.aload_n 0, 1) := by decide +kernel
theorem dX1_knowsCertain_1 : decode cX1_knowsCertain 1 = .ok (.iload_n 1, 1) := by decide +kernel
theorem dX1_knowsCertain_2 : decode cX1_knowsCertain 2 = .ok (.invokevirtual 124, 3) := by decide +kernel
theorem dX1_knowsCertain_5 : decode cX1_knowsCertain 5 = .ok (.aload_n 0, 1) := by decide +kernel
theorem dX1_knowsCertain_6 : decode cX1_knowsCertain 6 = .ok (.iload_n 2, 1) := by decide +kernel
theorem dX1_knowsCertain_7 : decode cX1_knowsCertain 7 = .ok (.invokevirtual 124, 3) := by decide +kernel
theorem dX1_knowsCertain_10 : decode cX1_knowsCertain 10 = .ok (.aload_n 0, 1) := by decide +kernel
theorem dX1_knowsCertain_11 : decode cX1_knowsCertain 11 = .ok (.aload_n 0, 1) := by decide +kernel
theorem dX1_knowsCertain_12 : decode cX1_knowsCertain 12 = .ok (.getfield 10, 3) := by decide +kernel
theorem dX1_knowsCertain_15 : decode cX1_knowsCertain 15 = .ok (.iload_n 2, 1) := by decide +kernel
theorem dX1_knowsCertain_16 : decode cX1_knowsCertain 16 = .ok (.invokevirtual 147, 3) := by decide +kernel
theorem dX1_knowsCertain_19 : decode cX1_knowsCertain 19 = .ok (.aload_n 0, 1) := by decide +kernel
theorem dX1_knowsCertain_20 : decode cX1_knowsCertain 20 = .ok (.iload_n 1, 1) := by decide +kernel
theorem dX1_knowsCertain_21 : decode cX1_knowsCertain 21 = .ok (.invokevirtual 74, 3) := by decide +kernel
theorem dX1_knowsCertain_24 : decode cX1_knowsCertain 24 = .ok (.istore_n 3, 1) := by decide +kernel
theorem dX1_knowsCertain_25 : decode cX1_knowsCertain 25 = .ok (.iconst 0, 1) := by decide +kernel
theorem dX1_knowsCertain_26 : decode cX1_knowsCertain 26 = .ok (.istore 4, 2) := by decide +kernel
theorem dX1_knowsCertain_28 : decode cX1_knowsCertain 28 = .ok (.iload 4, 2) := by decide +kernel
theorem dX1_knowsCertain_30 : decode cX1_knowsCertain 30 = .ok (.aload_n 0, 1) := by decide +kernel
theorem dX1_knowsCertain_31 : decode cX1_knowsCertain 31 = .ok (.getfield 10, 3) := by decide +kernel
theorem dX1_knowsCertain_34 : decode cX1_knowsCertain 34 = .ok (.invokevirtual 91, 3) := by decide +kernel
theorem dX1_knowsCertain_37 : decode cX1_knowsCertain 37 = .ok (.if_icmp .ge 42, 3) := by decide +kernel
theorem dX1_knowsCertain_40 : decode cX1_knowsCertain 40 = .ok (.aload_n 0, 1) := by decide +kernel
theorem dX1_knowsCertain_41 : decode cX1_knowsCertain 41 = .ok (.getfield 10, 3) := by decide +kernel
theorem dX1_knowsCertain_44 : decode cX1_knowsCertain 44 = .ok (.iload 4, 2) := by decide +kernel
theorem dX1_knowsCertain_46 : decode cX1_knowsCertain 46 = .ok (.invokevirtual 95, 3) := by decide +kernel
theorem dX1_knowsCertain_49 : decode cX1_knowsCertain 49 = .ok (.istore 5, 2) := by decide +kernel
theorem dX1_knowsCertain_51 : decode cX1_knowsCertain 51 = .ok (.aload_n 0, 1) := by decide +kernel
theorem dX1_knowsCertain_52 : decode cX1_knowsCertain 52 = .ok (.iload 5, 2) := by decide +kernel
theorem dX1_knowsCertain_54 : decode cX1_knowsCertain 54 = .ok (.iload_n 3, 1) := by decide +kernel
theorem dX1_knowsCertain_55 : decode cX1_knowsCertain 55 = .ok (.invokevirtual 151, 3) := by decide +kernel
theorem dX1_knowsCertain_58 : decode cX1_knowsCertain 58 = .ok (.ifCond .eq 15, 3) := by decide +kernel
theorem dX1_knowsCertain_61 : decode cX1_knowsCertain 61 = .ok (.aload_n 0, 1) := by decide +kernel
theorem dX1_knowsCertain_62 : decode cX1_knowsCertain 62 = .ok (.iload 5, 2) := by decide +kernel
theorem dX1_knowsCertain_64 : decode cX1_knowsCertain 64 = .ok (.iload_n 2, 1) := by decide +kernel
theorem dX1_knowsCertain_65 : decode cX1_knowsCertain 65 = .ok (.invokevirtual 154, 3) := by decide +kernel
theorem dX1_knowsCertain_68 : decode cX1_knowsCertain 68 = .ok (.ifCond .ne 5, 3) := by decide +kernel
theorem dX1_knowsCertain_71 : decode cX1_knowsCertain 71 = .ok (.iconst 0, 1) := by decide +kernel
theorem dX1_knowsCertain_72 : decode cX1_knowsCertain 72 = .ok (.ireturn, 1) := by decide +kernel
theorem dX1_knowsCertain_73 : decode cX1_knowsCertain 73 = .ok (.iinc 4 1, 3) := by decide +kernel
theorem dX1_knowsCertain_76 : decode cX1_knowsCertain 76 = .ok (.goto (-48), 3) := by decide +kernel
theorem dX1_knowsCertain_79 : decode cX1_knowsCertain 79 = .ok (.iconst 1, 1) := by decide +kernel
theorem dX1_knowsCertain_80 : decode cX1_knowsCertain 80 = .ok (.ireturn, 1) := by decide +kernel
theorem dX1_certainPlayers_0 : decode cX1_certainPlayers 0 = .ok (.aload_n 0, 1) := by decide +kernel
theorem dX1_certainPlayers_1 : decode cX1_certainPlayers 1 = .ok (.aload_n 0, 1) := by decide +kernel
theorem dX1_certainPlayers_2 : decode cX1_certainPlayers 2 = .ok (.getfield 10, 3) := by decide +kernel
theorem dX1_certainPlayers_5 : decode cX1_certainPlayers 5 = .ok (.invokevirtual 157, 3) := by decide +kernel
theorem dX1_certainPlayers_8 : decode cX1_certainPlayers 8 = .ok (.ireturn, 1) := by decide +kernel
theorem dX1_openAfterTurn_0 : decode cX1_openAfterTurn 0 = .ok (.aload_n 0, 1) := by decide +kernel
theorem dX1_openAfterTurn_1 : decode cX1_openAfterTurn 1 = .ok (.invokevirtual 105, 3) := by decide +kernel
theorem dX1_openAfterTurn_4 : decode cX1_openAfterTurn 4 = .ok (.aload_n 0, 1) := by decide +kernel
theorem dX1_openAfterTurn_5 : decode cX1_openAfterTurn 5 = .ok (.getfield 16, 3) := by decide +kernel
theorem dX1_openAfterTurn_8 : decode cX1_openAfterTurn 8 = .ok (.aload_n 0, 1) := by decide +kernel
theorem dX1_openAfterTurn_9 : decode cX1_openAfterTurn 9 = .ok (.getfield 10, 3) := by decide +kernel
theorem dX1_openAfterTurn_12 : decode cX1_openAfterTurn 12 = .ok (.invokevirtual 161, 3) := by decide +kernel
theorem dX1_openAfterTurn_15 : decode cX1_openAfterTurn 15 = .ok (.aload_n 0, 1) := by decide +kernel
theorem dX1_openAfterTurn_16 : decode cX1_openAfterTurn 16 = .ok (.aload_n 0, 1) := by decide +kernel
theorem dX1_openAfterTurn_17 : decode cX1_openAfterTurn 17 = .ok (.getfield 16, 3) := by decide +kernel
theorem dX1_openAfterTurn_20 : decode cX1_openAfterTurn 20 = .ok (.aload_n 0, 1) := by decide +kernel
theorem dX1_openAfterTurn_21 : decode cX1_openAfterTurn 21 = .ok (.getfield 33, 3) := by decide +kernel
theorem dX1_openAfterTurn_24 : decode cX1_openAfterTurn 24 = .ok (.invokevirtual 108, 3) := by decide +kernel
theorem dX1_openAfterTurn_27 : decode cX1_openAfterTurn 27 = .ok (.pop, 1) := by decide +kernel
theorem dX1_openAfterTurn_28 : decode cX1_openAfterTurn 28 = .ok (.aload_n 0, 1) := by decide +kernel
theorem dX1_openAfterTurn_29 : decode cX1_openAfterTurn 29 = .ok (.getfield 16, 3) := by decide +kernel
theorem dX1_openAfterTurn_32 : decode cX1_openAfterTurn 32 = .ok (.invokevirtual 91, 3) := by decide +kernel
theorem dX1_openAfterTurn_35 : decode cX1_openAfterTurn 35 = .ok (.ireturn, 1) := by decide +kernel
theorem dX1_turnsUntilCertain_0 : decode cX1_turnsUntilCertain 0 = .ok (.aload_n 0, 1) := by decide +kernel
theorem dX1_turnsUntilCertain_1 : decode cX1_turnsUntilCertain 1 = .ok (.iload_n 1, 1) := by decide +kernel
theorem dX1_turnsUntilCertain_2 : decode cX1_turnsUntilCertain 2 = .ok (.invokevirtual 124, 3) := by decide +kernel
theorem dX1_turnsUntilCertain_5 : decode cX1_turnsUntilCertain 5 = .ok (.aload_n 0, 1) := by decide +kernel
theorem dX1_turnsUntilCertain_6 : decode cX1_turnsUntilCertain 6 = .ok (.iload_n 1, 1) := by decide +kernel
theorem dX1_turnsUntilCertain_7 : decode cX1_turnsUntilCertain 7 = .ok (.iload_n 1, 1) := by decide +kernel
theorem dX1_turnsUntilCertain_8 : decode cX1_turnsUntilCertain 8 = .ok (.invokevirtual 165, 3) := by decide +kernel
theorem dX1_turnsUntilCertain_11 : decode cX1_turnsUntilCertain 11 = .ok (.ireturn, 1) := by decide +kernel
theorem dX1_turnsUntilAllCertain_0 : decode cX1_turnsUntilAllCertain 0 = .ok (.aload_n 0, 1) := by decide +kernel
theorem dX1_turnsUntilAllCertain_1 : decode cX1_turnsUntilAllCertain 1 = .ok (.iconst 0, 1) := by decide +kernel
theorem dX1_turnsUntilAllCertain_2 : decode cX1_turnsUntilAllCertain 2 = .ok (.aload_n 0, 1) := by decide +kernel
theorem dX1_turnsUntilAllCertain_3 : decode cX1_turnsUntilAllCertain 3 = .ok (.getfield 26, 3) := by decide +kernel
theorem dX1_turnsUntilAllCertain_6 : decode cX1_turnsUntilAllCertain 6 = .ok (.iconst 1, 1) := by decide +kernel
theorem dX1_turnsUntilAllCertain_7 : decode cX1_turnsUntilAllCertain 7 = .ok (.isub, 1) := by decide +kernel
theorem dX1_turnsUntilAllCertain_8 : decode cX1_turnsUntilAllCertain 8 = .ok (.invokevirtual 165, 3) := by decide +kernel
theorem dX1_turnsUntilAllCertain_11 : decode cX1_turnsUntilAllCertain 11 = .ok (.ireturn, 1) := by decide +kernel
theorem dX1_bestToName_0 : decode cX1_bestToName 0 = .ok (.iconst (-1), 1) := by decide +kernel
theorem dX1_bestToName_1 : decode cX1_bestToName 1 = .ok (.istore_n 1, 1) := by decide +kernel
theorem dX1_bestToName_2 : decode cX1_bestToName 2 = .ok (.sipush 244, 3) := by decide +kernel
theorem dX1_bestToName_5 : decode cX1_bestToName 5 = .ok (.istore_n 2, 1) := by decide +kernel
theorem dX1_bestToName_6 : decode cX1_bestToName 6 = .ok (.iconst 0, 1) := by decide +kernel
theorem dX1_bestToName_7 : decode cX1_bestToName 7 = .ok (.istore_n 3, 1) := by decide +kernel
theorem dX1_bestToName_8 : decode cX1_bestToName 8 = .ok (.iload_n 3, 1) := by decide +kernel
theorem dX1_bestToName_9 : decode cX1_bestToName 9 = .ok (.iconst 3, 1) := by decide +kernel
theorem dX1_bestToName_10 : decode cX1_bestToName 10 = .ok (.if_icmp .ge 39, 3) := by decide +kernel
theorem dX1_bestToName_13 : decode cX1_bestToName 13 = .ok (.aload_n 0, 1) := by decide +kernel
theorem dX1_bestToName_14 : decode cX1_bestToName 14 = .ok (.iload_n 3, 1) := by decide +kernel
theorem dX1_bestToName_15 : decode cX1_bestToName 15 = .ok (.invokevirtual 168, 3) := by decide +kernel
theorem dX1_bestToName_18 : decode cX1_bestToName 18 = .ok (.istore 4, 2) := by decide +kernel
theorem dX1_bestToName_20 : decode cX1_bestToName 20 = .ok (.aload_n 0, 1) := by decide +kernel
theorem dX1_bestToName_21 : decode cX1_bestToName 21 = .ok (.aload_n 0, 1) := by decide +kernel
theorem dX1_bestToName_22 : decode cX1_bestToName 22 = .ok (.getfield 30, 3) := by decide +kernel
theorem dX1_bestToName_25 : decode cX1_bestToName 25 = .ok (.iload_n 3, 1) := by decide +kernel
theorem dX1_bestToName_26 : decode cX1_bestToName 26 = .ok (.invokevirtual 127, 3) := by decide +kernel
theorem dX1_bestToName_29 : decode cX1_bestToName 29 = .ok (.ifCond .le 14, 3) := by decide +kernel
theorem dX1_bestToName_32 : decode cX1_bestToName 32 = .ok (.iload 4, 2) := by decide +kernel
theorem dX1_bestToName_34 : decode cX1_bestToName 34 = .ok (.iload_n 2, 1) := by decide +kernel
theorem dX1_bestToName_35 : decode cX1_bestToName 35 = .ok (.if_icmp .ge 8, 3) := by decide +kernel
theorem dX1_bestToName_38 : decode cX1_bestToName 38 = .ok (.iload_n 3, 1) := by decide +kernel
theorem dX1_bestToName_39 : decode cX1_bestToName 39 = .ok (.istore_n 1, 1) := by decide +kernel
theorem dX1_bestToName_40 : decode cX1_bestToName 40 = .ok (.iload 4, 2) := by decide +kernel
theorem dX1_bestToName_42 : decode cX1_bestToName 42 = .ok (.istore_n 2, 1) := by decide +kernel
theorem dX1_bestToName_43 : decode cX1_bestToName 43 = .ok (.iinc 3 1, 3) := by decide +kernel
theorem dX1_bestToName_46 : decode cX1_bestToName 46 = .ok (.goto (-38), 3) := by decide +kernel
theorem dX1_bestToName_49 : decode cX1_bestToName 49 = .ok (.iload_n 1, 1) := by decide +kernel
theorem dX1_bestToName_50 : decode cX1_bestToName 50 = .ok (.ireturn, 1) := by decide +kernel
theorem dX1_certainIfTold_0 : decode cX1_certainIfTold 0 = .ok (.aload_n 0, 1) := by decide +kernel
theorem dX1_certainIfTold_1 : decode cX1_certainIfTold 1 = .ok (.iload_n 1, 1) := by decide +kernel
theorem dX1_certainIfTold_2 : decode cX1_certainIfTold 2 = .ok (.invokevirtual 124, 3) := by decide +kernel
theorem dX1_certainIfTold_5 : decode cX1_certainIfTold 5 = .ok (.aload_n 0, 1) := by decide +kernel
theorem dX1_certainIfTold_6 : decode cX1_certainIfTold 6 = .ok (.getfield 16, 3) := by decide +kernel
theorem dX1_certainIfTold_9 : decode cX1_certainIfTold 9 = .ok (.aload_n 0, 1) := by decide +kernel
theorem dX1_certainIfTold_10 : decode cX1_certainIfTold 10 = .ok (.getfield 10, 3) := by decide +kernel
theorem dX1_certainIfTold_13 : decode cX1_certainIfTold 13 = .ok (.invokevirtual 161, 3) := by decide +kernel
theorem dX1_certainIfTold_16 : decode cX1_certainIfTold 16 = .ok (.aload_n 0, 1) := by decide +kernel
theorem dX1_certainIfTold_17 : decode cX1_certainIfTold 17 = .ok (.getfield 16, 3) := by decide +kernel
theorem dX1_certainIfTold_20 : decode cX1_certainIfTold 20 = .ok (.iload_n 1, 1) := by decide +kernel
theorem dX1_certainIfTold_21 : decode cX1_certainIfTold 21 = .ok (.aload_n 0, 1) := by decide +kernel
theorem dX1_certainIfTold_22 : decode cX1_certainIfTold 22 = .ok (.getfield 30, 3) := by decide +kernel
theorem dX1_certainIfTold_25 : decode cX1_certainIfTold 25 = .ok (.iload_n 1, 1) := by decide +kernel
theorem dX1_certainIfTold_26 : decode cX1_certainIfTold 26 = .ok (.invokestatic 101, 3) := by decide +kernel
theorem dX1_certainIfTold_29 : decode cX1_certainIfTold 29 = .ok (.invokestatic 171, 3) := by decide +kernel
theorem dX1_certainIfTold_32 : decode cX1_certainIfTold 32 = .ok (.aload_n 0, 1) := by decide +kernel
theorem dX1_certainIfTold_33 : decode cX1_certainIfTold 33 = .ok (.aload_n 0, 1) := by decide +kernel
theorem dX1_certainIfTold_34 : decode cX1_certainIfTold 34 = .ok (.getfield 16, 3) := by decide +kernel
theorem dX1_certainIfTold_37 : decode cX1_certainIfTold 37 = .ok (.invokevirtual 157, 3) := by decide +kernel
theorem dX1_certainIfTold_40 : decode cX1_certainIfTold 40 = .ok (.ireturn, 1) := by decide +kernel
theorem dX1_meanPossible_0 : decode cX1_meanPossible 0 = .ok (.aload_n 0, 1) := by decide +kernel
theorem dX1_meanPossible_1 : decode cX1_meanPossible 1 = .ok (.getfield 26, 3) := by decide +kernel
theorem dX1_meanPossible_4 : decode cX1_meanPossible 4 = .ok (.ifCond .gt 5, 3) := by decide +kernel
theorem dX1_meanPossible_7 : decode cX1_meanPossible 7 = .ok (.dconst 0, 1) := by decide +kernel
theorem dX1_meanPossible_8 : decode cX1_meanPossible 8 = .ok (.dreturn, 1) := by decide +kernel
theorem dX1_meanPossible_9 : decode cX1_meanPossible 9 = .ok (.iconst 0, 1) := by decide +kernel
theorem dX1_meanPossible_10 : decode cX1_meanPossible 10 = .ok (.istore_n 1, 1) := by decide +kernel
theorem dX1_meanPossible_11 : decode cX1_meanPossible 11 = .ok (.iconst 0, 1) := by decide +kernel
theorem dX1_meanPossible_12 : decode cX1_meanPossible 12 = .ok (.istore_n 2, 1) := by decide +kernel
theorem dX1_meanPossible_13 : decode cX1_meanPossible 13 = .ok (.iload_n 2, 1) := by decide +kernel
theorem dX1_meanPossible_14 : decode cX1_meanPossible 14 = .ok (.aload_n 0, 1) := by decide +kernel
theorem dX1_meanPossible_15 : decode cX1_meanPossible 15 = .ok (.getfield 26, 3) := by decide +kernel
theorem dX1_meanPossible_18 : decode cX1_meanPossible 18 = .ok (.if_icmp .ge 17, 3) := by decide +kernel
theorem dX1_meanPossible_21 : decode cX1_meanPossible 21 = .ok (.iload_n 1, 1) := by decide +kernel
theorem dX1_meanPossible_22 : decode cX1_meanPossible 22 = .ok (.aload_n 0, 1) := by decide +kernel
theorem dX1_meanPossible_23 : decode cX1_meanPossible 23 = .ok (.iload_n 2, 1) := by decide +kernel
theorem dX1_meanPossible_24 : decode cX1_meanPossible 24 = .ok (.invokevirtual 133, 3) := by decide +kernel
theorem dX1_meanPossible_27 : decode cX1_meanPossible 27 = .ok (.iadd, 1) := by decide +kernel
theorem dX1_meanPossible_28 : decode cX1_meanPossible 28 = .ok (.istore_n 1, 1) := by decide +kernel
theorem dX1_meanPossible_29 : decode cX1_meanPossible 29 = .ok (.iinc 2 1, 3) := by decide +kernel
theorem dX1_meanPossible_32 : decode cX1_meanPossible 32 = .ok (.goto (-19), 3) := by decide +kernel
theorem dX1_meanPossible_35 : decode cX1_meanPossible 35 = .ok (.iload_n 1, 1) := by decide +kernel
theorem dX1_meanPossible_36 : decode cX1_meanPossible 36 = .ok (.i2d, 1) := by decide +kernel
theorem dX1_meanPossible_37 : decode cX1_meanPossible 37 = .ok (.aload_n 0, 1) := by decide +kernel
theorem dX1_meanPossible_38 : decode cX1_meanPossible 38 = .ok (.getfield 26, 3) := by decide +kernel
theorem dX1_meanPossible_41 : decode cX1_meanPossible 41 = .ok (.i2d, 1) := by decide +kernel
theorem dX1_meanPossible_42 : decode cX1_meanPossible 42 = .ok (.ddiv, 1) := by decide +kernel
theorem dX1_meanPossible_43 : decode cX1_meanPossible 43 = .ok (.dreturn, 1) := by decide +kernel
theorem dX1_digest_0 : decode cX1_digest 0 = .ok (.ldc2_w 175, 3) := by decide +kernel
theorem dX1_digest_3 : decode cX1_digest 3 = .ok (.lstore_n 1, 1) := by decide +kernel
theorem dX1_digest_4 : decode cX1_digest 4 = .ok (.lload_n 1, 1) := by decide +kernel
theorem dX1_digest_5 : decode cX1_digest 5 = .ok (.aload_n 0, 1) := by decide +kernel
theorem dX1_digest_6 : decode cX1_digest 6 = .ok (.invokevirtual 177, 3) := by decide +kernel
theorem dX1_digest_9 : decode cX1_digest 9 = .ok (.i2l, 1) := by decide +kernel
theorem dX1_digest_10 : decode cX1_digest 10 = .ok (.invokestatic 180, 3) := by decide +kernel
theorem dX1_digest_13 : decode cX1_digest 13 = .ok (.lstore_n 1, 1) := by decide +kernel
theorem dX1_digest_14 : decode cX1_digest 14 = .ok (.lload_n 1, 1) := by decide +kernel
theorem dX1_digest_15 : decode cX1_digest 15 = .ok (.aload_n 0, 1) := by decide +kernel
theorem dX1_digest_16 : decode cX1_digest 16 = .ok (.invokevirtual 184, 3) := by decide +kernel
theorem dX1_digest_19 : decode cX1_digest 19 = .ok (.i2l, 1) := by decide +kernel
theorem dX1_digest_20 : decode cX1_digest 20 = .ok (.invokestatic 180, 3) := by decide +kernel
theorem dX1_digest_23 : decode cX1_digest 23 = .ok (.lstore_n 1, 1) := by decide +kernel
theorem dX1_digest_24 : decode cX1_digest 24 = .ok (.lload_n 1, 1) := by decide +kernel
theorem dX1_digest_25 : decode cX1_digest 25 = .ok (.aload_n 0, 1) := by decide +kernel
theorem dX1_digest_26 : decode cX1_digest 26 = .ok (.invokevirtual 187, 3) := by decide +kernel
theorem dX1_digest_29 : decode cX1_digest 29 = .ok (.i2l, 1) := by decide +kernel
theorem dX1_digest_30 : decode cX1_digest 30 = .ok (.invokestatic 180, 3) := by decide +kernel
theorem dX1_digest_33 : decode cX1_digest 33 = .ok (.lstore_n 1, 1) := by decide +kernel
theorem dX1_digest_34 : decode cX1_digest 34 = .ok (.lload_n 1, 1) := by decide +kernel
theorem dX1_digest_35 : decode cX1_digest 35 = .ok (.aload_n 0, 1) := by decide +kernel
theorem dX1_digest_36 : decode cX1_digest 36 = .ok (.invokevirtual 190, 3) := by decide +kernel
theorem dX1_digest_39 : decode cX1_digest 39 = .ok (.i2l, 1) := by decide +kernel
theorem dX1_digest_40 : decode cX1_digest 40 = .ok (.invokestatic 180, 3) := by decide +kernel
theorem dX1_digest_43 : decode cX1_digest 43 = .ok (.lstore_n 1, 1) := by decide +kernel
theorem dX1_digest_44 : decode cX1_digest 44 = .ok (.lload_n 1, 1) := by decide +kernel
theorem dX1_digest_45 : decode cX1_digest 45 = .ok (.aload_n 0, 1) := by decide +kernel
theorem dX1_digest_46 : decode cX1_digest 46 = .ok (.invokevirtual 193, 3) := by decide +kernel
theorem dX1_digest_49 : decode cX1_digest 49 = .ok (.i2l, 1) := by decide +kernel
theorem dX1_digest_50 : decode cX1_digest 50 = .ok (.invokestatic 180, 3) := by decide +kernel
theorem dX1_digest_53 : decode cX1_digest 53 = .ok (.lstore_n 1, 1) := by decide +kernel
theorem dX1_digest_54 : decode cX1_digest 54 = .ok (.lload_n 1, 1) := by decide +kernel
theorem dX1_digest_55 : decode cX1_digest 55 = .ok (.aload_n 0, 1) := by decide +kernel
theorem dX1_digest_56 : decode cX1_digest 56 = .ok (.invokevirtual 196, 3) := by decide +kernel
theorem dX1_digest_59 : decode cX1_digest 59 = .ok (.i2l, 1) := by decide +kernel
theorem dX1_digest_60 : decode cX1_digest 60 = .ok (.invokestatic 180, 3) := by decide +kernel
theorem dX1_digest_63 : decode cX1_digest 63 = .ok (.lstore_n 1, 1) := by decide +kernel
theorem dX1_digest_64 : decode cX1_digest 64 = .ok (.lload_n 1, 1) := by decide +kernel
theorem dX1_digest_65 : decode cX1_digest 65 = .ok (.aload_n 0, 1) := by decide +kernel
theorem dX1_digest_66 : decode cX1_digest 66 = .ok (.invokevirtual 199, 3) := by decide +kernel
theorem dX1_digest_69 : decode cX1_digest 69 = .ok (.i2l, 1) := by decide +kernel
theorem dX1_digest_70 : decode cX1_digest 70 = .ok (.invokestatic 180, 3) := by decide +kernel
theorem dX1_digest_73 : decode cX1_digest 73 = .ok (.lstore_n 1, 1) := by decide +kernel
theorem dX1_digest_74 : decode cX1_digest 74 = .ok (.lload_n 1, 1) := by decide +kernel
theorem dX1_digest_75 : decode cX1_digest 75 = .ok (.aload_n 0, 1) := by decide +kernel
theorem dX1_digest_76 : decode cX1_digest 76 = .ok (.getfield 26, 3) := by decide +kernel
theorem dX1_digest_79 : decode cX1_digest 79 = .ok (.ifCond .le 11, 3) := by decide +kernel
theorem dX1_digest_82 : decode cX1_digest 82 = .ok (.aload_n 0, 1) := by decide +kernel
theorem dX1_digest_83 : decode cX1_digest 83 = .ok (.invokevirtual 202, 3) := by decide +kernel
theorem dX1_digest_86 : decode cX1_digest 86 = .ok (.i2l, 1) := by decide +kernel
theorem dX1_digest_87 : decode cX1_digest 87 = .ok (.goto 4, 3) := by decide +kernel
theorem dX1_digest_90 : decode cX1_digest 90 = .ok (.lconst 0, 1) := by decide +kernel
theorem dX1_digest_91 : decode cX1_digest 91 = .ok (.invokestatic 180, 3) := by decide +kernel
theorem dX1_digest_94 : decode cX1_digest 94 = .ok (.lstore_n 1, 1) := by decide +kernel
theorem dX1_digest_95 : decode cX1_digest 95 = .ok (.iconst 0, 1) := by decide +kernel
theorem dX1_digest_96 : decode cX1_digest 96 = .ok (.istore_n 3, 1) := by decide +kernel
theorem dX1_digest_97 : decode cX1_digest 97 = .ok (.iload_n 3, 1) := by decide +kernel
theorem dX1_digest_98 : decode cX1_digest 98 = .ok (.aload_n 0, 1) := by decide +kernel
theorem dX1_digest_99 : decode cX1_digest 99 = .ok (.getfield 26, 3) := by decide +kernel
theorem dX1_digest_102 : decode cX1_digest 102 = .ok (.if_icmp .ge 16, 3) := by decide +kernel
theorem dX1_digest_105 : decode cX1_digest 105 = .ok (.aload_n 0, 1) := by decide +kernel
theorem dX1_digest_106 : decode cX1_digest 106 = .ok (.lload_n 1, 1) := by decide +kernel
theorem dX1_digest_107 : decode cX1_digest 107 = .ok (.iload_n 3, 1) := by decide +kernel
theorem dX1_digest_108 : decode cX1_digest 108 = .ok (.invokevirtual 205, 3) := by decide +kernel
theorem dX1_digest_111 : decode cX1_digest 111 = .ok (.lstore_n 1, 1) := by decide +kernel
theorem dX1_digest_112 : decode cX1_digest 112 = .ok (.iinc 3 1, 3) := by decide +kernel
theorem dX1_digest_115 : decode cX1_digest 115 = .ok (.goto (-18), 3) := by decide +kernel
theorem dX1_digest_118 : decode cX1_digest 118 = .ok (.lload_n 1, 1) := by decide +kernel
theorem dX1_digest_119 : decode cX1_digest 119 = .ok (.lreturn, 1) := by decide +kernel
theorem dX1_requirePlayer_0 : decode cX1_requirePlayer 0 = .ok (.iload_n 1, 1) := by decide +kernel
theorem dX1_requirePlayer_1 : decode cX1_requirePlayer 1 = .ok (.ifCond .lt 11, 3) := by decide +kernel
theorem dX1_requirePlayer_4 : decode cX1_requirePlayer 4 = .ok (.iload_n 1, 1) := by decide +kernel
theorem dX1_requirePlayer_5 : decode cX1_requirePlayer 5 = .ok (.aload_n 0, 1) := by decide +kernel
theorem dX1_requirePlayer_6 : decode cX1_requirePlayer 6 = .ok (.getfield 26, 3) := by decide +kernel
theorem dX1_requirePlayer_9 : decode cX1_requirePlayer 9 = .ok (.if_icmp .lt 13, 3) := by decide +kernel
theorem dX1_requirePlayer_12 : decode cX1_requirePlayer 12 = .ok (.new 209, 3) := by decide +kernel
theorem dX1_requirePlayer_15 : decode cX1_requirePlayer 15 = .ok (.dup, 1) := by decide +kernel
theorem dX1_requirePlayer_16 : decode cX1_requirePlayer 16 = .ok (.ldc 211, 2) := by decide +kernel
theorem dX1_requirePlayer_18 : decode cX1_requirePlayer 18 = .ok (.invokespecial 213, 3) := by decide +kernel
theorem dX1_requirePlayer_21 : decode cX1_requirePlayer 21 = .ok (.athrow, 1) := by decide +kernel
theorem dX1_requirePlayer_22 : decode cX1_requirePlayer 22 = .ok (.return_, 1) := by decide +kernel
theorem dX1_requireTwoPlayers_0 : decode cX1_requireTwoPlayers 0 = .ok (.aload_n 0, 1) := by decide +kernel
theorem dX1_requireTwoPlayers_1 : decode cX1_requireTwoPlayers 1 = .ok (.iload_n 1, 1) := by decide +kernel
theorem dX1_requireTwoPlayers_2 : decode cX1_requireTwoPlayers 2 = .ok (.invokevirtual 124, 3) := by decide +kernel
theorem dX1_requireTwoPlayers_5 : decode cX1_requireTwoPlayers 5 = .ok (.aload_n 0, 1) := by decide +kernel
theorem dX1_requireTwoPlayers_6 : decode cX1_requireTwoPlayers 6 = .ok (.iload_n 2, 1) := by decide +kernel
theorem dX1_requireTwoPlayers_7 : decode cX1_requireTwoPlayers 7 = .ok (.invokevirtual 124, 3) := by decide +kernel
theorem dX1_requireTwoPlayers_10 : decode cX1_requireTwoPlayers 10 = .ok (.iload_n 1, 1) := by decide +kernel
theorem dX1_requireTwoPlayers_11 : decode cX1_requireTwoPlayers 11 = .ok (.iload_n 2, 1) := by decide +kernel
theorem dX1_requireTwoPlayers_12 : decode cX1_requireTwoPlayers 12 = .ok (.if_icmp .ne 13, 3) := by decide +kernel
theorem dX1_requireTwoPlayers_15 : decode cX1_requireTwoPlayers 15 = .ok (.new 214, 3) := by decide +kernel
theorem dX1_requireTwoPlayers_18 : decode cX1_requireTwoPlayers 18 = .ok (.dup, 1) := by decide +kernel
theorem dX1_requireTwoPlayers_19 : decode cX1_requireTwoPlayers 19 = .ok (.ldc 216, 2) := by decide +kernel
theorem dX1_requireTwoPlayers_21 : decode cX1_requireTwoPlayers 21 = .ok (.invokespecial 218, 3) := by decide +kernel
theorem dX1_requireTwoPlayers_24 : decode cX1_requireTwoPlayers 24 = .ok (.athrow, 1) := by decide +kernel
theorem dX1_requireTwoPlayers_25 : decode cX1_requireTwoPlayers 25 = .ok (.return_, 1) := by decide +kernel
theorem dX1_requireSomePlayer_0 : decode cX1_requireSomePlayer 0 = .ok (.aload_n 0, 1) := by decide +kernel
theorem dX1_requireSomePlayer_1 : decode cX1_requireSomePlayer 1 = .ok (.getfield 26, 3) := by decide +kernel
theorem dX1_requireSomePlayer_4 : decode cX1_requireSomePlayer 4 = .ok (.ifCond .gt 13, 3) := by decide +kernel
theorem dX1_requireSomePlayer_7 : decode cX1_requireSomePlayer 7 = .ok (.new 53, 3) := by decide +kernel
theorem dX1_requireSomePlayer_10 : decode cX1_requireSomePlayer 10 = .ok (.dup, 1) := by decide +kernel
theorem dX1_requireSomePlayer_11 : decode cX1_requireSomePlayer 11 = .ok (.ldc 219, 2) := by decide +kernel
theorem dX1_requireSomePlayer_13 : decode cX1_requireSomePlayer 13 = .ok (.invokespecial 57, 3) := by decide +kernel
theorem dX1_requireSomePlayer_16 : decode cX1_requireSomePlayer 16 = .ok (.athrow, 1) := by decide +kernel
theorem dX1_requireSomePlayer_17 : decode cX1_requireSomePlayer 17 = .ok (.return_, 1) := by decide +kernel
theorem dX1_requireColour_0 : decode cX1_requireColour 0 = .ok (.iload_n 0, 1) := by decide +kernel
theorem dX1_requireColour_1 : decode cX1_requireColour 1 = .ok (.ifCond .lt 8, 3) := by decide +kernel
theorem dX1_requireColour_4 : decode cX1_requireColour 4 = .ok (.iload_n 0, 1) := by decide +kernel
theorem dX1_requireColour_5 : decode cX1_requireColour 5 = .ok (.iconst 3, 1) := by decide +kernel
theorem dX1_requireColour_6 : decode cX1_requireColour 6 = .ok (.if_icmp .lt 13, 3) := by decide +kernel
theorem dX1_requireColour_9 : decode cX1_requireColour 9 = .ok (.new 209, 3) := by decide +kernel
theorem dX1_requireColour_12 : decode cX1_requireColour 12 = .ok (.dup, 1) := by decide +kernel
theorem dX1_requireColour_13 : decode cX1_requireColour 13 = .ok (.ldc 221, 2) := by decide +kernel
theorem dX1_requireColour_15 : decode cX1_requireColour 15 = .ok (.invokespecial 213, 3) := by decide +kernel
theorem dX1_requireColour_18 : decode cX1_requireColour 18 = .ok (.athrow, 1) := by decide +kernel
theorem dX1_requireColour_19 : decode cX1_requireColour 19 = .ok (.return_, 1) := by decide +kernel
theorem dX1_requireMany_0 : decode cX1_requireMany 0 = .ok (.iload_n 0, 1) := by decide +kernel
theorem dX1_requireMany_1 : decode cX1_requireMany 1 = .ok (.ifCond .lt 8, 3) := by decide +kernel
theorem dX1_requireMany_4 : decode cX1_requireMany 4 = .ok (.iload_n 0, 1) := by decide +kernel
theorem dX1_requireMany_5 : decode cX1_requireMany 5 = .ok (.iconst 5, 1) := by decide +kernel
theorem dX1_requireMany_6 : decode cX1_requireMany 6 = .ok (.if_icmp .le 13, 3) := by decide +kernel
theorem dX1_requireMany_9 : decode cX1_requireMany 9 = .ok (.new 214, 3) := by decide +kernel
theorem dX1_requireMany_12 : decode cX1_requireMany 12 = .ok (.dup, 1) := by decide +kernel
theorem dX1_requireMany_13 : decode cX1_requireMany 13 = .ok (.ldc 223, 2) := by decide +kernel
theorem dX1_requireMany_15 : decode cX1_requireMany 15 = .ok (.invokespecial 218, 3) := by decide +kernel
theorem dX1_requireMany_18 : decode cX1_requireMany 18 = .ok (.athrow, 1) := by decide +kernel
theorem dX1_requireMany_19 : decode cX1_requireMany 19 = .ok (.return_, 1) := by decide +kernel
theorem dX1_shiftOf_0 : decode cX1_shiftOf 0 = .ok (.iload_n 0, 1) := by decide +kernel
theorem dX1_shiftOf_1 : decode cX1_shiftOf 1 = .ok (.iconst 2, 1) := by decide +kernel
theorem dX1_shiftOf_2 : decode cX1_shiftOf 2 = .ok (.imul, 1) := by decide +kernel
theorem dX1_shiftOf_3 : decode cX1_shiftOf 3 = .ok (.ireturn, 1) := by decide +kernel
theorem dX1_hatMask_0 : decode cX1_hatMask 0 = .ok (.iconst 3, 1) := by decide +kernel
theorem dX1_hatMask_1 : decode cX1_hatMask 1 = .ok (.iload_n 0, 1) := by decide +kernel
theorem dX1_hatMask_2 : decode cX1_hatMask 2 = .ok (.invokestatic 60, 3) := by decide +kernel
theorem dX1_hatMask_5 : decode cX1_hatMask 5 = .ok (.ishl, 1) := by decide +kernel
theorem dX1_hatMask_6 : decode cX1_hatMask 6 = .ok (.ireturn, 1) := by decide +kernel
theorem dX1_colourIn_0 : decode cX1_colourIn 0 = .ok (.iload_n 0, 1) := by decide +kernel
theorem dX1_colourIn_1 : decode cX1_colourIn 1 = .ok (.iload_n 1, 1) := by decide +kernel
theorem dX1_colourIn_2 : decode cX1_colourIn 2 = .ok (.iconst 2, 1) := by decide +kernel
theorem dX1_colourIn_3 : decode cX1_colourIn 3 = .ok (.imul, 1) := by decide +kernel
theorem dX1_colourIn_4 : decode cX1_colourIn 4 = .ok (.ishr, 1) := by decide +kernel
theorem dX1_colourIn_5 : decode cX1_colourIn 5 = .ok (.iconst 3, 1) := by decide +kernel
theorem dX1_colourIn_6 : decode cX1_colourIn 6 = .ok (.iand, 1) := by decide +kernel
theorem dX1_colourIn_7 : decode cX1_colourIn 7 = .ok (.ireturn, 1) := by decide +kernel
theorem dX1_exchanged_0 : decode cX1_exchanged 0 = .ok (.iload_n 0, 1) := by decide +kernel
theorem dX1_exchanged_1 : decode cX1_exchanged 1 = .ok (.iload_n 1, 1) := by decide +kernel
theorem dX1_exchanged_2 : decode cX1_exchanged 2 = .ok (.invokestatic 101, 3) := by decide +kernel
theorem dX1_exchanged_5 : decode cX1_exchanged 5 = .ok (.iload_n 0, 1) := by decide +kernel
theorem dX1_exchanged_6 : decode cX1_exchanged 6 = .ok (.iload_n 2, 1) := by decide +kernel
theorem dX1_exchanged_7 : decode cX1_exchanged 7 = .ok (.invokestatic 101, 3) := by decide +kernel
theorem dX1_exchanged_10 : decode cX1_exchanged 10 = .ok (.ixor, 1) := by decide +kernel
theorem dX1_exchanged_11 : decode cX1_exchanged 11 = .ok (.istore_n 3, 1) := by decide +kernel
theorem dX1_exchanged_12 : decode cX1_exchanged 12 = .ok (.iload_n 0, 1) := by decide +kernel
theorem dX1_exchanged_13 : decode cX1_exchanged 13 = .ok (.iload_n 3, 1) := by decide +kernel
theorem dX1_exchanged_14 : decode cX1_exchanged 14 = .ok (.iload_n 1, 1) := by decide +kernel
theorem dX1_exchanged_15 : decode cX1_exchanged 15 = .ok (.invokestatic 60, 3) := by decide +kernel
theorem dX1_exchanged_18 : decode cX1_exchanged 18 = .ok (.ishl, 1) := by decide +kernel
theorem dX1_exchanged_19 : decode cX1_exchanged 19 = .ok (.ixor, 1) := by decide +kernel
theorem dX1_exchanged_20 : decode cX1_exchanged 20 = .ok (.iload_n 3, 1) := by decide +kernel
theorem dX1_exchanged_21 : decode cX1_exchanged 21 = .ok (.iload_n 2, 1) := by decide +kernel
theorem dX1_exchanged_22 : decode cX1_exchanged 22 = .ok (.invokestatic 60, 3) := by decide +kernel
theorem dX1_exchanged_25 : decode cX1_exchanged 25 = .ok (.ishl, 1) := by decide +kernel
theorem dX1_exchanged_26 : decode cX1_exchanged 26 = .ok (.ixor, 1) := by decide +kernel
theorem dX1_exchanged_27 : decode cX1_exchanged 27 = .ok (.ireturn, 1) := by decide +kernel
theorem dX1_hatsIn_0 : decode cX1_hatsIn 0 = .ok (.iconst 0, 1) := by decide +kernel
theorem dX1_hatsIn_1 : decode cX1_hatsIn 1 = .ok (.istore_n 3, 1) := by decide +kernel
theorem dX1_hatsIn_2 : decode cX1_hatsIn 2 = .ok (.iconst 0, 1) := by decide +kernel
theorem dX1_hatsIn_3 : decode cX1_hatsIn 3 = .ok (.istore 4, 2) := by decide +kernel
theorem dX1_hatsIn_5 : decode cX1_hatsIn 5 = .ok (.iload 4, 2) := by decide +kernel
theorem dX1_hatsIn_7 : decode cX1_hatsIn 7 = .ok (.aload_n 0, 1) := by decide +kernel
theorem dX1_hatsIn_8 : decode cX1_hatsIn 8 = .ok (.getfield 26, 3) := by decide +kernel
theorem dX1_hatsIn_11 : decode cX1_hatsIn 11 = .ok (.if_icmp .ge 22, 3) := by decide +kernel
theorem dX1_hatsIn_14 : decode cX1_hatsIn 14 = .ok (.iload_n 1, 1) := by decide +kernel
theorem dX1_hatsIn_15 : decode cX1_hatsIn 15 = .ok (.iload 4, 2) := by decide +kernel
theorem dX1_hatsIn_17 : decode cX1_hatsIn 17 = .ok (.invokestatic 101, 3) := by decide +kernel
theorem dX1_hatsIn_20 : decode cX1_hatsIn 20 = .ok (.iload_n 2, 1) := by decide +kernel
theorem dX1_hatsIn_21 : decode cX1_hatsIn 21 = .ok (.if_icmp .ne 6, 3) := by decide +kernel
theorem dX1_hatsIn_24 : decode cX1_hatsIn 24 = .ok (.iinc 3 1, 3) := by decide +kernel
theorem dX1_hatsIn_27 : decode cX1_hatsIn 27 = .ok (.iinc 4 1, 3) := by decide +kernel
theorem dX1_hatsIn_30 : decode cX1_hatsIn 30 = .ok (.goto (-25), 3) := by decide +kernel
theorem dX1_hatsIn_33 : decode cX1_hatsIn 33 = .ok (.iload_n 3, 1) := by decide +kernel
theorem dX1_hatsIn_34 : decode cX1_hatsIn 34 = .ok (.ireturn, 1) := by decide +kernel
theorem dX1_seenHatsOf_0 : decode cX1_seenHatsOf 0 = .ok (.iload_n 1, 1) := by decide +kernel
theorem dX1_seenHatsOf_1 : decode cX1_seenHatsOf 1 = .ok (.ifCond .lt 21, 3) := by decide +kernel
theorem dX1_seenHatsOf_4 : decode cX1_seenHatsOf 4 = .ok (.iload_n 1, 1) := by decide +kernel
theorem dX1_seenHatsOf_5 : decode cX1_seenHatsOf 5 = .ok (.aload_n 0, 1) := by decide +kernel
theorem dX1_seenHatsOf_6 : decode cX1_seenHatsOf 6 = .ok (.getfield 19, 3) := by decide +kernel
theorem dX1_seenHatsOf_9 : decode cX1_seenHatsOf 9 = .ok (.arraylength, 1) := by decide +kernel
theorem dX1_seenHatsOf_10 : decode cX1_seenHatsOf 10 = .ok (.if_icmp .ge 12, 3) := by decide +kernel
theorem dX1_seenHatsOf_13 : decode cX1_seenHatsOf 13 = .ok (.aload_n 0, 1) := by decide +kernel
theorem dX1_seenHatsOf_14 : decode cX1_seenHatsOf 14 = .ok (.getfield 19, 3) := by decide +kernel
theorem dX1_seenHatsOf_17 : decode cX1_seenHatsOf 17 = .ok (.iload_n 1, 1) := by decide +kernel
theorem dX1_seenHatsOf_18 : decode cX1_seenHatsOf 18 = .ok (.iaload, 1) := by decide +kernel
theorem dX1_seenHatsOf_19 : decode cX1_seenHatsOf 19 = .ok (.goto 4, 3) := by decide +kernel
theorem dX1_seenHatsOf_22 : decode cX1_seenHatsOf 22 = .ok (.iconst 0, 1) := by decide +kernel
theorem dX1_seenHatsOf_23 : decode cX1_seenHatsOf 23 = .ok (.ireturn, 1) := by decide +kernel
theorem dX1_setSeenHatsOf_0 : decode cX1_setSeenHatsOf 0 = .ok (.iload_n 1, 1) := by decide +kernel
theorem dX1_setSeenHatsOf_1 : decode cX1_setSeenHatsOf 1 = .ok (.ifCond .lt 19, 3) := by decide +kernel
theorem dX1_setSeenHatsOf_4 : decode cX1_setSeenHatsOf 4 = .ok (.iload_n 1, 1) := by decide +kernel
theorem dX1_setSeenHatsOf_5 : decode cX1_setSeenHatsOf 5 = .ok (.aload_n 0, 1) := by decide +kernel
theorem dX1_setSeenHatsOf_6 : decode cX1_setSeenHatsOf 6 = .ok (.getfield 19, 3) := by decide +kernel
theorem dX1_setSeenHatsOf_9 : decode cX1_setSeenHatsOf 9 = .ok (.arraylength, 1) := by decide +kernel
theorem dX1_setSeenHatsOf_10 : decode cX1_setSeenHatsOf 10 = .ok (.if_icmp .ge 10, 3) := by decide +kernel
theorem dX1_setSeenHatsOf_13 : decode cX1_setSeenHatsOf 13 = .ok (.aload_n 0, 1) := by decide +kernel
theorem dX1_setSeenHatsOf_14 : decode cX1_setSeenHatsOf 14 = .ok (.getfield 19, 3) := by decide +kernel
theorem dX1_setSeenHatsOf_17 : decode cX1_setSeenHatsOf 17 = .ok (.iload_n 1, 1) := by decide +kernel
theorem dX1_setSeenHatsOf_18 : decode cX1_setSeenHatsOf 18 = .ok (.iload_n 2, 1) := by decide +kernel
theorem dX1_setSeenHatsOf_19 : decode cX1_setSeenHatsOf 19 = .ok (.iastore, 1) := by decide +kernel
theorem dX1_setSeenHatsOf_20 : decode cX1_setSeenHatsOf 20 = .ok (.return_, 1) := by decide +kernel
theorem dX1_seesHat_0 : decode cX1_seesHat 0 = .ok (.aload_n 0, 1) := by decide +kernel
theorem dX1_seesHat_1 : decode cX1_seesHat 1 = .ok (.iload_n 1, 1) := by decide +kernel
theorem dX1_seesHat_2 : decode cX1_seesHat 2 = .ok (.invokevirtual 74, 3) := by decide +kernel
theorem dX1_seesHat_5 : decode cX1_seesHat 5 = .ok (.iload_n 2, 1) := by decide +kernel
theorem dX1_seesHat_6 : decode cX1_seesHat 6 = .ok (.invokestatic 77, 3) := by decide +kernel
theorem dX1_seesHat_9 : decode cX1_seesHat 9 = .ok (.iand, 1) := by decide +kernel
theorem dX1_seesHat_10 : decode cX1_seesHat 10 = .ok (.ifCond .eq 7, 3) := by decide +kernel
theorem dX1_seesHat_13 : decode cX1_seesHat 13 = .ok (.iconst 1, 1) := by decide +kernel
theorem dX1_seesHat_14 : decode cX1_seesHat 14 = .ok (.goto 4, 3) := by decide +kernel
theorem dX1_seesHat_17 : decode cX1_seesHat 17 = .ok (.iconst 0, 1) := by decide +kernel
theorem dX1_seesHat_18 : decode cX1_seesHat 18 = .ok (.ireturn, 1) := by decide +kernel
theorem dX1_lookAtEachOther_0 : decode cX1_lookAtEachOther 0 = .ok (.iconst 0, 1) := by decide +kernel
theorem dX1_lookAtEachOther_1 : decode cX1_lookAtEachOther 1 = .ok (.istore_n 2, 1) := by decide +kernel
theorem dX1_lookAtEachOther_2 : decode cX1_lookAtEachOther 2 = .ok (.iconst 0, 1) := by decide +kernel
theorem dX1_lookAtEachOther_3 : decode cX1_lookAtEachOther 3 = .ok (.istore_n 3, 1) := by decide +kernel
theorem dX1_lookAtEachOther_4 : decode cX1_lookAtEachOther 4 = .ok (.iload_n 3, 1) := by decide +kernel
theorem dX1_lookAtEachOther_5 : decode cX1_lookAtEachOther 5 = .ok (.iload_n 1, 1) := by decide +kernel
theorem dX1_lookAtEachOther_6 : decode cX1_lookAtEachOther 6 = .ok (.if_icmp .ge 31, 3) := by decide +kernel
theorem dX1_lookAtEachOther_9 : decode cX1_lookAtEachOther 9 = .ok (.aload_n 0, 1) := by decide +kernel
theorem dX1_lookAtEachOther_10 : decode cX1_lookAtEachOther 10 = .ok (.iload_n 3, 1) := by decide +kernel
theorem dX1_lookAtEachOther_11 : decode cX1_lookAtEachOther 11 = .ok (.aload_n 0, 1) := by decide +kernel
theorem dX1_lookAtEachOther_12 : decode cX1_lookAtEachOther 12 = .ok (.iload_n 3, 1) := by decide +kernel
theorem dX1_lookAtEachOther_13 : decode cX1_lookAtEachOther 13 = .ok (.invokevirtual 74, 3) := by decide +kernel
theorem dX1_lookAtEachOther_16 : decode cX1_lookAtEachOther 16 = .ok (.iload_n 1, 1) := by decide +kernel
theorem dX1_lookAtEachOther_17 : decode cX1_lookAtEachOther 17 = .ok (.invokestatic 77, 3) := by decide +kernel
theorem dX1_lookAtEachOther_20 : decode cX1_lookAtEachOther 20 = .ok (.ior, 1) := by decide +kernel
theorem dX1_lookAtEachOther_21 : decode cX1_lookAtEachOther 21 = .ok (.invokevirtual 80, 3) := by decide +kernel
theorem dX1_lookAtEachOther_24 : decode cX1_lookAtEachOther 24 = .ok (.iload_n 2, 1) := by decide +kernel
theorem dX1_lookAtEachOther_25 : decode cX1_lookAtEachOther 25 = .ok (.iload_n 3, 1) := by decide +kernel
theorem dX1_lookAtEachOther_26 : decode cX1_lookAtEachOther 26 = .ok (.invokestatic 77, 3) := by decide +kernel
theorem dX1_lookAtEachOther_29 : decode cX1_lookAtEachOther 29 = .ok (.ior, 1) := by decide +kernel
theorem dX1_lookAtEachOther_30 : decode cX1_lookAtEachOther 30 = .ok (.istore_n 2, 1) := by decide +kernel
theorem dX1_lookAtEachOther_31 : decode cX1_lookAtEachOther 31 = .ok (.iinc 3 1, 3) := by decide +kernel
theorem dX1_lookAtEachOther_34 : decode cX1_lookAtEachOther 34 = .ok (.goto (-30), 3) := by decide +kernel
theorem dX1_lookAtEachOther_37 : decode cX1_lookAtEachOther 37 = .ok (.aload_n 0, 1) := by decide +kernel
theorem dX1_lookAtEachOther_38 : decode cX1_lookAtEachOther 38 = .ok (.iload_n 1, 1) := by decide +kernel
theorem dX1_lookAtEachOther_39 : decode cX1_lookAtEachOther 39 = .ok (.iload_n 2, 1) := by decide +kernel
theorem dX1_lookAtEachOther_40 : decode cX1_lookAtEachOther 40 = .ok (.invokevirtual 80, 3) := by decide +kernel
theorem dX1_lookAtEachOther_43 : decode cX1_lookAtEachOther 43 = .ok (.return_, 1) := by decide +kernel
theorem dX1_viewOf_0 : decode cX1_viewOf 0 = .ok (.iload_n 1, 1) := by decide +kernel
theorem dX1_viewOf_1 : decode cX1_viewOf 1 = .ok (.aload_n 0, 1) := by decide +kernel
theorem dX1_viewOf_2 : decode cX1_viewOf 2 = .ok (.iload_n 2, 1) := by decide +kernel
theorem dX1_viewOf_3 : decode cX1_viewOf 3 = .ok (.invokevirtual 74, 3) := by decide +kernel
theorem dX1_viewOf_6 : decode cX1_viewOf 6 = .ok (.iand, 1) := by decide +kernel
theorem dX1_viewOf_7 : decode cX1_viewOf 7 = .ok (.sipush 1023, 3) := by decide +kernel
theorem dX1_viewOf_10 : decode cX1_viewOf 10 = .ok (.iand, 1) := by decide +kernel
theorem dX1_viewOf_11 : decode cX1_viewOf 11 = .ok (.ireturn, 1) := by decide +kernel
theorem dX1_agreesWithNow_0 : decode cX1_agreesWithNow 0 = .ok (.iload_n 1, 1) := by decide +kernel
theorem dX1_agreesWithNow_1 : decode cX1_agreesWithNow 1 = .ok (.aload_n 0, 1) := by decide +kernel
theorem dX1_agreesWithNow_2 : decode cX1_agreesWithNow 2 = .ok (.getfield 30, 3) := by decide +kernel
theorem dX1_agreesWithNow_5 : decode cX1_agreesWithNow 5 = .ok (.ixor, 1) := by decide +kernel
theorem dX1_agreesWithNow_6 : decode cX1_agreesWithNow 6 = .ok (.iload_n 2, 1) := by decide +kernel
theorem dX1_agreesWithNow_7 : decode cX1_agreesWithNow 7 = .ok (.iand, 1) := by decide +kernel
theorem dX1_agreesWithNow_8 : decode cX1_agreesWithNow 8 = .ok (.ifCond .ne 7, 3) := by decide +kernel
theorem dX1_agreesWithNow_11 : decode cX1_agreesWithNow 11 = .ok (.iconst 1, 1) := by decide +kernel
theorem dX1_agreesWithNow_12 : decode cX1_agreesWithNow 12 = .ok (.goto 4, 3) := by decide +kernel
theorem dX1_agreesWithNow_15 : decode cX1_agreesWithNow 15 = .ok (.iconst 0, 1) := by decide +kernel
theorem dX1_agreesWithNow_16 : decode cX1_agreesWithNow 16 = .ok (.ireturn, 1) := by decide +kernel
theorem dX1_openColoursOf_0 : decode cX1_openColoursOf 0 = .ok (.aload_n 0, 1) := by decide +kernel
theorem dX1_openColoursOf_1 : decode cX1_openColoursOf 1 = .ok (.getfield 10, 3) := by decide +kernel
theorem dX1_openColoursOf_4 : decode cX1_openColoursOf 4 = .ok (.invokevirtual 91, 3) := by decide +kernel
theorem dX1_openColoursOf_7 : decode cX1_openColoursOf 7 = .ok (.istore_n 2, 1) := by decide +kernel
theorem dX1_openColoursOf_8 : decode cX1_openColoursOf 8 = .ok (.iconst 1, 1) := by decide +kernel
theorem dX1_openColoursOf_9 : decode cX1_openColoursOf 9 = .ok (.istore_n 3, 1) := by decide +kernel
theorem dX1_openColoursOf_10 : decode cX1_openColoursOf 10 = .ok (.iload_n 3, 1) := by decide +kernel
theorem dX1_openColoursOf_11 : decode cX1_openColoursOf 11 = .ok (.iconst 3, 1) := by decide +kernel
theorem dX1_openColoursOf_12 : decode cX1_openColoursOf 12 = .ok (.if_icmp .ge 47, 3) := by decide +kernel
theorem dX1_openColoursOf_15 : decode cX1_openColoursOf 15 = .ok (.iconst 0, 1) := by decide +kernel
theorem dX1_openColoursOf_16 : decode cX1_openColoursOf 16 = .ok (.istore 4, 2) := by decide +kernel
theorem dX1_openColoursOf_18 : decode cX1_openColoursOf 18 = .ok (.iload 4, 2) := by decide +kernel
theorem dX1_openColoursOf_20 : decode cX1_openColoursOf 20 = .ok (.iload_n 2, 1) := by decide +kernel
theorem dX1_openColoursOf_21 : decode cX1_openColoursOf 21 = .ok (.if_icmp .ge 32, 3) := by decide +kernel
theorem dX1_openColoursOf_24 : decode cX1_openColoursOf 24 = .ok (.aload_n 0, 1) := by decide +kernel
theorem dX1_openColoursOf_25 : decode cX1_openColoursOf 25 = .ok (.getfield 10, 3) := by decide +kernel
theorem dX1_openColoursOf_28 : decode cX1_openColoursOf 28 = .ok (.aload_n 0, 1) := by decide +kernel
theorem dX1_openColoursOf_29 : decode cX1_openColoursOf 29 = .ok (.getfield 10, 3) := by decide +kernel
theorem dX1_openColoursOf_32 : decode cX1_openColoursOf 32 = .ok (.iload 4, 2) := by decide +kernel
theorem dX1_openColoursOf_34 : decode cX1_openColoursOf 34 = .ok (.invokevirtual 95, 3) := by decide +kernel
theorem dX1_openColoursOf_37 : decode cX1_openColoursOf 37 = .ok (.iload_n 3, 1) := by decide +kernel
theorem dX1_openColoursOf_38 : decode cX1_openColoursOf 38 = .ok (.iload_n 1, 1) := by decide +kernel
theorem dX1_openColoursOf_39 : decode cX1_openColoursOf 39 = .ok (.invokestatic 60, 3) := by decide +kernel
theorem dX1_openColoursOf_42 : decode cX1_openColoursOf 42 = .ok (.ishl, 1) := by decide +kernel
theorem dX1_openColoursOf_43 : decode cX1_openColoursOf 43 = .ok (.ior, 1) := by decide +kernel
theorem dX1_openColoursOf_44 : decode cX1_openColoursOf 44 = .ok (.invokevirtual 46, 3) := by decide +kernel
theorem dX1_openColoursOf_47 : decode cX1_openColoursOf 47 = .ok (.iinc 4 1, 3) := by decide +kernel
theorem dX1_openColoursOf_50 : decode cX1_openColoursOf 50 = .ok (.goto (-32), 3) := by decide +kernel
theorem dX1_openColoursOf_53 : decode cX1_openColoursOf 53 = .ok (.iinc 3 1, 3) := by decide +kernel
theorem dX1_openColoursOf_56 : decode cX1_openColoursOf 56 = .ok (.goto (-46), 3) := by decide +kernel
theorem dX1_openColoursOf_59 : decode cX1_openColoursOf 59 = .ok (.return_, 1) := by decide +kernel
theorem dX1_sayBetween_0 : decode cX1_sayBetween 0 = .ok (.aload_n 0, 1) := by decide +kernel
theorem dX1_sayBetween_1 : decode cX1_sayBetween 1 = .ok (.aload_n 0, 1) := by decide +kernel
theorem dX1_sayBetween_2 : decode cX1_sayBetween 2 = .ok (.getfield 30, 3) := by decide +kernel
theorem dX1_sayBetween_5 : decode cX1_sayBetween 5 = .ok (.iload_n 1, 1) := by decide +kernel
theorem dX1_sayBetween_6 : decode cX1_sayBetween 6 = .ok (.invokevirtual 127, 3) := by decide +kernel
theorem dX1_sayBetween_9 : decode cX1_sayBetween 9 = .ok (.istore 4, 2) := by decide +kernel
theorem dX1_sayBetween_11 : decode cX1_sayBetween 11 = .ok (.iload 4, 2) := by decide +kernel
theorem dX1_sayBetween_13 : decode cX1_sayBetween 13 = .ok (.iload_n 2, 1) := by decide +kernel
theorem dX1_sayBetween_14 : decode cX1_sayBetween 14 = .ok (.if_icmp .lt 9, 3) := by decide +kernel
theorem dX1_sayBetween_17 : decode cX1_sayBetween 17 = .ok (.iload 4, 2) := by decide +kernel
theorem dX1_sayBetween_19 : decode cX1_sayBetween 19 = .ok (.iload_n 3, 1) := by decide +kernel
theorem dX1_sayBetween_20 : decode cX1_sayBetween 20 = .ok (.if_icmp .le 13, 3) := by decide +kernel
theorem dX1_sayBetween_23 : decode cX1_sayBetween 23 = .ok (.new 53, 3) := by decide +kernel
theorem dX1_sayBetween_26 : decode cX1_sayBetween 26 = .ok (.dup, 1) := by decide +kernel
theorem dX1_sayBetween_27 : decode cX1_sayBetween 27 = .ok (.ldc 225, 2) := by decide +kernel
theorem dX1_sayBetween_29 : decode cX1_sayBetween 29 = .ok (.invokespecial 57, 3) := by decide +kernel
theorem dX1_sayBetween_32 : decode cX1_sayBetween 32 = .ok (.athrow, 1) := by decide +kernel
theorem dX1_sayBetween_33 : decode cX1_sayBetween 33 = .ok (.aload_n 0, 1) := by decide +kernel
theorem dX1_sayBetween_34 : decode cX1_sayBetween 34 = .ok (.aload_n 0, 1) := by decide +kernel
theorem dX1_sayBetween_35 : decode cX1_sayBetween 35 = .ok (.getfield 10, 3) := by decide +kernel
theorem dX1_sayBetween_38 : decode cX1_sayBetween 38 = .ok (.iload_n 1, 1) := by decide +kernel
theorem dX1_sayBetween_39 : decode cX1_sayBetween 39 = .ok (.iload_n 2, 1) := by decide +kernel
theorem dX1_sayBetween_40 : decode cX1_sayBetween 40 = .ok (.iload_n 3, 1) := by decide +kernel
theorem dX1_sayBetween_41 : decode cX1_sayBetween 41 = .ok (.invokevirtual 227, 3) := by decide +kernel
theorem dX1_sayBetween_44 : decode cX1_sayBetween 44 = .ok (.aload_n 0, 1) := by decide +kernel
theorem dX1_sayBetween_45 : decode cX1_sayBetween 45 = .ok (.iconst 1, 1) := by decide +kernel
theorem dX1_sayBetween_46 : decode cX1_sayBetween 46 = .ok (.putfield 42, 3) := by decide +kernel
theorem dX1_sayBetween_49 : decode cX1_sayBetween 49 = .ok (.aload_n 0, 1) := by decide +kernel
theorem dX1_sayBetween_50 : decode cX1_sayBetween 50 = .ok (.getfield 10, 3) := by decide +kernel
theorem dX1_sayBetween_53 : decode cX1_sayBetween 53 = .ok (.invokevirtual 91, 3) := by decide +kernel
theorem dX1_sayBetween_56 : decode cX1_sayBetween 56 = .ok (.ireturn, 1) := by decide +kernel
theorem dX1_keepWithHats_0 : decode cX1_keepWithHats 0 = .ok (.aload_n 1, 1) := by decide +kernel
theorem dX1_keepWithHats_1 : decode cX1_keepWithHats 1 = .ok (.invokevirtual 91, 3) := by decide +kernel
theorem dX1_keepWithHats_4 : decode cX1_keepWithHats 4 = .ok (.istore 5, 2) := by decide +kernel
theorem dX1_keepWithHats_6 : decode cX1_keepWithHats 6 = .ok (.aload_n 1, 1) := by decide +kernel
theorem dX1_keepWithHats_7 : decode cX1_keepWithHats 7 = .ok (.invokevirtual 121, 3) := by decide +kernel
theorem dX1_keepWithHats_10 : decode cX1_keepWithHats 10 = .ok (.iconst 0, 1) := by decide +kernel
theorem dX1_keepWithHats_11 : decode cX1_keepWithHats 11 = .ok (.istore 6, 2) := by decide +kernel
theorem dX1_keepWithHats_13 : decode cX1_keepWithHats 13 = .ok (.iload 6, 2) := by decide +kernel
theorem dX1_keepWithHats_15 : decode cX1_keepWithHats 15 = .ok (.iload 5, 2) := by decide +kernel
theorem dX1_keepWithHats_17 : decode cX1_keepWithHats 17 = .ok (.if_icmp .ge 45, 3) := by decide +kernel
theorem dX1_keepWithHats_20 : decode cX1_keepWithHats 20 = .ok (.aload_n 1, 1) := by decide +kernel
theorem dX1_keepWithHats_21 : decode cX1_keepWithHats 21 = .ok (.iload 6, 2) := by decide +kernel
theorem dX1_keepWithHats_23 : decode cX1_keepWithHats 23 = .ok (.invokevirtual 95, 3) := by decide +kernel
theorem dX1_keepWithHats_26 : decode cX1_keepWithHats 26 = .ok (.istore 7, 2) := by decide +kernel
theorem dX1_keepWithHats_28 : decode cX1_keepWithHats 28 = .ok (.aload_n 0, 1) := by decide +kernel
theorem dX1_keepWithHats_29 : decode cX1_keepWithHats 29 = .ok (.iload 7, 2) := by decide +kernel
theorem dX1_keepWithHats_31 : decode cX1_keepWithHats 31 = .ok (.iload_n 2, 1) := by decide +kernel
theorem dX1_keepWithHats_32 : decode cX1_keepWithHats 32 = .ok (.invokevirtual 127, 3) := by decide +kernel
theorem dX1_keepWithHats_35 : decode cX1_keepWithHats 35 = .ok (.istore 8, 2) := by decide +kernel
theorem dX1_keepWithHats_37 : decode cX1_keepWithHats 37 = .ok (.iload 8, 2) := by decide +kernel
theorem dX1_keepWithHats_39 : decode cX1_keepWithHats 39 = .ok (.iload_n 3, 1) := by decide +kernel
theorem dX1_keepWithHats_40 : decode cX1_keepWithHats 40 = .ok (.if_icmp .lt 16, 3) := by decide +kernel
theorem dX1_keepWithHats_43 : decode cX1_keepWithHats 43 = .ok (.iload 8, 2) := by decide +kernel
theorem dX1_keepWithHats_45 : decode cX1_keepWithHats 45 = .ok (.iload 4, 2) := by decide +kernel
theorem dX1_keepWithHats_47 : decode cX1_keepWithHats 47 = .ok (.if_icmp .gt 9, 3) := by decide +kernel
theorem dX1_keepWithHats_50 : decode cX1_keepWithHats 50 = .ok (.aload_n 1, 1) := by decide +kernel
theorem dX1_keepWithHats_51 : decode cX1_keepWithHats 51 = .ok (.iload 7, 2) := by decide +kernel
theorem dX1_keepWithHats_53 : decode cX1_keepWithHats 53 = .ok (.invokevirtual 46, 3) := by decide +kernel
theorem dX1_keepWithHats_56 : decode cX1_keepWithHats 56 = .ok (.iinc 6 1, 3) := by decide +kernel
theorem dX1_keepWithHats_59 : decode cX1_keepWithHats 59 = .ok (.goto (-46), 3) := by decide +kernel
theorem dX1_keepWithHats_62 : decode cX1_keepWithHats 62 = .ok (.return_, 1) := by decide +kernel
theorem dX1_keepWithHat_0 : decode cX1_keepWithHat 0 = .ok (.aload_n 0, 1) := by decide +kernel
theorem dX1_keepWithHat_1 : decode cX1_keepWithHat 1 = .ok (.invokevirtual 91, 3) := by decide +kernel
theorem dX1_keepWithHat_4 : decode cX1_keepWithHat 4 = .ok (.istore_n 3, 1) := by decide +kernel
theorem dX1_keepWithHat_5 : decode cX1_keepWithHat 5 = .ok (.aload_n 0, 1) := by decide +kernel
theorem dX1_keepWithHat_6 : decode cX1_keepWithHat 6 = .ok (.invokevirtual 121, 3) := by decide +kernel
theorem dX1_keepWithHat_9 : decode cX1_keepWithHat 9 = .ok (.iconst 0, 1) := by decide +kernel
theorem dX1_keepWithHat_10 : decode cX1_keepWithHat 10 = .ok (.istore 4, 2) := by decide +kernel
theorem dX1_keepWithHat_12 : decode cX1_keepWithHat 12 = .ok (.iload 4, 2) := by decide +kernel
theorem dX1_keepWithHat_14 : decode cX1_keepWithHat 14 = .ok (.iload_n 3, 1) := by decide +kernel
theorem dX1_keepWithHat_15 : decode cX1_keepWithHat 15 = .ok (.if_icmp .ge 33, 3) := by decide +kernel
theorem dX1_keepWithHat_18 : decode cX1_keepWithHat 18 = .ok (.aload_n 0, 1) := by decide +kernel
theorem dX1_keepWithHat_19 : decode cX1_keepWithHat 19 = .ok (.iload 4, 2) := by decide +kernel
theorem dX1_keepWithHat_21 : decode cX1_keepWithHat 21 = .ok (.invokevirtual 95, 3) := by decide +kernel
theorem dX1_keepWithHat_24 : decode cX1_keepWithHat 24 = .ok (.istore 5, 2) := by decide +kernel
theorem dX1_keepWithHat_26 : decode cX1_keepWithHat 26 = .ok (.iload 5, 2) := by decide +kernel
theorem dX1_keepWithHat_28 : decode cX1_keepWithHat 28 = .ok (.iload_n 1, 1) := by decide +kernel
theorem dX1_keepWithHat_29 : decode cX1_keepWithHat 29 = .ok (.invokestatic 101, 3) := by decide +kernel
theorem dX1_keepWithHat_32 : decode cX1_keepWithHat 32 = .ok (.iload_n 2, 1) := by decide +kernel
theorem dX1_keepWithHat_33 : decode cX1_keepWithHat 33 = .ok (.if_icmp .ne 9, 3) := by decide +kernel
theorem dX1_keepWithHat_36 : decode cX1_keepWithHat 36 = .ok (.aload_n 0, 1) := by decide +kernel
theorem dX1_keepWithHat_37 : decode cX1_keepWithHat 37 = .ok (.iload 5, 2) := by decide +kernel
theorem dX1_keepWithHat_39 : decode cX1_keepWithHat 39 = .ok (.invokevirtual 46, 3) := by decide +kernel
theorem dX1_keepWithHat_42 : decode cX1_keepWithHat 42 = .ok (.iinc 4 1, 3) := by decide +kernel
theorem dX1_keepWithHat_45 : decode cX1_keepWithHat 45 = .ok (.goto (-33), 3) := by decide +kernel
theorem dX1_keepWithHat_48 : decode cX1_keepWithHat 48 = .ok (.return_, 1) := by decide +kernel
theorem dX1_keepByCertainty_0 : decode cX1_keepByCertainty 0 = .ok (.aload_n 0, 1) := by decide +kernel
theorem dX1_keepByCertainty_1 : decode cX1_keepByCertainty 1 = .ok (.aload_n 1, 1) := by decide +kernel
theorem dX1_keepByCertainty_2 : decode cX1_keepByCertainty 2 = .ok (.iload_n 2, 1) := by decide +kernel
theorem dX1_keepByCertainty_3 : decode cX1_keepByCertainty 3 = .ok (.invokevirtual 147, 3) := by decide +kernel
theorem dX1_keepByCertainty_6 : decode cX1_keepByCertainty 6 = .ok (.aload_n 1, 1) := by decide +kernel
theorem dX1_keepByCertainty_7 : decode cX1_keepByCertainty 7 = .ok (.invokevirtual 91, 3) := by decide +kernel
theorem dX1_keepByCertainty_10 : decode cX1_keepByCertainty 10 = .ok (.istore 4, 2) := by decide +kernel
theorem dX1_keepByCertainty_12 : decode cX1_keepByCertainty 12 = .ok (.aload_n 1, 1) := by decide +kernel
theorem dX1_keepByCertainty_13 : decode cX1_keepByCertainty 13 = .ok (.invokevirtual 121, 3) := by decide +kernel
theorem dX1_keepByCertainty_16 : decode cX1_keepByCertainty 16 = .ok (.iconst 0, 1) := by decide +kernel
theorem dX1_keepByCertainty_17 : decode cX1_keepByCertainty 17 = .ok (.istore 5, 2) := by decide +kernel
theorem dX1_keepByCertainty_19 : decode cX1_keepByCertainty 19 = .ok (.iload 5, 2) := by decide +kernel
theorem dX1_keepByCertainty_21 : decode cX1_keepByCertainty 21 = .ok (.iload 4, 2) := by decide +kernel
theorem dX1_keepByCertainty_23 : decode cX1_keepByCertainty 23 = .ok (.if_icmp .ge 34, 3) := by decide +kernel
theorem dX1_keepByCertainty_26 : decode cX1_keepByCertainty 26 = .ok (.aload_n 1, 1) := by decide +kernel
theorem dX1_keepByCertainty_27 : decode cX1_keepByCertainty 27 = .ok (.iload 5, 2) := by decide +kernel
theorem dX1_keepByCertainty_29 : decode cX1_keepByCertainty 29 = .ok (.invokevirtual 95, 3) := by decide +kernel
theorem dX1_keepByCertainty_32 : decode cX1_keepByCertainty 32 = .ok (.istore 6, 2) := by decide +kernel
theorem dX1_keepByCertainty_34 : decode cX1_keepByCertainty 34 = .ok (.aload_n 0, 1) := by decide +kernel
theorem dX1_keepByCertainty_35 : decode cX1_keepByCertainty 35 = .ok (.iload 6, 2) := by decide +kernel
theorem dX1_keepByCertainty_37 : decode cX1_keepByCertainty 37 = .ok (.iload_n 2, 1) := by decide +kernel
theorem dX1_keepByCertainty_38 : decode cX1_keepByCertainty 38 = .ok (.invokevirtual 154, 3) := by decide +kernel
theorem dX1_keepByCertainty_41 : decode cX1_keepByCertainty 41 = .ok (.iload_n 3, 1) := by decide +kernel
theorem dX1_keepByCertainty_42 : decode cX1_keepByCertainty 42 = .ok (.if_icmp .ne 9, 3) := by decide +kernel
theorem dX1_keepByCertainty_45 : decode cX1_keepByCertainty 45 = .ok (.aload_n 1, 1) := by decide +kernel
theorem dX1_keepByCertainty_46 : decode cX1_keepByCertainty 46 = .ok (.iload 6, 2) := by decide +kernel
theorem dX1_keepByCertainty_48 : decode cX1_keepByCertainty 48 = .ok (.invokevirtual 46, 3) := by decide +kernel
theorem dX1_keepByCertainty_51 : decode cX1_keepByCertainty 51 = .ok (.iinc 5 1, 3) := by decide +kernel
theorem dX1_keepByCertainty_54 : decode cX1_keepByCertainty 54 = .ok (.goto (-35), 3) := by decide +kernel
theorem dX1_keepByCertainty_57 : decode cX1_keepByCertainty 57 = .ok (.return_, 1) := by decide +kernel
theorem dX1_countWithHat_0 : decode cX1_countWithHat 0 = .ok (.iconst 0, 1) := by decide +kernel
theorem dX1_countWithHat_1 : decode cX1_countWithHat 1 = .ok (.istore_n 3, 1) := by decide +kernel
theorem dX1_countWithHat_2 : decode cX1_countWithHat 2 = .ok (.iconst 0, 1) := by decide +kernel
theorem dX1_countWithHat_3 : decode cX1_countWithHat 3 = .ok (.istore 4, 2) := by decide +kernel
theorem dX1_countWithHat_5 : decode cX1_countWithHat 5 = .ok (.iload 4, 2) := by decide +kernel
theorem dX1_countWithHat_7 : decode cX1_countWithHat 7 = .ok (.aload_n 0, 1) := by decide +kernel
theorem dX1_countWithHat_8 : decode cX1_countWithHat 8 = .ok (.getfield 10, 3) := by decide +kernel
theorem dX1_countWithHat_11 : decode cX1_countWithHat 11 = .ok (.invokevirtual 91, 3) := by decide +kernel
theorem dX1_countWithHat_14 : decode cX1_countWithHat 14 = .ok (.if_icmp .ge 29, 3) := by decide +kernel
theorem dX1_countWithHat_17 : decode cX1_countWithHat 17 = .ok (.aload_n 0, 1) := by decide +kernel
theorem dX1_countWithHat_18 : decode cX1_countWithHat 18 = .ok (.getfield 10, 3) := by decide +kernel
theorem dX1_countWithHat_21 : decode cX1_countWithHat 21 = .ok (.iload 4, 2) := by decide +kernel
theorem dX1_countWithHat_23 : decode cX1_countWithHat 23 = .ok (.invokevirtual 95, 3) := by decide +kernel
theorem dX1_countWithHat_26 : decode cX1_countWithHat 26 = .ok (.iload_n 1, 1) := by decide +kernel
theorem dX1_countWithHat_27 : decode cX1_countWithHat 27 = .ok (.invokestatic 101, 3) := by decide +kernel
theorem dX1_countWithHat_30 : decode cX1_countWithHat 30 = .ok (.iload_n 2, 1) := by decide +kernel
theorem dX1_countWithHat_31 : decode cX1_countWithHat 31 = .ok (.if_icmp .ne 6, 3) := by decide +kernel
theorem dX1_countWithHat_34 : decode cX1_countWithHat 34 = .ok (.iinc 3 1, 3) := by decide +kernel
theorem dX1_countWithHat_37 : decode cX1_countWithHat 37 = .ok (.iinc 4 1, 3) := by decide +kernel
theorem dX1_countWithHat_40 : decode cX1_countWithHat 40 = .ok (.goto (-35), 3) := by decide +kernel
theorem dX1_countWithHat_43 : decode cX1_countWithHat 43 = .ok (.iload_n 3, 1) := by decide +kernel
theorem dX1_countWithHat_44 : decode cX1_countWithHat 44 = .ok (.ireturn, 1) := by decide +kernel
theorem dX1_countNaming_0 : decode cX1_countNaming 0 = .ok (.iconst 0, 1) := by decide +kernel
theorem dX1_countNaming_1 : decode cX1_countNaming 1 = .ok (.istore_n 2, 1) := by decide +kernel
theorem dX1_countNaming_2 : decode cX1_countNaming 2 = .ok (.iconst 0, 1) := by decide +kernel
theorem dX1_countNaming_3 : decode cX1_countNaming 3 = .ok (.istore_n 3, 1) := by decide +kernel
theorem dX1_countNaming_4 : decode cX1_countNaming 4 = .ok (.iload_n 3, 1) := by decide +kernel
theorem dX1_countNaming_5 : decode cX1_countNaming 5 = .ok (.aload_n 0, 1) := by decide +kernel
theorem dX1_countNaming_6 : decode cX1_countNaming 6 = .ok (.getfield 10, 3) := by decide +kernel
theorem dX1_countNaming_9 : decode cX1_countNaming 9 = .ok (.invokevirtual 91, 3) := by decide +kernel
theorem dX1_countNaming_12 : decode cX1_countNaming 12 = .ok (.if_icmp .ge 28, 3) := by decide +kernel
theorem dX1_countNaming_15 : decode cX1_countNaming 15 = .ok (.aload_n 0, 1) := by decide +kernel
theorem dX1_countNaming_16 : decode cX1_countNaming 16 = .ok (.aload_n 0, 1) := by decide +kernel
theorem dX1_countNaming_17 : decode cX1_countNaming 17 = .ok (.getfield 10, 3) := by decide +kernel
theorem dX1_countNaming_20 : decode cX1_countNaming 20 = .ok (.iload_n 3, 1) := by decide +kernel
theorem dX1_countNaming_21 : decode cX1_countNaming 21 = .ok (.invokevirtual 95, 3) := by decide +kernel
theorem dX1_countNaming_24 : decode cX1_countNaming 24 = .ok (.iload_n 1, 1) := by decide +kernel
theorem dX1_countNaming_25 : decode cX1_countNaming 25 = .ok (.invokevirtual 127, 3) := by decide +kernel
theorem dX1_countNaming_28 : decode cX1_countNaming 28 = .ok (.ifCond .le 6, 3) := by decide +kernel
theorem dX1_countNaming_31 : decode cX1_countNaming 31 = .ok (.iinc 2 1, 3) := by decide +kernel
theorem dX1_countNaming_34 : decode cX1_countNaming 34 = .ok (.iinc 3 1, 3) := by decide +kernel
theorem dX1_countNaming_37 : decode cX1_countNaming 37 = .ok (.goto (-33), 3) := by decide +kernel
theorem dX1_countNaming_40 : decode cX1_countNaming 40 = .ok (.iload_n 2, 1) := by decide +kernel
theorem dX1_countNaming_41 : decode cX1_countNaming 41 = .ok (.ireturn, 1) := by decide +kernel
theorem dX1_countPossible_0 : decode cX1_countPossible 0 = .ok (.iconst 0, 1) := by decide +kernel
theorem dX1_countPossible_1 : decode cX1_countPossible 1 = .ok (.istore_n 2, 1) := by decide +kernel
theorem dX1_countPossible_2 : decode cX1_countPossible 2 = .ok (.aload_n 0, 1) := by decide +kernel
theorem dX1_countPossible_3 : decode cX1_countPossible 3 = .ok (.iload_n 1, 1) := by decide +kernel
theorem dX1_countPossible_4 : decode cX1_countPossible 4 = .ok (.invokevirtual 74, 3) := by decide +kernel
theorem dX1_countPossible_7 : decode cX1_countPossible 7 = .ok (.istore_n 3, 1) := by decide +kernel
theorem dX1_countPossible_8 : decode cX1_countPossible 8 = .ok (.iconst 0, 1) := by decide +kernel
theorem dX1_countPossible_9 : decode cX1_countPossible 9 = .ok (.istore 4, 2) := by decide +kernel
theorem dX1_countPossible_11 : decode cX1_countPossible 11 = .ok (.iload 4, 2) := by decide +kernel
theorem dX1_countPossible_13 : decode cX1_countPossible 13 = .ok (.aload_n 0, 1) := by decide +kernel
theorem dX1_countPossible_14 : decode cX1_countPossible 14 = .ok (.getfield 10, 3) := by decide +kernel
theorem dX1_countPossible_17 : decode cX1_countPossible 17 = .ok (.invokevirtual 91, 3) := by decide +kernel
theorem dX1_countPossible_20 : decode cX1_countPossible 20 = .ok (.if_icmp .ge 29, 3) := by decide +kernel
theorem dX1_countPossible_23 : decode cX1_countPossible 23 = .ok (.aload_n 0, 1) := by decide +kernel
theorem dX1_countPossible_24 : decode cX1_countPossible 24 = .ok (.aload_n 0, 1) := by decide +kernel
theorem dX1_countPossible_25 : decode cX1_countPossible 25 = .ok (.getfield 10, 3) := by decide +kernel
theorem dX1_countPossible_28 : decode cX1_countPossible 28 = .ok (.iload 4, 2) := by decide +kernel
theorem dX1_countPossible_30 : decode cX1_countPossible 30 = .ok (.invokevirtual 95, 3) := by decide +kernel
theorem dX1_countPossible_33 : decode cX1_countPossible 33 = .ok (.iload_n 3, 1) := by decide +kernel
theorem dX1_countPossible_34 : decode cX1_countPossible 34 = .ok (.invokevirtual 151, 3) := by decide +kernel
theorem dX1_countPossible_37 : decode cX1_countPossible 37 = .ok (.ifCond .eq 6, 3) := by decide +kernel
theorem dX1_countPossible_40 : decode cX1_countPossible 40 = .ok (.iinc 2 1, 3) := by decide +kernel
theorem dX1_countPossible_43 : decode cX1_countPossible 43 = .ok (.iinc 4 1, 3) := by decide +kernel
theorem dX1_countPossible_46 : decode cX1_countPossible 46 = .ok (.goto (-35), 3) := by decide +kernel
theorem dX1_countPossible_49 : decode cX1_countPossible 49 = .ok (.iload_n 2, 1) := by decide +kernel
theorem dX1_countPossible_50 : decode cX1_countPossible 50 = .ok (.ireturn, 1) := by decide +kernel
theorem dX1_possibleColours_0 : decode cX1_possibleColours 0 = .ok (.iconst 0, 1) := by decide +kernel
theorem dX1_possibleColours_1 : decode cX1_possibleColours 1 = .ok (.istore 4, 2) := by decide +kernel
theorem dX1_possibleColours_3 : decode cX1_possibleColours 3 = .ok (.aload_n 0, 1) := by decide +kernel
theorem dX1_possibleColours_4 : decode cX1_possibleColours 4 = .ok (.iload_n 2, 1) := by decide +kernel
theorem dX1_possibleColours_5 : decode cX1_possibleColours 5 = .ok (.invokevirtual 74, 3) := by decide +kernel
theorem dX1_possibleColours_8 : decode cX1_possibleColours 8 = .ok (.istore 5, 2) := by decide +kernel
theorem dX1_possibleColours_10 : decode cX1_possibleColours 10 = .ok (.iconst 0, 1) := by decide +kernel
theorem dX1_possibleColours_11 : decode cX1_possibleColours 11 = .ok (.istore 6, 2) := by decide +kernel
theorem dX1_possibleColours_13 : decode cX1_possibleColours 13 = .ok (.iload 6, 2) := by decide +kernel
theorem dX1_possibleColours_15 : decode cX1_possibleColours 15 = .ok (.aload_n 1, 1) := by decide +kernel
theorem dX1_possibleColours_16 : decode cX1_possibleColours 16 = .ok (.invokevirtual 91, 3) := by decide +kernel
theorem dX1_possibleColours_19 : decode cX1_possibleColours 19 = .ok (.if_icmp .ge 41, 3) := by decide +kernel
theorem dX1_possibleColours_22 : decode cX1_possibleColours 22 = .ok (.aload_n 1, 1) := by decide +kernel
theorem dX1_possibleColours_23 : decode cX1_possibleColours 23 = .ok (.iload 6, 2) := by decide +kernel
theorem dX1_possibleColours_25 : decode cX1_possibleColours 25 = .ok (.invokevirtual 95, 3) := by decide +kernel
theorem dX1_possibleColours_28 : decode cX1_possibleColours 28 = .ok (.istore 7, 2) := by decide +kernel
theorem dX1_possibleColours_30 : decode cX1_possibleColours 30 = .ok (.aload_n 0, 1) := by decide +kernel
theorem dX1_possibleColours_31 : decode cX1_possibleColours 31 = .ok (.iload 7, 2) := by decide +kernel
theorem dX1_possibleColours_33 : decode cX1_possibleColours 33 = .ok (.iload 5, 2) := by decide +kernel
theorem dX1_possibleColours_35 : decode cX1_possibleColours 35 = .ok (.invokevirtual 151, 3) := by decide +kernel
theorem dX1_possibleColours_38 : decode cX1_possibleColours 38 = .ok (.ifCond .eq 16, 3) := by decide +kernel
theorem dX1_possibleColours_41 : decode cX1_possibleColours 41 = .ok (.iload 4, 2) := by decide +kernel
theorem dX1_possibleColours_43 : decode cX1_possibleColours 43 = .ok (.iconst 1, 1) := by decide +kernel
theorem dX1_possibleColours_44 : decode cX1_possibleColours 44 = .ok (.iload 7, 2) := by decide +kernel
theorem dX1_possibleColours_46 : decode cX1_possibleColours 46 = .ok (.iload_n 3, 1) := by decide +kernel
theorem dX1_possibleColours_47 : decode cX1_possibleColours 47 = .ok (.invokestatic 101, 3) := by decide +kernel
theorem dX1_possibleColours_50 : decode cX1_possibleColours 50 = .ok (.ishl, 1) := by decide +kernel
theorem dX1_possibleColours_51 : decode cX1_possibleColours 51 = .ok (.ior, 1) := by decide +kernel
theorem dX1_possibleColours_52 : decode cX1_possibleColours 52 = .ok (.istore 4, 2) := by decide +kernel
theorem dX1_possibleColours_54 : decode cX1_possibleColours 54 = .ok (.iinc 6 1, 3) := by decide +kernel
theorem dX1_possibleColours_57 : decode cX1_possibleColours 57 = .ok (.goto (-44), 3) := by decide +kernel
theorem dX1_possibleColours_60 : decode cX1_possibleColours 60 = .ok (.iload 4, 2) := by decide +kernel
theorem dX1_possibleColours_62 : decode cX1_possibleColours 62 = .ok (.ireturn, 1) := by decide +kernel
theorem dX1_isOneColour_0 : decode cX1_isOneColour 0 = .ok (.iload_n 0, 1) := by decide +kernel
theorem dX1_isOneColour_1 : decode cX1_isOneColour 1 = .ok (.invokestatic 231, 3) := by decide +kernel
theorem dX1_isOneColour_4 : decode cX1_isOneColour 4 = .ok (.iconst 1, 1) := by decide +kernel
theorem dX1_isOneColour_5 : decode cX1_isOneColour 5 = .ok (.if_icmp .ne 7, 3) := by decide +kernel
theorem dX1_isOneColour_8 : decode cX1_isOneColour 8 = .ok (.iconst 1, 1) := by decide +kernel
theorem dX1_isOneColour_9 : decode cX1_isOneColour 9 = .ok (.goto 4, 3) := by decide +kernel
theorem dX1_isOneColour_12 : decode cX1_isOneColour 12 = .ok (.iconst 0, 1) := by decide +kernel
theorem dX1_isOneColour_13 : decode cX1_isOneColour 13 = .ok (.ireturn, 1) := by decide +kernel
theorem dX1_isCertainBy_0 : decode cX1_isCertainBy 0 = .ok (.aload_n 0, 1) := by decide +kernel
theorem dX1_isCertainBy_1 : decode cX1_isCertainBy 1 = .ok (.aload_n 1, 1) := by decide +kernel
theorem dX1_isCertainBy_2 : decode cX1_isCertainBy 2 = .ok (.iload_n 2, 1) := by decide +kernel
theorem dX1_isCertainBy_3 : decode cX1_isCertainBy 3 = .ok (.iload_n 2, 1) := by decide +kernel
theorem dX1_isCertainBy_4 : decode cX1_isCertainBy 4 = .ok (.invokevirtual 136, 3) := by decide +kernel
theorem dX1_isCertainBy_7 : decode cX1_isCertainBy 7 = .ok (.invokestatic 143, 3) := by decide +kernel
theorem dX1_isCertainBy_10 : decode cX1_isCertainBy 10 = .ok (.ireturn, 1) := by decide +kernel
theorem dX1_countCertain_0 : decode cX1_countCertain 0 = .ok (.iconst 0, 1) := by decide +kernel
theorem dX1_countCertain_1 : decode cX1_countCertain 1 = .ok (.istore_n 2, 1) := by decide +kernel
theorem dX1_countCertain_2 : decode cX1_countCertain 2 = .ok (.iconst 0, 1) := by decide +kernel
theorem dX1_countCertain_3 : decode cX1_countCertain 3 = .ok (.istore_n 3, 1) := by decide +kernel
theorem dX1_countCertain_4 : decode cX1_countCertain 4 = .ok (.iload_n 3, 1) := by decide +kernel
theorem dX1_countCertain_5 : decode cX1_countCertain 5 = .ok (.aload_n 0, 1) := by decide +kernel
theorem dX1_countCertain_6 : decode cX1_countCertain 6 = .ok (.getfield 26, 3) := by decide +kernel
theorem dX1_countCertain_9 : decode cX1_countCertain 9 = .ok (.if_icmp .ge 21, 3) := by decide +kernel
theorem dX1_countCertain_12 : decode cX1_countCertain 12 = .ok (.aload_n 0, 1) := by decide +kernel
theorem dX1_countCertain_13 : decode cX1_countCertain 13 = .ok (.aload_n 1, 1) := by decide +kernel
theorem dX1_countCertain_14 : decode cX1_countCertain 14 = .ok (.iload_n 3, 1) := by decide +kernel
theorem dX1_countCertain_15 : decode cX1_countCertain 15 = .ok (.invokevirtual 140, 3) := by decide +kernel
theorem dX1_countCertain_18 : decode cX1_countCertain 18 = .ok (.ifCond .eq 6, 3) := by decide +kernel
theorem dX1_countCertain_21 : decode cX1_countCertain 21 = .ok (.iinc 2 1, 3) := by decide +kernel
theorem dX1_countCertain_24 : decode cX1_countCertain 24 = .ok (.iinc 3 1, 3) := by decide +kernel
theorem dX1_countCertain_27 : decode cX1_countCertain 27 = .ok (.goto (-23), 3) := by decide +kernel
theorem dX1_countCertain_30 : decode cX1_countCertain 30 = .ok (.iload_n 2, 1) := by decide +kernel
theorem dX1_countCertain_31 : decode cX1_countCertain 31 = .ok (.ireturn, 1) := by decide +kernel
theorem dX1_noteOwnColours_0 : decode cX1_noteOwnColours 0 = .ok (.iconst 0, 1) := by decide +kernel
theorem dX1_noteOwnColours_1 : decode cX1_noteOwnColours 1 = .ok (.istore_n 3, 1) := by decide +kernel
theorem dX1_noteOwnColours_2 : decode cX1_noteOwnColours 2 = .ok (.iload_n 3, 1) := by decide +kernel
theorem dX1_noteOwnColours_3 : decode cX1_noteOwnColours 3 = .ok (.aload_n 1, 1) := by decide +kernel
theorem dX1_noteOwnColours_4 : decode cX1_noteOwnColours 4 = .ok (.invokevirtual 91, 3) := by decide +kernel
theorem dX1_noteOwnColours_7 : decode cX1_noteOwnColours 7 = .ok (.if_icmp .ge 24, 3) := by decide +kernel
theorem dX1_noteOwnColours_10 : decode cX1_noteOwnColours 10 = .ok (.aload_n 0, 1) := by decide +kernel
theorem dX1_noteOwnColours_11 : decode cX1_noteOwnColours 11 = .ok (.aload_n 0, 1) := by decide +kernel
theorem dX1_noteOwnColours_12 : decode cX1_noteOwnColours 12 = .ok (.aload_n 1, 1) := by decide +kernel
theorem dX1_noteOwnColours_13 : decode cX1_noteOwnColours 13 = .ok (.iload_n 3, 1) := by decide +kernel
theorem dX1_noteOwnColours_14 : decode cX1_noteOwnColours 14 = .ok (.invokevirtual 95, 3) := by decide +kernel
theorem dX1_noteOwnColours_17 : decode cX1_noteOwnColours 17 = .ok (.iload_n 2, 1) := by decide +kernel
theorem dX1_noteOwnColours_18 : decode cX1_noteOwnColours 18 = .ok (.invokevirtual 236, 3) := by decide +kernel
theorem dX1_noteOwnColours_21 : decode cX1_noteOwnColours 21 = .ok (.iconst 0, 1) := by decide +kernel
theorem dX1_noteOwnColours_22 : decode cX1_noteOwnColours 22 = .ok (.invokevirtual 239, 3) := by decide +kernel
theorem dX1_noteOwnColours_25 : decode cX1_noteOwnColours 25 = .ok (.iinc 3 1, 3) := by decide +kernel
theorem dX1_noteOwnColours_28 : decode cX1_noteOwnColours 28 = .ok (.goto (-26), 3) := by decide +kernel
theorem dX1_noteOwnColours_31 : decode cX1_noteOwnColours 31 = .ok (.iconst 0, 1) := by decide +kernel
theorem dX1_noteOwnColours_32 : decode cX1_noteOwnColours 32 = .ok (.istore_n 3, 1) := by decide +kernel
theorem dX1_noteOwnColours_33 : decode cX1_noteOwnColours 33 = .ok (.iload_n 3, 1) := by decide +kernel
theorem dX1_noteOwnColours_34 : decode cX1_noteOwnColours 34 = .ok (.aload_n 1, 1) := by decide +kernel
theorem dX1_noteOwnColours_35 : decode cX1_noteOwnColours 35 = .ok (.invokevirtual 91, 3) := by decide +kernel
theorem dX1_noteOwnColours_38 : decode cX1_noteOwnColours 38 = .ok (.if_icmp .ge 46, 3) := by decide +kernel
theorem dX1_noteOwnColours_41 : decode cX1_noteOwnColours 41 = .ok (.aload_n 1, 1) := by decide +kernel
theorem dX1_noteOwnColours_42 : decode cX1_noteOwnColours 42 = .ok (.iload_n 3, 1) := by decide +kernel
theorem dX1_noteOwnColours_43 : decode cX1_noteOwnColours 43 = .ok (.invokevirtual 95, 3) := by decide +kernel
theorem dX1_noteOwnColours_46 : decode cX1_noteOwnColours 46 = .ok (.istore 4, 2) := by decide +kernel
theorem dX1_noteOwnColours_48 : decode cX1_noteOwnColours 48 = .ok (.aload_n 0, 1) := by decide +kernel
theorem dX1_noteOwnColours_49 : decode cX1_noteOwnColours 49 = .ok (.iload 4, 2) := by decide +kernel
theorem dX1_noteOwnColours_51 : decode cX1_noteOwnColours 51 = .ok (.iload_n 2, 1) := by decide +kernel
theorem dX1_noteOwnColours_52 : decode cX1_noteOwnColours 52 = .ok (.invokevirtual 236, 3) := by decide +kernel
theorem dX1_noteOwnColours_55 : decode cX1_noteOwnColours 55 = .ok (.istore 5, 2) := by decide +kernel
theorem dX1_noteOwnColours_57 : decode cX1_noteOwnColours 57 = .ok (.aload_n 0, 1) := by decide +kernel
theorem dX1_noteOwnColours_58 : decode cX1_noteOwnColours 58 = .ok (.iload 5, 2) := by decide +kernel
theorem dX1_noteOwnColours_60 : decode cX1_noteOwnColours 60 = .ok (.aload_n 0, 1) := by decide +kernel
theorem dX1_noteOwnColours_61 : decode cX1_noteOwnColours 61 = .ok (.iload 5, 2) := by decide +kernel
theorem dX1_noteOwnColours_63 : decode cX1_noteOwnColours 63 = .ok (.invokevirtual 242, 3) := by decide +kernel
theorem dX1_noteOwnColours_66 : decode cX1_noteOwnColours 66 = .ok (.iconst 1, 1) := by decide +kernel
theorem dX1_noteOwnColours_67 : decode cX1_noteOwnColours 67 = .ok (.iload 4, 2) := by decide +kernel
theorem dX1_noteOwnColours_69 : decode cX1_noteOwnColours 69 = .ok (.iload_n 2, 1) := by decide +kernel
theorem dX1_noteOwnColours_70 : decode cX1_noteOwnColours 70 = .ok (.invokestatic 101, 3) := by decide +kernel
theorem dX1_noteOwnColours_73 : decode cX1_noteOwnColours 73 = .ok (.ishl, 1) := by decide +kernel
theorem dX1_noteOwnColours_74 : decode cX1_noteOwnColours 74 = .ok (.ior, 1) := by decide +kernel
theorem dX1_noteOwnColours_75 : decode cX1_noteOwnColours 75 = .ok (.invokevirtual 239, 3) := by decide +kernel
theorem dX1_noteOwnColours_78 : decode cX1_noteOwnColours 78 = .ok (.iinc 3 1, 3) := by decide +kernel
theorem dX1_noteOwnColours_81 : decode cX1_noteOwnColours 81 = .ok (.goto (-48), 3) := by decide +kernel
theorem dX1_noteOwnColours_84 : decode cX1_noteOwnColours 84 = .ok (.return_, 1) := by decide +kernel
theorem dX1_ownColours_0 : decode cX1_ownColours 0 = .ok (.iload_n 1, 1) := by decide +kernel
theorem dX1_ownColours_1 : decode cX1_ownColours 1 = .ok (.ifCond .lt 21, 3) := by decide +kernel
theorem dX1_ownColours_4 : decode cX1_ownColours 4 = .ok (.iload_n 1, 1) := by decide +kernel
theorem dX1_ownColours_5 : decode cX1_ownColours 5 = .ok (.aload_n 0, 1) := by decide +kernel
theorem dX1_ownColours_6 : decode cX1_ownColours 6 = .ok (.getfield 23, 3) := by decide +kernel
theorem dX1_ownColours_9 : decode cX1_ownColours 9 = .ok (.arraylength, 1) := by decide +kernel
theorem dX1_ownColours_10 : decode cX1_ownColours 10 = .ok (.if_icmp .ge 12, 3) := by decide +kernel
theorem dX1_ownColours_13 : decode cX1_ownColours 13 = .ok (.aload_n 0, 1) := by decide +kernel
theorem dX1_ownColours_14 : decode cX1_ownColours 14 = .ok (.getfield 23, 3) := by decide +kernel
theorem dX1_ownColours_17 : decode cX1_ownColours 17 = .ok (.iload_n 1, 1) := by decide +kernel
theorem dX1_ownColours_18 : decode cX1_ownColours 18 = .ok (.iaload, 1) := by decide +kernel
theorem dX1_ownColours_19 : decode cX1_ownColours 19 = .ok (.goto 4, 3) := by decide +kernel
theorem dX1_ownColours_22 : decode cX1_ownColours 22 = .ok (.iconst 0, 1) := by decide +kernel
theorem dX1_ownColours_23 : decode cX1_ownColours 23 = .ok (.ireturn, 1) := by decide +kernel
theorem dX1_setOwnColours_0 : decode cX1_setOwnColours 0 = .ok (.iload_n 1, 1) := by decide +kernel
theorem dX1_setOwnColours_1 : decode cX1_setOwnColours 1 = .ok (.ifCond .lt 19, 3) := by decide +kernel
theorem dX1_setOwnColours_4 : decode cX1_setOwnColours 4 = .ok (.iload_n 1, 1) := by decide +kernel
theorem dX1_setOwnColours_5 : decode cX1_setOwnColours 5 = .ok (.aload_n 0, 1) := by decide +kernel
theorem dX1_setOwnColours_6 : decode cX1_setOwnColours 6 = .ok (.getfield 23, 3) := by decide +kernel
theorem dX1_setOwnColours_9 : decode cX1_setOwnColours 9 = .ok (.arraylength, 1) := by decide +kernel
theorem dX1_setOwnColours_10 : decode cX1_setOwnColours 10 = .ok (.if_icmp .ge 10, 3) := by decide +kernel
theorem dX1_setOwnColours_13 : decode cX1_setOwnColours 13 = .ok (.aload_n 0, 1) := by decide +kernel
theorem dX1_setOwnColours_14 : decode cX1_setOwnColours 14 = .ok (.getfield 23, 3) := by decide +kernel
theorem dX1_setOwnColours_17 : decode cX1_setOwnColours 17 = .ok (.iload_n 1, 1) := by decide +kernel
theorem dX1_setOwnColours_18 : decode cX1_setOwnColours 18 = .ok (.iload_n 2, 1) := by decide +kernel
theorem dX1_setOwnColours_19 : decode cX1_setOwnColours 19 = .ok (.iastore, 1) := by decide +kernel
theorem dX1_setOwnColours_20 : decode cX1_setOwnColours 20 = .ok (.return_, 1) := by decide +kernel
theorem dX1_wouldBeCertain_0 : decode cX1_wouldBeCertain 0 = .ok (.aload_n 0, 1) := by decide +kernel
theorem dX1_wouldBeCertain_1 : decode cX1_wouldBeCertain 1 = .ok (.aload_n 0, 1) := by decide +kernel
theorem dX1_wouldBeCertain_2 : decode cX1_wouldBeCertain 2 = .ok (.iload_n 1, 1) := by decide +kernel
theorem dX1_wouldBeCertain_3 : decode cX1_wouldBeCertain 3 = .ok (.iload_n 2, 1) := by decide +kernel
theorem dX1_wouldBeCertain_4 : decode cX1_wouldBeCertain 4 = .ok (.invokevirtual 236, 3) := by decide +kernel
theorem dX1_wouldBeCertain_7 : decode cX1_wouldBeCertain 7 = .ok (.invokevirtual 242, 3) := by decide +kernel
theorem dX1_wouldBeCertain_10 : decode cX1_wouldBeCertain 10 = .ok (.invokestatic 143, 3) := by decide +kernel
theorem dX1_wouldBeCertain_13 : decode cX1_wouldBeCertain 13 = .ok (.ireturn, 1) := by decide +kernel
theorem dX1_playerAfter_0 : decode cX1_playerAfter 0 = .ok (.iload_n 1, 1) := by decide +kernel
theorem dX1_playerAfter_1 : decode cX1_playerAfter 1 = .ok (.iconst 1, 1) := by decide +kernel
theorem dX1_playerAfter_2 : decode cX1_playerAfter 2 = .ok (.iadd, 1) := by decide +kernel
theorem dX1_playerAfter_3 : decode cX1_playerAfter 3 = .ok (.aload_n 0, 1) := by decide +kernel
theorem dX1_playerAfter_4 : decode cX1_playerAfter 4 = .ok (.getfield 26, 3) := by decide +kernel
theorem dX1_playerAfter_7 : decode cX1_playerAfter 7 = .ok (.if_icmp .ge 9, 3) := by decide +kernel
theorem dX1_playerAfter_10 : decode cX1_playerAfter 10 = .ok (.iload_n 1, 1) := by decide +kernel
theorem dX1_playerAfter_11 : decode cX1_playerAfter 11 = .ok (.iconst 1, 1) := by decide +kernel
theorem dX1_playerAfter_12 : decode cX1_playerAfter 12 = .ok (.iadd, 1) := by decide +kernel
theorem dX1_playerAfter_13 : decode cX1_playerAfter 13 = .ok (.goto 4, 3) := by decide +kernel
theorem dX1_playerAfter_16 : decode cX1_playerAfter 16 = .ok (.iconst 0, 1) := by decide +kernel
theorem dX1_playerAfter_17 : decode cX1_playerAfter 17 = .ok (.ireturn, 1) := by decide +kernel
theorem dX1_passTurn_0 : decode cX1_passTurn 0 = .ok (.aload_n 0, 1) := by decide +kernel
theorem dX1_passTurn_1 : decode cX1_passTurn 1 = .ok (.aload_n 1, 1) := by decide +kernel
theorem dX1_passTurn_2 : decode cX1_passTurn 2 = .ok (.iload_n 2, 1) := by decide +kernel
theorem dX1_passTurn_3 : decode cX1_passTurn 3 = .ok (.invokevirtual 140, 3) := by decide +kernel
theorem dX1_passTurn_6 : decode cX1_passTurn 6 = .ok (.istore_n 3, 1) := by decide +kernel
theorem dX1_passTurn_7 : decode cX1_passTurn 7 = .ok (.aload_n 0, 1) := by decide +kernel
theorem dX1_passTurn_8 : decode cX1_passTurn 8 = .ok (.aload_n 1, 1) := by decide +kernel
theorem dX1_passTurn_9 : decode cX1_passTurn 9 = .ok (.iload_n 2, 1) := by decide +kernel
theorem dX1_passTurn_10 : decode cX1_passTurn 10 = .ok (.iload_n 3, 1) := by decide +kernel
theorem dX1_passTurn_11 : decode cX1_passTurn 11 = .ok (.invokevirtual 245, 3) := by decide +kernel
theorem dX1_passTurn_14 : decode cX1_passTurn 14 = .ok (.iload_n 3, 1) := by decide +kernel
theorem dX1_passTurn_15 : decode cX1_passTurn 15 = .ok (.ifCond .eq 16, 3) := by decide +kernel
theorem dX1_passTurn_18 : decode cX1_passTurn 18 = .ok (.aload_n 1, 1) := by decide +kernel
theorem dX1_passTurn_19 : decode cX1_passTurn 19 = .ok (.iload_n 2, 1) := by decide +kernel
theorem dX1_passTurn_20 : decode cX1_passTurn 20 = .ok (.aload_n 0, 1) := by decide +kernel
theorem dX1_passTurn_21 : decode cX1_passTurn 21 = .ok (.getfield 30, 3) := by decide +kernel
theorem dX1_passTurn_24 : decode cX1_passTurn 24 = .ok (.iload_n 2, 1) := by decide +kernel
theorem dX1_passTurn_25 : decode cX1_passTurn 25 = .ok (.invokestatic 101, 3) := by decide +kernel
theorem dX1_passTurn_28 : decode cX1_passTurn 28 = .ok (.invokestatic 171, 3) := by decide +kernel
theorem dX1_passTurn_31 : decode cX1_passTurn 31 = .ok (.iload_n 3, 1) := by decide +kernel
theorem dX1_passTurn_32 : decode cX1_passTurn 32 = .ok (.ireturn, 1) := by decide +kernel
theorem dX1_turnsUntilCertainFrom_0 : decode cX1_turnsUntilCertainFrom 0 = .ok (.aload_n 0, 1) := by decide +kernel
theorem dX1_turnsUntilCertainFrom_1 : decode cX1_turnsUntilCertainFrom 1 = .ok (.getfield 16, 3) := by decide +kernel
theorem dX1_turnsUntilCertainFrom_4 : decode cX1_turnsUntilCertainFrom 4 = .ok (.aload_n 0, 1) := by decide +kernel
theorem dX1_turnsUntilCertainFrom_5 : decode cX1_turnsUntilCertainFrom 5 = .ok (.getfield 10, 3) := by decide +kernel
theorem dX1_turnsUntilCertainFrom_8 : decode cX1_turnsUntilCertainFrom 8 = .ok (.invokevirtual 161, 3) := by decide +kernel
theorem dX1_turnsUntilCertainFrom_11 : decode cX1_turnsUntilCertainFrom 11 = .ok (.aload_n 0, 1) := by decide +kernel
theorem dX1_turnsUntilCertainFrom_12 : decode cX1_turnsUntilCertainFrom 12 = .ok (.getfield 33, 3) := by decide +kernel
theorem dX1_turnsUntilCertainFrom_15 : decode cX1_turnsUntilCertainFrom 15 = .ok (.istore_n 3, 1) := by decide +kernel
theorem dX1_turnsUntilCertainFrom_16 : decode cX1_turnsUntilCertainFrom 16 = .ok (.iconst 0, 1) := by decide +kernel
theorem dX1_turnsUntilCertainFrom_17 : decode cX1_turnsUntilCertainFrom 17 = .ok (.istore 4, 2) := by decide +kernel
theorem dX1_turnsUntilCertainFrom_19 : decode cX1_turnsUntilCertainFrom 19 = .ok (.iload 4, 2) := by decide +kernel
theorem dX1_turnsUntilCertainFrom_21 : decode cX1_turnsUntilCertainFrom 21 = .ok (.bipush 40, 2) := by decide +kernel
theorem dX1_turnsUntilCertainFrom_23 : decode cX1_turnsUntilCertainFrom 23 = .ok (.if_icmp .ge 41, 3) := by decide +kernel
theorem dX1_turnsUntilCertainFrom_26 : decode cX1_turnsUntilCertainFrom 26 = .ok (.aload_n 0, 1) := by decide +kernel
theorem dX1_turnsUntilCertainFrom_27 : decode cX1_turnsUntilCertainFrom 27 = .ok (.aload_n 0, 1) := by decide +kernel
theorem dX1_turnsUntilCertainFrom_28 : decode cX1_turnsUntilCertainFrom 28 = .ok (.getfield 16, 3) := by decide +kernel
theorem dX1_turnsUntilCertainFrom_31 : decode cX1_turnsUntilCertainFrom 31 = .ok (.iload_n 1, 1) := by decide +kernel
theorem dX1_turnsUntilCertainFrom_32 : decode cX1_turnsUntilCertainFrom 32 = .ok (.iload_n 2, 1) := by decide +kernel
theorem dX1_turnsUntilCertainFrom_33 : decode cX1_turnsUntilCertainFrom 33 = .ok (.invokevirtual 249, 3) := by decide +kernel
theorem dX1_turnsUntilCertainFrom_36 : decode cX1_turnsUntilCertainFrom 36 = .ok (.ifCond .eq 6, 3) := by decide +kernel
theorem dX1_turnsUntilCertainFrom_39 : decode cX1_turnsUntilCertainFrom 39 = .ok (.iload 4, 2) := by decide +kernel
theorem dX1_turnsUntilCertainFrom_41 : decode cX1_turnsUntilCertainFrom 41 = .ok (.ireturn, 1) := by decide +kernel
theorem dX1_turnsUntilCertainFrom_42 : decode cX1_turnsUntilCertainFrom 42 = .ok (.aload_n 0, 1) := by decide +kernel
theorem dX1_turnsUntilCertainFrom_43 : decode cX1_turnsUntilCertainFrom 43 = .ok (.aload_n 0, 1) := by decide +kernel
theorem dX1_turnsUntilCertainFrom_44 : decode cX1_turnsUntilCertainFrom 44 = .ok (.getfield 16, 3) := by decide +kernel
theorem dX1_turnsUntilCertainFrom_47 : decode cX1_turnsUntilCertainFrom 47 = .ok (.iload_n 3, 1) := by decide +kernel
theorem dX1_turnsUntilCertainFrom_48 : decode cX1_turnsUntilCertainFrom 48 = .ok (.invokevirtual 108, 3) := by decide +kernel
theorem dX1_turnsUntilCertainFrom_51 : decode cX1_turnsUntilCertainFrom 51 = .ok (.pop, 1) := by decide +kernel
theorem dX1_turnsUntilCertainFrom_52 : decode cX1_turnsUntilCertainFrom 52 = .ok (.aload_n 0, 1) := by decide +kernel
theorem dX1_turnsUntilCertainFrom_53 : decode cX1_turnsUntilCertainFrom 53 = .ok (.iload_n 3, 1) := by decide +kernel
theorem dX1_turnsUntilCertainFrom_54 : decode cX1_turnsUntilCertainFrom 54 = .ok (.invokevirtual 112, 3) := by decide +kernel
theorem dX1_turnsUntilCertainFrom_57 : decode cX1_turnsUntilCertainFrom 57 = .ok (.istore_n 3, 1) := by decide +kernel
theorem dX1_turnsUntilCertainFrom_58 : decode cX1_turnsUntilCertainFrom 58 = .ok (.iinc 4 1, 3) := by decide +kernel
theorem dX1_turnsUntilCertainFrom_61 : decode cX1_turnsUntilCertainFrom 61 = .ok (.goto (-42), 3) := by decide +kernel
theorem dX1_turnsUntilCertainFrom_64 : decode cX1_turnsUntilCertainFrom 64 = .ok (.aload_n 0, 1) := by decide +kernel
theorem dX1_turnsUntilCertainFrom_65 : decode cX1_turnsUntilCertainFrom 65 = .ok (.aload_n 0, 1) := by decide +kernel
theorem dX1_turnsUntilCertainFrom_66 : decode cX1_turnsUntilCertainFrom 66 = .ok (.getfield 16, 3) := by decide +kernel
theorem dX1_turnsUntilCertainFrom_69 : decode cX1_turnsUntilCertainFrom 69 = .ok (.iload_n 1, 1) := by decide +kernel
theorem dX1_turnsUntilCertainFrom_70 : decode cX1_turnsUntilCertainFrom 70 = .ok (.iload_n 2, 1) := by decide +kernel
theorem dX1_turnsUntilCertainFrom_71 : decode cX1_turnsUntilCertainFrom 71 = .ok (.invokevirtual 249, 3) := by decide +kernel
theorem dX1_turnsUntilCertainFrom_74 : decode cX1_turnsUntilCertainFrom 74 = .ok (.ifCond .eq 8, 3) := by decide +kernel
theorem dX1_turnsUntilCertainFrom_77 : decode cX1_turnsUntilCertainFrom 77 = .ok (.bipush 40, 2) := by decide +kernel
theorem dX1_turnsUntilCertainFrom_79 : decode cX1_turnsUntilCertainFrom 79 = .ok (.goto 4, 3) := by decide +kernel
theorem dX1_turnsUntilCertainFrom_82 : decode cX1_turnsUntilCertainFrom 82 = .ok (.iconst (-1), 1) := by decide +kernel
theorem dX1_turnsUntilCertainFrom_83 : decode cX1_turnsUntilCertainFrom 83 = .ok (.ireturn, 1) := by decide +kernel
theorem dX1_areCertainBy_0 : decode cX1_areCertainBy 0 = .ok (.iload_n 2, 1) := by decide +kernel
theorem dX1_areCertainBy_1 : decode cX1_areCertainBy 1 = .ok (.istore 4, 2) := by decide +kernel
theorem dX1_areCertainBy_3 : decode cX1_areCertainBy 3 = .ok (.iload 4, 2) := by decide +kernel
theorem dX1_areCertainBy_5 : decode cX1_areCertainBy 5 = .ok (.iload_n 3, 1) := by decide +kernel
theorem dX1_areCertainBy_6 : decode cX1_areCertainBy 6 = .ok (.if_icmp .gt 21, 3) := by decide +kernel
theorem dX1_areCertainBy_9 : decode cX1_areCertainBy 9 = .ok (.aload_n 0, 1) := by decide +kernel
theorem dX1_areCertainBy_10 : decode cX1_areCertainBy 10 = .ok (.aload_n 1, 1) := by decide +kernel
theorem dX1_areCertainBy_11 : decode cX1_areCertainBy 11 = .ok (.iload 4, 2) := by decide +kernel
theorem dX1_areCertainBy_13 : decode cX1_areCertainBy 13 = .ok (.invokevirtual 140, 3) := by decide +kernel
theorem dX1_areCertainBy_16 : decode cX1_areCertainBy 16 = .ok (.ifCond .ne 5, 3) := by decide +kernel
theorem dX1_areCertainBy_19 : decode cX1_areCertainBy 19 = .ok (.iconst 0, 1) := by decide +kernel
theorem dX1_areCertainBy_20 : decode cX1_areCertainBy 20 = .ok (.ireturn, 1) := by decide +kernel
theorem dX1_areCertainBy_21 : decode cX1_areCertainBy 21 = .ok (.iinc 4 1, 3) := by decide +kernel
theorem dX1_areCertainBy_24 : decode cX1_areCertainBy 24 = .ok (.goto (-21), 3) := by decide +kernel
theorem dX1_areCertainBy_27 : decode cX1_areCertainBy 27 = .ok (.iconst 1, 1) := by decide +kernel
theorem dX1_areCertainBy_28 : decode cX1_areCertainBy 28 = .ok (.ireturn, 1) := by decide +kernel
theorem dX1_digested_0 : decode cX1_digested 0 = .ok (.lload_n 0, 1) := by decide +kernel
theorem dX1_digested_1 : decode cX1_digested 1 = .ok (.ldc2_w 253, 3) := by decide +kernel
theorem dX1_digested_4 : decode cX1_digested 4 = .ok (.lmul, 1) := by decide +kernel
theorem dX1_digested_5 : decode cX1_digested 5 = .ok (.lload_n 2, 1) := by decide +kernel
theorem dX1_digested_6 : decode cX1_digested 6 = .ok (.ladd, 1) := by decide +kernel
theorem dX1_digested_7 : decode cX1_digested 7 = .ok (.lreturn, 1) := by decide +kernel
theorem dX1_digested__0 : decode cX1_digested_ 0 = .ok (.lload_n 0, 1) := by decide +kernel
theorem dX1_digested__1 : decode cX1_digested_ 1 = .ok (.iload_n 2, 1) := by decide +kernel
theorem dX1_digested__2 : decode cX1_digested_ 2 = .ok (.ifCond .eq 7, 3) := by decide +kernel
theorem dX1_digested__5 : decode cX1_digested_ 5 = .ok (.lconst 1, 1) := by decide +kernel
theorem dX1_digested__6 : decode cX1_digested_ 6 = .ok (.goto 4, 3) := by decide +kernel
theorem dX1_digested__9 : decode cX1_digested_ 9 = .ok (.lconst 0, 1) := by decide +kernel
theorem dX1_digested__10 : decode cX1_digested_ 10 = .ok (.invokestatic 180, 3) := by decide +kernel
theorem dX1_digested__13 : decode cX1_digested_ 13 = .ok (.lreturn, 1) := by decide +kernel
theorem dX1_digestedPlayer_0 : decode cX1_digestedPlayer 0 = .ok (.lload_n 1, 1) := by decide +kernel
theorem dX1_digestedPlayer_1 : decode cX1_digestedPlayer 1 = .ok (.lstore 4, 2) := by decide +kernel
theorem dX1_digestedPlayer_3 : decode cX1_digestedPlayer 3 = .ok (.lload 4, 2) := by decide +kernel
theorem dX1_digestedPlayer_5 : decode cX1_digestedPlayer 5 = .ok (.aload_n 0, 1) := by decide +kernel
theorem dX1_digestedPlayer_6 : decode cX1_digestedPlayer 6 = .ok (.iload_n 3, 1) := by decide +kernel
theorem dX1_digestedPlayer_7 : decode cX1_digestedPlayer 7 = .ok (.invokevirtual 255, 3) := by decide +kernel
theorem dX1_digestedPlayer_10 : decode cX1_digestedPlayer 10 = .ok (.i2l, 1) := by decide +kernel
theorem dX1_digestedPlayer_11 : decode cX1_digestedPlayer 11 = .ok (.invokestatic 180, 3) := by decide +kernel
theorem dX1_digestedPlayer_14 : decode cX1_digestedPlayer 14 = .ok (.lstore 4, 2) := by decide +kernel
theorem dX1_digestedPlayer_16 : decode cX1_digestedPlayer 16 = .ok (.lload 4, 2) := by decide +kernel
theorem dX1_digestedPlayer_18 : decode cX1_digestedPlayer 18 = .ok (.aload_n 0, 1) := by decide +kernel
theorem dX1_digestedPlayer_19 : decode cX1_digestedPlayer 19 = .ok (.iload_n 3, 1) := by decide +kernel
theorem dX1_digestedPlayer_20 : decode cX1_digestedPlayer 20 = .ok (.invokevirtual 258, 3) := by decide +kernel
theorem dX1_digestedPlayer_23 : decode cX1_digestedPlayer 23 = .ok (.i2l, 1) := by decide +kernel
theorem dX1_digestedPlayer_24 : decode cX1_digestedPlayer 24 = .ok (.invokestatic 180, 3) := by decide +kernel
theorem dX1_digestedPlayer_27 : decode cX1_digestedPlayer 27 = .ok (.lstore 4, 2) := by decide +kernel
theorem dX1_digestedPlayer_29 : decode cX1_digestedPlayer 29 = .ok (.lload 4, 2) := by decide +kernel
theorem dX1_digestedPlayer_31 : decode cX1_digestedPlayer 31 = .ok (.aload_n 0, 1) := by decide +kernel
theorem dX1_digestedPlayer_32 : decode cX1_digestedPlayer 32 = .ok (.iload_n 3, 1) := by decide +kernel
theorem dX1_digestedPlayer_33 : decode cX1_digestedPlayer 33 = .ok (.invokevirtual 261, 3) := by decide +kernel
theorem dX1_digestedPlayer_36 : decode cX1_digestedPlayer 36 = .ok (.invokestatic 264, 3) := by decide +kernel
theorem dX1_digestedPlayer_39 : decode cX1_digestedPlayer 39 = .ok (.lstore 4, 2) := by decide +kernel
theorem dX1_digestedPlayer_41 : decode cX1_digestedPlayer 41 = .ok (.lload 4, 2) := by decide +kernel
theorem dX1_digestedPlayer_43 : decode cX1_digestedPlayer 43 = .ok (.aload_n 0, 1) := by decide +kernel
theorem dX1_digestedPlayer_44 : decode cX1_digestedPlayer 44 = .ok (.iload_n 3, 1) := by decide +kernel
theorem dX1_digestedPlayer_45 : decode cX1_digestedPlayer 45 = .ok (.invokevirtual 267, 3) := by decide +kernel
theorem dX1_digestedPlayer_48 : decode cX1_digestedPlayer 48 = .ok (.invokestatic 264, 3) := by decide +kernel
theorem dX1_digestedPlayer_51 : decode cX1_digestedPlayer 51 = .ok (.lstore 4, 2) := by decide +kernel
theorem dX1_digestedPlayer_53 : decode cX1_digestedPlayer 53 = .ok (.lload 4, 2) := by decide +kernel
theorem dX1_digestedPlayer_55 : decode cX1_digestedPlayer 55 = .ok (.aload_n 0, 1) := by decide +kernel
theorem dX1_digestedPlayer_56 : decode cX1_digestedPlayer 56 = .ok (.iload_n 3, 1) := by decide +kernel
theorem dX1_digestedPlayer_57 : decode cX1_digestedPlayer 57 = .ok (.invokevirtual 270, 3) := by decide +kernel
theorem dX1_digestedPlayer_60 : decode cX1_digestedPlayer 60 = .ok (.i2l, 1) := by decide +kernel
theorem dX1_digestedPlayer_61 : decode cX1_digestedPlayer 61 = .ok (.invokestatic 180, 3) := by decide +kernel
theorem dX1_digestedPlayer_64 : decode cX1_digestedPlayer 64 = .ok (.lstore 4, 2) := by decide +kernel
theorem dX1_digestedPlayer_66 : decode cX1_digestedPlayer 66 = .ok (.iconst 0, 1) := by decide +kernel
theorem dX1_digestedPlayer_67 : decode cX1_digestedPlayer 67 = .ok (.istore 6, 2) := by decide +kernel
theorem dX1_digestedPlayer_69 : decode cX1_digestedPlayer 69 = .ok (.iload 6, 2) := by decide +kernel
theorem dX1_digestedPlayer_71 : decode cX1_digestedPlayer 71 = .ok (.aload_n 0, 1) := by decide +kernel
theorem dX1_digestedPlayer_72 : decode cX1_digestedPlayer 72 = .ok (.getfield 26, 3) := by decide +kernel
theorem dX1_digestedPlayer_75 : decode cX1_digestedPlayer 75 = .ok (.if_icmp .ge 51, 3) := by decide +kernel
theorem dX1_digestedPlayer_78 : decode cX1_digestedPlayer 78 = .ok (.lload 4, 2) := by decide +kernel
theorem dX1_digestedPlayer_80 : decode cX1_digestedPlayer 80 = .ok (.aload_n 0, 1) := by decide +kernel
theorem dX1_digestedPlayer_81 : decode cX1_digestedPlayer 81 = .ok (.iload_n 3, 1) := by decide +kernel
theorem dX1_digestedPlayer_82 : decode cX1_digestedPlayer 82 = .ok (.iload 6, 2) := by decide +kernel
theorem dX1_digestedPlayer_84 : decode cX1_digestedPlayer 84 = .ok (.invokevirtual 273, 3) := by decide +kernel
theorem dX1_digestedPlayer_87 : decode cX1_digestedPlayer 87 = .ok (.invokestatic 264, 3) := by decide +kernel
theorem dX1_digestedPlayer_90 : decode cX1_digestedPlayer 90 = .ok (.lstore 4, 2) := by decide +kernel
theorem dX1_digestedPlayer_92 : decode cX1_digestedPlayer 92 = .ok (.lload 4, 2) := by decide +kernel
theorem dX1_digestedPlayer_94 : decode cX1_digestedPlayer 94 = .ok (.aload_n 0, 1) := by decide +kernel
theorem dX1_digestedPlayer_95 : decode cX1_digestedPlayer 95 = .ok (.iload_n 3, 1) := by decide +kernel
theorem dX1_digestedPlayer_96 : decode cX1_digestedPlayer 96 = .ok (.iload 6, 2) := by decide +kernel
theorem dX1_digestedPlayer_98 : decode cX1_digestedPlayer 98 = .ok (.invokevirtual 276, 3) := by decide +kernel
theorem dX1_digestedPlayer_101 : decode cX1_digestedPlayer 101 = .ok (.invokestatic 264, 3) := by decide +kernel
theorem dX1_digestedPlayer_104 : decode cX1_digestedPlayer 104 = .ok (.lstore 4, 2) := by decide +kernel
theorem dX1_digestedPlayer_106 : decode cX1_digestedPlayer 106 = .ok (.lload 4, 2) := by decide +kernel
theorem dX1_digestedPlayer_108 : decode cX1_digestedPlayer 108 = .ok (.aload_n 0, 1) := by decide +kernel
theorem dX1_digestedPlayer_109 : decode cX1_digestedPlayer 109 = .ok (.iload_n 3, 1) := by decide +kernel
theorem dX1_digestedPlayer_110 : decode cX1_digestedPlayer 110 = .ok (.iload 6, 2) := by decide +kernel
theorem dX1_digestedPlayer_112 : decode cX1_digestedPlayer 112 = .ok (.invokevirtual 279, 3) := by decide +kernel
theorem dX1_digestedPlayer_115 : decode cX1_digestedPlayer 115 = .ok (.invokestatic 264, 3) := by decide +kernel
theorem dX1_digestedPlayer_118 : decode cX1_digestedPlayer 118 = .ok (.lstore 4, 2) := by decide +kernel
theorem dX1_digestedPlayer_120 : decode cX1_digestedPlayer 120 = .ok (.iinc 6 1, 3) := by decide +kernel
theorem dX1_digestedPlayer_123 : decode cX1_digestedPlayer 123 = .ok (.goto (-54), 3) := by decide +kernel
theorem dX1_digestedPlayer_126 : decode cX1_digestedPlayer 126 = .ok (.lload 4, 2) := by decide +kernel
theorem dX1_digestedPlayer_128 : decode cX1_digestedPlayer 128 = .ok (.lreturn, 1) := by decide +kernel
theorem dX2_init_0 : decode cX2_init 0 = .ok (.aload_n 0, 1) := by decide +kernel
theorem dX2_init_1 : decode cX2_init 1 = .ok (.invokespecial 1, 3) := by decide +kernel
theorem dX2_init_4 : decode cX2_init 4 = .ok (.aload_n 0, 1) := by decide +kernel
theorem dX2_init_5 : decode cX2_init 5 = .ok (.iconst 5, 1) := by decide +kernel
theorem dX2_init_6 : decode cX2_init 6 = .ok (.newarray .int, 2) := by decide +kernel
theorem dX2_init_8 : decode cX2_init 8 = .ok (.putfield 9, 3) := by decide +kernel
theorem dX2_init_11 : decode cX2_init 11 = .ok (.aload_n 0, 1) := by decide +kernel
theorem dX2_init_12 : decode cX2_init 12 = .ok (.iconst 5, 1) := by decide +kernel
theorem dX2_init_13 : decode cX2_init 13 = .ok (.newarray .int, 2) := by decide +kernel
theorem dX2_init_15 : decode cX2_init 15 = .ok (.putfield 13, 3) := by decide +kernel
theorem dX2_init_18 : decode cX2_init 18 = .ok (.aload_n 0, 1) := by decide +kernel
theorem dX2_init_19 : decode cX2_init 19 = .ok (.sipush 243, 3) := by decide +kernel
theorem dX2_init_22 : decode cX2_init 22 = .ok (.newarray .boolean, 2) := by decide +kernel
theorem dX2_init_24 : decode cX2_init 24 = .ok (.putfield 16, 3) := by decide +kernel
theorem dX2_init_27 : decode cX2_init 27 = .ok (.aload_n 0, 1) := by decide +kernel
theorem dX2_init_28 : decode cX2_init 28 = .ok (.sipush 243, 3) := by decide +kernel
theorem dX2_init_31 : decode cX2_init 31 = .ok (.newarray .boolean, 2) := by decide +kernel
theorem dX2_init_33 : decode cX2_init 33 = .ok (.putfield 20, 3) := by decide +kernel
theorem dX2_init_36 : decode cX2_init 36 = .ok (.aload_n 0, 1) := by decide +kernel
theorem dX2_init_37 : decode cX2_init 37 = .ok (.sipush 243, 3) := by decide +kernel
theorem dX2_init_40 : decode cX2_init 40 = .ok (.newarray .boolean, 2) := by decide +kernel
theorem dX2_init_42 : decode cX2_init 42 = .ok (.putfield 23, 3) := by decide +kernel
theorem dX2_init_45 : decode cX2_init 45 = .ok (.aload_n 0, 1) := by decide +kernel
theorem dX2_init_46 : decode cX2_init 46 = .ok (.sipush 243, 3) := by decide +kernel
theorem dX2_init_49 : decode cX2_init 49 = .ok (.newarray .int, 2) := by decide +kernel
theorem dX2_init_51 : decode cX2_init 51 = .ok (.putfield 26, 3) := by decide +kernel
theorem dX2_init_54 : decode cX2_init 54 = .ok (.aload_n 0, 1) := by decide +kernel
theorem dX2_init_55 : decode cX2_init 55 = .ok (.getfield 16, 3) := by decide +kernel
theorem dX2_init_58 : decode cX2_init 58 = .ok (.iconst 0, 1) := by decide +kernel
theorem dX2_init_59 : decode cX2_init 59 = .ok (.iconst 1, 1) := by decide +kernel
theorem dX2_init_60 : decode cX2_init 60 = .ok (.bastore, 1) := by decide +kernel
theorem dX2_init_61 : decode cX2_init 61 = .ok (.return_, 1) := by decide +kernel
theorem dX2_thrown_0 : decode cX2_thrown 0 = .ok (.aload_n 0, 1) := by decide +kernel
theorem dX2_thrown_1 : decode cX2_thrown 1 = .ok (.getfield 29, 3) := by decide +kernel
theorem dX2_thrown_4 : decode cX2_thrown 4 = .ok (.ireturn, 1) := by decide +kernel
theorem dX2_fail_0 : decode cX2_fail 0 = .ok (.aload_n 0, 1) := by decide +kernel
theorem dX2_fail_1 : decode cX2_fail 1 = .ok (.iload_n 1, 1) := by decide +kernel
theorem dX2_fail_2 : decode cX2_fail 2 = .ok (.putfield 29, 3) := by decide +kernel
theorem dX2_fail_5 : decode cX2_fail 5 = .ok (.iconst 0, 1) := by decide +kernel
theorem dX2_fail_6 : decode cX2_fail 6 = .ok (.ireturn, 1) := by decide +kernel
theorem dX2_told_0 : decode cX2_told 0 = .ok (.aload_n 0, 1) := by decide +kernel
theorem dX2_told_1 : decode cX2_told 1 = .ok (.iconst 0, 1) := by decide +kernel
theorem dX2_told_2 : decode cX2_told 2 = .ok (.putfield 29, 3) := by decide +kernel
theorem dX2_told_5 : decode cX2_told 5 = .ok (.iload_n 1, 1) := by decide +kernel
theorem dX2_told_6 : decode cX2_told 6 = .ok (.ireturn, 1) := by decide +kernel
theorem dX2_isIn_0 : decode cX2_isIn 0 = .ok (.iload_n 0, 1) := by decide +kernel
theorem dX2_isIn_1 : decode cX2_isIn 1 = .ok (.iload_n 1, 1) := by decide +kernel
theorem dX2_isIn_2 : decode cX2_isIn 2 = .ok (.if_icmp .lt 12, 3) := by decide +kernel
theorem dX2_isIn_5 : decode cX2_isIn 5 = .ok (.iload_n 0, 1) := by decide +kernel
theorem dX2_isIn_6 : decode cX2_isIn 6 = .ok (.iload_n 2, 1) := by decide +kernel
theorem dX2_isIn_7 : decode cX2_isIn 7 = .ok (.if_icmp .gt 7, 3) := by decide +kernel
theorem dX2_isIn_10 : decode cX2_isIn 10 = .ok (.iconst 1, 1) := by decide +kernel
theorem dX2_isIn_11 : decode cX2_isIn 11 = .ok (.goto 4, 3) := by decide +kernel
theorem dX2_isIn_14 : decode cX2_isIn 14 = .ok (.iconst 0, 1) := by decide +kernel
theorem dX2_isIn_15 : decode cX2_isIn 15 = .ok (.ireturn, 1) := by decide +kernel
theorem dX2_isPlayer_0 : decode cX2_isPlayer 0 = .ok (.iload_n 1, 1) := by decide +kernel
theorem dX2_isPlayer_1 : decode cX2_isPlayer 1 = .ok (.iconst 0, 1) := by decide +kernel
theorem dX2_isPlayer_2 : decode cX2_isPlayer 2 = .ok (.aload_n 0, 1) := by decide +kernel
theorem dX2_isPlayer_3 : decode cX2_isPlayer 3 = .ok (.getfield 33, 3) := by decide +kernel
theorem dX2_isPlayer_6 : decode cX2_isPlayer 6 = .ok (.iconst 1, 1) := by decide +kernel
theorem dX2_isPlayer_7 : decode cX2_isPlayer 7 = .ok (.isub, 1) := by decide +kernel
theorem dX2_isPlayer_8 : decode cX2_isPlayer 8 = .ok (.invokestatic 36, 3) := by decide +kernel
theorem dX2_isPlayer_11 : decode cX2_isPlayer 11 = .ok (.ireturn, 1) := by decide +kernel
theorem dX2_isColour_0 : decode cX2_isColour 0 = .ok (.iload_n 0, 1) := by decide +kernel
theorem dX2_isColour_1 : decode cX2_isColour 1 = .ok (.iconst 0, 1) := by decide +kernel
theorem dX2_isColour_2 : decode cX2_isColour 2 = .ok (.iconst 2, 1) := by decide +kernel
theorem dX2_isColour_3 : decode cX2_isColour 3 = .ok (.invokestatic 36, 3) := by decide +kernel
theorem dX2_isColour_6 : decode cX2_isColour 6 = .ok (.ireturn, 1) := by decide +kernel
theorem dX2_ways_0 : decode cX2_ways 0 = .ok (.getstatic 40, 3) := by decide +kernel
theorem dX2_ways_3 : decode cX2_ways 3 = .ok (.aload_n 0, 1) := by decide +kernel
theorem dX2_ways_4 : decode cX2_ways 4 = .ok (.getfield 33, 3) := by decide +kernel
theorem dX2_ways_7 : decode cX2_ways 7 = .ok (.iaload, 1) := by decide +kernel
theorem dX2_ways_8 : decode cX2_ways 8 = .ok (.ireturn, 1) := by decide +kernel
theorem dX2_colour_0 : decode cX2_colour 0 = .ok (.iload_n 0, 1) := by decide +kernel
theorem dX2_colour_1 : decode cX2_colour 1 = .ok (.getstatic 40, 3) := by decide +kernel
theorem dX2_colour_4 : decode cX2_colour 4 = .ok (.iload_n 1, 1) := by decide +kernel
theorem dX2_colour_5 : decode cX2_colour 5 = .ok (.iaload, 1) := by decide +kernel
theorem dX2_colour_6 : decode cX2_colour 6 = .ok (.idiv, 1) := by decide +kernel
theorem dX2_colour_7 : decode cX2_colour 7 = .ok (.iconst 3, 1) := by decide +kernel
theorem dX2_colour_8 : decode cX2_colour 8 = .ok (.irem, 1) := by decide +kernel
theorem dX2_colour_9 : decode cX2_colour 9 = .ok (.ireturn, 1) := by decide +kernel
theorem dX2_real_0 : decode cX2_real 0 = .ok (.iconst 0, 1) := by decide +kernel
theorem dX2_real_1 : decode cX2_real 1 = .ok (.istore_n 1, 1) := by decide +kernel
theorem dX2_real_2 : decode cX2_real 2 = .ok (.iconst 0, 1) := by decide +kernel
theorem dX2_real_3 : decode cX2_real 3 = .ok (.istore_n 2, 1) := by decide +kernel
theorem dX2_real_4 : decode cX2_real 4 = .ok (.iload_n 2, 1) := by decide +kernel
theorem dX2_real_5 : decode cX2_real 5 = .ok (.aload_n 0, 1) := by decide +kernel
theorem dX2_real_6 : decode cX2_real 6 = .ok (.getfield 33, 3) := by decide +kernel
theorem dX2_real_9 : decode cX2_real 9 = .ok (.if_icmp .ge 24, 3) := by decide +kernel
theorem dX2_real_12 : decode cX2_real 12 = .ok (.iload_n 1, 1) := by decide +kernel
theorem dX2_real_13 : decode cX2_real 13 = .ok (.aload_n 0, 1) := by decide +kernel
theorem dX2_real_14 : decode cX2_real 14 = .ok (.getfield 9, 3) := by decide +kernel
theorem dX2_real_17 : decode cX2_real 17 = .ok (.iload_n 2, 1) := by decide +kernel
theorem dX2_real_18 : decode cX2_real 18 = .ok (.iaload, 1) := by decide +kernel
theorem dX2_real_19 : decode cX2_real 19 = .ok (.getstatic 40, 3) := by decide +kernel
theorem dX2_real_22 : decode cX2_real 22 = .ok (.iload_n 2, 1) := by decide +kernel
theorem dX2_real_23 : decode cX2_real 23 = .ok (.iaload, 1) := by decide +kernel
theorem dX2_real_24 : decode cX2_real 24 = .ok (.imul, 1) := by decide +kernel
theorem dX2_real_25 : decode cX2_real 25 = .ok (.iadd, 1) := by decide +kernel
theorem dX2_real_26 : decode cX2_real 26 = .ok (.istore_n 1, 1) := by decide +kernel
theorem dX2_real_27 : decode cX2_real 27 = .ok (.iinc 2 1, 3) := by decide +kernel
theorem dX2_real_30 : decode cX2_real 30 = .ok (.goto (-26), 3) := by decide +kernel
theorem dX2_real_33 : decode cX2_real 33 = .ok (.iload_n 1, 1) := by decide +kernel
theorem dX2_real_34 : decode cX2_real 34 = .ok (.ireturn, 1) := by decide +kernel
theorem dX2_sees_0 : decode cX2_sees 0 = .ok (.aload_n 0, 1) := by decide +kernel
theorem dX2_sees_1 : decode cX2_sees 1 = .ok (.getfield 13, 3) := by decide +kernel
theorem dX2_sees_4 : decode cX2_sees 4 = .ok (.iload_n 1, 1) := by decide +kernel
theorem dX2_sees_5 : decode cX2_sees 5 = .ok (.iaload, 1) := by decide +kernel
theorem dX2_sees_6 : decode cX2_sees 6 = .ok (.iload_n 2, 1) := by decide +kernel
theorem dX2_sees_7 : decode cX2_sees 7 = .ok (.ishr, 1) := by decide +kernel
theorem dX2_sees_8 : decode cX2_sees 8 = .ok (.iconst 1, 1) := by decide +kernel
theorem dX2_sees_9 : decode cX2_sees 9 = .ok (.iand, 1) := by decide +kernel
theorem dX2_sees_10 : decode cX2_sees 10 = .ok (.iconst 1, 1) := by decide +kernel
theorem dX2_sees_11 : decode cX2_sees 11 = .ok (.if_icmp .ne 12, 3) := by decide +kernel
theorem dX2_sees_14 : decode cX2_sees 14 = .ok (.iload_n 2, 1) := by decide +kernel
theorem dX2_sees_15 : decode cX2_sees 15 = .ok (.iload_n 3, 1) := by decide +kernel
theorem dX2_sees_16 : decode cX2_sees 16 = .ok (.if_icmp .eq 7, 3) := by decide +kernel
theorem dX2_sees_19 : decode cX2_sees 19 = .ok (.iconst 1, 1) := by decide +kernel
theorem dX2_sees_20 : decode cX2_sees 20 = .ok (.goto 4, 3) := by decide +kernel
theorem dX2_sees_23 : decode cX2_sees 23 = .ok (.iconst 0, 1) := by decide +kernel
theorem dX2_sees_24 : decode cX2_sees 24 = .ok (.ireturn, 1) := by decide +kernel
theorem dX2_view_0 : decode cX2_view 0 = .ok (.iconst 0, 1) := by decide +kernel
theorem dX2_view_1 : decode cX2_view 1 = .ok (.istore_n 3, 1) := by decide +kernel
theorem dX2_view_2 : decode cX2_view 2 = .ok (.iconst 0, 1) := by decide +kernel
theorem dX2_view_3 : decode cX2_view 3 = .ok (.istore 4, 2) := by decide +kernel
theorem dX2_view_5 : decode cX2_view 5 = .ok (.iload 4, 2) := by decide +kernel
theorem dX2_view_7 : decode cX2_view 7 = .ok (.aload_n 0, 1) := by decide +kernel
theorem dX2_view_8 : decode cX2_view 8 = .ok (.getfield 33, 3) := by decide +kernel
theorem dX2_view_11 : decode cX2_view 11 = .ok (.if_icmp .ge 36, 3) := by decide +kernel
theorem dX2_view_14 : decode cX2_view 14 = .ok (.aload_n 0, 1) := by decide +kernel
theorem dX2_view_15 : decode cX2_view 15 = .ok (.iload_n 1, 1) := by decide +kernel
theorem dX2_view_16 : decode cX2_view 16 = .ok (.iload 4, 2) := by decide +kernel
theorem dX2_view_18 : decode cX2_view 18 = .ok (.iload_n 1, 1) := by decide +kernel
theorem dX2_view_19 : decode cX2_view 19 = .ok (.invokevirtual 43, 3) := by decide +kernel
theorem dX2_view_22 : decode cX2_view 22 = .ok (.ifCond .eq 19, 3) := by decide +kernel
theorem dX2_view_25 : decode cX2_view 25 = .ok (.iload_n 3, 1) := by decide +kernel
theorem dX2_view_26 : decode cX2_view 26 = .ok (.iload_n 2, 1) := by decide +kernel
theorem dX2_view_27 : decode cX2_view 27 = .ok (.iload 4, 2) := by decide +kernel
theorem dX2_view_29 : decode cX2_view 29 = .ok (.invokestatic 46, 3) := by decide +kernel
theorem dX2_view_32 : decode cX2_view 32 = .ok (.getstatic 40, 3) := by decide +kernel
theorem dX2_view_35 : decode cX2_view 35 = .ok (.iload 4, 2) := by decide +kernel
theorem dX2_view_37 : decode cX2_view 37 = .ok (.iaload, 1) := by decide +kernel
theorem dX2_view_38 : decode cX2_view 38 = .ok (.imul, 1) := by decide +kernel
theorem dX2_view_39 : decode cX2_view 39 = .ok (.iadd, 1) := by decide +kernel
theorem dX2_view_40 : decode cX2_view 40 = .ok (.istore_n 3, 1) := by decide +kernel
theorem dX2_view_41 : decode cX2_view 41 = .ok (.iinc 4 1, 3) := by decide +kernel
theorem dX2_view_44 : decode cX2_view 44 = .ok (.goto (-39), 3) := by decide +kernel
theorem dX2_view_47 : decode cX2_view 47 = .ok (.iload_n 3, 1) := by decide +kernel
theorem dX2_view_48 : decode cX2_view 48 = .ok (.ireturn, 1) := by decide +kernel
theorem dX2_colours_0 : decode cX2_colours 0 = .ok (.aload_n 0, 1) := by decide +kernel
theorem dX2_colours_1 : decode cX2_colours 1 = .ok (.iload_n 1, 1) := by decide +kernel
theorem dX2_colours_2 : decode cX2_colours 2 = .ok (.iload_n 3, 1) := by decide +kernel
theorem dX2_colours_3 : decode cX2_colours 3 = .ok (.invokevirtual 50, 3) := by decide +kernel
theorem dX2_colours_6 : decode cX2_colours 6 = .ok (.istore 4, 2) := by decide +kernel
theorem dX2_colours_8 : decode cX2_colours 8 = .ok (.iconst 0, 1) := by decide +kernel
theorem dX2_colours_9 : decode cX2_colours 9 = .ok (.istore 5, 2) := by decide +kernel
theorem dX2_colours_11 : decode cX2_colours 11 = .ok (.iconst 0, 1) := by decide +kernel
theorem dX2_colours_12 : decode cX2_colours 12 = .ok (.istore 6, 2) := by decide +kernel
theorem dX2_colours_14 : decode cX2_colours 14 = .ok (.iload 6, 2) := by decide +kernel
theorem dX2_colours_16 : decode cX2_colours 16 = .ok (.aload_n 0, 1) := by decide +kernel
theorem dX2_colours_17 : decode cX2_colours 17 = .ok (.invokevirtual 53, 3) := by decide +kernel
theorem dX2_colours_20 : decode cX2_colours 20 = .ok (.if_icmp .ge 44, 3) := by decide +kernel
theorem dX2_colours_23 : decode cX2_colours 23 = .ok (.aload_n 0, 1) := by decide +kernel
theorem dX2_colours_24 : decode cX2_colours 24 = .ok (.getfield 16, 3) := by decide +kernel
theorem dX2_colours_27 : decode cX2_colours 27 = .ok (.iload 6, 2) := by decide +kernel
theorem dX2_colours_29 : decode cX2_colours 29 = .ok (.baload, 1) := by decide +kernel
theorem dX2_colours_30 : decode cX2_colours 30 = .ok (.ifCond .eq 28, 3) := by decide +kernel
theorem dX2_colours_33 : decode cX2_colours 33 = .ok (.aload_n 0, 1) := by decide +kernel
theorem dX2_colours_34 : decode cX2_colours 34 = .ok (.iload_n 1, 1) := by decide +kernel
theorem dX2_colours_35 : decode cX2_colours 35 = .ok (.iload 6, 2) := by decide +kernel
theorem dX2_colours_37 : decode cX2_colours 37 = .ok (.invokevirtual 50, 3) := by decide +kernel
theorem dX2_colours_40 : decode cX2_colours 40 = .ok (.iload 4, 2) := by decide +kernel
theorem dX2_colours_42 : decode cX2_colours 42 = .ok (.if_icmp .ne 16, 3) := by decide +kernel
theorem dX2_colours_45 : decode cX2_colours 45 = .ok (.iload 5, 2) := by decide +kernel
theorem dX2_colours_47 : decode cX2_colours 47 = .ok (.iconst 1, 1) := by decide +kernel
theorem dX2_colours_48 : decode cX2_colours 48 = .ok (.iload 6, 2) := by decide +kernel
theorem dX2_colours_50 : decode cX2_colours 50 = .ok (.iload_n 2, 1) := by decide +kernel
theorem dX2_colours_51 : decode cX2_colours 51 = .ok (.invokestatic 46, 3) := by decide +kernel
theorem dX2_colours_54 : decode cX2_colours 54 = .ok (.ishl, 1) := by decide +kernel
theorem dX2_colours_55 : decode cX2_colours 55 = .ok (.ior, 1) := by decide +kernel
theorem dX2_colours_56 : decode cX2_colours 56 = .ok (.istore 5, 2) := by decide +kernel
theorem dX2_colours_58 : decode cX2_colours 58 = .ok (.iinc 6 1, 3) := by decide +kernel
theorem dX2_colours_61 : decode cX2_colours 61 = .ok (.goto (-47), 3) := by decide +kernel
theorem dX2_colours_64 : decode cX2_colours 64 = .ok (.iload 5, 2) := by decide +kernel
theorem dX2_colours_66 : decode cX2_colours 66 = .ok (.ireturn, 1) := by decide +kernel
theorem dX2_isOne_0 : decode cX2_isOne 0 = .ok (.iload_n 0, 1) := by decide +kernel
theorem dX2_isOne_1 : decode cX2_isOne 1 = .ok (.iconst 1, 1) := by decide +kernel
theorem dX2_isOne_2 : decode cX2_isOne 2 = .ok (.if_icmp .eq 13, 3) := by decide +kernel
theorem dX2_isOne_5 : decode cX2_isOne 5 = .ok (.iload_n 0, 1) := by decide +kernel
theorem dX2_isOne_6 : decode cX2_isOne 6 = .ok (.iconst 2, 1) := by decide +kernel
theorem dX2_isOne_7 : decode cX2_isOne 7 = .ok (.if_icmp .eq 8, 3) := by decide +kernel
theorem dX2_isOne_10 : decode cX2_isOne 10 = .ok (.iload_n 0, 1) := by decide +kernel
theorem dX2_isOne_11 : decode cX2_isOne 11 = .ok (.iconst 4, 1) := by decide +kernel
theorem dX2_isOne_12 : decode cX2_isOne 12 = .ok (.if_icmp .ne 7, 3) := by decide +kernel
theorem dX2_isOne_15 : decode cX2_isOne 15 = .ok (.iconst 1, 1) := by decide +kernel
theorem dX2_isOne_16 : decode cX2_isOne 16 = .ok (.goto 4, 3) := by decide +kernel
theorem dX2_isOne_19 : decode cX2_isOne 19 = .ok (.iconst 0, 1) := by decide +kernel
theorem dX2_isOne_20 : decode cX2_isOne 20 = .ok (.ireturn, 1) := by decide +kernel
theorem dX2_look_0 : decode cX2_look 0 = .ok (.iconst 0, 1) := by decide +kernel
theorem dX2_look_1 : decode cX2_look 1 = .ok (.istore_n 2, 1) := by decide +kernel
theorem dX2_look_2 : decode cX2_look 2 = .ok (.iload_n 2, 1) := by decide +kernel
theorem dX2_look_3 : decode cX2_look 3 = .ok (.aload_n 0, 1) := by decide +kernel
theorem dX2_look_4 : decode cX2_look 4 = .ok (.invokevirtual 53, 3) := by decide +kernel
theorem dX2_look_7 : decode cX2_look 7 = .ok (.if_icmp .ge 16, 3) := by decide +kernel
theorem dX2_look_10 : decode cX2_look 10 = .ok (.aload_n 0, 1) := by decide +kernel
theorem dX2_look_11 : decode cX2_look 11 = .ok (.getfield 26, 3) := by decide +kernel
theorem dX2_look_14 : decode cX2_look 14 = .ok (.iload_n 2, 1) := by decide +kernel
theorem dX2_look_15 : decode cX2_look 15 = .ok (.iconst 0, 1) := by decide +kernel
theorem dX2_look_16 : decode cX2_look 16 = .ok (.iastore, 1) := by decide +kernel
theorem dX2_look_17 : decode cX2_look 17 = .ok (.iinc 2 1, 3) := by decide +kernel
theorem dX2_look_20 : decode cX2_look 20 = .ok (.goto (-18), 3) := by decide +kernel
theorem dX2_look_23 : decode cX2_look 23 = .ok (.iconst 0, 1) := by decide +kernel
theorem dX2_look_24 : decode cX2_look 24 = .ok (.istore_n 2, 1) := by decide +kernel
theorem dX2_look_25 : decode cX2_look 25 = .ok (.iload_n 2, 1) := by decide +kernel
theorem dX2_look_26 : decode cX2_look 26 = .ok (.aload_n 0, 1) := by decide +kernel
theorem dX2_look_27 : decode cX2_look 27 = .ok (.invokevirtual 53, 3) := by decide +kernel
theorem dX2_look_30 : decode cX2_look 30 = .ok (.if_icmp .ge 39, 3) := by decide +kernel
theorem dX2_look_33 : decode cX2_look 33 = .ok (.aload_n 0, 1) := by decide +kernel
theorem dX2_look_34 : decode cX2_look 34 = .ok (.getfield 16, 3) := by decide +kernel
theorem dX2_look_37 : decode cX2_look 37 = .ok (.iload_n 2, 1) := by decide +kernel
theorem dX2_look_38 : decode cX2_look 38 = .ok (.baload, 1) := by decide +kernel
theorem dX2_look_39 : decode cX2_look 39 = .ok (.ifCond .eq 24, 3) := by decide +kernel
theorem dX2_look_42 : decode cX2_look 42 = .ok (.aload_n 0, 1) := by decide +kernel
theorem dX2_look_43 : decode cX2_look 43 = .ok (.getfield 26, 3) := by decide +kernel
theorem dX2_look_46 : decode cX2_look 46 = .ok (.aload_n 0, 1) := by decide +kernel
theorem dX2_look_47 : decode cX2_look 47 = .ok (.iload_n 1, 1) := by decide +kernel
theorem dX2_look_48 : decode cX2_look 48 = .ok (.iload_n 2, 1) := by decide +kernel
theorem dX2_look_49 : decode cX2_look 49 = .ok (.invokevirtual 50, 3) := by decide +kernel
theorem dX2_look_52 : decode cX2_look 52 = .ok (.dup2, 1) := by decide +kernel
theorem dX2_look_53 : decode cX2_look 53 = .ok (.iaload, 1) := by decide +kernel
theorem dX2_look_54 : decode cX2_look 54 = .ok (.iconst 1, 1) := by decide +kernel
theorem dX2_look_55 : decode cX2_look 55 = .ok (.iload_n 2, 1) := by decide +kernel
theorem dX2_look_56 : decode cX2_look 56 = .ok (.iload_n 1, 1) := by decide +kernel
theorem dX2_look_57 : decode cX2_look 57 = .ok (.invokestatic 46, 3) := by decide +kernel
theorem dX2_look_60 : decode cX2_look 60 = .ok (.ishl, 1) := by decide +kernel
theorem dX2_look_61 : decode cX2_look 61 = .ok (.ior, 1) := by decide +kernel
theorem dX2_look_62 : decode cX2_look 62 = .ok (.iastore, 1) := by decide +kernel
theorem dX2_look_63 : decode cX2_look 63 = .ok (.iinc 2 1, 3) := by decide +kernel
theorem dX2_look_66 : decode cX2_look 66 = .ok (.goto (-41), 3) := by decide +kernel
theorem dX2_look_69 : decode cX2_look 69 = .ok (.return_, 1) := by decide +kernel
theorem dX2_certain_0 : decode cX2_certain 0 = .ok (.aload_n 0, 1) := by decide +kernel
theorem dX2_certain_1 : decode cX2_certain 1 = .ok (.getfield 26, 3) := by decide +kernel
theorem dX2_certain_4 : decode cX2_certain 4 = .ok (.aload_n 0, 1) := by decide +kernel
theorem dX2_certain_5 : decode cX2_certain 5 = .ok (.iload_n 1, 1) := by decide +kernel
theorem dX2_certain_6 : decode cX2_certain 6 = .ok (.iload_n 2, 1) := by decide +kernel
theorem dX2_certain_7 : decode cX2_certain 7 = .ok (.invokevirtual 50, 3) := by decide +kernel
theorem dX2_certain_10 : decode cX2_certain 10 = .ok (.iaload, 1) := by decide +kernel
theorem dX2_certain_11 : decode cX2_certain 11 = .ok (.invokestatic 57, 3) := by decide +kernel
theorem dX2_certain_14 : decode cX2_certain 14 = .ok (.ireturn, 1) := by decide +kernel
theorem dX2_certainNow_0 : decode cX2_certainNow 0 = .ok (.aload_n 0, 1) := by decide +kernel
theorem dX2_certainNow_1 : decode cX2_certainNow 1 = .ok (.iload_n 1, 1) := by decide +kernel
theorem dX2_certainNow_2 : decode cX2_certainNow 2 = .ok (.iload_n 1, 1) := by decide +kernel
theorem dX2_certainNow_3 : decode cX2_certainNow 3 = .ok (.aload_n 0, 1) := by decide +kernel
theorem dX2_certainNow_4 : decode cX2_certainNow 4 = .ok (.invokevirtual 61, 3) := by decide +kernel
theorem dX2_certainNow_7 : decode cX2_certainNow 7 = .ok (.invokevirtual 64, 3) := by decide +kernel
theorem dX2_certainNow_10 : decode cX2_certainNow 10 = .ok (.invokestatic 57, 3) := by decide +kernel
theorem dX2_certainNow_13 : decode cX2_certainNow 13 = .ok (.ireturn, 1) := by decide +kernel
theorem dX2_openNow_0 : decode cX2_openNow 0 = .ok (.iconst 0, 1) := by decide +kernel
theorem dX2_openNow_1 : decode cX2_openNow 1 = .ok (.istore_n 1, 1) := by decide +kernel
theorem dX2_openNow_2 : decode cX2_openNow 2 = .ok (.iconst 0, 1) := by decide +kernel
theorem dX2_openNow_3 : decode cX2_openNow 3 = .ok (.istore_n 2, 1) := by decide +kernel
theorem dX2_openNow_4 : decode cX2_openNow 4 = .ok (.iload_n 2, 1) := by decide +kernel
theorem dX2_openNow_5 : decode cX2_openNow 5 = .ok (.aload_n 0, 1) := by decide +kernel
theorem dX2_openNow_6 : decode cX2_openNow 6 = .ok (.invokevirtual 53, 3) := by decide +kernel
theorem dX2_openNow_9 : decode cX2_openNow 9 = .ok (.if_icmp .ge 26, 3) := by decide +kernel
theorem dX2_openNow_12 : decode cX2_openNow 12 = .ok (.iload_n 1, 1) := by decide +kernel
theorem dX2_openNow_13 : decode cX2_openNow 13 = .ok (.aload_n 0, 1) := by decide +kernel
theorem dX2_openNow_14 : decode cX2_openNow 14 = .ok (.getfield 16, 3) := by decide +kernel
theorem dX2_openNow_17 : decode cX2_openNow 17 = .ok (.iload_n 2, 1) := by decide +kernel
theorem dX2_openNow_18 : decode cX2_openNow 18 = .ok (.baload, 1) := by decide +kernel
theorem dX2_openNow_19 : decode cX2_openNow 19 = .ok (.ifCond .eq 7, 3) := by decide +kernel
theorem dX2_openNow_22 : decode cX2_openNow 22 = .ok (.iconst 1, 1) := by decide +kernel
theorem dX2_openNow_23 : decode cX2_openNow 23 = .ok (.goto 4, 3) := by decide +kernel
theorem dX2_openNow_26 : decode cX2_openNow 26 = .ok (.iconst 0, 1) := by decide +kernel
theorem dX2_openNow_27 : decode cX2_openNow 27 = .ok (.iadd, 1) := by decide +kernel
theorem dX2_openNow_28 : decode cX2_openNow 28 = .ok (.istore_n 1, 1) := by decide +kernel
theorem dX2_openNow_29 : decode cX2_openNow 29 = .ok (.iinc 2 1, 3) := by decide +kernel
theorem dX2_openNow_32 : decode cX2_openNow 32 = .ok (.goto (-28), 3) := by decide +kernel
theorem dX2_openNow_35 : decode cX2_openNow 35 = .ok (.iload_n 1, 1) := by decide +kernel
theorem dX2_openNow_36 : decode cX2_openNow 36 = .ok (.ireturn, 1) := by decide +kernel
theorem dX2_take_0 : decode cX2_take 0 = .ok (.aload_n 0, 1) := by decide +kernel
theorem dX2_take_1 : decode cX2_take 1 = .ok (.getfield 16, 3) := by decide +kernel
theorem dX2_take_4 : decode cX2_take 4 = .ok (.astore_n 1, 1) := by decide +kernel
theorem dX2_take_5 : decode cX2_take 5 = .ok (.aload_n 0, 1) := by decide +kernel
theorem dX2_take_6 : decode cX2_take 6 = .ok (.aload_n 0, 1) := by decide +kernel
theorem dX2_take_7 : decode cX2_take 7 = .ok (.getfield 20, 3) := by decide +kernel
theorem dX2_take_10 : decode cX2_take 10 = .ok (.putfield 16, 3) := by decide +kernel
theorem dX2_take_13 : decode cX2_take 13 = .ok (.aload_n 0, 1) := by decide +kernel
theorem dX2_take_14 : decode cX2_take 14 = .ok (.aload_n 1, 1) := by decide +kernel
theorem dX2_take_15 : decode cX2_take 15 = .ok (.putfield 20, 3) := by decide +kernel
theorem dX2_take_18 : decode cX2_take 18 = .ok (.return_, 1) := by decide +kernel
theorem dX2_turn_0 : decode cX2_turn 0 = .ok (.aload_n 0, 1) := by decide +kernel
theorem dX2_turn_1 : decode cX2_turn 1 = .ok (.iload_n 1, 1) := by decide +kernel
theorem dX2_turn_2 : decode cX2_turn 2 = .ok (.invokevirtual 68, 3) := by decide +kernel
theorem dX2_turn_5 : decode cX2_turn 5 = .ok (.aload_n 0, 1) := by decide +kernel
theorem dX2_turn_6 : decode cX2_turn 6 = .ok (.iload_n 1, 1) := by decide +kernel
theorem dX2_turn_7 : decode cX2_turn 7 = .ok (.iload_n 2, 1) := by decide +kernel
theorem dX2_turn_8 : decode cX2_turn 8 = .ok (.invokevirtual 72, 3) := by decide +kernel
theorem dX2_turn_11 : decode cX2_turn 11 = .ok (.istore_n 3, 1) := by decide +kernel
theorem dX2_turn_12 : decode cX2_turn 12 = .ok (.iload_n 2, 1) := by decide +kernel
theorem dX2_turn_13 : decode cX2_turn 13 = .ok (.iload_n 1, 1) := by decide +kernel
theorem dX2_turn_14 : decode cX2_turn 14 = .ok (.invokestatic 46, 3) := by decide +kernel
theorem dX2_turn_17 : decode cX2_turn 17 = .ok (.istore 4, 2) := by decide +kernel
theorem dX2_turn_19 : decode cX2_turn 19 = .ok (.iconst 0, 1) := by decide +kernel
theorem dX2_turn_20 : decode cX2_turn 20 = .ok (.istore 5, 2) := by decide +kernel
theorem dX2_turn_22 : decode cX2_turn 22 = .ok (.iload 5, 2) := by decide +kernel
theorem dX2_turn_24 : decode cX2_turn 24 = .ok (.aload_n 0, 1) := by decide +kernel
theorem dX2_turn_25 : decode cX2_turn 25 = .ok (.invokevirtual 53, 3) := by decide +kernel
theorem dX2_turn_28 : decode cX2_turn 28 = .ok (.if_icmp .ge 57, 3) := by decide +kernel
theorem dX2_turn_31 : decode cX2_turn 31 = .ok (.aload_n 0, 1) := by decide +kernel
theorem dX2_turn_32 : decode cX2_turn 32 = .ok (.getfield 20, 3) := by decide +kernel
theorem dX2_turn_35 : decode cX2_turn 35 = .ok (.iload 5, 2) := by decide +kernel
theorem dX2_turn_37 : decode cX2_turn 37 = .ok (.aload_n 0, 1) := by decide +kernel
theorem dX2_turn_38 : decode cX2_turn 38 = .ok (.getfield 16, 3) := by decide +kernel
theorem dX2_turn_41 : decode cX2_turn 41 = .ok (.iload 5, 2) := by decide +kernel
theorem dX2_turn_43 : decode cX2_turn 43 = .ok (.baload, 1) := by decide +kernel
theorem dX2_turn_44 : decode cX2_turn 44 = .ok (.ifCond .eq 33, 3) := by decide +kernel
theorem dX2_turn_47 : decode cX2_turn 47 = .ok (.aload_n 0, 1) := by decide +kernel
theorem dX2_turn_48 : decode cX2_turn 48 = .ok (.iload_n 1, 1) := by decide +kernel
theorem dX2_turn_49 : decode cX2_turn 49 = .ok (.iload 5, 2) := by decide +kernel
theorem dX2_turn_51 : decode cX2_turn 51 = .ok (.invokevirtual 72, 3) := by decide +kernel
theorem dX2_turn_54 : decode cX2_turn 54 = .ok (.iload_n 3, 1) := by decide +kernel
theorem dX2_turn_55 : decode cX2_turn 55 = .ok (.if_icmp .ne 22, 3) := by decide +kernel
theorem dX2_turn_58 : decode cX2_turn 58 = .ok (.iload_n 3, 1) := by decide +kernel
theorem dX2_turn_59 : decode cX2_turn 59 = .ok (.ifCond .eq 14, 3) := by decide +kernel
theorem dX2_turn_62 : decode cX2_turn 62 = .ok (.iload 5, 2) := by decide +kernel
theorem dX2_turn_64 : decode cX2_turn 64 = .ok (.iload_n 1, 1) := by decide +kernel
theorem dX2_turn_65 : decode cX2_turn 65 = .ok (.invokestatic 46, 3) := by decide +kernel
theorem dX2_turn_68 : decode cX2_turn 68 = .ok (.iload 4, 2) := by decide +kernel
theorem dX2_turn_70 : decode cX2_turn 70 = .ok (.if_icmp .ne 7, 3) := by decide +kernel
theorem dX2_turn_73 : decode cX2_turn 73 = .ok (.iconst 1, 1) := by decide +kernel
theorem dX2_turn_74 : decode cX2_turn 74 = .ok (.goto 4, 3) := by decide +kernel
theorem dX2_turn_77 : decode cX2_turn 77 = .ok (.iconst 0, 1) := by decide +kernel
theorem dX2_turn_78 : decode cX2_turn 78 = .ok (.bastore, 1) := by decide +kernel
theorem dX2_turn_79 : decode cX2_turn 79 = .ok (.iinc 5 1, 3) := by decide +kernel
theorem dX2_turn_82 : decode cX2_turn 82 = .ok (.goto (-60), 3) := by decide +kernel
theorem dX2_turn_85 : decode cX2_turn 85 = .ok (.aload_n 0, 1) := by decide +kernel
theorem dX2_turn_86 : decode cX2_turn 86 = .ok (.invokevirtual 76, 3) := by decide +kernel
theorem dX2_turn_89 : decode cX2_turn 89 = .ok (.iload_n 3, 1) := by decide +kernel
theorem dX2_turn_90 : decode cX2_turn 90 = .ok (.ifCond .eq 8, 3) := by decide +kernel
theorem dX2_turn_93 : decode cX2_turn 93 = .ok (.iload 4, 2) := by decide +kernel
theorem dX2_turn_95 : decode cX2_turn 95 = .ok (.goto 4, 3) := by decide +kernel
theorem dX2_turn_98 : decode cX2_turn 98 = .ok (.iconst (-1), 1) := by decide +kernel
theorem dX2_turn_99 : decode cX2_turn 99 = .ok (.ireturn, 1) := by decide +kernel
theorem dX2_keep_0 : decode cX2_keep 0 = .ok (.aload_n 0, 1) := by decide +kernel
theorem dX2_keep_1 : decode cX2_keep 1 = .ok (.getfield 16, 3) := by decide +kernel
theorem dX2_keep_4 : decode cX2_keep 4 = .ok (.iconst 0, 1) := by decide +kernel
theorem dX2_keep_5 : decode cX2_keep 5 = .ok (.aload_n 0, 1) := by decide +kernel
theorem dX2_keep_6 : decode cX2_keep 6 = .ok (.getfield 23, 3) := by decide +kernel
theorem dX2_keep_9 : decode cX2_keep 9 = .ok (.iconst 0, 1) := by decide +kernel
theorem dX2_keep_10 : decode cX2_keep 10 = .ok (.sipush 243, 3) := by decide +kernel
theorem dX2_keep_13 : decode cX2_keep 13 = .ok (.invokestatic 79, 3) := by decide +kernel
theorem dX2_keep_16 : decode cX2_keep 16 = .ok (.return_, 1) := by decide +kernel
theorem dX2_bringBack_0 : decode cX2_bringBack 0 = .ok (.aload_n 0, 1) := by decide +kernel
theorem dX2_bringBack_1 : decode cX2_bringBack 1 = .ok (.getfield 23, 3) := by decide +kernel
theorem dX2_bringBack_4 : decode cX2_bringBack 4 = .ok (.iconst 0, 1) := by decide +kernel
theorem dX2_bringBack_5 : decode cX2_bringBack 5 = .ok (.aload_n 0, 1) := by decide +kernel
theorem dX2_bringBack_6 : decode cX2_bringBack 6 = .ok (.getfield 16, 3) := by decide +kernel
theorem dX2_bringBack_9 : decode cX2_bringBack 9 = .ok (.iconst 0, 1) := by decide +kernel
theorem dX2_bringBack_10 : decode cX2_bringBack 10 = .ok (.sipush 243, 3) := by decide +kernel
theorem dX2_bringBack_13 : decode cX2_bringBack 13 = .ok (.invokestatic 79, 3) := by decide +kernel
theorem dX2_bringBack_16 : decode cX2_bringBack 16 = .ok (.return_, 1) := by decide +kernel
theorem dX2_openAll_0 : decode cX2_openAll 0 = .ok (.iconst 0, 1) := by decide +kernel
theorem dX2_openAll_1 : decode cX2_openAll 1 = .ok (.istore_n 1, 1) := by decide +kernel
theorem dX2_openAll_2 : decode cX2_openAll 2 = .ok (.iload_n 1, 1) := by decide +kernel
theorem dX2_openAll_3 : decode cX2_openAll 3 = .ok (.sipush 243, 3) := by decide +kernel
theorem dX2_openAll_6 : decode cX2_openAll 6 = .ok (.if_icmp .ge 28, 3) := by decide +kernel
theorem dX2_openAll_9 : decode cX2_openAll 9 = .ok (.aload_n 0, 1) := by decide +kernel
theorem dX2_openAll_10 : decode cX2_openAll 10 = .ok (.getfield 16, 3) := by decide +kernel
theorem dX2_openAll_13 : decode cX2_openAll 13 = .ok (.iload_n 1, 1) := by decide +kernel
theorem dX2_openAll_14 : decode cX2_openAll 14 = .ok (.iload_n 1, 1) := by decide +kernel
theorem dX2_openAll_15 : decode cX2_openAll 15 = .ok (.aload_n 0, 1) := by decide +kernel
theorem dX2_openAll_16 : decode cX2_openAll 16 = .ok (.invokevirtual 53, 3) := by decide +kernel
theorem dX2_openAll_19 : decode cX2_openAll 19 = .ok (.if_icmp .ge 7, 3) := by decide +kernel
theorem dX2_openAll_22 : decode cX2_openAll 22 = .ok (.iconst 1, 1) := by decide +kernel
theorem dX2_openAll_23 : decode cX2_openAll 23 = .ok (.goto 4, 3) := by decide +kernel
theorem dX2_openAll_26 : decode cX2_openAll 26 = .ok (.iconst 0, 1) := by decide +kernel
theorem dX2_openAll_27 : decode cX2_openAll 27 = .ok (.bastore, 1) := by decide +kernel
theorem dX2_openAll_28 : decode cX2_openAll 28 = .ok (.iinc 1 1, 3) := by decide +kernel
theorem dX2_openAll_31 : decode cX2_openAll 31 = .ok (.goto (-29), 3) := by decide +kernel
theorem dX2_openAll_34 : decode cX2_openAll 34 = .ok (.return_, 1) := by decide +kernel
theorem dX2_have_0 : decode cX2_have 0 = .ok (.iconst 0, 1) := by decide +kernel
theorem dX2_have_1 : decode cX2_have 1 = .ok (.istore_n 3, 1) := by decide +kernel
theorem dX2_have_2 : decode cX2_have 2 = .ok (.iconst 0, 1) := by decide +kernel
theorem dX2_have_3 : decode cX2_have 3 = .ok (.istore 4, 2) := by decide +kernel
theorem dX2_have_5 : decode cX2_have 5 = .ok (.iload 4, 2) := by decide +kernel
theorem dX2_have_7 : decode cX2_have 7 = .ok (.aload_n 0, 1) := by decide +kernel
theorem dX2_have_8 : decode cX2_have 8 = .ok (.getfield 33, 3) := by decide +kernel
theorem dX2_have_11 : decode cX2_have 11 = .ok (.if_icmp .ge 27, 3) := by decide +kernel
theorem dX2_have_14 : decode cX2_have 14 = .ok (.iload_n 3, 1) := by decide +kernel
theorem dX2_have_15 : decode cX2_have 15 = .ok (.iload_n 1, 1) := by decide +kernel
theorem dX2_have_16 : decode cX2_have 16 = .ok (.iload 4, 2) := by decide +kernel
theorem dX2_have_18 : decode cX2_have 18 = .ok (.invokestatic 46, 3) := by decide +kernel
theorem dX2_have_21 : decode cX2_have 21 = .ok (.iload_n 2, 1) := by decide +kernel
theorem dX2_have_22 : decode cX2_have 22 = .ok (.if_icmp .ne 7, 3) := by decide +kernel
theorem dX2_have_25 : decode cX2_have 25 = .ok (.iconst 1, 1) := by decide +kernel
theorem dX2_have_26 : decode cX2_have 26 = .ok (.goto 4, 3) := by decide +kernel
theorem dX2_have_29 : decode cX2_have 29 = .ok (.iconst 0, 1) := by decide +kernel
theorem dX2_have_30 : decode cX2_have 30 = .ok (.iadd, 1) := by decide +kernel
theorem dX2_have_31 : decode cX2_have 31 = .ok (.istore_n 3, 1) := by decide +kernel
theorem dX2_have_32 : decode cX2_have 32 = .ok (.iinc 4 1, 3) := by decide +kernel
theorem dX2_have_35 : decode cX2_have 35 = .ok (.goto (-30), 3) := by decide +kernel
theorem dX2_have_38 : decode cX2_have 38 = .ok (.iload_n 3, 1) := by decide +kernel
theorem dX2_have_39 : decode cX2_have 39 = .ok (.ireturn, 1) := by decide +kernel
theorem dX2_addPlayer_0 : decode cX2_addPlayer 0 = .ok (.aload_n 0, 1) := by decide +kernel
theorem dX2_addPlayer_1 : decode cX2_addPlayer 1 = .ok (.iconst 0, 1) := by decide +kernel
theorem dX2_addPlayer_2 : decode cX2_addPlayer 2 = .ok (.putfield 29, 3) := by decide +kernel
theorem dX2_addPlayer_5 : decode cX2_addPlayer 5 = .ok (.iload_n 1, 1) := by decide +kernel
theorem dX2_addPlayer_6 : decode cX2_addPlayer 6 = .ok (.invokestatic 85, 3) := by decide +kernel
theorem dX2_addPlayer_9 : decode cX2_addPlayer 9 = .ok (.ifCond .ne 9, 3) := by decide +kernel
theorem dX2_addPlayer_12 : decode cX2_addPlayer 12 = .ok (.aload_n 0, 1) := by decide +kernel
theorem dX2_addPlayer_13 : decode cX2_addPlayer 13 = .ok (.iconst 1, 1) := by decide +kernel
theorem dX2_addPlayer_14 : decode cX2_addPlayer 14 = .ok (.invokevirtual 88, 3) := by decide +kernel
theorem dX2_addPlayer_17 : decode cX2_addPlayer 17 = .ok (.ireturn, 1) := by decide +kernel
theorem dX2_addPlayer_18 : decode cX2_addPlayer 18 = .ok (.aload_n 0, 1) := by decide +kernel
theorem dX2_addPlayer_19 : decode cX2_addPlayer 19 = .ok (.getfield 33, 3) := by decide +kernel
theorem dX2_addPlayer_22 : decode cX2_addPlayer 22 = .ok (.iconst 5, 1) := by decide +kernel
theorem dX2_addPlayer_23 : decode cX2_addPlayer 23 = .ok (.if_icmp .eq 10, 3) := by decide +kernel
theorem dX2_addPlayer_26 : decode cX2_addPlayer 26 = .ok (.aload_n 0, 1) := by decide +kernel
theorem dX2_addPlayer_27 : decode cX2_addPlayer 27 = .ok (.getfield 92, 3) := by decide +kernel
theorem dX2_addPlayer_30 : decode cX2_addPlayer 30 = .ok (.ifCond .eq 9, 3) := by decide +kernel
theorem dX2_addPlayer_33 : decode cX2_addPlayer 33 = .ok (.aload_n 0, 1) := by decide +kernel
theorem dX2_addPlayer_34 : decode cX2_addPlayer 34 = .ok (.iconst 2, 1) := by decide +kernel
theorem dX2_addPlayer_35 : decode cX2_addPlayer 35 = .ok (.invokevirtual 88, 3) := by decide +kernel
theorem dX2_addPlayer_38 : decode cX2_addPlayer 38 = .ok (.ireturn, 1) := by decide +kernel
theorem dX2_addPlayer_39 : decode cX2_addPlayer 39 = .ok (.aload_n 0, 1) := by decide +kernel
theorem dX2_addPlayer_40 : decode cX2_addPlayer 40 = .ok (.getfield 9, 3) := by decide +kernel
theorem dX2_addPlayer_43 : decode cX2_addPlayer 43 = .ok (.aload_n 0, 1) := by decide +kernel
theorem dX2_addPlayer_44 : decode cX2_addPlayer 44 = .ok (.getfield 33, 3) := by decide +kernel
theorem dX2_addPlayer_47 : decode cX2_addPlayer 47 = .ok (.iload_n 1, 1) := by decide +kernel
theorem dX2_addPlayer_48 : decode cX2_addPlayer 48 = .ok (.iastore, 1) := by decide +kernel
theorem dX2_addPlayer_49 : decode cX2_addPlayer 49 = .ok (.iconst 0, 1) := by decide +kernel
theorem dX2_addPlayer_50 : decode cX2_addPlayer 50 = .ok (.istore_n 2, 1) := by decide +kernel
theorem dX2_addPlayer_51 : decode cX2_addPlayer 51 = .ok (.iload_n 2, 1) := by decide +kernel
theorem dX2_addPlayer_52 : decode cX2_addPlayer 52 = .ok (.aload_n 0, 1) := by decide +kernel
theorem dX2_addPlayer_53 : decode cX2_addPlayer 53 = .ok (.getfield 33, 3) := by decide +kernel
theorem dX2_addPlayer_56 : decode cX2_addPlayer 56 = .ok (.if_icmp .ge 24, 3) := by decide +kernel
theorem dX2_addPlayer_59 : decode cX2_addPlayer 59 = .ok (.aload_n 0, 1) := by decide +kernel
theorem dX2_addPlayer_60 : decode cX2_addPlayer 60 = .ok (.getfield 13, 3) := by decide +kernel
theorem dX2_addPlayer_63 : decode cX2_addPlayer 63 = .ok (.iload_n 2, 1) := by decide +kernel
theorem dX2_addPlayer_64 : decode cX2_addPlayer 64 = .ok (.dup2, 1) := by decide +kernel
theorem dX2_addPlayer_65 : decode cX2_addPlayer 65 = .ok (.iaload, 1) := by decide +kernel
theorem dX2_addPlayer_66 : decode cX2_addPlayer 66 = .ok (.iconst 1, 1) := by decide +kernel
theorem dX2_addPlayer_67 : decode cX2_addPlayer 67 = .ok (.aload_n 0, 1) := by decide +kernel
theorem dX2_addPlayer_68 : decode cX2_addPlayer 68 = .ok (.getfield 33, 3) := by decide +kernel
theorem dX2_addPlayer_71 : decode cX2_addPlayer 71 = .ok (.ishl, 1) := by decide +kernel
theorem dX2_addPlayer_72 : decode cX2_addPlayer 72 = .ok (.ior, 1) := by decide +kernel
theorem dX2_addPlayer_73 : decode cX2_addPlayer 73 = .ok (.iastore, 1) := by decide +kernel
theorem dX2_addPlayer_74 : decode cX2_addPlayer 74 = .ok (.iinc 2 1, 3) := by decide +kernel
theorem dX2_addPlayer_77 : decode cX2_addPlayer 77 = .ok (.goto (-26), 3) := by decide +kernel
theorem dX2_addPlayer_80 : decode cX2_addPlayer 80 = .ok (.aload_n 0, 1) := by decide +kernel
theorem dX2_addPlayer_81 : decode cX2_addPlayer 81 = .ok (.getfield 13, 3) := by decide +kernel
theorem dX2_addPlayer_84 : decode cX2_addPlayer 84 = .ok (.aload_n 0, 1) := by decide +kernel
theorem dX2_addPlayer_85 : decode cX2_addPlayer 85 = .ok (.getfield 33, 3) := by decide +kernel
theorem dX2_addPlayer_88 : decode cX2_addPlayer 88 = .ok (.iconst 1, 1) := by decide +kernel
theorem dX2_addPlayer_89 : decode cX2_addPlayer 89 = .ok (.aload_n 0, 1) := by decide +kernel
theorem dX2_addPlayer_90 : decode cX2_addPlayer 90 = .ok (.getfield 33, 3) := by decide +kernel
theorem dX2_addPlayer_93 : decode cX2_addPlayer 93 = .ok (.ishl, 1) := by decide +kernel
theorem dX2_addPlayer_94 : decode cX2_addPlayer 94 = .ok (.iconst 1, 1) := by decide +kernel
theorem dX2_addPlayer_95 : decode cX2_addPlayer 95 = .ok (.isub, 1) := by decide +kernel
theorem dX2_addPlayer_96 : decode cX2_addPlayer 96 = .ok (.iastore, 1) := by decide +kernel
theorem dX2_addPlayer_97 : decode cX2_addPlayer 97 = .ok (.aload_n 0, 1) := by decide +kernel
theorem dX2_addPlayer_98 : decode cX2_addPlayer 98 = .ok (.dup, 1) := by decide +kernel
theorem dX2_addPlayer_99 : decode cX2_addPlayer 99 = .ok (.getfield 33, 3) := by decide +kernel
theorem dX2_addPlayer_102 : decode cX2_addPlayer 102 = .ok (.iconst 1, 1) := by decide +kernel
theorem dX2_addPlayer_103 : decode cX2_addPlayer 103 = .ok (.iadd, 1) := by decide +kernel
theorem dX2_addPlayer_104 : decode cX2_addPlayer 104 = .ok (.putfield 33, 3) := by decide +kernel
theorem dX2_addPlayer_107 : decode cX2_addPlayer 107 = .ok (.aload_n 0, 1) := by decide +kernel
theorem dX2_addPlayer_108 : decode cX2_addPlayer 108 = .ok (.invokevirtual 96, 3) := by decide +kernel
theorem dX2_addPlayer_111 : decode cX2_addPlayer 111 = .ok (.aload_n 0, 1) := by decide +kernel
theorem dX2_addPlayer_112 : decode cX2_addPlayer 112 = .ok (.getfield 33, 3) := by decide +kernel
theorem dX2_addPlayer_115 : decode cX2_addPlayer 115 = .ok (.iconst 1, 1) := by decide +kernel
theorem dX2_addPlayer_116 : decode cX2_addPlayer 116 = .ok (.isub, 1) := by decide +kernel
theorem dX2_addPlayer_117 : decode cX2_addPlayer 117 = .ok (.ireturn, 1) := by decide +kernel
theorem dX2_areTwo_0 : decode cX2_areTwo 0 = .ok (.aload_n 0, 1) := by decide +kernel
theorem dX2_areTwo_1 : decode cX2_areTwo 1 = .ok (.aload_n 0, 1) := by decide +kernel
theorem dX2_areTwo_2 : decode cX2_areTwo 2 = .ok (.iload_n 1, 1) := by decide +kernel
theorem dX2_areTwo_3 : decode cX2_areTwo 3 = .ok (.invokevirtual 99, 3) := by decide +kernel
theorem dX2_areTwo_6 : decode cX2_areTwo 6 = .ok (.ifCond .eq 11, 3) := by decide +kernel
theorem dX2_areTwo_9 : decode cX2_areTwo 9 = .ok (.aload_n 0, 1) := by decide +kernel
theorem dX2_areTwo_10 : decode cX2_areTwo 10 = .ok (.iload_n 2, 1) := by decide +kernel
theorem dX2_areTwo_11 : decode cX2_areTwo 11 = .ok (.invokevirtual 99, 3) := by decide +kernel
theorem dX2_areTwo_14 : decode cX2_areTwo 14 = .ok (.ifCond .ne 7, 3) := by decide +kernel
theorem dX2_areTwo_17 : decode cX2_areTwo 17 = .ok (.iconst 1, 1) := by decide +kernel
theorem dX2_areTwo_18 : decode cX2_areTwo 18 = .ok (.goto 13, 3) := by decide +kernel
theorem dX2_areTwo_21 : decode cX2_areTwo 21 = .ok (.iload_n 1, 1) := by decide +kernel
theorem dX2_areTwo_22 : decode cX2_areTwo 22 = .ok (.iload_n 2, 1) := by decide +kernel
theorem dX2_areTwo_23 : decode cX2_areTwo 23 = .ok (.if_icmp .ne 7, 3) := by decide +kernel
theorem dX2_areTwo_26 : decode cX2_areTwo 26 = .ok (.iconst 2, 1) := by decide +kernel
theorem dX2_areTwo_27 : decode cX2_areTwo 27 = .ok (.goto 4, 3) := by decide +kernel
theorem dX2_areTwo_30 : decode cX2_areTwo 30 = .ok (.iconst 0, 1) := by decide +kernel
theorem dX2_areTwo_31 : decode cX2_areTwo 31 = .ok (.putfield 29, 3) := by decide +kernel
theorem dX2_areTwo_34 : decode cX2_areTwo 34 = .ok (.aload_n 0, 1) := by decide +kernel
theorem dX2_areTwo_35 : decode cX2_areTwo 35 = .ok (.getfield 29, 3) := by decide +kernel
theorem dX2_areTwo_38 : decode cX2_areTwo 38 = .ok (.ifCond .ne 7, 3) := by decide +kernel
theorem dX2_areTwo_41 : decode cX2_areTwo 41 = .ok (.iconst 1, 1) := by decide +kernel
theorem dX2_areTwo_42 : decode cX2_areTwo 42 = .ok (.goto 4, 3) := by decide +kernel
theorem dX2_areTwo_45 : decode cX2_areTwo 45 = .ok (.iconst 0, 1) := by decide +kernel
theorem dX2_areTwo_46 : decode cX2_areTwo 46 = .ok (.ireturn, 1) := by decide +kernel
theorem dX2_turnAway_0 : decode cX2_turnAway 0 = .ok (.aload_n 0, 1) := by decide +kernel
theorem dX2_turnAway_1 : decode cX2_turnAway 1 = .ok (.iload_n 1, 1) := by decide +kernel
theorem dX2_turnAway_2 : decode cX2_turnAway 2 = .ok (.iload_n 2, 1) := by decide +kernel
theorem dX2_turnAway_3 : decode cX2_turnAway 3 = .ok (.invokevirtual 102, 3) := by decide +kernel
theorem dX2_turnAway_6 : decode cX2_turnAway 6 = .ok (.ifCond .ne 5, 3) := by decide +kernel
theorem dX2_turnAway_9 : decode cX2_turnAway 9 = .ok (.iconst 0, 1) := by decide +kernel
theorem dX2_turnAway_10 : decode cX2_turnAway 10 = .ok (.ireturn, 1) := by decide +kernel
theorem dX2_turnAway_11 : decode cX2_turnAway 11 = .ok (.aload_n 0, 1) := by decide +kernel
theorem dX2_turnAway_12 : decode cX2_turnAway 12 = .ok (.getfield 13, 3) := by decide +kernel
theorem dX2_turnAway_15 : decode cX2_turnAway 15 = .ok (.iload_n 1, 1) := by decide +kernel
theorem dX2_turnAway_16 : decode cX2_turnAway 16 = .ok (.dup2, 1) := by decide +kernel
theorem dX2_turnAway_17 : decode cX2_turnAway 17 = .ok (.iaload, 1) := by decide +kernel
theorem dX2_turnAway_18 : decode cX2_turnAway 18 = .ok (.iconst 1, 1) := by decide +kernel
theorem dX2_turnAway_19 : decode cX2_turnAway 19 = .ok (.iload_n 2, 1) := by decide +kernel
theorem dX2_turnAway_20 : decode cX2_turnAway 20 = .ok (.ishl, 1) := by decide +kernel
theorem dX2_turnAway_21 : decode cX2_turnAway 21 = .ok (.ixor, 1) := by decide +kernel
theorem dX2_turnAway_22 : decode cX2_turnAway 22 = .ok (.iastore, 1) := by decide +kernel
theorem dX2_turnAway_23 : decode cX2_turnAway 23 = .ok (.aload_n 0, 1) := by decide +kernel
theorem dX2_turnAway_24 : decode cX2_turnAway 24 = .ok (.iload_n 1, 1) := by decide +kernel
theorem dX2_turnAway_25 : decode cX2_turnAway 25 = .ok (.iload_n 2, 1) := by decide +kernel
theorem dX2_turnAway_26 : decode cX2_turnAway 26 = .ok (.iload_n 1, 1) := by decide +kernel
theorem dX2_turnAway_27 : decode cX2_turnAway 27 = .ok (.invokevirtual 43, 3) := by decide +kernel
theorem dX2_turnAway_30 : decode cX2_turnAway 30 = .ok (.ireturn, 1) := by decide +kernel
theorem dX2_borrow_0 : decode cX2_borrow 0 = .ok (.aload_n 0, 1) := by decide +kernel
theorem dX2_borrow_1 : decode cX2_borrow 1 = .ok (.iload_n 1, 1) := by decide +kernel
theorem dX2_borrow_2 : decode cX2_borrow 2 = .ok (.iload_n 2, 1) := by decide +kernel
theorem dX2_borrow_3 : decode cX2_borrow 3 = .ok (.invokevirtual 102, 3) := by decide +kernel
theorem dX2_borrow_6 : decode cX2_borrow 6 = .ok (.ifCond .ne 5, 3) := by decide +kernel
theorem dX2_borrow_9 : decode cX2_borrow 9 = .ok (.iconst 0, 1) := by decide +kernel
theorem dX2_borrow_10 : decode cX2_borrow 10 = .ok (.ireturn, 1) := by decide +kernel
theorem dX2_borrow_11 : decode cX2_borrow 11 = .ok (.iconst 0, 1) := by decide +kernel
theorem dX2_borrow_12 : decode cX2_borrow 12 = .ok (.istore_n 3, 1) := by decide +kernel
theorem dX2_borrow_13 : decode cX2_borrow 13 = .ok (.iload_n 3, 1) := by decide +kernel
theorem dX2_borrow_14 : decode cX2_borrow 14 = .ok (.aload_n 0, 1) := by decide +kernel
theorem dX2_borrow_15 : decode cX2_borrow 15 = .ok (.invokevirtual 53, 3) := by decide +kernel
theorem dX2_borrow_18 : decode cX2_borrow 18 = .ok (.if_icmp .ge 52, 3) := by decide +kernel
theorem dX2_borrow_21 : decode cX2_borrow 21 = .ok (.iload_n 3, 1) := by decide +kernel
theorem dX2_borrow_22 : decode cX2_borrow 22 = .ok (.iload_n 2, 1) := by decide +kernel
theorem dX2_borrow_23 : decode cX2_borrow 23 = .ok (.invokestatic 46, 3) := by decide +kernel
theorem dX2_borrow_26 : decode cX2_borrow 26 = .ok (.iload_n 3, 1) := by decide +kernel
theorem dX2_borrow_27 : decode cX2_borrow 27 = .ok (.iload_n 1, 1) := by decide +kernel
theorem dX2_borrow_28 : decode cX2_borrow 28 = .ok (.invokestatic 46, 3) := by decide +kernel
theorem dX2_borrow_31 : decode cX2_borrow 31 = .ok (.isub, 1) := by decide +kernel
theorem dX2_borrow_32 : decode cX2_borrow 32 = .ok (.istore 4, 2) := by decide +kernel
theorem dX2_borrow_34 : decode cX2_borrow 34 = .ok (.aload_n 0, 1) := by decide +kernel
theorem dX2_borrow_35 : decode cX2_borrow 35 = .ok (.getfield 20, 3) := by decide +kernel
theorem dX2_borrow_38 : decode cX2_borrow 38 = .ok (.iload_n 3, 1) := by decide +kernel
theorem dX2_borrow_39 : decode cX2_borrow 39 = .ok (.aload_n 0, 1) := by decide +kernel
theorem dX2_borrow_40 : decode cX2_borrow 40 = .ok (.getfield 16, 3) := by decide +kernel
theorem dX2_borrow_43 : decode cX2_borrow 43 = .ok (.iload_n 3, 1) := by decide +kernel
theorem dX2_borrow_44 : decode cX2_borrow 44 = .ok (.iload 4, 2) := by decide +kernel
theorem dX2_borrow_46 : decode cX2_borrow 46 = .ok (.getstatic 40, 3) := by decide +kernel
theorem dX2_borrow_49 : decode cX2_borrow 49 = .ok (.iload_n 1, 1) := by decide +kernel
theorem dX2_borrow_50 : decode cX2_borrow 50 = .ok (.iaload, 1) := by decide +kernel
theorem dX2_borrow_51 : decode cX2_borrow 51 = .ok (.imul, 1) := by decide +kernel
theorem dX2_borrow_52 : decode cX2_borrow 52 = .ok (.iadd, 1) := by decide +kernel
theorem dX2_borrow_53 : decode cX2_borrow 53 = .ok (.iload 4, 2) := by decide +kernel
theorem dX2_borrow_55 : decode cX2_borrow 55 = .ok (.getstatic 40, 3) := by decide +kernel
theorem dX2_borrow_58 : decode cX2_borrow 58 = .ok (.iload_n 2, 1) := by decide +kernel
theorem dX2_borrow_59 : decode cX2_borrow 59 = .ok (.iaload, 1) := by decide +kernel
theorem dX2_borrow_60 : decode cX2_borrow 60 = .ok (.imul, 1) := by decide +kernel
theorem dX2_borrow_61 : decode cX2_borrow 61 = .ok (.isub, 1) := by decide +kernel
theorem dX2_borrow_62 : decode cX2_borrow 62 = .ok (.baload, 1) := by decide +kernel
theorem dX2_borrow_63 : decode cX2_borrow 63 = .ok (.bastore, 1) := by decide +kernel
theorem dX2_borrow_64 : decode cX2_borrow 64 = .ok (.iinc 3 1, 3) := by decide +kernel
theorem dX2_borrow_67 : decode cX2_borrow 67 = .ok (.goto (-54), 3) := by decide +kernel
theorem dX2_borrow_70 : decode cX2_borrow 70 = .ok (.aload_n 0, 1) := by decide +kernel
theorem dX2_borrow_71 : decode cX2_borrow 71 = .ok (.invokevirtual 76, 3) := by decide +kernel
theorem dX2_borrow_74 : decode cX2_borrow 74 = .ok (.aload_n 0, 1) := by decide +kernel
theorem dX2_borrow_75 : decode cX2_borrow 75 = .ok (.getfield 9, 3) := by decide +kernel
theorem dX2_borrow_78 : decode cX2_borrow 78 = .ok (.iload_n 1, 1) := by decide +kernel
theorem dX2_borrow_79 : decode cX2_borrow 79 = .ok (.iaload, 1) := by decide +kernel
theorem dX2_borrow_80 : decode cX2_borrow 80 = .ok (.istore_n 3, 1) := by decide +kernel
theorem dX2_borrow_81 : decode cX2_borrow 81 = .ok (.aload_n 0, 1) := by decide +kernel
theorem dX2_borrow_82 : decode cX2_borrow 82 = .ok (.getfield 9, 3) := by decide +kernel
theorem dX2_borrow_85 : decode cX2_borrow 85 = .ok (.iload_n 1, 1) := by decide +kernel
theorem dX2_borrow_86 : decode cX2_borrow 86 = .ok (.aload_n 0, 1) := by decide +kernel
theorem dX2_borrow_87 : decode cX2_borrow 87 = .ok (.getfield 9, 3) := by decide +kernel
theorem dX2_borrow_90 : decode cX2_borrow 90 = .ok (.iload_n 2, 1) := by decide +kernel
theorem dX2_borrow_91 : decode cX2_borrow 91 = .ok (.iaload, 1) := by decide +kernel
theorem dX2_borrow_92 : decode cX2_borrow 92 = .ok (.iastore, 1) := by decide +kernel
theorem dX2_borrow_93 : decode cX2_borrow 93 = .ok (.aload_n 0, 1) := by decide +kernel
theorem dX2_borrow_94 : decode cX2_borrow 94 = .ok (.getfield 9, 3) := by decide +kernel
theorem dX2_borrow_97 : decode cX2_borrow 97 = .ok (.iload_n 2, 1) := by decide +kernel
theorem dX2_borrow_98 : decode cX2_borrow 98 = .ok (.iload_n 3, 1) := by decide +kernel
theorem dX2_borrow_99 : decode cX2_borrow 99 = .ok (.iastore, 1) := by decide +kernel
theorem dX2_borrow_100 : decode cX2_borrow 100 = .ok (.aload_n 0, 1) := by decide +kernel
theorem dX2_borrow_101 : decode cX2_borrow 101 = .ok (.iconst 1, 1) := by decide +kernel
theorem dX2_borrow_102 : decode cX2_borrow 102 = .ok (.putfield 92, 3) := by decide +kernel
theorem dX2_borrow_105 : decode cX2_borrow 105 = .ok (.aload_n 0, 1) := by decide +kernel
theorem dX2_borrow_106 : decode cX2_borrow 106 = .ok (.getfield 9, 3) := by decide +kernel
theorem dX2_borrow_109 : decode cX2_borrow 109 = .ok (.iload_n 1, 1) := by decide +kernel
theorem dX2_borrow_110 : decode cX2_borrow 110 = .ok (.iaload, 1) := by decide +kernel
theorem dX2_borrow_111 : decode cX2_borrow 111 = .ok (.ireturn, 1) := by decide +kernel
theorem dX2_whose_0 : decode cX2_whose 0 = .ok (.aload_n 0, 1) := by decide +kernel
theorem dX2_whose_1 : decode cX2_whose 1 = .ok (.getfield 33, 3) := by decide +kernel
theorem dX2_whose_4 : decode cX2_whose 4 = .ok (.ifCond .ne 7, 3) := by decide +kernel
theorem dX2_whose_7 : decode cX2_whose 7 = .ok (.iconst (-1), 1) := by decide +kernel
theorem dX2_whose_8 : decode cX2_whose 8 = .ok (.goto 12, 3) := by decide +kernel
theorem dX2_whose_11 : decode cX2_whose 11 = .ok (.aload_n 0, 1) := by decide +kernel
theorem dX2_whose_12 : decode cX2_whose 12 = .ok (.getfield 105, 3) := by decide +kernel
theorem dX2_whose_15 : decode cX2_whose 15 = .ok (.aload_n 0, 1) := by decide +kernel
theorem dX2_whose_16 : decode cX2_whose 16 = .ok (.getfield 33, 3) := by decide +kernel
theorem dX2_whose_19 : decode cX2_whose 19 = .ok (.irem, 1) := by decide +kernel
theorem dX2_whose_20 : decode cX2_whose 20 = .ok (.ireturn, 1) := by decide +kernel
theorem dX2_takeTurn_0 : decode cX2_takeTurn 0 = .ok (.aload_n 0, 1) := by decide +kernel
theorem dX2_takeTurn_1 : decode cX2_takeTurn 1 = .ok (.iconst 0, 1) := by decide +kernel
theorem dX2_takeTurn_2 : decode cX2_takeTurn 2 = .ok (.putfield 29, 3) := by decide +kernel
theorem dX2_takeTurn_5 : decode cX2_takeTurn 5 = .ok (.aload_n 0, 1) := by decide +kernel
theorem dX2_takeTurn_6 : decode cX2_takeTurn 6 = .ok (.getfield 33, 3) := by decide +kernel
theorem dX2_takeTurn_9 : decode cX2_takeTurn 9 = .ok (.ifCond .ne 9, 3) := by decide +kernel
theorem dX2_takeTurn_12 : decode cX2_takeTurn 12 = .ok (.aload_n 0, 1) := by decide +kernel
theorem dX2_takeTurn_13 : decode cX2_takeTurn 13 = .ok (.iconst 1, 1) := by decide +kernel
theorem dX2_takeTurn_14 : decode cX2_takeTurn 14 = .ok (.invokevirtual 88, 3) := by decide +kernel
theorem dX2_takeTurn_17 : decode cX2_takeTurn 17 = .ok (.ireturn, 1) := by decide +kernel
theorem dX2_takeTurn_18 : decode cX2_takeTurn 18 = .ok (.aload_n 0, 1) := by decide +kernel
theorem dX2_takeTurn_19 : decode cX2_takeTurn 19 = .ok (.aload_n 0, 1) := by decide +kernel
theorem dX2_takeTurn_20 : decode cX2_takeTurn 20 = .ok (.invokevirtual 108, 3) := by decide +kernel
theorem dX2_takeTurn_23 : decode cX2_takeTurn 23 = .ok (.aload_n 0, 1) := by decide +kernel
theorem dX2_takeTurn_24 : decode cX2_takeTurn 24 = .ok (.invokevirtual 61, 3) := by decide +kernel
theorem dX2_takeTurn_27 : decode cX2_takeTurn 27 = .ok (.invokevirtual 111, 3) := by decide +kernel
theorem dX2_takeTurn_30 : decode cX2_takeTurn 30 = .ok (.istore_n 1, 1) := by decide +kernel
theorem dX2_takeTurn_31 : decode cX2_takeTurn 31 = .ok (.aload_n 0, 1) := by decide +kernel
theorem dX2_takeTurn_32 : decode cX2_takeTurn 32 = .ok (.dup, 1) := by decide +kernel
theorem dX2_takeTurn_33 : decode cX2_takeTurn 33 = .ok (.getfield 105, 3) := by decide +kernel
theorem dX2_takeTurn_36 : decode cX2_takeTurn 36 = .ok (.iconst 1, 1) := by decide +kernel
theorem dX2_takeTurn_37 : decode cX2_takeTurn 37 = .ok (.iadd, 1) := by decide +kernel
theorem dX2_takeTurn_38 : decode cX2_takeTurn 38 = .ok (.putfield 105, 3) := by decide +kernel
theorem dX2_takeTurn_41 : decode cX2_takeTurn 41 = .ok (.aload_n 0, 1) := by decide +kernel
theorem dX2_takeTurn_42 : decode cX2_takeTurn 42 = .ok (.dup, 1) := by decide +kernel
theorem dX2_takeTurn_43 : decode cX2_takeTurn 43 = .ok (.getfield 114, 3) := by decide +kernel
theorem dX2_takeTurn_46 : decode cX2_takeTurn 46 = .ok (.iload_n 1, 1) := by decide +kernel
theorem dX2_takeTurn_47 : decode cX2_takeTurn 47 = .ok (.iconst (-1), 1) := by decide +kernel
theorem dX2_takeTurn_48 : decode cX2_takeTurn 48 = .ok (.if_icmp .ne 7, 3) := by decide +kernel
theorem dX2_takeTurn_51 : decode cX2_takeTurn 51 = .ok (.iconst 1, 1) := by decide +kernel
theorem dX2_takeTurn_52 : decode cX2_takeTurn 52 = .ok (.goto 4, 3) := by decide +kernel
theorem dX2_takeTurn_55 : decode cX2_takeTurn 55 = .ok (.iconst 0, 1) := by decide +kernel
theorem dX2_takeTurn_56 : decode cX2_takeTurn 56 = .ok (.iadd, 1) := by decide +kernel
theorem dX2_takeTurn_57 : decode cX2_takeTurn 57 = .ok (.putfield 114, 3) := by decide +kernel
theorem dX2_takeTurn_60 : decode cX2_takeTurn 60 = .ok (.aload_n 0, 1) := by decide +kernel
theorem dX2_takeTurn_61 : decode cX2_takeTurn 61 = .ok (.iconst 1, 1) := by decide +kernel
theorem dX2_takeTurn_62 : decode cX2_takeTurn 62 = .ok (.putfield 92, 3) := by decide +kernel
theorem dX2_takeTurn_65 : decode cX2_takeTurn 65 = .ok (.iload_n 1, 1) := by decide +kernel
theorem dX2_takeTurn_66 : decode cX2_takeTurn 66 = .ok (.ireturn, 1) := by decide +kernel
theorem dX2_say_0 : decode cX2_say 0 = .ok (.aload_n 0, 1) := by decide +kernel
theorem dX2_say_1 : decode cX2_say 1 = .ok (.iload_n 1, 1) := by decide +kernel
theorem dX2_say_2 : decode cX2_say 2 = .ok (.invokestatic 85, 3) := by decide +kernel
theorem dX2_say_5 : decode cX2_say 5 = .ok (.ifCond .ne 7, 3) := by decide +kernel
theorem dX2_say_8 : decode cX2_say 8 = .ok (.iconst 1, 1) := by decide +kernel
theorem dX2_say_9 : decode cX2_say 9 = .ok (.goto 35, 3) := by decide +kernel
theorem dX2_say_12 : decode cX2_say 12 = .ok (.iload_n 2, 1) := by decide +kernel
theorem dX2_say_13 : decode cX2_say 13 = .ok (.iconst 0, 1) := by decide +kernel
theorem dX2_say_14 : decode cX2_say 14 = .ok (.iconst 5, 1) := by decide +kernel
theorem dX2_say_15 : decode cX2_say 15 = .ok (.invokestatic 36, 3) := by decide +kernel
theorem dX2_say_18 : decode cX2_say 18 = .ok (.ifCond .ne 7, 3) := by decide +kernel
theorem dX2_say_21 : decode cX2_say 21 = .ok (.iconst 2, 1) := by decide +kernel
theorem dX2_say_22 : decode cX2_say 22 = .ok (.goto 22, 3) := by decide +kernel
theorem dX2_say_25 : decode cX2_say 25 = .ok (.aload_n 0, 1) := by decide +kernel
theorem dX2_say_26 : decode cX2_say 26 = .ok (.aload_n 0, 1) := by decide +kernel
theorem dX2_say_27 : decode cX2_say 27 = .ok (.invokevirtual 61, 3) := by decide +kernel
theorem dX2_say_30 : decode cX2_say 30 = .ok (.iload_n 1, 1) := by decide +kernel
theorem dX2_say_31 : decode cX2_say 31 = .ok (.iload_n 2, 1) := by decide +kernel
theorem dX2_say_32 : decode cX2_say 32 = .ok (.iload_n 3, 1) := by decide +kernel
theorem dX2_say_33 : decode cX2_say 33 = .ok (.invokevirtual 117, 3) := by decide +kernel
theorem dX2_say_36 : decode cX2_say 36 = .ok (.ifCond .eq 7, 3) := by decide +kernel
theorem dX2_say_39 : decode cX2_say 39 = .ok (.iconst 0, 1) := by decide +kernel
theorem dX2_say_40 : decode cX2_say 40 = .ok (.goto 4, 3) := by decide +kernel
theorem dX2_say_43 : decode cX2_say 43 = .ok (.iconst 3, 1) := by decide +kernel
theorem dX2_say_44 : decode cX2_say 44 = .ok (.putfield 29, 3) := by decide +kernel
theorem dX2_say_47 : decode cX2_say 47 = .ok (.aload_n 0, 1) := by decide +kernel
theorem dX2_say_48 : decode cX2_say 48 = .ok (.getfield 29, 3) := by decide +kernel
theorem dX2_say_51 : decode cX2_say 51 = .ok (.ifCond .le 5, 3) := by decide +kernel
theorem dX2_say_54 : decode cX2_say 54 = .ok (.iconst 0, 1) := by decide +kernel
theorem dX2_say_55 : decode cX2_say 55 = .ok (.ireturn, 1) := by decide +kernel
theorem dX2_say_56 : decode cX2_say 56 = .ok (.iconst 0, 1) := by decide +kernel
theorem dX2_say_57 : decode cX2_say 57 = .ok (.istore 4, 2) := by decide +kernel
theorem dX2_say_59 : decode cX2_say 59 = .ok (.iload 4, 2) := by decide +kernel
theorem dX2_say_61 : decode cX2_say 61 = .ok (.aload_n 0, 1) := by decide +kernel
theorem dX2_say_62 : decode cX2_say 62 = .ok (.invokevirtual 53, 3) := by decide +kernel
theorem dX2_say_65 : decode cX2_say 65 = .ok (.if_icmp .ge 43, 3) := by decide +kernel
theorem dX2_say_68 : decode cX2_say 68 = .ok (.aload_n 0, 1) := by decide +kernel
theorem dX2_say_69 : decode cX2_say 69 = .ok (.getfield 16, 3) := by decide +kernel
theorem dX2_say_72 : decode cX2_say 72 = .ok (.iload 4, 2) := by decide +kernel
theorem dX2_say_74 : decode cX2_say 74 = .ok (.aload_n 0, 1) := by decide +kernel
theorem dX2_say_75 : decode cX2_say 75 = .ok (.getfield 16, 3) := by decide +kernel
theorem dX2_say_78 : decode cX2_say 78 = .ok (.iload 4, 2) := by decide +kernel
theorem dX2_say_80 : decode cX2_say 80 = .ok (.baload, 1) := by decide +kernel
theorem dX2_say_81 : decode cX2_say 81 = .ok (.ifCond .eq 19, 3) := by decide +kernel
theorem dX2_say_84 : decode cX2_say 84 = .ok (.aload_n 0, 1) := by decide +kernel
theorem dX2_say_85 : decode cX2_say 85 = .ok (.iload 4, 2) := by decide +kernel
theorem dX2_say_87 : decode cX2_say 87 = .ok (.iload_n 1, 1) := by decide +kernel
theorem dX2_say_88 : decode cX2_say 88 = .ok (.iload_n 2, 1) := by decide +kernel
theorem dX2_say_89 : decode cX2_say 89 = .ok (.iload_n 3, 1) := by decide +kernel
theorem dX2_say_90 : decode cX2_say 90 = .ok (.invokevirtual 117, 3) := by decide +kernel
theorem dX2_say_93 : decode cX2_say 93 = .ok (.ifCond .eq 7, 3) := by decide +kernel
theorem dX2_say_96 : decode cX2_say 96 = .ok (.iconst 1, 1) := by decide +kernel
theorem dX2_say_97 : decode cX2_say 97 = .ok (.goto 4, 3) := by decide +kernel
theorem dX2_say_100 : decode cX2_say 100 = .ok (.iconst 0, 1) := by decide +kernel
theorem dX2_say_101 : decode cX2_say 101 = .ok (.bastore, 1) := by decide +kernel
theorem dX2_say_102 : decode cX2_say 102 = .ok (.iinc 4 1, 3) := by decide +kernel
theorem dX2_say_105 : decode cX2_say 105 = .ok (.goto (-46), 3) := by decide +kernel
theorem dX2_say_108 : decode cX2_say 108 = .ok (.aload_n 0, 1) := by decide +kernel
theorem dX2_say_109 : decode cX2_say 109 = .ok (.iconst 1, 1) := by decide +kernel
theorem dX2_say_110 : decode cX2_say 110 = .ok (.putfield 92, 3) := by decide +kernel
theorem dX2_say_113 : decode cX2_say 113 = .ok (.aload_n 0, 1) := by decide +kernel
theorem dX2_say_114 : decode cX2_say 114 = .ok (.invokevirtual 121, 3) := by decide +kernel
theorem dX2_say_117 : decode cX2_say 117 = .ok (.ireturn, 1) := by decide +kernel
theorem dX2_is_0 : decode cX2_is 0 = .ok (.iload 4, 2) := by decide +kernel
theorem dX2_is_2 : decode cX2_is 2 = .ok (.ifCond .eq 21, 3) := by decide +kernel
theorem dX2_is_5 : decode cX2_is 5 = .ok (.aload_n 0, 1) := by decide +kernel
theorem dX2_is_6 : decode cX2_is 6 = .ok (.iload_n 1, 1) := by decide +kernel
theorem dX2_is_7 : decode cX2_is 7 = .ok (.iload_n 2, 1) := by decide +kernel
theorem dX2_is_8 : decode cX2_is 8 = .ok (.invokevirtual 124, 3) := by decide +kernel
theorem dX2_is_11 : decode cX2_is 11 = .ok (.iload_n 3, 1) := by decide +kernel
theorem dX2_is_12 : decode cX2_is 12 = .ok (.if_icmp .lt 7, 3) := by decide +kernel
theorem dX2_is_15 : decode cX2_is 15 = .ok (.iconst 1, 1) := by decide +kernel
theorem dX2_is_16 : decode cX2_is 16 = .ok (.goto 22, 3) := by decide +kernel
theorem dX2_is_19 : decode cX2_is 19 = .ok (.iconst 0, 1) := by decide +kernel
theorem dX2_is_20 : decode cX2_is 20 = .ok (.goto 18, 3) := by decide +kernel
theorem dX2_is_23 : decode cX2_is 23 = .ok (.aload_n 0, 1) := by decide +kernel
theorem dX2_is_24 : decode cX2_is 24 = .ok (.iload_n 1, 1) := by decide +kernel
theorem dX2_is_25 : decode cX2_is 25 = .ok (.iload_n 2, 1) := by decide +kernel
theorem dX2_is_26 : decode cX2_is 26 = .ok (.invokevirtual 124, 3) := by decide +kernel
theorem dX2_is_29 : decode cX2_is 29 = .ok (.iload_n 3, 1) := by decide +kernel
theorem dX2_is_30 : decode cX2_is 30 = .ok (.if_icmp .gt 7, 3) := by decide +kernel
theorem dX2_is_33 : decode cX2_is 33 = .ok (.iconst 1, 1) := by decide +kernel
theorem dX2_is_34 : decode cX2_is 34 = .ok (.goto 4, 3) := by decide +kernel
theorem dX2_is_37 : decode cX2_is 37 = .ok (.iconst 0, 1) := by decide +kernel
theorem dX2_is_38 : decode cX2_is 38 = .ok (.ireturn, 1) := by decide +kernel
theorem dX2_sayAtLeast_0 : decode cX2_sayAtLeast 0 = .ok (.aload_n 0, 1) := by decide +kernel
theorem dX2_sayAtLeast_1 : decode cX2_sayAtLeast 1 = .ok (.iload_n 1, 1) := by decide +kernel
theorem dX2_sayAtLeast_2 : decode cX2_sayAtLeast 2 = .ok (.iload_n 2, 1) := by decide +kernel
theorem dX2_sayAtLeast_3 : decode cX2_sayAtLeast 3 = .ok (.iconst 1, 1) := by decide +kernel
theorem dX2_sayAtLeast_4 : decode cX2_sayAtLeast 4 = .ok (.invokevirtual 127, 3) := by decide +kernel
theorem dX2_sayAtLeast_7 : decode cX2_sayAtLeast 7 = .ok (.ireturn, 1) := by decide +kernel
theorem dX2_sayAtMost_0 : decode cX2_sayAtMost 0 = .ok (.aload_n 0, 1) := by decide +kernel
theorem dX2_sayAtMost_1 : decode cX2_sayAtMost 1 = .ok (.iload_n 1, 1) := by decide +kernel
theorem dX2_sayAtMost_2 : decode cX2_sayAtMost 2 = .ok (.iload_n 2, 1) := by decide +kernel
theorem dX2_sayAtMost_3 : decode cX2_sayAtMost 3 = .ok (.iconst 0, 1) := by decide +kernel
theorem dX2_sayAtMost_4 : decode cX2_sayAtMost 4 = .ok (.invokevirtual 127, 3) := by decide +kernel
theorem dX2_sayAtMost_7 : decode cX2_sayAtMost 7 = .ok (.ireturn, 1) := by decide +kernel
theorem dX2_begin_0 : decode cX2_begin 0 = .ok (.aload_n 0, 1) := by decide +kernel
theorem dX2_begin_1 : decode cX2_begin 1 = .ok (.iconst 0, 1) := by decide +kernel
theorem dX2_begin_2 : decode cX2_begin 2 = .ok (.putfield 29, 3) := by decide +kernel
theorem dX2_begin_5 : decode cX2_begin 5 = .ok (.aload_n 0, 1) := by decide +kernel
theorem dX2_begin_6 : decode cX2_begin 6 = .ok (.iconst 0, 1) := by decide +kernel
theorem dX2_begin_7 : decode cX2_begin 7 = .ok (.putfield 105, 3) := by decide +kernel
theorem dX2_begin_10 : decode cX2_begin 10 = .ok (.aload_n 0, 1) := by decide +kernel
theorem dX2_begin_11 : decode cX2_begin 11 = .ok (.iconst 0, 1) := by decide +kernel
theorem dX2_begin_12 : decode cX2_begin 12 = .ok (.putfield 114, 3) := by decide +kernel
theorem dX2_begin_15 : decode cX2_begin 15 = .ok (.aload_n 0, 1) := by decide +kernel
theorem dX2_begin_16 : decode cX2_begin 16 = .ok (.iconst 0, 1) := by decide +kernel
theorem dX2_begin_17 : decode cX2_begin 17 = .ok (.putfield 92, 3) := by decide +kernel
theorem dX2_begin_20 : decode cX2_begin 20 = .ok (.aload_n 0, 1) := by decide +kernel
theorem dX2_begin_21 : decode cX2_begin 21 = .ok (.invokevirtual 96, 3) := by decide +kernel
theorem dX2_begin_24 : decode cX2_begin 24 = .ok (.aload_n 0, 1) := by decide +kernel
theorem dX2_begin_25 : decode cX2_begin 25 = .ok (.invokevirtual 53, 3) := by decide +kernel
theorem dX2_begin_28 : decode cX2_begin 28 = .ok (.ireturn, 1) := by decide +kernel
theorem dX2_players_0 : decode cX2_players 0 = .ok (.aload_n 0, 1) := by decide +kernel
theorem dX2_players_1 : decode cX2_players 1 = .ok (.aload_n 0, 1) := by decide +kernel
theorem dX2_players_2 : decode cX2_players 2 = .ok (.getfield 33, 3) := by decide +kernel
theorem dX2_players_5 : decode cX2_players 5 = .ok (.invokevirtual 131, 3) := by decide +kernel
theorem dX2_players_8 : decode cX2_players 8 = .ok (.ireturn, 1) := by decide +kernel
theorem dX2_turnsTaken_0 : decode cX2_turnsTaken 0 = .ok (.aload_n 0, 1) := by decide +kernel
theorem dX2_turnsTaken_1 : decode cX2_turnsTaken 1 = .ok (.aload_n 0, 1) := by decide +kernel
theorem dX2_turnsTaken_2 : decode cX2_turnsTaken 2 = .ok (.getfield 105, 3) := by decide +kernel
theorem dX2_turnsTaken_5 : decode cX2_turnsTaken 5 = .ok (.invokevirtual 131, 3) := by decide +kernel
theorem dX2_turnsTaken_8 : decode cX2_turnsTaken 8 = .ok (.ireturn, 1) := by decide +kernel
theorem dX2_silentTurns_0 : decode cX2_silentTurns 0 = .ok (.aload_n 0, 1) := by decide +kernel
theorem dX2_silentTurns_1 : decode cX2_silentTurns 1 = .ok (.aload_n 0, 1) := by decide +kernel
theorem dX2_silentTurns_2 : decode cX2_silentTurns 2 = .ok (.getfield 114, 3) := by decide +kernel
theorem dX2_silentTurns_5 : decode cX2_silentTurns 5 = .ok (.invokevirtual 131, 3) := by decide +kernel
theorem dX2_silentTurns_8 : decode cX2_silentTurns 8 = .ok (.ireturn, 1) := by decide +kernel
theorem dX2_playerInTurn_0 : decode cX2_playerInTurn 0 = .ok (.aload_n 0, 1) := by decide +kernel
theorem dX2_playerInTurn_1 : decode cX2_playerInTurn 1 = .ok (.aload_n 0, 1) := by decide +kernel
theorem dX2_playerInTurn_2 : decode cX2_playerInTurn 2 = .ok (.invokevirtual 108, 3) := by decide +kernel
theorem dX2_playerInTurn_5 : decode cX2_playerInTurn 5 = .ok (.invokevirtual 131, 3) := by decide +kernel
theorem dX2_playerInTurn_8 : decode cX2_playerInTurn 8 = .ok (.ireturn, 1) := by decide +kernel
theorem dX2_hatOf_0 : decode cX2_hatOf 0 = .ok (.aload_n 0, 1) := by decide +kernel
theorem dX2_hatOf_1 : decode cX2_hatOf 1 = .ok (.iconst 0, 1) := by decide +kernel
theorem dX2_hatOf_2 : decode cX2_hatOf 2 = .ok (.putfield 29, 3) := by decide +kernel
theorem dX2_hatOf_5 : decode cX2_hatOf 5 = .ok (.aload_n 0, 1) := by decide +kernel
theorem dX2_hatOf_6 : decode cX2_hatOf 6 = .ok (.iload_n 1, 1) := by decide +kernel
theorem dX2_hatOf_7 : decode cX2_hatOf 7 = .ok (.invokevirtual 99, 3) := by decide +kernel
theorem dX2_hatOf_10 : decode cX2_hatOf 10 = .ok (.ifCond .eq 12, 3) := by decide +kernel
theorem dX2_hatOf_13 : decode cX2_hatOf 13 = .ok (.aload_n 0, 1) := by decide +kernel
theorem dX2_hatOf_14 : decode cX2_hatOf 14 = .ok (.getfield 9, 3) := by decide +kernel
theorem dX2_hatOf_17 : decode cX2_hatOf 17 = .ok (.iload_n 1, 1) := by decide +kernel
theorem dX2_hatOf_18 : decode cX2_hatOf 18 = .ok (.iaload, 1) := by decide +kernel
theorem dX2_hatOf_19 : decode cX2_hatOf 19 = .ok (.goto 8, 3) := by decide +kernel
theorem dX2_hatOf_22 : decode cX2_hatOf 22 = .ok (.aload_n 0, 1) := by decide +kernel
theorem dX2_hatOf_23 : decode cX2_hatOf 23 = .ok (.iconst 1, 1) := by decide +kernel
theorem dX2_hatOf_24 : decode cX2_hatOf 24 = .ok (.invokevirtual 88, 3) := by decide +kernel
theorem dX2_hatOf_27 : decode cX2_hatOf 27 = .ok (.ireturn, 1) := by decide +kernel
theorem dX2_sees__0 : decode cX2_sees_ 0 = .ok (.aload_n 0, 1) := by decide +kernel
theorem dX2_sees__1 : decode cX2_sees_ 1 = .ok (.aload_n 0, 1) := by decide +kernel
theorem dX2_sees__2 : decode cX2_sees_ 2 = .ok (.iload_n 1, 1) := by decide +kernel
theorem dX2_sees__3 : decode cX2_sees_ 3 = .ok (.invokevirtual 99, 3) := by decide +kernel
theorem dX2_sees__6 : decode cX2_sees_ 6 = .ok (.ifCond .eq 15, 3) := by decide +kernel
theorem dX2_sees__9 : decode cX2_sees_ 9 = .ok (.aload_n 0, 1) := by decide +kernel
theorem dX2_sees__10 : decode cX2_sees_ 10 = .ok (.iload_n 2, 1) := by decide +kernel
theorem dX2_sees__11 : decode cX2_sees_ 11 = .ok (.invokevirtual 99, 3) := by decide +kernel
theorem dX2_sees__14 : decode cX2_sees_ 14 = .ok (.ifCond .eq 7, 3) := by decide +kernel
theorem dX2_sees__17 : decode cX2_sees_ 17 = .ok (.iconst 0, 1) := by decide +kernel
theorem dX2_sees__18 : decode cX2_sees_ 18 = .ok (.goto 4, 3) := by decide +kernel
theorem dX2_sees__21 : decode cX2_sees_ 21 = .ok (.iconst 1, 1) := by decide +kernel
theorem dX2_sees__22 : decode cX2_sees_ 22 = .ok (.putfield 29, 3) := by decide +kernel
theorem dX2_sees__25 : decode cX2_sees_ 25 = .ok (.aload_n 0, 1) := by decide +kernel
theorem dX2_sees__26 : decode cX2_sees_ 26 = .ok (.getfield 29, 3) := by decide +kernel
theorem dX2_sees__29 : decode cX2_sees_ 29 = .ok (.ifCond .ne 17, 3) := by decide +kernel
theorem dX2_sees__32 : decode cX2_sees_ 32 = .ok (.aload_n 0, 1) := by decide +kernel
theorem dX2_sees__33 : decode cX2_sees_ 33 = .ok (.iload_n 1, 1) := by decide +kernel
theorem dX2_sees__34 : decode cX2_sees_ 34 = .ok (.iload_n 2, 1) := by decide +kernel
theorem dX2_sees__35 : decode cX2_sees_ 35 = .ok (.iload_n 1, 1) := by decide +kernel
theorem dX2_sees__36 : decode cX2_sees_ 36 = .ok (.invokevirtual 43, 3) := by decide +kernel
theorem dX2_sees__39 : decode cX2_sees_ 39 = .ok (.ifCond .eq 7, 3) := by decide +kernel
theorem dX2_sees__42 : decode cX2_sees_ 42 = .ok (.iconst 1, 1) := by decide +kernel
theorem dX2_sees__43 : decode cX2_sees_ 43 = .ok (.goto 4, 3) := by decide +kernel
theorem dX2_sees__46 : decode cX2_sees_ 46 = .ok (.iconst 0, 1) := by decide +kernel
theorem dX2_sees__47 : decode cX2_sees_ 47 = .ok (.ireturn, 1) := by decide +kernel
theorem dX2_hatsOf_0 : decode cX2_hatsOf 0 = .ok (.aload_n 0, 1) := by decide +kernel
theorem dX2_hatsOf_1 : decode cX2_hatsOf 1 = .ok (.iconst 0, 1) := by decide +kernel
theorem dX2_hatsOf_2 : decode cX2_hatsOf 2 = .ok (.putfield 29, 3) := by decide +kernel
theorem dX2_hatsOf_5 : decode cX2_hatsOf 5 = .ok (.iload_n 1, 1) := by decide +kernel
theorem dX2_hatsOf_6 : decode cX2_hatsOf 6 = .ok (.invokestatic 85, 3) := by decide +kernel
theorem dX2_hatsOf_9 : decode cX2_hatsOf 9 = .ok (.ifCond .eq 15, 3) := by decide +kernel
theorem dX2_hatsOf_12 : decode cX2_hatsOf 12 = .ok (.aload_n 0, 1) := by decide +kernel
theorem dX2_hatsOf_13 : decode cX2_hatsOf 13 = .ok (.aload_n 0, 1) := by decide +kernel
theorem dX2_hatsOf_14 : decode cX2_hatsOf 14 = .ok (.invokevirtual 61, 3) := by decide +kernel
theorem dX2_hatsOf_17 : decode cX2_hatsOf 17 = .ok (.iload_n 1, 1) := by decide +kernel
theorem dX2_hatsOf_18 : decode cX2_hatsOf 18 = .ok (.invokevirtual 124, 3) := by decide +kernel
theorem dX2_hatsOf_21 : decode cX2_hatsOf 21 = .ok (.goto 8, 3) := by decide +kernel
theorem dX2_hatsOf_24 : decode cX2_hatsOf 24 = .ok (.aload_n 0, 1) := by decide +kernel
theorem dX2_hatsOf_25 : decode cX2_hatsOf 25 = .ok (.iconst 1, 1) := by decide +kernel
theorem dX2_hatsOf_26 : decode cX2_hatsOf 26 = .ok (.invokevirtual 88, 3) := by decide +kernel
theorem dX2_hatsOf_29 : decode cX2_hatsOf 29 = .ok (.ireturn, 1) := by decide +kernel
theorem dX2_openWays_0 : decode cX2_openWays 0 = .ok (.aload_n 0, 1) := by decide +kernel
theorem dX2_openWays_1 : decode cX2_openWays 1 = .ok (.aload_n 0, 1) := by decide +kernel
theorem dX2_openWays_2 : decode cX2_openWays 2 = .ok (.invokevirtual 121, 3) := by decide +kernel
theorem dX2_openWays_5 : decode cX2_openWays 5 = .ok (.invokevirtual 131, 3) := by decide +kernel
theorem dX2_openWays_8 : decode cX2_openWays 8 = .ok (.ireturn, 1) := by decide +kernel
theorem dX2_openWith_0 : decode cX2_openWith 0 = .ok (.iconst 0, 1) := by decide +kernel
theorem dX2_openWith_1 : decode cX2_openWith 1 = .ok (.istore_n 3, 1) := by decide +kernel
theorem dX2_openWith_2 : decode cX2_openWith 2 = .ok (.iconst 0, 1) := by decide +kernel
theorem dX2_openWith_3 : decode cX2_openWith 3 = .ok (.istore 4, 2) := by decide +kernel
theorem dX2_openWith_5 : decode cX2_openWith 5 = .ok (.iload 4, 2) := by decide +kernel
theorem dX2_openWith_7 : decode cX2_openWith 7 = .ok (.aload_n 0, 1) := by decide +kernel
theorem dX2_openWith_8 : decode cX2_openWith 8 = .ok (.invokevirtual 53, 3) := by decide +kernel
theorem dX2_openWith_11 : decode cX2_openWith 11 = .ok (.if_icmp .ge 37, 3) := by decide +kernel
theorem dX2_openWith_14 : decode cX2_openWith 14 = .ok (.iload_n 3, 1) := by decide +kernel
theorem dX2_openWith_15 : decode cX2_openWith 15 = .ok (.aload_n 0, 1) := by decide +kernel
theorem dX2_openWith_16 : decode cX2_openWith 16 = .ok (.getfield 16, 3) := by decide +kernel
theorem dX2_openWith_19 : decode cX2_openWith 19 = .ok (.iload 4, 2) := by decide +kernel
theorem dX2_openWith_21 : decode cX2_openWith 21 = .ok (.baload, 1) := by decide +kernel
theorem dX2_openWith_22 : decode cX2_openWith 22 = .ok (.ifCond .eq 17, 3) := by decide +kernel
theorem dX2_openWith_25 : decode cX2_openWith 25 = .ok (.iload 4, 2) := by decide +kernel
theorem dX2_openWith_27 : decode cX2_openWith 27 = .ok (.iload_n 1, 1) := by decide +kernel
theorem dX2_openWith_28 : decode cX2_openWith 28 = .ok (.invokestatic 46, 3) := by decide +kernel
theorem dX2_openWith_31 : decode cX2_openWith 31 = .ok (.iload_n 2, 1) := by decide +kernel
theorem dX2_openWith_32 : decode cX2_openWith 32 = .ok (.if_icmp .ne 7, 3) := by decide +kernel
theorem dX2_openWith_35 : decode cX2_openWith 35 = .ok (.iconst 1, 1) := by decide +kernel
theorem dX2_openWith_36 : decode cX2_openWith 36 = .ok (.goto 4, 3) := by decide +kernel
theorem dX2_openWith_39 : decode cX2_openWith 39 = .ok (.iconst 0, 1) := by decide +kernel
theorem dX2_openWith_40 : decode cX2_openWith 40 = .ok (.iadd, 1) := by decide +kernel
theorem dX2_openWith_41 : decode cX2_openWith 41 = .ok (.istore_n 3, 1) := by decide +kernel
theorem dX2_openWith_42 : decode cX2_openWith 42 = .ok (.iinc 4 1, 3) := by decide +kernel
theorem dX2_openWith_45 : decode cX2_openWith 45 = .ok (.goto (-40), 3) := by decide +kernel
theorem dX2_openWith_48 : decode cX2_openWith 48 = .ok (.iload_n 3, 1) := by decide +kernel
theorem dX2_openWith_49 : decode cX2_openWith 49 = .ok (.ireturn, 1) := by decide +kernel
theorem dX2_openWaysWith_0 : decode cX2_openWaysWith 0 = .ok (.aload_n 0, 1) := by decide +kernel
theorem dX2_openWaysWith_1 : decode cX2_openWaysWith 1 = .ok (.iconst 0, 1) := by decide +kernel
theorem dX2_openWaysWith_2 : decode cX2_openWaysWith 2 = .ok (.putfield 29, 3) := by decide +kernel
theorem dX2_openWaysWith_5 : decode cX2_openWaysWith 5 = .ok (.aload_n 0, 1) := by decide +kernel
theorem dX2_openWaysWith_6 : decode cX2_openWaysWith 6 = .ok (.iload_n 1, 1) := by decide +kernel
theorem dX2_openWaysWith_7 : decode cX2_openWaysWith 7 = .ok (.invokevirtual 99, 3) := by decide +kernel
theorem dX2_openWaysWith_10 : decode cX2_openWaysWith 10 = .ok (.ifCond .eq 19, 3) := by decide +kernel
theorem dX2_openWaysWith_13 : decode cX2_openWaysWith 13 = .ok (.iload_n 2, 1) := by decide +kernel
theorem dX2_openWaysWith_14 : decode cX2_openWaysWith 14 = .ok (.invokestatic 85, 3) := by decide +kernel
theorem dX2_openWaysWith_17 : decode cX2_openWaysWith 17 = .ok (.ifCond .eq 12, 3) := by decide +kernel
theorem dX2_openWaysWith_20 : decode cX2_openWaysWith 20 = .ok (.aload_n 0, 1) := by decide +kernel
theorem dX2_openWaysWith_21 : decode cX2_openWaysWith 21 = .ok (.iload_n 1, 1) := by decide +kernel
theorem dX2_openWaysWith_22 : decode cX2_openWaysWith 22 = .ok (.iload_n 2, 1) := by decide +kernel
theorem dX2_openWaysWith_23 : decode cX2_openWaysWith 23 = .ok (.invokevirtual 134, 3) := by decide +kernel
theorem dX2_openWaysWith_26 : decode cX2_openWaysWith 26 = .ok (.goto 8, 3) := by decide +kernel
theorem dX2_openWaysWith_29 : decode cX2_openWaysWith 29 = .ok (.aload_n 0, 1) := by decide +kernel
theorem dX2_openWaysWith_30 : decode cX2_openWaysWith 30 = .ok (.iconst 1, 1) := by decide +kernel
theorem dX2_openWaysWith_31 : decode cX2_openWaysWith 31 = .ok (.invokevirtual 88, 3) := by decide +kernel
theorem dX2_openWaysWith_34 : decode cX2_openWaysWith 34 = .ok (.ireturn, 1) := by decide +kernel
theorem dX2_known_0 : decode cX2_known 0 = .ok (.aload_n 0, 1) := by decide +kernel
theorem dX2_known_1 : decode cX2_known 1 = .ok (.iload_n 1, 1) := by decide +kernel
theorem dX2_known_2 : decode cX2_known 2 = .ok (.aload_n 0, 1) := by decide +kernel
theorem dX2_known_3 : decode cX2_known 3 = .ok (.getfield 9, 3) := by decide +kernel
theorem dX2_known_6 : decode cX2_known 6 = .ok (.iload_n 1, 1) := by decide +kernel
theorem dX2_known_7 : decode cX2_known 7 = .ok (.iaload, 1) := by decide +kernel
theorem dX2_known_8 : decode cX2_known 8 = .ok (.invokevirtual 134, 3) := by decide +kernel
theorem dX2_known_11 : decode cX2_known 11 = .ok (.aload_n 0, 1) := by decide +kernel
theorem dX2_known_12 : decode cX2_known 12 = .ok (.invokevirtual 121, 3) := by decide +kernel
theorem dX2_known_15 : decode cX2_known 15 = .ok (.if_icmp .ne 7, 3) := by decide +kernel
theorem dX2_known_18 : decode cX2_known 18 = .ok (.iconst 1, 1) := by decide +kernel
theorem dX2_known_19 : decode cX2_known 19 = .ok (.goto 4, 3) := by decide +kernel
theorem dX2_known_22 : decode cX2_known 22 = .ok (.iconst 0, 1) := by decide +kernel
theorem dX2_known_23 : decode cX2_known 23 = .ok (.ireturn, 1) := by decide +kernel
theorem dX2_isKnownToAll_0 : decode cX2_isKnownToAll 0 = .ok (.aload_n 0, 1) := by decide +kernel
theorem dX2_isKnownToAll_1 : decode cX2_isKnownToAll 1 = .ok (.aload_n 0, 1) := by decide +kernel
theorem dX2_isKnownToAll_2 : decode cX2_isKnownToAll 2 = .ok (.iload_n 1, 1) := by decide +kernel
theorem dX2_isKnownToAll_3 : decode cX2_isKnownToAll 3 = .ok (.invokevirtual 99, 3) := by decide +kernel
theorem dX2_isKnownToAll_6 : decode cX2_isKnownToAll 6 = .ok (.ifCond .eq 7, 3) := by decide +kernel
theorem dX2_isKnownToAll_9 : decode cX2_isKnownToAll 9 = .ok (.iconst 0, 1) := by decide +kernel
theorem dX2_isKnownToAll_10 : decode cX2_isKnownToAll 10 = .ok (.goto 4, 3) := by decide +kernel
theorem dX2_isKnownToAll_13 : decode cX2_isKnownToAll 13 = .ok (.iconst 1, 1) := by decide +kernel
theorem dX2_isKnownToAll_14 : decode cX2_isKnownToAll 14 = .ok (.putfield 29, 3) := by decide +kernel
theorem dX2_isKnownToAll_17 : decode cX2_isKnownToAll 17 = .ok (.aload_n 0, 1) := by decide +kernel
theorem dX2_isKnownToAll_18 : decode cX2_isKnownToAll 18 = .ok (.getfield 29, 3) := by decide +kernel
theorem dX2_isKnownToAll_21 : decode cX2_isKnownToAll 21 = .ok (.ifCond .ne 15, 3) := by decide +kernel
theorem dX2_isKnownToAll_24 : decode cX2_isKnownToAll 24 = .ok (.aload_n 0, 1) := by decide +kernel
theorem dX2_isKnownToAll_25 : decode cX2_isKnownToAll 25 = .ok (.iload_n 1, 1) := by decide +kernel
theorem dX2_isKnownToAll_26 : decode cX2_isKnownToAll 26 = .ok (.invokevirtual 137, 3) := by decide +kernel
theorem dX2_isKnownToAll_29 : decode cX2_isKnownToAll 29 = .ok (.ifCond .eq 7, 3) := by decide +kernel
theorem dX2_isKnownToAll_32 : decode cX2_isKnownToAll 32 = .ok (.iconst 1, 1) := by decide +kernel
theorem dX2_isKnownToAll_33 : decode cX2_isKnownToAll 33 = .ok (.goto 4, 3) := by decide +kernel
theorem dX2_isKnownToAll_36 : decode cX2_isKnownToAll 36 = .ok (.iconst 0, 1) := by decide +kernel
theorem dX2_isKnownToAll_37 : decode cX2_isKnownToAll 37 = .ok (.ireturn, 1) := by decide +kernel
theorem dX2_possible_0 : decode cX2_possible 0 = .ok (.aload_n 0, 1) := by decide +kernel
theorem dX2_possible_1 : decode cX2_possible 1 = .ok (.iload_n 1, 1) := by decide +kernel
theorem dX2_possible_2 : decode cX2_possible 2 = .ok (.aload_n 0, 1) := by decide +kernel
theorem dX2_possible_3 : decode cX2_possible 3 = .ok (.invokevirtual 61, 3) := by decide +kernel
theorem dX2_possible_6 : decode cX2_possible 6 = .ok (.invokevirtual 50, 3) := by decide +kernel
theorem dX2_possible_9 : decode cX2_possible 9 = .ok (.istore_n 2, 1) := by decide +kernel
theorem dX2_possible_10 : decode cX2_possible 10 = .ok (.iconst 0, 1) := by decide +kernel
theorem dX2_possible_11 : decode cX2_possible 11 = .ok (.istore_n 3, 1) := by decide +kernel
theorem dX2_possible_12 : decode cX2_possible 12 = .ok (.iconst 0, 1) := by decide +kernel
theorem dX2_possible_13 : decode cX2_possible 13 = .ok (.istore 4, 2) := by decide +kernel
theorem dX2_possible_15 : decode cX2_possible 15 = .ok (.iload 4, 2) := by decide +kernel
theorem dX2_possible_17 : decode cX2_possible 17 = .ok (.aload_n 0, 1) := by decide +kernel
theorem dX2_possible_18 : decode cX2_possible 18 = .ok (.invokevirtual 53, 3) := by decide +kernel
theorem dX2_possible_21 : decode cX2_possible 21 = .ok (.if_icmp .ge 38, 3) := by decide +kernel
theorem dX2_possible_24 : decode cX2_possible 24 = .ok (.iload_n 3, 1) := by decide +kernel
theorem dX2_possible_25 : decode cX2_possible 25 = .ok (.aload_n 0, 1) := by decide +kernel
theorem dX2_possible_26 : decode cX2_possible 26 = .ok (.getfield 16, 3) := by decide +kernel
theorem dX2_possible_29 : decode cX2_possible 29 = .ok (.iload 4, 2) := by decide +kernel
theorem dX2_possible_31 : decode cX2_possible 31 = .ok (.baload, 1) := by decide +kernel
theorem dX2_possible_32 : decode cX2_possible 32 = .ok (.ifCond .eq 18, 3) := by decide +kernel
theorem dX2_possible_35 : decode cX2_possible 35 = .ok (.aload_n 0, 1) := by decide +kernel
theorem dX2_possible_36 : decode cX2_possible 36 = .ok (.iload_n 1, 1) := by decide +kernel
theorem dX2_possible_37 : decode cX2_possible 37 = .ok (.iload 4, 2) := by decide +kernel
theorem dX2_possible_39 : decode cX2_possible 39 = .ok (.invokevirtual 50, 3) := by decide +kernel
theorem dX2_possible_42 : decode cX2_possible 42 = .ok (.iload_n 2, 1) := by decide +kernel
theorem dX2_possible_43 : decode cX2_possible 43 = .ok (.if_icmp .ne 7, 3) := by decide +kernel
theorem dX2_possible_46 : decode cX2_possible 46 = .ok (.iconst 1, 1) := by decide +kernel
theorem dX2_possible_47 : decode cX2_possible 47 = .ok (.goto 4, 3) := by decide +kernel
theorem dX2_possible_50 : decode cX2_possible 50 = .ok (.iconst 0, 1) := by decide +kernel
theorem dX2_possible_51 : decode cX2_possible 51 = .ok (.iadd, 1) := by decide +kernel
theorem dX2_possible_52 : decode cX2_possible 52 = .ok (.istore_n 3, 1) := by decide +kernel
theorem dX2_possible_53 : decode cX2_possible 53 = .ok (.iinc 4 1, 3) := by decide +kernel
theorem dX2_possible_56 : decode cX2_possible 56 = .ok (.goto (-41), 3) := by decide +kernel
theorem dX2_possible_59 : decode cX2_possible 59 = .ok (.iload_n 3, 1) := by decide +kernel
theorem dX2_possible_60 : decode cX2_possible 60 = .ok (.ireturn, 1) := by decide +kernel
theorem dX2_possibleWays_0 : decode cX2_possibleWays 0 = .ok (.aload_n 0, 1) := by decide +kernel
theorem dX2_possibleWays_1 : decode cX2_possibleWays 1 = .ok (.iconst 0, 1) := by decide +kernel
theorem dX2_possibleWays_2 : decode cX2_possibleWays 2 = .ok (.putfield 29, 3) := by decide +kernel
theorem dX2_possibleWays_5 : decode cX2_possibleWays 5 = .ok (.aload_n 0, 1) := by decide +kernel
theorem dX2_possibleWays_6 : decode cX2_possibleWays 6 = .ok (.iload_n 1, 1) := by decide +kernel
theorem dX2_possibleWays_7 : decode cX2_possibleWays 7 = .ok (.invokevirtual 99, 3) := by decide +kernel
theorem dX2_possibleWays_10 : decode cX2_possibleWays 10 = .ok (.ifCond .eq 11, 3) := by decide +kernel
theorem dX2_possibleWays_13 : decode cX2_possibleWays 13 = .ok (.aload_n 0, 1) := by decide +kernel
theorem dX2_possibleWays_14 : decode cX2_possibleWays 14 = .ok (.iload_n 1, 1) := by decide +kernel
theorem dX2_possibleWays_15 : decode cX2_possibleWays 15 = .ok (.invokevirtual 140, 3) := by decide +kernel
theorem dX2_possibleWays_18 : decode cX2_possibleWays 18 = .ok (.goto 8, 3) := by decide +kernel
theorem dX2_possibleWays_21 : decode cX2_possibleWays 21 = .ok (.aload_n 0, 1) := by decide +kernel
theorem dX2_possibleWays_22 : decode cX2_possibleWays 22 = .ok (.iconst 1, 1) := by decide +kernel
theorem dX2_possibleWays_23 : decode cX2_possibleWays 23 = .ok (.invokevirtual 88, 3) := by decide +kernel
theorem dX2_possibleWays_26 : decode cX2_possibleWays 26 = .ok (.ireturn, 1) := by decide +kernel
theorem dX2_holdsPossible_0 : decode cX2_holdsPossible 0 = .ok (.aload_n 0, 1) := by decide +kernel
theorem dX2_holdsPossible_1 : decode cX2_holdsPossible 1 = .ok (.aload_n 0, 1) := by decide +kernel
theorem dX2_holdsPossible_2 : decode cX2_holdsPossible 2 = .ok (.iload_n 1, 1) := by decide +kernel
theorem dX2_holdsPossible_3 : decode cX2_holdsPossible 3 = .ok (.invokevirtual 99, 3) := by decide +kernel
theorem dX2_holdsPossible_6 : decode cX2_holdsPossible 6 = .ok (.ifCond .eq 22, 3) := by decide +kernel
theorem dX2_holdsPossible_9 : decode cX2_holdsPossible 9 = .ok (.aload_n 0, 1) := by decide +kernel
theorem dX2_holdsPossible_10 : decode cX2_holdsPossible 10 = .ok (.iload_n 2, 1) := by decide +kernel
theorem dX2_holdsPossible_11 : decode cX2_holdsPossible 11 = .ok (.invokevirtual 99, 3) := by decide +kernel
theorem dX2_holdsPossible_14 : decode cX2_holdsPossible 14 = .ok (.ifCond .eq 14, 3) := by decide +kernel
theorem dX2_holdsPossible_17 : decode cX2_holdsPossible 17 = .ok (.iload_n 3, 1) := by decide +kernel
theorem dX2_holdsPossible_18 : decode cX2_holdsPossible 18 = .ok (.invokestatic 85, 3) := by decide +kernel
theorem dX2_holdsPossible_21 : decode cX2_holdsPossible 21 = .ok (.ifCond .eq 7, 3) := by decide +kernel
theorem dX2_holdsPossible_24 : decode cX2_holdsPossible 24 = .ok (.iconst 0, 1) := by decide +kernel
theorem dX2_holdsPossible_25 : decode cX2_holdsPossible 25 = .ok (.goto 4, 3) := by decide +kernel
theorem dX2_holdsPossible_28 : decode cX2_holdsPossible 28 = .ok (.iconst 1, 1) := by decide +kernel
theorem dX2_holdsPossible_29 : decode cX2_holdsPossible 29 = .ok (.putfield 29, 3) := by decide +kernel
theorem dX2_holdsPossible_32 : decode cX2_holdsPossible 32 = .ok (.aload_n 0, 1) := by decide +kernel
theorem dX2_holdsPossible_33 : decode cX2_holdsPossible 33 = .ok (.getfield 29, 3) := by decide +kernel
theorem dX2_holdsPossible_36 : decode cX2_holdsPossible 36 = .ok (.ifCond .ne 25, 3) := by decide +kernel
theorem dX2_holdsPossible_39 : decode cX2_holdsPossible 39 = .ok (.aload_n 0, 1) := by decide +kernel
theorem dX2_holdsPossible_40 : decode cX2_holdsPossible 40 = .ok (.iload_n 1, 1) := by decide +kernel
theorem dX2_holdsPossible_41 : decode cX2_holdsPossible 41 = .ok (.iload_n 2, 1) := by decide +kernel
theorem dX2_holdsPossible_42 : decode cX2_holdsPossible 42 = .ok (.aload_n 0, 1) := by decide +kernel
theorem dX2_holdsPossible_43 : decode cX2_holdsPossible 43 = .ok (.invokevirtual 61, 3) := by decide +kernel
theorem dX2_holdsPossible_46 : decode cX2_holdsPossible 46 = .ok (.invokevirtual 64, 3) := by decide +kernel
theorem dX2_holdsPossible_49 : decode cX2_holdsPossible 49 = .ok (.iload_n 3, 1) := by decide +kernel
theorem dX2_holdsPossible_50 : decode cX2_holdsPossible 50 = .ok (.ishr, 1) := by decide +kernel
theorem dX2_holdsPossible_51 : decode cX2_holdsPossible 51 = .ok (.iconst 1, 1) := by decide +kernel
theorem dX2_holdsPossible_52 : decode cX2_holdsPossible 52 = .ok (.iand, 1) := by decide +kernel
theorem dX2_holdsPossible_53 : decode cX2_holdsPossible 53 = .ok (.iconst 1, 1) := by decide +kernel
theorem dX2_holdsPossible_54 : decode cX2_holdsPossible 54 = .ok (.if_icmp .ne 7, 3) := by decide +kernel
theorem dX2_holdsPossible_57 : decode cX2_holdsPossible 57 = .ok (.iconst 1, 1) := by decide +kernel
theorem dX2_holdsPossible_58 : decode cX2_holdsPossible 58 = .ok (.goto 4, 3) := by decide +kernel
theorem dX2_holdsPossible_61 : decode cX2_holdsPossible 61 = .ok (.iconst 0, 1) := by decide +kernel
theorem dX2_holdsPossible_62 : decode cX2_holdsPossible 62 = .ok (.ireturn, 1) := by decide +kernel
theorem dX2_isCertain_0 : decode cX2_isCertain 0 = .ok (.aload_n 0, 1) := by decide +kernel
theorem dX2_isCertain_1 : decode cX2_isCertain 1 = .ok (.aload_n 0, 1) := by decide +kernel
theorem dX2_isCertain_2 : decode cX2_isCertain 2 = .ok (.iload_n 1, 1) := by decide +kernel
theorem dX2_isCertain_3 : decode cX2_isCertain 3 = .ok (.invokevirtual 99, 3) := by decide +kernel
theorem dX2_isCertain_6 : decode cX2_isCertain 6 = .ok (.ifCond .eq 7, 3) := by decide +kernel
theorem dX2_isCertain_9 : decode cX2_isCertain 9 = .ok (.iconst 0, 1) := by decide +kernel
theorem dX2_isCertain_10 : decode cX2_isCertain 10 = .ok (.goto 4, 3) := by decide +kernel
theorem dX2_isCertain_13 : decode cX2_isCertain 13 = .ok (.iconst 1, 1) := by decide +kernel
theorem dX2_isCertain_14 : decode cX2_isCertain 14 = .ok (.putfield 29, 3) := by decide +kernel
theorem dX2_isCertain_17 : decode cX2_isCertain 17 = .ok (.aload_n 0, 1) := by decide +kernel
theorem dX2_isCertain_18 : decode cX2_isCertain 18 = .ok (.getfield 29, 3) := by decide +kernel
theorem dX2_isCertain_21 : decode cX2_isCertain 21 = .ok (.ifCond .ne 15, 3) := by decide +kernel
theorem dX2_isCertain_24 : decode cX2_isCertain 24 = .ok (.aload_n 0, 1) := by decide +kernel
theorem dX2_isCertain_25 : decode cX2_isCertain 25 = .ok (.iload_n 1, 1) := by decide +kernel
theorem dX2_isCertain_26 : decode cX2_isCertain 26 = .ok (.invokevirtual 143, 3) := by decide +kernel
theorem dX2_isCertain_29 : decode cX2_isCertain 29 = .ok (.ifCond .eq 7, 3) := by decide +kernel
theorem dX2_isCertain_32 : decode cX2_isCertain 32 = .ok (.iconst 1, 1) := by decide +kernel
theorem dX2_isCertain_33 : decode cX2_isCertain 33 = .ok (.goto 4, 3) := by decide +kernel
theorem dX2_isCertain_36 : decode cX2_isCertain 36 = .ok (.iconst 0, 1) := by decide +kernel
theorem dX2_isCertain_37 : decode cX2_isCertain 37 = .ok (.ireturn, 1) := by decide +kernel
theorem dX2_knows_0 : decode cX2_knows 0 = .ok (.aload_n 0, 1) := by decide +kernel
theorem dX2_knows_1 : decode cX2_knows 1 = .ok (.iload_n 1, 1) := by decide +kernel
theorem dX2_knows_2 : decode cX2_knows 2 = .ok (.iload_n 2, 1) := by decide +kernel
theorem dX2_knows_3 : decode cX2_knows 3 = .ok (.aload_n 0, 1) := by decide +kernel
theorem dX2_knows_4 : decode cX2_knows 4 = .ok (.invokevirtual 61, 3) := by decide +kernel
theorem dX2_knows_7 : decode cX2_knows 7 = .ok (.invokevirtual 64, 3) := by decide +kernel
theorem dX2_knows_10 : decode cX2_knows 10 = .ok (.invokestatic 57, 3) := by decide +kernel
theorem dX2_knows_13 : decode cX2_knows 13 = .ok (.ireturn, 1) := by decide +kernel
theorem dX2_knowsHatOf_0 : decode cX2_knowsHatOf 0 = .ok (.aload_n 0, 1) := by decide +kernel
theorem dX2_knowsHatOf_1 : decode cX2_knowsHatOf 1 = .ok (.aload_n 0, 1) := by decide +kernel
theorem dX2_knowsHatOf_2 : decode cX2_knowsHatOf 2 = .ok (.iload_n 1, 1) := by decide +kernel
theorem dX2_knowsHatOf_3 : decode cX2_knowsHatOf 3 = .ok (.invokevirtual 99, 3) := by decide +kernel
theorem dX2_knowsHatOf_6 : decode cX2_knowsHatOf 6 = .ok (.ifCond .eq 15, 3) := by decide +kernel
theorem dX2_knowsHatOf_9 : decode cX2_knowsHatOf 9 = .ok (.aload_n 0, 1) := by decide +kernel
theorem dX2_knowsHatOf_10 : decode cX2_knowsHatOf 10 = .ok (.iload_n 2, 1) := by decide +kernel
theorem dX2_knowsHatOf_11 : decode cX2_knowsHatOf 11 = .ok (.invokevirtual 99, 3) := by decide +kernel
theorem dX2_knowsHatOf_14 : decode cX2_knowsHatOf 14 = .ok (.ifCond .eq 7, 3) := by decide +kernel
theorem dX2_knowsHatOf_17 : decode cX2_knowsHatOf 17 = .ok (.iconst 0, 1) := by decide +kernel
theorem dX2_knowsHatOf_18 : decode cX2_knowsHatOf 18 = .ok (.goto 4, 3) := by decide +kernel
theorem dX2_knowsHatOf_21 : decode cX2_knowsHatOf 21 = .ok (.iconst 1, 1) := by decide +kernel
theorem dX2_knowsHatOf_22 : decode cX2_knowsHatOf 22 = .ok (.putfield 29, 3) := by decide +kernel
theorem dX2_knowsHatOf_25 : decode cX2_knowsHatOf 25 = .ok (.aload_n 0, 1) := by decide +kernel
theorem dX2_knowsHatOf_26 : decode cX2_knowsHatOf 26 = .ok (.getfield 29, 3) := by decide +kernel
theorem dX2_knowsHatOf_29 : decode cX2_knowsHatOf 29 = .ok (.ifCond .ne 16, 3) := by decide +kernel
theorem dX2_knowsHatOf_32 : decode cX2_knowsHatOf 32 = .ok (.aload_n 0, 1) := by decide +kernel
theorem dX2_knowsHatOf_33 : decode cX2_knowsHatOf 33 = .ok (.iload_n 1, 1) := by decide +kernel
theorem dX2_knowsHatOf_34 : decode cX2_knowsHatOf 34 = .ok (.iload_n 2, 1) := by decide +kernel
theorem dX2_knowsHatOf_35 : decode cX2_knowsHatOf 35 = .ok (.invokevirtual 146, 3) := by decide +kernel
theorem dX2_knowsHatOf_38 : decode cX2_knowsHatOf 38 = .ok (.ifCond .eq 7, 3) := by decide +kernel
theorem dX2_knowsHatOf_41 : decode cX2_knowsHatOf 41 = .ok (.iconst 1, 1) := by decide +kernel
theorem dX2_knowsHatOf_42 : decode cX2_knowsHatOf 42 = .ok (.goto 4, 3) := by decide +kernel
theorem dX2_knowsHatOf_45 : decode cX2_knowsHatOf 45 = .ok (.iconst 0, 1) := by decide +kernel
theorem dX2_knowsHatOf_46 : decode cX2_knowsHatOf 46 = .ok (.ireturn, 1) := by decide +kernel
theorem dX2_sure_0 : decode cX2_sure 0 = .ok (.aload_n 0, 1) := by decide +kernel
theorem dX2_sure_1 : decode cX2_sure 1 = .ok (.iload_n 1, 1) := by decide +kernel
theorem dX2_sure_2 : decode cX2_sure 2 = .ok (.aload_n 0, 1) := by decide +kernel
theorem dX2_sure_3 : decode cX2_sure 3 = .ok (.invokevirtual 61, 3) := by decide +kernel
theorem dX2_sure_6 : decode cX2_sure 6 = .ok (.invokevirtual 50, 3) := by decide +kernel
theorem dX2_sure_9 : decode cX2_sure 9 = .ok (.istore_n 3, 1) := by decide +kernel
theorem dX2_sure_10 : decode cX2_sure 10 = .ok (.aload_n 0, 1) := by decide +kernel
theorem dX2_sure_11 : decode cX2_sure 11 = .ok (.iload_n 2, 1) := by decide +kernel
theorem dX2_sure_12 : decode cX2_sure 12 = .ok (.invokevirtual 68, 3) := by decide +kernel
theorem dX2_sure_15 : decode cX2_sure 15 = .ok (.iconst 0, 1) := by decide +kernel
theorem dX2_sure_16 : decode cX2_sure 16 = .ok (.istore 4, 2) := by decide +kernel
theorem dX2_sure_18 : decode cX2_sure 18 = .ok (.iload 4, 2) := by decide +kernel
theorem dX2_sure_20 : decode cX2_sure 20 = .ok (.aload_n 0, 1) := by decide +kernel
theorem dX2_sure_21 : decode cX2_sure 21 = .ok (.invokevirtual 53, 3) := by decide +kernel
theorem dX2_sure_24 : decode cX2_sure 24 = .ok (.if_icmp .ge 42, 3) := by decide +kernel
theorem dX2_sure_27 : decode cX2_sure 27 = .ok (.aload_n 0, 1) := by decide +kernel
theorem dX2_sure_28 : decode cX2_sure 28 = .ok (.getfield 16, 3) := by decide +kernel
theorem dX2_sure_31 : decode cX2_sure 31 = .ok (.iload 4, 2) := by decide +kernel
theorem dX2_sure_33 : decode cX2_sure 33 = .ok (.baload, 1) := by decide +kernel
theorem dX2_sure_34 : decode cX2_sure 34 = .ok (.ifCond .eq 26, 3) := by decide +kernel
theorem dX2_sure_37 : decode cX2_sure 37 = .ok (.aload_n 0, 1) := by decide +kernel
theorem dX2_sure_38 : decode cX2_sure 38 = .ok (.iload_n 1, 1) := by decide +kernel
theorem dX2_sure_39 : decode cX2_sure 39 = .ok (.iload 4, 2) := by decide +kernel
theorem dX2_sure_41 : decode cX2_sure 41 = .ok (.invokevirtual 50, 3) := by decide +kernel
theorem dX2_sure_44 : decode cX2_sure 44 = .ok (.iload_n 3, 1) := by decide +kernel
theorem dX2_sure_45 : decode cX2_sure 45 = .ok (.if_icmp .ne 15, 3) := by decide +kernel
theorem dX2_sure_48 : decode cX2_sure 48 = .ok (.aload_n 0, 1) := by decide +kernel
theorem dX2_sure_49 : decode cX2_sure 49 = .ok (.iload_n 2, 1) := by decide +kernel
theorem dX2_sure_50 : decode cX2_sure 50 = .ok (.iload 4, 2) := by decide +kernel
theorem dX2_sure_52 : decode cX2_sure 52 = .ok (.invokevirtual 72, 3) := by decide +kernel
theorem dX2_sure_55 : decode cX2_sure 55 = .ok (.ifCond .ne 5, 3) := by decide +kernel
theorem dX2_sure_58 : decode cX2_sure 58 = .ok (.iconst 0, 1) := by decide +kernel
theorem dX2_sure_59 : decode cX2_sure 59 = .ok (.ireturn, 1) := by decide +kernel
theorem dX2_sure_60 : decode cX2_sure 60 = .ok (.iinc 4 1, 3) := by decide +kernel
theorem dX2_sure_63 : decode cX2_sure 63 = .ok (.goto (-45), 3) := by decide +kernel
theorem dX2_sure_66 : decode cX2_sure 66 = .ok (.iconst 1, 1) := by decide +kernel
theorem dX2_sure_67 : decode cX2_sure 67 = .ok (.ireturn, 1) := by decide +kernel
theorem dX2_knowsCertain_0 : decode cX2_knowsCertain 0 = .ok (.aload_n 0, 1) := by decide +kernel
theorem dX2_knowsCertain_1 : decode cX2_knowsCertain 1 = .ok (.aload_n 0, 1) := by decide +kernel
theorem dX2_knowsCertain_2 : decode cX2_knowsCertain 2 = .ok (.iload_n 1, 1) := by decide +kernel
theorem dX2_knowsCertain_3 : decode cX2_knowsCertain 3 = .ok (.invokevirtual 99, 3) := by decide +kernel
theorem dX2_knowsCertain_6 : decode cX2_knowsCertain 6 = .ok (.ifCond .eq 15, 3) := by decide +kernel
theorem dX2_knowsCertain_9 : decode cX2_knowsCertain 9 = .ok (.aload_n 0, 1) := by decide +kernel
theorem dX2_knowsCertain_10 : decode cX2_knowsCertain 10 = .ok (.iload_n 2, 1) := by decide +kernel
theorem dX2_knowsCertain_11 : decode cX2_knowsCertain 11 = .ok (.invokevirtual 99, 3) := by decide +kernel
theorem dX2_knowsCertain_14 : decode cX2_knowsCertain 14 = .ok (.ifCond .eq 7, 3) := by decide +kernel
theorem dX2_knowsCertain_17 : decode cX2_knowsCertain 17 = .ok (.iconst 0, 1) := by decide +kernel
theorem dX2_knowsCertain_18 : decode cX2_knowsCertain 18 = .ok (.goto 4, 3) := by decide +kernel
theorem dX2_knowsCertain_21 : decode cX2_knowsCertain 21 = .ok (.iconst 1, 1) := by decide +kernel
theorem dX2_knowsCertain_22 : decode cX2_knowsCertain 22 = .ok (.putfield 29, 3) := by decide +kernel
theorem dX2_knowsCertain_25 : decode cX2_knowsCertain 25 = .ok (.aload_n 0, 1) := by decide +kernel
theorem dX2_knowsCertain_26 : decode cX2_knowsCertain 26 = .ok (.getfield 29, 3) := by decide +kernel
theorem dX2_knowsCertain_29 : decode cX2_knowsCertain 29 = .ok (.ifCond .ne 16, 3) := by decide +kernel
theorem dX2_knowsCertain_32 : decode cX2_knowsCertain 32 = .ok (.aload_n 0, 1) := by decide +kernel
theorem dX2_knowsCertain_33 : decode cX2_knowsCertain 33 = .ok (.iload_n 1, 1) := by decide +kernel
theorem dX2_knowsCertain_34 : decode cX2_knowsCertain 34 = .ok (.iload_n 2, 1) := by decide +kernel
theorem dX2_knowsCertain_35 : decode cX2_knowsCertain 35 = .ok (.invokevirtual 149, 3) := by decide +kernel
theorem dX2_knowsCertain_38 : decode cX2_knowsCertain 38 = .ok (.ifCond .eq 7, 3) := by decide +kernel
theorem dX2_knowsCertain_41 : decode cX2_knowsCertain 41 = .ok (.iconst 1, 1) := by decide +kernel
theorem dX2_knowsCertain_42 : decode cX2_knowsCertain 42 = .ok (.goto 4, 3) := by decide +kernel
theorem dX2_knowsCertain_45 : decode cX2_knowsCertain 45 = .ok (.iconst 0, 1) := by decide +kernel
theorem dX2_knowsCertain_46 : decode cX2_knowsCertain 46 = .ok (.ireturn, 1) := by decide +kernel
theorem dX2_many_0 : decode cX2_many 0 = .ok (.iconst 0, 1) := by decide +kernel
theorem dX2_many_1 : decode cX2_many 1 = .ok (.istore_n 1, 1) := by decide +kernel
theorem dX2_many_2 : decode cX2_many 2 = .ok (.iconst 0, 1) := by decide +kernel
theorem dX2_many_3 : decode cX2_many 3 = .ok (.istore_n 2, 1) := by decide +kernel
theorem dX2_many_4 : decode cX2_many 4 = .ok (.iload_n 2, 1) := by decide +kernel
theorem dX2_many_5 : decode cX2_many 5 = .ok (.aload_n 0, 1) := by decide +kernel
theorem dX2_many_6 : decode cX2_many 6 = .ok (.getfield 33, 3) := by decide +kernel
theorem dX2_many_9 : decode cX2_many 9 = .ok (.if_icmp .ge 25, 3) := by decide +kernel
theorem dX2_many_12 : decode cX2_many 12 = .ok (.iload_n 1, 1) := by decide +kernel
theorem dX2_many_13 : decode cX2_many 13 = .ok (.aload_n 0, 1) := by decide +kernel
theorem dX2_many_14 : decode cX2_many 14 = .ok (.iload_n 2, 1) := by decide +kernel
theorem dX2_many_15 : decode cX2_many 15 = .ok (.invokevirtual 143, 3) := by decide +kernel
theorem dX2_many_18 : decode cX2_many 18 = .ok (.ifCond .eq 7, 3) := by decide +kernel
theorem dX2_many_21 : decode cX2_many 21 = .ok (.iconst 1, 1) := by decide +kernel
theorem dX2_many_22 : decode cX2_many 22 = .ok (.goto 4, 3) := by decide +kernel
theorem dX2_many_25 : decode cX2_many 25 = .ok (.iconst 0, 1) := by decide +kernel
theorem dX2_many_26 : decode cX2_many 26 = .ok (.iadd, 1) := by decide +kernel
theorem dX2_many_27 : decode cX2_many 27 = .ok (.istore_n 1, 1) := by decide +kernel
theorem dX2_many_28 : decode cX2_many 28 = .ok (.iinc 2 1, 3) := by decide +kernel
theorem dX2_many_31 : decode cX2_many 31 = .ok (.goto (-27), 3) := by decide +kernel
theorem dX2_many_34 : decode cX2_many 34 = .ok (.iload_n 1, 1) := by decide +kernel
theorem dX2_many_35 : decode cX2_many 35 = .ok (.ireturn, 1) := by decide +kernel
theorem dX2_certainPlayers_0 : decode cX2_certainPlayers 0 = .ok (.aload_n 0, 1) := by decide +kernel
theorem dX2_certainPlayers_1 : decode cX2_certainPlayers 1 = .ok (.aload_n 0, 1) := by decide +kernel
theorem dX2_certainPlayers_2 : decode cX2_certainPlayers 2 = .ok (.invokevirtual 152, 3) := by decide +kernel
theorem dX2_certainPlayers_5 : decode cX2_certainPlayers 5 = .ok (.invokevirtual 131, 3) := by decide +kernel
theorem dX2_certainPlayers_8 : decode cX2_certainPlayers 8 = .ok (.ireturn, 1) := by decide +kernel
theorem dX2_after_0 : decode cX2_after 0 = .ok (.aload_n 0, 1) := by decide +kernel
theorem dX2_after_1 : decode cX2_after 1 = .ok (.getfield 33, 3) := by decide +kernel
theorem dX2_after_4 : decode cX2_after 4 = .ok (.ifCond .ne 5, 3) := by decide +kernel
theorem dX2_after_7 : decode cX2_after 7 = .ok (.iconst 0, 1) := by decide +kernel
theorem dX2_after_8 : decode cX2_after 8 = .ok (.ireturn, 1) := by decide +kernel
theorem dX2_after_9 : decode cX2_after 9 = .ok (.aload_n 0, 1) := by decide +kernel
theorem dX2_after_10 : decode cX2_after 10 = .ok (.invokevirtual 155, 3) := by decide +kernel
theorem dX2_after_13 : decode cX2_after 13 = .ok (.aload_n 0, 1) := by decide +kernel
theorem dX2_after_14 : decode cX2_after 14 = .ok (.aload_n 0, 1) := by decide +kernel
theorem dX2_after_15 : decode cX2_after 15 = .ok (.invokevirtual 108, 3) := by decide +kernel
theorem dX2_after_18 : decode cX2_after 18 = .ok (.aload_n 0, 1) := by decide +kernel
theorem dX2_after_19 : decode cX2_after 19 = .ok (.invokevirtual 61, 3) := by decide +kernel
theorem dX2_after_22 : decode cX2_after 22 = .ok (.invokevirtual 111, 3) := by decide +kernel
theorem dX2_after_25 : decode cX2_after 25 = .ok (.pop, 1) := by decide +kernel
theorem dX2_after_26 : decode cX2_after 26 = .ok (.aload_n 0, 1) := by decide +kernel
theorem dX2_after_27 : decode cX2_after 27 = .ok (.invokevirtual 121, 3) := by decide +kernel
theorem dX2_after_30 : decode cX2_after 30 = .ok (.istore_n 1, 1) := by decide +kernel
theorem dX2_after_31 : decode cX2_after 31 = .ok (.aload_n 0, 1) := by decide +kernel
theorem dX2_after_32 : decode cX2_after 32 = .ok (.invokevirtual 158, 3) := by decide +kernel
theorem dX2_after_35 : decode cX2_after 35 = .ok (.iload_n 1, 1) := by decide +kernel
theorem dX2_after_36 : decode cX2_after 36 = .ok (.ireturn, 1) := by decide +kernel
theorem dX2_openAfterTurn_0 : decode cX2_openAfterTurn 0 = .ok (.aload_n 0, 1) := by decide +kernel
theorem dX2_openAfterTurn_1 : decode cX2_openAfterTurn 1 = .ok (.iconst 0, 1) := by decide +kernel
theorem dX2_openAfterTurn_2 : decode cX2_openAfterTurn 2 = .ok (.putfield 29, 3) := by decide +kernel
theorem dX2_openAfterTurn_5 : decode cX2_openAfterTurn 5 = .ok (.aload_n 0, 1) := by decide +kernel
theorem dX2_openAfterTurn_6 : decode cX2_openAfterTurn 6 = .ok (.getfield 33, 3) := by decide +kernel
theorem dX2_openAfterTurn_9 : decode cX2_openAfterTurn 9 = .ok (.ifCond .ne 11, 3) := by decide +kernel
theorem dX2_openAfterTurn_12 : decode cX2_openAfterTurn 12 = .ok (.aload_n 0, 1) := by decide +kernel
theorem dX2_openAfterTurn_13 : decode cX2_openAfterTurn 13 = .ok (.iconst 1, 1) := by decide +kernel
theorem dX2_openAfterTurn_14 : decode cX2_openAfterTurn 14 = .ok (.invokevirtual 88, 3) := by decide +kernel
theorem dX2_openAfterTurn_17 : decode cX2_openAfterTurn 17 = .ok (.goto 7, 3) := by decide +kernel
theorem dX2_openAfterTurn_20 : decode cX2_openAfterTurn 20 = .ok (.aload_n 0, 1) := by decide +kernel
theorem dX2_openAfterTurn_21 : decode cX2_openAfterTurn 21 = .ok (.invokevirtual 161, 3) := by decide +kernel
theorem dX2_openAfterTurn_24 : decode cX2_openAfterTurn 24 = .ok (.ireturn, 1) := by decide +kernel
theorem dX2_until_0 : decode cX2_until 0 = .ok (.aload_n 0, 1) := by decide +kernel
theorem dX2_until_1 : decode cX2_until 1 = .ok (.invokevirtual 61, 3) := by decide +kernel
theorem dX2_until_4 : decode cX2_until 4 = .ok (.istore_n 2, 1) := by decide +kernel
theorem dX2_until_5 : decode cX2_until 5 = .ok (.aload_n 0, 1) := by decide +kernel
theorem dX2_until_6 : decode cX2_until 6 = .ok (.invokevirtual 155, 3) := by decide +kernel
theorem dX2_until_9 : decode cX2_until 9 = .ok (.iconst 0, 1) := by decide +kernel
theorem dX2_until_10 : decode cX2_until 10 = .ok (.istore_n 3, 1) := by decide +kernel
theorem dX2_until_11 : decode cX2_until 11 = .ok (.iload_n 3, 1) := by decide +kernel
theorem dX2_until_12 : decode cX2_until 12 = .ok (.bipush 40, 2) := by decide +kernel
theorem dX2_until_14 : decode cX2_until 14 = .ok (.if_icmp .gt 53, 3) := by decide +kernel
theorem dX2_until_17 : decode cX2_until 17 = .ok (.iload_n 1, 1) := by decide +kernel
theorem dX2_until_18 : decode cX2_until 18 = .ok (.iconst (-1), 1) := by decide +kernel
theorem dX2_until_19 : decode cX2_until 19 = .ok (.if_icmp .ne 17, 3) := by decide +kernel
theorem dX2_until_22 : decode cX2_until 22 = .ok (.aload_n 0, 1) := by decide +kernel
theorem dX2_until_23 : decode cX2_until 23 = .ok (.invokevirtual 152, 3) := by decide +kernel
theorem dX2_until_26 : decode cX2_until 26 = .ok (.aload_n 0, 1) := by decide +kernel
theorem dX2_until_27 : decode cX2_until 27 = .ok (.getfield 33, 3) := by decide +kernel
theorem dX2_until_30 : decode cX2_until 30 = .ok (.if_icmp .ne 14, 3) := by decide +kernel
theorem dX2_until_33 : decode cX2_until 33 = .ok (.goto 34, 3) := by decide +kernel
theorem dX2_until_36 : decode cX2_until 36 = .ok (.aload_n 0, 1) := by decide +kernel
theorem dX2_until_37 : decode cX2_until 37 = .ok (.iload_n 1, 1) := by decide +kernel
theorem dX2_until_38 : decode cX2_until 38 = .ok (.invokevirtual 143, 3) := by decide +kernel
theorem dX2_until_41 : decode cX2_until 41 = .ok (.ifCond .ne 26, 3) := by decide +kernel
theorem dX2_until_44 : decode cX2_until 44 = .ok (.aload_n 0, 1) := by decide +kernel
theorem dX2_until_45 : decode cX2_until 45 = .ok (.aload_n 0, 1) := by decide +kernel
theorem dX2_until_46 : decode cX2_until 46 = .ok (.getfield 105, 3) := by decide +kernel
theorem dX2_until_49 : decode cX2_until 49 = .ok (.iload_n 3, 1) := by decide +kernel
theorem dX2_until_50 : decode cX2_until 50 = .ok (.iadd, 1) := by decide +kernel
theorem dX2_until_51 : decode cX2_until 51 = .ok (.aload_n 0, 1) := by decide +kernel
theorem dX2_until_52 : decode cX2_until 52 = .ok (.getfield 33, 3) := by decide +kernel
theorem dX2_until_55 : decode cX2_until 55 = .ok (.irem, 1) := by decide +kernel
theorem dX2_until_56 : decode cX2_until 56 = .ok (.iload_n 2, 1) := by decide +kernel
theorem dX2_until_57 : decode cX2_until 57 = .ok (.invokevirtual 111, 3) := by decide +kernel
theorem dX2_until_60 : decode cX2_until 60 = .ok (.pop, 1) := by decide +kernel
theorem dX2_until_61 : decode cX2_until 61 = .ok (.iinc 3 1, 3) := by decide +kernel
theorem dX2_until_64 : decode cX2_until 64 = .ok (.goto (-53), 3) := by decide +kernel
theorem dX2_until_67 : decode cX2_until 67 = .ok (.aload_n 0, 1) := by decide +kernel
theorem dX2_until_68 : decode cX2_until 68 = .ok (.invokevirtual 158, 3) := by decide +kernel
theorem dX2_until_71 : decode cX2_until 71 = .ok (.iload_n 3, 1) := by decide +kernel
theorem dX2_until_72 : decode cX2_until 72 = .ok (.bipush 40, 2) := by decide +kernel
theorem dX2_until_74 : decode cX2_until 74 = .ok (.if_icmp .le 7, 3) := by decide +kernel
theorem dX2_until_77 : decode cX2_until 77 = .ok (.iconst (-1), 1) := by decide +kernel
theorem dX2_until_78 : decode cX2_until 78 = .ok (.goto 4, 3) := by decide +kernel
theorem dX2_until_81 : decode cX2_until 81 = .ok (.iload_n 3, 1) := by decide +kernel
theorem dX2_until_82 : decode cX2_until 82 = .ok (.ireturn, 1) := by decide +kernel
theorem dX2_turnsUntilCertain_0 : decode cX2_turnsUntilCertain 0 = .ok (.aload_n 0, 1) := by decide +kernel
theorem dX2_turnsUntilCertain_1 : decode cX2_turnsUntilCertain 1 = .ok (.iconst 0, 1) := by decide +kernel
theorem dX2_turnsUntilCertain_2 : decode cX2_turnsUntilCertain 2 = .ok (.putfield 29, 3) := by decide +kernel
theorem dX2_turnsUntilCertain_5 : decode cX2_turnsUntilCertain 5 = .ok (.aload_n 0, 1) := by decide +kernel
theorem dX2_turnsUntilCertain_6 : decode cX2_turnsUntilCertain 6 = .ok (.iload_n 1, 1) := by decide +kernel
theorem dX2_turnsUntilCertain_7 : decode cX2_turnsUntilCertain 7 = .ok (.invokevirtual 99, 3) := by decide +kernel
theorem dX2_turnsUntilCertain_10 : decode cX2_turnsUntilCertain 10 = .ok (.ifCond .eq 11, 3) := by decide +kernel
theorem dX2_turnsUntilCertain_13 : decode cX2_turnsUntilCertain 13 = .ok (.aload_n 0, 1) := by decide +kernel
theorem dX2_turnsUntilCertain_14 : decode cX2_turnsUntilCertain 14 = .ok (.iload_n 1, 1) := by decide +kernel
theorem dX2_turnsUntilCertain_15 : decode cX2_turnsUntilCertain 15 = .ok (.invokevirtual 164, 3) := by decide +kernel
theorem dX2_turnsUntilCertain_18 : decode cX2_turnsUntilCertain 18 = .ok (.goto 8, 3) := by decide +kernel
theorem dX2_turnsUntilCertain_21 : decode cX2_turnsUntilCertain 21 = .ok (.aload_n 0, 1) := by decide +kernel
theorem dX2_turnsUntilCertain_22 : decode cX2_turnsUntilCertain 22 = .ok (.iconst 1, 1) := by decide +kernel
theorem dX2_turnsUntilCertain_23 : decode cX2_turnsUntilCertain 23 = .ok (.invokevirtual 88, 3) := by decide +kernel
theorem dX2_turnsUntilCertain_26 : decode cX2_turnsUntilCertain 26 = .ok (.ireturn, 1) := by decide +kernel
theorem dX2_turnsUntilAllCertain_0 : decode cX2_turnsUntilAllCertain 0 = .ok (.aload_n 0, 1) := by decide +kernel
theorem dX2_turnsUntilAllCertain_1 : decode cX2_turnsUntilAllCertain 1 = .ok (.aload_n 0, 1) := by decide +kernel
theorem dX2_turnsUntilAllCertain_2 : decode cX2_turnsUntilAllCertain 2 = .ok (.iconst (-1), 1) := by decide +kernel
theorem dX2_turnsUntilAllCertain_3 : decode cX2_turnsUntilAllCertain 3 = .ok (.invokevirtual 164, 3) := by decide +kernel
theorem dX2_turnsUntilAllCertain_6 : decode cX2_turnsUntilAllCertain 6 = .ok (.invokevirtual 131, 3) := by decide +kernel
theorem dX2_turnsUntilAllCertain_9 : decode cX2_turnsUntilAllCertain 9 = .ok (.ireturn, 1) := by decide +kernel
theorem dX2_best_0 : decode cX2_best 0 = .ok (.iconst (-1), 1) := by decide +kernel
theorem dX2_best_1 : decode cX2_best 1 = .ok (.istore_n 1, 1) := by decide +kernel
theorem dX2_best_2 : decode cX2_best 2 = .ok (.sipush 244, 3) := by decide +kernel
theorem dX2_best_5 : decode cX2_best 5 = .ok (.istore_n 2, 1) := by decide +kernel
theorem dX2_best_6 : decode cX2_best 6 = .ok (.iconst 0, 1) := by decide +kernel
theorem dX2_best_7 : decode cX2_best 7 = .ok (.istore_n 3, 1) := by decide +kernel
theorem dX2_best_8 : decode cX2_best 8 = .ok (.iload_n 3, 1) := by decide +kernel
theorem dX2_best_9 : decode cX2_best 9 = .ok (.iconst 3, 1) := by decide +kernel
theorem dX2_best_10 : decode cX2_best 10 = .ok (.if_icmp .ge 89, 3) := by decide +kernel
theorem dX2_best_13 : decode cX2_best 13 = .ok (.aload_n 0, 1) := by decide +kernel
theorem dX2_best_14 : decode cX2_best 14 = .ok (.aload_n 0, 1) := by decide +kernel
theorem dX2_best_15 : decode cX2_best 15 = .ok (.invokevirtual 61, 3) := by decide +kernel
theorem dX2_best_18 : decode cX2_best 18 = .ok (.iload_n 3, 1) := by decide +kernel
theorem dX2_best_19 : decode cX2_best 19 = .ok (.invokevirtual 124, 3) := by decide +kernel
theorem dX2_best_22 : decode cX2_best 22 = .ok (.ifCond .ne 6, 3) := by decide +kernel
theorem dX2_best_25 : decode cX2_best 25 = .ok (.goto 68, 3) := by decide +kernel
theorem dX2_best_28 : decode cX2_best 28 = .ok (.iconst 0, 1) := by decide +kernel
theorem dX2_best_29 : decode cX2_best 29 = .ok (.istore 4, 2) := by decide +kernel
theorem dX2_best_31 : decode cX2_best 31 = .ok (.iconst 0, 1) := by decide +kernel
theorem dX2_best_32 : decode cX2_best 32 = .ok (.istore 5, 2) := by decide +kernel
theorem dX2_best_34 : decode cX2_best 34 = .ok (.iload 5, 2) := by decide +kernel
theorem dX2_best_36 : decode cX2_best 36 = .ok (.aload_n 0, 1) := by decide +kernel
theorem dX2_best_37 : decode cX2_best 37 = .ok (.invokevirtual 53, 3) := by decide +kernel
theorem dX2_best_40 : decode cX2_best 40 = .ok (.if_icmp .ge 39, 3) := by decide +kernel
theorem dX2_best_43 : decode cX2_best 43 = .ok (.iload 4, 2) := by decide +kernel
theorem dX2_best_45 : decode cX2_best 45 = .ok (.aload_n 0, 1) := by decide +kernel
theorem dX2_best_46 : decode cX2_best 46 = .ok (.getfield 16, 3) := by decide +kernel
theorem dX2_best_49 : decode cX2_best 49 = .ok (.iload 5, 2) := by decide +kernel
theorem dX2_best_51 : decode cX2_best 51 = .ok (.baload, 1) := by decide +kernel
theorem dX2_best_52 : decode cX2_best 52 = .ok (.ifCond .eq 17, 3) := by decide +kernel
theorem dX2_best_55 : decode cX2_best 55 = .ok (.aload_n 0, 1) := by decide +kernel
theorem dX2_best_56 : decode cX2_best 56 = .ok (.iload 5, 2) := by decide +kernel
theorem dX2_best_58 : decode cX2_best 58 = .ok (.iload_n 3, 1) := by decide +kernel
theorem dX2_best_59 : decode cX2_best 59 = .ok (.invokevirtual 124, 3) := by decide +kernel
theorem dX2_best_62 : decode cX2_best 62 = .ok (.ifCond .le 7, 3) := by decide +kernel
theorem dX2_best_65 : decode cX2_best 65 = .ok (.iconst 1, 1) := by decide +kernel
theorem dX2_best_66 : decode cX2_best 66 = .ok (.goto 4, 3) := by decide +kernel
theorem dX2_best_69 : decode cX2_best 69 = .ok (.iconst 0, 1) := by decide +kernel
theorem dX2_best_70 : decode cX2_best 70 = .ok (.iadd, 1) := by decide +kernel
theorem dX2_best_71 : decode cX2_best 71 = .ok (.istore 4, 2) := by decide +kernel
theorem dX2_best_73 : decode cX2_best 73 = .ok (.iinc 5 1, 3) := by decide +kernel
theorem dX2_best_76 : decode cX2_best 76 = .ok (.goto (-42), 3) := by decide +kernel
theorem dX2_best_79 : decode cX2_best 79 = .ok (.iload 4, 2) := by decide +kernel
theorem dX2_best_81 : decode cX2_best 81 = .ok (.iload_n 2, 1) := by decide +kernel
theorem dX2_best_82 : decode cX2_best 82 = .ok (.if_icmp .lt 6, 3) := by decide +kernel
theorem dX2_best_85 : decode cX2_best 85 = .ok (.goto 8, 3) := by decide +kernel
theorem dX2_best_88 : decode cX2_best 88 = .ok (.iload_n 3, 1) := by decide +kernel
theorem dX2_best_89 : decode cX2_best 89 = .ok (.istore_n 1, 1) := by decide +kernel
theorem dX2_best_90 : decode cX2_best 90 = .ok (.iload 4, 2) := by decide +kernel
theorem dX2_best_92 : decode cX2_best 92 = .ok (.istore_n 2, 1) := by decide +kernel
theorem dX2_best_93 : decode cX2_best 93 = .ok (.iinc 3 1, 3) := by decide +kernel
theorem dX2_best_96 : decode cX2_best 96 = .ok (.goto (-88), 3) := by decide +kernel
theorem dX2_best_99 : decode cX2_best 99 = .ok (.iload_n 1, 1) := by decide +kernel
theorem dX2_best_100 : decode cX2_best 100 = .ok (.ireturn, 1) := by decide +kernel
theorem dX2_bestToName_0 : decode cX2_bestToName 0 = .ok (.aload_n 0, 1) := by decide +kernel
theorem dX2_bestToName_1 : decode cX2_bestToName 1 = .ok (.aload_n 0, 1) := by decide +kernel
theorem dX2_bestToName_2 : decode cX2_bestToName 2 = .ok (.invokevirtual 167, 3) := by decide +kernel
theorem dX2_bestToName_5 : decode cX2_bestToName 5 = .ok (.invokevirtual 131, 3) := by decide +kernel
theorem dX2_bestToName_8 : decode cX2_bestToName 8 = .ok (.ireturn, 1) := by decide +kernel
theorem dX2_ifTold_0 : decode cX2_ifTold 0 = .ok (.aload_n 0, 1) := by decide +kernel
theorem dX2_ifTold_1 : decode cX2_ifTold 1 = .ok (.invokevirtual 155, 3) := by decide +kernel
theorem dX2_ifTold_4 : decode cX2_ifTold 4 = .ok (.iconst 0, 1) := by decide +kernel
theorem dX2_ifTold_5 : decode cX2_ifTold 5 = .ok (.istore_n 2, 1) := by decide +kernel
theorem dX2_ifTold_6 : decode cX2_ifTold 6 = .ok (.iload_n 2, 1) := by decide +kernel
theorem dX2_ifTold_7 : decode cX2_ifTold 7 = .ok (.aload_n 0, 1) := by decide +kernel
theorem dX2_ifTold_8 : decode cX2_ifTold 8 = .ok (.invokevirtual 53, 3) := by decide +kernel
theorem dX2_ifTold_11 : decode cX2_ifTold 11 = .ok (.if_icmp .ge 43, 3) := by decide +kernel
theorem dX2_ifTold_14 : decode cX2_ifTold 14 = .ok (.aload_n 0, 1) := by decide +kernel
theorem dX2_ifTold_15 : decode cX2_ifTold 15 = .ok (.getfield 16, 3) := by decide +kernel
theorem dX2_ifTold_18 : decode cX2_ifTold 18 = .ok (.iload_n 2, 1) := by decide +kernel
theorem dX2_ifTold_19 : decode cX2_ifTold 19 = .ok (.aload_n 0, 1) := by decide +kernel
theorem dX2_ifTold_20 : decode cX2_ifTold 20 = .ok (.getfield 16, 3) := by decide +kernel
theorem dX2_ifTold_23 : decode cX2_ifTold 23 = .ok (.iload_n 2, 1) := by decide +kernel
theorem dX2_ifTold_24 : decode cX2_ifTold 24 = .ok (.baload, 1) := by decide +kernel
theorem dX2_ifTold_25 : decode cX2_ifTold 25 = .ok (.ifCond .eq 21, 3) := by decide +kernel
theorem dX2_ifTold_28 : decode cX2_ifTold 28 = .ok (.iload_n 2, 1) := by decide +kernel
theorem dX2_ifTold_29 : decode cX2_ifTold 29 = .ok (.iload_n 1, 1) := by decide +kernel
theorem dX2_ifTold_30 : decode cX2_ifTold 30 = .ok (.invokestatic 46, 3) := by decide +kernel
theorem dX2_ifTold_33 : decode cX2_ifTold 33 = .ok (.aload_n 0, 1) := by decide +kernel
theorem dX2_ifTold_34 : decode cX2_ifTold 34 = .ok (.getfield 9, 3) := by decide +kernel
theorem dX2_ifTold_37 : decode cX2_ifTold 37 = .ok (.iload_n 1, 1) := by decide +kernel
theorem dX2_ifTold_38 : decode cX2_ifTold 38 = .ok (.iaload, 1) := by decide +kernel
theorem dX2_ifTold_39 : decode cX2_ifTold 39 = .ok (.if_icmp .ne 7, 3) := by decide +kernel
theorem dX2_ifTold_42 : decode cX2_ifTold 42 = .ok (.iconst 1, 1) := by decide +kernel
theorem dX2_ifTold_43 : decode cX2_ifTold 43 = .ok (.goto 4, 3) := by decide +kernel
theorem dX2_ifTold_46 : decode cX2_ifTold 46 = .ok (.iconst 0, 1) := by decide +kernel
theorem dX2_ifTold_47 : decode cX2_ifTold 47 = .ok (.bastore, 1) := by decide +kernel
theorem dX2_ifTold_48 : decode cX2_ifTold 48 = .ok (.iinc 2 1, 3) := by decide +kernel
theorem dX2_ifTold_51 : decode cX2_ifTold 51 = .ok (.goto (-45), 3) := by decide +kernel
theorem dX2_ifTold_54 : decode cX2_ifTold 54 = .ok (.aload_n 0, 1) := by decide +kernel
theorem dX2_ifTold_55 : decode cX2_ifTold 55 = .ok (.invokevirtual 152, 3) := by decide +kernel
theorem dX2_ifTold_58 : decode cX2_ifTold 58 = .ok (.istore_n 2, 1) := by decide +kernel
theorem dX2_ifTold_59 : decode cX2_ifTold 59 = .ok (.aload_n 0, 1) := by decide +kernel
theorem dX2_ifTold_60 : decode cX2_ifTold 60 = .ok (.invokevirtual 158, 3) := by decide +kernel
theorem dX2_ifTold_63 : decode cX2_ifTold 63 = .ok (.iload_n 2, 1) := by decide +kernel
theorem dX2_ifTold_64 : decode cX2_ifTold 64 = .ok (.ireturn, 1) := by decide +kernel
theorem dX2_certainIfTold_0 : decode cX2_certainIfTold 0 = .ok (.aload_n 0, 1) := by decide +kernel
theorem dX2_certainIfTold_1 : decode cX2_certainIfTold 1 = .ok (.iconst 0, 1) := by decide +kernel
theorem dX2_certainIfTold_2 : decode cX2_certainIfTold 2 = .ok (.putfield 29, 3) := by decide +kernel
theorem dX2_certainIfTold_5 : decode cX2_certainIfTold 5 = .ok (.aload_n 0, 1) := by decide +kernel
theorem dX2_certainIfTold_6 : decode cX2_certainIfTold 6 = .ok (.iload_n 1, 1) := by decide +kernel
theorem dX2_certainIfTold_7 : decode cX2_certainIfTold 7 = .ok (.invokevirtual 99, 3) := by decide +kernel
theorem dX2_certainIfTold_10 : decode cX2_certainIfTold 10 = .ok (.ifCond .eq 11, 3) := by decide +kernel
theorem dX2_certainIfTold_13 : decode cX2_certainIfTold 13 = .ok (.aload_n 0, 1) := by decide +kernel
theorem dX2_certainIfTold_14 : decode cX2_certainIfTold 14 = .ok (.iload_n 1, 1) := by decide +kernel
theorem dX2_certainIfTold_15 : decode cX2_certainIfTold 15 = .ok (.invokevirtual 170, 3) := by decide +kernel
theorem dX2_certainIfTold_18 : decode cX2_certainIfTold 18 = .ok (.goto 8, 3) := by decide +kernel
theorem dX2_certainIfTold_21 : decode cX2_certainIfTold 21 = .ok (.aload_n 0, 1) := by decide +kernel
theorem dX2_certainIfTold_22 : decode cX2_certainIfTold 22 = .ok (.iconst 1, 1) := by decide +kernel
theorem dX2_certainIfTold_23 : decode cX2_certainIfTold 23 = .ok (.invokevirtual 88, 3) := by decide +kernel
theorem dX2_certainIfTold_26 : decode cX2_certainIfTold 26 = .ok (.ireturn, 1) := by decide +kernel
theorem dX2_meanPossible_0 : decode cX2_meanPossible 0 = .ok (.aload_n 0, 1) := by decide +kernel
theorem dX2_meanPossible_1 : decode cX2_meanPossible 1 = .ok (.iconst 0, 1) := by decide +kernel
theorem dX2_meanPossible_2 : decode cX2_meanPossible 2 = .ok (.putfield 29, 3) := by decide +kernel
theorem dX2_meanPossible_5 : decode cX2_meanPossible 5 = .ok (.iconst 0, 1) := by decide +kernel
theorem dX2_meanPossible_6 : decode cX2_meanPossible 6 = .ok (.istore_n 1, 1) := by decide +kernel
theorem dX2_meanPossible_7 : decode cX2_meanPossible 7 = .ok (.iconst 0, 1) := by decide +kernel
theorem dX2_meanPossible_8 : decode cX2_meanPossible 8 = .ok (.istore_n 2, 1) := by decide +kernel
theorem dX2_meanPossible_9 : decode cX2_meanPossible 9 = .ok (.iload_n 2, 1) := by decide +kernel
theorem dX2_meanPossible_10 : decode cX2_meanPossible 10 = .ok (.aload_n 0, 1) := by decide +kernel
theorem dX2_meanPossible_11 : decode cX2_meanPossible 11 = .ok (.getfield 33, 3) := by decide +kernel
theorem dX2_meanPossible_14 : decode cX2_meanPossible 14 = .ok (.if_icmp .ge 17, 3) := by decide +kernel
theorem dX2_meanPossible_17 : decode cX2_meanPossible 17 = .ok (.iload_n 1, 1) := by decide +kernel
theorem dX2_meanPossible_18 : decode cX2_meanPossible 18 = .ok (.aload_n 0, 1) := by decide +kernel
theorem dX2_meanPossible_19 : decode cX2_meanPossible 19 = .ok (.iload_n 2, 1) := by decide +kernel
theorem dX2_meanPossible_20 : decode cX2_meanPossible 20 = .ok (.invokevirtual 140, 3) := by decide +kernel
theorem dX2_meanPossible_23 : decode cX2_meanPossible 23 = .ok (.iadd, 1) := by decide +kernel
theorem dX2_meanPossible_24 : decode cX2_meanPossible 24 = .ok (.istore_n 1, 1) := by decide +kernel
theorem dX2_meanPossible_25 : decode cX2_meanPossible 25 = .ok (.iinc 2 1, 3) := by decide +kernel
theorem dX2_meanPossible_28 : decode cX2_meanPossible 28 = .ok (.goto (-19), 3) := by decide +kernel
theorem dX2_meanPossible_31 : decode cX2_meanPossible 31 = .ok (.aload_n 0, 1) := by decide +kernel
theorem dX2_meanPossible_32 : decode cX2_meanPossible 32 = .ok (.getfield 33, 3) := by decide +kernel
theorem dX2_meanPossible_35 : decode cX2_meanPossible 35 = .ok (.ifCond .ne 7, 3) := by decide +kernel
theorem dX2_meanPossible_38 : decode cX2_meanPossible 38 = .ok (.dconst 0, 1) := by decide +kernel
theorem dX2_meanPossible_39 : decode cX2_meanPossible 39 = .ok (.goto 11, 3) := by decide +kernel
theorem dX2_meanPossible_42 : decode cX2_meanPossible 42 = .ok (.iload_n 1, 1) := by decide +kernel
theorem dX2_meanPossible_43 : decode cX2_meanPossible 43 = .ok (.i2d, 1) := by decide +kernel
theorem dX2_meanPossible_44 : decode cX2_meanPossible 44 = .ok (.aload_n 0, 1) := by decide +kernel
theorem dX2_meanPossible_45 : decode cX2_meanPossible 45 = .ok (.getfield 33, 3) := by decide +kernel
theorem dX2_meanPossible_48 : decode cX2_meanPossible 48 = .ok (.i2d, 1) := by decide +kernel
theorem dX2_meanPossible_49 : decode cX2_meanPossible 49 = .ok (.ddiv, 1) := by decide +kernel
theorem dX2_meanPossible_50 : decode cX2_meanPossible 50 = .ok (.dreturn, 1) := by decide +kernel
theorem dX2_digest_0 : decode cX2_digest 0 = .ok (.aload_n 0, 1) := by decide +kernel
theorem dX2_digest_1 : decode cX2_digest 1 = .ok (.iconst 0, 1) := by decide +kernel
theorem dX2_digest_2 : decode cX2_digest 2 = .ok (.putfield 29, 3) := by decide +kernel
theorem dX2_digest_5 : decode cX2_digest 5 = .ok (.bipush 8, 2) := by decide +kernel
theorem dX2_digest_7 : decode cX2_digest 7 = .ok (.newarray .int, 2) := by decide +kernel
theorem dX2_digest_9 : decode cX2_digest 9 = .ok (.dup, 1) := by decide +kernel
theorem dX2_digest_10 : decode cX2_digest 10 = .ok (.iconst 0, 1) := by decide +kernel
theorem dX2_digest_11 : decode cX2_digest 11 = .ok (.aload_n 0, 1) := by decide +kernel
theorem dX2_digest_12 : decode cX2_digest 12 = .ok (.getfield 33, 3) := by decide +kernel
theorem dX2_digest_15 : decode cX2_digest 15 = .ok (.iastore, 1) := by decide +kernel
theorem dX2_digest_16 : decode cX2_digest 16 = .ok (.dup, 1) := by decide +kernel
theorem dX2_digest_17 : decode cX2_digest 17 = .ok (.iconst 1, 1) := by decide +kernel
theorem dX2_digest_18 : decode cX2_digest 18 = .ok (.aload_n 0, 1) := by decide +kernel
theorem dX2_digest_19 : decode cX2_digest 19 = .ok (.getfield 105, 3) := by decide +kernel
theorem dX2_digest_22 : decode cX2_digest 22 = .ok (.iastore, 1) := by decide +kernel
theorem dX2_digest_23 : decode cX2_digest 23 = .ok (.dup, 1) := by decide +kernel
theorem dX2_digest_24 : decode cX2_digest 24 = .ok (.iconst 2, 1) := by decide +kernel
theorem dX2_digest_25 : decode cX2_digest 25 = .ok (.aload_n 0, 1) := by decide +kernel
theorem dX2_digest_26 : decode cX2_digest 26 = .ok (.getfield 114, 3) := by decide +kernel
theorem dX2_digest_29 : decode cX2_digest 29 = .ok (.iastore, 1) := by decide +kernel
theorem dX2_digest_30 : decode cX2_digest 30 = .ok (.dup, 1) := by decide +kernel
theorem dX2_digest_31 : decode cX2_digest 31 = .ok (.iconst 3, 1) := by decide +kernel
theorem dX2_digest_32 : decode cX2_digest 32 = .ok (.aload_n 0, 1) := by decide +kernel
theorem dX2_digest_33 : decode cX2_digest 33 = .ok (.invokevirtual 108, 3) := by decide +kernel
theorem dX2_digest_36 : decode cX2_digest 36 = .ok (.iastore, 1) := by decide +kernel
theorem dX2_digest_37 : decode cX2_digest 37 = .ok (.dup, 1) := by decide +kernel
theorem dX2_digest_38 : decode cX2_digest 38 = .ok (.iconst 4, 1) := by decide +kernel
theorem dX2_digest_39 : decode cX2_digest 39 = .ok (.aload_n 0, 1) := by decide +kernel
theorem dX2_digest_40 : decode cX2_digest 40 = .ok (.invokevirtual 121, 3) := by decide +kernel
theorem dX2_digest_43 : decode cX2_digest 43 = .ok (.iastore, 1) := by decide +kernel
theorem dX2_digest_44 : decode cX2_digest 44 = .ok (.dup, 1) := by decide +kernel
theorem dX2_digest_45 : decode cX2_digest 45 = .ok (.iconst 5, 1) := by decide +kernel
theorem dX2_digest_46 : decode cX2_digest 46 = .ok (.aload_n 0, 1) := by decide +kernel
theorem dX2_digest_47 : decode cX2_digest 47 = .ok (.invokevirtual 152, 3) := by decide +kernel
theorem dX2_digest_50 : decode cX2_digest 50 = .ok (.iastore, 1) := by decide +kernel
theorem dX2_digest_51 : decode cX2_digest 51 = .ok (.dup, 1) := by decide +kernel
theorem dX2_digest_52 : decode cX2_digest 52 = .ok (.bipush 6, 2) := by decide +kernel
theorem dX2_digest_54 : decode cX2_digest 54 = .ok (.aload_n 0, 1) := by decide +kernel
theorem dX2_digest_55 : decode cX2_digest 55 = .ok (.invokevirtual 167, 3) := by decide +kernel
theorem dX2_digest_58 : decode cX2_digest 58 = .ok (.iastore, 1) := by decide +kernel
theorem dX2_digest_59 : decode cX2_digest 59 = .ok (.dup, 1) := by decide +kernel
theorem dX2_digest_60 : decode cX2_digest 60 = .ok (.bipush 7, 2) := by decide +kernel
theorem dX2_digest_62 : decode cX2_digest 62 = .ok (.aload_n 0, 1) := by decide +kernel
theorem dX2_digest_63 : decode cX2_digest 63 = .ok (.invokevirtual 161, 3) := by decide +kernel
theorem dX2_digest_66 : decode cX2_digest 66 = .ok (.iastore, 1) := by decide +kernel
theorem dX2_digest_67 : decode cX2_digest 67 = .ok (.astore_n 1, 1) := by decide +kernel
theorem dX2_digest_68 : decode cX2_digest 68 = .ok (.ldc2_w 173, 3) := by decide +kernel
theorem dX2_digest_71 : decode cX2_digest 71 = .ok (.lstore_n 2, 1) := by decide +kernel
theorem dX2_digest_72 : decode cX2_digest 72 = .ok (.aload_n 1, 1) := by decide +kernel
theorem dX2_digest_73 : decode cX2_digest 73 = .ok (.astore 4, 2) := by decide +kernel
theorem dX2_digest_75 : decode cX2_digest 75 = .ok (.aload 4, 2) := by decide +kernel
theorem dX2_digest_77 : decode cX2_digest 77 = .ok (.arraylength, 1) := by decide +kernel
theorem dX2_digest_78 : decode cX2_digest 78 = .ok (.istore 5, 2) := by decide +kernel
theorem dX2_digest_80 : decode cX2_digest 80 = .ok (.iconst 0, 1) := by decide +kernel
theorem dX2_digest_81 : decode cX2_digest 81 = .ok (.istore 6, 2) := by decide +kernel
theorem dX2_digest_83 : decode cX2_digest 83 = .ok (.iload 6, 2) := by decide +kernel
theorem dX2_digest_85 : decode cX2_digest 85 = .ok (.iload 5, 2) := by decide +kernel
theorem dX2_digest_87 : decode cX2_digest 87 = .ok (.if_icmp .ge 26, 3) := by decide +kernel
theorem dX2_digest_90 : decode cX2_digest 90 = .ok (.aload 4, 2) := by decide +kernel
theorem dX2_digest_92 : decode cX2_digest 92 = .ok (.iload 6, 2) := by decide +kernel
theorem dX2_digest_94 : decode cX2_digest 94 = .ok (.iaload, 1) := by decide +kernel
theorem dX2_digest_95 : decode cX2_digest 95 = .ok (.istore 7, 2) := by decide +kernel
theorem dX2_digest_97 : decode cX2_digest 97 = .ok (.lload_n 2, 1) := by decide +kernel
theorem dX2_digest_98 : decode cX2_digest 98 = .ok (.ldc2_w 175, 3) := by decide +kernel
theorem dX2_digest_101 : decode cX2_digest 101 = .ok (.lmul, 1) := by decide +kernel
theorem dX2_digest_102 : decode cX2_digest 102 = .ok (.iload 7, 2) := by decide +kernel
theorem dX2_digest_104 : decode cX2_digest 104 = .ok (.i2l, 1) := by decide +kernel
theorem dX2_digest_105 : decode cX2_digest 105 = .ok (.ladd, 1) := by decide +kernel
theorem dX2_digest_106 : decode cX2_digest 106 = .ok (.lstore_n 2, 1) := by decide +kernel
theorem dX2_digest_107 : decode cX2_digest 107 = .ok (.iinc 6 1, 3) := by decide +kernel
theorem dX2_digest_110 : decode cX2_digest 110 = .ok (.goto (-27), 3) := by decide +kernel
theorem dX2_digest_113 : decode cX2_digest 113 = .ok (.iconst 0, 1) := by decide +kernel
theorem dX2_digest_114 : decode cX2_digest 114 = .ok (.istore 4, 2) := by decide +kernel
theorem dX2_digest_116 : decode cX2_digest 116 = .ok (.iload 4, 2) := by decide +kernel
theorem dX2_digest_118 : decode cX2_digest 118 = .ok (.aload_n 0, 1) := by decide +kernel
theorem dX2_digest_119 : decode cX2_digest 119 = .ok (.getfield 33, 3) := by decide +kernel
theorem dX2_digest_122 : decode cX2_digest 122 = .ok (.if_icmp .ge 210, 3) := by decide +kernel
theorem dX2_digest_125 : decode cX2_digest 125 = .ok (.iconst 5, 1) := by decide +kernel
theorem dX2_digest_126 : decode cX2_digest 126 = .ok (.newarray .int, 2) := by decide +kernel
theorem dX2_digest_128 : decode cX2_digest 128 = .ok (.dup, 1) := by decide +kernel
theorem dX2_digest_129 : decode cX2_digest 129 = .ok (.iconst 0, 1) := by decide +kernel
theorem dX2_digest_130 : decode cX2_digest 130 = .ok (.aload_n 0, 1) := by decide +kernel
theorem dX2_digest_131 : decode cX2_digest 131 = .ok (.getfield 9, 3) := by decide +kernel
theorem dX2_digest_134 : decode cX2_digest 134 = .ok (.iload 4, 2) := by decide +kernel
theorem dX2_digest_136 : decode cX2_digest 136 = .ok (.iaload, 1) := by decide +kernel
theorem dX2_digest_137 : decode cX2_digest 137 = .ok (.iastore, 1) := by decide +kernel
theorem dX2_digest_138 : decode cX2_digest 138 = .ok (.dup, 1) := by decide +kernel
theorem dX2_digest_139 : decode cX2_digest 139 = .ok (.iconst 1, 1) := by decide +kernel
theorem dX2_digest_140 : decode cX2_digest 140 = .ok (.aload_n 0, 1) := by decide +kernel
theorem dX2_digest_141 : decode cX2_digest 141 = .ok (.iload 4, 2) := by decide +kernel
theorem dX2_digest_143 : decode cX2_digest 143 = .ok (.invokevirtual 140, 3) := by decide +kernel
theorem dX2_digest_146 : decode cX2_digest 146 = .ok (.iastore, 1) := by decide +kernel
theorem dX2_digest_147 : decode cX2_digest 147 = .ok (.dup, 1) := by decide +kernel
theorem dX2_digest_148 : decode cX2_digest 148 = .ok (.iconst 2, 1) := by decide +kernel
theorem dX2_digest_149 : decode cX2_digest 149 = .ok (.aload_n 0, 1) := by decide +kernel
theorem dX2_digest_150 : decode cX2_digest 150 = .ok (.iload 4, 2) := by decide +kernel
theorem dX2_digest_152 : decode cX2_digest 152 = .ok (.invokevirtual 143, 3) := by decide +kernel
theorem dX2_digest_155 : decode cX2_digest 155 = .ok (.ifCond .eq 7, 3) := by decide +kernel
theorem dX2_digest_158 : decode cX2_digest 158 = .ok (.iconst 1, 1) := by decide +kernel
theorem dX2_digest_159 : decode cX2_digest 159 = .ok (.goto 4, 3) := by decide +kernel
theorem dX2_digest_162 : decode cX2_digest 162 = .ok (.iconst 0, 1) := by decide +kernel
theorem dX2_digest_163 : decode cX2_digest 163 = .ok (.iastore, 1) := by decide +kernel
theorem dX2_digest_164 : decode cX2_digest 164 = .ok (.dup, 1) := by decide +kernel
theorem dX2_digest_165 : decode cX2_digest 165 = .ok (.iconst 3, 1) := by decide +kernel
theorem dX2_digest_166 : decode cX2_digest 166 = .ok (.aload_n 0, 1) := by decide +kernel
theorem dX2_digest_167 : decode cX2_digest 167 = .ok (.iload 4, 2) := by decide +kernel
theorem dX2_digest_169 : decode cX2_digest 169 = .ok (.invokevirtual 137, 3) := by decide +kernel
theorem dX2_digest_172 : decode cX2_digest 172 = .ok (.ifCond .eq 7, 3) := by decide +kernel
theorem dX2_digest_175 : decode cX2_digest 175 = .ok (.iconst 1, 1) := by decide +kernel
theorem dX2_digest_176 : decode cX2_digest 176 = .ok (.goto 4, 3) := by decide +kernel
theorem dX2_digest_179 : decode cX2_digest 179 = .ok (.iconst 0, 1) := by decide +kernel
theorem dX2_digest_180 : decode cX2_digest 180 = .ok (.iastore, 1) := by decide +kernel
theorem dX2_digest_181 : decode cX2_digest 181 = .ok (.dup, 1) := by decide +kernel
theorem dX2_digest_182 : decode cX2_digest 182 = .ok (.iconst 4, 1) := by decide +kernel
theorem dX2_digest_183 : decode cX2_digest 183 = .ok (.aload_n 0, 1) := by decide +kernel
theorem dX2_digest_184 : decode cX2_digest 184 = .ok (.iload 4, 2) := by decide +kernel
theorem dX2_digest_186 : decode cX2_digest 186 = .ok (.invokevirtual 170, 3) := by decide +kernel
theorem dX2_digest_189 : decode cX2_digest 189 = .ok (.iastore, 1) := by decide +kernel
theorem dX2_digest_190 : decode cX2_digest 190 = .ok (.astore 5, 2) := by decide +kernel
theorem dX2_digest_192 : decode cX2_digest 192 = .ok (.aload 5, 2) := by decide +kernel
theorem dX2_digest_194 : decode cX2_digest 194 = .ok (.astore 6, 2) := by decide +kernel
theorem dX2_digest_196 : decode cX2_digest 196 = .ok (.aload 6, 2) := by decide +kernel
theorem dX2_digest_198 : decode cX2_digest 198 = .ok (.arraylength, 1) := by decide +kernel
theorem dX2_digest_199 : decode cX2_digest 199 = .ok (.istore 7, 2) := by decide +kernel
theorem dX2_digest_201 : decode cX2_digest 201 = .ok (.iconst 0, 1) := by decide +kernel
theorem dX2_digest_202 : decode cX2_digest 202 = .ok (.istore 8, 2) := by decide +kernel
theorem dX2_digest_204 : decode cX2_digest 204 = .ok (.iload 8, 2) := by decide +kernel
theorem dX2_digest_206 : decode cX2_digest 206 = .ok (.iload 7, 2) := by decide +kernel
theorem dX2_digest_208 : decode cX2_digest 208 = .ok (.if_icmp .ge 26, 3) := by decide +kernel
theorem dX2_digest_211 : decode cX2_digest 211 = .ok (.aload 6, 2) := by decide +kernel
theorem dX2_digest_213 : decode cX2_digest 213 = .ok (.iload 8, 2) := by decide +kernel
theorem dX2_digest_215 : decode cX2_digest 215 = .ok (.iaload, 1) := by decide +kernel
theorem dX2_digest_216 : decode cX2_digest 216 = .ok (.istore 9, 2) := by decide +kernel
theorem dX2_digest_218 : decode cX2_digest 218 = .ok (.lload_n 2, 1) := by decide +kernel
theorem dX2_digest_219 : decode cX2_digest 219 = .ok (.ldc2_w 175, 3) := by decide +kernel
theorem dX2_digest_222 : decode cX2_digest 222 = .ok (.lmul, 1) := by decide +kernel
theorem dX2_digest_223 : decode cX2_digest 223 = .ok (.iload 9, 2) := by decide +kernel
theorem dX2_digest_225 : decode cX2_digest 225 = .ok (.i2l, 1) := by decide +kernel
theorem dX2_digest_226 : decode cX2_digest 226 = .ok (.ladd, 1) := by decide +kernel
theorem dX2_digest_227 : decode cX2_digest 227 = .ok (.lstore_n 2, 1) := by decide +kernel
theorem dX2_digest_228 : decode cX2_digest 228 = .ok (.iinc 8 1, 3) := by decide +kernel
theorem dX2_digest_231 : decode cX2_digest 231 = .ok (.goto (-27), 3) := by decide +kernel
theorem dX2_digest_234 : decode cX2_digest 234 = .ok (.iconst 0, 1) := by decide +kernel
theorem dX2_digest_235 : decode cX2_digest 235 = .ok (.istore 6, 2) := by decide +kernel
theorem dX2_digest_237 : decode cX2_digest 237 = .ok (.iload 6, 2) := by decide +kernel
theorem dX2_digest_239 : decode cX2_digest 239 = .ok (.aload_n 0, 1) := by decide +kernel
theorem dX2_digest_240 : decode cX2_digest 240 = .ok (.getfield 33, 3) := by decide +kernel
theorem dX2_digest_243 : decode cX2_digest 243 = .ok (.if_icmp .ge 83, 3) := by decide +kernel
theorem dX2_digest_246 : decode cX2_digest 246 = .ok (.lload_n 2, 1) := by decide +kernel
theorem dX2_digest_247 : decode cX2_digest 247 = .ok (.ldc2_w 175, 3) := by decide +kernel
theorem dX2_digest_250 : decode cX2_digest 250 = .ok (.lmul, 1) := by decide +kernel
theorem dX2_digest_251 : decode cX2_digest 251 = .ok (.aload_n 0, 1) := by decide +kernel
theorem dX2_digest_252 : decode cX2_digest 252 = .ok (.iload 4, 2) := by decide +kernel
theorem dX2_digest_254 : decode cX2_digest 254 = .ok (.iload 6, 2) := by decide +kernel
theorem dX2_digest_256 : decode cX2_digest 256 = .ok (.iload 4, 2) := by decide +kernel
theorem dX2_digest_258 : decode cX2_digest 258 = .ok (.invokevirtual 43, 3) := by decide +kernel
theorem dX2_digest_261 : decode cX2_digest 261 = .ok (.ifCond .eq 7, 3) := by decide +kernel
theorem dX2_digest_264 : decode cX2_digest 264 = .ok (.iconst 1, 1) := by decide +kernel
theorem dX2_digest_265 : decode cX2_digest 265 = .ok (.goto 4, 3) := by decide +kernel
theorem dX2_digest_268 : decode cX2_digest 268 = .ok (.iconst 0, 1) := by decide +kernel
theorem dX2_digest_269 : decode cX2_digest 269 = .ok (.i2l, 1) := by decide +kernel
theorem dX2_digest_270 : decode cX2_digest 270 = .ok (.ladd, 1) := by decide +kernel
theorem dX2_digest_271 : decode cX2_digest 271 = .ok (.lstore_n 2, 1) := by decide +kernel
theorem dX2_digest_272 : decode cX2_digest 272 = .ok (.lload_n 2, 1) := by decide +kernel
theorem dX2_digest_273 : decode cX2_digest 273 = .ok (.ldc2_w 175, 3) := by decide +kernel
theorem dX2_digest_276 : decode cX2_digest 276 = .ok (.lmul, 1) := by decide +kernel
theorem dX2_digest_277 : decode cX2_digest 277 = .ok (.aload_n 0, 1) := by decide +kernel
theorem dX2_digest_278 : decode cX2_digest 278 = .ok (.iload 4, 2) := by decide +kernel
theorem dX2_digest_280 : decode cX2_digest 280 = .ok (.iload 6, 2) := by decide +kernel
theorem dX2_digest_282 : decode cX2_digest 282 = .ok (.invokevirtual 146, 3) := by decide +kernel
theorem dX2_digest_285 : decode cX2_digest 285 = .ok (.ifCond .eq 7, 3) := by decide +kernel
theorem dX2_digest_288 : decode cX2_digest 288 = .ok (.iconst 1, 1) := by decide +kernel
theorem dX2_digest_289 : decode cX2_digest 289 = .ok (.goto 4, 3) := by decide +kernel
theorem dX2_digest_292 : decode cX2_digest 292 = .ok (.iconst 0, 1) := by decide +kernel
theorem dX2_digest_293 : decode cX2_digest 293 = .ok (.i2l, 1) := by decide +kernel
theorem dX2_digest_294 : decode cX2_digest 294 = .ok (.ladd, 1) := by decide +kernel
theorem dX2_digest_295 : decode cX2_digest 295 = .ok (.lstore_n 2, 1) := by decide +kernel
theorem dX2_digest_296 : decode cX2_digest 296 = .ok (.lload_n 2, 1) := by decide +kernel
theorem dX2_digest_297 : decode cX2_digest 297 = .ok (.ldc2_w 175, 3) := by decide +kernel
theorem dX2_digest_300 : decode cX2_digest 300 = .ok (.lmul, 1) := by decide +kernel
theorem dX2_digest_301 : decode cX2_digest 301 = .ok (.aload_n 0, 1) := by decide +kernel
theorem dX2_digest_302 : decode cX2_digest 302 = .ok (.iload 4, 2) := by decide +kernel
theorem dX2_digest_304 : decode cX2_digest 304 = .ok (.iload 6, 2) := by decide +kernel
theorem dX2_digest_306 : decode cX2_digest 306 = .ok (.invokevirtual 149, 3) := by decide +kernel
theorem dX2_digest_309 : decode cX2_digest 309 = .ok (.ifCond .eq 7, 3) := by decide +kernel
theorem dX2_digest_312 : decode cX2_digest 312 = .ok (.iconst 1, 1) := by decide +kernel
theorem dX2_digest_313 : decode cX2_digest 313 = .ok (.goto 4, 3) := by decide +kernel
theorem dX2_digest_316 : decode cX2_digest 316 = .ok (.iconst 0, 1) := by decide +kernel
theorem dX2_digest_317 : decode cX2_digest 317 = .ok (.i2l, 1) := by decide +kernel
theorem dX2_digest_318 : decode cX2_digest 318 = .ok (.ladd, 1) := by decide +kernel
theorem dX2_digest_319 : decode cX2_digest 319 = .ok (.lstore_n 2, 1) := by decide +kernel
theorem dX2_digest_320 : decode cX2_digest 320 = .ok (.iinc 6 1, 3) := by decide +kernel
theorem dX2_digest_323 : decode cX2_digest 323 = .ok (.goto (-86), 3) := by decide +kernel
theorem dX2_digest_326 : decode cX2_digest 326 = .ok (.iinc 4 1, 3) := by decide +kernel
theorem dX2_digest_329 : decode cX2_digest 329 = .ok (.goto (-213), 3) := by decide +kernel
theorem dX2_digest_332 : decode cX2_digest 332 = .ok (.lload_n 2, 1) := by decide +kernel
theorem dX2_digest_333 : decode cX2_digest 333 = .ok (.lreturn, 1) := by decide +kernel
theorem dJ6_bitCount_0f7a4_0 : decode cJ6_bitCount_0f7a4 0 = .ok (.iload_n 0, 1) := by decide +kernel
theorem dJ6_bitCount_0f7a4_1 : decode cJ6_bitCount_0f7a4 1 = .ok (.iload_n 0, 1) := by decide +kernel
theorem dJ6_bitCount_0f7a4_2 : decode cJ6_bitCount_0f7a4 2 = .ok (.iconst 1, 1) := by decide +kernel
theorem dJ6_bitCount_0f7a4_3 : decode cJ6_bitCount_0f7a4 3 = .ok (.iushr, 1) := by decide +kernel
theorem dJ6_bitCount_0f7a4_4 : decode cJ6_bitCount_0f7a4 4 = .ok (.ldc_w 265, 3) := by decide +kernel
theorem dJ6_bitCount_0f7a4_7 : decode cJ6_bitCount_0f7a4 7 = .ok (.iand, 1) := by decide +kernel
theorem dJ6_bitCount_0f7a4_8 : decode cJ6_bitCount_0f7a4 8 = .ok (.isub, 1) := by decide +kernel
theorem dJ6_bitCount_0f7a4_9 : decode cJ6_bitCount_0f7a4 9 = .ok (.istore_n 0, 1) := by decide +kernel
theorem dJ6_bitCount_0f7a4_10 : decode cJ6_bitCount_0f7a4 10 = .ok (.iload_n 0, 1) := by decide +kernel
theorem dJ6_bitCount_0f7a4_11 : decode cJ6_bitCount_0f7a4 11 = .ok (.ldc_w 266, 3) := by decide +kernel
theorem dJ6_bitCount_0f7a4_14 : decode cJ6_bitCount_0f7a4 14 = .ok (.iand, 1) := by decide +kernel
theorem dJ6_bitCount_0f7a4_15 : decode cJ6_bitCount_0f7a4 15 = .ok (.iload_n 0, 1) := by decide +kernel
theorem dJ6_bitCount_0f7a4_16 : decode cJ6_bitCount_0f7a4 16 = .ok (.iconst 2, 1) := by decide +kernel
theorem dJ6_bitCount_0f7a4_17 : decode cJ6_bitCount_0f7a4 17 = .ok (.iushr, 1) := by decide +kernel
theorem dJ6_bitCount_0f7a4_18 : decode cJ6_bitCount_0f7a4 18 = .ok (.ldc_w 266, 3) := by decide +kernel
theorem dJ6_bitCount_0f7a4_21 : decode cJ6_bitCount_0f7a4 21 = .ok (.iand, 1) := by decide +kernel
theorem dJ6_bitCount_0f7a4_22 : decode cJ6_bitCount_0f7a4 22 = .ok (.iadd, 1) := by decide +kernel
theorem dJ6_bitCount_0f7a4_23 : decode cJ6_bitCount_0f7a4 23 = .ok (.istore_n 0, 1) := by decide +kernel
theorem dJ6_bitCount_0f7a4_24 : decode cJ6_bitCount_0f7a4 24 = .ok (.iload_n 0, 1) := by decide +kernel
theorem dJ6_bitCount_0f7a4_25 : decode cJ6_bitCount_0f7a4 25 = .ok (.iload_n 0, 1) := by decide +kernel
theorem dJ6_bitCount_0f7a4_26 : decode cJ6_bitCount_0f7a4 26 = .ok (.iconst 4, 1) := by decide +kernel
theorem dJ6_bitCount_0f7a4_27 : decode cJ6_bitCount_0f7a4 27 = .ok (.iushr, 1) := by decide +kernel
theorem dJ6_bitCount_0f7a4_28 : decode cJ6_bitCount_0f7a4 28 = .ok (.iadd, 1) := by decide +kernel
theorem dJ6_bitCount_0f7a4_29 : decode cJ6_bitCount_0f7a4 29 = .ok (.ldc_w 267, 3) := by decide +kernel
theorem dJ6_bitCount_0f7a4_32 : decode cJ6_bitCount_0f7a4 32 = .ok (.iand, 1) := by decide +kernel
theorem dJ6_bitCount_0f7a4_33 : decode cJ6_bitCount_0f7a4 33 = .ok (.istore_n 0, 1) := by decide +kernel
theorem dJ6_bitCount_0f7a4_34 : decode cJ6_bitCount_0f7a4 34 = .ok (.iload_n 0, 1) := by decide +kernel
theorem dJ6_bitCount_0f7a4_35 : decode cJ6_bitCount_0f7a4 35 = .ok (.iload_n 0, 1) := by decide +kernel
theorem dJ6_bitCount_0f7a4_36 : decode cJ6_bitCount_0f7a4 36 = .ok (.bipush 8, 2) := by decide +kernel
theorem dJ6_bitCount_0f7a4_38 : decode cJ6_bitCount_0f7a4 38 = .ok (.iushr, 1) := by decide +kernel
theorem dJ6_bitCount_0f7a4_39 : decode cJ6_bitCount_0f7a4 39 = .ok (.iadd, 1) := by decide +kernel
theorem dJ6_bitCount_0f7a4_40 : decode cJ6_bitCount_0f7a4 40 = .ok (.istore_n 0, 1) := by decide +kernel
theorem dJ6_bitCount_0f7a4_41 : decode cJ6_bitCount_0f7a4 41 = .ok (.iload_n 0, 1) := by decide +kernel
theorem dJ6_bitCount_0f7a4_42 : decode cJ6_bitCount_0f7a4 42 = .ok (.iload_n 0, 1) := by decide +kernel
theorem dJ6_bitCount_0f7a4_43 : decode cJ6_bitCount_0f7a4 43 = .ok (.bipush 16, 2) := by decide +kernel
theorem dJ6_bitCount_0f7a4_45 : decode cJ6_bitCount_0f7a4 45 = .ok (.iushr, 1) := by decide +kernel
theorem dJ6_bitCount_0f7a4_46 : decode cJ6_bitCount_0f7a4 46 = .ok (.iadd, 1) := by decide +kernel
theorem dJ6_bitCount_0f7a4_47 : decode cJ6_bitCount_0f7a4 47 = .ok (.istore_n 0, 1) := by decide +kernel
theorem dJ6_bitCount_0f7a4_48 : decode cJ6_bitCount_0f7a4 48 = .ok (.iload_n 0, 1) := by decide +kernel
theorem dJ6_bitCount_0f7a4_49 : decode cJ6_bitCount_0f7a4 49 = .ok (.bipush 63, 2) := by decide +kernel
theorem dJ6_bitCount_0f7a4_51 : decode cJ6_bitCount_0f7a4 51 = .ok (.iand, 1) := by decide +kernel
theorem dJ6_bitCount_0f7a4_52 : decode cJ6_bitCount_0f7a4 52 = .ok (.ireturn, 1) := by decide +kernel
theorem dL_addPlayer_0 : decode cL_addPlayer 0 = .ok (.aload_n 2, 1) := by decide +kernel
theorem dL_addPlayer_1 : decode cL_addPlayer 1 = .ok (.iconst 0, 1) := by decide +kernel
theorem dL_addPlayer_2 : decode cL_addPlayer 2 = .ok (.aload_n 0, 1) := by decide +kernel
theorem dL_addPlayer_3 : decode cL_addPlayer 3 = .ok (.iload_n 1, 1) := by decide +kernel
theorem dL_addPlayer_4 : decode cL_addPlayer 4 = .ok (.invokevirtual 7, 3) := by decide +kernel
theorem dL_addPlayer_7 : decode cL_addPlayer 7 = .ok (.i2l, 1) := by decide +kernel
theorem dL_addPlayer_8 : decode cL_addPlayer 8 = .ok (.lastore, 1) := by decide +kernel
theorem dL_addPlayer_9 : decode cL_addPlayer 9 = .ok (.goto 9, 3) := by decide +kernel
theorem dL_addPlayer_12 : decode cL_addPlayer 12 = .ok (.astore_n 3, 1) := by decide +kernel
theorem dL_addPlayer_13 : decode cL_addPlayer 13 = .ok (.iconst 1, 1) := by decide +kernel
theorem dL_addPlayer_14 : decode cL_addPlayer 14 = .ok (.ireturn, 1) := by decide +kernel
theorem dL_addPlayer_15 : decode cL_addPlayer 15 = .ok (.astore_n 3, 1) := by decide +kernel
theorem dL_addPlayer_16 : decode cL_addPlayer 16 = .ok (.iconst 2, 1) := by decide +kernel
theorem dL_addPlayer_17 : decode cL_addPlayer 17 = .ok (.ireturn, 1) := by decide +kernel
theorem dL_addPlayer_18 : decode cL_addPlayer 18 = .ok (.iconst 0, 1) := by decide +kernel
theorem dL_addPlayer_19 : decode cL_addPlayer 19 = .ok (.ireturn, 1) := by decide +kernel
theorem dL_turnAway_0 : decode cL_turnAway 0 = .ok (.aload_n 3, 1) := by decide +kernel
theorem dL_turnAway_1 : decode cL_turnAway 1 = .ok (.iconst 0, 1) := by decide +kernel
theorem dL_turnAway_2 : decode cL_turnAway 2 = .ok (.aload_n 0, 1) := by decide +kernel
theorem dL_turnAway_3 : decode cL_turnAway 3 = .ok (.iload_n 1, 1) := by decide +kernel
theorem dL_turnAway_4 : decode cL_turnAway 4 = .ok (.iload_n 2, 1) := by decide +kernel
theorem dL_turnAway_5 : decode cL_turnAway 5 = .ok (.invokevirtual 17, 3) := by decide +kernel
theorem dL_turnAway_8 : decode cL_turnAway 8 = .ok (.ifCond .eq 7, 3) := by decide +kernel
theorem dL_turnAway_11 : decode cL_turnAway 11 = .ok (.lconst 1, 1) := by decide +kernel
theorem dL_turnAway_12 : decode cL_turnAway 12 = .ok (.goto 4, 3) := by decide +kernel
theorem dL_turnAway_15 : decode cL_turnAway 15 = .ok (.lconst 0, 1) := by decide +kernel
theorem dL_turnAway_16 : decode cL_turnAway 16 = .ok (.lastore, 1) := by decide +kernel
theorem dL_turnAway_17 : decode cL_turnAway 17 = .ok (.goto 11, 3) := by decide +kernel
theorem dL_turnAway_20 : decode cL_turnAway 20 = .ok (.astore 4, 2) := by decide +kernel
theorem dL_turnAway_22 : decode cL_turnAway 22 = .ok (.iconst 1, 1) := by decide +kernel
theorem dL_turnAway_23 : decode cL_turnAway 23 = .ok (.ireturn, 1) := by decide +kernel
theorem dL_turnAway_24 : decode cL_turnAway 24 = .ok (.astore 4, 2) := by decide +kernel
theorem dL_turnAway_26 : decode cL_turnAway 26 = .ok (.iconst 2, 1) := by decide +kernel
theorem dL_turnAway_27 : decode cL_turnAway 27 = .ok (.ireturn, 1) := by decide +kernel
theorem dL_turnAway_28 : decode cL_turnAway 28 = .ok (.iconst 0, 1) := by decide +kernel
theorem dL_turnAway_29 : decode cL_turnAway 29 = .ok (.ireturn, 1) := by decide +kernel
theorem dL_borrow_0 : decode cL_borrow 0 = .ok (.aload_n 3, 1) := by decide +kernel
theorem dL_borrow_1 : decode cL_borrow 1 = .ok (.iconst 0, 1) := by decide +kernel
theorem dL_borrow_2 : decode cL_borrow 2 = .ok (.aload_n 0, 1) := by decide +kernel
theorem dL_borrow_3 : decode cL_borrow 3 = .ok (.iload_n 1, 1) := by decide +kernel
theorem dL_borrow_4 : decode cL_borrow 4 = .ok (.iload_n 2, 1) := by decide +kernel
theorem dL_borrow_5 : decode cL_borrow 5 = .ok (.invokevirtual 23, 3) := by decide +kernel
theorem dL_borrow_8 : decode cL_borrow 8 = .ok (.i2l, 1) := by decide +kernel
theorem dL_borrow_9 : decode cL_borrow 9 = .ok (.lastore, 1) := by decide +kernel
theorem dL_borrow_10 : decode cL_borrow 10 = .ok (.goto 11, 3) := by decide +kernel
theorem dL_borrow_13 : decode cL_borrow 13 = .ok (.astore 4, 2) := by decide +kernel
theorem dL_borrow_15 : decode cL_borrow 15 = .ok (.iconst 1, 1) := by decide +kernel
theorem dL_borrow_16 : decode cL_borrow 16 = .ok (.ireturn, 1) := by decide +kernel
theorem dL_borrow_17 : decode cL_borrow 17 = .ok (.astore 4, 2) := by decide +kernel
theorem dL_borrow_19 : decode cL_borrow 19 = .ok (.iconst 2, 1) := by decide +kernel
theorem dL_borrow_20 : decode cL_borrow 20 = .ok (.ireturn, 1) := by decide +kernel
theorem dL_borrow_21 : decode cL_borrow 21 = .ok (.iconst 0, 1) := by decide +kernel
theorem dL_borrow_22 : decode cL_borrow 22 = .ok (.ireturn, 1) := by decide +kernel
theorem dL_takeTurn_0 : decode cL_takeTurn 0 = .ok (.aload_n 1, 1) := by decide +kernel
theorem dL_takeTurn_1 : decode cL_takeTurn 1 = .ok (.iconst 0, 1) := by decide +kernel
theorem dL_takeTurn_2 : decode cL_takeTurn 2 = .ok (.aload_n 0, 1) := by decide +kernel
theorem dL_takeTurn_3 : decode cL_takeTurn 3 = .ok (.invokevirtual 27, 3) := by decide +kernel
theorem dL_takeTurn_6 : decode cL_takeTurn 6 = .ok (.i2l, 1) := by decide +kernel
theorem dL_takeTurn_7 : decode cL_takeTurn 7 = .ok (.lastore, 1) := by decide +kernel
theorem dL_takeTurn_8 : decode cL_takeTurn 8 = .ok (.goto 6, 3) := by decide +kernel
theorem dL_takeTurn_11 : decode cL_takeTurn 11 = .ok (.astore_n 2, 1) := by decide +kernel
theorem dL_takeTurn_12 : decode cL_takeTurn 12 = .ok (.iconst 1, 1) := by decide +kernel
theorem dL_takeTurn_13 : decode cL_takeTurn 13 = .ok (.ireturn, 1) := by decide +kernel
theorem dL_takeTurn_14 : decode cL_takeTurn 14 = .ok (.iconst 0, 1) := by decide +kernel
theorem dL_takeTurn_15 : decode cL_takeTurn 15 = .ok (.ireturn, 1) := by decide +kernel
theorem dL_sayAtLeast_0 : decode cL_sayAtLeast 0 = .ok (.aload_n 3, 1) := by decide +kernel
theorem dL_sayAtLeast_1 : decode cL_sayAtLeast 1 = .ok (.iconst 0, 1) := by decide +kernel
theorem dL_sayAtLeast_2 : decode cL_sayAtLeast 2 = .ok (.aload_n 0, 1) := by decide +kernel
theorem dL_sayAtLeast_3 : decode cL_sayAtLeast 3 = .ok (.iload_n 1, 1) := by decide +kernel
theorem dL_sayAtLeast_4 : decode cL_sayAtLeast 4 = .ok (.iload_n 2, 1) := by decide +kernel
theorem dL_sayAtLeast_5 : decode cL_sayAtLeast 5 = .ok (.invokevirtual 31, 3) := by decide +kernel
theorem dL_sayAtLeast_8 : decode cL_sayAtLeast 8 = .ok (.i2l, 1) := by decide +kernel
theorem dL_sayAtLeast_9 : decode cL_sayAtLeast 9 = .ok (.lastore, 1) := by decide +kernel
theorem dL_sayAtLeast_10 : decode cL_sayAtLeast 10 = .ok (.goto 15, 3) := by decide +kernel
theorem dL_sayAtLeast_13 : decode cL_sayAtLeast 13 = .ok (.astore 4, 2) := by decide +kernel
theorem dL_sayAtLeast_15 : decode cL_sayAtLeast 15 = .ok (.iconst 1, 1) := by decide +kernel
theorem dL_sayAtLeast_16 : decode cL_sayAtLeast 16 = .ok (.ireturn, 1) := by decide +kernel
theorem dL_sayAtLeast_17 : decode cL_sayAtLeast 17 = .ok (.astore 4, 2) := by decide +kernel
theorem dL_sayAtLeast_19 : decode cL_sayAtLeast 19 = .ok (.iconst 2, 1) := by decide +kernel
theorem dL_sayAtLeast_20 : decode cL_sayAtLeast 20 = .ok (.ireturn, 1) := by decide +kernel
theorem dL_sayAtLeast_21 : decode cL_sayAtLeast 21 = .ok (.astore 4, 2) := by decide +kernel
theorem dL_sayAtLeast_23 : decode cL_sayAtLeast 23 = .ok (.iconst 3, 1) := by decide +kernel
theorem dL_sayAtLeast_24 : decode cL_sayAtLeast 24 = .ok (.ireturn, 1) := by decide +kernel
theorem dL_sayAtLeast_25 : decode cL_sayAtLeast 25 = .ok (.iconst 0, 1) := by decide +kernel
theorem dL_sayAtLeast_26 : decode cL_sayAtLeast 26 = .ok (.ireturn, 1) := by decide +kernel
theorem dL_sayAtMost_0 : decode cL_sayAtMost 0 = .ok (.aload_n 3, 1) := by decide +kernel
theorem dL_sayAtMost_1 : decode cL_sayAtMost 1 = .ok (.iconst 0, 1) := by decide +kernel
theorem dL_sayAtMost_2 : decode cL_sayAtMost 2 = .ok (.aload_n 0, 1) := by decide +kernel
theorem dL_sayAtMost_3 : decode cL_sayAtMost 3 = .ok (.iload_n 1, 1) := by decide +kernel
theorem dL_sayAtMost_4 : decode cL_sayAtMost 4 = .ok (.iload_n 2, 1) := by decide +kernel
theorem dL_sayAtMost_5 : decode cL_sayAtMost 5 = .ok (.invokevirtual 34, 3) := by decide +kernel
theorem dL_sayAtMost_8 : decode cL_sayAtMost 8 = .ok (.i2l, 1) := by decide +kernel
theorem dL_sayAtMost_9 : decode cL_sayAtMost 9 = .ok (.lastore, 1) := by decide +kernel
theorem dL_sayAtMost_10 : decode cL_sayAtMost 10 = .ok (.goto 15, 3) := by decide +kernel
theorem dL_sayAtMost_13 : decode cL_sayAtMost 13 = .ok (.astore 4, 2) := by decide +kernel
theorem dL_sayAtMost_15 : decode cL_sayAtMost 15 = .ok (.iconst 1, 1) := by decide +kernel
theorem dL_sayAtMost_16 : decode cL_sayAtMost 16 = .ok (.ireturn, 1) := by decide +kernel
theorem dL_sayAtMost_17 : decode cL_sayAtMost 17 = .ok (.astore 4, 2) := by decide +kernel
theorem dL_sayAtMost_19 : decode cL_sayAtMost 19 = .ok (.iconst 2, 1) := by decide +kernel
theorem dL_sayAtMost_20 : decode cL_sayAtMost 20 = .ok (.ireturn, 1) := by decide +kernel
theorem dL_sayAtMost_21 : decode cL_sayAtMost 21 = .ok (.astore 4, 2) := by decide +kernel
theorem dL_sayAtMost_23 : decode cL_sayAtMost 23 = .ok (.iconst 3, 1) := by decide +kernel
theorem dL_sayAtMost_24 : decode cL_sayAtMost 24 = .ok (.ireturn, 1) := by decide +kernel
theorem dL_sayAtMost_25 : decode cL_sayAtMost 25 = .ok (.iconst 0, 1) := by decide +kernel
theorem dL_sayAtMost_26 : decode cL_sayAtMost 26 = .ok (.ireturn, 1) := by decide +kernel
theorem dL_hatOf_0 : decode cL_hatOf 0 = .ok (.aload_n 2, 1) := by decide +kernel
theorem dL_hatOf_1 : decode cL_hatOf 1 = .ok (.iconst 0, 1) := by decide +kernel
theorem dL_hatOf_2 : decode cL_hatOf 2 = .ok (.aload_n 0, 1) := by decide +kernel
theorem dL_hatOf_3 : decode cL_hatOf 3 = .ok (.iload_n 1, 1) := by decide +kernel
theorem dL_hatOf_4 : decode cL_hatOf 4 = .ok (.invokevirtual 37, 3) := by decide +kernel
theorem dL_hatOf_7 : decode cL_hatOf 7 = .ok (.i2l, 1) := by decide +kernel
theorem dL_hatOf_8 : decode cL_hatOf 8 = .ok (.lastore, 1) := by decide +kernel
theorem dL_hatOf_9 : decode cL_hatOf 9 = .ok (.goto 6, 3) := by decide +kernel
theorem dL_hatOf_12 : decode cL_hatOf 12 = .ok (.astore_n 3, 1) := by decide +kernel
theorem dL_hatOf_13 : decode cL_hatOf 13 = .ok (.iconst 1, 1) := by decide +kernel
theorem dL_hatOf_14 : decode cL_hatOf 14 = .ok (.ireturn, 1) := by decide +kernel
theorem dL_hatOf_15 : decode cL_hatOf 15 = .ok (.iconst 0, 1) := by decide +kernel
theorem dL_hatOf_16 : decode cL_hatOf 16 = .ok (.ireturn, 1) := by decide +kernel
theorem dL_sees_0 : decode cL_sees 0 = .ok (.aload_n 3, 1) := by decide +kernel
theorem dL_sees_1 : decode cL_sees 1 = .ok (.iconst 0, 1) := by decide +kernel
theorem dL_sees_2 : decode cL_sees 2 = .ok (.aload_n 0, 1) := by decide +kernel
theorem dL_sees_3 : decode cL_sees 3 = .ok (.iload_n 1, 1) := by decide +kernel
theorem dL_sees_4 : decode cL_sees 4 = .ok (.iload_n 2, 1) := by decide +kernel
theorem dL_sees_5 : decode cL_sees 5 = .ok (.invokevirtual 40, 3) := by decide +kernel
theorem dL_sees_8 : decode cL_sees 8 = .ok (.ifCond .eq 7, 3) := by decide +kernel
theorem dL_sees_11 : decode cL_sees 11 = .ok (.lconst 1, 1) := by decide +kernel
theorem dL_sees_12 : decode cL_sees 12 = .ok (.goto 4, 3) := by decide +kernel
theorem dL_sees_15 : decode cL_sees 15 = .ok (.lconst 0, 1) := by decide +kernel
theorem dL_sees_16 : decode cL_sees 16 = .ok (.lastore, 1) := by decide +kernel
theorem dL_sees_17 : decode cL_sees 17 = .ok (.goto 7, 3) := by decide +kernel
theorem dL_sees_20 : decode cL_sees 20 = .ok (.astore 4, 2) := by decide +kernel
theorem dL_sees_22 : decode cL_sees 22 = .ok (.iconst 1, 1) := by decide +kernel
theorem dL_sees_23 : decode cL_sees 23 = .ok (.ireturn, 1) := by decide +kernel
theorem dL_sees_24 : decode cL_sees 24 = .ok (.iconst 0, 1) := by decide +kernel
theorem dL_sees_25 : decode cL_sees 25 = .ok (.ireturn, 1) := by decide +kernel
theorem dL_hatsOf_0 : decode cL_hatsOf 0 = .ok (.aload_n 2, 1) := by decide +kernel
theorem dL_hatsOf_1 : decode cL_hatsOf 1 = .ok (.iconst 0, 1) := by decide +kernel
theorem dL_hatsOf_2 : decode cL_hatsOf 2 = .ok (.aload_n 0, 1) := by decide +kernel
theorem dL_hatsOf_3 : decode cL_hatsOf 3 = .ok (.iload_n 1, 1) := by decide +kernel
theorem dL_hatsOf_4 : decode cL_hatsOf 4 = .ok (.invokevirtual 43, 3) := by decide +kernel
theorem dL_hatsOf_7 : decode cL_hatsOf 7 = .ok (.i2l, 1) := by decide +kernel
theorem dL_hatsOf_8 : decode cL_hatsOf 8 = .ok (.lastore, 1) := by decide +kernel
theorem dL_hatsOf_9 : decode cL_hatsOf 9 = .ok (.goto 6, 3) := by decide +kernel
theorem dL_hatsOf_12 : decode cL_hatsOf 12 = .ok (.astore_n 3, 1) := by decide +kernel
theorem dL_hatsOf_13 : decode cL_hatsOf 13 = .ok (.iconst 1, 1) := by decide +kernel
theorem dL_hatsOf_14 : decode cL_hatsOf 14 = .ok (.ireturn, 1) := by decide +kernel
theorem dL_hatsOf_15 : decode cL_hatsOf 15 = .ok (.iconst 0, 1) := by decide +kernel
theorem dL_hatsOf_16 : decode cL_hatsOf 16 = .ok (.ireturn, 1) := by decide +kernel
theorem dL_openWaysWith_0 : decode cL_openWaysWith 0 = .ok (.aload_n 3, 1) := by decide +kernel
theorem dL_openWaysWith_1 : decode cL_openWaysWith 1 = .ok (.iconst 0, 1) := by decide +kernel
theorem dL_openWaysWith_2 : decode cL_openWaysWith 2 = .ok (.aload_n 0, 1) := by decide +kernel
theorem dL_openWaysWith_3 : decode cL_openWaysWith 3 = .ok (.iload_n 1, 1) := by decide +kernel
theorem dL_openWaysWith_4 : decode cL_openWaysWith 4 = .ok (.iload_n 2, 1) := by decide +kernel
theorem dL_openWaysWith_5 : decode cL_openWaysWith 5 = .ok (.invokevirtual 46, 3) := by decide +kernel
theorem dL_openWaysWith_8 : decode cL_openWaysWith 8 = .ok (.i2l, 1) := by decide +kernel
theorem dL_openWaysWith_9 : decode cL_openWaysWith 9 = .ok (.lastore, 1) := by decide +kernel
theorem dL_openWaysWith_10 : decode cL_openWaysWith 10 = .ok (.goto 7, 3) := by decide +kernel
theorem dL_openWaysWith_13 : decode cL_openWaysWith 13 = .ok (.astore 4, 2) := by decide +kernel
theorem dL_openWaysWith_15 : decode cL_openWaysWith 15 = .ok (.iconst 1, 1) := by decide +kernel
theorem dL_openWaysWith_16 : decode cL_openWaysWith 16 = .ok (.ireturn, 1) := by decide +kernel
theorem dL_openWaysWith_17 : decode cL_openWaysWith 17 = .ok (.iconst 0, 1) := by decide +kernel
theorem dL_openWaysWith_18 : decode cL_openWaysWith 18 = .ok (.ireturn, 1) := by decide +kernel
theorem dL_isKnownToAll_0 : decode cL_isKnownToAll 0 = .ok (.aload_n 2, 1) := by decide +kernel
theorem dL_isKnownToAll_1 : decode cL_isKnownToAll 1 = .ok (.iconst 0, 1) := by decide +kernel
theorem dL_isKnownToAll_2 : decode cL_isKnownToAll 2 = .ok (.aload_n 0, 1) := by decide +kernel
theorem dL_isKnownToAll_3 : decode cL_isKnownToAll 3 = .ok (.iload_n 1, 1) := by decide +kernel
theorem dL_isKnownToAll_4 : decode cL_isKnownToAll 4 = .ok (.invokevirtual 49, 3) := by decide +kernel
theorem dL_isKnownToAll_7 : decode cL_isKnownToAll 7 = .ok (.ifCond .eq 7, 3) := by decide +kernel
theorem dL_isKnownToAll_10 : decode cL_isKnownToAll 10 = .ok (.lconst 1, 1) := by decide +kernel
theorem dL_isKnownToAll_11 : decode cL_isKnownToAll 11 = .ok (.goto 4, 3) := by decide +kernel
theorem dL_isKnownToAll_14 : decode cL_isKnownToAll 14 = .ok (.lconst 0, 1) := by decide +kernel
theorem dL_isKnownToAll_15 : decode cL_isKnownToAll 15 = .ok (.lastore, 1) := by decide +kernel
theorem dL_isKnownToAll_16 : decode cL_isKnownToAll 16 = .ok (.goto 6, 3) := by decide +kernel
theorem dL_isKnownToAll_19 : decode cL_isKnownToAll 19 = .ok (.astore_n 3, 1) := by decide +kernel
theorem dL_isKnownToAll_20 : decode cL_isKnownToAll 20 = .ok (.iconst 1, 1) := by decide +kernel
theorem dL_isKnownToAll_21 : decode cL_isKnownToAll 21 = .ok (.ireturn, 1) := by decide +kernel
theorem dL_isKnownToAll_22 : decode cL_isKnownToAll 22 = .ok (.iconst 0, 1) := by decide +kernel
theorem dL_isKnownToAll_23 : decode cL_isKnownToAll 23 = .ok (.ireturn, 1) := by decide +kernel
theorem dL_possibleWays_0 : decode cL_possibleWays 0 = .ok (.aload_n 2, 1) := by decide +kernel
theorem dL_possibleWays_1 : decode cL_possibleWays 1 = .ok (.iconst 0, 1) := by decide +kernel
theorem dL_possibleWays_2 : decode cL_possibleWays 2 = .ok (.aload_n 0, 1) := by decide +kernel
theorem dL_possibleWays_3 : decode cL_possibleWays 3 = .ok (.iload_n 1, 1) := by decide +kernel
theorem dL_possibleWays_4 : decode cL_possibleWays 4 = .ok (.invokevirtual 53, 3) := by decide +kernel
theorem dL_possibleWays_7 : decode cL_possibleWays 7 = .ok (.i2l, 1) := by decide +kernel
theorem dL_possibleWays_8 : decode cL_possibleWays 8 = .ok (.lastore, 1) := by decide +kernel
theorem dL_possibleWays_9 : decode cL_possibleWays 9 = .ok (.goto 6, 3) := by decide +kernel
theorem dL_possibleWays_12 : decode cL_possibleWays 12 = .ok (.astore_n 3, 1) := by decide +kernel
theorem dL_possibleWays_13 : decode cL_possibleWays 13 = .ok (.iconst 1, 1) := by decide +kernel
theorem dL_possibleWays_14 : decode cL_possibleWays 14 = .ok (.ireturn, 1) := by decide +kernel
theorem dL_possibleWays_15 : decode cL_possibleWays 15 = .ok (.iconst 0, 1) := by decide +kernel
theorem dL_possibleWays_16 : decode cL_possibleWays 16 = .ok (.ireturn, 1) := by decide +kernel
theorem dL_holdsPossible_0 : decode cL_holdsPossible 0 = .ok (.aload 4, 2) := by decide +kernel
theorem dL_holdsPossible_2 : decode cL_holdsPossible 2 = .ok (.iconst 0, 1) := by decide +kernel
theorem dL_holdsPossible_3 : decode cL_holdsPossible 3 = .ok (.aload_n 0, 1) := by decide +kernel
theorem dL_holdsPossible_4 : decode cL_holdsPossible 4 = .ok (.iload_n 1, 1) := by decide +kernel
theorem dL_holdsPossible_5 : decode cL_holdsPossible 5 = .ok (.iload_n 2, 1) := by decide +kernel
theorem dL_holdsPossible_6 : decode cL_holdsPossible 6 = .ok (.iload_n 3, 1) := by decide +kernel
theorem dL_holdsPossible_7 : decode cL_holdsPossible 7 = .ok (.invokevirtual 56, 3) := by decide +kernel
theorem dL_holdsPossible_10 : decode cL_holdsPossible 10 = .ok (.ifCond .eq 7, 3) := by decide +kernel
theorem dL_holdsPossible_13 : decode cL_holdsPossible 13 = .ok (.lconst 1, 1) := by decide +kernel
theorem dL_holdsPossible_14 : decode cL_holdsPossible 14 = .ok (.goto 4, 3) := by decide +kernel
theorem dL_holdsPossible_17 : decode cL_holdsPossible 17 = .ok (.lconst 0, 1) := by decide +kernel
theorem dL_holdsPossible_18 : decode cL_holdsPossible 18 = .ok (.lastore, 1) := by decide +kernel
theorem dL_holdsPossible_19 : decode cL_holdsPossible 19 = .ok (.goto 7, 3) := by decide +kernel
theorem dL_holdsPossible_22 : decode cL_holdsPossible 22 = .ok (.astore 5, 2) := by decide +kernel
theorem dL_holdsPossible_24 : decode cL_holdsPossible 24 = .ok (.iconst 1, 1) := by decide +kernel
theorem dL_holdsPossible_25 : decode cL_holdsPossible 25 = .ok (.ireturn, 1) := by decide +kernel
theorem dL_holdsPossible_26 : decode cL_holdsPossible 26 = .ok (.iconst 0, 1) := by decide +kernel
theorem dL_holdsPossible_27 : decode cL_holdsPossible 27 = .ok (.ireturn, 1) := by decide +kernel
theorem dL_isCertain_0 : decode cL_isCertain 0 = .ok (.aload_n 2, 1) := by decide +kernel
theorem dL_isCertain_1 : decode cL_isCertain 1 = .ok (.iconst 0, 1) := by decide +kernel
theorem dL_isCertain_2 : decode cL_isCertain 2 = .ok (.aload_n 0, 1) := by decide +kernel
theorem dL_isCertain_3 : decode cL_isCertain 3 = .ok (.iload_n 1, 1) := by decide +kernel
theorem dL_isCertain_4 : decode cL_isCertain 4 = .ok (.invokevirtual 60, 3) := by decide +kernel
theorem dL_isCertain_7 : decode cL_isCertain 7 = .ok (.ifCond .eq 7, 3) := by decide +kernel
theorem dL_isCertain_10 : decode cL_isCertain 10 = .ok (.lconst 1, 1) := by decide +kernel
theorem dL_isCertain_11 : decode cL_isCertain 11 = .ok (.goto 4, 3) := by decide +kernel
theorem dL_isCertain_14 : decode cL_isCertain 14 = .ok (.lconst 0, 1) := by decide +kernel
theorem dL_isCertain_15 : decode cL_isCertain 15 = .ok (.lastore, 1) := by decide +kernel
theorem dL_isCertain_16 : decode cL_isCertain 16 = .ok (.goto 6, 3) := by decide +kernel
theorem dL_isCertain_19 : decode cL_isCertain 19 = .ok (.astore_n 3, 1) := by decide +kernel
theorem dL_isCertain_20 : decode cL_isCertain 20 = .ok (.iconst 1, 1) := by decide +kernel
theorem dL_isCertain_21 : decode cL_isCertain 21 = .ok (.ireturn, 1) := by decide +kernel
theorem dL_isCertain_22 : decode cL_isCertain 22 = .ok (.iconst 0, 1) := by decide +kernel
theorem dL_isCertain_23 : decode cL_isCertain 23 = .ok (.ireturn, 1) := by decide +kernel
theorem dL_knowsHatOf_0 : decode cL_knowsHatOf 0 = .ok (.aload_n 3, 1) := by decide +kernel
theorem dL_knowsHatOf_1 : decode cL_knowsHatOf 1 = .ok (.iconst 0, 1) := by decide +kernel
theorem dL_knowsHatOf_2 : decode cL_knowsHatOf 2 = .ok (.aload_n 0, 1) := by decide +kernel
theorem dL_knowsHatOf_3 : decode cL_knowsHatOf 3 = .ok (.iload_n 1, 1) := by decide +kernel
theorem dL_knowsHatOf_4 : decode cL_knowsHatOf 4 = .ok (.iload_n 2, 1) := by decide +kernel
theorem dL_knowsHatOf_5 : decode cL_knowsHatOf 5 = .ok (.invokevirtual 63, 3) := by decide +kernel
theorem dL_knowsHatOf_8 : decode cL_knowsHatOf 8 = .ok (.ifCond .eq 7, 3) := by decide +kernel
theorem dL_knowsHatOf_11 : decode cL_knowsHatOf 11 = .ok (.lconst 1, 1) := by decide +kernel
theorem dL_knowsHatOf_12 : decode cL_knowsHatOf 12 = .ok (.goto 4, 3) := by decide +kernel
theorem dL_knowsHatOf_15 : decode cL_knowsHatOf 15 = .ok (.lconst 0, 1) := by decide +kernel
theorem dL_knowsHatOf_16 : decode cL_knowsHatOf 16 = .ok (.lastore, 1) := by decide +kernel
theorem dL_knowsHatOf_17 : decode cL_knowsHatOf 17 = .ok (.goto 7, 3) := by decide +kernel
theorem dL_knowsHatOf_20 : decode cL_knowsHatOf 20 = .ok (.astore 4, 2) := by decide +kernel
theorem dL_knowsHatOf_22 : decode cL_knowsHatOf 22 = .ok (.iconst 1, 1) := by decide +kernel
theorem dL_knowsHatOf_23 : decode cL_knowsHatOf 23 = .ok (.ireturn, 1) := by decide +kernel
theorem dL_knowsHatOf_24 : decode cL_knowsHatOf 24 = .ok (.iconst 0, 1) := by decide +kernel
theorem dL_knowsHatOf_25 : decode cL_knowsHatOf 25 = .ok (.ireturn, 1) := by decide +kernel
theorem dL_knowsCertain_0 : decode cL_knowsCertain 0 = .ok (.aload_n 3, 1) := by decide +kernel
theorem dL_knowsCertain_1 : decode cL_knowsCertain 1 = .ok (.iconst 0, 1) := by decide +kernel
theorem dL_knowsCertain_2 : decode cL_knowsCertain 2 = .ok (.aload_n 0, 1) := by decide +kernel
theorem dL_knowsCertain_3 : decode cL_knowsCertain 3 = .ok (.iload_n 1, 1) := by decide +kernel
theorem dL_knowsCertain_4 : decode cL_knowsCertain 4 = .ok (.iload_n 2, 1) := by decide +kernel
theorem dL_knowsCertain_5 : decode cL_knowsCertain 5 = .ok (.invokevirtual 66, 3) := by decide +kernel
theorem dL_knowsCertain_8 : decode cL_knowsCertain 8 = .ok (.ifCond .eq 7, 3) := by decide +kernel
theorem dL_knowsCertain_11 : decode cL_knowsCertain 11 = .ok (.lconst 1, 1) := by decide +kernel
theorem dL_knowsCertain_12 : decode cL_knowsCertain 12 = .ok (.goto 4, 3) := by decide +kernel
theorem dL_knowsCertain_15 : decode cL_knowsCertain 15 = .ok (.lconst 0, 1) := by decide +kernel
theorem dL_knowsCertain_16 : decode cL_knowsCertain 16 = .ok (.lastore, 1) := by decide +kernel
theorem dL_knowsCertain_17 : decode cL_knowsCertain 17 = .ok (.goto 7, 3) := by decide +kernel
theorem dL_knowsCertain_20 : decode cL_knowsCertain 20 = .ok (.astore 4, 2) := by decide +kernel
theorem dL_knowsCertain_22 : decode cL_knowsCertain 22 = .ok (.iconst 1, 1) := by decide +kernel
theorem dL_knowsCertain_23 : decode cL_knowsCertain 23 = .ok (.ireturn, 1) := by decide +kernel
theorem dL_knowsCertain_24 : decode cL_knowsCertain 24 = .ok (.iconst 0, 1) := by decide +kernel
theorem dL_knowsCertain_25 : decode cL_knowsCertain 25 = .ok (.ireturn, 1) := by decide +kernel
theorem dL_openAfterTurn_0 : decode cL_openAfterTurn 0 = .ok (.aload_n 1, 1) := by decide +kernel
theorem dL_openAfterTurn_1 : decode cL_openAfterTurn 1 = .ok (.iconst 0, 1) := by decide +kernel
theorem dL_openAfterTurn_2 : decode cL_openAfterTurn 2 = .ok (.aload_n 0, 1) := by decide +kernel
theorem dL_openAfterTurn_3 : decode cL_openAfterTurn 3 = .ok (.invokevirtual 69, 3) := by decide +kernel
theorem dL_openAfterTurn_6 : decode cL_openAfterTurn 6 = .ok (.i2l, 1) := by decide +kernel
theorem dL_openAfterTurn_7 : decode cL_openAfterTurn 7 = .ok (.lastore, 1) := by decide +kernel
theorem dL_openAfterTurn_8 : decode cL_openAfterTurn 8 = .ok (.goto 6, 3) := by decide +kernel
theorem dL_openAfterTurn_11 : decode cL_openAfterTurn 11 = .ok (.astore_n 2, 1) := by decide +kernel
theorem dL_openAfterTurn_12 : decode cL_openAfterTurn 12 = .ok (.iconst 1, 1) := by decide +kernel
theorem dL_openAfterTurn_13 : decode cL_openAfterTurn 13 = .ok (.ireturn, 1) := by decide +kernel
theorem dL_openAfterTurn_14 : decode cL_openAfterTurn 14 = .ok (.iconst 0, 1) := by decide +kernel
theorem dL_openAfterTurn_15 : decode cL_openAfterTurn 15 = .ok (.ireturn, 1) := by decide +kernel
theorem dL_turnsUntilCertain_0 : decode cL_turnsUntilCertain 0 = .ok (.aload_n 2, 1) := by decide +kernel
theorem dL_turnsUntilCertain_1 : decode cL_turnsUntilCertain 1 = .ok (.iconst 0, 1) := by decide +kernel
theorem dL_turnsUntilCertain_2 : decode cL_turnsUntilCertain 2 = .ok (.aload_n 0, 1) := by decide +kernel
theorem dL_turnsUntilCertain_3 : decode cL_turnsUntilCertain 3 = .ok (.iload_n 1, 1) := by decide +kernel
theorem dL_turnsUntilCertain_4 : decode cL_turnsUntilCertain 4 = .ok (.invokevirtual 72, 3) := by decide +kernel
theorem dL_turnsUntilCertain_7 : decode cL_turnsUntilCertain 7 = .ok (.i2l, 1) := by decide +kernel
theorem dL_turnsUntilCertain_8 : decode cL_turnsUntilCertain 8 = .ok (.lastore, 1) := by decide +kernel
theorem dL_turnsUntilCertain_9 : decode cL_turnsUntilCertain 9 = .ok (.goto 6, 3) := by decide +kernel
theorem dL_turnsUntilCertain_12 : decode cL_turnsUntilCertain 12 = .ok (.astore_n 3, 1) := by decide +kernel
theorem dL_turnsUntilCertain_13 : decode cL_turnsUntilCertain 13 = .ok (.iconst 1, 1) := by decide +kernel
theorem dL_turnsUntilCertain_14 : decode cL_turnsUntilCertain 14 = .ok (.ireturn, 1) := by decide +kernel
theorem dL_turnsUntilCertain_15 : decode cL_turnsUntilCertain 15 = .ok (.iconst 0, 1) := by decide +kernel
theorem dL_turnsUntilCertain_16 : decode cL_turnsUntilCertain 16 = .ok (.ireturn, 1) := by decide +kernel
theorem dL_certainIfTold_0 : decode cL_certainIfTold 0 = .ok (.aload_n 2, 1) := by decide +kernel
theorem dL_certainIfTold_1 : decode cL_certainIfTold 1 = .ok (.iconst 0, 1) := by decide +kernel
theorem dL_certainIfTold_2 : decode cL_certainIfTold 2 = .ok (.aload_n 0, 1) := by decide +kernel
theorem dL_certainIfTold_3 : decode cL_certainIfTold 3 = .ok (.iload_n 1, 1) := by decide +kernel
theorem dL_certainIfTold_4 : decode cL_certainIfTold 4 = .ok (.invokevirtual 75, 3) := by decide +kernel
theorem dL_certainIfTold_7 : decode cL_certainIfTold 7 = .ok (.i2l, 1) := by decide +kernel
theorem dL_certainIfTold_8 : decode cL_certainIfTold 8 = .ok (.lastore, 1) := by decide +kernel
theorem dL_certainIfTold_9 : decode cL_certainIfTold 9 = .ok (.goto 6, 3) := by decide +kernel
theorem dL_certainIfTold_12 : decode cL_certainIfTold 12 = .ok (.astore_n 3, 1) := by decide +kernel
theorem dL_certainIfTold_13 : decode cL_certainIfTold 13 = .ok (.iconst 1, 1) := by decide +kernel
theorem dL_certainIfTold_14 : decode cL_certainIfTold 14 = .ok (.ireturn, 1) := by decide +kernel
theorem dL_certainIfTold_15 : decode cL_certainIfTold 15 = .ok (.iconst 0, 1) := by decide +kernel
theorem dL_certainIfTold_16 : decode cL_certainIfTold 16 = .ok (.ireturn, 1) := by decide +kernel
theorem dL_law_0 : decode cL_law 0 = .ok (.new 8, 3) := by decide +kernel
theorem dL_law_3 : decode cL_law 3 = .ok (.dup, 1) := by decide +kernel
theorem dL_law_4 : decode cL_law 4 = .ok (.invokespecial 78, 3) := by decide +kernel
theorem dL_law_7 : decode cL_law 7 = .ok (.astore_n 1, 1) := by decide +kernel
theorem dL_law_8 : decode cL_law 8 = .ok (.new 79, 3) := by decide +kernel
theorem dL_law_11 : decode cL_law 11 = .ok (.dup, 1) := by decide +kernel
theorem dL_law_12 : decode cL_law 12 = .ok (.invokespecial 81, 3) := by decide +kernel
theorem dL_law_15 : decode cL_law 15 = .ok (.astore_n 2, 1) := by decide +kernel
theorem dL_law_16 : decode cL_law 16 = .ok (.iconst 1, 1) := by decide +kernel
theorem dL_law_17 : decode cL_law 17 = .ok (.newarray .long, 2) := by decide +kernel
theorem dL_law_19 : decode cL_law 19 = .ok (.astore_n 3, 1) := by decide +kernel
theorem dL_law_20 : decode cL_law 20 = .ok (.iconst 0, 1) := by decide +kernel
theorem dL_law_21 : decode cL_law 21 = .ok (.istore 4, 2) := by decide +kernel
theorem dL_law_23 : decode cL_law 23 = .ok (.iload 4, 2) := by decide +kernel
theorem dL_law_25 : decode cL_law 25 = .ok (.aload_n 0, 1) := by decide +kernel
theorem dL_law_26 : decode cL_law 26 = .ok (.arraylength, 1) := by decide +kernel
theorem dL_law_27 : decode cL_law 27 = .ok (.iconst 4, 1) := by decide +kernel
theorem dL_law_28 : decode cL_law 28 = .ok (.isub, 1) := by decide +kernel
theorem dL_law_29 : decode cL_law 29 = .ok (.if_icmp .gt 1530, 3) := by decide +kernel
theorem dL_law_32 : decode cL_law 32 = .ok (.aload_n 0, 1) := by decide +kernel
theorem dL_law_33 : decode cL_law 33 = .ok (.iload 4, 2) := by decide +kernel
theorem dL_law_35 : decode cL_law 35 = .ok (.iaload, 1) := by decide +kernel
theorem dL_law_36 : decode cL_law 36 = .ok (.bipush 31, 2) := by decide +kernel
theorem dL_law_38 : decode cL_law 38 = .ok (.iand, 1) := by decide +kernel
theorem dL_law_39 : decode cL_law 39 = .ok (.tableswitch 1514 0 29 #[133, 189, 264, 332, 376, 444, 512, 525, 538, 551, 564, 577, 633, 708, 764, 777, 845, 908, 964, 1051, 1114, 1189, 1264, 1277, 1321, 1377, 1390, 1403, 1459, 1500], 133) := by decide +kernel
theorem dL_law_172 : decode cL_law 172 = .ok (.aload_n 1, 1) := by decide +kernel
theorem dL_law_173 : decode cL_law 173 = .ok (.aload_n 0, 1) := by decide +kernel
theorem dL_law_174 : decode cL_law 174 = .ok (.iload 4, 2) := by decide +kernel
theorem dL_law_176 : decode cL_law 176 = .ok (.iconst 1, 1) := by decide +kernel
theorem dL_law_177 : decode cL_law 177 = .ok (.iadd, 1) := by decide +kernel
theorem dL_law_178 : decode cL_law 178 = .ok (.iaload, 1) := by decide +kernel
theorem dL_law_179 : decode cL_law 179 = .ok (.aload_n 3, 1) := by decide +kernel
theorem dL_law_180 : decode cL_law 180 = .ok (.invokestatic 82, 3) := by decide +kernel
theorem dL_law_183 : decode cL_law 183 = .ok (.istore 5, 2) := by decide +kernel
theorem dL_law_185 : decode cL_law 185 = .ok (.aload_n 2, 1) := by decide +kernel
theorem dL_law_186 : decode cL_law 186 = .ok (.aload_n 0, 1) := by decide +kernel
theorem dL_law_187 : decode cL_law 187 = .ok (.iload 4, 2) := by decide +kernel
theorem dL_law_189 : decode cL_law 189 = .ok (.iconst 1, 1) := by decide +kernel
theorem dL_law_190 : decode cL_law 190 = .ok (.iadd, 1) := by decide +kernel
theorem dL_law_191 : decode cL_law 191 = .ok (.iaload, 1) := by decide +kernel
theorem dL_law_192 : decode cL_law 192 = .ok (.invokevirtual 87, 3) := by decide +kernel
theorem dL_law_195 : decode cL_law 195 = .ok (.istore 6, 2) := by decide +kernel
theorem dL_law_197 : decode cL_law 197 = .ok (.aload_n 2, 1) := by decide +kernel
theorem dL_law_198 : decode cL_law 198 = .ok (.invokevirtual 88, 3) := by decide +kernel
theorem dL_law_201 : decode cL_law 201 = .ok (.iload 5, 2) := by decide +kernel
theorem dL_law_203 : decode cL_law 203 = .ok (.if_icmp .eq 5, 3) := by decide +kernel
theorem dL_law_206 : decode cL_law 206 = .ok (.iconst 0, 1) := by decide +kernel
theorem dL_law_207 : decode cL_law 207 = .ok (.ireturn, 1) := by decide +kernel
theorem dL_law_208 : decode cL_law 208 = .ok (.iload 5, 2) := by decide +kernel
theorem dL_law_210 : decode cL_law 210 = .ok (.ifCond .ne 15, 3) := by decide +kernel
theorem dL_law_213 : decode cL_law 213 = .ok (.aload_n 3, 1) := by decide +kernel
theorem dL_law_214 : decode cL_law 214 = .ok (.iconst 0, 1) := by decide +kernel
theorem dL_law_215 : decode cL_law 215 = .ok (.laload, 1) := by decide +kernel
theorem dL_law_216 : decode cL_law 216 = .ok (.iload 6, 2) := by decide +kernel
theorem dL_law_218 : decode cL_law 218 = .ok (.i2l, 1) := by decide +kernel
theorem dL_law_219 : decode cL_law 219 = .ok (.lcmp, 1) := by decide +kernel
theorem dL_law_220 : decode cL_law 220 = .ok (.ifCond .eq 5, 3) := by decide +kernel
theorem dL_law_223 : decode cL_law 223 = .ok (.iconst 0, 1) := by decide +kernel
theorem dL_law_224 : decode cL_law 224 = .ok (.ireturn, 1) := by decide +kernel
theorem dL_law_225 : decode cL_law 225 = .ok (.goto 1328, 3) := by decide +kernel
theorem dL_law_228 : decode cL_law 228 = .ok (.aload_n 1, 1) := by decide +kernel
theorem dL_law_229 : decode cL_law 229 = .ok (.aload_n 0, 1) := by decide +kernel
theorem dL_law_230 : decode cL_law 230 = .ok (.iload 4, 2) := by decide +kernel
theorem dL_law_232 : decode cL_law 232 = .ok (.iconst 1, 1) := by decide +kernel
theorem dL_law_233 : decode cL_law 233 = .ok (.iadd, 1) := by decide +kernel
theorem dL_law_234 : decode cL_law 234 = .ok (.iaload, 1) := by decide +kernel
theorem dL_law_235 : decode cL_law 235 = .ok (.aload_n 0, 1) := by decide +kernel
theorem dL_law_236 : decode cL_law 236 = .ok (.iload 4, 2) := by decide +kernel
theorem dL_law_238 : decode cL_law 238 = .ok (.iconst 2, 1) := by decide +kernel
theorem dL_law_239 : decode cL_law 239 = .ok (.iadd, 1) := by decide +kernel
theorem dL_law_240 : decode cL_law 240 = .ok (.iaload, 1) := by decide +kernel
theorem dL_law_241 : decode cL_law 241 = .ok (.aload_n 3, 1) := by decide +kernel
theorem dL_law_242 : decode cL_law 242 = .ok (.invokestatic 91, 3) := by decide +kernel
theorem dL_law_245 : decode cL_law 245 = .ok (.istore 5, 2) := by decide +kernel
theorem dL_law_247 : decode cL_law 247 = .ok (.aload_n 2, 1) := by decide +kernel
theorem dL_law_248 : decode cL_law 248 = .ok (.aload_n 0, 1) := by decide +kernel
theorem dL_law_249 : decode cL_law 249 = .ok (.iload 4, 2) := by decide +kernel
theorem dL_law_251 : decode cL_law 251 = .ok (.iconst 1, 1) := by decide +kernel
theorem dL_law_252 : decode cL_law 252 = .ok (.iadd, 1) := by decide +kernel
theorem dL_law_253 : decode cL_law 253 = .ok (.iaload, 1) := by decide +kernel
theorem dL_law_254 : decode cL_law 254 = .ok (.aload_n 0, 1) := by decide +kernel
theorem dL_law_255 : decode cL_law 255 = .ok (.iload 4, 2) := by decide +kernel
theorem dL_law_257 : decode cL_law 257 = .ok (.iconst 2, 1) := by decide +kernel
theorem dL_law_258 : decode cL_law 258 = .ok (.iadd, 1) := by decide +kernel
theorem dL_law_259 : decode cL_law 259 = .ok (.iaload, 1) := by decide +kernel
theorem dL_law_260 : decode cL_law 260 = .ok (.invokevirtual 94, 3) := by decide +kernel
theorem dL_law_263 : decode cL_law 263 = .ok (.istore 6, 2) := by decide +kernel
theorem dL_law_265 : decode cL_law 265 = .ok (.aload_n 2, 1) := by decide +kernel
theorem dL_law_266 : decode cL_law 266 = .ok (.invokevirtual 88, 3) := by decide +kernel
theorem dL_law_269 : decode cL_law 269 = .ok (.iload 5, 2) := by decide +kernel
theorem dL_law_271 : decode cL_law 271 = .ok (.if_icmp .eq 5, 3) := by decide +kernel
theorem dL_law_274 : decode cL_law 274 = .ok (.iconst 0, 1) := by decide +kernel
theorem dL_law_275 : decode cL_law 275 = .ok (.ireturn, 1) := by decide +kernel
theorem dL_law_276 : decode cL_law 276 = .ok (.iload 5, 2) := by decide +kernel
theorem dL_law_278 : decode cL_law 278 = .ok (.ifCond .ne 22, 3) := by decide +kernel
theorem dL_law_281 : decode cL_law 281 = .ok (.aload_n 3, 1) := by decide +kernel
theorem dL_law_282 : decode cL_law 282 = .ok (.iconst 0, 1) := by decide +kernel
theorem dL_law_283 : decode cL_law 283 = .ok (.laload, 1) := by decide +kernel
theorem dL_law_284 : decode cL_law 284 = .ok (.iload 6, 2) := by decide +kernel
theorem dL_law_286 : decode cL_law 286 = .ok (.ifCond .eq 7, 3) := by decide +kernel
theorem dL_law_289 : decode cL_law 289 = .ok (.lconst 1, 1) := by decide +kernel
theorem dL_law_290 : decode cL_law 290 = .ok (.goto 4, 3) := by decide +kernel
theorem dL_law_293 : decode cL_law 293 = .ok (.lconst 0, 1) := by decide +kernel
theorem dL_law_294 : decode cL_law 294 = .ok (.lcmp, 1) := by decide +kernel
theorem dL_law_295 : decode cL_law 295 = .ok (.ifCond .eq 5, 3) := by decide +kernel
theorem dL_law_298 : decode cL_law 298 = .ok (.iconst 0, 1) := by decide +kernel
theorem dL_law_299 : decode cL_law 299 = .ok (.ireturn, 1) := by decide +kernel
theorem dL_law_300 : decode cL_law 300 = .ok (.goto 1253, 3) := by decide +kernel
theorem dL_law_303 : decode cL_law 303 = .ok (.aload_n 1, 1) := by decide +kernel
theorem dL_law_304 : decode cL_law 304 = .ok (.aload_n 0, 1) := by decide +kernel
theorem dL_law_305 : decode cL_law 305 = .ok (.iload 4, 2) := by decide +kernel
theorem dL_law_307 : decode cL_law 307 = .ok (.iconst 1, 1) := by decide +kernel
theorem dL_law_308 : decode cL_law 308 = .ok (.iadd, 1) := by decide +kernel
theorem dL_law_309 : decode cL_law 309 = .ok (.iaload, 1) := by decide +kernel
theorem dL_law_310 : decode cL_law 310 = .ok (.aload_n 0, 1) := by decide +kernel
theorem dL_law_311 : decode cL_law 311 = .ok (.iload 4, 2) := by decide +kernel
theorem dL_law_313 : decode cL_law 313 = .ok (.iconst 2, 1) := by decide +kernel
theorem dL_law_314 : decode cL_law 314 = .ok (.iadd, 1) := by decide +kernel
theorem dL_law_315 : decode cL_law 315 = .ok (.iaload, 1) := by decide +kernel
theorem dL_law_316 : decode cL_law 316 = .ok (.aload_n 3, 1) := by decide +kernel
theorem dL_law_317 : decode cL_law 317 = .ok (.invokestatic 95, 3) := by decide +kernel
theorem dL_law_320 : decode cL_law 320 = .ok (.istore 5, 2) := by decide +kernel
theorem dL_law_322 : decode cL_law 322 = .ok (.aload_n 2, 1) := by decide +kernel
theorem dL_law_323 : decode cL_law 323 = .ok (.aload_n 0, 1) := by decide +kernel
theorem dL_law_324 : decode cL_law 324 = .ok (.iload 4, 2) := by decide +kernel
theorem dL_law_326 : decode cL_law 326 = .ok (.iconst 1, 1) := by decide +kernel
theorem dL_law_327 : decode cL_law 327 = .ok (.iadd, 1) := by decide +kernel
theorem dL_law_328 : decode cL_law 328 = .ok (.iaload, 1) := by decide +kernel
theorem dL_law_329 : decode cL_law 329 = .ok (.aload_n 0, 1) := by decide +kernel
theorem dL_law_330 : decode cL_law 330 = .ok (.iload 4, 2) := by decide +kernel
theorem dL_law_332 : decode cL_law 332 = .ok (.iconst 2, 1) := by decide +kernel
theorem dL_law_333 : decode cL_law 333 = .ok (.iadd, 1) := by decide +kernel
theorem dL_law_334 : decode cL_law 334 = .ok (.iaload, 1) := by decide +kernel
theorem dL_law_335 : decode cL_law 335 = .ok (.invokevirtual 97, 3) := by decide +kernel
theorem dL_law_338 : decode cL_law 338 = .ok (.istore 6, 2) := by decide +kernel
theorem dL_law_340 : decode cL_law 340 = .ok (.aload_n 2, 1) := by decide +kernel
theorem dL_law_341 : decode cL_law 341 = .ok (.invokevirtual 88, 3) := by decide +kernel
theorem dL_law_344 : decode cL_law 344 = .ok (.iload 5, 2) := by decide +kernel
theorem dL_law_346 : decode cL_law 346 = .ok (.if_icmp .eq 5, 3) := by decide +kernel
theorem dL_law_349 : decode cL_law 349 = .ok (.iconst 0, 1) := by decide +kernel
theorem dL_law_350 : decode cL_law 350 = .ok (.ireturn, 1) := by decide +kernel
theorem dL_law_351 : decode cL_law 351 = .ok (.iload 5, 2) := by decide +kernel
theorem dL_law_353 : decode cL_law 353 = .ok (.ifCond .ne 15, 3) := by decide +kernel
theorem dL_law_356 : decode cL_law 356 = .ok (.aload_n 3, 1) := by decide +kernel
theorem dL_law_357 : decode cL_law 357 = .ok (.iconst 0, 1) := by decide +kernel
theorem dL_law_358 : decode cL_law 358 = .ok (.laload, 1) := by decide +kernel
theorem dL_law_359 : decode cL_law 359 = .ok (.iload 6, 2) := by decide +kernel
theorem dL_law_361 : decode cL_law 361 = .ok (.i2l, 1) := by decide +kernel
theorem dL_law_362 : decode cL_law 362 = .ok (.lcmp, 1) := by decide +kernel
theorem dL_law_363 : decode cL_law 363 = .ok (.ifCond .eq 5, 3) := by decide +kernel
theorem dL_law_366 : decode cL_law 366 = .ok (.iconst 0, 1) := by decide +kernel
theorem dL_law_367 : decode cL_law 367 = .ok (.ireturn, 1) := by decide +kernel
theorem dL_law_368 : decode cL_law 368 = .ok (.goto 1185, 3) := by decide +kernel
theorem dL_law_371 : decode cL_law 371 = .ok (.aload_n 1, 1) := by decide +kernel
theorem dL_law_372 : decode cL_law 372 = .ok (.aload_n 3, 1) := by decide +kernel
theorem dL_law_373 : decode cL_law 373 = .ok (.invokestatic 98, 3) := by decide +kernel
theorem dL_law_376 : decode cL_law 376 = .ok (.istore 5, 2) := by decide +kernel
theorem dL_law_378 : decode cL_law 378 = .ok (.aload_n 2, 1) := by decide +kernel
theorem dL_law_379 : decode cL_law 379 = .ok (.invokevirtual 101, 3) := by decide +kernel
theorem dL_law_382 : decode cL_law 382 = .ok (.istore 6, 2) := by decide +kernel
theorem dL_law_384 : decode cL_law 384 = .ok (.aload_n 2, 1) := by decide +kernel
theorem dL_law_385 : decode cL_law 385 = .ok (.invokevirtual 88, 3) := by decide +kernel
theorem dL_law_388 : decode cL_law 388 = .ok (.iload 5, 2) := by decide +kernel
theorem dL_law_390 : decode cL_law 390 = .ok (.if_icmp .eq 5, 3) := by decide +kernel
theorem dL_law_393 : decode cL_law 393 = .ok (.iconst 0, 1) := by decide +kernel
theorem dL_law_394 : decode cL_law 394 = .ok (.ireturn, 1) := by decide +kernel
theorem dL_law_395 : decode cL_law 395 = .ok (.iload 5, 2) := by decide +kernel
theorem dL_law_397 : decode cL_law 397 = .ok (.ifCond .ne 15, 3) := by decide +kernel
theorem dL_law_400 : decode cL_law 400 = .ok (.aload_n 3, 1) := by decide +kernel
theorem dL_law_401 : decode cL_law 401 = .ok (.iconst 0, 1) := by decide +kernel
theorem dL_law_402 : decode cL_law 402 = .ok (.laload, 1) := by decide +kernel
theorem dL_law_403 : decode cL_law 403 = .ok (.iload 6, 2) := by decide +kernel
theorem dL_law_405 : decode cL_law 405 = .ok (.i2l, 1) := by decide +kernel
theorem dL_law_406 : decode cL_law 406 = .ok (.lcmp, 1) := by decide +kernel
theorem dL_law_407 : decode cL_law 407 = .ok (.ifCond .eq 5, 3) := by decide +kernel
theorem dL_law_410 : decode cL_law 410 = .ok (.iconst 0, 1) := by decide +kernel
theorem dL_law_411 : decode cL_law 411 = .ok (.ireturn, 1) := by decide +kernel
theorem dL_law_412 : decode cL_law 412 = .ok (.goto 1141, 3) := by decide +kernel
theorem dL_law_415 : decode cL_law 415 = .ok (.aload_n 1, 1) := by decide +kernel
theorem dL_law_416 : decode cL_law 416 = .ok (.aload_n 0, 1) := by decide +kernel
theorem dL_law_417 : decode cL_law 417 = .ok (.iload 4, 2) := by decide +kernel
theorem dL_law_419 : decode cL_law 419 = .ok (.iconst 1, 1) := by decide +kernel
theorem dL_law_420 : decode cL_law 420 = .ok (.iadd, 1) := by decide +kernel
theorem dL_law_421 : decode cL_law 421 = .ok (.iaload, 1) := by decide +kernel
theorem dL_law_422 : decode cL_law 422 = .ok (.aload_n 0, 1) := by decide +kernel
theorem dL_law_423 : decode cL_law 423 = .ok (.iload 4, 2) := by decide +kernel
theorem dL_law_425 : decode cL_law 425 = .ok (.iconst 2, 1) := by decide +kernel
theorem dL_law_426 : decode cL_law 426 = .ok (.iadd, 1) := by decide +kernel
theorem dL_law_427 : decode cL_law 427 = .ok (.iaload, 1) := by decide +kernel
theorem dL_law_428 : decode cL_law 428 = .ok (.aload_n 3, 1) := by decide +kernel
theorem dL_law_429 : decode cL_law 429 = .ok (.invokestatic 102, 3) := by decide +kernel
theorem dL_law_432 : decode cL_law 432 = .ok (.istore 5, 2) := by decide +kernel
theorem dL_law_434 : decode cL_law 434 = .ok (.aload_n 2, 1) := by decide +kernel
theorem dL_law_435 : decode cL_law 435 = .ok (.aload_n 0, 1) := by decide +kernel
theorem dL_law_436 : decode cL_law 436 = .ok (.iload 4, 2) := by decide +kernel
theorem dL_law_438 : decode cL_law 438 = .ok (.iconst 1, 1) := by decide +kernel
theorem dL_law_439 : decode cL_law 439 = .ok (.iadd, 1) := by decide +kernel
theorem dL_law_440 : decode cL_law 440 = .ok (.iaload, 1) := by decide +kernel
theorem dL_law_441 : decode cL_law 441 = .ok (.aload_n 0, 1) := by decide +kernel
theorem dL_law_442 : decode cL_law 442 = .ok (.iload 4, 2) := by decide +kernel
theorem dL_law_444 : decode cL_law 444 = .ok (.iconst 2, 1) := by decide +kernel
theorem dL_law_445 : decode cL_law 445 = .ok (.iadd, 1) := by decide +kernel
theorem dL_law_446 : decode cL_law 446 = .ok (.iaload, 1) := by decide +kernel
theorem dL_law_447 : decode cL_law 447 = .ok (.invokevirtual 104, 3) := by decide +kernel
theorem dL_law_450 : decode cL_law 450 = .ok (.istore 6, 2) := by decide +kernel
theorem dL_law_452 : decode cL_law 452 = .ok (.aload_n 2, 1) := by decide +kernel
theorem dL_law_453 : decode cL_law 453 = .ok (.invokevirtual 88, 3) := by decide +kernel
theorem dL_law_456 : decode cL_law 456 = .ok (.iload 5, 2) := by decide +kernel
theorem dL_law_458 : decode cL_law 458 = .ok (.if_icmp .eq 5, 3) := by decide +kernel
theorem dL_law_461 : decode cL_law 461 = .ok (.iconst 0, 1) := by decide +kernel
theorem dL_law_462 : decode cL_law 462 = .ok (.ireturn, 1) := by decide +kernel
theorem dL_law_463 : decode cL_law 463 = .ok (.iload 5, 2) := by decide +kernel
theorem dL_law_465 : decode cL_law 465 = .ok (.ifCond .ne 15, 3) := by decide +kernel
theorem dL_law_468 : decode cL_law 468 = .ok (.aload_n 3, 1) := by decide +kernel
theorem dL_law_469 : decode cL_law 469 = .ok (.iconst 0, 1) := by decide +kernel
theorem dL_law_470 : decode cL_law 470 = .ok (.laload, 1) := by decide +kernel
theorem dL_law_471 : decode cL_law 471 = .ok (.iload 6, 2) := by decide +kernel
theorem dL_law_473 : decode cL_law 473 = .ok (.i2l, 1) := by decide +kernel
theorem dL_law_474 : decode cL_law 474 = .ok (.lcmp, 1) := by decide +kernel
theorem dL_law_475 : decode cL_law 475 = .ok (.ifCond .eq 5, 3) := by decide +kernel
theorem dL_law_478 : decode cL_law 478 = .ok (.iconst 0, 1) := by decide +kernel
theorem dL_law_479 : decode cL_law 479 = .ok (.ireturn, 1) := by decide +kernel
theorem dL_law_480 : decode cL_law 480 = .ok (.goto 1073, 3) := by decide +kernel
theorem dL_law_483 : decode cL_law 483 = .ok (.aload_n 1, 1) := by decide +kernel
theorem dL_law_484 : decode cL_law 484 = .ok (.aload_n 0, 1) := by decide +kernel
theorem dL_law_485 : decode cL_law 485 = .ok (.iload 4, 2) := by decide +kernel
theorem dL_law_487 : decode cL_law 487 = .ok (.iconst 1, 1) := by decide +kernel
theorem dL_law_488 : decode cL_law 488 = .ok (.iadd, 1) := by decide +kernel
theorem dL_law_489 : decode cL_law 489 = .ok (.iaload, 1) := by decide +kernel
theorem dL_law_490 : decode cL_law 490 = .ok (.aload_n 0, 1) := by decide +kernel
theorem dL_law_491 : decode cL_law 491 = .ok (.iload 4, 2) := by decide +kernel
theorem dL_law_493 : decode cL_law 493 = .ok (.iconst 2, 1) := by decide +kernel
theorem dL_law_494 : decode cL_law 494 = .ok (.iadd, 1) := by decide +kernel
theorem dL_law_495 : decode cL_law 495 = .ok (.iaload, 1) := by decide +kernel
theorem dL_law_496 : decode cL_law 496 = .ok (.aload_n 3, 1) := by decide +kernel
theorem dL_law_497 : decode cL_law 497 = .ok (.invokestatic 105, 3) := by decide +kernel
theorem dL_law_500 : decode cL_law 500 = .ok (.istore 5, 2) := by decide +kernel
theorem dL_law_502 : decode cL_law 502 = .ok (.aload_n 2, 1) := by decide +kernel
theorem dL_law_503 : decode cL_law 503 = .ok (.aload_n 0, 1) := by decide +kernel
theorem dL_law_504 : decode cL_law 504 = .ok (.iload 4, 2) := by decide +kernel
theorem dL_law_506 : decode cL_law 506 = .ok (.iconst 1, 1) := by decide +kernel
theorem dL_law_507 : decode cL_law 507 = .ok (.iadd, 1) := by decide +kernel
theorem dL_law_508 : decode cL_law 508 = .ok (.iaload, 1) := by decide +kernel
theorem dL_law_509 : decode cL_law 509 = .ok (.aload_n 0, 1) := by decide +kernel
theorem dL_law_510 : decode cL_law 510 = .ok (.iload 4, 2) := by decide +kernel
theorem dL_law_512 : decode cL_law 512 = .ok (.iconst 2, 1) := by decide +kernel
theorem dL_law_513 : decode cL_law 513 = .ok (.iadd, 1) := by decide +kernel
theorem dL_law_514 : decode cL_law 514 = .ok (.iaload, 1) := by decide +kernel
theorem dL_law_515 : decode cL_law 515 = .ok (.invokevirtual 107, 3) := by decide +kernel
theorem dL_law_518 : decode cL_law 518 = .ok (.istore 6, 2) := by decide +kernel
theorem dL_law_520 : decode cL_law 520 = .ok (.aload_n 2, 1) := by decide +kernel
theorem dL_law_521 : decode cL_law 521 = .ok (.invokevirtual 88, 3) := by decide +kernel
theorem dL_law_524 : decode cL_law 524 = .ok (.iload 5, 2) := by decide +kernel
theorem dL_law_526 : decode cL_law 526 = .ok (.if_icmp .eq 5, 3) := by decide +kernel
theorem dL_law_529 : decode cL_law 529 = .ok (.iconst 0, 1) := by decide +kernel
theorem dL_law_530 : decode cL_law 530 = .ok (.ireturn, 1) := by decide +kernel
theorem dL_law_531 : decode cL_law 531 = .ok (.iload 5, 2) := by decide +kernel
theorem dL_law_533 : decode cL_law 533 = .ok (.ifCond .ne 15, 3) := by decide +kernel
theorem dL_law_536 : decode cL_law 536 = .ok (.aload_n 3, 1) := by decide +kernel
theorem dL_law_537 : decode cL_law 537 = .ok (.iconst 0, 1) := by decide +kernel
theorem dL_law_538 : decode cL_law 538 = .ok (.laload, 1) := by decide +kernel
theorem dL_law_539 : decode cL_law 539 = .ok (.iload 6, 2) := by decide +kernel
theorem dL_law_541 : decode cL_law 541 = .ok (.i2l, 1) := by decide +kernel
theorem dL_law_542 : decode cL_law 542 = .ok (.lcmp, 1) := by decide +kernel
theorem dL_law_543 : decode cL_law 543 = .ok (.ifCond .eq 5, 3) := by decide +kernel
theorem dL_law_546 : decode cL_law 546 = .ok (.iconst 0, 1) := by decide +kernel
theorem dL_law_547 : decode cL_law 547 = .ok (.ireturn, 1) := by decide +kernel
theorem dL_law_548 : decode cL_law 548 = .ok (.goto 1005, 3) := by decide +kernel
theorem dL_law_551 : decode cL_law 551 = .ok (.aload_n 1, 1) := by decide +kernel
theorem dL_law_552 : decode cL_law 552 = .ok (.invokevirtual 108, 3) := by decide +kernel
theorem dL_law_555 : decode cL_law 555 = .ok (.aload_n 2, 1) := by decide +kernel
theorem dL_law_556 : decode cL_law 556 = .ok (.invokevirtual 111, 3) := by decide +kernel
theorem dL_law_559 : decode cL_law 559 = .ok (.if_icmp .eq 994, 3) := by decide +kernel
theorem dL_law_562 : decode cL_law 562 = .ok (.iconst 0, 1) := by decide +kernel
theorem dL_law_563 : decode cL_law 563 = .ok (.ireturn, 1) := by decide +kernel
theorem dL_law_564 : decode cL_law 564 = .ok (.aload_n 1, 1) := by decide +kernel
theorem dL_law_565 : decode cL_law 565 = .ok (.invokevirtual 112, 3) := by decide +kernel
theorem dL_law_568 : decode cL_law 568 = .ok (.aload_n 2, 1) := by decide +kernel
theorem dL_law_569 : decode cL_law 569 = .ok (.invokevirtual 115, 3) := by decide +kernel
theorem dL_law_572 : decode cL_law 572 = .ok (.if_icmp .eq 981, 3) := by decide +kernel
theorem dL_law_575 : decode cL_law 575 = .ok (.iconst 0, 1) := by decide +kernel
theorem dL_law_576 : decode cL_law 576 = .ok (.ireturn, 1) := by decide +kernel
theorem dL_law_577 : decode cL_law 577 = .ok (.aload_n 1, 1) := by decide +kernel
theorem dL_law_578 : decode cL_law 578 = .ok (.invokevirtual 116, 3) := by decide +kernel
theorem dL_law_581 : decode cL_law 581 = .ok (.aload_n 2, 1) := by decide +kernel
theorem dL_law_582 : decode cL_law 582 = .ok (.invokevirtual 119, 3) := by decide +kernel
theorem dL_law_585 : decode cL_law 585 = .ok (.if_icmp .eq 968, 3) := by decide +kernel
theorem dL_law_588 : decode cL_law 588 = .ok (.iconst 0, 1) := by decide +kernel
theorem dL_law_589 : decode cL_law 589 = .ok (.ireturn, 1) := by decide +kernel
theorem dL_law_590 : decode cL_law 590 = .ok (.aload_n 1, 1) := by decide +kernel
theorem dL_law_591 : decode cL_law 591 = .ok (.invokevirtual 120, 3) := by decide +kernel
theorem dL_law_594 : decode cL_law 594 = .ok (.aload_n 2, 1) := by decide +kernel
theorem dL_law_595 : decode cL_law 595 = .ok (.invokevirtual 123, 3) := by decide +kernel
theorem dL_law_598 : decode cL_law 598 = .ok (.if_icmp .eq 955, 3) := by decide +kernel
theorem dL_law_601 : decode cL_law 601 = .ok (.iconst 0, 1) := by decide +kernel
theorem dL_law_602 : decode cL_law 602 = .ok (.ireturn, 1) := by decide +kernel
theorem dL_law_603 : decode cL_law 603 = .ok (.aload_n 1, 1) := by decide +kernel
theorem dL_law_604 : decode cL_law 604 = .ok (.invokevirtual 124, 3) := by decide +kernel
theorem dL_law_607 : decode cL_law 607 = .ok (.aload_n 2, 1) := by decide +kernel
theorem dL_law_608 : decode cL_law 608 = .ok (.invokevirtual 127, 3) := by decide +kernel
theorem dL_law_611 : decode cL_law 611 = .ok (.if_icmp .eq 942, 3) := by decide +kernel
theorem dL_law_614 : decode cL_law 614 = .ok (.iconst 0, 1) := by decide +kernel
theorem dL_law_615 : decode cL_law 615 = .ok (.ireturn, 1) := by decide +kernel
theorem dL_law_616 : decode cL_law 616 = .ok (.aload_n 1, 1) := by decide +kernel
theorem dL_law_617 : decode cL_law 617 = .ok (.aload_n 0, 1) := by decide +kernel
theorem dL_law_618 : decode cL_law 618 = .ok (.iload 4, 2) := by decide +kernel
theorem dL_law_620 : decode cL_law 620 = .ok (.iconst 1, 1) := by decide +kernel
theorem dL_law_621 : decode cL_law 621 = .ok (.iadd, 1) := by decide +kernel
theorem dL_law_622 : decode cL_law 622 = .ok (.iaload, 1) := by decide +kernel
theorem dL_law_623 : decode cL_law 623 = .ok (.aload_n 3, 1) := by decide +kernel
theorem dL_law_624 : decode cL_law 624 = .ok (.invokestatic 128, 3) := by decide +kernel
theorem dL_law_627 : decode cL_law 627 = .ok (.istore 5, 2) := by decide +kernel
theorem dL_law_629 : decode cL_law 629 = .ok (.aload_n 2, 1) := by decide +kernel
theorem dL_law_630 : decode cL_law 630 = .ok (.aload_n 0, 1) := by decide +kernel
theorem dL_law_631 : decode cL_law 631 = .ok (.iload 4, 2) := by decide +kernel
theorem dL_law_633 : decode cL_law 633 = .ok (.iconst 1, 1) := by decide +kernel
theorem dL_law_634 : decode cL_law 634 = .ok (.iadd, 1) := by decide +kernel
theorem dL_law_635 : decode cL_law 635 = .ok (.iaload, 1) := by decide +kernel
theorem dL_law_636 : decode cL_law 636 = .ok (.invokevirtual 130, 3) := by decide +kernel
theorem dL_law_639 : decode cL_law 639 = .ok (.istore 6, 2) := by decide +kernel
theorem dL_law_641 : decode cL_law 641 = .ok (.aload_n 2, 1) := by decide +kernel
theorem dL_law_642 : decode cL_law 642 = .ok (.invokevirtual 88, 3) := by decide +kernel
theorem dL_law_645 : decode cL_law 645 = .ok (.iload 5, 2) := by decide +kernel
theorem dL_law_647 : decode cL_law 647 = .ok (.if_icmp .eq 5, 3) := by decide +kernel
theorem dL_law_650 : decode cL_law 650 = .ok (.iconst 0, 1) := by decide +kernel
theorem dL_law_651 : decode cL_law 651 = .ok (.ireturn, 1) := by decide +kernel
theorem dL_law_652 : decode cL_law 652 = .ok (.iload 5, 2) := by decide +kernel
theorem dL_law_654 : decode cL_law 654 = .ok (.ifCond .ne 15, 3) := by decide +kernel
theorem dL_law_657 : decode cL_law 657 = .ok (.aload_n 3, 1) := by decide +kernel
theorem dL_law_658 : decode cL_law 658 = .ok (.iconst 0, 1) := by decide +kernel
theorem dL_law_659 : decode cL_law 659 = .ok (.laload, 1) := by decide +kernel
theorem dL_law_660 : decode cL_law 660 = .ok (.iload 6, 2) := by decide +kernel
theorem dL_law_662 : decode cL_law 662 = .ok (.i2l, 1) := by decide +kernel
theorem dL_law_663 : decode cL_law 663 = .ok (.lcmp, 1) := by decide +kernel
theorem dL_law_664 : decode cL_law 664 = .ok (.ifCond .eq 5, 3) := by decide +kernel
theorem dL_law_667 : decode cL_law 667 = .ok (.iconst 0, 1) := by decide +kernel
theorem dL_law_668 : decode cL_law 668 = .ok (.ireturn, 1) := by decide +kernel
theorem dL_law_669 : decode cL_law 669 = .ok (.goto 884, 3) := by decide +kernel
theorem dL_law_672 : decode cL_law 672 = .ok (.aload_n 1, 1) := by decide +kernel
theorem dL_law_673 : decode cL_law 673 = .ok (.aload_n 0, 1) := by decide +kernel
theorem dL_law_674 : decode cL_law 674 = .ok (.iload 4, 2) := by decide +kernel
theorem dL_law_676 : decode cL_law 676 = .ok (.iconst 1, 1) := by decide +kernel
theorem dL_law_677 : decode cL_law 677 = .ok (.iadd, 1) := by decide +kernel
theorem dL_law_678 : decode cL_law 678 = .ok (.iaload, 1) := by decide +kernel
theorem dL_law_679 : decode cL_law 679 = .ok (.aload_n 0, 1) := by decide +kernel
theorem dL_law_680 : decode cL_law 680 = .ok (.iload 4, 2) := by decide +kernel
theorem dL_law_682 : decode cL_law 682 = .ok (.iconst 2, 1) := by decide +kernel
theorem dL_law_683 : decode cL_law 683 = .ok (.iadd, 1) := by decide +kernel
theorem dL_law_684 : decode cL_law 684 = .ok (.iaload, 1) := by decide +kernel
theorem dL_law_685 : decode cL_law 685 = .ok (.aload_n 3, 1) := by decide +kernel
theorem dL_law_686 : decode cL_law 686 = .ok (.invokestatic 131, 3) := by decide +kernel
theorem dL_law_689 : decode cL_law 689 = .ok (.istore 5, 2) := by decide +kernel
theorem dL_law_691 : decode cL_law 691 = .ok (.aload_n 2, 1) := by decide +kernel
theorem dL_law_692 : decode cL_law 692 = .ok (.aload_n 0, 1) := by decide +kernel
theorem dL_law_693 : decode cL_law 693 = .ok (.iload 4, 2) := by decide +kernel
theorem dL_law_695 : decode cL_law 695 = .ok (.iconst 1, 1) := by decide +kernel
theorem dL_law_696 : decode cL_law 696 = .ok (.iadd, 1) := by decide +kernel
theorem dL_law_697 : decode cL_law 697 = .ok (.iaload, 1) := by decide +kernel
theorem dL_law_698 : decode cL_law 698 = .ok (.aload_n 0, 1) := by decide +kernel
theorem dL_law_699 : decode cL_law 699 = .ok (.iload 4, 2) := by decide +kernel
theorem dL_law_701 : decode cL_law 701 = .ok (.iconst 2, 1) := by decide +kernel
theorem dL_law_702 : decode cL_law 702 = .ok (.iadd, 1) := by decide +kernel
theorem dL_law_703 : decode cL_law 703 = .ok (.iaload, 1) := by decide +kernel
theorem dL_law_704 : decode cL_law 704 = .ok (.invokevirtual 133, 3) := by decide +kernel
theorem dL_law_707 : decode cL_law 707 = .ok (.istore 6, 2) := by decide +kernel
theorem dL_law_709 : decode cL_law 709 = .ok (.aload_n 2, 1) := by decide +kernel
theorem dL_law_710 : decode cL_law 710 = .ok (.invokevirtual 88, 3) := by decide +kernel
theorem dL_law_713 : decode cL_law 713 = .ok (.iload 5, 2) := by decide +kernel
theorem dL_law_715 : decode cL_law 715 = .ok (.if_icmp .eq 5, 3) := by decide +kernel
theorem dL_law_718 : decode cL_law 718 = .ok (.iconst 0, 1) := by decide +kernel
theorem dL_law_719 : decode cL_law 719 = .ok (.ireturn, 1) := by decide +kernel
theorem dL_law_720 : decode cL_law 720 = .ok (.iload 5, 2) := by decide +kernel
theorem dL_law_722 : decode cL_law 722 = .ok (.ifCond .ne 22, 3) := by decide +kernel
theorem dL_law_725 : decode cL_law 725 = .ok (.aload_n 3, 1) := by decide +kernel
theorem dL_law_726 : decode cL_law 726 = .ok (.iconst 0, 1) := by decide +kernel
theorem dL_law_727 : decode cL_law 727 = .ok (.laload, 1) := by decide +kernel
theorem dL_law_728 : decode cL_law 728 = .ok (.iload 6, 2) := by decide +kernel
theorem dL_law_730 : decode cL_law 730 = .ok (.ifCond .eq 7, 3) := by decide +kernel
theorem dL_law_733 : decode cL_law 733 = .ok (.lconst 1, 1) := by decide +kernel
theorem dL_law_734 : decode cL_law 734 = .ok (.goto 4, 3) := by decide +kernel
theorem dL_law_737 : decode cL_law 737 = .ok (.lconst 0, 1) := by decide +kernel
theorem dL_law_738 : decode cL_law 738 = .ok (.lcmp, 1) := by decide +kernel
theorem dL_law_739 : decode cL_law 739 = .ok (.ifCond .eq 5, 3) := by decide +kernel
theorem dL_law_742 : decode cL_law 742 = .ok (.iconst 0, 1) := by decide +kernel
theorem dL_law_743 : decode cL_law 743 = .ok (.ireturn, 1) := by decide +kernel
theorem dL_law_744 : decode cL_law 744 = .ok (.goto 809, 3) := by decide +kernel
theorem dL_law_747 : decode cL_law 747 = .ok (.aload_n 1, 1) := by decide +kernel
theorem dL_law_748 : decode cL_law 748 = .ok (.aload_n 0, 1) := by decide +kernel
theorem dL_law_749 : decode cL_law 749 = .ok (.iload 4, 2) := by decide +kernel
theorem dL_law_751 : decode cL_law 751 = .ok (.iconst 1, 1) := by decide +kernel
theorem dL_law_752 : decode cL_law 752 = .ok (.iadd, 1) := by decide +kernel
theorem dL_law_753 : decode cL_law 753 = .ok (.iaload, 1) := by decide +kernel
theorem dL_law_754 : decode cL_law 754 = .ok (.aload_n 3, 1) := by decide +kernel
theorem dL_law_755 : decode cL_law 755 = .ok (.invokestatic 134, 3) := by decide +kernel
theorem dL_law_758 : decode cL_law 758 = .ok (.istore 5, 2) := by decide +kernel
theorem dL_law_760 : decode cL_law 760 = .ok (.aload_n 2, 1) := by decide +kernel
theorem dL_law_761 : decode cL_law 761 = .ok (.aload_n 0, 1) := by decide +kernel
theorem dL_law_762 : decode cL_law 762 = .ok (.iload 4, 2) := by decide +kernel
theorem dL_law_764 : decode cL_law 764 = .ok (.iconst 1, 1) := by decide +kernel
theorem dL_law_765 : decode cL_law 765 = .ok (.iadd, 1) := by decide +kernel
theorem dL_law_766 : decode cL_law 766 = .ok (.iaload, 1) := by decide +kernel
theorem dL_law_767 : decode cL_law 767 = .ok (.invokevirtual 136, 3) := by decide +kernel
theorem dL_law_770 : decode cL_law 770 = .ok (.istore 6, 2) := by decide +kernel
theorem dL_law_772 : decode cL_law 772 = .ok (.aload_n 2, 1) := by decide +kernel
theorem dL_law_773 : decode cL_law 773 = .ok (.invokevirtual 88, 3) := by decide +kernel
theorem dL_law_776 : decode cL_law 776 = .ok (.iload 5, 2) := by decide +kernel
theorem dL_law_778 : decode cL_law 778 = .ok (.if_icmp .eq 5, 3) := by decide +kernel
theorem dL_law_781 : decode cL_law 781 = .ok (.iconst 0, 1) := by decide +kernel
theorem dL_law_782 : decode cL_law 782 = .ok (.ireturn, 1) := by decide +kernel
theorem dL_law_783 : decode cL_law 783 = .ok (.iload 5, 2) := by decide +kernel
theorem dL_law_785 : decode cL_law 785 = .ok (.ifCond .ne 15, 3) := by decide +kernel
theorem dL_law_788 : decode cL_law 788 = .ok (.aload_n 3, 1) := by decide +kernel
theorem dL_law_789 : decode cL_law 789 = .ok (.iconst 0, 1) := by decide +kernel
theorem dL_law_790 : decode cL_law 790 = .ok (.laload, 1) := by decide +kernel
theorem dL_law_791 : decode cL_law 791 = .ok (.iload 6, 2) := by decide +kernel
theorem dL_law_793 : decode cL_law 793 = .ok (.i2l, 1) := by decide +kernel
theorem dL_law_794 : decode cL_law 794 = .ok (.lcmp, 1) := by decide +kernel
theorem dL_law_795 : decode cL_law 795 = .ok (.ifCond .eq 5, 3) := by decide +kernel
theorem dL_law_798 : decode cL_law 798 = .ok (.iconst 0, 1) := by decide +kernel
theorem dL_law_799 : decode cL_law 799 = .ok (.ireturn, 1) := by decide +kernel
theorem dL_law_800 : decode cL_law 800 = .ok (.goto 753, 3) := by decide +kernel
theorem dL_law_803 : decode cL_law 803 = .ok (.aload_n 1, 1) := by decide +kernel
theorem dL_law_804 : decode cL_law 804 = .ok (.invokevirtual 137, 3) := by decide +kernel
theorem dL_law_807 : decode cL_law 807 = .ok (.aload_n 2, 1) := by decide +kernel
theorem dL_law_808 : decode cL_law 808 = .ok (.invokevirtual 140, 3) := by decide +kernel
theorem dL_law_811 : decode cL_law 811 = .ok (.if_icmp .eq 742, 3) := by decide +kernel
theorem dL_law_814 : decode cL_law 814 = .ok (.iconst 0, 1) := by decide +kernel
theorem dL_law_815 : decode cL_law 815 = .ok (.ireturn, 1) := by decide +kernel
theorem dL_law_816 : decode cL_law 816 = .ok (.aload_n 1, 1) := by decide +kernel
theorem dL_law_817 : decode cL_law 817 = .ok (.aload_n 0, 1) := by decide +kernel
theorem dL_law_818 : decode cL_law 818 = .ok (.iload 4, 2) := by decide +kernel
theorem dL_law_820 : decode cL_law 820 = .ok (.iconst 1, 1) := by decide +kernel
theorem dL_law_821 : decode cL_law 821 = .ok (.iadd, 1) := by decide +kernel
theorem dL_law_822 : decode cL_law 822 = .ok (.iaload, 1) := by decide +kernel
theorem dL_law_823 : decode cL_law 823 = .ok (.aload_n 0, 1) := by decide +kernel
theorem dL_law_824 : decode cL_law 824 = .ok (.iload 4, 2) := by decide +kernel
theorem dL_law_826 : decode cL_law 826 = .ok (.iconst 2, 1) := by decide +kernel
theorem dL_law_827 : decode cL_law 827 = .ok (.iadd, 1) := by decide +kernel
theorem dL_law_828 : decode cL_law 828 = .ok (.iaload, 1) := by decide +kernel
theorem dL_law_829 : decode cL_law 829 = .ok (.aload_n 3, 1) := by decide +kernel
theorem dL_law_830 : decode cL_law 830 = .ok (.invokestatic 141, 3) := by decide +kernel
theorem dL_law_833 : decode cL_law 833 = .ok (.istore 5, 2) := by decide +kernel
theorem dL_law_835 : decode cL_law 835 = .ok (.aload_n 2, 1) := by decide +kernel
theorem dL_law_836 : decode cL_law 836 = .ok (.aload_n 0, 1) := by decide +kernel
theorem dL_law_837 : decode cL_law 837 = .ok (.iload 4, 2) := by decide +kernel
theorem dL_law_839 : decode cL_law 839 = .ok (.iconst 1, 1) := by decide +kernel
theorem dL_law_840 : decode cL_law 840 = .ok (.iadd, 1) := by decide +kernel
theorem dL_law_841 : decode cL_law 841 = .ok (.iaload, 1) := by decide +kernel
theorem dL_law_842 : decode cL_law 842 = .ok (.aload_n 0, 1) := by decide +kernel
theorem dL_law_843 : decode cL_law 843 = .ok (.iload 4, 2) := by decide +kernel
theorem dL_law_845 : decode cL_law 845 = .ok (.iconst 2, 1) := by decide +kernel
theorem dL_law_846 : decode cL_law 846 = .ok (.iadd, 1) := by decide +kernel
theorem dL_law_847 : decode cL_law 847 = .ok (.iaload, 1) := by decide +kernel
theorem dL_law_848 : decode cL_law 848 = .ok (.invokevirtual 143, 3) := by decide +kernel
theorem dL_law_851 : decode cL_law 851 = .ok (.istore 6, 2) := by decide +kernel
theorem dL_law_853 : decode cL_law 853 = .ok (.aload_n 2, 1) := by decide +kernel
theorem dL_law_854 : decode cL_law 854 = .ok (.invokevirtual 88, 3) := by decide +kernel
theorem dL_law_857 : decode cL_law 857 = .ok (.iload 5, 2) := by decide +kernel
theorem dL_law_859 : decode cL_law 859 = .ok (.if_icmp .eq 5, 3) := by decide +kernel
theorem dL_law_862 : decode cL_law 862 = .ok (.iconst 0, 1) := by decide +kernel
theorem dL_law_863 : decode cL_law 863 = .ok (.ireturn, 1) := by decide +kernel
theorem dL_law_864 : decode cL_law 864 = .ok (.iload 5, 2) := by decide +kernel
theorem dL_law_866 : decode cL_law 866 = .ok (.ifCond .ne 15, 3) := by decide +kernel
theorem dL_law_869 : decode cL_law 869 = .ok (.aload_n 3, 1) := by decide +kernel
theorem dL_law_870 : decode cL_law 870 = .ok (.iconst 0, 1) := by decide +kernel
theorem dL_law_871 : decode cL_law 871 = .ok (.laload, 1) := by decide +kernel
theorem dL_law_872 : decode cL_law 872 = .ok (.iload 6, 2) := by decide +kernel
theorem dL_law_874 : decode cL_law 874 = .ok (.i2l, 1) := by decide +kernel
theorem dL_law_875 : decode cL_law 875 = .ok (.lcmp, 1) := by decide +kernel
theorem dL_law_876 : decode cL_law 876 = .ok (.ifCond .eq 5, 3) := by decide +kernel
theorem dL_law_879 : decode cL_law 879 = .ok (.iconst 0, 1) := by decide +kernel
theorem dL_law_880 : decode cL_law 880 = .ok (.ireturn, 1) := by decide +kernel
theorem dL_law_881 : decode cL_law 881 = .ok (.goto 672, 3) := by decide +kernel
theorem dL_law_884 : decode cL_law 884 = .ok (.aload_n 1, 1) := by decide +kernel
theorem dL_law_885 : decode cL_law 885 = .ok (.aload_n 0, 1) := by decide +kernel
theorem dL_law_886 : decode cL_law 886 = .ok (.iload 4, 2) := by decide +kernel
theorem dL_law_888 : decode cL_law 888 = .ok (.iconst 1, 1) := by decide +kernel
theorem dL_law_889 : decode cL_law 889 = .ok (.iadd, 1) := by decide +kernel
theorem dL_law_890 : decode cL_law 890 = .ok (.iaload, 1) := by decide +kernel
theorem dL_law_891 : decode cL_law 891 = .ok (.aload_n 3, 1) := by decide +kernel
theorem dL_law_892 : decode cL_law 892 = .ok (.invokestatic 144, 3) := by decide +kernel
theorem dL_law_895 : decode cL_law 895 = .ok (.istore 5, 2) := by decide +kernel
theorem dL_law_897 : decode cL_law 897 = .ok (.aload_n 2, 1) := by decide +kernel
theorem dL_law_898 : decode cL_law 898 = .ok (.aload_n 0, 1) := by decide +kernel
theorem dL_law_899 : decode cL_law 899 = .ok (.iload 4, 2) := by decide +kernel
theorem dL_law_901 : decode cL_law 901 = .ok (.iconst 1, 1) := by decide +kernel
theorem dL_law_902 : decode cL_law 902 = .ok (.iadd, 1) := by decide +kernel
theorem dL_law_903 : decode cL_law 903 = .ok (.iaload, 1) := by decide +kernel
theorem dL_law_904 : decode cL_law 904 = .ok (.invokevirtual 146, 3) := by decide +kernel
theorem dL_law_907 : decode cL_law 907 = .ok (.istore 6, 2) := by decide +kernel
theorem dL_law_909 : decode cL_law 909 = .ok (.aload_n 2, 1) := by decide +kernel
theorem dL_law_910 : decode cL_law 910 = .ok (.invokevirtual 88, 3) := by decide +kernel
theorem dL_law_913 : decode cL_law 913 = .ok (.iload 5, 2) := by decide +kernel
theorem dL_law_915 : decode cL_law 915 = .ok (.if_icmp .eq 5, 3) := by decide +kernel
theorem dL_law_918 : decode cL_law 918 = .ok (.iconst 0, 1) := by decide +kernel
theorem dL_law_919 : decode cL_law 919 = .ok (.ireturn, 1) := by decide +kernel
theorem dL_law_920 : decode cL_law 920 = .ok (.iload 5, 2) := by decide +kernel
theorem dL_law_922 : decode cL_law 922 = .ok (.ifCond .ne 22, 3) := by decide +kernel
theorem dL_law_925 : decode cL_law 925 = .ok (.aload_n 3, 1) := by decide +kernel
theorem dL_law_926 : decode cL_law 926 = .ok (.iconst 0, 1) := by decide +kernel
theorem dL_law_927 : decode cL_law 927 = .ok (.laload, 1) := by decide +kernel
theorem dL_law_928 : decode cL_law 928 = .ok (.iload 6, 2) := by decide +kernel
theorem dL_law_930 : decode cL_law 930 = .ok (.ifCond .eq 7, 3) := by decide +kernel
theorem dL_law_933 : decode cL_law 933 = .ok (.lconst 1, 1) := by decide +kernel
theorem dL_law_934 : decode cL_law 934 = .ok (.goto 4, 3) := by decide +kernel
theorem dL_law_937 : decode cL_law 937 = .ok (.lconst 0, 1) := by decide +kernel
theorem dL_law_938 : decode cL_law 938 = .ok (.lcmp, 1) := by decide +kernel
theorem dL_law_939 : decode cL_law 939 = .ok (.ifCond .eq 5, 3) := by decide +kernel
theorem dL_law_942 : decode cL_law 942 = .ok (.iconst 0, 1) := by decide +kernel
theorem dL_law_943 : decode cL_law 943 = .ok (.ireturn, 1) := by decide +kernel
theorem dL_law_944 : decode cL_law 944 = .ok (.goto 609, 3) := by decide +kernel
theorem dL_law_947 : decode cL_law 947 = .ok (.aload_n 1, 1) := by decide +kernel
theorem dL_law_948 : decode cL_law 948 = .ok (.aload_n 0, 1) := by decide +kernel
theorem dL_law_949 : decode cL_law 949 = .ok (.iload 4, 2) := by decide +kernel
theorem dL_law_951 : decode cL_law 951 = .ok (.iconst 1, 1) := by decide +kernel
theorem dL_law_952 : decode cL_law 952 = .ok (.iadd, 1) := by decide +kernel
theorem dL_law_953 : decode cL_law 953 = .ok (.iaload, 1) := by decide +kernel
theorem dL_law_954 : decode cL_law 954 = .ok (.aload_n 3, 1) := by decide +kernel
theorem dL_law_955 : decode cL_law 955 = .ok (.invokestatic 147, 3) := by decide +kernel
theorem dL_law_958 : decode cL_law 958 = .ok (.istore 5, 2) := by decide +kernel
theorem dL_law_960 : decode cL_law 960 = .ok (.aload_n 2, 1) := by decide +kernel
theorem dL_law_961 : decode cL_law 961 = .ok (.aload_n 0, 1) := by decide +kernel
theorem dL_law_962 : decode cL_law 962 = .ok (.iload 4, 2) := by decide +kernel
theorem dL_law_964 : decode cL_law 964 = .ok (.iconst 1, 1) := by decide +kernel
theorem dL_law_965 : decode cL_law 965 = .ok (.iadd, 1) := by decide +kernel
theorem dL_law_966 : decode cL_law 966 = .ok (.iaload, 1) := by decide +kernel
theorem dL_law_967 : decode cL_law 967 = .ok (.invokevirtual 149, 3) := by decide +kernel
theorem dL_law_970 : decode cL_law 970 = .ok (.istore 6, 2) := by decide +kernel
theorem dL_law_972 : decode cL_law 972 = .ok (.aload_n 2, 1) := by decide +kernel
theorem dL_law_973 : decode cL_law 973 = .ok (.invokevirtual 88, 3) := by decide +kernel
theorem dL_law_976 : decode cL_law 976 = .ok (.iload 5, 2) := by decide +kernel
theorem dL_law_978 : decode cL_law 978 = .ok (.if_icmp .eq 5, 3) := by decide +kernel
theorem dL_law_981 : decode cL_law 981 = .ok (.iconst 0, 1) := by decide +kernel
theorem dL_law_982 : decode cL_law 982 = .ok (.ireturn, 1) := by decide +kernel
theorem dL_law_983 : decode cL_law 983 = .ok (.iload 5, 2) := by decide +kernel
theorem dL_law_985 : decode cL_law 985 = .ok (.ifCond .ne 15, 3) := by decide +kernel
theorem dL_law_988 : decode cL_law 988 = .ok (.aload_n 3, 1) := by decide +kernel
theorem dL_law_989 : decode cL_law 989 = .ok (.iconst 0, 1) := by decide +kernel
theorem dL_law_990 : decode cL_law 990 = .ok (.laload, 1) := by decide +kernel
theorem dL_law_991 : decode cL_law 991 = .ok (.iload 6, 2) := by decide +kernel
theorem dL_law_993 : decode cL_law 993 = .ok (.i2l, 1) := by decide +kernel
theorem dL_law_994 : decode cL_law 994 = .ok (.lcmp, 1) := by decide +kernel
theorem dL_law_995 : decode cL_law 995 = .ok (.ifCond .eq 5, 3) := by decide +kernel
theorem dL_law_998 : decode cL_law 998 = .ok (.iconst 0, 1) := by decide +kernel
theorem dL_law_999 : decode cL_law 999 = .ok (.ireturn, 1) := by decide +kernel
theorem dL_law_1000 : decode cL_law 1000 = .ok (.goto 553, 3) := by decide +kernel
theorem dL_law_1003 : decode cL_law 1003 = .ok (.aload_n 1, 1) := by decide +kernel
theorem dL_law_1004 : decode cL_law 1004 = .ok (.aload_n 0, 1) := by decide +kernel
theorem dL_law_1005 : decode cL_law 1005 = .ok (.iload 4, 2) := by decide +kernel
theorem dL_law_1007 : decode cL_law 1007 = .ok (.iconst 1, 1) := by decide +kernel
theorem dL_law_1008 : decode cL_law 1008 = .ok (.iadd, 1) := by decide +kernel
theorem dL_law_1009 : decode cL_law 1009 = .ok (.iaload, 1) := by decide +kernel
theorem dL_law_1010 : decode cL_law 1010 = .ok (.aload_n 0, 1) := by decide +kernel
theorem dL_law_1011 : decode cL_law 1011 = .ok (.iload 4, 2) := by decide +kernel
theorem dL_law_1013 : decode cL_law 1013 = .ok (.iconst 2, 1) := by decide +kernel
theorem dL_law_1014 : decode cL_law 1014 = .ok (.iadd, 1) := by decide +kernel
theorem dL_law_1015 : decode cL_law 1015 = .ok (.iaload, 1) := by decide +kernel
theorem dL_law_1016 : decode cL_law 1016 = .ok (.aload_n 0, 1) := by decide +kernel
theorem dL_law_1017 : decode cL_law 1017 = .ok (.iload 4, 2) := by decide +kernel
theorem dL_law_1019 : decode cL_law 1019 = .ok (.iconst 3, 1) := by decide +kernel
theorem dL_law_1020 : decode cL_law 1020 = .ok (.iadd, 1) := by decide +kernel
theorem dL_law_1021 : decode cL_law 1021 = .ok (.iaload, 1) := by decide +kernel
theorem dL_law_1022 : decode cL_law 1022 = .ok (.aload_n 3, 1) := by decide +kernel
theorem dL_law_1023 : decode cL_law 1023 = .ok (.invokestatic 150, 3) := by decide +kernel
theorem dL_law_1026 : decode cL_law 1026 = .ok (.istore 5, 2) := by decide +kernel
theorem dL_law_1028 : decode cL_law 1028 = .ok (.aload_n 2, 1) := by decide +kernel
theorem dL_law_1029 : decode cL_law 1029 = .ok (.aload_n 0, 1) := by decide +kernel
theorem dL_law_1030 : decode cL_law 1030 = .ok (.iload 4, 2) := by decide +kernel
theorem dL_law_1032 : decode cL_law 1032 = .ok (.iconst 1, 1) := by decide +kernel
theorem dL_law_1033 : decode cL_law 1033 = .ok (.iadd, 1) := by decide +kernel
theorem dL_law_1034 : decode cL_law 1034 = .ok (.iaload, 1) := by decide +kernel
theorem dL_law_1035 : decode cL_law 1035 = .ok (.aload_n 0, 1) := by decide +kernel
theorem dL_law_1036 : decode cL_law 1036 = .ok (.iload 4, 2) := by decide +kernel
theorem dL_law_1038 : decode cL_law 1038 = .ok (.iconst 2, 1) := by decide +kernel
theorem dL_law_1039 : decode cL_law 1039 = .ok (.iadd, 1) := by decide +kernel
theorem dL_law_1040 : decode cL_law 1040 = .ok (.iaload, 1) := by decide +kernel
theorem dL_law_1041 : decode cL_law 1041 = .ok (.aload_n 0, 1) := by decide +kernel
theorem dL_law_1042 : decode cL_law 1042 = .ok (.iload 4, 2) := by decide +kernel
theorem dL_law_1044 : decode cL_law 1044 = .ok (.iconst 3, 1) := by decide +kernel
theorem dL_law_1045 : decode cL_law 1045 = .ok (.iadd, 1) := by decide +kernel
theorem dL_law_1046 : decode cL_law 1046 = .ok (.iaload, 1) := by decide +kernel
theorem dL_law_1047 : decode cL_law 1047 = .ok (.invokevirtual 153, 3) := by decide +kernel
theorem dL_law_1050 : decode cL_law 1050 = .ok (.istore 6, 2) := by decide +kernel
theorem dL_law_1052 : decode cL_law 1052 = .ok (.aload_n 2, 1) := by decide +kernel
theorem dL_law_1053 : decode cL_law 1053 = .ok (.invokevirtual 88, 3) := by decide +kernel
theorem dL_law_1056 : decode cL_law 1056 = .ok (.iload 5, 2) := by decide +kernel
theorem dL_law_1058 : decode cL_law 1058 = .ok (.if_icmp .eq 5, 3) := by decide +kernel
theorem dL_law_1061 : decode cL_law 1061 = .ok (.iconst 0, 1) := by decide +kernel
theorem dL_law_1062 : decode cL_law 1062 = .ok (.ireturn, 1) := by decide +kernel
theorem dL_law_1063 : decode cL_law 1063 = .ok (.iload 5, 2) := by decide +kernel
theorem dL_law_1065 : decode cL_law 1065 = .ok (.ifCond .ne 22, 3) := by decide +kernel
theorem dL_law_1068 : decode cL_law 1068 = .ok (.aload_n 3, 1) := by decide +kernel
theorem dL_law_1069 : decode cL_law 1069 = .ok (.iconst 0, 1) := by decide +kernel
theorem dL_law_1070 : decode cL_law 1070 = .ok (.laload, 1) := by decide +kernel
theorem dL_law_1071 : decode cL_law 1071 = .ok (.iload 6, 2) := by decide +kernel
theorem dL_law_1073 : decode cL_law 1073 = .ok (.ifCond .eq 7, 3) := by decide +kernel
theorem dL_law_1076 : decode cL_law 1076 = .ok (.lconst 1, 1) := by decide +kernel
theorem dL_law_1077 : decode cL_law 1077 = .ok (.goto 4, 3) := by decide +kernel
theorem dL_law_1080 : decode cL_law 1080 = .ok (.lconst 0, 1) := by decide +kernel
theorem dL_law_1081 : decode cL_law 1081 = .ok (.lcmp, 1) := by decide +kernel
theorem dL_law_1082 : decode cL_law 1082 = .ok (.ifCond .eq 5, 3) := by decide +kernel
theorem dL_law_1085 : decode cL_law 1085 = .ok (.iconst 0, 1) := by decide +kernel
theorem dL_law_1086 : decode cL_law 1086 = .ok (.ireturn, 1) := by decide +kernel
theorem dL_law_1087 : decode cL_law 1087 = .ok (.goto 466, 3) := by decide +kernel
theorem dL_law_1090 : decode cL_law 1090 = .ok (.aload_n 1, 1) := by decide +kernel
theorem dL_law_1091 : decode cL_law 1091 = .ok (.aload_n 0, 1) := by decide +kernel
theorem dL_law_1092 : decode cL_law 1092 = .ok (.iload 4, 2) := by decide +kernel
theorem dL_law_1094 : decode cL_law 1094 = .ok (.iconst 1, 1) := by decide +kernel
theorem dL_law_1095 : decode cL_law 1095 = .ok (.iadd, 1) := by decide +kernel
theorem dL_law_1096 : decode cL_law 1096 = .ok (.iaload, 1) := by decide +kernel
theorem dL_law_1097 : decode cL_law 1097 = .ok (.aload_n 3, 1) := by decide +kernel
theorem dL_law_1098 : decode cL_law 1098 = .ok (.invokestatic 154, 3) := by decide +kernel
theorem dL_law_1101 : decode cL_law 1101 = .ok (.istore 5, 2) := by decide +kernel
theorem dL_law_1103 : decode cL_law 1103 = .ok (.aload_n 2, 1) := by decide +kernel
theorem dL_law_1104 : decode cL_law 1104 = .ok (.aload_n 0, 1) := by decide +kernel
theorem dL_law_1105 : decode cL_law 1105 = .ok (.iload 4, 2) := by decide +kernel
theorem dL_law_1107 : decode cL_law 1107 = .ok (.iconst 1, 1) := by decide +kernel
theorem dL_law_1108 : decode cL_law 1108 = .ok (.iadd, 1) := by decide +kernel
theorem dL_law_1109 : decode cL_law 1109 = .ok (.iaload, 1) := by decide +kernel
theorem dL_law_1110 : decode cL_law 1110 = .ok (.invokevirtual 156, 3) := by decide +kernel
theorem dL_law_1113 : decode cL_law 1113 = .ok (.istore 6, 2) := by decide +kernel
theorem dL_law_1115 : decode cL_law 1115 = .ok (.aload_n 2, 1) := by decide +kernel
theorem dL_law_1116 : decode cL_law 1116 = .ok (.invokevirtual 88, 3) := by decide +kernel
theorem dL_law_1119 : decode cL_law 1119 = .ok (.iload 5, 2) := by decide +kernel
theorem dL_law_1121 : decode cL_law 1121 = .ok (.if_icmp .eq 5, 3) := by decide +kernel
theorem dL_law_1124 : decode cL_law 1124 = .ok (.iconst 0, 1) := by decide +kernel
theorem dL_law_1125 : decode cL_law 1125 = .ok (.ireturn, 1) := by decide +kernel
theorem dL_law_1126 : decode cL_law 1126 = .ok (.iload 5, 2) := by decide +kernel
theorem dL_law_1128 : decode cL_law 1128 = .ok (.ifCond .ne 22, 3) := by decide +kernel
theorem dL_law_1131 : decode cL_law 1131 = .ok (.aload_n 3, 1) := by decide +kernel
theorem dL_law_1132 : decode cL_law 1132 = .ok (.iconst 0, 1) := by decide +kernel
theorem dL_law_1133 : decode cL_law 1133 = .ok (.laload, 1) := by decide +kernel
theorem dL_law_1134 : decode cL_law 1134 = .ok (.iload 6, 2) := by decide +kernel
theorem dL_law_1136 : decode cL_law 1136 = .ok (.ifCond .eq 7, 3) := by decide +kernel
theorem dL_law_1139 : decode cL_law 1139 = .ok (.lconst 1, 1) := by decide +kernel
theorem dL_law_1140 : decode cL_law 1140 = .ok (.goto 4, 3) := by decide +kernel
theorem dL_law_1143 : decode cL_law 1143 = .ok (.lconst 0, 1) := by decide +kernel
theorem dL_law_1144 : decode cL_law 1144 = .ok (.lcmp, 1) := by decide +kernel
theorem dL_law_1145 : decode cL_law 1145 = .ok (.ifCond .eq 5, 3) := by decide +kernel
theorem dL_law_1148 : decode cL_law 1148 = .ok (.iconst 0, 1) := by decide +kernel
theorem dL_law_1149 : decode cL_law 1149 = .ok (.ireturn, 1) := by decide +kernel
theorem dL_law_1150 : decode cL_law 1150 = .ok (.goto 403, 3) := by decide +kernel
theorem dL_law_1153 : decode cL_law 1153 = .ok (.aload_n 1, 1) := by decide +kernel
theorem dL_law_1154 : decode cL_law 1154 = .ok (.aload_n 0, 1) := by decide +kernel
theorem dL_law_1155 : decode cL_law 1155 = .ok (.iload 4, 2) := by decide +kernel
theorem dL_law_1157 : decode cL_law 1157 = .ok (.iconst 1, 1) := by decide +kernel
theorem dL_law_1158 : decode cL_law 1158 = .ok (.iadd, 1) := by decide +kernel
theorem dL_law_1159 : decode cL_law 1159 = .ok (.iaload, 1) := by decide +kernel
theorem dL_law_1160 : decode cL_law 1160 = .ok (.aload_n 0, 1) := by decide +kernel
theorem dL_law_1161 : decode cL_law 1161 = .ok (.iload 4, 2) := by decide +kernel
theorem dL_law_1163 : decode cL_law 1163 = .ok (.iconst 2, 1) := by decide +kernel
theorem dL_law_1164 : decode cL_law 1164 = .ok (.iadd, 1) := by decide +kernel
theorem dL_law_1165 : decode cL_law 1165 = .ok (.iaload, 1) := by decide +kernel
theorem dL_law_1166 : decode cL_law 1166 = .ok (.aload_n 3, 1) := by decide +kernel
theorem dL_law_1167 : decode cL_law 1167 = .ok (.invokestatic 157, 3) := by decide +kernel
theorem dL_law_1170 : decode cL_law 1170 = .ok (.istore 5, 2) := by decide +kernel
theorem dL_law_1172 : decode cL_law 1172 = .ok (.aload_n 2, 1) := by decide +kernel
theorem dL_law_1173 : decode cL_law 1173 = .ok (.aload_n 0, 1) := by decide +kernel
theorem dL_law_1174 : decode cL_law 1174 = .ok (.iload 4, 2) := by decide +kernel
theorem dL_law_1176 : decode cL_law 1176 = .ok (.iconst 1, 1) := by decide +kernel
theorem dL_law_1177 : decode cL_law 1177 = .ok (.iadd, 1) := by decide +kernel
theorem dL_law_1178 : decode cL_law 1178 = .ok (.iaload, 1) := by decide +kernel
theorem dL_law_1179 : decode cL_law 1179 = .ok (.aload_n 0, 1) := by decide +kernel
theorem dL_law_1180 : decode cL_law 1180 = .ok (.iload 4, 2) := by decide +kernel
theorem dL_law_1182 : decode cL_law 1182 = .ok (.iconst 2, 1) := by decide +kernel
theorem dL_law_1183 : decode cL_law 1183 = .ok (.iadd, 1) := by decide +kernel
theorem dL_law_1184 : decode cL_law 1184 = .ok (.iaload, 1) := by decide +kernel
theorem dL_law_1185 : decode cL_law 1185 = .ok (.invokevirtual 159, 3) := by decide +kernel
theorem dL_law_1188 : decode cL_law 1188 = .ok (.istore 6, 2) := by decide +kernel
theorem dL_law_1190 : decode cL_law 1190 = .ok (.aload_n 2, 1) := by decide +kernel
theorem dL_law_1191 : decode cL_law 1191 = .ok (.invokevirtual 88, 3) := by decide +kernel
theorem dL_law_1194 : decode cL_law 1194 = .ok (.iload 5, 2) := by decide +kernel
theorem dL_law_1196 : decode cL_law 1196 = .ok (.if_icmp .eq 5, 3) := by decide +kernel
theorem dL_law_1199 : decode cL_law 1199 = .ok (.iconst 0, 1) := by decide +kernel
theorem dL_law_1200 : decode cL_law 1200 = .ok (.ireturn, 1) := by decide +kernel
theorem dL_law_1201 : decode cL_law 1201 = .ok (.iload 5, 2) := by decide +kernel
theorem dL_law_1203 : decode cL_law 1203 = .ok (.ifCond .ne 22, 3) := by decide +kernel
theorem dL_law_1206 : decode cL_law 1206 = .ok (.aload_n 3, 1) := by decide +kernel
theorem dL_law_1207 : decode cL_law 1207 = .ok (.iconst 0, 1) := by decide +kernel
theorem dL_law_1208 : decode cL_law 1208 = .ok (.laload, 1) := by decide +kernel
theorem dL_law_1209 : decode cL_law 1209 = .ok (.iload 6, 2) := by decide +kernel
theorem dL_law_1211 : decode cL_law 1211 = .ok (.ifCond .eq 7, 3) := by decide +kernel
theorem dL_law_1214 : decode cL_law 1214 = .ok (.lconst 1, 1) := by decide +kernel
theorem dL_law_1215 : decode cL_law 1215 = .ok (.goto 4, 3) := by decide +kernel
theorem dL_law_1218 : decode cL_law 1218 = .ok (.lconst 0, 1) := by decide +kernel
theorem dL_law_1219 : decode cL_law 1219 = .ok (.lcmp, 1) := by decide +kernel
theorem dL_law_1220 : decode cL_law 1220 = .ok (.ifCond .eq 5, 3) := by decide +kernel
theorem dL_law_1223 : decode cL_law 1223 = .ok (.iconst 0, 1) := by decide +kernel
theorem dL_law_1224 : decode cL_law 1224 = .ok (.ireturn, 1) := by decide +kernel
theorem dL_law_1225 : decode cL_law 1225 = .ok (.goto 328, 3) := by decide +kernel
theorem dL_law_1228 : decode cL_law 1228 = .ok (.aload_n 1, 1) := by decide +kernel
theorem dL_law_1229 : decode cL_law 1229 = .ok (.aload_n 0, 1) := by decide +kernel
theorem dL_law_1230 : decode cL_law 1230 = .ok (.iload 4, 2) := by decide +kernel
theorem dL_law_1232 : decode cL_law 1232 = .ok (.iconst 1, 1) := by decide +kernel
theorem dL_law_1233 : decode cL_law 1233 = .ok (.iadd, 1) := by decide +kernel
theorem dL_law_1234 : decode cL_law 1234 = .ok (.iaload, 1) := by decide +kernel
theorem dL_law_1235 : decode cL_law 1235 = .ok (.aload_n 0, 1) := by decide +kernel
theorem dL_law_1236 : decode cL_law 1236 = .ok (.iload 4, 2) := by decide +kernel
theorem dL_law_1238 : decode cL_law 1238 = .ok (.iconst 2, 1) := by decide +kernel
theorem dL_law_1239 : decode cL_law 1239 = .ok (.iadd, 1) := by decide +kernel
theorem dL_law_1240 : decode cL_law 1240 = .ok (.iaload, 1) := by decide +kernel
theorem dL_law_1241 : decode cL_law 1241 = .ok (.aload_n 3, 1) := by decide +kernel
theorem dL_law_1242 : decode cL_law 1242 = .ok (.invokestatic 160, 3) := by decide +kernel
theorem dL_law_1245 : decode cL_law 1245 = .ok (.istore 5, 2) := by decide +kernel
theorem dL_law_1247 : decode cL_law 1247 = .ok (.aload_n 2, 1) := by decide +kernel
theorem dL_law_1248 : decode cL_law 1248 = .ok (.aload_n 0, 1) := by decide +kernel
theorem dL_law_1249 : decode cL_law 1249 = .ok (.iload 4, 2) := by decide +kernel
theorem dL_law_1251 : decode cL_law 1251 = .ok (.iconst 1, 1) := by decide +kernel
theorem dL_law_1252 : decode cL_law 1252 = .ok (.iadd, 1) := by decide +kernel
theorem dL_law_1253 : decode cL_law 1253 = .ok (.iaload, 1) := by decide +kernel
theorem dL_law_1254 : decode cL_law 1254 = .ok (.aload_n 0, 1) := by decide +kernel
theorem dL_law_1255 : decode cL_law 1255 = .ok (.iload 4, 2) := by decide +kernel
theorem dL_law_1257 : decode cL_law 1257 = .ok (.iconst 2, 1) := by decide +kernel
theorem dL_law_1258 : decode cL_law 1258 = .ok (.iadd, 1) := by decide +kernel
theorem dL_law_1259 : decode cL_law 1259 = .ok (.iaload, 1) := by decide +kernel
theorem dL_law_1260 : decode cL_law 1260 = .ok (.invokevirtual 162, 3) := by decide +kernel
theorem dL_law_1263 : decode cL_law 1263 = .ok (.istore 6, 2) := by decide +kernel
theorem dL_law_1265 : decode cL_law 1265 = .ok (.aload_n 2, 1) := by decide +kernel
theorem dL_law_1266 : decode cL_law 1266 = .ok (.invokevirtual 88, 3) := by decide +kernel
theorem dL_law_1269 : decode cL_law 1269 = .ok (.iload 5, 2) := by decide +kernel
theorem dL_law_1271 : decode cL_law 1271 = .ok (.if_icmp .eq 5, 3) := by decide +kernel
theorem dL_law_1274 : decode cL_law 1274 = .ok (.iconst 0, 1) := by decide +kernel
theorem dL_law_1275 : decode cL_law 1275 = .ok (.ireturn, 1) := by decide +kernel
theorem dL_law_1276 : decode cL_law 1276 = .ok (.iload 5, 2) := by decide +kernel
theorem dL_law_1278 : decode cL_law 1278 = .ok (.ifCond .ne 22, 3) := by decide +kernel
theorem dL_law_1281 : decode cL_law 1281 = .ok (.aload_n 3, 1) := by decide +kernel
theorem dL_law_1282 : decode cL_law 1282 = .ok (.iconst 0, 1) := by decide +kernel
theorem dL_law_1283 : decode cL_law 1283 = .ok (.laload, 1) := by decide +kernel
theorem dL_law_1284 : decode cL_law 1284 = .ok (.iload 6, 2) := by decide +kernel
theorem dL_law_1286 : decode cL_law 1286 = .ok (.ifCond .eq 7, 3) := by decide +kernel
theorem dL_law_1289 : decode cL_law 1289 = .ok (.lconst 1, 1) := by decide +kernel
theorem dL_law_1290 : decode cL_law 1290 = .ok (.goto 4, 3) := by decide +kernel
theorem dL_law_1293 : decode cL_law 1293 = .ok (.lconst 0, 1) := by decide +kernel
theorem dL_law_1294 : decode cL_law 1294 = .ok (.lcmp, 1) := by decide +kernel
theorem dL_law_1295 : decode cL_law 1295 = .ok (.ifCond .eq 5, 3) := by decide +kernel
theorem dL_law_1298 : decode cL_law 1298 = .ok (.iconst 0, 1) := by decide +kernel
theorem dL_law_1299 : decode cL_law 1299 = .ok (.ireturn, 1) := by decide +kernel
theorem dL_law_1300 : decode cL_law 1300 = .ok (.goto 253, 3) := by decide +kernel
theorem dL_law_1303 : decode cL_law 1303 = .ok (.aload_n 1, 1) := by decide +kernel
theorem dL_law_1304 : decode cL_law 1304 = .ok (.invokevirtual 163, 3) := by decide +kernel
theorem dL_law_1307 : decode cL_law 1307 = .ok (.aload_n 2, 1) := by decide +kernel
theorem dL_law_1308 : decode cL_law 1308 = .ok (.invokevirtual 166, 3) := by decide +kernel
theorem dL_law_1311 : decode cL_law 1311 = .ok (.if_icmp .eq 242, 3) := by decide +kernel
theorem dL_law_1314 : decode cL_law 1314 = .ok (.iconst 0, 1) := by decide +kernel
theorem dL_law_1315 : decode cL_law 1315 = .ok (.ireturn, 1) := by decide +kernel
theorem dL_law_1316 : decode cL_law 1316 = .ok (.aload_n 1, 1) := by decide +kernel
theorem dL_law_1317 : decode cL_law 1317 = .ok (.aload_n 3, 1) := by decide +kernel
theorem dL_law_1318 : decode cL_law 1318 = .ok (.invokestatic 167, 3) := by decide +kernel
theorem dL_law_1321 : decode cL_law 1321 = .ok (.istore 5, 2) := by decide +kernel
theorem dL_law_1323 : decode cL_law 1323 = .ok (.aload_n 2, 1) := by decide +kernel
theorem dL_law_1324 : decode cL_law 1324 = .ok (.invokevirtual 169, 3) := by decide +kernel
theorem dL_law_1327 : decode cL_law 1327 = .ok (.istore 6, 2) := by decide +kernel
theorem dL_law_1329 : decode cL_law 1329 = .ok (.aload_n 2, 1) := by decide +kernel
theorem dL_law_1330 : decode cL_law 1330 = .ok (.invokevirtual 88, 3) := by decide +kernel
theorem dL_law_1333 : decode cL_law 1333 = .ok (.iload 5, 2) := by decide +kernel
theorem dL_law_1335 : decode cL_law 1335 = .ok (.if_icmp .eq 5, 3) := by decide +kernel
theorem dL_law_1338 : decode cL_law 1338 = .ok (.iconst 0, 1) := by decide +kernel
theorem dL_law_1339 : decode cL_law 1339 = .ok (.ireturn, 1) := by decide +kernel
theorem dL_law_1340 : decode cL_law 1340 = .ok (.iload 5, 2) := by decide +kernel
theorem dL_law_1342 : decode cL_law 1342 = .ok (.ifCond .ne 15, 3) := by decide +kernel
theorem dL_law_1345 : decode cL_law 1345 = .ok (.aload_n 3, 1) := by decide +kernel
theorem dL_law_1346 : decode cL_law 1346 = .ok (.iconst 0, 1) := by decide +kernel
theorem dL_law_1347 : decode cL_law 1347 = .ok (.laload, 1) := by decide +kernel
theorem dL_law_1348 : decode cL_law 1348 = .ok (.iload 6, 2) := by decide +kernel
theorem dL_law_1350 : decode cL_law 1350 = .ok (.i2l, 1) := by decide +kernel
theorem dL_law_1351 : decode cL_law 1351 = .ok (.lcmp, 1) := by decide +kernel
theorem dL_law_1352 : decode cL_law 1352 = .ok (.ifCond .eq 5, 3) := by decide +kernel
theorem dL_law_1355 : decode cL_law 1355 = .ok (.iconst 0, 1) := by decide +kernel
theorem dL_law_1356 : decode cL_law 1356 = .ok (.ireturn, 1) := by decide +kernel
theorem dL_law_1357 : decode cL_law 1357 = .ok (.goto 196, 3) := by decide +kernel
theorem dL_law_1360 : decode cL_law 1360 = .ok (.aload_n 1, 1) := by decide +kernel
theorem dL_law_1361 : decode cL_law 1361 = .ok (.aload_n 0, 1) := by decide +kernel
theorem dL_law_1362 : decode cL_law 1362 = .ok (.iload 4, 2) := by decide +kernel
theorem dL_law_1364 : decode cL_law 1364 = .ok (.iconst 1, 1) := by decide +kernel
theorem dL_law_1365 : decode cL_law 1365 = .ok (.iadd, 1) := by decide +kernel
theorem dL_law_1366 : decode cL_law 1366 = .ok (.iaload, 1) := by decide +kernel
theorem dL_law_1367 : decode cL_law 1367 = .ok (.aload_n 3, 1) := by decide +kernel
theorem dL_law_1368 : decode cL_law 1368 = .ok (.invokestatic 170, 3) := by decide +kernel
theorem dL_law_1371 : decode cL_law 1371 = .ok (.istore 5, 2) := by decide +kernel
theorem dL_law_1373 : decode cL_law 1373 = .ok (.aload_n 2, 1) := by decide +kernel
theorem dL_law_1374 : decode cL_law 1374 = .ok (.aload_n 0, 1) := by decide +kernel
theorem dL_law_1375 : decode cL_law 1375 = .ok (.iload 4, 2) := by decide +kernel
theorem dL_law_1377 : decode cL_law 1377 = .ok (.iconst 1, 1) := by decide +kernel
theorem dL_law_1378 : decode cL_law 1378 = .ok (.iadd, 1) := by decide +kernel
theorem dL_law_1379 : decode cL_law 1379 = .ok (.iaload, 1) := by decide +kernel
theorem dL_law_1380 : decode cL_law 1380 = .ok (.invokevirtual 172, 3) := by decide +kernel
theorem dL_law_1383 : decode cL_law 1383 = .ok (.istore 6, 2) := by decide +kernel
theorem dL_law_1385 : decode cL_law 1385 = .ok (.aload_n 2, 1) := by decide +kernel
theorem dL_law_1386 : decode cL_law 1386 = .ok (.invokevirtual 88, 3) := by decide +kernel
theorem dL_law_1389 : decode cL_law 1389 = .ok (.iload 5, 2) := by decide +kernel
theorem dL_law_1391 : decode cL_law 1391 = .ok (.if_icmp .eq 5, 3) := by decide +kernel
theorem dL_law_1394 : decode cL_law 1394 = .ok (.iconst 0, 1) := by decide +kernel
theorem dL_law_1395 : decode cL_law 1395 = .ok (.ireturn, 1) := by decide +kernel
theorem dL_law_1396 : decode cL_law 1396 = .ok (.iload 5, 2) := by decide +kernel
theorem dL_law_1398 : decode cL_law 1398 = .ok (.ifCond .ne 15, 3) := by decide +kernel
theorem dL_law_1401 : decode cL_law 1401 = .ok (.aload_n 3, 1) := by decide +kernel
theorem dL_law_1402 : decode cL_law 1402 = .ok (.iconst 0, 1) := by decide +kernel
theorem dL_law_1403 : decode cL_law 1403 = .ok (.laload, 1) := by decide +kernel
theorem dL_law_1404 : decode cL_law 1404 = .ok (.iload 6, 2) := by decide +kernel
theorem dL_law_1406 : decode cL_law 1406 = .ok (.i2l, 1) := by decide +kernel
theorem dL_law_1407 : decode cL_law 1407 = .ok (.lcmp, 1) := by decide +kernel
theorem dL_law_1408 : decode cL_law 1408 = .ok (.ifCond .eq 5, 3) := by decide +kernel
theorem dL_law_1411 : decode cL_law 1411 = .ok (.iconst 0, 1) := by decide +kernel
theorem dL_law_1412 : decode cL_law 1412 = .ok (.ireturn, 1) := by decide +kernel
theorem dL_law_1413 : decode cL_law 1413 = .ok (.goto 140, 3) := by decide +kernel
theorem dL_law_1416 : decode cL_law 1416 = .ok (.aload_n 1, 1) := by decide +kernel
theorem dL_law_1417 : decode cL_law 1417 = .ok (.invokevirtual 173, 3) := by decide +kernel
theorem dL_law_1420 : decode cL_law 1420 = .ok (.aload_n 2, 1) := by decide +kernel
theorem dL_law_1421 : decode cL_law 1421 = .ok (.invokevirtual 176, 3) := by decide +kernel
theorem dL_law_1424 : decode cL_law 1424 = .ok (.if_icmp .eq 129, 3) := by decide +kernel
theorem dL_law_1427 : decode cL_law 1427 = .ok (.iconst 0, 1) := by decide +kernel
theorem dL_law_1428 : decode cL_law 1428 = .ok (.ireturn, 1) := by decide +kernel
theorem dL_law_1429 : decode cL_law 1429 = .ok (.aload_n 1, 1) := by decide +kernel
theorem dL_law_1430 : decode cL_law 1430 = .ok (.invokevirtual 177, 3) := by decide +kernel
theorem dL_law_1433 : decode cL_law 1433 = .ok (.aload_n 2, 1) := by decide +kernel
theorem dL_law_1434 : decode cL_law 1434 = .ok (.invokevirtual 180, 3) := by decide +kernel
theorem dL_law_1437 : decode cL_law 1437 = .ok (.if_icmp .eq 116, 3) := by decide +kernel
theorem dL_law_1440 : decode cL_law 1440 = .ok (.iconst 0, 1) := by decide +kernel
theorem dL_law_1441 : decode cL_law 1441 = .ok (.ireturn, 1) := by decide +kernel
theorem dL_law_1442 : decode cL_law 1442 = .ok (.aload_n 1, 1) := by decide +kernel
theorem dL_law_1443 : decode cL_law 1443 = .ok (.aload_n 0, 1) := by decide +kernel
theorem dL_law_1444 : decode cL_law 1444 = .ok (.iload 4, 2) := by decide +kernel
theorem dL_law_1446 : decode cL_law 1446 = .ok (.iconst 1, 1) := by decide +kernel
theorem dL_law_1447 : decode cL_law 1447 = .ok (.iadd, 1) := by decide +kernel
theorem dL_law_1448 : decode cL_law 1448 = .ok (.iaload, 1) := by decide +kernel
theorem dL_law_1449 : decode cL_law 1449 = .ok (.aload_n 3, 1) := by decide +kernel
theorem dL_law_1450 : decode cL_law 1450 = .ok (.invokestatic 181, 3) := by decide +kernel
theorem dL_law_1453 : decode cL_law 1453 = .ok (.istore 5, 2) := by decide +kernel
theorem dL_law_1455 : decode cL_law 1455 = .ok (.aload_n 2, 1) := by decide +kernel
theorem dL_law_1456 : decode cL_law 1456 = .ok (.aload_n 0, 1) := by decide +kernel
theorem dL_law_1457 : decode cL_law 1457 = .ok (.iload 4, 2) := by decide +kernel
theorem dL_law_1459 : decode cL_law 1459 = .ok (.iconst 1, 1) := by decide +kernel
theorem dL_law_1460 : decode cL_law 1460 = .ok (.iadd, 1) := by decide +kernel
theorem dL_law_1461 : decode cL_law 1461 = .ok (.iaload, 1) := by decide +kernel
theorem dL_law_1462 : decode cL_law 1462 = .ok (.invokevirtual 183, 3) := by decide +kernel
theorem dL_law_1465 : decode cL_law 1465 = .ok (.istore 6, 2) := by decide +kernel
theorem dL_law_1467 : decode cL_law 1467 = .ok (.aload_n 2, 1) := by decide +kernel
theorem dL_law_1468 : decode cL_law 1468 = .ok (.invokevirtual 88, 3) := by decide +kernel
theorem dL_law_1471 : decode cL_law 1471 = .ok (.iload 5, 2) := by decide +kernel
theorem dL_law_1473 : decode cL_law 1473 = .ok (.if_icmp .eq 5, 3) := by decide +kernel
theorem dL_law_1476 : decode cL_law 1476 = .ok (.iconst 0, 1) := by decide +kernel
theorem dL_law_1477 : decode cL_law 1477 = .ok (.ireturn, 1) := by decide +kernel
theorem dL_law_1478 : decode cL_law 1478 = .ok (.iload 5, 2) := by decide +kernel
theorem dL_law_1480 : decode cL_law 1480 = .ok (.ifCond .ne 15, 3) := by decide +kernel
theorem dL_law_1483 : decode cL_law 1483 = .ok (.aload_n 3, 1) := by decide +kernel
theorem dL_law_1484 : decode cL_law 1484 = .ok (.iconst 0, 1) := by decide +kernel
theorem dL_law_1485 : decode cL_law 1485 = .ok (.laload, 1) := by decide +kernel
theorem dL_law_1486 : decode cL_law 1486 = .ok (.iload 6, 2) := by decide +kernel
theorem dL_law_1488 : decode cL_law 1488 = .ok (.i2l, 1) := by decide +kernel
theorem dL_law_1489 : decode cL_law 1489 = .ok (.lcmp, 1) := by decide +kernel
theorem dL_law_1490 : decode cL_law 1490 = .ok (.ifCond .eq 5, 3) := by decide +kernel
theorem dL_law_1493 : decode cL_law 1493 = .ok (.iconst 0, 1) := by decide +kernel
theorem dL_law_1494 : decode cL_law 1494 = .ok (.ireturn, 1) := by decide +kernel
theorem dL_law_1495 : decode cL_law 1495 = .ok (.goto 58, 3) := by decide +kernel
theorem dL_law_1498 : decode cL_law 1498 = .ok (.aload_n 1, 1) := by decide +kernel
theorem dL_law_1499 : decode cL_law 1499 = .ok (.invokevirtual 184, 3) := by decide +kernel
theorem dL_law_1502 : decode cL_law 1502 = .ok (.dstore 5, 2) := by decide +kernel
theorem dL_law_1504 : decode cL_law 1504 = .ok (.aload_n 2, 1) := by decide +kernel
theorem dL_law_1505 : decode cL_law 1505 = .ok (.invokevirtual 188, 3) := by decide +kernel
theorem dL_law_1508 : decode cL_law 1508 = .ok (.dstore 7, 2) := by decide +kernel
theorem dL_law_1510 : decode cL_law 1510 = .ok (.dload 5, 2) := by decide +kernel
theorem dL_law_1512 : decode cL_law 1512 = .ok (.dload 7, 2) := by decide +kernel
theorem dL_law_1514 : decode cL_law 1514 = .ok (.dcmp .l, 1) := by decide +kernel
theorem dL_law_1515 : decode cL_law 1515 = .ok (.ifCond .eq 21, 3) := by decide +kernel
theorem dL_law_1518 : decode cL_law 1518 = .ok (.dload 5, 2) := by decide +kernel
theorem dL_law_1520 : decode cL_law 1520 = .ok (.dload 5, 2) := by decide +kernel
theorem dL_law_1522 : decode cL_law 1522 = .ok (.dcmp .l, 1) := by decide +kernel
theorem dL_law_1523 : decode cL_law 1523 = .ok (.ifCond .eq 11, 3) := by decide +kernel
theorem dL_law_1526 : decode cL_law 1526 = .ok (.dload 7, 2) := by decide +kernel
theorem dL_law_1528 : decode cL_law 1528 = .ok (.dload 7, 2) := by decide +kernel
theorem dL_law_1530 : decode cL_law 1530 = .ok (.dcmp .l, 1) := by decide +kernel
theorem dL_law_1531 : decode cL_law 1531 = .ok (.ifCond .ne 5, 3) := by decide +kernel
theorem dL_law_1534 : decode cL_law 1534 = .ok (.iconst 0, 1) := by decide +kernel
theorem dL_law_1535 : decode cL_law 1535 = .ok (.ireturn, 1) := by decide +kernel
theorem dL_law_1536 : decode cL_law 1536 = .ok (.goto 17, 3) := by decide +kernel
theorem dL_law_1539 : decode cL_law 1539 = .ok (.aload_n 1, 1) := by decide +kernel
theorem dL_law_1540 : decode cL_law 1540 = .ok (.invokevirtual 189, 3) := by decide +kernel
theorem dL_law_1543 : decode cL_law 1543 = .ok (.aload_n 2, 1) := by decide +kernel
theorem dL_law_1544 : decode cL_law 1544 = .ok (.invokevirtual 193, 3) := by decide +kernel
theorem dL_law_1547 : decode cL_law 1547 = .ok (.lcmp, 1) := by decide +kernel
theorem dL_law_1548 : decode cL_law 1548 = .ok (.ifCond .eq 5, 3) := by decide +kernel
theorem dL_law_1551 : decode cL_law 1551 = .ok (.iconst 0, 1) := by decide +kernel
theorem dL_law_1552 : decode cL_law 1552 = .ok (.ireturn, 1) := by decide +kernel
theorem dL_law_1553 : decode cL_law 1553 = .ok (.iinc 4 4, 3) := by decide +kernel
theorem dL_law_1556 : decode cL_law 1556 = .ok (.goto (-1533), 3) := by decide +kernel
theorem dL_law_1559 : decode cL_law 1559 = .ok (.iconst 1, 1) := by decide +kernel
theorem dL_law_1560 : decode cL_law 1560 = .ok (.ireturn, 1) := by decide +kernel
end
section
/-! contracts in one form: a method of the game or of the model over its world w; the answer and the world behind it by post; nothing is made -/
abbrev rmB (f lo : Nat) : Room := { frames := f, cells := 0, slots := 0, locals := lo }
def wIn (w : va_W) : Nat → Prop := fun q => q ∈ w.map (·.1)
def pwF : Nat → Value := fun j => .int (nI (3 ^ j))
/-- the static row of powers: where it lies and what it holds -/
def pwOK (A : Nat → Prop) (U : State) (H : Heap) : Prop := ∃ t : Nat, va_Z "BorrowedHatsModel" "POWER" "[I" (.ref t) A U H ∧ va_T .int t 6 pwF A U H
theorem pwOK.moved {A : Nat → Prop} {u U : State} {H : Heap} (hvm : u.vm.Alike U.vm) (h : pwOK A u H) : pwOK A U H := by
  obtain ⟨t, h1, h2⟩ := h
  exact ⟨t, h1.moved hvm, h2.moved hvm⟩
theorem pwOK.kept {A : Nat → Prop} {U : State} {H H1 : Heap} (h : pwOK A U H) (hq : ∀ a : Nat, a < H.size → ¬ A a → H1[a]? = H[a]?) : pwOK A U H1 := by
  obtain ⟨t, h1, h2⟩ := h
  exact ⟨t, h1.kept hq, h2.kept hq⟩
theorem pwOK.narrow {A B : Nat → Prop} {U : State} {H : Heap} (h : pwOK A U H) (hAB : ∀ q, B q → A q) : pwOK B U H := by
  obtain ⟨t, h1, h2⟩ := h
  exact ⟨t, h1.narrow hAB, h2.narrow hAB⟩
def cP (D : va_G) (ty : List (ClassId × FieldType)) (av : List Value) (w : va_W) : Array Value → State → Prop := va_Pc av (fun U => va_P D vwCl w U.heap ∧ va_K D vwCl ty U ∧ va_D (fun _ => True) w ∧ pwOK (wIn w) U U.heap)
theorem cP_blind {D : va_G} {ty : List (ClassId × FieldType)} {av : List Value} {w : va_W} : FrameBlind (cP D ty av w) := fun a U g mk q => by
  obtain ⟨q0, qP, qK, qD, qZ⟩ := q
  exact ⟨q0, qP, va_K.moved (u := U) (U := U.calling g mk a) (Vm.Alike.refl U.vm) qK, qD, pwOK.moved (u := U) (U := U.calling g mk a) (Vm.Alike.refl U.vm) qZ⟩
def cB (D : va_G) (w : va_W) : va_W → State → Prop := fun u t => va_P D vwCl u t.heap ∧ (u.map (·.1)).Perm (w.map (·.1))
abbrev Mi (l : Launch) (y : MethodName) (ws : List Cond) (fr lo : Nat) (D : va_G) (ty : List (ClassId × FieldType)) (av : List Value) (w : va_W) (post : Int32 → va_W → Prop) : Prop := Met l y ws (rmB fr lo) (cP D ty av w) (va_Qi post (cB D w) (wIn w)) 0 0 (wIn w)
abbrev Ml (l : Launch) (y : MethodName) (ws : List Cond) (fr lo : Nat) (D : va_G) (ty : List (ClassId × FieldType)) (av : List Value) (w : va_W) (post : Int64 → va_W → Prop) : Prop := Met l y ws (rmB fr lo) (cP D ty av w) (va_Ql post (cB D w) (wIn w)) 0 0 (wIn w)
abbrev Md (l : Launch) (y : MethodName) (ws : List Cond) (fr lo : Nat) (D : va_G) (ty : List (ClassId × FieldType)) (av : List Value) (w : va_W) (post : UInt64 → va_W → Prop) : Prop := Met l y ws (rmB fr lo) (cP D ty av w) (va_Qd post (cB D w) (wIn w)) 0 0 (wIn w)
abbrev Mv (l : Launch) (y : MethodName) (ws : List Cond) (fr lo : Nat) (D : va_G) (ty : List (ClassId × FieldType)) (av : List Value) (w : va_W) (post : va_W → Prop) : Prop := Met l y ws (rmB fr lo) (cP D ty av w) (va_Qv post (cB D w) (wIn w)) 0 0 (wIn w)
abbrev Mp (l : Launch) (y : MethodName) (ws : List Cond) (fr lo : Nat) (D : va_G) (ty : List (ClassId × FieldType)) (av : List Value) (w : va_W) (post : Int32 → Prop) : Prop := Mi l y ws fr lo D ty av w (fun r u => u = w ∧ post r)
theorem wIn_of {w : va_W} {k : Nat} {q : Nat × va_E} (h : w[k]? = some q) : wIn w q.1 := List.mem_map.mpr ⟨q, List.mem_of_getElem? h, rfl⟩
theorem va_D_iff {A : Nat → Prop} {w : va_W} : va_D A w ↔ (w.map (·.1)).Nodup ∧ ∀ a ∈ w.map (·.1), A a := by
  constructor
  · intro h
    refine ⟨List.pairwise_iff_getElem.mpr fun i j hi hj hij he => ?_, fun a ha => ?_⟩
    · have hi' : i < w.length := by simpa using hi
      have hj' : j < w.length := by simpa using hj
      have := h.1 i j w[i] w[j] (List.getElem?_eq_getElem hi') (List.getElem?_eq_getElem hj') (by simpa using he)
      omega
    · obtain ⟨x, hx, rfl⟩ := List.mem_map.mp ha
      obtain ⟨k, hk⟩ := List.getElem?_of_mem hx
      exact h.2 k x hk
  · rintro ⟨h1, h2⟩
    refine ⟨fun i j x y hi hj hxy => ?_, fun k q hk => h2 _ (wIn_of hk)⟩
    have e1 : (w.map (·.1))[i]? = some x.1 := by rw [List.getElem?_map, hi]; rfl
    have e2 : (w.map (·.1))[j]? = some x.1 := by rw [List.getElem?_map, hj, hxy]; rfl
    obtain ⟨hi2, e1⟩ := List.getElem?_eq_some_iff.mp e1
    obtain ⟨hj2, e2⟩ := List.getElem?_eq_some_iff.mp e2
    rcases Nat.lt_trichotomy i j with hlt | heq | hlt
    · exact absurd (e1.trans e2.symm) (List.pairwise_iff_getElem.mp h1 i j hi2 hj2 hlt)
    · exact heq
    · exact absurd (e2.trans e1.symm) (List.pairwise_iff_getElem.mp h1 j i hj2 hi2 hlt)
theorem va_D_same {A : Nat → Prop} {w u : va_W} (h : va_D A w) (e : (u.map (·.1)).Perm (w.map (·.1))) : va_D A u := by
  rw [va_D_iff] at h ⊢
  exact ⟨e.symm.nodup h.1, fun a ha => h.2 a (e.mem_iff.mp ha)⟩
theorem wIn_A {A0 : Nat → Prop} {ws wc : va_W} (hD : va_D A0 ws) (isC : List Nat) (hC : isC.map (fun i => ws[i]?) = wc.map some) : ∀ q, wIn wc q → A0 q := by
  intro q hq
  obtain ⟨x, hx, rfl⟩ := List.mem_map.mp hq
  obtain ⟨k, hk⟩ := List.getElem?_of_mem hx
  have h1 : (isC.map (fun i => ws[i]?))[k]? = some (some x) := by rw [hC, List.getElem?_map, hk]; rfl
  rw [List.getElem?_map] at h1
  cases hi : isC[k]? with
  | none => rw [hi] at h1; cases h1
  | some i => rw [hi] at h1; exact hD.2 i x (Option.some.inj h1)
theorem va_P_at {D : va_G} {cl : List vw_C} {ws wc : va_W} {H : Heap} (hP : va_P D cl ws H) (isC : List Nat) (hC : isC.map (fun i => ws[i]?) = wc.map some) : va_P D cl wc H := by
  intro k q hk
  have h1 : (isC.map (fun i => ws[i]?))[k]? = some (some q) := by rw [hC, List.getElem?_map, hk]; rfl
  rw [List.getElem?_map] at h1
  cases hi : isC[k]? with
  | none => rw [hi] at h1; cases h1
  | some i => rw [hi] at h1; exact hP i q (Option.some.inj h1)
/-- behind a call over a part of the world -/
theorem my_join {A0 : Nat → Prop} {D : va_G} {cl : List vw_C} {ws wc wr w1 : va_W} {H H1 : Heap} (hP : va_P D cl ws H) (hD : va_D A0 ws) (isC isR : List Nat) (hC : isC.map (fun i => ws[i]?) = wc.map some) (hR : isR.map (fun i => ws[i]?) = wr.map some) (hn : va_nd (isR ++ isC) = true)
    (hk : ∀ q : Nat, q < H.size → ¬ wIn wc q → H1[q]? = H[q]?) (hP1 : va_P D cl w1 H1) (he : (w1.map (·.1)).Perm (wc.map (·.1))) : va_P D cl (wr ++ w1) H1 ∧ va_D A0 (wr ++ w1) := by
  have hall : (isR ++ isC).map (fun i => ws[i]?) = (wr ++ wc).map some := by rw [List.map_append, List.map_append, hC, hR]
  have hDa : va_D A0 (wr ++ wc) := hD.sub (isR ++ isC) hn hall
  have hPr : va_P D cl wr H := va_P_at hP isR hR
  have hD2 : va_D A0 (wr ++ w1) := va_D_same hDa (by rw [List.map_append, List.map_append]; exact he.append_left _)
  refine ⟨va_P.app ?_ hP1, hD2⟩
  intro k q hk2
  refine (hPr k q hk2).kept (hk q.1 (hPr k q hk2).lt (fun hq => ?_))
  obtain ⟨x, hx, hxe⟩ := List.mem_map.mp hq
  obtain ⟨j, hj⟩ := List.getElem?_of_mem hx
  have hlk : k < wr.length := (List.getElem?_eq_some_iff.mp hk2).1
  have e1 : (wr ++ wc)[k]? = some q := by rw [List.getElem?_append_left hlk]; exact hk2
  have e2 : (wr ++ wc)[wr.length + j]? = some x := by rw [List.getElem?_append_right (by omega)]; rw [show wr.length + j - wr.length = j by omega]; exact hj
  have := hDa.1 k (wr.length + j) q x e1 e2 hxe.symm
  omega
theorem my_same {A0 : Nat → Prop} {D : va_G} {cl : List vw_C} {ws wc : va_W} {H H1 : Heap} (hP : va_P D cl ws H) (hD : va_D A0 ws) (isC : List Nat) (hC : isC.map (fun i => ws[i]?) = wc.map some)
    (hk : ∀ q : Nat, q < H.size → ¬ wIn wc q → H1[q]? = H[q]?) (hP1 : va_P D cl wc H1) : va_P D cl ws H1 := by
  intro k q hkq
  by_cases hq : wIn wc q.1
  · obtain ⟨x, hx, hxe⟩ := List.mem_map.mp hq
    obtain ⟨j, hj⟩ := List.getElem?_of_mem hx
    have h1 : (isC.map (fun i => ws[i]?))[j]? = some (some x) := by rw [hC, List.getElem?_map, hj]; rfl
    rw [List.getElem?_map] at h1
    cases hi : isC[j]? with
    | none => rw [hi] at h1; cases h1
    | some i =>
      rw [hi] at h1
      have hix : ws[i]? = some x := Option.some.inj h1
      have := hD.1 i k x q hix hkq hxe
      subst this
      have : x = q := Option.some.inj (hix.symm.trans hkq)
      rw [← this]
      exact hP1 j x hj
  · exact (hP k q hkq).kept (hk q.1 (hP k q hkq).lt hq)
section CC
variable {p : Program} {l : Launch} {e : Env} {R : Room} {s : State} {m : MethodId} {args : Array Value} {below : List Frame} {meth : Method} {c : Code} {H : Heap} {locs : List Loc} {cells slots : Nat} {Q : State → Prop}
variable {pc : Nat} {ls : Array Slot} {rest st0 : List Value}
theorem W_i {x y : Int32} (h : x = y) (k : W p l e R s m args below meth c H locs cells slots Q (F0 m pc ls (.int y :: rest))) : W p l e R s m args below meth c H locs cells slots Q (F0 m pc ls (.int x :: rest)) := h ▸ k
theorem W_l {x y : Int64} (h : x = y) (k : W p l e R s m args below meth c H locs cells slots Q (F0 m pc ls (.long y :: rest))) : W p l e R s m args below meth c H locs cells slots Q (F0 m pc ls (.long x :: rest)) := h ▸ k
variable {y : MethodName} {cc cb : ByteArray} {nL maxL index fr lo : Nat} {rt : FieldType} {own C : String} {D : va_G} {ty : List (ClassId × FieldType)} {A0 : Nat → Prop} {b : Addr} {As : List Value} {ws wc wr : va_W} {k0 ci N : Nat} {fs : List Value} {T : u_T}
theorem cP_pre {av : List Value} (hK : va_K D vwCl ty s) (hZ : pwOK A0 s s.heap) (hP : va_P D vwCl ws H) (hD : va_D A0 ws) (hS : va_S A0 s.heap H locs) (isC : List Nat) (hC : isC.map (fun i => ws[i]?) = wc.map some) (hn : va_nd isC = true) :
    ∀ U : State, U.heap = H → s.WarmedH U.vm → cP D ty av wc av.toArray U := fun U hU hW =>
  ⟨rfl, by rw [hU]; exact va_P_at hP isC hC, va_K.moved hW.alike hK, (hD.sub isC hn hC).weaken (fun _ _ _ _ => trivial), by
    rw [hU]; exact ((hZ.kept hS.2.1).narrow (wIn_A hD isC hC)).moved hW.alike⟩
theorem va_nd_sub {l1 l2 : List Nat} (h : va_nd (l1 ++ l2) = true) : va_nd l2 = true := by
  induction l1 with
  | nil => exact h
  | cons a t ih =>
    simp only [List.cons_append, va_nd, Bool.and_eq_true] at h
    exact ih h.2
theorem call_Vi {post : Int32 → va_W → Prop} (S : CallFix p m c cc nL s args bw own) (hM : Mi l y (Cond.code y cb maxL (some rt) :: bw) fr lo D ty (.ref b :: As) wc post) (hg : GoodIn bw (wsV own index C y (Cond.code y cb maxL (some rt) :: bw)))
    (hd : y.cls = C ∧ y.cls ≠ "java/lang/invoke/MethodHandle" ∧ y.cls ≠ "java/lang/invoke/VarHandle" ∧ (parseMethodDescriptor y.desc).map (fun d => d.parameters.length) = some As.length) (hR : fr + 1 ≤ R.frames ∧ 8 + (maxL + 11) + lo ≤ R.locals) (hroom : cells ≤ R.cells ∧ slots ≤ R.slots)
    (hP : va_P D vwCl ws H) (hD : va_D A0 ws) (hK : va_K D vwCl ty s) (hS : va_S A0 s.heap H locs) (hZ : pwOK A0 s s.heap)
    (isC isR : List Nat) (hC : isC.map (fun i => ws[i]?) = wc.map some) (hRr : isR.map (fun i => ws[i]?) = wr.map some) (hn : va_nd (isR ++ isC) = true)
    (k0 : Nat) (hrec : wc[k0]? = some (b, .inr (ci, fs))) (hc : vwCl[ci]? = some (C, T, N)) (hls : ls.size = nL) (hst : st0 = As.reverse ++ .ref b :: rest) (hrest : (rest.map fun v => v.category).sum ≤ 8) (hdg : decode cc pc = .ok (.invokevirtual index, 3))
    (kk : ∀ (r : Int32) (w1 : va_W) (H1 : Heap) (locs1 : List Loc), post r w1 → va_P D vwCl (wr ++ w1) H1 → va_D A0 (wr ++ w1) → va_S A0 s.heap H1 locs1 → W p l e R s m args below meth c H1 locs1 cells slots Q (F0 m (pc + 3) ls (.int r :: rest))) :
    W p l e R s m args below meth c H locs cells slots Q (F0 m pc ls st0) := by
  refine va_calli (va_runV (As := As) (rest := rest) S hM (cwV As.length S.2.2.2.2 hg rfl rfl rfl hd hR) ⟨cP_blind, va_recv hK (va_P_at hP isC hC) (ci := ci) (q0 := k0) hc hrec, cP_pre hK hZ hP hD hS isC hC (va_nd_sub hn)⟩ rfl rfl hls hst (lv_room hrest) hdg hroom) hS (fun q _ h => wIn_A hD isC hC q h) (wIn_A hD isC hC) (fun r u t H1 locs1 ht hvm hw hB hz1 hk1 hS1 => ?_)
  obtain ⟨hP1, he⟩ := hB
  rw [ht] at hP1
  obtain ⟨hP2, hD2⟩ := my_join hP hD isC isR hC hRr hn hk1 hP1 he
  exact kk r u H1 locs1 hw hP2 hD2 hS1
theorem call_Vv {post : va_W → Prop} (S : CallFix p m c cc nL s args bw own) (hM : Mv l y (Cond.code y cb maxL none :: bw) fr lo D ty (.ref b :: As) wc post) (hg : GoodIn bw (wsV own index C y (Cond.code y cb maxL none :: bw)))
    (hd : y.cls = C ∧ y.cls ≠ "java/lang/invoke/MethodHandle" ∧ y.cls ≠ "java/lang/invoke/VarHandle" ∧ (parseMethodDescriptor y.desc).map (fun d => d.parameters.length) = some As.length) (hR : fr + 1 ≤ R.frames ∧ 8 + (maxL + 11) + lo ≤ R.locals) (hroom : cells ≤ R.cells ∧ slots ≤ R.slots)
    (hP : va_P D vwCl ws H) (hD : va_D A0 ws) (hK : va_K D vwCl ty s) (hS : va_S A0 s.heap H locs) (hZ : pwOK A0 s s.heap)
    (isC isR : List Nat) (hC : isC.map (fun i => ws[i]?) = wc.map some) (hRr : isR.map (fun i => ws[i]?) = wr.map some) (hn : va_nd (isR ++ isC) = true)
    (k0 : Nat) (hrec : wc[k0]? = some (b, .inr (ci, fs))) (hc : vwCl[ci]? = some (C, T, N)) (hls : ls.size = nL) (hst : st0 = As.reverse ++ .ref b :: rest) (hrest : (rest.map fun v => v.category).sum ≤ 8) (hdg : decode cc pc = .ok (.invokevirtual index, 3))
    (kk : ∀ (w1 : va_W) (H1 : Heap) (locs1 : List Loc), post w1 → va_P D vwCl (wr ++ w1) H1 → va_D A0 (wr ++ w1) → va_S A0 s.heap H1 locs1 → W p l e R s m args below meth c H1 locs1 cells slots Q (F0 m (pc + 3) ls rest)) :
    W p l e R s m args below meth c H locs cells slots Q (F0 m pc ls st0) := by
  refine va_callv (va_runV (As := As) (rest := rest) S hM (cwV As.length S.2.2.2.2 hg rfl rfl rfl hd hR) ⟨cP_blind, va_recv hK (va_P_at hP isC hC) (ci := ci) (q0 := k0) hc hrec, cP_pre hK hZ hP hD hS isC hC (va_nd_sub hn)⟩ rfl rfl hls hst (lv_room hrest) hdg hroom) hS (fun q _ h => wIn_A hD isC hC q h) (wIn_A hD isC hC) (fun u t H1 locs1 ht hvm hw hB hz1 hk1 hS1 => ?_)
  obtain ⟨hP1, he⟩ := hB
  rw [ht] at hP1
  obtain ⟨hP2, hD2⟩ := my_join hP hD isC isR hC hRr hn hk1 hP1 he
  exact kk u H1 locs1 hw hP2 hD2 hS1
theorem call_Vl {post : Int64 → va_W → Prop} (S : CallFix p m c cc nL s args bw own) (hM : Ml l y (Cond.code y cb maxL (some rt) :: bw) fr lo D ty (.ref b :: As) wc post) (hg : GoodIn bw (wsV own index C y (Cond.code y cb maxL (some rt) :: bw)))
    (hd : y.cls = C ∧ y.cls ≠ "java/lang/invoke/MethodHandle" ∧ y.cls ≠ "java/lang/invoke/VarHandle" ∧ (parseMethodDescriptor y.desc).map (fun d => d.parameters.length) = some As.length) (hR : fr + 1 ≤ R.frames ∧ 8 + (maxL + 11) + lo ≤ R.locals) (hroom : cells ≤ R.cells ∧ slots ≤ R.slots)
    (hP : va_P D vwCl ws H) (hD : va_D A0 ws) (hK : va_K D vwCl ty s) (hS : va_S A0 s.heap H locs) (hZ : pwOK A0 s s.heap)
    (isC isR : List Nat) (hC : isC.map (fun i => ws[i]?) = wc.map some) (hRr : isR.map (fun i => ws[i]?) = wr.map some) (hn : va_nd (isR ++ isC) = true)
    (k0 : Nat) (hrec : wc[k0]? = some (b, .inr (ci, fs))) (hc : vwCl[ci]? = some (C, T, N)) (hls : ls.size = nL) (hst : st0 = As.reverse ++ .ref b :: rest) (hrest : (rest.map fun v => v.category).sum ≤ 8) (hdg : decode cc pc = .ok (.invokevirtual index, 3))
    (kk : ∀ (r : Int64) (w1 : va_W) (H1 : Heap) (locs1 : List Loc), post r w1 → va_P D vwCl (wr ++ w1) H1 → va_D A0 (wr ++ w1) → va_S A0 s.heap H1 locs1 → W p l e R s m args below meth c H1 locs1 cells slots Q (F0 m (pc + 3) ls (.long r :: rest))) :
    W p l e R s m args below meth c H locs cells slots Q (F0 m pc ls st0) := by
  refine va_calll (va_runV (As := As) (rest := rest) S hM (cwV As.length S.2.2.2.2 hg rfl rfl rfl hd hR) ⟨cP_blind, va_recv hK (va_P_at hP isC hC) (ci := ci) (q0 := k0) hc hrec, cP_pre hK hZ hP hD hS isC hC (va_nd_sub hn)⟩ rfl rfl hls hst (lv_room hrest) hdg hroom) hS (fun q _ h => wIn_A hD isC hC q h) (wIn_A hD isC hC) (fun r u t H1 locs1 ht hvm hw hB hz1 hk1 hS1 => ?_)
  obtain ⟨hP1, he⟩ := hB
  rw [ht] at hP1
  obtain ⟨hP2, hD2⟩ := my_join hP hD isC isR hC hRr hn hk1 hP1 he
  exact kk r u H1 locs1 hw hP2 hD2 hS1
theorem call_Vd {post : UInt64 → va_W → Prop} (S : CallFix p m c cc nL s args bw own) (hM : Md l y (Cond.code y cb maxL (some rt) :: bw) fr lo D ty (.ref b :: As) wc post) (hg : GoodIn bw (wsV own index C y (Cond.code y cb maxL (some rt) :: bw)))
    (hd : y.cls = C ∧ y.cls ≠ "java/lang/invoke/MethodHandle" ∧ y.cls ≠ "java/lang/invoke/VarHandle" ∧ (parseMethodDescriptor y.desc).map (fun d => d.parameters.length) = some As.length) (hR : fr + 1 ≤ R.frames ∧ 8 + (maxL + 11) + lo ≤ R.locals) (hroom : cells ≤ R.cells ∧ slots ≤ R.slots)
    (hP : va_P D vwCl ws H) (hD : va_D A0 ws) (hK : va_K D vwCl ty s) (hS : va_S A0 s.heap H locs) (hZ : pwOK A0 s s.heap)
    (isC isR : List Nat) (hC : isC.map (fun i => ws[i]?) = wc.map some) (hRr : isR.map (fun i => ws[i]?) = wr.map some) (hn : va_nd (isR ++ isC) = true)
    (k0 : Nat) (hrec : wc[k0]? = some (b, .inr (ci, fs))) (hc : vwCl[ci]? = some (C, T, N)) (hls : ls.size = nL) (hst : st0 = As.reverse ++ .ref b :: rest) (hrest : (rest.map fun v => v.category).sum ≤ 8) (hdg : decode cc pc = .ok (.invokevirtual index, 3))
    (kk : ∀ (r : UInt64) (w1 : va_W) (H1 : Heap) (locs1 : List Loc), post r w1 → va_P D vwCl (wr ++ w1) H1 → va_D A0 (wr ++ w1) → va_S A0 s.heap H1 locs1 → W p l e R s m args below meth c H1 locs1 cells slots Q (F0 m (pc + 3) ls (.double r :: rest))) :
    W p l e R s m args below meth c H locs cells slots Q (F0 m pc ls st0) := by
  refine va_calld (va_runV (As := As) (rest := rest) S hM (cwV As.length S.2.2.2.2 hg rfl rfl rfl hd hR) ⟨cP_blind, va_recv hK (va_P_at hP isC hC) (ci := ci) (q0 := k0) hc hrec, cP_pre hK hZ hP hD hS isC hC (va_nd_sub hn)⟩ rfl rfl hls hst (lv_room hrest) hdg hroom) hS (fun q _ h => wIn_A hD isC hC q h) (wIn_A hD isC hC) (fun r u t H1 locs1 ht hvm hw hB hz1 hk1 hS1 => ?_)
  obtain ⟨hP1, he⟩ := hB
  rw [ht] at hP1
  obtain ⟨hP2, hD2⟩ := my_join hP hD isC isR hC hRr hn hk1 hP1 he
  exact kk r u H1 locs1 hw hP2 hD2 hS1
theorem call_Si {post : Int32 → va_W → Prop} (S : CallFix p m c cc nL s args bw own) (hM : Mi l y (Cond.code y cb maxL (some rt) :: bw) fr lo D ty As wc post) (hg : GoodIn bw (va_wsS own index y (Cond.code y cb maxL (some rt) :: bw)))
    (hd : y.cls ≠ "java/lang/invoke/MethodHandle" ∧ y.cls ≠ "java/lang/invoke/VarHandle" ∧ (parseMethodDescriptor y.desc).map (fun d => d.parameters.length) = some As.length) (hR : fr + 1 ≤ R.frames ∧ 8 + (maxL + 11) + lo ≤ R.locals) (hroom : cells ≤ R.cells ∧ slots ≤ R.slots)
    (hP : va_P D vwCl ws H) (hD : va_D A0 ws) (hK : va_K D vwCl ty s) (hS : va_S A0 s.heap H locs) (hZ : pwOK A0 s s.heap)
    (isC isR : List Nat) (hC : isC.map (fun i => ws[i]?) = wc.map some) (hRr : isR.map (fun i => ws[i]?) = wr.map some) (hn : va_nd (isR ++ isC) = true)
    (hls : ls.size = nL) (hst : st0 = As.reverse ++ rest) (hrest : (rest.map fun v => v.category).sum ≤ 8) (hdg : decode cc pc = .ok (.invokestatic index, 3))
    (kk : ∀ (r : Int32) (w1 : va_W) (H1 : Heap) (locs1 : List Loc), post r w1 → va_P D vwCl (wr ++ w1) H1 → va_D A0 (wr ++ w1) → va_S A0 s.heap H1 locs1 → W p l e R s m args below meth c H1 locs1 cells slots Q (F0 m (pc + 3) ls (.int r :: rest))) :
    W p l e R s m args below meth c H locs cells slots Q (F0 m pc ls st0) := by
  refine va_calli (va_runS (As := As) (rest := rest) S hM (va_cwS As.length S.2.2.2.2 hg rfl rfl rfl hd hR) ⟨cP_blind, cP_pre hK hZ hP hD hS isC hC (va_nd_sub hn)⟩ rfl rfl hls hst (lv_room hrest) hdg hroom) hS (fun q _ h => wIn_A hD isC hC q h) (wIn_A hD isC hC) (fun r u t H1 locs1 ht hvm hw hB hz1 hk1 hS1 => ?_)
  obtain ⟨hP1, he⟩ := hB
  rw [ht] at hP1
  obtain ⟨hP2, hD2⟩ := my_join hP hD isC isR hC hRr hn hk1 hP1 he
  exact kk r u H1 locs1 hw hP2 hD2 hS1
theorem call_Sl {post : Int64 → va_W → Prop} (S : CallFix p m c cc nL s args bw own) (hM : Ml l y (Cond.code y cb maxL (some rt) :: bw) fr lo D ty As wc post) (hg : GoodIn bw (va_wsS own index y (Cond.code y cb maxL (some rt) :: bw)))
    (hd : y.cls ≠ "java/lang/invoke/MethodHandle" ∧ y.cls ≠ "java/lang/invoke/VarHandle" ∧ (parseMethodDescriptor y.desc).map (fun d => d.parameters.length) = some As.length) (hR : fr + 1 ≤ R.frames ∧ 8 + (maxL + 11) + lo ≤ R.locals) (hroom : cells ≤ R.cells ∧ slots ≤ R.slots)
    (hP : va_P D vwCl ws H) (hD : va_D A0 ws) (hK : va_K D vwCl ty s) (hS : va_S A0 s.heap H locs) (hZ : pwOK A0 s s.heap)
    (isC isR : List Nat) (hC : isC.map (fun i => ws[i]?) = wc.map some) (hRr : isR.map (fun i => ws[i]?) = wr.map some) (hn : va_nd (isR ++ isC) = true)
    (hls : ls.size = nL) (hst : st0 = As.reverse ++ rest) (hrest : (rest.map fun v => v.category).sum ≤ 8) (hdg : decode cc pc = .ok (.invokestatic index, 3))
    (kk : ∀ (r : Int64) (w1 : va_W) (H1 : Heap) (locs1 : List Loc), post r w1 → va_P D vwCl (wr ++ w1) H1 → va_D A0 (wr ++ w1) → va_S A0 s.heap H1 locs1 → W p l e R s m args below meth c H1 locs1 cells slots Q (F0 m (pc + 3) ls (.long r :: rest))) :
    W p l e R s m args below meth c H locs cells slots Q (F0 m pc ls st0) := by
  refine va_calll (va_runS (As := As) (rest := rest) S hM (va_cwS As.length S.2.2.2.2 hg rfl rfl rfl hd hR) ⟨cP_blind, cP_pre hK hZ hP hD hS isC hC (va_nd_sub hn)⟩ rfl rfl hls hst (lv_room hrest) hdg hroom) hS (fun q _ h => wIn_A hD isC hC q h) (wIn_A hD isC hC) (fun r u t H1 locs1 ht hvm hw hB hz1 hk1 hS1 => ?_)
  obtain ⟨hP1, he⟩ := hB
  rw [ht] at hP1
  obtain ⟨hP2, hD2⟩ := my_join hP hD isC isR hC hRr hn hk1 hP1 he
  exact kk r u H1 locs1 hw hP2 hD2 hS1
theorem call_Sv {post : va_W → Prop} (S : CallFix p m c cc nL s args bw own) (hM : Mv l y (Cond.code y cb maxL none :: bw) fr lo D ty As wc post) (hg : GoodIn bw (va_wsS own index y (Cond.code y cb maxL none :: bw)))
    (hd : y.cls ≠ "java/lang/invoke/MethodHandle" ∧ y.cls ≠ "java/lang/invoke/VarHandle" ∧ (parseMethodDescriptor y.desc).map (fun d => d.parameters.length) = some As.length) (hR : fr + 1 ≤ R.frames ∧ 8 + (maxL + 11) + lo ≤ R.locals) (hroom : cells ≤ R.cells ∧ slots ≤ R.slots)
    (hP : va_P D vwCl ws H) (hD : va_D A0 ws) (hK : va_K D vwCl ty s) (hS : va_S A0 s.heap H locs) (hZ : pwOK A0 s s.heap)
    (isC isR : List Nat) (hC : isC.map (fun i => ws[i]?) = wc.map some) (hRr : isR.map (fun i => ws[i]?) = wr.map some) (hn : va_nd (isR ++ isC) = true)
    (hls : ls.size = nL) (hst : st0 = As.reverse ++ rest) (hrest : (rest.map fun v => v.category).sum ≤ 8) (hdg : decode cc pc = .ok (.invokestatic index, 3))
    (kk : ∀ (w1 : va_W) (H1 : Heap) (locs1 : List Loc), post w1 → va_P D vwCl (wr ++ w1) H1 → va_D A0 (wr ++ w1) → va_S A0 s.heap H1 locs1 → W p l e R s m args below meth c H1 locs1 cells slots Q (F0 m (pc + 3) ls rest)) :
    W p l e R s m args below meth c H locs cells slots Q (F0 m pc ls st0) := by
  refine va_callv (va_runS (As := As) (rest := rest) S hM (va_cwS As.length S.2.2.2.2 hg rfl rfl rfl hd hR) ⟨cP_blind, cP_pre hK hZ hP hD hS isC hC (va_nd_sub hn)⟩ rfl rfl hls hst (lv_room hrest) hdg hroom) hS (fun q _ h => wIn_A hD isC hC q h) (wIn_A hD isC hC) (fun u t H1 locs1 ht hvm hw hB hz1 hk1 hS1 => ?_)
  obtain ⟨hP1, he⟩ := hB
  rw [ht] at hP1
  obtain ⟨hP2, hD2⟩ := my_join hP hD isC isR hC hRr hn hk1 hP1 he
  exact kk u H1 locs1 hw hP2 hD2 hS1
theorem call_Vp {post : Int32 → Prop} (S : CallFix p m c cc nL s args bw own) (hM : Mp l y (Cond.code y cb maxL (some rt) :: bw) fr lo D ty (.ref b :: As) wc post) (hg : GoodIn bw (wsV own index C y (Cond.code y cb maxL (some rt) :: bw)))
    (hd : y.cls = C ∧ y.cls ≠ "java/lang/invoke/MethodHandle" ∧ y.cls ≠ "java/lang/invoke/VarHandle" ∧ (parseMethodDescriptor y.desc).map (fun d => d.parameters.length) = some As.length) (hR : fr + 1 ≤ R.frames ∧ 8 + (maxL + 11) + lo ≤ R.locals) (hroom : cells ≤ R.cells ∧ slots ≤ R.slots)
    (hP : va_P D vwCl ws H) (hD : va_D A0 ws) (hK : va_K D vwCl ty s) (hS : va_S A0 s.heap H locs) (hZ : pwOK A0 s s.heap)
    (isC : List Nat) (hC : isC.map (fun i => ws[i]?) = wc.map some) (hn : va_nd isC = true)
    (k0 : Nat) (hrec : wc[k0]? = some (b, .inr (ci, fs))) (hc : vwCl[ci]? = some (C, T, N)) (hls : ls.size = nL) (hst : st0 = As.reverse ++ .ref b :: rest) (hrest : (rest.map fun v => v.category).sum ≤ 8) (hdg : decode cc pc = .ok (.invokevirtual index, 3))
    (kk : ∀ (r : Int32) (H1 : Heap) (locs1 : List Loc), post r → va_P D vwCl ws H1 → va_S A0 s.heap H1 locs1 → W p l e R s m args below meth c H1 locs1 cells slots Q (F0 m (pc + 3) ls (.int r :: rest))) :
    W p l e R s m args below meth c H locs cells slots Q (F0 m pc ls st0) := by
  refine va_calli (va_runV (As := As) (rest := rest) S hM (cwV As.length S.2.2.2.2 hg rfl rfl rfl hd hR) ⟨cP_blind, va_recv hK (va_P_at hP isC hC) (ci := ci) (q0 := k0) hc hrec, cP_pre hK hZ hP hD hS isC hC hn⟩ rfl rfl hls hst (lv_room hrest) hdg hroom) hS (fun q _ h => wIn_A hD isC hC q h) (wIn_A hD isC hC) (fun r u t H1 locs1 ht hvm hw hB hz1 hk1 hS1 => ?_)
  obtain ⟨hP1, he⟩ := hB
  obtain ⟨rfl, hw⟩ := hw
  rw [ht] at hP1
  exact kk r H1 locs1 hw (my_same hP hD isC hC hk1 hP1) hS1
theorem call_Sp {post : Int32 → Prop} (S : CallFix p m c cc nL s args bw own) (hM : Mp l y (Cond.code y cb maxL (some rt) :: bw) fr lo D ty As wc post) (hg : GoodIn bw (va_wsS own index y (Cond.code y cb maxL (some rt) :: bw)))
    (hd : y.cls ≠ "java/lang/invoke/MethodHandle" ∧ y.cls ≠ "java/lang/invoke/VarHandle" ∧ (parseMethodDescriptor y.desc).map (fun d => d.parameters.length) = some As.length) (hR : fr + 1 ≤ R.frames ∧ 8 + (maxL + 11) + lo ≤ R.locals) (hroom : cells ≤ R.cells ∧ slots ≤ R.slots)
    (hP : va_P D vwCl ws H) (hD : va_D A0 ws) (hK : va_K D vwCl ty s) (hS : va_S A0 s.heap H locs) (hZ : pwOK A0 s s.heap)
    (isC : List Nat) (hC : isC.map (fun i => ws[i]?) = wc.map some) (hn : va_nd isC = true)
    (hls : ls.size = nL) (hst : st0 = As.reverse ++ rest) (hrest : (rest.map fun v => v.category).sum ≤ 8) (hdg : decode cc pc = .ok (.invokestatic index, 3))
    (kk : ∀ (r : Int32) (H1 : Heap) (locs1 : List Loc), post r → va_P D vwCl ws H1 → va_S A0 s.heap H1 locs1 → W p l e R s m args below meth c H1 locs1 cells slots Q (F0 m (pc + 3) ls (.int r :: rest))) :
    W p l e R s m args below meth c H locs cells slots Q (F0 m pc ls st0) := by
  refine va_calli (va_runS (As := As) (rest := rest) S hM (va_cwS As.length S.2.2.2.2 hg rfl rfl rfl hd hR) ⟨cP_blind, cP_pre hK hZ hP hD hS isC hC hn⟩ rfl rfl hls hst (lv_room hrest) hdg hroom) hS (fun q _ h => wIn_A hD isC hC q h) (wIn_A hD isC hC) (fun r u t H1 locs1 ht hvm hw hB hz1 hk1 hS1 => ?_)
  obtain ⟨hP1, he⟩ := hB
  obtain ⟨rfl, hw⟩ := hw
  rw [ht] at hP1
  exact kk r H1 locs1 hw (my_same hP hD isC hC hk1 hP1) hS1
/-- the static row of powers: taking it, reading it -/
theorem pw_gets (hexec : p.tables.exec = Jvm.exec) (hb : c.code = cc) (hZ : pwOK A0 s s.heap) (hS : va_S A0 s.heap H locs) (hown : s.vm.findClass RX2 = some m.cls) (hts : ∀ w ∈ bw, w.before args s = true) (hdg : decode cc pc = .ok (.getstatic 40, 3))
    (kk : ∀ t : Nat, va_T .int t 6 pwF A0 s s.heap → W p l e R s m args below meth c H locs cells slots Q (F0 m (pc + 3) ls (.ref t :: rest))) : W p l e R s m args below meth c H locs cells slots Q (F0 m pc ls rest) := by
  obtain ⟨t, h1, h2⟩ := hZ
  exact va_gets hexec hb h1 hS hown (hts _ q_fl_X2_40) (fun _ h9 => h9) hdg (kk t h2)
theorem pw_ld (hexec : p.tables.exec = Jvm.exec) (hb : c.code = cc) {t : Nat} (hT : va_T .int t 6 pwF A0 s s.heap) (hS : va_S A0 s.heap H locs) {i : Nat} (hi : i < 6) (hdg : decode cc pc = .ok (.iaload, 1))
    (kk : W p l e R s m args below meth c H locs cells slots Q (F0 m (pc + 1) ls (.int (nI (3 ^ i)) :: rest))) : W p l e R s m args below meth c H locs cells slots Q (F0 m pc ls (.int (nI i) :: .ref t :: rest)) :=
  va_ti hexec hb hT hS (vp_in_nI hi (by omega)) (v := .int (nI (3 ^ i))) (by rw [nI_clamp (by omega)]; rfl) hdg kk
end CC
section CO
variable {l : Launch} {y : MethodName} {cc : ByteArray} {n fr lo : Nat} {rt : FieldType} {D : va_G} {ty : List (ClassId × FieldType)} {av : List Value} {w : va_W}
theorem va_D_self {A : Nat → Prop} {w : va_W} (h : va_D A w) : va_D (wIn w) w := h.weaken (fun _ _ hk _ => wIn_of hk)
theorem Mi_of {post : Int32 → va_W → Prop} (hy : plainName y.cls = true) (hn : (lg_sl av).length ≤ n)
    (body : ∀ (p : Program) (e : Env) (s : State) (m : MethodId) (args : Array Value) (below : List Frame) (meth : Method) (c : Code) (Q : State → Prop) (ls : Array Slot), CallFix p m c cc n s args bw y.cls → va_P D vwCl w s.heap → va_K D vwCl ty s → va_D (wIn w) w → pwOK (wIn w) s s.heap → lv_has ls n (lv_args 0 av) →
      (∀ (v : Int32) (u : va_W) (H : Heap) (locs : List Loc) (ls' : Array Slot) (pc : Nat), decode cc pc = .ok (.ireturn, 1) → narrow rt (.int v) = .int v → post v u → (u.map (·.1)).Perm (w.map (·.1)) → va_P D vwCl u H → va_S (wIn w) s.heap H locs → W p l e (rmB fr lo) s m args below meth c H locs 0 0 Q (F0 m pc ls' [.int v])) →
      W p l e (rmB fr lo) s m args below meth c s.heap [] 0 0 Q (F0 m 0 ls [])) : Mi l y (Cond.code y cc n (some rt) :: bw) fr lo D ty av w post := by
  refine Met.ofW (cc := cc) (maxL := n) (ret := some rt) hy rfl ?_
  intro p e s m args below meth c s₁ B hml hv
  obtain ⟨rfl, hP, hK, hD0, hZ⟩ := hv
  have hts := atoms_spec (ws := Cond.code y cc n (some rt) :: bw) B.pre
  rw [lg_entry_eq]
  refine body p e s m _ below meth c _ _ ⟨B.exec, B.bytes, hml, findClass_of_methodNamed B.named, fun w h => hts w (List.mem_cons_of_mem _ h)⟩ hP hK (va_D_self hD0) hZ (lv_entry av (n := n) hn) ?_
  intro v u H locs ls' pc hdg hnr hpost hu hPu hS
  exact W.zret (v := v) B.exec B.bytes B.returns hnr (fun t ht hW => ⟨⟨v, u, rfl, hpost, by rw [ht]; exact hPu, hu⟩, hS.F ht⟩) hS.2.2 hdg B.notSynchronized
theorem Ml_of {post : Int64 → va_W → Prop} (hy : plainName y.cls = true) (hn : (lg_sl av).length ≤ n)
    (body : ∀ (p : Program) (e : Env) (s : State) (m : MethodId) (args : Array Value) (below : List Frame) (meth : Method) (c : Code) (Q : State → Prop) (ls : Array Slot), CallFix p m c cc n s args bw y.cls → va_P D vwCl w s.heap → va_K D vwCl ty s → va_D (wIn w) w → pwOK (wIn w) s s.heap → lv_has ls n (lv_args 0 av) →
      (∀ (v : Int64) (u : va_W) (H : Heap) (locs : List Loc) (ls' : Array Slot) (pc : Nat), decode cc pc = .ok (.lreturn, 1) → post v u → (u.map (·.1)).Perm (w.map (·.1)) → va_P D vwCl u H → va_S (wIn w) s.heap H locs → W p l e (rmB fr lo) s m args below meth c H locs 0 0 Q (F0 m pc ls' [.long v])) →
      W p l e (rmB fr lo) s m args below meth c s.heap [] 0 0 Q (F0 m 0 ls [])) : Ml l y (Cond.code y cc n (some .long) :: bw) fr lo D ty av w post := by
  refine Met.ofW (cc := cc) (maxL := n) (ret := some .long) hy rfl ?_
  intro p e s m args below meth c s₁ B hml hv
  obtain ⟨rfl, hP, hK, hD0, hZ⟩ := hv
  have hts := atoms_spec (ws := Cond.code y cc n (some .long) :: bw) B.pre
  rw [lg_entry_eq]
  refine body p e s m _ below meth c _ _ ⟨B.exec, B.bytes, hml, findClass_of_methodNamed B.named, fun w h => hts w (List.mem_cons_of_mem _ h)⟩ hP hK (va_D_self hD0) hZ (lv_entry av (n := n) hn) ?_
  intro v u H locs ls' pc hdg hpost hu hPu hS
  exact W.lret (v := v) B.exec B.bytes B.returns (fun t ht hW => ⟨⟨v, u, rfl, hpost, by rw [ht]; exact hPu, hu⟩, hS.F ht⟩) hS.2.2 hdg B.notSynchronized
theorem Md_of {post : UInt64 → va_W → Prop} (hy : plainName y.cls = true) (hn : (lg_sl av).length ≤ n)
    (body : ∀ (p : Program) (e : Env) (s : State) (m : MethodId) (args : Array Value) (below : List Frame) (meth : Method) (c : Code) (Q : State → Prop) (ls : Array Slot), CallFix p m c cc n s args bw y.cls → va_P D vwCl w s.heap → va_K D vwCl ty s → va_D (wIn w) w → pwOK (wIn w) s s.heap → lv_has ls n (lv_args 0 av) →
      (∀ (v : UInt64) (u : va_W) (H : Heap) (locs : List Loc) (ls' : Array Slot) (pc : Nat), decode cc pc = .ok (.dreturn, 1) → post v u → (u.map (·.1)).Perm (w.map (·.1)) → va_P D vwCl u H → va_S (wIn w) s.heap H locs → W p l e (rmB fr lo) s m args below meth c H locs 0 0 Q (F0 m pc ls' [.double v])) →
      W p l e (rmB fr lo) s m args below meth c s.heap [] 0 0 Q (F0 m 0 ls [])) : Md l y (Cond.code y cc n (some .double) :: bw) fr lo D ty av w post := by
  refine Met.ofW (cc := cc) (maxL := n) (ret := some .double) hy rfl ?_
  intro p e s m args below meth c s₁ B hml hv
  obtain ⟨rfl, hP, hK, hD0, hZ⟩ := hv
  have hts := atoms_spec (ws := Cond.code y cc n (some .double) :: bw) B.pre
  rw [lg_entry_eq]
  refine body p e s m _ below meth c _ _ ⟨B.exec, B.bytes, hml, findClass_of_methodNamed B.named, fun w h => hts w (List.mem_cons_of_mem _ h)⟩ hP hK (va_D_self hD0) hZ (lv_entry av (n := n) hn) ?_
  intro v u H locs ls' pc hdg hpost hu hPu hS
  exact W.dret (v := v) B.exec B.bytes B.returns (fun t ht hW => ⟨⟨v, u, rfl, hpost, by rw [ht]; exact hPu, hu⟩, hS.F ht⟩) hS.2.2 hdg B.notSynchronized
theorem Mv_of {post : va_W → Prop} (hy : plainName y.cls = true) (hn : (lg_sl av).length ≤ n)
    (body : ∀ (p : Program) (e : Env) (s : State) (m : MethodId) (args : Array Value) (below : List Frame) (meth : Method) (c : Code) (Q : State → Prop) (ls : Array Slot), CallFix p m c cc n s args bw y.cls → va_P D vwCl w s.heap → va_K D vwCl ty s → va_D (wIn w) w → pwOK (wIn w) s s.heap → lv_has ls n (lv_args 0 av) →
      (∀ (u : va_W) (H : Heap) (locs : List Loc) (ls' : Array Slot) (pc : Nat), decode cc pc = .ok (.return_, 1) → post u → (u.map (·.1)).Perm (w.map (·.1)) → va_P D vwCl u H → va_S (wIn w) s.heap H locs → W p l e (rmB fr lo) s m args below meth c H locs 0 0 Q (F0 m pc ls' [])) →
      W p l e (rmB fr lo) s m args below meth c s.heap [] 0 0 Q (F0 m 0 ls [])) : Mv l y (Cond.code y cc n none :: bw) fr lo D ty av w post := by
  refine Met.ofW (cc := cc) (maxL := n) (ret := none) hy rfl ?_
  intro p e s m args below meth c s₁ B hml hv
  obtain ⟨rfl, hP, hK, hD0, hZ⟩ := hv
  have hts := atoms_spec (ws := Cond.code y cc n none :: bw) B.pre
  rw [lg_entry_eq]
  refine body p e s m _ below meth c _ _ ⟨B.exec, B.bytes, hml, findClass_of_methodNamed B.named, fun w h => hts w (List.mem_cons_of_mem _ h)⟩ hP hK (va_D_self hD0) hZ (lv_entry av (n := n) hn) ?_
  intro u H locs ls' pc hdg hpost hu hPu hS
  exact W.vret B.exec B.bytes B.returns (fun t ht hW => ⟨⟨u, rfl, hpost, by rw [ht]; exact hPu, hu⟩, hS.F ht⟩) hS.2.2 hdg B.notSynchronized
end CO
end
section
/-! rows of the walk in whole numbers (nI) and truth values (bI) -/
abbrev tyL (cI cZ cJ : ClassId) : List (ClassId × FieldType) := [(cI, .int), (cZ, .boolean), (cJ, .long)]
def bI (b : Bool) : Int32 := if b then 1 else 0
def upN {α : Type} (f : Nat → α) (k : Nat) (v : α) : Nat → α := fun j => if j = k then v else f j
theorem upN_s {α : Type} (f : Nat → α) (k : Nat) (v : α) : upN f k v k = v := by simp [upN]
theorem upN_n {α : Type} (f : Nat → α) {k j : Nat} (v : α) (h : j ≠ k) : upN f k v j = f j := by simp [upN, h]
theorem nI_and (a b : Nat) : nI a &&& nI b = nI (a &&& b) := by
  apply Int32.toBitVec_inj.1
  show BitVec.ofNat 32 a &&& BitVec.ofNat 32 b = BitVec.ofNat 32 (a &&& b)
  apply BitVec.eq_of_getLsbD_eq
  intro i hi
  simp [hi]
theorem nI_or (a b : Nat) : nI a ||| nI b = nI (a ||| b) := by
  apply Int32.toBitVec_inj.1
  show BitVec.ofNat 32 a ||| BitVec.ofNat 32 b = BitVec.ofNat 32 (a ||| b)
  apply BitVec.eq_of_getLsbD_eq
  intro i hi
  simp [hi]
theorem nI_xor (a b : Nat) : nI a ^^^ nI b = nI (a ^^^ b) := by
  apply Int32.toBitVec_inj.1
  show BitVec.ofNat 32 a ^^^ BitVec.ofNat 32 b = BitVec.ofNat 32 (a ^^^ b)
  apply BitVec.eq_of_getLsbD_eq
  intro i hi
  simp [hi]
theorem nI_cnt : ∀ k, k < 32 → ((nI k &&& 31).toBitVec.smod 32).toNat = k := by decide +kernel
theorem nI_shl (a : Nat) {k : Nat} (hk : k < 32) : nI a <<< (nI k &&& 31) = nI (a * 2 ^ k) := by
  apply Int32.toBitVec_inj.mp
  apply BitVec.eq_of_toNat_eq
  rw [pk_shl _ _ k (nI_cnt k hk)]
  show (a % 2 ^ 32) * 2 ^ k % 2 ^ 32 = (a * 2 ^ k) % 2 ^ 32
  rw [Nat.mod_mul_mod]
theorem nI_shr {a k : Nat} (ha : a < 2 ^ 31) (hk : k < 32) : nI a >>> (nI k &&& 31) = nI (a / 2 ^ k) := pk_shrN ha _ k (nI_cnt k hk)
theorem bI_n (b : Bool) : bI b = nI (if b then 1 else 0) := by cases b <;> rfl
theorem bI_nar (b : Bool) : narrow .boolean (.int (bI b)) = .int (bI b) := by cases b <;> rfl
theorem nI_nar1 : narrow .boolean (.int (nI 1)) = .int (nI 1) := rfl
theorem nI_nar0 : narrow .boolean (.int (nI 0)) = .int (nI 0) := rfl
theorem bI_inj {a b : Bool} : bI a = bI b ↔ a = b := by cases a <;> cases b <;> decide
theorem bI_0 {b : Bool} : bI b = 0 ↔ b = false := by cases b <;> decide
theorem upd_nI {f : Nat → Nat} {j v : Nat} (hj : j < 2 ^ 31) : upd (fun k => nI (f k)) (nI j).toNatClampNeg (nI v) = fun k => nI (upN f j v k) := by
  rw [nI_clamp hj]
  funext k
  by_cases h : k = j <;> simp [upd, upN, h]
theorem upd_bI {f : Nat → Bool} {j : Nat} {v : Bool} (hj : j < 2 ^ 31) : upd (fun k => bI (f k)) (nI j).toNatClampNeg (bI v) = fun k => bI (upN f j v k) := by
  rw [nI_clamp hj]
  funext k
  by_cases h : k = j <;> simp [upd, upN, h]
theorem nI_le0 {x : Nat} (h : x < 2 ^ 31) : nI x ≤ 0 ↔ x = 0 := by
  rw [← nI_0, nI_leI h (by omega)]; omega
theorem nI_gt0 {x : Nat} (h : x < 2 ^ 31) : 0 < nI x ↔ 0 < x := by
  rw [← nI_0, nI_ltI (by omega) h]
theorem nI_eq0 {x : Nat} (h : x < 2 ^ 31) : nI x = 0 ↔ x = 0 := by
  rw [← nI_0, nI_eq h (by omega)]
theorem nI_lt0 {x : Nat} (h : x < 2 ^ 31) : nI x < 0 ↔ False := ⟨fun h2 => nI_pos h h2, False.elim⟩
section RW
variable {p : Program} {l : Launch} {e : Env} {R : Room} {s : State} {m : MethodId} {args : Array Value} {below : List Frame} {meth : Method} {c : Code} {H : Heap} {locs : List Loc} {cells slots : Nat} {Q : State → Prop}
variable {pc : Nat} {ls : Array Slot} {rest : List Value} {cc : ByteArray} {D : va_G} {cl : List vw_C} {A : Nat → Prop} {a : Nat} {tys : List (ClassId × FieldType)} {ws : va_W} {H0 : Heap}
theorem ia_ld (hexec : p.tables.exec = Jvm.exec) (hb : c.code = cc) (hK : va_K D cl tys s) (hP : va_P D cl ws H) (q0 t0 : Nat) {cA : ClassId} {n : Nat} {f : Nat → Nat} (ha : ws[q0]? = some (a, .inl (cA, n, .inl (fun k => nI (f k))))) (ht : tys[t0]? = some (cA, .int)) {j : Nat} (hj : j < n) (hn : n < 2 ^ 31) (hdg : decode cc pc = .ok (.iaload, 1))
    (kk : W p l e R s m args below meth c H locs cells slots Q (F0 m (pc + 1) ls (.int (nI (f j)) :: rest))) : W p l e R s m args below meth c H locs cells slots Q (F0 m pc ls (.int (nI j) :: .ref a :: rest)) := by
  refine va_iald hexec hb hK hP q0 t0 ha ht (vp_in_nI hj hn) hdg ?_
  rw [nI_clamp (by omega)]
  exact kk
theorem za_ld (hexec : p.tables.exec = Jvm.exec) (hb : c.code = cc) (hK : va_K D cl tys s) (hP : va_P D cl ws H) (q0 t0 : Nat) {cA : ClassId} {n : Nat} {f : Nat → Bool} (ha : ws[q0]? = some (a, .inl (cA, n, .inl (fun k => bI (f k))))) (ht : tys[t0]? = some (cA, .boolean)) {j : Nat} (hj : j < n) (hn : n < 2 ^ 31) (hdg : decode cc pc = .ok (.baload, 1))
    (kk : W p l e R s m args below meth c H locs cells slots Q (F0 m (pc + 1) ls (.int (bI (f j)) :: rest))) : W p l e R s m args below meth c H locs cells slots Q (F0 m pc ls (.int (nI j) :: .ref a :: rest)) := by
  refine va_zald hexec hb hK hP q0 t0 ha ht (vp_in_nI hj hn) hdg ?_
  rw [nI_clamp (by omega)]
  exact kk
theorem ia_st (hexec : p.tables.exec = Jvm.exec) (hb : c.code = cc) (hK : va_K D cl tys s) (hP : va_P D cl ws H) (hD : va_D A ws) (hS : va_S A H0 H locs) (q0 t0 : Nat) {cA : ClassId} {n : Nat} {f : Nat → Nat} (ha : ws[q0]? = some (a, .inl (cA, n, .inl (fun k => nI (f k))))) (ht : tys[t0]? = some (cA, .int)) {j v : Nat} (hj : j < n) (hn : n < 2 ^ 31) (hdg : decode cc pc = .ok (.iastore, 1))
    (kk : ∀ (H1 : Heap) (locs1 : List Loc), va_P D cl (ws.set q0 (a, .inl (cA, n, .inl (fun k => nI (upN f j v k))))) H1 → va_D A (ws.set q0 (a, .inl (cA, n, .inl (fun k => nI (upN f j v k))))) → va_S A H0 H1 locs1 → W p l e R s m args below meth c H1 locs1 cells slots Q (F0 m (pc + 1) ls rest)) : W p l e R s m args below meth c H locs cells slots Q (F0 m pc ls (.int (nI v) :: .int (nI j) :: .ref a :: rest)) := by
  refine va_iast hexec hb hK hP hD hS q0 t0 ha ht (vp_in_nI hj hn) hdg ?_
  rw [upd_nI (by omega)]
  exact kk
theorem za_st (hexec : p.tables.exec = Jvm.exec) (hb : c.code = cc) (hK : va_K D cl tys s) (hP : va_P D cl ws H) (hD : va_D A ws) (hS : va_S A H0 H locs) (q0 t0 : Nat) {cA : ClassId} {n : Nat} {f : Nat → Bool} (ha : ws[q0]? = some (a, .inl (cA, n, .inl (fun k => bI (f k))))) (ht : tys[t0]? = some (cA, .boolean)) {j : Nat} {v : Bool} (hj : j < n) (hn : n < 2 ^ 31) (hdg : decode cc pc = .ok (.bastore, 1))
    (kk : ∀ (H1 : Heap) (locs1 : List Loc), va_P D cl (ws.set q0 (a, .inl (cA, n, .inl (fun k => bI (upN f j v k))))) H1 → va_D A (ws.set q0 (a, .inl (cA, n, .inl (fun k => bI (upN f j v k))))) → va_S A H0 H1 locs1 → W p l e R s m args below meth c H1 locs1 cells slots Q (F0 m (pc + 1) ls rest)) : W p l e R s m args below meth c H locs cells slots Q (F0 m pc ls (.int (bI v) :: .int (nI j) :: .ref a :: rest)) := by
  refine va_zast hexec hb hK hP hD hS q0 t0 ha ht (vp_in_nI hj hn) hdg ?_
  rw [show vp_nar .boolean (bI v) = bI v by cases v <;> rfl, upd_bI (by omega)]
  exact kk
theorem icN_lt (hexec : p.tables.exec = Jvm.exec) (hb : c.code = cc) {u v : Nat} {off : Int} {tgt : Nat} (hdg : decode cc pc = .ok (.if_icmp .lt off, 3)) (ht : (pc : Int) + off = (tgt : Int)) (hu : u < 2 ^ 31) (hv : v < 2 ^ 31)
    (kt : u < v → W p l e R s m args below meth c H locs cells slots Q (F0 m tgt ls rest)) (kf : v ≤ u → W p l e R s m args below meth c H locs cells slots Q (F0 m (pc + 3) ls rest)) : W p l e R s m args below meth c H locs cells slots Q (F0 m pc ls (.int (nI v) :: .int (nI u) :: rest)) :=
  lv_icmp_lt hexec hb hdg ht (fun h => kt ((nI_ltI hu hv).mp h)) (fun h => kf (Nat.not_lt.mp (fun q => h ((nI_ltI hu hv).mpr q))))
theorem icN_ge (hexec : p.tables.exec = Jvm.exec) (hb : c.code = cc) {u v : Nat} {off : Int} {tgt : Nat} (hdg : decode cc pc = .ok (.if_icmp .ge off, 3)) (ht : (pc : Int) + off = (tgt : Int)) (hu : u < 2 ^ 31) (hv : v < 2 ^ 31)
    (kt : v ≤ u → W p l e R s m args below meth c H locs cells slots Q (F0 m tgt ls rest)) (kf : u < v → W p l e R s m args below meth c H locs cells slots Q (F0 m (pc + 3) ls rest)) : W p l e R s m args below meth c H locs cells slots Q (F0 m pc ls (.int (nI v) :: .int (nI u) :: rest)) :=
  lv_icmp_ge hexec hb hdg ht (fun h => kt ((nI_leI hv hu).mp h)) (fun h => kf (Nat.not_le.mp (fun q => h ((nI_leI hv hu).mpr q))))
theorem icN_gt (hexec : p.tables.exec = Jvm.exec) (hb : c.code = cc) {u v : Nat} {off : Int} {tgt : Nat} (hdg : decode cc pc = .ok (.if_icmp .gt off, 3)) (ht : (pc : Int) + off = (tgt : Int)) (hu : u < 2 ^ 31) (hv : v < 2 ^ 31)
    (kt : v < u → W p l e R s m args below meth c H locs cells slots Q (F0 m tgt ls rest)) (kf : u ≤ v → W p l e R s m args below meth c H locs cells slots Q (F0 m (pc + 3) ls rest)) : W p l e R s m args below meth c H locs cells slots Q (F0 m pc ls (.int (nI v) :: .int (nI u) :: rest)) :=
  lv_icmp_gt hexec hb hdg ht (fun h => kt ((nI_ltI hv hu).mp h)) (fun h => kf (Nat.not_lt.mp (fun q => h ((nI_ltI hv hu).mpr q))))
theorem icN_le (hexec : p.tables.exec = Jvm.exec) (hb : c.code = cc) {u v : Nat} {off : Int} {tgt : Nat} (hdg : decode cc pc = .ok (.if_icmp .le off, 3)) (ht : (pc : Int) + off = (tgt : Int)) (hu : u < 2 ^ 31) (hv : v < 2 ^ 31)
    (kt : u ≤ v → W p l e R s m args below meth c H locs cells slots Q (F0 m tgt ls rest)) (kf : v < u → W p l e R s m args below meth c H locs cells slots Q (F0 m (pc + 3) ls rest)) : W p l e R s m args below meth c H locs cells slots Q (F0 m pc ls (.int (nI v) :: .int (nI u) :: rest)) :=
  lv_icmp_le hexec hb hdg ht (fun h => kt ((nI_leI hu hv).mp h)) (fun h => kf (Nat.not_le.mp (fun q => h ((nI_leI hu hv).mpr q))))
theorem icN_eq (hexec : p.tables.exec = Jvm.exec) (hb : c.code = cc) {u v : Nat} {off : Int} {tgt : Nat} (hdg : decode cc pc = .ok (.if_icmp .eq off, 3)) (ht : (pc : Int) + off = (tgt : Int)) (hu : u < 2 ^ 31) (hv : v < 2 ^ 31)
    (kt : u = v → W p l e R s m args below meth c H locs cells slots Q (F0 m tgt ls rest)) (kf : u ≠ v → W p l e R s m args below meth c H locs cells slots Q (F0 m (pc + 3) ls rest)) : W p l e R s m args below meth c H locs cells slots Q (F0 m pc ls (.int (nI v) :: .int (nI u) :: rest)) :=
  lv_icmp_eq hexec hb hdg ht (fun h => kt ((nI_eq hu hv).mp h)) (fun h => kf (fun q => h ((nI_eq hu hv).mpr q)))
theorem icN_ne (hexec : p.tables.exec = Jvm.exec) (hb : c.code = cc) {u v : Nat} {off : Int} {tgt : Nat} (hdg : decode cc pc = .ok (.if_icmp .ne off, 3)) (ht : (pc : Int) + off = (tgt : Int)) (hu : u < 2 ^ 31) (hv : v < 2 ^ 31)
    (kt : u ≠ v → W p l e R s m args below meth c H locs cells slots Q (F0 m tgt ls rest)) (kf : u = v → W p l e R s m args below meth c H locs cells slots Q (F0 m (pc + 3) ls rest)) : W p l e R s m args below meth c H locs cells slots Q (F0 m pc ls (.int (nI v) :: .int (nI u) :: rest)) :=
  lv_icmp_ne hexec hb hdg ht (fun h => kt (fun q => h ((nI_eq hu hv).mpr q))) (fun h => kf ((nI_eq hu hv).mp h))
theorem ifN_eq (hexec : p.tables.exec = Jvm.exec) (hb : c.code = cc) {u : Nat} {off : Int} {tgt : Nat} (hdg : decode cc pc = .ok (.ifCond .eq off, 3)) (ht : (pc : Int) + off = (tgt : Int)) (hu : u < 2 ^ 31)
    (kt : u = 0 → W p l e R s m args below meth c H locs cells slots Q (F0 m tgt ls rest)) (kf : u ≠ 0 → W p l e R s m args below meth c H locs cells slots Q (F0 m (pc + 3) ls rest)) : W p l e R s m args below meth c H locs cells slots Q (F0 m pc ls (.int (nI u) :: rest)) :=
  lv_if_eq hexec hb hdg ht (fun h => kt ((nI_eq0 hu).mp h)) (fun h => kf (fun q => h ((nI_eq0 hu).mpr q)))
theorem ifN_ne (hexec : p.tables.exec = Jvm.exec) (hb : c.code = cc) {u : Nat} {off : Int} {tgt : Nat} (hdg : decode cc pc = .ok (.ifCond .ne off, 3)) (ht : (pc : Int) + off = (tgt : Int)) (hu : u < 2 ^ 31)
    (kt : u ≠ 0 → W p l e R s m args below meth c H locs cells slots Q (F0 m tgt ls rest)) (kf : u = 0 → W p l e R s m args below meth c H locs cells slots Q (F0 m (pc + 3) ls rest)) : W p l e R s m args below meth c H locs cells slots Q (F0 m pc ls (.int (nI u) :: rest)) :=
  lv_if_ne hexec hb hdg ht (fun h => kt (fun q => h ((nI_eq0 hu).mpr q))) (fun h => kf ((nI_eq0 hu).mp h))
theorem ifN_lt (hexec : p.tables.exec = Jvm.exec) (hb : c.code = cc) {u : Nat} {off : Int} {tgt : Nat} (hdg : decode cc pc = .ok (.ifCond .lt off, 3)) (ht : (pc : Int) + off = (tgt : Int)) (hu : u < 2 ^ 31)
    (kt : False → W p l e R s m args below meth c H locs cells slots Q (F0 m tgt ls rest)) (kf : True → W p l e R s m args below meth c H locs cells slots Q (F0 m (pc + 3) ls rest)) : W p l e R s m args below meth c H locs cells slots Q (F0 m pc ls (.int (nI u) :: rest)) :=
  lv_if_lt hexec hb hdg ht (fun h => kt ((nI_lt0 hu).mp h)) (fun h => kf trivial)
theorem ifN_ge (hexec : p.tables.exec = Jvm.exec) (hb : c.code = cc) {u : Nat} {off : Int} {tgt : Nat} (hdg : decode cc pc = .ok (.ifCond .ge off, 3)) (ht : (pc : Int) + off = (tgt : Int)) (hu : u < 2 ^ 31)
    (kt : True → W p l e R s m args below meth c H locs cells slots Q (F0 m tgt ls rest)) (kf : False → W p l e R s m args below meth c H locs cells slots Q (F0 m (pc + 3) ls rest)) : W p l e R s m args below meth c H locs cells slots Q (F0 m pc ls (.int (nI u) :: rest)) :=
  lv_if_ge hexec hb hdg ht (fun h => kt trivial) (fun h => kf (h (nI_pos' hu)))
theorem ifN_le (hexec : p.tables.exec = Jvm.exec) (hb : c.code = cc) {u : Nat} {off : Int} {tgt : Nat} (hdg : decode cc pc = .ok (.ifCond .le off, 3)) (ht : (pc : Int) + off = (tgt : Int)) (hu : u < 2 ^ 31)
    (kt : u = 0 → W p l e R s m args below meth c H locs cells slots Q (F0 m tgt ls rest)) (kf : 0 < u → W p l e R s m args below meth c H locs cells slots Q (F0 m (pc + 3) ls rest)) : W p l e R s m args below meth c H locs cells slots Q (F0 m pc ls (.int (nI u) :: rest)) :=
  lv_if_le hexec hb hdg ht (fun h => kt ((nI_le0 hu).mp h)) (fun h => kf (Nat.pos_of_ne_zero (fun q => h ((nI_le0 hu).mpr q))))
theorem ifN_gt (hexec : p.tables.exec = Jvm.exec) (hb : c.code = cc) {u : Nat} {off : Int} {tgt : Nat} (hdg : decode cc pc = .ok (.ifCond .gt off, 3)) (ht : (pc : Int) + off = (tgt : Int)) (hu : u < 2 ^ 31)
    (kt : 0 < u → W p l e R s m args below meth c H locs cells slots Q (F0 m tgt ls rest)) (kf : u = 0 → W p l e R s m args below meth c H locs cells slots Q (F0 m (pc + 3) ls rest)) : W p l e R s m args below meth c H locs cells slots Q (F0 m pc ls (.int (nI u) :: rest)) :=
  lv_if_gt hexec hb hdg ht (fun h => kt ((nI_gt0 hu).mp h)) (fun h => kf (Nat.le_zero.mp (Nat.not_lt.mp (fun q => h ((nI_gt0 hu).mpr q)))))
theorem ifB_eq (hexec : p.tables.exec = Jvm.exec) (hb : c.code = cc) {v : Bool} {off : Int} {tgt : Nat} (hdg : decode cc pc = .ok (.ifCond .eq off, 3)) (ht : (pc : Int) + off = (tgt : Int))
    (kt : v = false → W p l e R s m args below meth c H locs cells slots Q (F0 m tgt ls rest)) (kf : v = true → W p l e R s m args below meth c H locs cells slots Q (F0 m (pc + 3) ls rest)) : W p l e R s m args below meth c H locs cells slots Q (F0 m pc ls (.int (bI v) :: rest)) :=
  lv_if_eq hexec hb hdg ht (fun h => kt (bI_0.mp h)) (fun h => kf (by cases hv : v with | true => rfl | false => exact absurd (bI_0.mpr hv) h))
theorem ifB_ne (hexec : p.tables.exec = Jvm.exec) (hb : c.code = cc) {v : Bool} {off : Int} {tgt : Nat} (hdg : decode cc pc = .ok (.ifCond .ne off, 3)) (ht : (pc : Int) + off = (tgt : Int))
    (kt : v = true → W p l e R s m args below meth c H locs cells slots Q (F0 m tgt ls rest)) (kf : v = false → W p l e R s m args below meth c H locs cells slots Q (F0 m (pc + 3) ls rest)) : W p l e R s m args below meth c H locs cells slots Q (F0 m pc ls (.int (bI v) :: rest)) :=
  lv_if_ne hexec hb hdg ht (fun h => kt (by cases hv : v with | true => rfl | false => exact absurd (bI_0.mpr hv) h)) (fun h => kf (bI_0.mp h))
theorem icB_eq (hexec : p.tables.exec = Jvm.exec) (hb : c.code = cc) {u v : Bool} {off : Int} {tgt : Nat} (hdg : decode cc pc = .ok (.if_icmp .eq off, 3)) (ht : (pc : Int) + off = (tgt : Int))
    (kt : u = v → W p l e R s m args below meth c H locs cells slots Q (F0 m tgt ls rest)) (kf : u ≠ v → W p l e R s m args below meth c H locs cells slots Q (F0 m (pc + 3) ls rest)) : W p l e R s m args below meth c H locs cells slots Q (F0 m pc ls (.int (bI v) :: .int (bI u) :: rest)) :=
  lv_icmp_eq hexec hb hdg ht (fun h => kt (bI_inj.mp h)) (fun h => kf (fun q => h (bI_inj.mpr q)))
theorem icB_ne (hexec : p.tables.exec = Jvm.exec) (hb : c.code = cc) {u v : Bool} {off : Int} {tgt : Nat} (hdg : decode cc pc = .ok (.if_icmp .ne off, 3)) (ht : (pc : Int) + off = (tgt : Int))
    (kt : u ≠ v → W p l e R s m args below meth c H locs cells slots Q (F0 m tgt ls rest)) (kf : u = v → W p l e R s m args below meth c H locs cells slots Q (F0 m (pc + 3) ls rest)) : W p l e R s m args below meth c H locs cells slots Q (F0 m pc ls (.int (bI v) :: .int (bI u) :: rest)) :=
  lv_icmp_ne hexec hb hdg ht (fun h => kt (fun q => h (bI_inj.mpr q))) (fun h => kf (bI_inj.mp h))
end RW
theorem hd_X0_add : yX0_add.cls = RX0 ∧ yX0_add.cls ≠ "java/lang/invoke/MethodHandle" ∧ yX0_add.cls ≠ "java/lang/invoke/VarHandle" ∧ (parseMethodDescriptor yX0_add.desc).map (fun d => d.parameters.length) = some 1 := by decide +kernel
theorem hd_X1_begin : yX1_begin.cls = RX1 ∧ yX1_begin.cls ≠ "java/lang/invoke/MethodHandle" ∧ yX1_begin.cls ≠ "java/lang/invoke/VarHandle" ∧ (parseMethodDescriptor yX1_begin.desc).map (fun d => d.parameters.length) = some 0 := by decide +kernel
theorem hd_X0_clear : yX0_clear.cls = RX0 ∧ yX0_clear.cls ≠ "java/lang/invoke/MethodHandle" ∧ yX0_clear.cls ≠ "java/lang/invoke/VarHandle" ∧ (parseMethodDescriptor yX0_clear.desc).map (fun d => d.parameters.length) = some 0 := by decide +kernel
theorem hd_X1_openColoursOf : yX1_openColoursOf.cls = RX1 ∧ yX1_openColoursOf.cls ≠ "java/lang/invoke/MethodHandle" ∧ yX1_openColoursOf.cls ≠ "java/lang/invoke/VarHandle" ∧ (parseMethodDescriptor yX1_openColoursOf.desc).map (fun d => d.parameters.length) = some 1 := by decide +kernel
theorem hd_X0_count : yX0_count.cls = RX0 ∧ yX0_count.cls ≠ "java/lang/invoke/MethodHandle" ∧ yX0_count.cls ≠ "java/lang/invoke/VarHandle" ∧ (parseMethodDescriptor yX0_count.desc).map (fun d => d.parameters.length) = some 0 := by decide +kernel
theorem hd_X0_at : yX0_at.cls = RX0 ∧ yX0_at.cls ≠ "java/lang/invoke/MethodHandle" ∧ yX0_at.cls ≠ "java/lang/invoke/VarHandle" ∧ (parseMethodDescriptor yX0_at.desc).map (fun d => d.parameters.length) = some 1 := by decide +kernel
theorem hd_X1_shiftOf : yX1_shiftOf.cls ≠ "java/lang/invoke/MethodHandle" ∧ yX1_shiftOf.cls ≠ "java/lang/invoke/VarHandle" ∧ (parseMethodDescriptor yX1_shiftOf.desc).map (fun d => d.parameters.length) = some 1 := by decide +kernel
theorem hd_X1_players : yX1_players.cls = RX1 ∧ yX1_players.cls ≠ "java/lang/invoke/MethodHandle" ∧ yX1_players.cls ≠ "java/lang/invoke/VarHandle" ∧ (parseMethodDescriptor yX1_players.desc).map (fun d => d.parameters.length) = some 0 := by decide +kernel
theorem hd_X1_turnsTaken : yX1_turnsTaken.cls = RX1 ∧ yX1_turnsTaken.cls ≠ "java/lang/invoke/MethodHandle" ∧ yX1_turnsTaken.cls ≠ "java/lang/invoke/VarHandle" ∧ (parseMethodDescriptor yX1_turnsTaken.desc).map (fun d => d.parameters.length) = some 0 := by decide +kernel
theorem hd_X1_silentTurns : yX1_silentTurns.cls = RX1 ∧ yX1_silentTurns.cls ≠ "java/lang/invoke/MethodHandle" ∧ yX1_silentTurns.cls ≠ "java/lang/invoke/VarHandle" ∧ (parseMethodDescriptor yX1_silentTurns.desc).map (fun d => d.parameters.length) = some 0 := by decide +kernel
theorem hd_X1_playerInTurn : yX1_playerInTurn.cls = RX1 ∧ yX1_playerInTurn.cls ≠ "java/lang/invoke/MethodHandle" ∧ yX1_playerInTurn.cls ≠ "java/lang/invoke/VarHandle" ∧ (parseMethodDescriptor yX1_playerInTurn.desc).map (fun d => d.parameters.length) = some 0 := by decide +kernel
theorem hd_X1_openWays : yX1_openWays.cls = RX1 ∧ yX1_openWays.cls ≠ "java/lang/invoke/MethodHandle" ∧ yX1_openWays.cls ≠ "java/lang/invoke/VarHandle" ∧ (parseMethodDescriptor yX1_openWays.desc).map (fun d => d.parameters.length) = some 0 := by decide +kernel
theorem hd_X1_certainPlayers : yX1_certainPlayers.cls = RX1 ∧ yX1_certainPlayers.cls ≠ "java/lang/invoke/MethodHandle" ∧ yX1_certainPlayers.cls ≠ "java/lang/invoke/VarHandle" ∧ (parseMethodDescriptor yX1_certainPlayers.desc).map (fun d => d.parameters.length) = some 0 := by decide +kernel
theorem hd_X1_countCertain : yX1_countCertain.cls = RX1 ∧ yX1_countCertain.cls ≠ "java/lang/invoke/MethodHandle" ∧ yX1_countCertain.cls ≠ "java/lang/invoke/VarHandle" ∧ (parseMethodDescriptor yX1_countCertain.desc).map (fun d => d.parameters.length) = some 1 := by decide +kernel
theorem hd_X1_isCertainBy : yX1_isCertainBy.cls = RX1 ∧ yX1_isCertainBy.cls ≠ "java/lang/invoke/MethodHandle" ∧ yX1_isCertainBy.cls ≠ "java/lang/invoke/VarHandle" ∧ (parseMethodDescriptor yX1_isCertainBy.desc).map (fun d => d.parameters.length) = some 2 := by decide +kernel
theorem hd_X1_possibleColours : yX1_possibleColours.cls = RX1 ∧ yX1_possibleColours.cls ≠ "java/lang/invoke/MethodHandle" ∧ yX1_possibleColours.cls ≠ "java/lang/invoke/VarHandle" ∧ (parseMethodDescriptor yX1_possibleColours.desc).map (fun d => d.parameters.length) = some 3 := by decide +kernel
theorem hd_X1_seenHatsOf : yX1_seenHatsOf.cls = RX1 ∧ yX1_seenHatsOf.cls ≠ "java/lang/invoke/MethodHandle" ∧ yX1_seenHatsOf.cls ≠ "java/lang/invoke/VarHandle" ∧ (parseMethodDescriptor yX1_seenHatsOf.desc).map (fun d => d.parameters.length) = some 1 := by decide +kernel
theorem hd_X1_agreesWithNow : yX1_agreesWithNow.cls = RX1 ∧ yX1_agreesWithNow.cls ≠ "java/lang/invoke/MethodHandle" ∧ yX1_agreesWithNow.cls ≠ "java/lang/invoke/VarHandle" ∧ (parseMethodDescriptor yX1_agreesWithNow.desc).map (fun d => d.parameters.length) = some 2 := by decide +kernel
theorem hd_X1_colourIn : yX1_colourIn.cls ≠ "java/lang/invoke/MethodHandle" ∧ yX1_colourIn.cls ≠ "java/lang/invoke/VarHandle" ∧ (parseMethodDescriptor yX1_colourIn.desc).map (fun d => d.parameters.length) = some 2 := by decide +kernel
theorem hd_X1_isOneColour : yX1_isOneColour.cls ≠ "java/lang/invoke/MethodHandle" ∧ yX1_isOneColour.cls ≠ "java/lang/invoke/VarHandle" ∧ (parseMethodDescriptor yX1_isOneColour.desc).map (fun d => d.parameters.length) = some 1 := by decide +kernel
theorem hd_J6_bitCount_0f7a4 : yJ6_bitCount_0f7a4.cls ≠ "java/lang/invoke/MethodHandle" ∧ yJ6_bitCount_0f7a4.cls ≠ "java/lang/invoke/VarHandle" ∧ (parseMethodDescriptor yJ6_bitCount_0f7a4.desc).map (fun d => d.parameters.length) = some 1 := by decide +kernel
theorem hd_X1_turnsUntilAllCertain : yX1_turnsUntilAllCertain.cls = RX1 ∧ yX1_turnsUntilAllCertain.cls ≠ "java/lang/invoke/MethodHandle" ∧ yX1_turnsUntilAllCertain.cls ≠ "java/lang/invoke/VarHandle" ∧ (parseMethodDescriptor yX1_turnsUntilAllCertain.desc).map (fun d => d.parameters.length) = some 0 := by decide +kernel
theorem hd_X1_turnsUntilCertainFrom : yX1_turnsUntilCertainFrom.cls = RX1 ∧ yX1_turnsUntilCertainFrom.cls ≠ "java/lang/invoke/MethodHandle" ∧ yX1_turnsUntilCertainFrom.cls ≠ "java/lang/invoke/VarHandle" ∧ (parseMethodDescriptor yX1_turnsUntilCertainFrom.desc).map (fun d => d.parameters.length) = some 2 := by decide +kernel
theorem hd_X0_copyFrom : yX0_copyFrom.cls = RX0 ∧ yX0_copyFrom.cls ≠ "java/lang/invoke/MethodHandle" ∧ yX0_copyFrom.cls ≠ "java/lang/invoke/VarHandle" ∧ (parseMethodDescriptor yX0_copyFrom.desc).map (fun d => d.parameters.length) = some 1 := by decide +kernel
theorem hd_X1_areCertainBy : yX1_areCertainBy.cls = RX1 ∧ yX1_areCertainBy.cls ≠ "java/lang/invoke/MethodHandle" ∧ yX1_areCertainBy.cls ≠ "java/lang/invoke/VarHandle" ∧ (parseMethodDescriptor yX1_areCertainBy.desc).map (fun d => d.parameters.length) = some 3 := by decide +kernel
theorem hd_X1_passTurn : yX1_passTurn.cls = RX1 ∧ yX1_passTurn.cls ≠ "java/lang/invoke/MethodHandle" ∧ yX1_passTurn.cls ≠ "java/lang/invoke/VarHandle" ∧ (parseMethodDescriptor yX1_passTurn.desc).map (fun d => d.parameters.length) = some 2 := by decide +kernel
theorem hd_X1_keepByCertainty : yX1_keepByCertainty.cls = RX1 ∧ yX1_keepByCertainty.cls ≠ "java/lang/invoke/MethodHandle" ∧ yX1_keepByCertainty.cls ≠ "java/lang/invoke/VarHandle" ∧ (parseMethodDescriptor yX1_keepByCertainty.desc).map (fun d => d.parameters.length) = some 3 := by decide +kernel
theorem hd_X1_noteOwnColours : yX1_noteOwnColours.cls = RX1 ∧ yX1_noteOwnColours.cls ≠ "java/lang/invoke/MethodHandle" ∧ yX1_noteOwnColours.cls ≠ "java/lang/invoke/VarHandle" ∧ (parseMethodDescriptor yX1_noteOwnColours.desc).map (fun d => d.parameters.length) = some 2 := by decide +kernel
theorem hd_X1_viewOf : yX1_viewOf.cls = RX1 ∧ yX1_viewOf.cls ≠ "java/lang/invoke/MethodHandle" ∧ yX1_viewOf.cls ≠ "java/lang/invoke/VarHandle" ∧ (parseMethodDescriptor yX1_viewOf.desc).map (fun d => d.parameters.length) = some 2 := by decide +kernel
theorem hd_X1_setOwnColours : yX1_setOwnColours.cls = RX1 ∧ yX1_setOwnColours.cls ≠ "java/lang/invoke/MethodHandle" ∧ yX1_setOwnColours.cls ≠ "java/lang/invoke/VarHandle" ∧ (parseMethodDescriptor yX1_setOwnColours.desc).map (fun d => d.parameters.length) = some 2 := by decide +kernel
theorem hd_X1_ownColours : yX1_ownColours.cls = RX1 ∧ yX1_ownColours.cls ≠ "java/lang/invoke/MethodHandle" ∧ yX1_ownColours.cls ≠ "java/lang/invoke/VarHandle" ∧ (parseMethodDescriptor yX1_ownColours.desc).map (fun d => d.parameters.length) = some 1 := by decide +kernel
theorem hd_X1_wouldBeCertain : yX1_wouldBeCertain.cls = RX1 ∧ yX1_wouldBeCertain.cls ≠ "java/lang/invoke/MethodHandle" ∧ yX1_wouldBeCertain.cls ≠ "java/lang/invoke/VarHandle" ∧ (parseMethodDescriptor yX1_wouldBeCertain.desc).map (fun d => d.parameters.length) = some 2 := by decide +kernel
theorem hd_X1_keepWithHat : yX1_keepWithHat.cls ≠ "java/lang/invoke/MethodHandle" ∧ yX1_keepWithHat.cls ≠ "java/lang/invoke/VarHandle" ∧ (parseMethodDescriptor yX1_keepWithHat.desc).map (fun d => d.parameters.length) = some 3 := by decide +kernel
theorem hd_X1_playerAfter : yX1_playerAfter.cls = RX1 ∧ yX1_playerAfter.cls ≠ "java/lang/invoke/MethodHandle" ∧ yX1_playerAfter.cls ≠ "java/lang/invoke/VarHandle" ∧ (parseMethodDescriptor yX1_playerAfter.desc).map (fun d => d.parameters.length) = some 1 := by decide +kernel
theorem hd_X1_bestToName : yX1_bestToName.cls = RX1 ∧ yX1_bestToName.cls ≠ "java/lang/invoke/MethodHandle" ∧ yX1_bestToName.cls ≠ "java/lang/invoke/VarHandle" ∧ (parseMethodDescriptor yX1_bestToName.desc).map (fun d => d.parameters.length) = some 0 := by decide +kernel
theorem hd_X1_countNaming : yX1_countNaming.cls = RX1 ∧ yX1_countNaming.cls ≠ "java/lang/invoke/MethodHandle" ∧ yX1_countNaming.cls ≠ "java/lang/invoke/VarHandle" ∧ (parseMethodDescriptor yX1_countNaming.desc).map (fun d => d.parameters.length) = some 1 := by decide +kernel
theorem hd_X1_hatsIn : yX1_hatsIn.cls = RX1 ∧ yX1_hatsIn.cls ≠ "java/lang/invoke/MethodHandle" ∧ yX1_hatsIn.cls ≠ "java/lang/invoke/VarHandle" ∧ (parseMethodDescriptor yX1_hatsIn.desc).map (fun d => d.parameters.length) = some 2 := by decide +kernel
theorem hd_X1_meanPossible : yX1_meanPossible.cls = RX1 ∧ yX1_meanPossible.cls ≠ "java/lang/invoke/MethodHandle" ∧ yX1_meanPossible.cls ≠ "java/lang/invoke/VarHandle" ∧ (parseMethodDescriptor yX1_meanPossible.desc).map (fun d => d.parameters.length) = some 0 := by decide +kernel
theorem hd_X1_countPossible : yX1_countPossible.cls = RX1 ∧ yX1_countPossible.cls ≠ "java/lang/invoke/MethodHandle" ∧ yX1_countPossible.cls ≠ "java/lang/invoke/VarHandle" ∧ (parseMethodDescriptor yX1_countPossible.desc).map (fun d => d.parameters.length) = some 1 := by decide +kernel
theorem hd_X1_digest : yX1_digest.cls = RX1 ∧ yX1_digest.cls ≠ "java/lang/invoke/MethodHandle" ∧ yX1_digest.cls ≠ "java/lang/invoke/VarHandle" ∧ (parseMethodDescriptor yX1_digest.desc).map (fun d => d.parameters.length) = some 0 := by decide +kernel
theorem hd_X1_digested : yX1_digested.cls ≠ "java/lang/invoke/MethodHandle" ∧ yX1_digested.cls ≠ "java/lang/invoke/VarHandle" ∧ (parseMethodDescriptor yX1_digested.desc).map (fun d => d.parameters.length) = some 2 := by decide +kernel
theorem hd_X1_openAfterTurn : yX1_openAfterTurn.cls = RX1 ∧ yX1_openAfterTurn.cls ≠ "java/lang/invoke/MethodHandle" ∧ yX1_openAfterTurn.cls ≠ "java/lang/invoke/VarHandle" ∧ (parseMethodDescriptor yX1_openAfterTurn.desc).map (fun d => d.parameters.length) = some 0 := by decide +kernel
theorem hd_X1_requireSomePlayer : yX1_requireSomePlayer.cls = RX1 ∧ yX1_requireSomePlayer.cls ≠ "java/lang/invoke/MethodHandle" ∧ yX1_requireSomePlayer.cls ≠ "java/lang/invoke/VarHandle" ∧ (parseMethodDescriptor yX1_requireSomePlayer.desc).map (fun d => d.parameters.length) = some 0 := by decide +kernel
theorem hd_X1_digestedPlayer : yX1_digestedPlayer.cls = RX1 ∧ yX1_digestedPlayer.cls ≠ "java/lang/invoke/MethodHandle" ∧ yX1_digestedPlayer.cls ≠ "java/lang/invoke/VarHandle" ∧ (parseMethodDescriptor yX1_digestedPlayer.desc).map (fun d => d.parameters.length) = some 2 := by decide +kernel
theorem hd_X1_hatOf : yX1_hatOf.cls = RX1 ∧ yX1_hatOf.cls ≠ "java/lang/invoke/MethodHandle" ∧ yX1_hatOf.cls ≠ "java/lang/invoke/VarHandle" ∧ (parseMethodDescriptor yX1_hatOf.desc).map (fun d => d.parameters.length) = some 1 := by decide +kernel
theorem hd_X1_requirePlayer : yX1_requirePlayer.cls = RX1 ∧ yX1_requirePlayer.cls ≠ "java/lang/invoke/MethodHandle" ∧ yX1_requirePlayer.cls ≠ "java/lang/invoke/VarHandle" ∧ (parseMethodDescriptor yX1_requirePlayer.desc).map (fun d => d.parameters.length) = some 1 := by decide +kernel
theorem hd_X1_possibleWays : yX1_possibleWays.cls = RX1 ∧ yX1_possibleWays.cls ≠ "java/lang/invoke/MethodHandle" ∧ yX1_possibleWays.cls ≠ "java/lang/invoke/VarHandle" ∧ (parseMethodDescriptor yX1_possibleWays.desc).map (fun d => d.parameters.length) = some 1 := by decide +kernel
theorem hd_X1_isCertain : yX1_isCertain.cls = RX1 ∧ yX1_isCertain.cls ≠ "java/lang/invoke/MethodHandle" ∧ yX1_isCertain.cls ≠ "java/lang/invoke/VarHandle" ∧ (parseMethodDescriptor yX1_isCertain.desc).map (fun d => d.parameters.length) = some 1 := by decide +kernel
theorem hd_X1_digested_ : yX1_digested_.cls ≠ "java/lang/invoke/MethodHandle" ∧ yX1_digested_.cls ≠ "java/lang/invoke/VarHandle" ∧ (parseMethodDescriptor yX1_digested_.desc).map (fun d => d.parameters.length) = some 2 := by decide +kernel
theorem hd_X1_isKnownToAll : yX1_isKnownToAll.cls = RX1 ∧ yX1_isKnownToAll.cls ≠ "java/lang/invoke/MethodHandle" ∧ yX1_isKnownToAll.cls ≠ "java/lang/invoke/VarHandle" ∧ (parseMethodDescriptor yX1_isKnownToAll.desc).map (fun d => d.parameters.length) = some 1 := by decide +kernel
theorem hd_X1_countWithHat : yX1_countWithHat.cls = RX1 ∧ yX1_countWithHat.cls ≠ "java/lang/invoke/MethodHandle" ∧ yX1_countWithHat.cls ≠ "java/lang/invoke/VarHandle" ∧ (parseMethodDescriptor yX1_countWithHat.desc).map (fun d => d.parameters.length) = some 2 := by decide +kernel
theorem hd_X1_certainIfTold : yX1_certainIfTold.cls = RX1 ∧ yX1_certainIfTold.cls ≠ "java/lang/invoke/MethodHandle" ∧ yX1_certainIfTold.cls ≠ "java/lang/invoke/VarHandle" ∧ (parseMethodDescriptor yX1_certainIfTold.desc).map (fun d => d.parameters.length) = some 1 := by decide +kernel
theorem hd_X1_sees : yX1_sees.cls = RX1 ∧ yX1_sees.cls ≠ "java/lang/invoke/MethodHandle" ∧ yX1_sees.cls ≠ "java/lang/invoke/VarHandle" ∧ (parseMethodDescriptor yX1_sees.desc).map (fun d => d.parameters.length) = some 2 := by decide +kernel
theorem hd_X1_seesHat : yX1_seesHat.cls = RX1 ∧ yX1_seesHat.cls ≠ "java/lang/invoke/MethodHandle" ∧ yX1_seesHat.cls ≠ "java/lang/invoke/VarHandle" ∧ (parseMethodDescriptor yX1_seesHat.desc).map (fun d => d.parameters.length) = some 2 := by decide +kernel
theorem hd_X1_hatMask : yX1_hatMask.cls ≠ "java/lang/invoke/MethodHandle" ∧ yX1_hatMask.cls ≠ "java/lang/invoke/VarHandle" ∧ (parseMethodDescriptor yX1_hatMask.desc).map (fun d => d.parameters.length) = some 1 := by decide +kernel
theorem hd_X1_knowsHatOf : yX1_knowsHatOf.cls = RX1 ∧ yX1_knowsHatOf.cls ≠ "java/lang/invoke/MethodHandle" ∧ yX1_knowsHatOf.cls ≠ "java/lang/invoke/VarHandle" ∧ (parseMethodDescriptor yX1_knowsHatOf.desc).map (fun d => d.parameters.length) = some 2 := by decide +kernel
theorem hd_X1_knowsCertain : yX1_knowsCertain.cls = RX1 ∧ yX1_knowsCertain.cls ≠ "java/lang/invoke/MethodHandle" ∧ yX1_knowsCertain.cls ≠ "java/lang/invoke/VarHandle" ∧ (parseMethodDescriptor yX1_knowsCertain.desc).map (fun d => d.parameters.length) = some 2 := by decide +kernel
theorem hd_L_addPlayer : yL_addPlayer.cls ≠ "java/lang/invoke/MethodHandle" ∧ yL_addPlayer.cls ≠ "java/lang/invoke/VarHandle" ∧ (parseMethodDescriptor yL_addPlayer.desc).map (fun d => d.parameters.length) = some 3 := by decide +kernel
theorem hd_X1_addPlayer : yX1_addPlayer.cls = RX1 ∧ yX1_addPlayer.cls ≠ "java/lang/invoke/MethodHandle" ∧ yX1_addPlayer.cls ≠ "java/lang/invoke/VarHandle" ∧ (parseMethodDescriptor yX1_addPlayer.desc).map (fun d => d.parameters.length) = some 1 := by decide +kernel
theorem hd_X1_requireColour : yX1_requireColour.cls ≠ "java/lang/invoke/MethodHandle" ∧ yX1_requireColour.cls ≠ "java/lang/invoke/VarHandle" ∧ (parseMethodDescriptor yX1_requireColour.desc).map (fun d => d.parameters.length) = some 1 := by decide +kernel
theorem hd_X1_lookAtEachOther : yX1_lookAtEachOther.cls = RX1 ∧ yX1_lookAtEachOther.cls ≠ "java/lang/invoke/MethodHandle" ∧ yX1_lookAtEachOther.cls ≠ "java/lang/invoke/VarHandle" ∧ (parseMethodDescriptor yX1_lookAtEachOther.desc).map (fun d => d.parameters.length) = some 1 := by decide +kernel
theorem hd_X1_setSeenHatsOf : yX1_setSeenHatsOf.cls = RX1 ∧ yX1_setSeenHatsOf.cls ≠ "java/lang/invoke/MethodHandle" ∧ yX1_setSeenHatsOf.cls ≠ "java/lang/invoke/VarHandle" ∧ (parseMethodDescriptor yX1_setSeenHatsOf.desc).map (fun d => d.parameters.length) = some 2 := by decide +kernel
theorem hd_L_turnAway : yL_turnAway.cls ≠ "java/lang/invoke/MethodHandle" ∧ yL_turnAway.cls ≠ "java/lang/invoke/VarHandle" ∧ (parseMethodDescriptor yL_turnAway.desc).map (fun d => d.parameters.length) = some 4 := by decide +kernel
theorem hd_X1_turnAway : yX1_turnAway.cls = RX1 ∧ yX1_turnAway.cls ≠ "java/lang/invoke/MethodHandle" ∧ yX1_turnAway.cls ≠ "java/lang/invoke/VarHandle" ∧ (parseMethodDescriptor yX1_turnAway.desc).map (fun d => d.parameters.length) = some 2 := by decide +kernel
theorem hd_X1_requireTwoPlayers : yX1_requireTwoPlayers.cls = RX1 ∧ yX1_requireTwoPlayers.cls ≠ "java/lang/invoke/MethodHandle" ∧ yX1_requireTwoPlayers.cls ≠ "java/lang/invoke/VarHandle" ∧ (parseMethodDescriptor yX1_requireTwoPlayers.desc).map (fun d => d.parameters.length) = some 2 := by decide +kernel
theorem hd_L_borrow : yL_borrow.cls ≠ "java/lang/invoke/MethodHandle" ∧ yL_borrow.cls ≠ "java/lang/invoke/VarHandle" ∧ (parseMethodDescriptor yL_borrow.desc).map (fun d => d.parameters.length) = some 4 := by decide +kernel
theorem hd_X1_borrow : yX1_borrow.cls = RX1 ∧ yX1_borrow.cls ≠ "java/lang/invoke/MethodHandle" ∧ yX1_borrow.cls ≠ "java/lang/invoke/VarHandle" ∧ (parseMethodDescriptor yX1_borrow.desc).map (fun d => d.parameters.length) = some 2 := by decide +kernel
theorem hd_X1_exchanged : yX1_exchanged.cls ≠ "java/lang/invoke/MethodHandle" ∧ yX1_exchanged.cls ≠ "java/lang/invoke/VarHandle" ∧ (parseMethodDescriptor yX1_exchanged.desc).map (fun d => d.parameters.length) = some 3 := by decide +kernel
theorem hd_X0_put : yX0_put.cls = RX0 ∧ yX0_put.cls ≠ "java/lang/invoke/MethodHandle" ∧ yX0_put.cls ≠ "java/lang/invoke/VarHandle" ∧ (parseMethodDescriptor yX0_put.desc).map (fun d => d.parameters.length) = some 2 := by decide +kernel
theorem hd_L_takeTurn : yL_takeTurn.cls ≠ "java/lang/invoke/MethodHandle" ∧ yL_takeTurn.cls ≠ "java/lang/invoke/VarHandle" ∧ (parseMethodDescriptor yL_takeTurn.desc).map (fun d => d.parameters.length) = some 2 := by decide +kernel
theorem hd_X1_takeTurn : yX1_takeTurn.cls = RX1 ∧ yX1_takeTurn.cls ≠ "java/lang/invoke/MethodHandle" ∧ yX1_takeTurn.cls ≠ "java/lang/invoke/VarHandle" ∧ (parseMethodDescriptor yX1_takeTurn.desc).map (fun d => d.parameters.length) = some 0 := by decide +kernel
theorem hd_L_sayAtLeast : yL_sayAtLeast.cls ≠ "java/lang/invoke/MethodHandle" ∧ yL_sayAtLeast.cls ≠ "java/lang/invoke/VarHandle" ∧ (parseMethodDescriptor yL_sayAtLeast.desc).map (fun d => d.parameters.length) = some 4 := by decide +kernel
theorem hd_X1_sayAtLeast : yX1_sayAtLeast.cls = RX1 ∧ yX1_sayAtLeast.cls ≠ "java/lang/invoke/MethodHandle" ∧ yX1_sayAtLeast.cls ≠ "java/lang/invoke/VarHandle" ∧ (parseMethodDescriptor yX1_sayAtLeast.desc).map (fun d => d.parameters.length) = some 2 := by decide +kernel
theorem hd_X1_requireMany : yX1_requireMany.cls ≠ "java/lang/invoke/MethodHandle" ∧ yX1_requireMany.cls ≠ "java/lang/invoke/VarHandle" ∧ (parseMethodDescriptor yX1_requireMany.desc).map (fun d => d.parameters.length) = some 1 := by decide +kernel
theorem hd_X1_sayBetween : yX1_sayBetween.cls = RX1 ∧ yX1_sayBetween.cls ≠ "java/lang/invoke/MethodHandle" ∧ yX1_sayBetween.cls ≠ "java/lang/invoke/VarHandle" ∧ (parseMethodDescriptor yX1_sayBetween.desc).map (fun d => d.parameters.length) = some 3 := by decide +kernel
theorem hd_X1_keepWithHats : yX1_keepWithHats.cls = RX1 ∧ yX1_keepWithHats.cls ≠ "java/lang/invoke/MethodHandle" ∧ yX1_keepWithHats.cls ≠ "java/lang/invoke/VarHandle" ∧ (parseMethodDescriptor yX1_keepWithHats.desc).map (fun d => d.parameters.length) = some 4 := by decide +kernel
theorem hd_L_sayAtMost : yL_sayAtMost.cls ≠ "java/lang/invoke/MethodHandle" ∧ yL_sayAtMost.cls ≠ "java/lang/invoke/VarHandle" ∧ (parseMethodDescriptor yL_sayAtMost.desc).map (fun d => d.parameters.length) = some 4 := by decide +kernel
theorem hd_X1_sayAtMost : yX1_sayAtMost.cls = RX1 ∧ yX1_sayAtMost.cls ≠ "java/lang/invoke/MethodHandle" ∧ yX1_sayAtMost.cls ≠ "java/lang/invoke/VarHandle" ∧ (parseMethodDescriptor yX1_sayAtMost.desc).map (fun d => d.parameters.length) = some 2 := by decide +kernel
theorem hd_L_hatOf : yL_hatOf.cls ≠ "java/lang/invoke/MethodHandle" ∧ yL_hatOf.cls ≠ "java/lang/invoke/VarHandle" ∧ (parseMethodDescriptor yL_hatOf.desc).map (fun d => d.parameters.length) = some 3 := by decide +kernel
theorem hd_L_sees : yL_sees.cls ≠ "java/lang/invoke/MethodHandle" ∧ yL_sees.cls ≠ "java/lang/invoke/VarHandle" ∧ (parseMethodDescriptor yL_sees.desc).map (fun d => d.parameters.length) = some 4 := by decide +kernel
theorem hd_L_hatsOf : yL_hatsOf.cls ≠ "java/lang/invoke/MethodHandle" ∧ yL_hatsOf.cls ≠ "java/lang/invoke/VarHandle" ∧ (parseMethodDescriptor yL_hatsOf.desc).map (fun d => d.parameters.length) = some 3 := by decide +kernel
theorem hd_X1_hatsOf : yX1_hatsOf.cls = RX1 ∧ yX1_hatsOf.cls ≠ "java/lang/invoke/MethodHandle" ∧ yX1_hatsOf.cls ≠ "java/lang/invoke/VarHandle" ∧ (parseMethodDescriptor yX1_hatsOf.desc).map (fun d => d.parameters.length) = some 1 := by decide +kernel
theorem hd_L_openWaysWith : yL_openWaysWith.cls ≠ "java/lang/invoke/MethodHandle" ∧ yL_openWaysWith.cls ≠ "java/lang/invoke/VarHandle" ∧ (parseMethodDescriptor yL_openWaysWith.desc).map (fun d => d.parameters.length) = some 4 := by decide +kernel
theorem hd_X1_openWaysWith : yX1_openWaysWith.cls = RX1 ∧ yX1_openWaysWith.cls ≠ "java/lang/invoke/MethodHandle" ∧ yX1_openWaysWith.cls ≠ "java/lang/invoke/VarHandle" ∧ (parseMethodDescriptor yX1_openWaysWith.desc).map (fun d => d.parameters.length) = some 2 := by decide +kernel
theorem hd_L_isKnownToAll : yL_isKnownToAll.cls ≠ "java/lang/invoke/MethodHandle" ∧ yL_isKnownToAll.cls ≠ "java/lang/invoke/VarHandle" ∧ (parseMethodDescriptor yL_isKnownToAll.desc).map (fun d => d.parameters.length) = some 3 := by decide +kernel
theorem hd_L_possibleWays : yL_possibleWays.cls ≠ "java/lang/invoke/MethodHandle" ∧ yL_possibleWays.cls ≠ "java/lang/invoke/VarHandle" ∧ (parseMethodDescriptor yL_possibleWays.desc).map (fun d => d.parameters.length) = some 3 := by decide +kernel
theorem hd_L_holdsPossible : yL_holdsPossible.cls ≠ "java/lang/invoke/MethodHandle" ∧ yL_holdsPossible.cls ≠ "java/lang/invoke/VarHandle" ∧ (parseMethodDescriptor yL_holdsPossible.desc).map (fun d => d.parameters.length) = some 5 := by decide +kernel
theorem hd_X1_holdsPossible : yX1_holdsPossible.cls = RX1 ∧ yX1_holdsPossible.cls ≠ "java/lang/invoke/MethodHandle" ∧ yX1_holdsPossible.cls ≠ "java/lang/invoke/VarHandle" ∧ (parseMethodDescriptor yX1_holdsPossible.desc).map (fun d => d.parameters.length) = some 3 := by decide +kernel
theorem hd_L_isCertain : yL_isCertain.cls ≠ "java/lang/invoke/MethodHandle" ∧ yL_isCertain.cls ≠ "java/lang/invoke/VarHandle" ∧ (parseMethodDescriptor yL_isCertain.desc).map (fun d => d.parameters.length) = some 3 := by decide +kernel
theorem hd_L_knowsHatOf : yL_knowsHatOf.cls ≠ "java/lang/invoke/MethodHandle" ∧ yL_knowsHatOf.cls ≠ "java/lang/invoke/VarHandle" ∧ (parseMethodDescriptor yL_knowsHatOf.desc).map (fun d => d.parameters.length) = some 4 := by decide +kernel
theorem hd_L_knowsCertain : yL_knowsCertain.cls ≠ "java/lang/invoke/MethodHandle" ∧ yL_knowsCertain.cls ≠ "java/lang/invoke/VarHandle" ∧ (parseMethodDescriptor yL_knowsCertain.desc).map (fun d => d.parameters.length) = some 4 := by decide +kernel
theorem hd_L_openAfterTurn : yL_openAfterTurn.cls ≠ "java/lang/invoke/MethodHandle" ∧ yL_openAfterTurn.cls ≠ "java/lang/invoke/VarHandle" ∧ (parseMethodDescriptor yL_openAfterTurn.desc).map (fun d => d.parameters.length) = some 2 := by decide +kernel
theorem hd_L_turnsUntilCertain : yL_turnsUntilCertain.cls ≠ "java/lang/invoke/MethodHandle" ∧ yL_turnsUntilCertain.cls ≠ "java/lang/invoke/VarHandle" ∧ (parseMethodDescriptor yL_turnsUntilCertain.desc).map (fun d => d.parameters.length) = some 3 := by decide +kernel
theorem hd_X1_turnsUntilCertain : yX1_turnsUntilCertain.cls = RX1 ∧ yX1_turnsUntilCertain.cls ≠ "java/lang/invoke/MethodHandle" ∧ yX1_turnsUntilCertain.cls ≠ "java/lang/invoke/VarHandle" ∧ (parseMethodDescriptor yX1_turnsUntilCertain.desc).map (fun d => d.parameters.length) = some 1 := by decide +kernel
theorem hd_L_certainIfTold : yL_certainIfTold.cls ≠ "java/lang/invoke/MethodHandle" ∧ yL_certainIfTold.cls ≠ "java/lang/invoke/VarHandle" ∧ (parseMethodDescriptor yL_certainIfTold.desc).map (fun d => d.parameters.length) = some 3 := by decide +kernel
theorem hd_X2_thrown : yX2_thrown.cls = RX2 ∧ yX2_thrown.cls ≠ "java/lang/invoke/MethodHandle" ∧ yX2_thrown.cls ≠ "java/lang/invoke/VarHandle" ∧ (parseMethodDescriptor yX2_thrown.desc).map (fun d => d.parameters.length) = some 0 := by decide +kernel
theorem hd_X2_addPlayer : yX2_addPlayer.cls = RX2 ∧ yX2_addPlayer.cls ≠ "java/lang/invoke/MethodHandle" ∧ yX2_addPlayer.cls ≠ "java/lang/invoke/VarHandle" ∧ (parseMethodDescriptor yX2_addPlayer.desc).map (fun d => d.parameters.length) = some 1 := by decide +kernel
theorem hd_X2_isColour : yX2_isColour.cls ≠ "java/lang/invoke/MethodHandle" ∧ yX2_isColour.cls ≠ "java/lang/invoke/VarHandle" ∧ (parseMethodDescriptor yX2_isColour.desc).map (fun d => d.parameters.length) = some 1 := by decide +kernel
theorem hd_X2_isIn : yX2_isIn.cls ≠ "java/lang/invoke/MethodHandle" ∧ yX2_isIn.cls ≠ "java/lang/invoke/VarHandle" ∧ (parseMethodDescriptor yX2_isIn.desc).map (fun d => d.parameters.length) = some 3 := by decide +kernel
theorem hd_X2_fail : yX2_fail.cls = RX2 ∧ yX2_fail.cls ≠ "java/lang/invoke/MethodHandle" ∧ yX2_fail.cls ≠ "java/lang/invoke/VarHandle" ∧ (parseMethodDescriptor yX2_fail.desc).map (fun d => d.parameters.length) = some 1 := by decide +kernel
theorem hd_X2_openAll : yX2_openAll.cls = RX2 ∧ yX2_openAll.cls ≠ "java/lang/invoke/MethodHandle" ∧ yX2_openAll.cls ≠ "java/lang/invoke/VarHandle" ∧ (parseMethodDescriptor yX2_openAll.desc).map (fun d => d.parameters.length) = some 0 := by decide +kernel
theorem hd_X2_ways : yX2_ways.cls = RX2 ∧ yX2_ways.cls ≠ "java/lang/invoke/MethodHandle" ∧ yX2_ways.cls ≠ "java/lang/invoke/VarHandle" ∧ (parseMethodDescriptor yX2_ways.desc).map (fun d => d.parameters.length) = some 0 := by decide +kernel
theorem hd_X2_turnAway : yX2_turnAway.cls = RX2 ∧ yX2_turnAway.cls ≠ "java/lang/invoke/MethodHandle" ∧ yX2_turnAway.cls ≠ "java/lang/invoke/VarHandle" ∧ (parseMethodDescriptor yX2_turnAway.desc).map (fun d => d.parameters.length) = some 2 := by decide +kernel
theorem hd_X2_areTwo : yX2_areTwo.cls = RX2 ∧ yX2_areTwo.cls ≠ "java/lang/invoke/MethodHandle" ∧ yX2_areTwo.cls ≠ "java/lang/invoke/VarHandle" ∧ (parseMethodDescriptor yX2_areTwo.desc).map (fun d => d.parameters.length) = some 2 := by decide +kernel
theorem hd_X2_isPlayer : yX2_isPlayer.cls = RX2 ∧ yX2_isPlayer.cls ≠ "java/lang/invoke/MethodHandle" ∧ yX2_isPlayer.cls ≠ "java/lang/invoke/VarHandle" ∧ (parseMethodDescriptor yX2_isPlayer.desc).map (fun d => d.parameters.length) = some 1 := by decide +kernel
theorem hd_X2_sees : yX2_sees.cls = RX2 ∧ yX2_sees.cls ≠ "java/lang/invoke/MethodHandle" ∧ yX2_sees.cls ≠ "java/lang/invoke/VarHandle" ∧ (parseMethodDescriptor yX2_sees.desc).map (fun d => d.parameters.length) = some 3 := by decide +kernel
theorem hd_X2_borrow : yX2_borrow.cls = RX2 ∧ yX2_borrow.cls ≠ "java/lang/invoke/MethodHandle" ∧ yX2_borrow.cls ≠ "java/lang/invoke/VarHandle" ∧ (parseMethodDescriptor yX2_borrow.desc).map (fun d => d.parameters.length) = some 2 := by decide +kernel
theorem hd_X2_colour : yX2_colour.cls ≠ "java/lang/invoke/MethodHandle" ∧ yX2_colour.cls ≠ "java/lang/invoke/VarHandle" ∧ (parseMethodDescriptor yX2_colour.desc).map (fun d => d.parameters.length) = some 2 := by decide +kernel
theorem hd_X2_take : yX2_take.cls = RX2 ∧ yX2_take.cls ≠ "java/lang/invoke/MethodHandle" ∧ yX2_take.cls ≠ "java/lang/invoke/VarHandle" ∧ (parseMethodDescriptor yX2_take.desc).map (fun d => d.parameters.length) = some 0 := by decide +kernel
theorem hd_X2_takeTurn : yX2_takeTurn.cls = RX2 ∧ yX2_takeTurn.cls ≠ "java/lang/invoke/MethodHandle" ∧ yX2_takeTurn.cls ≠ "java/lang/invoke/VarHandle" ∧ (parseMethodDescriptor yX2_takeTurn.desc).map (fun d => d.parameters.length) = some 0 := by decide +kernel
theorem hd_X2_whose : yX2_whose.cls = RX2 ∧ yX2_whose.cls ≠ "java/lang/invoke/MethodHandle" ∧ yX2_whose.cls ≠ "java/lang/invoke/VarHandle" ∧ (parseMethodDescriptor yX2_whose.desc).map (fun d => d.parameters.length) = some 0 := by decide +kernel
theorem hd_X2_real : yX2_real.cls = RX2 ∧ yX2_real.cls ≠ "java/lang/invoke/MethodHandle" ∧ yX2_real.cls ≠ "java/lang/invoke/VarHandle" ∧ (parseMethodDescriptor yX2_real.desc).map (fun d => d.parameters.length) = some 0 := by decide +kernel
theorem hd_X2_turn : yX2_turn.cls = RX2 ∧ yX2_turn.cls ≠ "java/lang/invoke/MethodHandle" ∧ yX2_turn.cls ≠ "java/lang/invoke/VarHandle" ∧ (parseMethodDescriptor yX2_turn.desc).map (fun d => d.parameters.length) = some 2 := by decide +kernel
theorem hd_X2_look : yX2_look.cls = RX2 ∧ yX2_look.cls ≠ "java/lang/invoke/MethodHandle" ∧ yX2_look.cls ≠ "java/lang/invoke/VarHandle" ∧ (parseMethodDescriptor yX2_look.desc).map (fun d => d.parameters.length) = some 1 := by decide +kernel
theorem hd_X2_view : yX2_view.cls = RX2 ∧ yX2_view.cls ≠ "java/lang/invoke/MethodHandle" ∧ yX2_view.cls ≠ "java/lang/invoke/VarHandle" ∧ (parseMethodDescriptor yX2_view.desc).map (fun d => d.parameters.length) = some 2 := by decide +kernel
theorem hd_X2_certain : yX2_certain.cls = RX2 ∧ yX2_certain.cls ≠ "java/lang/invoke/MethodHandle" ∧ yX2_certain.cls ≠ "java/lang/invoke/VarHandle" ∧ (parseMethodDescriptor yX2_certain.desc).map (fun d => d.parameters.length) = some 2 := by decide +kernel
theorem hd_X2_isOne : yX2_isOne.cls ≠ "java/lang/invoke/MethodHandle" ∧ yX2_isOne.cls ≠ "java/lang/invoke/VarHandle" ∧ (parseMethodDescriptor yX2_isOne.desc).map (fun d => d.parameters.length) = some 1 := by decide +kernel
theorem hd_X2_sayAtLeast : yX2_sayAtLeast.cls = RX2 ∧ yX2_sayAtLeast.cls ≠ "java/lang/invoke/MethodHandle" ∧ yX2_sayAtLeast.cls ≠ "java/lang/invoke/VarHandle" ∧ (parseMethodDescriptor yX2_sayAtLeast.desc).map (fun d => d.parameters.length) = some 2 := by decide +kernel
theorem hd_X2_say : yX2_say.cls = RX2 ∧ yX2_say.cls ≠ "java/lang/invoke/MethodHandle" ∧ yX2_say.cls ≠ "java/lang/invoke/VarHandle" ∧ (parseMethodDescriptor yX2_say.desc).map (fun d => d.parameters.length) = some 3 := by decide +kernel
theorem hd_X2_is : yX2_is.cls = RX2 ∧ yX2_is.cls ≠ "java/lang/invoke/MethodHandle" ∧ yX2_is.cls ≠ "java/lang/invoke/VarHandle" ∧ (parseMethodDescriptor yX2_is.desc).map (fun d => d.parameters.length) = some 4 := by decide +kernel
theorem hd_X2_have : yX2_have.cls = RX2 ∧ yX2_have.cls ≠ "java/lang/invoke/MethodHandle" ∧ yX2_have.cls ≠ "java/lang/invoke/VarHandle" ∧ (parseMethodDescriptor yX2_have.desc).map (fun d => d.parameters.length) = some 2 := by decide +kernel
theorem hd_X2_openNow : yX2_openNow.cls = RX2 ∧ yX2_openNow.cls ≠ "java/lang/invoke/MethodHandle" ∧ yX2_openNow.cls ≠ "java/lang/invoke/VarHandle" ∧ (parseMethodDescriptor yX2_openNow.desc).map (fun d => d.parameters.length) = some 0 := by decide +kernel
theorem hd_X2_sayAtMost : yX2_sayAtMost.cls = RX2 ∧ yX2_sayAtMost.cls ≠ "java/lang/invoke/MethodHandle" ∧ yX2_sayAtMost.cls ≠ "java/lang/invoke/VarHandle" ∧ (parseMethodDescriptor yX2_sayAtMost.desc).map (fun d => d.parameters.length) = some 2 := by decide +kernel
theorem hd_X2_begin : yX2_begin.cls = RX2 ∧ yX2_begin.cls ≠ "java/lang/invoke/MethodHandle" ∧ yX2_begin.cls ≠ "java/lang/invoke/VarHandle" ∧ (parseMethodDescriptor yX2_begin.desc).map (fun d => d.parameters.length) = some 0 := by decide +kernel
theorem hd_X2_players : yX2_players.cls = RX2 ∧ yX2_players.cls ≠ "java/lang/invoke/MethodHandle" ∧ yX2_players.cls ≠ "java/lang/invoke/VarHandle" ∧ (parseMethodDescriptor yX2_players.desc).map (fun d => d.parameters.length) = some 0 := by decide +kernel
theorem hd_X2_told : yX2_told.cls = RX2 ∧ yX2_told.cls ≠ "java/lang/invoke/MethodHandle" ∧ yX2_told.cls ≠ "java/lang/invoke/VarHandle" ∧ (parseMethodDescriptor yX2_told.desc).map (fun d => d.parameters.length) = some 1 := by decide +kernel
theorem hd_X2_turnsTaken : yX2_turnsTaken.cls = RX2 ∧ yX2_turnsTaken.cls ≠ "java/lang/invoke/MethodHandle" ∧ yX2_turnsTaken.cls ≠ "java/lang/invoke/VarHandle" ∧ (parseMethodDescriptor yX2_turnsTaken.desc).map (fun d => d.parameters.length) = some 0 := by decide +kernel
theorem hd_X2_silentTurns : yX2_silentTurns.cls = RX2 ∧ yX2_silentTurns.cls ≠ "java/lang/invoke/MethodHandle" ∧ yX2_silentTurns.cls ≠ "java/lang/invoke/VarHandle" ∧ (parseMethodDescriptor yX2_silentTurns.desc).map (fun d => d.parameters.length) = some 0 := by decide +kernel
theorem hd_X2_playerInTurn : yX2_playerInTurn.cls = RX2 ∧ yX2_playerInTurn.cls ≠ "java/lang/invoke/MethodHandle" ∧ yX2_playerInTurn.cls ≠ "java/lang/invoke/VarHandle" ∧ (parseMethodDescriptor yX2_playerInTurn.desc).map (fun d => d.parameters.length) = some 0 := by decide +kernel
theorem hd_X2_hatOf : yX2_hatOf.cls = RX2 ∧ yX2_hatOf.cls ≠ "java/lang/invoke/MethodHandle" ∧ yX2_hatOf.cls ≠ "java/lang/invoke/VarHandle" ∧ (parseMethodDescriptor yX2_hatOf.desc).map (fun d => d.parameters.length) = some 1 := by decide +kernel
theorem hd_X2_sees_ : yX2_sees_.cls = RX2 ∧ yX2_sees_.cls ≠ "java/lang/invoke/MethodHandle" ∧ yX2_sees_.cls ≠ "java/lang/invoke/VarHandle" ∧ (parseMethodDescriptor yX2_sees_.desc).map (fun d => d.parameters.length) = some 2 := by decide +kernel
theorem hd_X2_hatsOf : yX2_hatsOf.cls = RX2 ∧ yX2_hatsOf.cls ≠ "java/lang/invoke/MethodHandle" ∧ yX2_hatsOf.cls ≠ "java/lang/invoke/VarHandle" ∧ (parseMethodDescriptor yX2_hatsOf.desc).map (fun d => d.parameters.length) = some 1 := by decide +kernel
theorem hd_X2_openWays : yX2_openWays.cls = RX2 ∧ yX2_openWays.cls ≠ "java/lang/invoke/MethodHandle" ∧ yX2_openWays.cls ≠ "java/lang/invoke/VarHandle" ∧ (parseMethodDescriptor yX2_openWays.desc).map (fun d => d.parameters.length) = some 0 := by decide +kernel
theorem hd_X2_openWaysWith : yX2_openWaysWith.cls = RX2 ∧ yX2_openWaysWith.cls ≠ "java/lang/invoke/MethodHandle" ∧ yX2_openWaysWith.cls ≠ "java/lang/invoke/VarHandle" ∧ (parseMethodDescriptor yX2_openWaysWith.desc).map (fun d => d.parameters.length) = some 2 := by decide +kernel
theorem hd_X2_openWith : yX2_openWith.cls = RX2 ∧ yX2_openWith.cls ≠ "java/lang/invoke/MethodHandle" ∧ yX2_openWith.cls ≠ "java/lang/invoke/VarHandle" ∧ (parseMethodDescriptor yX2_openWith.desc).map (fun d => d.parameters.length) = some 2 := by decide +kernel
theorem hd_X2_isKnownToAll : yX2_isKnownToAll.cls = RX2 ∧ yX2_isKnownToAll.cls ≠ "java/lang/invoke/MethodHandle" ∧ yX2_isKnownToAll.cls ≠ "java/lang/invoke/VarHandle" ∧ (parseMethodDescriptor yX2_isKnownToAll.desc).map (fun d => d.parameters.length) = some 1 := by decide +kernel
theorem hd_X2_known : yX2_known.cls = RX2 ∧ yX2_known.cls ≠ "java/lang/invoke/MethodHandle" ∧ yX2_known.cls ≠ "java/lang/invoke/VarHandle" ∧ (parseMethodDescriptor yX2_known.desc).map (fun d => d.parameters.length) = some 1 := by decide +kernel
theorem hd_X2_possibleWays : yX2_possibleWays.cls = RX2 ∧ yX2_possibleWays.cls ≠ "java/lang/invoke/MethodHandle" ∧ yX2_possibleWays.cls ≠ "java/lang/invoke/VarHandle" ∧ (parseMethodDescriptor yX2_possibleWays.desc).map (fun d => d.parameters.length) = some 1 := by decide +kernel
theorem hd_X2_possible : yX2_possible.cls = RX2 ∧ yX2_possible.cls ≠ "java/lang/invoke/MethodHandle" ∧ yX2_possible.cls ≠ "java/lang/invoke/VarHandle" ∧ (parseMethodDescriptor yX2_possible.desc).map (fun d => d.parameters.length) = some 1 := by decide +kernel
theorem hd_X2_holdsPossible : yX2_holdsPossible.cls = RX2 ∧ yX2_holdsPossible.cls ≠ "java/lang/invoke/MethodHandle" ∧ yX2_holdsPossible.cls ≠ "java/lang/invoke/VarHandle" ∧ (parseMethodDescriptor yX2_holdsPossible.desc).map (fun d => d.parameters.length) = some 3 := by decide +kernel
theorem hd_X2_colours : yX2_colours.cls = RX2 ∧ yX2_colours.cls ≠ "java/lang/invoke/MethodHandle" ∧ yX2_colours.cls ≠ "java/lang/invoke/VarHandle" ∧ (parseMethodDescriptor yX2_colours.desc).map (fun d => d.parameters.length) = some 3 := by decide +kernel
theorem hd_X2_isCertain : yX2_isCertain.cls = RX2 ∧ yX2_isCertain.cls ≠ "java/lang/invoke/MethodHandle" ∧ yX2_isCertain.cls ≠ "java/lang/invoke/VarHandle" ∧ (parseMethodDescriptor yX2_isCertain.desc).map (fun d => d.parameters.length) = some 1 := by decide +kernel
theorem hd_X2_certainNow : yX2_certainNow.cls = RX2 ∧ yX2_certainNow.cls ≠ "java/lang/invoke/MethodHandle" ∧ yX2_certainNow.cls ≠ "java/lang/invoke/VarHandle" ∧ (parseMethodDescriptor yX2_certainNow.desc).map (fun d => d.parameters.length) = some 1 := by decide +kernel
theorem hd_X2_knowsHatOf : yX2_knowsHatOf.cls = RX2 ∧ yX2_knowsHatOf.cls ≠ "java/lang/invoke/MethodHandle" ∧ yX2_knowsHatOf.cls ≠ "java/lang/invoke/VarHandle" ∧ (parseMethodDescriptor yX2_knowsHatOf.desc).map (fun d => d.parameters.length) = some 2 := by decide +kernel
theorem hd_X2_knows : yX2_knows.cls = RX2 ∧ yX2_knows.cls ≠ "java/lang/invoke/MethodHandle" ∧ yX2_knows.cls ≠ "java/lang/invoke/VarHandle" ∧ (parseMethodDescriptor yX2_knows.desc).map (fun d => d.parameters.length) = some 2 := by decide +kernel
theorem hd_X2_knowsCertain : yX2_knowsCertain.cls = RX2 ∧ yX2_knowsCertain.cls ≠ "java/lang/invoke/MethodHandle" ∧ yX2_knowsCertain.cls ≠ "java/lang/invoke/VarHandle" ∧ (parseMethodDescriptor yX2_knowsCertain.desc).map (fun d => d.parameters.length) = some 2 := by decide +kernel
theorem hd_X2_sure : yX2_sure.cls = RX2 ∧ yX2_sure.cls ≠ "java/lang/invoke/MethodHandle" ∧ yX2_sure.cls ≠ "java/lang/invoke/VarHandle" ∧ (parseMethodDescriptor yX2_sure.desc).map (fun d => d.parameters.length) = some 2 := by decide +kernel
theorem hd_X2_certainPlayers : yX2_certainPlayers.cls = RX2 ∧ yX2_certainPlayers.cls ≠ "java/lang/invoke/MethodHandle" ∧ yX2_certainPlayers.cls ≠ "java/lang/invoke/VarHandle" ∧ (parseMethodDescriptor yX2_certainPlayers.desc).map (fun d => d.parameters.length) = some 0 := by decide +kernel
theorem hd_X2_many : yX2_many.cls = RX2 ∧ yX2_many.cls ≠ "java/lang/invoke/MethodHandle" ∧ yX2_many.cls ≠ "java/lang/invoke/VarHandle" ∧ (parseMethodDescriptor yX2_many.desc).map (fun d => d.parameters.length) = some 0 := by decide +kernel
theorem hd_X2_openAfterTurn : yX2_openAfterTurn.cls = RX2 ∧ yX2_openAfterTurn.cls ≠ "java/lang/invoke/MethodHandle" ∧ yX2_openAfterTurn.cls ≠ "java/lang/invoke/VarHandle" ∧ (parseMethodDescriptor yX2_openAfterTurn.desc).map (fun d => d.parameters.length) = some 0 := by decide +kernel
theorem hd_X2_after : yX2_after.cls = RX2 ∧ yX2_after.cls ≠ "java/lang/invoke/MethodHandle" ∧ yX2_after.cls ≠ "java/lang/invoke/VarHandle" ∧ (parseMethodDescriptor yX2_after.desc).map (fun d => d.parameters.length) = some 0 := by decide +kernel
theorem hd_X2_keep : yX2_keep.cls = RX2 ∧ yX2_keep.cls ≠ "java/lang/invoke/MethodHandle" ∧ yX2_keep.cls ≠ "java/lang/invoke/VarHandle" ∧ (parseMethodDescriptor yX2_keep.desc).map (fun d => d.parameters.length) = some 0 := by decide +kernel
theorem hd_X2_bringBack : yX2_bringBack.cls = RX2 ∧ yX2_bringBack.cls ≠ "java/lang/invoke/MethodHandle" ∧ yX2_bringBack.cls ≠ "java/lang/invoke/VarHandle" ∧ (parseMethodDescriptor yX2_bringBack.desc).map (fun d => d.parameters.length) = some 0 := by decide +kernel
theorem hd_X2_turnsUntilCertain : yX2_turnsUntilCertain.cls = RX2 ∧ yX2_turnsUntilCertain.cls ≠ "java/lang/invoke/MethodHandle" ∧ yX2_turnsUntilCertain.cls ≠ "java/lang/invoke/VarHandle" ∧ (parseMethodDescriptor yX2_turnsUntilCertain.desc).map (fun d => d.parameters.length) = some 1 := by decide +kernel
theorem hd_X2_until : yX2_until.cls = RX2 ∧ yX2_until.cls ≠ "java/lang/invoke/MethodHandle" ∧ yX2_until.cls ≠ "java/lang/invoke/VarHandle" ∧ (parseMethodDescriptor yX2_until.desc).map (fun d => d.parameters.length) = some 1 := by decide +kernel
theorem hd_X2_turnsUntilAllCertain : yX2_turnsUntilAllCertain.cls = RX2 ∧ yX2_turnsUntilAllCertain.cls ≠ "java/lang/invoke/MethodHandle" ∧ yX2_turnsUntilAllCertain.cls ≠ "java/lang/invoke/VarHandle" ∧ (parseMethodDescriptor yX2_turnsUntilAllCertain.desc).map (fun d => d.parameters.length) = some 0 := by decide +kernel
theorem hd_X2_bestToName : yX2_bestToName.cls = RX2 ∧ yX2_bestToName.cls ≠ "java/lang/invoke/MethodHandle" ∧ yX2_bestToName.cls ≠ "java/lang/invoke/VarHandle" ∧ (parseMethodDescriptor yX2_bestToName.desc).map (fun d => d.parameters.length) = some 0 := by decide +kernel
theorem hd_X2_best : yX2_best.cls = RX2 ∧ yX2_best.cls ≠ "java/lang/invoke/MethodHandle" ∧ yX2_best.cls ≠ "java/lang/invoke/VarHandle" ∧ (parseMethodDescriptor yX2_best.desc).map (fun d => d.parameters.length) = some 0 := by decide +kernel
theorem hd_X2_certainIfTold : yX2_certainIfTold.cls = RX2 ∧ yX2_certainIfTold.cls ≠ "java/lang/invoke/MethodHandle" ∧ yX2_certainIfTold.cls ≠ "java/lang/invoke/VarHandle" ∧ (parseMethodDescriptor yX2_certainIfTold.desc).map (fun d => d.parameters.length) = some 1 := by decide +kernel
theorem hd_X2_ifTold : yX2_ifTold.cls = RX2 ∧ yX2_ifTold.cls ≠ "java/lang/invoke/MethodHandle" ∧ yX2_ifTold.cls ≠ "java/lang/invoke/VarHandle" ∧ (parseMethodDescriptor yX2_ifTold.desc).map (fun d => d.parameters.length) = some 1 := by decide +kernel
theorem hd_X2_meanPossible : yX2_meanPossible.cls = RX2 ∧ yX2_meanPossible.cls ≠ "java/lang/invoke/MethodHandle" ∧ yX2_meanPossible.cls ≠ "java/lang/invoke/VarHandle" ∧ (parseMethodDescriptor yX2_meanPossible.desc).map (fun d => d.parameters.length) = some 0 := by decide +kernel
theorem hd_X2_digest : yX2_digest.cls = RX2 ∧ yX2_digest.cls ≠ "java/lang/invoke/MethodHandle" ∧ yX2_digest.cls ≠ "java/lang/invoke/VarHandle" ∧ (parseMethodDescriptor yX2_digest.desc).map (fun d => d.parameters.length) = some 0 := by decide +kernel
end
section
/-! what the game's methods answer, in whole numbers -/
def qd (x p : Nat) : Nat := x / 2 ^ (p * 2) &&& 3
def xch (x p q : Nat) : Nat := x ^^^ ((qd x p ^^^ qd x q) * 2 ^ (p * 2)) ^^^ ((qd x p ^^^ qd x q) * 2 ^ (q * 2))
def hatsN : Nat → Nat → Nat → Nat
  | 0, _, _ => 0
  | n + 1, x, c => hatsN n x c + if qd x n = c then 1 else 0
def one1 (b : Nat) : Bool := b == 1 || b == 2 || b == 4 || b == 8
abbrev waW (cI : ClassId) (h1 h5 c : Nat) (hf : Nat → Nat) : va_W := [(h1, .inr (0, [.ref h5, .int (nI c)])), (h5, .inl (cI, 243, .inl (fun k => nI (hf k))))]
abbrev wbW (cI : ClassId) (h1 h5 c : Nat) (hf : Nat → Nat) (h2 h6 c2 : Nat) (tf : Nat → Nat) : va_W := [(h1, .inr (0, [.ref h5, .int (nI c)])), (h5, .inl (cI, 243, .inl (fun k => nI (hf k)))), (h2, .inr (0, [.ref h6, .int (nI c2)])), (h6, .inl (cI, 243, .inl (fun k => nI (tf k))))]
abbrev gW (cI : ClassId) (h0 h1 h2 h3 h4 h5 h6 p1 p2 n wn t tc sc : Nat) (uw : Bool) (c1 c2 : Nat) (s ow hf tf : Nat → Nat) : va_W := [(h0, .inr (1, [.ref p1, .ref p2, .ref h3, .ref h4, .int (nI n), .int (nI wn), .int (nI t), .int (nI tc), .int (nI sc), .int (bI uw)])), (h1, .inr (0, [.ref h5, .int (nI c1)])), (h2, .inr (0, [.ref h6, .int (nI c2)])), (h3, .inl (cI, 5, .inl (fun k => nI (s k)))), (h4, .inl (cI, 1024, .inl (fun k => nI (ow k)))), (h5, .inl (cI, 243, .inl (fun k => nI (hf k)))), (h6, .inl (cI, 243, .inl (fun k => nI (tf k))))]
theorem qd_lt (x p : Nat) : qd x p < 4 := Nat.lt_of_le_of_lt Nat.and_le_right (by omega)
theorem hatsN_le : ∀ (n x c : Nat), hatsN n x c ≤ n
  | 0, _, _ => Nat.le_refl 0
  | n + 1, x, c => by
    have := hatsN_le n x c
    simp only [hatsN]
    split <;> omega
section
variable {l : Launch} {dC : Nat → ClassId} {dI : Nat → Nat → Nat} {cI cZ cJ : ClassId}

set_option maxHeartbeats 4000000 in
set_option maxRecDepth 100000 in
theorem m_X0_count (h1 h5 c : Nat) (hf : Nat → Nat) : Mp l yX0_count ws_X0_count 0 0 (dC, dI) (tyL cI cZ cJ) [.ref h1] (waW cI h1 h5 c hf) (fun r => r = nI c) := by
  refine Mi_of (by decide +kernel) (Nat.le_of_ble_eq_true rfl) ?_
  intro pr ev sx mi ag bl me cd Q ls S hP hK hD hZ hl ret
  obtain ⟨hx, hb, hml, hown, hts⟩ := id S
  have hown : sx.vm.findClass RX0 = some mi.cls := hown
  have hS : va_S (wIn (waW cI h1 h5 c hf)) sx.heap sx.heap [] := va_S.rf
  have hl : lv_has ls 1 [(0, .ref h1)] := hl
  refine lv_aload_n hx hb dX0_count_0 rfl (lv_at hl 0 rfl) ?_
  refine va_get (D := (dC, dI)) (ci := 0) (v := .int (nI c)) (C := RX0) (T := TX0) (N := 2) hx hb hts inX0 hown hK hP 0 rfl rfl 1 (by decide) (hts _ q_fl_X0_15) (fun _ h9 => h9) rfl dX0_count_1 ?_
  exact ret _ (waW cI h1 h5 c hf) _ _ _ _ dX0_count_4 rfl ⟨rfl, rfl⟩ (List.Perm.refl _) hP hS

set_option maxHeartbeats 4000000 in
set_option maxRecDepth 100000 in
theorem m_X0_at (h1 h5 c : Nat) (hf : Nat → Nat) (j : Nat) (hj : j < 243) : Mp l yX0_at ws_X0_at 0 0 (dC, dI) (tyL cI cZ cJ) [.ref h1, .int (nI j)] (waW cI h1 h5 c hf) (fun r => r = nI (hf j)) := by
  refine Mi_of (by decide +kernel) (Nat.le_of_ble_eq_true rfl) ?_
  intro pr ev sx mi ag bl me cd Q ls S hP hK hD hZ hl ret
  obtain ⟨hx, hb, hml, hown, hts⟩ := id S
  have hown : sx.vm.findClass RX0 = some mi.cls := hown
  have hS : va_S (wIn (waW cI h1 h5 c hf)) sx.heap sx.heap [] := va_S.rf
  have hl : lv_has ls 2 [(0, .ref h1), (1, .int (nI j))] := hl
  refine lv_iload_n hx hb dX0_at_0 rfl (lv_at hl 1 rfl) ?_
  refine ifN_lt (tgt := 22) hx hb dX0_at_1 (by decide) (by omega) (fun c_1 => absurd c_1 id) (fun c_1 => ?_)
  refine lv_iload_n hx hb dX0_at_4 rfl (lv_at hl 1 rfl) ?_
  refine lv_aload_n hx hb dX0_at_5 rfl (lv_at hl 0 rfl) ?_
  refine va_get (D := (dC, dI)) (ci := 0) (v := .ref h5) (C := RX0) (T := TX0) (N := 2) hx hb hts inX0 hown hK hP 0 rfl rfl 0 (by decide) (hts _ q_fl_X0_9) (fun _ h9 => h9) rfl dX0_at_6 ?_
  refine va_alen (v := nI 243) hx hb hK hP 1 0 rfl rfl rfl dX0_at_9 ?_
  refine icN_ge (tgt := 22) hx hb dX0_at_10 (by decide) (by omega) (by omega) (fun c_10 => absurd c_10 (by omega)) (fun c_10 => ?_)
  refine lv_aload_n hx hb dX0_at_13 rfl (lv_at hl 0 rfl) ?_
  refine va_get (D := (dC, dI)) (ci := 0) (v := .ref h5) (C := RX0) (T := TX0) (N := 2) hx hb hts inX0 hown hK hP 0 rfl rfl 0 (by decide) (hts _ q_fl_X0_9) (fun _ h9 => h9) rfl dX0_at_14 ?_
  refine lv_iload_n hx hb dX0_at_17 rfl (lv_at hl 1 rfl) ?_
  refine ia_ld hx hb hK hP 1 0 rfl rfl (j := j) (by omega) (by decide) dX0_at_18 ?_
  refine lv_goto (tgt := 23) hx hb dX0_at_19 (by decide) ?_
  exact ret _ (waW cI h1 h5 c hf) _ _ _ _ dX0_at_23 rfl ⟨rfl, rfl⟩ (List.Perm.refl _) hP hS

set_option maxHeartbeats 4000000 in
set_option maxRecDepth 100000 in
theorem m_X0_add (h1 h5 c : Nat) (hf : Nat → Nat) (x : Nat) (hc : c < 243) : Mv l yX0_add ws_X0_add 0 0 (dC, dI) (tyL cI cZ cJ) [.ref h1, .int (nI x)] (waW cI h1 h5 c hf) (fun u => u = waW cI h1 h5 (c + 1) (upN hf c x)) := by
  refine Mv_of (by decide +kernel) (Nat.le_of_ble_eq_true rfl) ?_
  intro pr ev sx mi ag bl me cd Q ls S hP hK hD hZ hl ret
  obtain ⟨hx, hb, hml, hown, hts⟩ := id S
  have hown : sx.vm.findClass RX0 = some mi.cls := hown
  have hS : va_S (wIn (waW cI h1 h5 c hf)) sx.heap sx.heap [] := va_S.rf
  have hl : lv_has ls 2 [(0, .ref h1), (1, .int (nI x))] := hl
  refine lv_aload_n hx hb dX0_add_0 rfl (lv_at hl 0 rfl) ?_
  refine va_get (D := (dC, dI)) (ci := 0) (v := .int (nI c)) (C := RX0) (T := TX0) (N := 2) hx hb hts inX0 hown hK hP 0 rfl rfl 1 (by decide) (hts _ q_fl_X0_15) (fun _ h9 => h9) rfl dX0_add_1 ?_
  refine ifN_lt (tgt := 39) hx hb dX0_add_4 (by decide) (by omega) (fun c_4 => absurd c_4 id) (fun c_4 => ?_)
  refine lv_aload_n hx hb dX0_add_7 rfl (lv_at hl 0 rfl) ?_
  refine va_get (D := (dC, dI)) (ci := 0) (v := .int (nI c)) (C := RX0) (T := TX0) (N := 2) hx hb hts inX0 hown hK hP 0 rfl rfl 1 (by decide) (hts _ q_fl_X0_15) (fun _ h9 => h9) rfl dX0_add_8 ?_
  refine lv_aload_n hx hb dX0_add_11 rfl (lv_at hl 0 rfl) ?_
  refine va_get (D := (dC, dI)) (ci := 0) (v := .ref h5) (C := RX0) (T := TX0) (N := 2) hx hb hts inX0 hown hK hP 0 rfl rfl 0 (by decide) (hts _ q_fl_X0_9) (fun _ h9 => h9) rfl dX0_add_12 ?_
  refine va_alen (v := nI 243) hx hb hK hP 1 0 rfl rfl rfl dX0_add_15 ?_
  refine icN_ge (tgt := 39) hx hb dX0_add_16 (by decide) (by omega) (by omega) (fun c_16 => absurd c_16 (by omega)) (fun c_16 => ?_)
  refine lv_aload_n hx hb dX0_add_19 rfl (lv_at hl 0 rfl) ?_
  refine va_get (D := (dC, dI)) (ci := 0) (v := .ref h5) (C := RX0) (T := TX0) (N := 2) hx hb hts inX0 hown hK hP 0 rfl rfl 0 (by decide) (hts _ q_fl_X0_9) (fun _ h9 => h9) rfl dX0_add_20 ?_
  refine lv_aload_n hx hb dX0_add_23 rfl (lv_at hl 0 rfl) ?_
  refine va_get (D := (dC, dI)) (ci := 0) (v := .int (nI c)) (C := RX0) (T := TX0) (N := 2) hx hb hts inX0 hown hK hP 0 rfl rfl 1 (by decide) (hts _ q_fl_X0_15) (fun _ h9 => h9) rfl dX0_add_24 ?_
  refine lv_iload_n hx hb dX0_add_27 rfl (lv_at hl 1 rfl) ?_
  refine ia_st hx hb hK hP hD hS 1 0 rfl rfl (j := c) (v := x) (by omega) (by decide) dX0_add_28 (fun H locs hP hD hS => ?_)
  have hP : va_P (dC, dI) vwCl (waW cI h1 h5 c (upN hf c x)) H := hP
  have hD : va_D (wIn (waW cI h1 h5 c hf)) (waW cI h1 h5 c (upN hf c x)) := hD
  refine lv_aload_n hx hb dX0_add_29 rfl (lv_at hl 0 rfl) ?_
  refine lv_dup hx hb dX0_add_30 rfl ?_
  refine va_get (D := (dC, dI)) (ci := 0) (v := .int (nI c)) (C := RX0) (T := TX0) (N := 2) hx hb hts inX0 hown hK hP 0 rfl rfl 1 (by decide) (hts _ q_fl_X0_15) (fun _ h9 => h9) rfl dX0_add_31 ?_
  refine lv_iconst (v := nI 1) hx hb dX0_add_34 (by decide) ?_
  refine lv_iadd hx hb dX0_add_35 ?_
  refine W_i (y := nI (c + 1)) (nI_add _ _) ?_
  refine va_put (D := (dC, dI)) (ci := 0) (v := .int (nI (c + 1))) (ty := .int) (C := RX0) (T := TX0) (N := 2) hx hb hts inX0 tyX0 tyX0_ok nmX0 hown hK hP hD hS 0 rfl rfl 1 (by decide) (hts _ q_fl_X0_15) (fun _ h9 => h9) rfl (by decide +kernel) rfl rfl (Nat.le_of_ble_eq_true rfl) dX0_add_36 (fun H locs hP hD hS => ?_)
  have hP : va_P (dC, dI) vwCl (waW cI h1 h5 (c + 1) (upN hf c x)) H := hP
  have hD : va_D (wIn (waW cI h1 h5 c hf)) (waW cI h1 h5 (c + 1) (upN hf c x)) := hD
  exact ret (waW cI h1 h5 (c + 1) (upN hf c x)) _ _ _ _ dX0_add_39 rfl (List.Perm.refl _) hP hS

set_option maxHeartbeats 4000000 in
set_option maxRecDepth 100000 in
theorem m_X0_clear (h1 h5 c : Nat) (hf : Nat → Nat) : Mv l yX0_clear ws_X0_clear 0 0 (dC, dI) (tyL cI cZ cJ) [.ref h1] (waW cI h1 h5 c hf) (fun u => u = waW cI h1 h5 0 hf) := by
  refine Mv_of (by decide +kernel) (Nat.le_of_ble_eq_true rfl) ?_
  intro pr ev sx mi ag bl me cd Q ls S hP hK hD hZ hl ret
  obtain ⟨hx, hb, hml, hown, hts⟩ := id S
  have hown : sx.vm.findClass RX0 = some mi.cls := hown
  have hS : va_S (wIn (waW cI h1 h5 c hf)) sx.heap sx.heap [] := va_S.rf
  have hl : lv_has ls 1 [(0, .ref h1)] := hl
  refine lv_aload_n hx hb dX0_clear_0 rfl (lv_at hl 0 rfl) ?_
  refine lv_iconst (v := nI 0) hx hb dX0_clear_1 (by decide) ?_
  refine va_put (D := (dC, dI)) (ci := 0) (v := .int (nI 0)) (ty := .int) (C := RX0) (T := TX0) (N := 2) hx hb hts inX0 tyX0 tyX0_ok nmX0 hown hK hP hD hS 0 rfl rfl 1 (by decide) (hts _ q_fl_X0_15) (fun _ h9 => h9) rfl (by decide +kernel) rfl rfl (Nat.le_of_ble_eq_true rfl) dX0_clear_2 (fun H locs hP hD hS => ?_)
  have hP : va_P (dC, dI) vwCl (waW cI h1 h5 0 hf) H := hP
  have hD : va_D (wIn (waW cI h1 h5 c hf)) (waW cI h1 h5 0 hf) := hD
  exact ret (waW cI h1 h5 0 hf) _ _ _ _ dX0_clear_5 rfl (List.Perm.refl _) hP hS

set_option maxHeartbeats 4000000 in
set_option maxRecDepth 100000 in
theorem m_X0_put (h1 h5 c : Nat) (hf : Nat → Nat) (j x : Nat) (hj : j < 243) : Mv l yX0_put ws_X0_put 0 0 (dC, dI) (tyL cI cZ cJ) [.ref h1, .int (nI j), .int (nI x)] (waW cI h1 h5 c hf) (fun u => u = waW cI h1 h5 c (upN hf j x)) := by
  refine Mv_of (by decide +kernel) (Nat.le_of_ble_eq_true rfl) ?_
  intro pr ev sx mi ag bl me cd Q ls S hP hK hD hZ hl ret
  obtain ⟨hx, hb, hml, hown, hts⟩ := id S
  have hown : sx.vm.findClass RX0 = some mi.cls := hown
  have hS : va_S (wIn (waW cI h1 h5 c hf)) sx.heap sx.heap [] := va_S.rf
  have hl : lv_has ls 3 [(0, .ref h1), (1, .int (nI j)), (2, .int (nI x))] := hl
  refine lv_iload_n hx hb dX0_put_0 rfl (lv_at hl 1 rfl) ?_
  refine ifN_lt (tgt := 20) hx hb dX0_put_1 (by decide) (by omega) (fun c_1 => absurd c_1 id) (fun c_1 => ?_)
  refine lv_iload_n hx hb dX0_put_4 rfl (lv_at hl 1 rfl) ?_
  refine lv_aload_n hx hb dX0_put_5 rfl (lv_at hl 0 rfl) ?_
  refine va_get (D := (dC, dI)) (ci := 0) (v := .ref h5) (C := RX0) (T := TX0) (N := 2) hx hb hts inX0 hown hK hP 0 rfl rfl 0 (by decide) (hts _ q_fl_X0_9) (fun _ h9 => h9) rfl dX0_put_6 ?_
  refine va_alen (v := nI 243) hx hb hK hP 1 0 rfl rfl rfl dX0_put_9 ?_
  refine icN_ge (tgt := 20) hx hb dX0_put_10 (by decide) (by omega) (by omega) (fun c_10 => absurd c_10 (by omega)) (fun c_10 => ?_)
  refine lv_aload_n hx hb dX0_put_13 rfl (lv_at hl 0 rfl) ?_
  refine va_get (D := (dC, dI)) (ci := 0) (v := .ref h5) (C := RX0) (T := TX0) (N := 2) hx hb hts inX0 hown hK hP 0 rfl rfl 0 (by decide) (hts _ q_fl_X0_9) (fun _ h9 => h9) rfl dX0_put_14 ?_
  refine lv_iload_n hx hb dX0_put_17 rfl (lv_at hl 1 rfl) ?_
  refine lv_iload_n hx hb dX0_put_18 rfl (lv_at hl 2 rfl) ?_
  refine ia_st hx hb hK hP hD hS 1 0 rfl rfl (j := j) (v := x) (by omega) (by decide) dX0_put_19 (fun H locs hP hD hS => ?_)
  have hP : va_P (dC, dI) vwCl (waW cI h1 h5 c (upN hf j x)) H := hP
  have hD : va_D (wIn (waW cI h1 h5 c hf)) (waW cI h1 h5 c (upN hf j x)) := hD
  exact ret (waW cI h1 h5 c (upN hf j x)) _ _ _ _ dX0_put_20 rfl (List.Perm.refl _) hP hS

set_option maxHeartbeats 4000000 in
set_option maxRecDepth 100000 in
theorem m_X0_copyFrom (h1 h5 c : Nat) (hf : Nat → Nat) (h2 h6 c2 : Nat) (tf : Nat → Nat) (hc2 : c2 ≤ 243) : Mv l yX0_copyFrom ws_X0_copyFrom 1 21 (dC, dI) (tyL cI cZ cJ) [.ref h1, .ref h2] (wbW cI h1 h5 c hf h2 h6 c2 tf) (fun u => ∃ hf2, u = wbW cI h1 h5 c2 hf2 h2 h6 c2 tf ∧ ∀ j, j < c2 → hf2 j = tf j) := by
  refine Mv_of (by decide +kernel) (Nat.le_of_ble_eq_true rfl) ?_
  intro pr ev sx mi ag bl me cd Q ls S hP hK hD hZ hl ret
  obtain ⟨hx, hb, hml, hown, hts⟩ := id S
  have hown : sx.vm.findClass RX0 = some mi.cls := hown
  have hS : va_S (wIn (wbW cI h1 h5 c hf h2 h6 c2 tf)) sx.heap sx.heap [] := va_S.rf
  have hl : lv_has ls 3 [(0, .ref h1), (1, .ref h2)] := hl
  refine lv_aload_n hx hb dX0_copyFrom_0 rfl (lv_at hl 0 rfl) ?_
  refine call_Vv (As := []) (wr := [(h2, .inr (0, [.ref h6, .int (nI c2)])), (h6, .inl (cI, 243, .inl (fun k => nI (tf k))))]) (rest := []) S (m_X0_clear h1 h5 c hf) g_X0_X0_clear hd_X0_clear ⟨Nat.le_of_ble_eq_true rfl, Nat.le_of_ble_eq_true rfl⟩ ⟨Nat.zero_le _, Nat.zero_le _⟩ hP hD hK hS hZ [0, 1] [2, 3] rfl rfl (by decide) 0 rfl rfl hl.1 rfl (Nat.le_of_ble_eq_true rfl) dX0_copyFrom_1 (fun u H locs hq hP hD hS => ?_)
  obtain rfl := hq
  have hP := hP.sub (ws' := wbW cI h1 h5 0 hf h2 h6 c2 tf) [2, 3, 0, 1] rfl
  have hD := hD.sub (ws' := wbW cI h1 h5 0 hf h2 h6 c2 tf) [2, 3, 0, 1] (by decide) rfl
  refine lv_iconst (v := nI 0) hx hb dX0_copyFrom_4 (by decide) ?_
  refine lv_istore_n (lv' := [(2, .int (nI 0)), (0, .ref h1), (1, .ref h2)]) hx hb dX0_copyFrom_5 rfl hl (by decide) rfl (fun ls hl => ?_)
  have lp6 : ∀ (kf : Nat) (i : Nat) (g : Nat → Nat), c2 < i + kf → (i ≤ c2) → (∀ j, j < i → g j = tf j) → ∀ (H : Heap) (locs : List Loc), va_P (dC, dI) vwCl (wbW cI h1 h5 i g h2 h6 c2 tf) H → va_D (wIn (wbW cI h1 h5 c hf h2 h6 c2 tf)) (wbW cI h1 h5 i g h2 h6 c2 tf) → va_S (wIn (wbW cI h1 h5 c hf h2 h6 c2 tf)) sx.heap H locs → ∀ ls : Array Slot, lv_has ls 3 [(2, .int (nI i)), (0, .ref h1), (1, .ref h2)] → W pr l ev (rmB 1 21) sx mi ag bl me cd H locs 0 0 Q (F0 mi 6 ls []) := by
    intro kf
    induction kf with
    | zero => intro i g hkf hi hg; exact absurd hkf (by omega)
    | succ kf ih6 =>
      intro i g hkf hi hg H locs hP hD hS ls hl
      refine lv_iload_n hx hb dX0_copyFrom_6 rfl (lv_at hl 0 rfl) ?_
      refine lv_aload_n hx hb dX0_copyFrom_7 rfl (lv_at hl 2 rfl) ?_
      refine call_Vp (As := []) (rest := [.int (nI i)]) S (m_X0_count h2 h6 c2 tf) g_X0_X0_count hd_X0_count ⟨Nat.le_of_ble_eq_true rfl, Nat.le_of_ble_eq_true rfl⟩ ⟨Nat.zero_le _, Nat.zero_le _⟩ hP hD hK hS hZ [2, 3] rfl (by decide) 0 rfl rfl hl.1 rfl (Nat.le_of_ble_eq_true rfl) dX0_copyFrom_8 (fun r H locs hq hP hS => ?_)
      obtain rfl := hq
      refine icN_ge (tgt := 29) hx hb dX0_copyFrom_11 (by decide) (by omega) (by omega) (fun c_11 => ?_) (fun c_11 => ?_)
      · exact ret (wbW cI h1 h5 i g h2 h6 c2 tf) _ _ _ _ dX0_copyFrom_29 ⟨g, by rw [show i = c2 by omega], fun j hj => hg j (by omega)⟩ (List.Perm.refl _) hP hS
      · refine lv_aload_n hx hb dX0_copyFrom_14 rfl (lv_at hl 1 rfl) ?_
        refine lv_aload_n hx hb dX0_copyFrom_15 rfl (lv_at hl 2 rfl) ?_
        refine lv_iload_n hx hb dX0_copyFrom_16 rfl (lv_at hl 0 rfl) ?_
        refine call_Vp (As := [.int (nI i)]) (rest := [.ref h1]) S (m_X0_at h2 h6 c2 tf i (by omega)) g_X0_X0_at hd_X0_at ⟨Nat.le_of_ble_eq_true rfl, Nat.le_of_ble_eq_true rfl⟩ ⟨Nat.zero_le _, Nat.zero_le _⟩ hP hD hK hS hZ [2, 3] rfl (by decide) 0 rfl rfl hl.1 rfl (Nat.le_of_ble_eq_true rfl) dX0_copyFrom_17 (fun r H locs hq hP hS => ?_)
        obtain rfl := hq
        refine call_Vv (As := [.int (nI (tf i))]) (wr := [(h2, .inr (0, [.ref h6, .int (nI c2)])), (h6, .inl (cI, 243, .inl (fun k => nI (tf k))))]) (rest := []) S (m_X0_add h1 h5 i g (tf i) (by omega)) g_X0_X0_add hd_X0_add ⟨Nat.le_of_ble_eq_true rfl, Nat.le_of_ble_eq_true rfl⟩ ⟨Nat.zero_le _, Nat.zero_le _⟩ hP hD hK hS hZ [0, 1] [2, 3] rfl rfl (by decide) 0 rfl rfl hl.1 rfl (Nat.le_of_ble_eq_true rfl) dX0_copyFrom_20 (fun u H locs hq hP hD hS => ?_)
        obtain rfl := hq
        have hP := hP.sub (ws' := wbW cI h1 h5 (i + 1) (upN g i (tf i)) h2 h6 c2 tf) [2, 3, 0, 1] rfl
        have hD := hD.sub (ws' := wbW cI h1 h5 (i + 1) (upN g i (tf i)) h2 h6 c2 tf) [2, 3, 0, 1] (by decide) rfl
        refine lv_iinc (v := nI (i + 1)) (lv' := [(2, .int (nI (i + 1))), (0, .ref h1), (1, .ref h2)]) hx hb dX0_copyFrom_23 hl (k := 0) rfl (nI_add _ _) (by decide) rfl (fun ls hl => ?_)
        refine lv_goto (tgt := 6) hx hb dX0_copyFrom_26 (by decide) ?_
        exact ih6 (i + 1) _ (by omega) (by omega) (fun j hj => by by_cases hji : j = i; (· subst hji; exact upN_s _ _ _); (· rw [upN_n _ _ hji]; exact hg j (by omega))) _ _ hP hD hS _ (lv_sub hl [0, 1, 2] rfl)
  exact lp6 (c2 + 1) 0 hf (by omega) (by omega) (fun j hj => absurd hj (by omega)) _ _ hP hD hS _ (lv_sub hl [0, 1, 2] rfl)

set_option maxHeartbeats 4000000 in
set_option maxRecDepth 100000 in
theorem m_X1_shiftOf (p : Nat) : Mp l yX1_shiftOf ws_X1_shiftOf 0 0 (dC, dI) (tyL cI cZ cJ) [.int (nI p)] ([]) (fun r => r = nI (p * 2)) := by
  refine Mi_of (by decide +kernel) (Nat.le_of_ble_eq_true rfl) ?_
  intro pr ev sx mi ag bl me cd Q ls S hP hK hD hZ hl ret
  obtain ⟨hx, hb, hml, hown, hts⟩ := id S
  have hown : sx.vm.findClass RX1 = some mi.cls := hown
  have hS : va_S (wIn ([])) sx.heap sx.heap [] := va_S.rf
  have hl : lv_has ls 1 [(0, .int (nI p))] := hl
  refine lv_iload_n hx hb dX1_shiftOf_0 rfl (lv_at hl 0 rfl) ?_
  refine lv_iconst (v := nI 2) hx hb dX1_shiftOf_1 (by decide) ?_
  refine lv_imul hx hb dX1_shiftOf_2 ?_
  refine W_i (y := nI (p * 2)) (pk_mul _ _) ?_
  exact ret _ ([]) _ _ _ _ dX1_shiftOf_3 rfl ⟨rfl, rfl⟩ (List.Perm.refl _) hP hS

set_option maxHeartbeats 4000000 in
set_option maxRecDepth 100000 in
theorem m_X1_hatMask (p : Nat) (hp : p < 5) : Mp l yX1_hatMask ws_X1_hatMask 1 20 (dC, dI) (tyL cI cZ cJ) [.int (nI p)] ([]) (fun r => r = nI (3 * 2 ^ (p * 2))) := by
  refine Mi_of (by decide +kernel) (Nat.le_of_ble_eq_true rfl) ?_
  intro pr ev sx mi ag bl me cd Q ls S hP hK hD hZ hl ret
  obtain ⟨hx, hb, hml, hown, hts⟩ := id S
  have hown : sx.vm.findClass RX1 = some mi.cls := hown
  have hS : va_S (wIn ([])) sx.heap sx.heap [] := va_S.rf
  have hl : lv_has ls 1 [(0, .int (nI p))] := hl
  refine lv_iconst (v := nI 3) hx hb dX1_hatMask_0 (by decide) ?_
  refine lv_iload_n hx hb dX1_hatMask_1 rfl (lv_at hl 0 rfl) ?_
  refine call_Sp (As := [.int (nI p)]) (rest := [.int (nI 3)]) S (m_X1_shiftOf p ) g_X1_X1_shiftOf hd_X1_shiftOf ⟨Nat.le_of_ble_eq_true rfl, Nat.le_of_ble_eq_true rfl⟩ ⟨Nat.zero_le _, Nat.zero_le _⟩ hP hD hK hS hZ [] rfl (by decide) hl.1 rfl (Nat.le_of_ble_eq_true rfl) dX1_hatMask_2 (fun r H locs hq hP hS => ?_)
  obtain rfl := hq
  refine lv_ishl hx hb dX1_hatMask_5 ?_
  refine W_i (y := nI (3 * 2 ^ (p * 2))) (nI_shl _ (by omega)) ?_
  exact ret _ ([]) _ _ _ _ dX1_hatMask_6 rfl ⟨rfl, rfl⟩ (List.Perm.refl _) hP hS

set_option maxHeartbeats 4000000 in
set_option maxRecDepth 100000 in
theorem m_X1_colourIn (x p : Nat) (hx : x < 1024) (hp : p < 5) : Mp l yX1_colourIn ws_X1_colourIn 0 0 (dC, dI) (tyL cI cZ cJ) [.int (nI x), .int (nI p)] ([]) (fun r => r = nI (qd x p)) := by
  refine Mi_of (by decide +kernel) (Nat.le_of_ble_eq_true rfl) ?_
  intro pr ev sx mi ag bl me cd Q ls S hP hK hD hZ hl ret
  obtain ⟨hx, hb, hml, hown, hts⟩ := id S
  have hown : sx.vm.findClass RX1 = some mi.cls := hown
  have hS : va_S (wIn ([])) sx.heap sx.heap [] := va_S.rf
  have hl : lv_has ls 2 [(0, .int (nI x)), (1, .int (nI p))] := hl
  refine lv_iload_n hx hb dX1_colourIn_0 rfl (lv_at hl 0 rfl) ?_
  refine lv_iload_n hx hb dX1_colourIn_1 rfl (lv_at hl 1 rfl) ?_
  refine lv_iconst (v := nI 2) hx hb dX1_colourIn_2 (by decide) ?_
  refine lv_imul hx hb dX1_colourIn_3 ?_
  refine W_i (y := nI (p * 2)) (pk_mul _ _) ?_
  refine lv_ishr hx hb dX1_colourIn_4 ?_
  refine W_i (y := nI (x / 2 ^ (p * 2))) (nI_shr (by omega) (by omega)) ?_
  refine lv_iconst (v := nI 3) hx hb dX1_colourIn_5 (by decide) ?_
  refine lv_iand hx hb dX1_colourIn_6 ?_
  refine W_i (y := nI ((x / 2 ^ (p * 2)) &&& 3)) (nI_and _ _) ?_
  exact ret _ ([]) _ _ _ _ dX1_colourIn_7 rfl ⟨rfl, rfl⟩ (List.Perm.refl _) hP hS

set_option maxHeartbeats 4000000 in
set_option maxRecDepth 100000 in
theorem m_X1_exchanged (x p q : Nat) (hx : x < 1024) (hp : p < 5) (hq : q < 5) : Mp l yX1_exchanged ws_X1_exchanged 1 21 (dC, dI) (tyL cI cZ cJ) [.int (nI x), .int (nI p), .int (nI q)] ([]) (fun r => r = nI (xch x p q)) := by
  refine Mi_of (by decide +kernel) (Nat.le_of_ble_eq_true rfl) ?_
  intro pr ev sx mi ag bl me cd Q ls S hP hK hD hZ hl ret
  obtain ⟨hx, hb, hml, hown, hts⟩ := id S
  have hown : sx.vm.findClass RX1 = some mi.cls := hown
  have hS : va_S (wIn ([])) sx.heap sx.heap [] := va_S.rf
  have hl : lv_has ls 4 [(0, .int (nI x)), (1, .int (nI p)), (2, .int (nI q))] := hl
  refine lv_iload_n hx hb dX1_exchanged_0 rfl (lv_at hl 0 rfl) ?_
  refine lv_iload_n hx hb dX1_exchanged_1 rfl (lv_at hl 1 rfl) ?_
  refine call_Sp (As := [.int (nI x), .int (nI p)]) (rest := []) S (m_X1_colourIn x p (by omega) (by omega)) g_X1_X1_colourIn hd_X1_colourIn ⟨Nat.le_of_ble_eq_true rfl, Nat.le_of_ble_eq_true rfl⟩ ⟨Nat.zero_le _, Nat.zero_le _⟩ hP hD hK hS hZ [] rfl (by decide) hl.1 rfl (Nat.le_of_ble_eq_true rfl) dX1_exchanged_2 (fun r H locs hq hP hS => ?_)
  obtain rfl := hq
  refine lv_iload_n hx hb dX1_exchanged_5 rfl (lv_at hl 0 rfl) ?_
  refine lv_iload_n hx hb dX1_exchanged_6 rfl (lv_at hl 2 rfl) ?_
  refine call_Sp (As := [.int (nI x), .int (nI q)]) (rest := [.int (nI (qd x p))]) S (m_X1_colourIn x q (by omega) (by omega)) g_X1_X1_colourIn hd_X1_colourIn ⟨Nat.le_of_ble_eq_true rfl, Nat.le_of_ble_eq_true rfl⟩ ⟨Nat.zero_le _, Nat.zero_le _⟩ hP hD hK hS hZ [] rfl (by decide) hl.1 rfl (Nat.le_of_ble_eq_true rfl) dX1_exchanged_7 (fun r H locs hq hP hS => ?_)
  obtain rfl := hq
  refine lv_ixor hx hb dX1_exchanged_10 ?_
  refine W_i (y := nI ((qd x p) ^^^ (qd x q))) (nI_xor _ _) ?_
  refine lv_istore_n (lv' := [(3, .int (nI ((qd x p) ^^^ (qd x q)))), (0, .int (nI x)), (1, .int (nI p)), (2, .int (nI q))]) hx hb dX1_exchanged_11 rfl hl (by decide) rfl (fun ls hl => ?_)
  refine lv_iload_n hx hb dX1_exchanged_12 rfl (lv_at hl 1 rfl) ?_
  refine lv_iload_n hx hb dX1_exchanged_13 rfl (lv_at hl 0 rfl) ?_
  refine lv_iload_n hx hb dX1_exchanged_14 rfl (lv_at hl 2 rfl) ?_
  refine call_Sp (As := [.int (nI p)]) (rest := [.int (nI ((qd x p) ^^^ (qd x q))), .int (nI x)]) S (m_X1_shiftOf p ) g_X1_X1_shiftOf hd_X1_shiftOf ⟨Nat.le_of_ble_eq_true rfl, Nat.le_of_ble_eq_true rfl⟩ ⟨Nat.zero_le _, Nat.zero_le _⟩ hP hD hK hS hZ [] rfl (by decide) hl.1 rfl (Nat.le_of_ble_eq_true rfl) dX1_exchanged_15 (fun r H locs hq hP hS => ?_)
  obtain rfl := hq
  refine lv_ishl hx hb dX1_exchanged_18 ?_
  refine W_i (y := nI (((qd x p) ^^^ (qd x q)) * 2 ^ (p * 2))) (nI_shl _ (by omega)) ?_
  refine lv_ixor hx hb dX1_exchanged_19 ?_
  refine W_i (y := nI (x ^^^ (((qd x p) ^^^ (qd x q)) * 2 ^ (p * 2)))) (nI_xor _ _) ?_
  refine lv_iload_n hx hb dX1_exchanged_20 rfl (lv_at hl 0 rfl) ?_
  refine lv_iload_n hx hb dX1_exchanged_21 rfl (lv_at hl 3 rfl) ?_
  refine call_Sp (As := [.int (nI q)]) (rest := [.int (nI ((qd x p) ^^^ (qd x q))), .int (nI (x ^^^ (((qd x p) ^^^ (qd x q)) * 2 ^ (p * 2))))]) S (m_X1_shiftOf q ) g_X1_X1_shiftOf hd_X1_shiftOf ⟨Nat.le_of_ble_eq_true rfl, Nat.le_of_ble_eq_true rfl⟩ ⟨Nat.zero_le _, Nat.zero_le _⟩ hP hD hK hS hZ [] rfl (by decide) hl.1 rfl (Nat.le_of_ble_eq_true rfl) dX1_exchanged_22 (fun r H locs hq hP hS => ?_)
  obtain rfl := hq
  refine lv_ishl hx hb dX1_exchanged_25 ?_
  refine W_i (y := nI (((qd x p) ^^^ (qd x q)) * 2 ^ (q * 2))) (nI_shl _ (by omega)) ?_
  refine lv_ixor hx hb dX1_exchanged_26 ?_
  refine W_i (y := nI ((x ^^^ (((qd x p) ^^^ (qd x q)) * 2 ^ (p * 2))) ^^^ (((qd x p) ^^^ (qd x q)) * 2 ^ (q * 2)))) (nI_xor _ _) ?_
  exact ret _ ([]) _ _ _ _ dX1_exchanged_27 rfl ⟨rfl, rfl⟩ (List.Perm.refl _) hP hS

end
end
section
/-! the held ways as a list; what the helpers answer over it -/
def Lof (f : Nat → Nat) (c : Nat) : List Nat := (List.range c).map f
theorem Lof_s (f : Nat → Nat) (i : Nat) : Lof f (i + 1) = Lof f i ++ [f i] := by simp [Lof, List.range_succ]
theorem Lof_len (f : Nat → Nat) (c : Nat) : (Lof f c).length = c := by simp [Lof]
theorem Lof_congr {f g : Nat → Nat} {c : Nat} (h : ∀ j, j < c → f j = g j) : Lof f c = Lof g c := by
  refine List.map_congr_left (fun j hj => h j (List.mem_range.mp hj))
theorem Lof_up (f : Nat → Nat) (k v : Nat) : Lof (upN f k v) k = Lof f k := Lof_congr (fun j hj => upN_n f v (by omega))
theorem Lof_mem {f : Nat → Nat} {c x : Nat} : x ∈ Lof f c ↔ ∃ j, j < c ∧ f j = x := by simp [Lof]
theorem Lof_bd {f g : Nat → Nat} {c k : Nat} {P : Nat → Bool} (h : Lof g k = (Lof f c).filter P) (hb : ∀ j, j < c → f j < 1024) : ∀ j, j < k → g j < 1024 := by
  intro j hj
  have : g j ∈ Lof g k := Lof_mem.mpr ⟨j, hj, rfl⟩
  rw [h, List.mem_filter] at this
  obtain ⟨i, hi, e⟩ := Lof_mem.mp this.1
  rw [← e]; exact hb i hi
theorem Lof_le {f g : Nat → Nat} {c k : Nat} {P : Nat → Bool} (h : Lof g k = (Lof f c).filter P) : k ≤ c := by
  have := List.length_filter_le P (Lof f c)
  rw [← h, Lof_len, Lof_len] at this
  exact this
theorem cnt_t {P : Nat → Bool} {f : Nat → Nat} {i a : Nat} (hp : P (f i) = true) (ha : a = (Lof f i).countP P) : a + 1 = (Lof f (i + 1)).countP P := by
  rw [Lof_s, List.countP_append, ← ha]; simp [hp]
theorem cnt_f {P : Nat → Bool} {f : Nat → Nat} {i a : Nat} (hp : P (f i) = false) (ha : a = (Lof f i).countP P) : a = (Lof f (i + 1)).countP P := by
  rw [Lof_s, List.countP_append, ← ha]; simp [hp]
theorem cnt_le {P : Nat → Bool} {f : Nat → Nat} {i a : Nat} (ha : a = (Lof f i).countP P) : a ≤ i := by
  have := List.countP_le_length (p := P) (l := Lof f i)
  rw [Lof_len] at this; omega
theorem flt_t {P : Nat → Bool} {f g : Nat → Nat} {i k : Nat} (hx : g i = f i) (hp : P (g i) = true) (h : Lof g k = (Lof f i).filter P) : Lof (upN g k (g i)) (k + 1) = (Lof f (i + 1)).filter P := by
  rw [Lof_s, Lof_s, List.filter_append, Lof_up, upN_s, h, ← hx]; simp [hp]
theorem flt_f {P : Nat → Bool} {f g : Nat → Nat} {i k : Nat} (hx : g i = f i) (hp : P (g i) = false) (h : Lof g k = (Lof f i).filter P) : Lof g k = (Lof f (i + 1)).filter P := by
  rw [Lof_s, List.filter_append, h, ← hx]; simp [hp]
theorem and_l {a b : Nat} (h : a < 1024) : a &&& b < 1024 := Nat.lt_of_le_of_lt Nat.and_le_left h
theorem and_r {a b : Nat} (h : b < 1024) : a &&& b < 1024 := Nat.lt_of_le_of_lt Nat.and_le_right h
theorem xor_k {a b : Nat} (h : a < 1024) (h2 : b < 1024) : a ^^^ b < 1024 := Nat.xor_lt_two_pow (n := 10) h h2
theorem or_k {a b : Nat} (h : a < 1024) (h2 : b < 1024) : a ||| b < 1024 := Nat.or_lt_two_pow (n := 10) h h2
theorem or_16 {a b : Nat} (h : a < 16) (h2 : b < 16) : a ||| b < 16 := Nat.or_lt_two_pow (n := 4) h h2
theorem lt_31 {a : Nat} (h : a < 1024) : a < 2 ^ 31 := by omega
theorem bI_t {b : Bool} (h : b = true) : nI 1 = bI b := by rw [h]; rfl
theorem bI_f {b : Bool} (h : b = false) : nI 0 = bI b := by rw [h]; rfl
theorem msk_lt {p : Nat} (h : p < 5) : 3 * 2 ^ (p * 2) < 1024 := by
  have : ∀ p, p < 5 → 3 * 2 ^ (p * 2) < 1024 := by decide
  exact this p h
theorem bit_lt (x p : Nat) : 1 * 2 ^ qd x p < 16 := by
  have := qd_lt x p
  have h : ∀ k, k < 4 → 1 * 2 ^ k < 16 := by decide
  exact h _ this
def agr (wn x m : Nat) : Bool := ((x ^^^ wn) &&& m) == 0
def vw (x m : Nat) : Nat := (x &&& m) &&& 1023
theorem vw_lt (x m : Nat) : vw x m < 1024 := Nat.lt_of_le_of_lt Nat.and_le_right (by omega)
def pcol (wn m q : Nat) (L : List Nat) : Nat := L.foldl (fun a x => if agr wn x m then a ||| (1 * 2 ^ qd x q) else a) 0
theorem pcol_t {wn m q : Nat} {f : Nat → Nat} {i a : Nat} (hp : agr wn (f i) m = true) (ha : a = pcol wn m q (Lof f i)) : a ||| (1 * 2 ^ qd (f i) q) = pcol wn m q (Lof f (i + 1)) := by
  rw [Lof_s, pcol, List.foldl_append, ← pcol, ← ha]; simp [hp]
theorem pcol_f {wn m q : Nat} {f : Nat → Nat} {i a : Nat} (hp : agr wn (f i) m = false) (ha : a = pcol wn m q (Lof f i)) : a = pcol wn m q (Lof f (i + 1)) := by
  rw [Lof_s, pcol, List.foldl_append, ← pcol, ← ha]; simp [hp]
theorem pcol_lt (wn m q : Nat) (L : List Nat) : pcol wn m q L < 16 := by
  have : ∀ (L : List Nat) (a : Nat), a < 16 → L.foldl (fun a x => if agr wn x m then a ||| (1 * 2 ^ qd x q) else a) a < 16 := by
    intro L
    induction L with
    | nil => intro a h; exact h
    | cons x t ih =>
      intro a h
      simp only [List.foldl_cons]
      refine ih _ ?_
      split
      · exact or_16 h (bit_lt x q)
      · exact h
  exact this L 0 (by omega)
def ocol (m p : Nat) (L : List Nat) (v : Nat) : Nat := L.foldl (fun a x => if vw x m == v then a ||| (1 * 2 ^ qd x p) else a) 0
theorem ocol_t {m p v : Nat} {f : Nat → Nat} {i : Nat} (hp : vw (f i) m = v) : ocol m p (Lof f i) v ||| (1 * 2 ^ qd (f i) p) = ocol m p (Lof f (i + 1)) v := by
  rw [Lof_s, ocol, ocol, List.foldl_append]; simp [hp]
theorem ocol_f {m p v : Nat} {f : Nat → Nat} {i : Nat} (hp : vw (f i) m ≠ v) : ocol m p (Lof f i) v = ocol m p (Lof f (i + 1)) v := by
  rw [Lof_s, ocol, ocol, List.foldl_append]; simp [hp]
theorem ocol_lt (m p v : Nat) (L : List Nat) : ocol m p L v < 16 := by
  have : ∀ (L : List Nat) (a : Nat), a < 16 → L.foldl (fun a x => if vw x m == v then a ||| (1 * 2 ^ qd x p) else a) a < 16 := by
    intro L
    induction L with
    | nil => intro a h; exact h
    | cons x t ih =>
      intro a h
      simp only [List.foldl_cons]
      refine ih _ ?_
      split
      · exact or_16 h (bit_lt x p)
      · exact h
  exact this L 0 (by omega)
def cert (wn m p : Nat) (L : List Nat) : Bool := one1 (pcol wn m p L)
def wbc (m p : Nat) (L : List Nat) (x : Nat) : Bool := one1 (ocol m p L (vw x m))
def certN (wn : Nat) (s : Nat → Nat) (L : List Nat) : Nat → Nat
  | 0 => 0
  | p + 1 => certN wn s L p + if cert wn (s p) p L then 1 else 0
theorem certN_le (wn : Nat) (s : Nat → Nat) (L : List Nat) : ∀ p, certN wn s L p ≤ p
  | 0 => Nat.le_refl 0
  | p + 1 => by
    have := certN_le wn s L p
    simp only [certN]
    split <;> omega
def turnL (wn m p : Nat) (L : List Nat) : List Nat := if cert wn m p L then (L.filter (fun x => wbc m p L x == true)).filter (fun x => qd x p == qd wn p) else L.filter (fun x => wbc m p L x == false)
def aftN (n p : Nat) : Nat := if p + 1 < n then p + 1 else 0
def allC (wn : Nat) (s : Nat → Nat) (lo hi : Nat) (L : List Nat) : Bool := (List.range hi).all (fun p => decide (p < lo) || cert wn (s p) p L)
theorem allC_t {wn lo hi i : Nat} {s : Nat → Nat} {L : List Nat} (h : ∀ p, lo ≤ p → p < i → cert wn (s p) p L = true) (hi2 : hi ≤ i) : allC wn s lo hi L = true := by
  refine List.all_eq_true.mpr (fun p hp => ?_)
  have := List.mem_range.mp hp
  by_cases hl : p < lo
  · simp [hl]
  · simp [h p (by omega) (by omega)]
theorem allC_f {wn lo hi i : Nat} {s : Nat → Nat} {L : List Nat} (h1 : lo ≤ i) (h2 : i < hi) (h : cert wn (s i) i L = false) : allC wn s lo hi L = false := by
  cases hc : allC wn s lo hi L with
  | false => rfl
  | true =>
    have := List.all_eq_true.mp hc i (List.mem_range.mpr h2)
    rw [h] at this
    simp at this
    omega
/-- behind how many turns (at most k) all from lo to hi are certain -/
def untilL (n wn : Nat) (s : Nat → Nat) (lo hi : Nat) : Nat → List Nat → Nat → Option Nat
  | 0, L, _ => if allC wn s lo hi L then some 0 else none
  | k + 1, L, p => if allC wn s lo hi L then some 0 else (untilL n wn s lo hi k (turnL wn (s p) p L) (aftN n p)).map (· + 1)
def oI : Option Nat → Int32
  | none => -1
  | some v => nI v
theorem nI_hi {hi i : Nat} (h1 : hi < 2 ^ 30) (h2 : i < 2 ^ 30) : nI hi - 1 < nI i ↔ hi ≤ i := by
  rw [Int32.lt_iff_toInt_lt, show (1 : Int32) = nI 1 from rfl, pk_sub_toInt (by omega) (by omega), nI_toInt (by omega)]
  omega
def mskN : Nat → Nat
  | 0 => 0
  | k + 1 => mskN k ||| 3 * 2 ^ (k * 2)
def lkS (s : Nat → Nat) (p i : Nat) : Nat → Nat := fun k => if k < i then s k ||| 3 * 2 ^ (p * 2) else s k
theorem lkS_s (s : Nat → Nat) (p i : Nat) : upN (lkS s p i) i (lkS s p i i ||| 3 * 2 ^ (p * 2)) = lkS s p (i + 1) := by
  funext k
  by_cases h : k = i
  · subst h; simp [upN, lkS]
  · by_cases h2 : k < i
    · simp [upN, lkS, h, h2, show k < i + 1 by omega]
    · simp [upN, lkS, h, h2, show ¬ k < i + 1 by omega]
def addL (p cl : Nat) (L : List Nat) : List Nat := L.map (fun x => x ||| (cl * 2 ^ (p * 2)))
def ocL (p : Nat) (L : List Nat) : Nat → List Nat
  | 0 => L
  | c + 1 => ocL p L c ++ addL p (c + 1) L
section
variable {l : Launch} {dC : Nat → ClassId} {dI : Nat → Nat → Nat} {cI cZ cJ : ClassId}

set_option maxHeartbeats 4000000 in
set_option maxRecDepth 100000 in
theorem m_X1_hatsIn (h0 h1 h2 h3 h4 h5 h6 p1 p2 n wn t tc sc : Nat) (uw : Bool) (c1 c2 : Nat) (s ow hf tf : Nat → Nat) (x co : Nat) (hn : n ≤ 5) (hx2 : x < 1024) (hco : co < 3) : Mp l yX1_hatsIn ws_X1_hatsIn 1 21 (dC, dI) (tyL cI cZ cJ) [.ref h0, .int (nI x), .int (nI co)] (gW cI h0 h1 h2 h3 h4 h5 h6 p1 p2 n wn t tc sc uw c1 c2 s ow hf tf) (fun r => r = nI (hatsN n x co)) := by
  refine Mi_of (by decide +kernel) (Nat.le_of_ble_eq_true rfl) ?_
  intro pr ev sx mi ag bl me cd Q ls S hP hK hD hZ hl ret
  obtain ⟨hx, hb, hml, hown, hts⟩ := id S
  have hown : sx.vm.findClass RX1 = some mi.cls := hown
  have hS : va_S (wIn (gW cI h0 h1 h2 h3 h4 h5 h6 p1 p2 n wn t tc sc uw c1 c2 s ow hf tf)) sx.heap sx.heap [] := va_S.rf
  have hl : lv_has ls 5 [(0, .ref h0), (1, .int (nI x)), (2, .int (nI co))] := hl
  refine lv_iconst (v := nI 0) hx hb dX1_hatsIn_0 (by decide) ?_
  refine lv_istore_n (lv' := [(3, .int (nI 0)), (0, .ref h0), (1, .int (nI x)), (2, .int (nI co))]) hx hb dX1_hatsIn_1 rfl hl (by decide) rfl (fun ls hl => ?_)
  refine lv_iconst (v := nI 0) hx hb dX1_hatsIn_2 (by decide) ?_
  refine lv_istore (lv' := [(4, .int (nI 0)), (3, .int (nI 0)), (0, .ref h0), (1, .int (nI x)), (2, .int (nI co))]) hx hb dX1_hatsIn_3 hl (by decide) rfl (fun ls hl => ?_)
  have lp5 : ∀ (kf : Nat) (i : Nat) (a : Nat), n < i + kf → (i ≤ n) → (a = hatsN i x co) → ∀ (H : Heap) (locs : List Loc), va_P (dC, dI) vwCl (gW cI h0 h1 h2 h3 h4 h5 h6 p1 p2 n wn t tc sc uw c1 c2 s ow hf tf) H → va_D (wIn (gW cI h0 h1 h2 h3 h4 h5 h6 p1 p2 n wn t tc sc uw c1 c2 s ow hf tf)) (gW cI h0 h1 h2 h3 h4 h5 h6 p1 p2 n wn t tc sc uw c1 c2 s ow hf tf) → va_S (wIn (gW cI h0 h1 h2 h3 h4 h5 h6 p1 p2 n wn t tc sc uw c1 c2 s ow hf tf)) sx.heap H locs → ∀ ls : Array Slot, lv_has ls 5 [(4, .int (nI i)), (3, .int (nI a)), (0, .ref h0), (1, .int (nI x)), (2, .int (nI co))] → W pr l ev (rmB 1 21) sx mi ag bl me cd H locs 0 0 Q (F0 mi 5 ls []) := by
    intro kf
    induction kf with
    | zero => intro i a hkf hi ha; exact absurd hkf (by omega)
    | succ kf ih5 =>
      intro i a hkf hi ha H locs hP hD hS ls hl
      refine lv_iload hx hb dX1_hatsIn_5 (lv_at hl 0 rfl) ?_
      refine lv_aload_n hx hb dX1_hatsIn_7 rfl (lv_at hl 2 rfl) ?_
      refine va_get (D := (dC, dI)) (ci := 1) (v := .int (nI n)) (C := RX1) (T := TX1) (N := 10) hx hb hts inX1 hown hK hP 0 rfl rfl 4 (by decide) (hts _ q_fl_X1_26) (fun _ h9 => h9) rfl dX1_hatsIn_8 ?_
      refine icN_ge (tgt := 33) hx hb dX1_hatsIn_11 (by decide) (by omega) (by omega) (fun c_11 => ?_) (fun c_11 => ?_)
      · refine lv_iload_n hx hb dX1_hatsIn_33 rfl (lv_at hl 1 rfl) ?_
        exact ret _ (gW cI h0 h1 h2 h3 h4 h5 h6 p1 p2 n wn t tc sc uw c1 c2 s ow hf tf) _ _ _ _ dX1_hatsIn_34 rfl ⟨rfl, by rw [ha, show i = n by omega]⟩ (List.Perm.refl _) hP hS
      · refine lv_iload_n hx hb dX1_hatsIn_14 rfl (lv_at hl 3 rfl) ?_
        refine lv_iload hx hb dX1_hatsIn_15 (lv_at hl 0 rfl) ?_
        refine call_Sp (As := [.int (nI x), .int (nI i)]) (rest := []) S (m_X1_colourIn x i (by omega) (by omega)) g_X1_X1_colourIn hd_X1_colourIn ⟨Nat.le_of_ble_eq_true rfl, Nat.le_of_ble_eq_true rfl⟩ ⟨Nat.zero_le _, Nat.zero_le _⟩ hP hD hK hS hZ [] rfl (by decide) hl.1 rfl (Nat.le_of_ble_eq_true rfl) dX1_hatsIn_17 (fun r H locs hq hP hS => ?_)
        obtain rfl := hq
        refine lv_iload_n hx hb dX1_hatsIn_20 rfl (lv_at hl 4 rfl) ?_
        refine icN_ne (tgt := 27) hx hb dX1_hatsIn_21 (by decide) (by have := qd_lt x i; omega) (by omega) (fun c_21 => ?_) (fun c_21 => ?_)
        · refine lv_iinc (v := nI (i + 1)) (lv' := [(4, .int (nI (i + 1))), (3, .int (nI a)), (0, .ref h0), (1, .int (nI x)), (2, .int (nI co))]) hx hb dX1_hatsIn_27 hl (k := 0) rfl (nI_add _ _) (by decide) rfl (fun ls hl => ?_)
          refine lv_goto (tgt := 5) hx hb dX1_hatsIn_30 (by decide) ?_
          exact ih5 (i + 1) _ (by omega) (by omega) (by simp [hatsN, ha, c_21]) _ _ hP hD hS _ (lv_sub hl [0, 1, 2, 3, 4] rfl)
        · refine lv_iinc (v := nI (a + 1)) (lv' := [(3, .int (nI (a + 1))), (4, .int (nI i)), (0, .ref h0), (1, .int (nI x)), (2, .int (nI co))]) hx hb dX1_hatsIn_24 hl (k := 1) rfl (nI_add _ _) (by decide) rfl (fun ls hl => ?_)
          refine lv_iinc (v := nI (i + 1)) (lv' := [(4, .int (nI (i + 1))), (3, .int (nI (a + 1))), (0, .ref h0), (1, .int (nI x)), (2, .int (nI co))]) hx hb dX1_hatsIn_27 hl (k := 1) rfl (nI_add _ _) (by decide) rfl (fun ls hl => ?_)
          refine lv_goto (tgt := 5) hx hb dX1_hatsIn_30 (by decide) ?_
          exact ih5 (i + 1) _ (by omega) (by omega) (by simp [hatsN, ha, c_21]) _ _ hP hD hS _ (lv_sub hl [0, 1, 2, 3, 4] rfl)
  exact lp5 (n + 1) 0 0 (by omega) (by omega) rfl _ _ hP hD hS _ (lv_sub hl [0, 1, 2, 3, 4] rfl)

set_option maxHeartbeats 4000000 in
set_option maxRecDepth 100000 in
theorem m_X1_seenHatsOf (h0 h1 h2 h3 h4 h5 h6 p1 p2 n wn t tc sc : Nat) (uw : Bool) (c1 c2 : Nat) (s ow hf tf : Nat → Nat) (j : Nat) (hj : j < 5) : Mp l yX1_seenHatsOf ws_X1_seenHatsOf 0 0 (dC, dI) (tyL cI cZ cJ) [.ref h0, .int (nI j)] (gW cI h0 h1 h2 h3 h4 h5 h6 p1 p2 n wn t tc sc uw c1 c2 s ow hf tf) (fun r => r = nI (s j)) := by
  refine Mi_of (by decide +kernel) (Nat.le_of_ble_eq_true rfl) ?_
  intro pr ev sx mi ag bl me cd Q ls S hP hK hD hZ hl ret
  obtain ⟨hx, hb, hml, hown, hts⟩ := id S
  have hown : sx.vm.findClass RX1 = some mi.cls := hown
  have hS : va_S (wIn (gW cI h0 h1 h2 h3 h4 h5 h6 p1 p2 n wn t tc sc uw c1 c2 s ow hf tf)) sx.heap sx.heap [] := va_S.rf
  have hl : lv_has ls 2 [(0, .ref h0), (1, .int (nI j))] := hl
  refine lv_iload_n hx hb dX1_seenHatsOf_0 rfl (lv_at hl 1 rfl) ?_
  refine ifN_lt (tgt := 22) hx hb dX1_seenHatsOf_1 (by decide) (by omega) (fun c_1 => absurd c_1 id) (fun c_1 => ?_)
  refine lv_iload_n hx hb dX1_seenHatsOf_4 rfl (lv_at hl 1 rfl) ?_
  refine lv_aload_n hx hb dX1_seenHatsOf_5 rfl (lv_at hl 0 rfl) ?_
  refine va_get (D := (dC, dI)) (ci := 1) (v := .ref h3) (C := RX1) (T := TX1) (N := 10) hx hb hts inX1 hown hK hP 0 rfl rfl 2 (by decide) (hts _ q_fl_X1_19) (fun _ h9 => h9) rfl dX1_seenHatsOf_6 ?_
  refine va_alen (v := nI 5) hx hb hK hP 3 0 rfl rfl rfl dX1_seenHatsOf_9 ?_
  refine icN_ge (tgt := 22) hx hb dX1_seenHatsOf_10 (by decide) (by omega) (by omega) (fun c_10 => absurd c_10 (by omega)) (fun c_10 => ?_)
  refine lv_aload_n hx hb dX1_seenHatsOf_13 rfl (lv_at hl 0 rfl) ?_
  refine va_get (D := (dC, dI)) (ci := 1) (v := .ref h3) (C := RX1) (T := TX1) (N := 10) hx hb hts inX1 hown hK hP 0 rfl rfl 2 (by decide) (hts _ q_fl_X1_19) (fun _ h9 => h9) rfl dX1_seenHatsOf_14 ?_
  refine lv_iload_n hx hb dX1_seenHatsOf_17 rfl (lv_at hl 1 rfl) ?_
  refine ia_ld hx hb hK hP 3 0 rfl rfl (j := j) (by omega) (by decide) dX1_seenHatsOf_18 ?_
  refine lv_goto (tgt := 23) hx hb dX1_seenHatsOf_19 (by decide) ?_
  exact ret _ (gW cI h0 h1 h2 h3 h4 h5 h6 p1 p2 n wn t tc sc uw c1 c2 s ow hf tf) _ _ _ _ dX1_seenHatsOf_23 rfl ⟨rfl, rfl⟩ (List.Perm.refl _) hP hS

set_option maxHeartbeats 4000000 in
set_option maxRecDepth 100000 in
theorem m_X1_setSeenHatsOf (h0 h1 h2 h3 h4 h5 h6 p1 p2 n wn t tc sc : Nat) (uw : Bool) (c1 c2 : Nat) (s ow hf tf : Nat → Nat) (j v : Nat) (hj : j < 5) : Mv l yX1_setSeenHatsOf ws_X1_setSeenHatsOf 0 0 (dC, dI) (tyL cI cZ cJ) [.ref h0, .int (nI j), .int (nI v)] (gW cI h0 h1 h2 h3 h4 h5 h6 p1 p2 n wn t tc sc uw c1 c2 s ow hf tf) (fun u => u = gW cI h0 h1 h2 h3 h4 h5 h6 p1 p2 n wn t tc sc uw c1 c2 (upN s j v) ow hf tf) := by
  refine Mv_of (by decide +kernel) (Nat.le_of_ble_eq_true rfl) ?_
  intro pr ev sx mi ag bl me cd Q ls S hP hK hD hZ hl ret
  obtain ⟨hx, hb, hml, hown, hts⟩ := id S
  have hown : sx.vm.findClass RX1 = some mi.cls := hown
  have hS : va_S (wIn (gW cI h0 h1 h2 h3 h4 h5 h6 p1 p2 n wn t tc sc uw c1 c2 s ow hf tf)) sx.heap sx.heap [] := va_S.rf
  have hl : lv_has ls 3 [(0, .ref h0), (1, .int (nI j)), (2, .int (nI v))] := hl
  refine lv_iload_n hx hb dX1_setSeenHatsOf_0 rfl (lv_at hl 1 rfl) ?_
  refine ifN_lt (tgt := 20) hx hb dX1_setSeenHatsOf_1 (by decide) (by omega) (fun c_1 => absurd c_1 id) (fun c_1 => ?_)
  refine lv_iload_n hx hb dX1_setSeenHatsOf_4 rfl (lv_at hl 1 rfl) ?_
  refine lv_aload_n hx hb dX1_setSeenHatsOf_5 rfl (lv_at hl 0 rfl) ?_
  refine va_get (D := (dC, dI)) (ci := 1) (v := .ref h3) (C := RX1) (T := TX1) (N := 10) hx hb hts inX1 hown hK hP 0 rfl rfl 2 (by decide) (hts _ q_fl_X1_19) (fun _ h9 => h9) rfl dX1_setSeenHatsOf_6 ?_
  refine va_alen (v := nI 5) hx hb hK hP 3 0 rfl rfl rfl dX1_setSeenHatsOf_9 ?_
  refine icN_ge (tgt := 20) hx hb dX1_setSeenHatsOf_10 (by decide) (by omega) (by omega) (fun c_10 => absurd c_10 (by omega)) (fun c_10 => ?_)
  refine lv_aload_n hx hb dX1_setSeenHatsOf_13 rfl (lv_at hl 0 rfl) ?_
  refine va_get (D := (dC, dI)) (ci := 1) (v := .ref h3) (C := RX1) (T := TX1) (N := 10) hx hb hts inX1 hown hK hP 0 rfl rfl 2 (by decide) (hts _ q_fl_X1_19) (fun _ h9 => h9) rfl dX1_setSeenHatsOf_14 ?_
  refine lv_iload_n hx hb dX1_setSeenHatsOf_17 rfl (lv_at hl 1 rfl) ?_
  refine lv_iload_n hx hb dX1_setSeenHatsOf_18 rfl (lv_at hl 2 rfl) ?_
  refine ia_st hx hb hK hP hD hS 3 0 rfl rfl (j := j) (v := v) (by omega) (by decide) dX1_setSeenHatsOf_19 (fun H locs hP hD hS => ?_)
  have hP : va_P (dC, dI) vwCl (gW cI h0 h1 h2 h3 h4 h5 h6 p1 p2 n wn t tc sc uw c1 c2 (upN s j v) ow hf tf) H := hP
  have hD : va_D (wIn (gW cI h0 h1 h2 h3 h4 h5 h6 p1 p2 n wn t tc sc uw c1 c2 s ow hf tf)) (gW cI h0 h1 h2 h3 h4 h5 h6 p1 p2 n wn t tc sc uw c1 c2 (upN s j v) ow hf tf) := hD
  exact ret (gW cI h0 h1 h2 h3 h4 h5 h6 p1 p2 n wn t tc sc uw c1 c2 (upN s j v) ow hf tf) _ _ _ _ dX1_setSeenHatsOf_20 rfl (List.Perm.refl _) hP hS

set_option maxHeartbeats 4000000 in
set_option maxRecDepth 100000 in
theorem m_X1_ownColours (h0 h1 h2 h3 h4 h5 h6 p1 p2 n wn t tc sc : Nat) (uw : Bool) (c1 c2 : Nat) (s ow hf tf : Nat → Nat) (j : Nat) (hj : j < 1024) : Mp l yX1_ownColours ws_X1_ownColours 0 0 (dC, dI) (tyL cI cZ cJ) [.ref h0, .int (nI j)] (gW cI h0 h1 h2 h3 h4 h5 h6 p1 p2 n wn t tc sc uw c1 c2 s ow hf tf) (fun r => r = nI (ow j)) := by
  refine Mi_of (by decide +kernel) (Nat.le_of_ble_eq_true rfl) ?_
  intro pr ev sx mi ag bl me cd Q ls S hP hK hD hZ hl ret
  obtain ⟨hx, hb, hml, hown, hts⟩ := id S
  have hown : sx.vm.findClass RX1 = some mi.cls := hown
  have hS : va_S (wIn (gW cI h0 h1 h2 h3 h4 h5 h6 p1 p2 n wn t tc sc uw c1 c2 s ow hf tf)) sx.heap sx.heap [] := va_S.rf
  have hl : lv_has ls 2 [(0, .ref h0), (1, .int (nI j))] := hl
  refine lv_iload_n hx hb dX1_ownColours_0 rfl (lv_at hl 1 rfl) ?_
  refine ifN_lt (tgt := 22) hx hb dX1_ownColours_1 (by decide) (by omega) (fun c_1 => absurd c_1 id) (fun c_1 => ?_)
  refine lv_iload_n hx hb dX1_ownColours_4 rfl (lv_at hl 1 rfl) ?_
  refine lv_aload_n hx hb dX1_ownColours_5 rfl (lv_at hl 0 rfl) ?_
  refine va_get (D := (dC, dI)) (ci := 1) (v := .ref h4) (C := RX1) (T := TX1) (N := 10) hx hb hts inX1 hown hK hP 0 rfl rfl 3 (by decide) (hts _ q_fl_X1_23) (fun _ h9 => h9) rfl dX1_ownColours_6 ?_
  refine va_alen (v := nI 1024) hx hb hK hP 4 0 rfl rfl rfl dX1_ownColours_9 ?_
  refine icN_ge (tgt := 22) hx hb dX1_ownColours_10 (by decide) (by omega) (by omega) (fun c_10 => absurd c_10 (by omega)) (fun c_10 => ?_)
  refine lv_aload_n hx hb dX1_ownColours_13 rfl (lv_at hl 0 rfl) ?_
  refine va_get (D := (dC, dI)) (ci := 1) (v := .ref h4) (C := RX1) (T := TX1) (N := 10) hx hb hts inX1 hown hK hP 0 rfl rfl 3 (by decide) (hts _ q_fl_X1_23) (fun _ h9 => h9) rfl dX1_ownColours_14 ?_
  refine lv_iload_n hx hb dX1_ownColours_17 rfl (lv_at hl 1 rfl) ?_
  refine ia_ld hx hb hK hP 4 0 rfl rfl (j := j) (by omega) (by decide) dX1_ownColours_18 ?_
  refine lv_goto (tgt := 23) hx hb dX1_ownColours_19 (by decide) ?_
  exact ret _ (gW cI h0 h1 h2 h3 h4 h5 h6 p1 p2 n wn t tc sc uw c1 c2 s ow hf tf) _ _ _ _ dX1_ownColours_23 rfl ⟨rfl, rfl⟩ (List.Perm.refl _) hP hS

set_option maxHeartbeats 4000000 in
set_option maxRecDepth 100000 in
theorem m_X1_setOwnColours (h0 h1 h2 h3 h4 h5 h6 p1 p2 n wn t tc sc : Nat) (uw : Bool) (c1 c2 : Nat) (s ow hf tf : Nat → Nat) (j v : Nat) (hj : j < 1024) : Mv l yX1_setOwnColours ws_X1_setOwnColours 0 0 (dC, dI) (tyL cI cZ cJ) [.ref h0, .int (nI j), .int (nI v)] (gW cI h0 h1 h2 h3 h4 h5 h6 p1 p2 n wn t tc sc uw c1 c2 s ow hf tf) (fun u => u = gW cI h0 h1 h2 h3 h4 h5 h6 p1 p2 n wn t tc sc uw c1 c2 s (upN ow j v) hf tf) := by
  refine Mv_of (by decide +kernel) (Nat.le_of_ble_eq_true rfl) ?_
  intro pr ev sx mi ag bl me cd Q ls S hP hK hD hZ hl ret
  obtain ⟨hx, hb, hml, hown, hts⟩ := id S
  have hown : sx.vm.findClass RX1 = some mi.cls := hown
  have hS : va_S (wIn (gW cI h0 h1 h2 h3 h4 h5 h6 p1 p2 n wn t tc sc uw c1 c2 s ow hf tf)) sx.heap sx.heap [] := va_S.rf
  have hl : lv_has ls 3 [(0, .ref h0), (1, .int (nI j)), (2, .int (nI v))] := hl
  refine lv_iload_n hx hb dX1_setOwnColours_0 rfl (lv_at hl 1 rfl) ?_
  refine ifN_lt (tgt := 20) hx hb dX1_setOwnColours_1 (by decide) (by omega) (fun c_1 => absurd c_1 id) (fun c_1 => ?_)
  refine lv_iload_n hx hb dX1_setOwnColours_4 rfl (lv_at hl 1 rfl) ?_
  refine lv_aload_n hx hb dX1_setOwnColours_5 rfl (lv_at hl 0 rfl) ?_
  refine va_get (D := (dC, dI)) (ci := 1) (v := .ref h4) (C := RX1) (T := TX1) (N := 10) hx hb hts inX1 hown hK hP 0 rfl rfl 3 (by decide) (hts _ q_fl_X1_23) (fun _ h9 => h9) rfl dX1_setOwnColours_6 ?_
  refine va_alen (v := nI 1024) hx hb hK hP 4 0 rfl rfl rfl dX1_setOwnColours_9 ?_
  refine icN_ge (tgt := 20) hx hb dX1_setOwnColours_10 (by decide) (by omega) (by omega) (fun c_10 => absurd c_10 (by omega)) (fun c_10 => ?_)
  refine lv_aload_n hx hb dX1_setOwnColours_13 rfl (lv_at hl 0 rfl) ?_
  refine va_get (D := (dC, dI)) (ci := 1) (v := .ref h4) (C := RX1) (T := TX1) (N := 10) hx hb hts inX1 hown hK hP 0 rfl rfl 3 (by decide) (hts _ q_fl_X1_23) (fun _ h9 => h9) rfl dX1_setOwnColours_14 ?_
  refine lv_iload_n hx hb dX1_setOwnColours_17 rfl (lv_at hl 1 rfl) ?_
  refine lv_iload_n hx hb dX1_setOwnColours_18 rfl (lv_at hl 2 rfl) ?_
  refine ia_st hx hb hK hP hD hS 4 0 rfl rfl (j := j) (v := v) (by omega) (by decide) dX1_setOwnColours_19 (fun H locs hP hD hS => ?_)
  have hP : va_P (dC, dI) vwCl (gW cI h0 h1 h2 h3 h4 h5 h6 p1 p2 n wn t tc sc uw c1 c2 s (upN ow j v) hf tf) H := hP
  have hD : va_D (wIn (gW cI h0 h1 h2 h3 h4 h5 h6 p1 p2 n wn t tc sc uw c1 c2 s ow hf tf)) (gW cI h0 h1 h2 h3 h4 h5 h6 p1 p2 n wn t tc sc uw c1 c2 s (upN ow j v) hf tf) := hD
  exact ret (gW cI h0 h1 h2 h3 h4 h5 h6 p1 p2 n wn t tc sc uw c1 c2 s (upN ow j v) hf tf) _ _ _ _ dX1_setOwnColours_20 rfl (List.Perm.refl _) hP hS

set_option maxHeartbeats 4000000 in
set_option maxRecDepth 100000 in
theorem m_X1_seesHat (h0 h1 h2 h3 h4 h5 h6 p1 p2 n wn t tc sc : Nat) (uw : Bool) (c1 c2 : Nat) (s ow hf tf : Nat → Nat) (j k : Nat) (hj : j < 5) (hk : k < 5) (hs : ∀ p, p < 5 → s p < 1024) : Mp l yX1_seesHat ws_X1_seesHat 2 40 (dC, dI) (tyL cI cZ cJ) [.ref h0, .int (nI j), .int (nI k)] (gW cI h0 h1 h2 h3 h4 h5 h6 p1 p2 n wn t tc sc uw c1 c2 s ow hf tf) (fun r => r = bI (!((s j &&& (3 * 2 ^ (k * 2))) == 0))) := by
  refine Mi_of (by decide +kernel) (Nat.le_of_ble_eq_true rfl) ?_
  intro pr ev sx mi ag bl me cd Q ls S hP hK hD hZ hl ret
  obtain ⟨hx, hb, hml, hown, hts⟩ := id S
  have hown : sx.vm.findClass RX1 = some mi.cls := hown
  have hS : va_S (wIn (gW cI h0 h1 h2 h3 h4 h5 h6 p1 p2 n wn t tc sc uw c1 c2 s ow hf tf)) sx.heap sx.heap [] := va_S.rf
  have hl : lv_has ls 3 [(0, .ref h0), (1, .int (nI j)), (2, .int (nI k))] := hl
  refine lv_aload_n hx hb dX1_seesHat_0 rfl (lv_at hl 0 rfl) ?_
  refine lv_iload_n hx hb dX1_seesHat_1 rfl (lv_at hl 1 rfl) ?_
  refine call_Vp (As := [.int (nI j)]) (rest := []) S (m_X1_seenHatsOf h0 h1 h2 h3 h4 h5 h6 p1 p2 n wn t tc sc uw c1 c2 s ow hf tf j (by omega)) g_X1_X1_seenHatsOf hd_X1_seenHatsOf ⟨Nat.le_of_ble_eq_true rfl, Nat.le_of_ble_eq_true rfl⟩ ⟨Nat.zero_le _, Nat.zero_le _⟩ hP hD hK hS hZ [0, 1, 2, 3, 4, 5, 6] rfl (by decide) 0 rfl rfl hl.1 rfl (Nat.le_of_ble_eq_true rfl) dX1_seesHat_2 (fun r H locs hq hP hS => ?_)
  obtain rfl := hq
  refine lv_iload_n hx hb dX1_seesHat_5 rfl (lv_at hl 2 rfl) ?_
  refine call_Sp (As := [.int (nI k)]) (rest := [.int (nI (s j))]) S (m_X1_hatMask k (by omega)) g_X1_X1_hatMask hd_X1_hatMask ⟨Nat.le_of_ble_eq_true rfl, Nat.le_of_ble_eq_true rfl⟩ ⟨Nat.zero_le _, Nat.zero_le _⟩ hP hD hK hS hZ [] rfl (by decide) hl.1 rfl (Nat.le_of_ble_eq_true rfl) dX1_seesHat_6 (fun r H locs hq hP hS => ?_)
  obtain rfl := hq
  refine lv_iand hx hb dX1_seesHat_9 ?_
  refine W_i (y := nI ((s j) &&& (3 * 2 ^ (k * 2)))) (nI_and _ _) ?_
  refine ifN_eq (tgt := 17) hx hb dX1_seesHat_10 (by decide) (lt_31 (and_l (hs j hj))) (fun c_10 => ?_) (fun c_10 => ?_)
  · refine lv_iconst (v := nI 0) hx hb dX1_seesHat_17 (by decide) ?_
    exact ret _ (gW cI h0 h1 h2 h3 h4 h5 h6 p1 p2 n wn t tc sc uw c1 c2 s ow hf tf) _ _ _ _ dX1_seesHat_18 rfl ⟨rfl, bI_f (by simp [c_10])⟩ (List.Perm.refl _) hP hS
  · refine lv_iconst (v := nI 1) hx hb dX1_seesHat_13 (by decide) ?_
    refine lv_goto (tgt := 18) hx hb dX1_seesHat_14 (by decide) ?_
    exact ret _ (gW cI h0 h1 h2 h3 h4 h5 h6 p1 p2 n wn t tc sc uw c1 c2 s ow hf tf) _ _ _ _ dX1_seesHat_18 rfl ⟨rfl, bI_t (by simp [c_10])⟩ (List.Perm.refl _) hP hS

set_option maxHeartbeats 4000000 in
set_option maxRecDepth 100000 in
theorem m_X1_lookAtEachOther (h0 h1 h2 h3 h4 h5 h6 p1 p2 n wn t tc sc : Nat) (uw : Bool) (c1 c2 : Nat) (s ow hf tf : Nat → Nat) (j : Nat) (hj : j < 5) : Mv l yX1_lookAtEachOther ws_X1_lookAtEachOther 2 40 (dC, dI) (tyL cI cZ cJ) [.ref h0, .int (nI j)] (gW cI h0 h1 h2 h3 h4 h5 h6 p1 p2 n wn t tc sc uw c1 c2 s ow hf tf) (fun u => u = gW cI h0 h1 h2 h3 h4 h5 h6 p1 p2 n wn t tc sc uw c1 c2 (upN (lkS s j j) j (mskN j)) ow hf tf) := by
  refine Mv_of (by decide +kernel) (Nat.le_of_ble_eq_true rfl) ?_
  intro pr ev sx mi ag bl me cd Q ls S hP hK hD hZ hl ret
  obtain ⟨hx, hb, hml, hown, hts⟩ := id S
  have hown : sx.vm.findClass RX1 = some mi.cls := hown
  have hS : va_S (wIn (gW cI h0 h1 h2 h3 h4 h5 h6 p1 p2 n wn t tc sc uw c1 c2 s ow hf tf)) sx.heap sx.heap [] := va_S.rf
  have hl : lv_has ls 4 [(0, .ref h0), (1, .int (nI j))] := hl
  refine lv_iconst (v := nI 0) hx hb dX1_lookAtEachOther_0 (by decide) ?_
  refine lv_istore_n (lv' := [(2, .int (nI 0)), (0, .ref h0), (1, .int (nI j))]) hx hb dX1_lookAtEachOther_1 rfl hl (by decide) rfl (fun ls hl => ?_)
  refine lv_iconst (v := nI 0) hx hb dX1_lookAtEachOther_2 (by decide) ?_
  refine lv_istore_n (lv' := [(3, .int (nI 0)), (2, .int (nI 0)), (0, .ref h0), (1, .int (nI j))]) hx hb dX1_lookAtEachOther_3 rfl hl (by decide) rfl (fun ls hl => ?_)
  have lp4 : ∀ (kf : Nat) (i : Nat) (a : Nat) (g : Nat → Nat), j < i + kf → (i ≤ j) → (a = mskN i) → (g = lkS s j i) → ∀ (H : Heap) (locs : List Loc), va_P (dC, dI) vwCl (gW cI h0 h1 h2 h3 h4 h5 h6 p1 p2 n wn t tc sc uw c1 c2 g ow hf tf) H → va_D (wIn (gW cI h0 h1 h2 h3 h4 h5 h6 p1 p2 n wn t tc sc uw c1 c2 s ow hf tf)) (gW cI h0 h1 h2 h3 h4 h5 h6 p1 p2 n wn t tc sc uw c1 c2 g ow hf tf) → va_S (wIn (gW cI h0 h1 h2 h3 h4 h5 h6 p1 p2 n wn t tc sc uw c1 c2 s ow hf tf)) sx.heap H locs → ∀ ls : Array Slot, lv_has ls 4 [(3, .int (nI i)), (2, .int (nI a)), (0, .ref h0), (1, .int (nI j))] → W pr l ev (rmB 2 40) sx mi ag bl me cd H locs 0 0 Q (F0 mi 4 ls []) := by
    intro kf
    induction kf with
    | zero => intro i a g hkf hi ha hg; exact absurd hkf (by omega)
    | succ kf ih4 =>
      intro i a g hkf hi ha hg H locs hP hD hS ls hl
      refine lv_iload_n hx hb dX1_lookAtEachOther_4 rfl (lv_at hl 0 rfl) ?_
      refine lv_iload_n hx hb dX1_lookAtEachOther_5 rfl (lv_at hl 3 rfl) ?_
      refine icN_ge (tgt := 37) hx hb dX1_lookAtEachOther_6 (by decide) (by omega) (by omega) (fun c_6 => ?_) (fun c_6 => ?_)
      · refine lv_aload_n hx hb dX1_lookAtEachOther_37 rfl (lv_at hl 2 rfl) ?_
        refine lv_iload_n hx hb dX1_lookAtEachOther_38 rfl (lv_at hl 3 rfl) ?_
        refine lv_iload_n hx hb dX1_lookAtEachOther_39 rfl (lv_at hl 1 rfl) ?_
        refine call_Vv (As := [.int (nI j), .int (nI a)]) (wr := []) (rest := []) S (m_X1_setSeenHatsOf h0 h1 h2 h3 h4 h5 h6 p1 p2 n wn t tc sc uw c1 c2 g ow hf tf j a (by omega)) g_X1_X1_setSeenHatsOf hd_X1_setSeenHatsOf ⟨Nat.le_of_ble_eq_true rfl, Nat.le_of_ble_eq_true rfl⟩ ⟨Nat.zero_le _, Nat.zero_le _⟩ hP hD hK hS hZ [0, 1, 2, 3, 4, 5, 6] [] rfl rfl (by decide) 0 rfl rfl hl.1 rfl (Nat.le_of_ble_eq_true rfl) dX1_lookAtEachOther_40 (fun u H locs hq hP hD hS => ?_)
        obtain rfl := hq
        have hP : va_P (dC, dI) vwCl (gW cI h0 h1 h2 h3 h4 h5 h6 p1 p2 n wn t tc sc uw c1 c2 (upN g j a) ow hf tf) H := hP
        have hD : va_D (wIn (gW cI h0 h1 h2 h3 h4 h5 h6 p1 p2 n wn t tc sc uw c1 c2 s ow hf tf)) (gW cI h0 h1 h2 h3 h4 h5 h6 p1 p2 n wn t tc sc uw c1 c2 (upN g j a) ow hf tf) := hD
        exact ret (gW cI h0 h1 h2 h3 h4 h5 h6 p1 p2 n wn t tc sc uw c1 c2 (upN g j a) ow hf tf) _ _ _ _ dX1_lookAtEachOther_43 (by rw [ha, hg, show i = j by omega]) (List.Perm.refl _) hP hS
      · refine lv_aload_n hx hb dX1_lookAtEachOther_9 rfl (lv_at hl 2 rfl) ?_
        refine lv_iload_n hx hb dX1_lookAtEachOther_10 rfl (lv_at hl 0 rfl) ?_
        refine lv_aload_n hx hb dX1_lookAtEachOther_11 rfl (lv_at hl 2 rfl) ?_
        refine lv_iload_n hx hb dX1_lookAtEachOther_12 rfl (lv_at hl 0 rfl) ?_
        refine call_Vp (As := [.int (nI i)]) (rest := [.int (nI i), .ref h0]) S (m_X1_seenHatsOf h0 h1 h2 h3 h4 h5 h6 p1 p2 n wn t tc sc uw c1 c2 g ow hf tf i (by omega)) g_X1_X1_seenHatsOf hd_X1_seenHatsOf ⟨Nat.le_of_ble_eq_true rfl, Nat.le_of_ble_eq_true rfl⟩ ⟨Nat.zero_le _, Nat.zero_le _⟩ hP hD hK hS hZ [0, 1, 2, 3, 4, 5, 6] rfl (by decide) 0 rfl rfl hl.1 rfl (Nat.le_of_ble_eq_true rfl) dX1_lookAtEachOther_13 (fun r H locs hq hP hS => ?_)
        obtain rfl := hq
        refine lv_iload_n hx hb dX1_lookAtEachOther_16 rfl (lv_at hl 3 rfl) ?_
        refine call_Sp (As := [.int (nI j)]) (rest := [.int (nI (g i)), .int (nI i), .ref h0]) S (m_X1_hatMask j (by omega)) g_X1_X1_hatMask hd_X1_hatMask ⟨Nat.le_of_ble_eq_true rfl, Nat.le_of_ble_eq_true rfl⟩ ⟨Nat.zero_le _, Nat.zero_le _⟩ hP hD hK hS hZ [] rfl (by decide) hl.1 rfl (Nat.le_of_ble_eq_true rfl) dX1_lookAtEachOther_17 (fun r H locs hq hP hS => ?_)
        obtain rfl := hq
        refine lv_ior hx hb dX1_lookAtEachOther_20 ?_
        refine W_i (y := nI ((g i) ||| (3 * 2 ^ (j * 2)))) (nI_or _ _) ?_
        refine call_Vv (As := [.int (nI i), .int (nI ((g i) ||| (3 * 2 ^ (j * 2))))]) (wr := []) (rest := []) S (m_X1_setSeenHatsOf h0 h1 h2 h3 h4 h5 h6 p1 p2 n wn t tc sc uw c1 c2 g ow hf tf i ((g i) ||| (3 * 2 ^ (j * 2))) (by omega)) g_X1_X1_setSeenHatsOf hd_X1_setSeenHatsOf ⟨Nat.le_of_ble_eq_true rfl, Nat.le_of_ble_eq_true rfl⟩ ⟨Nat.zero_le _, Nat.zero_le _⟩ hP hD hK hS hZ [0, 1, 2, 3, 4, 5, 6] [] rfl rfl (by decide) 0 rfl rfl hl.1 rfl (Nat.le_of_ble_eq_true rfl) dX1_lookAtEachOther_21 (fun u H locs hq hP hD hS => ?_)
        obtain rfl := hq
        have hP : va_P (dC, dI) vwCl (gW cI h0 h1 h2 h3 h4 h5 h6 p1 p2 n wn t tc sc uw c1 c2 (upN g i ((g i) ||| (3 * 2 ^ (j * 2)))) ow hf tf) H := hP
        have hD : va_D (wIn (gW cI h0 h1 h2 h3 h4 h5 h6 p1 p2 n wn t tc sc uw c1 c2 s ow hf tf)) (gW cI h0 h1 h2 h3 h4 h5 h6 p1 p2 n wn t tc sc uw c1 c2 (upN g i ((g i) ||| (3 * 2 ^ (j * 2)))) ow hf tf) := hD
        refine lv_iload_n hx hb dX1_lookAtEachOther_24 rfl (lv_at hl 1 rfl) ?_
        refine lv_iload_n hx hb dX1_lookAtEachOther_25 rfl (lv_at hl 0 rfl) ?_
        refine call_Sp (As := [.int (nI i)]) (rest := [.int (nI a)]) S (m_X1_hatMask i (by omega)) g_X1_X1_hatMask hd_X1_hatMask ⟨Nat.le_of_ble_eq_true rfl, Nat.le_of_ble_eq_true rfl⟩ ⟨Nat.zero_le _, Nat.zero_le _⟩ hP hD hK hS hZ [] rfl (by decide) hl.1 rfl (Nat.le_of_ble_eq_true rfl) dX1_lookAtEachOther_26 (fun r H locs hq hP hS => ?_)
        obtain rfl := hq
        refine lv_ior hx hb dX1_lookAtEachOther_29 ?_
        refine W_i (y := nI (a ||| (3 * 2 ^ (i * 2)))) (nI_or _ _) ?_
        refine lv_istore_n (lv' := [(2, .int (nI (a ||| (3 * 2 ^ (i * 2))))), (3, .int (nI i)), (0, .ref h0), (1, .int (nI j))]) hx hb dX1_lookAtEachOther_30 rfl hl (by decide) rfl (fun ls hl => ?_)
        refine lv_iinc (v := nI (i + 1)) (lv' := [(3, .int (nI (i + 1))), (2, .int (nI (a ||| (3 * 2 ^ (i * 2))))), (0, .ref h0), (1, .int (nI j))]) hx hb dX1_lookAtEachOther_31 hl (k := 1) rfl (nI_add _ _) (by decide) rfl (fun ls hl => ?_)
        refine lv_goto (tgt := 4) hx hb dX1_lookAtEachOther_34 (by decide) ?_
        exact ih4 (i + 1) _ _ (by omega) (by omega) (by rw [ha]; rfl) (by rw [hg]; exact lkS_s s j i) _ _ hP hD hS _ (lv_sub hl [0, 1, 2, 3] rfl)
  exact lp4 (j + 1) 0 0 s (by omega) (by omega) rfl (by funext k; simp [lkS]) _ _ hP hD hS _ (lv_sub hl [0, 1, 2, 3] rfl)

set_option maxHeartbeats 4000000 in
set_option maxRecDepth 100000 in
theorem m_X1_viewOf (h0 h1 h2 h3 h4 h5 h6 p1 p2 n wn t tc sc : Nat) (uw : Bool) (c1 c2 : Nat) (s ow hf tf : Nat → Nat) (x j : Nat) (hj : j < 5) : Mp l yX1_viewOf ws_X1_viewOf 1 21 (dC, dI) (tyL cI cZ cJ) [.ref h0, .int (nI x), .int (nI j)] (gW cI h0 h1 h2 h3 h4 h5 h6 p1 p2 n wn t tc sc uw c1 c2 s ow hf tf) (fun r => r = nI (vw x (s j))) := by
  refine Mi_of (by decide +kernel) (Nat.le_of_ble_eq_true rfl) ?_
  intro pr ev sx mi ag bl me cd Q ls S hP hK hD hZ hl ret
  obtain ⟨hx, hb, hml, hown, hts⟩ := id S
  have hown : sx.vm.findClass RX1 = some mi.cls := hown
  have hS : va_S (wIn (gW cI h0 h1 h2 h3 h4 h5 h6 p1 p2 n wn t tc sc uw c1 c2 s ow hf tf)) sx.heap sx.heap [] := va_S.rf
  have hl : lv_has ls 3 [(0, .ref h0), (1, .int (nI x)), (2, .int (nI j))] := hl
  refine lv_iload_n hx hb dX1_viewOf_0 rfl (lv_at hl 1 rfl) ?_
  refine lv_aload_n hx hb dX1_viewOf_1 rfl (lv_at hl 0 rfl) ?_
  refine lv_iload_n hx hb dX1_viewOf_2 rfl (lv_at hl 2 rfl) ?_
  refine call_Vp (As := [.int (nI j)]) (rest := [.int (nI x)]) S (m_X1_seenHatsOf h0 h1 h2 h3 h4 h5 h6 p1 p2 n wn t tc sc uw c1 c2 s ow hf tf j (by omega)) g_X1_X1_seenHatsOf hd_X1_seenHatsOf ⟨Nat.le_of_ble_eq_true rfl, Nat.le_of_ble_eq_true rfl⟩ ⟨Nat.zero_le _, Nat.zero_le _⟩ hP hD hK hS hZ [0, 1, 2, 3, 4, 5, 6] rfl (by decide) 0 rfl rfl hl.1 rfl (Nat.le_of_ble_eq_true rfl) dX1_viewOf_3 (fun r H locs hq hP hS => ?_)
  obtain rfl := hq
  refine lv_iand hx hb dX1_viewOf_6 ?_
  refine W_i (y := nI (x &&& (s j))) (nI_and _ _) ?_
  refine lv_sipush (v := nI 1023) hx hb dX1_viewOf_7 (by decide) ?_
  refine lv_iand hx hb dX1_viewOf_10 ?_
  refine W_i (y := nI ((x &&& (s j)) &&& 1023)) (nI_and _ _) ?_
  exact ret _ (gW cI h0 h1 h2 h3 h4 h5 h6 p1 p2 n wn t tc sc uw c1 c2 s ow hf tf) _ _ _ _ dX1_viewOf_11 rfl ⟨rfl, rfl⟩ (List.Perm.refl _) hP hS

set_option maxHeartbeats 4000000 in
set_option maxRecDepth 100000 in
theorem m_X1_agreesWithNow (h0 h1 h2 h3 h4 h5 h6 p1 p2 n wn t tc sc : Nat) (uw : Bool) (c1 c2 : Nat) (s ow hf tf : Nat → Nat) (x k : Nat) (hx2 : x < 1024) (hw : wn < 1024) : Mp l yX1_agreesWithNow ws_X1_agreesWithNow 0 0 (dC, dI) (tyL cI cZ cJ) [.ref h0, .int (nI x), .int (nI k)] (gW cI h0 h1 h2 h3 h4 h5 h6 p1 p2 n wn t tc sc uw c1 c2 s ow hf tf) (fun r => r = bI (agr wn x k)) := by
  refine Mi_of (by decide +kernel) (Nat.le_of_ble_eq_true rfl) ?_
  intro pr ev sx mi ag bl me cd Q ls S hP hK hD hZ hl ret
  obtain ⟨hx, hb, hml, hown, hts⟩ := id S
  have hown : sx.vm.findClass RX1 = some mi.cls := hown
  have hS : va_S (wIn (gW cI h0 h1 h2 h3 h4 h5 h6 p1 p2 n wn t tc sc uw c1 c2 s ow hf tf)) sx.heap sx.heap [] := va_S.rf
  have hl : lv_has ls 3 [(0, .ref h0), (1, .int (nI x)), (2, .int (nI k))] := hl
  refine lv_iload_n hx hb dX1_agreesWithNow_0 rfl (lv_at hl 1 rfl) ?_
  refine lv_aload_n hx hb dX1_agreesWithNow_1 rfl (lv_at hl 0 rfl) ?_
  refine va_get (D := (dC, dI)) (ci := 1) (v := .int (nI wn)) (C := RX1) (T := TX1) (N := 10) hx hb hts inX1 hown hK hP 0 rfl rfl 5 (by decide) (hts _ q_fl_X1_30) (fun _ h9 => h9) rfl dX1_agreesWithNow_2 ?_
  refine lv_ixor hx hb dX1_agreesWithNow_5 ?_
  refine W_i (y := nI (x ^^^ wn)) (nI_xor _ _) ?_
  refine lv_iload_n hx hb dX1_agreesWithNow_6 rfl (lv_at hl 2 rfl) ?_
  refine lv_iand hx hb dX1_agreesWithNow_7 ?_
  refine W_i (y := nI ((x ^^^ wn) &&& k)) (nI_and _ _) ?_
  refine ifN_ne (tgt := 15) hx hb dX1_agreesWithNow_8 (by decide) (lt_31 (and_l (xor_k hx2 hw))) (fun c_8 => ?_) (fun c_8 => ?_)
  · refine lv_iconst (v := nI 0) hx hb dX1_agreesWithNow_15 (by decide) ?_
    exact ret _ (gW cI h0 h1 h2 h3 h4 h5 h6 p1 p2 n wn t tc sc uw c1 c2 s ow hf tf) _ _ _ _ dX1_agreesWithNow_16 rfl ⟨rfl, bI_f (by simp [agr, c_8])⟩ (List.Perm.refl _) hP hS
  · refine lv_iconst (v := nI 1) hx hb dX1_agreesWithNow_11 (by decide) ?_
    refine lv_goto (tgt := 16) hx hb dX1_agreesWithNow_12 (by decide) ?_
    exact ret _ (gW cI h0 h1 h2 h3 h4 h5 h6 p1 p2 n wn t tc sc uw c1 c2 s ow hf tf) _ _ _ _ dX1_agreesWithNow_16 rfl ⟨rfl, bI_t (by simp [agr, c_8])⟩ (List.Perm.refl _) hP hS

end
end
section
section
variable {l : Launch} {dC : Nat → ClassId} {dI : Nat → Nat → Nat} {cI cZ cJ : ClassId}

set_option maxHeartbeats 4000000 in
set_option maxRecDepth 100000 in
theorem m_X1_countWithHat (h0 h1 h2 h3 h4 h5 h6 p2 n wn t tc sc : Nat) (uw : Bool) (c1 c2 : Nat) (s ow hf tf : Nat → Nat) (j co : Nat) (hj : j < 5) (hco : co < 4) (hc1 : c1 ≤ 243) (hb1 : ∀ j, j < c1 → hf j < 1024) : Mp l yX1_countWithHat ws_X1_countWithHat 1 21 (dC, dI) (tyL cI cZ cJ) [.ref h0, .int (nI j), .int (nI co)] (gW cI h0 h1 h2 h3 h4 h5 h6 h1 p2 n wn t tc sc uw c1 c2 s ow hf tf) (fun r => r = nI ((Lof hf c1).countP (fun x => qd x j == co))) := by
  refine Mi_of (by decide +kernel) (Nat.le_of_ble_eq_true rfl) ?_
  intro pr ev sx mi ag bl me cd Q ls S hP hK hD hZ hl ret
  obtain ⟨hx, hb, hml, hown, hts⟩ := id S
  have hown : sx.vm.findClass RX1 = some mi.cls := hown
  have hS : va_S (wIn (gW cI h0 h1 h2 h3 h4 h5 h6 h1 p2 n wn t tc sc uw c1 c2 s ow hf tf)) sx.heap sx.heap [] := va_S.rf
  have hl : lv_has ls 5 [(0, .ref h0), (1, .int (nI j)), (2, .int (nI co))] := hl
  refine lv_iconst (v := nI 0) hx hb dX1_countWithHat_0 (by decide) ?_
  refine lv_istore_n (lv' := [(3, .int (nI 0)), (0, .ref h0), (1, .int (nI j)), (2, .int (nI co))]) hx hb dX1_countWithHat_1 rfl hl (by decide) rfl (fun ls hl => ?_)
  refine lv_iconst (v := nI 0) hx hb dX1_countWithHat_2 (by decide) ?_
  refine lv_istore (lv' := [(4, .int (nI 0)), (3, .int (nI 0)), (0, .ref h0), (1, .int (nI j)), (2, .int (nI co))]) hx hb dX1_countWithHat_3 hl (by decide) rfl (fun ls hl => ?_)
  have lp5 : ∀ (kf : Nat) (i : Nat) (a : Nat), c1 < i + kf → (i ≤ c1) → (a = (Lof hf i).countP (fun x => qd x j == co)) → ∀ (H : Heap) (locs : List Loc), va_P (dC, dI) vwCl (gW cI h0 h1 h2 h3 h4 h5 h6 h1 p2 n wn t tc sc uw c1 c2 s ow hf tf) H → va_D (wIn (gW cI h0 h1 h2 h3 h4 h5 h6 h1 p2 n wn t tc sc uw c1 c2 s ow hf tf)) (gW cI h0 h1 h2 h3 h4 h5 h6 h1 p2 n wn t tc sc uw c1 c2 s ow hf tf) → va_S (wIn (gW cI h0 h1 h2 h3 h4 h5 h6 h1 p2 n wn t tc sc uw c1 c2 s ow hf tf)) sx.heap H locs → ∀ ls : Array Slot, lv_has ls 5 [(4, .int (nI i)), (3, .int (nI a)), (0, .ref h0), (1, .int (nI j)), (2, .int (nI co))] → W pr l ev (rmB 1 21) sx mi ag bl me cd H locs 0 0 Q (F0 mi 5 ls []) := by
    intro kf
    induction kf with
    | zero => intro i a hkf hi ha; exact absurd hkf (by omega)
    | succ kf ih5 =>
      intro i a hkf hi ha H locs hP hD hS ls hl
      refine lv_iload hx hb dX1_countWithHat_5 (lv_at hl 0 rfl) ?_
      refine lv_aload_n hx hb dX1_countWithHat_7 rfl (lv_at hl 2 rfl) ?_
      refine va_get (D := (dC, dI)) (ci := 1) (v := .ref h1) (C := RX1) (T := TX1) (N := 10) hx hb hts inX1 hown hK hP 0 rfl rfl 0 (by decide) (hts _ q_fl_X1_10) (fun _ h9 => h9) rfl dX1_countWithHat_8 ?_
      refine call_Vp (As := []) (rest := [.int (nI i)]) S (m_X0_count h1 h5 c1 hf) g_X1_X0_count hd_X0_count ⟨Nat.le_of_ble_eq_true rfl, Nat.le_of_ble_eq_true rfl⟩ ⟨Nat.zero_le _, Nat.zero_le _⟩ hP hD hK hS hZ [1, 5] rfl (by decide) 0 rfl rfl hl.1 rfl (Nat.le_of_ble_eq_true rfl) dX1_countWithHat_11 (fun r H locs hq hP hS => ?_)
      obtain rfl := hq
      refine icN_ge (tgt := 43) hx hb dX1_countWithHat_14 (by decide) (by omega) (by omega) (fun c_14 => ?_) (fun c_14 => ?_)
      · refine lv_iload_n hx hb dX1_countWithHat_43 rfl (lv_at hl 1 rfl) ?_
        exact ret _ (gW cI h0 h1 h2 h3 h4 h5 h6 h1 p2 n wn t tc sc uw c1 c2 s ow hf tf) _ _ _ _ dX1_countWithHat_44 rfl ⟨rfl, by rw [ha, show i = c1 by omega]⟩ (List.Perm.refl _) hP hS
      · refine lv_aload_n hx hb dX1_countWithHat_17 rfl (lv_at hl 2 rfl) ?_
        refine va_get (D := (dC, dI)) (ci := 1) (v := .ref h1) (C := RX1) (T := TX1) (N := 10) hx hb hts inX1 hown hK hP 0 rfl rfl 0 (by decide) (hts _ q_fl_X1_10) (fun _ h9 => h9) rfl dX1_countWithHat_18 ?_
        refine lv_iload hx hb dX1_countWithHat_21 (lv_at hl 0 rfl) ?_
        refine call_Vp (As := [.int (nI i)]) (rest := []) S (m_X0_at h1 h5 c1 hf i (by omega)) g_X1_X0_at hd_X0_at ⟨Nat.le_of_ble_eq_true rfl, Nat.le_of_ble_eq_true rfl⟩ ⟨Nat.zero_le _, Nat.zero_le _⟩ hP hD hK hS hZ [1, 5] rfl (by decide) 0 rfl rfl hl.1 rfl (Nat.le_of_ble_eq_true rfl) dX1_countWithHat_23 (fun r H locs hq hP hS => ?_)
        obtain rfl := hq
        refine lv_iload_n hx hb dX1_countWithHat_26 rfl (lv_at hl 3 rfl) ?_
        refine call_Sp (As := [.int (nI (hf i)), .int (nI j)]) (rest := []) S (m_X1_colourIn (hf i) j (hb1 _ (by omega)) (by omega)) g_X1_X1_colourIn hd_X1_colourIn ⟨Nat.le_of_ble_eq_true rfl, Nat.le_of_ble_eq_true rfl⟩ ⟨Nat.zero_le _, Nat.zero_le _⟩ hP hD hK hS hZ [] rfl (by decide) hl.1 rfl (Nat.le_of_ble_eq_true rfl) dX1_countWithHat_27 (fun r H locs hq hP hS => ?_)
        obtain rfl := hq
        refine lv_iload_n hx hb dX1_countWithHat_30 rfl (lv_at hl 4 rfl) ?_
        refine icN_ne (tgt := 37) hx hb dX1_countWithHat_31 (by decide) (by have := qd_lt (hf i) j; omega) (by omega) (fun c_31 => ?_) (fun c_31 => ?_)
        · refine lv_iinc (v := nI (i + 1)) (lv' := [(4, .int (nI (i + 1))), (3, .int (nI a)), (0, .ref h0), (1, .int (nI j)), (2, .int (nI co))]) hx hb dX1_countWithHat_37 hl (k := 0) rfl (nI_add _ _) (by decide) rfl (fun ls hl => ?_)
          refine lv_goto (tgt := 5) hx hb dX1_countWithHat_40 (by decide) ?_
          exact ih5 (i + 1) _ (by omega) (by omega) (cnt_f (by simp [c_31]) ha) _ _ hP hD hS _ (lv_sub hl [0, 1, 2, 3, 4] rfl)
        · refine lv_iinc (v := nI (a + 1)) (lv' := [(3, .int (nI (a + 1))), (4, .int (nI i)), (0, .ref h0), (1, .int (nI j)), (2, .int (nI co))]) hx hb dX1_countWithHat_34 hl (k := 1) rfl (nI_add _ _) (by decide) rfl (fun ls hl => ?_)
          refine lv_iinc (v := nI (i + 1)) (lv' := [(4, .int (nI (i + 1))), (3, .int (nI (a + 1))), (0, .ref h0), (1, .int (nI j)), (2, .int (nI co))]) hx hb dX1_countWithHat_37 hl (k := 1) rfl (nI_add _ _) (by decide) rfl (fun ls hl => ?_)
          refine lv_goto (tgt := 5) hx hb dX1_countWithHat_40 (by decide) ?_
          exact ih5 (i + 1) _ (by omega) (by omega) (cnt_t (by simp [c_31]) ha) _ _ hP hD hS _ (lv_sub hl [0, 1, 2, 3, 4] rfl)
  exact lp5 (c1 + 1) 0 0 (by omega) (by omega) rfl _ _ hP hD hS _ (lv_sub hl [0, 1, 2, 3, 4] rfl)

set_option maxHeartbeats 4000000 in
set_option maxRecDepth 100000 in
theorem m_X1_countNaming (h0 h1 h2 h3 h4 h5 h6 p2 n wn t tc sc : Nat) (uw : Bool) (c1 c2 : Nat) (s ow hf tf : Nat → Nat) (co : Nat) (hn : n ≤ 5) (hco : co < 3) (hc1 : c1 ≤ 243) (hb1 : ∀ j, j < c1 → hf j < 1024) : Mp l yX1_countNaming ws_X1_countNaming 2 45 (dC, dI) (tyL cI cZ cJ) [.ref h0, .int (nI co)] (gW cI h0 h1 h2 h3 h4 h5 h6 h1 p2 n wn t tc sc uw c1 c2 s ow hf tf) (fun r => r = nI ((Lof hf c1).countP (fun x => !(hatsN n x co == 0)))) := by
  refine Mi_of (by decide +kernel) (Nat.le_of_ble_eq_true rfl) ?_
  intro pr ev sx mi ag bl me cd Q ls S hP hK hD hZ hl ret
  obtain ⟨hx, hb, hml, hown, hts⟩ := id S
  have hown : sx.vm.findClass RX1 = some mi.cls := hown
  have hS : va_S (wIn (gW cI h0 h1 h2 h3 h4 h5 h6 h1 p2 n wn t tc sc uw c1 c2 s ow hf tf)) sx.heap sx.heap [] := va_S.rf
  have hl : lv_has ls 4 [(0, .ref h0), (1, .int (nI co))] := hl
  refine lv_iconst (v := nI 0) hx hb dX1_countNaming_0 (by decide) ?_
  refine lv_istore_n (lv' := [(2, .int (nI 0)), (0, .ref h0), (1, .int (nI co))]) hx hb dX1_countNaming_1 rfl hl (by decide) rfl (fun ls hl => ?_)
  refine lv_iconst (v := nI 0) hx hb dX1_countNaming_2 (by decide) ?_
  refine lv_istore_n (lv' := [(3, .int (nI 0)), (2, .int (nI 0)), (0, .ref h0), (1, .int (nI co))]) hx hb dX1_countNaming_3 rfl hl (by decide) rfl (fun ls hl => ?_)
  have lp4 : ∀ (kf : Nat) (i : Nat) (a : Nat), c1 < i + kf → (i ≤ c1) → (a = (Lof hf i).countP (fun x => !(hatsN n x co == 0))) → ∀ (H : Heap) (locs : List Loc), va_P (dC, dI) vwCl (gW cI h0 h1 h2 h3 h4 h5 h6 h1 p2 n wn t tc sc uw c1 c2 s ow hf tf) H → va_D (wIn (gW cI h0 h1 h2 h3 h4 h5 h6 h1 p2 n wn t tc sc uw c1 c2 s ow hf tf)) (gW cI h0 h1 h2 h3 h4 h5 h6 h1 p2 n wn t tc sc uw c1 c2 s ow hf tf) → va_S (wIn (gW cI h0 h1 h2 h3 h4 h5 h6 h1 p2 n wn t tc sc uw c1 c2 s ow hf tf)) sx.heap H locs → ∀ ls : Array Slot, lv_has ls 4 [(3, .int (nI i)), (2, .int (nI a)), (0, .ref h0), (1, .int (nI co))] → W pr l ev (rmB 2 45) sx mi ag bl me cd H locs 0 0 Q (F0 mi 4 ls []) := by
    intro kf
    induction kf with
    | zero => intro i a hkf hi ha; exact absurd hkf (by omega)
    | succ kf ih4 =>
      intro i a hkf hi ha H locs hP hD hS ls hl
      refine lv_iload_n hx hb dX1_countNaming_4 rfl (lv_at hl 0 rfl) ?_
      refine lv_aload_n hx hb dX1_countNaming_5 rfl (lv_at hl 2 rfl) ?_
      refine va_get (D := (dC, dI)) (ci := 1) (v := .ref h1) (C := RX1) (T := TX1) (N := 10) hx hb hts inX1 hown hK hP 0 rfl rfl 0 (by decide) (hts _ q_fl_X1_10) (fun _ h9 => h9) rfl dX1_countNaming_6 ?_
      refine call_Vp (As := []) (rest := [.int (nI i)]) S (m_X0_count h1 h5 c1 hf) g_X1_X0_count hd_X0_count ⟨Nat.le_of_ble_eq_true rfl, Nat.le_of_ble_eq_true rfl⟩ ⟨Nat.zero_le _, Nat.zero_le _⟩ hP hD hK hS hZ [1, 5] rfl (by decide) 0 rfl rfl hl.1 rfl (Nat.le_of_ble_eq_true rfl) dX1_countNaming_9 (fun r H locs hq hP hS => ?_)
      obtain rfl := hq
      refine icN_ge (tgt := 40) hx hb dX1_countNaming_12 (by decide) (by omega) (by omega) (fun c_12 => ?_) (fun c_12 => ?_)
      · refine lv_iload_n hx hb dX1_countNaming_40 rfl (lv_at hl 1 rfl) ?_
        exact ret _ (gW cI h0 h1 h2 h3 h4 h5 h6 h1 p2 n wn t tc sc uw c1 c2 s ow hf tf) _ _ _ _ dX1_countNaming_41 rfl ⟨rfl, by rw [ha, show i = c1 by omega]⟩ (List.Perm.refl _) hP hS
      · refine lv_aload_n hx hb dX1_countNaming_15 rfl (lv_at hl 2 rfl) ?_
        refine lv_aload_n hx hb dX1_countNaming_16 rfl (lv_at hl 2 rfl) ?_
        refine va_get (D := (dC, dI)) (ci := 1) (v := .ref h1) (C := RX1) (T := TX1) (N := 10) hx hb hts inX1 hown hK hP 0 rfl rfl 0 (by decide) (hts _ q_fl_X1_10) (fun _ h9 => h9) rfl dX1_countNaming_17 ?_
        refine lv_iload_n hx hb dX1_countNaming_20 rfl (lv_at hl 0 rfl) ?_
        refine call_Vp (As := [.int (nI i)]) (rest := [.ref h0]) S (m_X0_at h1 h5 c1 hf i (by omega)) g_X1_X0_at hd_X0_at ⟨Nat.le_of_ble_eq_true rfl, Nat.le_of_ble_eq_true rfl⟩ ⟨Nat.zero_le _, Nat.zero_le _⟩ hP hD hK hS hZ [1, 5] rfl (by decide) 0 rfl rfl hl.1 rfl (Nat.le_of_ble_eq_true rfl) dX1_countNaming_21 (fun r H locs hq hP hS => ?_)
        obtain rfl := hq
        refine lv_iload_n hx hb dX1_countNaming_24 rfl (lv_at hl 3 rfl) ?_
        refine call_Vp (As := [.int (nI (hf i)), .int (nI co)]) (rest := []) S (m_X1_hatsIn h0 h1 h2 h3 h4 h5 h6 h1 p2 n wn t tc sc uw c1 c2 s ow hf tf (hf i) co hn (hb1 _ (by omega)) (by omega)) g_X1_X1_hatsIn hd_X1_hatsIn ⟨Nat.le_of_ble_eq_true rfl, Nat.le_of_ble_eq_true rfl⟩ ⟨Nat.zero_le _, Nat.zero_le _⟩ hP hD hK hS hZ [0, 1, 2, 3, 4, 5, 6] rfl (by decide) 0 rfl rfl hl.1 rfl (Nat.le_of_ble_eq_true rfl) dX1_countNaming_25 (fun r H locs hq hP hS => ?_)
        obtain rfl := hq
        refine ifN_le (tgt := 34) hx hb dX1_countNaming_28 (by decide) (by have := hatsN_le n (hf i) co; omega) (fun c_28 => ?_) (fun c_28 => ?_)
        · refine lv_iinc (v := nI (i + 1)) (lv' := [(3, .int (nI (i + 1))), (2, .int (nI a)), (0, .ref h0), (1, .int (nI co))]) hx hb dX1_countNaming_34 hl (k := 0) rfl (nI_add _ _) (by decide) rfl (fun ls hl => ?_)
          refine lv_goto (tgt := 4) hx hb dX1_countNaming_37 (by decide) ?_
          exact ih4 (i + 1) _ (by omega) (by omega) (cnt_f (by simp [c_28]) ha) _ _ hP hD hS _ (lv_sub hl [0, 1, 2, 3] rfl)
        · refine lv_iinc (v := nI (a + 1)) (lv' := [(2, .int (nI (a + 1))), (3, .int (nI i)), (0, .ref h0), (1, .int (nI co))]) hx hb dX1_countNaming_31 hl (k := 1) rfl (nI_add _ _) (by decide) rfl (fun ls hl => ?_)
          refine lv_iinc (v := nI (i + 1)) (lv' := [(3, .int (nI (i + 1))), (2, .int (nI (a + 1))), (0, .ref h0), (1, .int (nI co))]) hx hb dX1_countNaming_34 hl (k := 1) rfl (nI_add _ _) (by decide) rfl (fun ls hl => ?_)
          refine lv_goto (tgt := 4) hx hb dX1_countNaming_37 (by decide) ?_
          exact ih4 (i + 1) _ (by omega) (by omega) (cnt_t (by simp; omega) ha) _ _ hP hD hS _ (lv_sub hl [0, 1, 2, 3] rfl)
  exact lp4 (c1 + 1) 0 0 (by omega) (by omega) rfl _ _ hP hD hS _ (lv_sub hl [0, 1, 2, 3] rfl)

set_option maxHeartbeats 4000000 in
set_option maxRecDepth 100000 in
theorem m_X1_countPossible (h0 h1 h2 h3 h4 h5 h6 p2 n wn t tc sc : Nat) (uw : Bool) (c1 c2 : Nat) (s ow hf tf : Nat → Nat) (j : Nat) (hj : j < 5) (hw : wn < 1024) (hc1 : c1 ≤ 243) (hb1 : ∀ j, j < c1 → hf j < 1024) : Mp l yX1_countPossible ws_X1_countPossible 1 22 (dC, dI) (tyL cI cZ cJ) [.ref h0, .int (nI j)] (gW cI h0 h1 h2 h3 h4 h5 h6 h1 p2 n wn t tc sc uw c1 c2 s ow hf tf) (fun r => r = nI ((Lof hf c1).countP (fun x => agr wn x (s j)))) := by
  refine Mi_of (by decide +kernel) (Nat.le_of_ble_eq_true rfl) ?_
  intro pr ev sx mi ag bl me cd Q ls S hP hK hD hZ hl ret
  obtain ⟨hx, hb, hml, hown, hts⟩ := id S
  have hown : sx.vm.findClass RX1 = some mi.cls := hown
  have hS : va_S (wIn (gW cI h0 h1 h2 h3 h4 h5 h6 h1 p2 n wn t tc sc uw c1 c2 s ow hf tf)) sx.heap sx.heap [] := va_S.rf
  have hl : lv_has ls 5 [(0, .ref h0), (1, .int (nI j))] := hl
  refine lv_iconst (v := nI 0) hx hb dX1_countPossible_0 (by decide) ?_
  refine lv_istore_n (lv' := [(2, .int (nI 0)), (0, .ref h0), (1, .int (nI j))]) hx hb dX1_countPossible_1 rfl hl (by decide) rfl (fun ls hl => ?_)
  refine lv_aload_n hx hb dX1_countPossible_2 rfl (lv_at hl 1 rfl) ?_
  refine lv_iload_n hx hb dX1_countPossible_3 rfl (lv_at hl 2 rfl) ?_
  refine call_Vp (As := [.int (nI j)]) (rest := []) S (m_X1_seenHatsOf h0 h1 h2 h3 h4 h5 h6 h1 p2 n wn t tc sc uw c1 c2 s ow hf tf j (by omega)) g_X1_X1_seenHatsOf hd_X1_seenHatsOf ⟨Nat.le_of_ble_eq_true rfl, Nat.le_of_ble_eq_true rfl⟩ ⟨Nat.zero_le _, Nat.zero_le _⟩ hP hD hK hS hZ [0, 1, 2, 3, 4, 5, 6] rfl (by decide) 0 rfl rfl hl.1 rfl (Nat.le_of_ble_eq_true rfl) dX1_countPossible_4 (fun r H locs hq hP hS => ?_)
  obtain rfl := hq
  refine lv_istore_n (lv' := [(3, .int (nI (s j))), (2, .int (nI 0)), (0, .ref h0), (1, .int (nI j))]) hx hb dX1_countPossible_7 rfl hl (by decide) rfl (fun ls hl => ?_)
  refine lv_iconst (v := nI 0) hx hb dX1_countPossible_8 (by decide) ?_
  refine lv_istore (lv' := [(4, .int (nI 0)), (3, .int (nI (s j))), (2, .int (nI 0)), (0, .ref h0), (1, .int (nI j))]) hx hb dX1_countPossible_9 hl (by decide) rfl (fun ls hl => ?_)
  have lp11 : ∀ (kf : Nat) (i : Nat) (a : Nat), c1 < i + kf → (i ≤ c1) → (a = (Lof hf i).countP (fun x => agr wn x (s j))) → ∀ (H : Heap) (locs : List Loc), va_P (dC, dI) vwCl (gW cI h0 h1 h2 h3 h4 h5 h6 h1 p2 n wn t tc sc uw c1 c2 s ow hf tf) H → va_D (wIn (gW cI h0 h1 h2 h3 h4 h5 h6 h1 p2 n wn t tc sc uw c1 c2 s ow hf tf)) (gW cI h0 h1 h2 h3 h4 h5 h6 h1 p2 n wn t tc sc uw c1 c2 s ow hf tf) → va_S (wIn (gW cI h0 h1 h2 h3 h4 h5 h6 h1 p2 n wn t tc sc uw c1 c2 s ow hf tf)) sx.heap H locs → ∀ ls : Array Slot, lv_has ls 5 [(4, .int (nI i)), (3, .int (nI (s j))), (2, .int (nI a)), (0, .ref h0), (1, .int (nI j))] → W pr l ev (rmB 1 22) sx mi ag bl me cd H locs 0 0 Q (F0 mi 11 ls []) := by
    intro kf
    induction kf with
    | zero => intro i a hkf hi ha; exact absurd hkf (by omega)
    | succ kf ih11 =>
      intro i a hkf hi ha H locs hP hD hS ls hl
      refine lv_iload hx hb dX1_countPossible_11 (lv_at hl 0 rfl) ?_
      refine lv_aload_n hx hb dX1_countPossible_13 rfl (lv_at hl 3 rfl) ?_
      refine va_get (D := (dC, dI)) (ci := 1) (v := .ref h1) (C := RX1) (T := TX1) (N := 10) hx hb hts inX1 hown hK hP 0 rfl rfl 0 (by decide) (hts _ q_fl_X1_10) (fun _ h9 => h9) rfl dX1_countPossible_14 ?_
      refine call_Vp (As := []) (rest := [.int (nI i)]) S (m_X0_count h1 h5 c1 hf) g_X1_X0_count hd_X0_count ⟨Nat.le_of_ble_eq_true rfl, Nat.le_of_ble_eq_true rfl⟩ ⟨Nat.zero_le _, Nat.zero_le _⟩ hP hD hK hS hZ [1, 5] rfl (by decide) 0 rfl rfl hl.1 rfl (Nat.le_of_ble_eq_true rfl) dX1_countPossible_17 (fun r H locs hq hP hS => ?_)
      obtain rfl := hq
      refine icN_ge (tgt := 49) hx hb dX1_countPossible_20 (by decide) (by omega) (by omega) (fun c_20 => ?_) (fun c_20 => ?_)
      · refine lv_iload_n hx hb dX1_countPossible_49 rfl (lv_at hl 2 rfl) ?_
        exact ret _ (gW cI h0 h1 h2 h3 h4 h5 h6 h1 p2 n wn t tc sc uw c1 c2 s ow hf tf) _ _ _ _ dX1_countPossible_50 rfl ⟨rfl, by rw [ha, show i = c1 by omega]⟩ (List.Perm.refl _) hP hS
      · refine lv_aload_n hx hb dX1_countPossible_23 rfl (lv_at hl 3 rfl) ?_
        refine lv_aload_n hx hb dX1_countPossible_24 rfl (lv_at hl 3 rfl) ?_
        refine va_get (D := (dC, dI)) (ci := 1) (v := .ref h1) (C := RX1) (T := TX1) (N := 10) hx hb hts inX1 hown hK hP 0 rfl rfl 0 (by decide) (hts _ q_fl_X1_10) (fun _ h9 => h9) rfl dX1_countPossible_25 ?_
        refine lv_iload hx hb dX1_countPossible_28 (lv_at hl 0 rfl) ?_
        refine call_Vp (As := [.int (nI i)]) (rest := [.ref h0]) S (m_X0_at h1 h5 c1 hf i (by omega)) g_X1_X0_at hd_X0_at ⟨Nat.le_of_ble_eq_true rfl, Nat.le_of_ble_eq_true rfl⟩ ⟨Nat.zero_le _, Nat.zero_le _⟩ hP hD hK hS hZ [1, 5] rfl (by decide) 0 rfl rfl hl.1 rfl (Nat.le_of_ble_eq_true rfl) dX1_countPossible_30 (fun r H locs hq hP hS => ?_)
        obtain rfl := hq
        refine lv_iload_n hx hb dX1_countPossible_33 rfl (lv_at hl 1 rfl) ?_
        refine call_Vp (As := [.int (nI (hf i)), .int (nI (s j))]) (rest := []) S (m_X1_agreesWithNow h0 h1 h2 h3 h4 h5 h6 h1 p2 n wn t tc sc uw c1 c2 s ow hf tf (hf i) (s j) (hb1 _ (by omega)) hw) g_X1_X1_agreesWithNow hd_X1_agreesWithNow ⟨Nat.le_of_ble_eq_true rfl, Nat.le_of_ble_eq_true rfl⟩ ⟨Nat.zero_le _, Nat.zero_le _⟩ hP hD hK hS hZ [0, 1, 2, 3, 4, 5, 6] rfl (by decide) 0 rfl rfl hl.1 rfl (Nat.le_of_ble_eq_true rfl) dX1_countPossible_34 (fun r H locs hq hP hS => ?_)
        obtain rfl := hq
        refine ifB_eq (tgt := 43) hx hb dX1_countPossible_37 (by decide) (fun c_37 => ?_) (fun c_37 => ?_)
        · refine lv_iinc (v := nI (i + 1)) (lv' := [(4, .int (nI (i + 1))), (3, .int (nI (s j))), (2, .int (nI a)), (0, .ref h0), (1, .int (nI j))]) hx hb dX1_countPossible_43 hl (k := 0) rfl (nI_add _ _) (by decide) rfl (fun ls hl => ?_)
          refine lv_goto (tgt := 11) hx hb dX1_countPossible_46 (by decide) ?_
          exact ih11 (i + 1) _ (by omega) (by omega) (cnt_f c_37 ha) _ _ hP hD hS _ (lv_sub hl [0, 1, 2, 3, 4] rfl)
        · refine lv_iinc (v := nI (a + 1)) (lv' := [(2, .int (nI (a + 1))), (4, .int (nI i)), (3, .int (nI (s j))), (0, .ref h0), (1, .int (nI j))]) hx hb dX1_countPossible_40 hl (k := 2) rfl (nI_add _ _) (by decide) rfl (fun ls hl => ?_)
          refine lv_iinc (v := nI (i + 1)) (lv' := [(4, .int (nI (i + 1))), (2, .int (nI (a + 1))), (3, .int (nI (s j))), (0, .ref h0), (1, .int (nI j))]) hx hb dX1_countPossible_43 hl (k := 1) rfl (nI_add _ _) (by decide) rfl (fun ls hl => ?_)
          refine lv_goto (tgt := 11) hx hb dX1_countPossible_46 (by decide) ?_
          exact ih11 (i + 1) _ (by omega) (by omega) (cnt_t c_37 ha) _ _ hP hD hS _ (lv_sub hl [0, 2, 1, 3, 4] rfl)
  exact lp11 (c1 + 1) 0 0 (by omega) (by omega) rfl _ _ hP hD hS _ (lv_sub hl [0, 1, 2, 3, 4] rfl)

set_option maxHeartbeats 4000000 in
set_option maxRecDepth 100000 in
theorem m_X1_possibleColours (h0 h1 h2 h3 h4 h5 h6 p1 p2 n wn t tc sc : Nat) (uw : Bool) (c1 c2 : Nat) (s ow hf tf : Nat → Nat) (j k : Nat) (hj : j < 5) (hk : k < 5) (hw : wn < 1024) (hc1 : c1 ≤ 243) (hb1 : ∀ j, j < c1 → hf j < 1024) : Mp l yX1_possibleColours ws_X1_possibleColours 1 22 (dC, dI) (tyL cI cZ cJ) [.ref h0, .ref h1, .int (nI j), .int (nI k)] (gW cI h0 h1 h2 h3 h4 h5 h6 p1 p2 n wn t tc sc uw c1 c2 s ow hf tf) (fun r => r = nI (pcol wn (s j) k (Lof hf c1))) := by
  refine Mi_of (by decide +kernel) (Nat.le_of_ble_eq_true rfl) ?_
  intro pr ev sx mi ag bl me cd Q ls S hP hK hD hZ hl ret
  obtain ⟨hx, hb, hml, hown, hts⟩ := id S
  have hown : sx.vm.findClass RX1 = some mi.cls := hown
  have hS : va_S (wIn (gW cI h0 h1 h2 h3 h4 h5 h6 p1 p2 n wn t tc sc uw c1 c2 s ow hf tf)) sx.heap sx.heap [] := va_S.rf
  have hl : lv_has ls 8 [(0, .ref h0), (1, .ref h1), (2, .int (nI j)), (3, .int (nI k))] := hl
  refine lv_iconst (v := nI 0) hx hb dX1_possibleColours_0 (by decide) ?_
  refine lv_istore (lv' := [(4, .int (nI 0)), (0, .ref h0), (1, .ref h1), (2, .int (nI j)), (3, .int (nI k))]) hx hb dX1_possibleColours_1 hl (by decide) rfl (fun ls hl => ?_)
  refine lv_aload_n hx hb dX1_possibleColours_3 rfl (lv_at hl 1 rfl) ?_
  refine lv_iload_n hx hb dX1_possibleColours_4 rfl (lv_at hl 3 rfl) ?_
  refine call_Vp (As := [.int (nI j)]) (rest := []) S (m_X1_seenHatsOf h0 h1 h2 h3 h4 h5 h6 p1 p2 n wn t tc sc uw c1 c2 s ow hf tf j (by omega)) g_X1_X1_seenHatsOf hd_X1_seenHatsOf ⟨Nat.le_of_ble_eq_true rfl, Nat.le_of_ble_eq_true rfl⟩ ⟨Nat.zero_le _, Nat.zero_le _⟩ hP hD hK hS hZ [0, 1, 2, 3, 4, 5, 6] rfl (by decide) 0 rfl rfl hl.1 rfl (Nat.le_of_ble_eq_true rfl) dX1_possibleColours_5 (fun r H locs hq hP hS => ?_)
  obtain rfl := hq
  refine lv_istore (lv' := [(5, .int (nI (s j))), (4, .int (nI 0)), (0, .ref h0), (1, .ref h1), (2, .int (nI j)), (3, .int (nI k))]) hx hb dX1_possibleColours_8 hl (by decide) rfl (fun ls hl => ?_)
  refine lv_iconst (v := nI 0) hx hb dX1_possibleColours_10 (by decide) ?_
  refine lv_istore (lv' := [(6, .int (nI 0)), (5, .int (nI (s j))), (4, .int (nI 0)), (0, .ref h0), (1, .ref h1), (2, .int (nI j)), (3, .int (nI k))]) hx hb dX1_possibleColours_11 hl (by decide) rfl (fun ls hl => ?_)
  have lp13 : ∀ (kf : Nat) (i : Nat) (a : Nat), c1 < i + kf → (i ≤ c1) → (a = pcol wn (s j) k (Lof hf i)) → ∀ (H : Heap) (locs : List Loc), va_P (dC, dI) vwCl (gW cI h0 h1 h2 h3 h4 h5 h6 p1 p2 n wn t tc sc uw c1 c2 s ow hf tf) H → va_D (wIn (gW cI h0 h1 h2 h3 h4 h5 h6 p1 p2 n wn t tc sc uw c1 c2 s ow hf tf)) (gW cI h0 h1 h2 h3 h4 h5 h6 p1 p2 n wn t tc sc uw c1 c2 s ow hf tf) → va_S (wIn (gW cI h0 h1 h2 h3 h4 h5 h6 p1 p2 n wn t tc sc uw c1 c2 s ow hf tf)) sx.heap H locs → ∀ ls : Array Slot, lv_has ls 8 [(6, .int (nI i)), (5, .int (nI (s j))), (4, .int (nI a)), (0, .ref h0), (1, .ref h1), (2, .int (nI j)), (3, .int (nI k))] → W pr l ev (rmB 1 22) sx mi ag bl me cd H locs 0 0 Q (F0 mi 13 ls []) := by
    intro kf
    induction kf with
    | zero => intro i a hkf hi ha; exact absurd hkf (by omega)
    | succ kf ih13 =>
      intro i a hkf hi ha H locs hP hD hS ls hl
      refine lv_iload hx hb dX1_possibleColours_13 (lv_at hl 0 rfl) ?_
      refine lv_aload_n hx hb dX1_possibleColours_15 rfl (lv_at hl 4 rfl) ?_
      refine call_Vp (As := []) (rest := [.int (nI i)]) S (m_X0_count h1 h5 c1 hf) g_X1_X0_count hd_X0_count ⟨Nat.le_of_ble_eq_true rfl, Nat.le_of_ble_eq_true rfl⟩ ⟨Nat.zero_le _, Nat.zero_le _⟩ hP hD hK hS hZ [1, 5] rfl (by decide) 0 rfl rfl hl.1 rfl (Nat.le_of_ble_eq_true rfl) dX1_possibleColours_16 (fun r H locs hq hP hS => ?_)
      obtain rfl := hq
      refine icN_ge (tgt := 60) hx hb dX1_possibleColours_19 (by decide) (by omega) (by omega) (fun c_19 => ?_) (fun c_19 => ?_)
      · refine lv_iload hx hb dX1_possibleColours_60 (lv_at hl 2 rfl) ?_
        exact ret _ (gW cI h0 h1 h2 h3 h4 h5 h6 p1 p2 n wn t tc sc uw c1 c2 s ow hf tf) _ _ _ _ dX1_possibleColours_62 rfl ⟨rfl, by rw [ha, show i = c1 by omega]⟩ (List.Perm.refl _) hP hS
      · refine lv_aload_n hx hb dX1_possibleColours_22 rfl (lv_at hl 4 rfl) ?_
        refine lv_iload hx hb dX1_possibleColours_23 (lv_at hl 0 rfl) ?_
        refine call_Vp (As := [.int (nI i)]) (rest := []) S (m_X0_at h1 h5 c1 hf i (by omega)) g_X1_X0_at hd_X0_at ⟨Nat.le_of_ble_eq_true rfl, Nat.le_of_ble_eq_true rfl⟩ ⟨Nat.zero_le _, Nat.zero_le _⟩ hP hD hK hS hZ [1, 5] rfl (by decide) 0 rfl rfl hl.1 rfl (Nat.le_of_ble_eq_true rfl) dX1_possibleColours_25 (fun r H locs hq hP hS => ?_)
        obtain rfl := hq
        refine lv_istore (lv' := [(7, .int (nI (hf i))), (6, .int (nI i)), (5, .int (nI (s j))), (4, .int (nI a)), (0, .ref h0), (1, .ref h1), (2, .int (nI j)), (3, .int (nI k))]) hx hb dX1_possibleColours_28 hl (by decide) rfl (fun ls hl => ?_)
        refine lv_aload_n hx hb dX1_possibleColours_30 rfl (lv_at hl 4 rfl) ?_
        refine lv_iload hx hb dX1_possibleColours_31 (lv_at hl 0 rfl) ?_
        refine lv_iload hx hb dX1_possibleColours_33 (lv_at hl 2 rfl) ?_
        refine call_Vp (As := [.int (nI (hf i)), .int (nI (s j))]) (rest := []) S (m_X1_agreesWithNow h0 h1 h2 h3 h4 h5 h6 p1 p2 n wn t tc sc uw c1 c2 s ow hf tf (hf i) (s j) (hb1 _ (by omega)) hw) g_X1_X1_agreesWithNow hd_X1_agreesWithNow ⟨Nat.le_of_ble_eq_true rfl, Nat.le_of_ble_eq_true rfl⟩ ⟨Nat.zero_le _, Nat.zero_le _⟩ hP hD hK hS hZ [0, 1, 2, 3, 4, 5, 6] rfl (by decide) 0 rfl rfl hl.1 rfl (Nat.le_of_ble_eq_true rfl) dX1_possibleColours_35 (fun r H locs hq hP hS => ?_)
        obtain rfl := hq
        refine ifB_eq (tgt := 54) hx hb dX1_possibleColours_38 (by decide) (fun c_38 => ?_) (fun c_38 => ?_)
        · refine lv_iinc (v := nI (i + 1)) (lv' := [(6, .int (nI (i + 1))), (7, .int (nI (hf i))), (5, .int (nI (s j))), (4, .int (nI a)), (0, .ref h0), (1, .ref h1), (2, .int (nI j)), (3, .int (nI k))]) hx hb dX1_possibleColours_54 hl (k := 1) rfl (nI_add _ _) (by decide) rfl (fun ls hl => ?_)
          refine lv_goto (tgt := 13) hx hb dX1_possibleColours_57 (by decide) ?_
          exact ih13 (i + 1) _ (by omega) (by omega) (pcol_f c_38 ha) _ _ hP hD hS _ (lv_sub hl [0, 2, 3, 4, 5, 6, 7] rfl)
        · refine lv_iload hx hb dX1_possibleColours_41 (lv_at hl 3 rfl) ?_
          refine lv_iconst (v := nI 1) hx hb dX1_possibleColours_43 (by decide) ?_
          refine lv_iload hx hb dX1_possibleColours_44 (lv_at hl 0 rfl) ?_
          refine lv_iload_n hx hb dX1_possibleColours_46 rfl (lv_at hl 7 rfl) ?_
          refine call_Sp (As := [.int (nI (hf i)), .int (nI k)]) (rest := [.int (nI 1), .int (nI a)]) S (m_X1_colourIn (hf i) k (hb1 _ (by omega)) (by omega)) g_X1_X1_colourIn hd_X1_colourIn ⟨Nat.le_of_ble_eq_true rfl, Nat.le_of_ble_eq_true rfl⟩ ⟨Nat.zero_le _, Nat.zero_le _⟩ hP hD hK hS hZ [] rfl (by decide) hl.1 rfl (Nat.le_of_ble_eq_true rfl) dX1_possibleColours_47 (fun r H locs hq hP hS => ?_)
          obtain rfl := hq
          refine lv_ishl hx hb dX1_possibleColours_50 ?_
          refine W_i (y := nI (1 * 2 ^ (qd (hf i) k))) (nI_shl _ (by have := qd_lt (hf i) k; omega)) ?_
          refine lv_ior hx hb dX1_possibleColours_51 ?_
          refine W_i (y := nI (a ||| (1 * 2 ^ (qd (hf i) k)))) (nI_or _ _) ?_
          refine lv_istore (lv' := [(4, .int (nI (a ||| (1 * 2 ^ (qd (hf i) k))))), (7, .int (nI (hf i))), (6, .int (nI i)), (5, .int (nI (s j))), (0, .ref h0), (1, .ref h1), (2, .int (nI j)), (3, .int (nI k))]) hx hb dX1_possibleColours_52 hl (by decide) rfl (fun ls hl => ?_)
          refine lv_iinc (v := nI (i + 1)) (lv' := [(6, .int (nI (i + 1))), (4, .int (nI (a ||| (1 * 2 ^ (qd (hf i) k))))), (7, .int (nI (hf i))), (5, .int (nI (s j))), (0, .ref h0), (1, .ref h1), (2, .int (nI j)), (3, .int (nI k))]) hx hb dX1_possibleColours_54 hl (k := 2) rfl (nI_add _ _) (by decide) rfl (fun ls hl => ?_)
          refine lv_goto (tgt := 13) hx hb dX1_possibleColours_57 (by decide) ?_
          exact ih13 (i + 1) _ (by omega) (by omega) (pcol_t c_38 ha) _ _ hP hD hS _ (lv_sub hl [0, 3, 1, 4, 5, 6, 7] rfl)
  exact lp13 (c1 + 1) 0 0 (by omega) (by omega) rfl _ _ hP hD hS _ (lv_sub hl [0, 1, 2, 3, 4, 5, 6] rfl)

def pop16 (b : Nat) : Nat := (b / 8) % 2 + (b / 4) % 2 + (b / 2) % 2 + b % 2
set_option maxRecDepth 100000 in
theorem bc16 : ∀ b, b < 16 → ((((((((nI b - (((((nI b).toUInt32 >>> ((1 : Int32).toUInt32 &&& Int32.toUInt32 31)).toInt32) &&& (1431655765 : Int32)) : Int32)) &&& (858993459 : Int32)) + ((((((nI b - (((((nI b).toUInt32 >>> ((1 : Int32).toUInt32 &&& Int32.toUInt32 31)).toInt32) &&& (1431655765 : Int32)) : Int32))).toUInt32 >>> ((2 : Int32).toUInt32 &&& Int32.toUInt32 31)).toInt32) &&& (858993459 : Int32)) : Int32)) + (((((((nI b - (((((nI b).toUInt32 >>> ((1 : Int32).toUInt32 &&& Int32.toUInt32 31)).toInt32) &&& (1431655765 : Int32)) : Int32)) &&& (858993459 : Int32)) + ((((((nI b - (((((nI b).toUInt32 >>> ((1 : Int32).toUInt32 &&& Int32.toUInt32 31)).toInt32) &&& (1431655765 : Int32)) : Int32))).toUInt32 >>> ((2 : Int32).toUInt32 &&& Int32.toUInt32 31)).toInt32) &&& (858993459 : Int32)) : Int32))).toUInt32 >>> ((4 : Int32).toUInt32 &&& Int32.toUInt32 31)).toInt32) : Int32)) &&& (252645135 : Int32)) + (((((((((nI b - (((((nI b).toUInt32 >>> ((1 : Int32).toUInt32 &&& Int32.toUInt32 31)).toInt32) &&& (1431655765 : Int32)) : Int32)) &&& (858993459 : Int32)) + ((((((nI b - (((((nI b).toUInt32 >>> ((1 : Int32).toUInt32 &&& Int32.toUInt32 31)).toInt32) &&& (1431655765 : Int32)) : Int32))).toUInt32 >>> ((2 : Int32).toUInt32 &&& Int32.toUInt32 31)).toInt32) &&& (858993459 : Int32)) : Int32)) + (((((((nI b - (((((nI b).toUInt32 >>> ((1 : Int32).toUInt32 &&& Int32.toUInt32 31)).toInt32) &&& (1431655765 : Int32)) : Int32)) &&& (858993459 : Int32)) + ((((((nI b - (((((nI b).toUInt32 >>> ((1 : Int32).toUInt32 &&& Int32.toUInt32 31)).toInt32) &&& (1431655765 : Int32)) : Int32))).toUInt32 >>> ((2 : Int32).toUInt32 &&& Int32.toUInt32 31)).toInt32) &&& (858993459 : Int32)) : Int32))).toUInt32 >>> ((4 : Int32).toUInt32 &&& Int32.toUInt32 31)).toInt32) : Int32)) &&& (252645135 : Int32))).toUInt32 >>> ((8 : Int32).toUInt32 &&& Int32.toUInt32 31)).toInt32) : Int32)) + ((((((((((nI b - (((((nI b).toUInt32 >>> ((1 : Int32).toUInt32 &&& Int32.toUInt32 31)).toInt32) &&& (1431655765 : Int32)) : Int32)) &&& (858993459 : Int32)) + ((((((nI b - (((((nI b).toUInt32 >>> ((1 : Int32).toUInt32 &&& Int32.toUInt32 31)).toInt32) &&& (1431655765 : Int32)) : Int32))).toUInt32 >>> ((2 : Int32).toUInt32 &&& Int32.toUInt32 31)).toInt32) &&& (858993459 : Int32)) : Int32)) + (((((((nI b - (((((nI b).toUInt32 >>> ((1 : Int32).toUInt32 &&& Int32.toUInt32 31)).toInt32) &&& (1431655765 : Int32)) : Int32)) &&& (858993459 : Int32)) + ((((((nI b - (((((nI b).toUInt32 >>> ((1 : Int32).toUInt32 &&& Int32.toUInt32 31)).toInt32) &&& (1431655765 : Int32)) : Int32))).toUInt32 >>> ((2 : Int32).toUInt32 &&& Int32.toUInt32 31)).toInt32) &&& (858993459 : Int32)) : Int32))).toUInt32 >>> ((4 : Int32).toUInt32 &&& Int32.toUInt32 31)).toInt32) : Int32)) &&& (252645135 : Int32)) + (((((((((nI b - (((((nI b).toUInt32 >>> ((1 : Int32).toUInt32 &&& Int32.toUInt32 31)).toInt32) &&& (1431655765 : Int32)) : Int32)) &&& (858993459 : Int32)) + ((((((nI b - (((((nI b).toUInt32 >>> ((1 : Int32).toUInt32 &&& Int32.toUInt32 31)).toInt32) &&& (1431655765 : Int32)) : Int32))).toUInt32 >>> ((2 : Int32).toUInt32 &&& Int32.toUInt32 31)).toInt32) &&& (858993459 : Int32)) : Int32)) + (((((((nI b - (((((nI b).toUInt32 >>> ((1 : Int32).toUInt32 &&& Int32.toUInt32 31)).toInt32) &&& (1431655765 : Int32)) : Int32)) &&& (858993459 : Int32)) + ((((((nI b - (((((nI b).toUInt32 >>> ((1 : Int32).toUInt32 &&& Int32.toUInt32 31)).toInt32) &&& (1431655765 : Int32)) : Int32))).toUInt32 >>> ((2 : Int32).toUInt32 &&& Int32.toUInt32 31)).toInt32) &&& (858993459 : Int32)) : Int32))).toUInt32 >>> ((4 : Int32).toUInt32 &&& Int32.toUInt32 31)).toInt32) : Int32)) &&& (252645135 : Int32))).toUInt32 >>> ((8 : Int32).toUInt32 &&& Int32.toUInt32 31)).toInt32) : Int32))).toUInt32 >>> ((16 : Int32).toUInt32 &&& Int32.toUInt32 31)).toInt32) : Int32)) &&& (63 : Int32)) = nI (pop16 b) := by decide +kernel
theorem pop_1 : ∀ b, b < 16 → (pop16 b = 1 ↔ one1 b = true) := by decide +kernel
theorem pop_lt : ∀ b, b < 16 → pop16 b < 5 := by decide +kernel
set_option maxHeartbeats 4000000 in
set_option maxRecDepth 100000 in
theorem m_J6_bitCount_0f7a4 (b : Nat) (hb16 : b < 16) : Mp l yJ6_bitCount_0f7a4 ws_J6_bitCount_0f7a4 0 0 (dC, dI) (tyL cI cZ cJ) [.int (nI b)] [] (fun r => r = nI (pop16 b)) := by
  refine Mi_of (by decide +kernel) (Nat.le_of_ble_eq_true rfl) ?_
  intro pr ev sx mi ag bl me cd Q ls S hP hK hD hZ hl ret
  obtain ⟨hx, hb, hml, hown, hts⟩ := id S
  have hown : sx.vm.findClass RJ6 = some mi.cls := hown
  have hS : va_S (wIn []) sx.heap sx.heap [] := va_S.rf
  have hl : lv_has ls 1 [(0, .int (nI b))] := hl
  refine lv_iload_n hx hb dJ6_bitCount_0f7a4_0 rfl (lv_at hl 0 rfl) ?_
  refine lv_iload_n hx hb dJ6_bitCount_0f7a4_1 rfl (lv_at hl 0 rfl) ?_
  refine lv_iconst (v := 1) hx hb dJ6_bitCount_0f7a4_2 (by decide) ?_
  refine lv_iushr hx hb dJ6_bitCount_0f7a4_3 rfl ?_
  refine lv_ldcw hx hb hown (hts _ q_k_J6_265) dJ6_bitCount_0f7a4_4 ?_
  refine lv_iand hx hb dJ6_bitCount_0f7a4_7 ?_
  refine lv_isub hx hb dJ6_bitCount_0f7a4_8 ?_
  refine lv_topi (fun z1 ez1 => ?_)
  refine lv_istore_n (lv' := [(0, .int z1)]) hx hb dJ6_bitCount_0f7a4_9 rfl hl (by decide) rfl (fun ls hl => ?_)
  refine lv_iload_n hx hb dJ6_bitCount_0f7a4_10 rfl (lv_at hl 0 rfl) ?_
  refine lv_ldcw hx hb hown (hts _ q_k_J6_266) dJ6_bitCount_0f7a4_11 ?_
  refine lv_iand hx hb dJ6_bitCount_0f7a4_14 ?_
  refine lv_iload_n hx hb dJ6_bitCount_0f7a4_15 rfl (lv_at hl 0 rfl) ?_
  refine lv_iconst (v := 2) hx hb dJ6_bitCount_0f7a4_16 (by decide) ?_
  refine lv_iushr hx hb dJ6_bitCount_0f7a4_17 rfl ?_
  refine lv_ldcw hx hb hown (hts _ q_k_J6_266) dJ6_bitCount_0f7a4_18 ?_
  refine lv_iand hx hb dJ6_bitCount_0f7a4_21 ?_
  refine lv_iadd hx hb dJ6_bitCount_0f7a4_22 ?_
  refine lv_topi (fun z2 ez2 => ?_)
  refine lv_istore_n (lv' := [(0, .int z2)]) hx hb dJ6_bitCount_0f7a4_23 rfl hl (by decide) rfl (fun ls hl => ?_)
  refine lv_iload_n hx hb dJ6_bitCount_0f7a4_24 rfl (lv_at hl 0 rfl) ?_
  refine lv_iload_n hx hb dJ6_bitCount_0f7a4_25 rfl (lv_at hl 0 rfl) ?_
  refine lv_iconst (v := 4) hx hb dJ6_bitCount_0f7a4_26 (by decide) ?_
  refine lv_iushr hx hb dJ6_bitCount_0f7a4_27 rfl ?_
  refine lv_iadd hx hb dJ6_bitCount_0f7a4_28 ?_
  refine lv_ldcw hx hb hown (hts _ q_k_J6_267) dJ6_bitCount_0f7a4_29 ?_
  refine lv_iand hx hb dJ6_bitCount_0f7a4_32 ?_
  refine lv_topi (fun z3 ez3 => ?_)
  refine lv_istore_n (lv' := [(0, .int z3)]) hx hb dJ6_bitCount_0f7a4_33 rfl hl (by decide) rfl (fun ls hl => ?_)
  refine lv_iload_n hx hb dJ6_bitCount_0f7a4_34 rfl (lv_at hl 0 rfl) ?_
  refine lv_iload_n hx hb dJ6_bitCount_0f7a4_35 rfl (lv_at hl 0 rfl) ?_
  refine lv_bipush (v := 8) hx hb dJ6_bitCount_0f7a4_36 (by decide) ?_
  refine lv_iushr hx hb dJ6_bitCount_0f7a4_38 rfl ?_
  refine lv_iadd hx hb dJ6_bitCount_0f7a4_39 ?_
  refine lv_topi (fun z4 ez4 => ?_)
  refine lv_istore_n (lv' := [(0, .int z4)]) hx hb dJ6_bitCount_0f7a4_40 rfl hl (by decide) rfl (fun ls hl => ?_)
  refine lv_iload_n hx hb dJ6_bitCount_0f7a4_41 rfl (lv_at hl 0 rfl) ?_
  refine lv_iload_n hx hb dJ6_bitCount_0f7a4_42 rfl (lv_at hl 0 rfl) ?_
  refine lv_bipush (v := 16) hx hb dJ6_bitCount_0f7a4_43 (by decide) ?_
  refine lv_iushr hx hb dJ6_bitCount_0f7a4_45 rfl ?_
  refine lv_iadd hx hb dJ6_bitCount_0f7a4_46 ?_
  refine lv_topi (fun z5 ez5 => ?_)
  refine lv_istore_n (lv' := [(0, .int z5)]) hx hb dJ6_bitCount_0f7a4_47 rfl hl (by decide) rfl (fun ls hl => ?_)
  refine lv_iload_n hx hb dJ6_bitCount_0f7a4_48 rfl (lv_at hl 0 rfl) ?_
  refine lv_bipush (v := 63) hx hb dJ6_bitCount_0f7a4_49 (by decide) ?_
  refine lv_iand hx hb dJ6_bitCount_0f7a4_51 ?_
  exact ret _ [] _ _ _ _ dJ6_bitCount_0f7a4_52 rfl ⟨rfl, by subst ez5 ez4 ez3 ez2 ez1; exact bc16 b hb16⟩ (List.Perm.refl _) hP hS
set_option maxHeartbeats 4000000 in
set_option maxRecDepth 100000 in
theorem m_X1_isOneColour (b : Nat) (hb16 : b < 16) : Mp l yX1_isOneColour ws_X1_isOneColour 1 20 (dC, dI) (tyL cI cZ cJ) [.int (nI b)] ([]) (fun r => r = bI (one1 b)) := by
  refine Mi_of (by decide +kernel) (Nat.le_of_ble_eq_true rfl) ?_
  intro pr ev sx mi ag bl me cd Q ls S hP hK hD hZ hl ret
  obtain ⟨hx, hb, hml, hown, hts⟩ := id S
  have hown : sx.vm.findClass RX1 = some mi.cls := hown
  have hS : va_S (wIn ([])) sx.heap sx.heap [] := va_S.rf
  have hl : lv_has ls 1 [(0, .int (nI b))] := hl
  refine lv_iload_n hx hb dX1_isOneColour_0 rfl (lv_at hl 0 rfl) ?_
  refine call_Sp (As := [.int (nI b)]) (rest := []) S (m_J6_bitCount_0f7a4 b hb16) g_X1_J6_bitCount_0f7a4 hd_J6_bitCount_0f7a4 ⟨Nat.le_of_ble_eq_true rfl, Nat.le_of_ble_eq_true rfl⟩ ⟨Nat.zero_le _, Nat.zero_le _⟩ hP hD hK hS hZ [] rfl (by decide) hl.1 rfl (Nat.le_of_ble_eq_true rfl) dX1_isOneColour_1 (fun r H locs hq hP hS => ?_)
  obtain rfl := hq
  refine lv_iconst (v := nI 1) hx hb dX1_isOneColour_4 (by decide) ?_
  refine icN_ne (tgt := 12) hx hb dX1_isOneColour_5 (by decide) (by have := pop_lt b hb16; omega) (by omega) (fun c_5 => ?_) (fun c_5 => ?_)
  · refine lv_iconst (v := nI 0) hx hb dX1_isOneColour_12 (by decide) ?_
    exact ret _ ([]) _ _ _ _ dX1_isOneColour_13 rfl ⟨rfl, bI_f (by cases ho : one1 b with | false => rfl | true => exact absurd ((pop_1 b hb16).mpr ho) c_5)⟩ (List.Perm.refl _) hP hS
  · refine lv_iconst (v := nI 1) hx hb dX1_isOneColour_8 (by decide) ?_
    refine lv_goto (tgt := 13) hx hb dX1_isOneColour_9 (by decide) ?_
    exact ret _ ([]) _ _ _ _ dX1_isOneColour_13 rfl ⟨rfl, bI_t ((pop_1 b hb16).mp c_5)⟩ (List.Perm.refl _) hP hS

set_option maxHeartbeats 4000000 in
set_option maxRecDepth 100000 in
theorem m_X1_isCertainBy (h0 h1 h2 h3 h4 h5 h6 p1 p2 n wn t tc sc : Nat) (uw : Bool) (c1 c2 : Nat) (s ow hf tf : Nat → Nat) (j : Nat) (hj : j < 5) (hw : wn < 1024) (hc1 : c1 ≤ 243) (hb1 : ∀ j, j < c1 → hf j < 1024) : Mp l yX1_isCertainBy ws_X1_isCertainBy 2 49 (dC, dI) (tyL cI cZ cJ) [.ref h0, .ref h1, .int (nI j)] (gW cI h0 h1 h2 h3 h4 h5 h6 p1 p2 n wn t tc sc uw c1 c2 s ow hf tf) (fun r => r = bI (cert wn (s j) j (Lof hf c1))) := by
  refine Mi_of (by decide +kernel) (Nat.le_of_ble_eq_true rfl) ?_
  intro pr ev sx mi ag bl me cd Q ls S hP hK hD hZ hl ret
  obtain ⟨hx, hb, hml, hown, hts⟩ := id S
  have hown : sx.vm.findClass RX1 = some mi.cls := hown
  have hS : va_S (wIn (gW cI h0 h1 h2 h3 h4 h5 h6 p1 p2 n wn t tc sc uw c1 c2 s ow hf tf)) sx.heap sx.heap [] := va_S.rf
  have hl : lv_has ls 3 [(0, .ref h0), (1, .ref h1), (2, .int (nI j))] := hl
  refine lv_aload_n hx hb dX1_isCertainBy_0 rfl (lv_at hl 0 rfl) ?_
  refine lv_aload_n hx hb dX1_isCertainBy_1 rfl (lv_at hl 1 rfl) ?_
  refine lv_iload_n hx hb dX1_isCertainBy_2 rfl (lv_at hl 2 rfl) ?_
  refine lv_iload_n hx hb dX1_isCertainBy_3 rfl (lv_at hl 2 rfl) ?_
  refine call_Vp (As := [.ref h1, .int (nI j), .int (nI j)]) (rest := []) S (m_X1_possibleColours h0 h1 h2 h3 h4 h5 h6 p1 p2 n wn t tc sc uw c1 c2 s ow hf tf j j (by omega) (by omega) hw hc1 hb1) g_X1_X1_possibleColours hd_X1_possibleColours ⟨Nat.le_of_ble_eq_true rfl, Nat.le_of_ble_eq_true rfl⟩ ⟨Nat.zero_le _, Nat.zero_le _⟩ hP hD hK hS hZ [0, 1, 2, 3, 4, 5, 6] rfl (by decide) 0 rfl rfl hl.1 rfl (Nat.le_of_ble_eq_true rfl) dX1_isCertainBy_4 (fun r H locs hq hP hS => ?_)
  obtain rfl := hq
  refine call_Sp (As := [.int (nI (pcol wn (s j) j (Lof hf c1)))]) (rest := []) S (m_X1_isOneColour (pcol wn (s j) j (Lof hf c1)) (pcol_lt _ _ _ _)) g_X1_X1_isOneColour hd_X1_isOneColour ⟨Nat.le_of_ble_eq_true rfl, Nat.le_of_ble_eq_true rfl⟩ ⟨Nat.zero_le _, Nat.zero_le _⟩ hP hD hK hS hZ [] rfl (by decide) hl.1 rfl (Nat.le_of_ble_eq_true rfl) dX1_isCertainBy_7 (fun r H locs hq hP hS => ?_)
  obtain rfl := hq
  exact ret _ (gW cI h0 h1 h2 h3 h4 h5 h6 p1 p2 n wn t tc sc uw c1 c2 s ow hf tf) _ _ _ _ dX1_isCertainBy_10 (bI_nar _) ⟨rfl, rfl⟩ (List.Perm.refl _) hP hS

set_option maxHeartbeats 4000000 in
set_option maxRecDepth 100000 in
theorem m_X1_countCertain (h0 h1 h2 h3 h4 h5 h6 p1 p2 n wn t tc sc : Nat) (uw : Bool) (c1 c2 : Nat) (s ow hf tf : Nat → Nat) (hn : n ≤ 5) (hw : wn < 1024) (hc1 : c1 ≤ 243) (hb1 : ∀ j, j < c1 → hf j < 1024) : Mp l yX1_countCertain ws_X1_countCertain 3 71 (dC, dI) (tyL cI cZ cJ) [.ref h0, .ref h1] (gW cI h0 h1 h2 h3 h4 h5 h6 p1 p2 n wn t tc sc uw c1 c2 s ow hf tf) (fun r => r = nI (certN wn s (Lof hf c1) n)) := by
  refine Mi_of (by decide +kernel) (Nat.le_of_ble_eq_true rfl) ?_
  intro pr ev sx mi ag bl me cd Q ls S hP hK hD hZ hl ret
  obtain ⟨hx, hb, hml, hown, hts⟩ := id S
  have hown : sx.vm.findClass RX1 = some mi.cls := hown
  have hS : va_S (wIn (gW cI h0 h1 h2 h3 h4 h5 h6 p1 p2 n wn t tc sc uw c1 c2 s ow hf tf)) sx.heap sx.heap [] := va_S.rf
  have hl : lv_has ls 4 [(0, .ref h0), (1, .ref h1)] := hl
  refine lv_iconst (v := nI 0) hx hb dX1_countCertain_0 (by decide) ?_
  refine lv_istore_n (lv' := [(2, .int (nI 0)), (0, .ref h0), (1, .ref h1)]) hx hb dX1_countCertain_1 rfl hl (by decide) rfl (fun ls hl => ?_)
  refine lv_iconst (v := nI 0) hx hb dX1_countCertain_2 (by decide) ?_
  refine lv_istore_n (lv' := [(3, .int (nI 0)), (2, .int (nI 0)), (0, .ref h0), (1, .ref h1)]) hx hb dX1_countCertain_3 rfl hl (by decide) rfl (fun ls hl => ?_)
  have lp4 : ∀ (kf : Nat) (i : Nat) (a : Nat), n < i + kf → (i ≤ n) → (a = certN wn s (Lof hf c1) i) → ∀ (H : Heap) (locs : List Loc), va_P (dC, dI) vwCl (gW cI h0 h1 h2 h3 h4 h5 h6 p1 p2 n wn t tc sc uw c1 c2 s ow hf tf) H → va_D (wIn (gW cI h0 h1 h2 h3 h4 h5 h6 p1 p2 n wn t tc sc uw c1 c2 s ow hf tf)) (gW cI h0 h1 h2 h3 h4 h5 h6 p1 p2 n wn t tc sc uw c1 c2 s ow hf tf) → va_S (wIn (gW cI h0 h1 h2 h3 h4 h5 h6 p1 p2 n wn t tc sc uw c1 c2 s ow hf tf)) sx.heap H locs → ∀ ls : Array Slot, lv_has ls 4 [(3, .int (nI i)), (2, .int (nI a)), (0, .ref h0), (1, .ref h1)] → W pr l ev (rmB 3 71) sx mi ag bl me cd H locs 0 0 Q (F0 mi 4 ls []) := by
    intro kf
    induction kf with
    | zero => intro i a hkf hi ha; exact absurd hkf (by omega)
    | succ kf ih4 =>
      intro i a hkf hi ha H locs hP hD hS ls hl
      refine lv_iload_n hx hb dX1_countCertain_4 rfl (lv_at hl 0 rfl) ?_
      refine lv_aload_n hx hb dX1_countCertain_5 rfl (lv_at hl 2 rfl) ?_
      refine va_get (D := (dC, dI)) (ci := 1) (v := .int (nI n)) (C := RX1) (T := TX1) (N := 10) hx hb hts inX1 hown hK hP 0 rfl rfl 4 (by decide) (hts _ q_fl_X1_26) (fun _ h9 => h9) rfl dX1_countCertain_6 ?_
      refine icN_ge (tgt := 30) hx hb dX1_countCertain_9 (by decide) (by omega) (by omega) (fun c_9 => ?_) (fun c_9 => ?_)
      · refine lv_iload_n hx hb dX1_countCertain_30 rfl (lv_at hl 1 rfl) ?_
        exact ret _ (gW cI h0 h1 h2 h3 h4 h5 h6 p1 p2 n wn t tc sc uw c1 c2 s ow hf tf) _ _ _ _ dX1_countCertain_31 rfl ⟨rfl, by rw [ha, show i = n by omega]⟩ (List.Perm.refl _) hP hS
      · refine lv_aload_n hx hb dX1_countCertain_12 rfl (lv_at hl 2 rfl) ?_
        refine lv_aload_n hx hb dX1_countCertain_13 rfl (lv_at hl 3 rfl) ?_
        refine lv_iload_n hx hb dX1_countCertain_14 rfl (lv_at hl 0 rfl) ?_
        refine call_Vp (As := [.ref h1, .int (nI i)]) (rest := []) S (m_X1_isCertainBy h0 h1 h2 h3 h4 h5 h6 p1 p2 n wn t tc sc uw c1 c2 s ow hf tf i (by omega) hw hc1 hb1) g_X1_X1_isCertainBy hd_X1_isCertainBy ⟨Nat.le_of_ble_eq_true rfl, Nat.le_of_ble_eq_true rfl⟩ ⟨Nat.zero_le _, Nat.zero_le _⟩ hP hD hK hS hZ [0, 1, 2, 3, 4, 5, 6] rfl (by decide) 0 rfl rfl hl.1 rfl (Nat.le_of_ble_eq_true rfl) dX1_countCertain_15 (fun r H locs hq hP hS => ?_)
        obtain rfl := hq
        refine ifB_eq (tgt := 24) hx hb dX1_countCertain_18 (by decide) (fun c_18 => ?_) (fun c_18 => ?_)
        · refine lv_iinc (v := nI (i + 1)) (lv' := [(3, .int (nI (i + 1))), (2, .int (nI a)), (0, .ref h0), (1, .ref h1)]) hx hb dX1_countCertain_24 hl (k := 0) rfl (nI_add _ _) (by decide) rfl (fun ls hl => ?_)
          refine lv_goto (tgt := 4) hx hb dX1_countCertain_27 (by decide) ?_
          exact ih4 (i + 1) _ (by omega) (by omega) (by simp [certN, ha, c_18]) _ _ hP hD hS _ (lv_sub hl [0, 1, 2, 3] rfl)
        · refine lv_iinc (v := nI (a + 1)) (lv' := [(2, .int (nI (a + 1))), (3, .int (nI i)), (0, .ref h0), (1, .ref h1)]) hx hb dX1_countCertain_21 hl (k := 1) rfl (nI_add _ _) (by decide) rfl (fun ls hl => ?_)
          refine lv_iinc (v := nI (i + 1)) (lv' := [(3, .int (nI (i + 1))), (2, .int (nI (a + 1))), (0, .ref h0), (1, .ref h1)]) hx hb dX1_countCertain_24 hl (k := 1) rfl (nI_add _ _) (by decide) rfl (fun ls hl => ?_)
          refine lv_goto (tgt := 4) hx hb dX1_countCertain_27 (by decide) ?_
          exact ih4 (i + 1) _ (by omega) (by omega) (by simp [certN, ha, c_18]) _ _ hP hD hS _ (lv_sub hl [0, 1, 2, 3] rfl)
  exact lp4 (n + 1) 0 0 (by omega) (by omega) rfl _ _ hP hD hS _ (lv_sub hl [0, 1, 2, 3] rfl)

theorem note_0 {g f : Nat → Nat} {m i : Nat} (h : ∀ j, j < i → g (vw (f j) m) = 0) : ∀ j, j < i + 1 → upN g (vw (f i) m) 0 (vw (f j) m) = 0 := by
  intro j hj
  by_cases e : vw (f j) m = vw (f i) m
  · rw [e, upN_s]
  · rw [upN_n _ _ e]
    refine h j ?_
    rcases Nat.lt_or_ge j i with q | q
    · exact q
    · exact absurd (by rw [show j = i by omega]) e
theorem note_1 {g f : Nat → Nat} {m p i c : Nat} (hi : i < c) (h : ∀ j, j < c → g (vw (f j) m) = ocol m p (Lof f i) (vw (f j) m)) : ∀ j, j < c → upN g (vw (f i) m) (g (vw (f i) m) ||| 1 * 2 ^ qd (f i) p) (vw (f j) m) = ocol m p (Lof f (i + 1)) (vw (f j) m) := by
  intro j hj
  by_cases e : vw (f j) m = vw (f i) m
  · rw [e, upN_s, h i hi]
    exact ocol_t rfl
  · rw [upN_n _ _ e, h j hj]
    exact ocol_f (fun q => e q.symm)
set_option maxHeartbeats 4000000 in
set_option maxRecDepth 100000 in
theorem m_X1_noteOwnColours (h0 h1 h2 h3 h4 h5 h6 p1 p2 n wn t tc sc : Nat) (uw : Bool) (c1 c2 : Nat) (s ow hf tf : Nat → Nat) (j : Nat) (hj : j < 5) (hc1 : c1 ≤ 243) (hb1 : ∀ j, j < c1 → hf j < 1024) : Mv l yX1_noteOwnColours ws_X1_noteOwnColours 2 43 (dC, dI) (tyL cI cZ cJ) [.ref h0, .ref h1, .int (nI j)] (gW cI h0 h1 h2 h3 h4 h5 h6 p1 p2 n wn t tc sc uw c1 c2 s ow hf tf) (fun u => ∃ g : Nat → Nat, u = gW cI h0 h1 h2 h3 h4 h5 h6 p1 p2 n wn t tc sc uw c1 c2 s g hf tf ∧ ∀ k, k < c1 → g (vw (hf k) (s j)) = ocol (s j) j (Lof hf c1) (vw (hf k) (s j))) := by
  refine Mv_of (by decide +kernel) (Nat.le_of_ble_eq_true rfl) ?_
  intro pr ev sx mi ag bl me cd Q ls S hP hK hD hZ hl ret
  obtain ⟨hx, hb, hml, hown, hts⟩ := id S
  have hown : sx.vm.findClass RX1 = some mi.cls := hown
  have hS : va_S (wIn (gW cI h0 h1 h2 h3 h4 h5 h6 p1 p2 n wn t tc sc uw c1 c2 s ow hf tf)) sx.heap sx.heap [] := va_S.rf
  have hl : lv_has ls 6 [(0, .ref h0), (1, .ref h1), (2, .int (nI j))] := hl
  refine lv_iconst (v := nI 0) hx hb dX1_noteOwnColours_0 (by decide) ?_
  refine lv_istore_n (lv' := [(3, .int (nI 0)), (0, .ref h0), (1, .ref h1), (2, .int (nI j))]) hx hb dX1_noteOwnColours_1 rfl hl (by decide) rfl (fun ls hl => ?_)
  have lp2 : ∀ (kf : Nat) (i : Nat) (g : Nat → Nat), c1 < i + kf → (i ≤ c1) → (∀ k, k < i → g (vw (hf k) (s j)) = 0) → ∀ (H : Heap) (locs : List Loc), va_P (dC, dI) vwCl (gW cI h0 h1 h2 h3 h4 h5 h6 p1 p2 n wn t tc sc uw c1 c2 s g hf tf) H → va_D (wIn (gW cI h0 h1 h2 h3 h4 h5 h6 p1 p2 n wn t tc sc uw c1 c2 s ow hf tf)) (gW cI h0 h1 h2 h3 h4 h5 h6 p1 p2 n wn t tc sc uw c1 c2 s g hf tf) → va_S (wIn (gW cI h0 h1 h2 h3 h4 h5 h6 p1 p2 n wn t tc sc uw c1 c2 s ow hf tf)) sx.heap H locs → ∀ ls : Array Slot, lv_has ls 6 [(3, .int (nI i)), (0, .ref h0), (1, .ref h1), (2, .int (nI j))] → W pr l ev (rmB 2 43) sx mi ag bl me cd H locs 0 0 Q (F0 mi 2 ls []) := by
    intro kf
    induction kf with
    | zero => intro i g hkf hi hg; exact absurd hkf (by omega)
    | succ kf ih2 =>
      intro i g hkf hi hg H locs hP hD hS ls hl
      refine lv_iload_n hx hb dX1_noteOwnColours_2 rfl (lv_at hl 0 rfl) ?_
      refine lv_aload_n hx hb dX1_noteOwnColours_3 rfl (lv_at hl 2 rfl) ?_
      refine call_Vp (As := []) (rest := [.int (nI i)]) S (m_X0_count h1 h5 c1 hf) g_X1_X0_count hd_X0_count ⟨Nat.le_of_ble_eq_true rfl, Nat.le_of_ble_eq_true rfl⟩ ⟨Nat.zero_le _, Nat.zero_le _⟩ hP hD hK hS hZ [1, 5] rfl (by decide) 0 rfl rfl hl.1 rfl (Nat.le_of_ble_eq_true rfl) dX1_noteOwnColours_4 (fun r H locs hq hP hS => ?_)
      obtain rfl := hq
      refine icN_ge (tgt := 31) hx hb dX1_noteOwnColours_7 (by decide) (by omega) (by omega) (fun c_7 => ?_) (fun c_7 => ?_)
      · refine lv_iconst (v := nI 0) hx hb dX1_noteOwnColours_31 (by decide) ?_
        refine lv_istore_n (lv' := [(3, .int (nI 0)), (0, .ref h0), (1, .ref h1), (2, .int (nI j))]) hx hb dX1_noteOwnColours_32 rfl hl (by decide) rfl (fun ls hl => ?_)
        have lp33 : ∀ (kf : Nat) (i2 : Nat) (g2 : Nat → Nat), c1 < i2 + kf → (i2 ≤ c1) → (∀ k, k < c1 → g2 (vw (hf k) (s j)) = ocol (s j) j (Lof hf i2) (vw (hf k) (s j))) → ∀ (H : Heap) (locs : List Loc), va_P (dC, dI) vwCl (gW cI h0 h1 h2 h3 h4 h5 h6 p1 p2 n wn t tc sc uw c1 c2 s g2 hf tf) H → va_D (wIn (gW cI h0 h1 h2 h3 h4 h5 h6 p1 p2 n wn t tc sc uw c1 c2 s ow hf tf)) (gW cI h0 h1 h2 h3 h4 h5 h6 p1 p2 n wn t tc sc uw c1 c2 s g2 hf tf) → va_S (wIn (gW cI h0 h1 h2 h3 h4 h5 h6 p1 p2 n wn t tc sc uw c1 c2 s ow hf tf)) sx.heap H locs → ∀ ls : Array Slot, lv_has ls 6 [(3, .int (nI i2)), (0, .ref h0), (1, .ref h1), (2, .int (nI j))] → W pr l ev (rmB 2 43) sx mi ag bl me cd H locs 0 0 Q (F0 mi 33 ls []) := by
          intro kf
          induction kf with
          | zero => intro i2 g2 hkf hi2 hg2; exact absurd hkf (by omega)
          | succ kf ih33 =>
            intro i2 g2 hkf hi2 hg2 H locs hP hD hS ls hl
            refine lv_iload_n hx hb dX1_noteOwnColours_33 rfl (lv_at hl 0 rfl) ?_
            refine lv_aload_n hx hb dX1_noteOwnColours_34 rfl (lv_at hl 2 rfl) ?_
            refine call_Vp (As := []) (rest := [.int (nI i2)]) S (m_X0_count h1 h5 c1 hf) g_X1_X0_count hd_X0_count ⟨Nat.le_of_ble_eq_true rfl, Nat.le_of_ble_eq_true rfl⟩ ⟨Nat.zero_le _, Nat.zero_le _⟩ hP hD hK hS hZ [1, 5] rfl (by decide) 0 rfl rfl hl.1 rfl (Nat.le_of_ble_eq_true rfl) dX1_noteOwnColours_35 (fun r H locs hq hP hS => ?_)
            obtain rfl := hq
            refine icN_ge (tgt := 84) hx hb dX1_noteOwnColours_38 (by decide) (by omega) (by omega) (fun c_38 => ?_) (fun c_38 => ?_)
            · exact ret (gW cI h0 h1 h2 h3 h4 h5 h6 p1 p2 n wn t tc sc uw c1 c2 s g2 hf tf) _ _ _ _ dX1_noteOwnColours_84 ⟨g2, rfl, fun k hk => by rw [hg2 k hk, show i2 = c1 by omega]⟩ (List.Perm.refl _) hP hS
            · refine lv_aload_n hx hb dX1_noteOwnColours_41 rfl (lv_at hl 2 rfl) ?_
              refine lv_iload_n hx hb dX1_noteOwnColours_42 rfl (lv_at hl 0 rfl) ?_
              refine call_Vp (As := [.int (nI i2)]) (rest := []) S (m_X0_at h1 h5 c1 hf i2 (by omega)) g_X1_X0_at hd_X0_at ⟨Nat.le_of_ble_eq_true rfl, Nat.le_of_ble_eq_true rfl⟩ ⟨Nat.zero_le _, Nat.zero_le _⟩ hP hD hK hS hZ [1, 5] rfl (by decide) 0 rfl rfl hl.1 rfl (Nat.le_of_ble_eq_true rfl) dX1_noteOwnColours_43 (fun r H locs hq hP hS => ?_)
              obtain rfl := hq
              refine lv_istore (lv' := [(4, .int (nI (hf i2))), (3, .int (nI i2)), (0, .ref h0), (1, .ref h1), (2, .int (nI j))]) hx hb dX1_noteOwnColours_46 hl (by decide) rfl (fun ls hl => ?_)
              refine lv_aload_n hx hb dX1_noteOwnColours_48 rfl (lv_at hl 2 rfl) ?_
              refine lv_iload hx hb dX1_noteOwnColours_49 (lv_at hl 0 rfl) ?_
              refine lv_iload_n hx hb dX1_noteOwnColours_51 rfl (lv_at hl 4 rfl) ?_
              refine call_Vp (As := [.int (nI (hf i2)), .int (nI j)]) (rest := []) S (m_X1_viewOf h0 h1 h2 h3 h4 h5 h6 p1 p2 n wn t tc sc uw c1 c2 s g2 hf tf (hf i2) j (by omega)) g_X1_X1_viewOf hd_X1_viewOf ⟨Nat.le_of_ble_eq_true rfl, Nat.le_of_ble_eq_true rfl⟩ ⟨Nat.zero_le _, Nat.zero_le _⟩ hP hD hK hS hZ [0, 1, 2, 3, 4, 5, 6] rfl (by decide) 0 rfl rfl hl.1 rfl (Nat.le_of_ble_eq_true rfl) dX1_noteOwnColours_52 (fun r H locs hq hP hS => ?_)
              obtain rfl := hq
              refine lv_istore (lv' := [(5, .int (nI (vw (hf i2) (s j)))), (4, .int (nI (hf i2))), (3, .int (nI i2)), (0, .ref h0), (1, .ref h1), (2, .int (nI j))]) hx hb dX1_noteOwnColours_55 hl (by decide) rfl (fun ls hl => ?_)
              refine lv_aload_n hx hb dX1_noteOwnColours_57 rfl (lv_at hl 3 rfl) ?_
              refine lv_iload hx hb dX1_noteOwnColours_58 (lv_at hl 0 rfl) ?_
              refine lv_aload_n hx hb dX1_noteOwnColours_60 rfl (lv_at hl 3 rfl) ?_
              refine lv_iload hx hb dX1_noteOwnColours_61 (lv_at hl 0 rfl) ?_
              refine call_Vp (As := [.int (nI (vw (hf i2) (s j)))]) (rest := [.int (nI (vw (hf i2) (s j))), .ref h0]) S (m_X1_ownColours h0 h1 h2 h3 h4 h5 h6 p1 p2 n wn t tc sc uw c1 c2 s g2 hf tf (vw (hf i2) (s j)) (vw_lt _ _)) g_X1_X1_ownColours hd_X1_ownColours ⟨Nat.le_of_ble_eq_true rfl, Nat.le_of_ble_eq_true rfl⟩ ⟨Nat.zero_le _, Nat.zero_le _⟩ hP hD hK hS hZ [0, 1, 2, 3, 4, 5, 6] rfl (by decide) 0 rfl rfl hl.1 rfl (Nat.le_of_ble_eq_true rfl) dX1_noteOwnColours_63 (fun r H locs hq hP hS => ?_)
              obtain rfl := hq
              refine lv_iconst (v := nI 1) hx hb dX1_noteOwnColours_66 (by decide) ?_
              refine lv_iload hx hb dX1_noteOwnColours_67 (lv_at hl 1 rfl) ?_
              refine lv_iload_n hx hb dX1_noteOwnColours_69 rfl (lv_at hl 5 rfl) ?_
              refine call_Sp (As := [.int (nI (hf i2)), .int (nI j)]) (rest := [.int (nI 1), .int (nI (g2 (vw (hf i2) (s j)))), .int (nI (vw (hf i2) (s j))), .ref h0]) S (m_X1_colourIn (hf i2) j (hb1 _ (by omega)) (by omega)) g_X1_X1_colourIn hd_X1_colourIn ⟨Nat.le_of_ble_eq_true rfl, Nat.le_of_ble_eq_true rfl⟩ ⟨Nat.zero_le _, Nat.zero_le _⟩ hP hD hK hS hZ [] rfl (by decide) hl.1 rfl (Nat.le_of_ble_eq_true rfl) dX1_noteOwnColours_70 (fun r H locs hq hP hS => ?_)
              obtain rfl := hq
              refine lv_ishl hx hb dX1_noteOwnColours_73 ?_
              refine W_i (y := nI (1 * 2 ^ (qd (hf i2) j))) (nI_shl _ (by have := qd_lt (hf i2) j; omega)) ?_
              refine lv_ior hx hb dX1_noteOwnColours_74 ?_
              refine W_i (y := nI ((g2 (vw (hf i2) (s j))) ||| (1 * 2 ^ (qd (hf i2) j)))) (nI_or _ _) ?_
              refine call_Vv (As := [.int (nI (vw (hf i2) (s j))), .int (nI ((g2 (vw (hf i2) (s j))) ||| (1 * 2 ^ (qd (hf i2) j))))]) (wr := []) (rest := []) S (m_X1_setOwnColours h0 h1 h2 h3 h4 h5 h6 p1 p2 n wn t tc sc uw c1 c2 s g2 hf tf (vw (hf i2) (s j)) ((g2 (vw (hf i2) (s j))) ||| (1 * 2 ^ (qd (hf i2) j))) (vw_lt _ _)) g_X1_X1_setOwnColours hd_X1_setOwnColours ⟨Nat.le_of_ble_eq_true rfl, Nat.le_of_ble_eq_true rfl⟩ ⟨Nat.zero_le _, Nat.zero_le _⟩ hP hD hK hS hZ [0, 1, 2, 3, 4, 5, 6] [] rfl rfl (by decide) 0 rfl rfl hl.1 rfl (Nat.le_of_ble_eq_true rfl) dX1_noteOwnColours_75 (fun u H locs hq hP hD hS => ?_)
              obtain rfl := hq
              have hP : va_P (dC, dI) vwCl (gW cI h0 h1 h2 h3 h4 h5 h6 p1 p2 n wn t tc sc uw c1 c2 s (upN g2 (vw (hf i2) (s j)) ((g2 (vw (hf i2) (s j))) ||| (1 * 2 ^ (qd (hf i2) j)))) hf tf) H := hP
              have hD : va_D (wIn (gW cI h0 h1 h2 h3 h4 h5 h6 p1 p2 n wn t tc sc uw c1 c2 s ow hf tf)) (gW cI h0 h1 h2 h3 h4 h5 h6 p1 p2 n wn t tc sc uw c1 c2 s (upN g2 (vw (hf i2) (s j)) ((g2 (vw (hf i2) (s j))) ||| (1 * 2 ^ (qd (hf i2) j)))) hf tf) := hD
              refine lv_iinc (v := nI (i2 + 1)) (lv' := [(3, .int (nI (i2 + 1))), (5, .int (nI (vw (hf i2) (s j)))), (4, .int (nI (hf i2))), (0, .ref h0), (1, .ref h1), (2, .int (nI j))]) hx hb dX1_noteOwnColours_78 hl (k := 2) rfl (nI_add _ _) (by decide) rfl (fun ls hl => ?_)
              refine lv_goto (tgt := 33) hx hb dX1_noteOwnColours_81 (by decide) ?_
              exact ih33 (i2 + 1) _ (by omega) (by omega) (note_1 (by omega) hg2) _ _ hP hD hS _ (lv_sub hl [0, 3, 4, 5] rfl)
        exact lp33 (c1 + 1) 0 g (by omega) (by omega) (fun k hk => hg k (by omega)) _ _ hP hD hS _ (lv_sub hl [0, 1, 2, 3] rfl)
      · refine lv_aload_n hx hb dX1_noteOwnColours_10 rfl (lv_at hl 1 rfl) ?_
        refine lv_aload_n hx hb dX1_noteOwnColours_11 rfl (lv_at hl 1 rfl) ?_
        refine lv_aload_n hx hb dX1_noteOwnColours_12 rfl (lv_at hl 2 rfl) ?_
        refine lv_iload_n hx hb dX1_noteOwnColours_13 rfl (lv_at hl 0 rfl) ?_
        refine call_Vp (As := [.int (nI i)]) (rest := [.ref h0, .ref h0]) S (m_X0_at h1 h5 c1 hf i (by omega)) g_X1_X0_at hd_X0_at ⟨Nat.le_of_ble_eq_true rfl, Nat.le_of_ble_eq_true rfl⟩ ⟨Nat.zero_le _, Nat.zero_le _⟩ hP hD hK hS hZ [1, 5] rfl (by decide) 0 rfl rfl hl.1 rfl (Nat.le_of_ble_eq_true rfl) dX1_noteOwnColours_14 (fun r H locs hq hP hS => ?_)
        obtain rfl := hq
        refine lv_iload_n hx hb dX1_noteOwnColours_17 rfl (lv_at hl 3 rfl) ?_
        refine call_Vp (As := [.int (nI (hf i)), .int (nI j)]) (rest := [.ref h0]) S (m_X1_viewOf h0 h1 h2 h3 h4 h5 h6 p1 p2 n wn t tc sc uw c1 c2 s g hf tf (hf i) j (by omega)) g_X1_X1_viewOf hd_X1_viewOf ⟨Nat.le_of_ble_eq_true rfl, Nat.le_of_ble_eq_true rfl⟩ ⟨Nat.zero_le _, Nat.zero_le _⟩ hP hD hK hS hZ [0, 1, 2, 3, 4, 5, 6] rfl (by decide) 0 rfl rfl hl.1 rfl (Nat.le_of_ble_eq_true rfl) dX1_noteOwnColours_18 (fun r H locs hq hP hS => ?_)
        obtain rfl := hq
        refine lv_iconst (v := nI 0) hx hb dX1_noteOwnColours_21 (by decide) ?_
        refine call_Vv (As := [.int (nI (vw (hf i) (s j))), .int (nI 0)]) (wr := []) (rest := []) S (m_X1_setOwnColours h0 h1 h2 h3 h4 h5 h6 p1 p2 n wn t tc sc uw c1 c2 s g hf tf (vw (hf i) (s j)) 0 (vw_lt _ _)) g_X1_X1_setOwnColours hd_X1_setOwnColours ⟨Nat.le_of_ble_eq_true rfl, Nat.le_of_ble_eq_true rfl⟩ ⟨Nat.zero_le _, Nat.zero_le _⟩ hP hD hK hS hZ [0, 1, 2, 3, 4, 5, 6] [] rfl rfl (by decide) 0 rfl rfl hl.1 rfl (Nat.le_of_ble_eq_true rfl) dX1_noteOwnColours_22 (fun u H locs hq hP hD hS => ?_)
        obtain rfl := hq
        have hP : va_P (dC, dI) vwCl (gW cI h0 h1 h2 h3 h4 h5 h6 p1 p2 n wn t tc sc uw c1 c2 s (upN g (vw (hf i) (s j)) 0) hf tf) H := hP
        have hD : va_D (wIn (gW cI h0 h1 h2 h3 h4 h5 h6 p1 p2 n wn t tc sc uw c1 c2 s ow hf tf)) (gW cI h0 h1 h2 h3 h4 h5 h6 p1 p2 n wn t tc sc uw c1 c2 s (upN g (vw (hf i) (s j)) 0) hf tf) := hD
        refine lv_iinc (v := nI (i + 1)) (lv' := [(3, .int (nI (i + 1))), (0, .ref h0), (1, .ref h1), (2, .int (nI j))]) hx hb dX1_noteOwnColours_25 hl (k := 0) rfl (nI_add _ _) (by decide) rfl (fun ls hl => ?_)
        refine lv_goto (tgt := 2) hx hb dX1_noteOwnColours_28 (by decide) ?_
        exact ih2 (i + 1) _ (by omega) (by omega) (note_0 hg) _ _ hP hD hS _ (lv_sub hl [0, 1, 2, 3] rfl)
  exact lp2 (c1 + 1) 0 ow (by omega) (by omega) (fun k hk => absurd hk (by omega)) _ _ hP hD hS _ (lv_sub hl [0, 1, 2, 3] rfl)

set_option maxHeartbeats 4000000 in
set_option maxRecDepth 100000 in
theorem m_X1_wouldBeCertain (h0 h1 h2 h3 h4 h5 h6 p1 p2 n wn t tc sc : Nat) (uw : Bool) (c1 c2 : Nat) (s ow hf tf : Nat → Nat) (x j : Nat) (hj : j < 5) (ho : ow (vw x (s j)) < 16) : Mp l yX1_wouldBeCertain ws_X1_wouldBeCertain 2 43 (dC, dI) (tyL cI cZ cJ) [.ref h0, .int (nI x), .int (nI j)] (gW cI h0 h1 h2 h3 h4 h5 h6 p1 p2 n wn t tc sc uw c1 c2 s ow hf tf) (fun r => r = bI (one1 (ow (vw x (s j))))) := by
  refine Mi_of (by decide +kernel) (Nat.le_of_ble_eq_true rfl) ?_
  intro pr ev sx mi ag bl me cd Q ls S hP hK hD hZ hl ret
  obtain ⟨hx, hb, hml, hown, hts⟩ := id S
  have hown : sx.vm.findClass RX1 = some mi.cls := hown
  have hS : va_S (wIn (gW cI h0 h1 h2 h3 h4 h5 h6 p1 p2 n wn t tc sc uw c1 c2 s ow hf tf)) sx.heap sx.heap [] := va_S.rf
  have hl : lv_has ls 3 [(0, .ref h0), (1, .int (nI x)), (2, .int (nI j))] := hl
  refine lv_aload_n hx hb dX1_wouldBeCertain_0 rfl (lv_at hl 0 rfl) ?_
  refine lv_aload_n hx hb dX1_wouldBeCertain_1 rfl (lv_at hl 0 rfl) ?_
  refine lv_iload_n hx hb dX1_wouldBeCertain_2 rfl (lv_at hl 1 rfl) ?_
  refine lv_iload_n hx hb dX1_wouldBeCertain_3 rfl (lv_at hl 2 rfl) ?_
  refine call_Vp (As := [.int (nI x), .int (nI j)]) (rest := [.ref h0]) S (m_X1_viewOf h0 h1 h2 h3 h4 h5 h6 p1 p2 n wn t tc sc uw c1 c2 s ow hf tf x j (by omega)) g_X1_X1_viewOf hd_X1_viewOf ⟨Nat.le_of_ble_eq_true rfl, Nat.le_of_ble_eq_true rfl⟩ ⟨Nat.zero_le _, Nat.zero_le _⟩ hP hD hK hS hZ [0, 1, 2, 3, 4, 5, 6] rfl (by decide) 0 rfl rfl hl.1 rfl (Nat.le_of_ble_eq_true rfl) dX1_wouldBeCertain_4 (fun r H locs hq hP hS => ?_)
  obtain rfl := hq
  refine call_Vp (As := [.int (nI (vw x (s j)))]) (rest := []) S (m_X1_ownColours h0 h1 h2 h3 h4 h5 h6 p1 p2 n wn t tc sc uw c1 c2 s ow hf tf (vw x (s j)) (vw_lt _ _)) g_X1_X1_ownColours hd_X1_ownColours ⟨Nat.le_of_ble_eq_true rfl, Nat.le_of_ble_eq_true rfl⟩ ⟨Nat.zero_le _, Nat.zero_le _⟩ hP hD hK hS hZ [0, 1, 2, 3, 4, 5, 6] rfl (by decide) 0 rfl rfl hl.1 rfl (Nat.le_of_ble_eq_true rfl) dX1_wouldBeCertain_7 (fun r H locs hq hP hS => ?_)
  obtain rfl := hq
  refine call_Sp (As := [.int (nI (ow (vw x (s j))))]) (rest := []) S (m_X1_isOneColour (ow (vw x (s j))) ho) g_X1_X1_isOneColour hd_X1_isOneColour ⟨Nat.le_of_ble_eq_true rfl, Nat.le_of_ble_eq_true rfl⟩ ⟨Nat.zero_le _, Nat.zero_le _⟩ hP hD hK hS hZ [] rfl (by decide) hl.1 rfl (Nat.le_of_ble_eq_true rfl) dX1_wouldBeCertain_10 (fun r H locs hq hP hS => ?_)
  obtain rfl := hq
  exact ret _ (gW cI h0 h1 h2 h3 h4 h5 h6 p1 p2 n wn t tc sc uw c1 c2 s ow hf tf) _ _ _ _ dX1_wouldBeCertain_13 (bI_nar _) ⟨rfl, rfl⟩ (List.Perm.refl _) hP hS

set_option maxHeartbeats 4000000 in
set_option maxRecDepth 100000 in
theorem m_X1_playerAfter (h0 h1 h2 h3 h4 h5 h6 p1 p2 n wn t tc sc : Nat) (uw : Bool) (c1 c2 : Nat) (s ow hf tf : Nat → Nat) (j : Nat) (hn : n ≤ 5) (hj : j < 5) : Mp l yX1_playerAfter ws_X1_playerAfter 0 0 (dC, dI) (tyL cI cZ cJ) [.ref h0, .int (nI j)] (gW cI h0 h1 h2 h3 h4 h5 h6 p1 p2 n wn t tc sc uw c1 c2 s ow hf tf) (fun r => r = nI (aftN n j)) := by
  refine Mi_of (by decide +kernel) (Nat.le_of_ble_eq_true rfl) ?_
  intro pr ev sx mi ag bl me cd Q ls S hP hK hD hZ hl ret
  obtain ⟨hx, hb, hml, hown, hts⟩ := id S
  have hown : sx.vm.findClass RX1 = some mi.cls := hown
  have hS : va_S (wIn (gW cI h0 h1 h2 h3 h4 h5 h6 p1 p2 n wn t tc sc uw c1 c2 s ow hf tf)) sx.heap sx.heap [] := va_S.rf
  have hl : lv_has ls 2 [(0, .ref h0), (1, .int (nI j))] := hl
  refine lv_iload_n hx hb dX1_playerAfter_0 rfl (lv_at hl 1 rfl) ?_
  refine lv_iconst (v := nI 1) hx hb dX1_playerAfter_1 (by decide) ?_
  refine lv_iadd hx hb dX1_playerAfter_2 ?_
  refine W_i (y := nI (j + 1)) (nI_add _ _) ?_
  refine lv_aload_n hx hb dX1_playerAfter_3 rfl (lv_at hl 0 rfl) ?_
  refine va_get (D := (dC, dI)) (ci := 1) (v := .int (nI n)) (C := RX1) (T := TX1) (N := 10) hx hb hts inX1 hown hK hP 0 rfl rfl 4 (by decide) (hts _ q_fl_X1_26) (fun _ h9 => h9) rfl dX1_playerAfter_4 ?_
  refine icN_ge (tgt := 16) hx hb dX1_playerAfter_7 (by decide) (by omega) (by omega) (fun c_7 => ?_) (fun c_7 => ?_)
  · refine lv_iconst (v := nI 0) hx hb dX1_playerAfter_16 (by decide) ?_
    exact ret _ (gW cI h0 h1 h2 h3 h4 h5 h6 p1 p2 n wn t tc sc uw c1 c2 s ow hf tf) _ _ _ _ dX1_playerAfter_17 rfl ⟨rfl, by rw [aftN, if_neg (by omega)]⟩ (List.Perm.refl _) hP hS
  · refine lv_iload_n hx hb dX1_playerAfter_10 rfl (lv_at hl 1 rfl) ?_
    refine lv_iconst (v := nI 1) hx hb dX1_playerAfter_11 (by decide) ?_
    refine lv_iadd hx hb dX1_playerAfter_12 ?_
    refine W_i (y := nI (j + 1)) (nI_add _ _) ?_
    refine lv_goto (tgt := 17) hx hb dX1_playerAfter_13 (by decide) ?_
    exact ret _ (gW cI h0 h1 h2 h3 h4 h5 h6 p1 p2 n wn t tc sc uw c1 c2 s ow hf tf) _ _ _ _ dX1_playerAfter_17 rfl ⟨rfl, by rw [aftN, if_pos (by omega)]⟩ (List.Perm.refl _) hP hS

set_option maxHeartbeats 4000000 in
set_option maxRecDepth 100000 in
theorem m_X1_keepWithHats (h0 h1 h2 h3 h4 h5 h6 p1 p2 n wn t tc sc : Nat) (uw : Bool) (c1 c2 : Nat) (s ow hf tf : Nat → Nat) (co lo hi2 : Nat) (hn : n ≤ 5) (hco : co < 3) (hlo : lo < 6) (hhi : hi2 < 6) (hc1 : c1 ≤ 243) (hb1 : ∀ j, j < c1 → hf j < 1024) : Mv l yX1_keepWithHats ws_X1_keepWithHats 2 45 (dC, dI) (tyL cI cZ cJ) [.ref h0, .ref h1, .int (nI co), .int (nI lo), .int (nI hi2)] (gW cI h0 h1 h2 h3 h4 h5 h6 p1 p2 n wn t tc sc uw c1 c2 s ow hf tf) (fun u => ∃ (k : Nat) (g : Nat → Nat), u = gW cI h0 h1 h2 h3 h4 h5 h6 p1 p2 n wn t tc sc uw k c2 s ow g tf ∧ Lof g k = (Lof hf c1).filter (fun x => decide (lo ≤ hatsN n x co) && decide (hatsN n x co ≤ hi2))) := by
  refine Mv_of (by decide +kernel) (Nat.le_of_ble_eq_true rfl) ?_
  intro pr ev sx mi ag bl me cd Q ls S hP hK hD hZ hl ret
  obtain ⟨hx, hb, hml, hown, hts⟩ := id S
  have hown : sx.vm.findClass RX1 = some mi.cls := hown
  have hS : va_S (wIn (gW cI h0 h1 h2 h3 h4 h5 h6 p1 p2 n wn t tc sc uw c1 c2 s ow hf tf)) sx.heap sx.heap [] := va_S.rf
  have hl : lv_has ls 9 [(0, .ref h0), (1, .ref h1), (2, .int (nI co)), (3, .int (nI lo)), (4, .int (nI hi2))] := hl
  refine lv_aload_n hx hb dX1_keepWithHats_0 rfl (lv_at hl 1 rfl) ?_
  refine call_Vp (As := []) (rest := []) S (m_X0_count h1 h5 c1 hf) g_X1_X0_count hd_X0_count ⟨Nat.le_of_ble_eq_true rfl, Nat.le_of_ble_eq_true rfl⟩ ⟨Nat.zero_le _, Nat.zero_le _⟩ hP hD hK hS hZ [1, 5] rfl (by decide) 0 rfl rfl hl.1 rfl (Nat.le_of_ble_eq_true rfl) dX1_keepWithHats_1 (fun r H locs hq hP hS => ?_)
  obtain rfl := hq
  refine lv_istore (lv' := [(5, .int (nI c1)), (0, .ref h0), (1, .ref h1), (2, .int (nI co)), (3, .int (nI lo)), (4, .int (nI hi2))]) hx hb dX1_keepWithHats_4 hl (by decide) rfl (fun ls hl => ?_)
  refine lv_aload_n hx hb dX1_keepWithHats_6 rfl (lv_at hl 2 rfl) ?_
  refine call_Vv (As := []) (wr := [(h0, .inr (1, [.ref p1, .ref p2, .ref h3, .ref h4, .int (nI n), .int (nI wn), .int (nI t), .int (nI tc), .int (nI sc), .int (bI uw)])), (h2, .inr (0, [.ref h6, .int (nI c2)])), (h3, .inl (cI, 5, .inl (fun k => nI (s k)))), (h4, .inl (cI, 1024, .inl (fun k => nI (ow k)))), (h6, .inl (cI, 243, .inl (fun k => nI (tf k))))]) (rest := []) S (m_X0_clear h1 h5 c1 hf) g_X1_X0_clear hd_X0_clear ⟨Nat.le_of_ble_eq_true rfl, Nat.le_of_ble_eq_true rfl⟩ ⟨Nat.zero_le _, Nat.zero_le _⟩ hP hD hK hS hZ [1, 5] [0, 2, 3, 4, 6] rfl rfl (by decide) 0 rfl rfl hl.1 rfl (Nat.le_of_ble_eq_true rfl) dX1_keepWithHats_7 (fun u H locs hq hP hD hS => ?_)
  obtain rfl := hq
  have hP := hP.sub (ws' := gW cI h0 h1 h2 h3 h4 h5 h6 p1 p2 n wn t tc sc uw 0 c2 s ow hf tf) [0, 5, 1, 2, 3, 6, 4] rfl
  have hD := hD.sub (ws' := gW cI h0 h1 h2 h3 h4 h5 h6 p1 p2 n wn t tc sc uw 0 c2 s ow hf tf) [0, 5, 1, 2, 3, 6, 4] (by decide) rfl
  refine lv_iconst (v := nI 0) hx hb dX1_keepWithHats_10 (by decide) ?_
  refine lv_istore (lv' := [(6, .int (nI 0)), (5, .int (nI c1)), (0, .ref h0), (1, .ref h1), (2, .int (nI co)), (3, .int (nI lo)), (4, .int (nI hi2))]) hx hb dX1_keepWithHats_11 hl (by decide) rfl (fun ls hl => ?_)
  have lp13 : ∀ (kf : Nat) (i : Nat) (k : Nat) (g : Nat → Nat), c1 < i + kf → (i ≤ c1) → (k ≤ i) → (∀ j, k ≤ j → g j = hf j) → (Lof g k = (Lof hf i).filter (fun x => decide (lo ≤ hatsN n x co) && decide (hatsN n x co ≤ hi2))) → ∀ (H : Heap) (locs : List Loc), va_P (dC, dI) vwCl (gW cI h0 h1 h2 h3 h4 h5 h6 p1 p2 n wn t tc sc uw k c2 s ow g tf) H → va_D (wIn (gW cI h0 h1 h2 h3 h4 h5 h6 p1 p2 n wn t tc sc uw c1 c2 s ow hf tf)) (gW cI h0 h1 h2 h3 h4 h5 h6 p1 p2 n wn t tc sc uw k c2 s ow g tf) → va_S (wIn (gW cI h0 h1 h2 h3 h4 h5 h6 p1 p2 n wn t tc sc uw c1 c2 s ow hf tf)) sx.heap H locs → ∀ ls : Array Slot, lv_has ls 9 [(6, .int (nI i)), (5, .int (nI c1)), (0, .ref h0), (1, .ref h1), (2, .int (nI co)), (3, .int (nI lo)), (4, .int (nI hi2))] → W pr l ev (rmB 2 45) sx mi ag bl me cd H locs 0 0 Q (F0 mi 13 ls []) := by
    intro kf
    induction kf with
    | zero => intro i k g hkf hi hk hg hL; exact absurd hkf (by omega)
    | succ kf ih13 =>
      intro i k g hkf hi hk hg hL H locs hP hD hS ls hl
      refine lv_iload hx hb dX1_keepWithHats_13 (lv_at hl 0 rfl) ?_
      refine lv_iload hx hb dX1_keepWithHats_15 (lv_at hl 1 rfl) ?_
      refine icN_ge (tgt := 62) hx hb dX1_keepWithHats_17 (by decide) (by omega) (by omega) (fun c_17 => ?_) (fun c_17 => ?_)
      · exact ret (gW cI h0 h1 h2 h3 h4 h5 h6 p1 p2 n wn t tc sc uw k c2 s ow g tf) _ _ _ _ dX1_keepWithHats_62 ⟨k, g, rfl, by rw [hL, show i = c1 by omega]⟩ (List.Perm.refl _) hP hS
      · refine lv_aload_n hx hb dX1_keepWithHats_20 rfl (lv_at hl 3 rfl) ?_
        refine lv_iload hx hb dX1_keepWithHats_21 (lv_at hl 0 rfl) ?_
        refine call_Vp (As := [.int (nI i)]) (rest := []) S (m_X0_at h1 h5 k g i (by omega)) g_X1_X0_at hd_X0_at ⟨Nat.le_of_ble_eq_true rfl, Nat.le_of_ble_eq_true rfl⟩ ⟨Nat.zero_le _, Nat.zero_le _⟩ hP hD hK hS hZ [1, 5] rfl (by decide) 0 rfl rfl hl.1 rfl (Nat.le_of_ble_eq_true rfl) dX1_keepWithHats_23 (fun r H locs hq hP hS => ?_)
        obtain rfl := hq
        refine lv_istore (lv' := [(7, .int (nI (g i))), (6, .int (nI i)), (5, .int (nI c1)), (0, .ref h0), (1, .ref h1), (2, .int (nI co)), (3, .int (nI lo)), (4, .int (nI hi2))]) hx hb dX1_keepWithHats_26 hl (by decide) rfl (fun ls hl => ?_)
        refine lv_aload_n hx hb dX1_keepWithHats_28 rfl (lv_at hl 3 rfl) ?_
        refine lv_iload hx hb dX1_keepWithHats_29 (lv_at hl 0 rfl) ?_
        refine lv_iload_n hx hb dX1_keepWithHats_31 rfl (lv_at hl 5 rfl) ?_
        refine call_Vp (As := [.int (nI (g i)), .int (nI co)]) (rest := []) S (m_X1_hatsIn h0 h1 h2 h3 h4 h5 h6 p1 p2 n wn t tc sc uw k c2 s ow g tf (g i) co hn (by rw [hg i (by omega)]; exact hb1 _ (by omega)) (by omega)) g_X1_X1_hatsIn hd_X1_hatsIn ⟨Nat.le_of_ble_eq_true rfl, Nat.le_of_ble_eq_true rfl⟩ ⟨Nat.zero_le _, Nat.zero_le _⟩ hP hD hK hS hZ [0, 1, 2, 3, 4, 5, 6] rfl (by decide) 0 rfl rfl hl.1 rfl (Nat.le_of_ble_eq_true rfl) dX1_keepWithHats_32 (fun r H locs hq hP hS => ?_)
        obtain rfl := hq
        refine lv_istore (lv' := [(8, .int (nI (hatsN n (g i) co))), (7, .int (nI (g i))), (6, .int (nI i)), (5, .int (nI c1)), (0, .ref h0), (1, .ref h1), (2, .int (nI co)), (3, .int (nI lo)), (4, .int (nI hi2))]) hx hb dX1_keepWithHats_35 hl (by decide) rfl (fun ls hl => ?_)
        refine lv_iload hx hb dX1_keepWithHats_37 (lv_at hl 0 rfl) ?_
        refine lv_iload_n hx hb dX1_keepWithHats_39 rfl (lv_at hl 7 rfl) ?_
        refine icN_lt (tgt := 56) hx hb dX1_keepWithHats_40 (by decide) (by have := hatsN_le n (g i) co; omega) (by omega) (fun c_40 => ?_) (fun c_40 => ?_)
        · refine lv_iinc (v := nI (i + 1)) (lv' := [(6, .int (nI (i + 1))), (8, .int (nI (hatsN n (g i) co))), (7, .int (nI (g i))), (5, .int (nI c1)), (0, .ref h0), (1, .ref h1), (2, .int (nI co)), (3, .int (nI lo)), (4, .int (nI hi2))]) hx hb dX1_keepWithHats_56 hl (k := 2) rfl (nI_add _ _) (by decide) rfl (fun ls hl => ?_)
          refine lv_goto (tgt := 13) hx hb dX1_keepWithHats_59 (by decide) ?_
          exact ih13 (i + 1) _ _ (by omega) (by omega) (by omega) (fun j hj => hg j (by omega)) (flt_f (hg _ (by omega)) (by simp; omega) hL) _ _ hP hD hS _ (lv_sub hl [0, 3, 4, 5, 6, 7, 8] rfl)
        · refine lv_iload hx hb dX1_keepWithHats_43 (lv_at hl 0 rfl) ?_
          refine lv_iload hx hb dX1_keepWithHats_45 (lv_at hl 8 rfl) ?_
          refine icN_gt (tgt := 56) hx hb dX1_keepWithHats_47 (by decide) (by have := hatsN_le n (g i) co; omega) (by omega) (fun c_47 => ?_) (fun c_47 => ?_)
          · refine lv_iinc (v := nI (i + 1)) (lv' := [(6, .int (nI (i + 1))), (8, .int (nI (hatsN n (g i) co))), (7, .int (nI (g i))), (5, .int (nI c1)), (0, .ref h0), (1, .ref h1), (2, .int (nI co)), (3, .int (nI lo)), (4, .int (nI hi2))]) hx hb dX1_keepWithHats_56 hl (k := 2) rfl (nI_add _ _) (by decide) rfl (fun ls hl => ?_)
            refine lv_goto (tgt := 13) hx hb dX1_keepWithHats_59 (by decide) ?_
            exact ih13 (i + 1) _ _ (by omega) (by omega) (by omega) (fun j hj => hg j (by omega)) (flt_f (hg _ (by omega)) (by simp; omega) hL) _ _ hP hD hS _ (lv_sub hl [0, 3, 4, 5, 6, 7, 8] rfl)
          · refine lv_aload_n hx hb dX1_keepWithHats_50 rfl (lv_at hl 5 rfl) ?_
            refine lv_iload hx hb dX1_keepWithHats_51 (lv_at hl 1 rfl) ?_
            refine call_Vv (As := [.int (nI (g i))]) (wr := [(h0, .inr (1, [.ref p1, .ref p2, .ref h3, .ref h4, .int (nI n), .int (nI wn), .int (nI t), .int (nI tc), .int (nI sc), .int (bI uw)])), (h2, .inr (0, [.ref h6, .int (nI c2)])), (h3, .inl (cI, 5, .inl (fun k => nI (s k)))), (h4, .inl (cI, 1024, .inl (fun k => nI (ow k)))), (h6, .inl (cI, 243, .inl (fun k => nI (tf k))))]) (rest := []) S (m_X0_add h1 h5 k g (g i) (by omega)) g_X1_X0_add hd_X0_add ⟨Nat.le_of_ble_eq_true rfl, Nat.le_of_ble_eq_true rfl⟩ ⟨Nat.zero_le _, Nat.zero_le _⟩ hP hD hK hS hZ [1, 5] [0, 2, 3, 4, 6] rfl rfl (by decide) 0 rfl rfl hl.1 rfl (Nat.le_of_ble_eq_true rfl) dX1_keepWithHats_53 (fun u H locs hq hP hD hS => ?_)
            obtain rfl := hq
            have hP := hP.sub (ws' := gW cI h0 h1 h2 h3 h4 h5 h6 p1 p2 n wn t tc sc uw (k + 1) c2 s ow (upN g k (g i)) tf) [0, 5, 1, 2, 3, 6, 4] rfl
            have hD := hD.sub (ws' := gW cI h0 h1 h2 h3 h4 h5 h6 p1 p2 n wn t tc sc uw (k + 1) c2 s ow (upN g k (g i)) tf) [0, 5, 1, 2, 3, 6, 4] (by decide) rfl
            refine lv_iinc (v := nI (i + 1)) (lv' := [(6, .int (nI (i + 1))), (8, .int (nI (hatsN n (g i) co))), (7, .int (nI (g i))), (5, .int (nI c1)), (0, .ref h0), (1, .ref h1), (2, .int (nI co)), (3, .int (nI lo)), (4, .int (nI hi2))]) hx hb dX1_keepWithHats_56 hl (k := 2) rfl (nI_add _ _) (by decide) rfl (fun ls hl => ?_)
            refine lv_goto (tgt := 13) hx hb dX1_keepWithHats_59 (by decide) ?_
            exact ih13 (i + 1) _ _ (by omega) (by omega) (by omega) (fun j hj => by rw [upN_n _ _ (by omega)]; exact hg j (by omega)) (flt_t (hg _ (by omega)) (by simp; omega) hL) _ _ hP hD hS _ (lv_sub hl [0, 3, 4, 5, 6, 7, 8] rfl)
  exact lp13 (c1 + 1) 0 0 hf (by omega) (by omega) (by omega) (fun _ _ => rfl) rfl _ _ hP hD hS _ (lv_sub hl [0, 1, 2, 3, 4, 5, 6] rfl)

set_option maxHeartbeats 4000000 in
set_option maxRecDepth 100000 in
theorem m_X1_keepWithHat (h1 h5 c1 : Nat) (hf : Nat → Nat) (j co : Nat) (hj : j < 5) (hco : co < 4) (hc1 : c1 ≤ 243) (hb1 : ∀ j, j < c1 → hf j < 1024) : Mv l yX1_keepWithHat ws_X1_keepWithHat 1 21 (dC, dI) (tyL cI cZ cJ) [.ref h1, .int (nI j), .int (nI co)] (waW cI h1 h5 c1 hf) (fun u => ∃ (k : Nat) (g : Nat → Nat), u = waW cI h1 h5 k g ∧ Lof g k = (Lof hf c1).filter (fun x => qd x j == co)) := by
  refine Mv_of (by decide +kernel) (Nat.le_of_ble_eq_true rfl) ?_
  intro pr ev sx mi ag bl me cd Q ls S hP hK hD hZ hl ret
  obtain ⟨hx, hb, hml, hown, hts⟩ := id S
  have hown : sx.vm.findClass RX1 = some mi.cls := hown
  have hS : va_S (wIn (waW cI h1 h5 c1 hf)) sx.heap sx.heap [] := va_S.rf
  have hl : lv_has ls 6 [(0, .ref h1), (1, .int (nI j)), (2, .int (nI co))] := hl
  refine lv_aload_n hx hb dX1_keepWithHat_0 rfl (lv_at hl 0 rfl) ?_
  refine call_Vp (As := []) (rest := []) S (m_X0_count h1 h5 c1 hf) g_X1_X0_count hd_X0_count ⟨Nat.le_of_ble_eq_true rfl, Nat.le_of_ble_eq_true rfl⟩ ⟨Nat.zero_le _, Nat.zero_le _⟩ hP hD hK hS hZ [0, 1] rfl (by decide) 0 rfl rfl hl.1 rfl (Nat.le_of_ble_eq_true rfl) dX1_keepWithHat_1 (fun r H locs hq hP hS => ?_)
  obtain rfl := hq
  refine lv_istore_n (lv' := [(3, .int (nI c1)), (0, .ref h1), (1, .int (nI j)), (2, .int (nI co))]) hx hb dX1_keepWithHat_4 rfl hl (by decide) rfl (fun ls hl => ?_)
  refine lv_aload_n hx hb dX1_keepWithHat_5 rfl (lv_at hl 1 rfl) ?_
  refine call_Vv (As := []) (wr := []) (rest := []) S (m_X0_clear h1 h5 c1 hf) g_X1_X0_clear hd_X0_clear ⟨Nat.le_of_ble_eq_true rfl, Nat.le_of_ble_eq_true rfl⟩ ⟨Nat.zero_le _, Nat.zero_le _⟩ hP hD hK hS hZ [0, 1] [] rfl rfl (by decide) 0 rfl rfl hl.1 rfl (Nat.le_of_ble_eq_true rfl) dX1_keepWithHat_6 (fun u H locs hq hP hD hS => ?_)
  obtain rfl := hq
  have hP : va_P (dC, dI) vwCl (waW cI h1 h5 0 hf) H := hP
  have hD : va_D (wIn (waW cI h1 h5 c1 hf)) (waW cI h1 h5 0 hf) := hD
  refine lv_iconst (v := nI 0) hx hb dX1_keepWithHat_9 (by decide) ?_
  refine lv_istore (lv' := [(4, .int (nI 0)), (3, .int (nI c1)), (0, .ref h1), (1, .int (nI j)), (2, .int (nI co))]) hx hb dX1_keepWithHat_10 hl (by decide) rfl (fun ls hl => ?_)
  have lp12 : ∀ (kf : Nat) (i : Nat) (k : Nat) (g : Nat → Nat), c1 < i + kf → (i ≤ c1) → (k ≤ i) → (∀ j, k ≤ j → g j = hf j) → (Lof g k = (Lof hf i).filter (fun x => qd x j == co)) → ∀ (H : Heap) (locs : List Loc), va_P (dC, dI) vwCl (waW cI h1 h5 k g) H → va_D (wIn (waW cI h1 h5 c1 hf)) (waW cI h1 h5 k g) → va_S (wIn (waW cI h1 h5 c1 hf)) sx.heap H locs → ∀ ls : Array Slot, lv_has ls 6 [(4, .int (nI i)), (3, .int (nI c1)), (0, .ref h1), (1, .int (nI j)), (2, .int (nI co))] → W pr l ev (rmB 1 21) sx mi ag bl me cd H locs 0 0 Q (F0 mi 12 ls []) := by
    intro kf
    induction kf with
    | zero => intro i k g hkf hi hk hg hL; exact absurd hkf (by omega)
    | succ kf ih12 =>
      intro i k g hkf hi hk hg hL H locs hP hD hS ls hl
      refine lv_iload hx hb dX1_keepWithHat_12 (lv_at hl 0 rfl) ?_
      refine lv_iload_n hx hb dX1_keepWithHat_14 rfl (lv_at hl 1 rfl) ?_
      refine icN_ge (tgt := 48) hx hb dX1_keepWithHat_15 (by decide) (by omega) (by omega) (fun c_15 => ?_) (fun c_15 => ?_)
      · exact ret (waW cI h1 h5 k g) _ _ _ _ dX1_keepWithHat_48 ⟨k, g, rfl, by rw [hL, show i = c1 by omega]⟩ (List.Perm.refl _) hP hS
      · refine lv_aload_n hx hb dX1_keepWithHat_18 rfl (lv_at hl 2 rfl) ?_
        refine lv_iload hx hb dX1_keepWithHat_19 (lv_at hl 0 rfl) ?_
        refine call_Vp (As := [.int (nI i)]) (rest := []) S (m_X0_at h1 h5 k g i (by omega)) g_X1_X0_at hd_X0_at ⟨Nat.le_of_ble_eq_true rfl, Nat.le_of_ble_eq_true rfl⟩ ⟨Nat.zero_le _, Nat.zero_le _⟩ hP hD hK hS hZ [0, 1] rfl (by decide) 0 rfl rfl hl.1 rfl (Nat.le_of_ble_eq_true rfl) dX1_keepWithHat_21 (fun r H locs hq hP hS => ?_)
        obtain rfl := hq
        refine lv_istore (lv' := [(5, .int (nI (g i))), (4, .int (nI i)), (3, .int (nI c1)), (0, .ref h1), (1, .int (nI j)), (2, .int (nI co))]) hx hb dX1_keepWithHat_24 hl (by decide) rfl (fun ls hl => ?_)
        refine lv_iload hx hb dX1_keepWithHat_26 (lv_at hl 0 rfl) ?_
        refine lv_iload_n hx hb dX1_keepWithHat_28 rfl (lv_at hl 4 rfl) ?_
        refine call_Sp (As := [.int (nI (g i)), .int (nI j)]) (rest := []) S (m_X1_colourIn (g i) j (by rw [hg i (by omega)]; exact hb1 _ (by omega)) (by omega)) g_X1_X1_colourIn hd_X1_colourIn ⟨Nat.le_of_ble_eq_true rfl, Nat.le_of_ble_eq_true rfl⟩ ⟨Nat.zero_le _, Nat.zero_le _⟩ hP hD hK hS hZ [] rfl (by decide) hl.1 rfl (Nat.le_of_ble_eq_true rfl) dX1_keepWithHat_29 (fun r H locs hq hP hS => ?_)
        obtain rfl := hq
        refine lv_iload_n hx hb dX1_keepWithHat_32 rfl (lv_at hl 5 rfl) ?_
        refine icN_ne (tgt := 42) hx hb dX1_keepWithHat_33 (by decide) (by have := qd_lt (g i) j; omega) (by omega) (fun c_33 => ?_) (fun c_33 => ?_)
        · refine lv_iinc (v := nI (i + 1)) (lv' := [(4, .int (nI (i + 1))), (5, .int (nI (g i))), (3, .int (nI c1)), (0, .ref h1), (1, .int (nI j)), (2, .int (nI co))]) hx hb dX1_keepWithHat_42 hl (k := 1) rfl (nI_add _ _) (by decide) rfl (fun ls hl => ?_)
          refine lv_goto (tgt := 12) hx hb dX1_keepWithHat_45 (by decide) ?_
          exact ih12 (i + 1) _ _ (by omega) (by omega) (by omega) (fun j hj => hg j (by omega)) (flt_f (hg _ (by omega)) (by simp [c_33]) hL) _ _ hP hD hS _ (lv_sub hl [0, 2, 3, 4, 5] rfl)
        · refine lv_aload_n hx hb dX1_keepWithHat_36 rfl (lv_at hl 3 rfl) ?_
          refine lv_iload hx hb dX1_keepWithHat_37 (lv_at hl 0 rfl) ?_
          refine call_Vv (As := [.int (nI (g i))]) (wr := []) (rest := []) S (m_X0_add h1 h5 k g (g i) (by omega)) g_X1_X0_add hd_X0_add ⟨Nat.le_of_ble_eq_true rfl, Nat.le_of_ble_eq_true rfl⟩ ⟨Nat.zero_le _, Nat.zero_le _⟩ hP hD hK hS hZ [0, 1] [] rfl rfl (by decide) 0 rfl rfl hl.1 rfl (Nat.le_of_ble_eq_true rfl) dX1_keepWithHat_39 (fun u H locs hq hP hD hS => ?_)
          obtain rfl := hq
          have hP : va_P (dC, dI) vwCl (waW cI h1 h5 (k + 1) (upN g k (g i))) H := hP
          have hD : va_D (wIn (waW cI h1 h5 c1 hf)) (waW cI h1 h5 (k + 1) (upN g k (g i))) := hD
          refine lv_iinc (v := nI (i + 1)) (lv' := [(4, .int (nI (i + 1))), (5, .int (nI (g i))), (3, .int (nI c1)), (0, .ref h1), (1, .int (nI j)), (2, .int (nI co))]) hx hb dX1_keepWithHat_42 hl (k := 1) rfl (nI_add _ _) (by decide) rfl (fun ls hl => ?_)
          refine lv_goto (tgt := 12) hx hb dX1_keepWithHat_45 (by decide) ?_
          exact ih12 (i + 1) _ _ (by omega) (by omega) (by omega) (fun j hj => by rw [upN_n _ _ (by omega)]; exact hg j (by omega)) (flt_t (hg _ (by omega)) (by simp [c_33]) hL) _ _ hP hD hS _ (lv_sub hl [0, 2, 3, 4, 5] rfl)
  exact lp12 (c1 + 1) 0 0 hf (by omega) (by omega) (by omega) (fun _ _ => rfl) rfl _ _ hP hD hS _ (lv_sub hl [0, 1, 2, 3, 4] rfl)

set_option maxHeartbeats 4000000 in
set_option maxRecDepth 100000 in
theorem m_X1_keepByCertainty (h0 h1 h2 h3 h4 h5 h6 p1 p2 n wn t tc sc : Nat) (uw : Bool) (c1 c2 : Nat) (s ow hf tf : Nat → Nat) (j : Nat) (b : Bool) (hj : j < 5) (hc1 : c1 ≤ 243) (hb1 : ∀ j, j < c1 → hf j < 1024) : Mv l yX1_keepByCertainty ws_X1_keepByCertainty 3 68 (dC, dI) (tyL cI cZ cJ) [.ref h0, .ref h1, .int (nI j), .int (bI b)] (gW cI h0 h1 h2 h3 h4 h5 h6 p1 p2 n wn t tc sc uw c1 c2 s ow hf tf) (fun u => ∃ (k : Nat) (og g : Nat → Nat), u = gW cI h0 h1 h2 h3 h4 h5 h6 p1 p2 n wn t tc sc uw k c2 s og g tf ∧ Lof g k = (Lof hf c1).filter (fun x => wbc (s j) j (Lof hf c1) x == b)) := by
  refine Mv_of (by decide +kernel) (Nat.le_of_ble_eq_true rfl) ?_
  intro pr ev sx mi ag bl me cd Q ls S hP hK hD hZ hl ret
  obtain ⟨hx, hb, hml, hown, hts⟩ := id S
  have hown : sx.vm.findClass RX1 = some mi.cls := hown
  have hS : va_S (wIn (gW cI h0 h1 h2 h3 h4 h5 h6 p1 p2 n wn t tc sc uw c1 c2 s ow hf tf)) sx.heap sx.heap [] := va_S.rf
  have hl : lv_has ls 7 [(0, .ref h0), (1, .ref h1), (2, .int (nI j)), (3, .int (bI b))] := hl
  refine lv_aload_n hx hb dX1_keepByCertainty_0 rfl (lv_at hl 0 rfl) ?_
  refine lv_aload_n hx hb dX1_keepByCertainty_1 rfl (lv_at hl 1 rfl) ?_
  refine lv_iload_n hx hb dX1_keepByCertainty_2 rfl (lv_at hl 2 rfl) ?_
  refine call_Vv (As := [.ref h1, .int (nI j)]) (wr := []) (rest := []) S (m_X1_noteOwnColours h0 h1 h2 h3 h4 h5 h6 p1 p2 n wn t tc sc uw c1 c2 s ow hf tf j (by omega) hc1 hb1) g_X1_X1_noteOwnColours hd_X1_noteOwnColours ⟨Nat.le_of_ble_eq_true rfl, Nat.le_of_ble_eq_true rfl⟩ ⟨Nat.zero_le _, Nat.zero_le _⟩ hP hD hK hS hZ [0, 1, 2, 3, 4, 5, 6] [] rfl rfl (by decide) 0 rfl rfl hl.1 rfl (Nat.le_of_ble_eq_true rfl) dX1_keepByCertainty_3 (fun u H locs hq hP hD hS => ?_)
  obtain ⟨og, rfl, hog⟩ := hq
  have hP : va_P (dC, dI) vwCl (gW cI h0 h1 h2 h3 h4 h5 h6 p1 p2 n wn t tc sc uw c1 c2 s og hf tf) H := hP
  have hD : va_D (wIn (gW cI h0 h1 h2 h3 h4 h5 h6 p1 p2 n wn t tc sc uw c1 c2 s ow hf tf)) (gW cI h0 h1 h2 h3 h4 h5 h6 p1 p2 n wn t tc sc uw c1 c2 s og hf tf) := hD
  refine lv_aload_n hx hb dX1_keepByCertainty_6 rfl (lv_at hl 1 rfl) ?_
  refine call_Vp (As := []) (rest := []) S (m_X0_count h1 h5 c1 hf) g_X1_X0_count hd_X0_count ⟨Nat.le_of_ble_eq_true rfl, Nat.le_of_ble_eq_true rfl⟩ ⟨Nat.zero_le _, Nat.zero_le _⟩ hP hD hK hS hZ [1, 5] rfl (by decide) 0 rfl rfl hl.1 rfl (Nat.le_of_ble_eq_true rfl) dX1_keepByCertainty_7 (fun r H locs hq hP hS => ?_)
  obtain rfl := hq
  refine lv_istore (lv' := [(4, .int (nI c1)), (0, .ref h0), (1, .ref h1), (2, .int (nI j)), (3, .int (bI b))]) hx hb dX1_keepByCertainty_10 hl (by decide) rfl (fun ls hl => ?_)
  refine lv_aload_n hx hb dX1_keepByCertainty_12 rfl (lv_at hl 2 rfl) ?_
  refine call_Vv (As := []) (wr := [(h0, .inr (1, [.ref p1, .ref p2, .ref h3, .ref h4, .int (nI n), .int (nI wn), .int (nI t), .int (nI tc), .int (nI sc), .int (bI uw)])), (h2, .inr (0, [.ref h6, .int (nI c2)])), (h3, .inl (cI, 5, .inl (fun k => nI (s k)))), (h4, .inl (cI, 1024, .inl (fun k => nI (og k)))), (h6, .inl (cI, 243, .inl (fun k => nI (tf k))))]) (rest := []) S (m_X0_clear h1 h5 c1 hf) g_X1_X0_clear hd_X0_clear ⟨Nat.le_of_ble_eq_true rfl, Nat.le_of_ble_eq_true rfl⟩ ⟨Nat.zero_le _, Nat.zero_le _⟩ hP hD hK hS hZ [1, 5] [0, 2, 3, 4, 6] rfl rfl (by decide) 0 rfl rfl hl.1 rfl (Nat.le_of_ble_eq_true rfl) dX1_keepByCertainty_13 (fun u H locs hq hP hD hS => ?_)
  obtain rfl := hq
  have hP := hP.sub (ws' := gW cI h0 h1 h2 h3 h4 h5 h6 p1 p2 n wn t tc sc uw 0 c2 s og hf tf) [0, 5, 1, 2, 3, 6, 4] rfl
  have hD := hD.sub (ws' := gW cI h0 h1 h2 h3 h4 h5 h6 p1 p2 n wn t tc sc uw 0 c2 s og hf tf) [0, 5, 1, 2, 3, 6, 4] (by decide) rfl
  refine lv_iconst (v := nI 0) hx hb dX1_keepByCertainty_16 (by decide) ?_
  refine lv_istore (lv' := [(5, .int (nI 0)), (4, .int (nI c1)), (0, .ref h0), (1, .ref h1), (2, .int (nI j)), (3, .int (bI b))]) hx hb dX1_keepByCertainty_17 hl (by decide) rfl (fun ls hl => ?_)
  have lp19 : ∀ (kf : Nat) (i : Nat) (k : Nat) (g : Nat → Nat), c1 < i + kf → (i ≤ c1) → (k ≤ i) → (∀ j, k ≤ j → g j = hf j) → (Lof g k = (Lof hf i).filter (fun x => wbc (s j) j (Lof hf c1) x == b)) → ∀ (H : Heap) (locs : List Loc), va_P (dC, dI) vwCl (gW cI h0 h1 h2 h3 h4 h5 h6 p1 p2 n wn t tc sc uw k c2 s og g tf) H → va_D (wIn (gW cI h0 h1 h2 h3 h4 h5 h6 p1 p2 n wn t tc sc uw c1 c2 s ow hf tf)) (gW cI h0 h1 h2 h3 h4 h5 h6 p1 p2 n wn t tc sc uw k c2 s og g tf) → va_S (wIn (gW cI h0 h1 h2 h3 h4 h5 h6 p1 p2 n wn t tc sc uw c1 c2 s ow hf tf)) sx.heap H locs → ∀ ls : Array Slot, lv_has ls 7 [(5, .int (nI i)), (4, .int (nI c1)), (0, .ref h0), (1, .ref h1), (2, .int (nI j)), (3, .int (bI b))] → W pr l ev (rmB 3 68) sx mi ag bl me cd H locs 0 0 Q (F0 mi 19 ls []) := by
    intro kf
    induction kf with
    | zero => intro i k g hkf hi hk hg hL; exact absurd hkf (by omega)
    | succ kf ih19 =>
      intro i k g hkf hi hk hg hL H locs hP hD hS ls hl
      refine lv_iload hx hb dX1_keepByCertainty_19 (lv_at hl 0 rfl) ?_
      refine lv_iload hx hb dX1_keepByCertainty_21 (lv_at hl 1 rfl) ?_
      refine icN_ge (tgt := 57) hx hb dX1_keepByCertainty_23 (by decide) (by omega) (by omega) (fun c_23 => ?_) (fun c_23 => ?_)
      · exact ret (gW cI h0 h1 h2 h3 h4 h5 h6 p1 p2 n wn t tc sc uw k c2 s og g tf) _ _ _ _ dX1_keepByCertainty_57 ⟨k, og, g, rfl, by rw [hL, show i = c1 by omega]⟩ (List.Perm.refl _) hP hS
      · refine lv_aload_n hx hb dX1_keepByCertainty_26 rfl (lv_at hl 3 rfl) ?_
        refine lv_iload hx hb dX1_keepByCertainty_27 (lv_at hl 0 rfl) ?_
        refine call_Vp (As := [.int (nI i)]) (rest := []) S (m_X0_at h1 h5 k g i (by omega)) g_X1_X0_at hd_X0_at ⟨Nat.le_of_ble_eq_true rfl, Nat.le_of_ble_eq_true rfl⟩ ⟨Nat.zero_le _, Nat.zero_le _⟩ hP hD hK hS hZ [1, 5] rfl (by decide) 0 rfl rfl hl.1 rfl (Nat.le_of_ble_eq_true rfl) dX1_keepByCertainty_29 (fun r H locs hq hP hS => ?_)
        obtain rfl := hq
        refine lv_istore (lv' := [(6, .int (nI (g i))), (5, .int (nI i)), (4, .int (nI c1)), (0, .ref h0), (1, .ref h1), (2, .int (nI j)), (3, .int (bI b))]) hx hb dX1_keepByCertainty_32 hl (by decide) rfl (fun ls hl => ?_)
        refine lv_aload_n hx hb dX1_keepByCertainty_34 rfl (lv_at hl 3 rfl) ?_
        refine lv_iload hx hb dX1_keepByCertainty_35 (lv_at hl 0 rfl) ?_
        refine lv_iload_n hx hb dX1_keepByCertainty_37 rfl (lv_at hl 5 rfl) ?_
        refine call_Vp (As := [.int (nI (g i)), .int (nI j)]) (rest := []) S (m_X1_wouldBeCertain h0 h1 h2 h3 h4 h5 h6 p1 p2 n wn t tc sc uw k c2 s og g tf (g i) j (by omega) (by rw [hg i (by omega), hog i (by omega)]; exact ocol_lt _ _ _ _)) g_X1_X1_wouldBeCertain hd_X1_wouldBeCertain ⟨Nat.le_of_ble_eq_true rfl, Nat.le_of_ble_eq_true rfl⟩ ⟨Nat.zero_le _, Nat.zero_le _⟩ hP hD hK hS hZ [0, 1, 2, 3, 4, 5, 6] rfl (by decide) 0 rfl rfl hl.1 rfl (Nat.le_of_ble_eq_true rfl) dX1_keepByCertainty_38 (fun r H locs hq hP hS => ?_)
        obtain rfl : r = bI (wbc (s j) j (Lof hf c1) (g i)) := by rw [hq, wbc, hg i (by omega), hog i (by omega)]
        refine lv_iload_n hx hb dX1_keepByCertainty_41 rfl (lv_at hl 6 rfl) ?_
        refine icB_ne (tgt := 51) hx hb dX1_keepByCertainty_42 (by decide) (fun c_42 => ?_) (fun c_42 => ?_)
        · refine lv_iinc (v := nI (i + 1)) (lv' := [(5, .int (nI (i + 1))), (6, .int (nI (g i))), (4, .int (nI c1)), (0, .ref h0), (1, .ref h1), (2, .int (nI j)), (3, .int (bI b))]) hx hb dX1_keepByCertainty_51 hl (k := 1) rfl (nI_add _ _) (by decide) rfl (fun ls hl => ?_)
          refine lv_goto (tgt := 19) hx hb dX1_keepByCertainty_54 (by decide) ?_
          exact ih19 (i + 1) _ _ (by omega) (by omega) (by omega) (fun j hj => hg j (by omega)) (flt_f (hg _ (by omega)) (by simp [c_42]) hL) _ _ hP hD hS _ (lv_sub hl [0, 2, 3, 4, 5, 6] rfl)
        · refine lv_aload_n hx hb dX1_keepByCertainty_45 rfl (lv_at hl 4 rfl) ?_
          refine lv_iload hx hb dX1_keepByCertainty_46 (lv_at hl 0 rfl) ?_
          refine call_Vv (As := [.int (nI (g i))]) (wr := [(h0, .inr (1, [.ref p1, .ref p2, .ref h3, .ref h4, .int (nI n), .int (nI wn), .int (nI t), .int (nI tc), .int (nI sc), .int (bI uw)])), (h2, .inr (0, [.ref h6, .int (nI c2)])), (h3, .inl (cI, 5, .inl (fun k => nI (s k)))), (h4, .inl (cI, 1024, .inl (fun k => nI (og k)))), (h6, .inl (cI, 243, .inl (fun k => nI (tf k))))]) (rest := []) S (m_X0_add h1 h5 k g (g i) (by omega)) g_X1_X0_add hd_X0_add ⟨Nat.le_of_ble_eq_true rfl, Nat.le_of_ble_eq_true rfl⟩ ⟨Nat.zero_le _, Nat.zero_le _⟩ hP hD hK hS hZ [1, 5] [0, 2, 3, 4, 6] rfl rfl (by decide) 0 rfl rfl hl.1 rfl (Nat.le_of_ble_eq_true rfl) dX1_keepByCertainty_48 (fun u H locs hq hP hD hS => ?_)
          obtain rfl := hq
          have hP := hP.sub (ws' := gW cI h0 h1 h2 h3 h4 h5 h6 p1 p2 n wn t tc sc uw (k + 1) c2 s og (upN g k (g i)) tf) [0, 5, 1, 2, 3, 6, 4] rfl
          have hD := hD.sub (ws' := gW cI h0 h1 h2 h3 h4 h5 h6 p1 p2 n wn t tc sc uw (k + 1) c2 s og (upN g k (g i)) tf) [0, 5, 1, 2, 3, 6, 4] (by decide) rfl
          refine lv_iinc (v := nI (i + 1)) (lv' := [(5, .int (nI (i + 1))), (6, .int (nI (g i))), (4, .int (nI c1)), (0, .ref h0), (1, .ref h1), (2, .int (nI j)), (3, .int (bI b))]) hx hb dX1_keepByCertainty_51 hl (k := 1) rfl (nI_add _ _) (by decide) rfl (fun ls hl => ?_)
          refine lv_goto (tgt := 19) hx hb dX1_keepByCertainty_54 (by decide) ?_
          exact ih19 (i + 1) _ _ (by omega) (by omega) (by omega) (fun j hj => by rw [upN_n _ _ (by omega)]; exact hg j (by omega)) (flt_t (hg _ (by omega)) (by simp [c_42]) hL) _ _ hP hD hS _ (lv_sub hl [0, 2, 3, 4, 5, 6] rfl)
  exact lp19 (c1 + 1) 0 0 hf (by omega) (by omega) (by omega) (fun _ _ => rfl) rfl _ _ hP hD hS _ (lv_sub hl [0, 1, 2, 3, 4, 5] rfl)

set_option maxHeartbeats 4000000 in
set_option maxRecDepth 100000 in
theorem m_X1_passTurn (h0 h1 h2 h3 h4 h5 h6 p1 p2 n wn t tc sc : Nat) (uw : Bool) (c1 c2 : Nat) (s ow hf tf : Nat → Nat) (j : Nat) (hj : j < 5) (hw : wn < 1024) (hc1 : c1 ≤ 243) (hb1 : ∀ j, j < c1 → hf j < 1024) : Mi l yX1_passTurn ws_X1_passTurn 4 94 (dC, dI) (tyL cI cZ cJ) [.ref h0, .ref h1, .int (nI j)] (gW cI h0 h1 h2 h3 h4 h5 h6 p1 p2 n wn t tc sc uw c1 c2 s ow hf tf) (fun r u => r = bI (cert wn (s j) j (Lof hf c1)) ∧ ∃ (k : Nat) (og g : Nat → Nat), u = gW cI h0 h1 h2 h3 h4 h5 h6 p1 p2 n wn t tc sc uw k c2 s og g tf ∧ Lof g k = turnL wn (s j) j (Lof hf c1)) := by
  refine Mi_of (by decide +kernel) (Nat.le_of_ble_eq_true rfl) ?_
  intro pr ev sx mi ag bl me cd Q ls S hP hK hD hZ hl ret
  obtain ⟨hx, hb, hml, hown, hts⟩ := id S
  have hown : sx.vm.findClass RX1 = some mi.cls := hown
  have hS : va_S (wIn (gW cI h0 h1 h2 h3 h4 h5 h6 p1 p2 n wn t tc sc uw c1 c2 s ow hf tf)) sx.heap sx.heap [] := va_S.rf
  have hl : lv_has ls 4 [(0, .ref h0), (1, .ref h1), (2, .int (nI j))] := hl
  refine lv_aload_n hx hb dX1_passTurn_0 rfl (lv_at hl 0 rfl) ?_
  refine lv_aload_n hx hb dX1_passTurn_1 rfl (lv_at hl 1 rfl) ?_
  refine lv_iload_n hx hb dX1_passTurn_2 rfl (lv_at hl 2 rfl) ?_
  refine call_Vp (As := [.ref h1, .int (nI j)]) (rest := []) S (m_X1_isCertainBy h0 h1 h2 h3 h4 h5 h6 p1 p2 n wn t tc sc uw c1 c2 s ow hf tf j (by omega) hw hc1 hb1) g_X1_X1_isCertainBy hd_X1_isCertainBy ⟨Nat.le_of_ble_eq_true rfl, Nat.le_of_ble_eq_true rfl⟩ ⟨Nat.zero_le _, Nat.zero_le _⟩ hP hD hK hS hZ [0, 1, 2, 3, 4, 5, 6] rfl (by decide) 0 rfl rfl hl.1 rfl (Nat.le_of_ble_eq_true rfl) dX1_passTurn_3 (fun r H locs hq hP hS => ?_)
  obtain rfl := hq
  refine lv_istore_n (lv' := [(3, .int (bI (cert wn (s j) j (Lof hf c1)))), (0, .ref h0), (1, .ref h1), (2, .int (nI j))]) hx hb dX1_passTurn_6 rfl hl (by decide) rfl (fun ls hl => ?_)
  refine lv_aload_n hx hb dX1_passTurn_7 rfl (lv_at hl 1 rfl) ?_
  refine lv_aload_n hx hb dX1_passTurn_8 rfl (lv_at hl 2 rfl) ?_
  refine lv_iload_n hx hb dX1_passTurn_9 rfl (lv_at hl 3 rfl) ?_
  refine lv_iload_n hx hb dX1_passTurn_10 rfl (lv_at hl 0 rfl) ?_
  refine call_Vv (As := [.ref h1, .int (nI j), .int (bI (cert wn (s j) j (Lof hf c1)))]) (wr := []) (rest := []) S (m_X1_keepByCertainty h0 h1 h2 h3 h4 h5 h6 p1 p2 n wn t tc sc uw c1 c2 s ow hf tf j (cert wn (s j) j (Lof hf c1)) (by omega) hc1 hb1) g_X1_X1_keepByCertainty hd_X1_keepByCertainty ⟨Nat.le_of_ble_eq_true rfl, Nat.le_of_ble_eq_true rfl⟩ ⟨Nat.zero_le _, Nat.zero_le _⟩ hP hD hK hS hZ [0, 1, 2, 3, 4, 5, 6] [] rfl rfl (by decide) 0 rfl rfl hl.1 rfl (Nat.le_of_ble_eq_true rfl) dX1_passTurn_11 (fun u H locs hq hP hD hS => ?_)
  obtain ⟨k8, og8, g8, rfl, hL8⟩ := hq
  have hP : va_P (dC, dI) vwCl (gW cI h0 h1 h2 h3 h4 h5 h6 p1 p2 n wn t tc sc uw k8 c2 s og8 g8 tf) H := hP
  have hD : va_D (wIn (gW cI h0 h1 h2 h3 h4 h5 h6 p1 p2 n wn t tc sc uw c1 c2 s ow hf tf)) (gW cI h0 h1 h2 h3 h4 h5 h6 p1 p2 n wn t tc sc uw k8 c2 s og8 g8 tf) := hD
  refine lv_iload_n hx hb dX1_passTurn_14 rfl (lv_at hl 0 rfl) ?_
  refine ifB_eq (tgt := 31) hx hb dX1_passTurn_15 (by decide) (fun c_15 => ?_) (fun c_15 => ?_)
  · refine lv_iload_n hx hb dX1_passTurn_31 rfl (lv_at hl 0 rfl) ?_
    exact ret _ (gW cI h0 h1 h2 h3 h4 h5 h6 p1 p2 n wn t tc sc uw k8 c2 s og8 g8 tf) _ _ _ _ dX1_passTurn_32 (bI_nar _) ⟨rfl, k8, og8, g8, rfl, by rw [hL8, turnL, c_15]; rfl⟩ (List.Perm.refl _) hP hS
  · refine lv_aload_n hx hb dX1_passTurn_18 rfl (lv_at hl 2 rfl) ?_
    refine lv_iload_n hx hb dX1_passTurn_19 rfl (lv_at hl 3 rfl) ?_
    refine lv_aload_n hx hb dX1_passTurn_20 rfl (lv_at hl 1 rfl) ?_
    refine va_get (D := (dC, dI)) (ci := 1) (v := .int (nI wn)) (C := RX1) (T := TX1) (N := 10) hx hb hts inX1 hown hK hP 0 rfl rfl 5 (by decide) (hts _ q_fl_X1_30) (fun _ h9 => h9) rfl dX1_passTurn_21 ?_
    refine lv_iload_n hx hb dX1_passTurn_24 rfl (lv_at hl 3 rfl) ?_
    refine call_Sp (As := [.int (nI wn), .int (nI j)]) (rest := [.int (nI j), .ref h1]) S (m_X1_colourIn wn j hw (by omega)) g_X1_X1_colourIn hd_X1_colourIn ⟨Nat.le_of_ble_eq_true rfl, Nat.le_of_ble_eq_true rfl⟩ ⟨Nat.zero_le _, Nat.zero_le _⟩ hP hD hK hS hZ [] rfl (by decide) hl.1 rfl (Nat.le_of_ble_eq_true rfl) dX1_passTurn_25 (fun r H locs hq hP hS => ?_)
    obtain rfl := hq
    refine call_Sv (As := [.ref h1, .int (nI j), .int (nI (qd wn j))]) (wr := [(h0, .inr (1, [.ref p1, .ref p2, .ref h3, .ref h4, .int (nI n), .int (nI wn), .int (nI t), .int (nI tc), .int (nI sc), .int (bI uw)])), (h2, .inr (0, [.ref h6, .int (nI c2)])), (h3, .inl (cI, 5, .inl (fun k => nI (s k)))), (h4, .inl (cI, 1024, .inl (fun k => nI (og8 k)))), (h6, .inl (cI, 243, .inl (fun k => nI (tf k))))]) (rest := []) S (m_X1_keepWithHat h1 h5 k8 g8 j (qd wn j) (by omega) (qd_lt _ _) (by have := Lof_le hL8; omega) (Lof_bd hL8 hb1)) g_X1_X1_keepWithHat hd_X1_keepWithHat ⟨Nat.le_of_ble_eq_true rfl, Nat.le_of_ble_eq_true rfl⟩ ⟨Nat.zero_le _, Nat.zero_le _⟩ hP hD hK hS hZ [1, 5] [0, 2, 3, 4, 6] rfl rfl (by decide) hl.1 rfl (Nat.le_of_ble_eq_true rfl) dX1_passTurn_28 (fun u H locs hq hP hD hS => ?_)
    obtain ⟨k7, g7, rfl, hL7⟩ := hq
    have hP := hP.sub (ws' := gW cI h0 h1 h2 h3 h4 h5 h6 p1 p2 n wn t tc sc uw k7 c2 s og8 g7 tf) [0, 5, 1, 2, 3, 6, 4] rfl
    have hD := hD.sub (ws' := gW cI h0 h1 h2 h3 h4 h5 h6 p1 p2 n wn t tc sc uw k7 c2 s og8 g7 tf) [0, 5, 1, 2, 3, 6, 4] (by decide) rfl
    refine lv_iload_n hx hb dX1_passTurn_31 rfl (lv_at hl 0 rfl) ?_
    exact ret _ (gW cI h0 h1 h2 h3 h4 h5 h6 p1 p2 n wn t tc sc uw k7 c2 s og8 g7 tf) _ _ _ _ dX1_passTurn_32 (bI_nar _) ⟨rfl, k7, og8, g7, rfl, by rw [hL7, hL8, turnL, c_15]; rfl⟩ (List.Perm.refl _) hP hS

set_option maxHeartbeats 4000000 in
set_option maxRecDepth 100000 in
theorem m_X1_areCertainBy (h0 h1 h2 h3 h4 h5 h6 p1 p2 n wn t tc sc : Nat) (uw : Bool) (c1 c2 : Nat) (s ow hf tf : Nat → Nat) (lo hi : Nat) (hhi : hi ≤ 5) (hlo : lo ≤ 5) (hw : wn < 1024) (hc1 : c1 ≤ 243) (hb1 : ∀ j, j < c1 → hf j < 1024) : Mp l yX1_areCertainBy ws_X1_areCertainBy 3 71 (dC, dI) (tyL cI cZ cJ) [.ref h0, .ref h1, .int (nI lo), .int (nI hi - 1)] (gW cI h0 h1 h2 h3 h4 h5 h6 p1 p2 n wn t tc sc uw c1 c2 s ow hf tf) (fun r => r = bI (allC wn s lo hi (Lof hf c1))) := by
  refine Mi_of (by decide +kernel) (Nat.le_of_ble_eq_true rfl) ?_
  intro pr ev sx mi ag bl me cd Q ls S hP hK hD hZ hl ret
  obtain ⟨hx, hb, hml, hown, hts⟩ := id S
  have hown : sx.vm.findClass RX1 = some mi.cls := hown
  have hS : va_S (wIn (gW cI h0 h1 h2 h3 h4 h5 h6 p1 p2 n wn t tc sc uw c1 c2 s ow hf tf)) sx.heap sx.heap [] := va_S.rf
  have hl : lv_has ls 5 [(0, .ref h0), (1, .ref h1), (2, .int (nI lo)), (3, .int (nI hi - 1))] := hl
  refine lv_iload_n hx hb dX1_areCertainBy_0 rfl (lv_at hl 2 rfl) ?_
  refine lv_istore (lv' := [(4, .int (nI lo)), (0, .ref h0), (1, .ref h1), (2, .int (nI lo)), (3, .int (nI hi - 1))]) hx hb dX1_areCertainBy_1 hl (by decide) rfl (fun ls hl => ?_)
  have lp3 : ∀ (kf : Nat) (i : Nat), 6 < i + kf → (lo ≤ i) → (i ≤ hi ∨ i = lo) → (∀ p, lo ≤ p → p < i → cert wn (s p) p (Lof hf c1) = true) → ∀ (H : Heap) (locs : List Loc), va_P (dC, dI) vwCl (gW cI h0 h1 h2 h3 h4 h5 h6 p1 p2 n wn t tc sc uw c1 c2 s ow hf tf) H → va_D (wIn (gW cI h0 h1 h2 h3 h4 h5 h6 p1 p2 n wn t tc sc uw c1 c2 s ow hf tf)) (gW cI h0 h1 h2 h3 h4 h5 h6 p1 p2 n wn t tc sc uw c1 c2 s ow hf tf) → va_S (wIn (gW cI h0 h1 h2 h3 h4 h5 h6 p1 p2 n wn t tc sc uw c1 c2 s ow hf tf)) sx.heap H locs → ∀ ls : Array Slot, lv_has ls 5 [(4, .int (nI i)), (0, .ref h0), (1, .ref h1), (2, .int (nI lo)), (3, .int (nI hi - 1))] → W pr l ev (rmB 3 71) sx mi ag bl me cd H locs 0 0 Q (F0 mi 3 ls []) := by
    intro kf
    induction kf with
    | zero => intro i hkf h1i h2i hc; exact absurd hkf (by omega)
    | succ kf ih3 =>
      intro i hkf h1i h2i hc H locs hP hD hS ls hl
      refine lv_iload hx hb dX1_areCertainBy_3 (lv_at hl 0 rfl) ?_
      refine lv_iload_n hx hb dX1_areCertainBy_5 rfl (lv_at hl 4 rfl) ?_
      refine lv_icmp_gt (tgt := 27) hx hb dX1_areCertainBy_6 (by decide) (fun c_6 => ?_) (fun c_6 => ?_)
      · have c_6 := (nI_hi (by omega) (by omega)).mp c_6
        refine lv_iconst (v := nI 1) hx hb dX1_areCertainBy_27 (by decide) ?_
        exact ret _ (gW cI h0 h1 h2 h3 h4 h5 h6 p1 p2 n wn t tc sc uw c1 c2 s ow hf tf) _ _ _ _ dX1_areCertainBy_28 rfl ⟨rfl, bI_t (allC_t hc c_6)⟩ (List.Perm.refl _) hP hS
      · have c_6 : ¬ hi ≤ i := fun q => c_6 ((nI_hi (hi := hi) (i := i) (by omega) (by omega)).mpr q)
        refine lv_aload_n hx hb dX1_areCertainBy_9 rfl (lv_at hl 1 rfl) ?_
        refine lv_aload_n hx hb dX1_areCertainBy_10 rfl (lv_at hl 2 rfl) ?_
        refine lv_iload hx hb dX1_areCertainBy_11 (lv_at hl 0 rfl) ?_
        refine call_Vp (As := [.ref h1, .int (nI i)]) (rest := []) S (m_X1_isCertainBy h0 h1 h2 h3 h4 h5 h6 p1 p2 n wn t tc sc uw c1 c2 s ow hf tf i (by omega) hw hc1 hb1) g_X1_X1_isCertainBy hd_X1_isCertainBy ⟨Nat.le_of_ble_eq_true rfl, Nat.le_of_ble_eq_true rfl⟩ ⟨Nat.zero_le _, Nat.zero_le _⟩ hP hD hK hS hZ [0, 1, 2, 3, 4, 5, 6] rfl (by decide) 0 rfl rfl hl.1 rfl (Nat.le_of_ble_eq_true rfl) dX1_areCertainBy_13 (fun r H locs hq hP hS => ?_)
        obtain rfl := hq
        refine ifB_ne (tgt := 21) hx hb dX1_areCertainBy_16 (by decide) (fun c_16 => ?_) (fun c_16 => ?_)
        · refine lv_iinc (v := nI (i + 1)) (lv' := [(4, .int (nI (i + 1))), (0, .ref h0), (1, .ref h1), (2, .int (nI lo)), (3, .int (nI hi - 1))]) hx hb dX1_areCertainBy_21 hl (k := 0) rfl (nI_add _ _) (by decide) rfl (fun ls hl => ?_)
          refine lv_goto (tgt := 3) hx hb dX1_areCertainBy_24 (by decide) ?_
          exact ih3 (i + 1) (by omega) (by omega) (by omega) (fun p h1 h2 => by rcases Nat.lt_or_ge p i with q | q; (· exact hc p h1 q); (· rw [show p = i by omega]; exact c_16)) _ _ hP hD hS _ (lv_sub hl [0, 1, 2, 3, 4] rfl)
        · refine lv_iconst (v := nI 0) hx hb dX1_areCertainBy_19 (by decide) ?_
          exact ret _ (gW cI h0 h1 h2 h3 h4 h5 h6 p1 p2 n wn t tc sc uw c1 c2 s ow hf tf) _ _ _ _ dX1_areCertainBy_20 rfl ⟨rfl, bI_f (allC_f h1i (by omega) c_16)⟩ (List.Perm.refl _) hP hS
  exact lp3 7 lo (by omega) (by omega) (by omega) (fun p h1 h2 => absurd h2 (by omega)) _ _ hP hD hS _ (lv_sub hl [0, 1, 2, 3, 4] rfl)

theorem until_s {n wn lo hi k p : Nat} {s : Nat → Nat} {L : List Nat} {v0 : Option Nat} {i : Nat} (h : v0 = (untilL n wn s lo hi (k + 1) L p).map (· + i)) (hc : allC wn s lo hi L = false) : v0 = (untilL n wn s lo hi k (turnL wn (s p) p L) (aftN n p)).map (· + (i + 1)) := by
  rw [h, untilL, hc]
  simp only [Bool.false_eq_true, if_false, Option.map_map]
  congr 1
  funext x
  simp only [Function.comp]
  omega
theorem until_e {n wn lo hi k p : Nat} {s : Nat → Nat} {L : List Nat} {v0 : Option Nat} {i : Nat} (h : v0 = (untilL n wn s lo hi k L p).map (· + i)) (hc : allC wn s lo hi L = true) : v0 = some i := by
  rw [h]
  cases k <;> simp [untilL, hc]
theorem until_n {n wn lo hi k p : Nat} {s : Nat → Nat} {L : List Nat} {v0 : Option Nat} {i : Nat} (h : v0 = (untilL n wn s lo hi k L p).map (· + i)) (hk : k = 0) (hc : allC wn s lo hi L = false) : v0 = none := by
  subst hk
  rw [h]
  simp [untilL, hc]
theorem turn_bd {wn m p c k : Nat} {f g : Nat → Nat} (h : Lof g k = turnL wn m p (Lof f c)) (hb : ∀ j, j < c → f j < 1024) : k ≤ c ∧ ∀ j, j < k → g j < 1024 := by
  have hs : ∀ x, x ∈ Lof g k → x ∈ Lof f c := by
    intro x hx
    rw [h, turnL] at hx
    split at hx
    · exact (List.mem_filter.mp (List.mem_filter.mp hx).1).1
    · exact (List.mem_filter.mp hx).1
  constructor
  · have : (Lof g k).length ≤ (Lof f c).length := by
      rw [h, turnL]
      split
      · exact Nat.le_trans (List.length_filter_le _ _) (List.length_filter_le _ _)
      · exact List.length_filter_le _ _
    rw [Lof_len, Lof_len] at this
    exact this
  · intro j hj
    obtain ⟨i, hi, e⟩ := Lof_mem.mp (hs _ (Lof_mem.mpr ⟨j, hj, rfl⟩))
    rw [← e]; exact hb i hi
theorem aft_lt {n p : Nat} (h : p < 5) (hn : n ≤ 5) : aftN n p < 5 := by
  unfold aftN
  split <;> omega
set_option maxHeartbeats 4000000 in
set_option maxRecDepth 100000 in
theorem m_X1_turnsUntilCertainFrom (h0 h1 h2 h3 h4 h5 h6 n wn t tc sc : Nat) (uw : Bool) (c1 c2 : Nat) (s ow hf tf : Nat → Nat) (lo hi : Nat) (hn : n ≤ 5) (hhi : hi ≤ 5) (hlo : lo ≤ 5) (ht : t < 5) (hw : wn < 1024) (hc1 : c1 ≤ 243) (hb1 : ∀ j, j < c1 → hf j < 1024) : Mi l yX1_turnsUntilCertainFrom ws_X1_turnsUntilCertainFrom 5 117 (dC, dI) (tyL cI cZ cJ) [.ref h0, .int (nI lo), .int (nI hi - 1)] (gW cI h0 h1 h2 h3 h4 h5 h6 h1 h2 n wn t tc sc uw c1 c2 s ow hf tf) (fun r u => r = oI (untilL n wn s lo hi 40 (Lof hf c1) t) ∧ ∃ (k : Nat) (og g : Nat → Nat), u = gW cI h0 h1 h2 h3 h4 h5 h6 h1 h2 n wn t tc sc uw c1 k s og hf g) := by
  refine Mi_of (by decide +kernel) (Nat.le_of_ble_eq_true rfl) ?_
  intro pr ev sx mi ag bl me cd Q ls S hP hK hD hZ hl ret
  obtain ⟨hx, hb, hml, hown, hts⟩ := id S
  have hown : sx.vm.findClass RX1 = some mi.cls := hown
  have hS : va_S (wIn (gW cI h0 h1 h2 h3 h4 h5 h6 h1 h2 n wn t tc sc uw c1 c2 s ow hf tf)) sx.heap sx.heap [] := va_S.rf
  have hl : lv_has ls 5 [(0, .ref h0), (1, .int (nI lo)), (2, .int (nI hi - 1))] := hl
  refine lv_aload_n hx hb dX1_turnsUntilCertainFrom_0 rfl (lv_at hl 0 rfl) ?_
  refine va_get (D := (dC, dI)) (ci := 1) (v := .ref h2) (C := RX1) (T := TX1) (N := 10) hx hb hts inX1 hown hK hP 0 rfl rfl 1 (by decide) (hts _ q_fl_X1_16) (fun _ h9 => h9) rfl dX1_turnsUntilCertainFrom_1 ?_
  refine lv_aload_n hx hb dX1_turnsUntilCertainFrom_4 rfl (lv_at hl 0 rfl) ?_
  refine va_get (D := (dC, dI)) (ci := 1) (v := .ref h1) (C := RX1) (T := TX1) (N := 10) hx hb hts inX1 hown hK hP 0 rfl rfl 0 (by decide) (hts _ q_fl_X1_10) (fun _ h9 => h9) rfl dX1_turnsUntilCertainFrom_5 ?_
  refine call_Vv (As := [.ref h1]) (wr := [(h0, .inr (1, [.ref h1, .ref h2, .ref h3, .ref h4, .int (nI n), .int (nI wn), .int (nI t), .int (nI tc), .int (nI sc), .int (bI uw)])), (h3, .inl (cI, 5, .inl (fun k => nI (s k)))), (h4, .inl (cI, 1024, .inl (fun k => nI (ow k))))]) (rest := []) S (m_X0_copyFrom h2 h6 c2 tf h1 h5 c1 hf hc1) g_X1_X0_copyFrom hd_X0_copyFrom ⟨Nat.le_of_ble_eq_true rfl, Nat.le_of_ble_eq_true rfl⟩ ⟨Nat.zero_le _, Nat.zero_le _⟩ hP hD hK hS hZ [2, 6, 1, 5] [0, 3, 4] rfl rfl (by decide) 0 rfl rfl hl.1 rfl (Nat.le_of_ble_eq_true rfl) dX1_turnsUntilCertainFrom_8 (fun u H locs hq hP hD hS => ?_)
  obtain ⟨nf, rfl, hnf⟩ := hq
  have hP := hP.sub (ws' := gW cI h0 h1 h2 h3 h4 h5 h6 h1 h2 n wn t tc sc uw c1 c1 s ow hf nf) [0, 5, 3, 1, 2, 6, 4] rfl
  have hD := hD.sub (ws' := gW cI h0 h1 h2 h3 h4 h5 h6 h1 h2 n wn t tc sc uw c1 c1 s ow hf nf) [0, 5, 3, 1, 2, 6, 4] (by decide) rfl
  refine lv_aload_n hx hb dX1_turnsUntilCertainFrom_11 rfl (lv_at hl 0 rfl) ?_
  refine va_get (D := (dC, dI)) (ci := 1) (v := .int (nI t)) (C := RX1) (T := TX1) (N := 10) hx hb hts inX1 hown hK hP 0 rfl rfl 6 (by decide) (hts _ q_fl_X1_33) (fun _ h9 => h9) rfl dX1_turnsUntilCertainFrom_12 ?_
  refine lv_istore_n (lv' := [(3, .int (nI t)), (0, .ref h0), (1, .int (nI lo)), (2, .int (nI hi - 1))]) hx hb dX1_turnsUntilCertainFrom_15 rfl hl (by decide) rfl (fun ls hl => ?_)
  refine lv_iconst (v := nI 0) hx hb dX1_turnsUntilCertainFrom_16 (by decide) ?_
  refine lv_istore (lv' := [(4, .int (nI 0)), (3, .int (nI t)), (0, .ref h0), (1, .int (nI lo)), (2, .int (nI hi - 1))]) hx hb dX1_turnsUntilCertainFrom_17 hl (by decide) rfl (fun ls hl => ?_)
  have lp19 : ∀ (kf : Nat) (i : Nat) (q : Nat) (k : Nat) (og : Nat → Nat) (g : Nat → Nat), 40 < i + kf → (i ≤ 40) → (q < 5) → (k ≤ 243) → (∀ j, j < k → g j < 1024) → (untilL n wn s lo hi 40 (Lof hf c1) t = (untilL n wn s lo hi (40 - i) (Lof g k) q).map (· + i)) → ∀ (H : Heap) (locs : List Loc), va_P (dC, dI) vwCl (gW cI h0 h1 h2 h3 h4 h5 h6 h1 h2 n wn t tc sc uw c1 k s og hf g) H → va_D (wIn (gW cI h0 h1 h2 h3 h4 h5 h6 h1 h2 n wn t tc sc uw c1 c2 s ow hf tf)) (gW cI h0 h1 h2 h3 h4 h5 h6 h1 h2 n wn t tc sc uw c1 k s og hf g) → va_S (wIn (gW cI h0 h1 h2 h3 h4 h5 h6 h1 h2 n wn t tc sc uw c1 c2 s ow hf tf)) sx.heap H locs → ∀ ls : Array Slot, lv_has ls 5 [(4, .int (nI i)), (3, .int (nI q)), (0, .ref h0), (1, .int (nI lo)), (2, .int (nI hi - 1))] → W pr l ev (rmB 5 117) sx mi ag bl me cd H locs 0 0 Q (F0 mi 19 ls []) := by
    intro kf
    induction kf with
    | zero => intro i q k og g hkf hi40 hp5 hk1 hbk hv; exact absurd hkf (by omega)
    | succ kf ih19 =>
      intro i q k og g hkf hi40 hp5 hk1 hbk hv H locs hP hD hS ls hl
      refine lv_iload hx hb dX1_turnsUntilCertainFrom_19 (lv_at hl 0 rfl) ?_
      refine lv_bipush (v := nI 40) hx hb dX1_turnsUntilCertainFrom_21 (by decide) ?_
      refine icN_ge (tgt := 64) hx hb dX1_turnsUntilCertainFrom_23 (by decide) (by omega) (by omega) (fun c_23 => ?_) (fun c_23 => ?_)
      · refine lv_aload_n hx hb dX1_turnsUntilCertainFrom_64 rfl (lv_at hl 2 rfl) ?_
        refine lv_aload_n hx hb dX1_turnsUntilCertainFrom_65 rfl (lv_at hl 2 rfl) ?_
        refine va_get (D := (dC, dI)) (ci := 1) (v := .ref h2) (C := RX1) (T := TX1) (N := 10) hx hb hts inX1 hown hK hP 0 rfl rfl 1 (by decide) (hts _ q_fl_X1_16) (fun _ h9 => h9) rfl dX1_turnsUntilCertainFrom_66 ?_
        refine lv_iload_n hx hb dX1_turnsUntilCertainFrom_69 rfl (lv_at hl 3 rfl) ?_
        refine lv_iload_n hx hb dX1_turnsUntilCertainFrom_70 rfl (lv_at hl 4 rfl) ?_
        refine call_Vp (As := [.ref h2, .int (nI lo), .int (nI hi - 1)]) (rest := []) S (m_X1_areCertainBy h0 h2 h1 h3 h4 h6 h5 h1 h2 n wn t tc sc uw k c1 s og g hf lo hi hhi hlo hw hk1 hbk) g_X1_X1_areCertainBy hd_X1_areCertainBy ⟨Nat.le_of_ble_eq_true rfl, Nat.le_of_ble_eq_true rfl⟩ ⟨Nat.zero_le _, Nat.zero_le _⟩ hP hD hK hS hZ [0, 2, 1, 3, 4, 6, 5] rfl (by decide) 0 rfl rfl hl.1 rfl (Nat.le_of_ble_eq_true rfl) dX1_turnsUntilCertainFrom_71 (fun r H locs hq hP hS => ?_)
        obtain rfl := hq
        refine ifB_eq (tgt := 82) hx hb dX1_turnsUntilCertainFrom_74 (by decide) (fun c_74 => ?_) (fun c_74 => ?_)
        · refine lv_iconst (v := (-1)) hx hb dX1_turnsUntilCertainFrom_82 (by decide) ?_
          exact ret _ (gW cI h0 h1 h2 h3 h4 h5 h6 h1 h2 n wn t tc sc uw c1 k s og hf g) _ _ _ _ dX1_turnsUntilCertainFrom_83 rfl ⟨by rw [until_n hv (by omega) c_74]; rfl, k, og, g, rfl⟩ (List.Perm.refl _) hP hS
        · refine lv_bipush (v := nI 40) hx hb dX1_turnsUntilCertainFrom_77 (by decide) ?_
          refine lv_goto (tgt := 83) hx hb dX1_turnsUntilCertainFrom_79 (by decide) ?_
          exact ret _ (gW cI h0 h1 h2 h3 h4 h5 h6 h1 h2 n wn t tc sc uw c1 k s og hf g) _ _ _ _ dX1_turnsUntilCertainFrom_83 rfl ⟨by rw [until_e hv c_74, show i = 40 by omega]; rfl, k, og, g, rfl⟩ (List.Perm.refl _) hP hS
      · refine lv_aload_n hx hb dX1_turnsUntilCertainFrom_26 rfl (lv_at hl 2 rfl) ?_
        refine lv_aload_n hx hb dX1_turnsUntilCertainFrom_27 rfl (lv_at hl 2 rfl) ?_
        refine va_get (D := (dC, dI)) (ci := 1) (v := .ref h2) (C := RX1) (T := TX1) (N := 10) hx hb hts inX1 hown hK hP 0 rfl rfl 1 (by decide) (hts _ q_fl_X1_16) (fun _ h9 => h9) rfl dX1_turnsUntilCertainFrom_28 ?_
        refine lv_iload_n hx hb dX1_turnsUntilCertainFrom_31 rfl (lv_at hl 3 rfl) ?_
        refine lv_iload_n hx hb dX1_turnsUntilCertainFrom_32 rfl (lv_at hl 4 rfl) ?_
        refine call_Vp (As := [.ref h2, .int (nI lo), .int (nI hi - 1)]) (rest := []) S (m_X1_areCertainBy h0 h2 h1 h3 h4 h6 h5 h1 h2 n wn t tc sc uw k c1 s og g hf lo hi hhi hlo hw hk1 hbk) g_X1_X1_areCertainBy hd_X1_areCertainBy ⟨Nat.le_of_ble_eq_true rfl, Nat.le_of_ble_eq_true rfl⟩ ⟨Nat.zero_le _, Nat.zero_le _⟩ hP hD hK hS hZ [0, 2, 1, 3, 4, 6, 5] rfl (by decide) 0 rfl rfl hl.1 rfl (Nat.le_of_ble_eq_true rfl) dX1_turnsUntilCertainFrom_33 (fun r H locs hq hP hS => ?_)
        obtain rfl := hq
        refine ifB_eq (tgt := 42) hx hb dX1_turnsUntilCertainFrom_36 (by decide) (fun c_36 => ?_) (fun c_36 => ?_)
        · refine lv_aload_n hx hb dX1_turnsUntilCertainFrom_42 rfl (lv_at hl 2 rfl) ?_
          refine lv_aload_n hx hb dX1_turnsUntilCertainFrom_43 rfl (lv_at hl 2 rfl) ?_
          refine va_get (D := (dC, dI)) (ci := 1) (v := .ref h2) (C := RX1) (T := TX1) (N := 10) hx hb hts inX1 hown hK hP 0 rfl rfl 1 (by decide) (hts _ q_fl_X1_16) (fun _ h9 => h9) rfl dX1_turnsUntilCertainFrom_44 ?_
          refine lv_iload_n hx hb dX1_turnsUntilCertainFrom_47 rfl (lv_at hl 1 rfl) ?_
          refine call_Vi (As := [.ref h2, .int (nI q)]) (wr := []) (rest := []) S (m_X1_passTurn h0 h2 h1 h3 h4 h6 h5 h1 h2 n wn t tc sc uw k c1 s og g hf q hp5 hw hk1 hbk) g_X1_X1_passTurn hd_X1_passTurn ⟨Nat.le_of_ble_eq_true rfl, Nat.le_of_ble_eq_true rfl⟩ ⟨Nat.zero_le _, Nat.zero_le _⟩ hP hD hK hS hZ [0, 2, 1, 3, 4, 6, 5] [] rfl rfl (by decide) 0 rfl rfl hl.1 rfl (Nat.le_of_ble_eq_true rfl) dX1_turnsUntilCertainFrom_48 (fun r u H locs hq hP hD hS => ?_)
          obtain ⟨rfl, k6, og6, g6, rfl, hL6⟩ := hq
          have hP := hP.sub (ws' := gW cI h0 h1 h2 h3 h4 h5 h6 h1 h2 n wn t tc sc uw c1 k6 s og6 hf g6) [0, 2, 1, 3, 4, 6, 5] rfl
          have hD := hD.sub (ws' := gW cI h0 h1 h2 h3 h4 h5 h6 h1 h2 n wn t tc sc uw c1 k6 s og6 hf g6) [0, 2, 1, 3, 4, 6, 5] (by decide) rfl
          refine lv_pop hx hb dX1_turnsUntilCertainFrom_51 rfl ?_
          refine lv_aload_n hx hb dX1_turnsUntilCertainFrom_52 rfl (lv_at hl 2 rfl) ?_
          refine lv_iload_n hx hb dX1_turnsUntilCertainFrom_53 rfl (lv_at hl 1 rfl) ?_
          refine call_Vp (As := [.int (nI q)]) (rest := []) S (m_X1_playerAfter h0 h1 h2 h3 h4 h5 h6 h1 h2 n wn t tc sc uw c1 k6 s og6 hf g6 q hn hp5) g_X1_X1_playerAfter hd_X1_playerAfter ⟨Nat.le_of_ble_eq_true rfl, Nat.le_of_ble_eq_true rfl⟩ ⟨Nat.zero_le _, Nat.zero_le _⟩ hP hD hK hS hZ [0, 1, 2, 3, 4, 5, 6] rfl (by decide) 0 rfl rfl hl.1 rfl (Nat.le_of_ble_eq_true rfl) dX1_turnsUntilCertainFrom_54 (fun r H locs hq hP hS => ?_)
          obtain rfl := hq
          refine lv_istore_n (lv' := [(3, .int (nI (aftN n q))), (4, .int (nI i)), (0, .ref h0), (1, .int (nI lo)), (2, .int (nI hi - 1))]) hx hb dX1_turnsUntilCertainFrom_57 rfl hl (by decide) rfl (fun ls hl => ?_)
          refine lv_iinc (v := nI (i + 1)) (lv' := [(4, .int (nI (i + 1))), (3, .int (nI (aftN n q))), (0, .ref h0), (1, .int (nI lo)), (2, .int (nI hi - 1))]) hx hb dX1_turnsUntilCertainFrom_58 hl (k := 1) rfl (nI_add _ _) (by decide) rfl (fun ls hl => ?_)
          refine lv_goto (tgt := 19) hx hb dX1_turnsUntilCertainFrom_61 (by decide) ?_
          exact ih19 (i + 1) _ _ _ _ (by omega) (by omega) (aft_lt hp5 hn) (by have := (turn_bd hL6 hbk).1; omega) (turn_bd hL6 hbk).2 (by rw [hL6]; exact until_s (by rw [show 40 - (i + 1) + 1 = 40 - i by omega]; exact hv) c_36) _ _ hP hD hS _ (lv_sub hl [0, 1, 2, 3, 4] rfl)
        · refine lv_iload hx hb dX1_turnsUntilCertainFrom_39 (lv_at hl 0 rfl) ?_
          exact ret _ (gW cI h0 h1 h2 h3 h4 h5 h6 h1 h2 n wn t tc sc uw c1 k s og hf g) _ _ _ _ dX1_turnsUntilCertainFrom_41 rfl ⟨by rw [until_e hv c_36]; rfl, k, og, g, rfl⟩ (List.Perm.refl _) hP hS
  exact lp19 41 0 t c1 ow nf (by omega) (by omega) ht hc1 (fun j hj => by rw [hnf j hj]; exact hb1 j hj) (by rw [Lof_congr hnf]; simp) _ _ hP hD hS _ (lv_sub hl [0, 1, 2, 3, 4] rfl)

theorem oc_s {f g : Nat → Nat} {p cl i k b v : Nat} (h : Lof g k = ocL p (Lof f b) cl ++ addL p (cl + 1) (Lof f i)) (hv : v = f i ||| (cl + 1) * 2 ^ (p * 2)) : Lof (upN g k v) (k + 1) = ocL p (Lof f b) cl ++ addL p (cl + 1) (Lof f (i + 1)) := by
  rw [Lof_s, Lof_up, upN_s, h, Lof_s, addL, addL, List.map_append, hv]; simp
theorem oc_0 {f g : Nat → Nat} {p cl k b : Nat} (h : Lof g k = ocL p (Lof f b) cl) : Lof g k = ocL p (Lof f b) cl ++ addL p (cl + 1) (Lof f 0) := by
  rw [h]; simp [addL, Lof]
set_option maxHeartbeats 4000000 in
set_option maxRecDepth 100000 in
theorem m_X1_openColoursOf (h0 h1 h2 h3 h4 h5 h6 p2 n wn t tc sc : Nat) (uw : Bool) (c1 c2 : Nat) (s ow hf tf : Nat → Nat) (j : Nat) (hj : j < 5) (hc1 : c1 ≤ 81) : Mv l yX1_openColoursOf ws_X1_openColoursOf 1 21 (dC, dI) (tyL cI cZ cJ) [.ref h0, .int (nI j)] (gW cI h0 h1 h2 h3 h4 h5 h6 h1 p2 n wn t tc sc uw c1 c2 s ow hf tf) (fun u => ∃ g : Nat → Nat, u = gW cI h0 h1 h2 h3 h4 h5 h6 h1 p2 n wn t tc sc uw (3 * c1) c2 s ow g tf ∧ Lof g (3 * c1) = ocL j (Lof hf c1) 2) := by
  refine Mv_of (by decide +kernel) (Nat.le_of_ble_eq_true rfl) ?_
  intro pr ev sx mi ag bl me cd Q ls S hP hK hD hZ hl ret
  obtain ⟨hx, hb, hml, hown, hts⟩ := id S
  have hown : sx.vm.findClass RX1 = some mi.cls := hown
  have hS : va_S (wIn (gW cI h0 h1 h2 h3 h4 h5 h6 h1 p2 n wn t tc sc uw c1 c2 s ow hf tf)) sx.heap sx.heap [] := va_S.rf
  have hl : lv_has ls 5 [(0, .ref h0), (1, .int (nI j))] := hl
  refine lv_aload_n hx hb dX1_openColoursOf_0 rfl (lv_at hl 0 rfl) ?_
  refine va_get (D := (dC, dI)) (ci := 1) (v := .ref h1) (C := RX1) (T := TX1) (N := 10) hx hb hts inX1 hown hK hP 0 rfl rfl 0 (by decide) (hts _ q_fl_X1_10) (fun _ h9 => h9) rfl dX1_openColoursOf_1 ?_
  refine call_Vp (As := []) (rest := []) S (m_X0_count h1 h5 c1 hf) g_X1_X0_count hd_X0_count ⟨Nat.le_of_ble_eq_true rfl, Nat.le_of_ble_eq_true rfl⟩ ⟨Nat.zero_le _, Nat.zero_le _⟩ hP hD hK hS hZ [1, 5] rfl (by decide) 0 rfl rfl hl.1 rfl (Nat.le_of_ble_eq_true rfl) dX1_openColoursOf_4 (fun r H locs hq hP hS => ?_)
  obtain rfl := hq
  refine lv_istore_n (lv' := [(2, .int (nI c1)), (0, .ref h0), (1, .int (nI j))]) hx hb dX1_openColoursOf_7 rfl hl (by decide) rfl (fun ls hl => ?_)
  refine lv_iconst (v := nI 1) hx hb dX1_openColoursOf_8 (by decide) ?_
  refine lv_istore_n (lv' := [(3, .int (nI 1)), (2, .int (nI c1)), (0, .ref h0), (1, .int (nI j))]) hx hb dX1_openColoursOf_9 rfl hl (by decide) rfl (fun ls hl => ?_)
  have lp10 : ∀ (kf : Nat) (cl : Nat) (k : Nat) (g : Nat → Nat), 3 < cl + kf → (cl ≤ 2) → ((cl = 0 ∧ k = c1) ∨ (cl = 1 ∧ k = 2 * c1) ∨ (cl = 2 ∧ k = 3 * c1)) → (∀ j, j < c1 → g j = hf j) → (Lof g k = ocL j (Lof hf c1) cl) → ∀ (H : Heap) (locs : List Loc), va_P (dC, dI) vwCl (gW cI h0 h1 h2 h3 h4 h5 h6 h1 p2 n wn t tc sc uw k c2 s ow g tf) H → va_D (wIn (gW cI h0 h1 h2 h3 h4 h5 h6 h1 p2 n wn t tc sc uw c1 c2 s ow hf tf)) (gW cI h0 h1 h2 h3 h4 h5 h6 h1 p2 n wn t tc sc uw k c2 s ow g tf) → va_S (wIn (gW cI h0 h1 h2 h3 h4 h5 h6 h1 p2 n wn t tc sc uw c1 c2 s ow hf tf)) sx.heap H locs → ∀ ls : Array Slot, lv_has ls 5 [(3, .int (nI (cl + 1))), (2, .int (nI c1)), (0, .ref h0), (1, .int (nI j))] → W pr l ev (rmB 1 21) sx mi ag bl me cd H locs 0 0 Q (F0 mi 10 ls []) := by
    intro kf
    induction kf with
    | zero => intro cl k g hkf hcl hk hg hL; exact absurd hkf (by omega)
    | succ kf ih10 =>
      intro cl k g hkf hcl hk hg hL H locs hP hD hS ls hl
      refine lv_iload_n hx hb dX1_openColoursOf_10 rfl (lv_at hl 0 rfl) ?_
      refine lv_iconst (v := nI 3) hx hb dX1_openColoursOf_11 (by decide) ?_
      refine icN_ge (tgt := 59) hx hb dX1_openColoursOf_12 (by decide) (by omega) (by omega) (fun c_12 => ?_) (fun c_12 => ?_)
      · exact ret (gW cI h0 h1 h2 h3 h4 h5 h6 h1 p2 n wn t tc sc uw k c2 s ow g tf) _ _ _ _ dX1_openColoursOf_59 ⟨g, by rw [show k = 3 * c1 by omega], by rw [← show k = 3 * c1 by omega, hL, show cl = 2 by omega]⟩ (List.Perm.refl _) hP hS
      · refine lv_iconst (v := nI 0) hx hb dX1_openColoursOf_15 (by decide) ?_
        refine lv_istore (lv' := [(4, .int (nI 0)), (3, .int (nI (cl + 1))), (2, .int (nI c1)), (0, .ref h0), (1, .int (nI j))]) hx hb dX1_openColoursOf_16 hl (by decide) rfl (fun ls hl => ?_)
        have lp18 : ∀ (kf : Nat) (i : Nat) (k2 : Nat) (g2 : Nat → Nat), c1 < i + kf → (i ≤ c1) → (k2 = k + i) → (∀ j, j < c1 → g2 j = hf j) → (Lof g2 k2 = ocL j (Lof hf c1) cl ++ addL j (cl + 1) (Lof hf i)) → ∀ (H : Heap) (locs : List Loc), va_P (dC, dI) vwCl (gW cI h0 h1 h2 h3 h4 h5 h6 h1 p2 n wn t tc sc uw k2 c2 s ow g2 tf) H → va_D (wIn (gW cI h0 h1 h2 h3 h4 h5 h6 h1 p2 n wn t tc sc uw c1 c2 s ow hf tf)) (gW cI h0 h1 h2 h3 h4 h5 h6 h1 p2 n wn t tc sc uw k2 c2 s ow g2 tf) → va_S (wIn (gW cI h0 h1 h2 h3 h4 h5 h6 h1 p2 n wn t tc sc uw c1 c2 s ow hf tf)) sx.heap H locs → ∀ ls : Array Slot, lv_has ls 5 [(4, .int (nI i)), (3, .int (nI (cl + 1))), (2, .int (nI c1)), (0, .ref h0), (1, .int (nI j))] → W pr l ev (rmB 1 21) sx mi ag bl me cd H locs 0 0 Q (F0 mi 18 ls []) := by
          intro kf
          induction kf with
          | zero => intro i k2 g2 hkf hi hk2 hg2 hL2; exact absurd hkf (by omega)
          | succ kf ih18 =>
            intro i k2 g2 hkf hi hk2 hg2 hL2 H locs hP hD hS ls hl
            refine lv_iload hx hb dX1_openColoursOf_18 (lv_at hl 0 rfl) ?_
            refine lv_iload_n hx hb dX1_openColoursOf_20 rfl (lv_at hl 2 rfl) ?_
            refine icN_ge (tgt := 53) hx hb dX1_openColoursOf_21 (by decide) (by omega) (by omega) (fun c_21 => ?_) (fun c_21 => ?_)
            · refine lv_iinc (v := nI (cl + 1 + 1)) (lv' := [(3, .int (nI (cl + 1 + 1))), (4, .int (nI i)), (2, .int (nI c1)), (0, .ref h0), (1, .int (nI j))]) hx hb dX1_openColoursOf_53 hl (k := 1) rfl (nI_add _ _) (by decide) rfl (fun ls hl => ?_)
              refine lv_goto (tgt := 10) hx hb dX1_openColoursOf_56 (by decide) ?_
              exact ih10 (cl + 1) _ _ (by omega) (by omega) (by omega) hg2 (by rw [hL2, show i = c1 by omega]; rfl) _ _ hP hD hS _ (lv_sub hl [0, 2, 3, 4] rfl)
            · refine lv_aload_n hx hb dX1_openColoursOf_24 rfl (lv_at hl 3 rfl) ?_
              refine va_get (D := (dC, dI)) (ci := 1) (v := .ref h1) (C := RX1) (T := TX1) (N := 10) hx hb hts inX1 hown hK hP 0 rfl rfl 0 (by decide) (hts _ q_fl_X1_10) (fun _ h9 => h9) rfl dX1_openColoursOf_25 ?_
              refine lv_aload_n hx hb dX1_openColoursOf_28 rfl (lv_at hl 3 rfl) ?_
              refine va_get (D := (dC, dI)) (ci := 1) (v := .ref h1) (C := RX1) (T := TX1) (N := 10) hx hb hts inX1 hown hK hP 0 rfl rfl 0 (by decide) (hts _ q_fl_X1_10) (fun _ h9 => h9) rfl dX1_openColoursOf_29 ?_
              refine lv_iload hx hb dX1_openColoursOf_32 (lv_at hl 0 rfl) ?_
              refine call_Vp (As := [.int (nI i)]) (rest := [.ref h1]) S (m_X0_at h1 h5 k2 g2 i (by omega)) g_X1_X0_at hd_X0_at ⟨Nat.le_of_ble_eq_true rfl, Nat.le_of_ble_eq_true rfl⟩ ⟨Nat.zero_le _, Nat.zero_le _⟩ hP hD hK hS hZ [1, 5] rfl (by decide) 0 rfl rfl hl.1 rfl (Nat.le_of_ble_eq_true rfl) dX1_openColoursOf_34 (fun r H locs hq hP hS => ?_)
              obtain rfl := hq
              refine lv_iload_n hx hb dX1_openColoursOf_37 rfl (lv_at hl 1 rfl) ?_
              refine lv_iload_n hx hb dX1_openColoursOf_38 rfl (lv_at hl 4 rfl) ?_
              refine call_Sp (As := [.int (nI j)]) (rest := [.int (nI (cl + 1)), .int (nI (g2 i)), .ref h1]) S (m_X1_shiftOf j ) g_X1_X1_shiftOf hd_X1_shiftOf ⟨Nat.le_of_ble_eq_true rfl, Nat.le_of_ble_eq_true rfl⟩ ⟨Nat.zero_le _, Nat.zero_le _⟩ hP hD hK hS hZ [] rfl (by decide) hl.1 rfl (Nat.le_of_ble_eq_true rfl) dX1_openColoursOf_39 (fun r H locs hq hP hS => ?_)
              obtain rfl := hq
              refine lv_ishl hx hb dX1_openColoursOf_42 ?_
              refine W_i (y := nI ((cl + 1) * 2 ^ (j * 2))) (nI_shl _ (by omega)) ?_
              refine lv_ior hx hb dX1_openColoursOf_43 ?_
              refine W_i (y := nI ((g2 i) ||| ((cl + 1) * 2 ^ (j * 2)))) (nI_or _ _) ?_
              refine call_Vv (As := [.int (nI ((g2 i) ||| ((cl + 1) * 2 ^ (j * 2))))]) (wr := [(h0, .inr (1, [.ref h1, .ref p2, .ref h3, .ref h4, .int (nI n), .int (nI wn), .int (nI t), .int (nI tc), .int (nI sc), .int (bI uw)])), (h2, .inr (0, [.ref h6, .int (nI c2)])), (h3, .inl (cI, 5, .inl (fun k => nI (s k)))), (h4, .inl (cI, 1024, .inl (fun k => nI (ow k)))), (h6, .inl (cI, 243, .inl (fun k => nI (tf k))))]) (rest := []) S (m_X0_add h1 h5 k2 g2 ((g2 i) ||| ((cl + 1) * 2 ^ (j * 2))) (by omega)) g_X1_X0_add hd_X0_add ⟨Nat.le_of_ble_eq_true rfl, Nat.le_of_ble_eq_true rfl⟩ ⟨Nat.zero_le _, Nat.zero_le _⟩ hP hD hK hS hZ [1, 5] [0, 2, 3, 4, 6] rfl rfl (by decide) 0 rfl rfl hl.1 rfl (Nat.le_of_ble_eq_true rfl) dX1_openColoursOf_44 (fun u H locs hq hP hD hS => ?_)
              obtain rfl := hq
              have hP := hP.sub (ws' := gW cI h0 h1 h2 h3 h4 h5 h6 h1 p2 n wn t tc sc uw (k2 + 1) c2 s ow (upN g2 k2 ((g2 i) ||| ((cl + 1) * 2 ^ (j * 2)))) tf) [0, 5, 1, 2, 3, 6, 4] rfl
              have hD := hD.sub (ws' := gW cI h0 h1 h2 h3 h4 h5 h6 h1 p2 n wn t tc sc uw (k2 + 1) c2 s ow (upN g2 k2 ((g2 i) ||| ((cl + 1) * 2 ^ (j * 2)))) tf) [0, 5, 1, 2, 3, 6, 4] (by decide) rfl
              refine lv_iinc (v := nI (i + 1)) (lv' := [(4, .int (nI (i + 1))), (3, .int (nI (cl + 1))), (2, .int (nI c1)), (0, .ref h0), (1, .int (nI j))]) hx hb dX1_openColoursOf_47 hl (k := 0) rfl (nI_add _ _) (by decide) rfl (fun ls hl => ?_)
              refine lv_goto (tgt := 18) hx hb dX1_openColoursOf_50 (by decide) ?_
              exact ih18 (i + 1) _ _ (by omega) (by omega) (by omega) (fun j hj => by rw [upN_n _ _ (by omega)]; exact hg2 j hj) (oc_s hL2 (by rw [hg2 i (by omega)])) _ _ hP hD hS _ (lv_sub hl [0, 1, 2, 3, 4] rfl)
        exact lp18 (c1 + 1) 0 k g (by omega) (by omega) (by omega) hg (oc_0 hL) _ _ hP hD hS _ (lv_sub hl [0, 1, 2, 3, 4] rfl)
  exact lp10 4 0 c1 hf (by omega) (by omega) (by omega) (fun _ _ => rfl) rfl _ _ hP hD hS _ (lv_sub hl [0, 1, 2, 3] rfl)

end
end
