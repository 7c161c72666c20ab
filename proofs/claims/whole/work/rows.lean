section
-- ===== PART A: goes FIRST, ahead of the names: the tables' words, and 'selects' of the private methods out of them =====
/-- a private method of a class that the tables say can be made, by its rows of tables_1 -/
def lw_okq (q : MethodName × Nat) : Prop := (q.1.cls ≠ "java/lang/invoke/MethodHandle" ∧ q.1.cls ≠ "java/lang/invoke/VarHandle") ∧ Cond.instantiable q.1.cls q.2 ∈ tables_1 ∧ Cond.privateMethod q.1 ∈ tables_1 ∧ Cond.instanceMethod q.1 ∈ tables_1
theorem lw_p0 : lw_okq (⟨"TrayTurns$Reader", "nextToken", "()V"⟩, 7) := ⟨⟨by decide +kernel, by decide +kernel⟩, List.mem_of_getElem? (i := 27) (by decide +kernel), List.mem_of_getElem? (i := 319) (by decide +kernel), List.mem_of_getElem? (i := 320) (by decide +kernel)⟩
theorem lw_p1 : lw_okq (⟨"TrayTurns$Reader", "nextWord", "()V"⟩, 7) := ⟨⟨by decide +kernel, by decide +kernel⟩, List.mem_of_getElem? (i := 27) (by decide +kernel), List.mem_of_getElem? (i := 326) (by decide +kernel), List.mem_of_getElem? (i := 327) (by decide +kernel)⟩
theorem lw_p2 : lw_okq (⟨"TrayTurns$Reader", "nextNumber", "()V"⟩, 7) := ⟨⟨by decide +kernel, by decide +kernel⟩, List.mem_of_getElem? (i := 27) (by decide +kernel), List.mem_of_getElem? (i := 333) (by decide +kernel), List.mem_of_getElem? (i := 334) (by decide +kernel)⟩
theorem lw_p3 : lw_okq (⟨"TrayTurns$Reader", "readItem", "(Z)Z"⟩, 7) := ⟨⟨by decide +kernel, by decide +kernel⟩, List.mem_of_getElem? (i := 27) (by decide +kernel), List.mem_of_getElem? (i := 340) (by decide +kernel), List.mem_of_getElem? (i := 341) (by decide +kernel)⟩
theorem lw_p4 : lw_okq (⟨"TrayTurns$Reader", "isWord", "(C)Z"⟩, 7) := ⟨⟨by decide +kernel, by decide +kernel⟩, List.mem_of_getElem? (i := 27) (by decide +kernel), List.mem_of_getElem? (i := 344) (by decide +kernel), List.mem_of_getElem? (i := 345) (by decide +kernel)⟩
theorem lw_p5 : lw_okq (⟨"TrayTurns$Reader", "readSeats", "()Z"⟩, 7) := ⟨⟨by decide +kernel, by decide +kernel⟩, List.mem_of_getElem? (i := 27) (by decide +kernel), List.mem_of_getElem? (i := 348) (by decide +kernel), List.mem_of_getElem? (i := 349) (by decide +kernel)⟩
theorem lw_p6 : lw_okq (⟨"TrayTurns$Reader", "readNumber", "(II)Z"⟩, 7) := ⟨⟨by decide +kernel, by decide +kernel⟩, List.mem_of_getElem? (i := 27) (by decide +kernel), List.mem_of_getElem? (i := 352) (by decide +kernel), List.mem_of_getElem? (i := 353) (by decide +kernel)⟩
theorem lw_p7 : lw_okq (⟨"TrayTurns$Reader", "readClose", "()Z"⟩, 7) := ⟨⟨by decide +kernel, by decide +kernel⟩, List.mem_of_getElem? (i := 27) (by decide +kernel), List.mem_of_getElem? (i := 356) (by decide +kernel), List.mem_of_getElem? (i := 357) (by decide +kernel)⟩
theorem lw_p8 : lw_okq (⟨"TrayTurns$Reader", "readGuest", "()Z"⟩, 7) := ⟨⟨by decide +kernel, by decide +kernel⟩, List.mem_of_getElem? (i := 27) (by decide +kernel), List.mem_of_getElem? (i := 360) (by decide +kernel), List.mem_of_getElem? (i := 361) (by decide +kernel)⟩
theorem lw_p9 : lw_okq (⟨"TrayTurns$Reader", "isAmong", "([II)Z"⟩, 7) := ⟨⟨by decide +kernel, by decide +kernel⟩, List.mem_of_getElem? (i := 27) (by decide +kernel), List.mem_of_getElem? (i := 364) (by decide +kernel), List.mem_of_getElem? (i := 365) (by decide +kernel)⟩
theorem lw_p10 : lw_okq (⟨"TrayTurns$Reader", "readRow", "()Z"⟩, 7) := ⟨⟨by decide +kernel, by decide +kernel⟩, List.mem_of_getElem? (i := 27) (by decide +kernel), List.mem_of_getElem? (i := 368) (by decide +kernel), List.mem_of_getElem? (i := 369) (by decide +kernel)⟩
theorem lw_p11 : lw_okq (⟨"TrayTurns$Reader", "readDish", "()Z"⟩, 7) := ⟨⟨by decide +kernel, by decide +kernel⟩, List.mem_of_getElem? (i := 27) (by decide +kernel), List.mem_of_getElem? (i := 372) (by decide +kernel), List.mem_of_getElem? (i := 373) (by decide +kernel)⟩
theorem lw_p12 : lw_okq (⟨"TrayTurns", "isGuest", "(I)Z"⟩, 16) := ⟨⟨by decide +kernel, by decide +kernel⟩, List.mem_of_getElem? (i := 19) (by decide +kernel), List.mem_of_getElem? (i := 391) (by decide +kernel), List.mem_of_getElem? (i := 392) (by decide +kernel)⟩
theorem lw_p13 : lw_okq (⟨"TrayTurns$Party", "gap", "(LTrayTurns$Now;III)I"⟩, 8) := ⟨⟨by decide +kernel, by decide +kernel⟩, List.mem_of_getElem? (i := 33) (by decide +kernel), List.mem_of_getElem? (i := 407) (by decide +kernel), List.mem_of_getElem? (i := 408) (by decide +kernel)⟩
theorem lw_p14 : lw_okq (⟨"TrayTurns", "isDish", "(I)Z"⟩, 16) := ⟨⟨by decide +kernel, by decide +kernel⟩, List.mem_of_getElem? (i := 19) (by decide +kernel), List.mem_of_getElem? (i := 422) (by decide +kernel), List.mem_of_getElem? (i := 423) (by decide +kernel)⟩
theorem lw_p15 : lw_okq (⟨"TrayTurns", "allPortions", "()I"⟩, 16) := ⟨⟨by decide +kernel, by decide +kernel⟩, List.mem_of_getElem? (i := 19) (by decide +kernel), List.mem_of_getElem? (i := 438) (by decide +kernel), List.mem_of_getElem? (i := 439) (by decide +kernel)⟩
def lw_privs_1 : List (MethodName × Nat) := [(⟨"TrayTurns$Reader", "nextToken", "()V"⟩, 7), (⟨"TrayTurns$Reader", "nextWord", "()V"⟩, 7), (⟨"TrayTurns$Reader", "nextNumber", "()V"⟩, 7), (⟨"TrayTurns$Reader", "readItem", "(Z)Z"⟩, 7), (⟨"TrayTurns$Reader", "isWord", "(C)Z"⟩, 7), (⟨"TrayTurns$Reader", "readSeats", "()Z"⟩, 7), (⟨"TrayTurns$Reader", "readNumber", "(II)Z"⟩, 7), (⟨"TrayTurns$Reader", "readClose", "()Z"⟩, 7), (⟨"TrayTurns$Reader", "readGuest", "()Z"⟩, 7), (⟨"TrayTurns$Reader", "isAmong", "([II)Z"⟩, 7), (⟨"TrayTurns$Reader", "readRow", "()Z"⟩, 7), (⟨"TrayTurns$Reader", "readDish", "()Z"⟩, 7), (⟨"TrayTurns", "isGuest", "(I)Z"⟩, 16), (⟨"TrayTurns$Party", "gap", "(LTrayTurns$Now;III)I"⟩, 8), (⟨"TrayTurns", "isDish", "(I)Z"⟩, 16), (⟨"TrayTurns", "allPortions", "()I"⟩, 16)]
theorem lw_r1 : ∀ q ∈ lw_privs_1, lw_okq q := List.forall_mem_cons.mpr ⟨lw_p0, List.forall_mem_cons.mpr ⟨lw_p1, List.forall_mem_cons.mpr ⟨lw_p2, List.forall_mem_cons.mpr ⟨lw_p3, List.forall_mem_cons.mpr ⟨lw_p4, List.forall_mem_cons.mpr ⟨lw_p5, List.forall_mem_cons.mpr ⟨lw_p6, List.forall_mem_cons.mpr ⟨lw_p7, List.forall_mem_cons.mpr ⟨lw_p8, List.forall_mem_cons.mpr ⟨lw_p9, List.forall_mem_cons.mpr ⟨lw_p10, List.forall_mem_cons.mpr ⟨lw_p11, List.forall_mem_cons.mpr ⟨lw_p12, List.forall_mem_cons.mpr ⟨lw_p13, List.forall_mem_cons.mpr ⟨lw_p14, List.forall_mem_cons.mpr ⟨lw_p15, fun _ h => absurd h List.not_mem_nil⟩⟩⟩⟩⟩⟩⟩⟩⟩⟩⟩⟩⟩⟩⟩⟩
theorem lw_p16 : lw_okq (⟨"TrayTurns$Party", "hasEnough", "(LTrayTurns$Now;I)Z"⟩, 8) := ⟨⟨by decide +kernel, by decide +kernel⟩, List.mem_of_getElem? (i := 33) (by decide +kernel), List.mem_of_getElem? (i := 446) (by decide +kernel), List.mem_of_getElem? (i := 447) (by decide +kernel)⟩
theorem lw_p17 : lw_okq (⟨"TrayTurns$Party", "fillFurthest", "(LTrayTurns$Now;)V"⟩, 8) := ⟨⟨by decide +kernel, by decide +kernel⟩, List.mem_of_getElem? (i := 33) (by decide +kernel), List.mem_of_getElem? (i := 451) (by decide +kernel), List.mem_of_getElem? (i := 452) (by decide +kernel)⟩
theorem lw_p18 : lw_okq (⟨"TrayTurns", "swap", "()I"⟩, 16) := ⟨⟨by decide +kernel, by decide +kernel⟩, List.mem_of_getElem? (i := 19) (by decide +kernel), List.mem_of_getElem? (i := 466) (by decide +kernel), List.mem_of_getElem? (i := 467) (by decide +kernel)⟩
theorem lw_p19 : lw_okq (⟨"TrayTurns$Feast", "most", "(I)I"⟩, 5) := ⟨⟨by decide +kernel, by decide +kernel⟩, List.mem_of_getElem? (i := 142) (by decide +kernel), List.mem_of_getElem? (i := 480) (by decide +kernel), List.mem_of_getElem? (i := 481) (by decide +kernel)⟩
theorem lw_p20 : lw_okq (⟨"TrayTurns$Feast", "firstFor", "(II)I"⟩, 5) := ⟨⟨by decide +kernel, by decide +kernel⟩, List.mem_of_getElem? (i := 142) (by decide +kernel), List.mem_of_getElem? (i := 485) (by decide +kernel), List.mem_of_getElem? (i := 486) (by decide +kernel)⟩
theorem lw_p21 : lw_okq (⟨"TrayTurns", "remember", "()V"⟩, 16) := ⟨⟨by decide +kernel, by decide +kernel⟩, List.mem_of_getElem? (i := 19) (by decide +kernel), List.mem_of_getElem? (i := 496) (by decide +kernel), List.mem_of_getElem? (i := 497) (by decide +kernel)⟩
theorem lw_p22 : lw_okq (⟨"TrayTurns", "spill", "()I"⟩, 16) := ⟨⟨by decide +kernel, by decide +kernel⟩, List.mem_of_getElem? (i := 19) (by decide +kernel), List.mem_of_getElem? (i := 501) (by decide +kernel), List.mem_of_getElem? (i := 502) (by decide +kernel)⟩
theorem lw_p23 : lw_okq (⟨"TrayTurns", "isTurn", "(I)Z"⟩, 16) := ⟨⟨by decide +kernel, by decide +kernel⟩, List.mem_of_getElem? (i := 19) (by decide +kernel), List.mem_of_getElem? (i := 514) (by decide +kernel), List.mem_of_getElem? (i := 515) (by decide +kernel)⟩
theorem lw_p24 : lw_okq (⟨"TrayTurns", "isEmpty", "(I)Z"⟩, 16) := ⟨⟨by decide +kernel, by decide +kernel⟩, List.mem_of_getElem? (i := 19) (by decide +kernel), List.mem_of_getElem? (i := 518) (by decide +kernel), List.mem_of_getElem? (i := 519) (by decide +kernel)⟩
theorem lw_p25 : lw_okq (⟨"TrayTurns", "spreadChances", "(I)I"⟩, 16) := ⟨⟨by decide +kernel, by decide +kernel⟩, List.mem_of_getElem? (i := 19) (by decide +kernel), List.mem_of_getElem? (i := 548) (by decide +kernel), List.mem_of_getElem? (i := 549) (by decide +kernel)⟩
theorem lw_p26 : lw_okq (⟨"TrayTurns", "fitsAllSeen", "(I)Z"⟩, 16) := ⟨⟨by decide +kernel, by decide +kernel⟩, List.mem_of_getElem? (i := 19) (by decide +kernel), List.mem_of_getElem? (i := 565) (by decide +kernel), List.mem_of_getElem? (i := 566) (by decide +kernel)⟩
theorem lw_p27 : lw_okq (⟨"TrayTurns", "isImage", "(I)Z"⟩, 16) := ⟨⟨by decide +kernel, by decide +kernel⟩, List.mem_of_getElem? (i := 19) (by decide +kernel), List.mem_of_getElem? (i := 620) (by decide +kernel), List.mem_of_getElem? (i := 621) (by decide +kernel)⟩
theorem lw_p28 : lw_okq (⟨"TrayTurnsModel", "begins", "()V"⟩, 26) := ⟨⟨by decide +kernel, by decide +kernel⟩, List.mem_of_getElem? (i := 636) (by decide +kernel), List.mem_of_getElem? (i := 642) (by decide +kernel), List.mem_of_getElem? (i := 643) (by decide +kernel)⟩
theorem lw_p29 : lw_okq (⟨"TrayTurnsModel", "settles", "()V"⟩, 26) := ⟨⟨by decide +kernel, by decide +kernel⟩, List.mem_of_getElem? (i := 636) (by decide +kernel), List.mem_of_getElem? (i := 646) (by decide +kernel), List.mem_of_getElem? (i := 647) (by decide +kernel)⟩
theorem lw_p30 : lw_okq (⟨"TrayTurnsModel", "advances", "()V"⟩, 26) := ⟨⟨by decide +kernel, by decide +kernel⟩, List.mem_of_getElem? (i := 636) (by decide +kernel), List.mem_of_getElem? (i := 744) (by decide +kernel), List.mem_of_getElem? (i := 745) (by decide +kernel)⟩
theorem lw_p31 : lw_okq (⟨"TrayTurnsModel", "letterAt", "(I)I"⟩, 26) := ⟨⟨by decide +kernel, by decide +kernel⟩, List.mem_of_getElem? (i := 636) (by decide +kernel), List.mem_of_getElem? (i := 748) (by decide +kernel), List.mem_of_getElem? (i := 749) (by decide +kernel)⟩
def lw_privs_2 : List (MethodName × Nat) := [(⟨"TrayTurns$Party", "hasEnough", "(LTrayTurns$Now;I)Z"⟩, 8), (⟨"TrayTurns$Party", "fillFurthest", "(LTrayTurns$Now;)V"⟩, 8), (⟨"TrayTurns", "swap", "()I"⟩, 16), (⟨"TrayTurns$Feast", "most", "(I)I"⟩, 5), (⟨"TrayTurns$Feast", "firstFor", "(II)I"⟩, 5), (⟨"TrayTurns", "remember", "()V"⟩, 16), (⟨"TrayTurns", "spill", "()I"⟩, 16), (⟨"TrayTurns", "isTurn", "(I)Z"⟩, 16), (⟨"TrayTurns", "isEmpty", "(I)Z"⟩, 16), (⟨"TrayTurns", "spreadChances", "(I)I"⟩, 16), (⟨"TrayTurns", "fitsAllSeen", "(I)Z"⟩, 16), (⟨"TrayTurns", "isImage", "(I)Z"⟩, 16), (⟨"TrayTurnsModel", "begins", "()V"⟩, 26), (⟨"TrayTurnsModel", "settles", "()V"⟩, 26), (⟨"TrayTurnsModel", "advances", "()V"⟩, 26), (⟨"TrayTurnsModel", "letterAt", "(I)I"⟩, 26)]
theorem lw_r2 : ∀ q ∈ lw_privs_2, lw_okq q := List.forall_mem_cons.mpr ⟨lw_p16, List.forall_mem_cons.mpr ⟨lw_p17, List.forall_mem_cons.mpr ⟨lw_p18, List.forall_mem_cons.mpr ⟨lw_p19, List.forall_mem_cons.mpr ⟨lw_p20, List.forall_mem_cons.mpr ⟨lw_p21, List.forall_mem_cons.mpr ⟨lw_p22, List.forall_mem_cons.mpr ⟨lw_p23, List.forall_mem_cons.mpr ⟨lw_p24, List.forall_mem_cons.mpr ⟨lw_p25, List.forall_mem_cons.mpr ⟨lw_p26, List.forall_mem_cons.mpr ⟨lw_p27, List.forall_mem_cons.mpr ⟨lw_p28, List.forall_mem_cons.mpr ⟨lw_p29, List.forall_mem_cons.mpr ⟨lw_p30, List.forall_mem_cons.mpr ⟨lw_p31, fun _ h => absurd h List.not_mem_nil⟩⟩⟩⟩⟩⟩⟩⟩⟩⟩⟩⟩⟩⟩⟩⟩
theorem lw_p32 : lw_okq (⟨"TrayTurnsModel", "isWell", "()Z"⟩, 26) := ⟨⟨by decide +kernel, by decide +kernel⟩, List.mem_of_getElem? (i := 636) (by decide +kernel), List.mem_of_getElem? (i := 752) (by decide +kernel), List.mem_of_getElem? (i := 753) (by decide +kernel)⟩
theorem lw_p33 : lw_okq (⟨"TrayTurnsModel", "mayBegin", "(I)Z"⟩, 26) := ⟨⟨by decide +kernel, by decide +kernel⟩, List.mem_of_getElem? (i := 636) (by decide +kernel), List.mem_of_getElem? (i := 756) (by decide +kernel), List.mem_of_getElem? (i := 757) (by decide +kernel)⟩
theorem lw_p34 : lw_okq (⟨"TrayTurnsModel", "takesToken", "(Z)I"⟩, 26) := ⟨⟨by decide +kernel, by decide +kernel⟩, List.mem_of_getElem? (i := 636) (by decide +kernel), List.mem_of_getElem? (i := 760) (by decide +kernel), List.mem_of_getElem? (i := 761) (by decide +kernel)⟩
theorem lw_p35 : lw_okq (⟨"TrayTurnsModel", "readsItem", "(I)V"⟩, 26) := ⟨⟨by decide +kernel, by decide +kernel⟩, List.mem_of_getElem? (i := 636) (by decide +kernel), List.mem_of_getElem? (i := 764) (by decide +kernel), List.mem_of_getElem? (i := 765) (by decide +kernel)⟩
theorem lw_p36 : lw_okq (⟨"TrayTurnsModel", "number", "(II)I"⟩, 26) := ⟨⟨by decide +kernel, by decide +kernel⟩, List.mem_of_getElem? (i := 636) (by decide +kernel), List.mem_of_getElem? (i := 768) (by decide +kernel), List.mem_of_getElem? (i := 769) (by decide +kernel)⟩
theorem lw_p37 : lw_okq (⟨"TrayTurnsModel", "free", "(II)I"⟩, 26) := ⟨⟨by decide +kernel, by decide +kernel⟩, List.mem_of_getElem? (i := 636) (by decide +kernel), List.mem_of_getElem? (i := 772) (by decide +kernel), List.mem_of_getElem? (i := 773) (by decide +kernel)⟩
theorem lw_p38 : lw_okq (⟨"TrayTurnsModel", "lettersRow", "()I"⟩, 26) := ⟨⟨by decide +kernel, by decide +kernel⟩, List.mem_of_getElem? (i := 636) (by decide +kernel), List.mem_of_getElem? (i := 776) (by decide +kernel), List.mem_of_getElem? (i := 777) (by decide +kernel)⟩
theorem lw_p39 : lw_okq (⟨"TrayTurnsModel", "isGuest", "(I)Z"⟩, 26) := ⟨⟨by decide +kernel, by decide +kernel⟩, List.mem_of_getElem? (i := 636) (by decide +kernel), List.mem_of_getElem? (i := 784) (by decide +kernel), List.mem_of_getElem? (i := 785) (by decide +kernel)⟩
theorem lw_p40 : lw_okq (⟨"TrayTurnsModel", "needsOf", "(I)I"⟩, 26) := ⟨⟨by decide +kernel, by decide +kernel⟩, List.mem_of_getElem? (i := 636) (by decide +kernel), List.mem_of_getElem? (i := 788) (by decide +kernel), List.mem_of_getElem? (i := 789) (by decide +kernel)⟩
theorem lw_p41 : lw_okq (⟨"TrayTurnsModel", "reachedBy", "(I)I"⟩, 26) := ⟨⟨by decide +kernel, by decide +kernel⟩, List.mem_of_getElem? (i := 636) (by decide +kernel), List.mem_of_getElem? (i := 792) (by decide +kernel), List.mem_of_getElem? (i := 793) (by decide +kernel)⟩
theorem lw_p42 : lw_okq (⟨"TrayTurnsModel", "reachesBy", "(III)Z"⟩, 26) := ⟨⟨by decide +kernel, by decide +kernel⟩, List.mem_of_getElem? (i := 636) (by decide +kernel), List.mem_of_getElem? (i := 796) (by decide +kernel), List.mem_of_getElem? (i := 797) (by decide +kernel)⟩
theorem lw_p43 : lw_okq (⟨"TrayTurnsModel", "isDish", "(I)Z"⟩, 26) := ⟨⟨by decide +kernel, by decide +kernel⟩, List.mem_of_getElem? (i := 636) (by decide +kernel), List.mem_of_getElem? (i := 804) (by decide +kernel), List.mem_of_getElem? (i := 805) (by decide +kernel)⟩
theorem lw_p44 : lw_okq (⟨"TrayTurnsModel", "whoReach", "(II)I"⟩, 26) := ⟨⟨by decide +kernel, by decide +kernel⟩, List.mem_of_getElem? (i := 636) (by decide +kernel), List.mem_of_getElem? (i := 808) (by decide +kernel), List.mem_of_getElem? (i := 809) (by decide +kernel)⟩
theorem lw_p45 : lw_okq (⟨"TrayTurnsModel", "tourOf", "()I"⟩, 26) := ⟨⟨by decide +kernel, by decide +kernel⟩, List.mem_of_getElem? (i := 636) (by decide +kernel), List.mem_of_getElem? (i := 816) (by decide +kernel), List.mem_of_getElem? (i := 817) (by decide +kernel)⟩
theorem lw_p46 : lw_okq (⟨"TrayTurnsModel", "isEnough", "()Z"⟩, 26) := ⟨⟨by decide +kernel, by decide +kernel⟩, List.mem_of_getElem? (i := 636) (by decide +kernel), List.mem_of_getElem? (i := 820) (by decide +kernel), List.mem_of_getElem? (i := 821) (by decide +kernel)⟩
theorem lw_p47 : lw_okq (⟨"TrayTurnsModel", "isAll", "(II)Z"⟩, 26) := ⟨⟨by decide +kernel, by decide +kernel⟩, List.mem_of_getElem? (i := 636) (by decide +kernel), List.mem_of_getElem? (i := 827) (by decide +kernel), List.mem_of_getElem? (i := 828) (by decide +kernel)⟩
def lw_privs_3 : List (MethodName × Nat) := [(⟨"TrayTurnsModel", "isWell", "()Z"⟩, 26), (⟨"TrayTurnsModel", "mayBegin", "(I)Z"⟩, 26), (⟨"TrayTurnsModel", "takesToken", "(Z)I"⟩, 26), (⟨"TrayTurnsModel", "readsItem", "(I)V"⟩, 26), (⟨"TrayTurnsModel", "number", "(II)I"⟩, 26), (⟨"TrayTurnsModel", "free", "(II)I"⟩, 26), (⟨"TrayTurnsModel", "lettersRow", "()I"⟩, 26), (⟨"TrayTurnsModel", "isGuest", "(I)Z"⟩, 26), (⟨"TrayTurnsModel", "needsOf", "(I)I"⟩, 26), (⟨"TrayTurnsModel", "reachedBy", "(I)I"⟩, 26), (⟨"TrayTurnsModel", "reachesBy", "(III)Z"⟩, 26), (⟨"TrayTurnsModel", "isDish", "(I)Z"⟩, 26), (⟨"TrayTurnsModel", "whoReach", "(II)I"⟩, 26), (⟨"TrayTurnsModel", "tourOf", "()I"⟩, 26), (⟨"TrayTurnsModel", "isEnough", "()Z"⟩, 26), (⟨"TrayTurnsModel", "isAll", "(II)Z"⟩, 26)]
theorem lw_r3 : ∀ q ∈ lw_privs_3, lw_okq q := List.forall_mem_cons.mpr ⟨lw_p32, List.forall_mem_cons.mpr ⟨lw_p33, List.forall_mem_cons.mpr ⟨lw_p34, List.forall_mem_cons.mpr ⟨lw_p35, List.forall_mem_cons.mpr ⟨lw_p36, List.forall_mem_cons.mpr ⟨lw_p37, List.forall_mem_cons.mpr ⟨lw_p38, List.forall_mem_cons.mpr ⟨lw_p39, List.forall_mem_cons.mpr ⟨lw_p40, List.forall_mem_cons.mpr ⟨lw_p41, List.forall_mem_cons.mpr ⟨lw_p42, List.forall_mem_cons.mpr ⟨lw_p43, List.forall_mem_cons.mpr ⟨lw_p44, List.forall_mem_cons.mpr ⟨lw_p45, List.forall_mem_cons.mpr ⟨lw_p46, List.forall_mem_cons.mpr ⟨lw_p47, fun _ h => absurd h List.not_mem_nil⟩⟩⟩⟩⟩⟩⟩⟩⟩⟩⟩⟩⟩⟩⟩⟩
theorem lw_p48 : lw_okq (⟨"TrayTurnsModel", "swapOf", "()I"⟩, 26) := ⟨⟨by decide +kernel, by decide +kernel⟩, List.mem_of_getElem? (i := 636) (by decide +kernel), List.mem_of_getElem? (i := 831) (by decide +kernel), List.mem_of_getElem? (i := 832) (by decide +kernel)⟩
theorem lw_p49 : lw_okq (⟨"TrayTurnsModel", "trades", "(II)V"⟩, 26) := ⟨⟨by decide +kernel, by decide +kernel⟩, List.mem_of_getElem? (i := 636) (by decide +kernel), List.mem_of_getElem? (i := 835) (by decide +kernel), List.mem_of_getElem? (i := 836) (by decide +kernel)⟩
theorem lw_p50 : lw_okq (⟨"TrayTurnsModel", "feeds", "()I"⟩, 26) := ⟨⟨by decide +kernel, by decide +kernel⟩, List.mem_of_getElem? (i := 636) (by decide +kernel), List.mem_of_getElem? (i := 839) (by decide +kernel), List.mem_of_getElem? (i := 840) (by decide +kernel)⟩
theorem lw_p51 : lw_okq (⟨"TrayTurnsModel", "havingBy", "(I)I"⟩, 26) := ⟨⟨by decide +kernel, by decide +kernel⟩, List.mem_of_getElem? (i := 636) (by decide +kernel), List.mem_of_getElem? (i := 846) (by decide +kernel), List.mem_of_getElem? (i := 847) (by decide +kernel)⟩
theorem lw_p52 : lw_okq (⟨"TrayTurnsModel", "notes", "()V"⟩, 26) := ⟨⟨by decide +kernel, by decide +kernel⟩, List.mem_of_getElem? (i := 636) (by decide +kernel), List.mem_of_getElem? (i := 854) (by decide +kernel), List.mem_of_getElem? (i := 855) (by decide +kernel)⟩
theorem lw_p53 : lw_okq (⟨"TrayTurnsModel", "isSeat", "(I)Z"⟩, 26) := ⟨⟨by decide +kernel, by decide +kernel⟩, List.mem_of_getElem? (i := 636) (by decide +kernel), List.mem_of_getElem? (i := 866) (by decide +kernel), List.mem_of_getElem? (i := 867) (by decide +kernel)⟩
theorem lw_p54 : lw_okq (⟨"TrayTurnsModel", "isEmpty", "(I)Z"⟩, 26) := ⟨⟨by decide +kernel, by decide +kernel⟩, List.mem_of_getElem? (i := 636) (by decide +kernel), List.mem_of_getElem? (i := 870) (by decide +kernel), List.mem_of_getElem? (i := 871) (by decide +kernel)⟩
theorem lw_p55 : lw_okq (⟨"TrayTurnsModel", "whoCan", "()I"⟩, 26) := ⟨⟨by decide +kernel, by decide +kernel⟩, List.mem_of_getElem? (i := 636) (by decide +kernel), List.mem_of_getElem? (i := 919) (by decide +kernel), List.mem_of_getElem? (i := 920) (by decide +kernel)⟩
def lw_privs_4 : List (MethodName × Nat) := [(⟨"TrayTurnsModel", "swapOf", "()I"⟩, 26), (⟨"TrayTurnsModel", "trades", "(II)V"⟩, 26), (⟨"TrayTurnsModel", "feeds", "()I"⟩, 26), (⟨"TrayTurnsModel", "havingBy", "(I)I"⟩, 26), (⟨"TrayTurnsModel", "notes", "()V"⟩, 26), (⟨"TrayTurnsModel", "isSeat", "(I)Z"⟩, 26), (⟨"TrayTurnsModel", "isEmpty", "(I)Z"⟩, 26), (⟨"TrayTurnsModel", "whoCan", "()I"⟩, 26)]
theorem lw_r4 : ∀ q ∈ lw_privs_4, lw_okq q := List.forall_mem_cons.mpr ⟨lw_p48, List.forall_mem_cons.mpr ⟨lw_p49, List.forall_mem_cons.mpr ⟨lw_p50, List.forall_mem_cons.mpr ⟨lw_p51, List.forall_mem_cons.mpr ⟨lw_p52, List.forall_mem_cons.mpr ⟨lw_p53, List.forall_mem_cons.mpr ⟨lw_p54, List.forall_mem_cons.mpr ⟨lw_p55, fun _ h => absurd h List.not_mem_nil⟩⟩⟩⟩⟩⟩⟩⟩
def lw_privs : List (MethodName × Nat) := lw_privs_1 ++ (lw_privs_2 ++ (lw_privs_3 ++ (lw_privs_4)))
def lw_tbl : List Cond := k2_sels lw_privs ++ tables_1
theorem lw_privs_ok : ∀ q ∈ lw_privs, lw_okq q := by
  show ∀ q ∈ lw_privs_1 ++ (lw_privs_2 ++ (lw_privs_3 ++ (lw_privs_4))), lw_okq q
  exact List.forall_mem_append.mpr ⟨lw_r1, List.forall_mem_append.mpr ⟨lw_r2, List.forall_mem_append.mpr ⟨lw_r3, lw_r4⟩⟩⟩
end
section
def RX0 : String := "TrayTurns$Asked"
def TX0 : u_T := fun k => match k with
  | 0 => ("TrayTurns$Asked", "number", "I", false)
  | 1 => ("TrayTurns$Asked", "arm", "I", false)
  | 2 => ("TrayTurns$Asked", "needs", "I", false)
  | 3 => ("TrayTurns$Asked", "reaches", "I", false)
  | 4 => ("TrayTurns$Asked", "turn", "I", false)
  | _ => ("TrayTurns$Asked", "traced", "J", false)
def tyX0 : Nat → FieldType := fun k => match k with
  | 0 => .int
  | 1 => .int
  | 2 => .int
  | 3 => .int
  | 4 => .int
  | _ => .long
theorem nmX0 : ∀ a, a < 6 → ∀ b, b < 6 → a ≠ b → (TX0 a).2.1 ≠ (TX0 b).2.1 := by decide +kernel
theorem tyX0_ok : ∀ k, k < 6 → parseFieldDescriptor (TX0 k).2.2.1 = some (tyX0 k) := by decide +kernel
abbrev cX0_init : ByteArray := prog_2_method_1_code
def yX0_init : MethodName := ⟨RX0, "<init>", "()V"⟩
def RX1 : String := "TrayTurns$AuntKind"
def TX1 : u_T := fun k => match k with
  | _ => ("", "", "", false)
def tyX1 : Nat → FieldType := fun k => match k with
  | _ => .int
theorem nmX1 : ∀ a, a < 0 → ∀ b, b < 0 → a ≠ b → (TX1 a).2.1 ≠ (TX1 b).2.1 := by decide +kernel
theorem tyX1_ok : ∀ k, k < 0 → parseFieldDescriptor (TX1 k).2.2.1 = some (tyX1 k) := by decide +kernel
abbrev cX1_init : ByteArray := prog_3_method_1_code
def yX1_init : MethodName := ⟨RX1, "<init>", "()V"⟩
abbrev cX1_worth : ByteArray := prog_3_method_2_code
def yX1_worth : MethodName := ⟨RX1, "worth", "(LTrayTurns$Asked;)I"⟩
def RX2 : String := "TrayTurns$BishopKind"
def TX2 : u_T := fun k => match k with
  | _ => ("", "", "", false)
def tyX2 : Nat → FieldType := fun k => match k with
  | _ => .int
theorem nmX2 : ∀ a, a < 0 → ∀ b, b < 0 → a ≠ b → (TX2 a).2.1 ≠ (TX2 b).2.1 := by decide +kernel
theorem tyX2_ok : ∀ k, k < 0 → parseFieldDescriptor (TX2 k).2.2.1 = some (tyX2 k) := by decide +kernel
abbrev cX2_init : ByteArray := prog_4_method_1_code
def yX2_init : MethodName := ⟨RX2, "<init>", "()V"⟩
abbrev cX2_worth : ByteArray := prog_4_method_2_code
def yX2_worth : MethodName := ⟨RX2, "worth", "(LTrayTurns$Asked;)I"⟩
def RX3 : String := "TrayTurns$ChildKind"
def TX3 : u_T := fun k => match k with
  | _ => ("", "", "", false)
def tyX3 : Nat → FieldType := fun k => match k with
  | _ => .int
theorem nmX3 : ∀ a, a < 0 → ∀ b, b < 0 → a ≠ b → (TX3 a).2.1 ≠ (TX3 b).2.1 := by decide +kernel
theorem tyX3_ok : ∀ k, k < 0 → parseFieldDescriptor (TX3 k).2.2.1 = some (tyX3 k) := by decide +kernel
abbrev cX3_init : ByteArray := prog_5_method_1_code
def yX3_init : MethodName := ⟨RX3, "<init>", "()V"⟩
abbrev cX3_worth : ByteArray := prog_5_method_2_code
def yX3_worth : MethodName := ⟨RX3, "worth", "(LTrayTurns$Asked;)I"⟩
def RX4 : String := "TrayTurns$CousinKind"
def TX4 : u_T := fun k => match k with
  | _ => ("", "", "", false)
def tyX4 : Nat → FieldType := fun k => match k with
  | _ => .int
theorem nmX4 : ∀ a, a < 0 → ∀ b, b < 0 → a ≠ b → (TX4 a).2.1 ≠ (TX4 b).2.1 := by decide +kernel
theorem tyX4_ok : ∀ k, k < 0 → parseFieldDescriptor (TX4 k).2.2.1 = some (tyX4 k) := by decide +kernel
abbrev cX4_init : ByteArray := prog_6_method_1_code
def yX4_init : MethodName := ⟨RX4, "<init>", "()V"⟩
abbrev cX4_worth : ByteArray := prog_6_method_2_code
def yX4_worth : MethodName := ⟨RX4, "worth", "(LTrayTurns$Asked;)I"⟩
def RX5 : String := "TrayTurns$Feast"
def TX5 : u_T := fun k => match k with
  | 0 => ("TrayTurns$Feast", "given", "[I", true)
  | 1 => ("TrayTurns$Feast", "needs", "[I", true)
  | 2 => ("TrayTurns$Feast", "left", "[I", true)
  | 3 => ("TrayTurns$Feast", "guests", "I", false)
  | _ => ("TrayTurns$Feast", "dishes", "I", false)
def tyX5 : Nat → FieldType := fun k => match k with
  | 0 => .array .int
  | 1 => .array .int
  | 2 => .array .int
  | 3 => .int
  | _ => .int
theorem nmX5 : ∀ a, a < 5 → ∀ b, b < 5 → a ≠ b → (TX5 a).2.1 ≠ (TX5 b).2.1 := by decide +kernel
theorem tyX5_ok : ∀ k, k < 5 → parseFieldDescriptor (TX5 k).2.2.1 = some (tyX5 k) := by decide +kernel
abbrev cX5_init : ByteArray := prog_7_method_1_code
def yX5_init : MethodName := ⟨RX5, "<init>", "()V"⟩
abbrev cX5_share : ByteArray := prog_7_method_2_code
def yX5_share : MethodName := ⟨RX5, "share", "(LTrayTurns$Party;LTrayTurns$Now;)I"⟩
abbrev cX5_firstFor : ByteArray := prog_7_method_3_code
def yX5_firstFor : MethodName := ⟨RX5, "firstFor", "(II)I"⟩
abbrev cX5_most : ByteArray := prog_7_method_4_code
def yX5_most : MethodName := ⟨RX5, "most", "(I)I"⟩
def RX6 : String := "TrayTurns$GuestKind"
def TX6 : u_T := fun k => match k with
  | _ => ("", "", "", false)
def tyX6 : Nat → FieldType := fun k => match k with
  | _ => .int
theorem nmX6 : ∀ a, a < 0 → ∀ b, b < 0 → a ≠ b → (TX6 a).2.1 ≠ (TX6 b).2.1 := by decide +kernel
theorem tyX6_ok : ∀ k, k < 0 → parseFieldDescriptor (TX6 k).2.2.1 = some (tyX6 k) := by decide +kernel
abbrev cX6_init : ByteArray := prog_8_method_1_code
def yX6_init : MethodName := ⟨RX6, "<init>", "()V"⟩
abbrev cX6_worth : ByteArray := prog_8_method_2_code
def yX6_worth : MethodName := ⟨RX6, "worth", "(LTrayTurns$Asked;)I"⟩
def RX7 : String := "TrayTurns$Now"
def TX7 : u_T := fun k => match k with
  | 0 => ("TrayTurns$Now", "turn", "I", false)
  | 1 => ("TrayTurns$Now", "portions", "[I", true)
  | 2 => ("TrayTurns$Now", "places", "[I", true)
  | 3 => ("TrayTurns$Now", "sits", "[I", true)
  | _ => ("TrayTurns$Now", "had", "[I", true)
def tyX7 : Nat → FieldType := fun k => match k with
  | 0 => .int
  | 1 => .array .int
  | 2 => .array .int
  | 3 => .array .int
  | _ => .array .int
theorem nmX7 : ∀ a, a < 5 → ∀ b, b < 5 → a ≠ b → (TX7 a).2.1 ≠ (TX7 b).2.1 := by decide +kernel
theorem tyX7_ok : ∀ k, k < 5 → parseFieldDescriptor (TX7 k).2.2.1 = some (tyX7 k) := by decide +kernel
abbrev cX7_init : ByteArray := prog_9_method_1_code
def yX7_init : MethodName := ⟨RX7, "<init>", "()V"⟩
abbrev cX7_become : ByteArray := prog_9_method_2_code
def yX7_become : MethodName := ⟨RX7, "become", "(LTrayTurns$Now;)V"⟩
abbrev cX7_changeSeats : ByteArray := prog_9_method_3_code
def yX7_changeSeats : MethodName := ⟨RX7, "changeSeats", "(II)V"⟩
def RX8 : String := "TrayTurns$Party"
def TX8 : u_T := fun k => match k with
  | 0 => ("TrayTurns$Party", "seats", "I", false)
  | 1 => ("TrayTurns$Party", "guests", "I", false)
  | 2 => ("TrayTurns$Party", "dishes", "I", false)
  | 3 => ("TrayTurns$Party", "arms", "[I", true)
  | 4 => ("TrayTurns$Party", "likes", "[I", true)
  | 5 => ("TrayTurns$Party", "tall", "[I", true)
  | 6 => ("TrayTurns$Party", "start", "LTrayTurns$Now;", true)
  | _ => ("TrayTurns$Party", "furthest", "[I", true)
def tyX8 : Nat → FieldType := fun k => match k with
  | 0 => .int
  | 1 => .int
  | 2 => .int
  | 3 => .array .int
  | 4 => .array .int
  | 5 => .array .int
  | 6 => .object "TrayTurns$Now"
  | _ => .array .int
theorem nmX8 : ∀ a, a < 8 → ∀ b, b < 8 → a ≠ b → (TX8 a).2.1 ≠ (TX8 b).2.1 := by decide +kernel
theorem tyX8_ok : ∀ k, k < 8 → parseFieldDescriptor (TX8 k).2.2.1 = some (tyX8 k) := by decide +kernel
abbrev cX8_init : ByteArray := prog_10_method_1_code
def yX8_init : MethodName := ⟨RX8, "<init>", "()V"⟩
abbrev cX8_empty : ByteArray := prog_10_method_2_code
def yX8_empty : MethodName := ⟨RX8, "empty", "()V"⟩
abbrev cX8_around : ByteArray := prog_10_method_3_code
def yX8_around : MethodName := ⟨RX8, "around", "(I)I"⟩
abbrev cX8_seatBefore : ByteArray := prog_10_method_4_code
def yX8_seatBefore : MethodName := ⟨RX8, "seatBefore", "(LTrayTurns$Now;I)I"⟩
abbrev cX8_gap : ByteArray := prog_10_method_5_code
def yX8_gap : MethodName := ⟨RX8, "gap", "(LTrayTurns$Now;III)I"⟩
abbrev cX8_reaches : ByteArray := prog_10_method_6_code
def yX8_reaches : MethodName := ⟨RX8, "reaches", "(LTrayTurns$Now;III)Z"⟩
abbrev cX8_stepsBy : ByteArray := prog_10_method_7_code
def yX8_stepsBy : MethodName := ⟨RX8, "stepsBy", "(LTrayTurns$Now;III)I"⟩
abbrev cX8_reachedBy : ByteArray := prog_10_method_8_code
def yX8_reachedBy : MethodName := ⟨RX8, "reachedBy", "(LTrayTurns$Now;I)I"⟩
abbrev cX8_whoReach : ByteArray := prog_10_method_9_code
def yX8_whoReach : MethodName := ⟨RX8, "whoReach", "(LTrayTurns$Now;II)I"⟩
abbrev cX8_needs : ByteArray := prog_10_method_10_code
def yX8_needs : MethodName := ⟨RX8, "needs", "(LTrayTurns$Now;I)I"⟩
abbrev cX8_hasEnough : ByteArray := prog_10_method_11_code
def yX8_hasEnough : MethodName := ⟨RX8, "hasEnough", "(LTrayTurns$Now;I)Z"⟩
abbrev cX8_tour : ByteArray := prog_10_method_12_code
def yX8_tour : MethodName := ⟨RX8, "tour", "(LTrayTurns$Now;)I"⟩
abbrev cX8_fillFurthest : ByteArray := prog_10_method_13_code
def yX8_fillFurthest : MethodName := ⟨RX8, "fillFurthest", "(LTrayTurns$Now;)V"⟩
def RX9 : String := "TrayTurns$Reader"
def TX9 : u_T := fun k => match k with
  | 0 => ("TrayTurns$Reader", "letters", "[C", true)
  | 1 => ("TrayTurns$Reader", "length", "I", false)
  | 2 => ("TrayTurns$Reader", "draft", "LTrayTurns$Party;", false)
  | 3 => ("TrayTurns$Reader", "sort", "I", false)
  | 4 => ("TrayTurns$Reader", "start", "I", false)
  | 5 => ("TrayTurns$Reader", "end", "I", false)
  | _ => ("TrayTurns$Reader", "value", "I", false)
def tyX9 : Nat → FieldType := fun k => match k with
  | 0 => .array .char
  | 1 => .int
  | 2 => .object "TrayTurns$Party"
  | 3 => .int
  | 4 => .int
  | 5 => .int
  | _ => .int
theorem nmX9 : ∀ a, a < 7 → ∀ b, b < 7 → a ≠ b → (TX9 a).2.1 ≠ (TX9 b).2.1 := by decide +kernel
theorem tyX9_ok : ∀ k, k < 7 → parseFieldDescriptor (TX9 k).2.2.1 = some (tyX9 k) := by decide +kernel
abbrev cX9_init : ByteArray := prog_11_method_1_code
def yX9_init : MethodName := ⟨RX9, "<init>", "()V"⟩
abbrev cX9_read : ByteArray := prog_11_method_2_code
def yX9_read : MethodName := ⟨RX9, "read", "()I"⟩
abbrev cX9_handOver : ByteArray := prog_11_method_3_code
def yX9_handOver : MethodName := ⟨RX9, "handOver", "(LTrayTurns$Party;)LTrayTurns$Party;"⟩
abbrev cX9_readItem : ByteArray := prog_11_method_4_code
def yX9_readItem : MethodName := ⟨RX9, "readItem", "(Z)Z"⟩
abbrev cX9_readSeats : ByteArray := prog_11_method_5_code
def yX9_readSeats : MethodName := ⟨RX9, "readSeats", "()Z"⟩
abbrev cX9_readGuest : ByteArray := prog_11_method_6_code
def yX9_readGuest : MethodName := ⟨RX9, "readGuest", "()Z"⟩
abbrev cX9_readDish : ByteArray := prog_11_method_7_code
def yX9_readDish : MethodName := ⟨RX9, "readDish", "()Z"⟩
abbrev cX9_isAmong : ByteArray := prog_11_method_8_code
def yX9_isAmong : MethodName := ⟨RX9, "isAmong", "([II)Z"⟩
abbrev cX9_readNumber : ByteArray := prog_11_method_9_code
def yX9_readNumber : MethodName := ⟨RX9, "readNumber", "(II)Z"⟩
abbrev cX9_readRow : ByteArray := prog_11_method_10_code
def yX9_readRow : MethodName := ⟨RX9, "readRow", "()Z"⟩
abbrev cX9_readClose : ByteArray := prog_11_method_11_code
def yX9_readClose : MethodName := ⟨RX9, "readClose", "()Z"⟩
abbrev cX9_isWord : ByteArray := prog_11_method_12_code
def yX9_isWord : MethodName := ⟨RX9, "isWord", "(C)Z"⟩
abbrev cX9_nextToken : ByteArray := prog_11_method_13_code
def yX9_nextToken : MethodName := ⟨RX9, "nextToken", "()V"⟩
abbrev cX9_nextWord : ByteArray := prog_11_method_14_code
def yX9_nextWord : MethodName := ⟨RX9, "nextWord", "()V"⟩
abbrev cX9_nextNumber : ByteArray := prog_11_method_15_code
def yX9_nextNumber : MethodName := ⟨RX9, "nextNumber", "()V"⟩
abbrev cX9_isSmall : ByteArray := prog_11_method_16_code
def yX9_isSmall : MethodName := ⟨RX9, "isSmall", "(C)Z"⟩
abbrev cX9_isDigit : ByteArray := prog_11_method_17_code
def yX9_isDigit : MethodName := ⟨RX9, "isDigit", "(C)Z"⟩
def RX10 : String := "TrayTurns$UncleKind"
def TX10 : u_T := fun k => match k with
  | _ => ("", "", "", false)
def tyX10 : Nat → FieldType := fun k => match k with
  | _ => .int
theorem nmX10 : ∀ a, a < 0 → ∀ b, b < 0 → a ≠ b → (TX10 a).2.1 ≠ (TX10 b).2.1 := by decide +kernel
theorem tyX10_ok : ∀ k, k < 0 → parseFieldDescriptor (TX10 k).2.2.1 = some (tyX10 k) := by decide +kernel
abbrev cX10_init : ByteArray := prog_12_method_1_code
def yX10_init : MethodName := ⟨RX10, "<init>", "()V"⟩
abbrev cX10_worth : ByteArray := prog_12_method_2_code
def yX10_worth : MethodName := ⟨RX10, "worth", "(LTrayTurns$Asked;)I"⟩
def RX11 : String := "TrayTurns"
def TX11 : u_T := fun k => match k with
  | 0 => ("TrayTurns", "reader", "LTrayTurns$Reader;", true)
  | 1 => ("TrayTurns", "feast", "LTrayTurns$Feast;", true)
  | 2 => ("TrayTurns", "asked", "LTrayTurns$Asked;", true)
  | 3 => ("TrayTurns", "kinds", "[LTrayTurns$GuestKind;", true)
  | 4 => ("TrayTurns", "party", "LTrayTurns$Party;", false)
  | 5 => ("TrayTurns", "state", "LTrayTurns$Now;", true)
  | 6 => ("TrayTurns", "trial", "LTrayTurns$Now;", true)
  | 7 => ("TrayTurns", "known", "[LTrayTurns$Now;", true)
  | 8 => ("TrayTurns", "knownCount", "I", false)
  | 9 => ("TrayTurns", "images", "[LTrayTurns$Now;", true)
  | 10 => ("TrayTurns", "kept", "[Z", true)
  | 11 => ("TrayTurns", "seenDish", "[I", true)
  | 12 => ("TrayTurns", "seenTurn", "[I", true)
  | 13 => ("TrayTurns", "seenReached", "[Z", true)
  | 14 => ("TrayTurns", "seenCount", "I", false)
  | _ => ("TrayTurns", "chances", "[I", true)
def tyX11 : Nat → FieldType := fun k => match k with
  | 0 => .object "TrayTurns$Reader"
  | 1 => .object "TrayTurns$Feast"
  | 2 => .object "TrayTurns$Asked"
  | 3 => .array (.object "TrayTurns$GuestKind")
  | 4 => .object "TrayTurns$Party"
  | 5 => .object "TrayTurns$Now"
  | 6 => .object "TrayTurns$Now"
  | 7 => .array (.object "TrayTurns$Now")
  | 8 => .int
  | 9 => .array (.object "TrayTurns$Now")
  | 10 => .array .boolean
  | 11 => .array .int
  | 12 => .array .int
  | 13 => .array .boolean
  | 14 => .int
  | _ => .array .int
theorem nmX11 : ∀ a, a < 16 → ∀ b, b < 16 → a ≠ b → (TX11 a).2.1 ≠ (TX11 b).2.1 := by decide +kernel
theorem tyX11_ok : ∀ k, k < 16 → parseFieldDescriptor (TX11 k).2.2.1 = some (tyX11 k) := by decide +kernel
abbrev cX11_init : ByteArray := prog_1_method_1_code
def yX11_init : MethodName := ⟨RX11, "<init>", "()V"⟩
abbrev cX11_type : ByteArray := prog_1_method_2_code
def yX11_type : MethodName := ⟨RX11, "type", "(I)I"⟩
abbrev cX11_clear : ByteArray := prog_1_method_3_code
def yX11_clear : MethodName := ⟨RX11, "clear", "()I"⟩
abbrev cX11_table : ByteArray := prog_1_method_4_code
def yX11_table : MethodName := ⟨RX11, "table", "()I"⟩
abbrev cX11_guest : ByteArray := prog_1_method_5_code
def yX11_guest : MethodName := ⟨RX11, "guest", "(II)I"⟩
abbrev cX11_dish : ByteArray := prog_1_method_6_code
def yX11_dish : MethodName := ⟨RX11, "dish", "(II)I"⟩
abbrev cX11_now : ByteArray := prog_1_method_7_code
def yX11_now : MethodName := ⟨RX11, "now", "(I)I"⟩
abbrev cX11_spins : ByteArray := prog_1_method_8_code
def yX11_spins : MethodName := ⟨RX11, "spins", "(II)I"⟩
abbrev cX11_takes : ByteArray := prog_1_method_9_code
def yX11_takes : MethodName := ⟨RX11, "takes", "(II)I"⟩
abbrev cX11_moves : ByteArray := prog_1_method_10_code
def yX11_moves : MethodName := ⟨RX11, "moves", "(II)I"⟩
abbrev cX11_changes : ByteArray := prog_1_method_11_code
def yX11_changes : MethodName := ⟨RX11, "changes", "(II)I"⟩
abbrev cX11_undo : ByteArray := prog_1_method_12_code
def yX11_undo : MethodName := ⟨RX11, "undo", "()I"⟩
abbrev cX11_steps : ByteArray := prog_1_method_13_code
def yX11_steps : MethodName := ⟨RX11, "steps", "(III)I"⟩
abbrev cX11_puts : ByteArray := prog_1_method_14_code
def yX11_puts : MethodName := ⟨RX11, "puts", "(I)I"⟩
abbrev cX11_fed : ByteArray := prog_1_method_15_code
def yX11_fed : MethodName := ⟨RX11, "fed", "(I)I"⟩
abbrev cX11_odds : ByteArray := prog_1_method_16_code
def yX11_odds : MethodName := ⟨RX11, "odds", "(III)I"⟩
abbrev cX11_sees : ByteArray := prog_1_method_17_code
def yX11_sees : MethodName := ⟨RX11, "sees", "(III)I"⟩
abbrev cX11_forget : ByteArray := prog_1_method_18_code
def yX11_forget : MethodName := ⟨RX11, "forget", "()I"⟩
abbrev cX11_who : ByteArray := prog_1_method_19_code
def yX11_who : MethodName := ⟨RX11, "who", "()I"⟩
abbrev cX11_look : ByteArray := prog_1_method_20_code
def yX11_look : MethodName := ⟨RX11, "look", "(I)I"⟩
abbrev cX11_rate : ByteArray := prog_1_method_21_code
def yX11_rate : MethodName := ⟨RX11, "rate", "(II)I"⟩
abbrev cX11_keep : ByteArray := prog_1_method_22_code
def yX11_keep : MethodName := ⟨RX11, "keep", "(I)I"⟩
abbrev cX11_back : ByteArray := prog_1_method_23_code
def yX11_back : MethodName := ⟨RX11, "back", "(I)I"⟩
abbrev cX11_count : ByteArray := prog_1_method_24_code
def yX11_count : MethodName := ⟨RX11, "count", "(I)I"⟩
abbrev cX11_trace : ByteArray := prog_1_method_25_code
def yX11_trace : MethodName := ⟨RX11, "trace", "()J"⟩
abbrev cX11_isGuest : ByteArray := prog_1_method_26_code
def yX11_isGuest : MethodName := ⟨RX11, "isGuest", "(I)Z"⟩
abbrev cX11_isDish : ByteArray := prog_1_method_27_code
def yX11_isDish : MethodName := ⟨RX11, "isDish", "(I)Z"⟩
abbrev cX11_isTurn : ByteArray := prog_1_method_28_code
def yX11_isTurn : MethodName := ⟨RX11, "isTurn", "(I)Z"⟩
abbrev cX11_isImage : ByteArray := prog_1_method_29_code
def yX11_isImage : MethodName := ⟨RX11, "isImage", "(I)Z"⟩
abbrev cX11_isBit : ByteArray := prog_1_method_30_code
def yX11_isBit : MethodName := ⟨RX11, "isBit", "(I)Z"⟩
abbrev cX11_isEmpty : ByteArray := prog_1_method_31_code
def yX11_isEmpty : MethodName := ⟨RX11, "isEmpty", "(I)Z"⟩
abbrev cX11_allPortions : ByteArray := prog_1_method_32_code
def yX11_allPortions : MethodName := ⟨RX11, "allPortions", "()I"⟩
abbrev cX11_remember : ByteArray := prog_1_method_33_code
def yX11_remember : MethodName := ⟨RX11, "remember", "()V"⟩
abbrev cX11_spill : ByteArray := prog_1_method_34_code
def yX11_spill : MethodName := ⟨RX11, "spill", "()I"⟩
abbrev cX11_swap : ByteArray := prog_1_method_35_code
def yX11_swap : MethodName := ⟨RX11, "swap", "()I"⟩
abbrev cX11_spreadChances : ByteArray := prog_1_method_36_code
def yX11_spreadChances : MethodName := ⟨RX11, "spreadChances", "(I)I"⟩
abbrev cX11_fitsAllSeen : ByteArray := prog_1_method_37_code
def yX11_fitsAllSeen : MethodName := ⟨RX11, "fitsAllSeen", "(I)Z"⟩
def RX12 : String := "TrayTurnsModel"
def TX12 : u_T := fun k => match k with
  | 0 => ("TrayTurnsModel", "thrown", "I", false)
  | 1 => ("TrayTurnsModel", "trace", "J", false)
  | 2 => ("TrayTurnsModel", "text", "[I", true)
  | 3 => ("TrayTurnsModel", "typed", "I", false)
  | 4 => ("TrayTurnsModel", "at", "I", false)
  | 5 => ("TrayTurnsModel", "token", "I", false)
  | 6 => ("TrayTurnsModel", "place", "I", false)
  | 7 => ("TrayTurnsModel", "value", "I", false)
  | 8 => ("TrayTurnsModel", "fault", "I", false)
  | 9 => ("TrayTurnsModel", "many", "[I", true)
  | 10 => ("TrayTurnsModel", "arm", "[I", true)
  | 11 => ("TrayTurnsModel", "likes", "[I", true)
  | 12 => ("TrayTurnsModel", "tall", "[I", true)
  | 13 => ("TrayTurnsModel", "draft", "[I", true)
  | 14 => ("TrayTurnsModel", "s", "[I", true)
  | 15 => ("TrayTurnsModel", "kept", "[I", true)
  | 16 => ("TrayTurnsModel", "isKept", "[Z", true)
  | 17 => ("TrayTurnsModel", "undos", "[I", true)
  | 18 => ("TrayTurnsModel", "undoMany", "I", false)
  | 19 => ("TrayTurnsModel", "seenDish", "[I", true)
  | 20 => ("TrayTurnsModel", "seenTurn", "[I", true)
  | 21 => ("TrayTurnsModel", "seen", "[I", true)
  | 22 => ("TrayTurnsModel", "seenMany", "I", false)
  | 23 => ("TrayTurnsModel", "has", "[I", true)
  | 24 => ("TrayTurnsModel", "best", "[I", true)
  | _ => ("TrayTurnsModel", "left", "[I", true)
def tyX12 : Nat → FieldType := fun k => match k with
  | 0 => .int
  | 1 => .long
  | 2 => .array .int
  | 3 => .int
  | 4 => .int
  | 5 => .int
  | 6 => .int
  | 7 => .int
  | 8 => .int
  | 9 => .array .int
  | 10 => .array .int
  | 11 => .array .int
  | 12 => .array .int
  | 13 => .array .int
  | 14 => .array .int
  | 15 => .array .int
  | 16 => .array .boolean
  | 17 => .array .int
  | 18 => .int
  | 19 => .array .int
  | 20 => .array .int
  | 21 => .array .int
  | 22 => .int
  | 23 => .array .int
  | 24 => .array .int
  | _ => .array .int
theorem nmX12 : ∀ a, a < 26 → ∀ b, b < 26 → a ≠ b → (TX12 a).2.1 ≠ (TX12 b).2.1 := by decide +kernel
theorem tyX12_ok : ∀ k, k < 26 → parseFieldDescriptor (TX12 k).2.2.1 = some (tyX12 k) := by decide +kernel
abbrev cX12_init : ByteArray := prog_14_method_1_code
def yX12_init : MethodName := ⟨RX12, "<init>", "()V"⟩
abbrev cX12_in : ByteArray := prog_14_method_3_code
def yX12_in : MethodName := ⟨RX12, "in", "(III)Z"⟩
abbrev cX12_isOf : ByteArray := prog_14_method_4_code
def yX12_isOf : MethodName := ⟨RX12, "isOf", "(II)Z"⟩
abbrev cX12_ones : ByteArray := prog_14_method_5_code
def yX12_ones : MethodName := ⟨RX12, "ones", "(I)I"⟩
abbrev cX12_type : ByteArray := prog_14_method_6_code
def yX12_type : MethodName := ⟨RX12, "type", "(I)I"⟩
abbrev cX12_clear : ByteArray := prog_14_method_7_code
def yX12_clear : MethodName := ⟨RX12, "clear", "()I"⟩
abbrev cX12_letterAt : ByteArray := prog_14_method_8_code
def yX12_letterAt : MethodName := ⟨RX12, "letterAt", "(I)I"⟩
abbrev cX12_advances : ByteArray := prog_14_method_9_code
def yX12_advances : MethodName := ⟨RX12, "advances", "()V"⟩
abbrev cX12_isWell : ByteArray := prog_14_method_10_code
def yX12_isWell : MethodName := ⟨RX12, "isWell", "()Z"⟩
abbrev cX12_takesToken : ByteArray := prog_14_method_11_code
def yX12_takesToken : MethodName := ⟨RX12, "takesToken", "(Z)I"⟩
abbrev cX12_number : ByteArray := prog_14_method_12_code
def yX12_number : MethodName := ⟨RX12, "number", "(II)I"⟩
abbrev cX12_begins : ByteArray := prog_14_method_13_code
def yX12_begins : MethodName := ⟨RX12, "begins", "()V"⟩
abbrev cX12_mayBegin : ByteArray := prog_14_method_14_code
def yX12_mayBegin : MethodName := ⟨RX12, "mayBegin", "(I)Z"⟩
abbrev cX12_free : ByteArray := prog_14_method_15_code
def yX12_free : MethodName := ⟨RX12, "free", "(II)I"⟩
abbrev cX12_lettersRow : ByteArray := prog_14_method_16_code
def yX12_lettersRow : MethodName := ⟨RX12, "lettersRow", "()I"⟩
abbrev cX12_readsItem : ByteArray := prog_14_method_17_code
def yX12_readsItem : MethodName := ⟨RX12, "readsItem", "(I)V"⟩
abbrev cX12_table : ByteArray := prog_14_method_18_code
def yX12_table : MethodName := ⟨RX12, "table", "()I"⟩
abbrev cX12_settles : ByteArray := prog_14_method_19_code
def yX12_settles : MethodName := ⟨RX12, "settles", "()V"⟩
abbrev cX12_isGuest : ByteArray := prog_14_method_20_code
def yX12_isGuest : MethodName := ⟨RX12, "isGuest", "(I)Z"⟩
abbrev cX12_isDish : ByteArray := prog_14_method_21_code
def yX12_isDish : MethodName := ⟨RX12, "isDish", "(I)Z"⟩
abbrev cX12_isSeat : ByteArray := prog_14_method_22_code
def yX12_isSeat : MethodName := ⟨RX12, "isSeat", "(I)Z"⟩
abbrev cX12_reachesBy : ByteArray := prog_14_method_23_code
def yX12_reachesBy : MethodName := ⟨RX12, "reachesBy", "(III)Z"⟩
abbrev cX12_reachedBy : ByteArray := prog_14_method_24_code
def yX12_reachedBy : MethodName := ⟨RX12, "reachedBy", "(I)I"⟩
abbrev cX12_needsOf : ByteArray := prog_14_method_25_code
def yX12_needsOf : MethodName := ⟨RX12, "needsOf", "(I)I"⟩
abbrev cX12_guest : ByteArray := prog_14_method_26_code
def yX12_guest : MethodName := ⟨RX12, "guest", "(II)I"⟩
abbrev cX12_whoReach : ByteArray := prog_14_method_27_code
def yX12_whoReach : MethodName := ⟨RX12, "whoReach", "(II)I"⟩
abbrev cX12_dish : ByteArray := prog_14_method_28_code
def yX12_dish : MethodName := ⟨RX12, "dish", "(II)I"⟩
abbrev cX12_isEnough : ByteArray := prog_14_method_29_code
def yX12_isEnough : MethodName := ⟨RX12, "isEnough", "()Z"⟩
abbrev cX12_isAll : ByteArray := prog_14_method_30_code
def yX12_isAll : MethodName := ⟨RX12, "isAll", "(II)Z"⟩
abbrev cX12_tourOf : ByteArray := prog_14_method_31_code
def yX12_tourOf : MethodName := ⟨RX12, "tourOf", "()I"⟩
abbrev cX12_trades : ByteArray := prog_14_method_32_code
def yX12_trades : MethodName := ⟨RX12, "trades", "(II)V"⟩
abbrev cX12_swapOf : ByteArray := prog_14_method_33_code
def yX12_swapOf : MethodName := ⟨RX12, "swapOf", "()I"⟩
abbrev cX12_sevens : ByteArray := prog_14_method_34_code
def yX12_sevens : MethodName := ⟨RX12, "sevens", "(I)I"⟩
abbrev cX12_havingBy : ByteArray := prog_14_method_35_code
def yX12_havingBy : MethodName := ⟨RX12, "havingBy", "(I)I"⟩
abbrev cX12_feeds : ByteArray := prog_14_method_36_code
def yX12_feeds : MethodName := ⟨RX12, "feeds", "()I"⟩
abbrev cX12_now : ByteArray := prog_14_method_37_code
def yX12_now : MethodName := ⟨RX12, "now", "(I)I"⟩
abbrev cX12_notes : ByteArray := prog_14_method_38_code
def yX12_notes : MethodName := ⟨RX12, "notes", "()V"⟩
abbrev cX12_spins : ByteArray := prog_14_method_39_code
def yX12_spins : MethodName := ⟨RX12, "spins", "(II)I"⟩
abbrev cX12_takes : ByteArray := prog_14_method_40_code
def yX12_takes : MethodName := ⟨RX12, "takes", "(II)I"⟩
abbrev cX12_isEmpty : ByteArray := prog_14_method_41_code
def yX12_isEmpty : MethodName := ⟨RX12, "isEmpty", "(I)Z"⟩
abbrev cX12_moves : ByteArray := prog_14_method_42_code
def yX12_moves : MethodName := ⟨RX12, "moves", "(II)I"⟩
abbrev cX12_changes : ByteArray := prog_14_method_43_code
def yX12_changes : MethodName := ⟨RX12, "changes", "(II)I"⟩
abbrev cX12_undo : ByteArray := prog_14_method_44_code
def yX12_undo : MethodName := ⟨RX12, "undo", "()I"⟩
abbrev cX12_steps : ByteArray := prog_14_method_45_code
def yX12_steps : MethodName := ⟨RX12, "steps", "(III)I"⟩
abbrev cX12_puts : ByteArray := prog_14_method_46_code
def yX12_puts : MethodName := ⟨RX12, "puts", "(I)I"⟩
abbrev cX12_fed : ByteArray := prog_14_method_47_code
def yX12_fed : MethodName := ⟨RX12, "fed", "(I)I"⟩
abbrev cX12_power : ByteArray := prog_14_method_48_code
def yX12_power : MethodName := ⟨RX12, "power", "(II)I"⟩
abbrev cX12_gcd : ByteArray := prog_14_method_49_code
def yX12_gcd : MethodName := ⟨RX12, "gcd", "(II)I"⟩
abbrev cX12_odds : ByteArray := prog_14_method_50_code
def yX12_odds : MethodName := ⟨RX12, "odds", "(III)I"⟩
abbrev cX12_sees : ByteArray := prog_14_method_51_code
def yX12_sees : MethodName := ⟨RX12, "sees", "(III)I"⟩
abbrev cX12_forget : ByteArray := prog_14_method_52_code
def yX12_forget : MethodName := ⟨RX12, "forget", "()I"⟩
abbrev cX12_whoCan : ByteArray := prog_14_method_53_code
def yX12_whoCan : MethodName := ⟨RX12, "whoCan", "()I"⟩
abbrev cX12_who : ByteArray := prog_14_method_54_code
def yX12_who : MethodName := ⟨RX12, "who", "()I"⟩
abbrev cX12_look : ByteArray := prog_14_method_55_code
def yX12_look : MethodName := ⟨RX12, "look", "(I)I"⟩
abbrev cX12_rate : ByteArray := prog_14_method_56_code
def yX12_rate : MethodName := ⟨RX12, "rate", "(II)I"⟩
abbrev cX12_keep : ByteArray := prog_14_method_57_code
def yX12_keep : MethodName := ⟨RX12, "keep", "(I)I"⟩
abbrev cX12_back : ByteArray := prog_14_method_58_code
def yX12_back : MethodName := ⟨RX12, "back", "(I)I"⟩
abbrev cX12_count : ByteArray := prog_14_method_59_code
def yX12_count : MethodName := ⟨RX12, "count", "(I)I"⟩
abbrev cX12_trace : ByteArray := prog_14_method_60_code
def yX12_trace : MethodName := ⟨RX12, "trace", "()J"⟩
def RJ6 : String := "java/lang/Integer"
def TJ6 : u_T := fun k => match k with
  | _ => ("", "", "", false)
def tyJ6 : Nat → FieldType := fun k => match k with
  | _ => .int
theorem nmJ6 : ∀ a, a < 0 → ∀ b, b < 0 → a ≠ b → (TJ6 a).2.1 ≠ (TJ6 b).2.1 := by decide +kernel
theorem tyJ6_ok : ∀ k, k < 0 → parseFieldDescriptor (TJ6 k).2.2.1 = some (tyJ6 k) := by decide +kernel
abbrev cJ6_bitCount_0f7a4 : ByteArray := prog_15_method_49_code
def yJ6_bitCount_0f7a4 : MethodName := ⟨RJ6, "bitCount", "(I)I"⟩
def RJ9 : String := "java/lang/Math"
def TJ9 : u_T := fun k => match k with
  | _ => ("", "", "", false)
def tyJ9 : Nat → FieldType := fun k => match k with
  | _ => .int
theorem nmJ9 : ∀ a, a < 0 → ∀ b, b < 0 → a ≠ b → (TJ9 a).2.1 ≠ (TJ9 b).2.1 := by decide +kernel
theorem tyJ9_ok : ∀ k, k < 0 → parseFieldDescriptor (TJ9 k).2.2.1 = some (tyJ9 k) := by decide +kernel
abbrev cJ9_floorMod_7cf53 : ByteArray := prog_16_method_50_code
def yJ9_floorMod_7cf53 : MethodName := ⟨RJ9, "floorMod", "(II)I"⟩
abbrev cJ9_max_7cf53 : ByteArray := prog_16_method_65_code
def yJ9_max_7cf53 : MethodName := ⟨RJ9, "max", "(II)I"⟩
abbrev cJ9_min_7cf53 : ByteArray := prog_16_method_69_code
def yJ9_min_7cf53 : MethodName := ⟨RJ9, "min", "(II)I"⟩
def RJ10 : String := "java/lang/System"
def TJ10 : u_T := fun k => match k with
  | _ => ("", "", "", false)
def tyJ10 : Nat → FieldType := fun k => match k with
  | _ => .int
theorem nmJ10 : ∀ a, a < 0 → ∀ b, b < 0 → a ≠ b → (TJ10 a).2.1 ≠ (TJ10 b).2.1 := by decide +kernel
theorem tyJ10_ok : ∀ k, k < 0 → parseFieldDescriptor (TJ10 k).2.2.1 = some (tyJ10 k) := by decide +kernel
def RJ7 : String := "java/util/Arrays"
def TJ7 : u_T := fun k => match k with
  | _ => ("", "", "", false)
def tyJ7 : Nat → FieldType := fun k => match k with
  | _ => .int
theorem nmJ7 : ∀ a, a < 0 → ∀ b, b < 0 → a ≠ b → (TJ7 a).2.1 ≠ (TJ7 b).2.1 := by decide +kernel
theorem tyJ7_ok : ∀ k, k < 0 → parseFieldDescriptor (TJ7 k).2.2.1 = some (tyJ7 k) := by decide +kernel
abbrev cJ7_fill_53178 : ByteArray := prog_18_method_103_code
def yJ7_fill_53178 : MethodName := ⟨RJ7, "fill", "([II)V"⟩
def RL : String := "TrayTurnsLaw"
abbrev cL_law : ByteArray := code
def yL_law : MethodName := ⟨RL, "law", "([I)Z"⟩
abbrev vwCl : List vw_C := [(RX0, TX0, 6), (RX1, TX1, 0), (RX2, TX2, 0), (RX3, TX3, 0), (RX4, TX4, 0), (RX5, TX5, 5), (RX6, TX6, 0), (RX7, TX7, 5), (RX8, TX8, 8), (RX9, TX9, 7), (RX10, TX10, 0), (RX11, TX11, 16), (RX12, TX12, 26)]
def tblG : List Cond := lw_tbl.filter goodWord
theorem tG {w : Cond} (i : Nat) (h : lw_tbl[i]? = some w) (g : goodWord w = true) : w ∈ tblG := List.mem_filter.mpr ⟨List.mem_of_getElem? h, g⟩
end
section
theorem wN_L : Cond.initialized RL ∈ tblG := tG 56 (by decide +kernel) rfl
theorem wN_X11 : Cond.initialized RX11 ∈ tblG := tG 57 (by decide +kernel) rfl
theorem wN_X9 : Cond.initialized RX9 ∈ tblG := tG 58 (by decide +kernel) rfl
theorem wN_X8 : Cond.initialized RX8 ∈ tblG := tG 59 (by decide +kernel) rfl
theorem wN_X7 : Cond.initialized RX7 ∈ tblG := tG 60 (by decide +kernel) rfl
theorem wN_X5 : Cond.initialized RX5 ∈ tblG := tG 61 (by decide +kernel) rfl
theorem wN_X0 : Cond.initialized RX0 ∈ tblG := tG 62 (by decide +kernel) rfl
theorem wN_X6 : Cond.initialized RX6 ∈ tblG := tG 63 (by decide +kernel) rfl
theorem wN_X10 : Cond.initialized RX10 ∈ tblG := tG 64 (by decide +kernel) rfl
theorem wN_X1 : Cond.initialized RX1 ∈ tblG := tG 65 (by decide +kernel) rfl
theorem wN_X2 : Cond.initialized RX2 ∈ tblG := tG 66 (by decide +kernel) rfl
theorem wN_X4 : Cond.initialized RX4 ∈ tblG := tG 67 (by decide +kernel) rfl
theorem wN_X3 : Cond.initialized RX3 ∈ tblG := tG 68 (by decide +kernel) rfl
theorem wN_X12 : Cond.initialized RX12 ∈ tblG := tG 69 (by decide +kernel) rfl
theorem wN_J9 : Cond.initialized RJ9 ∈ tblG := tG 70 (by decide +kernel) rfl
theorem wN_J10 : Cond.initialized RJ10 ∈ tblG := tG 71 (by decide +kernel) rfl
theorem wN_J7 : Cond.initialized RJ7 ∈ tblG := tG 72 (by decide +kernel) rfl
theorem wN_J6 : Cond.initialized RJ6 ∈ tblG := tG 73 (by decide +kernel) rfl
theorem wK_L_7 : Cond.classLink RL 7 RX11 ∈ tblG := tG 74 (by decide +kernel) rfl
theorem wT_X11 : Cond.instantiable RX11 16 ∈ tblG := tG 75 (by decide +kernel) rfl
theorem wM_L_9 : Cond.methodLink RL 9 yX11_init ∈ tblG := tG 76 (by decide +kernel) rfl
theorem wI_X11_init : Cond.instanceMethod yX11_init ∈ tblG := tG 77 (by decide +kernel) rfl
theorem wC_X11_init : Cond.code yX11_init cX11_init 2 none ∈ tblG := tG 78 (by decide +kernel) rfl
theorem wM_X11_1 : Cond.methodLink RX11 1 objectInit ∈ tblG := tG 79 (by decide +kernel) rfl
theorem wI_objectInit : Cond.instanceMethod objectInit ∈ tblG := tG 80 (by decide +kernel) rfl
theorem w_cd_obj : Cond.code objectInit ⟨#[0xb1]⟩ 1 none ∈ tblG := tG 81 (by decide +kernel) rfl
theorem wK_X11_7 : Cond.classLink RX11 7 RX9 ∈ tblG := tG 82 (by decide +kernel) rfl
theorem wT_X9 : Cond.instantiable RX9 7 ∈ tblG := tG 83 (by decide +kernel) rfl
theorem wI_X9_init : Cond.instanceMethod yX9_init ∈ tblG := tG 85 (by decide +kernel) rfl
theorem wC_X9_init : Cond.code yX9_init cX9_init 1 none ∈ tblG := tG 86 (by decide +kernel) rfl
theorem wM_X9_3 : Cond.methodLink RX9 3 objectInit ∈ tblG := tG 87 (by decide +kernel) rfl
theorem wK_X9_15 : Cond.classLink RX9 15 RX8 ∈ tblG := tG 88 (by decide +kernel) rfl
theorem wT_X8 : Cond.instantiable RX8 8 ∈ tblG := tG 89 (by decide +kernel) rfl
theorem wI_X8_init : Cond.instanceMethod yX8_init ∈ tblG := tG 91 (by decide +kernel) rfl
theorem wC_X8_init : Cond.code yX8_init cX8_init 1 none ∈ tblG := tG 92 (by decide +kernel) rfl
theorem wM_X8_3 : Cond.methodLink RX8 3 objectInit ∈ tblG := tG 93 (by decide +kernel) rfl
theorem wK_X8_25 : Cond.classLink RX8 25 RX7 ∈ tblG := tG 94 (by decide +kernel) rfl
theorem wT_X7 : Cond.instantiable RX7 5 ∈ tblG := tG 95 (by decide +kernel) rfl
theorem wI_X7_init : Cond.instanceMethod yX7_init ∈ tblG := tG 97 (by decide +kernel) rfl
theorem wC_X7_init : Cond.code yX7_init cX7_init 1 none ∈ tblG := tG 98 (by decide +kernel) rfl
theorem wM_X7_3 : Cond.methodLink RX7 3 objectInit ∈ tblG := tG 99 (by decide +kernel) rfl
theorem wF_X7_24 : Cond.fieldLink RX7 24 "TrayTurns$Now" "turn" "I" ∈ tblG := tG 100 (by decide +kernel) rfl
theorem wF_X8_50 : Cond.fieldLink RX8 50 "TrayTurns$Now" "turn" "I" ∈ tblG := tG 101 (by decide +kernel) rfl
theorem wF_X11_160 : Cond.fieldLink RX11 160 "TrayTurns$Now" "turn" "I" ∈ tblG := tG 102 (by decide +kernel) rfl
theorem wF_X7_9 : Cond.fieldLink RX7 9 "TrayTurns$Now" "portions" "[I" ∈ tblG := tG 103 (by decide +kernel) rfl
theorem wF_X5_32 : Cond.fieldLink RX5 32 "TrayTurns$Now" "portions" "[I" ∈ tblG := tG 104 (by decide +kernel) rfl
theorem wF_X11_151 : Cond.fieldLink RX11 151 "TrayTurns$Now" "portions" "[I" ∈ tblG := tG 105 (by decide +kernel) rfl
theorem wF_X9_100 : Cond.fieldLink RX9 100 "TrayTurns$Now" "portions" "[I" ∈ tblG := tG 106 (by decide +kernel) rfl
theorem wF_X8_75 : Cond.fieldLink RX8 75 "TrayTurns$Now" "portions" "[I" ∈ tblG := tG 107 (by decide +kernel) rfl
theorem wF_X7_15 : Cond.fieldLink RX7 15 "TrayTurns$Now" "places" "[I" ∈ tblG := tG 108 (by decide +kernel) rfl
theorem wF_X8_47 : Cond.fieldLink RX8 47 "TrayTurns$Now" "places" "[I" ∈ tblG := tG 109 (by decide +kernel) rfl
theorem wF_X11_148 : Cond.fieldLink RX11 148 "TrayTurns$Now" "places" "[I" ∈ tblG := tG 110 (by decide +kernel) rfl
theorem wF_X9_97 : Cond.fieldLink RX9 97 "TrayTurns$Now" "places" "[I" ∈ tblG := tG 111 (by decide +kernel) rfl
theorem wF_X7_18 : Cond.fieldLink RX7 18 "TrayTurns$Now" "sits" "[I" ∈ tblG := tG 112 (by decide +kernel) rfl
theorem wF_X8_57 : Cond.fieldLink RX8 57 "TrayTurns$Now" "sits" "[I" ∈ tblG := tG 113 (by decide +kernel) rfl
theorem wF_X11_126 : Cond.fieldLink RX11 126 "TrayTurns$Now" "sits" "[I" ∈ tblG := tG 114 (by decide +kernel) rfl
theorem wF_X9_78 : Cond.fieldLink RX9 78 "TrayTurns$Now" "sits" "[I" ∈ tblG := tG 115 (by decide +kernel) rfl
theorem wF_X7_21 : Cond.fieldLink RX7 21 "TrayTurns$Now" "had" "[I" ∈ tblG := tG 116 (by decide +kernel) rfl
theorem wF_X11_135 : Cond.fieldLink RX11 135 "TrayTurns$Now" "had" "[I" ∈ tblG := tG 117 (by decide +kernel) rfl
theorem wF_X8_68 : Cond.fieldLink RX8 68 "TrayTurns$Now" "had" "[I" ∈ tblG := tG 118 (by decide +kernel) rfl
theorem wArr_char : Cond.arrayClass .char ∈ tblG := tG 130 (by decide +kernel) rfl
theorem wArr_int : Cond.arrayClass .int ∈ tblG := tG 131 (by decide +kernel) rfl
theorem wF_X8_9 : Cond.fieldLink RX8 9 "TrayTurns$Party" "seats" "I" ∈ tblG := tG 132 (by decide +kernel) rfl
theorem wF_X9_69 : Cond.fieldLink RX9 69 "TrayTurns$Party" "seats" "I" ∈ tblG := tG 133 (by decide +kernel) rfl
theorem wF_X11_181 : Cond.fieldLink RX11 181 "TrayTurns$Party" "seats" "I" ∈ tblG := tG 134 (by decide +kernel) rfl
theorem wF_X5_21 : Cond.fieldLink RX5 21 "TrayTurns$Party" "guests" "I" ∈ tblG := tG 135 (by decide +kernel) rfl
theorem wF_X8_35 : Cond.fieldLink RX8 35 "TrayTurns$Party" "guests" "I" ∈ tblG := tG 136 (by decide +kernel) rfl
theorem wF_X9_50 : Cond.fieldLink RX9 50 "TrayTurns$Party" "guests" "I" ∈ tblG := tG 137 (by decide +kernel) rfl
theorem wF_X11_227 : Cond.fieldLink RX11 227 "TrayTurns$Party" "guests" "I" ∈ tblG := tG 138 (by decide +kernel) rfl
theorem wF_X5_28 : Cond.fieldLink RX5 28 "TrayTurns$Party" "dishes" "I" ∈ tblG := tG 139 (by decide +kernel) rfl
theorem wF_X8_38 : Cond.fieldLink RX8 38 "TrayTurns$Party" "dishes" "I" ∈ tblG := tG 140 (by decide +kernel) rfl
theorem wF_X9_56 : Cond.fieldLink RX9 56 "TrayTurns$Party" "dishes" "I" ∈ tblG := tG 141 (by decide +kernel) rfl
theorem wF_X11_263 : Cond.fieldLink RX11 263 "TrayTurns$Party" "dishes" "I" ∈ tblG := tG 142 (by decide +kernel) rfl
theorem wF_X8_15 : Cond.fieldLink RX8 15 "TrayTurns$Party" "arms" "[I" ∈ tblG := tG 143 (by decide +kernel) rfl
theorem wF_X11_129 : Cond.fieldLink RX11 129 "TrayTurns$Party" "arms" "[I" ∈ tblG := tG 144 (by decide +kernel) rfl
theorem wF_X9_88 : Cond.fieldLink RX9 88 "TrayTurns$Party" "arms" "[I" ∈ tblG := tG 145 (by decide +kernel) rfl
theorem wF_X8_19 : Cond.fieldLink RX8 19 "TrayTurns$Party" "likes" "[I" ∈ tblG := tG 146 (by decide +kernel) rfl
theorem wF_X11_132 : Cond.fieldLink RX11 132 "TrayTurns$Party" "likes" "[I" ∈ tblG := tG 147 (by decide +kernel) rfl
theorem wF_X9_94 : Cond.fieldLink RX9 94 "TrayTurns$Party" "likes" "[I" ∈ tblG := tG 148 (by decide +kernel) rfl
theorem wF_X8_22 : Cond.fieldLink RX8 22 "TrayTurns$Party" "tall" "[I" ∈ tblG := tG 149 (by decide +kernel) rfl
theorem wF_X11_154 : Cond.fieldLink RX11 154 "TrayTurns$Party" "tall" "[I" ∈ tblG := tG 150 (by decide +kernel) rfl
theorem wF_X9_103 : Cond.fieldLink RX9 103 "TrayTurns$Party" "tall" "[I" ∈ tblG := tG 151 (by decide +kernel) rfl
theorem wF_X8_28 : Cond.fieldLink RX8 28 "TrayTurns$Party" "start" "LTrayTurns$Now;" ∈ tblG := tG 152 (by decide +kernel) rfl
theorem wF_X11_109 : Cond.fieldLink RX11 109 "TrayTurns$Party" "start" "LTrayTurns$Now;" ∈ tblG := tG 153 (by decide +kernel) rfl
theorem wF_X9_75 : Cond.fieldLink RX9 75 "TrayTurns$Party" "start" "LTrayTurns$Now;" ∈ tblG := tG 154 (by decide +kernel) rfl
theorem wF_X8_32 : Cond.fieldLink RX8 32 "TrayTurns$Party" "furthest" "[I" ∈ tblG := tG 155 (by decide +kernel) rfl
theorem wF_X9_9 : Cond.fieldLink RX9 9 "TrayTurns$Reader" "letters" "[C" ∈ tblG := tG 173 (by decide +kernel) rfl
theorem wF_X11_97 : Cond.fieldLink RX11 97 "TrayTurns$Reader" "letters" "[C" ∈ tblG := tG 174 (by decide +kernel) rfl
theorem wF_X11_93 : Cond.fieldLink RX11 93 "TrayTurns$Reader" "length" "I" ∈ tblG := tG 175 (by decide +kernel) rfl
theorem wF_X9_106 : Cond.fieldLink RX9 106 "TrayTurns$Reader" "length" "I" ∈ tblG := tG 176 (by decide +kernel) rfl
theorem wF_X9_18 : Cond.fieldLink RX9 18 "TrayTurns$Reader" "draft" "LTrayTurns$Party;" ∈ tblG := tG 177 (by decide +kernel) rfl
theorem wF_X9_32 : Cond.fieldLink RX9 32 "TrayTurns$Reader" "sort" "I" ∈ tblG := tG 178 (by decide +kernel) rfl
theorem wF_X9_39 : Cond.fieldLink RX9 39 "TrayTurns$Reader" "start" "I" ∈ tblG := tG 179 (by decide +kernel) rfl
theorem wF_X9_25 : Cond.fieldLink RX9 25 "TrayTurns$Reader" "end" "I" ∈ tblG := tG 180 (by decide +kernel) rfl
theorem wF_X9_66 : Cond.fieldLink RX9 66 "TrayTurns$Reader" "value" "I" ∈ tblG := tG 181 (by decide +kernel) rfl
theorem wK_X11_16 : Cond.classLink RX11 16 RX5 ∈ tblG := tG 197 (by decide +kernel) rfl
theorem wT_X5 : Cond.instantiable RX5 5 ∈ tblG := tG 198 (by decide +kernel) rfl
theorem wI_X5_init : Cond.instanceMethod yX5_init ∈ tblG := tG 200 (by decide +kernel) rfl
theorem wC_X5_init : Cond.code yX5_init cX5_init 1 none ∈ tblG := tG 201 (by decide +kernel) rfl
theorem wM_X5_3 : Cond.methodLink RX5 3 objectInit ∈ tblG := tG 202 (by decide +kernel) rfl
theorem wF_X5_9 : Cond.fieldLink RX5 9 "TrayTurns$Feast" "given" "[I" ∈ tblG := tG 203 (by decide +kernel) rfl
theorem wF_X11_221 : Cond.fieldLink RX11 221 "TrayTurns$Feast" "given" "[I" ∈ tblG := tG 204 (by decide +kernel) rfl
theorem wF_X5_15 : Cond.fieldLink RX5 15 "TrayTurns$Feast" "needs" "[I" ∈ tblG := tG 205 (by decide +kernel) rfl
theorem wF_X5_18 : Cond.fieldLink RX5 18 "TrayTurns$Feast" "left" "[I" ∈ tblG := tG 206 (by decide +kernel) rfl
theorem wF_X5_27 : Cond.fieldLink RX5 27 "TrayTurns$Feast" "guests" "I" ∈ tblG := tG 207 (by decide +kernel) rfl
theorem wF_X5_31 : Cond.fieldLink RX5 31 "TrayTurns$Feast" "dishes" "I" ∈ tblG := tG 208 (by decide +kernel) rfl
theorem wK_X11_23 : Cond.classLink RX11 23 RX0 ∈ tblG := tG 220 (by decide +kernel) rfl
theorem wT_X0 : Cond.instantiable RX0 6 ∈ tblG := tG 221 (by decide +kernel) rfl
theorem wI_X0_init : Cond.instanceMethod yX0_init ∈ tblG := tG 223 (by decide +kernel) rfl
theorem wC_X0_init : Cond.code yX0_init cX0_init 1 none ∈ tblG := tG 224 (by decide +kernel) rfl
theorem wM_X0_1 : Cond.methodLink RX0 1 objectInit ∈ tblG := tG 225 (by decide +kernel) rfl
theorem wF_X4_19 : Cond.fieldLink RX4 19 "TrayTurns$Asked" "number" "I" ∈ tblG := tG 226 (by decide +kernel) rfl
theorem wF_X11_245 : Cond.fieldLink RX11 245 "TrayTurns$Asked" "number" "I" ∈ tblG := tG 227 (by decide +kernel) rfl
theorem wF_X10_19 : Cond.fieldLink RX10 19 "TrayTurns$Asked" "arm" "I" ∈ tblG := tG 228 (by decide +kernel) rfl
theorem wF_X11_248 : Cond.fieldLink RX11 248 "TrayTurns$Asked" "arm" "I" ∈ tblG := tG 229 (by decide +kernel) rfl
theorem wF_X6_13 : Cond.fieldLink RX6 13 "TrayTurns$Asked" "needs" "I" ∈ tblG := tG 230 (by decide +kernel) rfl
theorem wF_X11_251 : Cond.fieldLink RX11 251 "TrayTurns$Asked" "needs" "I" ∈ tblG := tG 231 (by decide +kernel) rfl
theorem wF_X1_19 : Cond.fieldLink RX1 19 "TrayTurns$Asked" "reaches" "I" ∈ tblG := tG 232 (by decide +kernel) rfl
theorem wF_X11_253 : Cond.fieldLink RX11 253 "TrayTurns$Asked" "reaches" "I" ∈ tblG := tG 233 (by decide +kernel) rfl
theorem wF_X3_19 : Cond.fieldLink RX3 19 "TrayTurns$Asked" "turn" "I" ∈ tblG := tG 234 (by decide +kernel) rfl
theorem wF_X11_255 : Cond.fieldLink RX11 255 "TrayTurns$Asked" "turn" "I" ∈ tblG := tG 235 (by decide +kernel) rfl
theorem wF_X6_7 : Cond.fieldLink RX6 7 "TrayTurns$Asked" "traced" "J" ∈ tblG := tG 236 (by decide +kernel) rfl
theorem wF_X1_7 : Cond.fieldLink RX1 7 "TrayTurns$Asked" "traced" "J" ∈ tblG := tG 237 (by decide +kernel) rfl
theorem wF_X2_7 : Cond.fieldLink RX2 7 "TrayTurns$Asked" "traced" "J" ∈ tblG := tG 238 (by decide +kernel) rfl
theorem wF_X10_7 : Cond.fieldLink RX10 7 "TrayTurns$Asked" "traced" "J" ∈ tblG := tG 239 (by decide +kernel) rfl
theorem wF_X3_7 : Cond.fieldLink RX3 7 "TrayTurns$Asked" "traced" "J" ∈ tblG := tG 240 (by decide +kernel) rfl
theorem wF_X4_7 : Cond.fieldLink RX4 7 "TrayTurns$Asked" "traced" "J" ∈ tblG := tG 241 (by decide +kernel) rfl
theorem wF_X11_266 : Cond.fieldLink RX11 266 "TrayTurns$Asked" "traced" "J" ∈ tblG := tG 242 (by decide +kernel) rfl
theorem wK_X11_30 : Cond.classLink RX11 30 RX6 ∈ tblG := tG 256 (by decide +kernel) rfl
theorem wK_X11_36 : Cond.classLink RX11 36 RX8 ∈ tblG := tG 258 (by decide +kernel) rfl
theorem wK_X11_43 : Cond.classLink RX11 43 RX7 ∈ tblG := tG 260 (by decide +kernel) rfl
theorem wT_X6 : Cond.instantiable RX6 0 ∈ tblG := tG 263 (by decide +kernel) rfl
theorem wI_X6_init : Cond.instanceMethod yX6_init ∈ tblG := tG 265 (by decide +kernel) rfl
theorem wC_X6_init : Cond.code yX6_init cX6_init 1 none ∈ tblG := tG 266 (by decide +kernel) rfl
theorem wM_X6_1 : Cond.methodLink RX6 1 objectInit ∈ tblG := tG 267 (by decide +kernel) rfl
theorem wArr_boolean : Cond.arrayClass .boolean ∈ tblG := tG 269 (by decide +kernel) rfl
theorem wK_X11_78 : Cond.classLink RX11 78 RX10 ∈ tblG := tG 270 (by decide +kernel) rfl
theorem wT_X10 : Cond.instantiable RX10 0 ∈ tblG := tG 271 (by decide +kernel) rfl
theorem wI_X10_init : Cond.instanceMethod yX10_init ∈ tblG := tG 273 (by decide +kernel) rfl
theorem wC_X10_init : Cond.code yX10_init cX10_init 1 none ∈ tblG := tG 274 (by decide +kernel) rfl
theorem wP_X10 : Cond.superclass RX10 RX6 ∈ tblG := tG 276 (by decide +kernel) rfl
theorem wK_X11_81 : Cond.classLink RX11 81 RX1 ∈ tblG := tG 277 (by decide +kernel) rfl
theorem wT_X1 : Cond.instantiable RX1 0 ∈ tblG := tG 278 (by decide +kernel) rfl
theorem wI_X1_init : Cond.instanceMethod yX1_init ∈ tblG := tG 280 (by decide +kernel) rfl
theorem wC_X1_init : Cond.code yX1_init cX1_init 1 none ∈ tblG := tG 281 (by decide +kernel) rfl
theorem wP_X1 : Cond.superclass RX1 RX6 ∈ tblG := tG 283 (by decide +kernel) rfl
theorem wK_X11_84 : Cond.classLink RX11 84 RX2 ∈ tblG := tG 284 (by decide +kernel) rfl
theorem wT_X2 : Cond.instantiable RX2 0 ∈ tblG := tG 285 (by decide +kernel) rfl
theorem wI_X2_init : Cond.instanceMethod yX2_init ∈ tblG := tG 287 (by decide +kernel) rfl
theorem wC_X2_init : Cond.code yX2_init cX2_init 1 none ∈ tblG := tG 288 (by decide +kernel) rfl
theorem wP_X2 : Cond.superclass RX2 RX10 ∈ tblG := tG 290 (by decide +kernel) rfl
theorem wK_X11_87 : Cond.classLink RX11 87 RX4 ∈ tblG := tG 291 (by decide +kernel) rfl
theorem wT_X4 : Cond.instantiable RX4 0 ∈ tblG := tG 292 (by decide +kernel) rfl
theorem wI_X4_init : Cond.instanceMethod yX4_init ∈ tblG := tG 294 (by decide +kernel) rfl
theorem wC_X4_init : Cond.code yX4_init cX4_init 1 none ∈ tblG := tG 295 (by decide +kernel) rfl
theorem wP_X4 : Cond.superclass RX4 RX1 ∈ tblG := tG 297 (by decide +kernel) rfl
theorem wK_X11_90 : Cond.classLink RX11 90 RX3 ∈ tblG := tG 298 (by decide +kernel) rfl
theorem wT_X3 : Cond.instantiable RX3 0 ∈ tblG := tG 299 (by decide +kernel) rfl
theorem wI_X3_init : Cond.instanceMethod yX3_init ∈ tblG := tG 301 (by decide +kernel) rfl
theorem wC_X3_init : Cond.code yX3_init cX3_init 1 none ∈ tblG := tG 302 (by decide +kernel) rfl
theorem wP_X3 : Cond.superclass RX3 RX6 ∈ tblG := tG 304 (by decide +kernel) rfl
theorem wF_X11_10 : Cond.fieldLink RX11 10 "TrayTurns" "reader" "LTrayTurns$Reader;" ∈ tblG := tG 305 (by decide +kernel) rfl
theorem wF_X11_19 : Cond.fieldLink RX11 19 "TrayTurns" "feast" "LTrayTurns$Feast;" ∈ tblG := tG 306 (by decide +kernel) rfl
theorem wF_X11_26 : Cond.fieldLink RX11 26 "TrayTurns" "asked" "LTrayTurns$Asked;" ∈ tblG := tG 307 (by decide +kernel) rfl
theorem wF_X11_32 : Cond.fieldLink RX11 32 "TrayTurns" "kinds" "[LTrayTurns$GuestKind;" ∈ tblG := tG 308 (by decide +kernel) rfl
theorem wF_X11_39 : Cond.fieldLink RX11 39 "TrayTurns" "party" "LTrayTurns$Party;" ∈ tblG := tG 309 (by decide +kernel) rfl
theorem wF_X11_46 : Cond.fieldLink RX11 46 "TrayTurns" "state" "LTrayTurns$Now;" ∈ tblG := tG 310 (by decide +kernel) rfl
theorem wF_X11_50 : Cond.fieldLink RX11 50 "TrayTurns" "trial" "LTrayTurns$Now;" ∈ tblG := tG 311 (by decide +kernel) rfl
theorem wF_X11_53 : Cond.fieldLink RX11 53 "TrayTurns" "known" "[LTrayTurns$Now;" ∈ tblG := tG 312 (by decide +kernel) rfl
theorem wF_X11_116 : Cond.fieldLink RX11 116 "TrayTurns" "knownCount" "I" ∈ tblG := tG 313 (by decide +kernel) rfl
theorem wF_X11_57 : Cond.fieldLink RX11 57 "TrayTurns" "images" "[LTrayTurns$Now;" ∈ tblG := tG 314 (by decide +kernel) rfl
theorem wF_X11_60 : Cond.fieldLink RX11 60 "TrayTurns" "kept" "[Z" ∈ tblG := tG 315 (by decide +kernel) rfl
theorem wF_X11_64 : Cond.fieldLink RX11 64 "TrayTurns" "seenDish" "[I" ∈ tblG := tG 316 (by decide +kernel) rfl
theorem wF_X11_68 : Cond.fieldLink RX11 68 "TrayTurns" "seenTurn" "[I" ∈ tblG := tG 317 (by decide +kernel) rfl
theorem wF_X11_71 : Cond.fieldLink RX11 71 "TrayTurns" "seenReached" "[Z" ∈ tblG := tG 318 (by decide +kernel) rfl
theorem wF_X11_119 : Cond.fieldLink RX11 119 "TrayTurns" "seenCount" "I" ∈ tblG := tG 319 (by decide +kernel) rfl
theorem wF_X11_74 : Cond.fieldLink RX11 74 "TrayTurns" "chances" "[I" ∈ tblG := tG 320 (by decide +kernel) rfl
theorem wM_L_13 : Cond.methodLink RL 13 yX11_type ∈ tblG := tG 354 (by decide +kernel) rfl
theorem wI_X11_type : Cond.instanceMethod yX11_type ∈ tblG := tG 355 (by decide +kernel) rfl
theorem wQ_X11_type : Cond.selects RX11 yX11_type yX11_type ∈ tblG := tG 356 (by decide +kernel) rfl
theorem wC_X11_type : Cond.code yX11_type cX11_type 2 (some .int) ∈ tblG := tG 357 (by decide +kernel) rfl
theorem wM_L_18 : Cond.methodLink RL 18 yX11_clear ∈ tblG := tG 358 (by decide +kernel) rfl
theorem wI_X11_clear : Cond.instanceMethod yX11_clear ∈ tblG := tG 359 (by decide +kernel) rfl
theorem wQ_X11_clear : Cond.selects RX11 yX11_clear yX11_clear ∈ tblG := tG 360 (by decide +kernel) rfl
theorem wC_X11_clear : Cond.code yX11_clear cX11_clear 2 (some .int) ∈ tblG := tG 361 (by decide +kernel) rfl
theorem wM_L_23 : Cond.methodLink RL 23 yX11_table ∈ tblG := tG 362 (by decide +kernel) rfl
theorem wI_X11_table : Cond.instanceMethod yX11_table ∈ tblG := tG 363 (by decide +kernel) rfl
theorem wQ_X11_table : Cond.selects RX11 yX11_table yX11_table ∈ tblG := tG 364 (by decide +kernel) rfl
theorem wC_X11_table : Cond.code yX11_table cX11_table 3 (some .int) ∈ tblG := tG 365 (by decide +kernel) rfl
theorem wM_X11_101 : Cond.methodLink RX11 101 yX9_read ∈ tblG := tG 366 (by decide +kernel) rfl
theorem wI_X9_read : Cond.instanceMethod yX9_read ∈ tblG := tG 367 (by decide +kernel) rfl
theorem wQ_X9_read : Cond.selects RX9 yX9_read yX9_read ∈ tblG := tG 368 (by decide +kernel) rfl
theorem wC_X9_read : Cond.code yX9_read cX9_read 2 (some .int) ∈ tblG := tG 369 (by decide +kernel) rfl
theorem wM_X9_22 : Cond.methodLink RX9 22 yX8_empty ∈ tblG := tG 370 (by decide +kernel) rfl
theorem wI_X8_empty : Cond.instanceMethod yX8_empty ∈ tblG := tG 371 (by decide +kernel) rfl
theorem wQ_X8_empty : Cond.selects RX8 yX8_empty yX8_empty ∈ tblG := tG 372 (by decide +kernel) rfl
theorem wC_X8_empty : Cond.code yX8_empty cX8_empty 1 none ∈ tblG := tG 373 (by decide +kernel) rfl
theorem wM_X9_29 : Cond.methodLink RX9 29 yX9_nextToken ∈ tblG := tG 374 (by decide +kernel) rfl
theorem wI_X9_nextToken : Cond.instanceMethod yX9_nextToken ∈ tblG := tG 376 (by decide +kernel) rfl
theorem wC_X9_nextToken : Cond.code yX9_nextToken cX9_nextToken 1 none ∈ tblG := tG 377 (by decide +kernel) rfl
theorem wM_X9_109 : Cond.methodLink RX9 109 yX9_isSmall ∈ tblG := tG 378 (by decide +kernel) rfl
theorem wS_X9_isSmall : Cond.static yX9_isSmall ∈ tblG := tG 379 (by decide +kernel) rfl
theorem wC_X9_isSmall : Cond.code yX9_isSmall cX9_isSmall 1 (some .boolean) ∈ tblG := tG 380 (by decide +kernel) rfl
theorem wM_X9_112 : Cond.methodLink RX9 112 yX9_nextWord ∈ tblG := tG 381 (by decide +kernel) rfl
theorem wI_X9_nextWord : Cond.instanceMethod yX9_nextWord ∈ tblG := tG 383 (by decide +kernel) rfl
theorem wC_X9_nextWord : Cond.code yX9_nextWord cX9_nextWord 1 none ∈ tblG := tG 384 (by decide +kernel) rfl
theorem wM_X9_115 : Cond.methodLink RX9 115 yX9_isDigit ∈ tblG := tG 385 (by decide +kernel) rfl
theorem wS_X9_isDigit : Cond.static yX9_isDigit ∈ tblG := tG 386 (by decide +kernel) rfl
theorem wC_X9_isDigit : Cond.code yX9_isDigit cX9_isDigit 1 (some .boolean) ∈ tblG := tG 387 (by decide +kernel) rfl
theorem wM_X9_118 : Cond.methodLink RX9 118 yX9_nextNumber ∈ tblG := tG 388 (by decide +kernel) rfl
theorem wI_X9_nextNumber : Cond.instanceMethod yX9_nextNumber ∈ tblG := tG 390 (by decide +kernel) rfl
theorem wC_X9_nextNumber : Cond.code yX9_nextNumber cX9_nextNumber 2 none ∈ tblG := tG 391 (by decide +kernel) rfl
theorem wM_X9_121 : Cond.methodLink RX9 121 yJ9_min_7cf53 ∈ tblG := tG 392 (by decide +kernel) rfl
theorem wS_J9_min_7cf53 : Cond.static yJ9_min_7cf53 ∈ tblG := tG 393 (by decide +kernel) rfl
theorem wC_J9_min_7cf53 : Cond.code yJ9_min_7cf53 cJ9_min_7cf53 2 (some .int) ∈ tblG := tG 394 (by decide +kernel) rfl
theorem wM_X9_35 : Cond.methodLink RX9 35 yX9_readItem ∈ tblG := tG 395 (by decide +kernel) rfl
theorem wI_X9_readItem : Cond.instanceMethod yX9_readItem ∈ tblG := tG 397 (by decide +kernel) rfl
theorem wC_X9_readItem : Cond.code yX9_readItem cX9_readItem 2 (some .boolean) ∈ tblG := tG 398 (by decide +kernel) rfl
theorem wM_X9_42 : Cond.methodLink RX9 42 yX9_isWord ∈ tblG := tG 399 (by decide +kernel) rfl
theorem wI_X9_isWord : Cond.instanceMethod yX9_isWord ∈ tblG := tG 401 (by decide +kernel) rfl
theorem wC_X9_isWord : Cond.code yX9_isWord cX9_isWord 2 (some .boolean) ∈ tblG := tG 402 (by decide +kernel) rfl
theorem wM_X9_46 : Cond.methodLink RX9 46 yX9_readSeats ∈ tblG := tG 403 (by decide +kernel) rfl
theorem wI_X9_readSeats : Cond.instanceMethod yX9_readSeats ∈ tblG := tG 405 (by decide +kernel) rfl
theorem wC_X9_readSeats : Cond.code yX9_readSeats cX9_readSeats 1 (some .boolean) ∈ tblG := tG 406 (by decide +kernel) rfl
theorem wM_X9_62 : Cond.methodLink RX9 62 yX9_readNumber ∈ tblG := tG 407 (by decide +kernel) rfl
theorem wI_X9_readNumber : Cond.instanceMethod yX9_readNumber ∈ tblG := tG 409 (by decide +kernel) rfl
theorem wC_X9_readNumber : Cond.code yX9_readNumber cX9_readNumber 3 (some .boolean) ∈ tblG := tG 410 (by decide +kernel) rfl
theorem wM_X9_72 : Cond.methodLink RX9 72 yX9_readClose ∈ tblG := tG 411 (by decide +kernel) rfl
theorem wI_X9_readClose : Cond.instanceMethod yX9_readClose ∈ tblG := tG 413 (by decide +kernel) rfl
theorem wC_X9_readClose : Cond.code yX9_readClose cX9_readClose 1 (some .boolean) ∈ tblG := tG 414 (by decide +kernel) rfl
theorem wM_X9_53 : Cond.methodLink RX9 53 yX9_readGuest ∈ tblG := tG 415 (by decide +kernel) rfl
theorem wI_X9_readGuest : Cond.instanceMethod yX9_readGuest ∈ tblG := tG 417 (by decide +kernel) rfl
theorem wC_X9_readGuest : Cond.code yX9_readGuest cX9_readGuest 2 (some .boolean) ∈ tblG := tG 418 (by decide +kernel) rfl
theorem wM_X9_84 : Cond.methodLink RX9 84 yX9_isAmong ∈ tblG := tG 419 (by decide +kernel) rfl
theorem wI_X9_isAmong : Cond.instanceMethod yX9_isAmong ∈ tblG := tG 421 (by decide +kernel) rfl
theorem wC_X9_isAmong : Cond.code yX9_isAmong cX9_isAmong 4 (some .boolean) ∈ tblG := tG 422 (by decide +kernel) rfl
theorem wM_X9_91 : Cond.methodLink RX9 91 yX9_readRow ∈ tblG := tG 423 (by decide +kernel) rfl
theorem wI_X9_readRow : Cond.instanceMethod yX9_readRow ∈ tblG := tG 425 (by decide +kernel) rfl
theorem wC_X9_readRow : Cond.code yX9_readRow cX9_readRow 2 (some .boolean) ∈ tblG := tG 426 (by decide +kernel) rfl
theorem wM_X9_59 : Cond.methodLink RX9 59 yX9_readDish ∈ tblG := tG 427 (by decide +kernel) rfl
theorem wI_X9_readDish : Cond.instanceMethod yX9_readDish ∈ tblG := tG 429 (by decide +kernel) rfl
theorem wC_X9_readDish : Cond.code yX9_readDish cX9_readDish 2 (some .boolean) ∈ tblG := tG 430 (by decide +kernel) rfl
theorem wM_X11_105 : Cond.methodLink RX11 105 yX9_handOver ∈ tblG := tG 431 (by decide +kernel) rfl
theorem wI_X9_handOver : Cond.instanceMethod yX9_handOver ∈ tblG := tG 432 (by decide +kernel) rfl
theorem wQ_X9_handOver : Cond.selects RX9 yX9_handOver yX9_handOver ∈ tblG := tG 433 (by decide +kernel) rfl
theorem wC_X9_handOver : Cond.code yX9_handOver cX9_handOver 3 (some (.object "TrayTurns$Party")) ∈ tblG := tG 434 (by decide +kernel) rfl
theorem wM_X11_112 : Cond.methodLink RX11 112 yX7_become ∈ tblG := tG 435 (by decide +kernel) rfl
theorem wI_X7_become : Cond.instanceMethod yX7_become ∈ tblG := tG 436 (by decide +kernel) rfl
theorem wQ_X7_become : Cond.selects RX7 yX7_become yX7_become ∈ tblG := tG 437 (by decide +kernel) rfl
theorem wC_X7_become : Cond.code yX7_become cX7_become 2 none ∈ tblG := tG 438 (by decide +kernel) rfl
theorem wM_X7_28 : Cond.methodLink RX7 28 arraycopyName ∈ tblG := tG 439 (by decide +kernel) rfl
theorem wS_arraycopyName : Cond.static arraycopyName ∈ tblG := tG 440 (by decide +kernel) rfl
theorem wNat_arraycopyName : Cond.native arraycopyName ∈ tblG := tG 441 (by decide +kernel) rfl
theorem wM_L_27 : Cond.methodLink RL 27 yX11_guest ∈ tblG := tG 442 (by decide +kernel) rfl
theorem wI_X11_guest : Cond.instanceMethod yX11_guest ∈ tblG := tG 443 (by decide +kernel) rfl
theorem wQ_X11_guest : Cond.selects RX11 yX11_guest yX11_guest ∈ tblG := tG 444 (by decide +kernel) rfl
theorem wC_X11_guest : Cond.code yX11_guest cX11_guest 3 (some .int) ∈ tblG := tG 445 (by decide +kernel) rfl
theorem wM_X11_122 : Cond.methodLink RX11 122 yX11_isGuest ∈ tblG := tG 446 (by decide +kernel) rfl
theorem wI_X11_isGuest : Cond.instanceMethod yX11_isGuest ∈ tblG := tG 448 (by decide +kernel) rfl
theorem wC_X11_isGuest : Cond.code yX11_isGuest cX11_isGuest 2 (some .boolean) ∈ tblG := tG 449 (by decide +kernel) rfl
theorem wM_X11_138 : Cond.methodLink RX11 138 yX8_needs ∈ tblG := tG 450 (by decide +kernel) rfl
theorem wI_X8_needs : Cond.instanceMethod yX8_needs ∈ tblG := tG 451 (by decide +kernel) rfl
theorem wQ_X8_needs : Cond.selects RX8 yX8_needs yX8_needs ∈ tblG := tG 452 (by decide +kernel) rfl
theorem wC_X8_needs : Cond.code yX8_needs cX8_needs 4 (some .int) ∈ tblG := tG 453 (by decide +kernel) rfl
theorem wM_X11_142 : Cond.methodLink RX11 142 yX8_reachedBy ∈ tblG := tG 454 (by decide +kernel) rfl
theorem wI_X8_reachedBy : Cond.instanceMethod yX8_reachedBy ∈ tblG := tG 455 (by decide +kernel) rfl
theorem wQ_X8_reachedBy : Cond.selects RX8 yX8_reachedBy yX8_reachedBy ∈ tblG := tG 456 (by decide +kernel) rfl
theorem wC_X8_reachedBy : Cond.code yX8_reachedBy cX8_reachedBy 5 (some .int) ∈ tblG := tG 457 (by decide +kernel) rfl
theorem wM_X8_64 : Cond.methodLink RX8 64 yX8_reaches ∈ tblG := tG 458 (by decide +kernel) rfl
theorem wI_X8_reaches : Cond.instanceMethod yX8_reaches ∈ tblG := tG 459 (by decide +kernel) rfl
theorem wQ_X8_reaches : Cond.selects RX8 yX8_reaches yX8_reaches ∈ tblG := tG 460 (by decide +kernel) rfl
theorem wC_X8_reaches : Cond.code yX8_reaches cX8_reaches 6 (some .boolean) ∈ tblG := tG 461 (by decide +kernel) rfl
theorem wM_X8_60 : Cond.methodLink RX8 60 yX8_gap ∈ tblG := tG 462 (by decide +kernel) rfl
theorem wI_X8_gap : Cond.instanceMethod yX8_gap ∈ tblG := tG 464 (by decide +kernel) rfl
theorem wC_X8_gap : Cond.code yX8_gap cX8_gap 5 (some .int) ∈ tblG := tG 465 (by decide +kernel) rfl
theorem wM_X8_53 : Cond.methodLink RX8 53 yX8_around ∈ tblG := tG 466 (by decide +kernel) rfl
theorem wI_X8_around : Cond.instanceMethod yX8_around ∈ tblG := tG 467 (by decide +kernel) rfl
theorem wQ_X8_around : Cond.selects RX8 yX8_around yX8_around ∈ tblG := tG 468 (by decide +kernel) rfl
theorem wC_X8_around : Cond.code yX8_around cX8_around 2 (some .int) ∈ tblG := tG 469 (by decide +kernel) rfl
theorem wM_X8_41 : Cond.methodLink RX8 41 yJ9_floorMod_7cf53 ∈ tblG := tG 470 (by decide +kernel) rfl
theorem wS_J9_floorMod_7cf53 : Cond.static yJ9_floorMod_7cf53 ∈ tblG := tG 471 (by decide +kernel) rfl
theorem wC_J9_floorMod_7cf53 : Cond.code yJ9_floorMod_7cf53 cJ9_floorMod_7cf53 3 (some .int) ∈ tblG := tG 472 (by decide +kernel) rfl
theorem wM_L_32 : Cond.methodLink RL 32 yX11_dish ∈ tblG := tG 473 (by decide +kernel) rfl
theorem wI_X11_dish : Cond.instanceMethod yX11_dish ∈ tblG := tG 474 (by decide +kernel) rfl
theorem wQ_X11_dish : Cond.selects RX11 yX11_dish yX11_dish ∈ tblG := tG 475 (by decide +kernel) rfl
theorem wC_X11_dish : Cond.code yX11_dish cX11_dish 3 (some .int) ∈ tblG := tG 476 (by decide +kernel) rfl
theorem wM_X11_145 : Cond.methodLink RX11 145 yX11_isDish ∈ tblG := tG 477 (by decide +kernel) rfl
theorem wI_X11_isDish : Cond.instanceMethod yX11_isDish ∈ tblG := tG 479 (by decide +kernel) rfl
theorem wC_X11_isDish : Cond.code yX11_isDish cX11_isDish 2 (some .boolean) ∈ tblG := tG 480 (by decide +kernel) rfl
theorem wM_X11_157 : Cond.methodLink RX11 157 yX8_seatBefore ∈ tblG := tG 481 (by decide +kernel) rfl
theorem wI_X8_seatBefore : Cond.instanceMethod yX8_seatBefore ∈ tblG := tG 482 (by decide +kernel) rfl
theorem wQ_X8_seatBefore : Cond.selects RX8 yX8_seatBefore yX8_seatBefore ∈ tblG := tG 483 (by decide +kernel) rfl
theorem wC_X8_seatBefore : Cond.code yX8_seatBefore cX8_seatBefore 3 (some .int) ∈ tblG := tG 484 (by decide +kernel) rfl
theorem wM_X11_163 : Cond.methodLink RX11 163 yX8_whoReach ∈ tblG := tG 485 (by decide +kernel) rfl
theorem wI_X8_whoReach : Cond.instanceMethod yX8_whoReach ∈ tblG := tG 486 (by decide +kernel) rfl
theorem wQ_X8_whoReach : Cond.selects RX8 yX8_whoReach yX8_whoReach ∈ tblG := tG 487 (by decide +kernel) rfl
theorem wC_X8_whoReach : Cond.code yX8_whoReach cX8_whoReach 6 (some .int) ∈ tblG := tG 488 (by decide +kernel) rfl
theorem wM_L_36 : Cond.methodLink RL 36 yX11_now ∈ tblG := tG 489 (by decide +kernel) rfl
theorem wI_X11_now : Cond.instanceMethod yX11_now ∈ tblG := tG 490 (by decide +kernel) rfl
theorem wQ_X11_now : Cond.selects RX11 yX11_now yX11_now ∈ tblG := tG 491 (by decide +kernel) rfl
theorem wC_X11_now : Cond.code yX11_now cX11_now 2 (some .int) ∈ tblG := tG 492 (by decide +kernel) rfl
theorem wM_X11_167 : Cond.methodLink RX11 167 yX11_allPortions ∈ tblG := tG 493 (by decide +kernel) rfl
theorem wI_X11_allPortions : Cond.instanceMethod yX11_allPortions ∈ tblG := tG 495 (by decide +kernel) rfl
theorem wC_X11_allPortions : Cond.code yX11_allPortions cX11_allPortions 3 (some .int) ∈ tblG := tG 496 (by decide +kernel) rfl
theorem wM_X11_170 : Cond.methodLink RX11 170 yX8_tour ∈ tblG := tG 497 (by decide +kernel) rfl
theorem wI_X8_tour : Cond.instanceMethod yX8_tour ∈ tblG := tG 498 (by decide +kernel) rfl
theorem wQ_X8_tour : Cond.selects RX8 yX8_tour yX8_tour ∈ tblG := tG 499 (by decide +kernel) rfl
theorem wC_X8_tour : Cond.code yX8_tour cX8_tour 5 (some .int) ∈ tblG := tG 500 (by decide +kernel) rfl
theorem wM_X8_78 : Cond.methodLink RX8 78 yX8_hasEnough ∈ tblG := tG 501 (by decide +kernel) rfl
theorem wI_X8_hasEnough : Cond.instanceMethod yX8_hasEnough ∈ tblG := tG 503 (by decide +kernel) rfl
theorem wC_X8_hasEnough : Cond.code yX8_hasEnough cX8_hasEnough 5 (some .boolean) ∈ tblG := tG 504 (by decide +kernel) rfl
theorem wM_X8_71 : Cond.methodLink RX8 71 yX8_needs ∈ tblG := tG 505 (by decide +kernel) rfl
theorem wM_X8_82 : Cond.methodLink RX8 82 yX8_fillFurthest ∈ tblG := tG 506 (by decide +kernel) rfl
theorem wI_X8_fillFurthest : Cond.instanceMethod yX8_fillFurthest ∈ tblG := tG 508 (by decide +kernel) rfl
theorem wC_X8_fillFurthest : Cond.code yX8_fillFurthest cX8_fillFurthest 6 none ∈ tblG := tG 509 (by decide +kernel) rfl
theorem wM_X8_92 : Cond.methodLink RX8 92 yJ7_fill_53178 ∈ tblG := tG 510 (by decide +kernel) rfl
theorem wS_J7_fill_53178 : Cond.static yJ7_fill_53178 ∈ tblG := tG 511 (by decide +kernel) rfl
theorem wC_J7_fill_53178 : Cond.code yJ7_fill_53178 cJ7_fill_53178 4 none ∈ tblG := tG 512 (by decide +kernel) rfl
theorem wM_X8_98 : Cond.methodLink RX8 98 yX8_stepsBy ∈ tblG := tG 513 (by decide +kernel) rfl
theorem wI_X8_stepsBy : Cond.instanceMethod yX8_stepsBy ∈ tblG := tG 514 (by decide +kernel) rfl
theorem wQ_X8_stepsBy : Cond.selects RX8 yX8_stepsBy yX8_stepsBy ∈ tblG := tG 515 (by decide +kernel) rfl
theorem wC_X8_stepsBy : Cond.code yX8_stepsBy cX8_stepsBy 6 (some .int) ∈ tblG := tG 516 (by decide +kernel) rfl
theorem wM_X8_89 : Cond.methodLink RX8 89 yJ9_max_7cf53 ∈ tblG := tG 517 (by decide +kernel) rfl
theorem wS_J9_max_7cf53 : Cond.static yJ9_max_7cf53 ∈ tblG := tG 518 (by decide +kernel) rfl
theorem wC_J9_max_7cf53 : Cond.code yJ9_max_7cf53 cJ9_max_7cf53 2 (some .int) ∈ tblG := tG 519 (by decide +kernel) rfl
theorem wM_X8_86 : Cond.methodLink RX8 86 yJ9_min_7cf53 ∈ tblG := tG 520 (by decide +kernel) rfl
theorem wM_X11_174 : Cond.methodLink RX11 174 yX11_swap ∈ tblG := tG 521 (by decide +kernel) rfl
theorem wI_X11_swap : Cond.instanceMethod yX11_swap ∈ tblG := tG 523 (by decide +kernel) rfl
theorem wC_X11_swap : Cond.code yX11_swap cX11_swap 6 (some .int) ∈ tblG := tG 524 (by decide +kernel) rfl
theorem wM_X11_207 : Cond.methodLink RX11 207 yX7_changeSeats ∈ tblG := tG 525 (by decide +kernel) rfl
theorem wI_X7_changeSeats : Cond.instanceMethod yX7_changeSeats ∈ tblG := tG 526 (by decide +kernel) rfl
theorem wQ_X7_changeSeats : Cond.selects RX7 yX7_changeSeats yX7_changeSeats ∈ tblG := tG 527 (by decide +kernel) rfl
theorem wC_X7_changeSeats : Cond.code yX7_changeSeats cX7_changeSeats 4 none ∈ tblG := tG 528 (by decide +kernel) rfl
theorem wM_X11_177 : Cond.methodLink RX11 177 yX5_share ∈ tblG := tG 529 (by decide +kernel) rfl
theorem wI_X5_share : Cond.instanceMethod yX5_share ∈ tblG := tG 530 (by decide +kernel) rfl
theorem wQ_X5_share : Cond.selects RX5 yX5_share yX5_share ∈ tblG := tG 531 (by decide +kernel) rfl
theorem wC_X5_share : Cond.code yX5_share cX5_share 6 (some .int) ∈ tblG := tG 532 (by decide +kernel) rfl
theorem wM_X5_37 : Cond.methodLink RX5 37 arraycopyName ∈ tblG := tG 533 (by decide +kernel) rfl
theorem wM_X5_43 : Cond.methodLink RX5 43 yX8_needs ∈ tblG := tG 534 (by decide +kernel) rfl
theorem wM_X5_46 : Cond.methodLink RX5 46 yX5_most ∈ tblG := tG 535 (by decide +kernel) rfl
theorem wI_X5_most : Cond.instanceMethod yX5_most ∈ tblG := tG 537 (by decide +kernel) rfl
theorem wC_X5_most : Cond.code yX5_most cX5_most 6 (some .int) ∈ tblG := tG 538 (by decide +kernel) rfl
theorem wM_X5_54 : Cond.methodLink RX5 54 yJ9_min_7cf53 ∈ tblG := tG 539 (by decide +kernel) rfl
theorem wM_X5_50 : Cond.methodLink RX5 50 yX5_firstFor ∈ tblG := tG 540 (by decide +kernel) rfl
theorem wI_X5_firstFor : Cond.instanceMethod yX5_firstFor ∈ tblG := tG 542 (by decide +kernel) rfl
theorem wC_X5_firstFor : Cond.code yX5_firstFor cX5_firstFor 4 (some .int) ∈ tblG := tG 543 (by decide +kernel) rfl
theorem wM_L_40 : Cond.methodLink RL 40 yX11_spins ∈ tblG := tG 544 (by decide +kernel) rfl
theorem wI_X11_spins : Cond.instanceMethod yX11_spins ∈ tblG := tG 545 (by decide +kernel) rfl
theorem wQ_X11_spins : Cond.selects RX11 yX11_spins yX11_spins ∈ tblG := tG 546 (by decide +kernel) rfl
theorem wC_X11_spins : Cond.code yX11_spins cX11_spins 3 (some .int) ∈ tblG := tG 547 (by decide +kernel) rfl
theorem wM_X11_184 : Cond.methodLink RX11 184 yX11_isBit ∈ tblG := tG 548 (by decide +kernel) rfl
theorem wS_X11_isBit : Cond.static yX11_isBit ∈ tblG := tG 549 (by decide +kernel) rfl
theorem wC_X11_isBit : Cond.code yX11_isBit cX11_isBit 1 (some .boolean) ∈ tblG := tG 550 (by decide +kernel) rfl
theorem wM_X11_187 : Cond.methodLink RX11 187 yX11_remember ∈ tblG := tG 551 (by decide +kernel) rfl
theorem wI_X11_remember : Cond.instanceMethod yX11_remember ∈ tblG := tG 553 (by decide +kernel) rfl
theorem wC_X11_remember : Cond.code yX11_remember cX11_remember 3 none ∈ tblG := tG 554 (by decide +kernel) rfl
theorem wM_X11_190 : Cond.methodLink RX11 190 yX8_around ∈ tblG := tG 555 (by decide +kernel) rfl
theorem wM_X11_194 : Cond.methodLink RX11 194 yX11_spill ∈ tblG := tG 556 (by decide +kernel) rfl
theorem wI_X11_spill : Cond.instanceMethod yX11_spill ∈ tblG := tG 558 (by decide +kernel) rfl
theorem wC_X11_spill : Cond.code yX11_spill cX11_spill 3 (some .int) ∈ tblG := tG 559 (by decide +kernel) rfl
theorem wM_L_44 : Cond.methodLink RL 44 yX11_takes ∈ tblG := tG 560 (by decide +kernel) rfl
theorem wI_X11_takes : Cond.instanceMethod yX11_takes ∈ tblG := tG 561 (by decide +kernel) rfl
theorem wQ_X11_takes : Cond.selects RX11 yX11_takes yX11_takes ∈ tblG := tG 562 (by decide +kernel) rfl
theorem wC_X11_takes : Cond.code yX11_takes cX11_takes 3 (some .int) ∈ tblG := tG 563 (by decide +kernel) rfl
theorem wM_X11_197 : Cond.methodLink RX11 197 yX8_reaches ∈ tblG := tG 564 (by decide +kernel) rfl
theorem wM_L_48 : Cond.methodLink RL 48 yX11_moves ∈ tblG := tG 565 (by decide +kernel) rfl
theorem wI_X11_moves : Cond.instanceMethod yX11_moves ∈ tblG := tG 566 (by decide +kernel) rfl
theorem wQ_X11_moves : Cond.selects RX11 yX11_moves yX11_moves ∈ tblG := tG 567 (by decide +kernel) rfl
theorem wC_X11_moves : Cond.code yX11_moves cX11_moves 4 (some .int) ∈ tblG := tG 568 (by decide +kernel) rfl
theorem wM_X11_201 : Cond.methodLink RX11 201 yX11_isTurn ∈ tblG := tG 569 (by decide +kernel) rfl
theorem wI_X11_isTurn : Cond.instanceMethod yX11_isTurn ∈ tblG := tG 571 (by decide +kernel) rfl
theorem wC_X11_isTurn : Cond.code yX11_isTurn cX11_isTurn 2 (some .boolean) ∈ tblG := tG 572 (by decide +kernel) rfl
theorem wM_X11_204 : Cond.methodLink RX11 204 yX11_isEmpty ∈ tblG := tG 573 (by decide +kernel) rfl
theorem wI_X11_isEmpty : Cond.instanceMethod yX11_isEmpty ∈ tblG := tG 575 (by decide +kernel) rfl
theorem wC_X11_isEmpty : Cond.code yX11_isEmpty cX11_isEmpty 3 (some .boolean) ∈ tblG := tG 576 (by decide +kernel) rfl
theorem wM_L_52 : Cond.methodLink RL 52 yX11_changes ∈ tblG := tG 577 (by decide +kernel) rfl
theorem wI_X11_changes : Cond.instanceMethod yX11_changes ∈ tblG := tG 578 (by decide +kernel) rfl
theorem wQ_X11_changes : Cond.selects RX11 yX11_changes yX11_changes ∈ tblG := tG 579 (by decide +kernel) rfl
theorem wC_X11_changes : Cond.code yX11_changes cX11_changes 3 (some .int) ∈ tblG := tG 580 (by decide +kernel) rfl
theorem wM_L_56 : Cond.methodLink RL 56 yX11_undo ∈ tblG := tG 581 (by decide +kernel) rfl
theorem wI_X11_undo : Cond.instanceMethod yX11_undo ∈ tblG := tG 582 (by decide +kernel) rfl
theorem wQ_X11_undo : Cond.selects RX11 yX11_undo yX11_undo ∈ tblG := tG 583 (by decide +kernel) rfl
theorem wC_X11_undo : Cond.code yX11_undo cX11_undo 1 (some .int) ∈ tblG := tG 584 (by decide +kernel) rfl
theorem wM_L_60 : Cond.methodLink RL 60 yX11_steps ∈ tblG := tG 585 (by decide +kernel) rfl
theorem wI_X11_steps : Cond.instanceMethod yX11_steps ∈ tblG := tG 586 (by decide +kernel) rfl
theorem wQ_X11_steps : Cond.selects RX11 yX11_steps yX11_steps ∈ tblG := tG 587 (by decide +kernel) rfl
theorem wC_X11_steps : Cond.code yX11_steps cX11_steps 7 (some .int) ∈ tblG := tG 588 (by decide +kernel) rfl
theorem wM_X11_211 : Cond.methodLink RX11 211 yX8_stepsBy ∈ tblG := tG 589 (by decide +kernel) rfl
theorem wM_X11_215 : Cond.methodLink RX11 215 yJ9_min_7cf53 ∈ tblG := tG 590 (by decide +kernel) rfl
theorem wM_L_65 : Cond.methodLink RL 65 yX11_puts ∈ tblG := tG 591 (by decide +kernel) rfl
theorem wI_X11_puts : Cond.instanceMethod yX11_puts ∈ tblG := tG 592 (by decide +kernel) rfl
theorem wQ_X11_puts : Cond.selects RX11 yX11_puts yX11_puts ∈ tblG := tG 593 (by decide +kernel) rfl
theorem wC_X11_puts : Cond.code yX11_puts cX11_puts 6 (some .int) ∈ tblG := tG 594 (by decide +kernel) rfl
theorem wM_L_69 : Cond.methodLink RL 69 yX11_fed ∈ tblG := tG 595 (by decide +kernel) rfl
theorem wI_X11_fed : Cond.instanceMethod yX11_fed ∈ tblG := tG 596 (by decide +kernel) rfl
theorem wQ_X11_fed : Cond.selects RX11 yX11_fed yX11_fed ∈ tblG := tG 597 (by decide +kernel) rfl
theorem wC_X11_fed : Cond.code yX11_fed cX11_fed 2 (some .int) ∈ tblG := tG 598 (by decide +kernel) rfl
theorem wM_L_73 : Cond.methodLink RL 73 yX11_odds ∈ tblG := tG 599 (by decide +kernel) rfl
theorem wI_X11_odds : Cond.instanceMethod yX11_odds ∈ tblG := tG 600 (by decide +kernel) rfl
theorem wQ_X11_odds : Cond.selects RX11 yX11_odds yX11_odds ∈ tblG := tG 601 (by decide +kernel) rfl
theorem wC_X11_odds : Cond.code yX11_odds cX11_odds 7 (some .int) ∈ tblG := tG 602 (by decide +kernel) rfl
theorem wM_X11_224 : Cond.methodLink RX11 224 yX11_spreadChances ∈ tblG := tG 603 (by decide +kernel) rfl
theorem wI_X11_spreadChances : Cond.instanceMethod yX11_spreadChances ∈ tblG := tG 605 (by decide +kernel) rfl
theorem wC_X11_spreadChances : Cond.code yX11_spreadChances cX11_spreadChances 7 (some .int) ∈ tblG := tG 606 (by decide +kernel) rfl
theorem wM_X11_270 : Cond.methodLink RX11 270 yJ7_fill_53178 ∈ tblG := tG 607 (by decide +kernel) rfl
theorem wM_L_77 : Cond.methodLink RL 77 yX11_sees ∈ tblG := tG 608 (by decide +kernel) rfl
theorem wI_X11_sees : Cond.instanceMethod yX11_sees ∈ tblG := tG 609 (by decide +kernel) rfl
theorem wQ_X11_sees : Cond.selects RX11 yX11_sees yX11_sees ∈ tblG := tG 610 (by decide +kernel) rfl
theorem wC_X11_sees : Cond.code yX11_sees cX11_sees 4 (some .int) ∈ tblG := tG 611 (by decide +kernel) rfl
theorem wM_L_81 : Cond.methodLink RL 81 yX11_forget ∈ tblG := tG 612 (by decide +kernel) rfl
theorem wI_X11_forget : Cond.instanceMethod yX11_forget ∈ tblG := tG 613 (by decide +kernel) rfl
theorem wQ_X11_forget : Cond.selects RX11 yX11_forget yX11_forget ∈ tblG := tG 614 (by decide +kernel) rfl
theorem wC_X11_forget : Cond.code yX11_forget cX11_forget 2 (some .int) ∈ tblG := tG 615 (by decide +kernel) rfl
theorem wM_L_85 : Cond.methodLink RL 85 yX11_who ∈ tblG := tG 616 (by decide +kernel) rfl
theorem wI_X11_who : Cond.instanceMethod yX11_who ∈ tblG := tG 617 (by decide +kernel) rfl
theorem wQ_X11_who : Cond.selects RX11 yX11_who yX11_who ∈ tblG := tG 618 (by decide +kernel) rfl
theorem wC_X11_who : Cond.code yX11_who cX11_who 3 (some .int) ∈ tblG := tG 619 (by decide +kernel) rfl
theorem wM_X11_230 : Cond.methodLink RX11 230 yX11_fitsAllSeen ∈ tblG := tG 620 (by decide +kernel) rfl
theorem wI_X11_fitsAllSeen : Cond.instanceMethod yX11_fitsAllSeen ∈ tblG := tG 622 (by decide +kernel) rfl
theorem wC_X11_fitsAllSeen : Cond.code yX11_fitsAllSeen cX11_fitsAllSeen 3 (some .boolean) ∈ tblG := tG 623 (by decide +kernel) rfl
theorem wM_L_89 : Cond.methodLink RL 89 yX11_look ∈ tblG := tG 624 (by decide +kernel) rfl
theorem wI_X11_look : Cond.instanceMethod yX11_look ∈ tblG := tG 625 (by decide +kernel) rfl
theorem wQ_X11_look : Cond.selects RX11 yX11_look yX11_look ∈ tblG := tG 626 (by decide +kernel) rfl
theorem wC_X11_look : Cond.code yX11_look cX11_look 9 (some .int) ∈ tblG := tG 627 (by decide +kernel) rfl
theorem wM_X11_233 : Cond.methodLink RX11 233 yX11_who ∈ tblG := tG 628 (by decide +kernel) rfl
theorem wM_X11_236 : Cond.methodLink RX11 236 yJ6_bitCount_0f7a4 ∈ tblG := tG 629 (by decide +kernel) rfl
theorem wS_J6_bitCount_0f7a4 : Cond.static yJ6_bitCount_0f7a4 ∈ tblG := tG 630 (by decide +kernel) rfl
theorem wC_J6_bitCount_0f7a4 : Cond.code yJ6_bitCount_0f7a4 cJ6_bitCount_0f7a4 1 (some .int) ∈ tblG := tG 631 (by decide +kernel) rfl
theorem wA_J6_265 : Cond.constant RJ6 265 (1431655765) ∈ tblG := tG 632 (by decide +kernel) rfl
theorem wA_J6_266 : Cond.constant RJ6 266 (858993459) ∈ tblG := tG 633 (by decide +kernel) rfl
theorem wA_J6_267 : Cond.constant RJ6 267 (252645135) ∈ tblG := tG 634 (by decide +kernel) rfl
theorem wM_X11_241 : Cond.methodLink RX11 241 yJ9_max_7cf53 ∈ tblG := tG 635 (by decide +kernel) rfl
theorem wM_L_93 : Cond.methodLink RL 93 yX11_rate ∈ tblG := tG 636 (by decide +kernel) rfl
theorem wI_X11_rate : Cond.instanceMethod yX11_rate ∈ tblG := tG 637 (by decide +kernel) rfl
theorem wQ_X11_rate : Cond.selects RX11 yX11_rate yX11_rate ∈ tblG := tG 638 (by decide +kernel) rfl
theorem wC_X11_rate : Cond.code yX11_rate cX11_rate 3 (some .int) ∈ tblG := tG 639 (by decide +kernel) rfl
theorem wA_X11_244 : Cond.constant RX11 244 (-1000000) ∈ tblG := tG 640 (by decide +kernel) rfl
theorem wM_X11_256 : Cond.methodLink RX11 256 yX6_worth ∈ tblG := tG 641 (by decide +kernel) rfl
theorem wI_X6_worth : Cond.instanceMethod yX6_worth ∈ tblG := tG 642 (by decide +kernel) rfl
theorem wQ_X6_worth : Cond.selects RX6 yX6_worth yX6_worth ∈ tblG := tG 643 (by decide +kernel) rfl
theorem wE_X6 : Cond.sameMethod RX6 RX6 "worth" "(LTrayTurns$Asked;)I" ∈ tblG := tG 644 (by decide +kernel) rfl
theorem wQ_X1_X6_worth : Cond.selects RX1 yX6_worth yX1_worth ∈ tblG := tG 645 (by decide +kernel) rfl
theorem wI_X1_worth : Cond.instanceMethod yX1_worth ∈ tblG := tG 646 (by decide +kernel) rfl
theorem wC_X1_worth : Cond.code yX1_worth cX1_worth 2 (some .int) ∈ tblG := tG 647 (by decide +kernel) rfl
theorem wL_X1_13 : Cond.constantLong RX1 13 (100) ∈ tblG := tG 648 (by decide +kernel) rfl
theorem wM_X1_15 : Cond.methodLink RX1 15 yX6_worth ∈ tblG := tG 649 (by decide +kernel) rfl
theorem wQ_X2_X6_worth : Cond.selects RX2 yX6_worth yX2_worth ∈ tblG := tG 650 (by decide +kernel) rfl
theorem wI_X2_worth : Cond.instanceMethod yX2_worth ∈ tblG := tG 651 (by decide +kernel) rfl
theorem wC_X2_worth : Cond.code yX2_worth cX2_worth 2 (some .int) ∈ tblG := tG 652 (by decide +kernel) rfl
theorem wL_X2_13 : Cond.constantLong RX2 13 (1000) ∈ tblG := tG 653 (by decide +kernel) rfl
theorem wM_X2_15 : Cond.methodLink RX2 15 yX10_worth ∈ tblG := tG 654 (by decide +kernel) rfl
theorem wI_X10_worth : Cond.instanceMethod yX10_worth ∈ tblG := tG 655 (by decide +kernel) rfl
theorem wC_X10_worth : Cond.code yX10_worth cX10_worth 2 (some .int) ∈ tblG := tG 656 (by decide +kernel) rfl
theorem wL_X10_13 : Cond.constantLong RX10 13 (10) ∈ tblG := tG 657 (by decide +kernel) rfl
theorem wM_X10_15 : Cond.methodLink RX10 15 yX6_worth ∈ tblG := tG 658 (by decide +kernel) rfl
theorem wQ_X3_X6_worth : Cond.selects RX3 yX6_worth yX3_worth ∈ tblG := tG 659 (by decide +kernel) rfl
theorem wI_X3_worth : Cond.instanceMethod yX3_worth ∈ tblG := tG 660 (by decide +kernel) rfl
theorem wC_X3_worth : Cond.code yX3_worth cX3_worth 2 (some .int) ∈ tblG := tG 661 (by decide +kernel) rfl
theorem wL_X3_13 : Cond.constantLong RX3 13 (100000) ∈ tblG := tG 662 (by decide +kernel) rfl
theorem wM_X3_15 : Cond.methodLink RX3 15 yX6_worth ∈ tblG := tG 663 (by decide +kernel) rfl
theorem wQ_X4_X6_worth : Cond.selects RX4 yX6_worth yX4_worth ∈ tblG := tG 664 (by decide +kernel) rfl
theorem wI_X4_worth : Cond.instanceMethod yX4_worth ∈ tblG := tG 665 (by decide +kernel) rfl
theorem wC_X4_worth : Cond.code yX4_worth cX4_worth 2 (some .int) ∈ tblG := tG 666 (by decide +kernel) rfl
theorem wL_X4_13 : Cond.constantLong RX4 13 (10000) ∈ tblG := tG 667 (by decide +kernel) rfl
theorem wM_X4_15 : Cond.methodLink RX4 15 yX1_worth ∈ tblG := tG 668 (by decide +kernel) rfl
theorem wQ_X10_X6_worth : Cond.selects RX10 yX6_worth yX10_worth ∈ tblG := tG 669 (by decide +kernel) rfl
theorem wC_X6_worth : Cond.code yX6_worth cX6_worth 2 (some .int) ∈ tblG := tG 670 (by decide +kernel) rfl
theorem wM_L_97 : Cond.methodLink RL 97 yX11_keep ∈ tblG := tG 671 (by decide +kernel) rfl
theorem wI_X11_keep : Cond.instanceMethod yX11_keep ∈ tblG := tG 672 (by decide +kernel) rfl
theorem wQ_X11_keep : Cond.selects RX11 yX11_keep yX11_keep ∈ tblG := tG 673 (by decide +kernel) rfl
theorem wC_X11_keep : Cond.code yX11_keep cX11_keep 2 (some .int) ∈ tblG := tG 674 (by decide +kernel) rfl
theorem wM_X11_260 : Cond.methodLink RX11 260 yX11_isImage ∈ tblG := tG 675 (by decide +kernel) rfl
theorem wI_X11_isImage : Cond.instanceMethod yX11_isImage ∈ tblG := tG 677 (by decide +kernel) rfl
theorem wC_X11_isImage : Cond.code yX11_isImage cX11_isImage 2 (some .boolean) ∈ tblG := tG 678 (by decide +kernel) rfl
theorem wM_L_101 : Cond.methodLink RL 101 yX11_back ∈ tblG := tG 679 (by decide +kernel) rfl
theorem wI_X11_back : Cond.instanceMethod yX11_back ∈ tblG := tG 680 (by decide +kernel) rfl
theorem wQ_X11_back : Cond.selects RX11 yX11_back yX11_back ∈ tblG := tG 681 (by decide +kernel) rfl
theorem wC_X11_back : Cond.code yX11_back cX11_back 2 (some .int) ∈ tblG := tG 682 (by decide +kernel) rfl
theorem wM_L_105 : Cond.methodLink RL 105 yX11_count ∈ tblG := tG 683 (by decide +kernel) rfl
theorem wI_X11_count : Cond.instanceMethod yX11_count ∈ tblG := tG 684 (by decide +kernel) rfl
theorem wQ_X11_count : Cond.selects RX11 yX11_count yX11_count ∈ tblG := tG 685 (by decide +kernel) rfl
theorem wC_X11_count : Cond.code yX11_count cX11_count 2 (some .int) ∈ tblG := tG 686 (by decide +kernel) rfl
theorem wM_L_109 : Cond.methodLink RL 109 yX11_trace ∈ tblG := tG 687 (by decide +kernel) rfl
theorem wI_X11_trace : Cond.instanceMethod yX11_trace ∈ tblG := tG 688 (by decide +kernel) rfl
theorem wQ_X11_trace : Cond.selects RX11 yX11_trace yX11_trace ∈ tblG := tG 689 (by decide +kernel) rfl
theorem wC_X11_trace : Cond.code yX11_trace cX11_trace 1 (some .long) ∈ tblG := tG 690 (by decide +kernel) rfl
theorem wK_L_10 : Cond.classLink RL 10 RX12 ∈ tblG := tG 691 (by decide +kernel) rfl
theorem wT_X12 : Cond.instantiable RX12 26 ∈ tblG := tG 692 (by decide +kernel) rfl
theorem wM_L_12 : Cond.methodLink RL 12 yX12_init ∈ tblG := tG 693 (by decide +kernel) rfl
theorem wI_X12_init : Cond.instanceMethod yX12_init ∈ tblG := tG 694 (by decide +kernel) rfl
theorem wC_X12_init : Cond.code yX12_init cX12_init 1 none ∈ tblG := tG 695 (by decide +kernel) rfl
theorem wM_X12_1 : Cond.methodLink RX12 1 objectInit ∈ tblG := tG 696 (by decide +kernel) rfl
theorem wM_X12_59 : Cond.methodLink RX12 59 yX12_begins ∈ tblG := tG 697 (by decide +kernel) rfl
theorem wI_X12_begins : Cond.instanceMethod yX12_begins ∈ tblG := tG 699 (by decide +kernel) rfl
theorem wC_X12_begins : Cond.code yX12_begins cX12_begins 2 none ∈ tblG := tG 700 (by decide +kernel) rfl
theorem wM_X12_62 : Cond.methodLink RX12 62 yX12_settles ∈ tblG := tG 701 (by decide +kernel) rfl
theorem wI_X12_settles : Cond.instanceMethod yX12_settles ∈ tblG := tG 703 (by decide +kernel) rfl
theorem wC_X12_settles : Cond.code yX12_settles cX12_settles 2 none ∈ tblG := tG 704 (by decide +kernel) rfl
theorem wF_X12_65 : Cond.fieldLink RX12 65 "TrayTurnsModel" "thrown" "I" ∈ tblG := tG 705 (by decide +kernel) rfl
theorem wF_X12_200 : Cond.fieldLink RX12 200 "TrayTurnsModel" "trace" "J" ∈ tblG := tG 706 (by decide +kernel) rfl
theorem wF_X12_7 : Cond.fieldLink RX12 7 "TrayTurnsModel" "text" "[I" ∈ tblG := tG 707 (by decide +kernel) rfl
theorem wF_X12_73 : Cond.fieldLink RX12 73 "TrayTurnsModel" "typed" "I" ∈ tblG := tG 708 (by decide +kernel) rfl
theorem wF_X12_76 : Cond.fieldLink RX12 76 "TrayTurnsModel" "at" "I" ∈ tblG := tG 709 (by decide +kernel) rfl
theorem wF_X12_89 : Cond.fieldLink RX12 89 "TrayTurnsModel" "token" "I" ∈ tblG := tG 710 (by decide +kernel) rfl
theorem wF_X12_83 : Cond.fieldLink RX12 83 "TrayTurnsModel" "place" "I" ∈ tblG := tG 711 (by decide +kernel) rfl
theorem wF_X12_86 : Cond.fieldLink RX12 86 "TrayTurnsModel" "value" "I" ∈ tblG := tG 712 (by decide +kernel) rfl
theorem wF_X12_92 : Cond.fieldLink RX12 92 "TrayTurnsModel" "fault" "I" ∈ tblG := tG 713 (by decide +kernel) rfl
theorem wF_X12_13 : Cond.fieldLink RX12 13 "TrayTurnsModel" "many" "[I" ∈ tblG := tG 714 (by decide +kernel) rfl
theorem wF_X12_16 : Cond.fieldLink RX12 16 "TrayTurnsModel" "arm" "[I" ∈ tblG := tG 715 (by decide +kernel) rfl
theorem wF_X12_19 : Cond.fieldLink RX12 19 "TrayTurnsModel" "likes" "[I" ∈ tblG := tG 716 (by decide +kernel) rfl
theorem wF_X12_22 : Cond.fieldLink RX12 22 "TrayTurnsModel" "tall" "[I" ∈ tblG := tG 717 (by decide +kernel) rfl
theorem wF_X12_25 : Cond.fieldLink RX12 25 "TrayTurnsModel" "draft" "[I" ∈ tblG := tG 718 (by decide +kernel) rfl
theorem wF_X12_28 : Cond.fieldLink RX12 28 "TrayTurnsModel" "s" "[I" ∈ tblG := tG 719 (by decide +kernel) rfl
theorem wF_X12_31 : Cond.fieldLink RX12 31 "TrayTurnsModel" "kept" "[I" ∈ tblG := tG 720 (by decide +kernel) rfl
theorem wF_X12_34 : Cond.fieldLink RX12 34 "TrayTurnsModel" "isKept" "[Z" ∈ tblG := tG 721 (by decide +kernel) rfl
theorem wF_X12_38 : Cond.fieldLink RX12 38 "TrayTurnsModel" "undos" "[I" ∈ tblG := tG 722 (by decide +kernel) rfl
theorem wF_X12_128 : Cond.fieldLink RX12 128 "TrayTurnsModel" "undoMany" "I" ∈ tblG := tG 723 (by decide +kernel) rfl
theorem wF_X12_41 : Cond.fieldLink RX12 41 "TrayTurnsModel" "seenDish" "[I" ∈ tblG := tG 724 (by decide +kernel) rfl
theorem wF_X12_44 : Cond.fieldLink RX12 44 "TrayTurnsModel" "seenTurn" "[I" ∈ tblG := tG 725 (by decide +kernel) rfl
theorem wF_X12_47 : Cond.fieldLink RX12 47 "TrayTurnsModel" "seen" "[I" ∈ tblG := tG 726 (by decide +kernel) rfl
theorem wF_X12_125 : Cond.fieldLink RX12 125 "TrayTurnsModel" "seenMany" "I" ∈ tblG := tG 727 (by decide +kernel) rfl
theorem wF_X12_50 : Cond.fieldLink RX12 50 "TrayTurnsModel" "has" "[I" ∈ tblG := tG 728 (by decide +kernel) rfl
theorem wF_X12_53 : Cond.fieldLink RX12 53 "TrayTurnsModel" "best" "[I" ∈ tblG := tG 729 (by decide +kernel) rfl
theorem wF_X12_56 : Cond.fieldLink RX12 56 "TrayTurnsModel" "left" "[I" ∈ tblG := tG 730 (by decide +kernel) rfl
theorem wM_L_17 : Cond.methodLink RL 17 yX12_type ∈ tblG := tG 784 (by decide +kernel) rfl
theorem wI_X12_type : Cond.instanceMethod yX12_type ∈ tblG := tG 785 (by decide +kernel) rfl
theorem wQ_X12_type : Cond.selects RX12 yX12_type yX12_type ∈ tblG := tG 786 (by decide +kernel) rfl
theorem wC_X12_type : Cond.code yX12_type cX12_type 2 (some .int) ∈ tblG := tG 787 (by decide +kernel) rfl
theorem wM_X12_69 : Cond.methodLink RX12 69 yX12_in ∈ tblG := tG 788 (by decide +kernel) rfl
theorem wS_X12_in : Cond.static yX12_in ∈ tblG := tG 789 (by decide +kernel) rfl
theorem wC_X12_in : Cond.code yX12_in cX12_in 3 (some .boolean) ∈ tblG := tG 790 (by decide +kernel) rfl
theorem wM_L_22 : Cond.methodLink RL 22 yX12_clear ∈ tblG := tG 791 (by decide +kernel) rfl
theorem wI_X12_clear : Cond.instanceMethod yX12_clear ∈ tblG := tG 792 (by decide +kernel) rfl
theorem wQ_X12_clear : Cond.selects RX12 yX12_clear yX12_clear ∈ tblG := tG 793 (by decide +kernel) rfl
theorem wC_X12_clear : Cond.code yX12_clear cX12_clear 2 (some .int) ∈ tblG := tG 794 (by decide +kernel) rfl
theorem wM_L_26 : Cond.methodLink RL 26 yX12_table ∈ tblG := tG 795 (by decide +kernel) rfl
theorem wI_X12_table : Cond.instanceMethod yX12_table ∈ tblG := tG 796 (by decide +kernel) rfl
theorem wQ_X12_table : Cond.selects RX12 yX12_table yX12_table ∈ tblG := tG 797 (by decide +kernel) rfl
theorem wC_X12_table : Cond.code yX12_table cX12_table 3 (some .int) ∈ tblG := tG 798 (by decide +kernel) rfl
theorem wM_X12_99 : Cond.methodLink RX12 99 yX12_advances ∈ tblG := tG 799 (by decide +kernel) rfl
theorem wI_X12_advances : Cond.instanceMethod yX12_advances ∈ tblG := tG 801 (by decide +kernel) rfl
theorem wC_X12_advances : Cond.code yX12_advances cX12_advances 2 none ∈ tblG := tG 802 (by decide +kernel) rfl
theorem wM_X12_79 : Cond.methodLink RX12 79 yX12_letterAt ∈ tblG := tG 803 (by decide +kernel) rfl
theorem wI_X12_letterAt : Cond.instanceMethod yX12_letterAt ∈ tblG := tG 805 (by decide +kernel) rfl
theorem wC_X12_letterAt : Cond.code yX12_letterAt cX12_letterAt 2 (some .int) ∈ tblG := tG 806 (by decide +kernel) rfl
theorem wM_X12_95 : Cond.methodLink RX12 95 yX12_isWell ∈ tblG := tG 807 (by decide +kernel) rfl
theorem wI_X12_isWell : Cond.instanceMethod yX12_isWell ∈ tblG := tG 809 (by decide +kernel) rfl
theorem wC_X12_isWell : Cond.code yX12_isWell cX12_isWell 1 (some .boolean) ∈ tblG := tG 810 (by decide +kernel) rfl
theorem wM_X12_117 : Cond.methodLink RX12 117 yX12_mayBegin ∈ tblG := tG 811 (by decide +kernel) rfl
theorem wI_X12_mayBegin : Cond.instanceMethod yX12_mayBegin ∈ tblG := tG 813 (by decide +kernel) rfl
theorem wC_X12_mayBegin : Cond.code yX12_mayBegin cX12_mayBegin 2 (some .boolean) ∈ tblG := tG 814 (by decide +kernel) rfl
theorem wM_X12_102 : Cond.methodLink RX12 102 yX12_takesToken ∈ tblG := tG 815 (by decide +kernel) rfl
theorem wI_X12_takesToken : Cond.instanceMethod yX12_takesToken ∈ tblG := tG 817 (by decide +kernel) rfl
theorem wC_X12_takesToken : Cond.code yX12_takesToken cX12_takesToken 3 (some .int) ∈ tblG := tG 818 (by decide +kernel) rfl
theorem wM_X12_121 : Cond.methodLink RX12 121 yX12_readsItem ∈ tblG := tG 819 (by decide +kernel) rfl
theorem wI_X12_readsItem : Cond.instanceMethod yX12_readsItem ∈ tblG := tG 821 (by decide +kernel) rfl
theorem wC_X12_readsItem : Cond.code yX12_readsItem cX12_readsItem 3 none ∈ tblG := tG 822 (by decide +kernel) rfl
theorem wM_X12_106 : Cond.methodLink RX12 106 yX12_number ∈ tblG := tG 823 (by decide +kernel) rfl
theorem wI_X12_number : Cond.instanceMethod yX12_number ∈ tblG := tG 825 (by decide +kernel) rfl
theorem wC_X12_number : Cond.code yX12_number cX12_number 3 (some .int) ∈ tblG := tG 826 (by decide +kernel) rfl
theorem wM_X12_110 : Cond.methodLink RX12 110 yX12_free ∈ tblG := tG 827 (by decide +kernel) rfl
theorem wI_X12_free : Cond.instanceMethod yX12_free ∈ tblG := tG 829 (by decide +kernel) rfl
theorem wC_X12_free : Cond.code yX12_free cX12_free 5 (some .int) ∈ tblG := tG 830 (by decide +kernel) rfl
theorem wM_X12_113 : Cond.methodLink RX12 113 yX12_lettersRow ∈ tblG := tG 831 (by decide +kernel) rfl
theorem wI_X12_lettersRow : Cond.instanceMethod yX12_lettersRow ∈ tblG := tG 833 (by decide +kernel) rfl
theorem wC_X12_lettersRow : Cond.code yX12_lettersRow cX12_lettersRow 6 (some .int) ∈ tblG := tG 834 (by decide +kernel) rfl
theorem wM_L_31 : Cond.methodLink RL 31 yX12_guest ∈ tblG := tG 835 (by decide +kernel) rfl
theorem wI_X12_guest : Cond.instanceMethod yX12_guest ∈ tblG := tG 836 (by decide +kernel) rfl
theorem wQ_X12_guest : Cond.selects RX12 yX12_guest yX12_guest ∈ tblG := tG 837 (by decide +kernel) rfl
theorem wC_X12_guest : Cond.code yX12_guest cX12_guest 3 (some .int) ∈ tblG := tG 838 (by decide +kernel) rfl
theorem wM_X12_134 : Cond.methodLink RX12 134 yX12_isGuest ∈ tblG := tG 839 (by decide +kernel) rfl
theorem wI_X12_isGuest : Cond.instanceMethod yX12_isGuest ∈ tblG := tG 841 (by decide +kernel) rfl
theorem wC_X12_isGuest : Cond.code yX12_isGuest cX12_isGuest 2 (some .boolean) ∈ tblG := tG 842 (by decide +kernel) rfl
theorem wM_X12_137 : Cond.methodLink RX12 137 yX12_needsOf ∈ tblG := tG 843 (by decide +kernel) rfl
theorem wI_X12_needsOf : Cond.instanceMethod yX12_needsOf ∈ tblG := tG 845 (by decide +kernel) rfl
theorem wC_X12_needsOf : Cond.code yX12_needsOf cX12_needsOf 2 (some .int) ∈ tblG := tG 846 (by decide +kernel) rfl
theorem wM_X12_140 : Cond.methodLink RX12 140 yX12_reachedBy ∈ tblG := tG 847 (by decide +kernel) rfl
theorem wI_X12_reachedBy : Cond.instanceMethod yX12_reachedBy ∈ tblG := tG 849 (by decide +kernel) rfl
theorem wC_X12_reachedBy : Cond.code yX12_reachedBy cX12_reachedBy 4 (some .int) ∈ tblG := tG 850 (by decide +kernel) rfl
theorem wM_X12_131 : Cond.methodLink RX12 131 yX12_reachesBy ∈ tblG := tG 851 (by decide +kernel) rfl
theorem wI_X12_reachesBy : Cond.instanceMethod yX12_reachesBy ∈ tblG := tG 853 (by decide +kernel) rfl
theorem wC_X12_reachesBy : Cond.code yX12_reachesBy cX12_reachesBy 6 (some .boolean) ∈ tblG := tG 854 (by decide +kernel) rfl
theorem wM_L_35 : Cond.methodLink RL 35 yX12_dish ∈ tblG := tG 855 (by decide +kernel) rfl
theorem wI_X12_dish : Cond.instanceMethod yX12_dish ∈ tblG := tG 856 (by decide +kernel) rfl
theorem wQ_X12_dish : Cond.selects RX12 yX12_dish yX12_dish ∈ tblG := tG 857 (by decide +kernel) rfl
theorem wC_X12_dish : Cond.code yX12_dish cX12_dish 3 (some .int) ∈ tblG := tG 858 (by decide +kernel) rfl
theorem wM_X12_143 : Cond.methodLink RX12 143 yX12_isDish ∈ tblG := tG 859 (by decide +kernel) rfl
theorem wI_X12_isDish : Cond.instanceMethod yX12_isDish ∈ tblG := tG 861 (by decide +kernel) rfl
theorem wC_X12_isDish : Cond.code yX12_isDish cX12_isDish 2 (some .boolean) ∈ tblG := tG 862 (by decide +kernel) rfl
theorem wM_X12_146 : Cond.methodLink RX12 146 yX12_whoReach ∈ tblG := tG 863 (by decide +kernel) rfl
theorem wI_X12_whoReach : Cond.instanceMethod yX12_whoReach ∈ tblG := tG 865 (by decide +kernel) rfl
theorem wC_X12_whoReach : Cond.code yX12_whoReach cX12_whoReach 5 (some .int) ∈ tblG := tG 866 (by decide +kernel) rfl
theorem wM_L_39 : Cond.methodLink RL 39 yX12_now ∈ tblG := tG 867 (by decide +kernel) rfl
theorem wI_X12_now : Cond.instanceMethod yX12_now ∈ tblG := tG 868 (by decide +kernel) rfl
theorem wQ_X12_now : Cond.selects RX12 yX12_now yX12_now ∈ tblG := tG 869 (by decide +kernel) rfl
theorem wC_X12_now : Cond.code yX12_now cX12_now 4 (some .int) ∈ tblG := tG 870 (by decide +kernel) rfl
theorem wM_X12_159 : Cond.methodLink RX12 159 yX12_tourOf ∈ tblG := tG 871 (by decide +kernel) rfl
theorem wI_X12_tourOf : Cond.instanceMethod yX12_tourOf ∈ tblG := tG 873 (by decide +kernel) rfl
theorem wC_X12_tourOf : Cond.code yX12_tourOf cX12_tourOf 5 (some .int) ∈ tblG := tG 874 (by decide +kernel) rfl
theorem wM_X12_153 : Cond.methodLink RX12 153 yX12_isEnough ∈ tblG := tG 875 (by decide +kernel) rfl
theorem wI_X12_isEnough : Cond.instanceMethod yX12_isEnough ∈ tblG := tG 877 (by decide +kernel) rfl
theorem wC_X12_isEnough : Cond.code yX12_isEnough cX12_isEnough 4 (some .boolean) ∈ tblG := tG 878 (by decide +kernel) rfl
theorem wM_X12_149 : Cond.methodLink RX12 149 yX12_isOf ∈ tblG := tG 879 (by decide +kernel) rfl
theorem wS_X12_isOf : Cond.static yX12_isOf ∈ tblG := tG 880 (by decide +kernel) rfl
theorem wC_X12_isOf : Cond.code yX12_isOf cX12_isOf 2 (some .boolean) ∈ tblG := tG 881 (by decide +kernel) rfl
theorem wM_X12_156 : Cond.methodLink RX12 156 yX12_isAll ∈ tblG := tG 882 (by decide +kernel) rfl
theorem wI_X12_isAll : Cond.instanceMethod yX12_isAll ∈ tblG := tG 884 (by decide +kernel) rfl
theorem wC_X12_isAll : Cond.code yX12_isAll cX12_isAll 7 (some .boolean) ∈ tblG := tG 885 (by decide +kernel) rfl
theorem wM_X12_172 : Cond.methodLink RX12 172 yX12_swapOf ∈ tblG := tG 886 (by decide +kernel) rfl
theorem wI_X12_swapOf : Cond.instanceMethod yX12_swapOf ∈ tblG := tG 888 (by decide +kernel) rfl
theorem wC_X12_swapOf : Cond.code yX12_swapOf cX12_swapOf 6 (some .int) ∈ tblG := tG 889 (by decide +kernel) rfl
theorem wM_X12_162 : Cond.methodLink RX12 162 yX12_trades ∈ tblG := tG 890 (by decide +kernel) rfl
theorem wI_X12_trades : Cond.instanceMethod yX12_trades ∈ tblG := tG 892 (by decide +kernel) rfl
theorem wC_X12_trades : Cond.code yX12_trades cX12_trades 4 none ∈ tblG := tG 893 (by decide +kernel) rfl
theorem wM_X12_175 : Cond.methodLink RX12 175 yX12_feeds ∈ tblG := tG 894 (by decide +kernel) rfl
theorem wI_X12_feeds : Cond.instanceMethod yX12_feeds ∈ tblG := tG 896 (by decide +kernel) rfl
theorem wC_X12_feeds : Cond.code yX12_feeds cX12_feeds 6 (some .int) ∈ tblG := tG 897 (by decide +kernel) rfl
theorem wM_X12_166 : Cond.methodLink RX12 166 yX12_sevens ∈ tblG := tG 898 (by decide +kernel) rfl
theorem wS_X12_sevens : Cond.static yX12_sevens ∈ tblG := tG 899 (by decide +kernel) rfl
theorem wC_X12_sevens : Cond.code yX12_sevens cX12_sevens 3 (some .int) ∈ tblG := tG 900 (by decide +kernel) rfl
theorem wM_X12_169 : Cond.methodLink RX12 169 yX12_havingBy ∈ tblG := tG 901 (by decide +kernel) rfl
theorem wI_X12_havingBy : Cond.instanceMethod yX12_havingBy ∈ tblG := tG 903 (by decide +kernel) rfl
theorem wC_X12_havingBy : Cond.code yX12_havingBy cX12_havingBy 6 (some .int) ∈ tblG := tG 904 (by decide +kernel) rfl
theorem wM_L_43 : Cond.methodLink RL 43 yX12_spins ∈ tblG := tG 905 (by decide +kernel) rfl
theorem wI_X12_spins : Cond.instanceMethod yX12_spins ∈ tblG := tG 906 (by decide +kernel) rfl
theorem wQ_X12_spins : Cond.selects RX12 yX12_spins yX12_spins ∈ tblG := tG 907 (by decide +kernel) rfl
theorem wC_X12_spins : Cond.code yX12_spins cX12_spins 7 (some .int) ∈ tblG := tG 908 (by decide +kernel) rfl
theorem wM_X12_178 : Cond.methodLink RX12 178 yX12_notes ∈ tblG := tG 909 (by decide +kernel) rfl
theorem wI_X12_notes : Cond.instanceMethod yX12_notes ∈ tblG := tG 911 (by decide +kernel) rfl
theorem wC_X12_notes : Cond.code yX12_notes cX12_notes 2 none ∈ tblG := tG 912 (by decide +kernel) rfl
theorem wM_L_47 : Cond.methodLink RL 47 yX12_takes ∈ tblG := tG 913 (by decide +kernel) rfl
theorem wI_X12_takes : Cond.instanceMethod yX12_takes ∈ tblG := tG 914 (by decide +kernel) rfl
theorem wQ_X12_takes : Cond.selects RX12 yX12_takes yX12_takes ∈ tblG := tG 915 (by decide +kernel) rfl
theorem wC_X12_takes : Cond.code yX12_takes cX12_takes 3 (some .int) ∈ tblG := tG 916 (by decide +kernel) rfl
theorem wM_L_51 : Cond.methodLink RL 51 yX12_moves ∈ tblG := tG 917 (by decide +kernel) rfl
theorem wI_X12_moves : Cond.instanceMethod yX12_moves ∈ tblG := tG 918 (by decide +kernel) rfl
theorem wQ_X12_moves : Cond.selects RX12 yX12_moves yX12_moves ∈ tblG := tG 919 (by decide +kernel) rfl
theorem wC_X12_moves : Cond.code yX12_moves cX12_moves 4 (some .int) ∈ tblG := tG 920 (by decide +kernel) rfl
theorem wM_X12_181 : Cond.methodLink RX12 181 yX12_isSeat ∈ tblG := tG 921 (by decide +kernel) rfl
theorem wI_X12_isSeat : Cond.instanceMethod yX12_isSeat ∈ tblG := tG 923 (by decide +kernel) rfl
theorem wC_X12_isSeat : Cond.code yX12_isSeat cX12_isSeat 2 (some .boolean) ∈ tblG := tG 924 (by decide +kernel) rfl
theorem wM_X12_184 : Cond.methodLink RX12 184 yX12_isEmpty ∈ tblG := tG 925 (by decide +kernel) rfl
theorem wI_X12_isEmpty : Cond.instanceMethod yX12_isEmpty ∈ tblG := tG 927 (by decide +kernel) rfl
theorem wC_X12_isEmpty : Cond.code yX12_isEmpty cX12_isEmpty 4 (some .boolean) ∈ tblG := tG 928 (by decide +kernel) rfl
theorem wM_L_55 : Cond.methodLink RL 55 yX12_changes ∈ tblG := tG 929 (by decide +kernel) rfl
theorem wI_X12_changes : Cond.instanceMethod yX12_changes ∈ tblG := tG 930 (by decide +kernel) rfl
theorem wQ_X12_changes : Cond.selects RX12 yX12_changes yX12_changes ∈ tblG := tG 931 (by decide +kernel) rfl
theorem wC_X12_changes : Cond.code yX12_changes cX12_changes 3 (some .int) ∈ tblG := tG 932 (by decide +kernel) rfl
theorem wM_L_59 : Cond.methodLink RL 59 yX12_undo ∈ tblG := tG 933 (by decide +kernel) rfl
theorem wI_X12_undo : Cond.instanceMethod yX12_undo ∈ tblG := tG 934 (by decide +kernel) rfl
theorem wQ_X12_undo : Cond.selects RX12 yX12_undo yX12_undo ∈ tblG := tG 935 (by decide +kernel) rfl
theorem wC_X12_undo : Cond.code yX12_undo cX12_undo 2 (some .int) ∈ tblG := tG 936 (by decide +kernel) rfl
theorem wM_L_64 : Cond.methodLink RL 64 yX12_steps ∈ tblG := tG 937 (by decide +kernel) rfl
theorem wI_X12_steps : Cond.instanceMethod yX12_steps ∈ tblG := tG 938 (by decide +kernel) rfl
theorem wQ_X12_steps : Cond.selects RX12 yX12_steps yX12_steps ∈ tblG := tG 939 (by decide +kernel) rfl
theorem wC_X12_steps : Cond.code yX12_steps cX12_steps 7 (some .int) ∈ tblG := tG 940 (by decide +kernel) rfl
theorem wM_L_68 : Cond.methodLink RL 68 yX12_puts ∈ tblG := tG 941 (by decide +kernel) rfl
theorem wI_X12_puts : Cond.instanceMethod yX12_puts ∈ tblG := tG 942 (by decide +kernel) rfl
theorem wQ_X12_puts : Cond.selects RX12 yX12_puts yX12_puts ∈ tblG := tG 943 (by decide +kernel) rfl
theorem wC_X12_puts : Cond.code yX12_puts cX12_puts 7 (some .int) ∈ tblG := tG 944 (by decide +kernel) rfl
theorem wM_L_72 : Cond.methodLink RL 72 yX12_fed ∈ tblG := tG 945 (by decide +kernel) rfl
theorem wI_X12_fed : Cond.instanceMethod yX12_fed ∈ tblG := tG 946 (by decide +kernel) rfl
theorem wQ_X12_fed : Cond.selects RX12 yX12_fed yX12_fed ∈ tblG := tG 947 (by decide +kernel) rfl
theorem wC_X12_fed : Cond.code yX12_fed cX12_fed 2 (some .int) ∈ tblG := tG 948 (by decide +kernel) rfl
theorem wM_L_76 : Cond.methodLink RL 76 yX12_odds ∈ tblG := tG 949 (by decide +kernel) rfl
theorem wI_X12_odds : Cond.instanceMethod yX12_odds ∈ tblG := tG 950 (by decide +kernel) rfl
theorem wQ_X12_odds : Cond.selects RX12 yX12_odds yX12_odds ∈ tblG := tG 951 (by decide +kernel) rfl
theorem wC_X12_odds : Cond.code yX12_odds cX12_odds 8 (some .int) ∈ tblG := tG 952 (by decide +kernel) rfl
theorem wM_X12_187 : Cond.methodLink RX12 187 yX12_ones ∈ tblG := tG 953 (by decide +kernel) rfl
theorem wS_X12_ones : Cond.static yX12_ones ∈ tblG := tG 954 (by decide +kernel) rfl
theorem wC_X12_ones : Cond.code yX12_ones cX12_ones 3 (some .int) ∈ tblG := tG 955 (by decide +kernel) rfl
theorem wM_X12_190 : Cond.methodLink RX12 190 yX12_power ∈ tblG := tG 956 (by decide +kernel) rfl
theorem wS_X12_power : Cond.static yX12_power ∈ tblG := tG 957 (by decide +kernel) rfl
theorem wC_X12_power : Cond.code yX12_power cX12_power 4 (some .int) ∈ tblG := tG 958 (by decide +kernel) rfl
theorem wM_X12_193 : Cond.methodLink RX12 193 yX12_gcd ∈ tblG := tG 959 (by decide +kernel) rfl
theorem wS_X12_gcd : Cond.static yX12_gcd ∈ tblG := tG 960 (by decide +kernel) rfl
theorem wC_X12_gcd : Cond.code yX12_gcd cX12_gcd 5 (some .int) ∈ tblG := tG 961 (by decide +kernel) rfl
theorem wM_L_80 : Cond.methodLink RL 80 yX12_sees ∈ tblG := tG 962 (by decide +kernel) rfl
theorem wI_X12_sees : Cond.instanceMethod yX12_sees ∈ tblG := tG 963 (by decide +kernel) rfl
theorem wQ_X12_sees : Cond.selects RX12 yX12_sees yX12_sees ∈ tblG := tG 964 (by decide +kernel) rfl
theorem wC_X12_sees : Cond.code yX12_sees cX12_sees 4 (some .int) ∈ tblG := tG 965 (by decide +kernel) rfl
theorem wM_L_84 : Cond.methodLink RL 84 yX12_forget ∈ tblG := tG 966 (by decide +kernel) rfl
theorem wI_X12_forget : Cond.instanceMethod yX12_forget ∈ tblG := tG 967 (by decide +kernel) rfl
theorem wQ_X12_forget : Cond.selects RX12 yX12_forget yX12_forget ∈ tblG := tG 968 (by decide +kernel) rfl
theorem wC_X12_forget : Cond.code yX12_forget cX12_forget 2 (some .int) ∈ tblG := tG 969 (by decide +kernel) rfl
theorem wM_L_88 : Cond.methodLink RL 88 yX12_who ∈ tblG := tG 970 (by decide +kernel) rfl
theorem wI_X12_who : Cond.instanceMethod yX12_who ∈ tblG := tG 971 (by decide +kernel) rfl
theorem wQ_X12_who : Cond.selects RX12 yX12_who yX12_who ∈ tblG := tG 972 (by decide +kernel) rfl
theorem wC_X12_who : Cond.code yX12_who cX12_who 1 (some .int) ∈ tblG := tG 973 (by decide +kernel) rfl
theorem wM_X12_196 : Cond.methodLink RX12 196 yX12_whoCan ∈ tblG := tG 974 (by decide +kernel) rfl
theorem wI_X12_whoCan : Cond.instanceMethod yX12_whoCan ∈ tblG := tG 976 (by decide +kernel) rfl
theorem wC_X12_whoCan : Cond.code yX12_whoCan cX12_whoCan 4 (some .int) ∈ tblG := tG 977 (by decide +kernel) rfl
theorem wM_L_92 : Cond.methodLink RL 92 yX12_look ∈ tblG := tG 978 (by decide +kernel) rfl
theorem wI_X12_look : Cond.instanceMethod yX12_look ∈ tblG := tG 979 (by decide +kernel) rfl
theorem wQ_X12_look : Cond.selects RX12 yX12_look yX12_look ∈ tblG := tG 980 (by decide +kernel) rfl
theorem wC_X12_look : Cond.code yX12_look cX12_look 8 (some .int) ∈ tblG := tG 981 (by decide +kernel) rfl
theorem wM_L_96 : Cond.methodLink RL 96 yX12_rate ∈ tblG := tG 982 (by decide +kernel) rfl
theorem wI_X12_rate : Cond.instanceMethod yX12_rate ∈ tblG := tG 983 (by decide +kernel) rfl
theorem wQ_X12_rate : Cond.selects RX12 yX12_rate yX12_rate ∈ tblG := tG 984 (by decide +kernel) rfl
theorem wC_X12_rate : Cond.code yX12_rate cX12_rate 6 (some .int) ∈ tblG := tG 985 (by decide +kernel) rfl
theorem wA_X12_199 : Cond.constant RX12 199 (-1000000) ∈ tblG := tG 986 (by decide +kernel) rfl
theorem wL_X12_204 : Cond.constantLong RX12 204 (11) ∈ tblG := tG 987 (by decide +kernel) rfl
theorem wL_X12_206 : Cond.constantLong RX12 206 (101) ∈ tblG := tG 988 (by decide +kernel) rfl
theorem wL_X12_208 : Cond.constantLong RX12 208 (1011) ∈ tblG := tG 989 (by decide +kernel) rfl
theorem wL_X12_210 : Cond.constantLong RX12 210 (10101) ∈ tblG := tG 990 (by decide +kernel) rfl
theorem wL_X12_212 : Cond.constantLong RX12 212 (100001) ∈ tblG := tG 991 (by decide +kernel) rfl
theorem wM_L_100 : Cond.methodLink RL 100 yX12_keep ∈ tblG := tG 992 (by decide +kernel) rfl
theorem wI_X12_keep : Cond.instanceMethod yX12_keep ∈ tblG := tG 993 (by decide +kernel) rfl
theorem wQ_X12_keep : Cond.selects RX12 yX12_keep yX12_keep ∈ tblG := tG 994 (by decide +kernel) rfl
theorem wC_X12_keep : Cond.code yX12_keep cX12_keep 3 (some .int) ∈ tblG := tG 995 (by decide +kernel) rfl
theorem wM_L_104 : Cond.methodLink RL 104 yX12_back ∈ tblG := tG 996 (by decide +kernel) rfl
theorem wI_X12_back : Cond.instanceMethod yX12_back ∈ tblG := tG 997 (by decide +kernel) rfl
theorem wQ_X12_back : Cond.selects RX12 yX12_back yX12_back ∈ tblG := tG 998 (by decide +kernel) rfl
theorem wC_X12_back : Cond.code yX12_back cX12_back 3 (some .int) ∈ tblG := tG 999 (by decide +kernel) rfl
theorem wM_L_108 : Cond.methodLink RL 108 yX12_count ∈ tblG := tG 1000 (by decide +kernel) rfl
theorem wI_X12_count : Cond.instanceMethod yX12_count ∈ tblG := tG 1001 (by decide +kernel) rfl
theorem wQ_X12_count : Cond.selects RX12 yX12_count yX12_count ∈ tblG := tG 1002 (by decide +kernel) rfl
theorem wC_X12_count : Cond.code yX12_count cX12_count 2 (some .int) ∈ tblG := tG 1003 (by decide +kernel) rfl
theorem wM_L_113 : Cond.methodLink RL 113 yX12_trace ∈ tblG := tG 1004 (by decide +kernel) rfl
theorem wI_X12_trace : Cond.instanceMethod yX12_trace ∈ tblG := tG 1005 (by decide +kernel) rfl
theorem wQ_X12_trace : Cond.selects RX12 yX12_trace yX12_trace ∈ tblG := tG 1006 (by decide +kernel) rfl
theorem wC_X12_trace : Cond.code yX12_trace cX12_trace 1 (some .long) ∈ tblG := tG 1007 (by decide +kernel) rfl
theorem wE_X10 : Cond.sameMethod RX10 RX10 "worth" "(LTrayTurns$Asked;)I" ∈ tblG := tG 1008 (by decide +kernel) rfl
theorem wE_X1 : Cond.sameMethod RX1 RX1 "worth" "(LTrayTurns$Asked;)I" ∈ tblG := tG 1009 (by decide +kernel) rfl
theorem wQ_X9_nextToken : Cond.selects RX9 yX9_nextToken yX9_nextToken ∈ tblG := tG 0 (by decide +kernel) rfl
theorem wQ_X9_nextWord : Cond.selects RX9 yX9_nextWord yX9_nextWord ∈ tblG := tG 1 (by decide +kernel) rfl
theorem wQ_X9_nextNumber : Cond.selects RX9 yX9_nextNumber yX9_nextNumber ∈ tblG := tG 2 (by decide +kernel) rfl
theorem wQ_X9_readItem : Cond.selects RX9 yX9_readItem yX9_readItem ∈ tblG := tG 3 (by decide +kernel) rfl
theorem wQ_X9_isWord : Cond.selects RX9 yX9_isWord yX9_isWord ∈ tblG := tG 4 (by decide +kernel) rfl
theorem wQ_X9_readSeats : Cond.selects RX9 yX9_readSeats yX9_readSeats ∈ tblG := tG 5 (by decide +kernel) rfl
theorem wQ_X9_readNumber : Cond.selects RX9 yX9_readNumber yX9_readNumber ∈ tblG := tG 6 (by decide +kernel) rfl
theorem wQ_X9_readClose : Cond.selects RX9 yX9_readClose yX9_readClose ∈ tblG := tG 7 (by decide +kernel) rfl
theorem wQ_X9_readGuest : Cond.selects RX9 yX9_readGuest yX9_readGuest ∈ tblG := tG 8 (by decide +kernel) rfl
theorem wQ_X9_isAmong : Cond.selects RX9 yX9_isAmong yX9_isAmong ∈ tblG := tG 9 (by decide +kernel) rfl
theorem wQ_X9_readRow : Cond.selects RX9 yX9_readRow yX9_readRow ∈ tblG := tG 10 (by decide +kernel) rfl
theorem wQ_X9_readDish : Cond.selects RX9 yX9_readDish yX9_readDish ∈ tblG := tG 11 (by decide +kernel) rfl
theorem wQ_X11_isGuest : Cond.selects RX11 yX11_isGuest yX11_isGuest ∈ tblG := tG 12 (by decide +kernel) rfl
theorem wQ_X8_gap : Cond.selects RX8 yX8_gap yX8_gap ∈ tblG := tG 13 (by decide +kernel) rfl
theorem wQ_X11_isDish : Cond.selects RX11 yX11_isDish yX11_isDish ∈ tblG := tG 14 (by decide +kernel) rfl
theorem wQ_X11_allPortions : Cond.selects RX11 yX11_allPortions yX11_allPortions ∈ tblG := tG 15 (by decide +kernel) rfl
theorem wQ_X8_hasEnough : Cond.selects RX8 yX8_hasEnough yX8_hasEnough ∈ tblG := tG 16 (by decide +kernel) rfl
theorem wQ_X8_fillFurthest : Cond.selects RX8 yX8_fillFurthest yX8_fillFurthest ∈ tblG := tG 17 (by decide +kernel) rfl
theorem wQ_X11_swap : Cond.selects RX11 yX11_swap yX11_swap ∈ tblG := tG 18 (by decide +kernel) rfl
theorem wQ_X5_most : Cond.selects RX5 yX5_most yX5_most ∈ tblG := tG 19 (by decide +kernel) rfl
theorem wQ_X5_firstFor : Cond.selects RX5 yX5_firstFor yX5_firstFor ∈ tblG := tG 20 (by decide +kernel) rfl
theorem wQ_X11_remember : Cond.selects RX11 yX11_remember yX11_remember ∈ tblG := tG 21 (by decide +kernel) rfl
theorem wQ_X11_spill : Cond.selects RX11 yX11_spill yX11_spill ∈ tblG := tG 22 (by decide +kernel) rfl
theorem wQ_X11_isTurn : Cond.selects RX11 yX11_isTurn yX11_isTurn ∈ tblG := tG 23 (by decide +kernel) rfl
theorem wQ_X11_isEmpty : Cond.selects RX11 yX11_isEmpty yX11_isEmpty ∈ tblG := tG 24 (by decide +kernel) rfl
theorem wQ_X11_spreadChances : Cond.selects RX11 yX11_spreadChances yX11_spreadChances ∈ tblG := tG 25 (by decide +kernel) rfl
theorem wQ_X11_fitsAllSeen : Cond.selects RX11 yX11_fitsAllSeen yX11_fitsAllSeen ∈ tblG := tG 26 (by decide +kernel) rfl
theorem wQ_X11_isImage : Cond.selects RX11 yX11_isImage yX11_isImage ∈ tblG := tG 27 (by decide +kernel) rfl
theorem wQ_X12_begins : Cond.selects RX12 yX12_begins yX12_begins ∈ tblG := tG 28 (by decide +kernel) rfl
theorem wQ_X12_settles : Cond.selects RX12 yX12_settles yX12_settles ∈ tblG := tG 29 (by decide +kernel) rfl
theorem wQ_X12_advances : Cond.selects RX12 yX12_advances yX12_advances ∈ tblG := tG 30 (by decide +kernel) rfl
theorem wQ_X12_letterAt : Cond.selects RX12 yX12_letterAt yX12_letterAt ∈ tblG := tG 31 (by decide +kernel) rfl
theorem wQ_X12_isWell : Cond.selects RX12 yX12_isWell yX12_isWell ∈ tblG := tG 32 (by decide +kernel) rfl
theorem wQ_X12_mayBegin : Cond.selects RX12 yX12_mayBegin yX12_mayBegin ∈ tblG := tG 33 (by decide +kernel) rfl
theorem wQ_X12_takesToken : Cond.selects RX12 yX12_takesToken yX12_takesToken ∈ tblG := tG 34 (by decide +kernel) rfl
theorem wQ_X12_readsItem : Cond.selects RX12 yX12_readsItem yX12_readsItem ∈ tblG := tG 35 (by decide +kernel) rfl
theorem wQ_X12_number : Cond.selects RX12 yX12_number yX12_number ∈ tblG := tG 36 (by decide +kernel) rfl
theorem wQ_X12_free : Cond.selects RX12 yX12_free yX12_free ∈ tblG := tG 37 (by decide +kernel) rfl
theorem wQ_X12_lettersRow : Cond.selects RX12 yX12_lettersRow yX12_lettersRow ∈ tblG := tG 38 (by decide +kernel) rfl
theorem wQ_X12_isGuest : Cond.selects RX12 yX12_isGuest yX12_isGuest ∈ tblG := tG 39 (by decide +kernel) rfl
theorem wQ_X12_needsOf : Cond.selects RX12 yX12_needsOf yX12_needsOf ∈ tblG := tG 40 (by decide +kernel) rfl
theorem wQ_X12_reachedBy : Cond.selects RX12 yX12_reachedBy yX12_reachedBy ∈ tblG := tG 41 (by decide +kernel) rfl
theorem wQ_X12_reachesBy : Cond.selects RX12 yX12_reachesBy yX12_reachesBy ∈ tblG := tG 42 (by decide +kernel) rfl
theorem wQ_X12_isDish : Cond.selects RX12 yX12_isDish yX12_isDish ∈ tblG := tG 43 (by decide +kernel) rfl
theorem wQ_X12_whoReach : Cond.selects RX12 yX12_whoReach yX12_whoReach ∈ tblG := tG 44 (by decide +kernel) rfl
theorem wQ_X12_tourOf : Cond.selects RX12 yX12_tourOf yX12_tourOf ∈ tblG := tG 45 (by decide +kernel) rfl
theorem wQ_X12_isEnough : Cond.selects RX12 yX12_isEnough yX12_isEnough ∈ tblG := tG 46 (by decide +kernel) rfl
theorem wQ_X12_isAll : Cond.selects RX12 yX12_isAll yX12_isAll ∈ tblG := tG 47 (by decide +kernel) rfl
theorem wQ_X12_swapOf : Cond.selects RX12 yX12_swapOf yX12_swapOf ∈ tblG := tG 48 (by decide +kernel) rfl
theorem wQ_X12_trades : Cond.selects RX12 yX12_trades yX12_trades ∈ tblG := tG 49 (by decide +kernel) rfl
theorem wQ_X12_feeds : Cond.selects RX12 yX12_feeds yX12_feeds ∈ tblG := tG 50 (by decide +kernel) rfl
theorem wQ_X12_havingBy : Cond.selects RX12 yX12_havingBy yX12_havingBy ∈ tblG := tG 51 (by decide +kernel) rfl
theorem wQ_X12_notes : Cond.selects RX12 yX12_notes yX12_notes ∈ tblG := tG 52 (by decide +kernel) rfl
theorem wQ_X12_isSeat : Cond.selects RX12 yX12_isSeat yX12_isSeat ∈ tblG := tG 53 (by decide +kernel) rfl
theorem wQ_X12_isEmpty : Cond.selects RX12 yX12_isEmpty yX12_isEmpty ∈ tblG := tG 54 (by decide +kernel) rfl
theorem wQ_X12_whoCan : Cond.selects RX12 yX12_whoCan yX12_whoCan ∈ tblG := tG 55 (by decide +kernel) rfl
end
section
def layL : List (Nat × Nat) := [(11, 16), (9, 7), (21, 140), (8, 8), (20, 6), (20, 6), (20, 6), (7, 5), (20, 6), (20, 6), (20, 6), (20, 6), (20, 9), (5, 5), (20, 6), (20, 6), (20, 6), (0, 6), (24, 6), (8, 8), (20, 6), (20, 6), (20, 6), (7, 5), (20, 6), (20, 6), (20, 6), (20, 6), (20, 9), (7, 5), (20, 6), (20, 6), (20, 6), (20, 6), (7, 5), (20, 6), (20, 6), (20, 6), (20, 6), (23, 10), (23, 2), (22, 2), (20, 6), (20, 6), (22, 6), (20, 9), (7, 5), (20, 6), (20, 6), (20, 6), (20, 6), (7, 5), (20, 6), (20, 6), (20, 6), (20, 6), (7, 5), (20, 6), (20, 6), (20, 6), (20, 6), (7, 5), (20, 6), (20, 6), (20, 6), (20, 6), (7, 5), (20, 6), (20, 6), (20, 6), (20, 6), (7, 5), (20, 6), (20, 6), (20, 6), (20, 6), (7, 5), (20, 6), (20, 6), (20, 6), (20, 6), (7, 5), (20, 6), (20, 6), (20, 6), (20, 6), (7, 5), (20, 6), (20, 6), (20, 6), (20, 6), (7, 5), (20, 6), (20, 6), (20, 6), (20, 6), (7, 5), (20, 6), (20, 6), (20, 6), (20, 6), (7, 5), (20, 6), (20, 6), (20, 6), (20, 6), (6, 0), (10, 0), (1, 0), (2, 0), (4, 0), (3, 0), (12, 26), (20, 140), (20, 6), (20, 12), (20, 12), (20, 12), (20, 25), (20, 25), (20, 50), (22, 2), (20, 250), (20, 6), (20, 6), (20, 6), (20, 6), (20, 6), (20, 6)]
def lay (k : Nat) : Nat × Nat := layL.getD k (99, 0)
def nf (ci : Nat) : Nat := match ci with | 0 => 6 | 5 => 5 | 7 => 5 | 8 => 8 | 9 => 7 | 11 => 16 | 12 => 26 | _ => 0
def ft (ci j : Nat) : Nat := match ci with | 0 => ([0, 0, 0, 0, 0, 2] : List Nat).getD j 0 | 5 => ([1, 1, 1, 0, 0] : List Nat).getD j 0 | 7 => ([0, 1, 1, 1, 1] : List Nat).getD j 0 | 8 => ([0, 0, 0, 1, 1, 1, 1, 1] : List Nat).getD j 0 | 9 => ([1, 0, 1, 0, 0, 0, 0] : List Nat).getD j 0 | 11 => ([1, 1, 1, 1, 1, 1, 1, 1, 0, 1, 1, 1, 1, 1, 0, 1] : List Nat).getD j 0 | 12 => ([0, 2, 1, 0, 0, 0, 0, 0, 0, 1, 1, 1, 1, 1, 1, 1, 1, 1, 0, 1, 1, 1, 0, 1, 1, 1] : List Nat).getD j 0 | _ => 0
theorem w_nat_copy : Cond.native arraycopyName ∈ tblG := wNat_arraycopyName
theorem w_st_copy : Cond.static arraycopyName ∈ tblG := wS_arraycopyName
theorem w_in_sys : Cond.initialized "java/lang/System" ∈ tblG := wN_J10
theorem w_in_math : Cond.initialized "java/lang/Math" ∈ tblG := wN_J9
theorem w_st_min : Cond.static Lib.Math.min.name ∈ tblG := wS_J9_min_7cf53
theorem w_st_max : Cond.static Lib.Math.max.name ∈ tblG := wS_J9_max_7cf53
theorem w_cd_min : Cond.code Lib.Math.min.name Lib.Math.min.code 2 (some .int) ∈ tblG := wC_J9_min_7cf53
theorem w_cd_max : Cond.code Lib.Math.max.name Lib.Math.max.code 2 (some .int) ∈ tblG := wC_J9_max_7cf53
/-! the flat memory: cells by number; a number's layout is fixed; an object's or an array's contents are read off functions -/
abbrev Mem : Type := Nat × (Nat → Nat → Int32) × (Nat → Nat → Option Nat) × (Nat → Nat → Int64)
def up2 {α : Type} (f : Nat → Nat → α) (k j : Nat) (v : α) : Nat → Nat → α := fun a b => if a = k ∧ b = j then v else f a b
def upR {α : Type} (f : Nat → Nat → α) (k : Nat) (row : Nat → α) : Nat → Nat → α := fun a b => if a = k then row b else f a b
def loopF {S R : Type} (F : (S → Option R) → S → Option R) : Nat → S → Option R
  | 0, _ => none
  | n + 1, s => F (loopF F n) s
def FU : Nat := 200000
def gI (M : Mem) (k ci j : Nat) : Option Int32 := if k < M.1 ∧ (lay k).1 = ci then some (M.2.1 k j) else none
def gR (M : Mem) (k ci j : Nat) : Option Nat := if k < M.1 ∧ (lay k).1 = ci then M.2.2.1 k j else none
def gL (M : Mem) (k ci j : Nat) : Option Int64 := if k < M.1 ∧ (lay k).1 = ci then some (M.2.2.2 k j) else none
def pI (M : Mem) (k ci j : Nat) (v : Int32) : Option Mem := if k < M.1 ∧ (lay k).1 = ci then some (M.1, up2 M.2.1 k j v, M.2.2.1, M.2.2.2) else none
def pR (M : Mem) (k ci j : Nat) (v : Nat) : Option Mem := if k < M.1 ∧ (lay k).1 = ci then some (M.1, M.2.1, up2 M.2.2.1 k j (some v), M.2.2.2) else none
def pL (M : Mem) (k ci j : Nat) (v : Int64) : Option Mem := if k < M.1 ∧ (lay k).1 = ci then some (M.1, M.2.1, M.2.2.1, up2 M.2.2.2 k j v) else none
def aI (t : Nat) (M : Mem) (k : Nat) (i : Int32) : Option Int32 := if k < M.1 ∧ (lay k).1 = t ∧ ¬ (i < 0 ∨ (lay k).2 ≤ i.toNatClampNeg) then some (M.2.1 k i.toNatClampNeg) else none
def sA (t : Nat) (M : Mem) (k : Nat) (i v : Int32) : Option Mem := if k < M.1 ∧ (lay k).1 = t ∧ ¬ (i < 0 ∨ (lay k).2 ≤ i.toNatClampNeg) then some (M.1, up2 M.2.1 k i.toNatClampNeg v, M.2.2.1, M.2.2.2) else none
def sI (M : Mem) (k : Nat) (i v : Int32) : Option Mem := sA 20 M k i v
def sC (M : Mem) (k : Nat) (i v : Int32) : Option Mem := sA 21 M k i (vp_nar .char v)
def sZ (M : Mem) (k : Nat) (i v : Int32) : Option Mem := sA 22 M k i (vp_nar .boolean v)
def aR (t : Nat) (M : Mem) (k : Nat) (i : Int32) : Option Nat := if k < M.1 ∧ (lay k).1 = t ∧ ¬ (i < 0 ∨ (lay k).2 ≤ i.toNatClampNeg) then M.2.2.1 k i.toNatClampNeg else none
def sR (t ci : Nat) (M : Mem) (k : Nat) (i : Int32) (r : Nat) : Option Mem := if k < M.1 ∧ (lay k).1 = t ∧ r < M.1 ∧ (lay r).1 = ci ∧ ¬ (i < 0 ∨ (lay k).2 ≤ i.toNatClampNeg) then some (M.1, M.2.1, up2 M.2.2.1 k i.toNatClampNeg (some r), M.2.2.2) else none
def aL (t : Nat) (M : Mem) (k : Nat) : Option Int32 := if k < M.1 ∧ (lay k).1 = t then some (Int32.ofNat (lay k).2) else none
def cpI (M : Mem) (k1 : Nat) (sp : Int32) (k2 : Nat) (dp n : Int32) : Option Mem :=
  if k1 < M.1 ∧ (lay k1).1 = 20 ∧ k2 < M.1 ∧ (lay k2).1 = 20 ∧ ¬ sp < 0 ∧ ¬ dp < 0 ∧ ¬ n < 0 ∧ sp.toNatClampNeg + n.toNatClampNeg ≤ (lay k1).2 ∧ dp.toNatClampNeg + n.toNatClampNeg ≤ (lay k2).2
  then some (M.1, upR M.2.1 k2 (va_cpy (M.2.1 k1) (M.2.1 k2) sp.toNatClampNeg dp.toNatClampNeg n.toNatClampNeg), M.2.2.1, M.2.2.2) else none
def nCell (M : Mem) : Mem := (M.1 + 1, upR M.2.1 M.1 (fun _ => 0), upR M.2.2.1 M.1 (fun _ => none), upR M.2.2.2 M.1 (fun _ => 0))
def nO (M : Mem) (ci : Nat) : Option (Nat × Mem) := if (lay M.1).1 = ci then some (M.1, nCell M) else none
def nA (M : Mem) (t : Nat) (n : Int32) : Option (Nat × Mem) := if (lay M.1).1 = t ∧ ¬ n < 0 ∧ n.toNatClampNeg = (lay M.1).2 ∧ (lay M.1).2 ≤ 1000 then some (M.1, nCell M) else none
def cv {α : Type} (M : Mem) (k ci : Nat) (o : Option α) : Option α := if k < M.1 ∧ (lay k).1 = ci then o else none
def dvI (x y : Int32) : Option Int32 := if y = 0 then none else some (x / y)
def rmI (x y : Int32) : Option Int32 := if y = 0 then none else some (x - x / y * y)
def zr (v : Int32) : Option Int32 := if v = 0 ∨ v = 1 then some v else none
theorem ob {α β : Type} {o : Option α} {f : α → Option β} {r : β} (h : o.bind f = some r) : ∃ v, o = some v ∧ f v = some r := by
  cases o with
  | none => cases h
  | some v => exact ⟨v, rfl, h⟩
theorem it {c : Prop} [Decidable c] {α : Type} {a b r : α} (hc : c) (h : (if c then a else b) = r) : a = r := by rw [if_pos hc] at h; exact h
theorem ie {c : Prop} [Decidable c] {α : Type} {a b r : α} (hc : ¬ c) (h : (if c then a else b) = r) : b = r := by rw [if_neg hc] at h; exact h
theorem so {c : Prop} [Decidable c] {α : Type} {a : Option α} {r : α} (h : (if c then a else none) = some r) : c ∧ a = some r := by
  by_cases hc : c
  · exact ⟨hc, it hc h⟩
  · rw [if_neg hc] at h; cases h
def fvl (ad : Nat → Nat) (M : Mem) (t k j : Nat) : Value := if t = 0 then .int (M.2.1 k j) else if t = 1 then va_rf ((M.2.2.1 k j).map ad) else .long (M.2.2.2 k j)
def cel (cA : Nat → ClassId) (ad : Nat → Nat) (M : Mem) (k : Nat) : va_E :=
  if (lay k).1 < 20 then .inr ((lay k).1, (List.range (nf (lay k).1)).map (fun j => fvl ad M (ft (lay k).1 j) k j))
  else if (lay k).1 < 23 then .inl (cA ((lay k).1 - 20), (lay k).2, .inl (M.2.1 k))
  else .inl (cA ((lay k).1 - 20), (lay k).2, .inr (.inr (.inr (.inr (fun i => (M.2.2.1 k i).map ad)))))
def wsM (cA : Nat → ClassId) (ad : Nat → Nat) (M : Mem) : va_W := (List.range M.1).map (fun k => (ad k, cel cA ad M k))
def tysOf (cA : Nat → ClassId) : List (ClassId × FieldType) := [(cA 0, .int), (cA 1, .char), (cA 2, .boolean), (cA 3, .object "TrayTurns$Now"), (cA 4, .object "TrayTurns$GuestKind")]
theorem ws_get {cA : Nat → ClassId} {ad : Nat → Nat} {M : Mem} {k : Nat} (h : k < M.1) : (wsM cA ad M)[k]? = some (ad k, cel cA ad M k) := by
  unfold wsM
  rw [List.getElem?_map, List.getElem?_range h]
  rfl
theorem ws_len {cA : Nat → ClassId} {ad : Nat → Nat} {M : Mem} : (wsM cA ad M).length = M.1 := by simp [wsM]
theorem ws_inv {cA : Nat → ClassId} {ad : Nat → Nat} {M : Mem} {k : Nat} {q : Nat × va_E} (h : (wsM cA ad M)[k]? = some q) : k < M.1 ∧ q = (ad k, cel cA ad M k) := by
  have hl := (List.getElem?_eq_some_iff.mp h).1
  rw [ws_len] at hl
  rw [ws_get hl] at h
  exact ⟨hl, (Option.some.inj h).symm⟩
theorem ws_set {cA : Nat → ClassId} {ad : Nat → Nat} {M M' : Mem} {k : Nat} {e : va_E} (h1 : M'.1 = M.1) (hk : cel cA ad M' k = e) (ho : ∀ j, j ≠ k → cel cA ad M' j = cel cA ad M j) : (wsM cA ad M).set k (ad k, e) = wsM cA ad M' := by
  apply List.ext_getElem?
  intro i
  rw [List.getElem?_set]
  by_cases hi : i < M.1
  · rw [ws_get (M := M') (by rw [h1]; exact hi)]
    by_cases hik : k = i
    · subst hik
      rw [if_pos rfl, if_pos (by rw [ws_len]; exact hi), hk]
    · rw [if_neg hik, ws_get hi, ho i (fun q => hik q.symm)]
  · have e1 : (wsM cA ad M')[i]? = none := by rw [List.getElem?_eq_none]; rw [ws_len, h1]; omega
    rw [e1]
    by_cases hik : k = i
    · subst hik
      rw [if_pos rfl, if_neg (by rw [ws_len]; exact hi)]
    · rw [if_neg hik, List.getElem?_eq_none]; rw [ws_len]; omega
theorem cel_o {cA : Nat → ClassId} {ad : Nat → Nat} {M : Mem} {k ci : Nat} (h : (lay k).1 = ci) (hc : ci < 20) : cel cA ad M k = .inr (ci, (List.range (nf ci)).map (fun j => fvl ad M (ft ci j) k j)) := by
  unfold cel; rw [h, if_pos hc]
theorem cel_i {cA : Nat → ClassId} {ad : Nat → Nat} {M : Mem} {k t : Nat} (h : (lay k).1 = t) (h1 : ¬ t < 20) (h2 : t < 23) : cel cA ad M k = .inl (cA (t - 20), (lay k).2, .inl (M.2.1 k)) := by
  unfold cel; rw [h, if_neg h1, if_pos h2]
theorem cel_r {cA : Nat → ClassId} {ad : Nat → Nat} {M : Mem} {k t : Nat} (h : (lay k).1 = t) (h2 : ¬ t < 23) : cel cA ad M k = .inl (cA (t - 20), (lay k).2, .inr (.inr (.inr (.inr (fun i => (M.2.2.1 k i).map ad))))) := by
  unfold cel; rw [h, if_neg (by omega), if_neg h2]
def AdOk (ad : Nat → Nat) (A : Nat → Prop) : Prop := (∀ i j, ad i = ad j → i = j) ∧ ∀ k, A (ad k)
theorem ws_D {cA : Nat → ClassId} {ad : Nat → Nat} {A : Nat → Prop} {M : Mem} (h : AdOk ad A) : va_D A (wsM cA ad M) := by
  refine ⟨fun i j p q hp hq e => ?_, fun k q hq => ?_⟩
  · obtain ⟨-, rfl⟩ := ws_inv hp
    obtain ⟨-, rfl⟩ := ws_inv hq
    exact h.1 i j e
  · obtain ⟨-, rfl⟩ := ws_inv hq
    exact h.2 k
/-- the world at a point of a walk: the memory M lies in the heap H; since the entry nothing outside A has changed -/
def Wd (D : va_G) (cA : Nat → ClassId) (ad : Nat → Nat) (A : Nat → Prop) (s : State) (M : Mem) (H : Heap) (locs : List Loc) : Prop := va_P D vwCl (wsM cA ad M) H ∧ va_S A s.heap H locs
/-- a class by its number -/
def CF (ci : Nat) (C : String) (T : u_T) (N : Nat) (ty : Nat → FieldType) : Prop := vwCl[ci]? = some (C, T, N) ∧ (∀ w ∈ u_ws C T N, w ∈ tblG) ∧ (∀ k, k < N → parseFieldDescriptor (T k).2.2.1 = some (ty k)) ∧ (∀ a, a < N → ∀ b, b < N → a ≠ b → (T a).2.1 ≠ (T b).2.1) ∧ nf ci = N ∧ ci < 20
def rmD (d : Nat) : Room := { frames := d, cells := 0, slots := 0, locals := 32 * d }
abbrev wd (y : MethodName) (bytes : ByteArray) (maxL : Nat) (ret : Option FieldType) : List Cond := Cond.code y bytes maxL ret :: tblG
def PcW (D : va_G) (cA : Nat → ClassId) (ad : Nat → Nat) (av : List Value) (M : Mem) : Array Value → State → Prop := va_Pc av (fun U => va_P D vwCl (wsM cA ad M) U.heap ∧ va_K D vwCl (tysOf cA) U)
def QI (D : va_G) (cA : Nat → ClassId) (ad : Nat → Nat) (A : Nat → Prop) (r : Int32) (M : Mem) : Array Value → State → Outcome → State → Prop := va_Qi (fun (x : Int32) (_ : Unit) => x = r) (fun _ t => va_P D vwCl (wsM cA ad M) t.heap) A
def QL (D : va_G) (cA : Nat → ClassId) (ad : Nat → Nat) (A : Nat → Prop) (r : Int64) (M : Mem) : Array Value → State → Outcome → State → Prop := va_Ql (fun (x : Int64) (_ : Unit) => x = r) (fun _ t => va_P D vwCl (wsM cA ad M) t.heap) A
def QV (D : va_G) (cA : Nat → ClassId) (ad : Nat → Nat) (A : Nat → Prop) (M : Mem) : Array Value → State → Outcome → State → Prop := va_Qv (fun (_ : Unit) => True) (fun _ t => va_P D vwCl (wsM cA ad M) t.heap) A
def QR (D : va_G) (cA : Nat → ClassId) (ad : Nat → Nat) (A : Nat → Prop) (r : Nat) (M : Mem) : Array Value → State → Outcome → State → Prop := va_Qr (fun (_ : Unit) => True) (fun _ a t => a = ad r ∧ va_P D vwCl (wsM cA ad M) t.heap) A
/-- what the tables say of a method that is called: on an object, or static -/
def MY (y : MethodName) (bytes : ByteArray) (maxL : Nat) (ret : Option FieldType) (n : Nat) : Prop := Cond.code y bytes maxL ret ∈ tblG ∧ Cond.initialized y.cls ∈ tblG ∧ (y.cls ≠ "java/lang/invoke/MethodHandle" ∧ y.cls ≠ "java/lang/invoke/VarHandle" ∧ (parseMethodDescriptor y.desc).map (fun d => d.parameters.length) = some n)
theorem gd {y : MethodName} {bytes : ByteArray} {maxL : Nat} {ret : Option FieldType} (h : Cond.code y bytes maxL ret ∈ tblG) : GoodIn tblG (wd y bytes maxL ret) := by
  intro w hw
  rcases List.mem_cons.mp hw with rfl | hw
  · exact ⟨h, good_of_word (List.mem_filter.mp h).2⟩
  · exact ⟨hw, good_of_word (List.mem_filter.mp hw).2⟩
theorem tb {args : Array Value} {s : State} {w0 : Cond} (h : ∀ w ∈ w0 :: tblG, w.before args s = true) : ∀ w ∈ tblG, w.before args s = true := fun v hv => h v (List.mem_cons_of_mem _ hv)
section RW
variable {p : Program} {l : Launch} {e : Env} {R : Room} {s : State} {m : MethodId} {args : Array Value} {below : List Frame} {meth : Method} {c : Code} {H : Heap} {locs : List Loc} {cells slots : Nat} {Q : State → Prop}
variable {cc : ByteArray} {pc nL : Nat} {ls : Array Slot} {rest : List Value} {D : va_G} {cA : Nat → ClassId} {ad : Nat → Nat} {A : Nat → Prop} {own : String} {M M' : Mem}
theorem fv_get {ci j N : Nat} {k : Nat} (hn : nf ci = N) (hj : j < N) : ((List.range (nf ci)).map (fun j => fvl ad M (ft ci j) k j))[j]? = some (fvl ad M (ft ci j) k j) := by
  rw [List.getElem?_map, List.getElem?_range (by rw [hn]; exact hj)]
  rfl
theorem fv_set {ci j N : Nat} {k : Nat} {v : Value} (hn : nf ci = N) (hj : j < N) (hv : fvl ad M' (ft ci j) k j = v) (ho : ∀ i, i ≠ j → fvl ad M' (ft ci i) k i = fvl ad M (ft ci i) k i) : ((List.range (nf ci)).map (fun j => fvl ad M' (ft ci j) k j)) = ((List.range (nf ci)).map (fun j => fvl ad M (ft ci j) k j)).set j v := by
  apply List.ext_getElem?
  intro i
  rw [List.getElem?_set]
  by_cases hi : i < N
  · rw [fv_get (M := M') hn hi]
    by_cases hij : j = i
    · subst hij
      rw [if_pos rfl, if_pos (by simp [hn, hj]), hv]
    · rw [if_neg hij, fv_get hn hi, ho i (fun q => hij q.symm)]
  · have e1 : ∀ (M : Mem), ((List.range (nf ci)).map (fun j => fvl ad M (ft ci j) k j))[i]? = none := fun M => by rw [List.getElem?_eq_none]; simp [hn]; omega
    rw [e1 M', if_neg (by omega), e1 M]
theorem r_gI {C : String} {T : u_T} {N ci j index k : Nat} {ty : Nat → FieldType} {v : Int32} (hC : CallFix p m c cc nL s args tblG own) (hK : va_K D vwCl (tysOf cA) s) (hW : Wd D cA ad A s M H locs) (cf : CF ci C T N ty) (hj : j < N) (hlink : Cond.fieldLink own index (T j).1 (T j).2.1 (T j).2.2.1 ∈ tblG) (hft : ft ci j = 0) (hg : gI M k ci j = some v) (hdg : decode cc pc = .ok (.getfield index, 3))
    (kk : W p l e R s m args below meth c H locs cells slots Q (F0 m (pc + 3) ls (.int v :: rest))) : W p l e R s m args below meth c H locs cells slots Q (F0 m pc ls (.ref (ad k) :: rest)) := by
  obtain ⟨⟨h1, h2⟩, h3⟩ := so hg
  have he := ws_get (cA := cA) (ad := ad) h1
  rw [cel_o h2 cf.2.2.2.2.2] at he
  refine va_get hC.1 hC.2.1 hC.2.2.2.2 cf.2.1 hC.2.2.2.1 hK hW.1 k he cf.1 j hj (hC.2.2.2.2 _ hlink) (fun _ h => h) (fv_get cf.2.2.2.2.1 hj) hdg ?_
  rw [hft]
  have h4 : M.2.1 k j = v := Option.some.inj h3
  simpa [fvl, h4] using kk
theorem r_gL {C : String} {T : u_T} {N ci j index k : Nat} {ty : Nat → FieldType} {v : Int64} (hC : CallFix p m c cc nL s args tblG own) (hK : va_K D vwCl (tysOf cA) s) (hW : Wd D cA ad A s M H locs) (cf : CF ci C T N ty) (hj : j < N) (hlink : Cond.fieldLink own index (T j).1 (T j).2.1 (T j).2.2.1 ∈ tblG) (hft : ft ci j = 2) (hg : gL M k ci j = some v) (hdg : decode cc pc = .ok (.getfield index, 3))
    (kk : W p l e R s m args below meth c H locs cells slots Q (F0 m (pc + 3) ls (.long v :: rest))) : W p l e R s m args below meth c H locs cells slots Q (F0 m pc ls (.ref (ad k) :: rest)) := by
  obtain ⟨⟨h1, h2⟩, h3⟩ := so hg
  have he := ws_get (cA := cA) (ad := ad) h1
  rw [cel_o h2 cf.2.2.2.2.2] at he
  refine va_get hC.1 hC.2.1 hC.2.2.2.2 cf.2.1 hC.2.2.2.1 hK hW.1 k he cf.1 j hj (hC.2.2.2.2 _ hlink) (fun _ h => h) (fv_get cf.2.2.2.2.1 hj) hdg ?_
  rw [hft]
  have h4 : M.2.2.2 k j = v := Option.some.inj h3
  simpa [fvl, h4] using kk
theorem r_gR {C : String} {T : u_T} {N ci j index k : Nat} {ty : Nat → FieldType} {v : Nat} (hC : CallFix p m c cc nL s args tblG own) (hK : va_K D vwCl (tysOf cA) s) (hW : Wd D cA ad A s M H locs) (cf : CF ci C T N ty) (hj : j < N) (hlink : Cond.fieldLink own index (T j).1 (T j).2.1 (T j).2.2.1 ∈ tblG) (hft : ft ci j = 1) (hg : gR M k ci j = some v) (hdg : decode cc pc = .ok (.getfield index, 3))
    (kk : W p l e R s m args below meth c H locs cells slots Q (F0 m (pc + 3) ls (.ref (ad v) :: rest))) : W p l e R s m args below meth c H locs cells slots Q (F0 m pc ls (.ref (ad k) :: rest)) := by
  obtain ⟨⟨h1, h2⟩, h3⟩ := so hg
  have he := ws_get (cA := cA) (ad := ad) h1
  rw [cel_o h2 cf.2.2.2.2.2] at he
  refine va_get hC.1 hC.2.1 hC.2.2.2.2 cf.2.1 hC.2.2.2.1 hK hW.1 k he cf.1 j hj (hC.2.2.2.2 _ hlink) (fun _ h => h) (fv_get cf.2.2.2.2.1 hj) hdg ?_
  rw [hft]
  simpa [fvl, h3, va_rf] using kk
theorem cel_up {M M' : Mem} {k : Nat} (h1 : ∀ j, j ≠ k → M'.2.1 j = M.2.1 j) (h2 : ∀ j, j ≠ k → M'.2.2.1 j = M.2.2.1 j) (h3 : ∀ j, j ≠ k → M'.2.2.2 j = M.2.2.2 j) : ∀ j, j ≠ k → cel cA ad M' j = cel cA ad M j := by
  intro j hj
  unfold cel fvl
  rw [h1 j hj, h2 j hj, h3 j hj]
theorem up2_o {α : Type} {f : Nat → Nat → α} {k j i : Nat} {v : α} (h : i ≠ k) : up2 f k j v i = f i := by
  funext b; unfold up2; rw [if_neg (fun q => h q.1)]
theorem up2_s {α : Type} {f : Nat → Nat → α} {k j : Nat} {v : α} : up2 f k j v k j = v := by unfold up2; rw [if_pos ⟨rfl, rfl⟩]
theorem up2_n {α : Type} {f : Nat → Nat → α} {k j i : Nat} {v : α} (h : i ≠ j) : up2 f k j v k i = f k i := by unfold up2; rw [if_neg (fun q => h q.2)]
theorem upR_o {α : Type} {f : Nat → Nat → α} {k i : Nat} {r : Nat → α} (h : i ≠ k) : upR f k r i = f i := by
  funext b; unfold upR; rw [if_neg h]
theorem upR_s {α : Type} {f : Nat → Nat → α} {k : Nat} {r : Nat → α} : upR f k r k = r := by
  funext b; unfold upR; rw [if_pos rfl]
theorem up2_row {f : Nat → Nat → Int32} {k j : Nat} {v : Int32} : up2 f k j v k = upd (f k) j v := by
  funext b; unfold up2 upd
  by_cases h : b = j
  · rw [if_pos ⟨rfl, h⟩, if_pos h]
  · rw [if_neg (fun q => h q.2), if_neg h]
theorem r_pI {C : String} {T : u_T} {N ci j index k : Nat} {ty : Nat → FieldType} {v : Int32} (hC : CallFix p m c cc nL s args tblG own) (hK : va_K D vwCl (tysOf cA) s) (hAd : AdOk ad A) (hW : Wd D cA ad A s M H locs) (cf : CF ci C T N ty) (hj : j < N) (hlink : Cond.fieldLink own index (T j).1 (T j).2.1 (T j).2.2.1 ∈ tblG) (hft : ft ci j = 0) (hfin : (T j).2.2.2 = false) (hty : ty j = .int) (hg : pI M k ci j v = some M') (hdg : decode cc pc = .ok (.putfield index, 3))
    (kk : ∀ (H1 : Heap) (locs1 : List Loc), Wd D cA ad A s M' H1 locs1 → W p l e R s m args below meth c H1 locs1 cells slots Q (F0 m (pc + 3) ls rest)) : W p l e R s m args below meth c H locs cells slots Q (F0 m pc ls (.int v :: .ref (ad k) :: rest)) := by
  obtain ⟨⟨h1, h2⟩, h3⟩ := so hg
  have he := ws_get (cA := cA) (ad := ad) h1
  rw [cel_o h2 cf.2.2.2.2.2] at he
  have hM : (M.1, up2 M.2.1 k j v, M.2.2.1, M.2.2.2) = M' := Option.some.inj h3
  refine va_put hC.1 hC.2.1 hC.2.2.2.2 cf.2.1 ty cf.2.2.1 cf.2.2.2.1 hC.2.2.2.1 hK hW.1 (ws_D hAd) hW.2 k he cf.1 j hj (hC.2.2.2.2 _ hlink) (fun _ h => h) hfin (ty := .int) (by rw [cf.2.2.1 j hj, hty]) rfl rfl (by simp [cf.2.2.2.2.1]; exact hj) hdg (fun H1 locs1 hP1 _ hS1 => kk H1 locs1 ⟨?_, hS1⟩)
  rw [ws_set (M' := M') (by rw [← hM]) ?_ ?_] at hP1
  · exact hP1
  · rw [cel_o h2 cf.2.2.2.2.2, fv_set (M := M) (v := .int v) cf.2.2.2.2.1 hj]
    · rw [hft, ← hM]; simp [fvl, up2_s]
    · intro i hi; rw [← hM]; simp [fvl, up2_n hi]
  · rw [← hM]; exact cel_up (fun j hj => up2_o hj) (fun _ _ => rfl) (fun _ _ => rfl)
theorem r_pL {C : String} {T : u_T} {N ci j index k : Nat} {ty : Nat → FieldType} {v : Int64} (hC : CallFix p m c cc nL s args tblG own) (hK : va_K D vwCl (tysOf cA) s) (hAd : AdOk ad A) (hW : Wd D cA ad A s M H locs) (cf : CF ci C T N ty) (hj : j < N) (hlink : Cond.fieldLink own index (T j).1 (T j).2.1 (T j).2.2.1 ∈ tblG) (hft : ft ci j = 2) (hfin : (T j).2.2.2 = false) (hty : ty j = .long) (hg : pL M k ci j v = some M') (hdg : decode cc pc = .ok (.putfield index, 3))
    (kk : ∀ (H1 : Heap) (locs1 : List Loc), Wd D cA ad A s M' H1 locs1 → W p l e R s m args below meth c H1 locs1 cells slots Q (F0 m (pc + 3) ls rest)) : W p l e R s m args below meth c H locs cells slots Q (F0 m pc ls (.long v :: .ref (ad k) :: rest)) := by
  obtain ⟨⟨h1, h2⟩, h3⟩ := so hg
  have he := ws_get (cA := cA) (ad := ad) h1
  rw [cel_o h2 cf.2.2.2.2.2] at he
  have hM : (M.1, M.2.1, M.2.2.1, up2 M.2.2.2 k j v) = M' := Option.some.inj h3
  refine va_put hC.1 hC.2.1 hC.2.2.2.2 cf.2.1 ty cf.2.2.1 cf.2.2.2.1 hC.2.2.2.1 hK hW.1 (ws_D hAd) hW.2 k he cf.1 j hj (hC.2.2.2.2 _ hlink) (fun _ h => h) hfin (ty := .long) (by rw [cf.2.2.1 j hj, hty]) rfl rfl (by simp [cf.2.2.2.2.1]; exact hj) hdg (fun H1 locs1 hP1 _ hS1 => kk H1 locs1 ⟨?_, hS1⟩)
  rw [ws_set (M' := M') (by rw [← hM]) ?_ ?_] at hP1
  · exact hP1
  · rw [cel_o h2 cf.2.2.2.2.2, fv_set (M := M) (v := .long v) cf.2.2.2.2.1 hj]
    · rw [hft, ← hM]; simp [fvl, up2_s]
    · intro i hi; rw [← hM]; simp [fvl, up2_n hi]
  · rw [← hM]; exact cel_up (fun _ _ => rfl) (fun _ _ => rfl) (fun j hj => up2_o hj)
theorem r_pR {C O : String} {T : u_T} {N ci j index k : Nat} {ty : Nat → FieldType} {v : Nat} (hC : CallFix p m c cc nL s args tblG own) (hK : va_K D vwCl (tysOf cA) s) (hAd : AdOk ad A) (hW : Wd D cA ad A s M H locs) (cf : CF ci C T N ty) (hj : j < N) (hlink : Cond.fieldLink own index (T j).1 (T j).2.1 (T j).2.2.1 ∈ tblG) (hft : ft ci j = 1) (hfin : (T j).2.2.2 = false) (hty : ty j = .object O) (hg : pR M k ci j v = some M') (hdg : decode cc pc = .ok (.putfield index, 3))
    (kk : ∀ (H1 : Heap) (locs1 : List Loc), Wd D cA ad A s M' H1 locs1 → W p l e R s m args below meth c H1 locs1 cells slots Q (F0 m (pc + 3) ls rest)) : W p l e R s m args below meth c H locs cells slots Q (F0 m pc ls (.ref (ad v) :: .ref (ad k) :: rest)) := by
  obtain ⟨⟨h1, h2⟩, h3⟩ := so hg
  have he := ws_get (cA := cA) (ad := ad) h1
  rw [cel_o h2 cf.2.2.2.2.2] at he
  have hM : (M.1, M.2.1, up2 M.2.2.1 k j (some v), M.2.2.2) = M' := Option.some.inj h3
  refine va_put hC.1 hC.2.1 hC.2.2.2.2 cf.2.1 ty cf.2.2.1 cf.2.2.2.1 hC.2.2.2.1 hK hW.1 (ws_D hAd) hW.2 k he cf.1 j hj (hC.2.2.2.2 _ hlink) (fun _ h => h) hfin (ty := .object O) (by rw [cf.2.2.1 j hj, hty]) rfl rfl (by simp [cf.2.2.2.2.1]; exact hj) hdg (fun H1 locs1 hP1 _ hS1 => kk H1 locs1 ⟨?_, hS1⟩)
  rw [ws_set (M' := M') (by rw [← hM]) ?_ ?_] at hP1
  · exact hP1
  · rw [cel_o h2 cf.2.2.2.2.2, fv_set (M := M) (v := .ref (ad v)) cf.2.2.2.2.1 hj]
    · rw [hft, ← hM]; simp [fvl, up2_s, va_rf]
    · intro i hi; rw [← hM]; simp [fvl, up2_n hi]
  · rw [← hM]; exact cel_up (fun _ _ => rfl) (fun j hj => up2_o hj) (fun _ _ => rfl)
theorem r_aI {k : Nat} {i v : Int32} (hC : CallFix p m c cc nL s args tblG own) (hK : va_K D vwCl (tysOf cA) s) (hW : Wd D cA ad A s M H locs) (hg : aI 20 M k i = some v) (hdg : decode cc pc = .ok (.iaload, 1))
    (kk : W p l e R s m args below meth c H locs cells slots Q (F0 m (pc + 1) ls (.int v :: rest))) : W p l e R s m args below meth c H locs cells slots Q (F0 m pc ls (.int i :: .ref (ad k) :: rest)) := by
  obtain ⟨⟨h1, h2, h3⟩, h4⟩ := so hg
  have he := ws_get (cA := cA) (ad := ad) h1
  rw [cel_i h2 (by decide) (by decide)] at he
  refine va_iald hC.1 hC.2.1 hK hW.1 k 0 he rfl h3 hdg ?_
  rw [Option.some.inj h4]
  exact kk
theorem r_aC {k : Nat} {i v : Int32} (hC : CallFix p m c cc nL s args tblG own) (hK : va_K D vwCl (tysOf cA) s) (hW : Wd D cA ad A s M H locs) (hg : aI 21 M k i = some v) (hdg : decode cc pc = .ok (.caload, 1))
    (kk : W p l e R s m args below meth c H locs cells slots Q (F0 m (pc + 1) ls (.int v :: rest))) : W p l e R s m args below meth c H locs cells slots Q (F0 m pc ls (.int i :: .ref (ad k) :: rest)) := by
  obtain ⟨⟨h1, h2, h3⟩, h4⟩ := so hg
  have he := ws_get (cA := cA) (ad := ad) h1
  rw [cel_i h2 (by decide) (by decide)] at he
  refine va_cald hC.1 hC.2.1 hK hW.1 k 1 he rfl h3 hdg ?_
  rw [Option.some.inj h4]
  exact kk
theorem r_aZ {k : Nat} {i v : Int32} (hC : CallFix p m c cc nL s args tblG own) (hK : va_K D vwCl (tysOf cA) s) (hW : Wd D cA ad A s M H locs) (hg : aI 22 M k i = some v) (hdg : decode cc pc = .ok (.baload, 1))
    (kk : W p l e R s m args below meth c H locs cells slots Q (F0 m (pc + 1) ls (.int v :: rest))) : W p l e R s m args below meth c H locs cells slots Q (F0 m pc ls (.int i :: .ref (ad k) :: rest)) := by
  obtain ⟨⟨h1, h2, h3⟩, h4⟩ := so hg
  have he := ws_get (cA := cA) (ad := ad) h1
  rw [cel_i h2 (by decide) (by decide)] at he
  refine va_zald hC.1 hC.2.1 hK hW.1 k 2 he rfl h3 hdg ?_
  rw [Option.some.inj h4]
  exact kk
theorem sA_ws {t k : Nat} {i v : Int32} (hg : sA t M k i v = some M') (h1 : ¬ t < 20) (h2 : t < 23) {H1 : Heap} (hP1 : va_P D vwCl ((wsM cA ad M).set k (ad k, .inl (cA (t - 20), (lay k).2, .inl (upd (M.2.1 k) i.toNatClampNeg v)))) H1) : va_P D vwCl (wsM cA ad M') H1 := by
  obtain ⟨⟨g1, g2, g3⟩, g4⟩ := so hg
  have hM : (M.1, up2 M.2.1 k i.toNatClampNeg v, M.2.2.1, M.2.2.2) = M' := Option.some.inj g4
  rw [ws_set (M' := M') (by rw [← hM]) ?_ ?_] at hP1
  · exact hP1
  · rw [cel_i g2 h1 h2, ← hM]; simp only [up2_row]
  · rw [← hM]; exact cel_up (fun j hj => up2_o hj) (fun _ _ => rfl) (fun _ _ => rfl)
theorem r_sI {k : Nat} {i v : Int32} (hC : CallFix p m c cc nL s args tblG own) (hK : va_K D vwCl (tysOf cA) s) (hAd : AdOk ad A) (hW : Wd D cA ad A s M H locs) (hg : sI M k i v = some M') (hdg : decode cc pc = .ok (.iastore, 1))
    (kk : ∀ (H1 : Heap) (locs1 : List Loc), Wd D cA ad A s M' H1 locs1 → W p l e R s m args below meth c H1 locs1 cells slots Q (F0 m (pc + 1) ls rest)) : W p l e R s m args below meth c H locs cells slots Q (F0 m pc ls (.int v :: .int i :: .ref (ad k) :: rest)) := by
  obtain ⟨⟨h1, h2, h3⟩, h4⟩ := so hg
  have he := ws_get (cA := cA) (ad := ad) h1
  rw [cel_i h2 (by decide) (by decide)] at he
  exact va_iast hC.1 hC.2.1 hK hW.1 (ws_D hAd) hW.2 k 0 he rfl h3 hdg (fun H1 locs1 hP1 _ hS1 => kk H1 locs1 ⟨sA_ws hg (by decide) (by decide) hP1, hS1⟩)
theorem r_sC {k : Nat} {i v : Int32} (hC : CallFix p m c cc nL s args tblG own) (hK : va_K D vwCl (tysOf cA) s) (hAd : AdOk ad A) (hW : Wd D cA ad A s M H locs) (hg : sC M k i v = some M') (hdg : decode cc pc = .ok (.castore, 1))
    (kk : ∀ (H1 : Heap) (locs1 : List Loc), Wd D cA ad A s M' H1 locs1 → W p l e R s m args below meth c H1 locs1 cells slots Q (F0 m (pc + 1) ls rest)) : W p l e R s m args below meth c H locs cells slots Q (F0 m pc ls (.int v :: .int i :: .ref (ad k) :: rest)) := by
  obtain ⟨⟨h1, h2, h3⟩, h4⟩ := so hg
  have he := ws_get (cA := cA) (ad := ad) h1
  rw [cel_i h2 (by decide) (by decide)] at he
  exact va_cast hC.1 hC.2.1 hK hW.1 (ws_D hAd) hW.2 k 1 he rfl h3 hdg (fun H1 locs1 hP1 _ hS1 => kk H1 locs1 ⟨sA_ws hg (by decide) (by decide) hP1, hS1⟩)
theorem r_sZ {k : Nat} {i v : Int32} (hC : CallFix p m c cc nL s args tblG own) (hK : va_K D vwCl (tysOf cA) s) (hAd : AdOk ad A) (hW : Wd D cA ad A s M H locs) (hg : sZ M k i v = some M') (hdg : decode cc pc = .ok (.bastore, 1))
    (kk : ∀ (H1 : Heap) (locs1 : List Loc), Wd D cA ad A s M' H1 locs1 → W p l e R s m args below meth c H1 locs1 cells slots Q (F0 m (pc + 1) ls rest)) : W p l e R s m args below meth c H locs cells slots Q (F0 m pc ls (.int v :: .int i :: .ref (ad k) :: rest)) := by
  obtain ⟨⟨h1, h2, h3⟩, h4⟩ := so hg
  have he := ws_get (cA := cA) (ad := ad) h1
  rw [cel_i h2 (by decide) (by decide)] at he
  exact va_zast hC.1 hC.2.1 hK hW.1 (ws_D hAd) hW.2 k 2 he rfl h3 hdg (fun H1 locs1 hP1 _ hS1 => kk H1 locs1 ⟨sA_ws hg (by decide) (by decide) hP1, hS1⟩)
theorem r_aR {t k v : Nat} {i : Int32} (hC : CallFix p m c cc nL s args tblG own) (hK : va_K D vwCl (tysOf cA) s) (hW : Wd D cA ad A s M H locs) (ht : t = 23 ∨ t = 24) (hg : aR t M k i = some v) (hdg : decode cc pc = .ok (.aaload, 1))
    (kk : W p l e R s m args below meth c H locs cells slots Q (F0 m (pc + 1) ls (.ref (ad v) :: rest))) : W p l e R s m args below meth c H locs cells slots Q (F0 m pc ls (.int i :: .ref (ad k) :: rest)) := by
  obtain ⟨⟨h1, h2, h3⟩, h4⟩ := so hg
  have he := ws_get (cA := cA) (ad := ad) h1
  rcases ht with rfl | rfl
  · rw [cel_r h2 (by decide)] at he
    refine va_aldq (C := "TrayTurns$Now") hC.1 hC.2.1 hK hW.1 k 3 he rfl h3 hdg ?_
    rw [h4]
    exact kk
  · rw [cel_r h2 (by decide)] at he
    refine va_aldq (C := "TrayTurns$GuestKind") hC.1 hC.2.1 hK hW.1 k 4 he rfl h3 hdg ?_
    rw [h4]
    exact kk
theorem r_sR {k r : Nat} {i : Int32} (hC : CallFix p m c cc nL s args tblG own) (hK : va_K D vwCl (tysOf cA) s) (hAd : AdOk ad A) (hW : Wd D cA ad A s M H locs) (hg : sR 23 7 M k i r = some M') (hdg : decode cc pc = .ok (.aastore, 1))
    (kk : ∀ (H1 : Heap) (locs1 : List Loc), Wd D cA ad A s M' H1 locs1 → W p l e R s m args below meth c H1 locs1 cells slots Q (F0 m (pc + 1) ls rest)) : W p l e R s m args below meth c H locs cells slots Q (F0 m pc ls (.ref (ad r) :: .int i :: .ref (ad k) :: rest)) := by
  obtain ⟨⟨h1, h2, h5, h6, h3⟩, h4⟩ := so hg
  have he := ws_get (cA := cA) (ad := ad) h1
  have hr := ws_get (cA := cA) (ad := ad) h5
  rw [cel_r h2 (by decide)] at he
  rw [cel_o h6 (by decide)] at hr
  have hM : (M.1, M.2.1, up2 M.2.2.1 k i.toNatClampNeg (some r), M.2.2.2) = M' := Option.some.inj h4
  refine va_astq (r := (RX7, TX7, 5)) hC.1 hC.2.1 hK hW.1 (ws_D hAd) hW.2 k 3 r 7 he rfl hr rfl h3 hdg (fun H1 locs1 hP1 _ hS1 => kk H1 locs1 ⟨?_, hS1⟩)
  rw [ws_set (M' := M') (by rw [← hM]) ?_ ?_] at hP1
  · exact hP1
  · rw [cel_r h2 (by decide), ← hM]
    congr 7
    funext q
    by_cases hq : q = i.toNatClampNeg
    · subst hq; simp [va_up, up2]
    · simp [va_up, up2, hq]
  · rw [← hM]; exact cel_up (fun _ _ => rfl) (fun j hj => up2_o hj) (fun _ _ => rfl)
theorem r_aL {k : Nat} {v : Int32} (hC : CallFix p m c cc nL s args tblG own) (hK : va_K D vwCl (tysOf cA) s) (hW : Wd D cA ad A s M H locs) (hg : aL 20 M k = some v) (hdg : decode cc pc = .ok (.arraylength, 1))
    (kk : W p l e R s m args below meth c H locs cells slots Q (F0 m (pc + 1) ls (.int v :: rest))) : W p l e R s m args below meth c H locs cells slots Q (F0 m pc ls (.ref (ad k) :: rest)) := by
  obtain ⟨⟨h1, h2⟩, h4⟩ := so hg
  have he := ws_get (cA := cA) (ad := ad) h1
  rw [cel_i h2 (by decide) (by decide)] at he
  exact va_alen hC.1 hC.2.1 hK hW.1 k 0 he rfl (Option.some.inj h4) hdg kk
theorem r_cp {k1 k2 index d : Nat} {sp dp n : Int32} (hC : CallFix p m c cc nL s args tblG own) (hK : va_K D vwCl (tysOf cA) s) (hAd : AdOk ad A) (hW : Wd D cA ad A s M H locs) (hlink : Cond.methodLink own index arraycopyName ∈ tblG) (hl : ls.size = nL) (hg : cpI M k1 sp k2 dp n = some M') (hdg : decode cc pc = .ok (.invokestatic index, 3))
    (kk : ∀ (H1 : Heap) (locs1 : List Loc), Wd D cA ad A s M' H1 locs1 → W p l e (rmD (d + 1)) s m args below meth c H1 locs1 cells slots Q (F0 m (pc + 3) ls [])) : W p l e (rmD (d + 1)) s m args below meth c H locs cells slots Q (F0 m pc ls (.int n :: .int dp :: .ref (ad k2) :: .int sp :: .ref (ad k1) :: [])) := by
  obtain ⟨⟨h1, h2, h3, h4, h5, h6, h7, h8, h9⟩, h10⟩ := so hg
  have he1 := ws_get (cA := cA) (ad := ad) h1
  have he2 := ws_get (cA := cA) (ad := ad) h3
  rw [cel_i h2 (by decide) (by decide)] at he1
  rw [cel_i h4 (by decide) (by decide)] at he2
  have hM := Option.some.inj h10
  refine va_copyi hC.1 hC.2.1 (by rw [hC.2.2.1, hl]) hC.2.2.2.1 (hC.2.2.2.2 _ hlink) (hC.2.2.2.2 _ w_nat_copy) (hC.2.2.2.2 _ w_st_copy) (hC.2.2.2.2 _ w_in_sys) hK hW.1 (ws_D hAd) hW.2 k1 k2 0 0 he1 he2 rfl rfl rfl h5 h6 h7 h8 h9 (fun _ _ => rfl) (Nat.le_add_left 1 d) ?_ hdg (fun H1 locs1 hP1 _ hS1 => kk H1 locs1 ⟨?_, hS1⟩)
  · have h20 : nativeFrameWords "java/lang/System" "arraycopy" 5 + 11 ≤ 32 := by decide
    show _ ≤ 32 * (d + 1)
    simp only [List.map_nil, List.sum_nil]
    omega
  · rw [ws_set (M' := M') (by rw [← hM]) ?_ ?_] at hP1
    · exact hP1
    · rw [cel_i h4 (by decide) (by decide), ← hM]; simp only [upR_s]
    · rw [← hM]; exact cel_up (fun j hj => upR_o hj) (fun _ _ => rfl) (fun _ _ => rfl)
theorem r_min {index d : Nat} {x y : Int32} (hC : CallFix p m c cc nL s args tblG own) (hlink : Cond.methodLink own index Lib.Math.min.name ∈ tblG) (hl : ls.size = nL) (hr : (rest.map fun v => v.category).sum ≤ 8) (hc : cells = 0) (hs : slots = 0) (hdg : decode cc pc = .ok (.invokestatic index, 3))
    (kk : W p l e (rmD (d + 1)) s m args below meth c H locs cells slots Q (F0 m (pc + 3) ls (.int (if y < x then y else x) :: rest))) : W p l e (rmD (d + 1)) s m args below meth c H locs cells slots Q (F0 m pc ls (.int y :: .int x :: rest)) :=
  va_mmin hC.1 hC.2.1 (by rw [hC.2.2.1, hl]) hC.2.2.2.1 (hC.2.2.2.2 _ hlink) (hC.2.2.2.2 _ w_st_min) (hC.2.2.2.2 _ w_in_math) (hC.2.2.2.2 _ w_cd_min) (Nat.le_add_left 1 d) (by show _ ≤ 32 * (d + 1); omega) (by rw [hc]; exact Nat.zero_le _) (by rw [hs]; exact Nat.zero_le _) hdg kk
theorem r_max {index d : Nat} {x y : Int32} (hC : CallFix p m c cc nL s args tblG own) (hlink : Cond.methodLink own index Lib.Math.max.name ∈ tblG) (hl : ls.size = nL) (hr : (rest.map fun v => v.category).sum ≤ 8) (hc : cells = 0) (hs : slots = 0) (hdg : decode cc pc = .ok (.invokestatic index, 3))
    (kk : W p l e (rmD (d + 1)) s m args below meth c H locs cells slots Q (F0 m (pc + 3) ls (.int (if x < y then y else x) :: rest))) : W p l e (rmD (d + 1)) s m args below meth c H locs cells slots Q (F0 m pc ls (.int y :: .int x :: rest)) :=
  va_mmax hC.1 hC.2.1 (by rw [hC.2.2.1, hl]) hC.2.2.2.1 (hC.2.2.2.2 _ hlink) (hC.2.2.2.2 _ w_st_max) (hC.2.2.2.2 _ w_in_math) (hC.2.2.2.2 _ w_cd_max) (Nat.le_add_left 1 d) (by show _ ≤ 32 * (d + 1); omega) (by rw [hc]; exact Nat.zero_le _) (by rw [hs]; exact Nat.zero_le _) hdg kk
theorem r_iret {v : Int32} {q : Int32 × Mem} (hC : CallFix p m c cc nL s args tblG own) (hr : meth.sig.returnType = some .int) (hlocks : meth.locks = false) (hW : Wd D cA ad A s M H locs) (hf : some (v, M) = some q) (hdg : decode cc pc = .ok (.ireturn, 1)) : W p l e R s m args below meth c H locs cells slots (MQ below (QI D cA ad A q.1 q.2) args s cells slots A) (F0 m pc ls [.int v]) := by
  cases hf
  exact W.iret hC.1 hC.2.1 hr (fun t ht hWm => ⟨⟨v, (), rfl, rfl, by show va_P D vwCl (wsM cA ad _) t.heap; rw [ht]; exact hW.1⟩, hW.2.F ht⟩) hW.2.2.2 hdg hlocks
theorem r_iretP {v q : Int32} (hC : CallFix p m c cc nL s args tblG own) (hr : meth.sig.returnType = some .int) (hlocks : meth.locks = false) (hW : Wd D cA ad A s M H locs) (hf : some v = some q) (hdg : decode cc pc = .ok (.ireturn, 1)) : W p l e R s m args below meth c H locs cells slots (MQ below (QI D cA ad A q M) args s cells slots A) (F0 m pc ls [.int v]) := by
  cases hf
  exact W.iret hC.1 hC.2.1 hr (fun t ht hWm => ⟨⟨v, (), rfl, rfl, by show va_P D vwCl (wsM cA ad _) t.heap; rw [ht]; exact hW.1⟩, hW.2.F ht⟩) hW.2.2.2 hdg hlocks
theorem zr_n {v r : Int32} (h : zr v = some r) : r = v ∧ narrow .boolean (.int v) = .int v := by
  obtain ⟨h1, h2⟩ := so h
  refine ⟨(Option.some.inj h2).symm, ?_⟩
  rcases h1 with rfl | rfl <;> decide
theorem r_zret {v : Int32} {q : Int32 × Mem} (hC : CallFix p m c cc nL s args tblG own) (hr : meth.sig.returnType = some .boolean) (hlocks : meth.locks = false) (hW : Wd D cA ad A s M H locs) (hf : (zr v).bind (fun r => some (r, M)) = some q) (hdg : decode cc pc = .ok (.ireturn, 1)) : W p l e R s m args below meth c H locs cells slots (MQ below (QI D cA ad A q.1 q.2) args s cells slots A) (F0 m pc ls [.int v]) := by
  obtain ⟨r, h1, h2⟩ := ob hf
  obtain ⟨rfl, h3⟩ := zr_n h1
  cases h2
  exact W.zret hC.1 hC.2.1 hr h3 (fun t ht hWm => ⟨⟨_, (), rfl, rfl, by show va_P D vwCl (wsM cA ad _) t.heap; rw [ht]; exact hW.1⟩, hW.2.F ht⟩) hW.2.2.2 hdg hlocks
theorem r_zretP {v q : Int32} (hC : CallFix p m c cc nL s args tblG own) (hr : meth.sig.returnType = some .boolean) (hlocks : meth.locks = false) (hW : Wd D cA ad A s M H locs) (hf : zr v = some q) (hdg : decode cc pc = .ok (.ireturn, 1)) : W p l e R s m args below meth c H locs cells slots (MQ below (QI D cA ad A q M) args s cells slots A) (F0 m pc ls [.int v]) := by
  obtain ⟨rfl, h3⟩ := zr_n hf
  exact W.zret hC.1 hC.2.1 hr h3 (fun t ht hWm => ⟨⟨_, (), rfl, rfl, by show va_P D vwCl (wsM cA ad _) t.heap; rw [ht]; exact hW.1⟩, hW.2.F ht⟩) hW.2.2.2 hdg hlocks
theorem r_vret {q : Mem} (hC : CallFix p m c cc nL s args tblG own) (hr : meth.sig.returnType = none) (hlocks : meth.locks = false) (hW : Wd D cA ad A s M H locs) (hf : some M = some q) (hdg : decode cc pc = .ok (.return_, 1)) : W p l e R s m args below meth c H locs cells slots (MQ below (QV D cA ad A q) args s cells slots A) (F0 m pc ls []) := by
  cases hf
  exact W.vret hC.1 hC.2.1 hr (fun t ht hWm => ⟨⟨(), rfl, trivial, by show va_P D vwCl (wsM cA ad _) t.heap; rw [ht]; exact hW.1⟩, hW.2.F ht⟩) hW.2.2.2 hdg hlocks
theorem r_lretP {v q : Int64} (hC : CallFix p m c cc nL s args tblG own) (hr : meth.sig.returnType = some .long) (hlocks : meth.locks = false) (hW : Wd D cA ad A s M H locs) (hf : some v = some q) (hdg : decode cc pc = .ok (.lreturn, 1)) : W p l e R s m args below meth c H locs cells slots (MQ below (QL D cA ad A q M) args s cells slots A) (F0 m pc ls [.long v]) := by
  cases hf
  exact W.lret hC.1 hC.2.1 hr (fun t ht hWm => ⟨⟨v, (), rfl, rfl, by show va_P D vwCl (wsM cA ad _) t.heap; rw [ht]; exact hW.1⟩, hW.2.F ht⟩) hW.2.2.2 hdg hlocks
theorem r_lret {v : Int64} {q : Int64 × Mem} (hC : CallFix p m c cc nL s args tblG own) (hr : meth.sig.returnType = some .long) (hlocks : meth.locks = false) (hW : Wd D cA ad A s M H locs) (hf : some (v, M) = some q) (hdg : decode cc pc = .ok (.lreturn, 1)) : W p l e R s m args below meth c H locs cells slots (MQ below (QL D cA ad A q.1 q.2) args s cells slots A) (F0 m pc ls [.long v]) := by
  cases hf
  exact W.lret hC.1 hC.2.1 hr (fun t ht hWm => ⟨⟨v, (), rfl, rfl, by show va_P D vwCl (wsM cA ad _) t.heap; rw [ht]; exact hW.1⟩, hW.2.F ht⟩) hW.2.2.2 hdg hlocks
theorem r_aret {v : Nat} {C : String} {q : Nat × Mem} (hC : CallFix p m c cc nL s args tblG own) (hr : meth.sig.returnType = some (.object C)) (hlocks : meth.locks = false) (hW : Wd D cA ad A s M H locs) (hf : some (v, M) = some q) (hdg : decode cc pc = .ok (.areturn, 1)) : W p l e R s m args below meth c H locs cells slots (MQ below (QR D cA ad A q.1 q.2) args s cells slots A) (F0 m pc ls [.ref (ad v)]) := by
  cases hf
  exact W.aret hC.1 hC.2.1 hr (Or.inl ⟨_, rfl⟩) (Or.inr ⟨_, rfl⟩) (fun t ht hWm => ⟨⟨(), _, rfl, trivial, rfl, by show va_P D vwCl (wsM cA ad _) t.heap; rw [ht]; exact hW.1⟩, hW.2.F ht⟩) hW.2.2.2 hdg hlocks
/-- the callee's start out of the caller's world -/
theorem pre_s {av : List Value} (hK : va_K D vwCl (tysOf cA) s) (hW : Wd D cA ad A s M H locs) : PreS s H (PcW D cA ad av M) av :=
  ⟨fun a U g mk q => ⟨q.1, q.2.1, va_K.moved (u := U) (U := U.calling g mk a) (Vm.Alike.refl U.vm) q.2.2⟩, fun U hU hWm => ⟨rfl, by rw [hU]; exact hW.1, va_K.moved hWm.alike hK⟩⟩
theorem pre_v {k ci : Nat} {C : String} {T : u_T} {N : Nat} {ty : Nat → FieldType} {As : List Value} (cf : CF ci C T N ty) (h1 : k < M.1) (h2 : (lay k).1 = ci) (hK : va_K D vwCl (tysOf cA) s) (hW : Wd D cA ad A s M H locs) : PreV s H C (ad k) (PcW D cA ad (.ref (ad k) :: As) M) As := by
  refine ⟨(pre_s hK hW).1, ?_, (pre_s hK hW).2⟩
  have he := ws_get (cA := cA) (ad := ad) h1
  rw [cel_o h2 cf.2.2.2.2.2] at he
  exact va_recv hK hW.1 cf.1 he
theorem cv_s {α : Type} {k ci : Nat} {o : Option α} {r : α} (h : cv M k ci o = some r) : (k < M.1 ∧ (lay k).1 = ci) ∧ o = some r := so h
end RW
section RX
variable {p : Program} {l : Launch} {e : Env} {R : Room} {s : State} {m : MethodId} {args : Array Value} {below : List Frame} {meth : Method} {c : Code} {H : Heap} {locs : List Loc} {cells slots : Nat} {Q : State → Prop}
variable {cc : ByteArray} {pc nL : Nat} {ls : Array Slot} {rest : List Value} {D : va_G} {cA : Nat → ClassId} {ad : Nat → Nat} {A : Nat → Prop} {own : String} {M M' : Mem}
theorem r_div {x y v : Int32} (hC : CallFix p m c cc nL s args tblG own) (hg : dvI x y = some v) (hdg : decode cc pc = .ok (.idiv, 1)) (kk : W p l e R s m args below meth c H locs cells slots Q (F0 m (pc + 1) ls (.int v :: rest))) : W p l e R s m args below meth c H locs cells slots Q (F0 m pc ls (.int y :: .int x :: rest)) := by
  unfold dvI at hg
  by_cases h : y = 0
  · rw [if_pos h] at hg; cases hg
  · rw [if_neg h] at hg; cases hg; exact lv_idiv hC.1 hC.2.1 hdg h kk
theorem r_rem {x y v : Int32} (hC : CallFix p m c cc nL s args tblG own) (hg : rmI x y = some v) (hdg : decode cc pc = .ok (.irem, 1)) (kk : W p l e R s m args below meth c H locs cells slots Q (F0 m (pc + 1) ls (.int v :: rest))) : W p l e R s m args below meth c H locs cells slots Q (F0 m pc ls (.int y :: .int x :: rest)) := by
  unfold rmI at hg
  by_cases h : y = 0
  · rw [if_pos h] at hg; cases hg
  · rw [if_neg h] at hg; cases hg; exact lv_irem hC.1 hC.2.1 hdg h kk
/-- a contract out of a walk from the entry -/
theorem mk_met {y : MethodName} {bytes : ByteArray} {maxL d : Nat} {ret : Option FieldType} {av : List Value} {Qc : Array Value → State → Outcome → State → Prop} (hp : plainName y.cls = true) (ho : y.cls = own) (hlen : (lg_sl av).length ≤ maxL)
    (body : ∀ (p : Program) (e : Env) (s : State) (m : MethodId) (below : List Frame) (meth : Method) (c : Code), CallFix p m c bytes maxL s av.toArray tblG own → meth.sig.returnType = ret → meth.locks = false → va_K D vwCl (tysOf cA) s → ∀ (H : Heap) (locs : List Loc) (ls : Array Slot), Wd D cA ad A s M H locs → lv_has ls maxL (lv_args 0 av) → W p l e (rmD d) s m av.toArray below meth c H locs 0 0 (MQ below Qc av.toArray s 0 0 A) (F0 m 0 ls [])) :
    Met l y (wd y bytes maxL ret) (rmD d) (PcW D cA ad av M) Qc 0 0 A := by
  refine Met.ofW (cc := bytes) (maxL := maxL) (ret := ret) hp rfl ?_
  intro p e s m args below meth c s₁ B hml hv
  obtain ⟨rfl, hP, hK⟩ := hv
  rw [lg_entry_eq]
  exact body p e s m below meth c ⟨B.exec, B.bytes, hml, by rw [← ho]; exact findClass_of_methodNamed B.named, tb (atoms_spec (ws := wd y bytes maxL ret) B.pre)⟩ B.returns B.notSynchronized hK s.heap [] _ ⟨hP, va_S.rf⟩ (lv_entry av hlen)
end RX
end
section
theorem uw_X0 : ∀ w ∈ u_ws RX0 TX0 6, w ∈ tblG := by
  have h : u_ws RX0 TX0 6 = ([243, 245, 247, 249, 251, 253] : List Nat).filterMap (fun i => lw_tbl[i]?) := by decide +kernel
  have g : (u_ws RX0 TX0 6).all goodWord = true := by decide +kernel
  intro w hw
  have g2 := List.all_eq_true.mp g w hw
  rw [h] at hw
  obtain ⟨i, -, hi⟩ := List.mem_filterMap.mp hw
  exact tG i hi g2
theorem cfX0 : CF 0 RX0 TX0 6 tyX0 := ⟨rfl, uw_X0, tyX0_ok, nmX0, rfl, by decide⟩
theorem uw_X1 : ∀ w ∈ u_ws RX1 TX1 0, w ∈ tblG := by
  intro w hw; exact absurd hw List.not_mem_nil
theorem cfX1 : CF 1 RX1 TX1 0 tyX1 := ⟨rfl, uw_X1, tyX1_ok, nmX1, rfl, by decide⟩
theorem uw_X2 : ∀ w ∈ u_ws RX2 TX2 0, w ∈ tblG := by
  intro w hw; exact absurd hw List.not_mem_nil
theorem cfX2 : CF 2 RX2 TX2 0 tyX2 := ⟨rfl, uw_X2, tyX2_ok, nmX2, rfl, by decide⟩
theorem uw_X3 : ∀ w ∈ u_ws RX3 TX3 0, w ∈ tblG := by
  intro w hw; exact absurd hw List.not_mem_nil
theorem cfX3 : CF 3 RX3 TX3 0 tyX3 := ⟨rfl, uw_X3, tyX3_ok, nmX3, rfl, by decide⟩
theorem uw_X4 : ∀ w ∈ u_ws RX4 TX4 0, w ∈ tblG := by
  intro w hw; exact absurd hw List.not_mem_nil
theorem cfX4 : CF 4 RX4 TX4 0 tyX4 := ⟨rfl, uw_X4, tyX4_ok, nmX4, rfl, by decide⟩
theorem uw_X5 : ∀ w ∈ u_ws RX5 TX5 5, w ∈ tblG := by
  have h : u_ws RX5 TX5 5 = ([209, 211, 213, 215, 217] : List Nat).filterMap (fun i => lw_tbl[i]?) := by decide +kernel
  have g : (u_ws RX5 TX5 5).all goodWord = true := by decide +kernel
  intro w hw
  have g2 := List.all_eq_true.mp g w hw
  rw [h] at hw
  obtain ⟨i, -, hi⟩ := List.mem_filterMap.mp hw
  exact tG i hi g2
theorem cfX5 : CF 5 RX5 TX5 5 tyX5 := ⟨rfl, uw_X5, tyX5_ok, nmX5, rfl, by decide⟩
theorem uw_X6 : ∀ w ∈ u_ws RX6 TX6 0, w ∈ tblG := by
  intro w hw; exact absurd hw List.not_mem_nil
theorem cfX6 : CF 6 RX6 TX6 0 tyX6 := ⟨rfl, uw_X6, tyX6_ok, nmX6, rfl, by decide⟩
theorem uw_X7 : ∀ w ∈ u_ws RX7 TX7 5, w ∈ tblG := by
  have h : u_ws RX7 TX7 5 = ([119, 121, 123, 125, 127] : List Nat).filterMap (fun i => lw_tbl[i]?) := by decide +kernel
  have g : (u_ws RX7 TX7 5).all goodWord = true := by decide +kernel
  intro w hw
  have g2 := List.all_eq_true.mp g w hw
  rw [h] at hw
  obtain ⟨i, -, hi⟩ := List.mem_filterMap.mp hw
  exact tG i hi g2
theorem cfX7 : CF 7 RX7 TX7 5 tyX7 := ⟨rfl, uw_X7, tyX7_ok, nmX7, rfl, by decide⟩
theorem uw_X8 : ∀ w ∈ u_ws RX8 TX8 8, w ∈ tblG := by
  have h : u_ws RX8 TX8 8 = ([156, 158, 160, 162, 164, 166, 168, 170] : List Nat).filterMap (fun i => lw_tbl[i]?) := by decide +kernel
  have g : (u_ws RX8 TX8 8).all goodWord = true := by decide +kernel
  intro w hw
  have g2 := List.all_eq_true.mp g w hw
  rw [h] at hw
  obtain ⟨i, -, hi⟩ := List.mem_filterMap.mp hw
  exact tG i hi g2
theorem cfX8 : CF 8 RX8 TX8 8 tyX8 := ⟨rfl, uw_X8, tyX8_ok, nmX8, rfl, by decide⟩
theorem uw_X9 : ∀ w ∈ u_ws RX9 TX9 7, w ∈ tblG := by
  have h : u_ws RX9 TX9 7 = ([182, 184, 186, 188, 190, 192, 194] : List Nat).filterMap (fun i => lw_tbl[i]?) := by decide +kernel
  have g : (u_ws RX9 TX9 7).all goodWord = true := by decide +kernel
  intro w hw
  have g2 := List.all_eq_true.mp g w hw
  rw [h] at hw
  obtain ⟨i, -, hi⟩ := List.mem_filterMap.mp hw
  exact tG i hi g2
theorem cfX9 : CF 9 RX9 TX9 7 tyX9 := ⟨rfl, uw_X9, tyX9_ok, nmX9, rfl, by decide⟩
theorem uw_X10 : ∀ w ∈ u_ws RX10 TX10 0, w ∈ tblG := by
  intro w hw; exact absurd hw List.not_mem_nil
theorem cfX10 : CF 10 RX10 TX10 0 tyX10 := ⟨rfl, uw_X10, tyX10_ok, nmX10, rfl, by decide⟩
theorem uw_X11 : ∀ w ∈ u_ws RX11 TX11 16, w ∈ tblG := by
  have h : u_ws RX11 TX11 16 = ([321, 323, 325, 327, 329, 331, 333, 335, 337, 339, 341, 343, 345, 347, 349, 351] : List Nat).filterMap (fun i => lw_tbl[i]?) := by decide +kernel
  have g : (u_ws RX11 TX11 16).all goodWord = true := by decide +kernel
  intro w hw
  have g2 := List.all_eq_true.mp g w hw
  rw [h] at hw
  obtain ⟨i, -, hi⟩ := List.mem_filterMap.mp hw
  exact tG i hi g2
theorem cfX11 : CF 11 RX11 TX11 16 tyX11 := ⟨rfl, uw_X11, tyX11_ok, nmX11, rfl, by decide⟩
theorem uw_X12 : ∀ w ∈ u_ws RX12 TX12 26, w ∈ tblG := by
  have h : u_ws RX12 TX12 26 = ([731, 733, 735, 737, 739, 741, 743, 745, 747, 749, 751, 753, 755, 757, 759, 761, 763, 765, 767, 769, 771, 773, 775, 777, 779, 781] : List Nat).filterMap (fun i => lw_tbl[i]?) := by decide +kernel
  have g : (u_ws RX12 TX12 26).all goodWord = true := by decide +kernel
  intro w hw
  have g2 := List.all_eq_true.mp g w hw
  rw [h] at hw
  obtain ⟨i, -, hi⟩ := List.mem_filterMap.mp hw
  exact tG i hi g2
theorem cfX12 : CF 12 RX12 TX12 26 tyX12 := ⟨rfl, uw_X12, tyX12_ok, nmX12, rfl, by decide⟩
theorem my_X0_init : MY yX0_init cX0_init 1 none 0 := ⟨wC_X0_init, wN_X0, by decide +kernel⟩
theorem my_X6_init : MY yX6_init cX6_init 1 none 0 := ⟨wC_X6_init, wN_X6, by decide +kernel⟩
theorem my_X1_init : MY yX1_init cX1_init 1 none 0 := ⟨wC_X1_init, wN_X1, by decide +kernel⟩
theorem my_X6_worth : MY yX6_worth cX6_worth 2 (some .int) 1 := ⟨wC_X6_worth, wN_X6, by decide +kernel⟩
theorem my_X1_worth : MY yX1_worth cX1_worth 2 (some .int) 1 := ⟨wC_X1_worth, wN_X1, by decide +kernel⟩
theorem my_X10_init : MY yX10_init cX10_init 1 none 0 := ⟨wC_X10_init, wN_X10, by decide +kernel⟩
theorem my_X2_init : MY yX2_init cX2_init 1 none 0 := ⟨wC_X2_init, wN_X2, by decide +kernel⟩
theorem my_X10_worth : MY yX10_worth cX10_worth 2 (some .int) 1 := ⟨wC_X10_worth, wN_X10, by decide +kernel⟩
theorem my_X2_worth : MY yX2_worth cX2_worth 2 (some .int) 1 := ⟨wC_X2_worth, wN_X2, by decide +kernel⟩
theorem my_X3_init : MY yX3_init cX3_init 1 none 0 := ⟨wC_X3_init, wN_X3, by decide +kernel⟩
theorem my_X3_worth : MY yX3_worth cX3_worth 2 (some .int) 1 := ⟨wC_X3_worth, wN_X3, by decide +kernel⟩
theorem my_X4_init : MY yX4_init cX4_init 1 none 0 := ⟨wC_X4_init, wN_X4, by decide +kernel⟩
theorem my_X4_worth : MY yX4_worth cX4_worth 2 (some .int) 1 := ⟨wC_X4_worth, wN_X4, by decide +kernel⟩
theorem my_X5_init : MY yX5_init cX5_init 1 none 0 := ⟨wC_X5_init, wN_X5, by decide +kernel⟩
theorem my_X8_needs : MY yX8_needs cX8_needs 4 (some .int) 2 := ⟨wC_X8_needs, wN_X8, by decide +kernel⟩
theorem my_X5_most : MY yX5_most cX5_most 6 (some .int) 1 := ⟨wC_X5_most, wN_X5, by decide +kernel⟩
theorem my_X5_firstFor : MY yX5_firstFor cX5_firstFor 4 (some .int) 2 := ⟨wC_X5_firstFor, wN_X5, by decide +kernel⟩
theorem my_X5_share : MY yX5_share cX5_share 6 (some .int) 2 := ⟨wC_X5_share, wN_X5, by decide +kernel⟩
theorem my_X7_init : MY yX7_init cX7_init 1 none 0 := ⟨wC_X7_init, wN_X7, by decide +kernel⟩
theorem my_X7_become : MY yX7_become cX7_become 2 none 1 := ⟨wC_X7_become, wN_X7, by decide +kernel⟩
theorem my_X7_changeSeats : MY yX7_changeSeats cX7_changeSeats 4 none 2 := ⟨wC_X7_changeSeats, wN_X7, by decide +kernel⟩
theorem my_X8_init : MY yX8_init cX8_init 1 none 0 := ⟨wC_X8_init, wN_X8, by decide +kernel⟩
theorem my_X8_empty : MY yX8_empty cX8_empty 1 none 0 := ⟨wC_X8_empty, wN_X8, by decide +kernel⟩
theorem my_J9_floorMod_7cf53 : MY yJ9_floorMod_7cf53 cJ9_floorMod_7cf53 3 (some .int) 2 := ⟨wC_J9_floorMod_7cf53, wN_J9, by decide +kernel⟩
theorem my_X8_around : MY yX8_around cX8_around 2 (some .int) 1 := ⟨wC_X8_around, wN_X8, by decide +kernel⟩
theorem my_X8_seatBefore : MY yX8_seatBefore cX8_seatBefore 3 (some .int) 2 := ⟨wC_X8_seatBefore, wN_X8, by decide +kernel⟩
theorem my_X8_gap : MY yX8_gap cX8_gap 5 (some .int) 4 := ⟨wC_X8_gap, wN_X8, by decide +kernel⟩
theorem my_X8_reaches : MY yX8_reaches cX8_reaches 6 (some .boolean) 4 := ⟨wC_X8_reaches, wN_X8, by decide +kernel⟩
theorem my_X8_stepsBy : MY yX8_stepsBy cX8_stepsBy 6 (some .int) 4 := ⟨wC_X8_stepsBy, wN_X8, by decide +kernel⟩
theorem my_X8_reachedBy : MY yX8_reachedBy cX8_reachedBy 5 (some .int) 2 := ⟨wC_X8_reachedBy, wN_X8, by decide +kernel⟩
theorem my_X8_whoReach : MY yX8_whoReach cX8_whoReach 6 (some .int) 3 := ⟨wC_X8_whoReach, wN_X8, by decide +kernel⟩
theorem my_X8_hasEnough : MY yX8_hasEnough cX8_hasEnough 5 (some .boolean) 2 := ⟨wC_X8_hasEnough, wN_X8, by decide +kernel⟩
theorem my_J7_fill_53178 : MY yJ7_fill_53178 cJ7_fill_53178 4 none 2 := ⟨wC_J7_fill_53178, wN_J7, by decide +kernel⟩
theorem my_X8_fillFurthest : MY yX8_fillFurthest cX8_fillFurthest 6 none 1 := ⟨wC_X8_fillFurthest, wN_X8, by decide +kernel⟩
theorem my_X8_tour : MY yX8_tour cX8_tour 5 (some .int) 1 := ⟨wC_X8_tour, wN_X8, by decide +kernel⟩
theorem my_X9_init : MY yX9_init cX9_init 1 none 0 := ⟨wC_X9_init, wN_X9, by decide +kernel⟩
theorem my_X9_isSmall : MY yX9_isSmall cX9_isSmall 1 (some .boolean) 1 := ⟨wC_X9_isSmall, wN_X9, by decide +kernel⟩
theorem my_X9_nextWord : MY yX9_nextWord cX9_nextWord 1 none 0 := ⟨wC_X9_nextWord, wN_X9, by decide +kernel⟩
theorem my_X9_isDigit : MY yX9_isDigit cX9_isDigit 1 (some .boolean) 1 := ⟨wC_X9_isDigit, wN_X9, by decide +kernel⟩
theorem my_X9_nextNumber : MY yX9_nextNumber cX9_nextNumber 2 none 0 := ⟨wC_X9_nextNumber, wN_X9, by decide +kernel⟩
theorem my_X9_nextToken : MY yX9_nextToken cX9_nextToken 1 none 0 := ⟨wC_X9_nextToken, wN_X9, by decide +kernel⟩
theorem my_X9_isWord : MY yX9_isWord cX9_isWord 2 (some .boolean) 1 := ⟨wC_X9_isWord, wN_X9, by decide +kernel⟩
theorem my_X9_readNumber : MY yX9_readNumber cX9_readNumber 3 (some .boolean) 2 := ⟨wC_X9_readNumber, wN_X9, by decide +kernel⟩
theorem my_X9_readClose : MY yX9_readClose cX9_readClose 1 (some .boolean) 0 := ⟨wC_X9_readClose, wN_X9, by decide +kernel⟩
theorem my_X9_readSeats : MY yX9_readSeats cX9_readSeats 1 (some .boolean) 0 := ⟨wC_X9_readSeats, wN_X9, by decide +kernel⟩
theorem my_X9_isAmong : MY yX9_isAmong cX9_isAmong 4 (some .boolean) 2 := ⟨wC_X9_isAmong, wN_X9, by decide +kernel⟩
theorem my_X9_readRow : MY yX9_readRow cX9_readRow 2 (some .boolean) 0 := ⟨wC_X9_readRow, wN_X9, by decide +kernel⟩
theorem my_X9_readGuest : MY yX9_readGuest cX9_readGuest 2 (some .boolean) 0 := ⟨wC_X9_readGuest, wN_X9, by decide +kernel⟩
theorem my_X9_readDish : MY yX9_readDish cX9_readDish 2 (some .boolean) 0 := ⟨wC_X9_readDish, wN_X9, by decide +kernel⟩
theorem my_X9_readItem : MY yX9_readItem cX9_readItem 2 (some .boolean) 1 := ⟨wC_X9_readItem, wN_X9, by decide +kernel⟩
theorem my_X9_read : MY yX9_read cX9_read 2 (some .int) 0 := ⟨wC_X9_read, wN_X9, by decide +kernel⟩
theorem my_X9_handOver : MY yX9_handOver cX9_handOver 3 (some (.object "TrayTurns$Party")) 1 := ⟨wC_X9_handOver, wN_X9, by decide +kernel⟩
theorem my_X11_init : MY yX11_init cX11_init 2 none 0 := ⟨wC_X11_init, wN_X11, by decide +kernel⟩
theorem my_X11_type : MY yX11_type cX11_type 2 (some .int) 1 := ⟨wC_X11_type, wN_X11, by decide +kernel⟩
theorem my_X11_clear : MY yX11_clear cX11_clear 2 (some .int) 0 := ⟨wC_X11_clear, wN_X11, by decide +kernel⟩
theorem my_X11_table : MY yX11_table cX11_table 3 (some .int) 0 := ⟨wC_X11_table, wN_X11, by decide +kernel⟩
theorem my_X11_isGuest : MY yX11_isGuest cX11_isGuest 2 (some .boolean) 1 := ⟨wC_X11_isGuest, wN_X11, by decide +kernel⟩
theorem my_X11_guest : MY yX11_guest cX11_guest 3 (some .int) 2 := ⟨wC_X11_guest, wN_X11, by decide +kernel⟩
theorem my_X11_isDish : MY yX11_isDish cX11_isDish 2 (some .boolean) 1 := ⟨wC_X11_isDish, wN_X11, by decide +kernel⟩
theorem my_X11_dish : MY yX11_dish cX11_dish 3 (some .int) 2 := ⟨wC_X11_dish, wN_X11, by decide +kernel⟩
theorem my_X11_allPortions : MY yX11_allPortions cX11_allPortions 3 (some .int) 0 := ⟨wC_X11_allPortions, wN_X11, by decide +kernel⟩
theorem my_X11_swap : MY yX11_swap cX11_swap 6 (some .int) 0 := ⟨wC_X11_swap, wN_X11, by decide +kernel⟩
theorem my_X11_now : MY yX11_now cX11_now 2 (some .int) 1 := ⟨wC_X11_now, wN_X11, by decide +kernel⟩
theorem my_X11_isBit : MY yX11_isBit cX11_isBit 1 (some .boolean) 1 := ⟨wC_X11_isBit, wN_X11, by decide +kernel⟩
theorem my_X11_remember : MY yX11_remember cX11_remember 3 none 0 := ⟨wC_X11_remember, wN_X11, by decide +kernel⟩
theorem my_X11_spill : MY yX11_spill cX11_spill 3 (some .int) 0 := ⟨wC_X11_spill, wN_X11, by decide +kernel⟩
theorem my_X11_spins : MY yX11_spins cX11_spins 3 (some .int) 2 := ⟨wC_X11_spins, wN_X11, by decide +kernel⟩
theorem my_X11_takes : MY yX11_takes cX11_takes 3 (some .int) 2 := ⟨wC_X11_takes, wN_X11, by decide +kernel⟩
theorem my_X11_isTurn : MY yX11_isTurn cX11_isTurn 2 (some .boolean) 1 := ⟨wC_X11_isTurn, wN_X11, by decide +kernel⟩
theorem my_X11_isEmpty : MY yX11_isEmpty cX11_isEmpty 3 (some .boolean) 1 := ⟨wC_X11_isEmpty, wN_X11, by decide +kernel⟩
theorem my_X11_moves : MY yX11_moves cX11_moves 4 (some .int) 2 := ⟨wC_X11_moves, wN_X11, by decide +kernel⟩
theorem my_X11_changes : MY yX11_changes cX11_changes 3 (some .int) 2 := ⟨wC_X11_changes, wN_X11, by decide +kernel⟩
theorem my_X11_undo : MY yX11_undo cX11_undo 1 (some .int) 0 := ⟨wC_X11_undo, wN_X11, by decide +kernel⟩
theorem my_X11_steps : MY yX11_steps cX11_steps 7 (some .int) 3 := ⟨wC_X11_steps, wN_X11, by decide +kernel⟩
theorem my_X11_puts : MY yX11_puts cX11_puts 6 (some .int) 1 := ⟨wC_X11_puts, wN_X11, by decide +kernel⟩
theorem my_X11_fed : MY yX11_fed cX11_fed 2 (some .int) 1 := ⟨wC_X11_fed, wN_X11, by decide +kernel⟩
theorem my_X11_spreadChances : MY yX11_spreadChances cX11_spreadChances 7 (some .int) 1 := ⟨wC_X11_spreadChances, wN_X11, by decide +kernel⟩
theorem my_X11_odds : MY yX11_odds cX11_odds 7 (some .int) 3 := ⟨wC_X11_odds, wN_X11, by decide +kernel⟩
theorem my_X11_sees : MY yX11_sees cX11_sees 4 (some .int) 3 := ⟨wC_X11_sees, wN_X11, by decide +kernel⟩
theorem my_X11_forget : MY yX11_forget cX11_forget 2 (some .int) 0 := ⟨wC_X11_forget, wN_X11, by decide +kernel⟩
theorem my_X11_fitsAllSeen : MY yX11_fitsAllSeen cX11_fitsAllSeen 3 (some .boolean) 1 := ⟨wC_X11_fitsAllSeen, wN_X11, by decide +kernel⟩
theorem my_X11_who : MY yX11_who cX11_who 3 (some .int) 0 := ⟨wC_X11_who, wN_X11, by decide +kernel⟩
theorem my_J6_bitCount_0f7a4 : MY yJ6_bitCount_0f7a4 cJ6_bitCount_0f7a4 1 (some .int) 1 := ⟨wC_J6_bitCount_0f7a4, wN_J6, by decide +kernel⟩
theorem my_X11_look : MY yX11_look cX11_look 9 (some .int) 1 := ⟨wC_X11_look, wN_X11, by decide +kernel⟩
theorem my_X11_rate : MY yX11_rate cX11_rate 3 (some .int) 2 := ⟨wC_X11_rate, wN_X11, by decide +kernel⟩
theorem my_X11_isImage : MY yX11_isImage cX11_isImage 2 (some .boolean) 1 := ⟨wC_X11_isImage, wN_X11, by decide +kernel⟩
theorem my_X11_keep : MY yX11_keep cX11_keep 2 (some .int) 1 := ⟨wC_X11_keep, wN_X11, by decide +kernel⟩
theorem my_X11_back : MY yX11_back cX11_back 2 (some .int) 1 := ⟨wC_X11_back, wN_X11, by decide +kernel⟩
theorem my_X11_count : MY yX11_count cX11_count 2 (some .int) 1 := ⟨wC_X11_count, wN_X11, by decide +kernel⟩
theorem my_X11_trace : MY yX11_trace cX11_trace 1 (some .long) 0 := ⟨wC_X11_trace, wN_X11, by decide +kernel⟩
theorem my_X12_begins : MY yX12_begins cX12_begins 2 none 0 := ⟨wC_X12_begins, wN_X12, by decide +kernel⟩
theorem my_X12_settles : MY yX12_settles cX12_settles 2 none 0 := ⟨wC_X12_settles, wN_X12, by decide +kernel⟩
theorem my_X12_init : MY yX12_init cX12_init 1 none 0 := ⟨wC_X12_init, wN_X12, by decide +kernel⟩
theorem my_X12_in : MY yX12_in cX12_in 3 (some .boolean) 3 := ⟨wC_X12_in, wN_X12, by decide +kernel⟩
theorem my_X12_isOf : MY yX12_isOf cX12_isOf 2 (some .boolean) 2 := ⟨wC_X12_isOf, wN_X12, by decide +kernel⟩
theorem my_X12_ones : MY yX12_ones cX12_ones 3 (some .int) 1 := ⟨wC_X12_ones, wN_X12, by decide +kernel⟩
theorem my_X12_type : MY yX12_type cX12_type 2 (some .int) 1 := ⟨wC_X12_type, wN_X12, by decide +kernel⟩
theorem my_X12_clear : MY yX12_clear cX12_clear 2 (some .int) 0 := ⟨wC_X12_clear, wN_X12, by decide +kernel⟩
theorem my_X12_letterAt : MY yX12_letterAt cX12_letterAt 2 (some .int) 1 := ⟨wC_X12_letterAt, wN_X12, by decide +kernel⟩
theorem my_X12_advances : MY yX12_advances cX12_advances 2 none 0 := ⟨wC_X12_advances, wN_X12, by decide +kernel⟩
theorem my_X12_isWell : MY yX12_isWell cX12_isWell 1 (some .boolean) 0 := ⟨wC_X12_isWell, wN_X12, by decide +kernel⟩
theorem my_X12_takesToken : MY yX12_takesToken cX12_takesToken 3 (some .int) 1 := ⟨wC_X12_takesToken, wN_X12, by decide +kernel⟩
theorem my_X12_number : MY yX12_number cX12_number 3 (some .int) 2 := ⟨wC_X12_number, wN_X12, by decide +kernel⟩
theorem my_X12_mayBegin : MY yX12_mayBegin cX12_mayBegin 2 (some .boolean) 1 := ⟨wC_X12_mayBegin, wN_X12, by decide +kernel⟩
theorem my_X12_free : MY yX12_free cX12_free 5 (some .int) 2 := ⟨wC_X12_free, wN_X12, by decide +kernel⟩
theorem my_X12_lettersRow : MY yX12_lettersRow cX12_lettersRow 6 (some .int) 0 := ⟨wC_X12_lettersRow, wN_X12, by decide +kernel⟩
theorem my_X12_readsItem : MY yX12_readsItem cX12_readsItem 3 none 1 := ⟨wC_X12_readsItem, wN_X12, by decide +kernel⟩
theorem my_X12_table : MY yX12_table cX12_table 3 (some .int) 0 := ⟨wC_X12_table, wN_X12, by decide +kernel⟩
theorem my_X12_isGuest : MY yX12_isGuest cX12_isGuest 2 (some .boolean) 1 := ⟨wC_X12_isGuest, wN_X12, by decide +kernel⟩
theorem my_X12_isDish : MY yX12_isDish cX12_isDish 2 (some .boolean) 1 := ⟨wC_X12_isDish, wN_X12, by decide +kernel⟩
theorem my_X12_isSeat : MY yX12_isSeat cX12_isSeat 2 (some .boolean) 1 := ⟨wC_X12_isSeat, wN_X12, by decide +kernel⟩
theorem my_X12_reachesBy : MY yX12_reachesBy cX12_reachesBy 6 (some .boolean) 3 := ⟨wC_X12_reachesBy, wN_X12, by decide +kernel⟩
theorem my_X12_reachedBy : MY yX12_reachedBy cX12_reachedBy 4 (some .int) 1 := ⟨wC_X12_reachedBy, wN_X12, by decide +kernel⟩
theorem my_X12_needsOf : MY yX12_needsOf cX12_needsOf 2 (some .int) 1 := ⟨wC_X12_needsOf, wN_X12, by decide +kernel⟩
theorem my_X12_guest : MY yX12_guest cX12_guest 3 (some .int) 2 := ⟨wC_X12_guest, wN_X12, by decide +kernel⟩
theorem my_X12_whoReach : MY yX12_whoReach cX12_whoReach 5 (some .int) 2 := ⟨wC_X12_whoReach, wN_X12, by decide +kernel⟩
theorem my_X12_dish : MY yX12_dish cX12_dish 3 (some .int) 2 := ⟨wC_X12_dish, wN_X12, by decide +kernel⟩
theorem my_X12_isEnough : MY yX12_isEnough cX12_isEnough 4 (some .boolean) 0 := ⟨wC_X12_isEnough, wN_X12, by decide +kernel⟩
theorem my_X12_isAll : MY yX12_isAll cX12_isAll 7 (some .boolean) 2 := ⟨wC_X12_isAll, wN_X12, by decide +kernel⟩
theorem my_X12_tourOf : MY yX12_tourOf cX12_tourOf 5 (some .int) 0 := ⟨wC_X12_tourOf, wN_X12, by decide +kernel⟩
theorem my_X12_trades : MY yX12_trades cX12_trades 4 none 2 := ⟨wC_X12_trades, wN_X12, by decide +kernel⟩
theorem my_X12_swapOf : MY yX12_swapOf cX12_swapOf 6 (some .int) 0 := ⟨wC_X12_swapOf, wN_X12, by decide +kernel⟩
theorem my_X12_sevens : MY yX12_sevens cX12_sevens 3 (some .int) 1 := ⟨wC_X12_sevens, wN_X12, by decide +kernel⟩
theorem my_X12_havingBy : MY yX12_havingBy cX12_havingBy 6 (some .int) 1 := ⟨wC_X12_havingBy, wN_X12, by decide +kernel⟩
theorem my_X12_feeds : MY yX12_feeds cX12_feeds 6 (some .int) 0 := ⟨wC_X12_feeds, wN_X12, by decide +kernel⟩
theorem my_X12_now : MY yX12_now cX12_now 4 (some .int) 1 := ⟨wC_X12_now, wN_X12, by decide +kernel⟩
theorem my_X12_notes : MY yX12_notes cX12_notes 2 none 0 := ⟨wC_X12_notes, wN_X12, by decide +kernel⟩
theorem my_X12_spins : MY yX12_spins cX12_spins 7 (some .int) 2 := ⟨wC_X12_spins, wN_X12, by decide +kernel⟩
theorem my_X12_takes : MY yX12_takes cX12_takes 3 (some .int) 2 := ⟨wC_X12_takes, wN_X12, by decide +kernel⟩
theorem my_X12_isEmpty : MY yX12_isEmpty cX12_isEmpty 4 (some .boolean) 1 := ⟨wC_X12_isEmpty, wN_X12, by decide +kernel⟩
theorem my_X12_moves : MY yX12_moves cX12_moves 4 (some .int) 2 := ⟨wC_X12_moves, wN_X12, by decide +kernel⟩
theorem my_X12_changes : MY yX12_changes cX12_changes 3 (some .int) 2 := ⟨wC_X12_changes, wN_X12, by decide +kernel⟩
theorem my_X12_undo : MY yX12_undo cX12_undo 2 (some .int) 0 := ⟨wC_X12_undo, wN_X12, by decide +kernel⟩
theorem my_X12_steps : MY yX12_steps cX12_steps 7 (some .int) 3 := ⟨wC_X12_steps, wN_X12, by decide +kernel⟩
theorem my_X12_puts : MY yX12_puts cX12_puts 7 (some .int) 1 := ⟨wC_X12_puts, wN_X12, by decide +kernel⟩
theorem my_X12_fed : MY yX12_fed cX12_fed 2 (some .int) 1 := ⟨wC_X12_fed, wN_X12, by decide +kernel⟩
theorem my_X12_power : MY yX12_power cX12_power 4 (some .int) 2 := ⟨wC_X12_power, wN_X12, by decide +kernel⟩
theorem my_X12_gcd : MY yX12_gcd cX12_gcd 5 (some .int) 2 := ⟨wC_X12_gcd, wN_X12, by decide +kernel⟩
theorem my_X12_odds : MY yX12_odds cX12_odds 8 (some .int) 3 := ⟨wC_X12_odds, wN_X12, by decide +kernel⟩
theorem my_X12_sees : MY yX12_sees cX12_sees 4 (some .int) 3 := ⟨wC_X12_sees, wN_X12, by decide +kernel⟩
theorem my_X12_forget : MY yX12_forget cX12_forget 2 (some .int) 0 := ⟨wC_X12_forget, wN_X12, by decide +kernel⟩
theorem my_X12_whoCan : MY yX12_whoCan cX12_whoCan 4 (some .int) 0 := ⟨wC_X12_whoCan, wN_X12, by decide +kernel⟩
theorem my_X12_who : MY yX12_who cX12_who 1 (some .int) 0 := ⟨wC_X12_who, wN_X12, by decide +kernel⟩
theorem my_X12_look : MY yX12_look cX12_look 8 (some .int) 1 := ⟨wC_X12_look, wN_X12, by decide +kernel⟩
theorem my_X12_rate : MY yX12_rate cX12_rate 6 (some .int) 2 := ⟨wC_X12_rate, wN_X12, by decide +kernel⟩
theorem my_X12_keep : MY yX12_keep cX12_keep 3 (some .int) 1 := ⟨wC_X12_keep, wN_X12, by decide +kernel⟩
theorem my_X12_back : MY yX12_back cX12_back 3 (some .int) 1 := ⟨wC_X12_back, wN_X12, by decide +kernel⟩
theorem my_X12_count : MY yX12_count cX12_count 2 (some .int) 1 := ⟨wC_X12_count, wN_X12, by decide +kernel⟩
theorem my_X12_trace : MY yX12_trace cX12_trace 1 (some .long) 0 := ⟨wC_X12_trace, wN_X12, by decide +kernel⟩
theorem my_J9_max_7cf53 : MY yJ9_max_7cf53 cJ9_max_7cf53 2 (some .int) 2 := ⟨wC_J9_max_7cf53, wN_J9, by decide +kernel⟩
theorem my_J9_min_7cf53 : MY yJ9_min_7cf53 cJ9_min_7cf53 2 (some .int) 2 := ⟨wC_J9_min_7cf53, wN_J9, by decide +kernel⟩
section KW
variable {p : Program} {l : Launch} {e : Env} {R : Room} {s : State} {m : MethodId} {args : Array Value} {below : List Frame} {meth : Method} {c : Code} {H : Heap} {locs : List Loc} {cells slots : Nat} {Q : State → Prop}
variable {cc : ByteArray} {pc nL : Nat} {ls : Array Slot} {rest st : List Value} {D : va_G} {cA : Nat → ClassId} {ad : Nat → Nat} {A : Nat → Prop} {own : String} {M M' : Mem}
variable {y : MethodName} {bytes : ByteArray} {maxL n d index k ci N : Nat} {ret : Option FieldType} {C : String} {T : u_T} {ty : Nat → FieldType} {As : List Value}
theorem k_cb (hC : CallFix p m c cc nL s args tblG own) (hy : MY y bytes maxL ret n) (hl : Cond.methodLink own index y ∈ tblG) (hR : (rmD d).frames + 1 ≤ R.frames ∧ 8 + (maxL + 11) + (rmD d).locals ≤ R.locals) : CallB R s args own index y bytes maxL ret (wd y bytes maxL ret) (rmD d) 0 0 n :=
  callB_of n hC.2.2.2.2 (gd hy.1) rfl rfl rfl (hC.2.2.2.2 _ hy.2.1) (hC.2.2.2.2 _ hl) hy.2.2 hR
theorem k_vI {r : Int32} (hC : CallFix p m c cc nL s args tblG own) (hK : va_K D vwCl (tysOf cA) s) (hW : Wd D cA ad A s M H locs) (cf : CF ci C T N ty) (hM : Met l y (wd y bytes maxL ret) (rmD d) (PcW D cA ad (.ref (ad k) :: As) M) (QI D cA ad A r M') 0 0 A) (hk : k < M.1 ∧ (lay k).1 = ci) (hy : MY y bytes maxL ret n) (hi : Cond.instanceMethod y ∈ tblG) (hs : Cond.selects C y y ∈ tblG) (hl : Cond.methodLink own index y ∈ tblG) (hR : (rmD d).frames + 1 ≤ R.frames ∧ 8 + (maxL + 11) + (rmD d).locals ≤ R.locals) (hn : As.length = n) (hsize : ls.size = nL) (hst : st = As.reverse ++ .ref (ad k) :: rest) (hroom : (rest.map fun v => v.category).sum ≤ 8) (hc : cells + 0 ≤ R.cells ∧ slots + 0 ≤ R.slots) (hdg : decode cc pc = .ok (.invokevirtual index, 3))
    (kk : ∀ (H1 : Heap) (locs1 : List Loc), Wd D cA ad A s M' H1 locs1 → W p l e R s m args below meth c H1 locs1 cells slots Q (F0 m (pc + 3) ls (.int r :: rest))) : W p l e R s m args below meth c H locs cells slots Q (F0 m pc ls st) :=
  va_calli (va_runV hC hM ⟨k_cb hC hy hl hR, hC.2.2.2.2 _ hi, hC.2.2.2.2 _ hs⟩ (pre_v cf hk.1 hk.2 hK hW) rfl hn hsize hst (lv_room hroom) hdg hc) hW.2 (fun _ _ h => h) (fun _ h => h) (fun r' u t H1 locs1 ht hvm hw hB hz hk hS => by subst hw; exact kk H1 locs1 ⟨by rw [← ht]; exact hB, hS⟩)
theorem k_vV (hC : CallFix p m c cc nL s args tblG own) (hK : va_K D vwCl (tysOf cA) s) (hW : Wd D cA ad A s M H locs) (cf : CF ci C T N ty) (hM : Met l y (wd y bytes maxL ret) (rmD d) (PcW D cA ad (.ref (ad k) :: As) M) (QV D cA ad A M') 0 0 A) (hk : k < M.1 ∧ (lay k).1 = ci) (hy : MY y bytes maxL ret n) (hi : Cond.instanceMethod y ∈ tblG) (hs : Cond.selects C y y ∈ tblG) (hl : Cond.methodLink own index y ∈ tblG) (hR : (rmD d).frames + 1 ≤ R.frames ∧ 8 + (maxL + 11) + (rmD d).locals ≤ R.locals) (hn : As.length = n) (hsize : ls.size = nL) (hst : st = As.reverse ++ .ref (ad k) :: rest) (hroom : (rest.map fun v => v.category).sum ≤ 8) (hc : cells + 0 ≤ R.cells ∧ slots + 0 ≤ R.slots) (hdg : decode cc pc = .ok (.invokevirtual index, 3))
    (kk : ∀ (H1 : Heap) (locs1 : List Loc), Wd D cA ad A s M' H1 locs1 → W p l e R s m args below meth c H1 locs1 cells slots Q (F0 m (pc + 3) ls rest)) : W p l e R s m args below meth c H locs cells slots Q (F0 m pc ls st) :=
  va_callv (va_runV hC hM ⟨k_cb hC hy hl hR, hC.2.2.2.2 _ hi, hC.2.2.2.2 _ hs⟩ (pre_v cf hk.1 hk.2 hK hW) rfl hn hsize hst (lv_room hroom) hdg hc) hW.2 (fun _ _ h => h) (fun _ h => h) (fun u t H1 locs1 ht hvm hw hB hz hk hS => kk H1 locs1 ⟨by rw [← ht]; exact hB, hS⟩)
theorem k_vL {r : Int64} (hC : CallFix p m c cc nL s args tblG own) (hK : va_K D vwCl (tysOf cA) s) (hW : Wd D cA ad A s M H locs) (cf : CF ci C T N ty) (hM : Met l y (wd y bytes maxL ret) (rmD d) (PcW D cA ad (.ref (ad k) :: As) M) (QL D cA ad A r M') 0 0 A) (hk : k < M.1 ∧ (lay k).1 = ci) (hy : MY y bytes maxL ret n) (hi : Cond.instanceMethod y ∈ tblG) (hs : Cond.selects C y y ∈ tblG) (hl : Cond.methodLink own index y ∈ tblG) (hR : (rmD d).frames + 1 ≤ R.frames ∧ 8 + (maxL + 11) + (rmD d).locals ≤ R.locals) (hn : As.length = n) (hsize : ls.size = nL) (hst : st = As.reverse ++ .ref (ad k) :: rest) (hroom : (rest.map fun v => v.category).sum ≤ 8) (hc : cells + 0 ≤ R.cells ∧ slots + 0 ≤ R.slots) (hdg : decode cc pc = .ok (.invokevirtual index, 3))
    (kk : ∀ (H1 : Heap) (locs1 : List Loc), Wd D cA ad A s M' H1 locs1 → W p l e R s m args below meth c H1 locs1 cells slots Q (F0 m (pc + 3) ls (.long r :: rest))) : W p l e R s m args below meth c H locs cells slots Q (F0 m pc ls st) :=
  va_calll (va_runV hC hM ⟨k_cb hC hy hl hR, hC.2.2.2.2 _ hi, hC.2.2.2.2 _ hs⟩ (pre_v cf hk.1 hk.2 hK hW) rfl hn hsize hst (lv_room hroom) hdg hc) hW.2 (fun _ _ h => h) (fun _ h => h) (fun r' u t H1 locs1 ht hvm hw hB hz hk hS => by subst hw; exact kk H1 locs1 ⟨by rw [← ht]; exact hB, hS⟩)
theorem k_vR {r : Nat} (hC : CallFix p m c cc nL s args tblG own) (hK : va_K D vwCl (tysOf cA) s) (hW : Wd D cA ad A s M H locs) (cf : CF ci C T N ty) (hM : Met l y (wd y bytes maxL ret) (rmD d) (PcW D cA ad (.ref (ad k) :: As) M) (QR D cA ad A r M') 0 0 A) (hk : k < M.1 ∧ (lay k).1 = ci) (hy : MY y bytes maxL ret n) (hi : Cond.instanceMethod y ∈ tblG) (hs : Cond.selects C y y ∈ tblG) (hl : Cond.methodLink own index y ∈ tblG) (hR : (rmD d).frames + 1 ≤ R.frames ∧ 8 + (maxL + 11) + (rmD d).locals ≤ R.locals) (hn : As.length = n) (hsize : ls.size = nL) (hst : st = As.reverse ++ .ref (ad k) :: rest) (hroom : (rest.map fun v => v.category).sum ≤ 8) (hc : cells + 0 ≤ R.cells ∧ slots + 0 ≤ R.slots) (hdg : decode cc pc = .ok (.invokevirtual index, 3))
    (kk : ∀ (H1 : Heap) (locs1 : List Loc), Wd D cA ad A s M' H1 locs1 → W p l e R s m args below meth c H1 locs1 cells slots Q (F0 m (pc + 3) ls (.ref (ad r) :: rest))) : W p l e R s m args below meth c H locs cells slots Q (F0 m pc ls st) :=
  va_callr (va_runV hC hM ⟨k_cb hC hy hl hR, hC.2.2.2.2 _ hi, hC.2.2.2.2 _ hs⟩ (pre_v cf hk.1 hk.2 hK hW) rfl hn hsize hst (lv_room hroom) hdg hc) hW.2 (fun _ _ h => h) (fun _ h => h) (fun u ra t H1 locs1 ht hvm hw hB hz hk hS => by obtain ⟨h8, hB⟩ := hB; subst h8; exact kk H1 locs1 ⟨by rw [← ht]; exact hB, hS⟩)
theorem k_sI {r : Int32} (hC : CallFix p m c cc nL s args tblG own) (hK : va_K D vwCl (tysOf cA) s) (hW : Wd D cA ad A s M H locs) (hM : Met l y (wd y bytes maxL ret) (rmD d) (PcW D cA ad As M) (QI D cA ad A r M') 0 0 A) (hy : MY y bytes maxL ret n) (hi : Cond.static y ∈ tblG) (hl : Cond.methodLink own index y ∈ tblG) (hR : (rmD d).frames + 1 ≤ R.frames ∧ 8 + (maxL + 11) + (rmD d).locals ≤ R.locals) (hn : As.length = n) (hsize : ls.size = nL) (hst : st = As.reverse ++ rest) (hroom : (rest.map fun v => v.category).sum ≤ 8) (hc : cells + 0 ≤ R.cells ∧ slots + 0 ≤ R.slots) (hdg : decode cc pc = .ok (.invokestatic index, 3))
    (kk : ∀ (H1 : Heap) (locs1 : List Loc), Wd D cA ad A s M' H1 locs1 → W p l e R s m args below meth c H1 locs1 cells slots Q (F0 m (pc + 3) ls (.int r :: rest))) : W p l e R s m args below meth c H locs cells slots Q (F0 m pc ls st) :=
  va_calli (va_runS hC hM ⟨k_cb hC hy hl hR, hC.2.2.2.2 _ hi⟩ (pre_s hK hW) rfl hn hsize hst (lv_room hroom) hdg hc) hW.2 (fun _ _ h => h) (fun _ h => h) (fun r' u t H1 locs1 ht hvm hw hB hz hk hS => by subst hw; exact kk H1 locs1 ⟨by rw [← ht]; exact hB, hS⟩)
theorem k_sV (hC : CallFix p m c cc nL s args tblG own) (hK : va_K D vwCl (tysOf cA) s) (hW : Wd D cA ad A s M H locs) (hM : Met l y (wd y bytes maxL ret) (rmD d) (PcW D cA ad As M) (QV D cA ad A M') 0 0 A) (hy : MY y bytes maxL ret n) (hi : Cond.static y ∈ tblG) (hl : Cond.methodLink own index y ∈ tblG) (hR : (rmD d).frames + 1 ≤ R.frames ∧ 8 + (maxL + 11) + (rmD d).locals ≤ R.locals) (hn : As.length = n) (hsize : ls.size = nL) (hst : st = As.reverse ++ rest) (hroom : (rest.map fun v => v.category).sum ≤ 8) (hc : cells + 0 ≤ R.cells ∧ slots + 0 ≤ R.slots) (hdg : decode cc pc = .ok (.invokestatic index, 3))
    (kk : ∀ (H1 : Heap) (locs1 : List Loc), Wd D cA ad A s M' H1 locs1 → W p l e R s m args below meth c H1 locs1 cells slots Q (F0 m (pc + 3) ls rest)) : W p l e R s m args below meth c H locs cells slots Q (F0 m pc ls st) :=
  va_callv (va_runS hC hM ⟨k_cb hC hy hl hR, hC.2.2.2.2 _ hi⟩ (pre_s hK hW) rfl hn hsize hst (lv_room hroom) hdg hc) hW.2 (fun _ _ h => h) (fun _ h => h) (fun u t H1 locs1 ht hvm hw hB hz hk hS => kk H1 locs1 ⟨by rw [← ht]; exact hB, hS⟩)
/-- super.m(..) -/
theorem k_uI {r : Int32} (hC : CallFix p m c cc nL s args tblG own) (hK : va_K D vwCl (tysOf cA) s) (hW : Wd D cA ad A s M H locs) (cf : CF ci C T N ty) (hM : Met l y (wd y bytes maxL ret) (rmD d) (PcW D cA ad (.ref (ad k) :: As) M) (QI D cA ad A r M') 0 0 A) (hk : k < M.1 ∧ (lay k).1 = ci) (hy : MY y bytes maxL ret n) (hno : y.name ≠ "<init>") (hi : Cond.instanceMethod y ∈ tblG) (hsm : Cond.sameMethod y.cls y.cls y.name y.desc ∈ tblG) (hsu : Cond.superclass own y.cls ∈ tblG) (hl : Cond.methodLink own index y ∈ tblG) (hR : (rmD d).frames + 1 ≤ R.frames ∧ 8 + (maxL + 11) + (rmD d).locals ≤ R.locals) (hn : As.length = n) (hsize : ls.size = nL) (hst : st = As.reverse ++ .ref (ad k) :: rest) (hroom : (rest.map fun v => v.category).sum ≤ 8) (hc : cells + 0 ≤ R.cells ∧ slots + 0 ≤ R.slots) (hdg : decode cc pc = .ok (.invokespecial index, 3))
    (kk : ∀ (H1 : Heap) (locs1 : List Loc), Wd D cA ad A s M' H1 locs1 → W p l e R s m args below meth c H1 locs1 cells slots Q (F0 m (pc + 3) ls (.int r :: rest))) : W p l e R s m args below meth c H locs cells slots Q (F0 m pc ls st) := by
  have hb := k_cb hC hy hl hR
  have hcs : va_CS R s args own index y bytes maxL ret (wd y bytes maxL ret) (rmD d) 0 0 n := ⟨⟨rfl, rfl, hR.1, hR.2, hb.2.2.2.2.1, List.mem_cons_self⟩, hC.2.2.2.2 _ hl, hC.2.2.2.2 _ hsm, hC.2.2.2.2 _ hsu, hC.2.2.2.2 _ hi, hC.2.2.2.2 _ hy.2.1, hC.2.2.2.2 _ hy.1, hno, hb.2.2.2.2.2.2.2.2.2.1⟩
  exact va_calli (va_runSU (hK.1 ci _ cf.1).2 hC hM hcs (pre_v cf hk.1 hk.2 hK hW) rfl hn hsize hst (lv_room hroom) hdg hc) hW.2 (fun _ _ h => h) (fun _ h => h) (fun r' u t H1 locs1 ht hvm hw hB hz hk hS => by subst hw; exact kk H1 locs1 ⟨by rw [← ht]; exact hB, hS⟩)
/-- a switch over 0 .. n - 1: the row for one of the numbers, and the one for all others -/
theorem k_tbl {dflt lo hi : Int} {offs : Array Int} {len : Nat} {x v : Int32} {off : Int} {tgt : Nat} (hx : x = v) (hC : CallFix p m c cc nL s args tblG own) (hdg : decode cc pc = .ok (.tableswitch dflt lo hi offs, len)) (h1 : ¬ v.toInt < lo) (h2 : ¬ hi < v.toInt) (ho : offs[(v.toInt - lo).toNat]? = some off) (ht : (pc : Int) + off = (tgt : Int))
    (kk : W p l e R s m args below meth c H locs cells slots Q (F0 m tgt ls rest)) : W p l e R s m args below meth c H locs cells slots Q (F0 m pc ls (.int x :: rest)) := by
  subst hx
  exact lv_tableIn hC.1 hC.2.1 hdg h1 h2 ho ht kk
end KW
/-- a number that is none of 0 .. n - 1 lies outside a table from 0 -/
theorem tbl_out {x : Int32} : ∀ n : Nat, n < 2 ^ 31 → (∀ j : Nat, j < n → ¬ x = nI j) → x.toInt < 0 ∨ ((n : Int) - 1) < x.toInt := by
  intro n hn h
  by_cases h0 : x.toInt < 0
  · exact Or.inl h0
  · right
    by_cases h1 : (n : Int) - 1 < x.toInt
    · exact h1
    · exfalso
      obtain ⟨j, hj, rfl⟩ := nI_of (x := x) (fun q => h0 (by have := Int32.lt_iff_toInt_lt.mp q; simpa using this))
      have h2 := nI_toInt hj
      rw [h2] at h1
      exact h j (by omega) rfl
end
section
theorem dX11_init_0 : decode cX11_init 0 = .ok (.aload_n 0, 1) := by decide +kernel
theorem dX11_init_1 : decode cX11_init 1 = .ok (.invokespecial 1, 3) := by decide +kernel
theorem dX11_init_4 : decode cX11_init 4 = .ok (.aload_n 0, 1) := by decide +kernel
theorem dX11_init_5 : decode cX11_init 5 = .ok (.new 7, 3) := by decide +kernel
theorem dX11_init_8 : decode cX11_init 8 = .ok (.dup, 1) := by decide +kernel
theorem dX11_init_9 : decode cX11_init 9 = .ok (.invokespecial 9, 3) := by decide +kernel
theorem dX11_init_12 : decode cX11_init 12 = .ok (.putfield 10, 3) := by decide +kernel
theorem dX11_init_15 : decode cX11_init 15 = .ok (.aload_n 0, 1) := by decide +kernel
theorem dX11_init_16 : decode cX11_init 16 = .ok (.new 16, 3) := by decide +kernel
theorem dX11_init_19 : decode cX11_init 19 = .ok (.dup, 1) := by decide +kernel
theorem dX11_init_20 : decode cX11_init 20 = .ok (.invokespecial 18, 3) := by decide +kernel
theorem dX11_init_23 : decode cX11_init 23 = .ok (.putfield 19, 3) := by decide +kernel
theorem dX11_init_26 : decode cX11_init 26 = .ok (.aload_n 0, 1) := by decide +kernel
theorem dX11_init_27 : decode cX11_init 27 = .ok (.new 23, 3) := by decide +kernel
theorem dX11_init_30 : decode cX11_init 30 = .ok (.dup, 1) := by decide +kernel
theorem dX11_init_31 : decode cX11_init 31 = .ok (.invokespecial 25, 3) := by decide +kernel
theorem dX11_init_34 : decode cX11_init 34 = .ok (.putfield 26, 3) := by decide +kernel
theorem dX11_init_37 : decode cX11_init 37 = .ok (.aload_n 0, 1) := by decide +kernel
theorem dX11_init_38 : decode cX11_init 38 = .ok (.bipush 6, 2) := by decide +kernel
theorem dX11_init_40 : decode cX11_init 40 = .ok (.anewarray 30, 3) := by decide +kernel
theorem dX11_init_43 : decode cX11_init 43 = .ok (.putfield 32, 3) := by decide +kernel
theorem dX11_init_46 : decode cX11_init 46 = .ok (.aload_n 0, 1) := by decide +kernel
theorem dX11_init_47 : decode cX11_init 47 = .ok (.new 36, 3) := by decide +kernel
theorem dX11_init_50 : decode cX11_init 50 = .ok (.dup, 1) := by decide +kernel
theorem dX11_init_51 : decode cX11_init 51 = .ok (.invokespecial 38, 3) := by decide +kernel
theorem dX11_init_54 : decode cX11_init 54 = .ok (.putfield 39, 3) := by decide +kernel
theorem dX11_init_57 : decode cX11_init 57 = .ok (.aload_n 0, 1) := by decide +kernel
theorem dX11_init_58 : decode cX11_init 58 = .ok (.new 43, 3) := by decide +kernel
theorem dX11_init_61 : decode cX11_init 61 = .ok (.dup, 1) := by decide +kernel
theorem dX11_init_62 : decode cX11_init 62 = .ok (.invokespecial 45, 3) := by decide +kernel
theorem dX11_init_65 : decode cX11_init 65 = .ok (.putfield 46, 3) := by decide +kernel
theorem dX11_init_68 : decode cX11_init 68 = .ok (.aload_n 0, 1) := by decide +kernel
theorem dX11_init_69 : decode cX11_init 69 = .ok (.new 43, 3) := by decide +kernel
theorem dX11_init_72 : decode cX11_init 72 = .ok (.dup, 1) := by decide +kernel
theorem dX11_init_73 : decode cX11_init 73 = .ok (.invokespecial 45, 3) := by decide +kernel
theorem dX11_init_76 : decode cX11_init 76 = .ok (.putfield 50, 3) := by decide +kernel
theorem dX11_init_79 : decode cX11_init 79 = .ok (.aload_n 0, 1) := by decide +kernel
theorem dX11_init_80 : decode cX11_init 80 = .ok (.bipush 10, 2) := by decide +kernel
theorem dX11_init_82 : decode cX11_init 82 = .ok (.anewarray 43, 3) := by decide +kernel
theorem dX11_init_85 : decode cX11_init 85 = .ok (.putfield 53, 3) := by decide +kernel
theorem dX11_init_88 : decode cX11_init 88 = .ok (.aload_n 0, 1) := by decide +kernel
theorem dX11_init_89 : decode cX11_init 89 = .ok (.iconst 2, 1) := by decide +kernel
theorem dX11_init_90 : decode cX11_init 90 = .ok (.anewarray 43, 3) := by decide +kernel
theorem dX11_init_93 : decode cX11_init 93 = .ok (.putfield 57, 3) := by decide +kernel
theorem dX11_init_96 : decode cX11_init 96 = .ok (.aload_n 0, 1) := by decide +kernel
theorem dX11_init_97 : decode cX11_init 97 = .ok (.iconst 2, 1) := by decide +kernel
theorem dX11_init_98 : decode cX11_init 98 = .ok (.newarray .boolean, 2) := by decide +kernel
theorem dX11_init_100 : decode cX11_init 100 = .ok (.putfield 60, 3) := by decide +kernel
theorem dX11_init_103 : decode cX11_init 103 = .ok (.aload_n 0, 1) := by decide +kernel
theorem dX11_init_104 : decode cX11_init 104 = .ok (.bipush 6, 2) := by decide +kernel
theorem dX11_init_106 : decode cX11_init 106 = .ok (.newarray .int, 2) := by decide +kernel
theorem dX11_init_108 : decode cX11_init 108 = .ok (.putfield 64, 3) := by decide +kernel
theorem dX11_init_111 : decode cX11_init 111 = .ok (.aload_n 0, 1) := by decide +kernel
theorem dX11_init_112 : decode cX11_init 112 = .ok (.bipush 6, 2) := by decide +kernel
theorem dX11_init_114 : decode cX11_init 114 = .ok (.newarray .int, 2) := by decide +kernel
theorem dX11_init_116 : decode cX11_init 116 = .ok (.putfield 68, 3) := by decide +kernel
theorem dX11_init_119 : decode cX11_init 119 = .ok (.aload_n 0, 1) := by decide +kernel
theorem dX11_init_120 : decode cX11_init 120 = .ok (.bipush 6, 2) := by decide +kernel
theorem dX11_init_122 : decode cX11_init 122 = .ok (.newarray .boolean, 2) := by decide +kernel
theorem dX11_init_124 : decode cX11_init 124 = .ok (.putfield 71, 3) := by decide +kernel
theorem dX11_init_127 : decode cX11_init 127 = .ok (.aload_n 0, 1) := by decide +kernel
theorem dX11_init_128 : decode cX11_init 128 = .ok (.bipush 9, 2) := by decide +kernel
theorem dX11_init_130 : decode cX11_init 130 = .ok (.newarray .int, 2) := by decide +kernel
theorem dX11_init_132 : decode cX11_init 132 = .ok (.putfield 74, 3) := by decide +kernel
theorem dX11_init_135 : decode cX11_init 135 = .ok (.iconst 0, 1) := by decide +kernel
theorem dX11_init_136 : decode cX11_init 136 = .ok (.istore_n 1, 1) := by decide +kernel
theorem dX11_init_137 : decode cX11_init 137 = .ok (.iload_n 1, 1) := by decide +kernel
theorem dX11_init_138 : decode cX11_init 138 = .ok (.bipush 10, 2) := by decide +kernel
theorem dX11_init_140 : decode cX11_init 140 = .ok (.if_icmp .ge 22, 3) := by decide +kernel
theorem dX11_init_143 : decode cX11_init 143 = .ok (.aload_n 0, 1) := by decide +kernel
theorem dX11_init_144 : decode cX11_init 144 = .ok (.getfield 53, 3) := by decide +kernel
theorem dX11_init_147 : decode cX11_init 147 = .ok (.iload_n 1, 1) := by decide +kernel
theorem dX11_init_148 : decode cX11_init 148 = .ok (.new 43, 3) := by decide +kernel
theorem dX11_init_151 : decode cX11_init 151 = .ok (.dup, 1) := by decide +kernel
theorem dX11_init_152 : decode cX11_init 152 = .ok (.invokespecial 45, 3) := by decide +kernel
theorem dX11_init_155 : decode cX11_init 155 = .ok (.aastore, 1) := by decide +kernel
theorem dX11_init_156 : decode cX11_init 156 = .ok (.iinc 1 1, 3) := by decide +kernel
theorem dX11_init_159 : decode cX11_init 159 = .ok (.goto (-22), 3) := by decide +kernel
theorem dX11_init_162 : decode cX11_init 162 = .ok (.iconst 0, 1) := by decide +kernel
theorem dX11_init_163 : decode cX11_init 163 = .ok (.istore_n 1, 1) := by decide +kernel
theorem dX11_init_164 : decode cX11_init 164 = .ok (.iload_n 1, 1) := by decide +kernel
theorem dX11_init_165 : decode cX11_init 165 = .ok (.iconst 2, 1) := by decide +kernel
theorem dX11_init_166 : decode cX11_init 166 = .ok (.if_icmp .ge 22, 3) := by decide +kernel
theorem dX11_init_169 : decode cX11_init 169 = .ok (.aload_n 0, 1) := by decide +kernel
theorem dX11_init_170 : decode cX11_init 170 = .ok (.getfield 57, 3) := by decide +kernel
theorem dX11_init_173 : decode cX11_init 173 = .ok (.iload_n 1, 1) := by decide +kernel
theorem dX11_init_174 : decode cX11_init 174 = .ok (.new 43, 3) := by decide +kernel
theorem dX11_init_177 : decode cX11_init 177 = .ok (.dup, 1) := by decide +kernel
theorem dX11_init_178 : decode cX11_init 178 = .ok (.invokespecial 45, 3) := by decide +kernel
theorem dX11_init_181 : decode cX11_init 181 = .ok (.aastore, 1) := by decide +kernel
theorem dX11_init_182 : decode cX11_init 182 = .ok (.iinc 1 1, 3) := by decide +kernel
theorem dX11_init_185 : decode cX11_init 185 = .ok (.goto (-21), 3) := by decide +kernel
theorem dX11_init_188 : decode cX11_init 188 = .ok (.aload_n 0, 1) := by decide +kernel
theorem dX11_init_189 : decode cX11_init 189 = .ok (.getfield 32, 3) := by decide +kernel
theorem dX11_init_192 : decode cX11_init 192 = .ok (.iconst 0, 1) := by decide +kernel
theorem dX11_init_193 : decode cX11_init 193 = .ok (.new 30, 3) := by decide +kernel
theorem dX11_init_196 : decode cX11_init 196 = .ok (.dup, 1) := by decide +kernel
theorem dX11_init_197 : decode cX11_init 197 = .ok (.invokespecial 77, 3) := by decide +kernel
theorem dX11_init_200 : decode cX11_init 200 = .ok (.aastore, 1) := by decide +kernel
theorem dX11_init_201 : decode cX11_init 201 = .ok (.aload_n 0, 1) := by decide +kernel
theorem dX11_init_202 : decode cX11_init 202 = .ok (.getfield 32, 3) := by decide +kernel
theorem dX11_init_205 : decode cX11_init 205 = .ok (.iconst 1, 1) := by decide +kernel
theorem dX11_init_206 : decode cX11_init 206 = .ok (.new 78, 3) := by decide +kernel
theorem dX11_init_209 : decode cX11_init 209 = .ok (.dup, 1) := by decide +kernel
theorem dX11_init_210 : decode cX11_init 210 = .ok (.invokespecial 80, 3) := by decide +kernel
theorem dX11_init_213 : decode cX11_init 213 = .ok (.aastore, 1) := by decide +kernel
theorem dX11_init_214 : decode cX11_init 214 = .ok (.aload_n 0, 1) := by decide +kernel
theorem dX11_init_215 : decode cX11_init 215 = .ok (.getfield 32, 3) := by decide +kernel
theorem dX11_init_218 : decode cX11_init 218 = .ok (.iconst 2, 1) := by decide +kernel
theorem dX11_init_219 : decode cX11_init 219 = .ok (.new 81, 3) := by decide +kernel
theorem dX11_init_222 : decode cX11_init 222 = .ok (.dup, 1) := by decide +kernel
theorem dX11_init_223 : decode cX11_init 223 = .ok (.invokespecial 83, 3) := by decide +kernel
theorem dX11_init_226 : decode cX11_init 226 = .ok (.aastore, 1) := by decide +kernel
theorem dX11_init_227 : decode cX11_init 227 = .ok (.aload_n 0, 1) := by decide +kernel
theorem dX11_init_228 : decode cX11_init 228 = .ok (.getfield 32, 3) := by decide +kernel
theorem dX11_init_231 : decode cX11_init 231 = .ok (.iconst 3, 1) := by decide +kernel
theorem dX11_init_232 : decode cX11_init 232 = .ok (.new 84, 3) := by decide +kernel
theorem dX11_init_235 : decode cX11_init 235 = .ok (.dup, 1) := by decide +kernel
theorem dX11_init_236 : decode cX11_init 236 = .ok (.invokespecial 86, 3) := by decide +kernel
theorem dX11_init_239 : decode cX11_init 239 = .ok (.aastore, 1) := by decide +kernel
theorem dX11_init_240 : decode cX11_init 240 = .ok (.aload_n 0, 1) := by decide +kernel
theorem dX11_init_241 : decode cX11_init 241 = .ok (.getfield 32, 3) := by decide +kernel
theorem dX11_init_244 : decode cX11_init 244 = .ok (.iconst 4, 1) := by decide +kernel
theorem dX11_init_245 : decode cX11_init 245 = .ok (.new 87, 3) := by decide +kernel
theorem dX11_init_248 : decode cX11_init 248 = .ok (.dup, 1) := by decide +kernel
theorem dX11_init_249 : decode cX11_init 249 = .ok (.invokespecial 89, 3) := by decide +kernel
theorem dX11_init_252 : decode cX11_init 252 = .ok (.aastore, 1) := by decide +kernel
theorem dX11_init_253 : decode cX11_init 253 = .ok (.aload_n 0, 1) := by decide +kernel
theorem dX11_init_254 : decode cX11_init 254 = .ok (.getfield 32, 3) := by decide +kernel
theorem dX11_init_257 : decode cX11_init 257 = .ok (.iconst 5, 1) := by decide +kernel
theorem dX11_init_258 : decode cX11_init 258 = .ok (.new 90, 3) := by decide +kernel
theorem dX11_init_261 : decode cX11_init 261 = .ok (.dup, 1) := by decide +kernel
theorem dX11_init_262 : decode cX11_init 262 = .ok (.invokespecial 92, 3) := by decide +kernel
theorem dX11_init_265 : decode cX11_init 265 = .ok (.aastore, 1) := by decide +kernel
theorem dX11_init_266 : decode cX11_init 266 = .ok (.return_, 1) := by decide +kernel
theorem dX11_type_0 : decode cX11_type 0 = .ok (.iload_n 1, 1) := by decide +kernel
theorem dX11_type_1 : decode cX11_type 1 = .ok (.ifCond .lt 10, 3) := by decide +kernel
theorem dX11_type_4 : decode cX11_type 4 = .ok (.iload_n 1, 1) := by decide +kernel
theorem dX11_type_5 : decode cX11_type 5 = .ok (.sipush 255, 3) := by decide +kernel
theorem dX11_type_8 : decode cX11_type 8 = .ok (.if_icmp .le 5, 3) := by decide +kernel
theorem dX11_type_11 : decode cX11_type 11 = .ok (.iconst (-1), 1) := by decide +kernel
theorem dX11_type_12 : decode cX11_type 12 = .ok (.ireturn, 1) := by decide +kernel
theorem dX11_type_13 : decode cX11_type 13 = .ok (.aload_n 0, 1) := by decide +kernel
theorem dX11_type_14 : decode cX11_type 14 = .ok (.getfield 10, 3) := by decide +kernel
theorem dX11_type_17 : decode cX11_type 17 = .ok (.getfield 93, 3) := by decide +kernel
theorem dX11_type_20 : decode cX11_type 20 = .ok (.sipush 140, 3) := by decide +kernel
theorem dX11_type_23 : decode cX11_type 23 = .ok (.if_icmp .lt 6, 3) := by decide +kernel
theorem dX11_type_26 : decode cX11_type 26 = .ok (.bipush (-3), 2) := by decide +kernel
theorem dX11_type_28 : decode cX11_type 28 = .ok (.ireturn, 1) := by decide +kernel
theorem dX11_type_29 : decode cX11_type 29 = .ok (.aload_n 0, 1) := by decide +kernel
theorem dX11_type_30 : decode cX11_type 30 = .ok (.getfield 10, 3) := by decide +kernel
theorem dX11_type_33 : decode cX11_type 33 = .ok (.getfield 97, 3) := by decide +kernel
theorem dX11_type_36 : decode cX11_type 36 = .ok (.aload_n 0, 1) := by decide +kernel
theorem dX11_type_37 : decode cX11_type 37 = .ok (.getfield 10, 3) := by decide +kernel
theorem dX11_type_40 : decode cX11_type 40 = .ok (.getfield 93, 3) := by decide +kernel
theorem dX11_type_43 : decode cX11_type 43 = .ok (.iload_n 1, 1) := by decide +kernel
theorem dX11_type_44 : decode cX11_type 44 = .ok (.i2c, 1) := by decide +kernel
theorem dX11_type_45 : decode cX11_type 45 = .ok (.castore, 1) := by decide +kernel
theorem dX11_type_46 : decode cX11_type 46 = .ok (.aload_n 0, 1) := by decide +kernel
theorem dX11_type_47 : decode cX11_type 47 = .ok (.getfield 10, 3) := by decide +kernel
theorem dX11_type_50 : decode cX11_type 50 = .ok (.dup, 1) := by decide +kernel
theorem dX11_type_51 : decode cX11_type 51 = .ok (.getfield 93, 3) := by decide +kernel
theorem dX11_type_54 : decode cX11_type 54 = .ok (.iconst 1, 1) := by decide +kernel
theorem dX11_type_55 : decode cX11_type 55 = .ok (.iadd, 1) := by decide +kernel
theorem dX11_type_56 : decode cX11_type 56 = .ok (.putfield 93, 3) := by decide +kernel
theorem dX11_type_59 : decode cX11_type 59 = .ok (.aload_n 0, 1) := by decide +kernel
theorem dX11_type_60 : decode cX11_type 60 = .ok (.getfield 10, 3) := by decide +kernel
theorem dX11_type_63 : decode cX11_type 63 = .ok (.getfield 93, 3) := by decide +kernel
theorem dX11_type_66 : decode cX11_type 66 = .ok (.ireturn, 1) := by decide +kernel
theorem dX11_clear_0 : decode cX11_clear 0 = .ok (.aload_n 0, 1) := by decide +kernel
theorem dX11_clear_1 : decode cX11_clear 1 = .ok (.getfield 10, 3) := by decide +kernel
theorem dX11_clear_4 : decode cX11_clear 4 = .ok (.getfield 93, 3) := by decide +kernel
theorem dX11_clear_7 : decode cX11_clear 7 = .ok (.istore_n 1, 1) := by decide +kernel
theorem dX11_clear_8 : decode cX11_clear 8 = .ok (.aload_n 0, 1) := by decide +kernel
theorem dX11_clear_9 : decode cX11_clear 9 = .ok (.getfield 10, 3) := by decide +kernel
theorem dX11_clear_12 : decode cX11_clear 12 = .ok (.iconst 0, 1) := by decide +kernel
theorem dX11_clear_13 : decode cX11_clear 13 = .ok (.putfield 93, 3) := by decide +kernel
theorem dX11_clear_16 : decode cX11_clear 16 = .ok (.iload_n 1, 1) := by decide +kernel
theorem dX11_clear_17 : decode cX11_clear 17 = .ok (.ireturn, 1) := by decide +kernel
theorem dX11_table_0 : decode cX11_table 0 = .ok (.aload_n 0, 1) := by decide +kernel
theorem dX11_table_1 : decode cX11_table 1 = .ok (.getfield 10, 3) := by decide +kernel
theorem dX11_table_4 : decode cX11_table 4 = .ok (.invokevirtual 101, 3) := by decide +kernel
theorem dX11_table_7 : decode cX11_table 7 = .ok (.istore_n 1, 1) := by decide +kernel
theorem dX11_table_8 : decode cX11_table 8 = .ok (.iload_n 1, 1) := by decide +kernel
theorem dX11_table_9 : decode cX11_table 9 = .ok (.ifCond .ge 5, 3) := by decide +kernel
theorem dX11_table_12 : decode cX11_table 12 = .ok (.iload_n 1, 1) := by decide +kernel
theorem dX11_table_13 : decode cX11_table 13 = .ok (.ireturn, 1) := by decide +kernel
theorem dX11_table_14 : decode cX11_table 14 = .ok (.aload_n 0, 1) := by decide +kernel
theorem dX11_table_15 : decode cX11_table 15 = .ok (.getfield 10, 3) := by decide +kernel
theorem dX11_table_18 : decode cX11_table 18 = .ok (.iconst 0, 1) := by decide +kernel
theorem dX11_table_19 : decode cX11_table 19 = .ok (.putfield 93, 3) := by decide +kernel
theorem dX11_table_22 : decode cX11_table 22 = .ok (.aload_n 0, 1) := by decide +kernel
theorem dX11_table_23 : decode cX11_table 23 = .ok (.aload_n 0, 1) := by decide +kernel
theorem dX11_table_24 : decode cX11_table 24 = .ok (.getfield 10, 3) := by decide +kernel
theorem dX11_table_27 : decode cX11_table 27 = .ok (.aload_n 0, 1) := by decide +kernel
theorem dX11_table_28 : decode cX11_table 28 = .ok (.getfield 39, 3) := by decide +kernel
theorem dX11_table_31 : decode cX11_table 31 = .ok (.invokevirtual 105, 3) := by decide +kernel
theorem dX11_table_34 : decode cX11_table 34 = .ok (.putfield 39, 3) := by decide +kernel
theorem dX11_table_37 : decode cX11_table 37 = .ok (.aload_n 0, 1) := by decide +kernel
theorem dX11_table_38 : decode cX11_table 38 = .ok (.getfield 46, 3) := by decide +kernel
theorem dX11_table_41 : decode cX11_table 41 = .ok (.aload_n 0, 1) := by decide +kernel
theorem dX11_table_42 : decode cX11_table 42 = .ok (.getfield 39, 3) := by decide +kernel
theorem dX11_table_45 : decode cX11_table 45 = .ok (.getfield 109, 3) := by decide +kernel
theorem dX11_table_48 : decode cX11_table 48 = .ok (.invokevirtual 112, 3) := by decide +kernel
theorem dX11_table_51 : decode cX11_table 51 = .ok (.aload_n 0, 1) := by decide +kernel
theorem dX11_table_52 : decode cX11_table 52 = .ok (.iconst 0, 1) := by decide +kernel
theorem dX11_table_53 : decode cX11_table 53 = .ok (.putfield 116, 3) := by decide +kernel
theorem dX11_table_56 : decode cX11_table 56 = .ok (.aload_n 0, 1) := by decide +kernel
theorem dX11_table_57 : decode cX11_table 57 = .ok (.iconst 0, 1) := by decide +kernel
theorem dX11_table_58 : decode cX11_table 58 = .ok (.putfield 119, 3) := by decide +kernel
theorem dX11_table_61 : decode cX11_table 61 = .ok (.iconst 0, 1) := by decide +kernel
theorem dX11_table_62 : decode cX11_table 62 = .ok (.istore_n 2, 1) := by decide +kernel
theorem dX11_table_63 : decode cX11_table 63 = .ok (.iload_n 2, 1) := by decide +kernel
theorem dX11_table_64 : decode cX11_table 64 = .ok (.iconst 2, 1) := by decide +kernel
theorem dX11_table_65 : decode cX11_table 65 = .ok (.if_icmp .ge 16, 3) := by decide +kernel
theorem dX11_table_68 : decode cX11_table 68 = .ok (.aload_n 0, 1) := by decide +kernel
theorem dX11_table_69 : decode cX11_table 69 = .ok (.getfield 60, 3) := by decide +kernel
theorem dX11_table_72 : decode cX11_table 72 = .ok (.iload_n 2, 1) := by decide +kernel
theorem dX11_table_73 : decode cX11_table 73 = .ok (.iconst 0, 1) := by decide +kernel
theorem dX11_table_74 : decode cX11_table 74 = .ok (.bastore, 1) := by decide +kernel
theorem dX11_table_75 : decode cX11_table 75 = .ok (.iinc 2 1, 3) := by decide +kernel
theorem dX11_table_78 : decode cX11_table 78 = .ok (.goto (-15), 3) := by decide +kernel
theorem dX11_table_81 : decode cX11_table 81 = .ok (.iload_n 1, 1) := by decide +kernel
theorem dX11_table_82 : decode cX11_table 82 = .ok (.ireturn, 1) := by decide +kernel
theorem dX11_guest_0 : decode cX11_guest 0 = .ok (.aload_n 0, 1) := by decide +kernel
theorem dX11_guest_1 : decode cX11_guest 1 = .ok (.iload_n 1, 1) := by decide +kernel
theorem dX11_guest_2 : decode cX11_guest 2 = .ok (.invokevirtual 122, 3) := by decide +kernel
theorem dX11_guest_5 : decode cX11_guest 5 = .ok (.ifCond .ne 5, 3) := by decide +kernel
theorem dX11_guest_8 : decode cX11_guest 8 = .ok (.iconst (-1), 1) := by decide +kernel
theorem dX11_guest_9 : decode cX11_guest 9 = .ok (.ireturn, 1) := by decide +kernel
theorem dX11_guest_10 : decode cX11_guest 10 = .ok (.iload_n 2, 1) := by decide +kernel
theorem dX11_guest_11 : decode cX11_guest 11 = .ok (.tableswitch 103 0 5 #[37, 47, 57, 67, 77, 90], 37) := by decide +kernel
theorem dX11_guest_48 : decode cX11_guest 48 = .ok (.aload_n 0, 1) := by decide +kernel
theorem dX11_guest_49 : decode cX11_guest 49 = .ok (.getfield 46, 3) := by decide +kernel
theorem dX11_guest_52 : decode cX11_guest 52 = .ok (.getfield 126, 3) := by decide +kernel
theorem dX11_guest_55 : decode cX11_guest 55 = .ok (.iload_n 1, 1) := by decide +kernel
theorem dX11_guest_56 : decode cX11_guest 56 = .ok (.iaload, 1) := by decide +kernel
theorem dX11_guest_57 : decode cX11_guest 57 = .ok (.ireturn, 1) := by decide +kernel
theorem dX11_guest_58 : decode cX11_guest 58 = .ok (.aload_n 0, 1) := by decide +kernel
theorem dX11_guest_59 : decode cX11_guest 59 = .ok (.getfield 39, 3) := by decide +kernel
theorem dX11_guest_62 : decode cX11_guest 62 = .ok (.getfield 129, 3) := by decide +kernel
theorem dX11_guest_65 : decode cX11_guest 65 = .ok (.iload_n 1, 1) := by decide +kernel
theorem dX11_guest_66 : decode cX11_guest 66 = .ok (.iaload, 1) := by decide +kernel
theorem dX11_guest_67 : decode cX11_guest 67 = .ok (.ireturn, 1) := by decide +kernel
theorem dX11_guest_68 : decode cX11_guest 68 = .ok (.aload_n 0, 1) := by decide +kernel
theorem dX11_guest_69 : decode cX11_guest 69 = .ok (.getfield 39, 3) := by decide +kernel
theorem dX11_guest_72 : decode cX11_guest 72 = .ok (.getfield 132, 3) := by decide +kernel
theorem dX11_guest_75 : decode cX11_guest 75 = .ok (.iload_n 1, 1) := by decide +kernel
theorem dX11_guest_76 : decode cX11_guest 76 = .ok (.iaload, 1) := by decide +kernel
theorem dX11_guest_77 : decode cX11_guest 77 = .ok (.ireturn, 1) := by decide +kernel
theorem dX11_guest_78 : decode cX11_guest 78 = .ok (.aload_n 0, 1) := by decide +kernel
theorem dX11_guest_79 : decode cX11_guest 79 = .ok (.getfield 46, 3) := by decide +kernel
theorem dX11_guest_82 : decode cX11_guest 82 = .ok (.getfield 135, 3) := by decide +kernel
theorem dX11_guest_85 : decode cX11_guest 85 = .ok (.iload_n 1, 1) := by decide +kernel
theorem dX11_guest_86 : decode cX11_guest 86 = .ok (.iaload, 1) := by decide +kernel
theorem dX11_guest_87 : decode cX11_guest 87 = .ok (.ireturn, 1) := by decide +kernel
theorem dX11_guest_88 : decode cX11_guest 88 = .ok (.aload_n 0, 1) := by decide +kernel
theorem dX11_guest_89 : decode cX11_guest 89 = .ok (.getfield 39, 3) := by decide +kernel
theorem dX11_guest_92 : decode cX11_guest 92 = .ok (.aload_n 0, 1) := by decide +kernel
theorem dX11_guest_93 : decode cX11_guest 93 = .ok (.getfield 46, 3) := by decide +kernel
theorem dX11_guest_96 : decode cX11_guest 96 = .ok (.iload_n 1, 1) := by decide +kernel
theorem dX11_guest_97 : decode cX11_guest 97 = .ok (.invokevirtual 138, 3) := by decide +kernel
theorem dX11_guest_100 : decode cX11_guest 100 = .ok (.ireturn, 1) := by decide +kernel
theorem dX11_guest_101 : decode cX11_guest 101 = .ok (.aload_n 0, 1) := by decide +kernel
theorem dX11_guest_102 : decode cX11_guest 102 = .ok (.getfield 39, 3) := by decide +kernel
theorem dX11_guest_105 : decode cX11_guest 105 = .ok (.aload_n 0, 1) := by decide +kernel
theorem dX11_guest_106 : decode cX11_guest 106 = .ok (.getfield 46, 3) := by decide +kernel
theorem dX11_guest_109 : decode cX11_guest 109 = .ok (.iload_n 1, 1) := by decide +kernel
theorem dX11_guest_110 : decode cX11_guest 110 = .ok (.invokevirtual 142, 3) := by decide +kernel
theorem dX11_guest_113 : decode cX11_guest 113 = .ok (.ireturn, 1) := by decide +kernel
theorem dX11_guest_114 : decode cX11_guest 114 = .ok (.iconst (-1), 1) := by decide +kernel
theorem dX11_guest_115 : decode cX11_guest 115 = .ok (.ireturn, 1) := by decide +kernel
theorem dX11_dish_0 : decode cX11_dish 0 = .ok (.aload_n 0, 1) := by decide +kernel
theorem dX11_dish_1 : decode cX11_dish 1 = .ok (.iload_n 1, 1) := by decide +kernel
theorem dX11_dish_2 : decode cX11_dish 2 = .ok (.invokevirtual 145, 3) := by decide +kernel
theorem dX11_dish_5 : decode cX11_dish 5 = .ok (.ifCond .ne 5, 3) := by decide +kernel
theorem dX11_dish_8 : decode cX11_dish 8 = .ok (.iconst (-1), 1) := by decide +kernel
theorem dX11_dish_9 : decode cX11_dish 9 = .ok (.ireturn, 1) := by decide +kernel
theorem dX11_dish_10 : decode cX11_dish 10 = .ok (.iload_n 2, 1) := by decide +kernel
theorem dX11_dish_11 : decode cX11_dish 11 = .ok (.tableswitch 96 0 4 #[33, 43, 53, 63, 76], 33) := by decide +kernel
theorem dX11_dish_44 : decode cX11_dish 44 = .ok (.aload_n 0, 1) := by decide +kernel
theorem dX11_dish_45 : decode cX11_dish 45 = .ok (.getfield 46, 3) := by decide +kernel
theorem dX11_dish_48 : decode cX11_dish 48 = .ok (.getfield 148, 3) := by decide +kernel
theorem dX11_dish_51 : decode cX11_dish 51 = .ok (.iload_n 1, 1) := by decide +kernel
theorem dX11_dish_52 : decode cX11_dish 52 = .ok (.iaload, 1) := by decide +kernel
theorem dX11_dish_53 : decode cX11_dish 53 = .ok (.ireturn, 1) := by decide +kernel
theorem dX11_dish_54 : decode cX11_dish 54 = .ok (.aload_n 0, 1) := by decide +kernel
theorem dX11_dish_55 : decode cX11_dish 55 = .ok (.getfield 46, 3) := by decide +kernel
theorem dX11_dish_58 : decode cX11_dish 58 = .ok (.getfield 151, 3) := by decide +kernel
theorem dX11_dish_61 : decode cX11_dish 61 = .ok (.iload_n 1, 1) := by decide +kernel
theorem dX11_dish_62 : decode cX11_dish 62 = .ok (.iaload, 1) := by decide +kernel
theorem dX11_dish_63 : decode cX11_dish 63 = .ok (.ireturn, 1) := by decide +kernel
theorem dX11_dish_64 : decode cX11_dish 64 = .ok (.aload_n 0, 1) := by decide +kernel
theorem dX11_dish_65 : decode cX11_dish 65 = .ok (.getfield 39, 3) := by decide +kernel
theorem dX11_dish_68 : decode cX11_dish 68 = .ok (.getfield 154, 3) := by decide +kernel
theorem dX11_dish_71 : decode cX11_dish 71 = .ok (.iload_n 1, 1) := by decide +kernel
theorem dX11_dish_72 : decode cX11_dish 72 = .ok (.iaload, 1) := by decide +kernel
theorem dX11_dish_73 : decode cX11_dish 73 = .ok (.ireturn, 1) := by decide +kernel
theorem dX11_dish_74 : decode cX11_dish 74 = .ok (.aload_n 0, 1) := by decide +kernel
theorem dX11_dish_75 : decode cX11_dish 75 = .ok (.getfield 39, 3) := by decide +kernel
theorem dX11_dish_78 : decode cX11_dish 78 = .ok (.aload_n 0, 1) := by decide +kernel
theorem dX11_dish_79 : decode cX11_dish 79 = .ok (.getfield 46, 3) := by decide +kernel
theorem dX11_dish_82 : decode cX11_dish 82 = .ok (.iload_n 1, 1) := by decide +kernel
theorem dX11_dish_83 : decode cX11_dish 83 = .ok (.invokevirtual 157, 3) := by decide +kernel
theorem dX11_dish_86 : decode cX11_dish 86 = .ok (.ireturn, 1) := by decide +kernel
theorem dX11_dish_87 : decode cX11_dish 87 = .ok (.aload_n 0, 1) := by decide +kernel
theorem dX11_dish_88 : decode cX11_dish 88 = .ok (.getfield 39, 3) := by decide +kernel
theorem dX11_dish_91 : decode cX11_dish 91 = .ok (.aload_n 0, 1) := by decide +kernel
theorem dX11_dish_92 : decode cX11_dish 92 = .ok (.getfield 46, 3) := by decide +kernel
theorem dX11_dish_95 : decode cX11_dish 95 = .ok (.iload_n 1, 1) := by decide +kernel
theorem dX11_dish_96 : decode cX11_dish 96 = .ok (.aload_n 0, 1) := by decide +kernel
theorem dX11_dish_97 : decode cX11_dish 97 = .ok (.getfield 46, 3) := by decide +kernel
theorem dX11_dish_100 : decode cX11_dish 100 = .ok (.getfield 160, 3) := by decide +kernel
theorem dX11_dish_103 : decode cX11_dish 103 = .ok (.invokevirtual 163, 3) := by decide +kernel
theorem dX11_dish_106 : decode cX11_dish 106 = .ok (.ireturn, 1) := by decide +kernel
theorem dX11_dish_107 : decode cX11_dish 107 = .ok (.iconst (-1), 1) := by decide +kernel
theorem dX11_dish_108 : decode cX11_dish 108 = .ok (.ireturn, 1) := by decide +kernel
theorem dX11_now_0 : decode cX11_now 0 = .ok (.iload_n 1, 1) := by decide +kernel
theorem dX11_now_1 : decode cX11_now 1 = .ok (.tableswitch 90 0 5 #[39, 47, 52, 64, 69, 85], 39) := by decide +kernel
theorem dX11_now_40 : decode cX11_now 40 = .ok (.aload_n 0, 1) := by decide +kernel
theorem dX11_now_41 : decode cX11_now 41 = .ok (.getfield 46, 3) := by decide +kernel
theorem dX11_now_44 : decode cX11_now 44 = .ok (.getfield 160, 3) := by decide +kernel
theorem dX11_now_47 : decode cX11_now 47 = .ok (.ireturn, 1) := by decide +kernel
theorem dX11_now_48 : decode cX11_now 48 = .ok (.aload_n 0, 1) := by decide +kernel
theorem dX11_now_49 : decode cX11_now 49 = .ok (.invokevirtual 167, 3) := by decide +kernel
theorem dX11_now_52 : decode cX11_now 52 = .ok (.ireturn, 1) := by decide +kernel
theorem dX11_now_53 : decode cX11_now 53 = .ok (.aload_n 0, 1) := by decide +kernel
theorem dX11_now_54 : decode cX11_now 54 = .ok (.getfield 39, 3) := by decide +kernel
theorem dX11_now_57 : decode cX11_now 57 = .ok (.aload_n 0, 1) := by decide +kernel
theorem dX11_now_58 : decode cX11_now 58 = .ok (.getfield 46, 3) := by decide +kernel
theorem dX11_now_61 : decode cX11_now 61 = .ok (.invokevirtual 170, 3) := by decide +kernel
theorem dX11_now_64 : decode cX11_now 64 = .ok (.ireturn, 1) := by decide +kernel
theorem dX11_now_65 : decode cX11_now 65 = .ok (.aload_n 0, 1) := by decide +kernel
theorem dX11_now_66 : decode cX11_now 66 = .ok (.invokevirtual 174, 3) := by decide +kernel
theorem dX11_now_69 : decode cX11_now 69 = .ok (.ireturn, 1) := by decide +kernel
theorem dX11_now_70 : decode cX11_now 70 = .ok (.aload_n 0, 1) := by decide +kernel
theorem dX11_now_71 : decode cX11_now 71 = .ok (.getfield 19, 3) := by decide +kernel
theorem dX11_now_74 : decode cX11_now 74 = .ok (.aload_n 0, 1) := by decide +kernel
theorem dX11_now_75 : decode cX11_now 75 = .ok (.getfield 39, 3) := by decide +kernel
theorem dX11_now_78 : decode cX11_now 78 = .ok (.aload_n 0, 1) := by decide +kernel
theorem dX11_now_79 : decode cX11_now 79 = .ok (.getfield 46, 3) := by decide +kernel
theorem dX11_now_82 : decode cX11_now 82 = .ok (.invokevirtual 177, 3) := by decide +kernel
theorem dX11_now_85 : decode cX11_now 85 = .ok (.ireturn, 1) := by decide +kernel
theorem dX11_now_86 : decode cX11_now 86 = .ok (.aload_n 0, 1) := by decide +kernel
theorem dX11_now_87 : decode cX11_now 87 = .ok (.getfield 116, 3) := by decide +kernel
theorem dX11_now_90 : decode cX11_now 90 = .ok (.ireturn, 1) := by decide +kernel
theorem dX11_now_91 : decode cX11_now 91 = .ok (.iconst (-1), 1) := by decide +kernel
theorem dX11_now_92 : decode cX11_now 92 = .ok (.ireturn, 1) := by decide +kernel
theorem dX11_spins_0 : decode cX11_spins 0 = .ok (.iload_n 1, 1) := by decide +kernel
theorem dX11_spins_1 : decode cX11_spins 1 = .ok (.iconst 1, 1) := by decide +kernel
theorem dX11_spins_2 : decode cX11_spins 2 = .ok (.if_icmp .lt 21, 3) := by decide +kernel
theorem dX11_spins_5 : decode cX11_spins 5 = .ok (.iload_n 1, 1) := by decide +kernel
theorem dX11_spins_6 : decode cX11_spins 6 = .ok (.aload_n 0, 1) := by decide +kernel
theorem dX11_spins_7 : decode cX11_spins 7 = .ok (.getfield 39, 3) := by decide +kernel
theorem dX11_spins_10 : decode cX11_spins 10 = .ok (.getfield 181, 3) := by decide +kernel
theorem dX11_spins_13 : decode cX11_spins 13 = .ok (.if_icmp .ge 10, 3) := by decide +kernel
theorem dX11_spins_16 : decode cX11_spins 16 = .ok (.iload_n 2, 1) := by decide +kernel
theorem dX11_spins_17 : decode cX11_spins 17 = .ok (.invokestatic 184, 3) := by decide +kernel
theorem dX11_spins_20 : decode cX11_spins 20 = .ok (.ifCond .ne 5, 3) := by decide +kernel
theorem dX11_spins_23 : decode cX11_spins 23 = .ok (.iconst (-1), 1) := by decide +kernel
theorem dX11_spins_24 : decode cX11_spins 24 = .ok (.ireturn, 1) := by decide +kernel
theorem dX11_spins_25 : decode cX11_spins 25 = .ok (.aload_n 0, 1) := by decide +kernel
theorem dX11_spins_26 : decode cX11_spins 26 = .ok (.invokevirtual 187, 3) := by decide +kernel
theorem dX11_spins_29 : decode cX11_spins 29 = .ok (.aload_n 0, 1) := by decide +kernel
theorem dX11_spins_30 : decode cX11_spins 30 = .ok (.getfield 46, 3) := by decide +kernel
theorem dX11_spins_33 : decode cX11_spins 33 = .ok (.aload_n 0, 1) := by decide +kernel
theorem dX11_spins_34 : decode cX11_spins 34 = .ok (.getfield 39, 3) := by decide +kernel
theorem dX11_spins_37 : decode cX11_spins 37 = .ok (.iload_n 2, 1) := by decide +kernel
theorem dX11_spins_38 : decode cX11_spins 38 = .ok (.ifCond .ne 15, 3) := by decide +kernel
theorem dX11_spins_41 : decode cX11_spins 41 = .ok (.aload_n 0, 1) := by decide +kernel
theorem dX11_spins_42 : decode cX11_spins 42 = .ok (.getfield 46, 3) := by decide +kernel
theorem dX11_spins_45 : decode cX11_spins 45 = .ok (.getfield 160, 3) := by decide +kernel
theorem dX11_spins_48 : decode cX11_spins 48 = .ok (.iload_n 1, 1) := by decide +kernel
theorem dX11_spins_49 : decode cX11_spins 49 = .ok (.iadd, 1) := by decide +kernel
theorem dX11_spins_50 : decode cX11_spins 50 = .ok (.goto 12, 3) := by decide +kernel
theorem dX11_spins_53 : decode cX11_spins 53 = .ok (.aload_n 0, 1) := by decide +kernel
theorem dX11_spins_54 : decode cX11_spins 54 = .ok (.getfield 46, 3) := by decide +kernel
theorem dX11_spins_57 : decode cX11_spins 57 = .ok (.getfield 160, 3) := by decide +kernel
theorem dX11_spins_60 : decode cX11_spins 60 = .ok (.iload_n 1, 1) := by decide +kernel
theorem dX11_spins_61 : decode cX11_spins 61 = .ok (.isub, 1) := by decide +kernel
theorem dX11_spins_62 : decode cX11_spins 62 = .ok (.invokevirtual 190, 3) := by decide +kernel
theorem dX11_spins_65 : decode cX11_spins 65 = .ok (.putfield 160, 3) := by decide +kernel
theorem dX11_spins_68 : decode cX11_spins 68 = .ok (.iload_n 1, 1) := by decide +kernel
theorem dX11_spins_69 : decode cX11_spins 69 = .ok (.iconst 3, 1) := by decide +kernel
theorem dX11_spins_70 : decode cX11_spins 70 = .ok (.if_icmp .lt 10, 3) := by decide +kernel
theorem dX11_spins_73 : decode cX11_spins 73 = .ok (.aload_n 0, 1) := by decide +kernel
theorem dX11_spins_74 : decode cX11_spins 74 = .ok (.invokevirtual 194, 3) := by decide +kernel
theorem dX11_spins_77 : decode cX11_spins 77 = .ok (.goto 4, 3) := by decide +kernel
theorem dX11_spins_80 : decode cX11_spins 80 = .ok (.iconst 0, 1) := by decide +kernel
theorem dX11_spins_81 : decode cX11_spins 81 = .ok (.ireturn, 1) := by decide +kernel
theorem dX11_takes_0 : decode cX11_takes 0 = .ok (.aload_n 0, 1) := by decide +kernel
theorem dX11_takes_1 : decode cX11_takes 1 = .ok (.iload_n 1, 1) := by decide +kernel
theorem dX11_takes_2 : decode cX11_takes 2 = .ok (.invokevirtual 122, 3) := by decide +kernel
theorem dX11_takes_5 : decode cX11_takes 5 = .ok (.ifCond .eq 11, 3) := by decide +kernel
theorem dX11_takes_8 : decode cX11_takes 8 = .ok (.aload_n 0, 1) := by decide +kernel
theorem dX11_takes_9 : decode cX11_takes 9 = .ok (.iload_n 2, 1) := by decide +kernel
theorem dX11_takes_10 : decode cX11_takes 10 = .ok (.invokevirtual 145, 3) := by decide +kernel
theorem dX11_takes_13 : decode cX11_takes 13 = .ok (.ifCond .ne 5, 3) := by decide +kernel
theorem dX11_takes_16 : decode cX11_takes 16 = .ok (.iconst (-1), 1) := by decide +kernel
theorem dX11_takes_17 : decode cX11_takes 17 = .ok (.ireturn, 1) := by decide +kernel
theorem dX11_takes_18 : decode cX11_takes 18 = .ok (.aload_n 0, 1) := by decide +kernel
theorem dX11_takes_19 : decode cX11_takes 19 = .ok (.getfield 39, 3) := by decide +kernel
theorem dX11_takes_22 : decode cX11_takes 22 = .ok (.aload_n 0, 1) := by decide +kernel
theorem dX11_takes_23 : decode cX11_takes 23 = .ok (.getfield 46, 3) := by decide +kernel
theorem dX11_takes_26 : decode cX11_takes 26 = .ok (.iload_n 1, 1) := by decide +kernel
theorem dX11_takes_27 : decode cX11_takes 27 = .ok (.iload_n 2, 1) := by decide +kernel
theorem dX11_takes_28 : decode cX11_takes 28 = .ok (.aload_n 0, 1) := by decide +kernel
theorem dX11_takes_29 : decode cX11_takes 29 = .ok (.getfield 46, 3) := by decide +kernel
theorem dX11_takes_32 : decode cX11_takes 32 = .ok (.getfield 160, 3) := by decide +kernel
theorem dX11_takes_35 : decode cX11_takes 35 = .ok (.invokevirtual 197, 3) := by decide +kernel
theorem dX11_takes_38 : decode cX11_takes 38 = .ok (.ifCond .eq 16, 3) := by decide +kernel
theorem dX11_takes_41 : decode cX11_takes 41 = .ok (.aload_n 0, 1) := by decide +kernel
theorem dX11_takes_42 : decode cX11_takes 42 = .ok (.getfield 46, 3) := by decide +kernel
theorem dX11_takes_45 : decode cX11_takes 45 = .ok (.getfield 151, 3) := by decide +kernel
theorem dX11_takes_48 : decode cX11_takes 48 = .ok (.iload_n 2, 1) := by decide +kernel
theorem dX11_takes_49 : decode cX11_takes 49 = .ok (.iaload, 1) := by decide +kernel
theorem dX11_takes_50 : decode cX11_takes 50 = .ok (.iconst 1, 1) := by decide +kernel
theorem dX11_takes_51 : decode cX11_takes 51 = .ok (.if_icmp .ge 6, 3) := by decide +kernel
theorem dX11_takes_54 : decode cX11_takes 54 = .ok (.bipush (-2), 2) := by decide +kernel
theorem dX11_takes_56 : decode cX11_takes 56 = .ok (.ireturn, 1) := by decide +kernel
theorem dX11_takes_57 : decode cX11_takes 57 = .ok (.aload_n 0, 1) := by decide +kernel
theorem dX11_takes_58 : decode cX11_takes 58 = .ok (.invokevirtual 187, 3) := by decide +kernel
theorem dX11_takes_61 : decode cX11_takes 61 = .ok (.aload_n 0, 1) := by decide +kernel
theorem dX11_takes_62 : decode cX11_takes 62 = .ok (.getfield 46, 3) := by decide +kernel
theorem dX11_takes_65 : decode cX11_takes 65 = .ok (.getfield 151, 3) := by decide +kernel
theorem dX11_takes_68 : decode cX11_takes 68 = .ok (.iload_n 2, 1) := by decide +kernel
theorem dX11_takes_69 : decode cX11_takes 69 = .ok (.dup2, 1) := by decide +kernel
theorem dX11_takes_70 : decode cX11_takes 70 = .ok (.iaload, 1) := by decide +kernel
theorem dX11_takes_71 : decode cX11_takes 71 = .ok (.iconst 1, 1) := by decide +kernel
theorem dX11_takes_72 : decode cX11_takes 72 = .ok (.isub, 1) := by decide +kernel
theorem dX11_takes_73 : decode cX11_takes 73 = .ok (.iastore, 1) := by decide +kernel
theorem dX11_takes_74 : decode cX11_takes 74 = .ok (.aload_n 0, 1) := by decide +kernel
theorem dX11_takes_75 : decode cX11_takes 75 = .ok (.getfield 46, 3) := by decide +kernel
theorem dX11_takes_78 : decode cX11_takes 78 = .ok (.getfield 135, 3) := by decide +kernel
theorem dX11_takes_81 : decode cX11_takes 81 = .ok (.iload_n 1, 1) := by decide +kernel
theorem dX11_takes_82 : decode cX11_takes 82 = .ok (.dup2, 1) := by decide +kernel
theorem dX11_takes_83 : decode cX11_takes 83 = .ok (.iaload, 1) := by decide +kernel
theorem dX11_takes_84 : decode cX11_takes 84 = .ok (.iconst 1, 1) := by decide +kernel
theorem dX11_takes_85 : decode cX11_takes 85 = .ok (.iload_n 2, 1) := by decide +kernel
theorem dX11_takes_86 : decode cX11_takes 86 = .ok (.ishl, 1) := by decide +kernel
theorem dX11_takes_87 : decode cX11_takes 87 = .ok (.ior, 1) := by decide +kernel
theorem dX11_takes_88 : decode cX11_takes 88 = .ok (.iastore, 1) := by decide +kernel
theorem dX11_takes_89 : decode cX11_takes 89 = .ok (.aload_n 0, 1) := by decide +kernel
theorem dX11_takes_90 : decode cX11_takes 90 = .ok (.getfield 46, 3) := by decide +kernel
theorem dX11_takes_93 : decode cX11_takes 93 = .ok (.getfield 151, 3) := by decide +kernel
theorem dX11_takes_96 : decode cX11_takes 96 = .ok (.iload_n 2, 1) := by decide +kernel
theorem dX11_takes_97 : decode cX11_takes 97 = .ok (.iaload, 1) := by decide +kernel
theorem dX11_takes_98 : decode cX11_takes 98 = .ok (.ireturn, 1) := by decide +kernel
theorem dX11_moves_0 : decode cX11_moves 0 = .ok (.aload_n 0, 1) := by decide +kernel
theorem dX11_moves_1 : decode cX11_moves 1 = .ok (.iload_n 1, 1) := by decide +kernel
theorem dX11_moves_2 : decode cX11_moves 2 = .ok (.invokevirtual 145, 3) := by decide +kernel
theorem dX11_moves_5 : decode cX11_moves 5 = .ok (.ifCond .eq 11, 3) := by decide +kernel
theorem dX11_moves_8 : decode cX11_moves 8 = .ok (.aload_n 0, 1) := by decide +kernel
theorem dX11_moves_9 : decode cX11_moves 9 = .ok (.iload_n 2, 1) := by decide +kernel
theorem dX11_moves_10 : decode cX11_moves 10 = .ok (.invokevirtual 201, 3) := by decide +kernel
theorem dX11_moves_13 : decode cX11_moves 13 = .ok (.ifCond .ne 5, 3) := by decide +kernel
theorem dX11_moves_16 : decode cX11_moves 16 = .ok (.iconst (-1), 1) := by decide +kernel
theorem dX11_moves_17 : decode cX11_moves 17 = .ok (.ireturn, 1) := by decide +kernel
theorem dX11_moves_18 : decode cX11_moves 18 = .ok (.aload_n 0, 1) := by decide +kernel
theorem dX11_moves_19 : decode cX11_moves 19 = .ok (.iload_n 2, 1) := by decide +kernel
theorem dX11_moves_20 : decode cX11_moves 20 = .ok (.invokevirtual 204, 3) := by decide +kernel
theorem dX11_moves_23 : decode cX11_moves 23 = .ok (.ifCond .ne 6, 3) := by decide +kernel
theorem dX11_moves_26 : decode cX11_moves 26 = .ok (.bipush (-2), 2) := by decide +kernel
theorem dX11_moves_28 : decode cX11_moves 28 = .ok (.ireturn, 1) := by decide +kernel
theorem dX11_moves_29 : decode cX11_moves 29 = .ok (.aload_n 0, 1) := by decide +kernel
theorem dX11_moves_30 : decode cX11_moves 30 = .ok (.invokevirtual 187, 3) := by decide +kernel
theorem dX11_moves_33 : decode cX11_moves 33 = .ok (.aload_n 0, 1) := by decide +kernel
theorem dX11_moves_34 : decode cX11_moves 34 = .ok (.getfield 46, 3) := by decide +kernel
theorem dX11_moves_37 : decode cX11_moves 37 = .ok (.getfield 148, 3) := by decide +kernel
theorem dX11_moves_40 : decode cX11_moves 40 = .ok (.iload_n 1, 1) := by decide +kernel
theorem dX11_moves_41 : decode cX11_moves 41 = .ok (.iaload, 1) := by decide +kernel
theorem dX11_moves_42 : decode cX11_moves 42 = .ok (.istore_n 3, 1) := by decide +kernel
theorem dX11_moves_43 : decode cX11_moves 43 = .ok (.aload_n 0, 1) := by decide +kernel
theorem dX11_moves_44 : decode cX11_moves 44 = .ok (.getfield 46, 3) := by decide +kernel
theorem dX11_moves_47 : decode cX11_moves 47 = .ok (.getfield 148, 3) := by decide +kernel
theorem dX11_moves_50 : decode cX11_moves 50 = .ok (.iload_n 1, 1) := by decide +kernel
theorem dX11_moves_51 : decode cX11_moves 51 = .ok (.iload_n 2, 1) := by decide +kernel
theorem dX11_moves_52 : decode cX11_moves 52 = .ok (.iastore, 1) := by decide +kernel
theorem dX11_moves_53 : decode cX11_moves 53 = .ok (.iload_n 3, 1) := by decide +kernel
theorem dX11_moves_54 : decode cX11_moves 54 = .ok (.ireturn, 1) := by decide +kernel
theorem dX11_changes_0 : decode cX11_changes 0 = .ok (.aload_n 0, 1) := by decide +kernel
theorem dX11_changes_1 : decode cX11_changes 1 = .ok (.iload_n 1, 1) := by decide +kernel
theorem dX11_changes_2 : decode cX11_changes 2 = .ok (.invokevirtual 122, 3) := by decide +kernel
theorem dX11_changes_5 : decode cX11_changes 5 = .ok (.ifCond .eq 16, 3) := by decide +kernel
theorem dX11_changes_8 : decode cX11_changes 8 = .ok (.aload_n 0, 1) := by decide +kernel
theorem dX11_changes_9 : decode cX11_changes 9 = .ok (.iload_n 2, 1) := by decide +kernel
theorem dX11_changes_10 : decode cX11_changes 10 = .ok (.invokevirtual 122, 3) := by decide +kernel
theorem dX11_changes_13 : decode cX11_changes 13 = .ok (.ifCond .eq 8, 3) := by decide +kernel
theorem dX11_changes_16 : decode cX11_changes 16 = .ok (.iload_n 1, 1) := by decide +kernel
theorem dX11_changes_17 : decode cX11_changes 17 = .ok (.iload_n 2, 1) := by decide +kernel
theorem dX11_changes_18 : decode cX11_changes 18 = .ok (.if_icmp .ne 5, 3) := by decide +kernel
theorem dX11_changes_21 : decode cX11_changes 21 = .ok (.iconst (-1), 1) := by decide +kernel
theorem dX11_changes_22 : decode cX11_changes 22 = .ok (.ireturn, 1) := by decide +kernel
theorem dX11_changes_23 : decode cX11_changes 23 = .ok (.aload_n 0, 1) := by decide +kernel
theorem dX11_changes_24 : decode cX11_changes 24 = .ok (.invokevirtual 187, 3) := by decide +kernel
theorem dX11_changes_27 : decode cX11_changes 27 = .ok (.aload_n 0, 1) := by decide +kernel
theorem dX11_changes_28 : decode cX11_changes 28 = .ok (.getfield 46, 3) := by decide +kernel
theorem dX11_changes_31 : decode cX11_changes 31 = .ok (.iload_n 1, 1) := by decide +kernel
theorem dX11_changes_32 : decode cX11_changes 32 = .ok (.iload_n 2, 1) := by decide +kernel
theorem dX11_changes_33 : decode cX11_changes 33 = .ok (.invokevirtual 207, 3) := by decide +kernel
theorem dX11_changes_36 : decode cX11_changes 36 = .ok (.aload_n 0, 1) := by decide +kernel
theorem dX11_changes_37 : decode cX11_changes 37 = .ok (.getfield 46, 3) := by decide +kernel
theorem dX11_changes_40 : decode cX11_changes 40 = .ok (.getfield 126, 3) := by decide +kernel
theorem dX11_changes_43 : decode cX11_changes 43 = .ok (.iload_n 1, 1) := by decide +kernel
theorem dX11_changes_44 : decode cX11_changes 44 = .ok (.iaload, 1) := by decide +kernel
theorem dX11_changes_45 : decode cX11_changes 45 = .ok (.ireturn, 1) := by decide +kernel
theorem dX11_undo_0 : decode cX11_undo 0 = .ok (.aload_n 0, 1) := by decide +kernel
theorem dX11_undo_1 : decode cX11_undo 1 = .ok (.getfield 116, 3) := by decide +kernel
theorem dX11_undo_4 : decode cX11_undo 4 = .ok (.iconst 1, 1) := by decide +kernel
theorem dX11_undo_5 : decode cX11_undo 5 = .ok (.if_icmp .ge 6, 3) := by decide +kernel
theorem dX11_undo_8 : decode cX11_undo 8 = .ok (.bipush (-2), 2) := by decide +kernel
theorem dX11_undo_10 : decode cX11_undo 10 = .ok (.ireturn, 1) := by decide +kernel
theorem dX11_undo_11 : decode cX11_undo 11 = .ok (.aload_n 0, 1) := by decide +kernel
theorem dX11_undo_12 : decode cX11_undo 12 = .ok (.dup, 1) := by decide +kernel
theorem dX11_undo_13 : decode cX11_undo 13 = .ok (.getfield 116, 3) := by decide +kernel
theorem dX11_undo_16 : decode cX11_undo 16 = .ok (.iconst 1, 1) := by decide +kernel
theorem dX11_undo_17 : decode cX11_undo 17 = .ok (.isub, 1) := by decide +kernel
theorem dX11_undo_18 : decode cX11_undo 18 = .ok (.putfield 116, 3) := by decide +kernel
theorem dX11_undo_21 : decode cX11_undo 21 = .ok (.aload_n 0, 1) := by decide +kernel
theorem dX11_undo_22 : decode cX11_undo 22 = .ok (.getfield 46, 3) := by decide +kernel
theorem dX11_undo_25 : decode cX11_undo 25 = .ok (.aload_n 0, 1) := by decide +kernel
theorem dX11_undo_26 : decode cX11_undo 26 = .ok (.getfield 53, 3) := by decide +kernel
theorem dX11_undo_29 : decode cX11_undo 29 = .ok (.aload_n 0, 1) := by decide +kernel
theorem dX11_undo_30 : decode cX11_undo 30 = .ok (.getfield 116, 3) := by decide +kernel
theorem dX11_undo_33 : decode cX11_undo 33 = .ok (.aaload, 1) := by decide +kernel
theorem dX11_undo_34 : decode cX11_undo 34 = .ok (.invokevirtual 112, 3) := by decide +kernel
theorem dX11_undo_37 : decode cX11_undo 37 = .ok (.aload_n 0, 1) := by decide +kernel
theorem dX11_undo_38 : decode cX11_undo 38 = .ok (.getfield 116, 3) := by decide +kernel
theorem dX11_undo_41 : decode cX11_undo 41 = .ok (.ireturn, 1) := by decide +kernel
theorem dX11_steps_0 : decode cX11_steps 0 = .ok (.aload_n 0, 1) := by decide +kernel
theorem dX11_steps_1 : decode cX11_steps 1 = .ok (.iload_n 1, 1) := by decide +kernel
theorem dX11_steps_2 : decode cX11_steps 2 = .ok (.invokevirtual 122, 3) := by decide +kernel
theorem dX11_steps_5 : decode cX11_steps 5 = .ok (.ifCond .eq 18, 3) := by decide +kernel
theorem dX11_steps_8 : decode cX11_steps 8 = .ok (.aload_n 0, 1) := by decide +kernel
theorem dX11_steps_9 : decode cX11_steps 9 = .ok (.iload_n 2, 1) := by decide +kernel
theorem dX11_steps_10 : decode cX11_steps 10 = .ok (.invokevirtual 145, 3) := by decide +kernel
theorem dX11_steps_13 : decode cX11_steps 13 = .ok (.ifCond .eq 10, 3) := by decide +kernel
theorem dX11_steps_16 : decode cX11_steps 16 = .ok (.iload_n 3, 1) := by decide +kernel
theorem dX11_steps_17 : decode cX11_steps 17 = .ok (.invokestatic 184, 3) := by decide +kernel
theorem dX11_steps_20 : decode cX11_steps 20 = .ok (.ifCond .ne 5, 3) := by decide +kernel
theorem dX11_steps_23 : decode cX11_steps 23 = .ok (.iconst (-1), 1) := by decide +kernel
theorem dX11_steps_24 : decode cX11_steps 24 = .ok (.ireturn, 1) := by decide +kernel
theorem dX11_steps_25 : decode cX11_steps 25 = .ok (.aload_n 0, 1) := by decide +kernel
theorem dX11_steps_26 : decode cX11_steps 26 = .ok (.getfield 39, 3) := by decide +kernel
theorem dX11_steps_29 : decode cX11_steps 29 = .ok (.aload_n 0, 1) := by decide +kernel
theorem dX11_steps_30 : decode cX11_steps 30 = .ok (.getfield 46, 3) := by decide +kernel
theorem dX11_steps_33 : decode cX11_steps 33 = .ok (.iload_n 1, 1) := by decide +kernel
theorem dX11_steps_34 : decode cX11_steps 34 = .ok (.iload_n 2, 1) := by decide +kernel
theorem dX11_steps_35 : decode cX11_steps 35 = .ok (.iconst 0, 1) := by decide +kernel
theorem dX11_steps_36 : decode cX11_steps 36 = .ok (.invokevirtual 211, 3) := by decide +kernel
theorem dX11_steps_39 : decode cX11_steps 39 = .ok (.istore 4, 2) := by decide +kernel
theorem dX11_steps_41 : decode cX11_steps 41 = .ok (.aload_n 0, 1) := by decide +kernel
theorem dX11_steps_42 : decode cX11_steps 42 = .ok (.getfield 39, 3) := by decide +kernel
theorem dX11_steps_45 : decode cX11_steps 45 = .ok (.aload_n 0, 1) := by decide +kernel
theorem dX11_steps_46 : decode cX11_steps 46 = .ok (.getfield 46, 3) := by decide +kernel
theorem dX11_steps_49 : decode cX11_steps 49 = .ok (.iload_n 1, 1) := by decide +kernel
theorem dX11_steps_50 : decode cX11_steps 50 = .ok (.iload_n 2, 1) := by decide +kernel
theorem dX11_steps_51 : decode cX11_steps 51 = .ok (.iconst 1, 1) := by decide +kernel
theorem dX11_steps_52 : decode cX11_steps 52 = .ok (.invokevirtual 211, 3) := by decide +kernel
theorem dX11_steps_55 : decode cX11_steps 55 = .ok (.istore 5, 2) := by decide +kernel
theorem dX11_steps_57 : decode cX11_steps 57 = .ok (.iload 4, 2) := by decide +kernel
theorem dX11_steps_59 : decode cX11_steps 59 = .ok (.iload 5, 2) := by decide +kernel
theorem dX11_steps_61 : decode cX11_steps 61 = .ok (.invokestatic 215, 3) := by decide +kernel
theorem dX11_steps_64 : decode cX11_steps 64 = .ok (.istore 6, 2) := by decide +kernel
theorem dX11_steps_66 : decode cX11_steps 66 = .ok (.iload_n 3, 1) := by decide +kernel
theorem dX11_steps_67 : decode cX11_steps 67 = .ok (.ifCond .ne 6, 3) := by decide +kernel
theorem dX11_steps_70 : decode cX11_steps 70 = .ok (.iload 6, 2) := by decide +kernel
theorem dX11_steps_72 : decode cX11_steps 72 = .ok (.ireturn, 1) := by decide +kernel
theorem dX11_steps_73 : decode cX11_steps 73 = .ok (.iload 6, 2) := by decide +kernel
theorem dX11_steps_75 : decode cX11_steps 75 = .ok (.ifCond .ne 6, 3) := by decide +kernel
theorem dX11_steps_78 : decode cX11_steps 78 = .ok (.bipush (-9), 2) := by decide +kernel
theorem dX11_steps_80 : decode cX11_steps 80 = .ok (.ireturn, 1) := by decide +kernel
theorem dX11_steps_81 : decode cX11_steps 81 = .ok (.iload 4, 2) := by decide +kernel
theorem dX11_steps_83 : decode cX11_steps 83 = .ok (.iload 5, 2) := by decide +kernel
theorem dX11_steps_85 : decode cX11_steps 85 = .ok (.if_icmp .gt 7, 3) := by decide +kernel
theorem dX11_steps_88 : decode cX11_steps 88 = .ok (.iconst 0, 1) := by decide +kernel
theorem dX11_steps_89 : decode cX11_steps 89 = .ok (.goto 4, 3) := by decide +kernel
theorem dX11_steps_92 : decode cX11_steps 92 = .ok (.iconst 1, 1) := by decide +kernel
theorem dX11_steps_93 : decode cX11_steps 93 = .ok (.ireturn, 1) := by decide +kernel
theorem dX11_puts_0 : decode cX11_puts 0 = .ok (.aload_n 0, 1) := by decide +kernel
theorem dX11_puts_1 : decode cX11_puts 1 = .ok (.iload_n 1, 1) := by decide +kernel
theorem dX11_puts_2 : decode cX11_puts 2 = .ok (.invokevirtual 145, 3) := by decide +kernel
theorem dX11_puts_5 : decode cX11_puts 5 = .ok (.ifCond .ne 5, 3) := by decide +kernel
theorem dX11_puts_8 : decode cX11_puts 8 = .ok (.iconst (-1), 1) := by decide +kernel
theorem dX11_puts_9 : decode cX11_puts 9 = .ok (.ireturn, 1) := by decide +kernel
theorem dX11_puts_10 : decode cX11_puts 10 = .ok (.bipush (-9), 2) := by decide +kernel
theorem dX11_puts_12 : decode cX11_puts 12 = .ok (.istore_n 2, 1) := by decide +kernel
theorem dX11_puts_13 : decode cX11_puts 13 = .ok (.aload_n 0, 1) := by decide +kernel
theorem dX11_puts_14 : decode cX11_puts 14 = .ok (.getfield 39, 3) := by decide +kernel
theorem dX11_puts_17 : decode cX11_puts 17 = .ok (.getfield 181, 3) := by decide +kernel
theorem dX11_puts_20 : decode cX11_puts 20 = .ok (.istore_n 3, 1) := by decide +kernel
theorem dX11_puts_21 : decode cX11_puts 21 = .ok (.aload_n 0, 1) := by decide +kernel
theorem dX11_puts_22 : decode cX11_puts 22 = .ok (.getfield 50, 3) := by decide +kernel
theorem dX11_puts_25 : decode cX11_puts 25 = .ok (.aload_n 0, 1) := by decide +kernel
theorem dX11_puts_26 : decode cX11_puts 26 = .ok (.getfield 46, 3) := by decide +kernel
theorem dX11_puts_29 : decode cX11_puts 29 = .ok (.invokevirtual 112, 3) := by decide +kernel
theorem dX11_puts_32 : decode cX11_puts 32 = .ok (.iconst 0, 1) := by decide +kernel
theorem dX11_puts_33 : decode cX11_puts 33 = .ok (.istore 4, 2) := by decide +kernel
theorem dX11_puts_35 : decode cX11_puts 35 = .ok (.iload 4, 2) := by decide +kernel
theorem dX11_puts_37 : decode cX11_puts 37 = .ok (.aload_n 0, 1) := by decide +kernel
theorem dX11_puts_38 : decode cX11_puts 38 = .ok (.getfield 39, 3) := by decide +kernel
theorem dX11_puts_41 : decode cX11_puts 41 = .ok (.getfield 181, 3) := by decide +kernel
theorem dX11_puts_44 : decode cX11_puts 44 = .ok (.if_icmp .ge 75, 3) := by decide +kernel
theorem dX11_puts_47 : decode cX11_puts 47 = .ok (.iload 4, 2) := by decide +kernel
theorem dX11_puts_49 : decode cX11_puts 49 = .ok (.aload_n 0, 1) := by decide +kernel
theorem dX11_puts_50 : decode cX11_puts 50 = .ok (.getfield 46, 3) := by decide +kernel
theorem dX11_puts_53 : decode cX11_puts 53 = .ok (.getfield 148, 3) := by decide +kernel
theorem dX11_puts_56 : decode cX11_puts 56 = .ok (.iload_n 1, 1) := by decide +kernel
theorem dX11_puts_57 : decode cX11_puts 57 = .ok (.iaload, 1) := by decide +kernel
theorem dX11_puts_58 : decode cX11_puts 58 = .ok (.if_icmp .eq 12, 3) := by decide +kernel
theorem dX11_puts_61 : decode cX11_puts 61 = .ok (.aload_n 0, 1) := by decide +kernel
theorem dX11_puts_62 : decode cX11_puts 62 = .ok (.iload 4, 2) := by decide +kernel
theorem dX11_puts_64 : decode cX11_puts 64 = .ok (.invokevirtual 204, 3) := by decide +kernel
theorem dX11_puts_67 : decode cX11_puts 67 = .ok (.ifCond .eq 46, 3) := by decide +kernel
theorem dX11_puts_70 : decode cX11_puts 70 = .ok (.aload_n 0, 1) := by decide +kernel
theorem dX11_puts_71 : decode cX11_puts 71 = .ok (.getfield 50, 3) := by decide +kernel
theorem dX11_puts_74 : decode cX11_puts 74 = .ok (.getfield 148, 3) := by decide +kernel
theorem dX11_puts_77 : decode cX11_puts 77 = .ok (.iload_n 1, 1) := by decide +kernel
theorem dX11_puts_78 : decode cX11_puts 78 = .ok (.iload 4, 2) := by decide +kernel
theorem dX11_puts_80 : decode cX11_puts 80 = .ok (.iastore, 1) := by decide +kernel
theorem dX11_puts_81 : decode cX11_puts 81 = .ok (.aload_n 0, 1) := by decide +kernel
theorem dX11_puts_82 : decode cX11_puts 82 = .ok (.getfield 39, 3) := by decide +kernel
theorem dX11_puts_85 : decode cX11_puts 85 = .ok (.aload_n 0, 1) := by decide +kernel
theorem dX11_puts_86 : decode cX11_puts 86 = .ok (.getfield 50, 3) := by decide +kernel
theorem dX11_puts_89 : decode cX11_puts 89 = .ok (.invokevirtual 170, 3) := by decide +kernel
theorem dX11_puts_92 : decode cX11_puts 92 = .ok (.istore 5, 2) := by decide +kernel
theorem dX11_puts_94 : decode cX11_puts 94 = .ok (.iload 5, 2) := by decide +kernel
theorem dX11_puts_96 : decode cX11_puts 96 = .ok (.bipush (-9), 2) := by decide +kernel
theorem dX11_puts_98 : decode cX11_puts 98 = .ok (.if_icmp .eq 15, 3) := by decide +kernel
theorem dX11_puts_101 : decode cX11_puts 101 = .ok (.iload 5, 2) := by decide +kernel
theorem dX11_puts_103 : decode cX11_puts 103 = .ok (.iload_n 3, 1) := by decide +kernel
theorem dX11_puts_104 : decode cX11_puts 104 = .ok (.if_icmp .ge 9, 3) := by decide +kernel
theorem dX11_puts_107 : decode cX11_puts 107 = .ok (.iload 5, 2) := by decide +kernel
theorem dX11_puts_109 : decode cX11_puts 109 = .ok (.istore_n 3, 1) := by decide +kernel
theorem dX11_puts_110 : decode cX11_puts 110 = .ok (.iload 4, 2) := by decide +kernel
theorem dX11_puts_112 : decode cX11_puts 112 = .ok (.istore_n 2, 1) := by decide +kernel
theorem dX11_puts_113 : decode cX11_puts 113 = .ok (.iinc 4 1, 3) := by decide +kernel
theorem dX11_puts_116 : decode cX11_puts 116 = .ok (.goto (-81), 3) := by decide +kernel
theorem dX11_puts_119 : decode cX11_puts 119 = .ok (.iload_n 2, 1) := by decide +kernel
theorem dX11_puts_120 : decode cX11_puts 120 = .ok (.ireturn, 1) := by decide +kernel
theorem dX11_fed_0 : decode cX11_fed 0 = .ok (.aload_n 0, 1) := by decide +kernel
theorem dX11_fed_1 : decode cX11_fed 1 = .ok (.iload_n 1, 1) := by decide +kernel
theorem dX11_fed_2 : decode cX11_fed 2 = .ok (.invokevirtual 122, 3) := by decide +kernel
theorem dX11_fed_5 : decode cX11_fed 5 = .ok (.ifCond .ne 5, 3) := by decide +kernel
theorem dX11_fed_8 : decode cX11_fed 8 = .ok (.iconst (-1), 1) := by decide +kernel
theorem dX11_fed_9 : decode cX11_fed 9 = .ok (.ireturn, 1) := by decide +kernel
theorem dX11_fed_10 : decode cX11_fed 10 = .ok (.aload_n 0, 1) := by decide +kernel
theorem dX11_fed_11 : decode cX11_fed 11 = .ok (.getfield 19, 3) := by decide +kernel
theorem dX11_fed_14 : decode cX11_fed 14 = .ok (.aload_n 0, 1) := by decide +kernel
theorem dX11_fed_15 : decode cX11_fed 15 = .ok (.getfield 39, 3) := by decide +kernel
theorem dX11_fed_18 : decode cX11_fed 18 = .ok (.aload_n 0, 1) := by decide +kernel
theorem dX11_fed_19 : decode cX11_fed 19 = .ok (.getfield 46, 3) := by decide +kernel
theorem dX11_fed_22 : decode cX11_fed 22 = .ok (.invokevirtual 177, 3) := by decide +kernel
theorem dX11_fed_25 : decode cX11_fed 25 = .ok (.pop, 1) := by decide +kernel
theorem dX11_fed_26 : decode cX11_fed 26 = .ok (.aload_n 0, 1) := by decide +kernel
theorem dX11_fed_27 : decode cX11_fed 27 = .ok (.getfield 19, 3) := by decide +kernel
theorem dX11_fed_30 : decode cX11_fed 30 = .ok (.getfield 221, 3) := by decide +kernel
theorem dX11_fed_33 : decode cX11_fed 33 = .ok (.iload_n 1, 1) := by decide +kernel
theorem dX11_fed_34 : decode cX11_fed 34 = .ok (.iaload, 1) := by decide +kernel
theorem dX11_fed_35 : decode cX11_fed 35 = .ok (.ireturn, 1) := by decide +kernel
theorem dX11_odds_0 : decode cX11_odds 0 = .ok (.iload_n 1, 1) := by decide +kernel
theorem dX11_odds_1 : decode cX11_odds 1 = .ok (.ifCond .lt 24, 3) := by decide +kernel
theorem dX11_odds_4 : decode cX11_odds 4 = .ok (.iload_n 1, 1) := by decide +kernel
theorem dX11_odds_5 : decode cX11_odds 5 = .ok (.bipush 10, 2) := by decide +kernel
theorem dX11_odds_7 : decode cX11_odds 7 = .ok (.if_icmp .gt 18, 3) := by decide +kernel
theorem dX11_odds_10 : decode cX11_odds 10 = .ok (.aload_n 0, 1) := by decide +kernel
theorem dX11_odds_11 : decode cX11_odds 11 = .ok (.iload_n 2, 1) := by decide +kernel
theorem dX11_odds_12 : decode cX11_odds 12 = .ok (.invokevirtual 201, 3) := by decide +kernel
theorem dX11_odds_15 : decode cX11_odds 15 = .ok (.ifCond .eq 10, 3) := by decide +kernel
theorem dX11_odds_18 : decode cX11_odds 18 = .ok (.iload_n 3, 1) := by decide +kernel
theorem dX11_odds_19 : decode cX11_odds 19 = .ok (.invokestatic 184, 3) := by decide +kernel
theorem dX11_odds_22 : decode cX11_odds 22 = .ok (.ifCond .ne 5, 3) := by decide +kernel
theorem dX11_odds_25 : decode cX11_odds 25 = .ok (.iconst (-1), 1) := by decide +kernel
theorem dX11_odds_26 : decode cX11_odds 26 = .ok (.ireturn, 1) := by decide +kernel
theorem dX11_odds_27 : decode cX11_odds 27 = .ok (.aload_n 0, 1) := by decide +kernel
theorem dX11_odds_28 : decode cX11_odds 28 = .ok (.iload_n 1, 1) := by decide +kernel
theorem dX11_odds_29 : decode cX11_odds 29 = .ok (.invokevirtual 224, 3) := by decide +kernel
theorem dX11_odds_32 : decode cX11_odds 32 = .ok (.istore 4, 2) := by decide +kernel
theorem dX11_odds_34 : decode cX11_odds 34 = .ok (.aload_n 0, 1) := by decide +kernel
theorem dX11_odds_35 : decode cX11_odds 35 = .ok (.getfield 74, 3) := by decide +kernel
theorem dX11_odds_38 : decode cX11_odds 38 = .ok (.iload_n 2, 1) := by decide +kernel
theorem dX11_odds_39 : decode cX11_odds 39 = .ok (.iaload, 1) := by decide +kernel
theorem dX11_odds_40 : decode cX11_odds 40 = .ok (.istore 5, 2) := by decide +kernel
theorem dX11_odds_42 : decode cX11_odds 42 = .ok (.iconst 0, 1) := by decide +kernel
theorem dX11_odds_43 : decode cX11_odds 43 = .ok (.istore 6, 2) := by decide +kernel
theorem dX11_odds_45 : decode cX11_odds 45 = .ok (.iload 6, 2) := by decide +kernel
theorem dX11_odds_47 : decode cX11_odds 47 = .ok (.aload_n 0, 1) := by decide +kernel
theorem dX11_odds_48 : decode cX11_odds 48 = .ok (.getfield 39, 3) := by decide +kernel
theorem dX11_odds_51 : decode cX11_odds 51 = .ok (.getfield 227, 3) := by decide +kernel
theorem dX11_odds_54 : decode cX11_odds 54 = .ok (.if_icmp .ge 61, 3) := by decide +kernel
theorem dX11_odds_57 : decode cX11_odds 57 = .ok (.iload 4, 2) := by decide +kernel
theorem dX11_odds_59 : decode cX11_odds 59 = .ok (.iconst 2, 1) := by decide +kernel
theorem dX11_odds_60 : decode cX11_odds 60 = .ok (.irem, 1) := by decide +kernel
theorem dX11_odds_61 : decode cX11_odds 61 = .ok (.ifCond .ne 22, 3) := by decide +kernel
theorem dX11_odds_64 : decode cX11_odds 64 = .ok (.iload 5, 2) := by decide +kernel
theorem dX11_odds_66 : decode cX11_odds 66 = .ok (.iconst 2, 1) := by decide +kernel
theorem dX11_odds_67 : decode cX11_odds 67 = .ok (.irem, 1) := by decide +kernel
theorem dX11_odds_68 : decode cX11_odds 68 = .ok (.ifCond .ne 15, 3) := by decide +kernel
theorem dX11_odds_71 : decode cX11_odds 71 = .ok (.iload 4, 2) := by decide +kernel
theorem dX11_odds_73 : decode cX11_odds 73 = .ok (.iconst 2, 1) := by decide +kernel
theorem dX11_odds_74 : decode cX11_odds 74 = .ok (.idiv, 1) := by decide +kernel
theorem dX11_odds_75 : decode cX11_odds 75 = .ok (.istore 4, 2) := by decide +kernel
theorem dX11_odds_77 : decode cX11_odds 77 = .ok (.iload 5, 2) := by decide +kernel
theorem dX11_odds_79 : decode cX11_odds 79 = .ok (.iconst 2, 1) := by decide +kernel
theorem dX11_odds_80 : decode cX11_odds 80 = .ok (.idiv, 1) := by decide +kernel
theorem dX11_odds_81 : decode cX11_odds 81 = .ok (.istore 5, 2) := by decide +kernel
theorem dX11_odds_83 : decode cX11_odds 83 = .ok (.iload 4, 2) := by decide +kernel
theorem dX11_odds_85 : decode cX11_odds 85 = .ok (.iconst 5, 1) := by decide +kernel
theorem dX11_odds_86 : decode cX11_odds 86 = .ok (.irem, 1) := by decide +kernel
theorem dX11_odds_87 : decode cX11_odds 87 = .ok (.ifCond .ne 22, 3) := by decide +kernel
theorem dX11_odds_90 : decode cX11_odds 90 = .ok (.iload 5, 2) := by decide +kernel
theorem dX11_odds_92 : decode cX11_odds 92 = .ok (.iconst 5, 1) := by decide +kernel
theorem dX11_odds_93 : decode cX11_odds 93 = .ok (.irem, 1) := by decide +kernel
theorem dX11_odds_94 : decode cX11_odds 94 = .ok (.ifCond .ne 15, 3) := by decide +kernel
theorem dX11_odds_97 : decode cX11_odds 97 = .ok (.iload 4, 2) := by decide +kernel
theorem dX11_odds_99 : decode cX11_odds 99 = .ok (.iconst 5, 1) := by decide +kernel
theorem dX11_odds_100 : decode cX11_odds 100 = .ok (.idiv, 1) := by decide +kernel
theorem dX11_odds_101 : decode cX11_odds 101 = .ok (.istore 4, 2) := by decide +kernel
theorem dX11_odds_103 : decode cX11_odds 103 = .ok (.iload 5, 2) := by decide +kernel
theorem dX11_odds_105 : decode cX11_odds 105 = .ok (.iconst 5, 1) := by decide +kernel
theorem dX11_odds_106 : decode cX11_odds 106 = .ok (.idiv, 1) := by decide +kernel
theorem dX11_odds_107 : decode cX11_odds 107 = .ok (.istore 5, 2) := by decide +kernel
theorem dX11_odds_109 : decode cX11_odds 109 = .ok (.iinc 6 1, 3) := by decide +kernel
theorem dX11_odds_112 : decode cX11_odds 112 = .ok (.goto (-67), 3) := by decide +kernel
theorem dX11_odds_115 : decode cX11_odds 115 = .ok (.iload_n 3, 1) := by decide +kernel
theorem dX11_odds_116 : decode cX11_odds 116 = .ok (.ifCond .ne 8, 3) := by decide +kernel
theorem dX11_odds_119 : decode cX11_odds 119 = .ok (.iload 5, 2) := by decide +kernel
theorem dX11_odds_121 : decode cX11_odds 121 = .ok (.goto 5, 3) := by decide +kernel
theorem dX11_odds_124 : decode cX11_odds 124 = .ok (.iload 4, 2) := by decide +kernel
theorem dX11_odds_126 : decode cX11_odds 126 = .ok (.ireturn, 1) := by decide +kernel
theorem dX11_sees_0 : decode cX11_sees 0 = .ok (.aload_n 0, 1) := by decide +kernel
theorem dX11_sees_1 : decode cX11_sees 1 = .ok (.iload_n 1, 1) := by decide +kernel
theorem dX11_sees_2 : decode cX11_sees 2 = .ok (.invokevirtual 145, 3) := by decide +kernel
theorem dX11_sees_5 : decode cX11_sees 5 = .ok (.ifCond .eq 18, 3) := by decide +kernel
theorem dX11_sees_8 : decode cX11_sees 8 = .ok (.aload_n 0, 1) := by decide +kernel
theorem dX11_sees_9 : decode cX11_sees 9 = .ok (.iload_n 2, 1) := by decide +kernel
theorem dX11_sees_10 : decode cX11_sees 10 = .ok (.invokevirtual 201, 3) := by decide +kernel
theorem dX11_sees_13 : decode cX11_sees 13 = .ok (.ifCond .eq 10, 3) := by decide +kernel
theorem dX11_sees_16 : decode cX11_sees 16 = .ok (.iload_n 3, 1) := by decide +kernel
theorem dX11_sees_17 : decode cX11_sees 17 = .ok (.invokestatic 184, 3) := by decide +kernel
theorem dX11_sees_20 : decode cX11_sees 20 = .ok (.ifCond .ne 5, 3) := by decide +kernel
theorem dX11_sees_23 : decode cX11_sees 23 = .ok (.iconst (-1), 1) := by decide +kernel
theorem dX11_sees_24 : decode cX11_sees 24 = .ok (.ireturn, 1) := by decide +kernel
theorem dX11_sees_25 : decode cX11_sees 25 = .ok (.aload_n 0, 1) := by decide +kernel
theorem dX11_sees_26 : decode cX11_sees 26 = .ok (.getfield 119, 3) := by decide +kernel
theorem dX11_sees_29 : decode cX11_sees 29 = .ok (.bipush 6, 2) := by decide +kernel
theorem dX11_sees_31 : decode cX11_sees 31 = .ok (.if_icmp .lt 6, 3) := by decide +kernel
theorem dX11_sees_34 : decode cX11_sees 34 = .ok (.bipush (-3), 2) := by decide +kernel
theorem dX11_sees_36 : decode cX11_sees 36 = .ok (.ireturn, 1) := by decide +kernel
theorem dX11_sees_37 : decode cX11_sees 37 = .ok (.aload_n 0, 1) := by decide +kernel
theorem dX11_sees_38 : decode cX11_sees 38 = .ok (.getfield 64, 3) := by decide +kernel
theorem dX11_sees_41 : decode cX11_sees 41 = .ok (.aload_n 0, 1) := by decide +kernel
theorem dX11_sees_42 : decode cX11_sees 42 = .ok (.getfield 119, 3) := by decide +kernel
theorem dX11_sees_45 : decode cX11_sees 45 = .ok (.iload_n 1, 1) := by decide +kernel
theorem dX11_sees_46 : decode cX11_sees 46 = .ok (.iastore, 1) := by decide +kernel
theorem dX11_sees_47 : decode cX11_sees 47 = .ok (.aload_n 0, 1) := by decide +kernel
theorem dX11_sees_48 : decode cX11_sees 48 = .ok (.getfield 68, 3) := by decide +kernel
theorem dX11_sees_51 : decode cX11_sees 51 = .ok (.aload_n 0, 1) := by decide +kernel
theorem dX11_sees_52 : decode cX11_sees 52 = .ok (.getfield 119, 3) := by decide +kernel
theorem dX11_sees_55 : decode cX11_sees 55 = .ok (.iload_n 2, 1) := by decide +kernel
theorem dX11_sees_56 : decode cX11_sees 56 = .ok (.iastore, 1) := by decide +kernel
theorem dX11_sees_57 : decode cX11_sees 57 = .ok (.aload_n 0, 1) := by decide +kernel
theorem dX11_sees_58 : decode cX11_sees 58 = .ok (.getfield 71, 3) := by decide +kernel
theorem dX11_sees_61 : decode cX11_sees 61 = .ok (.aload_n 0, 1) := by decide +kernel
theorem dX11_sees_62 : decode cX11_sees 62 = .ok (.getfield 119, 3) := by decide +kernel
theorem dX11_sees_65 : decode cX11_sees 65 = .ok (.iload_n 3, 1) := by decide +kernel
theorem dX11_sees_66 : decode cX11_sees 66 = .ok (.iconst 1, 1) := by decide +kernel
theorem dX11_sees_67 : decode cX11_sees 67 = .ok (.if_icmp .ne 7, 3) := by decide +kernel
theorem dX11_sees_70 : decode cX11_sees 70 = .ok (.iconst 1, 1) := by decide +kernel
theorem dX11_sees_71 : decode cX11_sees 71 = .ok (.goto 4, 3) := by decide +kernel
theorem dX11_sees_74 : decode cX11_sees 74 = .ok (.iconst 0, 1) := by decide +kernel
theorem dX11_sees_75 : decode cX11_sees 75 = .ok (.bastore, 1) := by decide +kernel
theorem dX11_sees_76 : decode cX11_sees 76 = .ok (.aload_n 0, 1) := by decide +kernel
theorem dX11_sees_77 : decode cX11_sees 77 = .ok (.dup, 1) := by decide +kernel
theorem dX11_sees_78 : decode cX11_sees 78 = .ok (.getfield 119, 3) := by decide +kernel
theorem dX11_sees_81 : decode cX11_sees 81 = .ok (.iconst 1, 1) := by decide +kernel
theorem dX11_sees_82 : decode cX11_sees 82 = .ok (.iadd, 1) := by decide +kernel
theorem dX11_sees_83 : decode cX11_sees 83 = .ok (.putfield 119, 3) := by decide +kernel
theorem dX11_sees_86 : decode cX11_sees 86 = .ok (.aload_n 0, 1) := by decide +kernel
theorem dX11_sees_87 : decode cX11_sees 87 = .ok (.getfield 119, 3) := by decide +kernel
theorem dX11_sees_90 : decode cX11_sees 90 = .ok (.ireturn, 1) := by decide +kernel
theorem dX11_forget_0 : decode cX11_forget 0 = .ok (.aload_n 0, 1) := by decide +kernel
theorem dX11_forget_1 : decode cX11_forget 1 = .ok (.getfield 119, 3) := by decide +kernel
theorem dX11_forget_4 : decode cX11_forget 4 = .ok (.istore_n 1, 1) := by decide +kernel
theorem dX11_forget_5 : decode cX11_forget 5 = .ok (.aload_n 0, 1) := by decide +kernel
theorem dX11_forget_6 : decode cX11_forget 6 = .ok (.iconst 0, 1) := by decide +kernel
theorem dX11_forget_7 : decode cX11_forget 7 = .ok (.putfield 119, 3) := by decide +kernel
theorem dX11_forget_10 : decode cX11_forget 10 = .ok (.iload_n 1, 1) := by decide +kernel
theorem dX11_forget_11 : decode cX11_forget 11 = .ok (.ireturn, 1) := by decide +kernel
theorem dX11_who_0 : decode cX11_who 0 = .ok (.iconst 0, 1) := by decide +kernel
theorem dX11_who_1 : decode cX11_who 1 = .ok (.istore_n 1, 1) := by decide +kernel
theorem dX11_who_2 : decode cX11_who 2 = .ok (.iconst 0, 1) := by decide +kernel
theorem dX11_who_3 : decode cX11_who 3 = .ok (.istore_n 2, 1) := by decide +kernel
theorem dX11_who_4 : decode cX11_who 4 = .ok (.iload_n 2, 1) := by decide +kernel
theorem dX11_who_5 : decode cX11_who 5 = .ok (.aload_n 0, 1) := by decide +kernel
theorem dX11_who_6 : decode cX11_who 6 = .ok (.getfield 39, 3) := by decide +kernel
theorem dX11_who_9 : decode cX11_who 9 = .ok (.getfield 227, 3) := by decide +kernel
theorem dX11_who_12 : decode cX11_who 12 = .ok (.if_icmp .ge 23, 3) := by decide +kernel
theorem dX11_who_15 : decode cX11_who 15 = .ok (.aload_n 0, 1) := by decide +kernel
theorem dX11_who_16 : decode cX11_who 16 = .ok (.iload_n 2, 1) := by decide +kernel
theorem dX11_who_17 : decode cX11_who 17 = .ok (.invokevirtual 230, 3) := by decide +kernel
theorem dX11_who_20 : decode cX11_who 20 = .ok (.ifCond .eq 9, 3) := by decide +kernel
theorem dX11_who_23 : decode cX11_who 23 = .ok (.iload_n 1, 1) := by decide +kernel
theorem dX11_who_24 : decode cX11_who 24 = .ok (.iconst 1, 1) := by decide +kernel
theorem dX11_who_25 : decode cX11_who 25 = .ok (.iload_n 2, 1) := by decide +kernel
theorem dX11_who_26 : decode cX11_who 26 = .ok (.ishl, 1) := by decide +kernel
theorem dX11_who_27 : decode cX11_who 27 = .ok (.ior, 1) := by decide +kernel
theorem dX11_who_28 : decode cX11_who 28 = .ok (.istore_n 1, 1) := by decide +kernel
theorem dX11_who_29 : decode cX11_who 29 = .ok (.iinc 2 1, 3) := by decide +kernel
theorem dX11_who_32 : decode cX11_who 32 = .ok (.goto (-28), 3) := by decide +kernel
theorem dX11_who_35 : decode cX11_who 35 = .ok (.iload_n 1, 1) := by decide +kernel
theorem dX11_who_36 : decode cX11_who 36 = .ok (.ireturn, 1) := by decide +kernel
theorem dX11_look_0 : decode cX11_look 0 = .ok (.aload_n 0, 1) := by decide +kernel
theorem dX11_look_1 : decode cX11_look 1 = .ok (.iload_n 1, 1) := by decide +kernel
theorem dX11_look_2 : decode cX11_look 2 = .ok (.invokevirtual 145, 3) := by decide +kernel
theorem dX11_look_5 : decode cX11_look 5 = .ok (.ifCond .ne 5, 3) := by decide +kernel
theorem dX11_look_8 : decode cX11_look 8 = .ok (.iconst (-1), 1) := by decide +kernel
theorem dX11_look_9 : decode cX11_look 9 = .ok (.ireturn, 1) := by decide +kernel
theorem dX11_look_10 : decode cX11_look 10 = .ok (.aload_n 0, 1) := by decide +kernel
theorem dX11_look_11 : decode cX11_look 11 = .ok (.invokevirtual 233, 3) := by decide +kernel
theorem dX11_look_14 : decode cX11_look 14 = .ok (.istore_n 2, 1) := by decide +kernel
theorem dX11_look_15 : decode cX11_look 15 = .ok (.iload_n 2, 1) := by decide +kernel
theorem dX11_look_16 : decode cX11_look 16 = .ok (.invokestatic 236, 3) := by decide +kernel
theorem dX11_look_19 : decode cX11_look 19 = .ok (.istore_n 3, 1) := by decide +kernel
theorem dX11_look_20 : decode cX11_look 20 = .ok (.iload_n 3, 1) := by decide +kernel
theorem dX11_look_21 : decode cX11_look 21 = .ok (.iconst 2, 1) := by decide +kernel
theorem dX11_look_22 : decode cX11_look 22 = .ok (.if_icmp .ge 6, 3) := by decide +kernel
theorem dX11_look_25 : decode cX11_look 25 = .ok (.bipush (-9), 2) := by decide +kernel
theorem dX11_look_27 : decode cX11_look 27 = .ok (.ireturn, 1) := by decide +kernel
theorem dX11_look_28 : decode cX11_look 28 = .ok (.bipush (-9), 2) := by decide +kernel
theorem dX11_look_30 : decode cX11_look 30 = .ok (.istore 4, 2) := by decide +kernel
theorem dX11_look_32 : decode cX11_look 32 = .ok (.iload_n 3, 1) := by decide +kernel
theorem dX11_look_33 : decode cX11_look 33 = .ok (.iconst 1, 1) := by decide +kernel
theorem dX11_look_34 : decode cX11_look 34 = .ok (.iadd, 1) := by decide +kernel
theorem dX11_look_35 : decode cX11_look 35 = .ok (.istore 5, 2) := by decide +kernel
theorem dX11_look_37 : decode cX11_look 37 = .ok (.iconst 0, 1) := by decide +kernel
theorem dX11_look_38 : decode cX11_look 38 = .ok (.istore 6, 2) := by decide +kernel
theorem dX11_look_40 : decode cX11_look 40 = .ok (.iload 6, 2) := by decide +kernel
theorem dX11_look_42 : decode cX11_look 42 = .ok (.aload_n 0, 1) := by decide +kernel
theorem dX11_look_43 : decode cX11_look 43 = .ok (.getfield 39, 3) := by decide +kernel
theorem dX11_look_46 : decode cX11_look 46 = .ok (.getfield 181, 3) := by decide +kernel
theorem dX11_look_49 : decode cX11_look 49 = .ok (.if_icmp .ge 56, 3) := by decide +kernel
theorem dX11_look_52 : decode cX11_look 52 = .ok (.iload_n 2, 1) := by decide +kernel
theorem dX11_look_53 : decode cX11_look 53 = .ok (.aload_n 0, 1) := by decide +kernel
theorem dX11_look_54 : decode cX11_look 54 = .ok (.getfield 39, 3) := by decide +kernel
theorem dX11_look_57 : decode cX11_look 57 = .ok (.aload_n 0, 1) := by decide +kernel
theorem dX11_look_58 : decode cX11_look 58 = .ok (.getfield 46, 3) := by decide +kernel
theorem dX11_look_61 : decode cX11_look 61 = .ok (.iload_n 1, 1) := by decide +kernel
theorem dX11_look_62 : decode cX11_look 62 = .ok (.iload 6, 2) := by decide +kernel
theorem dX11_look_64 : decode cX11_look 64 = .ok (.invokevirtual 163, 3) := by decide +kernel
theorem dX11_look_67 : decode cX11_look 67 = .ok (.iand, 1) := by decide +kernel
theorem dX11_look_68 : decode cX11_look 68 = .ok (.invokestatic 236, 3) := by decide +kernel
theorem dX11_look_71 : decode cX11_look 71 = .ok (.istore 7, 2) := by decide +kernel
theorem dX11_look_73 : decode cX11_look 73 = .ok (.iload 7, 2) := by decide +kernel
theorem dX11_look_75 : decode cX11_look 75 = .ok (.iload_n 3, 1) := by decide +kernel
theorem dX11_look_76 : decode cX11_look 76 = .ok (.iload 7, 2) := by decide +kernel
theorem dX11_look_78 : decode cX11_look 78 = .ok (.isub, 1) := by decide +kernel
theorem dX11_look_79 : decode cX11_look 79 = .ok (.invokestatic 241, 3) := by decide +kernel
theorem dX11_look_82 : decode cX11_look 82 = .ok (.istore 8, 2) := by decide +kernel
theorem dX11_look_84 : decode cX11_look 84 = .ok (.iload 8, 2) := by decide +kernel
theorem dX11_look_86 : decode cX11_look 86 = .ok (.iload 5, 2) := by decide +kernel
theorem dX11_look_88 : decode cX11_look 88 = .ok (.if_icmp .ge 11, 3) := by decide +kernel
theorem dX11_look_91 : decode cX11_look 91 = .ok (.iload 8, 2) := by decide +kernel
theorem dX11_look_93 : decode cX11_look 93 = .ok (.istore 5, 2) := by decide +kernel
theorem dX11_look_95 : decode cX11_look 95 = .ok (.iload 6, 2) := by decide +kernel
theorem dX11_look_97 : decode cX11_look 97 = .ok (.istore 4, 2) := by decide +kernel
theorem dX11_look_99 : decode cX11_look 99 = .ok (.iinc 6 1, 3) := by decide +kernel
theorem dX11_look_102 : decode cX11_look 102 = .ok (.goto (-62), 3) := by decide +kernel
theorem dX11_look_105 : decode cX11_look 105 = .ok (.iload 4, 2) := by decide +kernel
theorem dX11_look_107 : decode cX11_look 107 = .ok (.ireturn, 1) := by decide +kernel
theorem dX11_rate_0 : decode cX11_rate 0 = .ok (.iload_n 1, 1) := by decide +kernel
theorem dX11_rate_1 : decode cX11_rate 1 = .ok (.ifCond .lt 17, 3) := by decide +kernel
theorem dX11_rate_4 : decode cX11_rate 4 = .ok (.iload_n 1, 1) := by decide +kernel
theorem dX11_rate_5 : decode cX11_rate 5 = .ok (.bipush 6, 2) := by decide +kernel
theorem dX11_rate_7 : decode cX11_rate 7 = .ok (.if_icmp .ge 11, 3) := by decide +kernel
theorem dX11_rate_10 : decode cX11_rate 10 = .ok (.aload_n 0, 1) := by decide +kernel
theorem dX11_rate_11 : decode cX11_rate 11 = .ok (.iload_n 2, 1) := by decide +kernel
theorem dX11_rate_12 : decode cX11_rate 12 = .ok (.invokevirtual 122, 3) := by decide +kernel
theorem dX11_rate_15 : decode cX11_rate 15 = .ok (.ifCond .ne 6, 3) := by decide +kernel
theorem dX11_rate_18 : decode cX11_rate 18 = .ok (.ldc 244, 2) := by decide +kernel
theorem dX11_rate_20 : decode cX11_rate 20 = .ok (.ireturn, 1) := by decide +kernel
theorem dX11_rate_21 : decode cX11_rate 21 = .ok (.aload_n 0, 1) := by decide +kernel
theorem dX11_rate_22 : decode cX11_rate 22 = .ok (.getfield 26, 3) := by decide +kernel
theorem dX11_rate_25 : decode cX11_rate 25 = .ok (.iload_n 2, 1) := by decide +kernel
theorem dX11_rate_26 : decode cX11_rate 26 = .ok (.putfield 245, 3) := by decide +kernel
theorem dX11_rate_29 : decode cX11_rate 29 = .ok (.aload_n 0, 1) := by decide +kernel
theorem dX11_rate_30 : decode cX11_rate 30 = .ok (.getfield 26, 3) := by decide +kernel
theorem dX11_rate_33 : decode cX11_rate 33 = .ok (.aload_n 0, 1) := by decide +kernel
theorem dX11_rate_34 : decode cX11_rate 34 = .ok (.getfield 39, 3) := by decide +kernel
theorem dX11_rate_37 : decode cX11_rate 37 = .ok (.getfield 129, 3) := by decide +kernel
theorem dX11_rate_40 : decode cX11_rate 40 = .ok (.iload_n 2, 1) := by decide +kernel
theorem dX11_rate_41 : decode cX11_rate 41 = .ok (.iaload, 1) := by decide +kernel
theorem dX11_rate_42 : decode cX11_rate 42 = .ok (.putfield 248, 3) := by decide +kernel
theorem dX11_rate_45 : decode cX11_rate 45 = .ok (.aload_n 0, 1) := by decide +kernel
theorem dX11_rate_46 : decode cX11_rate 46 = .ok (.getfield 26, 3) := by decide +kernel
theorem dX11_rate_49 : decode cX11_rate 49 = .ok (.aload_n 0, 1) := by decide +kernel
theorem dX11_rate_50 : decode cX11_rate 50 = .ok (.getfield 39, 3) := by decide +kernel
theorem dX11_rate_53 : decode cX11_rate 53 = .ok (.aload_n 0, 1) := by decide +kernel
theorem dX11_rate_54 : decode cX11_rate 54 = .ok (.getfield 46, 3) := by decide +kernel
theorem dX11_rate_57 : decode cX11_rate 57 = .ok (.iload_n 2, 1) := by decide +kernel
theorem dX11_rate_58 : decode cX11_rate 58 = .ok (.invokevirtual 138, 3) := by decide +kernel
theorem dX11_rate_61 : decode cX11_rate 61 = .ok (.invokestatic 236, 3) := by decide +kernel
theorem dX11_rate_64 : decode cX11_rate 64 = .ok (.putfield 251, 3) := by decide +kernel
theorem dX11_rate_67 : decode cX11_rate 67 = .ok (.aload_n 0, 1) := by decide +kernel
theorem dX11_rate_68 : decode cX11_rate 68 = .ok (.getfield 26, 3) := by decide +kernel
theorem dX11_rate_71 : decode cX11_rate 71 = .ok (.aload_n 0, 1) := by decide +kernel
theorem dX11_rate_72 : decode cX11_rate 72 = .ok (.getfield 39, 3) := by decide +kernel
theorem dX11_rate_75 : decode cX11_rate 75 = .ok (.aload_n 0, 1) := by decide +kernel
theorem dX11_rate_76 : decode cX11_rate 76 = .ok (.getfield 46, 3) := by decide +kernel
theorem dX11_rate_79 : decode cX11_rate 79 = .ok (.iload_n 2, 1) := by decide +kernel
theorem dX11_rate_80 : decode cX11_rate 80 = .ok (.invokevirtual 142, 3) := by decide +kernel
theorem dX11_rate_83 : decode cX11_rate 83 = .ok (.invokestatic 236, 3) := by decide +kernel
theorem dX11_rate_86 : decode cX11_rate 86 = .ok (.putfield 253, 3) := by decide +kernel
theorem dX11_rate_89 : decode cX11_rate 89 = .ok (.aload_n 0, 1) := by decide +kernel
theorem dX11_rate_90 : decode cX11_rate 90 = .ok (.getfield 26, 3) := by decide +kernel
theorem dX11_rate_93 : decode cX11_rate 93 = .ok (.aload_n 0, 1) := by decide +kernel
theorem dX11_rate_94 : decode cX11_rate 94 = .ok (.getfield 46, 3) := by decide +kernel
theorem dX11_rate_97 : decode cX11_rate 97 = .ok (.getfield 160, 3) := by decide +kernel
theorem dX11_rate_100 : decode cX11_rate 100 = .ok (.putfield 255, 3) := by decide +kernel
theorem dX11_rate_103 : decode cX11_rate 103 = .ok (.aload_n 0, 1) := by decide +kernel
theorem dX11_rate_104 : decode cX11_rate 104 = .ok (.getfield 32, 3) := by decide +kernel
theorem dX11_rate_107 : decode cX11_rate 107 = .ok (.iload_n 1, 1) := by decide +kernel
theorem dX11_rate_108 : decode cX11_rate 108 = .ok (.aaload, 1) := by decide +kernel
theorem dX11_rate_109 : decode cX11_rate 109 = .ok (.aload_n 0, 1) := by decide +kernel
theorem dX11_rate_110 : decode cX11_rate 110 = .ok (.getfield 26, 3) := by decide +kernel
theorem dX11_rate_113 : decode cX11_rate 113 = .ok (.invokevirtual 256, 3) := by decide +kernel
theorem dX11_rate_116 : decode cX11_rate 116 = .ok (.ireturn, 1) := by decide +kernel
theorem dX11_keep_0 : decode cX11_keep 0 = .ok (.aload_n 0, 1) := by decide +kernel
theorem dX11_keep_1 : decode cX11_keep 1 = .ok (.iload_n 1, 1) := by decide +kernel
theorem dX11_keep_2 : decode cX11_keep 2 = .ok (.invokevirtual 260, 3) := by decide +kernel
theorem dX11_keep_5 : decode cX11_keep 5 = .ok (.ifCond .ne 5, 3) := by decide +kernel
theorem dX11_keep_8 : decode cX11_keep 8 = .ok (.iconst (-1), 1) := by decide +kernel
theorem dX11_keep_9 : decode cX11_keep 9 = .ok (.ireturn, 1) := by decide +kernel
theorem dX11_keep_10 : decode cX11_keep 10 = .ok (.aload_n 0, 1) := by decide +kernel
theorem dX11_keep_11 : decode cX11_keep 11 = .ok (.getfield 57, 3) := by decide +kernel
theorem dX11_keep_14 : decode cX11_keep 14 = .ok (.iload_n 1, 1) := by decide +kernel
theorem dX11_keep_15 : decode cX11_keep 15 = .ok (.aaload, 1) := by decide +kernel
theorem dX11_keep_16 : decode cX11_keep 16 = .ok (.aload_n 0, 1) := by decide +kernel
theorem dX11_keep_17 : decode cX11_keep 17 = .ok (.getfield 46, 3) := by decide +kernel
theorem dX11_keep_20 : decode cX11_keep 20 = .ok (.invokevirtual 112, 3) := by decide +kernel
theorem dX11_keep_23 : decode cX11_keep 23 = .ok (.aload_n 0, 1) := by decide +kernel
theorem dX11_keep_24 : decode cX11_keep 24 = .ok (.getfield 60, 3) := by decide +kernel
theorem dX11_keep_27 : decode cX11_keep 27 = .ok (.iload_n 1, 1) := by decide +kernel
theorem dX11_keep_28 : decode cX11_keep 28 = .ok (.iconst 1, 1) := by decide +kernel
theorem dX11_keep_29 : decode cX11_keep 29 = .ok (.bastore, 1) := by decide +kernel
theorem dX11_keep_30 : decode cX11_keep 30 = .ok (.aload_n 0, 1) := by decide +kernel
theorem dX11_keep_31 : decode cX11_keep 31 = .ok (.getfield 46, 3) := by decide +kernel
theorem dX11_keep_34 : decode cX11_keep 34 = .ok (.getfield 160, 3) := by decide +kernel
theorem dX11_keep_37 : decode cX11_keep 37 = .ok (.ireturn, 1) := by decide +kernel
theorem dX11_back_0 : decode cX11_back 0 = .ok (.aload_n 0, 1) := by decide +kernel
theorem dX11_back_1 : decode cX11_back 1 = .ok (.iload_n 1, 1) := by decide +kernel
theorem dX11_back_2 : decode cX11_back 2 = .ok (.invokevirtual 260, 3) := by decide +kernel
theorem dX11_back_5 : decode cX11_back 5 = .ok (.ifCond .ne 5, 3) := by decide +kernel
theorem dX11_back_8 : decode cX11_back 8 = .ok (.iconst (-1), 1) := by decide +kernel
theorem dX11_back_9 : decode cX11_back 9 = .ok (.ireturn, 1) := by decide +kernel
theorem dX11_back_10 : decode cX11_back 10 = .ok (.aload_n 0, 1) := by decide +kernel
theorem dX11_back_11 : decode cX11_back 11 = .ok (.getfield 60, 3) := by decide +kernel
theorem dX11_back_14 : decode cX11_back 14 = .ok (.iload_n 1, 1) := by decide +kernel
theorem dX11_back_15 : decode cX11_back 15 = .ok (.baload, 1) := by decide +kernel
theorem dX11_back_16 : decode cX11_back 16 = .ok (.ifCond .ne 6, 3) := by decide +kernel
theorem dX11_back_19 : decode cX11_back 19 = .ok (.bipush (-2), 2) := by decide +kernel
theorem dX11_back_21 : decode cX11_back 21 = .ok (.ireturn, 1) := by decide +kernel
theorem dX11_back_22 : decode cX11_back 22 = .ok (.aload_n 0, 1) := by decide +kernel
theorem dX11_back_23 : decode cX11_back 23 = .ok (.getfield 46, 3) := by decide +kernel
theorem dX11_back_26 : decode cX11_back 26 = .ok (.aload_n 0, 1) := by decide +kernel
theorem dX11_back_27 : decode cX11_back 27 = .ok (.getfield 57, 3) := by decide +kernel
theorem dX11_back_30 : decode cX11_back 30 = .ok (.iload_n 1, 1) := by decide +kernel
theorem dX11_back_31 : decode cX11_back 31 = .ok (.aaload, 1) := by decide +kernel
theorem dX11_back_32 : decode cX11_back 32 = .ok (.invokevirtual 112, 3) := by decide +kernel
theorem dX11_back_35 : decode cX11_back 35 = .ok (.aload_n 0, 1) := by decide +kernel
theorem dX11_back_36 : decode cX11_back 36 = .ok (.iconst 0, 1) := by decide +kernel
theorem dX11_back_37 : decode cX11_back 37 = .ok (.putfield 116, 3) := by decide +kernel
theorem dX11_back_40 : decode cX11_back 40 = .ok (.aload_n 0, 1) := by decide +kernel
theorem dX11_back_41 : decode cX11_back 41 = .ok (.getfield 46, 3) := by decide +kernel
theorem dX11_back_44 : decode cX11_back 44 = .ok (.getfield 160, 3) := by decide +kernel
theorem dX11_back_47 : decode cX11_back 47 = .ok (.ireturn, 1) := by decide +kernel
theorem dX11_count_0 : decode cX11_count 0 = .ok (.iload_n 1, 1) := by decide +kernel
theorem dX11_count_1 : decode cX11_count 1 = .ok (.tableswitch 72 0 4 #[35, 43, 51, 59, 64], 35) := by decide +kernel
theorem dX11_count_36 : decode cX11_count 36 = .ok (.aload_n 0, 1) := by decide +kernel
theorem dX11_count_37 : decode cX11_count 37 = .ok (.getfield 39, 3) := by decide +kernel
theorem dX11_count_40 : decode cX11_count 40 = .ok (.getfield 181, 3) := by decide +kernel
theorem dX11_count_43 : decode cX11_count 43 = .ok (.ireturn, 1) := by decide +kernel
theorem dX11_count_44 : decode cX11_count 44 = .ok (.aload_n 0, 1) := by decide +kernel
theorem dX11_count_45 : decode cX11_count 45 = .ok (.getfield 39, 3) := by decide +kernel
theorem dX11_count_48 : decode cX11_count 48 = .ok (.getfield 227, 3) := by decide +kernel
theorem dX11_count_51 : decode cX11_count 51 = .ok (.ireturn, 1) := by decide +kernel
theorem dX11_count_52 : decode cX11_count 52 = .ok (.aload_n 0, 1) := by decide +kernel
theorem dX11_count_53 : decode cX11_count 53 = .ok (.getfield 39, 3) := by decide +kernel
theorem dX11_count_56 : decode cX11_count 56 = .ok (.getfield 263, 3) := by decide +kernel
theorem dX11_count_59 : decode cX11_count 59 = .ok (.ireturn, 1) := by decide +kernel
theorem dX11_count_60 : decode cX11_count 60 = .ok (.aload_n 0, 1) := by decide +kernel
theorem dX11_count_61 : decode cX11_count 61 = .ok (.getfield 119, 3) := by decide +kernel
theorem dX11_count_64 : decode cX11_count 64 = .ok (.ireturn, 1) := by decide +kernel
theorem dX11_count_65 : decode cX11_count 65 = .ok (.aload_n 0, 1) := by decide +kernel
theorem dX11_count_66 : decode cX11_count 66 = .ok (.getfield 10, 3) := by decide +kernel
theorem dX11_count_69 : decode cX11_count 69 = .ok (.getfield 93, 3) := by decide +kernel
theorem dX11_count_72 : decode cX11_count 72 = .ok (.ireturn, 1) := by decide +kernel
theorem dX11_count_73 : decode cX11_count 73 = .ok (.iconst (-1), 1) := by decide +kernel
theorem dX11_count_74 : decode cX11_count 74 = .ok (.ireturn, 1) := by decide +kernel
theorem dX11_trace_0 : decode cX11_trace 0 = .ok (.aload_n 0, 1) := by decide +kernel
theorem dX11_trace_1 : decode cX11_trace 1 = .ok (.getfield 26, 3) := by decide +kernel
theorem dX11_trace_4 : decode cX11_trace 4 = .ok (.getfield 266, 3) := by decide +kernel
theorem dX11_trace_7 : decode cX11_trace 7 = .ok (.lreturn, 1) := by decide +kernel
theorem dX11_isGuest_0 : decode cX11_isGuest 0 = .ok (.iload_n 1, 1) := by decide +kernel
theorem dX11_isGuest_1 : decode cX11_isGuest 1 = .ok (.ifCond .lt 18, 3) := by decide +kernel
theorem dX11_isGuest_4 : decode cX11_isGuest 4 = .ok (.iload_n 1, 1) := by decide +kernel
theorem dX11_isGuest_5 : decode cX11_isGuest 5 = .ok (.aload_n 0, 1) := by decide +kernel
theorem dX11_isGuest_6 : decode cX11_isGuest 6 = .ok (.getfield 39, 3) := by decide +kernel
theorem dX11_isGuest_9 : decode cX11_isGuest 9 = .ok (.getfield 227, 3) := by decide +kernel
theorem dX11_isGuest_12 : decode cX11_isGuest 12 = .ok (.if_icmp .ge 7, 3) := by decide +kernel
theorem dX11_isGuest_15 : decode cX11_isGuest 15 = .ok (.iconst 1, 1) := by decide +kernel
theorem dX11_isGuest_16 : decode cX11_isGuest 16 = .ok (.goto 4, 3) := by decide +kernel
theorem dX11_isGuest_19 : decode cX11_isGuest 19 = .ok (.iconst 0, 1) := by decide +kernel
theorem dX11_isGuest_20 : decode cX11_isGuest 20 = .ok (.ireturn, 1) := by decide +kernel
theorem dX11_isDish_0 : decode cX11_isDish 0 = .ok (.iload_n 1, 1) := by decide +kernel
theorem dX11_isDish_1 : decode cX11_isDish 1 = .ok (.ifCond .lt 18, 3) := by decide +kernel
theorem dX11_isDish_4 : decode cX11_isDish 4 = .ok (.iload_n 1, 1) := by decide +kernel
theorem dX11_isDish_5 : decode cX11_isDish 5 = .ok (.aload_n 0, 1) := by decide +kernel
theorem dX11_isDish_6 : decode cX11_isDish 6 = .ok (.getfield 39, 3) := by decide +kernel
theorem dX11_isDish_9 : decode cX11_isDish 9 = .ok (.getfield 263, 3) := by decide +kernel
theorem dX11_isDish_12 : decode cX11_isDish 12 = .ok (.if_icmp .ge 7, 3) := by decide +kernel
theorem dX11_isDish_15 : decode cX11_isDish 15 = .ok (.iconst 1, 1) := by decide +kernel
theorem dX11_isDish_16 : decode cX11_isDish 16 = .ok (.goto 4, 3) := by decide +kernel
theorem dX11_isDish_19 : decode cX11_isDish 19 = .ok (.iconst 0, 1) := by decide +kernel
theorem dX11_isDish_20 : decode cX11_isDish 20 = .ok (.ireturn, 1) := by decide +kernel
theorem dX11_isTurn_0 : decode cX11_isTurn 0 = .ok (.iload_n 1, 1) := by decide +kernel
theorem dX11_isTurn_1 : decode cX11_isTurn 1 = .ok (.ifCond .lt 18, 3) := by decide +kernel
theorem dX11_isTurn_4 : decode cX11_isTurn 4 = .ok (.iload_n 1, 1) := by decide +kernel
theorem dX11_isTurn_5 : decode cX11_isTurn 5 = .ok (.aload_n 0, 1) := by decide +kernel
theorem dX11_isTurn_6 : decode cX11_isTurn 6 = .ok (.getfield 39, 3) := by decide +kernel
theorem dX11_isTurn_9 : decode cX11_isTurn 9 = .ok (.getfield 181, 3) := by decide +kernel
theorem dX11_isTurn_12 : decode cX11_isTurn 12 = .ok (.if_icmp .ge 7, 3) := by decide +kernel
theorem dX11_isTurn_15 : decode cX11_isTurn 15 = .ok (.iconst 1, 1) := by decide +kernel
theorem dX11_isTurn_16 : decode cX11_isTurn 16 = .ok (.goto 4, 3) := by decide +kernel
theorem dX11_isTurn_19 : decode cX11_isTurn 19 = .ok (.iconst 0, 1) := by decide +kernel
theorem dX11_isTurn_20 : decode cX11_isTurn 20 = .ok (.ireturn, 1) := by decide +kernel
theorem dX11_isImage_0 : decode cX11_isImage 0 = .ok (.iload_n 1, 1) := by decide +kernel
theorem dX11_isImage_1 : decode cX11_isImage 1 = .ok (.ifCond .lt 12, 3) := by decide +kernel
theorem dX11_isImage_4 : decode cX11_isImage 4 = .ok (.iload_n 1, 1) := by decide +kernel
theorem dX11_isImage_5 : decode cX11_isImage 5 = .ok (.iconst 2, 1) := by decide +kernel
theorem dX11_isImage_6 : decode cX11_isImage 6 = .ok (.if_icmp .ge 7, 3) := by decide +kernel
theorem dX11_isImage_9 : decode cX11_isImage 9 = .ok (.iconst 1, 1) := by decide +kernel
theorem dX11_isImage_10 : decode cX11_isImage 10 = .ok (.goto 4, 3) := by decide +kernel
theorem dX11_isImage_13 : decode cX11_isImage 13 = .ok (.iconst 0, 1) := by decide +kernel
theorem dX11_isImage_14 : decode cX11_isImage 14 = .ok (.ireturn, 1) := by decide +kernel
theorem dX11_isBit_0 : decode cX11_isBit 0 = .ok (.iload_n 0, 1) := by decide +kernel
theorem dX11_isBit_1 : decode cX11_isBit 1 = .ok (.ifCond .eq 8, 3) := by decide +kernel
theorem dX11_isBit_4 : decode cX11_isBit 4 = .ok (.iload_n 0, 1) := by decide +kernel
theorem dX11_isBit_5 : decode cX11_isBit 5 = .ok (.iconst 1, 1) := by decide +kernel
theorem dX11_isBit_6 : decode cX11_isBit 6 = .ok (.if_icmp .ne 7, 3) := by decide +kernel
theorem dX11_isBit_9 : decode cX11_isBit 9 = .ok (.iconst 1, 1) := by decide +kernel
theorem dX11_isBit_10 : decode cX11_isBit 10 = .ok (.goto 4, 3) := by decide +kernel
theorem dX11_isBit_13 : decode cX11_isBit 13 = .ok (.iconst 0, 1) := by decide +kernel
theorem dX11_isBit_14 : decode cX11_isBit 14 = .ok (.ireturn, 1) := by decide +kernel
theorem dX11_isEmpty_0 : decode cX11_isEmpty 0 = .ok (.iconst 0, 1) := by decide +kernel
theorem dX11_isEmpty_1 : decode cX11_isEmpty 1 = .ok (.istore_n 2, 1) := by decide +kernel
theorem dX11_isEmpty_2 : decode cX11_isEmpty 2 = .ok (.iload_n 2, 1) := by decide +kernel
theorem dX11_isEmpty_3 : decode cX11_isEmpty 3 = .ok (.aload_n 0, 1) := by decide +kernel
theorem dX11_isEmpty_4 : decode cX11_isEmpty 4 = .ok (.getfield 39, 3) := by decide +kernel
theorem dX11_isEmpty_7 : decode cX11_isEmpty 7 = .ok (.getfield 263, 3) := by decide +kernel
theorem dX11_isEmpty_10 : decode cX11_isEmpty 10 = .ok (.if_icmp .ge 24, 3) := by decide +kernel
theorem dX11_isEmpty_13 : decode cX11_isEmpty 13 = .ok (.aload_n 0, 1) := by decide +kernel
theorem dX11_isEmpty_14 : decode cX11_isEmpty 14 = .ok (.getfield 46, 3) := by decide +kernel
theorem dX11_isEmpty_17 : decode cX11_isEmpty 17 = .ok (.getfield 148, 3) := by decide +kernel
theorem dX11_isEmpty_20 : decode cX11_isEmpty 20 = .ok (.iload_n 2, 1) := by decide +kernel
theorem dX11_isEmpty_21 : decode cX11_isEmpty 21 = .ok (.iaload, 1) := by decide +kernel
theorem dX11_isEmpty_22 : decode cX11_isEmpty 22 = .ok (.iload_n 1, 1) := by decide +kernel
theorem dX11_isEmpty_23 : decode cX11_isEmpty 23 = .ok (.if_icmp .ne 5, 3) := by decide +kernel
theorem dX11_isEmpty_26 : decode cX11_isEmpty 26 = .ok (.iconst 0, 1) := by decide +kernel
theorem dX11_isEmpty_27 : decode cX11_isEmpty 27 = .ok (.ireturn, 1) := by decide +kernel
theorem dX11_isEmpty_28 : decode cX11_isEmpty 28 = .ok (.iinc 2 1, 3) := by decide +kernel
theorem dX11_isEmpty_31 : decode cX11_isEmpty 31 = .ok (.goto (-29), 3) := by decide +kernel
theorem dX11_isEmpty_34 : decode cX11_isEmpty 34 = .ok (.iconst 1, 1) := by decide +kernel
theorem dX11_isEmpty_35 : decode cX11_isEmpty 35 = .ok (.ireturn, 1) := by decide +kernel
theorem dX11_allPortions_0 : decode cX11_allPortions 0 = .ok (.iconst 0, 1) := by decide +kernel
theorem dX11_allPortions_1 : decode cX11_allPortions 1 = .ok (.istore_n 1, 1) := by decide +kernel
theorem dX11_allPortions_2 : decode cX11_allPortions 2 = .ok (.iconst 0, 1) := by decide +kernel
theorem dX11_allPortions_3 : decode cX11_allPortions 3 = .ok (.istore_n 2, 1) := by decide +kernel
theorem dX11_allPortions_4 : decode cX11_allPortions 4 = .ok (.iload_n 2, 1) := by decide +kernel
theorem dX11_allPortions_5 : decode cX11_allPortions 5 = .ok (.aload_n 0, 1) := by decide +kernel
theorem dX11_allPortions_6 : decode cX11_allPortions 6 = .ok (.getfield 39, 3) := by decide +kernel
theorem dX11_allPortions_9 : decode cX11_allPortions 9 = .ok (.getfield 263, 3) := by decide +kernel
theorem dX11_allPortions_12 : decode cX11_allPortions 12 = .ok (.if_icmp .ge 21, 3) := by decide +kernel
theorem dX11_allPortions_15 : decode cX11_allPortions 15 = .ok (.iload_n 1, 1) := by decide +kernel
theorem dX11_allPortions_16 : decode cX11_allPortions 16 = .ok (.aload_n 0, 1) := by decide +kernel
theorem dX11_allPortions_17 : decode cX11_allPortions 17 = .ok (.getfield 46, 3) := by decide +kernel
theorem dX11_allPortions_20 : decode cX11_allPortions 20 = .ok (.getfield 151, 3) := by decide +kernel
theorem dX11_allPortions_23 : decode cX11_allPortions 23 = .ok (.iload_n 2, 1) := by decide +kernel
theorem dX11_allPortions_24 : decode cX11_allPortions 24 = .ok (.iaload, 1) := by decide +kernel
theorem dX11_allPortions_25 : decode cX11_allPortions 25 = .ok (.iadd, 1) := by decide +kernel
theorem dX11_allPortions_26 : decode cX11_allPortions 26 = .ok (.istore_n 1, 1) := by decide +kernel
theorem dX11_allPortions_27 : decode cX11_allPortions 27 = .ok (.iinc 2 1, 3) := by decide +kernel
theorem dX11_allPortions_30 : decode cX11_allPortions 30 = .ok (.goto (-26), 3) := by decide +kernel
theorem dX11_allPortions_33 : decode cX11_allPortions 33 = .ok (.iload_n 1, 1) := by decide +kernel
theorem dX11_allPortions_34 : decode cX11_allPortions 34 = .ok (.ireturn, 1) := by decide +kernel
theorem dX11_remember_0 : decode cX11_remember 0 = .ok (.aload_n 0, 1) := by decide +kernel
theorem dX11_remember_1 : decode cX11_remember 1 = .ok (.getfield 116, 3) := by decide +kernel
theorem dX11_remember_4 : decode cX11_remember 4 = .ok (.bipush 10, 2) := by decide +kernel
theorem dX11_remember_6 : decode cX11_remember 6 = .ok (.if_icmp .lt 52, 3) := by decide +kernel
theorem dX11_remember_9 : decode cX11_remember 9 = .ok (.aload_n 0, 1) := by decide +kernel
theorem dX11_remember_10 : decode cX11_remember 10 = .ok (.getfield 53, 3) := by decide +kernel
theorem dX11_remember_13 : decode cX11_remember 13 = .ok (.iconst 0, 1) := by decide +kernel
theorem dX11_remember_14 : decode cX11_remember 14 = .ok (.aaload, 1) := by decide +kernel
theorem dX11_remember_15 : decode cX11_remember 15 = .ok (.astore_n 1, 1) := by decide +kernel
theorem dX11_remember_16 : decode cX11_remember 16 = .ok (.iconst 1, 1) := by decide +kernel
theorem dX11_remember_17 : decode cX11_remember 17 = .ok (.istore_n 2, 1) := by decide +kernel
theorem dX11_remember_18 : decode cX11_remember 18 = .ok (.iload_n 2, 1) := by decide +kernel
theorem dX11_remember_19 : decode cX11_remember 19 = .ok (.bipush 10, 2) := by decide +kernel
theorem dX11_remember_21 : decode cX11_remember 21 = .ok (.if_icmp .ge 23, 3) := by decide +kernel
theorem dX11_remember_24 : decode cX11_remember 24 = .ok (.aload_n 0, 1) := by decide +kernel
theorem dX11_remember_25 : decode cX11_remember 25 = .ok (.getfield 53, 3) := by decide +kernel
theorem dX11_remember_28 : decode cX11_remember 28 = .ok (.iload_n 2, 1) := by decide +kernel
theorem dX11_remember_29 : decode cX11_remember 29 = .ok (.iconst 1, 1) := by decide +kernel
theorem dX11_remember_30 : decode cX11_remember 30 = .ok (.isub, 1) := by decide +kernel
theorem dX11_remember_31 : decode cX11_remember 31 = .ok (.aload_n 0, 1) := by decide +kernel
theorem dX11_remember_32 : decode cX11_remember 32 = .ok (.getfield 53, 3) := by decide +kernel
theorem dX11_remember_35 : decode cX11_remember 35 = .ok (.iload_n 2, 1) := by decide +kernel
theorem dX11_remember_36 : decode cX11_remember 36 = .ok (.aaload, 1) := by decide +kernel
theorem dX11_remember_37 : decode cX11_remember 37 = .ok (.aastore, 1) := by decide +kernel
theorem dX11_remember_38 : decode cX11_remember 38 = .ok (.iinc 2 1, 3) := by decide +kernel
theorem dX11_remember_41 : decode cX11_remember 41 = .ok (.goto (-23), 3) := by decide +kernel
theorem dX11_remember_44 : decode cX11_remember 44 = .ok (.aload_n 0, 1) := by decide +kernel
theorem dX11_remember_45 : decode cX11_remember 45 = .ok (.getfield 53, 3) := by decide +kernel
theorem dX11_remember_48 : decode cX11_remember 48 = .ok (.bipush 9, 2) := by decide +kernel
theorem dX11_remember_50 : decode cX11_remember 50 = .ok (.aload_n 1, 1) := by decide +kernel
theorem dX11_remember_51 : decode cX11_remember 51 = .ok (.aastore, 1) := by decide +kernel
theorem dX11_remember_52 : decode cX11_remember 52 = .ok (.aload_n 0, 1) := by decide +kernel
theorem dX11_remember_53 : decode cX11_remember 53 = .ok (.bipush 9, 2) := by decide +kernel
theorem dX11_remember_55 : decode cX11_remember 55 = .ok (.putfield 116, 3) := by decide +kernel
theorem dX11_remember_58 : decode cX11_remember 58 = .ok (.aload_n 0, 1) := by decide +kernel
theorem dX11_remember_59 : decode cX11_remember 59 = .ok (.getfield 53, 3) := by decide +kernel
theorem dX11_remember_62 : decode cX11_remember 62 = .ok (.aload_n 0, 1) := by decide +kernel
theorem dX11_remember_63 : decode cX11_remember 63 = .ok (.getfield 116, 3) := by decide +kernel
theorem dX11_remember_66 : decode cX11_remember 66 = .ok (.aaload, 1) := by decide +kernel
theorem dX11_remember_67 : decode cX11_remember 67 = .ok (.aload_n 0, 1) := by decide +kernel
theorem dX11_remember_68 : decode cX11_remember 68 = .ok (.getfield 46, 3) := by decide +kernel
theorem dX11_remember_71 : decode cX11_remember 71 = .ok (.invokevirtual 112, 3) := by decide +kernel
theorem dX11_remember_74 : decode cX11_remember 74 = .ok (.aload_n 0, 1) := by decide +kernel
theorem dX11_remember_75 : decode cX11_remember 75 = .ok (.dup, 1) := by decide +kernel
theorem dX11_remember_76 : decode cX11_remember 76 = .ok (.getfield 116, 3) := by decide +kernel
theorem dX11_remember_79 : decode cX11_remember 79 = .ok (.iconst 1, 1) := by decide +kernel
theorem dX11_remember_80 : decode cX11_remember 80 = .ok (.iadd, 1) := by decide +kernel
theorem dX11_remember_81 : decode cX11_remember 81 = .ok (.putfield 116, 3) := by decide +kernel
theorem dX11_remember_84 : decode cX11_remember 84 = .ok (.return_, 1) := by decide +kernel
theorem dX11_spill_0 : decode cX11_spill 0 = .ok (.iconst 0, 1) := by decide +kernel
theorem dX11_spill_1 : decode cX11_spill 1 = .ok (.istore_n 1, 1) := by decide +kernel
theorem dX11_spill_2 : decode cX11_spill 2 = .ok (.iconst 0, 1) := by decide +kernel
theorem dX11_spill_3 : decode cX11_spill 3 = .ok (.istore_n 2, 1) := by decide +kernel
theorem dX11_spill_4 : decode cX11_spill 4 = .ok (.iload_n 2, 1) := by decide +kernel
theorem dX11_spill_5 : decode cX11_spill 5 = .ok (.aload_n 0, 1) := by decide +kernel
theorem dX11_spill_6 : decode cX11_spill 6 = .ok (.getfield 39, 3) := by decide +kernel
theorem dX11_spill_9 : decode cX11_spill 9 = .ok (.getfield 263, 3) := by decide +kernel
theorem dX11_spill_12 : decode cX11_spill 12 = .ok (.if_icmp .ge 50, 3) := by decide +kernel
theorem dX11_spill_15 : decode cX11_spill 15 = .ok (.aload_n 0, 1) := by decide +kernel
theorem dX11_spill_16 : decode cX11_spill 16 = .ok (.getfield 39, 3) := by decide +kernel
theorem dX11_spill_19 : decode cX11_spill 19 = .ok (.getfield 154, 3) := by decide +kernel
theorem dX11_spill_22 : decode cX11_spill 22 = .ok (.iload_n 2, 1) := by decide +kernel
theorem dX11_spill_23 : decode cX11_spill 23 = .ok (.iaload, 1) := by decide +kernel
theorem dX11_spill_24 : decode cX11_spill 24 = .ok (.iconst 1, 1) := by decide +kernel
theorem dX11_spill_25 : decode cX11_spill 25 = .ok (.if_icmp .ne 31, 3) := by decide +kernel
theorem dX11_spill_28 : decode cX11_spill 28 = .ok (.aload_n 0, 1) := by decide +kernel
theorem dX11_spill_29 : decode cX11_spill 29 = .ok (.getfield 46, 3) := by decide +kernel
theorem dX11_spill_32 : decode cX11_spill 32 = .ok (.getfield 151, 3) := by decide +kernel
theorem dX11_spill_35 : decode cX11_spill 35 = .ok (.iload_n 2, 1) := by decide +kernel
theorem dX11_spill_36 : decode cX11_spill 36 = .ok (.iaload, 1) := by decide +kernel
theorem dX11_spill_37 : decode cX11_spill 37 = .ok (.ifCond .le 19, 3) := by decide +kernel
theorem dX11_spill_40 : decode cX11_spill 40 = .ok (.aload_n 0, 1) := by decide +kernel
theorem dX11_spill_41 : decode cX11_spill 41 = .ok (.getfield 46, 3) := by decide +kernel
theorem dX11_spill_44 : decode cX11_spill 44 = .ok (.getfield 151, 3) := by decide +kernel
theorem dX11_spill_47 : decode cX11_spill 47 = .ok (.iload_n 2, 1) := by decide +kernel
theorem dX11_spill_48 : decode cX11_spill 48 = .ok (.dup2, 1) := by decide +kernel
theorem dX11_spill_49 : decode cX11_spill 49 = .ok (.iaload, 1) := by decide +kernel
theorem dX11_spill_50 : decode cX11_spill 50 = .ok (.iconst 1, 1) := by decide +kernel
theorem dX11_spill_51 : decode cX11_spill 51 = .ok (.isub, 1) := by decide +kernel
theorem dX11_spill_52 : decode cX11_spill 52 = .ok (.iastore, 1) := by decide +kernel
theorem dX11_spill_53 : decode cX11_spill 53 = .ok (.iinc 1 1, 3) := by decide +kernel
theorem dX11_spill_56 : decode cX11_spill 56 = .ok (.iinc 2 1, 3) := by decide +kernel
theorem dX11_spill_59 : decode cX11_spill 59 = .ok (.goto (-55), 3) := by decide +kernel
theorem dX11_spill_62 : decode cX11_spill 62 = .ok (.iload_n 1, 1) := by decide +kernel
theorem dX11_spill_63 : decode cX11_spill 63 = .ok (.ireturn, 1) := by decide +kernel
theorem dX11_swap_0 : decode cX11_swap 0 = .ok (.bipush (-9), 2) := by decide +kernel
theorem dX11_swap_2 : decode cX11_swap 2 = .ok (.istore_n 1, 1) := by decide +kernel
theorem dX11_swap_3 : decode cX11_swap 3 = .ok (.aload_n 0, 1) := by decide +kernel
theorem dX11_swap_4 : decode cX11_swap 4 = .ok (.getfield 39, 3) := by decide +kernel
theorem dX11_swap_7 : decode cX11_swap 7 = .ok (.aload_n 0, 1) := by decide +kernel
theorem dX11_swap_8 : decode cX11_swap 8 = .ok (.getfield 46, 3) := by decide +kernel
theorem dX11_swap_11 : decode cX11_swap 11 = .ok (.invokevirtual 170, 3) := by decide +kernel
theorem dX11_swap_14 : decode cX11_swap 14 = .ok (.istore_n 2, 1) := by decide +kernel
theorem dX11_swap_15 : decode cX11_swap 15 = .ok (.aload_n 0, 1) := by decide +kernel
theorem dX11_swap_16 : decode cX11_swap 16 = .ok (.getfield 50, 3) := by decide +kernel
theorem dX11_swap_19 : decode cX11_swap 19 = .ok (.aload_n 0, 1) := by decide +kernel
theorem dX11_swap_20 : decode cX11_swap 20 = .ok (.getfield 46, 3) := by decide +kernel
theorem dX11_swap_23 : decode cX11_swap 23 = .ok (.invokevirtual 112, 3) := by decide +kernel
theorem dX11_swap_26 : decode cX11_swap 26 = .ok (.iconst 0, 1) := by decide +kernel
theorem dX11_swap_27 : decode cX11_swap 27 = .ok (.istore_n 3, 1) := by decide +kernel
theorem dX11_swap_28 : decode cX11_swap 28 = .ok (.iload_n 3, 1) := by decide +kernel
theorem dX11_swap_29 : decode cX11_swap 29 = .ok (.aload_n 0, 1) := by decide +kernel
theorem dX11_swap_30 : decode cX11_swap 30 = .ok (.getfield 39, 3) := by decide +kernel
theorem dX11_swap_33 : decode cX11_swap 33 = .ok (.getfield 227, 3) := by decide +kernel
theorem dX11_swap_36 : decode cX11_swap 36 = .ok (.if_icmp .ge 82, 3) := by decide +kernel
theorem dX11_swap_39 : decode cX11_swap 39 = .ok (.iload_n 3, 1) := by decide +kernel
theorem dX11_swap_40 : decode cX11_swap 40 = .ok (.iconst 1, 1) := by decide +kernel
theorem dX11_swap_41 : decode cX11_swap 41 = .ok (.iadd, 1) := by decide +kernel
theorem dX11_swap_42 : decode cX11_swap 42 = .ok (.istore 4, 2) := by decide +kernel
theorem dX11_swap_44 : decode cX11_swap 44 = .ok (.iload 4, 2) := by decide +kernel
theorem dX11_swap_46 : decode cX11_swap 46 = .ok (.aload_n 0, 1) := by decide +kernel
theorem dX11_swap_47 : decode cX11_swap 47 = .ok (.getfield 39, 3) := by decide +kernel
theorem dX11_swap_50 : decode cX11_swap 50 = .ok (.getfield 227, 3) := by decide +kernel
theorem dX11_swap_53 : decode cX11_swap 53 = .ok (.if_icmp .ge 59, 3) := by decide +kernel
theorem dX11_swap_56 : decode cX11_swap 56 = .ok (.aload_n 0, 1) := by decide +kernel
theorem dX11_swap_57 : decode cX11_swap 57 = .ok (.getfield 50, 3) := by decide +kernel
theorem dX11_swap_60 : decode cX11_swap 60 = .ok (.iload_n 3, 1) := by decide +kernel
theorem dX11_swap_61 : decode cX11_swap 61 = .ok (.iload 4, 2) := by decide +kernel
theorem dX11_swap_63 : decode cX11_swap 63 = .ok (.invokevirtual 207, 3) := by decide +kernel
theorem dX11_swap_66 : decode cX11_swap 66 = .ok (.aload_n 0, 1) := by decide +kernel
theorem dX11_swap_67 : decode cX11_swap 67 = .ok (.getfield 39, 3) := by decide +kernel
theorem dX11_swap_70 : decode cX11_swap 70 = .ok (.aload_n 0, 1) := by decide +kernel
theorem dX11_swap_71 : decode cX11_swap 71 = .ok (.getfield 50, 3) := by decide +kernel
theorem dX11_swap_74 : decode cX11_swap 74 = .ok (.invokevirtual 170, 3) := by decide +kernel
theorem dX11_swap_77 : decode cX11_swap 77 = .ok (.istore 5, 2) := by decide +kernel
theorem dX11_swap_79 : decode cX11_swap 79 = .ok (.iload 5, 2) := by decide +kernel
theorem dX11_swap_81 : decode cX11_swap 81 = .ok (.iload_n 2, 1) := by decide +kernel
theorem dX11_swap_82 : decode cX11_swap 82 = .ok (.if_icmp .ge 14, 3) := by decide +kernel
theorem dX11_swap_85 : decode cX11_swap 85 = .ok (.iload 5, 2) := by decide +kernel
theorem dX11_swap_87 : decode cX11_swap 87 = .ok (.istore_n 2, 1) := by decide +kernel
theorem dX11_swap_88 : decode cX11_swap 88 = .ok (.bipush 10, 2) := by decide +kernel
theorem dX11_swap_90 : decode cX11_swap 90 = .ok (.iload_n 3, 1) := by decide +kernel
theorem dX11_swap_91 : decode cX11_swap 91 = .ok (.imul, 1) := by decide +kernel
theorem dX11_swap_92 : decode cX11_swap 92 = .ok (.iload 4, 2) := by decide +kernel
theorem dX11_swap_94 : decode cX11_swap 94 = .ok (.iadd, 1) := by decide +kernel
theorem dX11_swap_95 : decode cX11_swap 95 = .ok (.istore_n 1, 1) := by decide +kernel
theorem dX11_swap_96 : decode cX11_swap 96 = .ok (.aload_n 0, 1) := by decide +kernel
theorem dX11_swap_97 : decode cX11_swap 97 = .ok (.getfield 50, 3) := by decide +kernel
theorem dX11_swap_100 : decode cX11_swap 100 = .ok (.iload_n 3, 1) := by decide +kernel
theorem dX11_swap_101 : decode cX11_swap 101 = .ok (.iload 4, 2) := by decide +kernel
theorem dX11_swap_103 : decode cX11_swap 103 = .ok (.invokevirtual 207, 3) := by decide +kernel
theorem dX11_swap_106 : decode cX11_swap 106 = .ok (.iinc 4 1, 3) := by decide +kernel
theorem dX11_swap_109 : decode cX11_swap 109 = .ok (.goto (-65), 3) := by decide +kernel
theorem dX11_swap_112 : decode cX11_swap 112 = .ok (.iinc 3 1, 3) := by decide +kernel
theorem dX11_swap_115 : decode cX11_swap 115 = .ok (.goto (-87), 3) := by decide +kernel
theorem dX11_swap_118 : decode cX11_swap 118 = .ok (.iload_n 1, 1) := by decide +kernel
theorem dX11_swap_119 : decode cX11_swap 119 = .ok (.ireturn, 1) := by decide +kernel
theorem dX11_spreadChances_0 : decode cX11_spreadChances 0 = .ok (.aload_n 0, 1) := by decide +kernel
theorem dX11_spreadChances_1 : decode cX11_spreadChances 1 = .ok (.getfield 74, 3) := by decide +kernel
theorem dX11_spreadChances_4 : decode cX11_spreadChances 4 = .ok (.iconst 0, 1) := by decide +kernel
theorem dX11_spreadChances_5 : decode cX11_spreadChances 5 = .ok (.invokestatic 270, 3) := by decide +kernel
theorem dX11_spreadChances_8 : decode cX11_spreadChances 8 = .ok (.aload_n 0, 1) := by decide +kernel
theorem dX11_spreadChances_9 : decode cX11_spreadChances 9 = .ok (.getfield 74, 3) := by decide +kernel
theorem dX11_spreadChances_12 : decode cX11_spreadChances 12 = .ok (.aload_n 0, 1) := by decide +kernel
theorem dX11_spreadChances_13 : decode cX11_spreadChances 13 = .ok (.getfield 46, 3) := by decide +kernel
theorem dX11_spreadChances_16 : decode cX11_spreadChances 16 = .ok (.getfield 160, 3) := by decide +kernel
theorem dX11_spreadChances_19 : decode cX11_spreadChances 19 = .ok (.iconst 1, 1) := by decide +kernel
theorem dX11_spreadChances_20 : decode cX11_spreadChances 20 = .ok (.iastore, 1) := by decide +kernel
theorem dX11_spreadChances_21 : decode cX11_spreadChances 21 = .ok (.iconst 1, 1) := by decide +kernel
theorem dX11_spreadChances_22 : decode cX11_spreadChances 22 = .ok (.istore_n 2, 1) := by decide +kernel
theorem dX11_spreadChances_23 : decode cX11_spreadChances 23 = .ok (.aload_n 0, 1) := by decide +kernel
theorem dX11_spreadChances_24 : decode cX11_spreadChances 24 = .ok (.getfield 39, 3) := by decide +kernel
theorem dX11_spreadChances_27 : decode cX11_spreadChances 27 = .ok (.getfield 181, 3) := by decide +kernel
theorem dX11_spreadChances_30 : decode cX11_spreadChances 30 = .ok (.iconst 1, 1) := by decide +kernel
theorem dX11_spreadChances_31 : decode cX11_spreadChances 31 = .ok (.isub, 1) := by decide +kernel
theorem dX11_spreadChances_32 : decode cX11_spreadChances 32 = .ok (.istore_n 3, 1) := by decide +kernel
theorem dX11_spreadChances_33 : decode cX11_spreadChances 33 = .ok (.iconst 0, 1) := by decide +kernel
theorem dX11_spreadChances_34 : decode cX11_spreadChances 34 = .ok (.istore 4, 2) := by decide +kernel
theorem dX11_spreadChances_36 : decode cX11_spreadChances 36 = .ok (.iload 4, 2) := by decide +kernel
theorem dX11_spreadChances_38 : decode cX11_spreadChances 38 = .ok (.aload_n 0, 1) := by decide +kernel
theorem dX11_spreadChances_39 : decode cX11_spreadChances 39 = .ok (.getfield 39, 3) := by decide +kernel
theorem dX11_spreadChances_42 : decode cX11_spreadChances 42 = .ok (.getfield 227, 3) := by decide +kernel
theorem dX11_spreadChances_45 : decode cX11_spreadChances 45 = .ok (.if_icmp .ge 89, 3) := by decide +kernel
theorem dX11_spreadChances_48 : decode cX11_spreadChances 48 = .ok (.aload_n 0, 1) := by decide +kernel
theorem dX11_spreadChances_49 : decode cX11_spreadChances 49 = .ok (.getfield 74, 3) := by decide +kernel
theorem dX11_spreadChances_52 : decode cX11_spreadChances 52 = .ok (.iload_n 3, 1) := by decide +kernel
theorem dX11_spreadChances_53 : decode cX11_spreadChances 53 = .ok (.iaload, 1) := by decide +kernel
theorem dX11_spreadChances_54 : decode cX11_spreadChances 54 = .ok (.iload_n 1, 1) := by decide +kernel
theorem dX11_spreadChances_55 : decode cX11_spreadChances 55 = .ok (.imul, 1) := by decide +kernel
theorem dX11_spreadChances_56 : decode cX11_spreadChances 56 = .ok (.istore 5, 2) := by decide +kernel
theorem dX11_spreadChances_58 : decode cX11_spreadChances 58 = .ok (.iload_n 3, 1) := by decide +kernel
theorem dX11_spreadChances_59 : decode cX11_spreadChances 59 = .ok (.istore 6, 2) := by decide +kernel
theorem dX11_spreadChances_61 : decode cX11_spreadChances 61 = .ok (.iload 6, 2) := by decide +kernel
theorem dX11_spreadChances_63 : decode cX11_spreadChances 63 = .ok (.ifCond .le 40, 3) := by decide +kernel
theorem dX11_spreadChances_66 : decode cX11_spreadChances 66 = .ok (.aload_n 0, 1) := by decide +kernel
theorem dX11_spreadChances_67 : decode cX11_spreadChances 67 = .ok (.getfield 74, 3) := by decide +kernel
theorem dX11_spreadChances_70 : decode cX11_spreadChances 70 = .ok (.iload 6, 2) := by decide +kernel
theorem dX11_spreadChances_72 : decode cX11_spreadChances 72 = .ok (.aload_n 0, 1) := by decide +kernel
theorem dX11_spreadChances_73 : decode cX11_spreadChances 73 = .ok (.getfield 74, 3) := by decide +kernel
theorem dX11_spreadChances_76 : decode cX11_spreadChances 76 = .ok (.iload 6, 2) := by decide +kernel
theorem dX11_spreadChances_78 : decode cX11_spreadChances 78 = .ok (.iaload, 1) := by decide +kernel
theorem dX11_spreadChances_79 : decode cX11_spreadChances 79 = .ok (.bipush 10, 2) := by decide +kernel
theorem dX11_spreadChances_81 : decode cX11_spreadChances 81 = .ok (.iload_n 1, 1) := by decide +kernel
theorem dX11_spreadChances_82 : decode cX11_spreadChances 82 = .ok (.isub, 1) := by decide +kernel
theorem dX11_spreadChances_83 : decode cX11_spreadChances 83 = .ok (.imul, 1) := by decide +kernel
theorem dX11_spreadChances_84 : decode cX11_spreadChances 84 = .ok (.aload_n 0, 1) := by decide +kernel
theorem dX11_spreadChances_85 : decode cX11_spreadChances 85 = .ok (.getfield 74, 3) := by decide +kernel
theorem dX11_spreadChances_88 : decode cX11_spreadChances 88 = .ok (.iload 6, 2) := by decide +kernel
theorem dX11_spreadChances_90 : decode cX11_spreadChances 90 = .ok (.iconst 1, 1) := by decide +kernel
theorem dX11_spreadChances_91 : decode cX11_spreadChances 91 = .ok (.isub, 1) := by decide +kernel
theorem dX11_spreadChances_92 : decode cX11_spreadChances 92 = .ok (.iaload, 1) := by decide +kernel
theorem dX11_spreadChances_93 : decode cX11_spreadChances 93 = .ok (.iload_n 1, 1) := by decide +kernel
theorem dX11_spreadChances_94 : decode cX11_spreadChances 94 = .ok (.imul, 1) := by decide +kernel
theorem dX11_spreadChances_95 : decode cX11_spreadChances 95 = .ok (.iadd, 1) := by decide +kernel
theorem dX11_spreadChances_96 : decode cX11_spreadChances 96 = .ok (.iastore, 1) := by decide +kernel
theorem dX11_spreadChances_97 : decode cX11_spreadChances 97 = .ok (.iinc 6 (-1), 3) := by decide +kernel
theorem dX11_spreadChances_100 : decode cX11_spreadChances 100 = .ok (.goto (-39), 3) := by decide +kernel
theorem dX11_spreadChances_103 : decode cX11_spreadChances 103 = .ok (.aload_n 0, 1) := by decide +kernel
theorem dX11_spreadChances_104 : decode cX11_spreadChances 104 = .ok (.getfield 74, 3) := by decide +kernel
theorem dX11_spreadChances_107 : decode cX11_spreadChances 107 = .ok (.iconst 0, 1) := by decide +kernel
theorem dX11_spreadChances_108 : decode cX11_spreadChances 108 = .ok (.aload_n 0, 1) := by decide +kernel
theorem dX11_spreadChances_109 : decode cX11_spreadChances 109 = .ok (.getfield 74, 3) := by decide +kernel
theorem dX11_spreadChances_112 : decode cX11_spreadChances 112 = .ok (.iconst 0, 1) := by decide +kernel
theorem dX11_spreadChances_113 : decode cX11_spreadChances 113 = .ok (.iaload, 1) := by decide +kernel
theorem dX11_spreadChances_114 : decode cX11_spreadChances 114 = .ok (.bipush 10, 2) := by decide +kernel
theorem dX11_spreadChances_116 : decode cX11_spreadChances 116 = .ok (.iload_n 1, 1) := by decide +kernel
theorem dX11_spreadChances_117 : decode cX11_spreadChances 117 = .ok (.isub, 1) := by decide +kernel
theorem dX11_spreadChances_118 : decode cX11_spreadChances 118 = .ok (.imul, 1) := by decide +kernel
theorem dX11_spreadChances_119 : decode cX11_spreadChances 119 = .ok (.iload 5, 2) := by decide +kernel
theorem dX11_spreadChances_121 : decode cX11_spreadChances 121 = .ok (.iadd, 1) := by decide +kernel
theorem dX11_spreadChances_122 : decode cX11_spreadChances 122 = .ok (.iastore, 1) := by decide +kernel
theorem dX11_spreadChances_123 : decode cX11_spreadChances 123 = .ok (.iload_n 2, 1) := by decide +kernel
theorem dX11_spreadChances_124 : decode cX11_spreadChances 124 = .ok (.bipush 10, 2) := by decide +kernel
theorem dX11_spreadChances_126 : decode cX11_spreadChances 126 = .ok (.imul, 1) := by decide +kernel
theorem dX11_spreadChances_127 : decode cX11_spreadChances 127 = .ok (.istore_n 2, 1) := by decide +kernel
theorem dX11_spreadChances_128 : decode cX11_spreadChances 128 = .ok (.iinc 4 1, 3) := by decide +kernel
theorem dX11_spreadChances_131 : decode cX11_spreadChances 131 = .ok (.goto (-95), 3) := by decide +kernel
theorem dX11_spreadChances_134 : decode cX11_spreadChances 134 = .ok (.iload_n 2, 1) := by decide +kernel
theorem dX11_spreadChances_135 : decode cX11_spreadChances 135 = .ok (.ireturn, 1) := by decide +kernel
theorem dX11_fitsAllSeen_0 : decode cX11_fitsAllSeen 0 = .ok (.iconst 0, 1) := by decide +kernel
theorem dX11_fitsAllSeen_1 : decode cX11_fitsAllSeen 1 = .ok (.istore_n 2, 1) := by decide +kernel
theorem dX11_fitsAllSeen_2 : decode cX11_fitsAllSeen 2 = .ok (.iload_n 2, 1) := by decide +kernel
theorem dX11_fitsAllSeen_3 : decode cX11_fitsAllSeen 3 = .ok (.aload_n 0, 1) := by decide +kernel
theorem dX11_fitsAllSeen_4 : decode cX11_fitsAllSeen 4 = .ok (.getfield 119, 3) := by decide +kernel
theorem dX11_fitsAllSeen_7 : decode cX11_fitsAllSeen 7 = .ok (.if_icmp .ge 44, 3) := by decide +kernel
theorem dX11_fitsAllSeen_10 : decode cX11_fitsAllSeen 10 = .ok (.aload_n 0, 1) := by decide +kernel
theorem dX11_fitsAllSeen_11 : decode cX11_fitsAllSeen 11 = .ok (.getfield 39, 3) := by decide +kernel
theorem dX11_fitsAllSeen_14 : decode cX11_fitsAllSeen 14 = .ok (.aload_n 0, 1) := by decide +kernel
theorem dX11_fitsAllSeen_15 : decode cX11_fitsAllSeen 15 = .ok (.getfield 46, 3) := by decide +kernel
theorem dX11_fitsAllSeen_18 : decode cX11_fitsAllSeen 18 = .ok (.iload_n 1, 1) := by decide +kernel
theorem dX11_fitsAllSeen_19 : decode cX11_fitsAllSeen 19 = .ok (.aload_n 0, 1) := by decide +kernel
theorem dX11_fitsAllSeen_20 : decode cX11_fitsAllSeen 20 = .ok (.getfield 64, 3) := by decide +kernel
theorem dX11_fitsAllSeen_23 : decode cX11_fitsAllSeen 23 = .ok (.iload_n 2, 1) := by decide +kernel
theorem dX11_fitsAllSeen_24 : decode cX11_fitsAllSeen 24 = .ok (.iaload, 1) := by decide +kernel
theorem dX11_fitsAllSeen_25 : decode cX11_fitsAllSeen 25 = .ok (.aload_n 0, 1) := by decide +kernel
theorem dX11_fitsAllSeen_26 : decode cX11_fitsAllSeen 26 = .ok (.getfield 68, 3) := by decide +kernel
theorem dX11_fitsAllSeen_29 : decode cX11_fitsAllSeen 29 = .ok (.iload_n 2, 1) := by decide +kernel
theorem dX11_fitsAllSeen_30 : decode cX11_fitsAllSeen 30 = .ok (.iaload, 1) := by decide +kernel
theorem dX11_fitsAllSeen_31 : decode cX11_fitsAllSeen 31 = .ok (.invokevirtual 197, 3) := by decide +kernel
theorem dX11_fitsAllSeen_34 : decode cX11_fitsAllSeen 34 = .ok (.aload_n 0, 1) := by decide +kernel
theorem dX11_fitsAllSeen_35 : decode cX11_fitsAllSeen 35 = .ok (.getfield 71, 3) := by decide +kernel
theorem dX11_fitsAllSeen_38 : decode cX11_fitsAllSeen 38 = .ok (.iload_n 2, 1) := by decide +kernel
theorem dX11_fitsAllSeen_39 : decode cX11_fitsAllSeen 39 = .ok (.baload, 1) := by decide +kernel
theorem dX11_fitsAllSeen_40 : decode cX11_fitsAllSeen 40 = .ok (.if_icmp .eq 5, 3) := by decide +kernel
theorem dX11_fitsAllSeen_43 : decode cX11_fitsAllSeen 43 = .ok (.iconst 0, 1) := by decide +kernel
theorem dX11_fitsAllSeen_44 : decode cX11_fitsAllSeen 44 = .ok (.ireturn, 1) := by decide +kernel
theorem dX11_fitsAllSeen_45 : decode cX11_fitsAllSeen 45 = .ok (.iinc 2 1, 3) := by decide +kernel
theorem dX11_fitsAllSeen_48 : decode cX11_fitsAllSeen 48 = .ok (.goto (-46), 3) := by decide +kernel
theorem dX11_fitsAllSeen_51 : decode cX11_fitsAllSeen 51 = .ok (.iconst 1, 1) := by decide +kernel
theorem dX11_fitsAllSeen_52 : decode cX11_fitsAllSeen 52 = .ok (.ireturn, 1) := by decide +kernel
theorem dJ6_bitCount_0f7a4_0 : decode cJ6_bitCount_0f7a4 0 = .ok (.iload_n 0, 1) := by decide +kernel
theorem dJ6_bitCount_0f7a4_1 : decode cJ6_bitCount_0f7a4 1 = .ok (.iload_n 0, 1) := by decide +kernel
theorem dJ6_bitCount_0f7a4_2 : decode cJ6_bitCount_0f7a4 2 = .ok (.iconst 1, 1) := by decide +kernel
theorem dJ6_bitCount_0f7a4_3 : decode cJ6_bitCount_0f7a4 3 = .ok (.iushr, 1) := by decide +kernel
theorem dJ6_bitCount_0f7a4_4 : decode cJ6_bitCount_0f7a4 4 = .ok (.ldc_w 265, 3) := by decide +kernel
theorem dJ6_bitCount_0f7a4_7 : decode cJ6_bitCount_0f7a4 7 = .ok (.iand, 1) := by decide +kernel
theorem dJ6_bitCount_0f7a4_8 : decode cJ6_bitCount_0f7a4 8 = .ok (.isub, 1) := by decide +kernel
theorem dJ6_bitCount_0f7a4_9 : decode cJ6_bitCount_0f7a4 9 = .ok (.istore_n 0, 1) := by decide +kernel
theorem dJ6_bitCount_0f7a4_10 : decode cJ6_bitCount_0f7a4 10 = .ok (.iload_n 0, 1) := by decide +kernel
theorem dJ6_bitCount_0f7a4_11 : decode cJ6_bitCount_0f7a4 11 = .ok (.ldc_w 266, 3) := by decide +kernel
theorem dJ6_bitCount_0f7a4_14 : decode cJ6_bitCount_0f7a4 14 = .ok (.iand, 1) := by decide +kernel
theorem dJ6_bitCount_0f7a4_15 : decode cJ6_bitCount_0f7a4 15 = .ok (.iload_n 0, 1) := by decide +kernel
theorem dJ6_bitCount_0f7a4_16 : decode cJ6_bitCount_0f7a4 16 = .ok (.iconst 2, 1) := by decide +kernel
theorem dJ6_bitCount_0f7a4_17 : decode cJ6_bitCount_0f7a4 17 = .ok (.iushr, 1) := by decide +kernel
theorem dJ6_bitCount_0f7a4_18 : decode cJ6_bitCount_0f7a4 18 = .ok (.ldc_w 266, 3) := by decide +kernel
theorem dJ6_bitCount_0f7a4_21 : decode cJ6_bitCount_0f7a4 21 = .ok (.iand, 1) := by decide +kernel
theorem dJ6_bitCount_0f7a4_22 : decode cJ6_bitCount_0f7a4 22 = .ok (.iadd, 1) := by decide +kernel
theorem dJ6_bitCount_0f7a4_23 : decode cJ6_bitCount_0f7a4 23 = .ok (.istore_n 0, 1) := by decide +kernel
theorem dJ6_bitCount_0f7a4_24 : decode cJ6_bitCount_0f7a4 24 = .ok (.iload_n 0, 1) := by decide +kernel
theorem dJ6_bitCount_0f7a4_25 : decode cJ6_bitCount_0f7a4 25 = .ok (.iload_n 0, 1) := by decide +kernel
theorem dJ6_bitCount_0f7a4_26 : decode cJ6_bitCount_0f7a4 26 = .ok (.iconst 4, 1) := by decide +kernel
theorem dJ6_bitCount_0f7a4_27 : decode cJ6_bitCount_0f7a4 27 = .ok (.iushr, 1) := by decide +kernel
theorem dJ6_bitCount_0f7a4_28 : decode cJ6_bitCount_0f7a4 28 = .ok (.iadd, 1) := by decide +kernel
theorem dJ6_bitCount_0f7a4_29 : decode cJ6_bitCount_0f7a4 29 = .ok (.ldc_w 267, 3) := by decide +kernel
theorem dJ6_bitCount_0f7a4_32 : decode cJ6_bitCount_0f7a4 32 = .ok (.iand, 1) := by decide +kernel
theorem dJ6_bitCount_0f7a4_33 : decode cJ6_bitCount_0f7a4 33 = .ok (.istore_n 0, 1) := by decide +kernel
theorem dJ6_bitCount_0f7a4_34 : decode cJ6_bitCount_0f7a4 34 = .ok (.iload_n 0, 1) := by decide +kernel
theorem dJ6_bitCount_0f7a4_35 : decode cJ6_bitCount_0f7a4 35 = .ok (.iload_n 0, 1) := by decide +kernel
theorem dJ6_bitCount_0f7a4_36 : decode cJ6_bitCount_0f7a4 36 = .ok (.bipush 8, 2) := by decide +kernel
theorem dJ6_bitCount_0f7a4_38 : decode cJ6_bitCount_0f7a4 38 = .ok (.iushr, 1) := by decide +kernel
theorem dJ6_bitCount_0f7a4_39 : decode cJ6_bitCount_0f7a4 39 = .ok (.iadd, 1) := by decide +kernel
theorem dJ6_bitCount_0f7a4_40 : decode cJ6_bitCount_0f7a4 40 = .ok (.istore_n 0, 1) := by decide +kernel
theorem dJ6_bitCount_0f7a4_41 : decode cJ6_bitCount_0f7a4 41 = .ok (.iload_n 0, 1) := by decide +kernel
theorem dJ6_bitCount_0f7a4_42 : decode cJ6_bitCount_0f7a4 42 = .ok (.iload_n 0, 1) := by decide +kernel
theorem dJ6_bitCount_0f7a4_43 : decode cJ6_bitCount_0f7a4 43 = .ok (.bipush 16, 2) := by decide +kernel
theorem dJ6_bitCount_0f7a4_45 : decode cJ6_bitCount_0f7a4 45 = .ok (.iushr, 1) := by decide +kernel
theorem dJ6_bitCount_0f7a4_46 : decode cJ6_bitCount_0f7a4 46 = .ok (.iadd, 1) := by decide +kernel
theorem dJ6_bitCount_0f7a4_47 : decode cJ6_bitCount_0f7a4 47 = .ok (.istore_n 0, 1) := by decide +kernel
theorem dJ6_bitCount_0f7a4_48 : decode cJ6_bitCount_0f7a4 48 = .ok (.iload_n 0, 1) := by decide +kernel
theorem dJ6_bitCount_0f7a4_49 : decode cJ6_bitCount_0f7a4 49 = .ok (.bipush 63, 2) := by decide +kernel
theorem dJ6_bitCount_0f7a4_51 : decode cJ6_bitCount_0f7a4 51 = .ok (.iand, 1) := by decide +kernel
theorem dJ6_bitCount_0f7a4_52 : decode cJ6_bitCount_0f7a4 52 = .ok (.ireturn, 1) := by decide +kernel
theorem dJ9_floorMod_7cf53_0 : decode cJ9_floorMod_7cf53 0 = .ok (.iload_n 0, 1) := by decide +kernel
theorem dJ9_floorMod_7cf53_1 : decode cJ9_floorMod_7cf53 1 = .ok (.iload_n 1, 1) := by decide +kernel
theorem dJ9_floorMod_7cf53_2 : decode cJ9_floorMod_7cf53 2 = .ok (.irem, 1) := by decide +kernel
theorem dJ9_floorMod_7cf53_3 : decode cJ9_floorMod_7cf53 3 = .ok (.istore_n 2, 1) := by decide +kernel
theorem dJ9_floorMod_7cf53_4 : decode cJ9_floorMod_7cf53 4 = .ok (.iload_n 0, 1) := by decide +kernel
theorem dJ9_floorMod_7cf53_5 : decode cJ9_floorMod_7cf53 5 = .ok (.iload_n 1, 1) := by decide +kernel
theorem dJ9_floorMod_7cf53_6 : decode cJ9_floorMod_7cf53 6 = .ok (.ixor, 1) := by decide +kernel
theorem dJ9_floorMod_7cf53_7 : decode cJ9_floorMod_7cf53 7 = .ok (.ifCond .ge 11, 3) := by decide +kernel
theorem dJ9_floorMod_7cf53_10 : decode cJ9_floorMod_7cf53 10 = .ok (.iload_n 2, 1) := by decide +kernel
theorem dJ9_floorMod_7cf53_11 : decode cJ9_floorMod_7cf53 11 = .ok (.ifCond .eq 7, 3) := by decide +kernel
theorem dJ9_floorMod_7cf53_14 : decode cJ9_floorMod_7cf53 14 = .ok (.iload_n 2, 1) := by decide +kernel
theorem dJ9_floorMod_7cf53_15 : decode cJ9_floorMod_7cf53 15 = .ok (.iload_n 1, 1) := by decide +kernel
theorem dJ9_floorMod_7cf53_16 : decode cJ9_floorMod_7cf53 16 = .ok (.iadd, 1) := by decide +kernel
theorem dJ9_floorMod_7cf53_17 : decode cJ9_floorMod_7cf53 17 = .ok (.ireturn, 1) := by decide +kernel
theorem dJ9_floorMod_7cf53_18 : decode cJ9_floorMod_7cf53 18 = .ok (.iload_n 2, 1) := by decide +kernel
theorem dJ9_floorMod_7cf53_19 : decode cJ9_floorMod_7cf53 19 = .ok (.ireturn, 1) := by decide +kernel
theorem dJ9_max_7cf53_0 : decode cJ9_max_7cf53 0 = .ok (.iload_n 0, 1) := by decide +kernel
theorem dJ9_max_7cf53_1 : decode cJ9_max_7cf53 1 = .ok (.iload_n 1, 1) := by decide +kernel
theorem dJ9_max_7cf53_2 : decode cJ9_max_7cf53 2 = .ok (.if_icmp .lt 7, 3) := by decide +kernel
theorem dJ9_max_7cf53_5 : decode cJ9_max_7cf53 5 = .ok (.iload_n 0, 1) := by decide +kernel
theorem dJ9_max_7cf53_6 : decode cJ9_max_7cf53 6 = .ok (.goto 4, 3) := by decide +kernel
theorem dJ9_max_7cf53_9 : decode cJ9_max_7cf53 9 = .ok (.iload_n 1, 1) := by decide +kernel
theorem dJ9_max_7cf53_10 : decode cJ9_max_7cf53 10 = .ok (.ireturn, 1) := by decide +kernel
theorem dJ9_min_7cf53_0 : decode cJ9_min_7cf53 0 = .ok (.iload_n 0, 1) := by decide +kernel
theorem dJ9_min_7cf53_1 : decode cJ9_min_7cf53 1 = .ok (.iload_n 1, 1) := by decide +kernel
theorem dJ9_min_7cf53_2 : decode cJ9_min_7cf53 2 = .ok (.if_icmp .gt 7, 3) := by decide +kernel
theorem dJ9_min_7cf53_5 : decode cJ9_min_7cf53 5 = .ok (.iload_n 0, 1) := by decide +kernel
theorem dJ9_min_7cf53_6 : decode cJ9_min_7cf53 6 = .ok (.goto 4, 3) := by decide +kernel
theorem dJ9_min_7cf53_9 : decode cJ9_min_7cf53 9 = .ok (.iload_n 1, 1) := by decide +kernel
theorem dJ9_min_7cf53_10 : decode cJ9_min_7cf53 10 = .ok (.ireturn, 1) := by decide +kernel
theorem dJ7_fill_53178_0 : decode cJ7_fill_53178 0 = .ok (.iconst 0, 1) := by decide +kernel
theorem dJ7_fill_53178_1 : decode cJ7_fill_53178 1 = .ok (.istore_n 2, 1) := by decide +kernel
theorem dJ7_fill_53178_2 : decode cJ7_fill_53178 2 = .ok (.aload_n 0, 1) := by decide +kernel
theorem dJ7_fill_53178_3 : decode cJ7_fill_53178 3 = .ok (.arraylength, 1) := by decide +kernel
theorem dJ7_fill_53178_4 : decode cJ7_fill_53178 4 = .ok (.istore_n 3, 1) := by decide +kernel
theorem dJ7_fill_53178_5 : decode cJ7_fill_53178 5 = .ok (.iload_n 2, 1) := by decide +kernel
theorem dJ7_fill_53178_6 : decode cJ7_fill_53178 6 = .ok (.iload_n 3, 1) := by decide +kernel
theorem dJ7_fill_53178_7 : decode cJ7_fill_53178 7 = .ok (.if_icmp .ge 13, 3) := by decide +kernel
theorem dJ7_fill_53178_10 : decode cJ7_fill_53178 10 = .ok (.aload_n 0, 1) := by decide +kernel
theorem dJ7_fill_53178_11 : decode cJ7_fill_53178 11 = .ok (.iload_n 2, 1) := by decide +kernel
theorem dJ7_fill_53178_12 : decode cJ7_fill_53178 12 = .ok (.iload_n 1, 1) := by decide +kernel
theorem dJ7_fill_53178_13 : decode cJ7_fill_53178 13 = .ok (.iastore, 1) := by decide +kernel
theorem dJ7_fill_53178_14 : decode cJ7_fill_53178 14 = .ok (.iinc 2 1, 3) := by decide +kernel
theorem dJ7_fill_53178_17 : decode cJ7_fill_53178 17 = .ok (.goto (-12), 3) := by decide +kernel
theorem dJ7_fill_53178_20 : decode cJ7_fill_53178 20 = .ok (.return_, 1) := by decide +kernel
end
section
theorem dX12_init_0 : decode cX12_init 0 = .ok (.aload_n 0, 1) := by decide +kernel
theorem dX12_init_1 : decode cX12_init 1 = .ok (.invokespecial 1, 3) := by decide +kernel
theorem dX12_init_4 : decode cX12_init 4 = .ok (.aload_n 0, 1) := by decide +kernel
theorem dX12_init_5 : decode cX12_init 5 = .ok (.sipush 140, 3) := by decide +kernel
theorem dX12_init_8 : decode cX12_init 8 = .ok (.newarray .int, 2) := by decide +kernel
theorem dX12_init_10 : decode cX12_init 10 = .ok (.putfield 7, 3) := by decide +kernel
theorem dX12_init_13 : decode cX12_init 13 = .ok (.aload_n 0, 1) := by decide +kernel
theorem dX12_init_14 : decode cX12_init 14 = .ok (.bipush 6, 2) := by decide +kernel
theorem dX12_init_16 : decode cX12_init 16 = .ok (.newarray .int, 2) := by decide +kernel
theorem dX12_init_18 : decode cX12_init 18 = .ok (.putfield 13, 3) := by decide +kernel
theorem dX12_init_21 : decode cX12_init 21 = .ok (.aload_n 0, 1) := by decide +kernel
theorem dX12_init_22 : decode cX12_init 22 = .ok (.bipush 12, 2) := by decide +kernel
theorem dX12_init_24 : decode cX12_init 24 = .ok (.newarray .int, 2) := by decide +kernel
theorem dX12_init_26 : decode cX12_init 26 = .ok (.putfield 16, 3) := by decide +kernel
theorem dX12_init_29 : decode cX12_init 29 = .ok (.aload_n 0, 1) := by decide +kernel
theorem dX12_init_30 : decode cX12_init 30 = .ok (.bipush 12, 2) := by decide +kernel
theorem dX12_init_32 : decode cX12_init 32 = .ok (.newarray .int, 2) := by decide +kernel
theorem dX12_init_34 : decode cX12_init 34 = .ok (.putfield 19, 3) := by decide +kernel
theorem dX12_init_37 : decode cX12_init 37 = .ok (.aload_n 0, 1) := by decide +kernel
theorem dX12_init_38 : decode cX12_init 38 = .ok (.bipush 12, 2) := by decide +kernel
theorem dX12_init_40 : decode cX12_init 40 = .ok (.newarray .int, 2) := by decide +kernel
theorem dX12_init_42 : decode cX12_init 42 = .ok (.putfield 22, 3) := by decide +kernel
theorem dX12_init_45 : decode cX12_init 45 = .ok (.aload_n 0, 1) := by decide +kernel
theorem dX12_init_46 : decode cX12_init 46 = .ok (.bipush 25, 2) := by decide +kernel
theorem dX12_init_48 : decode cX12_init 48 = .ok (.newarray .int, 2) := by decide +kernel
theorem dX12_init_50 : decode cX12_init 50 = .ok (.putfield 25, 3) := by decide +kernel
theorem dX12_init_53 : decode cX12_init 53 = .ok (.aload_n 0, 1) := by decide +kernel
theorem dX12_init_54 : decode cX12_init 54 = .ok (.bipush 25, 2) := by decide +kernel
theorem dX12_init_56 : decode cX12_init 56 = .ok (.newarray .int, 2) := by decide +kernel
theorem dX12_init_58 : decode cX12_init 58 = .ok (.putfield 28, 3) := by decide +kernel
theorem dX12_init_61 : decode cX12_init 61 = .ok (.aload_n 0, 1) := by decide +kernel
theorem dX12_init_62 : decode cX12_init 62 = .ok (.bipush 50, 2) := by decide +kernel
theorem dX12_init_64 : decode cX12_init 64 = .ok (.newarray .int, 2) := by decide +kernel
theorem dX12_init_66 : decode cX12_init 66 = .ok (.putfield 31, 3) := by decide +kernel
theorem dX12_init_69 : decode cX12_init 69 = .ok (.aload_n 0, 1) := by decide +kernel
theorem dX12_init_70 : decode cX12_init 70 = .ok (.iconst 2, 1) := by decide +kernel
theorem dX12_init_71 : decode cX12_init 71 = .ok (.newarray .boolean, 2) := by decide +kernel
theorem dX12_init_73 : decode cX12_init 73 = .ok (.putfield 34, 3) := by decide +kernel
theorem dX12_init_76 : decode cX12_init 76 = .ok (.aload_n 0, 1) := by decide +kernel
theorem dX12_init_77 : decode cX12_init 77 = .ok (.sipush 250, 3) := by decide +kernel
theorem dX12_init_80 : decode cX12_init 80 = .ok (.newarray .int, 2) := by decide +kernel
theorem dX12_init_82 : decode cX12_init 82 = .ok (.putfield 38, 3) := by decide +kernel
theorem dX12_init_85 : decode cX12_init 85 = .ok (.aload_n 0, 1) := by decide +kernel
theorem dX12_init_86 : decode cX12_init 86 = .ok (.bipush 6, 2) := by decide +kernel
theorem dX12_init_88 : decode cX12_init 88 = .ok (.newarray .int, 2) := by decide +kernel
theorem dX12_init_90 : decode cX12_init 90 = .ok (.putfield 41, 3) := by decide +kernel
theorem dX12_init_93 : decode cX12_init 93 = .ok (.aload_n 0, 1) := by decide +kernel
theorem dX12_init_94 : decode cX12_init 94 = .ok (.bipush 6, 2) := by decide +kernel
theorem dX12_init_96 : decode cX12_init 96 = .ok (.newarray .int, 2) := by decide +kernel
theorem dX12_init_98 : decode cX12_init 98 = .ok (.putfield 44, 3) := by decide +kernel
theorem dX12_init_101 : decode cX12_init 101 = .ok (.aload_n 0, 1) := by decide +kernel
theorem dX12_init_102 : decode cX12_init 102 = .ok (.bipush 6, 2) := by decide +kernel
theorem dX12_init_104 : decode cX12_init 104 = .ok (.newarray .int, 2) := by decide +kernel
theorem dX12_init_106 : decode cX12_init 106 = .ok (.putfield 47, 3) := by decide +kernel
theorem dX12_init_109 : decode cX12_init 109 = .ok (.aload_n 0, 1) := by decide +kernel
theorem dX12_init_110 : decode cX12_init 110 = .ok (.bipush 6, 2) := by decide +kernel
theorem dX12_init_112 : decode cX12_init 112 = .ok (.newarray .int, 2) := by decide +kernel
theorem dX12_init_114 : decode cX12_init 114 = .ok (.putfield 50, 3) := by decide +kernel
theorem dX12_init_117 : decode cX12_init 117 = .ok (.aload_n 0, 1) := by decide +kernel
theorem dX12_init_118 : decode cX12_init 118 = .ok (.bipush 6, 2) := by decide +kernel
theorem dX12_init_120 : decode cX12_init 120 = .ok (.newarray .int, 2) := by decide +kernel
theorem dX12_init_122 : decode cX12_init 122 = .ok (.putfield 53, 3) := by decide +kernel
theorem dX12_init_125 : decode cX12_init 125 = .ok (.aload_n 0, 1) := by decide +kernel
theorem dX12_init_126 : decode cX12_init 126 = .ok (.bipush 6, 2) := by decide +kernel
theorem dX12_init_128 : decode cX12_init 128 = .ok (.newarray .int, 2) := by decide +kernel
theorem dX12_init_130 : decode cX12_init 130 = .ok (.putfield 56, 3) := by decide +kernel
theorem dX12_init_133 : decode cX12_init 133 = .ok (.aload_n 0, 1) := by decide +kernel
theorem dX12_init_134 : decode cX12_init 134 = .ok (.invokevirtual 59, 3) := by decide +kernel
theorem dX12_init_137 : decode cX12_init 137 = .ok (.aload_n 0, 1) := by decide +kernel
theorem dX12_init_138 : decode cX12_init 138 = .ok (.invokevirtual 62, 3) := by decide +kernel
theorem dX12_init_141 : decode cX12_init 141 = .ok (.return_, 1) := by decide +kernel
theorem dX12_in_0 : decode cX12_in 0 = .ok (.iload_n 0, 1) := by decide +kernel
theorem dX12_in_1 : decode cX12_in 1 = .ok (.iload_n 1, 1) := by decide +kernel
theorem dX12_in_2 : decode cX12_in 2 = .ok (.if_icmp .lt 12, 3) := by decide +kernel
theorem dX12_in_5 : decode cX12_in 5 = .ok (.iload_n 0, 1) := by decide +kernel
theorem dX12_in_6 : decode cX12_in 6 = .ok (.iload_n 2, 1) := by decide +kernel
theorem dX12_in_7 : decode cX12_in 7 = .ok (.if_icmp .gt 7, 3) := by decide +kernel
theorem dX12_in_10 : decode cX12_in 10 = .ok (.iconst 1, 1) := by decide +kernel
theorem dX12_in_11 : decode cX12_in 11 = .ok (.goto 4, 3) := by decide +kernel
theorem dX12_in_14 : decode cX12_in 14 = .ok (.iconst 0, 1) := by decide +kernel
theorem dX12_in_15 : decode cX12_in 15 = .ok (.ireturn, 1) := by decide +kernel
theorem dX12_isOf_0 : decode cX12_isOf 0 = .ok (.iload_n 0, 1) := by decide +kernel
theorem dX12_isOf_1 : decode cX12_isOf 1 = .ok (.iload_n 1, 1) := by decide +kernel
theorem dX12_isOf_2 : decode cX12_isOf 2 = .ok (.ishr, 1) := by decide +kernel
theorem dX12_isOf_3 : decode cX12_isOf 3 = .ok (.iconst 1, 1) := by decide +kernel
theorem dX12_isOf_4 : decode cX12_isOf 4 = .ok (.iand, 1) := by decide +kernel
theorem dX12_isOf_5 : decode cX12_isOf 5 = .ok (.iconst 1, 1) := by decide +kernel
theorem dX12_isOf_6 : decode cX12_isOf 6 = .ok (.if_icmp .ne 7, 3) := by decide +kernel
theorem dX12_isOf_9 : decode cX12_isOf 9 = .ok (.iconst 1, 1) := by decide +kernel
theorem dX12_isOf_10 : decode cX12_isOf 10 = .ok (.goto 4, 3) := by decide +kernel
theorem dX12_isOf_13 : decode cX12_isOf 13 = .ok (.iconst 0, 1) := by decide +kernel
theorem dX12_isOf_14 : decode cX12_isOf 14 = .ok (.ireturn, 1) := by decide +kernel
theorem dX12_ones_0 : decode cX12_ones 0 = .ok (.iconst 0, 1) := by decide +kernel
theorem dX12_ones_1 : decode cX12_ones 1 = .ok (.istore_n 1, 1) := by decide +kernel
theorem dX12_ones_2 : decode cX12_ones 2 = .ok (.iconst 0, 1) := by decide +kernel
theorem dX12_ones_3 : decode cX12_ones 3 = .ok (.istore_n 2, 1) := by decide +kernel
theorem dX12_ones_4 : decode cX12_ones 4 = .ok (.iload_n 2, 1) := by decide +kernel
theorem dX12_ones_5 : decode cX12_ones 5 = .ok (.bipush 6, 2) := by decide +kernel
theorem dX12_ones_7 : decode cX12_ones 7 = .ok (.if_icmp .ge 17, 3) := by decide +kernel
theorem dX12_ones_10 : decode cX12_ones 10 = .ok (.iload_n 1, 1) := by decide +kernel
theorem dX12_ones_11 : decode cX12_ones 11 = .ok (.iload_n 0, 1) := by decide +kernel
theorem dX12_ones_12 : decode cX12_ones 12 = .ok (.iload_n 2, 1) := by decide +kernel
theorem dX12_ones_13 : decode cX12_ones 13 = .ok (.ishr, 1) := by decide +kernel
theorem dX12_ones_14 : decode cX12_ones 14 = .ok (.iconst 1, 1) := by decide +kernel
theorem dX12_ones_15 : decode cX12_ones 15 = .ok (.iand, 1) := by decide +kernel
theorem dX12_ones_16 : decode cX12_ones 16 = .ok (.iadd, 1) := by decide +kernel
theorem dX12_ones_17 : decode cX12_ones 17 = .ok (.istore_n 1, 1) := by decide +kernel
theorem dX12_ones_18 : decode cX12_ones 18 = .ok (.iinc 2 1, 3) := by decide +kernel
theorem dX12_ones_21 : decode cX12_ones 21 = .ok (.goto (-17), 3) := by decide +kernel
theorem dX12_ones_24 : decode cX12_ones 24 = .ok (.iload_n 1, 1) := by decide +kernel
theorem dX12_ones_25 : decode cX12_ones 25 = .ok (.ireturn, 1) := by decide +kernel
theorem dX12_type_0 : decode cX12_type 0 = .ok (.aload_n 0, 1) := by decide +kernel
theorem dX12_type_1 : decode cX12_type 1 = .ok (.iconst 0, 1) := by decide +kernel
theorem dX12_type_2 : decode cX12_type 2 = .ok (.putfield 65, 3) := by decide +kernel
theorem dX12_type_5 : decode cX12_type 5 = .ok (.iload_n 1, 1) := by decide +kernel
theorem dX12_type_6 : decode cX12_type 6 = .ok (.iconst 0, 1) := by decide +kernel
theorem dX12_type_7 : decode cX12_type 7 = .ok (.sipush 255, 3) := by decide +kernel
theorem dX12_type_10 : decode cX12_type 10 = .ok (.invokestatic 69, 3) := by decide +kernel
theorem dX12_type_13 : decode cX12_type 13 = .ok (.ifCond .ne 5, 3) := by decide +kernel
theorem dX12_type_16 : decode cX12_type 16 = .ok (.iconst (-1), 1) := by decide +kernel
theorem dX12_type_17 : decode cX12_type 17 = .ok (.ireturn, 1) := by decide +kernel
theorem dX12_type_18 : decode cX12_type 18 = .ok (.aload_n 0, 1) := by decide +kernel
theorem dX12_type_19 : decode cX12_type 19 = .ok (.getfield 73, 3) := by decide +kernel
theorem dX12_type_22 : decode cX12_type 22 = .ok (.sipush 140, 3) := by decide +kernel
theorem dX12_type_25 : decode cX12_type 25 = .ok (.if_icmp .ne 6, 3) := by decide +kernel
theorem dX12_type_28 : decode cX12_type 28 = .ok (.bipush (-3), 2) := by decide +kernel
theorem dX12_type_30 : decode cX12_type 30 = .ok (.ireturn, 1) := by decide +kernel
theorem dX12_type_31 : decode cX12_type 31 = .ok (.aload_n 0, 1) := by decide +kernel
theorem dX12_type_32 : decode cX12_type 32 = .ok (.getfield 7, 3) := by decide +kernel
theorem dX12_type_35 : decode cX12_type 35 = .ok (.aload_n 0, 1) := by decide +kernel
theorem dX12_type_36 : decode cX12_type 36 = .ok (.getfield 73, 3) := by decide +kernel
theorem dX12_type_39 : decode cX12_type 39 = .ok (.iload_n 1, 1) := by decide +kernel
theorem dX12_type_40 : decode cX12_type 40 = .ok (.iastore, 1) := by decide +kernel
theorem dX12_type_41 : decode cX12_type 41 = .ok (.aload_n 0, 1) := by decide +kernel
theorem dX12_type_42 : decode cX12_type 42 = .ok (.dup, 1) := by decide +kernel
theorem dX12_type_43 : decode cX12_type 43 = .ok (.getfield 73, 3) := by decide +kernel
theorem dX12_type_46 : decode cX12_type 46 = .ok (.iconst 1, 1) := by decide +kernel
theorem dX12_type_47 : decode cX12_type 47 = .ok (.iadd, 1) := by decide +kernel
theorem dX12_type_48 : decode cX12_type 48 = .ok (.putfield 73, 3) := by decide +kernel
theorem dX12_type_51 : decode cX12_type 51 = .ok (.aload_n 0, 1) := by decide +kernel
theorem dX12_type_52 : decode cX12_type 52 = .ok (.getfield 73, 3) := by decide +kernel
theorem dX12_type_55 : decode cX12_type 55 = .ok (.ireturn, 1) := by decide +kernel
theorem dX12_clear_0 : decode cX12_clear 0 = .ok (.aload_n 0, 1) := by decide +kernel
theorem dX12_clear_1 : decode cX12_clear 1 = .ok (.iconst 0, 1) := by decide +kernel
theorem dX12_clear_2 : decode cX12_clear 2 = .ok (.putfield 65, 3) := by decide +kernel
theorem dX12_clear_5 : decode cX12_clear 5 = .ok (.aload_n 0, 1) := by decide +kernel
theorem dX12_clear_6 : decode cX12_clear 6 = .ok (.getfield 73, 3) := by decide +kernel
theorem dX12_clear_9 : decode cX12_clear 9 = .ok (.istore_n 1, 1) := by decide +kernel
theorem dX12_clear_10 : decode cX12_clear 10 = .ok (.aload_n 0, 1) := by decide +kernel
theorem dX12_clear_11 : decode cX12_clear 11 = .ok (.iconst 0, 1) := by decide +kernel
theorem dX12_clear_12 : decode cX12_clear 12 = .ok (.putfield 73, 3) := by decide +kernel
theorem dX12_clear_15 : decode cX12_clear 15 = .ok (.iload_n 1, 1) := by decide +kernel
theorem dX12_clear_16 : decode cX12_clear 16 = .ok (.ireturn, 1) := by decide +kernel
theorem dX12_letterAt_0 : decode cX12_letterAt 0 = .ok (.iload_n 1, 1) := by decide +kernel
theorem dX12_letterAt_1 : decode cX12_letterAt 1 = .ok (.aload_n 0, 1) := by decide +kernel
theorem dX12_letterAt_2 : decode cX12_letterAt 2 = .ok (.getfield 73, 3) := by decide +kernel
theorem dX12_letterAt_5 : decode cX12_letterAt 5 = .ok (.if_icmp .ge 12, 3) := by decide +kernel
theorem dX12_letterAt_8 : decode cX12_letterAt 8 = .ok (.aload_n 0, 1) := by decide +kernel
theorem dX12_letterAt_9 : decode cX12_letterAt 9 = .ok (.getfield 7, 3) := by decide +kernel
theorem dX12_letterAt_12 : decode cX12_letterAt 12 = .ok (.iload_n 1, 1) := by decide +kernel
theorem dX12_letterAt_13 : decode cX12_letterAt 13 = .ok (.iaload, 1) := by decide +kernel
theorem dX12_letterAt_14 : decode cX12_letterAt 14 = .ok (.goto 4, 3) := by decide +kernel
theorem dX12_letterAt_17 : decode cX12_letterAt 17 = .ok (.iconst (-1), 1) := by decide +kernel
theorem dX12_letterAt_18 : decode cX12_letterAt 18 = .ok (.ireturn, 1) := by decide +kernel
theorem dX12_advances_0 : decode cX12_advances 0 = .ok (.aload_n 0, 1) := by decide +kernel
theorem dX12_advances_1 : decode cX12_advances 1 = .ok (.aload_n 0, 1) := by decide +kernel
theorem dX12_advances_2 : decode cX12_advances 2 = .ok (.getfield 76, 3) := by decide +kernel
theorem dX12_advances_5 : decode cX12_advances 5 = .ok (.invokevirtual 79, 3) := by decide +kernel
theorem dX12_advances_8 : decode cX12_advances 8 = .ok (.bipush 32, 2) := by decide +kernel
theorem dX12_advances_10 : decode cX12_advances 10 = .ok (.if_icmp .ne 16, 3) := by decide +kernel
theorem dX12_advances_13 : decode cX12_advances 13 = .ok (.aload_n 0, 1) := by decide +kernel
theorem dX12_advances_14 : decode cX12_advances 14 = .ok (.dup, 1) := by decide +kernel
theorem dX12_advances_15 : decode cX12_advances 15 = .ok (.getfield 76, 3) := by decide +kernel
theorem dX12_advances_18 : decode cX12_advances 18 = .ok (.iconst 1, 1) := by decide +kernel
theorem dX12_advances_19 : decode cX12_advances 19 = .ok (.iadd, 1) := by decide +kernel
theorem dX12_advances_20 : decode cX12_advances 20 = .ok (.putfield 76, 3) := by decide +kernel
theorem dX12_advances_23 : decode cX12_advances 23 = .ok (.goto (-23), 3) := by decide +kernel
theorem dX12_advances_26 : decode cX12_advances 26 = .ok (.aload_n 0, 1) := by decide +kernel
theorem dX12_advances_27 : decode cX12_advances 27 = .ok (.aload_n 0, 1) := by decide +kernel
theorem dX12_advances_28 : decode cX12_advances 28 = .ok (.getfield 76, 3) := by decide +kernel
theorem dX12_advances_31 : decode cX12_advances 31 = .ok (.putfield 83, 3) := by decide +kernel
theorem dX12_advances_34 : decode cX12_advances 34 = .ok (.aload_n 0, 1) := by decide +kernel
theorem dX12_advances_35 : decode cX12_advances 35 = .ok (.aload_n 0, 1) := by decide +kernel
theorem dX12_advances_36 : decode cX12_advances 36 = .ok (.getfield 76, 3) := by decide +kernel
theorem dX12_advances_39 : decode cX12_advances 39 = .ok (.invokevirtual 79, 3) := by decide +kernel
theorem dX12_advances_42 : decode cX12_advances 42 = .ok (.istore_n 1, 1) := by decide +kernel
theorem dX12_advances_43 : decode cX12_advances 43 = .ok (.aload_n 0, 1) := by decide +kernel
theorem dX12_advances_44 : decode cX12_advances 44 = .ok (.iconst 0, 1) := by decide +kernel
theorem dX12_advances_45 : decode cX12_advances 45 = .ok (.putfield 86, 3) := by decide +kernel
theorem dX12_advances_48 : decode cX12_advances 48 = .ok (.iload_n 1, 1) := by decide +kernel
theorem dX12_advances_49 : decode cX12_advances 49 = .ok (.ifCond .ge 11, 3) := by decide +kernel
theorem dX12_advances_52 : decode cX12_advances 52 = .ok (.aload_n 0, 1) := by decide +kernel
theorem dX12_advances_53 : decode cX12_advances 53 = .ok (.iconst 0, 1) := by decide +kernel
theorem dX12_advances_54 : decode cX12_advances 54 = .ok (.putfield 89, 3) := by decide +kernel
theorem dX12_advances_57 : decode cX12_advances 57 = .ok (.goto 221, 3) := by decide +kernel
theorem dX12_advances_60 : decode cX12_advances 60 = .ok (.iload_n 1, 1) := by decide +kernel
theorem dX12_advances_61 : decode cX12_advances 61 = .ok (.bipush 48, 2) := by decide +kernel
theorem dX12_advances_63 : decode cX12_advances 63 = .ok (.bipush 57, 2) := by decide +kernel
theorem dX12_advances_65 : decode cX12_advances 65 = .ok (.invokestatic 69, 3) := by decide +kernel
theorem dX12_advances_68 : decode cX12_advances 68 = .ok (.ifCond .eq 113, 3) := by decide +kernel
theorem dX12_advances_71 : decode cX12_advances 71 = .ok (.aload_n 0, 1) := by decide +kernel
theorem dX12_advances_72 : decode cX12_advances 72 = .ok (.aload_n 0, 1) := by decide +kernel
theorem dX12_advances_73 : decode cX12_advances 73 = .ok (.getfield 76, 3) := by decide +kernel
theorem dX12_advances_76 : decode cX12_advances 76 = .ok (.invokevirtual 79, 3) := by decide +kernel
theorem dX12_advances_79 : decode cX12_advances 79 = .ok (.bipush 48, 2) := by decide +kernel
theorem dX12_advances_81 : decode cX12_advances 81 = .ok (.bipush 57, 2) := by decide +kernel
theorem dX12_advances_83 : decode cX12_advances 83 = .ok (.invokestatic 69, 3) := by decide +kernel
theorem dX12_advances_86 : decode cX12_advances 86 = .ok (.ifCond .eq 55, 3) := by decide +kernel
theorem dX12_advances_89 : decode cX12_advances 89 = .ok (.aload_n 0, 1) := by decide +kernel
theorem dX12_advances_90 : decode cX12_advances 90 = .ok (.aload_n 0, 1) := by decide +kernel
theorem dX12_advances_91 : decode cX12_advances 91 = .ok (.getfield 86, 3) := by decide +kernel
theorem dX12_advances_94 : decode cX12_advances 94 = .ok (.bipush 99, 2) := by decide +kernel
theorem dX12_advances_96 : decode cX12_advances 96 = .ok (.if_icmp .le 10, 3) := by decide +kernel
theorem dX12_advances_99 : decode cX12_advances 99 = .ok (.aload_n 0, 1) := by decide +kernel
theorem dX12_advances_100 : decode cX12_advances 100 = .ok (.getfield 86, 3) := by decide +kernel
theorem dX12_advances_103 : decode cX12_advances 103 = .ok (.goto 22, 3) := by decide +kernel
theorem dX12_advances_106 : decode cX12_advances 106 = .ok (.bipush 10, 2) := by decide +kernel
theorem dX12_advances_108 : decode cX12_advances 108 = .ok (.aload_n 0, 1) := by decide +kernel
theorem dX12_advances_109 : decode cX12_advances 109 = .ok (.getfield 86, 3) := by decide +kernel
theorem dX12_advances_112 : decode cX12_advances 112 = .ok (.imul, 1) := by decide +kernel
theorem dX12_advances_113 : decode cX12_advances 113 = .ok (.aload_n 0, 1) := by decide +kernel
theorem dX12_advances_114 : decode cX12_advances 114 = .ok (.aload_n 0, 1) := by decide +kernel
theorem dX12_advances_115 : decode cX12_advances 115 = .ok (.getfield 76, 3) := by decide +kernel
theorem dX12_advances_118 : decode cX12_advances 118 = .ok (.invokevirtual 79, 3) := by decide +kernel
theorem dX12_advances_121 : decode cX12_advances 121 = .ok (.iadd, 1) := by decide +kernel
theorem dX12_advances_122 : decode cX12_advances 122 = .ok (.bipush 48, 2) := by decide +kernel
theorem dX12_advances_124 : decode cX12_advances 124 = .ok (.isub, 1) := by decide +kernel
theorem dX12_advances_125 : decode cX12_advances 125 = .ok (.putfield 86, 3) := by decide +kernel
theorem dX12_advances_128 : decode cX12_advances 128 = .ok (.aload_n 0, 1) := by decide +kernel
theorem dX12_advances_129 : decode cX12_advances 129 = .ok (.dup, 1) := by decide +kernel
theorem dX12_advances_130 : decode cX12_advances 130 = .ok (.getfield 76, 3) := by decide +kernel
theorem dX12_advances_133 : decode cX12_advances 133 = .ok (.iconst 1, 1) := by decide +kernel
theorem dX12_advances_134 : decode cX12_advances 134 = .ok (.iadd, 1) := by decide +kernel
theorem dX12_advances_135 : decode cX12_advances 135 = .ok (.putfield 76, 3) := by decide +kernel
theorem dX12_advances_138 : decode cX12_advances 138 = .ok (.goto (-67), 3) := by decide +kernel
theorem dX12_advances_141 : decode cX12_advances 141 = .ok (.aload_n 0, 1) := by decide +kernel
theorem dX12_advances_142 : decode cX12_advances 142 = .ok (.aload_n 0, 1) := by decide +kernel
theorem dX12_advances_143 : decode cX12_advances 143 = .ok (.getfield 86, 3) := by decide +kernel
theorem dX12_advances_146 : decode cX12_advances 146 = .ok (.bipush 99, 2) := by decide +kernel
theorem dX12_advances_148 : decode cX12_advances 148 = .ok (.if_icmp .gt 22, 3) := by decide +kernel
theorem dX12_advances_151 : decode cX12_advances 151 = .ok (.iload_n 1, 1) := by decide +kernel
theorem dX12_advances_152 : decode cX12_advances 152 = .ok (.bipush 48, 2) := by decide +kernel
theorem dX12_advances_154 : decode cX12_advances 154 = .ok (.if_icmp .ne 20, 3) := by decide +kernel
theorem dX12_advances_157 : decode cX12_advances 157 = .ok (.aload_n 0, 1) := by decide +kernel
theorem dX12_advances_158 : decode cX12_advances 158 = .ok (.getfield 76, 3) := by decide +kernel
theorem dX12_advances_161 : decode cX12_advances 161 = .ok (.aload_n 0, 1) := by decide +kernel
theorem dX12_advances_162 : decode cX12_advances 162 = .ok (.getfield 83, 3) := by decide +kernel
theorem dX12_advances_165 : decode cX12_advances 165 = .ok (.isub, 1) := by decide +kernel
theorem dX12_advances_166 : decode cX12_advances 166 = .ok (.iconst 1, 1) := by decide +kernel
theorem dX12_advances_167 : decode cX12_advances 167 = .ok (.if_icmp .le 7, 3) := by decide +kernel
theorem dX12_advances_170 : decode cX12_advances 170 = .ok (.iconst 4, 1) := by decide +kernel
theorem dX12_advances_171 : decode cX12_advances 171 = .ok (.goto 4, 3) := by decide +kernel
theorem dX12_advances_174 : decode cX12_advances 174 = .ok (.iconst 2, 1) := by decide +kernel
theorem dX12_advances_175 : decode cX12_advances 175 = .ok (.putfield 89, 3) := by decide +kernel
theorem dX12_advances_178 : decode cX12_advances 178 = .ok (.goto 100, 3) := by decide +kernel
theorem dX12_advances_181 : decode cX12_advances 181 = .ok (.iload_n 1, 1) := by decide +kernel
theorem dX12_advances_182 : decode cX12_advances 182 = .ok (.bipush 97, 2) := by decide +kernel
theorem dX12_advances_184 : decode cX12_advances 184 = .ok (.bipush 122, 2) := by decide +kernel
theorem dX12_advances_186 : decode cX12_advances 186 = .ok (.invokestatic 69, 3) := by decide +kernel
theorem dX12_advances_189 : decode cX12_advances 189 = .ok (.ifCond .eq 64, 3) := by decide +kernel
theorem dX12_advances_192 : decode cX12_advances 192 = .ok (.aload_n 0, 1) := by decide +kernel
theorem dX12_advances_193 : decode cX12_advances 193 = .ok (.aload_n 0, 1) := by decide +kernel
theorem dX12_advances_194 : decode cX12_advances 194 = .ok (.getfield 76, 3) := by decide +kernel
theorem dX12_advances_197 : decode cX12_advances 197 = .ok (.invokevirtual 79, 3) := by decide +kernel
theorem dX12_advances_200 : decode cX12_advances 200 = .ok (.bipush 97, 2) := by decide +kernel
theorem dX12_advances_202 : decode cX12_advances 202 = .ok (.bipush 122, 2) := by decide +kernel
theorem dX12_advances_204 : decode cX12_advances 204 = .ok (.invokestatic 69, 3) := by decide +kernel
theorem dX12_advances_207 : decode cX12_advances 207 = .ok (.ifCond .eq 16, 3) := by decide +kernel
theorem dX12_advances_210 : decode cX12_advances 210 = .ok (.aload_n 0, 1) := by decide +kernel
theorem dX12_advances_211 : decode cX12_advances 211 = .ok (.dup, 1) := by decide +kernel
theorem dX12_advances_212 : decode cX12_advances 212 = .ok (.getfield 76, 3) := by decide +kernel
theorem dX12_advances_215 : decode cX12_advances 215 = .ok (.iconst 1, 1) := by decide +kernel
theorem dX12_advances_216 : decode cX12_advances 216 = .ok (.iadd, 1) := by decide +kernel
theorem dX12_advances_217 : decode cX12_advances 217 = .ok (.putfield 76, 3) := by decide +kernel
theorem dX12_advances_220 : decode cX12_advances 220 = .ok (.goto (-28), 3) := by decide +kernel
theorem dX12_advances_223 : decode cX12_advances 223 = .ok (.aload_n 0, 1) := by decide +kernel
theorem dX12_advances_224 : decode cX12_advances 224 = .ok (.iconst 1, 1) := by decide +kernel
theorem dX12_advances_225 : decode cX12_advances 225 = .ok (.putfield 89, 3) := by decide +kernel
theorem dX12_advances_228 : decode cX12_advances 228 = .ok (.aload_n 0, 1) := by decide +kernel
theorem dX12_advances_229 : decode cX12_advances 229 = .ok (.aload_n 0, 1) := by decide +kernel
theorem dX12_advances_230 : decode cX12_advances 230 = .ok (.getfield 76, 3) := by decide +kernel
theorem dX12_advances_233 : decode cX12_advances 233 = .ok (.aload_n 0, 1) := by decide +kernel
theorem dX12_advances_234 : decode cX12_advances 234 = .ok (.getfield 83, 3) := by decide +kernel
theorem dX12_advances_237 : decode cX12_advances 237 = .ok (.isub, 1) := by decide +kernel
theorem dX12_advances_238 : decode cX12_advances 238 = .ok (.iconst 1, 1) := by decide +kernel
theorem dX12_advances_239 : decode cX12_advances 239 = .ok (.if_icmp .ne 7, 3) := by decide +kernel
theorem dX12_advances_242 : decode cX12_advances 242 = .ok (.iload_n 1, 1) := by decide +kernel
theorem dX12_advances_243 : decode cX12_advances 243 = .ok (.goto 4, 3) := by decide +kernel
theorem dX12_advances_246 : decode cX12_advances 246 = .ok (.iconst 0, 1) := by decide +kernel
theorem dX12_advances_247 : decode cX12_advances 247 = .ok (.putfield 86, 3) := by decide +kernel
theorem dX12_advances_250 : decode cX12_advances 250 = .ok (.goto 28, 3) := by decide +kernel
theorem dX12_advances_253 : decode cX12_advances 253 = .ok (.aload_n 0, 1) := by decide +kernel
theorem dX12_advances_254 : decode cX12_advances 254 = .ok (.dup, 1) := by decide +kernel
theorem dX12_advances_255 : decode cX12_advances 255 = .ok (.getfield 76, 3) := by decide +kernel
theorem dX12_advances_258 : decode cX12_advances 258 = .ok (.iconst 1, 1) := by decide +kernel
theorem dX12_advances_259 : decode cX12_advances 259 = .ok (.iadd, 1) := by decide +kernel
theorem dX12_advances_260 : decode cX12_advances 260 = .ok (.putfield 76, 3) := by decide +kernel
theorem dX12_advances_263 : decode cX12_advances 263 = .ok (.aload_n 0, 1) := by decide +kernel
theorem dX12_advances_264 : decode cX12_advances 264 = .ok (.iload_n 1, 1) := by decide +kernel
theorem dX12_advances_265 : decode cX12_advances 265 = .ok (.bipush 59, 2) := by decide +kernel
theorem dX12_advances_267 : decode cX12_advances 267 = .ok (.if_icmp .ne 7, 3) := by decide +kernel
theorem dX12_advances_270 : decode cX12_advances 270 = .ok (.iconst 3, 1) := by decide +kernel
theorem dX12_advances_271 : decode cX12_advances 271 = .ok (.goto 4, 3) := by decide +kernel
theorem dX12_advances_274 : decode cX12_advances 274 = .ok (.iconst 4, 1) := by decide +kernel
theorem dX12_advances_275 : decode cX12_advances 275 = .ok (.putfield 89, 3) := by decide +kernel
theorem dX12_advances_278 : decode cX12_advances 278 = .ok (.return_, 1) := by decide +kernel
theorem dX12_isWell_0 : decode cX12_isWell 0 = .ok (.aload_n 0, 1) := by decide +kernel
theorem dX12_isWell_1 : decode cX12_isWell 1 = .ok (.getfield 92, 3) := by decide +kernel
theorem dX12_isWell_4 : decode cX12_isWell 4 = .ok (.ifCond .ge 7, 3) := by decide +kernel
theorem dX12_isWell_7 : decode cX12_isWell 7 = .ok (.iconst 1, 1) := by decide +kernel
theorem dX12_isWell_8 : decode cX12_isWell 8 = .ok (.goto 4, 3) := by decide +kernel
theorem dX12_isWell_11 : decode cX12_isWell 11 = .ok (.iconst 0, 1) := by decide +kernel
theorem dX12_isWell_12 : decode cX12_isWell 12 = .ok (.ireturn, 1) := by decide +kernel
theorem dX12_takesToken_0 : decode cX12_takesToken 0 = .ok (.aload_n 0, 1) := by decide +kernel
theorem dX12_takesToken_1 : decode cX12_takesToken 1 = .ok (.invokevirtual 95, 3) := by decide +kernel
theorem dX12_takesToken_4 : decode cX12_takesToken 4 = .ok (.ifCond .ne 5, 3) := by decide +kernel
theorem dX12_takesToken_7 : decode cX12_takesToken 7 = .ok (.iconst 0, 1) := by decide +kernel
theorem dX12_takesToken_8 : decode cX12_takesToken 8 = .ok (.ireturn, 1) := by decide +kernel
theorem dX12_takesToken_9 : decode cX12_takesToken 9 = .ok (.iload_n 1, 1) := by decide +kernel
theorem dX12_takesToken_10 : decode cX12_takesToken 10 = .ok (.ifCond .ne 13, 3) := by decide +kernel
theorem dX12_takesToken_13 : decode cX12_takesToken 13 = .ok (.aload_n 0, 1) := by decide +kernel
theorem dX12_takesToken_14 : decode cX12_takesToken 14 = .ok (.aload_n 0, 1) := by decide +kernel
theorem dX12_takesToken_15 : decode cX12_takesToken 15 = .ok (.getfield 83, 3) := by decide +kernel
theorem dX12_takesToken_18 : decode cX12_takesToken 18 = .ok (.putfield 92, 3) := by decide +kernel
theorem dX12_takesToken_21 : decode cX12_takesToken 21 = .ok (.iconst 0, 1) := by decide +kernel
theorem dX12_takesToken_22 : decode cX12_takesToken 22 = .ok (.ireturn, 1) := by decide +kernel
theorem dX12_takesToken_23 : decode cX12_takesToken 23 = .ok (.aload_n 0, 1) := by decide +kernel
theorem dX12_takesToken_24 : decode cX12_takesToken 24 = .ok (.getfield 86, 3) := by decide +kernel
theorem dX12_takesToken_27 : decode cX12_takesToken 27 = .ok (.istore_n 2, 1) := by decide +kernel
theorem dX12_takesToken_28 : decode cX12_takesToken 28 = .ok (.aload_n 0, 1) := by decide +kernel
theorem dX12_takesToken_29 : decode cX12_takesToken 29 = .ok (.invokevirtual 99, 3) := by decide +kernel
theorem dX12_takesToken_32 : decode cX12_takesToken 32 = .ok (.iload_n 2, 1) := by decide +kernel
theorem dX12_takesToken_33 : decode cX12_takesToken 33 = .ok (.ireturn, 1) := by decide +kernel
theorem dX12_number_0 : decode cX12_number 0 = .ok (.aload_n 0, 1) := by decide +kernel
theorem dX12_number_1 : decode cX12_number 1 = .ok (.aload_n 0, 1) := by decide +kernel
theorem dX12_number_2 : decode cX12_number 2 = .ok (.getfield 89, 3) := by decide +kernel
theorem dX12_number_5 : decode cX12_number 5 = .ok (.iconst 2, 1) := by decide +kernel
theorem dX12_number_6 : decode cX12_number 6 = .ok (.if_icmp .ne 19, 3) := by decide +kernel
theorem dX12_number_9 : decode cX12_number 9 = .ok (.aload_n 0, 1) := by decide +kernel
theorem dX12_number_10 : decode cX12_number 10 = .ok (.getfield 86, 3) := by decide +kernel
theorem dX12_number_13 : decode cX12_number 13 = .ok (.iload_n 1, 1) := by decide +kernel
theorem dX12_number_14 : decode cX12_number 14 = .ok (.iload_n 2, 1) := by decide +kernel
theorem dX12_number_15 : decode cX12_number 15 = .ok (.invokestatic 69, 3) := by decide +kernel
theorem dX12_number_18 : decode cX12_number 18 = .ok (.ifCond .eq 7, 3) := by decide +kernel
theorem dX12_number_21 : decode cX12_number 21 = .ok (.iconst 1, 1) := by decide +kernel
theorem dX12_number_22 : decode cX12_number 22 = .ok (.goto 4, 3) := by decide +kernel
theorem dX12_number_25 : decode cX12_number 25 = .ok (.iconst 0, 1) := by decide +kernel
theorem dX12_number_26 : decode cX12_number 26 = .ok (.invokevirtual 102, 3) := by decide +kernel
theorem dX12_number_29 : decode cX12_number 29 = .ok (.ireturn, 1) := by decide +kernel
theorem dX12_begins_0 : decode cX12_begins 0 = .ok (.aload_n 0, 1) := by decide +kernel
theorem dX12_begins_1 : decode cX12_begins 1 = .ok (.getfield 13, 3) := by decide +kernel
theorem dX12_begins_4 : decode cX12_begins 4 = .ok (.iconst 3, 1) := by decide +kernel
theorem dX12_begins_5 : decode cX12_begins 5 = .ok (.bipush 6, 2) := by decide +kernel
theorem dX12_begins_7 : decode cX12_begins 7 = .ok (.iastore, 1) := by decide +kernel
theorem dX12_begins_8 : decode cX12_begins 8 = .ok (.aload_n 0, 1) := by decide +kernel
theorem dX12_begins_9 : decode cX12_begins 9 = .ok (.getfield 13, 3) := by decide +kernel
theorem dX12_begins_12 : decode cX12_begins 12 = .ok (.iconst 4, 1) := by decide +kernel
theorem dX12_begins_13 : decode cX12_begins 13 = .ok (.iconst 0, 1) := by decide +kernel
theorem dX12_begins_14 : decode cX12_begins 14 = .ok (.iastore, 1) := by decide +kernel
theorem dX12_begins_15 : decode cX12_begins 15 = .ok (.aload_n 0, 1) := by decide +kernel
theorem dX12_begins_16 : decode cX12_begins 16 = .ok (.getfield 13, 3) := by decide +kernel
theorem dX12_begins_19 : decode cX12_begins 19 = .ok (.iconst 5, 1) := by decide +kernel
theorem dX12_begins_20 : decode cX12_begins 20 = .ok (.iconst 0, 1) := by decide +kernel
theorem dX12_begins_21 : decode cX12_begins 21 = .ok (.iastore, 1) := by decide +kernel
theorem dX12_begins_22 : decode cX12_begins 22 = .ok (.iconst 0, 1) := by decide +kernel
theorem dX12_begins_23 : decode cX12_begins 23 = .ok (.istore_n 1, 1) := by decide +kernel
theorem dX12_begins_24 : decode cX12_begins 24 = .ok (.iload_n 1, 1) := by decide +kernel
theorem dX12_begins_25 : decode cX12_begins 25 = .ok (.bipush 25, 2) := by decide +kernel
theorem dX12_begins_27 : decode cX12_begins 27 = .ok (.if_icmp .ge 16, 3) := by decide +kernel
theorem dX12_begins_30 : decode cX12_begins 30 = .ok (.aload_n 0, 1) := by decide +kernel
theorem dX12_begins_31 : decode cX12_begins 31 = .ok (.getfield 25, 3) := by decide +kernel
theorem dX12_begins_34 : decode cX12_begins 34 = .ok (.iload_n 1, 1) := by decide +kernel
theorem dX12_begins_35 : decode cX12_begins 35 = .ok (.iconst 0, 1) := by decide +kernel
theorem dX12_begins_36 : decode cX12_begins 36 = .ok (.iastore, 1) := by decide +kernel
theorem dX12_begins_37 : decode cX12_begins 37 = .ok (.iinc 1 1, 3) := by decide +kernel
theorem dX12_begins_40 : decode cX12_begins 40 = .ok (.goto (-16), 3) := by decide +kernel
theorem dX12_begins_43 : decode cX12_begins 43 = .ok (.return_, 1) := by decide +kernel
theorem dX12_mayBegin_0 : decode cX12_mayBegin 0 = .ok (.aload_n 0, 1) := by decide +kernel
theorem dX12_mayBegin_1 : decode cX12_mayBegin 1 = .ok (.getfield 86, 3) := by decide +kernel
theorem dX12_mayBegin_4 : decode cX12_mayBegin 4 = .ok (.bipush 110, 2) := by decide +kernel
theorem dX12_mayBegin_6 : decode cX12_mayBegin 6 = .ok (.if_icmp .ne 15, 3) := by decide +kernel
theorem dX12_mayBegin_9 : decode cX12_mayBegin 9 = .ok (.iload_n 1, 1) := by decide +kernel
theorem dX12_mayBegin_10 : decode cX12_mayBegin 10 = .ok (.ifCond .ne 7, 3) := by decide +kernel
theorem dX12_mayBegin_13 : decode cX12_mayBegin 13 = .ok (.iconst 1, 1) := by decide +kernel
theorem dX12_mayBegin_14 : decode cX12_mayBegin 14 = .ok (.goto 60, 3) := by decide +kernel
theorem dX12_mayBegin_17 : decode cX12_mayBegin 17 = .ok (.iconst 0, 1) := by decide +kernel
theorem dX12_mayBegin_18 : decode cX12_mayBegin 18 = .ok (.goto 56, 3) := by decide +kernel
theorem dX12_mayBegin_21 : decode cX12_mayBegin 21 = .ok (.aload_n 0, 1) := by decide +kernel
theorem dX12_mayBegin_22 : decode cX12_mayBegin 22 = .ok (.getfield 86, 3) := by decide +kernel
theorem dX12_mayBegin_25 : decode cX12_mayBegin 25 = .ok (.bipush 103, 2) := by decide +kernel
theorem dX12_mayBegin_27 : decode cX12_mayBegin 27 = .ok (.if_icmp .ne 22, 3) := by decide +kernel
theorem dX12_mayBegin_30 : decode cX12_mayBegin 30 = .ok (.aload_n 0, 1) := by decide +kernel
theorem dX12_mayBegin_31 : decode cX12_mayBegin 31 = .ok (.getfield 13, 3) := by decide +kernel
theorem dX12_mayBegin_34 : decode cX12_mayBegin 34 = .ok (.iconst 4, 1) := by decide +kernel
theorem dX12_mayBegin_35 : decode cX12_mayBegin 35 = .ok (.iaload, 1) := by decide +kernel
theorem dX12_mayBegin_36 : decode cX12_mayBegin 36 = .ok (.bipush 6, 2) := by decide +kernel
theorem dX12_mayBegin_38 : decode cX12_mayBegin 38 = .ok (.if_icmp .ge 7, 3) := by decide +kernel
theorem dX12_mayBegin_41 : decode cX12_mayBegin 41 = .ok (.iconst 1, 1) := by decide +kernel
theorem dX12_mayBegin_42 : decode cX12_mayBegin 42 = .ok (.goto 32, 3) := by decide +kernel
theorem dX12_mayBegin_45 : decode cX12_mayBegin 45 = .ok (.iconst 0, 1) := by decide +kernel
theorem dX12_mayBegin_46 : decode cX12_mayBegin 46 = .ok (.goto 28, 3) := by decide +kernel
theorem dX12_mayBegin_49 : decode cX12_mayBegin 49 = .ok (.aload_n 0, 1) := by decide +kernel
theorem dX12_mayBegin_50 : decode cX12_mayBegin 50 = .ok (.getfield 86, 3) := by decide +kernel
theorem dX12_mayBegin_53 : decode cX12_mayBegin 53 = .ok (.bipush 100, 2) := by decide +kernel
theorem dX12_mayBegin_55 : decode cX12_mayBegin 55 = .ok (.if_icmp .ne 18, 3) := by decide +kernel
theorem dX12_mayBegin_58 : decode cX12_mayBegin 58 = .ok (.aload_n 0, 1) := by decide +kernel
theorem dX12_mayBegin_59 : decode cX12_mayBegin 59 = .ok (.getfield 13, 3) := by decide +kernel
theorem dX12_mayBegin_62 : decode cX12_mayBegin 62 = .ok (.iconst 5, 1) := by decide +kernel
theorem dX12_mayBegin_63 : decode cX12_mayBegin 63 = .ok (.iaload, 1) := by decide +kernel
theorem dX12_mayBegin_64 : decode cX12_mayBegin 64 = .ok (.bipush 6, 2) := by decide +kernel
theorem dX12_mayBegin_66 : decode cX12_mayBegin 66 = .ok (.if_icmp .ge 7, 3) := by decide +kernel
theorem dX12_mayBegin_69 : decode cX12_mayBegin 69 = .ok (.iconst 1, 1) := by decide +kernel
theorem dX12_mayBegin_70 : decode cX12_mayBegin 70 = .ok (.goto 4, 3) := by decide +kernel
theorem dX12_mayBegin_73 : decode cX12_mayBegin 73 = .ok (.iconst 0, 1) := by decide +kernel
theorem dX12_mayBegin_74 : decode cX12_mayBegin 74 = .ok (.ireturn, 1) := by decide +kernel
theorem dX12_free_0 : decode cX12_free 0 = .ok (.aload_n 0, 1) := by decide +kernel
theorem dX12_free_1 : decode cX12_free 1 = .ok (.getfield 89, 3) := by decide +kernel
theorem dX12_free_4 : decode cX12_free 4 = .ok (.iconst 2, 1) := by decide +kernel
theorem dX12_free_5 : decode cX12_free 5 = .ok (.if_icmp .ne 26, 3) := by decide +kernel
theorem dX12_free_8 : decode cX12_free 8 = .ok (.aload_n 0, 1) := by decide +kernel
theorem dX12_free_9 : decode cX12_free 9 = .ok (.getfield 86, 3) := by decide +kernel
theorem dX12_free_12 : decode cX12_free 12 = .ok (.iconst 0, 1) := by decide +kernel
theorem dX12_free_13 : decode cX12_free 13 = .ok (.aload_n 0, 1) := by decide +kernel
theorem dX12_free_14 : decode cX12_free 14 = .ok (.getfield 13, 3) := by decide +kernel
theorem dX12_free_17 : decode cX12_free 17 = .ok (.iconst 3, 1) := by decide +kernel
theorem dX12_free_18 : decode cX12_free 18 = .ok (.iaload, 1) := by decide +kernel
theorem dX12_free_19 : decode cX12_free 19 = .ok (.iconst 1, 1) := by decide +kernel
theorem dX12_free_20 : decode cX12_free 20 = .ok (.isub, 1) := by decide +kernel
theorem dX12_free_21 : decode cX12_free 21 = .ok (.invokestatic 69, 3) := by decide +kernel
theorem dX12_free_24 : decode cX12_free 24 = .ok (.ifCond .eq 7, 3) := by decide +kernel
theorem dX12_free_27 : decode cX12_free 27 = .ok (.iconst 1, 1) := by decide +kernel
theorem dX12_free_28 : decode cX12_free 28 = .ok (.goto 4, 3) := by decide +kernel
theorem dX12_free_31 : decode cX12_free 31 = .ok (.iconst 0, 1) := by decide +kernel
theorem dX12_free_32 : decode cX12_free 32 = .ok (.istore_n 3, 1) := by decide +kernel
theorem dX12_free_33 : decode cX12_free 33 = .ok (.iconst 0, 1) := by decide +kernel
theorem dX12_free_34 : decode cX12_free 34 = .ok (.istore 4, 2) := by decide +kernel
theorem dX12_free_36 : decode cX12_free 36 = .ok (.iload 4, 2) := by decide +kernel
theorem dX12_free_38 : decode cX12_free 38 = .ok (.iload_n 2, 1) := by decide +kernel
theorem dX12_free_39 : decode cX12_free 39 = .ok (.if_icmp .ge 35, 3) := by decide +kernel
theorem dX12_free_42 : decode cX12_free 42 = .ok (.iload_n 3, 1) := by decide +kernel
theorem dX12_free_43 : decode cX12_free 43 = .ok (.ifCond .eq 31, 3) := by decide +kernel
theorem dX12_free_46 : decode cX12_free 46 = .ok (.aload_n 0, 1) := by decide +kernel
theorem dX12_free_47 : decode cX12_free 47 = .ok (.getfield 25, 3) := by decide +kernel
theorem dX12_free_50 : decode cX12_free 50 = .ok (.iload_n 1, 1) := by decide +kernel
theorem dX12_free_51 : decode cX12_free 51 = .ok (.iload 4, 2) := by decide +kernel
theorem dX12_free_53 : decode cX12_free 53 = .ok (.iadd, 1) := by decide +kernel
theorem dX12_free_54 : decode cX12_free 54 = .ok (.iaload, 1) := by decide +kernel
theorem dX12_free_55 : decode cX12_free 55 = .ok (.aload_n 0, 1) := by decide +kernel
theorem dX12_free_56 : decode cX12_free 56 = .ok (.getfield 86, 3) := by decide +kernel
theorem dX12_free_59 : decode cX12_free 59 = .ok (.if_icmp .eq 7, 3) := by decide +kernel
theorem dX12_free_62 : decode cX12_free 62 = .ok (.iconst 1, 1) := by decide +kernel
theorem dX12_free_63 : decode cX12_free 63 = .ok (.goto 4, 3) := by decide +kernel
theorem dX12_free_66 : decode cX12_free 66 = .ok (.iconst 0, 1) := by decide +kernel
theorem dX12_free_67 : decode cX12_free 67 = .ok (.istore_n 3, 1) := by decide +kernel
theorem dX12_free_68 : decode cX12_free 68 = .ok (.iinc 4 1, 3) := by decide +kernel
theorem dX12_free_71 : decode cX12_free 71 = .ok (.goto (-35), 3) := by decide +kernel
theorem dX12_free_74 : decode cX12_free 74 = .ok (.aload_n 0, 1) := by decide +kernel
theorem dX12_free_75 : decode cX12_free 75 = .ok (.iload_n 3, 1) := by decide +kernel
theorem dX12_free_76 : decode cX12_free 76 = .ok (.invokevirtual 102, 3) := by decide +kernel
theorem dX12_free_79 : decode cX12_free 79 = .ok (.ireturn, 1) := by decide +kernel
theorem dX12_lettersRow_0 : decode cX12_lettersRow 0 = .ok (.aload_n 0, 1) := by decide +kernel
theorem dX12_lettersRow_1 : decode cX12_lettersRow 1 = .ok (.getfield 76, 3) := by decide +kernel
theorem dX12_lettersRow_4 : decode cX12_lettersRow 4 = .ok (.aload_n 0, 1) := by decide +kernel
theorem dX12_lettersRow_5 : decode cX12_lettersRow 5 = .ok (.getfield 83, 3) := by decide +kernel
theorem dX12_lettersRow_8 : decode cX12_lettersRow 8 = .ok (.isub, 1) := by decide +kernel
theorem dX12_lettersRow_9 : decode cX12_lettersRow 9 = .ok (.istore_n 1, 1) := by decide +kernel
theorem dX12_lettersRow_10 : decode cX12_lettersRow 10 = .ok (.aload_n 0, 1) := by decide +kernel
theorem dX12_lettersRow_11 : decode cX12_lettersRow 11 = .ok (.invokevirtual 95, 3) := by decide +kernel
theorem dX12_lettersRow_14 : decode cX12_lettersRow 14 = .ok (.ifCond .eq 25, 3) := by decide +kernel
theorem dX12_lettersRow_17 : decode cX12_lettersRow 17 = .ok (.aload_n 0, 1) := by decide +kernel
theorem dX12_lettersRow_18 : decode cX12_lettersRow 18 = .ok (.getfield 89, 3) := by decide +kernel
theorem dX12_lettersRow_21 : decode cX12_lettersRow 21 = .ok (.iconst 1, 1) := by decide +kernel
theorem dX12_lettersRow_22 : decode cX12_lettersRow 22 = .ok (.if_icmp .ne 17, 3) := by decide +kernel
theorem dX12_lettersRow_25 : decode cX12_lettersRow 25 = .ok (.iload_n 1, 1) := by decide +kernel
theorem dX12_lettersRow_26 : decode cX12_lettersRow 26 = .ok (.iconst 1, 1) := by decide +kernel
theorem dX12_lettersRow_27 : decode cX12_lettersRow 27 = .ok (.bipush 6, 2) := by decide +kernel
theorem dX12_lettersRow_29 : decode cX12_lettersRow 29 = .ok (.invokestatic 69, 3) := by decide +kernel
theorem dX12_lettersRow_32 : decode cX12_lettersRow 32 = .ok (.ifCond .eq 7, 3) := by decide +kernel
theorem dX12_lettersRow_35 : decode cX12_lettersRow 35 = .ok (.iconst 1, 1) := by decide +kernel
theorem dX12_lettersRow_36 : decode cX12_lettersRow 36 = .ok (.goto 4, 3) := by decide +kernel
theorem dX12_lettersRow_39 : decode cX12_lettersRow 39 = .ok (.iconst 0, 1) := by decide +kernel
theorem dX12_lettersRow_40 : decode cX12_lettersRow 40 = .ok (.istore_n 2, 1) := by decide +kernel
theorem dX12_lettersRow_41 : decode cX12_lettersRow 41 = .ok (.iconst 0, 1) := by decide +kernel
theorem dX12_lettersRow_42 : decode cX12_lettersRow 42 = .ok (.istore_n 3, 1) := by decide +kernel
theorem dX12_lettersRow_43 : decode cX12_lettersRow 43 = .ok (.iconst 0, 1) := by decide +kernel
theorem dX12_lettersRow_44 : decode cX12_lettersRow 44 = .ok (.istore 4, 2) := by decide +kernel
theorem dX12_lettersRow_46 : decode cX12_lettersRow 46 = .ok (.iload 4, 2) := by decide +kernel
theorem dX12_lettersRow_48 : decode cX12_lettersRow 48 = .ok (.iload_n 1, 1) := by decide +kernel
theorem dX12_lettersRow_49 : decode cX12_lettersRow 49 = .ok (.if_icmp .ge 54, 3) := by decide +kernel
theorem dX12_lettersRow_52 : decode cX12_lettersRow 52 = .ok (.iload_n 2, 1) := by decide +kernel
theorem dX12_lettersRow_53 : decode cX12_lettersRow 53 = .ok (.ifCond .eq 50, 3) := by decide +kernel
theorem dX12_lettersRow_56 : decode cX12_lettersRow 56 = .ok (.aload_n 0, 1) := by decide +kernel
theorem dX12_lettersRow_57 : decode cX12_lettersRow 57 = .ok (.aload_n 0, 1) := by decide +kernel
theorem dX12_lettersRow_58 : decode cX12_lettersRow 58 = .ok (.getfield 83, 3) := by decide +kernel
theorem dX12_lettersRow_61 : decode cX12_lettersRow 61 = .ok (.iload 4, 2) := by decide +kernel
theorem dX12_lettersRow_63 : decode cX12_lettersRow 63 = .ok (.iadd, 1) := by decide +kernel
theorem dX12_lettersRow_64 : decode cX12_lettersRow 64 = .ok (.invokevirtual 79, 3) := by decide +kernel
theorem dX12_lettersRow_67 : decode cX12_lettersRow 67 = .ok (.istore 5, 2) := by decide +kernel
theorem dX12_lettersRow_69 : decode cX12_lettersRow 69 = .ok (.iload 5, 2) := by decide +kernel
theorem dX12_lettersRow_71 : decode cX12_lettersRow 71 = .ok (.bipush 97, 2) := by decide +kernel
theorem dX12_lettersRow_73 : decode cX12_lettersRow 73 = .ok (.bipush 102, 2) := by decide +kernel
theorem dX12_lettersRow_75 : decode cX12_lettersRow 75 = .ok (.invokestatic 69, 3) := by decide +kernel
theorem dX12_lettersRow_78 : decode cX12_lettersRow 78 = .ok (.istore_n 2, 1) := by decide +kernel
theorem dX12_lettersRow_79 : decode cX12_lettersRow 79 = .ok (.iload_n 3, 1) := by decide +kernel
theorem dX12_lettersRow_80 : decode cX12_lettersRow 80 = .ok (.iload_n 2, 1) := by decide +kernel
theorem dX12_lettersRow_81 : decode cX12_lettersRow 81 = .ok (.ifCond .eq 13, 3) := by decide +kernel
theorem dX12_lettersRow_84 : decode cX12_lettersRow 84 = .ok (.iconst 1, 1) := by decide +kernel
theorem dX12_lettersRow_85 : decode cX12_lettersRow 85 = .ok (.iload 5, 2) := by decide +kernel
theorem dX12_lettersRow_87 : decode cX12_lettersRow 87 = .ok (.bipush 97, 2) := by decide +kernel
theorem dX12_lettersRow_89 : decode cX12_lettersRow 89 = .ok (.isub, 1) := by decide +kernel
theorem dX12_lettersRow_90 : decode cX12_lettersRow 90 = .ok (.ishl, 1) := by decide +kernel
theorem dX12_lettersRow_91 : decode cX12_lettersRow 91 = .ok (.goto 4, 3) := by decide +kernel
theorem dX12_lettersRow_94 : decode cX12_lettersRow 94 = .ok (.iconst 0, 1) := by decide +kernel
theorem dX12_lettersRow_95 : decode cX12_lettersRow 95 = .ok (.ior, 1) := by decide +kernel
theorem dX12_lettersRow_96 : decode cX12_lettersRow 96 = .ok (.istore_n 3, 1) := by decide +kernel
theorem dX12_lettersRow_97 : decode cX12_lettersRow 97 = .ok (.iinc 4 1, 3) := by decide +kernel
theorem dX12_lettersRow_100 : decode cX12_lettersRow 100 = .ok (.goto (-54), 3) := by decide +kernel
theorem dX12_lettersRow_103 : decode cX12_lettersRow 103 = .ok (.aload_n 0, 1) := by decide +kernel
theorem dX12_lettersRow_104 : decode cX12_lettersRow 104 = .ok (.iload_n 2, 1) := by decide +kernel
theorem dX12_lettersRow_105 : decode cX12_lettersRow 105 = .ok (.invokevirtual 102, 3) := by decide +kernel
theorem dX12_lettersRow_108 : decode cX12_lettersRow 108 = .ok (.pop, 1) := by decide +kernel
theorem dX12_lettersRow_109 : decode cX12_lettersRow 109 = .ok (.iload_n 3, 1) := by decide +kernel
theorem dX12_lettersRow_110 : decode cX12_lettersRow 110 = .ok (.ireturn, 1) := by decide +kernel
theorem dX12_readsItem_0 : decode cX12_readsItem 0 = .ok (.iload_n 1, 1) := by decide +kernel
theorem dX12_readsItem_1 : decode cX12_readsItem 1 = .ok (.bipush 110, 2) := by decide +kernel
theorem dX12_readsItem_3 : decode cX12_readsItem 3 = .ok (.if_icmp .ne 19, 3) := by decide +kernel
theorem dX12_readsItem_6 : decode cX12_readsItem 6 = .ok (.aload_n 0, 1) := by decide +kernel
theorem dX12_readsItem_7 : decode cX12_readsItem 7 = .ok (.getfield 13, 3) := by decide +kernel
theorem dX12_readsItem_10 : decode cX12_readsItem 10 = .ok (.iconst 3, 1) := by decide +kernel
theorem dX12_readsItem_11 : decode cX12_readsItem 11 = .ok (.aload_n 0, 1) := by decide +kernel
theorem dX12_readsItem_12 : decode cX12_readsItem 12 = .ok (.iconst 3, 1) := by decide +kernel
theorem dX12_readsItem_13 : decode cX12_readsItem 13 = .ok (.bipush 9, 2) := by decide +kernel
theorem dX12_readsItem_15 : decode cX12_readsItem 15 = .ok (.invokevirtual 106, 3) := by decide +kernel
theorem dX12_readsItem_18 : decode cX12_readsItem 18 = .ok (.iastore, 1) := by decide +kernel
theorem dX12_readsItem_19 : decode cX12_readsItem 19 = .ok (.goto 136, 3) := by decide +kernel
theorem dX12_readsItem_22 : decode cX12_readsItem 22 = .ok (.iload_n 1, 1) := by decide +kernel
theorem dX12_readsItem_23 : decode cX12_readsItem 23 = .ok (.bipush 103, 2) := by decide +kernel
theorem dX12_readsItem_25 : decode cX12_readsItem 25 = .ok (.if_icmp .ne 67, 3) := by decide +kernel
theorem dX12_readsItem_28 : decode cX12_readsItem 28 = .ok (.aload_n 0, 1) := by decide +kernel
theorem dX12_readsItem_29 : decode cX12_readsItem 29 = .ok (.getfield 13, 3) := by decide +kernel
theorem dX12_readsItem_32 : decode cX12_readsItem 32 = .ok (.iconst 4, 1) := by decide +kernel
theorem dX12_readsItem_33 : decode cX12_readsItem 33 = .ok (.iaload, 1) := by decide +kernel
theorem dX12_readsItem_34 : decode cX12_readsItem 34 = .ok (.istore_n 2, 1) := by decide +kernel
theorem dX12_readsItem_35 : decode cX12_readsItem 35 = .ok (.aload_n 0, 1) := by decide +kernel
theorem dX12_readsItem_36 : decode cX12_readsItem 36 = .ok (.getfield 25, 3) := by decide +kernel
theorem dX12_readsItem_39 : decode cX12_readsItem 39 = .ok (.bipush 13, 2) := by decide +kernel
theorem dX12_readsItem_41 : decode cX12_readsItem 41 = .ok (.iload_n 2, 1) := by decide +kernel
theorem dX12_readsItem_42 : decode cX12_readsItem 42 = .ok (.iadd, 1) := by decide +kernel
theorem dX12_readsItem_43 : decode cX12_readsItem 43 = .ok (.aload_n 0, 1) := by decide +kernel
theorem dX12_readsItem_44 : decode cX12_readsItem 44 = .ok (.bipush 13, 2) := by decide +kernel
theorem dX12_readsItem_46 : decode cX12_readsItem 46 = .ok (.iload_n 2, 1) := by decide +kernel
theorem dX12_readsItem_47 : decode cX12_readsItem 47 = .ok (.invokevirtual 110, 3) := by decide +kernel
theorem dX12_readsItem_50 : decode cX12_readsItem 50 = .ok (.iastore, 1) := by decide +kernel
theorem dX12_readsItem_51 : decode cX12_readsItem 51 = .ok (.aload_n 0, 1) := by decide +kernel
theorem dX12_readsItem_52 : decode cX12_readsItem 52 = .ok (.getfield 16, 3) := by decide +kernel
theorem dX12_readsItem_55 : decode cX12_readsItem 55 = .ok (.bipush 6, 2) := by decide +kernel
theorem dX12_readsItem_57 : decode cX12_readsItem 57 = .ok (.iload_n 2, 1) := by decide +kernel
theorem dX12_readsItem_58 : decode cX12_readsItem 58 = .ok (.iadd, 1) := by decide +kernel
theorem dX12_readsItem_59 : decode cX12_readsItem 59 = .ok (.aload_n 0, 1) := by decide +kernel
theorem dX12_readsItem_60 : decode cX12_readsItem 60 = .ok (.iconst 0, 1) := by decide +kernel
theorem dX12_readsItem_61 : decode cX12_readsItem 61 = .ok (.iconst 2, 1) := by decide +kernel
theorem dX12_readsItem_62 : decode cX12_readsItem 62 = .ok (.invokevirtual 106, 3) := by decide +kernel
theorem dX12_readsItem_65 : decode cX12_readsItem 65 = .ok (.iastore, 1) := by decide +kernel
theorem dX12_readsItem_66 : decode cX12_readsItem 66 = .ok (.aload_n 0, 1) := by decide +kernel
theorem dX12_readsItem_67 : decode cX12_readsItem 67 = .ok (.getfield 19, 3) := by decide +kernel
theorem dX12_readsItem_70 : decode cX12_readsItem 70 = .ok (.bipush 6, 2) := by decide +kernel
theorem dX12_readsItem_72 : decode cX12_readsItem 72 = .ok (.iload_n 2, 1) := by decide +kernel
theorem dX12_readsItem_73 : decode cX12_readsItem 73 = .ok (.iadd, 1) := by decide +kernel
theorem dX12_readsItem_74 : decode cX12_readsItem 74 = .ok (.aload_n 0, 1) := by decide +kernel
theorem dX12_readsItem_75 : decode cX12_readsItem 75 = .ok (.invokevirtual 113, 3) := by decide +kernel
theorem dX12_readsItem_78 : decode cX12_readsItem 78 = .ok (.iastore, 1) := by decide +kernel
theorem dX12_readsItem_79 : decode cX12_readsItem 79 = .ok (.aload_n 0, 1) := by decide +kernel
theorem dX12_readsItem_80 : decode cX12_readsItem 80 = .ok (.getfield 13, 3) := by decide +kernel
theorem dX12_readsItem_83 : decode cX12_readsItem 83 = .ok (.iconst 4, 1) := by decide +kernel
theorem dX12_readsItem_84 : decode cX12_readsItem 84 = .ok (.dup2, 1) := by decide +kernel
theorem dX12_readsItem_85 : decode cX12_readsItem 85 = .ok (.iaload, 1) := by decide +kernel
theorem dX12_readsItem_86 : decode cX12_readsItem 86 = .ok (.iconst 1, 1) := by decide +kernel
theorem dX12_readsItem_87 : decode cX12_readsItem 87 = .ok (.iadd, 1) := by decide +kernel
theorem dX12_readsItem_88 : decode cX12_readsItem 88 = .ok (.iastore, 1) := by decide +kernel
theorem dX12_readsItem_89 : decode cX12_readsItem 89 = .ok (.goto 66, 3) := by decide +kernel
theorem dX12_readsItem_92 : decode cX12_readsItem 92 = .ok (.aload_n 0, 1) := by decide +kernel
theorem dX12_readsItem_93 : decode cX12_readsItem 93 = .ok (.getfield 13, 3) := by decide +kernel
theorem dX12_readsItem_96 : decode cX12_readsItem 96 = .ok (.iconst 5, 1) := by decide +kernel
theorem dX12_readsItem_97 : decode cX12_readsItem 97 = .ok (.iaload, 1) := by decide +kernel
theorem dX12_readsItem_98 : decode cX12_readsItem 98 = .ok (.istore_n 2, 1) := by decide +kernel
theorem dX12_readsItem_99 : decode cX12_readsItem 99 = .ok (.aload_n 0, 1) := by decide +kernel
theorem dX12_readsItem_100 : decode cX12_readsItem 100 = .ok (.getfield 25, 3) := by decide +kernel
theorem dX12_readsItem_103 : decode cX12_readsItem 103 = .ok (.bipush 7, 2) := by decide +kernel
theorem dX12_readsItem_105 : decode cX12_readsItem 105 = .ok (.iload_n 2, 1) := by decide +kernel
theorem dX12_readsItem_106 : decode cX12_readsItem 106 = .ok (.iadd, 1) := by decide +kernel
theorem dX12_readsItem_107 : decode cX12_readsItem 107 = .ok (.aload_n 0, 1) := by decide +kernel
theorem dX12_readsItem_108 : decode cX12_readsItem 108 = .ok (.bipush 7, 2) := by decide +kernel
theorem dX12_readsItem_110 : decode cX12_readsItem 110 = .ok (.iload_n 2, 1) := by decide +kernel
theorem dX12_readsItem_111 : decode cX12_readsItem 111 = .ok (.invokevirtual 110, 3) := by decide +kernel
theorem dX12_readsItem_114 : decode cX12_readsItem 114 = .ok (.iastore, 1) := by decide +kernel
theorem dX12_readsItem_115 : decode cX12_readsItem 115 = .ok (.aload_n 0, 1) := by decide +kernel
theorem dX12_readsItem_116 : decode cX12_readsItem 116 = .ok (.getfield 25, 3) := by decide +kernel
theorem dX12_readsItem_119 : decode cX12_readsItem 119 = .ok (.iconst 1, 1) := by decide +kernel
theorem dX12_readsItem_120 : decode cX12_readsItem 120 = .ok (.iload_n 2, 1) := by decide +kernel
theorem dX12_readsItem_121 : decode cX12_readsItem 121 = .ok (.iadd, 1) := by decide +kernel
theorem dX12_readsItem_122 : decode cX12_readsItem 122 = .ok (.aload_n 0, 1) := by decide +kernel
theorem dX12_readsItem_123 : decode cX12_readsItem 123 = .ok (.iconst 1, 1) := by decide +kernel
theorem dX12_readsItem_124 : decode cX12_readsItem 124 = .ok (.bipush 9, 2) := by decide +kernel
theorem dX12_readsItem_126 : decode cX12_readsItem 126 = .ok (.invokevirtual 106, 3) := by decide +kernel
theorem dX12_readsItem_129 : decode cX12_readsItem 129 = .ok (.iastore, 1) := by decide +kernel
theorem dX12_readsItem_130 : decode cX12_readsItem 130 = .ok (.aload_n 0, 1) := by decide +kernel
theorem dX12_readsItem_131 : decode cX12_readsItem 131 = .ok (.getfield 22, 3) := by decide +kernel
theorem dX12_readsItem_134 : decode cX12_readsItem 134 = .ok (.bipush 6, 2) := by decide +kernel
theorem dX12_readsItem_136 : decode cX12_readsItem 136 = .ok (.iload_n 2, 1) := by decide +kernel
theorem dX12_readsItem_137 : decode cX12_readsItem 137 = .ok (.iadd, 1) := by decide +kernel
theorem dX12_readsItem_138 : decode cX12_readsItem 138 = .ok (.aload_n 0, 1) := by decide +kernel
theorem dX12_readsItem_139 : decode cX12_readsItem 139 = .ok (.iconst 0, 1) := by decide +kernel
theorem dX12_readsItem_140 : decode cX12_readsItem 140 = .ok (.iconst 1, 1) := by decide +kernel
theorem dX12_readsItem_141 : decode cX12_readsItem 141 = .ok (.invokevirtual 106, 3) := by decide +kernel
theorem dX12_readsItem_144 : decode cX12_readsItem 144 = .ok (.iastore, 1) := by decide +kernel
theorem dX12_readsItem_145 : decode cX12_readsItem 145 = .ok (.aload_n 0, 1) := by decide +kernel
theorem dX12_readsItem_146 : decode cX12_readsItem 146 = .ok (.getfield 13, 3) := by decide +kernel
theorem dX12_readsItem_149 : decode cX12_readsItem 149 = .ok (.iconst 5, 1) := by decide +kernel
theorem dX12_readsItem_150 : decode cX12_readsItem 150 = .ok (.dup2, 1) := by decide +kernel
theorem dX12_readsItem_151 : decode cX12_readsItem 151 = .ok (.iaload, 1) := by decide +kernel
theorem dX12_readsItem_152 : decode cX12_readsItem 152 = .ok (.iconst 1, 1) := by decide +kernel
theorem dX12_readsItem_153 : decode cX12_readsItem 153 = .ok (.iadd, 1) := by decide +kernel
theorem dX12_readsItem_154 : decode cX12_readsItem 154 = .ok (.iastore, 1) := by decide +kernel
theorem dX12_readsItem_155 : decode cX12_readsItem 155 = .ok (.return_, 1) := by decide +kernel
theorem dX12_table_0 : decode cX12_table 0 = .ok (.aload_n 0, 1) := by decide +kernel
theorem dX12_table_1 : decode cX12_table 1 = .ok (.iconst 0, 1) := by decide +kernel
theorem dX12_table_2 : decode cX12_table 2 = .ok (.putfield 65, 3) := by decide +kernel
theorem dX12_table_5 : decode cX12_table 5 = .ok (.aload_n 0, 1) := by decide +kernel
theorem dX12_table_6 : decode cX12_table 6 = .ok (.iconst (-1), 1) := by decide +kernel
theorem dX12_table_7 : decode cX12_table 7 = .ok (.putfield 92, 3) := by decide +kernel
theorem dX12_table_10 : decode cX12_table 10 = .ok (.aload_n 0, 1) := by decide +kernel
theorem dX12_table_11 : decode cX12_table 11 = .ok (.iconst 0, 1) := by decide +kernel
theorem dX12_table_12 : decode cX12_table 12 = .ok (.putfield 76, 3) := by decide +kernel
theorem dX12_table_15 : decode cX12_table 15 = .ok (.aload_n 0, 1) := by decide +kernel
theorem dX12_table_16 : decode cX12_table 16 = .ok (.invokevirtual 59, 3) := by decide +kernel
theorem dX12_table_19 : decode cX12_table 19 = .ok (.iconst 0, 1) := by decide +kernel
theorem dX12_table_20 : decode cX12_table 20 = .ok (.istore_n 1, 1) := by decide +kernel
theorem dX12_table_21 : decode cX12_table 21 = .ok (.aload_n 0, 1) := by decide +kernel
theorem dX12_table_22 : decode cX12_table 22 = .ok (.invokevirtual 99, 3) := by decide +kernel
theorem dX12_table_25 : decode cX12_table 25 = .ok (.aload_n 0, 1) := by decide +kernel
theorem dX12_table_26 : decode cX12_table 26 = .ok (.invokevirtual 95, 3) := by decide +kernel
theorem dX12_table_29 : decode cX12_table 29 = .ok (.ifCond .eq 72, 3) := by decide +kernel
theorem dX12_table_32 : decode cX12_table 32 = .ok (.aload_n 0, 1) := by decide +kernel
theorem dX12_table_33 : decode cX12_table 33 = .ok (.getfield 89, 3) := by decide +kernel
theorem dX12_table_36 : decode cX12_table 36 = .ok (.ifCond .eq 65, 3) := by decide +kernel
theorem dX12_table_39 : decode cX12_table 39 = .ok (.aload_n 0, 1) := by decide +kernel
theorem dX12_table_40 : decode cX12_table 40 = .ok (.aload_n 0, 1) := by decide +kernel
theorem dX12_table_41 : decode cX12_table 41 = .ok (.getfield 89, 3) := by decide +kernel
theorem dX12_table_44 : decode cX12_table 44 = .ok (.iconst 1, 1) := by decide +kernel
theorem dX12_table_45 : decode cX12_table 45 = .ok (.if_icmp .ne 15, 3) := by decide +kernel
theorem dX12_table_48 : decode cX12_table 48 = .ok (.aload_n 0, 1) := by decide +kernel
theorem dX12_table_49 : decode cX12_table 49 = .ok (.iload_n 1, 1) := by decide +kernel
theorem dX12_table_50 : decode cX12_table 50 = .ok (.invokevirtual 117, 3) := by decide +kernel
theorem dX12_table_53 : decode cX12_table 53 = .ok (.ifCond .eq 7, 3) := by decide +kernel
theorem dX12_table_56 : decode cX12_table 56 = .ok (.iconst 1, 1) := by decide +kernel
theorem dX12_table_57 : decode cX12_table 57 = .ok (.goto 4, 3) := by decide +kernel
theorem dX12_table_60 : decode cX12_table 60 = .ok (.iconst 0, 1) := by decide +kernel
theorem dX12_table_61 : decode cX12_table 61 = .ok (.invokevirtual 102, 3) := by decide +kernel
theorem dX12_table_64 : decode cX12_table 64 = .ok (.istore_n 2, 1) := by decide +kernel
theorem dX12_table_65 : decode cX12_table 65 = .ok (.aload_n 0, 1) := by decide +kernel
theorem dX12_table_66 : decode cX12_table 66 = .ok (.invokevirtual 95, 3) := by decide +kernel
theorem dX12_table_69 : decode cX12_table 69 = .ok (.ifCond .eq 8, 3) := by decide +kernel
theorem dX12_table_72 : decode cX12_table 72 = .ok (.aload_n 0, 1) := by decide +kernel
theorem dX12_table_73 : decode cX12_table 73 = .ok (.iload_n 2, 1) := by decide +kernel
theorem dX12_table_74 : decode cX12_table 74 = .ok (.invokevirtual 121, 3) := by decide +kernel
theorem dX12_table_77 : decode cX12_table 77 = .ok (.aload_n 0, 1) := by decide +kernel
theorem dX12_table_78 : decode cX12_table 78 = .ok (.aload_n 0, 1) := by decide +kernel
theorem dX12_table_79 : decode cX12_table 79 = .ok (.getfield 89, 3) := by decide +kernel
theorem dX12_table_82 : decode cX12_table 82 = .ok (.iconst 3, 1) := by decide +kernel
theorem dX12_table_83 : decode cX12_table 83 = .ok (.if_icmp .ne 7, 3) := by decide +kernel
theorem dX12_table_86 : decode cX12_table 86 = .ok (.iconst 1, 1) := by decide +kernel
theorem dX12_table_87 : decode cX12_table 87 = .ok (.goto 4, 3) := by decide +kernel
theorem dX12_table_90 : decode cX12_table 90 = .ok (.iconst 0, 1) := by decide +kernel
theorem dX12_table_91 : decode cX12_table 91 = .ok (.invokevirtual 102, 3) := by decide +kernel
theorem dX12_table_94 : decode cX12_table 94 = .ok (.pop, 1) := by decide +kernel
theorem dX12_table_95 : decode cX12_table 95 = .ok (.iinc 1 1, 3) := by decide +kernel
theorem dX12_table_98 : decode cX12_table 98 = .ok (.goto (-73), 3) := by decide +kernel
theorem dX12_table_101 : decode cX12_table 101 = .ok (.aload_n 0, 1) := by decide +kernel
theorem dX12_table_102 : decode cX12_table 102 = .ok (.invokevirtual 95, 3) := by decide +kernel
theorem dX12_table_105 : decode cX12_table 105 = .ok (.ifCond .ne 11, 3) := by decide +kernel
theorem dX12_table_108 : decode cX12_table 108 = .ok (.bipush (-10), 2) := by decide +kernel
theorem dX12_table_110 : decode cX12_table 110 = .ok (.aload_n 0, 1) := by decide +kernel
theorem dX12_table_111 : decode cX12_table 111 = .ok (.getfield 92, 3) := by decide +kernel
theorem dX12_table_114 : decode cX12_table 114 = .ok (.isub, 1) := by decide +kernel
theorem dX12_table_115 : decode cX12_table 115 = .ok (.ireturn, 1) := by decide +kernel
theorem dX12_table_116 : decode cX12_table 116 = .ok (.aload_n 0, 1) := by decide +kernel
theorem dX12_table_117 : decode cX12_table 117 = .ok (.invokevirtual 62, 3) := by decide +kernel
theorem dX12_table_120 : decode cX12_table 120 = .ok (.iload_n 1, 1) := by decide +kernel
theorem dX12_table_121 : decode cX12_table 121 = .ok (.ireturn, 1) := by decide +kernel
theorem dX12_settles_0 : decode cX12_settles 0 = .ok (.iconst 0, 1) := by decide +kernel
theorem dX12_settles_1 : decode cX12_settles 1 = .ok (.istore_n 1, 1) := by decide +kernel
theorem dX12_settles_2 : decode cX12_settles 2 = .ok (.iload_n 1, 1) := by decide +kernel
theorem dX12_settles_3 : decode cX12_settles 3 = .ok (.iconst 3, 1) := by decide +kernel
theorem dX12_settles_4 : decode cX12_settles 4 = .ok (.if_icmp .ge 23, 3) := by decide +kernel
theorem dX12_settles_7 : decode cX12_settles 7 = .ok (.aload_n 0, 1) := by decide +kernel
theorem dX12_settles_8 : decode cX12_settles 8 = .ok (.getfield 13, 3) := by decide +kernel
theorem dX12_settles_11 : decode cX12_settles 11 = .ok (.iload_n 1, 1) := by decide +kernel
theorem dX12_settles_12 : decode cX12_settles 12 = .ok (.aload_n 0, 1) := by decide +kernel
theorem dX12_settles_13 : decode cX12_settles 13 = .ok (.getfield 13, 3) := by decide +kernel
theorem dX12_settles_16 : decode cX12_settles 16 = .ok (.iconst 3, 1) := by decide +kernel
theorem dX12_settles_17 : decode cX12_settles 17 = .ok (.iload_n 1, 1) := by decide +kernel
theorem dX12_settles_18 : decode cX12_settles 18 = .ok (.iadd, 1) := by decide +kernel
theorem dX12_settles_19 : decode cX12_settles 19 = .ok (.iaload, 1) := by decide +kernel
theorem dX12_settles_20 : decode cX12_settles 20 = .ok (.iastore, 1) := by decide +kernel
theorem dX12_settles_21 : decode cX12_settles 21 = .ok (.iinc 1 1, 3) := by decide +kernel
theorem dX12_settles_24 : decode cX12_settles 24 = .ok (.goto (-22), 3) := by decide +kernel
theorem dX12_settles_27 : decode cX12_settles 27 = .ok (.iconst 0, 1) := by decide +kernel
theorem dX12_settles_28 : decode cX12_settles 28 = .ok (.istore_n 1, 1) := by decide +kernel
theorem dX12_settles_29 : decode cX12_settles 29 = .ok (.iload_n 1, 1) := by decide +kernel
theorem dX12_settles_30 : decode cX12_settles 30 = .ok (.bipush 6, 2) := by decide +kernel
theorem dX12_settles_32 : decode cX12_settles 32 = .ok (.if_icmp .ge 54, 3) := by decide +kernel
theorem dX12_settles_35 : decode cX12_settles 35 = .ok (.aload_n 0, 1) := by decide +kernel
theorem dX12_settles_36 : decode cX12_settles 36 = .ok (.getfield 16, 3) := by decide +kernel
theorem dX12_settles_39 : decode cX12_settles 39 = .ok (.iload_n 1, 1) := by decide +kernel
theorem dX12_settles_40 : decode cX12_settles 40 = .ok (.aload_n 0, 1) := by decide +kernel
theorem dX12_settles_41 : decode cX12_settles 41 = .ok (.getfield 16, 3) := by decide +kernel
theorem dX12_settles_44 : decode cX12_settles 44 = .ok (.bipush 6, 2) := by decide +kernel
theorem dX12_settles_46 : decode cX12_settles 46 = .ok (.iload_n 1, 1) := by decide +kernel
theorem dX12_settles_47 : decode cX12_settles 47 = .ok (.iadd, 1) := by decide +kernel
theorem dX12_settles_48 : decode cX12_settles 48 = .ok (.iaload, 1) := by decide +kernel
theorem dX12_settles_49 : decode cX12_settles 49 = .ok (.iastore, 1) := by decide +kernel
theorem dX12_settles_50 : decode cX12_settles 50 = .ok (.aload_n 0, 1) := by decide +kernel
theorem dX12_settles_51 : decode cX12_settles 51 = .ok (.getfield 19, 3) := by decide +kernel
theorem dX12_settles_54 : decode cX12_settles 54 = .ok (.iload_n 1, 1) := by decide +kernel
theorem dX12_settles_55 : decode cX12_settles 55 = .ok (.aload_n 0, 1) := by decide +kernel
theorem dX12_settles_56 : decode cX12_settles 56 = .ok (.getfield 19, 3) := by decide +kernel
theorem dX12_settles_59 : decode cX12_settles 59 = .ok (.bipush 6, 2) := by decide +kernel
theorem dX12_settles_61 : decode cX12_settles 61 = .ok (.iload_n 1, 1) := by decide +kernel
theorem dX12_settles_62 : decode cX12_settles 62 = .ok (.iadd, 1) := by decide +kernel
theorem dX12_settles_63 : decode cX12_settles 63 = .ok (.iaload, 1) := by decide +kernel
theorem dX12_settles_64 : decode cX12_settles 64 = .ok (.iastore, 1) := by decide +kernel
theorem dX12_settles_65 : decode cX12_settles 65 = .ok (.aload_n 0, 1) := by decide +kernel
theorem dX12_settles_66 : decode cX12_settles 66 = .ok (.getfield 22, 3) := by decide +kernel
theorem dX12_settles_69 : decode cX12_settles 69 = .ok (.iload_n 1, 1) := by decide +kernel
theorem dX12_settles_70 : decode cX12_settles 70 = .ok (.aload_n 0, 1) := by decide +kernel
theorem dX12_settles_71 : decode cX12_settles 71 = .ok (.getfield 22, 3) := by decide +kernel
theorem dX12_settles_74 : decode cX12_settles 74 = .ok (.bipush 6, 2) := by decide +kernel
theorem dX12_settles_76 : decode cX12_settles 76 = .ok (.iload_n 1, 1) := by decide +kernel
theorem dX12_settles_77 : decode cX12_settles 77 = .ok (.iadd, 1) := by decide +kernel
theorem dX12_settles_78 : decode cX12_settles 78 = .ok (.iaload, 1) := by decide +kernel
theorem dX12_settles_79 : decode cX12_settles 79 = .ok (.iastore, 1) := by decide +kernel
theorem dX12_settles_80 : decode cX12_settles 80 = .ok (.iinc 1 1, 3) := by decide +kernel
theorem dX12_settles_83 : decode cX12_settles 83 = .ok (.goto (-54), 3) := by decide +kernel
theorem dX12_settles_86 : decode cX12_settles 86 = .ok (.iconst 0, 1) := by decide +kernel
theorem dX12_settles_87 : decode cX12_settles 87 = .ok (.istore_n 1, 1) := by decide +kernel
theorem dX12_settles_88 : decode cX12_settles 88 = .ok (.iload_n 1, 1) := by decide +kernel
theorem dX12_settles_89 : decode cX12_settles 89 = .ok (.bipush 25, 2) := by decide +kernel
theorem dX12_settles_91 : decode cX12_settles 91 = .ok (.if_icmp .ge 21, 3) := by decide +kernel
theorem dX12_settles_94 : decode cX12_settles 94 = .ok (.aload_n 0, 1) := by decide +kernel
theorem dX12_settles_95 : decode cX12_settles 95 = .ok (.getfield 28, 3) := by decide +kernel
theorem dX12_settles_98 : decode cX12_settles 98 = .ok (.iload_n 1, 1) := by decide +kernel
theorem dX12_settles_99 : decode cX12_settles 99 = .ok (.aload_n 0, 1) := by decide +kernel
theorem dX12_settles_100 : decode cX12_settles 100 = .ok (.getfield 25, 3) := by decide +kernel
theorem dX12_settles_103 : decode cX12_settles 103 = .ok (.iload_n 1, 1) := by decide +kernel
theorem dX12_settles_104 : decode cX12_settles 104 = .ok (.iaload, 1) := by decide +kernel
theorem dX12_settles_105 : decode cX12_settles 105 = .ok (.iastore, 1) := by decide +kernel
theorem dX12_settles_106 : decode cX12_settles 106 = .ok (.iinc 1 1, 3) := by decide +kernel
theorem dX12_settles_109 : decode cX12_settles 109 = .ok (.goto (-21), 3) := by decide +kernel
theorem dX12_settles_112 : decode cX12_settles 112 = .ok (.aload_n 0, 1) := by decide +kernel
theorem dX12_settles_113 : decode cX12_settles 113 = .ok (.iconst 0, 1) := by decide +kernel
theorem dX12_settles_114 : decode cX12_settles 114 = .ok (.putfield 73, 3) := by decide +kernel
theorem dX12_settles_117 : decode cX12_settles 117 = .ok (.aload_n 0, 1) := by decide +kernel
theorem dX12_settles_118 : decode cX12_settles 118 = .ok (.iconst 0, 1) := by decide +kernel
theorem dX12_settles_119 : decode cX12_settles 119 = .ok (.putfield 125, 3) := by decide +kernel
theorem dX12_settles_122 : decode cX12_settles 122 = .ok (.aload_n 0, 1) := by decide +kernel
theorem dX12_settles_123 : decode cX12_settles 123 = .ok (.iconst 0, 1) := by decide +kernel
theorem dX12_settles_124 : decode cX12_settles 124 = .ok (.putfield 128, 3) := by decide +kernel
theorem dX12_settles_127 : decode cX12_settles 127 = .ok (.aload_n 0, 1) := by decide +kernel
theorem dX12_settles_128 : decode cX12_settles 128 = .ok (.getfield 34, 3) := by decide +kernel
theorem dX12_settles_131 : decode cX12_settles 131 = .ok (.iconst 0, 1) := by decide +kernel
theorem dX12_settles_132 : decode cX12_settles 132 = .ok (.iconst 0, 1) := by decide +kernel
theorem dX12_settles_133 : decode cX12_settles 133 = .ok (.bastore, 1) := by decide +kernel
theorem dX12_settles_134 : decode cX12_settles 134 = .ok (.aload_n 0, 1) := by decide +kernel
theorem dX12_settles_135 : decode cX12_settles 135 = .ok (.getfield 34, 3) := by decide +kernel
theorem dX12_settles_138 : decode cX12_settles 138 = .ok (.iconst 1, 1) := by decide +kernel
theorem dX12_settles_139 : decode cX12_settles 139 = .ok (.iconst 0, 1) := by decide +kernel
theorem dX12_settles_140 : decode cX12_settles 140 = .ok (.bastore, 1) := by decide +kernel
theorem dX12_settles_141 : decode cX12_settles 141 = .ok (.return_, 1) := by decide +kernel
theorem dX12_isGuest_0 : decode cX12_isGuest 0 = .ok (.iload_n 1, 1) := by decide +kernel
theorem dX12_isGuest_1 : decode cX12_isGuest 1 = .ok (.iconst 0, 1) := by decide +kernel
theorem dX12_isGuest_2 : decode cX12_isGuest 2 = .ok (.aload_n 0, 1) := by decide +kernel
theorem dX12_isGuest_3 : decode cX12_isGuest 3 = .ok (.getfield 13, 3) := by decide +kernel
theorem dX12_isGuest_6 : decode cX12_isGuest 6 = .ok (.iconst 1, 1) := by decide +kernel
theorem dX12_isGuest_7 : decode cX12_isGuest 7 = .ok (.iaload, 1) := by decide +kernel
theorem dX12_isGuest_8 : decode cX12_isGuest 8 = .ok (.iconst 1, 1) := by decide +kernel
theorem dX12_isGuest_9 : decode cX12_isGuest 9 = .ok (.isub, 1) := by decide +kernel
theorem dX12_isGuest_10 : decode cX12_isGuest 10 = .ok (.invokestatic 69, 3) := by decide +kernel
theorem dX12_isGuest_13 : decode cX12_isGuest 13 = .ok (.ireturn, 1) := by decide +kernel
theorem dX12_isDish_0 : decode cX12_isDish 0 = .ok (.iload_n 1, 1) := by decide +kernel
theorem dX12_isDish_1 : decode cX12_isDish 1 = .ok (.iconst 0, 1) := by decide +kernel
theorem dX12_isDish_2 : decode cX12_isDish 2 = .ok (.aload_n 0, 1) := by decide +kernel
theorem dX12_isDish_3 : decode cX12_isDish 3 = .ok (.getfield 13, 3) := by decide +kernel
theorem dX12_isDish_6 : decode cX12_isDish 6 = .ok (.iconst 2, 1) := by decide +kernel
theorem dX12_isDish_7 : decode cX12_isDish 7 = .ok (.iaload, 1) := by decide +kernel
theorem dX12_isDish_8 : decode cX12_isDish 8 = .ok (.iconst 1, 1) := by decide +kernel
theorem dX12_isDish_9 : decode cX12_isDish 9 = .ok (.isub, 1) := by decide +kernel
theorem dX12_isDish_10 : decode cX12_isDish 10 = .ok (.invokestatic 69, 3) := by decide +kernel
theorem dX12_isDish_13 : decode cX12_isDish 13 = .ok (.ireturn, 1) := by decide +kernel
theorem dX12_isSeat_0 : decode cX12_isSeat 0 = .ok (.iload_n 1, 1) := by decide +kernel
theorem dX12_isSeat_1 : decode cX12_isSeat 1 = .ok (.iconst 0, 1) := by decide +kernel
theorem dX12_isSeat_2 : decode cX12_isSeat 2 = .ok (.aload_n 0, 1) := by decide +kernel
theorem dX12_isSeat_3 : decode cX12_isSeat 3 = .ok (.getfield 13, 3) := by decide +kernel
theorem dX12_isSeat_6 : decode cX12_isSeat 6 = .ok (.iconst 0, 1) := by decide +kernel
theorem dX12_isSeat_7 : decode cX12_isSeat 7 = .ok (.iaload, 1) := by decide +kernel
theorem dX12_isSeat_8 : decode cX12_isSeat 8 = .ok (.iconst 1, 1) := by decide +kernel
theorem dX12_isSeat_9 : decode cX12_isSeat 9 = .ok (.isub, 1) := by decide +kernel
theorem dX12_isSeat_10 : decode cX12_isSeat 10 = .ok (.invokestatic 69, 3) := by decide +kernel
theorem dX12_isSeat_13 : decode cX12_isSeat 13 = .ok (.ireturn, 1) := by decide +kernel
theorem dX12_reachesBy_0 : decode cX12_reachesBy 0 = .ok (.aload_n 0, 1) := by decide +kernel
theorem dX12_reachesBy_1 : decode cX12_reachesBy 1 = .ok (.getfield 13, 3) := by decide +kernel
theorem dX12_reachesBy_4 : decode cX12_reachesBy 4 = .ok (.iconst 0, 1) := by decide +kernel
theorem dX12_reachesBy_5 : decode cX12_reachesBy 5 = .ok (.iaload, 1) := by decide +kernel
theorem dX12_reachesBy_6 : decode cX12_reachesBy 6 = .ok (.istore 4, 2) := by decide +kernel
theorem dX12_reachesBy_8 : decode cX12_reachesBy 8 = .ok (.aload_n 0, 1) := by decide +kernel
theorem dX12_reachesBy_9 : decode cX12_reachesBy 9 = .ok (.getfield 28, 3) := by decide +kernel
theorem dX12_reachesBy_12 : decode cX12_reachesBy 12 = .ok (.bipush 7, 2) := by decide +kernel
theorem dX12_reachesBy_14 : decode cX12_reachesBy 14 = .ok (.iload_n 2, 1) := by decide +kernel
theorem dX12_reachesBy_15 : decode cX12_reachesBy 15 = .ok (.iadd, 1) := by decide +kernel
theorem dX12_reachesBy_16 : decode cX12_reachesBy 16 = .ok (.iaload, 1) := by decide +kernel
theorem dX12_reachesBy_17 : decode cX12_reachesBy 17 = .ok (.iload_n 3, 1) := by decide +kernel
theorem dX12_reachesBy_18 : decode cX12_reachesBy 18 = .ok (.iadd, 1) := by decide +kernel
theorem dX12_reachesBy_19 : decode cX12_reachesBy 19 = .ok (.aload_n 0, 1) := by decide +kernel
theorem dX12_reachesBy_20 : decode cX12_reachesBy 20 = .ok (.getfield 28, 3) := by decide +kernel
theorem dX12_reachesBy_23 : decode cX12_reachesBy 23 = .ok (.bipush 13, 2) := by decide +kernel
theorem dX12_reachesBy_25 : decode cX12_reachesBy 25 = .ok (.iload_n 1, 1) := by decide +kernel
theorem dX12_reachesBy_26 : decode cX12_reachesBy 26 = .ok (.iadd, 1) := by decide +kernel
theorem dX12_reachesBy_27 : decode cX12_reachesBy 27 = .ok (.iaload, 1) := by decide +kernel
theorem dX12_reachesBy_28 : decode cX12_reachesBy 28 = .ok (.isub, 1) := by decide +kernel
theorem dX12_reachesBy_29 : decode cX12_reachesBy 29 = .ok (.iconst 2, 1) := by decide +kernel
theorem dX12_reachesBy_30 : decode cX12_reachesBy 30 = .ok (.iload 4, 2) := by decide +kernel
theorem dX12_reachesBy_32 : decode cX12_reachesBy 32 = .ok (.imul, 1) := by decide +kernel
theorem dX12_reachesBy_33 : decode cX12_reachesBy 33 = .ok (.iadd, 1) := by decide +kernel
theorem dX12_reachesBy_34 : decode cX12_reachesBy 34 = .ok (.iload 4, 2) := by decide +kernel
theorem dX12_reachesBy_36 : decode cX12_reachesBy 36 = .ok (.irem, 1) := by decide +kernel
theorem dX12_reachesBy_37 : decode cX12_reachesBy 37 = .ok (.istore 5, 2) := by decide +kernel
theorem dX12_reachesBy_39 : decode cX12_reachesBy 39 = .ok (.iload 5, 2) := by decide +kernel
theorem dX12_reachesBy_41 : decode cX12_reachesBy 41 = .ok (.aload_n 0, 1) := by decide +kernel
theorem dX12_reachesBy_42 : decode cX12_reachesBy 42 = .ok (.getfield 16, 3) := by decide +kernel
theorem dX12_reachesBy_45 : decode cX12_reachesBy 45 = .ok (.iload_n 1, 1) := by decide +kernel
theorem dX12_reachesBy_46 : decode cX12_reachesBy 46 = .ok (.iaload, 1) := by decide +kernel
theorem dX12_reachesBy_47 : decode cX12_reachesBy 47 = .ok (.if_icmp .le 17, 3) := by decide +kernel
theorem dX12_reachesBy_50 : decode cX12_reachesBy 50 = .ok (.iload 4, 2) := by decide +kernel
theorem dX12_reachesBy_52 : decode cX12_reachesBy 52 = .ok (.iload 5, 2) := by decide +kernel
theorem dX12_reachesBy_54 : decode cX12_reachesBy 54 = .ok (.isub, 1) := by decide +kernel
theorem dX12_reachesBy_55 : decode cX12_reachesBy 55 = .ok (.aload_n 0, 1) := by decide +kernel
theorem dX12_reachesBy_56 : decode cX12_reachesBy 56 = .ok (.getfield 16, 3) := by decide +kernel
theorem dX12_reachesBy_59 : decode cX12_reachesBy 59 = .ok (.iload_n 1, 1) := by decide +kernel
theorem dX12_reachesBy_60 : decode cX12_reachesBy 60 = .ok (.iaload, 1) := by decide +kernel
theorem dX12_reachesBy_61 : decode cX12_reachesBy 61 = .ok (.if_icmp .gt 7, 3) := by decide +kernel
theorem dX12_reachesBy_64 : decode cX12_reachesBy 64 = .ok (.iconst 1, 1) := by decide +kernel
theorem dX12_reachesBy_65 : decode cX12_reachesBy 65 = .ok (.goto 4, 3) := by decide +kernel
theorem dX12_reachesBy_68 : decode cX12_reachesBy 68 = .ok (.iconst 0, 1) := by decide +kernel
theorem dX12_reachesBy_69 : decode cX12_reachesBy 69 = .ok (.ireturn, 1) := by decide +kernel
theorem dX12_reachedBy_0 : decode cX12_reachedBy 0 = .ok (.iconst 0, 1) := by decide +kernel
theorem dX12_reachedBy_1 : decode cX12_reachedBy 1 = .ok (.istore_n 2, 1) := by decide +kernel
theorem dX12_reachedBy_2 : decode cX12_reachedBy 2 = .ok (.iconst 0, 1) := by decide +kernel
theorem dX12_reachedBy_3 : decode cX12_reachedBy 3 = .ok (.istore_n 3, 1) := by decide +kernel
theorem dX12_reachedBy_4 : decode cX12_reachedBy 4 = .ok (.iload_n 3, 1) := by decide +kernel
theorem dX12_reachedBy_5 : decode cX12_reachedBy 5 = .ok (.aload_n 0, 1) := by decide +kernel
theorem dX12_reachedBy_6 : decode cX12_reachedBy 6 = .ok (.getfield 13, 3) := by decide +kernel
theorem dX12_reachedBy_9 : decode cX12_reachedBy 9 = .ok (.iconst 2, 1) := by decide +kernel
theorem dX12_reachedBy_10 : decode cX12_reachedBy 10 = .ok (.iaload, 1) := by decide +kernel
theorem dX12_reachedBy_11 : decode cX12_reachedBy 11 = .ok (.if_icmp .ge 34, 3) := by decide +kernel
theorem dX12_reachedBy_14 : decode cX12_reachedBy 14 = .ok (.iload_n 2, 1) := by decide +kernel
theorem dX12_reachedBy_15 : decode cX12_reachedBy 15 = .ok (.aload_n 0, 1) := by decide +kernel
theorem dX12_reachedBy_16 : decode cX12_reachedBy 16 = .ok (.iload_n 1, 1) := by decide +kernel
theorem dX12_reachedBy_17 : decode cX12_reachedBy 17 = .ok (.iload_n 3, 1) := by decide +kernel
theorem dX12_reachedBy_18 : decode cX12_reachedBy 18 = .ok (.aload_n 0, 1) := by decide +kernel
theorem dX12_reachedBy_19 : decode cX12_reachedBy 19 = .ok (.getfield 28, 3) := by decide +kernel
theorem dX12_reachedBy_22 : decode cX12_reachedBy 22 = .ok (.iconst 0, 1) := by decide +kernel
theorem dX12_reachedBy_23 : decode cX12_reachedBy 23 = .ok (.iaload, 1) := by decide +kernel
theorem dX12_reachedBy_24 : decode cX12_reachedBy 24 = .ok (.invokevirtual 131, 3) := by decide +kernel
theorem dX12_reachedBy_27 : decode cX12_reachedBy 27 = .ok (.ifCond .eq 9, 3) := by decide +kernel
theorem dX12_reachedBy_30 : decode cX12_reachedBy 30 = .ok (.iconst 1, 1) := by decide +kernel
theorem dX12_reachedBy_31 : decode cX12_reachedBy 31 = .ok (.iload_n 3, 1) := by decide +kernel
theorem dX12_reachedBy_32 : decode cX12_reachedBy 32 = .ok (.ishl, 1) := by decide +kernel
theorem dX12_reachedBy_33 : decode cX12_reachedBy 33 = .ok (.goto 4, 3) := by decide +kernel
theorem dX12_reachedBy_36 : decode cX12_reachedBy 36 = .ok (.iconst 0, 1) := by decide +kernel
theorem dX12_reachedBy_37 : decode cX12_reachedBy 37 = .ok (.ior, 1) := by decide +kernel
theorem dX12_reachedBy_38 : decode cX12_reachedBy 38 = .ok (.istore_n 2, 1) := by decide +kernel
theorem dX12_reachedBy_39 : decode cX12_reachedBy 39 = .ok (.iinc 3 1, 3) := by decide +kernel
theorem dX12_reachedBy_42 : decode cX12_reachedBy 42 = .ok (.goto (-38), 3) := by decide +kernel
theorem dX12_reachedBy_45 : decode cX12_reachedBy 45 = .ok (.iload_n 2, 1) := by decide +kernel
theorem dX12_reachedBy_46 : decode cX12_reachedBy 46 = .ok (.ireturn, 1) := by decide +kernel
theorem dX12_needsOf_0 : decode cX12_needsOf 0 = .ok (.aload_n 0, 1) := by decide +kernel
theorem dX12_needsOf_1 : decode cX12_needsOf 1 = .ok (.getfield 19, 3) := by decide +kernel
theorem dX12_needsOf_4 : decode cX12_needsOf 4 = .ok (.iload_n 1, 1) := by decide +kernel
theorem dX12_needsOf_5 : decode cX12_needsOf 5 = .ok (.iaload, 1) := by decide +kernel
theorem dX12_needsOf_6 : decode cX12_needsOf 6 = .ok (.iconst 1, 1) := by decide +kernel
theorem dX12_needsOf_7 : decode cX12_needsOf 7 = .ok (.aload_n 0, 1) := by decide +kernel
theorem dX12_needsOf_8 : decode cX12_needsOf 8 = .ok (.getfield 13, 3) := by decide +kernel
theorem dX12_needsOf_11 : decode cX12_needsOf 11 = .ok (.iconst 2, 1) := by decide +kernel
theorem dX12_needsOf_12 : decode cX12_needsOf 12 = .ok (.iaload, 1) := by decide +kernel
theorem dX12_needsOf_13 : decode cX12_needsOf 13 = .ok (.ishl, 1) := by decide +kernel
theorem dX12_needsOf_14 : decode cX12_needsOf 14 = .ok (.iconst 1, 1) := by decide +kernel
theorem dX12_needsOf_15 : decode cX12_needsOf 15 = .ok (.isub, 1) := by decide +kernel
theorem dX12_needsOf_16 : decode cX12_needsOf 16 = .ok (.iand, 1) := by decide +kernel
theorem dX12_needsOf_17 : decode cX12_needsOf 17 = .ok (.aload_n 0, 1) := by decide +kernel
theorem dX12_needsOf_18 : decode cX12_needsOf 18 = .ok (.getfield 28, 3) := by decide +kernel
theorem dX12_needsOf_21 : decode cX12_needsOf 21 = .ok (.bipush 19, 2) := by decide +kernel
theorem dX12_needsOf_23 : decode cX12_needsOf 23 = .ok (.iload_n 1, 1) := by decide +kernel
theorem dX12_needsOf_24 : decode cX12_needsOf 24 = .ok (.iadd, 1) := by decide +kernel
theorem dX12_needsOf_25 : decode cX12_needsOf 25 = .ok (.iaload, 1) := by decide +kernel
theorem dX12_needsOf_26 : decode cX12_needsOf 26 = .ok (.iconst (-1), 1) := by decide +kernel
theorem dX12_needsOf_27 : decode cX12_needsOf 27 = .ok (.ixor, 1) := by decide +kernel
theorem dX12_needsOf_28 : decode cX12_needsOf 28 = .ok (.iand, 1) := by decide +kernel
theorem dX12_needsOf_29 : decode cX12_needsOf 29 = .ok (.ireturn, 1) := by decide +kernel
theorem dX12_guest_0 : decode cX12_guest 0 = .ok (.aload_n 0, 1) := by decide +kernel
theorem dX12_guest_1 : decode cX12_guest 1 = .ok (.iconst 0, 1) := by decide +kernel
theorem dX12_guest_2 : decode cX12_guest 2 = .ok (.putfield 65, 3) := by decide +kernel
theorem dX12_guest_5 : decode cX12_guest 5 = .ok (.aload_n 0, 1) := by decide +kernel
theorem dX12_guest_6 : decode cX12_guest 6 = .ok (.iload_n 1, 1) := by decide +kernel
theorem dX12_guest_7 : decode cX12_guest 7 = .ok (.invokevirtual 134, 3) := by decide +kernel
theorem dX12_guest_10 : decode cX12_guest 10 = .ok (.ifCond .eq 12, 3) := by decide +kernel
theorem dX12_guest_13 : decode cX12_guest 13 = .ok (.iload_n 2, 1) := by decide +kernel
theorem dX12_guest_14 : decode cX12_guest 14 = .ok (.iconst 0, 1) := by decide +kernel
theorem dX12_guest_15 : decode cX12_guest 15 = .ok (.iconst 5, 1) := by decide +kernel
theorem dX12_guest_16 : decode cX12_guest 16 = .ok (.invokestatic 69, 3) := by decide +kernel
theorem dX12_guest_19 : decode cX12_guest 19 = .ok (.ifCond .ne 5, 3) := by decide +kernel
theorem dX12_guest_22 : decode cX12_guest 22 = .ok (.iconst (-1), 1) := by decide +kernel
theorem dX12_guest_23 : decode cX12_guest 23 = .ok (.ireturn, 1) := by decide +kernel
theorem dX12_guest_24 : decode cX12_guest 24 = .ok (.iload_n 2, 1) := by decide +kernel
theorem dX12_guest_25 : decode cX12_guest 25 = .ok (.iconst 3, 1) := by decide +kernel
theorem dX12_guest_26 : decode cX12_guest 26 = .ok (.if_icmp .ge 40, 3) := by decide +kernel
theorem dX12_guest_29 : decode cX12_guest 29 = .ok (.iload_n 2, 1) := by decide +kernel
theorem dX12_guest_30 : decode cX12_guest 30 = .ok (.ifCond .ne 15, 3) := by decide +kernel
theorem dX12_guest_33 : decode cX12_guest 33 = .ok (.aload_n 0, 1) := by decide +kernel
theorem dX12_guest_34 : decode cX12_guest 34 = .ok (.getfield 28, 3) := by decide +kernel
theorem dX12_guest_37 : decode cX12_guest 37 = .ok (.bipush 13, 2) := by decide +kernel
theorem dX12_guest_39 : decode cX12_guest 39 = .ok (.iload_n 1, 1) := by decide +kernel
theorem dX12_guest_40 : decode cX12_guest 40 = .ok (.iadd, 1) := by decide +kernel
theorem dX12_guest_41 : decode cX12_guest 41 = .ok (.iaload, 1) := by decide +kernel
theorem dX12_guest_42 : decode cX12_guest 42 = .ok (.goto 23, 3) := by decide +kernel
theorem dX12_guest_45 : decode cX12_guest 45 = .ok (.iload_n 2, 1) := by decide +kernel
theorem dX12_guest_46 : decode cX12_guest 46 = .ok (.iconst 1, 1) := by decide +kernel
theorem dX12_guest_47 : decode cX12_guest 47 = .ok (.if_icmp .ne 12, 3) := by decide +kernel
theorem dX12_guest_50 : decode cX12_guest 50 = .ok (.aload_n 0, 1) := by decide +kernel
theorem dX12_guest_51 : decode cX12_guest 51 = .ok (.getfield 16, 3) := by decide +kernel
theorem dX12_guest_54 : decode cX12_guest 54 = .ok (.iload_n 1, 1) := by decide +kernel
theorem dX12_guest_55 : decode cX12_guest 55 = .ok (.iaload, 1) := by decide +kernel
theorem dX12_guest_56 : decode cX12_guest 56 = .ok (.goto 9, 3) := by decide +kernel
theorem dX12_guest_59 : decode cX12_guest 59 = .ok (.aload_n 0, 1) := by decide +kernel
theorem dX12_guest_60 : decode cX12_guest 60 = .ok (.getfield 19, 3) := by decide +kernel
theorem dX12_guest_63 : decode cX12_guest 63 = .ok (.iload_n 1, 1) := by decide +kernel
theorem dX12_guest_64 : decode cX12_guest 64 = .ok (.iaload, 1) := by decide +kernel
theorem dX12_guest_65 : decode cX12_guest 65 = .ok (.ireturn, 1) := by decide +kernel
theorem dX12_guest_66 : decode cX12_guest 66 = .ok (.iload_n 2, 1) := by decide +kernel
theorem dX12_guest_67 : decode cX12_guest 67 = .ok (.iconst 3, 1) := by decide +kernel
theorem dX12_guest_68 : decode cX12_guest 68 = .ok (.if_icmp .ne 15, 3) := by decide +kernel
theorem dX12_guest_71 : decode cX12_guest 71 = .ok (.aload_n 0, 1) := by decide +kernel
theorem dX12_guest_72 : decode cX12_guest 72 = .ok (.getfield 28, 3) := by decide +kernel
theorem dX12_guest_75 : decode cX12_guest 75 = .ok (.bipush 19, 2) := by decide +kernel
theorem dX12_guest_77 : decode cX12_guest 77 = .ok (.iload_n 1, 1) := by decide +kernel
theorem dX12_guest_78 : decode cX12_guest 78 = .ok (.iadd, 1) := by decide +kernel
theorem dX12_guest_79 : decode cX12_guest 79 = .ok (.iaload, 1) := by decide +kernel
theorem dX12_guest_80 : decode cX12_guest 80 = .ok (.goto 21, 3) := by decide +kernel
theorem dX12_guest_83 : decode cX12_guest 83 = .ok (.iload_n 2, 1) := by decide +kernel
theorem dX12_guest_84 : decode cX12_guest 84 = .ok (.iconst 4, 1) := by decide +kernel
theorem dX12_guest_85 : decode cX12_guest 85 = .ok (.if_icmp .ne 11, 3) := by decide +kernel
theorem dX12_guest_88 : decode cX12_guest 88 = .ok (.aload_n 0, 1) := by decide +kernel
theorem dX12_guest_89 : decode cX12_guest 89 = .ok (.iload_n 1, 1) := by decide +kernel
theorem dX12_guest_90 : decode cX12_guest 90 = .ok (.invokevirtual 137, 3) := by decide +kernel
theorem dX12_guest_93 : decode cX12_guest 93 = .ok (.goto 8, 3) := by decide +kernel
theorem dX12_guest_96 : decode cX12_guest 96 = .ok (.aload_n 0, 1) := by decide +kernel
theorem dX12_guest_97 : decode cX12_guest 97 = .ok (.iload_n 1, 1) := by decide +kernel
theorem dX12_guest_98 : decode cX12_guest 98 = .ok (.invokevirtual 140, 3) := by decide +kernel
theorem dX12_guest_101 : decode cX12_guest 101 = .ok (.ireturn, 1) := by decide +kernel
theorem dX12_whoReach_0 : decode cX12_whoReach 0 = .ok (.iconst 0, 1) := by decide +kernel
theorem dX12_whoReach_1 : decode cX12_whoReach 1 = .ok (.istore_n 3, 1) := by decide +kernel
theorem dX12_whoReach_2 : decode cX12_whoReach 2 = .ok (.iconst 0, 1) := by decide +kernel
theorem dX12_whoReach_3 : decode cX12_whoReach 3 = .ok (.istore 4, 2) := by decide +kernel
theorem dX12_whoReach_5 : decode cX12_whoReach 5 = .ok (.iload 4, 2) := by decide +kernel
theorem dX12_whoReach_7 : decode cX12_whoReach 7 = .ok (.aload_n 0, 1) := by decide +kernel
theorem dX12_whoReach_8 : decode cX12_whoReach 8 = .ok (.getfield 13, 3) := by decide +kernel
theorem dX12_whoReach_11 : decode cX12_whoReach 11 = .ok (.iconst 1, 1) := by decide +kernel
theorem dX12_whoReach_12 : decode cX12_whoReach 12 = .ok (.iaload, 1) := by decide +kernel
theorem dX12_whoReach_13 : decode cX12_whoReach 13 = .ok (.if_icmp .ge 31, 3) := by decide +kernel
theorem dX12_whoReach_16 : decode cX12_whoReach 16 = .ok (.iload_n 3, 1) := by decide +kernel
theorem dX12_whoReach_17 : decode cX12_whoReach 17 = .ok (.aload_n 0, 1) := by decide +kernel
theorem dX12_whoReach_18 : decode cX12_whoReach 18 = .ok (.iload 4, 2) := by decide +kernel
theorem dX12_whoReach_20 : decode cX12_whoReach 20 = .ok (.iload_n 1, 1) := by decide +kernel
theorem dX12_whoReach_21 : decode cX12_whoReach 21 = .ok (.iload_n 2, 1) := by decide +kernel
theorem dX12_whoReach_22 : decode cX12_whoReach 22 = .ok (.invokevirtual 131, 3) := by decide +kernel
theorem dX12_whoReach_25 : decode cX12_whoReach 25 = .ok (.ifCond .eq 10, 3) := by decide +kernel
theorem dX12_whoReach_28 : decode cX12_whoReach 28 = .ok (.iconst 1, 1) := by decide +kernel
theorem dX12_whoReach_29 : decode cX12_whoReach 29 = .ok (.iload 4, 2) := by decide +kernel
theorem dX12_whoReach_31 : decode cX12_whoReach 31 = .ok (.ishl, 1) := by decide +kernel
theorem dX12_whoReach_32 : decode cX12_whoReach 32 = .ok (.goto 4, 3) := by decide +kernel
theorem dX12_whoReach_35 : decode cX12_whoReach 35 = .ok (.iconst 0, 1) := by decide +kernel
theorem dX12_whoReach_36 : decode cX12_whoReach 36 = .ok (.ior, 1) := by decide +kernel
theorem dX12_whoReach_37 : decode cX12_whoReach 37 = .ok (.istore_n 3, 1) := by decide +kernel
theorem dX12_whoReach_38 : decode cX12_whoReach 38 = .ok (.iinc 4 1, 3) := by decide +kernel
theorem dX12_whoReach_41 : decode cX12_whoReach 41 = .ok (.goto (-36), 3) := by decide +kernel
theorem dX12_whoReach_44 : decode cX12_whoReach 44 = .ok (.iload_n 3, 1) := by decide +kernel
theorem dX12_whoReach_45 : decode cX12_whoReach 45 = .ok (.ireturn, 1) := by decide +kernel
theorem dX12_dish_0 : decode cX12_dish 0 = .ok (.aload_n 0, 1) := by decide +kernel
theorem dX12_dish_1 : decode cX12_dish 1 = .ok (.iconst 0, 1) := by decide +kernel
theorem dX12_dish_2 : decode cX12_dish 2 = .ok (.putfield 65, 3) := by decide +kernel
theorem dX12_dish_5 : decode cX12_dish 5 = .ok (.aload_n 0, 1) := by decide +kernel
theorem dX12_dish_6 : decode cX12_dish 6 = .ok (.iload_n 1, 1) := by decide +kernel
theorem dX12_dish_7 : decode cX12_dish 7 = .ok (.invokevirtual 143, 3) := by decide +kernel
theorem dX12_dish_10 : decode cX12_dish 10 = .ok (.ifCond .eq 12, 3) := by decide +kernel
theorem dX12_dish_13 : decode cX12_dish 13 = .ok (.iload_n 2, 1) := by decide +kernel
theorem dX12_dish_14 : decode cX12_dish 14 = .ok (.iconst 0, 1) := by decide +kernel
theorem dX12_dish_15 : decode cX12_dish 15 = .ok (.iconst 4, 1) := by decide +kernel
theorem dX12_dish_16 : decode cX12_dish 16 = .ok (.invokestatic 69, 3) := by decide +kernel
theorem dX12_dish_19 : decode cX12_dish 19 = .ok (.ifCond .ne 5, 3) := by decide +kernel
theorem dX12_dish_22 : decode cX12_dish 22 = .ok (.iconst (-1), 1) := by decide +kernel
theorem dX12_dish_23 : decode cX12_dish 23 = .ok (.ireturn, 1) := by decide +kernel
theorem dX12_dish_24 : decode cX12_dish 24 = .ok (.iload_n 2, 1) := by decide +kernel
theorem dX12_dish_25 : decode cX12_dish 25 = .ok (.iconst 3, 1) := by decide +kernel
theorem dX12_dish_26 : decode cX12_dish 26 = .ok (.if_icmp .ge 42, 3) := by decide +kernel
theorem dX12_dish_29 : decode cX12_dish 29 = .ok (.iload_n 2, 1) := by decide +kernel
theorem dX12_dish_30 : decode cX12_dish 30 = .ok (.ifCond .ne 15, 3) := by decide +kernel
theorem dX12_dish_33 : decode cX12_dish 33 = .ok (.aload_n 0, 1) := by decide +kernel
theorem dX12_dish_34 : decode cX12_dish 34 = .ok (.getfield 28, 3) := by decide +kernel
theorem dX12_dish_37 : decode cX12_dish 37 = .ok (.bipush 7, 2) := by decide +kernel
theorem dX12_dish_39 : decode cX12_dish 39 = .ok (.iload_n 1, 1) := by decide +kernel
theorem dX12_dish_40 : decode cX12_dish 40 = .ok (.iadd, 1) := by decide +kernel
theorem dX12_dish_41 : decode cX12_dish 41 = .ok (.iaload, 1) := by decide +kernel
theorem dX12_dish_42 : decode cX12_dish 42 = .ok (.goto 25, 3) := by decide +kernel
theorem dX12_dish_45 : decode cX12_dish 45 = .ok (.iload_n 2, 1) := by decide +kernel
theorem dX12_dish_46 : decode cX12_dish 46 = .ok (.iconst 1, 1) := by decide +kernel
theorem dX12_dish_47 : decode cX12_dish 47 = .ok (.if_icmp .ne 14, 3) := by decide +kernel
theorem dX12_dish_50 : decode cX12_dish 50 = .ok (.aload_n 0, 1) := by decide +kernel
theorem dX12_dish_51 : decode cX12_dish 51 = .ok (.getfield 28, 3) := by decide +kernel
theorem dX12_dish_54 : decode cX12_dish 54 = .ok (.iconst 1, 1) := by decide +kernel
theorem dX12_dish_55 : decode cX12_dish 55 = .ok (.iload_n 1, 1) := by decide +kernel
theorem dX12_dish_56 : decode cX12_dish 56 = .ok (.iadd, 1) := by decide +kernel
theorem dX12_dish_57 : decode cX12_dish 57 = .ok (.iaload, 1) := by decide +kernel
theorem dX12_dish_58 : decode cX12_dish 58 = .ok (.goto 9, 3) := by decide +kernel
theorem dX12_dish_61 : decode cX12_dish 61 = .ok (.aload_n 0, 1) := by decide +kernel
theorem dX12_dish_62 : decode cX12_dish 62 = .ok (.getfield 22, 3) := by decide +kernel
theorem dX12_dish_65 : decode cX12_dish 65 = .ok (.iload_n 1, 1) := by decide +kernel
theorem dX12_dish_66 : decode cX12_dish 66 = .ok (.iaload, 1) := by decide +kernel
theorem dX12_dish_67 : decode cX12_dish 67 = .ok (.ireturn, 1) := by decide +kernel
theorem dX12_dish_68 : decode cX12_dish 68 = .ok (.iload_n 2, 1) := by decide +kernel
theorem dX12_dish_69 : decode cX12_dish 69 = .ok (.iconst 3, 1) := by decide +kernel
theorem dX12_dish_70 : decode cX12_dish 70 = .ok (.if_icmp .ne 29, 3) := by decide +kernel
theorem dX12_dish_73 : decode cX12_dish 73 = .ok (.aload_n 0, 1) := by decide +kernel
theorem dX12_dish_74 : decode cX12_dish 74 = .ok (.getfield 28, 3) := by decide +kernel
theorem dX12_dish_77 : decode cX12_dish 77 = .ok (.bipush 7, 2) := by decide +kernel
theorem dX12_dish_79 : decode cX12_dish 79 = .ok (.iload_n 1, 1) := by decide +kernel
theorem dX12_dish_80 : decode cX12_dish 80 = .ok (.iadd, 1) := by decide +kernel
theorem dX12_dish_81 : decode cX12_dish 81 = .ok (.iaload, 1) := by decide +kernel
theorem dX12_dish_82 : decode cX12_dish 82 = .ok (.aload_n 0, 1) := by decide +kernel
theorem dX12_dish_83 : decode cX12_dish 83 = .ok (.getfield 28, 3) := by decide +kernel
theorem dX12_dish_86 : decode cX12_dish 86 = .ok (.iconst 0, 1) := by decide +kernel
theorem dX12_dish_87 : decode cX12_dish 87 = .ok (.iaload, 1) := by decide +kernel
theorem dX12_dish_88 : decode cX12_dish 88 = .ok (.iadd, 1) := by decide +kernel
theorem dX12_dish_89 : decode cX12_dish 89 = .ok (.aload_n 0, 1) := by decide +kernel
theorem dX12_dish_90 : decode cX12_dish 90 = .ok (.getfield 13, 3) := by decide +kernel
theorem dX12_dish_93 : decode cX12_dish 93 = .ok (.iconst 0, 1) := by decide +kernel
theorem dX12_dish_94 : decode cX12_dish 94 = .ok (.iaload, 1) := by decide +kernel
theorem dX12_dish_95 : decode cX12_dish 95 = .ok (.irem, 1) := by decide +kernel
theorem dX12_dish_96 : decode cX12_dish 96 = .ok (.goto 14, 3) := by decide +kernel
theorem dX12_dish_99 : decode cX12_dish 99 = .ok (.aload_n 0, 1) := by decide +kernel
theorem dX12_dish_100 : decode cX12_dish 100 = .ok (.iload_n 1, 1) := by decide +kernel
theorem dX12_dish_101 : decode cX12_dish 101 = .ok (.aload_n 0, 1) := by decide +kernel
theorem dX12_dish_102 : decode cX12_dish 102 = .ok (.getfield 28, 3) := by decide +kernel
theorem dX12_dish_105 : decode cX12_dish 105 = .ok (.iconst 0, 1) := by decide +kernel
theorem dX12_dish_106 : decode cX12_dish 106 = .ok (.iaload, 1) := by decide +kernel
theorem dX12_dish_107 : decode cX12_dish 107 = .ok (.invokevirtual 146, 3) := by decide +kernel
theorem dX12_dish_110 : decode cX12_dish 110 = .ok (.ireturn, 1) := by decide +kernel
theorem dX12_isEnough_0 : decode cX12_isEnough 0 = .ok (.iconst 0, 1) := by decide +kernel
theorem dX12_isEnough_1 : decode cX12_isEnough 1 = .ok (.istore_n 1, 1) := by decide +kernel
theorem dX12_isEnough_2 : decode cX12_isEnough 2 = .ok (.iload_n 1, 1) := by decide +kernel
theorem dX12_isEnough_3 : decode cX12_isEnough 3 = .ok (.aload_n 0, 1) := by decide +kernel
theorem dX12_isEnough_4 : decode cX12_isEnough 4 = .ok (.getfield 13, 3) := by decide +kernel
theorem dX12_isEnough_7 : decode cX12_isEnough 7 = .ok (.iconst 2, 1) := by decide +kernel
theorem dX12_isEnough_8 : decode cX12_isEnough 8 = .ok (.iaload, 1) := by decide +kernel
theorem dX12_isEnough_9 : decode cX12_isEnough 9 = .ok (.if_icmp .ge 63, 3) := by decide +kernel
theorem dX12_isEnough_12 : decode cX12_isEnough 12 = .ok (.iconst 0, 1) := by decide +kernel
theorem dX12_isEnough_13 : decode cX12_isEnough 13 = .ok (.istore_n 2, 1) := by decide +kernel
theorem dX12_isEnough_14 : decode cX12_isEnough 14 = .ok (.iconst 0, 1) := by decide +kernel
theorem dX12_isEnough_15 : decode cX12_isEnough 15 = .ok (.istore_n 3, 1) := by decide +kernel
theorem dX12_isEnough_16 : decode cX12_isEnough 16 = .ok (.iload_n 3, 1) := by decide +kernel
theorem dX12_isEnough_17 : decode cX12_isEnough 17 = .ok (.aload_n 0, 1) := by decide +kernel
theorem dX12_isEnough_18 : decode cX12_isEnough 18 = .ok (.getfield 13, 3) := by decide +kernel
theorem dX12_isEnough_21 : decode cX12_isEnough 21 = .ok (.iconst 1, 1) := by decide +kernel
theorem dX12_isEnough_22 : decode cX12_isEnough 22 = .ok (.iaload, 1) := by decide +kernel
theorem dX12_isEnough_23 : decode cX12_isEnough 23 = .ok (.if_icmp .ge 29, 3) := by decide +kernel
theorem dX12_isEnough_26 : decode cX12_isEnough 26 = .ok (.iload_n 2, 1) := by decide +kernel
theorem dX12_isEnough_27 : decode cX12_isEnough 27 = .ok (.aload_n 0, 1) := by decide +kernel
theorem dX12_isEnough_28 : decode cX12_isEnough 28 = .ok (.iload_n 3, 1) := by decide +kernel
theorem dX12_isEnough_29 : decode cX12_isEnough 29 = .ok (.invokevirtual 137, 3) := by decide +kernel
theorem dX12_isEnough_32 : decode cX12_isEnough 32 = .ok (.iload_n 1, 1) := by decide +kernel
theorem dX12_isEnough_33 : decode cX12_isEnough 33 = .ok (.invokestatic 149, 3) := by decide +kernel
theorem dX12_isEnough_36 : decode cX12_isEnough 36 = .ok (.ifCond .eq 7, 3) := by decide +kernel
theorem dX12_isEnough_39 : decode cX12_isEnough 39 = .ok (.iconst 1, 1) := by decide +kernel
theorem dX12_isEnough_40 : decode cX12_isEnough 40 = .ok (.goto 4, 3) := by decide +kernel
theorem dX12_isEnough_43 : decode cX12_isEnough 43 = .ok (.iconst 0, 1) := by decide +kernel
theorem dX12_isEnough_44 : decode cX12_isEnough 44 = .ok (.iadd, 1) := by decide +kernel
theorem dX12_isEnough_45 : decode cX12_isEnough 45 = .ok (.istore_n 2, 1) := by decide +kernel
theorem dX12_isEnough_46 : decode cX12_isEnough 46 = .ok (.iinc 3 1, 3) := by decide +kernel
theorem dX12_isEnough_49 : decode cX12_isEnough 49 = .ok (.goto (-33), 3) := by decide +kernel
theorem dX12_isEnough_52 : decode cX12_isEnough 52 = .ok (.iload_n 2, 1) := by decide +kernel
theorem dX12_isEnough_53 : decode cX12_isEnough 53 = .ok (.aload_n 0, 1) := by decide +kernel
theorem dX12_isEnough_54 : decode cX12_isEnough 54 = .ok (.getfield 28, 3) := by decide +kernel
theorem dX12_isEnough_57 : decode cX12_isEnough 57 = .ok (.iconst 1, 1) := by decide +kernel
theorem dX12_isEnough_58 : decode cX12_isEnough 58 = .ok (.iload_n 1, 1) := by decide +kernel
theorem dX12_isEnough_59 : decode cX12_isEnough 59 = .ok (.iadd, 1) := by decide +kernel
theorem dX12_isEnough_60 : decode cX12_isEnough 60 = .ok (.iaload, 1) := by decide +kernel
theorem dX12_isEnough_61 : decode cX12_isEnough 61 = .ok (.if_icmp .le 5, 3) := by decide +kernel
theorem dX12_isEnough_64 : decode cX12_isEnough 64 = .ok (.iconst 0, 1) := by decide +kernel
theorem dX12_isEnough_65 : decode cX12_isEnough 65 = .ok (.ireturn, 1) := by decide +kernel
theorem dX12_isEnough_66 : decode cX12_isEnough 66 = .ok (.iinc 1 1, 3) := by decide +kernel
theorem dX12_isEnough_69 : decode cX12_isEnough 69 = .ok (.goto (-67), 3) := by decide +kernel
theorem dX12_isEnough_72 : decode cX12_isEnough 72 = .ok (.iconst 1, 1) := by decide +kernel
theorem dX12_isEnough_73 : decode cX12_isEnough 73 = .ok (.ireturn, 1) := by decide +kernel
theorem dX12_isAll_0 : decode cX12_isAll 0 = .ok (.iconst 0, 1) := by decide +kernel
theorem dX12_isAll_1 : decode cX12_isAll 1 = .ok (.istore_n 3, 1) := by decide +kernel
theorem dX12_isAll_2 : decode cX12_isAll 2 = .ok (.iload_n 3, 1) := by decide +kernel
theorem dX12_isAll_3 : decode cX12_isAll 3 = .ok (.aload_n 0, 1) := by decide +kernel
theorem dX12_isAll_4 : decode cX12_isAll 4 = .ok (.getfield 13, 3) := by decide +kernel
theorem dX12_isAll_7 : decode cX12_isAll 7 = .ok (.iconst 1, 1) := by decide +kernel
theorem dX12_isAll_8 : decode cX12_isAll 8 = .ok (.iaload, 1) := by decide +kernel
theorem dX12_isAll_9 : decode cX12_isAll 9 = .ok (.if_icmp .ge 117, 3) := by decide +kernel
theorem dX12_isAll_12 : decode cX12_isAll 12 = .ok (.iconst 0, 1) := by decide +kernel
theorem dX12_isAll_13 : decode cX12_isAll 13 = .ok (.istore 4, 2) := by decide +kernel
theorem dX12_isAll_15 : decode cX12_isAll 15 = .ok (.iload 4, 2) := by decide +kernel
theorem dX12_isAll_17 : decode cX12_isAll 17 = .ok (.aload_n 0, 1) := by decide +kernel
theorem dX12_isAll_18 : decode cX12_isAll 18 = .ok (.getfield 13, 3) := by decide +kernel
theorem dX12_isAll_21 : decode cX12_isAll 21 = .ok (.iconst 2, 1) := by decide +kernel
theorem dX12_isAll_22 : decode cX12_isAll 22 = .ok (.iaload, 1) := by decide +kernel
theorem dX12_isAll_23 : decode cX12_isAll 23 = .ok (.if_icmp .ge 97, 3) := by decide +kernel
theorem dX12_isAll_26 : decode cX12_isAll 26 = .ok (.aload_n 0, 1) := by decide +kernel
theorem dX12_isAll_27 : decode cX12_isAll 27 = .ok (.iload_n 3, 1) := by decide +kernel
theorem dX12_isAll_28 : decode cX12_isAll 28 = .ok (.invokevirtual 137, 3) := by decide +kernel
theorem dX12_isAll_31 : decode cX12_isAll 31 = .ok (.iload 4, 2) := by decide +kernel
theorem dX12_isAll_33 : decode cX12_isAll 33 = .ok (.invokestatic 149, 3) := by decide +kernel
theorem dX12_isAll_36 : decode cX12_isAll 36 = .ok (.ifCond .ne 7, 3) := by decide +kernel
theorem dX12_isAll_39 : decode cX12_isAll 39 = .ok (.iconst 1, 1) := by decide +kernel
theorem dX12_isAll_40 : decode cX12_isAll 40 = .ok (.goto 4, 3) := by decide +kernel
theorem dX12_isAll_43 : decode cX12_isAll 43 = .ok (.iconst 0, 1) := by decide +kernel
theorem dX12_isAll_44 : decode cX12_isAll 44 = .ok (.istore 5, 2) := by decide +kernel
theorem dX12_isAll_46 : decode cX12_isAll 46 = .ok (.iload_n 1, 1) := by decide +kernel
theorem dX12_isAll_47 : decode cX12_isAll 47 = .ok (.ineg, 1) := by decide +kernel
theorem dX12_isAll_48 : decode cX12_isAll 48 = .ok (.istore 6, 2) := by decide +kernel
theorem dX12_isAll_50 : decode cX12_isAll 50 = .ok (.iload 6, 2) := by decide +kernel
theorem dX12_isAll_52 : decode cX12_isAll 52 = .ok (.iload_n 2, 1) := by decide +kernel
theorem dX12_isAll_53 : decode cX12_isAll 53 = .ok (.if_icmp .gt 54, 3) := by decide +kernel
theorem dX12_isAll_56 : decode cX12_isAll 56 = .ok (.iload 5, 2) := by decide +kernel
theorem dX12_isAll_58 : decode cX12_isAll 58 = .ok (.ifCond .ne 36, 3) := by decide +kernel
theorem dX12_isAll_61 : decode cX12_isAll 61 = .ok (.aload_n 0, 1) := by decide +kernel
theorem dX12_isAll_62 : decode cX12_isAll 62 = .ok (.iload_n 3, 1) := by decide +kernel
theorem dX12_isAll_63 : decode cX12_isAll 63 = .ok (.iload 4, 2) := by decide +kernel
theorem dX12_isAll_65 : decode cX12_isAll 65 = .ok (.aload_n 0, 1) := by decide +kernel
theorem dX12_isAll_66 : decode cX12_isAll 66 = .ok (.getfield 28, 3) := by decide +kernel
theorem dX12_isAll_69 : decode cX12_isAll 69 = .ok (.iconst 0, 1) := by decide +kernel
theorem dX12_isAll_70 : decode cX12_isAll 70 = .ok (.iaload, 1) := by decide +kernel
theorem dX12_isAll_71 : decode cX12_isAll 71 = .ok (.iload 6, 2) := by decide +kernel
theorem dX12_isAll_73 : decode cX12_isAll 73 = .ok (.iadd, 1) := by decide +kernel
theorem dX12_isAll_74 : decode cX12_isAll 74 = .ok (.aload_n 0, 1) := by decide +kernel
theorem dX12_isAll_75 : decode cX12_isAll 75 = .ok (.getfield 13, 3) := by decide +kernel
theorem dX12_isAll_78 : decode cX12_isAll 78 = .ok (.iconst 0, 1) := by decide +kernel
theorem dX12_isAll_79 : decode cX12_isAll 79 = .ok (.iaload, 1) := by decide +kernel
theorem dX12_isAll_80 : decode cX12_isAll 80 = .ok (.iadd, 1) := by decide +kernel
theorem dX12_isAll_81 : decode cX12_isAll 81 = .ok (.aload_n 0, 1) := by decide +kernel
theorem dX12_isAll_82 : decode cX12_isAll 82 = .ok (.getfield 13, 3) := by decide +kernel
theorem dX12_isAll_85 : decode cX12_isAll 85 = .ok (.iconst 0, 1) := by decide +kernel
theorem dX12_isAll_86 : decode cX12_isAll 86 = .ok (.iaload, 1) := by decide +kernel
theorem dX12_isAll_87 : decode cX12_isAll 87 = .ok (.irem, 1) := by decide +kernel
theorem dX12_isAll_88 : decode cX12_isAll 88 = .ok (.invokevirtual 131, 3) := by decide +kernel
theorem dX12_isAll_91 : decode cX12_isAll 91 = .ok (.ifCond .eq 7, 3) := by decide +kernel
theorem dX12_isAll_94 : decode cX12_isAll 94 = .ok (.iconst 1, 1) := by decide +kernel
theorem dX12_isAll_95 : decode cX12_isAll 95 = .ok (.goto 4, 3) := by decide +kernel
theorem dX12_isAll_98 : decode cX12_isAll 98 = .ok (.iconst 0, 1) := by decide +kernel
theorem dX12_isAll_99 : decode cX12_isAll 99 = .ok (.istore 5, 2) := by decide +kernel
theorem dX12_isAll_101 : decode cX12_isAll 101 = .ok (.iinc 6 1, 3) := by decide +kernel
theorem dX12_isAll_104 : decode cX12_isAll 104 = .ok (.goto (-54), 3) := by decide +kernel
theorem dX12_isAll_107 : decode cX12_isAll 107 = .ok (.iload 5, 2) := by decide +kernel
theorem dX12_isAll_109 : decode cX12_isAll 109 = .ok (.ifCond .ne 5, 3) := by decide +kernel
theorem dX12_isAll_112 : decode cX12_isAll 112 = .ok (.iconst 0, 1) := by decide +kernel
theorem dX12_isAll_113 : decode cX12_isAll 113 = .ok (.ireturn, 1) := by decide +kernel
theorem dX12_isAll_114 : decode cX12_isAll 114 = .ok (.iinc 4 1, 3) := by decide +kernel
theorem dX12_isAll_117 : decode cX12_isAll 117 = .ok (.goto (-102), 3) := by decide +kernel
theorem dX12_isAll_120 : decode cX12_isAll 120 = .ok (.iinc 3 1, 3) := by decide +kernel
theorem dX12_isAll_123 : decode cX12_isAll 123 = .ok (.goto (-121), 3) := by decide +kernel
theorem dX12_isAll_126 : decode cX12_isAll 126 = .ok (.iconst 1, 1) := by decide +kernel
theorem dX12_isAll_127 : decode cX12_isAll 127 = .ok (.ireturn, 1) := by decide +kernel
theorem dX12_tourOf_0 : decode cX12_tourOf 0 = .ok (.aload_n 0, 1) := by decide +kernel
theorem dX12_tourOf_1 : decode cX12_tourOf 1 = .ok (.invokevirtual 153, 3) := by decide +kernel
theorem dX12_tourOf_4 : decode cX12_tourOf 4 = .ok (.ifCond .ne 6, 3) := by decide +kernel
theorem dX12_tourOf_7 : decode cX12_tourOf 7 = .ok (.bipush (-9), 2) := by decide +kernel
theorem dX12_tourOf_9 : decode cX12_tourOf 9 = .ok (.ireturn, 1) := by decide +kernel
theorem dX12_tourOf_10 : decode cX12_tourOf 10 = .ok (.bipush 99, 2) := by decide +kernel
theorem dX12_tourOf_12 : decode cX12_tourOf 12 = .ok (.istore_n 1, 1) := by decide +kernel
theorem dX12_tourOf_13 : decode cX12_tourOf 13 = .ok (.iconst 0, 1) := by decide +kernel
theorem dX12_tourOf_14 : decode cX12_tourOf 14 = .ok (.istore_n 2, 1) := by decide +kernel
theorem dX12_tourOf_15 : decode cX12_tourOf 15 = .ok (.iload_n 2, 1) := by decide +kernel
theorem dX12_tourOf_16 : decode cX12_tourOf 16 = .ok (.aload_n 0, 1) := by decide +kernel
theorem dX12_tourOf_17 : decode cX12_tourOf 17 = .ok (.getfield 13, 3) := by decide +kernel
theorem dX12_tourOf_20 : decode cX12_tourOf 20 = .ok (.iconst 0, 1) := by decide +kernel
theorem dX12_tourOf_21 : decode cX12_tourOf 21 = .ok (.iaload, 1) := by decide +kernel
theorem dX12_tourOf_22 : decode cX12_tourOf 22 = .ok (.if_icmp .ge 67, 3) := by decide +kernel
theorem dX12_tourOf_25 : decode cX12_tourOf 25 = .ok (.iconst 0, 1) := by decide +kernel
theorem dX12_tourOf_26 : decode cX12_tourOf 26 = .ok (.istore_n 3, 1) := by decide +kernel
theorem dX12_tourOf_27 : decode cX12_tourOf 27 = .ok (.iload_n 2, 1) := by decide +kernel
theorem dX12_tourOf_28 : decode cX12_tourOf 28 = .ok (.iload_n 3, 1) := by decide +kernel
theorem dX12_tourOf_29 : decode cX12_tourOf 29 = .ok (.iadd, 1) := by decide +kernel
theorem dX12_tourOf_30 : decode cX12_tourOf 30 = .ok (.aload_n 0, 1) := by decide +kernel
theorem dX12_tourOf_31 : decode cX12_tourOf 31 = .ok (.getfield 13, 3) := by decide +kernel
theorem dX12_tourOf_34 : decode cX12_tourOf 34 = .ok (.iconst 0, 1) := by decide +kernel
theorem dX12_tourOf_35 : decode cX12_tourOf 35 = .ok (.iaload, 1) := by decide +kernel
theorem dX12_tourOf_36 : decode cX12_tourOf 36 = .ok (.if_icmp .ge 47, 3) := by decide +kernel
theorem dX12_tourOf_39 : decode cX12_tourOf 39 = .ok (.iload_n 2, 1) := by decide +kernel
theorem dX12_tourOf_40 : decode cX12_tourOf 40 = .ok (.iload_n 3, 1) := by decide +kernel
theorem dX12_tourOf_41 : decode cX12_tourOf 41 = .ok (.iadd, 1) := by decide +kernel
theorem dX12_tourOf_42 : decode cX12_tourOf 42 = .ok (.iload_n 2, 1) := by decide +kernel
theorem dX12_tourOf_43 : decode cX12_tourOf 43 = .ok (.iload_n 3, 1) := by decide +kernel
theorem dX12_tourOf_44 : decode cX12_tourOf 44 = .ok (.if_icmp .ge 7, 3) := by decide +kernel
theorem dX12_tourOf_47 : decode cX12_tourOf 47 = .ok (.iload_n 2, 1) := by decide +kernel
theorem dX12_tourOf_48 : decode cX12_tourOf 48 = .ok (.goto 4, 3) := by decide +kernel
theorem dX12_tourOf_51 : decode cX12_tourOf 51 = .ok (.iload_n 3, 1) := by decide +kernel
theorem dX12_tourOf_52 : decode cX12_tourOf 52 = .ok (.iadd, 1) := by decide +kernel
theorem dX12_tourOf_53 : decode cX12_tourOf 53 = .ok (.istore 4, 2) := by decide +kernel
theorem dX12_tourOf_55 : decode cX12_tourOf 55 = .ok (.iload 4, 2) := by decide +kernel
theorem dX12_tourOf_57 : decode cX12_tourOf 57 = .ok (.iload_n 1, 1) := by decide +kernel
theorem dX12_tourOf_58 : decode cX12_tourOf 58 = .ok (.if_icmp .ge 17, 3) := by decide +kernel
theorem dX12_tourOf_61 : decode cX12_tourOf 61 = .ok (.aload_n 0, 1) := by decide +kernel
theorem dX12_tourOf_62 : decode cX12_tourOf 62 = .ok (.iload_n 2, 1) := by decide +kernel
theorem dX12_tourOf_63 : decode cX12_tourOf 63 = .ok (.iload_n 3, 1) := by decide +kernel
theorem dX12_tourOf_64 : decode cX12_tourOf 64 = .ok (.invokevirtual 156, 3) := by decide +kernel
theorem dX12_tourOf_67 : decode cX12_tourOf 67 = .ok (.ifCond .eq 8, 3) := by decide +kernel
theorem dX12_tourOf_70 : decode cX12_tourOf 70 = .ok (.iload 4, 2) := by decide +kernel
theorem dX12_tourOf_72 : decode cX12_tourOf 72 = .ok (.goto 4, 3) := by decide +kernel
theorem dX12_tourOf_75 : decode cX12_tourOf 75 = .ok (.iload_n 1, 1) := by decide +kernel
theorem dX12_tourOf_76 : decode cX12_tourOf 76 = .ok (.istore_n 1, 1) := by decide +kernel
theorem dX12_tourOf_77 : decode cX12_tourOf 77 = .ok (.iinc 3 1, 3) := by decide +kernel
theorem dX12_tourOf_80 : decode cX12_tourOf 80 = .ok (.goto (-53), 3) := by decide +kernel
theorem dX12_tourOf_83 : decode cX12_tourOf 83 = .ok (.iinc 2 1, 3) := by decide +kernel
theorem dX12_tourOf_86 : decode cX12_tourOf 86 = .ok (.goto (-71), 3) := by decide +kernel
theorem dX12_tourOf_89 : decode cX12_tourOf 89 = .ok (.iload_n 1, 1) := by decide +kernel
theorem dX12_tourOf_90 : decode cX12_tourOf 90 = .ok (.ireturn, 1) := by decide +kernel
theorem dX12_trades_0 : decode cX12_trades 0 = .ok (.aload_n 0, 1) := by decide +kernel
theorem dX12_trades_1 : decode cX12_trades 1 = .ok (.getfield 28, 3) := by decide +kernel
theorem dX12_trades_4 : decode cX12_trades 4 = .ok (.bipush 13, 2) := by decide +kernel
theorem dX12_trades_6 : decode cX12_trades 6 = .ok (.iload_n 1, 1) := by decide +kernel
theorem dX12_trades_7 : decode cX12_trades 7 = .ok (.iadd, 1) := by decide +kernel
theorem dX12_trades_8 : decode cX12_trades 8 = .ok (.iaload, 1) := by decide +kernel
theorem dX12_trades_9 : decode cX12_trades 9 = .ok (.istore_n 3, 1) := by decide +kernel
theorem dX12_trades_10 : decode cX12_trades 10 = .ok (.aload_n 0, 1) := by decide +kernel
theorem dX12_trades_11 : decode cX12_trades 11 = .ok (.getfield 28, 3) := by decide +kernel
theorem dX12_trades_14 : decode cX12_trades 14 = .ok (.bipush 13, 2) := by decide +kernel
theorem dX12_trades_16 : decode cX12_trades 16 = .ok (.iload_n 1, 1) := by decide +kernel
theorem dX12_trades_17 : decode cX12_trades 17 = .ok (.iadd, 1) := by decide +kernel
theorem dX12_trades_18 : decode cX12_trades 18 = .ok (.aload_n 0, 1) := by decide +kernel
theorem dX12_trades_19 : decode cX12_trades 19 = .ok (.getfield 28, 3) := by decide +kernel
theorem dX12_trades_22 : decode cX12_trades 22 = .ok (.bipush 13, 2) := by decide +kernel
theorem dX12_trades_24 : decode cX12_trades 24 = .ok (.iload_n 2, 1) := by decide +kernel
theorem dX12_trades_25 : decode cX12_trades 25 = .ok (.iadd, 1) := by decide +kernel
theorem dX12_trades_26 : decode cX12_trades 26 = .ok (.iaload, 1) := by decide +kernel
theorem dX12_trades_27 : decode cX12_trades 27 = .ok (.iastore, 1) := by decide +kernel
theorem dX12_trades_28 : decode cX12_trades 28 = .ok (.aload_n 0, 1) := by decide +kernel
theorem dX12_trades_29 : decode cX12_trades 29 = .ok (.getfield 28, 3) := by decide +kernel
theorem dX12_trades_32 : decode cX12_trades 32 = .ok (.bipush 13, 2) := by decide +kernel
theorem dX12_trades_34 : decode cX12_trades 34 = .ok (.iload_n 2, 1) := by decide +kernel
theorem dX12_trades_35 : decode cX12_trades 35 = .ok (.iadd, 1) := by decide +kernel
theorem dX12_trades_36 : decode cX12_trades 36 = .ok (.iload_n 3, 1) := by decide +kernel
theorem dX12_trades_37 : decode cX12_trades 37 = .ok (.iastore, 1) := by decide +kernel
theorem dX12_trades_38 : decode cX12_trades 38 = .ok (.return_, 1) := by decide +kernel
theorem dX12_swapOf_0 : decode cX12_swapOf 0 = .ok (.bipush (-9), 2) := by decide +kernel
theorem dX12_swapOf_2 : decode cX12_swapOf 2 = .ok (.istore_n 1, 1) := by decide +kernel
theorem dX12_swapOf_3 : decode cX12_swapOf 3 = .ok (.aload_n 0, 1) := by decide +kernel
theorem dX12_swapOf_4 : decode cX12_swapOf 4 = .ok (.invokevirtual 159, 3) := by decide +kernel
theorem dX12_swapOf_7 : decode cX12_swapOf 7 = .ok (.istore_n 2, 1) := by decide +kernel
theorem dX12_swapOf_8 : decode cX12_swapOf 8 = .ok (.iconst 0, 1) := by decide +kernel
theorem dX12_swapOf_9 : decode cX12_swapOf 9 = .ok (.istore_n 3, 1) := by decide +kernel
theorem dX12_swapOf_10 : decode cX12_swapOf 10 = .ok (.iload_n 3, 1) := by decide +kernel
theorem dX12_swapOf_11 : decode cX12_swapOf 11 = .ok (.aload_n 0, 1) := by decide +kernel
theorem dX12_swapOf_12 : decode cX12_swapOf 12 = .ok (.getfield 13, 3) := by decide +kernel
theorem dX12_swapOf_15 : decode cX12_swapOf 15 = .ok (.iconst 1, 1) := by decide +kernel
theorem dX12_swapOf_16 : decode cX12_swapOf 16 = .ok (.iaload, 1) := by decide +kernel
theorem dX12_swapOf_17 : decode cX12_swapOf 17 = .ok (.if_icmp .ge 88, 3) := by decide +kernel
theorem dX12_swapOf_20 : decode cX12_swapOf 20 = .ok (.iload_n 2, 1) := by decide +kernel
theorem dX12_swapOf_21 : decode cX12_swapOf 21 = .ok (.bipush (-9), 2) := by decide +kernel
theorem dX12_swapOf_23 : decode cX12_swapOf 23 = .ok (.if_icmp .eq 82, 3) := by decide +kernel
theorem dX12_swapOf_26 : decode cX12_swapOf 26 = .ok (.iload_n 3, 1) := by decide +kernel
theorem dX12_swapOf_27 : decode cX12_swapOf 27 = .ok (.iconst 1, 1) := by decide +kernel
theorem dX12_swapOf_28 : decode cX12_swapOf 28 = .ok (.iadd, 1) := by decide +kernel
theorem dX12_swapOf_29 : decode cX12_swapOf 29 = .ok (.istore 4, 2) := by decide +kernel
theorem dX12_swapOf_31 : decode cX12_swapOf 31 = .ok (.iload 4, 2) := by decide +kernel
theorem dX12_swapOf_33 : decode cX12_swapOf 33 = .ok (.aload_n 0, 1) := by decide +kernel
theorem dX12_swapOf_34 : decode cX12_swapOf 34 = .ok (.getfield 13, 3) := by decide +kernel
theorem dX12_swapOf_37 : decode cX12_swapOf 37 = .ok (.iconst 1, 1) := by decide +kernel
theorem dX12_swapOf_38 : decode cX12_swapOf 38 = .ok (.iaload, 1) := by decide +kernel
theorem dX12_swapOf_39 : decode cX12_swapOf 39 = .ok (.if_icmp .ge 60, 3) := by decide +kernel
theorem dX12_swapOf_42 : decode cX12_swapOf 42 = .ok (.aload_n 0, 1) := by decide +kernel
theorem dX12_swapOf_43 : decode cX12_swapOf 43 = .ok (.iload_n 3, 1) := by decide +kernel
theorem dX12_swapOf_44 : decode cX12_swapOf 44 = .ok (.iload 4, 2) := by decide +kernel
theorem dX12_swapOf_46 : decode cX12_swapOf 46 = .ok (.invokevirtual 162, 3) := by decide +kernel
theorem dX12_swapOf_49 : decode cX12_swapOf 49 = .ok (.aload_n 0, 1) := by decide +kernel
theorem dX12_swapOf_50 : decode cX12_swapOf 50 = .ok (.invokevirtual 159, 3) := by decide +kernel
theorem dX12_swapOf_53 : decode cX12_swapOf 53 = .ok (.istore 5, 2) := by decide +kernel
theorem dX12_swapOf_55 : decode cX12_swapOf 55 = .ok (.iload 5, 2) := by decide +kernel
theorem dX12_swapOf_57 : decode cX12_swapOf 57 = .ok (.iload_n 2, 1) := by decide +kernel
theorem dX12_swapOf_58 : decode cX12_swapOf 58 = .ok (.if_icmp .ge 13, 3) := by decide +kernel
theorem dX12_swapOf_61 : decode cX12_swapOf 61 = .ok (.bipush 10, 2) := by decide +kernel
theorem dX12_swapOf_63 : decode cX12_swapOf 63 = .ok (.iload_n 3, 1) := by decide +kernel
theorem dX12_swapOf_64 : decode cX12_swapOf 64 = .ok (.imul, 1) := by decide +kernel
theorem dX12_swapOf_65 : decode cX12_swapOf 65 = .ok (.iload 4, 2) := by decide +kernel
theorem dX12_swapOf_67 : decode cX12_swapOf 67 = .ok (.iadd, 1) := by decide +kernel
theorem dX12_swapOf_68 : decode cX12_swapOf 68 = .ok (.goto 4, 3) := by decide +kernel
theorem dX12_swapOf_71 : decode cX12_swapOf 71 = .ok (.iload_n 1, 1) := by decide +kernel
theorem dX12_swapOf_72 : decode cX12_swapOf 72 = .ok (.istore_n 1, 1) := by decide +kernel
theorem dX12_swapOf_73 : decode cX12_swapOf 73 = .ok (.iload 5, 2) := by decide +kernel
theorem dX12_swapOf_75 : decode cX12_swapOf 75 = .ok (.iload_n 2, 1) := by decide +kernel
theorem dX12_swapOf_76 : decode cX12_swapOf 76 = .ok (.if_icmp .ge 8, 3) := by decide +kernel
theorem dX12_swapOf_79 : decode cX12_swapOf 79 = .ok (.iload 5, 2) := by decide +kernel
theorem dX12_swapOf_81 : decode cX12_swapOf 81 = .ok (.goto 4, 3) := by decide +kernel
theorem dX12_swapOf_84 : decode cX12_swapOf 84 = .ok (.iload_n 2, 1) := by decide +kernel
theorem dX12_swapOf_85 : decode cX12_swapOf 85 = .ok (.istore_n 2, 1) := by decide +kernel
theorem dX12_swapOf_86 : decode cX12_swapOf 86 = .ok (.aload_n 0, 1) := by decide +kernel
theorem dX12_swapOf_87 : decode cX12_swapOf 87 = .ok (.iload_n 3, 1) := by decide +kernel
theorem dX12_swapOf_88 : decode cX12_swapOf 88 = .ok (.iload 4, 2) := by decide +kernel
theorem dX12_swapOf_90 : decode cX12_swapOf 90 = .ok (.invokevirtual 162, 3) := by decide +kernel
theorem dX12_swapOf_93 : decode cX12_swapOf 93 = .ok (.iinc 4 1, 3) := by decide +kernel
theorem dX12_swapOf_96 : decode cX12_swapOf 96 = .ok (.goto (-65), 3) := by decide +kernel
theorem dX12_swapOf_99 : decode cX12_swapOf 99 = .ok (.iinc 3 1, 3) := by decide +kernel
theorem dX12_swapOf_102 : decode cX12_swapOf 102 = .ok (.goto (-92), 3) := by decide +kernel
theorem dX12_swapOf_105 : decode cX12_swapOf 105 = .ok (.iload_n 1, 1) := by decide +kernel
theorem dX12_swapOf_106 : decode cX12_swapOf 106 = .ok (.ireturn, 1) := by decide +kernel
theorem dX12_sevens_0 : decode cX12_sevens 0 = .ok (.iconst 1, 1) := by decide +kernel
theorem dX12_sevens_1 : decode cX12_sevens 1 = .ok (.istore_n 1, 1) := by decide +kernel
theorem dX12_sevens_2 : decode cX12_sevens 2 = .ok (.iconst 0, 1) := by decide +kernel
theorem dX12_sevens_3 : decode cX12_sevens 3 = .ok (.istore_n 2, 1) := by decide +kernel
theorem dX12_sevens_4 : decode cX12_sevens 4 = .ok (.iload_n 2, 1) := by decide +kernel
theorem dX12_sevens_5 : decode cX12_sevens 5 = .ok (.iload_n 0, 1) := by decide +kernel
theorem dX12_sevens_6 : decode cX12_sevens 6 = .ok (.if_icmp .ge 14, 3) := by decide +kernel
theorem dX12_sevens_9 : decode cX12_sevens 9 = .ok (.iload_n 1, 1) := by decide +kernel
theorem dX12_sevens_10 : decode cX12_sevens 10 = .ok (.bipush 7, 2) := by decide +kernel
theorem dX12_sevens_12 : decode cX12_sevens 12 = .ok (.imul, 1) := by decide +kernel
theorem dX12_sevens_13 : decode cX12_sevens 13 = .ok (.istore_n 1, 1) := by decide +kernel
theorem dX12_sevens_14 : decode cX12_sevens 14 = .ok (.iinc 2 1, 3) := by decide +kernel
theorem dX12_sevens_17 : decode cX12_sevens 17 = .ok (.goto (-13), 3) := by decide +kernel
theorem dX12_sevens_20 : decode cX12_sevens 20 = .ok (.iload_n 1, 1) := by decide +kernel
theorem dX12_sevens_21 : decode cX12_sevens 21 = .ok (.ireturn, 1) := by decide +kernel
theorem dX12_havingBy_0 : decode cX12_havingBy 0 = .ok (.iconst 0, 1) := by decide +kernel
theorem dX12_havingBy_1 : decode cX12_havingBy 1 = .ok (.istore_n 2, 1) := by decide +kernel
theorem dX12_havingBy_2 : decode cX12_havingBy 2 = .ok (.iload_n 2, 1) := by decide +kernel
theorem dX12_havingBy_3 : decode cX12_havingBy 3 = .ok (.bipush 6, 2) := by decide +kernel
theorem dX12_havingBy_5 : decode cX12_havingBy 5 = .ok (.if_icmp .ge 37, 3) := by decide +kernel
theorem dX12_havingBy_8 : decode cX12_havingBy 8 = .ok (.aload_n 0, 1) := by decide +kernel
theorem dX12_havingBy_9 : decode cX12_havingBy 9 = .ok (.getfield 56, 3) := by decide +kernel
theorem dX12_havingBy_12 : decode cX12_havingBy 12 = .ok (.iload_n 2, 1) := by decide +kernel
theorem dX12_havingBy_13 : decode cX12_havingBy 13 = .ok (.iload_n 2, 1) := by decide +kernel
theorem dX12_havingBy_14 : decode cX12_havingBy 14 = .ok (.aload_n 0, 1) := by decide +kernel
theorem dX12_havingBy_15 : decode cX12_havingBy 15 = .ok (.getfield 13, 3) := by decide +kernel
theorem dX12_havingBy_18 : decode cX12_havingBy 18 = .ok (.iconst 2, 1) := by decide +kernel
theorem dX12_havingBy_19 : decode cX12_havingBy 19 = .ok (.iaload, 1) := by decide +kernel
theorem dX12_havingBy_20 : decode cX12_havingBy 20 = .ok (.if_icmp .ge 14, 3) := by decide +kernel
theorem dX12_havingBy_23 : decode cX12_havingBy 23 = .ok (.aload_n 0, 1) := by decide +kernel
theorem dX12_havingBy_24 : decode cX12_havingBy 24 = .ok (.getfield 28, 3) := by decide +kernel
theorem dX12_havingBy_27 : decode cX12_havingBy 27 = .ok (.iconst 1, 1) := by decide +kernel
theorem dX12_havingBy_28 : decode cX12_havingBy 28 = .ok (.iload_n 2, 1) := by decide +kernel
theorem dX12_havingBy_29 : decode cX12_havingBy 29 = .ok (.iadd, 1) := by decide +kernel
theorem dX12_havingBy_30 : decode cX12_havingBy 30 = .ok (.iaload, 1) := by decide +kernel
theorem dX12_havingBy_31 : decode cX12_havingBy 31 = .ok (.goto 4, 3) := by decide +kernel
theorem dX12_havingBy_34 : decode cX12_havingBy 34 = .ok (.iconst 0, 1) := by decide +kernel
theorem dX12_havingBy_35 : decode cX12_havingBy 35 = .ok (.iastore, 1) := by decide +kernel
theorem dX12_havingBy_36 : decode cX12_havingBy 36 = .ok (.iinc 2 1, 3) := by decide +kernel
theorem dX12_havingBy_39 : decode cX12_havingBy 39 = .ok (.goto (-37), 3) := by decide +kernel
theorem dX12_havingBy_42 : decode cX12_havingBy 42 = .ok (.iload_n 1, 1) := by decide +kernel
theorem dX12_havingBy_43 : decode cX12_havingBy 43 = .ok (.istore_n 2, 1) := by decide +kernel
theorem dX12_havingBy_44 : decode cX12_havingBy 44 = .ok (.iconst 0, 1) := by decide +kernel
theorem dX12_havingBy_45 : decode cX12_havingBy 45 = .ok (.istore_n 3, 1) := by decide +kernel
theorem dX12_havingBy_46 : decode cX12_havingBy 46 = .ok (.aload_n 0, 1) := by decide +kernel
theorem dX12_havingBy_47 : decode cX12_havingBy 47 = .ok (.getfield 13, 3) := by decide +kernel
theorem dX12_havingBy_50 : decode cX12_havingBy 50 = .ok (.iconst 1, 1) := by decide +kernel
theorem dX12_havingBy_51 : decode cX12_havingBy 51 = .ok (.iaload, 1) := by decide +kernel
theorem dX12_havingBy_52 : decode cX12_havingBy 52 = .ok (.iconst 1, 1) := by decide +kernel
theorem dX12_havingBy_53 : decode cX12_havingBy 53 = .ok (.isub, 1) := by decide +kernel
theorem dX12_havingBy_54 : decode cX12_havingBy 54 = .ok (.istore 4, 2) := by decide +kernel
theorem dX12_havingBy_56 : decode cX12_havingBy 56 = .ok (.iload 4, 2) := by decide +kernel
theorem dX12_havingBy_58 : decode cX12_havingBy 58 = .ok (.ifCond .lt 77, 3) := by decide +kernel
theorem dX12_havingBy_61 : decode cX12_havingBy 61 = .ok (.iload_n 2, 1) := by decide +kernel
theorem dX12_havingBy_62 : decode cX12_havingBy 62 = .ok (.bipush 7, 2) := by decide +kernel
theorem dX12_havingBy_64 : decode cX12_havingBy 64 = .ok (.irem, 1) := by decide +kernel
theorem dX12_havingBy_65 : decode cX12_havingBy 65 = .ok (.istore 5, 2) := by decide +kernel
theorem dX12_havingBy_67 : decode cX12_havingBy 67 = .ok (.iload_n 2, 1) := by decide +kernel
theorem dX12_havingBy_68 : decode cX12_havingBy 68 = .ok (.bipush 7, 2) := by decide +kernel
theorem dX12_havingBy_70 : decode cX12_havingBy 70 = .ok (.idiv, 1) := by decide +kernel
theorem dX12_havingBy_71 : decode cX12_havingBy 71 = .ok (.istore_n 2, 1) := by decide +kernel
theorem dX12_havingBy_72 : decode cX12_havingBy 72 = .ok (.aload_n 0, 1) := by decide +kernel
theorem dX12_havingBy_73 : decode cX12_havingBy 73 = .ok (.getfield 50, 3) := by decide +kernel
theorem dX12_havingBy_76 : decode cX12_havingBy 76 = .ok (.iload 4, 2) := by decide +kernel
theorem dX12_havingBy_78 : decode cX12_havingBy 78 = .ok (.iload 5, 2) := by decide +kernel
theorem dX12_havingBy_80 : decode cX12_havingBy 80 = .ok (.iastore, 1) := by decide +kernel
theorem dX12_havingBy_81 : decode cX12_havingBy 81 = .ok (.iload 5, 2) := by decide +kernel
theorem dX12_havingBy_83 : decode cX12_havingBy 83 = .ok (.bipush 6, 2) := by decide +kernel
theorem dX12_havingBy_85 : decode cX12_havingBy 85 = .ok (.if_icmp .ge 44, 3) := by decide +kernel
theorem dX12_havingBy_88 : decode cX12_havingBy 88 = .ok (.aload_n 0, 1) := by decide +kernel
theorem dX12_havingBy_89 : decode cX12_havingBy 89 = .ok (.iload 4, 2) := by decide +kernel
theorem dX12_havingBy_91 : decode cX12_havingBy 91 = .ok (.invokevirtual 137, 3) := by decide +kernel
theorem dX12_havingBy_94 : decode cX12_havingBy 94 = .ok (.iload 5, 2) := by decide +kernel
theorem dX12_havingBy_96 : decode cX12_havingBy 96 = .ok (.invokestatic 149, 3) := by decide +kernel
theorem dX12_havingBy_99 : decode cX12_havingBy 99 = .ok (.ifCond .eq 13, 3) := by decide +kernel
theorem dX12_havingBy_102 : decode cX12_havingBy 102 = .ok (.aload_n 0, 1) := by decide +kernel
theorem dX12_havingBy_103 : decode cX12_havingBy 103 = .ok (.getfield 56, 3) := by decide +kernel
theorem dX12_havingBy_106 : decode cX12_havingBy 106 = .ok (.iload 5, 2) := by decide +kernel
theorem dX12_havingBy_108 : decode cX12_havingBy 108 = .ok (.iaload, 1) := by decide +kernel
theorem dX12_havingBy_109 : decode cX12_havingBy 109 = .ok (.ifCond .ne 6, 3) := by decide +kernel
theorem dX12_havingBy_112 : decode cX12_havingBy 112 = .ok (.bipush (-9), 2) := by decide +kernel
theorem dX12_havingBy_114 : decode cX12_havingBy 114 = .ok (.ireturn, 1) := by decide +kernel
theorem dX12_havingBy_115 : decode cX12_havingBy 115 = .ok (.aload_n 0, 1) := by decide +kernel
theorem dX12_havingBy_116 : decode cX12_havingBy 116 = .ok (.getfield 56, 3) := by decide +kernel
theorem dX12_havingBy_119 : decode cX12_havingBy 119 = .ok (.iload 5, 2) := by decide +kernel
theorem dX12_havingBy_121 : decode cX12_havingBy 121 = .ok (.dup2, 1) := by decide +kernel
theorem dX12_havingBy_122 : decode cX12_havingBy 122 = .ok (.iaload, 1) := by decide +kernel
theorem dX12_havingBy_123 : decode cX12_havingBy 123 = .ok (.iconst 1, 1) := by decide +kernel
theorem dX12_havingBy_124 : decode cX12_havingBy 124 = .ok (.isub, 1) := by decide +kernel
theorem dX12_havingBy_125 : decode cX12_havingBy 125 = .ok (.iastore, 1) := by decide +kernel
theorem dX12_havingBy_126 : decode cX12_havingBy 126 = .ok (.iinc 3 1, 3) := by decide +kernel
theorem dX12_havingBy_129 : decode cX12_havingBy 129 = .ok (.iinc 4 (-1), 3) := by decide +kernel
theorem dX12_havingBy_132 : decode cX12_havingBy 132 = .ok (.goto (-76), 3) := by decide +kernel
theorem dX12_havingBy_135 : decode cX12_havingBy 135 = .ok (.iload_n 3, 1) := by decide +kernel
theorem dX12_havingBy_136 : decode cX12_havingBy 136 = .ok (.ireturn, 1) := by decide +kernel
theorem dX12_feeds_0 : decode cX12_feeds 0 = .ok (.iconst (-1), 1) := by decide +kernel
theorem dX12_feeds_1 : decode cX12_feeds 1 = .ok (.istore_n 1, 1) := by decide +kernel
theorem dX12_feeds_2 : decode cX12_feeds 2 = .ok (.aload_n 0, 1) := by decide +kernel
theorem dX12_feeds_3 : decode cX12_feeds 3 = .ok (.getfield 13, 3) := by decide +kernel
theorem dX12_feeds_6 : decode cX12_feeds 6 = .ok (.iconst 1, 1) := by decide +kernel
theorem dX12_feeds_7 : decode cX12_feeds 7 = .ok (.iaload, 1) := by decide +kernel
theorem dX12_feeds_8 : decode cX12_feeds 8 = .ok (.invokestatic 166, 3) := by decide +kernel
theorem dX12_feeds_11 : decode cX12_feeds 11 = .ok (.istore_n 2, 1) := by decide +kernel
theorem dX12_feeds_12 : decode cX12_feeds 12 = .ok (.iconst 0, 1) := by decide +kernel
theorem dX12_feeds_13 : decode cX12_feeds 13 = .ok (.istore_n 3, 1) := by decide +kernel
theorem dX12_feeds_14 : decode cX12_feeds 14 = .ok (.iload_n 3, 1) := by decide +kernel
theorem dX12_feeds_15 : decode cX12_feeds 15 = .ok (.iload_n 2, 1) := by decide +kernel
theorem dX12_feeds_16 : decode cX12_feeds 16 = .ok (.if_icmp .ge 65, 3) := by decide +kernel
theorem dX12_feeds_19 : decode cX12_feeds 19 = .ok (.iload_n 1, 1) := by decide +kernel
theorem dX12_feeds_20 : decode cX12_feeds 20 = .ok (.aload_n 0, 1) := by decide +kernel
theorem dX12_feeds_21 : decode cX12_feeds 21 = .ok (.getfield 13, 3) := by decide +kernel
theorem dX12_feeds_24 : decode cX12_feeds 24 = .ok (.iconst 1, 1) := by decide +kernel
theorem dX12_feeds_25 : decode cX12_feeds 25 = .ok (.iaload, 1) := by decide +kernel
theorem dX12_feeds_26 : decode cX12_feeds 26 = .ok (.if_icmp .ge 55, 3) := by decide +kernel
theorem dX12_feeds_29 : decode cX12_feeds 29 = .ok (.aload_n 0, 1) := by decide +kernel
theorem dX12_feeds_30 : decode cX12_feeds 30 = .ok (.iload_n 3, 1) := by decide +kernel
theorem dX12_feeds_31 : decode cX12_feeds 31 = .ok (.invokevirtual 169, 3) := by decide +kernel
theorem dX12_feeds_34 : decode cX12_feeds 34 = .ok (.istore 4, 2) := by decide +kernel
theorem dX12_feeds_36 : decode cX12_feeds 36 = .ok (.iload 4, 2) := by decide +kernel
theorem dX12_feeds_38 : decode cX12_feeds 38 = .ok (.iload_n 1, 1) := by decide +kernel
theorem dX12_feeds_39 : decode cX12_feeds 39 = .ok (.if_icmp .le 36, 3) := by decide +kernel
theorem dX12_feeds_42 : decode cX12_feeds 42 = .ok (.iload 4, 2) := by decide +kernel
theorem dX12_feeds_44 : decode cX12_feeds 44 = .ok (.istore_n 1, 1) := by decide +kernel
theorem dX12_feeds_45 : decode cX12_feeds 45 = .ok (.iconst 0, 1) := by decide +kernel
theorem dX12_feeds_46 : decode cX12_feeds 46 = .ok (.istore 5, 2) := by decide +kernel
theorem dX12_feeds_48 : decode cX12_feeds 48 = .ok (.iload 5, 2) := by decide +kernel
theorem dX12_feeds_50 : decode cX12_feeds 50 = .ok (.bipush 6, 2) := by decide +kernel
theorem dX12_feeds_52 : decode cX12_feeds 52 = .ok (.if_icmp .ge 23, 3) := by decide +kernel
theorem dX12_feeds_55 : decode cX12_feeds 55 = .ok (.aload_n 0, 1) := by decide +kernel
theorem dX12_feeds_56 : decode cX12_feeds 56 = .ok (.getfield 53, 3) := by decide +kernel
theorem dX12_feeds_59 : decode cX12_feeds 59 = .ok (.iload 5, 2) := by decide +kernel
theorem dX12_feeds_61 : decode cX12_feeds 61 = .ok (.aload_n 0, 1) := by decide +kernel
theorem dX12_feeds_62 : decode cX12_feeds 62 = .ok (.getfield 50, 3) := by decide +kernel
theorem dX12_feeds_65 : decode cX12_feeds 65 = .ok (.iload 5, 2) := by decide +kernel
theorem dX12_feeds_67 : decode cX12_feeds 67 = .ok (.iaload, 1) := by decide +kernel
theorem dX12_feeds_68 : decode cX12_feeds 68 = .ok (.iastore, 1) := by decide +kernel
theorem dX12_feeds_69 : decode cX12_feeds 69 = .ok (.iinc 5 1, 3) := by decide +kernel
theorem dX12_feeds_72 : decode cX12_feeds 72 = .ok (.goto (-24), 3) := by decide +kernel
theorem dX12_feeds_75 : decode cX12_feeds 75 = .ok (.iinc 3 1, 3) := by decide +kernel
theorem dX12_feeds_78 : decode cX12_feeds 78 = .ok (.goto (-64), 3) := by decide +kernel
theorem dX12_feeds_81 : decode cX12_feeds 81 = .ok (.iload_n 1, 1) := by decide +kernel
theorem dX12_feeds_82 : decode cX12_feeds 82 = .ok (.ireturn, 1) := by decide +kernel
theorem dX12_now_0 : decode cX12_now 0 = .ok (.aload_n 0, 1) := by decide +kernel
theorem dX12_now_1 : decode cX12_now 1 = .ok (.iconst 0, 1) := by decide +kernel
theorem dX12_now_2 : decode cX12_now 2 = .ok (.putfield 65, 3) := by decide +kernel
theorem dX12_now_5 : decode cX12_now 5 = .ok (.iload_n 1, 1) := by decide +kernel
theorem dX12_now_6 : decode cX12_now 6 = .ok (.iconst 0, 1) := by decide +kernel
theorem dX12_now_7 : decode cX12_now 7 = .ok (.iconst 5, 1) := by decide +kernel
theorem dX12_now_8 : decode cX12_now 8 = .ok (.invokestatic 69, 3) := by decide +kernel
theorem dX12_now_11 : decode cX12_now 11 = .ok (.ifCond .ne 5, 3) := by decide +kernel
theorem dX12_now_14 : decode cX12_now 14 = .ok (.iconst (-1), 1) := by decide +kernel
theorem dX12_now_15 : decode cX12_now 15 = .ok (.ireturn, 1) := by decide +kernel
theorem dX12_now_16 : decode cX12_now 16 = .ok (.iload_n 1, 1) := by decide +kernel
theorem dX12_now_17 : decode cX12_now 17 = .ok (.iconst 2, 1) := by decide +kernel
theorem dX12_now_18 : decode cX12_now 18 = .ok (.if_icmp .ge 49, 3) := by decide +kernel
theorem dX12_now_21 : decode cX12_now 21 = .ok (.iconst 0, 1) := by decide +kernel
theorem dX12_now_22 : decode cX12_now 22 = .ok (.istore_n 2, 1) := by decide +kernel
theorem dX12_now_23 : decode cX12_now 23 = .ok (.iconst 0, 1) := by decide +kernel
theorem dX12_now_24 : decode cX12_now 24 = .ok (.istore_n 3, 1) := by decide +kernel
theorem dX12_now_25 : decode cX12_now 25 = .ok (.iload_n 3, 1) := by decide +kernel
theorem dX12_now_26 : decode cX12_now 26 = .ok (.aload_n 0, 1) := by decide +kernel
theorem dX12_now_27 : decode cX12_now 27 = .ok (.getfield 13, 3) := by decide +kernel
theorem dX12_now_30 : decode cX12_now 30 = .ok (.iconst 2, 1) := by decide +kernel
theorem dX12_now_31 : decode cX12_now 31 = .ok (.iaload, 1) := by decide +kernel
theorem dX12_now_32 : decode cX12_now 32 = .ok (.if_icmp .ge 20, 3) := by decide +kernel
theorem dX12_now_35 : decode cX12_now 35 = .ok (.iload_n 2, 1) := by decide +kernel
theorem dX12_now_36 : decode cX12_now 36 = .ok (.aload_n 0, 1) := by decide +kernel
theorem dX12_now_37 : decode cX12_now 37 = .ok (.getfield 28, 3) := by decide +kernel
theorem dX12_now_40 : decode cX12_now 40 = .ok (.iconst 1, 1) := by decide +kernel
theorem dX12_now_41 : decode cX12_now 41 = .ok (.iload_n 3, 1) := by decide +kernel
theorem dX12_now_42 : decode cX12_now 42 = .ok (.iadd, 1) := by decide +kernel
theorem dX12_now_43 : decode cX12_now 43 = .ok (.iaload, 1) := by decide +kernel
theorem dX12_now_44 : decode cX12_now 44 = .ok (.iadd, 1) := by decide +kernel
theorem dX12_now_45 : decode cX12_now 45 = .ok (.istore_n 2, 1) := by decide +kernel
theorem dX12_now_46 : decode cX12_now 46 = .ok (.iinc 3 1, 3) := by decide +kernel
theorem dX12_now_49 : decode cX12_now 49 = .ok (.goto (-24), 3) := by decide +kernel
theorem dX12_now_52 : decode cX12_now 52 = .ok (.iload_n 1, 1) := by decide +kernel
theorem dX12_now_53 : decode cX12_now 53 = .ok (.ifCond .ne 12, 3) := by decide +kernel
theorem dX12_now_56 : decode cX12_now 56 = .ok (.aload_n 0, 1) := by decide +kernel
theorem dX12_now_57 : decode cX12_now 57 = .ok (.getfield 28, 3) := by decide +kernel
theorem dX12_now_60 : decode cX12_now 60 = .ok (.iconst 0, 1) := by decide +kernel
theorem dX12_now_61 : decode cX12_now 61 = .ok (.iaload, 1) := by decide +kernel
theorem dX12_now_62 : decode cX12_now 62 = .ok (.goto 4, 3) := by decide +kernel
theorem dX12_now_65 : decode cX12_now 65 = .ok (.iload_n 2, 1) := by decide +kernel
theorem dX12_now_66 : decode cX12_now 66 = .ok (.ireturn, 1) := by decide +kernel
theorem dX12_now_67 : decode cX12_now 67 = .ok (.iload_n 1, 1) := by decide +kernel
theorem dX12_now_68 : decode cX12_now 68 = .ok (.iconst 2, 1) := by decide +kernel
theorem dX12_now_69 : decode cX12_now 69 = .ok (.if_icmp .ne 10, 3) := by decide +kernel
theorem dX12_now_72 : decode cX12_now 72 = .ok (.aload_n 0, 1) := by decide +kernel
theorem dX12_now_73 : decode cX12_now 73 = .ok (.invokevirtual 159, 3) := by decide +kernel
theorem dX12_now_76 : decode cX12_now 76 = .ok (.goto 31, 3) := by decide +kernel
theorem dX12_now_79 : decode cX12_now 79 = .ok (.iload_n 1, 1) := by decide +kernel
theorem dX12_now_80 : decode cX12_now 80 = .ok (.iconst 3, 1) := by decide +kernel
theorem dX12_now_81 : decode cX12_now 81 = .ok (.if_icmp .ne 10, 3) := by decide +kernel
theorem dX12_now_84 : decode cX12_now 84 = .ok (.aload_n 0, 1) := by decide +kernel
theorem dX12_now_85 : decode cX12_now 85 = .ok (.invokevirtual 172, 3) := by decide +kernel
theorem dX12_now_88 : decode cX12_now 88 = .ok (.goto 19, 3) := by decide +kernel
theorem dX12_now_91 : decode cX12_now 91 = .ok (.iload_n 1, 1) := by decide +kernel
theorem dX12_now_92 : decode cX12_now 92 = .ok (.iconst 4, 1) := by decide +kernel
theorem dX12_now_93 : decode cX12_now 93 = .ok (.if_icmp .ne 10, 3) := by decide +kernel
theorem dX12_now_96 : decode cX12_now 96 = .ok (.aload_n 0, 1) := by decide +kernel
theorem dX12_now_97 : decode cX12_now 97 = .ok (.invokevirtual 175, 3) := by decide +kernel
theorem dX12_now_100 : decode cX12_now 100 = .ok (.goto 7, 3) := by decide +kernel
theorem dX12_now_103 : decode cX12_now 103 = .ok (.aload_n 0, 1) := by decide +kernel
theorem dX12_now_104 : decode cX12_now 104 = .ok (.getfield 128, 3) := by decide +kernel
theorem dX12_now_107 : decode cX12_now 107 = .ok (.ireturn, 1) := by decide +kernel
theorem dX12_notes_0 : decode cX12_notes 0 = .ok (.aload_n 0, 1) := by decide +kernel
theorem dX12_notes_1 : decode cX12_notes 1 = .ok (.getfield 128, 3) := by decide +kernel
theorem dX12_notes_4 : decode cX12_notes 4 = .ok (.bipush 10, 2) := by decide +kernel
theorem dX12_notes_6 : decode cX12_notes 6 = .ok (.if_icmp .ne 39, 3) := by decide +kernel
theorem dX12_notes_9 : decode cX12_notes 9 = .ok (.iconst 0, 1) := by decide +kernel
theorem dX12_notes_10 : decode cX12_notes 10 = .ok (.istore_n 1, 1) := by decide +kernel
theorem dX12_notes_11 : decode cX12_notes 11 = .ok (.iload_n 1, 1) := by decide +kernel
theorem dX12_notes_12 : decode cX12_notes 12 = .ok (.sipush 225, 3) := by decide +kernel
theorem dX12_notes_15 : decode cX12_notes 15 = .ok (.if_icmp .ge 24, 3) := by decide +kernel
theorem dX12_notes_18 : decode cX12_notes 18 = .ok (.aload_n 0, 1) := by decide +kernel
theorem dX12_notes_19 : decode cX12_notes 19 = .ok (.getfield 38, 3) := by decide +kernel
theorem dX12_notes_22 : decode cX12_notes 22 = .ok (.iload_n 1, 1) := by decide +kernel
theorem dX12_notes_23 : decode cX12_notes 23 = .ok (.aload_n 0, 1) := by decide +kernel
theorem dX12_notes_24 : decode cX12_notes 24 = .ok (.getfield 38, 3) := by decide +kernel
theorem dX12_notes_27 : decode cX12_notes 27 = .ok (.iload_n 1, 1) := by decide +kernel
theorem dX12_notes_28 : decode cX12_notes 28 = .ok (.bipush 25, 2) := by decide +kernel
theorem dX12_notes_30 : decode cX12_notes 30 = .ok (.iadd, 1) := by decide +kernel
theorem dX12_notes_31 : decode cX12_notes 31 = .ok (.iaload, 1) := by decide +kernel
theorem dX12_notes_32 : decode cX12_notes 32 = .ok (.iastore, 1) := by decide +kernel
theorem dX12_notes_33 : decode cX12_notes 33 = .ok (.iinc 1 1, 3) := by decide +kernel
theorem dX12_notes_36 : decode cX12_notes 36 = .ok (.goto (-25), 3) := by decide +kernel
theorem dX12_notes_39 : decode cX12_notes 39 = .ok (.aload_n 0, 1) := by decide +kernel
theorem dX12_notes_40 : decode cX12_notes 40 = .ok (.bipush 9, 2) := by decide +kernel
theorem dX12_notes_42 : decode cX12_notes 42 = .ok (.putfield 128, 3) := by decide +kernel
theorem dX12_notes_45 : decode cX12_notes 45 = .ok (.iconst 0, 1) := by decide +kernel
theorem dX12_notes_46 : decode cX12_notes 46 = .ok (.istore_n 1, 1) := by decide +kernel
theorem dX12_notes_47 : decode cX12_notes 47 = .ok (.iload_n 1, 1) := by decide +kernel
theorem dX12_notes_48 : decode cX12_notes 48 = .ok (.bipush 25, 2) := by decide +kernel
theorem dX12_notes_50 : decode cX12_notes 50 = .ok (.if_icmp .ge 29, 3) := by decide +kernel
theorem dX12_notes_53 : decode cX12_notes 53 = .ok (.aload_n 0, 1) := by decide +kernel
theorem dX12_notes_54 : decode cX12_notes 54 = .ok (.getfield 38, 3) := by decide +kernel
theorem dX12_notes_57 : decode cX12_notes 57 = .ok (.bipush 25, 2) := by decide +kernel
theorem dX12_notes_59 : decode cX12_notes 59 = .ok (.aload_n 0, 1) := by decide +kernel
theorem dX12_notes_60 : decode cX12_notes 60 = .ok (.getfield 128, 3) := by decide +kernel
theorem dX12_notes_63 : decode cX12_notes 63 = .ok (.imul, 1) := by decide +kernel
theorem dX12_notes_64 : decode cX12_notes 64 = .ok (.iload_n 1, 1) := by decide +kernel
theorem dX12_notes_65 : decode cX12_notes 65 = .ok (.iadd, 1) := by decide +kernel
theorem dX12_notes_66 : decode cX12_notes 66 = .ok (.aload_n 0, 1) := by decide +kernel
theorem dX12_notes_67 : decode cX12_notes 67 = .ok (.getfield 28, 3) := by decide +kernel
theorem dX12_notes_70 : decode cX12_notes 70 = .ok (.iload_n 1, 1) := by decide +kernel
theorem dX12_notes_71 : decode cX12_notes 71 = .ok (.iaload, 1) := by decide +kernel
theorem dX12_notes_72 : decode cX12_notes 72 = .ok (.iastore, 1) := by decide +kernel
theorem dX12_notes_73 : decode cX12_notes 73 = .ok (.iinc 1 1, 3) := by decide +kernel
theorem dX12_notes_76 : decode cX12_notes 76 = .ok (.goto (-29), 3) := by decide +kernel
theorem dX12_notes_79 : decode cX12_notes 79 = .ok (.aload_n 0, 1) := by decide +kernel
theorem dX12_notes_80 : decode cX12_notes 80 = .ok (.dup, 1) := by decide +kernel
theorem dX12_notes_81 : decode cX12_notes 81 = .ok (.getfield 128, 3) := by decide +kernel
theorem dX12_notes_84 : decode cX12_notes 84 = .ok (.iconst 1, 1) := by decide +kernel
theorem dX12_notes_85 : decode cX12_notes 85 = .ok (.iadd, 1) := by decide +kernel
theorem dX12_notes_86 : decode cX12_notes 86 = .ok (.putfield 128, 3) := by decide +kernel
theorem dX12_notes_89 : decode cX12_notes 89 = .ok (.return_, 1) := by decide +kernel
theorem dX12_spins_0 : decode cX12_spins 0 = .ok (.aload_n 0, 1) := by decide +kernel
theorem dX12_spins_1 : decode cX12_spins 1 = .ok (.iconst 0, 1) := by decide +kernel
theorem dX12_spins_2 : decode cX12_spins 2 = .ok (.putfield 65, 3) := by decide +kernel
theorem dX12_spins_5 : decode cX12_spins 5 = .ok (.iload_n 1, 1) := by decide +kernel
theorem dX12_spins_6 : decode cX12_spins 6 = .ok (.iconst 1, 1) := by decide +kernel
theorem dX12_spins_7 : decode cX12_spins 7 = .ok (.aload_n 0, 1) := by decide +kernel
theorem dX12_spins_8 : decode cX12_spins 8 = .ok (.getfield 13, 3) := by decide +kernel
theorem dX12_spins_11 : decode cX12_spins 11 = .ok (.iconst 0, 1) := by decide +kernel
theorem dX12_spins_12 : decode cX12_spins 12 = .ok (.iaload, 1) := by decide +kernel
theorem dX12_spins_13 : decode cX12_spins 13 = .ok (.iconst 1, 1) := by decide +kernel
theorem dX12_spins_14 : decode cX12_spins 14 = .ok (.isub, 1) := by decide +kernel
theorem dX12_spins_15 : decode cX12_spins 15 = .ok (.invokestatic 69, 3) := by decide +kernel
theorem dX12_spins_18 : decode cX12_spins 18 = .ok (.ifCond .eq 12, 3) := by decide +kernel
theorem dX12_spins_21 : decode cX12_spins 21 = .ok (.iload_n 2, 1) := by decide +kernel
theorem dX12_spins_22 : decode cX12_spins 22 = .ok (.iconst 0, 1) := by decide +kernel
theorem dX12_spins_23 : decode cX12_spins 23 = .ok (.iconst 1, 1) := by decide +kernel
theorem dX12_spins_24 : decode cX12_spins 24 = .ok (.invokestatic 69, 3) := by decide +kernel
theorem dX12_spins_27 : decode cX12_spins 27 = .ok (.ifCond .ne 5, 3) := by decide +kernel
theorem dX12_spins_30 : decode cX12_spins 30 = .ok (.iconst (-1), 1) := by decide +kernel
theorem dX12_spins_31 : decode cX12_spins 31 = .ok (.ireturn, 1) := by decide +kernel
theorem dX12_spins_32 : decode cX12_spins 32 = .ok (.aload_n 0, 1) := by decide +kernel
theorem dX12_spins_33 : decode cX12_spins 33 = .ok (.invokevirtual 178, 3) := by decide +kernel
theorem dX12_spins_36 : decode cX12_spins 36 = .ok (.aload_n 0, 1) := by decide +kernel
theorem dX12_spins_37 : decode cX12_spins 37 = .ok (.getfield 13, 3) := by decide +kernel
theorem dX12_spins_40 : decode cX12_spins 40 = .ok (.iconst 0, 1) := by decide +kernel
theorem dX12_spins_41 : decode cX12_spins 41 = .ok (.iaload, 1) := by decide +kernel
theorem dX12_spins_42 : decode cX12_spins 42 = .ok (.istore_n 3, 1) := by decide +kernel
theorem dX12_spins_43 : decode cX12_spins 43 = .ok (.aload_n 0, 1) := by decide +kernel
theorem dX12_spins_44 : decode cX12_spins 44 = .ok (.getfield 28, 3) := by decide +kernel
theorem dX12_spins_47 : decode cX12_spins 47 = .ok (.iconst 0, 1) := by decide +kernel
theorem dX12_spins_48 : decode cX12_spins 48 = .ok (.aload_n 0, 1) := by decide +kernel
theorem dX12_spins_49 : decode cX12_spins 49 = .ok (.getfield 28, 3) := by decide +kernel
theorem dX12_spins_52 : decode cX12_spins 52 = .ok (.iconst 0, 1) := by decide +kernel
theorem dX12_spins_53 : decode cX12_spins 53 = .ok (.iaload, 1) := by decide +kernel
theorem dX12_spins_54 : decode cX12_spins 54 = .ok (.iload_n 2, 1) := by decide +kernel
theorem dX12_spins_55 : decode cX12_spins 55 = .ok (.ifCond .ne 7, 3) := by decide +kernel
theorem dX12_spins_58 : decode cX12_spins 58 = .ok (.iload_n 1, 1) := by decide +kernel
theorem dX12_spins_59 : decode cX12_spins 59 = .ok (.goto 6, 3) := by decide +kernel
theorem dX12_spins_62 : decode cX12_spins 62 = .ok (.iload_n 3, 1) := by decide +kernel
theorem dX12_spins_63 : decode cX12_spins 63 = .ok (.iload_n 1, 1) := by decide +kernel
theorem dX12_spins_64 : decode cX12_spins 64 = .ok (.isub, 1) := by decide +kernel
theorem dX12_spins_65 : decode cX12_spins 65 = .ok (.iadd, 1) := by decide +kernel
theorem dX12_spins_66 : decode cX12_spins 66 = .ok (.iload_n 3, 1) := by decide +kernel
theorem dX12_spins_67 : decode cX12_spins 67 = .ok (.irem, 1) := by decide +kernel
theorem dX12_spins_68 : decode cX12_spins 68 = .ok (.iastore, 1) := by decide +kernel
theorem dX12_spins_69 : decode cX12_spins 69 = .ok (.iconst 0, 1) := by decide +kernel
theorem dX12_spins_70 : decode cX12_spins 70 = .ok (.istore 4, 2) := by decide +kernel
theorem dX12_spins_72 : decode cX12_spins 72 = .ok (.iconst 0, 1) := by decide +kernel
theorem dX12_spins_73 : decode cX12_spins 73 = .ok (.istore 5, 2) := by decide +kernel
theorem dX12_spins_75 : decode cX12_spins 75 = .ok (.iload 5, 2) := by decide +kernel
theorem dX12_spins_77 : decode cX12_spins 77 = .ok (.aload_n 0, 1) := by decide +kernel
theorem dX12_spins_78 : decode cX12_spins 78 = .ok (.getfield 13, 3) := by decide +kernel
theorem dX12_spins_81 : decode cX12_spins 81 = .ok (.iconst 2, 1) := by decide +kernel
theorem dX12_spins_82 : decode cX12_spins 82 = .ok (.iaload, 1) := by decide +kernel
theorem dX12_spins_83 : decode cX12_spins 83 = .ok (.if_icmp .ge 65, 3) := by decide +kernel
theorem dX12_spins_86 : decode cX12_spins 86 = .ok (.iload_n 1, 1) := by decide +kernel
theorem dX12_spins_87 : decode cX12_spins 87 = .ok (.iconst 2, 1) := by decide +kernel
theorem dX12_spins_88 : decode cX12_spins 88 = .ok (.if_icmp .le 60, 3) := by decide +kernel
theorem dX12_spins_91 : decode cX12_spins 91 = .ok (.aload_n 0, 1) := by decide +kernel
theorem dX12_spins_92 : decode cX12_spins 92 = .ok (.getfield 22, 3) := by decide +kernel
theorem dX12_spins_95 : decode cX12_spins 95 = .ok (.iload 5, 2) := by decide +kernel
theorem dX12_spins_97 : decode cX12_spins 97 = .ok (.iaload, 1) := by decide +kernel
theorem dX12_spins_98 : decode cX12_spins 98 = .ok (.iconst 1, 1) := by decide +kernel
theorem dX12_spins_99 : decode cX12_spins 99 = .ok (.if_icmp .ne 19, 3) := by decide +kernel
theorem dX12_spins_102 : decode cX12_spins 102 = .ok (.aload_n 0, 1) := by decide +kernel
theorem dX12_spins_103 : decode cX12_spins 103 = .ok (.getfield 28, 3) := by decide +kernel
theorem dX12_spins_106 : decode cX12_spins 106 = .ok (.iconst 1, 1) := by decide +kernel
theorem dX12_spins_107 : decode cX12_spins 107 = .ok (.iload 5, 2) := by decide +kernel
theorem dX12_spins_109 : decode cX12_spins 109 = .ok (.iadd, 1) := by decide +kernel
theorem dX12_spins_110 : decode cX12_spins 110 = .ok (.iaload, 1) := by decide +kernel
theorem dX12_spins_111 : decode cX12_spins 111 = .ok (.ifCond .le 7, 3) := by decide +kernel
theorem dX12_spins_114 : decode cX12_spins 114 = .ok (.iconst 1, 1) := by decide +kernel
theorem dX12_spins_115 : decode cX12_spins 115 = .ok (.goto 4, 3) := by decide +kernel
theorem dX12_spins_118 : decode cX12_spins 118 = .ok (.iconst 0, 1) := by decide +kernel
theorem dX12_spins_119 : decode cX12_spins 119 = .ok (.istore 6, 2) := by decide +kernel
theorem dX12_spins_121 : decode cX12_spins 121 = .ok (.aload_n 0, 1) := by decide +kernel
theorem dX12_spins_122 : decode cX12_spins 122 = .ok (.getfield 28, 3) := by decide +kernel
theorem dX12_spins_125 : decode cX12_spins 125 = .ok (.iconst 1, 1) := by decide +kernel
theorem dX12_spins_126 : decode cX12_spins 126 = .ok (.iload 5, 2) := by decide +kernel
theorem dX12_spins_128 : decode cX12_spins 128 = .ok (.iadd, 1) := by decide +kernel
theorem dX12_spins_129 : decode cX12_spins 129 = .ok (.dup2, 1) := by decide +kernel
theorem dX12_spins_130 : decode cX12_spins 130 = .ok (.iaload, 1) := by decide +kernel
theorem dX12_spins_131 : decode cX12_spins 131 = .ok (.iload 6, 2) := by decide +kernel
theorem dX12_spins_133 : decode cX12_spins 133 = .ok (.isub, 1) := by decide +kernel
theorem dX12_spins_134 : decode cX12_spins 134 = .ok (.iastore, 1) := by decide +kernel
theorem dX12_spins_135 : decode cX12_spins 135 = .ok (.iload 4, 2) := by decide +kernel
theorem dX12_spins_137 : decode cX12_spins 137 = .ok (.iload 6, 2) := by decide +kernel
theorem dX12_spins_139 : decode cX12_spins 139 = .ok (.iadd, 1) := by decide +kernel
theorem dX12_spins_140 : decode cX12_spins 140 = .ok (.istore 4, 2) := by decide +kernel
theorem dX12_spins_142 : decode cX12_spins 142 = .ok (.iinc 5 1, 3) := by decide +kernel
theorem dX12_spins_145 : decode cX12_spins 145 = .ok (.goto (-70), 3) := by decide +kernel
theorem dX12_spins_148 : decode cX12_spins 148 = .ok (.iload 4, 2) := by decide +kernel
theorem dX12_spins_150 : decode cX12_spins 150 = .ok (.ireturn, 1) := by decide +kernel
theorem dX12_takes_0 : decode cX12_takes 0 = .ok (.aload_n 0, 1) := by decide +kernel
theorem dX12_takes_1 : decode cX12_takes 1 = .ok (.iconst 0, 1) := by decide +kernel
theorem dX12_takes_2 : decode cX12_takes 2 = .ok (.putfield 65, 3) := by decide +kernel
theorem dX12_takes_5 : decode cX12_takes 5 = .ok (.aload_n 0, 1) := by decide +kernel
theorem dX12_takes_6 : decode cX12_takes 6 = .ok (.iload_n 1, 1) := by decide +kernel
theorem dX12_takes_7 : decode cX12_takes 7 = .ok (.invokevirtual 134, 3) := by decide +kernel
theorem dX12_takes_10 : decode cX12_takes 10 = .ok (.ifCond .eq 11, 3) := by decide +kernel
theorem dX12_takes_13 : decode cX12_takes 13 = .ok (.aload_n 0, 1) := by decide +kernel
theorem dX12_takes_14 : decode cX12_takes 14 = .ok (.iload_n 2, 1) := by decide +kernel
theorem dX12_takes_15 : decode cX12_takes 15 = .ok (.invokevirtual 143, 3) := by decide +kernel
theorem dX12_takes_18 : decode cX12_takes 18 = .ok (.ifCond .ne 5, 3) := by decide +kernel
theorem dX12_takes_21 : decode cX12_takes 21 = .ok (.iconst (-1), 1) := by decide +kernel
theorem dX12_takes_22 : decode cX12_takes 22 = .ok (.ireturn, 1) := by decide +kernel
theorem dX12_takes_23 : decode cX12_takes 23 = .ok (.aload_n 0, 1) := by decide +kernel
theorem dX12_takes_24 : decode cX12_takes 24 = .ok (.iload_n 1, 1) := by decide +kernel
theorem dX12_takes_25 : decode cX12_takes 25 = .ok (.iload_n 2, 1) := by decide +kernel
theorem dX12_takes_26 : decode cX12_takes 26 = .ok (.aload_n 0, 1) := by decide +kernel
theorem dX12_takes_27 : decode cX12_takes 27 = .ok (.getfield 28, 3) := by decide +kernel
theorem dX12_takes_30 : decode cX12_takes 30 = .ok (.iconst 0, 1) := by decide +kernel
theorem dX12_takes_31 : decode cX12_takes 31 = .ok (.iaload, 1) := by decide +kernel
theorem dX12_takes_32 : decode cX12_takes 32 = .ok (.invokevirtual 131, 3) := by decide +kernel
theorem dX12_takes_35 : decode cX12_takes 35 = .ok (.ifCond .eq 14, 3) := by decide +kernel
theorem dX12_takes_38 : decode cX12_takes 38 = .ok (.aload_n 0, 1) := by decide +kernel
theorem dX12_takes_39 : decode cX12_takes 39 = .ok (.getfield 28, 3) := by decide +kernel
theorem dX12_takes_42 : decode cX12_takes 42 = .ok (.iconst 1, 1) := by decide +kernel
theorem dX12_takes_43 : decode cX12_takes 43 = .ok (.iload_n 2, 1) := by decide +kernel
theorem dX12_takes_44 : decode cX12_takes 44 = .ok (.iadd, 1) := by decide +kernel
theorem dX12_takes_45 : decode cX12_takes 45 = .ok (.iaload, 1) := by decide +kernel
theorem dX12_takes_46 : decode cX12_takes 46 = .ok (.ifCond .ne 6, 3) := by decide +kernel
theorem dX12_takes_49 : decode cX12_takes 49 = .ok (.bipush (-2), 2) := by decide +kernel
theorem dX12_takes_51 : decode cX12_takes 51 = .ok (.ireturn, 1) := by decide +kernel
theorem dX12_takes_52 : decode cX12_takes 52 = .ok (.aload_n 0, 1) := by decide +kernel
theorem dX12_takes_53 : decode cX12_takes 53 = .ok (.invokevirtual 178, 3) := by decide +kernel
theorem dX12_takes_56 : decode cX12_takes 56 = .ok (.aload_n 0, 1) := by decide +kernel
theorem dX12_takes_57 : decode cX12_takes 57 = .ok (.getfield 28, 3) := by decide +kernel
theorem dX12_takes_60 : decode cX12_takes 60 = .ok (.iconst 1, 1) := by decide +kernel
theorem dX12_takes_61 : decode cX12_takes 61 = .ok (.iload_n 2, 1) := by decide +kernel
theorem dX12_takes_62 : decode cX12_takes 62 = .ok (.iadd, 1) := by decide +kernel
theorem dX12_takes_63 : decode cX12_takes 63 = .ok (.dup2, 1) := by decide +kernel
theorem dX12_takes_64 : decode cX12_takes 64 = .ok (.iaload, 1) := by decide +kernel
theorem dX12_takes_65 : decode cX12_takes 65 = .ok (.iconst 1, 1) := by decide +kernel
theorem dX12_takes_66 : decode cX12_takes 66 = .ok (.isub, 1) := by decide +kernel
theorem dX12_takes_67 : decode cX12_takes 67 = .ok (.iastore, 1) := by decide +kernel
theorem dX12_takes_68 : decode cX12_takes 68 = .ok (.aload_n 0, 1) := by decide +kernel
theorem dX12_takes_69 : decode cX12_takes 69 = .ok (.getfield 28, 3) := by decide +kernel
theorem dX12_takes_72 : decode cX12_takes 72 = .ok (.bipush 19, 2) := by decide +kernel
theorem dX12_takes_74 : decode cX12_takes 74 = .ok (.iload_n 1, 1) := by decide +kernel
theorem dX12_takes_75 : decode cX12_takes 75 = .ok (.iadd, 1) := by decide +kernel
theorem dX12_takes_76 : decode cX12_takes 76 = .ok (.dup2, 1) := by decide +kernel
theorem dX12_takes_77 : decode cX12_takes 77 = .ok (.iaload, 1) := by decide +kernel
theorem dX12_takes_78 : decode cX12_takes 78 = .ok (.iconst 1, 1) := by decide +kernel
theorem dX12_takes_79 : decode cX12_takes 79 = .ok (.iload_n 2, 1) := by decide +kernel
theorem dX12_takes_80 : decode cX12_takes 80 = .ok (.ishl, 1) := by decide +kernel
theorem dX12_takes_81 : decode cX12_takes 81 = .ok (.ior, 1) := by decide +kernel
theorem dX12_takes_82 : decode cX12_takes 82 = .ok (.iastore, 1) := by decide +kernel
theorem dX12_takes_83 : decode cX12_takes 83 = .ok (.aload_n 0, 1) := by decide +kernel
theorem dX12_takes_84 : decode cX12_takes 84 = .ok (.getfield 28, 3) := by decide +kernel
theorem dX12_takes_87 : decode cX12_takes 87 = .ok (.iconst 1, 1) := by decide +kernel
theorem dX12_takes_88 : decode cX12_takes 88 = .ok (.iload_n 2, 1) := by decide +kernel
theorem dX12_takes_89 : decode cX12_takes 89 = .ok (.iadd, 1) := by decide +kernel
theorem dX12_takes_90 : decode cX12_takes 90 = .ok (.iaload, 1) := by decide +kernel
theorem dX12_takes_91 : decode cX12_takes 91 = .ok (.ireturn, 1) := by decide +kernel
theorem dX12_isEmpty_0 : decode cX12_isEmpty 0 = .ok (.iconst 1, 1) := by decide +kernel
theorem dX12_isEmpty_1 : decode cX12_isEmpty 1 = .ok (.istore_n 2, 1) := by decide +kernel
theorem dX12_isEmpty_2 : decode cX12_isEmpty 2 = .ok (.iconst 0, 1) := by decide +kernel
theorem dX12_isEmpty_3 : decode cX12_isEmpty 3 = .ok (.istore_n 3, 1) := by decide +kernel
theorem dX12_isEmpty_4 : decode cX12_isEmpty 4 = .ok (.iload_n 3, 1) := by decide +kernel
theorem dX12_isEmpty_5 : decode cX12_isEmpty 5 = .ok (.aload_n 0, 1) := by decide +kernel
theorem dX12_isEmpty_6 : decode cX12_isEmpty 6 = .ok (.getfield 13, 3) := by decide +kernel
theorem dX12_isEmpty_9 : decode cX12_isEmpty 9 = .ok (.iconst 2, 1) := by decide +kernel
theorem dX12_isEmpty_10 : decode cX12_isEmpty 10 = .ok (.iaload, 1) := by decide +kernel
theorem dX12_isEmpty_11 : decode cX12_isEmpty 11 = .ok (.if_icmp .ge 32, 3) := by decide +kernel
theorem dX12_isEmpty_14 : decode cX12_isEmpty 14 = .ok (.iload_n 2, 1) := by decide +kernel
theorem dX12_isEmpty_15 : decode cX12_isEmpty 15 = .ok (.ifCond .eq 20, 3) := by decide +kernel
theorem dX12_isEmpty_18 : decode cX12_isEmpty 18 = .ok (.aload_n 0, 1) := by decide +kernel
theorem dX12_isEmpty_19 : decode cX12_isEmpty 19 = .ok (.getfield 28, 3) := by decide +kernel
theorem dX12_isEmpty_22 : decode cX12_isEmpty 22 = .ok (.bipush 7, 2) := by decide +kernel
theorem dX12_isEmpty_24 : decode cX12_isEmpty 24 = .ok (.iload_n 3, 1) := by decide +kernel
theorem dX12_isEmpty_25 : decode cX12_isEmpty 25 = .ok (.iadd, 1) := by decide +kernel
theorem dX12_isEmpty_26 : decode cX12_isEmpty 26 = .ok (.iaload, 1) := by decide +kernel
theorem dX12_isEmpty_27 : decode cX12_isEmpty 27 = .ok (.iload_n 1, 1) := by decide +kernel
theorem dX12_isEmpty_28 : decode cX12_isEmpty 28 = .ok (.if_icmp .eq 7, 3) := by decide +kernel
theorem dX12_isEmpty_31 : decode cX12_isEmpty 31 = .ok (.iconst 1, 1) := by decide +kernel
theorem dX12_isEmpty_32 : decode cX12_isEmpty 32 = .ok (.goto 4, 3) := by decide +kernel
theorem dX12_isEmpty_35 : decode cX12_isEmpty 35 = .ok (.iconst 0, 1) := by decide +kernel
theorem dX12_isEmpty_36 : decode cX12_isEmpty 36 = .ok (.istore_n 2, 1) := by decide +kernel
theorem dX12_isEmpty_37 : decode cX12_isEmpty 37 = .ok (.iinc 3 1, 3) := by decide +kernel
theorem dX12_isEmpty_40 : decode cX12_isEmpty 40 = .ok (.goto (-36), 3) := by decide +kernel
theorem dX12_isEmpty_43 : decode cX12_isEmpty 43 = .ok (.iload_n 2, 1) := by decide +kernel
theorem dX12_isEmpty_44 : decode cX12_isEmpty 44 = .ok (.ireturn, 1) := by decide +kernel
theorem dX12_moves_0 : decode cX12_moves 0 = .ok (.aload_n 0, 1) := by decide +kernel
theorem dX12_moves_1 : decode cX12_moves 1 = .ok (.iconst 0, 1) := by decide +kernel
theorem dX12_moves_2 : decode cX12_moves 2 = .ok (.putfield 65, 3) := by decide +kernel
theorem dX12_moves_5 : decode cX12_moves 5 = .ok (.aload_n 0, 1) := by decide +kernel
theorem dX12_moves_6 : decode cX12_moves 6 = .ok (.iload_n 1, 1) := by decide +kernel
theorem dX12_moves_7 : decode cX12_moves 7 = .ok (.invokevirtual 143, 3) := by decide +kernel
theorem dX12_moves_10 : decode cX12_moves 10 = .ok (.ifCond .eq 11, 3) := by decide +kernel
theorem dX12_moves_13 : decode cX12_moves 13 = .ok (.aload_n 0, 1) := by decide +kernel
theorem dX12_moves_14 : decode cX12_moves 14 = .ok (.iload_n 2, 1) := by decide +kernel
theorem dX12_moves_15 : decode cX12_moves 15 = .ok (.invokevirtual 181, 3) := by decide +kernel
theorem dX12_moves_18 : decode cX12_moves 18 = .ok (.ifCond .ne 5, 3) := by decide +kernel
theorem dX12_moves_21 : decode cX12_moves 21 = .ok (.iconst (-1), 1) := by decide +kernel
theorem dX12_moves_22 : decode cX12_moves 22 = .ok (.ireturn, 1) := by decide +kernel
theorem dX12_moves_23 : decode cX12_moves 23 = .ok (.aload_n 0, 1) := by decide +kernel
theorem dX12_moves_24 : decode cX12_moves 24 = .ok (.iload_n 2, 1) := by decide +kernel
theorem dX12_moves_25 : decode cX12_moves 25 = .ok (.invokevirtual 184, 3) := by decide +kernel
theorem dX12_moves_28 : decode cX12_moves 28 = .ok (.ifCond .ne 6, 3) := by decide +kernel
theorem dX12_moves_31 : decode cX12_moves 31 = .ok (.bipush (-2), 2) := by decide +kernel
theorem dX12_moves_33 : decode cX12_moves 33 = .ok (.ireturn, 1) := by decide +kernel
theorem dX12_moves_34 : decode cX12_moves 34 = .ok (.aload_n 0, 1) := by decide +kernel
theorem dX12_moves_35 : decode cX12_moves 35 = .ok (.invokevirtual 178, 3) := by decide +kernel
theorem dX12_moves_38 : decode cX12_moves 38 = .ok (.aload_n 0, 1) := by decide +kernel
theorem dX12_moves_39 : decode cX12_moves 39 = .ok (.getfield 28, 3) := by decide +kernel
theorem dX12_moves_42 : decode cX12_moves 42 = .ok (.bipush 7, 2) := by decide +kernel
theorem dX12_moves_44 : decode cX12_moves 44 = .ok (.iload_n 1, 1) := by decide +kernel
theorem dX12_moves_45 : decode cX12_moves 45 = .ok (.iadd, 1) := by decide +kernel
theorem dX12_moves_46 : decode cX12_moves 46 = .ok (.iaload, 1) := by decide +kernel
theorem dX12_moves_47 : decode cX12_moves 47 = .ok (.istore_n 3, 1) := by decide +kernel
theorem dX12_moves_48 : decode cX12_moves 48 = .ok (.aload_n 0, 1) := by decide +kernel
theorem dX12_moves_49 : decode cX12_moves 49 = .ok (.getfield 28, 3) := by decide +kernel
theorem dX12_moves_52 : decode cX12_moves 52 = .ok (.bipush 7, 2) := by decide +kernel
theorem dX12_moves_54 : decode cX12_moves 54 = .ok (.iload_n 1, 1) := by decide +kernel
theorem dX12_moves_55 : decode cX12_moves 55 = .ok (.iadd, 1) := by decide +kernel
theorem dX12_moves_56 : decode cX12_moves 56 = .ok (.iload_n 2, 1) := by decide +kernel
theorem dX12_moves_57 : decode cX12_moves 57 = .ok (.iastore, 1) := by decide +kernel
theorem dX12_moves_58 : decode cX12_moves 58 = .ok (.iload_n 3, 1) := by decide +kernel
theorem dX12_moves_59 : decode cX12_moves 59 = .ok (.ireturn, 1) := by decide +kernel
theorem dX12_changes_0 : decode cX12_changes 0 = .ok (.aload_n 0, 1) := by decide +kernel
theorem dX12_changes_1 : decode cX12_changes 1 = .ok (.iconst 0, 1) := by decide +kernel
theorem dX12_changes_2 : decode cX12_changes 2 = .ok (.putfield 65, 3) := by decide +kernel
theorem dX12_changes_5 : decode cX12_changes 5 = .ok (.aload_n 0, 1) := by decide +kernel
theorem dX12_changes_6 : decode cX12_changes 6 = .ok (.iload_n 1, 1) := by decide +kernel
theorem dX12_changes_7 : decode cX12_changes 7 = .ok (.invokevirtual 134, 3) := by decide +kernel
theorem dX12_changes_10 : decode cX12_changes 10 = .ok (.ifCond .eq 16, 3) := by decide +kernel
theorem dX12_changes_13 : decode cX12_changes 13 = .ok (.aload_n 0, 1) := by decide +kernel
theorem dX12_changes_14 : decode cX12_changes 14 = .ok (.iload_n 2, 1) := by decide +kernel
theorem dX12_changes_15 : decode cX12_changes 15 = .ok (.invokevirtual 134, 3) := by decide +kernel
theorem dX12_changes_18 : decode cX12_changes 18 = .ok (.ifCond .eq 8, 3) := by decide +kernel
theorem dX12_changes_21 : decode cX12_changes 21 = .ok (.iload_n 1, 1) := by decide +kernel
theorem dX12_changes_22 : decode cX12_changes 22 = .ok (.iload_n 2, 1) := by decide +kernel
theorem dX12_changes_23 : decode cX12_changes 23 = .ok (.if_icmp .ne 5, 3) := by decide +kernel
theorem dX12_changes_26 : decode cX12_changes 26 = .ok (.iconst (-1), 1) := by decide +kernel
theorem dX12_changes_27 : decode cX12_changes 27 = .ok (.ireturn, 1) := by decide +kernel
theorem dX12_changes_28 : decode cX12_changes 28 = .ok (.aload_n 0, 1) := by decide +kernel
theorem dX12_changes_29 : decode cX12_changes 29 = .ok (.invokevirtual 178, 3) := by decide +kernel
theorem dX12_changes_32 : decode cX12_changes 32 = .ok (.aload_n 0, 1) := by decide +kernel
theorem dX12_changes_33 : decode cX12_changes 33 = .ok (.iload_n 1, 1) := by decide +kernel
theorem dX12_changes_34 : decode cX12_changes 34 = .ok (.iload_n 2, 1) := by decide +kernel
theorem dX12_changes_35 : decode cX12_changes 35 = .ok (.invokevirtual 162, 3) := by decide +kernel
theorem dX12_changes_38 : decode cX12_changes 38 = .ok (.aload_n 0, 1) := by decide +kernel
theorem dX12_changes_39 : decode cX12_changes 39 = .ok (.getfield 28, 3) := by decide +kernel
theorem dX12_changes_42 : decode cX12_changes 42 = .ok (.bipush 13, 2) := by decide +kernel
theorem dX12_changes_44 : decode cX12_changes 44 = .ok (.iload_n 1, 1) := by decide +kernel
theorem dX12_changes_45 : decode cX12_changes 45 = .ok (.iadd, 1) := by decide +kernel
theorem dX12_changes_46 : decode cX12_changes 46 = .ok (.iaload, 1) := by decide +kernel
theorem dX12_changes_47 : decode cX12_changes 47 = .ok (.ireturn, 1) := by decide +kernel
theorem dX12_undo_0 : decode cX12_undo 0 = .ok (.aload_n 0, 1) := by decide +kernel
theorem dX12_undo_1 : decode cX12_undo 1 = .ok (.iconst 0, 1) := by decide +kernel
theorem dX12_undo_2 : decode cX12_undo 2 = .ok (.putfield 65, 3) := by decide +kernel
theorem dX12_undo_5 : decode cX12_undo 5 = .ok (.aload_n 0, 1) := by decide +kernel
theorem dX12_undo_6 : decode cX12_undo 6 = .ok (.getfield 128, 3) := by decide +kernel
theorem dX12_undo_9 : decode cX12_undo 9 = .ok (.ifCond .ne 6, 3) := by decide +kernel
theorem dX12_undo_12 : decode cX12_undo 12 = .ok (.bipush (-2), 2) := by decide +kernel
theorem dX12_undo_14 : decode cX12_undo 14 = .ok (.ireturn, 1) := by decide +kernel
theorem dX12_undo_15 : decode cX12_undo 15 = .ok (.aload_n 0, 1) := by decide +kernel
theorem dX12_undo_16 : decode cX12_undo 16 = .ok (.dup, 1) := by decide +kernel
theorem dX12_undo_17 : decode cX12_undo 17 = .ok (.getfield 128, 3) := by decide +kernel
theorem dX12_undo_20 : decode cX12_undo 20 = .ok (.iconst 1, 1) := by decide +kernel
theorem dX12_undo_21 : decode cX12_undo 21 = .ok (.isub, 1) := by decide +kernel
theorem dX12_undo_22 : decode cX12_undo 22 = .ok (.putfield 128, 3) := by decide +kernel
theorem dX12_undo_25 : decode cX12_undo 25 = .ok (.iconst 0, 1) := by decide +kernel
theorem dX12_undo_26 : decode cX12_undo 26 = .ok (.istore_n 1, 1) := by decide +kernel
theorem dX12_undo_27 : decode cX12_undo 27 = .ok (.iload_n 1, 1) := by decide +kernel
theorem dX12_undo_28 : decode cX12_undo 28 = .ok (.bipush 25, 2) := by decide +kernel
theorem dX12_undo_30 : decode cX12_undo 30 = .ok (.if_icmp .ge 29, 3) := by decide +kernel
theorem dX12_undo_33 : decode cX12_undo 33 = .ok (.aload_n 0, 1) := by decide +kernel
theorem dX12_undo_34 : decode cX12_undo 34 = .ok (.getfield 28, 3) := by decide +kernel
theorem dX12_undo_37 : decode cX12_undo 37 = .ok (.iload_n 1, 1) := by decide +kernel
theorem dX12_undo_38 : decode cX12_undo 38 = .ok (.aload_n 0, 1) := by decide +kernel
theorem dX12_undo_39 : decode cX12_undo 39 = .ok (.getfield 38, 3) := by decide +kernel
theorem dX12_undo_42 : decode cX12_undo 42 = .ok (.bipush 25, 2) := by decide +kernel
theorem dX12_undo_44 : decode cX12_undo 44 = .ok (.aload_n 0, 1) := by decide +kernel
theorem dX12_undo_45 : decode cX12_undo 45 = .ok (.getfield 128, 3) := by decide +kernel
theorem dX12_undo_48 : decode cX12_undo 48 = .ok (.imul, 1) := by decide +kernel
theorem dX12_undo_49 : decode cX12_undo 49 = .ok (.iload_n 1, 1) := by decide +kernel
theorem dX12_undo_50 : decode cX12_undo 50 = .ok (.iadd, 1) := by decide +kernel
theorem dX12_undo_51 : decode cX12_undo 51 = .ok (.iaload, 1) := by decide +kernel
theorem dX12_undo_52 : decode cX12_undo 52 = .ok (.iastore, 1) := by decide +kernel
theorem dX12_undo_53 : decode cX12_undo 53 = .ok (.iinc 1 1, 3) := by decide +kernel
theorem dX12_undo_56 : decode cX12_undo 56 = .ok (.goto (-29), 3) := by decide +kernel
theorem dX12_undo_59 : decode cX12_undo 59 = .ok (.aload_n 0, 1) := by decide +kernel
theorem dX12_undo_60 : decode cX12_undo 60 = .ok (.getfield 128, 3) := by decide +kernel
theorem dX12_undo_63 : decode cX12_undo 63 = .ok (.ireturn, 1) := by decide +kernel
theorem dX12_steps_0 : decode cX12_steps 0 = .ok (.aload_n 0, 1) := by decide +kernel
theorem dX12_steps_1 : decode cX12_steps 1 = .ok (.iconst 0, 1) := by decide +kernel
theorem dX12_steps_2 : decode cX12_steps 2 = .ok (.putfield 65, 3) := by decide +kernel
theorem dX12_steps_5 : decode cX12_steps 5 = .ok (.aload_n 0, 1) := by decide +kernel
theorem dX12_steps_6 : decode cX12_steps 6 = .ok (.iload_n 1, 1) := by decide +kernel
theorem dX12_steps_7 : decode cX12_steps 7 = .ok (.invokevirtual 134, 3) := by decide +kernel
theorem dX12_steps_10 : decode cX12_steps 10 = .ok (.ifCond .eq 20, 3) := by decide +kernel
theorem dX12_steps_13 : decode cX12_steps 13 = .ok (.aload_n 0, 1) := by decide +kernel
theorem dX12_steps_14 : decode cX12_steps 14 = .ok (.iload_n 2, 1) := by decide +kernel
theorem dX12_steps_15 : decode cX12_steps 15 = .ok (.invokevirtual 143, 3) := by decide +kernel
theorem dX12_steps_18 : decode cX12_steps 18 = .ok (.ifCond .eq 12, 3) := by decide +kernel
theorem dX12_steps_21 : decode cX12_steps 21 = .ok (.iload_n 3, 1) := by decide +kernel
theorem dX12_steps_22 : decode cX12_steps 22 = .ok (.iconst 0, 1) := by decide +kernel
theorem dX12_steps_23 : decode cX12_steps 23 = .ok (.iconst 1, 1) := by decide +kernel
theorem dX12_steps_24 : decode cX12_steps 24 = .ok (.invokestatic 69, 3) := by decide +kernel
theorem dX12_steps_27 : decode cX12_steps 27 = .ok (.ifCond .ne 5, 3) := by decide +kernel
theorem dX12_steps_30 : decode cX12_steps 30 = .ok (.iconst (-1), 1) := by decide +kernel
theorem dX12_steps_31 : decode cX12_steps 31 = .ok (.ireturn, 1) := by decide +kernel
theorem dX12_steps_32 : decode cX12_steps 32 = .ok (.aload_n 0, 1) := by decide +kernel
theorem dX12_steps_33 : decode cX12_steps 33 = .ok (.getfield 13, 3) := by decide +kernel
theorem dX12_steps_36 : decode cX12_steps 36 = .ok (.iconst 0, 1) := by decide +kernel
theorem dX12_steps_37 : decode cX12_steps 37 = .ok (.iaload, 1) := by decide +kernel
theorem dX12_steps_38 : decode cX12_steps 38 = .ok (.istore 4, 2) := by decide +kernel
theorem dX12_steps_40 : decode cX12_steps 40 = .ok (.iconst 0, 1) := by decide +kernel
theorem dX12_steps_41 : decode cX12_steps 41 = .ok (.istore 5, 2) := by decide +kernel
theorem dX12_steps_43 : decode cX12_steps 43 = .ok (.iload 5, 2) := by decide +kernel
theorem dX12_steps_45 : decode cX12_steps 45 = .ok (.iload 4, 2) := by decide +kernel
theorem dX12_steps_47 : decode cX12_steps 47 = .ok (.if_icmp .ge 88, 3) := by decide +kernel
theorem dX12_steps_50 : decode cX12_steps 50 = .ok (.aload_n 0, 1) := by decide +kernel
theorem dX12_steps_51 : decode cX12_steps 51 = .ok (.iload_n 1, 1) := by decide +kernel
theorem dX12_steps_52 : decode cX12_steps 52 = .ok (.iload_n 2, 1) := by decide +kernel
theorem dX12_steps_53 : decode cX12_steps 53 = .ok (.aload_n 0, 1) := by decide +kernel
theorem dX12_steps_54 : decode cX12_steps 54 = .ok (.getfield 28, 3) := by decide +kernel
theorem dX12_steps_57 : decode cX12_steps 57 = .ok (.iconst 0, 1) := by decide +kernel
theorem dX12_steps_58 : decode cX12_steps 58 = .ok (.iaload, 1) := by decide +kernel
theorem dX12_steps_59 : decode cX12_steps 59 = .ok (.iload 5, 2) := by decide +kernel
theorem dX12_steps_61 : decode cX12_steps 61 = .ok (.iadd, 1) := by decide +kernel
theorem dX12_steps_62 : decode cX12_steps 62 = .ok (.iload 4, 2) := by decide +kernel
theorem dX12_steps_64 : decode cX12_steps 64 = .ok (.irem, 1) := by decide +kernel
theorem dX12_steps_65 : decode cX12_steps 65 = .ok (.invokevirtual 131, 3) := by decide +kernel
theorem dX12_steps_68 : decode cX12_steps 68 = .ok (.istore 6, 2) := by decide +kernel
theorem dX12_steps_70 : decode cX12_steps 70 = .ok (.iload 6, 2) := by decide +kernel
theorem dX12_steps_72 : decode cX12_steps 72 = .ok (.ifCond .ne 27, 3) := by decide +kernel
theorem dX12_steps_75 : decode cX12_steps 75 = .ok (.aload_n 0, 1) := by decide +kernel
theorem dX12_steps_76 : decode cX12_steps 76 = .ok (.iload_n 1, 1) := by decide +kernel
theorem dX12_steps_77 : decode cX12_steps 77 = .ok (.iload_n 2, 1) := by decide +kernel
theorem dX12_steps_78 : decode cX12_steps 78 = .ok (.aload_n 0, 1) := by decide +kernel
theorem dX12_steps_79 : decode cX12_steps 79 = .ok (.getfield 28, 3) := by decide +kernel
theorem dX12_steps_82 : decode cX12_steps 82 = .ok (.iconst 0, 1) := by decide +kernel
theorem dX12_steps_83 : decode cX12_steps 83 = .ok (.iaload, 1) := by decide +kernel
theorem dX12_steps_84 : decode cX12_steps 84 = .ok (.iload 4, 2) := by decide +kernel
theorem dX12_steps_86 : decode cX12_steps 86 = .ok (.iadd, 1) := by decide +kernel
theorem dX12_steps_87 : decode cX12_steps 87 = .ok (.iload 5, 2) := by decide +kernel
theorem dX12_steps_89 : decode cX12_steps 89 = .ok (.isub, 1) := by decide +kernel
theorem dX12_steps_90 : decode cX12_steps 90 = .ok (.iload 4, 2) := by decide +kernel
theorem dX12_steps_92 : decode cX12_steps 92 = .ok (.irem, 1) := by decide +kernel
theorem dX12_steps_93 : decode cX12_steps 93 = .ok (.invokevirtual 131, 3) := by decide +kernel
theorem dX12_steps_96 : decode cX12_steps 96 = .ok (.ifCond .eq 33, 3) := by decide +kernel
theorem dX12_steps_99 : decode cX12_steps 99 = .ok (.iload_n 3, 1) := by decide +kernel
theorem dX12_steps_100 : decode cX12_steps 100 = .ok (.ifCond .ne 8, 3) := by decide +kernel
theorem dX12_steps_103 : decode cX12_steps 103 = .ok (.iload 5, 2) := by decide +kernel
theorem dX12_steps_105 : decode cX12_steps 105 = .ok (.goto 23, 3) := by decide +kernel
theorem dX12_steps_108 : decode cX12_steps 108 = .ok (.iload 5, 2) := by decide +kernel
theorem dX12_steps_110 : decode cX12_steps 110 = .ok (.ifCond .ne 8, 3) := by decide +kernel
theorem dX12_steps_113 : decode cX12_steps 113 = .ok (.bipush (-9), 2) := by decide +kernel
theorem dX12_steps_115 : decode cX12_steps 115 = .ok (.goto 13, 3) := by decide +kernel
theorem dX12_steps_118 : decode cX12_steps 118 = .ok (.iload 6, 2) := by decide +kernel
theorem dX12_steps_120 : decode cX12_steps 120 = .ok (.ifCond .eq 7, 3) := by decide +kernel
theorem dX12_steps_123 : decode cX12_steps 123 = .ok (.iconst 0, 1) := by decide +kernel
theorem dX12_steps_124 : decode cX12_steps 124 = .ok (.goto 4, 3) := by decide +kernel
theorem dX12_steps_127 : decode cX12_steps 127 = .ok (.iconst 1, 1) := by decide +kernel
theorem dX12_steps_128 : decode cX12_steps 128 = .ok (.ireturn, 1) := by decide +kernel
theorem dX12_steps_129 : decode cX12_steps 129 = .ok (.iinc 5 1, 3) := by decide +kernel
theorem dX12_steps_132 : decode cX12_steps 132 = .ok (.goto (-89), 3) := by decide +kernel
theorem dX12_steps_135 : decode cX12_steps 135 = .ok (.bipush (-9), 2) := by decide +kernel
theorem dX12_steps_137 : decode cX12_steps 137 = .ok (.ireturn, 1) := by decide +kernel
theorem dX12_puts_0 : decode cX12_puts 0 = .ok (.aload_n 0, 1) := by decide +kernel
theorem dX12_puts_1 : decode cX12_puts 1 = .ok (.iconst 0, 1) := by decide +kernel
theorem dX12_puts_2 : decode cX12_puts 2 = .ok (.putfield 65, 3) := by decide +kernel
theorem dX12_puts_5 : decode cX12_puts 5 = .ok (.aload_n 0, 1) := by decide +kernel
theorem dX12_puts_6 : decode cX12_puts 6 = .ok (.iload_n 1, 1) := by decide +kernel
theorem dX12_puts_7 : decode cX12_puts 7 = .ok (.invokevirtual 143, 3) := by decide +kernel
theorem dX12_puts_10 : decode cX12_puts 10 = .ok (.ifCond .ne 5, 3) := by decide +kernel
theorem dX12_puts_13 : decode cX12_puts 13 = .ok (.iconst (-1), 1) := by decide +kernel
theorem dX12_puts_14 : decode cX12_puts 14 = .ok (.ireturn, 1) := by decide +kernel
theorem dX12_puts_15 : decode cX12_puts 15 = .ok (.aload_n 0, 1) := by decide +kernel
theorem dX12_puts_16 : decode cX12_puts 16 = .ok (.getfield 28, 3) := by decide +kernel
theorem dX12_puts_19 : decode cX12_puts 19 = .ok (.bipush 7, 2) := by decide +kernel
theorem dX12_puts_21 : decode cX12_puts 21 = .ok (.iload_n 1, 1) := by decide +kernel
theorem dX12_puts_22 : decode cX12_puts 22 = .ok (.iadd, 1) := by decide +kernel
theorem dX12_puts_23 : decode cX12_puts 23 = .ok (.iaload, 1) := by decide +kernel
theorem dX12_puts_24 : decode cX12_puts 24 = .ok (.istore_n 2, 1) := by decide +kernel
theorem dX12_puts_25 : decode cX12_puts 25 = .ok (.bipush (-9), 2) := by decide +kernel
theorem dX12_puts_27 : decode cX12_puts 27 = .ok (.istore_n 3, 1) := by decide +kernel
theorem dX12_puts_28 : decode cX12_puts 28 = .ok (.bipush 99, 2) := by decide +kernel
theorem dX12_puts_30 : decode cX12_puts 30 = .ok (.istore 4, 2) := by decide +kernel
theorem dX12_puts_32 : decode cX12_puts 32 = .ok (.iconst 0, 1) := by decide +kernel
theorem dX12_puts_33 : decode cX12_puts 33 = .ok (.istore 5, 2) := by decide +kernel
theorem dX12_puts_35 : decode cX12_puts 35 = .ok (.iload 5, 2) := by decide +kernel
theorem dX12_puts_37 : decode cX12_puts 37 = .ok (.aload_n 0, 1) := by decide +kernel
theorem dX12_puts_38 : decode cX12_puts 38 = .ok (.getfield 13, 3) := by decide +kernel
theorem dX12_puts_41 : decode cX12_puts 41 = .ok (.iconst 0, 1) := by decide +kernel
theorem dX12_puts_42 : decode cX12_puts 42 = .ok (.iaload, 1) := by decide +kernel
theorem dX12_puts_43 : decode cX12_puts 43 = .ok (.if_icmp .ge 95, 3) := by decide +kernel
theorem dX12_puts_46 : decode cX12_puts 46 = .ok (.iload 5, 2) := by decide +kernel
theorem dX12_puts_48 : decode cX12_puts 48 = .ok (.iload_n 2, 1) := by decide +kernel
theorem dX12_puts_49 : decode cX12_puts 49 = .ok (.if_icmp .eq 12, 3) := by decide +kernel
theorem dX12_puts_52 : decode cX12_puts 52 = .ok (.aload_n 0, 1) := by decide +kernel
theorem dX12_puts_53 : decode cX12_puts 53 = .ok (.iload 5, 2) := by decide +kernel
theorem dX12_puts_55 : decode cX12_puts 55 = .ok (.invokevirtual 184, 3) := by decide +kernel
theorem dX12_puts_58 : decode cX12_puts 58 = .ok (.ifCond .eq 74, 3) := by decide +kernel
theorem dX12_puts_61 : decode cX12_puts 61 = .ok (.aload_n 0, 1) := by decide +kernel
theorem dX12_puts_62 : decode cX12_puts 62 = .ok (.getfield 28, 3) := by decide +kernel
theorem dX12_puts_65 : decode cX12_puts 65 = .ok (.bipush 7, 2) := by decide +kernel
theorem dX12_puts_67 : decode cX12_puts 67 = .ok (.iload_n 1, 1) := by decide +kernel
theorem dX12_puts_68 : decode cX12_puts 68 = .ok (.iadd, 1) := by decide +kernel
theorem dX12_puts_69 : decode cX12_puts 69 = .ok (.iload 5, 2) := by decide +kernel
theorem dX12_puts_71 : decode cX12_puts 71 = .ok (.iastore, 1) := by decide +kernel
theorem dX12_puts_72 : decode cX12_puts 72 = .ok (.aload_n 0, 1) := by decide +kernel
theorem dX12_puts_73 : decode cX12_puts 73 = .ok (.invokevirtual 159, 3) := by decide +kernel
theorem dX12_puts_76 : decode cX12_puts 76 = .ok (.istore 6, 2) := by decide +kernel
theorem dX12_puts_78 : decode cX12_puts 78 = .ok (.iload 6, 2) := by decide +kernel
theorem dX12_puts_80 : decode cX12_puts 80 = .ok (.bipush (-9), 2) := by decide +kernel
theorem dX12_puts_82 : decode cX12_puts 82 = .ok (.if_icmp .eq 15, 3) := by decide +kernel
theorem dX12_puts_85 : decode cX12_puts 85 = .ok (.iload 6, 2) := by decide +kernel
theorem dX12_puts_87 : decode cX12_puts 87 = .ok (.iload 4, 2) := by decide +kernel
theorem dX12_puts_89 : decode cX12_puts 89 = .ok (.if_icmp .ge 8, 3) := by decide +kernel
theorem dX12_puts_92 : decode cX12_puts 92 = .ok (.iload 5, 2) := by decide +kernel
theorem dX12_puts_94 : decode cX12_puts 94 = .ok (.goto 4, 3) := by decide +kernel
theorem dX12_puts_97 : decode cX12_puts 97 = .ok (.iload_n 3, 1) := by decide +kernel
theorem dX12_puts_98 : decode cX12_puts 98 = .ok (.istore_n 3, 1) := by decide +kernel
theorem dX12_puts_99 : decode cX12_puts 99 = .ok (.iload 6, 2) := by decide +kernel
theorem dX12_puts_101 : decode cX12_puts 101 = .ok (.bipush (-9), 2) := by decide +kernel
theorem dX12_puts_103 : decode cX12_puts 103 = .ok (.if_icmp .eq 15, 3) := by decide +kernel
theorem dX12_puts_106 : decode cX12_puts 106 = .ok (.iload 6, 2) := by decide +kernel
theorem dX12_puts_108 : decode cX12_puts 108 = .ok (.iload 4, 2) := by decide +kernel
theorem dX12_puts_110 : decode cX12_puts 110 = .ok (.if_icmp .ge 8, 3) := by decide +kernel
theorem dX12_puts_113 : decode cX12_puts 113 = .ok (.iload 6, 2) := by decide +kernel
theorem dX12_puts_115 : decode cX12_puts 115 = .ok (.goto 5, 3) := by decide +kernel
theorem dX12_puts_118 : decode cX12_puts 118 = .ok (.iload 4, 2) := by decide +kernel
theorem dX12_puts_120 : decode cX12_puts 120 = .ok (.istore 4, 2) := by decide +kernel
theorem dX12_puts_122 : decode cX12_puts 122 = .ok (.aload_n 0, 1) := by decide +kernel
theorem dX12_puts_123 : decode cX12_puts 123 = .ok (.getfield 28, 3) := by decide +kernel
theorem dX12_puts_126 : decode cX12_puts 126 = .ok (.bipush 7, 2) := by decide +kernel
theorem dX12_puts_128 : decode cX12_puts 128 = .ok (.iload_n 1, 1) := by decide +kernel
theorem dX12_puts_129 : decode cX12_puts 129 = .ok (.iadd, 1) := by decide +kernel
theorem dX12_puts_130 : decode cX12_puts 130 = .ok (.iload_n 2, 1) := by decide +kernel
theorem dX12_puts_131 : decode cX12_puts 131 = .ok (.iastore, 1) := by decide +kernel
theorem dX12_puts_132 : decode cX12_puts 132 = .ok (.iinc 5 1, 3) := by decide +kernel
theorem dX12_puts_135 : decode cX12_puts 135 = .ok (.goto (-100), 3) := by decide +kernel
theorem dX12_puts_138 : decode cX12_puts 138 = .ok (.iload_n 3, 1) := by decide +kernel
theorem dX12_puts_139 : decode cX12_puts 139 = .ok (.ireturn, 1) := by decide +kernel
theorem dX12_fed_0 : decode cX12_fed 0 = .ok (.aload_n 0, 1) := by decide +kernel
theorem dX12_fed_1 : decode cX12_fed 1 = .ok (.iconst 0, 1) := by decide +kernel
theorem dX12_fed_2 : decode cX12_fed 2 = .ok (.putfield 65, 3) := by decide +kernel
theorem dX12_fed_5 : decode cX12_fed 5 = .ok (.aload_n 0, 1) := by decide +kernel
theorem dX12_fed_6 : decode cX12_fed 6 = .ok (.iload_n 1, 1) := by decide +kernel
theorem dX12_fed_7 : decode cX12_fed 7 = .ok (.invokevirtual 134, 3) := by decide +kernel
theorem dX12_fed_10 : decode cX12_fed 10 = .ok (.ifCond .ne 5, 3) := by decide +kernel
theorem dX12_fed_13 : decode cX12_fed 13 = .ok (.iconst (-1), 1) := by decide +kernel
theorem dX12_fed_14 : decode cX12_fed 14 = .ok (.ireturn, 1) := by decide +kernel
theorem dX12_fed_15 : decode cX12_fed 15 = .ok (.aload_n 0, 1) := by decide +kernel
theorem dX12_fed_16 : decode cX12_fed 16 = .ok (.invokevirtual 175, 3) := by decide +kernel
theorem dX12_fed_19 : decode cX12_fed 19 = .ok (.pop, 1) := by decide +kernel
theorem dX12_fed_20 : decode cX12_fed 20 = .ok (.aload_n 0, 1) := by decide +kernel
theorem dX12_fed_21 : decode cX12_fed 21 = .ok (.getfield 53, 3) := by decide +kernel
theorem dX12_fed_24 : decode cX12_fed 24 = .ok (.iload_n 1, 1) := by decide +kernel
theorem dX12_fed_25 : decode cX12_fed 25 = .ok (.iaload, 1) := by decide +kernel
theorem dX12_fed_26 : decode cX12_fed 26 = .ok (.bipush 6, 2) := by decide +kernel
theorem dX12_fed_28 : decode cX12_fed 28 = .ok (.if_icmp .ne 8, 3) := by decide +kernel
theorem dX12_fed_31 : decode cX12_fed 31 = .ok (.bipush (-9), 2) := by decide +kernel
theorem dX12_fed_33 : decode cX12_fed 33 = .ok (.goto 9, 3) := by decide +kernel
theorem dX12_fed_36 : decode cX12_fed 36 = .ok (.aload_n 0, 1) := by decide +kernel
theorem dX12_fed_37 : decode cX12_fed 37 = .ok (.getfield 53, 3) := by decide +kernel
theorem dX12_fed_40 : decode cX12_fed 40 = .ok (.iload_n 1, 1) := by decide +kernel
theorem dX12_fed_41 : decode cX12_fed 41 = .ok (.iaload, 1) := by decide +kernel
theorem dX12_fed_42 : decode cX12_fed 42 = .ok (.ireturn, 1) := by decide +kernel
theorem dX12_power_0 : decode cX12_power 0 = .ok (.iconst 1, 1) := by decide +kernel
theorem dX12_power_1 : decode cX12_power 1 = .ok (.istore_n 2, 1) := by decide +kernel
theorem dX12_power_2 : decode cX12_power 2 = .ok (.iconst 0, 1) := by decide +kernel
theorem dX12_power_3 : decode cX12_power 3 = .ok (.istore_n 3, 1) := by decide +kernel
theorem dX12_power_4 : decode cX12_power 4 = .ok (.iload_n 3, 1) := by decide +kernel
theorem dX12_power_5 : decode cX12_power 5 = .ok (.iload_n 1, 1) := by decide +kernel
theorem dX12_power_6 : decode cX12_power 6 = .ok (.if_icmp .ge 13, 3) := by decide +kernel
theorem dX12_power_9 : decode cX12_power 9 = .ok (.iload_n 2, 1) := by decide +kernel
theorem dX12_power_10 : decode cX12_power 10 = .ok (.iload_n 0, 1) := by decide +kernel
theorem dX12_power_11 : decode cX12_power 11 = .ok (.imul, 1) := by decide +kernel
theorem dX12_power_12 : decode cX12_power 12 = .ok (.istore_n 2, 1) := by decide +kernel
theorem dX12_power_13 : decode cX12_power 13 = .ok (.iinc 3 1, 3) := by decide +kernel
theorem dX12_power_16 : decode cX12_power 16 = .ok (.goto (-12), 3) := by decide +kernel
theorem dX12_power_19 : decode cX12_power 19 = .ok (.iload_n 2, 1) := by decide +kernel
theorem dX12_power_20 : decode cX12_power 20 = .ok (.ireturn, 1) := by decide +kernel
theorem dX12_gcd_0 : decode cX12_gcd 0 = .ok (.iload_n 0, 1) := by decide +kernel
theorem dX12_gcd_1 : decode cX12_gcd 1 = .ok (.istore_n 2, 1) := by decide +kernel
theorem dX12_gcd_2 : decode cX12_gcd 2 = .ok (.iload_n 1, 1) := by decide +kernel
theorem dX12_gcd_3 : decode cX12_gcd 3 = .ok (.istore_n 3, 1) := by decide +kernel
theorem dX12_gcd_4 : decode cX12_gcd 4 = .ok (.iload_n 3, 1) := by decide +kernel
theorem dX12_gcd_5 : decode cX12_gcd 5 = .ok (.ifCond .eq 16, 3) := by decide +kernel
theorem dX12_gcd_8 : decode cX12_gcd 8 = .ok (.iload_n 2, 1) := by decide +kernel
theorem dX12_gcd_9 : decode cX12_gcd 9 = .ok (.iload_n 3, 1) := by decide +kernel
theorem dX12_gcd_10 : decode cX12_gcd 10 = .ok (.irem, 1) := by decide +kernel
theorem dX12_gcd_11 : decode cX12_gcd 11 = .ok (.istore 4, 2) := by decide +kernel
theorem dX12_gcd_13 : decode cX12_gcd 13 = .ok (.iload_n 3, 1) := by decide +kernel
theorem dX12_gcd_14 : decode cX12_gcd 14 = .ok (.istore_n 2, 1) := by decide +kernel
theorem dX12_gcd_15 : decode cX12_gcd 15 = .ok (.iload 4, 2) := by decide +kernel
theorem dX12_gcd_17 : decode cX12_gcd 17 = .ok (.istore_n 3, 1) := by decide +kernel
theorem dX12_gcd_18 : decode cX12_gcd 18 = .ok (.goto (-14), 3) := by decide +kernel
theorem dX12_gcd_21 : decode cX12_gcd 21 = .ok (.iload_n 2, 1) := by decide +kernel
theorem dX12_gcd_22 : decode cX12_gcd 22 = .ok (.ireturn, 1) := by decide +kernel
theorem dX12_odds_0 : decode cX12_odds 0 = .ok (.aload_n 0, 1) := by decide +kernel
theorem dX12_odds_1 : decode cX12_odds 1 = .ok (.iconst 0, 1) := by decide +kernel
theorem dX12_odds_2 : decode cX12_odds 2 = .ok (.putfield 65, 3) := by decide +kernel
theorem dX12_odds_5 : decode cX12_odds 5 = .ok (.iload_n 1, 1) := by decide +kernel
theorem dX12_odds_6 : decode cX12_odds 6 = .ok (.iconst 0, 1) := by decide +kernel
theorem dX12_odds_7 : decode cX12_odds 7 = .ok (.bipush 10, 2) := by decide +kernel
theorem dX12_odds_9 : decode cX12_odds 9 = .ok (.invokestatic 69, 3) := by decide +kernel
theorem dX12_odds_12 : decode cX12_odds 12 = .ok (.ifCond .eq 20, 3) := by decide +kernel
theorem dX12_odds_15 : decode cX12_odds 15 = .ok (.aload_n 0, 1) := by decide +kernel
theorem dX12_odds_16 : decode cX12_odds 16 = .ok (.iload_n 2, 1) := by decide +kernel
theorem dX12_odds_17 : decode cX12_odds 17 = .ok (.invokevirtual 181, 3) := by decide +kernel
theorem dX12_odds_20 : decode cX12_odds 20 = .ok (.ifCond .eq 12, 3) := by decide +kernel
theorem dX12_odds_23 : decode cX12_odds 23 = .ok (.iload_n 3, 1) := by decide +kernel
theorem dX12_odds_24 : decode cX12_odds 24 = .ok (.iconst 0, 1) := by decide +kernel
theorem dX12_odds_25 : decode cX12_odds 25 = .ok (.iconst 1, 1) := by decide +kernel
theorem dX12_odds_26 : decode cX12_odds 26 = .ok (.invokestatic 69, 3) := by decide +kernel
theorem dX12_odds_29 : decode cX12_odds 29 = .ok (.ifCond .ne 5, 3) := by decide +kernel
theorem dX12_odds_32 : decode cX12_odds 32 = .ok (.iconst (-1), 1) := by decide +kernel
theorem dX12_odds_33 : decode cX12_odds 33 = .ok (.ireturn, 1) := by decide +kernel
theorem dX12_odds_34 : decode cX12_odds 34 = .ok (.aload_n 0, 1) := by decide +kernel
theorem dX12_odds_35 : decode cX12_odds 35 = .ok (.getfield 13, 3) := by decide +kernel
theorem dX12_odds_38 : decode cX12_odds 38 = .ok (.iconst 1, 1) := by decide +kernel
theorem dX12_odds_39 : decode cX12_odds 39 = .ok (.iaload, 1) := by decide +kernel
theorem dX12_odds_40 : decode cX12_odds 40 = .ok (.istore 4, 2) := by decide +kernel
theorem dX12_odds_42 : decode cX12_odds 42 = .ok (.iconst 0, 1) := by decide +kernel
theorem dX12_odds_43 : decode cX12_odds 43 = .ok (.istore 5, 2) := by decide +kernel
theorem dX12_odds_45 : decode cX12_odds 45 = .ok (.iconst 0, 1) := by decide +kernel
theorem dX12_odds_46 : decode cX12_odds 46 = .ok (.istore 6, 2) := by decide +kernel
theorem dX12_odds_48 : decode cX12_odds 48 = .ok (.iload 6, 2) := by decide +kernel
theorem dX12_odds_50 : decode cX12_odds 50 = .ok (.iconst 1, 1) := by decide +kernel
theorem dX12_odds_51 : decode cX12_odds 51 = .ok (.iload 4, 2) := by decide +kernel
theorem dX12_odds_53 : decode cX12_odds 53 = .ok (.ishl, 1) := by decide +kernel
theorem dX12_odds_54 : decode cX12_odds 54 = .ok (.if_icmp .ge 78, 3) := by decide +kernel
theorem dX12_odds_57 : decode cX12_odds 57 = .ok (.aload_n 0, 1) := by decide +kernel
theorem dX12_odds_58 : decode cX12_odds 58 = .ok (.getfield 28, 3) := by decide +kernel
theorem dX12_odds_61 : decode cX12_odds 61 = .ok (.iconst 0, 1) := by decide +kernel
theorem dX12_odds_62 : decode cX12_odds 62 = .ok (.iaload, 1) := by decide +kernel
theorem dX12_odds_63 : decode cX12_odds 63 = .ok (.iload 6, 2) := by decide +kernel
theorem dX12_odds_65 : decode cX12_odds 65 = .ok (.invokestatic 187, 3) := by decide +kernel
theorem dX12_odds_68 : decode cX12_odds 68 = .ok (.iadd, 1) := by decide +kernel
theorem dX12_odds_69 : decode cX12_odds 69 = .ok (.aload_n 0, 1) := by decide +kernel
theorem dX12_odds_70 : decode cX12_odds 70 = .ok (.getfield 13, 3) := by decide +kernel
theorem dX12_odds_73 : decode cX12_odds 73 = .ok (.iconst 0, 1) := by decide +kernel
theorem dX12_odds_74 : decode cX12_odds 74 = .ok (.iaload, 1) := by decide +kernel
theorem dX12_odds_75 : decode cX12_odds 75 = .ok (.irem, 1) := by decide +kernel
theorem dX12_odds_76 : decode cX12_odds 76 = .ok (.iload_n 2, 1) := by decide +kernel
theorem dX12_odds_77 : decode cX12_odds 77 = .ok (.if_icmp .ne 7, 3) := by decide +kernel
theorem dX12_odds_80 : decode cX12_odds 80 = .ok (.iconst 1, 1) := by decide +kernel
theorem dX12_odds_81 : decode cX12_odds 81 = .ok (.goto 4, 3) := by decide +kernel
theorem dX12_odds_84 : decode cX12_odds 84 = .ok (.iconst 0, 1) := by decide +kernel
theorem dX12_odds_85 : decode cX12_odds 85 = .ok (.istore 7, 2) := by decide +kernel
theorem dX12_odds_87 : decode cX12_odds 87 = .ok (.iload 5, 2) := by decide +kernel
theorem dX12_odds_89 : decode cX12_odds 89 = .ok (.iload 7, 2) := by decide +kernel
theorem dX12_odds_91 : decode cX12_odds 91 = .ok (.ifCond .eq 31, 3) := by decide +kernel
theorem dX12_odds_94 : decode cX12_odds 94 = .ok (.iload_n 1, 1) := by decide +kernel
theorem dX12_odds_95 : decode cX12_odds 95 = .ok (.iload 6, 2) := by decide +kernel
theorem dX12_odds_97 : decode cX12_odds 97 = .ok (.invokestatic 187, 3) := by decide +kernel
theorem dX12_odds_100 : decode cX12_odds 100 = .ok (.invokestatic 190, 3) := by decide +kernel
theorem dX12_odds_103 : decode cX12_odds 103 = .ok (.bipush 10, 2) := by decide +kernel
theorem dX12_odds_105 : decode cX12_odds 105 = .ok (.iload_n 1, 1) := by decide +kernel
theorem dX12_odds_106 : decode cX12_odds 106 = .ok (.isub, 1) := by decide +kernel
theorem dX12_odds_107 : decode cX12_odds 107 = .ok (.iload 4, 2) := by decide +kernel
theorem dX12_odds_109 : decode cX12_odds 109 = .ok (.iload 6, 2) := by decide +kernel
theorem dX12_odds_111 : decode cX12_odds 111 = .ok (.invokestatic 187, 3) := by decide +kernel
theorem dX12_odds_114 : decode cX12_odds 114 = .ok (.isub, 1) := by decide +kernel
theorem dX12_odds_115 : decode cX12_odds 115 = .ok (.invokestatic 190, 3) := by decide +kernel
theorem dX12_odds_118 : decode cX12_odds 118 = .ok (.imul, 1) := by decide +kernel
theorem dX12_odds_119 : decode cX12_odds 119 = .ok (.goto 4, 3) := by decide +kernel
theorem dX12_odds_122 : decode cX12_odds 122 = .ok (.iconst 0, 1) := by decide +kernel
theorem dX12_odds_123 : decode cX12_odds 123 = .ok (.iadd, 1) := by decide +kernel
theorem dX12_odds_124 : decode cX12_odds 124 = .ok (.istore 5, 2) := by decide +kernel
theorem dX12_odds_126 : decode cX12_odds 126 = .ok (.iinc 6 1, 3) := by decide +kernel
theorem dX12_odds_129 : decode cX12_odds 129 = .ok (.goto (-81), 3) := by decide +kernel
theorem dX12_odds_132 : decode cX12_odds 132 = .ok (.bipush 10, 2) := by decide +kernel
theorem dX12_odds_134 : decode cX12_odds 134 = .ok (.iload 4, 2) := by decide +kernel
theorem dX12_odds_136 : decode cX12_odds 136 = .ok (.invokestatic 190, 3) := by decide +kernel
theorem dX12_odds_139 : decode cX12_odds 139 = .ok (.istore 6, 2) := by decide +kernel
theorem dX12_odds_141 : decode cX12_odds 141 = .ok (.iload 5, 2) := by decide +kernel
theorem dX12_odds_143 : decode cX12_odds 143 = .ok (.iload 6, 2) := by decide +kernel
theorem dX12_odds_145 : decode cX12_odds 145 = .ok (.invokestatic 193, 3) := by decide +kernel
theorem dX12_odds_148 : decode cX12_odds 148 = .ok (.istore 7, 2) := by decide +kernel
theorem dX12_odds_150 : decode cX12_odds 150 = .ok (.iload_n 3, 1) := by decide +kernel
theorem dX12_odds_151 : decode cX12_odds 151 = .ok (.ifCond .ne 11, 3) := by decide +kernel
theorem dX12_odds_154 : decode cX12_odds 154 = .ok (.iload 5, 2) := by decide +kernel
theorem dX12_odds_156 : decode cX12_odds 156 = .ok (.iload 7, 2) := by decide +kernel
theorem dX12_odds_158 : decode cX12_odds 158 = .ok (.idiv, 1) := by decide +kernel
theorem dX12_odds_159 : decode cX12_odds 159 = .ok (.goto 8, 3) := by decide +kernel
theorem dX12_odds_162 : decode cX12_odds 162 = .ok (.iload 6, 2) := by decide +kernel
theorem dX12_odds_164 : decode cX12_odds 164 = .ok (.iload 7, 2) := by decide +kernel
theorem dX12_odds_166 : decode cX12_odds 166 = .ok (.idiv, 1) := by decide +kernel
theorem dX12_odds_167 : decode cX12_odds 167 = .ok (.ireturn, 1) := by decide +kernel
theorem dX12_sees_0 : decode cX12_sees 0 = .ok (.aload_n 0, 1) := by decide +kernel
theorem dX12_sees_1 : decode cX12_sees 1 = .ok (.iconst 0, 1) := by decide +kernel
theorem dX12_sees_2 : decode cX12_sees 2 = .ok (.putfield 65, 3) := by decide +kernel
theorem dX12_sees_5 : decode cX12_sees 5 = .ok (.aload_n 0, 1) := by decide +kernel
theorem dX12_sees_6 : decode cX12_sees 6 = .ok (.iload_n 1, 1) := by decide +kernel
theorem dX12_sees_7 : decode cX12_sees 7 = .ok (.invokevirtual 143, 3) := by decide +kernel
theorem dX12_sees_10 : decode cX12_sees 10 = .ok (.ifCond .eq 20, 3) := by decide +kernel
theorem dX12_sees_13 : decode cX12_sees 13 = .ok (.aload_n 0, 1) := by decide +kernel
theorem dX12_sees_14 : decode cX12_sees 14 = .ok (.iload_n 2, 1) := by decide +kernel
theorem dX12_sees_15 : decode cX12_sees 15 = .ok (.invokevirtual 181, 3) := by decide +kernel
theorem dX12_sees_18 : decode cX12_sees 18 = .ok (.ifCond .eq 12, 3) := by decide +kernel
theorem dX12_sees_21 : decode cX12_sees 21 = .ok (.iload_n 3, 1) := by decide +kernel
theorem dX12_sees_22 : decode cX12_sees 22 = .ok (.iconst 0, 1) := by decide +kernel
theorem dX12_sees_23 : decode cX12_sees 23 = .ok (.iconst 1, 1) := by decide +kernel
theorem dX12_sees_24 : decode cX12_sees 24 = .ok (.invokestatic 69, 3) := by decide +kernel
theorem dX12_sees_27 : decode cX12_sees 27 = .ok (.ifCond .ne 5, 3) := by decide +kernel
theorem dX12_sees_30 : decode cX12_sees 30 = .ok (.iconst (-1), 1) := by decide +kernel
theorem dX12_sees_31 : decode cX12_sees 31 = .ok (.ireturn, 1) := by decide +kernel
theorem dX12_sees_32 : decode cX12_sees 32 = .ok (.aload_n 0, 1) := by decide +kernel
theorem dX12_sees_33 : decode cX12_sees 33 = .ok (.getfield 125, 3) := by decide +kernel
theorem dX12_sees_36 : decode cX12_sees 36 = .ok (.bipush 6, 2) := by decide +kernel
theorem dX12_sees_38 : decode cX12_sees 38 = .ok (.if_icmp .ne 6, 3) := by decide +kernel
theorem dX12_sees_41 : decode cX12_sees 41 = .ok (.bipush (-3), 2) := by decide +kernel
theorem dX12_sees_43 : decode cX12_sees 43 = .ok (.ireturn, 1) := by decide +kernel
theorem dX12_sees_44 : decode cX12_sees 44 = .ok (.aload_n 0, 1) := by decide +kernel
theorem dX12_sees_45 : decode cX12_sees 45 = .ok (.getfield 41, 3) := by decide +kernel
theorem dX12_sees_48 : decode cX12_sees 48 = .ok (.aload_n 0, 1) := by decide +kernel
theorem dX12_sees_49 : decode cX12_sees 49 = .ok (.getfield 125, 3) := by decide +kernel
theorem dX12_sees_52 : decode cX12_sees 52 = .ok (.iload_n 1, 1) := by decide +kernel
theorem dX12_sees_53 : decode cX12_sees 53 = .ok (.iastore, 1) := by decide +kernel
theorem dX12_sees_54 : decode cX12_sees 54 = .ok (.aload_n 0, 1) := by decide +kernel
theorem dX12_sees_55 : decode cX12_sees 55 = .ok (.getfield 44, 3) := by decide +kernel
theorem dX12_sees_58 : decode cX12_sees 58 = .ok (.aload_n 0, 1) := by decide +kernel
theorem dX12_sees_59 : decode cX12_sees 59 = .ok (.getfield 125, 3) := by decide +kernel
theorem dX12_sees_62 : decode cX12_sees 62 = .ok (.iload_n 2, 1) := by decide +kernel
theorem dX12_sees_63 : decode cX12_sees 63 = .ok (.iastore, 1) := by decide +kernel
theorem dX12_sees_64 : decode cX12_sees 64 = .ok (.aload_n 0, 1) := by decide +kernel
theorem dX12_sees_65 : decode cX12_sees 65 = .ok (.getfield 47, 3) := by decide +kernel
theorem dX12_sees_68 : decode cX12_sees 68 = .ok (.aload_n 0, 1) := by decide +kernel
theorem dX12_sees_69 : decode cX12_sees 69 = .ok (.getfield 125, 3) := by decide +kernel
theorem dX12_sees_72 : decode cX12_sees 72 = .ok (.iload_n 3, 1) := by decide +kernel
theorem dX12_sees_73 : decode cX12_sees 73 = .ok (.iastore, 1) := by decide +kernel
theorem dX12_sees_74 : decode cX12_sees 74 = .ok (.aload_n 0, 1) := by decide +kernel
theorem dX12_sees_75 : decode cX12_sees 75 = .ok (.dup, 1) := by decide +kernel
theorem dX12_sees_76 : decode cX12_sees 76 = .ok (.getfield 125, 3) := by decide +kernel
theorem dX12_sees_79 : decode cX12_sees 79 = .ok (.iconst 1, 1) := by decide +kernel
theorem dX12_sees_80 : decode cX12_sees 80 = .ok (.iadd, 1) := by decide +kernel
theorem dX12_sees_81 : decode cX12_sees 81 = .ok (.putfield 125, 3) := by decide +kernel
theorem dX12_sees_84 : decode cX12_sees 84 = .ok (.aload_n 0, 1) := by decide +kernel
theorem dX12_sees_85 : decode cX12_sees 85 = .ok (.getfield 125, 3) := by decide +kernel
theorem dX12_sees_88 : decode cX12_sees 88 = .ok (.ireturn, 1) := by decide +kernel
theorem dX12_forget_0 : decode cX12_forget 0 = .ok (.aload_n 0, 1) := by decide +kernel
theorem dX12_forget_1 : decode cX12_forget 1 = .ok (.iconst 0, 1) := by decide +kernel
theorem dX12_forget_2 : decode cX12_forget 2 = .ok (.putfield 65, 3) := by decide +kernel
theorem dX12_forget_5 : decode cX12_forget 5 = .ok (.aload_n 0, 1) := by decide +kernel
theorem dX12_forget_6 : decode cX12_forget 6 = .ok (.getfield 125, 3) := by decide +kernel
theorem dX12_forget_9 : decode cX12_forget 9 = .ok (.istore_n 1, 1) := by decide +kernel
theorem dX12_forget_10 : decode cX12_forget 10 = .ok (.aload_n 0, 1) := by decide +kernel
theorem dX12_forget_11 : decode cX12_forget 11 = .ok (.iconst 0, 1) := by decide +kernel
theorem dX12_forget_12 : decode cX12_forget 12 = .ok (.putfield 125, 3) := by decide +kernel
theorem dX12_forget_15 : decode cX12_forget 15 = .ok (.iload_n 1, 1) := by decide +kernel
theorem dX12_forget_16 : decode cX12_forget 16 = .ok (.ireturn, 1) := by decide +kernel
theorem dX12_whoCan_0 : decode cX12_whoCan 0 = .ok (.iconst 1, 1) := by decide +kernel
theorem dX12_whoCan_1 : decode cX12_whoCan 1 = .ok (.aload_n 0, 1) := by decide +kernel
theorem dX12_whoCan_2 : decode cX12_whoCan 2 = .ok (.getfield 13, 3) := by decide +kernel
theorem dX12_whoCan_5 : decode cX12_whoCan 5 = .ok (.iconst 1, 1) := by decide +kernel
theorem dX12_whoCan_6 : decode cX12_whoCan 6 = .ok (.iaload, 1) := by decide +kernel
theorem dX12_whoCan_7 : decode cX12_whoCan 7 = .ok (.ishl, 1) := by decide +kernel
theorem dX12_whoCan_8 : decode cX12_whoCan 8 = .ok (.iconst 1, 1) := by decide +kernel
theorem dX12_whoCan_9 : decode cX12_whoCan 9 = .ok (.isub, 1) := by decide +kernel
theorem dX12_whoCan_10 : decode cX12_whoCan 10 = .ok (.istore_n 1, 1) := by decide +kernel
theorem dX12_whoCan_11 : decode cX12_whoCan 11 = .ok (.iconst 0, 1) := by decide +kernel
theorem dX12_whoCan_12 : decode cX12_whoCan 12 = .ok (.istore_n 2, 1) := by decide +kernel
theorem dX12_whoCan_13 : decode cX12_whoCan 13 = .ok (.iload_n 2, 1) := by decide +kernel
theorem dX12_whoCan_14 : decode cX12_whoCan 14 = .ok (.aload_n 0, 1) := by decide +kernel
theorem dX12_whoCan_15 : decode cX12_whoCan 15 = .ok (.getfield 125, 3) := by decide +kernel
theorem dX12_whoCan_18 : decode cX12_whoCan 18 = .ok (.if_icmp .ge 46, 3) := by decide +kernel
theorem dX12_whoCan_21 : decode cX12_whoCan 21 = .ok (.aload_n 0, 1) := by decide +kernel
theorem dX12_whoCan_22 : decode cX12_whoCan 22 = .ok (.aload_n 0, 1) := by decide +kernel
theorem dX12_whoCan_23 : decode cX12_whoCan 23 = .ok (.getfield 41, 3) := by decide +kernel
theorem dX12_whoCan_26 : decode cX12_whoCan 26 = .ok (.iload_n 2, 1) := by decide +kernel
theorem dX12_whoCan_27 : decode cX12_whoCan 27 = .ok (.iaload, 1) := by decide +kernel
theorem dX12_whoCan_28 : decode cX12_whoCan 28 = .ok (.aload_n 0, 1) := by decide +kernel
theorem dX12_whoCan_29 : decode cX12_whoCan 29 = .ok (.getfield 44, 3) := by decide +kernel
theorem dX12_whoCan_32 : decode cX12_whoCan 32 = .ok (.iload_n 2, 1) := by decide +kernel
theorem dX12_whoCan_33 : decode cX12_whoCan 33 = .ok (.iaload, 1) := by decide +kernel
theorem dX12_whoCan_34 : decode cX12_whoCan 34 = .ok (.invokevirtual 146, 3) := by decide +kernel
theorem dX12_whoCan_37 : decode cX12_whoCan 37 = .ok (.istore_n 3, 1) := by decide +kernel
theorem dX12_whoCan_38 : decode cX12_whoCan 38 = .ok (.iload_n 1, 1) := by decide +kernel
theorem dX12_whoCan_39 : decode cX12_whoCan 39 = .ok (.aload_n 0, 1) := by decide +kernel
theorem dX12_whoCan_40 : decode cX12_whoCan 40 = .ok (.getfield 47, 3) := by decide +kernel
theorem dX12_whoCan_43 : decode cX12_whoCan 43 = .ok (.iload_n 2, 1) := by decide +kernel
theorem dX12_whoCan_44 : decode cX12_whoCan 44 = .ok (.iaload, 1) := by decide +kernel
theorem dX12_whoCan_45 : decode cX12_whoCan 45 = .ok (.iconst 1, 1) := by decide +kernel
theorem dX12_whoCan_46 : decode cX12_whoCan 46 = .ok (.if_icmp .ne 7, 3) := by decide +kernel
theorem dX12_whoCan_49 : decode cX12_whoCan 49 = .ok (.iload_n 3, 1) := by decide +kernel
theorem dX12_whoCan_50 : decode cX12_whoCan 50 = .ok (.goto 6, 3) := by decide +kernel
theorem dX12_whoCan_53 : decode cX12_whoCan 53 = .ok (.iload_n 3, 1) := by decide +kernel
theorem dX12_whoCan_54 : decode cX12_whoCan 54 = .ok (.iconst (-1), 1) := by decide +kernel
theorem dX12_whoCan_55 : decode cX12_whoCan 55 = .ok (.ixor, 1) := by decide +kernel
theorem dX12_whoCan_56 : decode cX12_whoCan 56 = .ok (.iand, 1) := by decide +kernel
theorem dX12_whoCan_57 : decode cX12_whoCan 57 = .ok (.istore_n 1, 1) := by decide +kernel
theorem dX12_whoCan_58 : decode cX12_whoCan 58 = .ok (.iinc 2 1, 3) := by decide +kernel
theorem dX12_whoCan_61 : decode cX12_whoCan 61 = .ok (.goto (-48), 3) := by decide +kernel
theorem dX12_whoCan_64 : decode cX12_whoCan 64 = .ok (.iload_n 1, 1) := by decide +kernel
theorem dX12_whoCan_65 : decode cX12_whoCan 65 = .ok (.ireturn, 1) := by decide +kernel
theorem dX12_who_0 : decode cX12_who 0 = .ok (.aload_n 0, 1) := by decide +kernel
theorem dX12_who_1 : decode cX12_who 1 = .ok (.iconst 0, 1) := by decide +kernel
theorem dX12_who_2 : decode cX12_who 2 = .ok (.putfield 65, 3) := by decide +kernel
theorem dX12_who_5 : decode cX12_who 5 = .ok (.aload_n 0, 1) := by decide +kernel
theorem dX12_who_6 : decode cX12_who 6 = .ok (.invokevirtual 196, 3) := by decide +kernel
theorem dX12_who_9 : decode cX12_who 9 = .ok (.ireturn, 1) := by decide +kernel
theorem dX12_look_0 : decode cX12_look 0 = .ok (.aload_n 0, 1) := by decide +kernel
theorem dX12_look_1 : decode cX12_look 1 = .ok (.iconst 0, 1) := by decide +kernel
theorem dX12_look_2 : decode cX12_look 2 = .ok (.putfield 65, 3) := by decide +kernel
theorem dX12_look_5 : decode cX12_look 5 = .ok (.aload_n 0, 1) := by decide +kernel
theorem dX12_look_6 : decode cX12_look 6 = .ok (.iload_n 1, 1) := by decide +kernel
theorem dX12_look_7 : decode cX12_look 7 = .ok (.invokevirtual 143, 3) := by decide +kernel
theorem dX12_look_10 : decode cX12_look 10 = .ok (.ifCond .ne 5, 3) := by decide +kernel
theorem dX12_look_13 : decode cX12_look 13 = .ok (.iconst (-1), 1) := by decide +kernel
theorem dX12_look_14 : decode cX12_look 14 = .ok (.ireturn, 1) := by decide +kernel
theorem dX12_look_15 : decode cX12_look 15 = .ok (.aload_n 0, 1) := by decide +kernel
theorem dX12_look_16 : decode cX12_look 16 = .ok (.invokevirtual 196, 3) := by decide +kernel
theorem dX12_look_19 : decode cX12_look 19 = .ok (.invokestatic 187, 3) := by decide +kernel
theorem dX12_look_22 : decode cX12_look 22 = .ok (.istore_n 2, 1) := by decide +kernel
theorem dX12_look_23 : decode cX12_look 23 = .ok (.bipush (-9), 2) := by decide +kernel
theorem dX12_look_25 : decode cX12_look 25 = .ok (.istore_n 3, 1) := by decide +kernel
theorem dX12_look_26 : decode cX12_look 26 = .ok (.bipush 99, 2) := by decide +kernel
theorem dX12_look_28 : decode cX12_look 28 = .ok (.istore 4, 2) := by decide +kernel
theorem dX12_look_30 : decode cX12_look 30 = .ok (.iconst 0, 1) := by decide +kernel
theorem dX12_look_31 : decode cX12_look 31 = .ok (.istore 5, 2) := by decide +kernel
theorem dX12_look_33 : decode cX12_look 33 = .ok (.iload 5, 2) := by decide +kernel
theorem dX12_look_35 : decode cX12_look 35 = .ok (.aload_n 0, 1) := by decide +kernel
theorem dX12_look_36 : decode cX12_look 36 = .ok (.getfield 13, 3) := by decide +kernel
theorem dX12_look_39 : decode cX12_look 39 = .ok (.iconst 0, 1) := by decide +kernel
theorem dX12_look_40 : decode cX12_look 40 = .ok (.iaload, 1) := by decide +kernel
theorem dX12_look_41 : decode cX12_look 41 = .ok (.if_icmp .ge 81, 3) := by decide +kernel
theorem dX12_look_44 : decode cX12_look 44 = .ok (.iload_n 2, 1) := by decide +kernel
theorem dX12_look_45 : decode cX12_look 45 = .ok (.iconst 1, 1) := by decide +kernel
theorem dX12_look_46 : decode cX12_look 46 = .ok (.if_icmp .le 76, 3) := by decide +kernel
theorem dX12_look_49 : decode cX12_look 49 = .ok (.aload_n 0, 1) := by decide +kernel
theorem dX12_look_50 : decode cX12_look 50 = .ok (.invokevirtual 196, 3) := by decide +kernel
theorem dX12_look_53 : decode cX12_look 53 = .ok (.aload_n 0, 1) := by decide +kernel
theorem dX12_look_54 : decode cX12_look 54 = .ok (.iload_n 1, 1) := by decide +kernel
theorem dX12_look_55 : decode cX12_look 55 = .ok (.iload 5, 2) := by decide +kernel
theorem dX12_look_57 : decode cX12_look 57 = .ok (.invokevirtual 146, 3) := by decide +kernel
theorem dX12_look_60 : decode cX12_look 60 = .ok (.iand, 1) := by decide +kernel
theorem dX12_look_61 : decode cX12_look 61 = .ok (.invokestatic 187, 3) := by decide +kernel
theorem dX12_look_64 : decode cX12_look 64 = .ok (.istore 6, 2) := by decide +kernel
theorem dX12_look_66 : decode cX12_look 66 = .ok (.iload 6, 2) := by decide +kernel
theorem dX12_look_68 : decode cX12_look 68 = .ok (.iload_n 2, 1) := by decide +kernel
theorem dX12_look_69 : decode cX12_look 69 = .ok (.iload 6, 2) := by decide +kernel
theorem dX12_look_71 : decode cX12_look 71 = .ok (.isub, 1) := by decide +kernel
theorem dX12_look_72 : decode cX12_look 72 = .ok (.if_icmp .le 8, 3) := by decide +kernel
theorem dX12_look_75 : decode cX12_look 75 = .ok (.iload 6, 2) := by decide +kernel
theorem dX12_look_77 : decode cX12_look 77 = .ok (.goto 7, 3) := by decide +kernel
theorem dX12_look_80 : decode cX12_look 80 = .ok (.iload_n 2, 1) := by decide +kernel
theorem dX12_look_81 : decode cX12_look 81 = .ok (.iload 6, 2) := by decide +kernel
theorem dX12_look_83 : decode cX12_look 83 = .ok (.isub, 1) := by decide +kernel
theorem dX12_look_84 : decode cX12_look 84 = .ok (.istore 7, 2) := by decide +kernel
theorem dX12_look_86 : decode cX12_look 86 = .ok (.iload 7, 2) := by decide +kernel
theorem dX12_look_88 : decode cX12_look 88 = .ok (.iload 4, 2) := by decide +kernel
theorem dX12_look_90 : decode cX12_look 90 = .ok (.if_icmp .ge 8, 3) := by decide +kernel
theorem dX12_look_93 : decode cX12_look 93 = .ok (.iload 5, 2) := by decide +kernel
theorem dX12_look_95 : decode cX12_look 95 = .ok (.goto 4, 3) := by decide +kernel
theorem dX12_look_98 : decode cX12_look 98 = .ok (.iload_n 3, 1) := by decide +kernel
theorem dX12_look_99 : decode cX12_look 99 = .ok (.istore_n 3, 1) := by decide +kernel
theorem dX12_look_100 : decode cX12_look 100 = .ok (.iload 7, 2) := by decide +kernel
theorem dX12_look_102 : decode cX12_look 102 = .ok (.iload 4, 2) := by decide +kernel
theorem dX12_look_104 : decode cX12_look 104 = .ok (.if_icmp .ge 8, 3) := by decide +kernel
theorem dX12_look_107 : decode cX12_look 107 = .ok (.iload 7, 2) := by decide +kernel
theorem dX12_look_109 : decode cX12_look 109 = .ok (.goto 5, 3) := by decide +kernel
theorem dX12_look_112 : decode cX12_look 112 = .ok (.iload 4, 2) := by decide +kernel
theorem dX12_look_114 : decode cX12_look 114 = .ok (.istore 4, 2) := by decide +kernel
theorem dX12_look_116 : decode cX12_look 116 = .ok (.iinc 5 1, 3) := by decide +kernel
theorem dX12_look_119 : decode cX12_look 119 = .ok (.goto (-86), 3) := by decide +kernel
theorem dX12_look_122 : decode cX12_look 122 = .ok (.iload_n 3, 1) := by decide +kernel
theorem dX12_look_123 : decode cX12_look 123 = .ok (.ireturn, 1) := by decide +kernel
theorem dX12_rate_0 : decode cX12_rate 0 = .ok (.aload_n 0, 1) := by decide +kernel
theorem dX12_rate_1 : decode cX12_rate 1 = .ok (.iconst 0, 1) := by decide +kernel
theorem dX12_rate_2 : decode cX12_rate 2 = .ok (.putfield 65, 3) := by decide +kernel
theorem dX12_rate_5 : decode cX12_rate 5 = .ok (.iload_n 1, 1) := by decide +kernel
theorem dX12_rate_6 : decode cX12_rate 6 = .ok (.iconst 0, 1) := by decide +kernel
theorem dX12_rate_7 : decode cX12_rate 7 = .ok (.iconst 5, 1) := by decide +kernel
theorem dX12_rate_8 : decode cX12_rate 8 = .ok (.invokestatic 69, 3) := by decide +kernel
theorem dX12_rate_11 : decode cX12_rate 11 = .ok (.ifCond .eq 11, 3) := by decide +kernel
theorem dX12_rate_14 : decode cX12_rate 14 = .ok (.aload_n 0, 1) := by decide +kernel
theorem dX12_rate_15 : decode cX12_rate 15 = .ok (.iload_n 2, 1) := by decide +kernel
theorem dX12_rate_16 : decode cX12_rate 16 = .ok (.invokevirtual 134, 3) := by decide +kernel
theorem dX12_rate_19 : decode cX12_rate 19 = .ok (.ifCond .ne 6, 3) := by decide +kernel
theorem dX12_rate_22 : decode cX12_rate 22 = .ok (.ldc 199, 2) := by decide +kernel
theorem dX12_rate_24 : decode cX12_rate 24 = .ok (.ireturn, 1) := by decide +kernel
theorem dX12_rate_25 : decode cX12_rate 25 = .ok (.aload_n 0, 1) := by decide +kernel
theorem dX12_rate_26 : decode cX12_rate 26 = .ok (.iload_n 2, 1) := by decide +kernel
theorem dX12_rate_27 : decode cX12_rate 27 = .ok (.invokevirtual 137, 3) := by decide +kernel
theorem dX12_rate_30 : decode cX12_rate 30 = .ok (.invokestatic 187, 3) := by decide +kernel
theorem dX12_rate_33 : decode cX12_rate 33 = .ok (.istore_n 3, 1) := by decide +kernel
theorem dX12_rate_34 : decode cX12_rate 34 = .ok (.iload_n 3, 1) := by decide +kernel
theorem dX12_rate_35 : decode cX12_rate 35 = .ok (.aload_n 0, 1) := by decide +kernel
theorem dX12_rate_36 : decode cX12_rate 36 = .ok (.getfield 16, 3) := by decide +kernel
theorem dX12_rate_39 : decode cX12_rate 39 = .ok (.iload_n 2, 1) := by decide +kernel
theorem dX12_rate_40 : decode cX12_rate 40 = .ok (.iaload, 1) := by decide +kernel
theorem dX12_rate_41 : decode cX12_rate 41 = .ok (.iadd, 1) := by decide +kernel
theorem dX12_rate_42 : decode cX12_rate 42 = .ok (.istore 4, 2) := by decide +kernel
theorem dX12_rate_44 : decode cX12_rate 44 = .ok (.iload_n 3, 1) := by decide +kernel
theorem dX12_rate_45 : decode cX12_rate 45 = .ok (.aload_n 0, 1) := by decide +kernel
theorem dX12_rate_46 : decode cX12_rate 46 = .ok (.iload_n 2, 1) := by decide +kernel
theorem dX12_rate_47 : decode cX12_rate 47 = .ok (.invokevirtual 140, 3) := by decide +kernel
theorem dX12_rate_50 : decode cX12_rate 50 = .ok (.invokestatic 187, 3) := by decide +kernel
theorem dX12_rate_53 : decode cX12_rate 53 = .ok (.isub, 1) := by decide +kernel
theorem dX12_rate_54 : decode cX12_rate 54 = .ok (.istore 5, 2) := by decide +kernel
theorem dX12_rate_56 : decode cX12_rate 56 = .ok (.aload_n 0, 1) := by decide +kernel
theorem dX12_rate_57 : decode cX12_rate 57 = .ok (.dup, 1) := by decide +kernel
theorem dX12_rate_58 : decode cX12_rate 58 = .ok (.getfield 200, 3) := by decide +kernel
theorem dX12_rate_61 : decode cX12_rate 61 = .ok (.iload_n 1, 1) := by decide +kernel
theorem dX12_rate_62 : decode cX12_rate 62 = .ok (.ifCond .ne 7, 3) := by decide +kernel
theorem dX12_rate_65 : decode cX12_rate 65 = .ok (.lconst 1, 1) := by decide +kernel
theorem dX12_rate_66 : decode cX12_rate 66 = .ok (.goto 50, 3) := by decide +kernel
theorem dX12_rate_69 : decode cX12_rate 69 = .ok (.iload_n 1, 1) := by decide +kernel
theorem dX12_rate_70 : decode cX12_rate 70 = .ok (.iconst 1, 1) := by decide +kernel
theorem dX12_rate_71 : decode cX12_rate 71 = .ok (.if_icmp .ne 9, 3) := by decide +kernel
theorem dX12_rate_74 : decode cX12_rate 74 = .ok (.ldc2_w 204, 3) := by decide +kernel
theorem dX12_rate_77 : decode cX12_rate 77 = .ok (.goto 39, 3) := by decide +kernel
theorem dX12_rate_80 : decode cX12_rate 80 = .ok (.iload_n 1, 1) := by decide +kernel
theorem dX12_rate_81 : decode cX12_rate 81 = .ok (.iconst 2, 1) := by decide +kernel
theorem dX12_rate_82 : decode cX12_rate 82 = .ok (.if_icmp .ne 9, 3) := by decide +kernel
theorem dX12_rate_85 : decode cX12_rate 85 = .ok (.ldc2_w 206, 3) := by decide +kernel
theorem dX12_rate_88 : decode cX12_rate 88 = .ok (.goto 28, 3) := by decide +kernel
theorem dX12_rate_91 : decode cX12_rate 91 = .ok (.iload_n 1, 1) := by decide +kernel
theorem dX12_rate_92 : decode cX12_rate 92 = .ok (.iconst 3, 1) := by decide +kernel
theorem dX12_rate_93 : decode cX12_rate 93 = .ok (.if_icmp .ne 9, 3) := by decide +kernel
theorem dX12_rate_96 : decode cX12_rate 96 = .ok (.ldc2_w 208, 3) := by decide +kernel
theorem dX12_rate_99 : decode cX12_rate 99 = .ok (.goto 17, 3) := by decide +kernel
theorem dX12_rate_102 : decode cX12_rate 102 = .ok (.iload_n 1, 1) := by decide +kernel
theorem dX12_rate_103 : decode cX12_rate 103 = .ok (.iconst 4, 1) := by decide +kernel
theorem dX12_rate_104 : decode cX12_rate 104 = .ok (.if_icmp .ne 9, 3) := by decide +kernel
theorem dX12_rate_107 : decode cX12_rate 107 = .ok (.ldc2_w 210, 3) := by decide +kernel
theorem dX12_rate_110 : decode cX12_rate 110 = .ok (.goto 6, 3) := by decide +kernel
theorem dX12_rate_113 : decode cX12_rate 113 = .ok (.ldc2_w 212, 3) := by decide +kernel
theorem dX12_rate_116 : decode cX12_rate 116 = .ok (.ladd, 1) := by decide +kernel
theorem dX12_rate_117 : decode cX12_rate 117 = .ok (.putfield 200, 3) := by decide +kernel
theorem dX12_rate_120 : decode cX12_rate 120 = .ok (.iload_n 1, 1) := by decide +kernel
theorem dX12_rate_121 : decode cX12_rate 121 = .ok (.ifCond .ne 7, 3) := by decide +kernel
theorem dX12_rate_124 : decode cX12_rate 124 = .ok (.iload_n 3, 1) := by decide +kernel
theorem dX12_rate_125 : decode cX12_rate 125 = .ok (.goto 55, 3) := by decide +kernel
theorem dX12_rate_128 : decode cX12_rate 128 = .ok (.iload_n 1, 1) := by decide +kernel
theorem dX12_rate_129 : decode cX12_rate 129 = .ok (.iconst 1, 1) := by decide +kernel
theorem dX12_rate_130 : decode cX12_rate 130 = .ok (.if_icmp .ne 8, 3) := by decide +kernel
theorem dX12_rate_133 : decode cX12_rate 133 = .ok (.iload 4, 2) := by decide +kernel
theorem dX12_rate_135 : decode cX12_rate 135 = .ok (.goto 45, 3) := by decide +kernel
theorem dX12_rate_138 : decode cX12_rate 138 = .ok (.iload_n 1, 1) := by decide +kernel
theorem dX12_rate_139 : decode cX12_rate 139 = .ok (.iconst 2, 1) := by decide +kernel
theorem dX12_rate_140 : decode cX12_rate 140 = .ok (.if_icmp .ne 8, 3) := by decide +kernel
theorem dX12_rate_143 : decode cX12_rate 143 = .ok (.iload 5, 2) := by decide +kernel
theorem dX12_rate_145 : decode cX12_rate 145 = .ok (.goto 35, 3) := by decide +kernel
theorem dX12_rate_148 : decode cX12_rate 148 = .ok (.iload_n 1, 1) := by decide +kernel
theorem dX12_rate_149 : decode cX12_rate 149 = .ok (.iconst 3, 1) := by decide +kernel
theorem dX12_rate_150 : decode cX12_rate 150 = .ok (.if_icmp .ne 10, 3) := by decide +kernel
theorem dX12_rate_153 : decode cX12_rate 153 = .ok (.iconst 2, 1) := by decide +kernel
theorem dX12_rate_154 : decode cX12_rate 154 = .ok (.iload 4, 2) := by decide +kernel
theorem dX12_rate_156 : decode cX12_rate 156 = .ok (.imul, 1) := by decide +kernel
theorem dX12_rate_157 : decode cX12_rate 157 = .ok (.goto 23, 3) := by decide +kernel
theorem dX12_rate_160 : decode cX12_rate 160 = .ok (.iload_n 1, 1) := by decide +kernel
theorem dX12_rate_161 : decode cX12_rate 161 = .ok (.iconst 4, 1) := by decide +kernel
theorem dX12_rate_162 : decode cX12_rate 162 = .ok (.if_icmp .ne 10, 3) := by decide +kernel
theorem dX12_rate_165 : decode cX12_rate 165 = .ok (.iload 5, 2) := by decide +kernel
theorem dX12_rate_167 : decode cX12_rate 167 = .ok (.iload_n 2, 1) := by decide +kernel
theorem dX12_rate_168 : decode cX12_rate 168 = .ok (.iadd, 1) := by decide +kernel
theorem dX12_rate_169 : decode cX12_rate 169 = .ok (.goto 11, 3) := by decide +kernel
theorem dX12_rate_172 : decode cX12_rate 172 = .ok (.iload_n 3, 1) := by decide +kernel
theorem dX12_rate_173 : decode cX12_rate 173 = .ok (.aload_n 0, 1) := by decide +kernel
theorem dX12_rate_174 : decode cX12_rate 174 = .ok (.getfield 28, 3) := by decide +kernel
theorem dX12_rate_177 : decode cX12_rate 177 = .ok (.iconst 0, 1) := by decide +kernel
theorem dX12_rate_178 : decode cX12_rate 178 = .ok (.iaload, 1) := by decide +kernel
theorem dX12_rate_179 : decode cX12_rate 179 = .ok (.iadd, 1) := by decide +kernel
theorem dX12_rate_180 : decode cX12_rate 180 = .ok (.ireturn, 1) := by decide +kernel
theorem dX12_keep_0 : decode cX12_keep 0 = .ok (.aload_n 0, 1) := by decide +kernel
theorem dX12_keep_1 : decode cX12_keep 1 = .ok (.iconst 0, 1) := by decide +kernel
theorem dX12_keep_2 : decode cX12_keep 2 = .ok (.putfield 65, 3) := by decide +kernel
theorem dX12_keep_5 : decode cX12_keep 5 = .ok (.iload_n 1, 1) := by decide +kernel
theorem dX12_keep_6 : decode cX12_keep 6 = .ok (.iconst 0, 1) := by decide +kernel
theorem dX12_keep_7 : decode cX12_keep 7 = .ok (.iconst 1, 1) := by decide +kernel
theorem dX12_keep_8 : decode cX12_keep 8 = .ok (.invokestatic 69, 3) := by decide +kernel
theorem dX12_keep_11 : decode cX12_keep 11 = .ok (.ifCond .ne 5, 3) := by decide +kernel
theorem dX12_keep_14 : decode cX12_keep 14 = .ok (.iconst (-1), 1) := by decide +kernel
theorem dX12_keep_15 : decode cX12_keep 15 = .ok (.ireturn, 1) := by decide +kernel
theorem dX12_keep_16 : decode cX12_keep 16 = .ok (.iconst 0, 1) := by decide +kernel
theorem dX12_keep_17 : decode cX12_keep 17 = .ok (.istore_n 2, 1) := by decide +kernel
theorem dX12_keep_18 : decode cX12_keep 18 = .ok (.iload_n 2, 1) := by decide +kernel
theorem dX12_keep_19 : decode cX12_keep 19 = .ok (.bipush 25, 2) := by decide +kernel
theorem dX12_keep_21 : decode cX12_keep 21 = .ok (.if_icmp .ge 26, 3) := by decide +kernel
theorem dX12_keep_24 : decode cX12_keep 24 = .ok (.aload_n 0, 1) := by decide +kernel
theorem dX12_keep_25 : decode cX12_keep 25 = .ok (.getfield 31, 3) := by decide +kernel
theorem dX12_keep_28 : decode cX12_keep 28 = .ok (.bipush 25, 2) := by decide +kernel
theorem dX12_keep_30 : decode cX12_keep 30 = .ok (.iload_n 1, 1) := by decide +kernel
theorem dX12_keep_31 : decode cX12_keep 31 = .ok (.imul, 1) := by decide +kernel
theorem dX12_keep_32 : decode cX12_keep 32 = .ok (.iload_n 2, 1) := by decide +kernel
theorem dX12_keep_33 : decode cX12_keep 33 = .ok (.iadd, 1) := by decide +kernel
theorem dX12_keep_34 : decode cX12_keep 34 = .ok (.aload_n 0, 1) := by decide +kernel
theorem dX12_keep_35 : decode cX12_keep 35 = .ok (.getfield 28, 3) := by decide +kernel
theorem dX12_keep_38 : decode cX12_keep 38 = .ok (.iload_n 2, 1) := by decide +kernel
theorem dX12_keep_39 : decode cX12_keep 39 = .ok (.iaload, 1) := by decide +kernel
theorem dX12_keep_40 : decode cX12_keep 40 = .ok (.iastore, 1) := by decide +kernel
theorem dX12_keep_41 : decode cX12_keep 41 = .ok (.iinc 2 1, 3) := by decide +kernel
theorem dX12_keep_44 : decode cX12_keep 44 = .ok (.goto (-26), 3) := by decide +kernel
theorem dX12_keep_47 : decode cX12_keep 47 = .ok (.aload_n 0, 1) := by decide +kernel
theorem dX12_keep_48 : decode cX12_keep 48 = .ok (.getfield 34, 3) := by decide +kernel
theorem dX12_keep_51 : decode cX12_keep 51 = .ok (.iload_n 1, 1) := by decide +kernel
theorem dX12_keep_52 : decode cX12_keep 52 = .ok (.iconst 1, 1) := by decide +kernel
theorem dX12_keep_53 : decode cX12_keep 53 = .ok (.bastore, 1) := by decide +kernel
theorem dX12_keep_54 : decode cX12_keep 54 = .ok (.aload_n 0, 1) := by decide +kernel
theorem dX12_keep_55 : decode cX12_keep 55 = .ok (.getfield 28, 3) := by decide +kernel
theorem dX12_keep_58 : decode cX12_keep 58 = .ok (.iconst 0, 1) := by decide +kernel
theorem dX12_keep_59 : decode cX12_keep 59 = .ok (.iaload, 1) := by decide +kernel
theorem dX12_keep_60 : decode cX12_keep 60 = .ok (.ireturn, 1) := by decide +kernel
theorem dX12_back_0 : decode cX12_back 0 = .ok (.aload_n 0, 1) := by decide +kernel
theorem dX12_back_1 : decode cX12_back 1 = .ok (.iconst 0, 1) := by decide +kernel
theorem dX12_back_2 : decode cX12_back 2 = .ok (.putfield 65, 3) := by decide +kernel
theorem dX12_back_5 : decode cX12_back 5 = .ok (.iload_n 1, 1) := by decide +kernel
theorem dX12_back_6 : decode cX12_back 6 = .ok (.iconst 0, 1) := by decide +kernel
theorem dX12_back_7 : decode cX12_back 7 = .ok (.iconst 1, 1) := by decide +kernel
theorem dX12_back_8 : decode cX12_back 8 = .ok (.invokestatic 69, 3) := by decide +kernel
theorem dX12_back_11 : decode cX12_back 11 = .ok (.ifCond .ne 5, 3) := by decide +kernel
theorem dX12_back_14 : decode cX12_back 14 = .ok (.iconst (-1), 1) := by decide +kernel
theorem dX12_back_15 : decode cX12_back 15 = .ok (.ireturn, 1) := by decide +kernel
theorem dX12_back_16 : decode cX12_back 16 = .ok (.aload_n 0, 1) := by decide +kernel
theorem dX12_back_17 : decode cX12_back 17 = .ok (.getfield 34, 3) := by decide +kernel
theorem dX12_back_20 : decode cX12_back 20 = .ok (.iload_n 1, 1) := by decide +kernel
theorem dX12_back_21 : decode cX12_back 21 = .ok (.baload, 1) := by decide +kernel
theorem dX12_back_22 : decode cX12_back 22 = .ok (.ifCond .ne 6, 3) := by decide +kernel
theorem dX12_back_25 : decode cX12_back 25 = .ok (.bipush (-2), 2) := by decide +kernel
theorem dX12_back_27 : decode cX12_back 27 = .ok (.ireturn, 1) := by decide +kernel
theorem dX12_back_28 : decode cX12_back 28 = .ok (.iconst 0, 1) := by decide +kernel
theorem dX12_back_29 : decode cX12_back 29 = .ok (.istore_n 2, 1) := by decide +kernel
theorem dX12_back_30 : decode cX12_back 30 = .ok (.iload_n 2, 1) := by decide +kernel
theorem dX12_back_31 : decode cX12_back 31 = .ok (.bipush 25, 2) := by decide +kernel
theorem dX12_back_33 : decode cX12_back 33 = .ok (.if_icmp .ge 26, 3) := by decide +kernel
theorem dX12_back_36 : decode cX12_back 36 = .ok (.aload_n 0, 1) := by decide +kernel
theorem dX12_back_37 : decode cX12_back 37 = .ok (.getfield 28, 3) := by decide +kernel
theorem dX12_back_40 : decode cX12_back 40 = .ok (.iload_n 2, 1) := by decide +kernel
theorem dX12_back_41 : decode cX12_back 41 = .ok (.aload_n 0, 1) := by decide +kernel
theorem dX12_back_42 : decode cX12_back 42 = .ok (.getfield 31, 3) := by decide +kernel
theorem dX12_back_45 : decode cX12_back 45 = .ok (.bipush 25, 2) := by decide +kernel
theorem dX12_back_47 : decode cX12_back 47 = .ok (.iload_n 1, 1) := by decide +kernel
theorem dX12_back_48 : decode cX12_back 48 = .ok (.imul, 1) := by decide +kernel
theorem dX12_back_49 : decode cX12_back 49 = .ok (.iload_n 2, 1) := by decide +kernel
theorem dX12_back_50 : decode cX12_back 50 = .ok (.iadd, 1) := by decide +kernel
theorem dX12_back_51 : decode cX12_back 51 = .ok (.iaload, 1) := by decide +kernel
theorem dX12_back_52 : decode cX12_back 52 = .ok (.iastore, 1) := by decide +kernel
theorem dX12_back_53 : decode cX12_back 53 = .ok (.iinc 2 1, 3) := by decide +kernel
theorem dX12_back_56 : decode cX12_back 56 = .ok (.goto (-26), 3) := by decide +kernel
theorem dX12_back_59 : decode cX12_back 59 = .ok (.aload_n 0, 1) := by decide +kernel
theorem dX12_back_60 : decode cX12_back 60 = .ok (.iconst 0, 1) := by decide +kernel
theorem dX12_back_61 : decode cX12_back 61 = .ok (.putfield 128, 3) := by decide +kernel
theorem dX12_back_64 : decode cX12_back 64 = .ok (.aload_n 0, 1) := by decide +kernel
theorem dX12_back_65 : decode cX12_back 65 = .ok (.getfield 28, 3) := by decide +kernel
theorem dX12_back_68 : decode cX12_back 68 = .ok (.iconst 0, 1) := by decide +kernel
theorem dX12_back_69 : decode cX12_back 69 = .ok (.iaload, 1) := by decide +kernel
theorem dX12_back_70 : decode cX12_back 70 = .ok (.ireturn, 1) := by decide +kernel
theorem dX12_count_0 : decode cX12_count 0 = .ok (.aload_n 0, 1) := by decide +kernel
theorem dX12_count_1 : decode cX12_count 1 = .ok (.iconst 0, 1) := by decide +kernel
theorem dX12_count_2 : decode cX12_count 2 = .ok (.putfield 65, 3) := by decide +kernel
theorem dX12_count_5 : decode cX12_count 5 = .ok (.iload_n 1, 1) := by decide +kernel
theorem dX12_count_6 : decode cX12_count 6 = .ok (.iconst 0, 1) := by decide +kernel
theorem dX12_count_7 : decode cX12_count 7 = .ok (.iconst 2, 1) := by decide +kernel
theorem dX12_count_8 : decode cX12_count 8 = .ok (.invokestatic 69, 3) := by decide +kernel
theorem dX12_count_11 : decode cX12_count 11 = .ok (.ifCond .eq 12, 3) := by decide +kernel
theorem dX12_count_14 : decode cX12_count 14 = .ok (.aload_n 0, 1) := by decide +kernel
theorem dX12_count_15 : decode cX12_count 15 = .ok (.getfield 13, 3) := by decide +kernel
theorem dX12_count_18 : decode cX12_count 18 = .ok (.iload_n 1, 1) := by decide +kernel
theorem dX12_count_19 : decode cX12_count 19 = .ok (.iaload, 1) := by decide +kernel
theorem dX12_count_20 : decode cX12_count 20 = .ok (.goto 28, 3) := by decide +kernel
theorem dX12_count_23 : decode cX12_count 23 = .ok (.iload_n 1, 1) := by decide +kernel
theorem dX12_count_24 : decode cX12_count 24 = .ok (.iconst 3, 1) := by decide +kernel
theorem dX12_count_25 : decode cX12_count 25 = .ok (.if_icmp .ne 10, 3) := by decide +kernel
theorem dX12_count_28 : decode cX12_count 28 = .ok (.aload_n 0, 1) := by decide +kernel
theorem dX12_count_29 : decode cX12_count 29 = .ok (.getfield 125, 3) := by decide +kernel
theorem dX12_count_32 : decode cX12_count 32 = .ok (.goto 16, 3) := by decide +kernel
theorem dX12_count_35 : decode cX12_count 35 = .ok (.iload_n 1, 1) := by decide +kernel
theorem dX12_count_36 : decode cX12_count 36 = .ok (.iconst 4, 1) := by decide +kernel
theorem dX12_count_37 : decode cX12_count 37 = .ok (.if_icmp .ne 10, 3) := by decide +kernel
theorem dX12_count_40 : decode cX12_count 40 = .ok (.aload_n 0, 1) := by decide +kernel
theorem dX12_count_41 : decode cX12_count 41 = .ok (.getfield 73, 3) := by decide +kernel
theorem dX12_count_44 : decode cX12_count 44 = .ok (.goto 4, 3) := by decide +kernel
theorem dX12_count_47 : decode cX12_count 47 = .ok (.iconst (-1), 1) := by decide +kernel
theorem dX12_count_48 : decode cX12_count 48 = .ok (.ireturn, 1) := by decide +kernel
theorem dX12_trace_0 : decode cX12_trace 0 = .ok (.aload_n 0, 1) := by decide +kernel
theorem dX12_trace_1 : decode cX12_trace 1 = .ok (.iconst 0, 1) := by decide +kernel
theorem dX12_trace_2 : decode cX12_trace 2 = .ok (.putfield 65, 3) := by decide +kernel
theorem dX12_trace_5 : decode cX12_trace 5 = .ok (.aload_n 0, 1) := by decide +kernel
theorem dX12_trace_6 : decode cX12_trace 6 = .ok (.getfield 200, 3) := by decide +kernel
theorem dX12_trace_9 : decode cX12_trace 9 = .ok (.lreturn, 1) := by decide +kernel
end
section
theorem dL_law_0 : decode cL_law 0 = .ok (.new 7, 3) := by decide +kernel
theorem dL_law_3 : decode cL_law 3 = .ok (.dup, 1) := by decide +kernel
theorem dL_law_4 : decode cL_law 4 = .ok (.invokespecial 9, 3) := by decide +kernel
theorem dL_law_7 : decode cL_law 7 = .ok (.astore_n 1, 1) := by decide +kernel
theorem dL_law_8 : decode cL_law 8 = .ok (.new 10, 3) := by decide +kernel
theorem dL_law_11 : decode cL_law 11 = .ok (.dup, 1) := by decide +kernel
theorem dL_law_12 : decode cL_law 12 = .ok (.invokespecial 12, 3) := by decide +kernel
theorem dL_law_15 : decode cL_law 15 = .ok (.astore_n 2, 1) := by decide +kernel
theorem dL_law_16 : decode cL_law 16 = .ok (.iconst 0, 1) := by decide +kernel
theorem dL_law_17 : decode cL_law 17 = .ok (.istore_n 3, 1) := by decide +kernel
theorem dL_law_18 : decode cL_law 18 = .ok (.iload_n 3, 1) := by decide +kernel
theorem dL_law_19 : decode cL_law 19 = .ok (.aload_n 0, 1) := by decide +kernel
theorem dL_law_20 : decode cL_law 20 = .ok (.arraylength, 1) := by decide +kernel
theorem dL_law_21 : decode cL_law 21 = .ok (.iconst 4, 1) := by decide +kernel
theorem dL_law_22 : decode cL_law 22 = .ok (.isub, 1) := by decide +kernel
theorem dL_law_23 : decode cL_law 23 = .ok (.if_icmp .gt 750, 3) := by decide +kernel
theorem dL_law_26 : decode cL_law 26 = .ok (.aload_n 0, 1) := by decide +kernel
theorem dL_law_27 : decode cL_law 27 = .ok (.iload_n 3, 1) := by decide +kernel
theorem dL_law_28 : decode cL_law 28 = .ok (.iaload, 1) := by decide +kernel
theorem dL_law_29 : decode cL_law 29 = .ok (.bipush 31, 2) := by decide +kernel
theorem dL_law_31 : decode cL_law 31 = .ok (.iand, 1) := by decide +kernel
theorem dL_law_32 : decode cL_law 32 = .ok (.tableswitch 735 0 23 #[112, 135, 148, 161, 194, 227, 250, 283, 316, 349, 382, 395, 438, 461, 484, 527, 570, 583, 596, 619, 652, 675, 698, 721], 112) := by decide +kernel
theorem dL_law_144 : decode cL_law 144 = .ok (.aload_n 1, 1) := by decide +kernel
theorem dL_law_145 : decode cL_law 145 = .ok (.aload_n 0, 1) := by decide +kernel
theorem dL_law_146 : decode cL_law 146 = .ok (.iload_n 3, 1) := by decide +kernel
theorem dL_law_147 : decode cL_law 147 = .ok (.iconst 1, 1) := by decide +kernel
theorem dL_law_148 : decode cL_law 148 = .ok (.iadd, 1) := by decide +kernel
theorem dL_law_149 : decode cL_law 149 = .ok (.iaload, 1) := by decide +kernel
theorem dL_law_150 : decode cL_law 150 = .ok (.invokevirtual 13, 3) := by decide +kernel
theorem dL_law_153 : decode cL_law 153 = .ok (.aload_n 2, 1) := by decide +kernel
theorem dL_law_154 : decode cL_law 154 = .ok (.aload_n 0, 1) := by decide +kernel
theorem dL_law_155 : decode cL_law 155 = .ok (.iload_n 3, 1) := by decide +kernel
theorem dL_law_156 : decode cL_law 156 = .ok (.iconst 1, 1) := by decide +kernel
theorem dL_law_157 : decode cL_law 157 = .ok (.iadd, 1) := by decide +kernel
theorem dL_law_158 : decode cL_law 158 = .ok (.iaload, 1) := by decide +kernel
theorem dL_law_159 : decode cL_law 159 = .ok (.invokevirtual 17, 3) := by decide +kernel
theorem dL_law_162 : decode cL_law 162 = .ok (.if_icmp .eq 605, 3) := by decide +kernel
theorem dL_law_165 : decode cL_law 165 = .ok (.iconst 0, 1) := by decide +kernel
theorem dL_law_166 : decode cL_law 166 = .ok (.ireturn, 1) := by decide +kernel
theorem dL_law_167 : decode cL_law 167 = .ok (.aload_n 1, 1) := by decide +kernel
theorem dL_law_168 : decode cL_law 168 = .ok (.invokevirtual 18, 3) := by decide +kernel
theorem dL_law_171 : decode cL_law 171 = .ok (.aload_n 2, 1) := by decide +kernel
theorem dL_law_172 : decode cL_law 172 = .ok (.invokevirtual 22, 3) := by decide +kernel
theorem dL_law_175 : decode cL_law 175 = .ok (.if_icmp .eq 592, 3) := by decide +kernel
theorem dL_law_178 : decode cL_law 178 = .ok (.iconst 0, 1) := by decide +kernel
theorem dL_law_179 : decode cL_law 179 = .ok (.ireturn, 1) := by decide +kernel
theorem dL_law_180 : decode cL_law 180 = .ok (.aload_n 1, 1) := by decide +kernel
theorem dL_law_181 : decode cL_law 181 = .ok (.invokevirtual 23, 3) := by decide +kernel
theorem dL_law_184 : decode cL_law 184 = .ok (.aload_n 2, 1) := by decide +kernel
theorem dL_law_185 : decode cL_law 185 = .ok (.invokevirtual 26, 3) := by decide +kernel
theorem dL_law_188 : decode cL_law 188 = .ok (.if_icmp .eq 579, 3) := by decide +kernel
theorem dL_law_191 : decode cL_law 191 = .ok (.iconst 0, 1) := by decide +kernel
theorem dL_law_192 : decode cL_law 192 = .ok (.ireturn, 1) := by decide +kernel
theorem dL_law_193 : decode cL_law 193 = .ok (.aload_n 1, 1) := by decide +kernel
theorem dL_law_194 : decode cL_law 194 = .ok (.aload_n 0, 1) := by decide +kernel
theorem dL_law_195 : decode cL_law 195 = .ok (.iload_n 3, 1) := by decide +kernel
theorem dL_law_196 : decode cL_law 196 = .ok (.iconst 1, 1) := by decide +kernel
theorem dL_law_197 : decode cL_law 197 = .ok (.iadd, 1) := by decide +kernel
theorem dL_law_198 : decode cL_law 198 = .ok (.iaload, 1) := by decide +kernel
theorem dL_law_199 : decode cL_law 199 = .ok (.aload_n 0, 1) := by decide +kernel
theorem dL_law_200 : decode cL_law 200 = .ok (.iload_n 3, 1) := by decide +kernel
theorem dL_law_201 : decode cL_law 201 = .ok (.iconst 2, 1) := by decide +kernel
theorem dL_law_202 : decode cL_law 202 = .ok (.iadd, 1) := by decide +kernel
theorem dL_law_203 : decode cL_law 203 = .ok (.iaload, 1) := by decide +kernel
theorem dL_law_204 : decode cL_law 204 = .ok (.invokevirtual 27, 3) := by decide +kernel
theorem dL_law_207 : decode cL_law 207 = .ok (.aload_n 2, 1) := by decide +kernel
theorem dL_law_208 : decode cL_law 208 = .ok (.aload_n 0, 1) := by decide +kernel
theorem dL_law_209 : decode cL_law 209 = .ok (.iload_n 3, 1) := by decide +kernel
theorem dL_law_210 : decode cL_law 210 = .ok (.iconst 1, 1) := by decide +kernel
theorem dL_law_211 : decode cL_law 211 = .ok (.iadd, 1) := by decide +kernel
theorem dL_law_212 : decode cL_law 212 = .ok (.iaload, 1) := by decide +kernel
theorem dL_law_213 : decode cL_law 213 = .ok (.aload_n 0, 1) := by decide +kernel
theorem dL_law_214 : decode cL_law 214 = .ok (.iload_n 3, 1) := by decide +kernel
theorem dL_law_215 : decode cL_law 215 = .ok (.iconst 2, 1) := by decide +kernel
theorem dL_law_216 : decode cL_law 216 = .ok (.iadd, 1) := by decide +kernel
theorem dL_law_217 : decode cL_law 217 = .ok (.iaload, 1) := by decide +kernel
theorem dL_law_218 : decode cL_law 218 = .ok (.invokevirtual 31, 3) := by decide +kernel
theorem dL_law_221 : decode cL_law 221 = .ok (.if_icmp .eq 546, 3) := by decide +kernel
theorem dL_law_224 : decode cL_law 224 = .ok (.iconst 0, 1) := by decide +kernel
theorem dL_law_225 : decode cL_law 225 = .ok (.ireturn, 1) := by decide +kernel
theorem dL_law_226 : decode cL_law 226 = .ok (.aload_n 1, 1) := by decide +kernel
theorem dL_law_227 : decode cL_law 227 = .ok (.aload_n 0, 1) := by decide +kernel
theorem dL_law_228 : decode cL_law 228 = .ok (.iload_n 3, 1) := by decide +kernel
theorem dL_law_229 : decode cL_law 229 = .ok (.iconst 1, 1) := by decide +kernel
theorem dL_law_230 : decode cL_law 230 = .ok (.iadd, 1) := by decide +kernel
theorem dL_law_231 : decode cL_law 231 = .ok (.iaload, 1) := by decide +kernel
theorem dL_law_232 : decode cL_law 232 = .ok (.aload_n 0, 1) := by decide +kernel
theorem dL_law_233 : decode cL_law 233 = .ok (.iload_n 3, 1) := by decide +kernel
theorem dL_law_234 : decode cL_law 234 = .ok (.iconst 2, 1) := by decide +kernel
theorem dL_law_235 : decode cL_law 235 = .ok (.iadd, 1) := by decide +kernel
theorem dL_law_236 : decode cL_law 236 = .ok (.iaload, 1) := by decide +kernel
theorem dL_law_237 : decode cL_law 237 = .ok (.invokevirtual 32, 3) := by decide +kernel
theorem dL_law_240 : decode cL_law 240 = .ok (.aload_n 2, 1) := by decide +kernel
theorem dL_law_241 : decode cL_law 241 = .ok (.aload_n 0, 1) := by decide +kernel
theorem dL_law_242 : decode cL_law 242 = .ok (.iload_n 3, 1) := by decide +kernel
theorem dL_law_243 : decode cL_law 243 = .ok (.iconst 1, 1) := by decide +kernel
theorem dL_law_244 : decode cL_law 244 = .ok (.iadd, 1) := by decide +kernel
theorem dL_law_245 : decode cL_law 245 = .ok (.iaload, 1) := by decide +kernel
theorem dL_law_246 : decode cL_law 246 = .ok (.aload_n 0, 1) := by decide +kernel
theorem dL_law_247 : decode cL_law 247 = .ok (.iload_n 3, 1) := by decide +kernel
theorem dL_law_248 : decode cL_law 248 = .ok (.iconst 2, 1) := by decide +kernel
theorem dL_law_249 : decode cL_law 249 = .ok (.iadd, 1) := by decide +kernel
theorem dL_law_250 : decode cL_law 250 = .ok (.iaload, 1) := by decide +kernel
theorem dL_law_251 : decode cL_law 251 = .ok (.invokevirtual 35, 3) := by decide +kernel
theorem dL_law_254 : decode cL_law 254 = .ok (.if_icmp .eq 513, 3) := by decide +kernel
theorem dL_law_257 : decode cL_law 257 = .ok (.iconst 0, 1) := by decide +kernel
theorem dL_law_258 : decode cL_law 258 = .ok (.ireturn, 1) := by decide +kernel
theorem dL_law_259 : decode cL_law 259 = .ok (.aload_n 1, 1) := by decide +kernel
theorem dL_law_260 : decode cL_law 260 = .ok (.aload_n 0, 1) := by decide +kernel
theorem dL_law_261 : decode cL_law 261 = .ok (.iload_n 3, 1) := by decide +kernel
theorem dL_law_262 : decode cL_law 262 = .ok (.iconst 1, 1) := by decide +kernel
theorem dL_law_263 : decode cL_law 263 = .ok (.iadd, 1) := by decide +kernel
theorem dL_law_264 : decode cL_law 264 = .ok (.iaload, 1) := by decide +kernel
theorem dL_law_265 : decode cL_law 265 = .ok (.invokevirtual 36, 3) := by decide +kernel
theorem dL_law_268 : decode cL_law 268 = .ok (.aload_n 2, 1) := by decide +kernel
theorem dL_law_269 : decode cL_law 269 = .ok (.aload_n 0, 1) := by decide +kernel
theorem dL_law_270 : decode cL_law 270 = .ok (.iload_n 3, 1) := by decide +kernel
theorem dL_law_271 : decode cL_law 271 = .ok (.iconst 1, 1) := by decide +kernel
theorem dL_law_272 : decode cL_law 272 = .ok (.iadd, 1) := by decide +kernel
theorem dL_law_273 : decode cL_law 273 = .ok (.iaload, 1) := by decide +kernel
theorem dL_law_274 : decode cL_law 274 = .ok (.invokevirtual 39, 3) := by decide +kernel
theorem dL_law_277 : decode cL_law 277 = .ok (.if_icmp .eq 490, 3) := by decide +kernel
theorem dL_law_280 : decode cL_law 280 = .ok (.iconst 0, 1) := by decide +kernel
theorem dL_law_281 : decode cL_law 281 = .ok (.ireturn, 1) := by decide +kernel
theorem dL_law_282 : decode cL_law 282 = .ok (.aload_n 1, 1) := by decide +kernel
theorem dL_law_283 : decode cL_law 283 = .ok (.aload_n 0, 1) := by decide +kernel
theorem dL_law_284 : decode cL_law 284 = .ok (.iload_n 3, 1) := by decide +kernel
theorem dL_law_285 : decode cL_law 285 = .ok (.iconst 1, 1) := by decide +kernel
theorem dL_law_286 : decode cL_law 286 = .ok (.iadd, 1) := by decide +kernel
theorem dL_law_287 : decode cL_law 287 = .ok (.iaload, 1) := by decide +kernel
theorem dL_law_288 : decode cL_law 288 = .ok (.aload_n 0, 1) := by decide +kernel
theorem dL_law_289 : decode cL_law 289 = .ok (.iload_n 3, 1) := by decide +kernel
theorem dL_law_290 : decode cL_law 290 = .ok (.iconst 2, 1) := by decide +kernel
theorem dL_law_291 : decode cL_law 291 = .ok (.iadd, 1) := by decide +kernel
theorem dL_law_292 : decode cL_law 292 = .ok (.iaload, 1) := by decide +kernel
theorem dL_law_293 : decode cL_law 293 = .ok (.invokevirtual 40, 3) := by decide +kernel
theorem dL_law_296 : decode cL_law 296 = .ok (.aload_n 2, 1) := by decide +kernel
theorem dL_law_297 : decode cL_law 297 = .ok (.aload_n 0, 1) := by decide +kernel
theorem dL_law_298 : decode cL_law 298 = .ok (.iload_n 3, 1) := by decide +kernel
theorem dL_law_299 : decode cL_law 299 = .ok (.iconst 1, 1) := by decide +kernel
theorem dL_law_300 : decode cL_law 300 = .ok (.iadd, 1) := by decide +kernel
theorem dL_law_301 : decode cL_law 301 = .ok (.iaload, 1) := by decide +kernel
theorem dL_law_302 : decode cL_law 302 = .ok (.aload_n 0, 1) := by decide +kernel
theorem dL_law_303 : decode cL_law 303 = .ok (.iload_n 3, 1) := by decide +kernel
theorem dL_law_304 : decode cL_law 304 = .ok (.iconst 2, 1) := by decide +kernel
theorem dL_law_305 : decode cL_law 305 = .ok (.iadd, 1) := by decide +kernel
theorem dL_law_306 : decode cL_law 306 = .ok (.iaload, 1) := by decide +kernel
theorem dL_law_307 : decode cL_law 307 = .ok (.invokevirtual 43, 3) := by decide +kernel
theorem dL_law_310 : decode cL_law 310 = .ok (.if_icmp .eq 457, 3) := by decide +kernel
theorem dL_law_313 : decode cL_law 313 = .ok (.iconst 0, 1) := by decide +kernel
theorem dL_law_314 : decode cL_law 314 = .ok (.ireturn, 1) := by decide +kernel
theorem dL_law_315 : decode cL_law 315 = .ok (.aload_n 1, 1) := by decide +kernel
theorem dL_law_316 : decode cL_law 316 = .ok (.aload_n 0, 1) := by decide +kernel
theorem dL_law_317 : decode cL_law 317 = .ok (.iload_n 3, 1) := by decide +kernel
theorem dL_law_318 : decode cL_law 318 = .ok (.iconst 1, 1) := by decide +kernel
theorem dL_law_319 : decode cL_law 319 = .ok (.iadd, 1) := by decide +kernel
theorem dL_law_320 : decode cL_law 320 = .ok (.iaload, 1) := by decide +kernel
theorem dL_law_321 : decode cL_law 321 = .ok (.aload_n 0, 1) := by decide +kernel
theorem dL_law_322 : decode cL_law 322 = .ok (.iload_n 3, 1) := by decide +kernel
theorem dL_law_323 : decode cL_law 323 = .ok (.iconst 2, 1) := by decide +kernel
theorem dL_law_324 : decode cL_law 324 = .ok (.iadd, 1) := by decide +kernel
theorem dL_law_325 : decode cL_law 325 = .ok (.iaload, 1) := by decide +kernel
theorem dL_law_326 : decode cL_law 326 = .ok (.invokevirtual 44, 3) := by decide +kernel
theorem dL_law_329 : decode cL_law 329 = .ok (.aload_n 2, 1) := by decide +kernel
theorem dL_law_330 : decode cL_law 330 = .ok (.aload_n 0, 1) := by decide +kernel
theorem dL_law_331 : decode cL_law 331 = .ok (.iload_n 3, 1) := by decide +kernel
theorem dL_law_332 : decode cL_law 332 = .ok (.iconst 1, 1) := by decide +kernel
theorem dL_law_333 : decode cL_law 333 = .ok (.iadd, 1) := by decide +kernel
theorem dL_law_334 : decode cL_law 334 = .ok (.iaload, 1) := by decide +kernel
theorem dL_law_335 : decode cL_law 335 = .ok (.aload_n 0, 1) := by decide +kernel
theorem dL_law_336 : decode cL_law 336 = .ok (.iload_n 3, 1) := by decide +kernel
theorem dL_law_337 : decode cL_law 337 = .ok (.iconst 2, 1) := by decide +kernel
theorem dL_law_338 : decode cL_law 338 = .ok (.iadd, 1) := by decide +kernel
theorem dL_law_339 : decode cL_law 339 = .ok (.iaload, 1) := by decide +kernel
theorem dL_law_340 : decode cL_law 340 = .ok (.invokevirtual 47, 3) := by decide +kernel
theorem dL_law_343 : decode cL_law 343 = .ok (.if_icmp .eq 424, 3) := by decide +kernel
theorem dL_law_346 : decode cL_law 346 = .ok (.iconst 0, 1) := by decide +kernel
theorem dL_law_347 : decode cL_law 347 = .ok (.ireturn, 1) := by decide +kernel
theorem dL_law_348 : decode cL_law 348 = .ok (.aload_n 1, 1) := by decide +kernel
theorem dL_law_349 : decode cL_law 349 = .ok (.aload_n 0, 1) := by decide +kernel
theorem dL_law_350 : decode cL_law 350 = .ok (.iload_n 3, 1) := by decide +kernel
theorem dL_law_351 : decode cL_law 351 = .ok (.iconst 1, 1) := by decide +kernel
theorem dL_law_352 : decode cL_law 352 = .ok (.iadd, 1) := by decide +kernel
theorem dL_law_353 : decode cL_law 353 = .ok (.iaload, 1) := by decide +kernel
theorem dL_law_354 : decode cL_law 354 = .ok (.aload_n 0, 1) := by decide +kernel
theorem dL_law_355 : decode cL_law 355 = .ok (.iload_n 3, 1) := by decide +kernel
theorem dL_law_356 : decode cL_law 356 = .ok (.iconst 2, 1) := by decide +kernel
theorem dL_law_357 : decode cL_law 357 = .ok (.iadd, 1) := by decide +kernel
theorem dL_law_358 : decode cL_law 358 = .ok (.iaload, 1) := by decide +kernel
theorem dL_law_359 : decode cL_law 359 = .ok (.invokevirtual 48, 3) := by decide +kernel
theorem dL_law_362 : decode cL_law 362 = .ok (.aload_n 2, 1) := by decide +kernel
theorem dL_law_363 : decode cL_law 363 = .ok (.aload_n 0, 1) := by decide +kernel
theorem dL_law_364 : decode cL_law 364 = .ok (.iload_n 3, 1) := by decide +kernel
theorem dL_law_365 : decode cL_law 365 = .ok (.iconst 1, 1) := by decide +kernel
theorem dL_law_366 : decode cL_law 366 = .ok (.iadd, 1) := by decide +kernel
theorem dL_law_367 : decode cL_law 367 = .ok (.iaload, 1) := by decide +kernel
theorem dL_law_368 : decode cL_law 368 = .ok (.aload_n 0, 1) := by decide +kernel
theorem dL_law_369 : decode cL_law 369 = .ok (.iload_n 3, 1) := by decide +kernel
theorem dL_law_370 : decode cL_law 370 = .ok (.iconst 2, 1) := by decide +kernel
theorem dL_law_371 : decode cL_law 371 = .ok (.iadd, 1) := by decide +kernel
theorem dL_law_372 : decode cL_law 372 = .ok (.iaload, 1) := by decide +kernel
theorem dL_law_373 : decode cL_law 373 = .ok (.invokevirtual 51, 3) := by decide +kernel
theorem dL_law_376 : decode cL_law 376 = .ok (.if_icmp .eq 391, 3) := by decide +kernel
theorem dL_law_379 : decode cL_law 379 = .ok (.iconst 0, 1) := by decide +kernel
theorem dL_law_380 : decode cL_law 380 = .ok (.ireturn, 1) := by decide +kernel
theorem dL_law_381 : decode cL_law 381 = .ok (.aload_n 1, 1) := by decide +kernel
theorem dL_law_382 : decode cL_law 382 = .ok (.aload_n 0, 1) := by decide +kernel
theorem dL_law_383 : decode cL_law 383 = .ok (.iload_n 3, 1) := by decide +kernel
theorem dL_law_384 : decode cL_law 384 = .ok (.iconst 1, 1) := by decide +kernel
theorem dL_law_385 : decode cL_law 385 = .ok (.iadd, 1) := by decide +kernel
theorem dL_law_386 : decode cL_law 386 = .ok (.iaload, 1) := by decide +kernel
theorem dL_law_387 : decode cL_law 387 = .ok (.aload_n 0, 1) := by decide +kernel
theorem dL_law_388 : decode cL_law 388 = .ok (.iload_n 3, 1) := by decide +kernel
theorem dL_law_389 : decode cL_law 389 = .ok (.iconst 2, 1) := by decide +kernel
theorem dL_law_390 : decode cL_law 390 = .ok (.iadd, 1) := by decide +kernel
theorem dL_law_391 : decode cL_law 391 = .ok (.iaload, 1) := by decide +kernel
theorem dL_law_392 : decode cL_law 392 = .ok (.invokevirtual 52, 3) := by decide +kernel
theorem dL_law_395 : decode cL_law 395 = .ok (.aload_n 2, 1) := by decide +kernel
theorem dL_law_396 : decode cL_law 396 = .ok (.aload_n 0, 1) := by decide +kernel
theorem dL_law_397 : decode cL_law 397 = .ok (.iload_n 3, 1) := by decide +kernel
theorem dL_law_398 : decode cL_law 398 = .ok (.iconst 1, 1) := by decide +kernel
theorem dL_law_399 : decode cL_law 399 = .ok (.iadd, 1) := by decide +kernel
theorem dL_law_400 : decode cL_law 400 = .ok (.iaload, 1) := by decide +kernel
theorem dL_law_401 : decode cL_law 401 = .ok (.aload_n 0, 1) := by decide +kernel
theorem dL_law_402 : decode cL_law 402 = .ok (.iload_n 3, 1) := by decide +kernel
theorem dL_law_403 : decode cL_law 403 = .ok (.iconst 2, 1) := by decide +kernel
theorem dL_law_404 : decode cL_law 404 = .ok (.iadd, 1) := by decide +kernel
theorem dL_law_405 : decode cL_law 405 = .ok (.iaload, 1) := by decide +kernel
theorem dL_law_406 : decode cL_law 406 = .ok (.invokevirtual 55, 3) := by decide +kernel
theorem dL_law_409 : decode cL_law 409 = .ok (.if_icmp .eq 358, 3) := by decide +kernel
theorem dL_law_412 : decode cL_law 412 = .ok (.iconst 0, 1) := by decide +kernel
theorem dL_law_413 : decode cL_law 413 = .ok (.ireturn, 1) := by decide +kernel
theorem dL_law_414 : decode cL_law 414 = .ok (.aload_n 1, 1) := by decide +kernel
theorem dL_law_415 : decode cL_law 415 = .ok (.invokevirtual 56, 3) := by decide +kernel
theorem dL_law_418 : decode cL_law 418 = .ok (.aload_n 2, 1) := by decide +kernel
theorem dL_law_419 : decode cL_law 419 = .ok (.invokevirtual 59, 3) := by decide +kernel
theorem dL_law_422 : decode cL_law 422 = .ok (.if_icmp .eq 345, 3) := by decide +kernel
theorem dL_law_425 : decode cL_law 425 = .ok (.iconst 0, 1) := by decide +kernel
theorem dL_law_426 : decode cL_law 426 = .ok (.ireturn, 1) := by decide +kernel
theorem dL_law_427 : decode cL_law 427 = .ok (.aload_n 1, 1) := by decide +kernel
theorem dL_law_428 : decode cL_law 428 = .ok (.aload_n 0, 1) := by decide +kernel
theorem dL_law_429 : decode cL_law 429 = .ok (.iload_n 3, 1) := by decide +kernel
theorem dL_law_430 : decode cL_law 430 = .ok (.iconst 1, 1) := by decide +kernel
theorem dL_law_431 : decode cL_law 431 = .ok (.iadd, 1) := by decide +kernel
theorem dL_law_432 : decode cL_law 432 = .ok (.iaload, 1) := by decide +kernel
theorem dL_law_433 : decode cL_law 433 = .ok (.aload_n 0, 1) := by decide +kernel
theorem dL_law_434 : decode cL_law 434 = .ok (.iload_n 3, 1) := by decide +kernel
theorem dL_law_435 : decode cL_law 435 = .ok (.iconst 2, 1) := by decide +kernel
theorem dL_law_436 : decode cL_law 436 = .ok (.iadd, 1) := by decide +kernel
theorem dL_law_437 : decode cL_law 437 = .ok (.iaload, 1) := by decide +kernel
theorem dL_law_438 : decode cL_law 438 = .ok (.aload_n 0, 1) := by decide +kernel
theorem dL_law_439 : decode cL_law 439 = .ok (.iload_n 3, 1) := by decide +kernel
theorem dL_law_440 : decode cL_law 440 = .ok (.iconst 3, 1) := by decide +kernel
theorem dL_law_441 : decode cL_law 441 = .ok (.iadd, 1) := by decide +kernel
theorem dL_law_442 : decode cL_law 442 = .ok (.iaload, 1) := by decide +kernel
theorem dL_law_443 : decode cL_law 443 = .ok (.invokevirtual 60, 3) := by decide +kernel
theorem dL_law_446 : decode cL_law 446 = .ok (.aload_n 2, 1) := by decide +kernel
theorem dL_law_447 : decode cL_law 447 = .ok (.aload_n 0, 1) := by decide +kernel
theorem dL_law_448 : decode cL_law 448 = .ok (.iload_n 3, 1) := by decide +kernel
theorem dL_law_449 : decode cL_law 449 = .ok (.iconst 1, 1) := by decide +kernel
theorem dL_law_450 : decode cL_law 450 = .ok (.iadd, 1) := by decide +kernel
theorem dL_law_451 : decode cL_law 451 = .ok (.iaload, 1) := by decide +kernel
theorem dL_law_452 : decode cL_law 452 = .ok (.aload_n 0, 1) := by decide +kernel
theorem dL_law_453 : decode cL_law 453 = .ok (.iload_n 3, 1) := by decide +kernel
theorem dL_law_454 : decode cL_law 454 = .ok (.iconst 2, 1) := by decide +kernel
theorem dL_law_455 : decode cL_law 455 = .ok (.iadd, 1) := by decide +kernel
theorem dL_law_456 : decode cL_law 456 = .ok (.iaload, 1) := by decide +kernel
theorem dL_law_457 : decode cL_law 457 = .ok (.aload_n 0, 1) := by decide +kernel
theorem dL_law_458 : decode cL_law 458 = .ok (.iload_n 3, 1) := by decide +kernel
theorem dL_law_459 : decode cL_law 459 = .ok (.iconst 3, 1) := by decide +kernel
theorem dL_law_460 : decode cL_law 460 = .ok (.iadd, 1) := by decide +kernel
theorem dL_law_461 : decode cL_law 461 = .ok (.iaload, 1) := by decide +kernel
theorem dL_law_462 : decode cL_law 462 = .ok (.invokevirtual 64, 3) := by decide +kernel
theorem dL_law_465 : decode cL_law 465 = .ok (.if_icmp .eq 302, 3) := by decide +kernel
theorem dL_law_468 : decode cL_law 468 = .ok (.iconst 0, 1) := by decide +kernel
theorem dL_law_469 : decode cL_law 469 = .ok (.ireturn, 1) := by decide +kernel
theorem dL_law_470 : decode cL_law 470 = .ok (.aload_n 1, 1) := by decide +kernel
theorem dL_law_471 : decode cL_law 471 = .ok (.aload_n 0, 1) := by decide +kernel
theorem dL_law_472 : decode cL_law 472 = .ok (.iload_n 3, 1) := by decide +kernel
theorem dL_law_473 : decode cL_law 473 = .ok (.iconst 1, 1) := by decide +kernel
theorem dL_law_474 : decode cL_law 474 = .ok (.iadd, 1) := by decide +kernel
theorem dL_law_475 : decode cL_law 475 = .ok (.iaload, 1) := by decide +kernel
theorem dL_law_476 : decode cL_law 476 = .ok (.invokevirtual 65, 3) := by decide +kernel
theorem dL_law_479 : decode cL_law 479 = .ok (.aload_n 2, 1) := by decide +kernel
theorem dL_law_480 : decode cL_law 480 = .ok (.aload_n 0, 1) := by decide +kernel
theorem dL_law_481 : decode cL_law 481 = .ok (.iload_n 3, 1) := by decide +kernel
theorem dL_law_482 : decode cL_law 482 = .ok (.iconst 1, 1) := by decide +kernel
theorem dL_law_483 : decode cL_law 483 = .ok (.iadd, 1) := by decide +kernel
theorem dL_law_484 : decode cL_law 484 = .ok (.iaload, 1) := by decide +kernel
theorem dL_law_485 : decode cL_law 485 = .ok (.invokevirtual 68, 3) := by decide +kernel
theorem dL_law_488 : decode cL_law 488 = .ok (.if_icmp .eq 279, 3) := by decide +kernel
theorem dL_law_491 : decode cL_law 491 = .ok (.iconst 0, 1) := by decide +kernel
theorem dL_law_492 : decode cL_law 492 = .ok (.ireturn, 1) := by decide +kernel
theorem dL_law_493 : decode cL_law 493 = .ok (.aload_n 1, 1) := by decide +kernel
theorem dL_law_494 : decode cL_law 494 = .ok (.aload_n 0, 1) := by decide +kernel
theorem dL_law_495 : decode cL_law 495 = .ok (.iload_n 3, 1) := by decide +kernel
theorem dL_law_496 : decode cL_law 496 = .ok (.iconst 1, 1) := by decide +kernel
theorem dL_law_497 : decode cL_law 497 = .ok (.iadd, 1) := by decide +kernel
theorem dL_law_498 : decode cL_law 498 = .ok (.iaload, 1) := by decide +kernel
theorem dL_law_499 : decode cL_law 499 = .ok (.invokevirtual 69, 3) := by decide +kernel
theorem dL_law_502 : decode cL_law 502 = .ok (.aload_n 2, 1) := by decide +kernel
theorem dL_law_503 : decode cL_law 503 = .ok (.aload_n 0, 1) := by decide +kernel
theorem dL_law_504 : decode cL_law 504 = .ok (.iload_n 3, 1) := by decide +kernel
theorem dL_law_505 : decode cL_law 505 = .ok (.iconst 1, 1) := by decide +kernel
theorem dL_law_506 : decode cL_law 506 = .ok (.iadd, 1) := by decide +kernel
theorem dL_law_507 : decode cL_law 507 = .ok (.iaload, 1) := by decide +kernel
theorem dL_law_508 : decode cL_law 508 = .ok (.invokevirtual 72, 3) := by decide +kernel
theorem dL_law_511 : decode cL_law 511 = .ok (.if_icmp .eq 256, 3) := by decide +kernel
theorem dL_law_514 : decode cL_law 514 = .ok (.iconst 0, 1) := by decide +kernel
theorem dL_law_515 : decode cL_law 515 = .ok (.ireturn, 1) := by decide +kernel
theorem dL_law_516 : decode cL_law 516 = .ok (.aload_n 1, 1) := by decide +kernel
theorem dL_law_517 : decode cL_law 517 = .ok (.aload_n 0, 1) := by decide +kernel
theorem dL_law_518 : decode cL_law 518 = .ok (.iload_n 3, 1) := by decide +kernel
theorem dL_law_519 : decode cL_law 519 = .ok (.iconst 1, 1) := by decide +kernel
theorem dL_law_520 : decode cL_law 520 = .ok (.iadd, 1) := by decide +kernel
theorem dL_law_521 : decode cL_law 521 = .ok (.iaload, 1) := by decide +kernel
theorem dL_law_522 : decode cL_law 522 = .ok (.aload_n 0, 1) := by decide +kernel
theorem dL_law_523 : decode cL_law 523 = .ok (.iload_n 3, 1) := by decide +kernel
theorem dL_law_524 : decode cL_law 524 = .ok (.iconst 2, 1) := by decide +kernel
theorem dL_law_525 : decode cL_law 525 = .ok (.iadd, 1) := by decide +kernel
theorem dL_law_526 : decode cL_law 526 = .ok (.iaload, 1) := by decide +kernel
theorem dL_law_527 : decode cL_law 527 = .ok (.aload_n 0, 1) := by decide +kernel
theorem dL_law_528 : decode cL_law 528 = .ok (.iload_n 3, 1) := by decide +kernel
theorem dL_law_529 : decode cL_law 529 = .ok (.iconst 3, 1) := by decide +kernel
theorem dL_law_530 : decode cL_law 530 = .ok (.iadd, 1) := by decide +kernel
theorem dL_law_531 : decode cL_law 531 = .ok (.iaload, 1) := by decide +kernel
theorem dL_law_532 : decode cL_law 532 = .ok (.invokevirtual 73, 3) := by decide +kernel
theorem dL_law_535 : decode cL_law 535 = .ok (.aload_n 2, 1) := by decide +kernel
theorem dL_law_536 : decode cL_law 536 = .ok (.aload_n 0, 1) := by decide +kernel
theorem dL_law_537 : decode cL_law 537 = .ok (.iload_n 3, 1) := by decide +kernel
theorem dL_law_538 : decode cL_law 538 = .ok (.iconst 1, 1) := by decide +kernel
theorem dL_law_539 : decode cL_law 539 = .ok (.iadd, 1) := by decide +kernel
theorem dL_law_540 : decode cL_law 540 = .ok (.iaload, 1) := by decide +kernel
theorem dL_law_541 : decode cL_law 541 = .ok (.aload_n 0, 1) := by decide +kernel
theorem dL_law_542 : decode cL_law 542 = .ok (.iload_n 3, 1) := by decide +kernel
theorem dL_law_543 : decode cL_law 543 = .ok (.iconst 2, 1) := by decide +kernel
theorem dL_law_544 : decode cL_law 544 = .ok (.iadd, 1) := by decide +kernel
theorem dL_law_545 : decode cL_law 545 = .ok (.iaload, 1) := by decide +kernel
theorem dL_law_546 : decode cL_law 546 = .ok (.aload_n 0, 1) := by decide +kernel
theorem dL_law_547 : decode cL_law 547 = .ok (.iload_n 3, 1) := by decide +kernel
theorem dL_law_548 : decode cL_law 548 = .ok (.iconst 3, 1) := by decide +kernel
theorem dL_law_549 : decode cL_law 549 = .ok (.iadd, 1) := by decide +kernel
theorem dL_law_550 : decode cL_law 550 = .ok (.iaload, 1) := by decide +kernel
theorem dL_law_551 : decode cL_law 551 = .ok (.invokevirtual 76, 3) := by decide +kernel
theorem dL_law_554 : decode cL_law 554 = .ok (.if_icmp .eq 213, 3) := by decide +kernel
theorem dL_law_557 : decode cL_law 557 = .ok (.iconst 0, 1) := by decide +kernel
theorem dL_law_558 : decode cL_law 558 = .ok (.ireturn, 1) := by decide +kernel
theorem dL_law_559 : decode cL_law 559 = .ok (.aload_n 1, 1) := by decide +kernel
theorem dL_law_560 : decode cL_law 560 = .ok (.aload_n 0, 1) := by decide +kernel
theorem dL_law_561 : decode cL_law 561 = .ok (.iload_n 3, 1) := by decide +kernel
theorem dL_law_562 : decode cL_law 562 = .ok (.iconst 1, 1) := by decide +kernel
theorem dL_law_563 : decode cL_law 563 = .ok (.iadd, 1) := by decide +kernel
theorem dL_law_564 : decode cL_law 564 = .ok (.iaload, 1) := by decide +kernel
theorem dL_law_565 : decode cL_law 565 = .ok (.aload_n 0, 1) := by decide +kernel
theorem dL_law_566 : decode cL_law 566 = .ok (.iload_n 3, 1) := by decide +kernel
theorem dL_law_567 : decode cL_law 567 = .ok (.iconst 2, 1) := by decide +kernel
theorem dL_law_568 : decode cL_law 568 = .ok (.iadd, 1) := by decide +kernel
theorem dL_law_569 : decode cL_law 569 = .ok (.iaload, 1) := by decide +kernel
theorem dL_law_570 : decode cL_law 570 = .ok (.aload_n 0, 1) := by decide +kernel
theorem dL_law_571 : decode cL_law 571 = .ok (.iload_n 3, 1) := by decide +kernel
theorem dL_law_572 : decode cL_law 572 = .ok (.iconst 3, 1) := by decide +kernel
theorem dL_law_573 : decode cL_law 573 = .ok (.iadd, 1) := by decide +kernel
theorem dL_law_574 : decode cL_law 574 = .ok (.iaload, 1) := by decide +kernel
theorem dL_law_575 : decode cL_law 575 = .ok (.invokevirtual 77, 3) := by decide +kernel
theorem dL_law_578 : decode cL_law 578 = .ok (.aload_n 2, 1) := by decide +kernel
theorem dL_law_579 : decode cL_law 579 = .ok (.aload_n 0, 1) := by decide +kernel
theorem dL_law_580 : decode cL_law 580 = .ok (.iload_n 3, 1) := by decide +kernel
theorem dL_law_581 : decode cL_law 581 = .ok (.iconst 1, 1) := by decide +kernel
theorem dL_law_582 : decode cL_law 582 = .ok (.iadd, 1) := by decide +kernel
theorem dL_law_583 : decode cL_law 583 = .ok (.iaload, 1) := by decide +kernel
theorem dL_law_584 : decode cL_law 584 = .ok (.aload_n 0, 1) := by decide +kernel
theorem dL_law_585 : decode cL_law 585 = .ok (.iload_n 3, 1) := by decide +kernel
theorem dL_law_586 : decode cL_law 586 = .ok (.iconst 2, 1) := by decide +kernel
theorem dL_law_587 : decode cL_law 587 = .ok (.iadd, 1) := by decide +kernel
theorem dL_law_588 : decode cL_law 588 = .ok (.iaload, 1) := by decide +kernel
theorem dL_law_589 : decode cL_law 589 = .ok (.aload_n 0, 1) := by decide +kernel
theorem dL_law_590 : decode cL_law 590 = .ok (.iload_n 3, 1) := by decide +kernel
theorem dL_law_591 : decode cL_law 591 = .ok (.iconst 3, 1) := by decide +kernel
theorem dL_law_592 : decode cL_law 592 = .ok (.iadd, 1) := by decide +kernel
theorem dL_law_593 : decode cL_law 593 = .ok (.iaload, 1) := by decide +kernel
theorem dL_law_594 : decode cL_law 594 = .ok (.invokevirtual 80, 3) := by decide +kernel
theorem dL_law_597 : decode cL_law 597 = .ok (.if_icmp .eq 170, 3) := by decide +kernel
theorem dL_law_600 : decode cL_law 600 = .ok (.iconst 0, 1) := by decide +kernel
theorem dL_law_601 : decode cL_law 601 = .ok (.ireturn, 1) := by decide +kernel
theorem dL_law_602 : decode cL_law 602 = .ok (.aload_n 1, 1) := by decide +kernel
theorem dL_law_603 : decode cL_law 603 = .ok (.invokevirtual 81, 3) := by decide +kernel
theorem dL_law_606 : decode cL_law 606 = .ok (.aload_n 2, 1) := by decide +kernel
theorem dL_law_607 : decode cL_law 607 = .ok (.invokevirtual 84, 3) := by decide +kernel
theorem dL_law_610 : decode cL_law 610 = .ok (.if_icmp .eq 157, 3) := by decide +kernel
theorem dL_law_613 : decode cL_law 613 = .ok (.iconst 0, 1) := by decide +kernel
theorem dL_law_614 : decode cL_law 614 = .ok (.ireturn, 1) := by decide +kernel
theorem dL_law_615 : decode cL_law 615 = .ok (.aload_n 1, 1) := by decide +kernel
theorem dL_law_616 : decode cL_law 616 = .ok (.invokevirtual 85, 3) := by decide +kernel
theorem dL_law_619 : decode cL_law 619 = .ok (.aload_n 2, 1) := by decide +kernel
theorem dL_law_620 : decode cL_law 620 = .ok (.invokevirtual 88, 3) := by decide +kernel
theorem dL_law_623 : decode cL_law 623 = .ok (.if_icmp .eq 144, 3) := by decide +kernel
theorem dL_law_626 : decode cL_law 626 = .ok (.iconst 0, 1) := by decide +kernel
theorem dL_law_627 : decode cL_law 627 = .ok (.ireturn, 1) := by decide +kernel
theorem dL_law_628 : decode cL_law 628 = .ok (.aload_n 1, 1) := by decide +kernel
theorem dL_law_629 : decode cL_law 629 = .ok (.aload_n 0, 1) := by decide +kernel
theorem dL_law_630 : decode cL_law 630 = .ok (.iload_n 3, 1) := by decide +kernel
theorem dL_law_631 : decode cL_law 631 = .ok (.iconst 1, 1) := by decide +kernel
theorem dL_law_632 : decode cL_law 632 = .ok (.iadd, 1) := by decide +kernel
theorem dL_law_633 : decode cL_law 633 = .ok (.iaload, 1) := by decide +kernel
theorem dL_law_634 : decode cL_law 634 = .ok (.invokevirtual 89, 3) := by decide +kernel
theorem dL_law_637 : decode cL_law 637 = .ok (.aload_n 2, 1) := by decide +kernel
theorem dL_law_638 : decode cL_law 638 = .ok (.aload_n 0, 1) := by decide +kernel
theorem dL_law_639 : decode cL_law 639 = .ok (.iload_n 3, 1) := by decide +kernel
theorem dL_law_640 : decode cL_law 640 = .ok (.iconst 1, 1) := by decide +kernel
theorem dL_law_641 : decode cL_law 641 = .ok (.iadd, 1) := by decide +kernel
theorem dL_law_642 : decode cL_law 642 = .ok (.iaload, 1) := by decide +kernel
theorem dL_law_643 : decode cL_law 643 = .ok (.invokevirtual 92, 3) := by decide +kernel
theorem dL_law_646 : decode cL_law 646 = .ok (.if_icmp .eq 121, 3) := by decide +kernel
theorem dL_law_649 : decode cL_law 649 = .ok (.iconst 0, 1) := by decide +kernel
theorem dL_law_650 : decode cL_law 650 = .ok (.ireturn, 1) := by decide +kernel
theorem dL_law_651 : decode cL_law 651 = .ok (.aload_n 1, 1) := by decide +kernel
theorem dL_law_652 : decode cL_law 652 = .ok (.aload_n 0, 1) := by decide +kernel
theorem dL_law_653 : decode cL_law 653 = .ok (.iload_n 3, 1) := by decide +kernel
theorem dL_law_654 : decode cL_law 654 = .ok (.iconst 1, 1) := by decide +kernel
theorem dL_law_655 : decode cL_law 655 = .ok (.iadd, 1) := by decide +kernel
theorem dL_law_656 : decode cL_law 656 = .ok (.iaload, 1) := by decide +kernel
theorem dL_law_657 : decode cL_law 657 = .ok (.aload_n 0, 1) := by decide +kernel
theorem dL_law_658 : decode cL_law 658 = .ok (.iload_n 3, 1) := by decide +kernel
theorem dL_law_659 : decode cL_law 659 = .ok (.iconst 2, 1) := by decide +kernel
theorem dL_law_660 : decode cL_law 660 = .ok (.iadd, 1) := by decide +kernel
theorem dL_law_661 : decode cL_law 661 = .ok (.iaload, 1) := by decide +kernel
theorem dL_law_662 : decode cL_law 662 = .ok (.invokevirtual 93, 3) := by decide +kernel
theorem dL_law_665 : decode cL_law 665 = .ok (.aload_n 2, 1) := by decide +kernel
theorem dL_law_666 : decode cL_law 666 = .ok (.aload_n 0, 1) := by decide +kernel
theorem dL_law_667 : decode cL_law 667 = .ok (.iload_n 3, 1) := by decide +kernel
theorem dL_law_668 : decode cL_law 668 = .ok (.iconst 1, 1) := by decide +kernel
theorem dL_law_669 : decode cL_law 669 = .ok (.iadd, 1) := by decide +kernel
theorem dL_law_670 : decode cL_law 670 = .ok (.iaload, 1) := by decide +kernel
theorem dL_law_671 : decode cL_law 671 = .ok (.aload_n 0, 1) := by decide +kernel
theorem dL_law_672 : decode cL_law 672 = .ok (.iload_n 3, 1) := by decide +kernel
theorem dL_law_673 : decode cL_law 673 = .ok (.iconst 2, 1) := by decide +kernel
theorem dL_law_674 : decode cL_law 674 = .ok (.iadd, 1) := by decide +kernel
theorem dL_law_675 : decode cL_law 675 = .ok (.iaload, 1) := by decide +kernel
theorem dL_law_676 : decode cL_law 676 = .ok (.invokevirtual 96, 3) := by decide +kernel
theorem dL_law_679 : decode cL_law 679 = .ok (.if_icmp .eq 88, 3) := by decide +kernel
theorem dL_law_682 : decode cL_law 682 = .ok (.iconst 0, 1) := by decide +kernel
theorem dL_law_683 : decode cL_law 683 = .ok (.ireturn, 1) := by decide +kernel
theorem dL_law_684 : decode cL_law 684 = .ok (.aload_n 1, 1) := by decide +kernel
theorem dL_law_685 : decode cL_law 685 = .ok (.aload_n 0, 1) := by decide +kernel
theorem dL_law_686 : decode cL_law 686 = .ok (.iload_n 3, 1) := by decide +kernel
theorem dL_law_687 : decode cL_law 687 = .ok (.iconst 1, 1) := by decide +kernel
theorem dL_law_688 : decode cL_law 688 = .ok (.iadd, 1) := by decide +kernel
theorem dL_law_689 : decode cL_law 689 = .ok (.iaload, 1) := by decide +kernel
theorem dL_law_690 : decode cL_law 690 = .ok (.invokevirtual 97, 3) := by decide +kernel
theorem dL_law_693 : decode cL_law 693 = .ok (.aload_n 2, 1) := by decide +kernel
theorem dL_law_694 : decode cL_law 694 = .ok (.aload_n 0, 1) := by decide +kernel
theorem dL_law_695 : decode cL_law 695 = .ok (.iload_n 3, 1) := by decide +kernel
theorem dL_law_696 : decode cL_law 696 = .ok (.iconst 1, 1) := by decide +kernel
theorem dL_law_697 : decode cL_law 697 = .ok (.iadd, 1) := by decide +kernel
theorem dL_law_698 : decode cL_law 698 = .ok (.iaload, 1) := by decide +kernel
theorem dL_law_699 : decode cL_law 699 = .ok (.invokevirtual 100, 3) := by decide +kernel
theorem dL_law_702 : decode cL_law 702 = .ok (.if_icmp .eq 65, 3) := by decide +kernel
theorem dL_law_705 : decode cL_law 705 = .ok (.iconst 0, 1) := by decide +kernel
theorem dL_law_706 : decode cL_law 706 = .ok (.ireturn, 1) := by decide +kernel
theorem dL_law_707 : decode cL_law 707 = .ok (.aload_n 1, 1) := by decide +kernel
theorem dL_law_708 : decode cL_law 708 = .ok (.aload_n 0, 1) := by decide +kernel
theorem dL_law_709 : decode cL_law 709 = .ok (.iload_n 3, 1) := by decide +kernel
theorem dL_law_710 : decode cL_law 710 = .ok (.iconst 1, 1) := by decide +kernel
theorem dL_law_711 : decode cL_law 711 = .ok (.iadd, 1) := by decide +kernel
theorem dL_law_712 : decode cL_law 712 = .ok (.iaload, 1) := by decide +kernel
theorem dL_law_713 : decode cL_law 713 = .ok (.invokevirtual 101, 3) := by decide +kernel
theorem dL_law_716 : decode cL_law 716 = .ok (.aload_n 2, 1) := by decide +kernel
theorem dL_law_717 : decode cL_law 717 = .ok (.aload_n 0, 1) := by decide +kernel
theorem dL_law_718 : decode cL_law 718 = .ok (.iload_n 3, 1) := by decide +kernel
theorem dL_law_719 : decode cL_law 719 = .ok (.iconst 1, 1) := by decide +kernel
theorem dL_law_720 : decode cL_law 720 = .ok (.iadd, 1) := by decide +kernel
theorem dL_law_721 : decode cL_law 721 = .ok (.iaload, 1) := by decide +kernel
theorem dL_law_722 : decode cL_law 722 = .ok (.invokevirtual 104, 3) := by decide +kernel
theorem dL_law_725 : decode cL_law 725 = .ok (.if_icmp .eq 42, 3) := by decide +kernel
theorem dL_law_728 : decode cL_law 728 = .ok (.iconst 0, 1) := by decide +kernel
theorem dL_law_729 : decode cL_law 729 = .ok (.ireturn, 1) := by decide +kernel
theorem dL_law_730 : decode cL_law 730 = .ok (.aload_n 1, 1) := by decide +kernel
theorem dL_law_731 : decode cL_law 731 = .ok (.aload_n 0, 1) := by decide +kernel
theorem dL_law_732 : decode cL_law 732 = .ok (.iload_n 3, 1) := by decide +kernel
theorem dL_law_733 : decode cL_law 733 = .ok (.iconst 1, 1) := by decide +kernel
theorem dL_law_734 : decode cL_law 734 = .ok (.iadd, 1) := by decide +kernel
theorem dL_law_735 : decode cL_law 735 = .ok (.iaload, 1) := by decide +kernel
theorem dL_law_736 : decode cL_law 736 = .ok (.invokevirtual 105, 3) := by decide +kernel
theorem dL_law_739 : decode cL_law 739 = .ok (.aload_n 2, 1) := by decide +kernel
theorem dL_law_740 : decode cL_law 740 = .ok (.aload_n 0, 1) := by decide +kernel
theorem dL_law_741 : decode cL_law 741 = .ok (.iload_n 3, 1) := by decide +kernel
theorem dL_law_742 : decode cL_law 742 = .ok (.iconst 1, 1) := by decide +kernel
theorem dL_law_743 : decode cL_law 743 = .ok (.iadd, 1) := by decide +kernel
theorem dL_law_744 : decode cL_law 744 = .ok (.iaload, 1) := by decide +kernel
theorem dL_law_745 : decode cL_law 745 = .ok (.invokevirtual 108, 3) := by decide +kernel
theorem dL_law_748 : decode cL_law 748 = .ok (.if_icmp .eq 19, 3) := by decide +kernel
theorem dL_law_751 : decode cL_law 751 = .ok (.iconst 0, 1) := by decide +kernel
theorem dL_law_752 : decode cL_law 752 = .ok (.ireturn, 1) := by decide +kernel
theorem dL_law_753 : decode cL_law 753 = .ok (.aload_n 1, 1) := by decide +kernel
theorem dL_law_754 : decode cL_law 754 = .ok (.invokevirtual 109, 3) := by decide +kernel
theorem dL_law_757 : decode cL_law 757 = .ok (.aload_n 2, 1) := by decide +kernel
theorem dL_law_758 : decode cL_law 758 = .ok (.invokevirtual 113, 3) := by decide +kernel
theorem dL_law_761 : decode cL_law 761 = .ok (.lcmp, 1) := by decide +kernel
theorem dL_law_762 : decode cL_law 762 = .ok (.ifCond .eq 5, 3) := by decide +kernel
theorem dL_law_765 : decode cL_law 765 = .ok (.iconst 0, 1) := by decide +kernel
theorem dL_law_766 : decode cL_law 766 = .ok (.ireturn, 1) := by decide +kernel
theorem dL_law_767 : decode cL_law 767 = .ok (.iinc 3 4, 3) := by decide +kernel
theorem dL_law_770 : decode cL_law 770 = .ok (.goto (-752), 3) := by decide +kernel
theorem dL_law_773 : decode cL_law 773 = .ok (.iconst 1, 1) := by decide +kernel
theorem dL_law_774 : decode cL_law 774 = .ok (.ireturn, 1) := by decide +kernel
end
section
theorem dX0_init_0 : decode cX0_init 0 = .ok (.aload_n 0, 1) := by decide +kernel
theorem dX0_init_1 : decode cX0_init 1 = .ok (.invokespecial 1, 3) := by decide +kernel
theorem dX0_init_4 : decode cX0_init 4 = .ok (.return_, 1) := by decide +kernel
theorem dX1_init_0 : decode cX1_init 0 = .ok (.aload_n 0, 1) := by decide +kernel
theorem dX1_init_1 : decode cX1_init 1 = .ok (.invokespecial 1, 3) := by decide +kernel
theorem dX1_init_4 : decode cX1_init 4 = .ok (.return_, 1) := by decide +kernel
theorem dX1_worth_0 : decode cX1_worth 0 = .ok (.aload_n 1, 1) := by decide +kernel
theorem dX1_worth_1 : decode cX1_worth 1 = .ok (.dup, 1) := by decide +kernel
theorem dX1_worth_2 : decode cX1_worth 2 = .ok (.getfield 7, 3) := by decide +kernel
theorem dX1_worth_5 : decode cX1_worth 5 = .ok (.ldc2_w 13, 3) := by decide +kernel
theorem dX1_worth_8 : decode cX1_worth 8 = .ok (.ladd, 1) := by decide +kernel
theorem dX1_worth_9 : decode cX1_worth 9 = .ok (.putfield 7, 3) := by decide +kernel
theorem dX1_worth_12 : decode cX1_worth 12 = .ok (.aload_n 0, 1) := by decide +kernel
theorem dX1_worth_13 : decode cX1_worth 13 = .ok (.aload_n 1, 1) := by decide +kernel
theorem dX1_worth_14 : decode cX1_worth 14 = .ok (.invokespecial 15, 3) := by decide +kernel
theorem dX1_worth_17 : decode cX1_worth 17 = .ok (.aload_n 1, 1) := by decide +kernel
theorem dX1_worth_18 : decode cX1_worth 18 = .ok (.getfield 19, 3) := by decide +kernel
theorem dX1_worth_21 : decode cX1_worth 21 = .ok (.isub, 1) := by decide +kernel
theorem dX1_worth_22 : decode cX1_worth 22 = .ok (.ireturn, 1) := by decide +kernel
theorem dX2_init_0 : decode cX2_init 0 = .ok (.aload_n 0, 1) := by decide +kernel
theorem dX2_init_1 : decode cX2_init 1 = .ok (.invokespecial 1, 3) := by decide +kernel
theorem dX2_init_4 : decode cX2_init 4 = .ok (.return_, 1) := by decide +kernel
theorem dX2_worth_0 : decode cX2_worth 0 = .ok (.aload_n 1, 1) := by decide +kernel
theorem dX2_worth_1 : decode cX2_worth 1 = .ok (.dup, 1) := by decide +kernel
theorem dX2_worth_2 : decode cX2_worth 2 = .ok (.getfield 7, 3) := by decide +kernel
theorem dX2_worth_5 : decode cX2_worth 5 = .ok (.ldc2_w 13, 3) := by decide +kernel
theorem dX2_worth_8 : decode cX2_worth 8 = .ok (.ladd, 1) := by decide +kernel
theorem dX2_worth_9 : decode cX2_worth 9 = .ok (.putfield 7, 3) := by decide +kernel
theorem dX2_worth_12 : decode cX2_worth 12 = .ok (.iconst 2, 1) := by decide +kernel
theorem dX2_worth_13 : decode cX2_worth 13 = .ok (.aload_n 0, 1) := by decide +kernel
theorem dX2_worth_14 : decode cX2_worth 14 = .ok (.aload_n 1, 1) := by decide +kernel
theorem dX2_worth_15 : decode cX2_worth 15 = .ok (.invokespecial 15, 3) := by decide +kernel
theorem dX2_worth_18 : decode cX2_worth 18 = .ok (.imul, 1) := by decide +kernel
theorem dX2_worth_19 : decode cX2_worth 19 = .ok (.ireturn, 1) := by decide +kernel
theorem dX3_init_0 : decode cX3_init 0 = .ok (.aload_n 0, 1) := by decide +kernel
theorem dX3_init_1 : decode cX3_init 1 = .ok (.invokespecial 1, 3) := by decide +kernel
theorem dX3_init_4 : decode cX3_init 4 = .ok (.return_, 1) := by decide +kernel
theorem dX3_worth_0 : decode cX3_worth 0 = .ok (.aload_n 1, 1) := by decide +kernel
theorem dX3_worth_1 : decode cX3_worth 1 = .ok (.dup, 1) := by decide +kernel
theorem dX3_worth_2 : decode cX3_worth 2 = .ok (.getfield 7, 3) := by decide +kernel
theorem dX3_worth_5 : decode cX3_worth 5 = .ok (.ldc2_w 13, 3) := by decide +kernel
theorem dX3_worth_8 : decode cX3_worth 8 = .ok (.ladd, 1) := by decide +kernel
theorem dX3_worth_9 : decode cX3_worth 9 = .ok (.putfield 7, 3) := by decide +kernel
theorem dX3_worth_12 : decode cX3_worth 12 = .ok (.aload_n 0, 1) := by decide +kernel
theorem dX3_worth_13 : decode cX3_worth 13 = .ok (.aload_n 1, 1) := by decide +kernel
theorem dX3_worth_14 : decode cX3_worth 14 = .ok (.invokespecial 15, 3) := by decide +kernel
theorem dX3_worth_17 : decode cX3_worth 17 = .ok (.aload_n 1, 1) := by decide +kernel
theorem dX3_worth_18 : decode cX3_worth 18 = .ok (.getfield 19, 3) := by decide +kernel
theorem dX3_worth_21 : decode cX3_worth 21 = .ok (.iadd, 1) := by decide +kernel
theorem dX3_worth_22 : decode cX3_worth 22 = .ok (.ireturn, 1) := by decide +kernel
theorem dX4_init_0 : decode cX4_init 0 = .ok (.aload_n 0, 1) := by decide +kernel
theorem dX4_init_1 : decode cX4_init 1 = .ok (.invokespecial 1, 3) := by decide +kernel
theorem dX4_init_4 : decode cX4_init 4 = .ok (.return_, 1) := by decide +kernel
theorem dX4_worth_0 : decode cX4_worth 0 = .ok (.aload_n 1, 1) := by decide +kernel
theorem dX4_worth_1 : decode cX4_worth 1 = .ok (.dup, 1) := by decide +kernel
theorem dX4_worth_2 : decode cX4_worth 2 = .ok (.getfield 7, 3) := by decide +kernel
theorem dX4_worth_5 : decode cX4_worth 5 = .ok (.ldc2_w 13, 3) := by decide +kernel
theorem dX4_worth_8 : decode cX4_worth 8 = .ok (.ladd, 1) := by decide +kernel
theorem dX4_worth_9 : decode cX4_worth 9 = .ok (.putfield 7, 3) := by decide +kernel
theorem dX4_worth_12 : decode cX4_worth 12 = .ok (.aload_n 0, 1) := by decide +kernel
theorem dX4_worth_13 : decode cX4_worth 13 = .ok (.aload_n 1, 1) := by decide +kernel
theorem dX4_worth_14 : decode cX4_worth 14 = .ok (.invokespecial 15, 3) := by decide +kernel
theorem dX4_worth_17 : decode cX4_worth 17 = .ok (.aload_n 1, 1) := by decide +kernel
theorem dX4_worth_18 : decode cX4_worth 18 = .ok (.getfield 19, 3) := by decide +kernel
theorem dX4_worth_21 : decode cX4_worth 21 = .ok (.iadd, 1) := by decide +kernel
theorem dX4_worth_22 : decode cX4_worth 22 = .ok (.ireturn, 1) := by decide +kernel
theorem dX5_init_0 : decode cX5_init 0 = .ok (.aload_n 0, 1) := by decide +kernel
theorem dX5_init_1 : decode cX5_init 1 = .ok (.invokespecial 3, 3) := by decide +kernel
theorem dX5_init_4 : decode cX5_init 4 = .ok (.aload_n 0, 1) := by decide +kernel
theorem dX5_init_5 : decode cX5_init 5 = .ok (.bipush 6, 2) := by decide +kernel
theorem dX5_init_7 : decode cX5_init 7 = .ok (.newarray .int, 2) := by decide +kernel
theorem dX5_init_9 : decode cX5_init 9 = .ok (.putfield 9, 3) := by decide +kernel
theorem dX5_init_12 : decode cX5_init 12 = .ok (.aload_n 0, 1) := by decide +kernel
theorem dX5_init_13 : decode cX5_init 13 = .ok (.bipush 6, 2) := by decide +kernel
theorem dX5_init_15 : decode cX5_init 15 = .ok (.newarray .int, 2) := by decide +kernel
theorem dX5_init_17 : decode cX5_init 17 = .ok (.putfield 15, 3) := by decide +kernel
theorem dX5_init_20 : decode cX5_init 20 = .ok (.aload_n 0, 1) := by decide +kernel
theorem dX5_init_21 : decode cX5_init 21 = .ok (.bipush 6, 2) := by decide +kernel
theorem dX5_init_23 : decode cX5_init 23 = .ok (.newarray .int, 2) := by decide +kernel
theorem dX5_init_25 : decode cX5_init 25 = .ok (.putfield 18, 3) := by decide +kernel
theorem dX5_init_28 : decode cX5_init 28 = .ok (.return_, 1) := by decide +kernel
theorem dX5_share_0 : decode cX5_share 0 = .ok (.aload_n 0, 1) := by decide +kernel
theorem dX5_share_1 : decode cX5_share 1 = .ok (.aload_n 1, 1) := by decide +kernel
theorem dX5_share_2 : decode cX5_share 2 = .ok (.getfield 21, 3) := by decide +kernel
theorem dX5_share_5 : decode cX5_share 5 = .ok (.putfield 27, 3) := by decide +kernel
theorem dX5_share_8 : decode cX5_share 8 = .ok (.aload_n 0, 1) := by decide +kernel
theorem dX5_share_9 : decode cX5_share 9 = .ok (.aload_n 1, 1) := by decide +kernel
theorem dX5_share_10 : decode cX5_share 10 = .ok (.getfield 28, 3) := by decide +kernel
theorem dX5_share_13 : decode cX5_share 13 = .ok (.putfield 31, 3) := by decide +kernel
theorem dX5_share_16 : decode cX5_share 16 = .ok (.aload_n 2, 1) := by decide +kernel
theorem dX5_share_17 : decode cX5_share 17 = .ok (.getfield 32, 3) := by decide +kernel
theorem dX5_share_20 : decode cX5_share 20 = .ok (.iconst 0, 1) := by decide +kernel
theorem dX5_share_21 : decode cX5_share 21 = .ok (.aload_n 0, 1) := by decide +kernel
theorem dX5_share_22 : decode cX5_share 22 = .ok (.getfield 18, 3) := by decide +kernel
theorem dX5_share_25 : decode cX5_share 25 = .ok (.iconst 0, 1) := by decide +kernel
theorem dX5_share_26 : decode cX5_share 26 = .ok (.bipush 6, 2) := by decide +kernel
theorem dX5_share_28 : decode cX5_share 28 = .ok (.invokestatic 37, 3) := by decide +kernel
theorem dX5_share_31 : decode cX5_share 31 = .ok (.iconst 0, 1) := by decide +kernel
theorem dX5_share_32 : decode cX5_share 32 = .ok (.istore_n 3, 1) := by decide +kernel
theorem dX5_share_33 : decode cX5_share 33 = .ok (.iload_n 3, 1) := by decide +kernel
theorem dX5_share_34 : decode cX5_share 34 = .ok (.aload_n 0, 1) := by decide +kernel
theorem dX5_share_35 : decode cX5_share 35 = .ok (.getfield 27, 3) := by decide +kernel
theorem dX5_share_38 : decode cX5_share 38 = .ok (.if_icmp .ge 21, 3) := by decide +kernel
theorem dX5_share_41 : decode cX5_share 41 = .ok (.aload_n 0, 1) := by decide +kernel
theorem dX5_share_42 : decode cX5_share 42 = .ok (.getfield 15, 3) := by decide +kernel
theorem dX5_share_45 : decode cX5_share 45 = .ok (.iload_n 3, 1) := by decide +kernel
theorem dX5_share_46 : decode cX5_share 46 = .ok (.aload_n 1, 1) := by decide +kernel
theorem dX5_share_47 : decode cX5_share 47 = .ok (.aload_n 2, 1) := by decide +kernel
theorem dX5_share_48 : decode cX5_share 48 = .ok (.iload_n 3, 1) := by decide +kernel
theorem dX5_share_49 : decode cX5_share 49 = .ok (.invokevirtual 43, 3) := by decide +kernel
theorem dX5_share_52 : decode cX5_share 52 = .ok (.iastore, 1) := by decide +kernel
theorem dX5_share_53 : decode cX5_share 53 = .ok (.iinc 3 1, 3) := by decide +kernel
theorem dX5_share_56 : decode cX5_share 56 = .ok (.goto (-23), 3) := by decide +kernel
theorem dX5_share_59 : decode cX5_share 59 = .ok (.aload_n 0, 1) := by decide +kernel
theorem dX5_share_60 : decode cX5_share 60 = .ok (.iconst 0, 1) := by decide +kernel
theorem dX5_share_61 : decode cX5_share 61 = .ok (.invokevirtual 46, 3) := by decide +kernel
theorem dX5_share_64 : decode cX5_share 64 = .ok (.istore_n 3, 1) := by decide +kernel
theorem dX5_share_65 : decode cX5_share 65 = .ok (.iload_n 3, 1) := by decide +kernel
theorem dX5_share_66 : decode cX5_share 66 = .ok (.istore 4, 2) := by decide +kernel
theorem dX5_share_68 : decode cX5_share 68 = .ok (.iconst 0, 1) := by decide +kernel
theorem dX5_share_69 : decode cX5_share 69 = .ok (.istore 5, 2) := by decide +kernel
theorem dX5_share_71 : decode cX5_share 71 = .ok (.iload 5, 2) := by decide +kernel
theorem dX5_share_73 : decode cX5_share 73 = .ok (.aload_n 0, 1) := by decide +kernel
theorem dX5_share_74 : decode cX5_share 74 = .ok (.getfield 27, 3) := by decide +kernel
theorem dX5_share_77 : decode cX5_share 77 = .ok (.if_icmp .ge 39, 3) := by decide +kernel
theorem dX5_share_80 : decode cX5_share 80 = .ok (.aload_n 0, 1) := by decide +kernel
theorem dX5_share_81 : decode cX5_share 81 = .ok (.getfield 9, 3) := by decide +kernel
theorem dX5_share_84 : decode cX5_share 84 = .ok (.iload 5, 2) := by decide +kernel
theorem dX5_share_86 : decode cX5_share 86 = .ok (.aload_n 0, 1) := by decide +kernel
theorem dX5_share_87 : decode cX5_share 87 = .ok (.iload 5, 2) := by decide +kernel
theorem dX5_share_89 : decode cX5_share 89 = .ok (.iload 4, 2) := by decide +kernel
theorem dX5_share_91 : decode cX5_share 91 = .ok (.invokevirtual 50, 3) := by decide +kernel
theorem dX5_share_94 : decode cX5_share 94 = .ok (.iastore, 1) := by decide +kernel
theorem dX5_share_95 : decode cX5_share 95 = .ok (.aload_n 0, 1) := by decide +kernel
theorem dX5_share_96 : decode cX5_share 96 = .ok (.getfield 9, 3) := by decide +kernel
theorem dX5_share_99 : decode cX5_share 99 = .ok (.iload 5, 2) := by decide +kernel
theorem dX5_share_101 : decode cX5_share 101 = .ok (.iaload, 1) := by decide +kernel
theorem dX5_share_102 : decode cX5_share 102 = .ok (.bipush (-9), 2) := by decide +kernel
theorem dX5_share_104 : decode cX5_share 104 = .ok (.if_icmp .eq 6, 3) := by decide +kernel
theorem dX5_share_107 : decode cX5_share 107 = .ok (.iinc 4 (-1), 3) := by decide +kernel
theorem dX5_share_110 : decode cX5_share 110 = .ok (.iinc 5 1, 3) := by decide +kernel
theorem dX5_share_113 : decode cX5_share 113 = .ok (.goto (-42), 3) := by decide +kernel
theorem dX5_share_116 : decode cX5_share 116 = .ok (.iload_n 3, 1) := by decide +kernel
theorem dX5_share_117 : decode cX5_share 117 = .ok (.ireturn, 1) := by decide +kernel
theorem dX5_firstFor_0 : decode cX5_firstFor 0 = .ok (.iconst 0, 1) := by decide +kernel
theorem dX5_firstFor_1 : decode cX5_firstFor 1 = .ok (.istore_n 3, 1) := by decide +kernel
theorem dX5_firstFor_2 : decode cX5_firstFor 2 = .ok (.iload_n 3, 1) := by decide +kernel
theorem dX5_firstFor_3 : decode cX5_firstFor 3 = .ok (.aload_n 0, 1) := by decide +kernel
theorem dX5_firstFor_4 : decode cX5_firstFor 4 = .ok (.getfield 31, 3) := by decide +kernel
theorem dX5_firstFor_7 : decode cX5_firstFor 7 = .ok (.if_icmp .ge 67, 3) := by decide +kernel
theorem dX5_firstFor_10 : decode cX5_firstFor 10 = .ok (.aload_n 0, 1) := by decide +kernel
theorem dX5_firstFor_11 : decode cX5_firstFor 11 = .ok (.getfield 15, 3) := by decide +kernel
theorem dX5_firstFor_14 : decode cX5_firstFor 14 = .ok (.iload_n 1, 1) := by decide +kernel
theorem dX5_firstFor_15 : decode cX5_firstFor 15 = .ok (.iaload, 1) := by decide +kernel
theorem dX5_firstFor_16 : decode cX5_firstFor 16 = .ok (.iload_n 3, 1) := by decide +kernel
theorem dX5_firstFor_17 : decode cX5_firstFor 17 = .ok (.ishr, 1) := by decide +kernel
theorem dX5_firstFor_18 : decode cX5_firstFor 18 = .ok (.iconst 1, 1) := by decide +kernel
theorem dX5_firstFor_19 : decode cX5_firstFor 19 = .ok (.iand, 1) := by decide +kernel
theorem dX5_firstFor_20 : decode cX5_firstFor 20 = .ok (.iconst 1, 1) := by decide +kernel
theorem dX5_firstFor_21 : decode cX5_firstFor 21 = .ok (.if_icmp .ne 47, 3) := by decide +kernel
theorem dX5_firstFor_24 : decode cX5_firstFor 24 = .ok (.aload_n 0, 1) := by decide +kernel
theorem dX5_firstFor_25 : decode cX5_firstFor 25 = .ok (.getfield 18, 3) := by decide +kernel
theorem dX5_firstFor_28 : decode cX5_firstFor 28 = .ok (.iload_n 3, 1) := by decide +kernel
theorem dX5_firstFor_29 : decode cX5_firstFor 29 = .ok (.iaload, 1) := by decide +kernel
theorem dX5_firstFor_30 : decode cX5_firstFor 30 = .ok (.ifCond .le 38, 3) := by decide +kernel
theorem dX5_firstFor_33 : decode cX5_firstFor 33 = .ok (.aload_n 0, 1) := by decide +kernel
theorem dX5_firstFor_34 : decode cX5_firstFor 34 = .ok (.getfield 18, 3) := by decide +kernel
theorem dX5_firstFor_37 : decode cX5_firstFor 37 = .ok (.iload_n 3, 1) := by decide +kernel
theorem dX5_firstFor_38 : decode cX5_firstFor 38 = .ok (.dup2, 1) := by decide +kernel
theorem dX5_firstFor_39 : decode cX5_firstFor 39 = .ok (.iaload, 1) := by decide +kernel
theorem dX5_firstFor_40 : decode cX5_firstFor 40 = .ok (.iconst 1, 1) := by decide +kernel
theorem dX5_firstFor_41 : decode cX5_firstFor 41 = .ok (.isub, 1) := by decide +kernel
theorem dX5_firstFor_42 : decode cX5_firstFor 42 = .ok (.iastore, 1) := by decide +kernel
theorem dX5_firstFor_43 : decode cX5_firstFor 43 = .ok (.iconst 1, 1) := by decide +kernel
theorem dX5_firstFor_44 : decode cX5_firstFor 44 = .ok (.aload_n 0, 1) := by decide +kernel
theorem dX5_firstFor_45 : decode cX5_firstFor 45 = .ok (.iload_n 1, 1) := by decide +kernel
theorem dX5_firstFor_46 : decode cX5_firstFor 46 = .ok (.iconst 1, 1) := by decide +kernel
theorem dX5_firstFor_47 : decode cX5_firstFor 47 = .ok (.iadd, 1) := by decide +kernel
theorem dX5_firstFor_48 : decode cX5_firstFor 48 = .ok (.invokevirtual 46, 3) := by decide +kernel
theorem dX5_firstFor_51 : decode cX5_firstFor 51 = .ok (.iadd, 1) := by decide +kernel
theorem dX5_firstFor_52 : decode cX5_firstFor 52 = .ok (.iload_n 2, 1) := by decide +kernel
theorem dX5_firstFor_53 : decode cX5_firstFor 53 = .ok (.if_icmp .ne 5, 3) := by decide +kernel
theorem dX5_firstFor_56 : decode cX5_firstFor 56 = .ok (.iload_n 3, 1) := by decide +kernel
theorem dX5_firstFor_57 : decode cX5_firstFor 57 = .ok (.ireturn, 1) := by decide +kernel
theorem dX5_firstFor_58 : decode cX5_firstFor 58 = .ok (.aload_n 0, 1) := by decide +kernel
theorem dX5_firstFor_59 : decode cX5_firstFor 59 = .ok (.getfield 18, 3) := by decide +kernel
theorem dX5_firstFor_62 : decode cX5_firstFor 62 = .ok (.iload_n 3, 1) := by decide +kernel
theorem dX5_firstFor_63 : decode cX5_firstFor 63 = .ok (.dup2, 1) := by decide +kernel
theorem dX5_firstFor_64 : decode cX5_firstFor 64 = .ok (.iaload, 1) := by decide +kernel
theorem dX5_firstFor_65 : decode cX5_firstFor 65 = .ok (.iconst 1, 1) := by decide +kernel
theorem dX5_firstFor_66 : decode cX5_firstFor 66 = .ok (.iadd, 1) := by decide +kernel
theorem dX5_firstFor_67 : decode cX5_firstFor 67 = .ok (.iastore, 1) := by decide +kernel
theorem dX5_firstFor_68 : decode cX5_firstFor 68 = .ok (.iinc 3 1, 3) := by decide +kernel
theorem dX5_firstFor_71 : decode cX5_firstFor 71 = .ok (.goto (-69), 3) := by decide +kernel
theorem dX5_firstFor_74 : decode cX5_firstFor 74 = .ok (.bipush (-9), 2) := by decide +kernel
theorem dX5_firstFor_76 : decode cX5_firstFor 76 = .ok (.ireturn, 1) := by decide +kernel
theorem dX5_most_0 : decode cX5_most 0 = .ok (.aload_n 0, 1) := by decide +kernel
theorem dX5_most_1 : decode cX5_most 1 = .ok (.getfield 27, 3) := by decide +kernel
theorem dX5_most_4 : decode cX5_most 4 = .ok (.istore_n 2, 1) := by decide +kernel
theorem dX5_most_5 : decode cX5_most 5 = .ok (.iconst 0, 1) := by decide +kernel
theorem dX5_most_6 : decode cX5_most 6 = .ok (.istore_n 3, 1) := by decide +kernel
theorem dX5_most_7 : decode cX5_most 7 = .ok (.iload_n 3, 1) := by decide +kernel
theorem dX5_most_8 : decode cX5_most 8 = .ok (.iconst 1, 1) := by decide +kernel
theorem dX5_most_9 : decode cX5_most 9 = .ok (.aload_n 0, 1) := by decide +kernel
theorem dX5_most_10 : decode cX5_most 10 = .ok (.getfield 31, 3) := by decide +kernel
theorem dX5_most_13 : decode cX5_most 13 = .ok (.ishl, 1) := by decide +kernel
theorem dX5_most_14 : decode cX5_most 14 = .ok (.if_icmp .ge 98, 3) := by decide +kernel
theorem dX5_most_17 : decode cX5_most 17 = .ok (.iconst 0, 1) := by decide +kernel
theorem dX5_most_18 : decode cX5_most 18 = .ok (.istore 4, 2) := by decide +kernel
theorem dX5_most_20 : decode cX5_most 20 = .ok (.iconst 0, 1) := by decide +kernel
theorem dX5_most_21 : decode cX5_most 21 = .ok (.istore 5, 2) := by decide +kernel
theorem dX5_most_23 : decode cX5_most 23 = .ok (.iload 5, 2) := by decide +kernel
theorem dX5_most_25 : decode cX5_most 25 = .ok (.aload_n 0, 1) := by decide +kernel
theorem dX5_most_26 : decode cX5_most 26 = .ok (.getfield 31, 3) := by decide +kernel
theorem dX5_most_29 : decode cX5_most 29 = .ok (.if_icmp .ge 28, 3) := by decide +kernel
theorem dX5_most_32 : decode cX5_most 32 = .ok (.iload 4, 2) := by decide +kernel
theorem dX5_most_34 : decode cX5_most 34 = .ok (.iload_n 3, 1) := by decide +kernel
theorem dX5_most_35 : decode cX5_most 35 = .ok (.iload 5, 2) := by decide +kernel
theorem dX5_most_37 : decode cX5_most 37 = .ok (.ishr, 1) := by decide +kernel
theorem dX5_most_38 : decode cX5_most 38 = .ok (.iconst 1, 1) := by decide +kernel
theorem dX5_most_39 : decode cX5_most 39 = .ok (.iand, 1) := by decide +kernel
theorem dX5_most_40 : decode cX5_most 40 = .ok (.aload_n 0, 1) := by decide +kernel
theorem dX5_most_41 : decode cX5_most 41 = .ok (.getfield 18, 3) := by decide +kernel
theorem dX5_most_44 : decode cX5_most 44 = .ok (.iload 5, 2) := by decide +kernel
theorem dX5_most_46 : decode cX5_most 46 = .ok (.iaload, 1) := by decide +kernel
theorem dX5_most_47 : decode cX5_most 47 = .ok (.imul, 1) := by decide +kernel
theorem dX5_most_48 : decode cX5_most 48 = .ok (.iadd, 1) := by decide +kernel
theorem dX5_most_49 : decode cX5_most 49 = .ok (.istore 4, 2) := by decide +kernel
theorem dX5_most_51 : decode cX5_most 51 = .ok (.iinc 5 1, 3) := by decide +kernel
theorem dX5_most_54 : decode cX5_most 54 = .ok (.goto (-31), 3) := by decide +kernel
theorem dX5_most_57 : decode cX5_most 57 = .ok (.iload_n 1, 1) := by decide +kernel
theorem dX5_most_58 : decode cX5_most 58 = .ok (.istore 5, 2) := by decide +kernel
theorem dX5_most_60 : decode cX5_most 60 = .ok (.iload 5, 2) := by decide +kernel
theorem dX5_most_62 : decode cX5_most 62 = .ok (.aload_n 0, 1) := by decide +kernel
theorem dX5_most_63 : decode cX5_most 63 = .ok (.getfield 27, 3) := by decide +kernel
theorem dX5_most_66 : decode cX5_most 66 = .ok (.if_icmp .ge 33, 3) := by decide +kernel
theorem dX5_most_69 : decode cX5_most 69 = .ok (.iload 4, 2) := by decide +kernel
theorem dX5_most_71 : decode cX5_most 71 = .ok (.aload_n 0, 1) := by decide +kernel
theorem dX5_most_72 : decode cX5_most 72 = .ok (.getfield 15, 3) := by decide +kernel
theorem dX5_most_75 : decode cX5_most 75 = .ok (.iload 5, 2) := by decide +kernel
theorem dX5_most_77 : decode cX5_most 77 = .ok (.iaload, 1) := by decide +kernel
theorem dX5_most_78 : decode cX5_most 78 = .ok (.iload_n 3, 1) := by decide +kernel
theorem dX5_most_79 : decode cX5_most 79 = .ok (.iconst (-1), 1) := by decide +kernel
theorem dX5_most_80 : decode cX5_most 80 = .ok (.ixor, 1) := by decide +kernel
theorem dX5_most_81 : decode cX5_most 81 = .ok (.iand, 1) := by decide +kernel
theorem dX5_most_82 : decode cX5_most 82 = .ok (.ifCond .eq 7, 3) := by decide +kernel
theorem dX5_most_85 : decode cX5_most 85 = .ok (.iconst 1, 1) := by decide +kernel
theorem dX5_most_86 : decode cX5_most 86 = .ok (.goto 4, 3) := by decide +kernel
theorem dX5_most_89 : decode cX5_most 89 = .ok (.iconst 0, 1) := by decide +kernel
theorem dX5_most_90 : decode cX5_most 90 = .ok (.iadd, 1) := by decide +kernel
theorem dX5_most_91 : decode cX5_most 91 = .ok (.istore 4, 2) := by decide +kernel
theorem dX5_most_93 : decode cX5_most 93 = .ok (.iinc 5 1, 3) := by decide +kernel
theorem dX5_most_96 : decode cX5_most 96 = .ok (.goto (-36), 3) := by decide +kernel
theorem dX5_most_99 : decode cX5_most 99 = .ok (.iload_n 2, 1) := by decide +kernel
theorem dX5_most_100 : decode cX5_most 100 = .ok (.iload 4, 2) := by decide +kernel
theorem dX5_most_102 : decode cX5_most 102 = .ok (.invokestatic 54, 3) := by decide +kernel
theorem dX5_most_105 : decode cX5_most 105 = .ok (.istore_n 2, 1) := by decide +kernel
theorem dX5_most_106 : decode cX5_most 106 = .ok (.iinc 3 1, 3) := by decide +kernel
theorem dX5_most_109 : decode cX5_most 109 = .ok (.goto (-102), 3) := by decide +kernel
theorem dX5_most_112 : decode cX5_most 112 = .ok (.iload_n 2, 1) := by decide +kernel
theorem dX5_most_113 : decode cX5_most 113 = .ok (.ireturn, 1) := by decide +kernel
theorem dX6_init_0 : decode cX6_init 0 = .ok (.aload_n 0, 1) := by decide +kernel
theorem dX6_init_1 : decode cX6_init 1 = .ok (.invokespecial 1, 3) := by decide +kernel
theorem dX6_init_4 : decode cX6_init 4 = .ok (.return_, 1) := by decide +kernel
theorem dX6_worth_0 : decode cX6_worth 0 = .ok (.aload_n 1, 1) := by decide +kernel
theorem dX6_worth_1 : decode cX6_worth 1 = .ok (.dup, 1) := by decide +kernel
theorem dX6_worth_2 : decode cX6_worth 2 = .ok (.getfield 7, 3) := by decide +kernel
theorem dX6_worth_5 : decode cX6_worth 5 = .ok (.lconst 1, 1) := by decide +kernel
theorem dX6_worth_6 : decode cX6_worth 6 = .ok (.ladd, 1) := by decide +kernel
theorem dX6_worth_7 : decode cX6_worth 7 = .ok (.putfield 7, 3) := by decide +kernel
theorem dX6_worth_10 : decode cX6_worth 10 = .ok (.aload_n 1, 1) := by decide +kernel
theorem dX6_worth_11 : decode cX6_worth 11 = .ok (.getfield 13, 3) := by decide +kernel
theorem dX6_worth_14 : decode cX6_worth 14 = .ok (.ireturn, 1) := by decide +kernel
theorem dX7_init_0 : decode cX7_init 0 = .ok (.aload_n 0, 1) := by decide +kernel
theorem dX7_init_1 : decode cX7_init 1 = .ok (.invokespecial 3, 3) := by decide +kernel
theorem dX7_init_4 : decode cX7_init 4 = .ok (.aload_n 0, 1) := by decide +kernel
theorem dX7_init_5 : decode cX7_init 5 = .ok (.bipush 6, 2) := by decide +kernel
theorem dX7_init_7 : decode cX7_init 7 = .ok (.newarray .int, 2) := by decide +kernel
theorem dX7_init_9 : decode cX7_init 9 = .ok (.putfield 9, 3) := by decide +kernel
theorem dX7_init_12 : decode cX7_init 12 = .ok (.aload_n 0, 1) := by decide +kernel
theorem dX7_init_13 : decode cX7_init 13 = .ok (.bipush 6, 2) := by decide +kernel
theorem dX7_init_15 : decode cX7_init 15 = .ok (.newarray .int, 2) := by decide +kernel
theorem dX7_init_17 : decode cX7_init 17 = .ok (.putfield 15, 3) := by decide +kernel
theorem dX7_init_20 : decode cX7_init 20 = .ok (.aload_n 0, 1) := by decide +kernel
theorem dX7_init_21 : decode cX7_init 21 = .ok (.bipush 6, 2) := by decide +kernel
theorem dX7_init_23 : decode cX7_init 23 = .ok (.newarray .int, 2) := by decide +kernel
theorem dX7_init_25 : decode cX7_init 25 = .ok (.putfield 18, 3) := by decide +kernel
theorem dX7_init_28 : decode cX7_init 28 = .ok (.aload_n 0, 1) := by decide +kernel
theorem dX7_init_29 : decode cX7_init 29 = .ok (.bipush 6, 2) := by decide +kernel
theorem dX7_init_31 : decode cX7_init 31 = .ok (.newarray .int, 2) := by decide +kernel
theorem dX7_init_33 : decode cX7_init 33 = .ok (.putfield 21, 3) := by decide +kernel
theorem dX7_init_36 : decode cX7_init 36 = .ok (.return_, 1) := by decide +kernel
theorem dX7_become_0 : decode cX7_become 0 = .ok (.aload_n 0, 1) := by decide +kernel
theorem dX7_become_1 : decode cX7_become 1 = .ok (.aload_n 1, 1) := by decide +kernel
theorem dX7_become_2 : decode cX7_become 2 = .ok (.getfield 24, 3) := by decide +kernel
theorem dX7_become_5 : decode cX7_become 5 = .ok (.putfield 24, 3) := by decide +kernel
theorem dX7_become_8 : decode cX7_become 8 = .ok (.aload_n 1, 1) := by decide +kernel
theorem dX7_become_9 : decode cX7_become 9 = .ok (.getfield 9, 3) := by decide +kernel
theorem dX7_become_12 : decode cX7_become 12 = .ok (.iconst 0, 1) := by decide +kernel
theorem dX7_become_13 : decode cX7_become 13 = .ok (.aload_n 0, 1) := by decide +kernel
theorem dX7_become_14 : decode cX7_become 14 = .ok (.getfield 9, 3) := by decide +kernel
theorem dX7_become_17 : decode cX7_become 17 = .ok (.iconst 0, 1) := by decide +kernel
theorem dX7_become_18 : decode cX7_become 18 = .ok (.bipush 6, 2) := by decide +kernel
theorem dX7_become_20 : decode cX7_become 20 = .ok (.invokestatic 28, 3) := by decide +kernel
theorem dX7_become_23 : decode cX7_become 23 = .ok (.aload_n 1, 1) := by decide +kernel
theorem dX7_become_24 : decode cX7_become 24 = .ok (.getfield 15, 3) := by decide +kernel
theorem dX7_become_27 : decode cX7_become 27 = .ok (.iconst 0, 1) := by decide +kernel
theorem dX7_become_28 : decode cX7_become 28 = .ok (.aload_n 0, 1) := by decide +kernel
theorem dX7_become_29 : decode cX7_become 29 = .ok (.getfield 15, 3) := by decide +kernel
theorem dX7_become_32 : decode cX7_become 32 = .ok (.iconst 0, 1) := by decide +kernel
theorem dX7_become_33 : decode cX7_become 33 = .ok (.bipush 6, 2) := by decide +kernel
theorem dX7_become_35 : decode cX7_become 35 = .ok (.invokestatic 28, 3) := by decide +kernel
theorem dX7_become_38 : decode cX7_become 38 = .ok (.aload_n 1, 1) := by decide +kernel
theorem dX7_become_39 : decode cX7_become 39 = .ok (.getfield 18, 3) := by decide +kernel
theorem dX7_become_42 : decode cX7_become 42 = .ok (.iconst 0, 1) := by decide +kernel
theorem dX7_become_43 : decode cX7_become 43 = .ok (.aload_n 0, 1) := by decide +kernel
theorem dX7_become_44 : decode cX7_become 44 = .ok (.getfield 18, 3) := by decide +kernel
theorem dX7_become_47 : decode cX7_become 47 = .ok (.iconst 0, 1) := by decide +kernel
theorem dX7_become_48 : decode cX7_become 48 = .ok (.bipush 6, 2) := by decide +kernel
theorem dX7_become_50 : decode cX7_become 50 = .ok (.invokestatic 28, 3) := by decide +kernel
theorem dX7_become_53 : decode cX7_become 53 = .ok (.aload_n 1, 1) := by decide +kernel
theorem dX7_become_54 : decode cX7_become 54 = .ok (.getfield 21, 3) := by decide +kernel
theorem dX7_become_57 : decode cX7_become 57 = .ok (.iconst 0, 1) := by decide +kernel
theorem dX7_become_58 : decode cX7_become 58 = .ok (.aload_n 0, 1) := by decide +kernel
theorem dX7_become_59 : decode cX7_become 59 = .ok (.getfield 21, 3) := by decide +kernel
theorem dX7_become_62 : decode cX7_become 62 = .ok (.iconst 0, 1) := by decide +kernel
theorem dX7_become_63 : decode cX7_become 63 = .ok (.bipush 6, 2) := by decide +kernel
theorem dX7_become_65 : decode cX7_become 65 = .ok (.invokestatic 28, 3) := by decide +kernel
theorem dX7_become_68 : decode cX7_become 68 = .ok (.return_, 1) := by decide +kernel
theorem dX7_changeSeats_0 : decode cX7_changeSeats 0 = .ok (.aload_n 0, 1) := by decide +kernel
theorem dX7_changeSeats_1 : decode cX7_changeSeats 1 = .ok (.getfield 18, 3) := by decide +kernel
theorem dX7_changeSeats_4 : decode cX7_changeSeats 4 = .ok (.iload_n 1, 1) := by decide +kernel
theorem dX7_changeSeats_5 : decode cX7_changeSeats 5 = .ok (.iaload, 1) := by decide +kernel
theorem dX7_changeSeats_6 : decode cX7_changeSeats 6 = .ok (.istore_n 3, 1) := by decide +kernel
theorem dX7_changeSeats_7 : decode cX7_changeSeats 7 = .ok (.aload_n 0, 1) := by decide +kernel
theorem dX7_changeSeats_8 : decode cX7_changeSeats 8 = .ok (.getfield 18, 3) := by decide +kernel
theorem dX7_changeSeats_11 : decode cX7_changeSeats 11 = .ok (.iload_n 1, 1) := by decide +kernel
theorem dX7_changeSeats_12 : decode cX7_changeSeats 12 = .ok (.aload_n 0, 1) := by decide +kernel
theorem dX7_changeSeats_13 : decode cX7_changeSeats 13 = .ok (.getfield 18, 3) := by decide +kernel
theorem dX7_changeSeats_16 : decode cX7_changeSeats 16 = .ok (.iload_n 2, 1) := by decide +kernel
theorem dX7_changeSeats_17 : decode cX7_changeSeats 17 = .ok (.iaload, 1) := by decide +kernel
theorem dX7_changeSeats_18 : decode cX7_changeSeats 18 = .ok (.iastore, 1) := by decide +kernel
theorem dX7_changeSeats_19 : decode cX7_changeSeats 19 = .ok (.aload_n 0, 1) := by decide +kernel
theorem dX7_changeSeats_20 : decode cX7_changeSeats 20 = .ok (.getfield 18, 3) := by decide +kernel
theorem dX7_changeSeats_23 : decode cX7_changeSeats 23 = .ok (.iload_n 2, 1) := by decide +kernel
theorem dX7_changeSeats_24 : decode cX7_changeSeats 24 = .ok (.iload_n 3, 1) := by decide +kernel
theorem dX7_changeSeats_25 : decode cX7_changeSeats 25 = .ok (.iastore, 1) := by decide +kernel
theorem dX7_changeSeats_26 : decode cX7_changeSeats 26 = .ok (.return_, 1) := by decide +kernel
theorem dX8_init_0 : decode cX8_init 0 = .ok (.aload_n 0, 1) := by decide +kernel
theorem dX8_init_1 : decode cX8_init 1 = .ok (.invokespecial 3, 3) := by decide +kernel
theorem dX8_init_4 : decode cX8_init 4 = .ok (.aload_n 0, 1) := by decide +kernel
theorem dX8_init_5 : decode cX8_init 5 = .ok (.bipush 6, 2) := by decide +kernel
theorem dX8_init_7 : decode cX8_init 7 = .ok (.putfield 9, 3) := by decide +kernel
theorem dX8_init_10 : decode cX8_init 10 = .ok (.aload_n 0, 1) := by decide +kernel
theorem dX8_init_11 : decode cX8_init 11 = .ok (.bipush 6, 2) := by decide +kernel
theorem dX8_init_13 : decode cX8_init 13 = .ok (.newarray .int, 2) := by decide +kernel
theorem dX8_init_15 : decode cX8_init 15 = .ok (.putfield 15, 3) := by decide +kernel
theorem dX8_init_18 : decode cX8_init 18 = .ok (.aload_n 0, 1) := by decide +kernel
theorem dX8_init_19 : decode cX8_init 19 = .ok (.bipush 6, 2) := by decide +kernel
theorem dX8_init_21 : decode cX8_init 21 = .ok (.newarray .int, 2) := by decide +kernel
theorem dX8_init_23 : decode cX8_init 23 = .ok (.putfield 19, 3) := by decide +kernel
theorem dX8_init_26 : decode cX8_init 26 = .ok (.aload_n 0, 1) := by decide +kernel
theorem dX8_init_27 : decode cX8_init 27 = .ok (.bipush 6, 2) := by decide +kernel
theorem dX8_init_29 : decode cX8_init 29 = .ok (.newarray .int, 2) := by decide +kernel
theorem dX8_init_31 : decode cX8_init 31 = .ok (.putfield 22, 3) := by decide +kernel
theorem dX8_init_34 : decode cX8_init 34 = .ok (.aload_n 0, 1) := by decide +kernel
theorem dX8_init_35 : decode cX8_init 35 = .ok (.new 25, 3) := by decide +kernel
theorem dX8_init_38 : decode cX8_init 38 = .ok (.dup, 1) := by decide +kernel
theorem dX8_init_39 : decode cX8_init 39 = .ok (.invokespecial 27, 3) := by decide +kernel
theorem dX8_init_42 : decode cX8_init 42 = .ok (.putfield 28, 3) := by decide +kernel
theorem dX8_init_45 : decode cX8_init 45 = .ok (.aload_n 0, 1) := by decide +kernel
theorem dX8_init_46 : decode cX8_init 46 = .ok (.bipush 9, 2) := by decide +kernel
theorem dX8_init_48 : decode cX8_init 48 = .ok (.newarray .int, 2) := by decide +kernel
theorem dX8_init_50 : decode cX8_init 50 = .ok (.putfield 32, 3) := by decide +kernel
theorem dX8_init_53 : decode cX8_init 53 = .ok (.return_, 1) := by decide +kernel
theorem dX8_empty_0 : decode cX8_empty 0 = .ok (.aload_n 0, 1) := by decide +kernel
theorem dX8_empty_1 : decode cX8_empty 1 = .ok (.bipush 6, 2) := by decide +kernel
theorem dX8_empty_3 : decode cX8_empty 3 = .ok (.putfield 9, 3) := by decide +kernel
theorem dX8_empty_6 : decode cX8_empty 6 = .ok (.aload_n 0, 1) := by decide +kernel
theorem dX8_empty_7 : decode cX8_empty 7 = .ok (.iconst 0, 1) := by decide +kernel
theorem dX8_empty_8 : decode cX8_empty 8 = .ok (.putfield 35, 3) := by decide +kernel
theorem dX8_empty_11 : decode cX8_empty 11 = .ok (.aload_n 0, 1) := by decide +kernel
theorem dX8_empty_12 : decode cX8_empty 12 = .ok (.iconst 0, 1) := by decide +kernel
theorem dX8_empty_13 : decode cX8_empty 13 = .ok (.putfield 38, 3) := by decide +kernel
theorem dX8_empty_16 : decode cX8_empty 16 = .ok (.return_, 1) := by decide +kernel
theorem dX8_around_0 : decode cX8_around 0 = .ok (.aload_n 0, 1) := by decide +kernel
theorem dX8_around_1 : decode cX8_around 1 = .ok (.getfield 9, 3) := by decide +kernel
theorem dX8_around_4 : decode cX8_around 4 = .ok (.ifCond .le 14, 3) := by decide +kernel
theorem dX8_around_7 : decode cX8_around 7 = .ok (.iload_n 1, 1) := by decide +kernel
theorem dX8_around_8 : decode cX8_around 8 = .ok (.aload_n 0, 1) := by decide +kernel
theorem dX8_around_9 : decode cX8_around 9 = .ok (.getfield 9, 3) := by decide +kernel
theorem dX8_around_12 : decode cX8_around 12 = .ok (.invokestatic 41, 3) := by decide +kernel
theorem dX8_around_15 : decode cX8_around 15 = .ok (.goto 4, 3) := by decide +kernel
theorem dX8_around_18 : decode cX8_around 18 = .ok (.iconst 0, 1) := by decide +kernel
theorem dX8_around_19 : decode cX8_around 19 = .ok (.ireturn, 1) := by decide +kernel
theorem dX8_seatBefore_0 : decode cX8_seatBefore 0 = .ok (.aload_n 0, 1) := by decide +kernel
theorem dX8_seatBefore_1 : decode cX8_seatBefore 1 = .ok (.aload_n 1, 1) := by decide +kernel
theorem dX8_seatBefore_2 : decode cX8_seatBefore 2 = .ok (.getfield 47, 3) := by decide +kernel
theorem dX8_seatBefore_5 : decode cX8_seatBefore 5 = .ok (.iload_n 2, 1) := by decide +kernel
theorem dX8_seatBefore_6 : decode cX8_seatBefore 6 = .ok (.iaload, 1) := by decide +kernel
theorem dX8_seatBefore_7 : decode cX8_seatBefore 7 = .ok (.aload_n 1, 1) := by decide +kernel
theorem dX8_seatBefore_8 : decode cX8_seatBefore 8 = .ok (.getfield 50, 3) := by decide +kernel
theorem dX8_seatBefore_11 : decode cX8_seatBefore 11 = .ok (.iadd, 1) := by decide +kernel
theorem dX8_seatBefore_12 : decode cX8_seatBefore 12 = .ok (.invokevirtual 53, 3) := by decide +kernel
theorem dX8_seatBefore_15 : decode cX8_seatBefore 15 = .ok (.ireturn, 1) := by decide +kernel
theorem dX8_gap_0 : decode cX8_gap 0 = .ok (.aload_n 0, 1) := by decide +kernel
theorem dX8_gap_1 : decode cX8_gap 1 = .ok (.aload_n 1, 1) := by decide +kernel
theorem dX8_gap_2 : decode cX8_gap 2 = .ok (.getfield 57, 3) := by decide +kernel
theorem dX8_gap_5 : decode cX8_gap 5 = .ok (.iload_n 2, 1) := by decide +kernel
theorem dX8_gap_6 : decode cX8_gap 6 = .ok (.iaload, 1) := by decide +kernel
theorem dX8_gap_7 : decode cX8_gap 7 = .ok (.aload_n 1, 1) := by decide +kernel
theorem dX8_gap_8 : decode cX8_gap 8 = .ok (.getfield 47, 3) := by decide +kernel
theorem dX8_gap_11 : decode cX8_gap 11 = .ok (.iload_n 3, 1) := by decide +kernel
theorem dX8_gap_12 : decode cX8_gap 12 = .ok (.iaload, 1) := by decide +kernel
theorem dX8_gap_13 : decode cX8_gap 13 = .ok (.isub, 1) := by decide +kernel
theorem dX8_gap_14 : decode cX8_gap 14 = .ok (.iload 4, 2) := by decide +kernel
theorem dX8_gap_16 : decode cX8_gap 16 = .ok (.isub, 1) := by decide +kernel
theorem dX8_gap_17 : decode cX8_gap 17 = .ok (.invokevirtual 53, 3) := by decide +kernel
theorem dX8_gap_20 : decode cX8_gap 20 = .ok (.ireturn, 1) := by decide +kernel
theorem dX8_reaches_0 : decode cX8_reaches 0 = .ok (.aload_n 0, 1) := by decide +kernel
theorem dX8_reaches_1 : decode cX8_reaches 1 = .ok (.aload_n 1, 1) := by decide +kernel
theorem dX8_reaches_2 : decode cX8_reaches 2 = .ok (.iload_n 2, 1) := by decide +kernel
theorem dX8_reaches_3 : decode cX8_reaches 3 = .ok (.iload_n 3, 1) := by decide +kernel
theorem dX8_reaches_4 : decode cX8_reaches 4 = .ok (.iload 4, 2) := by decide +kernel
theorem dX8_reaches_6 : decode cX8_reaches 6 = .ok (.invokevirtual 60, 3) := by decide +kernel
theorem dX8_reaches_9 : decode cX8_reaches 9 = .ok (.istore 5, 2) := by decide +kernel
theorem dX8_reaches_11 : decode cX8_reaches 11 = .ok (.iload 5, 2) := by decide +kernel
theorem dX8_reaches_13 : decode cX8_reaches 13 = .ok (.aload_n 0, 1) := by decide +kernel
theorem dX8_reaches_14 : decode cX8_reaches 14 = .ok (.getfield 15, 3) := by decide +kernel
theorem dX8_reaches_17 : decode cX8_reaches 17 = .ok (.iload_n 2, 1) := by decide +kernel
theorem dX8_reaches_18 : decode cX8_reaches 18 = .ok (.iaload, 1) := by decide +kernel
theorem dX8_reaches_19 : decode cX8_reaches 19 = .ok (.if_icmp .le 19, 3) := by decide +kernel
theorem dX8_reaches_22 : decode cX8_reaches 22 = .ok (.aload_n 0, 1) := by decide +kernel
theorem dX8_reaches_23 : decode cX8_reaches 23 = .ok (.getfield 9, 3) := by decide +kernel
theorem dX8_reaches_26 : decode cX8_reaches 26 = .ok (.iload 5, 2) := by decide +kernel
theorem dX8_reaches_28 : decode cX8_reaches 28 = .ok (.isub, 1) := by decide +kernel
theorem dX8_reaches_29 : decode cX8_reaches 29 = .ok (.aload_n 0, 1) := by decide +kernel
theorem dX8_reaches_30 : decode cX8_reaches 30 = .ok (.getfield 15, 3) := by decide +kernel
theorem dX8_reaches_33 : decode cX8_reaches 33 = .ok (.iload_n 2, 1) := by decide +kernel
theorem dX8_reaches_34 : decode cX8_reaches 34 = .ok (.iaload, 1) := by decide +kernel
theorem dX8_reaches_35 : decode cX8_reaches 35 = .ok (.if_icmp .gt 7, 3) := by decide +kernel
theorem dX8_reaches_38 : decode cX8_reaches 38 = .ok (.iconst 1, 1) := by decide +kernel
theorem dX8_reaches_39 : decode cX8_reaches 39 = .ok (.goto 4, 3) := by decide +kernel
theorem dX8_reaches_42 : decode cX8_reaches 42 = .ok (.iconst 0, 1) := by decide +kernel
theorem dX8_reaches_43 : decode cX8_reaches 43 = .ok (.ireturn, 1) := by decide +kernel
theorem dX8_stepsBy_0 : decode cX8_stepsBy 0 = .ok (.aload_n 0, 1) := by decide +kernel
theorem dX8_stepsBy_1 : decode cX8_stepsBy 1 = .ok (.aload_n 1, 1) := by decide +kernel
theorem dX8_stepsBy_2 : decode cX8_stepsBy 2 = .ok (.iload_n 2, 1) := by decide +kernel
theorem dX8_stepsBy_3 : decode cX8_stepsBy 3 = .ok (.iload_n 3, 1) := by decide +kernel
theorem dX8_stepsBy_4 : decode cX8_stepsBy 4 = .ok (.aload_n 1, 1) := by decide +kernel
theorem dX8_stepsBy_5 : decode cX8_stepsBy 5 = .ok (.getfield 50, 3) := by decide +kernel
theorem dX8_stepsBy_8 : decode cX8_stepsBy 8 = .ok (.invokevirtual 64, 3) := by decide +kernel
theorem dX8_stepsBy_11 : decode cX8_stepsBy 11 = .ok (.ifCond .eq 5, 3) := by decide +kernel
theorem dX8_stepsBy_14 : decode cX8_stepsBy 14 = .ok (.iconst 0, 1) := by decide +kernel
theorem dX8_stepsBy_15 : decode cX8_stepsBy 15 = .ok (.ireturn, 1) := by decide +kernel
theorem dX8_stepsBy_16 : decode cX8_stepsBy 16 = .ok (.aload_n 0, 1) := by decide +kernel
theorem dX8_stepsBy_17 : decode cX8_stepsBy 17 = .ok (.aload_n 1, 1) := by decide +kernel
theorem dX8_stepsBy_18 : decode cX8_stepsBy 18 = .ok (.iload_n 2, 1) := by decide +kernel
theorem dX8_stepsBy_19 : decode cX8_stepsBy 19 = .ok (.iload_n 3, 1) := by decide +kernel
theorem dX8_stepsBy_20 : decode cX8_stepsBy 20 = .ok (.aload_n 1, 1) := by decide +kernel
theorem dX8_stepsBy_21 : decode cX8_stepsBy 21 = .ok (.getfield 50, 3) := by decide +kernel
theorem dX8_stepsBy_24 : decode cX8_stepsBy 24 = .ok (.invokevirtual 60, 3) := by decide +kernel
theorem dX8_stepsBy_27 : decode cX8_stepsBy 27 = .ok (.istore 5, 2) := by decide +kernel
theorem dX8_stepsBy_29 : decode cX8_stepsBy 29 = .ok (.iload 4, 2) := by decide +kernel
theorem dX8_stepsBy_31 : decode cX8_stepsBy 31 = .ok (.ifCond .ne 8, 3) := by decide +kernel
theorem dX8_stepsBy_34 : decode cX8_stepsBy 34 = .ok (.iload 5, 2) := by decide +kernel
theorem dX8_stepsBy_36 : decode cX8_stepsBy 36 = .ok (.goto 10, 3) := by decide +kernel
theorem dX8_stepsBy_39 : decode cX8_stepsBy 39 = .ok (.aload_n 0, 1) := by decide +kernel
theorem dX8_stepsBy_40 : decode cX8_stepsBy 40 = .ok (.getfield 9, 3) := by decide +kernel
theorem dX8_stepsBy_43 : decode cX8_stepsBy 43 = .ok (.iload 5, 2) := by decide +kernel
theorem dX8_stepsBy_45 : decode cX8_stepsBy 45 = .ok (.isub, 1) := by decide +kernel
theorem dX8_stepsBy_46 : decode cX8_stepsBy 46 = .ok (.aload_n 0, 1) := by decide +kernel
theorem dX8_stepsBy_47 : decode cX8_stepsBy 47 = .ok (.getfield 15, 3) := by decide +kernel
theorem dX8_stepsBy_50 : decode cX8_stepsBy 50 = .ok (.iload_n 2, 1) := by decide +kernel
theorem dX8_stepsBy_51 : decode cX8_stepsBy 51 = .ok (.iaload, 1) := by decide +kernel
theorem dX8_stepsBy_52 : decode cX8_stepsBy 52 = .ok (.isub, 1) := by decide +kernel
theorem dX8_stepsBy_53 : decode cX8_stepsBy 53 = .ok (.ireturn, 1) := by decide +kernel
theorem dX8_reachedBy_0 : decode cX8_reachedBy 0 = .ok (.iconst 0, 1) := by decide +kernel
theorem dX8_reachedBy_1 : decode cX8_reachedBy 1 = .ok (.istore_n 3, 1) := by decide +kernel
theorem dX8_reachedBy_2 : decode cX8_reachedBy 2 = .ok (.iconst 0, 1) := by decide +kernel
theorem dX8_reachedBy_3 : decode cX8_reachedBy 3 = .ok (.istore 4, 2) := by decide +kernel
theorem dX8_reachedBy_5 : decode cX8_reachedBy 5 = .ok (.iload 4, 2) := by decide +kernel
theorem dX8_reachedBy_7 : decode cX8_reachedBy 7 = .ok (.aload_n 0, 1) := by decide +kernel
theorem dX8_reachedBy_8 : decode cX8_reachedBy 8 = .ok (.getfield 38, 3) := by decide +kernel
theorem dX8_reachedBy_11 : decode cX8_reachedBy 11 = .ok (.if_icmp .ge 31, 3) := by decide +kernel
theorem dX8_reachedBy_14 : decode cX8_reachedBy 14 = .ok (.aload_n 0, 1) := by decide +kernel
theorem dX8_reachedBy_15 : decode cX8_reachedBy 15 = .ok (.aload_n 1, 1) := by decide +kernel
theorem dX8_reachedBy_16 : decode cX8_reachedBy 16 = .ok (.iload_n 2, 1) := by decide +kernel
theorem dX8_reachedBy_17 : decode cX8_reachedBy 17 = .ok (.iload 4, 2) := by decide +kernel
theorem dX8_reachedBy_19 : decode cX8_reachedBy 19 = .ok (.aload_n 1, 1) := by decide +kernel
theorem dX8_reachedBy_20 : decode cX8_reachedBy 20 = .ok (.getfield 50, 3) := by decide +kernel
theorem dX8_reachedBy_23 : decode cX8_reachedBy 23 = .ok (.invokevirtual 64, 3) := by decide +kernel
theorem dX8_reachedBy_26 : decode cX8_reachedBy 26 = .ok (.ifCond .eq 10, 3) := by decide +kernel
theorem dX8_reachedBy_29 : decode cX8_reachedBy 29 = .ok (.iload_n 3, 1) := by decide +kernel
theorem dX8_reachedBy_30 : decode cX8_reachedBy 30 = .ok (.iconst 1, 1) := by decide +kernel
theorem dX8_reachedBy_31 : decode cX8_reachedBy 31 = .ok (.iload 4, 2) := by decide +kernel
theorem dX8_reachedBy_33 : decode cX8_reachedBy 33 = .ok (.ishl, 1) := by decide +kernel
theorem dX8_reachedBy_34 : decode cX8_reachedBy 34 = .ok (.ior, 1) := by decide +kernel
theorem dX8_reachedBy_35 : decode cX8_reachedBy 35 = .ok (.istore_n 3, 1) := by decide +kernel
theorem dX8_reachedBy_36 : decode cX8_reachedBy 36 = .ok (.iinc 4 1, 3) := by decide +kernel
theorem dX8_reachedBy_39 : decode cX8_reachedBy 39 = .ok (.goto (-34), 3) := by decide +kernel
theorem dX8_reachedBy_42 : decode cX8_reachedBy 42 = .ok (.iload_n 3, 1) := by decide +kernel
theorem dX8_reachedBy_43 : decode cX8_reachedBy 43 = .ok (.ireturn, 1) := by decide +kernel
theorem dX8_whoReach_0 : decode cX8_whoReach 0 = .ok (.iconst 0, 1) := by decide +kernel
theorem dX8_whoReach_1 : decode cX8_whoReach 1 = .ok (.istore 4, 2) := by decide +kernel
theorem dX8_whoReach_3 : decode cX8_whoReach 3 = .ok (.iconst 0, 1) := by decide +kernel
theorem dX8_whoReach_4 : decode cX8_whoReach 4 = .ok (.istore 5, 2) := by decide +kernel
theorem dX8_whoReach_6 : decode cX8_whoReach 6 = .ok (.iload 5, 2) := by decide +kernel
theorem dX8_whoReach_8 : decode cX8_whoReach 8 = .ok (.aload_n 0, 1) := by decide +kernel
theorem dX8_whoReach_9 : decode cX8_whoReach 9 = .ok (.getfield 35, 3) := by decide +kernel
theorem dX8_whoReach_12 : decode cX8_whoReach 12 = .ok (.if_icmp .ge 30, 3) := by decide +kernel
theorem dX8_whoReach_15 : decode cX8_whoReach 15 = .ok (.aload_n 0, 1) := by decide +kernel
theorem dX8_whoReach_16 : decode cX8_whoReach 16 = .ok (.aload_n 1, 1) := by decide +kernel
theorem dX8_whoReach_17 : decode cX8_whoReach 17 = .ok (.iload 5, 2) := by decide +kernel
theorem dX8_whoReach_19 : decode cX8_whoReach 19 = .ok (.iload_n 2, 1) := by decide +kernel
theorem dX8_whoReach_20 : decode cX8_whoReach 20 = .ok (.iload_n 3, 1) := by decide +kernel
theorem dX8_whoReach_21 : decode cX8_whoReach 21 = .ok (.invokevirtual 64, 3) := by decide +kernel
theorem dX8_whoReach_24 : decode cX8_whoReach 24 = .ok (.ifCond .eq 12, 3) := by decide +kernel
theorem dX8_whoReach_27 : decode cX8_whoReach 27 = .ok (.iload 4, 2) := by decide +kernel
theorem dX8_whoReach_29 : decode cX8_whoReach 29 = .ok (.iconst 1, 1) := by decide +kernel
theorem dX8_whoReach_30 : decode cX8_whoReach 30 = .ok (.iload 5, 2) := by decide +kernel
theorem dX8_whoReach_32 : decode cX8_whoReach 32 = .ok (.ishl, 1) := by decide +kernel
theorem dX8_whoReach_33 : decode cX8_whoReach 33 = .ok (.ior, 1) := by decide +kernel
theorem dX8_whoReach_34 : decode cX8_whoReach 34 = .ok (.istore 4, 2) := by decide +kernel
theorem dX8_whoReach_36 : decode cX8_whoReach 36 = .ok (.iinc 5 1, 3) := by decide +kernel
theorem dX8_whoReach_39 : decode cX8_whoReach 39 = .ok (.goto (-33), 3) := by decide +kernel
theorem dX8_whoReach_42 : decode cX8_whoReach 42 = .ok (.iload 4, 2) := by decide +kernel
theorem dX8_whoReach_44 : decode cX8_whoReach 44 = .ok (.ireturn, 1) := by decide +kernel
theorem dX8_needs_0 : decode cX8_needs 0 = .ok (.iconst 1, 1) := by decide +kernel
theorem dX8_needs_1 : decode cX8_needs 1 = .ok (.aload_n 0, 1) := by decide +kernel
theorem dX8_needs_2 : decode cX8_needs 2 = .ok (.getfield 38, 3) := by decide +kernel
theorem dX8_needs_5 : decode cX8_needs 5 = .ok (.ishl, 1) := by decide +kernel
theorem dX8_needs_6 : decode cX8_needs 6 = .ok (.iconst 1, 1) := by decide +kernel
theorem dX8_needs_7 : decode cX8_needs 7 = .ok (.isub, 1) := by decide +kernel
theorem dX8_needs_8 : decode cX8_needs 8 = .ok (.istore_n 3, 1) := by decide +kernel
theorem dX8_needs_9 : decode cX8_needs 9 = .ok (.aload_n 0, 1) := by decide +kernel
theorem dX8_needs_10 : decode cX8_needs 10 = .ok (.getfield 19, 3) := by decide +kernel
theorem dX8_needs_13 : decode cX8_needs 13 = .ok (.iload_n 2, 1) := by decide +kernel
theorem dX8_needs_14 : decode cX8_needs 14 = .ok (.iaload, 1) := by decide +kernel
theorem dX8_needs_15 : decode cX8_needs 15 = .ok (.iload_n 3, 1) := by decide +kernel
theorem dX8_needs_16 : decode cX8_needs 16 = .ok (.iand, 1) := by decide +kernel
theorem dX8_needs_17 : decode cX8_needs 17 = .ok (.aload_n 1, 1) := by decide +kernel
theorem dX8_needs_18 : decode cX8_needs 18 = .ok (.getfield 68, 3) := by decide +kernel
theorem dX8_needs_21 : decode cX8_needs 21 = .ok (.iload_n 2, 1) := by decide +kernel
theorem dX8_needs_22 : decode cX8_needs 22 = .ok (.iaload, 1) := by decide +kernel
theorem dX8_needs_23 : decode cX8_needs 23 = .ok (.iconst (-1), 1) := by decide +kernel
theorem dX8_needs_24 : decode cX8_needs 24 = .ok (.ixor, 1) := by decide +kernel
theorem dX8_needs_25 : decode cX8_needs 25 = .ok (.iand, 1) := by decide +kernel
theorem dX8_needs_26 : decode cX8_needs 26 = .ok (.ireturn, 1) := by decide +kernel
theorem dX8_hasEnough_0 : decode cX8_hasEnough 0 = .ok (.iconst 0, 1) := by decide +kernel
theorem dX8_hasEnough_1 : decode cX8_hasEnough 1 = .ok (.istore_n 3, 1) := by decide +kernel
theorem dX8_hasEnough_2 : decode cX8_hasEnough 2 = .ok (.iconst 0, 1) := by decide +kernel
theorem dX8_hasEnough_3 : decode cX8_hasEnough 3 = .ok (.istore 4, 2) := by decide +kernel
theorem dX8_hasEnough_5 : decode cX8_hasEnough 5 = .ok (.iload 4, 2) := by decide +kernel
theorem dX8_hasEnough_7 : decode cX8_hasEnough 7 = .ok (.aload_n 0, 1) := by decide +kernel
theorem dX8_hasEnough_8 : decode cX8_hasEnough 8 = .ok (.getfield 35, 3) := by decide +kernel
theorem dX8_hasEnough_11 : decode cX8_hasEnough 11 = .ok (.if_icmp .ge 23, 3) := by decide +kernel
theorem dX8_hasEnough_14 : decode cX8_hasEnough 14 = .ok (.iload_n 3, 1) := by decide +kernel
theorem dX8_hasEnough_15 : decode cX8_hasEnough 15 = .ok (.aload_n 0, 1) := by decide +kernel
theorem dX8_hasEnough_16 : decode cX8_hasEnough 16 = .ok (.aload_n 1, 1) := by decide +kernel
theorem dX8_hasEnough_17 : decode cX8_hasEnough 17 = .ok (.iload 4, 2) := by decide +kernel
theorem dX8_hasEnough_19 : decode cX8_hasEnough 19 = .ok (.invokevirtual 71, 3) := by decide +kernel
theorem dX8_hasEnough_22 : decode cX8_hasEnough 22 = .ok (.iload_n 2, 1) := by decide +kernel
theorem dX8_hasEnough_23 : decode cX8_hasEnough 23 = .ok (.ishr, 1) := by decide +kernel
theorem dX8_hasEnough_24 : decode cX8_hasEnough 24 = .ok (.iconst 1, 1) := by decide +kernel
theorem dX8_hasEnough_25 : decode cX8_hasEnough 25 = .ok (.iand, 1) := by decide +kernel
theorem dX8_hasEnough_26 : decode cX8_hasEnough 26 = .ok (.iadd, 1) := by decide +kernel
theorem dX8_hasEnough_27 : decode cX8_hasEnough 27 = .ok (.istore_n 3, 1) := by decide +kernel
theorem dX8_hasEnough_28 : decode cX8_hasEnough 28 = .ok (.iinc 4 1, 3) := by decide +kernel
theorem dX8_hasEnough_31 : decode cX8_hasEnough 31 = .ok (.goto (-26), 3) := by decide +kernel
theorem dX8_hasEnough_34 : decode cX8_hasEnough 34 = .ok (.iload_n 3, 1) := by decide +kernel
theorem dX8_hasEnough_35 : decode cX8_hasEnough 35 = .ok (.aload_n 1, 1) := by decide +kernel
theorem dX8_hasEnough_36 : decode cX8_hasEnough 36 = .ok (.getfield 75, 3) := by decide +kernel
theorem dX8_hasEnough_39 : decode cX8_hasEnough 39 = .ok (.iload_n 2, 1) := by decide +kernel
theorem dX8_hasEnough_40 : decode cX8_hasEnough 40 = .ok (.iaload, 1) := by decide +kernel
theorem dX8_hasEnough_41 : decode cX8_hasEnough 41 = .ok (.if_icmp .gt 7, 3) := by decide +kernel
theorem dX8_hasEnough_44 : decode cX8_hasEnough 44 = .ok (.iconst 1, 1) := by decide +kernel
theorem dX8_hasEnough_45 : decode cX8_hasEnough 45 = .ok (.goto 4, 3) := by decide +kernel
theorem dX8_hasEnough_48 : decode cX8_hasEnough 48 = .ok (.iconst 0, 1) := by decide +kernel
theorem dX8_hasEnough_49 : decode cX8_hasEnough 49 = .ok (.ireturn, 1) := by decide +kernel
theorem dX8_tour_0 : decode cX8_tour 0 = .ok (.iconst 0, 1) := by decide +kernel
theorem dX8_tour_1 : decode cX8_tour 1 = .ok (.istore_n 2, 1) := by decide +kernel
theorem dX8_tour_2 : decode cX8_tour 2 = .ok (.iload_n 2, 1) := by decide +kernel
theorem dX8_tour_3 : decode cX8_tour 3 = .ok (.aload_n 0, 1) := by decide +kernel
theorem dX8_tour_4 : decode cX8_tour 4 = .ok (.getfield 38, 3) := by decide +kernel
theorem dX8_tour_7 : decode cX8_tour 7 = .ok (.if_icmp .ge 21, 3) := by decide +kernel
theorem dX8_tour_10 : decode cX8_tour 10 = .ok (.aload_n 0, 1) := by decide +kernel
theorem dX8_tour_11 : decode cX8_tour 11 = .ok (.aload_n 1, 1) := by decide +kernel
theorem dX8_tour_12 : decode cX8_tour 12 = .ok (.iload_n 2, 1) := by decide +kernel
theorem dX8_tour_13 : decode cX8_tour 13 = .ok (.invokevirtual 78, 3) := by decide +kernel
theorem dX8_tour_16 : decode cX8_tour 16 = .ok (.ifCond .ne 6, 3) := by decide +kernel
theorem dX8_tour_19 : decode cX8_tour 19 = .ok (.bipush (-9), 2) := by decide +kernel
theorem dX8_tour_21 : decode cX8_tour 21 = .ok (.ireturn, 1) := by decide +kernel
theorem dX8_tour_22 : decode cX8_tour 22 = .ok (.iinc 2 1, 3) := by decide +kernel
theorem dX8_tour_25 : decode cX8_tour 25 = .ok (.goto (-23), 3) := by decide +kernel
theorem dX8_tour_28 : decode cX8_tour 28 = .ok (.aload_n 0, 1) := by decide +kernel
theorem dX8_tour_29 : decode cX8_tour 29 = .ok (.aload_n 1, 1) := by decide +kernel
theorem dX8_tour_30 : decode cX8_tour 30 = .ok (.invokevirtual 82, 3) := by decide +kernel
theorem dX8_tour_33 : decode cX8_tour 33 = .ok (.aload_n 0, 1) := by decide +kernel
theorem dX8_tour_34 : decode cX8_tour 34 = .ok (.getfield 9, 3) := by decide +kernel
theorem dX8_tour_37 : decode cX8_tour 37 = .ok (.iconst 1, 1) := by decide +kernel
theorem dX8_tour_38 : decode cX8_tour 38 = .ok (.isub, 1) := by decide +kernel
theorem dX8_tour_39 : decode cX8_tour 39 = .ok (.istore_n 2, 1) := by decide +kernel
theorem dX8_tour_40 : decode cX8_tour 40 = .ok (.iconst 0, 1) := by decide +kernel
theorem dX8_tour_41 : decode cX8_tour 41 = .ok (.istore_n 3, 1) := by decide +kernel
theorem dX8_tour_42 : decode cX8_tour 42 = .ok (.aload_n 0, 1) := by decide +kernel
theorem dX8_tour_43 : decode cX8_tour 43 = .ok (.getfield 9, 3) := by decide +kernel
theorem dX8_tour_46 : decode cX8_tour 46 = .ok (.iconst 1, 1) := by decide +kernel
theorem dX8_tour_47 : decode cX8_tour 47 = .ok (.isub, 1) := by decide +kernel
theorem dX8_tour_48 : decode cX8_tour 48 = .ok (.istore 4, 2) := by decide +kernel
theorem dX8_tour_50 : decode cX8_tour 50 = .ok (.iload 4, 2) := by decide +kernel
theorem dX8_tour_52 : decode cX8_tour 52 = .ok (.ifCond .lt 37, 3) := by decide +kernel
theorem dX8_tour_55 : decode cX8_tour 55 = .ok (.iload_n 2, 1) := by decide +kernel
theorem dX8_tour_56 : decode cX8_tour 56 = .ok (.iload 4, 2) := by decide +kernel
theorem dX8_tour_58 : decode cX8_tour 58 = .ok (.iload_n 3, 1) := by decide +kernel
theorem dX8_tour_59 : decode cX8_tour 59 = .ok (.iadd, 1) := by decide +kernel
theorem dX8_tour_60 : decode cX8_tour 60 = .ok (.iload 4, 2) := by decide +kernel
theorem dX8_tour_62 : decode cX8_tour 62 = .ok (.iload_n 3, 1) := by decide +kernel
theorem dX8_tour_63 : decode cX8_tour 63 = .ok (.invokestatic 86, 3) := by decide +kernel
theorem dX8_tour_66 : decode cX8_tour 66 = .ok (.iadd, 1) := by decide +kernel
theorem dX8_tour_67 : decode cX8_tour 67 = .ok (.invokestatic 86, 3) := by decide +kernel
theorem dX8_tour_70 : decode cX8_tour 70 = .ok (.istore_n 2, 1) := by decide +kernel
theorem dX8_tour_71 : decode cX8_tour 71 = .ok (.iload_n 3, 1) := by decide +kernel
theorem dX8_tour_72 : decode cX8_tour 72 = .ok (.aload_n 0, 1) := by decide +kernel
theorem dX8_tour_73 : decode cX8_tour 73 = .ok (.getfield 32, 3) := by decide +kernel
theorem dX8_tour_76 : decode cX8_tour 76 = .ok (.iload 4, 2) := by decide +kernel
theorem dX8_tour_78 : decode cX8_tour 78 = .ok (.iaload, 1) := by decide +kernel
theorem dX8_tour_79 : decode cX8_tour 79 = .ok (.invokestatic 89, 3) := by decide +kernel
theorem dX8_tour_82 : decode cX8_tour 82 = .ok (.istore_n 3, 1) := by decide +kernel
theorem dX8_tour_83 : decode cX8_tour 83 = .ok (.iinc 4 (-1), 3) := by decide +kernel
theorem dX8_tour_86 : decode cX8_tour 86 = .ok (.goto (-36), 3) := by decide +kernel
theorem dX8_tour_89 : decode cX8_tour 89 = .ok (.iload_n 2, 1) := by decide +kernel
theorem dX8_tour_90 : decode cX8_tour 90 = .ok (.ireturn, 1) := by decide +kernel
theorem dX8_fillFurthest_0 : decode cX8_fillFurthest 0 = .ok (.aload_n 0, 1) := by decide +kernel
theorem dX8_fillFurthest_1 : decode cX8_fillFurthest 1 = .ok (.getfield 32, 3) := by decide +kernel
theorem dX8_fillFurthest_4 : decode cX8_fillFurthest 4 = .ok (.iconst 0, 1) := by decide +kernel
theorem dX8_fillFurthest_5 : decode cX8_fillFurthest 5 = .ok (.invokestatic 92, 3) := by decide +kernel
theorem dX8_fillFurthest_8 : decode cX8_fillFurthest 8 = .ok (.iconst 0, 1) := by decide +kernel
theorem dX8_fillFurthest_9 : decode cX8_fillFurthest 9 = .ok (.istore_n 2, 1) := by decide +kernel
theorem dX8_fillFurthest_10 : decode cX8_fillFurthest 10 = .ok (.iload_n 2, 1) := by decide +kernel
theorem dX8_fillFurthest_11 : decode cX8_fillFurthest 11 = .ok (.aload_n 0, 1) := by decide +kernel
theorem dX8_fillFurthest_12 : decode cX8_fillFurthest 12 = .ok (.getfield 35, 3) := by decide +kernel
theorem dX8_fillFurthest_15 : decode cX8_fillFurthest 15 = .ok (.if_icmp .ge 81, 3) := by decide +kernel
theorem dX8_fillFurthest_18 : decode cX8_fillFurthest 18 = .ok (.aload_n 0, 1) := by decide +kernel
theorem dX8_fillFurthest_19 : decode cX8_fillFurthest 19 = .ok (.aload_n 1, 1) := by decide +kernel
theorem dX8_fillFurthest_20 : decode cX8_fillFurthest 20 = .ok (.iload_n 2, 1) := by decide +kernel
theorem dX8_fillFurthest_21 : decode cX8_fillFurthest 21 = .ok (.invokevirtual 71, 3) := by decide +kernel
theorem dX8_fillFurthest_24 : decode cX8_fillFurthest 24 = .ok (.istore_n 3, 1) := by decide +kernel
theorem dX8_fillFurthest_25 : decode cX8_fillFurthest 25 = .ok (.iconst 0, 1) := by decide +kernel
theorem dX8_fillFurthest_26 : decode cX8_fillFurthest 26 = .ok (.istore 4, 2) := by decide +kernel
theorem dX8_fillFurthest_28 : decode cX8_fillFurthest 28 = .ok (.iload 4, 2) := by decide +kernel
theorem dX8_fillFurthest_30 : decode cX8_fillFurthest 30 = .ok (.aload_n 0, 1) := by decide +kernel
theorem dX8_fillFurthest_31 : decode cX8_fillFurthest 31 = .ok (.getfield 38, 3) := by decide +kernel
theorem dX8_fillFurthest_34 : decode cX8_fillFurthest 34 = .ok (.if_icmp .ge 56, 3) := by decide +kernel
theorem dX8_fillFurthest_37 : decode cX8_fillFurthest 37 = .ok (.iload_n 3, 1) := by decide +kernel
theorem dX8_fillFurthest_38 : decode cX8_fillFurthest 38 = .ok (.iload 4, 2) := by decide +kernel
theorem dX8_fillFurthest_40 : decode cX8_fillFurthest 40 = .ok (.ishr, 1) := by decide +kernel
theorem dX8_fillFurthest_41 : decode cX8_fillFurthest 41 = .ok (.iconst 1, 1) := by decide +kernel
theorem dX8_fillFurthest_42 : decode cX8_fillFurthest 42 = .ok (.iand, 1) := by decide +kernel
theorem dX8_fillFurthest_43 : decode cX8_fillFurthest 43 = .ok (.iconst 1, 1) := by decide +kernel
theorem dX8_fillFurthest_44 : decode cX8_fillFurthest 44 = .ok (.if_icmp .ne 40, 3) := by decide +kernel
theorem dX8_fillFurthest_47 : decode cX8_fillFurthest 47 = .ok (.aload_n 0, 1) := by decide +kernel
theorem dX8_fillFurthest_48 : decode cX8_fillFurthest 48 = .ok (.aload_n 1, 1) := by decide +kernel
theorem dX8_fillFurthest_49 : decode cX8_fillFurthest 49 = .ok (.iload_n 2, 1) := by decide +kernel
theorem dX8_fillFurthest_50 : decode cX8_fillFurthest 50 = .ok (.iload 4, 2) := by decide +kernel
theorem dX8_fillFurthest_52 : decode cX8_fillFurthest 52 = .ok (.iconst 1, 1) := by decide +kernel
theorem dX8_fillFurthest_53 : decode cX8_fillFurthest 53 = .ok (.invokevirtual 98, 3) := by decide +kernel
theorem dX8_fillFurthest_56 : decode cX8_fillFurthest 56 = .ok (.istore 5, 2) := by decide +kernel
theorem dX8_fillFurthest_58 : decode cX8_fillFurthest 58 = .ok (.aload_n 0, 1) := by decide +kernel
theorem dX8_fillFurthest_59 : decode cX8_fillFurthest 59 = .ok (.getfield 32, 3) := by decide +kernel
theorem dX8_fillFurthest_62 : decode cX8_fillFurthest 62 = .ok (.iload 5, 2) := by decide +kernel
theorem dX8_fillFurthest_64 : decode cX8_fillFurthest 64 = .ok (.aload_n 0, 1) := by decide +kernel
theorem dX8_fillFurthest_65 : decode cX8_fillFurthest 65 = .ok (.getfield 32, 3) := by decide +kernel
theorem dX8_fillFurthest_68 : decode cX8_fillFurthest 68 = .ok (.iload 5, 2) := by decide +kernel
theorem dX8_fillFurthest_70 : decode cX8_fillFurthest 70 = .ok (.iaload, 1) := by decide +kernel
theorem dX8_fillFurthest_71 : decode cX8_fillFurthest 71 = .ok (.aload_n 0, 1) := by decide +kernel
theorem dX8_fillFurthest_72 : decode cX8_fillFurthest 72 = .ok (.aload_n 1, 1) := by decide +kernel
theorem dX8_fillFurthest_73 : decode cX8_fillFurthest 73 = .ok (.iload_n 2, 1) := by decide +kernel
theorem dX8_fillFurthest_74 : decode cX8_fillFurthest 74 = .ok (.iload 4, 2) := by decide +kernel
theorem dX8_fillFurthest_76 : decode cX8_fillFurthest 76 = .ok (.iconst 0, 1) := by decide +kernel
theorem dX8_fillFurthest_77 : decode cX8_fillFurthest 77 = .ok (.invokevirtual 98, 3) := by decide +kernel
theorem dX8_fillFurthest_80 : decode cX8_fillFurthest 80 = .ok (.invokestatic 89, 3) := by decide +kernel
theorem dX8_fillFurthest_83 : decode cX8_fillFurthest 83 = .ok (.iastore, 1) := by decide +kernel
theorem dX8_fillFurthest_84 : decode cX8_fillFurthest 84 = .ok (.iinc 4 1, 3) := by decide +kernel
theorem dX8_fillFurthest_87 : decode cX8_fillFurthest 87 = .ok (.goto (-59), 3) := by decide +kernel
theorem dX8_fillFurthest_90 : decode cX8_fillFurthest 90 = .ok (.iinc 2 1, 3) := by decide +kernel
theorem dX8_fillFurthest_93 : decode cX8_fillFurthest 93 = .ok (.goto (-83), 3) := by decide +kernel
theorem dX8_fillFurthest_96 : decode cX8_fillFurthest 96 = .ok (.return_, 1) := by decide +kernel
theorem dX9_init_0 : decode cX9_init 0 = .ok (.aload_n 0, 1) := by decide +kernel
theorem dX9_init_1 : decode cX9_init 1 = .ok (.invokespecial 3, 3) := by decide +kernel
theorem dX9_init_4 : decode cX9_init 4 = .ok (.aload_n 0, 1) := by decide +kernel
theorem dX9_init_5 : decode cX9_init 5 = .ok (.sipush 140, 3) := by decide +kernel
theorem dX9_init_8 : decode cX9_init 8 = .ok (.newarray .char, 2) := by decide +kernel
theorem dX9_init_10 : decode cX9_init 10 = .ok (.putfield 9, 3) := by decide +kernel
theorem dX9_init_13 : decode cX9_init 13 = .ok (.aload_n 0, 1) := by decide +kernel
theorem dX9_init_14 : decode cX9_init 14 = .ok (.new 15, 3) := by decide +kernel
theorem dX9_init_17 : decode cX9_init 17 = .ok (.dup, 1) := by decide +kernel
theorem dX9_init_18 : decode cX9_init 18 = .ok (.invokespecial 17, 3) := by decide +kernel
theorem dX9_init_21 : decode cX9_init 21 = .ok (.putfield 18, 3) := by decide +kernel
theorem dX9_init_24 : decode cX9_init 24 = .ok (.return_, 1) := by decide +kernel
theorem dX9_read_0 : decode cX9_read 0 = .ok (.aload_n 0, 1) := by decide +kernel
theorem dX9_read_1 : decode cX9_read 1 = .ok (.getfield 18, 3) := by decide +kernel
theorem dX9_read_4 : decode cX9_read 4 = .ok (.invokevirtual 22, 3) := by decide +kernel
theorem dX9_read_7 : decode cX9_read 7 = .ok (.aload_n 0, 1) := by decide +kernel
theorem dX9_read_8 : decode cX9_read 8 = .ok (.iconst 0, 1) := by decide +kernel
theorem dX9_read_9 : decode cX9_read 9 = .ok (.putfield 25, 3) := by decide +kernel
theorem dX9_read_12 : decode cX9_read 12 = .ok (.aload_n 0, 1) := by decide +kernel
theorem dX9_read_13 : decode cX9_read 13 = .ok (.invokevirtual 29, 3) := by decide +kernel
theorem dX9_read_16 : decode cX9_read 16 = .ok (.iconst 0, 1) := by decide +kernel
theorem dX9_read_17 : decode cX9_read 17 = .ok (.istore_n 1, 1) := by decide +kernel
theorem dX9_read_18 : decode cX9_read 18 = .ok (.aload_n 0, 1) := by decide +kernel
theorem dX9_read_19 : decode cX9_read 19 = .ok (.getfield 32, 3) := by decide +kernel
theorem dX9_read_22 : decode cX9_read 22 = .ok (.ifCond .eq 40, 3) := by decide +kernel
theorem dX9_read_25 : decode cX9_read 25 = .ok (.iload_n 1, 1) := by decide +kernel
theorem dX9_read_26 : decode cX9_read 26 = .ok (.sipush 140, 3) := by decide +kernel
theorem dX9_read_29 : decode cX9_read 29 = .ok (.if_icmp .ge 33, 3) := by decide +kernel
theorem dX9_read_32 : decode cX9_read 32 = .ok (.aload_n 0, 1) := by decide +kernel
theorem dX9_read_33 : decode cX9_read 33 = .ok (.iload_n 1, 1) := by decide +kernel
theorem dX9_read_34 : decode cX9_read 34 = .ok (.ifCond .ne 7, 3) := by decide +kernel
theorem dX9_read_37 : decode cX9_read 37 = .ok (.iconst 1, 1) := by decide +kernel
theorem dX9_read_38 : decode cX9_read 38 = .ok (.goto 4, 3) := by decide +kernel
theorem dX9_read_41 : decode cX9_read 41 = .ok (.iconst 0, 1) := by decide +kernel
theorem dX9_read_42 : decode cX9_read 42 = .ok (.invokevirtual 35, 3) := by decide +kernel
theorem dX9_read_45 : decode cX9_read 45 = .ok (.ifCond .ne 11, 3) := by decide +kernel
theorem dX9_read_48 : decode cX9_read 48 = .ok (.bipush (-10), 2) := by decide +kernel
theorem dX9_read_50 : decode cX9_read 50 = .ok (.aload_n 0, 1) := by decide +kernel
theorem dX9_read_51 : decode cX9_read 51 = .ok (.getfield 39, 3) := by decide +kernel
theorem dX9_read_54 : decode cX9_read 54 = .ok (.isub, 1) := by decide +kernel
theorem dX9_read_55 : decode cX9_read 55 = .ok (.ireturn, 1) := by decide +kernel
theorem dX9_read_56 : decode cX9_read 56 = .ok (.iinc 1 1, 3) := by decide +kernel
theorem dX9_read_59 : decode cX9_read 59 = .ok (.goto (-41), 3) := by decide +kernel
theorem dX9_read_62 : decode cX9_read 62 = .ok (.iload_n 1, 1) := by decide +kernel
theorem dX9_read_63 : decode cX9_read 63 = .ok (.ireturn, 1) := by decide +kernel
theorem dX9_handOver_0 : decode cX9_handOver 0 = .ok (.aload_n 0, 1) := by decide +kernel
theorem dX9_handOver_1 : decode cX9_handOver 1 = .ok (.getfield 18, 3) := by decide +kernel
theorem dX9_handOver_4 : decode cX9_handOver 4 = .ok (.astore_n 2, 1) := by decide +kernel
theorem dX9_handOver_5 : decode cX9_handOver 5 = .ok (.aload_n 0, 1) := by decide +kernel
theorem dX9_handOver_6 : decode cX9_handOver 6 = .ok (.aload_n 1, 1) := by decide +kernel
theorem dX9_handOver_7 : decode cX9_handOver 7 = .ok (.putfield 18, 3) := by decide +kernel
theorem dX9_handOver_10 : decode cX9_handOver 10 = .ok (.aload_n 2, 1) := by decide +kernel
theorem dX9_handOver_11 : decode cX9_handOver 11 = .ok (.areturn, 1) := by decide +kernel
theorem dX9_readItem_0 : decode cX9_readItem 0 = .ok (.aload_n 0, 1) := by decide +kernel
theorem dX9_readItem_1 : decode cX9_readItem 1 = .ok (.bipush 110, 2) := by decide +kernel
theorem dX9_readItem_3 : decode cX9_readItem 3 = .ok (.invokevirtual 42, 3) := by decide +kernel
theorem dX9_readItem_6 : decode cX9_readItem 6 = .ok (.ifCond .eq 20, 3) := by decide +kernel
theorem dX9_readItem_9 : decode cX9_readItem 9 = .ok (.iload_n 1, 1) := by decide +kernel
theorem dX9_readItem_10 : decode cX9_readItem 10 = .ok (.ifCond .eq 14, 3) := by decide +kernel
theorem dX9_readItem_13 : decode cX9_readItem 13 = .ok (.aload_n 0, 1) := by decide +kernel
theorem dX9_readItem_14 : decode cX9_readItem 14 = .ok (.invokevirtual 46, 3) := by decide +kernel
theorem dX9_readItem_17 : decode cX9_readItem 17 = .ok (.ifCond .eq 7, 3) := by decide +kernel
theorem dX9_readItem_20 : decode cX9_readItem 20 = .ok (.iconst 1, 1) := by decide +kernel
theorem dX9_readItem_21 : decode cX9_readItem 21 = .ok (.goto 4, 3) := by decide +kernel
theorem dX9_readItem_24 : decode cX9_readItem 24 = .ok (.iconst 0, 1) := by decide +kernel
theorem dX9_readItem_25 : decode cX9_readItem 25 = .ok (.ireturn, 1) := by decide +kernel
theorem dX9_readItem_26 : decode cX9_readItem 26 = .ok (.aload_n 0, 1) := by decide +kernel
theorem dX9_readItem_27 : decode cX9_readItem 27 = .ok (.bipush 103, 2) := by decide +kernel
theorem dX9_readItem_29 : decode cX9_readItem 29 = .ok (.invokevirtual 42, 3) := by decide +kernel
theorem dX9_readItem_32 : decode cX9_readItem 32 = .ok (.ifCond .eq 28, 3) := by decide +kernel
theorem dX9_readItem_35 : decode cX9_readItem 35 = .ok (.aload_n 0, 1) := by decide +kernel
theorem dX9_readItem_36 : decode cX9_readItem 36 = .ok (.getfield 18, 3) := by decide +kernel
theorem dX9_readItem_39 : decode cX9_readItem 39 = .ok (.getfield 50, 3) := by decide +kernel
theorem dX9_readItem_42 : decode cX9_readItem 42 = .ok (.bipush 6, 2) := by decide +kernel
theorem dX9_readItem_44 : decode cX9_readItem 44 = .ok (.if_icmp .ge 14, 3) := by decide +kernel
theorem dX9_readItem_47 : decode cX9_readItem 47 = .ok (.aload_n 0, 1) := by decide +kernel
theorem dX9_readItem_48 : decode cX9_readItem 48 = .ok (.invokevirtual 53, 3) := by decide +kernel
theorem dX9_readItem_51 : decode cX9_readItem 51 = .ok (.ifCond .eq 7, 3) := by decide +kernel
theorem dX9_readItem_54 : decode cX9_readItem 54 = .ok (.iconst 1, 1) := by decide +kernel
theorem dX9_readItem_55 : decode cX9_readItem 55 = .ok (.goto 4, 3) := by decide +kernel
theorem dX9_readItem_58 : decode cX9_readItem 58 = .ok (.iconst 0, 1) := by decide +kernel
theorem dX9_readItem_59 : decode cX9_readItem 59 = .ok (.ireturn, 1) := by decide +kernel
theorem dX9_readItem_60 : decode cX9_readItem 60 = .ok (.aload_n 0, 1) := by decide +kernel
theorem dX9_readItem_61 : decode cX9_readItem 61 = .ok (.bipush 100, 2) := by decide +kernel
theorem dX9_readItem_63 : decode cX9_readItem 63 = .ok (.invokevirtual 42, 3) := by decide +kernel
theorem dX9_readItem_66 : decode cX9_readItem 66 = .ok (.ifCond .eq 26, 3) := by decide +kernel
theorem dX9_readItem_69 : decode cX9_readItem 69 = .ok (.aload_n 0, 1) := by decide +kernel
theorem dX9_readItem_70 : decode cX9_readItem 70 = .ok (.getfield 18, 3) := by decide +kernel
theorem dX9_readItem_73 : decode cX9_readItem 73 = .ok (.getfield 56, 3) := by decide +kernel
theorem dX9_readItem_76 : decode cX9_readItem 76 = .ok (.bipush 6, 2) := by decide +kernel
theorem dX9_readItem_78 : decode cX9_readItem 78 = .ok (.if_icmp .ge 14, 3) := by decide +kernel
theorem dX9_readItem_81 : decode cX9_readItem 81 = .ok (.aload_n 0, 1) := by decide +kernel
theorem dX9_readItem_82 : decode cX9_readItem 82 = .ok (.invokevirtual 59, 3) := by decide +kernel
theorem dX9_readItem_85 : decode cX9_readItem 85 = .ok (.ifCond .eq 7, 3) := by decide +kernel
theorem dX9_readItem_88 : decode cX9_readItem 88 = .ok (.iconst 1, 1) := by decide +kernel
theorem dX9_readItem_89 : decode cX9_readItem 89 = .ok (.goto 4, 3) := by decide +kernel
theorem dX9_readItem_92 : decode cX9_readItem 92 = .ok (.iconst 0, 1) := by decide +kernel
theorem dX9_readItem_93 : decode cX9_readItem 93 = .ok (.ireturn, 1) := by decide +kernel
theorem dX9_readSeats_0 : decode cX9_readSeats 0 = .ok (.aload_n 0, 1) := by decide +kernel
theorem dX9_readSeats_1 : decode cX9_readSeats 1 = .ok (.iconst 3, 1) := by decide +kernel
theorem dX9_readSeats_2 : decode cX9_readSeats 2 = .ok (.bipush 9, 2) := by decide +kernel
theorem dX9_readSeats_4 : decode cX9_readSeats 4 = .ok (.invokevirtual 62, 3) := by decide +kernel
theorem dX9_readSeats_7 : decode cX9_readSeats 7 = .ok (.ifCond .ne 5, 3) := by decide +kernel
theorem dX9_readSeats_10 : decode cX9_readSeats 10 = .ok (.iconst 0, 1) := by decide +kernel
theorem dX9_readSeats_11 : decode cX9_readSeats 11 = .ok (.ireturn, 1) := by decide +kernel
theorem dX9_readSeats_12 : decode cX9_readSeats 12 = .ok (.aload_n 0, 1) := by decide +kernel
theorem dX9_readSeats_13 : decode cX9_readSeats 13 = .ok (.getfield 18, 3) := by decide +kernel
theorem dX9_readSeats_16 : decode cX9_readSeats 16 = .ok (.aload_n 0, 1) := by decide +kernel
theorem dX9_readSeats_17 : decode cX9_readSeats 17 = .ok (.getfield 66, 3) := by decide +kernel
theorem dX9_readSeats_20 : decode cX9_readSeats 20 = .ok (.putfield 69, 3) := by decide +kernel
theorem dX9_readSeats_23 : decode cX9_readSeats 23 = .ok (.aload_n 0, 1) := by decide +kernel
theorem dX9_readSeats_24 : decode cX9_readSeats 24 = .ok (.invokevirtual 72, 3) := by decide +kernel
theorem dX9_readSeats_27 : decode cX9_readSeats 27 = .ok (.ireturn, 1) := by decide +kernel
theorem dX9_readGuest_0 : decode cX9_readGuest 0 = .ok (.aload_n 0, 1) := by decide +kernel
theorem dX9_readGuest_1 : decode cX9_readGuest 1 = .ok (.getfield 18, 3) := by decide +kernel
theorem dX9_readGuest_4 : decode cX9_readGuest 4 = .ok (.getfield 50, 3) := by decide +kernel
theorem dX9_readGuest_7 : decode cX9_readGuest 7 = .ok (.istore_n 1, 1) := by decide +kernel
theorem dX9_readGuest_8 : decode cX9_readGuest 8 = .ok (.aload_n 0, 1) := by decide +kernel
theorem dX9_readGuest_9 : decode cX9_readGuest 9 = .ok (.iconst 0, 1) := by decide +kernel
theorem dX9_readGuest_10 : decode cX9_readGuest 10 = .ok (.aload_n 0, 1) := by decide +kernel
theorem dX9_readGuest_11 : decode cX9_readGuest 11 = .ok (.getfield 18, 3) := by decide +kernel
theorem dX9_readGuest_14 : decode cX9_readGuest 14 = .ok (.getfield 69, 3) := by decide +kernel
theorem dX9_readGuest_17 : decode cX9_readGuest 17 = .ok (.iconst 1, 1) := by decide +kernel
theorem dX9_readGuest_18 : decode cX9_readGuest 18 = .ok (.isub, 1) := by decide +kernel
theorem dX9_readGuest_19 : decode cX9_readGuest 19 = .ok (.invokevirtual 62, 3) := by decide +kernel
theorem dX9_readGuest_22 : decode cX9_readGuest 22 = .ok (.ifCond .eq 21, 3) := by decide +kernel
theorem dX9_readGuest_25 : decode cX9_readGuest 25 = .ok (.aload_n 0, 1) := by decide +kernel
theorem dX9_readGuest_26 : decode cX9_readGuest 26 = .ok (.aload_n 0, 1) := by decide +kernel
theorem dX9_readGuest_27 : decode cX9_readGuest 27 = .ok (.getfield 18, 3) := by decide +kernel
theorem dX9_readGuest_30 : decode cX9_readGuest 30 = .ok (.getfield 75, 3) := by decide +kernel
theorem dX9_readGuest_33 : decode cX9_readGuest 33 = .ok (.getfield 78, 3) := by decide +kernel
theorem dX9_readGuest_36 : decode cX9_readGuest 36 = .ok (.iload_n 1, 1) := by decide +kernel
theorem dX9_readGuest_37 : decode cX9_readGuest 37 = .ok (.invokevirtual 84, 3) := by decide +kernel
theorem dX9_readGuest_40 : decode cX9_readGuest 40 = .ok (.ifCond .eq 5, 3) := by decide +kernel
theorem dX9_readGuest_43 : decode cX9_readGuest 43 = .ok (.iconst 0, 1) := by decide +kernel
theorem dX9_readGuest_44 : decode cX9_readGuest 44 = .ok (.ireturn, 1) := by decide +kernel
theorem dX9_readGuest_45 : decode cX9_readGuest 45 = .ok (.aload_n 0, 1) := by decide +kernel
theorem dX9_readGuest_46 : decode cX9_readGuest 46 = .ok (.getfield 18, 3) := by decide +kernel
theorem dX9_readGuest_49 : decode cX9_readGuest 49 = .ok (.getfield 75, 3) := by decide +kernel
theorem dX9_readGuest_52 : decode cX9_readGuest 52 = .ok (.getfield 78, 3) := by decide +kernel
theorem dX9_readGuest_55 : decode cX9_readGuest 55 = .ok (.iload_n 1, 1) := by decide +kernel
theorem dX9_readGuest_56 : decode cX9_readGuest 56 = .ok (.aload_n 0, 1) := by decide +kernel
theorem dX9_readGuest_57 : decode cX9_readGuest 57 = .ok (.getfield 66, 3) := by decide +kernel
theorem dX9_readGuest_60 : decode cX9_readGuest 60 = .ok (.iastore, 1) := by decide +kernel
theorem dX9_readGuest_61 : decode cX9_readGuest 61 = .ok (.aload_n 0, 1) := by decide +kernel
theorem dX9_readGuest_62 : decode cX9_readGuest 62 = .ok (.iconst 0, 1) := by decide +kernel
theorem dX9_readGuest_63 : decode cX9_readGuest 63 = .ok (.iconst 2, 1) := by decide +kernel
theorem dX9_readGuest_64 : decode cX9_readGuest 64 = .ok (.invokevirtual 62, 3) := by decide +kernel
theorem dX9_readGuest_67 : decode cX9_readGuest 67 = .ok (.ifCond .ne 5, 3) := by decide +kernel
theorem dX9_readGuest_70 : decode cX9_readGuest 70 = .ok (.iconst 0, 1) := by decide +kernel
theorem dX9_readGuest_71 : decode cX9_readGuest 71 = .ok (.ireturn, 1) := by decide +kernel
theorem dX9_readGuest_72 : decode cX9_readGuest 72 = .ok (.aload_n 0, 1) := by decide +kernel
theorem dX9_readGuest_73 : decode cX9_readGuest 73 = .ok (.getfield 18, 3) := by decide +kernel
theorem dX9_readGuest_76 : decode cX9_readGuest 76 = .ok (.getfield 88, 3) := by decide +kernel
theorem dX9_readGuest_79 : decode cX9_readGuest 79 = .ok (.iload_n 1, 1) := by decide +kernel
theorem dX9_readGuest_80 : decode cX9_readGuest 80 = .ok (.aload_n 0, 1) := by decide +kernel
theorem dX9_readGuest_81 : decode cX9_readGuest 81 = .ok (.getfield 66, 3) := by decide +kernel
theorem dX9_readGuest_84 : decode cX9_readGuest 84 = .ok (.iastore, 1) := by decide +kernel
theorem dX9_readGuest_85 : decode cX9_readGuest 85 = .ok (.aload_n 0, 1) := by decide +kernel
theorem dX9_readGuest_86 : decode cX9_readGuest 86 = .ok (.invokevirtual 91, 3) := by decide +kernel
theorem dX9_readGuest_89 : decode cX9_readGuest 89 = .ok (.ifCond .ne 5, 3) := by decide +kernel
theorem dX9_readGuest_92 : decode cX9_readGuest 92 = .ok (.iconst 0, 1) := by decide +kernel
theorem dX9_readGuest_93 : decode cX9_readGuest 93 = .ok (.ireturn, 1) := by decide +kernel
theorem dX9_readGuest_94 : decode cX9_readGuest 94 = .ok (.aload_n 0, 1) := by decide +kernel
theorem dX9_readGuest_95 : decode cX9_readGuest 95 = .ok (.getfield 18, 3) := by decide +kernel
theorem dX9_readGuest_98 : decode cX9_readGuest 98 = .ok (.getfield 94, 3) := by decide +kernel
theorem dX9_readGuest_101 : decode cX9_readGuest 101 = .ok (.iload_n 1, 1) := by decide +kernel
theorem dX9_readGuest_102 : decode cX9_readGuest 102 = .ok (.aload_n 0, 1) := by decide +kernel
theorem dX9_readGuest_103 : decode cX9_readGuest 103 = .ok (.getfield 66, 3) := by decide +kernel
theorem dX9_readGuest_106 : decode cX9_readGuest 106 = .ok (.iastore, 1) := by decide +kernel
theorem dX9_readGuest_107 : decode cX9_readGuest 107 = .ok (.aload_n 0, 1) := by decide +kernel
theorem dX9_readGuest_108 : decode cX9_readGuest 108 = .ok (.getfield 18, 3) := by decide +kernel
theorem dX9_readGuest_111 : decode cX9_readGuest 111 = .ok (.dup, 1) := by decide +kernel
theorem dX9_readGuest_112 : decode cX9_readGuest 112 = .ok (.getfield 50, 3) := by decide +kernel
theorem dX9_readGuest_115 : decode cX9_readGuest 115 = .ok (.iconst 1, 1) := by decide +kernel
theorem dX9_readGuest_116 : decode cX9_readGuest 116 = .ok (.iadd, 1) := by decide +kernel
theorem dX9_readGuest_117 : decode cX9_readGuest 117 = .ok (.putfield 50, 3) := by decide +kernel
theorem dX9_readGuest_120 : decode cX9_readGuest 120 = .ok (.aload_n 0, 1) := by decide +kernel
theorem dX9_readGuest_121 : decode cX9_readGuest 121 = .ok (.invokevirtual 72, 3) := by decide +kernel
theorem dX9_readGuest_124 : decode cX9_readGuest 124 = .ok (.ireturn, 1) := by decide +kernel
theorem dX9_readDish_0 : decode cX9_readDish 0 = .ok (.aload_n 0, 1) := by decide +kernel
theorem dX9_readDish_1 : decode cX9_readDish 1 = .ok (.getfield 18, 3) := by decide +kernel
theorem dX9_readDish_4 : decode cX9_readDish 4 = .ok (.getfield 56, 3) := by decide +kernel
theorem dX9_readDish_7 : decode cX9_readDish 7 = .ok (.istore_n 1, 1) := by decide +kernel
theorem dX9_readDish_8 : decode cX9_readDish 8 = .ok (.aload_n 0, 1) := by decide +kernel
theorem dX9_readDish_9 : decode cX9_readDish 9 = .ok (.iconst 0, 1) := by decide +kernel
theorem dX9_readDish_10 : decode cX9_readDish 10 = .ok (.aload_n 0, 1) := by decide +kernel
theorem dX9_readDish_11 : decode cX9_readDish 11 = .ok (.getfield 18, 3) := by decide +kernel
theorem dX9_readDish_14 : decode cX9_readDish 14 = .ok (.getfield 69, 3) := by decide +kernel
theorem dX9_readDish_17 : decode cX9_readDish 17 = .ok (.iconst 1, 1) := by decide +kernel
theorem dX9_readDish_18 : decode cX9_readDish 18 = .ok (.isub, 1) := by decide +kernel
theorem dX9_readDish_19 : decode cX9_readDish 19 = .ok (.invokevirtual 62, 3) := by decide +kernel
theorem dX9_readDish_22 : decode cX9_readDish 22 = .ok (.ifCond .eq 21, 3) := by decide +kernel
theorem dX9_readDish_25 : decode cX9_readDish 25 = .ok (.aload_n 0, 1) := by decide +kernel
theorem dX9_readDish_26 : decode cX9_readDish 26 = .ok (.aload_n 0, 1) := by decide +kernel
theorem dX9_readDish_27 : decode cX9_readDish 27 = .ok (.getfield 18, 3) := by decide +kernel
theorem dX9_readDish_30 : decode cX9_readDish 30 = .ok (.getfield 75, 3) := by decide +kernel
theorem dX9_readDish_33 : decode cX9_readDish 33 = .ok (.getfield 97, 3) := by decide +kernel
theorem dX9_readDish_36 : decode cX9_readDish 36 = .ok (.iload_n 1, 1) := by decide +kernel
theorem dX9_readDish_37 : decode cX9_readDish 37 = .ok (.invokevirtual 84, 3) := by decide +kernel
theorem dX9_readDish_40 : decode cX9_readDish 40 = .ok (.ifCond .eq 5, 3) := by decide +kernel
theorem dX9_readDish_43 : decode cX9_readDish 43 = .ok (.iconst 0, 1) := by decide +kernel
theorem dX9_readDish_44 : decode cX9_readDish 44 = .ok (.ireturn, 1) := by decide +kernel
theorem dX9_readDish_45 : decode cX9_readDish 45 = .ok (.aload_n 0, 1) := by decide +kernel
theorem dX9_readDish_46 : decode cX9_readDish 46 = .ok (.getfield 18, 3) := by decide +kernel
theorem dX9_readDish_49 : decode cX9_readDish 49 = .ok (.getfield 75, 3) := by decide +kernel
theorem dX9_readDish_52 : decode cX9_readDish 52 = .ok (.getfield 97, 3) := by decide +kernel
theorem dX9_readDish_55 : decode cX9_readDish 55 = .ok (.iload_n 1, 1) := by decide +kernel
theorem dX9_readDish_56 : decode cX9_readDish 56 = .ok (.aload_n 0, 1) := by decide +kernel
theorem dX9_readDish_57 : decode cX9_readDish 57 = .ok (.getfield 66, 3) := by decide +kernel
theorem dX9_readDish_60 : decode cX9_readDish 60 = .ok (.iastore, 1) := by decide +kernel
theorem dX9_readDish_61 : decode cX9_readDish 61 = .ok (.aload_n 0, 1) := by decide +kernel
theorem dX9_readDish_62 : decode cX9_readDish 62 = .ok (.iconst 1, 1) := by decide +kernel
theorem dX9_readDish_63 : decode cX9_readDish 63 = .ok (.bipush 9, 2) := by decide +kernel
theorem dX9_readDish_65 : decode cX9_readDish 65 = .ok (.invokevirtual 62, 3) := by decide +kernel
theorem dX9_readDish_68 : decode cX9_readDish 68 = .ok (.ifCond .ne 5, 3) := by decide +kernel
theorem dX9_readDish_71 : decode cX9_readDish 71 = .ok (.iconst 0, 1) := by decide +kernel
theorem dX9_readDish_72 : decode cX9_readDish 72 = .ok (.ireturn, 1) := by decide +kernel
theorem dX9_readDish_73 : decode cX9_readDish 73 = .ok (.aload_n 0, 1) := by decide +kernel
theorem dX9_readDish_74 : decode cX9_readDish 74 = .ok (.getfield 18, 3) := by decide +kernel
theorem dX9_readDish_77 : decode cX9_readDish 77 = .ok (.getfield 75, 3) := by decide +kernel
theorem dX9_readDish_80 : decode cX9_readDish 80 = .ok (.getfield 100, 3) := by decide +kernel
theorem dX9_readDish_83 : decode cX9_readDish 83 = .ok (.iload_n 1, 1) := by decide +kernel
theorem dX9_readDish_84 : decode cX9_readDish 84 = .ok (.aload_n 0, 1) := by decide +kernel
theorem dX9_readDish_85 : decode cX9_readDish 85 = .ok (.getfield 66, 3) := by decide +kernel
theorem dX9_readDish_88 : decode cX9_readDish 88 = .ok (.iastore, 1) := by decide +kernel
theorem dX9_readDish_89 : decode cX9_readDish 89 = .ok (.aload_n 0, 1) := by decide +kernel
theorem dX9_readDish_90 : decode cX9_readDish 90 = .ok (.iconst 0, 1) := by decide +kernel
theorem dX9_readDish_91 : decode cX9_readDish 91 = .ok (.iconst 1, 1) := by decide +kernel
theorem dX9_readDish_92 : decode cX9_readDish 92 = .ok (.invokevirtual 62, 3) := by decide +kernel
theorem dX9_readDish_95 : decode cX9_readDish 95 = .ok (.ifCond .ne 5, 3) := by decide +kernel
theorem dX9_readDish_98 : decode cX9_readDish 98 = .ok (.iconst 0, 1) := by decide +kernel
theorem dX9_readDish_99 : decode cX9_readDish 99 = .ok (.ireturn, 1) := by decide +kernel
theorem dX9_readDish_100 : decode cX9_readDish 100 = .ok (.aload_n 0, 1) := by decide +kernel
theorem dX9_readDish_101 : decode cX9_readDish 101 = .ok (.getfield 18, 3) := by decide +kernel
theorem dX9_readDish_104 : decode cX9_readDish 104 = .ok (.getfield 103, 3) := by decide +kernel
theorem dX9_readDish_107 : decode cX9_readDish 107 = .ok (.iload_n 1, 1) := by decide +kernel
theorem dX9_readDish_108 : decode cX9_readDish 108 = .ok (.aload_n 0, 1) := by decide +kernel
theorem dX9_readDish_109 : decode cX9_readDish 109 = .ok (.getfield 66, 3) := by decide +kernel
theorem dX9_readDish_112 : decode cX9_readDish 112 = .ok (.iastore, 1) := by decide +kernel
theorem dX9_readDish_113 : decode cX9_readDish 113 = .ok (.aload_n 0, 1) := by decide +kernel
theorem dX9_readDish_114 : decode cX9_readDish 114 = .ok (.getfield 18, 3) := by decide +kernel
theorem dX9_readDish_117 : decode cX9_readDish 117 = .ok (.dup, 1) := by decide +kernel
theorem dX9_readDish_118 : decode cX9_readDish 118 = .ok (.getfield 56, 3) := by decide +kernel
theorem dX9_readDish_121 : decode cX9_readDish 121 = .ok (.iconst 1, 1) := by decide +kernel
theorem dX9_readDish_122 : decode cX9_readDish 122 = .ok (.iadd, 1) := by decide +kernel
theorem dX9_readDish_123 : decode cX9_readDish 123 = .ok (.putfield 56, 3) := by decide +kernel
theorem dX9_readDish_126 : decode cX9_readDish 126 = .ok (.aload_n 0, 1) := by decide +kernel
theorem dX9_readDish_127 : decode cX9_readDish 127 = .ok (.invokevirtual 72, 3) := by decide +kernel
theorem dX9_readDish_130 : decode cX9_readDish 130 = .ok (.ireturn, 1) := by decide +kernel
theorem dX9_isAmong_0 : decode cX9_isAmong 0 = .ok (.iconst 0, 1) := by decide +kernel
theorem dX9_isAmong_1 : decode cX9_isAmong 1 = .ok (.istore_n 3, 1) := by decide +kernel
theorem dX9_isAmong_2 : decode cX9_isAmong 2 = .ok (.iload_n 3, 1) := by decide +kernel
theorem dX9_isAmong_3 : decode cX9_isAmong 3 = .ok (.iload_n 2, 1) := by decide +kernel
theorem dX9_isAmong_4 : decode cX9_isAmong 4 = .ok (.if_icmp .ge 27, 3) := by decide +kernel
theorem dX9_isAmong_7 : decode cX9_isAmong 7 = .ok (.iload_n 3, 1) := by decide +kernel
theorem dX9_isAmong_8 : decode cX9_isAmong 8 = .ok (.aload_n 1, 1) := by decide +kernel
theorem dX9_isAmong_9 : decode cX9_isAmong 9 = .ok (.arraylength, 1) := by decide +kernel
theorem dX9_isAmong_10 : decode cX9_isAmong 10 = .ok (.if_icmp .ge 21, 3) := by decide +kernel
theorem dX9_isAmong_13 : decode cX9_isAmong 13 = .ok (.aload_n 1, 1) := by decide +kernel
theorem dX9_isAmong_14 : decode cX9_isAmong 14 = .ok (.iload_n 3, 1) := by decide +kernel
theorem dX9_isAmong_15 : decode cX9_isAmong 15 = .ok (.iaload, 1) := by decide +kernel
theorem dX9_isAmong_16 : decode cX9_isAmong 16 = .ok (.aload_n 0, 1) := by decide +kernel
theorem dX9_isAmong_17 : decode cX9_isAmong 17 = .ok (.getfield 66, 3) := by decide +kernel
theorem dX9_isAmong_20 : decode cX9_isAmong 20 = .ok (.if_icmp .ne 5, 3) := by decide +kernel
theorem dX9_isAmong_23 : decode cX9_isAmong 23 = .ok (.iconst 1, 1) := by decide +kernel
theorem dX9_isAmong_24 : decode cX9_isAmong 24 = .ok (.ireturn, 1) := by decide +kernel
theorem dX9_isAmong_25 : decode cX9_isAmong 25 = .ok (.iinc 3 1, 3) := by decide +kernel
theorem dX9_isAmong_28 : decode cX9_isAmong 28 = .ok (.goto (-26), 3) := by decide +kernel
theorem dX9_isAmong_31 : decode cX9_isAmong 31 = .ok (.iconst 0, 1) := by decide +kernel
theorem dX9_isAmong_32 : decode cX9_isAmong 32 = .ok (.ireturn, 1) := by decide +kernel
theorem dX9_readNumber_0 : decode cX9_readNumber 0 = .ok (.aload_n 0, 1) := by decide +kernel
theorem dX9_readNumber_1 : decode cX9_readNumber 1 = .ok (.invokevirtual 29, 3) := by decide +kernel
theorem dX9_readNumber_4 : decode cX9_readNumber 4 = .ok (.aload_n 0, 1) := by decide +kernel
theorem dX9_readNumber_5 : decode cX9_readNumber 5 = .ok (.getfield 32, 3) := by decide +kernel
theorem dX9_readNumber_8 : decode cX9_readNumber 8 = .ok (.iconst 2, 1) := by decide +kernel
theorem dX9_readNumber_9 : decode cX9_readNumber 9 = .ok (.if_icmp .ne 23, 3) := by decide +kernel
theorem dX9_readNumber_12 : decode cX9_readNumber 12 = .ok (.aload_n 0, 1) := by decide +kernel
theorem dX9_readNumber_13 : decode cX9_readNumber 13 = .ok (.getfield 66, 3) := by decide +kernel
theorem dX9_readNumber_16 : decode cX9_readNumber 16 = .ok (.iload_n 1, 1) := by decide +kernel
theorem dX9_readNumber_17 : decode cX9_readNumber 17 = .ok (.if_icmp .lt 15, 3) := by decide +kernel
theorem dX9_readNumber_20 : decode cX9_readNumber 20 = .ok (.aload_n 0, 1) := by decide +kernel
theorem dX9_readNumber_21 : decode cX9_readNumber 21 = .ok (.getfield 66, 3) := by decide +kernel
theorem dX9_readNumber_24 : decode cX9_readNumber 24 = .ok (.iload_n 2, 1) := by decide +kernel
theorem dX9_readNumber_25 : decode cX9_readNumber 25 = .ok (.if_icmp .gt 7, 3) := by decide +kernel
theorem dX9_readNumber_28 : decode cX9_readNumber 28 = .ok (.iconst 1, 1) := by decide +kernel
theorem dX9_readNumber_29 : decode cX9_readNumber 29 = .ok (.goto 4, 3) := by decide +kernel
theorem dX9_readNumber_32 : decode cX9_readNumber 32 = .ok (.iconst 0, 1) := by decide +kernel
theorem dX9_readNumber_33 : decode cX9_readNumber 33 = .ok (.ireturn, 1) := by decide +kernel
theorem dX9_readRow_0 : decode cX9_readRow 0 = .ok (.aload_n 0, 1) := by decide +kernel
theorem dX9_readRow_1 : decode cX9_readRow 1 = .ok (.invokevirtual 29, 3) := by decide +kernel
theorem dX9_readRow_4 : decode cX9_readRow 4 = .ok (.aload_n 0, 1) := by decide +kernel
theorem dX9_readRow_5 : decode cX9_readRow 5 = .ok (.getfield 32, 3) := by decide +kernel
theorem dX9_readRow_8 : decode cX9_readRow 8 = .ok (.iconst 1, 1) := by decide +kernel
theorem dX9_readRow_9 : decode cX9_readRow 9 = .ok (.if_icmp .ne 17, 3) := by decide +kernel
theorem dX9_readRow_12 : decode cX9_readRow 12 = .ok (.aload_n 0, 1) := by decide +kernel
theorem dX9_readRow_13 : decode cX9_readRow 13 = .ok (.getfield 25, 3) := by decide +kernel
theorem dX9_readRow_16 : decode cX9_readRow 16 = .ok (.aload_n 0, 1) := by decide +kernel
theorem dX9_readRow_17 : decode cX9_readRow 17 = .ok (.getfield 39, 3) := by decide +kernel
theorem dX9_readRow_20 : decode cX9_readRow 20 = .ok (.isub, 1) := by decide +kernel
theorem dX9_readRow_21 : decode cX9_readRow 21 = .ok (.bipush 6, 2) := by decide +kernel
theorem dX9_readRow_23 : decode cX9_readRow 23 = .ok (.if_icmp .le 5, 3) := by decide +kernel
theorem dX9_readRow_26 : decode cX9_readRow 26 = .ok (.iconst 0, 1) := by decide +kernel
theorem dX9_readRow_27 : decode cX9_readRow 27 = .ok (.ireturn, 1) := by decide +kernel
theorem dX9_readRow_28 : decode cX9_readRow 28 = .ok (.aload_n 0, 1) := by decide +kernel
theorem dX9_readRow_29 : decode cX9_readRow 29 = .ok (.iconst 0, 1) := by decide +kernel
theorem dX9_readRow_30 : decode cX9_readRow 30 = .ok (.putfield 66, 3) := by decide +kernel
theorem dX9_readRow_33 : decode cX9_readRow 33 = .ok (.aload_n 0, 1) := by decide +kernel
theorem dX9_readRow_34 : decode cX9_readRow 34 = .ok (.getfield 39, 3) := by decide +kernel
theorem dX9_readRow_37 : decode cX9_readRow 37 = .ok (.istore_n 1, 1) := by decide +kernel
theorem dX9_readRow_38 : decode cX9_readRow 38 = .ok (.iload_n 1, 1) := by decide +kernel
theorem dX9_readRow_39 : decode cX9_readRow 39 = .ok (.aload_n 0, 1) := by decide +kernel
theorem dX9_readRow_40 : decode cX9_readRow 40 = .ok (.getfield 25, 3) := by decide +kernel
theorem dX9_readRow_43 : decode cX9_readRow 43 = .ok (.if_icmp .ge 42, 3) := by decide +kernel
theorem dX9_readRow_46 : decode cX9_readRow 46 = .ok (.aload_n 0, 1) := by decide +kernel
theorem dX9_readRow_47 : decode cX9_readRow 47 = .ok (.getfield 9, 3) := by decide +kernel
theorem dX9_readRow_50 : decode cX9_readRow 50 = .ok (.iload_n 1, 1) := by decide +kernel
theorem dX9_readRow_51 : decode cX9_readRow 51 = .ok (.caload, 1) := by decide +kernel
theorem dX9_readRow_52 : decode cX9_readRow 52 = .ok (.bipush 102, 2) := by decide +kernel
theorem dX9_readRow_54 : decode cX9_readRow 54 = .ok (.if_icmp .le 5, 3) := by decide +kernel
theorem dX9_readRow_57 : decode cX9_readRow 57 = .ok (.iconst 0, 1) := by decide +kernel
theorem dX9_readRow_58 : decode cX9_readRow 58 = .ok (.ireturn, 1) := by decide +kernel
theorem dX9_readRow_59 : decode cX9_readRow 59 = .ok (.aload_n 0, 1) := by decide +kernel
theorem dX9_readRow_60 : decode cX9_readRow 60 = .ok (.dup, 1) := by decide +kernel
theorem dX9_readRow_61 : decode cX9_readRow 61 = .ok (.getfield 66, 3) := by decide +kernel
theorem dX9_readRow_64 : decode cX9_readRow 64 = .ok (.iconst 1, 1) := by decide +kernel
theorem dX9_readRow_65 : decode cX9_readRow 65 = .ok (.aload_n 0, 1) := by decide +kernel
theorem dX9_readRow_66 : decode cX9_readRow 66 = .ok (.getfield 9, 3) := by decide +kernel
theorem dX9_readRow_69 : decode cX9_readRow 69 = .ok (.iload_n 1, 1) := by decide +kernel
theorem dX9_readRow_70 : decode cX9_readRow 70 = .ok (.caload, 1) := by decide +kernel
theorem dX9_readRow_71 : decode cX9_readRow 71 = .ok (.bipush 97, 2) := by decide +kernel
theorem dX9_readRow_73 : decode cX9_readRow 73 = .ok (.isub, 1) := by decide +kernel
theorem dX9_readRow_74 : decode cX9_readRow 74 = .ok (.ishl, 1) := by decide +kernel
theorem dX9_readRow_75 : decode cX9_readRow 75 = .ok (.ior, 1) := by decide +kernel
theorem dX9_readRow_76 : decode cX9_readRow 76 = .ok (.putfield 66, 3) := by decide +kernel
theorem dX9_readRow_79 : decode cX9_readRow 79 = .ok (.iinc 1 1, 3) := by decide +kernel
theorem dX9_readRow_82 : decode cX9_readRow 82 = .ok (.goto (-44), 3) := by decide +kernel
theorem dX9_readRow_85 : decode cX9_readRow 85 = .ok (.iconst 1, 1) := by decide +kernel
theorem dX9_readRow_86 : decode cX9_readRow 86 = .ok (.ireturn, 1) := by decide +kernel
theorem dX9_readClose_0 : decode cX9_readClose 0 = .ok (.aload_n 0, 1) := by decide +kernel
theorem dX9_readClose_1 : decode cX9_readClose 1 = .ok (.invokevirtual 29, 3) := by decide +kernel
theorem dX9_readClose_4 : decode cX9_readClose 4 = .ok (.aload_n 0, 1) := by decide +kernel
theorem dX9_readClose_5 : decode cX9_readClose 5 = .ok (.getfield 32, 3) := by decide +kernel
theorem dX9_readClose_8 : decode cX9_readClose 8 = .ok (.iconst 3, 1) := by decide +kernel
theorem dX9_readClose_9 : decode cX9_readClose 9 = .ok (.if_icmp .eq 5, 3) := by decide +kernel
theorem dX9_readClose_12 : decode cX9_readClose 12 = .ok (.iconst 0, 1) := by decide +kernel
theorem dX9_readClose_13 : decode cX9_readClose 13 = .ok (.ireturn, 1) := by decide +kernel
theorem dX9_readClose_14 : decode cX9_readClose 14 = .ok (.aload_n 0, 1) := by decide +kernel
theorem dX9_readClose_15 : decode cX9_readClose 15 = .ok (.invokevirtual 29, 3) := by decide +kernel
theorem dX9_readClose_18 : decode cX9_readClose 18 = .ok (.iconst 1, 1) := by decide +kernel
theorem dX9_readClose_19 : decode cX9_readClose 19 = .ok (.ireturn, 1) := by decide +kernel
theorem dX9_isWord_0 : decode cX9_isWord 0 = .ok (.aload_n 0, 1) := by decide +kernel
theorem dX9_isWord_1 : decode cX9_isWord 1 = .ok (.getfield 32, 3) := by decide +kernel
theorem dX9_isWord_4 : decode cX9_isWord 4 = .ok (.iconst 1, 1) := by decide +kernel
theorem dX9_isWord_5 : decode cX9_isWord 5 = .ok (.if_icmp .ne 33, 3) := by decide +kernel
theorem dX9_isWord_8 : decode cX9_isWord 8 = .ok (.aload_n 0, 1) := by decide +kernel
theorem dX9_isWord_9 : decode cX9_isWord 9 = .ok (.getfield 25, 3) := by decide +kernel
theorem dX9_isWord_12 : decode cX9_isWord 12 = .ok (.aload_n 0, 1) := by decide +kernel
theorem dX9_isWord_13 : decode cX9_isWord 13 = .ok (.getfield 39, 3) := by decide +kernel
theorem dX9_isWord_16 : decode cX9_isWord 16 = .ok (.isub, 1) := by decide +kernel
theorem dX9_isWord_17 : decode cX9_isWord 17 = .ok (.iconst 1, 1) := by decide +kernel
theorem dX9_isWord_18 : decode cX9_isWord 18 = .ok (.if_icmp .ne 20, 3) := by decide +kernel
theorem dX9_isWord_21 : decode cX9_isWord 21 = .ok (.aload_n 0, 1) := by decide +kernel
theorem dX9_isWord_22 : decode cX9_isWord 22 = .ok (.getfield 9, 3) := by decide +kernel
theorem dX9_isWord_25 : decode cX9_isWord 25 = .ok (.aload_n 0, 1) := by decide +kernel
theorem dX9_isWord_26 : decode cX9_isWord 26 = .ok (.getfield 39, 3) := by decide +kernel
theorem dX9_isWord_29 : decode cX9_isWord 29 = .ok (.caload, 1) := by decide +kernel
theorem dX9_isWord_30 : decode cX9_isWord 30 = .ok (.iload_n 1, 1) := by decide +kernel
theorem dX9_isWord_31 : decode cX9_isWord 31 = .ok (.if_icmp .ne 7, 3) := by decide +kernel
theorem dX9_isWord_34 : decode cX9_isWord 34 = .ok (.iconst 1, 1) := by decide +kernel
theorem dX9_isWord_35 : decode cX9_isWord 35 = .ok (.goto 4, 3) := by decide +kernel
theorem dX9_isWord_38 : decode cX9_isWord 38 = .ok (.iconst 0, 1) := by decide +kernel
theorem dX9_isWord_39 : decode cX9_isWord 39 = .ok (.ireturn, 1) := by decide +kernel
theorem dX9_nextToken_0 : decode cX9_nextToken 0 = .ok (.aload_n 0, 1) := by decide +kernel
theorem dX9_nextToken_1 : decode cX9_nextToken 1 = .ok (.aload_n 0, 1) := by decide +kernel
theorem dX9_nextToken_2 : decode cX9_nextToken 2 = .ok (.getfield 25, 3) := by decide +kernel
theorem dX9_nextToken_5 : decode cX9_nextToken 5 = .ok (.putfield 39, 3) := by decide +kernel
theorem dX9_nextToken_8 : decode cX9_nextToken 8 = .ok (.aload_n 0, 1) := by decide +kernel
theorem dX9_nextToken_9 : decode cX9_nextToken 9 = .ok (.getfield 39, 3) := by decide +kernel
theorem dX9_nextToken_12 : decode cX9_nextToken 12 = .ok (.aload_n 0, 1) := by decide +kernel
theorem dX9_nextToken_13 : decode cX9_nextToken 13 = .ok (.getfield 106, 3) := by decide +kernel
theorem dX9_nextToken_16 : decode cX9_nextToken 16 = .ok (.if_icmp .ge 30, 3) := by decide +kernel
theorem dX9_nextToken_19 : decode cX9_nextToken 19 = .ok (.aload_n 0, 1) := by decide +kernel
theorem dX9_nextToken_20 : decode cX9_nextToken 20 = .ok (.getfield 9, 3) := by decide +kernel
theorem dX9_nextToken_23 : decode cX9_nextToken 23 = .ok (.aload_n 0, 1) := by decide +kernel
theorem dX9_nextToken_24 : decode cX9_nextToken 24 = .ok (.getfield 39, 3) := by decide +kernel
theorem dX9_nextToken_27 : decode cX9_nextToken 27 = .ok (.caload, 1) := by decide +kernel
theorem dX9_nextToken_28 : decode cX9_nextToken 28 = .ok (.bipush 32, 2) := by decide +kernel
theorem dX9_nextToken_30 : decode cX9_nextToken 30 = .ok (.if_icmp .ne 16, 3) := by decide +kernel
theorem dX9_nextToken_33 : decode cX9_nextToken 33 = .ok (.aload_n 0, 1) := by decide +kernel
theorem dX9_nextToken_34 : decode cX9_nextToken 34 = .ok (.dup, 1) := by decide +kernel
theorem dX9_nextToken_35 : decode cX9_nextToken 35 = .ok (.getfield 39, 3) := by decide +kernel
theorem dX9_nextToken_38 : decode cX9_nextToken 38 = .ok (.iconst 1, 1) := by decide +kernel
theorem dX9_nextToken_39 : decode cX9_nextToken 39 = .ok (.iadd, 1) := by decide +kernel
theorem dX9_nextToken_40 : decode cX9_nextToken 40 = .ok (.putfield 39, 3) := by decide +kernel
theorem dX9_nextToken_43 : decode cX9_nextToken 43 = .ok (.goto (-35), 3) := by decide +kernel
theorem dX9_nextToken_46 : decode cX9_nextToken 46 = .ok (.aload_n 0, 1) := by decide +kernel
theorem dX9_nextToken_47 : decode cX9_nextToken 47 = .ok (.aload_n 0, 1) := by decide +kernel
theorem dX9_nextToken_48 : decode cX9_nextToken 48 = .ok (.getfield 39, 3) := by decide +kernel
theorem dX9_nextToken_51 : decode cX9_nextToken 51 = .ok (.putfield 25, 3) := by decide +kernel
theorem dX9_nextToken_54 : decode cX9_nextToken 54 = .ok (.aload_n 0, 1) := by decide +kernel
theorem dX9_nextToken_55 : decode cX9_nextToken 55 = .ok (.getfield 39, 3) := by decide +kernel
theorem dX9_nextToken_58 : decode cX9_nextToken 58 = .ok (.aload_n 0, 1) := by decide +kernel
theorem dX9_nextToken_59 : decode cX9_nextToken 59 = .ok (.getfield 106, 3) := by decide +kernel
theorem dX9_nextToken_62 : decode cX9_nextToken 62 = .ok (.if_icmp .lt 11, 3) := by decide +kernel
theorem dX9_nextToken_65 : decode cX9_nextToken 65 = .ok (.aload_n 0, 1) := by decide +kernel
theorem dX9_nextToken_66 : decode cX9_nextToken 66 = .ok (.iconst 0, 1) := by decide +kernel
theorem dX9_nextToken_67 : decode cX9_nextToken 67 = .ok (.putfield 32, 3) := by decide +kernel
theorem dX9_nextToken_70 : decode cX9_nextToken 70 = .ok (.goto 80, 3) := by decide +kernel
theorem dX9_nextToken_73 : decode cX9_nextToken 73 = .ok (.aload_n 0, 1) := by decide +kernel
theorem dX9_nextToken_74 : decode cX9_nextToken 74 = .ok (.getfield 9, 3) := by decide +kernel
theorem dX9_nextToken_77 : decode cX9_nextToken 77 = .ok (.aload_n 0, 1) := by decide +kernel
theorem dX9_nextToken_78 : decode cX9_nextToken 78 = .ok (.getfield 39, 3) := by decide +kernel
theorem dX9_nextToken_81 : decode cX9_nextToken 81 = .ok (.caload, 1) := by decide +kernel
theorem dX9_nextToken_82 : decode cX9_nextToken 82 = .ok (.invokestatic 109, 3) := by decide +kernel
theorem dX9_nextToken_85 : decode cX9_nextToken 85 = .ok (.ifCond .eq 10, 3) := by decide +kernel
theorem dX9_nextToken_88 : decode cX9_nextToken 88 = .ok (.aload_n 0, 1) := by decide +kernel
theorem dX9_nextToken_89 : decode cX9_nextToken 89 = .ok (.invokevirtual 112, 3) := by decide +kernel
theorem dX9_nextToken_92 : decode cX9_nextToken 92 = .ok (.goto 58, 3) := by decide +kernel
theorem dX9_nextToken_95 : decode cX9_nextToken 95 = .ok (.aload_n 0, 1) := by decide +kernel
theorem dX9_nextToken_96 : decode cX9_nextToken 96 = .ok (.getfield 9, 3) := by decide +kernel
theorem dX9_nextToken_99 : decode cX9_nextToken 99 = .ok (.aload_n 0, 1) := by decide +kernel
theorem dX9_nextToken_100 : decode cX9_nextToken 100 = .ok (.getfield 39, 3) := by decide +kernel
theorem dX9_nextToken_103 : decode cX9_nextToken 103 = .ok (.caload, 1) := by decide +kernel
theorem dX9_nextToken_104 : decode cX9_nextToken 104 = .ok (.invokestatic 115, 3) := by decide +kernel
theorem dX9_nextToken_107 : decode cX9_nextToken 107 = .ok (.ifCond .eq 10, 3) := by decide +kernel
theorem dX9_nextToken_110 : decode cX9_nextToken 110 = .ok (.aload_n 0, 1) := by decide +kernel
theorem dX9_nextToken_111 : decode cX9_nextToken 111 = .ok (.invokevirtual 118, 3) := by decide +kernel
theorem dX9_nextToken_114 : decode cX9_nextToken 114 = .ok (.goto 36, 3) := by decide +kernel
theorem dX9_nextToken_117 : decode cX9_nextToken 117 = .ok (.aload_n 0, 1) := by decide +kernel
theorem dX9_nextToken_118 : decode cX9_nextToken 118 = .ok (.aload_n 0, 1) := by decide +kernel
theorem dX9_nextToken_119 : decode cX9_nextToken 119 = .ok (.getfield 9, 3) := by decide +kernel
theorem dX9_nextToken_122 : decode cX9_nextToken 122 = .ok (.aload_n 0, 1) := by decide +kernel
theorem dX9_nextToken_123 : decode cX9_nextToken 123 = .ok (.getfield 39, 3) := by decide +kernel
theorem dX9_nextToken_126 : decode cX9_nextToken 126 = .ok (.caload, 1) := by decide +kernel
theorem dX9_nextToken_127 : decode cX9_nextToken 127 = .ok (.bipush 59, 2) := by decide +kernel
theorem dX9_nextToken_129 : decode cX9_nextToken 129 = .ok (.if_icmp .ne 7, 3) := by decide +kernel
theorem dX9_nextToken_132 : decode cX9_nextToken 132 = .ok (.iconst 3, 1) := by decide +kernel
theorem dX9_nextToken_133 : decode cX9_nextToken 133 = .ok (.goto 4, 3) := by decide +kernel
theorem dX9_nextToken_136 : decode cX9_nextToken 136 = .ok (.iconst 4, 1) := by decide +kernel
theorem dX9_nextToken_137 : decode cX9_nextToken 137 = .ok (.putfield 32, 3) := by decide +kernel
theorem dX9_nextToken_140 : decode cX9_nextToken 140 = .ok (.aload_n 0, 1) := by decide +kernel
theorem dX9_nextToken_141 : decode cX9_nextToken 141 = .ok (.aload_n 0, 1) := by decide +kernel
theorem dX9_nextToken_142 : decode cX9_nextToken 142 = .ok (.getfield 39, 3) := by decide +kernel
theorem dX9_nextToken_145 : decode cX9_nextToken 145 = .ok (.iconst 1, 1) := by decide +kernel
theorem dX9_nextToken_146 : decode cX9_nextToken 146 = .ok (.iadd, 1) := by decide +kernel
theorem dX9_nextToken_147 : decode cX9_nextToken 147 = .ok (.putfield 25, 3) := by decide +kernel
theorem dX9_nextToken_150 : decode cX9_nextToken 150 = .ok (.return_, 1) := by decide +kernel
theorem dX9_nextWord_0 : decode cX9_nextWord 0 = .ok (.aload_n 0, 1) := by decide +kernel
theorem dX9_nextWord_1 : decode cX9_nextWord 1 = .ok (.iconst 1, 1) := by decide +kernel
theorem dX9_nextWord_2 : decode cX9_nextWord 2 = .ok (.putfield 32, 3) := by decide +kernel
theorem dX9_nextWord_5 : decode cX9_nextWord 5 = .ok (.aload_n 0, 1) := by decide +kernel
theorem dX9_nextWord_6 : decode cX9_nextWord 6 = .ok (.getfield 25, 3) := by decide +kernel
theorem dX9_nextWord_9 : decode cX9_nextWord 9 = .ok (.aload_n 0, 1) := by decide +kernel
theorem dX9_nextWord_10 : decode cX9_nextWord 10 = .ok (.getfield 106, 3) := by decide +kernel
theorem dX9_nextWord_13 : decode cX9_nextWord 13 = .ok (.if_icmp .ge 31, 3) := by decide +kernel
theorem dX9_nextWord_16 : decode cX9_nextWord 16 = .ok (.aload_n 0, 1) := by decide +kernel
theorem dX9_nextWord_17 : decode cX9_nextWord 17 = .ok (.getfield 9, 3) := by decide +kernel
theorem dX9_nextWord_20 : decode cX9_nextWord 20 = .ok (.aload_n 0, 1) := by decide +kernel
theorem dX9_nextWord_21 : decode cX9_nextWord 21 = .ok (.getfield 25, 3) := by decide +kernel
theorem dX9_nextWord_24 : decode cX9_nextWord 24 = .ok (.caload, 1) := by decide +kernel
theorem dX9_nextWord_25 : decode cX9_nextWord 25 = .ok (.invokestatic 109, 3) := by decide +kernel
theorem dX9_nextWord_28 : decode cX9_nextWord 28 = .ok (.ifCond .eq 16, 3) := by decide +kernel
theorem dX9_nextWord_31 : decode cX9_nextWord 31 = .ok (.aload_n 0, 1) := by decide +kernel
theorem dX9_nextWord_32 : decode cX9_nextWord 32 = .ok (.dup, 1) := by decide +kernel
theorem dX9_nextWord_33 : decode cX9_nextWord 33 = .ok (.getfield 25, 3) := by decide +kernel
theorem dX9_nextWord_36 : decode cX9_nextWord 36 = .ok (.iconst 1, 1) := by decide +kernel
theorem dX9_nextWord_37 : decode cX9_nextWord 37 = .ok (.iadd, 1) := by decide +kernel
theorem dX9_nextWord_38 : decode cX9_nextWord 38 = .ok (.putfield 25, 3) := by decide +kernel
theorem dX9_nextWord_41 : decode cX9_nextWord 41 = .ok (.goto (-36), 3) := by decide +kernel
theorem dX9_nextWord_44 : decode cX9_nextWord 44 = .ok (.return_, 1) := by decide +kernel
theorem dX9_nextNumber_0 : decode cX9_nextNumber 0 = .ok (.aload_n 0, 1) := by decide +kernel
theorem dX9_nextNumber_1 : decode cX9_nextNumber 1 = .ok (.iconst 0, 1) := by decide +kernel
theorem dX9_nextNumber_2 : decode cX9_nextNumber 2 = .ok (.putfield 66, 3) := by decide +kernel
theorem dX9_nextNumber_5 : decode cX9_nextNumber 5 = .ok (.aload_n 0, 1) := by decide +kernel
theorem dX9_nextNumber_6 : decode cX9_nextNumber 6 = .ok (.getfield 25, 3) := by decide +kernel
theorem dX9_nextNumber_9 : decode cX9_nextNumber 9 = .ok (.aload_n 0, 1) := by decide +kernel
theorem dX9_nextNumber_10 : decode cX9_nextNumber 10 = .ok (.getfield 106, 3) := by decide +kernel
theorem dX9_nextNumber_13 : decode cX9_nextNumber 13 = .ok (.if_icmp .ge 60, 3) := by decide +kernel
theorem dX9_nextNumber_16 : decode cX9_nextNumber 16 = .ok (.aload_n 0, 1) := by decide +kernel
theorem dX9_nextNumber_17 : decode cX9_nextNumber 17 = .ok (.getfield 9, 3) := by decide +kernel
theorem dX9_nextNumber_20 : decode cX9_nextNumber 20 = .ok (.aload_n 0, 1) := by decide +kernel
theorem dX9_nextNumber_21 : decode cX9_nextNumber 21 = .ok (.getfield 25, 3) := by decide +kernel
theorem dX9_nextNumber_24 : decode cX9_nextNumber 24 = .ok (.caload, 1) := by decide +kernel
theorem dX9_nextNumber_25 : decode cX9_nextNumber 25 = .ok (.invokestatic 115, 3) := by decide +kernel
theorem dX9_nextNumber_28 : decode cX9_nextNumber 28 = .ok (.ifCond .eq 45, 3) := by decide +kernel
theorem dX9_nextNumber_31 : decode cX9_nextNumber 31 = .ok (.aload_n 0, 1) := by decide +kernel
theorem dX9_nextNumber_32 : decode cX9_nextNumber 32 = .ok (.aload_n 0, 1) := by decide +kernel
theorem dX9_nextNumber_33 : decode cX9_nextNumber 33 = .ok (.getfield 66, 3) := by decide +kernel
theorem dX9_nextNumber_36 : decode cX9_nextNumber 36 = .ok (.bipush 10, 2) := by decide +kernel
theorem dX9_nextNumber_38 : decode cX9_nextNumber 38 = .ok (.imul, 1) := by decide +kernel
theorem dX9_nextNumber_39 : decode cX9_nextNumber 39 = .ok (.aload_n 0, 1) := by decide +kernel
theorem dX9_nextNumber_40 : decode cX9_nextNumber 40 = .ok (.getfield 9, 3) := by decide +kernel
theorem dX9_nextNumber_43 : decode cX9_nextNumber 43 = .ok (.aload_n 0, 1) := by decide +kernel
theorem dX9_nextNumber_44 : decode cX9_nextNumber 44 = .ok (.getfield 25, 3) := by decide +kernel
theorem dX9_nextNumber_47 : decode cX9_nextNumber 47 = .ok (.caload, 1) := by decide +kernel
theorem dX9_nextNumber_48 : decode cX9_nextNumber 48 = .ok (.iadd, 1) := by decide +kernel
theorem dX9_nextNumber_49 : decode cX9_nextNumber 49 = .ok (.bipush 48, 2) := by decide +kernel
theorem dX9_nextNumber_51 : decode cX9_nextNumber 51 = .ok (.isub, 1) := by decide +kernel
theorem dX9_nextNumber_52 : decode cX9_nextNumber 52 = .ok (.bipush 100, 2) := by decide +kernel
theorem dX9_nextNumber_54 : decode cX9_nextNumber 54 = .ok (.invokestatic 121, 3) := by decide +kernel
theorem dX9_nextNumber_57 : decode cX9_nextNumber 57 = .ok (.putfield 66, 3) := by decide +kernel
theorem dX9_nextNumber_60 : decode cX9_nextNumber 60 = .ok (.aload_n 0, 1) := by decide +kernel
theorem dX9_nextNumber_61 : decode cX9_nextNumber 61 = .ok (.dup, 1) := by decide +kernel
theorem dX9_nextNumber_62 : decode cX9_nextNumber 62 = .ok (.getfield 25, 3) := by decide +kernel
theorem dX9_nextNumber_65 : decode cX9_nextNumber 65 = .ok (.iconst 1, 1) := by decide +kernel
theorem dX9_nextNumber_66 : decode cX9_nextNumber 66 = .ok (.iadd, 1) := by decide +kernel
theorem dX9_nextNumber_67 : decode cX9_nextNumber 67 = .ok (.putfield 25, 3) := by decide +kernel
theorem dX9_nextNumber_70 : decode cX9_nextNumber 70 = .ok (.goto (-65), 3) := by decide +kernel
theorem dX9_nextNumber_73 : decode cX9_nextNumber 73 = .ok (.aload_n 0, 1) := by decide +kernel
theorem dX9_nextNumber_74 : decode cX9_nextNumber 74 = .ok (.getfield 9, 3) := by decide +kernel
theorem dX9_nextNumber_77 : decode cX9_nextNumber 77 = .ok (.aload_n 0, 1) := by decide +kernel
theorem dX9_nextNumber_78 : decode cX9_nextNumber 78 = .ok (.getfield 39, 3) := by decide +kernel
theorem dX9_nextNumber_81 : decode cX9_nextNumber 81 = .ok (.caload, 1) := by decide +kernel
theorem dX9_nextNumber_82 : decode cX9_nextNumber 82 = .ok (.bipush 48, 2) := by decide +kernel
theorem dX9_nextNumber_84 : decode cX9_nextNumber 84 = .ok (.if_icmp .ne 20, 3) := by decide +kernel
theorem dX9_nextNumber_87 : decode cX9_nextNumber 87 = .ok (.aload_n 0, 1) := by decide +kernel
theorem dX9_nextNumber_88 : decode cX9_nextNumber 88 = .ok (.getfield 25, 3) := by decide +kernel
theorem dX9_nextNumber_91 : decode cX9_nextNumber 91 = .ok (.aload_n 0, 1) := by decide +kernel
theorem dX9_nextNumber_92 : decode cX9_nextNumber 92 = .ok (.getfield 39, 3) := by decide +kernel
theorem dX9_nextNumber_95 : decode cX9_nextNumber 95 = .ok (.isub, 1) := by decide +kernel
theorem dX9_nextNumber_96 : decode cX9_nextNumber 96 = .ok (.iconst 1, 1) := by decide +kernel
theorem dX9_nextNumber_97 : decode cX9_nextNumber 97 = .ok (.if_icmp .le 7, 3) := by decide +kernel
theorem dX9_nextNumber_100 : decode cX9_nextNumber 100 = .ok (.iconst 1, 1) := by decide +kernel
theorem dX9_nextNumber_101 : decode cX9_nextNumber 101 = .ok (.goto 4, 3) := by decide +kernel
theorem dX9_nextNumber_104 : decode cX9_nextNumber 104 = .ok (.iconst 0, 1) := by decide +kernel
theorem dX9_nextNumber_105 : decode cX9_nextNumber 105 = .ok (.istore_n 1, 1) := by decide +kernel
theorem dX9_nextNumber_106 : decode cX9_nextNumber 106 = .ok (.aload_n 0, 1) := by decide +kernel
theorem dX9_nextNumber_107 : decode cX9_nextNumber 107 = .ok (.aload_n 0, 1) := by decide +kernel
theorem dX9_nextNumber_108 : decode cX9_nextNumber 108 = .ok (.getfield 66, 3) := by decide +kernel
theorem dX9_nextNumber_111 : decode cX9_nextNumber 111 = .ok (.bipush 99, 2) := by decide +kernel
theorem dX9_nextNumber_113 : decode cX9_nextNumber 113 = .ok (.if_icmp .gt 7, 3) := by decide +kernel
theorem dX9_nextNumber_116 : decode cX9_nextNumber 116 = .ok (.iload_n 1, 1) := by decide +kernel
theorem dX9_nextNumber_117 : decode cX9_nextNumber 117 = .ok (.ifCond .eq 7, 3) := by decide +kernel
theorem dX9_nextNumber_120 : decode cX9_nextNumber 120 = .ok (.iconst 4, 1) := by decide +kernel
theorem dX9_nextNumber_121 : decode cX9_nextNumber 121 = .ok (.goto 4, 3) := by decide +kernel
theorem dX9_nextNumber_124 : decode cX9_nextNumber 124 = .ok (.iconst 2, 1) := by decide +kernel
theorem dX9_nextNumber_125 : decode cX9_nextNumber 125 = .ok (.putfield 32, 3) := by decide +kernel
theorem dX9_nextNumber_128 : decode cX9_nextNumber 128 = .ok (.return_, 1) := by decide +kernel
theorem dX9_isSmall_0 : decode cX9_isSmall 0 = .ok (.iload_n 0, 1) := by decide +kernel
theorem dX9_isSmall_1 : decode cX9_isSmall 1 = .ok (.bipush 97, 2) := by decide +kernel
theorem dX9_isSmall_3 : decode cX9_isSmall 3 = .ok (.if_icmp .lt 13, 3) := by decide +kernel
theorem dX9_isSmall_6 : decode cX9_isSmall 6 = .ok (.iload_n 0, 1) := by decide +kernel
theorem dX9_isSmall_7 : decode cX9_isSmall 7 = .ok (.bipush 122, 2) := by decide +kernel
theorem dX9_isSmall_9 : decode cX9_isSmall 9 = .ok (.if_icmp .gt 7, 3) := by decide +kernel
theorem dX9_isSmall_12 : decode cX9_isSmall 12 = .ok (.iconst 1, 1) := by decide +kernel
theorem dX9_isSmall_13 : decode cX9_isSmall 13 = .ok (.goto 4, 3) := by decide +kernel
theorem dX9_isSmall_16 : decode cX9_isSmall 16 = .ok (.iconst 0, 1) := by decide +kernel
theorem dX9_isSmall_17 : decode cX9_isSmall 17 = .ok (.ireturn, 1) := by decide +kernel
theorem dX9_isDigit_0 : decode cX9_isDigit 0 = .ok (.iload_n 0, 1) := by decide +kernel
theorem dX9_isDigit_1 : decode cX9_isDigit 1 = .ok (.bipush 48, 2) := by decide +kernel
theorem dX9_isDigit_3 : decode cX9_isDigit 3 = .ok (.if_icmp .lt 13, 3) := by decide +kernel
theorem dX9_isDigit_6 : decode cX9_isDigit 6 = .ok (.iload_n 0, 1) := by decide +kernel
theorem dX9_isDigit_7 : decode cX9_isDigit 7 = .ok (.bipush 57, 2) := by decide +kernel
theorem dX9_isDigit_9 : decode cX9_isDigit 9 = .ok (.if_icmp .gt 7, 3) := by decide +kernel
theorem dX9_isDigit_12 : decode cX9_isDigit 12 = .ok (.iconst 1, 1) := by decide +kernel
theorem dX9_isDigit_13 : decode cX9_isDigit 13 = .ok (.goto 4, 3) := by decide +kernel
theorem dX9_isDigit_16 : decode cX9_isDigit 16 = .ok (.iconst 0, 1) := by decide +kernel
theorem dX9_isDigit_17 : decode cX9_isDigit 17 = .ok (.ireturn, 1) := by decide +kernel
theorem dX10_init_0 : decode cX10_init 0 = .ok (.aload_n 0, 1) := by decide +kernel
theorem dX10_init_1 : decode cX10_init 1 = .ok (.invokespecial 1, 3) := by decide +kernel
theorem dX10_init_4 : decode cX10_init 4 = .ok (.return_, 1) := by decide +kernel
theorem dX10_worth_0 : decode cX10_worth 0 = .ok (.aload_n 1, 1) := by decide +kernel
theorem dX10_worth_1 : decode cX10_worth 1 = .ok (.dup, 1) := by decide +kernel
theorem dX10_worth_2 : decode cX10_worth 2 = .ok (.getfield 7, 3) := by decide +kernel
theorem dX10_worth_5 : decode cX10_worth 5 = .ok (.ldc2_w 13, 3) := by decide +kernel
theorem dX10_worth_8 : decode cX10_worth 8 = .ok (.ladd, 1) := by decide +kernel
theorem dX10_worth_9 : decode cX10_worth 9 = .ok (.putfield 7, 3) := by decide +kernel
theorem dX10_worth_12 : decode cX10_worth 12 = .ok (.aload_n 0, 1) := by decide +kernel
theorem dX10_worth_13 : decode cX10_worth 13 = .ok (.aload_n 1, 1) := by decide +kernel
theorem dX10_worth_14 : decode cX10_worth 14 = .ok (.invokespecial 15, 3) := by decide +kernel
theorem dX10_worth_17 : decode cX10_worth 17 = .ok (.aload_n 1, 1) := by decide +kernel
theorem dX10_worth_18 : decode cX10_worth 18 = .ok (.getfield 19, 3) := by decide +kernel
theorem dX10_worth_21 : decode cX10_worth 21 = .ok (.iadd, 1) := by decide +kernel
theorem dX10_worth_22 : decode cX10_worth 22 = .ok (.ireturn, 1) := by decide +kernel
end
