section
-- ===== PART A: goes FIRST, ahead of the names: the tables' words, and 'selects' of the private methods out of them =====
/-- a private method of a class that the tables say can be made, by its rows of tables_1 -/
def lw_okq (q : MethodName × Nat) : Prop := (q.1.cls ≠ "java/lang/invoke/MethodHandle" ∧ q.1.cls ≠ "java/lang/invoke/VarHandle") ∧ Cond.instantiable q.1.cls q.2 ∈ tables_1 ∧ Cond.privateMethod q.1 ∈ tables_1 ∧ Cond.instanceMethod q.1 ∈ tables_1
theorem lw_p0 : lw_okq (⟨"TrayTurns$Reader", "nextToken", "()V"⟩, 7) := ⟨⟨by decide +kernel, by decide +kernel⟩, List.mem_of_getElem? (i := 27) (by decide +kernel), List.mem_of_getElem? (i := 319) (by decide +kernel), List.mem_of_getElem? (i := 320) (by decide +kernel)⟩
theorem lw_p1 : lw_okq (⟨"TrayTurns$Reader", "nextWord", "()V"⟩, 7) := ⟨⟨by decide +kernel, by decide +kernel⟩, List.mem_of_getElem? (i := 27) (by decide +kernel), List.mem_of_getElem? (i := 326) (by decide +kernel), List.mem_of_getElem? (i := 327) (by decide +kernel)⟩
theorem lw_p2 : lw_okq (⟨"TrayTurns$Reader", "nextNumber", "()V"⟩, 7) := ⟨⟨by decide +kernel, by decide +kernel⟩, List.mem_of_getElem? (i := 27) (by decide +kernel), List.mem_of_getElem? (i := 333) (by decide +kernel), List.mem_of_getElem? (i := 334) (by decide +kernel)⟩
theorem lw_p3 : lw_okq (⟨"TrayTurns$Reader", "readItem", "(Z)Z"⟩, 7) := ⟨⟨by decide +kernel, by decide +kernel⟩, List.mem_of_getElem? (i := 27) (by decide +kernel), List.mem_of_getElem? (i := 340) (by decide +kernel), List.mem_of_getElem? (i := 341) (by decide +kernel)⟩
theorem lw_p4 : lw_okq (⟨"TrayTurns$Reader", "isWord", "(C)Z"⟩, 7) := ⟨⟨by decide +kernel, by decide +kernel⟩, List.mem_of_getElem? (i := 27) (by decide +kernel), List.mem_of_getElem? (i := 344) (by decide +kernel), List.mem_of_getElem? (i := 345) (by decide +kernel)⟩
theorem lw_p5 : lw_okq (⟨"TrayTurns$Reader", "readSeats", "()Z"⟩, 7) := ⟨⟨by decide +kernel, by decide +kernel⟩, List.mem_of_getElem? (i := 27) (by decide +kernel), List.mem_of_getElem? (i := 348) (by decide +kernel), List.mem_of_getElem? (i := 349) (by decide +kernel)⟩
theorem lw_p6 : lw_okq (⟨"TrayTurns$Reader", "readNumber", "(II)Z"⟩, 7) := ⟨⟨by decide +kernel, by decide +kernel⟩, List.mem_of_getElem? (i := 27) (by decide +kernel), List.mem_of_getElem? (i := 352) (by decide +kernel), List.mem_of_getElem? (i := 353) (by decide +kernel)⟩
theorem lw_p7 : lw_okq (⟨"TrayTurns$Reader", "readClose", "()Z"⟩, 7) := ⟨⟨by decide +kernel, by decide +kernel⟩, List.mem_of_getElem? (i := 27) (by decide +kernel), List.mem_of_getElem? (i := 356) (by decide +kernel), List.mem_of_getElem? (i := 357) (by decide +kernel)⟩
theorem lw_p8 : lw_okq (⟨"TrayTurns$Reader", "readGuest", "()Z"⟩, 7) := ⟨⟨by decide +kernel, by decide +kernel⟩, List.mem_of_getElem? (i := 27) (by decide +kernel), List.mem_of_getElem? (i := 360) (by decide +kernel), List.mem_of_getElem? (i := 361) (by decide +kernel)⟩
theorem lw_p9 : lw_okq (⟨"TrayTurns$Reader", "isAmong", "([II)Z"⟩, 7) := ⟨⟨by decide +kernel, by decide +kernel⟩, List.mem_of_getElem? (i := 27) (by decide +kernel), List.mem_of_getElem? (i := 364) (by decide +kernel), List.mem_of_getElem? (i := 365) (by decide +kernel)⟩
theorem lw_p10 : lw_okq (⟨"TrayTurns$Reader", "readRow", "()Z"⟩, 7) := ⟨⟨by decide +kernel, by decide +kernel⟩, List.mem_of_getElem? (i := 27) (by decide +kernel), List.mem_of_getElem? (i := 368) (by decide +kernel), List.mem_of_getElem? (i := 369) (by decide +kernel)⟩
theorem lw_p11 : lw_okq (⟨"TrayTurns$Reader", "readDish", "()Z"⟩, 7) := ⟨⟨by decide +kernel, by decide +kernel⟩, List.mem_of_getElem? (i := 27) (by decide +kernel), List.mem_of_getElem? (i := 372) (by decide +kernel), List.mem_of_getElem? (i := 373) (by decide +kernel)⟩
theorem lw_p12 : lw_okq (⟨"TrayTurns", "isGuest", "(I)Z"⟩, 16) := ⟨⟨by decide +kernel, by decide +kernel⟩, List.mem_of_getElem? (i := 19) (by decide +kernel), List.mem_of_getElem? (i := 391) (by decide +kernel), List.mem_of_getElem? (i := 392) (by decide +kernel)⟩
theorem lw_p13 : lw_okq (⟨"TrayTurns$Party", "gap", "(LTrayTurns$Now;III)I"⟩, 8) := ⟨⟨by decide +kernel, by decide +kernel⟩, List.mem_of_getElem? (i := 33) (by decide +kernel), List.mem_of_getElem? (i := 407) (by decide +kernel), List.mem_of_getElem? (i := 408) (by decide +kernel)⟩
theorem lw_p14 : lw_okq (⟨"TrayTurns", "isDish", "(I)Z"⟩, 16) := ⟨⟨by decide +kernel, by decide +kernel⟩, List.mem_of_getElem? (i := 19) (by decide +kernel), List.mem_of_getElem? (i := 422) (by decide +kernel), List.mem_of_getElem? (i := 423) (by decide +kernel)⟩
theorem lw_p15 : lw_okq (⟨"TrayTurns", "allPortions", "()I"⟩, 16) := ⟨⟨by decide +kernel, by decide +kernel⟩, List.mem_of_getElem? (i := 19) (by decide +kernel), List.mem_of_getElem? (i := 438) (by decide +kernel), List.mem_of_getElem? (i := 439) (by decide +kernel)⟩
def lw_privs_1 : List (MethodName × Nat) := [(⟨"TrayTurns$Reader", "nextToken", "()V"⟩, 7), (⟨"TrayTurns$Reader", "nextWord", "()V"⟩, 7), (⟨"TrayTurns$Reader", "nextNumber", "()V"⟩, 7), (⟨"TrayTurns$Reader", "readItem", "(Z)Z"⟩, 7), (⟨"TrayTurns$Reader", "isWord", "(C)Z"⟩, 7), (⟨"TrayTurns$Reader", "readSeats", "()Z"⟩, 7), (⟨"TrayTurns$Reader", "readNumber", "(II)Z"⟩, 7), (⟨"TrayTurns$Reader", "readClose", "()Z"⟩, 7), (⟨"TrayTurns$Reader", "readGuest", "()Z"⟩, 7), (⟨"TrayTurns$Reader", "isAmong", "([II)Z"⟩, 7), (⟨"TrayTurns$Reader", "readRow", "()Z"⟩, 7), (⟨"TrayTurns$Reader", "readDish", "()Z"⟩, 7), (⟨"TrayTurns", "isGuest", "(I)Z"⟩, 16), (⟨"TrayTurns$Party", "gap", "(LTrayTurns$Now;III)I"⟩, 8), (⟨"TrayTurns", "isDish", "(I)Z"⟩, 16), (⟨"TrayTurns", "allPortions", "()I"⟩, 16)]
theorem lw_r1 : ∀ q ∈ lw_privs_1, lw_okq q := List.forall_mem_cons.mpr ⟨lw_p0, List.forall_mem_cons.mpr ⟨lw_p1, List.forall_mem_cons.mpr ⟨lw_p2, List.forall_mem_cons.mpr ⟨lw_p3, List.forall_mem_cons.mpr ⟨lw_p4, List.forall_mem_cons.mpr ⟨lw_p5, List.forall_mem_cons.mpr ⟨lw_p6, List.forall_mem_cons.mpr ⟨lw_p7, List.forall_mem_cons.mpr ⟨lw_p8, List.forall_mem_cons.mpr ⟨lw_p9, List.forall_mem_cons.mpr ⟨lw_p10, List.forall_mem_cons.mpr ⟨lw_p11, List.forall_mem_cons.mpr ⟨lw_p12, List.forall_mem_cons.mpr ⟨lw_p13, List.forall_mem_cons.mpr ⟨lw_p14, List.forall_mem_cons.mpr ⟨lw_p15, fun _ h => absurd h List.not_mem_nil⟩⟩⟩⟩⟩⟩⟩⟩⟩⟩⟩⟩⟩⟩⟩⟩
theorem lw_p16 : lw_okq (⟨"TrayTurns$Party", "hasEnough", "(LTrayTurns$Now;I)Z"⟩, 8) := ⟨⟨by decide +kernel, by decide +kernel⟩, List.mem_of_getElem? (i := 33) (by decide +kernel), List.mem_of_getElem? (i := 446) (by decide +kernel), List.mem_of_getElem? (i := 447) (by decide +kernel)⟩
theorem lw_p17 : lw_okq (⟨"TrayTurns$Party", "fillFurthest", "(LTrayTurns$Now;)V"⟩, 8) := ⟨⟨by decide +kernel, by decide +kernel⟩, List.mem_of_getElem? (i := 33) (by decide +kernel), List.mem_of_getElem? (i := 451) (by decide +kernel), List.mem_of_getElem? (i := 452) (by decide +kernel)⟩
theorem lw_p18 : lw_okq (⟨"TrayTurns", "swap", "()I"⟩, 16) := ⟨⟨by decide +kernel, by decide +kernel⟩, List.mem_of_getElem? (i := 19) (by decide +kernel), List.mem_of_getElem? (i := 466) (by decide +kernel), List.mem_of_getElem? (i := 467) (by decide +kernel)⟩
theorem lw_p19 : lw_okq (⟨"TrayTurns$Feast", "most", "(I)I"⟩, 5) := ⟨⟨by decide +kernel, by decide +kernel⟩, List.mem_of_getElem? (i := 142) (by decide +kernel), List.mem_of_getElem? (i := 480) (by decide +kernel), List.mem_of_getElem? (i := 481) (by decide +kernel)⟩
theorem lw_p20 : lw_okq (⟨"TrayTurns$Feast", "firstFor", "(II)I"⟩, 5) := ⟨⟨by decide +kernel, by decide +kernel⟩, List.mem_of_getElem? (i := 142) (by decide +kernel), List.mem_of_getElem? (i := 485) (by decide +kernel), List.mem_of_getElem? (i := 486) (by decide +kernel)⟩
theorem lw_p21 : lw_okq (⟨"TrayTurns", "remember", "()V"⟩, 16) := ⟨⟨by decide +kernel, by decide +kernel⟩, List.mem_of_getElem? (i := 19) (by decide +kernel), List.mem_of_getElem? (i := 496) (by decide +kernel), List.mem_of_getElem? (i := 497) (by decide +kernel)⟩
theorem lw_p22 : lw_okq (⟨"TrayTurns", "spill", "()I"⟩, 16) := ⟨⟨by decide +kernel, by decide +kernel⟩, List.mem_of_getElem? (i := 19) (by decide +kernel), List.mem_of_getElem? (i := 501) (by decide +kernel), List.mem_of_getElem? (i := 502) (by decide +kernel)⟩
theorem lw_p23 : lw_okq (⟨"TrayTurns", "isTurn", "(I)Z"⟩, 16) := ⟨⟨by decide +kernel, by decide +kernel⟩, List.mem_of_getElem? (i := 19) (by decide +kernel), List.mem_of_getElem? (i := 514) (by decide +kernel), List.mem_of_getElem? (i := 515) (by decide +kernel)⟩
theorem lw_p24 : lw_okq (⟨"TrayTurns", "isEmpty", "(I)Z"⟩, 16) := ⟨⟨by decide +kernel, by decide +kernel⟩, List.mem_of_getElem? (i := 19) (by decide +kernel), List.mem_of_getElem? (i := 518) (by decide +kernel), List.mem_of_getElem? (i := 519) (by decide +kernel)⟩
theorem lw_p25 : lw_okq (⟨"TrayTurns", "spreadChances", "(I)I"⟩, 16) := ⟨⟨by decide +kernel, by decide +kernel⟩, List.mem_of_getElem? (i := 19) (by decide +kernel), List.mem_of_getElem? (i := 548) (by decide +kernel), List.mem_of_getElem? (i := 549) (by decide +kernel)⟩
theorem lw_p26 : lw_okq (⟨"TrayTurns", "fitsAllSeen", "(I)Z"⟩, 16) := ⟨⟨by decide +kernel, by decide +kernel⟩, List.mem_of_getElem? (i := 19) (by decide +kernel), List.mem_of_getElem? (i := 565) (by decide +kernel), List.mem_of_getElem? (i := 566) (by decide +kernel)⟩
theorem lw_p27 : lw_okq (⟨"TrayTurns", "isImage", "(I)Z"⟩, 16) := ⟨⟨by decide +kernel, by decide +kernel⟩, List.mem_of_getElem? (i := 19) (by decide +kernel), List.mem_of_getElem? (i := 620) (by decide +kernel), List.mem_of_getElem? (i := 621) (by decide +kernel)⟩
theorem lw_p28 : lw_okq (⟨"TrayTurnsModel", "begins", "()V"⟩, 26) := ⟨⟨by decide +kernel, by decide +kernel⟩, List.mem_of_getElem? (i := 636) (by decide +kernel), List.mem_of_getElem? (i := 642) (by decide +kernel), List.mem_of_getElem? (i := 643) (by decide +kernel)⟩
theorem lw_p29 : lw_okq (⟨"TrayTurnsModel", "settles", "()V"⟩, 26) := ⟨⟨by decide +kernel, by decide +kernel⟩, List.mem_of_getElem? (i := 636) (by decide +kernel), List.mem_of_getElem? (i := 646) (by decide +kernel), List.mem_of_getElem? (i := 647) (by decide +kernel)⟩
theorem lw_p30 : lw_okq (⟨"TrayTurnsModel", "advances", "()V"⟩, 26) := ⟨⟨by decide +kernel, by decide +kernel⟩, List.mem_of_getElem? (i := 636) (by decide +kernel), List.mem_of_getElem? (i := 744) (by decide +kernel), List.mem_of_getElem? (i := 745) (by decide +kernel)⟩
theorem lw_p31 : lw_okq (⟨"TrayTurnsModel", "letterAt", "(I)I"⟩, 26) := ⟨⟨by decide +kernel, by decide +kernel⟩, List.mem_of_getElem? (i := 636) (by decide +kernel), List.mem_of_getElem? (i := 748) (by decide +kernel), List.mem_of_getElem? (i := 749) (by decide +kernel)⟩
def lw_privs_2 : List (MethodName × Nat) := [(⟨"TrayTurns$Party", "hasEnough", "(LTrayTurns$Now;I)Z"⟩, 8), (⟨"TrayTurns$Party", "fillFurthest", "(LTrayTurns$Now;)V"⟩, 8), (⟨"TrayTurns", "swap", "()I"⟩, 16), (⟨"TrayTurns$Feast", "most", "(I)I"⟩, 5), (⟨"TrayTurns$Feast", "firstFor", "(II)I"⟩, 5), (⟨"TrayTurns", "remember", "()V"⟩, 16), (⟨"TrayTurns", "spill", "()I"⟩, 16), (⟨"TrayTurns", "isTurn", "(I)Z"⟩, 16), (⟨"TrayTurns", "isEmpty", "(I)Z"⟩, 16), (⟨"TrayTurns", "spreadChances", "(I)I"⟩, 16), (⟨"TrayTurns", "fitsAllSeen", "(I)Z"⟩, 16), (⟨"TrayTurns", "isImage", "(I)Z"⟩, 16), (⟨"TrayTurnsModel", "begins", "()V"⟩, 26), (⟨"TrayTurnsModel", "settles", "()V"⟩, 26), (⟨"TrayTurnsModel", "advances", "()V"⟩, 26), (⟨"TrayTurnsModel", "letterAt", "(I)I"⟩, 26)]
theorem lw_r2 : ∀ q ∈ lw_privs_2, lw_okq q := List.forall_mem_cons.mpr ⟨lw_p16, List.forall_mem_cons.mpr ⟨lw_p17, List.forall_mem_cons.mpr ⟨lw_p18, List.forall_mem_cons.mpr ⟨lw_p19, List.forall_mem_cons.mpr ⟨lw_p20, List.forall_mem_cons.mpr ⟨lw_p21, List.forall_mem_cons.mpr ⟨lw_p22, List.forall_mem_cons.mpr ⟨lw_p23, List.forall_mem_cons.mpr ⟨lw_p24, List.forall_mem_cons.mpr ⟨lw_p25, List.forall_mem_cons.mpr ⟨lw_p26, List.forall_mem_cons.mpr ⟨lw_p27, List.forall_mem_cons.mpr ⟨lw_p28, List.forall_mem_cons.mpr ⟨lw_p29, List.forall_mem_cons.mpr ⟨lw_p30, List.forall_mem_cons.mpr ⟨lw_p31, fun _ h => absurd h List.not_mem_nil⟩⟩⟩⟩⟩⟩⟩⟩⟩⟩⟩⟩⟩⟩⟩⟩
theorem lw_p32 : lw_okq (⟨"TrayTurnsModel", "isWell", "()Z"⟩, 26) := ⟨⟨by decide +kernel, by decide +kernel⟩, List.mem_of_getElem? (i := 636) (by decide +kernel), List.mem_of_getElem? (i := 752) (by decide +kernel), List.mem_of_getElem? (i := 753) (by decide +kernel)⟩
theorem lw_p33 : lw_okq (⟨"TrayTurnsModel", "mayBegin", "(I)Z"⟩, 26) := ⟨⟨by decide +kernel, by decide +kernel⟩, List.mem_of_getElem? (i := 636) (by decide +kernel), List.mem_of_getElem? (i := 756) (by decide +kernel), List.mem_of_getElem? (i := 757) (by decide +kernel)⟩
theorem lw_p34 : lw_okq (⟨"TrayTurnsModel", "takesToken", "(Z)I"⟩, 26) := ⟨⟨by decide +kernel, by decide +kernel⟩, List.mem_of_getElem? (i := 636) (by decide +kernel), List.mem_of_getElem? (i := 760) (by decide +kernel), List.mem_of_getElem? (i := 761) (by decide +kernel)⟩
theorem lw_p35 : lw_okq (⟨"TrayTurnsModel", "readsItem", "(I)V"⟩, 26) := ⟨⟨by decide +kernel, by decide +kernel⟩, List.mem_of_getElem? (i := 636) (by decide +kernel), List.mem_of_getElem? (i := 764) (by decide +kernel), List.mem_of_getElem? (i := 765) (by decide +kernel)⟩
theorem lw_p36 : lw_okq (⟨"TrayTurnsModel", "number", "(II)I"⟩, 26) := ⟨⟨by decide +kernel, by decide +kernel⟩, List.mem_of_getElem? (i := 636) (by decide +kernel), List.mem_of_getElem? (i := 768) (by decide +kernel), List.mem_of_getElem? (i := 769) (by decide +kernel)⟩
theorem lw_p37 : lw_okq (⟨"TrayTurnsModel", "free", "(II)I"⟩, 26) := ⟨⟨by decide +kernel, by decide +kernel⟩, List.mem_of_getElem? (i := 636) (by decide +kernel), List.mem_of_getElem? (i := 772) (by decide +kernel), List.mem_of_getElem? (i := 773) (by decide +kernel)⟩
theorem lw_p38 : lw_okq (⟨"TrayTurnsModel", "lettersRow", "()I"⟩, 26) := ⟨⟨by decide +kernel, by decide +kernel⟩, List.mem_of_getElem? (i := 636) (by decide +kernel), List.mem_of_getElem? (i := 776) (by decide +kernel), List.mem_of_getElem? (i := 777) (by decide +kernel)⟩
theorem lw_p39 : lw_okq (⟨"TrayTurnsModel", "isGuest", "(I)Z"⟩, 26) := ⟨⟨by decide +kernel, by decide +kernel⟩, List.mem_of_getElem? (i := 636) (by decide +kernel), List.mem_of_getElem? (i := 784) (by decide +kernel), List.mem_of_getElem? (i := 785) (by decide +kernel)⟩
theorem lw_p40 : lw_okq (⟨"TrayTurnsModel", "needsOf", "(I)I"⟩, 26) := ⟨⟨by decide +kernel, by decide +kernel⟩, List.mem_of_getElem? (i := 636) (by decide +kernel), List.mem_of_getElem? (i := 788) (by decide +kernel), List.mem_of_getElem? (i := 789) (by decide +kernel)⟩
theorem lw_p41 : lw_okq (⟨"TrayTurnsModel", "reachedBy", "(I)I"⟩, 26) := ⟨⟨by decide +kernel, by decide +kernel⟩, List.mem_of_getElem? (i := 636) (by decide +kernel), List.mem_of_getElem? (i := 792) (by decide +kernel), List.mem_of_getElem? (i := 793) (by decide +kernel)⟩
theorem lw_p42 : lw_okq (⟨"TrayTurnsModel", "reachesBy", "(III)Z"⟩, 26) := ⟨⟨by decide +kernel, by decide +kernel⟩, List.mem_of_getElem? (i := 636) (by decide +kernel), List.mem_of_getElem? (i := 796) (by decide +kernel), List.mem_of_getElem? (i := 797) (by decide +kernel)⟩
theorem lw_p43 : lw_okq (⟨"TrayTurnsModel", "isDish", "(I)Z"⟩, 26) := ⟨⟨by decide +kernel, by decide +kernel⟩, List.mem_of_getElem? (i := 636) (by decide +kernel), List.mem_of_getElem? (i := 804) (by decide +kernel), List.mem_of_getElem? (i := 805) (by decide +kernel)⟩
theorem lw_p44 : lw_okq (⟨"TrayTurnsModel", "whoReach", "(II)I"⟩, 26) := ⟨⟨by decide +kernel, by decide +kernel⟩, List.mem_of_getElem? (i := 636) (by decide +kernel), List.mem_of_getElem? (i := 808) (by decide +kernel), List.mem_of_getElem? (i := 809) (by decide +kernel)⟩
theorem lw_p45 : lw_okq (⟨"TrayTurnsModel", "tourOf", "()I"⟩, 26) := ⟨⟨by decide +kernel, by decide +kernel⟩, List.mem_of_getElem? (i := 636) (by decide +kernel), List.mem_of_getElem? (i := 816) (by decide +kernel), List.mem_of_getElem? (i := 817) (by decide +kernel)⟩
theorem lw_p46 : lw_okq (⟨"TrayTurnsModel", "isEnough", "()Z"⟩, 26) := ⟨⟨by decide +kernel, by decide +kernel⟩, List.mem_of_getElem? (i := 636) (by decide +kernel), List.mem_of_getElem? (i := 820) (by decide +kernel), List.mem_of_getElem? (i := 821) (by decide +kernel)⟩
theorem lw_p47 : lw_okq (⟨"TrayTurnsModel", "isAll", "(II)Z"⟩, 26) := ⟨⟨by decide +kernel, by decide +kernel⟩, List.mem_of_getElem? (i := 636) (by decide +kernel), List.mem_of_getElem? (i := 827) (by decide +kernel), List.mem_of_getElem? (i := 828) (by decide +kernel)⟩
def lw_privs_3 : List (MethodName × Nat) := [(⟨"TrayTurnsModel", "isWell", "()Z"⟩, 26), (⟨"TrayTurnsModel", "mayBegin", "(I)Z"⟩, 26), (⟨"TrayTurnsModel", "takesToken", "(Z)I"⟩, 26), (⟨"TrayTurnsModel", "readsItem", "(I)V"⟩, 26), (⟨"TrayTurnsModel", "number", "(II)I"⟩, 26), (⟨"TrayTurnsModel", "free", "(II)I"⟩, 26), (⟨"TrayTurnsModel", "lettersRow", "()I"⟩, 26), (⟨"TrayTurnsModel", "isGuest", "(I)Z"⟩, 26), (⟨"TrayTurnsModel", "needsOf", "(I)I"⟩, 26), (⟨"TrayTurnsModel", "reachedBy", "(I)I"⟩, 26), (⟨"TrayTurnsModel", "reachesBy", "(III)Z"⟩, 26), (⟨"TrayTurnsModel", "isDish", "(I)Z"⟩, 26), (⟨"TrayTurnsModel", "whoReach", "(II)I"⟩, 26), (⟨"TrayTurnsModel", "tourOf", "()I"⟩, 26), (⟨"TrayTurnsModel", "isEnough", "()Z"⟩, 26), (⟨"TrayTurnsModel", "isAll", "(II)Z"⟩, 26)]
theorem lw_r3 : ∀ q ∈ lw_privs_3, lw_okq q := List.forall_mem_cons.mpr ⟨lw_p32, List.forall_mem_cons.mpr ⟨lw_p33, List.forall_mem_cons.mpr ⟨lw_p34, List.forall_mem_cons.mpr ⟨lw_p35, List.forall_mem_cons.mpr ⟨lw_p36, List.forall_mem_cons.mpr ⟨lw_p37, List.forall_mem_cons.mpr ⟨lw_p38, List.forall_mem_cons.mpr ⟨lw_p39, List.forall_mem_cons.mpr ⟨lw_p40, List.forall_mem_cons.mpr ⟨lw_p41, List.forall_mem_cons.mpr ⟨lw_p42, List.forall_mem_cons.mpr ⟨lw_p43, List.forall_mem_cons.mpr ⟨lw_p44, List.forall_mem_cons.mpr ⟨lw_p45, List.forall_mem_cons.mpr ⟨lw_p46, List.forall_mem_cons.mpr ⟨lw_p47, fun _ h => absurd h List.not_mem_nil⟩⟩⟩⟩⟩⟩⟩⟩⟩⟩⟩⟩⟩⟩⟩⟩
theorem lw_p48 : lw_okq (⟨"TrayTurnsModel", "swapOf", "()I"⟩, 26) := ⟨⟨by decide +kernel, by decide +kernel⟩, List.mem_of_getElem? (i := 636) (by decide +kernel), List.mem_of_getElem? (i := 831) (by decide +kernel), List.mem_of_getElem? (i := 832) (by decide +kernel)⟩
theorem lw_p49 : lw_okq (⟨"TrayTurnsModel", "trades", "(II)V"⟩, 26) := ⟨⟨by decide +kernel, by decide +kernel⟩, List.mem_of_getElem? (i := 636) (by decide +kernel), List.mem_of_getElem? (i := 835) (by decide +kernel), List.mem_of_getElem? (i := 836) (by decide +kernel)⟩
theorem lw_p50 : lw_okq (⟨"TrayTurnsModel", "feeds", "()I"⟩, 26) := ⟨⟨by decide +kernel, by decide +kernel⟩, List.mem_of_getElem? (i := 636) (by decide +kernel), List.mem_of_getElem? (i := 839) (by decide +kernel), List.mem_of_getElem? (i := 840) (by decide +kernel)⟩
theorem lw_p51 : lw_okq (⟨"TrayTurnsModel", "havingBy", "(I)I"⟩, 26) := ⟨⟨by decide +kernel, by decide +kernel⟩, List.mem_of_getElem? (i := 636) (by decide +kernel), List.mem_of_getElem? (i := 846) (by decide +kernel), List.mem_of_getElem? (i := 847) (by decide +kernel)⟩
theorem lw_p52 : lw_okq (⟨"TrayTurnsModel", "notes", "()V"⟩, 26) := ⟨⟨by decide +kernel, by decide +kernel⟩, List.mem_of_getElem? (i := 636) (by decide +kernel), List.mem_of_getElem? (i := 854) (by decide +kernel), List.mem_of_getElem? (i := 855) (by decide +kernel)⟩
theorem lw_p53 : lw_okq (⟨"TrayTurnsModel", "isSeat", "(I)Z"⟩, 26) := ⟨⟨by decide +kernel, by decide +kernel⟩, List.mem_of_getElem? (i := 636) (by decide +kernel), List.mem_of_getElem? (i := 866) (by decide +kernel), List.mem_of_getElem? (i := 867) (by decide +kernel)⟩
theorem lw_p54 : lw_okq (⟨"TrayTurnsModel", "isEmpty", "(I)Z"⟩, 26) := ⟨⟨by decide +kernel, by decide +kernel⟩, List.mem_of_getElem? (i := 636) (by decide +kernel), List.mem_of_getElem? (i := 870) (by decide +kernel), List.mem_of_getElem? (i := 871) (by decide +kernel)⟩
theorem lw_p55 : lw_okq (⟨"TrayTurnsModel", "whoCan", "()I"⟩, 26) := ⟨⟨by decide +kernel, by decide +kernel⟩, List.mem_of_getElem? (i := 636) (by decide +kernel), List.mem_of_getElem? (i := 919) (by decide +kernel), List.mem_of_getElem? (i := 920) (by decide +kernel)⟩
def lw_privs_4 : List (MethodName × Nat) := [(⟨"TrayTurnsModel", "swapOf", "()I"⟩, 26), (⟨"TrayTurnsModel", "trades", "(II)V"⟩, 26), (⟨"TrayTurnsModel", "feeds", "()I"⟩, 26), (⟨"TrayTurnsModel", "havingBy", "(I)I"⟩, 26), (⟨"TrayTurnsModel", "notes", "()V"⟩, 26), (⟨"TrayTurnsModel", "isSeat", "(I)Z"⟩, 26), (⟨"TrayTurnsModel", "isEmpty", "(I)Z"⟩, 26), (⟨"TrayTurnsModel", "whoCan", "()I"⟩, 26)]
theorem lw_r4 : ∀ q ∈ lw_privs_4, lw_okq q := List.forall_mem_cons.mpr ⟨lw_p48, List.forall_mem_cons.mpr ⟨lw_p49, List.forall_mem_cons.mpr ⟨lw_p50, List.forall_mem_cons.mpr ⟨lw_p51, List.forall_mem_cons.mpr ⟨lw_p52, List.forall_mem_cons.mpr ⟨lw_p53, List.forall_mem_cons.mpr ⟨lw_p54, List.forall_mem_cons.mpr ⟨lw_p55, fun _ h => absurd h List.not_mem_nil⟩⟩⟩⟩⟩⟩⟩⟩
def lw_privs : List (MethodName × Nat) := lw_privs_1 ++ (lw_privs_2 ++ (lw_privs_3 ++ (lw_privs_4)))
def lw_tbl : List Cond := k2_sels lw_privs ++ tables_1
theorem lw_privs_ok : ∀ q ∈ lw_privs, lw_okq q := by
  show ∀ q ∈ lw_privs_1 ++ (lw_privs_2 ++ (lw_privs_3 ++ (lw_privs_4))), lw_okq q
  exact List.forall_mem_append.mpr ⟨lw_r1, List.forall_mem_append.mpr ⟨lw_r2, List.forall_mem_append.mpr ⟨lw_r3, lw_r4⟩⟩⟩
end
section
def RX0 : String := "TrayTurns$Asked"
def TX0 : u_T := fun k => match k with
  | 0 => ("TrayTurns$Asked", "number", "I", false)
  | 1 => ("TrayTurns$Asked", "arm", "I", false)
  | 2 => ("TrayTurns$Asked", "needs", "I", false)
  | 3 => ("TrayTurns$Asked", "reaches", "I", false)
  | 4 => ("TrayTurns$Asked", "turn", "I", false)
  | _ => ("TrayTurns$Asked", "traced", "J", false)
def tyX0 : Nat → FieldType := fun k => match k with
  | 0 => .int
  | 1 => .int
  | 2 => .int
  | 3 => .int
  | 4 => .int
  | _ => .long
theorem nmX0 : ∀ a, a < 6 → ∀ b, b < 6 → a ≠ b → (TX0 a).2.1 ≠ (TX0 b).2.1 := by decide +kernel
theorem tyX0_ok : ∀ k, k < 6 → parseFieldDescriptor (TX0 k).2.2.1 = some (tyX0 k) := by decide +kernel
abbrev cX0_init : ByteArray := prog_2_method_1_code
def yX0_init : MethodName := ⟨RX0, "<init>", "()V"⟩
def RX1 : String := "TrayTurns$AuntKind"
def TX1 : u_T := fun k => match k with
  | _ => ("", "", "", false)
def tyX1 : Nat → FieldType := fun k => match k with
  | _ => .int
theorem nmX1 : ∀ a, a < 0 → ∀ b, b < 0 → a ≠ b → (TX1 a).2.1 ≠ (TX1 b).2.1 := by decide +kernel
theorem tyX1_ok : ∀ k, k < 0 → parseFieldDescriptor (TX1 k).2.2.1 = some (tyX1 k) := by decide +kernel
abbrev cX1_init : ByteArray := prog_3_method_1_code
def yX1_init : MethodName := ⟨RX1, "<init>", "()V"⟩
abbrev cX1_worth : ByteArray := prog_3_method_2_code
def yX1_worth : MethodName := ⟨RX1, "worth", "(LTrayTurns$Asked;)I"⟩
def RX2 : String := "TrayTurns$BishopKind"
def TX2 : u_T := fun k => match k with
  | _ => ("", "", "", false)
def tyX2 : Nat → FieldType := fun k => match k with
  | _ => .int
theorem nmX2 : ∀ a, a < 0 → ∀ b, b < 0 → a ≠ b → (TX2 a).2.1 ≠ (TX2 b).2.1 := by decide +kernel
theorem tyX2_ok : ∀ k, k < 0 → parseFieldDescriptor (TX2 k).2.2.1 = some (tyX2 k) := by decide +kernel
abbrev cX2_init : ByteArray := prog_4_method_1_code
def yX2_init : MethodName := ⟨RX2, "<init>", "()V"⟩
abbrev cX2_worth : ByteArray := prog_4_method_2_code
def yX2_worth : MethodName := ⟨RX2, "worth", "(LTrayTurns$Asked;)I"⟩
def RX3 : String := "TrayTurns$ChildKind"
def TX3 : u_T := fun k => match k with
  | _ => ("", "", "", false)
def tyX3 : Nat → FieldType := fun k => match k with
  | _ => .int
theorem nmX3 : ∀ a, a < 0 → ∀ b, b < 0 → a ≠ b → (TX3 a).2.1 ≠ (TX3 b).2.1 := by decide +kernel
theorem tyX3_ok : ∀ k, k < 0 → parseFieldDescriptor (TX3 k).2.2.1 = some (tyX3 k) := by decide +kernel
abbrev cX3_init : ByteArray := prog_5_method_1_code
def yX3_init : MethodName := ⟨RX3, "<init>", "()V"⟩
abbrev cX3_worth : ByteArray := prog_5_method_2_code
def yX3_worth : MethodName := ⟨RX3, "worth", "(LTrayTurns$Asked;)I"⟩
def RX4 : String := "TrayTurns$CousinKind"
def TX4 : u_T := fun k => match k with
  | _ => ("", "", "", false)
def tyX4 : Nat → FieldType := fun k => match k with
  | _ => .int
theorem nmX4 : ∀ a, a < 0 → ∀ b, b < 0 → a ≠ b → (TX4 a).2.1 ≠ (TX4 b).2.1 := by decide +kernel
theorem tyX4_ok : ∀ k, k < 0 → parseFieldDescriptor (TX4 k).2.2.1 = some (tyX4 k) := by decide +kernel
abbrev cX4_init : ByteArray := prog_6_method_1_code
def yX4_init : MethodName := ⟨RX4, "<init>", "()V"⟩
abbrev cX4_worth : ByteArray := prog_6_method_2_code
def yX4_worth : MethodName := ⟨RX4, "worth", "(LTrayTurns$Asked;)I"⟩
def RX5 : String := "TrayTurns$Feast"
def TX5 : u_T := fun k => match k with
  | 0 => ("TrayTurns$Feast", "given", "[I", true)
  | 1 => ("TrayTurns$Feast", "needs", "[I", true)
  | 2 => ("TrayTurns$Feast", "left", "[I", true)
  | 3 => ("TrayTurns$Feast", "guests", "I", false)
  | _ => ("TrayTurns$Feast", "dishes", "I", false)
def tyX5 : Nat → FieldType := fun k => match k with
  | 0 => .array .int
  | 1 => .array .int
  | 2 => .array .int
  | 3 => .int
  | _ => .int
theorem nmX5 : ∀ a, a < 5 → ∀ b, b < 5 → a ≠ b → (TX5 a).2.1 ≠ (TX5 b).2.1 := by decide +kernel
theorem tyX5_ok : ∀ k, k < 5 → parseFieldDescriptor (TX5 k).2.2.1 = some (tyX5 k) := by decide +kernel
abbrev cX5_init : ByteArray := prog_7_method_1_code
def yX5_init : MethodName := ⟨RX5, "<init>", "()V"⟩
abbrev cX5_share : ByteArray := prog_7_method_2_code
def yX5_share : MethodName := ⟨RX5, "share", "(LTrayTurns$Party;LTrayTurns$Now;)I"⟩
abbrev cX5_firstFor : ByteArray := prog_7_method_3_code
def yX5_firstFor : MethodName := ⟨RX5, "firstFor", "(II)I"⟩
abbrev cX5_most : ByteArray := prog_7_method_4_code
def yX5_most : MethodName := ⟨RX5, "most", "(I)I"⟩
def RX6 : String := "TrayTurns$GuestKind"
def TX6 : u_T := fun k => match k with
  | _ => ("", "", "", false)
def tyX6 : Nat → FieldType := fun k => match k with
  | _ => .int
theorem nmX6 : ∀ a, a < 0 → ∀ b, b < 0 → a ≠ b → (TX6 a).2.1 ≠ (TX6 b).2.1 := by decide +kernel
theorem tyX6_ok : ∀ k, k < 0 → parseFieldDescriptor (TX6 k).2.2.1 = some (tyX6 k) := by decide +kernel
abbrev cX6_init : ByteArray := prog_8_method_1_code
def yX6_init : MethodName := ⟨RX6, "<init>", "()V"⟩
abbrev cX6_worth : ByteArray := prog_8_method_2_code
def yX6_worth : MethodName := ⟨RX6, "worth", "(LTrayTurns$Asked;)I"⟩
def RX7 : String := "TrayTurns$Now"
def TX7 : u_T := fun k => match k with
  | 0 => ("TrayTurns$Now", "turn", "I", false)
  | 1 => ("TrayTurns$Now", "portions", "[I", true)
  | 2 => ("TrayTurns$Now", "places", "[I", true)
  | 3 => ("TrayTurns$Now", "sits", "[I", true)
  | _ => ("TrayTurns$Now", "had", "[I", true)
def tyX7 : Nat → FieldType := fun k => match k with
  | 0 => .int
  | 1 => .array .int
  | 2 => .array .int
  | 3 => .array .int
  | _ => .array .int
theorem nmX7 : ∀ a, a < 5 → ∀ b, b < 5 → a ≠ b → (TX7 a).2.1 ≠ (TX7 b).2.1 := by decide +kernel
theorem tyX7_ok : ∀ k, k < 5 → parseFieldDescriptor (TX7 k).2.2.1 = some (tyX7 k) := by decide +kernel
abbrev cX7_init : ByteArray := prog_9_method_1_code
def yX7_init : MethodName := ⟨RX7, "<init>", "()V"⟩
abbrev cX7_become : ByteArray := prog_9_method_2_code
def yX7_become : MethodName := ⟨RX7, "become", "(LTrayTurns$Now;)V"⟩
abbrev cX7_changeSeats : ByteArray := prog_9_method_3_code
def yX7_changeSeats : MethodName := ⟨RX7, "changeSeats", "(II)V"⟩
def RX8 : String := "TrayTurns$Party"
def TX8 : u_T := fun k => match k with
  | 0 => ("TrayTurns$Party", "seats", "I", false)
  | 1 => ("TrayTurns$Party", "guests", "I", false)
  | 2 => ("TrayTurns$Party", "dishes", "I", false)
  | 3 => ("TrayTurns$Party", "arms", "[I", true)
  | 4 => ("TrayTurns$Party", "likes", "[I", true)
  | 5 => ("TrayTurns$Party", "tall", "[I", true)
  | 6 => ("TrayTurns$Party", "start", "LTrayTurns$Now;", true)
  | _ => ("TrayTurns$Party", "furthest", "[I", true)
def tyX8 : Nat → FieldType := fun k => match k with
  | 0 => .int
  | 1 => .int
  | 2 => .int
  | 3 => .array .int
  | 4 => .array .int
  | 5 => .array .int
  | 6 => .object "TrayTurns$Now"
  | _ => .array .int
theorem nmX8 : ∀ a, a < 8 → ∀ b, b < 8 → a ≠ b → (TX8 a).2.1 ≠ (TX8 b).2.1 := by decide +kernel
theorem tyX8_ok : ∀ k, k < 8 → parseFieldDescriptor (TX8 k).2.2.1 = some (tyX8 k) := by decide +kernel
abbrev cX8_init : ByteArray := prog_10_method_1_code
def yX8_init : MethodName := ⟨RX8, "<init>", "()V"⟩
abbrev cX8_empty : ByteArray := prog_10_method_2_code
def yX8_empty : MethodName := ⟨RX8, "empty", "()V"⟩
abbrev cX8_around : ByteArray := prog_10_method_3_code
def yX8_around : MethodName := ⟨RX8, "around", "(I)I"⟩
abbrev cX8_seatBefore : ByteArray := prog_10_method_4_code
def yX8_seatBefore : MethodName := ⟨RX8, "seatBefore", "(LTrayTurns$Now;I)I"⟩
abbrev cX8_gap : ByteArray := prog_10_method_5_code
def yX8_gap : MethodName := ⟨RX8, "gap", "(LTrayTurns$Now;III)I"⟩
abbrev cX8_reaches : ByteArray := prog_10_method_6_code
def yX8_reaches : MethodName := ⟨RX8, "reaches", "(LTrayTurns$Now;III)Z"⟩
abbrev cX8_stepsBy : ByteArray := prog_10_method_7_code
def yX8_stepsBy : MethodName := ⟨RX8, "stepsBy", "(LTrayTurns$Now;III)I"⟩
abbrev cX8_reachedBy : ByteArray := prog_10_method_8_code
def yX8_reachedBy : MethodName := ⟨RX8, "reachedBy", "(LTrayTurns$Now;I)I"⟩
abbrev cX8_whoReach : ByteArray := prog_10_method_9_code
def yX8_whoReach : MethodName := ⟨RX8, "whoReach", "(LTrayTurns$Now;II)I"⟩
abbrev cX8_needs : ByteArray := prog_10_method_10_code
def yX8_needs : MethodName := ⟨RX8, "needs", "(LTrayTurns$Now;I)I"⟩
abbrev cX8_hasEnough : ByteArray := prog_10_method_11_code
def yX8_hasEnough : MethodName := ⟨RX8, "hasEnough", "(LTrayTurns$Now;I)Z"⟩
abbrev cX8_tour : ByteArray := prog_10_method_12_code
def yX8_tour : MethodName := ⟨RX8, "tour", "(LTrayTurns$Now;)I"⟩
abbrev cX8_fillFurthest : ByteArray := prog_10_method_13_code
def yX8_fillFurthest : MethodName := ⟨RX8, "fillFurthest", "(LTrayTurns$Now;)V"⟩
def RX9 : String := "TrayTurns$Reader"
def TX9 : u_T := fun k => match k with
  | 0 => ("TrayTurns$Reader", "letters", "[C", true)
  | 1 => ("TrayTurns$Reader", "length", "I", false)
  | 2 => ("TrayTurns$Reader", "draft", "LTrayTurns$Party;", false)
  | 3 => ("TrayTurns$Reader", "sort", "I", false)
  | 4 => ("TrayTurns$Reader", "start", "I", false)
  | 5 => ("TrayTurns$Reader", "end", "I", false)
  | _ => ("TrayTurns$Reader", "value", "I", false)
def tyX9 : Nat → FieldType := fun k => match k with
  | 0 => .array .char
  | 1 => .int
  | 2 => .object "TrayTurns$Party"
  | 3 => .int
  | 4 => .int
  | 5 => .int
  | _ => .int
theorem nmX9 : ∀ a, a < 7 → ∀ b, b < 7 → a ≠ b → (TX9 a).2.1 ≠ (TX9 b).2.1 := by decide +kernel
theorem tyX9_ok : ∀ k, k < 7 → parseFieldDescriptor (TX9 k).2.2.1 = some (tyX9 k) := by decide +kernel
abbrev cX9_init : ByteArray := prog_11_method_1_code
def yX9_init : MethodName := ⟨RX9, "<init>", "()V"⟩
abbrev cX9_read : ByteArray := prog_11_method_2_code
def yX9_read : MethodName := ⟨RX9, "read", "()I"⟩
abbrev cX9_handOver : ByteArray := prog_11_method_3_code
def yX9_handOver : MethodName := ⟨RX9, "handOver", "(LTrayTurns$Party;)LTrayTurns$Party;"⟩
abbrev cX9_readItem : ByteArray := prog_11_method_4_code
def yX9_readItem : MethodName := ⟨RX9, "readItem", "(Z)Z"⟩
abbrev cX9_readSeats : ByteArray := prog_11_method_5_code
def yX9_readSeats : MethodName := ⟨RX9, "readSeats", "()Z"⟩
abbrev cX9_readGuest : ByteArray := prog_11_method_6_code
def yX9_readGuest : MethodName := ⟨RX9, "readGuest", "()Z"⟩
abbrev cX9_readDish : ByteArray := prog_11_method_7_code
def yX9_readDish : MethodName := ⟨RX9, "readDish", "()Z"⟩
abbrev cX9_isAmong : ByteArray := prog_11_method_8_code
def yX9_isAmong : MethodName := ⟨RX9, "isAmong", "([II)Z"⟩
abbrev cX9_readNumber : ByteArray := prog_11_method_9_code
def yX9_readNumber : MethodName := ⟨RX9, "readNumber", "(II)Z"⟩
abbrev cX9_readRow : ByteArray := prog_11_method_10_code
def yX9_readRow : MethodName := ⟨RX9, "readRow", "()Z"⟩
abbrev cX9_readClose : ByteArray := prog_11_method_11_code
def yX9_readClose : MethodName := ⟨RX9, "readClose", "()Z"⟩
abbrev cX9_isWord : ByteArray := prog_11_method_12_code
def yX9_isWord : MethodName := ⟨RX9, "isWord", "(C)Z"⟩
abbrev cX9_nextToken : ByteArray := prog_11_method_13_code
def yX9_nextToken : MethodName := ⟨RX9, "nextToken", "()V"⟩
abbrev cX9_nextWord : ByteArray := prog_11_method_14_code
def yX9_nextWord : MethodName := ⟨RX9, "nextWord", "()V"⟩
abbrev cX9_nextNumber : ByteArray := prog_11_method_15_code
def yX9_nextNumber : MethodName := ⟨RX9, "nextNumber", "()V"⟩
abbrev cX9_isSmall : ByteArray := prog_11_method_16_code
def yX9_isSmall : MethodName := ⟨RX9, "isSmall", "(C)Z"⟩
abbrev cX9_isDigit : ByteArray := prog_11_method_17_code
def yX9_isDigit : MethodName := ⟨RX9, "isDigit", "(C)Z"⟩
def RX10 : String := "TrayTurns$UncleKind"
def TX10 : u_T := fun k => match k with
  | _ => ("", "", "", false)
def tyX10 : Nat → FieldType := fun k => match k with
  | _ => .int
theorem nmX10 : ∀ a, a < 0 → ∀ b, b < 0 → a ≠ b → (TX10 a).2.1 ≠ (TX10 b).2.1 := by decide +kernel
theorem tyX10_ok : ∀ k, k < 0 → parseFieldDescriptor (TX10 k).2.2.1 = some (tyX10 k) := by decide +kernel
abbrev cX10_init : ByteArray := prog_12_method_1_code
def yX10_init : MethodName := ⟨RX10, "<init>", "()V"⟩
abbrev cX10_worth : ByteArray := prog_12_method_2_code
def yX10_worth : MethodName := ⟨RX10, "worth", "(LTrayTurns$Asked;)I"⟩
def RX11 : String := "TrayTurns"
def TX11 : u_T := fun k => match k with
  | 0 => ("TrayTurns", "reader", "LTrayTurns$Reader;", true)
  | 1 => ("TrayTurns", "feast", "LTrayTurns$Feast;", true)
  | 2 => ("TrayTurns", "asked", "LTrayTurns$Asked;", true)
  | 3 => ("TrayTurns", "kinds", "[LTrayTurns$GuestKind;", true)
  | 4 => ("TrayTurns", "party", "LTrayTurns$Party;", false)
  | 5 => ("TrayTurns", "state", "LTrayTurns$Now;", true)
  | 6 => ("TrayTurns", "trial", "LTrayTurns$Now;", true)
  | 7 => ("TrayTurns", "known", "[LTrayTurns$Now;", true)
  | 8 => ("TrayTurns", "knownCount", "I", false)
  | 9 => ("TrayTurns", "images", "[LTrayTurns$Now;", true)
  | 10 => ("TrayTurns", "kept", "[Z", true)
  | 11 => ("TrayTurns", "seenDish", "[I", true)
  | 12 => ("TrayTurns", "seenTurn", "[I", true)
  | 13 => ("TrayTurns", "seenReached", "[Z", true)
  | 14 => ("TrayTurns", "seenCount", "I", false)
  | _ => ("TrayTurns", "chances", "[I", true)
def tyX11 : Nat → FieldType := fun k => match k with
  | 0 => .object "TrayTurns$Reader"
  | 1 => .object "TrayTurns$Feast"
  | 2 => .object "TrayTurns$Asked"
  | 3 => .array (.object "TrayTurns$GuestKind")
  | 4 => .object "TrayTurns$Party"
  | 5 => .object "TrayTurns$Now"
  | 6 => .object "TrayTurns$Now"
  | 7 => .array (.object "TrayTurns$Now")
  | 8 => .int
  | 9 => .array (.object "TrayTurns$Now")
  | 10 => .array .boolean
  | 11 => .array .int
  | 12 => .array .int
  | 13 => .array .boolean
  | 14 => .int
  | _ => .array .int
theorem nmX11 : ∀ a, a < 16 → ∀ b, b < 16 → a ≠ b → (TX11 a).2.1 ≠ (TX11 b).2.1 := by decide +kernel
theorem tyX11_ok : ∀ k, k < 16 → parseFieldDescriptor (TX11 k).2.2.1 = some (tyX11 k) := by decide +kernel
abbrev cX11_init : ByteArray := prog_1_method_1_code
def yX11_init : MethodName := ⟨RX11, "<init>", "()V"⟩
abbrev cX11_type : ByteArray := prog_1_method_2_code
def yX11_type : MethodName := ⟨RX11, "type", "(I)I"⟩
abbrev cX11_clear : ByteArray := prog_1_method_3_code
def yX11_clear : MethodName := ⟨RX11, "clear", "()I"⟩
abbrev cX11_table : ByteArray := prog_1_method_4_code
def yX11_table : MethodName := ⟨RX11, "table", "()I"⟩
abbrev cX11_guest : ByteArray := prog_1_method_5_code
def yX11_guest : MethodName := ⟨RX11, "guest", "(II)I"⟩
abbrev cX11_dish : ByteArray := prog_1_method_6_code
def yX11_dish : MethodName := ⟨RX11, "dish", "(II)I"⟩
abbrev cX11_now : ByteArray := prog_1_method_7_code
def yX11_now : MethodName := ⟨RX11, "now", "(I)I"⟩
abbrev cX11_spins : ByteArray := prog_1_method_8_code
def yX11_spins : MethodName := ⟨RX11, "spins", "(II)I"⟩
abbrev cX11_takes : ByteArray := prog_1_method_9_code
def yX11_takes : MethodName := ⟨RX11, "takes", "(II)I"⟩
abbrev cX11_moves : ByteArray := prog_1_method_10_code
def yX11_moves : MethodName := ⟨RX11, "moves", "(II)I"⟩
abbrev cX11_changes : ByteArray := prog_1_method_11_code
def yX11_changes : MethodName := ⟨RX11, "changes", "(II)I"⟩
abbrev cX11_undo : ByteArray := prog_1_method_12_code
def yX11_undo : MethodName := ⟨RX11, "undo", "()I"⟩
abbrev cX11_steps : ByteArray := prog_1_method_13_code
def yX11_steps : MethodName := ⟨RX11, "steps", "(III)I"⟩
abbrev cX11_puts : ByteArray := prog_1_method_14_code
def yX11_puts : MethodName := ⟨RX11, "puts", "(I)I"⟩
abbrev cX11_fed : ByteArray := prog_1_method_15_code
def yX11_fed : MethodName := ⟨RX11, "fed", "(I)I"⟩
abbrev cX11_odds : ByteArray := prog_1_method_16_code
def yX11_odds : MethodName := ⟨RX11, "odds", "(III)I"⟩
abbrev cX11_sees : ByteArray := prog_1_method_17_code
def yX11_sees : MethodName := ⟨RX11, "sees", "(III)I"⟩
abbrev cX11_forget : ByteArray := prog_1_method_18_code
def yX11_forget : MethodName := ⟨RX11, "forget", "()I"⟩
abbrev cX11_who : ByteArray := prog_1_method_19_code
def yX11_who : MethodName := ⟨RX11, "who", "()I"⟩
abbrev cX11_look : ByteArray := prog_1_method_20_code
def yX11_look : MethodName := ⟨RX11, "look", "(I)I"⟩
abbrev cX11_rate : ByteArray := prog_1_method_21_code
def yX11_rate : MethodName := ⟨RX11, "rate", "(II)I"⟩
abbrev cX11_keep : ByteArray := prog_1_method_22_code
def yX11_keep : MethodName := ⟨RX11, "keep", "(I)I"⟩
abbrev cX11_back : ByteArray := prog_1_method_23_code
def yX11_back : MethodName := ⟨RX11, "back", "(I)I"⟩
abbrev cX11_count : ByteArray := prog_1_method_24_code
def yX11_count : MethodName := ⟨RX11, "count", "(I)I"⟩
abbrev cX11_trace : ByteArray := prog_1_method_25_code
def yX11_trace : MethodName := ⟨RX11, "trace", "()J"⟩
abbrev cX11_isGuest : ByteArray := prog_1_method_26_code
def yX11_isGuest : MethodName := ⟨RX11, "isGuest", "(I)Z"⟩
abbrev cX11_isDish : ByteArray := prog_1_method_27_code
def yX11_isDish : MethodName := ⟨RX11, "isDish", "(I)Z"⟩
abbrev cX11_isTurn : ByteArray := prog_1_method_28_code
def yX11_isTurn : MethodName := ⟨RX11, "isTurn", "(I)Z"⟩
abbrev cX11_isImage : ByteArray := prog_1_method_29_code
def yX11_isImage : MethodName := ⟨RX11, "isImage", "(I)Z"⟩
abbrev cX11_isBit : ByteArray := prog_1_method_30_code
def yX11_isBit : MethodName := ⟨RX11, "isBit", "(I)Z"⟩
abbrev cX11_isEmpty : ByteArray := prog_1_method_31_code
def yX11_isEmpty : MethodName := ⟨RX11, "isEmpty", "(I)Z"⟩
abbrev cX11_allPortions : ByteArray := prog_1_method_32_code
def yX11_allPortions : MethodName := ⟨RX11, "allPortions", "()I"⟩
abbrev cX11_remember : ByteArray := prog_1_method_33_code
def yX11_remember : MethodName := ⟨RX11, "remember", "()V"⟩
abbrev cX11_spill : ByteArray := prog_1_method_34_code
def yX11_spill : MethodName := ⟨RX11, "spill", "()I"⟩
abbrev cX11_swap : ByteArray := prog_1_method_35_code
def yX11_swap : MethodName := ⟨RX11, "swap", "()I"⟩
abbrev cX11_spreadChances : ByteArray := prog_1_method_36_code
def yX11_spreadChances : MethodName := ⟨RX11, "spreadChances", "(I)I"⟩
abbrev cX11_fitsAllSeen : ByteArray := prog_1_method_37_code
def yX11_fitsAllSeen : MethodName := ⟨RX11, "fitsAllSeen", "(I)Z"⟩
def RX12 : String := "TrayTurnsModel"
def TX12 : u_T := fun k => match k with
  | 0 => ("TrayTurnsModel", "thrown", "I", false)
  | 1 => ("TrayTurnsModel", "trace", "J", false)
  | 2 => ("TrayTurnsModel", "text", "[I", true)
  | 3 => ("TrayTurnsModel", "typed", "I", false)
  | 4 => ("TrayTurnsModel", "at", "I", false)
  | 5 => ("TrayTurnsModel", "token", "I", false)
  | 6 => ("TrayTurnsModel", "place", "I", false)
  | 7 => ("TrayTurnsModel", "value", "I", false)
  | 8 => ("TrayTurnsModel", "fault", "I", false)
  | 9 => ("TrayTurnsModel", "many", "[I", true)
  | 10 => ("TrayTurnsModel", "arm", "[I", true)
  | 11 => ("TrayTurnsModel", "likes", "[I", true)
  | 12 => ("TrayTurnsModel", "tall", "[I", true)
  | 13 => ("TrayTurnsModel", "draft", "[I", true)
  | 14 => ("TrayTurnsModel", "s", "[I", true)
  | 15 => ("TrayTurnsModel", "kept", "[I", true)
  | 16 => ("TrayTurnsModel", "isKept", "[Z", true)
  | 17 => ("TrayTurnsModel", "undos", "[I", true)
  | 18 => ("TrayTurnsModel", "undoMany", "I", false)
  | 19 => ("TrayTurnsModel", "seenDish", "[I", true)
  | 20 => ("TrayTurnsModel", "seenTurn", "[I", true)
  | 21 => ("TrayTurnsModel", "seen", "[I", true)
  | 22 => ("TrayTurnsModel", "seenMany", "I", false)
  | 23 => ("TrayTurnsModel", "has", "[I", true)
  | 24 => ("TrayTurnsModel", "best", "[I", true)
  | _ => ("TrayTurnsModel", "left", "[I", true)
def tyX12 : Nat → FieldType := fun k => match k with
  | 0 => .int
  | 1 => .long
  | 2 => .array .int
  | 3 => .int
  | 4 => .int
  | 5 => .int
  | 6 => .int
  | 7 => .int
  | 8 => .int
  | 9 => .array .int
  | 10 => .array .int
  | 11 => .array .int
  | 12 => .array .int
  | 13 => .array .int
  | 14 => .array .int
  | 15 => .array .int
  | 16 => .array .boolean
  | 17 => .array .int
  | 18 => .int
  | 19 => .array .int
  | 20 => .array .int
  | 21 => .array .int
  | 22 => .int
  | 23 => .array .int
  | 24 => .array .int
  | _ => .array .int
theorem nmX12 : ∀ a, a < 26 → ∀ b, b < 26 → a ≠ b → (TX12 a).2.1 ≠ (TX12 b).2.1 := by decide +kernel
theorem tyX12_ok : ∀ k, k < 26 → parseFieldDescriptor (TX12 k).2.2.1 = some (tyX12 k) := by decide +kernel
abbrev cX12_init : ByteArray := prog_14_method_1_code
def yX12_init : MethodName := ⟨RX12, "<init>", "()V"⟩
abbrev cX12_in : ByteArray := prog_14_method_3_code
def yX12_in : MethodName := ⟨RX12, "in", "(III)Z"⟩
abbrev cX12_isOf : ByteArray := prog_14_method_4_code
def yX12_isOf : MethodName := ⟨RX12, "isOf", "(II)Z"⟩
abbrev cX12_ones : ByteArray := prog_14_method_5_code
def yX12_ones : MethodName := ⟨RX12, "ones", "(I)I"⟩
abbrev cX12_type : ByteArray := prog_14_method_6_code
def yX12_type : MethodName := ⟨RX12, "type", "(I)I"⟩
abbrev cX12_clear : ByteArray := prog_14_method_7_code
def yX12_clear : MethodName := ⟨RX12, "clear", "()I"⟩
abbrev cX12_letterAt : ByteArray := prog_14_method_8_code
def yX12_letterAt : MethodName := ⟨RX12, "letterAt", "(I)I"⟩
abbrev cX12_advances : ByteArray := prog_14_method_9_code
def yX12_advances : MethodName := ⟨RX12, "advances", "()V"⟩
abbrev cX12_isWell : ByteArray := prog_14_method_10_code
def yX12_isWell : MethodName := ⟨RX12, "isWell", "()Z"⟩
abbrev cX12_takesToken : ByteArray := prog_14_method_11_code
def yX12_takesToken : MethodName := ⟨RX12, "takesToken", "(Z)I"⟩
abbrev cX12_number : ByteArray := prog_14_method_12_code
def yX12_number : MethodName := ⟨RX12, "number", "(II)I"⟩
abbrev cX12_begins : ByteArray := prog_14_method_13_code
def yX12_begins : MethodName := ⟨RX12, "begins", "()V"⟩
abbrev cX12_mayBegin : ByteArray := prog_14_method_14_code
def yX12_mayBegin : MethodName := ⟨RX12, "mayBegin", "(I)Z"⟩
abbrev cX12_free : ByteArray := prog_14_method_15_code
def yX12_free : MethodName := ⟨RX12, "free", "(II)I"⟩
abbrev cX12_lettersRow : ByteArray := prog_14_method_16_code
def yX12_lettersRow : MethodName := ⟨RX12, "lettersRow", "()I"⟩
abbrev cX12_readsItem : ByteArray := prog_14_method_17_code
def yX12_readsItem : MethodName := ⟨RX12, "readsItem", "(I)V"⟩
abbrev cX12_table : ByteArray := prog_14_method_18_code
def yX12_table : MethodName := ⟨RX12, "table", "()I"⟩
abbrev cX12_settles : ByteArray := prog_14_method_19_code
def yX12_settles : MethodName := ⟨RX12, "settles", "()V"⟩
abbrev cX12_isGuest : ByteArray := prog_14_method_20_code
def yX12_isGuest : MethodName := ⟨RX12, "isGuest", "(I)Z"⟩
abbrev cX12_isDish : ByteArray := prog_14_method_21_code
def yX12_isDish : MethodName := ⟨RX12, "isDish", "(I)Z"⟩
abbrev cX12_isSeat : ByteArray := prog_14_method_22_code
def yX12_isSeat : MethodName := ⟨RX12, "isSeat", "(I)Z"⟩
abbrev cX12_reachesBy : ByteArray := prog_14_method_23_code
def yX12_reachesBy : MethodName := ⟨RX12, "reachesBy", "(III)Z"⟩
abbrev cX12_reachedBy : ByteArray := prog_14_method_24_code
def yX12_reachedBy : MethodName := ⟨RX12, "reachedBy", "(I)I"⟩
abbrev cX12_needsOf : ByteArray := prog_14_method_25_code
def yX12_needsOf : MethodName := ⟨RX12, "needsOf", "(I)I"⟩
abbrev cX12_guest : ByteArray := prog_14_method_26_code
def yX12_guest : MethodName := ⟨RX12, "guest", "(II)I"⟩
abbrev cX12_whoReach : ByteArray := prog_14_method_27_code
def yX12_whoReach : MethodName := ⟨RX12, "whoReach", "(II)I"⟩
abbrev cX12_dish : ByteArray := prog_14_method_28_code
def yX12_dish : MethodName := ⟨RX12, "dish", "(II)I"⟩
abbrev cX12_isEnough : ByteArray := prog_14_method_29_code
def yX12_isEnough : MethodName := ⟨RX12, "isEnough", "()Z"⟩
abbrev cX12_isAll : ByteArray := prog_14_method_30_code
def yX12_isAll : MethodName := ⟨RX12, "isAll", "(II)Z"⟩
abbrev cX12_tourOf : ByteArray := prog_14_method_31_code
def yX12_tourOf : MethodName := ⟨RX12, "tourOf", "()I"⟩
abbrev cX12_trades : ByteArray := prog_14_method_32_code
def yX12_trades : MethodName := ⟨RX12, "trades", "(II)V"⟩
abbrev cX12_swapOf : ByteArray := prog_14_method_33_code
def yX12_swapOf : MethodName := ⟨RX12, "swapOf", "()I"⟩
abbrev cX12_sevens : ByteArray := prog_14_method_34_code
def yX12_sevens : MethodName := ⟨RX12, "sevens", "(I)I"⟩
abbrev cX12_havingBy : ByteArray := prog_14_method_35_code
def yX12_havingBy : MethodName := ⟨RX12, "havingBy", "(I)I"⟩
abbrev cX12_feeds : ByteArray := prog_14_method_36_code
def yX12_feeds : MethodName := ⟨RX12, "feeds", "()I"⟩
abbrev cX12_now : ByteArray := prog_14_method_37_code
def yX12_now : MethodName := ⟨RX12, "now", "(I)I"⟩
abbrev cX12_notes : ByteArray := prog_14_method_38_code
def yX12_notes : MethodName := ⟨RX12, "notes", "()V"⟩
abbrev cX12_spins : ByteArray := prog_14_method_39_code
def yX12_spins : MethodName := ⟨RX12, "spins", "(II)I"⟩
abbrev cX12_takes : ByteArray := prog_14_method_40_code
def yX12_takes : MethodName := ⟨RX12, "takes", "(II)I"⟩
abbrev cX12_isEmpty : ByteArray := prog_14_method_41_code
def yX12_isEmpty : MethodName := ⟨RX12, "isEmpty", "(I)Z"⟩
abbrev cX12_moves : ByteArray := prog_14_method_42_code
def yX12_moves : MethodName := ⟨RX12, "moves", "(II)I"⟩
abbrev cX12_changes : ByteArray := prog_14_method_43_code
def yX12_changes : MethodName := ⟨RX12, "changes", "(II)I"⟩
abbrev cX12_undo : ByteArray := prog_14_method_44_code
def yX12_undo : MethodName := ⟨RX12, "undo", "()I"⟩
abbrev cX12_steps : ByteArray := prog_14_method_45_code
def yX12_steps : MethodName := ⟨RX12, "steps", "(III)I"⟩
abbrev cX12_puts : ByteArray := prog_14_method_46_code
def yX12_puts : MethodName := ⟨RX12, "puts", "(I)I"⟩
abbrev cX12_fed : ByteArray := prog_14_method_47_code
def yX12_fed : MethodName := ⟨RX12, "fed", "(I)I"⟩
abbrev cX12_power : ByteArray := prog_14_method_48_code
def yX12_power : MethodName := ⟨RX12, "power", "(II)I"⟩
abbrev cX12_gcd : ByteArray := prog_14_method_49_code
def yX12_gcd : MethodName := ⟨RX12, "gcd", "(II)I"⟩
abbrev cX12_odds : ByteArray := prog_14_method_50_code
def yX12_odds : MethodName := ⟨RX12, "odds", "(III)I"⟩
abbrev cX12_sees : ByteArray := prog_14_method_51_code
def yX12_sees : MethodName := ⟨RX12, "sees", "(III)I"⟩
abbrev cX12_forget : ByteArray := prog_14_method_52_code
def yX12_forget : MethodName := ⟨RX12, "forget", "()I"⟩
abbrev cX12_whoCan : ByteArray := prog_14_method_53_code
def yX12_whoCan : MethodName := ⟨RX12, "whoCan", "()I"⟩
abbrev cX12_who : ByteArray := prog_14_method_54_code
def yX12_who : MethodName := ⟨RX12, "who", "()I"⟩
abbrev cX12_look : ByteArray := prog_14_method_55_code
def yX12_look : MethodName := ⟨RX12, "look", "(I)I"⟩
abbrev cX12_rate : ByteArray := prog_14_method_56_code
def yX12_rate : MethodName := ⟨RX12, "rate", "(II)I"⟩
abbrev cX12_keep : ByteArray := prog_14_method_57_code
def yX12_keep : MethodName := ⟨RX12, "keep", "(I)I"⟩
abbrev cX12_back : ByteArray := prog_14_method_58_code
def yX12_back : MethodName := ⟨RX12, "back", "(I)I"⟩
abbrev cX12_count : ByteArray := prog_14_method_59_code
def yX12_count : MethodName := ⟨RX12, "count", "(I)I"⟩
abbrev cX12_trace : ByteArray := prog_14_method_60_code
def yX12_trace : MethodName := ⟨RX12, "trace", "()J"⟩
def RJ6 : String := "java/lang/Integer"
def TJ6 : u_T := fun k => match k with
  | _ => ("", "", "", false)
def tyJ6 : Nat → FieldType := fun k => match k with
  | _ => .int
theorem nmJ6 : ∀ a, a < 0 → ∀ b, b < 0 → a ≠ b → (TJ6 a).2.1 ≠ (TJ6 b).2.1 := by decide +kernel
theorem tyJ6_ok : ∀ k, k < 0 → parseFieldDescriptor (TJ6 k).2.2.1 = some (tyJ6 k) := by decide +kernel
abbrev cJ6_bitCount_0f7a4 : ByteArray := prog_15_method_49_code
def yJ6_bitCount_0f7a4 : MethodName := ⟨RJ6, "bitCount", "(I)I"⟩
def RJ9 : String := "java/lang/Math"
def TJ9 : u_T := fun k => match k with
  | _ => ("", "", "", false)
def tyJ9 : Nat → FieldType := fun k => match k with
  | _ => .int
theorem nmJ9 : ∀ a, a < 0 → ∀ b, b < 0 → a ≠ b → (TJ9 a).2.1 ≠ (TJ9 b).2.1 := by decide +kernel
theorem tyJ9_ok : ∀ k, k < 0 → parseFieldDescriptor (TJ9 k).2.2.1 = some (tyJ9 k) := by decide +kernel
abbrev cJ9_floorMod_7cf53 : ByteArray := prog_16_method_50_code
def yJ9_floorMod_7cf53 : MethodName := ⟨RJ9, "floorMod", "(II)I"⟩
abbrev cJ9_max_7cf53 : ByteArray := prog_16_method_65_code
def yJ9_max_7cf53 : MethodName := ⟨RJ9, "max", "(II)I"⟩
abbrev cJ9_min_7cf53 : ByteArray := prog_16_method_69_code
def yJ9_min_7cf53 : MethodName := ⟨RJ9, "min", "(II)I"⟩
def RJ10 : String := "java/lang/System"
def TJ10 : u_T := fun k => match k with
  | _ => ("", "", "", false)
def tyJ10 : Nat → FieldType := fun k => match k with
  | _ => .int
theorem nmJ10 : ∀ a, a < 0 → ∀ b, b < 0 → a ≠ b → (TJ10 a).2.1 ≠ (TJ10 b).2.1 := by decide +kernel
theorem tyJ10_ok : ∀ k, k < 0 → parseFieldDescriptor (TJ10 k).2.2.1 = some (tyJ10 k) := by decide +kernel
def RJ7 : String := "java/util/Arrays"
def TJ7 : u_T := fun k => match k with
  | _ => ("", "", "", false)
def tyJ7 : Nat → FieldType := fun k => match k with
  | _ => .int
theorem nmJ7 : ∀ a, a < 0 → ∀ b, b < 0 → a ≠ b → (TJ7 a).2.1 ≠ (TJ7 b).2.1 := by decide +kernel
theorem tyJ7_ok : ∀ k, k < 0 → parseFieldDescriptor (TJ7 k).2.2.1 = some (tyJ7 k) := by decide +kernel
abbrev cJ7_fill_53178 : ByteArray := prog_18_method_103_code
def yJ7_fill_53178 : MethodName := ⟨RJ7, "fill", "([II)V"⟩
def RL : String := "TrayTurnsLaw"
abbrev cL_law : ByteArray := code
def yL_law : MethodName := ⟨RL, "law", "([I)Z"⟩
abbrev vwCl : List vw_C := [(RX0, TX0, 6), (RX1, TX1, 0), (RX2, TX2, 0), (RX3, TX3, 0), (RX4, TX4, 0), (RX5, TX5, 5), (RX6, TX6, 0), (RX7, TX7, 5), (RX8, TX8, 8), (RX9, TX9, 7), (RX10, TX10, 0), (RX11, TX11, 16), (RX12, TX12, 26)]
def tblG : List Cond := lw_tbl.filter goodWord
theorem tG {w : Cond} (i : Nat) (h : lw_tbl[i]? = some w) (g : goodWord w = true) : w ∈ tblG := List.mem_filter.mpr ⟨List.mem_of_getElem? h, g⟩
end
section
theorem wN_L : Cond.initialized RL ∈ tblG := tG 56 (by decide +kernel) rfl
theorem wN_X11 : Cond.initialized RX11 ∈ tblG := tG 57 (by decide +kernel) rfl
theorem wN_X9 : Cond.initialized RX9 ∈ tblG := tG 58 (by decide +kernel) rfl
theorem wN_X8 : Cond.initialized RX8 ∈ tblG := tG 59 (by decide +kernel) rfl
theorem wN_X7 : Cond.initialized RX7 ∈ tblG := tG 60 (by decide +kernel) rfl
theorem wN_X5 : Cond.initialized RX5 ∈ tblG := tG 61 (by decide +kernel) rfl
theorem wN_X0 : Cond.initialized RX0 ∈ tblG := tG 62 (by decide +kernel) rfl
theorem wN_X6 : Cond.initialized RX6 ∈ tblG := tG 63 (by decide +kernel) rfl
theorem wN_X10 : Cond.initialized RX10 ∈ tblG := tG 64 (by decide +kernel) rfl
theorem wN_X1 : Cond.initialized RX1 ∈ tblG := tG 65 (by decide +kernel) rfl
theorem wN_X2 : Cond.initialized RX2 ∈ tblG := tG 66 (by decide +kernel) rfl
theorem wN_X4 : Cond.initialized RX4 ∈ tblG := tG 67 (by decide +kernel) rfl
theorem wN_X3 : Cond.initialized RX3 ∈ tblG := tG 68 (by decide +kernel) rfl
theorem wN_X12 : Cond.initialized RX12 ∈ tblG := tG 69 (by decide +kernel) rfl
theorem wN_J9 : Cond.initialized RJ9 ∈ tblG := tG 70 (by decide +kernel) rfl
theorem wN_J10 : Cond.initialized RJ10 ∈ tblG := tG 71 (by decide +kernel) rfl
theorem wN_J7 : Cond.initialized RJ7 ∈ tblG := tG 72 (by decide +kernel) rfl
theorem wN_J6 : Cond.initialized RJ6 ∈ tblG := tG 73 (by decide +kernel) rfl
theorem wK_L_7 : Cond.classLink RL 7 RX11 ∈ tblG := tG 74 (by decide +kernel) rfl
theorem wT_X11 : Cond.instantiable RX11 16 ∈ tblG := tG 75 (by decide +kernel) rfl
theorem wM_L_9 : Cond.methodLink RL 9 yX11_init ∈ tblG := tG 76 (by decide +kernel) rfl
theorem wI_X11_init : Cond.instanceMethod yX11_init ∈ tblG := tG 77 (by decide +kernel) rfl
theorem wC_X11_init : Cond.code yX11_init cX11_init 2 none ∈ tblG := tG 78 (by decide +kernel) rfl
theorem wM_X11_1 : Cond.methodLink RX11 1 objectInit ∈ tblG := tG 79 (by decide +kernel) rfl
theorem wI_objectInit : Cond.instanceMethod objectInit ∈ tblG := tG 80 (by decide +kernel) rfl
theorem w_cd_obj : Cond.code objectInit ⟨#[0xb1]⟩ 1 none ∈ tblG := tG 81 (by decide +kernel) rfl
theorem wK_X11_7 : Cond.classLink RX11 7 RX9 ∈ tblG := tG 82 (by decide +kernel) rfl
theorem wT_X9 : Cond.instantiable RX9 7 ∈ tblG := tG 83 (by decide +kernel) rfl
theorem wI_X9_init : Cond.instanceMethod yX9_init ∈ tblG := tG 85 (by decide +kernel) rfl
theorem wC_X9_init : Cond.code yX9_init cX9_init 1 none ∈ tblG := tG 86 (by decide +kernel) rfl
theorem wM_X9_3 : Cond.methodLink RX9 3 objectInit ∈ tblG := tG 87 (by decide +kernel) rfl
theorem wK_X9_15 : Cond.classLink RX9 15 RX8 ∈ tblG := tG 88 (by decide +kernel) rfl
theorem wT_X8 : Cond.instantiable RX8 8 ∈ tblG := tG 89 (by decide +kernel) rfl
theorem wI_X8_init : Cond.instanceMethod yX8_init ∈ tblG := tG 91 (by decide +kernel) rfl
theorem wC_X8_init : Cond.code yX8_init cX8_init 1 none ∈ tblG := tG 92 (by decide +kernel) rfl
theorem wM_X8_3 : Cond.methodLink RX8 3 objectInit ∈ tblG := tG 93 (by decide +kernel) rfl
theorem wK_X8_25 : Cond.classLink RX8 25 RX7 ∈ tblG := tG 94 (by decide +kernel) rfl
theorem wT_X7 : Cond.instantiable RX7 5 ∈ tblG := tG 95 (by decide +kernel) rfl
theorem wI_X7_init : Cond.instanceMethod yX7_init ∈ tblG := tG 97 (by decide +kernel) rfl
theorem wC_X7_init : Cond.code yX7_init cX7_init 1 none ∈ tblG := tG 98 (by decide +kernel) rfl
theorem wM_X7_3 : Cond.methodLink RX7 3 objectInit ∈ tblG := tG 99 (by decide +kernel) rfl
theorem wF_X7_24 : Cond.fieldLink RX7 24 "TrayTurns$Now" "turn" "I" ∈ tblG := tG 100 (by decide +kernel) rfl
theorem wF_X8_50 : Cond.fieldLink RX8 50 "TrayTurns$Now" "turn" "I" ∈ tblG := tG 101 (by decide +kernel) rfl
theorem wF_X11_160 : Cond.fieldLink RX11 160 "TrayTurns$Now" "turn" "I" ∈ tblG := tG 102 (by decide +kernel) rfl
theorem wF_X7_9 : Cond.fieldLink RX7 9 "TrayTurns$Now" "portions" "[I" ∈ tblG := tG 103 (by decide +kernel) rfl
theorem wF_X5_32 : Cond.fieldLink RX5 32 "TrayTurns$Now" "portions" "[I" ∈ tblG := tG 104 (by decide +kernel) rfl
theorem wF_X11_151 : Cond.fieldLink RX11 151 "TrayTurns$Now" "portions" "[I" ∈ tblG := tG 105 (by decide +kernel) rfl
theorem wF_X9_100 : Cond.fieldLink RX9 100 "TrayTurns$Now" "portions" "[I" ∈ tblG := tG 106 (by decide +kernel) rfl
theorem wF_X8_75 : Cond.fieldLink RX8 75 "TrayTurns$Now" "portions" "[I" ∈ tblG := tG 107 (by decide +kernel) rfl
theorem wF_X7_15 : Cond.fieldLink RX7 15 "TrayTurns$Now" "places" "[I" ∈ tblG := tG 108 (by decide +kernel) rfl
theorem wF_X8_47 : Cond.fieldLink RX8 47 "TrayTurns$Now" "places" "[I" ∈ tblG := tG 109 (by decide +kernel) rfl
theorem wF_X11_148 : Cond.fieldLink RX11 148 "TrayTurns$Now" "places" "[I" ∈ tblG := tG 110 (by decide +kernel) rfl
theorem wF_X9_97 : Cond.fieldLink RX9 97 "TrayTurns$Now" "places" "[I" ∈ tblG := tG 111 (by decide +kernel) rfl
theorem wF_X7_18 : Cond.fieldLink RX7 18 "TrayTurns$Now" "sits" "[I" ∈ tblG := tG 112 (by decide +kernel) rfl
theorem wF_X8_57 : Cond.fieldLink RX8 57 "TrayTurns$Now" "sits" "[I" ∈ tblG := tG 113 (by decide +kernel) rfl
theorem wF_X11_126 : Cond.fieldLink RX11 126 "TrayTurns$Now" "sits" "[I" ∈ tblG := tG 114 (by decide +kernel) rfl
theorem wF_X9_78 : Cond.fieldLink RX9 78 "TrayTurns$Now" "sits" "[I" ∈ tblG := tG 115 (by decide +kernel) rfl
theorem wF_X7_21 : Cond.fieldLink RX7 21 "TrayTurns$Now" "had" "[I" ∈ tblG := tG 116 (by decide +kernel) rfl
theorem wF_X11_135 : Cond.fieldLink RX11 135 "TrayTurns$Now" "had" "[I" ∈ tblG := tG 117 (by decide +kernel) rfl
theorem wF_X8_68 : Cond.fieldLink RX8 68 "TrayTurns$Now" "had" "[I" ∈ tblG := tG 118 (by decide +kernel) rfl
theorem wArr_char : Cond.arrayClass .char ∈ tblG := tG 130 (by decide +kernel) rfl
theorem wArr_int : Cond.arrayClass .int ∈ tblG := tG 131 (by decide +kernel) rfl
theorem wF_X8_9 : Cond.fieldLink RX8 9 "TrayTurns$Party" "seats" "I" ∈ tblG := tG 132 (by decide +kernel) rfl
theorem wF_X9_69 : Cond.fieldLink RX9 69 "TrayTurns$Party" "seats" "I" ∈ tblG := tG 133 (by decide +kernel) rfl
theorem wF_X11_181 : Cond.fieldLink RX11 181 "TrayTurns$Party" "seats" "I" ∈ tblG := tG 134 (by decide +kernel) rfl
theorem wF_X5_21 : Cond.fieldLink RX5 21 "TrayTurns$Party" "guests" "I" ∈ tblG := tG 135 (by decide +kernel) rfl
theorem wF_X8_35 : Cond.fieldLink RX8 35 "TrayTurns$Party" "guests" "I" ∈ tblG := tG 136 (by decide +kernel) rfl
theorem wF_X9_50 : Cond.fieldLink RX9 50 "TrayTurns$Party" "guests" "I" ∈ tblG := tG 137 (by decide +kernel) rfl
theorem wF_X11_227 : Cond.fieldLink RX11 227 "TrayTurns$Party" "guests" "I" ∈ tblG := tG 138 (by decide +kernel) rfl
theorem wF_X5_28 : Cond.fieldLink RX5 28 "TrayTurns$Party" "dishes" "I" ∈ tblG := tG 139 (by decide +kernel) rfl
theorem wF_X8_38 : Cond.fieldLink RX8 38 "TrayTurns$Party" "dishes" "I" ∈ tblG := tG 140 (by decide +kernel) rfl
theorem wF_X9_56 : Cond.fieldLink RX9 56 "TrayTurns$Party" "dishes" "I" ∈ tblG := tG 141 (by decide +kernel) rfl
theorem wF_X11_263 : Cond.fieldLink RX11 263 "TrayTurns$Party" "dishes" "I" ∈ tblG := tG 142 (by decide +kernel) rfl
theorem wF_X8_15 : Cond.fieldLink RX8 15 "TrayTurns$Party" "arms" "[I" ∈ tblG := tG 143 (by decide +kernel) rfl
theorem wF_X11_129 : Cond.fieldLink RX11 129 "TrayTurns$Party" "arms" "[I" ∈ tblG := tG 144 (by decide +kernel) rfl
theorem wF_X9_88 : Cond.fieldLink RX9 88 "TrayTurns$Party" "arms" "[I" ∈ tblG := tG 145 (by decide +kernel) rfl
theorem wF_X8_19 : Cond.fieldLink RX8 19 "TrayTurns$Party" "likes" "[I" ∈ tblG := tG 146 (by decide +kernel) rfl
theorem wF_X11_132 : Cond.fieldLink RX11 132 "TrayTurns$Party" "likes" "[I" ∈ tblG := tG 147 (by decide +kernel) rfl
theorem wF_X9_94 : Cond.fieldLink RX9 94 "TrayTurns$Party" "likes" "[I" ∈ tblG := tG 148 (by decide +kernel) rfl
theorem wF_X8_22 : Cond.fieldLink RX8 22 "TrayTurns$Party" "tall" "[I" ∈ tblG := tG 149 (by decide +kernel) rfl
theorem wF_X11_154 : Cond.fieldLink RX11 154 "TrayTurns$Party" "tall" "[I" ∈ tblG := tG 150 (by decide +kernel) rfl
theorem wF_X9_103 : Cond.fieldLink RX9 103 "TrayTurns$Party" "tall" "[I" ∈ tblG := tG 151 (by decide +kernel) rfl
theorem wF_X8_28 : Cond.fieldLink RX8 28 "TrayTurns$Party" "start" "LTrayTurns$Now;" ∈ tblG := tG 152 (by decide +kernel) rfl
theorem wF_X11_109 : Cond.fieldLink RX11 109 "TrayTurns$Party" "start" "LTrayTurns$Now;" ∈ tblG := tG 153 (by decide +kernel) rfl
theorem wF_X9_75 : Cond.fieldLink RX9 75 "TrayTurns$Party" "start" "LTrayTurns$Now;" ∈ tblG := tG 154 (by decide +kernel) rfl
theorem wF_X8_32 : Cond.fieldLink RX8 32 "TrayTurns$Party" "furthest" "[I" ∈ tblG := tG 155 (by decide +kernel) rfl
theorem wF_X9_9 : Cond.fieldLink RX9 9 "TrayTurns$Reader" "letters" "[C" ∈ tblG := tG 173 (by decide +kernel) rfl
theorem wF_X11_97 : Cond.fieldLink RX11 97 "TrayTurns$Reader" "letters" "[C" ∈ tblG := tG 174 (by decide +kernel) rfl
theorem wF_X11_93 : Cond.fieldLink RX11 93 "TrayTurns$Reader" "length" "I" ∈ tblG := tG 175 (by decide +kernel) rfl
theorem wF_X9_106 : Cond.fieldLink RX9 106 "TrayTurns$Reader" "length" "I" ∈ tblG := tG 176 (by decide +kernel) rfl
theorem wF_X9_18 : Cond.fieldLink RX9 18 "TrayTurns$Reader" "draft" "LTrayTurns$Party;" ∈ tblG := tG 177 (by decide +kernel) rfl
theorem wF_X9_32 : Cond.fieldLink RX9 32 "TrayTurns$Reader" "sort" "I" ∈ tblG := tG 178 (by decide +kernel) rfl
theorem wF_X9_39 : Cond.fieldLink RX9 39 "TrayTurns$Reader" "start" "I" ∈ tblG := tG 179 (by decide +kernel) rfl
theorem wF_X9_25 : Cond.fieldLink RX9 25 "TrayTurns$Reader" "end" "I" ∈ tblG := tG 180 (by decide +kernel) rfl
theorem wF_X9_66 : Cond.fieldLink RX9 66 "TrayTurns$Reader" "value" "I" ∈ tblG := tG 181 (by decide +kernel) rfl
theorem wK_X11_16 : Cond.classLink RX11 16 RX5 ∈ tblG := tG 197 (by decide +kernel) rfl
theorem wT_X5 : Cond.instantiable RX5 5 ∈ tblG := tG 198 (by decide +kernel) rfl
theorem wI_X5_init : Cond.instanceMethod yX5_init ∈ tblG := tG 200 (by decide +kernel) rfl
theorem wC_X5_init : Cond.code yX5_init cX5_init 1 none ∈ tblG := tG 201 (by decide +kernel) rfl
theorem wM_X5_3 : Cond.methodLink RX5 3 objectInit ∈ tblG := tG 202 (by decide +kernel) rfl
theorem wF_X5_9 : Cond.fieldLink RX5 9 "TrayTurns$Feast" "given" "[I" ∈ tblG := tG 203 (by decide +kernel) rfl
theorem wF_X11_221 : Cond.fieldLink RX11 221 "TrayTurns$Feast" "given" "[I" ∈ tblG := tG 204 (by decide +kernel) rfl
theorem wF_X5_15 : Cond.fieldLink RX5 15 "TrayTurns$Feast" "needs" "[I" ∈ tblG := tG 205 (by decide +kernel) rfl
theorem wF_X5_18 : Cond.fieldLink RX5 18 "TrayTurns$Feast" "left" "[I" ∈ tblG := tG 206 (by decide +kernel) rfl
theorem wF_X5_27 : Cond.fieldLink RX5 27 "TrayTurns$Feast" "guests" "I" ∈ tblG := tG 207 (by decide +kernel) rfl
theorem wF_X5_31 : Cond.fieldLink RX5 31 "TrayTurns$Feast" "dishes" "I" ∈ tblG := tG 208 (by decide +kernel) rfl
theorem wK_X11_23 : Cond.classLink RX11 23 RX0 ∈ tblG := tG 220 (by decide +kernel) rfl
theorem wT_X0 : Cond.instantiable RX0 6 ∈ tblG := tG 221 (by decide +kernel) rfl
theorem wI_X0_init : Cond.instanceMethod yX0_init ∈ tblG := tG 223 (by decide +kernel) rfl
theorem wC_X0_init : Cond.code yX0_init cX0_init 1 none ∈ tblG := tG 224 (by decide +kernel) rfl
theorem wM_X0_1 : Cond.methodLink RX0 1 objectInit ∈ tblG := tG 225 (by decide +kernel) rfl
theorem wF_X4_19 : Cond.fieldLink RX4 19 "TrayTurns$Asked" "number" "I" ∈ tblG := tG 226 (by decide +kernel) rfl
theorem wF_X11_245 : Cond.fieldLink RX11 245 "TrayTurns$Asked" "number" "I" ∈ tblG := tG 227 (by decide +kernel) rfl
theorem wF_X10_19 : Cond.fieldLink RX10 19 "TrayTurns$Asked" "arm" "I" ∈ tblG := tG 228 (by decide +kernel) rfl
theorem wF_X11_248 : Cond.fieldLink RX11 248 "TrayTurns$Asked" "arm" "I" ∈ tblG := tG 229 (by decide +kernel) rfl
theorem wF_X6_13 : Cond.fieldLink RX6 13 "TrayTurns$Asked" "needs" "I" ∈ tblG := tG 230 (by decide +kernel) rfl
theorem wF_X11_251 : Cond.fieldLink RX11 251 "TrayTurns$Asked" "needs" "I" ∈ tblG := tG 231 (by decide +kernel) rfl
theorem wF_X1_19 : Cond.fieldLink RX1 19 "TrayTurns$Asked" "reaches" "I" ∈ tblG := tG 232 (by decide +kernel) rfl
theorem wF_X11_253 : Cond.fieldLink RX11 253 "TrayTurns$Asked" "reaches" "I" ∈ tblG := tG 233 (by decide +kernel) rfl
theorem wF_X3_19 : Cond.fieldLink RX3 19 "TrayTurns$Asked" "turn" "I" ∈ tblG := tG 234 (by decide +kernel) rfl
theorem wF_X11_255 : Cond.fieldLink RX11 255 "TrayTurns$Asked" "turn" "I" ∈ tblG := tG 235 (by decide +kernel) rfl
theorem wF_X6_7 : Cond.fieldLink RX6 7 "TrayTurns$Asked" "traced" "J" ∈ tblG := tG 236 (by decide +kernel) rfl
theorem wF_X1_7 : Cond.fieldLink RX1 7 "TrayTurns$Asked" "traced" "J" ∈ tblG := tG 237 (by decide +kernel) rfl
theorem wF_X2_7 : Cond.fieldLink RX2 7 "TrayTurns$Asked" "traced" "J" ∈ tblG := tG 238 (by decide +kernel) rfl
theorem wF_X10_7 : Cond.fieldLink RX10 7 "TrayTurns$Asked" "traced" "J" ∈ tblG := tG 239 (by decide +kernel) rfl
theorem wF_X3_7 : Cond.fieldLink RX3 7 "TrayTurns$Asked" "traced" "J" ∈ tblG := tG 240 (by decide +kernel) rfl
theorem wF_X4_7 : Cond.fieldLink RX4 7 "TrayTurns$Asked" "traced" "J" ∈ tblG := tG 241 (by decide +kernel) rfl
theorem wF_X11_266 : Cond.fieldLink RX11 266 "TrayTurns$Asked" "traced" "J" ∈ tblG := tG 242 (by decide +kernel) rfl
theorem wK_X11_30 : Cond.classLink RX11 30 RX6 ∈ tblG := tG 256 (by decide +kernel) rfl
theorem wK_X11_36 : Cond.classLink RX11 36 RX8 ∈ tblG := tG 258 (by decide +kernel) rfl
theorem wK_X11_43 : Cond.classLink RX11 43 RX7 ∈ tblG := tG 260 (by decide +kernel) rfl
theorem wT_X6 : Cond.instantiable RX6 0 ∈ tblG := tG 263 (by decide +kernel) rfl
theorem wI_X6_init : Cond.instanceMethod yX6_init ∈ tblG := tG 265 (by decide +kernel) rfl
theorem wC_X6_init : Cond.code yX6_init cX6_init 1 none ∈ tblG := tG 266 (by decide +kernel) rfl
theorem wM_X6_1 : Cond.methodLink RX6 1 objectInit ∈ tblG := tG 267 (by decide +kernel) rfl
theorem wArr_boolean : Cond.arrayClass .boolean ∈ tblG := tG 269 (by decide +kernel) rfl
theorem wK_X11_78 : Cond.classLink RX11 78 RX10 ∈ tblG := tG 270 (by decide +kernel) rfl
theorem wT_X10 : Cond.instantiable RX10 0 ∈ tblG := tG 271 (by decide +kernel) rfl
theorem wI_X10_init : Cond.instanceMethod yX10_init ∈ tblG := tG 273 (by decide +kernel) rfl
theorem wC_X10_init : Cond.code yX10_init cX10_init 1 none ∈ tblG := tG 274 (by decide +kernel) rfl
theorem wP_X10 : Cond.superclass RX10 RX6 ∈ tblG := tG 276 (by decide +kernel) rfl
theorem wK_X11_81 : Cond.classLink RX11 81 RX1 ∈ tblG := tG 277 (by decide +kernel) rfl
theorem wT_X1 : Cond.instantiable RX1 0 ∈ tblG := tG 278 (by decide +kernel) rfl
theorem wI_X1_init : Cond.instanceMethod yX1_init ∈ tblG := tG 280 (by decide +kernel) rfl
theorem wC_X1_init : Cond.code yX1_init cX1_init 1 none ∈ tblG := tG 281 (by decide +kernel) rfl
theorem wP_X1 : Cond.superclass RX1 RX6 ∈ tblG := tG 283 (by decide +kernel) rfl
theorem wK_X11_84 : Cond.classLink RX11 84 RX2 ∈ tblG := tG 284 (by decide +kernel) rfl
theorem wT_X2 : Cond.instantiable RX2 0 ∈ tblG := tG 285 (by decide +kernel) rfl
theorem wI_X2_init : Cond.instanceMethod yX2_init ∈ tblG := tG 287 (by decide +kernel) rfl
theorem wC_X2_init : Cond.code yX2_init cX2_init 1 none ∈ tblG := tG 288 (by decide +kernel) rfl
theorem wP_X2 : Cond.superclass RX2 RX10 ∈ tblG := tG 290 (by decide +kernel) rfl
theorem wK_X11_87 : Cond.classLink RX11 87 RX4 ∈ tblG := tG 291 (by decide +kernel) rfl
theorem wT_X4 : Cond.instantiable RX4 0 ∈ tblG := tG 292 (by decide +kernel) rfl
theorem wI_X4_init : Cond.instanceMethod yX4_init ∈ tblG := tG 294 (by decide +kernel) rfl
theorem wC_X4_init : Cond.code yX4_init cX4_init 1 none ∈ tblG := tG 295 (by decide +kernel) rfl
theorem wP_X4 : Cond.superclass RX4 RX1 ∈ tblG := tG 297 (by decide +kernel) rfl
theorem wK_X11_90 : Cond.classLink RX11 90 RX3 ∈ tblG := tG 298 (by decide +kernel) rfl
theorem wT_X3 : Cond.instantiable RX3 0 ∈ tblG := tG 299 (by decide +kernel) rfl
theorem wI_X3_init : Cond.instanceMethod yX3_init ∈ tblG := tG 301 (by decide +kernel) rfl
theorem wC_X3_init : Cond.code yX3_init cX3_init 1 none ∈ tblG := tG 302 (by decide +kernel) rfl
theorem wP_X3 : Cond.superclass RX3 RX6 ∈ tblG := tG 304 (by decide +kernel) rfl
theorem wF_X11_10 : Cond.fieldLink RX11 10 "TrayTurns" "reader" "LTrayTurns$Reader;" ∈ tblG := tG 305 (by decide +kernel) rfl
theorem wF_X11_19 : Cond.fieldLink RX11 19 "TrayTurns" "feast" "LTrayTurns$Feast;" ∈ tblG := tG 306 (by decide +kernel) rfl
theorem wF_X11_26 : Cond.fieldLink RX11 26 "TrayTurns" "asked" "LTrayTurns$Asked;" ∈ tblG := tG 307 (by decide +kernel) rfl
theorem wF_X11_32 : Cond.fieldLink RX11 32 "TrayTurns" "kinds" "[LTrayTurns$GuestKind;" ∈ tblG := tG 308 (by decide +kernel) rfl
theorem wF_X11_39 : Cond.fieldLink RX11 39 "TrayTurns" "party" "LTrayTurns$Party;" ∈ tblG := tG 309 (by decide +kernel) rfl
theorem wF_X11_46 : Cond.fieldLink RX11 46 "TrayTurns" "state" "LTrayTurns$Now;" ∈ tblG := tG 310 (by decide +kernel) rfl
theorem wF_X11_50 : Cond.fieldLink RX11 50 "TrayTurns" "trial" "LTrayTurns$Now;" ∈ tblG := tG 311 (by decide +kernel) rfl
theorem wF_X11_53 : Cond.fieldLink RX11 53 "TrayTurns" "known" "[LTrayTurns$Now;" ∈ tblG := tG 312 (by decide +kernel) rfl
theorem wF_X11_116 : Cond.fieldLink RX11 116 "TrayTurns" "knownCount" "I" ∈ tblG := tG 313 (by decide +kernel) rfl
theorem wF_X11_57 : Cond.fieldLink RX11 57 "TrayTurns" "images" "[LTrayTurns$Now;" ∈ tblG := tG 314 (by decide +kernel) rfl
theorem wF_X11_60 : Cond.fieldLink RX11 60 "TrayTurns" "kept" "[Z" ∈ tblG := tG 315 (by decide +kernel) rfl
theorem wF_X11_64 : Cond.fieldLink RX11 64 "TrayTurns" "seenDish" "[I" ∈ tblG := tG 316 (by decide +kernel) rfl
theorem wF_X11_68 : Cond.fieldLink RX11 68 "TrayTurns" "seenTurn" "[I" ∈ tblG := tG 317 (by decide +kernel) rfl
theorem wF_X11_71 : Cond.fieldLink RX11 71 "TrayTurns" "seenReached" "[Z" ∈ tblG := tG 318 (by decide +kernel) rfl
theorem wF_X11_119 : Cond.fieldLink RX11 119 "TrayTurns" "seenCount" "I" ∈ tblG := tG 319 (by decide +kernel) rfl
theorem wF_X11_74 : Cond.fieldLink RX11 74 "TrayTurns" "chances" "[I" ∈ tblG := tG 320 (by decide +kernel) rfl
theorem wM_L_13 : Cond.methodLink RL 13 yX11_type ∈ tblG := tG 354 (by decide +kernel) rfl
theorem wI_X11_type : Cond.instanceMethod yX11_type ∈ tblG := tG 355 (by decide +kernel) rfl
theorem wQ_X11_type : Cond.selects RX11 yX11_type yX11_type ∈ tblG := tG 356 (by decide +kernel) rfl
theorem wC_X11_type : Cond.code yX11_type cX11_type 2 (some .int) ∈ tblG := tG 357 (by decide +kernel) rfl
theorem wM_L_18 : Cond.methodLink RL 18 yX11_clear ∈ tblG := tG 358 (by decide +kernel) rfl
theorem wI_X11_clear : Cond.instanceMethod yX11_clear ∈ tblG := tG 359 (by decide +kernel) rfl
theorem wQ_X11_clear : Cond.selects RX11 yX11_clear yX11_clear ∈ tblG := tG 360 (by decide +kernel) rfl
theorem wC_X11_clear : Cond.code yX11_clear cX11_clear 2 (some .int) ∈ tblG := tG 361 (by decide +kernel) rfl
theorem wM_L_23 : Cond.methodLink RL 23 yX11_table ∈ tblG := tG 362 (by decide +kernel) rfl
theorem wI_X11_table : Cond.instanceMethod yX11_table ∈ tblG := tG 363 (by decide +kernel) rfl
theorem wQ_X11_table : Cond.selects RX11 yX11_table yX11_table ∈ tblG := tG 364 (by decide +kernel) rfl
theorem wC_X11_table : Cond.code yX11_table cX11_table 3 (some .int) ∈ tblG := tG 365 (by decide +kernel) rfl
theorem wM_X11_101 : Cond.methodLink RX11 101 yX9_read ∈ tblG := tG 366 (by decide +kernel) rfl
theorem wI_X9_read : Cond.instanceMethod yX9_read ∈ tblG := tG 367 (by decide +kernel) rfl
theorem wQ_X9_read : Cond.selects RX9 yX9_read yX9_read ∈ tblG := tG 368 (by decide +kernel) rfl
theorem wC_X9_read : Cond.code yX9_read cX9_read 2 (some .int) ∈ tblG := tG 369 (by decide +kernel) rfl
theorem wM_X9_22 : Cond.methodLink RX9 22 yX8_empty ∈ tblG := tG 370 (by decide +kernel) rfl
theorem wI_X8_empty : Cond.instanceMethod yX8_empty ∈ tblG := tG 371 (by decide +kernel) rfl
theorem wQ_X8_empty : Cond.selects RX8 yX8_empty yX8_empty ∈ tblG := tG 372 (by decide +kernel) rfl
theorem wC_X8_empty : Cond.code yX8_empty cX8_empty 1 none ∈ tblG := tG 373 (by decide +kernel) rfl
theorem wM_X9_29 : Cond.methodLink RX9 29 yX9_nextToken ∈ tblG := tG 374 (by decide +kernel) rfl
theorem wI_X9_nextToken : Cond.instanceMethod yX9_nextToken ∈ tblG := tG 376 (by decide +kernel) rfl
theorem wC_X9_nextToken : Cond.code yX9_nextToken cX9_nextToken 1 none ∈ tblG := tG 377 (by decide +kernel) rfl
theorem wM_X9_109 : Cond.methodLink RX9 109 yX9_isSmall ∈ tblG := tG 378 (by decide +kernel) rfl
theorem wS_X9_isSmall : Cond.static yX9_isSmall ∈ tblG := tG 379 (by decide +kernel) rfl
theorem wC_X9_isSmall : Cond.code yX9_isSmall cX9_isSmall 1 (some .boolean) ∈ tblG := tG 380 (by decide +kernel) rfl
theorem wM_X9_112 : Cond.methodLink RX9 112 yX9_nextWord ∈ tblG := tG 381 (by decide +kernel) rfl
theorem wI_X9_nextWord : Cond.instanceMethod yX9_nextWord ∈ tblG := tG 383 (by decide +kernel) rfl
theorem wC_X9_nextWord : Cond.code yX9_nextWord cX9_nextWord 1 none ∈ tblG := tG 384 (by decide +kernel) rfl
theorem wM_X9_115 : Cond.methodLink RX9 115 yX9_isDigit ∈ tblG := tG 385 (by decide +kernel) rfl
theorem wS_X9_isDigit : Cond.static yX9_isDigit ∈ tblG := tG 386 (by decide +kernel) rfl
theorem wC_X9_isDigit : Cond.code yX9_isDigit cX9_isDigit 1 (some .boolean) ∈ tblG := tG 387 (by decide +kernel) rfl
theorem wM_X9_118 : Cond.methodLink RX9 118 yX9_nextNumber ∈ tblG := tG 388 (by decide +kernel) rfl
theorem wI_X9_nextNumber : Cond.instanceMethod yX9_nextNumber ∈ tblG := tG 390 (by decide +kernel) rfl
theorem wC_X9_nextNumber : Cond.code yX9_nextNumber cX9_nextNumber 2 none ∈ tblG := tG 391 (by decide +kernel) rfl
theorem wM_X9_121 : Cond.methodLink RX9 121 yJ9_min_7cf53 ∈ tblG := tG 392 (by decide +kernel) rfl
theorem wS_J9_min_7cf53 : Cond.static yJ9_min_7cf53 ∈ tblG := tG 393 (by decide +kernel) rfl
theorem wC_J9_min_7cf53 : Cond.code yJ9_min_7cf53 cJ9_min_7cf53 2 (some .int) ∈ tblG := tG 394 (by decide +kernel) rfl
theorem wM_X9_35 : Cond.methodLink RX9 35 yX9_readItem ∈ tblG := tG 395 (by decide +kernel) rfl
theorem wI_X9_readItem : Cond.instanceMethod yX9_readItem ∈ tblG := tG 397 (by decide +kernel) rfl
theorem wC_X9_readItem : Cond.code yX9_readItem cX9_readItem 2 (some .boolean) ∈ tblG := tG 398 (by decide +kernel) rfl
theorem wM_X9_42 : Cond.methodLink RX9 42 yX9_isWord ∈ tblG := tG 399 (by decide +kernel) rfl
theorem wI_X9_isWord : Cond.instanceMethod yX9_isWord ∈ tblG := tG 401 (by decide +kernel) rfl
theorem wC_X9_isWord : Cond.code yX9_isWord cX9_isWord 2 (some .boolean) ∈ tblG := tG 402 (by decide +kernel) rfl
theorem wM_X9_46 : Cond.methodLink RX9 46 yX9_readSeats ∈ tblG := tG 403 (by decide +kernel) rfl
theorem wI_X9_readSeats : Cond.instanceMethod yX9_readSeats ∈ tblG := tG 405 (by decide +kernel) rfl
theorem wC_X9_readSeats : Cond.code yX9_readSeats cX9_readSeats 1 (some .boolean) ∈ tblG := tG 406 (by decide +kernel) rfl
theorem wM_X9_62 : Cond.methodLink RX9 62 yX9_readNumber ∈ tblG := tG 407 (by decide +kernel) rfl
theorem wI_X9_readNumber : Cond.instanceMethod yX9_readNumber ∈ tblG := tG 409 (by decide +kernel) rfl
theorem wC_X9_readNumber : Cond.code yX9_readNumber cX9_readNumber 3 (some .boolean) ∈ tblG := tG 410 (by decide +kernel) rfl
theorem wM_X9_72 : Cond.methodLink RX9 72 yX9_readClose ∈ tblG := tG 411 (by decide +kernel) rfl
theorem wI_X9_readClose : Cond.instanceMethod yX9_readClose ∈ tblG := tG 413 (by decide +kernel) rfl
theorem wC_X9_readClose : Cond.code yX9_readClose cX9_readClose 1 (some .boolean) ∈ tblG := tG 414 (by decide +kernel) rfl
theorem wM_X9_53 : Cond.methodLink RX9 53 yX9_readGuest ∈ tblG := tG 415 (by decide +kernel) rfl
theorem wI_X9_readGuest : Cond.instanceMethod yX9_readGuest ∈ tblG := tG 417 (by decide +kernel) rfl
theorem wC_X9_readGuest : Cond.code yX9_readGuest cX9_readGuest 2 (some .boolean) ∈ tblG := tG 418 (by decide +kernel) rfl
theorem wM_X9_84 : Cond.methodLink RX9 84 yX9_isAmong ∈ tblG := tG 419 (by decide +kernel) rfl
theorem wI_X9_isAmong : Cond.instanceMethod yX9_isAmong ∈ tblG := tG 421 (by decide +kernel) rfl
theorem wC_X9_isAmong : Cond.code yX9_isAmong cX9_isAmong 4 (some .boolean) ∈ tblG := tG 422 (by decide +kernel) rfl
theorem wM_X9_91 : Cond.methodLink RX9 91 yX9_readRow ∈ tblG := tG 423 (by decide +kernel) rfl
theorem wI_X9_readRow : Cond.instanceMethod yX9_readRow ∈ tblG := tG 425 (by decide +kernel) rfl
theorem wC_X9_readRow : Cond.code yX9_readRow cX9_readRow 2 (some .boolean) ∈ tblG := tG 426 (by decide +kernel) rfl
theorem wM_X9_59 : Cond.methodLink RX9 59 yX9_readDish ∈ tblG := tG 427 (by decide +kernel) rfl
theorem wI_X9_readDish : Cond.instanceMethod yX9_readDish ∈ tblG := tG 429 (by decide +kernel) rfl
theorem wC_X9_readDish : Cond.code yX9_readDish cX9_readDish 2 (some .boolean) ∈ tblG := tG 430 (by decide +kernel) rfl
theorem wM_X11_105 : Cond.methodLink RX11 105 yX9_handOver ∈ tblG := tG 431 (by decide +kernel) rfl
theorem wI_X9_handOver : Cond.instanceMethod yX9_handOver ∈ tblG := tG 432 (by decide +kernel) rfl
theorem wQ_X9_handOver : Cond.selects RX9 yX9_handOver yX9_handOver ∈ tblG := tG 433 (by decide +kernel) rfl
theorem wC_X9_handOver : Cond.code yX9_handOver cX9_handOver 3 (some (.object "TrayTurns$Party")) ∈ tblG := tG 434 (by decide +kernel) rfl
theorem wM_X11_112 : Cond.methodLink RX11 112 yX7_become ∈ tblG := tG 435 (by decide +kernel) rfl
theorem wI_X7_become : Cond.instanceMethod yX7_become ∈ tblG := tG 436 (by decide +kernel) rfl
theorem wQ_X7_become : Cond.selects RX7 yX7_become yX7_become ∈ tblG := tG 437 (by decide +kernel) rfl
theorem wC_X7_become : Cond.code yX7_become cX7_become 2 none ∈ tblG := tG 438 (by decide +kernel) rfl
theorem wM_X7_28 : Cond.methodLink RX7 28 arraycopyName ∈ tblG := tG 439 (by decide +kernel) rfl
theorem wS_arraycopyName : Cond.static arraycopyName ∈ tblG := tG 440 (by decide +kernel) rfl
theorem wNat_arraycopyName : Cond.native arraycopyName ∈ tblG := tG 441 (by decide +kernel) rfl
theorem wM_L_27 : Cond.methodLink RL 27 yX11_guest ∈ tblG := tG 442 (by decide +kernel) rfl
theorem wI_X11_guest : Cond.instanceMethod yX11_guest ∈ tblG := tG 443 (by decide +kernel) rfl
theorem wQ_X11_guest : Cond.selects RX11 yX11_guest yX11_guest ∈ tblG := tG 444 (by decide +kernel) rfl
theorem wC_X11_guest : Cond.code yX11_guest cX11_guest 3 (some .int) ∈ tblG := tG 445 (by decide +kernel) rfl
theorem wM_X11_122 : Cond.methodLink RX11 122 yX11_isGuest ∈ tblG := tG 446 (by decide +kernel) rfl
theorem wI_X11_isGuest : Cond.instanceMethod yX11_isGuest ∈ tblG := tG 448 (by decide +kernel) rfl
theorem wC_X11_isGuest : Cond.code yX11_isGuest cX11_isGuest 2 (some .boolean) ∈ tblG := tG 449 (by decide +kernel) rfl
theorem wM_X11_138 : Cond.methodLink RX11 138 yX8_needs ∈ tblG := tG 450 (by decide +kernel) rfl
theorem wI_X8_needs : Cond.instanceMethod yX8_needs ∈ tblG := tG 451 (by decide +kernel) rfl
theorem wQ_X8_needs : Cond.selects RX8 yX8_needs yX8_needs ∈ tblG := tG 452 (by decide +kernel) rfl
theorem wC_X8_needs : Cond.code yX8_needs cX8_needs 4 (some .int) ∈ tblG := tG 453 (by decide +kernel) rfl
theorem wM_X11_142 : Cond.methodLink RX11 142 yX8_reachedBy ∈ tblG := tG 454 (by decide +kernel) rfl
theorem wI_X8_reachedBy : Cond.instanceMethod yX8_reachedBy ∈ tblG := tG 455 (by decide +kernel) rfl
theorem wQ_X8_reachedBy : Cond.selects RX8 yX8_reachedBy yX8_reachedBy ∈ tblG := tG 456 (by decide +kernel) rfl
theorem wC_X8_reachedBy : Cond.code yX8_reachedBy cX8_reachedBy 5 (some .int) ∈ tblG := tG 457 (by decide +kernel) rfl
theorem wM_X8_64 : Cond.methodLink RX8 64 yX8_reaches ∈ tblG := tG 458 (by decide +kernel) rfl
theorem wI_X8_reaches : Cond.instanceMethod yX8_reaches ∈ tblG := tG 459 (by decide +kernel) rfl
theorem wQ_X8_reaches : Cond.selects RX8 yX8_reaches yX8_reaches ∈ tblG := tG 460 (by decide +kernel) rfl
theorem wC_X8_reaches : Cond.code yX8_reaches cX8_reaches 6 (some .boolean) ∈ tblG := tG 461 (by decide +kernel) rfl
theorem wM_X8_60 : Cond.methodLink RX8 60 yX8_gap ∈ tblG := tG 462 (by decide +kernel) rfl
theorem wI_X8_gap : Cond.instanceMethod yX8_gap ∈ tblG := tG 464 (by decide +kernel) rfl
theorem wC_X8_gap : Cond.code yX8_gap cX8_gap 5 (some .int) ∈ tblG := tG 465 (by decide +kernel) rfl
theorem wM_X8_53 : Cond.methodLink RX8 53 yX8_around ∈ tblG := tG 466 (by decide +kernel) rfl
theorem wI_X8_around : Cond.instanceMethod yX8_around ∈ tblG := tG 467 (by decide +kernel) rfl
theorem wQ_X8_around : Cond.selects RX8 yX8_around yX8_around ∈ tblG := tG 468 (by decide +kernel) rfl
theorem wC_X8_around : Cond.code yX8_around cX8_around 2 (some .int) ∈ tblG := tG 469 (by decide +kernel) rfl
theorem wM_X8_41 : Cond.methodLink RX8 41 yJ9_floorMod_7cf53 ∈ tblG := tG 470 (by decide +kernel) rfl
theorem wS_J9_floorMod_7cf53 : Cond.static yJ9_floorMod_7cf53 ∈ tblG := tG 471 (by decide +kernel) rfl
theorem wC_J9_floorMod_7cf53 : Cond.code yJ9_floorMod_7cf53 cJ9_floorMod_7cf53 3 (some .int) ∈ tblG := tG 472 (by decide +kernel) rfl
theorem wM_L_32 : Cond.methodLink RL 32 yX11_dish ∈ tblG := tG 473 (by decide +kernel) rfl
theorem wI_X11_dish : Cond.instanceMethod yX11_dish ∈ tblG := tG 474 (by decide +kernel) rfl
theorem wQ_X11_dish : Cond.selects RX11 yX11_dish yX11_dish ∈ tblG := tG 475 (by decide +kernel) rfl
theorem wC_X11_dish : Cond.code yX11_dish cX11_dish 3 (some .int) ∈ tblG := tG 476 (by decide +kernel) rfl
theorem wM_X11_145 : Cond.methodLink RX11 145 yX11_isDish ∈ tblG := tG 477 (by decide +kernel) rfl
theorem wI_X11_isDish : Cond.instanceMethod yX11_isDish ∈ tblG := tG 479 (by decide +kernel) rfl
theorem wC_X11_isDish : Cond.code yX11_isDish cX11_isDish 2 (some .boolean) ∈ tblG := tG 480 (by decide +kernel) rfl
theorem wM_X11_157 : Cond.methodLink RX11 157 yX8_seatBefore ∈ tblG := tG 481 (by decide +kernel) rfl
theorem wI_X8_seatBefore : Cond.instanceMethod yX8_seatBefore ∈ tblG := tG 482 (by decide +kernel) rfl
theorem wQ_X8_seatBefore : Cond.selects RX8 yX8_seatBefore yX8_seatBefore ∈ tblG := tG 483 (by decide +kernel) rfl
theorem wC_X8_seatBefore : Cond.code yX8_seatBefore cX8_seatBefore 3 (some .int) ∈ tblG := tG 484 (by decide +kernel) rfl
theorem wM_X11_163 : Cond.methodLink RX11 163 yX8_whoReach ∈ tblG := tG 485 (by decide +kernel) rfl
theorem wI_X8_whoReach : Cond.instanceMethod yX8_whoReach ∈ tblG := tG 486 (by decide +kernel) rfl
theorem wQ_X8_whoReach : Cond.selects RX8 yX8_whoReach yX8_whoReach ∈ tblG := tG 487 (by decide +kernel) rfl
theorem wC_X8_whoReach : Cond.code yX8_whoReach cX8_whoReach 6 (some .int) ∈ tblG := tG 488 (by decide +kernel) rfl
theorem wM_L_36 : Cond.methodLink RL 36 yX11_now ∈ tblG := tG 489 (by decide +kernel) rfl
theorem wI_X11_now : Cond.instanceMethod yX11_now ∈ tblG := tG 490 (by decide +kernel) rfl
theorem wQ_X11_now : Cond.selects RX11 yX11_now yX11_now ∈ tblG := tG 491 (by decide +kernel) rfl
theorem wC_X11_now : Cond.code yX11_now cX11_now 2 (some .int) ∈ tblG := tG 492 (by decide +kernel) rfl
theorem wM_X11_167 : Cond.methodLink RX11 167 yX11_allPortions ∈ tblG := tG 493 (by decide +kernel) rfl
theorem wI_X11_allPortions : Cond.instanceMethod yX11_allPortions ∈ tblG := tG 495 (by decide +kernel) rfl
theorem wC_X11_allPortions : Cond.code yX11_allPortions cX11_allPortions 3 (some .int) ∈ tblG := tG 496 (by decide +kernel) rfl
theorem wM_X11_170 : Cond.methodLink RX11 170 yX8_tour ∈ tblG := tG 497 (by decide +kernel) rfl
theorem wI_X8_tour : Cond.instanceMethod yX8_tour ∈ tblG := tG 498 (by decide +kernel) rfl
theorem wQ_X8_tour : Cond.selects RX8 yX8_tour yX8_tour ∈ tblG := tG 499 (by decide +kernel) rfl
theorem wC_X8_tour : Cond.code yX8_tour cX8_tour 5 (some .int) ∈ tblG := tG 500 (by decide +kernel) rfl
theorem wM_X8_78 : Cond.methodLink RX8 78 yX8_hasEnough ∈ tblG := tG 501 (by decide +kernel) rfl
theorem wI_X8_hasEnough : Cond.instanceMethod yX8_hasEnough ∈ tblG := tG 503 (by decide +kernel) rfl
theorem wC_X8_hasEnough : Cond.code yX8_hasEnough cX8_hasEnough 5 (some .boolean) ∈ tblG := tG 504 (by decide +kernel) rfl
theorem wM_X8_71 : Cond.methodLink RX8 71 yX8_needs ∈ tblG := tG 505 (by decide +kernel) rfl
theorem wM_X8_82 : Cond.methodLink RX8 82 yX8_fillFurthest ∈ tblG := tG 506 (by decide +kernel) rfl
theorem wI_X8_fillFurthest : Cond.instanceMethod yX8_fillFurthest ∈ tblG := tG 508 (by decide +kernel) rfl
theorem wC_X8_fillFurthest : Cond.code yX8_fillFurthest cX8_fillFurthest 6 none ∈ tblG := tG 509 (by decide +kernel) rfl
theorem wM_X8_92 : Cond.methodLink RX8 92 yJ7_fill_53178 ∈ tblG := tG 510 (by decide +kernel) rfl
theorem wS_J7_fill_53178 : Cond.static yJ7_fill_53178 ∈ tblG := tG 511 (by decide +kernel) rfl
theorem wC_J7_fill_53178 : Cond.code yJ7_fill_53178 cJ7_fill_53178 4 none ∈ tblG := tG 512 (by decide +kernel) rfl
theorem wM_X8_98 : Cond.methodLink RX8 98 yX8_stepsBy ∈ tblG := tG 513 (by decide +kernel) rfl
theorem wI_X8_stepsBy : Cond.instanceMethod yX8_stepsBy ∈ tblG := tG 514 (by decide +kernel) rfl
theorem wQ_X8_stepsBy : Cond.selects RX8 yX8_stepsBy yX8_stepsBy ∈ tblG := tG 515 (by decide +kernel) rfl
theorem wC_X8_stepsBy : Cond.code yX8_stepsBy cX8_stepsBy 6 (some .int) ∈ tblG := tG 516 (by decide +kernel) rfl
theorem wM_X8_89 : Cond.methodLink RX8 89 yJ9_max_7cf53 ∈ tblG := tG 517 (by decide +kernel) rfl
theorem wS_J9_max_7cf53 : Cond.static yJ9_max_7cf53 ∈ tblG := tG 518 (by decide +kernel) rfl
theorem wC_J9_max_7cf53 : Cond.code yJ9_max_7cf53 cJ9_max_7cf53 2 (some .int) ∈ tblG := tG 519 (by decide +kernel) rfl
theorem wM_X8_86 : Cond.methodLink RX8 86 yJ9_min_7cf53 ∈ tblG := tG 520 (by decide +kernel) rfl
theorem wM_X11_174 : Cond.methodLink RX11 174 yX11_swap ∈ tblG := tG 521 (by decide +kernel) rfl
theorem wI_X11_swap : Cond.instanceMethod yX11_swap ∈ tblG := tG 523 (by decide +kernel) rfl
theorem wC_X11_swap : Cond.code yX11_swap cX11_swap 6 (some .int) ∈ tblG := tG 524 (by decide +kernel) rfl
theorem wM_X11_207 : Cond.methodLink RX11 207 yX7_changeSeats ∈ tblG := tG 525 (by decide +kernel) rfl
theorem wI_X7_changeSeats : Cond.instanceMethod yX7_changeSeats ∈ tblG := tG 526 (by decide +kernel) rfl
theorem wQ_X7_changeSeats : Cond.selects RX7 yX7_changeSeats yX7_changeSeats ∈ tblG := tG 527 (by decide +kernel) rfl
theorem wC_X7_changeSeats : Cond.code yX7_changeSeats cX7_changeSeats 4 none ∈ tblG := tG 528 (by decide +kernel) rfl
theorem wM_X11_177 : Cond.methodLink RX11 177 yX5_share ∈ tblG := tG 529 (by decide +kernel) rfl
theorem wI_X5_share : Cond.instanceMethod yX5_share ∈ tblG := tG 530 (by decide +kernel) rfl
theorem wQ_X5_share : Cond.selects RX5 yX5_share yX5_share ∈ tblG := tG 531 (by decide +kernel) rfl
theorem wC_X5_share : Cond.code yX5_share cX5_share 6 (some .int) ∈ tblG := tG 532 (by decide +kernel) rfl
theorem wM_X5_37 : Cond.methodLink RX5 37 arraycopyName ∈ tblG := tG 533 (by decide +kernel) rfl
theorem wM_X5_43 : Cond.methodLink RX5 43 yX8_needs ∈ tblG := tG 534 (by decide +kernel) rfl
theorem wM_X5_46 : Cond.methodLink RX5 46 yX5_most ∈ tblG := tG 535 (by decide +kernel) rfl
theorem wI_X5_most : Cond.instanceMethod yX5_most ∈ tblG := tG 537 (by decide +kernel) rfl
theorem wC_X5_most : Cond.code yX5_most cX5_most 6 (some .int) ∈ tblG := tG 538 (by decide +kernel) rfl
theorem wM_X5_54 : Cond.methodLink RX5 54 yJ9_min_7cf53 ∈ tblG := tG 539 (by decide +kernel) rfl
theorem wM_X5_50 : Cond.methodLink RX5 50 yX5_firstFor ∈ tblG := tG 540 (by decide +kernel) rfl
theorem wI_X5_firstFor : Cond.instanceMethod yX5_firstFor ∈ tblG := tG 542 (by decide +kernel) rfl
theorem wC_X5_firstFor : Cond.code yX5_firstFor cX5_firstFor 4 (some .int) ∈ tblG := tG 543 (by decide +kernel) rfl
theorem wM_L_40 : Cond.methodLink RL 40 yX11_spins ∈ tblG := tG 544 (by decide +kernel) rfl
theorem wI_X11_spins : Cond.instanceMethod yX11_spins ∈ tblG := tG 545 (by decide +kernel) rfl
theorem wQ_X11_spins : Cond.selects RX11 yX11_spins yX11_spins ∈ tblG := tG 546 (by decide +kernel) rfl
theorem wC_X11_spins : Cond.code yX11_spins cX11_spins 3 (some .int) ∈ tblG := tG 547 (by decide +kernel) rfl
theorem wM_X11_184 : Cond.methodLink RX11 184 yX11_isBit ∈ tblG := tG 548 (by decide +kernel) rfl
theorem wS_X11_isBit : Cond.static yX11_isBit ∈ tblG := tG 549 (by decide +kernel) rfl
theorem wC_X11_isBit : Cond.code yX11_isBit cX11_isBit 1 (some .boolean) ∈ tblG := tG 550 (by decide +kernel) rfl
theorem wM_X11_187 : Cond.methodLink RX11 187 yX11_remember ∈ tblG := tG 551 (by decide +kernel) rfl
theorem wI_X11_remember : Cond.instanceMethod yX11_remember ∈ tblG := tG 553 (by decide +kernel) rfl
theorem wC_X11_remember : Cond.code yX11_remember cX11_remember 3 none ∈ tblG := tG 554 (by decide +kernel) rfl
theorem wM_X11_190 : Cond.methodLink RX11 190 yX8_around ∈ tblG := tG 555 (by decide +kernel) rfl
theorem wM_X11_194 : Cond.methodLink RX11 194 yX11_spill ∈ tblG := tG 556 (by decide +kernel) rfl
theorem wI_X11_spill : Cond.instanceMethod yX11_spill ∈ tblG := tG 558 (by decide +kernel) rfl
theorem wC_X11_spill : Cond.code yX11_spill cX11_spill 3 (some .int) ∈ tblG := tG 559 (by decide +kernel) rfl
theorem wM_L_44 : Cond.methodLink RL 44 yX11_takes ∈ tblG := tG 560 (by decide +kernel) rfl
theorem wI_X11_takes : Cond.instanceMethod yX11_takes ∈ tblG := tG 561 (by decide +kernel) rfl
theorem wQ_X11_takes : Cond.selects RX11 yX11_takes yX11_takes ∈ tblG := tG 562 (by decide +kernel) rfl
theorem wC_X11_takes : Cond.code yX11_takes cX11_takes 3 (some .int) ∈ tblG := tG 563 (by decide +kernel) rfl
theorem wM_X11_197 : Cond.methodLink RX11 197 yX8_reaches ∈ tblG := tG 564 (by decide +kernel) rfl
theorem wM_L_48 : Cond.methodLink RL 48 yX11_moves ∈ tblG := tG 565 (by decide +kernel) rfl
theorem wI_X11_moves : Cond.instanceMethod yX11_moves ∈ tblG := tG 566 (by decide +kernel) rfl
theorem wQ_X11_moves : Cond.selects RX11 yX11_moves yX11_moves ∈ tblG := tG 567 (by decide +kernel) rfl
theorem wC_X11_moves : Cond.code yX11_moves cX11_moves 4 (some .int) ∈ tblG := tG 568 (by decide +kernel) rfl
theorem wM_X11_201 : Cond.methodLink RX11 201 yX11_isTurn ∈ tblG := tG 569 (by decide +kernel) rfl
theorem wI_X11_isTurn : Cond.instanceMethod yX11_isTurn ∈ tblG := tG 571 (by decide +kernel) rfl
theorem wC_X11_isTurn : Cond.code yX11_isTurn cX11_isTurn 2 (some .boolean) ∈ tblG := tG 572 (by decide +kernel) rfl
theorem wM_X11_204 : Cond.methodLink RX11 204 yX11_isEmpty ∈ tblG := tG 573 (by decide +kernel) rfl
theorem wI_X11_isEmpty : Cond.instanceMethod yX11_isEmpty ∈ tblG := tG 575 (by decide +kernel) rfl
theorem wC_X11_isEmpty : Cond.code yX11_isEmpty cX11_isEmpty 3 (some .boolean) ∈ tblG := tG 576 (by decide +kernel) rfl
theorem wM_L_52 : Cond.methodLink RL 52 yX11_changes ∈ tblG := tG 577 (by decide +kernel) rfl
theorem wI_X11_changes : Cond.instanceMethod yX11_changes ∈ tblG := tG 578 (by decide +kernel) rfl
theorem wQ_X11_changes : Cond.selects RX11 yX11_changes yX11_changes ∈ tblG := tG 579 (by decide +kernel) rfl
theorem wC_X11_changes : Cond.code yX11_changes cX11_changes 3 (some .int) ∈ tblG := tG 580 (by decide +kernel) rfl
theorem wM_L_56 : Cond.methodLink RL 56 yX11_undo ∈ tblG := tG 581 (by decide +kernel) rfl
theorem wI_X11_undo : Cond.instanceMethod yX11_undo ∈ tblG := tG 582 (by decide +kernel) rfl
theorem wQ_X11_undo : Cond.selects RX11 yX11_undo yX11_undo ∈ tblG := tG 583 (by decide +kernel) rfl
theorem wC_X11_undo : Cond.code yX11_undo cX11_undo 1 (some .int) ∈ tblG := tG 584 (by decide +kernel) rfl
theorem wM_L_60 : Cond.methodLink RL 60 yX11_steps ∈ tblG := tG 585 (by decide +kernel) rfl
theorem wI_X11_steps : Cond.instanceMethod yX11_steps ∈ tblG := tG 586 (by decide +kernel) rfl
theorem wQ_X11_steps : Cond.selects RX11 yX11_steps yX11_steps ∈ tblG := tG 587 (by decide +kernel) rfl
theorem wC_X11_steps : Cond.code yX11_steps cX11_steps 7 (some .int) ∈ tblG := tG 588 (by decide +kernel) rfl
theorem wM_X11_211 : Cond.methodLink RX11 211 yX8_stepsBy ∈ tblG := tG 589 (by decide +kernel) rfl
theorem wM_X11_215 : Cond.methodLink RX11 215 yJ9_min_7cf53 ∈ tblG := tG 590 (by decide +kernel) rfl
theorem wM_L_65 : Cond.methodLink RL 65 yX11_puts ∈ tblG := tG 591 (by decide +kernel) rfl
theorem wI_X11_puts : Cond.instanceMethod yX11_puts ∈ tblG := tG 592 (by decide +kernel) rfl
theorem wQ_X11_puts : Cond.selects RX11 yX11_puts yX11_puts ∈ tblG := tG 593 (by decide +kernel) rfl
theorem wC_X11_puts : Cond.code yX11_puts cX11_puts 6 (some .int) ∈ tblG := tG 594 (by decide +kernel) rfl
theorem wM_L_69 : Cond.methodLink RL 69 yX11_fed ∈ tblG := tG 595 (by decide +kernel) rfl
theorem wI_X11_fed : Cond.instanceMethod yX11_fed ∈ tblG := tG 596 (by decide +kernel) rfl
theorem wQ_X11_fed : Cond.selects RX11 yX11_fed yX11_fed ∈ tblG := tG 597 (by decide +kernel) rfl
theorem wC_X11_fed : Cond.code yX11_fed cX11_fed 2 (some .int) ∈ tblG := tG 598 (by decide +kernel) rfl
theorem wM_L_73 : Cond.methodLink RL 73 yX11_odds ∈ tblG := tG 599 (by decide +kernel) rfl
theorem wI_X11_odds : Cond.instanceMethod yX11_odds ∈ tblG := tG 600 (by decide +kernel) rfl
theorem wQ_X11_odds : Cond.selects RX11 yX11_odds yX11_odds ∈ tblG := tG 601 (by decide +kernel) rfl
theorem wC_X11_odds : Cond.code yX11_odds cX11_odds 7 (some .int) ∈ tblG := tG 602 (by decide +kernel) rfl
theorem wM_X11_224 : Cond.methodLink RX11 224 yX11_spreadChances ∈ tblG := tG 603 (by decide +kernel) rfl
theorem wI_X11_spreadChances : Cond.instanceMethod yX11_spreadChances ∈ tblG := tG 605 (by decide +kernel) rfl
theorem wC_X11_spreadChances : Cond.code yX11_spreadChances cX11_spreadChances 7 (some .int) ∈ tblG := tG 606 (by decide +kernel) rfl
theorem wM_X11_270 : Cond.methodLink RX11 270 yJ7_fill_53178 ∈ tblG := tG 607 (by decide +kernel) rfl
theorem wM_L_77 : Cond.methodLink RL 77 yX11_sees ∈ tblG := tG 608 (by decide +kernel) rfl
theorem wI_X11_sees : Cond.instanceMethod yX11_sees ∈ tblG := tG 609 (by decide +kernel) rfl
theorem wQ_X11_sees : Cond.selects RX11 yX11_sees yX11_sees ∈ tblG := tG 610 (by decide +kernel) rfl
theorem wC_X11_sees : Cond.code yX11_sees cX11_sees 4 (some .int) ∈ tblG := tG 611 (by decide +kernel) rfl
theorem wM_L_81 : Cond.methodLink RL 81 yX11_forget ∈ tblG := tG 612 (by decide +kernel) rfl
theorem wI_X11_forget : Cond.instanceMethod yX11_forget ∈ tblG := tG 613 (by decide +kernel) rfl
theorem wQ_X11_forget : Cond.selects RX11 yX11_forget yX11_forget ∈ tblG := tG 614 (by decide +kernel) rfl
theorem wC_X11_forget : Cond.code yX11_forget cX11_forget 2 (some .int) ∈ tblG := tG 615 (by decide +kernel) rfl
theorem wM_L_85 : Cond.methodLink RL 85 yX11_who ∈ tblG := tG 616 (by decide +kernel) rfl
theorem wI_X11_who : Cond.instanceMethod yX11_who ∈ tblG := tG 617 (by decide +kernel) rfl
theorem wQ_X11_who : Cond.selects RX11 yX11_who yX11_who ∈ tblG := tG 618 (by decide +kernel) rfl
theorem wC_X11_who : Cond.code yX11_who cX11_who 3 (some .int) ∈ tblG := tG 619 (by decide +kernel) rfl
theorem wM_X11_230 : Cond.methodLink RX11 230 yX11_fitsAllSeen ∈ tblG := tG 620 (by decide +kernel) rfl
theorem wI_X11_fitsAllSeen : Cond.instanceMethod yX11_fitsAllSeen ∈ tblG := tG 622 (by decide +kernel) rfl
theorem wC_X11_fitsAllSeen : Cond.code yX11_fitsAllSeen cX11_fitsAllSeen 3 (some .boolean) ∈ tblG := tG 623 (by decide +kernel) rfl
theorem wM_L_89 : Cond.methodLink RL 89 yX11_look ∈ tblG := tG 624 (by decide +kernel) rfl
theorem wI_X11_look : Cond.instanceMethod yX11_look ∈ tblG := tG 625 (by decide +kernel) rfl
theorem wQ_X11_look : Cond.selects RX11 yX11_look yX11_look ∈ tblG := tG 626 (by decide +kernel) rfl
theorem wC_X11_look : Cond.code yX11_look cX11_look 9 (some .int) ∈ tblG := tG 627 (by decide +kernel) rfl
theorem wM_X11_233 : Cond.methodLink RX11 233 yX11_who ∈ tblG := tG 628 (by decide +kernel) rfl
theorem wM_X11_236 : Cond.methodLink RX11 236 yJ6_bitCount_0f7a4 ∈ tblG := tG 629 (by decide +kernel) rfl
theorem wS_J6_bitCount_0f7a4 : Cond.static yJ6_bitCount_0f7a4 ∈ tblG := tG 630 (by decide +kernel) rfl
theorem wC_J6_bitCount_0f7a4 : Cond.code yJ6_bitCount_0f7a4 cJ6_bitCount_0f7a4 1 (some .int) ∈ tblG := tG 631 (by decide +kernel) rfl
theorem wA_J6_265 : Cond.constant RJ6 265 (1431655765) ∈ tblG := tG 632 (by decide +kernel) rfl
theorem wA_J6_266 : Cond.constant RJ6 266 (858993459) ∈ tblG := tG 633 (by decide +kernel) rfl
theorem wA_J6_267 : Cond.constant RJ6 267 (252645135) ∈ tblG := tG 634 (by decide +kernel) rfl
theorem wM_X11_241 : Cond.methodLink RX11 241 yJ9_max_7cf53 ∈ tblG := tG 635 (by decide +kernel) rfl
theorem wM_L_93 : Cond.methodLink RL 93 yX11_rate ∈ tblG := tG 636 (by decide +kernel) rfl
theorem wI_X11_rate : Cond.instanceMethod yX11_rate ∈ tblG := tG 637 (by decide +kernel) rfl
theorem wQ_X11_rate : Cond.selects RX11 yX11_rate yX11_rate ∈ tblG := tG 638 (by decide +kernel) rfl
theorem wC_X11_rate : Cond.code yX11_rate cX11_rate 3 (some .int) ∈ tblG := tG 639 (by decide +kernel) rfl
theorem wA_X11_244 : Cond.constant RX11 244 (-1000000) ∈ tblG := tG 640 (by decide +kernel) rfl
theorem wM_X11_256 : Cond.methodLink RX11 256 yX6_worth ∈ tblG := tG 641 (by decide +kernel) rfl
theorem wI_X6_worth : Cond.instanceMethod yX6_worth ∈ tblG := tG 642 (by decide +kernel) rfl
theorem wQ_X6_worth : Cond.selects RX6 yX6_worth yX6_worth ∈ tblG := tG 643 (by decide +kernel) rfl
theorem wE_X6 : Cond.sameMethod RX6 RX6 "worth" "(LTrayTurns$Asked;)I" ∈ tblG := tG 644 (by decide +kernel) rfl
theorem wQ_X1_X6_worth : Cond.selects RX1 yX6_worth yX1_worth ∈ tblG := tG 645 (by decide +kernel) rfl
theorem wI_X1_worth : Cond.instanceMethod yX1_worth ∈ tblG := tG 646 (by decide +kernel) rfl
theorem wC_X1_worth : Cond.code yX1_worth cX1_worth 2 (some .int) ∈ tblG := tG 647 (by decide +kernel) rfl
theorem wL_X1_13 : Cond.constantLong RX1 13 (100) ∈ tblG := tG 648 (by decide +kernel) rfl
theorem wM_X1_15 : Cond.methodLink RX1 15 yX6_worth ∈ tblG := tG 649 (by decide +kernel) rfl
theorem wQ_X2_X6_worth : Cond.selects RX2 yX6_worth yX2_worth ∈ tblG := tG 650 (by decide +kernel) rfl
theorem wI_X2_worth : Cond.instanceMethod yX2_worth ∈ tblG := tG 651 (by decide +kernel) rfl
theorem wC_X2_worth : Cond.code yX2_worth cX2_worth 2 (some .int) ∈ tblG := tG 652 (by decide +kernel) rfl
theorem wL_X2_13 : Cond.constantLong RX2 13 (1000) ∈ tblG := tG 653 (by decide +kernel) rfl
theorem wM_X2_15 : Cond.methodLink RX2 15 yX10_worth ∈ tblG := tG 654 (by decide +kernel) rfl
theorem wI_X10_worth : Cond.instanceMethod yX10_worth ∈ tblG := tG 655 (by decide +kernel) rfl
theorem wC_X10_worth : Cond.code yX10_worth cX10_worth 2 (some .int) ∈ tblG := tG 656 (by decide +kernel) rfl
theorem wL_X10_13 : Cond.constantLong RX10 13 (10) ∈ tblG := tG 657 (by decide +kernel) rfl
theorem wM_X10_15 : Cond.methodLink RX10 15 yX6_worth ∈ tblG := tG 658 (by decide +kernel) rfl
theorem wQ_X3_X6_worth : Cond.selects RX3 yX6_worth yX3_worth ∈ tblG := tG 659 (by decide +kernel) rfl
theorem wI_X3_worth : Cond.instanceMethod yX3_worth ∈ tblG := tG 660 (by decide +kernel) rfl
theorem wC_X3_worth : Cond.code yX3_worth cX3_worth 2 (some .int) ∈ tblG := tG 661 (by decide +kernel) rfl
theorem wL_X3_13 : Cond.constantLong RX3 13 (100000) ∈ tblG := tG 662 (by decide +kernel) rfl
theorem wM_X3_15 : Cond.methodLink RX3 15 yX6_worth ∈ tblG := tG 663 (by decide +kernel) rfl
theorem wQ_X4_X6_worth : Cond.selects RX4 yX6_worth yX4_worth ∈ tblG := tG 664 (by decide +kernel) rfl
theorem wI_X4_worth : Cond.instanceMethod yX4_worth ∈ tblG := tG 665 (by decide +kernel) rfl
theorem wC_X4_worth : Cond.code yX4_worth cX4_worth 2 (some .int) ∈ tblG := tG 666 (by decide +kernel) rfl
theorem wL_X4_13 : Cond.constantLong RX4 13 (10000) ∈ tblG := tG 667 (by decide +kernel) rfl
theorem wM_X4_15 : Cond.methodLink RX4 15 yX1_worth ∈ tblG := tG 668 (by decide +kernel) rfl
theorem wQ_X10_X6_worth : Cond.selects RX10 yX6_worth yX10_worth ∈ tblG := tG 669 (by decide +kernel) rfl
theorem wC_X6_worth : Cond.code yX6_worth cX6_worth 2 (some .int) ∈ tblG := tG 670 (by decide +kernel) rfl
theorem wM_L_97 : Cond.methodLink RL 97 yX11_keep ∈ tblG := tG 671 (by decide +kernel) rfl
theorem wI_X11_keep : Cond.instanceMethod yX11_keep ∈ tblG := tG 672 (by decide +kernel) rfl
theorem wQ_X11_keep : Cond.selects RX11 yX11_keep yX11_keep ∈ tblG := tG 673 (by decide +kernel) rfl
theorem wC_X11_keep : Cond.code yX11_keep cX11_keep 2 (some .int) ∈ tblG := tG 674 (by decide +kernel) rfl
theorem wM_X11_260 : Cond.methodLink RX11 260 yX11_isImage ∈ tblG := tG 675 (by decide +kernel) rfl
theorem wI_X11_isImage : Cond.instanceMethod yX11_isImage ∈ tblG := tG 677 (by decide +kernel) rfl
theorem wC_X11_isImage : Cond.code yX11_isImage cX11_isImage 2 (some .boolean) ∈ tblG := tG 678 (by decide +kernel) rfl
theorem wM_L_101 : Cond.methodLink RL 101 yX11_back ∈ tblG := tG 679 (by decide +kernel) rfl
theorem wI_X11_back : Cond.instanceMethod yX11_back ∈ tblG := tG 680 (by decide +kernel) rfl
theorem wQ_X11_back : Cond.selects RX11 yX11_back yX11_back ∈ tblG := tG 681 (by decide +kernel) rfl
theorem wC_X11_back : Cond.code yX11_back cX11_back 2 (some .int) ∈ tblG := tG 682 (by decide +kernel) rfl
theorem wM_L_105 : Cond.methodLink RL 105 yX11_count ∈ tblG := tG 683 (by decide +kernel) rfl
theorem wI_X11_count : Cond.instanceMethod yX11_count ∈ tblG := tG 684 (by decide +kernel) rfl
theorem wQ_X11_count : Cond.selects RX11 yX11_count yX11_count ∈ tblG := tG 685 (by decide +kernel) rfl
theorem wC_X11_count : Cond.code yX11_count cX11_count 2 (some .int) ∈ tblG := tG 686 (by decide +kernel) rfl
theorem wM_L_109 : Cond.methodLink RL 109 yX11_trace ∈ tblG := tG 687 (by decide +kernel) rfl
theorem wI_X11_trace : Cond.instanceMethod yX11_trace ∈ tblG := tG 688 (by decide +kernel) rfl
theorem wQ_X11_trace : Cond.selects RX11 yX11_trace yX11_trace ∈ tblG := tG 689 (by decide +kernel) rfl
theorem wC_X11_trace : Cond.code yX11_trace cX11_trace 1 (some .long) ∈ tblG := tG 690 (by decide +kernel) rfl
theorem wK_L_10 : Cond.classLink RL 10 RX12 ∈ tblG := tG 691 (by decide +kernel) rfl
theorem wT_X12 : Cond.instantiable RX12 26 ∈ tblG := tG 692 (by decide +kernel) rfl
theorem wM_L_12 : Cond.methodLink RL 12 yX12_init ∈ tblG := tG 693 (by decide +kernel) rfl
theorem wI_X12_init : Cond.instanceMethod yX12_init ∈ tblG := tG 694 (by decide +kernel) rfl
theorem wC_X12_init : Cond.code yX12_init cX12_init 1 none ∈ tblG := tG 695 (by decide +kernel) rfl
theorem wM_X12_1 : Cond.methodLink RX12 1 objectInit ∈ tblG := tG 696 (by decide +kernel) rfl
theorem wM_X12_59 : Cond.methodLink RX12 59 yX12_begins ∈ tblG := tG 697 (by decide +kernel) rfl
theorem wI_X12_begins : Cond.instanceMethod yX12_begins ∈ tblG := tG 699 (by decide +kernel) rfl
theorem wC_X12_begins : Cond.code yX12_begins cX12_begins 2 none ∈ tblG := tG 700 (by decide +kernel) rfl
theorem wM_X12_62 : Cond.methodLink RX12 62 yX12_settles ∈ tblG := tG 701 (by decide +kernel) rfl
theorem wI_X12_settles : Cond.instanceMethod yX12_settles ∈ tblG := tG 703 (by decide +kernel) rfl
theorem wC_X12_settles : Cond.code yX12_settles cX12_settles 2 none ∈ tblG := tG 704 (by decide +kernel) rfl
theorem wF_X12_65 : Cond.fieldLink RX12 65 "TrayTurnsModel" "thrown" "I" ∈ tblG := tG 705 (by decide +kernel) rfl
theorem wF_X12_200 : Cond.fieldLink RX12 200 "TrayTurnsModel" "trace" "J" ∈ tblG := tG 706 (by decide +kernel) rfl
theorem wF_X12_7 : Cond.fieldLink RX12 7 "TrayTurnsModel" "text" "[I" ∈ tblG := tG 707 (by decide +kernel) rfl
theorem wF_X12_73 : Cond.fieldLink RX12 73 "TrayTurnsModel" "typed" "I" ∈ tblG := tG 708 (by decide +kernel) rfl
theorem wF_X12_76 : Cond.fieldLink RX12 76 "TrayTurnsModel" "at" "I" ∈ tblG := tG 709 (by decide +kernel) rfl
theorem wF_X12_89 : Cond.fieldLink RX12 89 "TrayTurnsModel" "token" "I" ∈ tblG := tG 710 (by decide +kernel) rfl
theorem wF_X12_83 : Cond.fieldLink RX12 83 "TrayTurnsModel" "place" "I" ∈ tblG := tG 711 (by decide +kernel) rfl
theorem wF_X12_86 : Cond.fieldLink RX12 86 "TrayTurnsModel" "value" "I" ∈ tblG := tG 712 (by decide +kernel) rfl
theorem wF_X12_92 : Cond.fieldLink RX12 92 "TrayTurnsModel" "fault" "I" ∈ tblG := tG 713 (by decide +kernel) rfl
theorem wF_X12_13 : Cond.fieldLink RX12 13 "TrayTurnsModel" "many" "[I" ∈ tblG := tG 714 (by decide +kernel) rfl
theorem wF_X12_16 : Cond.fieldLink RX12 16 "TrayTurnsModel" "arm" "[I" ∈ tblG := tG 715 (by decide +kernel) rfl
theorem wF_X12_19 : Cond.fieldLink RX12 19 "TrayTurnsModel" "likes" "[I" ∈ tblG := tG 716 (by decide +kernel) rfl
theorem wF_X12_22 : Cond.fieldLink RX12 22 "TrayTurnsModel" "tall" "[I" ∈ tblG := tG 717 (by decide +kernel) rfl
theorem wF_X12_25 : Cond.fieldLink RX12 25 "TrayTurnsModel" "draft" "[I" ∈ tblG := tG 718 (by decide +kernel) rfl
theorem wF_X12_28 : Cond.fieldLink RX12 28 "TrayTurnsModel" "s" "[I" ∈ tblG := tG 719 (by decide +kernel) rfl
theorem wF_X12_31 : Cond.fieldLink RX12 31 "TrayTurnsModel" "kept" "[I" ∈ tblG := tG 720 (by decide +kernel) rfl
theorem wF_X12_34 : Cond.fieldLink RX12 34 "TrayTurnsModel" "isKept" "[Z" ∈ tblG := tG 721 (by decide +kernel) rfl
theorem wF_X12_38 : Cond.fieldLink RX12 38 "TrayTurnsModel" "undos" "[I" ∈ tblG := tG 722 (by decide +kernel) rfl
theorem wF_X12_128 : Cond.fieldLink RX12 128 "TrayTurnsModel" "undoMany" "I" ∈ tblG := tG 723 (by decide +kernel) rfl
theorem wF_X12_41 : Cond.fieldLink RX12 41 "TrayTurnsModel" "seenDish" "[I" ∈ tblG := tG 724 (by decide +kernel) rfl
theorem wF_X12_44 : Cond.fieldLink RX12 44 "TrayTurnsModel" "seenTurn" "[I" ∈ tblG := tG 725 (by decide +kernel) rfl
theorem wF_X12_47 : Cond.fieldLink RX12 47 "TrayTurnsModel" "seen" "[I" ∈ tblG := tG 726 (by decide +kernel) rfl
theorem wF_X12_125 : Cond.fieldLink RX12 125 "TrayTurnsModel" "seenMany" "I" ∈ tblG := tG 727 (by decide +kernel) rfl
theorem wF_X12_50 : Cond.fieldLink RX12 50 "TrayTurnsModel" "has" "[I" ∈ tblG := tG 728 (by decide +kernel) rfl
theorem wF_X12_53 : Cond.fieldLink RX12 53 "TrayTurnsModel" "best" "[I" ∈ tblG := tG 729 (by decide +kernel) rfl
theorem wF_X12_56 : Cond.fieldLink RX12 56 "TrayTurnsModel" "left" "[I" ∈ tblG := tG 730 (by decide +kernel) rfl
theorem wM_L_17 : Cond.methodLink RL 17 yX12_type ∈ tblG := tG 784 (by decide +kernel) rfl
theorem wI_X12_type : Cond.instanceMethod yX12_type ∈ tblG := tG 785 (by decide +kernel) rfl
theorem wQ_X12_type : Cond.selects RX12 yX12_type yX12_type ∈ tblG := tG 786 (by decide +kernel) rfl
theorem wC_X12_type : Cond.code yX12_type cX12_type 2 (some .int) ∈ tblG := tG 787 (by decide +kernel) rfl
theorem wM_X12_69 : Cond.methodLink RX12 69 yX12_in ∈ tblG := tG 788 (by decide +kernel) rfl
theorem wS_X12_in : Cond.static yX12_in ∈ tblG := tG 789 (by decide +kernel) rfl
theorem wC_X12_in : Cond.code yX12_in cX12_in 3 (some .boolean) ∈ tblG := tG 790 (by decide +kernel) rfl
theorem wM_L_22 : Cond.methodLink RL 22 yX12_clear ∈ tblG := tG 791 (by decide +kernel) rfl
theorem wI_X12_clear : Cond.instanceMethod yX12_clear ∈ tblG := tG 792 (by decide +kernel) rfl
theorem wQ_X12_clear : Cond.selects RX12 yX12_clear yX12_clear ∈ tblG := tG 793 (by decide +kernel) rfl
theorem wC_X12_clear : Cond.code yX12_clear cX12_clear 2 (some .int) ∈ tblG := tG 794 (by decide +kernel) rfl
theorem wM_L_26 : Cond.methodLink RL 26 yX12_table ∈ tblG := tG 795 (by decide +kernel) rfl
theorem wI_X12_table : Cond.instanceMethod yX12_table ∈ tblG := tG 796 (by decide +kernel) rfl
theorem wQ_X12_table : Cond.selects RX12 yX12_table yX12_table ∈ tblG := tG 797 (by decide +kernel) rfl
theorem wC_X12_table : Cond.code yX12_table cX12_table 3 (some .int) ∈ tblG := tG 798 (by decide +kernel) rfl
theorem wM_X12_99 : Cond.methodLink RX12 99 yX12_advances ∈ tblG := tG 799 (by decide +kernel) rfl
theorem wI_X12_advances : Cond.instanceMethod yX12_advances ∈ tblG := tG 801 (by decide +kernel) rfl
theorem wC_X12_advances : Cond.code yX12_advances cX12_advances 2 none ∈ tblG := tG 802 (by decide +kernel) rfl
theorem wM_X12_79 : Cond.methodLink RX12 79 yX12_letterAt ∈ tblG := tG 803 (by decide +kernel) rfl
theorem wI_X12_letterAt : Cond.instanceMethod yX12_letterAt ∈ tblG := tG 805 (by decide +kernel) rfl
theorem wC_X12_letterAt : Cond.code yX12_letterAt cX12_letterAt 2 (some .int) ∈ tblG := tG 806 (by decide +kernel) rfl
theorem wM_X12_95 : Cond.methodLink RX12 95 yX12_isWell ∈ tblG := tG 807 (by decide +kernel) rfl
theorem wI_X12_isWell : Cond.instanceMethod yX12_isWell ∈ tblG := tG 809 (by decide +kernel) rfl
theorem wC_X12_isWell : Cond.code yX12_isWell cX12_isWell 1 (some .boolean) ∈ tblG := tG 810 (by decide +kernel) rfl
theorem wM_X12_117 : Cond.methodLink RX12 117 yX12_mayBegin ∈ tblG := tG 811 (by decide +kernel) rfl
theorem wI_X12_mayBegin : Cond.instanceMethod yX12_mayBegin ∈ tblG := tG 813 (by decide +kernel) rfl
theorem wC_X12_mayBegin : Cond.code yX12_mayBegin cX12_mayBegin 2 (some .boolean) ∈ tblG := tG 814 (by decide +kernel) rfl
theorem wM_X12_102 : Cond.methodLink RX12 102 yX12_takesToken ∈ tblG := tG 815 (by decide +kernel) rfl
theorem wI_X12_takesToken : Cond.instanceMethod yX12_takesToken ∈ tblG := tG 817 (by decide +kernel) rfl
theorem wC_X12_takesToken : Cond.code yX12_takesToken cX12_takesToken 3 (some .int) ∈ tblG := tG 818 (by decide +kernel) rfl
theorem wM_X12_121 : Cond.methodLink RX12 121 yX12_readsItem ∈ tblG := tG 819 (by decide +kernel) rfl
theorem wI_X12_readsItem : Cond.instanceMethod yX12_readsItem ∈ tblG := tG 821 (by decide +kernel) rfl
theorem wC_X12_readsItem : Cond.code yX12_readsItem cX12_readsItem 3 none ∈ tblG := tG 822 (by decide +kernel) rfl
theorem wM_X12_106 : Cond.methodLink RX12 106 yX12_number ∈ tblG := tG 823 (by decide +kernel) rfl
theorem wI_X12_number : Cond.instanceMethod yX12_number ∈ tblG := tG 825 (by decide +kernel) rfl
theorem wC_X12_number : Cond.code yX12_number cX12_number 3 (some .int) ∈ tblG := tG 826 (by decide +kernel) rfl
theorem wM_X12_110 : Cond.methodLink RX12 110 yX12_free ∈ tblG := tG 827 (by decide +kernel) rfl
theorem wI_X12_free : Cond.instanceMethod yX12_free ∈ tblG := tG 829 (by decide +kernel) rfl
theorem wC_X12_free : Cond.code yX12_free cX12_free 5 (some .int) ∈ tblG := tG 830 (by decide +kernel) rfl
theorem wM_X12_113 : Cond.methodLink RX12 113 yX12_lettersRow ∈ tblG := tG 831 (by decide +kernel) rfl
theorem wI_X12_lettersRow : Cond.instanceMethod yX12_lettersRow ∈ tblG := tG 833 (by decide +kernel) rfl
theorem wC_X12_lettersRow : Cond.code yX12_lettersRow cX12_lettersRow 6 (some .int) ∈ tblG := tG 834 (by decide +kernel) rfl
theorem wM_L_31 : Cond.methodLink RL 31 yX12_guest ∈ tblG := tG 835 (by decide +kernel) rfl
theorem wI_X12_guest : Cond.instanceMethod yX12_guest ∈ tblG := tG 836 (by decide +kernel) rfl
theorem wQ_X12_guest : Cond.selects RX12 yX12_guest yX12_guest ∈ tblG := tG 837 (by decide +kernel) rfl
theorem wC_X12_guest : Cond.code yX12_guest cX12_guest 3 (some .int) ∈ tblG := tG 838 (by decide +kernel) rfl
theorem wM_X12_134 : Cond.methodLink RX12 134 yX12_isGuest ∈ tblG := tG 839 (by decide +kernel) rfl
theorem wI_X12_isGuest : Cond.instanceMethod yX12_isGuest ∈ tblG := tG 841 (by decide +kernel) rfl
theorem wC_X12_isGuest : Cond.code yX12_isGuest cX12_isGuest 2 (some .boolean) ∈ tblG := tG 842 (by decide +kernel) rfl
theorem wM_X12_137 : Cond.methodLink RX12 137 yX12_needsOf ∈ tblG := tG 843 (by decide +kernel) rfl
theorem wI_X12_needsOf : Cond.instanceMethod yX12_needsOf ∈ tblG := tG 845 (by decide +kernel) rfl
theorem wC_X12_needsOf : Cond.code yX12_needsOf cX12_needsOf 2 (some .int) ∈ tblG := tG 846 (by decide +kernel) rfl
theorem wM_X12_140 : Cond.methodLink RX12 140 yX12_reachedBy ∈ tblG := tG 847 (by decide +kernel) rfl
theorem wI_X12_reachedBy : Cond.instanceMethod yX12_reachedBy ∈ tblG := tG 849 (by decide +kernel) rfl
theorem wC_X12_reachedBy : Cond.code yX12_reachedBy cX12_reachedBy 4 (some .int) ∈ tblG := tG 850 (by decide +kernel) rfl
theorem wM_X12_131 : Cond.methodLink RX12 131 yX12_reachesBy ∈ tblG := tG 851 (by decide +kernel) rfl
theorem wI_X12_reachesBy : Cond.instanceMethod yX12_reachesBy ∈ tblG := tG 853 (by decide +kernel) rfl
theorem wC_X12_reachesBy : Cond.code yX12_reachesBy cX12_reachesBy 6 (some .boolean) ∈ tblG := tG 854 (by decide +kernel) rfl
theorem wM_L_35 : Cond.methodLink RL 35 yX12_dish ∈ tblG := tG 855 (by decide +kernel) rfl
theorem wI_X12_dish : Cond.instanceMethod yX12_dish ∈ tblG := tG 856 (by decide +kernel) rfl
theorem wQ_X12_dish : Cond.selects RX12 yX12_dish yX12_dish ∈ tblG := tG 857 (by decide +kernel) rfl
theorem wC_X12_dish : Cond.code yX12_dish cX12_dish 3 (some .int) ∈ tblG := tG 858 (by decide +kernel) rfl
theorem wM_X12_143 : Cond.methodLink RX12 143 yX12_isDish ∈ tblG := tG 859 (by decide +kernel) rfl
theorem wI_X12_isDish : Cond.instanceMethod yX12_isDish ∈ tblG := tG 861 (by decide +kernel) rfl
theorem wC_X12_isDish : Cond.code yX12_isDish cX12_isDish 2 (some .boolean) ∈ tblG := tG 862 (by decide +kernel) rfl
theorem wM_X12_146 : Cond.methodLink RX12 146 yX12_whoReach ∈ tblG := tG 863 (by decide +kernel) rfl
theorem wI_X12_whoReach : Cond.instanceMethod yX12_whoReach ∈ tblG := tG 865 (by decide +kernel) rfl
theorem wC_X12_whoReach : Cond.code yX12_whoReach cX12_whoReach 5 (some .int) ∈ tblG := tG 866 (by decide +kernel) rfl
theorem wM_L_39 : Cond.methodLink RL 39 yX12_now ∈ tblG := tG 867 (by decide +kernel) rfl
theorem wI_X12_now : Cond.instanceMethod yX12_now ∈ tblG := tG 868 (by decide +kernel) rfl
theorem wQ_X12_now : Cond.selects RX12 yX12_now yX12_now ∈ tblG := tG 869 (by decide +kernel) rfl
theorem wC_X12_now : Cond.code yX12_now cX12_now 4 (some .int) ∈ tblG := tG 870 (by decide +kernel) rfl
theorem wM_X12_159 : Cond.methodLink RX12 159 yX12_tourOf ∈ tblG := tG 871 (by decide +kernel) rfl
theorem wI_X12_tourOf : Cond.instanceMethod yX12_tourOf ∈ tblG := tG 873 (by decide +kernel) rfl
theorem wC_X12_tourOf : Cond.code yX12_tourOf cX12_tourOf 5 (some .int) ∈ tblG := tG 874 (by decide +kernel) rfl
theorem wM_X12_153 : Cond.methodLink RX12 153 yX12_isEnough ∈ tblG := tG 875 (by decide +kernel) rfl
theorem wI_X12_isEnough : Cond.instanceMethod yX12_isEnough ∈ tblG := tG 877 (by decide +kernel) rfl
theorem wC_X12_isEnough : Cond.code yX12_isEnough cX12_isEnough 4 (some .boolean) ∈ tblG := tG 878 (by decide +kernel) rfl
theorem wM_X12_149 : Cond.methodLink RX12 149 yX12_isOf ∈ tblG := tG 879 (by decide +kernel) rfl
theorem wS_X12_isOf : Cond.static yX12_isOf ∈ tblG := tG 880 (by decide +kernel) rfl
theorem wC_X12_isOf : Cond.code yX12_isOf cX12_isOf 2 (some .boolean) ∈ tblG := tG 881 (by decide +kernel) rfl
theorem wM_X12_156 : Cond.methodLink RX12 156 yX12_isAll ∈ tblG := tG 882 (by decide +kernel) rfl
theorem wI_X12_isAll : Cond.instanceMethod yX12_isAll ∈ tblG := tG 884 (by decide +kernel) rfl
theorem wC_X12_isAll : Cond.code yX12_isAll cX12_isAll 7 (some .boolean) ∈ tblG := tG 885 (by decide +kernel) rfl
theorem wM_X12_172 : Cond.methodLink RX12 172 yX12_swapOf ∈ tblG := tG 886 (by decide +kernel) rfl
theorem wI_X12_swapOf : Cond.instanceMethod yX12_swapOf ∈ tblG := tG 888 (by decide +kernel) rfl
theorem wC_X12_swapOf : Cond.code yX12_swapOf cX12_swapOf 6 (some .int) ∈ tblG := tG 889 (by decide +kernel) rfl
theorem wM_X12_162 : Cond.methodLink RX12 162 yX12_trades ∈ tblG := tG 890 (by decide +kernel) rfl
theorem wI_X12_trades : Cond.instanceMethod yX12_trades ∈ tblG := tG 892 (by decide +kernel) rfl
theorem wC_X12_trades : Cond.code yX12_trades cX12_trades 4 none ∈ tblG := tG 893 (by decide +kernel) rfl
theorem wM_X12_175 : Cond.methodLink RX12 175 yX12_feeds ∈ tblG := tG 894 (by decide +kernel) rfl
theorem wI_X12_feeds : Cond.instanceMethod yX12_feeds ∈ tblG := tG 896 (by decide +kernel) rfl
theorem wC_X12_feeds : Cond.code yX12_feeds cX12_feeds 6 (some .int) ∈ tblG := tG 897 (by decide +kernel) rfl
theorem wM_X12_166 : Cond.methodLink RX12 166 yX12_sevens ∈ tblG := tG 898 (by decide +kernel) rfl
theorem wS_X12_sevens : Cond.static yX12_sevens ∈ tblG := tG 899 (by decide +kernel) rfl
theorem wC_X12_sevens : Cond.code yX12_sevens cX12_sevens 3 (some .int) ∈ tblG := tG 900 (by decide +kernel) rfl
theorem wM_X12_169 : Cond.methodLink RX12 169 yX12_havingBy ∈ tblG := tG 901 (by decide +kernel) rfl
theorem wI_X12_havingBy : Cond.instanceMethod yX12_havingBy ∈ tblG := tG 903 (by decide +kernel) rfl
theorem wC_X12_havingBy : Cond.code yX12_havingBy cX12_havingBy 6 (some .int) ∈ tblG := tG 904 (by decide +kernel) rfl
theorem wM_L_43 : Cond.methodLink RL 43 yX12_spins ∈ tblG := tG 905 (by decide +kernel) rfl
theorem wI_X12_spins : Cond.instanceMethod yX12_spins ∈ tblG := tG 906 (by decide +kernel) rfl
theorem wQ_X12_spins : Cond.selects RX12 yX12_spins yX12_spins ∈ tblG := tG 907 (by decide +kernel) rfl
theorem wC_X12_spins : Cond.code yX12_spins cX12_spins 7 (some .int) ∈ tblG := tG 908 (by decide +kernel) rfl
theorem wM_X12_178 : Cond.methodLink RX12 178 yX12_notes ∈ tblG := tG 909 (by decide +kernel) rfl
theorem wI_X12_notes : Cond.instanceMethod yX12_notes ∈ tblG := tG 911 (by decide +kernel) rfl
theorem wC_X12_notes : Cond.code yX12_notes cX12_notes 2 none ∈ tblG := tG 912 (by decide +kernel) rfl
theorem wM_L_47 : Cond.methodLink RL 47 yX12_takes ∈ tblG := tG 913 (by decide +kernel) rfl
theorem wI_X12_takes : Cond.instanceMethod yX12_takes ∈ tblG := tG 914 (by decide +kernel) rfl
theorem wQ_X12_takes : Cond.selects RX12 yX12_takes yX12_takes ∈ tblG := tG 915 (by decide +kernel) rfl
theorem wC_X12_takes : Cond.code yX12_takes cX12_takes 3 (some .int) ∈ tblG := tG 916 (by decide +kernel) rfl
theorem wM_L_51 : Cond.methodLink RL 51 yX12_moves ∈ tblG := tG 917 (by decide +kernel) rfl
theorem wI_X12_moves : Cond.instanceMethod yX12_moves ∈ tblG := tG 918 (by decide +kernel) rfl
theorem wQ_X12_moves : Cond.selects RX12 yX12_moves yX12_moves ∈ tblG := tG 919 (by decide +kernel) rfl
theorem wC_X12_moves : Cond.code yX12_moves cX12_moves 4 (some .int) ∈ tblG := tG 920 (by decide +kernel) rfl
theorem wM_X12_181 : Cond.methodLink RX12 181 yX12_isSeat ∈ tblG := tG 921 (by decide +kernel) rfl
theorem wI_X12_isSeat : Cond.instanceMethod yX12_isSeat ∈ tblG := tG 923 (by decide +kernel) rfl
theorem wC_X12_isSeat : Cond.code yX12_isSeat cX12_isSeat 2 (some .boolean) ∈ tblG := tG 924 (by decide +kernel) rfl
theorem wM_X12_184 : Cond.methodLink RX12 184 yX12_isEmpty ∈ tblG := tG 925 (by decide +kernel) rfl
theorem wI_X12_isEmpty : Cond.instanceMethod yX12_isEmpty ∈ tblG := tG 927 (by decide +kernel) rfl
theorem wC_X12_isEmpty : Cond.code yX12_isEmpty cX12_isEmpty 4 (some .boolean) ∈ tblG := tG 928 (by decide +kernel) rfl
theorem wM_L_55 : Cond.methodLink RL 55 yX12_changes ∈ tblG := tG 929 (by decide +kernel) rfl
theorem wI_X12_changes : Cond.instanceMethod yX12_changes ∈ tblG := tG 930 (by decide +kernel) rfl
theorem wQ_X12_changes : Cond.selects RX12 yX12_changes yX12_changes ∈ tblG := tG 931 (by decide +kernel) rfl
theorem wC_X12_changes : Cond.code yX12_changes cX12_changes 3 (some .int) ∈ tblG := tG 932 (by decide +kernel) rfl
theorem wM_L_59 : Cond.methodLink RL 59 yX12_undo ∈ tblG := tG 933 (by decide +kernel) rfl
theorem wI_X12_undo : Cond.instanceMethod yX12_undo ∈ tblG := tG 934 (by decide +kernel) rfl
theorem wQ_X12_undo : Cond.selects RX12 yX12_undo yX12_undo ∈ tblG := tG 935 (by decide +kernel) rfl
theorem wC_X12_undo : Cond.code yX12_undo cX12_undo 2 (some .int) ∈ tblG := tG 936 (by decide +kernel) rfl
theorem wM_L_64 : Cond.methodLink RL 64 yX12_steps ∈ tblG := tG 937 (by decide +kernel) rfl
theorem wI_X12_steps : Cond.instanceMethod yX12_steps ∈ tblG := tG 938 (by decide +kernel) rfl
theorem wQ_X12_steps : Cond.selects RX12 yX12_steps yX12_steps ∈ tblG := tG 939 (by decide +kernel) rfl
theorem wC_X12_steps : Cond.code yX12_steps cX12_steps 7 (some .int) ∈ tblG := tG 940 (by decide +kernel) rfl
theorem wM_L_68 : Cond.methodLink RL 68 yX12_puts ∈ tblG := tG 941 (by decide +kernel) rfl
theorem wI_X12_puts : Cond.instanceMethod yX12_puts ∈ tblG := tG 942 (by decide +kernel) rfl
theorem wQ_X12_puts : Cond.selects RX12 yX12_puts yX12_puts ∈ tblG := tG 943 (by decide +kernel) rfl
theorem wC_X12_puts : Cond.code yX12_puts cX12_puts 7 (some .int) ∈ tblG := tG 944 (by decide +kernel) rfl
theorem wM_L_72 : Cond.methodLink RL 72 yX12_fed ∈ tblG := tG 945 (by decide +kernel) rfl
theorem wI_X12_fed : Cond.instanceMethod yX12_fed ∈ tblG := tG 946 (by decide +kernel) rfl
theorem wQ_X12_fed : Cond.selects RX12 yX12_fed yX12_fed ∈ tblG := tG 947 (by decide +kernel) rfl
theorem wC_X12_fed : Cond.code yX12_fed cX12_fed 2 (some .int) ∈ tblG := tG 948 (by decide +kernel) rfl
theorem wM_L_76 : Cond.methodLink RL 76 yX12_odds ∈ tblG := tG 949 (by decide +kernel) rfl
theorem wI_X12_odds : Cond.instanceMethod yX12_odds ∈ tblG := tG 950 (by decide +kernel) rfl
theorem wQ_X12_odds : Cond.selects RX12 yX12_odds yX12_odds ∈ tblG := tG 951 (by decide +kernel) rfl
theorem wC_X12_odds : Cond.code yX12_odds cX12_odds 8 (some .int) ∈ tblG := tG 952 (by decide +kernel) rfl
theorem wM_X12_187 : Cond.methodLink RX12 187 yX12_ones ∈ tblG := tG 953 (by decide +kernel) rfl
theorem wS_X12_ones : Cond.static yX12_ones ∈ tblG := tG 954 (by decide +kernel) rfl
theorem wC_X12_ones : Cond.code yX12_ones cX12_ones 3 (some .int) ∈ tblG := tG 955 (by decide +kernel) rfl
theorem wM_X12_190 : Cond.methodLink RX12 190 yX12_power ∈ tblG := tG 956 (by decide +kernel) rfl
theorem wS_X12_power : Cond.static yX12_power ∈ tblG := tG 957 (by decide +kernel) rfl
theorem wC_X12_power : Cond.code yX12_power cX12_power 4 (some .int) ∈ tblG := tG 958 (by decide +kernel) rfl
theorem wM_X12_193 : Cond.methodLink RX12 193 yX12_gcd ∈ tblG := tG 959 (by decide +kernel) rfl
theorem wS_X12_gcd : Cond.static yX12_gcd ∈ tblG := tG 960 (by decide +kernel) rfl
theorem wC_X12_gcd : Cond.code yX12_gcd cX12_gcd 5 (some .int) ∈ tblG := tG 961 (by decide +kernel) rfl
theorem wM_L_80 : Cond.methodLink RL 80 yX12_sees ∈ tblG := tG 962 (by decide +kernel) rfl
theorem wI_X12_sees : Cond.instanceMethod yX12_sees ∈ tblG := tG 963 (by decide +kernel) rfl
theorem wQ_X12_sees : Cond.selects RX12 yX12_sees yX12_sees ∈ tblG := tG 964 (by decide +kernel) rfl
theorem wC_X12_sees : Cond.code yX12_sees cX12_sees 4 (some .int) ∈ tblG := tG 965 (by decide +kernel) rfl
theorem wM_L_84 : Cond.methodLink RL 84 yX12_forget ∈ tblG := tG 966 (by decide +kernel) rfl
theorem wI_X12_forget : Cond.instanceMethod yX12_forget ∈ tblG := tG 967 (by decide +kernel) rfl
theorem wQ_X12_forget : Cond.selects RX12 yX12_forget yX12_forget ∈ tblG := tG 968 (by decide +kernel) rfl
theorem wC_X12_forget : Cond.code yX12_forget cX12_forget 2 (some .int) ∈ tblG := tG 969 (by decide +kernel) rfl
theorem wM_L_88 : Cond.methodLink RL 88 yX12_who ∈ tblG := tG 970 (by decide +kernel) rfl
theorem wI_X12_who : Cond.instanceMethod yX12_who ∈ tblG := tG 971 (by decide +kernel) rfl
theorem wQ_X12_who : Cond.selects RX12 yX12_who yX12_who ∈ tblG := tG 972 (by decide +kernel) rfl
theorem wC_X12_who : Cond.code yX12_who cX12_who 1 (some .int) ∈ tblG := tG 973 (by decide +kernel) rfl
theorem wM_X12_196 : Cond.methodLink RX12 196 yX12_whoCan ∈ tblG := tG 974 (by decide +kernel) rfl
theorem wI_X12_whoCan : Cond.instanceMethod yX12_whoCan ∈ tblG := tG 976 (by decide +kernel) rfl
theorem wC_X12_whoCan : Cond.code yX12_whoCan cX12_whoCan 4 (some .int) ∈ tblG := tG 977 (by decide +kernel) rfl
theorem wM_L_92 : Cond.methodLink RL 92 yX12_look ∈ tblG := tG 978 (by decide +kernel) rfl
theorem wI_X12_look : Cond.instanceMethod yX12_look ∈ tblG := tG 979 (by decide +kernel) rfl
theorem wQ_X12_look : Cond.selects RX12 yX12_look yX12_look ∈ tblG := tG 980 (by decide +kernel) rfl
theorem wC_X12_look : Cond.code yX12_look cX12_look 8 (some .int) ∈ tblG := tG 981 (by decide +kernel) rfl
theorem wM_L_96 : Cond.methodLink RL 96 yX12_rate ∈ tblG := tG 982 (by decide +kernel) rfl
theorem wI_X12_rate : Cond.instanceMethod yX12_rate ∈ tblG := tG 983 (by decide +kernel) rfl
theorem wQ_X12_rate : Cond.selects RX12 yX12_rate yX12_rate ∈ tblG := tG 984 (by decide +kernel) rfl
theorem wC_X12_rate : Cond.code yX12_rate cX12_rate 6 (some .int) ∈ tblG := tG 985 (by decide +kernel) rfl
theorem wA_X12_199 : Cond.constant RX12 199 (-1000000) ∈ tblG := tG 986 (by decide +kernel) rfl
theorem wL_X12_204 : Cond.constantLong RX12 204 (11) ∈ tblG := tG 987 (by decide +kernel) rfl
theorem wL_X12_206 : Cond.constantLong RX12 206 (101) ∈ tblG := tG 988 (by decide +kernel) rfl
theorem wL_X12_208 : Cond.constantLong RX12 208 (1011) ∈ tblG := tG 989 (by decide +kernel) rfl
theorem wL_X12_210 : Cond.constantLong RX12 210 (10101) ∈ tblG := tG 990 (by decide +kernel) rfl
theorem wL_X12_212 : Cond.constantLong RX12 212 (100001) ∈ tblG := tG 991 (by decide +kernel) rfl
theorem wM_L_100 : Cond.methodLink RL 100 yX12_keep ∈ tblG := tG 992 (by decide +kernel) rfl
theorem wI_X12_keep : Cond.instanceMethod yX12_keep ∈ tblG := tG 993 (by decide +kernel) rfl
theorem wQ_X12_keep : Cond.selects RX12 yX12_keep yX12_keep ∈ tblG := tG 994 (by decide +kernel) rfl
theorem wC_X12_keep : Cond.code yX12_keep cX12_keep 3 (some .int) ∈ tblG := tG 995 (by decide +kernel) rfl
theorem wM_L_104 : Cond.methodLink RL 104 yX12_back ∈ tblG := tG 996 (by decide +kernel) rfl
theorem wI_X12_back : Cond.instanceMethod yX12_back ∈ tblG := tG 997 (by decide +kernel) rfl
theorem wQ_X12_back : Cond.selects RX12 yX12_back yX12_back ∈ tblG := tG 998 (by decide +kernel) rfl
theorem wC_X12_back : Cond.code yX12_back cX12_back 3 (some .int) ∈ tblG := tG 999 (by decide +kernel) rfl
theorem wM_L_108 : Cond.methodLink RL 108 yX12_count ∈ tblG := tG 1000 (by decide +kernel) rfl
theorem wI_X12_count : Cond.instanceMethod yX12_count ∈ tblG := tG 1001 (by decide +kernel) rfl
theorem wQ_X12_count : Cond.selects RX12 yX12_count yX12_count ∈ tblG := tG 1002 (by decide +kernel) rfl
theorem wC_X12_count : Cond.code yX12_count cX12_count 2 (some .int) ∈ tblG := tG 1003 (by decide +kernel) rfl
theorem wM_L_113 : Cond.methodLink RL 113 yX12_trace ∈ tblG := tG 1004 (by decide +kernel) rfl
theorem wI_X12_trace : Cond.instanceMethod yX12_trace ∈ tblG := tG 1005 (by decide +kernel) rfl
theorem wQ_X12_trace : Cond.selects RX12 yX12_trace yX12_trace ∈ tblG := tG 1006 (by decide +kernel) rfl
theorem wC_X12_trace : Cond.code yX12_trace cX12_trace 1 (some .long) ∈ tblG := tG 1007 (by decide +kernel) rfl
theorem wE_X10 : Cond.sameMethod RX10 RX10 "worth" "(LTrayTurns$Asked;)I" ∈ tblG := tG 1008 (by decide +kernel) rfl
theorem wE_X1 : Cond.sameMethod RX1 RX1 "worth" "(LTrayTurns$Asked;)I" ∈ tblG := tG 1009 (by decide +kernel) rfl
theorem wQ_X9_nextToken : Cond.selects RX9 yX9_nextToken yX9_nextToken ∈ tblG := tG 0 (by decide +kernel) rfl
theorem wQ_X9_nextWord : Cond.selects RX9 yX9_nextWord yX9_nextWord ∈ tblG := tG 1 (by decide +kernel) rfl
theorem wQ_X9_nextNumber : Cond.selects RX9 yX9_nextNumber yX9_nextNumber ∈ tblG := tG 2 (by decide +kernel) rfl
theorem wQ_X9_readItem : Cond.selects RX9 yX9_readItem yX9_readItem ∈ tblG := tG 3 (by decide +kernel) rfl
theorem wQ_X9_isWord : Cond.selects RX9 yX9_isWord yX9_isWord ∈ tblG := tG 4 (by decide +kernel) rfl
theorem wQ_X9_readSeats : Cond.selects RX9 yX9_readSeats yX9_readSeats ∈ tblG := tG 5 (by decide +kernel) rfl
theorem wQ_X9_readNumber : Cond.selects RX9 yX9_readNumber yX9_readNumber ∈ tblG := tG 6 (by decide +kernel) rfl
theorem wQ_X9_readClose : Cond.selects RX9 yX9_readClose yX9_readClose ∈ tblG := tG 7 (by decide +kernel) rfl
theorem wQ_X9_readGuest : Cond.selects RX9 yX9_readGuest yX9_readGuest ∈ tblG := tG 8 (by decide +kernel) rfl
theorem wQ_X9_isAmong : Cond.selects RX9 yX9_isAmong yX9_isAmong ∈ tblG := tG 9 (by decide +kernel) rfl
theorem wQ_X9_readRow : Cond.selects RX9 yX9_readRow yX9_readRow ∈ tblG := tG 10 (by decide +kernel) rfl
theorem wQ_X9_readDish : Cond.selects RX9 yX9_readDish yX9_readDish ∈ tblG := tG 11 (by decide +kernel) rfl
theorem wQ_X11_isGuest : Cond.selects RX11 yX11_isGuest yX11_isGuest ∈ tblG := tG 12 (by decide +kernel) rfl
theorem wQ_X8_gap : Cond.selects RX8 yX8_gap yX8_gap ∈ tblG := tG 13 (by decide +kernel) rfl
theorem wQ_X11_isDish : Cond.selects RX11 yX11_isDish yX11_isDish ∈ tblG := tG 14 (by decide +kernel) rfl
theorem wQ_X11_allPortions : Cond.selects RX11 yX11_allPortions yX11_allPortions ∈ tblG := tG 15 (by decide +kernel) rfl
theorem wQ_X8_hasEnough : Cond.selects RX8 yX8_hasEnough yX8_hasEnough ∈ tblG := tG 16 (by decide +kernel) rfl
theorem wQ_X8_fillFurthest : Cond.selects RX8 yX8_fillFurthest yX8_fillFurthest ∈ tblG := tG 17 (by decide +kernel) rfl
theorem wQ_X11_swap : Cond.selects RX11 yX11_swap yX11_swap ∈ tblG := tG 18 (by decide +kernel) rfl
theorem wQ_X5_most : Cond.selects RX5 yX5_most yX5_most ∈ tblG := tG 19 (by decide +kernel) rfl
theorem wQ_X5_firstFor : Cond.selects RX5 yX5_firstFor yX5_firstFor ∈ tblG := tG 20 (by decide +kernel) rfl
theorem wQ_X11_remember : Cond.selects RX11 yX11_remember yX11_remember ∈ tblG := tG 21 (by decide +kernel) rfl
theorem wQ_X11_spill : Cond.selects RX11 yX11_spill yX11_spill ∈ tblG := tG 22 (by decide +kernel) rfl
theorem wQ_X11_isTurn : Cond.selects RX11 yX11_isTurn yX11_isTurn ∈ tblG := tG 23 (by decide +kernel) rfl
theorem wQ_X11_isEmpty : Cond.selects RX11 yX11_isEmpty yX11_isEmpty ∈ tblG := tG 24 (by decide +kernel) rfl
theorem wQ_X11_spreadChances : Cond.selects RX11 yX11_spreadChances yX11_spreadChances ∈ tblG := tG 25 (by decide +kernel) rfl
theorem wQ_X11_fitsAllSeen : Cond.selects RX11 yX11_fitsAllSeen yX11_fitsAllSeen ∈ tblG := tG 26 (by decide +kernel) rfl
theorem wQ_X11_isImage : Cond.selects RX11 yX11_isImage yX11_isImage ∈ tblG := tG 27 (by decide +kernel) rfl
theorem wQ_X12_begins : Cond.selects RX12 yX12_begins yX12_begins ∈ tblG := tG 28 (by decide +kernel) rfl
theorem wQ_X12_settles : Cond.selects RX12 yX12_settles yX12_settles ∈ tblG := tG 29 (by decide +kernel) rfl
theorem wQ_X12_advances : Cond.selects RX12 yX12_advances yX12_advances ∈ tblG := tG 30 (by decide +kernel) rfl
theorem wQ_X12_letterAt : Cond.selects RX12 yX12_letterAt yX12_letterAt ∈ tblG := tG 31 (by decide +kernel) rfl
theorem wQ_X12_isWell : Cond.selects RX12 yX12_isWell yX12_isWell ∈ tblG := tG 32 (by decide +kernel) rfl
theorem wQ_X12_mayBegin : Cond.selects RX12 yX12_mayBegin yX12_mayBegin ∈ tblG := tG 33 (by decide +kernel) rfl
theorem wQ_X12_takesToken : Cond.selects RX12 yX12_takesToken yX12_takesToken ∈ tblG := tG 34 (by decide +kernel) rfl
theorem wQ_X12_readsItem : Cond.selects RX12 yX12_readsItem yX12_readsItem ∈ tblG := tG 35 (by decide +kernel) rfl
theorem wQ_X12_number : Cond.selects RX12 yX12_number yX12_number ∈ tblG := tG 36 (by decide +kernel) rfl
theorem wQ_X12_free : Cond.selects RX12 yX12_free yX12_free ∈ tblG := tG 37 (by decide +kernel) rfl
theorem wQ_X12_lettersRow : Cond.selects RX12 yX12_lettersRow yX12_lettersRow ∈ tblG := tG 38 (by decide +kernel) rfl
theorem wQ_X12_isGuest : Cond.selects RX12 yX12_isGuest yX12_isGuest ∈ tblG := tG 39 (by decide +kernel) rfl
theorem wQ_X12_needsOf : Cond.selects RX12 yX12_needsOf yX12_needsOf ∈ tblG := tG 40 (by decide +kernel) rfl
theorem wQ_X12_reachedBy : Cond.selects RX12 yX12_reachedBy yX12_reachedBy ∈ tblG := tG 41 (by decide +kernel) rfl
theorem wQ_X12_reachesBy : Cond.selects RX12 yX12_reachesBy yX12_reachesBy ∈ tblG := tG 42 (by decide +kernel) rfl
theorem wQ_X12_isDish : Cond.selects RX12 yX12_isDish yX12_isDish ∈ tblG := tG 43 (by decide +kernel) rfl
theorem wQ_X12_whoReach : Cond.selects RX12 yX12_whoReach yX12_whoReach ∈ tblG := tG 44 (by decide +kernel) rfl
theorem wQ_X12_tourOf : Cond.selects RX12 yX12_tourOf yX12_tourOf ∈ tblG := tG 45 (by decide +kernel) rfl
theorem wQ_X12_isEnough : Cond.selects RX12 yX12_isEnough yX12_isEnough ∈ tblG := tG 46 (by decide +kernel) rfl
theorem wQ_X12_isAll : Cond.selects RX12 yX12_isAll yX12_isAll ∈ tblG := tG 47 (by decide +kernel) rfl
theorem wQ_X12_swapOf : Cond.selects RX12 yX12_swapOf yX12_swapOf ∈ tblG := tG 48 (by decide +kernel) rfl
theorem wQ_X12_trades : Cond.selects RX12 yX12_trades yX12_trades ∈ tblG := tG 49 (by decide +kernel) rfl
theorem wQ_X12_feeds : Cond.selects RX12 yX12_feeds yX12_feeds ∈ tblG := tG 50 (by decide +kernel) rfl
theorem wQ_X12_havingBy : Cond.selects RX12 yX12_havingBy yX12_havingBy ∈ tblG := tG 51 (by decide +kernel) rfl
theorem wQ_X12_notes : Cond.selects RX12 yX12_notes yX12_notes ∈ tblG := tG 52 (by decide +kernel) rfl
theorem wQ_X12_isSeat : Cond.selects RX12 yX12_isSeat yX12_isSeat ∈ tblG := tG 53 (by decide +kernel) rfl
theorem wQ_X12_isEmpty : Cond.selects RX12 yX12_isEmpty yX12_isEmpty ∈ tblG := tG 54 (by decide +kernel) rfl
theorem wQ_X12_whoCan : Cond.selects RX12 yX12_whoCan yX12_whoCan ∈ tblG := tG 55 (by decide +kernel) rfl
end
section
def layL : List (Nat × Nat) := [(11, 16), (9, 7), (21, 140), (8, 8), (20, 6), (20, 6), (20, 6), (7, 5), (20, 6), (20, 6), (20, 6), (20, 6), (20, 9), (5, 5), (20, 6), (20, 6), (20, 6), (0, 6), (24, 6), (8, 8), (20, 6), (20, 6), (20, 6), (7, 5), (20, 6), (20, 6), (20, 6), (20, 6), (20, 9), (7, 5), (20, 6), (20, 6), (20, 6), (20, 6), (7, 5), (20, 6), (20, 6), (20, 6), (20, 6), (23, 10), (23, 2), (22, 2), (20, 6), (20, 6), (22, 6), (20, 9), (7, 5), (20, 6), (20, 6), (20, 6), (20, 6), (7, 5), (20, 6), (20, 6), (20, 6), (20, 6), (7, 5), (20, 6), (20, 6), (20, 6), (20, 6), (7, 5), (20, 6), (20, 6), (20, 6), (20, 6), (7, 5), (20, 6), (20, 6), (20, 6), (20, 6), (7, 5), (20, 6), (20, 6), (20, 6), (20, 6), (7, 5), (20, 6), (20, 6), (20, 6), (20, 6), (7, 5), (20, 6), (20, 6), (20, 6), (20, 6), (7, 5), (20, 6), (20, 6), (20, 6), (20, 6), (7, 5), (20, 6), (20, 6), (20, 6), (20, 6), (7, 5), (20, 6), (20, 6), (20, 6), (20, 6), (7, 5), (20, 6), (20, 6), (20, 6), (20, 6), (6, 0), (10, 0), (1, 0), (2, 0), (4, 0), (3, 0), (12, 26), (20, 140), (20, 6), (20, 12), (20, 12), (20, 12), (20, 25), (20, 25), (20, 50), (22, 2), (20, 250), (20, 6), (20, 6), (20, 6), (20, 6), (20, 6), (20, 6)]
def lay (k : Nat) : Nat × Nat := layL.getD k (99, 0)
def nf (ci : Nat) : Nat := match ci with | 0 => 6 | 5 => 5 | 7 => 5 | 8 => 8 | 9 => 7 | 11 => 16 | 12 => 26 | _ => 0
def ft (ci j : Nat) : Nat := match ci with | 0 => ([0, 0, 0, 0, 0, 2] : List Nat).getD j 0 | 5 => ([1, 1, 1, 0, 0] : List Nat).getD j 0 | 7 => ([0, 1, 1, 1, 1] : List Nat).getD j 0 | 8 => ([0, 0, 0, 1, 1, 1, 1, 1] : List Nat).getD j 0 | 9 => ([1, 0, 1, 0, 0, 0, 0] : List Nat).getD j 0 | 11 => ([1, 1, 1, 1, 1, 1, 1, 1, 0, 1, 1, 1, 1, 1, 0, 1] : List Nat).getD j 0 | 12 => ([0, 2, 1, 0, 0, 0, 0, 0, 0, 1, 1, 1, 1, 1, 1, 1, 1, 1, 0, 1, 1, 1, 0, 1, 1, 1] : List Nat).getD j 0 | _ => 0
theorem w_nat_copy : Cond.native arraycopyName ∈ tblG := wNat_arraycopyName
theorem w_st_copy : Cond.static arraycopyName ∈ tblG := wS_arraycopyName
theorem w_in_sys : Cond.initialized "java/lang/System" ∈ tblG := wN_J10
theorem w_in_math : Cond.initialized "java/lang/Math" ∈ tblG := wN_J9
theorem w_st_min : Cond.static Lib.Math.min.name ∈ tblG := wS_J9_min_7cf53
theorem w_st_max : Cond.static Lib.Math.max.name ∈ tblG := wS_J9_max_7cf53
theorem w_cd_min : Cond.code Lib.Math.min.name Lib.Math.min.code 2 (some .int) ∈ tblG := wC_J9_min_7cf53
theorem w_cd_max : Cond.code Lib.Math.max.name Lib.Math.max.code 2 (some .int) ∈ tblG := wC_J9_max_7cf53
/-! the flat memory: cells by number; a number's layout is fixed; an object's or an array's contents are read off functions -/
abbrev Mem : Type := Nat × (Nat → Nat → Int32) × (Nat → Nat → Option Nat) × (Nat → Nat → Int64)
def up2 {α : Type} (f : Nat → Nat → α) (k j : Nat) (v : α) : Nat → Nat → α := fun a b => if a = k ∧ b = j then v else f a b
def upR {α : Type} (f : Nat → Nat → α) (k : Nat) (row : Nat → α) : Nat → Nat → α := fun a b => if a = k then row b else f a b
def loopF {S R : Type} (F : (S → Option R) → S → Option R) : Nat → S → Option R
  | 0, _ => none
  | n + 1, s => F (loopF F n) s
def FU : Nat := 200000
def gI (M : Mem) (k ci j : Nat) : Option Int32 := if k < M.1 ∧ (lay k).1 = ci then some (M.2.1 k j) else none
def gR (M : Mem) (k ci j : Nat) : Option Nat := if k < M.1 ∧ (lay k).1 = ci then M.2.2.1 k j else none
def gL (M : Mem) (k ci j : Nat) : Option Int64 := if k < M.1 ∧ (lay k).1 = ci then some (M.2.2.2 k j) else none
def pI (M : Mem) (k ci j : Nat) (v : Int32) : Option Mem := if k < M.1 ∧ (lay k).1 = ci then some (M.1, up2 M.2.1 k j v, M.2.2.1, M.2.2.2) else none
def pR (M : Mem) (k ci j : Nat) (v : Nat) : Option Mem := if k < M.1 ∧ (lay k).1 = ci then some (M.1, M.2.1, up2 M.2.2.1 k j (some v), M.2.2.2) else none
def pL (M : Mem) (k ci j : Nat) (v : Int64) : Option Mem := if k < M.1 ∧ (lay k).1 = ci then some (M.1, M.2.1, M.2.2.1, up2 M.2.2.2 k j v) else none
def aI (t : Nat) (M : Mem) (k : Nat) (i : Int32) : Option Int32 := if k < M.1 ∧ (lay k).1 = t ∧ ¬ (i < 0 ∨ (lay k).2 ≤ i.toNatClampNeg) then some (M.2.1 k i.toNatClampNeg) else none
def sA (t : Nat) (M : Mem) (k : Nat) (i v : Int32) : Option Mem := if k < M.1 ∧ (lay k).1 = t ∧ ¬ (i < 0 ∨ (lay k).2 ≤ i.toNatClampNeg) then some (M.1, up2 M.2.1 k i.toNatClampNeg v, M.2.2.1, M.2.2.2) else none
def sI (M : Mem) (k : Nat) (i v : Int32) : Option Mem := sA 20 M k i v
def sC (M : Mem) (k : Nat) (i v : Int32) : Option Mem := sA 21 M k i (vp_nar .char v)
def sZ (M : Mem) (k : Nat) (i v : Int32) : Option Mem := sA 22 M k i (vp_nar .boolean v)
def aR (t : Nat) (M : Mem) (k : Nat) (i : Int32) : Option Nat := if k < M.1 ∧ (lay k).1 = t ∧ ¬ (i < 0 ∨ (lay k).2 ≤ i.toNatClampNeg) then M.2.2.1 k i.toNatClampNeg else none
def sR (t ci : Nat) (M : Mem) (k : Nat) (i : Int32) (r : Nat) : Option Mem := if k < M.1 ∧ (lay k).1 = t ∧ r < M.1 ∧ (lay r).1 = ci ∧ ¬ (i < 0 ∨ (lay k).2 ≤ i.toNatClampNeg) then some (M.1, M.2.1, up2 M.2.2.1 k i.toNatClampNeg (some r), M.2.2.2) else none
def aL (t : Nat) (M : Mem) (k : Nat) : Option Int32 := if k < M.1 ∧ (lay k).1 = t then some (Int32.ofNat (lay k).2) else none
def cpI (M : Mem) (k1 : Nat) (sp : Int32) (k2 : Nat) (dp n : Int32) : Option Mem :=
  if k1 < M.1 ∧ (lay k1).1 = 20 ∧ k2 < M.1 ∧ (lay k2).1 = 20 ∧ ¬ sp < 0 ∧ ¬ dp < 0 ∧ ¬ n < 0 ∧ sp.toNatClampNeg + n.toNatClampNeg ≤ (lay k1).2 ∧ dp.toNatClampNeg + n.toNatClampNeg ≤ (lay k2).2
  then some (M.1, upR M.2.1 k2 (va_cpy (M.2.1 k1) (M.2.1 k2) sp.toNatClampNeg dp.toNatClampNeg n.toNatClampNeg), M.2.2.1, M.2.2.2) else none
def nCell (M : Mem) : Mem := (M.1 + 1, upR M.2.1 M.1 (fun _ => 0), upR M.2.2.1 M.1 (fun _ => none), upR M.2.2.2 M.1 (fun _ => 0))
def nO (M : Mem) (ci : Nat) : Option (Nat × Mem) := if (lay M.1).1 = ci then some (M.1, nCell M) else none
def nA (M : Mem) (t : Nat) (n : Int32) : Option (Nat × Mem) := if (lay M.1).1 = t ∧ ¬ n < 0 ∧ n.toNatClampNeg = (lay M.1).2 ∧ (lay M.1).2 ≤ 1000 then some (M.1, nCell M) else none
def cv {α : Type} (M : Mem) (k ci : Nat) (o : Option α) : Option α := if k < M.1 ∧ (lay k).1 = ci then o else none
def dvI (x y : Int32) : Option Int32 := if y = 0 then none else some (x / y)
def rmI (x y : Int32) : Option Int32 := if y = 0 then none else some (x - x / y * y)
def zr (v : Int32) : Option Int32 := if v = 0 ∨ v = 1 then some v else none
theorem ob {α β : Type} {o : Option α} {f : α → Option β} {r : β} (h : o.bind f = some r) : ∃ v, o = some v ∧ f v = some r := by
  cases o with
  | none => cases h
  | some v => exact ⟨v, rfl, h⟩
theorem it {c : Prop} [Decidable c] {α : Type} {a b r : α} (hc : c) (h : (if c then a else b) = r) : a = r := by rw [if_pos hc] at h; exact h
theorem ie {c : Prop} [Decidable c] {α : Type} {a b r : α} (hc : ¬ c) (h : (if c then a else b) = r) : b = r := by rw [if_neg hc] at h; exact h
theorem so {c : Prop} [Decidable c] {α : Type} {a : Option α} {r : α} (h : (if c then a else none) = some r) : c ∧ a = some r := by
  by_cases hc : c
  · exact ⟨hc, it hc h⟩
  · rw [if_neg hc] at h; cases h
def fvl (ad : Nat → Nat) (M : Mem) (t k j : Nat) : Value := if t = 0 then .int (M.2.1 k j) else if t = 1 then va_rf ((M.2.2.1 k j).map ad) else .long (M.2.2.2 k j)
def cel (cA : Nat → ClassId) (ad : Nat → Nat) (M : Mem) (k : Nat) : va_E :=
  if (lay k).1 < 20 then .inr ((lay k).1, (List.range (nf (lay k).1)).map (fun j => fvl ad M (ft (lay k).1 j) k j))
  else if (lay k).1 < 23 then .inl (cA ((lay k).1 - 20), (lay k).2, .inl (M.2.1 k))
  else .inl (cA ((lay k).1 - 20), (lay k).2, .inr (.inr (.inr (.inr (fun i => (M.2.2.1 k i).map ad)))))
def wsM (cA : Nat → ClassId) (ad : Nat → Nat) (M : Mem) : va_W := (List.range M.1).map (fun k => (ad k, cel cA ad M k))
def tysOf (cA : Nat → ClassId) : List (ClassId × FieldType) := [(cA 0, .int), (cA 1, .char), (cA 2, .boolean), (cA 3, .object "TrayTurns$Now"), (cA 4, .object "TrayTurns$GuestKind")]
theorem ws_get {cA : Nat → ClassId} {ad : Nat → Nat} {M : Mem} {k : Nat} (h : k < M.1) : (wsM cA ad M)[k]? = some (ad k, cel cA ad M k) := by
  unfold wsM
  rw [List.getElem?_map, List.getElem?_range h]
  rfl
theorem ws_len {cA : Nat → ClassId} {ad : Nat → Nat} {M : Mem} : (wsM cA ad M).length = M.1 := by simp [wsM]
theorem ws_inv {cA : Nat → ClassId} {ad : Nat → Nat} {M : Mem} {k : Nat} {q : Nat × va_E} (h : (wsM cA ad M)[k]? = some q) : k < M.1 ∧ q = (ad k, cel cA ad M k) := by
  have hl := (List.getElem?_eq_some_iff.mp h).1
  rw [ws_len] at hl
  rw [ws_get hl] at h
  exact ⟨hl, (Option.some.inj h).symm⟩
theorem ws_set {cA : Nat → ClassId} {ad : Nat → Nat} {M M' : Mem} {k : Nat} {e : va_E} (h1 : M'.1 = M.1) (hk : cel cA ad M' k = e) (ho : ∀ j, j ≠ k → cel cA ad M' j = cel cA ad M j) : (wsM cA ad M).set k (ad k, e) = wsM cA ad M' := by
  apply List.ext_getElem?
  intro i
  rw [List.getElem?_set]
  by_cases hi : i < M.1
  · rw [ws_get (M := M') (by rw [h1]; exact hi)]
    by_cases hik : k = i
    · subst hik
      rw [if_pos rfl, if_pos (by rw [ws_len]; exact hi), hk]
    · rw [if_neg hik, ws_get hi, ho i (fun q => hik q.symm)]
  · have e1 : (wsM cA ad M')[i]? = none := by rw [List.getElem?_eq_none]; rw [ws_len, h1]; omega
    rw [e1]
    by_cases hik : k = i
    · subst hik
      rw [if_pos rfl, if_neg (by rw [ws_len]; exact hi)]
    · rw [if_neg hik, List.getElem?_eq_none]; rw [ws_len]; omega
theorem cel_o {cA : Nat → ClassId} {ad : Nat → Nat} {M : Mem} {k ci : Nat} (h : (lay k).1 = ci) (hc : ci < 20) : cel cA ad M k = .inr (ci, (List.range (nf ci)).map (fun j => fvl ad M (ft ci j) k j)) := by
  unfold cel; rw [h, if_pos hc]
theorem cel_i {cA : Nat → ClassId} {ad : Nat → Nat} {M : Mem} {k t : Nat} (h : (lay k).1 = t) (h1 : ¬ t < 20) (h2 : t < 23) : cel cA ad M k = .inl (cA (t - 20), (lay k).2, .inl (M.2.1 k)) := by
  unfold cel; rw [h, if_neg h1, if_pos h2]
theorem cel_r {cA : Nat → ClassId} {ad : Nat → Nat} {M : Mem} {k t : Nat} (h : (lay k).1 = t) (h2 : ¬ t < 23) : cel cA ad M k = .inl (cA (t - 20), (lay k).2, .inr (.inr (.inr (.inr (fun i => (M.2.2.1 k i).map ad))))) := by
  unfold cel; rw [h, if_neg (by omega), if_neg h2]
def AdOk (ad : Nat → Nat) (A : Nat → Prop) : Prop := (∀ i j, ad i = ad j → i = j) ∧ ∀ k, A (ad k)
theorem ws_D {cA : Nat → ClassId} {ad : Nat → Nat} {A : Nat → Prop} {M : Mem} (h : AdOk ad A) : va_D A (wsM cA ad M) := by
  refine ⟨fun i j p q hp hq e => ?_, fun k q hq => ?_⟩
  · obtain ⟨-, rfl⟩ := ws_inv hp
    obtain ⟨-, rfl⟩ := ws_inv hq
    exact h.1 i j e
  · obtain ⟨-, rfl⟩ := ws_inv hq
    exact h.2 k
/-- the world at a point of a walk: the memory M lies in the heap H; since the entry nothing outside A has changed -/
def Wd (D : va_G) (cA : Nat → ClassId) (ad : Nat → Nat) (A : Nat → Prop) (s : State) (M : Mem) (H : Heap) (locs : List Loc) : Prop := va_P D vwCl (wsM cA ad M) H ∧ va_S A s.heap H locs
/-- a class by its number -/
def CF (ci : Nat) (C : String) (T : u_T) (N : Nat) (ty : Nat → FieldType) : Prop := vwCl[ci]? = some (C, T, N) ∧ (∀ w ∈ u_ws C T N, w ∈ tblG) ∧ (∀ k, k < N → parseFieldDescriptor (T k).2.2.1 = some (ty k)) ∧ (∀ a, a < N → ∀ b, b < N → a ≠ b → (T a).2.1 ≠ (T b).2.1) ∧ nf ci = N ∧ ci < 20
def rmD (d : Nat) : Room := { frames := d, cells := 0, slots := 0, locals := 32 * d }
abbrev wd (y : MethodName) (bytes : ByteArray) (maxL : Nat) (ret : Option FieldType) : List Cond := Cond.code y bytes maxL ret :: tblG
def PcW (D : va_G) (cA : Nat → ClassId) (ad : Nat → Nat) (av : List Value) (M : Mem) : Array Value → State → Prop := va_Pc av (fun U => va_P D vwCl (wsM cA ad M) U.heap ∧ va_K D vwCl (tysOf cA) U)
def QI (D : va_G) (cA : Nat → ClassId) (ad : Nat → Nat) (A : Nat → Prop) (r : Int32) (M : Mem) : Array Value → State → Outcome → State → Prop := va_Qi (fun (x : Int32) (_ : Unit) => x = r) (fun _ t => va_P D vwCl (wsM cA ad M) t.heap) A
def QL (D : va_G) (cA : Nat → ClassId) (ad : Nat → Nat) (A : Nat → Prop) (r : Int64) (M : Mem) : Array Value → State → Outcome → State → Prop := va_Ql (fun (x : Int64) (_ : Unit) => x = r) (fun _ t => va_P D vwCl (wsM cA ad M) t.heap) A
def QV (D : va_G) (cA : Nat → ClassId) (ad : Nat → Nat) (A : Nat → Prop) (M : Mem) : Array Value → State → Outcome → State → Prop := va_Qv (fun (_ : Unit) => True) (fun _ t => va_P D vwCl (wsM cA ad M) t.heap) A
def QR (D : va_G) (cA : Nat → ClassId) (ad : Nat → Nat) (A : Nat → Prop) (r : Nat) (M : Mem) : Array Value → State → Outcome → State → Prop := va_Qr (fun (_ : Unit) => True) (fun _ a t => a = ad r ∧ va_P D vwCl (wsM cA ad M) t.heap) A
/-- what the tables say of a method that is called: on an object, or static -/
def MY (y : MethodName) (bytes : ByteArray) (maxL : Nat) (ret : Option FieldType) (n : Nat) : Prop := Cond.code y bytes maxL ret ∈ tblG ∧ Cond.initialized y.cls ∈ tblG ∧ (y.cls ≠ "java/lang/invoke/MethodHandle" ∧ y.cls ≠ "java/lang/invoke/VarHandle" ∧ (parseMethodDescriptor y.desc).map (fun d => d.parameters.length) = some n)
theorem gd {y : MethodName} {bytes : ByteArray} {maxL : Nat} {ret : Option FieldType} (h : Cond.code y bytes maxL ret ∈ tblG) : GoodIn tblG (wd y bytes maxL ret) := by
  intro w hw
  rcases List.mem_cons.mp hw with rfl | hw
  · exact ⟨h, good_of_word (List.mem_filter.mp h).2⟩
  · exact ⟨hw, good_of_word (List.mem_filter.mp hw).2⟩
theorem tb {args : Array Value} {s : State} {w0 : Cond} (h : ∀ w ∈ w0 :: tblG, w.before args s = true) : ∀ w ∈ tblG, w.before args s = true := fun v hv => h v (List.mem_cons_of_mem _ hv)
section RW
variable {p : Program} {l : Launch} {e : Env} {R : Room} {s : State} {m : MethodId} {args : Array Value} {below : List Frame} {meth : Method} {c : Code} {H : Heap} {locs : List Loc} {cells slots : Nat} {Q : State → Prop}
variable {cc : ByteArray} {pc nL : Nat} {ls : Array Slot} {rest : List Value} {D : va_G} {cA : Nat → ClassId} {ad : Nat → Nat} {A : Nat → Prop} {own : String} {M M' : Mem}
theorem fv_get {ci j N : Nat} {k : Nat} (hn : nf ci = N) (hj : j < N) : ((List.range (nf ci)).map (fun j => fvl ad M (ft ci j) k j))[j]? = some (fvl ad M (ft ci j) k j) := by
  rw [List.getElem?_map, List.getElem?_range (by rw [hn]; exact hj)]
  rfl
theorem fv_set {ci j N : Nat} {k : Nat} {v : Value} (hn : nf ci = N) (hj : j < N) (hv : fvl ad M' (ft ci j) k j = v) (ho : ∀ i, i ≠ j → fvl ad M' (ft ci i) k i = fvl ad M (ft ci i) k i) : ((List.range (nf ci)).map (fun j => fvl ad M' (ft ci j) k j)) = ((List.range (nf ci)).map (fun j => fvl ad M (ft ci j) k j)).set j v := by
  apply List.ext_getElem?
  intro i
  rw [List.getElem?_set]
  by_cases hi : i < N
  · rw [fv_get (M := M') hn hi]
    by_cases hij : j = i
    · subst hij
      rw [if_pos rfl, if_pos (by simp [hn, hj]), hv]
    · rw [if_neg hij, fv_get hn hi, ho i (fun q => hij q.symm)]
  · have e1 : ∀ (M : Mem), ((List.range (nf ci)).map (fun j => fvl ad M (ft ci j) k j))[i]? = none := fun M => by rw [List.getElem?_eq_none]; simp [hn]; omega
    rw [e1 M', if_neg (by omega), e1 M]
theorem r_gI {C : String} {T : u_T} {N ci j index k : Nat} {ty : Nat → FieldType} {v : Int32} (hC : CallFix p m c cc nL s args tblG own) (hK : va_K D vwCl (tysOf cA) s) (hW : Wd D cA ad A s M H locs) (cf : CF ci C T N ty) (hj : j < N) (hlink : Cond.fieldLink own index (T j).1 (T j).2.1 (T j).2.2.1 ∈ tblG) (hft : ft ci j = 0) (hg : gI M k ci j = some v) (hdg : decode cc pc = .ok (.getfield index, 3))
    (kk : W p l e R s m args below meth c H locs cells slots Q (F0 m (pc + 3) ls (.int v :: rest))) : W p l e R s m args below meth c H locs cells slots Q (F0 m pc ls (.ref (ad k) :: rest)) := by
  obtain ⟨⟨h1, h2⟩, h3⟩ := so hg
  have he := ws_get (cA := cA) (ad := ad) h1
  rw [cel_o h2 cf.2.2.2.2.2] at he
  refine va_get hC.1 hC.2.1 hC.2.2.2.2 cf.2.1 hC.2.2.2.1 hK hW.1 k he cf.1 j hj (hC.2.2.2.2 _ hlink) (fun _ h => h) (fv_get cf.2.2.2.2.1 hj) hdg ?_
  rw [hft]
  have h4 : M.2.1 k j = v := Option.some.inj h3
  simpa [fvl, h4] using kk
theorem r_gL {C : String} {T : u_T} {N ci j index k : Nat} {ty : Nat → FieldType} {v : Int64} (hC : CallFix p m c cc nL s args tblG own) (hK : va_K D vwCl (tysOf cA) s) (hW : Wd D cA ad A s M H locs) (cf : CF ci C T N ty) (hj : j < N) (hlink : Cond.fieldLink own index (T j).1 (T j).2.1 (T j).2.2.1 ∈ tblG) (hft : ft ci j = 2) (hg : gL M k ci j = some v) (hdg : decode cc pc = .ok (.getfield index, 3))
    (kk : W p l e R s m args below meth c H locs cells slots Q (F0 m (pc + 3) ls (.long v :: rest))) : W p l e R s m args below meth c H locs cells slots Q (F0 m pc ls (.ref (ad k) :: rest)) := by
  obtain ⟨⟨h1, h2⟩, h3⟩ := so hg
  have he := ws_get (cA := cA) (ad := ad) h1
  rw [cel_o h2 cf.2.2.2.2.2] at he
  refine va_get hC.1 hC.2.1 hC.2.2.2.2 cf.2.1 hC.2.2.2.1 hK hW.1 k he cf.1 j hj (hC.2.2.2.2 _ hlink) (fun _ h => h) (fv_get cf.2.2.2.2.1 hj) hdg ?_
  rw [hft]
  have h4 : M.2.2.2 k j = v := Option.some.inj h3
  simpa [fvl, h4] using kk
theorem r_gR {C : String} {T : u_T} {N ci j index k : Nat} {ty : Nat → FieldType} {v : Nat} (hC : CallFix p m c cc nL s args tblG own) (hK : va_K D vwCl (tysOf cA) s) (hW : Wd D cA ad A s M H locs) (cf : CF ci C T N ty) (hj : j < N) (hlink : Cond.fieldLink own index (T j).1 (T j).2.1 (T j).2.2.1 ∈ tblG) (hft : ft ci j = 1) (hg : gR M k ci j = some v) (hdg : decode cc pc = .ok (.getfield index, 3))
    (kk : W p l e R s m args below meth c H locs cells slots Q (F0 m (pc + 3) ls (.ref (ad v) :: rest))) : W p l e R s m args below meth c H locs cells slots Q (F0 m pc ls (.ref (ad k) :: rest)) := by
  obtain ⟨⟨h1, h2⟩, h3⟩ := so hg
  have he := ws_get (cA := cA) (ad := ad) h1
  rw [cel_o h2 cf.2.2.2.2.2] at he
  refine va_get hC.1 hC.2.1 hC.2.2.2.2 cf.2.1 hC.2.2.2.1 hK hW.1 k he cf.1 j hj (hC.2.2.2.2 _ hlink) (fun _ h => h) (fv_get cf.2.2.2.2.1 hj) hdg ?_
  rw [hft]
  simpa [fvl, h3, va_rf] using kk
theorem cel_up {M M' : Mem} {k : Nat} (h1 : ∀ j, j ≠ k → M'.2.1 j = M.2.1 j) (h2 : ∀ j, j ≠ k → M'.2.2.1 j = M.2.2.1 j) (h3 : ∀ j, j ≠ k → M'.2.2.2 j = M.2.2.2 j) : ∀ j, j ≠ k → cel cA ad M' j = cel cA ad M j := by
  intro j hj
  unfold cel fvl
  rw [h1 j hj, h2 j hj, h3 j hj]
theorem up2_o {α : Type} {f : Nat → Nat → α} {k j i : Nat} {v : α} (h : i ≠ k) : up2 f k j v i = f i := by
  funext b; unfold up2; rw [if_neg (fun q => h q.1)]
theorem up2_s {α : Type} {f : Nat → Nat → α} {k j : Nat} {v : α} : up2 f k j v k j = v := by unfold up2; rw [if_pos ⟨rfl, rfl⟩]
theorem up2_n {α : Type} {f : Nat → Nat → α} {k j i : Nat} {v : α} (h : i ≠ j) : up2 f k j v k i = f k i := by unfold up2; rw [if_neg (fun q => h q.2)]
theorem upR_o {α : Type} {f : Nat → Nat → α} {k i : Nat} {r : Nat → α} (h : i ≠ k) : upR f k r i = f i := by
  funext b; unfold upR; rw [if_neg h]
theorem upR_s {α : Type} {f : Nat → Nat → α} {k : Nat} {r : Nat → α} : upR f k r k = r := by
  funext b; unfold upR; rw [if_pos rfl]
theorem up2_row {f : Nat → Nat → Int32} {k j : Nat} {v : Int32} : up2 f k j v k = upd (f k) j v := by
  funext b; unfold up2 upd
  by_cases h : b = j
  · rw [if_pos ⟨rfl, h⟩, if_pos h]
  · rw [if_neg (fun q => h q.2), if_neg h]
theorem r_pI {C : String} {T : u_T} {N ci j index k : Nat} {ty : Nat → FieldType} {v : Int32} (hC : CallFix p m c cc nL s args tblG own) (hK : va_K D vwCl (tysOf cA) s) (hAd : AdOk ad A) (hW : Wd D cA ad A s M H locs) (cf : CF ci C T N ty) (hj : j < N) (hlink : Cond.fieldLink own index (T j).1 (T j).2.1 (T j).2.2.1 ∈ tblG) (hft : ft ci j = 0) (hfin : (T j).2.2.2 = false) (hty : ty j = .int) (hg : pI M k ci j v = some M') (hdg : decode cc pc = .ok (.putfield index, 3))
    (kk : ∀ (H1 : Heap) (locs1 : List Loc), Wd D cA ad A s M' H1 locs1 → W p l e R s m args below meth c H1 locs1 cells slots Q (F0 m (pc + 3) ls rest)) : W p l e R s m args below meth c H locs cells slots Q (F0 m pc ls (.int v :: .ref (ad k) :: rest)) := by
  obtain ⟨⟨h1, h2⟩, h3⟩ := so hg
  have he := ws_get (cA := cA) (ad := ad) h1
  rw [cel_o h2 cf.2.2.2.2.2] at he
  have hM : (M.1, up2 M.2.1 k j v, M.2.2.1, M.2.2.2) = M' := Option.some.inj h3
  refine va_put hC.1 hC.2.1 hC.2.2.2.2 cf.2.1 ty cf.2.2.1 cf.2.2.2.1 hC.2.2.2.1 hK hW.1 (ws_D hAd) hW.2 k he cf.1 j hj (hC.2.2.2.2 _ hlink) (fun _ h => h) hfin (ty := .int) (by rw [cf.2.2.1 j hj, hty]) rfl rfl (by simp [cf.2.2.2.2.1]; exact hj) hdg (fun H1 locs1 hP1 _ hS1 => kk H1 locs1 ⟨?_, hS1⟩)
  rw [ws_set (M' := M') (by rw [← hM]) ?_ ?_] at hP1
  · exact hP1
  · rw [cel_o h2 cf.2.2.2.2.2, fv_set (M := M) (v := .int v) cf.2.2.2.2.1 hj]
    · rw [hft, ← hM]; simp [fvl, up2_s]
    · intro i hi; rw [← hM]; simp [fvl, up2_n hi]
  · rw [← hM]; exact cel_up (fun j hj => up2_o hj) (fun _ _ => rfl) (fun _ _ => rfl)
theorem r_pL {C : String} {T : u_T} {N ci j index k : Nat} {ty : Nat → FieldType} {v : Int64} (hC : CallFix p m c cc nL s args tblG own) (hK : va_K D vwCl (tysOf cA) s) (hAd : AdOk ad A) (hW : Wd D cA ad A s M H locs) (cf : CF ci C T N ty) (hj : j < N) (hlink : Cond.fieldLink own index (T j).1 (T j).2.1 (T j).2.2.1 ∈ tblG) (hft : ft ci j = 2) (hfin : (T j).2.2.2 = false) (hty : ty j = .long) (hg : pL M k ci j v = some M') (hdg : decode cc pc = .ok (.putfield index, 3))
    (kk : ∀ (H1 : Heap) (locs1 : List Loc), Wd D cA ad A s M' H1 locs1 → W p l e R s m args below meth c H1 locs1 cells slots Q (F0 m (pc + 3) ls rest)) : W p l e R s m args below meth c H locs cells slots Q (F0 m pc ls (.long v :: .ref (ad k) :: rest)) := by
  obtain ⟨⟨h1, h2⟩, h3⟩ := so hg
  have he := ws_get (cA := cA) (ad := ad) h1
  rw [cel_o h2 cf.2.2.2.2.2] at he
  have hM : (M.1, M.2.1, M.2.2.1, up2 M.2.2.2 k j v) = M' := Option.some.inj h3
  refine va_put hC.1 hC.2.1 hC.2.2.2.2 cf.2.1 ty cf.2.2.1 cf.2.2.2.1 hC.2.2.2.1 hK hW.1 (ws_D hAd) hW.2 k he cf.1 j hj (hC.2.2.2.2 _ hlink) (fun _ h => h) hfin (ty := .long) (by rw [cf.2.2.1 j hj, hty]) rfl rfl (by simp [cf.2.2.2.2.1]; exact hj) hdg (fun H1 locs1 hP1 _ hS1 => kk H1 locs1 ⟨?_, hS1⟩)
  rw [ws_set (M' := M') (by rw [← hM]) ?_ ?_] at hP1
  · exact hP1
  · rw [cel_o h2 cf.2.2.2.2.2, fv_set (M := M) (v := .long v) cf.2.2.2.2.1 hj]
    · rw [hft, ← hM]; simp [fvl, up2_s]
    · intro i hi; rw [← hM]; simp [fvl, up2_n hi]
  · rw [← hM]; exact cel_up (fun _ _ => rfl) (fun _ _ => rfl) (fun j hj => up2_o hj)
theorem r_pR {C O : String} {T : u_T} {N ci j index k : Nat} {ty : Nat → FieldType} {v : Nat} (hC : CallFix p m c cc nL s args tblG own) (hK : va_K D vwCl (tysOf cA) s) (hAd : AdOk ad A) (hW : Wd D cA ad A s M H locs) (cf : CF ci C T N ty) (hj : j < N) (hlink : Cond.fieldLink own index (T j).1 (T j).2.1 (T j).2.2.1 ∈ tblG) (hft : ft ci j = 1) (hfin : (T j).2.2.2 = false) (hty : ty j = .object O) (hg : pR M k ci j v = some M') (hdg : decode cc pc = .ok (.putfield index, 3))
    (kk : ∀ (H1 : Heap) (locs1 : List Loc), Wd D cA ad A s M' H1 locs1 → W p l e R s m args below meth c H1 locs1 cells slots Q (F0 m (pc + 3) ls rest)) : W p l e R s m args below meth c H locs cells slots Q (F0 m pc ls (.ref (ad v) :: .ref (ad k) :: rest)) := by
  obtain ⟨⟨h1, h2⟩, h3⟩ := so hg
  have he := ws_get (cA := cA) (ad := ad) h1
  rw [cel_o h2 cf.2.2.2.2.2] at he
  have hM : (M.1, M.2.1, up2 M.2.2.1 k j (some v), M.2.2.2) = M' := Option.some.inj h3
  refine va_put hC.1 hC.2.1 hC.2.2.2.2 cf.2.1 ty cf.2.2.1 cf.2.2.2.1 hC.2.2.2.1 hK hW.1 (ws_D hAd) hW.2 k he cf.1 j hj (hC.2.2.2.2 _ hlink) (fun _ h => h) hfin (ty := .object O) (by rw [cf.2.2.1 j hj, hty]) rfl rfl (by simp [cf.2.2.2.2.1]; exact hj) hdg (fun H1 locs1 hP1 _ hS1 => kk H1 locs1 ⟨?_, hS1⟩)
  rw [ws_set (M' := M') (by rw [← hM]) ?_ ?_] at hP1
  · exact hP1
  · rw [cel_o h2 cf.2.2.2.2.2, fv_set (M := M) (v := .ref (ad v)) cf.2.2.2.2.1 hj]
    · rw [hft, ← hM]; simp [fvl, up2_s, va_rf]
    · intro i hi; rw [← hM]; simp [fvl, up2_n hi]
  · rw [← hM]; exact cel_up (fun _ _ => rfl) (fun j hj => up2_o hj) (fun _ _ => rfl)
theorem r_aI {k : Nat} {i v : Int32} (hC : CallFix p m c cc nL s args tblG own) (hK : va_K D vwCl (tysOf cA) s) (hW : Wd D cA ad A s M H locs) (hg : aI 20 M k i = some v) (hdg : decode cc pc = .ok (.iaload, 1))
    (kk : W p l e R s m args below meth c H locs cells slots Q (F0 m (pc + 1) ls (.int v :: rest))) : W p l e R s m args below meth c H locs cells slots Q (F0 m pc ls (.int i :: .ref (ad k) :: rest)) := by
  obtain ⟨⟨h1, h2, h3⟩, h4⟩ := so hg
  have he := ws_get (cA := cA) (ad := ad) h1
  rw [cel_i h2 (by decide) (by decide)] at he
  refine va_iald hC.1 hC.2.1 hK hW.1 k 0 he rfl h3 hdg ?_
  rw [Option.some.inj h4]
  exact kk
theorem r_aC {k : Nat} {i v : Int32} (hC : CallFix p m c cc nL s args tblG own) (hK : va_K D vwCl (tysOf cA) s) (hW : Wd D cA ad A s M H locs) (hg : aI 21 M k i = some v) (hdg : decode cc pc = .ok (.caload, 1))
    (kk : W p l e R s m args below meth c H locs cells slots Q (F0 m (pc + 1) ls (.int v :: rest))) : W p l e R s m args below meth c H locs cells slots Q (F0 m pc ls (.int i :: .ref (ad k) :: rest)) := by
  obtain ⟨⟨h1, h2, h3⟩, h4⟩ := so hg
  have he := ws_get (cA := cA) (ad := ad) h1
  rw [cel_i h2 (by decide) (by decide)] at he
  refine va_cald hC.1 hC.2.1 hK hW.1 k 1 he rfl h3 hdg ?_
  rw [Option.some.inj h4]
  exact kk
theorem r_aZ {k : Nat} {i v : Int32} (hC : CallFix p m c cc nL s args tblG own) (hK : va_K D vwCl (tysOf cA) s) (hW : Wd D cA ad A s M H locs) (hg : aI 22 M k i = some v) (hdg : decode cc pc = .ok (.baload, 1))
    (kk : W p l e R s m args below meth c H locs cells slots Q (F0 m (pc + 1) ls (.int v :: rest))) : W p l e R s m args below meth c H locs cells slots Q (F0 m pc ls (.int i :: .ref (ad k) :: rest)) := by
  obtain ⟨⟨h1, h2, h3⟩, h4⟩ := so hg
  have he := ws_get (cA := cA) (ad := ad) h1
  rw [cel_i h2 (by decide) (by decide)] at he
  refine va_zald hC.1 hC.2.1 hK hW.1 k 2 he rfl h3 hdg ?_
  rw [Option.some.inj h4]
  exact kk
theorem sA_ws {t k : Nat} {i v : Int32} (hg : sA t M k i v = some M') (h1 : ¬ t < 20) (h2 : t < 23) {H1 : Heap} (hP1 : va_P D vwCl ((wsM cA ad M).set k (ad k, .inl (cA (t - 20), (lay k).2, .inl (upd (M.2.1 k) i.toNatClampNeg v)))) H1) : va_P D vwCl (wsM cA ad M') H1 := by
  obtain ⟨⟨g1, g2, g3⟩, g4⟩ := so hg
  have hM : (M.1, up2 M.2.1 k i.toNatClampNeg v, M.2.2.1, M.2.2.2) = M' := Option.some.inj g4
  rw [ws_set (M' := M') (by rw [← hM]) ?_ ?_] at hP1
  · exact hP1
  · rw [cel_i g2 h1 h2, ← hM]; simp only [up2_row]
  · rw [← hM]; exact cel_up (fun j hj => up2_o hj) (fun _ _ => rfl) (fun _ _ => rfl)
theorem r_sI {k : Nat} {i v : Int32} (hC : CallFix p m c cc nL s args tblG own) (hK : va_K D vwCl (tysOf cA) s) (hAd : AdOk ad A) (hW : Wd D cA ad A s M H locs) (hg : sI M k i v = some M') (hdg : decode cc pc = .ok (.iastore, 1))
    (kk : ∀ (H1 : Heap) (locs1 : List Loc), Wd D cA ad A s M' H1 locs1 → W p l e R s m args below meth c H1 locs1 cells slots Q (F0 m (pc + 1) ls rest)) : W p l e R s m args below meth c H locs cells slots Q (F0 m pc ls (.int v :: .int i :: .ref (ad k) :: rest)) := by
  obtain ⟨⟨h1, h2, h3⟩, h4⟩ := so hg
  have he := ws_get (cA := cA) (ad := ad) h1
  rw [cel_i h2 (by decide) (by decide)] at he
  exact va_iast hC.1 hC.2.1 hK hW.1 (ws_D hAd) hW.2 k 0 he rfl h3 hdg (fun H1 locs1 hP1 _ hS1 => kk H1 locs1 ⟨sA_ws hg (by decide) (by decide) hP1, hS1⟩)
theorem r_sC {k : Nat} {i v : Int32} (hC : CallFix p m c cc nL s args tblG own) (hK : va_K D vwCl (tysOf cA) s) (hAd : AdOk ad A) (hW : Wd D cA ad A s M H locs) (hg : sC M k i v = some M') (hdg : decode cc pc = .ok (.castore, 1))
    (kk : ∀ (H1 : Heap) (locs1 : List Loc), Wd D cA ad A s M' H1 locs1 → W p l e R s m args below meth c H1 locs1 cells slots Q (F0 m (pc + 1) ls rest)) : W p l e R s m args below meth c H locs cells slots Q (F0 m pc ls (.int v :: .int i :: .ref (ad k) :: rest)) := by
  obtain ⟨⟨h1, h2, h3⟩, h4⟩ := so hg
  have he := ws_get (cA := cA) (ad := ad) h1
  rw [cel_i h2 (by decide) (by decide)] at he
  exact va_cast hC.1 hC.2.1 hK hW.1 (ws_D hAd) hW.2 k 1 he rfl h3 hdg (fun H1 locs1 hP1 _ hS1 => kk H1 locs1 ⟨sA_ws hg (by decide) (by decide) hP1, hS1⟩)
theorem r_sZ {k : Nat} {i v : Int32} (hC : CallFix p m c cc nL s args tblG own) (hK : va_K D vwCl (tysOf cA) s) (hAd : AdOk ad A) (hW : Wd D cA ad A s M H locs) (hg : sZ M k i v = some M') (hdg : decode cc pc = .ok (.bastore, 1))
    (kk : ∀ (H1 : Heap) (locs1 : List Loc), Wd D cA ad A s M' H1 locs1 → W p l e R s m args below meth c H1 locs1 cells slots Q (F0 m (pc + 1) ls rest)) : W p l e R s m args below meth c H locs cells slots Q (F0 m pc ls (.int v :: .int i :: .ref (ad k) :: rest)) := by
  obtain ⟨⟨h1, h2, h3⟩, h4⟩ := so hg
  have he := ws_get (cA := cA) (ad := ad) h1
  rw [cel_i h2 (by decide) (by decide)] at he
  exact va_zast hC.1 hC.2.1 hK hW.1 (ws_D hAd) hW.2 k 2 he rfl h3 hdg (fun H1 locs1 hP1 _ hS1 => kk H1 locs1 ⟨sA_ws hg (by decide) (by decide) hP1, hS1⟩)
theorem r_aR {t k v : Nat} {i : Int32} (hC : CallFix p m c cc nL s args tblG own) (hK : va_K D vwCl (tysOf cA) s) (hW : Wd D cA ad A s M H locs) (ht : t = 23 ∨ t = 24) (hg : aR t M k i = some v) (hdg : decode cc pc = .ok (.aaload, 1))
    (kk : W p l e R s m args below meth c H locs cells slots Q (F0 m (pc + 1) ls (.ref (ad v) :: rest))) : W p l e R s m args below meth c H locs cells slots Q (F0 m pc ls (.int i :: .ref (ad k) :: rest)) := by
  obtain ⟨⟨h1, h2, h3⟩, h4⟩ := so hg
  have he := ws_get (cA := cA) (ad := ad) h1
  rcases ht with rfl | rfl
  · rw [cel_r h2 (by decide)] at he
    refine va_aldq (C := "TrayTurns$Now") hC.1 hC.2.1 hK hW.1 k 3 he rfl h3 hdg ?_
    rw [h4]
    exact kk
  · rw [cel_r h2 (by decide)] at he
    refine va_aldq (C := "TrayTurns$GuestKind") hC.1 hC.2.1 hK hW.1 k 4 he rfl h3 hdg ?_
    rw [h4]
    exact kk
theorem r_sR {k r : Nat} {i : Int32} (hC : CallFix p m c cc nL s args tblG own) (hK : va_K D vwCl (tysOf cA) s) (hAd : AdOk ad A) (hW : Wd D cA ad A s M H locs) (hg : sR 23 7 M k i r = some M') (hdg : decode cc pc = .ok (.aastore, 1))
    (kk : ∀ (H1 : Heap) (locs1 : List Loc), Wd D cA ad A s M' H1 locs1 → W p l e R s m args below meth c H1 locs1 cells slots Q (F0 m (pc + 1) ls rest)) : W p l e R s m args below meth c H locs cells slots Q (F0 m pc ls (.ref (ad r) :: .int i :: .ref (ad k) :: rest)) := by
  obtain ⟨⟨h1, h2, h5, h6, h3⟩, h4⟩ := so hg
  have he := ws_get (cA := cA) (ad := ad) h1
  have hr := ws_get (cA := cA) (ad := ad) h5
  rw [cel_r h2 (by decide)] at he
  rw [cel_o h6 (by decide)] at hr
  have hM : (M.1, M.2.1, up2 M.2.2.1 k i.toNatClampNeg (some r), M.2.2.2) = M' := Option.some.inj h4
  refine va_astq (r := (RX7, TX7, 5)) hC.1 hC.2.1 hK hW.1 (ws_D hAd) hW.2 k 3 r 7 he rfl hr rfl h3 hdg (fun H1 locs1 hP1 _ hS1 => kk H1 locs1 ⟨?_, hS1⟩)
  rw [ws_set (M' := M') (by rw [← hM]) ?_ ?_] at hP1
  · exact hP1
  · rw [cel_r h2 (by decide), ← hM]
    congr 7
    funext q
    by_cases hq : q = i.toNatClampNeg
    · subst hq; simp [va_up, up2]
    · simp [va_up, up2, hq]
  · rw [← hM]; exact cel_up (fun _ _ => rfl) (fun j hj => up2_o hj) (fun _ _ => rfl)
theorem r_aL {k : Nat} {v : Int32} (hC : CallFix p m c cc nL s args tblG own) (hK : va_K D vwCl (tysOf cA) s) (hW : Wd D cA ad A s M H locs) (hg : aL 20 M k = some v) (hdg : decode cc pc = .ok (.arraylength, 1))
    (kk : W p l e R s m args below meth c H locs cells slots Q (F0 m (pc + 1) ls (.int v :: rest))) : W p l e R s m args below meth c H locs cells slots Q (F0 m pc ls (.ref (ad k) :: rest)) := by
  obtain ⟨⟨h1, h2⟩, h4⟩ := so hg
  have he := ws_get (cA := cA) (ad := ad) h1
  rw [cel_i h2 (by decide) (by decide)] at he
  exact va_alen hC.1 hC.2.1 hK hW.1 k 0 he rfl (Option.some.inj h4) hdg kk
theorem r_cp {k1 k2 index d : Nat} {sp dp n : Int32} (hC : CallFix p m c cc nL s args tblG own) (hK : va_K D vwCl (tysOf cA) s) (hAd : AdOk ad A) (hW : Wd D cA ad A s M H locs) (hlink : Cond.methodLink own index arraycopyName ∈ tblG) (hl : ls.size = nL) (hg : cpI M k1 sp k2 dp n = some M') (hdg : decode cc pc = .ok (.invokestatic index, 3))
    (kk : ∀ (H1 : Heap) (locs1 : List Loc), Wd D cA ad A s M' H1 locs1 → W p l e (rmD (d + 1)) s m args below meth c H1 locs1 cells slots Q (F0 m (pc + 3) ls [])) : W p l e (rmD (d + 1)) s m args below meth c H locs cells slots Q (F0 m pc ls (.int n :: .int dp :: .ref (ad k2) :: .int sp :: .ref (ad k1) :: [])) := by
  obtain ⟨⟨h1, h2, h3, h4, h5, h6, h7, h8, h9⟩, h10⟩ := so hg
  have he1 := ws_get (cA := cA) (ad := ad) h1
  have he2 := ws_get (cA := cA) (ad := ad) h3
  rw [cel_i h2 (by decide) (by decide)] at he1
  rw [cel_i h4 (by decide) (by decide)] at he2
  have hM := Option.some.inj h10
  refine va_copyi hC.1 hC.2.1 (by rw [hC.2.2.1, hl]) hC.2.2.2.1 (hC.2.2.2.2 _ hlink) (hC.2.2.2.2 _ w_nat_copy) (hC.2.2.2.2 _ w_st_copy) (hC.2.2.2.2 _ w_in_sys) hK hW.1 (ws_D hAd) hW.2 k1 k2 0 0 he1 he2 rfl rfl rfl h5 h6 h7 h8 h9 (fun _ _ => rfl) (Nat.le_add_left 1 d) ?_ hdg (fun H1 locs1 hP1 _ hS1 => kk H1 locs1 ⟨?_, hS1⟩)
  · have h20 : nativeFrameWords "java/lang/System" "arraycopy" 5 + 11 ≤ 32 := by decide
    show _ ≤ 32 * (d + 1)
    simp only [List.map_nil, List.sum_nil]
    omega
  · rw [ws_set (M' := M') (by rw [← hM]) ?_ ?_] at hP1
    · exact hP1
    · rw [cel_i h4 (by decide) (by decide), ← hM]; simp only [upR_s]
    · rw [← hM]; exact cel_up (fun j hj => upR_o hj) (fun _ _ => rfl) (fun _ _ => rfl)
theorem r_min {index d : Nat} {x y : Int32} (hC : CallFix p m c cc nL s args tblG own) (hlink : Cond.methodLink own index Lib.Math.min.name ∈ tblG) (hl : ls.size = nL) (hr : (rest.map fun v => v.category).sum ≤ 8) (hc : cells = 0) (hs : slots = 0) (hdg : decode cc pc = .ok (.invokestatic index, 3))
    (kk : W p l e (rmD (d + 1)) s m args below meth c H locs cells slots Q (F0 m (pc + 3) ls (.int (if y < x then y else x) :: rest))) : W p l e (rmD (d + 1)) s m args below meth c H locs cells slots Q (F0 m pc ls (.int y :: .int x :: rest)) :=
  va_mmin hC.1 hC.2.1 (by rw [hC.2.2.1, hl]) hC.2.2.2.1 (hC.2.2.2.2 _ hlink) (hC.2.2.2.2 _ w_st_min) (hC.2.2.2.2 _ w_in_math) (hC.2.2.2.2 _ w_cd_min) (Nat.le_add_left 1 d) (by show _ ≤ 32 * (d + 1); omega) (by rw [hc]; exact Nat.zero_le _) (by rw [hs]; exact Nat.zero_le _) hdg kk
theorem r_max {index d : Nat} {x y : Int32} (hC : CallFix p m c cc nL s args tblG own) (hlink : Cond.methodLink own index Lib.Math.max.name ∈ tblG) (hl : ls.size = nL) (hr : (rest.map fun v => v.category).sum ≤ 8) (hc : cells = 0) (hs : slots = 0) (hdg : decode cc pc = .ok (.invokestatic index, 3))
    (kk : W p l e (rmD (d + 1)) s m args below meth c H locs cells slots Q (F0 m (pc + 3) ls (.int (if x < y then y else x) :: rest))) : W p l e (rmD (d + 1)) s m args below meth c H locs cells slots Q (F0 m pc ls (.int y :: .int x :: rest)) :=
  va_mmax hC.1 hC.2.1 (by rw [hC.2.2.1, hl]) hC.2.2.2.1 (hC.2.2.2.2 _ hlink) (hC.2.2.2.2 _ w_st_max) (hC.2.2.2.2 _ w_in_math) (hC.2.2.2.2 _ w_cd_max) (Nat.le_add_left 1 d) (by show _ ≤ 32 * (d + 1); omega) (by rw [hc]; exact Nat.zero_le _) (by rw [hs]; exact Nat.zero_le _) hdg kk
theorem r_iret {v : Int32} {q : Int32 × Mem} (hC : CallFix p m c cc nL s args tblG own) (hr : meth.sig.returnType = some .int) (hlocks : meth.locks = false) (hW : Wd D cA ad A s M H locs) (hf : some (v, M) = some q) (hdg : decode cc pc = .ok (.ireturn, 1)) : W p l e R s m args below meth c H locs cells slots (MQ below (QI D cA ad A q.1 q.2) args s cells slots A) (F0 m pc ls [.int v]) := by
  cases hf
  exact W.iret hC.1 hC.2.1 hr (fun t ht hWm => ⟨⟨v, (), rfl, rfl, by show va_P D vwCl (wsM cA ad _) t.heap; rw [ht]; exact hW.1⟩, hW.2.F ht⟩) hW.2.2.2 hdg hlocks
theorem r_iretP {v q : Int32} (hC : CallFix p m c cc nL s args tblG own) (hr : meth.sig.returnType = some .int) (hlocks : meth.locks = false) (hW : Wd D cA ad A s M H locs) (hf : some v = some q) (hdg : decode cc pc = .ok (.ireturn, 1)) : W p l e R s m args below meth c H locs cells slots (MQ below (QI D cA ad A q M) args s cells slots A) (F0 m pc ls [.int v]) := by
  cases hf
  exact W.iret hC.1 hC.2.1 hr (fun t ht hWm => ⟨⟨v, (), rfl, rfl, by show va_P D vwCl (wsM cA ad _) t.heap; rw [ht]; exact hW.1⟩, hW.2.F ht⟩) hW.2.2.2 hdg hlocks
theorem zr_n {v r : Int32} (h : zr v = some r) : r = v ∧ narrow .boolean (.int v) = .int v := by
  obtain ⟨h1, h2⟩ := so h
  refine ⟨(Option.some.inj h2).symm, ?_⟩
  rcases h1 with rfl | rfl <;> decide
theorem r_zret {v : Int32} {q : Int32 × Mem} (hC : CallFix p m c cc nL s args tblG own) (hr : meth.sig.returnType = some .boolean) (hlocks : meth.locks = false) (hW : Wd D cA ad A s M H locs) (hf : (zr v).bind (fun r => some (r, M)) = some q) (hdg : decode cc pc = .ok (.ireturn, 1)) : W p l e R s m args below meth c H locs cells slots (MQ below (QI D cA ad A q.1 q.2) args s cells slots A) (F0 m pc ls [.int v]) := by
  obtain ⟨r, h1, h2⟩ := ob hf
  obtain ⟨rfl, h3⟩ := zr_n h1
  cases h2
  exact W.zret hC.1 hC.2.1 hr h3 (fun t ht hWm => ⟨⟨_, (), rfl, rfl, by show va_P D vwCl (wsM cA ad _) t.heap; rw [ht]; exact hW.1⟩, hW.2.F ht⟩) hW.2.2.2 hdg hlocks
theorem r_zretP {v q : Int32} (hC : CallFix p m c cc nL s args tblG own) (hr : meth.sig.returnType = some .boolean) (hlocks : meth.locks = false) (hW : Wd D cA ad A s M H locs) (hf : zr v = some q) (hdg : decode cc pc = .ok (.ireturn, 1)) : W p l e R s m args below meth c H locs cells slots (MQ below (QI D cA ad A q M) args s cells slots A) (F0 m pc ls [.int v]) := by
  obtain ⟨rfl, h3⟩ := zr_n hf
  exact W.zret hC.1 hC.2.1 hr h3 (fun t ht hWm => ⟨⟨_, (), rfl, rfl, by show va_P D vwCl (wsM cA ad _) t.heap; rw [ht]; exact hW.1⟩, hW.2.F ht⟩) hW.2.2.2 hdg hlocks
theorem r_vret {q : Mem} (hC : CallFix p m c cc nL s args tblG own) (hr : meth.sig.returnType = none) (hlocks : meth.locks = false) (hW : Wd D cA ad A s M H locs) (hf : some M = some q) (hdg : decode cc pc = .ok (.return_, 1)) : W p l e R s m args below meth c H locs cells slots (MQ below (QV D cA ad A q) args s cells slots A) (F0 m pc ls []) := by
  cases hf
  exact W.vret hC.1 hC.2.1 hr (fun t ht hWm => ⟨⟨(), rfl, trivial, by show va_P D vwCl (wsM cA ad _) t.heap; rw [ht]; exact hW.1⟩, hW.2.F ht⟩) hW.2.2.2 hdg hlocks
theorem r_lretP {v q : Int64} (hC : CallFix p m c cc nL s args tblG own) (hr : meth.sig.returnType = some .long) (hlocks : meth.locks = false) (hW : Wd D cA ad A s M H locs) (hf : some v = some q) (hdg : decode cc pc = .ok (.lreturn, 1)) : W p l e R s m args below meth c H locs cells slots (MQ below (QL D cA ad A q M) args s cells slots A) (F0 m pc ls [.long v]) := by
  cases hf
  exact W.lret hC.1 hC.2.1 hr (fun t ht hWm => ⟨⟨v, (), rfl, rfl, by show va_P D vwCl (wsM cA ad _) t.heap; rw [ht]; exact hW.1⟩, hW.2.F ht⟩) hW.2.2.2 hdg hlocks
theorem r_lret {v : Int64} {q : Int64 × Mem} (hC : CallFix p m c cc nL s args tblG own) (hr : meth.sig.returnType = some .long) (hlocks : meth.locks = false) (hW : Wd D cA ad A s M H locs) (hf : some (v, M) = some q) (hdg : decode cc pc = .ok (.lreturn, 1)) : W p l e R s m args below meth c H locs cells slots (MQ below (QL D cA ad A q.1 q.2) args s cells slots A) (F0 m pc ls [.long v]) := by
  cases hf
  exact W.lret hC.1 hC.2.1 hr (fun t ht hWm => ⟨⟨v, (), rfl, rfl, by show va_P D vwCl (wsM cA ad _) t.heap; rw [ht]; exact hW.1⟩, hW.2.F ht⟩) hW.2.2.2 hdg hlocks
theorem r_aret {v : Nat} {C : String} {q : Nat × Mem} (hC : CallFix p m c cc nL s args tblG own) (hr : meth.sig.returnType = some (.object C)) (hlocks : meth.locks = false) (hW : Wd D cA ad A s M H locs) (hf : some (v, M) = some q) (hdg : decode cc pc = .ok (.areturn, 1)) : W p l e R s m args below meth c H locs cells slots (MQ below (QR D cA ad A q.1 q.2) args s cells slots A) (F0 m pc ls [.ref (ad v)]) := by
  cases hf
  exact W.aret hC.1 hC.2.1 hr (Or.inl ⟨_, rfl⟩) (Or.inr ⟨_, rfl⟩) (fun t ht hWm => ⟨⟨(), _, rfl, trivial, rfl, by show va_P D vwCl (wsM cA ad _) t.heap; rw [ht]; exact hW.1⟩, hW.2.F ht⟩) hW.2.2.2 hdg hlocks
/-- the callee's start out of the caller's world -/
theorem pre_s {av : List Value} (hK : va_K D vwCl (tysOf cA) s) (hW : Wd D cA ad A s M H locs) : PreS s H (PcW D cA ad av M) av :=
  ⟨fun a U g mk q => ⟨q.1, q.2.1, va_K.moved (u := U) (U := U.calling g mk a) (Vm.Alike.refl U.vm) q.2.2⟩, fun U hU hWm => ⟨rfl, by rw [hU]; exact hW.1, va_K.moved hWm.alike hK⟩⟩
theorem pre_v {k ci : Nat} {C : String} {T : u_T} {N : Nat} {ty : Nat → FieldType} {As : List Value} (cf : CF ci C T N ty) (h1 : k < M.1) (h2 : (lay k).1 = ci) (hK : va_K D vwCl (tysOf cA) s) (hW : Wd D cA ad A s M H locs) : PreV s H C (ad k) (PcW D cA ad (.ref (ad k) :: As) M) As := by
  refine ⟨(pre_s hK hW).1, ?_, (pre_s hK hW).2⟩
  have he := ws_get (cA := cA) (ad := ad) h1
  rw [cel_o h2 cf.2.2.2.2.2] at he
  exact va_recv hK hW.1 cf.1 he
theorem cv_s {α : Type} {k ci : Nat} {o : Option α} {r : α} (h : cv M k ci o = some r) : (k < M.1 ∧ (lay k).1 = ci) ∧ o = some r := so h
end RW
section RX
variable {p : Program} {l : Launch} {e : Env} {R : Room} {s : State} {m : MethodId} {args : Array Value} {below : List Frame} {meth : Method} {c : Code} {H : Heap} {locs : List Loc} {cells slots : Nat} {Q : State → Prop}
variable {cc : ByteArray} {pc nL : Nat} {ls : Array Slot} {rest : List Value} {D : va_G} {cA : Nat → ClassId} {ad : Nat → Nat} {A : Nat → Prop} {own : String} {M M' : Mem}
theorem r_div {x y v : Int32} (hC : CallFix p m c cc nL s args tblG own) (hg : dvI x y = some v) (hdg : decode cc pc = .ok (.idiv, 1)) (kk : W p l e R s m args below meth c H locs cells slots Q (F0 m (pc + 1) ls (.int v :: rest))) : W p l e R s m args below meth c H locs cells slots Q (F0 m pc ls (.int y :: .int x :: rest)) := by
  unfold dvI at hg
  by_cases h : y = 0
  · rw [if_pos h] at hg; cases hg
  · rw [if_neg h] at hg; cases hg; exact lv_idiv hC.1 hC.2.1 hdg h kk
theorem r_rem {x y v : Int32} (hC : CallFix p m c cc nL s args tblG own) (hg : rmI x y = some v) (hdg : decode cc pc = .ok (.irem, 1)) (kk : W p l e R s m args below meth c H locs cells slots Q (F0 m (pc + 1) ls (.int v :: rest))) : W p l e R s m args below meth c H locs cells slots Q (F0 m pc ls (.int y :: .int x :: rest)) := by
  unfold rmI at hg
  by_cases h : y = 0
  · rw [if_pos h] at hg; cases hg
  · rw [if_neg h] at hg; cases hg; exact lv_irem hC.1 hC.2.1 hdg h kk
/-- a contract out of a walk from the entry -/
theorem mk_met {y : MethodName} {bytes : ByteArray} {maxL d : Nat} {ret : Option FieldType} {av : List Value} {Qc : Array Value → State → Outcome → State → Prop} (hp : plainName y.cls = true) (ho : y.cls = own) (hlen : (lg_sl av).length ≤ maxL)
    (body : ∀ (p : Program) (e : Env) (s : State) (m : MethodId) (below : List Frame) (meth : Method) (c : Code), CallFix p m c bytes maxL s av.toArray tblG own → meth.sig.returnType = ret → meth.locks = false → va_K D vwCl (tysOf cA) s → ∀ (H : Heap) (locs : List Loc) (ls : Array Slot), Wd D cA ad A s M H locs → lv_has ls maxL (lv_args 0 av) → W p l e (rmD d) s m av.toArray below meth c H locs 0 0 (MQ below Qc av.toArray s 0 0 A) (F0 m 0 ls [])) :
    Met l y (wd y bytes maxL ret) (rmD d) (PcW D cA ad av M) Qc 0 0 A := by
  refine Met.ofW (cc := bytes) (maxL := maxL) (ret := ret) hp rfl ?_
  intro p e s m args below meth c s₁ B hml hv
  obtain ⟨rfl, hP, hK⟩ := hv
  rw [lg_entry_eq]
  exact body p e s m below meth c ⟨B.exec, B.bytes, hml, by rw [← ho]; exact findClass_of_methodNamed B.named, tb (atoms_spec (ws := wd y bytes maxL ret) B.pre)⟩ B.returns B.notSynchronized hK s.heap [] _ ⟨hP, va_S.rf⟩ (lv_entry av hlen)
end RX
end
section
theorem uw_X0 : ∀ w ∈ u_ws RX0 TX0 6, w ∈ tblG := by
  have h : u_ws RX0 TX0 6 = ([243, 245, 247, 249, 251, 253] : List Nat).filterMap (fun i => lw_tbl[i]?) := by decide +kernel
  have g : (u_ws RX0 TX0 6).all goodWord = true := by decide +kernel
  intro w hw
  have g2 := List.all_eq_true.mp g w hw
  rw [h] at hw
  obtain ⟨i, -, hi⟩ := List.mem_filterMap.mp hw
  exact tG i hi g2
theorem cfX0 : CF 0 RX0 TX0 6 tyX0 := ⟨rfl, uw_X0, tyX0_ok, nmX0, rfl, by decide⟩
theorem uw_X1 : ∀ w ∈ u_ws RX1 TX1 0, w ∈ tblG := by
  intro w hw; exact absurd hw List.not_mem_nil
theorem cfX1 : CF 1 RX1 TX1 0 tyX1 := ⟨rfl, uw_X1, tyX1_ok, nmX1, rfl, by decide⟩
theorem uw_X2 : ∀ w ∈ u_ws RX2 TX2 0, w ∈ tblG := by
  intro w hw; exact absurd hw List.not_mem_nil
theorem cfX2 : CF 2 RX2 TX2 0 tyX2 := ⟨rfl, uw_X2, tyX2_ok, nmX2, rfl, by decide⟩
theorem uw_X3 : ∀ w ∈ u_ws RX3 TX3 0, w ∈ tblG := by
  intro w hw; exact absurd hw List.not_mem_nil
theorem cfX3 : CF 3 RX3 TX3 0 tyX3 := ⟨rfl, uw_X3, tyX3_ok, nmX3, rfl, by decide⟩
theorem uw_X4 : ∀ w ∈ u_ws RX4 TX4 0, w ∈ tblG := by
  intro w hw; exact absurd hw List.not_mem_nil
theorem cfX4 : CF 4 RX4 TX4 0 tyX4 := ⟨rfl, uw_X4, tyX4_ok, nmX4, rfl, by decide⟩
theorem uw_X5 : ∀ w ∈ u_ws RX5 TX5 5, w ∈ tblG := by
  have h : u_ws RX5 TX5 5 = ([209, 211, 213, 215, 217] : List Nat).filterMap (fun i => lw_tbl[i]?) := by decide +kernel
  have g : (u_ws RX5 TX5 5).all goodWord = true := by decide +kernel
  intro w hw
  have g2 := List.all_eq_true.mp g w hw
  rw [h] at hw
  obtain ⟨i, -, hi⟩ := List.mem_filterMap.mp hw
  exact tG i hi g2
theorem cfX5 : CF 5 RX5 TX5 5 tyX5 := ⟨rfl, uw_X5, tyX5_ok, nmX5, rfl, by decide⟩
theorem uw_X6 : ∀ w ∈ u_ws RX6 TX6 0, w ∈ tblG := by
  intro w hw; exact absurd hw List.not_mem_nil
theorem cfX6 : CF 6 RX6 TX6 0 tyX6 := ⟨rfl, uw_X6, tyX6_ok, nmX6, rfl, by decide⟩
theorem uw_X7 : ∀ w ∈ u_ws RX7 TX7 5, w ∈ tblG := by
  have h : u_ws RX7 TX7 5 = ([119, 121, 123, 125, 127] : List Nat).filterMap (fun i => lw_tbl[i]?) := by decide +kernel
  have g : (u_ws RX7 TX7 5).all goodWord = true := by decide +kernel
  intro w hw
  have g2 := List.all_eq_true.mp g w hw
  rw [h] at hw
  obtain ⟨i, -, hi⟩ := List.mem_filterMap.mp hw
  exact tG i hi g2
theorem cfX7 : CF 7 RX7 TX7 5 tyX7 := ⟨rfl, uw_X7, tyX7_ok, nmX7, rfl, by decide⟩
theorem uw_X8 : ∀ w ∈ u_ws RX8 TX8 8, w ∈ tblG := by
  have h : u_ws RX8 TX8 8 = ([156, 158, 160, 162, 164, 166, 168, 170] : List Nat).filterMap (fun i => lw_tbl[i]?) := by decide +kernel
  have g : (u_ws RX8 TX8 8).all goodWord = true := by decide +kernel
  intro w hw
  have g2 := List.all_eq_true.mp g w hw
  rw [h] at hw
  obtain ⟨i, -, hi⟩ := List.mem_filterMap.mp hw
  exact tG i hi g2
theorem cfX8 : CF 8 RX8 TX8 8 tyX8 := ⟨rfl, uw_X8, tyX8_ok, nmX8, rfl, by decide⟩
theorem uw_X9 : ∀ w ∈ u_ws RX9 TX9 7, w ∈ tblG := by
  have h : u_ws RX9 TX9 7 = ([182, 184, 186, 188, 190, 192, 194] : List Nat).filterMap (fun i => lw_tbl[i]?) := by decide +kernel
  have g : (u_ws RX9 TX9 7).all goodWord = true := by decide +kernel
  intro w hw
  have g2 := List.all_eq_true.mp g w hw
  rw [h] at hw
  obtain ⟨i, -, hi⟩ := List.mem_filterMap.mp hw
  exact tG i hi g2
theorem cfX9 : CF 9 RX9 TX9 7 tyX9 := ⟨rfl, uw_X9, tyX9_ok, nmX9, rfl, by decide⟩
theorem uw_X10 : ∀ w ∈ u_ws RX10 TX10 0, w ∈ tblG := by
  intro w hw; exact absurd hw List.not_mem_nil
theorem cfX10 : CF 10 RX10 TX10 0 tyX10 := ⟨rfl, uw_X10, tyX10_ok, nmX10, rfl, by decide⟩
theorem uw_X11 : ∀ w ∈ u_ws RX11 TX11 16, w ∈ tblG := by
  have h : u_ws RX11 TX11 16 = ([321, 323, 325, 327, 329, 331, 333, 335, 337, 339, 341, 343, 345, 347, 349, 351] : List Nat).filterMap (fun i => lw_tbl[i]?) := by decide +kernel
  have g : (u_ws RX11 TX11 16).all goodWord = true := by decide +kernel
  intro w hw
  have g2 := List.all_eq_true.mp g w hw
  rw [h] at hw
  obtain ⟨i, -, hi⟩ := List.mem_filterMap.mp hw
  exact tG i hi g2
theorem cfX11 : CF 11 RX11 TX11 16 tyX11 := ⟨rfl, uw_X11, tyX11_ok, nmX11, rfl, by decide⟩
theorem uw_X12 : ∀ w ∈ u_ws RX12 TX12 26, w ∈ tblG := by
  have h : u_ws RX12 TX12 26 = ([731, 733, 735, 737, 739, 741, 743, 745, 747, 749, 751, 753, 755, 757, 759, 761, 763, 765, 767, 769, 771, 773, 775, 777, 779, 781] : List Nat).filterMap (fun i => lw_tbl[i]?) := by decide +kernel
  have g : (u_ws RX12 TX12 26).all goodWord = true := by decide +kernel
  intro w hw
  have g2 := List.all_eq_true.mp g w hw
  rw [h] at hw
  obtain ⟨i, -, hi⟩ := List.mem_filterMap.mp hw
  exact tG i hi g2
theorem cfX12 : CF 12 RX12 TX12 26 tyX12 := ⟨rfl, uw_X12, tyX12_ok, nmX12, rfl, by decide⟩
theorem my_X0_init : MY yX0_init cX0_init 1 none 0 := ⟨wC_X0_init, wN_X0, by decide +kernel⟩
theorem my_X6_init : MY yX6_init cX6_init 1 none 0 := ⟨wC_X6_init, wN_X6, by decide +kernel⟩
theorem my_X1_init : MY yX1_init cX1_init 1 none 0 := ⟨wC_X1_init, wN_X1, by decide +kernel⟩
theorem my_X6_worth : MY yX6_worth cX6_worth 2 (some .int) 1 := ⟨wC_X6_worth, wN_X6, by decide +kernel⟩
theorem my_X1_worth : MY yX1_worth cX1_worth 2 (some .int) 1 := ⟨wC_X1_worth, wN_X1, by decide +kernel⟩
theorem my_X10_init : MY yX10_init cX10_init 1 none 0 := ⟨wC_X10_init, wN_X10, by decide +kernel⟩
theorem my_X2_init : MY yX2_init cX2_init 1 none 0 := ⟨wC_X2_init, wN_X2, by decide +kernel⟩
theorem my_X10_worth : MY yX10_worth cX10_worth 2 (some .int) 1 := ⟨wC_X10_worth, wN_X10, by decide +kernel⟩
theorem my_X2_worth : MY yX2_worth cX2_worth 2 (some .int) 1 := ⟨wC_X2_worth, wN_X2, by decide +kernel⟩
theorem my_X3_init : MY yX3_init cX3_init 1 none 0 := ⟨wC_X3_init, wN_X3, by decide +kernel⟩
theorem my_X3_worth : MY yX3_worth cX3_worth 2 (some .int) 1 := ⟨wC_X3_worth, wN_X3, by decide +kernel⟩
theorem my_X4_init : MY yX4_init cX4_init 1 none 0 := ⟨wC_X4_init, wN_X4, by decide +kernel⟩
theorem my_X4_worth : MY yX4_worth cX4_worth 2 (some .int) 1 := ⟨wC_X4_worth, wN_X4, by decide +kernel⟩
theorem my_X5_init : MY yX5_init cX5_init 1 none 0 := ⟨wC_X5_init, wN_X5, by decide +kernel⟩
theorem my_X8_needs : MY yX8_needs cX8_needs 4 (some .int) 2 := ⟨wC_X8_needs, wN_X8, by decide +kernel⟩
theorem my_X5_most : MY yX5_most cX5_most 6 (some .int) 1 := ⟨wC_X5_most, wN_X5, by decide +kernel⟩
theorem my_X5_firstFor : MY yX5_firstFor cX5_firstFor 4 (some .int) 2 := ⟨wC_X5_firstFor, wN_X5, by decide +kernel⟩
theorem my_X5_share : MY yX5_share cX5_share 6 (some .int) 2 := ⟨wC_X5_share, wN_X5, by decide +kernel⟩
theorem my_X7_init : MY yX7_init cX7_init 1 none 0 := ⟨wC_X7_init, wN_X7, by decide +kernel⟩
theorem my_X7_become : MY yX7_become cX7_become 2 none 1 := ⟨wC_X7_become, wN_X7, by decide +kernel⟩
theorem my_X7_changeSeats : MY yX7_changeSeats cX7_changeSeats 4 none 2 := ⟨wC_X7_changeSeats, wN_X7, by decide +kernel⟩
theorem my_X8_init : MY yX8_init cX8_init 1 none 0 := ⟨wC_X8_init, wN_X8, by decide +kernel⟩
theorem my_X8_empty : MY yX8_empty cX8_empty 1 none 0 := ⟨wC_X8_empty, wN_X8, by decide +kernel⟩
theorem my_J9_floorMod_7cf53 : MY yJ9_floorMod_7cf53 cJ9_floorMod_7cf53 3 (some .int) 2 := ⟨wC_J9_floorMod_7cf53, wN_J9, by decide +kernel⟩
theorem my_X8_around : MY yX8_around cX8_around 2 (some .int) 1 := ⟨wC_X8_around, wN_X8, by decide +kernel⟩
theorem my_X8_seatBefore : MY yX8_seatBefore cX8_seatBefore 3 (some .int) 2 := ⟨wC_X8_seatBefore, wN_X8, by decide +kernel⟩
theorem my_X8_gap : MY yX8_gap cX8_gap 5 (some .int) 4 := ⟨wC_X8_gap, wN_X8, by decide +kernel⟩
theorem my_X8_reaches : MY yX8_reaches cX8_reaches 6 (some .boolean) 4 := ⟨wC_X8_reaches, wN_X8, by decide +kernel⟩
theorem my_X8_stepsBy : MY yX8_stepsBy cX8_stepsBy 6 (some .int) 4 := ⟨wC_X8_stepsBy, wN_X8, by decide +kernel⟩
theorem my_X8_reachedBy : MY yX8_reachedBy cX8_reachedBy 5 (some .int) 2 := ⟨wC_X8_reachedBy, wN_X8, by decide +kernel⟩
theorem my_X8_whoReach : MY yX8_whoReach cX8_whoReach 6 (some .int) 3 := ⟨wC_X8_whoReach, wN_X8, by decide +kernel⟩
theorem my_X8_hasEnough : MY yX8_hasEnough cX8_hasEnough 5 (some .boolean) 2 := ⟨wC_X8_hasEnough, wN_X8, by decide +kernel⟩
theorem my_J7_fill_53178 : MY yJ7_fill_53178 cJ7_fill_53178 4 none 2 := ⟨wC_J7_fill_53178, wN_J7, by decide +kernel⟩
theorem my_X8_fillFurthest : MY yX8_fillFurthest cX8_fillFurthest 6 none 1 := ⟨wC_X8_fillFurthest, wN_X8, by decide +kernel⟩
theorem my_X8_tour : MY yX8_tour cX8_tour 5 (some .int) 1 := ⟨wC_X8_tour, wN_X8, by decide +kernel⟩
theorem my_X9_init : MY yX9_init cX9_init 1 none 0 := ⟨wC_X9_init, wN_X9, by decide +kernel⟩
theorem my_X9_isSmall : MY yX9_isSmall cX9_isSmall 1 (some .boolean) 1 := ⟨wC_X9_isSmall, wN_X9, by decide +kernel⟩
theorem my_X9_nextWord : MY yX9_nextWord cX9_nextWord 1 none 0 := ⟨wC_X9_nextWord, wN_X9, by decide +kernel⟩
theorem my_X9_isDigit : MY yX9_isDigit cX9_isDigit 1 (some .boolean) 1 := ⟨wC_X9_isDigit, wN_X9, by decide +kernel⟩
theorem my_X9_nextNumber : MY yX9_nextNumber cX9_nextNumber 2 none 0 := ⟨wC_X9_nextNumber, wN_X9, by decide +kernel⟩
theorem my_X9_nextToken : MY yX9_nextToken cX9_nextToken 1 none 0 := ⟨wC_X9_nextToken, wN_X9, by decide +kernel⟩
theorem my_X9_isWord : MY yX9_isWord cX9_isWord 2 (some .boolean) 1 := ⟨wC_X9_isWord, wN_X9, by decide +kernel⟩
theorem my_X9_readNumber : MY yX9_readNumber cX9_readNumber 3 (some .boolean) 2 := ⟨wC_X9_readNumber, wN_X9, by decide +kernel⟩
theorem my_X9_readClose : MY yX9_readClose cX9_readClose 1 (some .boolean) 0 := ⟨wC_X9_readClose, wN_X9, by decide +kernel⟩
theorem my_X9_readSeats : MY yX9_readSeats cX9_readSeats 1 (some .boolean) 0 := ⟨wC_X9_readSeats, wN_X9, by decide +kernel⟩
theorem my_X9_isAmong : MY yX9_isAmong cX9_isAmong 4 (some .boolean) 2 := ⟨wC_X9_isAmong, wN_X9, by decide +kernel⟩
theorem my_X9_readRow : MY yX9_readRow cX9_readRow 2 (some .boolean) 0 := ⟨wC_X9_readRow, wN_X9, by decide +kernel⟩
theorem my_X9_readGuest : MY yX9_readGuest cX9_readGuest 2 (some .boolean) 0 := ⟨wC_X9_readGuest, wN_X9, by decide +kernel⟩
theorem my_X9_readDish : MY yX9_readDish cX9_readDish 2 (some .boolean) 0 := ⟨wC_X9_readDish, wN_X9, by decide +kernel⟩
theorem my_X9_readItem : MY yX9_readItem cX9_readItem 2 (some .boolean) 1 := ⟨wC_X9_readItem, wN_X9, by decide +kernel⟩
theorem my_X9_read : MY yX9_read cX9_read 2 (some .int) 0 := ⟨wC_X9_read, wN_X9, by decide +kernel⟩
theorem my_X9_handOver : MY yX9_handOver cX9_handOver 3 (some (.object "TrayTurns$Party")) 1 := ⟨wC_X9_handOver, wN_X9, by decide +kernel⟩
theorem my_X11_init : MY yX11_init cX11_init 2 none 0 := ⟨wC_X11_init, wN_X11, by decide +kernel⟩
theorem my_X11_type : MY yX11_type cX11_type 2 (some .int) 1 := ⟨wC_X11_type, wN_X11, by decide +kernel⟩
theorem my_X11_clear : MY yX11_clear cX11_clear 2 (some .int) 0 := ⟨wC_X11_clear, wN_X11, by decide +kernel⟩
theorem my_X11_table : MY yX11_table cX11_table 3 (some .int) 0 := ⟨wC_X11_table, wN_X11, by decide +kernel⟩
theorem my_X11_isGuest : MY yX11_isGuest cX11_isGuest 2 (some .boolean) 1 := ⟨wC_X11_isGuest, wN_X11, by decide +kernel⟩
theorem my_X11_guest : MY yX11_guest cX11_guest 3 (some .int) 2 := ⟨wC_X11_guest, wN_X11, by decide +kernel⟩
theorem my_X11_isDish : MY yX11_isDish cX11_isDish 2 (some .boolean) 1 := ⟨wC_X11_isDish, wN_X11, by decide +kernel⟩
theorem my_X11_dish : MY yX11_dish cX11_dish 3 (some .int) 2 := ⟨wC_X11_dish, wN_X11, by decide +kernel⟩
theorem my_X11_allPortions : MY yX11_allPortions cX11_allPortions 3 (some .int) 0 := ⟨wC_X11_allPortions, wN_X11, by decide +kernel⟩
theorem my_X11_swap : MY yX11_swap cX11_swap 6 (some .int) 0 := ⟨wC_X11_swap, wN_X11, by decide +kernel⟩
theorem my_X11_now : MY yX11_now cX11_now 2 (some .int) 1 := ⟨wC_X11_now, wN_X11, by decide +kernel⟩
theorem my_X11_isBit : MY yX11_isBit cX11_isBit 1 (some .boolean) 1 := ⟨wC_X11_isBit, wN_X11, by decide +kernel⟩
theorem my_X11_remember : MY yX11_remember cX11_remember 3 none 0 := ⟨wC_X11_remember, wN_X11, by decide +kernel⟩
theorem my_X11_spill : MY yX11_spill cX11_spill 3 (some .int) 0 := ⟨wC_X11_spill, wN_X11, by decide +kernel⟩
theorem my_X11_spins : MY yX11_spins cX11_spins 3 (some .int) 2 := ⟨wC_X11_spins, wN_X11, by decide +kernel⟩
theorem my_X11_takes : MY yX11_takes cX11_takes 3 (some .int) 2 := ⟨wC_X11_takes, wN_X11, by decide +kernel⟩
theorem my_X11_isTurn : MY yX11_isTurn cX11_isTurn 2 (some .boolean) 1 := ⟨wC_X11_isTurn, wN_X11, by decide +kernel⟩
theorem my_X11_isEmpty : MY yX11_isEmpty cX11_isEmpty 3 (some .boolean) 1 := ⟨wC_X11_isEmpty, wN_X11, by decide +kernel⟩
theorem my_X11_moves : MY yX11_moves cX11_moves 4 (some .int) 2 := ⟨wC_X11_moves, wN_X11, by decide +kernel⟩
theorem my_X11_changes : MY yX11_changes cX11_changes 3 (some .int) 2 := ⟨wC_X11_changes, wN_X11, by decide +kernel⟩
theorem my_X11_undo : MY yX11_undo cX11_undo 1 (some .int) 0 := ⟨wC_X11_undo, wN_X11, by decide +kernel⟩
theorem my_X11_steps : MY yX11_steps cX11_steps 7 (some .int) 3 := ⟨wC_X11_steps, wN_X11, by decide +kernel⟩
theorem my_X11_puts : MY yX11_puts cX11_puts 6 (some .int) 1 := ⟨wC_X11_puts, wN_X11, by decide +kernel⟩
theorem my_X11_fed : MY yX11_fed cX11_fed 2 (some .int) 1 := ⟨wC_X11_fed, wN_X11, by decide +kernel⟩
theorem my_X11_spreadChances : MY yX11_spreadChances cX11_spreadChances 7 (some .int) 1 := ⟨wC_X11_spreadChances, wN_X11, by decide +kernel⟩
theorem my_X11_odds : MY yX11_odds cX11_odds 7 (some .int) 3 := ⟨wC_X11_odds, wN_X11, by decide +kernel⟩
theorem my_X11_sees : MY yX11_sees cX11_sees 4 (some .int) 3 := ⟨wC_X11_sees, wN_X11, by decide +kernel⟩
theorem my_X11_forget : MY yX11_forget cX11_forget 2 (some .int) 0 := ⟨wC_X11_forget, wN_X11, by decide +kernel⟩
theorem my_X11_fitsAllSeen : MY yX11_fitsAllSeen cX11_fitsAllSeen 3 (some .boolean) 1 := ⟨wC_X11_fitsAllSeen, wN_X11, by decide +kernel⟩
theorem my_X11_who : MY yX11_who cX11_who 3 (some .int) 0 := ⟨wC_X11_who, wN_X11, by decide +kernel⟩
theorem my_J6_bitCount_0f7a4 : MY yJ6_bitCount_0f7a4 cJ6_bitCount_0f7a4 1 (some .int) 1 := ⟨wC_J6_bitCount_0f7a4, wN_J6, by decide +kernel⟩
theorem my_X11_look : MY yX11_look cX11_look 9 (some .int) 1 := ⟨wC_X11_look, wN_X11, by decide +kernel⟩
theorem my_X11_rate : MY yX11_rate cX11_rate 3 (some .int) 2 := ⟨wC_X11_rate, wN_X11, by decide +kernel⟩
theorem my_X11_isImage : MY yX11_isImage cX11_isImage 2 (some .boolean) 1 := ⟨wC_X11_isImage, wN_X11, by decide +kernel⟩
theorem my_X11_keep : MY yX11_keep cX11_keep 2 (some .int) 1 := ⟨wC_X11_keep, wN_X11, by decide +kernel⟩
theorem my_X11_back : MY yX11_back cX11_back 2 (some .int) 1 := ⟨wC_X11_back, wN_X11, by decide +kernel⟩
theorem my_X11_count : MY yX11_count cX11_count 2 (some .int) 1 := ⟨wC_X11_count, wN_X11, by decide +kernel⟩
theorem my_X11_trace : MY yX11_trace cX11_trace 1 (some .long) 0 := ⟨wC_X11_trace, wN_X11, by decide +kernel⟩
theorem my_X12_begins : MY yX12_begins cX12_begins 2 none 0 := ⟨wC_X12_begins, wN_X12, by decide +kernel⟩
theorem my_X12_settles : MY yX12_settles cX12_settles 2 none 0 := ⟨wC_X12_settles, wN_X12, by decide +kernel⟩
theorem my_X12_init : MY yX12_init cX12_init 1 none 0 := ⟨wC_X12_init, wN_X12, by decide +kernel⟩
theorem my_X12_in : MY yX12_in cX12_in 3 (some .boolean) 3 := ⟨wC_X12_in, wN_X12, by decide +kernel⟩
theorem my_X12_isOf : MY yX12_isOf cX12_isOf 2 (some .boolean) 2 := ⟨wC_X12_isOf, wN_X12, by decide +kernel⟩
theorem my_X12_ones : MY yX12_ones cX12_ones 3 (some .int) 1 := ⟨wC_X12_ones, wN_X12, by decide +kernel⟩
theorem my_X12_type : MY yX12_type cX12_type 2 (some .int) 1 := ⟨wC_X12_type, wN_X12, by decide +kernel⟩
theorem my_X12_clear : MY yX12_clear cX12_clear 2 (some .int) 0 := ⟨wC_X12_clear, wN_X12, by decide +kernel⟩
theorem my_X12_letterAt : MY yX12_letterAt cX12_letterAt 2 (some .int) 1 := ⟨wC_X12_letterAt, wN_X12, by decide +kernel⟩
theorem my_X12_advances : MY yX12_advances cX12_advances 2 none 0 := ⟨wC_X12_advances, wN_X12, by decide +kernel⟩
theorem my_X12_isWell : MY yX12_isWell cX12_isWell 1 (some .boolean) 0 := ⟨wC_X12_isWell, wN_X12, by decide +kernel⟩
theorem my_X12_takesToken : MY yX12_takesToken cX12_takesToken 3 (some .int) 1 := ⟨wC_X12_takesToken, wN_X12, by decide +kernel⟩
theorem my_X12_number : MY yX12_number cX12_number 3 (some .int) 2 := ⟨wC_X12_number, wN_X12, by decide +kernel⟩
theorem my_X12_mayBegin : MY yX12_mayBegin cX12_mayBegin 2 (some .boolean) 1 := ⟨wC_X12_mayBegin, wN_X12, by decide +kernel⟩
theorem my_X12_free : MY yX12_free cX12_free 5 (some .int) 2 := ⟨wC_X12_free, wN_X12, by decide +kernel⟩
theorem my_X12_lettersRow : MY yX12_lettersRow cX12_lettersRow 6 (some .int) 0 := ⟨wC_X12_lettersRow, wN_X12, by decide +kernel⟩
theorem my_X12_readsItem : MY yX12_readsItem cX12_readsItem 3 none 1 := ⟨wC_X12_readsItem, wN_X12, by decide +kernel⟩
theorem my_X12_table : MY yX12_table cX12_table 3 (some .int) 0 := ⟨wC_X12_table, wN_X12, by decide +kernel⟩
theorem my_X12_isGuest : MY yX12_isGuest cX12_isGuest 2 (some .boolean) 1 := ⟨wC_X12_isGuest, wN_X12, by decide +kernel⟩
theorem my_X12_isDish : MY yX12_isDish cX12_isDish 2 (some .boolean) 1 := ⟨wC_X12_isDish, wN_X12, by decide +kernel⟩
theorem my_X12_isSeat : MY yX12_isSeat cX12_isSeat 2 (some .boolean) 1 := ⟨wC_X12_isSeat, wN_X12, by decide +kernel⟩
theorem my_X12_reachesBy : MY yX12_reachesBy cX12_reachesBy 6 (some .boolean) 3 := ⟨wC_X12_reachesBy, wN_X12, by decide +kernel⟩
theorem my_X12_reachedBy : MY yX12_reachedBy cX12_reachedBy 4 (some .int) 1 := ⟨wC_X12_reachedBy, wN_X12, by decide +kernel⟩
theorem my_X12_needsOf : MY yX12_needsOf cX12_needsOf 2 (some .int) 1 := ⟨wC_X12_needsOf, wN_X12, by decide +kernel⟩
theorem my_X12_guest : MY yX12_guest cX12_guest 3 (some .int) 2 := ⟨wC_X12_guest, wN_X12, by decide +kernel⟩
theorem my_X12_whoReach : MY yX12_whoReach cX12_whoReach 5 (some .int) 2 := ⟨wC_X12_whoReach, wN_X12, by decide +kernel⟩
theorem my_X12_dish : MY yX12_dish cX12_dish 3 (some .int) 2 := ⟨wC_X12_dish, wN_X12, by decide +kernel⟩
theorem my_X12_isEnough : MY yX12_isEnough cX12_isEnough 4 (some .boolean) 0 := ⟨wC_X12_isEnough, wN_X12, by decide +kernel⟩
theorem my_X12_isAll : MY yX12_isAll cX12_isAll 7 (some .boolean) 2 := ⟨wC_X12_isAll, wN_X12, by decide +kernel⟩
theorem my_X12_tourOf : MY yX12_tourOf cX12_tourOf 5 (some .int) 0 := ⟨wC_X12_tourOf, wN_X12, by decide +kernel⟩
theorem my_X12_trades : MY yX12_trades cX12_trades 4 none 2 := ⟨wC_X12_trades, wN_X12, by decide +kernel⟩
theorem my_X12_swapOf : MY yX12_swapOf cX12_swapOf 6 (some .int) 0 := ⟨wC_X12_swapOf, wN_X12, by decide +kernel⟩
theorem my_X12_sevens : MY yX12_sevens cX12_sevens 3 (some .int) 1 := ⟨wC_X12_sevens, wN_X12, by decide +kernel⟩
theorem my_X12_havingBy : MY yX12_havingBy cX12_havingBy 6 (some .int) 1 := ⟨wC_X12_havingBy, wN_X12, by decide +kernel⟩
theorem my_X12_feeds : MY yX12_feeds cX12_feeds 6 (some .int) 0 := ⟨wC_X12_feeds, wN_X12, by decide +kernel⟩
theorem my_X12_now : MY yX12_now cX12_now 4 (some .int) 1 := ⟨wC_X12_now, wN_X12, by decide +kernel⟩
theorem my_X12_notes : MY yX12_notes cX12_notes 2 none 0 := ⟨wC_X12_notes, wN_X12, by decide +kernel⟩
theorem my_X12_spins : MY yX12_spins cX12_spins 7 (some .int) 2 := ⟨wC_X12_spins, wN_X12, by decide +kernel⟩
theorem my_X12_takes : MY yX12_takes cX12_takes 3 (some .int) 2 := ⟨wC_X12_takes, wN_X12, by decide +kernel⟩
theorem my_X12_isEmpty : MY yX12_isEmpty cX12_isEmpty 4 (some .boolean) 1 := ⟨wC_X12_isEmpty, wN_X12, by decide +kernel⟩
theorem my_X12_moves : MY yX12_moves cX12_moves 4 (some .int) 2 := ⟨wC_X12_moves, wN_X12, by decide +kernel⟩
theorem my_X12_changes : MY yX12_changes cX12_changes 3 (some .int) 2 := ⟨wC_X12_changes, wN_X12, by decide +kernel⟩
theorem my_X12_undo : MY yX12_undo cX12_undo 2 (some .int) 0 := ⟨wC_X12_undo, wN_X12, by decide +kernel⟩
theorem my_X12_steps : MY yX12_steps cX12_steps 7 (some .int) 3 := ⟨wC_X12_steps, wN_X12, by decide +kernel⟩
theorem my_X12_puts : MY yX12_puts cX12_puts 7 (some .int) 1 := ⟨wC_X12_puts, wN_X12, by decide +kernel⟩
theorem my_X12_fed : MY yX12_fed cX12_fed 2 (some .int) 1 := ⟨wC_X12_fed, wN_X12, by decide +kernel⟩
theorem my_X12_power : MY yX12_power cX12_power 4 (some .int) 2 := ⟨wC_X12_power, wN_X12, by decide +kernel⟩
theorem my_X12_gcd : MY yX12_gcd cX12_gcd 5 (some .int) 2 := ⟨wC_X12_gcd, wN_X12, by decide +kernel⟩
theorem my_X12_odds : MY yX12_odds cX12_odds 8 (some .int) 3 := ⟨wC_X12_odds, wN_X12, by decide +kernel⟩
theorem my_X12_sees : MY yX12_sees cX12_sees 4 (some .int) 3 := ⟨wC_X12_sees, wN_X12, by decide +kernel⟩
theorem my_X12_forget : MY yX12_forget cX12_forget 2 (some .int) 0 := ⟨wC_X12_forget, wN_X12, by decide +kernel⟩
theorem my_X12_whoCan : MY yX12_whoCan cX12_whoCan 4 (some .int) 0 := ⟨wC_X12_whoCan, wN_X12, by decide +kernel⟩
theorem my_X12_who : MY yX12_who cX12_who 1 (some .int) 0 := ⟨wC_X12_who, wN_X12, by decide +kernel⟩
theorem my_X12_look : MY yX12_look cX12_look 8 (some .int) 1 := ⟨wC_X12_look, wN_X12, by decide +kernel⟩
theorem my_X12_rate : MY yX12_rate cX12_rate 6 (some .int) 2 := ⟨wC_X12_rate, wN_X12, by decide +kernel⟩
theorem my_X12_keep : MY yX12_keep cX12_keep 3 (some .int) 1 := ⟨wC_X12_keep, wN_X12, by decide +kernel⟩
theorem my_X12_back : MY yX12_back cX12_back 3 (some .int) 1 := ⟨wC_X12_back, wN_X12, by decide +kernel⟩
theorem my_X12_count : MY yX12_count cX12_count 2 (some .int) 1 := ⟨wC_X12_count, wN_X12, by decide +kernel⟩
theorem my_X12_trace : MY yX12_trace cX12_trace 1 (some .long) 0 := ⟨wC_X12_trace, wN_X12, by decide +kernel⟩
theorem my_J9_max_7cf53 : MY yJ9_max_7cf53 cJ9_max_7cf53 2 (some .int) 2 := ⟨wC_J9_max_7cf53, wN_J9, by decide +kernel⟩
theorem my_J9_min_7cf53 : MY yJ9_min_7cf53 cJ9_min_7cf53 2 (some .int) 2 := ⟨wC_J9_min_7cf53, wN_J9, by decide +kernel⟩
section KW
variable {p : Program} {l : Launch} {e : Env} {R : Room} {s : State} {m : MethodId} {args : Array Value} {below : List Frame} {meth : Method} {c : Code} {H : Heap} {locs : List Loc} {cells slots : Nat} {Q : State → Prop}
variable {cc : ByteArray} {pc nL : Nat} {ls : Array Slot} {rest st : List Value} {D : va_G} {cA : Nat → ClassId} {ad : Nat → Nat} {A : Nat → Prop} {own : String} {M M' : Mem}
variable {y : MethodName} {bytes : ByteArray} {maxL n d index k ci N : Nat} {ret : Option FieldType} {C : String} {T : u_T} {ty : Nat → FieldType} {As : List Value}
theorem k_cb (hC : CallFix p m c cc nL s args tblG own) (hy : MY y bytes maxL ret n) (hl : Cond.methodLink own index y ∈ tblG) (hR : (rmD d).frames + 1 ≤ R.frames ∧ 8 + (maxL + 11) + (rmD d).locals ≤ R.locals) : CallB R s args own index y bytes maxL ret (wd y bytes maxL ret) (rmD d) 0 0 n :=
  callB_of n hC.2.2.2.2 (gd hy.1) rfl rfl rfl (hC.2.2.2.2 _ hy.2.1) (hC.2.2.2.2 _ hl) hy.2.2 hR
theorem k_vI {r : Int32} (hC : CallFix p m c cc nL s args tblG own) (hK : va_K D vwCl (tysOf cA) s) (hW : Wd D cA ad A s M H locs) (cf : CF ci C T N ty) (hM : Met l y (wd y bytes maxL ret) (rmD d) (PcW D cA ad (.ref (ad k) :: As) M) (QI D cA ad A r M') 0 0 A) (hk : k < M.1 ∧ (lay k).1 = ci) (hy : MY y bytes maxL ret n) (hi : Cond.instanceMethod y ∈ tblG) (hs : Cond.selects C y y ∈ tblG) (hl : Cond.methodLink own index y ∈ tblG) (hR : (rmD d).frames + 1 ≤ R.frames ∧ 8 + (maxL + 11) + (rmD d).locals ≤ R.locals) (hn : As.length = n) (hsize : ls.size = nL) (hst : st = As.reverse ++ .ref (ad k) :: rest) (hroom : (rest.map fun v => v.category).sum ≤ 8) (hc : cells + 0 ≤ R.cells ∧ slots + 0 ≤ R.slots) (hdg : decode cc pc = .ok (.invokevirtual index, 3))
    (kk : ∀ (H1 : Heap) (locs1 : List Loc), Wd D cA ad A s M' H1 locs1 → W p l e R s m args below meth c H1 locs1 cells slots Q (F0 m (pc + 3) ls (.int r :: rest))) : W p l e R s m args below meth c H locs cells slots Q (F0 m pc ls st) :=
  va_calli (va_runV hC hM ⟨k_cb hC hy hl hR, hC.2.2.2.2 _ hi, hC.2.2.2.2 _ hs⟩ (pre_v cf hk.1 hk.2 hK hW) rfl hn hsize hst (lv_room hroom) hdg hc) hW.2 (fun _ _ h => h) (fun _ h => h) (fun r' u t H1 locs1 ht hvm hw hB hz hk hS => by subst hw; exact kk H1 locs1 ⟨by rw [← ht]; exact hB, hS⟩)
theorem k_vV (hC : CallFix p m c cc nL s args tblG own) (hK : va_K D vwCl (tysOf cA) s) (hW : Wd D cA ad A s M H locs) (cf : CF ci C T N ty) (hM : Met l y (wd y bytes maxL ret) (rmD d) (PcW D cA ad (.ref (ad k) :: As) M) (QV D cA ad A M') 0 0 A) (hk : k < M.1 ∧ (lay k).1 = ci) (hy : MY y bytes maxL ret n) (hi : Cond.instanceMethod y ∈ tblG) (hs : Cond.selects C y y ∈ tblG) (hl : Cond.methodLink own index y ∈ tblG) (hR : (rmD d).frames + 1 ≤ R.frames ∧ 8 + (maxL + 11) + (rmD d).locals ≤ R.locals) (hn : As.length = n) (hsize : ls.size = nL) (hst : st = As.reverse ++ .ref (ad k) :: rest) (hroom : (rest.map fun v => v.category).sum ≤ 8) (hc : cells + 0 ≤ R.cells ∧ slots + 0 ≤ R.slots) (hdg : decode cc pc = .ok (.invokevirtual index, 3))
    (kk : ∀ (H1 : Heap) (locs1 : List Loc), Wd D cA ad A s M' H1 locs1 → W p l e R s m args below meth c H1 locs1 cells slots Q (F0 m (pc + 3) ls rest)) : W p l e R s m args below meth c H locs cells slots Q (F0 m pc ls st) :=
  va_callv (va_runV hC hM ⟨k_cb hC hy hl hR, hC.2.2.2.2 _ hi, hC.2.2.2.2 _ hs⟩ (pre_v cf hk.1 hk.2 hK hW) rfl hn hsize hst (lv_room hroom) hdg hc) hW.2 (fun _ _ h => h) (fun _ h => h) (fun u t H1 locs1 ht hvm hw hB hz hk hS => kk H1 locs1 ⟨by rw [← ht]; exact hB, hS⟩)
theorem k_vL {r : Int64} (hC : CallFix p m c cc nL s args tblG own) (hK : va_K D vwCl (tysOf cA) s) (hW : Wd D cA ad A s M H locs) (cf : CF ci C T N ty) (hM : Met l y (wd y bytes maxL ret) (rmD d) (PcW D cA ad (.ref (ad k) :: As) M) (QL D cA ad A r M') 0 0 A) (hk : k < M.1 ∧ (lay k).1 = ci) (hy : MY y bytes maxL ret n) (hi : Cond.instanceMethod y ∈ tblG) (hs : Cond.selects C y y ∈ tblG) (hl : Cond.methodLink own index y ∈ tblG) (hR : (rmD d).frames + 1 ≤ R.frames ∧ 8 + (maxL + 11) + (rmD d).locals ≤ R.locals) (hn : As.length = n) (hsize : ls.size = nL) (hst : st = As.reverse ++ .ref (ad k) :: rest) (hroom : (rest.map fun v => v.category).sum ≤ 8) (hc : cells + 0 ≤ R.cells ∧ slots + 0 ≤ R.slots) (hdg : decode cc pc = .ok (.invokevirtual index, 3))
    (kk : ∀ (H1 : Heap) (locs1 : List Loc), Wd D cA ad A s M' H1 locs1 → W p l e R s m args below meth c H1 locs1 cells slots Q (F0 m (pc + 3) ls (.long r :: rest))) : W p l e R s m args below meth c H locs cells slots Q (F0 m pc ls st) :=
  va_calll (va_runV hC hM ⟨k_cb hC hy hl hR, hC.2.2.2.2 _ hi, hC.2.2.2.2 _ hs⟩ (pre_v cf hk.1 hk.2 hK hW) rfl hn hsize hst (lv_room hroom) hdg hc) hW.2 (fun _ _ h => h) (fun _ h => h) (fun r' u t H1 locs1 ht hvm hw hB hz hk hS => by subst hw; exact kk H1 locs1 ⟨by rw [← ht]; exact hB, hS⟩)
theorem k_vR {r : Nat} (hC : CallFix p m c cc nL s args tblG own) (hK : va_K D vwCl (tysOf cA) s) (hW : Wd D cA ad A s M H locs) (cf : CF ci C T N ty) (hM : Met l y (wd y bytes maxL ret) (rmD d) (PcW D cA ad (.ref (ad k) :: As) M) (QR D cA ad A r M') 0 0 A) (hk : k < M.1 ∧ (lay k).1 = ci) (hy : MY y bytes maxL ret n) (hi : Cond.instanceMethod y ∈ tblG) (hs : Cond.selects C y y ∈ tblG) (hl : Cond.methodLink own index y ∈ tblG) (hR : (rmD d).frames + 1 ≤ R.frames ∧ 8 + (maxL + 11) + (rmD d).locals ≤ R.locals) (hn : As.length = n) (hsize : ls.size = nL) (hst : st = As.reverse ++ .ref (ad k) :: rest) (hroom : (rest.map fun v => v.category).sum ≤ 8) (hc : cells + 0 ≤ R.cells ∧ slots + 0 ≤ R.slots) (hdg : decode cc pc = .ok (.invokevirtual index, 3))
    (kk : ∀ (H1 : Heap) (locs1 : List Loc), Wd D cA ad A s M' H1 locs1 → W p l e R s m args below meth c H1 locs1 cells slots Q (F0 m (pc + 3) ls (.ref (ad r) :: rest))) : W p l e R s m args below meth c H locs cells slots Q (F0 m pc ls st) :=
  va_callr (va_runV hC hM ⟨k_cb hC hy hl hR, hC.2.2.2.2 _ hi, hC.2.2.2.2 _ hs⟩ (pre_v cf hk.1 hk.2 hK hW) rfl hn hsize hst (lv_room hroom) hdg hc) hW.2 (fun _ _ h => h) (fun _ h => h) (fun u ra t H1 locs1 ht hvm hw hB hz hk hS => by obtain ⟨h8, hB⟩ := hB; subst h8; exact kk H1 locs1 ⟨by rw [← ht]; exact hB, hS⟩)
theorem k_sI {r : Int32} (hC : CallFix p m c cc nL s args tblG own) (hK : va_K D vwCl (tysOf cA) s) (hW : Wd D cA ad A s M H locs) (hM : Met l y (wd y bytes maxL ret) (rmD d) (PcW D cA ad As M) (QI D cA ad A r M') 0 0 A) (hy : MY y bytes maxL ret n) (hi : Cond.static y ∈ tblG) (hl : Cond.methodLink own index y ∈ tblG) (hR : (rmD d).frames + 1 ≤ R.frames ∧ 8 + (maxL + 11) + (rmD d).locals ≤ R.locals) (hn : As.length = n) (hsize : ls.size = nL) (hst : st = As.reverse ++ rest) (hroom : (rest.map fun v => v.category).sum ≤ 8) (hc : cells + 0 ≤ R.cells ∧ slots + 0 ≤ R.slots) (hdg : decode cc pc = .ok (.invokestatic index, 3))
    (kk : ∀ (H1 : Heap) (locs1 : List Loc), Wd D cA ad A s M' H1 locs1 → W p l e R s m args below meth c H1 locs1 cells slots Q (F0 m (pc + 3) ls (.int r :: rest))) : W p l e R s m args below meth c H locs cells slots Q (F0 m pc ls st) :=
  va_calli (va_runS hC hM ⟨k_cb hC hy hl hR, hC.2.2.2.2 _ hi⟩ (pre_s hK hW) rfl hn hsize hst (lv_room hroom) hdg hc) hW.2 (fun _ _ h => h) (fun _ h => h) (fun r' u t H1 locs1 ht hvm hw hB hz hk hS => by subst hw; exact kk H1 locs1 ⟨by rw [← ht]; exact hB, hS⟩)
theorem k_sV (hC : CallFix p m c cc nL s args tblG own) (hK : va_K D vwCl (tysOf cA) s) (hW : Wd D cA ad A s M H locs) (hM : Met l y (wd y bytes maxL ret) (rmD d) (PcW D cA ad As M) (QV D cA ad A M') 0 0 A) (hy : MY y bytes maxL ret n) (hi : Cond.static y ∈ tblG) (hl : Cond.methodLink own index y ∈ tblG) (hR : (rmD d).frames + 1 ≤ R.frames ∧ 8 + (maxL + 11) + (rmD d).locals ≤ R.locals) (hn : As.length = n) (hsize : ls.size = nL) (hst : st = As.reverse ++ rest) (hroom : (rest.map fun v => v.category).sum ≤ 8) (hc : cells + 0 ≤ R.cells ∧ slots + 0 ≤ R.slots) (hdg : decode cc pc = .ok (.invokestatic index, 3))
    (kk : ∀ (H1 : Heap) (locs1 : List Loc), Wd D cA ad A s M' H1 locs1 → W p l e R s m args below meth c H1 locs1 cells slots Q (F0 m (pc + 3) ls rest)) : W p l e R s m args below meth c H locs cells slots Q (F0 m pc ls st) :=
  va_callv (va_runS hC hM ⟨k_cb hC hy hl hR, hC.2.2.2.2 _ hi⟩ (pre_s hK hW) rfl hn hsize hst (lv_room hroom) hdg hc) hW.2 (fun _ _ h => h) (fun _ h => h) (fun u t H1 locs1 ht hvm hw hB hz hk hS => kk H1 locs1 ⟨by rw [← ht]; exact hB, hS⟩)
/-- super.m(..) -/
theorem k_uI {r : Int32} (hC : CallFix p m c cc nL s args tblG own) (hK : va_K D vwCl (tysOf cA) s) (hW : Wd D cA ad A s M H locs) (cf : CF ci C T N ty) (hM : Met l y (wd y bytes maxL ret) (rmD d) (PcW D cA ad (.ref (ad k) :: As) M) (QI D cA ad A r M') 0 0 A) (hk : k < M.1 ∧ (lay k).1 = ci) (hy : MY y bytes maxL ret n) (hno : y.name ≠ "<init>") (hi : Cond.instanceMethod y ∈ tblG) (hsm : Cond.sameMethod y.cls y.cls y.name y.desc ∈ tblG) (hsu : Cond.superclass own y.cls ∈ tblG) (hl : Cond.methodLink own index y ∈ tblG) (hR : (rmD d).frames + 1 ≤ R.frames ∧ 8 + (maxL + 11) + (rmD d).locals ≤ R.locals) (hn : As.length = n) (hsize : ls.size = nL) (hst : st = As.reverse ++ .ref (ad k) :: rest) (hroom : (rest.map fun v => v.category).sum ≤ 8) (hc : cells + 0 ≤ R.cells ∧ slots + 0 ≤ R.slots) (hdg : decode cc pc = .ok (.invokespecial index, 3))
    (kk : ∀ (H1 : Heap) (locs1 : List Loc), Wd D cA ad A s M' H1 locs1 → W p l e R s m args below meth c H1 locs1 cells slots Q (F0 m (pc + 3) ls (.int r :: rest))) : W p l e R s m args below meth c H locs cells slots Q (F0 m pc ls st) := by
  have hb := k_cb hC hy hl hR
  have hcs : va_CS R s args own index y bytes maxL ret (wd y bytes maxL ret) (rmD d) 0 0 n := ⟨⟨rfl, rfl, hR.1, hR.2, hb.2.2.2.2.1, List.mem_cons_self⟩, hC.2.2.2.2 _ hl, hC.2.2.2.2 _ hsm, hC.2.2.2.2 _ hsu, hC.2.2.2.2 _ hi, hC.2.2.2.2 _ hy.2.1, hC.2.2.2.2 _ hy.1, hno, hb.2.2.2.2.2.2.2.2.2.1⟩
  exact va_calli (va_runSU (hK.1 ci _ cf.1).2 hC hM hcs (pre_v cf hk.1 hk.2 hK hW) rfl hn hsize hst (lv_room hroom) hdg hc) hW.2 (fun _ _ h => h) (fun _ h => h) (fun r' u t H1 locs1 ht hvm hw hB hz hk hS => by subst hw; exact kk H1 locs1 ⟨by rw [← ht]; exact hB, hS⟩)
/-- a switch over 0 .. n - 1: the row for one of the numbers, and the one for all others -/
theorem k_tbl {dflt lo hi : Int} {offs : Array Int} {len : Nat} {x v : Int32} {off : Int} {tgt : Nat} (hx : x = v) (hC : CallFix p m c cc nL s args tblG own) (hdg : decode cc pc = .ok (.tableswitch dflt lo hi offs, len)) (h1 : ¬ v.toInt < lo) (h2 : ¬ hi < v.toInt) (ho : offs[(v.toInt - lo).toNat]? = some off) (ht : (pc : Int) + off = (tgt : Int))
    (kk : W p l e R s m args below meth c H locs cells slots Q (F0 m tgt ls rest)) : W p l e R s m args below meth c H locs cells slots Q (F0 m pc ls (.int x :: rest)) := by
  subst hx
  exact lv_tableIn hC.1 hC.2.1 hdg h1 h2 ho ht kk
end KW
/-- a number that is none of 0 .. n - 1 lies outside a table from 0 -/
theorem tbl_out {x : Int32} : ∀ n : Nat, n < 2 ^ 31 → (∀ j : Nat, j < n → ¬ x = nI j) → x.toInt < 0 ∨ ((n : Int) - 1) < x.toInt := by
  intro n hn h
  by_cases h0 : x.toInt < 0
  · exact Or.inl h0
  · right
    by_cases h1 : (n : Int) - 1 < x.toInt
    · exact h1
    · exfalso
      obtain ⟨j, hj, rfl⟩ := nI_of (x := x) (fun q => h0 (by have := Int32.lt_iff_toInt_lt.mp q; simpa using this))
      have h2 := nI_toInt hj
      rw [h2] at h1
      exact h j (by omega) rfl
end
