section
-- ===== PART A: goes FIRST, ahead of the names: the tables' words, and 'selects' of the private methods out of them =====
/-- a private method of a class that the tables say can be made, by its rows of tables_1 -/
def lw_okq (q : MethodName × Nat) : Prop := (q.1.cls ≠ "java/lang/invoke/MethodHandle" ∧ q.1.cls ≠ "java/lang/invoke/VarHandle") ∧ Cond.instantiable q.1.cls q.2 ∈ tables_1 ∧ Cond.privateMethod q.1 ∈ tables_1 ∧ Cond.instanceMethod q.1 ∈ tables_1
theorem lw_p0 : lw_okq (⟨"FirstFelt$Reader", "take", "(I)Z"⟩, 9) := ⟨⟨by decide +kernel, by decide +kernel⟩, List.mem_of_getElem? (i := 22) (by decide +kernel), List.mem_of_getElem? (i := 338) (by decide +kernel), List.mem_of_getElem? (i := 339) (by decide +kernel)⟩
theorem lw_p1 : lw_okq (⟨"FirstFelt$Reader", "read", "(LFirstFelt$Town;LFirstFelt$State;)Z"⟩, 9) := ⟨⟨by decide +kernel, by decide +kernel⟩, List.mem_of_getElem? (i := 22) (by decide +kernel), List.mem_of_getElem? (i := 347) (by decide +kernel), List.mem_of_getElem? (i := 348) (by decide +kernel)⟩
theorem lw_p2 : lw_okq (⟨"FirstFelt$Town", "clear", "()V"⟩, 13) := ⟨⟨by decide +kernel, by decide +kernel⟩, List.mem_of_getElem? (i := 215) (by decide +kernel), List.mem_of_getElem? (i := 351) (by decide +kernel), List.mem_of_getElem? (i := 352) (by decide +kernel)⟩
theorem lw_p3 : lw_okq (⟨"FirstFelt$State", "clear", "()V"⟩, 18) := ⟨⟨by decide +kernel, by decide +kernel⟩, List.mem_of_getElem? (i := 84) (by decide +kernel), List.mem_of_getElem? (i := 358) (by decide +kernel), List.mem_of_getElem? (i := 359) (by decide +kernel)⟩
theorem lw_p4 : lw_okq (⟨"FirstFelt$Reader", "skipBlanks", "()V"⟩, 9) := ⟨⟨by decide +kernel, by decide +kernel⟩, List.mem_of_getElem? (i := 22) (by decide +kernel), List.mem_of_getElem? (i := 363) (by decide +kernel), List.mem_of_getElem? (i := 364) (by decide +kernel)⟩
theorem lw_p5 : lw_okq (⟨"FirstFelt$Reader", "readClause", "()Z"⟩, 9) := ⟨⟨by decide +kernel, by decide +kernel⟩, List.mem_of_getElem? (i := 22) (by decide +kernel), List.mem_of_getElem? (i := 367) (by decide +kernel), List.mem_of_getElem? (i := 368) (by decide +kernel)⟩
theorem lw_p6 : lw_okq (⟨"FirstFelt$Reader", "fail", "(II)Z"⟩, 9) := ⟨⟨by decide +kernel, by decide +kernel⟩, List.mem_of_getElem? (i := 22) (by decide +kernel), List.mem_of_getElem? (i := 371) (by decide +kernel), List.mem_of_getElem? (i := 372) (by decide +kernel)⟩
theorem lw_p7 : lw_okq (⟨"FirstFelt$Reader", "startClause", "(Z)Z"⟩, 9) := ⟨⟨by decide +kernel, by decide +kernel⟩, List.mem_of_getElem? (i := 22) (by decide +kernel), List.mem_of_getElem? (i := 375) (by decide +kernel), List.mem_of_getElem? (i := 376) (by decide +kernel)⟩
theorem lw_p8 : lw_okq (⟨"FirstFelt$Reader", "readTown", "()Z"⟩, 9) := ⟨⟨by decide +kernel, by decide +kernel⟩, List.mem_of_getElem? (i := 22) (by decide +kernel), List.mem_of_getElem? (i := 379) (by decide +kernel), List.mem_of_getElem? (i := 380) (by decide +kernel)⟩
theorem lw_p9 : lw_okq (⟨"FirstFelt$Reader", "readNumber", "(II)I"⟩, 9) := ⟨⟨by decide +kernel, by decide +kernel⟩, List.mem_of_getElem? (i := 22) (by decide +kernel), List.mem_of_getElem? (i := 383) (by decide +kernel), List.mem_of_getElem? (i := 384) (by decide +kernel)⟩
theorem lw_p10 : lw_okq (⟨"FirstFelt$Town", "setSize", "(II)V"⟩, 13) := ⟨⟨by decide +kernel, by decide +kernel⟩, List.mem_of_getElem? (i := 215) (by decide +kernel), List.mem_of_getElem? (i := 390) (by decide +kernel), List.mem_of_getElem? (i := 391) (by decide +kernel)⟩
theorem lw_p11 : lw_okq (⟨"FirstFelt$Town", "cellAt", "(II)I"⟩, 13) := ⟨⟨by decide +kernel, by decide +kernel⟩, List.mem_of_getElem? (i := 215) (by decide +kernel), List.mem_of_getElem? (i := 394) (by decide +kernel), List.mem_of_getElem? (i := 395) (by decide +kernel)⟩
theorem lw_p12 : lw_okq (⟨"FirstFelt$Reader", "endClause", "()Z"⟩, 9) := ⟨⟨by decide +kernel, by decide +kernel⟩, List.mem_of_getElem? (i := 22) (by decide +kernel), List.mem_of_getElem? (i := 399) (by decide +kernel), List.mem_of_getElem? (i := 400) (by decide +kernel)⟩
theorem lw_p13 : lw_okq (⟨"FirstFelt$Reader", "readWall", "()Z"⟩, 9) := ⟨⟨by decide +kernel, by decide +kernel⟩, List.mem_of_getElem? (i := 22) (by decide +kernel), List.mem_of_getElem? (i := 403) (by decide +kernel), List.mem_of_getElem? (i := 404) (by decide +kernel)⟩
theorem lw_p14 : lw_okq (⟨"FirstFelt$Reader", "readCell", "()I"⟩, 9) := ⟨⟨by decide +kernel, by decide +kernel⟩, List.mem_of_getElem? (i := 22) (by decide +kernel), List.mem_of_getElem? (i := 407) (by decide +kernel), List.mem_of_getElem? (i := 408) (by decide +kernel)⟩
theorem lw_p15 : lw_okq (⟨"FirstFelt$Town", "beside", "(II)I"⟩, 13) := ⟨⟨by decide +kernel, by decide +kernel⟩, List.mem_of_getElem? (i := 215) (by decide +kernel), List.mem_of_getElem? (i := 415) (by decide +kernel), List.mem_of_getElem? (i := 416) (by decide +kernel)⟩
def lw_privs_1 : List (MethodName × Nat) := [(⟨"FirstFelt$Reader", "take", "(I)Z"⟩, 9), (⟨"FirstFelt$Reader", "read", "(LFirstFelt$Town;LFirstFelt$State;)Z"⟩, 9), (⟨"FirstFelt$Town", "clear", "()V"⟩, 13), (⟨"FirstFelt$State", "clear", "()V"⟩, 18), (⟨"FirstFelt$Reader", "skipBlanks", "()V"⟩, 9), (⟨"FirstFelt$Reader", "readClause", "()Z"⟩, 9), (⟨"FirstFelt$Reader", "fail", "(II)Z"⟩, 9), (⟨"FirstFelt$Reader", "startClause", "(Z)Z"⟩, 9), (⟨"FirstFelt$Reader", "readTown", "()Z"⟩, 9), (⟨"FirstFelt$Reader", "readNumber", "(II)I"⟩, 9), (⟨"FirstFelt$Town", "setSize", "(II)V"⟩, 13), (⟨"FirstFelt$Town", "cellAt", "(II)I"⟩, 13), (⟨"FirstFelt$Reader", "endClause", "()Z"⟩, 9), (⟨"FirstFelt$Reader", "readWall", "()Z"⟩, 9), (⟨"FirstFelt$Reader", "readCell", "()I"⟩, 9), (⟨"FirstFelt$Town", "beside", "(II)I"⟩, 13)]
theorem lw_r1 : ∀ q ∈ lw_privs_1, lw_okq q := List.forall_mem_cons.mpr ⟨lw_p0, List.forall_mem_cons.mpr ⟨lw_p1, List.forall_mem_cons.mpr ⟨lw_p2, List.forall_mem_cons.mpr ⟨lw_p3, List.forall_mem_cons.mpr ⟨lw_p4, List.forall_mem_cons.mpr ⟨lw_p5, List.forall_mem_cons.mpr ⟨lw_p6, List.forall_mem_cons.mpr ⟨lw_p7, List.forall_mem_cons.mpr ⟨lw_p8, List.forall_mem_cons.mpr ⟨lw_p9, List.forall_mem_cons.mpr ⟨lw_p10, List.forall_mem_cons.mpr ⟨lw_p11, List.forall_mem_cons.mpr ⟨lw_p12, List.forall_mem_cons.mpr ⟨lw_p13, List.forall_mem_cons.mpr ⟨lw_p14, List.forall_mem_cons.mpr ⟨lw_p15, fun _ h => absurd h List.not_mem_nil⟩⟩⟩⟩⟩⟩⟩⟩⟩⟩⟩⟩⟩⟩⟩⟩
theorem lw_p16 : lw_okq (⟨"FirstFelt$State", "wallOf", "(II)I"⟩, 18) := ⟨⟨by decide +kernel, by decide +kernel⟩, List.mem_of_getElem? (i := 84) (by decide +kernel), List.mem_of_getElem? (i := 419) (by decide +kernel), List.mem_of_getElem? (i := 420) (by decide +kernel)⟩
theorem lw_p17 : lw_okq (⟨"FirstFelt$State", "setWall", "(LFirstFelt$Town;IIZ)V"⟩, 18) := ⟨⟨by decide +kernel, by decide +kernel⟩, List.mem_of_getElem? (i := 84) (by decide +kernel), List.mem_of_getElem? (i := 424) (by decide +kernel), List.mem_of_getElem? (i := 425) (by decide +kernel)⟩
theorem lw_p18 : lw_okq (⟨"FirstFelt$Reader", "readStove", "()Z"⟩, 9) := ⟨⟨by decide +kernel, by decide +kernel⟩, List.mem_of_getElem? (i := 22) (by decide +kernel), List.mem_of_getElem? (i := 429) (by decide +kernel), List.mem_of_getElem? (i := 430) (by decide +kernel)⟩
theorem lw_p19 : lw_okq (⟨"FirstFelt$Reader", "hasStove", "(I)Z"⟩, 9) := ⟨⟨by decide +kernel, by decide +kernel⟩, List.mem_of_getElem? (i := 22) (by decide +kernel), List.mem_of_getElem? (i := 433) (by decide +kernel), List.mem_of_getElem? (i := 434) (by decide +kernel)⟩
theorem lw_p20 : lw_okq (⟨"FirstFelt$Reader", "readRoof", "()Z"⟩, 9) := ⟨⟨by decide +kernel, by decide +kernel⟩, List.mem_of_getElem? (i := 22) (by decide +kernel), List.mem_of_getElem? (i := 437) (by decide +kernel), List.mem_of_getElem? (i := 438) (by decide +kernel)⟩
theorem lw_p21 : lw_okq (⟨"FirstFelt$Reader", "readSun", "()Z"⟩, 9) := ⟨⟨by decide +kernel, by decide +kernel⟩, List.mem_of_getElem? (i := 22) (by decide +kernel), List.mem_of_getElem? (i := 441) (by decide +kernel), List.mem_of_getElem? (i := 442) (by decide +kernel)⟩
theorem lw_p22 : lw_okq (⟨"FirstFelt$Reader", "readPerson", "()Z"⟩, 9) := ⟨⟨by decide +kernel, by decide +kernel⟩, List.mem_of_getElem? (i := 22) (by decide +kernel), List.mem_of_getElem? (i := 445) (by decide +kernel), List.mem_of_getElem? (i := 446) (by decide +kernel)⟩
theorem lw_p23 : lw_okq (⟨"FirstFelt$Town", "cells", "()I"⟩, 13) := ⟨⟨by decide +kernel, by decide +kernel⟩, List.mem_of_getElem? (i := 215) (by decide +kernel), List.mem_of_getElem? (i := 450) (by decide +kernel), List.mem_of_getElem? (i := 451) (by decide +kernel)⟩
theorem lw_p24 : lw_okq (⟨"FirstFelt$State", "countWalls", "(LFirstFelt$Town;)I"⟩, 18) := ⟨⟨by decide +kernel, by decide +kernel⟩, List.mem_of_getElem? (i := 84) (by decide +kernel), List.mem_of_getElem? (i := 462) (by decide +kernel), List.mem_of_getElem? (i := 463) (by decide +kernel)⟩
theorem lw_p25 : lw_okq (⟨"FirstFelt$Town", "sunAt", "(I)I"⟩, 13) := ⟨⟨by decide +kernel, by decide +kernel⟩, List.mem_of_getElem? (i := 215) (by decide +kernel), List.mem_of_getElem? (i := 468) (by decide +kernel), List.mem_of_getElem? (i := 469) (by decide +kernel)⟩
theorem lw_p26 : lw_okq (⟨"FirstFelt$State", "peopleOn", "(LFirstFelt$Town;I)I"⟩, 18) := ⟨⟨by decide +kernel, by decide +kernel⟩, List.mem_of_getElem? (i := 84) (by decide +kernel), List.mem_of_getElem? (i := 478) (by decide +kernel), List.mem_of_getElem? (i := 479) (by decide +kernel)⟩
theorem lw_p27 : lw_okq (⟨"FirstFelt", "refusalOfWall", "(III)I"⟩, 13) := ⟨⟨by decide +kernel, by decide +kernel⟩, List.mem_of_getElem? (i := 14) (by decide +kernel), List.mem_of_getElem? (i := 486) (by decide +kernel), List.mem_of_getElem? (i := 487) (by decide +kernel)⟩
theorem lw_p28 : lw_okq (⟨"FirstFelt", "isStove", "(I)Z"⟩, 13) := ⟨⟨by decide +kernel, by decide +kernel⟩, List.mem_of_getElem? (i := 14) (by decide +kernel), List.mem_of_getElem? (i := 497) (by decide +kernel), List.mem_of_getElem? (i := 498) (by decide +kernel)⟩
theorem lw_p29 : lw_okq (⟨"FirstFelt$Town", "pairOf", "(I)I"⟩, 13) := ⟨⟨by decide +kernel, by decide +kernel⟩, List.mem_of_getElem? (i := 215) (by decide +kernel), List.mem_of_getElem? (i := 501) (by decide +kernel), List.mem_of_getElem? (i := 502) (by decide +kernel)⟩
theorem lw_p30 : lw_okq (⟨"FirstFelt", "isPerson", "(I)Z"⟩, 13) := ⟨⟨by decide +kernel, by decide +kernel⟩, List.mem_of_getElem? (i := 14) (by decide +kernel), List.mem_of_getElem? (i := 509) (by decide +kernel), List.mem_of_getElem? (i := 510) (by decide +kernel)⟩
theorem lw_p31 : lw_okq (⟨"FirstFelt$State", "countOwned", "(LFirstFelt$Town;I)I"⟩, 18) := ⟨⟨by decide +kernel, by decide +kernel⟩, List.mem_of_getElem? (i := 84) (by decide +kernel), List.mem_of_getElem? (i := 513) (by decide +kernel), List.mem_of_getElem? (i := 514) (by decide +kernel)⟩
def lw_privs_2 : List (MethodName × Nat) := [(⟨"FirstFelt$State", "wallOf", "(II)I"⟩, 18), (⟨"FirstFelt$State", "setWall", "(LFirstFelt$Town;IIZ)V"⟩, 18), (⟨"FirstFelt$Reader", "readStove", "()Z"⟩, 9), (⟨"FirstFelt$Reader", "hasStove", "(I)Z"⟩, 9), (⟨"FirstFelt$Reader", "readRoof", "()Z"⟩, 9), (⟨"FirstFelt$Reader", "readSun", "()Z"⟩, 9), (⟨"FirstFelt$Reader", "readPerson", "()Z"⟩, 9), (⟨"FirstFelt$Town", "cells", "()I"⟩, 13), (⟨"FirstFelt$State", "countWalls", "(LFirstFelt$Town;)I"⟩, 18), (⟨"FirstFelt$Town", "sunAt", "(I)I"⟩, 13), (⟨"FirstFelt$State", "peopleOn", "(LFirstFelt$Town;I)I"⟩, 18), (⟨"FirstFelt", "refusalOfWall", "(III)I"⟩, 13), (⟨"FirstFelt", "isStove", "(I)Z"⟩, 13), (⟨"FirstFelt$Town", "pairOf", "(I)I"⟩, 13), (⟨"FirstFelt", "isPerson", "(I)Z"⟩, 13), (⟨"FirstFelt$State", "countOwned", "(LFirstFelt$Town;I)I"⟩, 18)]
theorem lw_r2 : ∀ q ∈ lw_privs_2, lw_okq q := List.forall_mem_cons.mpr ⟨lw_p16, List.forall_mem_cons.mpr ⟨lw_p17, List.forall_mem_cons.mpr ⟨lw_p18, List.forall_mem_cons.mpr ⟨lw_p19, List.forall_mem_cons.mpr ⟨lw_p20, List.forall_mem_cons.mpr ⟨lw_p21, List.forall_mem_cons.mpr ⟨lw_p22, List.forall_mem_cons.mpr ⟨lw_p23, List.forall_mem_cons.mpr ⟨lw_p24, List.forall_mem_cons.mpr ⟨lw_p25, List.forall_mem_cons.mpr ⟨lw_p26, List.forall_mem_cons.mpr ⟨lw_p27, List.forall_mem_cons.mpr ⟨lw_p28, List.forall_mem_cons.mpr ⟨lw_p29, List.forall_mem_cons.mpr ⟨lw_p30, List.forall_mem_cons.mpr ⟨lw_p31, fun _ h => absurd h List.not_mem_nil⟩⟩⟩⟩⟩⟩⟩⟩⟩⟩⟩⟩⟩⟩⟩⟩
theorem lw_p32 : lw_okq (⟨"FirstFelt$State", "reach", "(LFirstFelt$Town;II)I"⟩, 18) := ⟨⟨by decide +kernel, by decide +kernel⟩, List.mem_of_getElem? (i := 84) (by decide +kernel), List.mem_of_getElem? (i := 521) (by decide +kernel), List.mem_of_getElem? (i := 522) (by decide +kernel)⟩
theorem lw_p33 : lw_okq (⟨"FirstFelt$State", "canBeLit", "(I)Z"⟩, 18) := ⟨⟨by decide +kernel, by decide +kernel⟩, List.mem_of_getElem? (i := 84) (by decide +kernel), List.mem_of_getElem? (i := 535) (by decide +kernel), List.mem_of_getElem? (i := 536) (by decide +kernel)⟩
theorem lw_p34 : lw_okq (⟨"FirstFelt", "refusalOfMinutes", "(I)I"⟩, 13) := ⟨⟨by decide +kernel, by decide +kernel⟩, List.mem_of_getElem? (i := 14) (by decide +kernel), List.mem_of_getElem? (i := 559) (by decide +kernel), List.mem_of_getElem? (i := 560) (by decide +kernel)⟩
theorem lw_p35 : lw_okq (⟨"FirstFelt$State", "passMinutes", "(LFirstFelt$Town;II)V"⟩, 18) := ⟨⟨by decide +kernel, by decide +kernel⟩, List.mem_of_getElem? (i := 84) (by decide +kernel), List.mem_of_getElem? (i := 567) (by decide +kernel), List.mem_of_getElem? (i := 568) (by decide +kernel)⟩
theorem lw_p36 : lw_okq (⟨"FirstFelt$State", "passMinute", "(LFirstFelt$Town;I)V"⟩, 18) := ⟨⟨by decide +kernel, by decide +kernel⟩, List.mem_of_getElem? (i := 84) (by decide +kernel), List.mem_of_getElem? (i := 571) (by decide +kernel), List.mem_of_getElem? (i := 572) (by decide +kernel)⟩
theorem lw_p37 : lw_okq (⟨"FirstFelt$State", "flow", "(LFirstFelt$Town;)V"⟩, 18) := ⟨⟨by decide +kernel, by decide +kernel⟩, List.mem_of_getElem? (i := 84) (by decide +kernel), List.mem_of_getElem? (i := 575) (by decide +kernel), List.mem_of_getElem? (i := 576) (by decide +kernel)⟩
theorem lw_p38 : lw_okq (⟨"FirstFelt$State", "flowBetween", "(II)V"⟩, 18) := ⟨⟨by decide +kernel, by decide +kernel⟩, List.mem_of_getElem? (i := 84) (by decide +kernel), List.mem_of_getElem? (i := 583) (by decide +kernel), List.mem_of_getElem? (i := 584) (by decide +kernel)⟩
theorem lw_p39 : lw_okq (⟨"FirstFelt$State", "addWarmth", "(LFirstFelt$Town;)V"⟩, 18) := ⟨⟨by decide +kernel, by decide +kernel⟩, List.mem_of_getElem? (i := 84) (by decide +kernel), List.mem_of_getElem? (i := 587) (by decide +kernel), List.mem_of_getElem? (i := 588) (by decide +kernel)⟩
theorem lw_p40 : lw_okq (⟨"FirstFelt$State", "coolDown", "(LFirstFelt$Town;)V"⟩, 18) := ⟨⟨by decide +kernel, by decide +kernel⟩, List.mem_of_getElem? (i := 84) (by decide +kernel), List.mem_of_getElem? (i := 591) (by decide +kernel), List.mem_of_getElem? (i := 592) (by decide +kernel)⟩
theorem lw_p41 : lw_okq (⟨"FirstFelt$State", "feel", "(LFirstFelt$Town;I)V"⟩, 18) := ⟨⟨by decide +kernel, by decide +kernel⟩, List.mem_of_getElem? (i := 84) (by decide +kernel), List.mem_of_getElem? (i := 597) (by decide +kernel), List.mem_of_getElem? (i := 598) (by decide +kernel)⟩
theorem lw_p42 : lw_okq (⟨"FirstFelt$State", "takeCells", "(LFirstFelt$Town;)V"⟩, 18) := ⟨⟨by decide +kernel, by decide +kernel⟩, List.mem_of_getElem? (i := 84) (by decide +kernel), List.mem_of_getElem? (i := 601) (by decide +kernel), List.mem_of_getElem? (i := 602) (by decide +kernel)⟩
theorem lw_p43 : lw_okq (⟨"FirstFelt$State", "feels", "(I)Z"⟩, 18) := ⟨⟨by decide +kernel, by decide +kernel⟩, List.mem_of_getElem? (i := 84) (by decide +kernel), List.mem_of_getElem? (i := 605) (by decide +kernel), List.mem_of_getElem? (i := 606) (by decide +kernel)⟩
theorem lw_p44 : lw_okq (⟨"FirstFelt$State", "coldestFeeling", "(LFirstFelt$Town;I)I"⟩, 18) := ⟨⟨by decide +kernel, by decide +kernel⟩, List.mem_of_getElem? (i := 84) (by decide +kernel), List.mem_of_getElem? (i := 609) (by decide +kernel), List.mem_of_getElem? (i := 610) (by decide +kernel)⟩
theorem lw_p45 : lw_okq (⟨"FirstFelt$State", "keepLaw", "(LFirstFelt$Town;)V"⟩, 18) := ⟨⟨by decide +kernel, by decide +kernel⟩, List.mem_of_getElem? (i := 84) (by decide +kernel), List.mem_of_getElem? (i := 613) (by decide +kernel), List.mem_of_getElem? (i := 614) (by decide +kernel)⟩
theorem lw_p46 : lw_okq (⟨"FirstFelt$State", "endOwning", "(LFirstFelt$Town;)V"⟩, 18) := ⟨⟨by decide +kernel, by decide +kernel⟩, List.mem_of_getElem? (i := 84) (by decide +kernel), List.mem_of_getElem? (i := 617) (by decide +kernel), List.mem_of_getElem? (i := 618) (by decide +kernel)⟩
theorem lw_p47 : lw_okq (⟨"FirstFelt$State", "makePartners", "(LFirstFelt$Town;)V"⟩, 18) := ⟨⟨by decide +kernel, by decide +kernel⟩, List.mem_of_getElem? (i := 84) (by decide +kernel), List.mem_of_getElem? (i := 621) (by decide +kernel), List.mem_of_getElem? (i := 622) (by decide +kernel)⟩
def lw_privs_3 : List (MethodName × Nat) := [(⟨"FirstFelt$State", "reach", "(LFirstFelt$Town;II)I"⟩, 18), (⟨"FirstFelt$State", "canBeLit", "(I)Z"⟩, 18), (⟨"FirstFelt", "refusalOfMinutes", "(I)I"⟩, 13), (⟨"FirstFelt$State", "passMinutes", "(LFirstFelt$Town;II)V"⟩, 18), (⟨"FirstFelt$State", "passMinute", "(LFirstFelt$Town;I)V"⟩, 18), (⟨"FirstFelt$State", "flow", "(LFirstFelt$Town;)V"⟩, 18), (⟨"FirstFelt$State", "flowBetween", "(II)V"⟩, 18), (⟨"FirstFelt$State", "addWarmth", "(LFirstFelt$Town;)V"⟩, 18), (⟨"FirstFelt$State", "coolDown", "(LFirstFelt$Town;)V"⟩, 18), (⟨"FirstFelt$State", "feel", "(LFirstFelt$Town;I)V"⟩, 18), (⟨"FirstFelt$State", "takeCells", "(LFirstFelt$Town;)V"⟩, 18), (⟨"FirstFelt$State", "feels", "(I)Z"⟩, 18), (⟨"FirstFelt$State", "coldestFeeling", "(LFirstFelt$Town;I)I"⟩, 18), (⟨"FirstFelt$State", "keepLaw", "(LFirstFelt$Town;)V"⟩, 18), (⟨"FirstFelt$State", "endOwning", "(LFirstFelt$Town;)V"⟩, 18), (⟨"FirstFelt$State", "makePartners", "(LFirstFelt$Town;)V"⟩, 18)]
theorem lw_r3 : ∀ q ∈ lw_privs_3, lw_okq q := List.forall_mem_cons.mpr ⟨lw_p32, List.forall_mem_cons.mpr ⟨lw_p33, List.forall_mem_cons.mpr ⟨lw_p34, List.forall_mem_cons.mpr ⟨lw_p35, List.forall_mem_cons.mpr ⟨lw_p36, List.forall_mem_cons.mpr ⟨lw_p37, List.forall_mem_cons.mpr ⟨lw_p38, List.forall_mem_cons.mpr ⟨lw_p39, List.forall_mem_cons.mpr ⟨lw_p40, List.forall_mem_cons.mpr ⟨lw_p41, List.forall_mem_cons.mpr ⟨lw_p42, List.forall_mem_cons.mpr ⟨lw_p43, List.forall_mem_cons.mpr ⟨lw_p44, List.forall_mem_cons.mpr ⟨lw_p45, List.forall_mem_cons.mpr ⟨lw_p46, List.forall_mem_cons.mpr ⟨lw_p47, fun _ h => absurd h List.not_mem_nil⟩⟩⟩⟩⟩⟩⟩⟩⟩⟩⟩⟩⟩⟩⟩⟩
theorem lw_p48 : lw_okq (⟨"FirstFelt$State", "oweForWarmth", "(LFirstFelt$Town;)V"⟩, 18) := ⟨⟨by decide +kernel, by decide +kernel⟩, List.mem_of_getElem? (i := 84) (by decide +kernel), List.mem_of_getElem? (i := 625) (by decide +kernel), List.mem_of_getElem? (i := 626) (by decide +kernel)⟩
theorem lw_p49 : lw_okq (⟨"FirstFelt$State", "isDear", "(II)Z"⟩, 18) := ⟨⟨by decide +kernel, by decide +kernel⟩, List.mem_of_getElem? (i := 84) (by decide +kernel), List.mem_of_getElem? (i := 629) (by decide +kernel), List.mem_of_getElem? (i := 630) (by decide +kernel)⟩
theorem lw_p50 : lw_okq (⟨"FirstFelt$State", "warmSkins", "(LFirstFelt$Town;)V"⟩, 18) := ⟨⟨by decide +kernel, by decide +kernel⟩, List.mem_of_getElem? (i := 84) (by decide +kernel), List.mem_of_getElem? (i := 634) (by decide +kernel), List.mem_of_getElem? (i := 635) (by decide +kernel)⟩
theorem lw_p51 : lw_okq (⟨"FirstFelt", "wander", "()V"⟩, 13) := ⟨⟨by decide +kernel, by decide +kernel⟩, List.mem_of_getElem? (i := 14) (by decide +kernel), List.mem_of_getElem? (i := 642) (by decide +kernel), List.mem_of_getElem? (i := 643) (by decide +kernel)⟩
theorem lw_p52 : lw_okq (⟨"FirstFelt$State", "draw", "(I)I"⟩, 18) := ⟨⟨by decide +kernel, by decide +kernel⟩, List.mem_of_getElem? (i := 84) (by decide +kernel), List.mem_of_getElem? (i := 646) (by decide +kernel), List.mem_of_getElem? (i := 647) (by decide +kernel)⟩
theorem lw_p53 : lw_okq (⟨"FirstFelt$State", "copyFrom", "(LFirstFelt$State;)V"⟩, 18) := ⟨⟨by decide +kernel, by decide +kernel⟩, List.mem_of_getElem? (i := 84) (by decide +kernel), List.mem_of_getElem? (i := 659) (by decide +kernel), List.mem_of_getElem? (i := 660) (by decide +kernel)⟩
theorem lw_p54 : lw_okq (⟨"FirstFelt$Tour", "begin", "(LFirstFelt$Town;LFirstFelt$State;II)V"⟩, 7) := ⟨⟨by decide +kernel, by decide +kernel⟩, List.mem_of_getElem? (i := 167) (by decide +kernel), List.mem_of_getElem? (i := 667) (by decide +kernel), List.mem_of_getElem? (i := 668) (by decide +kernel)⟩
theorem lw_p55 : lw_okq (⟨"FirstFelt$Tour", "finish", "(I)V"⟩, 7) := ⟨⟨by decide +kernel, by decide +kernel⟩, List.mem_of_getElem? (i := 167) (by decide +kernel), List.mem_of_getElem? (i := 675) (by decide +kernel), List.mem_of_getElem? (i := 676) (by decide +kernel)⟩
theorem lw_p56 : lw_okq (⟨"FirstFelt", "refusalOfLighting", "(III)I"⟩, 13) := ⟨⟨by decide +kernel, by decide +kernel⟩, List.mem_of_getElem? (i := 14) (by decide +kernel), List.mem_of_getElem? (i := 684) (by decide +kernel), List.mem_of_getElem? (i := 685) (by decide +kernel)⟩
theorem lw_p57 : lw_okq (⟨"FirstFelt", "ownsStove", "(LFirstFelt$State;IIII)Z"⟩, 13) := ⟨⟨by decide +kernel, by decide +kernel⟩, List.mem_of_getElem? (i := 14) (by decide +kernel), List.mem_of_getElem? (i := 688) (by decide +kernel), List.mem_of_getElem? (i := 689) (by decide +kernel)⟩
theorem lw_p58 : lw_okq (⟨"FirstFelt", "ownedWithWall", "(IIIIZ)I"⟩, 13) := ⟨⟨by decide +kernel, by decide +kernel⟩, List.mem_of_getElem? (i := 14) (by decide +kernel), List.mem_of_getElem? (i := 700) (by decide +kernel), List.mem_of_getElem? (i := 701) (by decide +kernel)⟩
theorem lw_p59 : lw_okq (⟨"FirstFelt$Market", "settle", "(LFirstFelt$Town;LFirstFelt$State;)I"⟩, 1) := ⟨⟨by decide +kernel, by decide +kernel⟩, List.mem_of_getElem? (i := 204) (by decide +kernel), List.mem_of_getElem? (i := 708) (by decide +kernel), List.mem_of_getElem? (i := 709) (by decide +kernel)⟩
theorem lw_p60 : lw_okq (⟨"FirstFelt$Market", "askAnew", "(LFirstFelt$Town;LFirstFelt$State;)Z"⟩, 1) := ⟨⟨by decide +kernel, by decide +kernel⟩, List.mem_of_getElem? (i := 204) (by decide +kernel), List.mem_of_getElem? (i := 713) (by decide +kernel), List.mem_of_getElem? (i := 714) (by decide +kernel)⟩
theorem lw_p61 : lw_okq (⟨"FirstFelt$Market", "bestRent", "(LFirstFelt$Town;LFirstFelt$State;I)I"⟩, 1) := ⟨⟨by decide +kernel, by decide +kernel⟩, List.mem_of_getElem? (i := 204) (by decide +kernel), List.mem_of_getElem? (i := 717) (by decide +kernel), List.mem_of_getElem? (i := 718) (by decide +kernel)⟩
theorem lw_p62 : lw_okq (⟨"FirstFelt$Market", "countLet", "(LFirstFelt$Town;LFirstFelt$State;II)I"⟩, 1) := ⟨⟨by decide +kernel, by decide +kernel⟩, List.mem_of_getElem? (i := 204) (by decide +kernel), List.mem_of_getElem? (i := 721) (by decide +kernel), List.mem_of_getElem? (i := 722) (by decide +kernel)⟩
theorem lw_p63 : lw_okq (⟨"FirstFelt$Market", "isUndercut", "(LFirstFelt$Town;LFirstFelt$State;II)Z"⟩, 1) := ⟨⟨by decide +kernel, by decide +kernel⟩, List.mem_of_getElem? (i := 204) (by decide +kernel), List.mem_of_getElem? (i := 726) (by decide +kernel), List.mem_of_getElem? (i := 727) (by decide +kernel)⟩
def lw_privs_4 : List (MethodName × Nat) := [(⟨"FirstFelt$State", "oweForWarmth", "(LFirstFelt$Town;)V"⟩, 18), (⟨"FirstFelt$State", "isDear", "(II)Z"⟩, 18), (⟨"FirstFelt$State", "warmSkins", "(LFirstFelt$Town;)V"⟩, 18), (⟨"FirstFelt", "wander", "()V"⟩, 13), (⟨"FirstFelt$State", "draw", "(I)I"⟩, 18), (⟨"FirstFelt$State", "copyFrom", "(LFirstFelt$State;)V"⟩, 18), (⟨"FirstFelt$Tour", "begin", "(LFirstFelt$Town;LFirstFelt$State;II)V"⟩, 7), (⟨"FirstFelt$Tour", "finish", "(I)V"⟩, 7), (⟨"FirstFelt", "refusalOfLighting", "(III)I"⟩, 13), (⟨"FirstFelt", "ownsStove", "(LFirstFelt$State;IIII)Z"⟩, 13), (⟨"FirstFelt", "ownedWithWall", "(IIIIZ)I"⟩, 13), (⟨"FirstFelt$Market", "settle", "(LFirstFelt$Town;LFirstFelt$State;)I"⟩, 1), (⟨"FirstFelt$Market", "askAnew", "(LFirstFelt$Town;LFirstFelt$State;)Z"⟩, 1), (⟨"FirstFelt$Market", "bestRent", "(LFirstFelt$Town;LFirstFelt$State;I)I"⟩, 1), (⟨"FirstFelt$Market", "countLet", "(LFirstFelt$Town;LFirstFelt$State;II)I"⟩, 1), (⟨"FirstFelt$Market", "isUndercut", "(LFirstFelt$Town;LFirstFelt$State;II)Z"⟩, 1)]
theorem lw_r4 : ∀ q ∈ lw_privs_4, lw_okq q := List.forall_mem_cons.mpr ⟨lw_p48, List.forall_mem_cons.mpr ⟨lw_p49, List.forall_mem_cons.mpr ⟨lw_p50, List.forall_mem_cons.mpr ⟨lw_p51, List.forall_mem_cons.mpr ⟨lw_p52, List.forall_mem_cons.mpr ⟨lw_p53, List.forall_mem_cons.mpr ⟨lw_p54, List.forall_mem_cons.mpr ⟨lw_p55, List.forall_mem_cons.mpr ⟨lw_p56, List.forall_mem_cons.mpr ⟨lw_p57, List.forall_mem_cons.mpr ⟨lw_p58, List.forall_mem_cons.mpr ⟨lw_p59, List.forall_mem_cons.mpr ⟨lw_p60, List.forall_mem_cons.mpr ⟨lw_p61, List.forall_mem_cons.mpr ⟨lw_p62, List.forall_mem_cons.mpr ⟨lw_p63, fun _ h => absurd h List.not_mem_nil⟩⟩⟩⟩⟩⟩⟩⟩⟩⟩⟩⟩⟩⟩⟩⟩
theorem lw_p64 : lw_okq (⟨"FirstFelt$Town", "cellOfPair", "(I)I"⟩, 13) := ⟨⟨by decide +kernel, by decide +kernel⟩, List.mem_of_getElem? (i := 215) (by decide +kernel), List.mem_of_getElem? (i := 735) (by decide +kernel), List.mem_of_getElem? (i := 736) (by decide +kernel)⟩
theorem lw_p65 : lw_okq (⟨"FirstFelt$Papers", "write", "(III)Z"⟩, 4) := ⟨⟨by decide +kernel, by decide +kernel⟩, List.mem_of_getElem? (i := 60) (by decide +kernel), List.mem_of_getElem? (i := 739) (by decide +kernel), List.mem_of_getElem? (i := 740) (by decide +kernel)⟩
theorem lw_p66 : lw_okq (⟨"FirstFelt$Papers", "latest", "()I"⟩, 4) := ⟨⟨by decide +kernel, by decide +kernel⟩, List.mem_of_getElem? (i := 60) (by decide +kernel), List.mem_of_getElem? (i := 747) (by decide +kernel), List.mem_of_getElem? (i := 748) (by decide +kernel)⟩
theorem lw_p67 : lw_okq (⟨"FirstFelt$Papers", "notFeltAt", "(ILFirstFelt$State;)I"⟩, 4) := ⟨⟨by decide +kernel, by decide +kernel⟩, List.mem_of_getElem? (i := 60) (by decide +kernel), List.mem_of_getElem? (i := 751) (by decide +kernel), List.mem_of_getElem? (i := 752) (by decide +kernel)⟩
theorem lw_p68 : lw_okq (⟨"FirstFelt", "countFreezing", "(II)I"⟩, 13) := ⟨⟨by decide +kernel, by decide +kernel⟩, List.mem_of_getElem? (i := 14) (by decide +kernel), List.mem_of_getElem? (i := 760) (by decide +kernel), List.mem_of_getElem? (i := 761) (by decide +kernel)⟩
theorem lw_p69 : lw_okq (⟨"FirstFelt$State", "leaveDearCells", "(LFirstFelt$Town;)V"⟩, 18) := ⟨⟨by decide +kernel, by decide +kernel⟩, List.mem_of_getElem? (i := 84) (by decide +kernel), List.mem_of_getElem? (i := 764) (by decide +kernel), List.mem_of_getElem? (i := 765) (by decide +kernel)⟩
theorem lw_p70 : lw_okq (⟨"FirstFelt$State", "refuge", "(LFirstFelt$Town;I)I"⟩, 18) := ⟨⟨by decide +kernel, by decide +kernel⟩, List.mem_of_getElem? (i := 84) (by decide +kernel), List.mem_of_getElem? (i := 768) (by decide +kernel), List.mem_of_getElem? (i := 769) (by decide +kernel)⟩
theorem lw_p71 : lw_okq (⟨"FirstFelt", "fitsLitNow", "(II)Z"⟩, 13) := ⟨⟨by decide +kernel, by decide +kernel⟩, List.mem_of_getElem? (i := 14) (by decide +kernel), List.mem_of_getElem? (i := 790) (by decide +kernel), List.mem_of_getElem? (i := 791) (by decide +kernel)⟩
theorem lw_p72 : lw_okq (⟨"FirstFelt$Papers", "ownedAt", "(ILFirstFelt$State;)Z"⟩, 4) := ⟨⟨by decide +kernel, by decide +kernel⟩, List.mem_of_getElem? (i := 60) (by decide +kernel), List.mem_of_getElem? (i := 794) (by decide +kernel), List.mem_of_getElem? (i := 795) (by decide +kernel)⟩
theorem lw_p73 : lw_okq (⟨"FirstFeltModel", "emptyNow", "()V"⟩, 52) := ⟨⟨by decide +kernel, by decide +kernel⟩, List.mem_of_getElem? (i := 814) (by decide +kernel), List.mem_of_getElem? (i := 820) (by decide +kernel), List.mem_of_getElem? (i := 821) (by decide +kernel)⟩
theorem lw_p74 : lw_okq (⟨"FirstFeltModel", "readsAll", "()Z"⟩, 52) := ⟨⟨by decide +kernel, by decide +kernel⟩, List.mem_of_getElem? (i := 814) (by decide +kernel), List.mem_of_getElem? (i := 996) (by decide +kernel), List.mem_of_getElem? (i := 997) (by decide +kernel)⟩
theorem lw_p75 : lw_okq (⟨"FirstFeltModel", "look", "(I)V"⟩, 52) := ⟨⟨by decide +kernel, by decide +kernel⟩, List.mem_of_getElem? (i := 814) (by decide +kernel), List.mem_of_getElem? (i := 1000) (by decide +kernel), List.mem_of_getElem? (i := 1001) (by decide +kernel)⟩
theorem lw_p76 : lw_okq (⟨"FirstFeltModel", "readsTown", "()Z"⟩, 52) := ⟨⟨by decide +kernel, by decide +kernel⟩, List.mem_of_getElem? (i := 814) (by decide +kernel), List.mem_of_getElem? (i := 1010) (by decide +kernel), List.mem_of_getElem? (i := 1011) (by decide +kernel)⟩
theorem lw_p77 : lw_okq (⟨"FirstFeltModel", "faults", "(I)Z"⟩, 52) := ⟨⟨by decide +kernel, by decide +kernel⟩, List.mem_of_getElem? (i := 814) (by decide +kernel), List.mem_of_getElem? (i := 1014) (by decide +kernel), List.mem_of_getElem? (i := 1015) (by decide +kernel)⟩
theorem lw_p78 : lw_okq (⟨"FirstFeltModel", "goOn", "()V"⟩, 52) := ⟨⟨by decide +kernel, by decide +kernel⟩, List.mem_of_getElem? (i := 814) (by decide +kernel), List.mem_of_getElem? (i := 1018) (by decide +kernel), List.mem_of_getElem? (i := 1019) (by decide +kernel)⟩
theorem lw_p79 : lw_okq (⟨"FirstFeltModel", "takes", "(II)Z"⟩, 52) := ⟨⟨by decide +kernel, by decide +kernel⟩, List.mem_of_getElem? (i := 814) (by decide +kernel), List.mem_of_getElem? (i := 1022) (by decide +kernel), List.mem_of_getElem? (i := 1023) (by decide +kernel)⟩
def lw_privs_5 : List (MethodName × Nat) := [(⟨"FirstFelt$Town", "cellOfPair", "(I)I"⟩, 13), (⟨"FirstFelt$Papers", "write", "(III)Z"⟩, 4), (⟨"FirstFelt$Papers", "latest", "()I"⟩, 4), (⟨"FirstFelt$Papers", "notFeltAt", "(ILFirstFelt$State;)I"⟩, 4), (⟨"FirstFelt", "countFreezing", "(II)I"⟩, 13), (⟨"FirstFelt$State", "leaveDearCells", "(LFirstFelt$Town;)V"⟩, 18), (⟨"FirstFelt$State", "refuge", "(LFirstFelt$Town;I)I"⟩, 18), (⟨"FirstFelt", "fitsLitNow", "(II)Z"⟩, 13), (⟨"FirstFelt$Papers", "ownedAt", "(ILFirstFelt$State;)Z"⟩, 4), (⟨"FirstFeltModel", "emptyNow", "()V"⟩, 52), (⟨"FirstFeltModel", "readsAll", "()Z"⟩, 52), (⟨"FirstFeltModel", "look", "(I)V"⟩, 52), (⟨"FirstFeltModel", "readsTown", "()Z"⟩, 52), (⟨"FirstFeltModel", "faults", "(I)Z"⟩, 52), (⟨"FirstFeltModel", "goOn", "()V"⟩, 52), (⟨"FirstFeltModel", "takes", "(II)Z"⟩, 52)]
theorem lw_r5 : ∀ q ∈ lw_privs_5, lw_okq q := List.forall_mem_cons.mpr ⟨lw_p64, List.forall_mem_cons.mpr ⟨lw_p65, List.forall_mem_cons.mpr ⟨lw_p66, List.forall_mem_cons.mpr ⟨lw_p67, List.forall_mem_cons.mpr ⟨lw_p68, List.forall_mem_cons.mpr ⟨lw_p69, List.forall_mem_cons.mpr ⟨lw_p70, List.forall_mem_cons.mpr ⟨lw_p71, List.forall_mem_cons.mpr ⟨lw_p72, List.forall_mem_cons.mpr ⟨lw_p73, List.forall_mem_cons.mpr ⟨lw_p74, List.forall_mem_cons.mpr ⟨lw_p75, List.forall_mem_cons.mpr ⟨lw_p76, List.forall_mem_cons.mpr ⟨lw_p77, List.forall_mem_cons.mpr ⟨lw_p78, List.forall_mem_cons.mpr ⟨lw_p79, fun _ h => absurd h List.not_mem_nil⟩⟩⟩⟩⟩⟩⟩⟩⟩⟩⟩⟩⟩⟩⟩⟩
theorem lw_p80 : lw_okq (⟨"FirstFeltModel", "stops", "()Z"⟩, 52) := ⟨⟨by decide +kernel, by decide +kernel⟩, List.mem_of_getElem? (i := 814) (by decide +kernel), List.mem_of_getElem? (i := 1027) (by decide +kernel), List.mem_of_getElem? (i := 1028) (by decide +kernel)⟩
theorem lw_p81 : lw_okq (⟨"FirstFeltModel", "readsClause", "()Z"⟩, 52) := ⟨⟨by decide +kernel, by decide +kernel⟩, List.mem_of_getElem? (i := 814) (by decide +kernel), List.mem_of_getElem? (i := 1031) (by decide +kernel), List.mem_of_getElem? (i := 1032) (by decide +kernel)⟩
theorem lw_p82 : lw_okq (⟨"FirstFeltModel", "readsWall", "()Z"⟩, 52) := ⟨⟨by decide +kernel, by decide +kernel⟩, List.mem_of_getElem? (i := 814) (by decide +kernel), List.mem_of_getElem? (i := 1035) (by decide +kernel), List.mem_of_getElem? (i := 1036) (by decide +kernel)⟩
theorem lw_p83 : lw_okq (⟨"FirstFeltModel", "takesX", "()Z"⟩, 52) := ⟨⟨by decide +kernel, by decide +kernel⟩, List.mem_of_getElem? (i := 814) (by decide +kernel), List.mem_of_getElem? (i := 1039) (by decide +kernel), List.mem_of_getElem? (i := 1040) (by decide +kernel)⟩
theorem lw_p84 : lw_okq (⟨"FirstFeltModel", "seesY", "(I)Z"⟩, 52) := ⟨⟨by decide +kernel, by decide +kernel⟩, List.mem_of_getElem? (i := 814) (by decide +kernel), List.mem_of_getElem? (i := 1043) (by decide +kernel), List.mem_of_getElem? (i := 1044) (by decide +kernel)⟩
theorem lw_p85 : lw_okq (⟨"FirstFeltModel", "readsStove", "()Z"⟩, 52) := ⟨⟨by decide +kernel, by decide +kernel⟩, List.mem_of_getElem? (i := 814) (by decide +kernel), List.mem_of_getElem? (i := 1047) (by decide +kernel), List.mem_of_getElem? (i := 1048) (by decide +kernel)⟩
theorem lw_p86 : lw_okq (⟨"FirstFeltModel", "readsRoof", "()Z"⟩, 52) := ⟨⟨by decide +kernel, by decide +kernel⟩, List.mem_of_getElem? (i := 814) (by decide +kernel), List.mem_of_getElem? (i := 1051) (by decide +kernel), List.mem_of_getElem? (i := 1052) (by decide +kernel)⟩
theorem lw_p87 : lw_okq (⟨"FirstFeltModel", "readsSun", "()Z"⟩, 52) := ⟨⟨by decide +kernel, by decide +kernel⟩, List.mem_of_getElem? (i := 814) (by decide +kernel), List.mem_of_getElem? (i := 1055) (by decide +kernel), List.mem_of_getElem? (i := 1056) (by decide +kernel)⟩
theorem lw_p88 : lw_okq (⟨"FirstFeltModel", "readsPerson", "()Z"⟩, 52) := ⟨⟨by decide +kernel, by decide +kernel⟩, List.mem_of_getElem? (i := 814) (by decide +kernel), List.mem_of_getElem? (i := 1059) (by decide +kernel), List.mem_of_getElem? (i := 1060) (by decide +kernel)⟩
theorem lw_p89 : lw_okq (⟨"FirstFeltModel", "cells", "()I"⟩, 52) := ⟨⟨by decide +kernel, by decide +kernel⟩, List.mem_of_getElem? (i := 814) (by decide +kernel), List.mem_of_getElem? (i := 1063) (by decide +kernel), List.mem_of_getElem? (i := 1064) (by decide +kernel)⟩
theorem lw_p90 : lw_okq (⟨"FirstFeltModel", "wallsNow", "()I"⟩, 52) := ⟨⟨by decide +kernel, by decide +kernel⟩, List.mem_of_getElem? (i := 814) (by decide +kernel), List.mem_of_getElem? (i := 1075) (by decide +kernel), List.mem_of_getElem? (i := 1076) (by decide +kernel)⟩
theorem lw_p91 : lw_okq (⟨"FirstFeltModel", "sunAt", "(I)I"⟩, 52) := ⟨⟨by decide +kernel, by decide +kernel⟩, List.mem_of_getElem? (i := 814) (by decide +kernel), List.mem_of_getElem? (i := 1079) (by decide +kernel), List.mem_of_getElem? (i := 1080) (by decide +kernel)⟩
theorem lw_p92 : lw_okq (⟨"FirstFeltModel", "isCell", "(II)Z"⟩, 52) := ⟨⟨by decide +kernel, by decide +kernel⟩, List.mem_of_getElem? (i := 814) (by decide +kernel), List.mem_of_getElem? (i := 1087) (by decide +kernel), List.mem_of_getElem? (i := 1088) (by decide +kernel)⟩
theorem lw_p93 : lw_okq (⟨"FirstFeltModel", "onCell", "(I)I"⟩, 52) := ⟨⟨by decide +kernel, by decide +kernel⟩, List.mem_of_getElem? (i := 814) (by decide +kernel), List.mem_of_getElem? (i := 1092) (by decide +kernel), List.mem_of_getElem? (i := 1093) (by decide +kernel)⟩
theorem lw_p94 : lw_okq (⟨"FirstFeltModel", "notWall", "(III)I"⟩, 52) := ⟨⟨by decide +kernel, by decide +kernel⟩, List.mem_of_getElem? (i := 814) (by decide +kernel), List.mem_of_getElem? (i := 1100) (by decide +kernel), List.mem_of_getElem? (i := 1101) (by decide +kernel)⟩
theorem lw_p95 : lw_okq (⟨"FirstFeltModel", "isStove", "(I)Z"⟩, 52) := ⟨⟨by decide +kernel, by decide +kernel⟩, List.mem_of_getElem? (i := 814) (by decide +kernel), List.mem_of_getElem? (i := 1108) (by decide +kernel), List.mem_of_getElem? (i := 1109) (by decide +kernel)⟩
def lw_privs_6 : List (MethodName × Nat) := [(⟨"FirstFeltModel", "stops", "()Z"⟩, 52), (⟨"FirstFeltModel", "readsClause", "()Z"⟩, 52), (⟨"FirstFeltModel", "readsWall", "()Z"⟩, 52), (⟨"FirstFeltModel", "takesX", "()Z"⟩, 52), (⟨"FirstFeltModel", "seesY", "(I)Z"⟩, 52), (⟨"FirstFeltModel", "readsStove", "()Z"⟩, 52), (⟨"FirstFeltModel", "readsRoof", "()Z"⟩, 52), (⟨"FirstFeltModel", "readsSun", "()Z"⟩, 52), (⟨"FirstFeltModel", "readsPerson", "()Z"⟩, 52), (⟨"FirstFeltModel", "cells", "()I"⟩, 52), (⟨"FirstFeltModel", "wallsNow", "()I"⟩, 52), (⟨"FirstFeltModel", "sunAt", "(I)I"⟩, 52), (⟨"FirstFeltModel", "isCell", "(II)Z"⟩, 52), (⟨"FirstFeltModel", "onCell", "(I)I"⟩, 52), (⟨"FirstFeltModel", "notWall", "(III)I"⟩, 52), (⟨"FirstFeltModel", "isStove", "(I)Z"⟩, 52)]
theorem lw_r6 : ∀ q ∈ lw_privs_6, lw_okq q := List.forall_mem_cons.mpr ⟨lw_p80, List.forall_mem_cons.mpr ⟨lw_p81, List.forall_mem_cons.mpr ⟨lw_p82, List.forall_mem_cons.mpr ⟨lw_p83, List.forall_mem_cons.mpr ⟨lw_p84, List.forall_mem_cons.mpr ⟨lw_p85, List.forall_mem_cons.mpr ⟨lw_p86, List.forall_mem_cons.mpr ⟨lw_p87, List.forall_mem_cons.mpr ⟨lw_p88, List.forall_mem_cons.mpr ⟨lw_p89, List.forall_mem_cons.mpr ⟨lw_p90, List.forall_mem_cons.mpr ⟨lw_p91, List.forall_mem_cons.mpr ⟨lw_p92, List.forall_mem_cons.mpr ⟨lw_p93, List.forall_mem_cons.mpr ⟨lw_p94, List.forall_mem_cons.mpr ⟨lw_p95, fun _ h => absurd h List.not_mem_nil⟩⟩⟩⟩⟩⟩⟩⟩⟩⟩⟩⟩⟩⟩⟩⟩
theorem lw_p96 : lw_okq (⟨"FirstFeltModel", "named", "(I)I"⟩, 52) := ⟨⟨by decide +kernel, by decide +kernel⟩, List.mem_of_getElem? (i := 814) (by decide +kernel), List.mem_of_getElem? (i := 1112) (by decide +kernel), List.mem_of_getElem? (i := 1113) (by decide +kernel)⟩
theorem lw_p97 : lw_okq (⟨"FirstFeltModel", "isPerson", "(I)Z"⟩, 52) := ⟨⟨by decide +kernel, by decide +kernel⟩, List.mem_of_getElem? (i := 814) (by decide +kernel), List.mem_of_getElem? (i := 1120) (by decide +kernel), List.mem_of_getElem? (i := 1121) (by decide +kernel)⟩
theorem lw_p98 : lw_okq (⟨"FirstFeltModel", "owns", "(I)I"⟩, 52) := ⟨⟨by decide +kernel, by decide +kernel⟩, List.mem_of_getElem? (i := 814) (by decide +kernel), List.mem_of_getElem? (i := 1124) (by decide +kernel), List.mem_of_getElem? (i := 1125) (by decide +kernel)⟩
theorem lw_p99 : lw_okq (⟨"FirstFeltModel", "way", "(II)I"⟩, 52) := ⟨⟨by decide +kernel, by decide +kernel⟩, List.mem_of_getElem? (i := 814) (by decide +kernel), List.mem_of_getElem? (i := 1133) (by decide +kernel), List.mem_of_getElem? (i := 1134) (by decide +kernel)⟩
theorem lw_p100 : lw_okq (⟨"FirstFeltModel", "canBeLit", "(I)Z"⟩, 52) := ⟨⟨by decide +kernel, by decide +kernel⟩, List.mem_of_getElem? (i := 814) (by decide +kernel), List.mem_of_getElem? (i := 1146) (by decide +kernel), List.mem_of_getElem? (i := 1147) (by decide +kernel)⟩
theorem lw_p101 : lw_okq (⟨"FirstFeltModel", "notMinutes", "(I)I"⟩, 52) := ⟨⟨by decide +kernel, by decide +kernel⟩, List.mem_of_getElem? (i := 814) (by decide +kernel), List.mem_of_getElem? (i := 1169) (by decide +kernel), List.mem_of_getElem? (i := 1170) (by decide +kernel)⟩
theorem lw_p102 : lw_okq (⟨"FirstFeltModel", "goMinutes", "(I)V"⟩, 52) := ⟨⟨by decide +kernel, by decide +kernel⟩, List.mem_of_getElem? (i := 814) (by decide +kernel), List.mem_of_getElem? (i := 1175) (by decide +kernel), List.mem_of_getElem? (i := 1176) (by decide +kernel)⟩
theorem lw_p103 : lw_okq (⟨"FirstFeltModel", "goMinute", "()V"⟩, 52) := ⟨⟨by decide +kernel, by decide +kernel⟩, List.mem_of_getElem? (i := 814) (by decide +kernel), List.mem_of_getElem? (i := 1179) (by decide +kernel), List.mem_of_getElem? (i := 1180) (by decide +kernel)⟩
theorem lw_p104 : lw_okq (⟨"FirstFeltModel", "goHeat", "()V"⟩, 52) := ⟨⟨by decide +kernel, by decide +kernel⟩, List.mem_of_getElem? (i := 814) (by decide +kernel), List.mem_of_getElem? (i := 1183) (by decide +kernel), List.mem_of_getElem? (i := 1184) (by decide +kernel)⟩
theorem lw_p105 : lw_okq (⟨"FirstFeltModel", "flows", "(I)I"⟩, 52) := ⟨⟨by decide +kernel, by decide +kernel⟩, List.mem_of_getElem? (i := 814) (by decide +kernel), List.mem_of_getElem? (i := 1187) (by decide +kernel), List.mem_of_getElem? (i := 1188) (by decide +kernel)⟩
theorem lw_p106 : lw_okq (⟨"FirstFeltModel", "feel", "()V"⟩, 52) := ⟨⟨by decide +kernel, by decide +kernel⟩, List.mem_of_getElem? (i := 814) (by decide +kernel), List.mem_of_getElem? (i := 1191) (by decide +kernel), List.mem_of_getElem? (i := 1192) (by decide +kernel)⟩
theorem lw_p107 : lw_okq (⟨"FirstFeltModel", "own", "()V"⟩, 52) := ⟨⟨by decide +kernel, by decide +kernel⟩, List.mem_of_getElem? (i := 814) (by decide +kernel), List.mem_of_getElem? (i := 1195) (by decide +kernel), List.mem_of_getElem? (i := 1196) (by decide +kernel)⟩
theorem lw_p108 : lw_okq (⟨"FirstFeltModel", "feelsOn", "(II)Z"⟩, 52) := ⟨⟨by decide +kernel, by decide +kernel⟩, List.mem_of_getElem? (i := 814) (by decide +kernel), List.mem_of_getElem? (i := 1199) (by decide +kernel), List.mem_of_getElem? (i := 1200) (by decide +kernel)⟩
theorem lw_p109 : lw_okq (⟨"FirstFeltModel", "goLaw", "()V"⟩, 52) := ⟨⟨by decide +kernel, by decide +kernel⟩, List.mem_of_getElem? (i := 814) (by decide +kernel), List.mem_of_getElem? (i := 1203) (by decide +kernel), List.mem_of_getElem? (i := 1204) (by decide +kernel)⟩
theorem lw_p110 : lw_okq (⟨"FirstFeltModel", "owe", "()V"⟩, 52) := ⟨⟨by decide +kernel, by decide +kernel⟩, List.mem_of_getElem? (i := 814) (by decide +kernel), List.mem_of_getElem? (i := 1207) (by decide +kernel), List.mem_of_getElem? (i := 1208) (by decide +kernel)⟩
theorem lw_p111 : lw_okq (⟨"FirstFeltModel", "isOwedFor", "(II)Z"⟩, 52) := ⟨⟨by decide +kernel, by decide +kernel⟩, List.mem_of_getElem? (i := 814) (by decide +kernel), List.mem_of_getElem? (i := 1211) (by decide +kernel), List.mem_of_getElem? (i := 1212) (by decide +kernel)⟩
def lw_privs_7 : List (MethodName × Nat) := [(⟨"FirstFeltModel", "named", "(I)I"⟩, 52), (⟨"FirstFeltModel", "isPerson", "(I)Z"⟩, 52), (⟨"FirstFeltModel", "owns", "(I)I"⟩, 52), (⟨"FirstFeltModel", "way", "(II)I"⟩, 52), (⟨"FirstFeltModel", "canBeLit", "(I)Z"⟩, 52), (⟨"FirstFeltModel", "notMinutes", "(I)I"⟩, 52), (⟨"FirstFeltModel", "goMinutes", "(I)V"⟩, 52), (⟨"FirstFeltModel", "goMinute", "()V"⟩, 52), (⟨"FirstFeltModel", "goHeat", "()V"⟩, 52), (⟨"FirstFeltModel", "flows", "(I)I"⟩, 52), (⟨"FirstFeltModel", "feel", "()V"⟩, 52), (⟨"FirstFeltModel", "own", "()V"⟩, 52), (⟨"FirstFeltModel", "feelsOn", "(II)Z"⟩, 52), (⟨"FirstFeltModel", "goLaw", "()V"⟩, 52), (⟨"FirstFeltModel", "owe", "()V"⟩, 52), (⟨"FirstFeltModel", "isOwedFor", "(II)Z"⟩, 52)]
theorem lw_r7 : ∀ q ∈ lw_privs_7, lw_okq q := List.forall_mem_cons.mpr ⟨lw_p96, List.forall_mem_cons.mpr ⟨lw_p97, List.forall_mem_cons.mpr ⟨lw_p98, List.forall_mem_cons.mpr ⟨lw_p99, List.forall_mem_cons.mpr ⟨lw_p100, List.forall_mem_cons.mpr ⟨lw_p101, List.forall_mem_cons.mpr ⟨lw_p102, List.forall_mem_cons.mpr ⟨lw_p103, List.forall_mem_cons.mpr ⟨lw_p104, List.forall_mem_cons.mpr ⟨lw_p105, List.forall_mem_cons.mpr ⟨lw_p106, List.forall_mem_cons.mpr ⟨lw_p107, List.forall_mem_cons.mpr ⟨lw_p108, List.forall_mem_cons.mpr ⟨lw_p109, List.forall_mem_cons.mpr ⟨lw_p110, List.forall_mem_cons.mpr ⟨lw_p111, fun _ h => absurd h List.not_mem_nil⟩⟩⟩⟩⟩⟩⟩⟩⟩⟩⟩⟩⟩⟩⟩⟩
theorem lw_p112 : lw_okq (⟨"FirstFeltModel", "arePartners", "(II)Z"⟩, 52) := ⟨⟨by decide +kernel, by decide +kernel⟩, List.mem_of_getElem? (i := 814) (by decide +kernel), List.mem_of_getElem? (i := 1215) (by decide +kernel), List.mem_of_getElem? (i := 1216) (by decide +kernel)⟩
theorem lw_p113 : lw_okq (⟨"FirstFeltModel", "driftOne", "()V"⟩, 52) := ⟨⟨by decide +kernel, by decide +kernel⟩, List.mem_of_getElem? (i := 814) (by decide +kernel), List.mem_of_getElem? (i := 1224) (by decide +kernel), List.mem_of_getElem? (i := 1225) (by decide +kernel)⟩
theorem lw_p114 : lw_okq (⟨"FirstFeltModel", "draw", "(I)I"⟩, 52) := ⟨⟨by decide +kernel, by decide +kernel⟩, List.mem_of_getElem? (i := 814) (by decide +kernel), List.mem_of_getElem? (i := 1228) (by decide +kernel), List.mem_of_getElem? (i := 1229) (by decide +kernel)⟩
theorem lw_p115 : lw_okq (⟨"FirstFeltModel", "start", "()V"⟩, 52) := ⟨⟨by decide +kernel, by decide +kernel⟩, List.mem_of_getElem? (i := 814) (by decide +kernel), List.mem_of_getElem? (i := 1240) (by decide +kernel), List.mem_of_getElem? (i := 1241) (by decide +kernel)⟩
theorem lw_p116 : lw_okq (⟨"FirstFeltModel", "back", "()V"⟩, 52) := ⟨⟨by decide +kernel, by decide +kernel⟩, List.mem_of_getElem? (i := 814) (by decide +kernel), List.mem_of_getElem? (i := 1244) (by decide +kernel), List.mem_of_getElem? (i := 1245) (by decide +kernel)⟩
theorem lw_p117 : lw_okq (⟨"FirstFeltModel", "ownsBy", "(III)I"⟩, 52) := ⟨⟨by decide +kernel, by decide +kernel⟩, List.mem_of_getElem? (i := 814) (by decide +kernel), List.mem_of_getElem? (i := 1256) (by decide +kernel), List.mem_of_getElem? (i := 1257) (by decide +kernel)⟩
theorem lw_p118 : lw_okq (⟨"FirstFeltModel", "notStove", "(III)I"⟩, 52) := ⟨⟨by decide +kernel, by decide +kernel⟩, List.mem_of_getElem? (i := 814) (by decide +kernel), List.mem_of_getElem? (i := 1264) (by decide +kernel), List.mem_of_getElem? (i := 1265) (by decide +kernel)⟩
theorem lw_p119 : lw_okq (⟨"FirstFeltModel", "ownsWithout", "(IIII)Z"⟩, 52) := ⟨⟨by decide +kernel, by decide +kernel⟩, List.mem_of_getElem? (i := 814) (by decide +kernel), List.mem_of_getElem? (i := 1273) (by decide +kernel), List.mem_of_getElem? (i := 1274) (by decide +kernel)⟩
theorem lw_p120 : lw_okq (⟨"FirstFeltModel", "bestRent", "(I)I"⟩, 52) := ⟨⟨by decide +kernel, by decide +kernel⟩, List.mem_of_getElem? (i := 814) (by decide +kernel), List.mem_of_getElem? (i := 1285) (by decide +kernel), List.mem_of_getElem? (i := 1286) (by decide +kernel)⟩
theorem lw_p121 : lw_okq (⟨"FirstFeltModel", "brings", "(I)I"⟩, 52) := ⟨⟨by decide +kernel, by decide +kernel⟩, List.mem_of_getElem? (i := 814) (by decide +kernel), List.mem_of_getElem? (i := 1289) (by decide +kernel), List.mem_of_getElem? (i := 1290) (by decide +kernel)⟩
theorem lw_p122 : lw_okq (⟨"FirstFeltModel", "isLet", "(I)Z"⟩, 52) := ⟨⟨by decide +kernel, by decide +kernel⟩, List.mem_of_getElem? (i := 814) (by decide +kernel), List.mem_of_getElem? (i := 1293) (by decide +kernel), List.mem_of_getElem? (i := 1294) (by decide +kernel)⟩
theorem lw_p123 : lw_okq (⟨"FirstFeltModel", "cellOf", "(I)I"⟩, 52) := ⟨⟨by decide +kernel, by decide +kernel⟩, List.mem_of_getElem? (i := 814) (by decide +kernel), List.mem_of_getElem? (i := 1301) (by decide +kernel), List.mem_of_getElem? (i := 1302) (by decide +kernel)⟩
theorem lw_p124 : lw_okq (⟨"FirstFeltModel", "coldBy", "(II)I"⟩, 52) := ⟨⟨by decide +kernel, by decide +kernel⟩, List.mem_of_getElem? (i := 814) (by decide +kernel), List.mem_of_getElem? (i := 1314) (by decide +kernel), List.mem_of_getElem? (i := 1315) (by decide +kernel)⟩
theorem lw_p125 : lw_okq (⟨"FirstFeltModel", "leaveWarm", "(I)V"⟩, 52) := ⟨⟨by decide +kernel, by decide +kernel⟩, List.mem_of_getElem? (i := 814) (by decide +kernel), List.mem_of_getElem? (i := 1318) (by decide +kernel), List.mem_of_getElem? (i := 1319) (by decide +kernel)⟩
theorem lw_p126 : lw_okq (⟨"FirstFeltModel", "areDeeds", "(II)Z"⟩, 52) := ⟨⟨by decide +kernel, by decide +kernel⟩, List.mem_of_getElem? (i := 814) (by decide +kernel), List.mem_of_getElem? (i := 1334) (by decide +kernel), List.mem_of_getElem? (i := 1335) (by decide +kernel)⟩
def lw_privs_8 : List (MethodName × Nat) := [(⟨"FirstFeltModel", "arePartners", "(II)Z"⟩, 52), (⟨"FirstFeltModel", "driftOne", "()V"⟩, 52), (⟨"FirstFeltModel", "draw", "(I)I"⟩, 52), (⟨"FirstFeltModel", "start", "()V"⟩, 52), (⟨"FirstFeltModel", "back", "()V"⟩, 52), (⟨"FirstFeltModel", "ownsBy", "(III)I"⟩, 52), (⟨"FirstFeltModel", "notStove", "(III)I"⟩, 52), (⟨"FirstFeltModel", "ownsWithout", "(IIII)Z"⟩, 52), (⟨"FirstFeltModel", "bestRent", "(I)I"⟩, 52), (⟨"FirstFeltModel", "brings", "(I)I"⟩, 52), (⟨"FirstFeltModel", "isLet", "(I)Z"⟩, 52), (⟨"FirstFeltModel", "cellOf", "(I)I"⟩, 52), (⟨"FirstFeltModel", "coldBy", "(II)I"⟩, 52), (⟨"FirstFeltModel", "leaveWarm", "(I)V"⟩, 52), (⟨"FirstFeltModel", "areDeeds", "(II)Z"⟩, 52)]
theorem lw_r8 : ∀ q ∈ lw_privs_8, lw_okq q := List.forall_mem_cons.mpr ⟨lw_p112, List.forall_mem_cons.mpr ⟨lw_p113, List.forall_mem_cons.mpr ⟨lw_p114, List.forall_mem_cons.mpr ⟨lw_p115, List.forall_mem_cons.mpr ⟨lw_p116, List.forall_mem_cons.mpr ⟨lw_p117, List.forall_mem_cons.mpr ⟨lw_p118, List.forall_mem_cons.mpr ⟨lw_p119, List.forall_mem_cons.mpr ⟨lw_p120, List.forall_mem_cons.mpr ⟨lw_p121, List.forall_mem_cons.mpr ⟨lw_p122, List.forall_mem_cons.mpr ⟨lw_p123, List.forall_mem_cons.mpr ⟨lw_p124, List.forall_mem_cons.mpr ⟨lw_p125, List.forall_mem_cons.mpr ⟨lw_p126, fun _ h => absurd h List.not_mem_nil⟩⟩⟩⟩⟩⟩⟩⟩⟩⟩⟩⟩⟩⟩⟩
def lw_privs : List (MethodName × Nat) := lw_privs_1 ++ (lw_privs_2 ++ (lw_privs_3 ++ (lw_privs_4 ++ (lw_privs_5 ++ (lw_privs_6 ++ (lw_privs_7 ++ (lw_privs_8)))))))
def lw_tbl : List Cond := k2_sels lw_privs ++ tables_1
theorem lw_privs_ok : ∀ q ∈ lw_privs, lw_okq q := by
  show ∀ q ∈ lw_privs_1 ++ (lw_privs_2 ++ (lw_privs_3 ++ (lw_privs_4 ++ (lw_privs_5 ++ (lw_privs_6 ++ (lw_privs_7 ++ (lw_privs_8))))))), lw_okq q
  exact List.forall_mem_append.mpr ⟨lw_r1, List.forall_mem_append.mpr ⟨lw_r2, List.forall_mem_append.mpr ⟨lw_r3, List.forall_mem_append.mpr ⟨lw_r4, List.forall_mem_append.mpr ⟨lw_r5, List.forall_mem_append.mpr ⟨lw_r6, List.forall_mem_append.mpr ⟨lw_r7, lw_r8⟩⟩⟩⟩⟩⟩⟩
end
section
def RX0 : String := "FirstFelt$Market"
def TX0 : u_T := fun k => match k with
  | _ => ("FirstFelt$Market", "asks", "[I", true)
def tyX0 : Nat → FieldType := fun k => match k with
  | _ => .array .int
theorem nmX0 : ∀ a, a < 1 → ∀ b, b < 1 → a ≠ b → (TX0 a).2.1 ≠ (TX0 b).2.1 := by decide +kernel
theorem tyX0_ok : ∀ k, k < 1 → parseFieldDescriptor (TX0 k).2.2.1 = some (tyX0 k) := by decide +kernel
def RX1 : String := "FirstFelt$Papers"
def TX1 : u_T := fun k => match k with
  | 0 => ("FirstFelt$Papers", "who", "[I", true)
  | 1 => ("FirstFelt$Papers", "where", "[I", true)
  | 2 => ("FirstFelt$Papers", "when", "[I", true)
  | _ => ("FirstFelt$Papers", "count", "I", false)
def tyX1 : Nat → FieldType := fun k => match k with
  | 0 => .array .int
  | 1 => .array .int
  | 2 => .array .int
  | _ => .int
theorem nmX1 : ∀ a, a < 4 → ∀ b, b < 4 → a ≠ b → (TX1 a).2.1 ≠ (TX1 b).2.1 := by decide +kernel
theorem tyX1_ok : ∀ k, k < 4 → parseFieldDescriptor (TX1 k).2.2.1 = some (tyX1 k) := by decide +kernel
def RX2 : String := "FirstFelt$Reader"
def TX2 : u_T := fun k => match k with
  | 0 => ("FirstFelt$Reader", "text", "[I", true)
  | 1 => ("FirstFelt$Reader", "length", "I", false)
  | 2 => ("FirstFelt$Reader", "place", "I", false)
  | 3 => ("FirstFelt$Reader", "numberAt", "I", false)
  | 4 => ("FirstFelt$Reader", "kind", "I", false)
  | 5 => ("FirstFelt$Reader", "faultAt", "I", false)
  | 6 => ("FirstFelt$Reader", "walls", "I", false)
  | 7 => ("FirstFelt$Reader", "land", "LFirstFelt$Town;", false)
  | _ => ("FirstFelt$Reader", "start", "LFirstFelt$State;", false)
def tyX2 : Nat → FieldType := fun k => match k with
  | 0 => .array .int
  | 1 => .int
  | 2 => .int
  | 3 => .int
  | 4 => .int
  | 5 => .int
  | 6 => .int
  | 7 => .object "FirstFelt$Town"
  | _ => .object "FirstFelt$State"
theorem nmX2 : ∀ a, a < 9 → ∀ b, b < 9 → a ≠ b → (TX2 a).2.1 ≠ (TX2 b).2.1 := by decide +kernel
theorem tyX2_ok : ∀ k, k < 9 → parseFieldDescriptor (TX2 k).2.2.1 = some (tyX2 k) := by decide +kernel
def RX3 : String := "FirstFelt$State"
def TX3 : u_T := fun k => match k with
  | 0 => ("FirstFelt$State", "heat", "[I", true)
  | 1 => ("FirstFelt$State", "nextHeat", "[I", true)
  | 2 => ("FirstFelt$State", "owner", "[I", true)
  | 3 => ("FirstFelt$State", "felt", "[I", true)
  | 4 => ("FirstFelt$State", "barred", "[I", true)
  | 5 => ("FirstFelt$State", "wood", "[I", true)
  | 6 => ("FirstFelt$State", "burns", "[I", true)
  | 7 => ("FirstFelt$State", "at", "[I", true)
  | 8 => ("FirstFelt$State", "skin", "[I", true)
  | 9 => ("FirstFelt$State", "owes", "[I", true)
  | 10 => ("FirstFelt$State", "due", "[I", true)
  | 11 => ("FirstFelt$State", "partners", "[I", true)
  | 12 => ("FirstFelt$State", "feeling", "I", false)
  | 13 => ("FirstFelt$State", "frozen", "I", false)
  | 14 => ("FirstFelt$State", "ruling", "I", false)
  | 15 => ("FirstFelt$State", "lasting", "I", false)
  | 16 => ("FirstFelt$State", "minutes", "I", false)
  | _ => ("FirstFelt$State", "seed", "I", false)
def tyX3 : Nat → FieldType := fun k => match k with
  | 0 => .array .int
  | 1 => .array .int
  | 2 => .array .int
  | 3 => .array .int
  | 4 => .array .int
  | 5 => .array .int
  | 6 => .array .int
  | 7 => .array .int
  | 8 => .array .int
  | 9 => .array .int
  | 10 => .array .int
  | 11 => .array .int
  | 12 => .int
  | 13 => .int
  | 14 => .int
  | 15 => .int
  | 16 => .int
  | _ => .int
theorem nmX3 : ∀ a, a < 18 → ∀ b, b < 18 → a ≠ b → (TX3 a).2.1 ≠ (TX3 b).2.1 := by decide +kernel
theorem tyX3_ok : ∀ k, k < 18 → parseFieldDescriptor (TX3 k).2.2.1 = some (tyX3 k) := by decide +kernel
def RX4 : String := "FirstFelt$Tour"
def TX4 : u_T := fun k => match k with
  | 0 => ("FirstFelt$Tour", "levels", "[LFirstFelt$State;", true)
  | 1 => ("FirstFelt$Tour", "row", "[I", true)
  | 2 => ("FirstFelt$Tour", "bestRow", "[I", true)
  | 3 => ("FirstFelt$Tour", "land", "LFirstFelt$Town;", false)
  | 4 => ("FirstFelt$Tour", "walker", "I", false)
  | 5 => ("FirstFelt$Tour", "length", "I", false)
  | _ => ("FirstFelt$Tour", "most", "I", false)
def tyX4 : Nat → FieldType := fun k => match k with
  | 0 => .array (.object "FirstFelt$State")
  | 1 => .array .int
  | 2 => .array .int
  | 3 => .object "FirstFelt$Town"
  | 4 => .int
  | 5 => .int
  | _ => .int
theorem nmX4 : ∀ a, a < 7 → ∀ b, b < 7 → a ≠ b → (TX4 a).2.1 ≠ (TX4 b).2.1 := by decide +kernel
theorem tyX4_ok : ∀ k, k < 7 → parseFieldDescriptor (TX4 k).2.2.1 = some (tyX4 k) := by decide +kernel
def RX5 : String := "FirstFelt$Town"
def TX5 : u_T := fun k => match k with
  | 0 => ("FirstFelt$Town", "width", "I", false)
  | 1 => ("FirstFelt$Town", "height", "I", false)
  | 2 => ("FirstFelt$Town", "stoves", "I", false)
  | 3 => ("FirstFelt$Town", "roofs", "I", false)
  | 4 => ("FirstFelt$Town", "hours", "I", false)
  | 5 => ("FirstFelt$Town", "people", "I", false)
  | 6 => ("FirstFelt$Town", "besides", "[I", true)
  | 7 => ("FirstFelt$Town", "roofed", "[I", true)
  | 8 => ("FirstFelt$Town", "sun", "[I", true)
  | 9 => ("FirstFelt$Town", "stoveCell", "[I", true)
  | 10 => ("FirstFelt$Town", "stoveHeat", "[I", true)
  | 11 => ("FirstFelt$Town", "notices", "[I", true)
  | _ => ("FirstFelt$Town", "fever", "[I", true)
def tyX5 : Nat → FieldType := fun k => match k with
  | 0 => .int
  | 1 => .int
  | 2 => .int
  | 3 => .int
  | 4 => .int
  | 5 => .int
  | 6 => .array .int
  | 7 => .array .int
  | 8 => .array .int
  | 9 => .array .int
  | 10 => .array .int
  | 11 => .array .int
  | _ => .array .int
theorem nmX5 : ∀ a, a < 13 → ∀ b, b < 13 → a ≠ b → (TX5 a).2.1 ≠ (TX5 b).2.1 := by decide +kernel
theorem tyX5_ok : ∀ k, k < 13 → parseFieldDescriptor (TX5 k).2.2.1 = some (tyX5 k) := by decide +kernel
def RX6 : String := "FirstFelt"
def TX6 : u_T := fun k => match k with
  | 0 => ("FirstFelt", "reader", "LFirstFelt$Reader;", true)
  | 1 => ("FirstFelt", "claims", "LFirstFelt$Papers;", true)
  | 2 => ("FirstFelt", "deeds", "LFirstFelt$Papers;", true)
  | 3 => ("FirstFelt", "images", "[LFirstFelt$State;", true)
  | 4 => ("FirstFelt", "kept", "[I", true)
  | 5 => ("FirstFelt", "trial", "LFirstFelt$State;", true)
  | 6 => ("FirstFelt", "waiting", "LFirstFelt$State;", true)
  | 7 => ("FirstFelt", "tour", "LFirstFelt$Tour;", true)
  | 8 => ("FirstFelt", "market", "LFirstFelt$Market;", true)
  | 9 => ("FirstFelt", "land", "LFirstFelt$Town;", false)
  | 10 => ("FirstFelt", "spareLand", "LFirstFelt$Town;", false)
  | 11 => ("FirstFelt", "now", "LFirstFelt$State;", false)
  | _ => ("FirstFelt", "spareNow", "LFirstFelt$State;", false)
def tyX6 : Nat → FieldType := fun k => match k with
  | 0 => .object "FirstFelt$Reader"
  | 1 => .object "FirstFelt$Papers"
  | 2 => .object "FirstFelt$Papers"
  | 3 => .array (.object "FirstFelt$State")
  | 4 => .array .int
  | 5 => .object "FirstFelt$State"
  | 6 => .object "FirstFelt$State"
  | 7 => .object "FirstFelt$Tour"
  | 8 => .object "FirstFelt$Market"
  | 9 => .object "FirstFelt$Town"
  | 10 => .object "FirstFelt$Town"
  | 11 => .object "FirstFelt$State"
  | _ => .object "FirstFelt$State"
theorem nmX6 : ∀ a, a < 13 → ∀ b, b < 13 → a ≠ b → (TX6 a).2.1 ≠ (TX6 b).2.1 := by decide +kernel
theorem tyX6_ok : ∀ k, k < 13 → parseFieldDescriptor (TX6 k).2.2.1 = some (tyX6 k) := by decide +kernel
def RX7 : String := "FirstFeltModel"
def TX7 : u_T := fun k => match k with
  | 0 => ("FirstFeltModel", "now", "[I", true)
  | 1 => ("FirstFeltModel", "kept", "[I", true)
  | 2 => ("FirstFeltModel", "isKept", "[Z", true)
  | 3 => ("FirstFeltModel", "was", "[I", true)
  | 4 => ("FirstFeltModel", "wide", "I", false)
  | 5 => ("FirstFeltModel", "high", "I", false)
  | 6 => ("FirstFeltModel", "isRoofed", "[Z", true)
  | 7 => ("FirstFeltModel", "roofs", "I", false)
  | 8 => ("FirstFeltModel", "stoves", "I", false)
  | 9 => ("FirstFeltModel", "stoveAt", "[I", true)
  | 10 => ("FirstFeltModel", "gives", "[I", true)
  | 11 => ("FirstFeltModel", "hours", "I", false)
  | 12 => ("FirstFeltModel", "suns", "[I", true)
  | 13 => ("FirstFeltModel", "people", "I", false)
  | 14 => ("FirstFeltModel", "notices", "[I", true)
  | 15 => ("FirstFeltModel", "fever", "[I", true)
  | 16 => ("FirstFeltModel", "claims", "I", false)
  | 17 => ("FirstFeltModel", "claimBy", "[I", true)
  | 18 => ("FirstFeltModel", "claimOn", "[I", true)
  | 19 => ("FirstFeltModel", "claimAt", "[I", true)
  | 20 => ("FirstFeltModel", "deeds", "I", false)
  | 21 => ("FirstFeltModel", "deedBy", "[I", true)
  | 22 => ("FirstFeltModel", "deedOn", "[I", true)
  | 23 => ("FirstFeltModel", "deedAt", "[I", true)
  | 24 => ("FirstFeltModel", "text", "[I", true)
  | 25 => ("FirstFeltModel", "textLong", "I", false)
  | 26 => ("FirstFeltModel", "faultAt", "I", false)
  | 27 => ("FirstFeltModel", "tokenAt", "I", false)
  | 28 => ("FirstFeltModel", "tokenLong", "I", false)
  | 29 => ("FirstFeltModel", "token", "I", false)
  | 30 => ("FirstFeltModel", "value", "I", false)
  | 31 => ("FirstFeltModel", "fault", "I", false)
  | 32 => ("FirstFeltModel", "taken", "I", false)
  | 33 => ("FirstFeltModel", "readWide", "I", false)
  | 34 => ("FirstFeltModel", "readHigh", "I", false)
  | 35 => ("FirstFeltModel", "readHeat", "I", false)
  | 36 => ("FirstFeltModel", "readWalls", "[I", true)
  | 37 => ("FirstFeltModel", "walls", "I", false)
  | 38 => ("FirstFeltModel", "readRoof", "[Z", true)
  | 39 => ("FirstFeltModel", "readRoofs", "I", false)
  | 40 => ("FirstFeltModel", "readStoves", "I", false)
  | 41 => ("FirstFeltModel", "readStove", "[I", true)
  | 42 => ("FirstFeltModel", "hasStove", "[Z", true)
  | 43 => ("FirstFeltModel", "readHours", "I", false)
  | 44 => ("FirstFeltModel", "readSun", "[I", true)
  | 45 => ("FirstFeltModel", "readPeople", "I", false)
  | 46 => ("FirstFeltModel", "readPerson", "[I", true)
  | 47 => ("FirstFeltModel", "cellRead", "I", false)
  | 48 => ("FirstFeltModel", "heats", "[I", true)
  | 49 => ("FirstFeltModel", "feeling", "I", false)
  | 50 => ("FirstFeltModel", "numb", "I", false)
  | _ => ("FirstFeltModel", "rent", "[I", true)
def tyX7 : Nat → FieldType := fun k => match k with
  | 0 => .array .int
  | 1 => .array .int
  | 2 => .array .boolean
  | 3 => .array .int
  | 4 => .int
  | 5 => .int
  | 6 => .array .boolean
  | 7 => .int
  | 8 => .int
  | 9 => .array .int
  | 10 => .array .int
  | 11 => .int
  | 12 => .array .int
  | 13 => .int
  | 14 => .array .int
  | 15 => .array .int
  | 16 => .int
  | 17 => .array .int
  | 18 => .array .int
  | 19 => .array .int
  | 20 => .int
  | 21 => .array .int
  | 22 => .array .int
  | 23 => .array .int
  | 24 => .array .int
  | 25 => .int
  | 26 => .int
  | 27 => .int
  | 28 => .int
  | 29 => .int
  | 30 => .int
  | 31 => .int
  | 32 => .int
  | 33 => .int
  | 34 => .int
  | 35 => .int
  | 36 => .array .int
  | 37 => .int
  | 38 => .array .boolean
  | 39 => .int
  | 40 => .int
  | 41 => .array .int
  | 42 => .array .boolean
  | 43 => .int
  | 44 => .array .int
  | 45 => .int
  | 46 => .array .int
  | 47 => .int
  | 48 => .array .int
  | 49 => .int
  | 50 => .int
  | _ => .array .int
theorem nmX7 : ∀ a, a < 52 → ∀ b, b < 52 → a ≠ b → (TX7 a).2.1 ≠ (TX7 b).2.1 := by decide +kernel
theorem tyX7_ok : ∀ k, k < 52 → parseFieldDescriptor (TX7 k).2.2.1 = some (tyX7 k) := by decide +kernel
abbrev vwCl : List vw_C := [(RX0, TX0, 1), (RX1, TX1, 4), (RX2, TX2, 9), (RX3, TX3, 18), (RX4, TX4, 7), (RX5, TX5, 13), (RX6, TX6, 13), (RX7, TX7, 52)]
end
section
/-! ===== AN ABSTRACT MACHINE: weakest preconditions of the bytecode over plain numbers. A value: a number, a long, a reference (0 null); a heap: the cells' shapes and references (xG), their numbers (xW) ===== -/
abbrev xV : Type := Option (Int ⊕ Int ⊕ Nat)
abbrev xi (v : Int) : xV := some (.inl v)
abbrev xl (v : Int) : xV := some (.inr (.inl v))
abbrev xr (a : Nat) : xV := some (.inr (.inr a))
abbrev xG : Type := List (Nat × Nat) × (Nat → Nat → Nat)
abbrev xW : Type := Nat → Nat → Int
abbrev xK : Type := Nat → List xV → List xV → xG → xW → Prop
abbrev xQ : Type := Option xV → xG → xW → Prop
abbrev xC : Type := Nat → List xV → xG → xW → xQ → Prop
/-- an instruction, and what its pool entry was resolved to: for a field class and place; for a call the method's number, how many values it takes, its class, its kind; for a constant its value -/
abbrev xE : Type := Instr × Nat × Nat × Nat × Int
abbrev x32 (v : Int) : Prop := -2147483648 ≤ v ∧ v ≤ 2147483647
abbrev x64 (v : Int) : Prop := -9223372036854775808 ≤ v ∧ v ≤ 9223372036854775807
/-- the cell a is of that shape: (0, class), (1, length) of ints, (2, length) of booleans, (3, length) of States, (4, length) the script -/
def xIs (g : xG) (a : Nat) (q : Nat × Nat) : Prop := a ≠ 0 ∧ g.1[a - 1]? = some q
def xup {α : Type} (w : Nat → Nat → α) (a k : Nat) (v : α) : Nat → Nat → α := fun a' k' => if a' = a ∧ k' = k then v else w a' k'
def xcp (w : xW) (a : Nat) (sp : Nat) (b : Nat) (dp n : Nat) : xW := fun a' k => if a' = b ∧ dp ≤ k ∧ k < dp + n then w a (sp + (k - dp)) else w a' k
def xlen (g : xG) (a : Nat) : Nat := (g.1[a - 1]?.getD (0, 0)).2
def xAr (g : xG) (a : Nat) (i : Int) : Prop := ∃ n : Nat, (xIs g a (1, n) ∨ xIs g a (4, n)) ∧ 0 ≤ i ∧ i < n
def xA1 (g : xG) (a : Nat) (i : Int) : Prop := ∃ n : Nat, xIs g a (1, n) ∧ 0 ≤ i ∧ i < n
def xA2 (g : xG) (a : Nat) (i : Int) : Prop := ∃ n : Nat, xIs g a (2, n) ∧ 0 ≤ i ∧ i < n
def xA3 (g : xG) (a : Nat) (i : Int) : Prop := ∃ n : Nat, xIs g a (3, n) ∧ 0 ≤ i ∧ i < n
def xAl (g : xG) (a : Nat) : Prop := ∃ k n : Nat, xIs g a (k + 1, n) ∧ k < 4 ∧ n < 2147483648
def xCo (g : xG) (a : Nat) (i n : Int) : Prop := ∃ l : Nat, xIs g a (1, l) ∧ 0 ≤ i ∧ 0 ≤ n ∧ i + n ≤ l
/-- which fields hold references -/
def xfr (ci k : Nat) : Bool := match ([tyX0, tyX1, tyX2, tyX3, tyX4, tyX5, tyX6, tyX7][ci]?) with
  | some t => match t k with
    | .int => false
    | _ => true
  | none => false
def xnf (ci : Nat) : Nat := ([1, 4, 9, 18, 7, 13, 13, 52][ci]?).getD 0
def xsz (q : Nat × Nat) : Nat := match q.1 with
  | 0 => xnf q.2
  | _ => q.2
def xsl (l : List (Nat × Nat)) : Nat := (l.map xsz).sum
def xAnd (a b : Int) : Int := (Int32.ofInt a &&& Int32.ofInt b).toInt
def xOr (a b : Int) : Int := (Int32.ofInt a ||| Int32.ofInt b).toInt
def xXor (a b : Int) : Int := (Int32.ofInt a ^^^ Int32.ofInt b).toInt
def xShl (a b : Int) : Int := (Int32.ofInt a <<< (Int32.ofInt b &&& 31)).toInt
def xShr (a b : Int) : Int := (Int32.ofInt a >>> (Int32.ofInt b &&& 31)).toInt
def xUshr (a b : Int) : Int := ((Int32.ofInt a).toUInt32 >>> ((Int32.ofInt b).toUInt32 &&& Int32.toUInt32 31)).toInt32.toInt
def xLand (a b : Int) : Int := (Int64.ofInt a &&& Int64.ofInt b).toInt
def xCmp (a b : Int) : Int := if b < a then 1 else if a = b then 0 else -1
def xldI (ls : List xV) (i : Nat) (k : Int → Prop) : Prop := match ls[i]? with
  | some (some (.inl v)) => k v
  | _ => False
def xldL (ls : List xV) (i : Nat) (k : Int → Prop) : Prop := match ls[i]? with
  | some (some (.inr (.inl v))) => k v
  | _ => False
def xldR (ls : List xV) (i : Nat) (k : Nat → Prop) : Prop := match ls[i]? with
  | some (some (.inr (.inr v))) => k v
  | _ => False
def xnl (ls : List xV) (i : Nat) : Bool := match i with
  | 0 => true
  | j + 1 => match ls[j]? with
    | some (some (.inr (.inl _))) => false
    | _ => true
def xsto (ls : List xV) (i : Nat) (v : xV) (k : List xV → Prop) : Prop := match (Nat.blt i ls.length && xnl ls i) with
  | true => k (ls.set i v)
  | false => False
def xu (st : List xV) (k : Int → List xV → Prop) : Prop := match st with
  | some (.inl a) :: r => k a r
  | _ => False
def xuL (st : List xV) (k : Int → List xV → Prop) : Prop := match st with
  | some (.inr (.inl a)) :: r => k a r
  | _ => False
def xuR (st : List xV) (k : Nat → List xV → Prop) : Prop := match st with
  | some (.inr (.inr a)) :: r => k a r
  | _ => False
def xb (st : List xV) (k : Int → Int → List xV → Prop) : Prop := xu st fun b r => xu r fun a r => k a b r
def xbL (st : List xV) (k : Int → Int → List xV → Prop) : Prop := xuL st fun b r => xuL r fun a r => k a b r
/-- an array's cell and a place -/
def xai (st : List xV) (k : Nat → Int → List xV → Prop) : Prop := xu st fun i r => xuR r fun a r => k a i r
def xc (c : Jvm.ClassFile.Cond) (a b : Int) : Prop := match c with
  | .eq => a = b
  | .ne => ¬ a = b
  | .lt => a < b
  | .ge => b ≤ a
  | .gt => b < a
  | .le => a ≤ b
def xnc (c : Jvm.ClassFile.Cond) (a b : Int) : Prop := match c with
  | .eq => ¬ a = b
  | .ne => a = b
  | .lt => b ≤ a
  | .ge => a < b
  | .gt => a ≤ b
  | .le => b < a
def xto (pc : Nat) (off : Int) : Nat := ((pc : Int) + off).toNat
def xtab (pc : Nat) (k : Nat → Prop) (a : Int) : Int → List Int → Prop
  | _, [] => True
  | v, o :: os => (a = v → k (xto pc o)) ∧ xtab pc k a (v + 1) os
def xone (v : xV) : Bool := match v with
  | some (.inl _) => true
  | some (.inr (.inr _)) => true
  | _ => false
/-- a call's answer: kind 0 none, kind 1 a number -/
def xans (n : Int) (C : xQ → Prop) (k : List xV → xG → xW → Prop) : Prop := match n with
  | 1 => C fun r g w => ∃ v : Int, r = some (xi v) ∧ k [xi v] g w
  | _ => C fun r g w => r = none ∧ k [] g w
/-- how many cells and slots a constructor makes -/
def xmk (l : List (Nat × Nat × Nat)) (mi : Nat) : Nat × Nat := match l with
  | [] => (0, 0)
  | (i, q) :: r => bif Nat.beq i mi then q else xmk r mi
def xfit (st : List xV) (n : Nat) : Bool := Nat.ble n st.length && Nat.ble st.length (n + 4)
def xinv (C : xC) (lim : Nat × Nat) (mks : List (Nat × Nat × Nat)) (e : Nat × Nat × Nat × Int) (pc : Nat) (ls args rest : List xV) (g : xG) (w : xW) (K : xK) : Prop := match e.2.2.2 with
  | 2 => (g.1.length + (xmk mks e.1).1 ≤ lim.1 ∧ xsl g.1 + (xmk mks e.1).2 ≤ lim.2) ∧ C e.1 args g w fun r g' w' => r = none ∧ K (pc + 3) ls rest g' w'
  | 1 => C e.1 args g w fun r g' w' => ∃ v : Int, r = some (xi v) ∧ K (pc + 3) ls (xi v :: rest) g' w'
  | 0 => C e.1 args g w fun r g' w' => r = none ∧ K (pc + 3) ls rest g' w'
  | _ => False
def xobj (C : xC) (lim : Nat × Nat) (mks : List (Nat × Nat × Nat)) (e : Nat × Nat × Nat × Int) (pc : Nat) (ls st : List xV) (g : xG) (w : xW) (K : xK) : Prop := match xfit st e.2.1 with
  | true => xuR (st.take e.2.1).reverse fun a as => xIs g a (0, e.2.2.1) ∧ xinv C lim mks e pc ls (xr a :: as) (st.drop e.2.1) g w K
  | false => False
def xsta (C : xC) (lim : Nat × Nat) (mks : List (Nat × Nat × Nat)) (e : Nat × Nat × Nat × Int) (pc : Nat) (ls st : List xV) (g : xG) (w : xW) (K : xK) : Prop := match e.2.2.2 with
  | 4 => xu st fun n st => xu st fun dp st => xuR st fun b st => xu st fun sp st => xuR st fun a st => (xCo g a sp n ∧ xCo g b dp n) ∧ (match Nat.ble st.length 4 with | true => K (pc + 3) ls st g (xcp w a sp.toNat b dp.toNat n.toNat) | false => False)
  | _ => match xfit st e.2.1 with
    | true => xinv C lim mks e pc ls (st.take e.2.1).reverse (st.drop e.2.1) g w K
    | false => False
def xspc (C : xC) (lim : Nat × Nat) (mks : List (Nat × Nat × Nat)) (e : Nat × Nat × Nat × Int) (pc : Nat) (ls st : List xV) (g : xG) (w : xW) (K : xK) : Prop := match e.2.2.2 with
  | 3 => xuR st fun a r => a ≠ 0 ∧ (match Nat.ble r.length 4 with | true => K (pc + 3) ls r g w | false => False)
  | _ => xobj C lim mks e pc ls st g w K
def xputf (ci k : Nat) (pc : Nat) (ls st : List xV) (g : xG) (w : xW) (K : xK) : Prop := match xfr ci k with
  | false => xu st fun v r => xuR r fun a r => xIs g a (0, ci) ∧ K (pc + 3) ls r g (xup w a k v)
  | true => xuR st fun v r => xuR r fun a r => xIs g a (0, ci) ∧ K (pc + 3) ls r (g.1, xup g.2 a k v) w
def xgetf (ci k : Nat) (pc : Nat) (ls st : List xV) (g : xG) (w : xW) (K : xK) : Prop := match xfr ci k with
  | false => xuR st fun a r => xIs g a (0, ci) ∧ K (pc + 3) ls (xi (w a k) :: r) g w
  | true => xuR st fun a r => xIs g a (0, ci) ∧ K (pc + 3) ls (xr (g.2 a k) :: r) g w
def xnew (q : Nat × Nat) (pc : Nat) (ls st : List xV) (g : xG) (w : xW) (lim : Nat × Nat) (K : xK) : Prop := (g.1.length + 1 ≤ lim.1 ∧ xsl g.1 + xsz q ≤ lim.2) ∧ K pc ls (xr (g.1.length + 1) :: st) (g.1 ++ [q], g.2) w
def xiret (bl : Bool) (st : List xV) (Q : Int → Prop) : Prop := xu st fun v r => match r with
  | [] => match bl with
    | true => (v = 0 ∨ v = 1) ∧ Q v
    | false => Q v
  | _ => False
set_option maxRecDepth 4000 in
def xsem (C : xC) (lim : Nat × Nat) (mks : List (Nat × Nat × Nat)) (Q : xQ) (bl : Bool) (e : xE) (pc : Nat) (ls st : List xV) (g : xG) (w : xW) (K : xK) : Prop :=
  match e.1 with
  | .iconst n => K (pc + 1) ls (xi n :: st) g w
  | .bipush n => K (pc + 2) ls (xi n :: st) g w
  | .sipush n => K (pc + 3) ls (xi n :: st) g w
  | .lconst n => K (pc + 1) ls (xl (n.val : Nat) :: st) g w
  | .ldc _ => K (pc + 2) ls (xi e.2.2.2.2 :: st) g w
  | .ldc_w _ => K (pc + 3) ls (xi e.2.2.2.2 :: st) g w
  | .ldc2_w _ => K (pc + 3) ls (xl e.2.2.2.2 :: st) g w
  | .iload i => xldI ls i fun v => K (pc + 2) ls (xi v :: st) g w
  | .iload_n i => xldI ls i.val fun v => K (pc + 1) ls (xi v :: st) g w
  | .lload i => xldL ls i fun v => K (pc + 2) ls (xl v :: st) g w
  | .lload_n i => xldL ls i.val fun v => K (pc + 1) ls (xl v :: st) g w
  | .aload i => xldR ls i fun v => K (pc + 2) ls (xr v :: st) g w
  | .aload_n i => xldR ls i.val fun v => K (pc + 1) ls (xr v :: st) g w
  | .istore i => xu st fun v r => xsto ls i (xi v) fun ls => K (pc + 2) ls r g w
  | .istore_n i => xu st fun v r => xsto ls i.val (xi v) fun ls => K (pc + 1) ls r g w
  | .astore i => xuR st fun v r => xsto ls i (xr v) fun ls => K (pc + 2) ls r g w
  | .astore_n i => xuR st fun v r => xsto ls i.val (xr v) fun ls => K (pc + 1) ls r g w
  | .iinc i n => xldI ls i fun v => x32 (v + n) ∧ xsto ls i (xi (v + n)) fun ls => K (pc + 3) ls st g w
  | .iadd => xb st fun a b r => x32 (a + b) ∧ K (pc + 1) ls (xi (a + b) :: r) g w
  | .isub => xb st fun a b r => x32 (a - b) ∧ K (pc + 1) ls (xi (a - b) :: r) g w
  | .imul => xb st fun a b r => x32 (a * b) ∧ K (pc + 1) ls (xi (a * b) :: r) g w
  | .idiv => xb st fun a b r => (b ≠ 0 ∧ x32 (a.tdiv b)) ∧ K (pc + 1) ls (xi (a.tdiv b) :: r) g w
  | .irem => xb st fun a b r => (b ≠ 0 ∧ x32 (a.tdiv b)) ∧ K (pc + 1) ls (xi (a.tmod b) :: r) g w
  | .iand => xb st fun a b r => K (pc + 1) ls (xi (xAnd a b) :: r) g w
  | .ior => xb st fun a b r => K (pc + 1) ls (xi (xOr a b) :: r) g w
  | .ixor => xb st fun a b r => K (pc + 1) ls (xi (xXor a b) :: r) g w
  | .ishl => xb st fun a b r => K (pc + 1) ls (xi (xShl a b) :: r) g w
  | .ishr => xb st fun a b r => K (pc + 1) ls (xi (xShr a b) :: r) g w
  | .iushr => xb st fun a b r => K (pc + 1) ls (xi (xUshr a b) :: r) g w
  | .ladd => xbL st fun a b r => x64 (a + b) ∧ K (pc + 1) ls (xl (a + b) :: r) g w
  | .lmul => xbL st fun a b r => x64 (a * b) ∧ K (pc + 1) ls (xl (a * b) :: r) g w
  | .lrem => xbL st fun a b r => (b ≠ 0 ∧ x64 (a.tdiv b)) ∧ K (pc + 1) ls (xl (a.tmod b) :: r) g w
  | .land => xbL st fun a b r => K (pc + 1) ls (xl (xLand a b) :: r) g w
  | .lcmp => xbL st fun a b r => K (pc + 1) ls (xi (xCmp a b) :: r) g w
  | .i2l => xu st fun a r => K (pc + 1) ls (xl a :: r) g w
  | .l2i => xuL st fun a r => x32 a ∧ K (pc + 1) ls (xi a :: r) g w
  | .pop => match st with
    | v :: r => match xone v with
      | true => K (pc + 1) ls r g w
      | false => False
    | _ => False
  | .dup => match st with
    | v :: r => match xone v with
      | true => K (pc + 1) ls (v :: v :: r) g w
      | false => False
    | _ => False
  | .dup2 => match st with
    | u :: v :: r => match xone u && xone v with
      | true => K (pc + 1) ls (u :: v :: u :: v :: r) g w
      | false => False
    | _ => False
  | .ifCond c off => xu st fun a r => (xc c a 0 → K (xto pc off) ls r g w) ∧ (xnc c a 0 → K (pc + 3) ls r g w)
  | .if_icmp c off => xb st fun a b r => (xc c a b → K (xto pc off) ls r g w) ∧ (xnc c a b → K (pc + 3) ls r g w)
  | .goto off => K (xto pc off) ls st g w
  | .tableswitch d lo hi offs => xu st fun a r => ((a < lo ∨ hi < a) → K (xto pc d) ls r g w) ∧ xtab pc (fun t => K t ls r g w) a lo offs.toList
  | .getfield _ => xgetf e.2.1 e.2.2.1 pc ls st g w K
  | .putfield _ => xputf e.2.1 e.2.2.1 pc ls st g w K
  | .iaload => xai st fun a i r => xAr g a i ∧ K (pc + 1) ls (xi (w a i.toNat) :: r) g w
  | .baload => xai st fun a i r => xA2 g a i ∧ K (pc + 1) ls (xi (w a i.toNat) :: r) g w
  | .aaload => xai st fun a i r => xA3 g a i ∧ K (pc + 1) ls (xr (g.2 a i.toNat) :: r) g w
  | .iastore => xu st fun v r => xai r fun a i r => xA1 g a i ∧ K (pc + 1) ls r g (xup w a i.toNat v)
  | .bastore => xu st fun v r => xai r fun a i r => (xA2 g a i ∧ (v = 0 ∨ v = 1)) ∧ K (pc + 1) ls r g (xup w a i.toNat v)
  | .aastore => xuR st fun v r => xai r fun a i r => (xA3 g a i ∧ xIs g v (0, 3)) ∧ K (pc + 1) ls r (g.1, xup g.2 a i.toNat v) w
  | .arraylength => xuR st fun a r => xAl g a ∧ K (pc + 1) ls (xi (xlen g a) :: r) g w
  | .new _ => xnew (0, e.2.1) (pc + 3) ls st g w lim K
  | .newarray .int => xu st fun n r => (0 ≤ n ∧ n ≤ 65536) ∧ xnew (1, n.toNat) (pc + 2) ls r g w lim K
  | .newarray .boolean => xu st fun n r => (0 ≤ n ∧ n ≤ 65536) ∧ xnew (2, n.toNat) (pc + 2) ls r g w lim K
  | .anewarray _ => xu st fun n r => (0 ≤ n ∧ n ≤ 65536) ∧ xnew (3, n.toNat) (pc + 3) ls r g w lim K
  | .invokevirtual _ => xobj C lim mks e.2 pc ls st g w K
  | .invokespecial _ => xspc C lim mks e.2 pc ls st g w K
  | .invokestatic _ => xsta C lim mks e.2 pc ls st g w K
  | .ireturn => xiret bl st fun v => Q (some (xi v)) g w
  | .return_ => match st with
    | [] => Q none g w
    | _ => False
  | _ => False
def xfind (pc : Nat) : List (Nat × xE) → Option xE
  | [] => none
  | (p, e) :: r => bif Nat.beq p pc then some e else xfind pc r
/-- a method: name, code, places, answer, cells and slots that it makes, its class's name, whether it answers a boolean, its instructions -/
abbrev xTb : Type := (MethodName × ByteArray × Nat × Option FieldType) × (Nat × Nat) × String × Bool × List (Nat × xE)
def xstep (mks : List (Nat × Nat × Nat)) (T : xTb) (C : xC) (lim : Nat × Nat) (Q : xQ) (pc : Nat) (ls st : List xV) (g : xG) (w : xW) (K : xK) : Prop := match xfind pc T.2.2.2.2 with
  | some e => xsem C lim mks Q T.2.2.2.1 e pc ls st g w K
  | none => False
def xmask : List Bool → List xV → List xV
  | b :: bs, v :: vs => (bif b then v else none) :: xmask bs vs
  | _, vs => vs
def xcut (pc : Nat) : List (Nat × List Bool) → Option (List Bool)
  | [] => none
  | (p, e) :: r => bif Nat.beq p pc then some e else xcut pc r
def xexec (mks : List (Nat × Nat × Nat)) (T : xTb) (C : xC) (lim : Nat × Nat) (Q : xQ) (cuts : List (Nat × List Bool)) (P : xK) : Nat → xK
  | 0 => P
  | n + 1 => fun pc ls st g w => xstep mks T C lim Q pc ls st g w fun pc ls st g w => match xcut pc cuts with
    | some ks => P pc (xmask ks ls) st g w
    | none => xexec mks T C lim Q cuts P n pc ls st g w
/-- from this point on the method comes to an end with Q: the least such set of points -/
def xAt (mks : List (Nat × Nat × Nat)) (T : xTb) (C : xC) (lim : Nat × Nat) (Q : xQ) : xK := fun pc ls st g w => ∀ P : xK, (∀ pc ls st g w, xstep mks T C lim Q pc ls st g w P → P pc ls st g w) → (∀ ks pc ls st g w, P pc (xmask ks ls) st g w → P pc ls st g w) → P pc ls st g w
def xargs : List xV → List xV
  | [] => []
  | some (.inr (.inl v)) :: r => xl v :: none :: xargs r
  | v :: r => v :: xargs r
def xpad (n : Nat) (l : List xV) : List xV := l ++ List.replicate (n - l.length) none
def xchk (m : Nat × Nat) (g g' : xG) : Prop := g'.1.length = g.1.length + m.1 ∧ xsl g'.1 = xsl g.1 + m.2
/-- a call of a method, d calls deep at most -/
def xcall (mks : List (Nat × Nat × Nat)) (MT : List xTb) : Nat → xC
  | 0 => fun _ _ _ _ _ => False
  | d + 1 => fun mi args g w Q => match MT[mi]? with
    | some T => xAt mks T (xcall mks MT d) (g.1.length + T.2.1.1, xsl g.1 + T.2.1.2) (fun r g' w' => xchk T.2.1 g g' ∧ Q r g' w') 0 (xpad T.1.2.2.1 (xargs args)) [] g w
    | none => False
end
section
/-! ===== the machine grows with what is asked behind it; blocks of instructions at once ===== -/
theorem xldI_m {ls : List xV} {i : Nat} {k k' : Int → Prop} (h : ∀ v, k v → k' v) (t : xldI ls i k) : xldI ls i k' := by
  unfold xldI at *; split <;> simp_all
theorem xldL_m {ls : List xV} {i : Nat} {k k' : Int → Prop} (h : ∀ v, k v → k' v) (t : xldL ls i k) : xldL ls i k' := by
  unfold xldL at *; split <;> simp_all
theorem xldR_m {ls : List xV} {i : Nat} {k k' : Nat → Prop} (h : ∀ v, k v → k' v) (t : xldR ls i k) : xldR ls i k' := by
  unfold xldR at *; split <;> simp_all
theorem xsto_m {ls : List xV} {i : Nat} {v : xV} {k k' : List xV → Prop} (h : ∀ v, k v → k' v) (t : xsto ls i v k) : xsto ls i v k' := by
  unfold xsto at *; split <;> simp_all
theorem xu_m {st : List xV} {k k' : Int → List xV → Prop} (h : ∀ v r, k v r → k' v r) (t : xu st k) : xu st k' := by
  unfold xu at *; split <;> simp_all
theorem xuL_m {st : List xV} {k k' : Int → List xV → Prop} (h : ∀ v r, k v r → k' v r) (t : xuL st k) : xuL st k' := by
  unfold xuL at *; split <;> simp_all
theorem xuR_m {st : List xV} {k k' : Nat → List xV → Prop} (h : ∀ v r, k v r → k' v r) (t : xuR st k) : xuR st k' := by
  unfold xuR at *; split <;> simp_all
theorem xb_m {st : List xV} {k k' : Int → Int → List xV → Prop} (h : ∀ u v r, k u v r → k' u v r) (t : xb st k) : xb st k' := xu_m (fun _ _ t => xu_m (fun _ _ t => h _ _ _ t) t) t
theorem xbL_m {st : List xV} {k k' : Int → Int → List xV → Prop} (h : ∀ u v r, k u v r → k' u v r) (t : xbL st k) : xbL st k' := xuL_m (fun _ _ t => xuL_m (fun _ _ t => h _ _ _ t) t) t
theorem xai_m {st : List xV} {k k' : Nat → Int → List xV → Prop} (h : ∀ u v r, k u v r → k' u v r) (t : xai st k) : xai st k' := xu_m (fun _ _ t => xuR_m (fun _ _ t => h _ _ _ t) t) t
theorem xtab_m {pc : Nat} {k k' : Nat → Prop} {a : Int} (h : ∀ t, k t → k' t) : ∀ (os : List Int) (v : Int), xtab pc k a v os → xtab pc k' a v os
  | [], _, _ => trivial
  | _ :: os, _, t => ⟨fun e => h _ (t.1 e), xtab_m h os _ t.2⟩
def xCm (C : xC) : Prop := ∀ (mi : Nat) (args : List xV) (g : xG) (w : xW) (Q Q' : xQ), (∀ r g w, Q r g w → Q' r g w) → C mi args g w Q → C mi args g w Q'
section XM
variable {C : xC} {lim : Nat × Nat} {mks : List (Nat × Nat × Nat)} {Q Q' : xQ} {bl : Bool} {pc : Nat} {ls st args rest : List xV} {g : xG} {w : xW} {K K' : xK}
theorem xinv_m (hC : xCm C) {e : Nat × Nat × Nat × Int} (hK : ∀ pc ls st g w, K pc ls st g w → K' pc ls st g w) (t : xinv C lim mks e pc ls args rest g w K) : xinv C lim mks e pc ls args rest g w K' := by
  unfold xinv at *
  split
  · rename_i h
    simp only [h] at t
    exact ⟨t.1, hC _ _ _ _ _ _ (fun r g w q => ⟨q.1, hK _ _ _ _ _ q.2⟩) t.2⟩
  · rename_i h
    simp only [h] at t
    exact hC _ _ _ _ _ _ (fun r g w ⟨v, q, q2⟩ => ⟨v, q, hK _ _ _ _ _ q2⟩) t
  · rename_i h
    simp only [h] at t
    exact hC _ _ _ _ _ _ (fun r g w q => ⟨q.1, hK _ _ _ _ _ q.2⟩) t
  · split at t <;> simp_all
theorem xobj_m (hC : xCm C) {e : Nat × Nat × Nat × Int} (hK : ∀ pc ls st g w, K pc ls st g w → K' pc ls st g w) (t : xobj C lim mks e pc ls st g w K) : xobj C lim mks e pc ls st g w K' := by
  unfold xobj at *
  split
  · rename_i h
    simp only [h] at t
    exact xuR_m (fun a r q => ⟨q.1, xinv_m hC hK q.2⟩) t
  · rename_i h
    simp only [h] at t
theorem xsta_m (hC : xCm C) {e : Nat × Nat × Nat × Int} (hK : ∀ pc ls st g w, K pc ls st g w → K' pc ls st g w) (t : xsta C lim mks e pc ls st g w K) : xsta C lim mks e pc ls st g w K' := by
  unfold xsta at *
  split
  · rename_i h
    simp only [h] at t
    refine xu_m (fun a r q => xu_m (fun a r q => xuR_m (fun a r q => xu_m (fun a r q => xuR_m (fun a r q => ⟨q.1, ?_⟩) q) q) q) q) t
    have q2 := q.2
    split
    · rename_i h2
      simp only [h2] at q2
      exact hK _ _ _ _ _ q2
    · rename_i h2
      simp only [h2] at q2
  · rename_i h
    split at t
    · rename_i h2
      exact absurd h2 h
    · split
      · rename_i h2
        simp only [h2] at t
        exact xinv_m hC hK t
      · rename_i h2
        simp only [h2] at t
theorem xspc_m (hC : xCm C) {e : Nat × Nat × Nat × Int} (hK : ∀ pc ls st g w, K pc ls st g w → K' pc ls st g w) (t : xspc C lim mks e pc ls st g w K) : xspc C lim mks e pc ls st g w K' := by
  unfold xspc at *
  split
  · rename_i h
    simp only [h] at t
    refine xuR_m (fun a r q => ⟨q.1, ?_⟩) t
    have q2 := q.2
    split
    · rename_i h2
      simp only [h2] at q2
      exact hK _ _ _ _ _ q2
    · rename_i h2
      simp only [h2] at q2
  · rename_i h
    split at t
    · rename_i h2
      exact absurd h2 h
    · exact xobj_m hC hK t
theorem xputf_m {ci k : Nat} (hK : ∀ pc ls st g w, K pc ls st g w → K' pc ls st g w) (t : xputf ci k pc ls st g w K) : xputf ci k pc ls st g w K' := by
  unfold xputf at *
  split
  · rename_i h
    simp only [h] at t
    exact xu_m (fun a r q => xuR_m (fun a r q => ⟨q.1, hK _ _ _ _ _ q.2⟩) q) t
  · rename_i h
    simp only [h] at t
    exact xuR_m (fun a r q => xuR_m (fun a r q => ⟨q.1, hK _ _ _ _ _ q.2⟩) q) t
theorem xgetf_m {ci k : Nat} (hK : ∀ pc ls st g w, K pc ls st g w → K' pc ls st g w) (t : xgetf ci k pc ls st g w K) : xgetf ci k pc ls st g w K' := by
  unfold xgetf at *
  split
  · rename_i h
    simp only [h] at t
    exact xuR_m (fun a r q => ⟨q.1, hK _ _ _ _ _ q.2⟩) t
  · rename_i h
    simp only [h] at t
    exact xuR_m (fun a r q => ⟨q.1, hK _ _ _ _ _ q.2⟩) t
theorem xiret_m {k k' : Int → Prop} (h : ∀ v, k v → k' v) (t : xiret bl st k) : xiret bl st k' := by
  unfold xiret at *
  refine xu_m (fun v r q => ?_) t
  cases r with
  | nil =>
    cases bl with
    | true => exact ⟨q.1, h _ q.2⟩
    | false => exact h _ q
  | cons => exact q
set_option maxHeartbeats 4000000 in
theorem xsem_m (hC : xCm C) {e : xE} (hK : ∀ pc ls st g w, K pc ls st g w → K' pc ls st g w) (hQ : ∀ r g w, Q r g w → Q' r g w) (t : xsem C lim mks Q bl e pc ls st g w K) : xsem C lim mks Q' bl e pc ls st g w K' := by
  obtain ⟨ins, e⟩ := e
  cases ins
  all_goals first
    | exact t.elim
    | exact hK _ _ _ _ _ t
    | exact xldI_m (fun _ q => hK _ _ _ _ _ q) t
    | exact xldL_m (fun _ q => hK _ _ _ _ _ q) t
    | exact xldR_m (fun _ q => hK _ _ _ _ _ q) t
    | exact xu_m (fun _ _ q => xsto_m (fun _ q => hK _ _ _ _ _ q) q) t
    | exact xuR_m (fun _ _ q => xsto_m (fun _ q => hK _ _ _ _ _ q) q) t
    | exact xldI_m (fun _ q => ⟨q.1, xsto_m (fun _ q => hK _ _ _ _ _ q) q.2⟩) t
    | exact xb_m (fun _ _ _ q => ⟨q.1, hK _ _ _ _ _ q.2⟩) t
    | exact xb_m (fun _ _ _ q => hK _ _ _ _ _ q) t
    | exact xbL_m (fun _ _ _ q => ⟨q.1, hK _ _ _ _ _ q.2⟩) t
    | exact xbL_m (fun _ _ _ q => hK _ _ _ _ _ q) t
    | exact xu_m (fun _ _ q => hK _ _ _ _ _ q) t
    | exact xuL_m (fun _ _ q => ⟨q.1, hK _ _ _ _ _ q.2⟩) t
    | exact xu_m (fun _ _ q => ⟨fun h => hK _ _ _ _ _ (q.1 h), fun h => hK _ _ _ _ _ (q.2 h)⟩) t
    | exact xb_m (fun _ _ _ q => ⟨fun h => hK _ _ _ _ _ (q.1 h), fun h => hK _ _ _ _ _ (q.2 h)⟩) t
    | exact xu_m (fun _ _ q => ⟨fun h => hK _ _ _ _ _ (q.1 h), xtab_m (fun _ q => hK _ _ _ _ _ q) _ _ q.2⟩) t
    | exact xgetf_m hK t
    | exact xputf_m hK t
    | exact xai_m (fun _ _ _ q => ⟨q.1, hK _ _ _ _ _ q.2⟩) t
    | exact xu_m (fun _ _ q => xai_m (fun _ _ _ q => ⟨q.1, hK _ _ _ _ _ q.2⟩) q) t
    | exact xuR_m (fun _ _ q => xai_m (fun _ _ _ q => ⟨q.1, hK _ _ _ _ _ q.2⟩) q) t
    | exact xuR_m (fun _ _ q => ⟨q.1, hK _ _ _ _ _ q.2⟩) t
    | exact ⟨t.1, hK _ _ _ _ _ t.2⟩
    | exact xu_m (fun _ _ q => ⟨q.1, q.2.1, hK _ _ _ _ _ q.2.2⟩) t
    | exact xobj_m hC hK t
    | exact xspc_m hC hK t
    | exact xsta_m hC hK t
    | exact xiret_m (fun _ q => hQ _ _ _ q) t
    | skip
  case newarray a =>
    cases a
    all_goals first
      | exact t.elim
      | exact xu_m (fun _ _ q => ⟨q.1, q.2.1, hK _ _ _ _ _ q.2.2⟩) t
  case return_ =>
    cases st with
    | nil => exact hQ _ _ _ t
    | cons => exact t.elim
  case pop =>
    rcases st with _ | ⟨v, r⟩
    · exact t.elim
    · revert t
      show (match xone v with | true => _ | false => False) → (match xone v with | true => _ | false => False)
      cases xone v
      · exact fun t => t
      · exact fun t => hK _ _ _ _ _ t
  case dup =>
    rcases st with _ | ⟨v, r⟩
    · exact t.elim
    · revert t
      show (match xone v with | true => _ | false => False) → (match xone v with | true => _ | false => False)
      cases xone v
      · exact fun t => t
      · exact fun t => hK _ _ _ _ _ t
  case dup2 =>
    rcases st with _ | ⟨u, _ | ⟨v, r⟩⟩
    · exact t.elim
    · exact t.elim
    · revert t
      show (match xone u && xone v with | true => _ | false => False) → (match xone u && xone v with | true => _ | false => False)
      cases xone u && xone v
      · exact fun t => t
      · exact fun t => hK _ _ _ _ _ t
theorem xstep_m {T : xTb} (hC : xCm C) (hK : ∀ pc ls st g w, K pc ls st g w → K' pc ls st g w) (hQ : ∀ r g w, Q r g w → Q' r g w) (t : xstep mks T C lim Q pc ls st g w K) : xstep mks T C lim Q' pc ls st g w K' := by
  unfold xstep at *
  split
  · rename_i h
    simp only [h] at t
    exact xsem_m hC hK hQ t
  · rename_i h
    simp only [h] at t
theorem xAt_q {T : xTb} (hC : xCm C) (hQ : ∀ r g w, Q r g w → Q' r g w) (t : xAt mks T C lim Q pc ls st g w) : xAt mks T C lim Q' pc ls st g w :=
  fun P h1 h2 => t P (fun _ _ _ _ _ q => h1 _ _ _ _ _ (xstep_m hC (fun _ _ _ _ _ q => q) hQ q)) h2
theorem xAt_exec {T : xTb} (hC : xCm C) (cuts : List (Nat × List Bool)) (n : Nat) (t : xexec mks T C lim Q cuts (xAt mks T C lim Q) n pc ls st g w) : xAt mks T C lim Q pc ls st g w := by
  intro P h1 h2
  induction n generalizing pc ls st g w with
  | zero => exact t P h1 h2
  | succ n ih =>
    refine h1 _ _ _ _ _ (xstep_m hC (fun pc ls st g w q => ?_) (fun _ _ _ q => q) t)
    split at q
    · exact h2 _ _ _ _ _ _ (q P h1 h2)
    · exact ih q
theorem xcall_m (MT : List xTb) : ∀ d : Nat, xCm (xcall mks MT d)
  | 0 => fun _ _ _ _ _ _ _ h => h
  | d + 1 => fun mi args g w Q Q' hQ h => by
    unfold xcall at *
    split
    · rename_i h2
      simp only [h2] at h
      exact xAt_q (xcall_m MT d) (fun r g w q => ⟨q.1, hQ _ _ _ q.2⟩) h
    · rename_i h2
      simp only [h2] at h
end XM
end
