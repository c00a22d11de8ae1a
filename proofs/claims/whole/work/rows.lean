section
-- ===== PART A: goes FIRST, ahead of the names: the tables' words, and 'selects' of the private methods out of them =====
/-- a private method of a class that the tables say can be made, by its rows of tables_1 -/
def lw_okq (q : MethodName × Nat) : Prop := (q.1.cls ≠ "java/lang/invoke/MethodHandle" ∧ q.1.cls ≠ "java/lang/invoke/VarHandle") ∧ Cond.instantiable q.1.cls q.2 ∈ tables_1 ∧ Cond.privateMethod q.1 ∈ tables_1 ∧ Cond.instanceMethod q.1 ∈ tables_1
theorem lw_p0 : lw_okq (⟨"FirstFelt$Reader", "take", "(I)Z"⟩, 9) := ⟨⟨by decide +kernel, by decide +kernel⟩, List.mem_of_getElem? (i := 22) (by decide +kernel), List.mem_of_getElem? (i := 338) (by decide +kernel), List.mem_of_getElem? (i := 339) (by decide +kernel)⟩
theorem lw_p1 : lw_okq (⟨"FirstFelt$Reader", "read", "(LFirstFelt$Town;LFirstFelt$State;)Z"⟩, 9) := ⟨⟨by decide +kernel, by decide +kernel⟩, List.mem_of_getElem? (i := 22) (by decide +kernel), List.mem_of_getElem? (i := 347) (by decide +kernel), List.mem_of_getElem? (i := 348) (by decide +kernel)⟩
theorem lw_p2 : lw_okq (⟨"FirstFelt$Town", "clear", "()V"⟩, 13) := ⟨⟨by decide +kernel, by decide +kernel⟩, List.mem_of_getElem? (i := 215) (by decide +kernel), List.mem_of_getElem? (i := 351) (by decide +kernel), List.mem_of_getElem? (i := 352) (by decide +kernel)⟩
theorem lw_p3 : lw_okq (⟨"FirstFelt$State", "clear", "()V"⟩, 18) := ⟨⟨by decide +kernel, by decide +kernel⟩, List.mem_of_getElem? (i := 84) (by decide +kernel), List.mem_of_getElem? (i := 358) (by decide +kernel), List.mem_of_getElem? (i := 359) (by decide +kernel)⟩
theorem lw_p4 : lw_okq (⟨"FirstFelt$Reader", "skipBlanks", "()V"⟩, 9) := ⟨⟨by decide +kernel, by decide +kernel⟩, List.mem_of_getElem? (i := 22) (by decide +kernel), List.mem_of_getElem? (i := 363) (by decide +kernel), List.mem_of_getElem? (i := 364) (by decide +kernel)⟩
theorem lw_p5 : lw_okq (⟨"FirstFelt$Reader", "readClause", "()Z"⟩, 9) := ⟨⟨by decide +kernel, by decide +kernel⟩, List.mem_of_getElem? (i := 22) (by decide +kernel), List.mem_of_getElem? (i := 367) (by decide +kernel), List.mem_of_getElem? (i := 368) (by decide +kernel)⟩
theorem lw_p6 : lw_okq (⟨"FirstFelt$Reader", "fail", "(II)Z"⟩, 9) := ⟨⟨by decide +kernel, by decide +kernel⟩, List.mem_of_getElem? (i := 22) (by decide +kernel), List.mem_of_getElem? (i := 371) (by decide +kernel), List.mem_of_getElem? (i := 372) (by decide +kernel)⟩
theorem lw_p7 : lw_okq (⟨"FirstFelt$Reader", "startClause", "(Z)Z"⟩, 9) := ⟨⟨by decide +kernel, by decide +kernel⟩, List.mem_of_getElem? (i := 22) (by decide +kernel), List.mem_of_getElem? (i := 375) (by decide +kernel), List.mem_of_getElem? (i := 376) (by decide +kernel)⟩
theorem lw_p8 : lw_okq (⟨"FirstFelt$Reader", "readTown", "()Z"⟩, 9) := ⟨⟨by decide +kernel, by decide +kernel⟩, List.mem_of_getElem? (i := 22) (by decide +kernel), List.mem_of_getElem? (i := 379) (by decide +kernel), List.mem_of_getElem? (i := 380) (by decide +kernel)⟩
theorem lw_p9 : lw_okq (⟨"FirstFelt$Reader", "readNumber", "(II)I"⟩, 9) := ⟨⟨by decide +kernel, by decide +kernel⟩, List.mem_of_getElem? (i := 22) (by decide +kernel), List.mem_of_getElem? (i := 383) (by decide +kernel), List.mem_of_getElem? (i := 384) (by decide +kernel)⟩
theorem lw_p10 : lw_okq (⟨"FirstFelt$Town", "setSize", "(II)V"⟩, 13) := ⟨⟨by decide +kernel, by decide +kernel⟩, List.mem_of_getElem? (i := 215) (by decide +kernel), List.mem_of_getElem? (i := 390) (by decide +kernel), List.mem_of_getElem? (i := 391) (by decide +kernel)⟩
theorem lw_p11 : lw_okq (⟨"FirstFelt$Town", "cellAt", "(II)I"⟩, 13) := ⟨⟨by decide +kernel, by decide +kernel⟩, List.mem_of_getElem? (i := 215) (by decide +kernel), List.mem_of_getElem? (i := 394) (by decide +kernel), List.mem_of_getElem? (i := 395) (by decide +kernel)⟩
theorem lw_p12 : lw_okq (⟨"FirstFelt$Reader", "endClause", "()Z"⟩, 9) := ⟨⟨by decide +kernel, by decide +kernel⟩, List.mem_of_getElem? (i := 22) (by decide +kernel), List.mem_of_getElem? (i := 399) (by decide +kernel), List.mem_of_getElem? (i := 400) (by decide +kernel)⟩
theorem lw_p13 : lw_okq (⟨"FirstFelt$Reader", "readWall", "()Z"⟩, 9) := ⟨⟨by decide +kernel, by decide +kernel⟩, List.mem_of_getElem? (i := 22) (by decide +kernel), List.mem_of_getElem? (i := 403) (by decide +kernel), List.mem_of_getElem? (i := 404) (by decide +kernel)⟩
theorem lw_p14 : lw_okq (⟨"FirstFelt$Reader", "readCell", "()I"⟩, 9) := ⟨⟨by decide +kernel, by decide +kernel⟩, List.mem_of_getElem? (i := 22) (by decide +kernel), List.mem_of_getElem? (i := 407) (by decide +kernel), List.mem_of_getElem? (i := 408) (by decide +kernel)⟩
theorem lw_p15 : lw_okq (⟨"FirstFelt$Town", "beside", "(II)I"⟩, 13) := ⟨⟨by decide +kernel, by decide +kernel⟩, List.mem_of_getElem? (i := 215) (by decide +kernel), List.mem_of_getElem? (i := 415) (by decide +kernel), List.mem_of_getElem? (i := 416) (by decide +kernel)⟩
def lw_privs_1 : List (MethodName × Nat) := [(⟨"FirstFelt$Reader", "take", "(I)Z"⟩, 9), (⟨"FirstFelt$Reader", "read", "(LFirstFelt$Town;LFirstFelt$State;)Z"⟩, 9), (⟨"FirstFelt$Town", "clear", "()V"⟩, 13), (⟨"FirstFelt$State", "clear", "()V"⟩, 18), (⟨"FirstFelt$Reader", "skipBlanks", "()V"⟩, 9), (⟨"FirstFelt$Reader", "readClause", "()Z"⟩, 9), (⟨"FirstFelt$Reader", "fail", "(II)Z"⟩, 9), (⟨"FirstFelt$Reader", "startClause", "(Z)Z"⟩, 9), (⟨"FirstFelt$Reader", "readTown", "()Z"⟩, 9), (⟨"FirstFelt$Reader", "readNumber", "(II)I"⟩, 9), (⟨"FirstFelt$Town", "setSize", "(II)V"⟩, 13), (⟨"FirstFelt$Town", "cellAt", "(II)I"⟩, 13), (⟨"FirstFelt$Reader", "endClause", "()Z"⟩, 9), (⟨"FirstFelt$Reader", "readWall", "()Z"⟩, 9), (⟨"FirstFelt$Reader", "readCell", "()I"⟩, 9), (⟨"FirstFelt$Town", "beside", "(II)I"⟩, 13)]
theorem lw_r1 : ∀ q ∈ lw_privs_1, lw_okq q := List.forall_mem_cons.mpr ⟨lw_p0, List.forall_mem_cons.mpr ⟨lw_p1, List.forall_mem_cons.mpr ⟨lw_p2, List.forall_mem_cons.mpr ⟨lw_p3, List.forall_mem_cons.mpr ⟨lw_p4, List.forall_mem_cons.mpr ⟨lw_p5, List.forall_mem_cons.mpr ⟨lw_p6, List.forall_mem_cons.mpr ⟨lw_p7, List.forall_mem_cons.mpr ⟨lw_p8, List.forall_mem_cons.mpr ⟨lw_p9, List.forall_mem_cons.mpr ⟨lw_p10, List.forall_mem_cons.mpr ⟨lw_p11, List.forall_mem_cons.mpr ⟨lw_p12, List.forall_mem_cons.mpr ⟨lw_p13, List.forall_mem_cons.mpr ⟨lw_p14, List.forall_mem_cons.mpr ⟨lw_p15, fun _ h => absurd h List.not_mem_nil⟩⟩⟩⟩⟩⟩⟩⟩⟩⟩⟩⟩⟩⟩⟩⟩
theorem lw_p16 : lw_okq (⟨"FirstFelt$State", "wallOf", "(II)I"⟩, 18) := ⟨⟨by decide +kernel, by decide +kernel⟩, List.mem_of_getElem? (i := 84) (by decide +kernel), List.mem_of_getElem? (i := 419) (by decide +kernel), List.mem_of_getElem? (i := 420) (by decide +kernel)⟩
theorem lw_p17 : lw_okq (⟨"FirstFelt$State", "setWall", "(LFirstFelt$Town;IIZ)V"⟩, 18) := ⟨⟨by decide +kernel, by decide +kernel⟩, List.mem_of_getElem? (i := 84) (by decide +kernel), List.mem_of_getElem? (i := 424) (by decide +kernel), List.mem_of_getElem? (i := 425) (by decide +kernel)⟩
theorem lw_p18 : lw_okq (⟨"FirstFelt$Reader", "readStove", "()Z"⟩, 9) := ⟨⟨by decide +kernel, by decide +kernel⟩, List.mem_of_getElem? (i := 22) (by decide +kernel), List.mem_of_getElem? (i := 429) (by decide +kernel), List.mem_of_getElem? (i := 430) (by decide +kernel)⟩
theorem lw_p19 : lw_okq (⟨"FirstFelt$Reader", "hasStove", "(I)Z"⟩, 9) := ⟨⟨by decide +kernel, by decide +kernel⟩, List.mem_of_getElem? (i := 22) (by decide +kernel), List.mem_of_getElem? (i := 433) (by decide +kernel), List.mem_of_getElem? (i := 434) (by decide +kernel)⟩
theorem lw_p20 : lw_okq (⟨"FirstFelt$Reader", "readRoof", "()Z"⟩, 9) := ⟨⟨by decide +kernel, by decide +kernel⟩, List.mem_of_getElem? (i := 22) (by decide +kernel), List.mem_of_getElem? (i := 437) (by decide +kernel), List.mem_of_getElem? (i := 438) (by decide +kernel)⟩
theorem lw_p21 : lw_okq (⟨"FirstFelt$Reader", "readSun", "()Z"⟩, 9) := ⟨⟨by decide +kernel, by decide +kernel⟩, List.mem_of_getElem? (i := 22) (by decide +kernel), List.mem_of_getElem? (i := 441) (by decide +kernel), List.mem_of_getElem? (i := 442) (by decide +kernel)⟩
theorem lw_p22 : lw_okq (⟨"FirstFelt$Reader", "readPerson", "()Z"⟩, 9) := ⟨⟨by decide +kernel, by decide +kernel⟩, List.mem_of_getElem? (i := 22) (by decide +kernel), List.mem_of_getElem? (i := 445) (by decide +kernel), List.mem_of_getElem? (i := 446) (by decide +kernel)⟩
theorem lw_p23 : lw_okq (⟨"FirstFelt$Town", "cells", "()I"⟩, 13) := ⟨⟨by decide +kernel, by decide +kernel⟩, List.mem_of_getElem? (i := 215) (by decide +kernel), List.mem_of_getElem? (i := 450) (by decide +kernel), List.mem_of_getElem? (i := 451) (by decide +kernel)⟩
theorem lw_p24 : lw_okq (⟨"FirstFelt$State", "countWalls", "(LFirstFelt$Town;)I"⟩, 18) := ⟨⟨by decide +kernel, by decide +kernel⟩, List.mem_of_getElem? (i := 84) (by decide +kernel), List.mem_of_getElem? (i := 462) (by decide +kernel), List.mem_of_getElem? (i := 463) (by decide +kernel)⟩
theorem lw_p25 : lw_okq (⟨"FirstFelt$Town", "sunAt", "(I)I"⟩, 13) := ⟨⟨by decide +kernel, by decide +kernel⟩, List.mem_of_getElem? (i := 215) (by decide +kernel), List.mem_of_getElem? (i := 468) (by decide +kernel), List.mem_of_getElem? (i := 469) (by decide +kernel)⟩
theorem lw_p26 : lw_okq (⟨"FirstFelt$State", "peopleOn", "(LFirstFelt$Town;I)I"⟩, 18) := ⟨⟨by decide +kernel, by decide +kernel⟩, List.mem_of_getElem? (i := 84) (by decide +kernel), List.mem_of_getElem? (i := 478) (by decide +kernel), List.mem_of_getElem? (i := 479) (by decide +kernel)⟩
theorem lw_p27 : lw_okq (⟨"FirstFelt", "refusalOfWall", "(III)I"⟩, 13) := ⟨⟨by decide +kernel, by decide +kernel⟩, List.mem_of_getElem? (i := 14) (by decide +kernel), List.mem_of_getElem? (i := 486) (by decide +kernel), List.mem_of_getElem? (i := 487) (by decide +kernel)⟩
theorem lw_p28 : lw_okq (⟨"FirstFelt", "isStove", "(I)Z"⟩, 13) := ⟨⟨by decide +kernel, by decide +kernel⟩, List.mem_of_getElem? (i := 14) (by decide +kernel), List.mem_of_getElem? (i := 497) (by decide +kernel), List.mem_of_getElem? (i := 498) (by decide +kernel)⟩
theorem lw_p29 : lw_okq (⟨"FirstFelt$Town", "pairOf", "(I)I"⟩, 13) := ⟨⟨by decide +kernel, by decide +kernel⟩, List.mem_of_getElem? (i := 215) (by decide +kernel), List.mem_of_getElem? (i := 501) (by decide +kernel), List.mem_of_getElem? (i := 502) (by decide +kernel)⟩
theorem lw_p30 : lw_okq (⟨"FirstFelt", "isPerson", "(I)Z"⟩, 13) := ⟨⟨by decide +kernel, by decide +kernel⟩, List.mem_of_getElem? (i := 14) (by decide +kernel), List.mem_of_getElem? (i := 509) (by decide +kernel), List.mem_of_getElem? (i := 510) (by decide +kernel)⟩
theorem lw_p31 : lw_okq (⟨"FirstFelt$State", "countOwned", "(LFirstFelt$Town;I)I"⟩, 18) := ⟨⟨by decide +kernel, by decide +kernel⟩, List.mem_of_getElem? (i := 84) (by decide +kernel), List.mem_of_getElem? (i := 513) (by decide +kernel), List.mem_of_getElem? (i := 514) (by decide +kernel)⟩
def lw_privs_2 : List (MethodName × Nat) := [(⟨"FirstFelt$State", "wallOf", "(II)I"⟩, 18), (⟨"FirstFelt$State", "setWall", "(LFirstFelt$Town;IIZ)V"⟩, 18), (⟨"FirstFelt$Reader", "readStove", "()Z"⟩, 9), (⟨"FirstFelt$Reader", "hasStove", "(I)Z"⟩, 9), (⟨"FirstFelt$Reader", "readRoof", "()Z"⟩, 9), (⟨"FirstFelt$Reader", "readSun", "()Z"⟩, 9), (⟨"FirstFelt$Reader", "readPerson", "()Z"⟩, 9), (⟨"FirstFelt$Town", "cells", "()I"⟩, 13), (⟨"FirstFelt$State", "countWalls", "(LFirstFelt$Town;)I"⟩, 18), (⟨"FirstFelt$Town", "sunAt", "(I)I"⟩, 13), (⟨"FirstFelt$State", "peopleOn", "(LFirstFelt$Town;I)I"⟩, 18), (⟨"FirstFelt", "refusalOfWall", "(III)I"⟩, 13), (⟨"FirstFelt", "isStove", "(I)Z"⟩, 13), (⟨"FirstFelt$Town", "pairOf", "(I)I"⟩, 13), (⟨"FirstFelt", "isPerson", "(I)Z"⟩, 13), (⟨"FirstFelt$State", "countOwned", "(LFirstFelt$Town;I)I"⟩, 18)]
theorem lw_r2 : ∀ q ∈ lw_privs_2, lw_okq q := List.forall_mem_cons.mpr ⟨lw_p16, List.forall_mem_cons.mpr ⟨lw_p17, List.forall_mem_cons.mpr ⟨lw_p18, List.forall_mem_cons.mpr ⟨lw_p19, List.forall_mem_cons.mpr ⟨lw_p20, List.forall_mem_cons.mpr ⟨lw_p21, List.forall_mem_cons.mpr ⟨lw_p22, List.forall_mem_cons.mpr ⟨lw_p23, List.forall_mem_cons.mpr ⟨lw_p24, List.forall_mem_cons.mpr ⟨lw_p25, List.forall_mem_cons.mpr ⟨lw_p26, List.forall_mem_cons.mpr ⟨lw_p27, List.forall_mem_cons.mpr ⟨lw_p28, List.forall_mem_cons.mpr ⟨lw_p29, List.forall_mem_cons.mpr ⟨lw_p30, List.forall_mem_cons.mpr ⟨lw_p31, fun _ h => absurd h List.not_mem_nil⟩⟩⟩⟩⟩⟩⟩⟩⟩⟩⟩⟩⟩⟩⟩⟩
theorem lw_p32 : lw_okq (⟨"FirstFelt$State", "reach", "(LFirstFelt$Town;II)I"⟩, 18) := ⟨⟨by decide +kernel, by decide +kernel⟩, List.mem_of_getElem? (i := 84) (by decide +kernel), List.mem_of_getElem? (i := 521) (by decide +kernel), List.mem_of_getElem? (i := 522) (by decide +kernel)⟩
theorem lw_p33 : lw_okq (⟨"FirstFelt$State", "canBeLit", "(I)Z"⟩, 18) := ⟨⟨by decide +kernel, by decide +kernel⟩, List.mem_of_getElem? (i := 84) (by decide +kernel), List.mem_of_getElem? (i := 535) (by decide +kernel), List.mem_of_getElem? (i := 536) (by decide +kernel)⟩
theorem lw_p34 : lw_okq (⟨"FirstFelt", "refusalOfMinutes", "(I)I"⟩, 13) := ⟨⟨by decide +kernel, by decide +kernel⟩, List.mem_of_getElem? (i := 14) (by decide +kernel), List.mem_of_getElem? (i := 559) (by decide +kernel), List.mem_of_getElem? (i := 560) (by decide +kernel)⟩
theorem lw_p35 : lw_okq (⟨"FirstFelt$State", "passMinutes", "(LFirstFelt$Town;II)V"⟩, 18) := ⟨⟨by decide +kernel, by decide +kernel⟩, List.mem_of_getElem? (i := 84) (by decide +kernel), List.mem_of_getElem? (i := 567) (by decide +kernel), List.mem_of_getElem? (i := 568) (by decide +kernel)⟩
theorem lw_p36 : lw_okq (⟨"FirstFelt$State", "passMinute", "(LFirstFelt$Town;I)V"⟩, 18) := ⟨⟨by decide +kernel, by decide +kernel⟩, List.mem_of_getElem? (i := 84) (by decide +kernel), List.mem_of_getElem? (i := 571) (by decide +kernel), List.mem_of_getElem? (i := 572) (by decide +kernel)⟩
theorem lw_p37 : lw_okq (⟨"FirstFelt$State", "flow", "(LFirstFelt$Town;)V"⟩, 18) := ⟨⟨by decide +kernel, by decide +kernel⟩, List.mem_of_getElem? (i := 84) (by decide +kernel), List.mem_of_getElem? (i := 575) (by decide +kernel), List.mem_of_getElem? (i := 576) (by decide +kernel)⟩
theorem lw_p38 : lw_okq (⟨"FirstFelt$State", "flowBetween", "(II)V"⟩, 18) := ⟨⟨by decide +kernel, by decide +kernel⟩, List.mem_of_getElem? (i := 84) (by decide +kernel), List.mem_of_getElem? (i := 583) (by decide +kernel), List.mem_of_getElem? (i := 584) (by decide +kernel)⟩
theorem lw_p39 : lw_okq (⟨"FirstFelt$State", "addWarmth", "(LFirstFelt$Town;)V"⟩, 18) := ⟨⟨by decide +kernel, by decide +kernel⟩, List.mem_of_getElem? (i := 84) (by decide +kernel), List.mem_of_getElem? (i := 587) (by decide +kernel), List.mem_of_getElem? (i := 588) (by decide +kernel)⟩
theorem lw_p40 : lw_okq (⟨"FirstFelt$State", "coolDown", "(LFirstFelt$Town;)V"⟩, 18) := ⟨⟨by decide +kernel, by decide +kernel⟩, List.mem_of_getElem? (i := 84) (by decide +kernel), List.mem_of_getElem? (i := 591) (by decide +kernel), List.mem_of_getElem? (i := 592) (by decide +kernel)⟩
theorem lw_p41 : lw_okq (⟨"FirstFelt$State", "feel", "(LFirstFelt$Town;I)V"⟩, 18) := ⟨⟨by decide +kernel, by decide +kernel⟩, List.mem_of_getElem? (i := 84) (by decide +kernel), List.mem_of_getElem? (i := 597) (by decide +kernel), List.mem_of_getElem? (i := 598) (by decide +kernel)⟩
theorem lw_p42 : lw_okq (⟨"FirstFelt$State", "takeCells", "(LFirstFelt$Town;)V"⟩, 18) := ⟨⟨by decide +kernel, by decide +kernel⟩, List.mem_of_getElem? (i := 84) (by decide +kernel), List.mem_of_getElem? (i := 601) (by decide +kernel), List.mem_of_getElem? (i := 602) (by decide +kernel)⟩
theorem lw_p43 : lw_okq (⟨"FirstFelt$State", "feels", "(I)Z"⟩, 18) := ⟨⟨by decide +kernel, by decide +kernel⟩, List.mem_of_getElem? (i := 84) (by decide +kernel), List.mem_of_getElem? (i := 605) (by decide +kernel), List.mem_of_getElem? (i := 606) (by decide +kernel)⟩
theorem lw_p44 : lw_okq (⟨"FirstFelt$State", "coldestFeeling", "(LFirstFelt$Town;I)I"⟩, 18) := ⟨⟨by decide +kernel, by decide +kernel⟩, List.mem_of_getElem? (i := 84) (by decide +kernel), List.mem_of_getElem? (i := 609) (by decide +kernel), List.mem_of_getElem? (i := 610) (by decide +kernel)⟩
theorem lw_p45 : lw_okq (⟨"FirstFelt$State", "keepLaw", "(LFirstFelt$Town;)V"⟩, 18) := ⟨⟨by decide +kernel, by decide +kernel⟩, List.mem_of_getElem? (i := 84) (by decide +kernel), List.mem_of_getElem? (i := 613) (by decide +kernel), List.mem_of_getElem? (i := 614) (by decide +kernel)⟩
theorem lw_p46 : lw_okq (⟨"FirstFelt$State", "endOwning", "(LFirstFelt$Town;)V"⟩, 18) := ⟨⟨by decide +kernel, by decide +kernel⟩, List.mem_of_getElem? (i := 84) (by decide +kernel), List.mem_of_getElem? (i := 617) (by decide +kernel), List.mem_of_getElem? (i := 618) (by decide +kernel)⟩
theorem lw_p47 : lw_okq (⟨"FirstFelt$State", "makePartners", "(LFirstFelt$Town;)V"⟩, 18) := ⟨⟨by decide +kernel, by decide +kernel⟩, List.mem_of_getElem? (i := 84) (by decide +kernel), List.mem_of_getElem? (i := 621) (by decide +kernel), List.mem_of_getElem? (i := 622) (by decide +kernel)⟩
def lw_privs_3 : List (MethodName × Nat) := [(⟨"FirstFelt$State", "reach", "(LFirstFelt$Town;II)I"⟩, 18), (⟨"FirstFelt$State", "canBeLit", "(I)Z"⟩, 18), (⟨"FirstFelt", "refusalOfMinutes", "(I)I"⟩, 13), (⟨"FirstFelt$State", "passMinutes", "(LFirstFelt$Town;II)V"⟩, 18), (⟨"FirstFelt$State", "passMinute", "(LFirstFelt$Town;I)V"⟩, 18), (⟨"FirstFelt$State", "flow", "(LFirstFelt$Town;)V"⟩, 18), (⟨"FirstFelt$State", "flowBetween", "(II)V"⟩, 18), (⟨"FirstFelt$State", "addWarmth", "(LFirstFelt$Town;)V"⟩, 18), (⟨"FirstFelt$State", "coolDown", "(LFirstFelt$Town;)V"⟩, 18), (⟨"FirstFelt$State", "feel", "(LFirstFelt$Town;I)V"⟩, 18), (⟨"FirstFelt$State", "takeCells", "(LFirstFelt$Town;)V"⟩, 18), (⟨"FirstFelt$State", "feels", "(I)Z"⟩, 18), (⟨"FirstFelt$State", "coldestFeeling", "(LFirstFelt$Town;I)I"⟩, 18), (⟨"FirstFelt$State", "keepLaw", "(LFirstFelt$Town;)V"⟩, 18), (⟨"FirstFelt$State", "endOwning", "(LFirstFelt$Town;)V"⟩, 18), (⟨"FirstFelt$State", "makePartners", "(LFirstFelt$Town;)V"⟩, 18)]
theorem lw_r3 : ∀ q ∈ lw_privs_3, lw_okq q := List.forall_mem_cons.mpr ⟨lw_p32, List.forall_mem_cons.mpr ⟨lw_p33, List.forall_mem_cons.mpr ⟨lw_p34, List.forall_mem_cons.mpr ⟨lw_p35, List.forall_mem_cons.mpr ⟨lw_p36, List.forall_mem_cons.mpr ⟨lw_p37, List.forall_mem_cons.mpr ⟨lw_p38, List.forall_mem_cons.mpr ⟨lw_p39, List.forall_mem_cons.mpr ⟨lw_p40, List.forall_mem_cons.mpr ⟨lw_p41, List.forall_mem_cons.mpr ⟨lw_p42, List.forall_mem_cons.mpr ⟨lw_p43, List.forall_mem_cons.mpr ⟨lw_p44, List.forall_mem_cons.mpr ⟨lw_p45, List.forall_mem_cons.mpr ⟨lw_p46, List.forall_mem_cons.mpr ⟨lw_p47, fun _ h => absurd h List.not_mem_nil⟩⟩⟩⟩⟩⟩⟩⟩⟩⟩⟩⟩⟩⟩⟩⟩
theorem lw_p48 : lw_okq (⟨"FirstFelt$State", "oweForWarmth", "(LFirstFelt$Town;)V"⟩, 18) := ⟨⟨by decide +kernel, by decide +kernel⟩, List.mem_of_getElem? (i := 84) (by decide +kernel), List.mem_of_getElem? (i := 625) (by decide +kernel), List.mem_of_getElem? (i := 626) (by decide +kernel)⟩
theorem lw_p49 : lw_okq (⟨"FirstFelt$State", "isDear", "(II)Z"⟩, 18) := ⟨⟨by decide +kernel, by decide +kernel⟩, List.mem_of_getElem? (i := 84) (by decide +kernel), List.mem_of_getElem? (i := 629) (by decide +kernel), List.mem_of_getElem? (i := 630) (by decide +kernel)⟩
theorem lw_p50 : lw_okq (⟨"FirstFelt$State", "warmSkins", "(LFirstFelt$Town;)V"⟩, 18) := ⟨⟨by decide +kernel, by decide +kernel⟩, List.mem_of_getElem? (i := 84) (by decide +kernel), List.mem_of_getElem? (i := 634) (by decide +kernel), List.mem_of_getElem? (i := 635) (by decide +kernel)⟩
theorem lw_p51 : lw_okq (⟨"FirstFelt", "wander", "()V"⟩, 13) := ⟨⟨by decide +kernel, by decide +kernel⟩, List.mem_of_getElem? (i := 14) (by decide +kernel), List.mem_of_getElem? (i := 642) (by decide +kernel), List.mem_of_getElem? (i := 643) (by decide +kernel)⟩
theorem lw_p52 : lw_okq (⟨"FirstFelt$State", "draw", "(I)I"⟩, 18) := ⟨⟨by decide +kernel, by decide +kernel⟩, List.mem_of_getElem? (i := 84) (by decide +kernel), List.mem_of_getElem? (i := 646) (by decide +kernel), List.mem_of_getElem? (i := 647) (by decide +kernel)⟩
theorem lw_p53 : lw_okq (⟨"FirstFelt$State", "copyFrom", "(LFirstFelt$State;)V"⟩, 18) := ⟨⟨by decide +kernel, by decide +kernel⟩, List.mem_of_getElem? (i := 84) (by decide +kernel), List.mem_of_getElem? (i := 659) (by decide +kernel), List.mem_of_getElem? (i := 660) (by decide +kernel)⟩
theorem lw_p54 : lw_okq (⟨"FirstFelt$Tour", "begin", "(LFirstFelt$Town;LFirstFelt$State;II)V"⟩, 7) := ⟨⟨by decide +kernel, by decide +kernel⟩, List.mem_of_getElem? (i := 167) (by decide +kernel), List.mem_of_getElem? (i := 667) (by decide +kernel), List.mem_of_getElem? (i := 668) (by decide +kernel)⟩
theorem lw_p55 : lw_okq (⟨"FirstFelt$Tour", "finish", "(I)V"⟩, 7) := ⟨⟨by decide +kernel, by decide +kernel⟩, List.mem_of_getElem? (i := 167) (by decide +kernel), List.mem_of_getElem? (i := 675) (by decide +kernel), List.mem_of_getElem? (i := 676) (by decide +kernel)⟩
theorem lw_p56 : lw_okq (⟨"FirstFelt", "refusalOfLighting", "(III)I"⟩, 13) := ⟨⟨by decide +kernel, by decide +kernel⟩, List.mem_of_getElem? (i := 14) (by decide +kernel), List.mem_of_getElem? (i := 684) (by decide +kernel), List.mem_of_getElem? (i := 685) (by decide +kernel)⟩
theorem lw_p57 : lw_okq (⟨"FirstFelt", "ownsStove", "(LFirstFelt$State;IIII)Z"⟩, 13) := ⟨⟨by decide +kernel, by decide +kernel⟩, List.mem_of_getElem? (i := 14) (by decide +kernel), List.mem_of_getElem? (i := 688) (by decide +kernel), List.mem_of_getElem? (i := 689) (by decide +kernel)⟩
theorem lw_p58 : lw_okq (⟨"FirstFelt", "ownedWithWall", "(IIIIZ)I"⟩, 13) := ⟨⟨by decide +kernel, by decide +kernel⟩, List.mem_of_getElem? (i := 14) (by decide +kernel), List.mem_of_getElem? (i := 700) (by decide +kernel), List.mem_of_getElem? (i := 701) (by decide +kernel)⟩
theorem lw_p59 : lw_okq (⟨"FirstFelt$Market", "settle", "(LFirstFelt$Town;LFirstFelt$State;)I"⟩, 1) := ⟨⟨by decide +kernel, by decide +kernel⟩, List.mem_of_getElem? (i := 204) (by decide +kernel), List.mem_of_getElem? (i := 708) (by decide +kernel), List.mem_of_getElem? (i := 709) (by decide +kernel)⟩
theorem lw_p60 : lw_okq (⟨"FirstFelt$Market", "askAnew", "(LFirstFelt$Town;LFirstFelt$State;)Z"⟩, 1) := ⟨⟨by decide +kernel, by decide +kernel⟩, List.mem_of_getElem? (i := 204) (by decide +kernel), List.mem_of_getElem? (i := 713) (by decide +kernel), List.mem_of_getElem? (i := 714) (by decide +kernel)⟩
theorem lw_p61 : lw_okq (⟨"FirstFelt$Market", "bestRent", "(LFirstFelt$Town;LFirstFelt$State;I)I"⟩, 1) := ⟨⟨by decide +kernel, by decide +kernel⟩, List.mem_of_getElem? (i := 204) (by decide +kernel), List.mem_of_getElem? (i := 717) (by decide +kernel), List.mem_of_getElem? (i := 718) (by decide +kernel)⟩
theorem lw_p62 : lw_okq (⟨"FirstFelt$Market", "countLet", "(LFirstFelt$Town;LFirstFelt$State;II)I"⟩, 1) := ⟨⟨by decide +kernel, by decide +kernel⟩, List.mem_of_getElem? (i := 204) (by decide +kernel), List.mem_of_getElem? (i := 721) (by decide +kernel), List.mem_of_getElem? (i := 722) (by decide +kernel)⟩
theorem lw_p63 : lw_okq (⟨"FirstFelt$Market", "isUndercut", "(LFirstFelt$Town;LFirstFelt$State;II)Z"⟩, 1) := ⟨⟨by decide +kernel, by decide +kernel⟩, List.mem_of_getElem? (i := 204) (by decide +kernel), List.mem_of_getElem? (i := 726) (by decide +kernel), List.mem_of_getElem? (i := 727) (by decide +kernel)⟩
def lw_privs_4 : List (MethodName × Nat) := [(⟨"FirstFelt$State", "oweForWarmth", "(LFirstFelt$Town;)V"⟩, 18), (⟨"FirstFelt$State", "isDear", "(II)Z"⟩, 18), (⟨"FirstFelt$State", "warmSkins", "(LFirstFelt$Town;)V"⟩, 18), (⟨"FirstFelt", "wander", "()V"⟩, 13), (⟨"FirstFelt$State", "draw", "(I)I"⟩, 18), (⟨"FirstFelt$State", "copyFrom", "(LFirstFelt$State;)V"⟩, 18), (⟨"FirstFelt$Tour", "begin", "(LFirstFelt$Town;LFirstFelt$State;II)V"⟩, 7), (⟨"FirstFelt$Tour", "finish", "(I)V"⟩, 7), (⟨"FirstFelt", "refusalOfLighting", "(III)I"⟩, 13), (⟨"FirstFelt", "ownsStove", "(LFirstFelt$State;IIII)Z"⟩, 13), (⟨"FirstFelt", "ownedWithWall", "(IIIIZ)I"⟩, 13), (⟨"FirstFelt$Market", "settle", "(LFirstFelt$Town;LFirstFelt$State;)I"⟩, 1), (⟨"FirstFelt$Market", "askAnew", "(LFirstFelt$Town;LFirstFelt$State;)Z"⟩, 1), (⟨"FirstFelt$Market", "bestRent", "(LFirstFelt$Town;LFirstFelt$State;I)I"⟩, 1), (⟨"FirstFelt$Market", "countLet", "(LFirstFelt$Town;LFirstFelt$State;II)I"⟩, 1), (⟨"FirstFelt$Market", "isUndercut", "(LFirstFelt$Town;LFirstFelt$State;II)Z"⟩, 1)]
theorem lw_r4 : ∀ q ∈ lw_privs_4, lw_okq q := List.forall_mem_cons.mpr ⟨lw_p48, List.forall_mem_cons.mpr ⟨lw_p49, List.forall_mem_cons.mpr ⟨lw_p50, List.forall_mem_cons.mpr ⟨lw_p51, List.forall_mem_cons.mpr ⟨lw_p52, List.forall_mem_cons.mpr ⟨lw_p53, List.forall_mem_cons.mpr ⟨lw_p54, List.forall_mem_cons.mpr ⟨lw_p55, List.forall_mem_cons.mpr ⟨lw_p56, List.forall_mem_cons.mpr ⟨lw_p57, List.forall_mem_cons.mpr ⟨lw_p58, List.forall_mem_cons.mpr ⟨lw_p59, List.forall_mem_cons.mpr ⟨lw_p60, List.forall_mem_cons.mpr ⟨lw_p61, List.forall_mem_cons.mpr ⟨lw_p62, List.forall_mem_cons.mpr ⟨lw_p63, fun _ h => absurd h List.not_mem_nil⟩⟩⟩⟩⟩⟩⟩⟩⟩⟩⟩⟩⟩⟩⟩⟩
theorem lw_p64 : lw_okq (⟨"FirstFelt$Town", "cellOfPair", "(I)I"⟩, 13) := ⟨⟨by decide +kernel, by decide +kernel⟩, List.mem_of_getElem? (i := 215) (by decide +kernel), List.mem_of_getElem? (i := 735) (by decide +kernel), List.mem_of_getElem? (i := 736) (by decide +kernel)⟩
theorem lw_p65 : lw_okq (⟨"FirstFelt$Papers", "write", "(III)Z"⟩, 4) := ⟨⟨by decide +kernel, by decide +kernel⟩, List.mem_of_getElem? (i := 60) (by decide +kernel), List.mem_of_getElem? (i := 739) (by decide +kernel), List.mem_of_getElem? (i := 740) (by decide +kernel)⟩
theorem lw_p66 : lw_okq (⟨"FirstFelt$Papers", "latest", "()I"⟩, 4) := ⟨⟨by decide +kernel, by decide +kernel⟩, List.mem_of_getElem? (i := 60) (by decide +kernel), List.mem_of_getElem? (i := 747) (by decide +kernel), List.mem_of_getElem? (i := 748) (by decide +kernel)⟩
theorem lw_p67 : lw_okq (⟨"FirstFelt$Papers", "notFeltAt", "(ILFirstFelt$State;)I"⟩, 4) := ⟨⟨by decide +kernel, by decide +kernel⟩, List.mem_of_getElem? (i := 60) (by decide +kernel), List.mem_of_getElem? (i := 751) (by decide +kernel), List.mem_of_getElem? (i := 752) (by decide +kernel)⟩
theorem lw_p68 : lw_okq (⟨"FirstFelt", "countFreezing", "(II)I"⟩, 13) := ⟨⟨by decide +kernel, by decide +kernel⟩, List.mem_of_getElem? (i := 14) (by decide +kernel), List.mem_of_getElem? (i := 760) (by decide +kernel), List.mem_of_getElem? (i := 761) (by decide +kernel)⟩
theorem lw_p69 : lw_okq (⟨"FirstFelt$State", "leaveDearCells", "(LFirstFelt$Town;)V"⟩, 18) := ⟨⟨by decide +kernel, by decide +kernel⟩, List.mem_of_getElem? (i := 84) (by decide +kernel), List.mem_of_getElem? (i := 764) (by decide +kernel), List.mem_of_getElem? (i := 765) (by decide +kernel)⟩
theorem lw_p70 : lw_okq (⟨"FirstFelt$State", "refuge", "(LFirstFelt$Town;I)I"⟩, 18) := ⟨⟨by decide +kernel, by decide +kernel⟩, List.mem_of_getElem? (i := 84) (by decide +kernel), List.mem_of_getElem? (i := 768) (by decide +kernel), List.mem_of_getElem? (i := 769) (by decide +kernel)⟩
theorem lw_p71 : lw_okq (⟨"FirstFelt", "fitsLitNow", "(II)Z"⟩, 13) := ⟨⟨by decide +kernel, by decide +kernel⟩, List.mem_of_getElem? (i := 14) (by decide +kernel), List.mem_of_getElem? (i := 790) (by decide +kernel), List.mem_of_getElem? (i := 791) (by decide +kernel)⟩
theorem lw_p72 : lw_okq (⟨"FirstFelt$Papers", "ownedAt", "(ILFirstFelt$State;)Z"⟩, 4) := ⟨⟨by decide +kernel, by decide +kernel⟩, List.mem_of_getElem? (i := 60) (by decide +kernel), List.mem_of_getElem? (i := 794) (by decide +kernel), List.mem_of_getElem? (i := 795) (by decide +kernel)⟩
theorem lw_p73 : lw_okq (⟨"FirstFeltModel", "emptyNow", "()V"⟩, 52) := ⟨⟨by decide +kernel, by decide +kernel⟩, List.mem_of_getElem? (i := 814) (by decide +kernel), List.mem_of_getElem? (i := 820) (by decide +kernel), List.mem_of_getElem? (i := 821) (by decide +kernel)⟩
theorem lw_p74 : lw_okq (⟨"FirstFeltModel", "readsAll", "()Z"⟩, 52) := ⟨⟨by decide +kernel, by decide +kernel⟩, List.mem_of_getElem? (i := 814) (by decide +kernel), List.mem_of_getElem? (i := 996) (by decide +kernel), List.mem_of_getElem? (i := 997) (by decide +kernel)⟩
theorem lw_p75 : lw_okq (⟨"FirstFeltModel", "look", "(I)V"⟩, 52) := ⟨⟨by decide +kernel, by decide +kernel⟩, List.mem_of_getElem? (i := 814) (by decide +kernel), List.mem_of_getElem? (i := 1000) (by decide +kernel), List.mem_of_getElem? (i := 1001) (by decide +kernel)⟩
theorem lw_p76 : lw_okq (⟨"FirstFeltModel", "readsTown", "()Z"⟩, 52) := ⟨⟨by decide +kernel, by decide +kernel⟩, List.mem_of_getElem? (i := 814) (by decide +kernel), List.mem_of_getElem? (i := 1010) (by decide +kernel), List.mem_of_getElem? (i := 1011) (by decide +kernel)⟩
theorem lw_p77 : lw_okq (⟨"FirstFeltModel", "faults", "(I)Z"⟩, 52) := ⟨⟨by decide +kernel, by decide +kernel⟩, List.mem_of_getElem? (i := 814) (by decide +kernel), List.mem_of_getElem? (i := 1014) (by decide +kernel), List.mem_of_getElem? (i := 1015) (by decide +kernel)⟩
theorem lw_p78 : lw_okq (⟨"FirstFeltModel", "goOn", "()V"⟩, 52) := ⟨⟨by decide +kernel, by decide +kernel⟩, List.mem_of_getElem? (i := 814) (by decide +kernel), List.mem_of_getElem? (i := 1018) (by decide +kernel), List.mem_of_getElem? (i := 1019) (by decide +kernel)⟩
theorem lw_p79 : lw_okq (⟨"FirstFeltModel", "takes", "(II)Z"⟩, 52) := ⟨⟨by decide +kernel, by decide +kernel⟩, List.mem_of_getElem? (i := 814) (by decide +kernel), List.mem_of_getElem? (i := 1022) (by decide +kernel), List.mem_of_getElem? (i := 1023) (by decide +kernel)⟩
def lw_privs_5 : List (MethodName × Nat) := [(⟨"FirstFelt$Town", "cellOfPair", "(I)I"⟩, 13), (⟨"FirstFelt$Papers", "write", "(III)Z"⟩, 4), (⟨"FirstFelt$Papers", "latest", "()I"⟩, 4), (⟨"FirstFelt$Papers", "notFeltAt", "(ILFirstFelt$State;)I"⟩, 4), (⟨"FirstFelt", "countFreezing", "(II)I"⟩, 13), (⟨"FirstFelt$State", "leaveDearCells", "(LFirstFelt$Town;)V"⟩, 18), (⟨"FirstFelt$State", "refuge", "(LFirstFelt$Town;I)I"⟩, 18), (⟨"FirstFelt", "fitsLitNow", "(II)Z"⟩, 13), (⟨"FirstFelt$Papers", "ownedAt", "(ILFirstFelt$State;)Z"⟩, 4), (⟨"FirstFeltModel", "emptyNow", "()V"⟩, 52), (⟨"FirstFeltModel", "readsAll", "()Z"⟩, 52), (⟨"FirstFeltModel", "look", "(I)V"⟩, 52), (⟨"FirstFeltModel", "readsTown", "()Z"⟩, 52), (⟨"FirstFeltModel", "faults", "(I)Z"⟩, 52), (⟨"FirstFeltModel", "goOn", "()V"⟩, 52), (⟨"FirstFeltModel", "takes", "(II)Z"⟩, 52)]
theorem lw_r5 : ∀ q ∈ lw_privs_5, lw_okq q := List.forall_mem_cons.mpr ⟨lw_p64, List.forall_mem_cons.mpr ⟨lw_p65, List.forall_mem_cons.mpr ⟨lw_p66, List.forall_mem_cons.mpr ⟨lw_p67, List.forall_mem_cons.mpr ⟨lw_p68, List.forall_mem_cons.mpr ⟨lw_p69, List.forall_mem_cons.mpr ⟨lw_p70, List.forall_mem_cons.mpr ⟨lw_p71, List.forall_mem_cons.mpr ⟨lw_p72, List.forall_mem_cons.mpr ⟨lw_p73, List.forall_mem_cons.mpr ⟨lw_p74, List.forall_mem_cons.mpr ⟨lw_p75, List.forall_mem_cons.mpr ⟨lw_p76, List.forall_mem_cons.mpr ⟨lw_p77, List.forall_mem_cons.mpr ⟨lw_p78, List.forall_mem_cons.mpr ⟨lw_p79, fun _ h => absurd h List.not_mem_nil⟩⟩⟩⟩⟩⟩⟩⟩⟩⟩⟩⟩⟩⟩⟩⟩
theorem lw_p80 : lw_okq (⟨"FirstFeltModel", "stops", "()Z"⟩, 52) := ⟨⟨by decide +kernel, by decide +kernel⟩, List.mem_of_getElem? (i := 814) (by decide +kernel), List.mem_of_getElem? (i := 1027) (by decide +kernel), List.mem_of_getElem? (i := 1028) (by decide +kernel)⟩
theorem lw_p81 : lw_okq (⟨"FirstFeltModel", "readsClause", "()Z"⟩, 52) := ⟨⟨by decide +kernel, by decide +kernel⟩, List.mem_of_getElem? (i := 814) (by decide +kernel), List.mem_of_getElem? (i := 1031) (by decide +kernel), List.mem_of_getElem? (i := 1032) (by decide +kernel)⟩
theorem lw_p82 : lw_okq (⟨"FirstFeltModel", "readsWall", "()Z"⟩, 52) := ⟨⟨by decide +kernel, by decide +kernel⟩, List.mem_of_getElem? (i := 814) (by decide +kernel), List.mem_of_getElem? (i := 1035) (by decide +kernel), List.mem_of_getElem? (i := 1036) (by decide +kernel)⟩
theorem lw_p83 : lw_okq (⟨"FirstFeltModel", "takesX", "()Z"⟩, 52) := ⟨⟨by decide +kernel, by decide +kernel⟩, List.mem_of_getElem? (i := 814) (by decide +kernel), List.mem_of_getElem? (i := 1039) (by decide +kernel), List.mem_of_getElem? (i := 1040) (by decide +kernel)⟩
theorem lw_p84 : lw_okq (⟨"FirstFeltModel", "seesY", "(I)Z"⟩, 52) := ⟨⟨by decide +kernel, by decide +kernel⟩, List.mem_of_getElem? (i := 814) (by decide +kernel), List.mem_of_getElem? (i := 1043) (by decide +kernel), List.mem_of_getElem? (i := 1044) (by decide +kernel)⟩
theorem lw_p85 : lw_okq (⟨"FirstFeltModel", "readsStove", "()Z"⟩, 52) := ⟨⟨by decide +kernel, by decide +kernel⟩, List.mem_of_getElem? (i := 814) (by decide +kernel), List.mem_of_getElem? (i := 1047) (by decide +kernel), List.mem_of_getElem? (i := 1048) (by decide +kernel)⟩
theorem lw_p86 : lw_okq (⟨"FirstFeltModel", "readsRoof", "()Z"⟩, 52) := ⟨⟨by decide +kernel, by decide +kernel⟩, List.mem_of_getElem? (i := 814) (by decide +kernel), List.mem_of_getElem? (i := 1051) (by decide +kernel), List.mem_of_getElem? (i := 1052) (by decide +kernel)⟩
theorem lw_p87 : lw_okq (⟨"FirstFeltModel", "readsSun", "()Z"⟩, 52) := ⟨⟨by decide +kernel, by decide +kernel⟩, List.mem_of_getElem? (i := 814) (by decide +kernel), List.mem_of_getElem? (i := 1055) (by decide +kernel), List.mem_of_getElem? (i := 1056) (by decide +kernel)⟩
theorem lw_p88 : lw_okq (⟨"FirstFeltModel", "readsPerson", "()Z"⟩, 52) := ⟨⟨by decide +kernel, by decide +kernel⟩, List.mem_of_getElem? (i := 814) (by decide +kernel), List.mem_of_getElem? (i := 1059) (by decide +kernel), List.mem_of_getElem? (i := 1060) (by decide +kernel)⟩
theorem lw_p89 : lw_okq (⟨"FirstFeltModel", "cells", "()I"⟩, 52) := ⟨⟨by decide +kernel, by decide +kernel⟩, List.mem_of_getElem? (i := 814) (by decide +kernel), List.mem_of_getElem? (i := 1063) (by decide +kernel), List.mem_of_getElem? (i := 1064) (by decide +kernel)⟩
theorem lw_p90 : lw_okq (⟨"FirstFeltModel", "wallsNow", "()I"⟩, 52) := ⟨⟨by decide +kernel, by decide +kernel⟩, List.mem_of_getElem? (i := 814) (by decide +kernel), List.mem_of_getElem? (i := 1075) (by decide +kernel), List.mem_of_getElem? (i := 1076) (by decide +kernel)⟩
theorem lw_p91 : lw_okq (⟨"FirstFeltModel", "sunAt", "(I)I"⟩, 52) := ⟨⟨by decide +kernel, by decide +kernel⟩, List.mem_of_getElem? (i := 814) (by decide +kernel), List.mem_of_getElem? (i := 1079) (by decide +kernel), List.mem_of_getElem? (i := 1080) (by decide +kernel)⟩
theorem lw_p92 : lw_okq (⟨"FirstFeltModel", "isCell", "(II)Z"⟩, 52) := ⟨⟨by decide +kernel, by decide +kernel⟩, List.mem_of_getElem? (i := 814) (by decide +kernel), List.mem_of_getElem? (i := 1087) (by decide +kernel), List.mem_of_getElem? (i := 1088) (by decide +kernel)⟩
theorem lw_p93 : lw_okq (⟨"FirstFeltModel", "onCell", "(I)I"⟩, 52) := ⟨⟨by decide +kernel, by decide +kernel⟩, List.mem_of_getElem? (i := 814) (by decide +kernel), List.mem_of_getElem? (i := 1092) (by decide +kernel), List.mem_of_getElem? (i := 1093) (by decide +kernel)⟩
theorem lw_p94 : lw_okq (⟨"FirstFeltModel", "notWall", "(III)I"⟩, 52) := ⟨⟨by decide +kernel, by decide +kernel⟩, List.mem_of_getElem? (i := 814) (by decide +kernel), List.mem_of_getElem? (i := 1100) (by decide +kernel), List.mem_of_getElem? (i := 1101) (by decide +kernel)⟩
theorem lw_p95 : lw_okq (⟨"FirstFeltModel", "isStove", "(I)Z"⟩, 52) := ⟨⟨by decide +kernel, by decide +kernel⟩, List.mem_of_getElem? (i := 814) (by decide +kernel), List.mem_of_getElem? (i := 1108) (by decide +kernel), List.mem_of_getElem? (i := 1109) (by decide +kernel)⟩
def lw_privs_6 : List (MethodName × Nat) := [(⟨"FirstFeltModel", "stops", "()Z"⟩, 52), (⟨"FirstFeltModel", "readsClause", "()Z"⟩, 52), (⟨"FirstFeltModel", "readsWall", "()Z"⟩, 52), (⟨"FirstFeltModel", "takesX", "()Z"⟩, 52), (⟨"FirstFeltModel", "seesY", "(I)Z"⟩, 52), (⟨"FirstFeltModel", "readsStove", "()Z"⟩, 52), (⟨"FirstFeltModel", "readsRoof", "()Z"⟩, 52), (⟨"FirstFeltModel", "readsSun", "()Z"⟩, 52), (⟨"FirstFeltModel", "readsPerson", "()Z"⟩, 52), (⟨"FirstFeltModel", "cells", "()I"⟩, 52), (⟨"FirstFeltModel", "wallsNow", "()I"⟩, 52), (⟨"FirstFeltModel", "sunAt", "(I)I"⟩, 52), (⟨"FirstFeltModel", "isCell", "(II)Z"⟩, 52), (⟨"FirstFeltModel", "onCell", "(I)I"⟩, 52), (⟨"FirstFeltModel", "notWall", "(III)I"⟩, 52), (⟨"FirstFeltModel", "isStove", "(I)Z"⟩, 52)]
theorem lw_r6 : ∀ q ∈ lw_privs_6, lw_okq q := List.forall_mem_cons.mpr ⟨lw_p80, List.forall_mem_cons.mpr ⟨lw_p81, List.forall_mem_cons.mpr ⟨lw_p82, List.forall_mem_cons.mpr ⟨lw_p83, List.forall_mem_cons.mpr ⟨lw_p84, List.forall_mem_cons.mpr ⟨lw_p85, List.forall_mem_cons.mpr ⟨lw_p86, List.forall_mem_cons.mpr ⟨lw_p87, List.forall_mem_cons.mpr ⟨lw_p88, List.forall_mem_cons.mpr ⟨lw_p89, List.forall_mem_cons.mpr ⟨lw_p90, List.forall_mem_cons.mpr ⟨lw_p91, List.forall_mem_cons.mpr ⟨lw_p92, List.forall_mem_cons.mpr ⟨lw_p93, List.forall_mem_cons.mpr ⟨lw_p94, List.forall_mem_cons.mpr ⟨lw_p95, fun _ h => absurd h List.not_mem_nil⟩⟩⟩⟩⟩⟩⟩⟩⟩⟩⟩⟩⟩⟩⟩⟩
theorem lw_p96 : lw_okq (⟨"FirstFeltModel", "named", "(I)I"⟩, 52) := ⟨⟨by decide +kernel, by decide +kernel⟩, List.mem_of_getElem? (i := 814) (by decide +kernel), List.mem_of_getElem? (i := 1112) (by decide +kernel), List.mem_of_getElem? (i := 1113) (by decide +kernel)⟩
theorem lw_p97 : lw_okq (⟨"FirstFeltModel", "isPerson", "(I)Z"⟩, 52) := ⟨⟨by decide +kernel, by decide +kernel⟩, List.mem_of_getElem? (i := 814) (by decide +kernel), List.mem_of_getElem? (i := 1120) (by decide +kernel), List.mem_of_getElem? (i := 1121) (by decide +kernel)⟩
theorem lw_p98 : lw_okq (⟨"FirstFeltModel", "owns", "(I)I"⟩, 52) := ⟨⟨by decide +kernel, by decide +kernel⟩, List.mem_of_getElem? (i := 814) (by decide +kernel), List.mem_of_getElem? (i := 1124) (by decide +kernel), List.mem_of_getElem? (i := 1125) (by decide +kernel)⟩
theorem lw_p99 : lw_okq (⟨"FirstFeltModel", "way", "(II)I"⟩, 52) := ⟨⟨by decide +kernel, by decide +kernel⟩, List.mem_of_getElem? (i := 814) (by decide +kernel), List.mem_of_getElem? (i := 1133) (by decide +kernel), List.mem_of_getElem? (i := 1134) (by decide +kernel)⟩
theorem lw_p100 : lw_okq (⟨"FirstFeltModel", "canBeLit", "(I)Z"⟩, 52) := ⟨⟨by decide +kernel, by decide +kernel⟩, List.mem_of_getElem? (i := 814) (by decide +kernel), List.mem_of_getElem? (i := 1146) (by decide +kernel), List.mem_of_getElem? (i := 1147) (by decide +kernel)⟩
theorem lw_p101 : lw_okq (⟨"FirstFeltModel", "notMinutes", "(I)I"⟩, 52) := ⟨⟨by decide +kernel, by decide +kernel⟩, List.mem_of_getElem? (i := 814) (by decide +kernel), List.mem_of_getElem? (i := 1169) (by decide +kernel), List.mem_of_getElem? (i := 1170) (by decide +kernel)⟩
theorem lw_p102 : lw_okq (⟨"FirstFeltModel", "goMinutes", "(I)V"⟩, 52) := ⟨⟨by decide +kernel, by decide +kernel⟩, List.mem_of_getElem? (i := 814) (by decide +kernel), List.mem_of_getElem? (i := 1175) (by decide +kernel), List.mem_of_getElem? (i := 1176) (by decide +kernel)⟩
theorem lw_p103 : lw_okq (⟨"FirstFeltModel", "goMinute", "()V"⟩, 52) := ⟨⟨by decide +kernel, by decide +kernel⟩, List.mem_of_getElem? (i := 814) (by decide +kernel), List.mem_of_getElem? (i := 1179) (by decide +kernel), List.mem_of_getElem? (i := 1180) (by decide +kernel)⟩
theorem lw_p104 : lw_okq (⟨"FirstFeltModel", "goHeat", "()V"⟩, 52) := ⟨⟨by decide +kernel, by decide +kernel⟩, List.mem_of_getElem? (i := 814) (by decide +kernel), List.mem_of_getElem? (i := 1183) (by decide +kernel), List.mem_of_getElem? (i := 1184) (by decide +kernel)⟩
theorem lw_p105 : lw_okq (⟨"FirstFeltModel", "flows", "(I)I"⟩, 52) := ⟨⟨by decide +kernel, by decide +kernel⟩, List.mem_of_getElem? (i := 814) (by decide +kernel), List.mem_of_getElem? (i := 1187) (by decide +kernel), List.mem_of_getElem? (i := 1188) (by decide +kernel)⟩
theorem lw_p106 : lw_okq (⟨"FirstFeltModel", "feel", "()V"⟩, 52) := ⟨⟨by decide +kernel, by decide +kernel⟩, List.mem_of_getElem? (i := 814) (by decide +kernel), List.mem_of_getElem? (i := 1191) (by decide +kernel), List.mem_of_getElem? (i := 1192) (by decide +kernel)⟩
theorem lw_p107 : lw_okq (⟨"FirstFeltModel", "own", "()V"⟩, 52) := ⟨⟨by decide +kernel, by decide +kernel⟩, List.mem_of_getElem? (i := 814) (by decide +kernel), List.mem_of_getElem? (i := 1195) (by decide +kernel), List.mem_of_getElem? (i := 1196) (by decide +kernel)⟩
theorem lw_p108 : lw_okq (⟨"FirstFeltModel", "feelsOn", "(II)Z"⟩, 52) := ⟨⟨by decide +kernel, by decide +kernel⟩, List.mem_of_getElem? (i := 814) (by decide +kernel), List.mem_of_getElem? (i := 1199) (by decide +kernel), List.mem_of_getElem? (i := 1200) (by decide +kernel)⟩
theorem lw_p109 : lw_okq (⟨"FirstFeltModel", "goLaw", "()V"⟩, 52) := ⟨⟨by decide +kernel, by decide +kernel⟩, List.mem_of_getElem? (i := 814) (by decide +kernel), List.mem_of_getElem? (i := 1203) (by decide +kernel), List.mem_of_getElem? (i := 1204) (by decide +kernel)⟩
theorem lw_p110 : lw_okq (⟨"FirstFeltModel", "owe", "()V"⟩, 52) := ⟨⟨by decide +kernel, by decide +kernel⟩, List.mem_of_getElem? (i := 814) (by decide +kernel), List.mem_of_getElem? (i := 1207) (by decide +kernel), List.mem_of_getElem? (i := 1208) (by decide +kernel)⟩
theorem lw_p111 : lw_okq (⟨"FirstFeltModel", "isOwedFor", "(II)Z"⟩, 52) := ⟨⟨by decide +kernel, by decide +kernel⟩, List.mem_of_getElem? (i := 814) (by decide +kernel), List.mem_of_getElem? (i := 1211) (by decide +kernel), List.mem_of_getElem? (i := 1212) (by decide +kernel)⟩
def lw_privs_7 : List (MethodName × Nat) := [(⟨"FirstFeltModel", "named", "(I)I"⟩, 52), (⟨"FirstFeltModel", "isPerson", "(I)Z"⟩, 52), (⟨"FirstFeltModel", "owns", "(I)I"⟩, 52), (⟨"FirstFeltModel", "way", "(II)I"⟩, 52), (⟨"FirstFeltModel", "canBeLit", "(I)Z"⟩, 52), (⟨"FirstFeltModel", "notMinutes", "(I)I"⟩, 52), (⟨"FirstFeltModel", "goMinutes", "(I)V"⟩, 52), (⟨"FirstFeltModel", "goMinute", "()V"⟩, 52), (⟨"FirstFeltModel", "goHeat", "()V"⟩, 52), (⟨"FirstFeltModel", "flows", "(I)I"⟩, 52), (⟨"FirstFeltModel", "feel", "()V"⟩, 52), (⟨"FirstFeltModel", "own", "()V"⟩, 52), (⟨"FirstFeltModel", "feelsOn", "(II)Z"⟩, 52), (⟨"FirstFeltModel", "goLaw", "()V"⟩, 52), (⟨"FirstFeltModel", "owe", "()V"⟩, 52), (⟨"FirstFeltModel", "isOwedFor", "(II)Z"⟩, 52)]
theorem lw_r7 : ∀ q ∈ lw_privs_7, lw_okq q := List.forall_mem_cons.mpr ⟨lw_p96, List.forall_mem_cons.mpr ⟨lw_p97, List.forall_mem_cons.mpr ⟨lw_p98, List.forall_mem_cons.mpr ⟨lw_p99, List.forall_mem_cons.mpr ⟨lw_p100, List.forall_mem_cons.mpr ⟨lw_p101, List.forall_mem_cons.mpr ⟨lw_p102, List.forall_mem_cons.mpr ⟨lw_p103, List.forall_mem_cons.mpr ⟨lw_p104, List.forall_mem_cons.mpr ⟨lw_p105, List.forall_mem_cons.mpr ⟨lw_p106, List.forall_mem_cons.mpr ⟨lw_p107, List.forall_mem_cons.mpr ⟨lw_p108, List.forall_mem_cons.mpr ⟨lw_p109, List.forall_mem_cons.mpr ⟨lw_p110, List.forall_mem_cons.mpr ⟨lw_p111, fun _ h => absurd h List.not_mem_nil⟩⟩⟩⟩⟩⟩⟩⟩⟩⟩⟩⟩⟩⟩⟩⟩
theorem lw_p112 : lw_okq (⟨"FirstFeltModel", "arePartners", "(II)Z"⟩, 52) := ⟨⟨by decide +kernel, by decide +kernel⟩, List.mem_of_getElem? (i := 814) (by decide +kernel), List.mem_of_getElem? (i := 1215) (by decide +kernel), List.mem_of_getElem? (i := 1216) (by decide +kernel)⟩
theorem lw_p113 : lw_okq (⟨"FirstFeltModel", "driftOne", "()V"⟩, 52) := ⟨⟨by decide +kernel, by decide +kernel⟩, List.mem_of_getElem? (i := 814) (by decide +kernel), List.mem_of_getElem? (i := 1224) (by decide +kernel), List.mem_of_getElem? (i := 1225) (by decide +kernel)⟩
theorem lw_p114 : lw_okq (⟨"FirstFeltModel", "draw", "(I)I"⟩, 52) := ⟨⟨by decide +kernel, by decide +kernel⟩, List.mem_of_getElem? (i := 814) (by decide +kernel), List.mem_of_getElem? (i := 1228) (by decide +kernel), List.mem_of_getElem? (i := 1229) (by decide +kernel)⟩
theorem lw_p115 : lw_okq (⟨"FirstFeltModel", "start", "()V"⟩, 52) := ⟨⟨by decide +kernel, by decide +kernel⟩, List.mem_of_getElem? (i := 814) (by decide +kernel), List.mem_of_getElem? (i := 1240) (by decide +kernel), List.mem_of_getElem? (i := 1241) (by decide +kernel)⟩
theorem lw_p116 : lw_okq (⟨"FirstFeltModel", "back", "()V"⟩, 52) := ⟨⟨by decide +kernel, by decide +kernel⟩, List.mem_of_getElem? (i := 814) (by decide +kernel), List.mem_of_getElem? (i := 1244) (by decide +kernel), List.mem_of_getElem? (i := 1245) (by decide +kernel)⟩
theorem lw_p117 : lw_okq (⟨"FirstFeltModel", "ownsBy", "(III)I"⟩, 52) := ⟨⟨by decide +kernel, by decide +kernel⟩, List.mem_of_getElem? (i := 814) (by decide +kernel), List.mem_of_getElem? (i := 1256) (by decide +kernel), List.mem_of_getElem? (i := 1257) (by decide +kernel)⟩
theorem lw_p118 : lw_okq (⟨"FirstFeltModel", "notStove", "(III)I"⟩, 52) := ⟨⟨by decide +kernel, by decide +kernel⟩, List.mem_of_getElem? (i := 814) (by decide +kernel), List.mem_of_getElem? (i := 1264) (by decide +kernel), List.mem_of_getElem? (i := 1265) (by decide +kernel)⟩
theorem lw_p119 : lw_okq (⟨"FirstFeltModel", "ownsWithout", "(IIII)Z"⟩, 52) := ⟨⟨by decide +kernel, by decide +kernel⟩, List.mem_of_getElem? (i := 814) (by decide +kernel), List.mem_of_getElem? (i := 1273) (by decide +kernel), List.mem_of_getElem? (i := 1274) (by decide +kernel)⟩
theorem lw_p120 : lw_okq (⟨"FirstFeltModel", "bestRent", "(I)I"⟩, 52) := ⟨⟨by decide +kernel, by decide +kernel⟩, List.mem_of_getElem? (i := 814) (by decide +kernel), List.mem_of_getElem? (i := 1285) (by decide +kernel), List.mem_of_getElem? (i := 1286) (by decide +kernel)⟩
theorem lw_p121 : lw_okq (⟨"FirstFeltModel", "brings", "(I)I"⟩, 52) := ⟨⟨by decide +kernel, by decide +kernel⟩, List.mem_of_getElem? (i := 814) (by decide +kernel), List.mem_of_getElem? (i := 1289) (by decide +kernel), List.mem_of_getElem? (i := 1290) (by decide +kernel)⟩
theorem lw_p122 : lw_okq (⟨"FirstFeltModel", "isLet", "(I)Z"⟩, 52) := ⟨⟨by decide +kernel, by decide +kernel⟩, List.mem_of_getElem? (i := 814) (by decide +kernel), List.mem_of_getElem? (i := 1293) (by decide +kernel), List.mem_of_getElem? (i := 1294) (by decide +kernel)⟩
theorem lw_p123 : lw_okq (⟨"FirstFeltModel", "cellOf", "(I)I"⟩, 52) := ⟨⟨by decide +kernel, by decide +kernel⟩, List.mem_of_getElem? (i := 814) (by decide +kernel), List.mem_of_getElem? (i := 1301) (by decide +kernel), List.mem_of_getElem? (i := 1302) (by decide +kernel)⟩
theorem lw_p124 : lw_okq (⟨"FirstFeltModel", "coldBy", "(II)I"⟩, 52) := ⟨⟨by decide +kernel, by decide +kernel⟩, List.mem_of_getElem? (i := 814) (by decide +kernel), List.mem_of_getElem? (i := 1314) (by decide +kernel), List.mem_of_getElem? (i := 1315) (by decide +kernel)⟩
theorem lw_p125 : lw_okq (⟨"FirstFeltModel", "leaveWarm", "(I)V"⟩, 52) := ⟨⟨by decide +kernel, by decide +kernel⟩, List.mem_of_getElem? (i := 814) (by decide +kernel), List.mem_of_getElem? (i := 1318) (by decide +kernel), List.mem_of_getElem? (i := 1319) (by decide +kernel)⟩
theorem lw_p126 : lw_okq (⟨"FirstFeltModel", "areDeeds", "(II)Z"⟩, 52) := ⟨⟨by decide +kernel, by decide +kernel⟩, List.mem_of_getElem? (i := 814) (by decide +kernel), List.mem_of_getElem? (i := 1334) (by decide +kernel), List.mem_of_getElem? (i := 1335) (by decide +kernel)⟩
def lw_privs_8 : List (MethodName × Nat) := [(⟨"FirstFeltModel", "arePartners", "(II)Z"⟩, 52), (⟨"FirstFeltModel", "driftOne", "()V"⟩, 52), (⟨"FirstFeltModel", "draw", "(I)I"⟩, 52), (⟨"FirstFeltModel", "start", "()V"⟩, 52), (⟨"FirstFeltModel", "back", "()V"⟩, 52), (⟨"FirstFeltModel", "ownsBy", "(III)I"⟩, 52), (⟨"FirstFeltModel", "notStove", "(III)I"⟩, 52), (⟨"FirstFeltModel", "ownsWithout", "(IIII)Z"⟩, 52), (⟨"FirstFeltModel", "bestRent", "(I)I"⟩, 52), (⟨"FirstFeltModel", "brings", "(I)I"⟩, 52), (⟨"FirstFeltModel", "isLet", "(I)Z"⟩, 52), (⟨"FirstFeltModel", "cellOf", "(I)I"⟩, 52), (⟨"FirstFeltModel", "coldBy", "(II)I"⟩, 52), (⟨"FirstFeltModel", "leaveWarm", "(I)V"⟩, 52), (⟨"FirstFeltModel", "areDeeds", "(II)Z"⟩, 52)]
theorem lw_r8 : ∀ q ∈ lw_privs_8, lw_okq q := List.forall_mem_cons.mpr ⟨lw_p112, List.forall_mem_cons.mpr ⟨lw_p113, List.forall_mem_cons.mpr ⟨lw_p114, List.forall_mem_cons.mpr ⟨lw_p115, List.forall_mem_cons.mpr ⟨lw_p116, List.forall_mem_cons.mpr ⟨lw_p117, List.forall_mem_cons.mpr ⟨lw_p118, List.forall_mem_cons.mpr ⟨lw_p119, List.forall_mem_cons.mpr ⟨lw_p120, List.forall_mem_cons.mpr ⟨lw_p121, List.forall_mem_cons.mpr ⟨lw_p122, List.forall_mem_cons.mpr ⟨lw_p123, List.forall_mem_cons.mpr ⟨lw_p124, List.forall_mem_cons.mpr ⟨lw_p125, List.forall_mem_cons.mpr ⟨lw_p126, fun _ h => absurd h List.not_mem_nil⟩⟩⟩⟩⟩⟩⟩⟩⟩⟩⟩⟩⟩⟩⟩
def lw_privs : List (MethodName × Nat) := lw_privs_1 ++ (lw_privs_2 ++ (lw_privs_3 ++ (lw_privs_4 ++ (lw_privs_5 ++ (lw_privs_6 ++ (lw_privs_7 ++ (lw_privs_8)))))))
def lw_tbl : List Cond := k2_sels lw_privs ++ tables_1
theorem lw_privs_ok : ∀ q ∈ lw_privs, lw_okq q := by
  show ∀ q ∈ lw_privs_1 ++ (lw_privs_2 ++ (lw_privs_3 ++ (lw_privs_4 ++ (lw_privs_5 ++ (lw_privs_6 ++ (lw_privs_7 ++ (lw_privs_8))))))), lw_okq q
  exact List.forall_mem_append.mpr ⟨lw_r1, List.forall_mem_append.mpr ⟨lw_r2, List.forall_mem_append.mpr ⟨lw_r3, List.forall_mem_append.mpr ⟨lw_r4, List.forall_mem_append.mpr ⟨lw_r5, List.forall_mem_append.mpr ⟨lw_r6, List.forall_mem_append.mpr ⟨lw_r7, lw_r8⟩⟩⟩⟩⟩⟩⟩
end
section
def RX0 : String := "FirstFelt$Market"
def TX0 : u_T := fun k => match k with
  | _ => ("FirstFelt$Market", "asks", "[I", true)
def tyX0 : Nat → FieldType := fun k => match k with
  | _ => .array .int
theorem nmX0 : ∀ a, a < 1 → ∀ b, b < 1 → a ≠ b → (TX0 a).2.1 ≠ (TX0 b).2.1 := by decide +kernel
theorem tyX0_ok : ∀ k, k < 1 → parseFieldDescriptor (TX0 k).2.2.1 = some (tyX0 k) := by decide +kernel
def RX1 : String := "FirstFelt$Papers"
def TX1 : u_T := fun k => match k with
  | 0 => ("FirstFelt$Papers", "who", "[I", true)
  | 1 => ("FirstFelt$Papers", "where", "[I", true)
  | 2 => ("FirstFelt$Papers", "when", "[I", true)
  | _ => ("FirstFelt$Papers", "count", "I", false)
def tyX1 : Nat → FieldType := fun k => match k with
  | 0 => .array .int
  | 1 => .array .int
  | 2 => .array .int
  | _ => .int
theorem nmX1 : ∀ a, a < 4 → ∀ b, b < 4 → a ≠ b → (TX1 a).2.1 ≠ (TX1 b).2.1 := by decide +kernel
theorem tyX1_ok : ∀ k, k < 4 → parseFieldDescriptor (TX1 k).2.2.1 = some (tyX1 k) := by decide +kernel
def RX2 : String := "FirstFelt$Reader"
def TX2 : u_T := fun k => match k with
  | 0 => ("FirstFelt$Reader", "text", "[I", true)
  | 1 => ("FirstFelt$Reader", "length", "I", false)
  | 2 => ("FirstFelt$Reader", "place", "I", false)
  | 3 => ("FirstFelt$Reader", "numberAt", "I", false)
  | 4 => ("FirstFelt$Reader", "kind", "I", false)
  | 5 => ("FirstFelt$Reader", "faultAt", "I", false)
  | 6 => ("FirstFelt$Reader", "walls", "I", false)
  | 7 => ("FirstFelt$Reader", "land", "LFirstFelt$Town;", false)
  | _ => ("FirstFelt$Reader", "start", "LFirstFelt$State;", false)
def tyX2 : Nat → FieldType := fun k => match k with
  | 0 => .array .int
  | 1 => .int
  | 2 => .int
  | 3 => .int
  | 4 => .int
  | 5 => .int
  | 6 => .int
  | 7 => .object "FirstFelt$Town"
  | _ => .object "FirstFelt$State"
theorem nmX2 : ∀ a, a < 9 → ∀ b, b < 9 → a ≠ b → (TX2 a).2.1 ≠ (TX2 b).2.1 := by decide +kernel
theorem tyX2_ok : ∀ k, k < 9 → parseFieldDescriptor (TX2 k).2.2.1 = some (tyX2 k) := by decide +kernel
def RX3 : String := "FirstFelt$State"
def TX3 : u_T := fun k => match k with
  | 0 => ("FirstFelt$State", "heat", "[I", true)
  | 1 => ("FirstFelt$State", "nextHeat", "[I", true)
  | 2 => ("FirstFelt$State", "owner", "[I", true)
  | 3 => ("FirstFelt$State", "felt", "[I", true)
  | 4 => ("FirstFelt$State", "barred", "[I", true)
  | 5 => ("FirstFelt$State", "wood", "[I", true)
  | 6 => ("FirstFelt$State", "burns", "[I", true)
  | 7 => ("FirstFelt$State", "at", "[I", true)
  | 8 => ("FirstFelt$State", "skin", "[I", true)
  | 9 => ("FirstFelt$State", "owes", "[I", true)
  | 10 => ("FirstFelt$State", "due", "[I", true)
  | 11 => ("FirstFelt$State", "partners", "[I", true)
  | 12 => ("FirstFelt$State", "feeling", "I", false)
  | 13 => ("FirstFelt$State", "frozen", "I", false)
  | 14 => ("FirstFelt$State", "ruling", "I", false)
  | 15 => ("FirstFelt$State", "lasting", "I", false)
  | 16 => ("FirstFelt$State", "minutes", "I", false)
  | _ => ("FirstFelt$State", "seed", "I", false)
def tyX3 : Nat → FieldType := fun k => match k with
  | 0 => .array .int
  | 1 => .array .int
  | 2 => .array .int
  | 3 => .array .int
  | 4 => .array .int
  | 5 => .array .int
  | 6 => .array .int
  | 7 => .array .int
  | 8 => .array .int
  | 9 => .array .int
  | 10 => .array .int
  | 11 => .array .int
  | 12 => .int
  | 13 => .int
  | 14 => .int
  | 15 => .int
  | 16 => .int
  | _ => .int
theorem nmX3 : ∀ a, a < 18 → ∀ b, b < 18 → a ≠ b → (TX3 a).2.1 ≠ (TX3 b).2.1 := by decide +kernel
theorem tyX3_ok : ∀ k, k < 18 → parseFieldDescriptor (TX3 k).2.2.1 = some (tyX3 k) := by decide +kernel
def RX4 : String := "FirstFelt$Tour"
def TX4 : u_T := fun k => match k with
  | 0 => ("FirstFelt$Tour", "levels", "[LFirstFelt$State;", true)
  | 1 => ("FirstFelt$Tour", "row", "[I", true)
  | 2 => ("FirstFelt$Tour", "bestRow", "[I", true)
  | 3 => ("FirstFelt$Tour", "land", "LFirstFelt$Town;", false)
  | 4 => ("FirstFelt$Tour", "walker", "I", false)
  | 5 => ("FirstFelt$Tour", "length", "I", false)
  | _ => ("FirstFelt$Tour", "most", "I", false)
def tyX4 : Nat → FieldType := fun k => match k with
  | 0 => .array (.object "FirstFelt$State")
  | 1 => .array .int
  | 2 => .array .int
  | 3 => .object "FirstFelt$Town"
  | 4 => .int
  | 5 => .int
  | _ => .int
theorem nmX4 : ∀ a, a < 7 → ∀ b, b < 7 → a ≠ b → (TX4 a).2.1 ≠ (TX4 b).2.1 := by decide +kernel
theorem tyX4_ok : ∀ k, k < 7 → parseFieldDescriptor (TX4 k).2.2.1 = some (tyX4 k) := by decide +kernel
def RX5 : String := "FirstFelt$Town"
def TX5 : u_T := fun k => match k with
  | 0 => ("FirstFelt$Town", "width", "I", false)
  | 1 => ("FirstFelt$Town", "height", "I", false)
  | 2 => ("FirstFelt$Town", "stoves", "I", false)
  | 3 => ("FirstFelt$Town", "roofs", "I", false)
  | 4 => ("FirstFelt$Town", "hours", "I", false)
  | 5 => ("FirstFelt$Town", "people", "I", false)
  | 6 => ("FirstFelt$Town", "besides", "[I", true)
  | 7 => ("FirstFelt$Town", "roofed", "[I", true)
  | 8 => ("FirstFelt$Town", "sun", "[I", true)
  | 9 => ("FirstFelt$Town", "stoveCell", "[I", true)
  | 10 => ("FirstFelt$Town", "stoveHeat", "[I", true)
  | 11 => ("FirstFelt$Town", "notices", "[I", true)
  | _ => ("FirstFelt$Town", "fever", "[I", true)
def tyX5 : Nat → FieldType := fun k => match k with
  | 0 => .int
  | 1 => .int
  | 2 => .int
  | 3 => .int
  | 4 => .int
  | 5 => .int
  | 6 => .array .int
  | 7 => .array .int
  | 8 => .array .int
  | 9 => .array .int
  | 10 => .array .int
  | 11 => .array .int
  | _ => .array .int
theorem nmX5 : ∀ a, a < 13 → ∀ b, b < 13 → a ≠ b → (TX5 a).2.1 ≠ (TX5 b).2.1 := by decide +kernel
theorem tyX5_ok : ∀ k, k < 13 → parseFieldDescriptor (TX5 k).2.2.1 = some (tyX5 k) := by decide +kernel
def RX6 : String := "FirstFelt"
def TX6 : u_T := fun k => match k with
  | 0 => ("FirstFelt", "reader", "LFirstFelt$Reader;", true)
  | 1 => ("FirstFelt", "claims", "LFirstFelt$Papers;", true)
  | 2 => ("FirstFelt", "deeds", "LFirstFelt$Papers;", true)
  | 3 => ("FirstFelt", "images", "[LFirstFelt$State;", true)
  | 4 => ("FirstFelt", "kept", "[I", true)
  | 5 => ("FirstFelt", "trial", "LFirstFelt$State;", true)
  | 6 => ("FirstFelt", "waiting", "LFirstFelt$State;", true)
  | 7 => ("FirstFelt", "tour", "LFirstFelt$Tour;", true)
  | 8 => ("FirstFelt", "market", "LFirstFelt$Market;", true)
  | 9 => ("FirstFelt", "land", "LFirstFelt$Town;", false)
  | 10 => ("FirstFelt", "spareLand", "LFirstFelt$Town;", false)
  | 11 => ("FirstFelt", "now", "LFirstFelt$State;", false)
  | _ => ("FirstFelt", "spareNow", "LFirstFelt$State;", false)
def tyX6 : Nat → FieldType := fun k => match k with
  | 0 => .object "FirstFelt$Reader"
  | 1 => .object "FirstFelt$Papers"
  | 2 => .object "FirstFelt$Papers"
  | 3 => .array (.object "FirstFelt$State")
  | 4 => .array .int
  | 5 => .object "FirstFelt$State"
  | 6 => .object "FirstFelt$State"
  | 7 => .object "FirstFelt$Tour"
  | 8 => .object "FirstFelt$Market"
  | 9 => .object "FirstFelt$Town"
  | 10 => .object "FirstFelt$Town"
  | 11 => .object "FirstFelt$State"
  | _ => .object "FirstFelt$State"
theorem nmX6 : ∀ a, a < 13 → ∀ b, b < 13 → a ≠ b → (TX6 a).2.1 ≠ (TX6 b).2.1 := by decide +kernel
theorem tyX6_ok : ∀ k, k < 13 → parseFieldDescriptor (TX6 k).2.2.1 = some (tyX6 k) := by decide +kernel
def RX7 : String := "FirstFeltModel"
def TX7 : u_T := fun k => match k with
  | 0 => ("FirstFeltModel", "now", "[I", true)
  | 1 => ("FirstFeltModel", "kept", "[I", true)
  | 2 => ("FirstFeltModel", "isKept", "[Z", true)
  | 3 => ("FirstFeltModel", "was", "[I", true)
  | 4 => ("FirstFeltModel", "wide", "I", false)
  | 5 => ("FirstFeltModel", "high", "I", false)
  | 6 => ("FirstFeltModel", "isRoofed", "[Z", true)
  | 7 => ("FirstFeltModel", "roofs", "I", false)
  | 8 => ("FirstFeltModel", "stoves", "I", false)
  | 9 => ("FirstFeltModel", "stoveAt", "[I", true)
  | 10 => ("FirstFeltModel", "gives", "[I", true)
  | 11 => ("FirstFeltModel", "hours", "I", false)
  | 12 => ("FirstFeltModel", "suns", "[I", true)
  | 13 => ("FirstFeltModel", "people", "I", false)
  | 14 => ("FirstFeltModel", "notices", "[I", true)
  | 15 => ("FirstFeltModel", "fever", "[I", true)
  | 16 => ("FirstFeltModel", "claims", "I", false)
  | 17 => ("FirstFeltModel", "claimBy", "[I", true)
  | 18 => ("FirstFeltModel", "claimOn", "[I", true)
  | 19 => ("FirstFeltModel", "claimAt", "[I", true)
  | 20 => ("FirstFeltModel", "deeds", "I", false)
  | 21 => ("FirstFeltModel", "deedBy", "[I", true)
  | 22 => ("FirstFeltModel", "deedOn", "[I", true)
  | 23 => ("FirstFeltModel", "deedAt", "[I", true)
  | 24 => ("FirstFeltModel", "text", "[I", true)
  | 25 => ("FirstFeltModel", "textLong", "I", false)
  | 26 => ("FirstFeltModel", "faultAt", "I", false)
  | 27 => ("FirstFeltModel", "tokenAt", "I", false)
  | 28 => ("FirstFeltModel", "tokenLong", "I", false)
  | 29 => ("FirstFeltModel", "token", "I", false)
  | 30 => ("FirstFeltModel", "value", "I", false)
  | 31 => ("FirstFeltModel", "fault", "I", false)
  | 32 => ("FirstFeltModel", "taken", "I", false)
  | 33 => ("FirstFeltModel", "readWide", "I", false)
  | 34 => ("FirstFeltModel", "readHigh", "I", false)
  | 35 => ("FirstFeltModel", "readHeat", "I", false)
  | 36 => ("FirstFeltModel", "readWalls", "[I", true)
  | 37 => ("FirstFeltModel", "walls", "I", false)
  | 38 => ("FirstFeltModel", "readRoof", "[Z", true)
  | 39 => ("FirstFeltModel", "readRoofs", "I", false)
  | 40 => ("FirstFeltModel", "readStoves", "I", false)
  | 41 => ("FirstFeltModel", "readStove", "[I", true)
  | 42 => ("FirstFeltModel", "hasStove", "[Z", true)
  | 43 => ("FirstFeltModel", "readHours", "I", false)
  | 44 => ("FirstFeltModel", "readSun", "[I", true)
  | 45 => ("FirstFeltModel", "readPeople", "I", false)
  | 46 => ("FirstFeltModel", "readPerson", "[I", true)
  | 47 => ("FirstFeltModel", "cellRead", "I", false)
  | 48 => ("FirstFeltModel", "heats", "[I", true)
  | 49 => ("FirstFeltModel", "feeling", "I", false)
  | 50 => ("FirstFeltModel", "numb", "I", false)
  | _ => ("FirstFeltModel", "rent", "[I", true)
def tyX7 : Nat → FieldType := fun k => match k with
  | 0 => .array .int
  | 1 => .array .int
  | 2 => .array .boolean
  | 3 => .array .int
  | 4 => .int
  | 5 => .int
  | 6 => .array .boolean
  | 7 => .int
  | 8 => .int
  | 9 => .array .int
  | 10 => .array .int
  | 11 => .int
  | 12 => .array .int
  | 13 => .int
  | 14 => .array .int
  | 15 => .array .int
  | 16 => .int
  | 17 => .array .int
  | 18 => .array .int
  | 19 => .array .int
  | 20 => .int
  | 21 => .array .int
  | 22 => .array .int
  | 23 => .array .int
  | 24 => .array .int
  | 25 => .int
  | 26 => .int
  | 27 => .int
  | 28 => .int
  | 29 => .int
  | 30 => .int
  | 31 => .int
  | 32 => .int
  | 33 => .int
  | 34 => .int
  | 35 => .int
  | 36 => .array .int
  | 37 => .int
  | 38 => .array .boolean
  | 39 => .int
  | 40 => .int
  | 41 => .array .int
  | 42 => .array .boolean
  | 43 => .int
  | 44 => .array .int
  | 45 => .int
  | 46 => .array .int
  | 47 => .int
  | 48 => .array .int
  | 49 => .int
  | 50 => .int
  | _ => .array .int
theorem nmX7 : ∀ a, a < 52 → ∀ b, b < 52 → a ≠ b → (TX7 a).2.1 ≠ (TX7 b).2.1 := by decide +kernel
theorem tyX7_ok : ∀ k, k < 52 → parseFieldDescriptor (TX7 k).2.2.1 = some (tyX7 k) := by decide +kernel
abbrev vwCl : List vw_C := [(RX0, TX0, 1), (RX1, TX1, 4), (RX2, TX2, 9), (RX3, TX3, 18), (RX4, TX4, 7), (RX5, TX5, 13), (RX6, TX6, 13), (RX7, TX7, 52)]
end
section
/-! ===== AN ABSTRACT MACHINE: weakest preconditions of the bytecode over plain numbers. A value: a number, a long, a reference (0 null); a heap: the cells' shapes and references (xG), their numbers (xW) ===== -/
abbrev xV : Type := Option (Int ⊕ Int ⊕ Nat)
abbrev xi (v : Int) : xV := some (.inl v)
abbrev xl (v : Int) : xV := some (.inr (.inl v))
abbrev xr (a : Nat) : xV := some (.inr (.inr a))
abbrev xG : Type := List (Nat × Nat) × (Nat → Nat → Nat)
abbrev xW : Type := Nat → Nat → Int
abbrev xK : Type := Nat → List xV → List xV → xG → xW → Prop
abbrev xQ : Type := Option xV → xG → xW → Prop
abbrev xC : Type := Nat → List xV → xG → xW → xQ → Prop
/-- an instruction, and what its pool entry was resolved to: for a field class and place; for a call the method's number, how many values it takes, its class, its kind; for a constant its value -/
abbrev xE : Type := Instr × Nat × Nat × Nat × Int
abbrev x32 (v : Int) : Prop := -2147483648 ≤ v ∧ v ≤ 2147483647
abbrev x64 (v : Int) : Prop := -9223372036854775808 ≤ v ∧ v ≤ 9223372036854775807
/-- the cell a is of that shape: (0, class), (1, length) of ints, (2, length) of booleans, (3, length) of States, (4, length) the script -/
def xIs (g : xG) (a : Nat) (q : Nat × Nat) : Prop := a ≠ 0 ∧ g.1[a - 1]? = some q
def xup {α : Type} (w : Nat → Nat → α) (a k : Nat) (v : α) : Nat → Nat → α := fun a' k' => if a' = a ∧ k' = k then v else w a' k'
def xcp (w : xW) (a : Nat) (sp : Nat) (b : Nat) (dp n : Nat) : xW := fun a' k => if a' = b ∧ dp ≤ k ∧ k < dp + n then w a (sp + (k - dp)) else w a' k
def xlen (g : xG) (a : Nat) : Nat := (g.1[a - 1]?.getD (0, 0)).2
def xAr (g : xG) (a : Nat) (i : Int) : Prop := ∃ n : Nat, (xIs g a (1, n) ∨ xIs g a (4, n)) ∧ 0 ≤ i ∧ i < n
def xA1 (g : xG) (a : Nat) (i : Int) : Prop := ∃ n : Nat, xIs g a (1, n) ∧ 0 ≤ i ∧ i < n
def xA2 (g : xG) (a : Nat) (i : Int) : Prop := ∃ n : Nat, xIs g a (2, n) ∧ 0 ≤ i ∧ i < n
def xA3 (g : xG) (a : Nat) (i : Int) : Prop := ∃ n : Nat, xIs g a (3, n) ∧ 0 ≤ i ∧ i < n
def xAl (g : xG) (a : Nat) : Prop := ∃ k n : Nat, xIs g a (k + 1, n) ∧ k < 4 ∧ n < 2147483648
def xCo (g : xG) (a : Nat) (i n : Int) : Prop := ∃ l : Nat, xIs g a (1, l) ∧ 0 ≤ i ∧ 0 ≤ n ∧ i + n ≤ l
/-- which fields hold references -/
def xfr (ci k : Nat) : Bool := match ([tyX0, tyX1, tyX2, tyX3, tyX4, tyX5, tyX6, tyX7][ci]?) with
  | some t => match t k with
    | .int => false
    | _ => true
  | none => false
def xnf (ci : Nat) : Nat := ([1, 4, 9, 18, 7, 13, 13, 52][ci]?).getD 0
def xsz (q : Nat × Nat) : Nat := match q.1 with
  | 0 => xnf q.2
  | _ => q.2
def xsl (l : List (Nat × Nat)) : Nat := (l.map xsz).sum
def xAnd (a b : Int) : Int := (Int32.ofInt a &&& Int32.ofInt b).toInt
def xOr (a b : Int) : Int := (Int32.ofInt a ||| Int32.ofInt b).toInt
def xXor (a b : Int) : Int := (Int32.ofInt a ^^^ Int32.ofInt b).toInt
def xShl (a b : Int) : Int := (Int32.ofInt a <<< (Int32.ofInt b &&& 31)).toInt
def xShr (a b : Int) : Int := (Int32.ofInt a >>> (Int32.ofInt b &&& 31)).toInt
def xUshr (a b : Int) : Int := ((Int32.ofInt a).toUInt32 >>> ((Int32.ofInt b).toUInt32 &&& Int32.toUInt32 31)).toInt32.toInt
def xLand (a b : Int) : Int := (Int64.ofInt a &&& Int64.ofInt b).toInt
def xCmp (a b : Int) : Int := if b < a then 1 else if a = b then 0 else -1
def xldI (ls : List xV) (i : Nat) (k : Int → Prop) : Prop := match ls[i]? with
  | some (some (.inl v)) => k v
  | _ => False
def xldL (ls : List xV) (i : Nat) (k : Int → Prop) : Prop := match ls[i]? with
  | some (some (.inr (.inl v))) => k v
  | _ => False
def xldR (ls : List xV) (i : Nat) (k : Nat → Prop) : Prop := match ls[i]? with
  | some (some (.inr (.inr v))) => k v
  | _ => False
def xnl (ls : List xV) (i : Nat) : Bool := match i with
  | 0 => true
  | j + 1 => match ls[j]? with
    | some (some (.inr (.inl _))) => false
    | _ => true
def xsto (ls : List xV) (i : Nat) (v : xV) (k : List xV → Prop) : Prop := match (Nat.blt i ls.length && xnl ls i) with
  | true => k (ls.set i v)
  | false => False
def xu (st : List xV) (k : Int → List xV → Prop) : Prop := match st with
  | some (.inl a) :: r => k a r
  | _ => False
def xuL (st : List xV) (k : Int → List xV → Prop) : Prop := match st with
  | some (.inr (.inl a)) :: r => k a r
  | _ => False
def xuR (st : List xV) (k : Nat → List xV → Prop) : Prop := match st with
  | some (.inr (.inr a)) :: r => k a r
  | _ => False
def xb (st : List xV) (k : Int → Int → List xV → Prop) : Prop := xu st fun b r => xu r fun a r => k a b r
def xbL (st : List xV) (k : Int → Int → List xV → Prop) : Prop := xuL st fun b r => xuL r fun a r => k a b r
/-- an array's cell and a place -/
def xai (st : List xV) (k : Nat → Int → List xV → Prop) : Prop := xu st fun i r => xuR r fun a r => k a i r
def xc (c : Jvm.ClassFile.Cond) (a b : Int) : Prop := match c with
  | .eq => a = b
  | .ne => ¬ a = b
  | .lt => a < b
  | .ge => b ≤ a
  | .gt => b < a
  | .le => a ≤ b
def xnc (c : Jvm.ClassFile.Cond) (a b : Int) : Prop := match c with
  | .eq => ¬ a = b
  | .ne => a = b
  | .lt => b ≤ a
  | .ge => a < b
  | .gt => a ≤ b
  | .le => b < a
def xto (pc : Nat) (off : Int) : Nat := ((pc : Int) + off).toNat
def xtab (pc : Nat) (k : Nat → Prop) (a : Int) : Int → List Int → Prop
  | _, [] => True
  | v, o :: os => (a = v → k (xto pc o)) ∧ xtab pc k a (v + 1) os
def xone (v : xV) : Bool := match v with
  | some (.inl _) => true
  | some (.inr (.inr _)) => true
  | _ => false
/-- a call's answer: kind 0 none, kind 1 a number -/
def xans (n : Int) (C : xQ → Prop) (k : List xV → xG → xW → Prop) : Prop := match n with
  | 1 => C fun r g w => ∃ v : Int, r = some (xi v) ∧ k [xi v] g w
  | _ => C fun r g w => r = none ∧ k [] g w
/-- how many cells and slots a constructor makes -/
def xmk (l : List (Nat × Nat × Nat)) (mi : Nat) : Nat × Nat := match l with
  | [] => (0, 0)
  | (i, q) :: r => bif Nat.beq i mi then q else xmk r mi
def xfit (st : List xV) (n : Nat) : Bool := Nat.ble n st.length && Nat.ble st.length (n + 4)
def xinv (C : xC) (lim : Nat × Nat) (mks : List (Nat × Nat × Nat)) (e : Nat × Nat × Nat × Int) (pc : Nat) (ls args rest : List xV) (g : xG) (w : xW) (K : xK) : Prop := match e.2.2.2 with
  | 2 => (g.1.length + (xmk mks e.1).1 ≤ lim.1 ∧ xsl g.1 + (xmk mks e.1).2 ≤ lim.2) ∧ C e.1 args g w fun r g' w' => r = none ∧ K (pc + 3) ls rest g' w'
  | 1 => C e.1 args g w fun r g' w' => ∃ v : Int, r = some (xi v) ∧ K (pc + 3) ls (xi v :: rest) g' w'
  | 0 => C e.1 args g w fun r g' w' => r = none ∧ K (pc + 3) ls rest g' w'
  | _ => False
def xobj (C : xC) (lim : Nat × Nat) (mks : List (Nat × Nat × Nat)) (e : Nat × Nat × Nat × Int) (pc : Nat) (ls st : List xV) (g : xG) (w : xW) (K : xK) : Prop := match xfit st e.2.1 with
  | true => xuR (st.take e.2.1).reverse fun a as => xIs g a (0, e.2.2.1) ∧ xinv C lim mks e pc ls (xr a :: as) (st.drop e.2.1) g w K
  | false => False
def xsta (C : xC) (lim : Nat × Nat) (mks : List (Nat × Nat × Nat)) (e : Nat × Nat × Nat × Int) (pc : Nat) (ls st : List xV) (g : xG) (w : xW) (K : xK) : Prop := match e.2.2.2 with
  | 4 => xu st fun n st => xu st fun dp st => xuR st fun b st => xu st fun sp st => xuR st fun a st => (xCo g a sp n ∧ xCo g b dp n) ∧ (match Nat.ble st.length 4 with | true => K (pc + 3) ls st g (xcp w a sp.toNat b dp.toNat n.toNat) | false => False)
  | _ => match xfit st e.2.1 with
    | true => xinv C lim mks e pc ls (st.take e.2.1).reverse (st.drop e.2.1) g w K
    | false => False
def xspc (C : xC) (lim : Nat × Nat) (mks : List (Nat × Nat × Nat)) (e : Nat × Nat × Nat × Int) (pc : Nat) (ls st : List xV) (g : xG) (w : xW) (K : xK) : Prop := match e.2.2.2 with
  | 3 => xuR st fun a r => a ≠ 0 ∧ (match Nat.ble r.length 4 with | true => K (pc + 3) ls r g w | false => False)
  | _ => xobj C lim mks e pc ls st g w K
def xputf (ci k : Nat) (pc : Nat) (ls st : List xV) (g : xG) (w : xW) (K : xK) : Prop := match xfr ci k with
  | false => xu st fun v r => xuR r fun a r => xIs g a (0, ci) ∧ K (pc + 3) ls r g (xup w a k v)
  | true => xuR st fun v r => xuR r fun a r => xIs g a (0, ci) ∧ K (pc + 3) ls r (g.1, xup g.2 a k v) w
def xgetf (ci k : Nat) (pc : Nat) (ls st : List xV) (g : xG) (w : xW) (K : xK) : Prop := match xfr ci k with
  | false => xuR st fun a r => xIs g a (0, ci) ∧ K (pc + 3) ls (xi (w a k) :: r) g w
  | true => xuR st fun a r => xIs g a (0, ci) ∧ K (pc + 3) ls (xr (g.2 a k) :: r) g w
def xnew (q : Nat × Nat) (pc : Nat) (ls st : List xV) (g : xG) (w : xW) (lim : Nat × Nat) (K : xK) : Prop := (g.1.length + 1 ≤ lim.1 ∧ xsl g.1 + xsz q ≤ lim.2) ∧ K pc ls (xr (g.1.length + 1) :: st) (g.1 ++ [q], g.2) w
def xiret (bl : Bool) (st : List xV) (Q : Int → Prop) : Prop := xu st fun v r => match r with
  | [] => match bl with
    | true => (v = 0 ∨ v = 1) ∧ Q v
    | false => Q v
  | _ => False
set_option maxRecDepth 4000 in
def xsem (C : xC) (lim : Nat × Nat) (mks : List (Nat × Nat × Nat)) (Q : xQ) (bl : Bool) (e : xE) (pc : Nat) (ls st : List xV) (g : xG) (w : xW) (K : xK) : Prop :=
  match e.1 with
  | .iconst n => K (pc + 1) ls (xi n :: st) g w
  | .bipush n => K (pc + 2) ls (xi n :: st) g w
  | .sipush n => K (pc + 3) ls (xi n :: st) g w
  | .lconst n => K (pc + 1) ls (xl (n.val : Nat) :: st) g w
  | .ldc _ => K (pc + 2) ls (xi e.2.2.2.2 :: st) g w
  | .ldc_w _ => K (pc + 3) ls (xi e.2.2.2.2 :: st) g w
  | .ldc2_w _ => K (pc + 3) ls (xl e.2.2.2.2 :: st) g w
  | .iload i => xldI ls i fun v => K (pc + 2) ls (xi v :: st) g w
  | .iload_n i => xldI ls i.val fun v => K (pc + 1) ls (xi v :: st) g w
  | .lload i => xldL ls i fun v => K (pc + 2) ls (xl v :: st) g w
  | .lload_n i => xldL ls i.val fun v => K (pc + 1) ls (xl v :: st) g w
  | .aload i => xldR ls i fun v => K (pc + 2) ls (xr v :: st) g w
  | .aload_n i => xldR ls i.val fun v => K (pc + 1) ls (xr v :: st) g w
  | .istore i => xu st fun v r => xsto ls i (xi v) fun ls => K (pc + 2) ls r g w
  | .istore_n i => xu st fun v r => xsto ls i.val (xi v) fun ls => K (pc + 1) ls r g w
  | .astore i => xuR st fun v r => xsto ls i (xr v) fun ls => K (pc + 2) ls r g w
  | .astore_n i => xuR st fun v r => xsto ls i.val (xr v) fun ls => K (pc + 1) ls r g w
  | .iinc i n => xldI ls i fun v => x32 (v + n) ∧ xsto ls i (xi (v + n)) fun ls => K (pc + 3) ls st g w
  | .iadd => xb st fun a b r => x32 (a + b) ∧ K (pc + 1) ls (xi (a + b) :: r) g w
  | .isub => xb st fun a b r => x32 (a - b) ∧ K (pc + 1) ls (xi (a - b) :: r) g w
  | .imul => xb st fun a b r => x32 (a * b) ∧ K (pc + 1) ls (xi (a * b) :: r) g w
  | .idiv => xb st fun a b r => (b ≠ 0 ∧ x32 (a.tdiv b)) ∧ K (pc + 1) ls (xi (a.tdiv b) :: r) g w
  | .irem => xb st fun a b r => (b ≠ 0 ∧ x32 (a.tdiv b)) ∧ K (pc + 1) ls (xi (a.tmod b) :: r) g w
  | .iand => xb st fun a b r => K (pc + 1) ls (xi (xAnd a b) :: r) g w
  | .ior => xb st fun a b r => K (pc + 1) ls (xi (xOr a b) :: r) g w
  | .ixor => xb st fun a b r => K (pc + 1) ls (xi (xXor a b) :: r) g w
  | .ishl => xb st fun a b r => K (pc + 1) ls (xi (xShl a b) :: r) g w
  | .ishr => xb st fun a b r => K (pc + 1) ls (xi (xShr a b) :: r) g w
  | .iushr => xb st fun a b r => K (pc + 1) ls (xi (xUshr a b) :: r) g w
  | .ladd => xbL st fun a b r => x64 (a + b) ∧ K (pc + 1) ls (xl (a + b) :: r) g w
  | .lmul => xbL st fun a b r => x64 (a * b) ∧ K (pc + 1) ls (xl (a * b) :: r) g w
  | .lrem => xbL st fun a b r => (b ≠ 0 ∧ x64 (a.tdiv b)) ∧ K (pc + 1) ls (xl (a.tmod b) :: r) g w
  | .land => xbL st fun a b r => K (pc + 1) ls (xl (xLand a b) :: r) g w
  | .lcmp => xbL st fun a b r => K (pc + 1) ls (xi (xCmp a b) :: r) g w
  | .i2l => xu st fun a r => K (pc + 1) ls (xl a :: r) g w
  | .l2i => xuL st fun a r => x32 a ∧ K (pc + 1) ls (xi a :: r) g w
  | .pop => match st with
    | v :: r => match xone v with
      | true => K (pc + 1) ls r g w
      | false => False
    | _ => False
  | .dup => match st with
    | v :: r => match xone v with
      | true => K (pc + 1) ls (v :: v :: r) g w
      | false => False
    | _ => False
  | .dup2 => match st with
    | u :: v :: r => match xone u && xone v with
      | true => K (pc + 1) ls (u :: v :: u :: v :: r) g w
      | false => False
    | _ => False
  | .ifCond c off => xu st fun a r => (xc c a 0 → K (xto pc off) ls r g w) ∧ (xnc c a 0 → K (pc + 3) ls r g w)
  | .if_icmp c off => xb st fun a b r => (xc c a b → K (xto pc off) ls r g w) ∧ (xnc c a b → K (pc + 3) ls r g w)
  | .goto off => K (xto pc off) ls st g w
  | .tableswitch d lo hi offs => xu st fun a r => ((a < lo ∨ hi < a) → K (xto pc d) ls r g w) ∧ xtab pc (fun t => K t ls r g w) a lo offs.toList
  | .getfield _ => xgetf e.2.1 e.2.2.1 pc ls st g w K
  | .putfield _ => xputf e.2.1 e.2.2.1 pc ls st g w K
  | .iaload => xai st fun a i r => xAr g a i ∧ K (pc + 1) ls (xi (w a i.toNat) :: r) g w
  | .baload => xai st fun a i r => xA2 g a i ∧ K (pc + 1) ls (xi (w a i.toNat) :: r) g w
  | .aaload => xai st fun a i r => xA3 g a i ∧ K (pc + 1) ls (xr (g.2 a i.toNat) :: r) g w
  | .iastore => xu st fun v r => xai r fun a i r => xA1 g a i ∧ K (pc + 1) ls r g (xup w a i.toNat v)
  | .bastore => xu st fun v r => xai r fun a i r => (xA2 g a i ∧ (v = 0 ∨ v = 1)) ∧ K (pc + 1) ls r g (xup w a i.toNat v)
  | .aastore => xuR st fun v r => xai r fun a i r => (xA3 g a i ∧ xIs g v (0, 3)) ∧ K (pc + 1) ls r (g.1, xup g.2 a i.toNat v) w
  | .arraylength => xuR st fun a r => xAl g a ∧ K (pc + 1) ls (xi (xlen g a) :: r) g w
  | .new _ => xnew (0, e.2.1) (pc + 3) ls st g w lim K
  | .newarray .int => xu st fun n r => (0 ≤ n ∧ n ≤ 65536) ∧ xnew (1, n.toNat) (pc + 2) ls r g w lim K
  | .newarray .boolean => xu st fun n r => (0 ≤ n ∧ n ≤ 65536) ∧ xnew (2, n.toNat) (pc + 2) ls r g w lim K
  | .anewarray _ => xu st fun n r => (0 ≤ n ∧ n ≤ 65536) ∧ xnew (3, n.toNat) (pc + 3) ls r g w lim K
  | .invokevirtual _ => xobj C lim mks e.2 pc ls st g w K
  | .invokespecial _ => xspc C lim mks e.2 pc ls st g w K
  | .invokestatic _ => xsta C lim mks e.2 pc ls st g w K
  | .ireturn => xiret bl st fun v => Q (some (xi v)) g w
  | .return_ => match st with
    | [] => Q none g w
    | _ => False
  | _ => False
def xfind (pc : Nat) : List (Nat × xE) → Option xE
  | [] => none
  | (p, e) :: r => bif Nat.beq p pc then some e else xfind pc r
/-- a method: name, code, places, answer, cells and slots that it makes, its class's name, whether it answers a boolean, its instructions -/
abbrev xTb : Type := (MethodName × ByteArray × Nat × Option FieldType) × (Nat × Nat) × String × Bool × List (Nat × xE)
def xstep (mks : List (Nat × Nat × Nat)) (T : xTb) (C : xC) (lim : Nat × Nat) (Q : xQ) (pc : Nat) (ls st : List xV) (g : xG) (w : xW) (K : xK) : Prop := match xfind pc T.2.2.2.2 with
  | some e => xsem C lim mks Q T.2.2.2.1 e pc ls st g w K
  | none => False
def xmask : List Bool → List xV → List xV
  | b :: bs, v :: vs => (bif b then v else none) :: xmask bs vs
  | _, vs => vs
def xcut (pc : Nat) : List (Nat × List Bool) → Option (List Bool)
  | [] => none
  | (p, e) :: r => bif Nat.beq p pc then some e else xcut pc r
def xexec (mks : List (Nat × Nat × Nat)) (T : xTb) (C : xC) (lim : Nat × Nat) (Q : xQ) (cuts : List (Nat × List Bool)) (P : xK) : Nat → xK
  | 0 => P
  | n + 1 => fun pc ls st g w => xstep mks T C lim Q pc ls st g w fun pc ls st g w => match xcut pc cuts with
    | some ks => P pc (xmask ks ls) st g w
    | none => xexec mks T C lim Q cuts P n pc ls st g w
/-- from this point on the method comes to an end with Q: the least such set of points -/
def xAt (mks : List (Nat × Nat × Nat)) (T : xTb) (C : xC) (lim : Nat × Nat) (Q : xQ) : xK := fun pc ls st g w => ∀ P : xK, (∀ pc ls st g w, xstep mks T C lim Q pc ls st g w P → P pc ls st g w) → (∀ ks pc ls st g w, P pc (xmask ks ls) st g w → P pc ls st g w) → P pc ls st g w
def xargs : List xV → List xV
  | [] => []
  | some (.inr (.inl v)) :: r => xl v :: none :: xargs r
  | v :: r => v :: xargs r
def xpad (n : Nat) (l : List xV) : List xV := l ++ List.replicate (n - l.length) none
def xchk (m : Nat × Nat) (g g' : xG) : Prop := g'.1.length = g.1.length + m.1 ∧ xsl g'.1 = xsl g.1 + m.2
/-- a call of a method, d calls deep at most -/
def xcall (mks : List (Nat × Nat × Nat)) (MT : List xTb) : Nat → xC
  | 0 => fun _ _ _ _ _ => False
  | d + 1 => fun mi args g w Q => match MT[mi]? with
    | some T => xAt mks T (xcall mks MT d) (g.1.length + T.2.1.1, xsl g.1 + T.2.1.2) (fun r g' w' => xchk T.2.1 g g' ∧ Q r g' w') 0 (xpad T.1.2.2.1 (xargs args)) [] g w
    | none => False
end
section
/-! ===== the machine grows with what is asked behind it; blocks of instructions at once ===== -/
theorem xldI_m {ls : List xV} {i : Nat} {k k' : Int → Prop} (h : ∀ v, k v → k' v) (t : xldI ls i k) : xldI ls i k' := by
  unfold xldI at *; split <;> simp_all
theorem xldL_m {ls : List xV} {i : Nat} {k k' : Int → Prop} (h : ∀ v, k v → k' v) (t : xldL ls i k) : xldL ls i k' := by
  unfold xldL at *; split <;> simp_all
theorem xldR_m {ls : List xV} {i : Nat} {k k' : Nat → Prop} (h : ∀ v, k v → k' v) (t : xldR ls i k) : xldR ls i k' := by
  unfold xldR at *; split <;> simp_all
theorem xsto_m {ls : List xV} {i : Nat} {v : xV} {k k' : List xV → Prop} (h : ∀ v, k v → k' v) (t : xsto ls i v k) : xsto ls i v k' := by
  unfold xsto at *; split <;> simp_all
theorem xu_m {st : List xV} {k k' : Int → List xV → Prop} (h : ∀ v r, k v r → k' v r) (t : xu st k) : xu st k' := by
  unfold xu at *; split <;> simp_all
theorem xuL_m {st : List xV} {k k' : Int → List xV → Prop} (h : ∀ v r, k v r → k' v r) (t : xuL st k) : xuL st k' := by
  unfold xuL at *; split <;> simp_all
theorem xuR_m {st : List xV} {k k' : Nat → List xV → Prop} (h : ∀ v r, k v r → k' v r) (t : xuR st k) : xuR st k' := by
  unfold xuR at *; split <;> simp_all
theorem xb_m {st : List xV} {k k' : Int → Int → List xV → Prop} (h : ∀ u v r, k u v r → k' u v r) (t : xb st k) : xb st k' := xu_m (fun _ _ t => xu_m (fun _ _ t => h _ _ _ t) t) t
theorem xbL_m {st : List xV} {k k' : Int → Int → List xV → Prop} (h : ∀ u v r, k u v r → k' u v r) (t : xbL st k) : xbL st k' := xuL_m (fun _ _ t => xuL_m (fun _ _ t => h _ _ _ t) t) t
theorem xai_m {st : List xV} {k k' : Nat → Int → List xV → Prop} (h : ∀ u v r, k u v r → k' u v r) (t : xai st k) : xai st k' := xu_m (fun _ _ t => xuR_m (fun _ _ t => h _ _ _ t) t) t
theorem xtab_m {pc : Nat} {k k' : Nat → Prop} {a : Int} (h : ∀ t, k t → k' t) : ∀ (os : List Int) (v : Int), xtab pc k a v os → xtab pc k' a v os
  | [], _, _ => trivial
  | _ :: os, _, t => ⟨fun e => h _ (t.1 e), xtab_m h os _ t.2⟩
def xCm (C : xC) : Prop := ∀ (mi : Nat) (args : List xV) (g : xG) (w : xW) (Q Q' : xQ), (∀ r g w, Q r g w → Q' r g w) → C mi args g w Q → C mi args g w Q'
section XM
variable {C : xC} {lim : Nat × Nat} {mks : List (Nat × Nat × Nat)} {Q Q' : xQ} {bl : Bool} {pc : Nat} {ls st args rest : List xV} {g : xG} {w : xW} {K K' : xK}
theorem xinv_m (hC : xCm C) {e : Nat × Nat × Nat × Int} (hK : ∀ pc ls st g w, K pc ls st g w → K' pc ls st g w) (t : xinv C lim mks e pc ls args rest g w K) : xinv C lim mks e pc ls args rest g w K' := by
  unfold xinv at *
  split
  · rename_i h
    simp only [h] at t
    exact ⟨t.1, hC _ _ _ _ _ _ (fun r g w q => ⟨q.1, hK _ _ _ _ _ q.2⟩) t.2⟩
  · rename_i h
    simp only [h] at t
    exact hC _ _ _ _ _ _ (fun r g w ⟨v, q, q2⟩ => ⟨v, q, hK _ _ _ _ _ q2⟩) t
  · rename_i h
    simp only [h] at t
    exact hC _ _ _ _ _ _ (fun r g w q => ⟨q.1, hK _ _ _ _ _ q.2⟩) t
  · split at t <;> simp_all
theorem xobj_m (hC : xCm C) {e : Nat × Nat × Nat × Int} (hK : ∀ pc ls st g w, K pc ls st g w → K' pc ls st g w) (t : xobj C lim mks e pc ls st g w K) : xobj C lim mks e pc ls st g w K' := by
  unfold xobj at *
  split
  · rename_i h
    simp only [h] at t
    exact xuR_m (fun a r q => ⟨q.1, xinv_m hC hK q.2⟩) t
  · rename_i h
    simp only [h] at t
theorem xsta_m (hC : xCm C) {e : Nat × Nat × Nat × Int} (hK : ∀ pc ls st g w, K pc ls st g w → K' pc ls st g w) (t : xsta C lim mks e pc ls st g w K) : xsta C lim mks e pc ls st g w K' := by
  unfold xsta at *
  split
  · rename_i h
    simp only [h] at t
    refine xu_m (fun a r q => xu_m (fun a r q => xuR_m (fun a r q => xu_m (fun a r q => xuR_m (fun a r q => ⟨q.1, ?_⟩) q) q) q) q) t
    have q2 := q.2
    split
    · rename_i h2
      simp only [h2] at q2
      exact hK _ _ _ _ _ q2
    · rename_i h2
      simp only [h2] at q2
  · rename_i h
    split at t
    · rename_i h2
      exact absurd h2 h
    · split
      · rename_i h2
        simp only [h2] at t
        exact xinv_m hC hK t
      · rename_i h2
        simp only [h2] at t
theorem xspc_m (hC : xCm C) {e : Nat × Nat × Nat × Int} (hK : ∀ pc ls st g w, K pc ls st g w → K' pc ls st g w) (t : xspc C lim mks e pc ls st g w K) : xspc C lim mks e pc ls st g w K' := by
  unfold xspc at *
  split
  · rename_i h
    simp only [h] at t
    refine xuR_m (fun a r q => ⟨q.1, ?_⟩) t
    have q2 := q.2
    split
    · rename_i h2
      simp only [h2] at q2
      exact hK _ _ _ _ _ q2
    · rename_i h2
      simp only [h2] at q2
  · rename_i h
    split at t
    · rename_i h2
      exact absurd h2 h
    · exact xobj_m hC hK t
theorem xputf_m {ci k : Nat} (hK : ∀ pc ls st g w, K pc ls st g w → K' pc ls st g w) (t : xputf ci k pc ls st g w K) : xputf ci k pc ls st g w K' := by
  unfold xputf at *
  split
  · rename_i h
    simp only [h] at t
    exact xu_m (fun a r q => xuR_m (fun a r q => ⟨q.1, hK _ _ _ _ _ q.2⟩) q) t
  · rename_i h
    simp only [h] at t
    exact xuR_m (fun a r q => xuR_m (fun a r q => ⟨q.1, hK _ _ _ _ _ q.2⟩) q) t
theorem xgetf_m {ci k : Nat} (hK : ∀ pc ls st g w, K pc ls st g w → K' pc ls st g w) (t : xgetf ci k pc ls st g w K) : xgetf ci k pc ls st g w K' := by
  unfold xgetf at *
  split
  · rename_i h
    simp only [h] at t
    exact xuR_m (fun a r q => ⟨q.1, hK _ _ _ _ _ q.2⟩) t
  · rename_i h
    simp only [h] at t
    exact xuR_m (fun a r q => ⟨q.1, hK _ _ _ _ _ q.2⟩) t
theorem xiret_m {k k' : Int → Prop} (h : ∀ v, k v → k' v) (t : xiret bl st k) : xiret bl st k' := by
  unfold xiret at *
  refine xu_m (fun v r q => ?_) t
  cases r with
  | nil =>
    cases bl with
    | true => exact ⟨q.1, h _ q.2⟩
    | false => exact h _ q
  | cons => exact q
set_option maxHeartbeats 4000000 in
theorem xsem_m (hC : xCm C) {e : xE} (hK : ∀ pc ls st g w, K pc ls st g w → K' pc ls st g w) (hQ : ∀ r g w, Q r g w → Q' r g w) (t : xsem C lim mks Q bl e pc ls st g w K) : xsem C lim mks Q' bl e pc ls st g w K' := by
  obtain ⟨ins, e⟩ := e
  cases ins
  all_goals first
    | exact t.elim
    | exact hK _ _ _ _ _ t
    | exact xldI_m (fun _ q => hK _ _ _ _ _ q) t
    | exact xldL_m (fun _ q => hK _ _ _ _ _ q) t
    | exact xldR_m (fun _ q => hK _ _ _ _ _ q) t
    | exact xu_m (fun _ _ q => xsto_m (fun _ q => hK _ _ _ _ _ q) q) t
    | exact xuR_m (fun _ _ q => xsto_m (fun _ q => hK _ _ _ _ _ q) q) t
    | exact xldI_m (fun _ q => ⟨q.1, xsto_m (fun _ q => hK _ _ _ _ _ q) q.2⟩) t
    | exact xb_m (fun _ _ _ q => ⟨q.1, hK _ _ _ _ _ q.2⟩) t
    | exact xb_m (fun _ _ _ q => hK _ _ _ _ _ q) t
    | exact xbL_m (fun _ _ _ q => ⟨q.1, hK _ _ _ _ _ q.2⟩) t
    | exact xbL_m (fun _ _ _ q => hK _ _ _ _ _ q) t
    | exact xu_m (fun _ _ q => hK _ _ _ _ _ q) t
    | exact xuL_m (fun _ _ q => ⟨q.1, hK _ _ _ _ _ q.2⟩) t
    | exact xu_m (fun _ _ q => ⟨fun h => hK _ _ _ _ _ (q.1 h), fun h => hK _ _ _ _ _ (q.2 h)⟩) t
    | exact xb_m (fun _ _ _ q => ⟨fun h => hK _ _ _ _ _ (q.1 h), fun h => hK _ _ _ _ _ (q.2 h)⟩) t
    | exact xu_m (fun _ _ q => ⟨fun h => hK _ _ _ _ _ (q.1 h), xtab_m (fun _ q => hK _ _ _ _ _ q) _ _ q.2⟩) t
    | exact xgetf_m hK t
    | exact xputf_m hK t
    | exact xai_m (fun _ _ _ q => ⟨q.1, hK _ _ _ _ _ q.2⟩) t
    | exact xu_m (fun _ _ q => xai_m (fun _ _ _ q => ⟨q.1, hK _ _ _ _ _ q.2⟩) q) t
    | exact xuR_m (fun _ _ q => xai_m (fun _ _ _ q => ⟨q.1, hK _ _ _ _ _ q.2⟩) q) t
    | exact xuR_m (fun _ _ q => ⟨q.1, hK _ _ _ _ _ q.2⟩) t
    | exact ⟨t.1, hK _ _ _ _ _ t.2⟩
    | exact xu_m (fun _ _ q => ⟨q.1, q.2.1, hK _ _ _ _ _ q.2.2⟩) t
    | exact xobj_m hC hK t
    | exact xspc_m hC hK t
    | exact xsta_m hC hK t
    | exact xiret_m (fun _ q => hQ _ _ _ q) t
    | skip
  case newarray a =>
    cases a
    all_goals first
      | exact t.elim
      | exact xu_m (fun _ _ q => ⟨q.1, q.2.1, hK _ _ _ _ _ q.2.2⟩) t
  case return_ =>
    cases st with
    | nil => exact hQ _ _ _ t
    | cons => exact t.elim
  case pop =>
    rcases st with _ | ⟨v, r⟩
    · exact t.elim
    · revert t
      show (match xone v with | true => _ | false => False) → (match xone v with | true => _ | false => False)
      cases xone v
      · exact fun t => t
      · exact fun t => hK _ _ _ _ _ t
  case dup =>
    rcases st with _ | ⟨v, r⟩
    · exact t.elim
    · revert t
      show (match xone v with | true => _ | false => False) → (match xone v with | true => _ | false => False)
      cases xone v
      · exact fun t => t
      · exact fun t => hK _ _ _ _ _ t
  case dup2 =>
    rcases st with _ | ⟨u, _ | ⟨v, r⟩⟩
    · exact t.elim
    · exact t.elim
    · revert t
      show (match xone u && xone v with | true => _ | false => False) → (match xone u && xone v with | true => _ | false => False)
      cases xone u && xone v
      · exact fun t => t
      · exact fun t => hK _ _ _ _ _ t
theorem xstep_m {T : xTb} (hC : xCm C) (hK : ∀ pc ls st g w, K pc ls st g w → K' pc ls st g w) (hQ : ∀ r g w, Q r g w → Q' r g w) (t : xstep mks T C lim Q pc ls st g w K) : xstep mks T C lim Q' pc ls st g w K' := by
  unfold xstep at *
  split
  · rename_i h
    simp only [h] at t
    exact xsem_m hC hK hQ t
  · rename_i h
    simp only [h] at t
theorem xAt_q {T : xTb} (hC : xCm C) (hQ : ∀ r g w, Q r g w → Q' r g w) (t : xAt mks T C lim Q pc ls st g w) : xAt mks T C lim Q' pc ls st g w :=
  fun P h1 h2 => t P (fun _ _ _ _ _ q => h1 _ _ _ _ _ (xstep_m hC (fun _ _ _ _ _ q => q) hQ q)) h2
theorem xAt_exec {T : xTb} (hC : xCm C) (cuts : List (Nat × List Bool)) (n : Nat) (t : xexec mks T C lim Q cuts (xAt mks T C lim Q) n pc ls st g w) : xAt mks T C lim Q pc ls st g w := by
  intro P h1 h2
  induction n generalizing pc ls st g w with
  | zero => exact t P h1 h2
  | succ n ih =>
    refine h1 _ _ _ _ _ (xstep_m hC (fun pc ls st g w q => ?_) (fun _ _ _ q => q) t)
    split at q
    · exact h2 _ _ _ _ _ _ (q P h1 h2)
    · exact ih q
theorem xcall_m (MT : List xTb) : ∀ d : Nat, xCm (xcall mks MT d)
  | 0 => fun _ _ _ _ _ _ _ h => h
  | d + 1 => fun mi args g w Q Q' hQ h => by
    unfold xcall at *
    split
    · rename_i h2
      simp only [h2] at h
      exact xAt_q (xcall_m MT d) (fun r g w q => ⟨q.1, hQ _ _ _ q.2⟩) h
    · rename_i h2
      simp only [h2] at h
end XM
end
section
/-! ===== printed by wip/gen/gen.py: the instructions of every method, their pool entries resolved ===== -/
def iMk_init : List (Nat × xE) := [(0, .aload_n 0, 0, 0, 0, 0), (1, .invokespecial 3, 0, 1, 0, 3), (4, .aload_n 0, 0, 0, 0, 0), (5, .bipush 6, 0, 0, 0, 0), (7, .newarray .int, 0, 0, 0, 0), (9, .putfield 9, 0, 0, 0, 0),
  (12, .return_, 0, 0, 0, 0)]
def tMk_init : xTb := ((⟨"FirstFelt$Market", "<init>", "()V"⟩, prog_2_method_1_code, 1, none), (1, 6), "FirstFelt$Market", false, iMk_init)
def iMk_settle : List (Nat × xE) := [(0, .aload_n 0, 0, 0, 0, 0), (1, .getfield 9, 0, 0, 0, 0), (4, .iconst 0, 0, 0, 0, 0), (5, .invokestatic 15, 210, 2, 0, 0), (8, .iconst 0, 0, 0, 0, 0), (9, .istore_n 3, 0, 0, 0, 0),
  (10, .iload_n 3, 0, 0, 0, 0), (11, .bipush 20, 0, 0, 0, 0), (13, .if_icmp .ge 20, 0, 0, 0, 0), (16, .aload_n 0, 0, 0, 0, 0), (17, .aload_n 1, 0, 0, 0, 0), (18, .aload_n 2, 0, 0, 0, 0),
  (19, .invokevirtual 21, 2, 3, 0, 1), (22, .ifCond .ne 5, 0, 0, 0, 0), (25, .iload_n 3, 0, 0, 0, 0), (26, .ireturn, 0, 0, 0, 0), (27, .iinc 3 1, 0, 0, 0, 0), (30, .goto (-20), 0, 0, 0, 0),
  (33, .iconst (-1), 0, 0, 0, 0), (34, .ireturn, 0, 0, 0, 0)]
def tMk_settle : xTb := ((⟨"FirstFelt$Market", "settle", "(LFirstFelt$Town;LFirstFelt$State;)I"⟩, prog_2_method_2_code, 4, (some .int)), (0, 0), "FirstFelt$Market", false, iMk_settle)
def iMk_askAnew : List (Nat × xE) := [(0, .iconst 0, 0, 0, 0, 0), (1, .istore_n 3, 0, 0, 0, 0), (2, .iconst 0, 0, 0, 0, 0), (3, .istore 4, 0, 0, 0, 0), (5, .iload 4, 0, 0, 0, 0), (7, .aload_n 1, 0, 0, 0, 0),
  (8, .getfield 25, 5, 5, 0, 0), (11, .if_icmp .ge 50, 0, 0, 0, 0), (14, .aload_n 0, 0, 0, 0, 0), (15, .aload_n 1, 0, 0, 0, 0), (16, .aload_n 2, 0, 0, 0, 0), (17, .iload 4, 0, 0, 0, 0),
  (19, .invokevirtual 31, 3, 4, 0, 1), (22, .istore 5, 0, 0, 0, 0), (24, .iload_n 3, 0, 0, 0, 0), (25, .ifCond .ne 15, 0, 0, 0, 0), (28, .iload 5, 0, 0, 0, 0), (30, .aload_n 0, 0, 0, 0, 0),
  (31, .getfield 9, 0, 0, 0, 0), (34, .iload 4, 0, 0, 0, 0), (36, .iaload, 0, 0, 0, 0), (37, .if_icmp .eq 7, 0, 0, 0, 0), (40, .iconst 1, 0, 0, 0, 0), (41, .goto 4, 0, 0, 0, 0),
  (44, .iconst 0, 0, 0, 0, 0), (45, .istore_n 3, 0, 0, 0, 0), (46, .aload_n 0, 0, 0, 0, 0), (47, .getfield 9, 0, 0, 0, 0), (50, .iload 4, 0, 0, 0, 0), (52, .iload 5, 0, 0, 0, 0),
  (54, .iastore, 0, 0, 0, 0), (55, .iinc 4 1, 0, 0, 0, 0), (58, .goto (-53), 0, 0, 0, 0), (61, .iload_n 3, 0, 0, 0, 0), (62, .ireturn, 0, 0, 0, 0)]
def tMk_askAnew : xTb := ((⟨"FirstFelt$Market", "askAnew", "(LFirstFelt$Town;LFirstFelt$State;)Z"⟩, prog_2_method_3_code, 6, (some .boolean)), (0, 0), "FirstFelt$Market", true, iMk_askAnew)
def iMk_bestRent : List (Nat × xE) := [(0, .iconst 0, 0, 0, 0, 0), (1, .istore 4, 0, 0, 0, 0), (3, .iconst 0, 0, 0, 0, 0), (4, .istore 5, 0, 0, 0, 0), (6, .iconst 1, 0, 0, 0, 0), (7, .istore 6, 0, 0, 0, 0),
  (9, .iload 6, 0, 0, 0, 0), (11, .bipush 9, 0, 0, 0, 0), (13, .if_icmp .gt 38, 0, 0, 0, 0), (16, .iload 6, 0, 0, 0, 0), (18, .aload_n 0, 0, 0, 0, 0), (19, .aload_n 1, 0, 0, 0, 0),
  (20, .aload_n 2, 0, 0, 0, 0), (21, .iload_n 3, 0, 0, 0, 0), (22, .iload 6, 0, 0, 0, 0), (24, .invokevirtual 35, 4, 5, 0, 1), (27, .imul, 0, 0, 0, 0), (28, .istore 7, 0, 0, 0, 0),
  (30, .iload 7, 0, 0, 0, 0), (32, .iload 5, 0, 0, 0, 0), (34, .if_icmp .le 11, 0, 0, 0, 0), (37, .iload 7, 0, 0, 0, 0), (39, .istore 5, 0, 0, 0, 0), (41, .iload 6, 0, 0, 0, 0),
  (43, .istore 4, 0, 0, 0, 0), (45, .iinc 6 1, 0, 0, 0, 0), (48, .goto (-39), 0, 0, 0, 0), (51, .iload 4, 0, 0, 0, 0), (53, .ireturn, 0, 0, 0, 0)]
def tMk_bestRent : xTb := ((⟨"FirstFelt$Market", "bestRent", "(LFirstFelt$Town;LFirstFelt$State;I)I"⟩, prog_2_method_4_code, 8, (some .int)), (0, 0), "FirstFelt$Market", false, iMk_bestRent)
def iMk_countLet : List (Nat × xE) := [(0, .iconst 0, 0, 0, 0, 0), (1, .istore 5, 0, 0, 0, 0), (3, .aload_n 1, 0, 0, 0, 0), (4, .invokevirtual 39, 64, 1, 5, 1), (7, .istore 6, 0, 0, 0, 0), (9, .iconst 0, 0, 0, 0, 0),
  (10, .istore 7, 0, 0, 0, 0), (12, .iload 7, 0, 0, 0, 0), (14, .iload 6, 0, 0, 0, 0), (16, .if_icmp .ge 51, 0, 0, 0, 0), (19, .aload_n 2, 0, 0, 0, 0), (20, .getfield 43, 3, 2, 0, 0),
  (23, .iload 7, 0, 0, 0, 0), (25, .iaload, 0, 0, 0, 0), (26, .iload_n 3, 0, 0, 0, 0), (27, .if_icmp .ne 34, 0, 0, 0, 0), (30, .iload 4, 0, 0, 0, 0), (32, .aload_n 2, 0, 0, 0, 0),
  (33, .getfield 48, 3, 0, 0, 0), (36, .iload 7, 0, 0, 0, 0), (38, .iaload, 0, 0, 0, 0), (39, .bipush 50, 0, 0, 0, 0), (41, .idiv, 0, 0, 0, 0), (42, .if_icmp .gt 19, 0, 0, 0, 0),
  (45, .aload_n 0, 0, 0, 0, 0), (46, .aload_n 1, 0, 0, 0, 0), (47, .aload_n 2, 0, 0, 0, 0), (48, .iload 7, 0, 0, 0, 0), (50, .iload 4, 0, 0, 0, 0), (52, .invokevirtual 51, 5, 5, 0, 1),
  (55, .ifCond .ne 6, 0, 0, 0, 0), (58, .iinc 5 1, 0, 0, 0, 0), (61, .iinc 7 1, 0, 0, 0, 0), (64, .goto (-52), 0, 0, 0, 0), (67, .iload 5, 0, 0, 0, 0), (69, .ireturn, 0, 0, 0, 0)]
def tMk_countLet : xTb := ((⟨"FirstFelt$Market", "countLet", "(LFirstFelt$Town;LFirstFelt$State;II)I"⟩, prog_2_method_5_code, 8, (some .int)), (0, 0), "FirstFelt$Market", false, iMk_countLet)
def iMk_isUndercut : List (Nat × xE) := [(0, .iconst 1, 0, 0, 0, 0), (1, .istore 5, 0, 0, 0, 0), (3, .iload 5, 0, 0, 0, 0), (5, .iconst 4, 0, 0, 0, 0), (6, .if_icmp .gt 65, 0, 0, 0, 0), (9, .aload_n 2, 0, 0, 0, 0),
  (10, .aload_n 1, 0, 0, 0, 0), (11, .iload_n 3, 0, 0, 0, 0), (12, .iload 5, 0, 0, 0, 0), (14, .invokevirtual 55, 35, 4, 3, 1), (17, .istore 6, 0, 0, 0, 0), (19, .iload 6, 0, 0, 0, 0),
  (21, .iconst (-1), 0, 0, 0, 0), (22, .if_icmp .eq 43, 0, 0, 0, 0), (25, .aload_n 2, 0, 0, 0, 0), (26, .getfield 43, 3, 2, 0, 0), (29, .iload 6, 0, 0, 0, 0), (31, .iaload, 0, 0, 0, 0),
  (32, .istore 7, 0, 0, 0, 0), (34, .iload 7, 0, 0, 0, 0), (36, .iconst (-1), 0, 0, 0, 0), (37, .if_icmp .eq 28, 0, 0, 0, 0), (40, .iload 7, 0, 0, 0, 0), (42, .aload_n 2, 0, 0, 0, 0),
  (43, .getfield 43, 3, 2, 0, 0), (46, .iload_n 3, 0, 0, 0, 0), (47, .iaload, 0, 0, 0, 0), (48, .if_icmp .eq 17, 0, 0, 0, 0), (51, .aload_n 0, 0, 0, 0, 0), (52, .getfield 9, 0, 0, 0, 0),
  (55, .iload 7, 0, 0, 0, 0), (57, .iaload, 0, 0, 0, 0), (58, .iload 4, 0, 0, 0, 0), (60, .if_icmp .ge 5, 0, 0, 0, 0), (63, .iconst 1, 0, 0, 0, 0), (64, .ireturn, 0, 0, 0, 0),
  (65, .iinc 5 1, 0, 0, 0, 0), (68, .goto (-65), 0, 0, 0, 0), (71, .iconst 0, 0, 0, 0, 0), (72, .ireturn, 0, 0, 0, 0)]
def tMk_isUndercut : xTb := ((⟨"FirstFelt$Market", "isUndercut", "(LFirstFelt$Town;LFirstFelt$State;II)Z"⟩, prog_2_method_6_code, 8, (some .boolean)), (0, 0), "FirstFelt$Market", true, iMk_isUndercut)
def iPp_init : List (Nat × xE) := [(0, .aload_n 0, 0, 0, 0, 0), (1, .invokespecial 3, 0, 1, 0, 3), (4, .iconst 0, 0, 0, 0, 0), (5, .iload_n 1, 0, 0, 0, 0), (6, .invokestatic 9, 208, 2, 0, 1), (9, .istore_n 2, 0, 0, 0, 0),
  (10, .aload_n 0, 0, 0, 0, 0), (11, .iload_n 2, 0, 0, 0, 0), (12, .newarray .int, 0, 0, 0, 0), (14, .putfield 15, 1, 0, 0, 0), (17, .aload_n 0, 0, 0, 0, 0), (18, .iload_n 2, 0, 0, 0, 0),
  (19, .newarray .int, 0, 0, 0, 0), (21, .putfield 21, 1, 1, 0, 0), (24, .aload_n 0, 0, 0, 0, 0), (25, .iload_n 2, 0, 0, 0, 0), (26, .newarray .int, 0, 0, 0, 0), (28, .putfield 24, 1, 2, 0, 0),
  (31, .return_, 0, 0, 0, 0)]
def tPp_init : xTb := ((⟨"FirstFelt$Papers", "<init>", "(I)V"⟩, prog_3_method_1_code, 3, none), (3, 36), "FirstFelt$Papers", false, iPp_init)
def tPp_init8 : xTb := ((⟨"FirstFelt$Papers", "<init>", "(I)V"⟩, prog_3_method_1_code, 3, none), (3, 24), "FirstFelt$Papers", false, iPp_init)
def iPp_write : List (Nat × xE) := [(0, .aload_n 0, 0, 0, 0, 0), (1, .getfield 27, 1, 3, 0, 0), (4, .aload_n 0, 0, 0, 0, 0), (5, .getfield 15, 1, 0, 0, 0), (8, .arraylength, 0, 0, 0, 0), (9, .if_icmp .lt 5, 0, 0, 0, 0),
  (12, .iconst 0, 0, 0, 0, 0), (13, .ireturn, 0, 0, 0, 0), (14, .aload_n 0, 0, 0, 0, 0), (15, .getfield 15, 1, 0, 0, 0), (18, .aload_n 0, 0, 0, 0, 0), (19, .getfield 27, 1, 3, 0, 0),
  (22, .iload_n 1, 0, 0, 0, 0), (23, .iastore, 0, 0, 0, 0), (24, .aload_n 0, 0, 0, 0, 0), (25, .getfield 21, 1, 1, 0, 0), (28, .aload_n 0, 0, 0, 0, 0), (29, .getfield 27, 1, 3, 0, 0),
  (32, .iload_n 2, 0, 0, 0, 0), (33, .iastore, 0, 0, 0, 0), (34, .aload_n 0, 0, 0, 0, 0), (35, .getfield 24, 1, 2, 0, 0), (38, .aload_n 0, 0, 0, 0, 0), (39, .getfield 27, 1, 3, 0, 0),
  (42, .iload_n 3, 0, 0, 0, 0), (43, .iastore, 0, 0, 0, 0), (44, .aload_n 0, 0, 0, 0, 0), (45, .dup, 0, 0, 0, 0), (46, .getfield 27, 1, 3, 0, 0), (49, .iconst 1, 0, 0, 0, 0),
  (50, .iadd, 0, 0, 0, 0), (51, .putfield 27, 1, 3, 0, 0), (54, .iconst 1, 0, 0, 0, 0), (55, .ireturn, 0, 0, 0, 0)]
def tPp_write : xTb := ((⟨"FirstFelt$Papers", "write", "(III)Z"⟩, prog_3_method_2_code, 4, (some .boolean)), (0, 0), "FirstFelt$Papers", true, iPp_write)
def iPp_latest : List (Nat × xE) := [(0, .iconst (-1), 0, 0, 0, 0), (1, .istore_n 1, 0, 0, 0, 0), (2, .iconst 0, 0, 0, 0, 0), (3, .istore_n 2, 0, 0, 0, 0), (4, .iload_n 2, 0, 0, 0, 0), (5, .aload_n 0, 0, 0, 0, 0),
  (6, .getfield 27, 1, 3, 0, 0), (9, .if_icmp .ge 20, 0, 0, 0, 0), (12, .iload_n 1, 0, 0, 0, 0), (13, .aload_n 0, 0, 0, 0, 0), (14, .getfield 24, 1, 2, 0, 0), (17, .iload_n 2, 0, 0, 0, 0),
  (18, .iaload, 0, 0, 0, 0), (19, .invokestatic 9, 208, 2, 0, 1), (22, .istore_n 1, 0, 0, 0, 0), (23, .iinc 2 1, 0, 0, 0, 0), (26, .goto (-22), 0, 0, 0, 0), (29, .iload_n 1, 0, 0, 0, 0),
  (30, .ireturn, 0, 0, 0, 0)]
def tPp_latest : xTb := ((⟨"FirstFelt$Papers", "latest", "()I"⟩, prog_3_method_3_code, 3, (some .int)), (0, 0), "FirstFelt$Papers", false, iPp_latest)
def iPp_notFeltAt : List (Nat × xE) := [(0, .iconst 0, 0, 0, 0, 0), (1, .istore_n 3, 0, 0, 0, 0), (2, .iconst 0, 0, 0, 0, 0), (3, .istore 4, 0, 0, 0, 0), (5, .iload 4, 0, 0, 0, 0), (7, .aload_n 0, 0, 0, 0, 0),
  (8, .getfield 27, 1, 3, 0, 0), (11, .if_icmp .ge 63, 0, 0, 0, 0), (14, .aload_n 0, 0, 0, 0, 0), (15, .getfield 24, 1, 2, 0, 0), (18, .iload 4, 0, 0, 0, 0), (20, .iaload, 0, 0, 0, 0),
  (21, .iload_n 1, 0, 0, 0, 0), (22, .if_icmp .ne 46, 0, 0, 0, 0), (25, .aload_n 2, 0, 0, 0, 0), (26, .getfield 31, 3, 7, 0, 0), (29, .aload_n 0, 0, 0, 0, 0), (30, .getfield 15, 1, 0, 0, 0),
  (33, .iload 4, 0, 0, 0, 0), (35, .iaload, 0, 0, 0, 0), (36, .iaload, 0, 0, 0, 0), (37, .aload_n 0, 0, 0, 0, 0), (38, .getfield 21, 1, 1, 0, 0), (41, .iload 4, 0, 0, 0, 0),
  (43, .iaload, 0, 0, 0, 0), (44, .if_icmp .ne 17, 0, 0, 0, 0), (47, .aload_n 2, 0, 0, 0, 0), (48, .aload_n 0, 0, 0, 0, 0), (49, .getfield 15, 1, 0, 0, 0), (52, .iload 4, 0, 0, 0, 0),
  (54, .iaload, 0, 0, 0, 0), (55, .invokevirtual 36, 39, 2, 3, 1), (58, .ifCond .ne 10, 0, 0, 0, 0), (61, .iload_n 3, 0, 0, 0, 0), (62, .iconst 1, 0, 0, 0, 0), (63, .iload 4, 0, 0, 0, 0),
  (65, .ishl, 0, 0, 0, 0), (66, .ior, 0, 0, 0, 0), (67, .istore_n 3, 0, 0, 0, 0), (68, .iinc 4 1, 0, 0, 0, 0), (71, .goto (-66), 0, 0, 0, 0), (74, .iload_n 3, 0, 0, 0, 0),
  (75, .ireturn, 0, 0, 0, 0)]
def tPp_notFeltAt : xTb := ((⟨"FirstFelt$Papers", "notFeltAt", "(ILFirstFelt$State;)I"⟩, prog_3_method_4_code, 5, (some .int)), (0, 0), "FirstFelt$Papers", false, iPp_notFeltAt)
def iPp_ownedAt : List (Nat × xE) := [(0, .iconst 0, 0, 0, 0, 0), (1, .istore_n 3, 0, 0, 0, 0), (2, .iload_n 3, 0, 0, 0, 0), (3, .aload_n 0, 0, 0, 0, 0), (4, .getfield 27, 1, 3, 0, 0), (7, .if_icmp .ge 41, 0, 0, 0, 0),
  (10, .aload_n 0, 0, 0, 0, 0), (11, .getfield 24, 1, 2, 0, 0), (14, .iload_n 3, 0, 0, 0, 0), (15, .iaload, 0, 0, 0, 0), (16, .iload_n 1, 0, 0, 0, 0), (17, .if_icmp .ne 25, 0, 0, 0, 0),
  (20, .aload_n 2, 0, 0, 0, 0), (21, .getfield 40, 3, 2, 0, 0), (24, .aload_n 0, 0, 0, 0, 0), (25, .getfield 21, 1, 1, 0, 0), (28, .iload_n 3, 0, 0, 0, 0), (29, .iaload, 0, 0, 0, 0),
  (30, .iaload, 0, 0, 0, 0), (31, .aload_n 0, 0, 0, 0, 0), (32, .getfield 15, 1, 0, 0, 0), (35, .iload_n 3, 0, 0, 0, 0), (36, .iaload, 0, 0, 0, 0), (37, .if_icmp .eq 5, 0, 0, 0, 0),
  (40, .iconst 0, 0, 0, 0, 0), (41, .ireturn, 0, 0, 0, 0), (42, .iinc 3 1, 0, 0, 0, 0), (45, .goto (-43), 0, 0, 0, 0), (48, .iconst 1, 0, 0, 0, 0), (49, .ireturn, 0, 0, 0, 0)]
def tPp_ownedAt : xTb := ((⟨"FirstFelt$Papers", "ownedAt", "(ILFirstFelt$State;)Z"⟩, prog_3_method_5_code, 4, (some .boolean)), (0, 0), "FirstFelt$Papers", true, iPp_ownedAt)
def iRd_init : List (Nat × xE) := [(0, .aload_n 0, 0, 0, 0, 0), (1, .invokespecial 3, 0, 1, 0, 3), (4, .aload_n 0, 0, 0, 0, 0), (5, .sipush 260, 0, 0, 0, 0), (8, .newarray .int, 0, 0, 0, 0), (10, .putfield 9, 2, 0, 0, 0),
  (13, .aload_n 0, 0, 0, 0, 0), (14, .iconst (-1), 0, 0, 0, 0), (15, .putfield 15, 2, 5, 0, 0), (18, .return_, 0, 0, 0, 0)]
def tRd_init : xTb := ((⟨"FirstFelt$Reader", "<init>", "()V"⟩, prog_4_method_1_code, 1, none), (1, 260), "FirstFelt$Reader", false, iRd_init)
def iRd_take : List (Nat × xE) := [(0, .aload_n 0, 0, 0, 0, 0), (1, .getfield 19, 2, 1, 0, 0), (4, .sipush 260, 0, 0, 0, 0), (7, .if_icmp .lt 5, 0, 0, 0, 0), (10, .iconst 0, 0, 0, 0, 0), (11, .ireturn, 0, 0, 0, 0),
  (12, .aload_n 0, 0, 0, 0, 0), (13, .getfield 9, 2, 0, 0, 0), (16, .aload_n 0, 0, 0, 0, 0), (17, .getfield 19, 2, 1, 0, 0), (20, .iload_n 1, 0, 0, 0, 0), (21, .iastore, 0, 0, 0, 0),
  (22, .aload_n 0, 0, 0, 0, 0), (23, .dup, 0, 0, 0, 0), (24, .getfield 19, 2, 1, 0, 0), (27, .iconst 1, 0, 0, 0, 0), (28, .iadd, 0, 0, 0, 0), (29, .putfield 19, 2, 1, 0, 0),
  (32, .iconst 1, 0, 0, 0, 0), (33, .ireturn, 0, 0, 0, 0)]
def tRd_take : xTb := ((⟨"FirstFelt$Reader", "take", "(I)Z"⟩, prog_4_method_2_code, 2, (some .boolean)), (0, 0), "FirstFelt$Reader", true, iRd_take)
def iRd_read : List (Nat × xE) := [(0, .aload_n 0, 0, 0, 0, 0), (1, .aload_n 1, 0, 0, 0, 0), (2, .putfield 22, 2, 7, 0, 0), (5, .aload_n 0, 0, 0, 0, 0), (6, .aload_n 2, 0, 0, 0, 0), (7, .putfield 26, 2, 8, 0, 0),
  (10, .aload_n 0, 0, 0, 0, 0), (11, .getfield 22, 2, 7, 0, 0), (14, .invokevirtual 30, 62, 1, 5, 0), (17, .aload_n 0, 0, 0, 0, 0), (18, .getfield 26, 2, 8, 0, 0), (21, .invokevirtual 35, 30, 1, 3, 0),
  (24, .aload_n 0, 0, 0, 0, 0), (25, .iconst 0, 0, 0, 0, 0), (26, .putfield 38, 2, 2, 0, 0), (29, .aload_n 0, 0, 0, 0, 0), (30, .iconst 0, 0, 0, 0, 0), (31, .putfield 41, 2, 6, 0, 0),
  (34, .aload_n 0, 0, 0, 0, 0), (35, .iconst 0, 0, 0, 0, 0), (36, .putfield 44, 2, 4, 0, 0), (39, .aload_n 0, 0, 0, 0, 0), (40, .iconst (-1), 0, 0, 0, 0), (41, .putfield 15, 2, 5, 0, 0),
  (44, .aload_n 0, 0, 0, 0, 0), (45, .invokevirtual 47, 27, 1, 2, 0), (48, .iconst 0, 0, 0, 0, 0), (49, .istore_n 3, 0, 0, 0, 0), (50, .iload_n 3, 0, 0, 0, 0), (51, .sipush 260, 0, 0, 0, 0),
  (54, .if_icmp .ge 33, 0, 0, 0, 0), (57, .aload_n 0, 0, 0, 0, 0), (58, .getfield 38, 2, 2, 0, 0), (61, .aload_n 0, 0, 0, 0, 0), (62, .getfield 19, 2, 1, 0, 0), (65, .if_icmp .ge 22, 0, 0, 0, 0),
  (68, .aload_n 0, 0, 0, 0, 0), (69, .invokevirtual 50, 15, 1, 2, 1), (72, .ifCond .ne 5, 0, 0, 0, 0), (75, .iconst 0, 0, 0, 0, 0), (76, .ireturn, 0, 0, 0, 0), (77, .aload_n 0, 0, 0, 0, 0),
  (78, .invokevirtual 47, 27, 1, 2, 0), (81, .iinc 3 1, 0, 0, 0, 0), (84, .goto (-34), 0, 0, 0, 0), (87, .iconst 1, 0, 0, 0, 0), (88, .ireturn, 0, 0, 0, 0)]
def tRd_read : xTb := ((⟨"FirstFelt$Reader", "read", "(LFirstFelt$Town;LFirstFelt$State;)Z"⟩, prog_4_method_3_code, 4, (some .boolean)), (0, 0), "FirstFelt$Reader", true, iRd_read)
def iRd_readClause : List (Nat × xE) := [(0, .aload_n 0, 0, 0, 0, 0), (1, .getfield 9, 2, 0, 0, 0), (4, .aload_n 0, 0, 0, 0, 0), (5, .getfield 38, 2, 2, 0, 0), (8, .iaload, 0, 0, 0, 0), (9, .istore_n 1, 0, 0, 0, 0),
  (10, .aload_n 0, 0, 0, 0, 0), (11, .getfield 22, 2, 7, 0, 0), (14, .getfield 54, 5, 0, 0, 0), (17, .ifCond .ne 19, 0, 0, 0, 0), (20, .iload_n 1, 0, 0, 0, 0), (21, .bipush 116, 0, 0, 0, 0),
  (23, .if_icmp .eq 13, 0, 0, 0, 0), (26, .aload_n 0, 0, 0, 0, 0), (27, .iconst 1, 0, 0, 0, 0), (28, .aload_n 0, 0, 0, 0, 0), (29, .getfield 38, 2, 2, 0, 0), (32, .invokevirtual 57, 28, 3, 2, 1),
  (35, .ireturn, 0, 0, 0, 0), (36, .iload_n 1, 0, 0, 0, 0), (37, .tableswitch 265 111 119 #[120, 228, 265, 156, 193, 51, 265, 265, 86], 0, 0, 0, 0), (88, .aload_n 0, 0, 0, 0, 0), (89, .aload_n 0, 0, 0, 0, 0), (90, .getfield 22, 2, 7, 0, 0),
  (93, .getfield 54, 5, 0, 0, 0), (96, .ifCond .ne 7, 0, 0, 0, 0), (99, .iconst 1, 0, 0, 0, 0), (100, .goto 4, 0, 0, 0, 0), (103, .iconst 0, 0, 0, 0, 0), (104, .invokevirtual 61, 16, 2, 2, 1),
  (107, .ifCond .eq 14, 0, 0, 0, 0), (110, .aload_n 0, 0, 0, 0, 0), (111, .invokevirtual 65, 17, 1, 2, 1), (114, .ifCond .eq 7, 0, 0, 0, 0), (117, .iconst 1, 0, 0, 0, 0), (118, .goto 4, 0, 0, 0, 0),
  (121, .iconst 0, 0, 0, 0, 0), (122, .ireturn, 0, 0, 0, 0), (123, .aload_n 0, 0, 0, 0, 0), (124, .aload_n 0, 0, 0, 0, 0), (125, .getfield 41, 2, 6, 0, 0), (128, .bipush 12, 0, 0, 0, 0),
  (130, .if_icmp .ge 7, 0, 0, 0, 0), (133, .iconst 1, 0, 0, 0, 0), (134, .goto 4, 0, 0, 0, 0), (137, .iconst 0, 0, 0, 0, 0), (138, .invokevirtual 61, 16, 2, 2, 1), (141, .ifCond .eq 14, 0, 0, 0, 0),
  (144, .aload_n 0, 0, 0, 0, 0), (145, .invokevirtual 68, 18, 1, 2, 1), (148, .ifCond .eq 7, 0, 0, 0, 0), (151, .iconst 1, 0, 0, 0, 0), (152, .goto 4, 0, 0, 0, 0), (155, .iconst 0, 0, 0, 0, 0),
  (156, .ireturn, 0, 0, 0, 0), (157, .aload_n 0, 0, 0, 0, 0), (158, .aload_n 0, 0, 0, 0, 0), (159, .getfield 22, 2, 7, 0, 0), (162, .getfield 71, 5, 2, 0, 0), (165, .iconst 4, 0, 0, 0, 0),
  (166, .if_icmp .ge 7, 0, 0, 0, 0), (169, .iconst 1, 0, 0, 0, 0), (170, .goto 4, 0, 0, 0, 0), (173, .iconst 0, 0, 0, 0, 0), (174, .invokevirtual 61, 16, 2, 2, 1), (177, .ifCond .eq 14, 0, 0, 0, 0),
  (180, .aload_n 0, 0, 0, 0, 0), (181, .invokevirtual 74, 19, 1, 2, 1), (184, .ifCond .eq 7, 0, 0, 0, 0), (187, .iconst 1, 0, 0, 0, 0), (188, .goto 4, 0, 0, 0, 0), (191, .iconst 0, 0, 0, 0, 0),
  (192, .ireturn, 0, 0, 0, 0), (193, .aload_n 0, 0, 0, 0, 0), (194, .aload_n 0, 0, 0, 0, 0), (195, .getfield 22, 2, 7, 0, 0), (198, .getfield 77, 5, 3, 0, 0), (201, .bipush 12, 0, 0, 0, 0),
  (203, .if_icmp .ge 7, 0, 0, 0, 0), (206, .iconst 1, 0, 0, 0, 0), (207, .goto 4, 0, 0, 0, 0), (210, .iconst 0, 0, 0, 0, 0), (211, .invokevirtual 61, 16, 2, 2, 1), (214, .ifCond .eq 14, 0, 0, 0, 0),
  (217, .aload_n 0, 0, 0, 0, 0), (218, .invokevirtual 80, 21, 1, 2, 1), (221, .ifCond .eq 7, 0, 0, 0, 0), (224, .iconst 1, 0, 0, 0, 0), (225, .goto 4, 0, 0, 0, 0), (228, .iconst 0, 0, 0, 0, 0),
  (229, .ireturn, 0, 0, 0, 0), (230, .aload_n 0, 0, 0, 0, 0), (231, .aload_n 0, 0, 0, 0, 0), (232, .getfield 22, 2, 7, 0, 0), (235, .getfield 83, 5, 4, 0, 0), (238, .ifCond .ne 7, 0, 0, 0, 0),
  (241, .iconst 1, 0, 0, 0, 0), (242, .goto 4, 0, 0, 0, 0), (245, .iconst 0, 0, 0, 0, 0), (246, .invokevirtual 61, 16, 2, 2, 1), (249, .ifCond .eq 14, 0, 0, 0, 0), (252, .aload_n 0, 0, 0, 0, 0),
  (253, .invokevirtual 86, 22, 1, 2, 1), (256, .ifCond .eq 7, 0, 0, 0, 0), (259, .iconst 1, 0, 0, 0, 0), (260, .goto 4, 0, 0, 0, 0), (263, .iconst 0, 0, 0, 0, 0), (264, .ireturn, 0, 0, 0, 0),
  (265, .aload_n 0, 0, 0, 0, 0), (266, .aload_n 0, 0, 0, 0, 0), (267, .getfield 22, 2, 7, 0, 0), (270, .getfield 89, 5, 5, 0, 0), (273, .bipush 6, 0, 0, 0, 0), (275, .if_icmp .ge 7, 0, 0, 0, 0),
  (278, .iconst 1, 0, 0, 0, 0), (279, .goto 4, 0, 0, 0, 0), (282, .iconst 0, 0, 0, 0, 0), (283, .invokevirtual 61, 16, 2, 2, 1), (286, .ifCond .eq 14, 0, 0, 0, 0), (289, .aload_n 0, 0, 0, 0, 0),
  (290, .invokevirtual 92, 23, 1, 2, 1), (293, .ifCond .eq 7, 0, 0, 0, 0), (296, .iconst 1, 0, 0, 0, 0), (297, .goto 4, 0, 0, 0, 0), (300, .iconst 0, 0, 0, 0, 0), (301, .ireturn, 0, 0, 0, 0),
  (302, .aload_n 0, 0, 0, 0, 0), (303, .iconst 1, 0, 0, 0, 0), (304, .aload_n 0, 0, 0, 0, 0), (305, .getfield 38, 2, 2, 0, 0), (308, .invokevirtual 57, 28, 3, 2, 1), (311, .ireturn, 0, 0, 0, 0)]
def tRd_readClause : xTb := ((⟨"FirstFelt$Reader", "readClause", "()Z"⟩, prog_4_method_4_code, 2, (some .boolean)), (0, 0), "FirstFelt$Reader", true, iRd_readClause)
def iRd_startClause : List (Nat × xE) := [(0, .iload_n 1, 0, 0, 0, 0), (1, .ifCond .ne 13, 0, 0, 0, 0), (4, .aload_n 0, 0, 0, 0, 0), (5, .iconst 3, 0, 0, 0, 0), (6, .aload_n 0, 0, 0, 0, 0), (7, .getfield 38, 2, 2, 0, 0),
  (10, .invokevirtual 57, 28, 3, 2, 1), (13, .ireturn, 0, 0, 0, 0), (14, .aload_n 0, 0, 0, 0, 0), (15, .dup, 0, 0, 0, 0), (16, .getfield 38, 2, 2, 0, 0), (19, .iconst 1, 0, 0, 0, 0),
  (20, .iadd, 0, 0, 0, 0), (21, .putfield 38, 2, 2, 0, 0), (24, .iconst 1, 0, 0, 0, 0), (25, .ireturn, 0, 0, 0, 0)]
def tRd_startClause : xTb := ((⟨"FirstFelt$Reader", "startClause", "(Z)Z"⟩, prog_4_method_5_code, 2, (some .boolean)), (0, 0), "FirstFelt$Reader", true, iRd_startClause)
def iRd_readTown : List (Nat × xE) := [(0, .aload_n 0, 0, 0, 0, 0), (1, .iconst 1, 0, 0, 0, 0), (2, .bipush 6, 0, 0, 0, 0), (4, .invokevirtual 95, 25, 3, 2, 1), (7, .istore_n 1, 0, 0, 0, 0), (8, .iload_n 1, 0, 0, 0, 0),
  (9, .iconst 1, 0, 0, 0, 0), (10, .if_icmp .ge 5, 0, 0, 0, 0), (13, .iconst 0, 0, 0, 0, 0), (14, .ireturn, 0, 0, 0, 0), (15, .aload_n 0, 0, 0, 0, 0), (16, .iconst 1, 0, 0, 0, 0),
  (17, .bipush 6, 0, 0, 0, 0), (19, .bipush 20, 0, 0, 0, 0), (21, .iload_n 1, 0, 0, 0, 0), (22, .idiv, 0, 0, 0, 0), (23, .invokestatic 99, 209, 2, 0, 1), (26, .invokevirtual 95, 25, 3, 2, 1),
  (29, .istore_n 2, 0, 0, 0, 0), (30, .iload_n 2, 0, 0, 0, 0), (31, .iconst (-1), 0, 0, 0, 0), (32, .if_icmp .ne 5, 0, 0, 0, 0), (35, .iconst 0, 0, 0, 0, 0), (36, .ireturn, 0, 0, 0, 0),
  (37, .aload_n 0, 0, 0, 0, 0), (38, .iconst 0, 0, 0, 0, 0), (39, .sipush 200, 0, 0, 0, 0), (42, .invokevirtual 95, 25, 3, 2, 1), (45, .istore_n 3, 0, 0, 0, 0), (46, .iload_n 3, 0, 0, 0, 0),
  (47, .iconst (-1), 0, 0, 0, 0), (48, .if_icmp .ne 5, 0, 0, 0, 0), (51, .iconst 0, 0, 0, 0, 0), (52, .ireturn, 0, 0, 0, 0), (53, .aload_n 0, 0, 0, 0, 0), (54, .getfield 22, 2, 7, 0, 0),
  (57, .iload_n 1, 0, 0, 0, 0), (58, .iload_n 2, 0, 0, 0, 0), (59, .invokevirtual 104, 63, 3, 5, 0), (62, .aload_n 0, 0, 0, 0, 0), (63, .getfield 26, 2, 8, 0, 0), (66, .getfield 108, 3, 0, 0, 0),
  (69, .iload_n 3, 0, 0, 0, 0), (70, .invokestatic 111, 210, 2, 0, 0), (73, .aload_n 0, 0, 0, 0, 0), (74, .invokevirtual 117, 26, 1, 2, 1), (77, .ireturn, 0, 0, 0, 0)]
def tRd_readTown : xTb := ((⟨"FirstFelt$Reader", "readTown", "()Z"⟩, prog_4_method_6_code, 4, (some .boolean)), (0, 0), "FirstFelt$Reader", true, iRd_readTown)
def iRd_readWall : List (Nat × xE) := [(0, .aload_n 0, 0, 0, 0, 0), (1, .invokevirtual 120, 24, 1, 2, 1), (4, .istore_n 1, 0, 0, 0, 0), (5, .iload_n 1, 0, 0, 0, 0), (6, .iconst (-1), 0, 0, 0, 0), (7, .if_icmp .ne 5, 0, 0, 0, 0),
  (10, .iconst 0, 0, 0, 0, 0), (11, .ireturn, 0, 0, 0, 0), (12, .aload_n 0, 0, 0, 0, 0), (13, .iconst 0, 0, 0, 0, 0), (14, .iconst 1, 0, 0, 0, 0), (15, .invokevirtual 95, 25, 3, 2, 1),
  (18, .istore_n 2, 0, 0, 0, 0), (19, .iload_n 2, 0, 0, 0, 0), (20, .iconst (-1), 0, 0, 0, 0), (21, .if_icmp .ne 5, 0, 0, 0, 0), (24, .iconst 0, 0, 0, 0, 0), (25, .ireturn, 0, 0, 0, 0),
  (26, .aload_n 0, 0, 0, 0, 0), (27, .getfield 22, 2, 7, 0, 0), (30, .iload_n 1, 0, 0, 0, 0), (31, .iload_n 2, 0, 0, 0, 0), (32, .invokestatic 124, 110, 1, 6, 1), (35, .invokevirtual 128, 68, 3, 5, 1),
  (38, .iconst (-1), 0, 0, 0, 0), (39, .if_icmp .ne 13, 0, 0, 0, 0), (42, .aload_n 0, 0, 0, 0, 0), (43, .iconst 2, 0, 0, 0, 0), (44, .aload_n 0, 0, 0, 0, 0), (45, .getfield 131, 2, 3, 0, 0),
  (48, .invokevirtual 57, 28, 3, 2, 1), (51, .ireturn, 0, 0, 0, 0), (52, .aload_n 0, 0, 0, 0, 0), (53, .getfield 26, 2, 8, 0, 0), (56, .iload_n 1, 0, 0, 0, 0), (57, .iload_n 2, 0, 0, 0, 0),
  (58, .invokevirtual 134, 33, 3, 3, 1), (61, .ifCond .eq 13, 0, 0, 0, 0), (64, .aload_n 0, 0, 0, 0, 0), (65, .iconst 4, 0, 0, 0, 0), (66, .aload_n 0, 0, 0, 0, 0), (67, .getfield 131, 2, 3, 0, 0),
  (70, .invokevirtual 57, 28, 3, 2, 1), (73, .ireturn, 0, 0, 0, 0), (74, .aload_n 0, 0, 0, 0, 0), (75, .getfield 26, 2, 8, 0, 0), (78, .aload_n 0, 0, 0, 0, 0), (79, .getfield 22, 2, 7, 0, 0),
  (82, .iload_n 1, 0, 0, 0, 0), (83, .iload_n 2, 0, 0, 0, 0), (84, .iconst 1, 0, 0, 0, 0), (85, .invokevirtual 137, 32, 5, 3, 0), (88, .aload_n 0, 0, 0, 0, 0), (89, .dup, 0, 0, 0, 0),
  (90, .getfield 41, 2, 6, 0, 0), (93, .iconst 1, 0, 0, 0, 0), (94, .iadd, 0, 0, 0, 0), (95, .putfield 41, 2, 6, 0, 0), (98, .aload_n 0, 0, 0, 0, 0), (99, .invokevirtual 117, 26, 1, 2, 1),
  (102, .ireturn, 0, 0, 0, 0)]
def tRd_readWall : xTb := ((⟨"FirstFelt$Reader", "readWall", "()Z"⟩, prog_4_method_7_code, 3, (some .boolean)), (0, 0), "FirstFelt$Reader", true, iRd_readWall)
def iRd_readStove : List (Nat × xE) := [(0, .aload_n 0, 0, 0, 0, 0), (1, .invokevirtual 120, 24, 1, 2, 1), (4, .istore_n 1, 0, 0, 0, 0), (5, .iload_n 1, 0, 0, 0, 0), (6, .iconst (-1), 0, 0, 0, 0), (7, .if_icmp .ne 5, 0, 0, 0, 0),
  (10, .iconst 0, 0, 0, 0, 0), (11, .ireturn, 0, 0, 0, 0), (12, .aload_n 0, 0, 0, 0, 0), (13, .iload_n 1, 0, 0, 0, 0), (14, .invokevirtual 141, 20, 2, 2, 1), (17, .ifCond .eq 13, 0, 0, 0, 0),
  (20, .aload_n 0, 0, 0, 0, 0), (21, .iconst 4, 0, 0, 0, 0), (22, .aload_n 0, 0, 0, 0, 0), (23, .getfield 131, 2, 3, 0, 0), (26, .invokevirtual 57, 28, 3, 2, 1), (29, .ireturn, 0, 0, 0, 0),
  (30, .aload_n 0, 0, 0, 0, 0), (31, .iconst 1, 0, 0, 0, 0), (32, .bipush 60, 0, 0, 0, 0), (34, .invokevirtual 95, 25, 3, 2, 1), (37, .istore_n 2, 0, 0, 0, 0), (38, .iload_n 2, 0, 0, 0, 0),
  (39, .iconst (-1), 0, 0, 0, 0), (40, .if_icmp .ne 5, 0, 0, 0, 0), (43, .iconst 0, 0, 0, 0, 0), (44, .ireturn, 0, 0, 0, 0), (45, .aload_n 0, 0, 0, 0, 0), (46, .iconst 0, 0, 0, 0, 0),
  (47, .bipush 99, 0, 0, 0, 0), (49, .invokevirtual 95, 25, 3, 2, 1), (52, .istore_n 3, 0, 0, 0, 0), (53, .iload_n 3, 0, 0, 0, 0), (54, .iconst (-1), 0, 0, 0, 0), (55, .if_icmp .ne 5, 0, 0, 0, 0),
  (58, .iconst 0, 0, 0, 0, 0), (59, .ireturn, 0, 0, 0, 0), (60, .aload_n 0, 0, 0, 0, 0), (61, .getfield 22, 2, 7, 0, 0), (64, .getfield 71, 5, 2, 0, 0), (67, .istore 4, 0, 0, 0, 0),
  (69, .aload_n 0, 0, 0, 0, 0), (70, .getfield 22, 2, 7, 0, 0), (73, .dup, 0, 0, 0, 0), (74, .getfield 71, 5, 2, 0, 0), (77, .iconst 1, 0, 0, 0, 0), (78, .iadd, 0, 0, 0, 0),
  (79, .putfield 71, 5, 2, 0, 0), (82, .aload_n 0, 0, 0, 0, 0), (83, .getfield 22, 2, 7, 0, 0), (86, .getfield 145, 5, 9, 0, 0), (89, .iload 4, 0, 0, 0, 0), (91, .iload_n 1, 0, 0, 0, 0),
  (92, .iastore, 0, 0, 0, 0), (93, .aload_n 0, 0, 0, 0, 0), (94, .getfield 22, 2, 7, 0, 0), (97, .getfield 148, 5, 10, 0, 0), (100, .iload 4, 0, 0, 0, 0), (102, .iload_n 2, 0, 0, 0, 0),
  (103, .iastore, 0, 0, 0, 0), (104, .aload_n 0, 0, 0, 0, 0), (105, .getfield 26, 2, 8, 0, 0), (108, .getfield 151, 3, 5, 0, 0), (111, .iload 4, 0, 0, 0, 0), (113, .iload_n 3, 0, 0, 0, 0),
  (114, .iastore, 0, 0, 0, 0), (115, .aload_n 0, 0, 0, 0, 0), (116, .invokevirtual 117, 26, 1, 2, 1), (119, .ireturn, 0, 0, 0, 0)]
def tRd_readStove : xTb := ((⟨"FirstFelt$Reader", "readStove", "()Z"⟩, prog_4_method_8_code, 5, (some .boolean)), (0, 0), "FirstFelt$Reader", true, iRd_readStove)
def iRd_hasStove : List (Nat × xE) := [(0, .iconst 0, 0, 0, 0, 0), (1, .istore_n 2, 0, 0, 0, 0), (2, .iload_n 2, 0, 0, 0, 0), (3, .aload_n 0, 0, 0, 0, 0), (4, .getfield 22, 2, 7, 0, 0), (7, .getfield 71, 5, 2, 0, 0),
  (10, .if_icmp .ge 24, 0, 0, 0, 0), (13, .aload_n 0, 0, 0, 0, 0), (14, .getfield 22, 2, 7, 0, 0), (17, .getfield 145, 5, 9, 0, 0), (20, .iload_n 2, 0, 0, 0, 0), (21, .iaload, 0, 0, 0, 0),
  (22, .iload_n 1, 0, 0, 0, 0), (23, .if_icmp .ne 5, 0, 0, 0, 0), (26, .iconst 1, 0, 0, 0, 0), (27, .ireturn, 0, 0, 0, 0), (28, .iinc 2 1, 0, 0, 0, 0), (31, .goto (-29), 0, 0, 0, 0),
  (34, .iconst 0, 0, 0, 0, 0), (35, .ireturn, 0, 0, 0, 0)]
def tRd_hasStove : xTb := ((⟨"FirstFelt$Reader", "hasStove", "(I)Z"⟩, prog_4_method_9_code, 3, (some .boolean)), (0, 0), "FirstFelt$Reader", true, iRd_hasStove)
def iRd_readRoof : List (Nat × xE) := [(0, .aload_n 0, 0, 0, 0, 0), (1, .invokevirtual 120, 24, 1, 2, 1), (4, .istore_n 1, 0, 0, 0, 0), (5, .iload_n 1, 0, 0, 0, 0), (6, .iconst (-1), 0, 0, 0, 0), (7, .if_icmp .ne 5, 0, 0, 0, 0),
  (10, .iconst 0, 0, 0, 0, 0), (11, .ireturn, 0, 0, 0, 0), (12, .aload_n 0, 0, 0, 0, 0), (13, .getfield 22, 2, 7, 0, 0), (16, .getfield 154, 5, 7, 0, 0), (19, .iload_n 1, 0, 0, 0, 0),
  (20, .iaload, 0, 0, 0, 0), (21, .ifCond .eq 13, 0, 0, 0, 0), (24, .aload_n 0, 0, 0, 0, 0), (25, .iconst 4, 0, 0, 0, 0), (26, .aload_n 0, 0, 0, 0, 0), (27, .getfield 131, 2, 3, 0, 0),
  (30, .invokevirtual 57, 28, 3, 2, 1), (33, .ireturn, 0, 0, 0, 0), (34, .aload_n 0, 0, 0, 0, 0), (35, .getfield 22, 2, 7, 0, 0), (38, .getfield 154, 5, 7, 0, 0), (41, .iload_n 1, 0, 0, 0, 0),
  (42, .iconst 1, 0, 0, 0, 0), (43, .iastore, 0, 0, 0, 0), (44, .aload_n 0, 0, 0, 0, 0), (45, .getfield 22, 2, 7, 0, 0), (48, .dup, 0, 0, 0, 0), (49, .getfield 77, 5, 3, 0, 0),
  (52, .iconst 1, 0, 0, 0, 0), (53, .iadd, 0, 0, 0, 0), (54, .putfield 77, 5, 3, 0, 0), (57, .aload_n 0, 0, 0, 0, 0), (58, .invokevirtual 117, 26, 1, 2, 1), (61, .ireturn, 0, 0, 0, 0)]
def tRd_readRoof : xTb := ((⟨"FirstFelt$Reader", "readRoof", "()Z"⟩, prog_4_method_10_code, 2, (some .boolean)), (0, 0), "FirstFelt$Reader", true, iRd_readRoof)
def iRd_readSun : List (Nat × xE) := [(0, .iconst 0, 0, 0, 0, 0), (1, .istore_n 1, 0, 0, 0, 0), (2, .iload_n 1, 0, 0, 0, 0), (3, .bipush 8, 0, 0, 0, 0), (5, .if_icmp .ge 96, 0, 0, 0, 0), (8, .aload_n 0, 0, 0, 0, 0),
  (9, .iconst 0, 0, 0, 0, 0), (10, .bipush 30, 0, 0, 0, 0), (12, .invokevirtual 95, 25, 3, 2, 1), (15, .istore_n 2, 0, 0, 0, 0), (16, .iload_n 2, 0, 0, 0, 0), (17, .iconst (-1), 0, 0, 0, 0),
  (18, .if_icmp .ne 5, 0, 0, 0, 0), (21, .iconst 0, 0, 0, 0, 0), (22, .ireturn, 0, 0, 0, 0), (23, .aload_n 0, 0, 0, 0, 0), (24, .getfield 22, 2, 7, 0, 0), (27, .getfield 157, 5, 8, 0, 0),
  (30, .iload_n 1, 0, 0, 0, 0), (31, .iload_n 2, 0, 0, 0, 0), (32, .iastore, 0, 0, 0, 0), (33, .aload_n 0, 0, 0, 0, 0), (34, .getfield 22, 2, 7, 0, 0), (37, .iload_n 1, 0, 0, 0, 0),
  (38, .iconst 1, 0, 0, 0, 0), (39, .iadd, 0, 0, 0, 0), (40, .putfield 83, 5, 4, 0, 0), (43, .aload_n 0, 0, 0, 0, 0), (44, .invokevirtual 47, 27, 1, 2, 0), (47, .iload_n 1, 0, 0, 0, 0),
  (48, .iconst 1, 0, 0, 0, 0), (49, .iadd, 0, 0, 0, 0), (50, .bipush 8, 0, 0, 0, 0), (52, .if_icmp .ge 28, 0, 0, 0, 0), (55, .aload_n 0, 0, 0, 0, 0), (56, .getfield 38, 2, 2, 0, 0),
  (59, .aload_n 0, 0, 0, 0, 0), (60, .getfield 19, 2, 1, 0, 0), (63, .if_icmp .ge 17, 0, 0, 0, 0), (66, .aload_n 0, 0, 0, 0, 0), (67, .getfield 9, 2, 0, 0, 0), (70, .aload_n 0, 0, 0, 0, 0),
  (71, .getfield 38, 2, 2, 0, 0), (74, .iaload, 0, 0, 0, 0), (75, .bipush 44, 0, 0, 0, 0), (77, .if_icmp .eq 8, 0, 0, 0, 0), (80, .aload_n 0, 0, 0, 0, 0), (81, .invokevirtual 117, 26, 1, 2, 1),
  (84, .ireturn, 0, 0, 0, 0), (85, .aload_n 0, 0, 0, 0, 0), (86, .dup, 0, 0, 0, 0), (87, .getfield 38, 2, 2, 0, 0), (90, .iconst 1, 0, 0, 0, 0), (91, .iadd, 0, 0, 0, 0),
  (92, .putfield 38, 2, 2, 0, 0), (95, .iinc 1 1, 0, 0, 0, 0), (98, .goto (-96), 0, 0, 0, 0), (101, .iconst 0, 0, 0, 0, 0), (102, .ireturn, 0, 0, 0, 0)]
def tRd_readSun : xTb := ((⟨"FirstFelt$Reader", "readSun", "()Z"⟩, prog_4_method_11_code, 3, (some .boolean)), (0, 0), "FirstFelt$Reader", true, iRd_readSun)
def iRd_readPerson : List (Nat × xE) := [(0, .aload_n 0, 0, 0, 0, 0), (1, .invokevirtual 120, 24, 1, 2, 1), (4, .istore_n 1, 0, 0, 0, 0), (5, .iload_n 1, 0, 0, 0, 0), (6, .iconst (-1), 0, 0, 0, 0), (7, .if_icmp .ne 5, 0, 0, 0, 0),
  (10, .iconst 0, 0, 0, 0, 0), (11, .ireturn, 0, 0, 0, 0), (12, .aload_n 0, 0, 0, 0, 0), (13, .iconst 0, 0, 0, 0, 0), (14, .sipush 300, 0, 0, 0, 0), (17, .invokevirtual 95, 25, 3, 2, 1),
  (20, .istore_n 2, 0, 0, 0, 0), (21, .iload_n 2, 0, 0, 0, 0), (22, .iconst (-1), 0, 0, 0, 0), (23, .if_icmp .ne 5, 0, 0, 0, 0), (26, .iconst 0, 0, 0, 0, 0), (27, .ireturn, 0, 0, 0, 0),
  (28, .aload_n 0, 0, 0, 0, 0), (29, .iconst 1, 0, 0, 0, 0), (30, .bipush 60, 0, 0, 0, 0), (32, .invokevirtual 95, 25, 3, 2, 1), (35, .istore_n 3, 0, 0, 0, 0), (36, .iload_n 3, 0, 0, 0, 0),
  (37, .iconst (-1), 0, 0, 0, 0), (38, .if_icmp .ne 5, 0, 0, 0, 0), (41, .iconst 0, 0, 0, 0, 0), (42, .ireturn, 0, 0, 0, 0), (43, .aload_n 0, 0, 0, 0, 0), (44, .iconst 0, 0, 0, 0, 0),
  (45, .bipush 9, 0, 0, 0, 0), (47, .invokevirtual 95, 25, 3, 2, 1), (50, .istore 4, 0, 0, 0, 0), (52, .iload 4, 0, 0, 0, 0), (54, .iconst (-1), 0, 0, 0, 0), (55, .if_icmp .ne 5, 0, 0, 0, 0),
  (58, .iconst 0, 0, 0, 0, 0), (59, .ireturn, 0, 0, 0, 0), (60, .aload_n 0, 0, 0, 0, 0), (61, .getfield 22, 2, 7, 0, 0), (64, .getfield 89, 5, 5, 0, 0), (67, .istore 5, 0, 0, 0, 0),
  (69, .aload_n 0, 0, 0, 0, 0), (70, .getfield 22, 2, 7, 0, 0), (73, .dup, 0, 0, 0, 0), (74, .getfield 89, 5, 5, 0, 0), (77, .iconst 1, 0, 0, 0, 0), (78, .iadd, 0, 0, 0, 0),
  (79, .putfield 89, 5, 5, 0, 0), (82, .aload_n 0, 0, 0, 0, 0), (83, .getfield 26, 2, 8, 0, 0), (86, .getfield 160, 3, 7, 0, 0), (89, .iload 5, 0, 0, 0, 0), (91, .iload_n 1, 0, 0, 0, 0),
  (92, .iastore, 0, 0, 0, 0), (93, .aload_n 0, 0, 0, 0, 0), (94, .getfield 26, 2, 8, 0, 0), (97, .getfield 163, 3, 8, 0, 0), (100, .iload 5, 0, 0, 0, 0), (102, .iload_n 2, 0, 0, 0, 0),
  (103, .iastore, 0, 0, 0, 0), (104, .aload_n 0, 0, 0, 0, 0), (105, .getfield 22, 2, 7, 0, 0), (108, .getfield 166, 5, 11, 0, 0), (111, .iload 5, 0, 0, 0, 0), (113, .iload_n 3, 0, 0, 0, 0),
  (114, .iastore, 0, 0, 0, 0), (115, .aload_n 0, 0, 0, 0, 0), (116, .getfield 22, 2, 7, 0, 0), (119, .getfield 169, 5, 12, 0, 0), (122, .iload 5, 0, 0, 0, 0), (124, .iload 4, 0, 0, 0, 0),
  (126, .iastore, 0, 0, 0, 0), (127, .aload_n 0, 0, 0, 0, 0), (128, .invokevirtual 117, 26, 1, 2, 1), (131, .ireturn, 0, 0, 0, 0)]
def tRd_readPerson : xTb := ((⟨"FirstFelt$Reader", "readPerson", "()Z"⟩, prog_4_method_12_code, 6, (some .boolean)), (0, 0), "FirstFelt$Reader", true, iRd_readPerson)
def iRd_readCell : List (Nat × xE) := [(0, .aload_n 0, 0, 0, 0, 0), (1, .iconst 0, 0, 0, 0, 0), (2, .aload_n 0, 0, 0, 0, 0), (3, .getfield 22, 2, 7, 0, 0), (6, .getfield 54, 5, 0, 0, 0), (9, .iconst 1, 0, 0, 0, 0),
  (10, .isub, 0, 0, 0, 0), (11, .invokevirtual 95, 25, 3, 2, 1), (14, .istore_n 1, 0, 0, 0, 0), (15, .iload_n 1, 0, 0, 0, 0), (16, .iconst (-1), 0, 0, 0, 0), (17, .if_icmp .ne 5, 0, 0, 0, 0),
  (20, .iconst (-1), 0, 0, 0, 0), (21, .ireturn, 0, 0, 0, 0), (22, .aload_n 0, 0, 0, 0, 0), (23, .iconst 0, 0, 0, 0, 0), (24, .aload_n 0, 0, 0, 0, 0), (25, .getfield 22, 2, 7, 0, 0),
  (28, .getfield 172, 5, 1, 0, 0), (31, .iconst 1, 0, 0, 0, 0), (32, .isub, 0, 0, 0, 0), (33, .invokevirtual 95, 25, 3, 2, 1), (36, .istore_n 2, 0, 0, 0, 0), (37, .iload_n 2, 0, 0, 0, 0),
  (38, .iconst (-1), 0, 0, 0, 0), (39, .if_icmp .ne 7, 0, 0, 0, 0), (42, .iconst (-1), 0, 0, 0, 0), (43, .goto 12, 0, 0, 0, 0), (46, .aload_n 0, 0, 0, 0, 0), (47, .getfield 22, 2, 7, 0, 0),
  (50, .iload_n 1, 0, 0, 0, 0), (51, .iload_n 2, 0, 0, 0, 0), (52, .invokevirtual 175, 65, 3, 5, 1), (55, .ireturn, 0, 0, 0, 0)]
def tRd_readCell : xTb := ((⟨"FirstFelt$Reader", "readCell", "()I"⟩, prog_4_method_13_code, 3, (some .int)), (0, 0), "FirstFelt$Reader", false, iRd_readCell)
def iRd_readNumber : List (Nat × xE) := [(0, .aload_n 0, 0, 0, 0, 0), (1, .invokevirtual 47, 27, 1, 2, 0), (4, .aload_n 0, 0, 0, 0, 0), (5, .aload_n 0, 0, 0, 0, 0), (6, .getfield 38, 2, 2, 0, 0), (9, .putfield 131, 2, 3, 0, 0),
  (12, .iconst 0, 0, 0, 0, 0), (13, .istore_n 3, 0, 0, 0, 0), (14, .aload_n 0, 0, 0, 0, 0), (15, .getfield 38, 2, 2, 0, 0), (18, .aload_n 0, 0, 0, 0, 0), (19, .getfield 19, 2, 1, 0, 0),
  (22, .if_icmp .ge 68, 0, 0, 0, 0), (25, .aload_n 0, 0, 0, 0, 0), (26, .getfield 9, 2, 0, 0, 0), (29, .aload_n 0, 0, 0, 0, 0), (30, .getfield 38, 2, 2, 0, 0), (33, .iaload, 0, 0, 0, 0),
  (34, .bipush 48, 0, 0, 0, 0), (36, .if_icmp .lt 54, 0, 0, 0, 0), (39, .aload_n 0, 0, 0, 0, 0), (40, .getfield 9, 2, 0, 0, 0), (43, .aload_n 0, 0, 0, 0, 0), (44, .getfield 38, 2, 2, 0, 0),
  (47, .iaload, 0, 0, 0, 0), (48, .bipush 57, 0, 0, 0, 0), (50, .if_icmp .gt 40, 0, 0, 0, 0), (53, .sipush 1000, 0, 0, 0, 0), (56, .iload_n 3, 0, 0, 0, 0), (57, .bipush 10, 0, 0, 0, 0),
  (59, .imul, 0, 0, 0, 0), (60, .aload_n 0, 0, 0, 0, 0), (61, .getfield 9, 2, 0, 0, 0), (64, .aload_n 0, 0, 0, 0, 0), (65, .getfield 38, 2, 2, 0, 0), (68, .iaload, 0, 0, 0, 0),
  (69, .iadd, 0, 0, 0, 0), (70, .bipush 48, 0, 0, 0, 0), (72, .isub, 0, 0, 0, 0), (73, .invokestatic 99, 209, 2, 0, 1), (76, .istore_n 3, 0, 0, 0, 0), (77, .aload_n 0, 0, 0, 0, 0),
  (78, .dup, 0, 0, 0, 0), (79, .getfield 38, 2, 2, 0, 0), (82, .iconst 1, 0, 0, 0, 0), (83, .iadd, 0, 0, 0, 0), (84, .putfield 38, 2, 2, 0, 0), (87, .goto (-73), 0, 0, 0, 0),
  (90, .aload_n 0, 0, 0, 0, 0), (91, .getfield 38, 2, 2, 0, 0), (94, .aload_n 0, 0, 0, 0, 0), (95, .getfield 131, 2, 3, 0, 0), (98, .isub, 0, 0, 0, 0), (99, .istore 4, 0, 0, 0, 0),
  (101, .iload 4, 0, 0, 0, 0), (103, .ifCond .ne 15, 0, 0, 0, 0), (106, .aload_n 0, 0, 0, 0, 0), (107, .iconst 1, 0, 0, 0, 0), (108, .aload_n 0, 0, 0, 0, 0), (109, .getfield 131, 2, 3, 0, 0),
  (112, .invokevirtual 57, 28, 3, 2, 1), (115, .pop, 0, 0, 0, 0), (116, .iconst (-1), 0, 0, 0, 0), (117, .ireturn, 0, 0, 0, 0), (118, .iload 4, 0, 0, 0, 0), (120, .iconst 3, 0, 0, 0, 0),
  (121, .if_icmp .gt 13, 0, 0, 0, 0), (124, .iload_n 3, 0, 0, 0, 0), (125, .iload_n 1, 0, 0, 0, 0), (126, .if_icmp .lt 8, 0, 0, 0, 0), (129, .iload_n 3, 0, 0, 0, 0), (130, .iload_n 2, 0, 0, 0, 0),
  (131, .if_icmp .le 15, 0, 0, 0, 0), (134, .aload_n 0, 0, 0, 0, 0), (135, .iconst 2, 0, 0, 0, 0), (136, .aload_n 0, 0, 0, 0, 0), (137, .getfield 131, 2, 3, 0, 0), (140, .invokevirtual 57, 28, 3, 2, 1),
  (143, .pop, 0, 0, 0, 0), (144, .iconst (-1), 0, 0, 0, 0), (145, .ireturn, 0, 0, 0, 0), (146, .iload_n 3, 0, 0, 0, 0), (147, .ireturn, 0, 0, 0, 0)]
def tRd_readNumber : xTb := ((⟨"FirstFelt$Reader", "readNumber", "(II)I"⟩, prog_4_method_14_code, 5, (some .int)), (0, 0), "FirstFelt$Reader", false, iRd_readNumber)
def iRd_endClause : List (Nat × xE) := [(0, .aload_n 0, 0, 0, 0, 0), (1, .invokevirtual 47, 27, 1, 2, 0), (4, .aload_n 0, 0, 0, 0, 0), (5, .getfield 38, 2, 2, 0, 0), (8, .aload_n 0, 0, 0, 0, 0), (9, .getfield 19, 2, 1, 0, 0),
  (12, .if_icmp .ge 17, 0, 0, 0, 0), (15, .aload_n 0, 0, 0, 0, 0), (16, .getfield 9, 2, 0, 0, 0), (19, .aload_n 0, 0, 0, 0, 0), (20, .getfield 38, 2, 2, 0, 0), (23, .iaload, 0, 0, 0, 0),
  (24, .bipush 59, 0, 0, 0, 0), (26, .if_icmp .eq 13, 0, 0, 0, 0), (29, .aload_n 0, 0, 0, 0, 0), (30, .iconst 1, 0, 0, 0, 0), (31, .aload_n 0, 0, 0, 0, 0), (32, .getfield 38, 2, 2, 0, 0),
  (35, .invokevirtual 57, 28, 3, 2, 1), (38, .ireturn, 0, 0, 0, 0), (39, .aload_n 0, 0, 0, 0, 0), (40, .dup, 0, 0, 0, 0), (41, .getfield 38, 2, 2, 0, 0), (44, .iconst 1, 0, 0, 0, 0),
  (45, .iadd, 0, 0, 0, 0), (46, .putfield 38, 2, 2, 0, 0), (49, .iconst 1, 0, 0, 0, 0), (50, .ireturn, 0, 0, 0, 0)]
def tRd_endClause : xTb := ((⟨"FirstFelt$Reader", "endClause", "()Z"⟩, prog_4_method_15_code, 1, (some .boolean)), (0, 0), "FirstFelt$Reader", true, iRd_endClause)
def iRd_skipBlanks : List (Nat × xE) := [(0, .aload_n 0, 0, 0, 0, 0), (1, .getfield 38, 2, 2, 0, 0), (4, .aload_n 0, 0, 0, 0, 0), (5, .getfield 19, 2, 1, 0, 0), (8, .if_icmp .ge 30, 0, 0, 0, 0), (11, .aload_n 0, 0, 0, 0, 0),
  (12, .getfield 9, 2, 0, 0, 0), (15, .aload_n 0, 0, 0, 0, 0), (16, .getfield 38, 2, 2, 0, 0), (19, .iaload, 0, 0, 0, 0), (20, .bipush 32, 0, 0, 0, 0), (22, .if_icmp .ne 16, 0, 0, 0, 0),
  (25, .aload_n 0, 0, 0, 0, 0), (26, .dup, 0, 0, 0, 0), (27, .getfield 38, 2, 2, 0, 0), (30, .iconst 1, 0, 0, 0, 0), (31, .iadd, 0, 0, 0, 0), (32, .putfield 38, 2, 2, 0, 0),
  (35, .goto (-35), 0, 0, 0, 0), (38, .return_, 0, 0, 0, 0)]
def tRd_skipBlanks : xTb := ((⟨"FirstFelt$Reader", "skipBlanks", "()V"⟩, prog_4_method_16_code, 1, none), (0, 0), "FirstFelt$Reader", false, iRd_skipBlanks)
def iRd_fail : List (Nat × xE) := [(0, .aload_n 0, 0, 0, 0, 0), (1, .iload_n 1, 0, 0, 0, 0), (2, .putfield 44, 2, 4, 0, 0), (5, .aload_n 0, 0, 0, 0, 0), (6, .iload_n 2, 0, 0, 0, 0), (7, .putfield 15, 2, 5, 0, 0),
  (10, .iconst 0, 0, 0, 0, 0), (11, .ireturn, 0, 0, 0, 0)]
def tRd_fail : xTb := ((⟨"FirstFelt$Reader", "fail", "(II)Z"⟩, prog_4_method_17_code, 3, (some .boolean)), (0, 0), "FirstFelt$Reader", true, iRd_fail)
def iSt_init : List (Nat × xE) := [(0, .aload_n 0, 0, 0, 0, 0), (1, .invokespecial 3, 0, 1, 0, 3), (4, .aload_n 0, 0, 0, 0, 0), (5, .bipush 20, 0, 0, 0, 0), (7, .newarray .int, 0, 0, 0, 0), (9, .putfield 9, 3, 0, 0, 0),
  (12, .aload_n 0, 0, 0, 0, 0), (13, .bipush 20, 0, 0, 0, 0), (15, .newarray .int, 0, 0, 0, 0), (17, .putfield 15, 3, 1, 0, 0), (20, .aload_n 0, 0, 0, 0, 0), (21, .bipush 20, 0, 0, 0, 0),
  (23, .newarray .int, 0, 0, 0, 0), (25, .putfield 18, 3, 2, 0, 0), (28, .aload_n 0, 0, 0, 0, 0), (29, .bipush 20, 0, 0, 0, 0), (31, .newarray .int, 0, 0, 0, 0), (33, .putfield 21, 3, 3, 0, 0),
  (36, .aload_n 0, 0, 0, 0, 0), (37, .bipush 20, 0, 0, 0, 0), (39, .newarray .int, 0, 0, 0, 0), (41, .putfield 24, 3, 4, 0, 0), (44, .aload_n 0, 0, 0, 0, 0), (45, .iconst 4, 0, 0, 0, 0),
  (46, .newarray .int, 0, 0, 0, 0), (48, .putfield 27, 3, 5, 0, 0), (51, .aload_n 0, 0, 0, 0, 0), (52, .iconst 4, 0, 0, 0, 0), (53, .newarray .int, 0, 0, 0, 0), (55, .putfield 30, 3, 6, 0, 0),
  (58, .aload_n 0, 0, 0, 0, 0), (59, .bipush 6, 0, 0, 0, 0), (61, .newarray .int, 0, 0, 0, 0), (63, .putfield 33, 3, 7, 0, 0), (66, .aload_n 0, 0, 0, 0, 0), (67, .bipush 6, 0, 0, 0, 0),
  (69, .newarray .int, 0, 0, 0, 0), (71, .putfield 36, 3, 8, 0, 0), (74, .aload_n 0, 0, 0, 0, 0), (75, .bipush 6, 0, 0, 0, 0), (77, .newarray .int, 0, 0, 0, 0), (79, .putfield 39, 3, 9, 0, 0),
  (82, .aload_n 0, 0, 0, 0, 0), (83, .bipush 6, 0, 0, 0, 0), (85, .newarray .int, 0, 0, 0, 0), (87, .putfield 42, 3, 10, 0, 0), (90, .aload_n 0, 0, 0, 0, 0), (91, .bipush 6, 0, 0, 0, 0),
  (93, .newarray .int, 0, 0, 0, 0), (95, .putfield 45, 3, 11, 0, 0), (98, .aload_n 0, 0, 0, 0, 0), (99, .iconst 3, 0, 0, 0, 0), (100, .putfield 48, 3, 15, 0, 0), (103, .return_, 0, 0, 0, 0)]
def tSt_init : xTb := ((⟨"FirstFelt$State", "<init>", "()V"⟩, prog_5_method_1_code, 1, none), (12, 138), "FirstFelt$State", false, iSt_init)
def iSt_clear : List (Nat × xE) := [(0, .aload_n 0, 0, 0, 0, 0), (1, .getfield 18, 3, 2, 0, 0), (4, .iconst (-1), 0, 0, 0, 0), (5, .invokestatic 52, 210, 2, 0, 0), (8, .aload_n 0, 0, 0, 0, 0), (9, .getfield 21, 3, 3, 0, 0),
  (12, .iconst 0, 0, 0, 0, 0), (13, .invokestatic 52, 210, 2, 0, 0), (16, .aload_n 0, 0, 0, 0, 0), (17, .getfield 24, 3, 4, 0, 0), (20, .iconst 0, 0, 0, 0, 0), (21, .invokestatic 52, 210, 2, 0, 0),
  (24, .aload_n 0, 0, 0, 0, 0), (25, .getfield 30, 3, 6, 0, 0), (28, .iconst 0, 0, 0, 0, 0), (29, .invokestatic 52, 210, 2, 0, 0), (32, .aload_n 0, 0, 0, 0, 0), (33, .getfield 39, 3, 9, 0, 0),
  (36, .iconst 0, 0, 0, 0, 0), (37, .invokestatic 52, 210, 2, 0, 0), (40, .aload_n 0, 0, 0, 0, 0), (41, .getfield 42, 3, 10, 0, 0), (44, .iconst 0, 0, 0, 0, 0), (45, .invokestatic 52, 210, 2, 0, 0),
  (48, .aload_n 0, 0, 0, 0, 0), (49, .getfield 45, 3, 11, 0, 0), (52, .iconst 0, 0, 0, 0, 0), (53, .invokestatic 52, 210, 2, 0, 0), (56, .aload_n 0, 0, 0, 0, 0), (57, .iconst 0, 0, 0, 0, 0),
  (58, .putfield 58, 3, 13, 0, 0), (61, .aload_n 0, 0, 0, 0, 0), (62, .iconst 0, 0, 0, 0, 0), (63, .putfield 61, 3, 14, 0, 0), (66, .aload_n 0, 0, 0, 0, 0), (67, .iconst 3, 0, 0, 0, 0),
  (68, .putfield 48, 3, 15, 0, 0), (71, .aload_n 0, 0, 0, 0, 0), (72, .iconst 0, 0, 0, 0, 0), (73, .putfield 64, 3, 16, 0, 0), (76, .return_, 0, 0, 0, 0)]
def tSt_clear : xTb := ((⟨"FirstFelt$State", "clear", "()V"⟩, prog_5_method_2_code, 1, none), (0, 0), "FirstFelt$State", false, iSt_clear)
def iSt_copyFrom : List (Nat × xE) := [(0, .aload_n 1, 0, 0, 0, 0), (1, .getfield 9, 3, 0, 0, 0), (4, .iconst 0, 0, 0, 0, 0), (5, .aload_n 0, 0, 0, 0, 0), (6, .getfield 9, 3, 0, 0, 0), (9, .iconst 0, 0, 0, 0, 0),
  (10, .bipush 20, 0, 0, 0, 0), (12, .invokestatic 67, 0, 5, 0, 4), (15, .aload_n 1, 0, 0, 0, 0), (16, .getfield 18, 3, 2, 0, 0), (19, .iconst 0, 0, 0, 0, 0), (20, .aload_n 0, 0, 0, 0, 0),
  (21, .getfield 18, 3, 2, 0, 0), (24, .iconst 0, 0, 0, 0, 0), (25, .bipush 20, 0, 0, 0, 0), (27, .invokestatic 67, 0, 5, 0, 4), (30, .aload_n 1, 0, 0, 0, 0), (31, .getfield 21, 3, 3, 0, 0),
  (34, .iconst 0, 0, 0, 0, 0), (35, .aload_n 0, 0, 0, 0, 0), (36, .getfield 21, 3, 3, 0, 0), (39, .iconst 0, 0, 0, 0, 0), (40, .bipush 20, 0, 0, 0, 0), (42, .invokestatic 67, 0, 5, 0, 4),
  (45, .aload_n 1, 0, 0, 0, 0), (46, .getfield 24, 3, 4, 0, 0), (49, .iconst 0, 0, 0, 0, 0), (50, .aload_n 0, 0, 0, 0, 0), (51, .getfield 24, 3, 4, 0, 0), (54, .iconst 0, 0, 0, 0, 0),
  (55, .bipush 20, 0, 0, 0, 0), (57, .invokestatic 67, 0, 5, 0, 4), (60, .aload_n 1, 0, 0, 0, 0), (61, .getfield 27, 3, 5, 0, 0), (64, .iconst 0, 0, 0, 0, 0), (65, .aload_n 0, 0, 0, 0, 0),
  (66, .getfield 27, 3, 5, 0, 0), (69, .iconst 0, 0, 0, 0, 0), (70, .iconst 4, 0, 0, 0, 0), (71, .invokestatic 67, 0, 5, 0, 4), (74, .aload_n 1, 0, 0, 0, 0), (75, .getfield 30, 3, 6, 0, 0),
  (78, .iconst 0, 0, 0, 0, 0), (79, .aload_n 0, 0, 0, 0, 0), (80, .getfield 30, 3, 6, 0, 0), (83, .iconst 0, 0, 0, 0, 0), (84, .iconst 4, 0, 0, 0, 0), (85, .invokestatic 67, 0, 5, 0, 4),
  (88, .aload_n 1, 0, 0, 0, 0), (89, .getfield 33, 3, 7, 0, 0), (92, .iconst 0, 0, 0, 0, 0), (93, .aload_n 0, 0, 0, 0, 0), (94, .getfield 33, 3, 7, 0, 0), (97, .iconst 0, 0, 0, 0, 0),
  (98, .bipush 6, 0, 0, 0, 0), (100, .invokestatic 67, 0, 5, 0, 4), (103, .aload_n 1, 0, 0, 0, 0), (104, .getfield 36, 3, 8, 0, 0), (107, .iconst 0, 0, 0, 0, 0), (108, .aload_n 0, 0, 0, 0, 0),
  (109, .getfield 36, 3, 8, 0, 0), (112, .iconst 0, 0, 0, 0, 0), (113, .bipush 6, 0, 0, 0, 0), (115, .invokestatic 67, 0, 5, 0, 4), (118, .aload_n 1, 0, 0, 0, 0), (119, .getfield 39, 3, 9, 0, 0),
  (122, .iconst 0, 0, 0, 0, 0), (123, .aload_n 0, 0, 0, 0, 0), (124, .getfield 39, 3, 9, 0, 0), (127, .iconst 0, 0, 0, 0, 0), (128, .bipush 6, 0, 0, 0, 0), (130, .invokestatic 67, 0, 5, 0, 4),
  (133, .aload_n 1, 0, 0, 0, 0), (134, .getfield 42, 3, 10, 0, 0), (137, .iconst 0, 0, 0, 0, 0), (138, .aload_n 0, 0, 0, 0, 0), (139, .getfield 42, 3, 10, 0, 0), (142, .iconst 0, 0, 0, 0, 0),
  (143, .bipush 6, 0, 0, 0, 0), (145, .invokestatic 67, 0, 5, 0, 4), (148, .aload_n 1, 0, 0, 0, 0), (149, .getfield 45, 3, 11, 0, 0), (152, .iconst 0, 0, 0, 0, 0), (153, .aload_n 0, 0, 0, 0, 0),
  (154, .getfield 45, 3, 11, 0, 0), (157, .iconst 0, 0, 0, 0, 0), (158, .bipush 6, 0, 0, 0, 0), (160, .invokestatic 67, 0, 5, 0, 4), (163, .aload_n 0, 0, 0, 0, 0), (164, .aload_n 1, 0, 0, 0, 0),
  (165, .getfield 58, 3, 13, 0, 0), (168, .putfield 58, 3, 13, 0, 0), (171, .aload_n 0, 0, 0, 0, 0), (172, .aload_n 1, 0, 0, 0, 0), (173, .getfield 61, 3, 14, 0, 0), (176, .putfield 61, 3, 14, 0, 0),
  (179, .aload_n 0, 0, 0, 0, 0), (180, .aload_n 1, 0, 0, 0, 0), (181, .getfield 48, 3, 15, 0, 0), (184, .putfield 48, 3, 15, 0, 0), (187, .aload_n 0, 0, 0, 0, 0), (188, .aload_n 1, 0, 0, 0, 0),
  (189, .getfield 64, 3, 16, 0, 0), (192, .putfield 64, 3, 16, 0, 0), (195, .aload_n 0, 0, 0, 0, 0), (196, .aload_n 1, 0, 0, 0, 0), (197, .getfield 73, 3, 17, 0, 0), (200, .putfield 73, 3, 17, 0, 0),
  (203, .return_, 0, 0, 0, 0)]
def tSt_copyFrom : xTb := ((⟨"FirstFelt$State", "copyFrom", "(LFirstFelt$State;)V"⟩, prog_5_method_3_code, 2, none), (0, 0), "FirstFelt$State", false, iSt_copyFrom)
def iSt_setWall : List (Nat × xE) := [(0, .iload_n 3, 0, 0, 0, 0), (1, .invokestatic 76, 110, 1, 6, 1), (4, .istore 5, 0, 0, 0, 0), (6, .aload_n 1, 0, 0, 0, 0), (7, .iload_n 2, 0, 0, 0, 0), (8, .iload 5, 0, 0, 0, 0),
  (10, .invokevirtual 80, 68, 3, 5, 1), (13, .istore 6, 0, 0, 0, 0), (15, .iload 6, 0, 0, 0, 0), (17, .iconst (-1), 0, 0, 0, 0), (18, .if_icmp .ne 4, 0, 0, 0, 0), (21, .return_, 0, 0, 0, 0),
  (22, .iload 5, 0, 0, 0, 0), (24, .iconst 2, 0, 0, 0, 0), (25, .if_icmp .ne 7, 0, 0, 0, 0), (28, .iconst 4, 0, 0, 0, 0), (29, .goto 4, 0, 0, 0, 0), (32, .iconst 1, 0, 0, 0, 0),
  (33, .istore 7, 0, 0, 0, 0), (35, .aload_n 0, 0, 0, 0, 0), (36, .getfield 24, 3, 4, 0, 0), (39, .iload_n 2, 0, 0, 0, 0), (40, .iload 4, 0, 0, 0, 0), (42, .ifCond .eq 17, 0, 0, 0, 0),
  (45, .aload_n 0, 0, 0, 0, 0), (46, .getfield 24, 3, 4, 0, 0), (49, .iload_n 2, 0, 0, 0, 0), (50, .iaload, 0, 0, 0, 0), (51, .iconst 1, 0, 0, 0, 0), (52, .iload 5, 0, 0, 0, 0),
  (54, .ishl, 0, 0, 0, 0), (55, .ior, 0, 0, 0, 0), (56, .goto 16, 0, 0, 0, 0), (59, .aload_n 0, 0, 0, 0, 0), (60, .getfield 24, 3, 4, 0, 0), (63, .iload_n 2, 0, 0, 0, 0),
  (64, .iaload, 0, 0, 0, 0), (65, .iconst 1, 0, 0, 0, 0), (66, .iload 5, 0, 0, 0, 0), (68, .ishl, 0, 0, 0, 0), (69, .iconst (-1), 0, 0, 0, 0), (70, .ixor, 0, 0, 0, 0),
  (71, .iand, 0, 0, 0, 0), (72, .iastore, 0, 0, 0, 0), (73, .aload_n 0, 0, 0, 0, 0), (74, .getfield 24, 3, 4, 0, 0), (77, .iload 6, 0, 0, 0, 0), (79, .iload 4, 0, 0, 0, 0),
  (81, .ifCond .eq 18, 0, 0, 0, 0), (84, .aload_n 0, 0, 0, 0, 0), (85, .getfield 24, 3, 4, 0, 0), (88, .iload 6, 0, 0, 0, 0), (90, .iaload, 0, 0, 0, 0), (91, .iconst 1, 0, 0, 0, 0),
  (92, .iload 7, 0, 0, 0, 0), (94, .ishl, 0, 0, 0, 0), (95, .ior, 0, 0, 0, 0), (96, .goto 17, 0, 0, 0, 0), (99, .aload_n 0, 0, 0, 0, 0), (100, .getfield 24, 3, 4, 0, 0),
  (103, .iload 6, 0, 0, 0, 0), (105, .iaload, 0, 0, 0, 0), (106, .iconst 1, 0, 0, 0, 0), (107, .iload 7, 0, 0, 0, 0), (109, .ishl, 0, 0, 0, 0), (110, .iconst (-1), 0, 0, 0, 0),
  (111, .ixor, 0, 0, 0, 0), (112, .iand, 0, 0, 0, 0), (113, .iastore, 0, 0, 0, 0), (114, .return_, 0, 0, 0, 0)]
def tSt_setWall : xTb := ((⟨"FirstFelt$State", "setWall", "(LFirstFelt$Town;IIZ)V"⟩, prog_5_method_4_code, 8, none), (0, 0), "FirstFelt$State", false, iSt_setWall)
def iSt_wallOf : List (Nat × xE) := [(0, .aload_n 0, 0, 0, 0, 0), (1, .getfield 24, 3, 4, 0, 0), (4, .iload_n 1, 0, 0, 0, 0), (5, .iaload, 0, 0, 0, 0), (6, .iload_n 2, 0, 0, 0, 0), (7, .invokestatic 76, 110, 1, 6, 1),
  (10, .ishr, 0, 0, 0, 0), (11, .iconst 1, 0, 0, 0, 0), (12, .iand, 0, 0, 0, 0), (13, .ireturn, 0, 0, 0, 0)]
def tSt_wallOf : xTb := ((⟨"FirstFelt$State", "wallOf", "(II)I"⟩, prog_5_method_5_code, 3, (some .int)), (0, 0), "FirstFelt$State", false, iSt_wallOf)
def iSt_countWalls : List (Nat × xE) := [(0, .iconst 0, 0, 0, 0, 0), (1, .istore_n 2, 0, 0, 0, 0), (2, .iconst 0, 0, 0, 0, 0), (3, .istore_n 3, 0, 0, 0, 0), (4, .iload_n 3, 0, 0, 0, 0), (5, .aload_n 1, 0, 0, 0, 0),
  (6, .invokevirtual 86, 64, 1, 5, 1), (9, .if_icmp .ge 25, 0, 0, 0, 0), (12, .iload_n 2, 0, 0, 0, 0), (13, .aload_n 0, 0, 0, 0, 0), (14, .iload_n 3, 0, 0, 0, 0), (15, .iconst 0, 0, 0, 0, 0),
  (16, .invokevirtual 90, 33, 3, 3, 1), (19, .aload_n 0, 0, 0, 0, 0), (20, .iload_n 3, 0, 0, 0, 0), (21, .iconst 1, 0, 0, 0, 0), (22, .invokevirtual 90, 33, 3, 3, 1), (25, .iadd, 0, 0, 0, 0),
  (26, .iadd, 0, 0, 0, 0), (27, .istore_n 2, 0, 0, 0, 0), (28, .iinc 3 1, 0, 0, 0, 0), (31, .goto (-27), 0, 0, 0, 0), (34, .iload_n 2, 0, 0, 0, 0), (35, .ireturn, 0, 0, 0, 0)]
def tSt_countWalls : xTb := ((⟨"FirstFelt$State", "countWalls", "(LFirstFelt$Town;)I"⟩, prog_5_method_6_code, 4, (some .int)), (0, 0), "FirstFelt$State", false, iSt_countWalls)
def iSt_reach : List (Nat × xE) := [(0, .aload_n 0, 0, 0, 0, 0), (1, .getfield 24, 3, 4, 0, 0), (4, .iload_n 2, 0, 0, 0, 0), (5, .iaload, 0, 0, 0, 0), (6, .iload_n 3, 0, 0, 0, 0), (7, .ishr, 0, 0, 0, 0),
  (8, .iconst 1, 0, 0, 0, 0), (9, .iand, 0, 0, 0, 0), (10, .ifCond .eq 7, 0, 0, 0, 0), (13, .iconst (-1), 0, 0, 0, 0), (14, .goto 13, 0, 0, 0, 0), (17, .aload_n 1, 0, 0, 0, 0),
  (18, .getfield 93, 5, 6, 0, 0), (21, .iload_n 2, 0, 0, 0, 0), (22, .iconst 5, 0, 0, 0, 0), (23, .imul, 0, 0, 0, 0), (24, .iload_n 3, 0, 0, 0, 0), (25, .iadd, 0, 0, 0, 0),
  (26, .iaload, 0, 0, 0, 0), (27, .ireturn, 0, 0, 0, 0)]
def tSt_reach : xTb := ((⟨"FirstFelt$State", "reach", "(LFirstFelt$Town;II)I"⟩, prog_5_method_7_code, 4, (some .int)), (0, 0), "FirstFelt$State", false, iSt_reach)
def iSt_peopleOn : List (Nat × xE) := [(0, .iconst 0, 0, 0, 0, 0), (1, .istore_n 3, 0, 0, 0, 0), (2, .iconst 0, 0, 0, 0, 0), (3, .istore 4, 0, 0, 0, 0), (5, .iload 4, 0, 0, 0, 0), (7, .aload_n 1, 0, 0, 0, 0),
  (8, .getfield 96, 5, 5, 0, 0), (11, .if_icmp .ge 27, 0, 0, 0, 0), (14, .aload_n 0, 0, 0, 0, 0), (15, .getfield 33, 3, 7, 0, 0), (18, .iload 4, 0, 0, 0, 0), (20, .iaload, 0, 0, 0, 0),
  (21, .iload_n 2, 0, 0, 0, 0), (22, .if_icmp .ne 10, 0, 0, 0, 0), (25, .iload_n 3, 0, 0, 0, 0), (26, .iconst 1, 0, 0, 0, 0), (27, .iload 4, 0, 0, 0, 0), (29, .ishl, 0, 0, 0, 0),
  (30, .ior, 0, 0, 0, 0), (31, .istore_n 3, 0, 0, 0, 0), (32, .iinc 4 1, 0, 0, 0, 0), (35, .goto (-30), 0, 0, 0, 0), (38, .iload_n 3, 0, 0, 0, 0), (39, .ireturn, 0, 0, 0, 0)]
def tSt_peopleOn : xTb := ((⟨"FirstFelt$State", "peopleOn", "(LFirstFelt$Town;I)I"⟩, prog_5_method_8_code, 5, (some .int)), (0, 0), "FirstFelt$State", false, iSt_peopleOn)
def iSt_countOwned : List (Nat × xE) := [(0, .iconst 0, 0, 0, 0, 0), (1, .istore_n 3, 0, 0, 0, 0), (2, .aload_n 1, 0, 0, 0, 0), (3, .invokevirtual 86, 64, 1, 5, 1), (6, .istore 4, 0, 0, 0, 0), (8, .iconst 0, 0, 0, 0, 0),
  (9, .istore 5, 0, 0, 0, 0), (11, .iload 5, 0, 0, 0, 0), (13, .iload 4, 0, 0, 0, 0), (15, .if_icmp .ge 23, 0, 0, 0, 0), (18, .aload_n 0, 0, 0, 0, 0), (19, .getfield 18, 3, 2, 0, 0),
  (22, .iload 5, 0, 0, 0, 0), (24, .iaload, 0, 0, 0, 0), (25, .iload_n 2, 0, 0, 0, 0), (26, .if_icmp .ne 6, 0, 0, 0, 0), (29, .iinc 3 1, 0, 0, 0, 0), (32, .iinc 5 1, 0, 0, 0, 0),
  (35, .goto (-24), 0, 0, 0, 0), (38, .iload_n 3, 0, 0, 0, 0), (39, .ireturn, 0, 0, 0, 0)]
def tSt_countOwned : xTb := ((⟨"FirstFelt$State", "countOwned", "(LFirstFelt$Town;I)I"⟩, prog_5_method_9_code, 6, (some .int)), (0, 0), "FirstFelt$State", false, iSt_countOwned)
def iSt_canBeLit : List (Nat × xE) := [(0, .aload_n 0, 0, 0, 0, 0), (1, .getfield 30, 3, 6, 0, 0), (4, .iload_n 1, 0, 0, 0, 0), (5, .iaload, 0, 0, 0, 0), (6, .ifCond .ne 16, 0, 0, 0, 0), (9, .aload_n 0, 0, 0, 0, 0),
  (10, .getfield 27, 3, 5, 0, 0), (13, .iload_n 1, 0, 0, 0, 0), (14, .iaload, 0, 0, 0, 0), (15, .ifCond .le 7, 0, 0, 0, 0), (18, .iconst 1, 0, 0, 0, 0), (19, .goto 4, 0, 0, 0, 0),
  (22, .iconst 0, 0, 0, 0, 0), (23, .ireturn, 0, 0, 0, 0)]
def tSt_canBeLit : xTb := ((⟨"FirstFelt$State", "canBeLit", "(I)Z"⟩, prog_5_method_10_code, 2, (some .boolean)), (0, 0), "FirstFelt$State", true, iSt_canBeLit)
def iSt_feels : List (Nat × xE) := [(0, .aload_n 0, 0, 0, 0, 0), (1, .getfield 99, 3, 12, 0, 0), (4, .iload_n 1, 0, 0, 0, 0), (5, .ishr, 0, 0, 0, 0), (6, .iconst 1, 0, 0, 0, 0), (7, .iand, 0, 0, 0, 0),
  (8, .ifCond .eq 7, 0, 0, 0, 0), (11, .iconst 1, 0, 0, 0, 0), (12, .goto 4, 0, 0, 0, 0), (15, .iconst 0, 0, 0, 0, 0), (16, .ireturn, 0, 0, 0, 0)]
def tSt_feels : xTb := ((⟨"FirstFelt$State", "feels", "(I)Z"⟩, prog_5_method_11_code, 2, (some .boolean)), (0, 0), "FirstFelt$State", true, iSt_feels)
def iSt_draw : List (Nat × xE) := [(0, .aload_n 0, 0, 0, 0, 0), (1, .aload_n 0, 0, 0, 0, 0), (2, .getfield 73, 3, 17, 0, 0), (5, .i2l, 0, 0, 0, 0), (6, .ldc2_w 102, 0, 0, 0, 1103515245), (9, .lmul, 0, 0, 0, 0),
  (10, .ldc2_w 104, 0, 0, 0, 12345), (13, .ladd, 0, 0, 0, 0), (14, .ldc2_w 106, 0, 0, 0, 2147483647), (17, .land, 0, 0, 0, 0), (18, .l2i, 0, 0, 0, 0), (19, .putfield 73, 3, 17, 0, 0),
  (22, .iload_n 1, 0, 0, 0, 0), (23, .iconst 1, 0, 0, 0, 0), (24, .if_icmp .ge 7, 0, 0, 0, 0), (27, .iconst 0, 0, 0, 0, 0), (28, .goto 12, 0, 0, 0, 0), (31, .aload_n 0, 0, 0, 0, 0),
  (32, .getfield 73, 3, 17, 0, 0), (35, .ldc 108, 0, 0, 0, 65536), (37, .idiv, 0, 0, 0, 0), (38, .iload_n 1, 0, 0, 0, 0), (39, .irem, 0, 0, 0, 0), (40, .ireturn, 0, 0, 0, 0)]
def tSt_draw : xTb := ((⟨"FirstFelt$State", "draw", "(I)I"⟩, prog_5_method_12_code, 2, (some .int)), (0, 0), "FirstFelt$State", false, iSt_draw)
def iSt_passMinutes : List (Nat × xE) := [(0, .iconst 0, 0, 0, 0, 0), (1, .istore 4, 0, 0, 0, 0), (3, .iload 4, 0, 0, 0, 0), (5, .iload_n 2, 0, 0, 0, 0), (6, .if_icmp .ge 15, 0, 0, 0, 0), (9, .aload_n 0, 0, 0, 0, 0),
  (10, .aload_n 1, 0, 0, 0, 0), (11, .iload_n 3, 0, 0, 0, 0), (12, .invokevirtual 109, 42, 3, 3, 0), (15, .iinc 4 1, 0, 0, 0, 0), (18, .goto (-15), 0, 0, 0, 0), (21, .return_, 0, 0, 0, 0)]
def tSt_passMinutes : xTb := ((⟨"FirstFelt$State", "passMinutes", "(LFirstFelt$Town;II)V"⟩, prog_5_method_13_code, 5, none), (0, 0), "FirstFelt$State", false, iSt_passMinutes)
def iSt_passMinute : List (Nat × xE) := [(0, .aload_n 0, 0, 0, 0, 0), (1, .aload_n 1, 0, 0, 0, 0), (2, .invokevirtual 113, 43, 2, 3, 0), (5, .aload_n 0, 0, 0, 0, 0), (6, .aload_n 1, 0, 0, 0, 0), (7, .invokevirtual 117, 45, 2, 3, 0),
  (10, .aload_n 0, 0, 0, 0, 0), (11, .aload_n 1, 0, 0, 0, 0), (12, .invokevirtual 120, 46, 2, 3, 0), (15, .aload_n 0, 0, 0, 0, 0), (16, .aload_n 1, 0, 0, 0, 0), (17, .iload_n 2, 0, 0, 0, 0),
  (18, .invokevirtual 123, 47, 3, 3, 0), (21, .aload_n 0, 0, 0, 0, 0), (22, .aload_n 1, 0, 0, 0, 0), (23, .invokevirtual 126, 48, 2, 3, 0), (26, .aload_n 0, 0, 0, 0, 0), (27, .aload_n 1, 0, 0, 0, 0),
  (28, .invokevirtual 129, 50, 2, 3, 0), (31, .aload_n 0, 0, 0, 0, 0), (32, .aload_n 1, 0, 0, 0, 0), (33, .invokevirtual 132, 54, 2, 3, 0), (36, .aload_n 0, 0, 0, 0, 0), (37, .aload_n 1, 0, 0, 0, 0),
  (38, .invokevirtual 135, 55, 2, 3, 0), (41, .aload_n 0, 0, 0, 0, 0), (42, .dup, 0, 0, 0, 0), (43, .getfield 64, 3, 16, 0, 0), (46, .iconst 1, 0, 0, 0, 0), (47, .iadd, 0, 0, 0, 0),
  (48, .putfield 64, 3, 16, 0, 0), (51, .return_, 0, 0, 0, 0)]
def tSt_passMinute : xTb := ((⟨"FirstFelt$State", "passMinute", "(LFirstFelt$Town;I)V"⟩, prog_5_method_14_code, 3, none), (0, 0), "FirstFelt$State", false, iSt_passMinute)
def iSt_flow : List (Nat × xE) := [(0, .aload_n 1, 0, 0, 0, 0), (1, .invokevirtual 86, 64, 1, 5, 1), (4, .istore_n 2, 0, 0, 0, 0), (5, .aload_n 0, 0, 0, 0, 0), (6, .getfield 9, 3, 0, 0, 0), (9, .iconst 0, 0, 0, 0, 0),
  (10, .aload_n 0, 0, 0, 0, 0), (11, .getfield 15, 3, 1, 0, 0), (14, .iconst 0, 0, 0, 0, 0), (15, .iload_n 2, 0, 0, 0, 0), (16, .invokestatic 67, 0, 5, 0, 4), (19, .iconst 0, 0, 0, 0, 0),
  (20, .istore_n 3, 0, 0, 0, 0), (21, .iload_n 3, 0, 0, 0, 0), (22, .iload_n 2, 0, 0, 0, 0), (23, .if_icmp .ge 33, 0, 0, 0, 0), (26, .aload_n 0, 0, 0, 0, 0), (27, .iload_n 3, 0, 0, 0, 0),
  (28, .aload_n 0, 0, 0, 0, 0), (29, .aload_n 1, 0, 0, 0, 0), (30, .iload_n 3, 0, 0, 0, 0), (31, .iconst 2, 0, 0, 0, 0), (32, .invokevirtual 138, 35, 4, 3, 1), (35, .invokevirtual 142, 44, 3, 3, 0),
  (38, .aload_n 0, 0, 0, 0, 0), (39, .iload_n 3, 0, 0, 0, 0), (40, .aload_n 0, 0, 0, 0, 0), (41, .aload_n 1, 0, 0, 0, 0), (42, .iload_n 3, 0, 0, 0, 0), (43, .iconst 3, 0, 0, 0, 0),
  (44, .invokevirtual 138, 35, 4, 3, 1), (47, .invokevirtual 142, 44, 3, 3, 0), (50, .iinc 3 1, 0, 0, 0, 0), (53, .goto (-32), 0, 0, 0, 0), (56, .aload_n 0, 0, 0, 0, 0), (57, .getfield 15, 3, 1, 0, 0),
  (60, .iconst 0, 0, 0, 0, 0), (61, .aload_n 0, 0, 0, 0, 0), (62, .getfield 9, 3, 0, 0, 0), (65, .iconst 0, 0, 0, 0, 0), (66, .iload_n 2, 0, 0, 0, 0), (67, .invokestatic 67, 0, 5, 0, 4),
  (70, .return_, 0, 0, 0, 0)]
def tSt_flow : xTb := ((⟨"FirstFelt$State", "flow", "(LFirstFelt$Town;)V"⟩, prog_5_method_15_code, 4, none), (0, 0), "FirstFelt$State", false, iSt_flow)
def iSt_flowBetween : List (Nat × xE) := [(0, .iload_n 2, 0, 0, 0, 0), (1, .iconst (-1), 0, 0, 0, 0), (2, .if_icmp .eq 40, 0, 0, 0, 0), (5, .aload_n 0, 0, 0, 0, 0), (6, .getfield 9, 3, 0, 0, 0), (9, .iload_n 2, 0, 0, 0, 0),
  (10, .iaload, 0, 0, 0, 0), (11, .aload_n 0, 0, 0, 0, 0), (12, .getfield 9, 3, 0, 0, 0), (15, .iload_n 1, 0, 0, 0, 0), (16, .iaload, 0, 0, 0, 0), (17, .isub, 0, 0, 0, 0),
  (18, .bipush 8, 0, 0, 0, 0), (20, .idiv, 0, 0, 0, 0), (21, .istore_n 3, 0, 0, 0, 0), (22, .aload_n 0, 0, 0, 0, 0), (23, .getfield 15, 3, 1, 0, 0), (26, .iload_n 1, 0, 0, 0, 0),
  (27, .dup2, 0, 0, 0, 0), (28, .iaload, 0, 0, 0, 0), (29, .iload_n 3, 0, 0, 0, 0), (30, .iadd, 0, 0, 0, 0), (31, .iastore, 0, 0, 0, 0), (32, .aload_n 0, 0, 0, 0, 0),
  (33, .getfield 15, 3, 1, 0, 0), (36, .iload_n 2, 0, 0, 0, 0), (37, .dup2, 0, 0, 0, 0), (38, .iaload, 0, 0, 0, 0), (39, .iload_n 3, 0, 0, 0, 0), (40, .isub, 0, 0, 0, 0),
  (41, .iastore, 0, 0, 0, 0), (42, .return_, 0, 0, 0, 0)]
def tSt_flowBetween : xTb := ((⟨"FirstFelt$State", "flowBetween", "(II)V"⟩, prog_5_method_16_code, 4, none), (0, 0), "FirstFelt$State", false, iSt_flowBetween)
def iSt_addWarmth : List (Nat × xE) := [(0, .iconst 0, 0, 0, 0, 0), (1, .istore_n 2, 0, 0, 0, 0), (2, .iload_n 2, 0, 0, 0, 0), (3, .aload_n 1, 0, 0, 0, 0), (4, .getfield 146, 5, 2, 0, 0), (7, .if_icmp .ge 68, 0, 0, 0, 0),
  (10, .aload_n 0, 0, 0, 0, 0), (11, .getfield 30, 3, 6, 0, 0), (14, .iload_n 2, 0, 0, 0, 0), (15, .iaload, 0, 0, 0, 0), (16, .ifCond .eq 53, 0, 0, 0, 0), (19, .aload_n 0, 0, 0, 0, 0),
  (20, .getfield 9, 3, 0, 0, 0), (23, .aload_n 1, 0, 0, 0, 0), (24, .getfield 149, 5, 9, 0, 0), (27, .iload_n 2, 0, 0, 0, 0), (28, .iaload, 0, 0, 0, 0), (29, .dup2, 0, 0, 0, 0),
  (30, .iaload, 0, 0, 0, 0), (31, .aload_n 1, 0, 0, 0, 0), (32, .getfield 152, 5, 10, 0, 0), (35, .iload_n 2, 0, 0, 0, 0), (36, .iaload, 0, 0, 0, 0), (37, .iadd, 0, 0, 0, 0),
  (38, .iastore, 0, 0, 0, 0), (39, .aload_n 0, 0, 0, 0, 0), (40, .getfield 27, 3, 5, 0, 0), (43, .iload_n 2, 0, 0, 0, 0), (44, .dup2, 0, 0, 0, 0), (45, .iaload, 0, 0, 0, 0),
  (46, .iconst 1, 0, 0, 0, 0), (47, .isub, 0, 0, 0, 0), (48, .iastore, 0, 0, 0, 0), (49, .aload_n 0, 0, 0, 0, 0), (50, .getfield 30, 3, 6, 0, 0), (53, .iload_n 2, 0, 0, 0, 0),
  (54, .aload_n 0, 0, 0, 0, 0), (55, .getfield 27, 3, 5, 0, 0), (58, .iload_n 2, 0, 0, 0, 0), (59, .iaload, 0, 0, 0, 0), (60, .ifCond .le 7, 0, 0, 0, 0), (63, .iconst 1, 0, 0, 0, 0),
  (64, .goto 4, 0, 0, 0, 0), (67, .iconst 0, 0, 0, 0, 0), (68, .iastore, 0, 0, 0, 0), (69, .iinc 2 1, 0, 0, 0, 0), (72, .goto (-70), 0, 0, 0, 0), (75, .iconst 0, 0, 0, 0, 0),
  (76, .istore_n 2, 0, 0, 0, 0), (77, .iload_n 2, 0, 0, 0, 0), (78, .aload_n 1, 0, 0, 0, 0), (79, .getfield 96, 5, 5, 0, 0), (82, .if_icmp .ge 29, 0, 0, 0, 0), (85, .aload_n 0, 0, 0, 0, 0),
  (86, .getfield 9, 3, 0, 0, 0), (89, .aload_n 0, 0, 0, 0, 0), (90, .getfield 33, 3, 7, 0, 0), (93, .iload_n 2, 0, 0, 0, 0), (94, .iaload, 0, 0, 0, 0), (95, .dup2, 0, 0, 0, 0),
  (96, .iaload, 0, 0, 0, 0), (97, .aload_n 1, 0, 0, 0, 0), (98, .getfield 155, 5, 12, 0, 0), (101, .iload_n 2, 0, 0, 0, 0), (102, .iaload, 0, 0, 0, 0), (103, .iadd, 0, 0, 0, 0),
  (104, .iastore, 0, 0, 0, 0), (105, .iinc 2 1, 0, 0, 0, 0), (108, .goto (-31), 0, 0, 0, 0), (111, .return_, 0, 0, 0, 0)]
def tSt_addWarmth : xTb := ((⟨"FirstFelt$State", "addWarmth", "(LFirstFelt$Town;)V"⟩, prog_5_method_17_code, 3, none), (0, 0), "FirstFelt$State", false, iSt_addWarmth)
def iSt_coolDown : List (Nat × xE) := [(0, .aload_n 1, 0, 0, 0, 0), (1, .invokevirtual 86, 64, 1, 5, 1), (4, .istore_n 2, 0, 0, 0, 0), (5, .aload_n 1, 0, 0, 0, 0), (6, .aload_n 0, 0, 0, 0, 0), (7, .getfield 64, 3, 16, 0, 0),
  (10, .invokevirtual 158, 69, 2, 5, 1), (13, .istore_n 3, 0, 0, 0, 0), (14, .iconst 0, 0, 0, 0, 0), (15, .istore 4, 0, 0, 0, 0), (17, .iload 4, 0, 0, 0, 0), (19, .iload_n 2, 0, 0, 0, 0),
  (20, .if_icmp .ge 61, 0, 0, 0, 0), (23, .aload_n 1, 0, 0, 0, 0), (24, .getfield 161, 5, 7, 0, 0), (27, .iload 4, 0, 0, 0, 0), (29, .iaload, 0, 0, 0, 0), (30, .ifCond .eq 13, 0, 0, 0, 0),
  (33, .aload_n 0, 0, 0, 0, 0), (34, .getfield 9, 3, 0, 0, 0), (37, .iload 4, 0, 0, 0, 0), (39, .iaload, 0, 0, 0, 0), (40, .goto 12, 0, 0, 0, 0), (43, .aload_n 0, 0, 0, 0, 0),
  (44, .getfield 9, 3, 0, 0, 0), (47, .iload 4, 0, 0, 0, 0), (49, .iaload, 0, 0, 0, 0), (50, .iload_n 3, 0, 0, 0, 0), (51, .iadd, 0, 0, 0, 0), (52, .istore 5, 0, 0, 0, 0),
  (54, .aload_n 0, 0, 0, 0, 0), (55, .getfield 9, 3, 0, 0, 0), (58, .iload 4, 0, 0, 0, 0), (60, .sipush 999, 0, 0, 0, 0), (63, .iload 5, 0, 0, 0, 0), (65, .iload 5, 0, 0, 0, 0),
  (67, .bipush 50, 0, 0, 0, 0), (69, .idiv, 0, 0, 0, 0), (70, .isub, 0, 0, 0, 0), (71, .invokestatic 164, 209, 2, 0, 1), (74, .iastore, 0, 0, 0, 0), (75, .iinc 4 1, 0, 0, 0, 0),
  (78, .goto (-61), 0, 0, 0, 0), (81, .return_, 0, 0, 0, 0)]
def tSt_coolDown : xTb := ((⟨"FirstFelt$State", "coolDown", "(LFirstFelt$Town;)V"⟩, prog_5_method_18_code, 6, none), (0, 0), "FirstFelt$State", false, iSt_coolDown)
def iSt_feel : List (Nat × xE) := [(0, .aload_n 0, 0, 0, 0, 0), (1, .iconst 0, 0, 0, 0, 0), (2, .putfield 99, 3, 12, 0, 0), (5, .iconst 0, 0, 0, 0, 0), (6, .istore_n 3, 0, 0, 0, 0), (7, .iload_n 3, 0, 0, 0, 0),
  (8, .aload_n 1, 0, 0, 0, 0), (9, .getfield 96, 5, 5, 0, 0), (12, .if_icmp .ge 53, 0, 0, 0, 0), (15, .iload_n 3, 0, 0, 0, 0), (16, .iload_n 2, 0, 0, 0, 0), (17, .if_icmp .eq 42, 0, 0, 0, 0),
  (20, .aload_n 0, 0, 0, 0, 0), (21, .getfield 9, 3, 0, 0, 0), (24, .aload_n 0, 0, 0, 0, 0), (25, .getfield 33, 3, 7, 0, 0), (28, .iload_n 3, 0, 0, 0, 0), (29, .iaload, 0, 0, 0, 0),
  (30, .iaload, 0, 0, 0, 0), (31, .aload_n 0, 0, 0, 0, 0), (32, .getfield 36, 3, 8, 0, 0), (35, .iload_n 3, 0, 0, 0, 0), (36, .iaload, 0, 0, 0, 0), (37, .aload_n 1, 0, 0, 0, 0),
  (38, .getfield 169, 5, 11, 0, 0), (41, .iload_n 3, 0, 0, 0, 0), (42, .iaload, 0, 0, 0, 0), (43, .iadd, 0, 0, 0, 0), (44, .if_icmp .lt 15, 0, 0, 0, 0), (47, .aload_n 0, 0, 0, 0, 0),
  (48, .dup, 0, 0, 0, 0), (49, .getfield 99, 3, 12, 0, 0), (52, .iconst 1, 0, 0, 0, 0), (53, .iload_n 3, 0, 0, 0, 0), (54, .ishl, 0, 0, 0, 0), (55, .ior, 0, 0, 0, 0),
  (56, .putfield 99, 3, 12, 0, 0), (59, .iinc 3 1, 0, 0, 0, 0), (62, .goto (-55), 0, 0, 0, 0), (65, .return_, 0, 0, 0, 0)]
def tSt_feel : xTb := ((⟨"FirstFelt$State", "feel", "(LFirstFelt$Town;I)V"⟩, prog_5_method_19_code, 4, none), (0, 0), "FirstFelt$State", false, iSt_feel)
def iSt_takeCells : List (Nat × xE) := [(0, .iconst 0, 0, 0, 0, 0), (1, .istore_n 2, 0, 0, 0, 0), (2, .iload_n 2, 0, 0, 0, 0), (3, .aload_n 1, 0, 0, 0, 0), (4, .getfield 96, 5, 5, 0, 0), (7, .if_icmp .ge 74, 0, 0, 0, 0),
  (10, .aload_n 0, 0, 0, 0, 0), (11, .getfield 33, 3, 7, 0, 0), (14, .iload_n 2, 0, 0, 0, 0), (15, .iaload, 0, 0, 0, 0), (16, .istore_n 3, 0, 0, 0, 0), (17, .aload_n 0, 0, 0, 0, 0),
  (18, .iload_n 2, 0, 0, 0, 0), (19, .invokevirtual 172, 39, 2, 3, 1), (22, .ifCond .eq 25, 0, 0, 0, 0), (25, .aload_n 0, 0, 0, 0, 0), (26, .getfield 18, 3, 2, 0, 0), (29, .iload_n 3, 0, 0, 0, 0),
  (30, .iaload, 0, 0, 0, 0), (31, .iconst (-1), 0, 0, 0, 0), (32, .if_icmp .ne 15, 0, 0, 0, 0), (35, .aload_n 0, 0, 0, 0, 0), (36, .getfield 18, 3, 2, 0, 0), (39, .iload_n 3, 0, 0, 0, 0),
  (40, .aload_n 0, 0, 0, 0, 0), (41, .aload_n 1, 0, 0, 0, 0), (42, .iload_n 3, 0, 0, 0, 0), (43, .invokevirtual 176, 49, 3, 3, 1), (46, .iastore, 0, 0, 0, 0), (47, .aload_n 0, 0, 0, 0, 0),
  (48, .iload_n 2, 0, 0, 0, 0), (49, .invokevirtual 172, 39, 2, 3, 1), (52, .ifCond .eq 23, 0, 0, 0, 0), (55, .aload_n 0, 0, 0, 0, 0), (56, .getfield 18, 3, 2, 0, 0), (59, .iload_n 3, 0, 0, 0, 0),
  (60, .iaload, 0, 0, 0, 0), (61, .iload_n 2, 0, 0, 0, 0), (62, .if_icmp .ne 13, 0, 0, 0, 0), (65, .aload_n 0, 0, 0, 0, 0), (66, .getfield 21, 3, 3, 0, 0), (69, .iload_n 3, 0, 0, 0, 0),
  (70, .aload_n 0, 0, 0, 0, 0), (71, .getfield 64, 3, 16, 0, 0), (74, .iastore, 0, 0, 0, 0), (75, .iinc 2 1, 0, 0, 0, 0), (78, .goto (-76), 0, 0, 0, 0), (81, .return_, 0, 0, 0, 0)]
def tSt_takeCells : xTb := ((⟨"FirstFelt$State", "takeCells", "(LFirstFelt$Town;)V"⟩, prog_5_method_20_code, 4, none), (0, 0), "FirstFelt$State", false, iSt_takeCells)
def iSt_coldestFeeling : List (Nat × xE) := [(0, .iconst (-1), 0, 0, 0, 0), (1, .istore_n 3, 0, 0, 0, 0), (2, .iconst 0, 0, 0, 0, 0), (3, .istore 4, 0, 0, 0, 0), (5, .iload 4, 0, 0, 0, 0), (7, .aload_n 1, 0, 0, 0, 0),
  (8, .getfield 96, 5, 5, 0, 0), (11, .if_icmp .ge 53, 0, 0, 0, 0), (14, .aload_n 0, 0, 0, 0, 0), (15, .iload 4, 0, 0, 0, 0), (17, .invokevirtual 172, 39, 2, 3, 1), (20, .ifCond .eq 38, 0, 0, 0, 0),
  (23, .aload_n 0, 0, 0, 0, 0), (24, .getfield 33, 3, 7, 0, 0), (27, .iload 4, 0, 0, 0, 0), (29, .iaload, 0, 0, 0, 0), (30, .iload_n 2, 0, 0, 0, 0), (31, .if_icmp .ne 27, 0, 0, 0, 0),
  (34, .iload_n 3, 0, 0, 0, 0), (35, .iconst (-1), 0, 0, 0, 0), (36, .if_icmp .eq 19, 0, 0, 0, 0), (39, .aload_n 0, 0, 0, 0, 0), (40, .getfield 36, 3, 8, 0, 0), (43, .iload 4, 0, 0, 0, 0),
  (45, .iaload, 0, 0, 0, 0), (46, .aload_n 0, 0, 0, 0, 0), (47, .getfield 36, 3, 8, 0, 0), (50, .iload_n 3, 0, 0, 0, 0), (51, .iaload, 0, 0, 0, 0), (52, .if_icmp .ge 6, 0, 0, 0, 0),
  (55, .iload 4, 0, 0, 0, 0), (57, .istore_n 3, 0, 0, 0, 0), (58, .iinc 4 1, 0, 0, 0, 0), (61, .goto (-56), 0, 0, 0, 0), (64, .iload_n 3, 0, 0, 0, 0), (65, .ireturn, 0, 0, 0, 0)]
def tSt_coldestFeeling : xTb := ((⟨"FirstFelt$State", "coldestFeeling", "(LFirstFelt$Town;I)I"⟩, prog_5_method_21_code, 5, (some .int)), (0, 0), "FirstFelt$State", false, iSt_coldestFeeling)
def iSt_keepLaw : List (Nat × xE) := [(0, .aload_n 0, 0, 0, 0, 0), (1, .getfield 61, 3, 14, 0, 0), (4, .iconst 1, 0, 0, 0, 0), (5, .if_icmp .eq 11, 0, 0, 0, 0), (8, .aload_n 0, 0, 0, 0, 0), (9, .getfield 61, 3, 14, 0, 0),
  (12, .iconst 2, 0, 0, 0, 0), (13, .if_icmp .ne 11, 0, 0, 0, 0), (16, .aload_n 0, 0, 0, 0, 0), (17, .aload_n 1, 0, 0, 0, 0), (18, .invokevirtual 180, 51, 2, 3, 0), (21, .goto 16, 0, 0, 0, 0),
  (24, .aload_n 0, 0, 0, 0, 0), (25, .getfield 61, 3, 14, 0, 0), (28, .iconst 3, 0, 0, 0, 0), (29, .if_icmp .ne 8, 0, 0, 0, 0), (32, .aload_n 0, 0, 0, 0, 0), (33, .aload_n 1, 0, 0, 0, 0),
  (34, .invokevirtual 183, 52, 2, 3, 0), (37, .return_, 0, 0, 0, 0)]
def tSt_keepLaw : xTb := ((⟨"FirstFelt$State", "keepLaw", "(LFirstFelt$Town;)V"⟩, prog_5_method_22_code, 2, none), (0, 0), "FirstFelt$State", false, iSt_keepLaw)
def iSt_endOwning : List (Nat × xE) := [(0, .aload_n 1, 0, 0, 0, 0), (1, .invokevirtual 86, 64, 1, 5, 1), (4, .istore_n 2, 0, 0, 0, 0), (5, .iconst 0, 0, 0, 0, 0), (6, .istore_n 3, 0, 0, 0, 0), (7, .iload_n 3, 0, 0, 0, 0),
  (8, .iload_n 2, 0, 0, 0, 0), (9, .if_icmp .ge 87, 0, 0, 0, 0), (12, .aload_n 0, 0, 0, 0, 0), (13, .getfield 18, 3, 2, 0, 0), (16, .iload_n 3, 0, 0, 0, 0), (17, .iaload, 0, 0, 0, 0),
  (18, .iconst (-1), 0, 0, 0, 0), (19, .if_icmp .eq 71, 0, 0, 0, 0), (22, .aload_n 0, 0, 0, 0, 0), (23, .getfield 61, 3, 14, 0, 0), (26, .iconst 1, 0, 0, 0, 0), (27, .if_icmp .ne 29, 0, 0, 0, 0),
  (30, .aload_n 0, 0, 0, 0, 0), (31, .getfield 64, 3, 16, 0, 0), (34, .aload_n 0, 0, 0, 0, 0), (35, .getfield 21, 3, 3, 0, 0), (38, .iload_n 3, 0, 0, 0, 0), (39, .iaload, 0, 0, 0, 0),
  (40, .isub, 0, 0, 0, 0), (41, .aload_n 0, 0, 0, 0, 0), (42, .getfield 48, 3, 15, 0, 0), (45, .if_icmp .gt 7, 0, 0, 0, 0), (48, .iconst 1, 0, 0, 0, 0), (49, .goto 27, 0, 0, 0, 0),
  (52, .iconst 0, 0, 0, 0, 0), (53, .goto 23, 0, 0, 0, 0), (56, .aload_n 0, 0, 0, 0, 0), (57, .getfield 33, 3, 7, 0, 0), (60, .aload_n 0, 0, 0, 0, 0), (61, .getfield 18, 3, 2, 0, 0),
  (64, .iload_n 3, 0, 0, 0, 0), (65, .iaload, 0, 0, 0, 0), (66, .iaload, 0, 0, 0, 0), (67, .iload_n 3, 0, 0, 0, 0), (68, .if_icmp .ne 7, 0, 0, 0, 0), (71, .iconst 1, 0, 0, 0, 0),
  (72, .goto 4, 0, 0, 0, 0), (75, .iconst 0, 0, 0, 0, 0), (76, .istore 4, 0, 0, 0, 0), (78, .iload 4, 0, 0, 0, 0), (80, .ifCond .ne 10, 0, 0, 0, 0), (83, .aload_n 0, 0, 0, 0, 0),
  (84, .getfield 18, 3, 2, 0, 0), (87, .iload_n 3, 0, 0, 0, 0), (88, .iconst (-1), 0, 0, 0, 0), (89, .iastore, 0, 0, 0, 0), (90, .iinc 3 1, 0, 0, 0, 0), (93, .goto (-86), 0, 0, 0, 0),
  (96, .return_, 0, 0, 0, 0)]
def tSt_endOwning : xTb := ((⟨"FirstFelt$State", "endOwning", "(LFirstFelt$Town;)V"⟩, prog_5_method_23_code, 5, none), (0, 0), "FirstFelt$State", false, iSt_endOwning)
def iSt_makePartners : List (Nat × xE) := [(0, .iconst 0, 0, 0, 0, 0), (1, .istore_n 2, 0, 0, 0, 0), (2, .iload_n 2, 0, 0, 0, 0), (3, .aload_n 1, 0, 0, 0, 0), (4, .getfield 96, 5, 5, 0, 0), (7, .if_icmp .ge 63, 0, 0, 0, 0),
  (10, .aload_n 0, 0, 0, 0, 0), (11, .getfield 18, 3, 2, 0, 0), (14, .aload_n 0, 0, 0, 0, 0), (15, .getfield 33, 3, 7, 0, 0), (18, .iload_n 2, 0, 0, 0, 0), (19, .iaload, 0, 0, 0, 0),
  (20, .iaload, 0, 0, 0, 0), (21, .istore_n 3, 0, 0, 0, 0), (22, .aload_n 0, 0, 0, 0, 0), (23, .iload_n 2, 0, 0, 0, 0), (24, .invokevirtual 172, 39, 2, 3, 1), (27, .ifCond .eq 37, 0, 0, 0, 0),
  (30, .iload_n 3, 0, 0, 0, 0), (31, .iconst (-1), 0, 0, 0, 0), (32, .if_icmp .eq 32, 0, 0, 0, 0), (35, .iload_n 3, 0, 0, 0, 0), (36, .iload_n 2, 0, 0, 0, 0), (37, .if_icmp .eq 27, 0, 0, 0, 0),
  (40, .aload_n 0, 0, 0, 0, 0), (41, .getfield 45, 3, 11, 0, 0), (44, .iload_n 2, 0, 0, 0, 0), (45, .dup2, 0, 0, 0, 0), (46, .iaload, 0, 0, 0, 0), (47, .iconst 1, 0, 0, 0, 0),
  (48, .iload_n 3, 0, 0, 0, 0), (49, .ishl, 0, 0, 0, 0), (50, .ior, 0, 0, 0, 0), (51, .iastore, 0, 0, 0, 0), (52, .aload_n 0, 0, 0, 0, 0), (53, .getfield 45, 3, 11, 0, 0),
  (56, .iload_n 3, 0, 0, 0, 0), (57, .dup2, 0, 0, 0, 0), (58, .iaload, 0, 0, 0, 0), (59, .iconst 1, 0, 0, 0, 0), (60, .iload_n 2, 0, 0, 0, 0), (61, .ishl, 0, 0, 0, 0),
  (62, .ior, 0, 0, 0, 0), (63, .iastore, 0, 0, 0, 0), (64, .iinc 2 1, 0, 0, 0, 0), (67, .goto (-65), 0, 0, 0, 0), (70, .return_, 0, 0, 0, 0)]
def tSt_makePartners : xTb := ((⟨"FirstFelt$State", "makePartners", "(LFirstFelt$Town;)V"⟩, prog_5_method_24_code, 4, none), (0, 0), "FirstFelt$State", false, iSt_makePartners)
def iSt_isDear : List (Nat × xE) := [(0, .aload_n 0, 0, 0, 0, 0), (1, .getfield 18, 3, 2, 0, 0), (4, .iload_n 2, 0, 0, 0, 0), (5, .iaload, 0, 0, 0, 0), (6, .istore_n 3, 0, 0, 0, 0), (7, .aload_n 0, 0, 0, 0, 0),
  (8, .getfield 9, 3, 0, 0, 0), (11, .iload_n 2, 0, 0, 0, 0), (12, .iaload, 0, 0, 0, 0), (13, .bipush 50, 0, 0, 0, 0), (15, .if_icmp .lt 30, 0, 0, 0, 0), (18, .iload_n 3, 0, 0, 0, 0),
  (19, .iconst (-1), 0, 0, 0, 0), (20, .if_icmp .eq 25, 0, 0, 0, 0), (23, .iload_n 3, 0, 0, 0, 0), (24, .iload_n 1, 0, 0, 0, 0), (25, .if_icmp .eq 20, 0, 0, 0, 0), (28, .aload_n 0, 0, 0, 0, 0),
  (29, .getfield 45, 3, 11, 0, 0), (32, .iload_n 1, 0, 0, 0, 0), (33, .iaload, 0, 0, 0, 0), (34, .iload_n 3, 0, 0, 0, 0), (35, .ishr, 0, 0, 0, 0), (36, .iconst 1, 0, 0, 0, 0),
  (37, .iand, 0, 0, 0, 0), (38, .ifCond .ne 7, 0, 0, 0, 0), (41, .iconst 1, 0, 0, 0, 0), (42, .goto 4, 0, 0, 0, 0), (45, .iconst 0, 0, 0, 0, 0), (46, .ireturn, 0, 0, 0, 0)]
def tSt_isDear : xTb := ((⟨"FirstFelt$State", "isDear", "(II)Z"⟩, prog_5_method_25_code, 4, (some .boolean)), (0, 0), "FirstFelt$State", true, iSt_isDear)
def iSt_oweForWarmth : List (Nat × xE) := [(0, .iconst 0, 0, 0, 0, 0), (1, .istore_n 2, 0, 0, 0, 0), (2, .iload_n 2, 0, 0, 0, 0), (3, .aload_n 1, 0, 0, 0, 0), (4, .getfield 96, 5, 5, 0, 0), (7, .if_icmp .ge 73, 0, 0, 0, 0),
  (10, .aload_n 0, 0, 0, 0, 0), (11, .iload_n 2, 0, 0, 0, 0), (12, .aload_n 0, 0, 0, 0, 0), (13, .getfield 33, 3, 7, 0, 0), (16, .iload_n 2, 0, 0, 0, 0), (17, .iaload, 0, 0, 0, 0),
  (18, .invokevirtual 186, 53, 3, 3, 1), (21, .ifCond .eq 53, 0, 0, 0, 0), (24, .aload_n 0, 0, 0, 0, 0), (25, .getfield 18, 3, 2, 0, 0), (28, .aload_n 0, 0, 0, 0, 0), (29, .getfield 33, 3, 7, 0, 0),
  (32, .iload_n 2, 0, 0, 0, 0), (33, .iaload, 0, 0, 0, 0), (34, .iaload, 0, 0, 0, 0), (35, .istore_n 3, 0, 0, 0, 0), (36, .aload_n 0, 0, 0, 0, 0), (37, .getfield 39, 3, 9, 0, 0),
  (40, .iload_n 2, 0, 0, 0, 0), (41, .ldc 190, 0, 0, 0, 999999), (43, .aload_n 0, 0, 0, 0, 0), (44, .getfield 39, 3, 9, 0, 0), (47, .iload_n 2, 0, 0, 0, 0), (48, .iaload, 0, 0, 0, 0),
  (49, .iconst 1, 0, 0, 0, 0), (50, .iadd, 0, 0, 0, 0), (51, .invokestatic 164, 209, 2, 0, 1), (54, .iastore, 0, 0, 0, 0), (55, .aload_n 0, 0, 0, 0, 0), (56, .getfield 42, 3, 10, 0, 0),
  (59, .iload_n 3, 0, 0, 0, 0), (60, .ldc 190, 0, 0, 0, 999999), (62, .aload_n 0, 0, 0, 0, 0), (63, .getfield 42, 3, 10, 0, 0), (66, .iload_n 3, 0, 0, 0, 0), (67, .iaload, 0, 0, 0, 0),
  (68, .iconst 1, 0, 0, 0, 0), (69, .iadd, 0, 0, 0, 0), (70, .invokestatic 164, 209, 2, 0, 1), (73, .iastore, 0, 0, 0, 0), (74, .iinc 2 1, 0, 0, 0, 0), (77, .goto (-75), 0, 0, 0, 0),
  (80, .return_, 0, 0, 0, 0)]
def tSt_oweForWarmth : xTb := ((⟨"FirstFelt$State", "oweForWarmth", "(LFirstFelt$Town;)V"⟩, prog_5_method_26_code, 4, none), (0, 0), "FirstFelt$State", false, iSt_oweForWarmth)
def iSt_warmSkins : List (Nat × xE) := [(0, .iconst 0, 0, 0, 0, 0), (1, .istore_n 2, 0, 0, 0, 0), (2, .iload_n 2, 0, 0, 0, 0), (3, .aload_n 1, 0, 0, 0, 0), (4, .getfield 96, 5, 5, 0, 0), (7, .if_icmp .ge 61, 0, 0, 0, 0),
  (10, .aload_n 0, 0, 0, 0, 0), (11, .getfield 36, 3, 8, 0, 0), (14, .iload_n 2, 0, 0, 0, 0), (15, .dup2, 0, 0, 0, 0), (16, .iaload, 0, 0, 0, 0), (17, .aload_n 0, 0, 0, 0, 0),
  (18, .getfield 9, 3, 0, 0, 0), (21, .aload_n 0, 0, 0, 0, 0), (22, .getfield 33, 3, 7, 0, 0), (25, .iload_n 2, 0, 0, 0, 0), (26, .iaload, 0, 0, 0, 0), (27, .iaload, 0, 0, 0, 0),
  (28, .aload_n 0, 0, 0, 0, 0), (29, .getfield 36, 3, 8, 0, 0), (32, .iload_n 2, 0, 0, 0, 0), (33, .iaload, 0, 0, 0, 0), (34, .isub, 0, 0, 0, 0), (35, .iconst 4, 0, 0, 0, 0),
  (36, .idiv, 0, 0, 0, 0), (37, .iadd, 0, 0, 0, 0), (38, .iastore, 0, 0, 0, 0), (39, .aload_n 0, 0, 0, 0, 0), (40, .getfield 36, 3, 8, 0, 0), (43, .iload_n 2, 0, 0, 0, 0),
  (44, .iaload, 0, 0, 0, 0), (45, .bipush 20, 0, 0, 0, 0), (47, .if_icmp .ge 15, 0, 0, 0, 0), (50, .aload_n 0, 0, 0, 0, 0), (51, .dup, 0, 0, 0, 0), (52, .getfield 58, 3, 13, 0, 0),
  (55, .iconst 1, 0, 0, 0, 0), (56, .iload_n 2, 0, 0, 0, 0), (57, .ishl, 0, 0, 0, 0), (58, .ior, 0, 0, 0, 0), (59, .putfield 58, 3, 13, 0, 0), (62, .iinc 2 1, 0, 0, 0, 0),
  (65, .goto (-63), 0, 0, 0, 0), (68, .return_, 0, 0, 0, 0)]
def tSt_warmSkins : xTb := ((⟨"FirstFelt$State", "warmSkins", "(LFirstFelt$Town;)V"⟩, prog_5_method_27_code, 3, none), (0, 0), "FirstFelt$State", false, iSt_warmSkins)
def iSt_leaveDearCells : List (Nat × xE) := [(0, .iconst 0, 0, 0, 0, 0), (1, .istore_n 2, 0, 0, 0, 0), (2, .iload_n 2, 0, 0, 0, 0), (3, .aload_n 1, 0, 0, 0, 0), (4, .getfield 96, 5, 5, 0, 0), (7, .if_icmp .ge 35, 0, 0, 0, 0),
  (10, .aload_n 0, 0, 0, 0, 0), (11, .iload_n 2, 0, 0, 0, 0), (12, .aload_n 0, 0, 0, 0, 0), (13, .getfield 33, 3, 7, 0, 0), (16, .iload_n 2, 0, 0, 0, 0), (17, .iaload, 0, 0, 0, 0),
  (18, .invokevirtual 186, 53, 3, 3, 1), (21, .ifCond .eq 15, 0, 0, 0, 0), (24, .aload_n 0, 0, 0, 0, 0), (25, .getfield 33, 3, 7, 0, 0), (28, .iload_n 2, 0, 0, 0, 0), (29, .aload_n 0, 0, 0, 0, 0),
  (30, .aload_n 1, 0, 0, 0, 0), (31, .iload_n 2, 0, 0, 0, 0), (32, .invokevirtual 191, 57, 3, 3, 1), (35, .iastore, 0, 0, 0, 0), (36, .iinc 2 1, 0, 0, 0, 0), (39, .goto (-37), 0, 0, 0, 0),
  (42, .return_, 0, 0, 0, 0)]
def tSt_leaveDearCells : xTb := ((⟨"FirstFelt$State", "leaveDearCells", "(LFirstFelt$Town;)V"⟩, prog_5_method_28_code, 3, none), (0, 0), "FirstFelt$State", false, iSt_leaveDearCells)
def iSt_refuge : List (Nat × xE) := [(0, .iconst 1, 0, 0, 0, 0), (1, .istore_n 3, 0, 0, 0, 0), (2, .iload_n 3, 0, 0, 0, 0), (3, .iconst 4, 0, 0, 0, 0), (4, .if_icmp .gt 42, 0, 0, 0, 0), (7, .aload_n 0, 0, 0, 0, 0),
  (8, .aload_n 1, 0, 0, 0, 0), (9, .aload_n 0, 0, 0, 0, 0), (10, .getfield 33, 3, 7, 0, 0), (13, .iload_n 2, 0, 0, 0, 0), (14, .iaload, 0, 0, 0, 0), (15, .iload_n 3, 0, 0, 0, 0),
  (16, .invokevirtual 138, 35, 4, 3, 1), (19, .istore 4, 0, 0, 0, 0), (21, .iload 4, 0, 0, 0, 0), (23, .iconst (-1), 0, 0, 0, 0), (24, .if_icmp .eq 16, 0, 0, 0, 0), (27, .aload_n 0, 0, 0, 0, 0),
  (28, .iload_n 2, 0, 0, 0, 0), (29, .iload 4, 0, 0, 0, 0), (31, .invokevirtual 186, 53, 3, 3, 1), (34, .ifCond .ne 6, 0, 0, 0, 0), (37, .iload 4, 0, 0, 0, 0), (39, .ireturn, 0, 0, 0, 0),
  (40, .iinc 3 1, 0, 0, 0, 0), (43, .goto (-41), 0, 0, 0, 0), (46, .aload_n 0, 0, 0, 0, 0), (47, .getfield 33, 3, 7, 0, 0), (50, .iload_n 2, 0, 0, 0, 0), (51, .iaload, 0, 0, 0, 0),
  (52, .ireturn, 0, 0, 0, 0)]
def tSt_refuge : xTb := ((⟨"FirstFelt$State", "refuge", "(LFirstFelt$Town;I)I"⟩, prog_5_method_29_code, 5, (some .int)), (0, 0), "FirstFelt$State", false, iSt_refuge)
def iTo_init : List (Nat × xE) := [(0, .aload_n 0, 0, 0, 0, 0), (1, .invokespecial 3, 0, 1, 0, 3), (4, .aload_n 0, 0, 0, 0, 0), (5, .bipush 6, 0, 0, 0, 0), (7, .anewarray 9, 0, 0, 0, 0), (10, .putfield 11, 4, 0, 0, 0),
  (13, .aload_n 0, 0, 0, 0, 0), (14, .iconst 5, 0, 0, 0, 0), (15, .newarray .int, 0, 0, 0, 0), (17, .putfield 17, 4, 1, 0, 0), (20, .aload_n 0, 0, 0, 0, 0), (21, .iconst 5, 0, 0, 0, 0),
  (22, .newarray .int, 0, 0, 0, 0), (24, .putfield 21, 4, 2, 0, 0), (27, .iconst 0, 0, 0, 0, 0), (28, .istore_n 1, 0, 0, 0, 0), (29, .iload_n 1, 0, 0, 0, 0), (30, .iconst 5, 0, 0, 0, 0),
  (31, .if_icmp .gt 22, 0, 0, 0, 0), (34, .aload_n 0, 0, 0, 0, 0), (35, .getfield 11, 4, 0, 0, 0), (38, .iload_n 1, 0, 0, 0, 0), (39, .new 9, 3, 0, 0, 0), (42, .dup, 0, 0, 0, 0),
  (43, .invokespecial 24, 29, 1, 3, 2), (46, .aastore, 0, 0, 0, 0), (47, .iinc 1 1, 0, 0, 0, 0), (50, .goto (-21), 0, 0, 0, 0), (53, .return_, 0, 0, 0, 0)]
def tTo_init : xTb := ((⟨"FirstFelt$Tour", "<init>", "()V"⟩, prog_6_method_1_code, 2, none), (81, 952), "FirstFelt$Tour", false, iTo_init)
def iTo_begin : List (Nat × xE) := [(0, .aload_n 0, 0, 0, 0, 0), (1, .aload_n 1, 0, 0, 0, 0), (2, .putfield 25, 4, 3, 0, 0), (5, .aload_n 0, 0, 0, 0, 0), (6, .getfield 11, 4, 0, 0, 0), (9, .iconst 0, 0, 0, 0, 0),
  (10, .aaload, 0, 0, 0, 0), (11, .aload_n 2, 0, 0, 0, 0), (12, .invokevirtual 29, 31, 2, 3, 0), (15, .aload_n 0, 0, 0, 0, 0), (16, .iload_n 3, 0, 0, 0, 0), (17, .putfield 33, 4, 4, 0, 0),
  (20, .aload_n 0, 0, 0, 0, 0), (21, .iload 4, 0, 0, 0, 0), (23, .putfield 37, 4, 5, 0, 0), (26, .aload_n 0, 0, 0, 0, 0), (27, .iconst (-1), 0, 0, 0, 0), (28, .putfield 40, 4, 6, 0, 0),
  (31, .return_, 0, 0, 0, 0)]
def tTo_begin : xTb := ((⟨"FirstFelt$Tour", "begin", "(LFirstFelt$Town;LFirstFelt$State;II)V"⟩, prog_6_method_2_code, 5, none), (0, 0), "FirstFelt$Tour", false, iTo_begin)
def iTo_finish : List (Nat × xE) := [(0, .iload_n 1, 0, 0, 0, 0), (1, .aload_n 0, 0, 0, 0, 0), (2, .getfield 40, 4, 6, 0, 0), (5, .if_icmp .le 22, 0, 0, 0, 0), (8, .aload_n 0, 0, 0, 0, 0), (9, .iload_n 1, 0, 0, 0, 0),
  (10, .putfield 40, 4, 6, 0, 0), (13, .aload_n 0, 0, 0, 0, 0), (14, .getfield 17, 4, 1, 0, 0), (17, .iconst 0, 0, 0, 0, 0), (18, .aload_n 0, 0, 0, 0, 0), (19, .getfield 21, 4, 2, 0, 0),
  (22, .iconst 0, 0, 0, 0, 0), (23, .iconst 5, 0, 0, 0, 0), (24, .invokestatic 43, 0, 5, 0, 4), (27, .return_, 0, 0, 0, 0)]
def tTo_finish : xTb := ((⟨"FirstFelt$Tour", "finish", "(I)V"⟩, prog_6_method_3_code, 2, none), (0, 0), "FirstFelt$Tour", false, iTo_finish)
def iTw_init : List (Nat × xE) := [(0, .aload_n 0, 0, 0, 0, 0), (1, .invokespecial 3, 0, 1, 0, 3), (4, .aload_n 0, 0, 0, 0, 0), (5, .bipush 100, 0, 0, 0, 0), (7, .newarray .int, 0, 0, 0, 0), (9, .putfield 9, 5, 6, 0, 0),
  (12, .aload_n 0, 0, 0, 0, 0), (13, .bipush 20, 0, 0, 0, 0), (15, .newarray .int, 0, 0, 0, 0), (17, .putfield 15, 5, 7, 0, 0), (20, .aload_n 0, 0, 0, 0, 0), (21, .bipush 8, 0, 0, 0, 0),
  (23, .newarray .int, 0, 0, 0, 0), (25, .putfield 18, 5, 8, 0, 0), (28, .aload_n 0, 0, 0, 0, 0), (29, .iconst 4, 0, 0, 0, 0), (30, .newarray .int, 0, 0, 0, 0), (32, .putfield 21, 5, 9, 0, 0),
  (35, .aload_n 0, 0, 0, 0, 0), (36, .iconst 4, 0, 0, 0, 0), (37, .newarray .int, 0, 0, 0, 0), (39, .putfield 24, 5, 10, 0, 0), (42, .aload_n 0, 0, 0, 0, 0), (43, .bipush 6, 0, 0, 0, 0),
  (45, .newarray .int, 0, 0, 0, 0), (47, .putfield 27, 5, 11, 0, 0), (50, .aload_n 0, 0, 0, 0, 0), (51, .bipush 6, 0, 0, 0, 0), (53, .newarray .int, 0, 0, 0, 0), (55, .putfield 30, 5, 12, 0, 0),
  (58, .return_, 0, 0, 0, 0)]
def tTw_init : xTb := ((⟨"FirstFelt$Town", "<init>", "()V"⟩, prog_7_method_1_code, 1, none), (7, 148), "FirstFelt$Town", false, iTw_init)
def iTw_clear : List (Nat × xE) := [(0, .aload_n 0, 0, 0, 0, 0), (1, .iconst 0, 0, 0, 0, 0), (2, .putfield 33, 5, 0, 0, 0), (5, .aload_n 0, 0, 0, 0, 0), (6, .iconst 0, 0, 0, 0, 0), (7, .putfield 37, 5, 1, 0, 0),
  (10, .aload_n 0, 0, 0, 0, 0), (11, .iconst 0, 0, 0, 0, 0), (12, .putfield 40, 5, 2, 0, 0), (15, .aload_n 0, 0, 0, 0, 0), (16, .iconst 0, 0, 0, 0, 0), (17, .putfield 43, 5, 3, 0, 0),
  (20, .aload_n 0, 0, 0, 0, 0), (21, .iconst 0, 0, 0, 0, 0), (22, .putfield 46, 5, 4, 0, 0), (25, .aload_n 0, 0, 0, 0, 0), (26, .iconst 0, 0, 0, 0, 0), (27, .putfield 49, 5, 5, 0, 0),
  (30, .aload_n 0, 0, 0, 0, 0), (31, .getfield 15, 5, 7, 0, 0), (34, .iconst 0, 0, 0, 0, 0), (35, .invokestatic 52, 210, 2, 0, 0), (38, .return_, 0, 0, 0, 0)]
def tTw_clear : xTb := ((⟨"FirstFelt$Town", "clear", "()V"⟩, prog_7_method_2_code, 1, none), (0, 0), "FirstFelt$Town", false, iTw_clear)
def iTw_setSize : List (Nat × xE) := [(0, .aload_n 0, 0, 0, 0, 0), (1, .iload_n 1, 0, 0, 0, 0), (2, .putfield 33, 5, 0, 0, 0), (5, .aload_n 0, 0, 0, 0, 0), (6, .iload_n 2, 0, 0, 0, 0), (7, .putfield 37, 5, 1, 0, 0),
  (10, .iconst 0, 0, 0, 0, 0), (11, .istore_n 3, 0, 0, 0, 0), (12, .iload_n 3, 0, 0, 0, 0), (13, .iload_n 2, 0, 0, 0, 0), (14, .if_icmp .ge 123, 0, 0, 0, 0), (17, .iconst 0, 0, 0, 0, 0),
  (18, .istore 4, 0, 0, 0, 0), (20, .iload 4, 0, 0, 0, 0), (22, .iload_n 1, 0, 0, 0, 0), (23, .if_icmp .ge 108, 0, 0, 0, 0), (26, .aload_n 0, 0, 0, 0, 0), (27, .iload 4, 0, 0, 0, 0),
  (29, .iload_n 3, 0, 0, 0, 0), (30, .invokevirtual 58, 65, 3, 5, 1), (33, .iconst 5, 0, 0, 0, 0), (34, .imul, 0, 0, 0, 0), (35, .istore 5, 0, 0, 0, 0), (37, .aload_n 0, 0, 0, 0, 0),
  (38, .getfield 9, 5, 6, 0, 0), (41, .iload 5, 0, 0, 0, 0), (43, .iconst 0, 0, 0, 0, 0), (44, .iadd, 0, 0, 0, 0), (45, .aload_n 0, 0, 0, 0, 0), (46, .iload 4, 0, 0, 0, 0),
  (48, .iload_n 3, 0, 0, 0, 0), (49, .invokevirtual 58, 65, 3, 5, 1), (52, .iastore, 0, 0, 0, 0), (53, .aload_n 0, 0, 0, 0, 0), (54, .getfield 9, 5, 6, 0, 0), (57, .iload 5, 0, 0, 0, 0),
  (59, .iconst 1, 0, 0, 0, 0), (60, .iadd, 0, 0, 0, 0), (61, .aload_n 0, 0, 0, 0, 0), (62, .iload 4, 0, 0, 0, 0), (64, .iload_n 3, 0, 0, 0, 0), (65, .iconst 1, 0, 0, 0, 0),
  (66, .isub, 0, 0, 0, 0), (67, .invokevirtual 58, 65, 3, 5, 1), (70, .iastore, 0, 0, 0, 0), (71, .aload_n 0, 0, 0, 0, 0), (72, .getfield 9, 5, 6, 0, 0), (75, .iload 5, 0, 0, 0, 0),
  (77, .iconst 2, 0, 0, 0, 0), (78, .iadd, 0, 0, 0, 0), (79, .aload_n 0, 0, 0, 0, 0), (80, .iload 4, 0, 0, 0, 0), (82, .iconst 1, 0, 0, 0, 0), (83, .iadd, 0, 0, 0, 0),
  (84, .iload_n 3, 0, 0, 0, 0), (85, .invokevirtual 58, 65, 3, 5, 1), (88, .iastore, 0, 0, 0, 0), (89, .aload_n 0, 0, 0, 0, 0), (90, .getfield 9, 5, 6, 0, 0), (93, .iload 5, 0, 0, 0, 0),
  (95, .iconst 3, 0, 0, 0, 0), (96, .iadd, 0, 0, 0, 0), (97, .aload_n 0, 0, 0, 0, 0), (98, .iload 4, 0, 0, 0, 0), (100, .iload_n 3, 0, 0, 0, 0), (101, .iconst 1, 0, 0, 0, 0),
  (102, .iadd, 0, 0, 0, 0), (103, .invokevirtual 58, 65, 3, 5, 1), (106, .iastore, 0, 0, 0, 0), (107, .aload_n 0, 0, 0, 0, 0), (108, .getfield 9, 5, 6, 0, 0), (111, .iload 5, 0, 0, 0, 0),
  (113, .iconst 4, 0, 0, 0, 0), (114, .iadd, 0, 0, 0, 0), (115, .aload_n 0, 0, 0, 0, 0), (116, .iload 4, 0, 0, 0, 0), (118, .iconst 1, 0, 0, 0, 0), (119, .isub, 0, 0, 0, 0),
  (120, .iload_n 3, 0, 0, 0, 0), (121, .invokevirtual 58, 65, 3, 5, 1), (124, .iastore, 0, 0, 0, 0), (125, .iinc 4 1, 0, 0, 0, 0), (128, .goto (-108), 0, 0, 0, 0), (131, .iinc 3 1, 0, 0, 0, 0),
  (134, .goto (-122), 0, 0, 0, 0), (137, .return_, 0, 0, 0, 0)]
def tTw_setSize : xTb := ((⟨"FirstFelt$Town", "setSize", "(II)V"⟩, prog_7_method_3_code, 6, none), (0, 0), "FirstFelt$Town", false, iTw_setSize)
def iTw_cells : List (Nat × xE) := [(0, .aload_n 0, 0, 0, 0, 0), (1, .getfield 33, 5, 0, 0, 0), (4, .aload_n 0, 0, 0, 0, 0), (5, .getfield 37, 5, 1, 0, 0), (8, .imul, 0, 0, 0, 0), (9, .ireturn, 0, 0, 0, 0)]
def tTw_cells : xTb := ((⟨"FirstFelt$Town", "cells", "()I"⟩, prog_7_method_4_code, 1, (some .int)), (0, 0), "FirstFelt$Town", false, iTw_cells)
def iTw_cellAt : List (Nat × xE) := [(0, .iload_n 1, 0, 0, 0, 0), (1, .ifCond .lt 34, 0, 0, 0, 0), (4, .iload_n 1, 0, 0, 0, 0), (5, .aload_n 0, 0, 0, 0, 0), (6, .getfield 33, 5, 0, 0, 0), (9, .if_icmp .ge 26, 0, 0, 0, 0),
  (12, .iload_n 2, 0, 0, 0, 0), (13, .ifCond .lt 22, 0, 0, 0, 0), (16, .iload_n 2, 0, 0, 0, 0), (17, .aload_n 0, 0, 0, 0, 0), (18, .getfield 37, 5, 1, 0, 0), (21, .if_icmp .ge 14, 0, 0, 0, 0),
  (24, .iload_n 2, 0, 0, 0, 0), (25, .aload_n 0, 0, 0, 0, 0), (26, .getfield 33, 5, 0, 0, 0), (29, .imul, 0, 0, 0, 0), (30, .iload_n 1, 0, 0, 0, 0), (31, .iadd, 0, 0, 0, 0),
  (32, .goto 4, 0, 0, 0, 0), (35, .iconst (-1), 0, 0, 0, 0), (36, .ireturn, 0, 0, 0, 0)]
def tTw_cellAt : xTb := ((⟨"FirstFelt$Town", "cellAt", "(II)I"⟩, prog_7_method_5_code, 3, (some .int)), (0, 0), "FirstFelt$Town", false, iTw_cellAt)
def iTw_cellOfPair : List (Nat × xE) := [(0, .iload_n 1, 0, 0, 0, 0), (1, .ifCond .ge 7, 0, 0, 0, 0), (4, .iconst (-1), 0, 0, 0, 0), (5, .goto 15, 0, 0, 0, 0), (8, .aload_n 0, 0, 0, 0, 0), (9, .iload_n 1, 0, 0, 0, 0),
  (10, .bipush 10, 0, 0, 0, 0), (12, .idiv, 0, 0, 0, 0), (13, .iload_n 1, 0, 0, 0, 0), (14, .bipush 10, 0, 0, 0, 0), (16, .irem, 0, 0, 0, 0), (17, .invokevirtual 58, 65, 3, 5, 1),
  (20, .ireturn, 0, 0, 0, 0)]
def tTw_cellOfPair : xTb := ((⟨"FirstFelt$Town", "cellOfPair", "(I)I"⟩, prog_7_method_6_code, 2, (some .int)), (0, 0), "FirstFelt$Town", false, iTw_cellOfPair)
def iTw_pairOf : List (Nat × xE) := [(0, .aload_n 0, 0, 0, 0, 0), (1, .getfield 33, 5, 0, 0, 0), (4, .iconst 1, 0, 0, 0, 0), (5, .if_icmp .ge 7, 0, 0, 0, 0), (8, .iconst (-1), 0, 0, 0, 0), (9, .goto 19, 0, 0, 0, 0),
  (12, .iload_n 1, 0, 0, 0, 0), (13, .aload_n 0, 0, 0, 0, 0), (14, .getfield 33, 5, 0, 0, 0), (17, .irem, 0, 0, 0, 0), (18, .bipush 10, 0, 0, 0, 0), (20, .imul, 0, 0, 0, 0),
  (21, .iload_n 1, 0, 0, 0, 0), (22, .aload_n 0, 0, 0, 0, 0), (23, .getfield 33, 5, 0, 0, 0), (26, .idiv, 0, 0, 0, 0), (27, .iadd, 0, 0, 0, 0), (28, .ireturn, 0, 0, 0, 0)]
def tTw_pairOf : xTb := ((⟨"FirstFelt$Town", "pairOf", "(I)I"⟩, prog_7_method_7_code, 2, (some .int)), (0, 0), "FirstFelt$Town", false, iTw_pairOf)
def iTw_beside : List (Nat × xE) := [(0, .aload_n 0, 0, 0, 0, 0), (1, .getfield 9, 5, 6, 0, 0), (4, .iload_n 1, 0, 0, 0, 0), (5, .iconst 5, 0, 0, 0, 0), (6, .imul, 0, 0, 0, 0), (7, .iload_n 2, 0, 0, 0, 0),
  (8, .iadd, 0, 0, 0, 0), (9, .iaload, 0, 0, 0, 0), (10, .ireturn, 0, 0, 0, 0)]
def tTw_beside : xTb := ((⟨"FirstFelt$Town", "beside", "(II)I"⟩, prog_7_method_8_code, 3, (some .int)), (0, 0), "FirstFelt$Town", false, iTw_beside)
def iTw_sunAt : List (Nat × xE) := [(0, .aload_n 0, 0, 0, 0, 0), (1, .getfield 46, 5, 4, 0, 0), (4, .iconst 1, 0, 0, 0, 0), (5, .if_icmp .ge 7, 0, 0, 0, 0), (8, .iconst 0, 0, 0, 0, 0), (9, .goto 17, 0, 0, 0, 0),
  (12, .aload_n 0, 0, 0, 0, 0), (13, .getfield 18, 5, 8, 0, 0), (16, .iload_n 1, 0, 0, 0, 0), (17, .bipush 6, 0, 0, 0, 0), (19, .idiv, 0, 0, 0, 0), (20, .aload_n 0, 0, 0, 0, 0),
  (21, .getfield 46, 5, 4, 0, 0), (24, .irem, 0, 0, 0, 0), (25, .iaload, 0, 0, 0, 0), (26, .ireturn, 0, 0, 0, 0)]
def tTw_sunAt : xTb := ((⟨"FirstFelt$Town", "sunAt", "(I)I"⟩, prog_7_method_9_code, 2, (some .int)), (0, 0), "FirstFelt$Town", false, iTw_sunAt)
def iFf_init : List (Nat × xE) := [(0, .aload_n 0, 0, 0, 0, 0), (1, .invokespecial 1, 0, 1, 0, 3), (4, .aload_n 0, 0, 0, 0, 0), (5, .new 7, 2, 0, 0, 0), (8, .dup, 0, 0, 0, 0), (9, .invokespecial 9, 12, 1, 2, 2),
  (12, .putfield 10, 6, 0, 0, 0), (15, .aload_n 0, 0, 0, 0, 0), (16, .new 16, 1, 0, 0, 0), (19, .dup, 0, 0, 0, 0), (20, .bipush 12, 0, 0, 0, 0), (22, .invokespecial 18, 6, 2, 1, 2),
  (25, .putfield 21, 6, 1, 0, 0), (28, .aload_n 0, 0, 0, 0, 0), (29, .new 16, 1, 0, 0, 0), (32, .dup, 0, 0, 0, 0), (33, .bipush 8, 0, 0, 0, 0), (35, .invokespecial 18, 7, 2, 1, 2),
  (38, .putfield 25, 6, 2, 0, 0), (41, .aload_n 0, 0, 0, 0, 0), (42, .iconst 2, 0, 0, 0, 0), (43, .anewarray 28, 0, 0, 0, 0), (46, .putfield 30, 6, 3, 0, 0), (49, .aload_n 0, 0, 0, 0, 0),
  (50, .iconst 2, 0, 0, 0, 0), (51, .newarray .int, 0, 0, 0, 0), (53, .putfield 34, 6, 4, 0, 0), (56, .aload_n 0, 0, 0, 0, 0), (57, .new 28, 3, 0, 0, 0), (60, .dup, 0, 0, 0, 0),
  (61, .invokespecial 38, 29, 1, 3, 2), (64, .putfield 39, 6, 5, 0, 0), (67, .aload_n 0, 0, 0, 0, 0), (68, .new 28, 3, 0, 0, 0), (71, .dup, 0, 0, 0, 0), (72, .invokespecial 38, 29, 1, 3, 2),
  (75, .putfield 43, 6, 6, 0, 0), (78, .aload_n 0, 0, 0, 0, 0), (79, .new 46, 4, 0, 0, 0), (82, .dup, 0, 0, 0, 0), (83, .invokespecial 48, 58, 1, 4, 2), (86, .putfield 49, 6, 7, 0, 0),
  (89, .aload_n 0, 0, 0, 0, 0), (90, .new 53, 0, 0, 0, 0), (93, .dup, 0, 0, 0, 0), (94, .invokespecial 55, 0, 1, 0, 2), (97, .putfield 56, 6, 8, 0, 0), (100, .aload_n 0, 0, 0, 0, 0),
  (101, .new 60, 5, 0, 0, 0), (104, .dup, 0, 0, 0, 0), (105, .invokespecial 62, 61, 1, 5, 2), (108, .putfield 63, 6, 9, 0, 0), (111, .aload_n 0, 0, 0, 0, 0), (112, .new 60, 5, 0, 0, 0),
  (115, .dup, 0, 0, 0, 0), (116, .invokespecial 62, 61, 1, 5, 2), (119, .putfield 67, 6, 10, 0, 0), (122, .aload_n 0, 0, 0, 0, 0), (123, .new 28, 3, 0, 0, 0), (126, .dup, 0, 0, 0, 0),
  (127, .invokespecial 38, 29, 1, 3, 2), (130, .putfield 70, 6, 11, 0, 0), (133, .aload_n 0, 0, 0, 0, 0), (134, .new 28, 3, 0, 0, 0), (137, .dup, 0, 0, 0, 0), (138, .invokespecial 38, 29, 1, 3, 2),
  (141, .putfield 73, 6, 12, 0, 0), (144, .iconst 0, 0, 0, 0, 0), (145, .istore_n 1, 0, 0, 0, 0), (146, .iload_n 1, 0, 0, 0, 0), (147, .iconst 2, 0, 0, 0, 0), (148, .if_icmp .ge 22, 0, 0, 0, 0),
  (151, .aload_n 0, 0, 0, 0, 0), (152, .getfield 30, 6, 3, 0, 0), (155, .iload_n 1, 0, 0, 0, 0), (156, .new 28, 3, 0, 0, 0), (159, .dup, 0, 0, 0, 0), (160, .invokespecial 38, 29, 1, 3, 2),
  (163, .aastore, 0, 0, 0, 0), (164, .iinc 1 1, 0, 0, 0, 0), (167, .goto (-21), 0, 0, 0, 0), (170, .return_, 0, 0, 0, 0)]
def tFf_init : xTb := ((⟨"FirstFelt", "<init>", "()V"⟩, prog_1_method_1_code, 2, none), (190, 2565), "FirstFelt", false, iFf_init)
def iFf_feed : List (Nat × xE) := [(0, .iload_n 1, 0, 0, 0, 0), (1, .ifCond .lt 10, 0, 0, 0, 0), (4, .iload_n 1, 0, 0, 0, 0), (5, .sipush 255, 0, 0, 0, 0), (8, .if_icmp .le 6, 0, 0, 0, 0), (11, .ldc 76, 0, 0, 0, -1000000002),
  (13, .ireturn, 0, 0, 0, 0), (14, .aload_n 0, 0, 0, 0, 0), (15, .getfield 10, 6, 0, 0, 0), (18, .iload_n 1, 0, 0, 0, 0), (19, .invokevirtual 77, 13, 2, 2, 1), (22, .ifCond .eq 13, 0, 0, 0, 0),
  (25, .aload_n 0, 0, 0, 0, 0), (26, .getfield 10, 6, 0, 0, 0), (29, .getfield 81, 2, 1, 0, 0), (32, .goto 5, 0, 0, 0, 0), (35, .ldc 85, 0, 0, 0, -1000000004), (37, .ireturn, 0, 0, 0, 0)]
def tFf_feed : xTb := ((⟨"FirstFelt", "feed", "(I)I"⟩, prog_1_method_2_code, 2, (some .int)), (0, 0), "FirstFelt", false, iFf_feed)
def iFf_town : List (Nat × xE) := [(0, .aload_n 0, 0, 0, 0, 0), (1, .getfield 70, 6, 11, 0, 0), (4, .getfield 86, 3, 17, 0, 0), (7, .istore_n 1, 0, 0, 0, 0), (8, .aload_n 0, 0, 0, 0, 0), (9, .getfield 10, 6, 0, 0, 0),
  (12, .aload_n 0, 0, 0, 0, 0), (13, .getfield 67, 6, 10, 0, 0), (16, .aload_n 0, 0, 0, 0, 0), (17, .getfield 73, 6, 12, 0, 0), (20, .invokevirtual 89, 14, 3, 2, 1), (23, .istore_n 2, 0, 0, 0, 0),
  (24, .aload_n 0, 0, 0, 0, 0), (25, .getfield 10, 6, 0, 0, 0), (28, .iconst 0, 0, 0, 0, 0), (29, .putfield 81, 2, 1, 0, 0), (32, .iload_n 2, 0, 0, 0, 0), (33, .ifCond .ne 14, 0, 0, 0, 0),
  (36, .bipush (-10), 0, 0, 0, 0), (38, .aload_n 0, 0, 0, 0, 0), (39, .getfield 10, 6, 0, 0, 0), (42, .getfield 93, 2, 4, 0, 0), (45, .isub, 0, 0, 0, 0), (46, .ireturn, 0, 0, 0, 0),
  (47, .aload_n 0, 0, 0, 0, 0), (48, .getfield 63, 6, 9, 0, 0), (51, .astore_n 3, 0, 0, 0, 0), (52, .aload_n 0, 0, 0, 0, 0), (53, .aload_n 0, 0, 0, 0, 0), (54, .getfield 67, 6, 10, 0, 0),
  (57, .putfield 63, 6, 9, 0, 0), (60, .aload_n 0, 0, 0, 0, 0), (61, .aload_n 3, 0, 0, 0, 0), (62, .putfield 67, 6, 10, 0, 0), (65, .aload_n 0, 0, 0, 0, 0), (66, .getfield 70, 6, 11, 0, 0),
  (69, .astore 4, 0, 0, 0, 0), (71, .aload_n 0, 0, 0, 0, 0), (72, .aload_n 0, 0, 0, 0, 0), (73, .getfield 73, 6, 12, 0, 0), (76, .putfield 70, 6, 11, 0, 0), (79, .aload_n 0, 0, 0, 0, 0),
  (80, .aload 4, 0, 0, 0, 0), (82, .putfield 73, 6, 12, 0, 0), (85, .aload_n 0, 0, 0, 0, 0), (86, .getfield 70, 6, 11, 0, 0), (89, .iload_n 1, 0, 0, 0, 0), (90, .putfield 86, 3, 17, 0, 0),
  (93, .aload_n 0, 0, 0, 0, 0), (94, .getfield 21, 6, 1, 0, 0), (97, .iconst 0, 0, 0, 0, 0), (98, .putfield 96, 1, 3, 0, 0), (101, .aload_n 0, 0, 0, 0, 0), (102, .getfield 25, 6, 2, 0, 0),
  (105, .iconst 0, 0, 0, 0, 0), (106, .putfield 96, 1, 3, 0, 0), (109, .aload_n 0, 0, 0, 0, 0), (110, .getfield 34, 6, 4, 0, 0), (113, .iconst 0, 0, 0, 0, 0), (114, .invokestatic 99, 210, 2, 0, 0),
  (117, .aload_n 0, 0, 0, 0, 0), (118, .getfield 63, 6, 9, 0, 0), (121, .invokevirtual 105, 64, 1, 5, 1), (124, .ireturn, 0, 0, 0, 0)]
def tFf_town : xTb := ((⟨"FirstFelt", "town", "()I"⟩, prog_1_method_3_code, 5, (some .int)), (0, 0), "FirstFelt", false, iFf_town)
def iFf_fault : List (Nat × xE) := [(0, .aload_n 0, 0, 0, 0, 0), (1, .getfield 10, 6, 0, 0, 0), (4, .getfield 109, 2, 5, 0, 0), (7, .ireturn, 0, 0, 0, 0)]
def tFf_fault : xTb := ((⟨"FirstFelt", "fault", "()I"⟩, prog_1_method_4_code, 1, (some .int)), (0, 0), "FirstFelt", false, iFf_fault)
def iFf_told : List (Nat × xE) := [(0, .iload_n 1, 0, 0, 0, 0), (1, .tableswitch 206 0 14 #[75, 83, 91, 103, 111, 119, 127, 135, 143, 151, 159, 167, 182, 190, 198], 0, 0, 0, 0), (76, .aload_n 0, 0, 0, 0, 0), (77, .getfield 63, 6, 9, 0, 0), (80, .getfield 112, 5, 0, 0, 0), (83, .ireturn, 0, 0, 0, 0),
  (84, .aload_n 0, 0, 0, 0, 0), (85, .getfield 63, 6, 9, 0, 0), (88, .getfield 115, 5, 1, 0, 0), (91, .ireturn, 0, 0, 0, 0), (92, .aload_n 0, 0, 0, 0, 0), (93, .getfield 70, 6, 11, 0, 0),
  (96, .aload_n 0, 0, 0, 0, 0), (97, .getfield 63, 6, 9, 0, 0), (100, .invokevirtual 118, 34, 2, 3, 1), (103, .ireturn, 0, 0, 0, 0), (104, .aload_n 0, 0, 0, 0, 0), (105, .getfield 63, 6, 9, 0, 0),
  (108, .getfield 122, 5, 2, 0, 0), (111, .ireturn, 0, 0, 0, 0), (112, .aload_n 0, 0, 0, 0, 0), (113, .getfield 63, 6, 9, 0, 0), (116, .getfield 125, 5, 3, 0, 0), (119, .ireturn, 0, 0, 0, 0),
  (120, .aload_n 0, 0, 0, 0, 0), (121, .getfield 63, 6, 9, 0, 0), (124, .getfield 128, 5, 4, 0, 0), (127, .ireturn, 0, 0, 0, 0), (128, .aload_n 0, 0, 0, 0, 0), (129, .getfield 63, 6, 9, 0, 0),
  (132, .getfield 131, 5, 5, 0, 0), (135, .ireturn, 0, 0, 0, 0), (136, .aload_n 0, 0, 0, 0, 0), (137, .getfield 10, 6, 0, 0, 0), (140, .getfield 81, 2, 1, 0, 0), (143, .ireturn, 0, 0, 0, 0),
  (144, .aload_n 0, 0, 0, 0, 0), (145, .getfield 70, 6, 11, 0, 0), (148, .getfield 134, 3, 16, 0, 0), (151, .ireturn, 0, 0, 0, 0), (152, .aload_n 0, 0, 0, 0, 0), (153, .getfield 70, 6, 11, 0, 0),
  (156, .getfield 137, 3, 14, 0, 0), (159, .ireturn, 0, 0, 0, 0), (160, .aload_n 0, 0, 0, 0, 0), (161, .getfield 70, 6, 11, 0, 0), (164, .getfield 140, 3, 15, 0, 0), (167, .ireturn, 0, 0, 0, 0),
  (168, .aload_n 0, 0, 0, 0, 0), (169, .getfield 63, 6, 9, 0, 0), (172, .aload_n 0, 0, 0, 0, 0), (173, .getfield 70, 6, 11, 0, 0), (176, .getfield 134, 3, 16, 0, 0), (179, .invokevirtual 143, 69, 2, 5, 1),
  (182, .ireturn, 0, 0, 0, 0), (183, .aload_n 0, 0, 0, 0, 0), (184, .getfield 70, 6, 11, 0, 0), (187, .getfield 147, 3, 13, 0, 0), (190, .ireturn, 0, 0, 0, 0), (191, .aload_n 0, 0, 0, 0, 0),
  (192, .getfield 21, 6, 1, 0, 0), (195, .getfield 96, 1, 3, 0, 0), (198, .ireturn, 0, 0, 0, 0), (199, .aload_n 0, 0, 0, 0, 0), (200, .getfield 25, 6, 2, 0, 0), (203, .getfield 96, 1, 3, 0, 0),
  (206, .ireturn, 0, 0, 0, 0), (207, .ldc 76, 0, 0, 0, -1000000002), (209, .ireturn, 0, 0, 0, 0)]
def tFf_told : xTb := ((⟨"FirstFelt", "told", "(I)I"⟩, prog_1_method_5_code, 2, (some .int)), (0, 0), "FirstFelt", false, iFf_told)
def iFf_cell : List (Nat × xE) := [(0, .aload_n 0, 0, 0, 0, 0), (1, .getfield 63, 6, 9, 0, 0), (4, .iload_n 1, 0, 0, 0, 0), (5, .iload_n 2, 0, 0, 0, 0), (6, .invokevirtual 150, 65, 3, 5, 1), (9, .istore 4, 0, 0, 0, 0),
  (11, .iload 4, 0, 0, 0, 0), (13, .iconst (-1), 0, 0, 0, 0), (14, .if_icmp .ne 6, 0, 0, 0, 0), (17, .ldc 154, 0, 0, 0, -1000000001), (19, .ireturn, 0, 0, 0, 0), (20, .iload_n 3, 0, 0, 0, 0),
  (21, .tableswitch 78 0 3 #[31, 42, 53, 64], 0, 0, 0, 0), (52, .aload_n 0, 0, 0, 0, 0), (53, .getfield 70, 6, 11, 0, 0), (56, .getfield 155, 3, 0, 0, 0), (59, .iload 4, 0, 0, 0, 0), (61, .iaload, 0, 0, 0, 0),
  (62, .ireturn, 0, 0, 0, 0), (63, .aload_n 0, 0, 0, 0, 0), (64, .getfield 70, 6, 11, 0, 0), (67, .getfield 158, 3, 2, 0, 0), (70, .iload 4, 0, 0, 0, 0), (72, .iaload, 0, 0, 0, 0),
  (73, .ireturn, 0, 0, 0, 0), (74, .aload_n 0, 0, 0, 0, 0), (75, .getfield 63, 6, 9, 0, 0), (78, .getfield 161, 5, 7, 0, 0), (81, .iload 4, 0, 0, 0, 0), (83, .iaload, 0, 0, 0, 0),
  (84, .ireturn, 0, 0, 0, 0), (85, .aload_n 0, 0, 0, 0, 0), (86, .getfield 70, 6, 11, 0, 0), (89, .aload_n 0, 0, 0, 0, 0), (90, .getfield 63, 6, 9, 0, 0), (93, .iload 4, 0, 0, 0, 0),
  (95, .invokevirtual 164, 36, 3, 3, 1), (98, .ireturn, 0, 0, 0, 0), (99, .ldc 76, 0, 0, 0, -1000000002), (101, .ireturn, 0, 0, 0, 0)]
def tFf_cell : xTb := ((⟨"FirstFelt", "cell", "(III)I"⟩, prog_1_method_6_code, 5, (some .int)), (0, 0), "FirstFelt", false, iFf_cell)
def iFf_wall : List (Nat × xE) := [(0, .aload_n 0, 0, 0, 0, 0), (1, .iload_n 1, 0, 0, 0, 0), (2, .iload_n 2, 0, 0, 0, 0), (3, .iload_n 3, 0, 0, 0, 0), (4, .invokevirtual 168, 107, 4, 6, 1), (7, .istore 4, 0, 0, 0, 0),
  (9, .iload 4, 0, 0, 0, 0), (11, .ifCond .eq 8, 0, 0, 0, 0), (14, .iload 4, 0, 0, 0, 0), (16, .goto 20, 0, 0, 0, 0), (19, .aload_n 0, 0, 0, 0, 0), (20, .getfield 70, 6, 11, 0, 0),
  (23, .aload_n 0, 0, 0, 0, 0), (24, .getfield 63, 6, 9, 0, 0), (27, .iload_n 1, 0, 0, 0, 0), (28, .iload_n 2, 0, 0, 0, 0), (29, .invokevirtual 150, 65, 3, 5, 1), (32, .iload_n 3, 0, 0, 0, 0),
  (33, .invokevirtual 172, 33, 3, 3, 1), (36, .ireturn, 0, 0, 0, 0)]
def tFf_wall : xTb := ((⟨"FirstFelt", "wall", "(III)I"⟩, prog_1_method_7_code, 5, (some .int)), (0, 0), "FirstFelt", false, iFf_wall)
def iFf_stove : List (Nat × xE) := [(0, .aload_n 0, 0, 0, 0, 0), (1, .iload_n 1, 0, 0, 0, 0), (2, .invokevirtual 175, 104, 2, 6, 1), (5, .ifCond .ne 6, 0, 0, 0, 0), (8, .ldc 154, 0, 0, 0, -1000000001), (10, .ireturn, 0, 0, 0, 0),
  (11, .iload_n 2, 0, 0, 0, 0), (12, .tableswitch 79 0 3 #[32, 49, 59, 69], 0, 0, 0, 0), (44, .aload_n 0, 0, 0, 0, 0), (45, .getfield 63, 6, 9, 0, 0), (48, .aload_n 0, 0, 0, 0, 0), (49, .getfield 63, 6, 9, 0, 0),
  (52, .getfield 178, 5, 9, 0, 0), (55, .iload_n 1, 0, 0, 0, 0), (56, .iaload, 0, 0, 0, 0), (57, .invokevirtual 181, 67, 2, 5, 1), (60, .ireturn, 0, 0, 0, 0), (61, .aload_n 0, 0, 0, 0, 0),
  (62, .getfield 63, 6, 9, 0, 0), (65, .getfield 184, 5, 10, 0, 0), (68, .iload_n 1, 0, 0, 0, 0), (69, .iaload, 0, 0, 0, 0), (70, .ireturn, 0, 0, 0, 0), (71, .aload_n 0, 0, 0, 0, 0),
  (72, .getfield 70, 6, 11, 0, 0), (75, .getfield 187, 3, 5, 0, 0), (78, .iload_n 1, 0, 0, 0, 0), (79, .iaload, 0, 0, 0, 0), (80, .ireturn, 0, 0, 0, 0), (81, .aload_n 0, 0, 0, 0, 0),
  (82, .getfield 70, 6, 11, 0, 0), (85, .getfield 190, 3, 6, 0, 0), (88, .iload_n 1, 0, 0, 0, 0), (89, .iaload, 0, 0, 0, 0), (90, .ireturn, 0, 0, 0, 0), (91, .ldc 76, 0, 0, 0, -1000000002),
  (93, .ireturn, 0, 0, 0, 0)]
def tFf_stove : xTb := ((⟨"FirstFelt", "stove", "(II)I"⟩, prog_1_method_8_code, 3, (some .int)), (0, 0), "FirstFelt", false, iFf_stove)
def iFf_person : List (Nat × xE) := [(0, .aload_n 0, 0, 0, 0, 0), (1, .iload_n 1, 0, 0, 0, 0), (2, .invokevirtual 193, 103, 2, 6, 1), (5, .ifCond .ne 6, 0, 0, 0, 0), (8, .ldc 154, 0, 0, 0, -1000000001), (10, .ireturn, 0, 0, 0, 0),
  (11, .iload_n 2, 0, 0, 0, 0), (12, .tableswitch 138 0 7 #[48, 65, 75, 85, 95, 105, 115, 128], 0, 0, 0, 0), (60, .aload_n 0, 0, 0, 0, 0), (61, .getfield 63, 6, 9, 0, 0), (64, .aload_n 0, 0, 0, 0, 0), (65, .getfield 70, 6, 11, 0, 0),
  (68, .getfield 196, 3, 7, 0, 0), (71, .iload_n 1, 0, 0, 0, 0), (72, .iaload, 0, 0, 0, 0), (73, .invokevirtual 181, 67, 2, 5, 1), (76, .ireturn, 0, 0, 0, 0), (77, .aload_n 0, 0, 0, 0, 0),
  (78, .getfield 70, 6, 11, 0, 0), (81, .getfield 199, 3, 8, 0, 0), (84, .iload_n 1, 0, 0, 0, 0), (85, .iaload, 0, 0, 0, 0), (86, .ireturn, 0, 0, 0, 0), (87, .aload_n 0, 0, 0, 0, 0),
  (88, .getfield 63, 6, 9, 0, 0), (91, .getfield 202, 5, 11, 0, 0), (94, .iload_n 1, 0, 0, 0, 0), (95, .iaload, 0, 0, 0, 0), (96, .ireturn, 0, 0, 0, 0), (97, .aload_n 0, 0, 0, 0, 0),
  (98, .getfield 63, 6, 9, 0, 0), (101, .getfield 205, 5, 12, 0, 0), (104, .iload_n 1, 0, 0, 0, 0), (105, .iaload, 0, 0, 0, 0), (106, .ireturn, 0, 0, 0, 0), (107, .aload_n 0, 0, 0, 0, 0),
  (108, .getfield 70, 6, 11, 0, 0), (111, .getfield 208, 3, 9, 0, 0), (114, .iload_n 1, 0, 0, 0, 0), (115, .iaload, 0, 0, 0, 0), (116, .ireturn, 0, 0, 0, 0), (117, .aload_n 0, 0, 0, 0, 0),
  (118, .getfield 70, 6, 11, 0, 0), (121, .getfield 211, 3, 10, 0, 0), (124, .iload_n 1, 0, 0, 0, 0), (125, .iaload, 0, 0, 0, 0), (126, .ireturn, 0, 0, 0, 0), (127, .aload_n 0, 0, 0, 0, 0),
  (128, .getfield 70, 6, 11, 0, 0), (131, .aload_n 0, 0, 0, 0, 0), (132, .getfield 63, 6, 9, 0, 0), (135, .iload_n 1, 0, 0, 0, 0), (136, .invokevirtual 214, 37, 3, 3, 1), (139, .ireturn, 0, 0, 0, 0),
  (140, .aload_n 0, 0, 0, 0, 0), (141, .getfield 70, 6, 11, 0, 0), (144, .getfield 217, 3, 11, 0, 0), (147, .iload_n 1, 0, 0, 0, 0), (148, .iaload, 0, 0, 0, 0), (149, .ireturn, 0, 0, 0, 0),
  (150, .ldc 76, 0, 0, 0, -1000000002), (152, .ireturn, 0, 0, 0, 0)]
def tFf_person : xTb := ((⟨"FirstFelt", "person", "(II)I"⟩, prog_1_method_9_code, 3, (some .int)), (0, 0), "FirstFelt", false, iFf_person)
def iFf_go : List (Nat × xE) := [(0, .aload_n 0, 0, 0, 0, 0), (1, .iload_n 1, 0, 0, 0, 0), (2, .invokevirtual 193, 103, 2, 6, 1), (5, .ifCond .ne 6, 0, 0, 0, 0), (8, .ldc 154, 0, 0, 0, -1000000001), (10, .ireturn, 0, 0, 0, 0),
  (11, .iload_n 2, 0, 0, 0, 0), (12, .iconst 1, 0, 0, 0, 0), (13, .if_icmp .lt 8, 0, 0, 0, 0), (16, .iload_n 2, 0, 0, 0, 0), (17, .iconst 4, 0, 0, 0, 0), (18, .if_icmp .le 6, 0, 0, 0, 0),
  (21, .ldc 76, 0, 0, 0, -1000000002), (23, .ireturn, 0, 0, 0, 0), (24, .aload_n 0, 0, 0, 0, 0), (25, .getfield 70, 6, 11, 0, 0), (28, .aload_n 0, 0, 0, 0, 0), (29, .getfield 63, 6, 9, 0, 0),
  (32, .aload_n 0, 0, 0, 0, 0), (33, .getfield 70, 6, 11, 0, 0), (36, .getfield 196, 3, 7, 0, 0), (39, .iload_n 1, 0, 0, 0, 0), (40, .iaload, 0, 0, 0, 0), (41, .iload_n 2, 0, 0, 0, 0),
  (42, .invokevirtual 220, 35, 4, 3, 1), (45, .istore_n 3, 0, 0, 0, 0), (46, .iload_n 3, 0, 0, 0, 0), (47, .iconst (-1), 0, 0, 0, 0), (48, .if_icmp .ne 6, 0, 0, 0, 0), (51, .ldc 224, 0, 0, 0, -1000000003),
  (53, .ireturn, 0, 0, 0, 0), (54, .aload_n 0, 0, 0, 0, 0), (55, .getfield 70, 6, 11, 0, 0), (58, .getfield 196, 3, 7, 0, 0), (61, .iload_n 1, 0, 0, 0, 0), (62, .iload_n 3, 0, 0, 0, 0),
  (63, .iastore, 0, 0, 0, 0), (64, .aload_n 0, 0, 0, 0, 0), (65, .getfield 63, 6, 9, 0, 0), (68, .iload_n 3, 0, 0, 0, 0), (69, .invokevirtual 181, 67, 2, 5, 1), (72, .ireturn, 0, 0, 0, 0)]
def tFf_go : xTb := ((⟨"FirstFelt", "go", "(II)I"⟩, prog_1_method_10_code, 4, (some .int)), (0, 0), "FirstFelt", false, iFf_go)
def iFf_build : List (Nat × xE) := [(0, .aload_n 0, 0, 0, 0, 0), (1, .iload_n 1, 0, 0, 0, 0), (2, .iload_n 2, 0, 0, 0, 0), (3, .iload_n 3, 0, 0, 0, 0), (4, .invokevirtual 168, 107, 4, 6, 1), (7, .istore 5, 0, 0, 0, 0),
  (9, .iload 5, 0, 0, 0, 0), (11, .ifCond .eq 6, 0, 0, 0, 0), (14, .iload 5, 0, 0, 0, 0), (16, .ireturn, 0, 0, 0, 0), (17, .aload_n 0, 0, 0, 0, 0), (18, .getfield 63, 6, 9, 0, 0),
  (21, .iload_n 1, 0, 0, 0, 0), (22, .iload_n 2, 0, 0, 0, 0), (23, .invokevirtual 150, 65, 3, 5, 1), (26, .istore 6, 0, 0, 0, 0), (28, .aload_n 0, 0, 0, 0, 0), (29, .getfield 70, 6, 11, 0, 0),
  (32, .iload 6, 0, 0, 0, 0), (34, .iload_n 3, 0, 0, 0, 0), (35, .invokevirtual 172, 33, 3, 3, 1), (38, .istore 7, 0, 0, 0, 0), (40, .aload_n 0, 0, 0, 0, 0), (41, .getfield 70, 6, 11, 0, 0),
  (44, .aload_n 0, 0, 0, 0, 0), (45, .getfield 63, 6, 9, 0, 0), (48, .iload 6, 0, 0, 0, 0), (50, .iload_n 3, 0, 0, 0, 0), (51, .iload 4, 0, 0, 0, 0), (53, .invokevirtual 225, 32, 5, 3, 0),
  (56, .iload 7, 0, 0, 0, 0), (58, .ireturn, 0, 0, 0, 0)]
def tFf_build : xTb := ((⟨"FirstFelt", "build", "(IIIZ)I"⟩, prog_1_method_11_code, 8, (some .int)), (0, 0), "FirstFelt", false, iFf_build)
def iFf_light : List (Nat × xE) := [(0, .aload_n 0, 0, 0, 0, 0), (1, .iload_n 1, 0, 0, 0, 0), (2, .invokevirtual 175, 104, 2, 6, 1), (5, .ifCond .ne 6, 0, 0, 0, 0), (8, .ldc 154, 0, 0, 0, -1000000001), (10, .ireturn, 0, 0, 0, 0),
  (11, .aload_n 0, 0, 0, 0, 0), (12, .getfield 70, 6, 11, 0, 0), (15, .iload_n 1, 0, 0, 0, 0), (16, .invokevirtual 229, 38, 2, 3, 1), (19, .ifCond .ne 6, 0, 0, 0, 0), (22, .ldc 224, 0, 0, 0, -1000000003),
  (24, .ireturn, 0, 0, 0, 0), (25, .aload_n 0, 0, 0, 0, 0), (26, .getfield 70, 6, 11, 0, 0), (29, .getfield 190, 3, 6, 0, 0), (32, .iload_n 1, 0, 0, 0, 0), (33, .iconst 1, 0, 0, 0, 0),
  (34, .iastore, 0, 0, 0, 0), (35, .aload_n 0, 0, 0, 0, 0), (36, .getfield 70, 6, 11, 0, 0), (39, .getfield 187, 3, 5, 0, 0), (42, .iload_n 1, 0, 0, 0, 0), (43, .iaload, 0, 0, 0, 0),
  (44, .ireturn, 0, 0, 0, 0)]
def tFf_light : xTb := ((⟨"FirstFelt", "light", "(I)I"⟩, prog_1_method_12_code, 2, (some .int)), (0, 0), "FirstFelt", false, iFf_light)
def iFf_stoke : List (Nat × xE) := [(0, .aload_n 0, 0, 0, 0, 0), (1, .iload_n 1, 0, 0, 0, 0), (2, .invokevirtual 175, 104, 2, 6, 1), (5, .ifCond .ne 6, 0, 0, 0, 0), (8, .ldc 154, 0, 0, 0, -1000000001), (10, .ireturn, 0, 0, 0, 0),
  (11, .iload_n 2, 0, 0, 0, 0), (12, .iconst 1, 0, 0, 0, 0), (13, .if_icmp .lt 9, 0, 0, 0, 0), (16, .iload_n 2, 0, 0, 0, 0), (17, .bipush 99, 0, 0, 0, 0), (19, .if_icmp .le 6, 0, 0, 0, 0),
  (22, .ldc 76, 0, 0, 0, -1000000002), (24, .ireturn, 0, 0, 0, 0), (25, .aload_n 0, 0, 0, 0, 0), (26, .getfield 70, 6, 11, 0, 0), (29, .getfield 187, 3, 5, 0, 0), (32, .iload_n 1, 0, 0, 0, 0),
  (33, .sipush 999, 0, 0, 0, 0), (36, .aload_n 0, 0, 0, 0, 0), (37, .getfield 70, 6, 11, 0, 0), (40, .getfield 187, 3, 5, 0, 0), (43, .iload_n 1, 0, 0, 0, 0), (44, .iaload, 0, 0, 0, 0),
  (45, .iload_n 2, 0, 0, 0, 0), (46, .iadd, 0, 0, 0, 0), (47, .invokestatic 232, 209, 2, 0, 1), (50, .iastore, 0, 0, 0, 0), (51, .aload_n 0, 0, 0, 0, 0), (52, .getfield 70, 6, 11, 0, 0),
  (55, .getfield 187, 3, 5, 0, 0), (58, .iload_n 1, 0, 0, 0, 0), (59, .iaload, 0, 0, 0, 0), (60, .ireturn, 0, 0, 0, 0)]
def tFf_stoke : xTb := ((⟨"FirstFelt", "stoke", "(II)I"⟩, prog_1_method_13_code, 3, (some .int)), (0, 0), "FirstFelt", false, iFf_stoke)
def iFf_law : List (Nat × xE) := [(0, .iload_n 1, 0, 0, 0, 0), (1, .invokestatic 237, 105, 1, 6, 1), (4, .ifCond .ne 6, 0, 0, 0, 0), (7, .ldc 76, 0, 0, 0, -1000000002), (9, .ireturn, 0, 0, 0, 0), (10, .aload_n 0, 0, 0, 0, 0),
  (11, .getfield 70, 6, 11, 0, 0), (14, .getfield 137, 3, 14, 0, 0), (17, .istore_n 2, 0, 0, 0, 0), (18, .aload_n 0, 0, 0, 0, 0), (19, .getfield 70, 6, 11, 0, 0), (22, .iload_n 1, 0, 0, 0, 0),
  (23, .putfield 137, 3, 14, 0, 0), (26, .iload_n 2, 0, 0, 0, 0), (27, .ireturn, 0, 0, 0, 0)]
def tFf_law : xTb := ((⟨"FirstFelt", "law", "(I)I"⟩, prog_1_method_14_code, 3, (some .int)), (0, 0), "FirstFelt", false, iFf_law)
def iFf_last : List (Nat × xE) := [(0, .iload_n 1, 0, 0, 0, 0), (1, .iconst 1, 0, 0, 0, 0), (2, .if_icmp .lt 9, 0, 0, 0, 0), (5, .iload_n 1, 0, 0, 0, 0), (6, .bipush 20, 0, 0, 0, 0), (8, .if_icmp .le 6, 0, 0, 0, 0),
  (11, .ldc 76, 0, 0, 0, -1000000002), (13, .ireturn, 0, 0, 0, 0), (14, .aload_n 0, 0, 0, 0, 0), (15, .getfield 70, 6, 11, 0, 0), (18, .getfield 140, 3, 15, 0, 0), (21, .istore_n 2, 0, 0, 0, 0),
  (22, .aload_n 0, 0, 0, 0, 0), (23, .getfield 70, 6, 11, 0, 0), (26, .iload_n 1, 0, 0, 0, 0), (27, .putfield 140, 3, 15, 0, 0), (30, .iload_n 2, 0, 0, 0, 0), (31, .ireturn, 0, 0, 0, 0)]
def tFf_last : xTb := ((⟨"FirstFelt", "last", "(I)I"⟩, prog_1_method_15_code, 3, (some .int)), (0, 0), "FirstFelt", false, iFf_last)
def iFf_minute : List (Nat × xE) := [(0, .aload_n 0, 0, 0, 0, 0), (1, .iload_n 1, 0, 0, 0, 0), (2, .invokevirtual 240, 108, 2, 6, 1), (5, .istore_n 2, 0, 0, 0, 0), (6, .iload_n 2, 0, 0, 0, 0), (7, .ifCond .eq 5, 0, 0, 0, 0),
  (10, .iload_n 2, 0, 0, 0, 0), (11, .ireturn, 0, 0, 0, 0), (12, .aload_n 0, 0, 0, 0, 0), (13, .getfield 70, 6, 11, 0, 0), (16, .aload_n 0, 0, 0, 0, 0), (17, .getfield 63, 6, 9, 0, 0),
  (20, .iload_n 1, 0, 0, 0, 0), (21, .iconst (-1), 0, 0, 0, 0), (22, .invokevirtual 243, 41, 4, 3, 0), (25, .aload_n 0, 0, 0, 0, 0), (26, .getfield 70, 6, 11, 0, 0), (29, .getfield 134, 3, 16, 0, 0),
  (32, .ireturn, 0, 0, 0, 0)]
def tFf_minute : xTb := ((⟨"FirstFelt", "minute", "(I)I"⟩, prog_1_method_16_code, 3, (some .int)), (0, 0), "FirstFelt", false, iFf_minute)
def iFf_drift : List (Nat × xE) := [(0, .aload_n 0, 0, 0, 0, 0), (1, .iload_n 1, 0, 0, 0, 0), (2, .invokevirtual 240, 108, 2, 6, 1), (5, .istore_n 2, 0, 0, 0, 0), (6, .iload_n 2, 0, 0, 0, 0), (7, .ifCond .eq 5, 0, 0, 0, 0),
  (10, .iload_n 2, 0, 0, 0, 0), (11, .ireturn, 0, 0, 0, 0), (12, .iconst 0, 0, 0, 0, 0), (13, .istore_n 3, 0, 0, 0, 0), (14, .iload_n 3, 0, 0, 0, 0), (15, .iload_n 1, 0, 0, 0, 0),
  (16, .if_icmp .ge 25, 0, 0, 0, 0), (19, .aload_n 0, 0, 0, 0, 0), (20, .invokevirtual 247, 111, 1, 6, 0), (23, .aload_n 0, 0, 0, 0, 0), (24, .getfield 70, 6, 11, 0, 0), (27, .aload_n 0, 0, 0, 0, 0),
  (28, .getfield 63, 6, 9, 0, 0), (31, .iconst (-1), 0, 0, 0, 0), (32, .invokevirtual 250, 42, 3, 3, 0), (35, .iinc 3 1, 0, 0, 0, 0), (38, .goto (-24), 0, 0, 0, 0), (41, .aload_n 0, 0, 0, 0, 0),
  (42, .getfield 70, 6, 11, 0, 0), (45, .getfield 134, 3, 16, 0, 0), (48, .ireturn, 0, 0, 0, 0)]
def tFf_drift : xTb := ((⟨"FirstFelt", "drift", "(I)I"⟩, prog_1_method_17_code, 4, (some .int)), (0, 0), "FirstFelt", false, iFf_drift)
def iFf_then : List (Nat × xE) := [(0, .aload_n 0, 0, 0, 0, 0), (1, .getfield 63, 6, 9, 0, 0), (4, .iload_n 1, 0, 0, 0, 0), (5, .iload_n 2, 0, 0, 0, 0), (6, .invokevirtual 150, 65, 3, 5, 1), (9, .istore 5, 0, 0, 0, 0),
  (11, .iload 5, 0, 0, 0, 0), (13, .iconst (-1), 0, 0, 0, 0), (14, .if_icmp .ne 6, 0, 0, 0, 0), (17, .ldc 154, 0, 0, 0, -1000000001), (19, .ireturn, 0, 0, 0, 0), (20, .iload_n 3, 0, 0, 0, 0),
  (21, .invokestatic 254, 106, 1, 6, 1), (24, .ifCond .eq 14, 0, 0, 0, 0), (27, .iload 4, 0, 0, 0, 0), (29, .ifCond .lt 9, 0, 0, 0, 0), (32, .iload 4, 0, 0, 0, 0), (34, .iconst 1, 0, 0, 0, 0),
  (35, .if_icmp .le 6, 0, 0, 0, 0), (38, .ldc 76, 0, 0, 0, -1000000002), (40, .ireturn, 0, 0, 0, 0), (41, .aload_n 0, 0, 0, 0, 0), (42, .getfield 39, 6, 5, 0, 0), (45, .aload_n 0, 0, 0, 0, 0),
  (46, .getfield 70, 6, 11, 0, 0), (49, .invokevirtual 257, 31, 2, 3, 0), (52, .aload_n 0, 0, 0, 0, 0), (53, .getfield 39, 6, 5, 0, 0), (56, .aload_n 0, 0, 0, 0, 0), (57, .getfield 63, 6, 9, 0, 0),
  (60, .iload_n 3, 0, 0, 0, 0), (61, .iconst (-1), 0, 0, 0, 0), (62, .invokevirtual 243, 41, 4, 3, 0), (65, .iload 4, 0, 0, 0, 0), (67, .ifCond .ne 16, 0, 0, 0, 0), (70, .aload_n 0, 0, 0, 0, 0),
  (71, .getfield 39, 6, 5, 0, 0), (74, .getfield 155, 3, 0, 0, 0), (77, .iload 5, 0, 0, 0, 0), (79, .iaload, 0, 0, 0, 0), (80, .goto 13, 0, 0, 0, 0), (83, .aload_n 0, 0, 0, 0, 0),
  (84, .getfield 39, 6, 5, 0, 0), (87, .getfield 158, 3, 2, 0, 0), (90, .iload 5, 0, 0, 0, 0), (92, .iaload, 0, 0, 0, 0), (93, .ireturn, 0, 0, 0, 0)]
def tFf_then : xTb := ((⟨"FirstFelt", "then", "(IIII)I"⟩, prog_1_method_18_code, 6, (some .int)), (0, 0), "FirstFelt", false, iFf_then)
def iFf_stands : List (Nat × xE) := [(0, .aload_n 0, 0, 0, 0, 0), (1, .iload_n 1, 0, 0, 0, 0), (2, .invokevirtual 193, 103, 2, 6, 1), (5, .ifCond .ne 6, 0, 0, 0, 0), (8, .ldc 154, 0, 0, 0, -1000000001), (10, .ireturn, 0, 0, 0, 0),
  (11, .iload_n 2, 0, 0, 0, 0), (12, .iconst 1, 0, 0, 0, 0), (13, .if_icmp .lt 8, 0, 0, 0, 0), (16, .iload_n 2, 0, 0, 0, 0), (17, .iconst 5, 0, 0, 0, 0), (18, .if_icmp .le 6, 0, 0, 0, 0),
  (21, .ldc 76, 0, 0, 0, -1000000002), (23, .ireturn, 0, 0, 0, 0), (24, .iload_n 3, 0, 0, 0, 0), (25, .iconst (-1), 0, 0, 0, 0), (26, .if_icmp .eq 14, 0, 0, 0, 0), (29, .iload_n 3, 0, 0, 0, 0),
  (30, .ifCond .lt 8, 0, 0, 0, 0), (33, .iload_n 3, 0, 0, 0, 0), (34, .iload_n 2, 0, 0, 0, 0), (35, .if_icmp .lt 5, 0, 0, 0, 0), (38, .iconst (-1), 0, 0, 0, 0), (39, .ireturn, 0, 0, 0, 0),
  (40, .aload_n 0, 0, 0, 0, 0), (41, .getfield 49, 6, 7, 0, 0), (44, .aload_n 0, 0, 0, 0, 0), (45, .getfield 63, 6, 9, 0, 0), (48, .aload_n 0, 0, 0, 0, 0), (49, .getfield 70, 6, 11, 0, 0),
  (52, .iload_n 1, 0, 0, 0, 0), (53, .iload_n 2, 0, 0, 0, 0), (54, .invokevirtual 261, 59, 5, 4, 0), (57, .aload_n 0, 0, 0, 0, 0), (58, .getfield 49, 6, 7, 0, 0), (61, .iconst 0, 0, 0, 0, 0),
  (62, .invokestatic 265, 116, 2, 6, 0), (65, .iload_n 3, 0, 0, 0, 0), (66, .iconst (-1), 0, 0, 0, 0), (67, .if_icmp .ne 13, 0, 0, 0, 0), (70, .aload_n 0, 0, 0, 0, 0), (71, .getfield 49, 6, 7, 0, 0),
  (74, .getfield 269, 4, 6, 0, 0), (77, .goto 12, 0, 0, 0, 0), (80, .aload_n 0, 0, 0, 0, 0), (81, .getfield 49, 6, 7, 0, 0), (84, .getfield 272, 4, 2, 0, 0), (87, .iload_n 3, 0, 0, 0, 0),
  (88, .iaload, 0, 0, 0, 0), (89, .ireturn, 0, 0, 0, 0)]
def tFf_stands : xTb := ((⟨"FirstFelt", "stands", "(III)I"⟩, prog_1_method_19_code, 4, (some .int)), (0, 0), "FirstFelt", false, iFf_stands)
def iFf_lightFor : List (Nat × xE) := [(0, .aload_n 0, 0, 0, 0, 0), (1, .iload_n 1, 0, 0, 0, 0), (2, .iload_n 2, 0, 0, 0, 0), (3, .iload_n 3, 0, 0, 0, 0), (4, .invokevirtual 275, 109, 4, 6, 1), (7, .istore 4, 0, 0, 0, 0),
  (9, .iload 4, 0, 0, 0, 0), (11, .ifCond .eq 6, 0, 0, 0, 0), (14, .iload 4, 0, 0, 0, 0), (16, .ireturn, 0, 0, 0, 0), (17, .aload_n 0, 0, 0, 0, 0), (18, .getfield 43, 6, 6, 0, 0),
  (21, .aload_n 0, 0, 0, 0, 0), (22, .getfield 70, 6, 11, 0, 0), (25, .invokevirtual 257, 31, 2, 3, 0), (28, .iconst 0, 0, 0, 0, 0), (29, .istore 5, 0, 0, 0, 0), (31, .iload 5, 0, 0, 0, 0),
  (33, .iload_n 3, 0, 0, 0, 0), (34, .if_icmp .gt 42, 0, 0, 0, 0), (37, .aload_n 0, 0, 0, 0, 0), (38, .aload_n 0, 0, 0, 0, 0), (39, .getfield 43, 6, 6, 0, 0), (42, .iload_n 1, 0, 0, 0, 0),
  (43, .iload_n 2, 0, 0, 0, 0), (44, .iload_n 3, 0, 0, 0, 0), (45, .iload 5, 0, 0, 0, 0), (47, .isub, 0, 0, 0, 0), (48, .iconst (-1), 0, 0, 0, 0), (49, .invokevirtual 278, 112, 6, 6, 1),
  (52, .ifCond .eq 6, 0, 0, 0, 0), (55, .iload 5, 0, 0, 0, 0), (57, .ireturn, 0, 0, 0, 0), (58, .aload_n 0, 0, 0, 0, 0), (59, .getfield 43, 6, 6, 0, 0), (62, .aload_n 0, 0, 0, 0, 0),
  (63, .getfield 63, 6, 9, 0, 0), (66, .iconst (-1), 0, 0, 0, 0), (67, .invokevirtual 250, 42, 3, 3, 0), (70, .iinc 5 1, 0, 0, 0, 0), (73, .goto (-42), 0, 0, 0, 0), (76, .iconst (-1), 0, 0, 0, 0),
  (77, .ireturn, 0, 0, 0, 0)]
def tFf_lightFor : xTb := ((⟨"FirstFelt", "lightFor", "(III)I"⟩, prog_1_method_20_code, 6, (some .int)), (0, 0), "FirstFelt", false, iFf_lightFor)
def iFf_keptOut : List (Nat × xE) := [(0, .aload_n 0, 0, 0, 0, 0), (1, .iload_n 1, 0, 0, 0, 0), (2, .iload_n 2, 0, 0, 0, 0), (3, .iload_n 3, 0, 0, 0, 0), (4, .invokevirtual 275, 109, 4, 6, 1), (7, .istore 4, 0, 0, 0, 0),
  (9, .iload 4, 0, 0, 0, 0), (11, .ifCond .eq 6, 0, 0, 0, 0), (14, .iload 4, 0, 0, 0, 0), (16, .ireturn, 0, 0, 0, 0), (17, .aload_n 0, 0, 0, 0, 0), (18, .aload_n 0, 0, 0, 0, 0),
  (19, .getfield 70, 6, 11, 0, 0), (22, .iload_n 1, 0, 0, 0, 0), (23, .iload_n 2, 0, 0, 0, 0), (24, .iload_n 3, 0, 0, 0, 0), (25, .iconst (-1), 0, 0, 0, 0), (26, .invokevirtual 278, 112, 6, 6, 1),
  (29, .ifCond .eq 5, 0, 0, 0, 0), (32, .iconst (-1), 0, 0, 0, 0), (33, .ireturn, 0, 0, 0, 0), (34, .iconst 0, 0, 0, 0, 0), (35, .istore 5, 0, 0, 0, 0), (37, .iload 5, 0, 0, 0, 0),
  (39, .aload_n 0, 0, 0, 0, 0), (40, .getfield 63, 6, 9, 0, 0), (43, .getfield 131, 5, 5, 0, 0), (46, .if_icmp .ge 34, 0, 0, 0, 0), (49, .iload 5, 0, 0, 0, 0), (51, .iload_n 1, 0, 0, 0, 0),
  (52, .if_icmp .eq 22, 0, 0, 0, 0), (55, .aload_n 0, 0, 0, 0, 0), (56, .aload_n 0, 0, 0, 0, 0), (57, .getfield 70, 6, 11, 0, 0), (60, .iload_n 1, 0, 0, 0, 0), (61, .iload_n 2, 0, 0, 0, 0),
  (62, .iload_n 3, 0, 0, 0, 0), (63, .iload 5, 0, 0, 0, 0), (65, .invokevirtual 278, 112, 6, 6, 1), (68, .ifCond .eq 6, 0, 0, 0, 0), (71, .iload 5, 0, 0, 0, 0), (73, .ireturn, 0, 0, 0, 0),
  (74, .iinc 5 1, 0, 0, 0, 0), (77, .goto (-40), 0, 0, 0, 0), (80, .iconst (-1), 0, 0, 0, 0), (81, .ireturn, 0, 0, 0, 0)]
def tFf_keptOut : xTb := ((⟨"FirstFelt", "keptOut", "(III)I"⟩, prog_1_method_21_code, 6, (some .int)), (0, 0), "FirstFelt", false, iFf_keptOut)
def iFf_gain : List (Nat × xE) := [(0, .aload_n 0, 0, 0, 0, 0), (1, .iload_n 1, 0, 0, 0, 0), (2, .invokevirtual 193, 103, 2, 6, 1), (5, .ifCond .ne 6, 0, 0, 0, 0), (8, .ldc 154, 0, 0, 0, -1000000001), (10, .ireturn, 0, 0, 0, 0),
  (11, .aload_n 0, 0, 0, 0, 0), (12, .iload_n 2, 0, 0, 0, 0), (13, .iload_n 3, 0, 0, 0, 0), (14, .iload 4, 0, 0, 0, 0), (16, .invokevirtual 168, 107, 4, 6, 1), (19, .istore 6, 0, 0, 0, 0),
  (21, .iload 6, 0, 0, 0, 0), (23, .ifCond .eq 6, 0, 0, 0, 0), (26, .iload 6, 0, 0, 0, 0), (28, .ireturn, 0, 0, 0, 0), (29, .iload 5, 0, 0, 0, 0), (31, .invokestatic 254, 106, 1, 6, 1),
  (34, .ifCond .ne 6, 0, 0, 0, 0), (37, .ldc 76, 0, 0, 0, -1000000002), (39, .ireturn, 0, 0, 0, 0), (40, .aload_n 0, 0, 0, 0, 0), (41, .getfield 63, 6, 9, 0, 0), (44, .iload_n 2, 0, 0, 0, 0),
  (45, .iload_n 3, 0, 0, 0, 0), (46, .invokevirtual 150, 65, 3, 5, 1), (49, .istore 7, 0, 0, 0, 0), (51, .aload_n 0, 0, 0, 0, 0), (52, .iload_n 1, 0, 0, 0, 0), (53, .iload 7, 0, 0, 0, 0),
  (55, .iload 4, 0, 0, 0, 0), (57, .iload 5, 0, 0, 0, 0), (59, .iconst 1, 0, 0, 0, 0), (60, .invokevirtual 282, 113, 6, 6, 1), (63, .aload_n 0, 0, 0, 0, 0), (64, .iload_n 1, 0, 0, 0, 0),
  (65, .iload 7, 0, 0, 0, 0), (67, .iload 4, 0, 0, 0, 0), (69, .iload 5, 0, 0, 0, 0), (71, .iconst 0, 0, 0, 0, 0), (72, .invokevirtual 282, 113, 6, 6, 1), (75, .isub, 0, 0, 0, 0),
  (76, .ireturn, 0, 0, 0, 0)]
def tFf_gain : xTb := ((⟨"FirstFelt", "gain", "(IIIII)I"⟩, prog_1_method_22_code, 8, (some .int)), (0, 0), "FirstFelt", false, iFf_gain)
def iFf_rents : List (Nat × xE) := [(0, .iload_n 1, 0, 0, 0, 0), (1, .iconst (-1), 0, 0, 0, 0), (2, .if_icmp .eq 14, 0, 0, 0, 0), (5, .aload_n 0, 0, 0, 0, 0), (6, .iload_n 1, 0, 0, 0, 0), (7, .invokevirtual 193, 103, 2, 6, 1),
  (10, .ifCond .ne 6, 0, 0, 0, 0), (13, .ldc 154, 0, 0, 0, -1000000001), (15, .ireturn, 0, 0, 0, 0), (16, .aload_n 0, 0, 0, 0, 0), (17, .getfield 56, 6, 8, 0, 0), (20, .aload_n 0, 0, 0, 0, 0),
  (21, .getfield 63, 6, 9, 0, 0), (24, .aload_n 0, 0, 0, 0, 0), (25, .getfield 70, 6, 11, 0, 0), (28, .invokevirtual 286, 1, 3, 0, 1), (31, .istore_n 2, 0, 0, 0, 0), (32, .iload_n 1, 0, 0, 0, 0),
  (33, .iconst (-1), 0, 0, 0, 0), (34, .if_icmp .eq 8, 0, 0, 0, 0), (37, .iload_n 2, 0, 0, 0, 0), (38, .iconst (-1), 0, 0, 0, 0), (39, .if_icmp .ne 7, 0, 0, 0, 0), (42, .iload_n 2, 0, 0, 0, 0),
  (43, .goto 12, 0, 0, 0, 0), (46, .aload_n 0, 0, 0, 0, 0), (47, .getfield 56, 6, 8, 0, 0), (50, .getfield 290, 0, 0, 0, 0), (53, .iload_n 1, 0, 0, 0, 0), (54, .iaload, 0, 0, 0, 0),
  (55, .ireturn, 0, 0, 0, 0)]
def tFf_rents : xTb := ((⟨"FirstFelt", "rents", "(I)I"⟩, prog_1_method_23_code, 3, (some .int)), (0, 0), "FirstFelt", false, iFf_rents)
def iFf_claim : List (Nat × xE) := [(0, .aload_n 0, 0, 0, 0, 0), (1, .getfield 63, 6, 9, 0, 0), (4, .iload_n 2, 0, 0, 0, 0), (5, .invokevirtual 293, 66, 2, 5, 1), (8, .istore 4, 0, 0, 0, 0), (10, .aload_n 0, 0, 0, 0, 0),
  (11, .iload_n 1, 0, 0, 0, 0), (12, .invokevirtual 193, 103, 2, 6, 1), (15, .ifCond .eq 9, 0, 0, 0, 0), (18, .iload 4, 0, 0, 0, 0), (20, .iconst (-1), 0, 0, 0, 0), (21, .if_icmp .ne 6, 0, 0, 0, 0),
  (24, .ldc 154, 0, 0, 0, -1000000001), (26, .ireturn, 0, 0, 0, 0), (27, .iload_n 3, 0, 0, 0, 0), (28, .ifCond .lt 9, 0, 0, 0, 0), (31, .iload_n 3, 0, 0, 0, 0), (32, .bipush 60, 0, 0, 0, 0),
  (34, .if_icmp .lt 6, 0, 0, 0, 0), (37, .ldc 76, 0, 0, 0, -1000000002), (39, .ireturn, 0, 0, 0, 0), (40, .aload_n 0, 0, 0, 0, 0), (41, .getfield 21, 6, 1, 0, 0), (44, .iload_n 1, 0, 0, 0, 0),
  (45, .iload 4, 0, 0, 0, 0), (47, .iload_n 3, 0, 0, 0, 0), (48, .invokevirtual 296, 8, 4, 1, 1), (51, .ifCond .eq 13, 0, 0, 0, 0), (54, .aload_n 0, 0, 0, 0, 0), (55, .getfield 21, 6, 1, 0, 0),
  (58, .getfield 96, 1, 3, 0, 0), (61, .goto 5, 0, 0, 0, 0), (64, .ldc 85, 0, 0, 0, -1000000004), (66, .ireturn, 0, 0, 0, 0)]
def tFf_claim : xTb := ((⟨"FirstFelt", "claim", "(III)I"⟩, prog_1_method_24_code, 5, (some .int)), (0, 0), "FirstFelt", false, iFf_claim)
def iFf_forged : List (Nat × xE) := [(0, .iconst 0, 0, 0, 0, 0), (1, .istore_n 1, 0, 0, 0, 0), (2, .aload_n 0, 0, 0, 0, 0), (3, .getfield 21, 6, 1, 0, 0), (6, .invokevirtual 300, 9, 1, 1, 1), (9, .istore_n 2, 0, 0, 0, 0),
  (10, .aload_n 0, 0, 0, 0, 0), (11, .getfield 39, 6, 5, 0, 0), (14, .aload_n 0, 0, 0, 0, 0), (15, .getfield 70, 6, 11, 0, 0), (18, .invokevirtual 257, 31, 2, 3, 0), (21, .iconst 0, 0, 0, 0, 0),
  (22, .istore_n 3, 0, 0, 0, 0), (23, .iload_n 3, 0, 0, 0, 0), (24, .iload_n 2, 0, 0, 0, 0), (25, .if_icmp .gt 36, 0, 0, 0, 0), (28, .aload_n 0, 0, 0, 0, 0), (29, .getfield 39, 6, 5, 0, 0),
  (32, .aload_n 0, 0, 0, 0, 0), (33, .getfield 63, 6, 9, 0, 0), (36, .iconst (-1), 0, 0, 0, 0), (37, .invokevirtual 250, 42, 3, 3, 0), (40, .iload_n 1, 0, 0, 0, 0), (41, .aload_n 0, 0, 0, 0, 0),
  (42, .getfield 21, 6, 1, 0, 0), (45, .iload_n 3, 0, 0, 0, 0), (46, .aload_n 0, 0, 0, 0, 0), (47, .getfield 39, 6, 5, 0, 0), (50, .invokevirtual 303, 10, 3, 1, 1), (53, .ior, 0, 0, 0, 0),
  (54, .istore_n 1, 0, 0, 0, 0), (55, .iinc 3 1, 0, 0, 0, 0), (58, .goto (-35), 0, 0, 0, 0), (61, .iload_n 1, 0, 0, 0, 0), (62, .ireturn, 0, 0, 0, 0)]
def tFf_forged : xTb := ((⟨"FirstFelt", "forged", "()I"⟩, prog_1_method_25_code, 4, (some .int)), (0, 0), "FirstFelt", false, iFf_forged)
def iFf_cold : List (Nat × xE) := [(0, .iload_n 1, 0, 0, 0, 0), (1, .invokestatic 237, 105, 1, 6, 1), (4, .ifCond .eq 19, 0, 0, 0, 0), (7, .iload_n 2, 0, 0, 0, 0), (8, .invokestatic 254, 106, 1, 6, 1), (11, .ifCond .eq 12, 0, 0, 0, 0),
  (14, .aload_n 0, 0, 0, 0, 0), (15, .iload_n 1, 0, 0, 0, 0), (16, .iload_n 2, 0, 0, 0, 0), (17, .invokevirtual 307, 114, 3, 6, 1), (20, .goto 5, 0, 0, 0, 0), (23, .ldc 76, 0, 0, 0, -1000000002),
  (25, .ireturn, 0, 0, 0, 0)]
def tFf_cold : xTb := ((⟨"FirstFelt", "cold", "(II)I"⟩, prog_1_method_26_code, 3, (some .int)), (0, 0), "FirstFelt", false, iFf_cold)
def iFf_mildest : List (Nat × xE) := [(0, .iload_n 1, 0, 0, 0, 0), (1, .invokestatic 254, 106, 1, 6, 1), (4, .ifCond .ne 6, 0, 0, 0, 0), (7, .ldc 76, 0, 0, 0, -1000000002), (9, .ireturn, 0, 0, 0, 0), (10, .iconst 0, 0, 0, 0, 0),
  (11, .istore_n 2, 0, 0, 0, 0), (12, .aload_n 0, 0, 0, 0, 0), (13, .iconst 0, 0, 0, 0, 0), (14, .iload_n 1, 0, 0, 0, 0), (15, .invokevirtual 307, 114, 3, 6, 1), (18, .istore_n 3, 0, 0, 0, 0),
  (19, .iconst 1, 0, 0, 0, 0), (20, .istore 4, 0, 0, 0, 0), (22, .iload 4, 0, 0, 0, 0), (24, .iconst 3, 0, 0, 0, 0), (25, .if_icmp .gt 30, 0, 0, 0, 0), (28, .aload_n 0, 0, 0, 0, 0),
  (29, .iload 4, 0, 0, 0, 0), (31, .iload_n 1, 0, 0, 0, 0), (32, .invokevirtual 307, 114, 3, 6, 1), (35, .istore 5, 0, 0, 0, 0), (37, .iload 5, 0, 0, 0, 0), (39, .iload_n 3, 0, 0, 0, 0),
  (40, .if_icmp .ge 9, 0, 0, 0, 0), (43, .iload 5, 0, 0, 0, 0), (45, .istore_n 3, 0, 0, 0, 0), (46, .iload 4, 0, 0, 0, 0), (48, .istore_n 2, 0, 0, 0, 0), (49, .iinc 4 1, 0, 0, 0, 0),
  (52, .goto (-30), 0, 0, 0, 0), (55, .iload_n 2, 0, 0, 0, 0), (56, .ireturn, 0, 0, 0, 0)]
def tFf_mildest : xTb := ((⟨"FirstFelt", "mildest", "(I)I"⟩, prog_1_method_27_code, 6, (some .int)), (0, 0), "FirstFelt", false, iFf_mildest)
def iFf_deed : List (Nat × xE) := [(0, .aload_n 0, 0, 0, 0, 0), (1, .getfield 63, 6, 9, 0, 0), (4, .iload_n 2, 0, 0, 0, 0), (5, .invokevirtual 293, 66, 2, 5, 1), (8, .istore 4, 0, 0, 0, 0), (10, .aload_n 0, 0, 0, 0, 0),
  (11, .iload_n 1, 0, 0, 0, 0), (12, .invokevirtual 193, 103, 2, 6, 1), (15, .ifCond .eq 9, 0, 0, 0, 0), (18, .iload 4, 0, 0, 0, 0), (20, .iconst (-1), 0, 0, 0, 0), (21, .if_icmp .ne 6, 0, 0, 0, 0),
  (24, .ldc 154, 0, 0, 0, -1000000001), (26, .ireturn, 0, 0, 0, 0), (27, .iload_n 3, 0, 0, 0, 0), (28, .invokestatic 254, 106, 1, 6, 1), (31, .ifCond .ne 6, 0, 0, 0, 0), (34, .ldc 76, 0, 0, 0, -1000000002),
  (36, .ireturn, 0, 0, 0, 0), (37, .aload_n 0, 0, 0, 0, 0), (38, .getfield 25, 6, 2, 0, 0), (41, .iload_n 1, 0, 0, 0, 0), (42, .iload 4, 0, 0, 0, 0), (44, .iload_n 3, 0, 0, 0, 0),
  (45, .invokevirtual 296, 8, 4, 1, 1), (48, .ifCond .eq 13, 0, 0, 0, 0), (51, .aload_n 0, 0, 0, 0, 0), (52, .getfield 25, 6, 2, 0, 0), (55, .getfield 96, 1, 3, 0, 0), (58, .goto 5, 0, 0, 0, 0),
  (61, .ldc 85, 0, 0, 0, -1000000004), (63, .ireturn, 0, 0, 0, 0)]
def tFf_deed : xTb := ((⟨"FirstFelt", "deed", "(III)I"⟩, prog_1_method_28_code, 5, (some .int)), (0, 0), "FirstFelt", false, iFf_deed)
def iFf_wasLit : List (Nat × xE) := [(0, .aload_n 0, 0, 0, 0, 0), (1, .iload_n 1, 0, 0, 0, 0), (2, .invokevirtual 175, 104, 2, 6, 1), (5, .ifCond .ne 6, 0, 0, 0, 0), (8, .ldc 154, 0, 0, 0, -1000000001), (10, .ireturn, 0, 0, 0, 0),
  (11, .aload_n 0, 0, 0, 0, 0), (12, .getfield 70, 6, 11, 0, 0), (15, .iload_n 1, 0, 0, 0, 0), (16, .invokevirtual 229, 38, 2, 3, 1), (19, .ifCond .ne 6, 0, 0, 0, 0), (22, .ldc 224, 0, 0, 0, -1000000003),
  (24, .ireturn, 0, 0, 0, 0), (25, .iconst 0, 0, 0, 0, 0), (26, .istore_n 3, 0, 0, 0, 0), (27, .aload_n 0, 0, 0, 0, 0), (28, .getfield 43, 6, 6, 0, 0), (31, .aload_n 0, 0, 0, 0, 0),
  (32, .getfield 70, 6, 11, 0, 0), (35, .invokevirtual 257, 31, 2, 3, 0), (38, .iconst 0, 0, 0, 0, 0), (39, .istore 4, 0, 0, 0, 0), (41, .iload 4, 0, 0, 0, 0), (43, .bipush 60, 0, 0, 0, 0),
  (45, .if_icmp .ge 63, 0, 0, 0, 0), (48, .aload_n 0, 0, 0, 0, 0), (49, .iload_n 1, 0, 0, 0, 0), (50, .iload 4, 0, 0, 0, 0), (52, .invokevirtual 310, 115, 3, 6, 1), (55, .ifCond .eq 14, 0, 0, 0, 0),
  (58, .iload_n 3, 0, 0, 0, 0), (59, .iload_n 2, 0, 0, 0, 0), (60, .if_icmp .ne 6, 0, 0, 0, 0), (63, .iload 4, 0, 0, 0, 0), (65, .ireturn, 0, 0, 0, 0), (66, .iinc 3 1, 0, 0, 0, 0),
  (69, .aload_n 0, 0, 0, 0, 0), (70, .getfield 43, 6, 6, 0, 0), (73, .aload_n 0, 0, 0, 0, 0), (74, .getfield 63, 6, 9, 0, 0), (77, .iconst (-1), 0, 0, 0, 0), (78, .invokevirtual 250, 42, 3, 3, 0),
  (81, .aload_n 0, 0, 0, 0, 0), (82, .getfield 25, 6, 2, 0, 0), (85, .iload 4, 0, 0, 0, 0), (87, .iconst 1, 0, 0, 0, 0), (88, .iadd, 0, 0, 0, 0), (89, .aload_n 0, 0, 0, 0, 0),
  (90, .getfield 43, 6, 6, 0, 0), (93, .invokevirtual 314, 11, 3, 1, 1), (96, .ifCond .ne 6, 0, 0, 0, 0), (99, .goto 9, 0, 0, 0, 0), (102, .iinc 4 1, 0, 0, 0, 0), (105, .goto (-64), 0, 0, 0, 0),
  (108, .iload_n 2, 0, 0, 0, 0), (109, .iconst (-1), 0, 0, 0, 0), (110, .if_icmp .ne 7, 0, 0, 0, 0), (113, .iload_n 3, 0, 0, 0, 0), (114, .goto 4, 0, 0, 0, 0), (117, .iconst (-1), 0, 0, 0, 0),
  (118, .ireturn, 0, 0, 0, 0)]
def tFf_wasLit : xTb := ((⟨"FirstFelt", "wasLit", "(II)I"⟩, prog_1_method_29_code, 5, (some .int)), (0, 0), "FirstFelt", false, iFf_wasLit)
def iFf_tear : List (Nat × xE) := [(0, .aload_n 0, 0, 0, 0, 0), (1, .getfield 21, 6, 1, 0, 0), (4, .getfield 96, 1, 3, 0, 0), (7, .aload_n 0, 0, 0, 0, 0), (8, .getfield 25, 6, 2, 0, 0), (11, .getfield 96, 1, 3, 0, 0),
  (14, .iadd, 0, 0, 0, 0), (15, .istore_n 1, 0, 0, 0, 0), (16, .aload_n 0, 0, 0, 0, 0), (17, .getfield 21, 6, 1, 0, 0), (20, .iconst 0, 0, 0, 0, 0), (21, .putfield 96, 1, 3, 0, 0),
  (24, .aload_n 0, 0, 0, 0, 0), (25, .getfield 25, 6, 2, 0, 0), (28, .iconst 0, 0, 0, 0, 0), (29, .putfield 96, 1, 3, 0, 0), (32, .iload_n 1, 0, 0, 0, 0), (33, .ireturn, 0, 0, 0, 0)]
def tFf_tear : xTb := ((⟨"FirstFelt", "tear", "()I"⟩, prog_1_method_30_code, 2, (some .int)), (0, 0), "FirstFelt", false, iFf_tear)
def iFf_seed : List (Nat × xE) := [(0, .iload_n 1, 0, 0, 0, 0), (1, .ifCond .ge 6, 0, 0, 0, 0), (4, .ldc 76, 0, 0, 0, -1000000002), (6, .ireturn, 0, 0, 0, 0), (7, .aload_n 0, 0, 0, 0, 0), (8, .getfield 70, 6, 11, 0, 0),
  (11, .getfield 86, 3, 17, 0, 0), (14, .istore_n 2, 0, 0, 0, 0), (15, .aload_n 0, 0, 0, 0, 0), (16, .getfield 70, 6, 11, 0, 0), (19, .iload_n 1, 0, 0, 0, 0), (20, .putfield 86, 3, 17, 0, 0),
  (23, .iload_n 2, 0, 0, 0, 0), (24, .ireturn, 0, 0, 0, 0)]
def tFf_seed : xTb := ((⟨"FirstFelt", "seed", "(I)I"⟩, prog_1_method_31_code, 3, (some .int)), (0, 0), "FirstFelt", false, iFf_seed)
def iFf_keep : List (Nat × xE) := [(0, .iload_n 1, 0, 0, 0, 0), (1, .ifCond .lt 8, 0, 0, 0, 0), (4, .iload_n 1, 0, 0, 0, 0), (5, .iconst 2, 0, 0, 0, 0), (6, .if_icmp .lt 6, 0, 0, 0, 0), (9, .ldc 154, 0, 0, 0, -1000000001),
  (11, .ireturn, 0, 0, 0, 0), (12, .aload_n 0, 0, 0, 0, 0), (13, .getfield 30, 6, 3, 0, 0), (16, .iload_n 1, 0, 0, 0, 0), (17, .aaload, 0, 0, 0, 0), (18, .aload_n 0, 0, 0, 0, 0),
  (19, .getfield 70, 6, 11, 0, 0), (22, .invokevirtual 257, 31, 2, 3, 0), (25, .aload_n 0, 0, 0, 0, 0), (26, .getfield 34, 6, 4, 0, 0), (29, .iload_n 1, 0, 0, 0, 0), (30, .iconst 1, 0, 0, 0, 0),
  (31, .iastore, 0, 0, 0, 0), (32, .iconst 1, 0, 0, 0, 0), (33, .ireturn, 0, 0, 0, 0)]
def tFf_keep : xTb := ((⟨"FirstFelt", "keep", "(I)I"⟩, prog_1_method_32_code, 2, (some .int)), (0, 0), "FirstFelt", false, iFf_keep)
def iFf_goBack : List (Nat × xE) := [(0, .iload_n 1, 0, 0, 0, 0), (1, .ifCond .lt 8, 0, 0, 0, 0), (4, .iload_n 1, 0, 0, 0, 0), (5, .iconst 2, 0, 0, 0, 0), (6, .if_icmp .lt 6, 0, 0, 0, 0), (9, .ldc 154, 0, 0, 0, -1000000001),
  (11, .ireturn, 0, 0, 0, 0), (12, .aload_n 0, 0, 0, 0, 0), (13, .getfield 34, 6, 4, 0, 0), (16, .iload_n 1, 0, 0, 0, 0), (17, .iaload, 0, 0, 0, 0), (18, .ifCond .ne 6, 0, 0, 0, 0),
  (21, .ldc 224, 0, 0, 0, -1000000003), (23, .ireturn, 0, 0, 0, 0), (24, .aload_n 0, 0, 0, 0, 0), (25, .getfield 70, 6, 11, 0, 0), (28, .aload_n 0, 0, 0, 0, 0), (29, .getfield 30, 6, 3, 0, 0),
  (32, .iload_n 1, 0, 0, 0, 0), (33, .aaload, 0, 0, 0, 0), (34, .invokevirtual 257, 31, 2, 3, 0), (37, .iconst 1, 0, 0, 0, 0), (38, .ireturn, 0, 0, 0, 0)]
def tFf_goBack : xTb := ((⟨"FirstFelt", "goBack", "(I)I"⟩, prog_1_method_33_code, 2, (some .int)), (0, 0), "FirstFelt", false, iFf_goBack)
def iFf_isPerson : List (Nat × xE) := [(0, .iload_n 1, 0, 0, 0, 0), (1, .ifCond .lt 18, 0, 0, 0, 0), (4, .iload_n 1, 0, 0, 0, 0), (5, .aload_n 0, 0, 0, 0, 0), (6, .getfield 63, 6, 9, 0, 0), (9, .getfield 131, 5, 5, 0, 0),
  (12, .if_icmp .ge 7, 0, 0, 0, 0), (15, .iconst 1, 0, 0, 0, 0), (16, .goto 4, 0, 0, 0, 0), (19, .iconst 0, 0, 0, 0, 0), (20, .ireturn, 0, 0, 0, 0)]
def tFf_isPerson : xTb := ((⟨"FirstFelt", "isPerson", "(I)Z"⟩, prog_1_method_34_code, 2, (some .boolean)), (0, 0), "FirstFelt", true, iFf_isPerson)
def iFf_isStove : List (Nat × xE) := [(0, .iload_n 1, 0, 0, 0, 0), (1, .ifCond .lt 18, 0, 0, 0, 0), (4, .iload_n 1, 0, 0, 0, 0), (5, .aload_n 0, 0, 0, 0, 0), (6, .getfield 63, 6, 9, 0, 0), (9, .getfield 122, 5, 2, 0, 0),
  (12, .if_icmp .ge 7, 0, 0, 0, 0), (15, .iconst 1, 0, 0, 0, 0), (16, .goto 4, 0, 0, 0, 0), (19, .iconst 0, 0, 0, 0, 0), (20, .ireturn, 0, 0, 0, 0)]
def tFf_isStove : xTb := ((⟨"FirstFelt", "isStove", "(I)Z"⟩, prog_1_method_35_code, 2, (some .boolean)), (0, 0), "FirstFelt", true, iFf_isStove)
def iFf_isLaw : List (Nat × xE) := [(0, .iload_n 0, 0, 0, 0, 0), (1, .ifCond .lt 12, 0, 0, 0, 0), (4, .iload_n 0, 0, 0, 0, 0), (5, .iconst 3, 0, 0, 0, 0), (6, .if_icmp .gt 7, 0, 0, 0, 0), (9, .iconst 1, 0, 0, 0, 0),
  (10, .goto 4, 0, 0, 0, 0), (13, .iconst 0, 0, 0, 0, 0), (14, .ireturn, 0, 0, 0, 0)]
def tFf_isLaw : xTb := ((⟨"FirstFelt", "isLaw", "(I)Z"⟩, prog_1_method_36_code, 1, (some .boolean)), (0, 0), "FirstFelt", true, iFf_isLaw)
def iFf_isSpan : List (Nat × xE) := [(0, .iload_n 0, 0, 0, 0, 0), (1, .iconst 1, 0, 0, 0, 0), (2, .if_icmp .lt 13, 0, 0, 0, 0), (5, .iload_n 0, 0, 0, 0, 0), (6, .bipush 60, 0, 0, 0, 0), (8, .if_icmp .gt 7, 0, 0, 0, 0),
  (11, .iconst 1, 0, 0, 0, 0), (12, .goto 4, 0, 0, 0, 0), (15, .iconst 0, 0, 0, 0, 0), (16, .ireturn, 0, 0, 0, 0)]
def tFf_isSpan : xTb := ((⟨"FirstFelt", "isSpan", "(I)Z"⟩, prog_1_method_37_code, 1, (some .boolean)), (0, 0), "FirstFelt", true, iFf_isSpan)
def iFf_refusalOfWall : List (Nat × xE) := [(0, .aload_n 0, 0, 0, 0, 0), (1, .getfield 63, 6, 9, 0, 0), (4, .iload_n 1, 0, 0, 0, 0), (5, .iload_n 2, 0, 0, 0, 0), (6, .invokevirtual 150, 65, 3, 5, 1), (9, .istore 4, 0, 0, 0, 0),
  (11, .iload 4, 0, 0, 0, 0), (13, .iconst (-1), 0, 0, 0, 0), (14, .if_icmp .ne 6, 0, 0, 0, 0), (17, .ldc 154, 0, 0, 0, -1000000001), (19, .ireturn, 0, 0, 0, 0), (20, .iload_n 3, 0, 0, 0, 0),
  (21, .ifCond .lt 8, 0, 0, 0, 0), (24, .iload_n 3, 0, 0, 0, 0), (25, .iconst 1, 0, 0, 0, 0), (26, .if_icmp .le 6, 0, 0, 0, 0), (29, .ldc 76, 0, 0, 0, -1000000002), (31, .ireturn, 0, 0, 0, 0),
  (32, .aload_n 0, 0, 0, 0, 0), (33, .getfield 63, 6, 9, 0, 0), (36, .iload 4, 0, 0, 0, 0), (38, .iload_n 3, 0, 0, 0, 0), (39, .invokestatic 318, 110, 1, 6, 1), (42, .invokevirtual 321, 68, 3, 5, 1),
  (45, .iconst (-1), 0, 0, 0, 0), (46, .if_icmp .ne 8, 0, 0, 0, 0), (49, .ldc 154, 0, 0, 0, -1000000001), (51, .goto 4, 0, 0, 0, 0), (54, .iconst 0, 0, 0, 0, 0), (55, .ireturn, 0, 0, 0, 0)]
def tFf_refusalOfWall : xTb := ((⟨"FirstFelt", "refusalOfWall", "(III)I"⟩, prog_1_method_38_code, 5, (some .int)), (0, 0), "FirstFelt", false, iFf_refusalOfWall)
def iFf_refusalOfMinutes : List (Nat × xE) := [(0, .iload_n 1, 0, 0, 0, 0), (1, .invokestatic 254, 106, 1, 6, 1), (4, .ifCond .ne 6, 0, 0, 0, 0), (7, .ldc 76, 0, 0, 0, -1000000002), (9, .ireturn, 0, 0, 0, 0), (10, .aload_n 0, 0, 0, 0, 0),
  (11, .getfield 63, 6, 9, 0, 0), (14, .invokevirtual 105, 64, 1, 5, 1), (17, .ifCond .ne 6, 0, 0, 0, 0), (20, .ldc 224, 0, 0, 0, -1000000003), (22, .ireturn, 0, 0, 0, 0), (23, .aload_n 0, 0, 0, 0, 0),
  (24, .getfield 70, 6, 11, 0, 0), (27, .getfield 134, 3, 16, 0, 0), (30, .ldc_w 324, 0, 0, 0, 900000), (33, .if_icmp .le 8, 0, 0, 0, 0), (36, .ldc 85, 0, 0, 0, -1000000004), (38, .goto 4, 0, 0, 0, 0),
  (41, .iconst 0, 0, 0, 0, 0), (42, .ireturn, 0, 0, 0, 0)]
def tFf_refusalOfMinutes : xTb := ((⟨"FirstFelt", "refusalOfMinutes", "(I)I"⟩, prog_1_method_39_code, 2, (some .int)), (0, 0), "FirstFelt", false, iFf_refusalOfMinutes)
def iFf_refusalOfLighting : List (Nat × xE) := [(0, .aload_n 0, 0, 0, 0, 0), (1, .iload_n 1, 0, 0, 0, 0), (2, .invokevirtual 193, 103, 2, 6, 1), (5, .ifCond .eq 11, 0, 0, 0, 0), (8, .aload_n 0, 0, 0, 0, 0), (9, .iload_n 2, 0, 0, 0, 0),
  (10, .invokevirtual 175, 104, 2, 6, 1), (13, .ifCond .ne 6, 0, 0, 0, 0), (16, .ldc 154, 0, 0, 0, -1000000001), (18, .ireturn, 0, 0, 0, 0), (19, .iload_n 3, 0, 0, 0, 0), (20, .iconst 1, 0, 0, 0, 0),
  (21, .if_icmp .lt 9, 0, 0, 0, 0), (24, .iload_n 3, 0, 0, 0, 0), (25, .bipush 30, 0, 0, 0, 0), (27, .if_icmp .le 6, 0, 0, 0, 0), (30, .ldc 76, 0, 0, 0, -1000000002), (32, .ireturn, 0, 0, 0, 0),
  (33, .aload_n 0, 0, 0, 0, 0), (34, .getfield 70, 6, 11, 0, 0), (37, .iload_n 2, 0, 0, 0, 0), (38, .invokevirtual 229, 38, 2, 3, 1), (41, .ifCond .eq 7, 0, 0, 0, 0), (44, .iconst 0, 0, 0, 0, 0),
  (45, .goto 5, 0, 0, 0, 0), (48, .ldc 224, 0, 0, 0, -1000000003), (50, .ireturn, 0, 0, 0, 0)]
def tFf_refusalOfLighting : xTb := ((⟨"FirstFelt", "refusalOfLighting", "(III)I"⟩, prog_1_method_40_code, 4, (some .int)), (0, 0), "FirstFelt", false, iFf_refusalOfLighting)
def iFf_wayOfWall : List (Nat × xE) := [(0, .iload_n 0, 0, 0, 0, 0), (1, .ifCond .ne 7, 0, 0, 0, 0), (4, .iconst 2, 0, 0, 0, 0), (5, .goto 4, 0, 0, 0, 0), (8, .iconst 3, 0, 0, 0, 0), (9, .ireturn, 0, 0, 0, 0)]
def tFf_wayOfWall : xTb := ((⟨"FirstFelt", "wayOfWall", "(I)I"⟩, prog_1_method_41_code, 1, (some .int)), (0, 0), "FirstFelt", false, iFf_wayOfWall)
def iFf_wander : List (Nat × xE) := [(0, .iconst 0, 0, 0, 0, 0), (1, .istore_n 1, 0, 0, 0, 0), (2, .iload_n 1, 0, 0, 0, 0), (3, .aload_n 0, 0, 0, 0, 0), (4, .getfield 63, 6, 9, 0, 0), (7, .getfield 131, 5, 5, 0, 0),
  (10, .if_icmp .ge 53, 0, 0, 0, 0), (13, .aload_n 0, 0, 0, 0, 0), (14, .getfield 70, 6, 11, 0, 0), (17, .aload_n 0, 0, 0, 0, 0), (18, .getfield 63, 6, 9, 0, 0), (21, .aload_n 0, 0, 0, 0, 0),
  (22, .getfield 70, 6, 11, 0, 0), (25, .getfield 196, 3, 7, 0, 0), (28, .iload_n 1, 0, 0, 0, 0), (29, .iaload, 0, 0, 0, 0), (30, .aload_n 0, 0, 0, 0, 0), (31, .getfield 70, 6, 11, 0, 0),
  (34, .iconst 5, 0, 0, 0, 0), (35, .invokevirtual 325, 40, 2, 3, 1), (38, .invokevirtual 220, 35, 4, 3, 1), (41, .istore_n 2, 0, 0, 0, 0), (42, .iload_n 2, 0, 0, 0, 0), (43, .iconst (-1), 0, 0, 0, 0),
  (44, .if_icmp .eq 13, 0, 0, 0, 0), (47, .aload_n 0, 0, 0, 0, 0), (48, .getfield 70, 6, 11, 0, 0), (51, .getfield 196, 3, 7, 0, 0), (54, .iload_n 1, 0, 0, 0, 0), (55, .iload_n 2, 0, 0, 0, 0),
  (56, .iastore, 0, 0, 0, 0), (57, .iinc 1 1, 0, 0, 0, 0), (60, .goto (-58), 0, 0, 0, 0), (63, .aload_n 0, 0, 0, 0, 0), (64, .getfield 70, 6, 11, 0, 0), (67, .bipush 20, 0, 0, 0, 0),
  (69, .invokevirtual 325, 40, 2, 3, 1), (72, .ifCond .ne 49, 0, 0, 0, 0), (75, .aload_n 0, 0, 0, 0, 0), (76, .getfield 63, 6, 9, 0, 0), (79, .getfield 122, 5, 2, 0, 0), (82, .ifCond .le 39, 0, 0, 0, 0),
  (85, .aload_n 0, 0, 0, 0, 0), (86, .getfield 70, 6, 11, 0, 0), (89, .aload_n 0, 0, 0, 0, 0), (90, .getfield 63, 6, 9, 0, 0), (93, .getfield 122, 5, 2, 0, 0), (96, .invokevirtual 325, 40, 2, 3, 1),
  (99, .istore_n 1, 0, 0, 0, 0), (100, .aload_n 0, 0, 0, 0, 0), (101, .getfield 70, 6, 11, 0, 0), (104, .iload_n 1, 0, 0, 0, 0), (105, .invokevirtual 229, 38, 2, 3, 1), (108, .ifCond .eq 13, 0, 0, 0, 0),
  (111, .aload_n 0, 0, 0, 0, 0), (112, .getfield 70, 6, 11, 0, 0), (115, .getfield 190, 3, 6, 0, 0), (118, .iload_n 1, 0, 0, 0, 0), (119, .iconst 1, 0, 0, 0, 0), (120, .iastore, 0, 0, 0, 0),
  (121, .return_, 0, 0, 0, 0)]
def tFf_wander : xTb := ((⟨"FirstFelt", "wander", "()V"⟩, prog_1_method_42_code, 3, none), (0, 0), "FirstFelt", false, iFf_wander)
def iFf_ownsStove : List (Nat × xE) := [(0, .aload_n 0, 0, 0, 0, 0), (1, .getfield 39, 6, 5, 0, 0), (4, .aload_n 1, 0, 0, 0, 0), (5, .invokevirtual 257, 31, 2, 3, 0), (8, .aload_n 0, 0, 0, 0, 0), (9, .getfield 39, 6, 5, 0, 0),
  (12, .getfield 190, 3, 6, 0, 0), (15, .iload_n 3, 0, 0, 0, 0), (16, .iconst 1, 0, 0, 0, 0), (17, .iastore, 0, 0, 0, 0), (18, .aload_n 0, 0, 0, 0, 0), (19, .getfield 39, 6, 5, 0, 0),
  (22, .aload_n 0, 0, 0, 0, 0), (23, .getfield 63, 6, 9, 0, 0), (26, .iload 4, 0, 0, 0, 0), (28, .iload 5, 0, 0, 0, 0), (30, .invokevirtual 243, 41, 4, 3, 0), (33, .aload_n 0, 0, 0, 0, 0),
  (34, .getfield 39, 6, 5, 0, 0), (37, .getfield 158, 3, 2, 0, 0), (40, .aload_n 0, 0, 0, 0, 0), (41, .getfield 63, 6, 9, 0, 0), (44, .getfield 178, 5, 9, 0, 0), (47, .iload_n 3, 0, 0, 0, 0),
  (48, .iaload, 0, 0, 0, 0), (49, .iaload, 0, 0, 0, 0), (50, .iload_n 2, 0, 0, 0, 0), (51, .if_icmp .ne 7, 0, 0, 0, 0), (54, .iconst 1, 0, 0, 0, 0), (55, .goto 4, 0, 0, 0, 0),
  (58, .iconst 0, 0, 0, 0, 0), (59, .ireturn, 0, 0, 0, 0)]
def tFf_ownsStove : xTb := ((⟨"FirstFelt", "ownsStove", "(LFirstFelt$State;IIII)Z"⟩, prog_1_method_43_code, 6, (some .boolean)), (0, 0), "FirstFelt", true, iFf_ownsStove)
def iFf_ownedWithWall : List (Nat × xE) := [(0, .aload_n 0, 0, 0, 0, 0), (1, .getfield 39, 6, 5, 0, 0), (4, .aload_n 0, 0, 0, 0, 0), (5, .getfield 70, 6, 11, 0, 0), (8, .invokevirtual 257, 31, 2, 3, 0), (11, .aload_n 0, 0, 0, 0, 0),
  (12, .getfield 39, 6, 5, 0, 0), (15, .aload_n 0, 0, 0, 0, 0), (16, .getfield 63, 6, 9, 0, 0), (19, .iload_n 2, 0, 0, 0, 0), (20, .iload_n 3, 0, 0, 0, 0), (21, .iload 5, 0, 0, 0, 0),
  (23, .invokevirtual 225, 32, 5, 3, 0), (26, .aload_n 0, 0, 0, 0, 0), (27, .getfield 39, 6, 5, 0, 0), (30, .aload_n 0, 0, 0, 0, 0), (31, .getfield 63, 6, 9, 0, 0), (34, .iload 4, 0, 0, 0, 0),
  (36, .iconst (-1), 0, 0, 0, 0), (37, .invokevirtual 243, 41, 4, 3, 0), (40, .aload_n 0, 0, 0, 0, 0), (41, .getfield 39, 6, 5, 0, 0), (44, .aload_n 0, 0, 0, 0, 0), (45, .getfield 63, 6, 9, 0, 0),
  (48, .iload_n 1, 0, 0, 0, 0), (49, .invokevirtual 214, 37, 3, 3, 1), (52, .ireturn, 0, 0, 0, 0)]
def tFf_ownedWithWall : xTb := ((⟨"FirstFelt", "ownedWithWall", "(IIIIZ)I"⟩, prog_1_method_44_code, 6, (some .int)), (0, 0), "FirstFelt", false, iFf_ownedWithWall)
def iFf_countFreezing : List (Nat × xE) := [(0, .aload_n 0, 0, 0, 0, 0), (1, .getfield 39, 6, 5, 0, 0), (4, .aload_n 0, 0, 0, 0, 0), (5, .getfield 70, 6, 11, 0, 0), (8, .invokevirtual 257, 31, 2, 3, 0), (11, .aload_n 0, 0, 0, 0, 0),
  (12, .getfield 39, 6, 5, 0, 0), (15, .iload_n 1, 0, 0, 0, 0), (16, .putfield 137, 3, 14, 0, 0), (19, .aload_n 0, 0, 0, 0, 0), (20, .getfield 39, 6, 5, 0, 0), (23, .iconst 0, 0, 0, 0, 0),
  (24, .putfield 147, 3, 13, 0, 0), (27, .iconst 0, 0, 0, 0, 0), (28, .istore_n 3, 0, 0, 0, 0), (29, .iload_n 3, 0, 0, 0, 0), (30, .iload_n 2, 0, 0, 0, 0), (31, .if_icmp .ge 32, 0, 0, 0, 0),
  (34, .aload_n 0, 0, 0, 0, 0), (35, .getfield 39, 6, 5, 0, 0), (38, .aload_n 0, 0, 0, 0, 0), (39, .getfield 63, 6, 9, 0, 0), (42, .invokevirtual 328, 56, 2, 3, 0), (45, .aload_n 0, 0, 0, 0, 0),
  (46, .getfield 39, 6, 5, 0, 0), (49, .aload_n 0, 0, 0, 0, 0), (50, .getfield 63, 6, 9, 0, 0), (53, .iconst (-1), 0, 0, 0, 0), (54, .invokevirtual 250, 42, 3, 3, 0), (57, .iinc 3 1, 0, 0, 0, 0),
  (60, .goto (-31), 0, 0, 0, 0), (63, .aload_n 0, 0, 0, 0, 0), (64, .getfield 39, 6, 5, 0, 0), (67, .getfield 147, 3, 13, 0, 0), (70, .invokestatic 332, 207, 1, 0, 1), (73, .ireturn, 0, 0, 0, 0)]
def tFf_countFreezing : xTb := ((⟨"FirstFelt", "countFreezing", "(II)I"⟩, prog_1_method_45_code, 4, (some .int)), (0, 0), "FirstFelt", false, iFf_countFreezing)
def iFf_fitsLitNow : List (Nat × xE) := [(0, .aload_n 0, 0, 0, 0, 0), (1, .getfield 25, 6, 2, 0, 0), (4, .invokevirtual 300, 9, 1, 1, 1), (7, .istore_n 3, 0, 0, 0, 0), (8, .aload_n 0, 0, 0, 0, 0), (9, .getfield 39, 6, 5, 0, 0),
  (12, .aload_n 0, 0, 0, 0, 0), (13, .getfield 43, 6, 6, 0, 0), (16, .invokevirtual 257, 31, 2, 3, 0), (19, .aload_n 0, 0, 0, 0, 0), (20, .getfield 39, 6, 5, 0, 0), (23, .getfield 190, 3, 6, 0, 0),
  (26, .iload_n 1, 0, 0, 0, 0), (27, .iconst 1, 0, 0, 0, 0), (28, .iastore, 0, 0, 0, 0), (29, .iload_n 2, 0, 0, 0, 0), (30, .iconst 1, 0, 0, 0, 0), (31, .iadd, 0, 0, 0, 0),
  (32, .istore 4, 0, 0, 0, 0), (34, .iload 4, 0, 0, 0, 0), (36, .iload_n 3, 0, 0, 0, 0), (37, .if_icmp .gt 39, 0, 0, 0, 0), (40, .aload_n 0, 0, 0, 0, 0), (41, .getfield 39, 6, 5, 0, 0),
  (44, .aload_n 0, 0, 0, 0, 0), (45, .getfield 63, 6, 9, 0, 0), (48, .iconst (-1), 0, 0, 0, 0), (49, .invokevirtual 250, 42, 3, 3, 0), (52, .aload_n 0, 0, 0, 0, 0), (53, .getfield 25, 6, 2, 0, 0),
  (56, .iload 4, 0, 0, 0, 0), (58, .aload_n 0, 0, 0, 0, 0), (59, .getfield 39, 6, 5, 0, 0), (62, .invokevirtual 314, 11, 3, 1, 1), (65, .ifCond .ne 5, 0, 0, 0, 0), (68, .iconst 0, 0, 0, 0, 0),
  (69, .ireturn, 0, 0, 0, 0), (70, .iinc 4 1, 0, 0, 0, 0), (73, .goto (-39), 0, 0, 0, 0), (76, .iconst 1, 0, 0, 0, 0), (77, .ireturn, 0, 0, 0, 0)]
def tFf_fitsLitNow : xTb := ((⟨"FirstFelt", "fitsLitNow", "(II)Z"⟩, prog_1_method_46_code, 5, (some .boolean)), (0, 0), "FirstFelt", true, iFf_fitsLitNow)
def iFf_tryWays : List (Nat × xE) := [(0, .iload_n 1, 0, 0, 0, 0), (1, .iconst 5, 0, 0, 0, 0), (2, .if_icmp .le 4, 0, 0, 0, 0), (5, .return_, 0, 0, 0, 0), (6, .aload_n 0, 0, 0, 0, 0), (7, .getfield 337, 4, 0, 0, 0),
  (10, .iload_n 1, 0, 0, 0, 0), (11, .aaload, 0, 0, 0, 0), (12, .astore_n 2, 0, 0, 0, 0), (13, .aload_n 2, 0, 0, 0, 0), (14, .aload_n 0, 0, 0, 0, 0), (15, .getfield 340, 4, 3, 0, 0),
  (18, .aload_n 0, 0, 0, 0, 0), (19, .getfield 341, 4, 4, 0, 0), (22, .invokevirtual 214, 37, 3, 3, 1), (25, .istore_n 3, 0, 0, 0, 0), (26, .iload_n 1, 0, 0, 0, 0), (27, .aload_n 0, 0, 0, 0, 0),
  (28, .getfield 344, 4, 5, 0, 0), (31, .if_icmp .lt 9, 0, 0, 0, 0), (34, .aload_n 0, 0, 0, 0, 0), (35, .iload_n 3, 0, 0, 0, 0), (36, .invokevirtual 345, 60, 2, 4, 0), (39, .return_, 0, 0, 0, 0),
  (40, .iload_n 3, 0, 0, 0, 0), (41, .aload_n 0, 0, 0, 0, 0), (42, .getfield 344, 4, 5, 0, 0), (45, .iadd, 0, 0, 0, 0), (46, .iload_n 1, 0, 0, 0, 0), (47, .isub, 0, 0, 0, 0),
  (48, .aload_n 0, 0, 0, 0, 0), (49, .getfield 269, 4, 6, 0, 0), (52, .if_icmp .gt 4, 0, 0, 0, 0), (55, .return_, 0, 0, 0, 0), (56, .aload_n 0, 0, 0, 0, 0), (57, .getfield 337, 4, 0, 0, 0),
  (60, .iload_n 1, 0, 0, 0, 0), (61, .iconst 1, 0, 0, 0, 0), (62, .iadd, 0, 0, 0, 0), (63, .aaload, 0, 0, 0, 0), (64, .astore 4, 0, 0, 0, 0), (66, .iconst 0, 0, 0, 0, 0),
  (67, .istore 5, 0, 0, 0, 0), (69, .iload 5, 0, 0, 0, 0), (71, .iconst 4, 0, 0, 0, 0), (72, .if_icmp .gt 79, 0, 0, 0, 0), (75, .aload_n 2, 0, 0, 0, 0), (76, .aload_n 0, 0, 0, 0, 0),
  (77, .getfield 340, 4, 3, 0, 0), (80, .aload_n 2, 0, 0, 0, 0), (81, .getfield 196, 3, 7, 0, 0), (84, .aload_n 0, 0, 0, 0, 0), (85, .getfield 341, 4, 4, 0, 0), (88, .iaload, 0, 0, 0, 0),
  (89, .iload 5, 0, 0, 0, 0), (91, .invokevirtual 220, 35, 4, 3, 1), (94, .istore 6, 0, 0, 0, 0), (96, .iload 6, 0, 0, 0, 0), (98, .iconst (-1), 0, 0, 0, 0), (99, .if_icmp .eq 46, 0, 0, 0, 0),
  (102, .aload 4, 0, 0, 0, 0), (104, .aload_n 2, 0, 0, 0, 0), (105, .invokevirtual 257, 31, 2, 3, 0), (108, .aload 4, 0, 0, 0, 0), (110, .getfield 196, 3, 7, 0, 0), (113, .aload_n 0, 0, 0, 0, 0),
  (114, .getfield 341, 4, 4, 0, 0), (117, .iload 6, 0, 0, 0, 0), (119, .iastore, 0, 0, 0, 0), (120, .aload 4, 0, 0, 0, 0), (122, .aload_n 0, 0, 0, 0, 0), (123, .getfield 340, 4, 3, 0, 0),
  (126, .iconst (-1), 0, 0, 0, 0), (127, .invokevirtual 250, 42, 3, 3, 0), (130, .aload_n 0, 0, 0, 0, 0), (131, .getfield 348, 4, 1, 0, 0), (134, .iload_n 1, 0, 0, 0, 0), (135, .iload 5, 0, 0, 0, 0),
  (137, .iastore, 0, 0, 0, 0), (138, .aload_n 0, 0, 0, 0, 0), (139, .iload_n 1, 0, 0, 0, 0), (140, .iconst 1, 0, 0, 0, 0), (141, .iadd, 0, 0, 0, 0), (142, .invokestatic 265, 116, 2, 6, 0),
  (145, .iinc 5 1, 0, 0, 0, 0), (148, .goto (-79), 0, 0, 0, 0), (151, .return_, 0, 0, 0, 0)]
def tFf_tryWays : xTb := ((⟨"FirstFelt", "tryWays", "(LFirstFelt$Tour;I)V"⟩, prog_1_method_47_code, 7, none), (0, 0), "FirstFelt", false, iFf_tryWays)
def iMo_init : List (Nat × xE) := [(0, .aload_n 0, 0, 0, 0, 0), (1, .invokespecial 1, 0, 1, 0, 3), (4, .aload_n 0, 0, 0, 0, 0), (5, .sipush 143, 0, 0, 0, 0), (8, .newarray .int, 0, 0, 0, 0), (10, .putfield 7, 7, 0, 0, 0),
  (13, .aload_n 0, 0, 0, 0, 0), (14, .sipush 286, 0, 0, 0, 0), (17, .newarray .int, 0, 0, 0, 0), (19, .putfield 13, 7, 1, 0, 0), (22, .aload_n 0, 0, 0, 0, 0), (23, .iconst 2, 0, 0, 0, 0),
  (24, .newarray .boolean, 0, 0, 0, 0), (26, .putfield 16, 7, 2, 0, 0), (29, .aload_n 0, 0, 0, 0, 0), (30, .sipush 143, 0, 0, 0, 0), (33, .newarray .int, 0, 0, 0, 0), (35, .putfield 20, 7, 3, 0, 0),
  (38, .aload_n 0, 0, 0, 0, 0), (39, .bipush 20, 0, 0, 0, 0), (41, .newarray .boolean, 0, 0, 0, 0), (43, .putfield 23, 7, 6, 0, 0), (46, .aload_n 0, 0, 0, 0, 0), (47, .iconst 4, 0, 0, 0, 0),
  (48, .newarray .int, 0, 0, 0, 0), (50, .putfield 26, 7, 9, 0, 0), (53, .aload_n 0, 0, 0, 0, 0), (54, .iconst 4, 0, 0, 0, 0), (55, .newarray .int, 0, 0, 0, 0), (57, .putfield 29, 7, 10, 0, 0),
  (60, .aload_n 0, 0, 0, 0, 0), (61, .bipush 8, 0, 0, 0, 0), (63, .newarray .int, 0, 0, 0, 0), (65, .putfield 32, 7, 12, 0, 0), (68, .aload_n 0, 0, 0, 0, 0), (69, .bipush 6, 0, 0, 0, 0),
  (71, .newarray .int, 0, 0, 0, 0), (73, .putfield 35, 7, 14, 0, 0), (76, .aload_n 0, 0, 0, 0, 0), (77, .bipush 6, 0, 0, 0, 0), (79, .newarray .int, 0, 0, 0, 0), (81, .putfield 38, 7, 15, 0, 0),
  (84, .aload_n 0, 0, 0, 0, 0), (85, .bipush 12, 0, 0, 0, 0), (87, .newarray .int, 0, 0, 0, 0), (89, .putfield 41, 7, 17, 0, 0), (92, .aload_n 0, 0, 0, 0, 0), (93, .bipush 12, 0, 0, 0, 0),
  (95, .newarray .int, 0, 0, 0, 0), (97, .putfield 44, 7, 18, 0, 0), (100, .aload_n 0, 0, 0, 0, 0), (101, .bipush 12, 0, 0, 0, 0), (103, .newarray .int, 0, 0, 0, 0), (105, .putfield 47, 7, 19, 0, 0),
  (108, .aload_n 0, 0, 0, 0, 0), (109, .bipush 8, 0, 0, 0, 0), (111, .newarray .int, 0, 0, 0, 0), (113, .putfield 50, 7, 21, 0, 0), (116, .aload_n 0, 0, 0, 0, 0), (117, .bipush 8, 0, 0, 0, 0),
  (119, .newarray .int, 0, 0, 0, 0), (121, .putfield 53, 7, 22, 0, 0), (124, .aload_n 0, 0, 0, 0, 0), (125, .bipush 8, 0, 0, 0, 0), (127, .newarray .int, 0, 0, 0, 0), (129, .putfield 56, 7, 23, 0, 0),
  (132, .aload_n 0, 0, 0, 0, 0), (133, .sipush 260, 0, 0, 0, 0), (136, .newarray .int, 0, 0, 0, 0), (138, .putfield 59, 7, 24, 0, 0), (141, .aload_n 0, 0, 0, 0, 0), (142, .iconst (-1), 0, 0, 0, 0),
  (143, .putfield 62, 7, 26, 0, 0), (146, .aload_n 0, 0, 0, 0, 0), (147, .bipush 40, 0, 0, 0, 0), (149, .newarray .int, 0, 0, 0, 0), (151, .putfield 66, 7, 36, 0, 0), (154, .aload_n 0, 0, 0, 0, 0),
  (155, .bipush 20, 0, 0, 0, 0), (157, .newarray .boolean, 0, 0, 0, 0), (159, .putfield 69, 7, 38, 0, 0), (162, .aload_n 0, 0, 0, 0, 0), (163, .bipush 12, 0, 0, 0, 0), (165, .newarray .int, 0, 0, 0, 0),
  (167, .putfield 72, 7, 41, 0, 0), (170, .aload_n 0, 0, 0, 0, 0), (171, .bipush 20, 0, 0, 0, 0), (173, .newarray .boolean, 0, 0, 0, 0), (175, .putfield 75, 7, 42, 0, 0), (178, .aload_n 0, 0, 0, 0, 0),
  (179, .bipush 8, 0, 0, 0, 0), (181, .newarray .int, 0, 0, 0, 0), (183, .putfield 78, 7, 44, 0, 0), (186, .aload_n 0, 0, 0, 0, 0), (187, .bipush 24, 0, 0, 0, 0), (189, .newarray .int, 0, 0, 0, 0),
  (191, .putfield 81, 7, 46, 0, 0), (194, .aload_n 0, 0, 0, 0, 0), (195, .bipush 20, 0, 0, 0, 0), (197, .newarray .int, 0, 0, 0, 0), (199, .putfield 84, 7, 48, 0, 0), (202, .aload_n 0, 0, 0, 0, 0),
  (203, .iconst (-1), 0, 0, 0, 0), (204, .putfield 87, 7, 50, 0, 0), (207, .aload_n 0, 0, 0, 0, 0), (208, .bipush 6, 0, 0, 0, 0), (210, .newarray .int, 0, 0, 0, 0), (212, .putfield 90, 7, 51, 0, 0),
  (215, .aload_n 0, 0, 0, 0, 0), (216, .invokevirtual 93, 119, 1, 7, 0), (219, .aload_n 0, 0, 0, 0, 0), (220, .getfield 7, 7, 0, 0, 0), (223, .sipush 139, 0, 0, 0, 0), (226, .iconst 3, 0, 0, 0, 0),
  (227, .iastore, 0, 0, 0, 0), (228, .return_, 0, 0, 0, 0)]
def tMo_init : xTb := ((⟨"FirstFeltModel", "<init>", "()V"⟩, prog_9_method_1_code, 1, none), (25, 1092), "FirstFeltModel", false, iMo_init)
def iMo_in : List (Nat × xE) := [(0, .lload_n 0, 0, 0, 0, 0), (1, .lload_n 2, 0, 0, 0, 0), (2, .lcmp, 0, 0, 0, 0), (3, .ifCond .lt 14, 0, 0, 0, 0), (6, .lload_n 0, 0, 0, 0, 0), (7, .lload 4, 0, 0, 0, 0),
  (9, .lcmp, 0, 0, 0, 0), (10, .ifCond .gt 7, 0, 0, 0, 0), (13, .iconst 1, 0, 0, 0, 0), (14, .goto 4, 0, 0, 0, 0), (17, .iconst 0, 0, 0, 0, 0), (18, .ireturn, 0, 0, 0, 0)]
def tMo_in : xTb := ((⟨"FirstFeltModel", "in", "(JJJ)Z"⟩, prog_9_method_3_code, 6, (some .boolean)), (0, 0), "FirstFeltModel", true, iMo_in)
def iMo_emptyNow : List (Nat × xE) := [(0, .iconst 0, 0, 0, 0, 0), (1, .istore_n 1, 0, 0, 0, 0), (2, .iload_n 1, 0, 0, 0, 0), (3, .sipush 143, 0, 0, 0, 0), (6, .if_icmp .ge 50, 0, 0, 0, 0), (9, .aload_n 0, 0, 0, 0, 0),
  (10, .getfield 7, 7, 0, 0, 0), (13, .iload_n 1, 0, 0, 0, 0), (14, .iload_n 1, 0, 0, 0, 0), (15, .sipush 141, 0, 0, 0, 0), (18, .if_icmp .ne 14, 0, 0, 0, 0), (21, .aload_n 0, 0, 0, 0, 0),
  (22, .getfield 7, 7, 0, 0, 0), (25, .sipush 141, 0, 0, 0, 0), (28, .iaload, 0, 0, 0, 0), (29, .goto 20, 0, 0, 0, 0), (32, .iload_n 1, 0, 0, 0, 0), (33, .bipush 60, 0, 0, 0, 0),
  (35, .if_icmp .lt 13, 0, 0, 0, 0), (38, .iload_n 1, 0, 0, 0, 0), (39, .bipush 80, 0, 0, 0, 0), (41, .if_icmp .ge 7, 0, 0, 0, 0), (44, .iconst (-1), 0, 0, 0, 0), (45, .goto 4, 0, 0, 0, 0),
  (48, .iconst 0, 0, 0, 0, 0), (49, .iastore, 0, 0, 0, 0), (50, .iinc 1 1, 0, 0, 0, 0), (53, .goto (-51), 0, 0, 0, 0), (56, .return_, 0, 0, 0, 0)]
def tMo_emptyNow : xTb := ((⟨"FirstFeltModel", "emptyNow", "()V"⟩, prog_9_method_4_code, 2, none), (0, 0), "FirstFeltModel", false, iMo_emptyNow)
def iMo_cells : List (Nat × xE) := [(0, .aload_n 0, 0, 0, 0, 0), (1, .getfield 96, 7, 4, 0, 0), (4, .aload_n 0, 0, 0, 0, 0), (5, .getfield 99, 7, 5, 0, 0), (8, .imul, 0, 0, 0, 0), (9, .ireturn, 0, 0, 0, 0)]
def tMo_cells : xTb := ((⟨"FirstFeltModel", "cells", "()I"⟩, prog_9_method_5_code, 1, (some .int)), (0, 0), "FirstFeltModel", false, iMo_cells)
def iMo_isCell : List (Nat × xE) := [(0, .iload_n 1, 0, 0, 0, 0), (1, .i2l, 0, 0, 0, 0), (2, .lconst 0, 0, 0, 0, 0), (3, .aload_n 0, 0, 0, 0, 0), (4, .getfield 96, 7, 4, 0, 0), (7, .iconst 1, 0, 0, 0, 0),
  (8, .isub, 0, 0, 0, 0), (9, .i2l, 0, 0, 0, 0), (10, .invokestatic 102, 118, 3, 7, 1), (13, .ifCond .eq 23, 0, 0, 0, 0), (16, .iload_n 2, 0, 0, 0, 0), (17, .i2l, 0, 0, 0, 0),
  (18, .lconst 0, 0, 0, 0, 0), (19, .aload_n 0, 0, 0, 0, 0), (20, .getfield 99, 7, 5, 0, 0), (23, .iconst 1, 0, 0, 0, 0), (24, .isub, 0, 0, 0, 0), (25, .i2l, 0, 0, 0, 0),
  (26, .invokestatic 102, 118, 3, 7, 1), (29, .ifCond .eq 7, 0, 0, 0, 0), (32, .iconst 1, 0, 0, 0, 0), (33, .goto 4, 0, 0, 0, 0), (36, .iconst 0, 0, 0, 0, 0), (37, .ireturn, 0, 0, 0, 0)]
def tMo_isCell : xTb := ((⟨"FirstFeltModel", "isCell", "(II)Z"⟩, prog_9_method_6_code, 3, (some .boolean)), (0, 0), "FirstFeltModel", true, iMo_isCell)
def iMo_isPerson : List (Nat × xE) := [(0, .iload_n 1, 0, 0, 0, 0), (1, .i2l, 0, 0, 0, 0), (2, .lconst 0, 0, 0, 0, 0), (3, .aload_n 0, 0, 0, 0, 0), (4, .getfield 106, 7, 13, 0, 0), (7, .iconst 1, 0, 0, 0, 0),
  (8, .isub, 0, 0, 0, 0), (9, .i2l, 0, 0, 0, 0), (10, .invokestatic 102, 118, 3, 7, 1), (13, .ireturn, 0, 0, 0, 0)]
def tMo_isPerson : xTb := ((⟨"FirstFeltModel", "isPerson", "(I)Z"⟩, prog_9_method_7_code, 2, (some .boolean)), (0, 0), "FirstFeltModel", true, iMo_isPerson)
def iMo_isStove : List (Nat × xE) := [(0, .iload_n 1, 0, 0, 0, 0), (1, .i2l, 0, 0, 0, 0), (2, .lconst 0, 0, 0, 0, 0), (3, .aload_n 0, 0, 0, 0, 0), (4, .getfield 109, 7, 8, 0, 0), (7, .iconst 1, 0, 0, 0, 0),
  (8, .isub, 0, 0, 0, 0), (9, .i2l, 0, 0, 0, 0), (10, .invokestatic 102, 118, 3, 7, 1), (13, .ireturn, 0, 0, 0, 0)]
def tMo_isStove : xTb := ((⟨"FirstFeltModel", "isStove", "(I)Z"⟩, prog_9_method_8_code, 2, (some .boolean)), (0, 0), "FirstFeltModel", true, iMo_isStove)
def iMo_named : List (Nat × xE) := [(0, .bipush 10, 0, 0, 0, 0), (2, .iload_n 1, 0, 0, 0, 0), (3, .aload_n 0, 0, 0, 0, 0), (4, .getfield 96, 7, 4, 0, 0), (7, .irem, 0, 0, 0, 0), (8, .imul, 0, 0, 0, 0),
  (9, .iload_n 1, 0, 0, 0, 0), (10, .aload_n 0, 0, 0, 0, 0), (11, .getfield 96, 7, 4, 0, 0), (14, .idiv, 0, 0, 0, 0), (15, .iadd, 0, 0, 0, 0), (16, .ireturn, 0, 0, 0, 0)]
def tMo_named : xTb := ((⟨"FirstFeltModel", "named", "(I)I"⟩, prog_9_method_9_code, 2, (some .int)), (0, 0), "FirstFeltModel", false, iMo_named)
def iMo_cellOf : List (Nat × xE) := [(0, .iload_n 1, 0, 0, 0, 0), (1, .ifCond .lt 35, 0, 0, 0, 0), (4, .aload_n 0, 0, 0, 0, 0), (5, .iload_n 1, 0, 0, 0, 0), (6, .bipush 10, 0, 0, 0, 0), (8, .idiv, 0, 0, 0, 0),
  (9, .iload_n 1, 0, 0, 0, 0), (10, .bipush 10, 0, 0, 0, 0), (12, .irem, 0, 0, 0, 0), (13, .invokevirtual 112, 121, 3, 7, 1), (16, .ifCond .eq 20, 0, 0, 0, 0), (19, .aload_n 0, 0, 0, 0, 0),
  (20, .getfield 96, 7, 4, 0, 0), (23, .iload_n 1, 0, 0, 0, 0), (24, .bipush 10, 0, 0, 0, 0), (26, .irem, 0, 0, 0, 0), (27, .imul, 0, 0, 0, 0), (28, .iload_n 1, 0, 0, 0, 0),
  (29, .bipush 10, 0, 0, 0, 0), (31, .idiv, 0, 0, 0, 0), (32, .iadd, 0, 0, 0, 0), (33, .goto 4, 0, 0, 0, 0), (36, .iconst (-1), 0, 0, 0, 0), (37, .ireturn, 0, 0, 0, 0)]
def tMo_cellOf : xTb := ((⟨"FirstFeltModel", "cellOf", "(I)I"⟩, prog_9_method_10_code, 2, (some .int)), (0, 0), "FirstFeltModel", false, iMo_cellOf)
def iMo_feed : List (Nat × xE) := [(0, .iload_n 1, 0, 0, 0, 0), (1, .i2l, 0, 0, 0, 0), (2, .lconst 0, 0, 0, 0, 0), (3, .ldc2_w 116, 0, 0, 0, 255), (6, .invokestatic 102, 118, 3, 7, 1), (9, .ifCond .ne 6, 0, 0, 0, 0),
  (12, .ldc 118, 0, 0, 0, -1000000002), (14, .ireturn, 0, 0, 0, 0), (15, .aload_n 0, 0, 0, 0, 0), (16, .getfield 119, 7, 25, 0, 0), (19, .sipush 260, 0, 0, 0, 0), (22, .if_icmp .ne 6, 0, 0, 0, 0),
  (25, .ldc 122, 0, 0, 0, -1000000004), (27, .ireturn, 0, 0, 0, 0), (28, .aload_n 0, 0, 0, 0, 0), (29, .getfield 59, 7, 24, 0, 0), (32, .aload_n 0, 0, 0, 0, 0), (33, .getfield 119, 7, 25, 0, 0),
  (36, .iload_n 1, 0, 0, 0, 0), (37, .iastore, 0, 0, 0, 0), (38, .aload_n 0, 0, 0, 0, 0), (39, .dup, 0, 0, 0, 0), (40, .getfield 119, 7, 25, 0, 0), (43, .iconst 1, 0, 0, 0, 0),
  (44, .iadd, 0, 0, 0, 0), (45, .putfield 119, 7, 25, 0, 0), (48, .aload_n 0, 0, 0, 0, 0), (49, .getfield 119, 7, 25, 0, 0), (52, .ireturn, 0, 0, 0, 0)]
def tMo_feed : xTb := ((⟨"FirstFeltModel", "feed", "(I)I"⟩, prog_9_method_11_code, 2, (some .int)), (0, 0), "FirstFeltModel", false, iMo_feed)
def iMo_isFigure : List (Nat × xE) := [(0, .iload_n 0, 0, 0, 0, 0), (1, .i2l, 0, 0, 0, 0), (2, .ldc2_w 123, 0, 0, 0, 48), (5, .ldc2_w 125, 0, 0, 0, 57), (8, .invokestatic 102, 118, 3, 7, 1), (11, .ireturn, 0, 0, 0, 0)]
def tMo_isFigure : xTb := ((⟨"FirstFeltModel", "isFigure", "(I)Z"⟩, prog_9_method_12_code, 1, (some .boolean)), (0, 0), "FirstFeltModel", true, iMo_isFigure)
def iMo_look : List (Nat × xE) := [(0, .aload_n 0, 0, 0, 0, 0), (1, .iload_n 1, 0, 0, 0, 0), (2, .putfield 127, 7, 27, 0, 0), (5, .aload_n 0, 0, 0, 0, 0), (6, .getfield 127, 7, 27, 0, 0), (9, .aload_n 0, 0, 0, 0, 0),
  (10, .getfield 119, 7, 25, 0, 0), (13, .if_icmp .ge 30, 0, 0, 0, 0), (16, .aload_n 0, 0, 0, 0, 0), (17, .getfield 59, 7, 24, 0, 0), (20, .aload_n 0, 0, 0, 0, 0), (21, .getfield 127, 7, 27, 0, 0),
  (24, .iaload, 0, 0, 0, 0), (25, .bipush 32, 0, 0, 0, 0), (27, .if_icmp .ne 16, 0, 0, 0, 0), (30, .aload_n 0, 0, 0, 0, 0), (31, .dup, 0, 0, 0, 0), (32, .getfield 127, 7, 27, 0, 0),
  (35, .iconst 1, 0, 0, 0, 0), (36, .iadd, 0, 0, 0, 0), (37, .putfield 127, 7, 27, 0, 0), (40, .goto (-35), 0, 0, 0, 0), (43, .aload_n 0, 0, 0, 0, 0), (44, .iconst 0, 0, 0, 0, 0),
  (45, .putfield 130, 7, 28, 0, 0), (48, .aload_n 0, 0, 0, 0, 0), (49, .iconst 0, 0, 0, 0, 0), (50, .putfield 133, 7, 29, 0, 0), (53, .aload_n 0, 0, 0, 0, 0), (54, .iconst 0, 0, 0, 0, 0),
  (55, .putfield 136, 7, 30, 0, 0), (58, .aload_n 0, 0, 0, 0, 0), (59, .getfield 127, 7, 27, 0, 0), (62, .aload_n 0, 0, 0, 0, 0), (63, .getfield 119, 7, 25, 0, 0), (66, .if_icmp .ne 4, 0, 0, 0, 0),
  (69, .return_, 0, 0, 0, 0), (70, .aload_n 0, 0, 0, 0, 0), (71, .aload_n 0, 0, 0, 0, 0), (72, .getfield 59, 7, 24, 0, 0), (75, .aload_n 0, 0, 0, 0, 0), (76, .getfield 127, 7, 27, 0, 0),
  (79, .iaload, 0, 0, 0, 0), (80, .invokestatic 139, 127, 1, 7, 1), (83, .ifCond .eq 7, 0, 0, 0, 0), (86, .iconst 1, 0, 0, 0, 0), (87, .goto 29, 0, 0, 0, 0), (90, .aload_n 0, 0, 0, 0, 0),
  (91, .getfield 59, 7, 24, 0, 0), (94, .aload_n 0, 0, 0, 0, 0), (95, .getfield 127, 7, 27, 0, 0), (98, .iaload, 0, 0, 0, 0), (99, .iconst 2, 0, 0, 0, 0), (100, .if_icmp .ge 7, 0, 0, 0, 0),
  (103, .iconst 2, 0, 0, 0, 0), (104, .goto 12, 0, 0, 0, 0), (107, .aload_n 0, 0, 0, 0, 0), (108, .getfield 59, 7, 24, 0, 0), (111, .aload_n 0, 0, 0, 0, 0), (112, .getfield 127, 7, 27, 0, 0),
  (115, .iaload, 0, 0, 0, 0), (116, .putfield 133, 7, 29, 0, 0), (119, .aload_n 0, 0, 0, 0, 0), (120, .iconst 1, 0, 0, 0, 0), (121, .putfield 130, 7, 28, 0, 0), (124, .aload_n 0, 0, 0, 0, 0),
  (125, .getfield 133, 7, 29, 0, 0), (128, .iconst 1, 0, 0, 0, 0), (129, .if_icmp .ne 52, 0, 0, 0, 0), (132, .aload_n 0, 0, 0, 0, 0), (133, .getfield 127, 7, 27, 0, 0), (136, .aload_n 0, 0, 0, 0, 0),
  (137, .getfield 130, 7, 28, 0, 0), (140, .iadd, 0, 0, 0, 0), (141, .aload_n 0, 0, 0, 0, 0), (142, .getfield 119, 7, 25, 0, 0), (145, .if_icmp .ge 36, 0, 0, 0, 0), (148, .aload_n 0, 0, 0, 0, 0),
  (149, .getfield 59, 7, 24, 0, 0), (152, .aload_n 0, 0, 0, 0, 0), (153, .getfield 127, 7, 27, 0, 0), (156, .aload_n 0, 0, 0, 0, 0), (157, .getfield 130, 7, 28, 0, 0), (160, .iadd, 0, 0, 0, 0),
  (161, .iaload, 0, 0, 0, 0), (162, .invokestatic 139, 127, 1, 7, 1), (165, .ifCond .eq 16, 0, 0, 0, 0), (168, .aload_n 0, 0, 0, 0, 0), (169, .dup, 0, 0, 0, 0), (170, .getfield 130, 7, 28, 0, 0),
  (173, .iconst 1, 0, 0, 0, 0), (174, .iadd, 0, 0, 0, 0), (175, .putfield 130, 7, 28, 0, 0), (178, .goto (-54), 0, 0, 0, 0), (181, .iconst 0, 0, 0, 0, 0), (182, .istore_n 2, 0, 0, 0, 0),
  (183, .iload_n 2, 0, 0, 0, 0), (184, .aload_n 0, 0, 0, 0, 0), (185, .getfield 130, 7, 28, 0, 0), (188, .if_icmp .ge 56, 0, 0, 0, 0), (191, .aload_n 0, 0, 0, 0, 0), (192, .getfield 133, 7, 29, 0, 0),
  (195, .iconst 1, 0, 0, 0, 0), (196, .if_icmp .ne 48, 0, 0, 0, 0), (199, .aload_n 0, 0, 0, 0, 0), (200, .aload_n 0, 0, 0, 0, 0), (201, .getfield 130, 7, 28, 0, 0), (204, .iconst 3, 0, 0, 0, 0),
  (205, .if_icmp .le 8, 0, 0, 0, 0), (208, .ldc 143, 0, 0, 0, 1000000), (210, .goto 25, 0, 0, 0, 0), (213, .bipush 10, 0, 0, 0, 0), (215, .aload_n 0, 0, 0, 0, 0), (216, .getfield 136, 7, 30, 0, 0),
  (219, .imul, 0, 0, 0, 0), (220, .aload_n 0, 0, 0, 0, 0), (221, .getfield 59, 7, 24, 0, 0), (224, .aload_n 0, 0, 0, 0, 0), (225, .getfield 127, 7, 27, 0, 0), (228, .iload_n 2, 0, 0, 0, 0),
  (229, .iadd, 0, 0, 0, 0), (230, .iaload, 0, 0, 0, 0), (231, .iadd, 0, 0, 0, 0), (232, .bipush 48, 0, 0, 0, 0), (234, .isub, 0, 0, 0, 0), (235, .putfield 136, 7, 30, 0, 0),
  (238, .iinc 2 1, 0, 0, 0, 0), (241, .goto (-58), 0, 0, 0, 0), (244, .return_, 0, 0, 0, 0)]
def tMo_look : xTb := ((⟨"FirstFeltModel", "look", "(I)V"⟩, prog_9_method_13_code, 3, none), (0, 0), "FirstFeltModel", false, iMo_look)
def iMo_goOn : List (Nat × xE) := [(0, .aload_n 0, 0, 0, 0, 0), (1, .aload_n 0, 0, 0, 0, 0), (2, .getfield 127, 7, 27, 0, 0), (5, .aload_n 0, 0, 0, 0, 0), (6, .getfield 130, 7, 28, 0, 0), (9, .iadd, 0, 0, 0, 0),
  (10, .invokevirtual 144, 128, 2, 7, 0), (13, .return_, 0, 0, 0, 0)]
def tMo_goOn : xTb := ((⟨"FirstFeltModel", "goOn", "()V"⟩, prog_9_method_14_code, 1, none), (0, 0), "FirstFeltModel", false, iMo_goOn)
def iMo_faults : List (Nat × xE) := [(0, .aload_n 0, 0, 0, 0, 0), (1, .iload_n 1, 0, 0, 0, 0), (2, .putfield 148, 7, 31, 0, 0), (5, .iconst 0, 0, 0, 0, 0), (6, .ireturn, 0, 0, 0, 0)]
def tMo_faults : xTb := ((⟨"FirstFeltModel", "faults", "(I)Z"⟩, prog_9_method_15_code, 2, (some .boolean)), (0, 0), "FirstFeltModel", true, iMo_faults)
def iMo_takes : List (Nat × xE) := [(0, .aload_n 0, 0, 0, 0, 0), (1, .getfield 133, 7, 29, 0, 0), (4, .iconst 1, 0, 0, 0, 0), (5, .if_icmp .eq 9, 0, 0, 0, 0), (8, .aload_n 0, 0, 0, 0, 0), (9, .iconst 1, 0, 0, 0, 0),
  (10, .invokevirtual 151, 130, 2, 7, 1), (13, .ireturn, 0, 0, 0, 0), (14, .aload_n 0, 0, 0, 0, 0), (15, .getfield 136, 7, 30, 0, 0), (18, .i2l, 0, 0, 0, 0), (19, .iload_n 1, 0, 0, 0, 0),
  (20, .i2l, 0, 0, 0, 0), (21, .iload_n 2, 0, 0, 0, 0), (22, .i2l, 0, 0, 0, 0), (23, .invokestatic 102, 118, 3, 7, 1), (26, .ifCond .ne 9, 0, 0, 0, 0), (29, .aload_n 0, 0, 0, 0, 0),
  (30, .iconst 2, 0, 0, 0, 0), (31, .invokevirtual 151, 130, 2, 7, 1), (34, .ireturn, 0, 0, 0, 0), (35, .aload_n 0, 0, 0, 0, 0), (36, .aload_n 0, 0, 0, 0, 0), (37, .getfield 136, 7, 30, 0, 0),
  (40, .putfield 154, 7, 32, 0, 0), (43, .aload_n 0, 0, 0, 0, 0), (44, .invokevirtual 157, 129, 1, 7, 0), (47, .iconst 1, 0, 0, 0, 0), (48, .ireturn, 0, 0, 0, 0)]
def tMo_takes : xTb := ((⟨"FirstFeltModel", "takes", "(II)Z"⟩, prog_9_method_16_code, 3, (some .boolean)), (0, 0), "FirstFeltModel", true, iMo_takes)
def iMo_stops : List (Nat × xE) := [(0, .aload_n 0, 0, 0, 0, 0), (1, .getfield 133, 7, 29, 0, 0), (4, .bipush 59, 0, 0, 0, 0), (6, .if_icmp .eq 9, 0, 0, 0, 0), (9, .aload_n 0, 0, 0, 0, 0), (10, .iconst 1, 0, 0, 0, 0),
  (11, .invokevirtual 151, 130, 2, 7, 1), (14, .ireturn, 0, 0, 0, 0), (15, .aload_n 0, 0, 0, 0, 0), (16, .invokevirtual 157, 129, 1, 7, 0), (19, .iconst 1, 0, 0, 0, 0), (20, .ireturn, 0, 0, 0, 0)]
def tMo_stops : xTb := ((⟨"FirstFeltModel", "stops", "()Z"⟩, prog_9_method_17_code, 1, (some .boolean)), (0, 0), "FirstFeltModel", true, iMo_stops)
def iMo_takesX : List (Nat × xE) := [(0, .aload_n 0, 0, 0, 0, 0), (1, .iconst 0, 0, 0, 0, 0), (2, .aload_n 0, 0, 0, 0, 0), (3, .getfield 160, 7, 33, 0, 0), (6, .iconst 1, 0, 0, 0, 0), (7, .isub, 0, 0, 0, 0),
  (8, .invokevirtual 163, 131, 3, 7, 1), (11, .ireturn, 0, 0, 0, 0)]
def tMo_takesX : xTb := ((⟨"FirstFeltModel", "takesX", "()Z"⟩, prog_9_method_18_code, 1, (some .boolean)), (0, 0), "FirstFeltModel", true, iMo_takesX)
def iMo_seesY : List (Nat × xE) := [(0, .aload_n 0, 0, 0, 0, 0), (1, .getfield 133, 7, 29, 0, 0), (4, .iconst 1, 0, 0, 0, 0), (5, .if_icmp .eq 9, 0, 0, 0, 0), (8, .aload_n 0, 0, 0, 0, 0), (9, .iconst 1, 0, 0, 0, 0),
  (10, .invokevirtual 151, 130, 2, 7, 1), (13, .ireturn, 0, 0, 0, 0), (14, .aload_n 0, 0, 0, 0, 0), (15, .getfield 136, 7, 30, 0, 0), (18, .i2l, 0, 0, 0, 0), (19, .lconst 0, 0, 0, 0, 0),
  (20, .aload_n 0, 0, 0, 0, 0), (21, .getfield 166, 7, 34, 0, 0), (24, .iconst 1, 0, 0, 0, 0), (25, .isub, 0, 0, 0, 0), (26, .i2l, 0, 0, 0, 0), (27, .invokestatic 102, 118, 3, 7, 1),
  (30, .ifCond .ne 9, 0, 0, 0, 0), (33, .aload_n 0, 0, 0, 0, 0), (34, .iconst 2, 0, 0, 0, 0), (35, .invokevirtual 151, 130, 2, 7, 1), (38, .ireturn, 0, 0, 0, 0), (39, .aload_n 0, 0, 0, 0, 0),
  (40, .aload_n 0, 0, 0, 0, 0), (41, .getfield 160, 7, 33, 0, 0), (44, .aload_n 0, 0, 0, 0, 0), (45, .getfield 136, 7, 30, 0, 0), (48, .imul, 0, 0, 0, 0), (49, .iload_n 1, 0, 0, 0, 0),
  (50, .iadd, 0, 0, 0, 0), (51, .putfield 169, 7, 47, 0, 0), (54, .iconst 1, 0, 0, 0, 0), (55, .ireturn, 0, 0, 0, 0)]
def tMo_seesY : xTb := ((⟨"FirstFeltModel", "seesY", "(I)Z"⟩, prog_9_method_19_code, 2, (some .boolean)), (0, 0), "FirstFeltModel", true, iMo_seesY)
def iMo_readsTown : List (Nat × xE) := [(0, .aload_n 0, 0, 0, 0, 0), (1, .getfield 133, 7, 29, 0, 0), (4, .bipush 116, 0, 0, 0, 0), (6, .if_icmp .eq 9, 0, 0, 0, 0), (9, .aload_n 0, 0, 0, 0, 0), (10, .iconst 1, 0, 0, 0, 0),
  (11, .invokevirtual 151, 130, 2, 7, 1), (14, .ireturn, 0, 0, 0, 0), (15, .aload_n 0, 0, 0, 0, 0), (16, .invokevirtual 157, 129, 1, 7, 0), (19, .aload_n 0, 0, 0, 0, 0), (20, .iconst 1, 0, 0, 0, 0),
  (21, .bipush 6, 0, 0, 0, 0), (23, .invokevirtual 163, 131, 3, 7, 1), (26, .ifCond .ne 5, 0, 0, 0, 0), (29, .iconst 0, 0, 0, 0, 0), (30, .ireturn, 0, 0, 0, 0), (31, .aload_n 0, 0, 0, 0, 0),
  (32, .aload_n 0, 0, 0, 0, 0), (33, .getfield 154, 7, 32, 0, 0), (36, .putfield 160, 7, 33, 0, 0), (39, .aload_n 0, 0, 0, 0, 0), (40, .getfield 133, 7, 29, 0, 0), (43, .iconst 1, 0, 0, 0, 0),
  (44, .if_icmp .ne 38, 0, 0, 0, 0), (47, .aload_n 0, 0, 0, 0, 0), (48, .getfield 136, 7, 30, 0, 0), (51, .i2l, 0, 0, 0, 0), (52, .lconst 1, 0, 0, 0, 0), (53, .ldc2_w 172, 0, 0, 0, 6),
  (56, .invokestatic 102, 118, 3, 7, 1), (59, .ifCond .eq 23, 0, 0, 0, 0), (62, .aload_n 0, 0, 0, 0, 0), (63, .getfield 160, 7, 33, 0, 0), (66, .aload_n 0, 0, 0, 0, 0), (67, .getfield 136, 7, 30, 0, 0),
  (70, .imul, 0, 0, 0, 0), (71, .bipush 20, 0, 0, 0, 0), (73, .if_icmp .le 9, 0, 0, 0, 0), (76, .aload_n 0, 0, 0, 0, 0), (77, .iconst 2, 0, 0, 0, 0), (78, .invokevirtual 151, 130, 2, 7, 1),
  (81, .ireturn, 0, 0, 0, 0), (82, .aload_n 0, 0, 0, 0, 0), (83, .iconst 1, 0, 0, 0, 0), (84, .bipush 6, 0, 0, 0, 0), (86, .invokevirtual 163, 131, 3, 7, 1), (89, .ifCond .ne 5, 0, 0, 0, 0),
  (92, .iconst 0, 0, 0, 0, 0), (93, .ireturn, 0, 0, 0, 0), (94, .aload_n 0, 0, 0, 0, 0), (95, .aload_n 0, 0, 0, 0, 0), (96, .getfield 154, 7, 32, 0, 0), (99, .putfield 166, 7, 34, 0, 0),
  (102, .aload_n 0, 0, 0, 0, 0), (103, .iconst 0, 0, 0, 0, 0), (104, .sipush 200, 0, 0, 0, 0), (107, .invokevirtual 163, 131, 3, 7, 1), (110, .ifCond .ne 5, 0, 0, 0, 0), (113, .iconst 0, 0, 0, 0, 0),
  (114, .ireturn, 0, 0, 0, 0), (115, .aload_n 0, 0, 0, 0, 0), (116, .aload_n 0, 0, 0, 0, 0), (117, .getfield 154, 7, 32, 0, 0), (120, .putfield 174, 7, 35, 0, 0), (123, .aload_n 0, 0, 0, 0, 0),
  (124, .invokevirtual 177, 132, 1, 7, 1), (127, .ireturn, 0, 0, 0, 0)]
def tMo_readsTown : xTb := ((⟨"FirstFeltModel", "readsTown", "()Z"⟩, prog_9_method_20_code, 1, (some .boolean)), (0, 0), "FirstFeltModel", true, iMo_readsTown)
def iMo_readsWall : List (Nat × xE) := [(0, .aload_n 0, 0, 0, 0, 0), (1, .getfield 181, 7, 37, 0, 0), (4, .bipush 12, 0, 0, 0, 0), (6, .if_icmp .ne 9, 0, 0, 0, 0), (9, .aload_n 0, 0, 0, 0, 0), (10, .iconst 3, 0, 0, 0, 0),
  (11, .invokevirtual 151, 130, 2, 7, 1), (14, .ireturn, 0, 0, 0, 0), (15, .aload_n 0, 0, 0, 0, 0), (16, .dup, 0, 0, 0, 0), (17, .getfield 181, 7, 37, 0, 0), (20, .iconst 1, 0, 0, 0, 0),
  (21, .iadd, 0, 0, 0, 0), (22, .putfield 181, 7, 37, 0, 0), (25, .aload_n 0, 0, 0, 0, 0), (26, .invokevirtual 157, 129, 1, 7, 0), (29, .aload_n 0, 0, 0, 0, 0), (30, .invokevirtual 184, 133, 1, 7, 1),
  (33, .ifCond .eq 14, 0, 0, 0, 0), (36, .aload_n 0, 0, 0, 0, 0), (37, .aload_n 0, 0, 0, 0, 0), (38, .getfield 154, 7, 32, 0, 0), (41, .invokevirtual 187, 134, 2, 7, 1), (44, .ifCond .ne 5, 0, 0, 0, 0),
  (47, .iconst 0, 0, 0, 0, 0), (48, .ireturn, 0, 0, 0, 0), (49, .aload_n 0, 0, 0, 0, 0), (50, .getfield 169, 7, 47, 0, 0), (53, .istore_n 1, 0, 0, 0, 0), (54, .aload_n 0, 0, 0, 0, 0),
  (55, .invokevirtual 157, 129, 1, 7, 0), (58, .aload_n 0, 0, 0, 0, 0), (59, .getfield 133, 7, 29, 0, 0), (62, .iconst 1, 0, 0, 0, 0), (63, .if_icmp .eq 9, 0, 0, 0, 0), (66, .aload_n 0, 0, 0, 0, 0),
  (67, .iconst 1, 0, 0, 0, 0), (68, .invokevirtual 151, 130, 2, 7, 1), (71, .ireturn, 0, 0, 0, 0), (72, .aload_n 0, 0, 0, 0, 0), (73, .getfield 136, 7, 30, 0, 0), (76, .ifCond .ne 26, 0, 0, 0, 0),
  (79, .iload_n 1, 0, 0, 0, 0), (80, .aload_n 0, 0, 0, 0, 0), (81, .getfield 160, 7, 33, 0, 0), (84, .irem, 0, 0, 0, 0), (85, .aload_n 0, 0, 0, 0, 0), (86, .getfield 160, 7, 33, 0, 0),
  (89, .iconst 1, 0, 0, 0, 0), (90, .isub, 0, 0, 0, 0), (91, .if_icmp .ge 7, 0, 0, 0, 0), (94, .iconst 1, 0, 0, 0, 0), (95, .goto 27, 0, 0, 0, 0), (98, .iconst 0, 0, 0, 0, 0),
  (99, .goto 23, 0, 0, 0, 0), (102, .iload_n 1, 0, 0, 0, 0), (103, .aload_n 0, 0, 0, 0, 0), (104, .getfield 160, 7, 33, 0, 0), (107, .idiv, 0, 0, 0, 0), (108, .aload_n 0, 0, 0, 0, 0),
  (109, .getfield 166, 7, 34, 0, 0), (112, .iconst 1, 0, 0, 0, 0), (113, .isub, 0, 0, 0, 0), (114, .if_icmp .ge 7, 0, 0, 0, 0), (117, .iconst 1, 0, 0, 0, 0), (118, .goto 4, 0, 0, 0, 0),
  (121, .iconst 0, 0, 0, 0, 0), (122, .istore_n 2, 0, 0, 0, 0), (123, .aload_n 0, 0, 0, 0, 0), (124, .getfield 136, 7, 30, 0, 0), (127, .i2l, 0, 0, 0, 0), (128, .lconst 0, 0, 0, 0, 0),
  (129, .lconst 1, 0, 0, 0, 0), (130, .invokestatic 102, 118, 3, 7, 1), (133, .ifCond .eq 7, 0, 0, 0, 0), (136, .iload_n 2, 0, 0, 0, 0), (137, .ifCond .ne 9, 0, 0, 0, 0), (140, .aload_n 0, 0, 0, 0, 0),
  (141, .iconst 2, 0, 0, 0, 0), (142, .invokevirtual 151, 130, 2, 7, 1), (145, .ireturn, 0, 0, 0, 0), (146, .aload_n 0, 0, 0, 0, 0), (147, .getfield 66, 7, 36, 0, 0), (150, .bipush 20, 0, 0, 0, 0),
  (152, .aload_n 0, 0, 0, 0, 0), (153, .getfield 136, 7, 30, 0, 0), (156, .imul, 0, 0, 0, 0), (157, .iload_n 1, 0, 0, 0, 0), (158, .iadd, 0, 0, 0, 0), (159, .iaload, 0, 0, 0, 0),
  (160, .iconst 1, 0, 0, 0, 0), (161, .if_icmp .ne 9, 0, 0, 0, 0), (164, .aload_n 0, 0, 0, 0, 0), (165, .iconst 4, 0, 0, 0, 0), (166, .invokevirtual 151, 130, 2, 7, 1), (169, .ireturn, 0, 0, 0, 0),
  (170, .aload_n 0, 0, 0, 0, 0), (171, .getfield 66, 7, 36, 0, 0), (174, .bipush 20, 0, 0, 0, 0), (176, .aload_n 0, 0, 0, 0, 0), (177, .getfield 136, 7, 30, 0, 0), (180, .imul, 0, 0, 0, 0),
  (181, .iload_n 1, 0, 0, 0, 0), (182, .iadd, 0, 0, 0, 0), (183, .iconst 1, 0, 0, 0, 0), (184, .iastore, 0, 0, 0, 0), (185, .aload_n 0, 0, 0, 0, 0), (186, .invokevirtual 157, 129, 1, 7, 0),
  (189, .aload_n 0, 0, 0, 0, 0), (190, .invokevirtual 177, 132, 1, 7, 1), (193, .ireturn, 0, 0, 0, 0)]
def tMo_readsWall : xTb := ((⟨"FirstFeltModel", "readsWall", "()Z"⟩, prog_9_method_21_code, 3, (some .boolean)), (0, 0), "FirstFeltModel", true, iMo_readsWall)
def iMo_readsStove : List (Nat × xE) := [(0, .aload_n 0, 0, 0, 0, 0), (1, .getfield 190, 7, 40, 0, 0), (4, .iconst 4, 0, 0, 0, 0), (5, .if_icmp .ne 9, 0, 0, 0, 0), (8, .aload_n 0, 0, 0, 0, 0), (9, .iconst 3, 0, 0, 0, 0),
  (10, .invokevirtual 151, 130, 2, 7, 1), (13, .ireturn, 0, 0, 0, 0), (14, .aload_n 0, 0, 0, 0, 0), (15, .invokevirtual 157, 129, 1, 7, 0), (18, .aload_n 0, 0, 0, 0, 0), (19, .invokevirtual 184, 133, 1, 7, 1),
  (22, .ifCond .eq 14, 0, 0, 0, 0), (25, .aload_n 0, 0, 0, 0, 0), (26, .aload_n 0, 0, 0, 0, 0), (27, .getfield 154, 7, 32, 0, 0), (30, .invokevirtual 187, 134, 2, 7, 1), (33, .ifCond .ne 5, 0, 0, 0, 0),
  (36, .iconst 0, 0, 0, 0, 0), (37, .ireturn, 0, 0, 0, 0), (38, .aload_n 0, 0, 0, 0, 0), (39, .getfield 75, 7, 42, 0, 0), (42, .aload_n 0, 0, 0, 0, 0), (43, .getfield 169, 7, 47, 0, 0),
  (46, .baload, 0, 0, 0, 0), (47, .ifCond .eq 9, 0, 0, 0, 0), (50, .aload_n 0, 0, 0, 0, 0), (51, .iconst 4, 0, 0, 0, 0), (52, .invokevirtual 151, 130, 2, 7, 1), (55, .ireturn, 0, 0, 0, 0),
  (56, .aload_n 0, 0, 0, 0, 0), (57, .getfield 75, 7, 42, 0, 0), (60, .aload_n 0, 0, 0, 0, 0), (61, .getfield 169, 7, 47, 0, 0), (64, .iconst 1, 0, 0, 0, 0), (65, .bastore, 0, 0, 0, 0),
  (66, .aload_n 0, 0, 0, 0, 0), (67, .getfield 72, 7, 41, 0, 0), (70, .aload_n 0, 0, 0, 0, 0), (71, .getfield 190, 7, 40, 0, 0), (74, .aload_n 0, 0, 0, 0, 0), (75, .getfield 169, 7, 47, 0, 0),
  (78, .iastore, 0, 0, 0, 0), (79, .aload_n 0, 0, 0, 0, 0), (80, .invokevirtual 157, 129, 1, 7, 0), (83, .aload_n 0, 0, 0, 0, 0), (84, .iconst 1, 0, 0, 0, 0), (85, .bipush 60, 0, 0, 0, 0),
  (87, .invokevirtual 163, 131, 3, 7, 1), (90, .ifCond .ne 5, 0, 0, 0, 0), (93, .iconst 0, 0, 0, 0, 0), (94, .ireturn, 0, 0, 0, 0), (95, .aload_n 0, 0, 0, 0, 0), (96, .getfield 72, 7, 41, 0, 0),
  (99, .iconst 4, 0, 0, 0, 0), (100, .aload_n 0, 0, 0, 0, 0), (101, .getfield 190, 7, 40, 0, 0), (104, .iadd, 0, 0, 0, 0), (105, .aload_n 0, 0, 0, 0, 0), (106, .getfield 154, 7, 32, 0, 0),
  (109, .iastore, 0, 0, 0, 0), (110, .aload_n 0, 0, 0, 0, 0), (111, .iconst 0, 0, 0, 0, 0), (112, .bipush 99, 0, 0, 0, 0), (114, .invokevirtual 163, 131, 3, 7, 1), (117, .ifCond .ne 5, 0, 0, 0, 0),
  (120, .iconst 0, 0, 0, 0, 0), (121, .ireturn, 0, 0, 0, 0), (122, .aload_n 0, 0, 0, 0, 0), (123, .getfield 72, 7, 41, 0, 0), (126, .bipush 8, 0, 0, 0, 0), (128, .aload_n 0, 0, 0, 0, 0),
  (129, .getfield 190, 7, 40, 0, 0), (132, .iadd, 0, 0, 0, 0), (133, .aload_n 0, 0, 0, 0, 0), (134, .getfield 154, 7, 32, 0, 0), (137, .iastore, 0, 0, 0, 0), (138, .aload_n 0, 0, 0, 0, 0),
  (139, .dup, 0, 0, 0, 0), (140, .getfield 190, 7, 40, 0, 0), (143, .iconst 1, 0, 0, 0, 0), (144, .iadd, 0, 0, 0, 0), (145, .putfield 190, 7, 40, 0, 0), (148, .aload_n 0, 0, 0, 0, 0),
  (149, .invokevirtual 177, 132, 1, 7, 1), (152, .ireturn, 0, 0, 0, 0)]
def tMo_readsStove : xTb := ((⟨"FirstFeltModel", "readsStove", "()Z"⟩, prog_9_method_22_code, 1, (some .boolean)), (0, 0), "FirstFeltModel", true, iMo_readsStove)
def iMo_readsRoof : List (Nat × xE) := [(0, .aload_n 0, 0, 0, 0, 0), (1, .getfield 193, 7, 39, 0, 0), (4, .bipush 12, 0, 0, 0, 0), (6, .if_icmp .ne 9, 0, 0, 0, 0), (9, .aload_n 0, 0, 0, 0, 0), (10, .iconst 3, 0, 0, 0, 0),
  (11, .invokevirtual 151, 130, 2, 7, 1), (14, .ireturn, 0, 0, 0, 0), (15, .aload_n 0, 0, 0, 0, 0), (16, .dup, 0, 0, 0, 0), (17, .getfield 193, 7, 39, 0, 0), (20, .iconst 1, 0, 0, 0, 0),
  (21, .iadd, 0, 0, 0, 0), (22, .putfield 193, 7, 39, 0, 0), (25, .aload_n 0, 0, 0, 0, 0), (26, .invokevirtual 157, 129, 1, 7, 0), (29, .aload_n 0, 0, 0, 0, 0), (30, .invokevirtual 184, 133, 1, 7, 1),
  (33, .ifCond .eq 14, 0, 0, 0, 0), (36, .aload_n 0, 0, 0, 0, 0), (37, .aload_n 0, 0, 0, 0, 0), (38, .getfield 154, 7, 32, 0, 0), (41, .invokevirtual 187, 134, 2, 7, 1), (44, .ifCond .ne 5, 0, 0, 0, 0),
  (47, .iconst 0, 0, 0, 0, 0), (48, .ireturn, 0, 0, 0, 0), (49, .aload_n 0, 0, 0, 0, 0), (50, .getfield 69, 7, 38, 0, 0), (53, .aload_n 0, 0, 0, 0, 0), (54, .getfield 169, 7, 47, 0, 0),
  (57, .baload, 0, 0, 0, 0), (58, .ifCond .eq 9, 0, 0, 0, 0), (61, .aload_n 0, 0, 0, 0, 0), (62, .iconst 4, 0, 0, 0, 0), (63, .invokevirtual 151, 130, 2, 7, 1), (66, .ireturn, 0, 0, 0, 0),
  (67, .aload_n 0, 0, 0, 0, 0), (68, .getfield 69, 7, 38, 0, 0), (71, .aload_n 0, 0, 0, 0, 0), (72, .getfield 169, 7, 47, 0, 0), (75, .iconst 1, 0, 0, 0, 0), (76, .bastore, 0, 0, 0, 0),
  (77, .aload_n 0, 0, 0, 0, 0), (78, .invokevirtual 157, 129, 1, 7, 0), (81, .aload_n 0, 0, 0, 0, 0), (82, .invokevirtual 177, 132, 1, 7, 1), (85, .ireturn, 0, 0, 0, 0)]
def tMo_readsRoof : xTb := ((⟨"FirstFeltModel", "readsRoof", "()Z"⟩, prog_9_method_23_code, 1, (some .boolean)), (0, 0), "FirstFeltModel", true, iMo_readsRoof)
def iMo_readsSun : List (Nat × xE) := [(0, .aload_n 0, 0, 0, 0, 0), (1, .getfield 196, 7, 43, 0, 0), (4, .ifCond .le 9, 0, 0, 0, 0), (7, .aload_n 0, 0, 0, 0, 0), (8, .iconst 3, 0, 0, 0, 0), (9, .invokevirtual 151, 130, 2, 7, 1),
  (12, .ireturn, 0, 0, 0, 0), (13, .aload_n 0, 0, 0, 0, 0), (14, .invokevirtual 157, 129, 1, 7, 0), (17, .iconst 1, 0, 0, 0, 0), (18, .istore_n 1, 0, 0, 0, 0), (19, .iload_n 1, 0, 0, 0, 0),
  (20, .ifCond .eq 73, 0, 0, 0, 0), (23, .aload_n 0, 0, 0, 0, 0), (24, .iconst 0, 0, 0, 0, 0), (25, .bipush 30, 0, 0, 0, 0), (27, .invokevirtual 163, 131, 3, 7, 1), (30, .ifCond .ne 5, 0, 0, 0, 0),
  (33, .iconst 0, 0, 0, 0, 0), (34, .ireturn, 0, 0, 0, 0), (35, .aload_n 0, 0, 0, 0, 0), (36, .getfield 78, 7, 44, 0, 0), (39, .aload_n 0, 0, 0, 0, 0), (40, .getfield 196, 7, 43, 0, 0),
  (43, .aload_n 0, 0, 0, 0, 0), (44, .getfield 154, 7, 32, 0, 0), (47, .iastore, 0, 0, 0, 0), (48, .aload_n 0, 0, 0, 0, 0), (49, .dup, 0, 0, 0, 0), (50, .getfield 196, 7, 43, 0, 0),
  (53, .iconst 1, 0, 0, 0, 0), (54, .iadd, 0, 0, 0, 0), (55, .putfield 196, 7, 43, 0, 0), (58, .aload_n 0, 0, 0, 0, 0), (59, .getfield 133, 7, 29, 0, 0), (62, .bipush 44, 0, 0, 0, 0),
  (64, .if_icmp .ne 16, 0, 0, 0, 0), (67, .aload_n 0, 0, 0, 0, 0), (68, .getfield 196, 7, 43, 0, 0), (71, .bipush 8, 0, 0, 0, 0), (73, .if_icmp .ge 7, 0, 0, 0, 0), (76, .iconst 1, 0, 0, 0, 0),
  (77, .goto 4, 0, 0, 0, 0), (80, .iconst 0, 0, 0, 0, 0), (81, .istore_n 1, 0, 0, 0, 0), (82, .iload_n 1, 0, 0, 0, 0), (83, .ifCond .eq (-64), 0, 0, 0, 0), (86, .aload_n 0, 0, 0, 0, 0),
  (87, .invokevirtual 157, 129, 1, 7, 0), (90, .goto (-71), 0, 0, 0, 0), (93, .aload_n 0, 0, 0, 0, 0), (94, .invokevirtual 177, 132, 1, 7, 1), (97, .ireturn, 0, 0, 0, 0)]
def tMo_readsSun : xTb := ((⟨"FirstFeltModel", "readsSun", "()Z"⟩, prog_9_method_24_code, 2, (some .boolean)), (0, 0), "FirstFeltModel", true, iMo_readsSun)
def iMo_readsPerson : List (Nat × xE) := [(0, .aload_n 0, 0, 0, 0, 0), (1, .getfield 199, 7, 45, 0, 0), (4, .bipush 6, 0, 0, 0, 0), (6, .if_icmp .ne 9, 0, 0, 0, 0), (9, .aload_n 0, 0, 0, 0, 0), (10, .iconst 3, 0, 0, 0, 0),
  (11, .invokevirtual 151, 130, 2, 7, 1), (14, .ireturn, 0, 0, 0, 0), (15, .aload_n 0, 0, 0, 0, 0), (16, .invokevirtual 157, 129, 1, 7, 0), (19, .aload_n 0, 0, 0, 0, 0), (20, .invokevirtual 184, 133, 1, 7, 1),
  (23, .ifCond .eq 14, 0, 0, 0, 0), (26, .aload_n 0, 0, 0, 0, 0), (27, .aload_n 0, 0, 0, 0, 0), (28, .getfield 154, 7, 32, 0, 0), (31, .invokevirtual 187, 134, 2, 7, 1), (34, .ifCond .ne 5, 0, 0, 0, 0),
  (37, .iconst 0, 0, 0, 0, 0), (38, .ireturn, 0, 0, 0, 0), (39, .aload_n 0, 0, 0, 0, 0), (40, .getfield 81, 7, 46, 0, 0), (43, .aload_n 0, 0, 0, 0, 0), (44, .getfield 199, 7, 45, 0, 0),
  (47, .aload_n 0, 0, 0, 0, 0), (48, .getfield 169, 7, 47, 0, 0), (51, .iastore, 0, 0, 0, 0), (52, .aload_n 0, 0, 0, 0, 0), (53, .invokevirtual 157, 129, 1, 7, 0), (56, .aload_n 0, 0, 0, 0, 0),
  (57, .iconst 0, 0, 0, 0, 0), (58, .sipush 300, 0, 0, 0, 0), (61, .invokevirtual 163, 131, 3, 7, 1), (64, .ifCond .ne 5, 0, 0, 0, 0), (67, .iconst 0, 0, 0, 0, 0), (68, .ireturn, 0, 0, 0, 0),
  (69, .aload_n 0, 0, 0, 0, 0), (70, .getfield 81, 7, 46, 0, 0), (73, .bipush 6, 0, 0, 0, 0), (75, .aload_n 0, 0, 0, 0, 0), (76, .getfield 199, 7, 45, 0, 0), (79, .iadd, 0, 0, 0, 0),
  (80, .aload_n 0, 0, 0, 0, 0), (81, .getfield 154, 7, 32, 0, 0), (84, .iastore, 0, 0, 0, 0), (85, .aload_n 0, 0, 0, 0, 0), (86, .iconst 1, 0, 0, 0, 0), (87, .bipush 60, 0, 0, 0, 0),
  (89, .invokevirtual 163, 131, 3, 7, 1), (92, .ifCond .ne 5, 0, 0, 0, 0), (95, .iconst 0, 0, 0, 0, 0), (96, .ireturn, 0, 0, 0, 0), (97, .aload_n 0, 0, 0, 0, 0), (98, .getfield 81, 7, 46, 0, 0),
  (101, .bipush 12, 0, 0, 0, 0), (103, .aload_n 0, 0, 0, 0, 0), (104, .getfield 199, 7, 45, 0, 0), (107, .iadd, 0, 0, 0, 0), (108, .aload_n 0, 0, 0, 0, 0), (109, .getfield 154, 7, 32, 0, 0),
  (112, .iastore, 0, 0, 0, 0), (113, .aload_n 0, 0, 0, 0, 0), (114, .iconst 0, 0, 0, 0, 0), (115, .bipush 9, 0, 0, 0, 0), (117, .invokevirtual 163, 131, 3, 7, 1), (120, .ifCond .ne 5, 0, 0, 0, 0),
  (123, .iconst 0, 0, 0, 0, 0), (124, .ireturn, 0, 0, 0, 0), (125, .aload_n 0, 0, 0, 0, 0), (126, .getfield 81, 7, 46, 0, 0), (129, .bipush 18, 0, 0, 0, 0), (131, .aload_n 0, 0, 0, 0, 0),
  (132, .getfield 199, 7, 45, 0, 0), (135, .iadd, 0, 0, 0, 0), (136, .aload_n 0, 0, 0, 0, 0), (137, .getfield 154, 7, 32, 0, 0), (140, .iastore, 0, 0, 0, 0), (141, .aload_n 0, 0, 0, 0, 0),
  (142, .dup, 0, 0, 0, 0), (143, .getfield 199, 7, 45, 0, 0), (146, .iconst 1, 0, 0, 0, 0), (147, .iadd, 0, 0, 0, 0), (148, .putfield 199, 7, 45, 0, 0), (151, .aload_n 0, 0, 0, 0, 0),
  (152, .invokevirtual 177, 132, 1, 7, 1), (155, .ireturn, 0, 0, 0, 0)]
def tMo_readsPerson : xTb := ((⟨"FirstFeltModel", "readsPerson", "()Z"⟩, prog_9_method_25_code, 1, (some .boolean)), (0, 0), "FirstFeltModel", true, iMo_readsPerson)
def iMo_readsClause : List (Nat × xE) := [(0, .aload_n 0, 0, 0, 0, 0), (1, .getfield 133, 7, 29, 0, 0), (4, .tableswitch 77 111 119 #[57, 72, 77, 62, 67, 77, 77, 77, 52], 0, 0, 0, 0), (56, .aload_n 0, 0, 0, 0, 0), (57, .invokevirtual 202, 136, 1, 7, 1), (60, .ireturn, 0, 0, 0, 0),
  (61, .aload_n 0, 0, 0, 0, 0), (62, .invokevirtual 205, 137, 1, 7, 1), (65, .ireturn, 0, 0, 0, 0), (66, .aload_n 0, 0, 0, 0, 0), (67, .invokevirtual 208, 138, 1, 7, 1), (70, .ireturn, 0, 0, 0, 0),
  (71, .aload_n 0, 0, 0, 0, 0), (72, .invokevirtual 211, 139, 1, 7, 1), (75, .ireturn, 0, 0, 0, 0), (76, .aload_n 0, 0, 0, 0, 0), (77, .invokevirtual 214, 140, 1, 7, 1), (80, .ireturn, 0, 0, 0, 0),
  (81, .aload_n 0, 0, 0, 0, 0), (82, .aload_n 0, 0, 0, 0, 0), (83, .getfield 133, 7, 29, 0, 0), (86, .bipush 116, 0, 0, 0, 0), (88, .if_icmp .ne 7, 0, 0, 0, 0), (91, .iconst 3, 0, 0, 0, 0),
  (92, .goto 4, 0, 0, 0, 0), (95, .iconst 1, 0, 0, 0, 0), (96, .invokevirtual 151, 130, 2, 7, 1), (99, .ireturn, 0, 0, 0, 0)]
def tMo_readsClause : xTb := ((⟨"FirstFeltModel", "readsClause", "()Z"⟩, prog_9_method_26_code, 1, (some .boolean)), (0, 0), "FirstFeltModel", true, iMo_readsClause)
def iMo_readsAll : List (Nat × xE) := [(0, .aload_n 0, 0, 0, 0, 0), (1, .iconst 0, 0, 0, 0, 0), (2, .putfield 160, 7, 33, 0, 0), (5, .aload_n 0, 0, 0, 0, 0), (6, .iconst 0, 0, 0, 0, 0), (7, .putfield 166, 7, 34, 0, 0),
  (10, .aload_n 0, 0, 0, 0, 0), (11, .iconst 0, 0, 0, 0, 0), (12, .putfield 181, 7, 37, 0, 0), (15, .aload_n 0, 0, 0, 0, 0), (16, .iconst 0, 0, 0, 0, 0), (17, .putfield 193, 7, 39, 0, 0),
  (20, .aload_n 0, 0, 0, 0, 0), (21, .iconst 0, 0, 0, 0, 0), (22, .putfield 190, 7, 40, 0, 0), (25, .aload_n 0, 0, 0, 0, 0), (26, .iconst 0, 0, 0, 0, 0), (27, .putfield 196, 7, 43, 0, 0),
  (30, .aload_n 0, 0, 0, 0, 0), (31, .iconst 0, 0, 0, 0, 0), (32, .putfield 199, 7, 45, 0, 0), (35, .aload_n 0, 0, 0, 0, 0), (36, .iconst 0, 0, 0, 0, 0), (37, .putfield 148, 7, 31, 0, 0),
  (40, .iconst 0, 0, 0, 0, 0), (41, .istore_n 1, 0, 0, 0, 0), (42, .iload_n 1, 0, 0, 0, 0), (43, .bipush 20, 0, 0, 0, 0), (45, .if_icmp .ge 40, 0, 0, 0, 0), (48, .aload_n 0, 0, 0, 0, 0),
  (49, .getfield 66, 7, 36, 0, 0), (52, .iload_n 1, 0, 0, 0, 0), (53, .iconst 0, 0, 0, 0, 0), (54, .iastore, 0, 0, 0, 0), (55, .aload_n 0, 0, 0, 0, 0), (56, .getfield 66, 7, 36, 0, 0),
  (59, .bipush 20, 0, 0, 0, 0), (61, .iload_n 1, 0, 0, 0, 0), (62, .iadd, 0, 0, 0, 0), (63, .iconst 0, 0, 0, 0, 0), (64, .iastore, 0, 0, 0, 0), (65, .aload_n 0, 0, 0, 0, 0),
  (66, .getfield 69, 7, 38, 0, 0), (69, .iload_n 1, 0, 0, 0, 0), (70, .iconst 0, 0, 0, 0, 0), (71, .bastore, 0, 0, 0, 0), (72, .aload_n 0, 0, 0, 0, 0), (73, .getfield 75, 7, 42, 0, 0),
  (76, .iload_n 1, 0, 0, 0, 0), (77, .iconst 0, 0, 0, 0, 0), (78, .bastore, 0, 0, 0, 0), (79, .iinc 1 1, 0, 0, 0, 0), (82, .goto (-40), 0, 0, 0, 0), (85, .aload_n 0, 0, 0, 0, 0),
  (86, .iconst 0, 0, 0, 0, 0), (87, .invokevirtual 144, 128, 2, 7, 0), (90, .aload_n 0, 0, 0, 0, 0), (91, .getfield 133, 7, 29, 0, 0), (94, .ifCond .ne 5, 0, 0, 0, 0), (97, .iconst 1, 0, 0, 0, 0),
  (98, .ireturn, 0, 0, 0, 0), (99, .aload_n 0, 0, 0, 0, 0), (100, .invokevirtual 217, 135, 1, 7, 1), (103, .istore_n 1, 0, 0, 0, 0), (104, .iload_n 1, 0, 0, 0, 0), (105, .ifCond .eq 18, 0, 0, 0, 0),
  (108, .aload_n 0, 0, 0, 0, 0), (109, .getfield 133, 7, 29, 0, 0), (112, .ifCond .eq 11, 0, 0, 0, 0), (115, .aload_n 0, 0, 0, 0, 0), (116, .invokevirtual 220, 141, 1, 7, 1), (119, .istore_n 1, 0, 0, 0, 0),
  (120, .goto (-16), 0, 0, 0, 0), (123, .iload_n 1, 0, 0, 0, 0), (124, .ireturn, 0, 0, 0, 0)]
def tMo_readsAll : xTb := ((⟨"FirstFeltModel", "readsAll", "()Z"⟩, prog_9_method_27_code, 2, (some .boolean)), (0, 0), "FirstFeltModel", true, iMo_readsAll)
def iMo_town : List (Nat × xE) := [(0, .aload_n 0, 0, 0, 0, 0), (1, .invokevirtual 223, 142, 1, 7, 1), (4, .istore_n 1, 0, 0, 0, 0), (5, .aload_n 0, 0, 0, 0, 0), (6, .iload_n 1, 0, 0, 0, 0), (7, .ifCond .eq 7, 0, 0, 0, 0),
  (10, .iconst (-1), 0, 0, 0, 0), (11, .goto 7, 0, 0, 0, 0), (14, .aload_n 0, 0, 0, 0, 0), (15, .getfield 127, 7, 27, 0, 0), (18, .putfield 62, 7, 26, 0, 0), (21, .aload_n 0, 0, 0, 0, 0),
  (22, .iconst 0, 0, 0, 0, 0), (23, .putfield 119, 7, 25, 0, 0), (26, .iload_n 1, 0, 0, 0, 0), (27, .ifCond .ne 11, 0, 0, 0, 0), (30, .bipush (-10), 0, 0, 0, 0), (32, .aload_n 0, 0, 0, 0, 0),
  (33, .getfield 148, 7, 31, 0, 0), (36, .isub, 0, 0, 0, 0), (37, .ireturn, 0, 0, 0, 0), (38, .aload_n 0, 0, 0, 0, 0), (39, .aload_n 0, 0, 0, 0, 0), (40, .getfield 160, 7, 33, 0, 0),
  (43, .putfield 96, 7, 4, 0, 0), (46, .aload_n 0, 0, 0, 0, 0), (47, .aload_n 0, 0, 0, 0, 0), (48, .getfield 166, 7, 34, 0, 0), (51, .putfield 99, 7, 5, 0, 0), (54, .aload_n 0, 0, 0, 0, 0),
  (55, .invokevirtual 93, 119, 1, 7, 0), (58, .aload_n 0, 0, 0, 0, 0), (59, .getfield 7, 7, 0, 0, 0), (62, .sipush 139, 0, 0, 0, 0), (65, .iconst 3, 0, 0, 0, 0), (66, .iastore, 0, 0, 0, 0),
  (67, .iconst 0, 0, 0, 0, 0), (68, .istore_n 2, 0, 0, 0, 0), (69, .iload_n 2, 0, 0, 0, 0), (70, .bipush 20, 0, 0, 0, 0), (72, .if_icmp .ge 78, 0, 0, 0, 0), (75, .aload_n 0, 0, 0, 0, 0),
  (76, .getfield 7, 7, 0, 0, 0), (79, .iconst 0, 0, 0, 0, 0), (80, .iload_n 2, 0, 0, 0, 0), (81, .iadd, 0, 0, 0, 0), (82, .iload_n 2, 0, 0, 0, 0), (83, .aload_n 0, 0, 0, 0, 0),
  (84, .invokevirtual 226, 120, 1, 7, 1), (87, .if_icmp .ge 10, 0, 0, 0, 0), (90, .aload_n 0, 0, 0, 0, 0), (91, .getfield 174, 7, 35, 0, 0), (94, .goto 4, 0, 0, 0, 0), (97, .iconst 0, 0, 0, 0, 0),
  (98, .iastore, 0, 0, 0, 0), (99, .aload_n 0, 0, 0, 0, 0), (100, .getfield 7, 7, 0, 0, 0), (103, .bipush 20, 0, 0, 0, 0), (105, .iload_n 2, 0, 0, 0, 0), (106, .iadd, 0, 0, 0, 0),
  (107, .aload_n 0, 0, 0, 0, 0), (108, .getfield 66, 7, 36, 0, 0), (111, .iload_n 2, 0, 0, 0, 0), (112, .iaload, 0, 0, 0, 0), (113, .iastore, 0, 0, 0, 0), (114, .aload_n 0, 0, 0, 0, 0),
  (115, .getfield 7, 7, 0, 0, 0), (118, .bipush 40, 0, 0, 0, 0), (120, .iload_n 2, 0, 0, 0, 0), (121, .iadd, 0, 0, 0, 0), (122, .aload_n 0, 0, 0, 0, 0), (123, .getfield 66, 7, 36, 0, 0),
  (126, .bipush 20, 0, 0, 0, 0), (128, .iload_n 2, 0, 0, 0, 0), (129, .iadd, 0, 0, 0, 0), (130, .iaload, 0, 0, 0, 0), (131, .iastore, 0, 0, 0, 0), (132, .aload_n 0, 0, 0, 0, 0),
  (133, .getfield 23, 7, 6, 0, 0), (136, .iload_n 2, 0, 0, 0, 0), (137, .aload_n 0, 0, 0, 0, 0), (138, .getfield 69, 7, 38, 0, 0), (141, .iload_n 2, 0, 0, 0, 0), (142, .baload, 0, 0, 0, 0),
  (143, .bastore, 0, 0, 0, 0), (144, .iinc 2 1, 0, 0, 0, 0), (147, .goto (-78), 0, 0, 0, 0), (150, .aload_n 0, 0, 0, 0, 0), (151, .aload_n 0, 0, 0, 0, 0), (152, .getfield 193, 7, 39, 0, 0),
  (155, .putfield 230, 7, 7, 0, 0), (158, .aload_n 0, 0, 0, 0, 0), (159, .aload_n 0, 0, 0, 0, 0), (160, .getfield 190, 7, 40, 0, 0), (163, .putfield 109, 7, 8, 0, 0), (166, .iconst 0, 0, 0, 0, 0),
  (167, .istore_n 2, 0, 0, 0, 0), (168, .iload_n 2, 0, 0, 0, 0), (169, .aload_n 0, 0, 0, 0, 0), (170, .getfield 109, 7, 8, 0, 0), (173, .if_icmp .ge 53, 0, 0, 0, 0), (176, .aload_n 0, 0, 0, 0, 0),
  (177, .getfield 26, 7, 9, 0, 0), (180, .iload_n 2, 0, 0, 0, 0), (181, .aload_n 0, 0, 0, 0, 0), (182, .getfield 72, 7, 41, 0, 0), (185, .iload_n 2, 0, 0, 0, 0), (186, .iaload, 0, 0, 0, 0),
  (187, .iastore, 0, 0, 0, 0), (188, .aload_n 0, 0, 0, 0, 0), (189, .getfield 29, 7, 10, 0, 0), (192, .iload_n 2, 0, 0, 0, 0), (193, .aload_n 0, 0, 0, 0, 0), (194, .getfield 72, 7, 41, 0, 0),
  (197, .iconst 4, 0, 0, 0, 0), (198, .iload_n 2, 0, 0, 0, 0), (199, .iadd, 0, 0, 0, 0), (200, .iaload, 0, 0, 0, 0), (201, .iastore, 0, 0, 0, 0), (202, .aload_n 0, 0, 0, 0, 0),
  (203, .getfield 7, 7, 0, 0, 0), (206, .bipush 100, 0, 0, 0, 0), (208, .iload_n 2, 0, 0, 0, 0), (209, .iadd, 0, 0, 0, 0), (210, .aload_n 0, 0, 0, 0, 0), (211, .getfield 72, 7, 41, 0, 0),
  (214, .bipush 8, 0, 0, 0, 0), (216, .iload_n 2, 0, 0, 0, 0), (217, .iadd, 0, 0, 0, 0), (218, .iaload, 0, 0, 0, 0), (219, .iastore, 0, 0, 0, 0), (220, .iinc 2 1, 0, 0, 0, 0),
  (223, .goto (-55), 0, 0, 0, 0), (226, .aload_n 0, 0, 0, 0, 0), (227, .aload_n 0, 0, 0, 0, 0), (228, .getfield 196, 7, 43, 0, 0), (231, .putfield 233, 7, 11, 0, 0), (234, .iconst 0, 0, 0, 0, 0),
  (235, .istore_n 2, 0, 0, 0, 0), (236, .iload_n 2, 0, 0, 0, 0), (237, .bipush 8, 0, 0, 0, 0), (239, .if_icmp .ge 21, 0, 0, 0, 0), (242, .aload_n 0, 0, 0, 0, 0), (243, .getfield 32, 7, 12, 0, 0),
  (246, .iload_n 2, 0, 0, 0, 0), (247, .aload_n 0, 0, 0, 0, 0), (248, .getfield 78, 7, 44, 0, 0), (251, .iload_n 2, 0, 0, 0, 0), (252, .iaload, 0, 0, 0, 0), (253, .iastore, 0, 0, 0, 0),
  (254, .iinc 2 1, 0, 0, 0, 0), (257, .goto (-21), 0, 0, 0, 0), (260, .aload_n 0, 0, 0, 0, 0), (261, .aload_n 0, 0, 0, 0, 0), (262, .getfield 199, 7, 45, 0, 0), (265, .putfield 106, 7, 13, 0, 0),
  (268, .iconst 0, 0, 0, 0, 0), (269, .istore_n 2, 0, 0, 0, 0), (270, .iload_n 2, 0, 0, 0, 0), (271, .aload_n 0, 0, 0, 0, 0), (272, .getfield 106, 7, 13, 0, 0), (275, .if_icmp .ge 72, 0, 0, 0, 0),
  (278, .aload_n 0, 0, 0, 0, 0), (279, .getfield 7, 7, 0, 0, 0), (282, .bipush 108, 0, 0, 0, 0), (284, .iload_n 2, 0, 0, 0, 0), (285, .iadd, 0, 0, 0, 0), (286, .aload_n 0, 0, 0, 0, 0),
  (287, .getfield 81, 7, 46, 0, 0), (290, .iload_n 2, 0, 0, 0, 0), (291, .iaload, 0, 0, 0, 0), (292, .iastore, 0, 0, 0, 0), (293, .aload_n 0, 0, 0, 0, 0), (294, .getfield 7, 7, 0, 0, 0),
  (297, .bipush 114, 0, 0, 0, 0), (299, .iload_n 2, 0, 0, 0, 0), (300, .iadd, 0, 0, 0, 0), (301, .aload_n 0, 0, 0, 0, 0), (302, .getfield 81, 7, 46, 0, 0), (305, .bipush 6, 0, 0, 0, 0),
  (307, .iload_n 2, 0, 0, 0, 0), (308, .iadd, 0, 0, 0, 0), (309, .iaload, 0, 0, 0, 0), (310, .iastore, 0, 0, 0, 0), (311, .aload_n 0, 0, 0, 0, 0), (312, .getfield 35, 7, 14, 0, 0),
  (315, .iload_n 2, 0, 0, 0, 0), (316, .aload_n 0, 0, 0, 0, 0), (317, .getfield 81, 7, 46, 0, 0), (320, .bipush 12, 0, 0, 0, 0), (322, .iload_n 2, 0, 0, 0, 0), (323, .iadd, 0, 0, 0, 0),
  (324, .iaload, 0, 0, 0, 0), (325, .iastore, 0, 0, 0, 0), (326, .aload_n 0, 0, 0, 0, 0), (327, .getfield 38, 7, 15, 0, 0), (330, .iload_n 2, 0, 0, 0, 0), (331, .aload_n 0, 0, 0, 0, 0),
  (332, .getfield 81, 7, 46, 0, 0), (335, .bipush 18, 0, 0, 0, 0), (337, .iload_n 2, 0, 0, 0, 0), (338, .iadd, 0, 0, 0, 0), (339, .iaload, 0, 0, 0, 0), (340, .iastore, 0, 0, 0, 0),
  (341, .iinc 2 1, 0, 0, 0, 0), (344, .goto (-74), 0, 0, 0, 0), (347, .aload_n 0, 0, 0, 0, 0), (348, .iconst 0, 0, 0, 0, 0), (349, .putfield 236, 7, 16, 0, 0), (352, .aload_n 0, 0, 0, 0, 0),
  (353, .iconst 0, 0, 0, 0, 0), (354, .putfield 239, 7, 20, 0, 0), (357, .aload_n 0, 0, 0, 0, 0), (358, .getfield 16, 7, 2, 0, 0), (361, .iconst 0, 0, 0, 0, 0), (362, .iconst 0, 0, 0, 0, 0),
  (363, .bastore, 0, 0, 0, 0), (364, .aload_n 0, 0, 0, 0, 0), (365, .getfield 16, 7, 2, 0, 0), (368, .iconst 1, 0, 0, 0, 0), (369, .iconst 0, 0, 0, 0, 0), (370, .bastore, 0, 0, 0, 0),
  (371, .aload_n 0, 0, 0, 0, 0), (372, .invokevirtual 226, 120, 1, 7, 1), (375, .ireturn, 0, 0, 0, 0)]
def tMo_town : xTb := ((⟨"FirstFeltModel", "town", "()I"⟩, prog_9_method_28_code, 3, (some .int)), (0, 0), "FirstFeltModel", false, iMo_town)
def iMo_fault : List (Nat × xE) := [(0, .aload_n 0, 0, 0, 0, 0), (1, .getfield 62, 7, 26, 0, 0), (4, .ireturn, 0, 0, 0, 0)]
def tMo_fault : xTb := ((⟨"FirstFeltModel", "fault", "()I"⟩, prog_9_method_29_code, 1, (some .int)), (0, 0), "FirstFeltModel", false, iMo_fault)
def iMo_wallsNow : List (Nat × xE) := [(0, .iconst 0, 0, 0, 0, 0), (1, .istore_n 1, 0, 0, 0, 0), (2, .bipush 20, 0, 0, 0, 0), (4, .istore_n 2, 0, 0, 0, 0), (5, .iload_n 2, 0, 0, 0, 0), (6, .bipush 60, 0, 0, 0, 0),
  (8, .if_icmp .ge 18, 0, 0, 0, 0), (11, .iload_n 1, 0, 0, 0, 0), (12, .aload_n 0, 0, 0, 0, 0), (13, .getfield 7, 7, 0, 0, 0), (16, .iload_n 2, 0, 0, 0, 0), (17, .iaload, 0, 0, 0, 0),
  (18, .iadd, 0, 0, 0, 0), (19, .istore_n 1, 0, 0, 0, 0), (20, .iinc 2 1, 0, 0, 0, 0), (23, .goto (-18), 0, 0, 0, 0), (26, .iload_n 1, 0, 0, 0, 0), (27, .ireturn, 0, 0, 0, 0)]
def tMo_wallsNow : xTb := ((⟨"FirstFeltModel", "wallsNow", "()I"⟩, prog_9_method_30_code, 3, (some .int)), (0, 0), "FirstFeltModel", false, iMo_wallsNow)
def iMo_sunAt : List (Nat × xE) := [(0, .aload_n 0, 0, 0, 0, 0), (1, .getfield 233, 7, 11, 0, 0), (4, .ifCond .ne 7, 0, 0, 0, 0), (7, .iconst 0, 0, 0, 0, 0), (8, .goto 17, 0, 0, 0, 0), (11, .aload_n 0, 0, 0, 0, 0),
  (12, .getfield 32, 7, 12, 0, 0), (15, .iload_n 1, 0, 0, 0, 0), (16, .bipush 6, 0, 0, 0, 0), (18, .idiv, 0, 0, 0, 0), (19, .aload_n 0, 0, 0, 0, 0), (20, .getfield 233, 7, 11, 0, 0),
  (23, .irem, 0, 0, 0, 0), (24, .iaload, 0, 0, 0, 0), (25, .ireturn, 0, 0, 0, 0)]
def tMo_sunAt : xTb := ((⟨"FirstFeltModel", "sunAt", "(I)I"⟩, prog_9_method_31_code, 2, (some .int)), (0, 0), "FirstFeltModel", false, iMo_sunAt)
def iMo_told : List (Nat × xE) := [(0, .iload_n 1, 0, 0, 0, 0), (1, .tableswitch 174 0 14 #[75, 80, 85, 90, 95, 100, 105, 110, 115, 124, 133, 142, 155, 164, 169], 0, 0, 0, 0), (76, .aload_n 0, 0, 0, 0, 0), (77, .getfield 96, 7, 4, 0, 0), (80, .ireturn, 0, 0, 0, 0), (81, .aload_n 0, 0, 0, 0, 0),
  (82, .getfield 99, 7, 5, 0, 0), (85, .ireturn, 0, 0, 0, 0), (86, .aload_n 0, 0, 0, 0, 0), (87, .invokevirtual 242, 145, 1, 7, 1), (90, .ireturn, 0, 0, 0, 0), (91, .aload_n 0, 0, 0, 0, 0),
  (92, .getfield 109, 7, 8, 0, 0), (95, .ireturn, 0, 0, 0, 0), (96, .aload_n 0, 0, 0, 0, 0), (97, .getfield 230, 7, 7, 0, 0), (100, .ireturn, 0, 0, 0, 0), (101, .aload_n 0, 0, 0, 0, 0),
  (102, .getfield 233, 7, 11, 0, 0), (105, .ireturn, 0, 0, 0, 0), (106, .aload_n 0, 0, 0, 0, 0), (107, .getfield 106, 7, 13, 0, 0), (110, .ireturn, 0, 0, 0, 0), (111, .aload_n 0, 0, 0, 0, 0),
  (112, .getfield 119, 7, 25, 0, 0), (115, .ireturn, 0, 0, 0, 0), (116, .aload_n 0, 0, 0, 0, 0), (117, .getfield 7, 7, 0, 0, 0), (120, .sipush 140, 0, 0, 0, 0), (123, .iaload, 0, 0, 0, 0),
  (124, .ireturn, 0, 0, 0, 0), (125, .aload_n 0, 0, 0, 0, 0), (126, .getfield 7, 7, 0, 0, 0), (129, .sipush 138, 0, 0, 0, 0), (132, .iaload, 0, 0, 0, 0), (133, .ireturn, 0, 0, 0, 0),
  (134, .aload_n 0, 0, 0, 0, 0), (135, .getfield 7, 7, 0, 0, 0), (138, .sipush 139, 0, 0, 0, 0), (141, .iaload, 0, 0, 0, 0), (142, .ireturn, 0, 0, 0, 0), (143, .aload_n 0, 0, 0, 0, 0),
  (144, .aload_n 0, 0, 0, 0, 0), (145, .getfield 7, 7, 0, 0, 0), (148, .sipush 140, 0, 0, 0, 0), (151, .iaload, 0, 0, 0, 0), (152, .invokevirtual 245, 146, 2, 7, 1), (155, .ireturn, 0, 0, 0, 0),
  (156, .aload_n 0, 0, 0, 0, 0), (157, .getfield 7, 7, 0, 0, 0), (160, .sipush 142, 0, 0, 0, 0), (163, .iaload, 0, 0, 0, 0), (164, .ireturn, 0, 0, 0, 0), (165, .aload_n 0, 0, 0, 0, 0),
  (166, .getfield 236, 7, 16, 0, 0), (169, .ireturn, 0, 0, 0, 0), (170, .aload_n 0, 0, 0, 0, 0), (171, .getfield 239, 7, 20, 0, 0), (174, .ireturn, 0, 0, 0, 0), (175, .ldc 118, 0, 0, 0, -1000000002),
  (177, .ireturn, 0, 0, 0, 0)]
def tMo_told : xTb := ((⟨"FirstFeltModel", "told", "(I)I"⟩, prog_9_method_32_code, 2, (some .int)), (0, 0), "FirstFeltModel", false, iMo_told)
def iMo_onCell : List (Nat × xE) := [(0, .iconst 0, 0, 0, 0, 0), (1, .istore_n 2, 0, 0, 0, 0), (2, .iconst 0, 0, 0, 0, 0), (3, .istore_n 3, 0, 0, 0, 0), (4, .iload_n 3, 0, 0, 0, 0), (5, .aload_n 0, 0, 0, 0, 0),
  (6, .getfield 106, 7, 13, 0, 0), (9, .if_icmp .ge 32, 0, 0, 0, 0), (12, .iload_n 2, 0, 0, 0, 0), (13, .aload_n 0, 0, 0, 0, 0), (14, .getfield 7, 7, 0, 0, 0), (17, .bipush 108, 0, 0, 0, 0),
  (19, .iload_n 3, 0, 0, 0, 0), (20, .iadd, 0, 0, 0, 0), (21, .iaload, 0, 0, 0, 0), (22, .iload_n 1, 0, 0, 0, 0), (23, .if_icmp .ne 9, 0, 0, 0, 0), (26, .iconst 1, 0, 0, 0, 0),
  (27, .iload_n 3, 0, 0, 0, 0), (28, .ishl, 0, 0, 0, 0), (29, .goto 4, 0, 0, 0, 0), (32, .iconst 0, 0, 0, 0, 0), (33, .ior, 0, 0, 0, 0), (34, .istore_n 2, 0, 0, 0, 0),
  (35, .iinc 3 1, 0, 0, 0, 0), (38, .goto (-34), 0, 0, 0, 0), (41, .iload_n 2, 0, 0, 0, 0), (42, .ireturn, 0, 0, 0, 0)]
def tMo_onCell : xTb := ((⟨"FirstFeltModel", "onCell", "(I)I"⟩, prog_9_method_33_code, 4, (some .int)), (0, 0), "FirstFeltModel", false, iMo_onCell)
def iMo_cell : List (Nat × xE) := [(0, .aload_n 0, 0, 0, 0, 0), (1, .iload_n 1, 0, 0, 0, 0), (2, .iload_n 2, 0, 0, 0, 0), (3, .invokevirtual 112, 121, 3, 7, 1), (6, .ifCond .ne 6, 0, 0, 0, 0), (9, .ldc 249, 0, 0, 0, -1000000001),
  (11, .ireturn, 0, 0, 0, 0), (12, .aload_n 0, 0, 0, 0, 0), (13, .getfield 96, 7, 4, 0, 0), (16, .iload_n 2, 0, 0, 0, 0), (17, .imul, 0, 0, 0, 0), (18, .iload_n 1, 0, 0, 0, 0),
  (19, .iadd, 0, 0, 0, 0), (20, .istore 4, 0, 0, 0, 0), (22, .iload_n 3, 0, 0, 0, 0), (23, .tableswitch 73 0 3 #[29, 39, 50, 66], 0, 0, 0, 0), (52, .aload_n 0, 0, 0, 0, 0), (53, .getfield 7, 7, 0, 0, 0),
  (56, .iconst 0, 0, 0, 0, 0), (57, .iload 4, 0, 0, 0, 0), (59, .iadd, 0, 0, 0, 0), (60, .iaload, 0, 0, 0, 0), (61, .ireturn, 0, 0, 0, 0), (62, .aload_n 0, 0, 0, 0, 0),
  (63, .getfield 7, 7, 0, 0, 0), (66, .bipush 60, 0, 0, 0, 0), (68, .iload 4, 0, 0, 0, 0), (70, .iadd, 0, 0, 0, 0), (71, .iaload, 0, 0, 0, 0), (72, .ireturn, 0, 0, 0, 0),
  (73, .aload_n 0, 0, 0, 0, 0), (74, .getfield 23, 7, 6, 0, 0), (77, .iload 4, 0, 0, 0, 0), (79, .baload, 0, 0, 0, 0), (80, .ifCond .eq 7, 0, 0, 0, 0), (83, .iconst 1, 0, 0, 0, 0),
  (84, .goto 4, 0, 0, 0, 0), (87, .iconst 0, 0, 0, 0, 0), (88, .ireturn, 0, 0, 0, 0), (89, .aload_n 0, 0, 0, 0, 0), (90, .iload 4, 0, 0, 0, 0), (92, .invokevirtual 250, 148, 2, 7, 1),
  (95, .ireturn, 0, 0, 0, 0), (96, .ldc 118, 0, 0, 0, -1000000002), (98, .ireturn, 0, 0, 0, 0)]
def tMo_cell : xTb := ((⟨"FirstFeltModel", "cell", "(III)I"⟩, prog_9_method_34_code, 5, (some .int)), (0, 0), "FirstFeltModel", false, iMo_cell)
def iMo_notWall : List (Nat × xE) := [(0, .aload_n 0, 0, 0, 0, 0), (1, .iload_n 1, 0, 0, 0, 0), (2, .iload_n 2, 0, 0, 0, 0), (3, .invokevirtual 112, 121, 3, 7, 1), (6, .ifCond .eq 34, 0, 0, 0, 0), (9, .iload_n 3, 0, 0, 0, 0),
  (10, .ifCond .ne 14, 0, 0, 0, 0), (13, .aload_n 0, 0, 0, 0, 0), (14, .iload_n 1, 0, 0, 0, 0), (15, .iconst 1, 0, 0, 0, 0), (16, .iadd, 0, 0, 0, 0), (17, .iload_n 2, 0, 0, 0, 0),
  (18, .invokevirtual 112, 121, 3, 7, 1), (21, .ifCond .eq 19, 0, 0, 0, 0), (24, .iload_n 3, 0, 0, 0, 0), (25, .iconst 1, 0, 0, 0, 0), (26, .if_icmp .ne 17, 0, 0, 0, 0), (29, .aload_n 0, 0, 0, 0, 0),
  (30, .iload_n 1, 0, 0, 0, 0), (31, .iload_n 2, 0, 0, 0, 0), (32, .iconst 1, 0, 0, 0, 0), (33, .iadd, 0, 0, 0, 0), (34, .invokevirtual 112, 121, 3, 7, 1), (37, .ifCond .ne 6, 0, 0, 0, 0),
  (40, .ldc 249, 0, 0, 0, -1000000001), (42, .ireturn, 0, 0, 0, 0), (43, .iload_n 3, 0, 0, 0, 0), (44, .i2l, 0, 0, 0, 0), (45, .lconst 0, 0, 0, 0, 0), (46, .lconst 1, 0, 0, 0, 0),
  (47, .invokestatic 102, 118, 3, 7, 1), (50, .ifCond .eq 7, 0, 0, 0, 0), (53, .iconst 0, 0, 0, 0, 0), (54, .goto 5, 0, 0, 0, 0), (57, .ldc 118, 0, 0, 0, -1000000002), (59, .ireturn, 0, 0, 0, 0)]
def tMo_notWall : xTb := ((⟨"FirstFeltModel", "notWall", "(III)I"⟩, prog_9_method_35_code, 4, (some .int)), (0, 0), "FirstFeltModel", false, iMo_notWall)
def iMo_wall : List (Nat × xE) := [(0, .aload_n 0, 0, 0, 0, 0), (1, .iload_n 1, 0, 0, 0, 0), (2, .iload_n 2, 0, 0, 0, 0), (3, .iload_n 3, 0, 0, 0, 0), (4, .invokevirtual 253, 150, 4, 7, 1), (7, .istore 4, 0, 0, 0, 0),
  (9, .iload 4, 0, 0, 0, 0), (11, .ifCond .eq 8, 0, 0, 0, 0), (14, .iload 4, 0, 0, 0, 0), (16, .goto 24, 0, 0, 0, 0), (19, .aload_n 0, 0, 0, 0, 0), (20, .getfield 7, 7, 0, 0, 0),
  (23, .bipush 20, 0, 0, 0, 0), (25, .bipush 20, 0, 0, 0, 0), (27, .iload_n 3, 0, 0, 0, 0), (28, .imul, 0, 0, 0, 0), (29, .iadd, 0, 0, 0, 0), (30, .aload_n 0, 0, 0, 0, 0),
  (31, .getfield 96, 7, 4, 0, 0), (34, .iload_n 2, 0, 0, 0, 0), (35, .imul, 0, 0, 0, 0), (36, .iadd, 0, 0, 0, 0), (37, .iload_n 1, 0, 0, 0, 0), (38, .iadd, 0, 0, 0, 0),
  (39, .iaload, 0, 0, 0, 0), (40, .ireturn, 0, 0, 0, 0)]
def tMo_wall : xTb := ((⟨"FirstFeltModel", "wall", "(III)I"⟩, prog_9_method_36_code, 5, (some .int)), (0, 0), "FirstFeltModel", false, iMo_wall)
def iMo_stove : List (Nat × xE) := [(0, .aload_n 0, 0, 0, 0, 0), (1, .iload_n 1, 0, 0, 0, 0), (2, .invokevirtual 257, 123, 2, 7, 1), (5, .ifCond .ne 6, 0, 0, 0, 0), (8, .ldc 249, 0, 0, 0, -1000000001), (10, .ireturn, 0, 0, 0, 0),
  (11, .iload_n 2, 0, 0, 0, 0), (12, .tableswitch 70 0 3 #[32, 43, 50, 60], 0, 0, 0, 0), (44, .aload_n 0, 0, 0, 0, 0), (45, .aload_n 0, 0, 0, 0, 0), (46, .getfield 26, 7, 9, 0, 0), (49, .iload_n 1, 0, 0, 0, 0),
  (50, .iaload, 0, 0, 0, 0), (51, .invokevirtual 260, 124, 2, 7, 1), (54, .ireturn, 0, 0, 0, 0), (55, .aload_n 0, 0, 0, 0, 0), (56, .getfield 29, 7, 10, 0, 0), (59, .iload_n 1, 0, 0, 0, 0),
  (60, .iaload, 0, 0, 0, 0), (61, .ireturn, 0, 0, 0, 0), (62, .aload_n 0, 0, 0, 0, 0), (63, .getfield 7, 7, 0, 0, 0), (66, .bipush 100, 0, 0, 0, 0), (68, .iload_n 1, 0, 0, 0, 0),
  (69, .iadd, 0, 0, 0, 0), (70, .iaload, 0, 0, 0, 0), (71, .ireturn, 0, 0, 0, 0), (72, .aload_n 0, 0, 0, 0, 0), (73, .getfield 7, 7, 0, 0, 0), (76, .bipush 104, 0, 0, 0, 0),
  (78, .iload_n 1, 0, 0, 0, 0), (79, .iadd, 0, 0, 0, 0), (80, .iaload, 0, 0, 0, 0), (81, .ireturn, 0, 0, 0, 0), (82, .ldc 118, 0, 0, 0, -1000000002), (84, .ireturn, 0, 0, 0, 0)]
def tMo_stove : xTb := ((⟨"FirstFeltModel", "stove", "(II)I"⟩, prog_9_method_37_code, 3, (some .int)), (0, 0), "FirstFeltModel", false, iMo_stove)
def iMo_owns : List (Nat × xE) := [(0, .iconst 0, 0, 0, 0, 0), (1, .istore_n 2, 0, 0, 0, 0), (2, .iconst 0, 0, 0, 0, 0), (3, .istore_n 3, 0, 0, 0, 0), (4, .iload_n 3, 0, 0, 0, 0), (5, .aload_n 0, 0, 0, 0, 0),
  (6, .invokevirtual 226, 120, 1, 7, 1), (9, .if_icmp .ge 30, 0, 0, 0, 0), (12, .iload_n 2, 0, 0, 0, 0), (13, .aload_n 0, 0, 0, 0, 0), (14, .getfield 7, 7, 0, 0, 0), (17, .bipush 60, 0, 0, 0, 0),
  (19, .iload_n 3, 0, 0, 0, 0), (20, .iadd, 0, 0, 0, 0), (21, .iaload, 0, 0, 0, 0), (22, .iload_n 1, 0, 0, 0, 0), (23, .if_icmp .ne 7, 0, 0, 0, 0), (26, .iconst 1, 0, 0, 0, 0),
  (27, .goto 4, 0, 0, 0, 0), (30, .iconst 0, 0, 0, 0, 0), (31, .iadd, 0, 0, 0, 0), (32, .istore_n 2, 0, 0, 0, 0), (33, .iinc 3 1, 0, 0, 0, 0), (36, .goto (-32), 0, 0, 0, 0),
  (39, .iload_n 2, 0, 0, 0, 0), (40, .ireturn, 0, 0, 0, 0)]
def tMo_owns : xTb := ((⟨"FirstFeltModel", "owns", "(I)I"⟩, prog_9_method_38_code, 4, (some .int)), (0, 0), "FirstFeltModel", false, iMo_owns)
def iMo_person : List (Nat × xE) := [(0, .aload_n 0, 0, 0, 0, 0), (1, .iload_n 1, 0, 0, 0, 0), (2, .invokevirtual 263, 122, 2, 7, 1), (5, .ifCond .ne 6, 0, 0, 0, 0), (8, .ldc 249, 0, 0, 0, -1000000001), (10, .ireturn, 0, 0, 0, 0),
  (11, .iload_n 2, 0, 0, 0, 0), (12, .tableswitch 123 0 7 #[48, 62, 72, 79, 86, 96, 106, 112], 0, 0, 0, 0), (60, .aload_n 0, 0, 0, 0, 0), (61, .aload_n 0, 0, 0, 0, 0), (62, .getfield 7, 7, 0, 0, 0), (65, .bipush 108, 0, 0, 0, 0),
  (67, .iload_n 1, 0, 0, 0, 0), (68, .iadd, 0, 0, 0, 0), (69, .iaload, 0, 0, 0, 0), (70, .invokevirtual 260, 124, 2, 7, 1), (73, .ireturn, 0, 0, 0, 0), (74, .aload_n 0, 0, 0, 0, 0),
  (75, .getfield 7, 7, 0, 0, 0), (78, .bipush 114, 0, 0, 0, 0), (80, .iload_n 1, 0, 0, 0, 0), (81, .iadd, 0, 0, 0, 0), (82, .iaload, 0, 0, 0, 0), (83, .ireturn, 0, 0, 0, 0),
  (84, .aload_n 0, 0, 0, 0, 0), (85, .getfield 35, 7, 14, 0, 0), (88, .iload_n 1, 0, 0, 0, 0), (89, .iaload, 0, 0, 0, 0), (90, .ireturn, 0, 0, 0, 0), (91, .aload_n 0, 0, 0, 0, 0),
  (92, .getfield 38, 7, 15, 0, 0), (95, .iload_n 1, 0, 0, 0, 0), (96, .iaload, 0, 0, 0, 0), (97, .ireturn, 0, 0, 0, 0), (98, .aload_n 0, 0, 0, 0, 0), (99, .getfield 7, 7, 0, 0, 0),
  (102, .bipush 120, 0, 0, 0, 0), (104, .iload_n 1, 0, 0, 0, 0), (105, .iadd, 0, 0, 0, 0), (106, .iaload, 0, 0, 0, 0), (107, .ireturn, 0, 0, 0, 0), (108, .aload_n 0, 0, 0, 0, 0),
  (109, .getfield 7, 7, 0, 0, 0), (112, .bipush 126, 0, 0, 0, 0), (114, .iload_n 1, 0, 0, 0, 0), (115, .iadd, 0, 0, 0, 0), (116, .iaload, 0, 0, 0, 0), (117, .ireturn, 0, 0, 0, 0),
  (118, .aload_n 0, 0, 0, 0, 0), (119, .iload_n 1, 0, 0, 0, 0), (120, .invokevirtual 266, 153, 2, 7, 1), (123, .ireturn, 0, 0, 0, 0), (124, .aload_n 0, 0, 0, 0, 0), (125, .getfield 7, 7, 0, 0, 0),
  (128, .sipush 132, 0, 0, 0, 0), (131, .iload_n 1, 0, 0, 0, 0), (132, .iadd, 0, 0, 0, 0), (133, .iaload, 0, 0, 0, 0), (134, .ireturn, 0, 0, 0, 0), (135, .ldc 118, 0, 0, 0, -1000000002),
  (137, .ireturn, 0, 0, 0, 0)]
def tMo_person : xTb := ((⟨"FirstFeltModel", "person", "(II)I"⟩, prog_9_method_39_code, 3, (some .int)), (0, 0), "FirstFeltModel", false, iMo_person)
def iMo_way : List (Nat × xE) := [(0, .iload_n 1, 0, 0, 0, 0), (1, .aload_n 0, 0, 0, 0, 0), (2, .getfield 96, 7, 4, 0, 0), (5, .irem, 0, 0, 0, 0), (6, .istore_n 3, 0, 0, 0, 0), (7, .iload_n 1, 0, 0, 0, 0),
  (8, .aload_n 0, 0, 0, 0, 0), (9, .getfield 96, 7, 4, 0, 0), (12, .idiv, 0, 0, 0, 0), (13, .istore 4, 0, 0, 0, 0), (15, .iload_n 2, 0, 0, 0, 0), (16, .tableswitch 155 1 4 #[32, 65, 95, 129], 0, 0, 0, 0),
  (48, .iload 4, 0, 0, 0, 0), (50, .ifCond .le 29, 0, 0, 0, 0), (53, .aload_n 0, 0, 0, 0, 0), (54, .getfield 7, 7, 0, 0, 0), (57, .bipush 40, 0, 0, 0, 0), (59, .iload_n 1, 0, 0, 0, 0),
  (60, .iadd, 0, 0, 0, 0), (61, .aload_n 0, 0, 0, 0, 0), (62, .getfield 96, 7, 4, 0, 0), (65, .isub, 0, 0, 0, 0), (66, .iaload, 0, 0, 0, 0), (67, .ifCond .ne 12, 0, 0, 0, 0),
  (70, .iload_n 1, 0, 0, 0, 0), (71, .aload_n 0, 0, 0, 0, 0), (72, .getfield 96, 7, 4, 0, 0), (75, .isub, 0, 0, 0, 0), (76, .goto 4, 0, 0, 0, 0), (79, .iconst (-1), 0, 0, 0, 0),
  (80, .ireturn, 0, 0, 0, 0), (81, .iload_n 3, 0, 0, 0, 0), (82, .aload_n 0, 0, 0, 0, 0), (83, .getfield 96, 7, 4, 0, 0), (86, .iconst 1, 0, 0, 0, 0), (87, .isub, 0, 0, 0, 0),
  (88, .if_icmp .ge 21, 0, 0, 0, 0), (91, .aload_n 0, 0, 0, 0, 0), (92, .getfield 7, 7, 0, 0, 0), (95, .bipush 20, 0, 0, 0, 0), (97, .iload_n 1, 0, 0, 0, 0), (98, .iadd, 0, 0, 0, 0),
  (99, .iaload, 0, 0, 0, 0), (100, .ifCond .ne 9, 0, 0, 0, 0), (103, .iload_n 1, 0, 0, 0, 0), (104, .iconst 1, 0, 0, 0, 0), (105, .iadd, 0, 0, 0, 0), (106, .goto 4, 0, 0, 0, 0),
  (109, .iconst (-1), 0, 0, 0, 0), (110, .ireturn, 0, 0, 0, 0), (111, .iload 4, 0, 0, 0, 0), (113, .aload_n 0, 0, 0, 0, 0), (114, .getfield 99, 7, 5, 0, 0), (117, .iconst 1, 0, 0, 0, 0),
  (118, .isub, 0, 0, 0, 0), (119, .if_icmp .ge 24, 0, 0, 0, 0), (122, .aload_n 0, 0, 0, 0, 0), (123, .getfield 7, 7, 0, 0, 0), (126, .bipush 40, 0, 0, 0, 0), (128, .iload_n 1, 0, 0, 0, 0),
  (129, .iadd, 0, 0, 0, 0), (130, .iaload, 0, 0, 0, 0), (131, .ifCond .ne 12, 0, 0, 0, 0), (134, .iload_n 1, 0, 0, 0, 0), (135, .aload_n 0, 0, 0, 0, 0), (136, .getfield 96, 7, 4, 0, 0),
  (139, .iadd, 0, 0, 0, 0), (140, .goto 4, 0, 0, 0, 0), (143, .iconst (-1), 0, 0, 0, 0), (144, .ireturn, 0, 0, 0, 0), (145, .iload_n 3, 0, 0, 0, 0), (146, .ifCond .le 23, 0, 0, 0, 0),
  (149, .aload_n 0, 0, 0, 0, 0), (150, .getfield 7, 7, 0, 0, 0), (153, .bipush 20, 0, 0, 0, 0), (155, .iload_n 1, 0, 0, 0, 0), (156, .iadd, 0, 0, 0, 0), (157, .iconst 1, 0, 0, 0, 0),
  (158, .isub, 0, 0, 0, 0), (159, .iaload, 0, 0, 0, 0), (160, .ifCond .ne 9, 0, 0, 0, 0), (163, .iload_n 1, 0, 0, 0, 0), (164, .iconst 1, 0, 0, 0, 0), (165, .isub, 0, 0, 0, 0),
  (166, .goto 4, 0, 0, 0, 0), (169, .iconst (-1), 0, 0, 0, 0), (170, .ireturn, 0, 0, 0, 0), (171, .iload_n 1, 0, 0, 0, 0), (172, .ireturn, 0, 0, 0, 0)]
def tMo_way : xTb := ((⟨"FirstFeltModel", "way", "(II)I"⟩, prog_9_method_40_code, 5, (some .int)), (0, 0), "FirstFeltModel", false, iMo_way)
def iMo_go : List (Nat × xE) := [(0, .aload_n 0, 0, 0, 0, 0), (1, .iload_n 1, 0, 0, 0, 0), (2, .invokevirtual 263, 122, 2, 7, 1), (5, .ifCond .ne 6, 0, 0, 0, 0), (8, .ldc 249, 0, 0, 0, -1000000001), (10, .ireturn, 0, 0, 0, 0),
  (11, .iload_n 2, 0, 0, 0, 0), (12, .i2l, 0, 0, 0, 0), (13, .lconst 1, 0, 0, 0, 0), (14, .ldc2_w 269, 0, 0, 0, 4), (17, .invokestatic 102, 118, 3, 7, 1), (20, .ifCond .ne 6, 0, 0, 0, 0),
  (23, .ldc 118, 0, 0, 0, -1000000002), (25, .ireturn, 0, 0, 0, 0), (26, .aload_n 0, 0, 0, 0, 0), (27, .aload_n 0, 0, 0, 0, 0), (28, .getfield 7, 7, 0, 0, 0), (31, .bipush 108, 0, 0, 0, 0),
  (33, .iload_n 1, 0, 0, 0, 0), (34, .iadd, 0, 0, 0, 0), (35, .iaload, 0, 0, 0, 0), (36, .iload_n 2, 0, 0, 0, 0), (37, .invokevirtual 271, 155, 3, 7, 1), (40, .istore_n 3, 0, 0, 0, 0),
  (41, .iload_n 3, 0, 0, 0, 0), (42, .iconst (-1), 0, 0, 0, 0), (43, .if_icmp .ne 7, 0, 0, 0, 0), (46, .ldc_w 275, 0, 0, 0, -1000000003), (49, .ireturn, 0, 0, 0, 0), (50, .aload_n 0, 0, 0, 0, 0),
  (51, .getfield 7, 7, 0, 0, 0), (54, .bipush 108, 0, 0, 0, 0), (56, .iload_n 1, 0, 0, 0, 0), (57, .iadd, 0, 0, 0, 0), (58, .iload_n 3, 0, 0, 0, 0), (59, .iastore, 0, 0, 0, 0),
  (60, .aload_n 0, 0, 0, 0, 0), (61, .iload_n 3, 0, 0, 0, 0), (62, .invokevirtual 260, 124, 2, 7, 1), (65, .ireturn, 0, 0, 0, 0)]
def tMo_go : xTb := ((⟨"FirstFeltModel", "go", "(II)I"⟩, prog_9_method_41_code, 4, (some .int)), (0, 0), "FirstFeltModel", false, iMo_go)
def iMo_build : List (Nat × xE) := [(0, .aload_n 0, 0, 0, 0, 0), (1, .iload_n 1, 0, 0, 0, 0), (2, .iload_n 2, 0, 0, 0, 0), (3, .iload_n 3, 0, 0, 0, 0), (4, .invokevirtual 253, 150, 4, 7, 1), (7, .istore 5, 0, 0, 0, 0),
  (9, .iload 5, 0, 0, 0, 0), (11, .ifCond .eq 6, 0, 0, 0, 0), (14, .iload 5, 0, 0, 0, 0), (16, .ireturn, 0, 0, 0, 0), (17, .bipush 20, 0, 0, 0, 0), (19, .bipush 20, 0, 0, 0, 0),
  (21, .iload_n 3, 0, 0, 0, 0), (22, .imul, 0, 0, 0, 0), (23, .iadd, 0, 0, 0, 0), (24, .aload_n 0, 0, 0, 0, 0), (25, .getfield 96, 7, 4, 0, 0), (28, .iload_n 2, 0, 0, 0, 0),
  (29, .imul, 0, 0, 0, 0), (30, .iadd, 0, 0, 0, 0), (31, .iload_n 1, 0, 0, 0, 0), (32, .iadd, 0, 0, 0, 0), (33, .istore 6, 0, 0, 0, 0), (35, .aload_n 0, 0, 0, 0, 0),
  (36, .getfield 7, 7, 0, 0, 0), (39, .iload 6, 0, 0, 0, 0), (41, .iaload, 0, 0, 0, 0), (42, .istore 7, 0, 0, 0, 0), (44, .aload_n 0, 0, 0, 0, 0), (45, .getfield 7, 7, 0, 0, 0),
  (48, .iload 6, 0, 0, 0, 0), (50, .iload 4, 0, 0, 0, 0), (52, .ifCond .eq 7, 0, 0, 0, 0), (55, .iconst 1, 0, 0, 0, 0), (56, .goto 4, 0, 0, 0, 0), (59, .iconst 0, 0, 0, 0, 0),
  (60, .iastore, 0, 0, 0, 0), (61, .iload 7, 0, 0, 0, 0), (63, .ireturn, 0, 0, 0, 0)]
def tMo_build : xTb := ((⟨"FirstFeltModel", "build", "(IIIZ)I"⟩, prog_9_method_42_code, 8, (some .int)), (0, 0), "FirstFeltModel", false, iMo_build)
def iMo_canBeLit : List (Nat × xE) := [(0, .aload_n 0, 0, 0, 0, 0), (1, .getfield 7, 7, 0, 0, 0), (4, .bipush 104, 0, 0, 0, 0), (6, .iload_n 1, 0, 0, 0, 0), (7, .iadd, 0, 0, 0, 0), (8, .iaload, 0, 0, 0, 0),
  (9, .ifCond .ne 19, 0, 0, 0, 0), (12, .aload_n 0, 0, 0, 0, 0), (13, .getfield 7, 7, 0, 0, 0), (16, .bipush 100, 0, 0, 0, 0), (18, .iload_n 1, 0, 0, 0, 0), (19, .iadd, 0, 0, 0, 0),
  (20, .iaload, 0, 0, 0, 0), (21, .ifCond .le 7, 0, 0, 0, 0), (24, .iconst 1, 0, 0, 0, 0), (25, .goto 4, 0, 0, 0, 0), (28, .iconst 0, 0, 0, 0, 0), (29, .ireturn, 0, 0, 0, 0)]
def tMo_canBeLit : xTb := ((⟨"FirstFeltModel", "canBeLit", "(I)Z"⟩, prog_9_method_43_code, 2, (some .boolean)), (0, 0), "FirstFeltModel", true, iMo_canBeLit)
def iMo_light : List (Nat × xE) := [(0, .aload_n 0, 0, 0, 0, 0), (1, .iload_n 1, 0, 0, 0, 0), (2, .invokevirtual 257, 123, 2, 7, 1), (5, .ifCond .ne 6, 0, 0, 0, 0), (8, .ldc 249, 0, 0, 0, -1000000001), (10, .ireturn, 0, 0, 0, 0),
  (11, .aload_n 0, 0, 0, 0, 0), (12, .iload_n 1, 0, 0, 0, 0), (13, .invokevirtual 276, 158, 2, 7, 1), (16, .ifCond .ne 7, 0, 0, 0, 0), (19, .ldc_w 275, 0, 0, 0, -1000000003), (22, .ireturn, 0, 0, 0, 0),
  (23, .aload_n 0, 0, 0, 0, 0), (24, .getfield 7, 7, 0, 0, 0), (27, .bipush 104, 0, 0, 0, 0), (29, .iload_n 1, 0, 0, 0, 0), (30, .iadd, 0, 0, 0, 0), (31, .iconst 1, 0, 0, 0, 0),
  (32, .iastore, 0, 0, 0, 0), (33, .aload_n 0, 0, 0, 0, 0), (34, .getfield 7, 7, 0, 0, 0), (37, .bipush 100, 0, 0, 0, 0), (39, .iload_n 1, 0, 0, 0, 0), (40, .iadd, 0, 0, 0, 0),
  (41, .iaload, 0, 0, 0, 0), (42, .ireturn, 0, 0, 0, 0)]
def tMo_light : xTb := ((⟨"FirstFeltModel", "light", "(I)I"⟩, prog_9_method_44_code, 2, (some .int)), (0, 0), "FirstFeltModel", false, iMo_light)
def iMo_stoke : List (Nat × xE) := [(0, .aload_n 0, 0, 0, 0, 0), (1, .iload_n 1, 0, 0, 0, 0), (2, .invokevirtual 257, 123, 2, 7, 1), (5, .ifCond .ne 6, 0, 0, 0, 0), (8, .ldc 249, 0, 0, 0, -1000000001), (10, .ireturn, 0, 0, 0, 0),
  (11, .iload_n 2, 0, 0, 0, 0), (12, .i2l, 0, 0, 0, 0), (13, .lconst 1, 0, 0, 0, 0), (14, .ldc2_w 279, 0, 0, 0, 99), (17, .invokestatic 102, 118, 3, 7, 1), (20, .ifCond .ne 6, 0, 0, 0, 0),
  (23, .ldc 118, 0, 0, 0, -1000000002), (25, .ireturn, 0, 0, 0, 0), (26, .aload_n 0, 0, 0, 0, 0), (27, .getfield 7, 7, 0, 0, 0), (30, .bipush 100, 0, 0, 0, 0), (32, .iload_n 1, 0, 0, 0, 0),
  (33, .iadd, 0, 0, 0, 0), (34, .iaload, 0, 0, 0, 0), (35, .iload_n 2, 0, 0, 0, 0), (36, .iadd, 0, 0, 0, 0), (37, .istore_n 3, 0, 0, 0, 0), (38, .aload_n 0, 0, 0, 0, 0),
  (39, .getfield 7, 7, 0, 0, 0), (42, .bipush 100, 0, 0, 0, 0), (44, .iload_n 1, 0, 0, 0, 0), (45, .iadd, 0, 0, 0, 0), (46, .iload_n 3, 0, 0, 0, 0), (47, .sipush 999, 0, 0, 0, 0),
  (50, .if_icmp .le 9, 0, 0, 0, 0), (53, .sipush 999, 0, 0, 0, 0), (56, .goto 4, 0, 0, 0, 0), (59, .iload_n 3, 0, 0, 0, 0), (60, .iastore, 0, 0, 0, 0), (61, .aload_n 0, 0, 0, 0, 0),
  (62, .getfield 7, 7, 0, 0, 0), (65, .bipush 100, 0, 0, 0, 0), (67, .iload_n 1, 0, 0, 0, 0), (68, .iadd, 0, 0, 0, 0), (69, .iaload, 0, 0, 0, 0), (70, .ireturn, 0, 0, 0, 0)]
def tMo_stoke : xTb := ((⟨"FirstFeltModel", "stoke", "(II)I"⟩, prog_9_method_45_code, 4, (some .int)), (0, 0), "FirstFeltModel", false, iMo_stoke)
def iMo_law : List (Nat × xE) := [(0, .iload_n 1, 0, 0, 0, 0), (1, .i2l, 0, 0, 0, 0), (2, .lconst 0, 0, 0, 0, 0), (3, .ldc2_w 281, 0, 0, 0, 3), (6, .invokestatic 102, 118, 3, 7, 1), (9, .ifCond .ne 6, 0, 0, 0, 0),
  (12, .ldc 118, 0, 0, 0, -1000000002), (14, .ireturn, 0, 0, 0, 0), (15, .aload_n 0, 0, 0, 0, 0), (16, .getfield 7, 7, 0, 0, 0), (19, .sipush 138, 0, 0, 0, 0), (22, .iaload, 0, 0, 0, 0),
  (23, .istore_n 2, 0, 0, 0, 0), (24, .aload_n 0, 0, 0, 0, 0), (25, .getfield 7, 7, 0, 0, 0), (28, .sipush 138, 0, 0, 0, 0), (31, .iload_n 1, 0, 0, 0, 0), (32, .iastore, 0, 0, 0, 0),
  (33, .iload_n 2, 0, 0, 0, 0), (34, .ireturn, 0, 0, 0, 0)]
def tMo_law : xTb := ((⟨"FirstFeltModel", "law", "(I)I"⟩, prog_9_method_46_code, 3, (some .int)), (0, 0), "FirstFeltModel", false, iMo_law)
def iMo_last : List (Nat × xE) := [(0, .iload_n 1, 0, 0, 0, 0), (1, .i2l, 0, 0, 0, 0), (2, .lconst 1, 0, 0, 0, 0), (3, .ldc2_w 283, 0, 0, 0, 20), (6, .invokestatic 102, 118, 3, 7, 1), (9, .ifCond .ne 6, 0, 0, 0, 0),
  (12, .ldc 118, 0, 0, 0, -1000000002), (14, .ireturn, 0, 0, 0, 0), (15, .aload_n 0, 0, 0, 0, 0), (16, .getfield 7, 7, 0, 0, 0), (19, .sipush 139, 0, 0, 0, 0), (22, .iaload, 0, 0, 0, 0),
  (23, .istore_n 2, 0, 0, 0, 0), (24, .aload_n 0, 0, 0, 0, 0), (25, .getfield 7, 7, 0, 0, 0), (28, .sipush 139, 0, 0, 0, 0), (31, .iload_n 1, 0, 0, 0, 0), (32, .iastore, 0, 0, 0, 0),
  (33, .iload_n 2, 0, 0, 0, 0), (34, .ireturn, 0, 0, 0, 0)]
def tMo_last : xTb := ((⟨"FirstFeltModel", "last", "(I)I"⟩, prog_9_method_47_code, 3, (some .int)), (0, 0), "FirstFeltModel", false, iMo_last)
def iMo_flows : List (Nat × xE) := [(0, .iconst 0, 0, 0, 0, 0), (1, .istore_n 2, 0, 0, 0, 0), (2, .iconst 1, 0, 0, 0, 0), (3, .istore_n 3, 0, 0, 0, 0), (4, .iload_n 3, 0, 0, 0, 0), (5, .iconst 4, 0, 0, 0, 0),
  (6, .if_icmp .gt 51, 0, 0, 0, 0), (9, .aload_n 0, 0, 0, 0, 0), (10, .iload_n 1, 0, 0, 0, 0), (11, .iload_n 3, 0, 0, 0, 0), (12, .invokevirtual 271, 155, 3, 7, 1), (15, .istore 4, 0, 0, 0, 0),
  (17, .iload_n 2, 0, 0, 0, 0), (18, .iload 4, 0, 0, 0, 0), (20, .iconst (-1), 0, 0, 0, 0), (21, .if_icmp .ne 7, 0, 0, 0, 0), (24, .iconst 0, 0, 0, 0, 0), (25, .goto 24, 0, 0, 0, 0),
  (28, .aload_n 0, 0, 0, 0, 0), (29, .getfield 7, 7, 0, 0, 0), (32, .iconst 0, 0, 0, 0, 0), (33, .iload 4, 0, 0, 0, 0), (35, .iadd, 0, 0, 0, 0), (36, .iaload, 0, 0, 0, 0),
  (37, .aload_n 0, 0, 0, 0, 0), (38, .getfield 7, 7, 0, 0, 0), (41, .iconst 0, 0, 0, 0, 0), (42, .iload_n 1, 0, 0, 0, 0), (43, .iadd, 0, 0, 0, 0), (44, .iaload, 0, 0, 0, 0),
  (45, .isub, 0, 0, 0, 0), (46, .bipush 8, 0, 0, 0, 0), (48, .idiv, 0, 0, 0, 0), (49, .iadd, 0, 0, 0, 0), (50, .istore_n 2, 0, 0, 0, 0), (51, .iinc 3 1, 0, 0, 0, 0),
  (54, .goto (-50), 0, 0, 0, 0), (57, .iload_n 2, 0, 0, 0, 0), (58, .ireturn, 0, 0, 0, 0)]
def tMo_flows : xTb := ((⟨"FirstFeltModel", "flows", "(I)I"⟩, prog_9_method_48_code, 5, (some .int)), (0, 0), "FirstFeltModel", false, iMo_flows)
def iMo_goHeat : List (Nat × xE) := [(0, .iconst 0, 0, 0, 0, 0), (1, .istore_n 1, 0, 0, 0, 0), (2, .iload_n 1, 0, 0, 0, 0), (3, .aload_n 0, 0, 0, 0, 0), (4, .invokevirtual 226, 120, 1, 7, 1), (7, .if_icmp .ge 55, 0, 0, 0, 0),
  (10, .aload_n 0, 0, 0, 0, 0), (11, .getfield 84, 7, 48, 0, 0), (14, .iload_n 1, 0, 0, 0, 0), (15, .aload_n 0, 0, 0, 0, 0), (16, .getfield 7, 7, 0, 0, 0), (19, .iconst 0, 0, 0, 0, 0),
  (20, .iload_n 1, 0, 0, 0, 0), (21, .iadd, 0, 0, 0, 0), (22, .iaload, 0, 0, 0, 0), (23, .aload_n 0, 0, 0, 0, 0), (24, .iload_n 1, 0, 0, 0, 0), (25, .invokevirtual 285, 163, 2, 7, 1),
  (28, .iadd, 0, 0, 0, 0), (29, .aload_n 0, 0, 0, 0, 0), (30, .getfield 23, 7, 6, 0, 0), (33, .iload_n 1, 0, 0, 0, 0), (34, .baload, 0, 0, 0, 0), (35, .ifCond .eq 7, 0, 0, 0, 0),
  (38, .iconst 0, 0, 0, 0, 0), (39, .goto 15, 0, 0, 0, 0), (42, .aload_n 0, 0, 0, 0, 0), (43, .aload_n 0, 0, 0, 0, 0), (44, .getfield 7, 7, 0, 0, 0), (47, .sipush 140, 0, 0, 0, 0),
  (50, .iaload, 0, 0, 0, 0), (51, .invokevirtual 245, 146, 2, 7, 1), (54, .iadd, 0, 0, 0, 0), (55, .iastore, 0, 0, 0, 0), (56, .iinc 1 1, 0, 0, 0, 0), (59, .goto (-57), 0, 0, 0, 0),
  (62, .iconst 0, 0, 0, 0, 0), (63, .istore_n 1, 0, 0, 0, 0), (64, .iload_n 1, 0, 0, 0, 0), (65, .aload_n 0, 0, 0, 0, 0), (66, .getfield 109, 7, 8, 0, 0), (69, .if_icmp .ge 81, 0, 0, 0, 0),
  (72, .aload_n 0, 0, 0, 0, 0), (73, .getfield 7, 7, 0, 0, 0), (76, .bipush 104, 0, 0, 0, 0), (78, .iload_n 1, 0, 0, 0, 0), (79, .iadd, 0, 0, 0, 0), (80, .iaload, 0, 0, 0, 0),
  (81, .iconst 1, 0, 0, 0, 0), (82, .if_icmp .ne 62, 0, 0, 0, 0), (85, .aload_n 0, 0, 0, 0, 0), (86, .getfield 84, 7, 48, 0, 0), (89, .aload_n 0, 0, 0, 0, 0), (90, .getfield 26, 7, 9, 0, 0),
  (93, .iload_n 1, 0, 0, 0, 0), (94, .iaload, 0, 0, 0, 0), (95, .dup2, 0, 0, 0, 0), (96, .iaload, 0, 0, 0, 0), (97, .aload_n 0, 0, 0, 0, 0), (98, .getfield 29, 7, 10, 0, 0),
  (101, .iload_n 1, 0, 0, 0, 0), (102, .iaload, 0, 0, 0, 0), (103, .iadd, 0, 0, 0, 0), (104, .iastore, 0, 0, 0, 0), (105, .aload_n 0, 0, 0, 0, 0), (106, .getfield 7, 7, 0, 0, 0),
  (109, .bipush 100, 0, 0, 0, 0), (111, .iload_n 1, 0, 0, 0, 0), (112, .iadd, 0, 0, 0, 0), (113, .dup2, 0, 0, 0, 0), (114, .iaload, 0, 0, 0, 0), (115, .iconst 1, 0, 0, 0, 0),
  (116, .isub, 0, 0, 0, 0), (117, .iastore, 0, 0, 0, 0), (118, .aload_n 0, 0, 0, 0, 0), (119, .getfield 7, 7, 0, 0, 0), (122, .bipush 104, 0, 0, 0, 0), (124, .iload_n 1, 0, 0, 0, 0),
  (125, .iadd, 0, 0, 0, 0), (126, .aload_n 0, 0, 0, 0, 0), (127, .getfield 7, 7, 0, 0, 0), (130, .bipush 100, 0, 0, 0, 0), (132, .iload_n 1, 0, 0, 0, 0), (133, .iadd, 0, 0, 0, 0),
  (134, .iaload, 0, 0, 0, 0), (135, .ifCond .le 7, 0, 0, 0, 0), (138, .iconst 1, 0, 0, 0, 0), (139, .goto 4, 0, 0, 0, 0), (142, .iconst 0, 0, 0, 0, 0), (143, .iastore, 0, 0, 0, 0),
  (144, .iinc 1 1, 0, 0, 0, 0), (147, .goto (-83), 0, 0, 0, 0), (150, .iconst 0, 0, 0, 0, 0), (151, .istore_n 1, 0, 0, 0, 0), (152, .iload_n 1, 0, 0, 0, 0), (153, .aload_n 0, 0, 0, 0, 0),
  (154, .getfield 106, 7, 13, 0, 0), (157, .if_icmp .ge 32, 0, 0, 0, 0), (160, .aload_n 0, 0, 0, 0, 0), (161, .getfield 84, 7, 48, 0, 0), (164, .aload_n 0, 0, 0, 0, 0), (165, .getfield 7, 7, 0, 0, 0),
  (168, .bipush 108, 0, 0, 0, 0), (170, .iload_n 1, 0, 0, 0, 0), (171, .iadd, 0, 0, 0, 0), (172, .iaload, 0, 0, 0, 0), (173, .dup2, 0, 0, 0, 0), (174, .iaload, 0, 0, 0, 0),
  (175, .aload_n 0, 0, 0, 0, 0), (176, .getfield 38, 7, 15, 0, 0), (179, .iload_n 1, 0, 0, 0, 0), (180, .iaload, 0, 0, 0, 0), (181, .iadd, 0, 0, 0, 0), (182, .iastore, 0, 0, 0, 0),
  (183, .iinc 1 1, 0, 0, 0, 0), (186, .goto (-34), 0, 0, 0, 0), (189, .iconst 0, 0, 0, 0, 0), (190, .istore_n 1, 0, 0, 0, 0), (191, .iload_n 1, 0, 0, 0, 0), (192, .aload_n 0, 0, 0, 0, 0),
  (193, .invokevirtual 226, 120, 1, 7, 1), (196, .if_icmp .ge 48, 0, 0, 0, 0), (199, .aload_n 0, 0, 0, 0, 0), (200, .getfield 84, 7, 48, 0, 0), (203, .iload_n 1, 0, 0, 0, 0), (204, .iaload, 0, 0, 0, 0),
  (205, .aload_n 0, 0, 0, 0, 0), (206, .getfield 84, 7, 48, 0, 0), (209, .iload_n 1, 0, 0, 0, 0), (210, .iaload, 0, 0, 0, 0), (211, .bipush 50, 0, 0, 0, 0), (213, .idiv, 0, 0, 0, 0),
  (214, .isub, 0, 0, 0, 0), (215, .istore_n 2, 0, 0, 0, 0), (216, .aload_n 0, 0, 0, 0, 0), (217, .getfield 7, 7, 0, 0, 0), (220, .iconst 0, 0, 0, 0, 0), (221, .iload_n 1, 0, 0, 0, 0),
  (222, .iadd, 0, 0, 0, 0), (223, .iload_n 2, 0, 0, 0, 0), (224, .sipush 999, 0, 0, 0, 0), (227, .if_icmp .le 9, 0, 0, 0, 0), (230, .sipush 999, 0, 0, 0, 0), (233, .goto 4, 0, 0, 0, 0),
  (236, .iload_n 2, 0, 0, 0, 0), (237, .iastore, 0, 0, 0, 0), (238, .iinc 1 1, 0, 0, 0, 0), (241, .goto (-50), 0, 0, 0, 0), (244, .return_, 0, 0, 0, 0)]
def tMo_goHeat : xTb := ((⟨"FirstFeltModel", "goHeat", "()V"⟩, prog_9_method_49_code, 3, none), (0, 0), "FirstFeltModel", false, iMo_goHeat)
def iMo_feel : List (Nat × xE) := [(0, .aload_n 0, 0, 0, 0, 0), (1, .iconst 0, 0, 0, 0, 0), (2, .putfield 288, 7, 49, 0, 0), (5, .iconst 0, 0, 0, 0, 0), (6, .istore_n 1, 0, 0, 0, 0), (7, .iload_n 1, 0, 0, 0, 0),
  (8, .aload_n 0, 0, 0, 0, 0), (9, .getfield 106, 7, 13, 0, 0), (12, .if_icmp .ge 78, 0, 0, 0, 0), (15, .iload_n 1, 0, 0, 0, 0), (16, .aload_n 0, 0, 0, 0, 0), (17, .getfield 87, 7, 50, 0, 0),
  (20, .if_icmp .eq 42, 0, 0, 0, 0), (23, .aload_n 0, 0, 0, 0, 0), (24, .getfield 7, 7, 0, 0, 0), (27, .iconst 0, 0, 0, 0, 0), (28, .aload_n 0, 0, 0, 0, 0), (29, .getfield 7, 7, 0, 0, 0),
  (32, .bipush 108, 0, 0, 0, 0), (34, .iload_n 1, 0, 0, 0, 0), (35, .iadd, 0, 0, 0, 0), (36, .iaload, 0, 0, 0, 0), (37, .iadd, 0, 0, 0, 0), (38, .iaload, 0, 0, 0, 0),
  (39, .aload_n 0, 0, 0, 0, 0), (40, .getfield 7, 7, 0, 0, 0), (43, .bipush 114, 0, 0, 0, 0), (45, .iload_n 1, 0, 0, 0, 0), (46, .iadd, 0, 0, 0, 0), (47, .iaload, 0, 0, 0, 0),
  (48, .aload_n 0, 0, 0, 0, 0), (49, .getfield 35, 7, 14, 0, 0), (52, .iload_n 1, 0, 0, 0, 0), (53, .iaload, 0, 0, 0, 0), (54, .iadd, 0, 0, 0, 0), (55, .if_icmp .lt 7, 0, 0, 0, 0),
  (58, .iconst 1, 0, 0, 0, 0), (59, .goto 4, 0, 0, 0, 0), (62, .iconst 0, 0, 0, 0, 0), (63, .istore_n 2, 0, 0, 0, 0), (64, .aload_n 0, 0, 0, 0, 0), (65, .dup, 0, 0, 0, 0),
  (66, .getfield 288, 7, 49, 0, 0), (69, .iload_n 2, 0, 0, 0, 0), (70, .ifCond .eq 9, 0, 0, 0, 0), (73, .iconst 1, 0, 0, 0, 0), (74, .iload_n 1, 0, 0, 0, 0), (75, .ishl, 0, 0, 0, 0),
  (76, .goto 4, 0, 0, 0, 0), (79, .iconst 0, 0, 0, 0, 0), (80, .ior, 0, 0, 0, 0), (81, .putfield 288, 7, 49, 0, 0), (84, .iinc 1 1, 0, 0, 0, 0), (87, .goto (-80), 0, 0, 0, 0),
  (90, .return_, 0, 0, 0, 0)]
def tMo_feel : xTb := ((⟨"FirstFeltModel", "feel", "()V"⟩, prog_9_method_50_code, 3, none), (0, 0), "FirstFeltModel", false, iMo_feel)
def iMo_feelsOn : List (Nat × xE) := [(0, .aload_n 0, 0, 0, 0, 0), (1, .getfield 288, 7, 49, 0, 0), (4, .iload_n 1, 0, 0, 0, 0), (5, .ishr, 0, 0, 0, 0), (6, .iconst 1, 0, 0, 0, 0), (7, .iand, 0, 0, 0, 0),
  (8, .iconst 1, 0, 0, 0, 0), (9, .if_icmp .ne 20, 0, 0, 0, 0), (12, .aload_n 0, 0, 0, 0, 0), (13, .getfield 7, 7, 0, 0, 0), (16, .bipush 108, 0, 0, 0, 0), (18, .iload_n 1, 0, 0, 0, 0),
  (19, .iadd, 0, 0, 0, 0), (20, .iaload, 0, 0, 0, 0), (21, .iload_n 2, 0, 0, 0, 0), (22, .if_icmp .ne 7, 0, 0, 0, 0), (25, .iconst 1, 0, 0, 0, 0), (26, .goto 4, 0, 0, 0, 0),
  (29, .iconst 0, 0, 0, 0, 0), (30, .ireturn, 0, 0, 0, 0)]
def tMo_feelsOn : xTb := ((⟨"FirstFeltModel", "feelsOn", "(II)Z"⟩, prog_9_method_51_code, 3, (some .boolean)), (0, 0), "FirstFeltModel", true, iMo_feelsOn)
def iMo_own : List (Nat × xE) := [(0, .iconst 0, 0, 0, 0, 0), (1, .istore_n 1, 0, 0, 0, 0), (2, .iload_n 1, 0, 0, 0, 0), (3, .aload_n 0, 0, 0, 0, 0), (4, .invokevirtual 226, 120, 1, 7, 1), (7, .if_icmp .ge 173, 0, 0, 0, 0),
  (10, .iconst (-1), 0, 0, 0, 0), (11, .istore_n 2, 0, 0, 0, 0), (12, .iconst 0, 0, 0, 0, 0), (13, .istore_n 3, 0, 0, 0, 0), (14, .iload_n 3, 0, 0, 0, 0), (15, .aload_n 0, 0, 0, 0, 0),
  (16, .getfield 106, 7, 13, 0, 0), (19, .if_icmp .ge 75, 0, 0, 0, 0), (22, .aload_n 0, 0, 0, 0, 0), (23, .getfield 7, 7, 0, 0, 0), (26, .bipush 60, 0, 0, 0, 0), (28, .iload_n 1, 0, 0, 0, 0),
  (29, .iadd, 0, 0, 0, 0), (30, .iaload, 0, 0, 0, 0), (31, .iconst (-1), 0, 0, 0, 0), (32, .if_icmp .ne 62, 0, 0, 0, 0), (35, .aload_n 0, 0, 0, 0, 0), (36, .iload_n 3, 0, 0, 0, 0),
  (37, .iload_n 1, 0, 0, 0, 0), (38, .invokevirtual 291, 166, 3, 7, 1), (41, .ifCond .eq 33, 0, 0, 0, 0), (44, .iload_n 2, 0, 0, 0, 0), (45, .iconst (-1), 0, 0, 0, 0), (46, .if_icmp .eq 24, 0, 0, 0, 0),
  (49, .aload_n 0, 0, 0, 0, 0), (50, .getfield 7, 7, 0, 0, 0), (53, .bipush 114, 0, 0, 0, 0), (55, .iload_n 3, 0, 0, 0, 0), (56, .iadd, 0, 0, 0, 0), (57, .iaload, 0, 0, 0, 0),
  (58, .aload_n 0, 0, 0, 0, 0), (59, .getfield 7, 7, 0, 0, 0), (62, .bipush 114, 0, 0, 0, 0), (64, .iload_n 2, 0, 0, 0, 0), (65, .iadd, 0, 0, 0, 0), (66, .iaload, 0, 0, 0, 0),
  (67, .if_icmp .ge 7, 0, 0, 0, 0), (70, .iconst 1, 0, 0, 0, 0), (71, .goto 4, 0, 0, 0, 0), (74, .iconst 0, 0, 0, 0, 0), (75, .istore 4, 0, 0, 0, 0), (77, .iload 4, 0, 0, 0, 0),
  (79, .ifCond .eq 7, 0, 0, 0, 0), (82, .iload_n 3, 0, 0, 0, 0), (83, .goto 4, 0, 0, 0, 0), (86, .iload_n 2, 0, 0, 0, 0), (87, .istore_n 2, 0, 0, 0, 0), (88, .iinc 3 1, 0, 0, 0, 0),
  (91, .goto (-77), 0, 0, 0, 0), (94, .aload_n 0, 0, 0, 0, 0), (95, .getfield 7, 7, 0, 0, 0), (98, .bipush 60, 0, 0, 0, 0), (100, .iload_n 1, 0, 0, 0, 0), (101, .iadd, 0, 0, 0, 0),
  (102, .iload_n 2, 0, 0, 0, 0), (103, .iconst (-1), 0, 0, 0, 0), (104, .if_icmp .ne 15, 0, 0, 0, 0), (107, .aload_n 0, 0, 0, 0, 0), (108, .getfield 7, 7, 0, 0, 0), (111, .bipush 60, 0, 0, 0, 0),
  (113, .iload_n 1, 0, 0, 0, 0), (114, .iadd, 0, 0, 0, 0), (115, .iaload, 0, 0, 0, 0), (116, .goto 4, 0, 0, 0, 0), (119, .iload_n 2, 0, 0, 0, 0), (120, .iastore, 0, 0, 0, 0),
  (121, .aload_n 0, 0, 0, 0, 0), (122, .getfield 7, 7, 0, 0, 0), (125, .bipush 60, 0, 0, 0, 0), (127, .iload_n 1, 0, 0, 0, 0), (128, .iadd, 0, 0, 0, 0), (129, .iaload, 0, 0, 0, 0),
  (130, .istore_n 3, 0, 0, 0, 0), (131, .aload_n 0, 0, 0, 0, 0), (132, .getfield 7, 7, 0, 0, 0), (135, .bipush 80, 0, 0, 0, 0), (137, .iload_n 1, 0, 0, 0, 0), (138, .iadd, 0, 0, 0, 0),
  (139, .iload_n 3, 0, 0, 0, 0), (140, .iconst (-1), 0, 0, 0, 0), (141, .if_icmp .eq 23, 0, 0, 0, 0), (144, .aload_n 0, 0, 0, 0, 0), (145, .iload_n 3, 0, 0, 0, 0), (146, .iload_n 1, 0, 0, 0, 0),
  (147, .invokevirtual 291, 166, 3, 7, 1), (150, .ifCond .eq 14, 0, 0, 0, 0), (153, .aload_n 0, 0, 0, 0, 0), (154, .getfield 7, 7, 0, 0, 0), (157, .sipush 140, 0, 0, 0, 0), (160, .iaload, 0, 0, 0, 0),
  (161, .goto 12, 0, 0, 0, 0), (164, .aload_n 0, 0, 0, 0, 0), (165, .getfield 7, 7, 0, 0, 0), (168, .bipush 80, 0, 0, 0, 0), (170, .iload_n 1, 0, 0, 0, 0), (171, .iadd, 0, 0, 0, 0),
  (172, .iaload, 0, 0, 0, 0), (173, .iastore, 0, 0, 0, 0), (174, .iinc 1 1, 0, 0, 0, 0), (177, .goto (-175), 0, 0, 0, 0), (180, .return_, 0, 0, 0, 0)]
def tMo_own : xTb := ((⟨"FirstFeltModel", "own", "()V"⟩, prog_9_method_52_code, 5, none), (0, 0), "FirstFeltModel", false, iMo_own)
def iMo_goLaw : List (Nat × xE) := [(0, .iconst 0, 0, 0, 0, 0), (1, .istore_n 1, 0, 0, 0, 0), (2, .iload_n 1, 0, 0, 0, 0), (3, .aload_n 0, 0, 0, 0, 0), (4, .invokevirtual 226, 120, 1, 7, 1), (7, .if_icmp .ge 126, 0, 0, 0, 0),
  (10, .aload_n 0, 0, 0, 0, 0), (11, .getfield 7, 7, 0, 0, 0), (14, .bipush 60, 0, 0, 0, 0), (16, .iload_n 1, 0, 0, 0, 0), (17, .iadd, 0, 0, 0, 0), (18, .iaload, 0, 0, 0, 0),
  (19, .istore_n 2, 0, 0, 0, 0), (20, .aload_n 0, 0, 0, 0, 0), (21, .getfield 7, 7, 0, 0, 0), (24, .sipush 138, 0, 0, 0, 0), (27, .iaload, 0, 0, 0, 0), (28, .iconst 1, 0, 0, 0, 0),
  (29, .if_icmp .ne 36, 0, 0, 0, 0), (32, .aload_n 0, 0, 0, 0, 0), (33, .getfield 7, 7, 0, 0, 0), (36, .sipush 140, 0, 0, 0, 0), (39, .iaload, 0, 0, 0, 0), (40, .aload_n 0, 0, 0, 0, 0),
  (41, .getfield 7, 7, 0, 0, 0), (44, .bipush 80, 0, 0, 0, 0), (46, .iload_n 1, 0, 0, 0, 0), (47, .iadd, 0, 0, 0, 0), (48, .iaload, 0, 0, 0, 0), (49, .isub, 0, 0, 0, 0),
  (50, .aload_n 0, 0, 0, 0, 0), (51, .getfield 7, 7, 0, 0, 0), (54, .sipush 139, 0, 0, 0, 0), (57, .iaload, 0, 0, 0, 0), (58, .if_icmp .le 7, 0, 0, 0, 0), (61, .iconst 1, 0, 0, 0, 0),
  (62, .goto 4, 0, 0, 0, 0), (65, .iconst 0, 0, 0, 0, 0), (66, .istore_n 3, 0, 0, 0, 0), (67, .aload_n 0, 0, 0, 0, 0), (68, .getfield 7, 7, 0, 0, 0), (71, .sipush 138, 0, 0, 0, 0),
  (74, .iaload, 0, 0, 0, 0), (75, .iconst 2, 0, 0, 0, 0), (76, .if_icmp .ne 25, 0, 0, 0, 0), (79, .iload_n 2, 0, 0, 0, 0), (80, .iconst (-1), 0, 0, 0, 0), (81, .if_icmp .eq 20, 0, 0, 0, 0),
  (84, .aload_n 0, 0, 0, 0, 0), (85, .getfield 7, 7, 0, 0, 0), (88, .bipush 108, 0, 0, 0, 0), (90, .iload_n 2, 0, 0, 0, 0), (91, .iadd, 0, 0, 0, 0), (92, .iaload, 0, 0, 0, 0),
  (93, .iload_n 1, 0, 0, 0, 0), (94, .if_icmp .eq 7, 0, 0, 0, 0), (97, .iconst 1, 0, 0, 0, 0), (98, .goto 4, 0, 0, 0, 0), (101, .iconst 0, 0, 0, 0, 0), (102, .istore 4, 0, 0, 0, 0),
  (104, .aload_n 0, 0, 0, 0, 0), (105, .getfield 7, 7, 0, 0, 0), (108, .bipush 60, 0, 0, 0, 0), (110, .iload_n 1, 0, 0, 0, 0), (111, .iadd, 0, 0, 0, 0), (112, .iload_n 3, 0, 0, 0, 0),
  (113, .ifCond .ne 8, 0, 0, 0, 0), (116, .iload 4, 0, 0, 0, 0), (118, .ifCond .eq 7, 0, 0, 0, 0), (121, .iconst (-1), 0, 0, 0, 0), (122, .goto 4, 0, 0, 0, 0), (125, .iload_n 2, 0, 0, 0, 0),
  (126, .iastore, 0, 0, 0, 0), (127, .iinc 1 1, 0, 0, 0, 0), (130, .goto (-128), 0, 0, 0, 0), (133, .iconst 0, 0, 0, 0, 0), (134, .istore_n 1, 0, 0, 0, 0), (135, .iload_n 1, 0, 0, 0, 0),
  (136, .aload_n 0, 0, 0, 0, 0), (137, .getfield 106, 7, 13, 0, 0), (140, .if_icmp .ge 93, 0, 0, 0, 0), (143, .aload_n 0, 0, 0, 0, 0), (144, .getfield 7, 7, 0, 0, 0), (147, .sipush 138, 0, 0, 0, 0),
  (150, .iaload, 0, 0, 0, 0), (151, .iconst 3, 0, 0, 0, 0), (152, .if_icmp .ne 81, 0, 0, 0, 0), (155, .aload_n 0, 0, 0, 0, 0), (156, .getfield 7, 7, 0, 0, 0), (159, .bipush 60, 0, 0, 0, 0),
  (161, .aload_n 0, 0, 0, 0, 0), (162, .getfield 7, 7, 0, 0, 0), (165, .bipush 108, 0, 0, 0, 0), (167, .iload_n 1, 0, 0, 0, 0), (168, .iadd, 0, 0, 0, 0), (169, .iaload, 0, 0, 0, 0),
  (170, .iadd, 0, 0, 0, 0), (171, .iaload, 0, 0, 0, 0), (172, .istore_n 2, 0, 0, 0, 0), (173, .aload_n 0, 0, 0, 0, 0), (174, .getfield 288, 7, 49, 0, 0), (177, .iload_n 1, 0, 0, 0, 0),
  (178, .ishr, 0, 0, 0, 0), (179, .iconst 1, 0, 0, 0, 0), (180, .iand, 0, 0, 0, 0), (181, .iconst 1, 0, 0, 0, 0), (182, .if_icmp .ne 45, 0, 0, 0, 0), (185, .iload_n 2, 0, 0, 0, 0),
  (186, .iconst (-1), 0, 0, 0, 0), (187, .if_icmp .eq 40, 0, 0, 0, 0), (190, .iload_n 2, 0, 0, 0, 0), (191, .iload_n 1, 0, 0, 0, 0), (192, .if_icmp .eq 35, 0, 0, 0, 0), (195, .aload_n 0, 0, 0, 0, 0),
  (196, .getfield 7, 7, 0, 0, 0), (199, .sipush 132, 0, 0, 0, 0), (202, .iload_n 1, 0, 0, 0, 0), (203, .iadd, 0, 0, 0, 0), (204, .dup2, 0, 0, 0, 0), (205, .iaload, 0, 0, 0, 0),
  (206, .iconst 1, 0, 0, 0, 0), (207, .iload_n 2, 0, 0, 0, 0), (208, .ishl, 0, 0, 0, 0), (209, .ior, 0, 0, 0, 0), (210, .iastore, 0, 0, 0, 0), (211, .aload_n 0, 0, 0, 0, 0),
  (212, .getfield 7, 7, 0, 0, 0), (215, .sipush 132, 0, 0, 0, 0), (218, .iload_n 2, 0, 0, 0, 0), (219, .iadd, 0, 0, 0, 0), (220, .dup2, 0, 0, 0, 0), (221, .iaload, 0, 0, 0, 0),
  (222, .iconst 1, 0, 0, 0, 0), (223, .iload_n 1, 0, 0, 0, 0), (224, .ishl, 0, 0, 0, 0), (225, .ior, 0, 0, 0, 0), (226, .iastore, 0, 0, 0, 0), (227, .iinc 1 1, 0, 0, 0, 0),
  (230, .goto (-95), 0, 0, 0, 0), (233, .return_, 0, 0, 0, 0)]
def tMo_goLaw : xTb := ((⟨"FirstFeltModel", "goLaw", "()V"⟩, prog_9_method_53_code, 5, none), (0, 0), "FirstFeltModel", false, iMo_goLaw)
def iMo_arePartners : List (Nat × xE) := [(0, .aload_n 0, 0, 0, 0, 0), (1, .getfield 7, 7, 0, 0, 0), (4, .sipush 132, 0, 0, 0, 0), (7, .iload_n 1, 0, 0, 0, 0), (8, .iadd, 0, 0, 0, 0), (9, .iaload, 0, 0, 0, 0),
  (10, .iload_n 2, 0, 0, 0, 0), (11, .ishr, 0, 0, 0, 0), (12, .iconst 1, 0, 0, 0, 0), (13, .iand, 0, 0, 0, 0), (14, .iconst 1, 0, 0, 0, 0), (15, .if_icmp .ne 7, 0, 0, 0, 0),
  (18, .iconst 1, 0, 0, 0, 0), (19, .goto 4, 0, 0, 0, 0), (22, .iconst 0, 0, 0, 0, 0), (23, .ireturn, 0, 0, 0, 0)]
def tMo_arePartners : xTb := ((⟨"FirstFeltModel", "arePartners", "(II)Z"⟩, prog_9_method_54_code, 3, (some .boolean)), (0, 0), "FirstFeltModel", true, iMo_arePartners)
def iMo_isOwedFor : List (Nat × xE) := [(0, .aload_n 0, 0, 0, 0, 0), (1, .getfield 7, 7, 0, 0, 0), (4, .bipush 60, 0, 0, 0, 0), (6, .iload_n 2, 0, 0, 0, 0), (7, .iadd, 0, 0, 0, 0), (8, .iaload, 0, 0, 0, 0),
  (9, .istore_n 3, 0, 0, 0, 0), (10, .iload_n 3, 0, 0, 0, 0), (11, .iconst (-1), 0, 0, 0, 0), (12, .if_icmp .eq 34, 0, 0, 0, 0), (15, .iload_n 3, 0, 0, 0, 0), (16, .iload_n 1, 0, 0, 0, 0),
  (17, .if_icmp .eq 29, 0, 0, 0, 0), (20, .aload_n 0, 0, 0, 0, 0), (21, .iload_n 1, 0, 0, 0, 0), (22, .iload_n 3, 0, 0, 0, 0), (23, .invokevirtual 294, 169, 3, 7, 1), (26, .ifCond .ne 20, 0, 0, 0, 0),
  (29, .aload_n 0, 0, 0, 0, 0), (30, .getfield 7, 7, 0, 0, 0), (33, .iconst 0, 0, 0, 0, 0), (34, .iload_n 2, 0, 0, 0, 0), (35, .iadd, 0, 0, 0, 0), (36, .iaload, 0, 0, 0, 0),
  (37, .bipush 50, 0, 0, 0, 0), (39, .if_icmp .lt 7, 0, 0, 0, 0), (42, .iconst 1, 0, 0, 0, 0), (43, .goto 4, 0, 0, 0, 0), (46, .iconst 0, 0, 0, 0, 0), (47, .ireturn, 0, 0, 0, 0)]
def tMo_isOwedFor : xTb := ((⟨"FirstFeltModel", "isOwedFor", "(II)Z"⟩, prog_9_method_55_code, 4, (some .boolean)), (0, 0), "FirstFeltModel", true, iMo_isOwedFor)
def iMo_owe : List (Nat × xE) := [(0, .iconst 0, 0, 0, 0, 0), (1, .istore_n 1, 0, 0, 0, 0), (2, .iload_n 1, 0, 0, 0, 0), (3, .aload_n 0, 0, 0, 0, 0), (4, .getfield 106, 7, 13, 0, 0), (7, .if_icmp .ge 102, 0, 0, 0, 0),
  (10, .aload_n 0, 0, 0, 0, 0), (11, .getfield 7, 7, 0, 0, 0), (14, .bipush 108, 0, 0, 0, 0), (16, .iload_n 1, 0, 0, 0, 0), (17, .iadd, 0, 0, 0, 0), (18, .iaload, 0, 0, 0, 0),
  (19, .istore_n 2, 0, 0, 0, 0), (20, .aload_n 0, 0, 0, 0, 0), (21, .iload_n 1, 0, 0, 0, 0), (22, .iload_n 2, 0, 0, 0, 0), (23, .invokevirtual 297, 170, 3, 7, 1), (26, .ifCond .eq 77, 0, 0, 0, 0),
  (29, .aload_n 0, 0, 0, 0, 0), (30, .getfield 7, 7, 0, 0, 0), (33, .bipush 60, 0, 0, 0, 0), (35, .iload_n 2, 0, 0, 0, 0), (36, .iadd, 0, 0, 0, 0), (37, .iaload, 0, 0, 0, 0),
  (38, .istore_n 3, 0, 0, 0, 0), (39, .aload_n 0, 0, 0, 0, 0), (40, .getfield 7, 7, 0, 0, 0), (43, .bipush 120, 0, 0, 0, 0), (45, .iload_n 1, 0, 0, 0, 0), (46, .iadd, 0, 0, 0, 0),
  (47, .dup2, 0, 0, 0, 0), (48, .iaload, 0, 0, 0, 0), (49, .aload_n 0, 0, 0, 0, 0), (50, .getfield 7, 7, 0, 0, 0), (53, .bipush 120, 0, 0, 0, 0), (55, .iload_n 1, 0, 0, 0, 0),
  (56, .iadd, 0, 0, 0, 0), (57, .iaload, 0, 0, 0, 0), (58, .ldc_w 300, 0, 0, 0, 999999), (61, .if_icmp .ge 7, 0, 0, 0, 0), (64, .iconst 1, 0, 0, 0, 0), (65, .goto 4, 0, 0, 0, 0),
  (68, .iconst 0, 0, 0, 0, 0), (69, .iadd, 0, 0, 0, 0), (70, .iastore, 0, 0, 0, 0), (71, .aload_n 0, 0, 0, 0, 0), (72, .getfield 7, 7, 0, 0, 0), (75, .bipush 126, 0, 0, 0, 0),
  (77, .iload_n 3, 0, 0, 0, 0), (78, .iadd, 0, 0, 0, 0), (79, .dup2, 0, 0, 0, 0), (80, .iaload, 0, 0, 0, 0), (81, .aload_n 0, 0, 0, 0, 0), (82, .getfield 7, 7, 0, 0, 0),
  (85, .bipush 126, 0, 0, 0, 0), (87, .iload_n 3, 0, 0, 0, 0), (88, .iadd, 0, 0, 0, 0), (89, .iaload, 0, 0, 0, 0), (90, .ldc_w 300, 0, 0, 0, 999999), (93, .if_icmp .ge 7, 0, 0, 0, 0),
  (96, .iconst 1, 0, 0, 0, 0), (97, .goto 4, 0, 0, 0, 0), (100, .iconst 0, 0, 0, 0, 0), (101, .iadd, 0, 0, 0, 0), (102, .iastore, 0, 0, 0, 0), (103, .iinc 1 1, 0, 0, 0, 0),
  (106, .goto (-104), 0, 0, 0, 0), (109, .return_, 0, 0, 0, 0)]
def tMo_owe : xTb := ((⟨"FirstFeltModel", "owe", "()V"⟩, prog_9_method_56_code, 4, none), (0, 0), "FirstFeltModel", false, iMo_owe)
def iMo_goMinute : List (Nat × xE) := [(0, .aload_n 0, 0, 0, 0, 0), (1, .invokevirtual 301, 164, 1, 7, 0), (4, .aload_n 0, 0, 0, 0, 0), (5, .invokevirtual 304, 165, 1, 7, 0), (8, .aload_n 0, 0, 0, 0, 0), (9, .invokevirtual 307, 167, 1, 7, 0),
  (12, .aload_n 0, 0, 0, 0, 0), (13, .invokevirtual 310, 168, 1, 7, 0), (16, .aload_n 0, 0, 0, 0, 0), (17, .invokevirtual 313, 171, 1, 7, 0), (20, .iconst 0, 0, 0, 0, 0), (21, .istore_n 1, 0, 0, 0, 0),
  (22, .iload_n 1, 0, 0, 0, 0), (23, .aload_n 0, 0, 0, 0, 0), (24, .getfield 106, 7, 13, 0, 0), (27, .if_icmp .ge 81, 0, 0, 0, 0), (30, .aload_n 0, 0, 0, 0, 0), (31, .getfield 7, 7, 0, 0, 0),
  (34, .bipush 114, 0, 0, 0, 0), (36, .iload_n 1, 0, 0, 0, 0), (37, .iadd, 0, 0, 0, 0), (38, .dup2, 0, 0, 0, 0), (39, .iaload, 0, 0, 0, 0), (40, .aload_n 0, 0, 0, 0, 0),
  (41, .getfield 7, 7, 0, 0, 0), (44, .iconst 0, 0, 0, 0, 0), (45, .aload_n 0, 0, 0, 0, 0), (46, .getfield 7, 7, 0, 0, 0), (49, .bipush 108, 0, 0, 0, 0), (51, .iload_n 1, 0, 0, 0, 0),
  (52, .iadd, 0, 0, 0, 0), (53, .iaload, 0, 0, 0, 0), (54, .iadd, 0, 0, 0, 0), (55, .iaload, 0, 0, 0, 0), (56, .aload_n 0, 0, 0, 0, 0), (57, .getfield 7, 7, 0, 0, 0),
  (60, .bipush 114, 0, 0, 0, 0), (62, .iload_n 1, 0, 0, 0, 0), (63, .iadd, 0, 0, 0, 0), (64, .iaload, 0, 0, 0, 0), (65, .isub, 0, 0, 0, 0), (66, .iconst 4, 0, 0, 0, 0),
  (67, .idiv, 0, 0, 0, 0), (68, .iadd, 0, 0, 0, 0), (69, .iastore, 0, 0, 0, 0), (70, .aload_n 0, 0, 0, 0, 0), (71, .getfield 7, 7, 0, 0, 0), (74, .sipush 142, 0, 0, 0, 0),
  (77, .dup2, 0, 0, 0, 0), (78, .iaload, 0, 0, 0, 0), (79, .aload_n 0, 0, 0, 0, 0), (80, .getfield 7, 7, 0, 0, 0), (83, .bipush 114, 0, 0, 0, 0), (85, .iload_n 1, 0, 0, 0, 0),
  (86, .iadd, 0, 0, 0, 0), (87, .iaload, 0, 0, 0, 0), (88, .bipush 20, 0, 0, 0, 0), (90, .if_icmp .ge 9, 0, 0, 0, 0), (93, .iconst 1, 0, 0, 0, 0), (94, .iload_n 1, 0, 0, 0, 0),
  (95, .ishl, 0, 0, 0, 0), (96, .goto 4, 0, 0, 0, 0), (99, .iconst 0, 0, 0, 0, 0), (100, .ior, 0, 0, 0, 0), (101, .iastore, 0, 0, 0, 0), (102, .iinc 1 1, 0, 0, 0, 0),
  (105, .goto (-83), 0, 0, 0, 0), (108, .aload_n 0, 0, 0, 0, 0), (109, .getfield 7, 7, 0, 0, 0), (112, .sipush 140, 0, 0, 0, 0), (115, .dup2, 0, 0, 0, 0), (116, .iaload, 0, 0, 0, 0),
  (117, .iconst 1, 0, 0, 0, 0), (118, .iadd, 0, 0, 0, 0), (119, .iastore, 0, 0, 0, 0), (120, .return_, 0, 0, 0, 0)]
def tMo_goMinute : xTb := ((⟨"FirstFeltModel", "goMinute", "()V"⟩, prog_9_method_57_code, 2, none), (0, 0), "FirstFeltModel", false, iMo_goMinute)
def iMo_goMinutes : List (Nat × xE) := [(0, .iconst 0, 0, 0, 0, 0), (1, .istore_n 2, 0, 0, 0, 0), (2, .iload_n 2, 0, 0, 0, 0), (3, .iload_n 1, 0, 0, 0, 0), (4, .if_icmp .ge 13, 0, 0, 0, 0), (7, .aload_n 0, 0, 0, 0, 0),
  (8, .invokevirtual 316, 172, 1, 7, 0), (11, .iinc 2 1, 0, 0, 0, 0), (14, .goto (-12), 0, 0, 0, 0), (17, .return_, 0, 0, 0, 0)]
def tMo_goMinutes : xTb := ((⟨"FirstFeltModel", "goMinutes", "(I)V"⟩, prog_9_method_58_code, 3, none), (0, 0), "FirstFeltModel", false, iMo_goMinutes)
def iMo_notMinutes : List (Nat × xE) := [(0, .iload_n 1, 0, 0, 0, 0), (1, .i2l, 0, 0, 0, 0), (2, .lconst 1, 0, 0, 0, 0), (3, .ldc2_w 319, 0, 0, 0, 60), (6, .invokestatic 102, 118, 3, 7, 1), (9, .ifCond .ne 8, 0, 0, 0, 0),
  (12, .ldc 118, 0, 0, 0, -1000000002), (14, .goto 36, 0, 0, 0, 0), (17, .aload_n 0, 0, 0, 0, 0), (18, .invokevirtual 226, 120, 1, 7, 1), (21, .ifCond .ne 9, 0, 0, 0, 0), (24, .ldc_w 275, 0, 0, 0, -1000000003),
  (27, .goto 23, 0, 0, 0, 0), (30, .aload_n 0, 0, 0, 0, 0), (31, .getfield 7, 7, 0, 0, 0), (34, .sipush 140, 0, 0, 0, 0), (37, .iaload, 0, 0, 0, 0), (38, .ldc_w 321, 0, 0, 0, 900000),
  (41, .if_icmp .le 8, 0, 0, 0, 0), (44, .ldc 122, 0, 0, 0, -1000000004), (46, .goto 4, 0, 0, 0, 0), (49, .iconst 0, 0, 0, 0, 0), (50, .ireturn, 0, 0, 0, 0)]
def tMo_notMinutes : xTb := ((⟨"FirstFeltModel", "notMinutes", "(I)I"⟩, prog_9_method_59_code, 2, (some .int)), (0, 0), "FirstFeltModel", false, iMo_notMinutes)
def iMo_minute : List (Nat × xE) := [(0, .aload_n 0, 0, 0, 0, 0), (1, .iload_n 1, 0, 0, 0, 0), (2, .invokevirtual 322, 174, 2, 7, 1), (5, .istore_n 2, 0, 0, 0, 0), (6, .iload_n 2, 0, 0, 0, 0), (7, .ifCond .eq 5, 0, 0, 0, 0),
  (10, .iload_n 2, 0, 0, 0, 0), (11, .ireturn, 0, 0, 0, 0), (12, .aload_n 0, 0, 0, 0, 0), (13, .iload_n 1, 0, 0, 0, 0), (14, .invokevirtual 325, 173, 2, 7, 0), (17, .aload_n 0, 0, 0, 0, 0),
  (18, .getfield 7, 7, 0, 0, 0), (21, .sipush 140, 0, 0, 0, 0), (24, .iaload, 0, 0, 0, 0), (25, .ireturn, 0, 0, 0, 0)]
def tMo_minute : xTb := ((⟨"FirstFeltModel", "minute", "(I)I"⟩, prog_9_method_60_code, 3, (some .int)), (0, 0), "FirstFeltModel", false, iMo_minute)
def iMo_draw : List (Nat × xE) := [(0, .aload_n 0, 0, 0, 0, 0), (1, .getfield 7, 7, 0, 0, 0), (4, .sipush 141, 0, 0, 0, 0), (7, .aload_n 0, 0, 0, 0, 0), (8, .getfield 7, 7, 0, 0, 0), (11, .sipush 141, 0, 0, 0, 0),
  (14, .iaload, 0, 0, 0, 0), (15, .i2l, 0, 0, 0, 0), (16, .ldc2_w 328, 0, 0, 0, 1103515245), (19, .lmul, 0, 0, 0, 0), (20, .ldc2_w 330, 0, 0, 0, 12345), (23, .ladd, 0, 0, 0, 0),
  (24, .ldc2_w 332, 0, 0, 0, 2147483648), (27, .lrem, 0, 0, 0, 0), (28, .l2i, 0, 0, 0, 0), (29, .iastore, 0, 0, 0, 0), (30, .aload_n 0, 0, 0, 0, 0), (31, .getfield 7, 7, 0, 0, 0),
  (34, .sipush 141, 0, 0, 0, 0), (37, .iaload, 0, 0, 0, 0), (38, .ldc_w 334, 0, 0, 0, 65536), (41, .idiv, 0, 0, 0, 0), (42, .iload_n 1, 0, 0, 0, 0), (43, .irem, 0, 0, 0, 0),
  (44, .ireturn, 0, 0, 0, 0)]
def tMo_draw : xTb := ((⟨"FirstFeltModel", "draw", "(I)I"⟩, prog_9_method_61_code, 2, (some .int)), (0, 0), "FirstFeltModel", false, iMo_draw)
def iMo_driftOne : List (Nat × xE) := [(0, .iconst 0, 0, 0, 0, 0), (1, .istore_n 1, 0, 0, 0, 0), (2, .iload_n 1, 0, 0, 0, 0), (3, .aload_n 0, 0, 0, 0, 0), (4, .getfield 106, 7, 13, 0, 0), (7, .if_icmp .ge 55, 0, 0, 0, 0),
  (10, .aload_n 0, 0, 0, 0, 0), (11, .aload_n 0, 0, 0, 0, 0), (12, .getfield 7, 7, 0, 0, 0), (15, .bipush 108, 0, 0, 0, 0), (17, .iload_n 1, 0, 0, 0, 0), (18, .iadd, 0, 0, 0, 0),
  (19, .iaload, 0, 0, 0, 0), (20, .aload_n 0, 0, 0, 0, 0), (21, .iconst 5, 0, 0, 0, 0), (22, .invokevirtual 335, 176, 2, 7, 1), (25, .invokevirtual 271, 155, 3, 7, 1), (28, .istore_n 2, 0, 0, 0, 0),
  (29, .aload_n 0, 0, 0, 0, 0), (30, .getfield 7, 7, 0, 0, 0), (33, .bipush 108, 0, 0, 0, 0), (35, .iload_n 1, 0, 0, 0, 0), (36, .iadd, 0, 0, 0, 0), (37, .iload_n 2, 0, 0, 0, 0),
  (38, .iconst (-1), 0, 0, 0, 0), (39, .if_icmp .ne 15, 0, 0, 0, 0), (42, .aload_n 0, 0, 0, 0, 0), (43, .getfield 7, 7, 0, 0, 0), (46, .bipush 108, 0, 0, 0, 0), (48, .iload_n 1, 0, 0, 0, 0),
  (49, .iadd, 0, 0, 0, 0), (50, .iaload, 0, 0, 0, 0), (51, .goto 4, 0, 0, 0, 0), (54, .iload_n 2, 0, 0, 0, 0), (55, .iastore, 0, 0, 0, 0), (56, .iinc 1 1, 0, 0, 0, 0),
  (59, .goto (-57), 0, 0, 0, 0), (62, .aload_n 0, 0, 0, 0, 0), (63, .bipush 20, 0, 0, 0, 0), (65, .invokevirtual 335, 176, 2, 7, 1), (68, .ifCond .ne 49, 0, 0, 0, 0), (71, .aload_n 0, 0, 0, 0, 0),
  (72, .getfield 109, 7, 8, 0, 0), (75, .ifCond .le 42, 0, 0, 0, 0), (78, .aload_n 0, 0, 0, 0, 0), (79, .aload_n 0, 0, 0, 0, 0), (80, .getfield 109, 7, 8, 0, 0), (83, .invokevirtual 335, 176, 2, 7, 1),
  (86, .istore_n 1, 0, 0, 0, 0), (87, .aload_n 0, 0, 0, 0, 0), (88, .getfield 7, 7, 0, 0, 0), (91, .bipush 104, 0, 0, 0, 0), (93, .iload_n 1, 0, 0, 0, 0), (94, .iadd, 0, 0, 0, 0),
  (95, .aload_n 0, 0, 0, 0, 0), (96, .iload_n 1, 0, 0, 0, 0), (97, .invokevirtual 276, 158, 2, 7, 1), (100, .ifCond .eq 7, 0, 0, 0, 0), (103, .iconst 1, 0, 0, 0, 0), (104, .goto 12, 0, 0, 0, 0),
  (107, .aload_n 0, 0, 0, 0, 0), (108, .getfield 7, 7, 0, 0, 0), (111, .bipush 104, 0, 0, 0, 0), (113, .iload_n 1, 0, 0, 0, 0), (114, .iadd, 0, 0, 0, 0), (115, .iaload, 0, 0, 0, 0),
  (116, .iastore, 0, 0, 0, 0), (117, .aload_n 0, 0, 0, 0, 0), (118, .invokevirtual 316, 172, 1, 7, 0), (121, .return_, 0, 0, 0, 0)]
def tMo_driftOne : xTb := ((⟨"FirstFeltModel", "driftOne", "()V"⟩, prog_9_method_62_code, 3, none), (0, 0), "FirstFeltModel", false, iMo_driftOne)
def iMo_drift : List (Nat × xE) := [(0, .aload_n 0, 0, 0, 0, 0), (1, .iload_n 1, 0, 0, 0, 0), (2, .invokevirtual 322, 174, 2, 7, 1), (5, .istore_n 2, 0, 0, 0, 0), (6, .iload_n 2, 0, 0, 0, 0), (7, .ifCond .eq 5, 0, 0, 0, 0),
  (10, .iload_n 2, 0, 0, 0, 0), (11, .ireturn, 0, 0, 0, 0), (12, .iconst 0, 0, 0, 0, 0), (13, .istore_n 3, 0, 0, 0, 0), (14, .iload_n 3, 0, 0, 0, 0), (15, .iload_n 1, 0, 0, 0, 0),
  (16, .if_icmp .ge 13, 0, 0, 0, 0), (19, .aload_n 0, 0, 0, 0, 0), (20, .invokevirtual 338, 177, 1, 7, 0), (23, .iinc 3 1, 0, 0, 0, 0), (26, .goto (-12), 0, 0, 0, 0), (29, .aload_n 0, 0, 0, 0, 0),
  (30, .getfield 7, 7, 0, 0, 0), (33, .sipush 140, 0, 0, 0, 0), (36, .iaload, 0, 0, 0, 0), (37, .ireturn, 0, 0, 0, 0)]
def tMo_drift : xTb := ((⟨"FirstFeltModel", "drift", "(I)I"⟩, prog_9_method_63_code, 4, (some .int)), (0, 0), "FirstFeltModel", false, iMo_drift)
def iMo_start : List (Nat × xE) := [(0, .iconst 0, 0, 0, 0, 0), (1, .istore_n 1, 0, 0, 0, 0), (2, .iload_n 1, 0, 0, 0, 0), (3, .sipush 143, 0, 0, 0, 0), (6, .if_icmp .ge 21, 0, 0, 0, 0), (9, .aload_n 0, 0, 0, 0, 0),
  (10, .getfield 20, 7, 3, 0, 0), (13, .iload_n 1, 0, 0, 0, 0), (14, .aload_n 0, 0, 0, 0, 0), (15, .getfield 7, 7, 0, 0, 0), (18, .iload_n 1, 0, 0, 0, 0), (19, .iaload, 0, 0, 0, 0),
  (20, .iastore, 0, 0, 0, 0), (21, .iinc 1 1, 0, 0, 0, 0), (24, .goto (-22), 0, 0, 0, 0), (27, .return_, 0, 0, 0, 0)]
def tMo_start : xTb := ((⟨"FirstFeltModel", "start", "()V"⟩, prog_9_method_64_code, 2, none), (0, 0), "FirstFeltModel", false, iMo_start)
def iMo_back : List (Nat × xE) := [(0, .iconst 0, 0, 0, 0, 0), (1, .istore_n 1, 0, 0, 0, 0), (2, .iload_n 1, 0, 0, 0, 0), (3, .sipush 143, 0, 0, 0, 0), (6, .if_icmp .ge 21, 0, 0, 0, 0), (9, .aload_n 0, 0, 0, 0, 0),
  (10, .getfield 7, 7, 0, 0, 0), (13, .iload_n 1, 0, 0, 0, 0), (14, .aload_n 0, 0, 0, 0, 0), (15, .getfield 20, 7, 3, 0, 0), (18, .iload_n 1, 0, 0, 0, 0), (19, .iaload, 0, 0, 0, 0),
  (20, .iastore, 0, 0, 0, 0), (21, .iinc 1 1, 0, 0, 0, 0), (24, .goto (-22), 0, 0, 0, 0), (27, .return_, 0, 0, 0, 0)]
def tMo_back : xTb := ((⟨"FirstFeltModel", "back", "()V"⟩, prog_9_method_65_code, 2, none), (0, 0), "FirstFeltModel", false, iMo_back)
def iMo_then : List (Nat × xE) := [(0, .aload_n 0, 0, 0, 0, 0), (1, .iload_n 1, 0, 0, 0, 0), (2, .iload_n 2, 0, 0, 0, 0), (3, .invokevirtual 112, 121, 3, 7, 1), (6, .ifCond .ne 6, 0, 0, 0, 0), (9, .ldc 249, 0, 0, 0, -1000000001),
  (11, .ireturn, 0, 0, 0, 0), (12, .iload_n 3, 0, 0, 0, 0), (13, .i2l, 0, 0, 0, 0), (14, .lconst 1, 0, 0, 0, 0), (15, .ldc2_w 319, 0, 0, 0, 60), (18, .invokestatic 102, 118, 3, 7, 1),
  (21, .ifCond .eq 14, 0, 0, 0, 0), (24, .iload 4, 0, 0, 0, 0), (26, .i2l, 0, 0, 0, 0), (27, .lconst 0, 0, 0, 0, 0), (28, .lconst 1, 0, 0, 0, 0), (29, .invokestatic 102, 118, 3, 7, 1),
  (32, .ifCond .ne 6, 0, 0, 0, 0), (35, .ldc 118, 0, 0, 0, -1000000002), (37, .ireturn, 0, 0, 0, 0), (38, .aload_n 0, 0, 0, 0, 0), (39, .invokevirtual 341, 179, 1, 7, 0), (42, .aload_n 0, 0, 0, 0, 0),
  (43, .iload_n 3, 0, 0, 0, 0), (44, .invokevirtual 325, 173, 2, 7, 0), (47, .aload_n 0, 0, 0, 0, 0), (48, .getfield 7, 7, 0, 0, 0), (51, .iload 4, 0, 0, 0, 0), (53, .ifCond .ne 7, 0, 0, 0, 0),
  (56, .iconst 0, 0, 0, 0, 0), (57, .goto 5, 0, 0, 0, 0), (60, .bipush 60, 0, 0, 0, 0), (62, .aload_n 0, 0, 0, 0, 0), (63, .getfield 96, 7, 4, 0, 0), (66, .iload_n 2, 0, 0, 0, 0),
  (67, .imul, 0, 0, 0, 0), (68, .iadd, 0, 0, 0, 0), (69, .iload_n 1, 0, 0, 0, 0), (70, .iadd, 0, 0, 0, 0), (71, .iaload, 0, 0, 0, 0), (72, .istore 5, 0, 0, 0, 0),
  (74, .aload_n 0, 0, 0, 0, 0), (75, .invokevirtual 344, 180, 1, 7, 0), (78, .iload 5, 0, 0, 0, 0), (80, .ireturn, 0, 0, 0, 0)]
def tMo_then : xTb := ((⟨"FirstFeltModel", "then", "(IIII)I"⟩, prog_9_method_66_code, 6, (some .int)), (0, 0), "FirstFeltModel", false, iMo_then)
def iMo_power : List (Nat × xE) := [(0, .iconst 1, 0, 0, 0, 0), (1, .istore_n 2, 0, 0, 0, 0), (2, .iconst 0, 0, 0, 0, 0), (3, .istore_n 3, 0, 0, 0, 0), (4, .iload_n 3, 0, 0, 0, 0), (5, .iload_n 1, 0, 0, 0, 0),
  (6, .if_icmp .ge 13, 0, 0, 0, 0), (9, .iload_n 2, 0, 0, 0, 0), (10, .iload_n 0, 0, 0, 0, 0), (11, .imul, 0, 0, 0, 0), (12, .istore_n 2, 0, 0, 0, 0), (13, .iinc 3 1, 0, 0, 0, 0),
  (16, .goto (-12), 0, 0, 0, 0), (19, .iload_n 2, 0, 0, 0, 0), (20, .ireturn, 0, 0, 0, 0)]
def tMo_power : xTb := ((⟨"FirstFeltModel", "power", "(II)I"⟩, prog_9_method_67_code, 4, (some .int)), (0, 0), "FirstFeltModel", false, iMo_power)
def iMo_ownsBy : List (Nat × xE) := [(0, .iconst 0, 0, 0, 0, 0), (1, .istore 4, 0, 0, 0, 0), (3, .iload 4, 0, 0, 0, 0), (5, .iload_n 2, 0, 0, 0, 0), (6, .if_icmp .ge 61, 0, 0, 0, 0), (9, .aload_n 0, 0, 0, 0, 0),
  (10, .aload_n 0, 0, 0, 0, 0), (11, .getfield 7, 7, 0, 0, 0), (14, .bipush 108, 0, 0, 0, 0), (16, .iload_n 1, 0, 0, 0, 0), (17, .iadd, 0, 0, 0, 0), (18, .iaload, 0, 0, 0, 0),
  (19, .iload_n 3, 0, 0, 0, 0), (20, .iconst 5, 0, 0, 0, 0), (21, .iload_n 2, 0, 0, 0, 0), (22, .iconst 1, 0, 0, 0, 0), (23, .isub, 0, 0, 0, 0), (24, .iload 4, 0, 0, 0, 0),
  (26, .isub, 0, 0, 0, 0), (27, .invokestatic 347, 182, 2, 7, 1), (30, .idiv, 0, 0, 0, 0), (31, .iconst 5, 0, 0, 0, 0), (32, .irem, 0, 0, 0, 0), (33, .invokevirtual 271, 155, 3, 7, 1),
  (36, .istore 5, 0, 0, 0, 0), (38, .iload 5, 0, 0, 0, 0), (40, .iconst (-1), 0, 0, 0, 0), (41, .if_icmp .ne 5, 0, 0, 0, 0), (44, .iconst (-1), 0, 0, 0, 0), (45, .ireturn, 0, 0, 0, 0),
  (46, .aload_n 0, 0, 0, 0, 0), (47, .getfield 7, 7, 0, 0, 0), (50, .bipush 108, 0, 0, 0, 0), (52, .iload_n 1, 0, 0, 0, 0), (53, .iadd, 0, 0, 0, 0), (54, .iload 5, 0, 0, 0, 0),
  (56, .iastore, 0, 0, 0, 0), (57, .aload_n 0, 0, 0, 0, 0), (58, .invokevirtual 316, 172, 1, 7, 0), (61, .iinc 4 1, 0, 0, 0, 0), (64, .goto (-61), 0, 0, 0, 0), (67, .aload_n 0, 0, 0, 0, 0),
  (68, .iload_n 1, 0, 0, 0, 0), (69, .invokevirtual 266, 153, 2, 7, 1), (72, .ireturn, 0, 0, 0, 0)]
def tMo_ownsBy : xTb := ((⟨"FirstFeltModel", "ownsBy", "(III)I"⟩, prog_9_method_68_code, 6, (some .int)), (0, 0), "FirstFeltModel", false, iMo_ownsBy)
def iMo_stands : List (Nat × xE) := [(0, .aload_n 0, 0, 0, 0, 0), (1, .iload_n 1, 0, 0, 0, 0), (2, .invokevirtual 263, 122, 2, 7, 1), (5, .ifCond .ne 6, 0, 0, 0, 0), (8, .ldc 249, 0, 0, 0, -1000000001), (10, .ireturn, 0, 0, 0, 0),
  (11, .iload_n 2, 0, 0, 0, 0), (12, .i2l, 0, 0, 0, 0), (13, .lconst 1, 0, 0, 0, 0), (14, .ldc2_w 350, 0, 0, 0, 5), (17, .invokestatic 102, 118, 3, 7, 1), (20, .ifCond .ne 6, 0, 0, 0, 0),
  (23, .ldc 118, 0, 0, 0, -1000000002), (25, .ireturn, 0, 0, 0, 0), (26, .iconst 0, 0, 0, 0, 0), (27, .istore 4, 0, 0, 0, 0), (29, .iconst (-1), 0, 0, 0, 0), (30, .istore 5, 0, 0, 0, 0),
  (32, .aload_n 0, 0, 0, 0, 0), (33, .invokevirtual 341, 179, 1, 7, 0), (36, .iconst 0, 0, 0, 0, 0), (37, .istore 6, 0, 0, 0, 0), (39, .iload 6, 0, 0, 0, 0), (41, .iconst 5, 0, 0, 0, 0),
  (42, .iload_n 2, 0, 0, 0, 0), (43, .invokestatic 347, 182, 2, 7, 1), (46, .if_icmp .ge 55, 0, 0, 0, 0), (49, .aload_n 0, 0, 0, 0, 0), (50, .iload_n 1, 0, 0, 0, 0), (51, .iload_n 2, 0, 0, 0, 0),
  (52, .iload 6, 0, 0, 0, 0), (54, .invokevirtual 352, 183, 4, 7, 1), (57, .istore 7, 0, 0, 0, 0), (59, .aload_n 0, 0, 0, 0, 0), (60, .invokevirtual 344, 180, 1, 7, 0), (63, .iload 7, 0, 0, 0, 0),
  (65, .iload 5, 0, 0, 0, 0), (67, .if_icmp .le 8, 0, 0, 0, 0), (70, .iload 6, 0, 0, 0, 0), (72, .goto 5, 0, 0, 0, 0), (75, .iload 4, 0, 0, 0, 0), (77, .istore 4, 0, 0, 0, 0),
  (79, .iload 7, 0, 0, 0, 0), (81, .iload 5, 0, 0, 0, 0), (83, .if_icmp .le 8, 0, 0, 0, 0), (86, .iload 7, 0, 0, 0, 0), (88, .goto 5, 0, 0, 0, 0), (91, .iload 5, 0, 0, 0, 0),
  (93, .istore 5, 0, 0, 0, 0), (95, .iinc 6 1, 0, 0, 0, 0), (98, .goto (-59), 0, 0, 0, 0), (101, .iload_n 3, 0, 0, 0, 0), (102, .iconst (-1), 0, 0, 0, 0), (103, .if_icmp .ne 8, 0, 0, 0, 0),
  (106, .iload 5, 0, 0, 0, 0), (108, .goto 34, 0, 0, 0, 0), (111, .iload_n 3, 0, 0, 0, 0), (112, .i2l, 0, 0, 0, 0), (113, .lconst 0, 0, 0, 0, 0), (114, .iload_n 2, 0, 0, 0, 0),
  (115, .iconst 1, 0, 0, 0, 0), (116, .isub, 0, 0, 0, 0), (117, .i2l, 0, 0, 0, 0), (118, .invokestatic 102, 118, 3, 7, 1), (121, .ifCond .eq 20, 0, 0, 0, 0), (124, .iload 4, 0, 0, 0, 0),
  (126, .iconst 5, 0, 0, 0, 0), (127, .iload_n 2, 0, 0, 0, 0), (128, .iconst 1, 0, 0, 0, 0), (129, .isub, 0, 0, 0, 0), (130, .iload_n 3, 0, 0, 0, 0), (131, .isub, 0, 0, 0, 0),
  (132, .invokestatic 347, 182, 2, 7, 1), (135, .idiv, 0, 0, 0, 0), (136, .iconst 5, 0, 0, 0, 0), (137, .irem, 0, 0, 0, 0), (138, .goto 4, 0, 0, 0, 0), (141, .iconst (-1), 0, 0, 0, 0),
  (142, .ireturn, 0, 0, 0, 0)]
def tMo_stands : xTb := ((⟨"FirstFeltModel", "stands", "(III)I"⟩, prog_9_method_69_code, 8, (some .int)), (0, 0), "FirstFeltModel", false, iMo_stands)
def iMo_notStove : List (Nat × xE) := [(0, .aload_n 0, 0, 0, 0, 0), (1, .iload_n 1, 0, 0, 0, 0), (2, .invokevirtual 263, 122, 2, 7, 1), (5, .ifCond .eq 11, 0, 0, 0, 0), (8, .aload_n 0, 0, 0, 0, 0), (9, .iload_n 2, 0, 0, 0, 0),
  (10, .invokevirtual 257, 123, 2, 7, 1), (13, .ifCond .ne 8, 0, 0, 0, 0), (16, .ldc 249, 0, 0, 0, -1000000001), (18, .goto 35, 0, 0, 0, 0), (21, .iload_n 3, 0, 0, 0, 0), (22, .i2l, 0, 0, 0, 0),
  (23, .lconst 1, 0, 0, 0, 0), (24, .ldc2_w 355, 0, 0, 0, 30), (27, .invokestatic 102, 118, 3, 7, 1), (30, .ifCond .ne 8, 0, 0, 0, 0), (33, .ldc 118, 0, 0, 0, -1000000002), (35, .goto 18, 0, 0, 0, 0),
  (38, .aload_n 0, 0, 0, 0, 0), (39, .iload_n 2, 0, 0, 0, 0), (40, .invokevirtual 276, 158, 2, 7, 1), (43, .ifCond .ne 9, 0, 0, 0, 0), (46, .ldc_w 275, 0, 0, 0, -1000000003), (49, .goto 4, 0, 0, 0, 0),
  (52, .iconst 0, 0, 0, 0, 0), (53, .ireturn, 0, 0, 0, 0)]
def tMo_notStove : xTb := ((⟨"FirstFeltModel", "notStove", "(III)I"⟩, prog_9_method_70_code, 4, (some .int)), (0, 0), "FirstFeltModel", false, iMo_notStove)
def iMo_lightFor : List (Nat × xE) := [(0, .aload_n 0, 0, 0, 0, 0), (1, .iload_n 1, 0, 0, 0, 0), (2, .iload_n 2, 0, 0, 0, 0), (3, .iload_n 3, 0, 0, 0, 0), (4, .invokevirtual 357, 185, 4, 7, 1), (7, .istore 4, 0, 0, 0, 0),
  (9, .iload 4, 0, 0, 0, 0), (11, .ifCond .eq 6, 0, 0, 0, 0), (14, .iload 4, 0, 0, 0, 0), (16, .ireturn, 0, 0, 0, 0), (17, .aload_n 0, 0, 0, 0, 0), (18, .invokevirtual 341, 179, 1, 7, 0),
  (21, .iconst 0, 0, 0, 0, 0), (22, .istore 5, 0, 0, 0, 0), (24, .iload 5, 0, 0, 0, 0), (26, .iload_n 3, 0, 0, 0, 0), (27, .if_icmp .gt 70, 0, 0, 0, 0), (30, .aload_n 0, 0, 0, 0, 0),
  (31, .iload 5, 0, 0, 0, 0), (33, .invokevirtual 325, 173, 2, 7, 0), (36, .aload_n 0, 0, 0, 0, 0), (37, .getfield 7, 7, 0, 0, 0), (40, .bipush 104, 0, 0, 0, 0), (42, .iload_n 2, 0, 0, 0, 0),
  (43, .iadd, 0, 0, 0, 0), (44, .iconst 1, 0, 0, 0, 0), (45, .iastore, 0, 0, 0, 0), (46, .aload_n 0, 0, 0, 0, 0), (47, .iload_n 3, 0, 0, 0, 0), (48, .iload 5, 0, 0, 0, 0),
  (50, .isub, 0, 0, 0, 0), (51, .invokevirtual 325, 173, 2, 7, 0), (54, .aload_n 0, 0, 0, 0, 0), (55, .getfield 7, 7, 0, 0, 0), (58, .bipush 60, 0, 0, 0, 0), (60, .aload_n 0, 0, 0, 0, 0),
  (61, .getfield 26, 7, 9, 0, 0), (64, .iload_n 2, 0, 0, 0, 0), (65, .iaload, 0, 0, 0, 0), (66, .iadd, 0, 0, 0, 0), (67, .iaload, 0, 0, 0, 0), (68, .iload_n 1, 0, 0, 0, 0),
  (69, .if_icmp .ne 7, 0, 0, 0, 0), (72, .iconst 1, 0, 0, 0, 0), (73, .goto 4, 0, 0, 0, 0), (76, .iconst 0, 0, 0, 0, 0), (77, .istore 6, 0, 0, 0, 0), (79, .aload_n 0, 0, 0, 0, 0),
  (80, .invokevirtual 344, 180, 1, 7, 0), (83, .iload 6, 0, 0, 0, 0), (85, .ifCond .eq 6, 0, 0, 0, 0), (88, .iload 5, 0, 0, 0, 0), (90, .ireturn, 0, 0, 0, 0), (91, .iinc 5 1, 0, 0, 0, 0),
  (94, .goto (-70), 0, 0, 0, 0), (97, .iconst (-1), 0, 0, 0, 0), (98, .ireturn, 0, 0, 0, 0)]
def tMo_lightFor : xTb := ((⟨"FirstFeltModel", "lightFor", "(III)I"⟩, prog_9_method_71_code, 7, (some .int)), (0, 0), "FirstFeltModel", false, iMo_lightFor)
def iMo_ownsWithout : List (Nat × xE) := [(0, .aload_n 0, 0, 0, 0, 0), (1, .iload 4, 0, 0, 0, 0), (3, .putfield 87, 7, 50, 0, 0), (6, .aload_n 0, 0, 0, 0, 0), (7, .getfield 7, 7, 0, 0, 0), (10, .bipush 104, 0, 0, 0, 0),
  (12, .iload_n 2, 0, 0, 0, 0), (13, .iadd, 0, 0, 0, 0), (14, .iconst 1, 0, 0, 0, 0), (15, .iastore, 0, 0, 0, 0), (16, .aload_n 0, 0, 0, 0, 0), (17, .iload_n 3, 0, 0, 0, 0),
  (18, .invokevirtual 325, 173, 2, 7, 0), (21, .aload_n 0, 0, 0, 0, 0), (22, .getfield 7, 7, 0, 0, 0), (25, .bipush 60, 0, 0, 0, 0), (27, .aload_n 0, 0, 0, 0, 0), (28, .getfield 26, 7, 9, 0, 0),
  (31, .iload_n 2, 0, 0, 0, 0), (32, .iaload, 0, 0, 0, 0), (33, .iadd, 0, 0, 0, 0), (34, .iaload, 0, 0, 0, 0), (35, .iload_n 1, 0, 0, 0, 0), (36, .if_icmp .ne 7, 0, 0, 0, 0),
  (39, .iconst 1, 0, 0, 0, 0), (40, .goto 4, 0, 0, 0, 0), (43, .iconst 0, 0, 0, 0, 0), (44, .istore 5, 0, 0, 0, 0), (46, .aload_n 0, 0, 0, 0, 0), (47, .invokevirtual 344, 180, 1, 7, 0),
  (50, .aload_n 0, 0, 0, 0, 0), (51, .iconst (-1), 0, 0, 0, 0), (52, .putfield 87, 7, 50, 0, 0), (55, .iload 5, 0, 0, 0, 0), (57, .ireturn, 0, 0, 0, 0)]
def tMo_ownsWithout : xTb := ((⟨"FirstFeltModel", "ownsWithout", "(IIII)Z"⟩, prog_9_method_72_code, 6, (some .boolean)), (0, 0), "FirstFeltModel", true, iMo_ownsWithout)
def iMo_keptOut : List (Nat × xE) := [(0, .aload_n 0, 0, 0, 0, 0), (1, .iload_n 1, 0, 0, 0, 0), (2, .iload_n 2, 0, 0, 0, 0), (3, .iload_n 3, 0, 0, 0, 0), (4, .invokevirtual 357, 185, 4, 7, 1), (7, .istore 4, 0, 0, 0, 0),
  (9, .iload 4, 0, 0, 0, 0), (11, .ifCond .eq 6, 0, 0, 0, 0), (14, .iload 4, 0, 0, 0, 0), (16, .ireturn, 0, 0, 0, 0), (17, .aload_n 0, 0, 0, 0, 0), (18, .invokevirtual 341, 179, 1, 7, 0),
  (21, .aload_n 0, 0, 0, 0, 0), (22, .iload_n 1, 0, 0, 0, 0), (23, .iload_n 2, 0, 0, 0, 0), (24, .iload_n 3, 0, 0, 0, 0), (25, .iconst (-1), 0, 0, 0, 0), (26, .invokevirtual 360, 187, 5, 7, 1),
  (29, .ifCond .eq 5, 0, 0, 0, 0), (32, .iconst (-1), 0, 0, 0, 0), (33, .ireturn, 0, 0, 0, 0), (34, .iconst 0, 0, 0, 0, 0), (35, .istore 5, 0, 0, 0, 0), (37, .iload 5, 0, 0, 0, 0),
  (39, .aload_n 0, 0, 0, 0, 0), (40, .getfield 106, 7, 13, 0, 0), (43, .if_icmp .ge 30, 0, 0, 0, 0), (46, .iload 5, 0, 0, 0, 0), (48, .iload_n 1, 0, 0, 0, 0), (49, .if_icmp .eq 18, 0, 0, 0, 0),
  (52, .aload_n 0, 0, 0, 0, 0), (53, .iload_n 1, 0, 0, 0, 0), (54, .iload_n 2, 0, 0, 0, 0), (55, .iload_n 3, 0, 0, 0, 0), (56, .iload 5, 0, 0, 0, 0), (58, .invokevirtual 360, 187, 5, 7, 1),
  (61, .ifCond .eq 6, 0, 0, 0, 0), (64, .iload 5, 0, 0, 0, 0), (66, .ireturn, 0, 0, 0, 0), (67, .iinc 5 1, 0, 0, 0, 0), (70, .goto (-33), 0, 0, 0, 0), (73, .iconst (-1), 0, 0, 0, 0),
  (74, .ireturn, 0, 0, 0, 0)]
def tMo_keptOut : xTb := ((⟨"FirstFeltModel", "keptOut", "(III)I"⟩, prog_9_method_73_code, 6, (some .int)), (0, 0), "FirstFeltModel", false, iMo_keptOut)
def iMo_gain : List (Nat × xE) := [(0, .aload_n 0, 0, 0, 0, 0), (1, .iload_n 2, 0, 0, 0, 0), (2, .iload_n 3, 0, 0, 0, 0), (3, .iload 4, 0, 0, 0, 0), (5, .invokevirtual 253, 150, 4, 7, 1), (8, .istore 6, 0, 0, 0, 0),
  (10, .aload_n 0, 0, 0, 0, 0), (11, .iload_n 1, 0, 0, 0, 0), (12, .invokevirtual 263, 122, 2, 7, 1), (15, .ifCond .eq 10, 0, 0, 0, 0), (18, .iload 6, 0, 0, 0, 0), (20, .ldc 249, 0, 0, 0, -1000000001),
  (22, .if_icmp .ne 6, 0, 0, 0, 0), (25, .ldc 249, 0, 0, 0, -1000000001), (27, .ireturn, 0, 0, 0, 0), (28, .iload 6, 0, 0, 0, 0), (30, .ifCond .ne 16, 0, 0, 0, 0), (33, .iload 5, 0, 0, 0, 0),
  (35, .i2l, 0, 0, 0, 0), (36, .lconst 1, 0, 0, 0, 0), (37, .ldc2_w 319, 0, 0, 0, 60), (40, .invokestatic 102, 118, 3, 7, 1), (43, .ifCond .ne 6, 0, 0, 0, 0), (46, .ldc 118, 0, 0, 0, -1000000002),
  (48, .ireturn, 0, 0, 0, 0), (49, .bipush 20, 0, 0, 0, 0), (51, .bipush 20, 0, 0, 0, 0), (53, .iload 4, 0, 0, 0, 0), (55, .imul, 0, 0, 0, 0), (56, .iadd, 0, 0, 0, 0),
  (57, .aload_n 0, 0, 0, 0, 0), (58, .getfield 96, 7, 4, 0, 0), (61, .iload_n 3, 0, 0, 0, 0), (62, .imul, 0, 0, 0, 0), (63, .iadd, 0, 0, 0, 0), (64, .iload_n 2, 0, 0, 0, 0),
  (65, .iadd, 0, 0, 0, 0), (66, .istore 7, 0, 0, 0, 0), (68, .aload_n 0, 0, 0, 0, 0), (69, .invokevirtual 341, 179, 1, 7, 0), (72, .aload_n 0, 0, 0, 0, 0), (73, .getfield 7, 7, 0, 0, 0),
  (76, .iload 7, 0, 0, 0, 0), (78, .iconst 1, 0, 0, 0, 0), (79, .iastore, 0, 0, 0, 0), (80, .aload_n 0, 0, 0, 0, 0), (81, .iload 5, 0, 0, 0, 0), (83, .invokevirtual 325, 173, 2, 7, 0),
  (86, .aload_n 0, 0, 0, 0, 0), (87, .iload_n 1, 0, 0, 0, 0), (88, .invokevirtual 266, 153, 2, 7, 1), (91, .istore 8, 0, 0, 0, 0), (93, .aload_n 0, 0, 0, 0, 0), (94, .invokevirtual 344, 180, 1, 7, 0),
  (97, .aload_n 0, 0, 0, 0, 0), (98, .getfield 7, 7, 0, 0, 0), (101, .iload 7, 0, 0, 0, 0), (103, .iconst 0, 0, 0, 0, 0), (104, .iastore, 0, 0, 0, 0), (105, .aload_n 0, 0, 0, 0, 0),
  (106, .iload 5, 0, 0, 0, 0), (108, .invokevirtual 325, 173, 2, 7, 0), (111, .aload_n 0, 0, 0, 0, 0), (112, .iload_n 1, 0, 0, 0, 0), (113, .invokevirtual 266, 153, 2, 7, 1), (116, .istore 9, 0, 0, 0, 0),
  (118, .aload_n 0, 0, 0, 0, 0), (119, .invokevirtual 344, 180, 1, 7, 0), (122, .iload 8, 0, 0, 0, 0), (124, .iload 9, 0, 0, 0, 0), (126, .isub, 0, 0, 0, 0), (127, .ireturn, 0, 0, 0, 0)]
def tMo_gain : xTb := ((⟨"FirstFeltModel", "gain", "(IIIII)I"⟩, prog_9_method_74_code, 10, (some .int)), (0, 0), "FirstFeltModel", false, iMo_gain)
def iMo_isLet : List (Nat × xE) := [(0, .aload_n 0, 0, 0, 0, 0), (1, .getfield 7, 7, 0, 0, 0), (4, .bipush 60, 0, 0, 0, 0), (6, .iload_n 1, 0, 0, 0, 0), (7, .iadd, 0, 0, 0, 0), (8, .iaload, 0, 0, 0, 0),
  (9, .istore_n 2, 0, 0, 0, 0), (10, .iload_n 2, 0, 0, 0, 0), (11, .iconst (-1), 0, 0, 0, 0), (12, .if_icmp .eq 27, 0, 0, 0, 0), (15, .aload_n 0, 0, 0, 0, 0), (16, .getfield 90, 7, 51, 0, 0),
  (19, .iload_n 2, 0, 0, 0, 0), (20, .iaload, 0, 0, 0, 0), (21, .aload_n 0, 0, 0, 0, 0), (22, .getfield 7, 7, 0, 0, 0), (25, .iconst 0, 0, 0, 0, 0), (26, .iload_n 1, 0, 0, 0, 0),
  (27, .iadd, 0, 0, 0, 0), (28, .iaload, 0, 0, 0, 0), (29, .bipush 50, 0, 0, 0, 0), (31, .idiv, 0, 0, 0, 0), (32, .if_icmp .gt 7, 0, 0, 0, 0), (35, .iconst 1, 0, 0, 0, 0),
  (36, .goto 4, 0, 0, 0, 0), (39, .iconst 0, 0, 0, 0, 0), (40, .istore_n 3, 0, 0, 0, 0), (41, .iconst 1, 0, 0, 0, 0), (42, .istore 4, 0, 0, 0, 0), (44, .iload 4, 0, 0, 0, 0),
  (46, .iconst 4, 0, 0, 0, 0), (47, .if_icmp .gt 78, 0, 0, 0, 0), (50, .iload_n 3, 0, 0, 0, 0), (51, .ifCond .eq 74, 0, 0, 0, 0), (54, .aload_n 0, 0, 0, 0, 0), (55, .iload_n 1, 0, 0, 0, 0),
  (56, .iload 4, 0, 0, 0, 0), (58, .invokevirtual 271, 155, 3, 7, 1), (61, .istore 5, 0, 0, 0, 0), (63, .iload 5, 0, 0, 0, 0), (65, .iconst (-1), 0, 0, 0, 0), (66, .if_icmp .ne 7, 0, 0, 0, 0),
  (69, .iconst (-1), 0, 0, 0, 0), (70, .goto 13, 0, 0, 0, 0), (73, .aload_n 0, 0, 0, 0, 0), (74, .getfield 7, 7, 0, 0, 0), (77, .bipush 60, 0, 0, 0, 0), (79, .iload 5, 0, 0, 0, 0),
  (81, .iadd, 0, 0, 0, 0), (82, .iaload, 0, 0, 0, 0), (83, .istore 6, 0, 0, 0, 0), (85, .iload 6, 0, 0, 0, 0), (87, .iconst (-1), 0, 0, 0, 0), (88, .if_icmp .eq 25, 0, 0, 0, 0),
  (91, .iload 6, 0, 0, 0, 0), (93, .iload_n 2, 0, 0, 0, 0), (94, .if_icmp .eq 19, 0, 0, 0, 0), (97, .aload_n 0, 0, 0, 0, 0), (98, .getfield 90, 7, 51, 0, 0), (101, .iload 6, 0, 0, 0, 0),
  (103, .iaload, 0, 0, 0, 0), (104, .aload_n 0, 0, 0, 0, 0), (105, .getfield 90, 7, 51, 0, 0), (108, .iload_n 2, 0, 0, 0, 0), (109, .iaload, 0, 0, 0, 0), (110, .if_icmp .lt 7, 0, 0, 0, 0),
  (113, .iconst 1, 0, 0, 0, 0), (114, .goto 4, 0, 0, 0, 0), (117, .iconst 0, 0, 0, 0, 0), (118, .istore_n 3, 0, 0, 0, 0), (119, .iinc 4 1, 0, 0, 0, 0), (122, .goto (-78), 0, 0, 0, 0),
  (125, .iload_n 3, 0, 0, 0, 0), (126, .ireturn, 0, 0, 0, 0)]
def tMo_isLet : xTb := ((⟨"FirstFeltModel", "isLet", "(I)Z"⟩, prog_9_method_75_code, 7, (some .boolean)), (0, 0), "FirstFeltModel", true, iMo_isLet)
def iMo_brings : List (Nat × xE) := [(0, .iconst 0, 0, 0, 0, 0), (1, .istore_n 2, 0, 0, 0, 0), (2, .iconst 0, 0, 0, 0, 0), (3, .istore_n 3, 0, 0, 0, 0), (4, .iload_n 3, 0, 0, 0, 0), (5, .aload_n 0, 0, 0, 0, 0),
  (6, .invokevirtual 226, 120, 1, 7, 1), (9, .if_icmp .ge 43, 0, 0, 0, 0), (12, .iload_n 2, 0, 0, 0, 0), (13, .aload_n 0, 0, 0, 0, 0), (14, .getfield 7, 7, 0, 0, 0), (17, .bipush 60, 0, 0, 0, 0),
  (19, .iload_n 3, 0, 0, 0, 0), (20, .iadd, 0, 0, 0, 0), (21, .iaload, 0, 0, 0, 0), (22, .iload_n 1, 0, 0, 0, 0), (23, .if_icmp .ne 20, 0, 0, 0, 0), (26, .aload_n 0, 0, 0, 0, 0),
  (27, .iload_n 3, 0, 0, 0, 0), (28, .invokevirtual 364, 190, 2, 7, 1), (31, .ifCond .eq 12, 0, 0, 0, 0), (34, .aload_n 0, 0, 0, 0, 0), (35, .getfield 90, 7, 51, 0, 0), (38, .iload_n 1, 0, 0, 0, 0),
  (39, .iaload, 0, 0, 0, 0), (40, .goto 4, 0, 0, 0, 0), (43, .iconst 0, 0, 0, 0, 0), (44, .iadd, 0, 0, 0, 0), (45, .istore_n 2, 0, 0, 0, 0), (46, .iinc 3 1, 0, 0, 0, 0),
  (49, .goto (-45), 0, 0, 0, 0), (52, .iload_n 2, 0, 0, 0, 0), (53, .ireturn, 0, 0, 0, 0)]
def tMo_brings : xTb := ((⟨"FirstFeltModel", "brings", "(I)I"⟩, prog_9_method_76_code, 4, (some .int)), (0, 0), "FirstFeltModel", false, iMo_brings)
def iMo_bestRent : List (Nat × xE) := [(0, .aload_n 0, 0, 0, 0, 0), (1, .getfield 90, 7, 51, 0, 0), (4, .iload_n 1, 0, 0, 0, 0), (5, .iaload, 0, 0, 0, 0), (6, .istore_n 2, 0, 0, 0, 0), (7, .iconst 0, 0, 0, 0, 0),
  (8, .istore_n 3, 0, 0, 0, 0), (9, .iconst (-1), 0, 0, 0, 0), (10, .istore 4, 0, 0, 0, 0), (12, .iconst 0, 0, 0, 0, 0), (13, .istore 5, 0, 0, 0, 0), (15, .iload 5, 0, 0, 0, 0),
  (17, .bipush 10, 0, 0, 0, 0), (19, .if_icmp .ge 54, 0, 0, 0, 0), (22, .aload_n 0, 0, 0, 0, 0), (23, .getfield 90, 7, 51, 0, 0), (26, .iload_n 1, 0, 0, 0, 0), (27, .iload 5, 0, 0, 0, 0),
  (29, .iastore, 0, 0, 0, 0), (30, .aload_n 0, 0, 0, 0, 0), (31, .iload_n 1, 0, 0, 0, 0), (32, .invokevirtual 367, 191, 2, 7, 1), (35, .istore 6, 0, 0, 0, 0), (37, .iload 6, 0, 0, 0, 0),
  (39, .iload 4, 0, 0, 0, 0), (41, .if_icmp .le 8, 0, 0, 0, 0), (44, .iload 5, 0, 0, 0, 0), (46, .goto 4, 0, 0, 0, 0), (49, .iload_n 3, 0, 0, 0, 0), (50, .istore_n 3, 0, 0, 0, 0),
  (51, .iload 6, 0, 0, 0, 0), (53, .iload 4, 0, 0, 0, 0), (55, .if_icmp .le 8, 0, 0, 0, 0), (58, .iload 6, 0, 0, 0, 0), (60, .goto 5, 0, 0, 0, 0), (63, .iload 4, 0, 0, 0, 0),
  (65, .istore 4, 0, 0, 0, 0), (67, .iinc 5 1, 0, 0, 0, 0), (70, .goto (-55), 0, 0, 0, 0), (73, .aload_n 0, 0, 0, 0, 0), (74, .getfield 90, 7, 51, 0, 0), (77, .iload_n 1, 0, 0, 0, 0),
  (78, .iload_n 2, 0, 0, 0, 0), (79, .iastore, 0, 0, 0, 0), (80, .iload_n 3, 0, 0, 0, 0), (81, .ireturn, 0, 0, 0, 0)]
def tMo_bestRent : xTb := ((⟨"FirstFeltModel", "bestRent", "(I)I"⟩, prog_9_method_77_code, 7, (some .int)), (0, 0), "FirstFeltModel", false, iMo_bestRent)
def iMo_rents : List (Nat × xE) := [(0, .iload_n 1, 0, 0, 0, 0), (1, .iconst (-1), 0, 0, 0, 0), (2, .if_icmp .eq 14, 0, 0, 0, 0), (5, .aload_n 0, 0, 0, 0, 0), (6, .iload_n 1, 0, 0, 0, 0), (7, .invokevirtual 263, 122, 2, 7, 1),
  (10, .ifCond .ne 6, 0, 0, 0, 0), (13, .ldc 249, 0, 0, 0, -1000000001), (15, .ireturn, 0, 0, 0, 0), (16, .iconst 0, 0, 0, 0, 0), (17, .istore_n 2, 0, 0, 0, 0), (18, .iload_n 2, 0, 0, 0, 0),
  (19, .bipush 6, 0, 0, 0, 0), (21, .if_icmp .ge 16, 0, 0, 0, 0), (24, .aload_n 0, 0, 0, 0, 0), (25, .getfield 90, 7, 51, 0, 0), (28, .iload_n 2, 0, 0, 0, 0), (29, .iconst 0, 0, 0, 0, 0),
  (30, .iastore, 0, 0, 0, 0), (31, .iinc 2 1, 0, 0, 0, 0), (34, .goto (-16), 0, 0, 0, 0), (37, .iconst 0, 0, 0, 0, 0), (38, .istore_n 2, 0, 0, 0, 0), (39, .iload_n 2, 0, 0, 0, 0),
  (40, .bipush 20, 0, 0, 0, 0), (42, .if_icmp .ge 88, 0, 0, 0, 0), (45, .iconst 0, 0, 0, 0, 0), (46, .istore_n 3, 0, 0, 0, 0), (47, .iconst 0, 0, 0, 0, 0), (48, .istore 4, 0, 0, 0, 0),
  (50, .iload 4, 0, 0, 0, 0), (52, .aload_n 0, 0, 0, 0, 0), (53, .getfield 106, 7, 13, 0, 0), (56, .if_icmp .ge 48, 0, 0, 0, 0), (59, .aload_n 0, 0, 0, 0, 0), (60, .iload 4, 0, 0, 0, 0),
  (62, .invokevirtual 370, 192, 2, 7, 1), (65, .istore 5, 0, 0, 0, 0), (67, .iload_n 3, 0, 0, 0, 0), (68, .ifCond .ne 15, 0, 0, 0, 0), (71, .iload 5, 0, 0, 0, 0), (73, .aload_n 0, 0, 0, 0, 0),
  (74, .getfield 90, 7, 51, 0, 0), (77, .iload 4, 0, 0, 0, 0), (79, .iaload, 0, 0, 0, 0), (80, .if_icmp .eq 7, 0, 0, 0, 0), (83, .iconst 1, 0, 0, 0, 0), (84, .goto 4, 0, 0, 0, 0),
  (87, .iconst 0, 0, 0, 0, 0), (88, .istore_n 3, 0, 0, 0, 0), (89, .aload_n 0, 0, 0, 0, 0), (90, .getfield 90, 7, 51, 0, 0), (93, .iload 4, 0, 0, 0, 0), (95, .iload 5, 0, 0, 0, 0),
  (97, .iastore, 0, 0, 0, 0), (98, .iinc 4 1, 0, 0, 0, 0), (101, .goto (-51), 0, 0, 0, 0), (104, .iload_n 3, 0, 0, 0, 0), (105, .ifCond .ne 19, 0, 0, 0, 0), (108, .iload_n 1, 0, 0, 0, 0),
  (109, .iconst (-1), 0, 0, 0, 0), (110, .if_icmp .ne 7, 0, 0, 0, 0), (113, .iload_n 2, 0, 0, 0, 0), (114, .goto 9, 0, 0, 0, 0), (117, .aload_n 0, 0, 0, 0, 0), (118, .getfield 90, 7, 51, 0, 0),
  (121, .iload_n 1, 0, 0, 0, 0), (122, .iaload, 0, 0, 0, 0), (123, .ireturn, 0, 0, 0, 0), (124, .iinc 2 1, 0, 0, 0, 0), (127, .goto (-88), 0, 0, 0, 0), (130, .iconst (-1), 0, 0, 0, 0),
  (131, .ireturn, 0, 0, 0, 0)]
def tMo_rents : xTb := ((⟨"FirstFeltModel", "rents", "(I)I"⟩, prog_9_method_78_code, 6, (some .int)), (0, 0), "FirstFeltModel", false, iMo_rents)
def iMo_claim : List (Nat × xE) := [(0, .aload_n 0, 0, 0, 0, 0), (1, .iload_n 2, 0, 0, 0, 0), (2, .invokevirtual 373, 125, 2, 7, 1), (5, .istore 4, 0, 0, 0, 0), (7, .aload_n 0, 0, 0, 0, 0), (8, .iload_n 1, 0, 0, 0, 0),
  (9, .invokevirtual 263, 122, 2, 7, 1), (12, .ifCond .eq 9, 0, 0, 0, 0), (15, .iload 4, 0, 0, 0, 0), (17, .iconst (-1), 0, 0, 0, 0), (18, .if_icmp .ne 6, 0, 0, 0, 0), (21, .ldc 249, 0, 0, 0, -1000000001),
  (23, .ireturn, 0, 0, 0, 0), (24, .iload_n 3, 0, 0, 0, 0), (25, .i2l, 0, 0, 0, 0), (26, .lconst 0, 0, 0, 0, 0), (27, .ldc2_w 376, 0, 0, 0, 59), (30, .invokestatic 102, 118, 3, 7, 1),
  (33, .ifCond .ne 6, 0, 0, 0, 0), (36, .ldc 118, 0, 0, 0, -1000000002), (38, .ireturn, 0, 0, 0, 0), (39, .aload_n 0, 0, 0, 0, 0), (40, .getfield 236, 7, 16, 0, 0), (43, .bipush 12, 0, 0, 0, 0),
  (45, .if_icmp .ne 6, 0, 0, 0, 0), (48, .ldc 122, 0, 0, 0, -1000000004), (50, .ireturn, 0, 0, 0, 0), (51, .aload_n 0, 0, 0, 0, 0), (52, .getfield 41, 7, 17, 0, 0), (55, .aload_n 0, 0, 0, 0, 0),
  (56, .getfield 236, 7, 16, 0, 0), (59, .iload_n 1, 0, 0, 0, 0), (60, .iastore, 0, 0, 0, 0), (61, .aload_n 0, 0, 0, 0, 0), (62, .getfield 44, 7, 18, 0, 0), (65, .aload_n 0, 0, 0, 0, 0),
  (66, .getfield 236, 7, 16, 0, 0), (69, .iload 4, 0, 0, 0, 0), (71, .iastore, 0, 0, 0, 0), (72, .aload_n 0, 0, 0, 0, 0), (73, .getfield 47, 7, 19, 0, 0), (76, .aload_n 0, 0, 0, 0, 0),
  (77, .getfield 236, 7, 16, 0, 0), (80, .iload_n 3, 0, 0, 0, 0), (81, .iastore, 0, 0, 0, 0), (82, .aload_n 0, 0, 0, 0, 0), (83, .dup, 0, 0, 0, 0), (84, .getfield 236, 7, 16, 0, 0),
  (87, .iconst 1, 0, 0, 0, 0), (88, .iadd, 0, 0, 0, 0), (89, .putfield 236, 7, 16, 0, 0), (92, .aload_n 0, 0, 0, 0, 0), (93, .getfield 236, 7, 16, 0, 0), (96, .ireturn, 0, 0, 0, 0)]
def tMo_claim : xTb := ((⟨"FirstFeltModel", "claim", "(III)I"⟩, prog_9_method_79_code, 5, (some .int)), (0, 0), "FirstFeltModel", false, iMo_claim)
def iMo_forged : List (Nat × xE) := [(0, .iconst 1, 0, 0, 0, 0), (1, .aload_n 0, 0, 0, 0, 0), (2, .getfield 236, 7, 16, 0, 0), (5, .ishl, 0, 0, 0, 0), (6, .iconst 1, 0, 0, 0, 0), (7, .isub, 0, 0, 0, 0),
  (8, .istore_n 1, 0, 0, 0, 0), (9, .aload_n 0, 0, 0, 0, 0), (10, .getfield 236, 7, 16, 0, 0), (13, .ifCond .ne 5, 0, 0, 0, 0), (16, .iconst 0, 0, 0, 0, 0), (17, .ireturn, 0, 0, 0, 0),
  (18, .aload_n 0, 0, 0, 0, 0), (19, .invokevirtual 341, 179, 1, 7, 0), (22, .iconst 0, 0, 0, 0, 0), (23, .istore_n 2, 0, 0, 0, 0), (24, .iload_n 2, 0, 0, 0, 0), (25, .bipush 60, 0, 0, 0, 0),
  (27, .if_icmp .ge 82, 0, 0, 0, 0), (30, .aload_n 0, 0, 0, 0, 0), (31, .invokevirtual 316, 172, 1, 7, 0), (34, .iconst 0, 0, 0, 0, 0), (35, .istore_n 3, 0, 0, 0, 0), (36, .iload_n 3, 0, 0, 0, 0),
  (37, .aload_n 0, 0, 0, 0, 0), (38, .getfield 236, 7, 16, 0, 0), (41, .if_icmp .ge 62, 0, 0, 0, 0), (44, .aload_n 0, 0, 0, 0, 0), (45, .getfield 47, 7, 19, 0, 0), (48, .iload_n 3, 0, 0, 0, 0),
  (49, .iaload, 0, 0, 0, 0), (50, .iload_n 2, 0, 0, 0, 0), (51, .if_icmp .ne 26, 0, 0, 0, 0), (54, .aload_n 0, 0, 0, 0, 0), (55, .aload_n 0, 0, 0, 0, 0), (56, .getfield 41, 7, 17, 0, 0),
  (59, .iload_n 3, 0, 0, 0, 0), (60, .iaload, 0, 0, 0, 0), (61, .aload_n 0, 0, 0, 0, 0), (62, .getfield 44, 7, 18, 0, 0), (65, .iload_n 3, 0, 0, 0, 0), (66, .iaload, 0, 0, 0, 0),
  (67, .invokevirtual 291, 166, 3, 7, 1), (70, .ifCond .eq 7, 0, 0, 0, 0), (73, .iconst 1, 0, 0, 0, 0), (74, .goto 4, 0, 0, 0, 0), (77, .iconst 0, 0, 0, 0, 0), (78, .istore 4, 0, 0, 0, 0),
  (80, .iload_n 1, 0, 0, 0, 0), (81, .iload 4, 0, 0, 0, 0), (83, .ifCond .eq 11, 0, 0, 0, 0), (86, .iconst 1, 0, 0, 0, 0), (87, .iload_n 3, 0, 0, 0, 0), (88, .ishl, 0, 0, 0, 0),
  (89, .iconst (-1), 0, 0, 0, 0), (90, .ixor, 0, 0, 0, 0), (91, .goto 4, 0, 0, 0, 0), (94, .iconst (-1), 0, 0, 0, 0), (95, .iand, 0, 0, 0, 0), (96, .istore_n 1, 0, 0, 0, 0),
  (97, .iinc 3 1, 0, 0, 0, 0), (100, .goto (-64), 0, 0, 0, 0), (103, .iinc 2 1, 0, 0, 0, 0), (106, .goto (-82), 0, 0, 0, 0), (109, .aload_n 0, 0, 0, 0, 0), (110, .invokevirtual 344, 180, 1, 7, 0),
  (113, .iload_n 1, 0, 0, 0, 0), (114, .ireturn, 0, 0, 0, 0)]
def tMo_forged : xTb := ((⟨"FirstFeltModel", "forged", "()I"⟩, prog_9_method_80_code, 5, (some .int)), (0, 0), "FirstFeltModel", false, iMo_forged)
def iMo_leaveWarm : List (Nat × xE) := [(0, .aload_n 0, 0, 0, 0, 0), (1, .getfield 7, 7, 0, 0, 0), (4, .bipush 108, 0, 0, 0, 0), (6, .iload_n 1, 0, 0, 0, 0), (7, .iadd, 0, 0, 0, 0), (8, .iaload, 0, 0, 0, 0),
  (9, .istore_n 2, 0, 0, 0, 0), (10, .aload_n 0, 0, 0, 0, 0), (11, .iload_n 1, 0, 0, 0, 0), (12, .iload_n 2, 0, 0, 0, 0), (13, .invokevirtual 297, 170, 3, 7, 1), (16, .ifCond .eq 70, 0, 0, 0, 0),
  (19, .iconst (-1), 0, 0, 0, 0), (20, .istore_n 3, 0, 0, 0, 0), (21, .iconst 4, 0, 0, 0, 0), (22, .istore 4, 0, 0, 0, 0), (24, .iload 4, 0, 0, 0, 0), (26, .ifCond .le 41, 0, 0, 0, 0),
  (29, .aload_n 0, 0, 0, 0, 0), (30, .iload_n 2, 0, 0, 0, 0), (31, .iload 4, 0, 0, 0, 0), (33, .invokevirtual 271, 155, 3, 7, 1), (36, .istore 5, 0, 0, 0, 0), (38, .iload 5, 0, 0, 0, 0),
  (40, .iconst (-1), 0, 0, 0, 0), (41, .if_icmp .eq 18, 0, 0, 0, 0), (44, .aload_n 0, 0, 0, 0, 0), (45, .iload_n 1, 0, 0, 0, 0), (46, .iload 5, 0, 0, 0, 0), (48, .invokevirtual 297, 170, 3, 7, 1),
  (51, .ifCond .ne 8, 0, 0, 0, 0), (54, .iload 5, 0, 0, 0, 0), (56, .goto 4, 0, 0, 0, 0), (59, .iload_n 3, 0, 0, 0, 0), (60, .istore_n 3, 0, 0, 0, 0), (61, .iinc 4 (-1), 0, 0, 0, 0),
  (64, .goto (-40), 0, 0, 0, 0), (67, .aload_n 0, 0, 0, 0, 0), (68, .getfield 7, 7, 0, 0, 0), (71, .bipush 108, 0, 0, 0, 0), (73, .iload_n 1, 0, 0, 0, 0), (74, .iadd, 0, 0, 0, 0),
  (75, .iload_n 3, 0, 0, 0, 0), (76, .iconst (-1), 0, 0, 0, 0), (77, .if_icmp .ne 7, 0, 0, 0, 0), (80, .iload_n 2, 0, 0, 0, 0), (81, .goto 4, 0, 0, 0, 0), (84, .iload_n 3, 0, 0, 0, 0),
  (85, .iastore, 0, 0, 0, 0), (86, .return_, 0, 0, 0, 0)]
def tMo_leaveWarm : xTb := ((⟨"FirstFeltModel", "leaveWarm", "(I)V"⟩, prog_9_method_81_code, 6, none), (0, 0), "FirstFeltModel", false, iMo_leaveWarm)
def iMo_coldBy : List (Nat × xE) := [(0, .aload_n 0, 0, 0, 0, 0), (1, .invokevirtual 341, 179, 1, 7, 0), (4, .aload_n 0, 0, 0, 0, 0), (5, .getfield 7, 7, 0, 0, 0), (8, .sipush 138, 0, 0, 0, 0), (11, .iload_n 1, 0, 0, 0, 0),
  (12, .iastore, 0, 0, 0, 0), (13, .aload_n 0, 0, 0, 0, 0), (14, .getfield 7, 7, 0, 0, 0), (17, .sipush 142, 0, 0, 0, 0), (20, .iconst 0, 0, 0, 0, 0), (21, .iastore, 0, 0, 0, 0),
  (22, .iconst 0, 0, 0, 0, 0), (23, .istore_n 3, 0, 0, 0, 0), (24, .iload_n 3, 0, 0, 0, 0), (25, .iload_n 2, 0, 0, 0, 0), (26, .if_icmp .ge 37, 0, 0, 0, 0), (29, .iconst 0, 0, 0, 0, 0),
  (30, .istore 4, 0, 0, 0, 0), (32, .iload 4, 0, 0, 0, 0), (34, .aload_n 0, 0, 0, 0, 0), (35, .getfield 106, 7, 13, 0, 0), (38, .if_icmp .ge 15, 0, 0, 0, 0), (41, .aload_n 0, 0, 0, 0, 0),
  (42, .iload 4, 0, 0, 0, 0), (44, .invokevirtual 378, 196, 2, 7, 0), (47, .iinc 4 1, 0, 0, 0, 0), (50, .goto (-18), 0, 0, 0, 0), (53, .aload_n 0, 0, 0, 0, 0), (54, .invokevirtual 316, 172, 1, 7, 0),
  (57, .iinc 3 1, 0, 0, 0, 0), (60, .goto (-36), 0, 0, 0, 0), (63, .iconst 0, 0, 0, 0, 0), (64, .istore_n 3, 0, 0, 0, 0), (65, .iconst 0, 0, 0, 0, 0), (66, .istore 4, 0, 0, 0, 0),
  (68, .iload 4, 0, 0, 0, 0), (70, .aload_n 0, 0, 0, 0, 0), (71, .getfield 106, 7, 13, 0, 0), (74, .if_icmp .ge 25, 0, 0, 0, 0), (77, .iload_n 3, 0, 0, 0, 0), (78, .aload_n 0, 0, 0, 0, 0),
  (79, .getfield 7, 7, 0, 0, 0), (82, .sipush 142, 0, 0, 0, 0), (85, .iaload, 0, 0, 0, 0), (86, .iload 4, 0, 0, 0, 0), (88, .ishr, 0, 0, 0, 0), (89, .iconst 1, 0, 0, 0, 0),
  (90, .iand, 0, 0, 0, 0), (91, .iadd, 0, 0, 0, 0), (92, .istore_n 3, 0, 0, 0, 0), (93, .iinc 4 1, 0, 0, 0, 0), (96, .goto (-28), 0, 0, 0, 0), (99, .aload_n 0, 0, 0, 0, 0),
  (100, .invokevirtual 344, 180, 1, 7, 0), (103, .iload_n 3, 0, 0, 0, 0), (104, .ireturn, 0, 0, 0, 0)]
def tMo_coldBy : xTb := ((⟨"FirstFeltModel", "coldBy", "(II)I"⟩, prog_9_method_82_code, 5, (some .int)), (0, 0), "FirstFeltModel", false, iMo_coldBy)
def iMo_cold : List (Nat × xE) := [(0, .iload_n 1, 0, 0, 0, 0), (1, .i2l, 0, 0, 0, 0), (2, .lconst 0, 0, 0, 0, 0), (3, .ldc2_w 281, 0, 0, 0, 3), (6, .invokestatic 102, 118, 3, 7, 1), (9, .ifCond .eq 24, 0, 0, 0, 0),
  (12, .iload_n 2, 0, 0, 0, 0), (13, .i2l, 0, 0, 0, 0), (14, .lconst 1, 0, 0, 0, 0), (15, .ldc2_w 319, 0, 0, 0, 60), (18, .invokestatic 102, 118, 3, 7, 1), (21, .ifCond .eq 12, 0, 0, 0, 0),
  (24, .aload_n 0, 0, 0, 0, 0), (25, .iload_n 1, 0, 0, 0, 0), (26, .iload_n 2, 0, 0, 0, 0), (27, .invokevirtual 381, 197, 3, 7, 1), (30, .goto 5, 0, 0, 0, 0), (33, .ldc 118, 0, 0, 0, -1000000002),
  (35, .ireturn, 0, 0, 0, 0)]
def tMo_cold : xTb := ((⟨"FirstFeltModel", "cold", "(II)I"⟩, prog_9_method_83_code, 3, (some .int)), (0, 0), "FirstFeltModel", false, iMo_cold)
def iMo_mildest : List (Nat × xE) := [(0, .iload_n 1, 0, 0, 0, 0), (1, .i2l, 0, 0, 0, 0), (2, .lconst 1, 0, 0, 0, 0), (3, .ldc2_w 319, 0, 0, 0, 60), (6, .invokestatic 102, 118, 3, 7, 1), (9, .ifCond .ne 6, 0, 0, 0, 0),
  (12, .ldc 118, 0, 0, 0, -1000000002), (14, .ireturn, 0, 0, 0, 0), (15, .iconst 0, 0, 0, 0, 0), (16, .istore_n 2, 0, 0, 0, 0), (17, .iconst 1, 0, 0, 0, 0), (18, .istore_n 3, 0, 0, 0, 0),
  (19, .iload_n 3, 0, 0, 0, 0), (20, .iconst 4, 0, 0, 0, 0), (21, .if_icmp .ge 30, 0, 0, 0, 0), (24, .aload_n 0, 0, 0, 0, 0), (25, .iload_n 3, 0, 0, 0, 0), (26, .iload_n 1, 0, 0, 0, 0),
  (27, .invokevirtual 381, 197, 3, 7, 1), (30, .aload_n 0, 0, 0, 0, 0), (31, .iload_n 2, 0, 0, 0, 0), (32, .iload_n 1, 0, 0, 0, 0), (33, .invokevirtual 381, 197, 3, 7, 1), (36, .if_icmp .ge 7, 0, 0, 0, 0),
  (39, .iload_n 3, 0, 0, 0, 0), (40, .goto 4, 0, 0, 0, 0), (43, .iload_n 2, 0, 0, 0, 0), (44, .istore_n 2, 0, 0, 0, 0), (45, .iinc 3 1, 0, 0, 0, 0), (48, .goto (-29), 0, 0, 0, 0),
  (51, .iload_n 2, 0, 0, 0, 0), (52, .ireturn, 0, 0, 0, 0)]
def tMo_mildest : xTb := ((⟨"FirstFeltModel", "mildest", "(I)I"⟩, prog_9_method_84_code, 4, (some .int)), (0, 0), "FirstFeltModel", false, iMo_mildest)
def iMo_deed : List (Nat × xE) := [(0, .aload_n 0, 0, 0, 0, 0), (1, .iload_n 2, 0, 0, 0, 0), (2, .invokevirtual 373, 125, 2, 7, 1), (5, .istore 4, 0, 0, 0, 0), (7, .aload_n 0, 0, 0, 0, 0), (8, .iload_n 1, 0, 0, 0, 0),
  (9, .invokevirtual 263, 122, 2, 7, 1), (12, .ifCond .eq 9, 0, 0, 0, 0), (15, .iload 4, 0, 0, 0, 0), (17, .iconst (-1), 0, 0, 0, 0), (18, .if_icmp .ne 6, 0, 0, 0, 0), (21, .ldc 249, 0, 0, 0, -1000000001),
  (23, .ireturn, 0, 0, 0, 0), (24, .iload_n 3, 0, 0, 0, 0), (25, .i2l, 0, 0, 0, 0), (26, .lconst 1, 0, 0, 0, 0), (27, .ldc2_w 319, 0, 0, 0, 60), (30, .invokestatic 102, 118, 3, 7, 1),
  (33, .ifCond .ne 6, 0, 0, 0, 0), (36, .ldc 118, 0, 0, 0, -1000000002), (38, .ireturn, 0, 0, 0, 0), (39, .aload_n 0, 0, 0, 0, 0), (40, .getfield 239, 7, 20, 0, 0), (43, .bipush 8, 0, 0, 0, 0),
  (45, .if_icmp .ne 6, 0, 0, 0, 0), (48, .ldc 122, 0, 0, 0, -1000000004), (50, .ireturn, 0, 0, 0, 0), (51, .aload_n 0, 0, 0, 0, 0), (52, .getfield 50, 7, 21, 0, 0), (55, .aload_n 0, 0, 0, 0, 0),
  (56, .getfield 239, 7, 20, 0, 0), (59, .iload_n 1, 0, 0, 0, 0), (60, .iastore, 0, 0, 0, 0), (61, .aload_n 0, 0, 0, 0, 0), (62, .getfield 53, 7, 22, 0, 0), (65, .aload_n 0, 0, 0, 0, 0),
  (66, .getfield 239, 7, 20, 0, 0), (69, .iload 4, 0, 0, 0, 0), (71, .iastore, 0, 0, 0, 0), (72, .aload_n 0, 0, 0, 0, 0), (73, .getfield 56, 7, 23, 0, 0), (76, .aload_n 0, 0, 0, 0, 0),
  (77, .getfield 239, 7, 20, 0, 0), (80, .iload_n 3, 0, 0, 0, 0), (81, .iastore, 0, 0, 0, 0), (82, .aload_n 0, 0, 0, 0, 0), (83, .dup, 0, 0, 0, 0), (84, .getfield 239, 7, 20, 0, 0),
  (87, .iconst 1, 0, 0, 0, 0), (88, .iadd, 0, 0, 0, 0), (89, .putfield 239, 7, 20, 0, 0), (92, .aload_n 0, 0, 0, 0, 0), (93, .getfield 239, 7, 20, 0, 0), (96, .ireturn, 0, 0, 0, 0)]
def tMo_deed : xTb := ((⟨"FirstFeltModel", "deed", "(III)I"⟩, prog_9_method_85_code, 5, (some .int)), (0, 0), "FirstFeltModel", false, iMo_deed)
def iMo_areDeeds : List (Nat × xE) := [(0, .iconst 1, 0, 0, 0, 0), (1, .istore_n 3, 0, 0, 0, 0), (2, .iconst 0, 0, 0, 0, 0), (3, .istore 4, 0, 0, 0, 0), (5, .iload 4, 0, 0, 0, 0), (7, .bipush 60, 0, 0, 0, 0),
  (9, .if_icmp .ge 112, 0, 0, 0, 0), (12, .iload_n 3, 0, 0, 0, 0), (13, .ifCond .eq 108, 0, 0, 0, 0), (16, .aload_n 0, 0, 0, 0, 0), (17, .getfield 7, 7, 0, 0, 0), (20, .bipush 104, 0, 0, 0, 0),
  (22, .iload_n 1, 0, 0, 0, 0), (23, .iadd, 0, 0, 0, 0), (24, .iload 4, 0, 0, 0, 0), (26, .iload_n 2, 0, 0, 0, 0), (27, .if_icmp .ne 7, 0, 0, 0, 0), (30, .iconst 1, 0, 0, 0, 0),
  (31, .goto 12, 0, 0, 0, 0), (34, .aload_n 0, 0, 0, 0, 0), (35, .getfield 7, 7, 0, 0, 0), (38, .bipush 104, 0, 0, 0, 0), (40, .iload_n 1, 0, 0, 0, 0), (41, .iadd, 0, 0, 0, 0),
  (42, .iaload, 0, 0, 0, 0), (43, .iastore, 0, 0, 0, 0), (44, .aload_n 0, 0, 0, 0, 0), (45, .invokevirtual 316, 172, 1, 7, 0), (48, .iconst 0, 0, 0, 0, 0), (49, .istore 5, 0, 0, 0, 0),
  (51, .iload 5, 0, 0, 0, 0), (53, .aload_n 0, 0, 0, 0, 0), (54, .getfield 239, 7, 20, 0, 0), (57, .if_icmp .ge 58, 0, 0, 0, 0), (60, .iload_n 3, 0, 0, 0, 0), (61, .ifCond .eq 46, 0, 0, 0, 0),
  (64, .aload_n 0, 0, 0, 0, 0), (65, .getfield 56, 7, 23, 0, 0), (68, .iload 5, 0, 0, 0, 0), (70, .iaload, 0, 0, 0, 0), (71, .iload 4, 0, 0, 0, 0), (73, .iconst 1, 0, 0, 0, 0),
  (74, .iadd, 0, 0, 0, 0), (75, .if_icmp .ne 28, 0, 0, 0, 0), (78, .aload_n 0, 0, 0, 0, 0), (79, .getfield 7, 7, 0, 0, 0), (82, .bipush 60, 0, 0, 0, 0), (84, .aload_n 0, 0, 0, 0, 0),
  (85, .getfield 53, 7, 22, 0, 0), (88, .iload 5, 0, 0, 0, 0), (90, .iaload, 0, 0, 0, 0), (91, .iadd, 0, 0, 0, 0), (92, .iaload, 0, 0, 0, 0), (93, .aload_n 0, 0, 0, 0, 0),
  (94, .getfield 50, 7, 21, 0, 0), (97, .iload 5, 0, 0, 0, 0), (99, .iaload, 0, 0, 0, 0), (100, .if_icmp .ne 7, 0, 0, 0, 0), (103, .iconst 1, 0, 0, 0, 0), (104, .goto 4, 0, 0, 0, 0),
  (107, .iconst 0, 0, 0, 0, 0), (108, .istore_n 3, 0, 0, 0, 0), (109, .iinc 5 1, 0, 0, 0, 0), (112, .goto (-61), 0, 0, 0, 0), (115, .iinc 4 1, 0, 0, 0, 0), (118, .goto (-113), 0, 0, 0, 0),
  (121, .aload_n 0, 0, 0, 0, 0), (122, .invokevirtual 344, 180, 1, 7, 0), (125, .iload_n 3, 0, 0, 0, 0), (126, .ireturn, 0, 0, 0, 0)]
def tMo_areDeeds : xTb := ((⟨"FirstFeltModel", "areDeeds", "(II)Z"⟩, prog_9_method_86_code, 6, (some .boolean)), (0, 0), "FirstFeltModel", true, iMo_areDeeds)
def iMo_wasLit : List (Nat × xE) := [(0, .aload_n 0, 0, 0, 0, 0), (1, .iload_n 1, 0, 0, 0, 0), (2, .invokevirtual 257, 123, 2, 7, 1), (5, .ifCond .ne 6, 0, 0, 0, 0), (8, .ldc 249, 0, 0, 0, -1000000001), (10, .ireturn, 0, 0, 0, 0),
  (11, .aload_n 0, 0, 0, 0, 0), (12, .iload_n 1, 0, 0, 0, 0), (13, .invokevirtual 276, 158, 2, 7, 1), (16, .ifCond .ne 7, 0, 0, 0, 0), (19, .ldc_w 275, 0, 0, 0, -1000000003), (22, .ireturn, 0, 0, 0, 0),
  (23, .iconst 0, 0, 0, 0, 0), (24, .istore_n 3, 0, 0, 0, 0), (25, .iconst (-1), 0, 0, 0, 0), (26, .istore 4, 0, 0, 0, 0), (28, .aload_n 0, 0, 0, 0, 0), (29, .invokevirtual 341, 179, 1, 7, 0),
  (32, .iconst 0, 0, 0, 0, 0), (33, .istore 5, 0, 0, 0, 0), (35, .iload 5, 0, 0, 0, 0), (37, .bipush 60, 0, 0, 0, 0), (39, .if_icmp .ge 36, 0, 0, 0, 0), (42, .aload_n 0, 0, 0, 0, 0),
  (43, .iload_n 1, 0, 0, 0, 0), (44, .iload 5, 0, 0, 0, 0), (46, .invokevirtual 384, 201, 3, 7, 1), (49, .ifCond .eq 20, 0, 0, 0, 0), (52, .iload_n 3, 0, 0, 0, 0), (53, .iload_n 2, 0, 0, 0, 0),
  (54, .if_icmp .ne 8, 0, 0, 0, 0), (57, .iload 5, 0, 0, 0, 0), (59, .goto 5, 0, 0, 0, 0), (62, .iload 4, 0, 0, 0, 0), (64, .istore 4, 0, 0, 0, 0), (66, .iinc 3 1, 0, 0, 0, 0),
  (69, .iinc 5 1, 0, 0, 0, 0), (72, .goto (-37), 0, 0, 0, 0), (75, .iload_n 2, 0, 0, 0, 0), (76, .iconst (-1), 0, 0, 0, 0), (77, .if_icmp .ne 7, 0, 0, 0, 0), (80, .iload_n 3, 0, 0, 0, 0),
  (81, .goto 5, 0, 0, 0, 0), (84, .iload 4, 0, 0, 0, 0), (86, .ireturn, 0, 0, 0, 0)]
def tMo_wasLit : xTb := ((⟨"FirstFeltModel", "wasLit", "(II)I"⟩, prog_9_method_87_code, 6, (some .int)), (0, 0), "FirstFeltModel", false, iMo_wasLit)
def iMo_tear : List (Nat × xE) := [(0, .aload_n 0, 0, 0, 0, 0), (1, .getfield 236, 7, 16, 0, 0), (4, .aload_n 0, 0, 0, 0, 0), (5, .getfield 239, 7, 20, 0, 0), (8, .iadd, 0, 0, 0, 0), (9, .istore_n 1, 0, 0, 0, 0),
  (10, .aload_n 0, 0, 0, 0, 0), (11, .iconst 0, 0, 0, 0, 0), (12, .putfield 236, 7, 16, 0, 0), (15, .aload_n 0, 0, 0, 0, 0), (16, .iconst 0, 0, 0, 0, 0), (17, .putfield 239, 7, 20, 0, 0),
  (20, .iload_n 1, 0, 0, 0, 0), (21, .ireturn, 0, 0, 0, 0)]
def tMo_tear : xTb := ((⟨"FirstFeltModel", "tear", "()I"⟩, prog_9_method_88_code, 2, (some .int)), (0, 0), "FirstFeltModel", false, iMo_tear)
def iMo_seed : List (Nat × xE) := [(0, .iload_n 1, 0, 0, 0, 0), (1, .ifCond .ge 6, 0, 0, 0, 0), (4, .ldc 118, 0, 0, 0, -1000000002), (6, .ireturn, 0, 0, 0, 0), (7, .aload_n 0, 0, 0, 0, 0), (8, .getfield 7, 7, 0, 0, 0),
  (11, .sipush 141, 0, 0, 0, 0), (14, .iaload, 0, 0, 0, 0), (15, .istore_n 2, 0, 0, 0, 0), (16, .aload_n 0, 0, 0, 0, 0), (17, .getfield 7, 7, 0, 0, 0), (20, .sipush 141, 0, 0, 0, 0),
  (23, .iload_n 1, 0, 0, 0, 0), (24, .iastore, 0, 0, 0, 0), (25, .iload_n 2, 0, 0, 0, 0), (26, .ireturn, 0, 0, 0, 0)]
def tMo_seed : xTb := ((⟨"FirstFeltModel", "seed", "(I)I"⟩, prog_9_method_89_code, 3, (some .int)), (0, 0), "FirstFeltModel", false, iMo_seed)
def iMo_keep : List (Nat × xE) := [(0, .iload_n 1, 0, 0, 0, 0), (1, .i2l, 0, 0, 0, 0), (2, .lconst 0, 0, 0, 0, 0), (3, .lconst 1, 0, 0, 0, 0), (4, .invokestatic 102, 118, 3, 7, 1), (7, .ifCond .ne 6, 0, 0, 0, 0),
  (10, .ldc 249, 0, 0, 0, -1000000001), (12, .ireturn, 0, 0, 0, 0), (13, .iconst 0, 0, 0, 0, 0), (14, .istore_n 2, 0, 0, 0, 0), (15, .iload_n 2, 0, 0, 0, 0), (16, .sipush 143, 0, 0, 0, 0),
  (19, .if_icmp .ge 27, 0, 0, 0, 0), (22, .aload_n 0, 0, 0, 0, 0), (23, .getfield 13, 7, 1, 0, 0), (26, .sipush 143, 0, 0, 0, 0), (29, .iload_n 1, 0, 0, 0, 0), (30, .imul, 0, 0, 0, 0),
  (31, .iload_n 2, 0, 0, 0, 0), (32, .iadd, 0, 0, 0, 0), (33, .aload_n 0, 0, 0, 0, 0), (34, .getfield 7, 7, 0, 0, 0), (37, .iload_n 2, 0, 0, 0, 0), (38, .iaload, 0, 0, 0, 0),
  (39, .iastore, 0, 0, 0, 0), (40, .iinc 2 1, 0, 0, 0, 0), (43, .goto (-28), 0, 0, 0, 0), (46, .aload_n 0, 0, 0, 0, 0), (47, .getfield 16, 7, 2, 0, 0), (50, .iload_n 1, 0, 0, 0, 0),
  (51, .iconst 1, 0, 0, 0, 0), (52, .bastore, 0, 0, 0, 0), (53, .iconst 1, 0, 0, 0, 0), (54, .ireturn, 0, 0, 0, 0)]
def tMo_keep : xTb := ((⟨"FirstFeltModel", "keep", "(I)I"⟩, prog_9_method_90_code, 3, (some .int)), (0, 0), "FirstFeltModel", false, iMo_keep)
def iMo_goBack : List (Nat × xE) := [(0, .iload_n 1, 0, 0, 0, 0), (1, .i2l, 0, 0, 0, 0), (2, .lconst 0, 0, 0, 0, 0), (3, .lconst 1, 0, 0, 0, 0), (4, .invokestatic 102, 118, 3, 7, 1), (7, .ifCond .ne 6, 0, 0, 0, 0),
  (10, .ldc 249, 0, 0, 0, -1000000001), (12, .ireturn, 0, 0, 0, 0), (13, .aload_n 0, 0, 0, 0, 0), (14, .getfield 16, 7, 2, 0, 0), (17, .iload_n 1, 0, 0, 0, 0), (18, .baload, 0, 0, 0, 0),
  (19, .ifCond .ne 7, 0, 0, 0, 0), (22, .ldc_w 275, 0, 0, 0, -1000000003), (25, .ireturn, 0, 0, 0, 0), (26, .iconst 0, 0, 0, 0, 0), (27, .istore_n 2, 0, 0, 0, 0), (28, .iload_n 2, 0, 0, 0, 0),
  (29, .sipush 143, 0, 0, 0, 0), (32, .if_icmp .ge 27, 0, 0, 0, 0), (35, .aload_n 0, 0, 0, 0, 0), (36, .getfield 7, 7, 0, 0, 0), (39, .iload_n 2, 0, 0, 0, 0), (40, .aload_n 0, 0, 0, 0, 0),
  (41, .getfield 13, 7, 1, 0, 0), (44, .sipush 143, 0, 0, 0, 0), (47, .iload_n 1, 0, 0, 0, 0), (48, .imul, 0, 0, 0, 0), (49, .iload_n 2, 0, 0, 0, 0), (50, .iadd, 0, 0, 0, 0),
  (51, .iaload, 0, 0, 0, 0), (52, .iastore, 0, 0, 0, 0), (53, .iinc 2 1, 0, 0, 0, 0), (56, .goto (-28), 0, 0, 0, 0), (59, .iconst 1, 0, 0, 0, 0), (60, .ireturn, 0, 0, 0, 0)]
def tMo_goBack : xTb := ((⟨"FirstFeltModel", "goBack", "(I)I"⟩, prog_9_method_91_code, 3, (some .int)), (0, 0), "FirstFeltModel", false, iMo_goBack)
def iJd_bitCount : List (Nat × xE) := [(0, .iload_n 0, 0, 0, 0, 0), (1, .iload_n 0, 0, 0, 0, 0), (2, .iconst 1, 0, 0, 0, 0), (3, .iushr, 0, 0, 0, 0), (4, .ldc_w 265, 0, 0, 0, 1431655765), (7, .iand, 0, 0, 0, 0),
  (8, .isub, 0, 0, 0, 0), (9, .istore_n 0, 0, 0, 0, 0), (10, .iload_n 0, 0, 0, 0, 0), (11, .ldc_w 266, 0, 0, 0, 858993459), (14, .iand, 0, 0, 0, 0), (15, .iload_n 0, 0, 0, 0, 0),
  (16, .iconst 2, 0, 0, 0, 0), (17, .iushr, 0, 0, 0, 0), (18, .ldc_w 266, 0, 0, 0, 858993459), (21, .iand, 0, 0, 0, 0), (22, .iadd, 0, 0, 0, 0), (23, .istore_n 0, 0, 0, 0, 0),
  (24, .iload_n 0, 0, 0, 0, 0), (25, .iload_n 0, 0, 0, 0, 0), (26, .iconst 4, 0, 0, 0, 0), (27, .iushr, 0, 0, 0, 0), (28, .iadd, 0, 0, 0, 0), (29, .ldc_w 267, 0, 0, 0, 252645135),
  (32, .iand, 0, 0, 0, 0), (33, .istore_n 0, 0, 0, 0, 0), (34, .iload_n 0, 0, 0, 0, 0), (35, .iload_n 0, 0, 0, 0, 0), (36, .bipush 8, 0, 0, 0, 0), (38, .iushr, 0, 0, 0, 0),
  (39, .iadd, 0, 0, 0, 0), (40, .istore_n 0, 0, 0, 0, 0), (41, .iload_n 0, 0, 0, 0, 0), (42, .iload_n 0, 0, 0, 0, 0), (43, .bipush 16, 0, 0, 0, 0), (45, .iushr, 0, 0, 0, 0),
  (46, .iadd, 0, 0, 0, 0), (47, .istore_n 0, 0, 0, 0, 0), (48, .iload_n 0, 0, 0, 0, 0), (49, .bipush 63, 0, 0, 0, 0), (51, .iand, 0, 0, 0, 0), (52, .ireturn, 0, 0, 0, 0)]
def tJd_bitCount : xTb := ((⟨"java/lang/Integer", "bitCount", "(I)I"⟩, prog_10_method_49_code, 1, (some .int)), (0, 0), "java/lang/Integer", false, iJd_bitCount)
def iJd_max : List (Nat × xE) := [(0, .iload_n 0, 0, 0, 0, 0), (1, .iload_n 1, 0, 0, 0, 0), (2, .if_icmp .lt 7, 0, 0, 0, 0), (5, .iload_n 0, 0, 0, 0, 0), (6, .goto 4, 0, 0, 0, 0), (9, .iload_n 1, 0, 0, 0, 0),
  (10, .ireturn, 0, 0, 0, 0)]
def tJd_max : xTb := ((⟨"java/lang/Math", "max", "(II)I"⟩, prog_11_method_65_code, 2, (some .int)), (0, 0), "java/lang/Math", false, iJd_max)
def iJd_min : List (Nat × xE) := [(0, .iload_n 0, 0, 0, 0, 0), (1, .iload_n 1, 0, 0, 0, 0), (2, .if_icmp .gt 7, 0, 0, 0, 0), (5, .iload_n 0, 0, 0, 0, 0), (6, .goto 4, 0, 0, 0, 0), (9, .iload_n 1, 0, 0, 0, 0),
  (10, .ireturn, 0, 0, 0, 0)]
def tJd_min : xTb := ((⟨"java/lang/Math", "min", "(II)I"⟩, prog_11_method_69_code, 2, (some .int)), (0, 0), "java/lang/Math", false, iJd_min)
def iJd_fill : List (Nat × xE) := [(0, .iconst 0, 0, 0, 0, 0), (1, .istore_n 2, 0, 0, 0, 0), (2, .aload_n 0, 0, 0, 0, 0), (3, .arraylength, 0, 0, 0, 0), (4, .istore_n 3, 0, 0, 0, 0), (5, .iload_n 2, 0, 0, 0, 0),
  (6, .iload_n 3, 0, 0, 0, 0), (7, .if_icmp .ge 13, 0, 0, 0, 0), (10, .aload_n 0, 0, 0, 0, 0), (11, .iload_n 2, 0, 0, 0, 0), (12, .iload_n 1, 0, 0, 0, 0), (13, .iastore, 0, 0, 0, 0),
  (14, .iinc 2 1, 0, 0, 0, 0), (17, .goto (-12), 0, 0, 0, 0), (20, .return_, 0, 0, 0, 0)]
def tJd_fill : xTb := ((⟨"java/util/Arrays", "fill", "([II)V"⟩, prog_13_method_103_code, 4, none), (0, 0), "java/util/Arrays", false, iJd_fill)
def iLw_law : List (Nat × xE) := [(0, .new 7, 6, 0, 0, 0), (3, .dup, 0, 0, 0, 0), (4, .invokespecial 9, 70, 1, 6, 2), (7, .astore_n 1, 0, 0, 0, 0), (8, .new 10, 7, 0, 0, 0), (11, .dup, 0, 0, 0, 0),
  (12, .invokespecial 12, 117, 1, 7, 2), (15, .astore_n 2, 0, 0, 0, 0), (16, .iconst 0, 0, 0, 0, 0), (17, .istore_n 3, 0, 0, 0, 0), (18, .iload_n 3, 0, 0, 0, 0), (19, .aload_n 0, 0, 0, 0, 0),
  (20, .arraylength, 0, 0, 0, 0), (21, .bipush 6, 0, 0, 0, 0), (23, .isub, 0, 0, 0, 0), (24, .if_icmp .gt 1170, 0, 0, 0, 0), (27, .aload_n 0, 0, 0, 0, 0), (28, .iload_n 3, 0, 0, 0, 0),
  (29, .iaload, 0, 0, 0, 0), (30, .bipush 31, 0, 0, 0, 0), (32, .iand, 0, 0, 0, 0), (33, .tableswitch 1155 0 31 #[143, 166, 179, 192, 215, 258, 301, 334, 367, 400, 469, 492, 525, 548, 571, 594, 617, 670, 713, 756, 799, 862, 885, 928, 941, 974, 997, 1040, 1073, 1086, 1109, 1132], 0, 0, 0, 0), (176, .aload_n 1, 0, 0, 0, 0), (177, .aload_n 0, 0, 0, 0, 0),
  (178, .iload_n 3, 0, 0, 0, 0), (179, .iconst 1, 0, 0, 0, 0), (180, .iadd, 0, 0, 0, 0), (181, .iaload, 0, 0, 0, 0), (182, .invokevirtual 13, 71, 2, 6, 1), (185, .aload_n 2, 0, 0, 0, 0),
  (186, .aload_n 0, 0, 0, 0, 0), (187, .iload_n 3, 0, 0, 0, 0), (188, .iconst 1, 0, 0, 0, 0), (189, .iadd, 0, 0, 0, 0), (190, .iaload, 0, 0, 0, 0), (191, .invokevirtual 17, 126, 2, 7, 1),
  (194, .if_icmp .eq 994, 0, 0, 0, 0), (197, .iconst 0, 0, 0, 0, 0), (198, .ireturn, 0, 0, 0, 0), (199, .aload_n 1, 0, 0, 0, 0), (200, .invokevirtual 18, 72, 1, 6, 1), (203, .aload_n 2, 0, 0, 0, 0),
  (204, .invokevirtual 22, 143, 1, 7, 1), (207, .if_icmp .eq 981, 0, 0, 0, 0), (210, .iconst 0, 0, 0, 0, 0), (211, .ireturn, 0, 0, 0, 0), (212, .aload_n 1, 0, 0, 0, 0), (213, .invokevirtual 23, 73, 1, 6, 1),
  (216, .aload_n 2, 0, 0, 0, 0), (217, .invokevirtual 26, 144, 1, 7, 1), (220, .if_icmp .eq 968, 0, 0, 0, 0), (223, .iconst 0, 0, 0, 0, 0), (224, .ireturn, 0, 0, 0, 0), (225, .aload_n 1, 0, 0, 0, 0),
  (226, .aload_n 0, 0, 0, 0, 0), (227, .iload_n 3, 0, 0, 0, 0), (228, .iconst 1, 0, 0, 0, 0), (229, .iadd, 0, 0, 0, 0), (230, .iaload, 0, 0, 0, 0), (231, .invokevirtual 27, 74, 2, 6, 1),
  (234, .aload_n 2, 0, 0, 0, 0), (235, .aload_n 0, 0, 0, 0, 0), (236, .iload_n 3, 0, 0, 0, 0), (237, .iconst 1, 0, 0, 0, 0), (238, .iadd, 0, 0, 0, 0), (239, .iaload, 0, 0, 0, 0),
  (240, .invokevirtual 30, 147, 2, 7, 1), (243, .if_icmp .eq 945, 0, 0, 0, 0), (246, .iconst 0, 0, 0, 0, 0), (247, .ireturn, 0, 0, 0, 0), (248, .aload_n 1, 0, 0, 0, 0), (249, .aload_n 0, 0, 0, 0, 0),
  (250, .iload_n 3, 0, 0, 0, 0), (251, .iconst 1, 0, 0, 0, 0), (252, .iadd, 0, 0, 0, 0), (253, .iaload, 0, 0, 0, 0), (254, .aload_n 0, 0, 0, 0, 0), (255, .iload_n 3, 0, 0, 0, 0),
  (256, .iconst 2, 0, 0, 0, 0), (257, .iadd, 0, 0, 0, 0), (258, .iaload, 0, 0, 0, 0), (259, .aload_n 0, 0, 0, 0, 0), (260, .iload_n 3, 0, 0, 0, 0), (261, .iconst 3, 0, 0, 0, 0),
  (262, .iadd, 0, 0, 0, 0), (263, .iaload, 0, 0, 0, 0), (264, .invokevirtual 31, 75, 4, 6, 1), (267, .aload_n 2, 0, 0, 0, 0), (268, .aload_n 0, 0, 0, 0, 0), (269, .iload_n 3, 0, 0, 0, 0),
  (270, .iconst 1, 0, 0, 0, 0), (271, .iadd, 0, 0, 0, 0), (272, .iaload, 0, 0, 0, 0), (273, .aload_n 0, 0, 0, 0, 0), (274, .iload_n 3, 0, 0, 0, 0), (275, .iconst 2, 0, 0, 0, 0),
  (276, .iadd, 0, 0, 0, 0), (277, .iaload, 0, 0, 0, 0), (278, .aload_n 0, 0, 0, 0, 0), (279, .iload_n 3, 0, 0, 0, 0), (280, .iconst 3, 0, 0, 0, 0), (281, .iadd, 0, 0, 0, 0),
  (282, .iaload, 0, 0, 0, 0), (283, .invokevirtual 35, 149, 4, 7, 1), (286, .if_icmp .eq 902, 0, 0, 0, 0), (289, .iconst 0, 0, 0, 0, 0), (290, .ireturn, 0, 0, 0, 0), (291, .aload_n 1, 0, 0, 0, 0),
  (292, .aload_n 0, 0, 0, 0, 0), (293, .iload_n 3, 0, 0, 0, 0), (294, .iconst 1, 0, 0, 0, 0), (295, .iadd, 0, 0, 0, 0), (296, .iaload, 0, 0, 0, 0), (297, .aload_n 0, 0, 0, 0, 0),
  (298, .iload_n 3, 0, 0, 0, 0), (299, .iconst 2, 0, 0, 0, 0), (300, .iadd, 0, 0, 0, 0), (301, .iaload, 0, 0, 0, 0), (302, .aload_n 0, 0, 0, 0, 0), (303, .iload_n 3, 0, 0, 0, 0),
  (304, .iconst 3, 0, 0, 0, 0), (305, .iadd, 0, 0, 0, 0), (306, .iaload, 0, 0, 0, 0), (307, .invokevirtual 36, 76, 4, 6, 1), (310, .aload_n 2, 0, 0, 0, 0), (311, .aload_n 0, 0, 0, 0, 0),
  (312, .iload_n 3, 0, 0, 0, 0), (313, .iconst 1, 0, 0, 0, 0), (314, .iadd, 0, 0, 0, 0), (315, .iaload, 0, 0, 0, 0), (316, .aload_n 0, 0, 0, 0, 0), (317, .iload_n 3, 0, 0, 0, 0),
  (318, .iconst 2, 0, 0, 0, 0), (319, .iadd, 0, 0, 0, 0), (320, .iaload, 0, 0, 0, 0), (321, .aload_n 0, 0, 0, 0, 0), (322, .iload_n 3, 0, 0, 0, 0), (323, .iconst 3, 0, 0, 0, 0),
  (324, .iadd, 0, 0, 0, 0), (325, .iaload, 0, 0, 0, 0), (326, .invokevirtual 39, 151, 4, 7, 1), (329, .if_icmp .eq 859, 0, 0, 0, 0), (332, .iconst 0, 0, 0, 0, 0), (333, .ireturn, 0, 0, 0, 0),
  (334, .aload_n 1, 0, 0, 0, 0), (335, .aload_n 0, 0, 0, 0, 0), (336, .iload_n 3, 0, 0, 0, 0), (337, .iconst 1, 0, 0, 0, 0), (338, .iadd, 0, 0, 0, 0), (339, .iaload, 0, 0, 0, 0),
  (340, .aload_n 0, 0, 0, 0, 0), (341, .iload_n 3, 0, 0, 0, 0), (342, .iconst 2, 0, 0, 0, 0), (343, .iadd, 0, 0, 0, 0), (344, .iaload, 0, 0, 0, 0), (345, .invokevirtual 40, 77, 3, 6, 1),
  (348, .aload_n 2, 0, 0, 0, 0), (349, .aload_n 0, 0, 0, 0, 0), (350, .iload_n 3, 0, 0, 0, 0), (351, .iconst 1, 0, 0, 0, 0), (352, .iadd, 0, 0, 0, 0), (353, .iaload, 0, 0, 0, 0),
  (354, .aload_n 0, 0, 0, 0, 0), (355, .iload_n 3, 0, 0, 0, 0), (356, .iconst 2, 0, 0, 0, 0), (357, .iadd, 0, 0, 0, 0), (358, .iaload, 0, 0, 0, 0), (359, .invokevirtual 44, 152, 3, 7, 1),
  (362, .if_icmp .eq 826, 0, 0, 0, 0), (365, .iconst 0, 0, 0, 0, 0), (366, .ireturn, 0, 0, 0, 0), (367, .aload_n 1, 0, 0, 0, 0), (368, .aload_n 0, 0, 0, 0, 0), (369, .iload_n 3, 0, 0, 0, 0),
  (370, .iconst 1, 0, 0, 0, 0), (371, .iadd, 0, 0, 0, 0), (372, .iaload, 0, 0, 0, 0), (373, .aload_n 0, 0, 0, 0, 0), (374, .iload_n 3, 0, 0, 0, 0), (375, .iconst 2, 0, 0, 0, 0),
  (376, .iadd, 0, 0, 0, 0), (377, .iaload, 0, 0, 0, 0), (378, .invokevirtual 45, 78, 3, 6, 1), (381, .aload_n 2, 0, 0, 0, 0), (382, .aload_n 0, 0, 0, 0, 0), (383, .iload_n 3, 0, 0, 0, 0),
  (384, .iconst 1, 0, 0, 0, 0), (385, .iadd, 0, 0, 0, 0), (386, .iaload, 0, 0, 0, 0), (387, .aload_n 0, 0, 0, 0, 0), (388, .iload_n 3, 0, 0, 0, 0), (389, .iconst 2, 0, 0, 0, 0),
  (390, .iadd, 0, 0, 0, 0), (391, .iaload, 0, 0, 0, 0), (392, .invokevirtual 48, 154, 3, 7, 1), (395, .if_icmp .eq 793, 0, 0, 0, 0), (398, .iconst 0, 0, 0, 0, 0), (399, .ireturn, 0, 0, 0, 0),
  (400, .aload_n 1, 0, 0, 0, 0), (401, .aload_n 0, 0, 0, 0, 0), (402, .iload_n 3, 0, 0, 0, 0), (403, .iconst 1, 0, 0, 0, 0), (404, .iadd, 0, 0, 0, 0), (405, .iaload, 0, 0, 0, 0),
  (406, .aload_n 0, 0, 0, 0, 0), (407, .iload_n 3, 0, 0, 0, 0), (408, .iconst 2, 0, 0, 0, 0), (409, .iadd, 0, 0, 0, 0), (410, .iaload, 0, 0, 0, 0), (411, .invokevirtual 49, 79, 3, 6, 1),
  (414, .aload_n 2, 0, 0, 0, 0), (415, .aload_n 0, 0, 0, 0, 0), (416, .iload_n 3, 0, 0, 0, 0), (417, .iconst 1, 0, 0, 0, 0), (418, .iadd, 0, 0, 0, 0), (419, .iaload, 0, 0, 0, 0),
  (420, .aload_n 0, 0, 0, 0, 0), (421, .iload_n 3, 0, 0, 0, 0), (422, .iconst 2, 0, 0, 0, 0), (423, .iadd, 0, 0, 0, 0), (424, .iaload, 0, 0, 0, 0), (425, .invokevirtual 52, 156, 3, 7, 1),
  (428, .if_icmp .eq 760, 0, 0, 0, 0), (431, .iconst 0, 0, 0, 0, 0), (432, .ireturn, 0, 0, 0, 0), (433, .aload_n 1, 0, 0, 0, 0), (434, .aload_n 0, 0, 0, 0, 0), (435, .iload_n 3, 0, 0, 0, 0),
  (436, .iconst 1, 0, 0, 0, 0), (437, .iadd, 0, 0, 0, 0), (438, .iaload, 0, 0, 0, 0), (439, .aload_n 0, 0, 0, 0, 0), (440, .iload_n 3, 0, 0, 0, 0), (441, .iconst 2, 0, 0, 0, 0),
  (442, .iadd, 0, 0, 0, 0), (443, .iaload, 0, 0, 0, 0), (444, .aload_n 0, 0, 0, 0, 0), (445, .iload_n 3, 0, 0, 0, 0), (446, .iconst 3, 0, 0, 0, 0), (447, .iadd, 0, 0, 0, 0),
  (448, .iaload, 0, 0, 0, 0), (449, .aload_n 0, 0, 0, 0, 0), (450, .iload_n 3, 0, 0, 0, 0), (451, .iconst 4, 0, 0, 0, 0), (452, .iadd, 0, 0, 0, 0), (453, .iaload, 0, 0, 0, 0),
  (454, .ifCond .eq 7, 0, 0, 0, 0), (457, .iconst 1, 0, 0, 0, 0), (458, .goto 4, 0, 0, 0, 0), (461, .iconst 0, 0, 0, 0, 0), (462, .invokevirtual 53, 80, 5, 6, 1), (465, .aload_n 2, 0, 0, 0, 0),
  (466, .aload_n 0, 0, 0, 0, 0), (467, .iload_n 3, 0, 0, 0, 0), (468, .iconst 1, 0, 0, 0, 0), (469, .iadd, 0, 0, 0, 0), (470, .iaload, 0, 0, 0, 0), (471, .aload_n 0, 0, 0, 0, 0),
  (472, .iload_n 3, 0, 0, 0, 0), (473, .iconst 2, 0, 0, 0, 0), (474, .iadd, 0, 0, 0, 0), (475, .iaload, 0, 0, 0, 0), (476, .aload_n 0, 0, 0, 0, 0), (477, .iload_n 3, 0, 0, 0, 0),
  (478, .iconst 3, 0, 0, 0, 0), (479, .iadd, 0, 0, 0, 0), (480, .iaload, 0, 0, 0, 0), (481, .aload_n 0, 0, 0, 0, 0), (482, .iload_n 3, 0, 0, 0, 0), (483, .iconst 4, 0, 0, 0, 0),
  (484, .iadd, 0, 0, 0, 0), (485, .iaload, 0, 0, 0, 0), (486, .ifCond .eq 7, 0, 0, 0, 0), (489, .iconst 1, 0, 0, 0, 0), (490, .goto 4, 0, 0, 0, 0), (493, .iconst 0, 0, 0, 0, 0),
  (494, .invokevirtual 57, 157, 5, 7, 1), (497, .if_icmp .eq 691, 0, 0, 0, 0), (500, .iconst 0, 0, 0, 0, 0), (501, .ireturn, 0, 0, 0, 0), (502, .aload_n 1, 0, 0, 0, 0), (503, .aload_n 0, 0, 0, 0, 0),
  (504, .iload_n 3, 0, 0, 0, 0), (505, .iconst 1, 0, 0, 0, 0), (506, .iadd, 0, 0, 0, 0), (507, .iaload, 0, 0, 0, 0), (508, .invokevirtual 58, 81, 2, 6, 1), (511, .aload_n 2, 0, 0, 0, 0),
  (512, .aload_n 0, 0, 0, 0, 0), (513, .iload_n 3, 0, 0, 0, 0), (514, .iconst 1, 0, 0, 0, 0), (515, .iadd, 0, 0, 0, 0), (516, .iaload, 0, 0, 0, 0), (517, .invokevirtual 61, 159, 2, 7, 1),
  (520, .if_icmp .eq 668, 0, 0, 0, 0), (523, .iconst 0, 0, 0, 0, 0), (524, .ireturn, 0, 0, 0, 0), (525, .aload_n 1, 0, 0, 0, 0), (526, .aload_n 0, 0, 0, 0, 0), (527, .iload_n 3, 0, 0, 0, 0),
  (528, .iconst 1, 0, 0, 0, 0), (529, .iadd, 0, 0, 0, 0), (530, .iaload, 0, 0, 0, 0), (531, .aload_n 0, 0, 0, 0, 0), (532, .iload_n 3, 0, 0, 0, 0), (533, .iconst 2, 0, 0, 0, 0),
  (534, .iadd, 0, 0, 0, 0), (535, .iaload, 0, 0, 0, 0), (536, .invokevirtual 62, 82, 3, 6, 1), (539, .aload_n 2, 0, 0, 0, 0), (540, .aload_n 0, 0, 0, 0, 0), (541, .iload_n 3, 0, 0, 0, 0),
  (542, .iconst 1, 0, 0, 0, 0), (543, .iadd, 0, 0, 0, 0), (544, .iaload, 0, 0, 0, 0), (545, .aload_n 0, 0, 0, 0, 0), (546, .iload_n 3, 0, 0, 0, 0), (547, .iconst 2, 0, 0, 0, 0),
  (548, .iadd, 0, 0, 0, 0), (549, .iaload, 0, 0, 0, 0), (550, .invokevirtual 65, 160, 3, 7, 1), (553, .if_icmp .eq 635, 0, 0, 0, 0), (556, .iconst 0, 0, 0, 0, 0), (557, .ireturn, 0, 0, 0, 0),
  (558, .aload_n 1, 0, 0, 0, 0), (559, .aload_n 0, 0, 0, 0, 0), (560, .iload_n 3, 0, 0, 0, 0), (561, .iconst 1, 0, 0, 0, 0), (562, .iadd, 0, 0, 0, 0), (563, .iaload, 0, 0, 0, 0),
  (564, .invokevirtual 66, 83, 2, 6, 1), (567, .aload_n 2, 0, 0, 0, 0), (568, .aload_n 0, 0, 0, 0, 0), (569, .iload_n 3, 0, 0, 0, 0), (570, .iconst 1, 0, 0, 0, 0), (571, .iadd, 0, 0, 0, 0),
  (572, .iaload, 0, 0, 0, 0), (573, .invokevirtual 69, 161, 2, 7, 1), (576, .if_icmp .eq 612, 0, 0, 0, 0), (579, .iconst 0, 0, 0, 0, 0), (580, .ireturn, 0, 0, 0, 0), (581, .aload_n 1, 0, 0, 0, 0),
  (582, .aload_n 0, 0, 0, 0, 0), (583, .iload_n 3, 0, 0, 0, 0), (584, .iconst 1, 0, 0, 0, 0), (585, .iadd, 0, 0, 0, 0), (586, .iaload, 0, 0, 0, 0), (587, .invokevirtual 70, 84, 2, 6, 1),
  (590, .aload_n 2, 0, 0, 0, 0), (591, .aload_n 0, 0, 0, 0, 0), (592, .iload_n 3, 0, 0, 0, 0), (593, .iconst 1, 0, 0, 0, 0), (594, .iadd, 0, 0, 0, 0), (595, .iaload, 0, 0, 0, 0),
  (596, .invokevirtual 73, 162, 2, 7, 1), (599, .if_icmp .eq 589, 0, 0, 0, 0), (602, .iconst 0, 0, 0, 0, 0), (603, .ireturn, 0, 0, 0, 0), (604, .aload_n 1, 0, 0, 0, 0), (605, .aload_n 0, 0, 0, 0, 0),
  (606, .iload_n 3, 0, 0, 0, 0), (607, .iconst 1, 0, 0, 0, 0), (608, .iadd, 0, 0, 0, 0), (609, .iaload, 0, 0, 0, 0), (610, .invokevirtual 74, 85, 2, 6, 1), (613, .aload_n 2, 0, 0, 0, 0),
  (614, .aload_n 0, 0, 0, 0, 0), (615, .iload_n 3, 0, 0, 0, 0), (616, .iconst 1, 0, 0, 0, 0), (617, .iadd, 0, 0, 0, 0), (618, .iaload, 0, 0, 0, 0), (619, .invokevirtual 77, 175, 2, 7, 1),
  (622, .if_icmp .eq 566, 0, 0, 0, 0), (625, .iconst 0, 0, 0, 0, 0), (626, .ireturn, 0, 0, 0, 0), (627, .aload_n 1, 0, 0, 0, 0), (628, .aload_n 0, 0, 0, 0, 0), (629, .iload_n 3, 0, 0, 0, 0),
  (630, .iconst 1, 0, 0, 0, 0), (631, .iadd, 0, 0, 0, 0), (632, .iaload, 0, 0, 0, 0), (633, .invokevirtual 78, 86, 2, 6, 1), (636, .aload_n 2, 0, 0, 0, 0), (637, .aload_n 0, 0, 0, 0, 0),
  (638, .iload_n 3, 0, 0, 0, 0), (639, .iconst 1, 0, 0, 0, 0), (640, .iadd, 0, 0, 0, 0), (641, .iaload, 0, 0, 0, 0), (642, .invokevirtual 81, 178, 2, 7, 1), (645, .if_icmp .eq 543, 0, 0, 0, 0),
  (648, .iconst 0, 0, 0, 0, 0), (649, .ireturn, 0, 0, 0, 0), (650, .aload_n 1, 0, 0, 0, 0), (651, .aload_n 0, 0, 0, 0, 0), (652, .iload_n 3, 0, 0, 0, 0), (653, .iconst 1, 0, 0, 0, 0),
  (654, .iadd, 0, 0, 0, 0), (655, .iaload, 0, 0, 0, 0), (656, .aload_n 0, 0, 0, 0, 0), (657, .iload_n 3, 0, 0, 0, 0), (658, .iconst 2, 0, 0, 0, 0), (659, .iadd, 0, 0, 0, 0),
  (660, .iaload, 0, 0, 0, 0), (661, .aload_n 0, 0, 0, 0, 0), (662, .iload_n 3, 0, 0, 0, 0), (663, .iconst 3, 0, 0, 0, 0), (664, .iadd, 0, 0, 0, 0), (665, .iaload, 0, 0, 0, 0),
  (666, .aload_n 0, 0, 0, 0, 0), (667, .iload_n 3, 0, 0, 0, 0), (668, .iconst 4, 0, 0, 0, 0), (669, .iadd, 0, 0, 0, 0), (670, .iaload, 0, 0, 0, 0), (671, .invokevirtual 82, 87, 5, 6, 1),
  (674, .aload_n 2, 0, 0, 0, 0), (675, .aload_n 0, 0, 0, 0, 0), (676, .iload_n 3, 0, 0, 0, 0), (677, .iconst 1, 0, 0, 0, 0), (678, .iadd, 0, 0, 0, 0), (679, .iaload, 0, 0, 0, 0),
  (680, .aload_n 0, 0, 0, 0, 0), (681, .iload_n 3, 0, 0, 0, 0), (682, .iconst 2, 0, 0, 0, 0), (683, .iadd, 0, 0, 0, 0), (684, .iaload, 0, 0, 0, 0), (685, .aload_n 0, 0, 0, 0, 0),
  (686, .iload_n 3, 0, 0, 0, 0), (687, .iconst 3, 0, 0, 0, 0), (688, .iadd, 0, 0, 0, 0), (689, .iaload, 0, 0, 0, 0), (690, .aload_n 0, 0, 0, 0, 0), (691, .iload_n 3, 0, 0, 0, 0),
  (692, .iconst 4, 0, 0, 0, 0), (693, .iadd, 0, 0, 0, 0), (694, .iaload, 0, 0, 0, 0), (695, .invokevirtual 86, 181, 5, 7, 1), (698, .if_icmp .eq 490, 0, 0, 0, 0), (701, .iconst 0, 0, 0, 0, 0),
  (702, .ireturn, 0, 0, 0, 0), (703, .aload_n 1, 0, 0, 0, 0), (704, .aload_n 0, 0, 0, 0, 0), (705, .iload_n 3, 0, 0, 0, 0), (706, .iconst 1, 0, 0, 0, 0), (707, .iadd, 0, 0, 0, 0),
  (708, .iaload, 0, 0, 0, 0), (709, .aload_n 0, 0, 0, 0, 0), (710, .iload_n 3, 0, 0, 0, 0), (711, .iconst 2, 0, 0, 0, 0), (712, .iadd, 0, 0, 0, 0), (713, .iaload, 0, 0, 0, 0),
  (714, .aload_n 0, 0, 0, 0, 0), (715, .iload_n 3, 0, 0, 0, 0), (716, .iconst 3, 0, 0, 0, 0), (717, .iadd, 0, 0, 0, 0), (718, .iaload, 0, 0, 0, 0), (719, .invokevirtual 87, 88, 4, 6, 1),
  (722, .aload_n 2, 0, 0, 0, 0), (723, .aload_n 0, 0, 0, 0, 0), (724, .iload_n 3, 0, 0, 0, 0), (725, .iconst 1, 0, 0, 0, 0), (726, .iadd, 0, 0, 0, 0), (727, .iaload, 0, 0, 0, 0),
  (728, .aload_n 0, 0, 0, 0, 0), (729, .iload_n 3, 0, 0, 0, 0), (730, .iconst 2, 0, 0, 0, 0), (731, .iadd, 0, 0, 0, 0), (732, .iaload, 0, 0, 0, 0), (733, .aload_n 0, 0, 0, 0, 0),
  (734, .iload_n 3, 0, 0, 0, 0), (735, .iconst 3, 0, 0, 0, 0), (736, .iadd, 0, 0, 0, 0), (737, .iaload, 0, 0, 0, 0), (738, .invokevirtual 90, 184, 4, 7, 1), (741, .if_icmp .eq 447, 0, 0, 0, 0),
  (744, .iconst 0, 0, 0, 0, 0), (745, .ireturn, 0, 0, 0, 0), (746, .aload_n 1, 0, 0, 0, 0), (747, .aload_n 0, 0, 0, 0, 0), (748, .iload_n 3, 0, 0, 0, 0), (749, .iconst 1, 0, 0, 0, 0),
  (750, .iadd, 0, 0, 0, 0), (751, .iaload, 0, 0, 0, 0), (752, .aload_n 0, 0, 0, 0, 0), (753, .iload_n 3, 0, 0, 0, 0), (754, .iconst 2, 0, 0, 0, 0), (755, .iadd, 0, 0, 0, 0),
  (756, .iaload, 0, 0, 0, 0), (757, .aload_n 0, 0, 0, 0, 0), (758, .iload_n 3, 0, 0, 0, 0), (759, .iconst 3, 0, 0, 0, 0), (760, .iadd, 0, 0, 0, 0), (761, .iaload, 0, 0, 0, 0),
  (762, .invokevirtual 91, 89, 4, 6, 1), (765, .aload_n 2, 0, 0, 0, 0), (766, .aload_n 0, 0, 0, 0, 0), (767, .iload_n 3, 0, 0, 0, 0), (768, .iconst 1, 0, 0, 0, 0), (769, .iadd, 0, 0, 0, 0),
  (770, .iaload, 0, 0, 0, 0), (771, .aload_n 0, 0, 0, 0, 0), (772, .iload_n 3, 0, 0, 0, 0), (773, .iconst 2, 0, 0, 0, 0), (774, .iadd, 0, 0, 0, 0), (775, .iaload, 0, 0, 0, 0),
  (776, .aload_n 0, 0, 0, 0, 0), (777, .iload_n 3, 0, 0, 0, 0), (778, .iconst 3, 0, 0, 0, 0), (779, .iadd, 0, 0, 0, 0), (780, .iaload, 0, 0, 0, 0), (781, .invokevirtual 94, 186, 4, 7, 1),
  (784, .if_icmp .eq 404, 0, 0, 0, 0), (787, .iconst 0, 0, 0, 0, 0), (788, .ireturn, 0, 0, 0, 0), (789, .aload_n 1, 0, 0, 0, 0), (790, .aload_n 0, 0, 0, 0, 0), (791, .iload_n 3, 0, 0, 0, 0),
  (792, .iconst 1, 0, 0, 0, 0), (793, .iadd, 0, 0, 0, 0), (794, .iaload, 0, 0, 0, 0), (795, .aload_n 0, 0, 0, 0, 0), (796, .iload_n 3, 0, 0, 0, 0), (797, .iconst 2, 0, 0, 0, 0),
  (798, .iadd, 0, 0, 0, 0), (799, .iaload, 0, 0, 0, 0), (800, .aload_n 0, 0, 0, 0, 0), (801, .iload_n 3, 0, 0, 0, 0), (802, .iconst 3, 0, 0, 0, 0), (803, .iadd, 0, 0, 0, 0),
  (804, .iaload, 0, 0, 0, 0), (805, .invokevirtual 95, 90, 4, 6, 1), (808, .aload_n 2, 0, 0, 0, 0), (809, .aload_n 0, 0, 0, 0, 0), (810, .iload_n 3, 0, 0, 0, 0), (811, .iconst 1, 0, 0, 0, 0),
  (812, .iadd, 0, 0, 0, 0), (813, .iaload, 0, 0, 0, 0), (814, .aload_n 0, 0, 0, 0, 0), (815, .iload_n 3, 0, 0, 0, 0), (816, .iconst 2, 0, 0, 0, 0), (817, .iadd, 0, 0, 0, 0),
  (818, .iaload, 0, 0, 0, 0), (819, .aload_n 0, 0, 0, 0, 0), (820, .iload_n 3, 0, 0, 0, 0), (821, .iconst 3, 0, 0, 0, 0), (822, .iadd, 0, 0, 0, 0), (823, .iaload, 0, 0, 0, 0),
  (824, .invokevirtual 98, 188, 4, 7, 1), (827, .if_icmp .eq 361, 0, 0, 0, 0), (830, .iconst 0, 0, 0, 0, 0), (831, .ireturn, 0, 0, 0, 0), (832, .aload_n 1, 0, 0, 0, 0), (833, .aload_n 0, 0, 0, 0, 0),
  (834, .iload_n 3, 0, 0, 0, 0), (835, .iconst 1, 0, 0, 0, 0), (836, .iadd, 0, 0, 0, 0), (837, .iaload, 0, 0, 0, 0), (838, .aload_n 0, 0, 0, 0, 0), (839, .iload_n 3, 0, 0, 0, 0),
  (840, .iconst 2, 0, 0, 0, 0), (841, .iadd, 0, 0, 0, 0), (842, .iaload, 0, 0, 0, 0), (843, .aload_n 0, 0, 0, 0, 0), (844, .iload_n 3, 0, 0, 0, 0), (845, .iconst 3, 0, 0, 0, 0),
  (846, .iadd, 0, 0, 0, 0), (847, .iaload, 0, 0, 0, 0), (848, .aload_n 0, 0, 0, 0, 0), (849, .iload_n 3, 0, 0, 0, 0), (850, .iconst 4, 0, 0, 0, 0), (851, .iadd, 0, 0, 0, 0),
  (852, .iaload, 0, 0, 0, 0), (853, .aload_n 0, 0, 0, 0, 0), (854, .iload_n 3, 0, 0, 0, 0), (855, .iconst 5, 0, 0, 0, 0), (856, .iadd, 0, 0, 0, 0), (857, .iaload, 0, 0, 0, 0),
  (858, .invokevirtual 99, 91, 6, 6, 1), (861, .aload_n 2, 0, 0, 0, 0), (862, .aload_n 0, 0, 0, 0, 0), (863, .iload_n 3, 0, 0, 0, 0), (864, .iconst 1, 0, 0, 0, 0), (865, .iadd, 0, 0, 0, 0),
  (866, .iaload, 0, 0, 0, 0), (867, .aload_n 0, 0, 0, 0, 0), (868, .iload_n 3, 0, 0, 0, 0), (869, .iconst 2, 0, 0, 0, 0), (870, .iadd, 0, 0, 0, 0), (871, .iaload, 0, 0, 0, 0),
  (872, .aload_n 0, 0, 0, 0, 0), (873, .iload_n 3, 0, 0, 0, 0), (874, .iconst 3, 0, 0, 0, 0), (875, .iadd, 0, 0, 0, 0), (876, .iaload, 0, 0, 0, 0), (877, .aload_n 0, 0, 0, 0, 0),
  (878, .iload_n 3, 0, 0, 0, 0), (879, .iconst 4, 0, 0, 0, 0), (880, .iadd, 0, 0, 0, 0), (881, .iaload, 0, 0, 0, 0), (882, .aload_n 0, 0, 0, 0, 0), (883, .iload_n 3, 0, 0, 0, 0),
  (884, .iconst 5, 0, 0, 0, 0), (885, .iadd, 0, 0, 0, 0), (886, .iaload, 0, 0, 0, 0), (887, .invokevirtual 103, 189, 6, 7, 1), (890, .if_icmp .eq 298, 0, 0, 0, 0), (893, .iconst 0, 0, 0, 0, 0),
  (894, .ireturn, 0, 0, 0, 0), (895, .aload_n 1, 0, 0, 0, 0), (896, .aload_n 0, 0, 0, 0, 0), (897, .iload_n 3, 0, 0, 0, 0), (898, .iconst 1, 0, 0, 0, 0), (899, .iadd, 0, 0, 0, 0),
  (900, .iaload, 0, 0, 0, 0), (901, .invokevirtual 104, 92, 2, 6, 1), (904, .aload_n 2, 0, 0, 0, 0), (905, .aload_n 0, 0, 0, 0, 0), (906, .iload_n 3, 0, 0, 0, 0), (907, .iconst 1, 0, 0, 0, 0),
  (908, .iadd, 0, 0, 0, 0), (909, .iaload, 0, 0, 0, 0), (910, .invokevirtual 107, 193, 2, 7, 1), (913, .if_icmp .eq 275, 0, 0, 0, 0), (916, .iconst 0, 0, 0, 0, 0), (917, .ireturn, 0, 0, 0, 0),
  (918, .aload_n 1, 0, 0, 0, 0), (919, .aload_n 0, 0, 0, 0, 0), (920, .iload_n 3, 0, 0, 0, 0), (921, .iconst 1, 0, 0, 0, 0), (922, .iadd, 0, 0, 0, 0), (923, .iaload, 0, 0, 0, 0),
  (924, .aload_n 0, 0, 0, 0, 0), (925, .iload_n 3, 0, 0, 0, 0), (926, .iconst 2, 0, 0, 0, 0), (927, .iadd, 0, 0, 0, 0), (928, .iaload, 0, 0, 0, 0), (929, .aload_n 0, 0, 0, 0, 0),
  (930, .iload_n 3, 0, 0, 0, 0), (931, .iconst 3, 0, 0, 0, 0), (932, .iadd, 0, 0, 0, 0), (933, .iaload, 0, 0, 0, 0), (934, .invokevirtual 108, 93, 4, 6, 1), (937, .aload_n 2, 0, 0, 0, 0),
  (938, .aload_n 0, 0, 0, 0, 0), (939, .iload_n 3, 0, 0, 0, 0), (940, .iconst 1, 0, 0, 0, 0), (941, .iadd, 0, 0, 0, 0), (942, .iaload, 0, 0, 0, 0), (943, .aload_n 0, 0, 0, 0, 0),
  (944, .iload_n 3, 0, 0, 0, 0), (945, .iconst 2, 0, 0, 0, 0), (946, .iadd, 0, 0, 0, 0), (947, .iaload, 0, 0, 0, 0), (948, .aload_n 0, 0, 0, 0, 0), (949, .iload_n 3, 0, 0, 0, 0),
  (950, .iconst 3, 0, 0, 0, 0), (951, .iadd, 0, 0, 0, 0), (952, .iaload, 0, 0, 0, 0), (953, .invokevirtual 111, 194, 4, 7, 1), (956, .if_icmp .eq 232, 0, 0, 0, 0), (959, .iconst 0, 0, 0, 0, 0),
  (960, .ireturn, 0, 0, 0, 0), (961, .aload_n 1, 0, 0, 0, 0), (962, .invokevirtual 112, 94, 1, 6, 1), (965, .aload_n 2, 0, 0, 0, 0), (966, .invokevirtual 115, 195, 1, 7, 1), (969, .if_icmp .eq 219, 0, 0, 0, 0),
  (972, .iconst 0, 0, 0, 0, 0), (973, .ireturn, 0, 0, 0, 0), (974, .aload_n 1, 0, 0, 0, 0), (975, .aload_n 0, 0, 0, 0, 0), (976, .iload_n 3, 0, 0, 0, 0), (977, .iconst 1, 0, 0, 0, 0),
  (978, .iadd, 0, 0, 0, 0), (979, .iaload, 0, 0, 0, 0), (980, .aload_n 0, 0, 0, 0, 0), (981, .iload_n 3, 0, 0, 0, 0), (982, .iconst 2, 0, 0, 0, 0), (983, .iadd, 0, 0, 0, 0),
  (984, .iaload, 0, 0, 0, 0), (985, .invokevirtual 116, 95, 3, 6, 1), (988, .aload_n 2, 0, 0, 0, 0), (989, .aload_n 0, 0, 0, 0, 0), (990, .iload_n 3, 0, 0, 0, 0), (991, .iconst 1, 0, 0, 0, 0),
  (992, .iadd, 0, 0, 0, 0), (993, .iaload, 0, 0, 0, 0), (994, .aload_n 0, 0, 0, 0, 0), (995, .iload_n 3, 0, 0, 0, 0), (996, .iconst 2, 0, 0, 0, 0), (997, .iadd, 0, 0, 0, 0),
  (998, .iaload, 0, 0, 0, 0), (999, .invokevirtual 119, 198, 3, 7, 1), (1002, .if_icmp .eq 186, 0, 0, 0, 0), (1005, .iconst 0, 0, 0, 0, 0), (1006, .ireturn, 0, 0, 0, 0), (1007, .aload_n 1, 0, 0, 0, 0),
  (1008, .aload_n 0, 0, 0, 0, 0), (1009, .iload_n 3, 0, 0, 0, 0), (1010, .iconst 1, 0, 0, 0, 0), (1011, .iadd, 0, 0, 0, 0), (1012, .iaload, 0, 0, 0, 0), (1013, .invokevirtual 120, 96, 2, 6, 1),
  (1016, .aload_n 2, 0, 0, 0, 0), (1017, .aload_n 0, 0, 0, 0, 0), (1018, .iload_n 3, 0, 0, 0, 0), (1019, .iconst 1, 0, 0, 0, 0), (1020, .iadd, 0, 0, 0, 0), (1021, .iaload, 0, 0, 0, 0),
  (1022, .invokevirtual 123, 199, 2, 7, 1), (1025, .if_icmp .eq 163, 0, 0, 0, 0), (1028, .iconst 0, 0, 0, 0, 0), (1029, .ireturn, 0, 0, 0, 0), (1030, .aload_n 1, 0, 0, 0, 0), (1031, .aload_n 0, 0, 0, 0, 0),
  (1032, .iload_n 3, 0, 0, 0, 0), (1033, .iconst 1, 0, 0, 0, 0), (1034, .iadd, 0, 0, 0, 0), (1035, .iaload, 0, 0, 0, 0), (1036, .aload_n 0, 0, 0, 0, 0), (1037, .iload_n 3, 0, 0, 0, 0),
  (1038, .iconst 2, 0, 0, 0, 0), (1039, .iadd, 0, 0, 0, 0), (1040, .iaload, 0, 0, 0, 0), (1041, .aload_n 0, 0, 0, 0, 0), (1042, .iload_n 3, 0, 0, 0, 0), (1043, .iconst 3, 0, 0, 0, 0),
  (1044, .iadd, 0, 0, 0, 0), (1045, .iaload, 0, 0, 0, 0), (1046, .invokevirtual 124, 97, 4, 6, 1), (1049, .aload_n 2, 0, 0, 0, 0), (1050, .aload_n 0, 0, 0, 0, 0), (1051, .iload_n 3, 0, 0, 0, 0),
  (1052, .iconst 1, 0, 0, 0, 0), (1053, .iadd, 0, 0, 0, 0), (1054, .iaload, 0, 0, 0, 0), (1055, .aload_n 0, 0, 0, 0, 0), (1056, .iload_n 3, 0, 0, 0, 0), (1057, .iconst 2, 0, 0, 0, 0),
  (1058, .iadd, 0, 0, 0, 0), (1059, .iaload, 0, 0, 0, 0), (1060, .aload_n 0, 0, 0, 0, 0), (1061, .iload_n 3, 0, 0, 0, 0), (1062, .iconst 3, 0, 0, 0, 0), (1063, .iadd, 0, 0, 0, 0),
  (1064, .iaload, 0, 0, 0, 0), (1065, .invokevirtual 127, 200, 4, 7, 1), (1068, .if_icmp .eq 120, 0, 0, 0, 0), (1071, .iconst 0, 0, 0, 0, 0), (1072, .ireturn, 0, 0, 0, 0), (1073, .aload_n 1, 0, 0, 0, 0),
  (1074, .aload_n 0, 0, 0, 0, 0), (1075, .iload_n 3, 0, 0, 0, 0), (1076, .iconst 1, 0, 0, 0, 0), (1077, .iadd, 0, 0, 0, 0), (1078, .iaload, 0, 0, 0, 0), (1079, .aload_n 0, 0, 0, 0, 0),
  (1080, .iload_n 3, 0, 0, 0, 0), (1081, .iconst 2, 0, 0, 0, 0), (1082, .iadd, 0, 0, 0, 0), (1083, .iaload, 0, 0, 0, 0), (1084, .invokevirtual 128, 98, 3, 6, 1), (1087, .aload_n 2, 0, 0, 0, 0),
  (1088, .aload_n 0, 0, 0, 0, 0), (1089, .iload_n 3, 0, 0, 0, 0), (1090, .iconst 1, 0, 0, 0, 0), (1091, .iadd, 0, 0, 0, 0), (1092, .iaload, 0, 0, 0, 0), (1093, .aload_n 0, 0, 0, 0, 0),
  (1094, .iload_n 3, 0, 0, 0, 0), (1095, .iconst 2, 0, 0, 0, 0), (1096, .iadd, 0, 0, 0, 0), (1097, .iaload, 0, 0, 0, 0), (1098, .invokevirtual 131, 202, 3, 7, 1), (1101, .if_icmp .eq 87, 0, 0, 0, 0),
  (1104, .iconst 0, 0, 0, 0, 0), (1105, .ireturn, 0, 0, 0, 0), (1106, .aload_n 1, 0, 0, 0, 0), (1107, .invokevirtual 132, 99, 1, 6, 1), (1110, .aload_n 2, 0, 0, 0, 0), (1111, .invokevirtual 135, 203, 1, 7, 1),
  (1114, .if_icmp .eq 74, 0, 0, 0, 0), (1117, .iconst 0, 0, 0, 0, 0), (1118, .ireturn, 0, 0, 0, 0), (1119, .aload_n 1, 0, 0, 0, 0), (1120, .aload_n 0, 0, 0, 0, 0), (1121, .iload_n 3, 0, 0, 0, 0),
  (1122, .iconst 1, 0, 0, 0, 0), (1123, .iadd, 0, 0, 0, 0), (1124, .iaload, 0, 0, 0, 0), (1125, .invokevirtual 136, 100, 2, 6, 1), (1128, .aload_n 2, 0, 0, 0, 0), (1129, .aload_n 0, 0, 0, 0, 0),
  (1130, .iload_n 3, 0, 0, 0, 0), (1131, .iconst 1, 0, 0, 0, 0), (1132, .iadd, 0, 0, 0, 0), (1133, .iaload, 0, 0, 0, 0), (1134, .invokevirtual 139, 204, 2, 7, 1), (1137, .if_icmp .eq 51, 0, 0, 0, 0),
  (1140, .iconst 0, 0, 0, 0, 0), (1141, .ireturn, 0, 0, 0, 0), (1142, .aload_n 1, 0, 0, 0, 0), (1143, .aload_n 0, 0, 0, 0, 0), (1144, .iload_n 3, 0, 0, 0, 0), (1145, .iconst 1, 0, 0, 0, 0),
  (1146, .iadd, 0, 0, 0, 0), (1147, .iaload, 0, 0, 0, 0), (1148, .invokevirtual 140, 101, 2, 6, 1), (1151, .aload_n 2, 0, 0, 0, 0), (1152, .aload_n 0, 0, 0, 0, 0), (1153, .iload_n 3, 0, 0, 0, 0),
  (1154, .iconst 1, 0, 0, 0, 0), (1155, .iadd, 0, 0, 0, 0), (1156, .iaload, 0, 0, 0, 0), (1157, .invokevirtual 143, 205, 2, 7, 1), (1160, .if_icmp .eq 28, 0, 0, 0, 0), (1163, .iconst 0, 0, 0, 0, 0),
  (1164, .ireturn, 0, 0, 0, 0), (1165, .aload_n 1, 0, 0, 0, 0), (1166, .aload_n 0, 0, 0, 0, 0), (1167, .iload_n 3, 0, 0, 0, 0), (1168, .iconst 1, 0, 0, 0, 0), (1169, .iadd, 0, 0, 0, 0),
  (1170, .iaload, 0, 0, 0, 0), (1171, .invokevirtual 144, 102, 2, 6, 1), (1174, .aload_n 2, 0, 0, 0, 0), (1175, .aload_n 0, 0, 0, 0, 0), (1176, .iload_n 3, 0, 0, 0, 0), (1177, .iconst 1, 0, 0, 0, 0),
  (1178, .iadd, 0, 0, 0, 0), (1179, .iaload, 0, 0, 0, 0), (1180, .invokevirtual 147, 206, 2, 7, 1), (1183, .if_icmp .eq 5, 0, 0, 0, 0), (1186, .iconst 0, 0, 0, 0, 0), (1187, .ireturn, 0, 0, 0, 0),
  (1188, .iinc 3 6, 0, 0, 0, 0), (1191, .goto (-1173), 0, 0, 0, 0), (1194, .iconst 1, 0, 0, 0, 0), (1195, .ireturn, 0, 0, 0, 0)]
def tLw_law : xTb := ((⟨"FirstFeltLaw", "law", "([I)Z"⟩, code, 4, (some .boolean)), (0, 0), "FirstFeltLaw", true, iLw_law)
def xMks : List (Nat × Nat × Nat) := [(0, 1, 6), (6, 3, 36), (7, 3, 24), (12, 1, 260), (29, 12, 138), (61, 7, 148), (58, 81, 952), (70, 190, 2565), (117, 25, 1092)]
def xMT : List xTb := [tMk_init, tMk_settle, tMk_askAnew, tMk_bestRent, tMk_countLet, tMk_isUndercut, tPp_init, tPp_init8, tPp_write, tPp_latest, tPp_notFeltAt, tPp_ownedAt, tRd_init, tRd_take, tRd_read, tRd_readClause, tRd_startClause, tRd_readTown, tRd_readWall, tRd_readStove, tRd_hasStove, tRd_readRoof, tRd_readSun, tRd_readPerson, tRd_readCell, tRd_readNumber, tRd_endClause, tRd_skipBlanks, tRd_fail, tSt_init, tSt_clear, tSt_copyFrom, tSt_setWall, tSt_wallOf, tSt_countWalls, tSt_reach, tSt_peopleOn, tSt_countOwned, tSt_canBeLit, tSt_feels, tSt_draw, tSt_passMinutes, tSt_passMinute, tSt_flow, tSt_flowBetween, tSt_addWarmth, tSt_coolDown, tSt_feel, tSt_takeCells, tSt_coldestFeeling, tSt_keepLaw, tSt_endOwning, tSt_makePartners, tSt_isDear, tSt_oweForWarmth, tSt_warmSkins, tSt_leaveDearCells, tSt_refuge, tTo_init, tTo_begin, tTo_finish, tTw_init, tTw_clear, tTw_setSize, tTw_cells, tTw_cellAt, tTw_cellOfPair, tTw_pairOf, tTw_beside, tTw_sunAt, tFf_init, tFf_feed, tFf_town, tFf_fault, tFf_told, tFf_cell, tFf_wall, tFf_stove, tFf_person, tFf_go, tFf_build, tFf_light, tFf_stoke, tFf_law, tFf_last, tFf_minute, tFf_drift, tFf_then, tFf_stands, tFf_lightFor, tFf_keptOut, tFf_gain, tFf_rents, tFf_claim, tFf_forged, tFf_cold, tFf_mildest, tFf_deed, tFf_wasLit, tFf_tear, tFf_seed, tFf_keep, tFf_goBack, tFf_isPerson, tFf_isStove, tFf_isLaw, tFf_isSpan, tFf_refusalOfWall, tFf_refusalOfMinutes, tFf_refusalOfLighting, tFf_wayOfWall, tFf_wander, tFf_ownsStove, tFf_ownedWithWall, tFf_countFreezing, tFf_fitsLitNow, tFf_tryWays, tMo_init, tMo_in, tMo_emptyNow, tMo_cells, tMo_isCell, tMo_isPerson, tMo_isStove, tMo_named, tMo_cellOf, tMo_feed, tMo_isFigure, tMo_look, tMo_goOn, tMo_faults, tMo_takes, tMo_stops, tMo_takesX, tMo_seesY, tMo_readsTown, tMo_readsWall, tMo_readsStove, tMo_readsRoof, tMo_readsSun, tMo_readsPerson, tMo_readsClause, tMo_readsAll, tMo_town, tMo_fault, tMo_wallsNow, tMo_sunAt, tMo_told, tMo_onCell, tMo_cell, tMo_notWall, tMo_wall, tMo_stove, tMo_owns, tMo_person, tMo_way, tMo_go, tMo_build, tMo_canBeLit, tMo_light, tMo_stoke, tMo_law, tMo_last, tMo_flows, tMo_goHeat, tMo_feel, tMo_feelsOn, tMo_own, tMo_goLaw, tMo_arePartners, tMo_isOwedFor, tMo_owe, tMo_goMinute, tMo_goMinutes, tMo_notMinutes, tMo_minute, tMo_draw, tMo_driftOne, tMo_drift, tMo_start, tMo_back, tMo_then, tMo_power, tMo_ownsBy, tMo_stands, tMo_notStove, tMo_lightFor, tMo_ownsWithout, tMo_keptOut, tMo_gain, tMo_isLet, tMo_brings, tMo_bestRent, tMo_rents, tMo_claim, tMo_forged, tMo_leaveWarm, tMo_coldBy, tMo_cold, tMo_mildest, tMo_deed, tMo_areDeeds, tMo_wasLit, tMo_tear, tMo_seed, tMo_keep, tMo_goBack, tJd_bitCount, tJd_max, tJd_min, tJd_fill, tLw_law]
abbrev nMk_init : Nat := 0
abbrev nMk_settle : Nat := 1
abbrev nMk_askAnew : Nat := 2
abbrev nMk_bestRent : Nat := 3
abbrev nMk_countLet : Nat := 4
abbrev nMk_isUndercut : Nat := 5
abbrev nPp_init : Nat := 6
abbrev nPp_init8 : Nat := 7
abbrev nPp_write : Nat := 8
abbrev nPp_latest : Nat := 9
abbrev nPp_notFeltAt : Nat := 10
abbrev nPp_ownedAt : Nat := 11
abbrev nRd_init : Nat := 12
abbrev nRd_take : Nat := 13
abbrev nRd_read : Nat := 14
abbrev nRd_readClause : Nat := 15
abbrev nRd_startClause : Nat := 16
abbrev nRd_readTown : Nat := 17
abbrev nRd_readWall : Nat := 18
abbrev nRd_readStove : Nat := 19
abbrev nRd_hasStove : Nat := 20
abbrev nRd_readRoof : Nat := 21
abbrev nRd_readSun : Nat := 22
abbrev nRd_readPerson : Nat := 23
abbrev nRd_readCell : Nat := 24
abbrev nRd_readNumber : Nat := 25
abbrev nRd_endClause : Nat := 26
abbrev nRd_skipBlanks : Nat := 27
abbrev nRd_fail : Nat := 28
abbrev nSt_init : Nat := 29
abbrev nSt_clear : Nat := 30
abbrev nSt_copyFrom : Nat := 31
abbrev nSt_setWall : Nat := 32
abbrev nSt_wallOf : Nat := 33
abbrev nSt_countWalls : Nat := 34
abbrev nSt_reach : Nat := 35
abbrev nSt_peopleOn : Nat := 36
abbrev nSt_countOwned : Nat := 37
abbrev nSt_canBeLit : Nat := 38
abbrev nSt_feels : Nat := 39
abbrev nSt_draw : Nat := 40
abbrev nSt_passMinutes : Nat := 41
abbrev nSt_passMinute : Nat := 42
abbrev nSt_flow : Nat := 43
abbrev nSt_flowBetween : Nat := 44
abbrev nSt_addWarmth : Nat := 45
abbrev nSt_coolDown : Nat := 46
abbrev nSt_feel : Nat := 47
abbrev nSt_takeCells : Nat := 48
abbrev nSt_coldestFeeling : Nat := 49
abbrev nSt_keepLaw : Nat := 50
abbrev nSt_endOwning : Nat := 51
abbrev nSt_makePartners : Nat := 52
abbrev nSt_isDear : Nat := 53
abbrev nSt_oweForWarmth : Nat := 54
abbrev nSt_warmSkins : Nat := 55
abbrev nSt_leaveDearCells : Nat := 56
abbrev nSt_refuge : Nat := 57
abbrev nTo_init : Nat := 58
abbrev nTo_begin : Nat := 59
abbrev nTo_finish : Nat := 60
abbrev nTw_init : Nat := 61
abbrev nTw_clear : Nat := 62
abbrev nTw_setSize : Nat := 63
abbrev nTw_cells : Nat := 64
abbrev nTw_cellAt : Nat := 65
abbrev nTw_cellOfPair : Nat := 66
abbrev nTw_pairOf : Nat := 67
abbrev nTw_beside : Nat := 68
abbrev nTw_sunAt : Nat := 69
abbrev nFf_init : Nat := 70
abbrev nFf_feed : Nat := 71
abbrev nFf_town : Nat := 72
abbrev nFf_fault : Nat := 73
abbrev nFf_told : Nat := 74
abbrev nFf_cell : Nat := 75
abbrev nFf_wall : Nat := 76
abbrev nFf_stove : Nat := 77
abbrev nFf_person : Nat := 78
abbrev nFf_go : Nat := 79
abbrev nFf_build : Nat := 80
abbrev nFf_light : Nat := 81
abbrev nFf_stoke : Nat := 82
abbrev nFf_law : Nat := 83
abbrev nFf_last : Nat := 84
abbrev nFf_minute : Nat := 85
abbrev nFf_drift : Nat := 86
abbrev nFf_then : Nat := 87
abbrev nFf_stands : Nat := 88
abbrev nFf_lightFor : Nat := 89
abbrev nFf_keptOut : Nat := 90
abbrev nFf_gain : Nat := 91
abbrev nFf_rents : Nat := 92
abbrev nFf_claim : Nat := 93
abbrev nFf_forged : Nat := 94
abbrev nFf_cold : Nat := 95
abbrev nFf_mildest : Nat := 96
abbrev nFf_deed : Nat := 97
abbrev nFf_wasLit : Nat := 98
abbrev nFf_tear : Nat := 99
abbrev nFf_seed : Nat := 100
abbrev nFf_keep : Nat := 101
abbrev nFf_goBack : Nat := 102
abbrev nFf_isPerson : Nat := 103
abbrev nFf_isStove : Nat := 104
abbrev nFf_isLaw : Nat := 105
abbrev nFf_isSpan : Nat := 106
abbrev nFf_refusalOfWall : Nat := 107
abbrev nFf_refusalOfMinutes : Nat := 108
abbrev nFf_refusalOfLighting : Nat := 109
abbrev nFf_wayOfWall : Nat := 110
abbrev nFf_wander : Nat := 111
abbrev nFf_ownsStove : Nat := 112
abbrev nFf_ownedWithWall : Nat := 113
abbrev nFf_countFreezing : Nat := 114
abbrev nFf_fitsLitNow : Nat := 115
abbrev nFf_tryWays : Nat := 116
abbrev nMo_init : Nat := 117
abbrev nMo_in : Nat := 118
abbrev nMo_emptyNow : Nat := 119
abbrev nMo_cells : Nat := 120
abbrev nMo_isCell : Nat := 121
abbrev nMo_isPerson : Nat := 122
abbrev nMo_isStove : Nat := 123
abbrev nMo_named : Nat := 124
abbrev nMo_cellOf : Nat := 125
abbrev nMo_feed : Nat := 126
abbrev nMo_isFigure : Nat := 127
abbrev nMo_look : Nat := 128
abbrev nMo_goOn : Nat := 129
abbrev nMo_faults : Nat := 130
abbrev nMo_takes : Nat := 131
abbrev nMo_stops : Nat := 132
abbrev nMo_takesX : Nat := 133
abbrev nMo_seesY : Nat := 134
abbrev nMo_readsTown : Nat := 135
abbrev nMo_readsWall : Nat := 136
abbrev nMo_readsStove : Nat := 137
abbrev nMo_readsRoof : Nat := 138
abbrev nMo_readsSun : Nat := 139
abbrev nMo_readsPerson : Nat := 140
abbrev nMo_readsClause : Nat := 141
abbrev nMo_readsAll : Nat := 142
abbrev nMo_town : Nat := 143
abbrev nMo_fault : Nat := 144
abbrev nMo_wallsNow : Nat := 145
abbrev nMo_sunAt : Nat := 146
abbrev nMo_told : Nat := 147
abbrev nMo_onCell : Nat := 148
abbrev nMo_cell : Nat := 149
abbrev nMo_notWall : Nat := 150
abbrev nMo_wall : Nat := 151
abbrev nMo_stove : Nat := 152
abbrev nMo_owns : Nat := 153
abbrev nMo_person : Nat := 154
abbrev nMo_way : Nat := 155
abbrev nMo_go : Nat := 156
abbrev nMo_build : Nat := 157
abbrev nMo_canBeLit : Nat := 158
abbrev nMo_light : Nat := 159
abbrev nMo_stoke : Nat := 160
abbrev nMo_law : Nat := 161
abbrev nMo_last : Nat := 162
abbrev nMo_flows : Nat := 163
abbrev nMo_goHeat : Nat := 164
abbrev nMo_feel : Nat := 165
abbrev nMo_feelsOn : Nat := 166
abbrev nMo_own : Nat := 167
abbrev nMo_goLaw : Nat := 168
abbrev nMo_arePartners : Nat := 169
abbrev nMo_isOwedFor : Nat := 170
abbrev nMo_owe : Nat := 171
abbrev nMo_goMinute : Nat := 172
abbrev nMo_goMinutes : Nat := 173
abbrev nMo_notMinutes : Nat := 174
abbrev nMo_minute : Nat := 175
abbrev nMo_draw : Nat := 176
abbrev nMo_driftOne : Nat := 177
abbrev nMo_drift : Nat := 178
abbrev nMo_start : Nat := 179
abbrev nMo_back : Nat := 180
abbrev nMo_then : Nat := 181
abbrev nMo_power : Nat := 182
abbrev nMo_ownsBy : Nat := 183
abbrev nMo_stands : Nat := 184
abbrev nMo_notStove : Nat := 185
abbrev nMo_lightFor : Nat := 186
abbrev nMo_ownsWithout : Nat := 187
abbrev nMo_keptOut : Nat := 188
abbrev nMo_gain : Nat := 189
abbrev nMo_isLet : Nat := 190
abbrev nMo_brings : Nat := 191
abbrev nMo_bestRent : Nat := 192
abbrev nMo_rents : Nat := 193
abbrev nMo_claim : Nat := 194
abbrev nMo_forged : Nat := 195
abbrev nMo_leaveWarm : Nat := 196
abbrev nMo_coldBy : Nat := 197
abbrev nMo_cold : Nat := 198
abbrev nMo_mildest : Nat := 199
abbrev nMo_deed : Nat := 200
abbrev nMo_areDeeds : Nat := 201
abbrev nMo_wasLit : Nat := 202
abbrev nMo_tear : Nat := 203
abbrev nMo_seed : Nat := 204
abbrev nMo_keep : Nat := 205
abbrev nMo_goBack : Nat := 206
abbrev nJd_bitCount : Nat := 207
abbrev nJd_max : Nat := 208
abbrev nJd_min : Nat := 209
abbrev nJd_fill : Nat := 210
abbrev nLw_law : Nat := 211
abbrev cal (d : Nat) : xC := xcall xMks xMT d
theorem cal_m (d : Nat) : xCm (cal d) := xcall_m xMT d
end
section
theorem xQof {g : xG} {Q : xQ} : ∀ (r : Option xV) (g2 : xG) (w2 : xW), g2.1 = g.1 → Q r g2 w2 → (xchk (0, 0) g g2 ∧ Q r g2 w2) := fun _ _ _ h q => ⟨⟨by rw [h]; rfl, by rw [h]; rfl⟩, q⟩

abbrev aMk_settle (d : Nat) (lim : Nat × Nat) (Q : xQ) : xK := xAt xMks tMk_settle (cal d) lim Q
def kMk_settle : List (Nat × List Bool) := [(10, [true, true, true, true])]
set_option maxRecDepth 20000 in
theorem wMk_settle_0 {d : Nat} {lim : Nat × Nat} {Q : xQ} {l0 l1 l2 : Nat} {g : xG} {w : xW} (t : xIs g l0 (0, 0) ∧ 
  cal d nJd_fill [xr (g.2 l0 0), xi 0] g w (fun r g1 w1 => r = none ∧ aMk_settle d lim Q 10 [xr l0, xr l1, xr l2, xi 0] [] g1 w1)) :
    aMk_settle d lim Q 0 [xr l0, xr l1, xr l2, none] [] g w := xAt_exec (cal_m d) kMk_settle 7 t
set_option maxRecDepth 20000 in
theorem wMk_settle_10 {d : Nat} {lim : Nat × Nat} {Q : xQ} {l3 : Int} {l0 l1 l2 : Nat} {g : xG} {w : xW} (t : 
  ((20 ≤ l3) → Q (some (xi (-1))) g w) ∧
  ((l3 < 20) → xIs g l0 (0, 0) ∧ 
    cal d nMk_askAnew [xr l0, xr l1, xr l2] g w (fun r g1 w1 => ∃ v1 : Int, r = some (xi v1) ∧ 
      ((¬ v1 = 0) → x32 (l3 + 1) ∧ aMk_settle d lim Q 10 [xr l0, xr l1, xr l2, xi (l3 + 1)] [] g1 w1) ∧
      ((v1 = 0) → Q (some (xi l3)) g1 w1)))) :
    aMk_settle d lim Q 10 [xr l0, xr l1, xr l2, xi l3] [] g w := xAt_exec (cal_m d) kMk_settle 11 t
theorem eMk_settle {d : Nat} {Q : xQ} {l0 l1 l2 : Nat} {g : xG} {w : xW} (t : ∀ (lim : Nat × Nat) (Q2 : xQ), (∀ r g2 w2, g2.1 = g.1 → Q r g2 w2 → Q2 r g2 w2) → aMk_settle d lim Q2 0 [xr l0, xr l1, xr l2, none] [] g w) : cal (d + 1) nMk_settle [xr l0, xr l1, xr l2] g w Q := t _ _ xQof
abbrev aMk_askAnew (d : Nat) (lim : Nat × Nat) (Q : xQ) : xK := xAt xMks tMk_askAnew (cal d) lim Q
def kMk_askAnew : List (Nat × List Bool) := [(5, [true, true, true, true, true, false]), (45, [true, true, true, false, true, true])]
set_option maxRecDepth 20000 in
theorem wMk_askAnew_0 {d : Nat} {lim : Nat × Nat} {Q : xQ} {l0 l1 l2 : Nat} {g : xG} {w : xW} (t : aMk_askAnew d lim Q 5 [xr l0, xr l1, xr l2, xi 0, xi 0, none] [] g w) :
    aMk_askAnew d lim Q 0 [xr l0, xr l1, xr l2, none, none, none] [] g w := xAt_exec (cal_m d) kMk_askAnew 5 t
set_option maxRecDepth 20000 in
theorem wMk_askAnew_5 {d : Nat} {lim : Nat × Nat} {Q : xQ} {l3 l4 : Int} {l0 l1 l2 : Nat} {g : xG} {w : xW} (t : xIs g l1 (0, 5) ∧ 
  (((w l1 5) ≤ l4) → ((l3 : Int) = 0 ∨ (l3 : Int) = 1) ∧ Q (some (xi l3)) g w) ∧
  ((l4 < (w l1 5)) → xIs g l0 (0, 0) ∧ 
    cal d nMk_bestRent [xr l0, xr l1, xr l2, xi l4] g w (fun r g1 w1 => ∃ v1 : Int, r = some (xi v1) ∧ 
      ((¬ l3 = 0) → aMk_askAnew d lim Q 45 [xr l0, xr l1, xr l2, none, xi l4, xi v1] [xi 1] g1 w1) ∧
      ((l3 = 0) → xIs g1 l0 (0, 0) ∧ xAr g1 (g1.2 l0 0) l4 ∧ 
        ((v1 = (w1 (g1.2 l0 0) (Int.toNat l4))) → aMk_askAnew d lim Q 45 [xr l0, xr l1, xr l2, none, xi l4, xi v1] [xi 0] g1 w1) ∧
        ((¬ v1 = (w1 (g1.2 l0 0) (Int.toNat l4))) → aMk_askAnew d lim Q 45 [xr l0, xr l1, xr l2, none, xi l4, xi v1] [xi 1] g1 w1))))) :
    aMk_askAnew d lim Q 5 [xr l0, xr l1, xr l2, xi l3, xi l4, none] [] g w := xAt_exec (cal_m d) kMk_askAnew 21 t
set_option maxRecDepth 20000 in
theorem wMk_askAnew_45 {d : Nat} {lim : Nat × Nat} {Q : xQ} {l4 l5 s0 : Int} {l0 l1 l2 : Nat} {g : xG} {w : xW} (t : xIs g l0 (0, 0) ∧ xA1 g (g.2 l0 0) l4 ∧ x32 (l4 + 1) ∧ aMk_askAnew d lim Q 5 [xr l0, xr l1, xr l2, xi s0, xi (l4 + 1), none] [] g (xup w (g.2 l0 0) (Int.toNat l4) l5)) :
    aMk_askAnew d lim Q 45 [xr l0, xr l1, xr l2, none, xi l4, xi l5] [xi s0] g w := xAt_exec (cal_m d) kMk_askAnew 9 t
theorem eMk_askAnew {d : Nat} {Q : xQ} {l0 l1 l2 : Nat} {g : xG} {w : xW} (t : ∀ (lim : Nat × Nat) (Q2 : xQ), (∀ r g2 w2, g2.1 = g.1 → Q r g2 w2 → Q2 r g2 w2) → aMk_askAnew d lim Q2 0 [xr l0, xr l1, xr l2, none, none, none] [] g w) : cal (d + 1) nMk_askAnew [xr l0, xr l1, xr l2] g w Q := t _ _ xQof
abbrev aMk_bestRent (d : Nat) (lim : Nat × Nat) (Q : xQ) : xK := xAt xMks tMk_bestRent (cal d) lim Q
def kMk_bestRent : List (Nat × List Bool) := [(9, [true, true, true, true, true, true, true, false])]
set_option maxRecDepth 20000 in
theorem wMk_bestRent_0 {d : Nat} {lim : Nat × Nat} {Q : xQ} {l3 : Int} {l0 l1 l2 : Nat} {g : xG} {w : xW} (t : aMk_bestRent d lim Q 9 [xr l0, xr l1, xr l2, xi l3, xi 0, xi 0, xi 1, none] [] g w) :
    aMk_bestRent d lim Q 0 [xr l0, xr l1, xr l2, xi l3, none, none, none, none] [] g w := xAt_exec (cal_m d) kMk_bestRent 7 t
set_option maxRecDepth 20000 in
theorem wMk_bestRent_9 {d : Nat} {lim : Nat × Nat} {Q : xQ} {l3 l4 l5 l6 : Int} {l0 l1 l2 : Nat} {g : xG} {w : xW} (t : 
  ((9 < l6) → Q (some (xi l4)) g w) ∧
  ((l6 ≤ 9) → xIs g l0 (0, 0) ∧ 
    cal d nMk_countLet [xr l0, xr l1, xr l2, xi l3, xi l6] g w (fun r g1 w1 => ∃ v1 : Int, r = some (xi v1) ∧ x32 (l6 * v1) ∧ 
      (((l6 * v1) ≤ l5) → x32 (l6 + 1) ∧ aMk_bestRent d lim Q 9 [xr l0, xr l1, xr l2, xi l3, xi l4, xi l5, xi (l6 + 1), none] [] g1 w1) ∧
      ((l5 < (l6 * v1)) → x32 (l6 + 1) ∧ aMk_bestRent d lim Q 9 [xr l0, xr l1, xr l2, xi l3, xi l6, xi (l6 * v1), xi (l6 + 1), none] [] g1 w1)))) :
    aMk_bestRent d lim Q 9 [xr l0, xr l1, xr l2, xi l3, xi l4, xi l5, xi l6, none] [] g w := xAt_exec (cal_m d) kMk_bestRent 22 t
theorem eMk_bestRent {d : Nat} {Q : xQ} {l3 : Int} {l0 l1 l2 : Nat} {g : xG} {w : xW} (t : ∀ (lim : Nat × Nat) (Q2 : xQ), (∀ r g2 w2, g2.1 = g.1 → Q r g2 w2 → Q2 r g2 w2) → aMk_bestRent d lim Q2 0 [xr l0, xr l1, xr l2, xi l3, none, none, none, none] [] g w) : cal (d + 1) nMk_bestRent [xr l0, xr l1, xr l2, xi l3] g w Q := t _ _ xQof
abbrev aMk_countLet (d : Nat) (lim : Nat × Nat) (Q : xQ) : xK := xAt xMks tMk_countLet (cal d) lim Q
def kMk_countLet : List (Nat × List Bool) := [(12, [true, true, true, true, true, true, true, true])]
set_option maxRecDepth 20000 in
theorem wMk_countLet_0 {d : Nat} {lim : Nat × Nat} {Q : xQ} {l3 l4 : Int} {l0 l1 l2 : Nat} {g : xG} {w : xW} (t : xIs g l1 (0, 5) ∧ 
  cal d nTw_cells [xr l1] g w (fun r g1 w1 => ∃ v1 : Int, r = some (xi v1) ∧ aMk_countLet d lim Q 12 [xr l0, xr l1, xr l2, xi l3, xi l4, xi 0, xi v1, xi 0] [] g1 w1)) :
    aMk_countLet d lim Q 0 [xr l0, xr l1, xr l2, xi l3, xi l4, none, none, none] [] g w := xAt_exec (cal_m d) kMk_countLet 8 t
set_option maxRecDepth 20000 in
theorem wMk_countLet_12 {d : Nat} {lim : Nat × Nat} {Q : xQ} {l3 l4 l5 l6 l7 : Int} {l0 l1 l2 : Nat} {g : xG} {w : xW} (t : 
  ((l6 ≤ l7) → Q (some (xi l5)) g w) ∧
  ((l7 < l6) → xIs g l2 (0, 3) ∧ xAr g (g.2 l2 2) l7 ∧ 
    ((¬ (w (g.2 l2 2) (Int.toNat l7)) = l3) → x32 (l7 + 1) ∧ aMk_countLet d lim Q 12 [xr l0, xr l1, xr l2, xi l3, xi l4, xi l5, xi l6, xi (l7 + 1)] [] g w) ∧
    (((w (g.2 l2 2) (Int.toNat l7)) = l3) → xIs g l2 (0, 3) ∧ xAr g (g.2 l2 0) l7 ∧ ((50 : Int) ≠ 0 ∧ x32 (Int.tdiv (w (g.2 l2 0) (Int.toNat l7)) 50)) ∧ 
      (((Int.tdiv (w (g.2 l2 0) (Int.toNat l7)) 50) < l4) → x32 (l7 + 1) ∧ aMk_countLet d lim Q 12 [xr l0, xr l1, xr l2, xi l3, xi l4, xi l5, xi l6, xi (l7 + 1)] [] g w) ∧
      ((l4 ≤ (Int.tdiv (w (g.2 l2 0) (Int.toNat l7)) 50)) → xIs g l0 (0, 0) ∧ 
        cal d nMk_isUndercut [xr l0, xr l1, xr l2, xi l7, xi l4] g w (fun r g1 w1 => ∃ v1 : Int, r = some (xi v1) ∧ 
          ((¬ v1 = 0) → x32 (l7 + 1) ∧ aMk_countLet d lim Q 12 [xr l0, xr l1, xr l2, xi l3, xi l4, xi l5, xi l6, xi (l7 + 1)] [] g1 w1) ∧
          ((v1 = 0) → x32 (l5 + 1) ∧ x32 (l7 + 1) ∧ aMk_countLet d lim Q 12 [xr l0, xr l1, xr l2, xi l3, xi l4, xi (l5 + 1), xi l6, xi (l7 + 1)] [] g1 w1)))))) :
    aMk_countLet d lim Q 12 [xr l0, xr l1, xr l2, xi l3, xi l4, xi l5, xi l6, xi l7] [] g w := xAt_exec (cal_m d) kMk_countLet 28 t
theorem eMk_countLet {d : Nat} {Q : xQ} {l3 l4 : Int} {l0 l1 l2 : Nat} {g : xG} {w : xW} (t : ∀ (lim : Nat × Nat) (Q2 : xQ), (∀ r g2 w2, g2.1 = g.1 → Q r g2 w2 → Q2 r g2 w2) → aMk_countLet d lim Q2 0 [xr l0, xr l1, xr l2, xi l3, xi l4, none, none, none] [] g w) : cal (d + 1) nMk_countLet [xr l0, xr l1, xr l2, xi l3, xi l4] g w Q := t _ _ xQof
abbrev aMk_isUndercut (d : Nat) (lim : Nat × Nat) (Q : xQ) : xK := xAt xMks tMk_isUndercut (cal d) lim Q
def kMk_isUndercut : List (Nat × List Bool) := [(3, [true, true, true, true, true, true, false, false])]
set_option maxRecDepth 20000 in
theorem wMk_isUndercut_0 {d : Nat} {lim : Nat × Nat} {Q : xQ} {l3 l4 : Int} {l0 l1 l2 : Nat} {g : xG} {w : xW} (t : aMk_isUndercut d lim Q 3 [xr l0, xr l1, xr l2, xi l3, xi l4, xi 1, none, none] [] g w) :
    aMk_isUndercut d lim Q 0 [xr l0, xr l1, xr l2, xi l3, xi l4, none, none, none] [] g w := xAt_exec (cal_m d) kMk_isUndercut 3 t
set_option maxRecDepth 20000 in
theorem wMk_isUndercut_3 {d : Nat} {lim : Nat × Nat} {Q : xQ} {l3 l4 l5 : Int} {l0 l1 l2 : Nat} {g : xG} {w : xW} (t : 
  ((4 < l5) → ((0 : Int) = 0 ∨ (0 : Int) = 1) ∧ Q (some (xi 0)) g w) ∧
  ((l5 ≤ 4) → xIs g l2 (0, 3) ∧ 
    cal d nSt_reach [xr l2, xr l1, xi l3, xi l5] g w (fun r g1 w1 => ∃ v1 : Int, r = some (xi v1) ∧ 
      ((v1 = (-1)) → x32 (l5 + 1) ∧ aMk_isUndercut d lim Q 3 [xr l0, xr l1, xr l2, xi l3, xi l4, xi (l5 + 1), none, none] [] g1 w1) ∧
      ((¬ v1 = (-1)) → xIs g1 l2 (0, 3) ∧ xAr g1 (g1.2 l2 2) v1 ∧ 
        (((w1 (g1.2 l2 2) (Int.toNat v1)) = (-1)) → x32 (l5 + 1) ∧ aMk_isUndercut d lim Q 3 [xr l0, xr l1, xr l2, xi l3, xi l4, xi (l5 + 1), none, none] [] g1 w1) ∧
        ((¬ (w1 (g1.2 l2 2) (Int.toNat v1)) = (-1)) → xIs g1 l2 (0, 3) ∧ xAr g1 (g1.2 l2 2) l3 ∧ 
          (((w1 (g1.2 l2 2) (Int.toNat v1)) = (w1 (g1.2 l2 2) (Int.toNat l3))) → x32 (l5 + 1) ∧ aMk_isUndercut d lim Q 3 [xr l0, xr l1, xr l2, xi l3, xi l4, xi (l5 + 1), none, none] [] g1 w1) ∧
          ((¬ (w1 (g1.2 l2 2) (Int.toNat v1)) = (w1 (g1.2 l2 2) (Int.toNat l3))) → xIs g1 l0 (0, 0) ∧ xAr g1 (g1.2 l0 0) (w1 (g1.2 l2 2) (Int.toNat v1)) ∧ 
            ((l4 ≤ (w1 (g1.2 l0 0) (Int.toNat (w1 (g1.2 l2 2) (Int.toNat v1))))) → x32 (l5 + 1) ∧ aMk_isUndercut d lim Q 3 [xr l0, xr l1, xr l2, xi l3, xi l4, xi (l5 + 1), none, none] [] g1 w1) ∧
            (((w1 (g1.2 l0 0) (Int.toNat (w1 (g1.2 l2 2) (Int.toNat v1)))) < l4) → ((1 : Int) = 0 ∨ (1 : Int) = 1) ∧ Q (some (xi 1)) g1 w1))))))) :
    aMk_isUndercut d lim Q 3 [xr l0, xr l1, xr l2, xi l3, xi l4, xi l5, none, none] [] g w := xAt_exec (cal_m d) kMk_isUndercut 35 t
theorem eMk_isUndercut {d : Nat} {Q : xQ} {l3 l4 : Int} {l0 l1 l2 : Nat} {g : xG} {w : xW} (t : ∀ (lim : Nat × Nat) (Q2 : xQ), (∀ r g2 w2, g2.1 = g.1 → Q r g2 w2 → Q2 r g2 w2) → aMk_isUndercut d lim Q2 0 [xr l0, xr l1, xr l2, xi l3, xi l4, none, none, none] [] g w) : cal (d + 1) nMk_isUndercut [xr l0, xr l1, xr l2, xi l3, xi l4] g w Q := t _ _ xQof
abbrev aPp_write (d : Nat) (lim : Nat × Nat) (Q : xQ) : xK := xAt xMks tPp_write (cal d) lim Q
def kPp_write : List (Nat × List Bool) := []
set_option maxRecDepth 20000 in
theorem wPp_write_0 {d : Nat} {lim : Nat × Nat} {Q : xQ} {l1 l2 l3 : Int} {l0 : Nat} {g : xG} {w : xW} (t : xIs g l0 (0, 1) ∧ xIs g l0 (0, 1) ∧ xAl g (g.2 l0 0) ∧ 
  (((w l0 3) < (xlen g (g.2 l0 0) : Nat)) → xIs g l0 (0, 1) ∧ xIs g l0 (0, 1) ∧ xA1 g (g.2 l0 0) (w l0 3) ∧ xIs g l0 (0, 1) ∧ xIs g l0 (0, 1) ∧ xA1 g (g.2 l0 1) ((xup w (g.2 l0 0) (Int.toNat (w l0 3)) l1) l0 3) ∧ xIs g l0 (0, 1) ∧ xIs g l0 (0, 1) ∧ xA1 g (g.2 l0 2) ((xup (xup w (g.2 l0 0) (Int.toNat (w l0 3)) l1) (g.2 l0 1) (Int.toNat ((xup w (g.2 l0 0) (Int.toNat (w l0 3)) l1) l0 3)) l2) l0 3) ∧ xIs g l0 (0, 1) ∧ x32 (((xup (xup (xup w (g.2 l0 0) (Int.toNat (w l0 3)) l1) (g.2 l0 1) (Int.toNat ((xup w (g.2 l0 0) (Int.toNat (w l0 3)) l1) l0 3)) l2) (g.2 l0 2) (Int.toNat ((xup (xup w (g.2 l0 0) (Int.toNat (w l0 3)) l1) (g.2 l0 1) (Int.toNat ((xup w (g.2 l0 0) (Int.toNat (w l0 3)) l1) l0 3)) l2) l0 3)) l3) l0 3) + 1) ∧ xIs g l0 (0, 1) ∧ ((1 : Int) = 0 ∨ (1 : Int) = 1) ∧ Q (some (xi 1)) g (xup (xup (xup (xup w (g.2 l0 0) (Int.toNat (w l0 3)) l1) (g.2 l0 1) (Int.toNat ((xup w (g.2 l0 0) (Int.toNat (w l0 3)) l1) l0 3)) l2) (g.2 l0 2) (Int.toNat ((xup (xup w (g.2 l0 0) (Int.toNat (w l0 3)) l1) (g.2 l0 1) (Int.toNat ((xup w (g.2 l0 0) (Int.toNat (w l0 3)) l1) l0 3)) l2) l0 3)) l3) l0 3 (((xup (xup (xup w (g.2 l0 0) (Int.toNat (w l0 3)) l1) (g.2 l0 1) (Int.toNat ((xup w (g.2 l0 0) (Int.toNat (w l0 3)) l1) l0 3)) l2) (g.2 l0 2) (Int.toNat ((xup (xup w (g.2 l0 0) (Int.toNat (w l0 3)) l1) (g.2 l0 1) (Int.toNat ((xup w (g.2 l0 0) (Int.toNat (w l0 3)) l1) l0 3)) l2) l0 3)) l3) l0 3) + 1))) ∧
  (((xlen g (g.2 l0 0) : Nat) ≤ (w l0 3)) → ((0 : Int) = 0 ∨ (0 : Int) = 1) ∧ Q (some (xi 0)) g w)) :
    aPp_write d lim Q 0 [xr l0, xi l1, xi l2, xi l3] [] g w := xAt_exec (cal_m d) kPp_write 33 t
theorem ePp_write {d : Nat} {Q : xQ} {l1 l2 l3 : Int} {l0 : Nat} {g : xG} {w : xW} (t : ∀ (lim : Nat × Nat) (Q2 : xQ), (∀ r g2 w2, g2.1 = g.1 → Q r g2 w2 → Q2 r g2 w2) → aPp_write d lim Q2 0 [xr l0, xi l1, xi l2, xi l3] [] g w) : cal (d + 1) nPp_write [xr l0, xi l1, xi l2, xi l3] g w Q := t _ _ xQof
abbrev aPp_latest (d : Nat) (lim : Nat × Nat) (Q : xQ) : xK := xAt xMks tPp_latest (cal d) lim Q
def kPp_latest : List (Nat × List Bool) := [(4, [true, true, true])]
set_option maxRecDepth 20000 in
theorem wPp_latest_0 {d : Nat} {lim : Nat × Nat} {Q : xQ} {l0 : Nat} {g : xG} {w : xW} (t : aPp_latest d lim Q 4 [xr l0, xi (-1), xi 0] [] g w) :
    aPp_latest d lim Q 0 [xr l0, none, none] [] g w := xAt_exec (cal_m d) kPp_latest 5 t
set_option maxRecDepth 20000 in
theorem wPp_latest_4 {d : Nat} {lim : Nat × Nat} {Q : xQ} {l1 l2 : Int} {l0 : Nat} {g : xG} {w : xW} (t : xIs g l0 (0, 1) ∧ 
  (((w l0 3) ≤ l2) → Q (some (xi l1)) g w) ∧
  ((l2 < (w l0 3)) → xIs g l0 (0, 1) ∧ xAr g (g.2 l0 2) l2 ∧ 
    cal d nJd_max [xi l1, xi (w (g.2 l0 2) (Int.toNat l2))] g w (fun r g1 w1 => ∃ v1 : Int, r = some (xi v1) ∧ x32 (l2 + 1) ∧ aPp_latest d lim Q 4 [xr l0, xi v1, xi (l2 + 1)] [] g1 w1))) :
    aPp_latest d lim Q 4 [xr l0, xi l1, xi l2] [] g w := xAt_exec (cal_m d) kPp_latest 14 t
theorem ePp_latest {d : Nat} {Q : xQ} {l0 : Nat} {g : xG} {w : xW} (t : ∀ (lim : Nat × Nat) (Q2 : xQ), (∀ r g2 w2, g2.1 = g.1 → Q r g2 w2 → Q2 r g2 w2) → aPp_latest d lim Q2 0 [xr l0, none, none] [] g w) : cal (d + 1) nPp_latest [xr l0] g w Q := t _ _ xQof
abbrev aPp_notFeltAt (d : Nat) (lim : Nat × Nat) (Q : xQ) : xK := xAt xMks tPp_notFeltAt (cal d) lim Q
def kPp_notFeltAt : List (Nat × List Bool) := [(5, [true, true, true, true, true]), (61, [true, true, true, true, true])]
set_option maxRecDepth 20000 in
theorem wPp_notFeltAt_0 {d : Nat} {lim : Nat × Nat} {Q : xQ} {l1 : Int} {l0 l2 : Nat} {g : xG} {w : xW} (t : aPp_notFeltAt d lim Q 5 [xr l0, xi l1, xr l2, xi 0, xi 0] [] g w) :
    aPp_notFeltAt d lim Q 0 [xr l0, xi l1, xr l2, none, none] [] g w := xAt_exec (cal_m d) kPp_notFeltAt 5 t
set_option maxRecDepth 20000 in
theorem wPp_notFeltAt_5 {d : Nat} {lim : Nat × Nat} {Q : xQ} {l1 l3 l4 : Int} {l0 l2 : Nat} {g : xG} {w : xW} (t : xIs g l0 (0, 1) ∧ 
  (((w l0 3) ≤ l4) → Q (some (xi l3)) g w) ∧
  ((l4 < (w l0 3)) → xIs g l0 (0, 1) ∧ xAr g (g.2 l0 2) l4 ∧ 
    ((¬ (w (g.2 l0 2) (Int.toNat l4)) = l1) → x32 (l4 + 1) ∧ aPp_notFeltAt d lim Q 5 [xr l0, xi l1, xr l2, xi l3, xi (l4 + 1)] [] g w) ∧
    (((w (g.2 l0 2) (Int.toNat l4)) = l1) → xIs g l2 (0, 3) ∧ xIs g l0 (0, 1) ∧ xAr g (g.2 l0 0) l4 ∧ xAr g (g.2 l2 7) (w (g.2 l0 0) (Int.toNat l4)) ∧ xIs g l0 (0, 1) ∧ xAr g (g.2 l0 1) l4 ∧ 
      ((¬ (w (g.2 l2 7) (Int.toNat (w (g.2 l0 0) (Int.toNat l4)))) = (w (g.2 l0 1) (Int.toNat l4))) → aPp_notFeltAt d lim Q 61 [xr l0, xi l1, xr l2, xi l3, xi l4] [] g w) ∧
      (((w (g.2 l2 7) (Int.toNat (w (g.2 l0 0) (Int.toNat l4)))) = (w (g.2 l0 1) (Int.toNat l4))) → xIs g l0 (0, 1) ∧ xAr g (g.2 l0 0) l4 ∧ xIs g l2 (0, 3) ∧ 
        cal d nSt_feels [xr l2, xi (w (g.2 l0 0) (Int.toNat l4))] g w (fun r g1 w1 => ∃ v1 : Int, r = some (xi v1) ∧ 
          ((¬ v1 = 0) → x32 (l4 + 1) ∧ aPp_notFeltAt d lim Q 5 [xr l0, xi l1, xr l2, xi l3, xi (l4 + 1)] [] g1 w1) ∧
          ((v1 = 0) → aPp_notFeltAt d lim Q 61 [xr l0, xi l1, xr l2, xi l3, xi l4] [] g1 w1)))))) :
    aPp_notFeltAt d lim Q 5 [xr l0, xi l1, xr l2, xi l3, xi l4] [] g w := xAt_exec (cal_m d) kPp_notFeltAt 32 t
set_option maxRecDepth 20000 in
theorem wPp_notFeltAt_61 {d : Nat} {lim : Nat × Nat} {Q : xQ} {l1 l3 l4 : Int} {l0 l2 : Nat} {g : xG} {w : xW} (t : x32 (l4 + 1) ∧ aPp_notFeltAt d lim Q 5 [xr l0, xi l1, xr l2, xi (xOr l3 (xShl 1 l4)), xi (l4 + 1)] [] g w) :
    aPp_notFeltAt d lim Q 61 [xr l0, xi l1, xr l2, xi l3, xi l4] [] g w := xAt_exec (cal_m d) kPp_notFeltAt 9 t
theorem ePp_notFeltAt {d : Nat} {Q : xQ} {l1 : Int} {l0 l2 : Nat} {g : xG} {w : xW} (t : ∀ (lim : Nat × Nat) (Q2 : xQ), (∀ r g2 w2, g2.1 = g.1 → Q r g2 w2 → Q2 r g2 w2) → aPp_notFeltAt d lim Q2 0 [xr l0, xi l1, xr l2, none, none] [] g w) : cal (d + 1) nPp_notFeltAt [xr l0, xi l1, xr l2] g w Q := t _ _ xQof
abbrev aPp_ownedAt (d : Nat) (lim : Nat × Nat) (Q : xQ) : xK := xAt xMks tPp_ownedAt (cal d) lim Q
def kPp_ownedAt : List (Nat × List Bool) := [(2, [true, true, true, true])]
set_option maxRecDepth 20000 in
theorem wPp_ownedAt_0 {d : Nat} {lim : Nat × Nat} {Q : xQ} {l1 : Int} {l0 l2 : Nat} {g : xG} {w : xW} (t : aPp_ownedAt d lim Q 2 [xr l0, xi l1, xr l2, xi 0] [] g w) :
    aPp_ownedAt d lim Q 0 [xr l0, xi l1, xr l2, none] [] g w := xAt_exec (cal_m d) kPp_ownedAt 3 t
set_option maxRecDepth 20000 in
theorem wPp_ownedAt_2 {d : Nat} {lim : Nat × Nat} {Q : xQ} {l1 l3 : Int} {l0 l2 : Nat} {g : xG} {w : xW} (t : xIs g l0 (0, 1) ∧ 
  (((w l0 3) ≤ l3) → ((1 : Int) = 0 ∨ (1 : Int) = 1) ∧ Q (some (xi 1)) g w) ∧
  ((l3 < (w l0 3)) → xIs g l0 (0, 1) ∧ xAr g (g.2 l0 2) l3 ∧ 
    ((¬ (w (g.2 l0 2) (Int.toNat l3)) = l1) → x32 (l3 + 1) ∧ aPp_ownedAt d lim Q 2 [xr l0, xi l1, xr l2, xi (l3 + 1)] [] g w) ∧
    (((w (g.2 l0 2) (Int.toNat l3)) = l1) → xIs g l2 (0, 3) ∧ xIs g l0 (0, 1) ∧ xAr g (g.2 l0 1) l3 ∧ xAr g (g.2 l2 2) (w (g.2 l0 1) (Int.toNat l3)) ∧ xIs g l0 (0, 1) ∧ xAr g (g.2 l0 0) l3 ∧ 
      (((w (g.2 l2 2) (Int.toNat (w (g.2 l0 1) (Int.toNat l3)))) = (w (g.2 l0 0) (Int.toNat l3))) → x32 (l3 + 1) ∧ aPp_ownedAt d lim Q 2 [xr l0, xi l1, xr l2, xi (l3 + 1)] [] g w) ∧
      ((¬ (w (g.2 l2 2) (Int.toNat (w (g.2 l0 1) (Int.toNat l3)))) = (w (g.2 l0 0) (Int.toNat l3))) → ((0 : Int) = 0 ∨ (0 : Int) = 1) ∧ Q (some (xi 0)) g w)))) :
    aPp_ownedAt d lim Q 2 [xr l0, xi l1, xr l2, xi l3] [] g w := xAt_exec (cal_m d) kPp_ownedAt 25 t
theorem ePp_ownedAt {d : Nat} {Q : xQ} {l1 : Int} {l0 l2 : Nat} {g : xG} {w : xW} (t : ∀ (lim : Nat × Nat) (Q2 : xQ), (∀ r g2 w2, g2.1 = g.1 → Q r g2 w2 → Q2 r g2 w2) → aPp_ownedAt d lim Q2 0 [xr l0, xi l1, xr l2, none] [] g w) : cal (d + 1) nPp_ownedAt [xr l0, xi l1, xr l2] g w Q := t _ _ xQof
abbrev aTo_begin (d : Nat) (lim : Nat × Nat) (Q : xQ) : xK := xAt xMks tTo_begin (cal d) lim Q
def kTo_begin : List (Nat × List Bool) := []
set_option maxRecDepth 20000 in
theorem wTo_begin_0 {d : Nat} {lim : Nat × Nat} {Q : xQ} {l3 l4 : Int} {l0 l1 l2 : Nat} {g : xG} {w : xW} (t : xIs g l0 (0, 4) ∧ xIs (g.1, xup g.2 l0 3 l1) l0 (0, 4) ∧ xA3 (g.1, xup g.2 l0 3 l1) ((g.1, xup g.2 l0 3 l1).2 l0 0) 0 ∧ xIs (g.1, xup g.2 l0 3 l1) ((g.1, xup g.2 l0 3 l1).2 ((g.1, xup g.2 l0 3 l1).2 l0 0) (Int.toNat 0)) (0, 3) ∧ 
  cal d nSt_copyFrom [xr ((g.1, xup g.2 l0 3 l1).2 ((g.1, xup g.2 l0 3 l1).2 l0 0) (Int.toNat 0)), xr l2] (g.1, xup g.2 l0 3 l1) w (fun r g1 w1 => r = none ∧ xIs g1 l0 (0, 4) ∧ xIs g1 l0 (0, 4) ∧ xIs g1 l0 (0, 4) ∧ Q none g1 (xup (xup (xup w1 l0 4 l3) l0 5 l4) l0 6 (-1)))) :
    aTo_begin d lim Q 0 [xr l0, xr l1, xr l2, xi l3, xi l4] [] g w := xAt_exec (cal_m d) kTo_begin 20 t
theorem eTo_begin {d : Nat} {Q : xQ} {l3 l4 : Int} {l0 l1 l2 : Nat} {g : xG} {w : xW} (t : ∀ (lim : Nat × Nat) (Q2 : xQ), (∀ r g2 w2, g2.1 = g.1 → Q r g2 w2 → Q2 r g2 w2) → aTo_begin d lim Q2 0 [xr l0, xr l1, xr l2, xi l3, xi l4] [] g w) : cal (d + 1) nTo_begin [xr l0, xr l1, xr l2, xi l3, xi l4] g w Q := t _ _ xQof
abbrev aTo_finish (d : Nat) (lim : Nat × Nat) (Q : xQ) : xK := xAt xMks tTo_finish (cal d) lim Q
def kTo_finish : List (Nat × List Bool) := []
set_option maxRecDepth 20000 in
theorem wTo_finish_0 {d : Nat} {lim : Nat × Nat} {Q : xQ} {l1 : Int} {l0 : Nat} {g : xG} {w : xW} (t : xIs g l0 (0, 4) ∧ 
  ((l1 ≤ (w l0 6)) → Q none g w) ∧
  (((w l0 6) < l1) → xIs g l0 (0, 4) ∧ xIs g l0 (0, 4) ∧ xIs g l0 (0, 4) ∧ (xCo g (g.2 l0 1) 0 5 ∧ xCo g (g.2 l0 2) 0 5) ∧ Q none g (xcp (xup w l0 6 l1) (g.2 l0 1) (Int.toNat 0) (g.2 l0 2) (Int.toNat 0) (Int.toNat 5)))) :
    aTo_finish d lim Q 0 [xr l0, xi l1] [] g w := xAt_exec (cal_m d) kTo_finish 17 t
theorem eTo_finish {d : Nat} {Q : xQ} {l1 : Int} {l0 : Nat} {g : xG} {w : xW} (t : ∀ (lim : Nat × Nat) (Q2 : xQ), (∀ r g2 w2, g2.1 = g.1 → Q r g2 w2 → Q2 r g2 w2) → aTo_finish d lim Q2 0 [xr l0, xi l1] [] g w) : cal (d + 1) nTo_finish [xr l0, xi l1] g w Q := t _ _ xQof
abbrev aTw_clear (d : Nat) (lim : Nat × Nat) (Q : xQ) : xK := xAt xMks tTw_clear (cal d) lim Q
def kTw_clear : List (Nat × List Bool) := []
set_option maxRecDepth 20000 in
theorem wTw_clear_0 {d : Nat} {lim : Nat × Nat} {Q : xQ} {l0 : Nat} {g : xG} {w : xW} (t : xIs g l0 (0, 5) ∧ xIs g l0 (0, 5) ∧ xIs g l0 (0, 5) ∧ xIs g l0 (0, 5) ∧ xIs g l0 (0, 5) ∧ xIs g l0 (0, 5) ∧ xIs g l0 (0, 5) ∧ 
  cal d nJd_fill [xr (g.2 l0 7), xi 0] g (xup (xup (xup (xup (xup (xup w l0 0 0) l0 1 0) l0 2 0) l0 3 0) l0 4 0) l0 5 0) (fun r g1 w1 => r = none ∧ Q none g1 w1)) :
    aTw_clear d lim Q 0 [xr l0] [] g w := xAt_exec (cal_m d) kTw_clear 24 t
theorem eTw_clear {d : Nat} {Q : xQ} {l0 : Nat} {g : xG} {w : xW} (t : ∀ (lim : Nat × Nat) (Q2 : xQ), (∀ r g2 w2, g2.1 = g.1 → Q r g2 w2 → Q2 r g2 w2) → aTw_clear d lim Q2 0 [xr l0] [] g w) : cal (d + 1) nTw_clear [xr l0] g w Q := t _ _ xQof
abbrev aTw_setSize (d : Nat) (lim : Nat × Nat) (Q : xQ) : xK := xAt xMks tTw_setSize (cal d) lim Q
def kTw_setSize : List (Nat × List Bool) := [(12, [true, true, true, true, false, false]), (20, [true, true, true, true, true, false])]
set_option maxRecDepth 20000 in
theorem wTw_setSize_0 {d : Nat} {lim : Nat × Nat} {Q : xQ} {l1 l2 : Int} {l0 : Nat} {g : xG} {w : xW} (t : xIs g l0 (0, 5) ∧ xIs g l0 (0, 5) ∧ aTw_setSize d lim Q 12 [xr l0, xi l1, xi l2, xi 0, none, none] [] g (xup (xup w l0 0 l1) l0 1 l2)) :
    aTw_setSize d lim Q 0 [xr l0, xi l1, xi l2, none, none, none] [] g w := xAt_exec (cal_m d) kTw_setSize 9 t
set_option maxRecDepth 20000 in
theorem wTw_setSize_12 {d : Nat} {lim : Nat × Nat} {Q : xQ} {l1 l2 l3 : Int} {l0 : Nat} {g : xG} {w : xW} (t : 
  ((l2 ≤ l3) → Q none g w) ∧
  ((l3 < l2) → aTw_setSize d lim Q 20 [xr l0, xi l1, xi l2, xi l3, xi 0, none] [] g w)) :
    aTw_setSize d lim Q 12 [xr l0, xi l1, xi l2, xi l3, none, none] [] g w := xAt_exec (cal_m d) kTw_setSize 6 t
set_option maxRecDepth 20000 in
theorem wTw_setSize_20 {d : Nat} {lim : Nat × Nat} {Q : xQ} {l1 l2 l3 l4 : Int} {l0 : Nat} {g : xG} {w : xW} (t : 
  ((l1 ≤ l4) → x32 (l3 + 1) ∧ aTw_setSize d lim Q 12 [xr l0, xi l1, xi l2, xi (l3 + 1), none, none] [] g w) ∧
  ((l4 < l1) → xIs g l0 (0, 5) ∧ 
    cal d nTw_cellAt [xr l0, xi l4, xi l3] g w (fun r g1 w1 => ∃ v1 : Int, r = some (xi v1) ∧ x32 (v1 * 5) ∧ xIs g1 l0 (0, 5) ∧ x32 ((v1 * 5) + 0) ∧ xIs g1 l0 (0, 5) ∧ 
      cal d nTw_cellAt [xr l0, xi l4, xi l3] g1 w1 (fun r g2 w2 => ∃ v2 : Int, r = some (xi v2) ∧ xA1 g2 (g1.2 l0 6) ((v1 * 5) + 0) ∧ xIs g2 l0 (0, 5) ∧ x32 ((v1 * 5) + 1) ∧ x32 (l3 - 1) ∧ xIs g2 l0 (0, 5) ∧ 
        cal d nTw_cellAt [xr l0, xi l4, xi (l3 - 1)] g2 (xup w2 (g1.2 l0 6) (Int.toNat ((v1 * 5) + 0)) v2) (fun r g3 w3 => ∃ v3 : Int, r = some (xi v3) ∧ xA1 g3 (g2.2 l0 6) ((v1 * 5) + 1) ∧ xIs g3 l0 (0, 5) ∧ x32 ((v1 * 5) + 2) ∧ x32 (l4 + 1) ∧ xIs g3 l0 (0, 5) ∧ 
          cal d nTw_cellAt [xr l0, xi (l4 + 1), xi l3] g3 (xup w3 (g2.2 l0 6) (Int.toNat ((v1 * 5) + 1)) v3) (fun r g4 w4 => ∃ v4 : Int, r = some (xi v4) ∧ xA1 g4 (g3.2 l0 6) ((v1 * 5) + 2) ∧ xIs g4 l0 (0, 5) ∧ x32 ((v1 * 5) + 3) ∧ x32 (l3 + 1) ∧ xIs g4 l0 (0, 5) ∧ 
            cal d nTw_cellAt [xr l0, xi l4, xi (l3 + 1)] g4 (xup w4 (g3.2 l0 6) (Int.toNat ((v1 * 5) + 2)) v4) (fun r g5 w5 => ∃ v5 : Int, r = some (xi v5) ∧ xA1 g5 (g4.2 l0 6) ((v1 * 5) + 3) ∧ xIs g5 l0 (0, 5) ∧ x32 ((v1 * 5) + 4) ∧ x32 (l4 - 1) ∧ xIs g5 l0 (0, 5) ∧ 
              cal d nTw_cellAt [xr l0, xi (l4 - 1), xi l3] g5 (xup w5 (g4.2 l0 6) (Int.toNat ((v1 * 5) + 3)) v5) (fun r g6 w6 => ∃ v6 : Int, r = some (xi v6) ∧ xA1 g6 (g5.2 l0 6) ((v1 * 5) + 4) ∧ x32 (l4 + 1) ∧ aTw_setSize d lim Q 20 [xr l0, xi l1, xi l2, xi l3, xi (l4 + 1), none] [] g6 (xup w6 (g5.2 l0 6) (Int.toNat ((v1 * 5) + 4)) v6))))))))) :
    aTw_setSize d lim Q 20 [xr l0, xi l1, xi l2, xi l3, xi l4, none] [] g w := xAt_exec (cal_m d) kTw_setSize 71 t
theorem eTw_setSize {d : Nat} {Q : xQ} {l1 l2 : Int} {l0 : Nat} {g : xG} {w : xW} (t : ∀ (lim : Nat × Nat) (Q2 : xQ), (∀ r g2 w2, g2.1 = g.1 → Q r g2 w2 → Q2 r g2 w2) → aTw_setSize d lim Q2 0 [xr l0, xi l1, xi l2, none, none, none] [] g w) : cal (d + 1) nTw_setSize [xr l0, xi l1, xi l2] g w Q := t _ _ xQof
abbrev aTw_cells (d : Nat) (lim : Nat × Nat) (Q : xQ) : xK := xAt xMks tTw_cells (cal d) lim Q
def kTw_cells : List (Nat × List Bool) := []
set_option maxRecDepth 20000 in
theorem wTw_cells_0 {d : Nat} {lim : Nat × Nat} {Q : xQ} {l0 : Nat} {g : xG} {w : xW} (t : xIs g l0 (0, 5) ∧ xIs g l0 (0, 5) ∧ x32 ((w l0 0) * (w l0 1)) ∧ Q (some (xi ((w l0 0) * (w l0 1)))) g w) :
    aTw_cells d lim Q 0 [xr l0] [] g w := xAt_exec (cal_m d) kTw_cells 7 t
theorem eTw_cells {d : Nat} {Q : xQ} {l0 : Nat} {g : xG} {w : xW} (t : ∀ (lim : Nat × Nat) (Q2 : xQ), (∀ r g2 w2, g2.1 = g.1 → Q r g2 w2 → Q2 r g2 w2) → aTw_cells d lim Q2 0 [xr l0] [] g w) : cal (d + 1) nTw_cells [xr l0] g w Q := t _ _ xQof
abbrev aTw_cellAt (d : Nat) (lim : Nat × Nat) (Q : xQ) : xK := xAt xMks tTw_cellAt (cal d) lim Q
def kTw_cellAt : List (Nat × List Bool) := []
set_option maxRecDepth 20000 in
theorem wTw_cellAt_0 {d : Nat} {lim : Nat × Nat} {Q : xQ} {l1 l2 : Int} {l0 : Nat} {g : xG} {w : xW} (t : 
  ((l1 < 0) → Q (some (xi (-1))) g w) ∧
  ((0 ≤ l1) → xIs g l0 (0, 5) ∧ 
    (((w l0 0) ≤ l1) → Q (some (xi (-1))) g w) ∧
    ((l1 < (w l0 0)) → 
      ((l2 < 0) → Q (some (xi (-1))) g w) ∧
      ((0 ≤ l2) → xIs g l0 (0, 5) ∧ 
        (((w l0 1) ≤ l2) → Q (some (xi (-1))) g w) ∧
        ((l2 < (w l0 1)) → xIs g l0 (0, 5) ∧ x32 (l2 * (w l0 0)) ∧ x32 ((l2 * (w l0 0)) + l1) ∧ Q (some (xi ((l2 * (w l0 0)) + l1))) g w))))) :
    aTw_cellAt d lim Q 0 [xr l0, xi l1, xi l2] [] g w := xAt_exec (cal_m d) kTw_cellAt 21 t
theorem eTw_cellAt {d : Nat} {Q : xQ} {l1 l2 : Int} {l0 : Nat} {g : xG} {w : xW} (t : ∀ (lim : Nat × Nat) (Q2 : xQ), (∀ r g2 w2, g2.1 = g.1 → Q r g2 w2 → Q2 r g2 w2) → aTw_cellAt d lim Q2 0 [xr l0, xi l1, xi l2] [] g w) : cal (d + 1) nTw_cellAt [xr l0, xi l1, xi l2] g w Q := t _ _ xQof
abbrev aTw_cellOfPair (d : Nat) (lim : Nat × Nat) (Q : xQ) : xK := xAt xMks tTw_cellOfPair (cal d) lim Q
def kTw_cellOfPair : List (Nat × List Bool) := []
set_option maxRecDepth 20000 in
theorem wTw_cellOfPair_0 {d : Nat} {lim : Nat × Nat} {Q : xQ} {l1 : Int} {l0 : Nat} {g : xG} {w : xW} (t : 
  ((0 ≤ l1) → ((10 : Int) ≠ 0 ∧ x32 (Int.tdiv l1 10)) ∧ ((10 : Int) ≠ 0 ∧ x32 (Int.tdiv l1 10)) ∧ xIs g l0 (0, 5) ∧ 
    cal d nTw_cellAt [xr l0, xi (Int.tdiv l1 10), xi (Int.tmod l1 10)] g w (fun r g1 w1 => ∃ v1 : Int, r = some (xi v1) ∧ Q (some (xi v1)) g1 w1)) ∧
  ((l1 < 0) → Q (some (xi (-1))) g w)) :
    aTw_cellOfPair d lim Q 0 [xr l0, xi l1] [] g w := xAt_exec (cal_m d) kTw_cellOfPair 12 t
theorem eTw_cellOfPair {d : Nat} {Q : xQ} {l1 : Int} {l0 : Nat} {g : xG} {w : xW} (t : ∀ (lim : Nat × Nat) (Q2 : xQ), (∀ r g2 w2, g2.1 = g.1 → Q r g2 w2 → Q2 r g2 w2) → aTw_cellOfPair d lim Q2 0 [xr l0, xi l1] [] g w) : cal (d + 1) nTw_cellOfPair [xr l0, xi l1] g w Q := t _ _ xQof
abbrev aTw_pairOf (d : Nat) (lim : Nat × Nat) (Q : xQ) : xK := xAt xMks tTw_pairOf (cal d) lim Q
def kTw_pairOf : List (Nat × List Bool) := []
set_option maxRecDepth 20000 in
theorem wTw_pairOf_0 {d : Nat} {lim : Nat × Nat} {Q : xQ} {l1 : Int} {l0 : Nat} {g : xG} {w : xW} (t : xIs g l0 (0, 5) ∧ 
  ((1 ≤ (w l0 0)) → xIs g l0 (0, 5) ∧ (((w l0 0) : Int) ≠ 0 ∧ x32 (Int.tdiv l1 (w l0 0))) ∧ x32 ((Int.tmod l1 (w l0 0)) * 10) ∧ xIs g l0 (0, 5) ∧ (((w l0 0) : Int) ≠ 0 ∧ x32 (Int.tdiv l1 (w l0 0))) ∧ x32 (((Int.tmod l1 (w l0 0)) * 10) + (Int.tdiv l1 (w l0 0))) ∧ Q (some (xi (((Int.tmod l1 (w l0 0)) * 10) + (Int.tdiv l1 (w l0 0))))) g w) ∧
  (((w l0 0) < 1) → Q (some (xi (-1))) g w)) :
    aTw_pairOf d lim Q 0 [xr l0, xi l1] [] g w := xAt_exec (cal_m d) kTw_pairOf 17 t
theorem eTw_pairOf {d : Nat} {Q : xQ} {l1 : Int} {l0 : Nat} {g : xG} {w : xW} (t : ∀ (lim : Nat × Nat) (Q2 : xQ), (∀ r g2 w2, g2.1 = g.1 → Q r g2 w2 → Q2 r g2 w2) → aTw_pairOf d lim Q2 0 [xr l0, xi l1] [] g w) : cal (d + 1) nTw_pairOf [xr l0, xi l1] g w Q := t _ _ xQof
abbrev aTw_beside (d : Nat) (lim : Nat × Nat) (Q : xQ) : xK := xAt xMks tTw_beside (cal d) lim Q
def kTw_beside : List (Nat × List Bool) := []
set_option maxRecDepth 20000 in
theorem wTw_beside_0 {d : Nat} {lim : Nat × Nat} {Q : xQ} {l1 l2 : Int} {l0 : Nat} {g : xG} {w : xW} (t : xIs g l0 (0, 5) ∧ x32 (l1 * 5) ∧ x32 ((l1 * 5) + l2) ∧ xAr g (g.2 l0 6) ((l1 * 5) + l2) ∧ Q (some (xi (w (g.2 l0 6) (Int.toNat ((l1 * 5) + l2))))) g w) :
    aTw_beside d lim Q 0 [xr l0, xi l1, xi l2] [] g w := xAt_exec (cal_m d) kTw_beside 10 t
theorem eTw_beside {d : Nat} {Q : xQ} {l1 l2 : Int} {l0 : Nat} {g : xG} {w : xW} (t : ∀ (lim : Nat × Nat) (Q2 : xQ), (∀ r g2 w2, g2.1 = g.1 → Q r g2 w2 → Q2 r g2 w2) → aTw_beside d lim Q2 0 [xr l0, xi l1, xi l2] [] g w) : cal (d + 1) nTw_beside [xr l0, xi l1, xi l2] g w Q := t _ _ xQof
abbrev aTw_sunAt (d : Nat) (lim : Nat × Nat) (Q : xQ) : xK := xAt xMks tTw_sunAt (cal d) lim Q
def kTw_sunAt : List (Nat × List Bool) := []
set_option maxRecDepth 20000 in
theorem wTw_sunAt_0 {d : Nat} {lim : Nat × Nat} {Q : xQ} {l1 : Int} {l0 : Nat} {g : xG} {w : xW} (t : xIs g l0 (0, 5) ∧ 
  ((1 ≤ (w l0 4)) → xIs g l0 (0, 5) ∧ ((6 : Int) ≠ 0 ∧ x32 (Int.tdiv l1 6)) ∧ xIs g l0 (0, 5) ∧ (((w l0 4) : Int) ≠ 0 ∧ x32 (Int.tdiv (Int.tdiv l1 6) (w l0 4))) ∧ xAr g (g.2 l0 8) (Int.tmod (Int.tdiv l1 6) (w l0 4)) ∧ Q (some (xi (w (g.2 l0 8) (Int.toNat (Int.tmod (Int.tdiv l1 6) (w l0 4)))))) g w) ∧
  (((w l0 4) < 1) → Q (some (xi 0)) g w)) :
    aTw_sunAt d lim Q 0 [xr l0, xi l1] [] g w := xAt_exec (cal_m d) kTw_sunAt 15 t
theorem eTw_sunAt {d : Nat} {Q : xQ} {l1 : Int} {l0 : Nat} {g : xG} {w : xW} (t : ∀ (lim : Nat × Nat) (Q2 : xQ), (∀ r g2 w2, g2.1 = g.1 → Q r g2 w2 → Q2 r g2 w2) → aTw_sunAt d lim Q2 0 [xr l0, xi l1] [] g w) : cal (d + 1) nTw_sunAt [xr l0, xi l1] g w Q := t _ _ xQof
abbrev aJd_bitCount (d : Nat) (lim : Nat × Nat) (Q : xQ) : xK := xAt xMks tJd_bitCount (cal d) lim Q
def kJd_bitCount : List (Nat × List Bool) := []
set_option maxRecDepth 20000 in
theorem wJd_bitCount_0 {d : Nat} {lim : Nat × Nat} {Q : xQ} {l0 : Int} {g : xG} {w : xW} (t : x32 (l0 - (xAnd (xUshr l0 1) 1431655765)) ∧ x32 ((xAnd (l0 - (xAnd (xUshr l0 1) 1431655765)) 858993459) + (xAnd (xUshr (l0 - (xAnd (xUshr l0 1) 1431655765)) 2) 858993459)) ∧ x32 (((xAnd (l0 - (xAnd (xUshr l0 1) 1431655765)) 858993459) + (xAnd (xUshr (l0 - (xAnd (xUshr l0 1) 1431655765)) 2) 858993459)) + (xUshr ((xAnd (l0 - (xAnd (xUshr l0 1) 1431655765)) 858993459) + (xAnd (xUshr (l0 - (xAnd (xUshr l0 1) 1431655765)) 2) 858993459)) 4)) ∧ x32 ((xAnd (((xAnd (l0 - (xAnd (xUshr l0 1) 1431655765)) 858993459) + (xAnd (xUshr (l0 - (xAnd (xUshr l0 1) 1431655765)) 2) 858993459)) + (xUshr ((xAnd (l0 - (xAnd (xUshr l0 1) 1431655765)) 858993459) + (xAnd (xUshr (l0 - (xAnd (xUshr l0 1) 1431655765)) 2) 858993459)) 4)) 252645135) + (xUshr (xAnd (((xAnd (l0 - (xAnd (xUshr l0 1) 1431655765)) 858993459) + (xAnd (xUshr (l0 - (xAnd (xUshr l0 1) 1431655765)) 2) 858993459)) + (xUshr ((xAnd (l0 - (xAnd (xUshr l0 1) 1431655765)) 858993459) + (xAnd (xUshr (l0 - (xAnd (xUshr l0 1) 1431655765)) 2) 858993459)) 4)) 252645135) 8)) ∧ x32 (((xAnd (((xAnd (l0 - (xAnd (xUshr l0 1) 1431655765)) 858993459) + (xAnd (xUshr (l0 - (xAnd (xUshr l0 1) 1431655765)) 2) 858993459)) + (xUshr ((xAnd (l0 - (xAnd (xUshr l0 1) 1431655765)) 858993459) + (xAnd (xUshr (l0 - (xAnd (xUshr l0 1) 1431655765)) 2) 858993459)) 4)) 252645135) + (xUshr (xAnd (((xAnd (l0 - (xAnd (xUshr l0 1) 1431655765)) 858993459) + (xAnd (xUshr (l0 - (xAnd (xUshr l0 1) 1431655765)) 2) 858993459)) + (xUshr ((xAnd (l0 - (xAnd (xUshr l0 1) 1431655765)) 858993459) + (xAnd (xUshr (l0 - (xAnd (xUshr l0 1) 1431655765)) 2) 858993459)) 4)) 252645135) 8)) + (xUshr ((xAnd (((xAnd (l0 - (xAnd (xUshr l0 1) 1431655765)) 858993459) + (xAnd (xUshr (l0 - (xAnd (xUshr l0 1) 1431655765)) 2) 858993459)) + (xUshr ((xAnd (l0 - (xAnd (xUshr l0 1) 1431655765)) 858993459) + (xAnd (xUshr (l0 - (xAnd (xUshr l0 1) 1431655765)) 2) 858993459)) 4)) 252645135) + (xUshr (xAnd (((xAnd (l0 - (xAnd (xUshr l0 1) 1431655765)) 858993459) + (xAnd (xUshr (l0 - (xAnd (xUshr l0 1) 1431655765)) 2) 858993459)) + (xUshr ((xAnd (l0 - (xAnd (xUshr l0 1) 1431655765)) 858993459) + (xAnd (xUshr (l0 - (xAnd (xUshr l0 1) 1431655765)) 2) 858993459)) 4)) 252645135) 8)) 16)) ∧ Q (some (xi (xAnd (((xAnd (((xAnd (l0 - (xAnd (xUshr l0 1) 1431655765)) 858993459) + (xAnd (xUshr (l0 - (xAnd (xUshr l0 1) 1431655765)) 2) 858993459)) + (xUshr ((xAnd (l0 - (xAnd (xUshr l0 1) 1431655765)) 858993459) + (xAnd (xUshr (l0 - (xAnd (xUshr l0 1) 1431655765)) 2) 858993459)) 4)) 252645135) + (xUshr (xAnd (((xAnd (l0 - (xAnd (xUshr l0 1) 1431655765)) 858993459) + (xAnd (xUshr (l0 - (xAnd (xUshr l0 1) 1431655765)) 2) 858993459)) + (xUshr ((xAnd (l0 - (xAnd (xUshr l0 1) 1431655765)) 858993459) + (xAnd (xUshr (l0 - (xAnd (xUshr l0 1) 1431655765)) 2) 858993459)) 4)) 252645135) 8)) + (xUshr ((xAnd (((xAnd (l0 - (xAnd (xUshr l0 1) 1431655765)) 858993459) + (xAnd (xUshr (l0 - (xAnd (xUshr l0 1) 1431655765)) 2) 858993459)) + (xUshr ((xAnd (l0 - (xAnd (xUshr l0 1) 1431655765)) 858993459) + (xAnd (xUshr (l0 - (xAnd (xUshr l0 1) 1431655765)) 2) 858993459)) 4)) 252645135) + (xUshr (xAnd (((xAnd (l0 - (xAnd (xUshr l0 1) 1431655765)) 858993459) + (xAnd (xUshr (l0 - (xAnd (xUshr l0 1) 1431655765)) 2) 858993459)) + (xUshr ((xAnd (l0 - (xAnd (xUshr l0 1) 1431655765)) 858993459) + (xAnd (xUshr (l0 - (xAnd (xUshr l0 1) 1431655765)) 2) 858993459)) 4)) 252645135) 8)) 16)) 63))) g w) :
    aJd_bitCount d lim Q 0 [xi l0] [] g w := xAt_exec (cal_m d) kJd_bitCount 43 t
theorem eJd_bitCount {d : Nat} {Q : xQ} {l0 : Int} {g : xG} {w : xW} (t : ∀ (lim : Nat × Nat) (Q2 : xQ), (∀ r g2 w2, g2.1 = g.1 → Q r g2 w2 → Q2 r g2 w2) → aJd_bitCount d lim Q2 0 [xi l0] [] g w) : cal (d + 1) nJd_bitCount [xi l0] g w Q := t _ _ xQof
abbrev aJd_max (d : Nat) (lim : Nat × Nat) (Q : xQ) : xK := xAt xMks tJd_max (cal d) lim Q
def kJd_max : List (Nat × List Bool) := []
set_option maxRecDepth 20000 in
theorem wJd_max_0 {d : Nat} {lim : Nat × Nat} {Q : xQ} {l0 l1 : Int} {g : xG} {w : xW} (t : 
  ((l0 < l1) → Q (some (xi l1)) g w) ∧
  ((l1 ≤ l0) → Q (some (xi l0)) g w)) :
    aJd_max d lim Q 0 [xi l0, xi l1] [] g w := xAt_exec (cal_m d) kJd_max 7 t
theorem eJd_max {d : Nat} {Q : xQ} {l0 l1 : Int} {g : xG} {w : xW} (t : ∀ (lim : Nat × Nat) (Q2 : xQ), (∀ r g2 w2, g2.1 = g.1 → Q r g2 w2 → Q2 r g2 w2) → aJd_max d lim Q2 0 [xi l0, xi l1] [] g w) : cal (d + 1) nJd_max [xi l0, xi l1] g w Q := t _ _ xQof
abbrev aJd_min (d : Nat) (lim : Nat × Nat) (Q : xQ) : xK := xAt xMks tJd_min (cal d) lim Q
def kJd_min : List (Nat × List Bool) := []
set_option maxRecDepth 20000 in
theorem wJd_min_0 {d : Nat} {lim : Nat × Nat} {Q : xQ} {l0 l1 : Int} {g : xG} {w : xW} (t : 
  ((l1 < l0) → Q (some (xi l1)) g w) ∧
  ((l0 ≤ l1) → Q (some (xi l0)) g w)) :
    aJd_min d lim Q 0 [xi l0, xi l1] [] g w := xAt_exec (cal_m d) kJd_min 7 t
theorem eJd_min {d : Nat} {Q : xQ} {l0 l1 : Int} {g : xG} {w : xW} (t : ∀ (lim : Nat × Nat) (Q2 : xQ), (∀ r g2 w2, g2.1 = g.1 → Q r g2 w2 → Q2 r g2 w2) → aJd_min d lim Q2 0 [xi l0, xi l1] [] g w) : cal (d + 1) nJd_min [xi l0, xi l1] g w Q := t _ _ xQof
abbrev aJd_fill (d : Nat) (lim : Nat × Nat) (Q : xQ) : xK := xAt xMks tJd_fill (cal d) lim Q
def kJd_fill : List (Nat × List Bool) := [(5, [true, true, true, true])]
set_option maxRecDepth 20000 in
theorem wJd_fill_0 {d : Nat} {lim : Nat × Nat} {Q : xQ} {l1 : Int} {l0 : Nat} {g : xG} {w : xW} (t : xAl g l0 ∧ aJd_fill d lim Q 5 [xr l0, xi l1, xi 0, xi (xlen g l0 : Nat)] [] g w) :
    aJd_fill d lim Q 0 [xr l0, xi l1, none, none] [] g w := xAt_exec (cal_m d) kJd_fill 6 t
set_option maxRecDepth 20000 in
theorem wJd_fill_5 {d : Nat} {lim : Nat × Nat} {Q : xQ} {l1 l2 l3 : Int} {l0 : Nat} {g : xG} {w : xW} (t : 
  ((l3 ≤ l2) → Q none g w) ∧
  ((l2 < l3) → xA1 g l0 l2 ∧ x32 (l2 + 1) ∧ aJd_fill d lim Q 5 [xr l0, xi l1, xi (l2 + 1), xi l3] [] g (xup w l0 (Int.toNat l2) l1))) :
    aJd_fill d lim Q 5 [xr l0, xi l1, xi l2, xi l3] [] g w := xAt_exec (cal_m d) kJd_fill 10 t
theorem eJd_fill {d : Nat} {Q : xQ} {l1 : Int} {l0 : Nat} {g : xG} {w : xW} (t : ∀ (lim : Nat × Nat) (Q2 : xQ), (∀ r g2 w2, g2.1 = g.1 → Q r g2 w2 → Q2 r g2 w2) → aJd_fill d lim Q2 0 [xr l0, xi l1, none, none] [] g w) : cal (d + 1) nJd_fill [xr l0, xi l1] g w Q := t _ _ xQof
end
section
abbrev aSt_clear (d : Nat) (lim : Nat × Nat) (Q : xQ) : xK := xAt xMks tSt_clear (cal d) lim Q
def kSt_clear : List (Nat × List Bool) := []
set_option maxRecDepth 20000 in
theorem wSt_clear_0 {d : Nat} {lim : Nat × Nat} {Q : xQ} {l0 : Nat} {g : xG} {w : xW} (t : xIs g l0 (0, 3) ∧ 
  cal d nJd_fill [xr (g.2 l0 2), xi (-1)] g w (fun r g1 w1 => r = none ∧ xIs g1 l0 (0, 3) ∧ 
    cal d nJd_fill [xr (g1.2 l0 3), xi 0] g1 w1 (fun r g2 w2 => r = none ∧ xIs g2 l0 (0, 3) ∧ 
      cal d nJd_fill [xr (g2.2 l0 4), xi 0] g2 w2 (fun r g3 w3 => r = none ∧ xIs g3 l0 (0, 3) ∧ 
        cal d nJd_fill [xr (g3.2 l0 6), xi 0] g3 w3 (fun r g4 w4 => r = none ∧ xIs g4 l0 (0, 3) ∧ 
          cal d nJd_fill [xr (g4.2 l0 9), xi 0] g4 w4 (fun r g5 w5 => r = none ∧ xIs g5 l0 (0, 3) ∧ 
            cal d nJd_fill [xr (g5.2 l0 10), xi 0] g5 w5 (fun r g6 w6 => r = none ∧ xIs g6 l0 (0, 3) ∧ 
              cal d nJd_fill [xr (g6.2 l0 11), xi 0] g6 w6 (fun r g7 w7 => r = none ∧ xIs g7 l0 (0, 3) ∧ xIs g7 l0 (0, 3) ∧ xIs g7 l0 (0, 3) ∧ xIs g7 l0 (0, 3) ∧ Q none g7 (xup (xup (xup (xup w7 l0 13 0) l0 14 0) l0 15 3) l0 16 0))))))))) :
    aSt_clear d lim Q 0 [xr l0] [] g w := xAt_exec (cal_m d) kSt_clear 42 t
theorem eSt_clear {d : Nat} {Q : xQ} {l0 : Nat} {g : xG} {w : xW} (t : ∀ (lim : Nat × Nat) (Q2 : xQ), (∀ r g2 w2, g2.1 = g.1 → Q r g2 w2 → Q2 r g2 w2) → aSt_clear d lim Q2 0 [xr l0] [] g w) : cal (d + 1) nSt_clear [xr l0] g w Q := t _ _ xQof
abbrev aSt_copyFrom (d : Nat) (lim : Nat × Nat) (Q : xQ) : xK := xAt xMks tSt_copyFrom (cal d) lim Q
def kSt_copyFrom : List (Nat × List Bool) := []
set_option maxRecDepth 20000 in
theorem wSt_copyFrom_0 {d : Nat} {lim : Nat × Nat} {Q : xQ} {l0 l1 : Nat} {g : xG} {w : xW} (t : xIs g l1 (0, 3) ∧ xIs g l0 (0, 3) ∧ (xCo g (g.2 l1 0) 0 20 ∧ xCo g (g.2 l0 0) 0 20) ∧ xIs g l1 (0, 3) ∧ xIs g l0 (0, 3) ∧ (xCo g (g.2 l1 2) 0 20 ∧ xCo g (g.2 l0 2) 0 20) ∧ xIs g l1 (0, 3) ∧ xIs g l0 (0, 3) ∧ (xCo g (g.2 l1 3) 0 20 ∧ xCo g (g.2 l0 3) 0 20) ∧ xIs g l1 (0, 3) ∧ xIs g l0 (0, 3) ∧ (xCo g (g.2 l1 4) 0 20 ∧ xCo g (g.2 l0 4) 0 20) ∧ xIs g l1 (0, 3) ∧ xIs g l0 (0, 3) ∧ (xCo g (g.2 l1 5) 0 4 ∧ xCo g (g.2 l0 5) 0 4) ∧ xIs g l1 (0, 3) ∧ xIs g l0 (0, 3) ∧ (xCo g (g.2 l1 6) 0 4 ∧ xCo g (g.2 l0 6) 0 4) ∧ xIs g l1 (0, 3) ∧ xIs g l0 (0, 3) ∧ (xCo g (g.2 l1 7) 0 6 ∧ xCo g (g.2 l0 7) 0 6) ∧ xIs g l1 (0, 3) ∧ xIs g l0 (0, 3) ∧ (xCo g (g.2 l1 8) 0 6 ∧ xCo g (g.2 l0 8) 0 6) ∧ xIs g l1 (0, 3) ∧ xIs g l0 (0, 3) ∧ (xCo g (g.2 l1 9) 0 6 ∧ xCo g (g.2 l0 9) 0 6) ∧ xIs g l1 (0, 3) ∧ xIs g l0 (0, 3) ∧ (xCo g (g.2 l1 10) 0 6 ∧ xCo g (g.2 l0 10) 0 6) ∧ xIs g l1 (0, 3) ∧ xIs g l0 (0, 3) ∧ (xCo g (g.2 l1 11) 0 6 ∧ xCo g (g.2 l0 11) 0 6) ∧ xIs g l1 (0, 3) ∧ xIs g l0 (0, 3) ∧ xIs g l1 (0, 3) ∧ xIs g l0 (0, 3) ∧ xIs g l1 (0, 3) ∧ xIs g l0 (0, 3) ∧ xIs g l1 (0, 3) ∧ xIs g l0 (0, 3) ∧ xIs g l1 (0, 3) ∧ xIs g l0 (0, 3) ∧ Q none g (xup (xup (xup (xup (xup (xcp (xcp (xcp (xcp (xcp (xcp (xcp (xcp (xcp (xcp (xcp w (g.2 l1 0) (Int.toNat 0) (g.2 l0 0) (Int.toNat 0) (Int.toNat 20)) (g.2 l1 2) (Int.toNat 0) (g.2 l0 2) (Int.toNat 0) (Int.toNat 20)) (g.2 l1 3) (Int.toNat 0) (g.2 l0 3) (Int.toNat 0) (Int.toNat 20)) (g.2 l1 4) (Int.toNat 0) (g.2 l0 4) (Int.toNat 0) (Int.toNat 20)) (g.2 l1 5) (Int.toNat 0) (g.2 l0 5) (Int.toNat 0) (Int.toNat 4)) (g.2 l1 6) (Int.toNat 0) (g.2 l0 6) (Int.toNat 0) (Int.toNat 4)) (g.2 l1 7) (Int.toNat 0) (g.2 l0 7) (Int.toNat 0) (Int.toNat 6)) (g.2 l1 8) (Int.toNat 0) (g.2 l0 8) (Int.toNat 0) (Int.toNat 6)) (g.2 l1 9) (Int.toNat 0) (g.2 l0 9) (Int.toNat 0) (Int.toNat 6)) (g.2 l1 10) (Int.toNat 0) (g.2 l0 10) (Int.toNat 0) (Int.toNat 6)) (g.2 l1 11) (Int.toNat 0) (g.2 l0 11) (Int.toNat 0) (Int.toNat 6)) l0 13 ((xcp (xcp (xcp (xcp (xcp (xcp (xcp (xcp (xcp (xcp (xcp w (g.2 l1 0) (Int.toNat 0) (g.2 l0 0) (Int.toNat 0) (Int.toNat 20)) (g.2 l1 2) (Int.toNat 0) (g.2 l0 2) (Int.toNat 0) (Int.toNat 20)) (g.2 l1 3) (Int.toNat 0) (g.2 l0 3) (Int.toNat 0) (Int.toNat 20)) (g.2 l1 4) (Int.toNat 0) (g.2 l0 4) (Int.toNat 0) (Int.toNat 20)) (g.2 l1 5) (Int.toNat 0) (g.2 l0 5) (Int.toNat 0) (Int.toNat 4)) (g.2 l1 6) (Int.toNat 0) (g.2 l0 6) (Int.toNat 0) (Int.toNat 4)) (g.2 l1 7) (Int.toNat 0) (g.2 l0 7) (Int.toNat 0) (Int.toNat 6)) (g.2 l1 8) (Int.toNat 0) (g.2 l0 8) (Int.toNat 0) (Int.toNat 6)) (g.2 l1 9) (Int.toNat 0) (g.2 l0 9) (Int.toNat 0) (Int.toNat 6)) (g.2 l1 10) (Int.toNat 0) (g.2 l0 10) (Int.toNat 0) (Int.toNat 6)) (g.2 l1 11) (Int.toNat 0) (g.2 l0 11) (Int.toNat 0) (Int.toNat 6)) l1 13)) l0 14 ((xup (xcp (xcp (xcp (xcp (xcp (xcp (xcp (xcp (xcp (xcp (xcp w (g.2 l1 0) (Int.toNat 0) (g.2 l0 0) (Int.toNat 0) (Int.toNat 20)) (g.2 l1 2) (Int.toNat 0) (g.2 l0 2) (Int.toNat 0) (Int.toNat 20)) (g.2 l1 3) (Int.toNat 0) (g.2 l0 3) (Int.toNat 0) (Int.toNat 20)) (g.2 l1 4) (Int.toNat 0) (g.2 l0 4) (Int.toNat 0) (Int.toNat 20)) (g.2 l1 5) (Int.toNat 0) (g.2 l0 5) (Int.toNat 0) (Int.toNat 4)) (g.2 l1 6) (Int.toNat 0) (g.2 l0 6) (Int.toNat 0) (Int.toNat 4)) (g.2 l1 7) (Int.toNat 0) (g.2 l0 7) (Int.toNat 0) (Int.toNat 6)) (g.2 l1 8) (Int.toNat 0) (g.2 l0 8) (Int.toNat 0) (Int.toNat 6)) (g.2 l1 9) (Int.toNat 0) (g.2 l0 9) (Int.toNat 0) (Int.toNat 6)) (g.2 l1 10) (Int.toNat 0) (g.2 l0 10) (Int.toNat 0) (Int.toNat 6)) (g.2 l1 11) (Int.toNat 0) (g.2 l0 11) (Int.toNat 0) (Int.toNat 6)) l0 13 ((xcp (xcp (xcp (xcp (xcp (xcp (xcp (xcp (xcp (xcp (xcp w (g.2 l1 0) (Int.toNat 0) (g.2 l0 0) (Int.toNat 0) (Int.toNat 20)) (g.2 l1 2) (Int.toNat 0) (g.2 l0 2) (Int.toNat 0) (Int.toNat 20)) (g.2 l1 3) (Int.toNat 0) (g.2 l0 3) (Int.toNat 0) (Int.toNat 20)) (g.2 l1 4) (Int.toNat 0) (g.2 l0 4) (Int.toNat 0) (Int.toNat 20)) (g.2 l1 5) (Int.toNat 0) (g.2 l0 5) (Int.toNat 0) (Int.toNat 4)) (g.2 l1 6) (Int.toNat 0) (g.2 l0 6) (Int.toNat 0) (Int.toNat 4)) (g.2 l1 7) (Int.toNat 0) (g.2 l0 7) (Int.toNat 0) (Int.toNat 6)) (g.2 l1 8) (Int.toNat 0) (g.2 l0 8) (Int.toNat 0) (Int.toNat 6)) (g.2 l1 9) (Int.toNat 0) (g.2 l0 9) (Int.toNat 0) (Int.toNat 6)) (g.2 l1 10) (Int.toNat 0) (g.2 l0 10) (Int.toNat 0) (Int.toNat 6)) (g.2 l1 11) (Int.toNat 0) (g.2 l0 11) (Int.toNat 0) (Int.toNat 6)) l1 13)) l1 14)) l0 15 ((xup (xup (xcp (xcp (xcp (xcp (xcp (xcp (xcp (xcp (xcp (xcp (xcp w (g.2 l1 0) (Int.toNat 0) (g.2 l0 0) (Int.toNat 0) (Int.toNat 20)) (g.2 l1 2) (Int.toNat 0) (g.2 l0 2) (Int.toNat 0) (Int.toNat 20)) (g.2 l1 3) (Int.toNat 0) (g.2 l0 3) (Int.toNat 0) (Int.toNat 20)) (g.2 l1 4) (Int.toNat 0) (g.2 l0 4) (Int.toNat 0) (Int.toNat 20)) (g.2 l1 5) (Int.toNat 0) (g.2 l0 5) (Int.toNat 0) (Int.toNat 4)) (g.2 l1 6) (Int.toNat 0) (g.2 l0 6) (Int.toNat 0) (Int.toNat 4)) (g.2 l1 7) (Int.toNat 0) (g.2 l0 7) (Int.toNat 0) (Int.toNat 6)) (g.2 l1 8) (Int.toNat 0) (g.2 l0 8) (Int.toNat 0) (Int.toNat 6)) (g.2 l1 9) (Int.toNat 0) (g.2 l0 9) (Int.toNat 0) (Int.toNat 6)) (g.2 l1 10) (Int.toNat 0) (g.2 l0 10) (Int.toNat 0) (Int.toNat 6)) (g.2 l1 11) (Int.toNat 0) (g.2 l0 11) (Int.toNat 0) (Int.toNat 6)) l0 13 ((xcp (xcp (xcp (xcp (xcp (xcp (xcp (xcp (xcp (xcp (xcp w (g.2 l1 0) (Int.toNat 0) (g.2 l0 0) (Int.toNat 0) (Int.toNat 20)) (g.2 l1 2) (Int.toNat 0) (g.2 l0 2) (Int.toNat 0) (Int.toNat 20)) (g.2 l1 3) (Int.toNat 0) (g.2 l0 3) (Int.toNat 0) (Int.toNat 20)) (g.2 l1 4) (Int.toNat 0) (g.2 l0 4) (Int.toNat 0) (Int.toNat 20)) (g.2 l1 5) (Int.toNat 0) (g.2 l0 5) (Int.toNat 0) (Int.toNat 4)) (g.2 l1 6) (Int.toNat 0) (g.2 l0 6) (Int.toNat 0) (Int.toNat 4)) (g.2 l1 7) (Int.toNat 0) (g.2 l0 7) (Int.toNat 0) (Int.toNat 6)) (g.2 l1 8) (Int.toNat 0) (g.2 l0 8) (Int.toNat 0) (Int.toNat 6)) (g.2 l1 9) (Int.toNat 0) (g.2 l0 9) (Int.toNat 0) (Int.toNat 6)) (g.2 l1 10) (Int.toNat 0) (g.2 l0 10) (Int.toNat 0) (Int.toNat 6)) (g.2 l1 11) (Int.toNat 0) (g.2 l0 11) (Int.toNat 0) (Int.toNat 6)) l1 13)) l0 14 ((xup (xcp (xcp (xcp (xcp (xcp (xcp (xcp (xcp (xcp (xcp (xcp w (g.2 l1 0) (Int.toNat 0) (g.2 l0 0) (Int.toNat 0) (Int.toNat 20)) (g.2 l1 2) (Int.toNat 0) (g.2 l0 2) (Int.toNat 0) (Int.toNat 20)) (g.2 l1 3) (Int.toNat 0) (g.2 l0 3) (Int.toNat 0) (Int.toNat 20)) (g.2 l1 4) (Int.toNat 0) (g.2 l0 4) (Int.toNat 0) (Int.toNat 20)) (g.2 l1 5) (Int.toNat 0) (g.2 l0 5) (Int.toNat 0) (Int.toNat 4)) (g.2 l1 6) (Int.toNat 0) (g.2 l0 6) (Int.toNat 0) (Int.toNat 4)) (g.2 l1 7) (Int.toNat 0) (g.2 l0 7) (Int.toNat 0) (Int.toNat 6)) (g.2 l1 8) (Int.toNat 0) (g.2 l0 8) (Int.toNat 0) (Int.toNat 6)) (g.2 l1 9) (Int.toNat 0) (g.2 l0 9) (Int.toNat 0) (Int.toNat 6)) (g.2 l1 10) (Int.toNat 0) (g.2 l0 10) (Int.toNat 0) (Int.toNat 6)) (g.2 l1 11) (Int.toNat 0) (g.2 l0 11) (Int.toNat 0) (Int.toNat 6)) l0 13 ((xcp (xcp (xcp (xcp (xcp (xcp (xcp (xcp (xcp (xcp (xcp w (g.2 l1 0) (Int.toNat 0) (g.2 l0 0) (Int.toNat 0) (Int.toNat 20)) (g.2 l1 2) (Int.toNat 0) (g.2 l0 2) (Int.toNat 0) (Int.toNat 20)) (g.2 l1 3) (Int.toNat 0) (g.2 l0 3) (Int.toNat 0) (Int.toNat 20)) (g.2 l1 4) (Int.toNat 0) (g.2 l0 4) (Int.toNat 0) (Int.toNat 20)) (g.2 l1 5) (Int.toNat 0) (g.2 l0 5) (Int.toNat 0) (Int.toNat 4)) (g.2 l1 6) (Int.toNat 0) (g.2 l0 6) (Int.toNat 0) (Int.toNat 4)) (g.2 l1 7) (Int.toNat 0) (g.2 l0 7) (Int.toNat 0) (Int.toNat 6)) (g.2 l1 8) (Int.toNat 0) (g.2 l0 8) (Int.toNat 0) (Int.toNat 6)) (g.2 l1 9) (Int.toNat 0) (g.2 l0 9) (Int.toNat 0) (Int.toNat 6)) (g.2 l1 10) (Int.toNat 0) (g.2 l0 10) (Int.toNat 0) (Int.toNat 6)) (g.2 l1 11) (Int.toNat 0) (g.2 l0 11) (Int.toNat 0) (Int.toNat 6)) l1 13)) l1 14)) l1 15)) l0 16 ((xup (xup (xup (xcp (xcp (xcp (xcp (xcp (xcp (xcp (xcp (xcp (xcp (xcp w (g.2 l1 0) (Int.toNat 0) (g.2 l0 0) (Int.toNat 0) (Int.toNat 20)) (g.2 l1 2) (Int.toNat 0) (g.2 l0 2) (Int.toNat 0) (Int.toNat 20)) (g.2 l1 3) (Int.toNat 0) (g.2 l0 3) (Int.toNat 0) (Int.toNat 20)) (g.2 l1 4) (Int.toNat 0) (g.2 l0 4) (Int.toNat 0) (Int.toNat 20)) (g.2 l1 5) (Int.toNat 0) (g.2 l0 5) (Int.toNat 0) (Int.toNat 4)) (g.2 l1 6) (Int.toNat 0) (g.2 l0 6) (Int.toNat 0) (Int.toNat 4)) (g.2 l1 7) (Int.toNat 0) (g.2 l0 7) (Int.toNat 0) (Int.toNat 6)) (g.2 l1 8) (Int.toNat 0) (g.2 l0 8) (Int.toNat 0) (Int.toNat 6)) (g.2 l1 9) (Int.toNat 0) (g.2 l0 9) (Int.toNat 0) (Int.toNat 6)) (g.2 l1 10) (Int.toNat 0) (g.2 l0 10) (Int.toNat 0) (Int.toNat 6)) (g.2 l1 11) (Int.toNat 0) (g.2 l0 11) (Int.toNat 0) (Int.toNat 6)) l0 13 ((xcp (xcp (xcp (xcp (xcp (xcp (xcp (xcp (xcp (xcp (xcp w (g.2 l1 0) (Int.toNat 0) (g.2 l0 0) (Int.toNat 0) (Int.toNat 20)) (g.2 l1 2) (Int.toNat 0) (g.2 l0 2) (Int.toNat 0) (Int.toNat 20)) (g.2 l1 3) (Int.toNat 0) (g.2 l0 3) (Int.toNat 0) (Int.toNat 20)) (g.2 l1 4) (Int.toNat 0) (g.2 l0 4) (Int.toNat 0) (Int.toNat 20)) (g.2 l1 5) (Int.toNat 0) (g.2 l0 5) (Int.toNat 0) (Int.toNat 4)) (g.2 l1 6) (Int.toNat 0) (g.2 l0 6) (Int.toNat 0) (Int.toNat 4)) (g.2 l1 7) (Int.toNat 0) (g.2 l0 7) (Int.toNat 0) (Int.toNat 6)) (g.2 l1 8) (Int.toNat 0) (g.2 l0 8) (Int.toNat 0) (Int.toNat 6)) (g.2 l1 9) (Int.toNat 0) (g.2 l0 9) (Int.toNat 0) (Int.toNat 6)) (g.2 l1 10) (Int.toNat 0) (g.2 l0 10) (Int.toNat 0) (Int.toNat 6)) (g.2 l1 11) (Int.toNat 0) (g.2 l0 11) (Int.toNat 0) (Int.toNat 6)) l1 13)) l0 14 ((xup (xcp (xcp (xcp (xcp (xcp (xcp (xcp (xcp (xcp (xcp (xcp w (g.2 l1 0) (Int.toNat 0) (g.2 l0 0) (Int.toNat 0) (Int.toNat 20)) (g.2 l1 2) (Int.toNat 0) (g.2 l0 2) (Int.toNat 0) (Int.toNat 20)) (g.2 l1 3) (Int.toNat 0) (g.2 l0 3) (Int.toNat 0) (Int.toNat 20)) (g.2 l1 4) (Int.toNat 0) (g.2 l0 4) (Int.toNat 0) (Int.toNat 20)) (g.2 l1 5) (Int.toNat 0) (g.2 l0 5) (Int.toNat 0) (Int.toNat 4)) (g.2 l1 6) (Int.toNat 0) (g.2 l0 6) (Int.toNat 0) (Int.toNat 4)) (g.2 l1 7) (Int.toNat 0) (g.2 l0 7) (Int.toNat 0) (Int.toNat 6)) (g.2 l1 8) (Int.toNat 0) (g.2 l0 8) (Int.toNat 0) (Int.toNat 6)) (g.2 l1 9) (Int.toNat 0) (g.2 l0 9) (Int.toNat 0) (Int.toNat 6)) (g.2 l1 10) (Int.toNat 0) (g.2 l0 10) (Int.toNat 0) (Int.toNat 6)) (g.2 l1 11) (Int.toNat 0) (g.2 l0 11) (Int.toNat 0) (Int.toNat 6)) l0 13 ((xcp (xcp (xcp (xcp (xcp (xcp (xcp (xcp (xcp (xcp (xcp w (g.2 l1 0) (Int.toNat 0) (g.2 l0 0) (Int.toNat 0) (Int.toNat 20)) (g.2 l1 2) (Int.toNat 0) (g.2 l0 2) (Int.toNat 0) (Int.toNat 20)) (g.2 l1 3) (Int.toNat 0) (g.2 l0 3) (Int.toNat 0) (Int.toNat 20)) (g.2 l1 4) (Int.toNat 0) (g.2 l0 4) (Int.toNat 0) (Int.toNat 20)) (g.2 l1 5) (Int.toNat 0) (g.2 l0 5) (Int.toNat 0) (Int.toNat 4)) (g.2 l1 6) (Int.toNat 0) (g.2 l0 6) (Int.toNat 0) (Int.toNat 4)) (g.2 l1 7) (Int.toNat 0) (g.2 l0 7) (Int.toNat 0) (Int.toNat 6)) (g.2 l1 8) (Int.toNat 0) (g.2 l0 8) (Int.toNat 0) (Int.toNat 6)) (g.2 l1 9) (Int.toNat 0) (g.2 l0 9) (Int.toNat 0) (Int.toNat 6)) (g.2 l1 10) (Int.toNat 0) (g.2 l0 10) (Int.toNat 0) (Int.toNat 6)) (g.2 l1 11) (Int.toNat 0) (g.2 l0 11) (Int.toNat 0) (Int.toNat 6)) l1 13)) l1 14)) l0 15 ((xup (xup (xcp (xcp (xcp (xcp (xcp (xcp (xcp (xcp (xcp (xcp (xcp w (g.2 l1 0) (Int.toNat 0) (g.2 l0 0) (Int.toNat 0) (Int.toNat 20)) (g.2 l1 2) (Int.toNat 0) (g.2 l0 2) (Int.toNat 0) (Int.toNat 20)) (g.2 l1 3) (Int.toNat 0) (g.2 l0 3) (Int.toNat 0) (Int.toNat 20)) (g.2 l1 4) (Int.toNat 0) (g.2 l0 4) (Int.toNat 0) (Int.toNat 20)) (g.2 l1 5) (Int.toNat 0) (g.2 l0 5) (Int.toNat 0) (Int.toNat 4)) (g.2 l1 6) (Int.toNat 0) (g.2 l0 6) (Int.toNat 0) (Int.toNat 4)) (g.2 l1 7) (Int.toNat 0) (g.2 l0 7) (Int.toNat 0) (Int.toNat 6)) (g.2 l1 8) (Int.toNat 0) (g.2 l0 8) (Int.toNat 0) (Int.toNat 6)) (g.2 l1 9) (Int.toNat 0) (g.2 l0 9) (Int.toNat 0) (Int.toNat 6)) (g.2 l1 10) (Int.toNat 0) (g.2 l0 10) (Int.toNat 0) (Int.toNat 6)) (g.2 l1 11) (Int.toNat 0) (g.2 l0 11) (Int.toNat 0) (Int.toNat 6)) l0 13 ((xcp (xcp (xcp (xcp (xcp (xcp (xcp (xcp (xcp (xcp (xcp w (g.2 l1 0) (Int.toNat 0) (g.2 l0 0) (Int.toNat 0) (Int.toNat 20)) (g.2 l1 2) (Int.toNat 0) (g.2 l0 2) (Int.toNat 0) (Int.toNat 20)) (g.2 l1 3) (Int.toNat 0) (g.2 l0 3) (Int.toNat 0) (Int.toNat 20)) (g.2 l1 4) (Int.toNat 0) (g.2 l0 4) (Int.toNat 0) (Int.toNat 20)) (g.2 l1 5) (Int.toNat 0) (g.2 l0 5) (Int.toNat 0) (Int.toNat 4)) (g.2 l1 6) (Int.toNat 0) (g.2 l0 6) (Int.toNat 0) (Int.toNat 4)) (g.2 l1 7) (Int.toNat 0) (g.2 l0 7) (Int.toNat 0) (Int.toNat 6)) (g.2 l1 8) (Int.toNat 0) (g.2 l0 8) (Int.toNat 0) (Int.toNat 6)) (g.2 l1 9) (Int.toNat 0) (g.2 l0 9) (Int.toNat 0) (Int.toNat 6)) (g.2 l1 10) (Int.toNat 0) (g.2 l0 10) (Int.toNat 0) (Int.toNat 6)) (g.2 l1 11) (Int.toNat 0) (g.2 l0 11) (Int.toNat 0) (Int.toNat 6)) l1 13)) l0 14 ((xup (xcp (xcp (xcp (xcp (xcp (xcp (xcp (xcp (xcp (xcp (xcp w (g.2 l1 0) (Int.toNat 0) (g.2 l0 0) (Int.toNat 0) (Int.toNat 20)) (g.2 l1 2) (Int.toNat 0) (g.2 l0 2) (Int.toNat 0) (Int.toNat 20)) (g.2 l1 3) (Int.toNat 0) (g.2 l0 3) (Int.toNat 0) (Int.toNat 20)) (g.2 l1 4) (Int.toNat 0) (g.2 l0 4) (Int.toNat 0) (Int.toNat 20)) (g.2 l1 5) (Int.toNat 0) (g.2 l0 5) (Int.toNat 0) (Int.toNat 4)) (g.2 l1 6) (Int.toNat 0) (g.2 l0 6) (Int.toNat 0) (Int.toNat 4)) (g.2 l1 7) (Int.toNat 0) (g.2 l0 7) (Int.toNat 0) (Int.toNat 6)) (g.2 l1 8) (Int.toNat 0) (g.2 l0 8) (Int.toNat 0) (Int.toNat 6)) (g.2 l1 9) (Int.toNat 0) (g.2 l0 9) (Int.toNat 0) (Int.toNat 6)) (g.2 l1 10) (Int.toNat 0) (g.2 l0 10) (Int.toNat 0) (Int.toNat 6)) (g.2 l1 11) (Int.toNat 0) (g.2 l0 11) (Int.toNat 0) (Int.toNat 6)) l0 13 ((xcp (xcp (xcp (xcp (xcp (xcp (xcp (xcp (xcp (xcp (xcp w (g.2 l1 0) (Int.toNat 0) (g.2 l0 0) (Int.toNat 0) (Int.toNat 20)) (g.2 l1 2) (Int.toNat 0) (g.2 l0 2) (Int.toNat 0) (Int.toNat 20)) (g.2 l1 3) (Int.toNat 0) (g.2 l0 3) (Int.toNat 0) (Int.toNat 20)) (g.2 l1 4) (Int.toNat 0) (g.2 l0 4) (Int.toNat 0) (Int.toNat 20)) (g.2 l1 5) (Int.toNat 0) (g.2 l0 5) (Int.toNat 0) (Int.toNat 4)) (g.2 l1 6) (Int.toNat 0) (g.2 l0 6) (Int.toNat 0) (Int.toNat 4)) (g.2 l1 7) (Int.toNat 0) (g.2 l0 7) (Int.toNat 0) (Int.toNat 6)) (g.2 l1 8) (Int.toNat 0) (g.2 l0 8) (Int.toNat 0) (Int.toNat 6)) (g.2 l1 9) (Int.toNat 0) (g.2 l0 9) (Int.toNat 0) (Int.toNat 6)) (g.2 l1 10) (Int.toNat 0) (g.2 l0 10) (Int.toNat 0) (Int.toNat 6)) (g.2 l1 11) (Int.toNat 0) (g.2 l0 11) (Int.toNat 0) (Int.toNat 6)) l1 13)) l1 14)) l1 15)) l1 16)) l0 17 ((xup (xup (xup (xup (xcp (xcp (xcp (xcp (xcp (xcp (xcp (xcp (xcp (xcp (xcp w (g.2 l1 0) (Int.toNat 0) (g.2 l0 0) (Int.toNat 0) (Int.toNat 20)) (g.2 l1 2) (Int.toNat 0) (g.2 l0 2) (Int.toNat 0) (Int.toNat 20)) (g.2 l1 3) (Int.toNat 0) (g.2 l0 3) (Int.toNat 0) (Int.toNat 20)) (g.2 l1 4) (Int.toNat 0) (g.2 l0 4) (Int.toNat 0) (Int.toNat 20)) (g.2 l1 5) (Int.toNat 0) (g.2 l0 5) (Int.toNat 0) (Int.toNat 4)) (g.2 l1 6) (Int.toNat 0) (g.2 l0 6) (Int.toNat 0) (Int.toNat 4)) (g.2 l1 7) (Int.toNat 0) (g.2 l0 7) (Int.toNat 0) (Int.toNat 6)) (g.2 l1 8) (Int.toNat 0) (g.2 l0 8) (Int.toNat 0) (Int.toNat 6)) (g.2 l1 9) (Int.toNat 0) (g.2 l0 9) (Int.toNat 0) (Int.toNat 6)) (g.2 l1 10) (Int.toNat 0) (g.2 l0 10) (Int.toNat 0) (Int.toNat 6)) (g.2 l1 11) (Int.toNat 0) (g.2 l0 11) (Int.toNat 0) (Int.toNat 6)) l0 13 ((xcp (xcp (xcp (xcp (xcp (xcp (xcp (xcp (xcp (xcp (xcp w (g.2 l1 0) (Int.toNat 0) (g.2 l0 0) (Int.toNat 0) (Int.toNat 20)) (g.2 l1 2) (Int.toNat 0) (g.2 l0 2) (Int.toNat 0) (Int.toNat 20)) (g.2 l1 3) (Int.toNat 0) (g.2 l0 3) (Int.toNat 0) (Int.toNat 20)) (g.2 l1 4) (Int.toNat 0) (g.2 l0 4) (Int.toNat 0) (Int.toNat 20)) (g.2 l1 5) (Int.toNat 0) (g.2 l0 5) (Int.toNat 0) (Int.toNat 4)) (g.2 l1 6) (Int.toNat 0) (g.2 l0 6) (Int.toNat 0) (Int.toNat 4)) (g.2 l1 7) (Int.toNat 0) (g.2 l0 7) (Int.toNat 0) (Int.toNat 6)) (g.2 l1 8) (Int.toNat 0) (g.2 l0 8) (Int.toNat 0) (Int.toNat 6)) (g.2 l1 9) (Int.toNat 0) (g.2 l0 9) (Int.toNat 0) (Int.toNat 6)) (g.2 l1 10) (Int.toNat 0) (g.2 l0 10) (Int.toNat 0) (Int.toNat 6)) (g.2 l1 11) (Int.toNat 0) (g.2 l0 11) (Int.toNat 0) (Int.toNat 6)) l1 13)) l0 14 ((xup (xcp (xcp (xcp (xcp (xcp (xcp (xcp (xcp (xcp (xcp (xcp w (g.2 l1 0) (Int.toNat 0) (g.2 l0 0) (Int.toNat 0) (Int.toNat 20)) (g.2 l1 2) (Int.toNat 0) (g.2 l0 2) (Int.toNat 0) (Int.toNat 20)) (g.2 l1 3) (Int.toNat 0) (g.2 l0 3) (Int.toNat 0) (Int.toNat 20)) (g.2 l1 4) (Int.toNat 0) (g.2 l0 4) (Int.toNat 0) (Int.toNat 20)) (g.2 l1 5) (Int.toNat 0) (g.2 l0 5) (Int.toNat 0) (Int.toNat 4)) (g.2 l1 6) (Int.toNat 0) (g.2 l0 6) (Int.toNat 0) (Int.toNat 4)) (g.2 l1 7) (Int.toNat 0) (g.2 l0 7) (Int.toNat 0) (Int.toNat 6)) (g.2 l1 8) (Int.toNat 0) (g.2 l0 8) (Int.toNat 0) (Int.toNat 6)) (g.2 l1 9) (Int.toNat 0) (g.2 l0 9) (Int.toNat 0) (Int.toNat 6)) (g.2 l1 10) (Int.toNat 0) (g.2 l0 10) (Int.toNat 0) (Int.toNat 6)) (g.2 l1 11) (Int.toNat 0) (g.2 l0 11) (Int.toNat 0) (Int.toNat 6)) l0 13 ((xcp (xcp (xcp (xcp (xcp (xcp (xcp (xcp (xcp (xcp (xcp w (g.2 l1 0) (Int.toNat 0) (g.2 l0 0) (Int.toNat 0) (Int.toNat 20)) (g.2 l1 2) (Int.toNat 0) (g.2 l0 2) (Int.toNat 0) (Int.toNat 20)) (g.2 l1 3) (Int.toNat 0) (g.2 l0 3) (Int.toNat 0) (Int.toNat 20)) (g.2 l1 4) (Int.toNat 0) (g.2 l0 4) (Int.toNat 0) (Int.toNat 20)) (g.2 l1 5) (Int.toNat 0) (g.2 l0 5) (Int.toNat 0) (Int.toNat 4)) (g.2 l1 6) (Int.toNat 0) (g.2 l0 6) (Int.toNat 0) (Int.toNat 4)) (g.2 l1 7) (Int.toNat 0) (g.2 l0 7) (Int.toNat 0) (Int.toNat 6)) (g.2 l1 8) (Int.toNat 0) (g.2 l0 8) (Int.toNat 0) (Int.toNat 6)) (g.2 l1 9) (Int.toNat 0) (g.2 l0 9) (Int.toNat 0) (Int.toNat 6)) (g.2 l1 10) (Int.toNat 0) (g.2 l0 10) (Int.toNat 0) (Int.toNat 6)) (g.2 l1 11) (Int.toNat 0) (g.2 l0 11) (Int.toNat 0) (Int.toNat 6)) l1 13)) l1 14)) l0 15 ((xup (xup (xcp (xcp (xcp (xcp (xcp (xcp (xcp (xcp (xcp (xcp (xcp w (g.2 l1 0) (Int.toNat 0) (g.2 l0 0) (Int.toNat 0) (Int.toNat 20)) (g.2 l1 2) (Int.toNat 0) (g.2 l0 2) (Int.toNat 0) (Int.toNat 20)) (g.2 l1 3) (Int.toNat 0) (g.2 l0 3) (Int.toNat 0) (Int.toNat 20)) (g.2 l1 4) (Int.toNat 0) (g.2 l0 4) (Int.toNat 0) (Int.toNat 20)) (g.2 l1 5) (Int.toNat 0) (g.2 l0 5) (Int.toNat 0) (Int.toNat 4)) (g.2 l1 6) (Int.toNat 0) (g.2 l0 6) (Int.toNat 0) (Int.toNat 4)) (g.2 l1 7) (Int.toNat 0) (g.2 l0 7) (Int.toNat 0) (Int.toNat 6)) (g.2 l1 8) (Int.toNat 0) (g.2 l0 8) (Int.toNat 0) (Int.toNat 6)) (g.2 l1 9) (Int.toNat 0) (g.2 l0 9) (Int.toNat 0) (Int.toNat 6)) (g.2 l1 10) (Int.toNat 0) (g.2 l0 10) (Int.toNat 0) (Int.toNat 6)) (g.2 l1 11) (Int.toNat 0) (g.2 l0 11) (Int.toNat 0) (Int.toNat 6)) l0 13 ((xcp (xcp (xcp (xcp (xcp (xcp (xcp (xcp (xcp (xcp (xcp w (g.2 l1 0) (Int.toNat 0) (g.2 l0 0) (Int.toNat 0) (Int.toNat 20)) (g.2 l1 2) (Int.toNat 0) (g.2 l0 2) (Int.toNat 0) (Int.toNat 20)) (g.2 l1 3) (Int.toNat 0) (g.2 l0 3) (Int.toNat 0) (Int.toNat 20)) (g.2 l1 4) (Int.toNat 0) (g.2 l0 4) (Int.toNat 0) (Int.toNat 20)) (g.2 l1 5) (Int.toNat 0) (g.2 l0 5) (Int.toNat 0) (Int.toNat 4)) (g.2 l1 6) (Int.toNat 0) (g.2 l0 6) (Int.toNat 0) (Int.toNat 4)) (g.2 l1 7) (Int.toNat 0) (g.2 l0 7) (Int.toNat 0) (Int.toNat 6)) (g.2 l1 8) (Int.toNat 0) (g.2 l0 8) (Int.toNat 0) (Int.toNat 6)) (g.2 l1 9) (Int.toNat 0) (g.2 l0 9) (Int.toNat 0) (Int.toNat 6)) (g.2 l1 10) (Int.toNat 0) (g.2 l0 10) (Int.toNat 0) (Int.toNat 6)) (g.2 l1 11) (Int.toNat 0) (g.2 l0 11) (Int.toNat 0) (Int.toNat 6)) l1 13)) l0 14 ((xup (xcp (xcp (xcp (xcp (xcp (xcp (xcp (xcp (xcp (xcp (xcp w (g.2 l1 0) (Int.toNat 0) (g.2 l0 0) (Int.toNat 0) (Int.toNat 20)) (g.2 l1 2) (Int.toNat 0) (g.2 l0 2) (Int.toNat 0) (Int.toNat 20)) (g.2 l1 3) (Int.toNat 0) (g.2 l0 3) (Int.toNat 0) (Int.toNat 20)) (g.2 l1 4) (Int.toNat 0) (g.2 l0 4) (Int.toNat 0) (Int.toNat 20)) (g.2 l1 5) (Int.toNat 0) (g.2 l0 5) (Int.toNat 0) (Int.toNat 4)) (g.2 l1 6) (Int.toNat 0) (g.2 l0 6) (Int.toNat 0) (Int.toNat 4)) (g.2 l1 7) (Int.toNat 0) (g.2 l0 7) (Int.toNat 0) (Int.toNat 6)) (g.2 l1 8) (Int.toNat 0) (g.2 l0 8) (Int.toNat 0) (Int.toNat 6)) (g.2 l1 9) (Int.toNat 0) (g.2 l0 9) (Int.toNat 0) (Int.toNat 6)) (g.2 l1 10) (Int.toNat 0) (g.2 l0 10) (Int.toNat 0) (Int.toNat 6)) (g.2 l1 11) (Int.toNat 0) (g.2 l0 11) (Int.toNat 0) (Int.toNat 6)) l0 13 ((xcp (xcp (xcp (xcp (xcp (xcp (xcp (xcp (xcp (xcp (xcp w (g.2 l1 0) (Int.toNat 0) (g.2 l0 0) (Int.toNat 0) (Int.toNat 20)) (g.2 l1 2) (Int.toNat 0) (g.2 l0 2) (Int.toNat 0) (Int.toNat 20)) (g.2 l1 3) (Int.toNat 0) (g.2 l0 3) (Int.toNat 0) (Int.toNat 20)) (g.2 l1 4) (Int.toNat 0) (g.2 l0 4) (Int.toNat 0) (Int.toNat 20)) (g.2 l1 5) (Int.toNat 0) (g.2 l0 5) (Int.toNat 0) (Int.toNat 4)) (g.2 l1 6) (Int.toNat 0) (g.2 l0 6) (Int.toNat 0) (Int.toNat 4)) (g.2 l1 7) (Int.toNat 0) (g.2 l0 7) (Int.toNat 0) (Int.toNat 6)) (g.2 l1 8) (Int.toNat 0) (g.2 l0 8) (Int.toNat 0) (Int.toNat 6)) (g.2 l1 9) (Int.toNat 0) (g.2 l0 9) (Int.toNat 0) (Int.toNat 6)) (g.2 l1 10) (Int.toNat 0) (g.2 l0 10) (Int.toNat 0) (Int.toNat 6)) (g.2 l1 11) (Int.toNat 0) (g.2 l0 11) (Int.toNat 0) (Int.toNat 6)) l1 13)) l1 14)) l1 15)) l0 16 ((xup (xup (xup (xcp (xcp (xcp (xcp (xcp (xcp (xcp (xcp (xcp (xcp (xcp w (g.2 l1 0) (Int.toNat 0) (g.2 l0 0) (Int.toNat 0) (Int.toNat 20)) (g.2 l1 2) (Int.toNat 0) (g.2 l0 2) (Int.toNat 0) (Int.toNat 20)) (g.2 l1 3) (Int.toNat 0) (g.2 l0 3) (Int.toNat 0) (Int.toNat 20)) (g.2 l1 4) (Int.toNat 0) (g.2 l0 4) (Int.toNat 0) (Int.toNat 20)) (g.2 l1 5) (Int.toNat 0) (g.2 l0 5) (Int.toNat 0) (Int.toNat 4)) (g.2 l1 6) (Int.toNat 0) (g.2 l0 6) (Int.toNat 0) (Int.toNat 4)) (g.2 l1 7) (Int.toNat 0) (g.2 l0 7) (Int.toNat 0) (Int.toNat 6)) (g.2 l1 8) (Int.toNat 0) (g.2 l0 8) (Int.toNat 0) (Int.toNat 6)) (g.2 l1 9) (Int.toNat 0) (g.2 l0 9) (Int.toNat 0) (Int.toNat 6)) (g.2 l1 10) (Int.toNat 0) (g.2 l0 10) (Int.toNat 0) (Int.toNat 6)) (g.2 l1 11) (Int.toNat 0) (g.2 l0 11) (Int.toNat 0) (Int.toNat 6)) l0 13 ((xcp (xcp (xcp (xcp (xcp (xcp (xcp (xcp (xcp (xcp (xcp w (g.2 l1 0) (Int.toNat 0) (g.2 l0 0) (Int.toNat 0) (Int.toNat 20)) (g.2 l1 2) (Int.toNat 0) (g.2 l0 2) (Int.toNat 0) (Int.toNat 20)) (g.2 l1 3) (Int.toNat 0) (g.2 l0 3) (Int.toNat 0) (Int.toNat 20)) (g.2 l1 4) (Int.toNat 0) (g.2 l0 4) (Int.toNat 0) (Int.toNat 20)) (g.2 l1 5) (Int.toNat 0) (g.2 l0 5) (Int.toNat 0) (Int.toNat 4)) (g.2 l1 6) (Int.toNat 0) (g.2 l0 6) (Int.toNat 0) (Int.toNat 4)) (g.2 l1 7) (Int.toNat 0) (g.2 l0 7) (Int.toNat 0) (Int.toNat 6)) (g.2 l1 8) (Int.toNat 0) (g.2 l0 8) (Int.toNat 0) (Int.toNat 6)) (g.2 l1 9) (Int.toNat 0) (g.2 l0 9) (Int.toNat 0) (Int.toNat 6)) (g.2 l1 10) (Int.toNat 0) (g.2 l0 10) (Int.toNat 0) (Int.toNat 6)) (g.2 l1 11) (Int.toNat 0) (g.2 l0 11) (Int.toNat 0) (Int.toNat 6)) l1 13)) l0 14 ((xup (xcp (xcp (xcp (xcp (xcp (xcp (xcp (xcp (xcp (xcp (xcp w (g.2 l1 0) (Int.toNat 0) (g.2 l0 0) (Int.toNat 0) (Int.toNat 20)) (g.2 l1 2) (Int.toNat 0) (g.2 l0 2) (Int.toNat 0) (Int.toNat 20)) (g.2 l1 3) (Int.toNat 0) (g.2 l0 3) (Int.toNat 0) (Int.toNat 20)) (g.2 l1 4) (Int.toNat 0) (g.2 l0 4) (Int.toNat 0) (Int.toNat 20)) (g.2 l1 5) (Int.toNat 0) (g.2 l0 5) (Int.toNat 0) (Int.toNat 4)) (g.2 l1 6) (Int.toNat 0) (g.2 l0 6) (Int.toNat 0) (Int.toNat 4)) (g.2 l1 7) (Int.toNat 0) (g.2 l0 7) (Int.toNat 0) (Int.toNat 6)) (g.2 l1 8) (Int.toNat 0) (g.2 l0 8) (Int.toNat 0) (Int.toNat 6)) (g.2 l1 9) (Int.toNat 0) (g.2 l0 9) (Int.toNat 0) (Int.toNat 6)) (g.2 l1 10) (Int.toNat 0) (g.2 l0 10) (Int.toNat 0) (Int.toNat 6)) (g.2 l1 11) (Int.toNat 0) (g.2 l0 11) (Int.toNat 0) (Int.toNat 6)) l0 13 ((xcp (xcp (xcp (xcp (xcp (xcp (xcp (xcp (xcp (xcp (xcp w (g.2 l1 0) (Int.toNat 0) (g.2 l0 0) (Int.toNat 0) (Int.toNat 20)) (g.2 l1 2) (Int.toNat 0) (g.2 l0 2) (Int.toNat 0) (Int.toNat 20)) (g.2 l1 3) (Int.toNat 0) (g.2 l0 3) (Int.toNat 0) (Int.toNat 20)) (g.2 l1 4) (Int.toNat 0) (g.2 l0 4) (Int.toNat 0) (Int.toNat 20)) (g.2 l1 5) (Int.toNat 0) (g.2 l0 5) (Int.toNat 0) (Int.toNat 4)) (g.2 l1 6) (Int.toNat 0) (g.2 l0 6) (Int.toNat 0) (Int.toNat 4)) (g.2 l1 7) (Int.toNat 0) (g.2 l0 7) (Int.toNat 0) (Int.toNat 6)) (g.2 l1 8) (Int.toNat 0) (g.2 l0 8) (Int.toNat 0) (Int.toNat 6)) (g.2 l1 9) (Int.toNat 0) (g.2 l0 9) (Int.toNat 0) (Int.toNat 6)) (g.2 l1 10) (Int.toNat 0) (g.2 l0 10) (Int.toNat 0) (Int.toNat 6)) (g.2 l1 11) (Int.toNat 0) (g.2 l0 11) (Int.toNat 0) (Int.toNat 6)) l1 13)) l1 14)) l0 15 ((xup (xup (xcp (xcp (xcp (xcp (xcp (xcp (xcp (xcp (xcp (xcp (xcp w (g.2 l1 0) (Int.toNat 0) (g.2 l0 0) (Int.toNat 0) (Int.toNat 20)) (g.2 l1 2) (Int.toNat 0) (g.2 l0 2) (Int.toNat 0) (Int.toNat 20)) (g.2 l1 3) (Int.toNat 0) (g.2 l0 3) (Int.toNat 0) (Int.toNat 20)) (g.2 l1 4) (Int.toNat 0) (g.2 l0 4) (Int.toNat 0) (Int.toNat 20)) (g.2 l1 5) (Int.toNat 0) (g.2 l0 5) (Int.toNat 0) (Int.toNat 4)) (g.2 l1 6) (Int.toNat 0) (g.2 l0 6) (Int.toNat 0) (Int.toNat 4)) (g.2 l1 7) (Int.toNat 0) (g.2 l0 7) (Int.toNat 0) (Int.toNat 6)) (g.2 l1 8) (Int.toNat 0) (g.2 l0 8) (Int.toNat 0) (Int.toNat 6)) (g.2 l1 9) (Int.toNat 0) (g.2 l0 9) (Int.toNat 0) (Int.toNat 6)) (g.2 l1 10) (Int.toNat 0) (g.2 l0 10) (Int.toNat 0) (Int.toNat 6)) (g.2 l1 11) (Int.toNat 0) (g.2 l0 11) (Int.toNat 0) (Int.toNat 6)) l0 13 ((xcp (xcp (xcp (xcp (xcp (xcp (xcp (xcp (xcp (xcp (xcp w (g.2 l1 0) (Int.toNat 0) (g.2 l0 0) (Int.toNat 0) (Int.toNat 20)) (g.2 l1 2) (Int.toNat 0) (g.2 l0 2) (Int.toNat 0) (Int.toNat 20)) (g.2 l1 3) (Int.toNat 0) (g.2 l0 3) (Int.toNat 0) (Int.toNat 20)) (g.2 l1 4) (Int.toNat 0) (g.2 l0 4) (Int.toNat 0) (Int.toNat 20)) (g.2 l1 5) (Int.toNat 0) (g.2 l0 5) (Int.toNat 0) (Int.toNat 4)) (g.2 l1 6) (Int.toNat 0) (g.2 l0 6) (Int.toNat 0) (Int.toNat 4)) (g.2 l1 7) (Int.toNat 0) (g.2 l0 7) (Int.toNat 0) (Int.toNat 6)) (g.2 l1 8) (Int.toNat 0) (g.2 l0 8) (Int.toNat 0) (Int.toNat 6)) (g.2 l1 9) (Int.toNat 0) (g.2 l0 9) (Int.toNat 0) (Int.toNat 6)) (g.2 l1 10) (Int.toNat 0) (g.2 l0 10) (Int.toNat 0) (Int.toNat 6)) (g.2 l1 11) (Int.toNat 0) (g.2 l0 11) (Int.toNat 0) (Int.toNat 6)) l1 13)) l0 14 ((xup (xcp (xcp (xcp (xcp (xcp (xcp (xcp (xcp (xcp (xcp (xcp w (g.2 l1 0) (Int.toNat 0) (g.2 l0 0) (Int.toNat 0) (Int.toNat 20)) (g.2 l1 2) (Int.toNat 0) (g.2 l0 2) (Int.toNat 0) (Int.toNat 20)) (g.2 l1 3) (Int.toNat 0) (g.2 l0 3) (Int.toNat 0) (Int.toNat 20)) (g.2 l1 4) (Int.toNat 0) (g.2 l0 4) (Int.toNat 0) (Int.toNat 20)) (g.2 l1 5) (Int.toNat 0) (g.2 l0 5) (Int.toNat 0) (Int.toNat 4)) (g.2 l1 6) (Int.toNat 0) (g.2 l0 6) (Int.toNat 0) (Int.toNat 4)) (g.2 l1 7) (Int.toNat 0) (g.2 l0 7) (Int.toNat 0) (Int.toNat 6)) (g.2 l1 8) (Int.toNat 0) (g.2 l0 8) (Int.toNat 0) (Int.toNat 6)) (g.2 l1 9) (Int.toNat 0) (g.2 l0 9) (Int.toNat 0) (Int.toNat 6)) (g.2 l1 10) (Int.toNat 0) (g.2 l0 10) (Int.toNat 0) (Int.toNat 6)) (g.2 l1 11) (Int.toNat 0) (g.2 l0 11) (Int.toNat 0) (Int.toNat 6)) l0 13 ((xcp (xcp (xcp (xcp (xcp (xcp (xcp (xcp (xcp (xcp (xcp w (g.2 l1 0) (Int.toNat 0) (g.2 l0 0) (Int.toNat 0) (Int.toNat 20)) (g.2 l1 2) (Int.toNat 0) (g.2 l0 2) (Int.toNat 0) (Int.toNat 20)) (g.2 l1 3) (Int.toNat 0) (g.2 l0 3) (Int.toNat 0) (Int.toNat 20)) (g.2 l1 4) (Int.toNat 0) (g.2 l0 4) (Int.toNat 0) (Int.toNat 20)) (g.2 l1 5) (Int.toNat 0) (g.2 l0 5) (Int.toNat 0) (Int.toNat 4)) (g.2 l1 6) (Int.toNat 0) (g.2 l0 6) (Int.toNat 0) (Int.toNat 4)) (g.2 l1 7) (Int.toNat 0) (g.2 l0 7) (Int.toNat 0) (Int.toNat 6)) (g.2 l1 8) (Int.toNat 0) (g.2 l0 8) (Int.toNat 0) (Int.toNat 6)) (g.2 l1 9) (Int.toNat 0) (g.2 l0 9) (Int.toNat 0) (Int.toNat 6)) (g.2 l1 10) (Int.toNat 0) (g.2 l0 10) (Int.toNat 0) (Int.toNat 6)) (g.2 l1 11) (Int.toNat 0) (g.2 l0 11) (Int.toNat 0) (Int.toNat 6)) l1 13)) l1 14)) l1 15)) l1 16)) l1 17))) :
    aSt_copyFrom d lim Q 0 [xr l0, xr l1] [] g w := xAt_exec (cal_m d) kSt_copyFrom 110 t
theorem eSt_copyFrom {d : Nat} {Q : xQ} {l0 l1 : Nat} {g : xG} {w : xW} (t : ∀ (lim : Nat × Nat) (Q2 : xQ), (∀ r g2 w2, g2.1 = g.1 → Q r g2 w2 → Q2 r g2 w2) → aSt_copyFrom d lim Q2 0 [xr l0, xr l1] [] g w) : cal (d + 1) nSt_copyFrom [xr l0, xr l1] g w Q := t _ _ xQof
abbrev aSt_setWall (d : Nat) (lim : Nat × Nat) (Q : xQ) : xK := xAt xMks tSt_setWall (cal d) lim Q
def kSt_setWall : List (Nat × List Bool) := [(33, [true, false, true, false, true, true, true, false]), (72, [true, false, false, false, true, false, true, true])]
set_option maxRecDepth 20000 in
theorem wSt_setWall_0 {d : Nat} {lim : Nat × Nat} {Q : xQ} {l2 l3 l4 : Int} {l0 l1 : Nat} {g : xG} {w : xW} (t : 
  cal d nFf_wayOfWall [xi l3] g w (fun r g1 w1 => ∃ v1 : Int, r = some (xi v1) ∧ xIs g1 l1 (0, 5) ∧ 
    cal d nTw_beside [xr l1, xi l2, xi v1] g1 w1 (fun r g2 w2 => ∃ v2 : Int, r = some (xi v2) ∧ 
      ((¬ v2 = (-1)) → 
        ((¬ v1 = 2) → aSt_setWall d lim Q 33 [xr l0, none, xi l2, none, xi l4, xi v1, xi v2, none] [xi 1] g2 w2) ∧
        ((v1 = 2) → aSt_setWall d lim Q 33 [xr l0, none, xi l2, none, xi l4, xi v1, xi v2, none] [xi 4] g2 w2)) ∧
      ((v2 = (-1)) → Q none g2 w2)))) :
    aSt_setWall d lim Q 0 [xr l0, xr l1, xi l2, xi l3, xi l4, none, none, none] [] g w := xAt_exec (cal_m d) kSt_setWall 17 t
set_option maxRecDepth 20000 in
theorem wSt_setWall_33 {d : Nat} {lim : Nat × Nat} {Q : xQ} {l2 l4 l5 l6 s0 : Int} {l0 : Nat} {g : xG} {w : xW} (t : xIs g l0 (0, 3) ∧ 
  ((l4 = 0) → xIs g l0 (0, 3) ∧ xAr g (g.2 l0 4) l2 ∧ aSt_setWall d lim Q 72 [xr l0, none, none, none, xi l4, none, xi l6, xi s0] [xi (xAnd (w (g.2 l0 4) (Int.toNat l2)) (xXor (xShl 1 l5) (-1))), xi l2, xr (g.2 l0 4)] g w) ∧
  ((¬ l4 = 0) → xIs g l0 (0, 3) ∧ xAr g (g.2 l0 4) l2 ∧ aSt_setWall d lim Q 72 [xr l0, none, none, none, xi l4, none, xi l6, xi s0] [xi (xOr (w (g.2 l0 4) (Int.toNat l2)) (xShl 1 l5)), xi l2, xr (g.2 l0 4)] g w)) :
    aSt_setWall d lim Q 33 [xr l0, none, xi l2, none, xi l4, xi l5, xi l6, none] [xi s0] g w := xAt_exec (cal_m d) kSt_setWall 17 t
set_option maxRecDepth 20000 in
theorem wSt_setWall_72 {d : Nat} {lim : Nat × Nat} {Q : xQ} {l4 l6 l7 s1 s2 : Int} {l0 s0 : Nat} {g : xG} {w : xW} (t : xA1 g s0 s1 ∧ xIs g l0 (0, 3) ∧ 
  ((l4 = 0) → xIs g l0 (0, 3) ∧ xAr g (g.2 l0 4) l6 ∧ xA1 g (g.2 l0 4) l6 ∧ Q none g (xup (xup w s0 (Int.toNat s1) s2) (g.2 l0 4) (Int.toNat l6) (xAnd ((xup w s0 (Int.toNat s1) s2) (g.2 l0 4) (Int.toNat l6)) (xXor (xShl 1 l7) (-1))))) ∧
  ((¬ l4 = 0) → xIs g l0 (0, 3) ∧ xAr g (g.2 l0 4) l6 ∧ xA1 g (g.2 l0 4) l6 ∧ Q none g (xup (xup w s0 (Int.toNat s1) s2) (g.2 l0 4) (Int.toNat l6) (xOr ((xup w s0 (Int.toNat s1) s2) (g.2 l0 4) (Int.toNat l6)) (xShl 1 l7))))) :
    aSt_setWall d lim Q 72 [xr l0, none, none, none, xi l4, none, xi l6, xi l7] [xi s2, xi s1, xr s0] g w := xAt_exec (cal_m d) kSt_setWall 19 t
theorem eSt_setWall {d : Nat} {Q : xQ} {l2 l3 l4 : Int} {l0 l1 : Nat} {g : xG} {w : xW} (t : ∀ (lim : Nat × Nat) (Q2 : xQ), (∀ r g2 w2, g2.1 = g.1 → Q r g2 w2 → Q2 r g2 w2) → aSt_setWall d lim Q2 0 [xr l0, xr l1, xi l2, xi l3, xi l4, none, none, none] [] g w) : cal (d + 1) nSt_setWall [xr l0, xr l1, xi l2, xi l3, xi l4] g w Q := t _ _ xQof
abbrev aSt_wallOf (d : Nat) (lim : Nat × Nat) (Q : xQ) : xK := xAt xMks tSt_wallOf (cal d) lim Q
def kSt_wallOf : List (Nat × List Bool) := []
set_option maxRecDepth 20000 in
theorem wSt_wallOf_0 {d : Nat} {lim : Nat × Nat} {Q : xQ} {l1 l2 : Int} {l0 : Nat} {g : xG} {w : xW} (t : xIs g l0 (0, 3) ∧ xAr g (g.2 l0 4) l1 ∧ 
  cal d nFf_wayOfWall [xi l2] g w (fun r g1 w1 => ∃ v1 : Int, r = some (xi v1) ∧ Q (some (xi (xAnd (xShr (w (g.2 l0 4) (Int.toNat l1)) v1) 1))) g1 w1)) :
    aSt_wallOf d lim Q 0 [xr l0, xi l1, xi l2] [] g w := xAt_exec (cal_m d) kSt_wallOf 11 t
theorem eSt_wallOf {d : Nat} {Q : xQ} {l1 l2 : Int} {l0 : Nat} {g : xG} {w : xW} (t : ∀ (lim : Nat × Nat) (Q2 : xQ), (∀ r g2 w2, g2.1 = g.1 → Q r g2 w2 → Q2 r g2 w2) → aSt_wallOf d lim Q2 0 [xr l0, xi l1, xi l2] [] g w) : cal (d + 1) nSt_wallOf [xr l0, xi l1, xi l2] g w Q := t _ _ xQof
abbrev aSt_countWalls (d : Nat) (lim : Nat × Nat) (Q : xQ) : xK := xAt xMks tSt_countWalls (cal d) lim Q
def kSt_countWalls : List (Nat × List Bool) := [(4, [true, true, true, true])]
set_option maxRecDepth 20000 in
theorem wSt_countWalls_0 {d : Nat} {lim : Nat × Nat} {Q : xQ} {l0 l1 : Nat} {g : xG} {w : xW} (t : aSt_countWalls d lim Q 4 [xr l0, xr l1, xi 0, xi 0] [] g w) :
    aSt_countWalls d lim Q 0 [xr l0, xr l1, none, none] [] g w := xAt_exec (cal_m d) kSt_countWalls 5 t
set_option maxRecDepth 20000 in
theorem wSt_countWalls_4 {d : Nat} {lim : Nat × Nat} {Q : xQ} {l2 l3 : Int} {l0 l1 : Nat} {g : xG} {w : xW} (t : xIs g l1 (0, 5) ∧ 
  cal d nTw_cells [xr l1] g w (fun r g1 w1 => ∃ v1 : Int, r = some (xi v1) ∧ 
    ((v1 ≤ l3) → Q (some (xi l2)) g1 w1) ∧
    ((l3 < v1) → xIs g1 l0 (0, 3) ∧ 
      cal d nSt_wallOf [xr l0, xi l3, xi 0] g1 w1 (fun r g2 w2 => ∃ v2 : Int, r = some (xi v2) ∧ xIs g2 l0 (0, 3) ∧ 
        cal d nSt_wallOf [xr l0, xi l3, xi 1] g2 w2 (fun r g3 w3 => ∃ v3 : Int, r = some (xi v3) ∧ x32 (v2 + v3) ∧ x32 (l2 + (v2 + v3)) ∧ x32 (l3 + 1) ∧ aSt_countWalls d lim Q 4 [xr l0, xr l1, xi (l2 + (v2 + v3)), xi (l3 + 1)] [] g3 w3))))) :
    aSt_countWalls d lim Q 4 [xr l0, xr l1, xi l2, xi l3] [] g w := xAt_exec (cal_m d) kSt_countWalls 19 t
theorem eSt_countWalls {d : Nat} {Q : xQ} {l0 l1 : Nat} {g : xG} {w : xW} (t : ∀ (lim : Nat × Nat) (Q2 : xQ), (∀ r g2 w2, g2.1 = g.1 → Q r g2 w2 → Q2 r g2 w2) → aSt_countWalls d lim Q2 0 [xr l0, xr l1, none, none] [] g w) : cal (d + 1) nSt_countWalls [xr l0, xr l1] g w Q := t _ _ xQof
abbrev aSt_reach (d : Nat) (lim : Nat × Nat) (Q : xQ) : xK := xAt xMks tSt_reach (cal d) lim Q
def kSt_reach : List (Nat × List Bool) := []
set_option maxRecDepth 20000 in
theorem wSt_reach_0 {d : Nat} {lim : Nat × Nat} {Q : xQ} {l2 l3 : Int} {l0 l1 : Nat} {g : xG} {w : xW} (t : xIs g l0 (0, 3) ∧ xAr g (g.2 l0 4) l2 ∧ 
  (((xAnd (xShr (w (g.2 l0 4) (Int.toNat l2)) l3) 1) = 0) → xIs g l1 (0, 5) ∧ x32 (l2 * 5) ∧ x32 ((l2 * 5) + l3) ∧ xAr g (g.2 l1 6) ((l2 * 5) + l3) ∧ Q (some (xi (w (g.2 l1 6) (Int.toNat ((l2 * 5) + l3))))) g w) ∧
  ((¬ (xAnd (xShr (w (g.2 l0 4) (Int.toNat l2)) l3) 1) = 0) → Q (some (xi (-1))) g w)) :
    aSt_reach d lim Q 0 [xr l0, xr l1, xi l2, xi l3] [] g w := xAt_exec (cal_m d) kSt_reach 19 t
theorem eSt_reach {d : Nat} {Q : xQ} {l2 l3 : Int} {l0 l1 : Nat} {g : xG} {w : xW} (t : ∀ (lim : Nat × Nat) (Q2 : xQ), (∀ r g2 w2, g2.1 = g.1 → Q r g2 w2 → Q2 r g2 w2) → aSt_reach d lim Q2 0 [xr l0, xr l1, xi l2, xi l3] [] g w) : cal (d + 1) nSt_reach [xr l0, xr l1, xi l2, xi l3] g w Q := t _ _ xQof
abbrev aSt_peopleOn (d : Nat) (lim : Nat × Nat) (Q : xQ) : xK := xAt xMks tSt_peopleOn (cal d) lim Q
def kSt_peopleOn : List (Nat × List Bool) := [(5, [true, true, true, true, true])]
set_option maxRecDepth 20000 in
theorem wSt_peopleOn_0 {d : Nat} {lim : Nat × Nat} {Q : xQ} {l2 : Int} {l0 l1 : Nat} {g : xG} {w : xW} (t : aSt_peopleOn d lim Q 5 [xr l0, xr l1, xi l2, xi 0, xi 0] [] g w) :
    aSt_peopleOn d lim Q 0 [xr l0, xr l1, xi l2, none, none] [] g w := xAt_exec (cal_m d) kSt_peopleOn 5 t
set_option maxRecDepth 20000 in
theorem wSt_peopleOn_5 {d : Nat} {lim : Nat × Nat} {Q : xQ} {l2 l3 l4 : Int} {l0 l1 : Nat} {g : xG} {w : xW} (t : xIs g l1 (0, 5) ∧ 
  (((w l1 5) ≤ l4) → Q (some (xi l3)) g w) ∧
  ((l4 < (w l1 5)) → xIs g l0 (0, 3) ∧ xAr g (g.2 l0 7) l4 ∧ 
    ((¬ (w (g.2 l0 7) (Int.toNat l4)) = l2) → x32 (l4 + 1) ∧ aSt_peopleOn d lim Q 5 [xr l0, xr l1, xi l2, xi l3, xi (l4 + 1)] [] g w) ∧
    (((w (g.2 l0 7) (Int.toNat l4)) = l2) → x32 (l4 + 1) ∧ aSt_peopleOn d lim Q 5 [xr l0, xr l1, xi l2, xi (xOr l3 (xShl 1 l4)), xi (l4 + 1)] [] g w))) :
    aSt_peopleOn d lim Q 5 [xr l0, xr l1, xi l2, xi l3, xi l4] [] g w := xAt_exec (cal_m d) kSt_peopleOn 19 t
theorem eSt_peopleOn {d : Nat} {Q : xQ} {l2 : Int} {l0 l1 : Nat} {g : xG} {w : xW} (t : ∀ (lim : Nat × Nat) (Q2 : xQ), (∀ r g2 w2, g2.1 = g.1 → Q r g2 w2 → Q2 r g2 w2) → aSt_peopleOn d lim Q2 0 [xr l0, xr l1, xi l2, none, none] [] g w) : cal (d + 1) nSt_peopleOn [xr l0, xr l1, xi l2] g w Q := t _ _ xQof
abbrev aSt_countOwned (d : Nat) (lim : Nat × Nat) (Q : xQ) : xK := xAt xMks tSt_countOwned (cal d) lim Q
def kSt_countOwned : List (Nat × List Bool) := [(11, [true, false, true, true, true, true])]
set_option maxRecDepth 20000 in
theorem wSt_countOwned_0 {d : Nat} {lim : Nat × Nat} {Q : xQ} {l2 : Int} {l0 l1 : Nat} {g : xG} {w : xW} (t : xIs g l1 (0, 5) ∧ 
  cal d nTw_cells [xr l1] g w (fun r g1 w1 => ∃ v1 : Int, r = some (xi v1) ∧ aSt_countOwned d lim Q 11 [xr l0, none, xi l2, xi 0, xi v1, xi 0] [] g1 w1)) :
    aSt_countOwned d lim Q 0 [xr l0, xr l1, xi l2, none, none, none] [] g w := xAt_exec (cal_m d) kSt_countOwned 8 t
set_option maxRecDepth 20000 in
theorem wSt_countOwned_11 {d : Nat} {lim : Nat × Nat} {Q : xQ} {l2 l3 l4 l5 : Int} {l0 : Nat} {g : xG} {w : xW} (t : 
  ((l4 ≤ l5) → Q (some (xi l3)) g w) ∧
  ((l5 < l4) → xIs g l0 (0, 3) ∧ xAr g (g.2 l0 2) l5 ∧ 
    ((¬ (w (g.2 l0 2) (Int.toNat l5)) = l2) → x32 (l5 + 1) ∧ aSt_countOwned d lim Q 11 [xr l0, none, xi l2, xi l3, xi l4, xi (l5 + 1)] [] g w) ∧
    (((w (g.2 l0 2) (Int.toNat l5)) = l2) → x32 (l3 + 1) ∧ x32 (l5 + 1) ∧ aSt_countOwned d lim Q 11 [xr l0, none, xi l2, xi (l3 + 1), xi l4, xi (l5 + 1)] [] g w))) :
    aSt_countOwned d lim Q 11 [xr l0, none, xi l2, xi l3, xi l4, xi l5] [] g w := xAt_exec (cal_m d) kSt_countOwned 13 t
theorem eSt_countOwned {d : Nat} {Q : xQ} {l2 : Int} {l0 l1 : Nat} {g : xG} {w : xW} (t : ∀ (lim : Nat × Nat) (Q2 : xQ), (∀ r g2 w2, g2.1 = g.1 → Q r g2 w2 → Q2 r g2 w2) → aSt_countOwned d lim Q2 0 [xr l0, xr l1, xi l2, none, none, none] [] g w) : cal (d + 1) nSt_countOwned [xr l0, xr l1, xi l2] g w Q := t _ _ xQof
abbrev aSt_canBeLit (d : Nat) (lim : Nat × Nat) (Q : xQ) : xK := xAt xMks tSt_canBeLit (cal d) lim Q
def kSt_canBeLit : List (Nat × List Bool) := []
set_option maxRecDepth 20000 in
theorem wSt_canBeLit_0 {d : Nat} {lim : Nat × Nat} {Q : xQ} {l1 : Int} {l0 : Nat} {g : xG} {w : xW} (t : xIs g l0 (0, 3) ∧ xAr g (g.2 l0 6) l1 ∧ 
  ((¬ (w (g.2 l0 6) (Int.toNat l1)) = 0) → ((0 : Int) = 0 ∨ (0 : Int) = 1) ∧ Q (some (xi 0)) g w) ∧
  (((w (g.2 l0 6) (Int.toNat l1)) = 0) → xIs g l0 (0, 3) ∧ xAr g (g.2 l0 5) l1 ∧ 
    (((w (g.2 l0 5) (Int.toNat l1)) ≤ 0) → ((0 : Int) = 0 ∨ (0 : Int) = 1) ∧ Q (some (xi 0)) g w) ∧
    ((0 < (w (g.2 l0 5) (Int.toNat l1))) → ((1 : Int) = 0 ∨ (1 : Int) = 1) ∧ Q (some (xi 1)) g w))) :
    aSt_canBeLit d lim Q 0 [xr l0, xi l1] [] g w := xAt_exec (cal_m d) kSt_canBeLit 14 t
theorem eSt_canBeLit {d : Nat} {Q : xQ} {l1 : Int} {l0 : Nat} {g : xG} {w : xW} (t : ∀ (lim : Nat × Nat) (Q2 : xQ), (∀ r g2 w2, g2.1 = g.1 → Q r g2 w2 → Q2 r g2 w2) → aSt_canBeLit d lim Q2 0 [xr l0, xi l1] [] g w) : cal (d + 1) nSt_canBeLit [xr l0, xi l1] g w Q := t _ _ xQof
abbrev aSt_feels (d : Nat) (lim : Nat × Nat) (Q : xQ) : xK := xAt xMks tSt_feels (cal d) lim Q
def kSt_feels : List (Nat × List Bool) := []
set_option maxRecDepth 20000 in
theorem wSt_feels_0 {d : Nat} {lim : Nat × Nat} {Q : xQ} {l1 : Int} {l0 : Nat} {g : xG} {w : xW} (t : xIs g l0 (0, 3) ∧ 
  (((xAnd (xShr (w l0 12) l1) 1) = 0) → ((0 : Int) = 0 ∨ (0 : Int) = 1) ∧ Q (some (xi 0)) g w) ∧
  ((¬ (xAnd (xShr (w l0 12) l1) 1) = 0) → ((1 : Int) = 0 ∨ (1 : Int) = 1) ∧ Q (some (xi 1)) g w)) :
    aSt_feels d lim Q 0 [xr l0, xi l1] [] g w := xAt_exec (cal_m d) kSt_feels 11 t
theorem eSt_feels {d : Nat} {Q : xQ} {l1 : Int} {l0 : Nat} {g : xG} {w : xW} (t : ∀ (lim : Nat × Nat) (Q2 : xQ), (∀ r g2 w2, g2.1 = g.1 → Q r g2 w2 → Q2 r g2 w2) → aSt_feels d lim Q2 0 [xr l0, xi l1] [] g w) : cal (d + 1) nSt_feels [xr l0, xi l1] g w Q := t _ _ xQof
abbrev aSt_draw (d : Nat) (lim : Nat × Nat) (Q : xQ) : xK := xAt xMks tSt_draw (cal d) lim Q
def kSt_draw : List (Nat × List Bool) := []
set_option maxRecDepth 20000 in
theorem wSt_draw_0 {d : Nat} {lim : Nat × Nat} {Q : xQ} {l1 : Int} {l0 : Nat} {g : xG} {w : xW} (t : xIs g l0 (0, 3) ∧ x64 ((w l0 17) * 1103515245) ∧ x64 (((w l0 17) * 1103515245) + 12345) ∧ x32 (xLand (((w l0 17) * 1103515245) + 12345) 2147483647) ∧ xIs g l0 (0, 3) ∧ 
  ((1 ≤ l1) → xIs g l0 (0, 3) ∧ ((65536 : Int) ≠ 0 ∧ x32 (Int.tdiv ((xup w l0 17 (xLand (((w l0 17) * 1103515245) + 12345) 2147483647)) l0 17) 65536)) ∧ ((l1 : Int) ≠ 0 ∧ x32 (Int.tdiv (Int.tdiv ((xup w l0 17 (xLand (((w l0 17) * 1103515245) + 12345) 2147483647)) l0 17) 65536) l1)) ∧ Q (some (xi (Int.tmod (Int.tdiv ((xup w l0 17 (xLand (((w l0 17) * 1103515245) + 12345) 2147483647)) l0 17) 65536) l1))) g (xup w l0 17 (xLand (((w l0 17) * 1103515245) + 12345) 2147483647))) ∧
  ((l1 < 1) → Q (some (xi 0)) g (xup w l0 17 (xLand (((w l0 17) * 1103515245) + 12345) 2147483647)))) :
    aSt_draw d lim Q 0 [xr l0, xi l1] [] g w := xAt_exec (cal_m d) kSt_draw 23 t
theorem eSt_draw {d : Nat} {Q : xQ} {l1 : Int} {l0 : Nat} {g : xG} {w : xW} (t : ∀ (lim : Nat × Nat) (Q2 : xQ), (∀ r g2 w2, g2.1 = g.1 → Q r g2 w2 → Q2 r g2 w2) → aSt_draw d lim Q2 0 [xr l0, xi l1] [] g w) : cal (d + 1) nSt_draw [xr l0, xi l1] g w Q := t _ _ xQof
abbrev aSt_passMinutes (d : Nat) (lim : Nat × Nat) (Q : xQ) : xK := xAt xMks tSt_passMinutes (cal d) lim Q
def kSt_passMinutes : List (Nat × List Bool) := [(3, [true, true, true, true, true])]
set_option maxRecDepth 20000 in
theorem wSt_passMinutes_0 {d : Nat} {lim : Nat × Nat} {Q : xQ} {l2 l3 : Int} {l0 l1 : Nat} {g : xG} {w : xW} (t : aSt_passMinutes d lim Q 3 [xr l0, xr l1, xi l2, xi l3, xi 0] [] g w) :
    aSt_passMinutes d lim Q 0 [xr l0, xr l1, xi l2, xi l3, none] [] g w := xAt_exec (cal_m d) kSt_passMinutes 3 t
set_option maxRecDepth 20000 in
theorem wSt_passMinutes_3 {d : Nat} {lim : Nat × Nat} {Q : xQ} {l2 l3 l4 : Int} {l0 l1 : Nat} {g : xG} {w : xW} (t : 
  ((l2 ≤ l4) → Q none g w) ∧
  ((l4 < l2) → xIs g l0 (0, 3) ∧ 
    cal d nSt_passMinute [xr l0, xr l1, xi l3] g w (fun r g1 w1 => r = none ∧ x32 (l4 + 1) ∧ aSt_passMinutes d lim Q 3 [xr l0, xr l1, xi l2, xi l3, xi (l4 + 1)] [] g1 w1))) :
    aSt_passMinutes d lim Q 3 [xr l0, xr l1, xi l2, xi l3, xi l4] [] g w := xAt_exec (cal_m d) kSt_passMinutes 10 t
theorem eSt_passMinutes {d : Nat} {Q : xQ} {l2 l3 : Int} {l0 l1 : Nat} {g : xG} {w : xW} (t : ∀ (lim : Nat × Nat) (Q2 : xQ), (∀ r g2 w2, g2.1 = g.1 → Q r g2 w2 → Q2 r g2 w2) → aSt_passMinutes d lim Q2 0 [xr l0, xr l1, xi l2, xi l3, none] [] g w) : cal (d + 1) nSt_passMinutes [xr l0, xr l1, xi l2, xi l3] g w Q := t _ _ xQof
abbrev aSt_passMinute (d : Nat) (lim : Nat × Nat) (Q : xQ) : xK := xAt xMks tSt_passMinute (cal d) lim Q
def kSt_passMinute : List (Nat × List Bool) := []
set_option maxRecDepth 20000 in
theorem wSt_passMinute_0 {d : Nat} {lim : Nat × Nat} {Q : xQ} {l2 : Int} {l0 l1 : Nat} {g : xG} {w : xW} (t : xIs g l0 (0, 3) ∧ 
  cal d nSt_flow [xr l0, xr l1] g w (fun r g1 w1 => r = none ∧ xIs g1 l0 (0, 3) ∧ 
    cal d nSt_addWarmth [xr l0, xr l1] g1 w1 (fun r g2 w2 => r = none ∧ xIs g2 l0 (0, 3) ∧ 
      cal d nSt_coolDown [xr l0, xr l1] g2 w2 (fun r g3 w3 => r = none ∧ xIs g3 l0 (0, 3) ∧ 
        cal d nSt_feel [xr l0, xr l1, xi l2] g3 w3 (fun r g4 w4 => r = none ∧ xIs g4 l0 (0, 3) ∧ 
          cal d nSt_takeCells [xr l0, xr l1] g4 w4 (fun r g5 w5 => r = none ∧ xIs g5 l0 (0, 3) ∧ 
            cal d nSt_keepLaw [xr l0, xr l1] g5 w5 (fun r g6 w6 => r = none ∧ xIs g6 l0 (0, 3) ∧ 
              cal d nSt_oweForWarmth [xr l0, xr l1] g6 w6 (fun r g7 w7 => r = none ∧ xIs g7 l0 (0, 3) ∧ 
                cal d nSt_warmSkins [xr l0, xr l1] g7 w7 (fun r g8 w8 => r = none ∧ xIs g8 l0 (0, 3) ∧ x32 ((w8 l0 16) + 1) ∧ xIs g8 l0 (0, 3) ∧ Q none g8 (xup w8 l0 16 ((w8 l0 16) + 1))))))))))) :
    aSt_passMinute d lim Q 0 [xr l0, xr l1, xi l2] [] g w := xAt_exec (cal_m d) kSt_passMinute 33 t
theorem eSt_passMinute {d : Nat} {Q : xQ} {l2 : Int} {l0 l1 : Nat} {g : xG} {w : xW} (t : ∀ (lim : Nat × Nat) (Q2 : xQ), (∀ r g2 w2, g2.1 = g.1 → Q r g2 w2 → Q2 r g2 w2) → aSt_passMinute d lim Q2 0 [xr l0, xr l1, xi l2] [] g w) : cal (d + 1) nSt_passMinute [xr l0, xr l1, xi l2] g w Q := t _ _ xQof
abbrev aSt_flow (d : Nat) (lim : Nat × Nat) (Q : xQ) : xK := xAt xMks tSt_flow (cal d) lim Q
def kSt_flow : List (Nat × List Bool) := [(21, [true, true, true, true])]
set_option maxRecDepth 20000 in
theorem wSt_flow_0 {d : Nat} {lim : Nat × Nat} {Q : xQ} {l0 l1 : Nat} {g : xG} {w : xW} (t : xIs g l1 (0, 5) ∧ 
  cal d nTw_cells [xr l1] g w (fun r g1 w1 => ∃ v1 : Int, r = some (xi v1) ∧ xIs g1 l0 (0, 3) ∧ xIs g1 l0 (0, 3) ∧ (xCo g1 (g1.2 l0 0) 0 v1 ∧ xCo g1 (g1.2 l0 1) 0 v1) ∧ aSt_flow d lim Q 21 [xr l0, xr l1, xi v1, xi 0] [] g1 (xcp w1 (g1.2 l0 0) (Int.toNat 0) (g1.2 l0 1) (Int.toNat 0) (Int.toNat v1)))) :
    aSt_flow d lim Q 0 [xr l0, xr l1, none, none] [] g w := xAt_exec (cal_m d) kSt_flow 14 t
set_option maxRecDepth 20000 in
theorem wSt_flow_21 {d : Nat} {lim : Nat × Nat} {Q : xQ} {l2 l3 : Int} {l0 l1 : Nat} {g : xG} {w : xW} (t : 
  ((l2 ≤ l3) → xIs g l0 (0, 3) ∧ xIs g l0 (0, 3) ∧ (xCo g (g.2 l0 1) 0 l2 ∧ xCo g (g.2 l0 0) 0 l2) ∧ Q none g (xcp w (g.2 l0 1) (Int.toNat 0) (g.2 l0 0) (Int.toNat 0) (Int.toNat l2))) ∧
  ((l3 < l2) → xIs g l0 (0, 3) ∧ 
    cal d nSt_reach [xr l0, xr l1, xi l3, xi 2] g w (fun r g1 w1 => ∃ v1 : Int, r = some (xi v1) ∧ xIs g1 l0 (0, 3) ∧ 
      cal d nSt_flowBetween [xr l0, xi l3, xi v1] g1 w1 (fun r g2 w2 => r = none ∧ xIs g2 l0 (0, 3) ∧ 
        cal d nSt_reach [xr l0, xr l1, xi l3, xi 3] g2 w2 (fun r g3 w3 => ∃ v3 : Int, r = some (xi v3) ∧ xIs g3 l0 (0, 3) ∧ 
          cal d nSt_flowBetween [xr l0, xi l3, xi v3] g3 w3 (fun r g4 w4 => r = none ∧ x32 (l3 + 1) ∧ aSt_flow d lim Q 21 [xr l0, xr l1, xi l2, xi (l3 + 1)] [] g4 w4)))))) :
    aSt_flow d lim Q 21 [xr l0, xr l1, xi l2, xi l3] [] g w := xAt_exec (cal_m d) kSt_flow 22 t
theorem eSt_flow {d : Nat} {Q : xQ} {l0 l1 : Nat} {g : xG} {w : xW} (t : ∀ (lim : Nat × Nat) (Q2 : xQ), (∀ r g2 w2, g2.1 = g.1 → Q r g2 w2 → Q2 r g2 w2) → aSt_flow d lim Q2 0 [xr l0, xr l1, none, none] [] g w) : cal (d + 1) nSt_flow [xr l0, xr l1] g w Q := t _ _ xQof
abbrev aSt_flowBetween (d : Nat) (lim : Nat × Nat) (Q : xQ) : xK := xAt xMks tSt_flowBetween (cal d) lim Q
def kSt_flowBetween : List (Nat × List Bool) := []
set_option maxRecDepth 20000 in
theorem wSt_flowBetween_0 {d : Nat} {lim : Nat × Nat} {Q : xQ} {l1 l2 : Int} {l0 : Nat} {g : xG} {w : xW} (t : 
  ((l2 = (-1)) → Q none g w) ∧
  ((¬ l2 = (-1)) → xIs g l0 (0, 3) ∧ xAr g (g.2 l0 0) l2 ∧ xIs g l0 (0, 3) ∧ xAr g (g.2 l0 0) l1 ∧ x32 ((w (g.2 l0 0) (Int.toNat l2)) - (w (g.2 l0 0) (Int.toNat l1))) ∧ ((8 : Int) ≠ 0 ∧ x32 (Int.tdiv ((w (g.2 l0 0) (Int.toNat l2)) - (w (g.2 l0 0) (Int.toNat l1))) 8)) ∧ xIs g l0 (0, 3) ∧ xAr g (g.2 l0 1) l1 ∧ x32 ((w (g.2 l0 1) (Int.toNat l1)) + (Int.tdiv ((w (g.2 l0 0) (Int.toNat l2)) - (w (g.2 l0 0) (Int.toNat l1))) 8)) ∧ xA1 g (g.2 l0 1) l1 ∧ xIs g l0 (0, 3) ∧ xAr g (g.2 l0 1) l2 ∧ x32 (((xup w (g.2 l0 1) (Int.toNat l1) ((w (g.2 l0 1) (Int.toNat l1)) + (Int.tdiv ((w (g.2 l0 0) (Int.toNat l2)) - (w (g.2 l0 0) (Int.toNat l1))) 8))) (g.2 l0 1) (Int.toNat l2)) - (Int.tdiv ((w (g.2 l0 0) (Int.toNat l2)) - (w (g.2 l0 0) (Int.toNat l1))) 8)) ∧ xA1 g (g.2 l0 1) l2 ∧ Q none g (xup (xup w (g.2 l0 1) (Int.toNat l1) ((w (g.2 l0 1) (Int.toNat l1)) + (Int.tdiv ((w (g.2 l0 0) (Int.toNat l2)) - (w (g.2 l0 0) (Int.toNat l1))) 8))) (g.2 l0 1) (Int.toNat l2) (((xup w (g.2 l0 1) (Int.toNat l1) ((w (g.2 l0 1) (Int.toNat l1)) + (Int.tdiv ((w (g.2 l0 0) (Int.toNat l2)) - (w (g.2 l0 0) (Int.toNat l1))) 8))) (g.2 l0 1) (Int.toNat l2)) - (Int.tdiv ((w (g.2 l0 0) (Int.toNat l2)) - (w (g.2 l0 0) (Int.toNat l1))) 8))))) :
    aSt_flowBetween d lim Q 0 [xr l0, xi l1, xi l2, none] [] g w := xAt_exec (cal_m d) kSt_flowBetween 33 t
theorem eSt_flowBetween {d : Nat} {Q : xQ} {l1 l2 : Int} {l0 : Nat} {g : xG} {w : xW} (t : ∀ (lim : Nat × Nat) (Q2 : xQ), (∀ r g2 w2, g2.1 = g.1 → Q r g2 w2 → Q2 r g2 w2) → aSt_flowBetween d lim Q2 0 [xr l0, xi l1, xi l2, none] [] g w) : cal (d + 1) nSt_flowBetween [xr l0, xi l1, xi l2] g w Q := t _ _ xQof
abbrev aSt_addWarmth (d : Nat) (lim : Nat × Nat) (Q : xQ) : xK := xAt xMks tSt_addWarmth (cal d) lim Q
def kSt_addWarmth : List (Nat × List Bool) := [(2, [true, true, true]), (77, [true, true, true])]
set_option maxRecDepth 20000 in
theorem wSt_addWarmth_0 {d : Nat} {lim : Nat × Nat} {Q : xQ} {l0 l1 : Nat} {g : xG} {w : xW} (t : aSt_addWarmth d lim Q 2 [xr l0, xr l1, xi 0] [] g w) :
    aSt_addWarmth d lim Q 0 [xr l0, xr l1, none] [] g w := xAt_exec (cal_m d) kSt_addWarmth 3 t
set_option maxRecDepth 20000 in
theorem wSt_addWarmth_2 {d : Nat} {lim : Nat × Nat} {Q : xQ} {l2 : Int} {l0 l1 : Nat} {g : xG} {w : xW} (t : xIs g l1 (0, 5) ∧ 
  (((w l1 2) ≤ l2) → aSt_addWarmth d lim Q 77 [xr l0, xr l1, xi 0] [] g w) ∧
  ((l2 < (w l1 2)) → xIs g l0 (0, 3) ∧ xAr g (g.2 l0 6) l2 ∧ 
    (((w (g.2 l0 6) (Int.toNat l2)) = 0) → x32 (l2 + 1) ∧ aSt_addWarmth d lim Q 2 [xr l0, xr l1, xi (l2 + 1)] [] g w) ∧
    ((¬ (w (g.2 l0 6) (Int.toNat l2)) = 0) → xIs g l0 (0, 3) ∧ xIs g l1 (0, 5) ∧ xAr g (g.2 l1 9) l2 ∧ xAr g (g.2 l0 0) (w (g.2 l1 9) (Int.toNat l2)) ∧ xIs g l1 (0, 5) ∧ xAr g (g.2 l1 10) l2 ∧ x32 ((w (g.2 l0 0) (Int.toNat (w (g.2 l1 9) (Int.toNat l2)))) + (w (g.2 l1 10) (Int.toNat l2))) ∧ xA1 g (g.2 l0 0) (w (g.2 l1 9) (Int.toNat l2)) ∧ xIs g l0 (0, 3) ∧ xAr g (g.2 l0 5) l2 ∧ x32 (((xup w (g.2 l0 0) (Int.toNat (w (g.2 l1 9) (Int.toNat l2))) ((w (g.2 l0 0) (Int.toNat (w (g.2 l1 9) (Int.toNat l2)))) + (w (g.2 l1 10) (Int.toNat l2)))) (g.2 l0 5) (Int.toNat l2)) - 1) ∧ xA1 g (g.2 l0 5) l2 ∧ xIs g l0 (0, 3) ∧ xIs g l0 (0, 3) ∧ xAr g (g.2 l0 5) l2 ∧ 
      ((((xup (xup w (g.2 l0 0) (Int.toNat (w (g.2 l1 9) (Int.toNat l2))) ((w (g.2 l0 0) (Int.toNat (w (g.2 l1 9) (Int.toNat l2)))) + (w (g.2 l1 10) (Int.toNat l2)))) (g.2 l0 5) (Int.toNat l2) (((xup w (g.2 l0 0) (Int.toNat (w (g.2 l1 9) (Int.toNat l2))) ((w (g.2 l0 0) (Int.toNat (w (g.2 l1 9) (Int.toNat l2)))) + (w (g.2 l1 10) (Int.toNat l2)))) (g.2 l0 5) (Int.toNat l2)) - 1)) (g.2 l0 5) (Int.toNat l2)) ≤ 0) → xA1 g (g.2 l0 6) l2 ∧ x32 (l2 + 1) ∧ aSt_addWarmth d lim Q 2 [xr l0, xr l1, xi (l2 + 1)] [] g (xup (xup (xup w (g.2 l0 0) (Int.toNat (w (g.2 l1 9) (Int.toNat l2))) ((w (g.2 l0 0) (Int.toNat (w (g.2 l1 9) (Int.toNat l2)))) + (w (g.2 l1 10) (Int.toNat l2)))) (g.2 l0 5) (Int.toNat l2) (((xup w (g.2 l0 0) (Int.toNat (w (g.2 l1 9) (Int.toNat l2))) ((w (g.2 l0 0) (Int.toNat (w (g.2 l1 9) (Int.toNat l2)))) + (w (g.2 l1 10) (Int.toNat l2)))) (g.2 l0 5) (Int.toNat l2)) - 1)) (g.2 l0 6) (Int.toNat l2) 0)) ∧
      ((0 < ((xup (xup w (g.2 l0 0) (Int.toNat (w (g.2 l1 9) (Int.toNat l2))) ((w (g.2 l0 0) (Int.toNat (w (g.2 l1 9) (Int.toNat l2)))) + (w (g.2 l1 10) (Int.toNat l2)))) (g.2 l0 5) (Int.toNat l2) (((xup w (g.2 l0 0) (Int.toNat (w (g.2 l1 9) (Int.toNat l2))) ((w (g.2 l0 0) (Int.toNat (w (g.2 l1 9) (Int.toNat l2)))) + (w (g.2 l1 10) (Int.toNat l2)))) (g.2 l0 5) (Int.toNat l2)) - 1)) (g.2 l0 5) (Int.toNat l2))) → xA1 g (g.2 l0 6) l2 ∧ x32 (l2 + 1) ∧ aSt_addWarmth d lim Q 2 [xr l0, xr l1, xi (l2 + 1)] [] g (xup (xup (xup w (g.2 l0 0) (Int.toNat (w (g.2 l1 9) (Int.toNat l2))) ((w (g.2 l0 0) (Int.toNat (w (g.2 l1 9) (Int.toNat l2)))) + (w (g.2 l1 10) (Int.toNat l2)))) (g.2 l0 5) (Int.toNat l2) (((xup w (g.2 l0 0) (Int.toNat (w (g.2 l1 9) (Int.toNat l2))) ((w (g.2 l0 0) (Int.toNat (w (g.2 l1 9) (Int.toNat l2)))) + (w (g.2 l1 10) (Int.toNat l2)))) (g.2 l0 5) (Int.toNat l2)) - 1)) (g.2 l0 6) (Int.toNat l2) 1))))) :
    aSt_addWarmth d lim Q 2 [xr l0, xr l1, xi l2] [] g w := xAt_exec (cal_m d) kSt_addWarmth 45 t
set_option maxRecDepth 20000 in
theorem wSt_addWarmth_77 {d : Nat} {lim : Nat × Nat} {Q : xQ} {l2 : Int} {l0 l1 : Nat} {g : xG} {w : xW} (t : xIs g l1 (0, 5) ∧ 
  (((w l1 5) ≤ l2) → Q none g w) ∧
  ((l2 < (w l1 5)) → xIs g l0 (0, 3) ∧ xIs g l0 (0, 3) ∧ xAr g (g.2 l0 7) l2 ∧ xAr g (g.2 l0 0) (w (g.2 l0 7) (Int.toNat l2)) ∧ xIs g l1 (0, 5) ∧ xAr g (g.2 l1 12) l2 ∧ x32 ((w (g.2 l0 0) (Int.toNat (w (g.2 l0 7) (Int.toNat l2)))) + (w (g.2 l1 12) (Int.toNat l2))) ∧ xA1 g (g.2 l0 0) (w (g.2 l0 7) (Int.toNat l2)) ∧ x32 (l2 + 1) ∧ aSt_addWarmth d lim Q 77 [xr l0, xr l1, xi (l2 + 1)] [] g (xup w (g.2 l0 0) (Int.toNat (w (g.2 l0 7) (Int.toNat l2))) ((w (g.2 l0 0) (Int.toNat (w (g.2 l0 7) (Int.toNat l2)))) + (w (g.2 l1 12) (Int.toNat l2)))))) :
    aSt_addWarmth d lim Q 77 [xr l0, xr l1, xi l2] [] g w := xAt_exec (cal_m d) kSt_addWarmth 21 t
theorem eSt_addWarmth {d : Nat} {Q : xQ} {l0 l1 : Nat} {g : xG} {w : xW} (t : ∀ (lim : Nat × Nat) (Q2 : xQ), (∀ r g2 w2, g2.1 = g.1 → Q r g2 w2 → Q2 r g2 w2) → aSt_addWarmth d lim Q2 0 [xr l0, xr l1, none] [] g w) : cal (d + 1) nSt_addWarmth [xr l0, xr l1] g w Q := t _ _ xQof
abbrev aSt_coolDown (d : Nat) (lim : Nat × Nat) (Q : xQ) : xK := xAt xMks tSt_coolDown (cal d) lim Q
def kSt_coolDown : List (Nat × List Bool) := [(17, [true, true, true, true, true, false]), (52, [true, true, true, true, true, false])]
set_option maxRecDepth 20000 in
theorem wSt_coolDown_0 {d : Nat} {lim : Nat × Nat} {Q : xQ} {l0 l1 : Nat} {g : xG} {w : xW} (t : xIs g l1 (0, 5) ∧ 
  cal d nTw_cells [xr l1] g w (fun r g1 w1 => ∃ v1 : Int, r = some (xi v1) ∧ xIs g1 l0 (0, 3) ∧ xIs g1 l1 (0, 5) ∧ 
    cal d nTw_sunAt [xr l1, xi (w1 l0 16)] g1 w1 (fun r g2 w2 => ∃ v2 : Int, r = some (xi v2) ∧ aSt_coolDown d lim Q 17 [xr l0, xr l1, xi v1, xi v2, xi 0, none] [] g2 w2))) :
    aSt_coolDown d lim Q 0 [xr l0, xr l1, none, none, none, none] [] g w := xAt_exec (cal_m d) kSt_coolDown 11 t
set_option maxRecDepth 20000 in
theorem wSt_coolDown_17 {d : Nat} {lim : Nat × Nat} {Q : xQ} {l2 l3 l4 : Int} {l0 l1 : Nat} {g : xG} {w : xW} (t : 
  ((l2 ≤ l4) → Q none g w) ∧
  ((l4 < l2) → xIs g l1 (0, 5) ∧ xAr g (g.2 l1 7) l4 ∧ 
    (((w (g.2 l1 7) (Int.toNat l4)) = 0) → xIs g l0 (0, 3) ∧ xAr g (g.2 l0 0) l4 ∧ x32 ((w (g.2 l0 0) (Int.toNat l4)) + l3) ∧ aSt_coolDown d lim Q 52 [xr l0, xr l1, xi l2, xi l3, xi l4, none] [xi ((w (g.2 l0 0) (Int.toNat l4)) + l3)] g w) ∧
    ((¬ (w (g.2 l1 7) (Int.toNat l4)) = 0) → xIs g l0 (0, 3) ∧ xAr g (g.2 l0 0) l4 ∧ aSt_coolDown d lim Q 52 [xr l0, xr l1, xi l2, xi l3, xi l4, none] [xi (w (g.2 l0 0) (Int.toNat l4))] g w))) :
    aSt_coolDown d lim Q 17 [xr l0, xr l1, xi l2, xi l3, xi l4, none] [] g w := xAt_exec (cal_m d) kSt_coolDown 15 t
set_option maxRecDepth 20000 in
theorem wSt_coolDown_52 {d : Nat} {lim : Nat × Nat} {Q : xQ} {l2 l3 l4 s0 : Int} {l0 l1 : Nat} {g : xG} {w : xW} (t : xIs g l0 (0, 3) ∧ ((50 : Int) ≠ 0 ∧ x32 (Int.tdiv s0 50)) ∧ x32 (s0 - (Int.tdiv s0 50)) ∧ 
  cal d nJd_min [xi 999, xi (s0 - (Int.tdiv s0 50))] g w (fun r g1 w1 => ∃ v1 : Int, r = some (xi v1) ∧ xA1 g1 (g.2 l0 0) l4 ∧ x32 (l4 + 1) ∧ aSt_coolDown d lim Q 17 [xr l0, xr l1, xi l2, xi l3, xi (l4 + 1), none] [] g1 (xup w1 (g.2 l0 0) (Int.toNat l4) v1))) :
    aSt_coolDown d lim Q 52 [xr l0, xr l1, xi l2, xi l3, xi l4, none] [xi s0] g w := xAt_exec (cal_m d) kSt_coolDown 15 t
theorem eSt_coolDown {d : Nat} {Q : xQ} {l0 l1 : Nat} {g : xG} {w : xW} (t : ∀ (lim : Nat × Nat) (Q2 : xQ), (∀ r g2 w2, g2.1 = g.1 → Q r g2 w2 → Q2 r g2 w2) → aSt_coolDown d lim Q2 0 [xr l0, xr l1, none, none, none, none] [] g w) : cal (d + 1) nSt_coolDown [xr l0, xr l1] g w Q := t _ _ xQof
abbrev aSt_feel (d : Nat) (lim : Nat × Nat) (Q : xQ) : xK := xAt xMks tSt_feel (cal d) lim Q
def kSt_feel : List (Nat × List Bool) := [(7, [true, true, true, true])]
set_option maxRecDepth 20000 in
theorem wSt_feel_0 {d : Nat} {lim : Nat × Nat} {Q : xQ} {l2 : Int} {l0 l1 : Nat} {g : xG} {w : xW} (t : xIs g l0 (0, 3) ∧ aSt_feel d lim Q 7 [xr l0, xr l1, xi l2, xi 0] [] g (xup w l0 12 0)) :
    aSt_feel d lim Q 0 [xr l0, xr l1, xi l2, none] [] g w := xAt_exec (cal_m d) kSt_feel 6 t
set_option maxRecDepth 20000 in
theorem wSt_feel_7 {d : Nat} {lim : Nat × Nat} {Q : xQ} {l2 l3 : Int} {l0 l1 : Nat} {g : xG} {w : xW} (t : xIs g l1 (0, 5) ∧ 
  (((w l1 5) ≤ l3) → Q none g w) ∧
  ((l3 < (w l1 5)) → 
    ((l3 = l2) → x32 (l3 + 1) ∧ aSt_feel d lim Q 7 [xr l0, xr l1, xi l2, xi (l3 + 1)] [] g w) ∧
    ((¬ l3 = l2) → xIs g l0 (0, 3) ∧ xIs g l0 (0, 3) ∧ xAr g (g.2 l0 7) l3 ∧ xAr g (g.2 l0 0) (w (g.2 l0 7) (Int.toNat l3)) ∧ xIs g l0 (0, 3) ∧ xAr g (g.2 l0 8) l3 ∧ xIs g l1 (0, 5) ∧ xAr g (g.2 l1 11) l3 ∧ x32 ((w (g.2 l0 8) (Int.toNat l3)) + (w (g.2 l1 11) (Int.toNat l3))) ∧ 
      (((w (g.2 l0 0) (Int.toNat (w (g.2 l0 7) (Int.toNat l3)))) < ((w (g.2 l0 8) (Int.toNat l3)) + (w (g.2 l1 11) (Int.toNat l3)))) → x32 (l3 + 1) ∧ aSt_feel d lim Q 7 [xr l0, xr l1, xi l2, xi (l3 + 1)] [] g w) ∧
      ((((w (g.2 l0 8) (Int.toNat l3)) + (w (g.2 l1 11) (Int.toNat l3))) ≤ (w (g.2 l0 0) (Int.toNat (w (g.2 l0 7) (Int.toNat l3))))) → xIs g l0 (0, 3) ∧ xIs g l0 (0, 3) ∧ x32 (l3 + 1) ∧ aSt_feel d lim Q 7 [xr l0, xr l1, xi l2, xi (l3 + 1)] [] g (xup w l0 12 (xOr (w l0 12) (xShl 1 l3))))))) :
    aSt_feel d lim Q 7 [xr l0, xr l1, xi l2, xi l3] [] g w := xAt_exec (cal_m d) kSt_feel 35 t
theorem eSt_feel {d : Nat} {Q : xQ} {l2 : Int} {l0 l1 : Nat} {g : xG} {w : xW} (t : ∀ (lim : Nat × Nat) (Q2 : xQ), (∀ r g2 w2, g2.1 = g.1 → Q r g2 w2 → Q2 r g2 w2) → aSt_feel d lim Q2 0 [xr l0, xr l1, xi l2, none] [] g w) : cal (d + 1) nSt_feel [xr l0, xr l1, xi l2] g w Q := t _ _ xQof
abbrev aSt_takeCells (d : Nat) (lim : Nat × Nat) (Q : xQ) : xK := xAt xMks tSt_takeCells (cal d) lim Q
def kSt_takeCells : List (Nat × List Bool) := [(2, [true, true, true, false]), (47, [true, true, true, true])]
set_option maxRecDepth 20000 in
theorem wSt_takeCells_0 {d : Nat} {lim : Nat × Nat} {Q : xQ} {l0 l1 : Nat} {g : xG} {w : xW} (t : aSt_takeCells d lim Q 2 [xr l0, xr l1, xi 0, none] [] g w) :
    aSt_takeCells d lim Q 0 [xr l0, xr l1, none, none] [] g w := xAt_exec (cal_m d) kSt_takeCells 3 t
set_option maxRecDepth 20000 in
theorem wSt_takeCells_2 {d : Nat} {lim : Nat × Nat} {Q : xQ} {l2 : Int} {l0 l1 : Nat} {g : xG} {w : xW} (t : xIs g l1 (0, 5) ∧ 
  (((w l1 5) ≤ l2) → Q none g w) ∧
  ((l2 < (w l1 5)) → xIs g l0 (0, 3) ∧ xAr g (g.2 l0 7) l2 ∧ xIs g l0 (0, 3) ∧ 
    cal d nSt_feels [xr l0, xi l2] g w (fun r g1 w1 => ∃ v1 : Int, r = some (xi v1) ∧ 
      ((v1 = 0) → aSt_takeCells d lim Q 47 [xr l0, xr l1, xi l2, xi (w (g.2 l0 7) (Int.toNat l2))] [] g1 w1) ∧
      ((¬ v1 = 0) → xIs g1 l0 (0, 3) ∧ xAr g1 (g1.2 l0 2) (w (g.2 l0 7) (Int.toNat l2)) ∧ 
        ((¬ (w1 (g1.2 l0 2) (Int.toNat (w (g.2 l0 7) (Int.toNat l2)))) = (-1)) → aSt_takeCells d lim Q 47 [xr l0, xr l1, xi l2, xi (w (g.2 l0 7) (Int.toNat l2))] [] g1 w1) ∧
        (((w1 (g1.2 l0 2) (Int.toNat (w (g.2 l0 7) (Int.toNat l2)))) = (-1)) → xIs g1 l0 (0, 3) ∧ xIs g1 l0 (0, 3) ∧ 
          cal d nSt_coldestFeeling [xr l0, xr l1, xi (w (g.2 l0 7) (Int.toNat l2))] g1 w1 (fun r g2 w2 => ∃ v2 : Int, r = some (xi v2) ∧ xA1 g2 (g1.2 l0 2) (w (g.2 l0 7) (Int.toNat l2)) ∧ aSt_takeCells d lim Q 47 [xr l0, xr l1, xi l2, xi (w (g.2 l0 7) (Int.toNat l2))] [] g2 (xup w2 (g1.2 l0 2) (Int.toNat (w (g.2 l0 7) (Int.toNat l2))) v2))))))) :
    aSt_takeCells d lim Q 2 [xr l0, xr l1, xi l2, none] [] g w := xAt_exec (cal_m d) kSt_takeCells 28 t
set_option maxRecDepth 20000 in
theorem wSt_takeCells_47 {d : Nat} {lim : Nat × Nat} {Q : xQ} {l2 l3 : Int} {l0 l1 : Nat} {g : xG} {w : xW} (t : xIs g l0 (0, 3) ∧ 
  cal d nSt_feels [xr l0, xi l2] g w (fun r g1 w1 => ∃ v1 : Int, r = some (xi v1) ∧ 
    ((v1 = 0) → x32 (l2 + 1) ∧ aSt_takeCells d lim Q 2 [xr l0, xr l1, xi (l2 + 1), none] [] g1 w1) ∧
    ((¬ v1 = 0) → xIs g1 l0 (0, 3) ∧ xAr g1 (g1.2 l0 2) l3 ∧ 
      ((¬ (w1 (g1.2 l0 2) (Int.toNat l3)) = l2) → x32 (l2 + 1) ∧ aSt_takeCells d lim Q 2 [xr l0, xr l1, xi (l2 + 1), none] [] g1 w1) ∧
      (((w1 (g1.2 l0 2) (Int.toNat l3)) = l2) → xIs g1 l0 (0, 3) ∧ xIs g1 l0 (0, 3) ∧ xA1 g1 (g1.2 l0 3) l3 ∧ x32 (l2 + 1) ∧ aSt_takeCells d lim Q 2 [xr l0, xr l1, xi (l2 + 1), none] [] g1 (xup w1 (g1.2 l0 3) (Int.toNat l3) (w1 l0 16)))))) :
    aSt_takeCells d lim Q 47 [xr l0, xr l1, xi l2, xi l3] [] g w := xAt_exec (cal_m d) kSt_takeCells 19 t
theorem eSt_takeCells {d : Nat} {Q : xQ} {l0 l1 : Nat} {g : xG} {w : xW} (t : ∀ (lim : Nat × Nat) (Q2 : xQ), (∀ r g2 w2, g2.1 = g.1 → Q r g2 w2 → Q2 r g2 w2) → aSt_takeCells d lim Q2 0 [xr l0, xr l1, none, none] [] g w) : cal (d + 1) nSt_takeCells [xr l0, xr l1] g w Q := t _ _ xQof
abbrev aSt_coldestFeeling (d : Nat) (lim : Nat × Nat) (Q : xQ) : xK := xAt xMks tSt_coldestFeeling (cal d) lim Q
def kSt_coldestFeeling : List (Nat × List Bool) := [(5, [true, true, true, true, true])]
set_option maxRecDepth 20000 in
theorem wSt_coldestFeeling_0 {d : Nat} {lim : Nat × Nat} {Q : xQ} {l2 : Int} {l0 l1 : Nat} {g : xG} {w : xW} (t : aSt_coldestFeeling d lim Q 5 [xr l0, xr l1, xi l2, xi (-1), xi 0] [] g w) :
    aSt_coldestFeeling d lim Q 0 [xr l0, xr l1, xi l2, none, none] [] g w := xAt_exec (cal_m d) kSt_coldestFeeling 5 t
set_option maxRecDepth 20000 in
theorem wSt_coldestFeeling_5 {d : Nat} {lim : Nat × Nat} {Q : xQ} {l2 l3 l4 : Int} {l0 l1 : Nat} {g : xG} {w : xW} (t : xIs g l1 (0, 5) ∧ 
  (((w l1 5) ≤ l4) → Q (some (xi l3)) g w) ∧
  ((l4 < (w l1 5)) → xIs g l0 (0, 3) ∧ 
    cal d nSt_feels [xr l0, xi l4] g w (fun r g1 w1 => ∃ v1 : Int, r = some (xi v1) ∧ 
      ((v1 = 0) → x32 (l4 + 1) ∧ aSt_coldestFeeling d lim Q 5 [xr l0, xr l1, xi l2, xi l3, xi (l4 + 1)] [] g1 w1) ∧
      ((¬ v1 = 0) → xIs g1 l0 (0, 3) ∧ xAr g1 (g1.2 l0 7) l4 ∧ 
        ((¬ (w1 (g1.2 l0 7) (Int.toNat l4)) = l2) → x32 (l4 + 1) ∧ aSt_coldestFeeling d lim Q 5 [xr l0, xr l1, xi l2, xi l3, xi (l4 + 1)] [] g1 w1) ∧
        (((w1 (g1.2 l0 7) (Int.toNat l4)) = l2) → 
          ((l3 = (-1)) → x32 (l4 + 1) ∧ aSt_coldestFeeling d lim Q 5 [xr l0, xr l1, xi l2, xi l4, xi (l4 + 1)] [] g1 w1) ∧
          ((¬ l3 = (-1)) → xIs g1 l0 (0, 3) ∧ xAr g1 (g1.2 l0 8) l4 ∧ xIs g1 l0 (0, 3) ∧ xAr g1 (g1.2 l0 8) l3 ∧ 
            (((w1 (g1.2 l0 8) (Int.toNat l3)) ≤ (w1 (g1.2 l0 8) (Int.toNat l4))) → x32 (l4 + 1) ∧ aSt_coldestFeeling d lim Q 5 [xr l0, xr l1, xi l2, xi l3, xi (l4 + 1)] [] g1 w1) ∧
            (((w1 (g1.2 l0 8) (Int.toNat l4)) < (w1 (g1.2 l0 8) (Int.toNat l3))) → x32 (l4 + 1) ∧ aSt_coldestFeeling d lim Q 5 [xr l0, xr l1, xi l2, xi l4, xi (l4 + 1)] [] g1 w1))))))) :
    aSt_coldestFeeling d lim Q 5 [xr l0, xr l1, xi l2, xi l3, xi l4] [] g w := xAt_exec (cal_m d) kSt_coldestFeeling 31 t
theorem eSt_coldestFeeling {d : Nat} {Q : xQ} {l2 : Int} {l0 l1 : Nat} {g : xG} {w : xW} (t : ∀ (lim : Nat × Nat) (Q2 : xQ), (∀ r g2 w2, g2.1 = g.1 → Q r g2 w2 → Q2 r g2 w2) → aSt_coldestFeeling d lim Q2 0 [xr l0, xr l1, xi l2, none, none] [] g w) : cal (d + 1) nSt_coldestFeeling [xr l0, xr l1, xi l2] g w Q := t _ _ xQof
abbrev aSt_keepLaw (d : Nat) (lim : Nat × Nat) (Q : xQ) : xK := xAt xMks tSt_keepLaw (cal d) lim Q
def kSt_keepLaw : List (Nat × List Bool) := [(16, [true, true])]
set_option maxRecDepth 20000 in
theorem wSt_keepLaw_0 {d : Nat} {lim : Nat × Nat} {Q : xQ} {l0 l1 : Nat} {g : xG} {w : xW} (t : xIs g l0 (0, 3) ∧ 
  (((w l0 14) = 1) → aSt_keepLaw d lim Q 16 [xr l0, xr l1] [] g w) ∧
  ((¬ (w l0 14) = 1) → xIs g l0 (0, 3) ∧ 
    ((¬ (w l0 14) = 2) → xIs g l0 (0, 3) ∧ 
      ((¬ (w l0 14) = 3) → Q none g w) ∧
      (((w l0 14) = 3) → xIs g l0 (0, 3) ∧ 
        cal d nSt_makePartners [xr l0, xr l1] g w (fun r g1 w1 => r = none ∧ Q none g1 w1))) ∧
    (((w l0 14) = 2) → aSt_keepLaw d lim Q 16 [xr l0, xr l1] [] g w))) :
    aSt_keepLaw d lim Q 0 [xr l0, xr l1] [] g w := xAt_exec (cal_m d) kSt_keepLaw 17 t
set_option maxRecDepth 20000 in
theorem wSt_keepLaw_16 {d : Nat} {lim : Nat × Nat} {Q : xQ} {l0 l1 : Nat} {g : xG} {w : xW} (t : xIs g l0 (0, 3) ∧ 
  cal d nSt_endOwning [xr l0, xr l1] g w (fun r g1 w1 => r = none ∧ Q none g1 w1)) :
    aSt_keepLaw d lim Q 16 [xr l0, xr l1] [] g w := xAt_exec (cal_m d) kSt_keepLaw 6 t
theorem eSt_keepLaw {d : Nat} {Q : xQ} {l0 l1 : Nat} {g : xG} {w : xW} (t : ∀ (lim : Nat × Nat) (Q2 : xQ), (∀ r g2 w2, g2.1 = g.1 → Q r g2 w2 → Q2 r g2 w2) → aSt_keepLaw d lim Q2 0 [xr l0, xr l1] [] g w) : cal (d + 1) nSt_keepLaw [xr l0, xr l1] g w Q := t _ _ xQof
abbrev aSt_endOwning (d : Nat) (lim : Nat × Nat) (Q : xQ) : xK := xAt xMks tSt_endOwning (cal d) lim Q
def kSt_endOwning : List (Nat × List Bool) := [(7, [true, false, true, true, false]), (76, [true, false, true, true, false])]
set_option maxRecDepth 20000 in
theorem wSt_endOwning_0 {d : Nat} {lim : Nat × Nat} {Q : xQ} {l0 l1 : Nat} {g : xG} {w : xW} (t : xIs g l1 (0, 5) ∧ 
  cal d nTw_cells [xr l1] g w (fun r g1 w1 => ∃ v1 : Int, r = some (xi v1) ∧ aSt_endOwning d lim Q 7 [xr l0, none, xi v1, xi 0, none] [] g1 w1)) :
    aSt_endOwning d lim Q 0 [xr l0, xr l1, none, none, none] [] g w := xAt_exec (cal_m d) kSt_endOwning 6 t
set_option maxRecDepth 20000 in
theorem wSt_endOwning_7 {d : Nat} {lim : Nat × Nat} {Q : xQ} {l2 l3 : Int} {l0 : Nat} {g : xG} {w : xW} (t : 
  ((l2 ≤ l3) → Q none g w) ∧
  ((l3 < l2) → xIs g l0 (0, 3) ∧ xAr g (g.2 l0 2) l3 ∧ 
    (((w (g.2 l0 2) (Int.toNat l3)) = (-1)) → x32 (l3 + 1) ∧ aSt_endOwning d lim Q 7 [xr l0, none, xi l2, xi (l3 + 1), none] [] g w) ∧
    ((¬ (w (g.2 l0 2) (Int.toNat l3)) = (-1)) → xIs g l0 (0, 3) ∧ 
      ((¬ (w l0 14) = 1) → xIs g l0 (0, 3) ∧ xIs g l0 (0, 3) ∧ xAr g (g.2 l0 2) l3 ∧ xAr g (g.2 l0 7) (w (g.2 l0 2) (Int.toNat l3)) ∧ 
        ((¬ (w (g.2 l0 7) (Int.toNat (w (g.2 l0 2) (Int.toNat l3)))) = l3) → aSt_endOwning d lim Q 76 [xr l0, none, xi l2, xi l3, none] [xi 0] g w) ∧
        (((w (g.2 l0 7) (Int.toNat (w (g.2 l0 2) (Int.toNat l3)))) = l3) → aSt_endOwning d lim Q 76 [xr l0, none, xi l2, xi l3, none] [xi 1] g w)) ∧
      (((w l0 14) = 1) → xIs g l0 (0, 3) ∧ xIs g l0 (0, 3) ∧ xAr g (g.2 l0 3) l3 ∧ x32 ((w l0 16) - (w (g.2 l0 3) (Int.toNat l3))) ∧ xIs g l0 (0, 3) ∧ 
        (((w l0 15) < ((w l0 16) - (w (g.2 l0 3) (Int.toNat l3)))) → aSt_endOwning d lim Q 76 [xr l0, none, xi l2, xi l3, none] [xi 0] g w) ∧
        ((((w l0 16) - (w (g.2 l0 3) (Int.toNat l3))) ≤ (w l0 15)) → aSt_endOwning d lim Q 76 [xr l0, none, xi l2, xi l3, none] [xi 1] g w))))) :
    aSt_endOwning d lim Q 7 [xr l0, none, xi l2, xi l3, none] [] g w := xAt_exec (cal_m d) kSt_endOwning 26 t
set_option maxRecDepth 20000 in
theorem wSt_endOwning_76 {d : Nat} {lim : Nat × Nat} {Q : xQ} {l2 l3 s0 : Int} {l0 : Nat} {g : xG} {w : xW} (t : 
  ((¬ s0 = 0) → x32 (l3 + 1) ∧ aSt_endOwning d lim Q 7 [xr l0, none, xi l2, xi (l3 + 1), none] [] g w) ∧
  ((s0 = 0) → xIs g l0 (0, 3) ∧ xA1 g (g.2 l0 2) l3 ∧ x32 (l3 + 1) ∧ aSt_endOwning d lim Q 7 [xr l0, none, xi l2, xi (l3 + 1), none] [] g (xup w (g.2 l0 2) (Int.toNat l3) (-1)))) :
    aSt_endOwning d lim Q 76 [xr l0, none, xi l2, xi l3, none] [xi s0] g w := xAt_exec (cal_m d) kSt_endOwning 11 t
theorem eSt_endOwning {d : Nat} {Q : xQ} {l0 l1 : Nat} {g : xG} {w : xW} (t : ∀ (lim : Nat × Nat) (Q2 : xQ), (∀ r g2 w2, g2.1 = g.1 → Q r g2 w2 → Q2 r g2 w2) → aSt_endOwning d lim Q2 0 [xr l0, xr l1, none, none, none] [] g w) : cal (d + 1) nSt_endOwning [xr l0, xr l1] g w Q := t _ _ xQof
abbrev aSt_makePartners (d : Nat) (lim : Nat × Nat) (Q : xQ) : xK := xAt xMks tSt_makePartners (cal d) lim Q
def kSt_makePartners : List (Nat × List Bool) := [(2, [true, true, true, false])]
set_option maxRecDepth 20000 in
theorem wSt_makePartners_0 {d : Nat} {lim : Nat × Nat} {Q : xQ} {l0 l1 : Nat} {g : xG} {w : xW} (t : aSt_makePartners d lim Q 2 [xr l0, xr l1, xi 0, none] [] g w) :
    aSt_makePartners d lim Q 0 [xr l0, xr l1, none, none] [] g w := xAt_exec (cal_m d) kSt_makePartners 3 t
set_option maxRecDepth 20000 in
theorem wSt_makePartners_2 {d : Nat} {lim : Nat × Nat} {Q : xQ} {l2 : Int} {l0 l1 : Nat} {g : xG} {w : xW} (t : xIs g l1 (0, 5) ∧ 
  (((w l1 5) ≤ l2) → Q none g w) ∧
  ((l2 < (w l1 5)) → xIs g l0 (0, 3) ∧ xIs g l0 (0, 3) ∧ xAr g (g.2 l0 7) l2 ∧ xAr g (g.2 l0 2) (w (g.2 l0 7) (Int.toNat l2)) ∧ xIs g l0 (0, 3) ∧ 
    cal d nSt_feels [xr l0, xi l2] g w (fun r g1 w1 => ∃ v1 : Int, r = some (xi v1) ∧ 
      ((v1 = 0) → x32 (l2 + 1) ∧ aSt_makePartners d lim Q 2 [xr l0, xr l1, xi (l2 + 1), none] [] g1 w1) ∧
      ((¬ v1 = 0) → 
        (((w (g.2 l0 2) (Int.toNat (w (g.2 l0 7) (Int.toNat l2)))) = (-1)) → x32 (l2 + 1) ∧ aSt_makePartners d lim Q 2 [xr l0, xr l1, xi (l2 + 1), none] [] g1 w1) ∧
        ((¬ (w (g.2 l0 2) (Int.toNat (w (g.2 l0 7) (Int.toNat l2)))) = (-1)) → 
          (((w (g.2 l0 2) (Int.toNat (w (g.2 l0 7) (Int.toNat l2)))) = l2) → x32 (l2 + 1) ∧ aSt_makePartners d lim Q 2 [xr l0, xr l1, xi (l2 + 1), none] [] g1 w1) ∧
          ((¬ (w (g.2 l0 2) (Int.toNat (w (g.2 l0 7) (Int.toNat l2)))) = l2) → xIs g1 l0 (0, 3) ∧ xAr g1 (g1.2 l0 11) l2 ∧ xA1 g1 (g1.2 l0 11) l2 ∧ xIs g1 l0 (0, 3) ∧ xAr g1 (g1.2 l0 11) (w (g.2 l0 2) (Int.toNat (w (g.2 l0 7) (Int.toNat l2)))) ∧ xA1 g1 (g1.2 l0 11) (w (g.2 l0 2) (Int.toNat (w (g.2 l0 7) (Int.toNat l2)))) ∧ x32 (l2 + 1) ∧ aSt_makePartners d lim Q 2 [xr l0, xr l1, xi (l2 + 1), none] [] g1 (xup (xup w1 (g1.2 l0 11) (Int.toNat l2) (xOr (w1 (g1.2 l0 11) (Int.toNat l2)) (xShl 1 (w (g.2 l0 2) (Int.toNat (w (g.2 l0 7) (Int.toNat l2))))))) (g1.2 l0 11) (Int.toNat (w (g.2 l0 2) (Int.toNat (w (g.2 l0 7) (Int.toNat l2))))) (xOr ((xup w1 (g1.2 l0 11) (Int.toNat l2) (xOr (w1 (g1.2 l0 11) (Int.toNat l2)) (xShl 1 (w (g.2 l0 2) (Int.toNat (w (g.2 l0 7) (Int.toNat l2))))))) (g1.2 l0 11) (Int.toNat (w (g.2 l0 2) (Int.toNat (w (g.2 l0 7) (Int.toNat l2)))))) (xShl 1 l2))))))))) :
    aSt_makePartners d lim Q 2 [xr l0, xr l1, xi l2, none] [] g w := xAt_exec (cal_m d) kSt_makePartners 45 t
theorem eSt_makePartners {d : Nat} {Q : xQ} {l0 l1 : Nat} {g : xG} {w : xW} (t : ∀ (lim : Nat × Nat) (Q2 : xQ), (∀ r g2 w2, g2.1 = g.1 → Q r g2 w2 → Q2 r g2 w2) → aSt_makePartners d lim Q2 0 [xr l0, xr l1, none, none] [] g w) : cal (d + 1) nSt_makePartners [xr l0, xr l1] g w Q := t _ _ xQof
abbrev aSt_isDear (d : Nat) (lim : Nat × Nat) (Q : xQ) : xK := xAt xMks tSt_isDear (cal d) lim Q
def kSt_isDear : List (Nat × List Bool) := []
set_option maxRecDepth 20000 in
theorem wSt_isDear_0 {d : Nat} {lim : Nat × Nat} {Q : xQ} {l1 l2 : Int} {l0 : Nat} {g : xG} {w : xW} (t : xIs g l0 (0, 3) ∧ xAr g (g.2 l0 2) l2 ∧ xIs g l0 (0, 3) ∧ xAr g (g.2 l0 0) l2 ∧ 
  (((w (g.2 l0 0) (Int.toNat l2)) < 50) → ((0 : Int) = 0 ∨ (0 : Int) = 1) ∧ Q (some (xi 0)) g w) ∧
  ((50 ≤ (w (g.2 l0 0) (Int.toNat l2))) → 
    (((w (g.2 l0 2) (Int.toNat l2)) = (-1)) → ((0 : Int) = 0 ∨ (0 : Int) = 1) ∧ Q (some (xi 0)) g w) ∧
    ((¬ (w (g.2 l0 2) (Int.toNat l2)) = (-1)) → 
      (((w (g.2 l0 2) (Int.toNat l2)) = l1) → ((0 : Int) = 0 ∨ (0 : Int) = 1) ∧ Q (some (xi 0)) g w) ∧
      ((¬ (w (g.2 l0 2) (Int.toNat l2)) = l1) → xIs g l0 (0, 3) ∧ xAr g (g.2 l0 11) l1 ∧ 
        ((¬ (xAnd (xShr (w (g.2 l0 11) (Int.toNat l1)) (w (g.2 l0 2) (Int.toNat l2))) 1) = 0) → ((0 : Int) = 0 ∨ (0 : Int) = 1) ∧ Q (some (xi 0)) g w) ∧
        (((xAnd (xShr (w (g.2 l0 11) (Int.toNat l1)) (w (g.2 l0 2) (Int.toNat l2))) 1) = 0) → ((1 : Int) = 0 ∨ (1 : Int) = 1) ∧ Q (some (xi 1)) g w))))) :
    aSt_isDear d lim Q 0 [xr l0, xi l1, xi l2, none] [] g w := xAt_exec (cal_m d) kSt_isDear 30 t
theorem eSt_isDear {d : Nat} {Q : xQ} {l1 l2 : Int} {l0 : Nat} {g : xG} {w : xW} (t : ∀ (lim : Nat × Nat) (Q2 : xQ), (∀ r g2 w2, g2.1 = g.1 → Q r g2 w2 → Q2 r g2 w2) → aSt_isDear d lim Q2 0 [xr l0, xi l1, xi l2, none] [] g w) : cal (d + 1) nSt_isDear [xr l0, xi l1, xi l2] g w Q := t _ _ xQof
abbrev aSt_oweForWarmth (d : Nat) (lim : Nat × Nat) (Q : xQ) : xK := xAt xMks tSt_oweForWarmth (cal d) lim Q
def kSt_oweForWarmth : List (Nat × List Bool) := [(2, [true, true, true, false])]
set_option maxRecDepth 20000 in
theorem wSt_oweForWarmth_0 {d : Nat} {lim : Nat × Nat} {Q : xQ} {l0 l1 : Nat} {g : xG} {w : xW} (t : aSt_oweForWarmth d lim Q 2 [xr l0, xr l1, xi 0, none] [] g w) :
    aSt_oweForWarmth d lim Q 0 [xr l0, xr l1, none, none] [] g w := xAt_exec (cal_m d) kSt_oweForWarmth 3 t
set_option maxRecDepth 20000 in
theorem wSt_oweForWarmth_2 {d : Nat} {lim : Nat × Nat} {Q : xQ} {l2 : Int} {l0 l1 : Nat} {g : xG} {w : xW} (t : xIs g l1 (0, 5) ∧ 
  (((w l1 5) ≤ l2) → Q none g w) ∧
  ((l2 < (w l1 5)) → xIs g l0 (0, 3) ∧ xAr g (g.2 l0 7) l2 ∧ xIs g l0 (0, 3) ∧ 
    cal d nSt_isDear [xr l0, xi l2, xi (w (g.2 l0 7) (Int.toNat l2))] g w (fun r g1 w1 => ∃ v1 : Int, r = some (xi v1) ∧ 
      ((v1 = 0) → x32 (l2 + 1) ∧ aSt_oweForWarmth d lim Q 2 [xr l0, xr l1, xi (l2 + 1), none] [] g1 w1) ∧
      ((¬ v1 = 0) → xIs g1 l0 (0, 3) ∧ xIs g1 l0 (0, 3) ∧ xAr g1 (g1.2 l0 7) l2 ∧ xAr g1 (g1.2 l0 2) (w1 (g1.2 l0 7) (Int.toNat l2)) ∧ xIs g1 l0 (0, 3) ∧ xIs g1 l0 (0, 3) ∧ xAr g1 (g1.2 l0 9) l2 ∧ x32 ((w1 (g1.2 l0 9) (Int.toNat l2)) + 1) ∧ 
        cal d nJd_min [xi 999999, xi ((w1 (g1.2 l0 9) (Int.toNat l2)) + 1)] g1 w1 (fun r g2 w2 => ∃ v2 : Int, r = some (xi v2) ∧ xA1 g2 (g1.2 l0 9) l2 ∧ xIs g2 l0 (0, 3) ∧ xIs g2 l0 (0, 3) ∧ xAr g2 (g2.2 l0 10) (w1 (g1.2 l0 2) (Int.toNat (w1 (g1.2 l0 7) (Int.toNat l2)))) ∧ x32 (((xup w2 (g1.2 l0 9) (Int.toNat l2) v2) (g2.2 l0 10) (Int.toNat (w1 (g1.2 l0 2) (Int.toNat (w1 (g1.2 l0 7) (Int.toNat l2)))))) + 1) ∧ 
          cal d nJd_min [xi 999999, xi (((xup w2 (g1.2 l0 9) (Int.toNat l2) v2) (g2.2 l0 10) (Int.toNat (w1 (g1.2 l0 2) (Int.toNat (w1 (g1.2 l0 7) (Int.toNat l2)))))) + 1)] g2 (xup w2 (g1.2 l0 9) (Int.toNat l2) v2) (fun r g3 w3 => ∃ v3 : Int, r = some (xi v3) ∧ xA1 g3 (g2.2 l0 10) (w1 (g1.2 l0 2) (Int.toNat (w1 (g1.2 l0 7) (Int.toNat l2)))) ∧ x32 (l2 + 1) ∧ aSt_oweForWarmth d lim Q 2 [xr l0, xr l1, xi (l2 + 1), none] [] g3 (xup w3 (g2.2 l0 10) (Int.toNat (w1 (g1.2 l0 2) (Int.toNat (w1 (g1.2 l0 7) (Int.toNat l2))))) v3))))))) :
    aSt_oweForWarmth d lim Q 2 [xr l0, xr l1, xi l2, none] [] g w := xAt_exec (cal_m d) kSt_oweForWarmth 47 t
theorem eSt_oweForWarmth {d : Nat} {Q : xQ} {l0 l1 : Nat} {g : xG} {w : xW} (t : ∀ (lim : Nat × Nat) (Q2 : xQ), (∀ r g2 w2, g2.1 = g.1 → Q r g2 w2 → Q2 r g2 w2) → aSt_oweForWarmth d lim Q2 0 [xr l0, xr l1, none, none] [] g w) : cal (d + 1) nSt_oweForWarmth [xr l0, xr l1] g w Q := t _ _ xQof
abbrev aSt_warmSkins (d : Nat) (lim : Nat × Nat) (Q : xQ) : xK := xAt xMks tSt_warmSkins (cal d) lim Q
def kSt_warmSkins : List (Nat × List Bool) := [(2, [true, true, true])]
set_option maxRecDepth 20000 in
theorem wSt_warmSkins_0 {d : Nat} {lim : Nat × Nat} {Q : xQ} {l0 l1 : Nat} {g : xG} {w : xW} (t : aSt_warmSkins d lim Q 2 [xr l0, xr l1, xi 0] [] g w) :
    aSt_warmSkins d lim Q 0 [xr l0, xr l1, none] [] g w := xAt_exec (cal_m d) kSt_warmSkins 3 t
set_option maxRecDepth 20000 in
theorem wSt_warmSkins_2 {d : Nat} {lim : Nat × Nat} {Q : xQ} {l2 : Int} {l0 l1 : Nat} {g : xG} {w : xW} (t : xIs g l1 (0, 5) ∧ 
  (((w l1 5) ≤ l2) → Q none g w) ∧
  ((l2 < (w l1 5)) → xIs g l0 (0, 3) ∧ xAr g (g.2 l0 8) l2 ∧ xIs g l0 (0, 3) ∧ xIs g l0 (0, 3) ∧ xAr g (g.2 l0 7) l2 ∧ xAr g (g.2 l0 0) (w (g.2 l0 7) (Int.toNat l2)) ∧ xIs g l0 (0, 3) ∧ xAr g (g.2 l0 8) l2 ∧ x32 ((w (g.2 l0 0) (Int.toNat (w (g.2 l0 7) (Int.toNat l2)))) - (w (g.2 l0 8) (Int.toNat l2))) ∧ ((4 : Int) ≠ 0 ∧ x32 (Int.tdiv ((w (g.2 l0 0) (Int.toNat (w (g.2 l0 7) (Int.toNat l2)))) - (w (g.2 l0 8) (Int.toNat l2))) 4)) ∧ x32 ((w (g.2 l0 8) (Int.toNat l2)) + (Int.tdiv ((w (g.2 l0 0) (Int.toNat (w (g.2 l0 7) (Int.toNat l2)))) - (w (g.2 l0 8) (Int.toNat l2))) 4)) ∧ xA1 g (g.2 l0 8) l2 ∧ xIs g l0 (0, 3) ∧ xAr g (g.2 l0 8) l2 ∧ 
    ((20 ≤ ((xup w (g.2 l0 8) (Int.toNat l2) ((w (g.2 l0 8) (Int.toNat l2)) + (Int.tdiv ((w (g.2 l0 0) (Int.toNat (w (g.2 l0 7) (Int.toNat l2)))) - (w (g.2 l0 8) (Int.toNat l2))) 4))) (g.2 l0 8) (Int.toNat l2))) → x32 (l2 + 1) ∧ aSt_warmSkins d lim Q 2 [xr l0, xr l1, xi (l2 + 1)] [] g (xup w (g.2 l0 8) (Int.toNat l2) ((w (g.2 l0 8) (Int.toNat l2)) + (Int.tdiv ((w (g.2 l0 0) (Int.toNat (w (g.2 l0 7) (Int.toNat l2)))) - (w (g.2 l0 8) (Int.toNat l2))) 4)))) ∧
    ((((xup w (g.2 l0 8) (Int.toNat l2) ((w (g.2 l0 8) (Int.toNat l2)) + (Int.tdiv ((w (g.2 l0 0) (Int.toNat (w (g.2 l0 7) (Int.toNat l2)))) - (w (g.2 l0 8) (Int.toNat l2))) 4))) (g.2 l0 8) (Int.toNat l2)) < 20) → xIs g l0 (0, 3) ∧ xIs g l0 (0, 3) ∧ x32 (l2 + 1) ∧ aSt_warmSkins d lim Q 2 [xr l0, xr l1, xi (l2 + 1)] [] g (xup (xup w (g.2 l0 8) (Int.toNat l2) ((w (g.2 l0 8) (Int.toNat l2)) + (Int.tdiv ((w (g.2 l0 0) (Int.toNat (w (g.2 l0 7) (Int.toNat l2)))) - (w (g.2 l0 8) (Int.toNat l2))) 4))) l0 13 (xOr ((xup w (g.2 l0 8) (Int.toNat l2) ((w (g.2 l0 8) (Int.toNat l2)) + (Int.tdiv ((w (g.2 l0 0) (Int.toNat (w (g.2 l0 7) (Int.toNat l2)))) - (w (g.2 l0 8) (Int.toNat l2))) 4))) l0 13) (xShl 1 l2)))))) :
    aSt_warmSkins d lim Q 2 [xr l0, xr l1, xi l2] [] g w := xAt_exec (cal_m d) kSt_warmSkins 42 t
theorem eSt_warmSkins {d : Nat} {Q : xQ} {l0 l1 : Nat} {g : xG} {w : xW} (t : ∀ (lim : Nat × Nat) (Q2 : xQ), (∀ r g2 w2, g2.1 = g.1 → Q r g2 w2 → Q2 r g2 w2) → aSt_warmSkins d lim Q2 0 [xr l0, xr l1, none] [] g w) : cal (d + 1) nSt_warmSkins [xr l0, xr l1] g w Q := t _ _ xQof
abbrev aSt_leaveDearCells (d : Nat) (lim : Nat × Nat) (Q : xQ) : xK := xAt xMks tSt_leaveDearCells (cal d) lim Q
def kSt_leaveDearCells : List (Nat × List Bool) := [(2, [true, true, true])]
set_option maxRecDepth 20000 in
theorem wSt_leaveDearCells_0 {d : Nat} {lim : Nat × Nat} {Q : xQ} {l0 l1 : Nat} {g : xG} {w : xW} (t : aSt_leaveDearCells d lim Q 2 [xr l0, xr l1, xi 0] [] g w) :
    aSt_leaveDearCells d lim Q 0 [xr l0, xr l1, none] [] g w := xAt_exec (cal_m d) kSt_leaveDearCells 3 t
set_option maxRecDepth 20000 in
theorem wSt_leaveDearCells_2 {d : Nat} {lim : Nat × Nat} {Q : xQ} {l2 : Int} {l0 l1 : Nat} {g : xG} {w : xW} (t : xIs g l1 (0, 5) ∧ 
  (((w l1 5) ≤ l2) → Q none g w) ∧
  ((l2 < (w l1 5)) → xIs g l0 (0, 3) ∧ xAr g (g.2 l0 7) l2 ∧ xIs g l0 (0, 3) ∧ 
    cal d nSt_isDear [xr l0, xi l2, xi (w (g.2 l0 7) (Int.toNat l2))] g w (fun r g1 w1 => ∃ v1 : Int, r = some (xi v1) ∧ 
      ((v1 = 0) → x32 (l2 + 1) ∧ aSt_leaveDearCells d lim Q 2 [xr l0, xr l1, xi (l2 + 1)] [] g1 w1) ∧
      ((¬ v1 = 0) → xIs g1 l0 (0, 3) ∧ xIs g1 l0 (0, 3) ∧ 
        cal d nSt_refuge [xr l0, xr l1, xi l2] g1 w1 (fun r g2 w2 => ∃ v2 : Int, r = some (xi v2) ∧ xA1 g2 (g1.2 l0 7) l2 ∧ x32 (l2 + 1) ∧ aSt_leaveDearCells d lim Q 2 [xr l0, xr l1, xi (l2 + 1)] [] g2 (xup w2 (g1.2 l0 7) (Int.toNat l2) v2)))))) :
    aSt_leaveDearCells d lim Q 2 [xr l0, xr l1, xi l2] [] g w := xAt_exec (cal_m d) kSt_leaveDearCells 23 t
theorem eSt_leaveDearCells {d : Nat} {Q : xQ} {l0 l1 : Nat} {g : xG} {w : xW} (t : ∀ (lim : Nat × Nat) (Q2 : xQ), (∀ r g2 w2, g2.1 = g.1 → Q r g2 w2 → Q2 r g2 w2) → aSt_leaveDearCells d lim Q2 0 [xr l0, xr l1, none] [] g w) : cal (d + 1) nSt_leaveDearCells [xr l0, xr l1] g w Q := t _ _ xQof
abbrev aSt_refuge (d : Nat) (lim : Nat × Nat) (Q : xQ) : xK := xAt xMks tSt_refuge (cal d) lim Q
def kSt_refuge : List (Nat × List Bool) := [(2, [true, true, true, true, false])]
set_option maxRecDepth 20000 in
theorem wSt_refuge_0 {d : Nat} {lim : Nat × Nat} {Q : xQ} {l2 : Int} {l0 l1 : Nat} {g : xG} {w : xW} (t : aSt_refuge d lim Q 2 [xr l0, xr l1, xi l2, xi 1, none] [] g w) :
    aSt_refuge d lim Q 0 [xr l0, xr l1, xi l2, none, none] [] g w := xAt_exec (cal_m d) kSt_refuge 3 t
set_option maxRecDepth 20000 in
theorem wSt_refuge_2 {d : Nat} {lim : Nat × Nat} {Q : xQ} {l2 l3 : Int} {l0 l1 : Nat} {g : xG} {w : xW} (t : 
  ((4 < l3) → xIs g l0 (0, 3) ∧ xAr g (g.2 l0 7) l2 ∧ Q (some (xi (w (g.2 l0 7) (Int.toNat l2)))) g w) ∧
  ((l3 ≤ 4) → xIs g l0 (0, 3) ∧ xAr g (g.2 l0 7) l2 ∧ xIs g l0 (0, 3) ∧ 
    cal d nSt_reach [xr l0, xr l1, xi (w (g.2 l0 7) (Int.toNat l2)), xi l3] g w (fun r g1 w1 => ∃ v1 : Int, r = some (xi v1) ∧ 
      ((v1 = (-1)) → x32 (l3 + 1) ∧ aSt_refuge d lim Q 2 [xr l0, xr l1, xi l2, xi (l3 + 1), none] [] g1 w1) ∧
      ((¬ v1 = (-1)) → xIs g1 l0 (0, 3) ∧ 
        cal d nSt_isDear [xr l0, xi l2, xi v1] g1 w1 (fun r g2 w2 => ∃ v2 : Int, r = some (xi v2) ∧ 
          ((¬ v2 = 0) → x32 (l3 + 1) ∧ aSt_refuge d lim Q 2 [xr l0, xr l1, xi l2, xi (l3 + 1), none] [] g2 w2) ∧
          ((v2 = 0) → Q (some (xi v1)) g2 w2)))))) :
    aSt_refuge d lim Q 2 [xr l0, xr l1, xi l2, xi l3, none] [] g w := xAt_exec (cal_m d) kSt_refuge 23 t
theorem eSt_refuge {d : Nat} {Q : xQ} {l2 : Int} {l0 l1 : Nat} {g : xG} {w : xW} (t : ∀ (lim : Nat × Nat) (Q2 : xQ), (∀ r g2 w2, g2.1 = g.1 → Q r g2 w2 → Q2 r g2 w2) → aSt_refuge d lim Q2 0 [xr l0, xr l1, xi l2, none, none] [] g w) : cal (d + 1) nSt_refuge [xr l0, xr l1, xi l2] g w Q := t _ _ xQof
end
section
abbrev aRd_take (d : Nat) (lim : Nat × Nat) (Q : xQ) : xK := xAt xMks tRd_take (cal d) lim Q
def kRd_take : List (Nat × List Bool) := []
set_option maxRecDepth 20000 in
theorem wRd_take_0 {d : Nat} {lim : Nat × Nat} {Q : xQ} {l1 : Int} {l0 : Nat} {g : xG} {w : xW} (t : xIs g l0 (0, 2) ∧ 
  (((w l0 1) < 260) → xIs g l0 (0, 2) ∧ xIs g l0 (0, 2) ∧ xA1 g (g.2 l0 0) (w l0 1) ∧ xIs g l0 (0, 2) ∧ x32 (((xup w (g.2 l0 0) (Int.toNat (w l0 1)) l1) l0 1) + 1) ∧ xIs g l0 (0, 2) ∧ ((1 : Int) = 0 ∨ (1 : Int) = 1) ∧ Q (some (xi 1)) g (xup (xup w (g.2 l0 0) (Int.toNat (w l0 1)) l1) l0 1 (((xup w (g.2 l0 0) (Int.toNat (w l0 1)) l1) l0 1) + 1))) ∧
  ((260 ≤ (w l0 1)) → ((0 : Int) = 0 ∨ (0 : Int) = 1) ∧ Q (some (xi 0)) g w)) :
    aRd_take d lim Q 0 [xr l0, xi l1] [] g w := xAt_exec (cal_m d) kRd_take 19 t
theorem eRd_take {d : Nat} {Q : xQ} {l1 : Int} {l0 : Nat} {g : xG} {w : xW} (t : ∀ (lim : Nat × Nat) (Q2 : xQ), (∀ r g2 w2, g2.1 = g.1 → Q r g2 w2 → Q2 r g2 w2) → aRd_take d lim Q2 0 [xr l0, xi l1] [] g w) : cal (d + 1) nRd_take [xr l0, xi l1] g w Q := t _ _ xQof
abbrev aRd_read (d : Nat) (lim : Nat × Nat) (Q : xQ) : xK := xAt xMks tRd_read (cal d) lim Q
def kRd_read : List (Nat × List Bool) := [(50, [true, false, false, true])]
set_option maxRecDepth 20000 in
theorem wRd_read_0 {d : Nat} {lim : Nat × Nat} {Q : xQ} {l0 l1 l2 : Nat} {g : xG} {w : xW} (t : xIs g l0 (0, 2) ∧ xIs (g.1, xup g.2 l0 7 l1) l0 (0, 2) ∧ xIs ((g.1, xup g.2 l0 7 l1).1, xup (g.1, xup g.2 l0 7 l1).2 l0 8 l2) l0 (0, 2) ∧ xIs ((g.1, xup g.2 l0 7 l1).1, xup (g.1, xup g.2 l0 7 l1).2 l0 8 l2) (((g.1, xup g.2 l0 7 l1).1, xup (g.1, xup g.2 l0 7 l1).2 l0 8 l2).2 l0 7) (0, 5) ∧ 
  cal d nTw_clear [xr (((g.1, xup g.2 l0 7 l1).1, xup (g.1, xup g.2 l0 7 l1).2 l0 8 l2).2 l0 7)] ((g.1, xup g.2 l0 7 l1).1, xup (g.1, xup g.2 l0 7 l1).2 l0 8 l2) w (fun r g1 w1 => r = none ∧ xIs g1 l0 (0, 2) ∧ xIs g1 (g1.2 l0 8) (0, 3) ∧ 
    cal d nSt_clear [xr (g1.2 l0 8)] g1 w1 (fun r g2 w2 => r = none ∧ xIs g2 l0 (0, 2) ∧ xIs g2 l0 (0, 2) ∧ xIs g2 l0 (0, 2) ∧ xIs g2 l0 (0, 2) ∧ xIs g2 l0 (0, 2) ∧ 
      cal d nRd_skipBlanks [xr l0] g2 (xup (xup (xup (xup w2 l0 2 0) l0 6 0) l0 4 0) l0 5 (-1)) (fun r g3 w3 => r = none ∧ aRd_read d lim Q 50 [xr l0, none, none, xi 0] [] g3 w3)))) :
    aRd_read d lim Q 0 [xr l0, xr l1, xr l2, none] [] g w := xAt_exec (cal_m d) kRd_read 29 t
set_option maxRecDepth 20000 in
theorem wRd_read_50 {d : Nat} {lim : Nat × Nat} {Q : xQ} {l3 : Int} {l0 : Nat} {g : xG} {w : xW} (t : 
  ((260 ≤ l3) → ((1 : Int) = 0 ∨ (1 : Int) = 1) ∧ Q (some (xi 1)) g w) ∧
  ((l3 < 260) → xIs g l0 (0, 2) ∧ xIs g l0 (0, 2) ∧ 
    (((w l0 1) ≤ (w l0 2)) → ((1 : Int) = 0 ∨ (1 : Int) = 1) ∧ Q (some (xi 1)) g w) ∧
    (((w l0 2) < (w l0 1)) → xIs g l0 (0, 2) ∧ 
      cal d nRd_readClause [xr l0] g w (fun r g1 w1 => ∃ v1 : Int, r = some (xi v1) ∧ 
        ((¬ v1 = 0) → xIs g1 l0 (0, 2) ∧ 
          cal d nRd_skipBlanks [xr l0] g1 w1 (fun r g2 w2 => r = none ∧ x32 (l3 + 1) ∧ aRd_read d lim Q 50 [xr l0, none, none, xi (l3 + 1)] [] g2 w2)) ∧
        ((v1 = 0) → ((0 : Int) = 0 ∨ (0 : Int) = 1) ∧ Q (some (xi 0)) g1 w1))))) :
    aRd_read d lim Q 50 [xr l0, none, none, xi l3] [] g w := xAt_exec (cal_m d) kRd_read 16 t
theorem eRd_read {d : Nat} {Q : xQ} {l0 l1 l2 : Nat} {g : xG} {w : xW} (t : ∀ (lim : Nat × Nat) (Q2 : xQ), (∀ r g2 w2, g2.1 = g.1 → Q r g2 w2 → Q2 r g2 w2) → aRd_read d lim Q2 0 [xr l0, xr l1, xr l2, none] [] g w) : cal (d + 1) nRd_read [xr l0, xr l1, xr l2] g w Q := t _ _ xQof
abbrev aRd_readClause (d : Nat) (lim : Nat × Nat) (Q : xQ) : xK := xAt xMks tRd_readClause (cal d) lim Q
def kRd_readClause : List (Nat × List Bool) := [(36, [true, true]), (104, [true, false]), (138, [true, false]), (174, [true, false]), (211, [true, false]), (246, [true, false]), (283, [true, false])]
set_option maxRecDepth 20000 in
theorem wRd_readClause_0 {d : Nat} {lim : Nat × Nat} {Q : xQ} {l0 : Nat} {g : xG} {w : xW} (t : xIs g l0 (0, 2) ∧ xIs g l0 (0, 2) ∧ xAr g (g.2 l0 0) (w l0 2) ∧ xIs g l0 (0, 2) ∧ xIs g (g.2 l0 7) (0, 5) ∧ 
  ((¬ (w (g.2 l0 7) 0) = 0) → aRd_readClause d lim Q 36 [xr l0, xi (w (g.2 l0 0) (Int.toNat (w l0 2)))] [] g w) ∧
  (((w (g.2 l0 7) 0) = 0) → 
    (((w (g.2 l0 0) (Int.toNat (w l0 2))) = 116) → aRd_readClause d lim Q 36 [xr l0, xi (w (g.2 l0 0) (Int.toNat (w l0 2)))] [] g w) ∧
    ((¬ (w (g.2 l0 0) (Int.toNat (w l0 2))) = 116) → xIs g l0 (0, 2) ∧ xIs g l0 (0, 2) ∧ 
      cal d nRd_fail [xr l0, xi 1, xi (w l0 2)] g w (fun r g1 w1 => ∃ v1 : Int, r = some (xi v1) ∧ ((v1 : Int) = 0 ∨ (v1 : Int) = 1) ∧ Q (some (xi v1)) g1 w1)))) :
    aRd_readClause d lim Q 0 [xr l0, none] [] g w := xAt_exec (cal_m d) kRd_readClause 20 t
set_option maxRecDepth 20000 in
theorem wRd_readClause_36 {d : Nat} {lim : Nat × Nat} {Q : xQ} {l1 : Int} {l0 : Nat} {g : xG} {w : xW} (t : 
  ((l1 < 111 ∨ 119 < l1) → xIs g l0 (0, 2) ∧ xIs g l0 (0, 2) ∧ 
    cal d nRd_fail [xr l0, xi 1, xi (w l0 2)] g w (fun r g1 w1 => ∃ v1 : Int, r = some (xi v1) ∧ ((v1 : Int) = 0 ∨ (v1 : Int) = 1) ∧ Q (some (xi v1)) g1 w1)) ∧
  ((l1 = 111) → xIs g l0 (0, 2) ∧ xIs g (g.2 l0 7) (0, 5) ∧ 
    ((4 ≤ (w (g.2 l0 7) 2)) → aRd_readClause d lim Q 174 [xr l0, none] [xi 0, xr l0] g w) ∧
    (((w (g.2 l0 7) 2) < 4) → aRd_readClause d lim Q 174 [xr l0, none] [xi 1, xr l0] g w)) ∧
  ((l1 = 112) → xIs g l0 (0, 2) ∧ xIs g (g.2 l0 7) (0, 5) ∧ 
    ((6 ≤ (w (g.2 l0 7) 5)) → aRd_readClause d lim Q 283 [xr l0, none] [xi 0, xr l0] g w) ∧
    (((w (g.2 l0 7) 5) < 6) → aRd_readClause d lim Q 283 [xr l0, none] [xi 1, xr l0] g w)) ∧
  ((l1 = 113) → xIs g l0 (0, 2) ∧ xIs g l0 (0, 2) ∧ 
    cal d nRd_fail [xr l0, xi 1, xi (w l0 2)] g w (fun r g2 w2 => ∃ v2 : Int, r = some (xi v2) ∧ ((v2 : Int) = 0 ∨ (v2 : Int) = 1) ∧ Q (some (xi v2)) g2 w2)) ∧
  ((l1 = 114) → xIs g l0 (0, 2) ∧ xIs g (g.2 l0 7) (0, 5) ∧ 
    ((12 ≤ (w (g.2 l0 7) 3)) → aRd_readClause d lim Q 211 [xr l0, none] [xi 0, xr l0] g w) ∧
    (((w (g.2 l0 7) 3) < 12) → aRd_readClause d lim Q 211 [xr l0, none] [xi 1, xr l0] g w)) ∧
  ((l1 = 115) → xIs g l0 (0, 2) ∧ xIs g (g.2 l0 7) (0, 5) ∧ 
    ((¬ (w (g.2 l0 7) 4) = 0) → aRd_readClause d lim Q 246 [xr l0, none] [xi 0, xr l0] g w) ∧
    (((w (g.2 l0 7) 4) = 0) → aRd_readClause d lim Q 246 [xr l0, none] [xi 1, xr l0] g w)) ∧
  ((l1 = 116) → xIs g l0 (0, 2) ∧ xIs g (g.2 l0 7) (0, 5) ∧ 
    ((¬ (w (g.2 l0 7) 0) = 0) → aRd_readClause d lim Q 104 [xr l0, none] [xi 0, xr l0] g w) ∧
    (((w (g.2 l0 7) 0) = 0) → aRd_readClause d lim Q 104 [xr l0, none] [xi 1, xr l0] g w)) ∧
  ((l1 = 117) → xIs g l0 (0, 2) ∧ xIs g l0 (0, 2) ∧ 
    cal d nRd_fail [xr l0, xi 1, xi (w l0 2)] g w (fun r g3 w3 => ∃ v3 : Int, r = some (xi v3) ∧ ((v3 : Int) = 0 ∨ (v3 : Int) = 1) ∧ Q (some (xi v3)) g3 w3)) ∧
  ((l1 = 118) → xIs g l0 (0, 2) ∧ xIs g l0 (0, 2) ∧ 
    cal d nRd_fail [xr l0, xi 1, xi (w l0 2)] g w (fun r g4 w4 => ∃ v4 : Int, r = some (xi v4) ∧ ((v4 : Int) = 0 ∨ (v4 : Int) = 1) ∧ Q (some (xi v4)) g4 w4)) ∧
  ((l1 = 119) → xIs g l0 (0, 2) ∧ 
    ((12 ≤ (w l0 6)) → aRd_readClause d lim Q 138 [xr l0, none] [xi 0, xr l0] g w) ∧
    (((w l0 6) < 12) → aRd_readClause d lim Q 138 [xr l0, none] [xi 1, xr l0] g w)) ∧ True) :
    aRd_readClause d lim Q 36 [xr l0, xi l1] [] g w := xAt_exec (cal_m d) kRd_readClause 11 t
set_option maxRecDepth 20000 in
theorem wRd_readClause_104 {d : Nat} {lim : Nat × Nat} {Q : xQ} {s1 : Int} {l0 s0 : Nat} {g : xG} {w : xW} (t : xIs g s0 (0, 2) ∧ 
  cal d nRd_startClause [xr s0, xi s1] g w (fun r g1 w1 => ∃ v1 : Int, r = some (xi v1) ∧ 
    ((v1 = 0) → ((0 : Int) = 0 ∨ (0 : Int) = 1) ∧ Q (some (xi 0)) g1 w1) ∧
    ((¬ v1 = 0) → xIs g1 l0 (0, 2) ∧ 
      cal d nRd_readTown [xr l0] g1 w1 (fun r g2 w2 => ∃ v2 : Int, r = some (xi v2) ∧ 
        ((v2 = 0) → ((0 : Int) = 0 ∨ (0 : Int) = 1) ∧ Q (some (xi 0)) g2 w2) ∧
        ((¬ v2 = 0) → ((1 : Int) = 0 ∨ (1 : Int) = 1) ∧ Q (some (xi 1)) g2 w2))))) :
    aRd_readClause d lim Q 104 [xr l0, none] [xi s1, xr s0] g w := xAt_exec (cal_m d) kRd_readClause 9 t
set_option maxRecDepth 20000 in
theorem wRd_readClause_138 {d : Nat} {lim : Nat × Nat} {Q : xQ} {s1 : Int} {l0 s0 : Nat} {g : xG} {w : xW} (t : xIs g s0 (0, 2) ∧ 
  cal d nRd_startClause [xr s0, xi s1] g w (fun r g1 w1 => ∃ v1 : Int, r = some (xi v1) ∧ 
    ((v1 = 0) → ((0 : Int) = 0 ∨ (0 : Int) = 1) ∧ Q (some (xi 0)) g1 w1) ∧
    ((¬ v1 = 0) → xIs g1 l0 (0, 2) ∧ 
      cal d nRd_readWall [xr l0] g1 w1 (fun r g2 w2 => ∃ v2 : Int, r = some (xi v2) ∧ 
        ((v2 = 0) → ((0 : Int) = 0 ∨ (0 : Int) = 1) ∧ Q (some (xi 0)) g2 w2) ∧
        ((¬ v2 = 0) → ((1 : Int) = 0 ∨ (1 : Int) = 1) ∧ Q (some (xi 1)) g2 w2))))) :
    aRd_readClause d lim Q 138 [xr l0, none] [xi s1, xr s0] g w := xAt_exec (cal_m d) kRd_readClause 9 t
set_option maxRecDepth 20000 in
theorem wRd_readClause_174 {d : Nat} {lim : Nat × Nat} {Q : xQ} {s1 : Int} {l0 s0 : Nat} {g : xG} {w : xW} (t : xIs g s0 (0, 2) ∧ 
  cal d nRd_startClause [xr s0, xi s1] g w (fun r g1 w1 => ∃ v1 : Int, r = some (xi v1) ∧ 
    ((v1 = 0) → ((0 : Int) = 0 ∨ (0 : Int) = 1) ∧ Q (some (xi 0)) g1 w1) ∧
    ((¬ v1 = 0) → xIs g1 l0 (0, 2) ∧ 
      cal d nRd_readStove [xr l0] g1 w1 (fun r g2 w2 => ∃ v2 : Int, r = some (xi v2) ∧ 
        ((v2 = 0) → ((0 : Int) = 0 ∨ (0 : Int) = 1) ∧ Q (some (xi 0)) g2 w2) ∧
        ((¬ v2 = 0) → ((1 : Int) = 0 ∨ (1 : Int) = 1) ∧ Q (some (xi 1)) g2 w2))))) :
    aRd_readClause d lim Q 174 [xr l0, none] [xi s1, xr s0] g w := xAt_exec (cal_m d) kRd_readClause 9 t
set_option maxRecDepth 20000 in
theorem wRd_readClause_211 {d : Nat} {lim : Nat × Nat} {Q : xQ} {s1 : Int} {l0 s0 : Nat} {g : xG} {w : xW} (t : xIs g s0 (0, 2) ∧ 
  cal d nRd_startClause [xr s0, xi s1] g w (fun r g1 w1 => ∃ v1 : Int, r = some (xi v1) ∧ 
    ((v1 = 0) → ((0 : Int) = 0 ∨ (0 : Int) = 1) ∧ Q (some (xi 0)) g1 w1) ∧
    ((¬ v1 = 0) → xIs g1 l0 (0, 2) ∧ 
      cal d nRd_readRoof [xr l0] g1 w1 (fun r g2 w2 => ∃ v2 : Int, r = some (xi v2) ∧ 
        ((v2 = 0) → ((0 : Int) = 0 ∨ (0 : Int) = 1) ∧ Q (some (xi 0)) g2 w2) ∧
        ((¬ v2 = 0) → ((1 : Int) = 0 ∨ (1 : Int) = 1) ∧ Q (some (xi 1)) g2 w2))))) :
    aRd_readClause d lim Q 211 [xr l0, none] [xi s1, xr s0] g w := xAt_exec (cal_m d) kRd_readClause 9 t
set_option maxRecDepth 20000 in
theorem wRd_readClause_246 {d : Nat} {lim : Nat × Nat} {Q : xQ} {s1 : Int} {l0 s0 : Nat} {g : xG} {w : xW} (t : xIs g s0 (0, 2) ∧ 
  cal d nRd_startClause [xr s0, xi s1] g w (fun r g1 w1 => ∃ v1 : Int, r = some (xi v1) ∧ 
    ((v1 = 0) → ((0 : Int) = 0 ∨ (0 : Int) = 1) ∧ Q (some (xi 0)) g1 w1) ∧
    ((¬ v1 = 0) → xIs g1 l0 (0, 2) ∧ 
      cal d nRd_readSun [xr l0] g1 w1 (fun r g2 w2 => ∃ v2 : Int, r = some (xi v2) ∧ 
        ((v2 = 0) → ((0 : Int) = 0 ∨ (0 : Int) = 1) ∧ Q (some (xi 0)) g2 w2) ∧
        ((¬ v2 = 0) → ((1 : Int) = 0 ∨ (1 : Int) = 1) ∧ Q (some (xi 1)) g2 w2))))) :
    aRd_readClause d lim Q 246 [xr l0, none] [xi s1, xr s0] g w := xAt_exec (cal_m d) kRd_readClause 9 t
set_option maxRecDepth 20000 in
theorem wRd_readClause_283 {d : Nat} {lim : Nat × Nat} {Q : xQ} {s1 : Int} {l0 s0 : Nat} {g : xG} {w : xW} (t : xIs g s0 (0, 2) ∧ 
  cal d nRd_startClause [xr s0, xi s1] g w (fun r g1 w1 => ∃ v1 : Int, r = some (xi v1) ∧ 
    ((v1 = 0) → ((0 : Int) = 0 ∨ (0 : Int) = 1) ∧ Q (some (xi 0)) g1 w1) ∧
    ((¬ v1 = 0) → xIs g1 l0 (0, 2) ∧ 
      cal d nRd_readPerson [xr l0] g1 w1 (fun r g2 w2 => ∃ v2 : Int, r = some (xi v2) ∧ 
        ((v2 = 0) → ((0 : Int) = 0 ∨ (0 : Int) = 1) ∧ Q (some (xi 0)) g2 w2) ∧
        ((¬ v2 = 0) → ((1 : Int) = 0 ∨ (1 : Int) = 1) ∧ Q (some (xi 1)) g2 w2))))) :
    aRd_readClause d lim Q 283 [xr l0, none] [xi s1, xr s0] g w := xAt_exec (cal_m d) kRd_readClause 9 t
theorem eRd_readClause {d : Nat} {Q : xQ} {l0 : Nat} {g : xG} {w : xW} (t : ∀ (lim : Nat × Nat) (Q2 : xQ), (∀ r g2 w2, g2.1 = g.1 → Q r g2 w2 → Q2 r g2 w2) → aRd_readClause d lim Q2 0 [xr l0, none] [] g w) : cal (d + 1) nRd_readClause [xr l0] g w Q := t _ _ xQof
abbrev aRd_startClause (d : Nat) (lim : Nat × Nat) (Q : xQ) : xK := xAt xMks tRd_startClause (cal d) lim Q
def kRd_startClause : List (Nat × List Bool) := []
set_option maxRecDepth 20000 in
theorem wRd_startClause_0 {d : Nat} {lim : Nat × Nat} {Q : xQ} {l1 : Int} {l0 : Nat} {g : xG} {w : xW} (t : 
  ((¬ l1 = 0) → xIs g l0 (0, 2) ∧ x32 ((w l0 2) + 1) ∧ xIs g l0 (0, 2) ∧ ((1 : Int) = 0 ∨ (1 : Int) = 1) ∧ Q (some (xi 1)) g (xup w l0 2 ((w l0 2) + 1))) ∧
  ((l1 = 0) → xIs g l0 (0, 2) ∧ xIs g l0 (0, 2) ∧ 
    cal d nRd_fail [xr l0, xi 3, xi (w l0 2)] g w (fun r g1 w1 => ∃ v1 : Int, r = some (xi v1) ∧ ((v1 : Int) = 0 ∨ (v1 : Int) = 1) ∧ Q (some (xi v1)) g1 w1))) :
    aRd_startClause d lim Q 0 [xr l0, xi l1] [] g w := xAt_exec (cal_m d) kRd_startClause 11 t
theorem eRd_startClause {d : Nat} {Q : xQ} {l1 : Int} {l0 : Nat} {g : xG} {w : xW} (t : ∀ (lim : Nat × Nat) (Q2 : xQ), (∀ r g2 w2, g2.1 = g.1 → Q r g2 w2 → Q2 r g2 w2) → aRd_startClause d lim Q2 0 [xr l0, xi l1] [] g w) : cal (d + 1) nRd_startClause [xr l0, xi l1] g w Q := t _ _ xQof
abbrev aRd_readTown (d : Nat) (lim : Nat × Nat) (Q : xQ) : xK := xAt xMks tRd_readTown (cal d) lim Q
def kRd_readTown : List (Nat × List Bool) := []
set_option maxRecDepth 20000 in
theorem wRd_readTown_0 {d : Nat} {lim : Nat × Nat} {Q : xQ} {l0 : Nat} {g : xG} {w : xW} (t : xIs g l0 (0, 2) ∧ 
  cal d nRd_readNumber [xr l0, xi 1, xi 6] g w (fun r g1 w1 => ∃ v1 : Int, r = some (xi v1) ∧ 
    ((1 ≤ v1) → ((v1 : Int) ≠ 0 ∧ x32 (Int.tdiv 20 v1)) ∧ 
      cal d nJd_min [xi 6, xi (Int.tdiv 20 v1)] g1 w1 (fun r g2 w2 => ∃ v2 : Int, r = some (xi v2) ∧ xIs g2 l0 (0, 2) ∧ 
        cal d nRd_readNumber [xr l0, xi 1, xi v2] g2 w2 (fun r g3 w3 => ∃ v3 : Int, r = some (xi v3) ∧ 
          ((¬ v3 = (-1)) → xIs g3 l0 (0, 2) ∧ 
            cal d nRd_readNumber [xr l0, xi 0, xi 200] g3 w3 (fun r g4 w4 => ∃ v4 : Int, r = some (xi v4) ∧ 
              ((¬ v4 = (-1)) → xIs g4 l0 (0, 2) ∧ xIs g4 (g4.2 l0 7) (0, 5) ∧ 
                cal d nTw_setSize [xr (g4.2 l0 7), xi v1, xi v3] g4 w4 (fun r g5 w5 => r = none ∧ xIs g5 l0 (0, 2) ∧ xIs g5 (g5.2 l0 8) (0, 3) ∧ 
                  cal d nJd_fill [xr (g5.2 (g5.2 l0 8) 0), xi v4] g5 w5 (fun r g6 w6 => r = none ∧ xIs g6 l0 (0, 2) ∧ 
                    cal d nRd_endClause [xr l0] g6 w6 (fun r g7 w7 => ∃ v7 : Int, r = some (xi v7) ∧ ((v7 : Int) = 0 ∨ (v7 : Int) = 1) ∧ Q (some (xi v7)) g7 w7)))) ∧
              ((v4 = (-1)) → ((0 : Int) = 0 ∨ (0 : Int) = 1) ∧ Q (some (xi 0)) g4 w4))) ∧
          ((v3 = (-1)) → ((0 : Int) = 0 ∨ (0 : Int) = 1) ∧ Q (some (xi 0)) g3 w3)))) ∧
    ((v1 < 1) → ((0 : Int) = 0 ∨ (0 : Int) = 1) ∧ Q (some (xi 0)) g1 w1))) :
    aRd_readTown d lim Q 0 [xr l0, none, none, none] [] g w := xAt_exec (cal_m d) kRd_readTown 42 t
theorem eRd_readTown {d : Nat} {Q : xQ} {l0 : Nat} {g : xG} {w : xW} (t : ∀ (lim : Nat × Nat) (Q2 : xQ), (∀ r g2 w2, g2.1 = g.1 → Q r g2 w2 → Q2 r g2 w2) → aRd_readTown d lim Q2 0 [xr l0, none, none, none] [] g w) : cal (d + 1) nRd_readTown [xr l0] g w Q := t _ _ xQof
abbrev aRd_readWall (d : Nat) (lim : Nat × Nat) (Q : xQ) : xK := xAt xMks tRd_readWall (cal d) lim Q
def kRd_readWall : List (Nat × List Bool) := []
set_option maxRecDepth 20000 in
theorem wRd_readWall_0 {d : Nat} {lim : Nat × Nat} {Q : xQ} {l0 : Nat} {g : xG} {w : xW} (t : xIs g l0 (0, 2) ∧ 
  cal d nRd_readCell [xr l0] g w (fun r g1 w1 => ∃ v1 : Int, r = some (xi v1) ∧ 
    ((¬ v1 = (-1)) → xIs g1 l0 (0, 2) ∧ 
      cal d nRd_readNumber [xr l0, xi 0, xi 1] g1 w1 (fun r g2 w2 => ∃ v2 : Int, r = some (xi v2) ∧ 
        ((¬ v2 = (-1)) → xIs g2 l0 (0, 2) ∧ 
          cal d nFf_wayOfWall [xi v2] g2 w2 (fun r g3 w3 => ∃ v3 : Int, r = some (xi v3) ∧ xIs g3 (g2.2 l0 7) (0, 5) ∧ 
            cal d nTw_beside [xr (g2.2 l0 7), xi v1, xi v3] g3 w3 (fun r g4 w4 => ∃ v4 : Int, r = some (xi v4) ∧ 
              ((¬ v4 = (-1)) → xIs g4 l0 (0, 2) ∧ xIs g4 (g4.2 l0 8) (0, 3) ∧ 
                cal d nSt_wallOf [xr (g4.2 l0 8), xi v1, xi v2] g4 w4 (fun r g5 w5 => ∃ v5 : Int, r = some (xi v5) ∧ 
                  ((v5 = 0) → xIs g5 l0 (0, 2) ∧ xIs g5 l0 (0, 2) ∧ xIs g5 (g5.2 l0 8) (0, 3) ∧ 
                    cal d nSt_setWall [xr (g5.2 l0 8), xr (g5.2 l0 7), xi v1, xi v2, xi 1] g5 w5 (fun r g6 w6 => r = none ∧ xIs g6 l0 (0, 2) ∧ x32 ((w6 l0 6) + 1) ∧ xIs g6 l0 (0, 2) ∧ xIs g6 l0 (0, 2) ∧ 
                      cal d nRd_endClause [xr l0] g6 (xup w6 l0 6 ((w6 l0 6) + 1)) (fun r g7 w7 => ∃ v7 : Int, r = some (xi v7) ∧ ((v7 : Int) = 0 ∨ (v7 : Int) = 1) ∧ Q (some (xi v7)) g7 w7))) ∧
                  ((¬ v5 = 0) → xIs g5 l0 (0, 2) ∧ xIs g5 l0 (0, 2) ∧ 
                    cal d nRd_fail [xr l0, xi 4, xi (w5 l0 3)] g5 w5 (fun r g8 w8 => ∃ v8 : Int, r = some (xi v8) ∧ ((v8 : Int) = 0 ∨ (v8 : Int) = 1) ∧ Q (some (xi v8)) g8 w8)))) ∧
              ((v4 = (-1)) → xIs g4 l0 (0, 2) ∧ xIs g4 l0 (0, 2) ∧ 
                cal d nRd_fail [xr l0, xi 2, xi (w4 l0 3)] g4 w4 (fun r g9 w9 => ∃ v9 : Int, r = some (xi v9) ∧ ((v9 : Int) = 0 ∨ (v9 : Int) = 1) ∧ Q (some (xi v9)) g9 w9))))) ∧
        ((v2 = (-1)) → ((0 : Int) = 0 ∨ (0 : Int) = 1) ∧ Q (some (xi 0)) g2 w2))) ∧
    ((v1 = (-1)) → ((0 : Int) = 0 ∨ (0 : Int) = 1) ∧ Q (some (xi 0)) g1 w1))) :
    aRd_readWall d lim Q 0 [xr l0, none, none] [] g w := xAt_exec (cal_m d) kRd_readWall 46 t
theorem eRd_readWall {d : Nat} {Q : xQ} {l0 : Nat} {g : xG} {w : xW} (t : ∀ (lim : Nat × Nat) (Q2 : xQ), (∀ r g2 w2, g2.1 = g.1 → Q r g2 w2 → Q2 r g2 w2) → aRd_readWall d lim Q2 0 [xr l0, none, none] [] g w) : cal (d + 1) nRd_readWall [xr l0] g w Q := t _ _ xQof
abbrev aRd_readStove (d : Nat) (lim : Nat × Nat) (Q : xQ) : xK := xAt xMks tRd_readStove (cal d) lim Q
def kRd_readStove : List (Nat × List Bool) := []
set_option maxRecDepth 20000 in
theorem wRd_readStove_0 {d : Nat} {lim : Nat × Nat} {Q : xQ} {l0 : Nat} {g : xG} {w : xW} (t : xIs g l0 (0, 2) ∧ 
  cal d nRd_readCell [xr l0] g w (fun r g1 w1 => ∃ v1 : Int, r = some (xi v1) ∧ 
    ((¬ v1 = (-1)) → xIs g1 l0 (0, 2) ∧ 
      cal d nRd_hasStove [xr l0, xi v1] g1 w1 (fun r g2 w2 => ∃ v2 : Int, r = some (xi v2) ∧ 
        ((v2 = 0) → xIs g2 l0 (0, 2) ∧ 
          cal d nRd_readNumber [xr l0, xi 1, xi 60] g2 w2 (fun r g3 w3 => ∃ v3 : Int, r = some (xi v3) ∧ 
            ((¬ v3 = (-1)) → xIs g3 l0 (0, 2) ∧ 
              cal d nRd_readNumber [xr l0, xi 0, xi 99] g3 w3 (fun r g4 w4 => ∃ v4 : Int, r = some (xi v4) ∧ 
                ((¬ v4 = (-1)) → xIs g4 l0 (0, 2) ∧ xIs g4 (g4.2 l0 7) (0, 5) ∧ xIs g4 l0 (0, 2) ∧ xIs g4 (g4.2 l0 7) (0, 5) ∧ x32 ((w4 (g4.2 l0 7) 2) + 1) ∧ xIs g4 (g4.2 l0 7) (0, 5) ∧ xIs g4 l0 (0, 2) ∧ xIs g4 (g4.2 l0 7) (0, 5) ∧ xA1 g4 (g4.2 (g4.2 l0 7) 9) (w4 (g4.2 l0 7) 2) ∧ xIs g4 l0 (0, 2) ∧ xIs g4 (g4.2 l0 7) (0, 5) ∧ xA1 g4 (g4.2 (g4.2 l0 7) 10) (w4 (g4.2 l0 7) 2) ∧ xIs g4 l0 (0, 2) ∧ xIs g4 (g4.2 l0 8) (0, 3) ∧ xA1 g4 (g4.2 (g4.2 l0 8) 5) (w4 (g4.2 l0 7) 2) ∧ xIs g4 l0 (0, 2) ∧ 
                  cal d nRd_endClause [xr l0] g4 (xup (xup (xup (xup w4 (g4.2 l0 7) 2 ((w4 (g4.2 l0 7) 2) + 1)) (g4.2 (g4.2 l0 7) 9) (Int.toNat (w4 (g4.2 l0 7) 2)) v1) (g4.2 (g4.2 l0 7) 10) (Int.toNat (w4 (g4.2 l0 7) 2)) v3) (g4.2 (g4.2 l0 8) 5) (Int.toNat (w4 (g4.2 l0 7) 2)) v4) (fun r g5 w5 => ∃ v5 : Int, r = some (xi v5) ∧ ((v5 : Int) = 0 ∨ (v5 : Int) = 1) ∧ Q (some (xi v5)) g5 w5)) ∧
                ((v4 = (-1)) → ((0 : Int) = 0 ∨ (0 : Int) = 1) ∧ Q (some (xi 0)) g4 w4))) ∧
            ((v3 = (-1)) → ((0 : Int) = 0 ∨ (0 : Int) = 1) ∧ Q (some (xi 0)) g3 w3))) ∧
        ((¬ v2 = 0) → xIs g2 l0 (0, 2) ∧ xIs g2 l0 (0, 2) ∧ 
          cal d nRd_fail [xr l0, xi 4, xi (w2 l0 3)] g2 w2 (fun r g6 w6 => ∃ v6 : Int, r = some (xi v6) ∧ ((v6 : Int) = 0 ∨ (v6 : Int) = 1) ∧ Q (some (xi v6)) g6 w6)))) ∧
    ((v1 = (-1)) → ((0 : Int) = 0 ∨ (0 : Int) = 1) ∧ Q (some (xi 0)) g1 w1))) :
    aRd_readStove d lim Q 0 [xr l0, none, none, none, none] [] g w := xAt_exec (cal_m d) kRd_readStove 59 t
theorem eRd_readStove {d : Nat} {Q : xQ} {l0 : Nat} {g : xG} {w : xW} (t : ∀ (lim : Nat × Nat) (Q2 : xQ), (∀ r g2 w2, g2.1 = g.1 → Q r g2 w2 → Q2 r g2 w2) → aRd_readStove d lim Q2 0 [xr l0, none, none, none, none] [] g w) : cal (d + 1) nRd_readStove [xr l0] g w Q := t _ _ xQof
abbrev aRd_hasStove (d : Nat) (lim : Nat × Nat) (Q : xQ) : xK := xAt xMks tRd_hasStove (cal d) lim Q
def kRd_hasStove : List (Nat × List Bool) := [(2, [true, true, true])]
set_option maxRecDepth 20000 in
theorem wRd_hasStove_0 {d : Nat} {lim : Nat × Nat} {Q : xQ} {l1 : Int} {l0 : Nat} {g : xG} {w : xW} (t : aRd_hasStove d lim Q 2 [xr l0, xi l1, xi 0] [] g w) :
    aRd_hasStove d lim Q 0 [xr l0, xi l1, none] [] g w := xAt_exec (cal_m d) kRd_hasStove 3 t
set_option maxRecDepth 20000 in
theorem wRd_hasStove_2 {d : Nat} {lim : Nat × Nat} {Q : xQ} {l1 l2 : Int} {l0 : Nat} {g : xG} {w : xW} (t : xIs g l0 (0, 2) ∧ xIs g (g.2 l0 7) (0, 5) ∧ 
  (((w (g.2 l0 7) 2) ≤ l2) → ((0 : Int) = 0 ∨ (0 : Int) = 1) ∧ Q (some (xi 0)) g w) ∧
  ((l2 < (w (g.2 l0 7) 2)) → xIs g l0 (0, 2) ∧ xIs g (g.2 l0 7) (0, 5) ∧ xAr g (g.2 (g.2 l0 7) 9) l2 ∧ 
    ((¬ (w (g.2 (g.2 l0 7) 9) (Int.toNat l2)) = l1) → x32 (l2 + 1) ∧ aRd_hasStove d lim Q 2 [xr l0, xi l1, xi (l2 + 1)] [] g w) ∧
    (((w (g.2 (g.2 l0 7) 9) (Int.toNat l2)) = l1) → ((1 : Int) = 0 ∨ (1 : Int) = 1) ∧ Q (some (xi 1)) g w))) :
    aRd_hasStove d lim Q 2 [xr l0, xi l1, xi l2] [] g w := xAt_exec (cal_m d) kRd_hasStove 15 t
theorem eRd_hasStove {d : Nat} {Q : xQ} {l1 : Int} {l0 : Nat} {g : xG} {w : xW} (t : ∀ (lim : Nat × Nat) (Q2 : xQ), (∀ r g2 w2, g2.1 = g.1 → Q r g2 w2 → Q2 r g2 w2) → aRd_hasStove d lim Q2 0 [xr l0, xi l1, none] [] g w) : cal (d + 1) nRd_hasStove [xr l0, xi l1] g w Q := t _ _ xQof
abbrev aRd_readRoof (d : Nat) (lim : Nat × Nat) (Q : xQ) : xK := xAt xMks tRd_readRoof (cal d) lim Q
def kRd_readRoof : List (Nat × List Bool) := []
set_option maxRecDepth 20000 in
theorem wRd_readRoof_0 {d : Nat} {lim : Nat × Nat} {Q : xQ} {l0 : Nat} {g : xG} {w : xW} (t : xIs g l0 (0, 2) ∧ 
  cal d nRd_readCell [xr l0] g w (fun r g1 w1 => ∃ v1 : Int, r = some (xi v1) ∧ 
    ((¬ v1 = (-1)) → xIs g1 l0 (0, 2) ∧ xIs g1 (g1.2 l0 7) (0, 5) ∧ xAr g1 (g1.2 (g1.2 l0 7) 7) v1 ∧ 
      (((w1 (g1.2 (g1.2 l0 7) 7) (Int.toNat v1)) = 0) → xIs g1 l0 (0, 2) ∧ xIs g1 (g1.2 l0 7) (0, 5) ∧ xA1 g1 (g1.2 (g1.2 l0 7) 7) v1 ∧ xIs g1 l0 (0, 2) ∧ xIs g1 (g1.2 l0 7) (0, 5) ∧ x32 (((xup w1 (g1.2 (g1.2 l0 7) 7) (Int.toNat v1) 1) (g1.2 l0 7) 3) + 1) ∧ xIs g1 (g1.2 l0 7) (0, 5) ∧ xIs g1 l0 (0, 2) ∧ 
        cal d nRd_endClause [xr l0] g1 (xup (xup w1 (g1.2 (g1.2 l0 7) 7) (Int.toNat v1) 1) (g1.2 l0 7) 3 (((xup w1 (g1.2 (g1.2 l0 7) 7) (Int.toNat v1) 1) (g1.2 l0 7) 3) + 1)) (fun r g2 w2 => ∃ v2 : Int, r = some (xi v2) ∧ ((v2 : Int) = 0 ∨ (v2 : Int) = 1) ∧ Q (some (xi v2)) g2 w2)) ∧
      ((¬ (w1 (g1.2 (g1.2 l0 7) 7) (Int.toNat v1)) = 0) → xIs g1 l0 (0, 2) ∧ xIs g1 l0 (0, 2) ∧ 
        cal d nRd_fail [xr l0, xi 4, xi (w1 l0 3)] g1 w1 (fun r g3 w3 => ∃ v3 : Int, r = some (xi v3) ∧ ((v3 : Int) = 0 ∨ (v3 : Int) = 1) ∧ Q (some (xi v3)) g3 w3))) ∧
    ((v1 = (-1)) → ((0 : Int) = 0 ∨ (0 : Int) = 1) ∧ Q (some (xi 0)) g1 w1))) :
    aRd_readRoof d lim Q 0 [xr l0, none] [] g w := xAt_exec (cal_m d) kRd_readRoof 29 t
theorem eRd_readRoof {d : Nat} {Q : xQ} {l0 : Nat} {g : xG} {w : xW} (t : ∀ (lim : Nat × Nat) (Q2 : xQ), (∀ r g2 w2, g2.1 = g.1 → Q r g2 w2 → Q2 r g2 w2) → aRd_readRoof d lim Q2 0 [xr l0, none] [] g w) : cal (d + 1) nRd_readRoof [xr l0] g w Q := t _ _ xQof
abbrev aRd_readSun (d : Nat) (lim : Nat × Nat) (Q : xQ) : xK := xAt xMks tRd_readSun (cal d) lim Q
def kRd_readSun : List (Nat × List Bool) := [(2, [true, true, false]), (80, [true, false, false])]
set_option maxRecDepth 20000 in
theorem wRd_readSun_0 {d : Nat} {lim : Nat × Nat} {Q : xQ} {l0 : Nat} {g : xG} {w : xW} (t : aRd_readSun d lim Q 2 [xr l0, xi 0, none] [] g w) :
    aRd_readSun d lim Q 0 [xr l0, none, none] [] g w := xAt_exec (cal_m d) kRd_readSun 3 t
set_option maxRecDepth 20000 in
theorem wRd_readSun_2 {d : Nat} {lim : Nat × Nat} {Q : xQ} {l1 : Int} {l0 : Nat} {g : xG} {w : xW} (t : 
  ((8 ≤ l1) → ((0 : Int) = 0 ∨ (0 : Int) = 1) ∧ Q (some (xi 0)) g w) ∧
  ((l1 < 8) → xIs g l0 (0, 2) ∧ 
    cal d nRd_readNumber [xr l0, xi 0, xi 30] g w (fun r g1 w1 => ∃ v1 : Int, r = some (xi v1) ∧ 
      ((¬ v1 = (-1)) → xIs g1 l0 (0, 2) ∧ xIs g1 (g1.2 l0 7) (0, 5) ∧ xA1 g1 (g1.2 (g1.2 l0 7) 8) l1 ∧ xIs g1 l0 (0, 2) ∧ x32 (l1 + 1) ∧ xIs g1 (g1.2 l0 7) (0, 5) ∧ xIs g1 l0 (0, 2) ∧ 
        cal d nRd_skipBlanks [xr l0] g1 (xup (xup w1 (g1.2 (g1.2 l0 7) 8) (Int.toNat l1) v1) (g1.2 l0 7) 4 (l1 + 1)) (fun r g2 w2 => r = none ∧ x32 (l1 + 1) ∧ 
          ((8 ≤ (l1 + 1)) → aRd_readSun d lim Q 80 [xr l0, none, none] [] g2 w2) ∧
          (((l1 + 1) < 8) → xIs g2 l0 (0, 2) ∧ xIs g2 l0 (0, 2) ∧ 
            (((w2 l0 1) ≤ (w2 l0 2)) → aRd_readSun d lim Q 80 [xr l0, none, none] [] g2 w2) ∧
            (((w2 l0 2) < (w2 l0 1)) → xIs g2 l0 (0, 2) ∧ xIs g2 l0 (0, 2) ∧ xAr g2 (g2.2 l0 0) (w2 l0 2) ∧ 
              (((w2 (g2.2 l0 0) (Int.toNat (w2 l0 2))) = 44) → xIs g2 l0 (0, 2) ∧ x32 ((w2 l0 2) + 1) ∧ xIs g2 l0 (0, 2) ∧ x32 (l1 + 1) ∧ aRd_readSun d lim Q 2 [xr l0, xi (l1 + 1), none] [] g2 (xup w2 l0 2 ((w2 l0 2) + 1))) ∧
              ((¬ (w2 (g2.2 l0 0) (Int.toNat (w2 l0 2))) = 44) → aRd_readSun d lim Q 80 [xr l0, none, none] [] g2 w2))))) ∧
      ((v1 = (-1)) → ((0 : Int) = 0 ∨ (0 : Int) = 1) ∧ Q (some (xi 0)) g1 w1)))) :
    aRd_readSun d lim Q 2 [xr l0, xi l1, none] [] g w := xAt_exec (cal_m d) kRd_readSun 51 t
set_option maxRecDepth 20000 in
theorem wRd_readSun_80 {d : Nat} {lim : Nat × Nat} {Q : xQ} {l0 : Nat} {g : xG} {w : xW} (t : xIs g l0 (0, 2) ∧ 
  cal d nRd_endClause [xr l0] g w (fun r g1 w1 => ∃ v1 : Int, r = some (xi v1) ∧ ((v1 : Int) = 0 ∨ (v1 : Int) = 1) ∧ Q (some (xi v1)) g1 w1)) :
    aRd_readSun d lim Q 80 [xr l0, none, none] [] g w := xAt_exec (cal_m d) kRd_readSun 4 t
theorem eRd_readSun {d : Nat} {Q : xQ} {l0 : Nat} {g : xG} {w : xW} (t : ∀ (lim : Nat × Nat) (Q2 : xQ), (∀ r g2 w2, g2.1 = g.1 → Q r g2 w2 → Q2 r g2 w2) → aRd_readSun d lim Q2 0 [xr l0, none, none] [] g w) : cal (d + 1) nRd_readSun [xr l0] g w Q := t _ _ xQof
abbrev aRd_readPerson (d : Nat) (lim : Nat × Nat) (Q : xQ) : xK := xAt xMks tRd_readPerson (cal d) lim Q
def kRd_readPerson : List (Nat × List Bool) := []
set_option maxRecDepth 20000 in
theorem wRd_readPerson_0 {d : Nat} {lim : Nat × Nat} {Q : xQ} {l0 : Nat} {g : xG} {w : xW} (t : xIs g l0 (0, 2) ∧ 
  cal d nRd_readCell [xr l0] g w (fun r g1 w1 => ∃ v1 : Int, r = some (xi v1) ∧ 
    ((¬ v1 = (-1)) → xIs g1 l0 (0, 2) ∧ 
      cal d nRd_readNumber [xr l0, xi 0, xi 300] g1 w1 (fun r g2 w2 => ∃ v2 : Int, r = some (xi v2) ∧ 
        ((¬ v2 = (-1)) → xIs g2 l0 (0, 2) ∧ 
          cal d nRd_readNumber [xr l0, xi 1, xi 60] g2 w2 (fun r g3 w3 => ∃ v3 : Int, r = some (xi v3) ∧ 
            ((¬ v3 = (-1)) → xIs g3 l0 (0, 2) ∧ 
              cal d nRd_readNumber [xr l0, xi 0, xi 9] g3 w3 (fun r g4 w4 => ∃ v4 : Int, r = some (xi v4) ∧ 
                ((¬ v4 = (-1)) → xIs g4 l0 (0, 2) ∧ xIs g4 (g4.2 l0 7) (0, 5) ∧ xIs g4 l0 (0, 2) ∧ xIs g4 (g4.2 l0 7) (0, 5) ∧ x32 ((w4 (g4.2 l0 7) 5) + 1) ∧ xIs g4 (g4.2 l0 7) (0, 5) ∧ xIs g4 l0 (0, 2) ∧ xIs g4 (g4.2 l0 8) (0, 3) ∧ xA1 g4 (g4.2 (g4.2 l0 8) 7) (w4 (g4.2 l0 7) 5) ∧ xIs g4 l0 (0, 2) ∧ xIs g4 (g4.2 l0 8) (0, 3) ∧ xA1 g4 (g4.2 (g4.2 l0 8) 8) (w4 (g4.2 l0 7) 5) ∧ xIs g4 l0 (0, 2) ∧ xIs g4 (g4.2 l0 7) (0, 5) ∧ xA1 g4 (g4.2 (g4.2 l0 7) 11) (w4 (g4.2 l0 7) 5) ∧ xIs g4 l0 (0, 2) ∧ xIs g4 (g4.2 l0 7) (0, 5) ∧ xA1 g4 (g4.2 (g4.2 l0 7) 12) (w4 (g4.2 l0 7) 5) ∧ xIs g4 l0 (0, 2) ∧ 
                  cal d nRd_endClause [xr l0] g4 (xup (xup (xup (xup (xup w4 (g4.2 l0 7) 5 ((w4 (g4.2 l0 7) 5) + 1)) (g4.2 (g4.2 l0 8) 7) (Int.toNat (w4 (g4.2 l0 7) 5)) v1) (g4.2 (g4.2 l0 8) 8) (Int.toNat (w4 (g4.2 l0 7) 5)) v2) (g4.2 (g4.2 l0 7) 11) (Int.toNat (w4 (g4.2 l0 7) 5)) v3) (g4.2 (g4.2 l0 7) 12) (Int.toNat (w4 (g4.2 l0 7) 5)) v4) (fun r g5 w5 => ∃ v5 : Int, r = some (xi v5) ∧ ((v5 : Int) = 0 ∨ (v5 : Int) = 1) ∧ Q (some (xi v5)) g5 w5)) ∧
                ((v4 = (-1)) → ((0 : Int) = 0 ∨ (0 : Int) = 1) ∧ Q (some (xi 0)) g4 w4))) ∧
            ((v3 = (-1)) → ((0 : Int) = 0 ∨ (0 : Int) = 1) ∧ Q (some (xi 0)) g3 w3))) ∧
        ((v2 = (-1)) → ((0 : Int) = 0 ∨ (0 : Int) = 1) ∧ Q (some (xi 0)) g2 w2))) ∧
    ((v1 = (-1)) → ((0 : Int) = 0 ∨ (0 : Int) = 1) ∧ Q (some (xi 0)) g1 w1))) :
    aRd_readPerson d lim Q 0 [xr l0, none, none, none, none, none] [] g w := xAt_exec (cal_m d) kRd_readPerson 69 t
theorem eRd_readPerson {d : Nat} {Q : xQ} {l0 : Nat} {g : xG} {w : xW} (t : ∀ (lim : Nat × Nat) (Q2 : xQ), (∀ r g2 w2, g2.1 = g.1 → Q r g2 w2 → Q2 r g2 w2) → aRd_readPerson d lim Q2 0 [xr l0, none, none, none, none, none] [] g w) : cal (d + 1) nRd_readPerson [xr l0] g w Q := t _ _ xQof
abbrev aRd_readCell (d : Nat) (lim : Nat × Nat) (Q : xQ) : xK := xAt xMks tRd_readCell (cal d) lim Q
def kRd_readCell : List (Nat × List Bool) := []
set_option maxRecDepth 20000 in
theorem wRd_readCell_0 {d : Nat} {lim : Nat × Nat} {Q : xQ} {l0 : Nat} {g : xG} {w : xW} (t : xIs g l0 (0, 2) ∧ xIs g (g.2 l0 7) (0, 5) ∧ x32 ((w (g.2 l0 7) 0) - 1) ∧ xIs g l0 (0, 2) ∧ 
  cal d nRd_readNumber [xr l0, xi 0, xi ((w (g.2 l0 7) 0) - 1)] g w (fun r g1 w1 => ∃ v1 : Int, r = some (xi v1) ∧ 
    ((¬ v1 = (-1)) → xIs g1 l0 (0, 2) ∧ xIs g1 (g1.2 l0 7) (0, 5) ∧ x32 ((w1 (g1.2 l0 7) 1) - 1) ∧ xIs g1 l0 (0, 2) ∧ 
      cal d nRd_readNumber [xr l0, xi 0, xi ((w1 (g1.2 l0 7) 1) - 1)] g1 w1 (fun r g2 w2 => ∃ v2 : Int, r = some (xi v2) ∧ 
        ((¬ v2 = (-1)) → xIs g2 l0 (0, 2) ∧ xIs g2 (g2.2 l0 7) (0, 5) ∧ 
          cal d nTw_cellAt [xr (g2.2 l0 7), xi v1, xi v2] g2 w2 (fun r g3 w3 => ∃ v3 : Int, r = some (xi v3) ∧ Q (some (xi v3)) g3 w3)) ∧
        ((v2 = (-1)) → Q (some (xi (-1))) g2 w2))) ∧
    ((v1 = (-1)) → Q (some (xi (-1))) g1 w1))) :
    aRd_readCell d lim Q 0 [xr l0, none, none] [] g w := xAt_exec (cal_m d) kRd_readCell 31 t
theorem eRd_readCell {d : Nat} {Q : xQ} {l0 : Nat} {g : xG} {w : xW} (t : ∀ (lim : Nat × Nat) (Q2 : xQ), (∀ r g2 w2, g2.1 = g.1 → Q r g2 w2 → Q2 r g2 w2) → aRd_readCell d lim Q2 0 [xr l0, none, none] [] g w) : cal (d + 1) nRd_readCell [xr l0] g w Q := t _ _ xQof
abbrev aRd_readNumber (d : Nat) (lim : Nat × Nat) (Q : xQ) : xK := xAt xMks tRd_readNumber (cal d) lim Q
def kRd_readNumber : List (Nat × List Bool) := [(14, [true, true, true, true, false]), (90, [true, true, true, true, false]), (134, [true, false, false, false, false])]
set_option maxRecDepth 20000 in
theorem wRd_readNumber_0 {d : Nat} {lim : Nat × Nat} {Q : xQ} {l1 l2 : Int} {l0 : Nat} {g : xG} {w : xW} (t : xIs g l0 (0, 2) ∧ 
  cal d nRd_skipBlanks [xr l0] g w (fun r g1 w1 => r = none ∧ xIs g1 l0 (0, 2) ∧ xIs g1 l0 (0, 2) ∧ aRd_readNumber d lim Q 14 [xr l0, xi l1, xi l2, xi 0, none] [] g1 (xup w1 l0 3 (w1 l0 2)))) :
    aRd_readNumber d lim Q 0 [xr l0, xi l1, xi l2, none, none] [] g w := xAt_exec (cal_m d) kRd_readNumber 9 t
set_option maxRecDepth 20000 in
theorem wRd_readNumber_14 {d : Nat} {lim : Nat × Nat} {Q : xQ} {l1 l2 l3 : Int} {l0 : Nat} {g : xG} {w : xW} (t : xIs g l0 (0, 2) ∧ xIs g l0 (0, 2) ∧ 
  (((w l0 1) ≤ (w l0 2)) → aRd_readNumber d lim Q 90 [xr l0, xi l1, xi l2, xi l3, none] [] g w) ∧
  (((w l0 2) < (w l0 1)) → xIs g l0 (0, 2) ∧ xIs g l0 (0, 2) ∧ xAr g (g.2 l0 0) (w l0 2) ∧ 
    (((w (g.2 l0 0) (Int.toNat (w l0 2))) < 48) → aRd_readNumber d lim Q 90 [xr l0, xi l1, xi l2, xi l3, none] [] g w) ∧
    ((48 ≤ (w (g.2 l0 0) (Int.toNat (w l0 2)))) → xIs g l0 (0, 2) ∧ xIs g l0 (0, 2) ∧ xAr g (g.2 l0 0) (w l0 2) ∧ 
      ((57 < (w (g.2 l0 0) (Int.toNat (w l0 2)))) → aRd_readNumber d lim Q 90 [xr l0, xi l1, xi l2, xi l3, none] [] g w) ∧
      (((w (g.2 l0 0) (Int.toNat (w l0 2))) ≤ 57) → x32 (l3 * 10) ∧ xIs g l0 (0, 2) ∧ xIs g l0 (0, 2) ∧ xAr g (g.2 l0 0) (w l0 2) ∧ x32 ((l3 * 10) + (w (g.2 l0 0) (Int.toNat (w l0 2)))) ∧ x32 (((l3 * 10) + (w (g.2 l0 0) (Int.toNat (w l0 2)))) - 48) ∧ 
        cal d nJd_min [xi 1000, xi (((l3 * 10) + (w (g.2 l0 0) (Int.toNat (w l0 2)))) - 48)] g w (fun r g1 w1 => ∃ v1 : Int, r = some (xi v1) ∧ xIs g1 l0 (0, 2) ∧ x32 ((w1 l0 2) + 1) ∧ xIs g1 l0 (0, 2) ∧ aRd_readNumber d lim Q 14 [xr l0, xi l1, xi l2, xi v1, none] [] g1 (xup w1 l0 2 ((w1 l0 2) + 1))))))) :
    aRd_readNumber d lim Q 14 [xr l0, xi l1, xi l2, xi l3, none] [] g w := xAt_exec (cal_m d) kRd_readNumber 41 t
set_option maxRecDepth 20000 in
theorem wRd_readNumber_90 {d : Nat} {lim : Nat × Nat} {Q : xQ} {l1 l2 l3 : Int} {l0 : Nat} {g : xG} {w : xW} (t : xIs g l0 (0, 2) ∧ xIs g l0 (0, 2) ∧ x32 ((w l0 2) - (w l0 3)) ∧ 
  ((¬ ((w l0 2) - (w l0 3)) = 0) → 
    ((3 < ((w l0 2) - (w l0 3))) → aRd_readNumber d lim Q 134 [xr l0, none, none, none, none] [] g w) ∧
    ((((w l0 2) - (w l0 3)) ≤ 3) → 
      ((l3 < l1) → aRd_readNumber d lim Q 134 [xr l0, none, none, none, none] [] g w) ∧
      ((l1 ≤ l3) → 
        ((l3 ≤ l2) → Q (some (xi l3)) g w) ∧
        ((l2 < l3) → aRd_readNumber d lim Q 134 [xr l0, none, none, none, none] [] g w)))) ∧
  ((((w l0 2) - (w l0 3)) = 0) → xIs g l0 (0, 2) ∧ xIs g l0 (0, 2) ∧ 
    cal d nRd_fail [xr l0, xi 1, xi (w l0 3)] g w (fun r g1 w1 => ∃ v1 : Int, r = some (xi v1) ∧ Q (some (xi (-1))) g1 w1))) :
    aRd_readNumber d lim Q 90 [xr l0, xi l1, xi l2, xi l3, none] [] g w := xAt_exec (cal_m d) kRd_readNumber 20 t
set_option maxRecDepth 20000 in
theorem wRd_readNumber_134 {d : Nat} {lim : Nat × Nat} {Q : xQ} {l0 : Nat} {g : xG} {w : xW} (t : xIs g l0 (0, 2) ∧ xIs g l0 (0, 2) ∧ 
  cal d nRd_fail [xr l0, xi 2, xi (w l0 3)] g w (fun r g1 w1 => ∃ v1 : Int, r = some (xi v1) ∧ Q (some (xi (-1))) g1 w1)) :
    aRd_readNumber d lim Q 134 [xr l0, none, none, none, none] [] g w := xAt_exec (cal_m d) kRd_readNumber 9 t
theorem eRd_readNumber {d : Nat} {Q : xQ} {l1 l2 : Int} {l0 : Nat} {g : xG} {w : xW} (t : ∀ (lim : Nat × Nat) (Q2 : xQ), (∀ r g2 w2, g2.1 = g.1 → Q r g2 w2 → Q2 r g2 w2) → aRd_readNumber d lim Q2 0 [xr l0, xi l1, xi l2, none, none] [] g w) : cal (d + 1) nRd_readNumber [xr l0, xi l1, xi l2] g w Q := t _ _ xQof
abbrev aRd_endClause (d : Nat) (lim : Nat × Nat) (Q : xQ) : xK := xAt xMks tRd_endClause (cal d) lim Q
def kRd_endClause : List (Nat × List Bool) := [(29, [true])]
set_option maxRecDepth 20000 in
theorem wRd_endClause_0 {d : Nat} {lim : Nat × Nat} {Q : xQ} {l0 : Nat} {g : xG} {w : xW} (t : xIs g l0 (0, 2) ∧ 
  cal d nRd_skipBlanks [xr l0] g w (fun r g1 w1 => r = none ∧ xIs g1 l0 (0, 2) ∧ xIs g1 l0 (0, 2) ∧ 
    (((w1 l0 1) ≤ (w1 l0 2)) → aRd_endClause d lim Q 29 [xr l0] [] g1 w1) ∧
    (((w1 l0 2) < (w1 l0 1)) → xIs g1 l0 (0, 2) ∧ xIs g1 l0 (0, 2) ∧ xAr g1 (g1.2 l0 0) (w1 l0 2) ∧ 
      (((w1 (g1.2 l0 0) (Int.toNat (w1 l0 2))) = 59) → xIs g1 l0 (0, 2) ∧ x32 ((w1 l0 2) + 1) ∧ xIs g1 l0 (0, 2) ∧ ((1 : Int) = 0 ∨ (1 : Int) = 1) ∧ Q (some (xi 1)) g1 (xup w1 l0 2 ((w1 l0 2) + 1))) ∧
      ((¬ (w1 (g1.2 l0 0) (Int.toNat (w1 l0 2))) = 59) → aRd_endClause d lim Q 29 [xr l0] [] g1 w1)))) :
    aRd_endClause d lim Q 0 [xr l0] [] g w := xAt_exec (cal_m d) kRd_endClause 23 t
set_option maxRecDepth 20000 in
theorem wRd_endClause_29 {d : Nat} {lim : Nat × Nat} {Q : xQ} {l0 : Nat} {g : xG} {w : xW} (t : xIs g l0 (0, 2) ∧ xIs g l0 (0, 2) ∧ 
  cal d nRd_fail [xr l0, xi 1, xi (w l0 2)] g w (fun r g1 w1 => ∃ v1 : Int, r = some (xi v1) ∧ ((v1 : Int) = 0 ∨ (v1 : Int) = 1) ∧ Q (some (xi v1)) g1 w1)) :
    aRd_endClause d lim Q 29 [xr l0] [] g w := xAt_exec (cal_m d) kRd_endClause 7 t
theorem eRd_endClause {d : Nat} {Q : xQ} {l0 : Nat} {g : xG} {w : xW} (t : ∀ (lim : Nat × Nat) (Q2 : xQ), (∀ r g2 w2, g2.1 = g.1 → Q r g2 w2 → Q2 r g2 w2) → aRd_endClause d lim Q2 0 [xr l0] [] g w) : cal (d + 1) nRd_endClause [xr l0] g w Q := t _ _ xQof
abbrev aRd_skipBlanks (d : Nat) (lim : Nat × Nat) (Q : xQ) : xK := xAt xMks tRd_skipBlanks (cal d) lim Q
def kRd_skipBlanks : List (Nat × List Bool) := [(0, [true])]
set_option maxRecDepth 20000 in
theorem wRd_skipBlanks_0 {d : Nat} {lim : Nat × Nat} {Q : xQ} {l0 : Nat} {g : xG} {w : xW} (t : xIs g l0 (0, 2) ∧ xIs g l0 (0, 2) ∧ 
  (((w l0 1) ≤ (w l0 2)) → Q none g w) ∧
  (((w l0 2) < (w l0 1)) → xIs g l0 (0, 2) ∧ xIs g l0 (0, 2) ∧ xAr g (g.2 l0 0) (w l0 2) ∧ 
    ((¬ (w (g.2 l0 0) (Int.toNat (w l0 2))) = 32) → Q none g w) ∧
    (((w (g.2 l0 0) (Int.toNat (w l0 2))) = 32) → xIs g l0 (0, 2) ∧ x32 ((w l0 2) + 1) ∧ xIs g l0 (0, 2) ∧ aRd_skipBlanks d lim Q 0 [xr l0] [] g (xup w l0 2 ((w l0 2) + 1))))) :
    aRd_skipBlanks d lim Q 0 [xr l0] [] g w := xAt_exec (cal_m d) kRd_skipBlanks 20 t
theorem eRd_skipBlanks {d : Nat} {Q : xQ} {l0 : Nat} {g : xG} {w : xW} (t : ∀ (lim : Nat × Nat) (Q2 : xQ), (∀ r g2 w2, g2.1 = g.1 → Q r g2 w2 → Q2 r g2 w2) → aRd_skipBlanks d lim Q2 0 [xr l0] [] g w) : cal (d + 1) nRd_skipBlanks [xr l0] g w Q := t _ _ xQof
abbrev aRd_fail (d : Nat) (lim : Nat × Nat) (Q : xQ) : xK := xAt xMks tRd_fail (cal d) lim Q
def kRd_fail : List (Nat × List Bool) := []
set_option maxRecDepth 20000 in
theorem wRd_fail_0 {d : Nat} {lim : Nat × Nat} {Q : xQ} {l1 l2 : Int} {l0 : Nat} {g : xG} {w : xW} (t : xIs g l0 (0, 2) ∧ xIs g l0 (0, 2) ∧ ((0 : Int) = 0 ∨ (0 : Int) = 1) ∧ Q (some (xi 0)) g (xup (xup w l0 4 l1) l0 5 l2)) :
    aRd_fail d lim Q 0 [xr l0, xi l1, xi l2] [] g w := xAt_exec (cal_m d) kRd_fail 9 t
theorem eRd_fail {d : Nat} {Q : xQ} {l1 l2 : Int} {l0 : Nat} {g : xG} {w : xW} (t : ∀ (lim : Nat × Nat) (Q2 : xQ), (∀ r g2 w2, g2.1 = g.1 → Q r g2 w2 → Q2 r g2 w2) → aRd_fail d lim Q2 0 [xr l0, xi l1, xi l2] [] g w) : cal (d + 1) nRd_fail [xr l0, xi l1, xi l2] g w Q := t _ _ xQof
end
section
abbrev aFf_feed (d : Nat) (lim : Nat × Nat) (Q : xQ) : xK := xAt xMks tFf_feed (cal d) lim Q
def kFf_feed : List (Nat × List Bool) := []
set_option maxRecDepth 20000 in
theorem wFf_feed_0 {d : Nat} {lim : Nat × Nat} {Q : xQ} {l1 : Int} {l0 : Nat} {g : xG} {w : xW} (t : 
  ((l1 < 0) → Q (some (xi (-1000000002))) g w) ∧
  ((0 ≤ l1) → 
    ((l1 ≤ 255) → xIs g l0 (0, 6) ∧ xIs g (g.2 l0 0) (0, 2) ∧ 
      cal d nRd_take [xr (g.2 l0 0), xi l1] g w (fun r g1 w1 => ∃ v1 : Int, r = some (xi v1) ∧ 
        ((v1 = 0) → Q (some (xi (-1000000004))) g1 w1) ∧
        ((¬ v1 = 0) → xIs g1 l0 (0, 6) ∧ xIs g1 (g1.2 l0 0) (0, 2) ∧ Q (some (xi (w1 (g1.2 l0 0) 1))) g1 w1))) ∧
    ((255 < l1) → Q (some (xi (-1000000002))) g w))) :
    aFf_feed d lim Q 0 [xr l0, xi l1] [] g w := xAt_exec (cal_m d) kFf_feed 16 t
theorem eFf_feed {d : Nat} {Q : xQ} {l1 : Int} {l0 : Nat} {g : xG} {w : xW} (t : ∀ (lim : Nat × Nat) (Q2 : xQ), (∀ r g2 w2, g2.1 = g.1 → Q r g2 w2 → Q2 r g2 w2) → aFf_feed d lim Q2 0 [xr l0, xi l1] [] g w) : cal (d + 1) nFf_feed [xr l0, xi l1] g w Q := t _ _ xQof
abbrev aFf_town (d : Nat) (lim : Nat × Nat) (Q : xQ) : xK := xAt xMks tFf_town (cal d) lim Q
def kFf_town : List (Nat × List Bool) := []
set_option maxRecDepth 20000 in
theorem wFf_town_0 {d : Nat} {lim : Nat × Nat} {Q : xQ} {l0 : Nat} {g : xG} {w : xW} (t : xIs g l0 (0, 6) ∧ xIs g (g.2 l0 11) (0, 3) ∧ xIs g l0 (0, 6) ∧ xIs g l0 (0, 6) ∧ xIs g l0 (0, 6) ∧ xIs g (g.2 l0 0) (0, 2) ∧ 
  cal d nRd_read [xr (g.2 l0 0), xr (g.2 l0 10), xr (g.2 l0 12)] g w (fun r g1 w1 => ∃ v1 : Int, r = some (xi v1) ∧ xIs g1 l0 (0, 6) ∧ xIs g1 (g1.2 l0 0) (0, 2) ∧ 
    ((¬ v1 = 0) → xIs g1 l0 (0, 6) ∧ xIs g1 l0 (0, 6) ∧ xIs g1 l0 (0, 6) ∧ xIs (g1.1, xup g1.2 l0 9 (g1.2 l0 10)) l0 (0, 6) ∧ xIs ((g1.1, xup g1.2 l0 9 (g1.2 l0 10)).1, xup (g1.1, xup g1.2 l0 9 (g1.2 l0 10)).2 l0 10 (g1.2 l0 9)) l0 (0, 6) ∧ xIs ((g1.1, xup g1.2 l0 9 (g1.2 l0 10)).1, xup (g1.1, xup g1.2 l0 9 (g1.2 l0 10)).2 l0 10 (g1.2 l0 9)) l0 (0, 6) ∧ xIs ((g1.1, xup g1.2 l0 9 (g1.2 l0 10)).1, xup (g1.1, xup g1.2 l0 9 (g1.2 l0 10)).2 l0 10 (g1.2 l0 9)) l0 (0, 6) ∧ xIs (((g1.1, xup g1.2 l0 9 (g1.2 l0 10)).1, xup (g1.1, xup g1.2 l0 9 (g1.2 l0 10)).2 l0 10 (g1.2 l0 9)).1, xup ((g1.1, xup g1.2 l0 9 (g1.2 l0 10)).1, xup (g1.1, xup g1.2 l0 9 (g1.2 l0 10)).2 l0 10 (g1.2 l0 9)).2 l0 11 (((g1.1, xup g1.2 l0 9 (g1.2 l0 10)).1, xup (g1.1, xup g1.2 l0 9 (g1.2 l0 10)).2 l0 10 (g1.2 l0 9)).2 l0 12)) l0 (0, 6) ∧ xIs ((((g1.1, xup g1.2 l0 9 (g1.2 l0 10)).1, xup (g1.1, xup g1.2 l0 9 (g1.2 l0 10)).2 l0 10 (g1.2 l0 9)).1, xup ((g1.1, xup g1.2 l0 9 (g1.2 l0 10)).1, xup (g1.1, xup g1.2 l0 9 (g1.2 l0 10)).2 l0 10 (g1.2 l0 9)).2 l0 11 (((g1.1, xup g1.2 l0 9 (g1.2 l0 10)).1, xup (g1.1, xup g1.2 l0 9 (g1.2 l0 10)).2 l0 10 (g1.2 l0 9)).2 l0 12)).1, xup (((g1.1, xup g1.2 l0 9 (g1.2 l0 10)).1, xup (g1.1, xup g1.2 l0 9 (g1.2 l0 10)).2 l0 10 (g1.2 l0 9)).1, xup ((g1.1, xup g1.2 l0 9 (g1.2 l0 10)).1, xup (g1.1, xup g1.2 l0 9 (g1.2 l0 10)).2 l0 10 (g1.2 l0 9)).2 l0 11 (((g1.1, xup g1.2 l0 9 (g1.2 l0 10)).1, xup (g1.1, xup g1.2 l0 9 (g1.2 l0 10)).2 l0 10 (g1.2 l0 9)).2 l0 12)).2 l0 12 (((g1.1, xup g1.2 l0 9 (g1.2 l0 10)).1, xup (g1.1, xup g1.2 l0 9 (g1.2 l0 10)).2 l0 10 (g1.2 l0 9)).2 l0 11)) l0 (0, 6) ∧ xIs ((((g1.1, xup g1.2 l0 9 (g1.2 l0 10)).1, xup (g1.1, xup g1.2 l0 9 (g1.2 l0 10)).2 l0 10 (g1.2 l0 9)).1, xup ((g1.1, xup g1.2 l0 9 (g1.2 l0 10)).1, xup (g1.1, xup g1.2 l0 9 (g1.2 l0 10)).2 l0 10 (g1.2 l0 9)).2 l0 11 (((g1.1, xup g1.2 l0 9 (g1.2 l0 10)).1, xup (g1.1, xup g1.2 l0 9 (g1.2 l0 10)).2 l0 10 (g1.2 l0 9)).2 l0 12)).1, xup (((g1.1, xup g1.2 l0 9 (g1.2 l0 10)).1, xup (g1.1, xup g1.2 l0 9 (g1.2 l0 10)).2 l0 10 (g1.2 l0 9)).1, xup ((g1.1, xup g1.2 l0 9 (g1.2 l0 10)).1, xup (g1.1, xup g1.2 l0 9 (g1.2 l0 10)).2 l0 10 (g1.2 l0 9)).2 l0 11 (((g1.1, xup g1.2 l0 9 (g1.2 l0 10)).1, xup (g1.1, xup g1.2 l0 9 (g1.2 l0 10)).2 l0 10 (g1.2 l0 9)).2 l0 12)).2 l0 12 (((g1.1, xup g1.2 l0 9 (g1.2 l0 10)).1, xup (g1.1, xup g1.2 l0 9 (g1.2 l0 10)).2 l0 10 (g1.2 l0 9)).2 l0 11)) (((((g1.1, xup g1.2 l0 9 (g1.2 l0 10)).1, xup (g1.1, xup g1.2 l0 9 (g1.2 l0 10)).2 l0 10 (g1.2 l0 9)).1, xup ((g1.1, xup g1.2 l0 9 (g1.2 l0 10)).1, xup (g1.1, xup g1.2 l0 9 (g1.2 l0 10)).2 l0 10 (g1.2 l0 9)).2 l0 11 (((g1.1, xup g1.2 l0 9 (g1.2 l0 10)).1, xup (g1.1, xup g1.2 l0 9 (g1.2 l0 10)).2 l0 10 (g1.2 l0 9)).2 l0 12)).1, xup (((g1.1, xup g1.2 l0 9 (g1.2 l0 10)).1, xup (g1.1, xup g1.2 l0 9 (g1.2 l0 10)).2 l0 10 (g1.2 l0 9)).1, xup ((g1.1, xup g1.2 l0 9 (g1.2 l0 10)).1, xup (g1.1, xup g1.2 l0 9 (g1.2 l0 10)).2 l0 10 (g1.2 l0 9)).2 l0 11 (((g1.1, xup g1.2 l0 9 (g1.2 l0 10)).1, xup (g1.1, xup g1.2 l0 9 (g1.2 l0 10)).2 l0 10 (g1.2 l0 9)).2 l0 12)).2 l0 12 (((g1.1, xup g1.2 l0 9 (g1.2 l0 10)).1, xup (g1.1, xup g1.2 l0 9 (g1.2 l0 10)).2 l0 10 (g1.2 l0 9)).2 l0 11)).2 l0 11) (0, 3) ∧ xIs ((((g1.1, xup g1.2 l0 9 (g1.2 l0 10)).1, xup (g1.1, xup g1.2 l0 9 (g1.2 l0 10)).2 l0 10 (g1.2 l0 9)).1, xup ((g1.1, xup g1.2 l0 9 (g1.2 l0 10)).1, xup (g1.1, xup g1.2 l0 9 (g1.2 l0 10)).2 l0 10 (g1.2 l0 9)).2 l0 11 (((g1.1, xup g1.2 l0 9 (g1.2 l0 10)).1, xup (g1.1, xup g1.2 l0 9 (g1.2 l0 10)).2 l0 10 (g1.2 l0 9)).2 l0 12)).1, xup (((g1.1, xup g1.2 l0 9 (g1.2 l0 10)).1, xup (g1.1, xup g1.2 l0 9 (g1.2 l0 10)).2 l0 10 (g1.2 l0 9)).1, xup ((g1.1, xup g1.2 l0 9 (g1.2 l0 10)).1, xup (g1.1, xup g1.2 l0 9 (g1.2 l0 10)).2 l0 10 (g1.2 l0 9)).2 l0 11 (((g1.1, xup g1.2 l0 9 (g1.2 l0 10)).1, xup (g1.1, xup g1.2 l0 9 (g1.2 l0 10)).2 l0 10 (g1.2 l0 9)).2 l0 12)).2 l0 12 (((g1.1, xup g1.2 l0 9 (g1.2 l0 10)).1, xup (g1.1, xup g1.2 l0 9 (g1.2 l0 10)).2 l0 10 (g1.2 l0 9)).2 l0 11)) l0 (0, 6) ∧ xIs ((((g1.1, xup g1.2 l0 9 (g1.2 l0 10)).1, xup (g1.1, xup g1.2 l0 9 (g1.2 l0 10)).2 l0 10 (g1.2 l0 9)).1, xup ((g1.1, xup g1.2 l0 9 (g1.2 l0 10)).1, xup (g1.1, xup g1.2 l0 9 (g1.2 l0 10)).2 l0 10 (g1.2 l0 9)).2 l0 11 (((g1.1, xup g1.2 l0 9 (g1.2 l0 10)).1, xup (g1.1, xup g1.2 l0 9 (g1.2 l0 10)).2 l0 10 (g1.2 l0 9)).2 l0 12)).1, xup (((g1.1, xup g1.2 l0 9 (g1.2 l0 10)).1, xup (g1.1, xup g1.2 l0 9 (g1.2 l0 10)).2 l0 10 (g1.2 l0 9)).1, xup ((g1.1, xup g1.2 l0 9 (g1.2 l0 10)).1, xup (g1.1, xup g1.2 l0 9 (g1.2 l0 10)).2 l0 10 (g1.2 l0 9)).2 l0 11 (((g1.1, xup g1.2 l0 9 (g1.2 l0 10)).1, xup (g1.1, xup g1.2 l0 9 (g1.2 l0 10)).2 l0 10 (g1.2 l0 9)).2 l0 12)).2 l0 12 (((g1.1, xup g1.2 l0 9 (g1.2 l0 10)).1, xup (g1.1, xup g1.2 l0 9 (g1.2 l0 10)).2 l0 10 (g1.2 l0 9)).2 l0 11)) (((((g1.1, xup g1.2 l0 9 (g1.2 l0 10)).1, xup (g1.1, xup g1.2 l0 9 (g1.2 l0 10)).2 l0 10 (g1.2 l0 9)).1, xup ((g1.1, xup g1.2 l0 9 (g1.2 l0 10)).1, xup (g1.1, xup g1.2 l0 9 (g1.2 l0 10)).2 l0 10 (g1.2 l0 9)).2 l0 11 (((g1.1, xup g1.2 l0 9 (g1.2 l0 10)).1, xup (g1.1, xup g1.2 l0 9 (g1.2 l0 10)).2 l0 10 (g1.2 l0 9)).2 l0 12)).1, xup (((g1.1, xup g1.2 l0 9 (g1.2 l0 10)).1, xup (g1.1, xup g1.2 l0 9 (g1.2 l0 10)).2 l0 10 (g1.2 l0 9)).1, xup ((g1.1, xup g1.2 l0 9 (g1.2 l0 10)).1, xup (g1.1, xup g1.2 l0 9 (g1.2 l0 10)).2 l0 10 (g1.2 l0 9)).2 l0 11 (((g1.1, xup g1.2 l0 9 (g1.2 l0 10)).1, xup (g1.1, xup g1.2 l0 9 (g1.2 l0 10)).2 l0 10 (g1.2 l0 9)).2 l0 12)).2 l0 12 (((g1.1, xup g1.2 l0 9 (g1.2 l0 10)).1, xup (g1.1, xup g1.2 l0 9 (g1.2 l0 10)).2 l0 10 (g1.2 l0 9)).2 l0 11)).2 l0 1) (0, 1) ∧ xIs ((((g1.1, xup g1.2 l0 9 (g1.2 l0 10)).1, xup (g1.1, xup g1.2 l0 9 (g1.2 l0 10)).2 l0 10 (g1.2 l0 9)).1, xup ((g1.1, xup g1.2 l0 9 (g1.2 l0 10)).1, xup (g1.1, xup g1.2 l0 9 (g1.2 l0 10)).2 l0 10 (g1.2 l0 9)).2 l0 11 (((g1.1, xup g1.2 l0 9 (g1.2 l0 10)).1, xup (g1.1, xup g1.2 l0 9 (g1.2 l0 10)).2 l0 10 (g1.2 l0 9)).2 l0 12)).1, xup (((g1.1, xup g1.2 l0 9 (g1.2 l0 10)).1, xup (g1.1, xup g1.2 l0 9 (g1.2 l0 10)).2 l0 10 (g1.2 l0 9)).1, xup ((g1.1, xup g1.2 l0 9 (g1.2 l0 10)).1, xup (g1.1, xup g1.2 l0 9 (g1.2 l0 10)).2 l0 10 (g1.2 l0 9)).2 l0 11 (((g1.1, xup g1.2 l0 9 (g1.2 l0 10)).1, xup (g1.1, xup g1.2 l0 9 (g1.2 l0 10)).2 l0 10 (g1.2 l0 9)).2 l0 12)).2 l0 12 (((g1.1, xup g1.2 l0 9 (g1.2 l0 10)).1, xup (g1.1, xup g1.2 l0 9 (g1.2 l0 10)).2 l0 10 (g1.2 l0 9)).2 l0 11)) l0 (0, 6) ∧ xIs ((((g1.1, xup g1.2 l0 9 (g1.2 l0 10)).1, xup (g1.1, xup g1.2 l0 9 (g1.2 l0 10)).2 l0 10 (g1.2 l0 9)).1, xup ((g1.1, xup g1.2 l0 9 (g1.2 l0 10)).1, xup (g1.1, xup g1.2 l0 9 (g1.2 l0 10)).2 l0 10 (g1.2 l0 9)).2 l0 11 (((g1.1, xup g1.2 l0 9 (g1.2 l0 10)).1, xup (g1.1, xup g1.2 l0 9 (g1.2 l0 10)).2 l0 10 (g1.2 l0 9)).2 l0 12)).1, xup (((g1.1, xup g1.2 l0 9 (g1.2 l0 10)).1, xup (g1.1, xup g1.2 l0 9 (g1.2 l0 10)).2 l0 10 (g1.2 l0 9)).1, xup ((g1.1, xup g1.2 l0 9 (g1.2 l0 10)).1, xup (g1.1, xup g1.2 l0 9 (g1.2 l0 10)).2 l0 10 (g1.2 l0 9)).2 l0 11 (((g1.1, xup g1.2 l0 9 (g1.2 l0 10)).1, xup (g1.1, xup g1.2 l0 9 (g1.2 l0 10)).2 l0 10 (g1.2 l0 9)).2 l0 12)).2 l0 12 (((g1.1, xup g1.2 l0 9 (g1.2 l0 10)).1, xup (g1.1, xup g1.2 l0 9 (g1.2 l0 10)).2 l0 10 (g1.2 l0 9)).2 l0 11)) (((((g1.1, xup g1.2 l0 9 (g1.2 l0 10)).1, xup (g1.1, xup g1.2 l0 9 (g1.2 l0 10)).2 l0 10 (g1.2 l0 9)).1, xup ((g1.1, xup g1.2 l0 9 (g1.2 l0 10)).1, xup (g1.1, xup g1.2 l0 9 (g1.2 l0 10)).2 l0 10 (g1.2 l0 9)).2 l0 11 (((g1.1, xup g1.2 l0 9 (g1.2 l0 10)).1, xup (g1.1, xup g1.2 l0 9 (g1.2 l0 10)).2 l0 10 (g1.2 l0 9)).2 l0 12)).1, xup (((g1.1, xup g1.2 l0 9 (g1.2 l0 10)).1, xup (g1.1, xup g1.2 l0 9 (g1.2 l0 10)).2 l0 10 (g1.2 l0 9)).1, xup ((g1.1, xup g1.2 l0 9 (g1.2 l0 10)).1, xup (g1.1, xup g1.2 l0 9 (g1.2 l0 10)).2 l0 10 (g1.2 l0 9)).2 l0 11 (((g1.1, xup g1.2 l0 9 (g1.2 l0 10)).1, xup (g1.1, xup g1.2 l0 9 (g1.2 l0 10)).2 l0 10 (g1.2 l0 9)).2 l0 12)).2 l0 12 (((g1.1, xup g1.2 l0 9 (g1.2 l0 10)).1, xup (g1.1, xup g1.2 l0 9 (g1.2 l0 10)).2 l0 10 (g1.2 l0 9)).2 l0 11)).2 l0 2) (0, 1) ∧ xIs ((((g1.1, xup g1.2 l0 9 (g1.2 l0 10)).1, xup (g1.1, xup g1.2 l0 9 (g1.2 l0 10)).2 l0 10 (g1.2 l0 9)).1, xup ((g1.1, xup g1.2 l0 9 (g1.2 l0 10)).1, xup (g1.1, xup g1.2 l0 9 (g1.2 l0 10)).2 l0 10 (g1.2 l0 9)).2 l0 11 (((g1.1, xup g1.2 l0 9 (g1.2 l0 10)).1, xup (g1.1, xup g1.2 l0 9 (g1.2 l0 10)).2 l0 10 (g1.2 l0 9)).2 l0 12)).1, xup (((g1.1, xup g1.2 l0 9 (g1.2 l0 10)).1, xup (g1.1, xup g1.2 l0 9 (g1.2 l0 10)).2 l0 10 (g1.2 l0 9)).1, xup ((g1.1, xup g1.2 l0 9 (g1.2 l0 10)).1, xup (g1.1, xup g1.2 l0 9 (g1.2 l0 10)).2 l0 10 (g1.2 l0 9)).2 l0 11 (((g1.1, xup g1.2 l0 9 (g1.2 l0 10)).1, xup (g1.1, xup g1.2 l0 9 (g1.2 l0 10)).2 l0 10 (g1.2 l0 9)).2 l0 12)).2 l0 12 (((g1.1, xup g1.2 l0 9 (g1.2 l0 10)).1, xup (g1.1, xup g1.2 l0 9 (g1.2 l0 10)).2 l0 10 (g1.2 l0 9)).2 l0 11)) l0 (0, 6) ∧ 
      cal d nJd_fill [xr (((((g1.1, xup g1.2 l0 9 (g1.2 l0 10)).1, xup (g1.1, xup g1.2 l0 9 (g1.2 l0 10)).2 l0 10 (g1.2 l0 9)).1, xup ((g1.1, xup g1.2 l0 9 (g1.2 l0 10)).1, xup (g1.1, xup g1.2 l0 9 (g1.2 l0 10)).2 l0 10 (g1.2 l0 9)).2 l0 11 (((g1.1, xup g1.2 l0 9 (g1.2 l0 10)).1, xup (g1.1, xup g1.2 l0 9 (g1.2 l0 10)).2 l0 10 (g1.2 l0 9)).2 l0 12)).1, xup (((g1.1, xup g1.2 l0 9 (g1.2 l0 10)).1, xup (g1.1, xup g1.2 l0 9 (g1.2 l0 10)).2 l0 10 (g1.2 l0 9)).1, xup ((g1.1, xup g1.2 l0 9 (g1.2 l0 10)).1, xup (g1.1, xup g1.2 l0 9 (g1.2 l0 10)).2 l0 10 (g1.2 l0 9)).2 l0 11 (((g1.1, xup g1.2 l0 9 (g1.2 l0 10)).1, xup (g1.1, xup g1.2 l0 9 (g1.2 l0 10)).2 l0 10 (g1.2 l0 9)).2 l0 12)).2 l0 12 (((g1.1, xup g1.2 l0 9 (g1.2 l0 10)).1, xup (g1.1, xup g1.2 l0 9 (g1.2 l0 10)).2 l0 10 (g1.2 l0 9)).2 l0 11)).2 l0 4), xi 0] ((((g1.1, xup g1.2 l0 9 (g1.2 l0 10)).1, xup (g1.1, xup g1.2 l0 9 (g1.2 l0 10)).2 l0 10 (g1.2 l0 9)).1, xup ((g1.1, xup g1.2 l0 9 (g1.2 l0 10)).1, xup (g1.1, xup g1.2 l0 9 (g1.2 l0 10)).2 l0 10 (g1.2 l0 9)).2 l0 11 (((g1.1, xup g1.2 l0 9 (g1.2 l0 10)).1, xup (g1.1, xup g1.2 l0 9 (g1.2 l0 10)).2 l0 10 (g1.2 l0 9)).2 l0 12)).1, xup (((g1.1, xup g1.2 l0 9 (g1.2 l0 10)).1, xup (g1.1, xup g1.2 l0 9 (g1.2 l0 10)).2 l0 10 (g1.2 l0 9)).1, xup ((g1.1, xup g1.2 l0 9 (g1.2 l0 10)).1, xup (g1.1, xup g1.2 l0 9 (g1.2 l0 10)).2 l0 10 (g1.2 l0 9)).2 l0 11 (((g1.1, xup g1.2 l0 9 (g1.2 l0 10)).1, xup (g1.1, xup g1.2 l0 9 (g1.2 l0 10)).2 l0 10 (g1.2 l0 9)).2 l0 12)).2 l0 12 (((g1.1, xup g1.2 l0 9 (g1.2 l0 10)).1, xup (g1.1, xup g1.2 l0 9 (g1.2 l0 10)).2 l0 10 (g1.2 l0 9)).2 l0 11)) (xup (xup (xup (xup w1 (g1.2 l0 0) 1 0) (((((g1.1, xup g1.2 l0 9 (g1.2 l0 10)).1, xup (g1.1, xup g1.2 l0 9 (g1.2 l0 10)).2 l0 10 (g1.2 l0 9)).1, xup ((g1.1, xup g1.2 l0 9 (g1.2 l0 10)).1, xup (g1.1, xup g1.2 l0 9 (g1.2 l0 10)).2 l0 10 (g1.2 l0 9)).2 l0 11 (((g1.1, xup g1.2 l0 9 (g1.2 l0 10)).1, xup (g1.1, xup g1.2 l0 9 (g1.2 l0 10)).2 l0 10 (g1.2 l0 9)).2 l0 12)).1, xup (((g1.1, xup g1.2 l0 9 (g1.2 l0 10)).1, xup (g1.1, xup g1.2 l0 9 (g1.2 l0 10)).2 l0 10 (g1.2 l0 9)).1, xup ((g1.1, xup g1.2 l0 9 (g1.2 l0 10)).1, xup (g1.1, xup g1.2 l0 9 (g1.2 l0 10)).2 l0 10 (g1.2 l0 9)).2 l0 11 (((g1.1, xup g1.2 l0 9 (g1.2 l0 10)).1, xup (g1.1, xup g1.2 l0 9 (g1.2 l0 10)).2 l0 10 (g1.2 l0 9)).2 l0 12)).2 l0 12 (((g1.1, xup g1.2 l0 9 (g1.2 l0 10)).1, xup (g1.1, xup g1.2 l0 9 (g1.2 l0 10)).2 l0 10 (g1.2 l0 9)).2 l0 11)).2 l0 11) 17 (w (g.2 l0 11) 17)) (((((g1.1, xup g1.2 l0 9 (g1.2 l0 10)).1, xup (g1.1, xup g1.2 l0 9 (g1.2 l0 10)).2 l0 10 (g1.2 l0 9)).1, xup ((g1.1, xup g1.2 l0 9 (g1.2 l0 10)).1, xup (g1.1, xup g1.2 l0 9 (g1.2 l0 10)).2 l0 10 (g1.2 l0 9)).2 l0 11 (((g1.1, xup g1.2 l0 9 (g1.2 l0 10)).1, xup (g1.1, xup g1.2 l0 9 (g1.2 l0 10)).2 l0 10 (g1.2 l0 9)).2 l0 12)).1, xup (((g1.1, xup g1.2 l0 9 (g1.2 l0 10)).1, xup (g1.1, xup g1.2 l0 9 (g1.2 l0 10)).2 l0 10 (g1.2 l0 9)).1, xup ((g1.1, xup g1.2 l0 9 (g1.2 l0 10)).1, xup (g1.1, xup g1.2 l0 9 (g1.2 l0 10)).2 l0 10 (g1.2 l0 9)).2 l0 11 (((g1.1, xup g1.2 l0 9 (g1.2 l0 10)).1, xup (g1.1, xup g1.2 l0 9 (g1.2 l0 10)).2 l0 10 (g1.2 l0 9)).2 l0 12)).2 l0 12 (((g1.1, xup g1.2 l0 9 (g1.2 l0 10)).1, xup (g1.1, xup g1.2 l0 9 (g1.2 l0 10)).2 l0 10 (g1.2 l0 9)).2 l0 11)).2 l0 1) 3 0) (((((g1.1, xup g1.2 l0 9 (g1.2 l0 10)).1, xup (g1.1, xup g1.2 l0 9 (g1.2 l0 10)).2 l0 10 (g1.2 l0 9)).1, xup ((g1.1, xup g1.2 l0 9 (g1.2 l0 10)).1, xup (g1.1, xup g1.2 l0 9 (g1.2 l0 10)).2 l0 10 (g1.2 l0 9)).2 l0 11 (((g1.1, xup g1.2 l0 9 (g1.2 l0 10)).1, xup (g1.1, xup g1.2 l0 9 (g1.2 l0 10)).2 l0 10 (g1.2 l0 9)).2 l0 12)).1, xup (((g1.1, xup g1.2 l0 9 (g1.2 l0 10)).1, xup (g1.1, xup g1.2 l0 9 (g1.2 l0 10)).2 l0 10 (g1.2 l0 9)).1, xup ((g1.1, xup g1.2 l0 9 (g1.2 l0 10)).1, xup (g1.1, xup g1.2 l0 9 (g1.2 l0 10)).2 l0 10 (g1.2 l0 9)).2 l0 11 (((g1.1, xup g1.2 l0 9 (g1.2 l0 10)).1, xup (g1.1, xup g1.2 l0 9 (g1.2 l0 10)).2 l0 10 (g1.2 l0 9)).2 l0 12)).2 l0 12 (((g1.1, xup g1.2 l0 9 (g1.2 l0 10)).1, xup (g1.1, xup g1.2 l0 9 (g1.2 l0 10)).2 l0 10 (g1.2 l0 9)).2 l0 11)).2 l0 2) 3 0) (fun r g2 w2 => r = none ∧ xIs g2 l0 (0, 6) ∧ xIs g2 (g2.2 l0 9) (0, 5) ∧ 
        cal d nTw_cells [xr (g2.2 l0 9)] g2 w2 (fun r g3 w3 => ∃ v3 : Int, r = some (xi v3) ∧ Q (some (xi v3)) g3 w3))) ∧
    ((v1 = 0) → xIs g1 l0 (0, 6) ∧ xIs g1 (g1.2 l0 0) (0, 2) ∧ x32 ((-10) - ((xup w1 (g1.2 l0 0) 1 0) (g1.2 l0 0) 4)) ∧ Q (some (xi ((-10) - ((xup w1 (g1.2 l0 0) 1 0) (g1.2 l0 0) 4)))) g1 (xup w1 (g1.2 l0 0) 1 0)))) :
    aFf_town d lim Q 0 [xr l0, none, none, none, none] [] g w := xAt_exec (cal_m d) kFf_town 59 t
theorem eFf_town {d : Nat} {Q : xQ} {l0 : Nat} {g : xG} {w : xW} (t : ∀ (lim : Nat × Nat) (Q2 : xQ), (∀ r g2 w2, g2.1 = g.1 → Q r g2 w2 → Q2 r g2 w2) → aFf_town d lim Q2 0 [xr l0, none, none, none, none] [] g w) : cal (d + 1) nFf_town [xr l0] g w Q := t _ _ xQof
abbrev aFf_fault (d : Nat) (lim : Nat × Nat) (Q : xQ) : xK := xAt xMks tFf_fault (cal d) lim Q
def kFf_fault : List (Nat × List Bool) := []
set_option maxRecDepth 20000 in
theorem wFf_fault_0 {d : Nat} {lim : Nat × Nat} {Q : xQ} {l0 : Nat} {g : xG} {w : xW} (t : xIs g l0 (0, 6) ∧ xIs g (g.2 l0 0) (0, 2) ∧ Q (some (xi (w (g.2 l0 0) 5))) g w) :
    aFf_fault d lim Q 0 [xr l0] [] g w := xAt_exec (cal_m d) kFf_fault 5 t
theorem eFf_fault {d : Nat} {Q : xQ} {l0 : Nat} {g : xG} {w : xW} (t : ∀ (lim : Nat × Nat) (Q2 : xQ), (∀ r g2 w2, g2.1 = g.1 → Q r g2 w2 → Q2 r g2 w2) → aFf_fault d lim Q2 0 [xr l0] [] g w) : cal (d + 1) nFf_fault [xr l0] g w Q := t _ _ xQof
abbrev aFf_told (d : Nat) (lim : Nat × Nat) (Q : xQ) : xK := xAt xMks tFf_told (cal d) lim Q
def kFf_told : List (Nat × List Bool) := []
set_option maxRecDepth 20000 in
theorem wFf_told_0 {d : Nat} {lim : Nat × Nat} {Q : xQ} {l1 : Int} {l0 : Nat} {g : xG} {w : xW} (t : 
  ((l1 < 0 ∨ 14 < l1) → Q (some (xi (-1000000002))) g w) ∧
  ((l1 = 0) → xIs g l0 (0, 6) ∧ xIs g (g.2 l0 9) (0, 5) ∧ Q (some (xi (w (g.2 l0 9) 0))) g w) ∧
  ((l1 = 1) → xIs g l0 (0, 6) ∧ xIs g (g.2 l0 9) (0, 5) ∧ Q (some (xi (w (g.2 l0 9) 1))) g w) ∧
  ((l1 = 2) → xIs g l0 (0, 6) ∧ xIs g l0 (0, 6) ∧ xIs g (g.2 l0 11) (0, 3) ∧ 
    cal d nSt_countWalls [xr (g.2 l0 11), xr (g.2 l0 9)] g w (fun r g1 w1 => ∃ v1 : Int, r = some (xi v1) ∧ Q (some (xi v1)) g1 w1)) ∧
  ((l1 = 3) → xIs g l0 (0, 6) ∧ xIs g (g.2 l0 9) (0, 5) ∧ Q (some (xi (w (g.2 l0 9) 2))) g w) ∧
  ((l1 = 4) → xIs g l0 (0, 6) ∧ xIs g (g.2 l0 9) (0, 5) ∧ Q (some (xi (w (g.2 l0 9) 3))) g w) ∧
  ((l1 = 5) → xIs g l0 (0, 6) ∧ xIs g (g.2 l0 9) (0, 5) ∧ Q (some (xi (w (g.2 l0 9) 4))) g w) ∧
  ((l1 = 6) → xIs g l0 (0, 6) ∧ xIs g (g.2 l0 9) (0, 5) ∧ Q (some (xi (w (g.2 l0 9) 5))) g w) ∧
  ((l1 = 7) → xIs g l0 (0, 6) ∧ xIs g (g.2 l0 0) (0, 2) ∧ Q (some (xi (w (g.2 l0 0) 1))) g w) ∧
  ((l1 = 8) → xIs g l0 (0, 6) ∧ xIs g (g.2 l0 11) (0, 3) ∧ Q (some (xi (w (g.2 l0 11) 16))) g w) ∧
  ((l1 = 9) → xIs g l0 (0, 6) ∧ xIs g (g.2 l0 11) (0, 3) ∧ Q (some (xi (w (g.2 l0 11) 14))) g w) ∧
  ((l1 = 10) → xIs g l0 (0, 6) ∧ xIs g (g.2 l0 11) (0, 3) ∧ Q (some (xi (w (g.2 l0 11) 15))) g w) ∧
  ((l1 = 11) → xIs g l0 (0, 6) ∧ xIs g l0 (0, 6) ∧ xIs g (g.2 l0 11) (0, 3) ∧ xIs g (g.2 l0 9) (0, 5) ∧ 
    cal d nTw_sunAt [xr (g.2 l0 9), xi (w (g.2 l0 11) 16)] g w (fun r g2 w2 => ∃ v2 : Int, r = some (xi v2) ∧ Q (some (xi v2)) g2 w2)) ∧
  ((l1 = 12) → xIs g l0 (0, 6) ∧ xIs g (g.2 l0 11) (0, 3) ∧ Q (some (xi (w (g.2 l0 11) 13))) g w) ∧
  ((l1 = 13) → xIs g l0 (0, 6) ∧ xIs g (g.2 l0 1) (0, 1) ∧ Q (some (xi (w (g.2 l0 1) 3))) g w) ∧
  ((l1 = 14) → xIs g l0 (0, 6) ∧ xIs g (g.2 l0 2) (0, 1) ∧ Q (some (xi (w (g.2 l0 2) 3))) g w) ∧ True) :
    aFf_told d lim Q 0 [xr l0, xi l1] [] g w := xAt_exec (cal_m d) kFf_told 10 t
theorem eFf_told {d : Nat} {Q : xQ} {l1 : Int} {l0 : Nat} {g : xG} {w : xW} (t : ∀ (lim : Nat × Nat) (Q2 : xQ), (∀ r g2 w2, g2.1 = g.1 → Q r g2 w2 → Q2 r g2 w2) → aFf_told d lim Q2 0 [xr l0, xi l1] [] g w) : cal (d + 1) nFf_told [xr l0, xi l1] g w Q := t _ _ xQof
abbrev aFf_cell (d : Nat) (lim : Nat × Nat) (Q : xQ) : xK := xAt xMks tFf_cell (cal d) lim Q
def kFf_cell : List (Nat × List Bool) := []
set_option maxRecDepth 20000 in
theorem wFf_cell_0 {d : Nat} {lim : Nat × Nat} {Q : xQ} {l1 l2 l3 : Int} {l0 : Nat} {g : xG} {w : xW} (t : xIs g l0 (0, 6) ∧ xIs g (g.2 l0 9) (0, 5) ∧ 
  cal d nTw_cellAt [xr (g.2 l0 9), xi l1, xi l2] g w (fun r g1 w1 => ∃ v1 : Int, r = some (xi v1) ∧ 
    ((¬ v1 = (-1)) → 
      ((l3 < 0 ∨ 3 < l3) → Q (some (xi (-1000000002))) g1 w1) ∧
      ((l3 = 0) → xIs g1 l0 (0, 6) ∧ xIs g1 (g1.2 l0 11) (0, 3) ∧ xAr g1 (g1.2 (g1.2 l0 11) 0) v1 ∧ Q (some (xi (w1 (g1.2 (g1.2 l0 11) 0) (Int.toNat v1)))) g1 w1) ∧
      ((l3 = 1) → xIs g1 l0 (0, 6) ∧ xIs g1 (g1.2 l0 11) (0, 3) ∧ xAr g1 (g1.2 (g1.2 l0 11) 2) v1 ∧ Q (some (xi (w1 (g1.2 (g1.2 l0 11) 2) (Int.toNat v1)))) g1 w1) ∧
      ((l3 = 2) → xIs g1 l0 (0, 6) ∧ xIs g1 (g1.2 l0 9) (0, 5) ∧ xAr g1 (g1.2 (g1.2 l0 9) 7) v1 ∧ Q (some (xi (w1 (g1.2 (g1.2 l0 9) 7) (Int.toNat v1)))) g1 w1) ∧
      ((l3 = 3) → xIs g1 l0 (0, 6) ∧ xIs g1 l0 (0, 6) ∧ xIs g1 (g1.2 l0 11) (0, 3) ∧ 
        cal d nSt_peopleOn [xr (g1.2 l0 11), xr (g1.2 l0 9), xi v1] g1 w1 (fun r g2 w2 => ∃ v2 : Int, r = some (xi v2) ∧ Q (some (xi v2)) g2 w2)) ∧ True) ∧
    ((v1 = (-1)) → Q (some (xi (-1000000001))) g1 w1))) :
    aFf_cell d lim Q 0 [xr l0, xi l1, xi l2, xi l3, none] [] g w := xAt_exec (cal_m d) kFf_cell 19 t
theorem eFf_cell {d : Nat} {Q : xQ} {l1 l2 l3 : Int} {l0 : Nat} {g : xG} {w : xW} (t : ∀ (lim : Nat × Nat) (Q2 : xQ), (∀ r g2 w2, g2.1 = g.1 → Q r g2 w2 → Q2 r g2 w2) → aFf_cell d lim Q2 0 [xr l0, xi l1, xi l2, xi l3, none] [] g w) : cal (d + 1) nFf_cell [xr l0, xi l1, xi l2, xi l3] g w Q := t _ _ xQof
abbrev aFf_wall (d : Nat) (lim : Nat × Nat) (Q : xQ) : xK := xAt xMks tFf_wall (cal d) lim Q
def kFf_wall : List (Nat × List Bool) := []
set_option maxRecDepth 20000 in
theorem wFf_wall_0 {d : Nat} {lim : Nat × Nat} {Q : xQ} {l1 l2 l3 : Int} {l0 : Nat} {g : xG} {w : xW} (t : xIs g l0 (0, 6) ∧ 
  cal d nFf_refusalOfWall [xr l0, xi l1, xi l2, xi l3] g w (fun r g1 w1 => ∃ v1 : Int, r = some (xi v1) ∧ 
    ((v1 = 0) → xIs g1 l0 (0, 6) ∧ xIs g1 l0 (0, 6) ∧ xIs g1 (g1.2 l0 9) (0, 5) ∧ 
      cal d nTw_cellAt [xr (g1.2 l0 9), xi l1, xi l2] g1 w1 (fun r g2 w2 => ∃ v2 : Int, r = some (xi v2) ∧ xIs g2 (g1.2 l0 11) (0, 3) ∧ 
        cal d nSt_wallOf [xr (g1.2 l0 11), xi v2, xi l3] g2 w2 (fun r g3 w3 => ∃ v3 : Int, r = some (xi v3) ∧ Q (some (xi v3)) g3 w3))) ∧
    ((¬ v1 = 0) → Q (some (xi v1)) g1 w1))) :
    aFf_wall d lim Q 0 [xr l0, xi l1, xi l2, xi l3, none] [] g w := xAt_exec (cal_m d) kFf_wall 19 t
theorem eFf_wall {d : Nat} {Q : xQ} {l1 l2 l3 : Int} {l0 : Nat} {g : xG} {w : xW} (t : ∀ (lim : Nat × Nat) (Q2 : xQ), (∀ r g2 w2, g2.1 = g.1 → Q r g2 w2 → Q2 r g2 w2) → aFf_wall d lim Q2 0 [xr l0, xi l1, xi l2, xi l3, none] [] g w) : cal (d + 1) nFf_wall [xr l0, xi l1, xi l2, xi l3] g w Q := t _ _ xQof
abbrev aFf_stove (d : Nat) (lim : Nat × Nat) (Q : xQ) : xK := xAt xMks tFf_stove (cal d) lim Q
def kFf_stove : List (Nat × List Bool) := []
set_option maxRecDepth 20000 in
theorem wFf_stove_0 {d : Nat} {lim : Nat × Nat} {Q : xQ} {l1 l2 : Int} {l0 : Nat} {g : xG} {w : xW} (t : xIs g l0 (0, 6) ∧ 
  cal d nFf_isStove [xr l0, xi l1] g w (fun r g1 w1 => ∃ v1 : Int, r = some (xi v1) ∧ 
    ((¬ v1 = 0) → 
      ((l2 < 0 ∨ 3 < l2) → Q (some (xi (-1000000002))) g1 w1) ∧
      ((l2 = 0) → xIs g1 l0 (0, 6) ∧ xIs g1 l0 (0, 6) ∧ xIs g1 (g1.2 l0 9) (0, 5) ∧ xAr g1 (g1.2 (g1.2 l0 9) 9) l1 ∧ xIs g1 (g1.2 l0 9) (0, 5) ∧ 
        cal d nTw_pairOf [xr (g1.2 l0 9), xi (w1 (g1.2 (g1.2 l0 9) 9) (Int.toNat l1))] g1 w1 (fun r g2 w2 => ∃ v2 : Int, r = some (xi v2) ∧ Q (some (xi v2)) g2 w2)) ∧
      ((l2 = 1) → xIs g1 l0 (0, 6) ∧ xIs g1 (g1.2 l0 9) (0, 5) ∧ xAr g1 (g1.2 (g1.2 l0 9) 10) l1 ∧ Q (some (xi (w1 (g1.2 (g1.2 l0 9) 10) (Int.toNat l1)))) g1 w1) ∧
      ((l2 = 2) → xIs g1 l0 (0, 6) ∧ xIs g1 (g1.2 l0 11) (0, 3) ∧ xAr g1 (g1.2 (g1.2 l0 11) 5) l1 ∧ Q (some (xi (w1 (g1.2 (g1.2 l0 11) 5) (Int.toNat l1)))) g1 w1) ∧
      ((l2 = 3) → xIs g1 l0 (0, 6) ∧ xIs g1 (g1.2 l0 11) (0, 3) ∧ xAr g1 (g1.2 (g1.2 l0 11) 6) l1 ∧ Q (some (xi (w1 (g1.2 (g1.2 l0 11) 6) (Int.toNat l1)))) g1 w1) ∧ True) ∧
    ((v1 = 0) → Q (some (xi (-1000000001))) g1 w1))) :
    aFf_stove d lim Q 0 [xr l0, xi l1, xi l2] [] g w := xAt_exec (cal_m d) kFf_stove 16 t
theorem eFf_stove {d : Nat} {Q : xQ} {l1 l2 : Int} {l0 : Nat} {g : xG} {w : xW} (t : ∀ (lim : Nat × Nat) (Q2 : xQ), (∀ r g2 w2, g2.1 = g.1 → Q r g2 w2 → Q2 r g2 w2) → aFf_stove d lim Q2 0 [xr l0, xi l1, xi l2] [] g w) : cal (d + 1) nFf_stove [xr l0, xi l1, xi l2] g w Q := t _ _ xQof
abbrev aFf_person (d : Nat) (lim : Nat × Nat) (Q : xQ) : xK := xAt xMks tFf_person (cal d) lim Q
def kFf_person : List (Nat × List Bool) := []
set_option maxRecDepth 20000 in
theorem wFf_person_0 {d : Nat} {lim : Nat × Nat} {Q : xQ} {l1 l2 : Int} {l0 : Nat} {g : xG} {w : xW} (t : xIs g l0 (0, 6) ∧ 
  cal d nFf_isPerson [xr l0, xi l1] g w (fun r g1 w1 => ∃ v1 : Int, r = some (xi v1) ∧ 
    ((¬ v1 = 0) → 
      ((l2 < 0 ∨ 7 < l2) → Q (some (xi (-1000000002))) g1 w1) ∧
      ((l2 = 0) → xIs g1 l0 (0, 6) ∧ xIs g1 l0 (0, 6) ∧ xIs g1 (g1.2 l0 11) (0, 3) ∧ xAr g1 (g1.2 (g1.2 l0 11) 7) l1 ∧ xIs g1 (g1.2 l0 9) (0, 5) ∧ 
        cal d nTw_pairOf [xr (g1.2 l0 9), xi (w1 (g1.2 (g1.2 l0 11) 7) (Int.toNat l1))] g1 w1 (fun r g2 w2 => ∃ v2 : Int, r = some (xi v2) ∧ Q (some (xi v2)) g2 w2)) ∧
      ((l2 = 1) → xIs g1 l0 (0, 6) ∧ xIs g1 (g1.2 l0 11) (0, 3) ∧ xAr g1 (g1.2 (g1.2 l0 11) 8) l1 ∧ Q (some (xi (w1 (g1.2 (g1.2 l0 11) 8) (Int.toNat l1)))) g1 w1) ∧
      ((l2 = 2) → xIs g1 l0 (0, 6) ∧ xIs g1 (g1.2 l0 9) (0, 5) ∧ xAr g1 (g1.2 (g1.2 l0 9) 11) l1 ∧ Q (some (xi (w1 (g1.2 (g1.2 l0 9) 11) (Int.toNat l1)))) g1 w1) ∧
      ((l2 = 3) → xIs g1 l0 (0, 6) ∧ xIs g1 (g1.2 l0 9) (0, 5) ∧ xAr g1 (g1.2 (g1.2 l0 9) 12) l1 ∧ Q (some (xi (w1 (g1.2 (g1.2 l0 9) 12) (Int.toNat l1)))) g1 w1) ∧
      ((l2 = 4) → xIs g1 l0 (0, 6) ∧ xIs g1 (g1.2 l0 11) (0, 3) ∧ xAr g1 (g1.2 (g1.2 l0 11) 9) l1 ∧ Q (some (xi (w1 (g1.2 (g1.2 l0 11) 9) (Int.toNat l1)))) g1 w1) ∧
      ((l2 = 5) → xIs g1 l0 (0, 6) ∧ xIs g1 (g1.2 l0 11) (0, 3) ∧ xAr g1 (g1.2 (g1.2 l0 11) 10) l1 ∧ Q (some (xi (w1 (g1.2 (g1.2 l0 11) 10) (Int.toNat l1)))) g1 w1) ∧
      ((l2 = 6) → xIs g1 l0 (0, 6) ∧ xIs g1 l0 (0, 6) ∧ xIs g1 (g1.2 l0 11) (0, 3) ∧ 
        cal d nSt_countOwned [xr (g1.2 l0 11), xr (g1.2 l0 9), xi l1] g1 w1 (fun r g3 w3 => ∃ v3 : Int, r = some (xi v3) ∧ Q (some (xi v3)) g3 w3)) ∧
      ((l2 = 7) → xIs g1 l0 (0, 6) ∧ xIs g1 (g1.2 l0 11) (0, 3) ∧ xAr g1 (g1.2 (g1.2 l0 11) 11) l1 ∧ Q (some (xi (w1 (g1.2 (g1.2 l0 11) 11) (Int.toNat l1)))) g1 w1) ∧ True) ∧
    ((v1 = 0) → Q (some (xi (-1000000001))) g1 w1))) :
    aFf_person d lim Q 0 [xr l0, xi l1, xi l2] [] g w := xAt_exec (cal_m d) kFf_person 16 t
theorem eFf_person {d : Nat} {Q : xQ} {l1 l2 : Int} {l0 : Nat} {g : xG} {w : xW} (t : ∀ (lim : Nat × Nat) (Q2 : xQ), (∀ r g2 w2, g2.1 = g.1 → Q r g2 w2 → Q2 r g2 w2) → aFf_person d lim Q2 0 [xr l0, xi l1, xi l2] [] g w) : cal (d + 1) nFf_person [xr l0, xi l1, xi l2] g w Q := t _ _ xQof
abbrev aFf_go (d : Nat) (lim : Nat × Nat) (Q : xQ) : xK := xAt xMks tFf_go (cal d) lim Q
def kFf_go : List (Nat × List Bool) := []
set_option maxRecDepth 20000 in
theorem wFf_go_0 {d : Nat} {lim : Nat × Nat} {Q : xQ} {l1 l2 : Int} {l0 : Nat} {g : xG} {w : xW} (t : xIs g l0 (0, 6) ∧ 
  cal d nFf_isPerson [xr l0, xi l1] g w (fun r g1 w1 => ∃ v1 : Int, r = some (xi v1) ∧ 
    ((¬ v1 = 0) → 
      ((l2 < 1) → Q (some (xi (-1000000002))) g1 w1) ∧
      ((1 ≤ l2) → 
        ((l2 ≤ 4) → xIs g1 l0 (0, 6) ∧ xIs g1 l0 (0, 6) ∧ xIs g1 l0 (0, 6) ∧ xIs g1 (g1.2 l0 11) (0, 3) ∧ xAr g1 (g1.2 (g1.2 l0 11) 7) l1 ∧ xIs g1 (g1.2 l0 11) (0, 3) ∧ 
          cal d nSt_reach [xr (g1.2 l0 11), xr (g1.2 l0 9), xi (w1 (g1.2 (g1.2 l0 11) 7) (Int.toNat l1)), xi l2] g1 w1 (fun r g2 w2 => ∃ v2 : Int, r = some (xi v2) ∧ 
            ((¬ v2 = (-1)) → xIs g2 l0 (0, 6) ∧ xIs g2 (g2.2 l0 11) (0, 3) ∧ xA1 g2 (g2.2 (g2.2 l0 11) 7) l1 ∧ xIs g2 l0 (0, 6) ∧ xIs g2 (g2.2 l0 9) (0, 5) ∧ 
              cal d nTw_pairOf [xr (g2.2 l0 9), xi v2] g2 (xup w2 (g2.2 (g2.2 l0 11) 7) (Int.toNat l1) v2) (fun r g3 w3 => ∃ v3 : Int, r = some (xi v3) ∧ Q (some (xi v3)) g3 w3)) ∧
            ((v2 = (-1)) → Q (some (xi (-1000000003))) g2 w2))) ∧
        ((4 < l2) → Q (some (xi (-1000000002))) g1 w1))) ∧
    ((v1 = 0) → Q (some (xi (-1000000001))) g1 w1))) :
    aFf_go d lim Q 0 [xr l0, xi l1, xi l2, none] [] g w := xAt_exec (cal_m d) kFf_go 37 t
theorem eFf_go {d : Nat} {Q : xQ} {l1 l2 : Int} {l0 : Nat} {g : xG} {w : xW} (t : ∀ (lim : Nat × Nat) (Q2 : xQ), (∀ r g2 w2, g2.1 = g.1 → Q r g2 w2 → Q2 r g2 w2) → aFf_go d lim Q2 0 [xr l0, xi l1, xi l2, none] [] g w) : cal (d + 1) nFf_go [xr l0, xi l1, xi l2] g w Q := t _ _ xQof
abbrev aFf_build (d : Nat) (lim : Nat × Nat) (Q : xQ) : xK := xAt xMks tFf_build (cal d) lim Q
def kFf_build : List (Nat × List Bool) := []
set_option maxRecDepth 20000 in
theorem wFf_build_0 {d : Nat} {lim : Nat × Nat} {Q : xQ} {l1 l2 l3 l4 : Int} {l0 : Nat} {g : xG} {w : xW} (t : xIs g l0 (0, 6) ∧ 
  cal d nFf_refusalOfWall [xr l0, xi l1, xi l2, xi l3] g w (fun r g1 w1 => ∃ v1 : Int, r = some (xi v1) ∧ 
    ((v1 = 0) → xIs g1 l0 (0, 6) ∧ xIs g1 (g1.2 l0 9) (0, 5) ∧ 
      cal d nTw_cellAt [xr (g1.2 l0 9), xi l1, xi l2] g1 w1 (fun r g2 w2 => ∃ v2 : Int, r = some (xi v2) ∧ xIs g2 l0 (0, 6) ∧ xIs g2 (g2.2 l0 11) (0, 3) ∧ 
        cal d nSt_wallOf [xr (g2.2 l0 11), xi v2, xi l3] g2 w2 (fun r g3 w3 => ∃ v3 : Int, r = some (xi v3) ∧ xIs g3 l0 (0, 6) ∧ xIs g3 l0 (0, 6) ∧ xIs g3 (g3.2 l0 11) (0, 3) ∧ 
          cal d nSt_setWall [xr (g3.2 l0 11), xr (g3.2 l0 9), xi v2, xi l3, xi l4] g3 w3 (fun r g4 w4 => r = none ∧ Q (some (xi v3)) g4 w4)))) ∧
    ((¬ v1 = 0) → Q (some (xi v1)) g1 w1))) :
    aFf_build d lim Q 0 [xr l0, xi l1, xi l2, xi l3, xi l4, none, none, none] [] g w := xAt_exec (cal_m d) kFf_build 31 t
theorem eFf_build {d : Nat} {Q : xQ} {l1 l2 l3 l4 : Int} {l0 : Nat} {g : xG} {w : xW} (t : ∀ (lim : Nat × Nat) (Q2 : xQ), (∀ r g2 w2, g2.1 = g.1 → Q r g2 w2 → Q2 r g2 w2) → aFf_build d lim Q2 0 [xr l0, xi l1, xi l2, xi l3, xi l4, none, none, none] [] g w) : cal (d + 1) nFf_build [xr l0, xi l1, xi l2, xi l3, xi l4] g w Q := t _ _ xQof
abbrev aFf_light (d : Nat) (lim : Nat × Nat) (Q : xQ) : xK := xAt xMks tFf_light (cal d) lim Q
def kFf_light : List (Nat × List Bool) := []
set_option maxRecDepth 20000 in
theorem wFf_light_0 {d : Nat} {lim : Nat × Nat} {Q : xQ} {l1 : Int} {l0 : Nat} {g : xG} {w : xW} (t : xIs g l0 (0, 6) ∧ 
  cal d nFf_isStove [xr l0, xi l1] g w (fun r g1 w1 => ∃ v1 : Int, r = some (xi v1) ∧ 
    ((¬ v1 = 0) → xIs g1 l0 (0, 6) ∧ xIs g1 (g1.2 l0 11) (0, 3) ∧ 
      cal d nSt_canBeLit [xr (g1.2 l0 11), xi l1] g1 w1 (fun r g2 w2 => ∃ v2 : Int, r = some (xi v2) ∧ 
        ((¬ v2 = 0) → xIs g2 l0 (0, 6) ∧ xIs g2 (g2.2 l0 11) (0, 3) ∧ xA1 g2 (g2.2 (g2.2 l0 11) 6) l1 ∧ xIs g2 l0 (0, 6) ∧ xIs g2 (g2.2 l0 11) (0, 3) ∧ xAr g2 (g2.2 (g2.2 l0 11) 5) l1 ∧ Q (some (xi ((xup w2 (g2.2 (g2.2 l0 11) 6) (Int.toNat l1) 1) (g2.2 (g2.2 l0 11) 5) (Int.toNat l1)))) g2 (xup w2 (g2.2 (g2.2 l0 11) 6) (Int.toNat l1) 1)) ∧
        ((v2 = 0) → Q (some (xi (-1000000003))) g2 w2))) ∧
    ((v1 = 0) → Q (some (xi (-1000000001))) g1 w1))) :
    aFf_light d lim Q 0 [xr l0, xi l1] [] g w := xAt_exec (cal_m d) kFf_light 22 t
theorem eFf_light {d : Nat} {Q : xQ} {l1 : Int} {l0 : Nat} {g : xG} {w : xW} (t : ∀ (lim : Nat × Nat) (Q2 : xQ), (∀ r g2 w2, g2.1 = g.1 → Q r g2 w2 → Q2 r g2 w2) → aFf_light d lim Q2 0 [xr l0, xi l1] [] g w) : cal (d + 1) nFf_light [xr l0, xi l1] g w Q := t _ _ xQof
abbrev aFf_stoke (d : Nat) (lim : Nat × Nat) (Q : xQ) : xK := xAt xMks tFf_stoke (cal d) lim Q
def kFf_stoke : List (Nat × List Bool) := []
set_option maxRecDepth 20000 in
theorem wFf_stoke_0 {d : Nat} {lim : Nat × Nat} {Q : xQ} {l1 l2 : Int} {l0 : Nat} {g : xG} {w : xW} (t : xIs g l0 (0, 6) ∧ 
  cal d nFf_isStove [xr l0, xi l1] g w (fun r g1 w1 => ∃ v1 : Int, r = some (xi v1) ∧ 
    ((¬ v1 = 0) → 
      ((l2 < 1) → Q (some (xi (-1000000002))) g1 w1) ∧
      ((1 ≤ l2) → 
        ((l2 ≤ 99) → xIs g1 l0 (0, 6) ∧ xIs g1 (g1.2 l0 11) (0, 3) ∧ xIs g1 l0 (0, 6) ∧ xIs g1 (g1.2 l0 11) (0, 3) ∧ xAr g1 (g1.2 (g1.2 l0 11) 5) l1 ∧ x32 ((w1 (g1.2 (g1.2 l0 11) 5) (Int.toNat l1)) + l2) ∧ 
          cal d nJd_min [xi 999, xi ((w1 (g1.2 (g1.2 l0 11) 5) (Int.toNat l1)) + l2)] g1 w1 (fun r g2 w2 => ∃ v2 : Int, r = some (xi v2) ∧ xA1 g2 (g1.2 (g1.2 l0 11) 5) l1 ∧ xIs g2 l0 (0, 6) ∧ xIs g2 (g2.2 l0 11) (0, 3) ∧ xAr g2 (g2.2 (g2.2 l0 11) 5) l1 ∧ Q (some (xi ((xup w2 (g1.2 (g1.2 l0 11) 5) (Int.toNat l1) v2) (g2.2 (g2.2 l0 11) 5) (Int.toNat l1)))) g2 (xup w2 (g1.2 (g1.2 l0 11) 5) (Int.toNat l1) v2))) ∧
        ((99 < l2) → Q (some (xi (-1000000002))) g1 w1))) ∧
    ((v1 = 0) → Q (some (xi (-1000000001))) g1 w1))) :
    aFf_stoke d lim Q 0 [xr l0, xi l1, xi l2] [] g w := xAt_exec (cal_m d) kFf_stoke 31 t
theorem eFf_stoke {d : Nat} {Q : xQ} {l1 l2 : Int} {l0 : Nat} {g : xG} {w : xW} (t : ∀ (lim : Nat × Nat) (Q2 : xQ), (∀ r g2 w2, g2.1 = g.1 → Q r g2 w2 → Q2 r g2 w2) → aFf_stoke d lim Q2 0 [xr l0, xi l1, xi l2] [] g w) : cal (d + 1) nFf_stoke [xr l0, xi l1, xi l2] g w Q := t _ _ xQof
abbrev aFf_law (d : Nat) (lim : Nat × Nat) (Q : xQ) : xK := xAt xMks tFf_law (cal d) lim Q
def kFf_law : List (Nat × List Bool) := []
set_option maxRecDepth 20000 in
theorem wFf_law_0 {d : Nat} {lim : Nat × Nat} {Q : xQ} {l1 : Int} {l0 : Nat} {g : xG} {w : xW} (t : 
  cal d nFf_isLaw [xi l1] g w (fun r g1 w1 => ∃ v1 : Int, r = some (xi v1) ∧ 
    ((¬ v1 = 0) → xIs g1 l0 (0, 6) ∧ xIs g1 (g1.2 l0 11) (0, 3) ∧ xIs g1 l0 (0, 6) ∧ xIs g1 (g1.2 l0 11) (0, 3) ∧ Q (some (xi (w1 (g1.2 l0 11) 14))) g1 (xup w1 (g1.2 l0 11) 14 l1)) ∧
    ((v1 = 0) → Q (some (xi (-1000000002))) g1 w1))) :
    aFf_law d lim Q 0 [xr l0, xi l1, none] [] g w := xAt_exec (cal_m d) kFf_law 14 t
theorem eFf_law {d : Nat} {Q : xQ} {l1 : Int} {l0 : Nat} {g : xG} {w : xW} (t : ∀ (lim : Nat × Nat) (Q2 : xQ), (∀ r g2 w2, g2.1 = g.1 → Q r g2 w2 → Q2 r g2 w2) → aFf_law d lim Q2 0 [xr l0, xi l1, none] [] g w) : cal (d + 1) nFf_law [xr l0, xi l1] g w Q := t _ _ xQof
abbrev aFf_last (d : Nat) (lim : Nat × Nat) (Q : xQ) : xK := xAt xMks tFf_last (cal d) lim Q
def kFf_last : List (Nat × List Bool) := []
set_option maxRecDepth 20000 in
theorem wFf_last_0 {d : Nat} {lim : Nat × Nat} {Q : xQ} {l1 : Int} {l0 : Nat} {g : xG} {w : xW} (t : 
  ((l1 < 1) → Q (some (xi (-1000000002))) g w) ∧
  ((1 ≤ l1) → 
    ((l1 ≤ 20) → xIs g l0 (0, 6) ∧ xIs g (g.2 l0 11) (0, 3) ∧ xIs g l0 (0, 6) ∧ xIs g (g.2 l0 11) (0, 3) ∧ Q (some (xi (w (g.2 l0 11) 15))) g (xup w (g.2 l0 11) 15 l1)) ∧
    ((20 < l1) → Q (some (xi (-1000000002))) g w))) :
    aFf_last d lim Q 0 [xr l0, xi l1, none] [] g w := xAt_exec (cal_m d) kFf_last 17 t
theorem eFf_last {d : Nat} {Q : xQ} {l1 : Int} {l0 : Nat} {g : xG} {w : xW} (t : ∀ (lim : Nat × Nat) (Q2 : xQ), (∀ r g2 w2, g2.1 = g.1 → Q r g2 w2 → Q2 r g2 w2) → aFf_last d lim Q2 0 [xr l0, xi l1, none] [] g w) : cal (d + 1) nFf_last [xr l0, xi l1] g w Q := t _ _ xQof
abbrev aFf_minute (d : Nat) (lim : Nat × Nat) (Q : xQ) : xK := xAt xMks tFf_minute (cal d) lim Q
def kFf_minute : List (Nat × List Bool) := []
set_option maxRecDepth 20000 in
theorem wFf_minute_0 {d : Nat} {lim : Nat × Nat} {Q : xQ} {l1 : Int} {l0 : Nat} {g : xG} {w : xW} (t : xIs g l0 (0, 6) ∧ 
  cal d nFf_refusalOfMinutes [xr l0, xi l1] g w (fun r g1 w1 => ∃ v1 : Int, r = some (xi v1) ∧ 
    ((v1 = 0) → xIs g1 l0 (0, 6) ∧ xIs g1 l0 (0, 6) ∧ xIs g1 (g1.2 l0 11) (0, 3) ∧ 
      cal d nSt_passMinutes [xr (g1.2 l0 11), xr (g1.2 l0 9), xi l1, xi (-1)] g1 w1 (fun r g2 w2 => r = none ∧ xIs g2 l0 (0, 6) ∧ xIs g2 (g2.2 l0 11) (0, 3) ∧ Q (some (xi (w2 (g2.2 l0 11) 16))) g2 w2)) ∧
    ((¬ v1 = 0) → Q (some (xi v1)) g1 w1))) :
    aFf_minute d lim Q 0 [xr l0, xi l1, none] [] g w := xAt_exec (cal_m d) kFf_minute 18 t
theorem eFf_minute {d : Nat} {Q : xQ} {l1 : Int} {l0 : Nat} {g : xG} {w : xW} (t : ∀ (lim : Nat × Nat) (Q2 : xQ), (∀ r g2 w2, g2.1 = g.1 → Q r g2 w2 → Q2 r g2 w2) → aFf_minute d lim Q2 0 [xr l0, xi l1, none] [] g w) : cal (d + 1) nFf_minute [xr l0, xi l1] g w Q := t _ _ xQof
abbrev aFf_drift (d : Nat) (lim : Nat × Nat) (Q : xQ) : xK := xAt xMks tFf_drift (cal d) lim Q
def kFf_drift : List (Nat × List Bool) := [(14, [true, true, false, true])]
set_option maxRecDepth 20000 in
theorem wFf_drift_0 {d : Nat} {lim : Nat × Nat} {Q : xQ} {l1 : Int} {l0 : Nat} {g : xG} {w : xW} (t : xIs g l0 (0, 6) ∧ 
  cal d nFf_refusalOfMinutes [xr l0, xi l1] g w (fun r g1 w1 => ∃ v1 : Int, r = some (xi v1) ∧ 
    ((v1 = 0) → aFf_drift d lim Q 14 [xr l0, xi l1, none, xi 0] [] g1 w1) ∧
    ((¬ v1 = 0) → Q (some (xi v1)) g1 w1))) :
    aFf_drift d lim Q 0 [xr l0, xi l1, none, none] [] g w := xAt_exec (cal_m d) kFf_drift 9 t
set_option maxRecDepth 20000 in
theorem wFf_drift_14 {d : Nat} {lim : Nat × Nat} {Q : xQ} {l1 l3 : Int} {l0 : Nat} {g : xG} {w : xW} (t : 
  ((l1 ≤ l3) → xIs g l0 (0, 6) ∧ xIs g (g.2 l0 11) (0, 3) ∧ Q (some (xi (w (g.2 l0 11) 16))) g w) ∧
  ((l3 < l1) → xIs g l0 (0, 6) ∧ 
    cal d nFf_wander [xr l0] g w (fun r g1 w1 => r = none ∧ xIs g1 l0 (0, 6) ∧ xIs g1 l0 (0, 6) ∧ xIs g1 (g1.2 l0 11) (0, 3) ∧ 
      cal d nSt_passMinute [xr (g1.2 l0 11), xr (g1.2 l0 9), xi (-1)] g1 w1 (fun r g2 w2 => r = none ∧ x32 (l3 + 1) ∧ aFf_drift d lim Q 14 [xr l0, xi l1, none, xi (l3 + 1)] [] g2 w2)))) :
    aFf_drift d lim Q 14 [xr l0, xi l1, none, xi l3] [] g w := xAt_exec (cal_m d) kFf_drift 14 t
theorem eFf_drift {d : Nat} {Q : xQ} {l1 : Int} {l0 : Nat} {g : xG} {w : xW} (t : ∀ (lim : Nat × Nat) (Q2 : xQ), (∀ r g2 w2, g2.1 = g.1 → Q r g2 w2 → Q2 r g2 w2) → aFf_drift d lim Q2 0 [xr l0, xi l1, none, none] [] g w) : cal (d + 1) nFf_drift [xr l0, xi l1] g w Q := t _ _ xQof
abbrev aFf_then (d : Nat) (lim : Nat × Nat) (Q : xQ) : xK := xAt xMks tFf_then (cal d) lim Q
def kFf_then : List (Nat × List Bool) := []
set_option maxRecDepth 20000 in
theorem wFf_then_0 {d : Nat} {lim : Nat × Nat} {Q : xQ} {l1 l2 l3 l4 : Int} {l0 : Nat} {g : xG} {w : xW} (t : xIs g l0 (0, 6) ∧ xIs g (g.2 l0 9) (0, 5) ∧ 
  cal d nTw_cellAt [xr (g.2 l0 9), xi l1, xi l2] g w (fun r g1 w1 => ∃ v1 : Int, r = some (xi v1) ∧ 
    ((¬ v1 = (-1)) → 
      cal d nFf_isSpan [xi l3] g1 w1 (fun r g2 w2 => ∃ v2 : Int, r = some (xi v2) ∧ 
        ((v2 = 0) → Q (some (xi (-1000000002))) g2 w2) ∧
        ((¬ v2 = 0) → 
          ((l4 < 0) → Q (some (xi (-1000000002))) g2 w2) ∧
          ((0 ≤ l4) → 
            ((l4 ≤ 1) → xIs g2 l0 (0, 6) ∧ xIs g2 l0 (0, 6) ∧ xIs g2 (g2.2 l0 5) (0, 3) ∧ 
              cal d nSt_copyFrom [xr (g2.2 l0 5), xr (g2.2 l0 11)] g2 w2 (fun r g3 w3 => r = none ∧ xIs g3 l0 (0, 6) ∧ xIs g3 l0 (0, 6) ∧ xIs g3 (g3.2 l0 5) (0, 3) ∧ 
                cal d nSt_passMinutes [xr (g3.2 l0 5), xr (g3.2 l0 9), xi l3, xi (-1)] g3 w3 (fun r g4 w4 => r = none ∧ 
                  ((¬ l4 = 0) → xIs g4 l0 (0, 6) ∧ xIs g4 (g4.2 l0 5) (0, 3) ∧ xAr g4 (g4.2 (g4.2 l0 5) 2) v1 ∧ Q (some (xi (w4 (g4.2 (g4.2 l0 5) 2) (Int.toNat v1)))) g4 w4) ∧
                  ((l4 = 0) → xIs g4 l0 (0, 6) ∧ xIs g4 (g4.2 l0 5) (0, 3) ∧ xAr g4 (g4.2 (g4.2 l0 5) 0) v1 ∧ Q (some (xi (w4 (g4.2 (g4.2 l0 5) 0) (Int.toNat v1)))) g4 w4)))) ∧
            ((1 < l4) → Q (some (xi (-1000000002))) g2 w2))))) ∧
    ((v1 = (-1)) → Q (some (xi (-1000000001))) g1 w1))) :
    aFf_then d lim Q 0 [xr l0, xi l1, xi l2, xi l3, xi l4, none] [] g w := xAt_exec (cal_m d) kFf_then 39 t
theorem eFf_then {d : Nat} {Q : xQ} {l1 l2 l3 l4 : Int} {l0 : Nat} {g : xG} {w : xW} (t : ∀ (lim : Nat × Nat) (Q2 : xQ), (∀ r g2 w2, g2.1 = g.1 → Q r g2 w2 → Q2 r g2 w2) → aFf_then d lim Q2 0 [xr l0, xi l1, xi l2, xi l3, xi l4, none] [] g w) : cal (d + 1) nFf_then [xr l0, xi l1, xi l2, xi l3, xi l4] g w Q := t _ _ xQof
abbrev aFf_stands (d : Nat) (lim : Nat × Nat) (Q : xQ) : xK := xAt xMks tFf_stands (cal d) lim Q
def kFf_stands : List (Nat × List Bool) := [(40, [true, true, true, true])]
set_option maxRecDepth 20000 in
theorem wFf_stands_0 {d : Nat} {lim : Nat × Nat} {Q : xQ} {l1 l2 l3 : Int} {l0 : Nat} {g : xG} {w : xW} (t : xIs g l0 (0, 6) ∧ 
  cal d nFf_isPerson [xr l0, xi l1] g w (fun r g1 w1 => ∃ v1 : Int, r = some (xi v1) ∧ 
    ((¬ v1 = 0) → 
      ((l2 < 1) → Q (some (xi (-1000000002))) g1 w1) ∧
      ((1 ≤ l2) → 
        ((l2 ≤ 5) → 
          ((l3 = (-1)) → aFf_stands d lim Q 40 [xr l0, xi l1, xi l2, xi l3] [] g1 w1) ∧
          ((¬ l3 = (-1)) → 
            ((l3 < 0) → Q (some (xi (-1))) g1 w1) ∧
            ((0 ≤ l3) → 
              ((l3 < l2) → aFf_stands d lim Q 40 [xr l0, xi l1, xi l2, xi l3] [] g1 w1) ∧
              ((l2 ≤ l3) → Q (some (xi (-1))) g1 w1)))) ∧
        ((5 < l2) → Q (some (xi (-1000000002))) g1 w1))) ∧
    ((v1 = 0) → Q (some (xi (-1000000001))) g1 w1))) :
    aFf_stands d lim Q 0 [xr l0, xi l1, xi l2, xi l3] [] g w := xAt_exec (cal_m d) kFf_stands 21 t
set_option maxRecDepth 20000 in
theorem wFf_stands_40 {d : Nat} {lim : Nat × Nat} {Q : xQ} {l1 l2 l3 : Int} {l0 : Nat} {g : xG} {w : xW} (t : xIs g l0 (0, 6) ∧ xIs g l0 (0, 6) ∧ xIs g l0 (0, 6) ∧ xIs g (g.2 l0 7) (0, 4) ∧ 
  cal d nTo_begin [xr (g.2 l0 7), xr (g.2 l0 9), xr (g.2 l0 11), xi l1, xi l2] g w (fun r g1 w1 => r = none ∧ xIs g1 l0 (0, 6) ∧ 
    cal d nFf_tryWays [xr (g1.2 l0 7), xi 0] g1 w1 (fun r g2 w2 => r = none ∧ 
      ((¬ l3 = (-1)) → xIs g2 l0 (0, 6) ∧ xIs g2 (g2.2 l0 7) (0, 4) ∧ xAr g2 (g2.2 (g2.2 l0 7) 2) l3 ∧ Q (some (xi (w2 (g2.2 (g2.2 l0 7) 2) (Int.toNat l3)))) g2 w2) ∧
      ((l3 = (-1)) → xIs g2 l0 (0, 6) ∧ xIs g2 (g2.2 l0 7) (0, 4) ∧ Q (some (xi (w2 (g2.2 l0 7) 6))) g2 w2)))) :
    aFf_stands d lim Q 40 [xr l0, xi l1, xi l2, xi l3] [] g w := xAt_exec (cal_m d) kFf_stands 23 t
theorem eFf_stands {d : Nat} {Q : xQ} {l1 l2 l3 : Int} {l0 : Nat} {g : xG} {w : xW} (t : ∀ (lim : Nat × Nat) (Q2 : xQ), (∀ r g2 w2, g2.1 = g.1 → Q r g2 w2 → Q2 r g2 w2) → aFf_stands d lim Q2 0 [xr l0, xi l1, xi l2, xi l3] [] g w) : cal (d + 1) nFf_stands [xr l0, xi l1, xi l2, xi l3] g w Q := t _ _ xQof
abbrev aFf_lightFor (d : Nat) (lim : Nat × Nat) (Q : xQ) : xK := xAt xMks tFf_lightFor (cal d) lim Q
def kFf_lightFor : List (Nat × List Bool) := [(31, [true, true, true, true, false, true])]
set_option maxRecDepth 20000 in
theorem wFf_lightFor_0 {d : Nat} {lim : Nat × Nat} {Q : xQ} {l1 l2 l3 : Int} {l0 : Nat} {g : xG} {w : xW} (t : xIs g l0 (0, 6) ∧ 
  cal d nFf_refusalOfLighting [xr l0, xi l1, xi l2, xi l3] g w (fun r g1 w1 => ∃ v1 : Int, r = some (xi v1) ∧ 
    ((v1 = 0) → xIs g1 l0 (0, 6) ∧ xIs g1 l0 (0, 6) ∧ xIs g1 (g1.2 l0 6) (0, 3) ∧ 
      cal d nSt_copyFrom [xr (g1.2 l0 6), xr (g1.2 l0 11)] g1 w1 (fun r g2 w2 => r = none ∧ aFf_lightFor d lim Q 31 [xr l0, xi l1, xi l2, xi l3, none, xi 0] [] g2 w2)) ∧
    ((¬ v1 = 0) → Q (some (xi v1)) g1 w1))) :
    aFf_lightFor d lim Q 0 [xr l0, xi l1, xi l2, xi l3, none, none] [] g w := xAt_exec (cal_m d) kFf_lightFor 16 t
set_option maxRecDepth 20000 in
theorem wFf_lightFor_31 {d : Nat} {lim : Nat × Nat} {Q : xQ} {l1 l2 l3 l5 : Int} {l0 : Nat} {g : xG} {w : xW} (t : 
  ((l3 < l5) → Q (some (xi (-1))) g w) ∧
  ((l5 ≤ l3) → xIs g l0 (0, 6) ∧ x32 (l3 - l5) ∧ xIs g l0 (0, 6) ∧ 
    cal d nFf_ownsStove [xr l0, xr (g.2 l0 6), xi l1, xi l2, xi (l3 - l5), xi (-1)] g w (fun r g1 w1 => ∃ v1 : Int, r = some (xi v1) ∧ 
      ((v1 = 0) → xIs g1 l0 (0, 6) ∧ xIs g1 l0 (0, 6) ∧ xIs g1 (g1.2 l0 6) (0, 3) ∧ 
        cal d nSt_passMinute [xr (g1.2 l0 6), xr (g1.2 l0 9), xi (-1)] g1 w1 (fun r g2 w2 => r = none ∧ x32 (l5 + 1) ∧ aFf_lightFor d lim Q 31 [xr l0, xi l1, xi l2, xi l3, none, xi (l5 + 1)] [] g2 w2)) ∧
      ((¬ v1 = 0) → Q (some (xi l5)) g1 w1)))) :
    aFf_lightFor d lim Q 31 [xr l0, xi l1, xi l2, xi l3, none, xi l5] [] g w := xAt_exec (cal_m d) kFf_lightFor 23 t
theorem eFf_lightFor {d : Nat} {Q : xQ} {l1 l2 l3 : Int} {l0 : Nat} {g : xG} {w : xW} (t : ∀ (lim : Nat × Nat) (Q2 : xQ), (∀ r g2 w2, g2.1 = g.1 → Q r g2 w2 → Q2 r g2 w2) → aFf_lightFor d lim Q2 0 [xr l0, xi l1, xi l2, xi l3, none, none] [] g w) : cal (d + 1) nFf_lightFor [xr l0, xi l1, xi l2, xi l3] g w Q := t _ _ xQof
abbrev aFf_keptOut (d : Nat) (lim : Nat × Nat) (Q : xQ) : xK := xAt xMks tFf_keptOut (cal d) lim Q
def kFf_keptOut : List (Nat × List Bool) := [(37, [true, true, true, true, false, true])]
set_option maxRecDepth 20000 in
theorem wFf_keptOut_0 {d : Nat} {lim : Nat × Nat} {Q : xQ} {l1 l2 l3 : Int} {l0 : Nat} {g : xG} {w : xW} (t : xIs g l0 (0, 6) ∧ 
  cal d nFf_refusalOfLighting [xr l0, xi l1, xi l2, xi l3] g w (fun r g1 w1 => ∃ v1 : Int, r = some (xi v1) ∧ 
    ((v1 = 0) → xIs g1 l0 (0, 6) ∧ xIs g1 l0 (0, 6) ∧ 
      cal d nFf_ownsStove [xr l0, xr (g1.2 l0 11), xi l1, xi l2, xi l3, xi (-1)] g1 w1 (fun r g2 w2 => ∃ v2 : Int, r = some (xi v2) ∧ 
        ((v2 = 0) → aFf_keptOut d lim Q 37 [xr l0, xi l1, xi l2, xi l3, none, xi 0] [] g2 w2) ∧
        ((¬ v2 = 0) → Q (some (xi (-1))) g2 w2))) ∧
    ((¬ v1 = 0) → Q (some (xi v1)) g1 w1))) :
    aFf_keptOut d lim Q 0 [xr l0, xi l1, xi l2, xi l3, none, none] [] g w := xAt_exec (cal_m d) kFf_keptOut 20 t
set_option maxRecDepth 20000 in
theorem wFf_keptOut_37 {d : Nat} {lim : Nat × Nat} {Q : xQ} {l1 l2 l3 l5 : Int} {l0 : Nat} {g : xG} {w : xW} (t : xIs g l0 (0, 6) ∧ xIs g (g.2 l0 9) (0, 5) ∧ 
  (((w (g.2 l0 9) 5) ≤ l5) → Q (some (xi (-1))) g w) ∧
  ((l5 < (w (g.2 l0 9) 5)) → 
    ((l5 = l1) → x32 (l5 + 1) ∧ aFf_keptOut d lim Q 37 [xr l0, xi l1, xi l2, xi l3, none, xi (l5 + 1)] [] g w) ∧
    ((¬ l5 = l1) → xIs g l0 (0, 6) ∧ xIs g l0 (0, 6) ∧ 
      cal d nFf_ownsStove [xr l0, xr (g.2 l0 11), xi l1, xi l2, xi l3, xi l5] g w (fun r g1 w1 => ∃ v1 : Int, r = some (xi v1) ∧ 
        ((v1 = 0) → x32 (l5 + 1) ∧ aFf_keptOut d lim Q 37 [xr l0, xi l1, xi l2, xi l3, none, xi (l5 + 1)] [] g1 w1) ∧
        ((¬ v1 = 0) → Q (some (xi l5)) g1 w1))))) :
    aFf_keptOut d lim Q 37 [xr l0, xi l1, xi l2, xi l3, none, xi l5] [] g w := xAt_exec (cal_m d) kFf_keptOut 20 t
theorem eFf_keptOut {d : Nat} {Q : xQ} {l1 l2 l3 : Int} {l0 : Nat} {g : xG} {w : xW} (t : ∀ (lim : Nat × Nat) (Q2 : xQ), (∀ r g2 w2, g2.1 = g.1 → Q r g2 w2 → Q2 r g2 w2) → aFf_keptOut d lim Q2 0 [xr l0, xi l1, xi l2, xi l3, none, none] [] g w) : cal (d + 1) nFf_keptOut [xr l0, xi l1, xi l2, xi l3] g w Q := t _ _ xQof
abbrev aFf_gain (d : Nat) (lim : Nat × Nat) (Q : xQ) : xK := xAt xMks tFf_gain (cal d) lim Q
def kFf_gain : List (Nat × List Bool) := []
set_option maxRecDepth 20000 in
theorem wFf_gain_0 {d : Nat} {lim : Nat × Nat} {Q : xQ} {l1 l2 l3 l4 l5 : Int} {l0 : Nat} {g : xG} {w : xW} (t : xIs g l0 (0, 6) ∧ 
  cal d nFf_isPerson [xr l0, xi l1] g w (fun r g1 w1 => ∃ v1 : Int, r = some (xi v1) ∧ 
    ((¬ v1 = 0) → xIs g1 l0 (0, 6) ∧ 
      cal d nFf_refusalOfWall [xr l0, xi l2, xi l3, xi l4] g1 w1 (fun r g2 w2 => ∃ v2 : Int, r = some (xi v2) ∧ 
        ((v2 = 0) → 
          cal d nFf_isSpan [xi l5] g2 w2 (fun r g3 w3 => ∃ v3 : Int, r = some (xi v3) ∧ 
            ((¬ v3 = 0) → xIs g3 l0 (0, 6) ∧ xIs g3 (g3.2 l0 9) (0, 5) ∧ 
              cal d nTw_cellAt [xr (g3.2 l0 9), xi l2, xi l3] g3 w3 (fun r g4 w4 => ∃ v4 : Int, r = some (xi v4) ∧ xIs g4 l0 (0, 6) ∧ 
                cal d nFf_ownedWithWall [xr l0, xi l1, xi v4, xi l4, xi l5, xi 1] g4 w4 (fun r g5 w5 => ∃ v5 : Int, r = some (xi v5) ∧ xIs g5 l0 (0, 6) ∧ 
                  cal d nFf_ownedWithWall [xr l0, xi l1, xi v4, xi l4, xi l5, xi 0] g5 w5 (fun r g6 w6 => ∃ v6 : Int, r = some (xi v6) ∧ x32 (v5 - v6) ∧ Q (some (xi (v5 - v6))) g6 w6)))) ∧
            ((v3 = 0) → Q (some (xi (-1000000002))) g3 w3))) ∧
        ((¬ v2 = 0) → Q (some (xi v2)) g2 w2))) ∧
    ((v1 = 0) → Q (some (xi (-1000000001))) g1 w1))) :
    aFf_gain d lim Q 0 [xr l0, xi l1, xi l2, xi l3, xi l4, xi l5, none, none] [] g w := xAt_exec (cal_m d) kFf_gain 38 t
theorem eFf_gain {d : Nat} {Q : xQ} {l1 l2 l3 l4 l5 : Int} {l0 : Nat} {g : xG} {w : xW} (t : ∀ (lim : Nat × Nat) (Q2 : xQ), (∀ r g2 w2, g2.1 = g.1 → Q r g2 w2 → Q2 r g2 w2) → aFf_gain d lim Q2 0 [xr l0, xi l1, xi l2, xi l3, xi l4, xi l5, none, none] [] g w) : cal (d + 1) nFf_gain [xr l0, xi l1, xi l2, xi l3, xi l4, xi l5] g w Q := t _ _ xQof
abbrev aFf_rents (d : Nat) (lim : Nat × Nat) (Q : xQ) : xK := xAt xMks tFf_rents (cal d) lim Q
def kFf_rents : List (Nat × List Bool) := [(16, [true, true, false])]
set_option maxRecDepth 20000 in
theorem wFf_rents_0 {d : Nat} {lim : Nat × Nat} {Q : xQ} {l1 : Int} {l0 : Nat} {g : xG} {w : xW} (t : 
  ((l1 = (-1)) → aFf_rents d lim Q 16 [xr l0, xi l1, none] [] g w) ∧
  ((¬ l1 = (-1)) → xIs g l0 (0, 6) ∧ 
    cal d nFf_isPerson [xr l0, xi l1] g w (fun r g1 w1 => ∃ v1 : Int, r = some (xi v1) ∧ 
      ((¬ v1 = 0) → aFf_rents d lim Q 16 [xr l0, xi l1, none] [] g1 w1) ∧
      ((v1 = 0) → Q (some (xi (-1000000001))) g1 w1)))) :
    aFf_rents d lim Q 0 [xr l0, xi l1, none] [] g w := xAt_exec (cal_m d) kFf_rents 10 t
set_option maxRecDepth 20000 in
theorem wFf_rents_16 {d : Nat} {lim : Nat × Nat} {Q : xQ} {l1 : Int} {l0 : Nat} {g : xG} {w : xW} (t : xIs g l0 (0, 6) ∧ xIs g l0 (0, 6) ∧ xIs g l0 (0, 6) ∧ xIs g (g.2 l0 8) (0, 0) ∧ 
  cal d nMk_settle [xr (g.2 l0 8), xr (g.2 l0 9), xr (g.2 l0 11)] g w (fun r g1 w1 => ∃ v1 : Int, r = some (xi v1) ∧ 
    ((l1 = (-1)) → Q (some (xi v1)) g1 w1) ∧
    ((¬ l1 = (-1)) → 
      ((¬ v1 = (-1)) → xIs g1 l0 (0, 6) ∧ xIs g1 (g1.2 l0 8) (0, 0) ∧ xAr g1 (g1.2 (g1.2 l0 8) 0) l1 ∧ Q (some (xi (w1 (g1.2 (g1.2 l0 8) 0) (Int.toNat l1)))) g1 w1) ∧
      ((v1 = (-1)) → Q (some (xi v1)) g1 w1)))) :
    aFf_rents d lim Q 16 [xr l0, xi l1, none] [] g w := xAt_exec (cal_m d) kFf_rents 21 t
theorem eFf_rents {d : Nat} {Q : xQ} {l1 : Int} {l0 : Nat} {g : xG} {w : xW} (t : ∀ (lim : Nat × Nat) (Q2 : xQ), (∀ r g2 w2, g2.1 = g.1 → Q r g2 w2 → Q2 r g2 w2) → aFf_rents d lim Q2 0 [xr l0, xi l1, none] [] g w) : cal (d + 1) nFf_rents [xr l0, xi l1] g w Q := t _ _ xQof
abbrev aFf_claim (d : Nat) (lim : Nat × Nat) (Q : xQ) : xK := xAt xMks tFf_claim (cal d) lim Q
def kFf_claim : List (Nat × List Bool) := []
set_option maxRecDepth 20000 in
theorem wFf_claim_0 {d : Nat} {lim : Nat × Nat} {Q : xQ} {l1 l2 l3 : Int} {l0 : Nat} {g : xG} {w : xW} (t : xIs g l0 (0, 6) ∧ xIs g (g.2 l0 9) (0, 5) ∧ 
  cal d nTw_cellOfPair [xr (g.2 l0 9), xi l2] g w (fun r g1 w1 => ∃ v1 : Int, r = some (xi v1) ∧ xIs g1 l0 (0, 6) ∧ 
    cal d nFf_isPerson [xr l0, xi l1] g1 w1 (fun r g2 w2 => ∃ v2 : Int, r = some (xi v2) ∧ 
      ((v2 = 0) → Q (some (xi (-1000000001))) g2 w2) ∧
      ((¬ v2 = 0) → 
        ((¬ v1 = (-1)) → 
          ((l3 < 0) → Q (some (xi (-1000000002))) g2 w2) ∧
          ((0 ≤ l3) → 
            ((l3 < 60) → xIs g2 l0 (0, 6) ∧ xIs g2 (g2.2 l0 1) (0, 1) ∧ 
              cal d nPp_write [xr (g2.2 l0 1), xi l1, xi v1, xi l3] g2 w2 (fun r g3 w3 => ∃ v3 : Int, r = some (xi v3) ∧ 
                ((v3 = 0) → Q (some (xi (-1000000004))) g3 w3) ∧
                ((¬ v3 = 0) → xIs g3 l0 (0, 6) ∧ xIs g3 (g3.2 l0 1) (0, 1) ∧ Q (some (xi (w3 (g3.2 l0 1) 3))) g3 w3))) ∧
            ((60 ≤ l3) → Q (some (xi (-1000000002))) g2 w2))) ∧
        ((v1 = (-1)) → Q (some (xi (-1000000001))) g2 w2))))) :
    aFf_claim d lim Q 0 [xr l0, xi l1, xi l2, xi l3, none] [] g w := xAt_exec (cal_m d) kFf_claim 30 t
theorem eFf_claim {d : Nat} {Q : xQ} {l1 l2 l3 : Int} {l0 : Nat} {g : xG} {w : xW} (t : ∀ (lim : Nat × Nat) (Q2 : xQ), (∀ r g2 w2, g2.1 = g.1 → Q r g2 w2 → Q2 r g2 w2) → aFf_claim d lim Q2 0 [xr l0, xi l1, xi l2, xi l3, none] [] g w) : cal (d + 1) nFf_claim [xr l0, xi l1, xi l2, xi l3] g w Q := t _ _ xQof
abbrev aFf_forged (d : Nat) (lim : Nat × Nat) (Q : xQ) : xK := xAt xMks tFf_forged (cal d) lim Q
def kFf_forged : List (Nat × List Bool) := [(23, [true, true, true, true])]
set_option maxRecDepth 20000 in
theorem wFf_forged_0 {d : Nat} {lim : Nat × Nat} {Q : xQ} {l0 : Nat} {g : xG} {w : xW} (t : xIs g l0 (0, 6) ∧ xIs g (g.2 l0 1) (0, 1) ∧ 
  cal d nPp_latest [xr (g.2 l0 1)] g w (fun r g1 w1 => ∃ v1 : Int, r = some (xi v1) ∧ xIs g1 l0 (0, 6) ∧ xIs g1 l0 (0, 6) ∧ xIs g1 (g1.2 l0 5) (0, 3) ∧ 
    cal d nSt_copyFrom [xr (g1.2 l0 5), xr (g1.2 l0 11)] g1 w1 (fun r g2 w2 => r = none ∧ aFf_forged d lim Q 23 [xr l0, xi 0, xi v1, xi 0] [] g2 w2))) :
    aFf_forged d lim Q 0 [xr l0, none, none, none] [] g w := xAt_exec (cal_m d) kFf_forged 14 t
set_option maxRecDepth 20000 in
theorem wFf_forged_23 {d : Nat} {lim : Nat × Nat} {Q : xQ} {l1 l2 l3 : Int} {l0 : Nat} {g : xG} {w : xW} (t : 
  ((l2 < l3) → Q (some (xi l1)) g w) ∧
  ((l3 ≤ l2) → xIs g l0 (0, 6) ∧ xIs g l0 (0, 6) ∧ xIs g (g.2 l0 5) (0, 3) ∧ 
    cal d nSt_passMinute [xr (g.2 l0 5), xr (g.2 l0 9), xi (-1)] g w (fun r g1 w1 => r = none ∧ xIs g1 l0 (0, 6) ∧ xIs g1 l0 (0, 6) ∧ xIs g1 (g1.2 l0 1) (0, 1) ∧ 
      cal d nPp_notFeltAt [xr (g1.2 l0 1), xi l3, xr (g1.2 l0 5)] g1 w1 (fun r g2 w2 => ∃ v2 : Int, r = some (xi v2) ∧ x32 (l3 + 1) ∧ aFf_forged d lim Q 23 [xr l0, xi (xOr l1 v2), xi l2, xi (l3 + 1)] [] g2 w2)))) :
    aFf_forged d lim Q 23 [xr l0, xi l1, xi l2, xi l3] [] g w := xAt_exec (cal_m d) kFf_forged 21 t
theorem eFf_forged {d : Nat} {Q : xQ} {l0 : Nat} {g : xG} {w : xW} (t : ∀ (lim : Nat × Nat) (Q2 : xQ), (∀ r g2 w2, g2.1 = g.1 → Q r g2 w2 → Q2 r g2 w2) → aFf_forged d lim Q2 0 [xr l0, none, none, none] [] g w) : cal (d + 1) nFf_forged [xr l0] g w Q := t _ _ xQof
abbrev aFf_cold (d : Nat) (lim : Nat × Nat) (Q : xQ) : xK := xAt xMks tFf_cold (cal d) lim Q
def kFf_cold : List (Nat × List Bool) := []
set_option maxRecDepth 20000 in
theorem wFf_cold_0 {d : Nat} {lim : Nat × Nat} {Q : xQ} {l1 l2 : Int} {l0 : Nat} {g : xG} {w : xW} (t : 
  cal d nFf_isLaw [xi l1] g w (fun r g1 w1 => ∃ v1 : Int, r = some (xi v1) ∧ 
    ((v1 = 0) → Q (some (xi (-1000000002))) g1 w1) ∧
    ((¬ v1 = 0) → 
      cal d nFf_isSpan [xi l2] g1 w1 (fun r g2 w2 => ∃ v2 : Int, r = some (xi v2) ∧ 
        ((v2 = 0) → Q (some (xi (-1000000002))) g2 w2) ∧
        ((¬ v2 = 0) → xIs g2 l0 (0, 6) ∧ 
          cal d nFf_countFreezing [xr l0, xi l1, xi l2] g2 w2 (fun r g3 w3 => ∃ v3 : Int, r = some (xi v3) ∧ Q (some (xi v3)) g3 w3)))))) :
    aFf_cold d lim Q 0 [xr l0, xi l1, xi l2] [] g w := xAt_exec (cal_m d) kFf_cold 13 t
theorem eFf_cold {d : Nat} {Q : xQ} {l1 l2 : Int} {l0 : Nat} {g : xG} {w : xW} (t : ∀ (lim : Nat × Nat) (Q2 : xQ), (∀ r g2 w2, g2.1 = g.1 → Q r g2 w2 → Q2 r g2 w2) → aFf_cold d lim Q2 0 [xr l0, xi l1, xi l2] [] g w) : cal (d + 1) nFf_cold [xr l0, xi l1, xi l2] g w Q := t _ _ xQof
abbrev aFf_mildest (d : Nat) (lim : Nat × Nat) (Q : xQ) : xK := xAt xMks tFf_mildest (cal d) lim Q
def kFf_mildest : List (Nat × List Bool) := [(22, [true, true, true, true, true, false])]
set_option maxRecDepth 20000 in
theorem wFf_mildest_0 {d : Nat} {lim : Nat × Nat} {Q : xQ} {l1 : Int} {l0 : Nat} {g : xG} {w : xW} (t : 
  cal d nFf_isSpan [xi l1] g w (fun r g1 w1 => ∃ v1 : Int, r = some (xi v1) ∧ 
    ((¬ v1 = 0) → xIs g1 l0 (0, 6) ∧ 
      cal d nFf_countFreezing [xr l0, xi 0, xi l1] g1 w1 (fun r g2 w2 => ∃ v2 : Int, r = some (xi v2) ∧ aFf_mildest d lim Q 22 [xr l0, xi l1, xi 0, xi v2, xi 1, none] [] g2 w2)) ∧
    ((v1 = 0) → Q (some (xi (-1000000002))) g1 w1))) :
    aFf_mildest d lim Q 0 [xr l0, xi l1, none, none, none, none] [] g w := xAt_exec (cal_m d) kFf_mildest 13 t
set_option maxRecDepth 20000 in
theorem wFf_mildest_22 {d : Nat} {lim : Nat × Nat} {Q : xQ} {l1 l2 l3 l4 : Int} {l0 : Nat} {g : xG} {w : xW} (t : 
  ((3 < l4) → Q (some (xi l2)) g w) ∧
  ((l4 ≤ 3) → xIs g l0 (0, 6) ∧ 
    cal d nFf_countFreezing [xr l0, xi l4, xi l1] g w (fun r g1 w1 => ∃ v1 : Int, r = some (xi v1) ∧ 
      ((l3 ≤ v1) → x32 (l4 + 1) ∧ aFf_mildest d lim Q 22 [xr l0, xi l1, xi l2, xi l3, xi (l4 + 1), none] [] g1 w1) ∧
      ((v1 < l3) → x32 (l4 + 1) ∧ aFf_mildest d lim Q 22 [xr l0, xi l1, xi l4, xi v1, xi (l4 + 1), none] [] g1 w1)))) :
    aFf_mildest d lim Q 22 [xr l0, xi l1, xi l2, xi l3, xi l4, none] [] g w := xAt_exec (cal_m d) kFf_mildest 18 t
theorem eFf_mildest {d : Nat} {Q : xQ} {l1 : Int} {l0 : Nat} {g : xG} {w : xW} (t : ∀ (lim : Nat × Nat) (Q2 : xQ), (∀ r g2 w2, g2.1 = g.1 → Q r g2 w2 → Q2 r g2 w2) → aFf_mildest d lim Q2 0 [xr l0, xi l1, none, none, none, none] [] g w) : cal (d + 1) nFf_mildest [xr l0, xi l1] g w Q := t _ _ xQof
abbrev aFf_deed (d : Nat) (lim : Nat × Nat) (Q : xQ) : xK := xAt xMks tFf_deed (cal d) lim Q
def kFf_deed : List (Nat × List Bool) := []
set_option maxRecDepth 20000 in
theorem wFf_deed_0 {d : Nat} {lim : Nat × Nat} {Q : xQ} {l1 l2 l3 : Int} {l0 : Nat} {g : xG} {w : xW} (t : xIs g l0 (0, 6) ∧ xIs g (g.2 l0 9) (0, 5) ∧ 
  cal d nTw_cellOfPair [xr (g.2 l0 9), xi l2] g w (fun r g1 w1 => ∃ v1 : Int, r = some (xi v1) ∧ xIs g1 l0 (0, 6) ∧ 
    cal d nFf_isPerson [xr l0, xi l1] g1 w1 (fun r g2 w2 => ∃ v2 : Int, r = some (xi v2) ∧ 
      ((v2 = 0) → Q (some (xi (-1000000001))) g2 w2) ∧
      ((¬ v2 = 0) → 
        ((¬ v1 = (-1)) → 
          cal d nFf_isSpan [xi l3] g2 w2 (fun r g3 w3 => ∃ v3 : Int, r = some (xi v3) ∧ 
            ((¬ v3 = 0) → xIs g3 l0 (0, 6) ∧ xIs g3 (g3.2 l0 2) (0, 1) ∧ 
              cal d nPp_write [xr (g3.2 l0 2), xi l1, xi v1, xi l3] g3 w3 (fun r g4 w4 => ∃ v4 : Int, r = some (xi v4) ∧ 
                ((v4 = 0) → Q (some (xi (-1000000004))) g4 w4) ∧
                ((¬ v4 = 0) → xIs g4 l0 (0, 6) ∧ xIs g4 (g4.2 l0 2) (0, 1) ∧ Q (some (xi (w4 (g4.2 l0 2) 3))) g4 w4))) ∧
            ((v3 = 0) → Q (some (xi (-1000000002))) g3 w3))) ∧
        ((v1 = (-1)) → Q (some (xi (-1000000001))) g2 w2))))) :
    aFf_deed d lim Q 0 [xr l0, xi l1, xi l2, xi l3, none] [] g w := xAt_exec (cal_m d) kFf_deed 28 t
theorem eFf_deed {d : Nat} {Q : xQ} {l1 l2 l3 : Int} {l0 : Nat} {g : xG} {w : xW} (t : ∀ (lim : Nat × Nat) (Q2 : xQ), (∀ r g2 w2, g2.1 = g.1 → Q r g2 w2 → Q2 r g2 w2) → aFf_deed d lim Q2 0 [xr l0, xi l1, xi l2, xi l3, none] [] g w) : cal (d + 1) nFf_deed [xr l0, xi l1, xi l2, xi l3] g w Q := t _ _ xQof
abbrev aFf_wasLit (d : Nat) (lim : Nat × Nat) (Q : xQ) : xK := xAt xMks tFf_wasLit (cal d) lim Q
def kFf_wasLit : List (Nat × List Bool) := [(41, [true, true, true, true, true]), (69, [true, true, true, true, true]), (108, [false, false, true, true, false])]
set_option maxRecDepth 20000 in
theorem wFf_wasLit_0 {d : Nat} {lim : Nat × Nat} {Q : xQ} {l1 l2 : Int} {l0 : Nat} {g : xG} {w : xW} (t : xIs g l0 (0, 6) ∧ 
  cal d nFf_isStove [xr l0, xi l1] g w (fun r g1 w1 => ∃ v1 : Int, r = some (xi v1) ∧ 
    ((¬ v1 = 0) → xIs g1 l0 (0, 6) ∧ xIs g1 (g1.2 l0 11) (0, 3) ∧ 
      cal d nSt_canBeLit [xr (g1.2 l0 11), xi l1] g1 w1 (fun r g2 w2 => ∃ v2 : Int, r = some (xi v2) ∧ 
        ((¬ v2 = 0) → xIs g2 l0 (0, 6) ∧ xIs g2 l0 (0, 6) ∧ xIs g2 (g2.2 l0 6) (0, 3) ∧ 
          cal d nSt_copyFrom [xr (g2.2 l0 6), xr (g2.2 l0 11)] g2 w2 (fun r g3 w3 => r = none ∧ aFf_wasLit d lim Q 41 [xr l0, xi l1, xi l2, xi 0, xi 0] [] g3 w3)) ∧
        ((v2 = 0) → Q (some (xi (-1000000003))) g2 w2))) ∧
    ((v1 = 0) → Q (some (xi (-1000000001))) g1 w1))) :
    aFf_wasLit d lim Q 0 [xr l0, xi l1, xi l2, none, none] [] g w := xAt_exec (cal_m d) kFf_wasLit 19 t
set_option maxRecDepth 20000 in
theorem wFf_wasLit_41 {d : Nat} {lim : Nat × Nat} {Q : xQ} {l1 l2 l3 l4 : Int} {l0 : Nat} {g : xG} {w : xW} (t : 
  ((60 ≤ l4) → aFf_wasLit d lim Q 108 [none, none, xi l2, xi l3, none] [] g w) ∧
  ((l4 < 60) → xIs g l0 (0, 6) ∧ 
    cal d nFf_fitsLitNow [xr l0, xi l1, xi l4] g w (fun r g1 w1 => ∃ v1 : Int, r = some (xi v1) ∧ 
      ((v1 = 0) → aFf_wasLit d lim Q 69 [xr l0, xi l1, xi l2, xi l3, xi l4] [] g1 w1) ∧
      ((¬ v1 = 0) → 
        ((¬ l3 = l2) → x32 (l3 + 1) ∧ aFf_wasLit d lim Q 69 [xr l0, xi l1, xi l2, xi (l3 + 1), xi l4] [] g1 w1) ∧
        ((l3 = l2) → Q (some (xi l4)) g1 w1))))) :
    aFf_wasLit d lim Q 41 [xr l0, xi l1, xi l2, xi l3, xi l4] [] g w := xAt_exec (cal_m d) kFf_wasLit 14 t
set_option maxRecDepth 20000 in
theorem wFf_wasLit_69 {d : Nat} {lim : Nat × Nat} {Q : xQ} {l1 l2 l3 l4 : Int} {l0 : Nat} {g : xG} {w : xW} (t : xIs g l0 (0, 6) ∧ xIs g l0 (0, 6) ∧ xIs g (g.2 l0 6) (0, 3) ∧ 
  cal d nSt_passMinute [xr (g.2 l0 6), xr (g.2 l0 9), xi (-1)] g w (fun r g1 w1 => r = none ∧ xIs g1 l0 (0, 6) ∧ x32 (l4 + 1) ∧ xIs g1 l0 (0, 6) ∧ xIs g1 (g1.2 l0 2) (0, 1) ∧ 
    cal d nPp_ownedAt [xr (g1.2 l0 2), xi (l4 + 1), xr (g1.2 l0 6)] g1 w1 (fun r g2 w2 => ∃ v2 : Int, r = some (xi v2) ∧ 
      ((¬ v2 = 0) → x32 (l4 + 1) ∧ aFf_wasLit d lim Q 41 [xr l0, xi l1, xi l2, xi l3, xi (l4 + 1)] [] g2 w2) ∧
      ((v2 = 0) → aFf_wasLit d lim Q 108 [none, none, xi l2, xi l3, none] [] g2 w2)))) :
    aFf_wasLit d lim Q 69 [xr l0, xi l1, xi l2, xi l3, xi l4] [] g w := xAt_exec (cal_m d) kFf_wasLit 18 t
set_option maxRecDepth 20000 in
theorem wFf_wasLit_108 {d : Nat} {lim : Nat × Nat} {Q : xQ} {l2 l3 : Int} {g : xG} {w : xW} (t : 
  ((¬ l2 = (-1)) → Q (some (xi (-1))) g w) ∧
  ((l2 = (-1)) → Q (some (xi l3)) g w)) :
    aFf_wasLit d lim Q 108 [none, none, xi l2, xi l3, none] [] g w := xAt_exec (cal_m d) kFf_wasLit 7 t
theorem eFf_wasLit {d : Nat} {Q : xQ} {l1 l2 : Int} {l0 : Nat} {g : xG} {w : xW} (t : ∀ (lim : Nat × Nat) (Q2 : xQ), (∀ r g2 w2, g2.1 = g.1 → Q r g2 w2 → Q2 r g2 w2) → aFf_wasLit d lim Q2 0 [xr l0, xi l1, xi l2, none, none] [] g w) : cal (d + 1) nFf_wasLit [xr l0, xi l1, xi l2] g w Q := t _ _ xQof
abbrev aFf_tear (d : Nat) (lim : Nat × Nat) (Q : xQ) : xK := xAt xMks tFf_tear (cal d) lim Q
def kFf_tear : List (Nat × List Bool) := []
set_option maxRecDepth 20000 in
theorem wFf_tear_0 {d : Nat} {lim : Nat × Nat} {Q : xQ} {l0 : Nat} {g : xG} {w : xW} (t : xIs g l0 (0, 6) ∧ xIs g (g.2 l0 1) (0, 1) ∧ xIs g l0 (0, 6) ∧ xIs g (g.2 l0 2) (0, 1) ∧ x32 ((w (g.2 l0 1) 3) + (w (g.2 l0 2) 3)) ∧ xIs g l0 (0, 6) ∧ xIs g (g.2 l0 1) (0, 1) ∧ xIs g l0 (0, 6) ∧ xIs g (g.2 l0 2) (0, 1) ∧ Q (some (xi ((w (g.2 l0 1) 3) + (w (g.2 l0 2) 3)))) g (xup (xup w (g.2 l0 1) 3 0) (g.2 l0 2) 3 0)) :
    aFf_tear d lim Q 0 [xr l0, none] [] g w := xAt_exec (cal_m d) kFf_tear 19 t
theorem eFf_tear {d : Nat} {Q : xQ} {l0 : Nat} {g : xG} {w : xW} (t : ∀ (lim : Nat × Nat) (Q2 : xQ), (∀ r g2 w2, g2.1 = g.1 → Q r g2 w2 → Q2 r g2 w2) → aFf_tear d lim Q2 0 [xr l0, none] [] g w) : cal (d + 1) nFf_tear [xr l0] g w Q := t _ _ xQof
abbrev aFf_seed (d : Nat) (lim : Nat × Nat) (Q : xQ) : xK := xAt xMks tFf_seed (cal d) lim Q
def kFf_seed : List (Nat × List Bool) := []
set_option maxRecDepth 20000 in
theorem wFf_seed_0 {d : Nat} {lim : Nat × Nat} {Q : xQ} {l1 : Int} {l0 : Nat} {g : xG} {w : xW} (t : 
  ((0 ≤ l1) → xIs g l0 (0, 6) ∧ xIs g (g.2 l0 11) (0, 3) ∧ xIs g l0 (0, 6) ∧ xIs g (g.2 l0 11) (0, 3) ∧ Q (some (xi (w (g.2 l0 11) 17))) g (xup w (g.2 l0 11) 17 l1)) ∧
  ((l1 < 0) → Q (some (xi (-1000000002))) g w)) :
    aFf_seed d lim Q 0 [xr l0, xi l1, none] [] g w := xAt_exec (cal_m d) kFf_seed 13 t
theorem eFf_seed {d : Nat} {Q : xQ} {l1 : Int} {l0 : Nat} {g : xG} {w : xW} (t : ∀ (lim : Nat × Nat) (Q2 : xQ), (∀ r g2 w2, g2.1 = g.1 → Q r g2 w2 → Q2 r g2 w2) → aFf_seed d lim Q2 0 [xr l0, xi l1, none] [] g w) : cal (d + 1) nFf_seed [xr l0, xi l1] g w Q := t _ _ xQof
abbrev aFf_keep (d : Nat) (lim : Nat × Nat) (Q : xQ) : xK := xAt xMks tFf_keep (cal d) lim Q
def kFf_keep : List (Nat × List Bool) := []
set_option maxRecDepth 20000 in
theorem wFf_keep_0 {d : Nat} {lim : Nat × Nat} {Q : xQ} {l1 : Int} {l0 : Nat} {g : xG} {w : xW} (t : 
  ((l1 < 0) → Q (some (xi (-1000000001))) g w) ∧
  ((0 ≤ l1) → 
    ((l1 < 2) → xIs g l0 (0, 6) ∧ xA3 g (g.2 l0 3) l1 ∧ xIs g l0 (0, 6) ∧ xIs g (g.2 (g.2 l0 3) (Int.toNat l1)) (0, 3) ∧ 
      cal d nSt_copyFrom [xr (g.2 (g.2 l0 3) (Int.toNat l1)), xr (g.2 l0 11)] g w (fun r g1 w1 => r = none ∧ xIs g1 l0 (0, 6) ∧ xA1 g1 (g1.2 l0 4) l1 ∧ Q (some (xi 1)) g1 (xup w1 (g1.2 l0 4) (Int.toNat l1) 1))) ∧
    ((2 ≤ l1) → Q (some (xi (-1000000001))) g w))) :
    aFf_keep d lim Q 0 [xr l0, xi l1] [] g w := xAt_exec (cal_m d) kFf_keep 20 t
theorem eFf_keep {d : Nat} {Q : xQ} {l1 : Int} {l0 : Nat} {g : xG} {w : xW} (t : ∀ (lim : Nat × Nat) (Q2 : xQ), (∀ r g2 w2, g2.1 = g.1 → Q r g2 w2 → Q2 r g2 w2) → aFf_keep d lim Q2 0 [xr l0, xi l1] [] g w) : cal (d + 1) nFf_keep [xr l0, xi l1] g w Q := t _ _ xQof
abbrev aFf_goBack (d : Nat) (lim : Nat × Nat) (Q : xQ) : xK := xAt xMks tFf_goBack (cal d) lim Q
def kFf_goBack : List (Nat × List Bool) := []
set_option maxRecDepth 20000 in
theorem wFf_goBack_0 {d : Nat} {lim : Nat × Nat} {Q : xQ} {l1 : Int} {l0 : Nat} {g : xG} {w : xW} (t : 
  ((l1 < 0) → Q (some (xi (-1000000001))) g w) ∧
  ((0 ≤ l1) → 
    ((l1 < 2) → xIs g l0 (0, 6) ∧ xAr g (g.2 l0 4) l1 ∧ 
      ((¬ (w (g.2 l0 4) (Int.toNat l1)) = 0) → xIs g l0 (0, 6) ∧ xIs g l0 (0, 6) ∧ xA3 g (g.2 l0 3) l1 ∧ xIs g (g.2 l0 11) (0, 3) ∧ 
        cal d nSt_copyFrom [xr (g.2 l0 11), xr (g.2 (g.2 l0 3) (Int.toNat l1))] g w (fun r g1 w1 => r = none ∧ Q (some (xi 1)) g1 w1)) ∧
      (((w (g.2 l0 4) (Int.toNat l1)) = 0) → Q (some (xi (-1000000003))) g w)) ∧
    ((2 ≤ l1) → Q (some (xi (-1000000001))) g w))) :
    aFf_goBack d lim Q 0 [xr l0, xi l1] [] g w := xAt_exec (cal_m d) kFf_goBack 20 t
theorem eFf_goBack {d : Nat} {Q : xQ} {l1 : Int} {l0 : Nat} {g : xG} {w : xW} (t : ∀ (lim : Nat × Nat) (Q2 : xQ), (∀ r g2 w2, g2.1 = g.1 → Q r g2 w2 → Q2 r g2 w2) → aFf_goBack d lim Q2 0 [xr l0, xi l1] [] g w) : cal (d + 1) nFf_goBack [xr l0, xi l1] g w Q := t _ _ xQof
abbrev aFf_isPerson (d : Nat) (lim : Nat × Nat) (Q : xQ) : xK := xAt xMks tFf_isPerson (cal d) lim Q
def kFf_isPerson : List (Nat × List Bool) := []
set_option maxRecDepth 20000 in
theorem wFf_isPerson_0 {d : Nat} {lim : Nat × Nat} {Q : xQ} {l1 : Int} {l0 : Nat} {g : xG} {w : xW} (t : 
  ((l1 < 0) → ((0 : Int) = 0 ∨ (0 : Int) = 1) ∧ Q (some (xi 0)) g w) ∧
  ((0 ≤ l1) → xIs g l0 (0, 6) ∧ xIs g (g.2 l0 9) (0, 5) ∧ 
    (((w (g.2 l0 9) 5) ≤ l1) → ((0 : Int) = 0 ∨ (0 : Int) = 1) ∧ Q (some (xi 0)) g w) ∧
    ((l1 < (w (g.2 l0 9) 5)) → ((1 : Int) = 0 ∨ (1 : Int) = 1) ∧ Q (some (xi 1)) g w))) :
    aFf_isPerson d lim Q 0 [xr l0, xi l1] [] g w := xAt_exec (cal_m d) kFf_isPerson 11 t
theorem eFf_isPerson {d : Nat} {Q : xQ} {l1 : Int} {l0 : Nat} {g : xG} {w : xW} (t : ∀ (lim : Nat × Nat) (Q2 : xQ), (∀ r g2 w2, g2.1 = g.1 → Q r g2 w2 → Q2 r g2 w2) → aFf_isPerson d lim Q2 0 [xr l0, xi l1] [] g w) : cal (d + 1) nFf_isPerson [xr l0, xi l1] g w Q := t _ _ xQof
abbrev aFf_isStove (d : Nat) (lim : Nat × Nat) (Q : xQ) : xK := xAt xMks tFf_isStove (cal d) lim Q
def kFf_isStove : List (Nat × List Bool) := []
set_option maxRecDepth 20000 in
theorem wFf_isStove_0 {d : Nat} {lim : Nat × Nat} {Q : xQ} {l1 : Int} {l0 : Nat} {g : xG} {w : xW} (t : 
  ((l1 < 0) → ((0 : Int) = 0 ∨ (0 : Int) = 1) ∧ Q (some (xi 0)) g w) ∧
  ((0 ≤ l1) → xIs g l0 (0, 6) ∧ xIs g (g.2 l0 9) (0, 5) ∧ 
    (((w (g.2 l0 9) 2) ≤ l1) → ((0 : Int) = 0 ∨ (0 : Int) = 1) ∧ Q (some (xi 0)) g w) ∧
    ((l1 < (w (g.2 l0 9) 2)) → ((1 : Int) = 0 ∨ (1 : Int) = 1) ∧ Q (some (xi 1)) g w))) :
    aFf_isStove d lim Q 0 [xr l0, xi l1] [] g w := xAt_exec (cal_m d) kFf_isStove 11 t
theorem eFf_isStove {d : Nat} {Q : xQ} {l1 : Int} {l0 : Nat} {g : xG} {w : xW} (t : ∀ (lim : Nat × Nat) (Q2 : xQ), (∀ r g2 w2, g2.1 = g.1 → Q r g2 w2 → Q2 r g2 w2) → aFf_isStove d lim Q2 0 [xr l0, xi l1] [] g w) : cal (d + 1) nFf_isStove [xr l0, xi l1] g w Q := t _ _ xQof
abbrev aFf_isLaw (d : Nat) (lim : Nat × Nat) (Q : xQ) : xK := xAt xMks tFf_isLaw (cal d) lim Q
def kFf_isLaw : List (Nat × List Bool) := []
set_option maxRecDepth 20000 in
theorem wFf_isLaw_0 {d : Nat} {lim : Nat × Nat} {Q : xQ} {l0 : Int} {g : xG} {w : xW} (t : 
  ((l0 < 0) → ((0 : Int) = 0 ∨ (0 : Int) = 1) ∧ Q (some (xi 0)) g w) ∧
  ((0 ≤ l0) → 
    ((3 < l0) → ((0 : Int) = 0 ∨ (0 : Int) = 1) ∧ Q (some (xi 0)) g w) ∧
    ((l0 ≤ 3) → ((1 : Int) = 0 ∨ (1 : Int) = 1) ∧ Q (some (xi 1)) g w))) :
    aFf_isLaw d lim Q 0 [xi l0] [] g w := xAt_exec (cal_m d) kFf_isLaw 9 t
theorem eFf_isLaw {d : Nat} {Q : xQ} {l0 : Int} {g : xG} {w : xW} (t : ∀ (lim : Nat × Nat) (Q2 : xQ), (∀ r g2 w2, g2.1 = g.1 → Q r g2 w2 → Q2 r g2 w2) → aFf_isLaw d lim Q2 0 [xi l0] [] g w) : cal (d + 1) nFf_isLaw [xi l0] g w Q := t _ _ xQof
abbrev aFf_isSpan (d : Nat) (lim : Nat × Nat) (Q : xQ) : xK := xAt xMks tFf_isSpan (cal d) lim Q
def kFf_isSpan : List (Nat × List Bool) := []
set_option maxRecDepth 20000 in
theorem wFf_isSpan_0 {d : Nat} {lim : Nat × Nat} {Q : xQ} {l0 : Int} {g : xG} {w : xW} (t : 
  ((l0 < 1) → ((0 : Int) = 0 ∨ (0 : Int) = 1) ∧ Q (some (xi 0)) g w) ∧
  ((1 ≤ l0) → 
    ((60 < l0) → ((0 : Int) = 0 ∨ (0 : Int) = 1) ∧ Q (some (xi 0)) g w) ∧
    ((l0 ≤ 60) → ((1 : Int) = 0 ∨ (1 : Int) = 1) ∧ Q (some (xi 1)) g w))) :
    aFf_isSpan d lim Q 0 [xi l0] [] g w := xAt_exec (cal_m d) kFf_isSpan 10 t
theorem eFf_isSpan {d : Nat} {Q : xQ} {l0 : Int} {g : xG} {w : xW} (t : ∀ (lim : Nat × Nat) (Q2 : xQ), (∀ r g2 w2, g2.1 = g.1 → Q r g2 w2 → Q2 r g2 w2) → aFf_isSpan d lim Q2 0 [xi l0] [] g w) : cal (d + 1) nFf_isSpan [xi l0] g w Q := t _ _ xQof
abbrev aFf_refusalOfWall (d : Nat) (lim : Nat × Nat) (Q : xQ) : xK := xAt xMks tFf_refusalOfWall (cal d) lim Q
def kFf_refusalOfWall : List (Nat × List Bool) := []
set_option maxRecDepth 20000 in
theorem wFf_refusalOfWall_0 {d : Nat} {lim : Nat × Nat} {Q : xQ} {l1 l2 l3 : Int} {l0 : Nat} {g : xG} {w : xW} (t : xIs g l0 (0, 6) ∧ xIs g (g.2 l0 9) (0, 5) ∧ 
  cal d nTw_cellAt [xr (g.2 l0 9), xi l1, xi l2] g w (fun r g1 w1 => ∃ v1 : Int, r = some (xi v1) ∧ 
    ((¬ v1 = (-1)) → 
      ((l3 < 0) → Q (some (xi (-1000000002))) g1 w1) ∧
      ((0 ≤ l3) → 
        ((l3 ≤ 1) → xIs g1 l0 (0, 6) ∧ 
          cal d nFf_wayOfWall [xi l3] g1 w1 (fun r g2 w2 => ∃ v2 : Int, r = some (xi v2) ∧ xIs g2 (g1.2 l0 9) (0, 5) ∧ 
            cal d nTw_beside [xr (g1.2 l0 9), xi v1, xi v2] g2 w2 (fun r g3 w3 => ∃ v3 : Int, r = some (xi v3) ∧ 
              ((¬ v3 = (-1)) → Q (some (xi 0)) g3 w3) ∧
              ((v3 = (-1)) → Q (some (xi (-1000000001))) g3 w3)))) ∧
        ((1 < l3) → Q (some (xi (-1000000002))) g1 w1))) ∧
    ((v1 = (-1)) → Q (some (xi (-1000000001))) g1 w1))) :
    aFf_refusalOfWall d lim Q 0 [xr l0, xi l1, xi l2, xi l3, none] [] g w := xAt_exec (cal_m d) kFf_refusalOfWall 26 t
theorem eFf_refusalOfWall {d : Nat} {Q : xQ} {l1 l2 l3 : Int} {l0 : Nat} {g : xG} {w : xW} (t : ∀ (lim : Nat × Nat) (Q2 : xQ), (∀ r g2 w2, g2.1 = g.1 → Q r g2 w2 → Q2 r g2 w2) → aFf_refusalOfWall d lim Q2 0 [xr l0, xi l1, xi l2, xi l3, none] [] g w) : cal (d + 1) nFf_refusalOfWall [xr l0, xi l1, xi l2, xi l3] g w Q := t _ _ xQof
abbrev aFf_refusalOfMinutes (d : Nat) (lim : Nat × Nat) (Q : xQ) : xK := xAt xMks tFf_refusalOfMinutes (cal d) lim Q
def kFf_refusalOfMinutes : List (Nat × List Bool) := []
set_option maxRecDepth 20000 in
theorem wFf_refusalOfMinutes_0 {d : Nat} {lim : Nat × Nat} {Q : xQ} {l1 : Int} {l0 : Nat} {g : xG} {w : xW} (t : 
  cal d nFf_isSpan [xi l1] g w (fun r g1 w1 => ∃ v1 : Int, r = some (xi v1) ∧ 
    ((¬ v1 = 0) → xIs g1 l0 (0, 6) ∧ xIs g1 (g1.2 l0 9) (0, 5) ∧ 
      cal d nTw_cells [xr (g1.2 l0 9)] g1 w1 (fun r g2 w2 => ∃ v2 : Int, r = some (xi v2) ∧ 
        ((¬ v2 = 0) → xIs g2 l0 (0, 6) ∧ xIs g2 (g2.2 l0 11) (0, 3) ∧ 
          (((w2 (g2.2 l0 11) 16) ≤ 900000) → Q (some (xi 0)) g2 w2) ∧
          ((900000 < (w2 (g2.2 l0 11) 16)) → Q (some (xi (-1000000004))) g2 w2)) ∧
        ((v2 = 0) → Q (some (xi (-1000000003))) g2 w2))) ∧
    ((v1 = 0) → Q (some (xi (-1000000002))) g1 w1))) :
    aFf_refusalOfMinutes d lim Q 0 [xr l0, xi l1] [] g w := xAt_exec (cal_m d) kFf_refusalOfMinutes 16 t
theorem eFf_refusalOfMinutes {d : Nat} {Q : xQ} {l1 : Int} {l0 : Nat} {g : xG} {w : xW} (t : ∀ (lim : Nat × Nat) (Q2 : xQ), (∀ r g2 w2, g2.1 = g.1 → Q r g2 w2 → Q2 r g2 w2) → aFf_refusalOfMinutes d lim Q2 0 [xr l0, xi l1] [] g w) : cal (d + 1) nFf_refusalOfMinutes [xr l0, xi l1] g w Q := t _ _ xQof
abbrev aFf_refusalOfLighting (d : Nat) (lim : Nat × Nat) (Q : xQ) : xK := xAt xMks tFf_refusalOfLighting (cal d) lim Q
def kFf_refusalOfLighting : List (Nat × List Bool) := []
set_option maxRecDepth 20000 in
theorem wFf_refusalOfLighting_0 {d : Nat} {lim : Nat × Nat} {Q : xQ} {l1 l2 l3 : Int} {l0 : Nat} {g : xG} {w : xW} (t : xIs g l0 (0, 6) ∧ 
  cal d nFf_isPerson [xr l0, xi l1] g w (fun r g1 w1 => ∃ v1 : Int, r = some (xi v1) ∧ 
    ((v1 = 0) → Q (some (xi (-1000000001))) g1 w1) ∧
    ((¬ v1 = 0) → xIs g1 l0 (0, 6) ∧ 
      cal d nFf_isStove [xr l0, xi l2] g1 w1 (fun r g2 w2 => ∃ v2 : Int, r = some (xi v2) ∧ 
        ((¬ v2 = 0) → 
          ((l3 < 1) → Q (some (xi (-1000000002))) g2 w2) ∧
          ((1 ≤ l3) → 
            ((l3 ≤ 30) → xIs g2 l0 (0, 6) ∧ xIs g2 (g2.2 l0 11) (0, 3) ∧ 
              cal d nSt_canBeLit [xr (g2.2 l0 11), xi l2] g2 w2 (fun r g3 w3 => ∃ v3 : Int, r = some (xi v3) ∧ 
                ((v3 = 0) → Q (some (xi (-1000000003))) g3 w3) ∧
                ((¬ v3 = 0) → Q (some (xi 0)) g3 w3))) ∧
            ((30 < l3) → Q (some (xi (-1000000002))) g2 w2))) ∧
        ((v2 = 0) → Q (some (xi (-1000000001))) g2 w2))))) :
    aFf_refusalOfLighting d lim Q 0 [xr l0, xi l1, xi l2, xi l3] [] g w := xAt_exec (cal_m d) kFf_refusalOfLighting 23 t
theorem eFf_refusalOfLighting {d : Nat} {Q : xQ} {l1 l2 l3 : Int} {l0 : Nat} {g : xG} {w : xW} (t : ∀ (lim : Nat × Nat) (Q2 : xQ), (∀ r g2 w2, g2.1 = g.1 → Q r g2 w2 → Q2 r g2 w2) → aFf_refusalOfLighting d lim Q2 0 [xr l0, xi l1, xi l2, xi l3] [] g w) : cal (d + 1) nFf_refusalOfLighting [xr l0, xi l1, xi l2, xi l3] g w Q := t _ _ xQof
abbrev aFf_wayOfWall (d : Nat) (lim : Nat × Nat) (Q : xQ) : xK := xAt xMks tFf_wayOfWall (cal d) lim Q
def kFf_wayOfWall : List (Nat × List Bool) := []
set_option maxRecDepth 20000 in
theorem wFf_wayOfWall_0 {d : Nat} {lim : Nat × Nat} {Q : xQ} {l0 : Int} {g : xG} {w : xW} (t : 
  ((¬ l0 = 0) → Q (some (xi 3)) g w) ∧
  ((l0 = 0) → Q (some (xi 2)) g w)) :
    aFf_wayOfWall d lim Q 0 [xi l0] [] g w := xAt_exec (cal_m d) kFf_wayOfWall 6 t
theorem eFf_wayOfWall {d : Nat} {Q : xQ} {l0 : Int} {g : xG} {w : xW} (t : ∀ (lim : Nat × Nat) (Q2 : xQ), (∀ r g2 w2, g2.1 = g.1 → Q r g2 w2 → Q2 r g2 w2) → aFf_wayOfWall d lim Q2 0 [xi l0] [] g w) : cal (d + 1) nFf_wayOfWall [xi l0] g w Q := t _ _ xQof
abbrev aFf_wander (d : Nat) (lim : Nat × Nat) (Q : xQ) : xK := xAt xMks tFf_wander (cal d) lim Q
def kFf_wander : List (Nat × List Bool) := [(2, [true, true, false])]
set_option maxRecDepth 20000 in
theorem wFf_wander_0 {d : Nat} {lim : Nat × Nat} {Q : xQ} {l0 : Nat} {g : xG} {w : xW} (t : aFf_wander d lim Q 2 [xr l0, xi 0, none] [] g w) :
    aFf_wander d lim Q 0 [xr l0, none, none] [] g w := xAt_exec (cal_m d) kFf_wander 3 t
set_option maxRecDepth 20000 in
theorem wFf_wander_2 {d : Nat} {lim : Nat × Nat} {Q : xQ} {l1 : Int} {l0 : Nat} {g : xG} {w : xW} (t : xIs g l0 (0, 6) ∧ xIs g (g.2 l0 9) (0, 5) ∧ 
  (((w (g.2 l0 9) 5) ≤ l1) → xIs g l0 (0, 6) ∧ xIs g (g.2 l0 11) (0, 3) ∧ 
    cal d nSt_draw [xr (g.2 l0 11), xi 20] g w (fun r g1 w1 => ∃ v1 : Int, r = some (xi v1) ∧ 
      ((¬ v1 = 0) → Q none g1 w1) ∧
      ((v1 = 0) → xIs g1 l0 (0, 6) ∧ xIs g1 (g1.2 l0 9) (0, 5) ∧ 
        (((w1 (g1.2 l0 9) 2) ≤ 0) → Q none g1 w1) ∧
        ((0 < (w1 (g1.2 l0 9) 2)) → xIs g1 l0 (0, 6) ∧ xIs g1 l0 (0, 6) ∧ xIs g1 (g1.2 l0 9) (0, 5) ∧ xIs g1 (g1.2 l0 11) (0, 3) ∧ 
          cal d nSt_draw [xr (g1.2 l0 11), xi (w1 (g1.2 l0 9) 2)] g1 w1 (fun r g2 w2 => ∃ v2 : Int, r = some (xi v2) ∧ xIs g2 l0 (0, 6) ∧ xIs g2 (g2.2 l0 11) (0, 3) ∧ 
            cal d nSt_canBeLit [xr (g2.2 l0 11), xi v2] g2 w2 (fun r g3 w3 => ∃ v3 : Int, r = some (xi v3) ∧ 
              ((v3 = 0) → Q none g3 w3) ∧
              ((¬ v3 = 0) → xIs g3 l0 (0, 6) ∧ xIs g3 (g3.2 l0 11) (0, 3) ∧ xA1 g3 (g3.2 (g3.2 l0 11) 6) v2 ∧ Q none g3 (xup w3 (g3.2 (g3.2 l0 11) 6) (Int.toNat v2) 1)))))))) ∧
  ((l1 < (w (g.2 l0 9) 5)) → xIs g l0 (0, 6) ∧ xIs g l0 (0, 6) ∧ xIs g l0 (0, 6) ∧ xIs g (g.2 l0 11) (0, 3) ∧ xAr g (g.2 (g.2 l0 11) 7) l1 ∧ xIs g l0 (0, 6) ∧ xIs g (g.2 l0 11) (0, 3) ∧ 
    cal d nSt_draw [xr (g.2 l0 11), xi 5] g w (fun r g4 w4 => ∃ v4 : Int, r = some (xi v4) ∧ xIs g4 (g.2 l0 11) (0, 3) ∧ 
      cal d nSt_reach [xr (g.2 l0 11), xr (g.2 l0 9), xi (w (g.2 (g.2 l0 11) 7) (Int.toNat l1)), xi v4] g4 w4 (fun r g5 w5 => ∃ v5 : Int, r = some (xi v5) ∧ 
        ((v5 = (-1)) → x32 (l1 + 1) ∧ aFf_wander d lim Q 2 [xr l0, xi (l1 + 1), none] [] g5 w5) ∧
        ((¬ v5 = (-1)) → xIs g5 l0 (0, 6) ∧ xIs g5 (g5.2 l0 11) (0, 3) ∧ xA1 g5 (g5.2 (g5.2 l0 11) 7) l1 ∧ x32 (l1 + 1) ∧ aFf_wander d lim Q 2 [xr l0, xi (l1 + 1), none] [] g5 (xup w5 (g5.2 (g5.2 l0 11) 7) (Int.toNat l1) v5)))))) :
    aFf_wander d lim Q 2 [xr l0, xi l1, none] [] g w := xAt_exec (cal_m d) kFf_wander 34 t
theorem eFf_wander {d : Nat} {Q : xQ} {l0 : Nat} {g : xG} {w : xW} (t : ∀ (lim : Nat × Nat) (Q2 : xQ), (∀ r g2 w2, g2.1 = g.1 → Q r g2 w2 → Q2 r g2 w2) → aFf_wander d lim Q2 0 [xr l0, none, none] [] g w) : cal (d + 1) nFf_wander [xr l0] g w Q := t _ _ xQof
abbrev aFf_ownsStove (d : Nat) (lim : Nat × Nat) (Q : xQ) : xK := xAt xMks tFf_ownsStove (cal d) lim Q
def kFf_ownsStove : List (Nat × List Bool) := []
set_option maxRecDepth 20000 in
theorem wFf_ownsStove_0 {d : Nat} {lim : Nat × Nat} {Q : xQ} {l2 l3 l4 l5 : Int} {l0 l1 : Nat} {g : xG} {w : xW} (t : xIs g l0 (0, 6) ∧ xIs g (g.2 l0 5) (0, 3) ∧ 
  cal d nSt_copyFrom [xr (g.2 l0 5), xr l1] g w (fun r g1 w1 => r = none ∧ xIs g1 l0 (0, 6) ∧ xIs g1 (g1.2 l0 5) (0, 3) ∧ xA1 g1 (g1.2 (g1.2 l0 5) 6) l3 ∧ xIs g1 l0 (0, 6) ∧ xIs g1 l0 (0, 6) ∧ xIs g1 (g1.2 l0 5) (0, 3) ∧ 
    cal d nSt_passMinutes [xr (g1.2 l0 5), xr (g1.2 l0 9), xi l4, xi l5] g1 (xup w1 (g1.2 (g1.2 l0 5) 6) (Int.toNat l3) 1) (fun r g2 w2 => r = none ∧ xIs g2 l0 (0, 6) ∧ xIs g2 (g2.2 l0 5) (0, 3) ∧ xIs g2 l0 (0, 6) ∧ xIs g2 (g2.2 l0 9) (0, 5) ∧ xAr g2 (g2.2 (g2.2 l0 9) 9) l3 ∧ xAr g2 (g2.2 (g2.2 l0 5) 2) (w2 (g2.2 (g2.2 l0 9) 9) (Int.toNat l3)) ∧ 
      ((¬ (w2 (g2.2 (g2.2 l0 5) 2) (Int.toNat (w2 (g2.2 (g2.2 l0 9) 9) (Int.toNat l3)))) = l2) → ((0 : Int) = 0 ∨ (0 : Int) = 1) ∧ Q (some (xi 0)) g2 w2) ∧
      (((w2 (g2.2 (g2.2 l0 5) 2) (Int.toNat (w2 (g2.2 (g2.2 l0 9) 9) (Int.toNat l3)))) = l2) → ((1 : Int) = 0 ∨ (1 : Int) = 1) ∧ Q (some (xi 1)) g2 w2)))) :
    aFf_ownsStove d lim Q 0 [xr l0, xr l1, xi l2, xi l3, xi l4, xi l5] [] g w := xAt_exec (cal_m d) kFf_ownsStove 32 t
theorem eFf_ownsStove {d : Nat} {Q : xQ} {l2 l3 l4 l5 : Int} {l0 l1 : Nat} {g : xG} {w : xW} (t : ∀ (lim : Nat × Nat) (Q2 : xQ), (∀ r g2 w2, g2.1 = g.1 → Q r g2 w2 → Q2 r g2 w2) → aFf_ownsStove d lim Q2 0 [xr l0, xr l1, xi l2, xi l3, xi l4, xi l5] [] g w) : cal (d + 1) nFf_ownsStove [xr l0, xr l1, xi l2, xi l3, xi l4, xi l5] g w Q := t _ _ xQof
abbrev aFf_ownedWithWall (d : Nat) (lim : Nat × Nat) (Q : xQ) : xK := xAt xMks tFf_ownedWithWall (cal d) lim Q
def kFf_ownedWithWall : List (Nat × List Bool) := []
set_option maxRecDepth 20000 in
theorem wFf_ownedWithWall_0 {d : Nat} {lim : Nat × Nat} {Q : xQ} {l1 l2 l3 l4 l5 : Int} {l0 : Nat} {g : xG} {w : xW} (t : xIs g l0 (0, 6) ∧ xIs g l0 (0, 6) ∧ xIs g (g.2 l0 5) (0, 3) ∧ 
  cal d nSt_copyFrom [xr (g.2 l0 5), xr (g.2 l0 11)] g w (fun r g1 w1 => r = none ∧ xIs g1 l0 (0, 6) ∧ xIs g1 l0 (0, 6) ∧ xIs g1 (g1.2 l0 5) (0, 3) ∧ 
    cal d nSt_setWall [xr (g1.2 l0 5), xr (g1.2 l0 9), xi l2, xi l3, xi l5] g1 w1 (fun r g2 w2 => r = none ∧ xIs g2 l0 (0, 6) ∧ xIs g2 l0 (0, 6) ∧ xIs g2 (g2.2 l0 5) (0, 3) ∧ 
      cal d nSt_passMinutes [xr (g2.2 l0 5), xr (g2.2 l0 9), xi l4, xi (-1)] g2 w2 (fun r g3 w3 => r = none ∧ xIs g3 l0 (0, 6) ∧ xIs g3 l0 (0, 6) ∧ xIs g3 (g3.2 l0 5) (0, 3) ∧ 
        cal d nSt_countOwned [xr (g3.2 l0 5), xr (g3.2 l0 9), xi l1] g3 w3 (fun r g4 w4 => ∃ v4 : Int, r = some (xi v4) ∧ Q (some (xi v4)) g4 w4))))) :
    aFf_ownedWithWall d lim Q 0 [xr l0, xi l1, xi l2, xi l3, xi l4, xi l5] [] g w := xAt_exec (cal_m d) kFf_ownedWithWall 28 t
theorem eFf_ownedWithWall {d : Nat} {Q : xQ} {l1 l2 l3 l4 l5 : Int} {l0 : Nat} {g : xG} {w : xW} (t : ∀ (lim : Nat × Nat) (Q2 : xQ), (∀ r g2 w2, g2.1 = g.1 → Q r g2 w2 → Q2 r g2 w2) → aFf_ownedWithWall d lim Q2 0 [xr l0, xi l1, xi l2, xi l3, xi l4, xi l5] [] g w) : cal (d + 1) nFf_ownedWithWall [xr l0, xi l1, xi l2, xi l3, xi l4, xi l5] g w Q := t _ _ xQof
abbrev aFf_countFreezing (d : Nat) (lim : Nat × Nat) (Q : xQ) : xK := xAt xMks tFf_countFreezing (cal d) lim Q
def kFf_countFreezing : List (Nat × List Bool) := [(29, [true, false, true, true])]
set_option maxRecDepth 20000 in
theorem wFf_countFreezing_0 {d : Nat} {lim : Nat × Nat} {Q : xQ} {l1 l2 : Int} {l0 : Nat} {g : xG} {w : xW} (t : xIs g l0 (0, 6) ∧ xIs g l0 (0, 6) ∧ xIs g (g.2 l0 5) (0, 3) ∧ 
  cal d nSt_copyFrom [xr (g.2 l0 5), xr (g.2 l0 11)] g w (fun r g1 w1 => r = none ∧ xIs g1 l0 (0, 6) ∧ xIs g1 (g1.2 l0 5) (0, 3) ∧ xIs g1 l0 (0, 6) ∧ xIs g1 (g1.2 l0 5) (0, 3) ∧ aFf_countFreezing d lim Q 29 [xr l0, none, xi l2, xi 0] [] g1 (xup (xup w1 (g1.2 l0 5) 14 l1) (g1.2 l0 5) 13 0))) :
    aFf_countFreezing d lim Q 0 [xr l0, xi l1, xi l2, none] [] g w := xAt_exec (cal_m d) kFf_countFreezing 16 t
set_option maxRecDepth 20000 in
theorem wFf_countFreezing_29 {d : Nat} {lim : Nat × Nat} {Q : xQ} {l2 l3 : Int} {l0 : Nat} {g : xG} {w : xW} (t : 
  ((l2 ≤ l3) → xIs g l0 (0, 6) ∧ xIs g (g.2 l0 5) (0, 3) ∧ 
    cal d nJd_bitCount [xi (w (g.2 l0 5) 13)] g w (fun r g1 w1 => ∃ v1 : Int, r = some (xi v1) ∧ Q (some (xi v1)) g1 w1)) ∧
  ((l3 < l2) → xIs g l0 (0, 6) ∧ xIs g l0 (0, 6) ∧ xIs g (g.2 l0 5) (0, 3) ∧ 
    cal d nSt_leaveDearCells [xr (g.2 l0 5), xr (g.2 l0 9)] g w (fun r g2 w2 => r = none ∧ xIs g2 l0 (0, 6) ∧ xIs g2 l0 (0, 6) ∧ xIs g2 (g2.2 l0 5) (0, 3) ∧ 
      cal d nSt_passMinute [xr (g2.2 l0 5), xr (g2.2 l0 9), xi (-1)] g2 w2 (fun r g3 w3 => r = none ∧ x32 (l3 + 1) ∧ aFf_countFreezing d lim Q 29 [xr l0, none, xi l2, xi (l3 + 1)] [] g3 w3)))) :
    aFf_countFreezing d lim Q 29 [xr l0, none, xi l2, xi l3] [] g w := xAt_exec (cal_m d) kFf_countFreezing 17 t
theorem eFf_countFreezing {d : Nat} {Q : xQ} {l1 l2 : Int} {l0 : Nat} {g : xG} {w : xW} (t : ∀ (lim : Nat × Nat) (Q2 : xQ), (∀ r g2 w2, g2.1 = g.1 → Q r g2 w2 → Q2 r g2 w2) → aFf_countFreezing d lim Q2 0 [xr l0, xi l1, xi l2, none] [] g w) : cal (d + 1) nFf_countFreezing [xr l0, xi l1, xi l2] g w Q := t _ _ xQof
abbrev aFf_fitsLitNow (d : Nat) (lim : Nat × Nat) (Q : xQ) : xK := xAt xMks tFf_fitsLitNow (cal d) lim Q
def kFf_fitsLitNow : List (Nat × List Bool) := [(34, [true, false, false, true, true])]
set_option maxRecDepth 20000 in
theorem wFf_fitsLitNow_0 {d : Nat} {lim : Nat × Nat} {Q : xQ} {l1 l2 : Int} {l0 : Nat} {g : xG} {w : xW} (t : xIs g l0 (0, 6) ∧ xIs g (g.2 l0 2) (0, 1) ∧ 
  cal d nPp_latest [xr (g.2 l0 2)] g w (fun r g1 w1 => ∃ v1 : Int, r = some (xi v1) ∧ xIs g1 l0 (0, 6) ∧ xIs g1 l0 (0, 6) ∧ xIs g1 (g1.2 l0 5) (0, 3) ∧ 
    cal d nSt_copyFrom [xr (g1.2 l0 5), xr (g1.2 l0 6)] g1 w1 (fun r g2 w2 => r = none ∧ xIs g2 l0 (0, 6) ∧ xIs g2 (g2.2 l0 5) (0, 3) ∧ xA1 g2 (g2.2 (g2.2 l0 5) 6) l1 ∧ x32 (l2 + 1) ∧ aFf_fitsLitNow d lim Q 34 [xr l0, none, none, xi v1, xi (l2 + 1)] [] g2 (xup w2 (g2.2 (g2.2 l0 5) 6) (Int.toNat l1) 1)))) :
    aFf_fitsLitNow d lim Q 0 [xr l0, xi l1, xi l2, none, none] [] g w := xAt_exec (cal_m d) kFf_fitsLitNow 20 t
set_option maxRecDepth 20000 in
theorem wFf_fitsLitNow_34 {d : Nat} {lim : Nat × Nat} {Q : xQ} {l3 l4 : Int} {l0 : Nat} {g : xG} {w : xW} (t : 
  ((l3 < l4) → ((1 : Int) = 0 ∨ (1 : Int) = 1) ∧ Q (some (xi 1)) g w) ∧
  ((l4 ≤ l3) → xIs g l0 (0, 6) ∧ xIs g l0 (0, 6) ∧ xIs g (g.2 l0 5) (0, 3) ∧ 
    cal d nSt_passMinute [xr (g.2 l0 5), xr (g.2 l0 9), xi (-1)] g w (fun r g1 w1 => r = none ∧ xIs g1 l0 (0, 6) ∧ xIs g1 l0 (0, 6) ∧ xIs g1 (g1.2 l0 2) (0, 1) ∧ 
      cal d nPp_ownedAt [xr (g1.2 l0 2), xi l4, xr (g1.2 l0 5)] g1 w1 (fun r g2 w2 => ∃ v2 : Int, r = some (xi v2) ∧ 
        ((¬ v2 = 0) → x32 (l4 + 1) ∧ aFf_fitsLitNow d lim Q 34 [xr l0, none, none, xi l3, xi (l4 + 1)] [] g2 w2) ∧
        ((v2 = 0) → ((0 : Int) = 0 ∨ (0 : Int) = 1) ∧ Q (some (xi 0)) g2 w2))))) :
    aFf_fitsLitNow d lim Q 34 [xr l0, none, none, xi l3, xi l4] [] g w := xAt_exec (cal_m d) kFf_fitsLitNow 19 t
theorem eFf_fitsLitNow {d : Nat} {Q : xQ} {l1 l2 : Int} {l0 : Nat} {g : xG} {w : xW} (t : ∀ (lim : Nat × Nat) (Q2 : xQ), (∀ r g2 w2, g2.1 = g.1 → Q r g2 w2 → Q2 r g2 w2) → aFf_fitsLitNow d lim Q2 0 [xr l0, xi l1, xi l2, none, none] [] g w) : cal (d + 1) nFf_fitsLitNow [xr l0, xi l1, xi l2] g w Q := t _ _ xQof
abbrev aFf_tryWays (d : Nat) (lim : Nat × Nat) (Q : xQ) : xK := xAt xMks tFf_tryWays (cal d) lim Q
def kFf_tryWays : List (Nat × List Bool) := [(69, [true, true, true, false, true, true, false])]
set_option maxRecDepth 20000 in
theorem wFf_tryWays_0 {d : Nat} {lim : Nat × Nat} {Q : xQ} {l1 : Int} {l0 : Nat} {g : xG} {w : xW} (t : 
  ((l1 ≤ 5) → xIs g l0 (0, 4) ∧ xA3 g (g.2 l0 0) l1 ∧ xIs g l0 (0, 4) ∧ xIs g l0 (0, 4) ∧ xIs g (g.2 (g.2 l0 0) (Int.toNat l1)) (0, 3) ∧ 
    cal d nSt_countOwned [xr (g.2 (g.2 l0 0) (Int.toNat l1)), xr (g.2 l0 3), xi (w l0 4)] g w (fun r g1 w1 => ∃ v1 : Int, r = some (xi v1) ∧ xIs g1 l0 (0, 4) ∧ 
      ((l1 < (w1 l0 5)) → xIs g1 l0 (0, 4) ∧ x32 (v1 + (w1 l0 5)) ∧ x32 ((v1 + (w1 l0 5)) - l1) ∧ xIs g1 l0 (0, 4) ∧ 
        (((w1 l0 6) < ((v1 + (w1 l0 5)) - l1)) → xIs g1 l0 (0, 4) ∧ x32 (l1 + 1) ∧ xA3 g1 (g1.2 l0 0) (l1 + 1) ∧ aFf_tryWays d lim Q 69 [xr l0, xi l1, xr (g.2 (g.2 l0 0) (Int.toNat l1)), none, xr (g1.2 (g1.2 l0 0) (Int.toNat (l1 + 1))), xi 0, none] [] g1 w1) ∧
        ((((v1 + (w1 l0 5)) - l1) ≤ (w1 l0 6)) → Q none g1 w1)) ∧
      (((w1 l0 5) ≤ l1) → xIs g1 l0 (0, 4) ∧ 
        cal d nTo_finish [xr l0, xi v1] g1 w1 (fun r g2 w2 => r = none ∧ Q none g2 w2)))) ∧
  ((5 < l1) → Q none g w)) :
    aFf_tryWays d lim Q 0 [xr l0, xi l1, none, none, none, none, none] [] g w := xAt_exec (cal_m d) kFf_tryWays 38 t
set_option maxRecDepth 20000 in
theorem wFf_tryWays_69 {d : Nat} {lim : Nat × Nat} {Q : xQ} {l1 l5 : Int} {l0 l2 l4 : Nat} {g : xG} {w : xW} (t : 
  ((4 < l5) → Q none g w) ∧
  ((l5 ≤ 4) → xIs g l0 (0, 4) ∧ xIs g l2 (0, 3) ∧ xIs g l0 (0, 4) ∧ xAr g (g.2 l2 7) (w l0 4) ∧ xIs g l2 (0, 3) ∧ 
    cal d nSt_reach [xr l2, xr (g.2 l0 3), xi (w (g.2 l2 7) (Int.toNat (w l0 4))), xi l5] g w (fun r g1 w1 => ∃ v1 : Int, r = some (xi v1) ∧ 
      ((v1 = (-1)) → x32 (l5 + 1) ∧ aFf_tryWays d lim Q 69 [xr l0, xi l1, xr l2, none, xr l4, xi (l5 + 1), none] [] g1 w1) ∧
      ((¬ v1 = (-1)) → xIs g1 l4 (0, 3) ∧ 
        cal d nSt_copyFrom [xr l4, xr l2] g1 w1 (fun r g2 w2 => r = none ∧ xIs g2 l4 (0, 3) ∧ xIs g2 l0 (0, 4) ∧ xA1 g2 (g2.2 l4 7) (w2 l0 4) ∧ xIs g2 l0 (0, 4) ∧ xIs g2 l4 (0, 3) ∧ 
          cal d nSt_passMinute [xr l4, xr (g2.2 l0 3), xi (-1)] g2 (xup w2 (g2.2 l4 7) (Int.toNat (w2 l0 4)) v1) (fun r g3 w3 => r = none ∧ xIs g3 l0 (0, 4) ∧ xA1 g3 (g3.2 l0 1) l1 ∧ x32 (l1 + 1) ∧ 
            cal d nFf_tryWays [xr l0, xi (l1 + 1)] g3 (xup w3 (g3.2 l0 1) (Int.toNat l1) l5) (fun r g4 w4 => r = none ∧ x32 (l5 + 1) ∧ aFf_tryWays d lim Q 69 [xr l0, xi l1, xr l2, none, xr l4, xi (l5 + 1), none] [] g4 w4))))))) :
    aFf_tryWays d lim Q 69 [xr l0, xi l1, xr l2, none, xr l4, xi l5, none] [] g w := xAt_exec (cal_m d) kFf_tryWays 44 t
theorem eFf_tryWays {d : Nat} {Q : xQ} {l1 : Int} {l0 : Nat} {g : xG} {w : xW} (t : ∀ (lim : Nat × Nat) (Q2 : xQ), (∀ r g2 w2, g2.1 = g.1 → Q r g2 w2 → Q2 r g2 w2) → aFf_tryWays d lim Q2 0 [xr l0, xi l1, none, none, none, none, none] [] g w) : cal (d + 1) nFf_tryWays [xr l0, xi l1] g w Q := t _ _ xQof
end
section
abbrev aMo_in (d : Nat) (lim : Nat × Nat) (Q : xQ) : xK := xAt xMks tMo_in (cal d) lim Q
def kMo_in : List (Nat × List Bool) := []
set_option maxRecDepth 20000 in
theorem wMo_in_0 {d : Nat} {lim : Nat × Nat} {Q : xQ} {l0 l2 l4 : Int} {g : xG} {w : xW} (t : 
  (((xCmp l0 l2) < 0) → ((0 : Int) = 0 ∨ (0 : Int) = 1) ∧ Q (some (xi 0)) g w) ∧
  ((0 ≤ (xCmp l0 l2)) → 
    ((0 < (xCmp l0 l4)) → ((0 : Int) = 0 ∨ (0 : Int) = 1) ∧ Q (some (xi 0)) g w) ∧
    (((xCmp l0 l4) ≤ 0) → ((1 : Int) = 0 ∨ (1 : Int) = 1) ∧ Q (some (xi 1)) g w))) :
    aMo_in d lim Q 0 [xl l0, none, xl l2, none, xl l4, none] [] g w := xAt_exec (cal_m d) kMo_in 12 t
theorem eMo_in {d : Nat} {Q : xQ} {l0 l2 l4 : Int} {g : xG} {w : xW} (t : ∀ (lim : Nat × Nat) (Q2 : xQ), (∀ r g2 w2, g2.1 = g.1 → Q r g2 w2 → Q2 r g2 w2) → aMo_in d lim Q2 0 [xl l0, none, xl l2, none, xl l4, none] [] g w) : cal (d + 1) nMo_in [xl l0, xl l2, xl l4] g w Q := t _ _ xQof
abbrev aMo_emptyNow (d : Nat) (lim : Nat × Nat) (Q : xQ) : xK := xAt xMks tMo_emptyNow (cal d) lim Q
def kMo_emptyNow : List (Nat × List Bool) := [(2, [true, true])]
set_option maxRecDepth 20000 in
theorem wMo_emptyNow_0 {d : Nat} {lim : Nat × Nat} {Q : xQ} {l0 : Nat} {g : xG} {w : xW} (t : aMo_emptyNow d lim Q 2 [xr l0, xi 0] [] g w) :
    aMo_emptyNow d lim Q 0 [xr l0, none] [] g w := xAt_exec (cal_m d) kMo_emptyNow 3 t
set_option maxRecDepth 20000 in
theorem wMo_emptyNow_2 {d : Nat} {lim : Nat × Nat} {Q : xQ} {l1 : Int} {l0 : Nat} {g : xG} {w : xW} (t : 
  ((143 ≤ l1) → Q none g w) ∧
  ((l1 < 143) → xIs g l0 (0, 7) ∧ 
    ((¬ l1 = 141) → 
      ((l1 < 60) → xA1 g (g.2 l0 0) l1 ∧ x32 (l1 + 1) ∧ aMo_emptyNow d lim Q 2 [xr l0, xi (l1 + 1)] [] g (xup w (g.2 l0 0) (Int.toNat l1) 0)) ∧
      ((60 ≤ l1) → 
        ((80 ≤ l1) → xA1 g (g.2 l0 0) l1 ∧ x32 (l1 + 1) ∧ aMo_emptyNow d lim Q 2 [xr l0, xi (l1 + 1)] [] g (xup w (g.2 l0 0) (Int.toNat l1) 0)) ∧
        ((l1 < 80) → xA1 g (g.2 l0 0) l1 ∧ x32 (l1 + 1) ∧ aMo_emptyNow d lim Q 2 [xr l0, xi (l1 + 1)] [] g (xup w (g.2 l0 0) (Int.toNat l1) (-1))))) ∧
    ((l1 = 141) → xIs g l0 (0, 7) ∧ xAr g (g.2 l0 0) 141 ∧ xA1 g (g.2 l0 0) l1 ∧ x32 (l1 + 1) ∧ aMo_emptyNow d lim Q 2 [xr l0, xi (l1 + 1)] [] g (xup w (g.2 l0 0) (Int.toNat l1) (w (g.2 l0 0) (Int.toNat 141)))))) :
    aMo_emptyNow d lim Q 2 [xr l0, xi l1] [] g w := xAt_exec (cal_m d) kMo_emptyNow 21 t
theorem eMo_emptyNow {d : Nat} {Q : xQ} {l0 : Nat} {g : xG} {w : xW} (t : ∀ (lim : Nat × Nat) (Q2 : xQ), (∀ r g2 w2, g2.1 = g.1 → Q r g2 w2 → Q2 r g2 w2) → aMo_emptyNow d lim Q2 0 [xr l0, none] [] g w) : cal (d + 1) nMo_emptyNow [xr l0] g w Q := t _ _ xQof
abbrev aMo_cells (d : Nat) (lim : Nat × Nat) (Q : xQ) : xK := xAt xMks tMo_cells (cal d) lim Q
def kMo_cells : List (Nat × List Bool) := []
set_option maxRecDepth 20000 in
theorem wMo_cells_0 {d : Nat} {lim : Nat × Nat} {Q : xQ} {l0 : Nat} {g : xG} {w : xW} (t : xIs g l0 (0, 7) ∧ xIs g l0 (0, 7) ∧ x32 ((w l0 4) * (w l0 5)) ∧ Q (some (xi ((w l0 4) * (w l0 5)))) g w) :
    aMo_cells d lim Q 0 [xr l0] [] g w := xAt_exec (cal_m d) kMo_cells 7 t
theorem eMo_cells {d : Nat} {Q : xQ} {l0 : Nat} {g : xG} {w : xW} (t : ∀ (lim : Nat × Nat) (Q2 : xQ), (∀ r g2 w2, g2.1 = g.1 → Q r g2 w2 → Q2 r g2 w2) → aMo_cells d lim Q2 0 [xr l0] [] g w) : cal (d + 1) nMo_cells [xr l0] g w Q := t _ _ xQof
abbrev aMo_isCell (d : Nat) (lim : Nat × Nat) (Q : xQ) : xK := xAt xMks tMo_isCell (cal d) lim Q
def kMo_isCell : List (Nat × List Bool) := []
set_option maxRecDepth 20000 in
theorem wMo_isCell_0 {d : Nat} {lim : Nat × Nat} {Q : xQ} {l1 l2 : Int} {l0 : Nat} {g : xG} {w : xW} (t : xIs g l0 (0, 7) ∧ x32 ((w l0 4) - 1) ∧ 
  cal d nMo_in [xl l1, xl 0, xl ((w l0 4) - 1)] g w (fun r g1 w1 => ∃ v1 : Int, r = some (xi v1) ∧ 
    ((v1 = 0) → ((0 : Int) = 0 ∨ (0 : Int) = 1) ∧ Q (some (xi 0)) g1 w1) ∧
    ((¬ v1 = 0) → xIs g1 l0 (0, 7) ∧ x32 ((w1 l0 5) - 1) ∧ 
      cal d nMo_in [xl l2, xl 0, xl ((w1 l0 5) - 1)] g1 w1 (fun r g2 w2 => ∃ v2 : Int, r = some (xi v2) ∧ 
        ((v2 = 0) → ((0 : Int) = 0 ∨ (0 : Int) = 1) ∧ Q (some (xi 0)) g2 w2) ∧
        ((¬ v2 = 0) → ((1 : Int) = 0 ∨ (1 : Int) = 1) ∧ Q (some (xi 1)) g2 w2))))) :
    aMo_isCell d lim Q 0 [xr l0, xi l1, xi l2] [] g w := xAt_exec (cal_m d) kMo_isCell 24 t
theorem eMo_isCell {d : Nat} {Q : xQ} {l1 l2 : Int} {l0 : Nat} {g : xG} {w : xW} (t : ∀ (lim : Nat × Nat) (Q2 : xQ), (∀ r g2 w2, g2.1 = g.1 → Q r g2 w2 → Q2 r g2 w2) → aMo_isCell d lim Q2 0 [xr l0, xi l1, xi l2] [] g w) : cal (d + 1) nMo_isCell [xr l0, xi l1, xi l2] g w Q := t _ _ xQof
abbrev aMo_isPerson (d : Nat) (lim : Nat × Nat) (Q : xQ) : xK := xAt xMks tMo_isPerson (cal d) lim Q
def kMo_isPerson : List (Nat × List Bool) := []
set_option maxRecDepth 20000 in
theorem wMo_isPerson_0 {d : Nat} {lim : Nat × Nat} {Q : xQ} {l1 : Int} {l0 : Nat} {g : xG} {w : xW} (t : xIs g l0 (0, 7) ∧ x32 ((w l0 13) - 1) ∧ 
  cal d nMo_in [xl l1, xl 0, xl ((w l0 13) - 1)] g w (fun r g1 w1 => ∃ v1 : Int, r = some (xi v1) ∧ ((v1 : Int) = 0 ∨ (v1 : Int) = 1) ∧ Q (some (xi v1)) g1 w1)) :
    aMo_isPerson d lim Q 0 [xr l0, xi l1] [] g w := xAt_exec (cal_m d) kMo_isPerson 11 t
theorem eMo_isPerson {d : Nat} {Q : xQ} {l1 : Int} {l0 : Nat} {g : xG} {w : xW} (t : ∀ (lim : Nat × Nat) (Q2 : xQ), (∀ r g2 w2, g2.1 = g.1 → Q r g2 w2 → Q2 r g2 w2) → aMo_isPerson d lim Q2 0 [xr l0, xi l1] [] g w) : cal (d + 1) nMo_isPerson [xr l0, xi l1] g w Q := t _ _ xQof
abbrev aMo_isStove (d : Nat) (lim : Nat × Nat) (Q : xQ) : xK := xAt xMks tMo_isStove (cal d) lim Q
def kMo_isStove : List (Nat × List Bool) := []
set_option maxRecDepth 20000 in
theorem wMo_isStove_0 {d : Nat} {lim : Nat × Nat} {Q : xQ} {l1 : Int} {l0 : Nat} {g : xG} {w : xW} (t : xIs g l0 (0, 7) ∧ x32 ((w l0 8) - 1) ∧ 
  cal d nMo_in [xl l1, xl 0, xl ((w l0 8) - 1)] g w (fun r g1 w1 => ∃ v1 : Int, r = some (xi v1) ∧ ((v1 : Int) = 0 ∨ (v1 : Int) = 1) ∧ Q (some (xi v1)) g1 w1)) :
    aMo_isStove d lim Q 0 [xr l0, xi l1] [] g w := xAt_exec (cal_m d) kMo_isStove 11 t
theorem eMo_isStove {d : Nat} {Q : xQ} {l1 : Int} {l0 : Nat} {g : xG} {w : xW} (t : ∀ (lim : Nat × Nat) (Q2 : xQ), (∀ r g2 w2, g2.1 = g.1 → Q r g2 w2 → Q2 r g2 w2) → aMo_isStove d lim Q2 0 [xr l0, xi l1] [] g w) : cal (d + 1) nMo_isStove [xr l0, xi l1] g w Q := t _ _ xQof
abbrev aMo_named (d : Nat) (lim : Nat × Nat) (Q : xQ) : xK := xAt xMks tMo_named (cal d) lim Q
def kMo_named : List (Nat × List Bool) := []
set_option maxRecDepth 20000 in
theorem wMo_named_0 {d : Nat} {lim : Nat × Nat} {Q : xQ} {l1 : Int} {l0 : Nat} {g : xG} {w : xW} (t : xIs g l0 (0, 7) ∧ (((w l0 4) : Int) ≠ 0 ∧ x32 (Int.tdiv l1 (w l0 4))) ∧ x32 (10 * (Int.tmod l1 (w l0 4))) ∧ xIs g l0 (0, 7) ∧ (((w l0 4) : Int) ≠ 0 ∧ x32 (Int.tdiv l1 (w l0 4))) ∧ x32 ((10 * (Int.tmod l1 (w l0 4))) + (Int.tdiv l1 (w l0 4))) ∧ Q (some (xi ((10 * (Int.tmod l1 (w l0 4))) + (Int.tdiv l1 (w l0 4))))) g w) :
    aMo_named d lim Q 0 [xr l0, xi l1] [] g w := xAt_exec (cal_m d) kMo_named 13 t
theorem eMo_named {d : Nat} {Q : xQ} {l1 : Int} {l0 : Nat} {g : xG} {w : xW} (t : ∀ (lim : Nat × Nat) (Q2 : xQ), (∀ r g2 w2, g2.1 = g.1 → Q r g2 w2 → Q2 r g2 w2) → aMo_named d lim Q2 0 [xr l0, xi l1] [] g w) : cal (d + 1) nMo_named [xr l0, xi l1] g w Q := t _ _ xQof
abbrev aMo_cellOf (d : Nat) (lim : Nat × Nat) (Q : xQ) : xK := xAt xMks tMo_cellOf (cal d) lim Q
def kMo_cellOf : List (Nat × List Bool) := []
set_option maxRecDepth 20000 in
theorem wMo_cellOf_0 {d : Nat} {lim : Nat × Nat} {Q : xQ} {l1 : Int} {l0 : Nat} {g : xG} {w : xW} (t : 
  ((l1 < 0) → Q (some (xi (-1))) g w) ∧
  ((0 ≤ l1) → ((10 : Int) ≠ 0 ∧ x32 (Int.tdiv l1 10)) ∧ ((10 : Int) ≠ 0 ∧ x32 (Int.tdiv l1 10)) ∧ xIs g l0 (0, 7) ∧ 
    cal d nMo_isCell [xr l0, xi (Int.tdiv l1 10), xi (Int.tmod l1 10)] g w (fun r g1 w1 => ∃ v1 : Int, r = some (xi v1) ∧ 
      ((v1 = 0) → Q (some (xi (-1))) g1 w1) ∧
      ((¬ v1 = 0) → xIs g1 l0 (0, 7) ∧ ((10 : Int) ≠ 0 ∧ x32 (Int.tdiv l1 10)) ∧ x32 ((w1 l0 4) * (Int.tmod l1 10)) ∧ ((10 : Int) ≠ 0 ∧ x32 (Int.tdiv l1 10)) ∧ x32 (((w1 l0 4) * (Int.tmod l1 10)) + (Int.tdiv l1 10)) ∧ Q (some (xi (((w1 l0 4) * (Int.tmod l1 10)) + (Int.tdiv l1 10)))) g1 w1)))) :
    aMo_cellOf d lim Q 0 [xr l0, xi l1] [] g w := xAt_exec (cal_m d) kMo_cellOf 24 t
theorem eMo_cellOf {d : Nat} {Q : xQ} {l1 : Int} {l0 : Nat} {g : xG} {w : xW} (t : ∀ (lim : Nat × Nat) (Q2 : xQ), (∀ r g2 w2, g2.1 = g.1 → Q r g2 w2 → Q2 r g2 w2) → aMo_cellOf d lim Q2 0 [xr l0, xi l1] [] g w) : cal (d + 1) nMo_cellOf [xr l0, xi l1] g w Q := t _ _ xQof
abbrev aMo_feed (d : Nat) (lim : Nat × Nat) (Q : xQ) : xK := xAt xMks tMo_feed (cal d) lim Q
def kMo_feed : List (Nat × List Bool) := []
set_option maxRecDepth 20000 in
theorem wMo_feed_0 {d : Nat} {lim : Nat × Nat} {Q : xQ} {l1 : Int} {l0 : Nat} {g : xG} {w : xW} (t : 
  cal d nMo_in [xl l1, xl 0, xl 255] g w (fun r g1 w1 => ∃ v1 : Int, r = some (xi v1) ∧ 
    ((¬ v1 = 0) → xIs g1 l0 (0, 7) ∧ 
      ((¬ (w1 l0 25) = 260) → xIs g1 l0 (0, 7) ∧ xIs g1 l0 (0, 7) ∧ xA1 g1 (g1.2 l0 24) (w1 l0 25) ∧ xIs g1 l0 (0, 7) ∧ x32 (((xup w1 (g1.2 l0 24) (Int.toNat (w1 l0 25)) l1) l0 25) + 1) ∧ xIs g1 l0 (0, 7) ∧ xIs g1 l0 (0, 7) ∧ Q (some (xi ((xup (xup w1 (g1.2 l0 24) (Int.toNat (w1 l0 25)) l1) l0 25 (((xup w1 (g1.2 l0 24) (Int.toNat (w1 l0 25)) l1) l0 25) + 1)) l0 25))) g1 (xup (xup w1 (g1.2 l0 24) (Int.toNat (w1 l0 25)) l1) l0 25 (((xup w1 (g1.2 l0 24) (Int.toNat (w1 l0 25)) l1) l0 25) + 1))) ∧
      (((w1 l0 25) = 260) → Q (some (xi (-1000000004))) g1 w1)) ∧
    ((v1 = 0) → Q (some (xi (-1000000002))) g1 w1))) :
    aMo_feed d lim Q 0 [xr l0, xi l1] [] g w := xAt_exec (cal_m d) kMo_feed 26 t
theorem eMo_feed {d : Nat} {Q : xQ} {l1 : Int} {l0 : Nat} {g : xG} {w : xW} (t : ∀ (lim : Nat × Nat) (Q2 : xQ), (∀ r g2 w2, g2.1 = g.1 → Q r g2 w2 → Q2 r g2 w2) → aMo_feed d lim Q2 0 [xr l0, xi l1] [] g w) : cal (d + 1) nMo_feed [xr l0, xi l1] g w Q := t _ _ xQof
abbrev aMo_isFigure (d : Nat) (lim : Nat × Nat) (Q : xQ) : xK := xAt xMks tMo_isFigure (cal d) lim Q
def kMo_isFigure : List (Nat × List Bool) := []
set_option maxRecDepth 20000 in
theorem wMo_isFigure_0 {d : Nat} {lim : Nat × Nat} {Q : xQ} {l0 : Int} {g : xG} {w : xW} (t : 
  cal d nMo_in [xl l0, xl 48, xl 57] g w (fun r g1 w1 => ∃ v1 : Int, r = some (xi v1) ∧ ((v1 : Int) = 0 ∨ (v1 : Int) = 1) ∧ Q (some (xi v1)) g1 w1)) :
    aMo_isFigure d lim Q 0 [xi l0] [] g w := xAt_exec (cal_m d) kMo_isFigure 7 t
theorem eMo_isFigure {d : Nat} {Q : xQ} {l0 : Int} {g : xG} {w : xW} (t : ∀ (lim : Nat × Nat) (Q2 : xQ), (∀ r g2 w2, g2.1 = g.1 → Q r g2 w2 → Q2 r g2 w2) → aMo_isFigure d lim Q2 0 [xi l0] [] g w) : cal (d + 1) nMo_isFigure [xi l0] g w Q := t _ _ xQof
abbrev aMo_look (d : Nat) (lim : Nat × Nat) (Q : xQ) : xK := xAt xMks tMo_look (cal d) lim Q
def kMo_look : List (Nat × List Bool) := [(5, [true, false, false]), (43, [true, false, false]), (124, [true, false, false]), (183, [true, false, true])]
set_option maxRecDepth 20000 in
theorem wMo_look_0 {d : Nat} {lim : Nat × Nat} {Q : xQ} {l1 : Int} {l0 : Nat} {g : xG} {w : xW} (t : xIs g l0 (0, 7) ∧ aMo_look d lim Q 5 [xr l0, none, none] [] g (xup w l0 27 l1)) :
    aMo_look d lim Q 0 [xr l0, xi l1, none] [] g w := xAt_exec (cal_m d) kMo_look 4 t
set_option maxRecDepth 20000 in
theorem wMo_look_5 {d : Nat} {lim : Nat × Nat} {Q : xQ} {l0 : Nat} {g : xG} {w : xW} (t : xIs g l0 (0, 7) ∧ xIs g l0 (0, 7) ∧ 
  (((w l0 25) ≤ (w l0 27)) → aMo_look d lim Q 43 [xr l0, none, none] [] g w) ∧
  (((w l0 27) < (w l0 25)) → xIs g l0 (0, 7) ∧ xIs g l0 (0, 7) ∧ xAr g (g.2 l0 24) (w l0 27) ∧ 
    ((¬ (w (g.2 l0 24) (Int.toNat (w l0 27))) = 32) → aMo_look d lim Q 43 [xr l0, none, none] [] g w) ∧
    (((w (g.2 l0 24) (Int.toNat (w l0 27))) = 32) → xIs g l0 (0, 7) ∧ x32 ((w l0 27) + 1) ∧ xIs g l0 (0, 7) ∧ aMo_look d lim Q 5 [xr l0, none, none] [] g (xup w l0 27 ((w l0 27) + 1))))) :
    aMo_look d lim Q 5 [xr l0, none, none] [] g w := xAt_exec (cal_m d) kMo_look 20 t
set_option maxRecDepth 20000 in
theorem wMo_look_43 {d : Nat} {lim : Nat × Nat} {Q : xQ} {l0 : Nat} {g : xG} {w : xW} (t : xIs g l0 (0, 7) ∧ xIs g l0 (0, 7) ∧ xIs g l0 (0, 7) ∧ xIs g l0 (0, 7) ∧ xIs g l0 (0, 7) ∧ 
  ((¬ ((xup (xup (xup w l0 28 0) l0 29 0) l0 30 0) l0 27) = ((xup (xup (xup w l0 28 0) l0 29 0) l0 30 0) l0 25)) → xIs g l0 (0, 7) ∧ xIs g l0 (0, 7) ∧ xAr g (g.2 l0 24) ((xup (xup (xup w l0 28 0) l0 29 0) l0 30 0) l0 27) ∧ 
    cal d nMo_isFigure [xi ((xup (xup (xup w l0 28 0) l0 29 0) l0 30 0) (g.2 l0 24) (Int.toNat ((xup (xup (xup w l0 28 0) l0 29 0) l0 30 0) l0 27)))] g (xup (xup (xup w l0 28 0) l0 29 0) l0 30 0) (fun r g1 w1 => ∃ v1 : Int, r = some (xi v1) ∧ 
      ((v1 = 0) → xIs g1 l0 (0, 7) ∧ xIs g1 l0 (0, 7) ∧ xAr g1 (g1.2 l0 24) (w1 l0 27) ∧ 
        ((2 ≤ (w1 (g1.2 l0 24) (Int.toNat (w1 l0 27)))) → xIs g1 l0 (0, 7) ∧ xIs g1 l0 (0, 7) ∧ xAr g1 (g1.2 l0 24) (w1 l0 27) ∧ xIs g1 l0 (0, 7) ∧ xIs g1 l0 (0, 7) ∧ aMo_look d lim Q 124 [xr l0, none, none] [] g1 (xup (xup w1 l0 29 (w1 (g1.2 l0 24) (Int.toNat (w1 l0 27)))) l0 28 1)) ∧
        (((w1 (g1.2 l0 24) (Int.toNat (w1 l0 27))) < 2) → xIs g1 l0 (0, 7) ∧ xIs g1 l0 (0, 7) ∧ aMo_look d lim Q 124 [xr l0, none, none] [] g1 (xup (xup w1 l0 29 2) l0 28 1))) ∧
      ((¬ v1 = 0) → xIs g1 l0 (0, 7) ∧ xIs g1 l0 (0, 7) ∧ aMo_look d lim Q 124 [xr l0, none, none] [] g1 (xup (xup w1 l0 29 1) l0 28 1)))) ∧
  ((((xup (xup (xup w l0 28 0) l0 29 0) l0 30 0) l0 27) = ((xup (xup (xup w l0 28 0) l0 29 0) l0 30 0) l0 25)) → Q none g (xup (xup (xup w l0 28 0) l0 29 0) l0 30 0))) :
    aMo_look d lim Q 43 [xr l0, none, none] [] g w := xAt_exec (cal_m d) kMo_look 39 t
set_option maxRecDepth 20000 in
theorem wMo_look_124 {d : Nat} {lim : Nat × Nat} {Q : xQ} {l0 : Nat} {g : xG} {w : xW} (t : xIs g l0 (0, 7) ∧ 
  ((¬ (w l0 29) = 1) → aMo_look d lim Q 183 [xr l0, none, xi 0] [] g w) ∧
  (((w l0 29) = 1) → xIs g l0 (0, 7) ∧ xIs g l0 (0, 7) ∧ x32 ((w l0 27) + (w l0 28)) ∧ xIs g l0 (0, 7) ∧ 
    (((w l0 25) ≤ ((w l0 27) + (w l0 28))) → aMo_look d lim Q 183 [xr l0, none, xi 0] [] g w) ∧
    ((((w l0 27) + (w l0 28)) < (w l0 25)) → xIs g l0 (0, 7) ∧ xIs g l0 (0, 7) ∧ xIs g l0 (0, 7) ∧ x32 ((w l0 27) + (w l0 28)) ∧ xAr g (g.2 l0 24) ((w l0 27) + (w l0 28)) ∧ 
      cal d nMo_isFigure [xi (w (g.2 l0 24) (Int.toNat ((w l0 27) + (w l0 28))))] g w (fun r g1 w1 => ∃ v1 : Int, r = some (xi v1) ∧ 
        ((v1 = 0) → aMo_look d lim Q 183 [xr l0, none, xi 0] [] g1 w1) ∧
        ((¬ v1 = 0) → xIs g1 l0 (0, 7) ∧ x32 ((w1 l0 28) + 1) ∧ xIs g1 l0 (0, 7) ∧ aMo_look d lim Q 124 [xr l0, none, none] [] g1 (xup w1 l0 28 ((w1 l0 28) + 1))))))) :
    aMo_look d lim Q 124 [xr l0, none, none] [] g w := xAt_exec (cal_m d) kMo_look 30 t
set_option maxRecDepth 20000 in
theorem wMo_look_183 {d : Nat} {lim : Nat × Nat} {Q : xQ} {l2 : Int} {l0 : Nat} {g : xG} {w : xW} (t : xIs g l0 (0, 7) ∧ 
  (((w l0 28) ≤ l2) → Q none g w) ∧
  ((l2 < (w l0 28)) → xIs g l0 (0, 7) ∧ 
    ((¬ (w l0 29) = 1) → Q none g w) ∧
    (((w l0 29) = 1) → xIs g l0 (0, 7) ∧ 
      (((w l0 28) ≤ 3) → xIs g l0 (0, 7) ∧ x32 (10 * (w l0 30)) ∧ xIs g l0 (0, 7) ∧ xIs g l0 (0, 7) ∧ x32 ((w l0 27) + l2) ∧ xAr g (g.2 l0 24) ((w l0 27) + l2) ∧ x32 ((10 * (w l0 30)) + (w (g.2 l0 24) (Int.toNat ((w l0 27) + l2)))) ∧ x32 (((10 * (w l0 30)) + (w (g.2 l0 24) (Int.toNat ((w l0 27) + l2)))) - 48) ∧ xIs g l0 (0, 7) ∧ x32 (l2 + 1) ∧ aMo_look d lim Q 183 [xr l0, none, xi (l2 + 1)] [] g (xup w l0 30 (((10 * (w l0 30)) + (w (g.2 l0 24) (Int.toNat ((w l0 27) + l2)))) - 48))) ∧
      ((3 < (w l0 28)) → xIs g l0 (0, 7) ∧ x32 (l2 + 1) ∧ aMo_look d lim Q 183 [xr l0, none, xi (l2 + 1)] [] g (xup w l0 30 1000000))))) :
    aMo_look d lim Q 183 [xr l0, none, xi l2] [] g w := xAt_exec (cal_m d) kMo_look 31 t
theorem eMo_look {d : Nat} {Q : xQ} {l1 : Int} {l0 : Nat} {g : xG} {w : xW} (t : ∀ (lim : Nat × Nat) (Q2 : xQ), (∀ r g2 w2, g2.1 = g.1 → Q r g2 w2 → Q2 r g2 w2) → aMo_look d lim Q2 0 [xr l0, xi l1, none] [] g w) : cal (d + 1) nMo_look [xr l0, xi l1] g w Q := t _ _ xQof
abbrev aMo_goOn (d : Nat) (lim : Nat × Nat) (Q : xQ) : xK := xAt xMks tMo_goOn (cal d) lim Q
def kMo_goOn : List (Nat × List Bool) := []
set_option maxRecDepth 20000 in
theorem wMo_goOn_0 {d : Nat} {lim : Nat × Nat} {Q : xQ} {l0 : Nat} {g : xG} {w : xW} (t : xIs g l0 (0, 7) ∧ xIs g l0 (0, 7) ∧ x32 ((w l0 27) + (w l0 28)) ∧ xIs g l0 (0, 7) ∧ 
  cal d nMo_look [xr l0, xi ((w l0 27) + (w l0 28))] g w (fun r g1 w1 => r = none ∧ Q none g1 w1)) :
    aMo_goOn d lim Q 0 [xr l0] [] g w := xAt_exec (cal_m d) kMo_goOn 9 t
theorem eMo_goOn {d : Nat} {Q : xQ} {l0 : Nat} {g : xG} {w : xW} (t : ∀ (lim : Nat × Nat) (Q2 : xQ), (∀ r g2 w2, g2.1 = g.1 → Q r g2 w2 → Q2 r g2 w2) → aMo_goOn d lim Q2 0 [xr l0] [] g w) : cal (d + 1) nMo_goOn [xr l0] g w Q := t _ _ xQof
abbrev aMo_faults (d : Nat) (lim : Nat × Nat) (Q : xQ) : xK := xAt xMks tMo_faults (cal d) lim Q
def kMo_faults : List (Nat × List Bool) := []
set_option maxRecDepth 20000 in
theorem wMo_faults_0 {d : Nat} {lim : Nat × Nat} {Q : xQ} {l1 : Int} {l0 : Nat} {g : xG} {w : xW} (t : xIs g l0 (0, 7) ∧ ((0 : Int) = 0 ∨ (0 : Int) = 1) ∧ Q (some (xi 0)) g (xup w l0 31 l1)) :
    aMo_faults d lim Q 0 [xr l0, xi l1] [] g w := xAt_exec (cal_m d) kMo_faults 6 t
theorem eMo_faults {d : Nat} {Q : xQ} {l1 : Int} {l0 : Nat} {g : xG} {w : xW} (t : ∀ (lim : Nat × Nat) (Q2 : xQ), (∀ r g2 w2, g2.1 = g.1 → Q r g2 w2 → Q2 r g2 w2) → aMo_faults d lim Q2 0 [xr l0, xi l1] [] g w) : cal (d + 1) nMo_faults [xr l0, xi l1] g w Q := t _ _ xQof
abbrev aMo_takes (d : Nat) (lim : Nat × Nat) (Q : xQ) : xK := xAt xMks tMo_takes (cal d) lim Q
def kMo_takes : List (Nat × List Bool) := []
set_option maxRecDepth 20000 in
theorem wMo_takes_0 {d : Nat} {lim : Nat × Nat} {Q : xQ} {l1 l2 : Int} {l0 : Nat} {g : xG} {w : xW} (t : xIs g l0 (0, 7) ∧ 
  (((w l0 29) = 1) → xIs g l0 (0, 7) ∧ 
    cal d nMo_in [xl (w l0 30), xl l1, xl l2] g w (fun r g1 w1 => ∃ v1 : Int, r = some (xi v1) ∧ 
      ((¬ v1 = 0) → xIs g1 l0 (0, 7) ∧ xIs g1 l0 (0, 7) ∧ xIs g1 l0 (0, 7) ∧ 
        cal d nMo_goOn [xr l0] g1 (xup w1 l0 32 (w1 l0 30)) (fun r g2 w2 => r = none ∧ ((1 : Int) = 0 ∨ (1 : Int) = 1) ∧ Q (some (xi 1)) g2 w2)) ∧
      ((v1 = 0) → xIs g1 l0 (0, 7) ∧ 
        cal d nMo_faults [xr l0, xi 2] g1 w1 (fun r g3 w3 => ∃ v3 : Int, r = some (xi v3) ∧ ((v3 : Int) = 0 ∨ (v3 : Int) = 1) ∧ Q (some (xi v3)) g3 w3)))) ∧
  ((¬ (w l0 29) = 1) → xIs g l0 (0, 7) ∧ 
    cal d nMo_faults [xr l0, xi 1] g w (fun r g4 w4 => ∃ v4 : Int, r = some (xi v4) ∧ ((v4 : Int) = 0 ∨ (v4 : Int) = 1) ∧ Q (some (xi v4)) g4 w4))) :
    aMo_takes d lim Q 0 [xr l0, xi l1, xi l2] [] g w := xAt_exec (cal_m d) kMo_takes 22 t
theorem eMo_takes {d : Nat} {Q : xQ} {l1 l2 : Int} {l0 : Nat} {g : xG} {w : xW} (t : ∀ (lim : Nat × Nat) (Q2 : xQ), (∀ r g2 w2, g2.1 = g.1 → Q r g2 w2 → Q2 r g2 w2) → aMo_takes d lim Q2 0 [xr l0, xi l1, xi l2] [] g w) : cal (d + 1) nMo_takes [xr l0, xi l1, xi l2] g w Q := t _ _ xQof
abbrev aMo_stops (d : Nat) (lim : Nat × Nat) (Q : xQ) : xK := xAt xMks tMo_stops (cal d) lim Q
def kMo_stops : List (Nat × List Bool) := []
set_option maxRecDepth 20000 in
theorem wMo_stops_0 {d : Nat} {lim : Nat × Nat} {Q : xQ} {l0 : Nat} {g : xG} {w : xW} (t : xIs g l0 (0, 7) ∧ 
  (((w l0 29) = 59) → xIs g l0 (0, 7) ∧ 
    cal d nMo_goOn [xr l0] g w (fun r g1 w1 => r = none ∧ ((1 : Int) = 0 ∨ (1 : Int) = 1) ∧ Q (some (xi 1)) g1 w1)) ∧
  ((¬ (w l0 29) = 59) → xIs g l0 (0, 7) ∧ 
    cal d nMo_faults [xr l0, xi 1] g w (fun r g2 w2 => ∃ v2 : Int, r = some (xi v2) ∧ ((v2 : Int) = 0 ∨ (v2 : Int) = 1) ∧ Q (some (xi v2)) g2 w2))) :
    aMo_stops d lim Q 0 [xr l0] [] g w := xAt_exec (cal_m d) kMo_stops 9 t
theorem eMo_stops {d : Nat} {Q : xQ} {l0 : Nat} {g : xG} {w : xW} (t : ∀ (lim : Nat × Nat) (Q2 : xQ), (∀ r g2 w2, g2.1 = g.1 → Q r g2 w2 → Q2 r g2 w2) → aMo_stops d lim Q2 0 [xr l0] [] g w) : cal (d + 1) nMo_stops [xr l0] g w Q := t _ _ xQof
abbrev aMo_takesX (d : Nat) (lim : Nat × Nat) (Q : xQ) : xK := xAt xMks tMo_takesX (cal d) lim Q
def kMo_takesX : List (Nat × List Bool) := []
set_option maxRecDepth 20000 in
theorem wMo_takesX_0 {d : Nat} {lim : Nat × Nat} {Q : xQ} {l0 : Nat} {g : xG} {w : xW} (t : xIs g l0 (0, 7) ∧ x32 ((w l0 33) - 1) ∧ xIs g l0 (0, 7) ∧ 
  cal d nMo_takes [xr l0, xi 0, xi ((w l0 33) - 1)] g w (fun r g1 w1 => ∃ v1 : Int, r = some (xi v1) ∧ ((v1 : Int) = 0 ∨ (v1 : Int) = 1) ∧ Q (some (xi v1)) g1 w1)) :
    aMo_takesX d lim Q 0 [xr l0] [] g w := xAt_exec (cal_m d) kMo_takesX 9 t
theorem eMo_takesX {d : Nat} {Q : xQ} {l0 : Nat} {g : xG} {w : xW} (t : ∀ (lim : Nat × Nat) (Q2 : xQ), (∀ r g2 w2, g2.1 = g.1 → Q r g2 w2 → Q2 r g2 w2) → aMo_takesX d lim Q2 0 [xr l0] [] g w) : cal (d + 1) nMo_takesX [xr l0] g w Q := t _ _ xQof
abbrev aMo_seesY (d : Nat) (lim : Nat × Nat) (Q : xQ) : xK := xAt xMks tMo_seesY (cal d) lim Q
def kMo_seesY : List (Nat × List Bool) := []
set_option maxRecDepth 20000 in
theorem wMo_seesY_0 {d : Nat} {lim : Nat × Nat} {Q : xQ} {l1 : Int} {l0 : Nat} {g : xG} {w : xW} (t : xIs g l0 (0, 7) ∧ 
  (((w l0 29) = 1) → xIs g l0 (0, 7) ∧ xIs g l0 (0, 7) ∧ x32 ((w l0 34) - 1) ∧ 
    cal d nMo_in [xl (w l0 30), xl 0, xl ((w l0 34) - 1)] g w (fun r g1 w1 => ∃ v1 : Int, r = some (xi v1) ∧ 
      ((¬ v1 = 0) → xIs g1 l0 (0, 7) ∧ xIs g1 l0 (0, 7) ∧ x32 ((w1 l0 33) * (w1 l0 30)) ∧ x32 (((w1 l0 33) * (w1 l0 30)) + l1) ∧ xIs g1 l0 (0, 7) ∧ ((1 : Int) = 0 ∨ (1 : Int) = 1) ∧ Q (some (xi 1)) g1 (xup w1 l0 47 (((w1 l0 33) * (w1 l0 30)) + l1))) ∧
      ((v1 = 0) → xIs g1 l0 (0, 7) ∧ 
        cal d nMo_faults [xr l0, xi 2] g1 w1 (fun r g2 w2 => ∃ v2 : Int, r = some (xi v2) ∧ ((v2 : Int) = 0 ∨ (v2 : Int) = 1) ∧ Q (some (xi v2)) g2 w2)))) ∧
  ((¬ (w l0 29) = 1) → xIs g l0 (0, 7) ∧ 
    cal d nMo_faults [xr l0, xi 1] g w (fun r g3 w3 => ∃ v3 : Int, r = some (xi v3) ∧ ((v3 : Int) = 0 ∨ (v3 : Int) = 1) ∧ Q (some (xi v3)) g3 w3))) :
    aMo_seesY d lim Q 0 [xr l0, xi l1] [] g w := xAt_exec (cal_m d) kMo_seesY 27 t
theorem eMo_seesY {d : Nat} {Q : xQ} {l1 : Int} {l0 : Nat} {g : xG} {w : xW} (t : ∀ (lim : Nat × Nat) (Q2 : xQ), (∀ r g2 w2, g2.1 = g.1 → Q r g2 w2 → Q2 r g2 w2) → aMo_seesY d lim Q2 0 [xr l0, xi l1] [] g w) : cal (d + 1) nMo_seesY [xr l0, xi l1] g w Q := t _ _ xQof
abbrev aMo_readsTown (d : Nat) (lim : Nat × Nat) (Q : xQ) : xK := xAt xMks tMo_readsTown (cal d) lim Q
def kMo_readsTown : List (Nat × List Bool) := [(82, [true])]
set_option maxRecDepth 20000 in
theorem wMo_readsTown_0 {d : Nat} {lim : Nat × Nat} {Q : xQ} {l0 : Nat} {g : xG} {w : xW} (t : xIs g l0 (0, 7) ∧ 
  (((w l0 29) = 116) → xIs g l0 (0, 7) ∧ 
    cal d nMo_goOn [xr l0] g w (fun r g1 w1 => r = none ∧ xIs g1 l0 (0, 7) ∧ 
      cal d nMo_takes [xr l0, xi 1, xi 6] g1 w1 (fun r g2 w2 => ∃ v2 : Int, r = some (xi v2) ∧ 
        ((¬ v2 = 0) → xIs g2 l0 (0, 7) ∧ xIs g2 l0 (0, 7) ∧ xIs g2 l0 (0, 7) ∧ 
          ((¬ ((xup w2 l0 33 (w2 l0 32)) l0 29) = 1) → aMo_readsTown d lim Q 82 [xr l0] [] g2 (xup w2 l0 33 (w2 l0 32))) ∧
          ((((xup w2 l0 33 (w2 l0 32)) l0 29) = 1) → xIs g2 l0 (0, 7) ∧ 
            cal d nMo_in [xl ((xup w2 l0 33 (w2 l0 32)) l0 30), xl 1, xl 6] g2 (xup w2 l0 33 (w2 l0 32)) (fun r g3 w3 => ∃ v3 : Int, r = some (xi v3) ∧ 
              ((v3 = 0) → aMo_readsTown d lim Q 82 [xr l0] [] g3 w3) ∧
              ((¬ v3 = 0) → xIs g3 l0 (0, 7) ∧ xIs g3 l0 (0, 7) ∧ x32 ((w3 l0 33) * (w3 l0 30)) ∧ 
                ((((w3 l0 33) * (w3 l0 30)) ≤ 20) → aMo_readsTown d lim Q 82 [xr l0] [] g3 w3) ∧
                ((20 < ((w3 l0 33) * (w3 l0 30))) → xIs g3 l0 (0, 7) ∧ 
                  cal d nMo_faults [xr l0, xi 2] g3 w3 (fun r g4 w4 => ∃ v4 : Int, r = some (xi v4) ∧ ((v4 : Int) = 0 ∨ (v4 : Int) = 1) ∧ Q (some (xi v4)) g4 w4)))))) ∧
        ((v2 = 0) → ((0 : Int) = 0 ∨ (0 : Int) = 1) ∧ Q (some (xi 0)) g2 w2)))) ∧
  ((¬ (w l0 29) = 116) → xIs g l0 (0, 7) ∧ 
    cal d nMo_faults [xr l0, xi 1] g w (fun r g5 w5 => ∃ v5 : Int, r = some (xi v5) ∧ ((v5 : Int) = 0 ∨ (v5 : Int) = 1) ∧ Q (some (xi v5)) g5 w5))) :
    aMo_readsTown d lim Q 0 [xr l0] [] g w := xAt_exec (cal_m d) kMo_readsTown 38 t
set_option maxRecDepth 20000 in
theorem wMo_readsTown_82 {d : Nat} {lim : Nat × Nat} {Q : xQ} {l0 : Nat} {g : xG} {w : xW} (t : xIs g l0 (0, 7) ∧ 
  cal d nMo_takes [xr l0, xi 1, xi 6] g w (fun r g1 w1 => ∃ v1 : Int, r = some (xi v1) ∧ 
    ((¬ v1 = 0) → xIs g1 l0 (0, 7) ∧ xIs g1 l0 (0, 7) ∧ xIs g1 l0 (0, 7) ∧ 
      cal d nMo_takes [xr l0, xi 0, xi 200] g1 (xup w1 l0 34 (w1 l0 32)) (fun r g2 w2 => ∃ v2 : Int, r = some (xi v2) ∧ 
        ((¬ v2 = 0) → xIs g2 l0 (0, 7) ∧ xIs g2 l0 (0, 7) ∧ xIs g2 l0 (0, 7) ∧ 
          cal d nMo_stops [xr l0] g2 (xup w2 l0 35 (w2 l0 32)) (fun r g3 w3 => ∃ v3 : Int, r = some (xi v3) ∧ ((v3 : Int) = 0 ∨ (v3 : Int) = 1) ∧ Q (some (xi v3)) g3 w3)) ∧
        ((v2 = 0) → ((0 : Int) = 0 ∨ (0 : Int) = 1) ∧ Q (some (xi 0)) g2 w2))) ∧
    ((v1 = 0) → ((0 : Int) = 0 ∨ (0 : Int) = 1) ∧ Q (some (xi 0)) g1 w1))) :
    aMo_readsTown d lim Q 82 [xr l0] [] g w := xAt_exec (cal_m d) kMo_readsTown 22 t
theorem eMo_readsTown {d : Nat} {Q : xQ} {l0 : Nat} {g : xG} {w : xW} (t : ∀ (lim : Nat × Nat) (Q2 : xQ), (∀ r g2 w2, g2.1 = g.1 → Q r g2 w2 → Q2 r g2 w2) → aMo_readsTown d lim Q2 0 [xr l0] [] g w) : cal (d + 1) nMo_readsTown [xr l0] g w Q := t _ _ xQof
abbrev aMo_readsWall (d : Nat) (lim : Nat × Nat) (Q : xQ) : xK := xAt xMks tMo_readsWall (cal d) lim Q
def kMo_readsWall : List (Nat × List Bool) := [(122, [true, true, false]), (140, [true, false, false])]
set_option maxRecDepth 20000 in
theorem wMo_readsWall_0 {d : Nat} {lim : Nat × Nat} {Q : xQ} {l0 : Nat} {g : xG} {w : xW} (t : xIs g l0 (0, 7) ∧ 
  ((¬ (w l0 37) = 12) → xIs g l0 (0, 7) ∧ x32 ((w l0 37) + 1) ∧ xIs g l0 (0, 7) ∧ xIs g l0 (0, 7) ∧ 
    cal d nMo_goOn [xr l0] g (xup w l0 37 ((w l0 37) + 1)) (fun r g1 w1 => r = none ∧ xIs g1 l0 (0, 7) ∧ 
      cal d nMo_takesX [xr l0] g1 w1 (fun r g2 w2 => ∃ v2 : Int, r = some (xi v2) ∧ 
        ((v2 = 0) → ((0 : Int) = 0 ∨ (0 : Int) = 1) ∧ Q (some (xi 0)) g2 w2) ∧
        ((¬ v2 = 0) → xIs g2 l0 (0, 7) ∧ xIs g2 l0 (0, 7) ∧ 
          cal d nMo_seesY [xr l0, xi (w2 l0 32)] g2 w2 (fun r g3 w3 => ∃ v3 : Int, r = some (xi v3) ∧ 
            ((¬ v3 = 0) → xIs g3 l0 (0, 7) ∧ xIs g3 l0 (0, 7) ∧ 
              cal d nMo_goOn [xr l0] g3 w3 (fun r g4 w4 => r = none ∧ xIs g4 l0 (0, 7) ∧ 
                (((w4 l0 29) = 1) → xIs g4 l0 (0, 7) ∧ 
                  ((¬ (w4 l0 30) = 0) → xIs g4 l0 (0, 7) ∧ (((w4 l0 33) : Int) ≠ 0 ∧ x32 (Int.tdiv (w3 l0 47) (w4 l0 33))) ∧ xIs g4 l0 (0, 7) ∧ x32 ((w4 l0 34) - 1) ∧ 
                    ((((w4 l0 34) - 1) ≤ (Int.tdiv (w3 l0 47) (w4 l0 33))) → aMo_readsWall d lim Q 122 [xr l0, xi (w3 l0 47), none] [xi 0] g4 w4) ∧
                    (((Int.tdiv (w3 l0 47) (w4 l0 33)) < ((w4 l0 34) - 1)) → aMo_readsWall d lim Q 122 [xr l0, xi (w3 l0 47), none] [xi 1] g4 w4)) ∧
                  (((w4 l0 30) = 0) → xIs g4 l0 (0, 7) ∧ (((w4 l0 33) : Int) ≠ 0 ∧ x32 (Int.tdiv (w3 l0 47) (w4 l0 33))) ∧ xIs g4 l0 (0, 7) ∧ x32 ((w4 l0 33) - 1) ∧ 
                    ((((w4 l0 33) - 1) ≤ (Int.tmod (w3 l0 47) (w4 l0 33))) → aMo_readsWall d lim Q 122 [xr l0, xi (w3 l0 47), none] [xi 0] g4 w4) ∧
                    (((Int.tmod (w3 l0 47) (w4 l0 33)) < ((w4 l0 33) - 1)) → aMo_readsWall d lim Q 122 [xr l0, xi (w3 l0 47), none] [xi 1] g4 w4))) ∧
                ((¬ (w4 l0 29) = 1) → xIs g4 l0 (0, 7) ∧ 
                  cal d nMo_faults [xr l0, xi 1] g4 w4 (fun r g5 w5 => ∃ v5 : Int, r = some (xi v5) ∧ ((v5 : Int) = 0 ∨ (v5 : Int) = 1) ∧ Q (some (xi v5)) g5 w5)))) ∧
            ((v3 = 0) → ((0 : Int) = 0 ∨ (0 : Int) = 1) ∧ Q (some (xi 0)) g3 w3)))))) ∧
  (((w l0 37) = 12) → xIs g l0 (0, 7) ∧ 
    cal d nMo_faults [xr l0, xi 3] g w (fun r g6 w6 => ∃ v6 : Int, r = some (xi v6) ∧ ((v6 : Int) = 0 ∨ (v6 : Int) = 1) ∧ Q (some (xi v6)) g6 w6))) :
    aMo_readsWall d lim Q 0 [xr l0, none, none] [] g w := xAt_exec (cal_m d) kMo_readsWall 44 t
set_option maxRecDepth 20000 in
theorem wMo_readsWall_122 {d : Nat} {lim : Nat × Nat} {Q : xQ} {l1 s0 : Int} {l0 : Nat} {g : xG} {w : xW} (t : xIs g l0 (0, 7) ∧ 
  cal d nMo_in [xl (w l0 30), xl 0, xl 1] g w (fun r g1 w1 => ∃ v1 : Int, r = some (xi v1) ∧ 
    ((v1 = 0) → aMo_readsWall d lim Q 140 [xr l0, none, none] [] g1 w1) ∧
    ((¬ v1 = 0) → 
      ((¬ s0 = 0) → xIs g1 l0 (0, 7) ∧ xIs g1 l0 (0, 7) ∧ x32 (20 * (w1 l0 30)) ∧ x32 ((20 * (w1 l0 30)) + l1) ∧ xAr g1 (g1.2 l0 36) ((20 * (w1 l0 30)) + l1) ∧ 
        ((¬ (w1 (g1.2 l0 36) (Int.toNat ((20 * (w1 l0 30)) + l1))) = 1) → xIs g1 l0 (0, 7) ∧ xIs g1 l0 (0, 7) ∧ x32 (20 * (w1 l0 30)) ∧ x32 ((20 * (w1 l0 30)) + l1) ∧ xA1 g1 (g1.2 l0 36) ((20 * (w1 l0 30)) + l1) ∧ xIs g1 l0 (0, 7) ∧ 
          cal d nMo_goOn [xr l0] g1 (xup w1 (g1.2 l0 36) (Int.toNat ((20 * (w1 l0 30)) + l1)) 1) (fun r g2 w2 => r = none ∧ xIs g2 l0 (0, 7) ∧ 
            cal d nMo_stops [xr l0] g2 w2 (fun r g3 w3 => ∃ v3 : Int, r = some (xi v3) ∧ ((v3 : Int) = 0 ∨ (v3 : Int) = 1) ∧ Q (some (xi v3)) g3 w3))) ∧
        (((w1 (g1.2 l0 36) (Int.toNat ((20 * (w1 l0 30)) + l1))) = 1) → xIs g1 l0 (0, 7) ∧ 
          cal d nMo_faults [xr l0, xi 4] g1 w1 (fun r g4 w4 => ∃ v4 : Int, r = some (xi v4) ∧ ((v4 : Int) = 0 ∨ (v4 : Int) = 1) ∧ Q (some (xi v4)) g4 w4))) ∧
      ((s0 = 0) → aMo_readsWall d lim Q 140 [xr l0, none, none] [] g1 w1)))) :
    aMo_readsWall d lim Q 122 [xr l0, xi l1, none] [xi s0] g w := xAt_exec (cal_m d) kMo_readsWall 37 t
set_option maxRecDepth 20000 in
theorem wMo_readsWall_140 {d : Nat} {lim : Nat × Nat} {Q : xQ} {l0 : Nat} {g : xG} {w : xW} (t : xIs g l0 (0, 7) ∧ 
  cal d nMo_faults [xr l0, xi 2] g w (fun r g1 w1 => ∃ v1 : Int, r = some (xi v1) ∧ ((v1 : Int) = 0 ∨ (v1 : Int) = 1) ∧ Q (some (xi v1)) g1 w1)) :
    aMo_readsWall d lim Q 140 [xr l0, none, none] [] g w := xAt_exec (cal_m d) kMo_readsWall 5 t
theorem eMo_readsWall {d : Nat} {Q : xQ} {l0 : Nat} {g : xG} {w : xW} (t : ∀ (lim : Nat × Nat) (Q2 : xQ), (∀ r g2 w2, g2.1 = g.1 → Q r g2 w2 → Q2 r g2 w2) → aMo_readsWall d lim Q2 0 [xr l0, none, none] [] g w) : cal (d + 1) nMo_readsWall [xr l0] g w Q := t _ _ xQof
abbrev aMo_readsStove (d : Nat) (lim : Nat × Nat) (Q : xQ) : xK := xAt xMks tMo_readsStove (cal d) lim Q
def kMo_readsStove : List (Nat × List Bool) := []
set_option maxRecDepth 20000 in
theorem wMo_readsStove_0 {d : Nat} {lim : Nat × Nat} {Q : xQ} {l0 : Nat} {g : xG} {w : xW} (t : xIs g l0 (0, 7) ∧ 
  ((¬ (w l0 40) = 4) → xIs g l0 (0, 7) ∧ 
    cal d nMo_goOn [xr l0] g w (fun r g1 w1 => r = none ∧ xIs g1 l0 (0, 7) ∧ 
      cal d nMo_takesX [xr l0] g1 w1 (fun r g2 w2 => ∃ v2 : Int, r = some (xi v2) ∧ 
        ((v2 = 0) → ((0 : Int) = 0 ∨ (0 : Int) = 1) ∧ Q (some (xi 0)) g2 w2) ∧
        ((¬ v2 = 0) → xIs g2 l0 (0, 7) ∧ xIs g2 l0 (0, 7) ∧ 
          cal d nMo_seesY [xr l0, xi (w2 l0 32)] g2 w2 (fun r g3 w3 => ∃ v3 : Int, r = some (xi v3) ∧ 
            ((¬ v3 = 0) → xIs g3 l0 (0, 7) ∧ xIs g3 l0 (0, 7) ∧ xA2 g3 (g3.2 l0 42) (w3 l0 47) ∧ 
              (((w3 (g3.2 l0 42) (Int.toNat (w3 l0 47))) = 0) → xIs g3 l0 (0, 7) ∧ xIs g3 l0 (0, 7) ∧ (xA2 g3 (g3.2 l0 42) (w3 l0 47) ∧ ((1 : Int) = 0 ∨ (1 : Int) = 1)) ∧ xIs g3 l0 (0, 7) ∧ xIs g3 l0 (0, 7) ∧ xIs g3 l0 (0, 7) ∧ xA1 g3 (g3.2 l0 41) ((xup w3 (g3.2 l0 42) (Int.toNat (w3 l0 47)) 1) l0 40) ∧ xIs g3 l0 (0, 7) ∧ 
                cal d nMo_goOn [xr l0] g3 (xup (xup w3 (g3.2 l0 42) (Int.toNat (w3 l0 47)) 1) (g3.2 l0 41) (Int.toNat ((xup w3 (g3.2 l0 42) (Int.toNat (w3 l0 47)) 1) l0 40)) ((xup w3 (g3.2 l0 42) (Int.toNat (w3 l0 47)) 1) l0 47)) (fun r g4 w4 => r = none ∧ xIs g4 l0 (0, 7) ∧ 
                  cal d nMo_takes [xr l0, xi 1, xi 60] g4 w4 (fun r g5 w5 => ∃ v5 : Int, r = some (xi v5) ∧ 
                    ((¬ v5 = 0) → xIs g5 l0 (0, 7) ∧ xIs g5 l0 (0, 7) ∧ x32 (4 + (w5 l0 40)) ∧ xIs g5 l0 (0, 7) ∧ xA1 g5 (g5.2 l0 41) (4 + (w5 l0 40)) ∧ xIs g5 l0 (0, 7) ∧ 
                      cal d nMo_takes [xr l0, xi 0, xi 99] g5 (xup w5 (g5.2 l0 41) (Int.toNat (4 + (w5 l0 40))) (w5 l0 32)) (fun r g6 w6 => ∃ v6 : Int, r = some (xi v6) ∧ 
                        ((¬ v6 = 0) → xIs g6 l0 (0, 7) ∧ xIs g6 l0 (0, 7) ∧ x32 (8 + (w6 l0 40)) ∧ xIs g6 l0 (0, 7) ∧ xA1 g6 (g6.2 l0 41) (8 + (w6 l0 40)) ∧ xIs g6 l0 (0, 7) ∧ x32 (((xup w6 (g6.2 l0 41) (Int.toNat (8 + (w6 l0 40))) (w6 l0 32)) l0 40) + 1) ∧ xIs g6 l0 (0, 7) ∧ xIs g6 l0 (0, 7) ∧ 
                          cal d nMo_stops [xr l0] g6 (xup (xup w6 (g6.2 l0 41) (Int.toNat (8 + (w6 l0 40))) (w6 l0 32)) l0 40 (((xup w6 (g6.2 l0 41) (Int.toNat (8 + (w6 l0 40))) (w6 l0 32)) l0 40) + 1)) (fun r g7 w7 => ∃ v7 : Int, r = some (xi v7) ∧ ((v7 : Int) = 0 ∨ (v7 : Int) = 1) ∧ Q (some (xi v7)) g7 w7)) ∧
                        ((v6 = 0) → ((0 : Int) = 0 ∨ (0 : Int) = 1) ∧ Q (some (xi 0)) g6 w6))) ∧
                    ((v5 = 0) → ((0 : Int) = 0 ∨ (0 : Int) = 1) ∧ Q (some (xi 0)) g5 w5)))) ∧
              ((¬ (w3 (g3.2 l0 42) (Int.toNat (w3 l0 47))) = 0) → xIs g3 l0 (0, 7) ∧ 
                cal d nMo_faults [xr l0, xi 4] g3 w3 (fun r g8 w8 => ∃ v8 : Int, r = some (xi v8) ∧ ((v8 : Int) = 0 ∨ (v8 : Int) = 1) ∧ Q (some (xi v8)) g8 w8))) ∧
            ((v3 = 0) → ((0 : Int) = 0 ∨ (0 : Int) = 1) ∧ Q (some (xi 0)) g3 w3)))))) ∧
  (((w l0 40) = 4) → xIs g l0 (0, 7) ∧ 
    cal d nMo_faults [xr l0, xi 3] g w (fun r g9 w9 => ∃ v9 : Int, r = some (xi v9) ∧ ((v9 : Int) = 0 ∨ (v9 : Int) = 1) ∧ Q (some (xi v9)) g9 w9))) :
    aMo_readsStove d lim Q 0 [xr l0] [] g w := xAt_exec (cal_m d) kMo_readsStove 73 t
theorem eMo_readsStove {d : Nat} {Q : xQ} {l0 : Nat} {g : xG} {w : xW} (t : ∀ (lim : Nat × Nat) (Q2 : xQ), (∀ r g2 w2, g2.1 = g.1 → Q r g2 w2 → Q2 r g2 w2) → aMo_readsStove d lim Q2 0 [xr l0] [] g w) : cal (d + 1) nMo_readsStove [xr l0] g w Q := t _ _ xQof
abbrev aMo_readsRoof (d : Nat) (lim : Nat × Nat) (Q : xQ) : xK := xAt xMks tMo_readsRoof (cal d) lim Q
def kMo_readsRoof : List (Nat × List Bool) := []
set_option maxRecDepth 20000 in
theorem wMo_readsRoof_0 {d : Nat} {lim : Nat × Nat} {Q : xQ} {l0 : Nat} {g : xG} {w : xW} (t : xIs g l0 (0, 7) ∧ 
  ((¬ (w l0 39) = 12) → xIs g l0 (0, 7) ∧ x32 ((w l0 39) + 1) ∧ xIs g l0 (0, 7) ∧ xIs g l0 (0, 7) ∧ 
    cal d nMo_goOn [xr l0] g (xup w l0 39 ((w l0 39) + 1)) (fun r g1 w1 => r = none ∧ xIs g1 l0 (0, 7) ∧ 
      cal d nMo_takesX [xr l0] g1 w1 (fun r g2 w2 => ∃ v2 : Int, r = some (xi v2) ∧ 
        ((v2 = 0) → ((0 : Int) = 0 ∨ (0 : Int) = 1) ∧ Q (some (xi 0)) g2 w2) ∧
        ((¬ v2 = 0) → xIs g2 l0 (0, 7) ∧ xIs g2 l0 (0, 7) ∧ 
          cal d nMo_seesY [xr l0, xi (w2 l0 32)] g2 w2 (fun r g3 w3 => ∃ v3 : Int, r = some (xi v3) ∧ 
            ((¬ v3 = 0) → xIs g3 l0 (0, 7) ∧ xIs g3 l0 (0, 7) ∧ xA2 g3 (g3.2 l0 38) (w3 l0 47) ∧ 
              (((w3 (g3.2 l0 38) (Int.toNat (w3 l0 47))) = 0) → xIs g3 l0 (0, 7) ∧ xIs g3 l0 (0, 7) ∧ (xA2 g3 (g3.2 l0 38) (w3 l0 47) ∧ ((1 : Int) = 0 ∨ (1 : Int) = 1)) ∧ xIs g3 l0 (0, 7) ∧ 
                cal d nMo_goOn [xr l0] g3 (xup w3 (g3.2 l0 38) (Int.toNat (w3 l0 47)) 1) (fun r g4 w4 => r = none ∧ xIs g4 l0 (0, 7) ∧ 
                  cal d nMo_stops [xr l0] g4 w4 (fun r g5 w5 => ∃ v5 : Int, r = some (xi v5) ∧ ((v5 : Int) = 0 ∨ (v5 : Int) = 1) ∧ Q (some (xi v5)) g5 w5))) ∧
              ((¬ (w3 (g3.2 l0 38) (Int.toNat (w3 l0 47))) = 0) → xIs g3 l0 (0, 7) ∧ 
                cal d nMo_faults [xr l0, xi 4] g3 w3 (fun r g6 w6 => ∃ v6 : Int, r = some (xi v6) ∧ ((v6 : Int) = 0 ∨ (v6 : Int) = 1) ∧ Q (some (xi v6)) g6 w6))) ∧
            ((v3 = 0) → ((0 : Int) = 0 ∨ (0 : Int) = 1) ∧ Q (some (xi 0)) g3 w3)))))) ∧
  (((w l0 39) = 12) → xIs g l0 (0, 7) ∧ 
    cal d nMo_faults [xr l0, xi 3] g w (fun r g7 w7 => ∃ v7 : Int, r = some (xi v7) ∧ ((v7 : Int) = 0 ∨ (v7 : Int) = 1) ∧ Q (some (xi v7)) g7 w7))) :
    aMo_readsRoof d lim Q 0 [xr l0] [] g w := xAt_exec (cal_m d) kMo_readsRoof 38 t
theorem eMo_readsRoof {d : Nat} {Q : xQ} {l0 : Nat} {g : xG} {w : xW} (t : ∀ (lim : Nat × Nat) (Q2 : xQ), (∀ r g2 w2, g2.1 = g.1 → Q r g2 w2 → Q2 r g2 w2) → aMo_readsRoof d lim Q2 0 [xr l0] [] g w) : cal (d + 1) nMo_readsRoof [xr l0] g w Q := t _ _ xQof
abbrev aMo_readsSun (d : Nat) (lim : Nat × Nat) (Q : xQ) : xK := xAt xMks tMo_readsSun (cal d) lim Q
def kMo_readsSun : List (Nat × List Bool) := [(19, [true, true]), (81, [true, false])]
set_option maxRecDepth 20000 in
theorem wMo_readsSun_0 {d : Nat} {lim : Nat × Nat} {Q : xQ} {l0 : Nat} {g : xG} {w : xW} (t : xIs g l0 (0, 7) ∧ 
  (((w l0 43) ≤ 0) → xIs g l0 (0, 7) ∧ 
    cal d nMo_goOn [xr l0] g w (fun r g1 w1 => r = none ∧ aMo_readsSun d lim Q 19 [xr l0, xi 1] [] g1 w1)) ∧
  ((0 < (w l0 43)) → xIs g l0 (0, 7) ∧ 
    cal d nMo_faults [xr l0, xi 3] g w (fun r g2 w2 => ∃ v2 : Int, r = some (xi v2) ∧ ((v2 : Int) = 0 ∨ (v2 : Int) = 1) ∧ Q (some (xi v2)) g2 w2))) :
    aMo_readsSun d lim Q 0 [xr l0, none] [] g w := xAt_exec (cal_m d) kMo_readsSun 8 t
set_option maxRecDepth 20000 in
theorem wMo_readsSun_19 {d : Nat} {lim : Nat × Nat} {Q : xQ} {l1 : Int} {l0 : Nat} {g : xG} {w : xW} (t : 
  ((l1 = 0) → xIs g l0 (0, 7) ∧ 
    cal d nMo_stops [xr l0] g w (fun r g1 w1 => ∃ v1 : Int, r = some (xi v1) ∧ ((v1 : Int) = 0 ∨ (v1 : Int) = 1) ∧ Q (some (xi v1)) g1 w1)) ∧
  ((¬ l1 = 0) → xIs g l0 (0, 7) ∧ 
    cal d nMo_takes [xr l0, xi 0, xi 30] g w (fun r g2 w2 => ∃ v2 : Int, r = some (xi v2) ∧ 
      ((¬ v2 = 0) → xIs g2 l0 (0, 7) ∧ xIs g2 l0 (0, 7) ∧ xIs g2 l0 (0, 7) ∧ xA1 g2 (g2.2 l0 44) (w2 l0 43) ∧ xIs g2 l0 (0, 7) ∧ x32 (((xup w2 (g2.2 l0 44) (Int.toNat (w2 l0 43)) (w2 l0 32)) l0 43) + 1) ∧ xIs g2 l0 (0, 7) ∧ xIs g2 l0 (0, 7) ∧ 
        ((¬ ((xup (xup w2 (g2.2 l0 44) (Int.toNat (w2 l0 43)) (w2 l0 32)) l0 43 (((xup w2 (g2.2 l0 44) (Int.toNat (w2 l0 43)) (w2 l0 32)) l0 43) + 1)) l0 29) = 44) → aMo_readsSun d lim Q 81 [xr l0, none] [xi 0] g2 (xup (xup w2 (g2.2 l0 44) (Int.toNat (w2 l0 43)) (w2 l0 32)) l0 43 (((xup w2 (g2.2 l0 44) (Int.toNat (w2 l0 43)) (w2 l0 32)) l0 43) + 1))) ∧
        ((((xup (xup w2 (g2.2 l0 44) (Int.toNat (w2 l0 43)) (w2 l0 32)) l0 43 (((xup w2 (g2.2 l0 44) (Int.toNat (w2 l0 43)) (w2 l0 32)) l0 43) + 1)) l0 29) = 44) → xIs g2 l0 (0, 7) ∧ 
          ((8 ≤ ((xup (xup w2 (g2.2 l0 44) (Int.toNat (w2 l0 43)) (w2 l0 32)) l0 43 (((xup w2 (g2.2 l0 44) (Int.toNat (w2 l0 43)) (w2 l0 32)) l0 43) + 1)) l0 43)) → aMo_readsSun d lim Q 81 [xr l0, none] [xi 0] g2 (xup (xup w2 (g2.2 l0 44) (Int.toNat (w2 l0 43)) (w2 l0 32)) l0 43 (((xup w2 (g2.2 l0 44) (Int.toNat (w2 l0 43)) (w2 l0 32)) l0 43) + 1))) ∧
          ((((xup (xup w2 (g2.2 l0 44) (Int.toNat (w2 l0 43)) (w2 l0 32)) l0 43 (((xup w2 (g2.2 l0 44) (Int.toNat (w2 l0 43)) (w2 l0 32)) l0 43) + 1)) l0 43) < 8) → aMo_readsSun d lim Q 81 [xr l0, none] [xi 1] g2 (xup (xup w2 (g2.2 l0 44) (Int.toNat (w2 l0 43)) (w2 l0 32)) l0 43 (((xup w2 (g2.2 l0 44) (Int.toNat (w2 l0 43)) (w2 l0 32)) l0 43) + 1))))) ∧
      ((v2 = 0) → ((0 : Int) = 0 ∨ (0 : Int) = 1) ∧ Q (some (xi 0)) g2 w2)))) :
    aMo_readsSun d lim Q 19 [xr l0, xi l1] [] g w := xAt_exec (cal_m d) kMo_readsSun 31 t
set_option maxRecDepth 20000 in
theorem wMo_readsSun_81 {d : Nat} {lim : Nat × Nat} {Q : xQ} {s0 : Int} {l0 : Nat} {g : xG} {w : xW} (t : 
  ((s0 = 0) → aMo_readsSun d lim Q 19 [xr l0, xi s0] [] g w) ∧
  ((¬ s0 = 0) → xIs g l0 (0, 7) ∧ 
    cal d nMo_goOn [xr l0] g w (fun r g1 w1 => r = none ∧ aMo_readsSun d lim Q 19 [xr l0, xi s0] [] g1 w1))) :
    aMo_readsSun d lim Q 81 [xr l0, none] [xi s0] g w := xAt_exec (cal_m d) kMo_readsSun 7 t
theorem eMo_readsSun {d : Nat} {Q : xQ} {l0 : Nat} {g : xG} {w : xW} (t : ∀ (lim : Nat × Nat) (Q2 : xQ), (∀ r g2 w2, g2.1 = g.1 → Q r g2 w2 → Q2 r g2 w2) → aMo_readsSun d lim Q2 0 [xr l0, none] [] g w) : cal (d + 1) nMo_readsSun [xr l0] g w Q := t _ _ xQof
abbrev aMo_readsPerson (d : Nat) (lim : Nat × Nat) (Q : xQ) : xK := xAt xMks tMo_readsPerson (cal d) lim Q
def kMo_readsPerson : List (Nat × List Bool) := []
set_option maxRecDepth 20000 in
theorem wMo_readsPerson_0 {d : Nat} {lim : Nat × Nat} {Q : xQ} {l0 : Nat} {g : xG} {w : xW} (t : xIs g l0 (0, 7) ∧ 
  ((¬ (w l0 45) = 6) → xIs g l0 (0, 7) ∧ 
    cal d nMo_goOn [xr l0] g w (fun r g1 w1 => r = none ∧ xIs g1 l0 (0, 7) ∧ 
      cal d nMo_takesX [xr l0] g1 w1 (fun r g2 w2 => ∃ v2 : Int, r = some (xi v2) ∧ 
        ((v2 = 0) → ((0 : Int) = 0 ∨ (0 : Int) = 1) ∧ Q (some (xi 0)) g2 w2) ∧
        ((¬ v2 = 0) → xIs g2 l0 (0, 7) ∧ xIs g2 l0 (0, 7) ∧ 
          cal d nMo_seesY [xr l0, xi (w2 l0 32)] g2 w2 (fun r g3 w3 => ∃ v3 : Int, r = some (xi v3) ∧ 
            ((¬ v3 = 0) → xIs g3 l0 (0, 7) ∧ xIs g3 l0 (0, 7) ∧ xIs g3 l0 (0, 7) ∧ xA1 g3 (g3.2 l0 46) (w3 l0 45) ∧ xIs g3 l0 (0, 7) ∧ 
              cal d nMo_goOn [xr l0] g3 (xup w3 (g3.2 l0 46) (Int.toNat (w3 l0 45)) (w3 l0 47)) (fun r g4 w4 => r = none ∧ xIs g4 l0 (0, 7) ∧ 
                cal d nMo_takes [xr l0, xi 0, xi 300] g4 w4 (fun r g5 w5 => ∃ v5 : Int, r = some (xi v5) ∧ 
                  ((¬ v5 = 0) → xIs g5 l0 (0, 7) ∧ xIs g5 l0 (0, 7) ∧ x32 (6 + (w5 l0 45)) ∧ xIs g5 l0 (0, 7) ∧ xA1 g5 (g5.2 l0 46) (6 + (w5 l0 45)) ∧ xIs g5 l0 (0, 7) ∧ 
                    cal d nMo_takes [xr l0, xi 1, xi 60] g5 (xup w5 (g5.2 l0 46) (Int.toNat (6 + (w5 l0 45))) (w5 l0 32)) (fun r g6 w6 => ∃ v6 : Int, r = some (xi v6) ∧ 
                      ((¬ v6 = 0) → xIs g6 l0 (0, 7) ∧ xIs g6 l0 (0, 7) ∧ x32 (12 + (w6 l0 45)) ∧ xIs g6 l0 (0, 7) ∧ xA1 g6 (g6.2 l0 46) (12 + (w6 l0 45)) ∧ xIs g6 l0 (0, 7) ∧ 
                        cal d nMo_takes [xr l0, xi 0, xi 9] g6 (xup w6 (g6.2 l0 46) (Int.toNat (12 + (w6 l0 45))) (w6 l0 32)) (fun r g7 w7 => ∃ v7 : Int, r = some (xi v7) ∧ 
                          ((¬ v7 = 0) → xIs g7 l0 (0, 7) ∧ xIs g7 l0 (0, 7) ∧ x32 (18 + (w7 l0 45)) ∧ xIs g7 l0 (0, 7) ∧ xA1 g7 (g7.2 l0 46) (18 + (w7 l0 45)) ∧ xIs g7 l0 (0, 7) ∧ x32 (((xup w7 (g7.2 l0 46) (Int.toNat (18 + (w7 l0 45))) (w7 l0 32)) l0 45) + 1) ∧ xIs g7 l0 (0, 7) ∧ xIs g7 l0 (0, 7) ∧ 
                            cal d nMo_stops [xr l0] g7 (xup (xup w7 (g7.2 l0 46) (Int.toNat (18 + (w7 l0 45))) (w7 l0 32)) l0 45 (((xup w7 (g7.2 l0 46) (Int.toNat (18 + (w7 l0 45))) (w7 l0 32)) l0 45) + 1)) (fun r g8 w8 => ∃ v8 : Int, r = some (xi v8) ∧ ((v8 : Int) = 0 ∨ (v8 : Int) = 1) ∧ Q (some (xi v8)) g8 w8)) ∧
                          ((v7 = 0) → ((0 : Int) = 0 ∨ (0 : Int) = 1) ∧ Q (some (xi 0)) g7 w7))) ∧
                      ((v6 = 0) → ((0 : Int) = 0 ∨ (0 : Int) = 1) ∧ Q (some (xi 0)) g6 w6))) ∧
                  ((v5 = 0) → ((0 : Int) = 0 ∨ (0 : Int) = 1) ∧ Q (some (xi 0)) g5 w5)))) ∧
            ((v3 = 0) → ((0 : Int) = 0 ∨ (0 : Int) = 1) ∧ Q (some (xi 0)) g3 w3)))))) ∧
  (((w l0 45) = 6) → xIs g l0 (0, 7) ∧ 
    cal d nMo_faults [xr l0, xi 3] g w (fun r g9 w9 => ∃ v9 : Int, r = some (xi v9) ∧ ((v9 : Int) = 0 ∨ (v9 : Int) = 1) ∧ Q (some (xi v9)) g9 w9))) :
    aMo_readsPerson d lim Q 0 [xr l0] [] g w := xAt_exec (cal_m d) kMo_readsPerson 75 t
theorem eMo_readsPerson {d : Nat} {Q : xQ} {l0 : Nat} {g : xG} {w : xW} (t : ∀ (lim : Nat × Nat) (Q2 : xQ), (∀ r g2 w2, g2.1 = g.1 → Q r g2 w2 → Q2 r g2 w2) → aMo_readsPerson d lim Q2 0 [xr l0] [] g w) : cal (d + 1) nMo_readsPerson [xr l0] g w Q := t _ _ xQof
abbrev aMo_readsClause (d : Nat) (lim : Nat × Nat) (Q : xQ) : xK := xAt xMks tMo_readsClause (cal d) lim Q
def kMo_readsClause : List (Nat × List Bool) := [(96, [false])]
set_option maxRecDepth 20000 in
theorem wMo_readsClause_0 {d : Nat} {lim : Nat × Nat} {Q : xQ} {l0 : Nat} {g : xG} {w : xW} (t : xIs g l0 (0, 7) ∧ 
  (((w l0 29) < 111 ∨ 119 < (w l0 29)) → xIs g l0 (0, 7) ∧ 
    ((¬ (w l0 29) = 116) → aMo_readsClause d lim Q 96 [none] [xi 1, xr l0] g w) ∧
    (((w l0 29) = 116) → aMo_readsClause d lim Q 96 [none] [xi 3, xr l0] g w)) ∧
  (((w l0 29) = 111) → xIs g l0 (0, 7) ∧ 
    cal d nMo_readsStove [xr l0] g w (fun r g1 w1 => ∃ v1 : Int, r = some (xi v1) ∧ ((v1 : Int) = 0 ∨ (v1 : Int) = 1) ∧ Q (some (xi v1)) g1 w1)) ∧
  (((w l0 29) = 112) → xIs g l0 (0, 7) ∧ 
    cal d nMo_readsPerson [xr l0] g w (fun r g2 w2 => ∃ v2 : Int, r = some (xi v2) ∧ ((v2 : Int) = 0 ∨ (v2 : Int) = 1) ∧ Q (some (xi v2)) g2 w2)) ∧
  (((w l0 29) = 113) → xIs g l0 (0, 7) ∧ 
    ((¬ (w l0 29) = 116) → aMo_readsClause d lim Q 96 [none] [xi 1, xr l0] g w) ∧
    (((w l0 29) = 116) → aMo_readsClause d lim Q 96 [none] [xi 3, xr l0] g w)) ∧
  (((w l0 29) = 114) → xIs g l0 (0, 7) ∧ 
    cal d nMo_readsRoof [xr l0] g w (fun r g3 w3 => ∃ v3 : Int, r = some (xi v3) ∧ ((v3 : Int) = 0 ∨ (v3 : Int) = 1) ∧ Q (some (xi v3)) g3 w3)) ∧
  (((w l0 29) = 115) → xIs g l0 (0, 7) ∧ 
    cal d nMo_readsSun [xr l0] g w (fun r g4 w4 => ∃ v4 : Int, r = some (xi v4) ∧ ((v4 : Int) = 0 ∨ (v4 : Int) = 1) ∧ Q (some (xi v4)) g4 w4)) ∧
  (((w l0 29) = 116) → xIs g l0 (0, 7) ∧ 
    ((¬ (w l0 29) = 116) → aMo_readsClause d lim Q 96 [none] [xi 1, xr l0] g w) ∧
    (((w l0 29) = 116) → aMo_readsClause d lim Q 96 [none] [xi 3, xr l0] g w)) ∧
  (((w l0 29) = 117) → xIs g l0 (0, 7) ∧ 
    ((¬ (w l0 29) = 116) → aMo_readsClause d lim Q 96 [none] [xi 1, xr l0] g w) ∧
    (((w l0 29) = 116) → aMo_readsClause d lim Q 96 [none] [xi 3, xr l0] g w)) ∧
  (((w l0 29) = 118) → xIs g l0 (0, 7) ∧ 
    ((¬ (w l0 29) = 116) → aMo_readsClause d lim Q 96 [none] [xi 1, xr l0] g w) ∧
    (((w l0 29) = 116) → aMo_readsClause d lim Q 96 [none] [xi 3, xr l0] g w)) ∧
  (((w l0 29) = 119) → xIs g l0 (0, 7) ∧ 
    cal d nMo_readsWall [xr l0] g w (fun r g5 w5 => ∃ v5 : Int, r = some (xi v5) ∧ ((v5 : Int) = 0 ∨ (v5 : Int) = 1) ∧ Q (some (xi v5)) g5 w5)) ∧ True) :
    aMo_readsClause d lim Q 0 [xr l0] [] g w := xAt_exec (cal_m d) kMo_readsClause 11 t
set_option maxRecDepth 20000 in
theorem wMo_readsClause_96 {d : Nat} {lim : Nat × Nat} {Q : xQ} {s1 : Int} {s0 : Nat} {g : xG} {w : xW} (t : xIs g s0 (0, 7) ∧ 
  cal d nMo_faults [xr s0, xi s1] g w (fun r g1 w1 => ∃ v1 : Int, r = some (xi v1) ∧ ((v1 : Int) = 0 ∨ (v1 : Int) = 1) ∧ Q (some (xi v1)) g1 w1)) :
    aMo_readsClause d lim Q 96 [none] [xi s1, xr s0] g w := xAt_exec (cal_m d) kMo_readsClause 3 t
theorem eMo_readsClause {d : Nat} {Q : xQ} {l0 : Nat} {g : xG} {w : xW} (t : ∀ (lim : Nat × Nat) (Q2 : xQ), (∀ r g2 w2, g2.1 = g.1 → Q r g2 w2 → Q2 r g2 w2) → aMo_readsClause d lim Q2 0 [xr l0] [] g w) : cal (d + 1) nMo_readsClause [xr l0] g w Q := t _ _ xQof
abbrev aMo_readsAll (d : Nat) (lim : Nat × Nat) (Q : xQ) : xK := xAt xMks tMo_readsAll (cal d) lim Q
def kMo_readsAll : List (Nat × List Bool) := [(42, [true, true]), (104, [true, true])]
set_option maxRecDepth 20000 in
theorem wMo_readsAll_0 {d : Nat} {lim : Nat × Nat} {Q : xQ} {l0 : Nat} {g : xG} {w : xW} (t : xIs g l0 (0, 7) ∧ xIs g l0 (0, 7) ∧ xIs g l0 (0, 7) ∧ xIs g l0 (0, 7) ∧ xIs g l0 (0, 7) ∧ xIs g l0 (0, 7) ∧ xIs g l0 (0, 7) ∧ xIs g l0 (0, 7) ∧ aMo_readsAll d lim Q 42 [xr l0, xi 0] [] g (xup (xup (xup (xup (xup (xup (xup (xup w l0 33 0) l0 34 0) l0 37 0) l0 39 0) l0 40 0) l0 43 0) l0 45 0) l0 31 0)) :
    aMo_readsAll d lim Q 0 [xr l0, none] [] g w := xAt_exec (cal_m d) kMo_readsAll 27 t
set_option maxRecDepth 20000 in
theorem wMo_readsAll_42 {d : Nat} {lim : Nat × Nat} {Q : xQ} {l1 : Int} {l0 : Nat} {g : xG} {w : xW} (t : 
  ((20 ≤ l1) → xIs g l0 (0, 7) ∧ 
    cal d nMo_look [xr l0, xi 0] g w (fun r g1 w1 => r = none ∧ xIs g1 l0 (0, 7) ∧ 
      ((¬ (w1 l0 29) = 0) → xIs g1 l0 (0, 7) ∧ 
        cal d nMo_readsTown [xr l0] g1 w1 (fun r g2 w2 => ∃ v2 : Int, r = some (xi v2) ∧ aMo_readsAll d lim Q 104 [xr l0, xi v2] [] g2 w2)) ∧
      (((w1 l0 29) = 0) → ((1 : Int) = 0 ∨ (1 : Int) = 1) ∧ Q (some (xi 1)) g1 w1))) ∧
  ((l1 < 20) → xIs g l0 (0, 7) ∧ xA1 g (g.2 l0 36) l1 ∧ xIs g l0 (0, 7) ∧ x32 (20 + l1) ∧ xA1 g (g.2 l0 36) (20 + l1) ∧ xIs g l0 (0, 7) ∧ (xA2 g (g.2 l0 38) l1 ∧ ((0 : Int) = 0 ∨ (0 : Int) = 1)) ∧ xIs g l0 (0, 7) ∧ (xA2 g (g.2 l0 42) l1 ∧ ((0 : Int) = 0 ∨ (0 : Int) = 1)) ∧ x32 (l1 + 1) ∧ aMo_readsAll d lim Q 42 [xr l0, xi (l1 + 1)] [] g (xup (xup (xup (xup w (g.2 l0 36) (Int.toNat l1) 0) (g.2 l0 36) (Int.toNat (20 + l1)) 0) (g.2 l0 38) (Int.toNat l1) 0) (g.2 l0 42) (Int.toNat l1) 0))) :
    aMo_readsAll d lim Q 42 [xr l0, xi l1] [] g w := xAt_exec (cal_m d) kMo_readsAll 28 t
set_option maxRecDepth 20000 in
theorem wMo_readsAll_104 {d : Nat} {lim : Nat × Nat} {Q : xQ} {l1 : Int} {l0 : Nat} {g : xG} {w : xW} (t : 
  ((l1 = 0) → ((l1 : Int) = 0 ∨ (l1 : Int) = 1) ∧ Q (some (xi l1)) g w) ∧
  ((¬ l1 = 0) → xIs g l0 (0, 7) ∧ 
    (((w l0 29) = 0) → ((l1 : Int) = 0 ∨ (l1 : Int) = 1) ∧ Q (some (xi l1)) g w) ∧
    ((¬ (w l0 29) = 0) → xIs g l0 (0, 7) ∧ 
      cal d nMo_readsClause [xr l0] g w (fun r g1 w1 => ∃ v1 : Int, r = some (xi v1) ∧ aMo_readsAll d lim Q 104 [xr l0, xi v1] [] g1 w1)))) :
    aMo_readsAll d lim Q 104 [xr l0, xi l1] [] g w := xAt_exec (cal_m d) kMo_readsAll 10 t
theorem eMo_readsAll {d : Nat} {Q : xQ} {l0 : Nat} {g : xG} {w : xW} (t : ∀ (lim : Nat × Nat) (Q2 : xQ), (∀ r g2 w2, g2.1 = g.1 → Q r g2 w2 → Q2 r g2 w2) → aMo_readsAll d lim Q2 0 [xr l0, none] [] g w) : cal (d + 1) nMo_readsAll [xr l0] g w Q := t _ _ xQof
abbrev aMo_town (d : Nat) (lim : Nat × Nat) (Q : xQ) : xK := xAt xMks tMo_town (cal d) lim Q
def kMo_town : List (Nat × List Bool) := [(18, [true, true, false]), (69, [true, false, true]), (98, [true, false, true]), (168, [true, false, true]), (236, [true, false, true]), (270, [true, false, true])]
set_option maxRecDepth 20000 in
theorem wMo_town_0 {d : Nat} {lim : Nat × Nat} {Q : xQ} {l0 : Nat} {g : xG} {w : xW} (t : xIs g l0 (0, 7) ∧ 
  cal d nMo_readsAll [xr l0] g w (fun r g1 w1 => ∃ v1 : Int, r = some (xi v1) ∧ 
    ((v1 = 0) → xIs g1 l0 (0, 7) ∧ aMo_town d lim Q 18 [xr l0, xi v1, none] [xi (w1 l0 27), xr l0] g1 w1) ∧
    ((¬ v1 = 0) → aMo_town d lim Q 18 [xr l0, xi v1, none] [xi (-1), xr l0] g1 w1))) :
    aMo_town d lim Q 0 [xr l0, none, none] [] g w := xAt_exec (cal_m d) kMo_town 9 t
set_option maxRecDepth 20000 in
theorem wMo_town_18 {d : Nat} {lim : Nat × Nat} {Q : xQ} {l1 s1 : Int} {l0 s0 : Nat} {g : xG} {w : xW} (t : xIs g s0 (0, 7) ∧ xIs g l0 (0, 7) ∧ 
  ((¬ l1 = 0) → xIs g l0 (0, 7) ∧ xIs g l0 (0, 7) ∧ xIs g l0 (0, 7) ∧ xIs g l0 (0, 7) ∧ xIs g l0 (0, 7) ∧ 
    cal d nMo_emptyNow [xr l0] g (xup (xup (xup (xup w s0 26 s1) l0 25 0) l0 4 ((xup (xup w s0 26 s1) l0 25 0) l0 33)) l0 5 ((xup (xup (xup w s0 26 s1) l0 25 0) l0 4 ((xup (xup w s0 26 s1) l0 25 0) l0 33)) l0 34)) (fun r g1 w1 => r = none ∧ xIs g1 l0 (0, 7) ∧ xA1 g1 (g1.2 l0 0) 139 ∧ aMo_town d lim Q 69 [xr l0, none, xi 0] [] g1 (xup w1 (g1.2 l0 0) (Int.toNat 139) 3))) ∧
  ((l1 = 0) → xIs g l0 (0, 7) ∧ x32 ((-10) - ((xup (xup w s0 26 s1) l0 25 0) l0 31)) ∧ Q (some (xi ((-10) - ((xup (xup w s0 26 s1) l0 25 0) l0 31)))) g (xup (xup w s0 26 s1) l0 25 0))) :
    aMo_town d lim Q 18 [xr l0, xi l1, none] [xi s1, xr s0] g w := xAt_exec (cal_m d) kMo_town 24 t
set_option maxRecDepth 20000 in
theorem wMo_town_69 {d : Nat} {lim : Nat × Nat} {Q : xQ} {l2 : Int} {l0 : Nat} {g : xG} {w : xW} (t : 
  ((20 ≤ l2) → xIs g l0 (0, 7) ∧ xIs g l0 (0, 7) ∧ xIs g l0 (0, 7) ∧ xIs g l0 (0, 7) ∧ aMo_town d lim Q 168 [xr l0, none, xi 0] [] g (xup (xup w l0 7 (w l0 39)) l0 8 ((xup w l0 7 (w l0 39)) l0 40))) ∧
  ((l2 < 20) → xIs g l0 (0, 7) ∧ x32 (0 + l2) ∧ xIs g l0 (0, 7) ∧ 
    cal d nMo_cells [xr l0] g w (fun r g1 w1 => ∃ v1 : Int, r = some (xi v1) ∧ 
      ((v1 ≤ l2) → aMo_town d lim Q 98 [xr l0, none, xi l2] [xi 0, xi (0 + l2), xr (g.2 l0 0)] g1 w1) ∧
      ((l2 < v1) → xIs g1 l0 (0, 7) ∧ aMo_town d lim Q 98 [xr l0, none, xi l2] [xi (w1 l0 35), xi (0 + l2), xr (g.2 l0 0)] g1 w1)))) :
    aMo_town d lim Q 69 [xr l0, none, xi l2] [] g w := xAt_exec (cal_m d) kMo_town 16 t
set_option maxRecDepth 20000 in
theorem wMo_town_98 {d : Nat} {lim : Nat × Nat} {Q : xQ} {l2 s1 s2 : Int} {l0 s0 : Nat} {g : xG} {w : xW} (t : xA1 g s0 s1 ∧ xIs g l0 (0, 7) ∧ x32 (20 + l2) ∧ xIs g l0 (0, 7) ∧ xAr g (g.2 l0 36) l2 ∧ xA1 g (g.2 l0 0) (20 + l2) ∧ xIs g l0 (0, 7) ∧ x32 (40 + l2) ∧ xIs g l0 (0, 7) ∧ x32 (20 + l2) ∧ xAr g (g.2 l0 36) (20 + l2) ∧ xA1 g (g.2 l0 0) (40 + l2) ∧ xIs g l0 (0, 7) ∧ xIs g l0 (0, 7) ∧ xA2 g (g.2 l0 38) l2 ∧ (xA2 g (g.2 l0 6) l2 ∧ ((((xup (xup (xup w s0 (Int.toNat s1) s2) (g.2 l0 0) (Int.toNat (20 + l2)) ((xup w s0 (Int.toNat s1) s2) (g.2 l0 36) (Int.toNat l2))) (g.2 l0 0) (Int.toNat (40 + l2)) ((xup (xup w s0 (Int.toNat s1) s2) (g.2 l0 0) (Int.toNat (20 + l2)) ((xup w s0 (Int.toNat s1) s2) (g.2 l0 36) (Int.toNat l2))) (g.2 l0 36) (Int.toNat (20 + l2)))) (g.2 l0 38) (Int.toNat l2)) : Int) = 0 ∨ (((xup (xup (xup w s0 (Int.toNat s1) s2) (g.2 l0 0) (Int.toNat (20 + l2)) ((xup w s0 (Int.toNat s1) s2) (g.2 l0 36) (Int.toNat l2))) (g.2 l0 0) (Int.toNat (40 + l2)) ((xup (xup w s0 (Int.toNat s1) s2) (g.2 l0 0) (Int.toNat (20 + l2)) ((xup w s0 (Int.toNat s1) s2) (g.2 l0 36) (Int.toNat l2))) (g.2 l0 36) (Int.toNat (20 + l2)))) (g.2 l0 38) (Int.toNat l2)) : Int) = 1)) ∧ x32 (l2 + 1) ∧ aMo_town d lim Q 69 [xr l0, none, xi (l2 + 1)] [] g (xup (xup (xup (xup w s0 (Int.toNat s1) s2) (g.2 l0 0) (Int.toNat (20 + l2)) ((xup w s0 (Int.toNat s1) s2) (g.2 l0 36) (Int.toNat l2))) (g.2 l0 0) (Int.toNat (40 + l2)) ((xup (xup w s0 (Int.toNat s1) s2) (g.2 l0 0) (Int.toNat (20 + l2)) ((xup w s0 (Int.toNat s1) s2) (g.2 l0 36) (Int.toNat l2))) (g.2 l0 36) (Int.toNat (20 + l2)))) (g.2 l0 6) (Int.toNat l2) ((xup (xup (xup w s0 (Int.toNat s1) s2) (g.2 l0 0) (Int.toNat (20 + l2)) ((xup w s0 (Int.toNat s1) s2) (g.2 l0 36) (Int.toNat l2))) (g.2 l0 0) (Int.toNat (40 + l2)) ((xup (xup w s0 (Int.toNat s1) s2) (g.2 l0 0) (Int.toNat (20 + l2)) ((xup w s0 (Int.toNat s1) s2) (g.2 l0 36) (Int.toNat l2))) (g.2 l0 36) (Int.toNat (20 + l2)))) (g.2 l0 38) (Int.toNat l2)))) :
    aMo_town d lim Q 98 [xr l0, none, xi l2] [xi s2, xi s1, xr s0] g w := xAt_exec (cal_m d) kMo_town 34 t
set_option maxRecDepth 20000 in
theorem wMo_town_168 {d : Nat} {lim : Nat × Nat} {Q : xQ} {l2 : Int} {l0 : Nat} {g : xG} {w : xW} (t : xIs g l0 (0, 7) ∧ 
  (((w l0 8) ≤ l2) → xIs g l0 (0, 7) ∧ xIs g l0 (0, 7) ∧ aMo_town d lim Q 236 [xr l0, none, xi 0] [] g (xup w l0 11 (w l0 43))) ∧
  ((l2 < (w l0 8)) → xIs g l0 (0, 7) ∧ xIs g l0 (0, 7) ∧ xAr g (g.2 l0 41) l2 ∧ xA1 g (g.2 l0 9) l2 ∧ xIs g l0 (0, 7) ∧ xIs g l0 (0, 7) ∧ x32 (4 + l2) ∧ xAr g (g.2 l0 41) (4 + l2) ∧ xA1 g (g.2 l0 10) l2 ∧ xIs g l0 (0, 7) ∧ x32 (100 + l2) ∧ xIs g l0 (0, 7) ∧ x32 (8 + l2) ∧ xAr g (g.2 l0 41) (8 + l2) ∧ xA1 g (g.2 l0 0) (100 + l2) ∧ x32 (l2 + 1) ∧ aMo_town d lim Q 168 [xr l0, none, xi (l2 + 1)] [] g (xup (xup (xup w (g.2 l0 9) (Int.toNat l2) (w (g.2 l0 41) (Int.toNat l2))) (g.2 l0 10) (Int.toNat l2) ((xup w (g.2 l0 9) (Int.toNat l2) (w (g.2 l0 41) (Int.toNat l2))) (g.2 l0 41) (Int.toNat (4 + l2)))) (g.2 l0 0) (Int.toNat (100 + l2)) ((xup (xup w (g.2 l0 9) (Int.toNat l2) (w (g.2 l0 41) (Int.toNat l2))) (g.2 l0 10) (Int.toNat l2) ((xup w (g.2 l0 9) (Int.toNat l2) (w (g.2 l0 41) (Int.toNat l2))) (g.2 l0 41) (Int.toNat (4 + l2)))) (g.2 l0 41) (Int.toNat (8 + l2)))))) :
    aMo_town d lim Q 168 [xr l0, none, xi l2] [] g w := xAt_exec (cal_m d) kMo_town 37 t
set_option maxRecDepth 20000 in
theorem wMo_town_236 {d : Nat} {lim : Nat × Nat} {Q : xQ} {l2 : Int} {l0 : Nat} {g : xG} {w : xW} (t : 
  ((8 ≤ l2) → xIs g l0 (0, 7) ∧ xIs g l0 (0, 7) ∧ aMo_town d lim Q 270 [xr l0, none, xi 0] [] g (xup w l0 13 (w l0 45))) ∧
  ((l2 < 8) → xIs g l0 (0, 7) ∧ xIs g l0 (0, 7) ∧ xAr g (g.2 l0 44) l2 ∧ xA1 g (g.2 l0 12) l2 ∧ x32 (l2 + 1) ∧ aMo_town d lim Q 236 [xr l0, none, xi (l2 + 1)] [] g (xup w (g.2 l0 12) (Int.toNat l2) (w (g.2 l0 44) (Int.toNat l2))))) :
    aMo_town d lim Q 236 [xr l0, none, xi l2] [] g w := xAt_exec (cal_m d) kMo_town 14 t
set_option maxRecDepth 20000 in
theorem wMo_town_270 {d : Nat} {lim : Nat × Nat} {Q : xQ} {l2 : Int} {l0 : Nat} {g : xG} {w : xW} (t : xIs g l0 (0, 7) ∧ 
  (((w l0 13) ≤ l2) → xIs g l0 (0, 7) ∧ xIs g l0 (0, 7) ∧ xIs g l0 (0, 7) ∧ (xA2 g (g.2 l0 2) 0 ∧ ((0 : Int) = 0 ∨ (0 : Int) = 1)) ∧ xIs g l0 (0, 7) ∧ (xA2 g (g.2 l0 2) 1 ∧ ((0 : Int) = 0 ∨ (0 : Int) = 1)) ∧ xIs g l0 (0, 7) ∧ 
    cal d nMo_cells [xr l0] g (xup (xup (xup (xup w l0 16 0) l0 20 0) (g.2 l0 2) (Int.toNat 0) 0) (g.2 l0 2) (Int.toNat 1) 0) (fun r g1 w1 => ∃ v1 : Int, r = some (xi v1) ∧ Q (some (xi v1)) g1 w1)) ∧
  ((l2 < (w l0 13)) → xIs g l0 (0, 7) ∧ x32 (108 + l2) ∧ xIs g l0 (0, 7) ∧ xAr g (g.2 l0 46) l2 ∧ xA1 g (g.2 l0 0) (108 + l2) ∧ xIs g l0 (0, 7) ∧ x32 (114 + l2) ∧ xIs g l0 (0, 7) ∧ x32 (6 + l2) ∧ xAr g (g.2 l0 46) (6 + l2) ∧ xA1 g (g.2 l0 0) (114 + l2) ∧ xIs g l0 (0, 7) ∧ xIs g l0 (0, 7) ∧ x32 (12 + l2) ∧ xAr g (g.2 l0 46) (12 + l2) ∧ xA1 g (g.2 l0 14) l2 ∧ xIs g l0 (0, 7) ∧ xIs g l0 (0, 7) ∧ x32 (18 + l2) ∧ xAr g (g.2 l0 46) (18 + l2) ∧ xA1 g (g.2 l0 15) l2 ∧ x32 (l2 + 1) ∧ aMo_town d lim Q 270 [xr l0, none, xi (l2 + 1)] [] g (xup (xup (xup (xup w (g.2 l0 0) (Int.toNat (108 + l2)) (w (g.2 l0 46) (Int.toNat l2))) (g.2 l0 0) (Int.toNat (114 + l2)) ((xup w (g.2 l0 0) (Int.toNat (108 + l2)) (w (g.2 l0 46) (Int.toNat l2))) (g.2 l0 46) (Int.toNat (6 + l2)))) (g.2 l0 14) (Int.toNat l2) ((xup (xup w (g.2 l0 0) (Int.toNat (108 + l2)) (w (g.2 l0 46) (Int.toNat l2))) (g.2 l0 0) (Int.toNat (114 + l2)) ((xup w (g.2 l0 0) (Int.toNat (108 + l2)) (w (g.2 l0 46) (Int.toNat l2))) (g.2 l0 46) (Int.toNat (6 + l2)))) (g.2 l0 46) (Int.toNat (12 + l2)))) (g.2 l0 15) (Int.toNat l2) ((xup (xup (xup w (g.2 l0 0) (Int.toNat (108 + l2)) (w (g.2 l0 46) (Int.toNat l2))) (g.2 l0 0) (Int.toNat (114 + l2)) ((xup w (g.2 l0 0) (Int.toNat (108 + l2)) (w (g.2 l0 46) (Int.toNat l2))) (g.2 l0 46) (Int.toNat (6 + l2)))) (g.2 l0 14) (Int.toNat l2) ((xup (xup w (g.2 l0 0) (Int.toNat (108 + l2)) (w (g.2 l0 46) (Int.toNat l2))) (g.2 l0 0) (Int.toNat (114 + l2)) ((xup w (g.2 l0 0) (Int.toNat (108 + l2)) (w (g.2 l0 46) (Int.toNat l2))) (g.2 l0 46) (Int.toNat (6 + l2)))) (g.2 l0 46) (Int.toNat (12 + l2)))) (g.2 l0 46) (Int.toNat (18 + l2)))))) :
    aMo_town d lim Q 270 [xr l0, none, xi l2] [] g w := xAt_exec (cal_m d) kMo_town 49 t
theorem eMo_town {d : Nat} {Q : xQ} {l0 : Nat} {g : xG} {w : xW} (t : ∀ (lim : Nat × Nat) (Q2 : xQ), (∀ r g2 w2, g2.1 = g.1 → Q r g2 w2 → Q2 r g2 w2) → aMo_town d lim Q2 0 [xr l0, none, none] [] g w) : cal (d + 1) nMo_town [xr l0] g w Q := t _ _ xQof
abbrev aMo_fault (d : Nat) (lim : Nat × Nat) (Q : xQ) : xK := xAt xMks tMo_fault (cal d) lim Q
def kMo_fault : List (Nat × List Bool) := []
set_option maxRecDepth 20000 in
theorem wMo_fault_0 {d : Nat} {lim : Nat × Nat} {Q : xQ} {l0 : Nat} {g : xG} {w : xW} (t : xIs g l0 (0, 7) ∧ Q (some (xi (w l0 26))) g w) :
    aMo_fault d lim Q 0 [xr l0] [] g w := xAt_exec (cal_m d) kMo_fault 4 t
theorem eMo_fault {d : Nat} {Q : xQ} {l0 : Nat} {g : xG} {w : xW} (t : ∀ (lim : Nat × Nat) (Q2 : xQ), (∀ r g2 w2, g2.1 = g.1 → Q r g2 w2 → Q2 r g2 w2) → aMo_fault d lim Q2 0 [xr l0] [] g w) : cal (d + 1) nMo_fault [xr l0] g w Q := t _ _ xQof
abbrev aMo_wallsNow (d : Nat) (lim : Nat × Nat) (Q : xQ) : xK := xAt xMks tMo_wallsNow (cal d) lim Q
def kMo_wallsNow : List (Nat × List Bool) := [(5, [true, true, true])]
set_option maxRecDepth 20000 in
theorem wMo_wallsNow_0 {d : Nat} {lim : Nat × Nat} {Q : xQ} {l0 : Nat} {g : xG} {w : xW} (t : aMo_wallsNow d lim Q 5 [xr l0, xi 0, xi 20] [] g w) :
    aMo_wallsNow d lim Q 0 [xr l0, none, none] [] g w := xAt_exec (cal_m d) kMo_wallsNow 5 t
set_option maxRecDepth 20000 in
theorem wMo_wallsNow_5 {d : Nat} {lim : Nat × Nat} {Q : xQ} {l1 l2 : Int} {l0 : Nat} {g : xG} {w : xW} (t : 
  ((60 ≤ l2) → Q (some (xi l1)) g w) ∧
  ((l2 < 60) → xIs g l0 (0, 7) ∧ xAr g (g.2 l0 0) l2 ∧ x32 (l1 + (w (g.2 l0 0) (Int.toNat l2))) ∧ x32 (l2 + 1) ∧ aMo_wallsNow d lim Q 5 [xr l0, xi (l1 + (w (g.2 l0 0) (Int.toNat l2))), xi (l2 + 1)] [] g w)) :
    aMo_wallsNow d lim Q 5 [xr l0, xi l1, xi l2] [] g w := xAt_exec (cal_m d) kMo_wallsNow 13 t
theorem eMo_wallsNow {d : Nat} {Q : xQ} {l0 : Nat} {g : xG} {w : xW} (t : ∀ (lim : Nat × Nat) (Q2 : xQ), (∀ r g2 w2, g2.1 = g.1 → Q r g2 w2 → Q2 r g2 w2) → aMo_wallsNow d lim Q2 0 [xr l0, none, none] [] g w) : cal (d + 1) nMo_wallsNow [xr l0] g w Q := t _ _ xQof
abbrev aMo_sunAt (d : Nat) (lim : Nat × Nat) (Q : xQ) : xK := xAt xMks tMo_sunAt (cal d) lim Q
def kMo_sunAt : List (Nat × List Bool) := []
set_option maxRecDepth 20000 in
theorem wMo_sunAt_0 {d : Nat} {lim : Nat × Nat} {Q : xQ} {l1 : Int} {l0 : Nat} {g : xG} {w : xW} (t : xIs g l0 (0, 7) ∧ 
  ((¬ (w l0 11) = 0) → xIs g l0 (0, 7) ∧ ((6 : Int) ≠ 0 ∧ x32 (Int.tdiv l1 6)) ∧ xIs g l0 (0, 7) ∧ (((w l0 11) : Int) ≠ 0 ∧ x32 (Int.tdiv (Int.tdiv l1 6) (w l0 11))) ∧ xAr g (g.2 l0 12) (Int.tmod (Int.tdiv l1 6) (w l0 11)) ∧ Q (some (xi (w (g.2 l0 12) (Int.toNat (Int.tmod (Int.tdiv l1 6) (w l0 11)))))) g w) ∧
  (((w l0 11) = 0) → Q (some (xi 0)) g w)) :
    aMo_sunAt d lim Q 0 [xr l0, xi l1] [] g w := xAt_exec (cal_m d) kMo_sunAt 14 t
theorem eMo_sunAt {d : Nat} {Q : xQ} {l1 : Int} {l0 : Nat} {g : xG} {w : xW} (t : ∀ (lim : Nat × Nat) (Q2 : xQ), (∀ r g2 w2, g2.1 = g.1 → Q r g2 w2 → Q2 r g2 w2) → aMo_sunAt d lim Q2 0 [xr l0, xi l1] [] g w) : cal (d + 1) nMo_sunAt [xr l0, xi l1] g w Q := t _ _ xQof
abbrev aMo_told (d : Nat) (lim : Nat × Nat) (Q : xQ) : xK := xAt xMks tMo_told (cal d) lim Q
def kMo_told : List (Nat × List Bool) := []
set_option maxRecDepth 20000 in
theorem wMo_told_0 {d : Nat} {lim : Nat × Nat} {Q : xQ} {l1 : Int} {l0 : Nat} {g : xG} {w : xW} (t : 
  ((l1 < 0 ∨ 14 < l1) → Q (some (xi (-1000000002))) g w) ∧
  ((l1 = 0) → xIs g l0 (0, 7) ∧ Q (some (xi (w l0 4))) g w) ∧
  ((l1 = 1) → xIs g l0 (0, 7) ∧ Q (some (xi (w l0 5))) g w) ∧
  ((l1 = 2) → xIs g l0 (0, 7) ∧ 
    cal d nMo_wallsNow [xr l0] g w (fun r g1 w1 => ∃ v1 : Int, r = some (xi v1) ∧ Q (some (xi v1)) g1 w1)) ∧
  ((l1 = 3) → xIs g l0 (0, 7) ∧ Q (some (xi (w l0 8))) g w) ∧
  ((l1 = 4) → xIs g l0 (0, 7) ∧ Q (some (xi (w l0 7))) g w) ∧
  ((l1 = 5) → xIs g l0 (0, 7) ∧ Q (some (xi (w l0 11))) g w) ∧
  ((l1 = 6) → xIs g l0 (0, 7) ∧ Q (some (xi (w l0 13))) g w) ∧
  ((l1 = 7) → xIs g l0 (0, 7) ∧ Q (some (xi (w l0 25))) g w) ∧
  ((l1 = 8) → xIs g l0 (0, 7) ∧ xAr g (g.2 l0 0) 140 ∧ Q (some (xi (w (g.2 l0 0) (Int.toNat 140)))) g w) ∧
  ((l1 = 9) → xIs g l0 (0, 7) ∧ xAr g (g.2 l0 0) 138 ∧ Q (some (xi (w (g.2 l0 0) (Int.toNat 138)))) g w) ∧
  ((l1 = 10) → xIs g l0 (0, 7) ∧ xAr g (g.2 l0 0) 139 ∧ Q (some (xi (w (g.2 l0 0) (Int.toNat 139)))) g w) ∧
  ((l1 = 11) → xIs g l0 (0, 7) ∧ xAr g (g.2 l0 0) 140 ∧ xIs g l0 (0, 7) ∧ 
    cal d nMo_sunAt [xr l0, xi (w (g.2 l0 0) (Int.toNat 140))] g w (fun r g2 w2 => ∃ v2 : Int, r = some (xi v2) ∧ Q (some (xi v2)) g2 w2)) ∧
  ((l1 = 12) → xIs g l0 (0, 7) ∧ xAr g (g.2 l0 0) 142 ∧ Q (some (xi (w (g.2 l0 0) (Int.toNat 142)))) g w) ∧
  ((l1 = 13) → xIs g l0 (0, 7) ∧ Q (some (xi (w l0 16))) g w) ∧
  ((l1 = 14) → xIs g l0 (0, 7) ∧ Q (some (xi (w l0 20))) g w) ∧ True) :
    aMo_told d lim Q 0 [xr l0, xi l1] [] g w := xAt_exec (cal_m d) kMo_told 10 t
theorem eMo_told {d : Nat} {Q : xQ} {l1 : Int} {l0 : Nat} {g : xG} {w : xW} (t : ∀ (lim : Nat × Nat) (Q2 : xQ), (∀ r g2 w2, g2.1 = g.1 → Q r g2 w2 → Q2 r g2 w2) → aMo_told d lim Q2 0 [xr l0, xi l1] [] g w) : cal (d + 1) nMo_told [xr l0, xi l1] g w Q := t _ _ xQof
abbrev aMo_onCell (d : Nat) (lim : Nat × Nat) (Q : xQ) : xK := xAt xMks tMo_onCell (cal d) lim Q
def kMo_onCell : List (Nat × List Bool) := [(4, [true, true, true, true])]
set_option maxRecDepth 20000 in
theorem wMo_onCell_0 {d : Nat} {lim : Nat × Nat} {Q : xQ} {l1 : Int} {l0 : Nat} {g : xG} {w : xW} (t : aMo_onCell d lim Q 4 [xr l0, xi l1, xi 0, xi 0] [] g w) :
    aMo_onCell d lim Q 0 [xr l0, xi l1, none, none] [] g w := xAt_exec (cal_m d) kMo_onCell 5 t
set_option maxRecDepth 20000 in
theorem wMo_onCell_4 {d : Nat} {lim : Nat × Nat} {Q : xQ} {l1 l2 l3 : Int} {l0 : Nat} {g : xG} {w : xW} (t : xIs g l0 (0, 7) ∧ 
  (((w l0 13) ≤ l3) → Q (some (xi l2)) g w) ∧
  ((l3 < (w l0 13)) → xIs g l0 (0, 7) ∧ x32 (108 + l3) ∧ xAr g (g.2 l0 0) (108 + l3) ∧ 
    ((¬ (w (g.2 l0 0) (Int.toNat (108 + l3))) = l1) → x32 (l3 + 1) ∧ aMo_onCell d lim Q 4 [xr l0, xi l1, xi (xOr l2 0), xi (l3 + 1)] [] g w) ∧
    (((w (g.2 l0 0) (Int.toNat (108 + l3))) = l1) → x32 (l3 + 1) ∧ aMo_onCell d lim Q 4 [xr l0, xi l1, xi (xOr l2 (xShl 1 l3)), xi (l3 + 1)] [] g w))) :
    aMo_onCell d lim Q 4 [xr l0, xi l1, xi l2, xi l3] [] g w := xAt_exec (cal_m d) kMo_onCell 22 t
theorem eMo_onCell {d : Nat} {Q : xQ} {l1 : Int} {l0 : Nat} {g : xG} {w : xW} (t : ∀ (lim : Nat × Nat) (Q2 : xQ), (∀ r g2 w2, g2.1 = g.1 → Q r g2 w2 → Q2 r g2 w2) → aMo_onCell d lim Q2 0 [xr l0, xi l1, none, none] [] g w) : cal (d + 1) nMo_onCell [xr l0, xi l1] g w Q := t _ _ xQof
abbrev aMo_cell (d : Nat) (lim : Nat × Nat) (Q : xQ) : xK := xAt xMks tMo_cell (cal d) lim Q
def kMo_cell : List (Nat × List Bool) := []
set_option maxRecDepth 20000 in
theorem wMo_cell_0 {d : Nat} {lim : Nat × Nat} {Q : xQ} {l1 l2 l3 : Int} {l0 : Nat} {g : xG} {w : xW} (t : xIs g l0 (0, 7) ∧ 
  cal d nMo_isCell [xr l0, xi l1, xi l2] g w (fun r g1 w1 => ∃ v1 : Int, r = some (xi v1) ∧ 
    ((¬ v1 = 0) → xIs g1 l0 (0, 7) ∧ x32 ((w1 l0 4) * l2) ∧ x32 (((w1 l0 4) * l2) + l1) ∧ 
      ((l3 < 0 ∨ 3 < l3) → Q (some (xi (-1000000002))) g1 w1) ∧
      ((l3 = 0) → xIs g1 l0 (0, 7) ∧ x32 (0 + (((w1 l0 4) * l2) + l1)) ∧ xAr g1 (g1.2 l0 0) (0 + (((w1 l0 4) * l2) + l1)) ∧ Q (some (xi (w1 (g1.2 l0 0) (Int.toNat (0 + (((w1 l0 4) * l2) + l1)))))) g1 w1) ∧
      ((l3 = 1) → xIs g1 l0 (0, 7) ∧ x32 (60 + (((w1 l0 4) * l2) + l1)) ∧ xAr g1 (g1.2 l0 0) (60 + (((w1 l0 4) * l2) + l1)) ∧ Q (some (xi (w1 (g1.2 l0 0) (Int.toNat (60 + (((w1 l0 4) * l2) + l1)))))) g1 w1) ∧
      ((l3 = 2) → xIs g1 l0 (0, 7) ∧ xA2 g1 (g1.2 l0 6) (((w1 l0 4) * l2) + l1) ∧ 
        (((w1 (g1.2 l0 6) (Int.toNat (((w1 l0 4) * l2) + l1))) = 0) → Q (some (xi 0)) g1 w1) ∧
        ((¬ (w1 (g1.2 l0 6) (Int.toNat (((w1 l0 4) * l2) + l1))) = 0) → Q (some (xi 1)) g1 w1)) ∧
      ((l3 = 3) → xIs g1 l0 (0, 7) ∧ 
        cal d nMo_onCell [xr l0, xi (((w1 l0 4) * l2) + l1)] g1 w1 (fun r g2 w2 => ∃ v2 : Int, r = some (xi v2) ∧ Q (some (xi v2)) g2 w2)) ∧ True) ∧
    ((v1 = 0) → Q (some (xi (-1000000001))) g1 w1))) :
    aMo_cell d lim Q 0 [xr l0, xi l1, xi l2, xi l3, none] [] g w := xAt_exec (cal_m d) kMo_cell 23 t
theorem eMo_cell {d : Nat} {Q : xQ} {l1 l2 l3 : Int} {l0 : Nat} {g : xG} {w : xW} (t : ∀ (lim : Nat × Nat) (Q2 : xQ), (∀ r g2 w2, g2.1 = g.1 → Q r g2 w2 → Q2 r g2 w2) → aMo_cell d lim Q2 0 [xr l0, xi l1, xi l2, xi l3, none] [] g w) : cal (d + 1) nMo_cell [xr l0, xi l1, xi l2, xi l3] g w Q := t _ _ xQof
abbrev aMo_notWall (d : Nat) (lim : Nat × Nat) (Q : xQ) : xK := xAt xMks tMo_notWall (cal d) lim Q
def kMo_notWall : List (Nat × List Bool) := [(24, [true, true, true, true]), (43, [false, false, false, true])]
set_option maxRecDepth 20000 in
theorem wMo_notWall_0 {d : Nat} {lim : Nat × Nat} {Q : xQ} {l1 l2 l3 : Int} {l0 : Nat} {g : xG} {w : xW} (t : xIs g l0 (0, 7) ∧ 
  cal d nMo_isCell [xr l0, xi l1, xi l2] g w (fun r g1 w1 => ∃ v1 : Int, r = some (xi v1) ∧ 
    ((v1 = 0) → Q (some (xi (-1000000001))) g1 w1) ∧
    ((¬ v1 = 0) → 
      ((¬ l3 = 0) → aMo_notWall d lim Q 24 [xr l0, xi l1, xi l2, xi l3] [] g1 w1) ∧
      ((l3 = 0) → x32 (l1 + 1) ∧ xIs g1 l0 (0, 7) ∧ 
        cal d nMo_isCell [xr l0, xi (l1 + 1), xi l2] g1 w1 (fun r g2 w2 => ∃ v2 : Int, r = some (xi v2) ∧ 
          ((v2 = 0) → Q (some (xi (-1000000001))) g2 w2) ∧
          ((¬ v2 = 0) → aMo_notWall d lim Q 24 [xr l0, xi l1, xi l2, xi l3] [] g2 w2)))))) :
    aMo_notWall d lim Q 0 [xr l0, xi l1, xi l2, xi l3] [] g w := xAt_exec (cal_m d) kMo_notWall 17 t
set_option maxRecDepth 20000 in
theorem wMo_notWall_24 {d : Nat} {lim : Nat × Nat} {Q : xQ} {l1 l2 l3 : Int} {l0 : Nat} {g : xG} {w : xW} (t : 
  ((¬ l3 = 1) → aMo_notWall d lim Q 43 [none, none, none, xi l3] [] g w) ∧
  ((l3 = 1) → x32 (l2 + 1) ∧ xIs g l0 (0, 7) ∧ 
    cal d nMo_isCell [xr l0, xi l1, xi (l2 + 1)] g w (fun r g1 w1 => ∃ v1 : Int, r = some (xi v1) ∧ 
      ((¬ v1 = 0) → aMo_notWall d lim Q 43 [none, none, none, xi l3] [] g1 w1) ∧
      ((v1 = 0) → Q (some (xi (-1000000001))) g1 w1)))) :
    aMo_notWall d lim Q 24 [xr l0, xi l1, xi l2, xi l3] [] g w := xAt_exec (cal_m d) kMo_notWall 13 t
set_option maxRecDepth 20000 in
theorem wMo_notWall_43 {d : Nat} {lim : Nat × Nat} {Q : xQ} {l3 : Int} {g : xG} {w : xW} (t : 
  cal d nMo_in [xl l3, xl 0, xl 1] g w (fun r g1 w1 => ∃ v1 : Int, r = some (xi v1) ∧ 
    ((v1 = 0) → Q (some (xi (-1000000002))) g1 w1) ∧
    ((¬ v1 = 0) → Q (some (xi 0)) g1 w1))) :
    aMo_notWall d lim Q 43 [none, none, none, xi l3] [] g w := xAt_exec (cal_m d) kMo_notWall 10 t
theorem eMo_notWall {d : Nat} {Q : xQ} {l1 l2 l3 : Int} {l0 : Nat} {g : xG} {w : xW} (t : ∀ (lim : Nat × Nat) (Q2 : xQ), (∀ r g2 w2, g2.1 = g.1 → Q r g2 w2 → Q2 r g2 w2) → aMo_notWall d lim Q2 0 [xr l0, xi l1, xi l2, xi l3] [] g w) : cal (d + 1) nMo_notWall [xr l0, xi l1, xi l2, xi l3] g w Q := t _ _ xQof
abbrev aMo_wall (d : Nat) (lim : Nat × Nat) (Q : xQ) : xK := xAt xMks tMo_wall (cal d) lim Q
def kMo_wall : List (Nat × List Bool) := []
set_option maxRecDepth 20000 in
theorem wMo_wall_0 {d : Nat} {lim : Nat × Nat} {Q : xQ} {l1 l2 l3 : Int} {l0 : Nat} {g : xG} {w : xW} (t : xIs g l0 (0, 7) ∧ 
  cal d nMo_notWall [xr l0, xi l1, xi l2, xi l3] g w (fun r g1 w1 => ∃ v1 : Int, r = some (xi v1) ∧ 
    ((v1 = 0) → xIs g1 l0 (0, 7) ∧ x32 (20 * l3) ∧ x32 (20 + (20 * l3)) ∧ xIs g1 l0 (0, 7) ∧ x32 ((w1 l0 4) * l2) ∧ x32 ((20 + (20 * l3)) + ((w1 l0 4) * l2)) ∧ x32 (((20 + (20 * l3)) + ((w1 l0 4) * l2)) + l1) ∧ xAr g1 (g1.2 l0 0) (((20 + (20 * l3)) + ((w1 l0 4) * l2)) + l1) ∧ Q (some (xi (w1 (g1.2 l0 0) (Int.toNat (((20 + (20 * l3)) + ((w1 l0 4) * l2)) + l1))))) g1 w1) ∧
    ((¬ v1 = 0) → Q (some (xi v1)) g1 w1))) :
    aMo_wall d lim Q 0 [xr l0, xi l1, xi l2, xi l3, none] [] g w := xAt_exec (cal_m d) kMo_wall 25 t
theorem eMo_wall {d : Nat} {Q : xQ} {l1 l2 l3 : Int} {l0 : Nat} {g : xG} {w : xW} (t : ∀ (lim : Nat × Nat) (Q2 : xQ), (∀ r g2 w2, g2.1 = g.1 → Q r g2 w2 → Q2 r g2 w2) → aMo_wall d lim Q2 0 [xr l0, xi l1, xi l2, xi l3, none] [] g w) : cal (d + 1) nMo_wall [xr l0, xi l1, xi l2, xi l3] g w Q := t _ _ xQof
abbrev aMo_stove (d : Nat) (lim : Nat × Nat) (Q : xQ) : xK := xAt xMks tMo_stove (cal d) lim Q
def kMo_stove : List (Nat × List Bool) := []
set_option maxRecDepth 20000 in
theorem wMo_stove_0 {d : Nat} {lim : Nat × Nat} {Q : xQ} {l1 l2 : Int} {l0 : Nat} {g : xG} {w : xW} (t : xIs g l0 (0, 7) ∧ 
  cal d nMo_isStove [xr l0, xi l1] g w (fun r g1 w1 => ∃ v1 : Int, r = some (xi v1) ∧ 
    ((¬ v1 = 0) → 
      ((l2 < 0 ∨ 3 < l2) → Q (some (xi (-1000000002))) g1 w1) ∧
      ((l2 = 0) → xIs g1 l0 (0, 7) ∧ xAr g1 (g1.2 l0 9) l1 ∧ xIs g1 l0 (0, 7) ∧ 
        cal d nMo_named [xr l0, xi (w1 (g1.2 l0 9) (Int.toNat l1))] g1 w1 (fun r g2 w2 => ∃ v2 : Int, r = some (xi v2) ∧ Q (some (xi v2)) g2 w2)) ∧
      ((l2 = 1) → xIs g1 l0 (0, 7) ∧ xAr g1 (g1.2 l0 10) l1 ∧ Q (some (xi (w1 (g1.2 l0 10) (Int.toNat l1)))) g1 w1) ∧
      ((l2 = 2) → xIs g1 l0 (0, 7) ∧ x32 (100 + l1) ∧ xAr g1 (g1.2 l0 0) (100 + l1) ∧ Q (some (xi (w1 (g1.2 l0 0) (Int.toNat (100 + l1))))) g1 w1) ∧
      ((l2 = 3) → xIs g1 l0 (0, 7) ∧ x32 (104 + l1) ∧ xAr g1 (g1.2 l0 0) (104 + l1) ∧ Q (some (xi (w1 (g1.2 l0 0) (Int.toNat (104 + l1))))) g1 w1) ∧ True) ∧
    ((v1 = 0) → Q (some (xi (-1000000001))) g1 w1))) :
    aMo_stove d lim Q 0 [xr l0, xi l1, xi l2] [] g w := xAt_exec (cal_m d) kMo_stove 14 t
theorem eMo_stove {d : Nat} {Q : xQ} {l1 l2 : Int} {l0 : Nat} {g : xG} {w : xW} (t : ∀ (lim : Nat × Nat) (Q2 : xQ), (∀ r g2 w2, g2.1 = g.1 → Q r g2 w2 → Q2 r g2 w2) → aMo_stove d lim Q2 0 [xr l0, xi l1, xi l2] [] g w) : cal (d + 1) nMo_stove [xr l0, xi l1, xi l2] g w Q := t _ _ xQof
abbrev aMo_owns (d : Nat) (lim : Nat × Nat) (Q : xQ) : xK := xAt xMks tMo_owns (cal d) lim Q
def kMo_owns : List (Nat × List Bool) := [(4, [true, true, true, true])]
set_option maxRecDepth 20000 in
theorem wMo_owns_0 {d : Nat} {lim : Nat × Nat} {Q : xQ} {l1 : Int} {l0 : Nat} {g : xG} {w : xW} (t : aMo_owns d lim Q 4 [xr l0, xi l1, xi 0, xi 0] [] g w) :
    aMo_owns d lim Q 0 [xr l0, xi l1, none, none] [] g w := xAt_exec (cal_m d) kMo_owns 5 t
set_option maxRecDepth 20000 in
theorem wMo_owns_4 {d : Nat} {lim : Nat × Nat} {Q : xQ} {l1 l2 l3 : Int} {l0 : Nat} {g : xG} {w : xW} (t : xIs g l0 (0, 7) ∧ 
  cal d nMo_cells [xr l0] g w (fun r g1 w1 => ∃ v1 : Int, r = some (xi v1) ∧ 
    ((v1 ≤ l3) → Q (some (xi l2)) g1 w1) ∧
    ((l3 < v1) → xIs g1 l0 (0, 7) ∧ x32 (60 + l3) ∧ xAr g1 (g1.2 l0 0) (60 + l3) ∧ 
      ((¬ (w1 (g1.2 l0 0) (Int.toNat (60 + l3))) = l1) → x32 (l2 + 0) ∧ x32 (l3 + 1) ∧ aMo_owns d lim Q 4 [xr l0, xi l1, xi (l2 + 0), xi (l3 + 1)] [] g1 w1) ∧
      (((w1 (g1.2 l0 0) (Int.toNat (60 + l3))) = l1) → x32 (l2 + 1) ∧ x32 (l3 + 1) ∧ aMo_owns d lim Q 4 [xr l0, xi l1, xi (l2 + 1), xi (l3 + 1)] [] g1 w1)))) :
    aMo_owns d lim Q 4 [xr l0, xi l1, xi l2, xi l3] [] g w := xAt_exec (cal_m d) kMo_owns 20 t
theorem eMo_owns {d : Nat} {Q : xQ} {l1 : Int} {l0 : Nat} {g : xG} {w : xW} (t : ∀ (lim : Nat × Nat) (Q2 : xQ), (∀ r g2 w2, g2.1 = g.1 → Q r g2 w2 → Q2 r g2 w2) → aMo_owns d lim Q2 0 [xr l0, xi l1, none, none] [] g w) : cal (d + 1) nMo_owns [xr l0, xi l1] g w Q := t _ _ xQof
abbrev aMo_person (d : Nat) (lim : Nat × Nat) (Q : xQ) : xK := xAt xMks tMo_person (cal d) lim Q
def kMo_person : List (Nat × List Bool) := []
set_option maxRecDepth 20000 in
theorem wMo_person_0 {d : Nat} {lim : Nat × Nat} {Q : xQ} {l1 l2 : Int} {l0 : Nat} {g : xG} {w : xW} (t : xIs g l0 (0, 7) ∧ 
  cal d nMo_isPerson [xr l0, xi l1] g w (fun r g1 w1 => ∃ v1 : Int, r = some (xi v1) ∧ 
    ((¬ v1 = 0) → 
      ((l2 < 0 ∨ 7 < l2) → Q (some (xi (-1000000002))) g1 w1) ∧
      ((l2 = 0) → xIs g1 l0 (0, 7) ∧ x32 (108 + l1) ∧ xAr g1 (g1.2 l0 0) (108 + l1) ∧ xIs g1 l0 (0, 7) ∧ 
        cal d nMo_named [xr l0, xi (w1 (g1.2 l0 0) (Int.toNat (108 + l1)))] g1 w1 (fun r g2 w2 => ∃ v2 : Int, r = some (xi v2) ∧ Q (some (xi v2)) g2 w2)) ∧
      ((l2 = 1) → xIs g1 l0 (0, 7) ∧ x32 (114 + l1) ∧ xAr g1 (g1.2 l0 0) (114 + l1) ∧ Q (some (xi (w1 (g1.2 l0 0) (Int.toNat (114 + l1))))) g1 w1) ∧
      ((l2 = 2) → xIs g1 l0 (0, 7) ∧ xAr g1 (g1.2 l0 14) l1 ∧ Q (some (xi (w1 (g1.2 l0 14) (Int.toNat l1)))) g1 w1) ∧
      ((l2 = 3) → xIs g1 l0 (0, 7) ∧ xAr g1 (g1.2 l0 15) l1 ∧ Q (some (xi (w1 (g1.2 l0 15) (Int.toNat l1)))) g1 w1) ∧
      ((l2 = 4) → xIs g1 l0 (0, 7) ∧ x32 (120 + l1) ∧ xAr g1 (g1.2 l0 0) (120 + l1) ∧ Q (some (xi (w1 (g1.2 l0 0) (Int.toNat (120 + l1))))) g1 w1) ∧
      ((l2 = 5) → xIs g1 l0 (0, 7) ∧ x32 (126 + l1) ∧ xAr g1 (g1.2 l0 0) (126 + l1) ∧ Q (some (xi (w1 (g1.2 l0 0) (Int.toNat (126 + l1))))) g1 w1) ∧
      ((l2 = 6) → xIs g1 l0 (0, 7) ∧ 
        cal d nMo_owns [xr l0, xi l1] g1 w1 (fun r g3 w3 => ∃ v3 : Int, r = some (xi v3) ∧ Q (some (xi v3)) g3 w3)) ∧
      ((l2 = 7) → xIs g1 l0 (0, 7) ∧ x32 (132 + l1) ∧ xAr g1 (g1.2 l0 0) (132 + l1) ∧ Q (some (xi (w1 (g1.2 l0 0) (Int.toNat (132 + l1))))) g1 w1) ∧ True) ∧
    ((v1 = 0) → Q (some (xi (-1000000001))) g1 w1))) :
    aMo_person d lim Q 0 [xr l0, xi l1, xi l2] [] g w := xAt_exec (cal_m d) kMo_person 16 t
theorem eMo_person {d : Nat} {Q : xQ} {l1 l2 : Int} {l0 : Nat} {g : xG} {w : xW} (t : ∀ (lim : Nat × Nat) (Q2 : xQ), (∀ r g2 w2, g2.1 = g.1 → Q r g2 w2 → Q2 r g2 w2) → aMo_person d lim Q2 0 [xr l0, xi l1, xi l2] [] g w) : cal (d + 1) nMo_person [xr l0, xi l1, xi l2] g w Q := t _ _ xQof
abbrev aMo_way (d : Nat) (lim : Nat × Nat) (Q : xQ) : xK := xAt xMks tMo_way (cal d) lim Q
def kMo_way : List (Nat × List Bool) := []
set_option maxRecDepth 20000 in
theorem wMo_way_0 {d : Nat} {lim : Nat × Nat} {Q : xQ} {l1 l2 : Int} {l0 : Nat} {g : xG} {w : xW} (t : xIs g l0 (0, 7) ∧ (((w l0 4) : Int) ≠ 0 ∧ x32 (Int.tdiv l1 (w l0 4))) ∧ xIs g l0 (0, 7) ∧ (((w l0 4) : Int) ≠ 0 ∧ x32 (Int.tdiv l1 (w l0 4))) ∧ 
  ((l2 < 1 ∨ 4 < l2) → Q (some (xi l1)) g w) ∧
  ((l2 = 1) → 
    (((Int.tdiv l1 (w l0 4)) ≤ 0) → Q (some (xi (-1))) g w) ∧
    ((0 < (Int.tdiv l1 (w l0 4))) → xIs g l0 (0, 7) ∧ x32 (40 + l1) ∧ xIs g l0 (0, 7) ∧ x32 ((40 + l1) - (w l0 4)) ∧ xAr g (g.2 l0 0) ((40 + l1) - (w l0 4)) ∧ 
      ((¬ (w (g.2 l0 0) (Int.toNat ((40 + l1) - (w l0 4)))) = 0) → Q (some (xi (-1))) g w) ∧
      (((w (g.2 l0 0) (Int.toNat ((40 + l1) - (w l0 4)))) = 0) → xIs g l0 (0, 7) ∧ x32 (l1 - (w l0 4)) ∧ Q (some (xi (l1 - (w l0 4)))) g w))) ∧
  ((l2 = 2) → xIs g l0 (0, 7) ∧ x32 ((w l0 4) - 1) ∧ 
    ((((w l0 4) - 1) ≤ (Int.tmod l1 (w l0 4))) → Q (some (xi (-1))) g w) ∧
    (((Int.tmod l1 (w l0 4)) < ((w l0 4) - 1)) → xIs g l0 (0, 7) ∧ x32 (20 + l1) ∧ xAr g (g.2 l0 0) (20 + l1) ∧ 
      ((¬ (w (g.2 l0 0) (Int.toNat (20 + l1))) = 0) → Q (some (xi (-1))) g w) ∧
      (((w (g.2 l0 0) (Int.toNat (20 + l1))) = 0) → x32 (l1 + 1) ∧ Q (some (xi (l1 + 1))) g w))) ∧
  ((l2 = 3) → xIs g l0 (0, 7) ∧ x32 ((w l0 5) - 1) ∧ 
    ((((w l0 5) - 1) ≤ (Int.tdiv l1 (w l0 4))) → Q (some (xi (-1))) g w) ∧
    (((Int.tdiv l1 (w l0 4)) < ((w l0 5) - 1)) → xIs g l0 (0, 7) ∧ x32 (40 + l1) ∧ xAr g (g.2 l0 0) (40 + l1) ∧ 
      ((¬ (w (g.2 l0 0) (Int.toNat (40 + l1))) = 0) → Q (some (xi (-1))) g w) ∧
      (((w (g.2 l0 0) (Int.toNat (40 + l1))) = 0) → xIs g l0 (0, 7) ∧ x32 (l1 + (w l0 4)) ∧ Q (some (xi (l1 + (w l0 4)))) g w))) ∧
  ((l2 = 4) → 
    (((Int.tmod l1 (w l0 4)) ≤ 0) → Q (some (xi (-1))) g w) ∧
    ((0 < (Int.tmod l1 (w l0 4))) → xIs g l0 (0, 7) ∧ x32 (20 + l1) ∧ x32 ((20 + l1) - 1) ∧ xAr g (g.2 l0 0) ((20 + l1) - 1) ∧ 
      ((¬ (w (g.2 l0 0) (Int.toNat ((20 + l1) - 1))) = 0) → Q (some (xi (-1))) g w) ∧
      (((w (g.2 l0 0) (Int.toNat ((20 + l1) - 1))) = 0) → x32 (l1 - 1) ∧ Q (some (xi (l1 - 1))) g w))) ∧ True) :
    aMo_way d lim Q 0 [xr l0, xi l1, xi l2, none, none] [] g w := xAt_exec (cal_m d) kMo_way 32 t
theorem eMo_way {d : Nat} {Q : xQ} {l1 l2 : Int} {l0 : Nat} {g : xG} {w : xW} (t : ∀ (lim : Nat × Nat) (Q2 : xQ), (∀ r g2 w2, g2.1 = g.1 → Q r g2 w2 → Q2 r g2 w2) → aMo_way d lim Q2 0 [xr l0, xi l1, xi l2, none, none] [] g w) : cal (d + 1) nMo_way [xr l0, xi l1, xi l2] g w Q := t _ _ xQof
abbrev aMo_go (d : Nat) (lim : Nat × Nat) (Q : xQ) : xK := xAt xMks tMo_go (cal d) lim Q
def kMo_go : List (Nat × List Bool) := []
set_option maxRecDepth 20000 in
theorem wMo_go_0 {d : Nat} {lim : Nat × Nat} {Q : xQ} {l1 l2 : Int} {l0 : Nat} {g : xG} {w : xW} (t : xIs g l0 (0, 7) ∧ 
  cal d nMo_isPerson [xr l0, xi l1] g w (fun r g1 w1 => ∃ v1 : Int, r = some (xi v1) ∧ 
    ((¬ v1 = 0) → 
      cal d nMo_in [xl l2, xl 1, xl 4] g1 w1 (fun r g2 w2 => ∃ v2 : Int, r = some (xi v2) ∧ 
        ((¬ v2 = 0) → xIs g2 l0 (0, 7) ∧ x32 (108 + l1) ∧ xAr g2 (g2.2 l0 0) (108 + l1) ∧ xIs g2 l0 (0, 7) ∧ 
          cal d nMo_way [xr l0, xi (w2 (g2.2 l0 0) (Int.toNat (108 + l1))), xi l2] g2 w2 (fun r g3 w3 => ∃ v3 : Int, r = some (xi v3) ∧ 
            ((¬ v3 = (-1)) → xIs g3 l0 (0, 7) ∧ x32 (108 + l1) ∧ xA1 g3 (g3.2 l0 0) (108 + l1) ∧ xIs g3 l0 (0, 7) ∧ 
              cal d nMo_named [xr l0, xi v3] g3 (xup w3 (g3.2 l0 0) (Int.toNat (108 + l1)) v3) (fun r g4 w4 => ∃ v4 : Int, r = some (xi v4) ∧ Q (some (xi v4)) g4 w4)) ∧
            ((v3 = (-1)) → Q (some (xi (-1000000003))) g3 w3))) ∧
        ((v2 = 0) → Q (some (xi (-1000000002))) g2 w2))) ∧
    ((v1 = 0) → Q (some (xi (-1000000001))) g1 w1))) :
    aMo_go d lim Q 0 [xr l0, xi l1, xi l2, none] [] g w := xAt_exec (cal_m d) kMo_go 35 t
theorem eMo_go {d : Nat} {Q : xQ} {l1 l2 : Int} {l0 : Nat} {g : xG} {w : xW} (t : ∀ (lim : Nat × Nat) (Q2 : xQ), (∀ r g2 w2, g2.1 = g.1 → Q r g2 w2 → Q2 r g2 w2) → aMo_go d lim Q2 0 [xr l0, xi l1, xi l2, none] [] g w) : cal (d + 1) nMo_go [xr l0, xi l1, xi l2] g w Q := t _ _ xQof
abbrev aMo_build (d : Nat) (lim : Nat × Nat) (Q : xQ) : xK := xAt xMks tMo_build (cal d) lim Q
def kMo_build : List (Nat × List Bool) := []
set_option maxRecDepth 20000 in
theorem wMo_build_0 {d : Nat} {lim : Nat × Nat} {Q : xQ} {l1 l2 l3 l4 : Int} {l0 : Nat} {g : xG} {w : xW} (t : xIs g l0 (0, 7) ∧ 
  cal d nMo_notWall [xr l0, xi l1, xi l2, xi l3] g w (fun r g1 w1 => ∃ v1 : Int, r = some (xi v1) ∧ 
    ((v1 = 0) → x32 (20 * l3) ∧ x32 (20 + (20 * l3)) ∧ xIs g1 l0 (0, 7) ∧ x32 ((w1 l0 4) * l2) ∧ x32 ((20 + (20 * l3)) + ((w1 l0 4) * l2)) ∧ x32 (((20 + (20 * l3)) + ((w1 l0 4) * l2)) + l1) ∧ xIs g1 l0 (0, 7) ∧ xAr g1 (g1.2 l0 0) (((20 + (20 * l3)) + ((w1 l0 4) * l2)) + l1) ∧ xIs g1 l0 (0, 7) ∧ 
      ((l4 = 0) → xA1 g1 (g1.2 l0 0) (((20 + (20 * l3)) + ((w1 l0 4) * l2)) + l1) ∧ Q (some (xi (w1 (g1.2 l0 0) (Int.toNat (((20 + (20 * l3)) + ((w1 l0 4) * l2)) + l1))))) g1 (xup w1 (g1.2 l0 0) (Int.toNat (((20 + (20 * l3)) + ((w1 l0 4) * l2)) + l1)) 0)) ∧
      ((¬ l4 = 0) → xA1 g1 (g1.2 l0 0) (((20 + (20 * l3)) + ((w1 l0 4) * l2)) + l1) ∧ Q (some (xi (w1 (g1.2 l0 0) (Int.toNat (((20 + (20 * l3)) + ((w1 l0 4) * l2)) + l1))))) g1 (xup w1 (g1.2 l0 0) (Int.toNat (((20 + (20 * l3)) + ((w1 l0 4) * l2)) + l1)) 1))) ∧
    ((¬ v1 = 0) → Q (some (xi v1)) g1 w1))) :
    aMo_build d lim Q 0 [xr l0, xi l1, xi l2, xi l3, xi l4, none, none, none] [] g w := xAt_exec (cal_m d) kMo_build 37 t
theorem eMo_build {d : Nat} {Q : xQ} {l1 l2 l3 l4 : Int} {l0 : Nat} {g : xG} {w : xW} (t : ∀ (lim : Nat × Nat) (Q2 : xQ), (∀ r g2 w2, g2.1 = g.1 → Q r g2 w2 → Q2 r g2 w2) → aMo_build d lim Q2 0 [xr l0, xi l1, xi l2, xi l3, xi l4, none, none, none] [] g w) : cal (d + 1) nMo_build [xr l0, xi l1, xi l2, xi l3, xi l4] g w Q := t _ _ xQof
abbrev aMo_canBeLit (d : Nat) (lim : Nat × Nat) (Q : xQ) : xK := xAt xMks tMo_canBeLit (cal d) lim Q
def kMo_canBeLit : List (Nat × List Bool) := []
set_option maxRecDepth 20000 in
theorem wMo_canBeLit_0 {d : Nat} {lim : Nat × Nat} {Q : xQ} {l1 : Int} {l0 : Nat} {g : xG} {w : xW} (t : xIs g l0 (0, 7) ∧ x32 (104 + l1) ∧ xAr g (g.2 l0 0) (104 + l1) ∧ 
  ((¬ (w (g.2 l0 0) (Int.toNat (104 + l1))) = 0) → ((0 : Int) = 0 ∨ (0 : Int) = 1) ∧ Q (some (xi 0)) g w) ∧
  (((w (g.2 l0 0) (Int.toNat (104 + l1))) = 0) → xIs g l0 (0, 7) ∧ x32 (100 + l1) ∧ xAr g (g.2 l0 0) (100 + l1) ∧ 
    (((w (g.2 l0 0) (Int.toNat (100 + l1))) ≤ 0) → ((0 : Int) = 0 ∨ (0 : Int) = 1) ∧ Q (some (xi 0)) g w) ∧
    ((0 < (w (g.2 l0 0) (Int.toNat (100 + l1)))) → ((1 : Int) = 0 ∨ (1 : Int) = 1) ∧ Q (some (xi 1)) g w))) :
    aMo_canBeLit d lim Q 0 [xr l0, xi l1] [] g w := xAt_exec (cal_m d) kMo_canBeLit 18 t
theorem eMo_canBeLit {d : Nat} {Q : xQ} {l1 : Int} {l0 : Nat} {g : xG} {w : xW} (t : ∀ (lim : Nat × Nat) (Q2 : xQ), (∀ r g2 w2, g2.1 = g.1 → Q r g2 w2 → Q2 r g2 w2) → aMo_canBeLit d lim Q2 0 [xr l0, xi l1] [] g w) : cal (d + 1) nMo_canBeLit [xr l0, xi l1] g w Q := t _ _ xQof
abbrev aMo_light (d : Nat) (lim : Nat × Nat) (Q : xQ) : xK := xAt xMks tMo_light (cal d) lim Q
def kMo_light : List (Nat × List Bool) := []
set_option maxRecDepth 20000 in
theorem wMo_light_0 {d : Nat} {lim : Nat × Nat} {Q : xQ} {l1 : Int} {l0 : Nat} {g : xG} {w : xW} (t : xIs g l0 (0, 7) ∧ 
  cal d nMo_isStove [xr l0, xi l1] g w (fun r g1 w1 => ∃ v1 : Int, r = some (xi v1) ∧ 
    ((¬ v1 = 0) → xIs g1 l0 (0, 7) ∧ 
      cal d nMo_canBeLit [xr l0, xi l1] g1 w1 (fun r g2 w2 => ∃ v2 : Int, r = some (xi v2) ∧ 
        ((¬ v2 = 0) → xIs g2 l0 (0, 7) ∧ x32 (104 + l1) ∧ xA1 g2 (g2.2 l0 0) (104 + l1) ∧ xIs g2 l0 (0, 7) ∧ x32 (100 + l1) ∧ xAr g2 (g2.2 l0 0) (100 + l1) ∧ Q (some (xi ((xup w2 (g2.2 l0 0) (Int.toNat (104 + l1)) 1) (g2.2 l0 0) (Int.toNat (100 + l1))))) g2 (xup w2 (g2.2 l0 0) (Int.toNat (104 + l1)) 1)) ∧
        ((v2 = 0) → Q (some (xi (-1000000003))) g2 w2))) ∧
    ((v1 = 0) → Q (some (xi (-1000000001))) g1 w1))) :
    aMo_light d lim Q 0 [xr l0, xi l1] [] g w := xAt_exec (cal_m d) kMo_light 23 t
theorem eMo_light {d : Nat} {Q : xQ} {l1 : Int} {l0 : Nat} {g : xG} {w : xW} (t : ∀ (lim : Nat × Nat) (Q2 : xQ), (∀ r g2 w2, g2.1 = g.1 → Q r g2 w2 → Q2 r g2 w2) → aMo_light d lim Q2 0 [xr l0, xi l1] [] g w) : cal (d + 1) nMo_light [xr l0, xi l1] g w Q := t _ _ xQof
abbrev aMo_stoke (d : Nat) (lim : Nat × Nat) (Q : xQ) : xK := xAt xMks tMo_stoke (cal d) lim Q
def kMo_stoke : List (Nat × List Bool) := [(60, [true, true, false, false])]
set_option maxRecDepth 20000 in
theorem wMo_stoke_0 {d : Nat} {lim : Nat × Nat} {Q : xQ} {l1 l2 : Int} {l0 : Nat} {g : xG} {w : xW} (t : xIs g l0 (0, 7) ∧ 
  cal d nMo_isStove [xr l0, xi l1] g w (fun r g1 w1 => ∃ v1 : Int, r = some (xi v1) ∧ 
    ((¬ v1 = 0) → 
      cal d nMo_in [xl l2, xl 1, xl 99] g1 w1 (fun r g2 w2 => ∃ v2 : Int, r = some (xi v2) ∧ 
        ((¬ v2 = 0) → xIs g2 l0 (0, 7) ∧ x32 (100 + l1) ∧ xAr g2 (g2.2 l0 0) (100 + l1) ∧ x32 ((w2 (g2.2 l0 0) (Int.toNat (100 + l1))) + l2) ∧ xIs g2 l0 (0, 7) ∧ x32 (100 + l1) ∧ 
          ((((w2 (g2.2 l0 0) (Int.toNat (100 + l1))) + l2) ≤ 999) → aMo_stoke d lim Q 60 [xr l0, xi l1, none, none] [xi ((w2 (g2.2 l0 0) (Int.toNat (100 + l1))) + l2), xi (100 + l1), xr (g2.2 l0 0)] g2 w2) ∧
          ((999 < ((w2 (g2.2 l0 0) (Int.toNat (100 + l1))) + l2)) → aMo_stoke d lim Q 60 [xr l0, xi l1, none, none] [xi 999, xi (100 + l1), xr (g2.2 l0 0)] g2 w2)) ∧
        ((v2 = 0) → Q (some (xi (-1000000002))) g2 w2))) ∧
    ((v1 = 0) → Q (some (xi (-1000000001))) g1 w1))) :
    aMo_stoke d lim Q 0 [xr l0, xi l1, xi l2, none] [] g w := xAt_exec (cal_m d) kMo_stoke 30 t
set_option maxRecDepth 20000 in
theorem wMo_stoke_60 {d : Nat} {lim : Nat × Nat} {Q : xQ} {l1 s1 s2 : Int} {l0 s0 : Nat} {g : xG} {w : xW} (t : xA1 g s0 s1 ∧ xIs g l0 (0, 7) ∧ x32 (100 + l1) ∧ xAr g (g.2 l0 0) (100 + l1) ∧ Q (some (xi ((xup w s0 (Int.toNat s1) s2) (g.2 l0 0) (Int.toNat (100 + l1))))) g (xup w s0 (Int.toNat s1) s2)) :
    aMo_stoke d lim Q 60 [xr l0, xi l1, none, none] [xi s2, xi s1, xr s0] g w := xAt_exec (cal_m d) kMo_stoke 9 t
theorem eMo_stoke {d : Nat} {Q : xQ} {l1 l2 : Int} {l0 : Nat} {g : xG} {w : xW} (t : ∀ (lim : Nat × Nat) (Q2 : xQ), (∀ r g2 w2, g2.1 = g.1 → Q r g2 w2 → Q2 r g2 w2) → aMo_stoke d lim Q2 0 [xr l0, xi l1, xi l2, none] [] g w) : cal (d + 1) nMo_stoke [xr l0, xi l1, xi l2] g w Q := t _ _ xQof
abbrev aMo_law (d : Nat) (lim : Nat × Nat) (Q : xQ) : xK := xAt xMks tMo_law (cal d) lim Q
def kMo_law : List (Nat × List Bool) := []
set_option maxRecDepth 20000 in
theorem wMo_law_0 {d : Nat} {lim : Nat × Nat} {Q : xQ} {l1 : Int} {l0 : Nat} {g : xG} {w : xW} (t : 
  cal d nMo_in [xl l1, xl 0, xl 3] g w (fun r g1 w1 => ∃ v1 : Int, r = some (xi v1) ∧ 
    ((¬ v1 = 0) → xIs g1 l0 (0, 7) ∧ xAr g1 (g1.2 l0 0) 138 ∧ xIs g1 l0 (0, 7) ∧ xA1 g1 (g1.2 l0 0) 138 ∧ Q (some (xi (w1 (g1.2 l0 0) (Int.toNat 138)))) g1 (xup w1 (g1.2 l0 0) (Int.toNat 138) l1)) ∧
    ((v1 = 0) → Q (some (xi (-1000000002))) g1 w1))) :
    aMo_law d lim Q 0 [xr l0, xi l1, none] [] g w := xAt_exec (cal_m d) kMo_law 19 t
theorem eMo_law {d : Nat} {Q : xQ} {l1 : Int} {l0 : Nat} {g : xG} {w : xW} (t : ∀ (lim : Nat × Nat) (Q2 : xQ), (∀ r g2 w2, g2.1 = g.1 → Q r g2 w2 → Q2 r g2 w2) → aMo_law d lim Q2 0 [xr l0, xi l1, none] [] g w) : cal (d + 1) nMo_law [xr l0, xi l1] g w Q := t _ _ xQof
abbrev aMo_last (d : Nat) (lim : Nat × Nat) (Q : xQ) : xK := xAt xMks tMo_last (cal d) lim Q
def kMo_last : List (Nat × List Bool) := []
set_option maxRecDepth 20000 in
theorem wMo_last_0 {d : Nat} {lim : Nat × Nat} {Q : xQ} {l1 : Int} {l0 : Nat} {g : xG} {w : xW} (t : 
  cal d nMo_in [xl l1, xl 1, xl 20] g w (fun r g1 w1 => ∃ v1 : Int, r = some (xi v1) ∧ 
    ((¬ v1 = 0) → xIs g1 l0 (0, 7) ∧ xAr g1 (g1.2 l0 0) 139 ∧ xIs g1 l0 (0, 7) ∧ xA1 g1 (g1.2 l0 0) 139 ∧ Q (some (xi (w1 (g1.2 l0 0) (Int.toNat 139)))) g1 (xup w1 (g1.2 l0 0) (Int.toNat 139) l1)) ∧
    ((v1 = 0) → Q (some (xi (-1000000002))) g1 w1))) :
    aMo_last d lim Q 0 [xr l0, xi l1, none] [] g w := xAt_exec (cal_m d) kMo_last 19 t
theorem eMo_last {d : Nat} {Q : xQ} {l1 : Int} {l0 : Nat} {g : xG} {w : xW} (t : ∀ (lim : Nat × Nat) (Q2 : xQ), (∀ r g2 w2, g2.1 = g.1 → Q r g2 w2 → Q2 r g2 w2) → aMo_last d lim Q2 0 [xr l0, xi l1, none] [] g w) : cal (d + 1) nMo_last [xr l0, xi l1] g w Q := t _ _ xQof
abbrev aMo_flows (d : Nat) (lim : Nat × Nat) (Q : xQ) : xK := xAt xMks tMo_flows (cal d) lim Q
def kMo_flows : List (Nat × List Bool) := [(4, [true, true, true, true, false])]
set_option maxRecDepth 20000 in
theorem wMo_flows_0 {d : Nat} {lim : Nat × Nat} {Q : xQ} {l1 : Int} {l0 : Nat} {g : xG} {w : xW} (t : aMo_flows d lim Q 4 [xr l0, xi l1, xi 0, xi 1, none] [] g w) :
    aMo_flows d lim Q 0 [xr l0, xi l1, none, none, none] [] g w := xAt_exec (cal_m d) kMo_flows 5 t
set_option maxRecDepth 20000 in
theorem wMo_flows_4 {d : Nat} {lim : Nat × Nat} {Q : xQ} {l1 l2 l3 : Int} {l0 : Nat} {g : xG} {w : xW} (t : 
  ((4 < l3) → Q (some (xi l2)) g w) ∧
  ((l3 ≤ 4) → xIs g l0 (0, 7) ∧ 
    cal d nMo_way [xr l0, xi l1, xi l3] g w (fun r g1 w1 => ∃ v1 : Int, r = some (xi v1) ∧ 
      ((¬ v1 = (-1)) → xIs g1 l0 (0, 7) ∧ x32 (0 + v1) ∧ xAr g1 (g1.2 l0 0) (0 + v1) ∧ xIs g1 l0 (0, 7) ∧ x32 (0 + l1) ∧ xAr g1 (g1.2 l0 0) (0 + l1) ∧ x32 ((w1 (g1.2 l0 0) (Int.toNat (0 + v1))) - (w1 (g1.2 l0 0) (Int.toNat (0 + l1)))) ∧ ((8 : Int) ≠ 0 ∧ x32 (Int.tdiv ((w1 (g1.2 l0 0) (Int.toNat (0 + v1))) - (w1 (g1.2 l0 0) (Int.toNat (0 + l1)))) 8)) ∧ x32 (l2 + (Int.tdiv ((w1 (g1.2 l0 0) (Int.toNat (0 + v1))) - (w1 (g1.2 l0 0) (Int.toNat (0 + l1)))) 8)) ∧ x32 (l3 + 1) ∧ aMo_flows d lim Q 4 [xr l0, xi l1, xi (l2 + (Int.tdiv ((w1 (g1.2 l0 0) (Int.toNat (0 + v1))) - (w1 (g1.2 l0 0) (Int.toNat (0 + l1)))) 8)), xi (l3 + 1), none] [] g1 w1) ∧
      ((v1 = (-1)) → x32 (l2 + 0) ∧ x32 (l3 + 1) ∧ aMo_flows d lim Q 4 [xr l0, xi l1, xi (l2 + 0), xi (l3 + 1), none] [] g1 w1)))) :
    aMo_flows d lim Q 4 [xr l0, xi l1, xi l2, xi l3, none] [] g w := xAt_exec (cal_m d) kMo_flows 32 t
theorem eMo_flows {d : Nat} {Q : xQ} {l1 : Int} {l0 : Nat} {g : xG} {w : xW} (t : ∀ (lim : Nat × Nat) (Q2 : xQ), (∀ r g2 w2, g2.1 = g.1 → Q r g2 w2 → Q2 r g2 w2) → aMo_flows d lim Q2 0 [xr l0, xi l1, none, none, none] [] g w) : cal (d + 1) nMo_flows [xr l0, xi l1] g w Q := t _ _ xQof
abbrev aMo_goHeat (d : Nat) (lim : Nat × Nat) (Q : xQ) : xK := xAt xMks tMo_goHeat (cal d) lim Q
def kMo_goHeat : List (Nat × List Bool) := [(2, [true, true, false]), (64, [true, true, false]), (152, [true, true, false]), (191, [true, true, false])]
set_option maxRecDepth 20000 in
theorem wMo_goHeat_0 {d : Nat} {lim : Nat × Nat} {Q : xQ} {l0 : Nat} {g : xG} {w : xW} (t : aMo_goHeat d lim Q 2 [xr l0, xi 0, none] [] g w) :
    aMo_goHeat d lim Q 0 [xr l0, none, none] [] g w := xAt_exec (cal_m d) kMo_goHeat 3 t
set_option maxRecDepth 20000 in
theorem wMo_goHeat_2 {d : Nat} {lim : Nat × Nat} {Q : xQ} {l1 : Int} {l0 : Nat} {g : xG} {w : xW} (t : xIs g l0 (0, 7) ∧ 
  cal d nMo_cells [xr l0] g w (fun r g1 w1 => ∃ v1 : Int, r = some (xi v1) ∧ 
    ((v1 ≤ l1) → aMo_goHeat d lim Q 64 [xr l0, xi 0, none] [] g1 w1) ∧
    ((l1 < v1) → xIs g1 l0 (0, 7) ∧ xIs g1 l0 (0, 7) ∧ x32 (0 + l1) ∧ xAr g1 (g1.2 l0 0) (0 + l1) ∧ xIs g1 l0 (0, 7) ∧ 
      cal d nMo_flows [xr l0, xi l1] g1 w1 (fun r g2 w2 => ∃ v2 : Int, r = some (xi v2) ∧ x32 ((w1 (g1.2 l0 0) (Int.toNat (0 + l1))) + v2) ∧ xIs g2 l0 (0, 7) ∧ xA2 g2 (g2.2 l0 6) l1 ∧ 
        (((w2 (g2.2 l0 6) (Int.toNat l1)) = 0) → xIs g2 l0 (0, 7) ∧ xAr g2 (g2.2 l0 0) 140 ∧ xIs g2 l0 (0, 7) ∧ 
          cal d nMo_sunAt [xr l0, xi (w2 (g2.2 l0 0) (Int.toNat 140))] g2 w2 (fun r g3 w3 => ∃ v3 : Int, r = some (xi v3) ∧ x32 (((w1 (g1.2 l0 0) (Int.toNat (0 + l1))) + v2) + v3) ∧ xA1 g3 (g1.2 l0 48) l1 ∧ x32 (l1 + 1) ∧ aMo_goHeat d lim Q 2 [xr l0, xi (l1 + 1), none] [] g3 (xup w3 (g1.2 l0 48) (Int.toNat l1) (((w1 (g1.2 l0 0) (Int.toNat (0 + l1))) + v2) + v3)))) ∧
        ((¬ (w2 (g2.2 l0 6) (Int.toNat l1)) = 0) → x32 (((w1 (g1.2 l0 0) (Int.toNat (0 + l1))) + v2) + 0) ∧ xA1 g2 (g1.2 l0 48) l1 ∧ x32 (l1 + 1) ∧ aMo_goHeat d lim Q 2 [xr l0, xi (l1 + 1), none] [] g2 (xup w2 (g1.2 l0 48) (Int.toNat l1) (((w1 (g1.2 l0 0) (Int.toNat (0 + l1))) + v2) + 0))))))) :
    aMo_goHeat d lim Q 2 [xr l0, xi l1, none] [] g w := xAt_exec (cal_m d) kMo_goHeat 33 t
set_option maxRecDepth 20000 in
theorem wMo_goHeat_64 {d : Nat} {lim : Nat × Nat} {Q : xQ} {l1 : Int} {l0 : Nat} {g : xG} {w : xW} (t : xIs g l0 (0, 7) ∧ 
  (((w l0 8) ≤ l1) → aMo_goHeat d lim Q 152 [xr l0, xi 0, none] [] g w) ∧
  ((l1 < (w l0 8)) → xIs g l0 (0, 7) ∧ x32 (104 + l1) ∧ xAr g (g.2 l0 0) (104 + l1) ∧ 
    ((¬ (w (g.2 l0 0) (Int.toNat (104 + l1))) = 1) → x32 (l1 + 1) ∧ aMo_goHeat d lim Q 64 [xr l0, xi (l1 + 1), none] [] g w) ∧
    (((w (g.2 l0 0) (Int.toNat (104 + l1))) = 1) → xIs g l0 (0, 7) ∧ xIs g l0 (0, 7) ∧ xAr g (g.2 l0 9) l1 ∧ xAr g (g.2 l0 48) (w (g.2 l0 9) (Int.toNat l1)) ∧ xIs g l0 (0, 7) ∧ xAr g (g.2 l0 10) l1 ∧ x32 ((w (g.2 l0 48) (Int.toNat (w (g.2 l0 9) (Int.toNat l1)))) + (w (g.2 l0 10) (Int.toNat l1))) ∧ xA1 g (g.2 l0 48) (w (g.2 l0 9) (Int.toNat l1)) ∧ xIs g l0 (0, 7) ∧ x32 (100 + l1) ∧ xAr g (g.2 l0 0) (100 + l1) ∧ x32 (((xup w (g.2 l0 48) (Int.toNat (w (g.2 l0 9) (Int.toNat l1))) ((w (g.2 l0 48) (Int.toNat (w (g.2 l0 9) (Int.toNat l1)))) + (w (g.2 l0 10) (Int.toNat l1)))) (g.2 l0 0) (Int.toNat (100 + l1))) - 1) ∧ xA1 g (g.2 l0 0) (100 + l1) ∧ xIs g l0 (0, 7) ∧ x32 (104 + l1) ∧ xIs g l0 (0, 7) ∧ x32 (100 + l1) ∧ xAr g (g.2 l0 0) (100 + l1) ∧ 
      ((((xup (xup w (g.2 l0 48) (Int.toNat (w (g.2 l0 9) (Int.toNat l1))) ((w (g.2 l0 48) (Int.toNat (w (g.2 l0 9) (Int.toNat l1)))) + (w (g.2 l0 10) (Int.toNat l1)))) (g.2 l0 0) (Int.toNat (100 + l1)) (((xup w (g.2 l0 48) (Int.toNat (w (g.2 l0 9) (Int.toNat l1))) ((w (g.2 l0 48) (Int.toNat (w (g.2 l0 9) (Int.toNat l1)))) + (w (g.2 l0 10) (Int.toNat l1)))) (g.2 l0 0) (Int.toNat (100 + l1))) - 1)) (g.2 l0 0) (Int.toNat (100 + l1))) ≤ 0) → xA1 g (g.2 l0 0) (104 + l1) ∧ x32 (l1 + 1) ∧ aMo_goHeat d lim Q 64 [xr l0, xi (l1 + 1), none] [] g (xup (xup (xup w (g.2 l0 48) (Int.toNat (w (g.2 l0 9) (Int.toNat l1))) ((w (g.2 l0 48) (Int.toNat (w (g.2 l0 9) (Int.toNat l1)))) + (w (g.2 l0 10) (Int.toNat l1)))) (g.2 l0 0) (Int.toNat (100 + l1)) (((xup w (g.2 l0 48) (Int.toNat (w (g.2 l0 9) (Int.toNat l1))) ((w (g.2 l0 48) (Int.toNat (w (g.2 l0 9) (Int.toNat l1)))) + (w (g.2 l0 10) (Int.toNat l1)))) (g.2 l0 0) (Int.toNat (100 + l1))) - 1)) (g.2 l0 0) (Int.toNat (104 + l1)) 0)) ∧
      ((0 < ((xup (xup w (g.2 l0 48) (Int.toNat (w (g.2 l0 9) (Int.toNat l1))) ((w (g.2 l0 48) (Int.toNat (w (g.2 l0 9) (Int.toNat l1)))) + (w (g.2 l0 10) (Int.toNat l1)))) (g.2 l0 0) (Int.toNat (100 + l1)) (((xup w (g.2 l0 48) (Int.toNat (w (g.2 l0 9) (Int.toNat l1))) ((w (g.2 l0 48) (Int.toNat (w (g.2 l0 9) (Int.toNat l1)))) + (w (g.2 l0 10) (Int.toNat l1)))) (g.2 l0 0) (Int.toNat (100 + l1))) - 1)) (g.2 l0 0) (Int.toNat (100 + l1)))) → xA1 g (g.2 l0 0) (104 + l1) ∧ x32 (l1 + 1) ∧ aMo_goHeat d lim Q 64 [xr l0, xi (l1 + 1), none] [] g (xup (xup (xup w (g.2 l0 48) (Int.toNat (w (g.2 l0 9) (Int.toNat l1))) ((w (g.2 l0 48) (Int.toNat (w (g.2 l0 9) (Int.toNat l1)))) + (w (g.2 l0 10) (Int.toNat l1)))) (g.2 l0 0) (Int.toNat (100 + l1)) (((xup w (g.2 l0 48) (Int.toNat (w (g.2 l0 9) (Int.toNat l1))) ((w (g.2 l0 48) (Int.toNat (w (g.2 l0 9) (Int.toNat l1)))) + (w (g.2 l0 10) (Int.toNat l1)))) (g.2 l0 0) (Int.toNat (100 + l1))) - 1)) (g.2 l0 0) (Int.toNat (104 + l1)) 1))))) :
    aMo_goHeat d lim Q 64 [xr l0, xi l1, none] [] g w := xAt_exec (cal_m d) kMo_goHeat 54 t
set_option maxRecDepth 20000 in
theorem wMo_goHeat_152 {d : Nat} {lim : Nat × Nat} {Q : xQ} {l1 : Int} {l0 : Nat} {g : xG} {w : xW} (t : xIs g l0 (0, 7) ∧ 
  (((w l0 13) ≤ l1) → aMo_goHeat d lim Q 191 [xr l0, xi 0, none] [] g w) ∧
  ((l1 < (w l0 13)) → xIs g l0 (0, 7) ∧ xIs g l0 (0, 7) ∧ x32 (108 + l1) ∧ xAr g (g.2 l0 0) (108 + l1) ∧ xAr g (g.2 l0 48) (w (g.2 l0 0) (Int.toNat (108 + l1))) ∧ xIs g l0 (0, 7) ∧ xAr g (g.2 l0 15) l1 ∧ x32 ((w (g.2 l0 48) (Int.toNat (w (g.2 l0 0) (Int.toNat (108 + l1))))) + (w (g.2 l0 15) (Int.toNat l1))) ∧ xA1 g (g.2 l0 48) (w (g.2 l0 0) (Int.toNat (108 + l1))) ∧ x32 (l1 + 1) ∧ aMo_goHeat d lim Q 152 [xr l0, xi (l1 + 1), none] [] g (xup w (g.2 l0 48) (Int.toNat (w (g.2 l0 0) (Int.toNat (108 + l1)))) ((w (g.2 l0 48) (Int.toNat (w (g.2 l0 0) (Int.toNat (108 + l1))))) + (w (g.2 l0 15) (Int.toNat l1)))))) :
    aMo_goHeat d lim Q 152 [xr l0, xi l1, none] [] g w := xAt_exec (cal_m d) kMo_goHeat 23 t
set_option maxRecDepth 20000 in
theorem wMo_goHeat_191 {d : Nat} {lim : Nat × Nat} {Q : xQ} {l1 : Int} {l0 : Nat} {g : xG} {w : xW} (t : xIs g l0 (0, 7) ∧ 
  cal d nMo_cells [xr l0] g w (fun r g1 w1 => ∃ v1 : Int, r = some (xi v1) ∧ 
    ((v1 ≤ l1) → Q none g1 w1) ∧
    ((l1 < v1) → xIs g1 l0 (0, 7) ∧ xAr g1 (g1.2 l0 48) l1 ∧ xIs g1 l0 (0, 7) ∧ xAr g1 (g1.2 l0 48) l1 ∧ ((50 : Int) ≠ 0 ∧ x32 (Int.tdiv (w1 (g1.2 l0 48) (Int.toNat l1)) 50)) ∧ x32 ((w1 (g1.2 l0 48) (Int.toNat l1)) - (Int.tdiv (w1 (g1.2 l0 48) (Int.toNat l1)) 50)) ∧ xIs g1 l0 (0, 7) ∧ x32 (0 + l1) ∧ 
      ((((w1 (g1.2 l0 48) (Int.toNat l1)) - (Int.tdiv (w1 (g1.2 l0 48) (Int.toNat l1)) 50)) ≤ 999) → xA1 g1 (g1.2 l0 0) (0 + l1) ∧ x32 (l1 + 1) ∧ aMo_goHeat d lim Q 191 [xr l0, xi (l1 + 1), none] [] g1 (xup w1 (g1.2 l0 0) (Int.toNat (0 + l1)) ((w1 (g1.2 l0 48) (Int.toNat l1)) - (Int.tdiv (w1 (g1.2 l0 48) (Int.toNat l1)) 50)))) ∧
      ((999 < ((w1 (g1.2 l0 48) (Int.toNat l1)) - (Int.tdiv (w1 (g1.2 l0 48) (Int.toNat l1)) 50))) → xA1 g1 (g1.2 l0 0) (0 + l1) ∧ x32 (l1 + 1) ∧ aMo_goHeat d lim Q 191 [xr l0, xi (l1 + 1), none] [] g1 (xup w1 (g1.2 l0 0) (Int.toNat (0 + l1)) 999))))) :
    aMo_goHeat d lim Q 191 [xr l0, xi l1, none] [] g w := xAt_exec (cal_m d) kMo_goHeat 30 t
theorem eMo_goHeat {d : Nat} {Q : xQ} {l0 : Nat} {g : xG} {w : xW} (t : ∀ (lim : Nat × Nat) (Q2 : xQ), (∀ r g2 w2, g2.1 = g.1 → Q r g2 w2 → Q2 r g2 w2) → aMo_goHeat d lim Q2 0 [xr l0, none, none] [] g w) : cal (d + 1) nMo_goHeat [xr l0] g w Q := t _ _ xQof
abbrev aMo_feel (d : Nat) (lim : Nat × Nat) (Q : xQ) : xK := xAt xMks tMo_feel (cal d) lim Q
def kMo_feel : List (Nat × List Bool) := [(7, [true, true, false]), (63, [true, true, false])]
set_option maxRecDepth 20000 in
theorem wMo_feel_0 {d : Nat} {lim : Nat × Nat} {Q : xQ} {l0 : Nat} {g : xG} {w : xW} (t : xIs g l0 (0, 7) ∧ aMo_feel d lim Q 7 [xr l0, xi 0, none] [] g (xup w l0 49 0)) :
    aMo_feel d lim Q 0 [xr l0, none, none] [] g w := xAt_exec (cal_m d) kMo_feel 6 t
set_option maxRecDepth 20000 in
theorem wMo_feel_7 {d : Nat} {lim : Nat × Nat} {Q : xQ} {l1 : Int} {l0 : Nat} {g : xG} {w : xW} (t : xIs g l0 (0, 7) ∧ 
  (((w l0 13) ≤ l1) → Q none g w) ∧
  ((l1 < (w l0 13)) → xIs g l0 (0, 7) ∧ 
    ((l1 = (w l0 50)) → aMo_feel d lim Q 63 [xr l0, xi l1, none] [xi 0] g w) ∧
    ((¬ l1 = (w l0 50)) → xIs g l0 (0, 7) ∧ xIs g l0 (0, 7) ∧ x32 (108 + l1) ∧ xAr g (g.2 l0 0) (108 + l1) ∧ x32 (0 + (w (g.2 l0 0) (Int.toNat (108 + l1)))) ∧ xAr g (g.2 l0 0) (0 + (w (g.2 l0 0) (Int.toNat (108 + l1)))) ∧ xIs g l0 (0, 7) ∧ x32 (114 + l1) ∧ xAr g (g.2 l0 0) (114 + l1) ∧ xIs g l0 (0, 7) ∧ xAr g (g.2 l0 14) l1 ∧ x32 ((w (g.2 l0 0) (Int.toNat (114 + l1))) + (w (g.2 l0 14) (Int.toNat l1))) ∧ 
      (((w (g.2 l0 0) (Int.toNat (0 + (w (g.2 l0 0) (Int.toNat (108 + l1)))))) < ((w (g.2 l0 0) (Int.toNat (114 + l1))) + (w (g.2 l0 14) (Int.toNat l1)))) → aMo_feel d lim Q 63 [xr l0, xi l1, none] [xi 0] g w) ∧
      ((((w (g.2 l0 0) (Int.toNat (114 + l1))) + (w (g.2 l0 14) (Int.toNat l1))) ≤ (w (g.2 l0 0) (Int.toNat (0 + (w (g.2 l0 0) (Int.toNat (108 + l1))))))) → aMo_feel d lim Q 63 [xr l0, xi l1, none] [xi 1] g w)))) :
    aMo_feel d lim Q 7 [xr l0, xi l1, none] [] g w := xAt_exec (cal_m d) kMo_feel 34 t
set_option maxRecDepth 20000 in
theorem wMo_feel_63 {d : Nat} {lim : Nat × Nat} {Q : xQ} {l1 s0 : Int} {l0 : Nat} {g : xG} {w : xW} (t : xIs g l0 (0, 7) ∧ 
  ((s0 = 0) → xIs g l0 (0, 7) ∧ x32 (l1 + 1) ∧ aMo_feel d lim Q 7 [xr l0, xi (l1 + 1), none] [] g (xup w l0 49 (xOr (w l0 49) 0))) ∧
  ((¬ s0 = 0) → xIs g l0 (0, 7) ∧ x32 (l1 + 1) ∧ aMo_feel d lim Q 7 [xr l0, xi (l1 + 1), none] [] g (xup w l0 49 (xOr (w l0 49) (xShl 1 l1))))) :
    aMo_feel d lim Q 63 [xr l0, xi l1, none] [xi s0] g w := xAt_exec (cal_m d) kMo_feel 15 t
theorem eMo_feel {d : Nat} {Q : xQ} {l0 : Nat} {g : xG} {w : xW} (t : ∀ (lim : Nat × Nat) (Q2 : xQ), (∀ r g2 w2, g2.1 = g.1 → Q r g2 w2 → Q2 r g2 w2) → aMo_feel d lim Q2 0 [xr l0, none, none] [] g w) : cal (d + 1) nMo_feel [xr l0] g w Q := t _ _ xQof
abbrev aMo_feelsOn (d : Nat) (lim : Nat × Nat) (Q : xQ) : xK := xAt xMks tMo_feelsOn (cal d) lim Q
def kMo_feelsOn : List (Nat × List Bool) := []
set_option maxRecDepth 20000 in
theorem wMo_feelsOn_0 {d : Nat} {lim : Nat × Nat} {Q : xQ} {l1 l2 : Int} {l0 : Nat} {g : xG} {w : xW} (t : xIs g l0 (0, 7) ∧ 
  ((¬ (xAnd (xShr (w l0 49) l1) 1) = 1) → ((0 : Int) = 0 ∨ (0 : Int) = 1) ∧ Q (some (xi 0)) g w) ∧
  (((xAnd (xShr (w l0 49) l1) 1) = 1) → xIs g l0 (0, 7) ∧ x32 (108 + l1) ∧ xAr g (g.2 l0 0) (108 + l1) ∧ 
    ((¬ (w (g.2 l0 0) (Int.toNat (108 + l1))) = l2) → ((0 : Int) = 0 ∨ (0 : Int) = 1) ∧ Q (some (xi 0)) g w) ∧
    (((w (g.2 l0 0) (Int.toNat (108 + l1))) = l2) → ((1 : Int) = 0 ∨ (1 : Int) = 1) ∧ Q (some (xi 1)) g w))) :
    aMo_feelsOn d lim Q 0 [xr l0, xi l1, xi l2] [] g w := xAt_exec (cal_m d) kMo_feelsOn 20 t
theorem eMo_feelsOn {d : Nat} {Q : xQ} {l1 l2 : Int} {l0 : Nat} {g : xG} {w : xW} (t : ∀ (lim : Nat × Nat) (Q2 : xQ), (∀ r g2 w2, g2.1 = g.1 → Q r g2 w2 → Q2 r g2 w2) → aMo_feelsOn d lim Q2 0 [xr l0, xi l1, xi l2] [] g w) : cal (d + 1) nMo_feelsOn [xr l0, xi l1, xi l2] g w Q := t _ _ xQof
abbrev aMo_own (d : Nat) (lim : Nat × Nat) (Q : xQ) : xK := xAt xMks tMo_own (cal d) lim Q
def kMo_own : List (Nat × List Bool) := [(2, [true, true, false, false, false]), (14, [true, true, true, true, false]), (75, [true, true, true, true, false]), (94, [true, true, true, false, false]), (120, [true, true, false, false, false]), (164, [true, true, false, false, false])]
set_option maxRecDepth 20000 in
theorem wMo_own_0 {d : Nat} {lim : Nat × Nat} {Q : xQ} {l0 : Nat} {g : xG} {w : xW} (t : aMo_own d lim Q 2 [xr l0, xi 0, none, none, none] [] g w) :
    aMo_own d lim Q 0 [xr l0, none, none, none, none] [] g w := xAt_exec (cal_m d) kMo_own 3 t
set_option maxRecDepth 20000 in
theorem wMo_own_2 {d : Nat} {lim : Nat × Nat} {Q : xQ} {l1 : Int} {l0 : Nat} {g : xG} {w : xW} (t : xIs g l0 (0, 7) ∧ 
  cal d nMo_cells [xr l0] g w (fun r g1 w1 => ∃ v1 : Int, r = some (xi v1) ∧ 
    ((v1 ≤ l1) → Q none g1 w1) ∧
    ((l1 < v1) → aMo_own d lim Q 14 [xr l0, xi l1, xi (-1), xi 0, none] [] g1 w1))) :
    aMo_own d lim Q 2 [xr l0, xi l1, none, none, none] [] g w := xAt_exec (cal_m d) kMo_own 9 t
set_option maxRecDepth 20000 in
theorem wMo_own_14 {d : Nat} {lim : Nat × Nat} {Q : xQ} {l1 l2 l3 : Int} {l0 : Nat} {g : xG} {w : xW} (t : xIs g l0 (0, 7) ∧ 
  (((w l0 13) ≤ l3) → aMo_own d lim Q 94 [xr l0, xi l1, xi l2, none, none] [] g w) ∧
  ((l3 < (w l0 13)) → xIs g l0 (0, 7) ∧ x32 (60 + l1) ∧ xAr g (g.2 l0 0) (60 + l1) ∧ 
    ((¬ (w (g.2 l0 0) (Int.toNat (60 + l1))) = (-1)) → aMo_own d lim Q 94 [xr l0, xi l1, xi l2, none, none] [] g w) ∧
    (((w (g.2 l0 0) (Int.toNat (60 + l1))) = (-1)) → xIs g l0 (0, 7) ∧ 
      cal d nMo_feelsOn [xr l0, xi l3, xi l1] g w (fun r g1 w1 => ∃ v1 : Int, r = some (xi v1) ∧ 
        ((v1 = 0) → aMo_own d lim Q 75 [xr l0, xi l1, xi l2, xi l3, none] [xi 0] g1 w1) ∧
        ((¬ v1 = 0) → 
          ((l2 = (-1)) → aMo_own d lim Q 75 [xr l0, xi l1, xi l2, xi l3, none] [xi 1] g1 w1) ∧
          ((¬ l2 = (-1)) → xIs g1 l0 (0, 7) ∧ x32 (114 + l3) ∧ xAr g1 (g1.2 l0 0) (114 + l3) ∧ xIs g1 l0 (0, 7) ∧ x32 (114 + l2) ∧ xAr g1 (g1.2 l0 0) (114 + l2) ∧ 
            (((w1 (g1.2 l0 0) (Int.toNat (114 + l2))) ≤ (w1 (g1.2 l0 0) (Int.toNat (114 + l3)))) → aMo_own d lim Q 75 [xr l0, xi l1, xi l2, xi l3, none] [xi 0] g1 w1) ∧
            (((w1 (g1.2 l0 0) (Int.toNat (114 + l3))) < (w1 (g1.2 l0 0) (Int.toNat (114 + l2)))) → aMo_own d lim Q 75 [xr l0, xi l1, xi l2, xi l3, none] [xi 1] g1 w1))))))) :
    aMo_own d lim Q 14 [xr l0, xi l1, xi l2, xi l3, none] [] g w := xAt_exec (cal_m d) kMo_own 36 t
set_option maxRecDepth 20000 in
theorem wMo_own_75 {d : Nat} {lim : Nat × Nat} {Q : xQ} {l1 l2 l3 s0 : Int} {l0 : Nat} {g : xG} {w : xW} (t : 
  ((s0 = 0) → x32 (l3 + 1) ∧ aMo_own d lim Q 14 [xr l0, xi l1, xi l2, xi (l3 + 1), none] [] g w) ∧
  ((¬ s0 = 0) → x32 (l3 + 1) ∧ aMo_own d lim Q 14 [xr l0, xi l1, xi l3, xi (l3 + 1), none] [] g w)) :
    aMo_own d lim Q 75 [xr l0, xi l1, xi l2, xi l3, none] [xi s0] g w := xAt_exec (cal_m d) kMo_own 9 t
set_option maxRecDepth 20000 in
theorem wMo_own_94 {d : Nat} {lim : Nat × Nat} {Q : xQ} {l1 l2 : Int} {l0 : Nat} {g : xG} {w : xW} (t : xIs g l0 (0, 7) ∧ x32 (60 + l1) ∧ 
  ((¬ l2 = (-1)) → aMo_own d lim Q 120 [xr l0, xi l1, none, none, none] [xi l2, xi (60 + l1), xr (g.2 l0 0)] g w) ∧
  ((l2 = (-1)) → xIs g l0 (0, 7) ∧ x32 (60 + l1) ∧ xAr g (g.2 l0 0) (60 + l1) ∧ aMo_own d lim Q 120 [xr l0, xi l1, none, none, none] [xi (w (g.2 l0 0) (Int.toNat (60 + l1))), xi (60 + l1), xr (g.2 l0 0)] g w)) :
    aMo_own d lim Q 94 [xr l0, xi l1, xi l2, none, none] [] g w := xAt_exec (cal_m d) kMo_own 16 t
set_option maxRecDepth 20000 in
theorem wMo_own_120 {d : Nat} {lim : Nat × Nat} {Q : xQ} {l1 s1 s2 : Int} {l0 s0 : Nat} {g : xG} {w : xW} (t : xA1 g s0 s1 ∧ xIs g l0 (0, 7) ∧ x32 (60 + l1) ∧ xAr g (g.2 l0 0) (60 + l1) ∧ xIs g l0 (0, 7) ∧ x32 (80 + l1) ∧ 
  ((((xup w s0 (Int.toNat s1) s2) (g.2 l0 0) (Int.toNat (60 + l1))) = (-1)) → aMo_own d lim Q 164 [xr l0, xi l1, none, none, none] [xi (80 + l1), xr (g.2 l0 0)] g (xup w s0 (Int.toNat s1) s2)) ∧
  ((¬ ((xup w s0 (Int.toNat s1) s2) (g.2 l0 0) (Int.toNat (60 + l1))) = (-1)) → xIs g l0 (0, 7) ∧ 
    cal d nMo_feelsOn [xr l0, xi ((xup w s0 (Int.toNat s1) s2) (g.2 l0 0) (Int.toNat (60 + l1))), xi l1] g (xup w s0 (Int.toNat s1) s2) (fun r g1 w1 => ∃ v1 : Int, r = some (xi v1) ∧ 
      ((v1 = 0) → aMo_own d lim Q 164 [xr l0, xi l1, none, none, none] [xi (80 + l1), xr (g.2 l0 0)] g1 w1) ∧
      ((¬ v1 = 0) → xIs g1 l0 (0, 7) ∧ xAr g1 (g1.2 l0 0) 140 ∧ xA1 g1 (g.2 l0 0) (80 + l1) ∧ x32 (l1 + 1) ∧ aMo_own d lim Q 2 [xr l0, xi (l1 + 1), none, none, none] [] g1 (xup w1 (g.2 l0 0) (Int.toNat (80 + l1)) (w1 (g1.2 l0 0) (Int.toNat 140))))))) :
    aMo_own d lim Q 120 [xr l0, xi l1, none, none, none] [xi s2, xi s1, xr s0] g w := xAt_exec (cal_m d) kMo_own 30 t
set_option maxRecDepth 20000 in
theorem wMo_own_164 {d : Nat} {lim : Nat × Nat} {Q : xQ} {l1 s1 : Int} {l0 s0 : Nat} {g : xG} {w : xW} (t : xIs g l0 (0, 7) ∧ x32 (80 + l1) ∧ xAr g (g.2 l0 0) (80 + l1) ∧ xA1 g s0 s1 ∧ x32 (l1 + 1) ∧ aMo_own d lim Q 2 [xr l0, xi (l1 + 1), none, none, none] [] g (xup w s0 (Int.toNat s1) (w (g.2 l0 0) (Int.toNat (80 + l1))))) :
    aMo_own d lim Q 164 [xr l0, xi l1, none, none, none] [xi s1, xr s0] g w := xAt_exec (cal_m d) kMo_own 10 t
theorem eMo_own {d : Nat} {Q : xQ} {l0 : Nat} {g : xG} {w : xW} (t : ∀ (lim : Nat × Nat) (Q2 : xQ), (∀ r g2 w2, g2.1 = g.1 → Q r g2 w2 → Q2 r g2 w2) → aMo_own d lim Q2 0 [xr l0, none, none, none, none] [] g w) : cal (d + 1) nMo_own [xr l0] g w Q := t _ _ xQof
abbrev aMo_goLaw (d : Nat) (lim : Nat × Nat) (Q : xQ) : xK := xAt xMks tMo_goLaw (cal d) lim Q
def kMo_goLaw : List (Nat × List Bool) := [(2, [true, true, false, false, false]), (66, [true, true, true, false, false]), (102, [true, true, true, true, false]), (135, [true, true, false, false, false])]
set_option maxRecDepth 20000 in
theorem wMo_goLaw_0 {d : Nat} {lim : Nat × Nat} {Q : xQ} {l0 : Nat} {g : xG} {w : xW} (t : aMo_goLaw d lim Q 2 [xr l0, xi 0, none, none, none] [] g w) :
    aMo_goLaw d lim Q 0 [xr l0, none, none, none, none] [] g w := xAt_exec (cal_m d) kMo_goLaw 3 t
set_option maxRecDepth 20000 in
theorem wMo_goLaw_2 {d : Nat} {lim : Nat × Nat} {Q : xQ} {l1 : Int} {l0 : Nat} {g : xG} {w : xW} (t : xIs g l0 (0, 7) ∧ 
  cal d nMo_cells [xr l0] g w (fun r g1 w1 => ∃ v1 : Int, r = some (xi v1) ∧ 
    ((v1 ≤ l1) → aMo_goLaw d lim Q 135 [xr l0, xi 0, none, none, none] [] g1 w1) ∧
    ((l1 < v1) → xIs g1 l0 (0, 7) ∧ x32 (60 + l1) ∧ xAr g1 (g1.2 l0 0) (60 + l1) ∧ xIs g1 l0 (0, 7) ∧ xAr g1 (g1.2 l0 0) 138 ∧ 
      ((¬ (w1 (g1.2 l0 0) (Int.toNat 138)) = 1) → aMo_goLaw d lim Q 66 [xr l0, xi l1, xi (w1 (g1.2 l0 0) (Int.toNat (60 + l1))), none, none] [xi 0] g1 w1) ∧
      (((w1 (g1.2 l0 0) (Int.toNat 138)) = 1) → xIs g1 l0 (0, 7) ∧ xAr g1 (g1.2 l0 0) 140 ∧ xIs g1 l0 (0, 7) ∧ x32 (80 + l1) ∧ xAr g1 (g1.2 l0 0) (80 + l1) ∧ x32 ((w1 (g1.2 l0 0) (Int.toNat 140)) - (w1 (g1.2 l0 0) (Int.toNat (80 + l1)))) ∧ xIs g1 l0 (0, 7) ∧ xAr g1 (g1.2 l0 0) 139 ∧ 
        ((((w1 (g1.2 l0 0) (Int.toNat 140)) - (w1 (g1.2 l0 0) (Int.toNat (80 + l1)))) ≤ (w1 (g1.2 l0 0) (Int.toNat 139))) → aMo_goLaw d lim Q 66 [xr l0, xi l1, xi (w1 (g1.2 l0 0) (Int.toNat (60 + l1))), none, none] [xi 0] g1 w1) ∧
        (((w1 (g1.2 l0 0) (Int.toNat 139)) < ((w1 (g1.2 l0 0) (Int.toNat 140)) - (w1 (g1.2 l0 0) (Int.toNat (80 + l1))))) → aMo_goLaw d lim Q 66 [xr l0, xi l1, xi (w1 (g1.2 l0 0) (Int.toNat (60 + l1))), none, none] [xi 1] g1 w1))))) :
    aMo_goLaw d lim Q 2 [xr l0, xi l1, none, none, none] [] g w := xAt_exec (cal_m d) kMo_goLaw 36 t
set_option maxRecDepth 20000 in
theorem wMo_goLaw_66 {d : Nat} {lim : Nat × Nat} {Q : xQ} {l1 l2 s0 : Int} {l0 : Nat} {g : xG} {w : xW} (t : xIs g l0 (0, 7) ∧ xAr g (g.2 l0 0) 138 ∧ 
  ((¬ (w (g.2 l0 0) (Int.toNat 138)) = 2) → aMo_goLaw d lim Q 102 [xr l0, xi l1, xi l2, xi s0, none] [xi 0] g w) ∧
  (((w (g.2 l0 0) (Int.toNat 138)) = 2) → 
    ((l2 = (-1)) → aMo_goLaw d lim Q 102 [xr l0, xi l1, xi l2, xi s0, none] [xi 0] g w) ∧
    ((¬ l2 = (-1)) → xIs g l0 (0, 7) ∧ x32 (108 + l2) ∧ xAr g (g.2 l0 0) (108 + l2) ∧ 
      (((w (g.2 l0 0) (Int.toNat (108 + l2))) = l1) → aMo_goLaw d lim Q 102 [xr l0, xi l1, xi l2, xi s0, none] [xi 0] g w) ∧
      ((¬ (w (g.2 l0 0) (Int.toNat (108 + l2))) = l1) → aMo_goLaw d lim Q 102 [xr l0, xi l1, xi l2, xi s0, none] [xi 1] g w)))) :
    aMo_goLaw d lim Q 66 [xr l0, xi l1, xi l2, none, none] [xi s0] g w := xAt_exec (cal_m d) kMo_goLaw 21 t
set_option maxRecDepth 20000 in
theorem wMo_goLaw_102 {d : Nat} {lim : Nat × Nat} {Q : xQ} {l1 l2 l3 s0 : Int} {l0 : Nat} {g : xG} {w : xW} (t : xIs g l0 (0, 7) ∧ x32 (60 + l1) ∧ 
  ((¬ l3 = 0) → xA1 g (g.2 l0 0) (60 + l1) ∧ x32 (l1 + 1) ∧ aMo_goLaw d lim Q 2 [xr l0, xi (l1 + 1), none, none, none] [] g (xup w (g.2 l0 0) (Int.toNat (60 + l1)) (-1))) ∧
  ((l3 = 0) → 
    ((s0 = 0) → xA1 g (g.2 l0 0) (60 + l1) ∧ x32 (l1 + 1) ∧ aMo_goLaw d lim Q 2 [xr l0, xi (l1 + 1), none, none, none] [] g (xup w (g.2 l0 0) (Int.toNat (60 + l1)) l2)) ∧
    ((¬ s0 = 0) → xA1 g (g.2 l0 0) (60 + l1) ∧ x32 (l1 + 1) ∧ aMo_goLaw d lim Q 2 [xr l0, xi (l1 + 1), none, none, none] [] g (xup w (g.2 l0 0) (Int.toNat (60 + l1)) (-1))))) :
    aMo_goLaw d lim Q 102 [xr l0, xi l1, xi l2, xi l3, none] [xi s0] g w := xAt_exec (cal_m d) kMo_goLaw 16 t
set_option maxRecDepth 20000 in
theorem wMo_goLaw_135 {d : Nat} {lim : Nat × Nat} {Q : xQ} {l1 : Int} {l0 : Nat} {g : xG} {w : xW} (t : xIs g l0 (0, 7) ∧ 
  (((w l0 13) ≤ l1) → Q none g w) ∧
  ((l1 < (w l0 13)) → xIs g l0 (0, 7) ∧ xAr g (g.2 l0 0) 138 ∧ 
    ((¬ (w (g.2 l0 0) (Int.toNat 138)) = 3) → Q none g w) ∧
    (((w (g.2 l0 0) (Int.toNat 138)) = 3) → xIs g l0 (0, 7) ∧ xIs g l0 (0, 7) ∧ x32 (108 + l1) ∧ xAr g (g.2 l0 0) (108 + l1) ∧ x32 (60 + (w (g.2 l0 0) (Int.toNat (108 + l1)))) ∧ xAr g (g.2 l0 0) (60 + (w (g.2 l0 0) (Int.toNat (108 + l1)))) ∧ xIs g l0 (0, 7) ∧ 
      ((¬ (xAnd (xShr (w l0 49) l1) 1) = 1) → x32 (l1 + 1) ∧ aMo_goLaw d lim Q 135 [xr l0, xi (l1 + 1), none, none, none] [] g w) ∧
      (((xAnd (xShr (w l0 49) l1) 1) = 1) → 
        (((w (g.2 l0 0) (Int.toNat (60 + (w (g.2 l0 0) (Int.toNat (108 + l1)))))) = (-1)) → x32 (l1 + 1) ∧ aMo_goLaw d lim Q 135 [xr l0, xi (l1 + 1), none, none, none] [] g w) ∧
        ((¬ (w (g.2 l0 0) (Int.toNat (60 + (w (g.2 l0 0) (Int.toNat (108 + l1)))))) = (-1)) → 
          (((w (g.2 l0 0) (Int.toNat (60 + (w (g.2 l0 0) (Int.toNat (108 + l1)))))) = l1) → x32 (l1 + 1) ∧ aMo_goLaw d lim Q 135 [xr l0, xi (l1 + 1), none, none, none] [] g w) ∧
          ((¬ (w (g.2 l0 0) (Int.toNat (60 + (w (g.2 l0 0) (Int.toNat (108 + l1)))))) = l1) → xIs g l0 (0, 7) ∧ x32 (132 + l1) ∧ xAr g (g.2 l0 0) (132 + l1) ∧ xA1 g (g.2 l0 0) (132 + l1) ∧ xIs g l0 (0, 7) ∧ x32 (132 + (w (g.2 l0 0) (Int.toNat (60 + (w (g.2 l0 0) (Int.toNat (108 + l1))))))) ∧ xAr g (g.2 l0 0) (132 + (w (g.2 l0 0) (Int.toNat (60 + (w (g.2 l0 0) (Int.toNat (108 + l1))))))) ∧ xA1 g (g.2 l0 0) (132 + (w (g.2 l0 0) (Int.toNat (60 + (w (g.2 l0 0) (Int.toNat (108 + l1))))))) ∧ x32 (l1 + 1) ∧ aMo_goLaw d lim Q 135 [xr l0, xi (l1 + 1), none, none, none] [] g (xup (xup w (g.2 l0 0) (Int.toNat (132 + l1)) (xOr (w (g.2 l0 0) (Int.toNat (132 + l1))) (xShl 1 (w (g.2 l0 0) (Int.toNat (60 + (w (g.2 l0 0) (Int.toNat (108 + l1))))))))) (g.2 l0 0) (Int.toNat (132 + (w (g.2 l0 0) (Int.toNat (60 + (w (g.2 l0 0) (Int.toNat (108 + l1)))))))) (xOr ((xup w (g.2 l0 0) (Int.toNat (132 + l1)) (xOr (w (g.2 l0 0) (Int.toNat (132 + l1))) (xShl 1 (w (g.2 l0 0) (Int.toNat (60 + (w (g.2 l0 0) (Int.toNat (108 + l1))))))))) (g.2 l0 0) (Int.toNat (132 + (w (g.2 l0 0) (Int.toNat (60 + (w (g.2 l0 0) (Int.toNat (108 + l1))))))))) (xShl 1 l1))))))))) :
    aMo_goLaw d lim Q 135 [xr l0, xi l1, none, none, none] [] g w := xAt_exec (cal_m d) kMo_goLaw 63 t
theorem eMo_goLaw {d : Nat} {Q : xQ} {l0 : Nat} {g : xG} {w : xW} (t : ∀ (lim : Nat × Nat) (Q2 : xQ), (∀ r g2 w2, g2.1 = g.1 → Q r g2 w2 → Q2 r g2 w2) → aMo_goLaw d lim Q2 0 [xr l0, none, none, none, none] [] g w) : cal (d + 1) nMo_goLaw [xr l0] g w Q := t _ _ xQof
abbrev aMo_arePartners (d : Nat) (lim : Nat × Nat) (Q : xQ) : xK := xAt xMks tMo_arePartners (cal d) lim Q
def kMo_arePartners : List (Nat × List Bool) := []
set_option maxRecDepth 20000 in
theorem wMo_arePartners_0 {d : Nat} {lim : Nat × Nat} {Q : xQ} {l1 l2 : Int} {l0 : Nat} {g : xG} {w : xW} (t : xIs g l0 (0, 7) ∧ x32 (132 + l1) ∧ xAr g (g.2 l0 0) (132 + l1) ∧ 
  ((¬ (xAnd (xShr (w (g.2 l0 0) (Int.toNat (132 + l1))) l2) 1) = 1) → ((0 : Int) = 0 ∨ (0 : Int) = 1) ∧ Q (some (xi 0)) g w) ∧
  (((xAnd (xShr (w (g.2 l0 0) (Int.toNat (132 + l1))) l2) 1) = 1) → ((1 : Int) = 0 ∨ (1 : Int) = 1) ∧ Q (some (xi 1)) g w)) :
    aMo_arePartners d lim Q 0 [xr l0, xi l1, xi l2] [] g w := xAt_exec (cal_m d) kMo_arePartners 16 t
theorem eMo_arePartners {d : Nat} {Q : xQ} {l1 l2 : Int} {l0 : Nat} {g : xG} {w : xW} (t : ∀ (lim : Nat × Nat) (Q2 : xQ), (∀ r g2 w2, g2.1 = g.1 → Q r g2 w2 → Q2 r g2 w2) → aMo_arePartners d lim Q2 0 [xr l0, xi l1, xi l2] [] g w) : cal (d + 1) nMo_arePartners [xr l0, xi l1, xi l2] g w Q := t _ _ xQof
abbrev aMo_isOwedFor (d : Nat) (lim : Nat × Nat) (Q : xQ) : xK := xAt xMks tMo_isOwedFor (cal d) lim Q
def kMo_isOwedFor : List (Nat × List Bool) := []
set_option maxRecDepth 20000 in
theorem wMo_isOwedFor_0 {d : Nat} {lim : Nat × Nat} {Q : xQ} {l1 l2 : Int} {l0 : Nat} {g : xG} {w : xW} (t : xIs g l0 (0, 7) ∧ x32 (60 + l2) ∧ xAr g (g.2 l0 0) (60 + l2) ∧ 
  (((w (g.2 l0 0) (Int.toNat (60 + l2))) = (-1)) → ((0 : Int) = 0 ∨ (0 : Int) = 1) ∧ Q (some (xi 0)) g w) ∧
  ((¬ (w (g.2 l0 0) (Int.toNat (60 + l2))) = (-1)) → 
    (((w (g.2 l0 0) (Int.toNat (60 + l2))) = l1) → ((0 : Int) = 0 ∨ (0 : Int) = 1) ∧ Q (some (xi 0)) g w) ∧
    ((¬ (w (g.2 l0 0) (Int.toNat (60 + l2))) = l1) → xIs g l0 (0, 7) ∧ 
      cal d nMo_arePartners [xr l0, xi l1, xi (w (g.2 l0 0) (Int.toNat (60 + l2)))] g w (fun r g1 w1 => ∃ v1 : Int, r = some (xi v1) ∧ 
        ((¬ v1 = 0) → ((0 : Int) = 0 ∨ (0 : Int) = 1) ∧ Q (some (xi 0)) g1 w1) ∧
        ((v1 = 0) → xIs g1 l0 (0, 7) ∧ x32 (0 + l2) ∧ xAr g1 (g1.2 l0 0) (0 + l2) ∧ 
          (((w1 (g1.2 l0 0) (Int.toNat (0 + l2))) < 50) → ((0 : Int) = 0 ∨ (0 : Int) = 1) ∧ Q (some (xi 0)) g1 w1) ∧
          ((50 ≤ (w1 (g1.2 l0 0) (Int.toNat (0 + l2)))) → ((1 : Int) = 0 ∨ (1 : Int) = 1) ∧ Q (some (xi 1)) g1 w1)))))) :
    aMo_isOwedFor d lim Q 0 [xr l0, xi l1, xi l2, none] [] g w := xAt_exec (cal_m d) kMo_isOwedFor 30 t
theorem eMo_isOwedFor {d : Nat} {Q : xQ} {l1 l2 : Int} {l0 : Nat} {g : xG} {w : xW} (t : ∀ (lim : Nat × Nat) (Q2 : xQ), (∀ r g2 w2, g2.1 = g.1 → Q r g2 w2 → Q2 r g2 w2) → aMo_isOwedFor d lim Q2 0 [xr l0, xi l1, xi l2, none] [] g w) : cal (d + 1) nMo_isOwedFor [xr l0, xi l1, xi l2] g w Q := t _ _ xQof
abbrev aMo_owe (d : Nat) (lim : Nat × Nat) (Q : xQ) : xK := xAt xMks tMo_owe (cal d) lim Q
def kMo_owe : List (Nat × List Bool) := [(2, [true, true, false, false]), (69, [true, true, false, true])]
set_option maxRecDepth 20000 in
theorem wMo_owe_0 {d : Nat} {lim : Nat × Nat} {Q : xQ} {l0 : Nat} {g : xG} {w : xW} (t : aMo_owe d lim Q 2 [xr l0, xi 0, none, none] [] g w) :
    aMo_owe d lim Q 0 [xr l0, none, none, none] [] g w := xAt_exec (cal_m d) kMo_owe 3 t
set_option maxRecDepth 20000 in
theorem wMo_owe_2 {d : Nat} {lim : Nat × Nat} {Q : xQ} {l1 : Int} {l0 : Nat} {g : xG} {w : xW} (t : xIs g l0 (0, 7) ∧ 
  (((w l0 13) ≤ l1) → Q none g w) ∧
  ((l1 < (w l0 13)) → xIs g l0 (0, 7) ∧ x32 (108 + l1) ∧ xAr g (g.2 l0 0) (108 + l1) ∧ xIs g l0 (0, 7) ∧ 
    cal d nMo_isOwedFor [xr l0, xi l1, xi (w (g.2 l0 0) (Int.toNat (108 + l1)))] g w (fun r g1 w1 => ∃ v1 : Int, r = some (xi v1) ∧ 
      ((v1 = 0) → x32 (l1 + 1) ∧ aMo_owe d lim Q 2 [xr l0, xi (l1 + 1), none, none] [] g1 w1) ∧
      ((¬ v1 = 0) → xIs g1 l0 (0, 7) ∧ x32 (60 + (w (g.2 l0 0) (Int.toNat (108 + l1)))) ∧ xAr g1 (g1.2 l0 0) (60 + (w (g.2 l0 0) (Int.toNat (108 + l1)))) ∧ xIs g1 l0 (0, 7) ∧ x32 (120 + l1) ∧ xAr g1 (g1.2 l0 0) (120 + l1) ∧ xIs g1 l0 (0, 7) ∧ x32 (120 + l1) ∧ xAr g1 (g1.2 l0 0) (120 + l1) ∧ 
        ((999999 ≤ (w1 (g1.2 l0 0) (Int.toNat (120 + l1)))) → aMo_owe d lim Q 69 [xr l0, xi l1, none, xi (w1 (g1.2 l0 0) (Int.toNat (60 + (w (g.2 l0 0) (Int.toNat (108 + l1))))))] [xi 0, xi (w1 (g1.2 l0 0) (Int.toNat (120 + l1))), xi (120 + l1), xr (g1.2 l0 0)] g1 w1) ∧
        (((w1 (g1.2 l0 0) (Int.toNat (120 + l1))) < 999999) → aMo_owe d lim Q 69 [xr l0, xi l1, none, xi (w1 (g1.2 l0 0) (Int.toNat (60 + (w (g.2 l0 0) (Int.toNat (108 + l1))))))] [xi 1, xi (w1 (g1.2 l0 0) (Int.toNat (120 + l1))), xi (120 + l1), xr (g1.2 l0 0)] g1 w1))))) :
    aMo_owe d lim Q 2 [xr l0, xi l1, none, none] [] g w := xAt_exec (cal_m d) kMo_owe 41 t
set_option maxRecDepth 20000 in
theorem wMo_owe_69 {d : Nat} {lim : Nat × Nat} {Q : xQ} {l1 l3 s1 s2 s3 : Int} {l0 s0 : Nat} {g : xG} {w : xW} (t : x32 (s2 + s3) ∧ xA1 g s0 s1 ∧ xIs g l0 (0, 7) ∧ x32 (126 + l3) ∧ xAr g (g.2 l0 0) (126 + l3) ∧ xIs g l0 (0, 7) ∧ x32 (126 + l3) ∧ xAr g (g.2 l0 0) (126 + l3) ∧ 
  ((999999 ≤ ((xup w s0 (Int.toNat s1) (s2 + s3)) (g.2 l0 0) (Int.toNat (126 + l3)))) → x32 (((xup w s0 (Int.toNat s1) (s2 + s3)) (g.2 l0 0) (Int.toNat (126 + l3))) + 0) ∧ xA1 g (g.2 l0 0) (126 + l3) ∧ x32 (l1 + 1) ∧ aMo_owe d lim Q 2 [xr l0, xi (l1 + 1), none, none] [] g (xup (xup w s0 (Int.toNat s1) (s2 + s3)) (g.2 l0 0) (Int.toNat (126 + l3)) (((xup w s0 (Int.toNat s1) (s2 + s3)) (g.2 l0 0) (Int.toNat (126 + l3))) + 0))) ∧
  ((((xup w s0 (Int.toNat s1) (s2 + s3)) (g.2 l0 0) (Int.toNat (126 + l3))) < 999999) → x32 (((xup w s0 (Int.toNat s1) (s2 + s3)) (g.2 l0 0) (Int.toNat (126 + l3))) + 1) ∧ xA1 g (g.2 l0 0) (126 + l3) ∧ x32 (l1 + 1) ∧ aMo_owe d lim Q 2 [xr l0, xi (l1 + 1), none, none] [] g (xup (xup w s0 (Int.toNat s1) (s2 + s3)) (g.2 l0 0) (Int.toNat (126 + l3)) (((xup w s0 (Int.toNat s1) (s2 + s3)) (g.2 l0 0) (Int.toNat (126 + l3))) + 1)))) :
    aMo_owe d lim Q 69 [xr l0, xi l1, none, xi l3] [xi s3, xi s2, xi s1, xr s0] g w := xAt_exec (cal_m d) kMo_owe 24 t
theorem eMo_owe {d : Nat} {Q : xQ} {l0 : Nat} {g : xG} {w : xW} (t : ∀ (lim : Nat × Nat) (Q2 : xQ), (∀ r g2 w2, g2.1 = g.1 → Q r g2 w2 → Q2 r g2 w2) → aMo_owe d lim Q2 0 [xr l0, none, none, none] [] g w) : cal (d + 1) nMo_owe [xr l0] g w Q := t _ _ xQof
abbrev aMo_goMinute (d : Nat) (lim : Nat × Nat) (Q : xQ) : xK := xAt xMks tMo_goMinute (cal d) lim Q
def kMo_goMinute : List (Nat × List Bool) := [(22, [true, true])]
set_option maxRecDepth 20000 in
theorem wMo_goMinute_0 {d : Nat} {lim : Nat × Nat} {Q : xQ} {l0 : Nat} {g : xG} {w : xW} (t : xIs g l0 (0, 7) ∧ 
  cal d nMo_goHeat [xr l0] g w (fun r g1 w1 => r = none ∧ xIs g1 l0 (0, 7) ∧ 
    cal d nMo_feel [xr l0] g1 w1 (fun r g2 w2 => r = none ∧ xIs g2 l0 (0, 7) ∧ 
      cal d nMo_own [xr l0] g2 w2 (fun r g3 w3 => r = none ∧ xIs g3 l0 (0, 7) ∧ 
        cal d nMo_goLaw [xr l0] g3 w3 (fun r g4 w4 => r = none ∧ xIs g4 l0 (0, 7) ∧ 
          cal d nMo_owe [xr l0] g4 w4 (fun r g5 w5 => r = none ∧ aMo_goMinute d lim Q 22 [xr l0, xi 0] [] g5 w5)))))) :
    aMo_goMinute d lim Q 0 [xr l0, none] [] g w := xAt_exec (cal_m d) kMo_goMinute 13 t
set_option maxRecDepth 20000 in
theorem wMo_goMinute_22 {d : Nat} {lim : Nat × Nat} {Q : xQ} {l1 : Int} {l0 : Nat} {g : xG} {w : xW} (t : xIs g l0 (0, 7) ∧ 
  (((w l0 13) ≤ l1) → xIs g l0 (0, 7) ∧ xAr g (g.2 l0 0) 140 ∧ x32 ((w (g.2 l0 0) (Int.toNat 140)) + 1) ∧ xA1 g (g.2 l0 0) 140 ∧ Q none g (xup w (g.2 l0 0) (Int.toNat 140) ((w (g.2 l0 0) (Int.toNat 140)) + 1))) ∧
  ((l1 < (w l0 13)) → xIs g l0 (0, 7) ∧ x32 (114 + l1) ∧ xAr g (g.2 l0 0) (114 + l1) ∧ xIs g l0 (0, 7) ∧ xIs g l0 (0, 7) ∧ x32 (108 + l1) ∧ xAr g (g.2 l0 0) (108 + l1) ∧ x32 (0 + (w (g.2 l0 0) (Int.toNat (108 + l1)))) ∧ xAr g (g.2 l0 0) (0 + (w (g.2 l0 0) (Int.toNat (108 + l1)))) ∧ xIs g l0 (0, 7) ∧ x32 (114 + l1) ∧ xAr g (g.2 l0 0) (114 + l1) ∧ x32 ((w (g.2 l0 0) (Int.toNat (0 + (w (g.2 l0 0) (Int.toNat (108 + l1)))))) - (w (g.2 l0 0) (Int.toNat (114 + l1)))) ∧ ((4 : Int) ≠ 0 ∧ x32 (Int.tdiv ((w (g.2 l0 0) (Int.toNat (0 + (w (g.2 l0 0) (Int.toNat (108 + l1)))))) - (w (g.2 l0 0) (Int.toNat (114 + l1)))) 4)) ∧ x32 ((w (g.2 l0 0) (Int.toNat (114 + l1))) + (Int.tdiv ((w (g.2 l0 0) (Int.toNat (0 + (w (g.2 l0 0) (Int.toNat (108 + l1)))))) - (w (g.2 l0 0) (Int.toNat (114 + l1)))) 4)) ∧ xA1 g (g.2 l0 0) (114 + l1) ∧ xIs g l0 (0, 7) ∧ xAr g (g.2 l0 0) 142 ∧ xIs g l0 (0, 7) ∧ x32 (114 + l1) ∧ xAr g (g.2 l0 0) (114 + l1) ∧ 
    ((20 ≤ ((xup w (g.2 l0 0) (Int.toNat (114 + l1)) ((w (g.2 l0 0) (Int.toNat (114 + l1))) + (Int.tdiv ((w (g.2 l0 0) (Int.toNat (0 + (w (g.2 l0 0) (Int.toNat (108 + l1)))))) - (w (g.2 l0 0) (Int.toNat (114 + l1)))) 4))) (g.2 l0 0) (Int.toNat (114 + l1)))) → xA1 g (g.2 l0 0) 142 ∧ x32 (l1 + 1) ∧ aMo_goMinute d lim Q 22 [xr l0, xi (l1 + 1)] [] g (xup (xup w (g.2 l0 0) (Int.toNat (114 + l1)) ((w (g.2 l0 0) (Int.toNat (114 + l1))) + (Int.tdiv ((w (g.2 l0 0) (Int.toNat (0 + (w (g.2 l0 0) (Int.toNat (108 + l1)))))) - (w (g.2 l0 0) (Int.toNat (114 + l1)))) 4))) (g.2 l0 0) (Int.toNat 142) (xOr ((xup w (g.2 l0 0) (Int.toNat (114 + l1)) ((w (g.2 l0 0) (Int.toNat (114 + l1))) + (Int.tdiv ((w (g.2 l0 0) (Int.toNat (0 + (w (g.2 l0 0) (Int.toNat (108 + l1)))))) - (w (g.2 l0 0) (Int.toNat (114 + l1)))) 4))) (g.2 l0 0) (Int.toNat 142)) 0))) ∧
    ((((xup w (g.2 l0 0) (Int.toNat (114 + l1)) ((w (g.2 l0 0) (Int.toNat (114 + l1))) + (Int.tdiv ((w (g.2 l0 0) (Int.toNat (0 + (w (g.2 l0 0) (Int.toNat (108 + l1)))))) - (w (g.2 l0 0) (Int.toNat (114 + l1)))) 4))) (g.2 l0 0) (Int.toNat (114 + l1))) < 20) → xA1 g (g.2 l0 0) 142 ∧ x32 (l1 + 1) ∧ aMo_goMinute d lim Q 22 [xr l0, xi (l1 + 1)] [] g (xup (xup w (g.2 l0 0) (Int.toNat (114 + l1)) ((w (g.2 l0 0) (Int.toNat (114 + l1))) + (Int.tdiv ((w (g.2 l0 0) (Int.toNat (0 + (w (g.2 l0 0) (Int.toNat (108 + l1)))))) - (w (g.2 l0 0) (Int.toNat (114 + l1)))) 4))) (g.2 l0 0) (Int.toNat 142) (xOr ((xup w (g.2 l0 0) (Int.toNat (114 + l1)) ((w (g.2 l0 0) (Int.toNat (114 + l1))) + (Int.tdiv ((w (g.2 l0 0) (Int.toNat (0 + (w (g.2 l0 0) (Int.toNat (108 + l1)))))) - (w (g.2 l0 0) (Int.toNat (114 + l1)))) 4))) (g.2 l0 0) (Int.toNat 142)) (xShl 1 l1)))))) :
    aMo_goMinute d lim Q 22 [xr l0, xi l1] [] g w := xAt_exec (cal_m d) kMo_goMinute 55 t
theorem eMo_goMinute {d : Nat} {Q : xQ} {l0 : Nat} {g : xG} {w : xW} (t : ∀ (lim : Nat × Nat) (Q2 : xQ), (∀ r g2 w2, g2.1 = g.1 → Q r g2 w2 → Q2 r g2 w2) → aMo_goMinute d lim Q2 0 [xr l0, none] [] g w) : cal (d + 1) nMo_goMinute [xr l0] g w Q := t _ _ xQof
abbrev aMo_goMinutes (d : Nat) (lim : Nat × Nat) (Q : xQ) : xK := xAt xMks tMo_goMinutes (cal d) lim Q
def kMo_goMinutes : List (Nat × List Bool) := [(2, [true, true, true])]
set_option maxRecDepth 20000 in
theorem wMo_goMinutes_0 {d : Nat} {lim : Nat × Nat} {Q : xQ} {l1 : Int} {l0 : Nat} {g : xG} {w : xW} (t : aMo_goMinutes d lim Q 2 [xr l0, xi l1, xi 0] [] g w) :
    aMo_goMinutes d lim Q 0 [xr l0, xi l1, none] [] g w := xAt_exec (cal_m d) kMo_goMinutes 3 t
set_option maxRecDepth 20000 in
theorem wMo_goMinutes_2 {d : Nat} {lim : Nat × Nat} {Q : xQ} {l1 l2 : Int} {l0 : Nat} {g : xG} {w : xW} (t : 
  ((l1 ≤ l2) → Q none g w) ∧
  ((l2 < l1) → xIs g l0 (0, 7) ∧ 
    cal d nMo_goMinute [xr l0] g w (fun r g1 w1 => r = none ∧ x32 (l2 + 1) ∧ aMo_goMinutes d lim Q 2 [xr l0, xi l1, xi (l2 + 1)] [] g1 w1))) :
    aMo_goMinutes d lim Q 2 [xr l0, xi l1, xi l2] [] g w := xAt_exec (cal_m d) kMo_goMinutes 8 t
theorem eMo_goMinutes {d : Nat} {Q : xQ} {l1 : Int} {l0 : Nat} {g : xG} {w : xW} (t : ∀ (lim : Nat × Nat) (Q2 : xQ), (∀ r g2 w2, g2.1 = g.1 → Q r g2 w2 → Q2 r g2 w2) → aMo_goMinutes d lim Q2 0 [xr l0, xi l1, none] [] g w) : cal (d + 1) nMo_goMinutes [xr l0, xi l1] g w Q := t _ _ xQof
abbrev aMo_notMinutes (d : Nat) (lim : Nat × Nat) (Q : xQ) : xK := xAt xMks tMo_notMinutes (cal d) lim Q
def kMo_notMinutes : List (Nat × List Bool) := []
set_option maxRecDepth 20000 in
theorem wMo_notMinutes_0 {d : Nat} {lim : Nat × Nat} {Q : xQ} {l1 : Int} {l0 : Nat} {g : xG} {w : xW} (t : 
  cal d nMo_in [xl l1, xl 1, xl 60] g w (fun r g1 w1 => ∃ v1 : Int, r = some (xi v1) ∧ 
    ((¬ v1 = 0) → xIs g1 l0 (0, 7) ∧ 
      cal d nMo_cells [xr l0] g1 w1 (fun r g2 w2 => ∃ v2 : Int, r = some (xi v2) ∧ 
        ((¬ v2 = 0) → xIs g2 l0 (0, 7) ∧ xAr g2 (g2.2 l0 0) 140 ∧ 
          (((w2 (g2.2 l0 0) (Int.toNat 140)) ≤ 900000) → Q (some (xi 0)) g2 w2) ∧
          ((900000 < (w2 (g2.2 l0 0) (Int.toNat 140))) → Q (some (xi (-1000000004))) g2 w2)) ∧
        ((v2 = 0) → Q (some (xi (-1000000003))) g2 w2))) ∧
    ((v1 = 0) → Q (some (xi (-1000000002))) g1 w1))) :
    aMo_notMinutes d lim Q 0 [xr l0, xi l1] [] g w := xAt_exec (cal_m d) kMo_notMinutes 19 t
theorem eMo_notMinutes {d : Nat} {Q : xQ} {l1 : Int} {l0 : Nat} {g : xG} {w : xW} (t : ∀ (lim : Nat × Nat) (Q2 : xQ), (∀ r g2 w2, g2.1 = g.1 → Q r g2 w2 → Q2 r g2 w2) → aMo_notMinutes d lim Q2 0 [xr l0, xi l1] [] g w) : cal (d + 1) nMo_notMinutes [xr l0, xi l1] g w Q := t _ _ xQof
abbrev aMo_minute (d : Nat) (lim : Nat × Nat) (Q : xQ) : xK := xAt xMks tMo_minute (cal d) lim Q
def kMo_minute : List (Nat × List Bool) := []
set_option maxRecDepth 20000 in
theorem wMo_minute_0 {d : Nat} {lim : Nat × Nat} {Q : xQ} {l1 : Int} {l0 : Nat} {g : xG} {w : xW} (t : xIs g l0 (0, 7) ∧ 
  cal d nMo_notMinutes [xr l0, xi l1] g w (fun r g1 w1 => ∃ v1 : Int, r = some (xi v1) ∧ 
    ((v1 = 0) → xIs g1 l0 (0, 7) ∧ 
      cal d nMo_goMinutes [xr l0, xi l1] g1 w1 (fun r g2 w2 => r = none ∧ xIs g2 l0 (0, 7) ∧ xAr g2 (g2.2 l0 0) 140 ∧ Q (some (xi (w2 (g2.2 l0 0) (Int.toNat 140)))) g2 w2)) ∧
    ((¬ v1 = 0) → Q (some (xi v1)) g1 w1))) :
    aMo_minute d lim Q 0 [xr l0, xi l1, none] [] g w := xAt_exec (cal_m d) kMo_minute 15 t
theorem eMo_minute {d : Nat} {Q : xQ} {l1 : Int} {l0 : Nat} {g : xG} {w : xW} (t : ∀ (lim : Nat × Nat) (Q2 : xQ), (∀ r g2 w2, g2.1 = g.1 → Q r g2 w2 → Q2 r g2 w2) → aMo_minute d lim Q2 0 [xr l0, xi l1, none] [] g w) : cal (d + 1) nMo_minute [xr l0, xi l1] g w Q := t _ _ xQof
abbrev aMo_draw (d : Nat) (lim : Nat × Nat) (Q : xQ) : xK := xAt xMks tMo_draw (cal d) lim Q
def kMo_draw : List (Nat × List Bool) := []
set_option maxRecDepth 20000 in
theorem wMo_draw_0 {d : Nat} {lim : Nat × Nat} {Q : xQ} {l1 : Int} {l0 : Nat} {g : xG} {w : xW} (t : xIs g l0 (0, 7) ∧ xIs g l0 (0, 7) ∧ xAr g (g.2 l0 0) 141 ∧ x64 ((w (g.2 l0 0) (Int.toNat 141)) * 1103515245) ∧ x64 (((w (g.2 l0 0) (Int.toNat 141)) * 1103515245) + 12345) ∧ ((2147483648 : Int) ≠ 0 ∧ x64 (Int.tdiv (((w (g.2 l0 0) (Int.toNat 141)) * 1103515245) + 12345) 2147483648)) ∧ x32 (Int.tmod (((w (g.2 l0 0) (Int.toNat 141)) * 1103515245) + 12345) 2147483648) ∧ xA1 g (g.2 l0 0) 141 ∧ xIs g l0 (0, 7) ∧ xAr g (g.2 l0 0) 141 ∧ ((65536 : Int) ≠ 0 ∧ x32 (Int.tdiv ((xup w (g.2 l0 0) (Int.toNat 141) (Int.tmod (((w (g.2 l0 0) (Int.toNat 141)) * 1103515245) + 12345) 2147483648)) (g.2 l0 0) (Int.toNat 141)) 65536)) ∧ ((l1 : Int) ≠ 0 ∧ x32 (Int.tdiv (Int.tdiv ((xup w (g.2 l0 0) (Int.toNat 141) (Int.tmod (((w (g.2 l0 0) (Int.toNat 141)) * 1103515245) + 12345) 2147483648)) (g.2 l0 0) (Int.toNat 141)) 65536) l1)) ∧ Q (some (xi (Int.tmod (Int.tdiv ((xup w (g.2 l0 0) (Int.toNat 141) (Int.tmod (((w (g.2 l0 0) (Int.toNat 141)) * 1103515245) + 12345) 2147483648)) (g.2 l0 0) (Int.toNat 141)) 65536) l1))) g (xup w (g.2 l0 0) (Int.toNat 141) (Int.tmod (((w (g.2 l0 0) (Int.toNat 141)) * 1103515245) + 12345) 2147483648))) :
    aMo_draw d lim Q 0 [xr l0, xi l1] [] g w := xAt_exec (cal_m d) kMo_draw 26 t
theorem eMo_draw {d : Nat} {Q : xQ} {l1 : Int} {l0 : Nat} {g : xG} {w : xW} (t : ∀ (lim : Nat × Nat) (Q2 : xQ), (∀ r g2 w2, g2.1 = g.1 → Q r g2 w2 → Q2 r g2 w2) → aMo_draw d lim Q2 0 [xr l0, xi l1] [] g w) : cal (d + 1) nMo_draw [xr l0, xi l1] g w Q := t _ _ xQof
abbrev aMo_driftOne (d : Nat) (lim : Nat × Nat) (Q : xQ) : xK := xAt xMks tMo_driftOne (cal d) lim Q
def kMo_driftOne : List (Nat × List Bool) := [(2, [true, true, false]), (117, [true, false, false])]
set_option maxRecDepth 20000 in
theorem wMo_driftOne_0 {d : Nat} {lim : Nat × Nat} {Q : xQ} {l0 : Nat} {g : xG} {w : xW} (t : aMo_driftOne d lim Q 2 [xr l0, xi 0, none] [] g w) :
    aMo_driftOne d lim Q 0 [xr l0, none, none] [] g w := xAt_exec (cal_m d) kMo_driftOne 3 t
set_option maxRecDepth 20000 in
theorem wMo_driftOne_2 {d : Nat} {lim : Nat × Nat} {Q : xQ} {l1 : Int} {l0 : Nat} {g : xG} {w : xW} (t : xIs g l0 (0, 7) ∧ 
  (((w l0 13) ≤ l1) → xIs g l0 (0, 7) ∧ 
    cal d nMo_draw [xr l0, xi 20] g w (fun r g1 w1 => ∃ v1 : Int, r = some (xi v1) ∧ 
      ((¬ v1 = 0) → aMo_driftOne d lim Q 117 [xr l0, none, none] [] g1 w1) ∧
      ((v1 = 0) → xIs g1 l0 (0, 7) ∧ 
        (((w1 l0 8) ≤ 0) → aMo_driftOne d lim Q 117 [xr l0, none, none] [] g1 w1) ∧
        ((0 < (w1 l0 8)) → xIs g1 l0 (0, 7) ∧ xIs g1 l0 (0, 7) ∧ 
          cal d nMo_draw [xr l0, xi (w1 l0 8)] g1 w1 (fun r g2 w2 => ∃ v2 : Int, r = some (xi v2) ∧ xIs g2 l0 (0, 7) ∧ x32 (104 + v2) ∧ xIs g2 l0 (0, 7) ∧ 
            cal d nMo_canBeLit [xr l0, xi v2] g2 w2 (fun r g3 w3 => ∃ v3 : Int, r = some (xi v3) ∧ 
              ((v3 = 0) → xIs g3 l0 (0, 7) ∧ x32 (104 + v2) ∧ xAr g3 (g3.2 l0 0) (104 + v2) ∧ xA1 g3 (g2.2 l0 0) (104 + v2) ∧ aMo_driftOne d lim Q 117 [xr l0, none, none] [] g3 (xup w3 (g2.2 l0 0) (Int.toNat (104 + v2)) (w3 (g3.2 l0 0) (Int.toNat (104 + v2))))) ∧
              ((¬ v3 = 0) → xA1 g3 (g2.2 l0 0) (104 + v2) ∧ aMo_driftOne d lim Q 117 [xr l0, none, none] [] g3 (xup w3 (g2.2 l0 0) (Int.toNat (104 + v2)) 1)))))))) ∧
  ((l1 < (w l0 13)) → xIs g l0 (0, 7) ∧ x32 (108 + l1) ∧ xAr g (g.2 l0 0) (108 + l1) ∧ xIs g l0 (0, 7) ∧ 
    cal d nMo_draw [xr l0, xi 5] g w (fun r g4 w4 => ∃ v4 : Int, r = some (xi v4) ∧ xIs g4 l0 (0, 7) ∧ 
      cal d nMo_way [xr l0, xi (w (g.2 l0 0) (Int.toNat (108 + l1))), xi v4] g4 w4 (fun r g5 w5 => ∃ v5 : Int, r = some (xi v5) ∧ xIs g5 l0 (0, 7) ∧ x32 (108 + l1) ∧ 
        ((¬ v5 = (-1)) → xA1 g5 (g5.2 l0 0) (108 + l1) ∧ x32 (l1 + 1) ∧ aMo_driftOne d lim Q 2 [xr l0, xi (l1 + 1), none] [] g5 (xup w5 (g5.2 l0 0) (Int.toNat (108 + l1)) v5)) ∧
        ((v5 = (-1)) → xIs g5 l0 (0, 7) ∧ x32 (108 + l1) ∧ xAr g5 (g5.2 l0 0) (108 + l1) ∧ xA1 g5 (g5.2 l0 0) (108 + l1) ∧ x32 (l1 + 1) ∧ aMo_driftOne d lim Q 2 [xr l0, xi (l1 + 1), none] [] g5 (xup w5 (g5.2 l0 0) (Int.toNat (108 + l1)) (w5 (g5.2 l0 0) (Int.toNat (108 + l1))))))))) :
    aMo_driftOne d lim Q 2 [xr l0, xi l1, none] [] g w := xAt_exec (cal_m d) kMo_driftOne 35 t
set_option maxRecDepth 20000 in
theorem wMo_driftOne_117 {d : Nat} {lim : Nat × Nat} {Q : xQ} {l0 : Nat} {g : xG} {w : xW} (t : xIs g l0 (0, 7) ∧ 
  cal d nMo_goMinute [xr l0] g w (fun r g1 w1 => r = none ∧ Q none g1 w1)) :
    aMo_driftOne d lim Q 117 [xr l0, none, none] [] g w := xAt_exec (cal_m d) kMo_driftOne 4 t
theorem eMo_driftOne {d : Nat} {Q : xQ} {l0 : Nat} {g : xG} {w : xW} (t : ∀ (lim : Nat × Nat) (Q2 : xQ), (∀ r g2 w2, g2.1 = g.1 → Q r g2 w2 → Q2 r g2 w2) → aMo_driftOne d lim Q2 0 [xr l0, none, none] [] g w) : cal (d + 1) nMo_driftOne [xr l0] g w Q := t _ _ xQof
abbrev aMo_drift (d : Nat) (lim : Nat × Nat) (Q : xQ) : xK := xAt xMks tMo_drift (cal d) lim Q
def kMo_drift : List (Nat × List Bool) := [(14, [true, true, false, true])]
set_option maxRecDepth 20000 in
theorem wMo_drift_0 {d : Nat} {lim : Nat × Nat} {Q : xQ} {l1 : Int} {l0 : Nat} {g : xG} {w : xW} (t : xIs g l0 (0, 7) ∧ 
  cal d nMo_notMinutes [xr l0, xi l1] g w (fun r g1 w1 => ∃ v1 : Int, r = some (xi v1) ∧ 
    ((v1 = 0) → aMo_drift d lim Q 14 [xr l0, xi l1, none, xi 0] [] g1 w1) ∧
    ((¬ v1 = 0) → Q (some (xi v1)) g1 w1))) :
    aMo_drift d lim Q 0 [xr l0, xi l1, none, none] [] g w := xAt_exec (cal_m d) kMo_drift 9 t
set_option maxRecDepth 20000 in
theorem wMo_drift_14 {d : Nat} {lim : Nat × Nat} {Q : xQ} {l1 l3 : Int} {l0 : Nat} {g : xG} {w : xW} (t : 
  ((l1 ≤ l3) → xIs g l0 (0, 7) ∧ xAr g (g.2 l0 0) 140 ∧ Q (some (xi (w (g.2 l0 0) (Int.toNat 140)))) g w) ∧
  ((l3 < l1) → xIs g l0 (0, 7) ∧ 
    cal d nMo_driftOne [xr l0] g w (fun r g1 w1 => r = none ∧ x32 (l3 + 1) ∧ aMo_drift d lim Q 14 [xr l0, xi l1, none, xi (l3 + 1)] [] g1 w1))) :
    aMo_drift d lim Q 14 [xr l0, xi l1, none, xi l3] [] g w := xAt_exec (cal_m d) kMo_drift 9 t
theorem eMo_drift {d : Nat} {Q : xQ} {l1 : Int} {l0 : Nat} {g : xG} {w : xW} (t : ∀ (lim : Nat × Nat) (Q2 : xQ), (∀ r g2 w2, g2.1 = g.1 → Q r g2 w2 → Q2 r g2 w2) → aMo_drift d lim Q2 0 [xr l0, xi l1, none, none] [] g w) : cal (d + 1) nMo_drift [xr l0, xi l1] g w Q := t _ _ xQof
abbrev aMo_start (d : Nat) (lim : Nat × Nat) (Q : xQ) : xK := xAt xMks tMo_start (cal d) lim Q
def kMo_start : List (Nat × List Bool) := [(2, [true, true])]
set_option maxRecDepth 20000 in
theorem wMo_start_0 {d : Nat} {lim : Nat × Nat} {Q : xQ} {l0 : Nat} {g : xG} {w : xW} (t : aMo_start d lim Q 2 [xr l0, xi 0] [] g w) :
    aMo_start d lim Q 0 [xr l0, none] [] g w := xAt_exec (cal_m d) kMo_start 3 t
set_option maxRecDepth 20000 in
theorem wMo_start_2 {d : Nat} {lim : Nat × Nat} {Q : xQ} {l1 : Int} {l0 : Nat} {g : xG} {w : xW} (t : 
  ((143 ≤ l1) → Q none g w) ∧
  ((l1 < 143) → xIs g l0 (0, 7) ∧ xIs g l0 (0, 7) ∧ xAr g (g.2 l0 0) l1 ∧ xA1 g (g.2 l0 3) l1 ∧ x32 (l1 + 1) ∧ aMo_start d lim Q 2 [xr l0, xi (l1 + 1)] [] g (xup w (g.2 l0 3) (Int.toNat l1) (w (g.2 l0 0) (Int.toNat l1))))) :
    aMo_start d lim Q 2 [xr l0, xi l1] [] g w := xAt_exec (cal_m d) kMo_start 14 t
theorem eMo_start {d : Nat} {Q : xQ} {l0 : Nat} {g : xG} {w : xW} (t : ∀ (lim : Nat × Nat) (Q2 : xQ), (∀ r g2 w2, g2.1 = g.1 → Q r g2 w2 → Q2 r g2 w2) → aMo_start d lim Q2 0 [xr l0, none] [] g w) : cal (d + 1) nMo_start [xr l0] g w Q := t _ _ xQof
abbrev aMo_back (d : Nat) (lim : Nat × Nat) (Q : xQ) : xK := xAt xMks tMo_back (cal d) lim Q
def kMo_back : List (Nat × List Bool) := [(2, [true, true])]
set_option maxRecDepth 20000 in
theorem wMo_back_0 {d : Nat} {lim : Nat × Nat} {Q : xQ} {l0 : Nat} {g : xG} {w : xW} (t : aMo_back d lim Q 2 [xr l0, xi 0] [] g w) :
    aMo_back d lim Q 0 [xr l0, none] [] g w := xAt_exec (cal_m d) kMo_back 3 t
set_option maxRecDepth 20000 in
theorem wMo_back_2 {d : Nat} {lim : Nat × Nat} {Q : xQ} {l1 : Int} {l0 : Nat} {g : xG} {w : xW} (t : 
  ((143 ≤ l1) → Q none g w) ∧
  ((l1 < 143) → xIs g l0 (0, 7) ∧ xIs g l0 (0, 7) ∧ xAr g (g.2 l0 3) l1 ∧ xA1 g (g.2 l0 0) l1 ∧ x32 (l1 + 1) ∧ aMo_back d lim Q 2 [xr l0, xi (l1 + 1)] [] g (xup w (g.2 l0 0) (Int.toNat l1) (w (g.2 l0 3) (Int.toNat l1))))) :
    aMo_back d lim Q 2 [xr l0, xi l1] [] g w := xAt_exec (cal_m d) kMo_back 14 t
theorem eMo_back {d : Nat} {Q : xQ} {l0 : Nat} {g : xG} {w : xW} (t : ∀ (lim : Nat × Nat) (Q2 : xQ), (∀ r g2 w2, g2.1 = g.1 → Q r g2 w2 → Q2 r g2 w2) → aMo_back d lim Q2 0 [xr l0, none] [] g w) : cal (d + 1) nMo_back [xr l0] g w Q := t _ _ xQof
abbrev aMo_then (d : Nat) (lim : Nat × Nat) (Q : xQ) : xK := xAt xMks tMo_then (cal d) lim Q
def kMo_then : List (Nat × List Bool) := [(62, [true, true, true, false, false, false])]
set_option maxRecDepth 20000 in
theorem wMo_then_0 {d : Nat} {lim : Nat × Nat} {Q : xQ} {l1 l2 l3 l4 : Int} {l0 : Nat} {g : xG} {w : xW} (t : xIs g l0 (0, 7) ∧ 
  cal d nMo_isCell [xr l0, xi l1, xi l2] g w (fun r g1 w1 => ∃ v1 : Int, r = some (xi v1) ∧ 
    ((¬ v1 = 0) → 
      cal d nMo_in [xl l3, xl 1, xl 60] g1 w1 (fun r g2 w2 => ∃ v2 : Int, r = some (xi v2) ∧ 
        ((v2 = 0) → Q (some (xi (-1000000002))) g2 w2) ∧
        ((¬ v2 = 0) → 
          cal d nMo_in [xl l4, xl 0, xl 1] g2 w2 (fun r g3 w3 => ∃ v3 : Int, r = some (xi v3) ∧ 
            ((¬ v3 = 0) → xIs g3 l0 (0, 7) ∧ 
              cal d nMo_start [xr l0] g3 w3 (fun r g4 w4 => r = none ∧ xIs g4 l0 (0, 7) ∧ 
                cal d nMo_goMinutes [xr l0, xi l3] g4 w4 (fun r g5 w5 => r = none ∧ xIs g5 l0 (0, 7) ∧ 
                  ((¬ l4 = 0) → aMo_then d lim Q 62 [xr l0, xi l1, xi l2, none, none, none] [xi 60, xr (g5.2 l0 0)] g5 w5) ∧
                  ((l4 = 0) → aMo_then d lim Q 62 [xr l0, xi l1, xi l2, none, none, none] [xi 0, xr (g5.2 l0 0)] g5 w5)))) ∧
            ((v3 = 0) → Q (some (xi (-1000000002))) g3 w3))))) ∧
    ((v1 = 0) → Q (some (xi (-1000000001))) g1 w1))) :
    aMo_then d lim Q 0 [xr l0, xi l1, xi l2, xi l3, xi l4, none] [] g w := xAt_exec (cal_m d) kMo_then 29 t
set_option maxRecDepth 20000 in
theorem wMo_then_62 {d : Nat} {lim : Nat × Nat} {Q : xQ} {l1 l2 s1 : Int} {l0 s0 : Nat} {g : xG} {w : xW} (t : xIs g l0 (0, 7) ∧ x32 ((w l0 4) * l2) ∧ x32 (s1 + ((w l0 4) * l2)) ∧ x32 ((s1 + ((w l0 4) * l2)) + l1) ∧ xAr g s0 ((s1 + ((w l0 4) * l2)) + l1) ∧ xIs g l0 (0, 7) ∧ 
  cal d nMo_back [xr l0] g w (fun r g1 w1 => r = none ∧ Q (some (xi (w s0 (Int.toNat ((s1 + ((w l0 4) * l2)) + l1))))) g1 w1)) :
    aMo_then d lim Q 62 [xr l0, xi l1, xi l2, none, none, none] [xi s1, xr s0] g w := xAt_exec (cal_m d) kMo_then 14 t
theorem eMo_then {d : Nat} {Q : xQ} {l1 l2 l3 l4 : Int} {l0 : Nat} {g : xG} {w : xW} (t : ∀ (lim : Nat × Nat) (Q2 : xQ), (∀ r g2 w2, g2.1 = g.1 → Q r g2 w2 → Q2 r g2 w2) → aMo_then d lim Q2 0 [xr l0, xi l1, xi l2, xi l3, xi l4, none] [] g w) : cal (d + 1) nMo_then [xr l0, xi l1, xi l2, xi l3, xi l4] g w Q := t _ _ xQof
abbrev aMo_power (d : Nat) (lim : Nat × Nat) (Q : xQ) : xK := xAt xMks tMo_power (cal d) lim Q
def kMo_power : List (Nat × List Bool) := [(4, [true, true, true, true])]
set_option maxRecDepth 20000 in
theorem wMo_power_0 {d : Nat} {lim : Nat × Nat} {Q : xQ} {l0 l1 : Int} {g : xG} {w : xW} (t : aMo_power d lim Q 4 [xi l0, xi l1, xi 1, xi 0] [] g w) :
    aMo_power d lim Q 0 [xi l0, xi l1, none, none] [] g w := xAt_exec (cal_m d) kMo_power 5 t
set_option maxRecDepth 20000 in
theorem wMo_power_4 {d : Nat} {lim : Nat × Nat} {Q : xQ} {l0 l1 l2 l3 : Int} {g : xG} {w : xW} (t : 
  ((l1 ≤ l3) → Q (some (xi l2)) g w) ∧
  ((l3 < l1) → x32 (l2 * l0) ∧ x32 (l3 + 1) ∧ aMo_power d lim Q 4 [xi l0, xi l1, xi (l2 * l0), xi (l3 + 1)] [] g w)) :
    aMo_power d lim Q 4 [xi l0, xi l1, xi l2, xi l3] [] g w := xAt_exec (cal_m d) kMo_power 10 t
theorem eMo_power {d : Nat} {Q : xQ} {l0 l1 : Int} {g : xG} {w : xW} (t : ∀ (lim : Nat × Nat) (Q2 : xQ), (∀ r g2 w2, g2.1 = g.1 → Q r g2 w2 → Q2 r g2 w2) → aMo_power d lim Q2 0 [xi l0, xi l1, none, none] [] g w) : cal (d + 1) nMo_power [xi l0, xi l1] g w Q := t _ _ xQof
abbrev aMo_ownsBy (d : Nat) (lim : Nat × Nat) (Q : xQ) : xK := xAt xMks tMo_ownsBy (cal d) lim Q
def kMo_ownsBy : List (Nat × List Bool) := [(3, [true, true, true, true, true, false])]
set_option maxRecDepth 20000 in
theorem wMo_ownsBy_0 {d : Nat} {lim : Nat × Nat} {Q : xQ} {l1 l2 l3 : Int} {l0 : Nat} {g : xG} {w : xW} (t : aMo_ownsBy d lim Q 3 [xr l0, xi l1, xi l2, xi l3, xi 0, none] [] g w) :
    aMo_ownsBy d lim Q 0 [xr l0, xi l1, xi l2, xi l3, none, none] [] g w := xAt_exec (cal_m d) kMo_ownsBy 3 t
set_option maxRecDepth 20000 in
theorem wMo_ownsBy_3 {d : Nat} {lim : Nat × Nat} {Q : xQ} {l1 l2 l3 l4 : Int} {l0 : Nat} {g : xG} {w : xW} (t : 
  ((l2 ≤ l4) → xIs g l0 (0, 7) ∧ 
    cal d nMo_owns [xr l0, xi l1] g w (fun r g1 w1 => ∃ v1 : Int, r = some (xi v1) ∧ Q (some (xi v1)) g1 w1)) ∧
  ((l4 < l2) → xIs g l0 (0, 7) ∧ x32 (108 + l1) ∧ xAr g (g.2 l0 0) (108 + l1) ∧ x32 (l2 - 1) ∧ x32 ((l2 - 1) - l4) ∧ 
    cal d nMo_power [xi 5, xi ((l2 - 1) - l4)] g w (fun r g2 w2 => ∃ v2 : Int, r = some (xi v2) ∧ ((v2 : Int) ≠ 0 ∧ x32 (Int.tdiv l3 v2)) ∧ ((5 : Int) ≠ 0 ∧ x32 (Int.tdiv (Int.tdiv l3 v2) 5)) ∧ xIs g2 l0 (0, 7) ∧ 
      cal d nMo_way [xr l0, xi (w (g.2 l0 0) (Int.toNat (108 + l1))), xi (Int.tmod (Int.tdiv l3 v2) 5)] g2 w2 (fun r g3 w3 => ∃ v3 : Int, r = some (xi v3) ∧ 
        ((¬ v3 = (-1)) → xIs g3 l0 (0, 7) ∧ x32 (108 + l1) ∧ xA1 g3 (g3.2 l0 0) (108 + l1) ∧ xIs g3 l0 (0, 7) ∧ 
          cal d nMo_goMinute [xr l0] g3 (xup w3 (g3.2 l0 0) (Int.toNat (108 + l1)) v3) (fun r g4 w4 => r = none ∧ x32 (l4 + 1) ∧ aMo_ownsBy d lim Q 3 [xr l0, xi l1, xi l2, xi l3, xi (l4 + 1), none] [] g4 w4)) ∧
        ((v3 = (-1)) → Q (some (xi (-1))) g3 w3))))) :
    aMo_ownsBy d lim Q 3 [xr l0, xi l1, xi l2, xi l3, xi l4, none] [] g w := xAt_exec (cal_m d) kMo_ownsBy 38 t
theorem eMo_ownsBy {d : Nat} {Q : xQ} {l1 l2 l3 : Int} {l0 : Nat} {g : xG} {w : xW} (t : ∀ (lim : Nat × Nat) (Q2 : xQ), (∀ r g2 w2, g2.1 = g.1 → Q r g2 w2 → Q2 r g2 w2) → aMo_ownsBy d lim Q2 0 [xr l0, xi l1, xi l2, xi l3, none, none] [] g w) : cal (d + 1) nMo_ownsBy [xr l0, xi l1, xi l2, xi l3] g w Q := t _ _ xQof
abbrev aMo_stands (d : Nat) (lim : Nat × Nat) (Q : xQ) : xK := xAt xMks tMo_stands (cal d) lim Q
def kMo_stands : List (Nat × List Bool) := [(39, [true, true, true, true, true, true, true, false]), (77, [true, true, true, true, false, true, true, true])]
set_option maxRecDepth 20000 in
theorem wMo_stands_0 {d : Nat} {lim : Nat × Nat} {Q : xQ} {l1 l2 l3 : Int} {l0 : Nat} {g : xG} {w : xW} (t : xIs g l0 (0, 7) ∧ 
  cal d nMo_isPerson [xr l0, xi l1] g w (fun r g1 w1 => ∃ v1 : Int, r = some (xi v1) ∧ 
    ((¬ v1 = 0) → 
      cal d nMo_in [xl l2, xl 1, xl 5] g1 w1 (fun r g2 w2 => ∃ v2 : Int, r = some (xi v2) ∧ 
        ((¬ v2 = 0) → xIs g2 l0 (0, 7) ∧ 
          cal d nMo_start [xr l0] g2 w2 (fun r g3 w3 => r = none ∧ aMo_stands d lim Q 39 [xr l0, xi l1, xi l2, xi l3, xi 0, xi (-1), xi 0, none] [] g3 w3)) ∧
        ((v2 = 0) → Q (some (xi (-1000000002))) g2 w2))) ∧
    ((v1 = 0) → Q (some (xi (-1000000001))) g1 w1))) :
    aMo_stands d lim Q 0 [xr l0, xi l1, xi l2, xi l3, none, none, none, none] [] g w := xAt_exec (cal_m d) kMo_stands 19 t
set_option maxRecDepth 20000 in
theorem wMo_stands_39 {d : Nat} {lim : Nat × Nat} {Q : xQ} {l1 l2 l3 l4 l5 l6 : Int} {l0 : Nat} {g : xG} {w : xW} (t : 
  cal d nMo_power [xi 5, xi l2] g w (fun r g1 w1 => ∃ v1 : Int, r = some (xi v1) ∧ 
    ((v1 ≤ l6) → 
      ((¬ l3 = (-1)) → x32 (l2 - 1) ∧ 
        cal d nMo_in [xl l3, xl 0, xl (l2 - 1)] g1 w1 (fun r g2 w2 => ∃ v2 : Int, r = some (xi v2) ∧ 
          ((v2 = 0) → Q (some (xi (-1))) g2 w2) ∧
          ((¬ v2 = 0) → x32 (l2 - 1) ∧ x32 ((l2 - 1) - l3) ∧ 
            cal d nMo_power [xi 5, xi ((l2 - 1) - l3)] g2 w2 (fun r g3 w3 => ∃ v3 : Int, r = some (xi v3) ∧ ((v3 : Int) ≠ 0 ∧ x32 (Int.tdiv l4 v3)) ∧ ((5 : Int) ≠ 0 ∧ x32 (Int.tdiv (Int.tdiv l4 v3) 5)) ∧ Q (some (xi (Int.tmod (Int.tdiv l4 v3) 5))) g3 w3)))) ∧
      ((l3 = (-1)) → Q (some (xi l5)) g1 w1)) ∧
    ((l6 < v1) → xIs g1 l0 (0, 7) ∧ 
      cal d nMo_ownsBy [xr l0, xi l1, xi l2, xi l6] g1 w1 (fun r g4 w4 => ∃ v4 : Int, r = some (xi v4) ∧ xIs g4 l0 (0, 7) ∧ 
        cal d nMo_back [xr l0] g4 w4 (fun r g5 w5 => r = none ∧ 
          ((v4 ≤ l5) → aMo_stands d lim Q 77 [xr l0, xi l1, xi l2, xi l3, none, xi l5, xi l6, xi v4] [xi l4] g5 w5) ∧
          ((l5 < v4) → aMo_stands d lim Q 77 [xr l0, xi l1, xi l2, xi l3, none, xi l5, xi l6, xi v4] [xi l6] g5 w5)))))) :
    aMo_stands d lim Q 39 [xr l0, xi l1, xi l2, xi l3, xi l4, xi l5, xi l6, none] [] g w := xAt_exec (cal_m d) kMo_stands 31 t
set_option maxRecDepth 20000 in
theorem wMo_stands_77 {d : Nat} {lim : Nat × Nat} {Q : xQ} {l1 l2 l3 l5 l6 l7 s0 : Int} {l0 : Nat} {g : xG} {w : xW} (t : 
  ((l7 ≤ l5) → x32 (l6 + 1) ∧ aMo_stands d lim Q 39 [xr l0, xi l1, xi l2, xi l3, xi s0, xi l5, xi (l6 + 1), none] [] g w) ∧
  ((l5 < l7) → x32 (l6 + 1) ∧ aMo_stands d lim Q 39 [xr l0, xi l1, xi l2, xi l3, xi s0, xi l7, xi (l6 + 1), none] [] g w)) :
    aMo_stands d lim Q 77 [xr l0, xi l1, xi l2, xi l3, none, xi l5, xi l6, xi l7] [xi s0] g w := xAt_exec (cal_m d) kMo_stands 10 t
theorem eMo_stands {d : Nat} {Q : xQ} {l1 l2 l3 : Int} {l0 : Nat} {g : xG} {w : xW} (t : ∀ (lim : Nat × Nat) (Q2 : xQ), (∀ r g2 w2, g2.1 = g.1 → Q r g2 w2 → Q2 r g2 w2) → aMo_stands d lim Q2 0 [xr l0, xi l1, xi l2, xi l3, none, none, none, none] [] g w) : cal (d + 1) nMo_stands [xr l0, xi l1, xi l2, xi l3] g w Q := t _ _ xQof
abbrev aMo_notStove (d : Nat) (lim : Nat × Nat) (Q : xQ) : xK := xAt xMks tMo_notStove (cal d) lim Q
def kMo_notStove : List (Nat × List Bool) := []
set_option maxRecDepth 20000 in
theorem wMo_notStove_0 {d : Nat} {lim : Nat × Nat} {Q : xQ} {l1 l2 l3 : Int} {l0 : Nat} {g : xG} {w : xW} (t : xIs g l0 (0, 7) ∧ 
  cal d nMo_isPerson [xr l0, xi l1] g w (fun r g1 w1 => ∃ v1 : Int, r = some (xi v1) ∧ 
    ((v1 = 0) → Q (some (xi (-1000000001))) g1 w1) ∧
    ((¬ v1 = 0) → xIs g1 l0 (0, 7) ∧ 
      cal d nMo_isStove [xr l0, xi l2] g1 w1 (fun r g2 w2 => ∃ v2 : Int, r = some (xi v2) ∧ 
        ((¬ v2 = 0) → 
          cal d nMo_in [xl l3, xl 1, xl 30] g2 w2 (fun r g3 w3 => ∃ v3 : Int, r = some (xi v3) ∧ 
            ((¬ v3 = 0) → xIs g3 l0 (0, 7) ∧ 
              cal d nMo_canBeLit [xr l0, xi l2] g3 w3 (fun r g4 w4 => ∃ v4 : Int, r = some (xi v4) ∧ 
                ((¬ v4 = 0) → Q (some (xi 0)) g4 w4) ∧
                ((v4 = 0) → Q (some (xi (-1000000003))) g4 w4))) ∧
            ((v3 = 0) → Q (some (xi (-1000000002))) g3 w3))) ∧
        ((v2 = 0) → Q (some (xi (-1000000001))) g2 w2))))) :
    aMo_notStove d lim Q 0 [xr l0, xi l1, xi l2, xi l3] [] g w := xAt_exec (cal_m d) kMo_notStove 22 t
theorem eMo_notStove {d : Nat} {Q : xQ} {l1 l2 l3 : Int} {l0 : Nat} {g : xG} {w : xW} (t : ∀ (lim : Nat × Nat) (Q2 : xQ), (∀ r g2 w2, g2.1 = g.1 → Q r g2 w2 → Q2 r g2 w2) → aMo_notStove d lim Q2 0 [xr l0, xi l1, xi l2, xi l3] [] g w) : cal (d + 1) nMo_notStove [xr l0, xi l1, xi l2, xi l3] g w Q := t _ _ xQof
abbrev aMo_lightFor (d : Nat) (lim : Nat × Nat) (Q : xQ) : xK := xAt xMks tMo_lightFor (cal d) lim Q
def kMo_lightFor : List (Nat × List Bool) := [(24, [true, true, true, true, false, true, false]), (77, [true, true, true, true, false, true, false])]
set_option maxRecDepth 20000 in
theorem wMo_lightFor_0 {d : Nat} {lim : Nat × Nat} {Q : xQ} {l1 l2 l3 : Int} {l0 : Nat} {g : xG} {w : xW} (t : xIs g l0 (0, 7) ∧ 
  cal d nMo_notStove [xr l0, xi l1, xi l2, xi l3] g w (fun r g1 w1 => ∃ v1 : Int, r = some (xi v1) ∧ 
    ((v1 = 0) → xIs g1 l0 (0, 7) ∧ 
      cal d nMo_start [xr l0] g1 w1 (fun r g2 w2 => r = none ∧ aMo_lightFor d lim Q 24 [xr l0, xi l1, xi l2, xi l3, none, xi 0, none] [] g2 w2)) ∧
    ((¬ v1 = 0) → Q (some (xi v1)) g1 w1))) :
    aMo_lightFor d lim Q 0 [xr l0, xi l1, xi l2, xi l3, none, none, none] [] g w := xAt_exec (cal_m d) kMo_lightFor 13 t
set_option maxRecDepth 20000 in
theorem wMo_lightFor_24 {d : Nat} {lim : Nat × Nat} {Q : xQ} {l1 l2 l3 l5 : Int} {l0 : Nat} {g : xG} {w : xW} (t : 
  ((l3 < l5) → Q (some (xi (-1))) g w) ∧
  ((l5 ≤ l3) → xIs g l0 (0, 7) ∧ 
    cal d nMo_goMinutes [xr l0, xi l5] g w (fun r g1 w1 => r = none ∧ xIs g1 l0 (0, 7) ∧ x32 (104 + l2) ∧ xA1 g1 (g1.2 l0 0) (104 + l2) ∧ x32 (l3 - l5) ∧ xIs g1 l0 (0, 7) ∧ 
      cal d nMo_goMinutes [xr l0, xi (l3 - l5)] g1 (xup w1 (g1.2 l0 0) (Int.toNat (104 + l2)) 1) (fun r g2 w2 => r = none ∧ xIs g2 l0 (0, 7) ∧ xIs g2 l0 (0, 7) ∧ xAr g2 (g2.2 l0 9) l2 ∧ x32 (60 + (w2 (g2.2 l0 9) (Int.toNat l2))) ∧ xAr g2 (g2.2 l0 0) (60 + (w2 (g2.2 l0 9) (Int.toNat l2))) ∧ 
        ((¬ (w2 (g2.2 l0 0) (Int.toNat (60 + (w2 (g2.2 l0 9) (Int.toNat l2))))) = l1) → aMo_lightFor d lim Q 77 [xr l0, xi l1, xi l2, xi l3, none, xi l5, none] [xi 0] g2 w2) ∧
        (((w2 (g2.2 l0 0) (Int.toNat (60 + (w2 (g2.2 l0 9) (Int.toNat l2))))) = l1) → aMo_lightFor d lim Q 77 [xr l0, xi l1, xi l2, xi l3, none, xi l5, none] [xi 1] g2 w2))))) :
    aMo_lightFor d lim Q 24 [xr l0, xi l1, xi l2, xi l3, none, xi l5, none] [] g w := xAt_exec (cal_m d) kMo_lightFor 32 t
set_option maxRecDepth 20000 in
theorem wMo_lightFor_77 {d : Nat} {lim : Nat × Nat} {Q : xQ} {l1 l2 l3 l5 s0 : Int} {l0 : Nat} {g : xG} {w : xW} (t : xIs g l0 (0, 7) ∧ 
  cal d nMo_back [xr l0] g w (fun r g1 w1 => r = none ∧ 
    ((s0 = 0) → x32 (l5 + 1) ∧ aMo_lightFor d lim Q 24 [xr l0, xi l1, xi l2, xi l3, none, xi (l5 + 1), none] [] g1 w1) ∧
    ((¬ s0 = 0) → Q (some (xi l5)) g1 w1))) :
    aMo_lightFor d lim Q 77 [xr l0, xi l1, xi l2, xi l3, none, xi l5, none] [xi s0] g w := xAt_exec (cal_m d) kMo_lightFor 8 t
theorem eMo_lightFor {d : Nat} {Q : xQ} {l1 l2 l3 : Int} {l0 : Nat} {g : xG} {w : xW} (t : ∀ (lim : Nat × Nat) (Q2 : xQ), (∀ r g2 w2, g2.1 = g.1 → Q r g2 w2 → Q2 r g2 w2) → aMo_lightFor d lim Q2 0 [xr l0, xi l1, xi l2, xi l3, none, none, none] [] g w) : cal (d + 1) nMo_lightFor [xr l0, xi l1, xi l2, xi l3] g w Q := t _ _ xQof
abbrev aMo_ownsWithout (d : Nat) (lim : Nat × Nat) (Q : xQ) : xK := xAt xMks tMo_ownsWithout (cal d) lim Q
def kMo_ownsWithout : List (Nat × List Bool) := [(44, [true, false, false, false, false, false])]
set_option maxRecDepth 20000 in
theorem wMo_ownsWithout_0 {d : Nat} {lim : Nat × Nat} {Q : xQ} {l1 l2 l3 l4 : Int} {l0 : Nat} {g : xG} {w : xW} (t : xIs g l0 (0, 7) ∧ xIs g l0 (0, 7) ∧ x32 (104 + l2) ∧ xA1 g (g.2 l0 0) (104 + l2) ∧ xIs g l0 (0, 7) ∧ 
  cal d nMo_goMinutes [xr l0, xi l3] g (xup (xup w l0 50 l4) (g.2 l0 0) (Int.toNat (104 + l2)) 1) (fun r g1 w1 => r = none ∧ xIs g1 l0 (0, 7) ∧ xIs g1 l0 (0, 7) ∧ xAr g1 (g1.2 l0 9) l2 ∧ x32 (60 + (w1 (g1.2 l0 9) (Int.toNat l2))) ∧ xAr g1 (g1.2 l0 0) (60 + (w1 (g1.2 l0 9) (Int.toNat l2))) ∧ 
    ((¬ (w1 (g1.2 l0 0) (Int.toNat (60 + (w1 (g1.2 l0 9) (Int.toNat l2))))) = l1) → aMo_ownsWithout d lim Q 44 [xr l0, none, none, none, none, none] [xi 0] g1 w1) ∧
    (((w1 (g1.2 l0 0) (Int.toNat (60 + (w1 (g1.2 l0 9) (Int.toNat l2))))) = l1) → aMo_ownsWithout d lim Q 44 [xr l0, none, none, none, none, none] [xi 1] g1 w1))) :
    aMo_ownsWithout d lim Q 0 [xr l0, xi l1, xi l2, xi l3, xi l4, none] [] g w := xAt_exec (cal_m d) kMo_ownsWithout 27 t
set_option maxRecDepth 20000 in
theorem wMo_ownsWithout_44 {d : Nat} {lim : Nat × Nat} {Q : xQ} {s0 : Int} {l0 : Nat} {g : xG} {w : xW} (t : xIs g l0 (0, 7) ∧ 
  cal d nMo_back [xr l0] g w (fun r g1 w1 => r = none ∧ xIs g1 l0 (0, 7) ∧ ((s0 : Int) = 0 ∨ (s0 : Int) = 1) ∧ Q (some (xi s0)) g1 (xup w1 l0 50 (-1)))) :
    aMo_ownsWithout d lim Q 44 [xr l0, none, none, none, none, none] [xi s0] g w := xAt_exec (cal_m d) kMo_ownsWithout 9 t
theorem eMo_ownsWithout {d : Nat} {Q : xQ} {l1 l2 l3 l4 : Int} {l0 : Nat} {g : xG} {w : xW} (t : ∀ (lim : Nat × Nat) (Q2 : xQ), (∀ r g2 w2, g2.1 = g.1 → Q r g2 w2 → Q2 r g2 w2) → aMo_ownsWithout d lim Q2 0 [xr l0, xi l1, xi l2, xi l3, xi l4, none] [] g w) : cal (d + 1) nMo_ownsWithout [xr l0, xi l1, xi l2, xi l3, xi l4] g w Q := t _ _ xQof
abbrev aMo_keptOut (d : Nat) (lim : Nat × Nat) (Q : xQ) : xK := xAt xMks tMo_keptOut (cal d) lim Q
def kMo_keptOut : List (Nat × List Bool) := [(37, [true, true, true, true, false, true])]
set_option maxRecDepth 20000 in
theorem wMo_keptOut_0 {d : Nat} {lim : Nat × Nat} {Q : xQ} {l1 l2 l3 : Int} {l0 : Nat} {g : xG} {w : xW} (t : xIs g l0 (0, 7) ∧ 
  cal d nMo_notStove [xr l0, xi l1, xi l2, xi l3] g w (fun r g1 w1 => ∃ v1 : Int, r = some (xi v1) ∧ 
    ((v1 = 0) → xIs g1 l0 (0, 7) ∧ 
      cal d nMo_start [xr l0] g1 w1 (fun r g2 w2 => r = none ∧ xIs g2 l0 (0, 7) ∧ 
        cal d nMo_ownsWithout [xr l0, xi l1, xi l2, xi l3, xi (-1)] g2 w2 (fun r g3 w3 => ∃ v3 : Int, r = some (xi v3) ∧ 
          ((v3 = 0) → aMo_keptOut d lim Q 37 [xr l0, xi l1, xi l2, xi l3, none, xi 0] [] g3 w3) ∧
          ((¬ v3 = 0) → Q (some (xi (-1))) g3 w3)))) ∧
    ((¬ v1 = 0) → Q (some (xi v1)) g1 w1))) :
    aMo_keptOut d lim Q 0 [xr l0, xi l1, xi l2, xi l3, none, none] [] g w := xAt_exec (cal_m d) kMo_keptOut 20 t
set_option maxRecDepth 20000 in
theorem wMo_keptOut_37 {d : Nat} {lim : Nat × Nat} {Q : xQ} {l1 l2 l3 l5 : Int} {l0 : Nat} {g : xG} {w : xW} (t : xIs g l0 (0, 7) ∧ 
  (((w l0 13) ≤ l5) → Q (some (xi (-1))) g w) ∧
  ((l5 < (w l0 13)) → 
    ((l5 = l1) → x32 (l5 + 1) ∧ aMo_keptOut d lim Q 37 [xr l0, xi l1, xi l2, xi l3, none, xi (l5 + 1)] [] g w) ∧
    ((¬ l5 = l1) → xIs g l0 (0, 7) ∧ 
      cal d nMo_ownsWithout [xr l0, xi l1, xi l2, xi l3, xi l5] g w (fun r g1 w1 => ∃ v1 : Int, r = some (xi v1) ∧ 
        ((v1 = 0) → x32 (l5 + 1) ∧ aMo_keptOut d lim Q 37 [xr l0, xi l1, xi l2, xi l3, none, xi (l5 + 1)] [] g1 w1) ∧
        ((¬ v1 = 0) → Q (some (xi l5)) g1 w1))))) :
    aMo_keptOut d lim Q 37 [xr l0, xi l1, xi l2, xi l3, none, xi l5] [] g w := xAt_exec (cal_m d) kMo_keptOut 17 t
theorem eMo_keptOut {d : Nat} {Q : xQ} {l1 l2 l3 : Int} {l0 : Nat} {g : xG} {w : xW} (t : ∀ (lim : Nat × Nat) (Q2 : xQ), (∀ r g2 w2, g2.1 = g.1 → Q r g2 w2 → Q2 r g2 w2) → aMo_keptOut d lim Q2 0 [xr l0, xi l1, xi l2, xi l3, none, none] [] g w) : cal (d + 1) nMo_keptOut [xr l0, xi l1, xi l2, xi l3] g w Q := t _ _ xQof
abbrev aMo_gain (d : Nat) (lim : Nat × Nat) (Q : xQ) : xK := xAt xMks tMo_gain (cal d) lim Q
def kMo_gain : List (Nat × List Bool) := []
set_option maxRecDepth 20000 in
theorem wMo_gain_0 {d : Nat} {lim : Nat × Nat} {Q : xQ} {l1 l2 l3 l4 l5 : Int} {l0 : Nat} {g : xG} {w : xW} (t : xIs g l0 (0, 7) ∧ 
  cal d nMo_notWall [xr l0, xi l2, xi l3, xi l4] g w (fun r g1 w1 => ∃ v1 : Int, r = some (xi v1) ∧ xIs g1 l0 (0, 7) ∧ 
    cal d nMo_isPerson [xr l0, xi l1] g1 w1 (fun r g2 w2 => ∃ v2 : Int, r = some (xi v2) ∧ 
      ((v2 = 0) → Q (some (xi (-1000000001))) g2 w2) ∧
      ((¬ v2 = 0) → 
        ((¬ v1 = (-1000000001)) → 
          ((¬ v1 = 0) → Q (some (xi (-1000000002))) g2 w2) ∧
          ((v1 = 0) → 
            cal d nMo_in [xl l5, xl 1, xl 60] g2 w2 (fun r g3 w3 => ∃ v3 : Int, r = some (xi v3) ∧ 
              ((¬ v3 = 0) → x32 (20 * l4) ∧ x32 (20 + (20 * l4)) ∧ xIs g3 l0 (0, 7) ∧ x32 ((w3 l0 4) * l3) ∧ x32 ((20 + (20 * l4)) + ((w3 l0 4) * l3)) ∧ x32 (((20 + (20 * l4)) + ((w3 l0 4) * l3)) + l2) ∧ xIs g3 l0 (0, 7) ∧ 
                cal d nMo_start [xr l0] g3 w3 (fun r g4 w4 => r = none ∧ xIs g4 l0 (0, 7) ∧ xA1 g4 (g4.2 l0 0) (((20 + (20 * l4)) + ((w3 l0 4) * l3)) + l2) ∧ xIs g4 l0 (0, 7) ∧ 
                  cal d nMo_goMinutes [xr l0, xi l5] g4 (xup w4 (g4.2 l0 0) (Int.toNat (((20 + (20 * l4)) + ((w3 l0 4) * l3)) + l2)) 1) (fun r g5 w5 => r = none ∧ xIs g5 l0 (0, 7) ∧ 
                    cal d nMo_owns [xr l0, xi l1] g5 w5 (fun r g6 w6 => ∃ v6 : Int, r = some (xi v6) ∧ xIs g6 l0 (0, 7) ∧ 
                      cal d nMo_back [xr l0] g6 w6 (fun r g7 w7 => r = none ∧ xIs g7 l0 (0, 7) ∧ xA1 g7 (g7.2 l0 0) (((20 + (20 * l4)) + ((w3 l0 4) * l3)) + l2) ∧ xIs g7 l0 (0, 7) ∧ 
                        cal d nMo_goMinutes [xr l0, xi l5] g7 (xup w7 (g7.2 l0 0) (Int.toNat (((20 + (20 * l4)) + ((w3 l0 4) * l3)) + l2)) 0) (fun r g8 w8 => r = none ∧ xIs g8 l0 (0, 7) ∧ 
                          cal d nMo_owns [xr l0, xi l1] g8 w8 (fun r g9 w9 => ∃ v9 : Int, r = some (xi v9) ∧ xIs g9 l0 (0, 7) ∧ 
                            cal d nMo_back [xr l0] g9 w9 (fun r g10 w10 => r = none ∧ x32 (v6 - v9) ∧ Q (some (xi (v6 - v9))) g10 w10)))))))) ∧
              ((v3 = 0) → Q (some (xi (-1000000002))) g3 w3)))) ∧
        ((v1 = (-1000000001)) → Q (some (xi (-1000000001))) g2 w2))))) :
    aMo_gain d lim Q 0 [xr l0, xi l1, xi l2, xi l3, xi l4, xi l5, none, none, none, none] [] g w := xAt_exec (cal_m d) kMo_gain 69 t
theorem eMo_gain {d : Nat} {Q : xQ} {l1 l2 l3 l4 l5 : Int} {l0 : Nat} {g : xG} {w : xW} (t : ∀ (lim : Nat × Nat) (Q2 : xQ), (∀ r g2 w2, g2.1 = g.1 → Q r g2 w2 → Q2 r g2 w2) → aMo_gain d lim Q2 0 [xr l0, xi l1, xi l2, xi l3, xi l4, xi l5, none, none, none, none] [] g w) : cal (d + 1) nMo_gain [xr l0, xi l1, xi l2, xi l3, xi l4, xi l5] g w Q := t _ _ xQof
abbrev aMo_isLet (d : Nat) (lim : Nat × Nat) (Q : xQ) : xK := xAt xMks tMo_isLet (cal d) lim Q
def kMo_isLet : List (Nat × List Bool) := [(44, [true, true, true, true, true, false, false]), (83, [true, true, true, false, true, false, false])]
set_option maxRecDepth 20000 in
theorem wMo_isLet_0 {d : Nat} {lim : Nat × Nat} {Q : xQ} {l1 : Int} {l0 : Nat} {g : xG} {w : xW} (t : xIs g l0 (0, 7) ∧ x32 (60 + l1) ∧ xAr g (g.2 l0 0) (60 + l1) ∧ 
  (((w (g.2 l0 0) (Int.toNat (60 + l1))) = (-1)) → aMo_isLet d lim Q 44 [xr l0, xi l1, xi (w (g.2 l0 0) (Int.toNat (60 + l1))), xi 0, xi 1, none, none] [] g w) ∧
  ((¬ (w (g.2 l0 0) (Int.toNat (60 + l1))) = (-1)) → xIs g l0 (0, 7) ∧ xAr g (g.2 l0 51) (w (g.2 l0 0) (Int.toNat (60 + l1))) ∧ xIs g l0 (0, 7) ∧ x32 (0 + l1) ∧ xAr g (g.2 l0 0) (0 + l1) ∧ ((50 : Int) ≠ 0 ∧ x32 (Int.tdiv (w (g.2 l0 0) (Int.toNat (0 + l1))) 50)) ∧ 
    (((Int.tdiv (w (g.2 l0 0) (Int.toNat (0 + l1))) 50) < (w (g.2 l0 51) (Int.toNat (w (g.2 l0 0) (Int.toNat (60 + l1)))))) → aMo_isLet d lim Q 44 [xr l0, xi l1, xi (w (g.2 l0 0) (Int.toNat (60 + l1))), xi 0, xi 1, none, none] [] g w) ∧
    (((w (g.2 l0 51) (Int.toNat (w (g.2 l0 0) (Int.toNat (60 + l1))))) ≤ (Int.tdiv (w (g.2 l0 0) (Int.toNat (0 + l1))) 50)) → aMo_isLet d lim Q 44 [xr l0, xi l1, xi (w (g.2 l0 0) (Int.toNat (60 + l1))), xi 1, xi 1, none, none] [] g w))) :
    aMo_isLet d lim Q 0 [xr l0, xi l1, none, none, none, none, none] [] g w := xAt_exec (cal_m d) kMo_isLet 29 t
set_option maxRecDepth 20000 in
theorem wMo_isLet_44 {d : Nat} {lim : Nat × Nat} {Q : xQ} {l1 l2 l3 l4 : Int} {l0 : Nat} {g : xG} {w : xW} (t : 
  ((4 < l4) → ((l3 : Int) = 0 ∨ (l3 : Int) = 1) ∧ Q (some (xi l3)) g w) ∧
  ((l4 ≤ 4) → 
    ((l3 = 0) → ((l3 : Int) = 0 ∨ (l3 : Int) = 1) ∧ Q (some (xi l3)) g w) ∧
    ((¬ l3 = 0) → xIs g l0 (0, 7) ∧ 
      cal d nMo_way [xr l0, xi l1, xi l4] g w (fun r g1 w1 => ∃ v1 : Int, r = some (xi v1) ∧ 
        ((¬ v1 = (-1)) → xIs g1 l0 (0, 7) ∧ x32 (60 + v1) ∧ xAr g1 (g1.2 l0 0) (60 + v1) ∧ aMo_isLet d lim Q 83 [xr l0, xi l1, xi l2, none, xi l4, none, none] [xi (w1 (g1.2 l0 0) (Int.toNat (60 + v1)))] g1 w1) ∧
        ((v1 = (-1)) → aMo_isLet d lim Q 83 [xr l0, xi l1, xi l2, none, xi l4, none, none] [xi (-1)] g1 w1))))) :
    aMo_isLet d lim Q 44 [xr l0, xi l1, xi l2, xi l3, xi l4, none, none] [] g w := xAt_exec (cal_m d) kMo_isLet 20 t
set_option maxRecDepth 20000 in
theorem wMo_isLet_83 {d : Nat} {lim : Nat × Nat} {Q : xQ} {l1 l2 l4 s0 : Int} {l0 : Nat} {g : xG} {w : xW} (t : 
  ((s0 = (-1)) → x32 (l4 + 1) ∧ aMo_isLet d lim Q 44 [xr l0, xi l1, xi l2, xi 1, xi (l4 + 1), none, none] [] g w) ∧
  ((¬ s0 = (-1)) → 
    ((s0 = l2) → x32 (l4 + 1) ∧ aMo_isLet d lim Q 44 [xr l0, xi l1, xi l2, xi 1, xi (l4 + 1), none, none] [] g w) ∧
    ((¬ s0 = l2) → xIs g l0 (0, 7) ∧ xAr g (g.2 l0 51) s0 ∧ xIs g l0 (0, 7) ∧ xAr g (g.2 l0 51) l2 ∧ 
      (((w (g.2 l0 51) (Int.toNat s0)) < (w (g.2 l0 51) (Int.toNat l2))) → x32 (l4 + 1) ∧ aMo_isLet d lim Q 44 [xr l0, xi l1, xi l2, xi 0, xi (l4 + 1), none, none] [] g w) ∧
      (((w (g.2 l0 51) (Int.toNat l2)) ≤ (w (g.2 l0 51) (Int.toNat s0))) → x32 (l4 + 1) ∧ aMo_isLet d lim Q 44 [xr l0, xi l1, xi l2, xi 1, xi (l4 + 1), none, none] [] g w)))) :
    aMo_isLet d lim Q 83 [xr l0, xi l1, xi l2, none, xi l4, none, none] [xi s0] g w := xAt_exec (cal_m d) kMo_isLet 22 t
theorem eMo_isLet {d : Nat} {Q : xQ} {l1 : Int} {l0 : Nat} {g : xG} {w : xW} (t : ∀ (lim : Nat × Nat) (Q2 : xQ), (∀ r g2 w2, g2.1 = g.1 → Q r g2 w2 → Q2 r g2 w2) → aMo_isLet d lim Q2 0 [xr l0, xi l1, none, none, none, none, none] [] g w) : cal (d + 1) nMo_isLet [xr l0, xi l1] g w Q := t _ _ xQof
abbrev aMo_brings (d : Nat) (lim : Nat × Nat) (Q : xQ) : xK := xAt xMks tMo_brings (cal d) lim Q
def kMo_brings : List (Nat × List Bool) := [(4, [true, true, true, true])]
set_option maxRecDepth 20000 in
theorem wMo_brings_0 {d : Nat} {lim : Nat × Nat} {Q : xQ} {l1 : Int} {l0 : Nat} {g : xG} {w : xW} (t : aMo_brings d lim Q 4 [xr l0, xi l1, xi 0, xi 0] [] g w) :
    aMo_brings d lim Q 0 [xr l0, xi l1, none, none] [] g w := xAt_exec (cal_m d) kMo_brings 5 t
set_option maxRecDepth 20000 in
theorem wMo_brings_4 {d : Nat} {lim : Nat × Nat} {Q : xQ} {l1 l2 l3 : Int} {l0 : Nat} {g : xG} {w : xW} (t : xIs g l0 (0, 7) ∧ 
  cal d nMo_cells [xr l0] g w (fun r g1 w1 => ∃ v1 : Int, r = some (xi v1) ∧ 
    ((v1 ≤ l3) → Q (some (xi l2)) g1 w1) ∧
    ((l3 < v1) → xIs g1 l0 (0, 7) ∧ x32 (60 + l3) ∧ xAr g1 (g1.2 l0 0) (60 + l3) ∧ 
      ((¬ (w1 (g1.2 l0 0) (Int.toNat (60 + l3))) = l1) → x32 (l2 + 0) ∧ x32 (l3 + 1) ∧ aMo_brings d lim Q 4 [xr l0, xi l1, xi (l2 + 0), xi (l3 + 1)] [] g1 w1) ∧
      (((w1 (g1.2 l0 0) (Int.toNat (60 + l3))) = l1) → xIs g1 l0 (0, 7) ∧ 
        cal d nMo_isLet [xr l0, xi l3] g1 w1 (fun r g2 w2 => ∃ v2 : Int, r = some (xi v2) ∧ 
          ((v2 = 0) → x32 (l2 + 0) ∧ x32 (l3 + 1) ∧ aMo_brings d lim Q 4 [xr l0, xi l1, xi (l2 + 0), xi (l3 + 1)] [] g2 w2) ∧
          ((¬ v2 = 0) → xIs g2 l0 (0, 7) ∧ xAr g2 (g2.2 l0 51) l1 ∧ x32 (l2 + (w2 (g2.2 l0 51) (Int.toNat l1))) ∧ x32 (l3 + 1) ∧ aMo_brings d lim Q 4 [xr l0, xi l1, xi (l2 + (w2 (g2.2 l0 51) (Int.toNat l1))), xi (l3 + 1)] [] g2 w2)))))) :
    aMo_brings d lim Q 4 [xr l0, xi l1, xi l2, xi l3] [] g w := xAt_exec (cal_m d) kMo_brings 27 t
theorem eMo_brings {d : Nat} {Q : xQ} {l1 : Int} {l0 : Nat} {g : xG} {w : xW} (t : ∀ (lim : Nat × Nat) (Q2 : xQ), (∀ r g2 w2, g2.1 = g.1 → Q r g2 w2 → Q2 r g2 w2) → aMo_brings d lim Q2 0 [xr l0, xi l1, none, none] [] g w) : cal (d + 1) nMo_brings [xr l0, xi l1] g w Q := t _ _ xQof
abbrev aMo_bestRent (d : Nat) (lim : Nat × Nat) (Q : xQ) : xK := xAt xMks tMo_bestRent (cal d) lim Q
def kMo_bestRent : List (Nat × List Bool) := [(15, [true, true, true, true, true, true, false]), (50, [true, true, true, false, true, true, true])]
set_option maxRecDepth 20000 in
theorem wMo_bestRent_0 {d : Nat} {lim : Nat × Nat} {Q : xQ} {l1 : Int} {l0 : Nat} {g : xG} {w : xW} (t : xIs g l0 (0, 7) ∧ xAr g (g.2 l0 51) l1 ∧ aMo_bestRent d lim Q 15 [xr l0, xi l1, xi (w (g.2 l0 51) (Int.toNat l1)), xi 0, xi (-1), xi 0, none] [] g w) :
    aMo_bestRent d lim Q 0 [xr l0, xi l1, none, none, none, none, none] [] g w := xAt_exec (cal_m d) kMo_bestRent 12 t
set_option maxRecDepth 20000 in
theorem wMo_bestRent_15 {d : Nat} {lim : Nat × Nat} {Q : xQ} {l1 l2 l3 l4 l5 : Int} {l0 : Nat} {g : xG} {w : xW} (t : 
  ((10 ≤ l5) → xIs g l0 (0, 7) ∧ xA1 g (g.2 l0 51) l1 ∧ Q (some (xi l3)) g (xup w (g.2 l0 51) (Int.toNat l1) l2)) ∧
  ((l5 < 10) → xIs g l0 (0, 7) ∧ xA1 g (g.2 l0 51) l1 ∧ xIs g l0 (0, 7) ∧ 
    cal d nMo_brings [xr l0, xi l1] g (xup w (g.2 l0 51) (Int.toNat l1) l5) (fun r g1 w1 => ∃ v1 : Int, r = some (xi v1) ∧ 
      ((v1 ≤ l4) → aMo_bestRent d lim Q 50 [xr l0, xi l1, xi l2, none, xi l4, xi l5, xi v1] [xi l3] g1 w1) ∧
      ((l4 < v1) → aMo_bestRent d lim Q 50 [xr l0, xi l1, xi l2, none, xi l4, xi l5, xi v1] [xi l5] g1 w1)))) :
    aMo_bestRent d lim Q 15 [xr l0, xi l1, xi l2, xi l3, xi l4, xi l5, none] [] g w := xAt_exec (cal_m d) kMo_bestRent 18 t
set_option maxRecDepth 20000 in
theorem wMo_bestRent_50 {d : Nat} {lim : Nat × Nat} {Q : xQ} {l1 l2 l4 l5 l6 s0 : Int} {l0 : Nat} {g : xG} {w : xW} (t : 
  ((l6 ≤ l4) → x32 (l5 + 1) ∧ aMo_bestRent d lim Q 15 [xr l0, xi l1, xi l2, xi s0, xi l4, xi (l5 + 1), none] [] g w) ∧
  ((l4 < l6) → x32 (l5 + 1) ∧ aMo_bestRent d lim Q 15 [xr l0, xi l1, xi l2, xi s0, xi l6, xi (l5 + 1), none] [] g w)) :
    aMo_bestRent d lim Q 50 [xr l0, xi l1, xi l2, none, xi l4, xi l5, xi l6] [xi s0] g w := xAt_exec (cal_m d) kMo_bestRent 10 t
theorem eMo_bestRent {d : Nat} {Q : xQ} {l1 : Int} {l0 : Nat} {g : xG} {w : xW} (t : ∀ (lim : Nat × Nat) (Q2 : xQ), (∀ r g2 w2, g2.1 = g.1 → Q r g2 w2 → Q2 r g2 w2) → aMo_bestRent d lim Q2 0 [xr l0, xi l1, none, none, none, none, none] [] g w) : cal (d + 1) nMo_bestRent [xr l0, xi l1] g w Q := t _ _ xQof
abbrev aMo_rents (d : Nat) (lim : Nat × Nat) (Q : xQ) : xK := xAt xMks tMo_rents (cal d) lim Q
def kMo_rents : List (Nat × List Bool) := [(18, [true, true, true, false, false, false]), (39, [true, true, true, false, false, false]), (50, [true, true, true, true, true, false]), (88, [true, true, true, false, true, true])]
set_option maxRecDepth 20000 in
theorem wMo_rents_0 {d : Nat} {lim : Nat × Nat} {Q : xQ} {l1 : Int} {l0 : Nat} {g : xG} {w : xW} (t : 
  ((l1 = (-1)) → aMo_rents d lim Q 18 [xr l0, xi l1, xi 0, none, none, none] [] g w) ∧
  ((¬ l1 = (-1)) → xIs g l0 (0, 7) ∧ 
    cal d nMo_isPerson [xr l0, xi l1] g w (fun r g1 w1 => ∃ v1 : Int, r = some (xi v1) ∧ 
      ((¬ v1 = 0) → aMo_rents d lim Q 18 [xr l0, xi l1, xi 0, none, none, none] [] g1 w1) ∧
      ((v1 = 0) → Q (some (xi (-1000000001))) g1 w1)))) :
    aMo_rents d lim Q 0 [xr l0, xi l1, none, none, none, none] [] g w := xAt_exec (cal_m d) kMo_rents 10 t
set_option maxRecDepth 20000 in
theorem wMo_rents_18 {d : Nat} {lim : Nat × Nat} {Q : xQ} {l1 l2 : Int} {l0 : Nat} {g : xG} {w : xW} (t : 
  ((6 ≤ l2) → aMo_rents d lim Q 39 [xr l0, xi l1, xi 0, none, none, none] [] g w) ∧
  ((l2 < 6) → xIs g l0 (0, 7) ∧ xA1 g (g.2 l0 51) l2 ∧ x32 (l2 + 1) ∧ aMo_rents d lim Q 18 [xr l0, xi l1, xi (l2 + 1), none, none, none] [] g (xup w (g.2 l0 51) (Int.toNat l2) 0))) :
    aMo_rents d lim Q 18 [xr l0, xi l1, xi l2, none, none, none] [] g w := xAt_exec (cal_m d) kMo_rents 11 t
set_option maxRecDepth 20000 in
theorem wMo_rents_39 {d : Nat} {lim : Nat × Nat} {Q : xQ} {l1 l2 : Int} {l0 : Nat} {g : xG} {w : xW} (t : 
  ((20 ≤ l2) → Q (some (xi (-1))) g w) ∧
  ((l2 < 20) → aMo_rents d lim Q 50 [xr l0, xi l1, xi l2, xi 0, xi 0, none] [] g w)) :
    aMo_rents d lim Q 39 [xr l0, xi l1, xi l2, none, none, none] [] g w := xAt_exec (cal_m d) kMo_rents 8 t
set_option maxRecDepth 20000 in
theorem wMo_rents_50 {d : Nat} {lim : Nat × Nat} {Q : xQ} {l1 l2 l3 l4 : Int} {l0 : Nat} {g : xG} {w : xW} (t : xIs g l0 (0, 7) ∧ 
  (((w l0 13) ≤ l4) → 
    ((¬ l3 = 0) → x32 (l2 + 1) ∧ aMo_rents d lim Q 39 [xr l0, xi l1, xi (l2 + 1), none, none, none] [] g w) ∧
    ((l3 = 0) → 
      ((¬ l1 = (-1)) → xIs g l0 (0, 7) ∧ xAr g (g.2 l0 51) l1 ∧ Q (some (xi (w (g.2 l0 51) (Int.toNat l1)))) g w) ∧
      ((l1 = (-1)) → Q (some (xi l2)) g w))) ∧
  ((l4 < (w l0 13)) → xIs g l0 (0, 7) ∧ 
    cal d nMo_bestRent [xr l0, xi l4] g w (fun r g1 w1 => ∃ v1 : Int, r = some (xi v1) ∧ 
      ((¬ l3 = 0) → aMo_rents d lim Q 88 [xr l0, xi l1, xi l2, none, xi l4, xi v1] [xi 1] g1 w1) ∧
      ((l3 = 0) → xIs g1 l0 (0, 7) ∧ xAr g1 (g1.2 l0 51) l4 ∧ 
        ((v1 = (w1 (g1.2 l0 51) (Int.toNat l4))) → aMo_rents d lim Q 88 [xr l0, xi l1, xi l2, none, xi l4, xi v1] [xi 0] g1 w1) ∧
        ((¬ v1 = (w1 (g1.2 l0 51) (Int.toNat l4))) → aMo_rents d lim Q 88 [xr l0, xi l1, xi l2, none, xi l4, xi v1] [xi 1] g1 w1))))) :
    aMo_rents d lim Q 50 [xr l0, xi l1, xi l2, xi l3, xi l4, none] [] g w := xAt_exec (cal_m d) kMo_rents 19 t
set_option maxRecDepth 20000 in
theorem wMo_rents_88 {d : Nat} {lim : Nat × Nat} {Q : xQ} {l1 l2 l4 l5 s0 : Int} {l0 : Nat} {g : xG} {w : xW} (t : xIs g l0 (0, 7) ∧ xA1 g (g.2 l0 51) l4 ∧ x32 (l4 + 1) ∧ aMo_rents d lim Q 50 [xr l0, xi l1, xi l2, xi s0, xi (l4 + 1), none] [] g (xup w (g.2 l0 51) (Int.toNat l4) l5)) :
    aMo_rents d lim Q 88 [xr l0, xi l1, xi l2, none, xi l4, xi l5] [xi s0] g w := xAt_exec (cal_m d) kMo_rents 9 t
theorem eMo_rents {d : Nat} {Q : xQ} {l1 : Int} {l0 : Nat} {g : xG} {w : xW} (t : ∀ (lim : Nat × Nat) (Q2 : xQ), (∀ r g2 w2, g2.1 = g.1 → Q r g2 w2 → Q2 r g2 w2) → aMo_rents d lim Q2 0 [xr l0, xi l1, none, none, none, none] [] g w) : cal (d + 1) nMo_rents [xr l0, xi l1] g w Q := t _ _ xQof
abbrev aMo_claim (d : Nat) (lim : Nat × Nat) (Q : xQ) : xK := xAt xMks tMo_claim (cal d) lim Q
def kMo_claim : List (Nat × List Bool) := []
set_option maxRecDepth 20000 in
theorem wMo_claim_0 {d : Nat} {lim : Nat × Nat} {Q : xQ} {l1 l2 l3 : Int} {l0 : Nat} {g : xG} {w : xW} (t : xIs g l0 (0, 7) ∧ 
  cal d nMo_cellOf [xr l0, xi l2] g w (fun r g1 w1 => ∃ v1 : Int, r = some (xi v1) ∧ xIs g1 l0 (0, 7) ∧ 
    cal d nMo_isPerson [xr l0, xi l1] g1 w1 (fun r g2 w2 => ∃ v2 : Int, r = some (xi v2) ∧ 
      ((v2 = 0) → Q (some (xi (-1000000001))) g2 w2) ∧
      ((¬ v2 = 0) → 
        ((¬ v1 = (-1)) → 
          cal d nMo_in [xl l3, xl 0, xl 59] g2 w2 (fun r g3 w3 => ∃ v3 : Int, r = some (xi v3) ∧ 
            ((¬ v3 = 0) → xIs g3 l0 (0, 7) ∧ 
              ((¬ (w3 l0 16) = 12) → xIs g3 l0 (0, 7) ∧ xIs g3 l0 (0, 7) ∧ xA1 g3 (g3.2 l0 17) (w3 l0 16) ∧ xIs g3 l0 (0, 7) ∧ xIs g3 l0 (0, 7) ∧ xA1 g3 (g3.2 l0 18) ((xup w3 (g3.2 l0 17) (Int.toNat (w3 l0 16)) l1) l0 16) ∧ xIs g3 l0 (0, 7) ∧ xIs g3 l0 (0, 7) ∧ xA1 g3 (g3.2 l0 19) ((xup (xup w3 (g3.2 l0 17) (Int.toNat (w3 l0 16)) l1) (g3.2 l0 18) (Int.toNat ((xup w3 (g3.2 l0 17) (Int.toNat (w3 l0 16)) l1) l0 16)) v1) l0 16) ∧ xIs g3 l0 (0, 7) ∧ x32 (((xup (xup (xup w3 (g3.2 l0 17) (Int.toNat (w3 l0 16)) l1) (g3.2 l0 18) (Int.toNat ((xup w3 (g3.2 l0 17) (Int.toNat (w3 l0 16)) l1) l0 16)) v1) (g3.2 l0 19) (Int.toNat ((xup (xup w3 (g3.2 l0 17) (Int.toNat (w3 l0 16)) l1) (g3.2 l0 18) (Int.toNat ((xup w3 (g3.2 l0 17) (Int.toNat (w3 l0 16)) l1) l0 16)) v1) l0 16)) l3) l0 16) + 1) ∧ xIs g3 l0 (0, 7) ∧ xIs g3 l0 (0, 7) ∧ Q (some (xi ((xup (xup (xup (xup w3 (g3.2 l0 17) (Int.toNat (w3 l0 16)) l1) (g3.2 l0 18) (Int.toNat ((xup w3 (g3.2 l0 17) (Int.toNat (w3 l0 16)) l1) l0 16)) v1) (g3.2 l0 19) (Int.toNat ((xup (xup w3 (g3.2 l0 17) (Int.toNat (w3 l0 16)) l1) (g3.2 l0 18) (Int.toNat ((xup w3 (g3.2 l0 17) (Int.toNat (w3 l0 16)) l1) l0 16)) v1) l0 16)) l3) l0 16 (((xup (xup (xup w3 (g3.2 l0 17) (Int.toNat (w3 l0 16)) l1) (g3.2 l0 18) (Int.toNat ((xup w3 (g3.2 l0 17) (Int.toNat (w3 l0 16)) l1) l0 16)) v1) (g3.2 l0 19) (Int.toNat ((xup (xup w3 (g3.2 l0 17) (Int.toNat (w3 l0 16)) l1) (g3.2 l0 18) (Int.toNat ((xup w3 (g3.2 l0 17) (Int.toNat (w3 l0 16)) l1) l0 16)) v1) l0 16)) l3) l0 16) + 1)) l0 16))) g3 (xup (xup (xup (xup w3 (g3.2 l0 17) (Int.toNat (w3 l0 16)) l1) (g3.2 l0 18) (Int.toNat ((xup w3 (g3.2 l0 17) (Int.toNat (w3 l0 16)) l1) l0 16)) v1) (g3.2 l0 19) (Int.toNat ((xup (xup w3 (g3.2 l0 17) (Int.toNat (w3 l0 16)) l1) (g3.2 l0 18) (Int.toNat ((xup w3 (g3.2 l0 17) (Int.toNat (w3 l0 16)) l1) l0 16)) v1) l0 16)) l3) l0 16 (((xup (xup (xup w3 (g3.2 l0 17) (Int.toNat (w3 l0 16)) l1) (g3.2 l0 18) (Int.toNat ((xup w3 (g3.2 l0 17) (Int.toNat (w3 l0 16)) l1) l0 16)) v1) (g3.2 l0 19) (Int.toNat ((xup (xup w3 (g3.2 l0 17) (Int.toNat (w3 l0 16)) l1) (g3.2 l0 18) (Int.toNat ((xup w3 (g3.2 l0 17) (Int.toNat (w3 l0 16)) l1) l0 16)) v1) l0 16)) l3) l0 16) + 1))) ∧
              (((w3 l0 16) = 12) → Q (some (xi (-1000000004))) g3 w3)) ∧
            ((v3 = 0) → Q (some (xi (-1000000002))) g3 w3))) ∧
        ((v1 = (-1)) → Q (some (xi (-1000000001))) g2 w2))))) :
    aMo_claim d lim Q 0 [xr l0, xi l1, xi l2, xi l3, none] [] g w := xAt_exec (cal_m d) kMo_claim 49 t
theorem eMo_claim {d : Nat} {Q : xQ} {l1 l2 l3 : Int} {l0 : Nat} {g : xG} {w : xW} (t : ∀ (lim : Nat × Nat) (Q2 : xQ), (∀ r g2 w2, g2.1 = g.1 → Q r g2 w2 → Q2 r g2 w2) → aMo_claim d lim Q2 0 [xr l0, xi l1, xi l2, xi l3, none] [] g w) : cal (d + 1) nMo_claim [xr l0, xi l1, xi l2, xi l3] g w Q := t _ _ xQof
abbrev aMo_forged (d : Nat) (lim : Nat × Nat) (Q : xQ) : xK := xAt xMks tMo_forged (cal d) lim Q
def kMo_forged : List (Nat × List Bool) := [(24, [true, true, true, false, false]), (36, [true, true, true, true, false]), (78, [true, true, true, true, false])]
set_option maxRecDepth 20000 in
theorem wMo_forged_0 {d : Nat} {lim : Nat × Nat} {Q : xQ} {l0 : Nat} {g : xG} {w : xW} (t : xIs g l0 (0, 7) ∧ x32 ((xShl 1 (w l0 16)) - 1) ∧ xIs g l0 (0, 7) ∧ 
  ((¬ (w l0 16) = 0) → xIs g l0 (0, 7) ∧ 
    cal d nMo_start [xr l0] g w (fun r g1 w1 => r = none ∧ aMo_forged d lim Q 24 [xr l0, xi ((xShl 1 (w l0 16)) - 1), xi 0, none, none] [] g1 w1)) ∧
  (((w l0 16) = 0) → Q (some (xi 0)) g w)) :
    aMo_forged d lim Q 0 [xr l0, none, none, none, none] [] g w := xAt_exec (cal_m d) kMo_forged 15 t
set_option maxRecDepth 20000 in
theorem wMo_forged_24 {d : Nat} {lim : Nat × Nat} {Q : xQ} {l1 l2 : Int} {l0 : Nat} {g : xG} {w : xW} (t : 
  ((60 ≤ l2) → xIs g l0 (0, 7) ∧ 
    cal d nMo_back [xr l0] g w (fun r g1 w1 => r = none ∧ Q (some (xi l1)) g1 w1)) ∧
  ((l2 < 60) → xIs g l0 (0, 7) ∧ 
    cal d nMo_goMinute [xr l0] g w (fun r g2 w2 => r = none ∧ aMo_forged d lim Q 36 [xr l0, xi l1, xi l2, xi 0, none] [] g2 w2))) :
    aMo_forged d lim Q 24 [xr l0, xi l1, xi l2, none, none] [] g w := xAt_exec (cal_m d) kMo_forged 8 t
set_option maxRecDepth 20000 in
theorem wMo_forged_36 {d : Nat} {lim : Nat × Nat} {Q : xQ} {l1 l2 l3 : Int} {l0 : Nat} {g : xG} {w : xW} (t : xIs g l0 (0, 7) ∧ 
  (((w l0 16) ≤ l3) → x32 (l2 + 1) ∧ aMo_forged d lim Q 24 [xr l0, xi l1, xi (l2 + 1), none, none] [] g w) ∧
  ((l3 < (w l0 16)) → xIs g l0 (0, 7) ∧ xAr g (g.2 l0 19) l3 ∧ 
    ((¬ (w (g.2 l0 19) (Int.toNat l3)) = l2) → aMo_forged d lim Q 78 [xr l0, xi l1, xi l2, xi l3, none] [xi 0] g w) ∧
    (((w (g.2 l0 19) (Int.toNat l3)) = l2) → xIs g l0 (0, 7) ∧ xAr g (g.2 l0 17) l3 ∧ xIs g l0 (0, 7) ∧ xAr g (g.2 l0 18) l3 ∧ xIs g l0 (0, 7) ∧ 
      cal d nMo_feelsOn [xr l0, xi (w (g.2 l0 17) (Int.toNat l3)), xi (w (g.2 l0 18) (Int.toNat l3))] g w (fun r g1 w1 => ∃ v1 : Int, r = some (xi v1) ∧ 
        ((v1 = 0) → aMo_forged d lim Q 78 [xr l0, xi l1, xi l2, xi l3, none] [xi 0] g1 w1) ∧
        ((¬ v1 = 0) → aMo_forged d lim Q 78 [xr l0, xi l1, xi l2, xi l3, none] [xi 1] g1 w1))))) :
    aMo_forged d lim Q 36 [xr l0, xi l1, xi l2, xi l3, none] [] g w := xAt_exec (cal_m d) kMo_forged 24 t
set_option maxRecDepth 20000 in
theorem wMo_forged_78 {d : Nat} {lim : Nat × Nat} {Q : xQ} {l1 l2 l3 s0 : Int} {l0 : Nat} {g : xG} {w : xW} (t : 
  ((s0 = 0) → x32 (l3 + 1) ∧ aMo_forged d lim Q 36 [xr l0, xi (xAnd l1 (-1)), xi l2, xi (l3 + 1), none] [] g w) ∧
  ((¬ s0 = 0) → x32 (l3 + 1) ∧ aMo_forged d lim Q 36 [xr l0, xi (xAnd l1 (xXor (xShl 1 l3) (-1))), xi l2, xi (l3 + 1), none] [] g w)) :
    aMo_forged d lim Q 78 [xr l0, xi l1, xi l2, xi l3, none] [xi s0] g w := xAt_exec (cal_m d) kMo_forged 15 t
theorem eMo_forged {d : Nat} {Q : xQ} {l0 : Nat} {g : xG} {w : xW} (t : ∀ (lim : Nat × Nat) (Q2 : xQ), (∀ r g2 w2, g2.1 = g.1 → Q r g2 w2 → Q2 r g2 w2) → aMo_forged d lim Q2 0 [xr l0, none, none, none, none] [] g w) : cal (d + 1) nMo_forged [xr l0] g w Q := t _ _ xQof
abbrev aMo_leaveWarm (d : Nat) (lim : Nat × Nat) (Q : xQ) : xK := xAt xMks tMo_leaveWarm (cal d) lim Q
def kMo_leaveWarm : List (Nat × List Bool) := [(24, [true, true, true, true, true, false])]
set_option maxRecDepth 20000 in
theorem wMo_leaveWarm_0 {d : Nat} {lim : Nat × Nat} {Q : xQ} {l1 : Int} {l0 : Nat} {g : xG} {w : xW} (t : xIs g l0 (0, 7) ∧ x32 (108 + l1) ∧ xAr g (g.2 l0 0) (108 + l1) ∧ xIs g l0 (0, 7) ∧ 
  cal d nMo_isOwedFor [xr l0, xi l1, xi (w (g.2 l0 0) (Int.toNat (108 + l1)))] g w (fun r g1 w1 => ∃ v1 : Int, r = some (xi v1) ∧ 
    ((v1 = 0) → Q none g1 w1) ∧
    ((¬ v1 = 0) → aMo_leaveWarm d lim Q 24 [xr l0, xi l1, xi (w (g.2 l0 0) (Int.toNat (108 + l1))), xi (-1), xi 4, none] [] g1 w1))) :
    aMo_leaveWarm d lim Q 0 [xr l0, xi l1, none, none, none, none] [] g w := xAt_exec (cal_m d) kMo_leaveWarm 17 t
set_option maxRecDepth 20000 in
theorem wMo_leaveWarm_24 {d : Nat} {lim : Nat × Nat} {Q : xQ} {l1 l2 l3 l4 : Int} {l0 : Nat} {g : xG} {w : xW} (t : 
  ((l4 ≤ 0) → xIs g l0 (0, 7) ∧ x32 (108 + l1) ∧ 
    ((¬ l3 = (-1)) → xA1 g (g.2 l0 0) (108 + l1) ∧ Q none g (xup w (g.2 l0 0) (Int.toNat (108 + l1)) l3)) ∧
    ((l3 = (-1)) → xA1 g (g.2 l0 0) (108 + l1) ∧ Q none g (xup w (g.2 l0 0) (Int.toNat (108 + l1)) l2))) ∧
  ((0 < l4) → xIs g l0 (0, 7) ∧ 
    cal d nMo_way [xr l0, xi l2, xi l4] g w (fun r g1 w1 => ∃ v1 : Int, r = some (xi v1) ∧ 
      ((v1 = (-1)) → x32 (l4 + (-1)) ∧ aMo_leaveWarm d lim Q 24 [xr l0, xi l1, xi l2, xi l3, xi (l4 + (-1)), none] [] g1 w1) ∧
      ((¬ v1 = (-1)) → xIs g1 l0 (0, 7) ∧ 
        cal d nMo_isOwedFor [xr l0, xi l1, xi v1] g1 w1 (fun r g2 w2 => ∃ v2 : Int, r = some (xi v2) ∧ 
          ((¬ v2 = 0) → x32 (l4 + (-1)) ∧ aMo_leaveWarm d lim Q 24 [xr l0, xi l1, xi l2, xi l3, xi (l4 + (-1)), none] [] g2 w2) ∧
          ((v2 = 0) → x32 (l4 + (-1)) ∧ aMo_leaveWarm d lim Q 24 [xr l0, xi l1, xi l2, xi v1, xi (l4 + (-1)), none] [] g2 w2)))))) :
    aMo_leaveWarm d lim Q 24 [xr l0, xi l1, xi l2, xi l3, xi l4, none] [] g w := xAt_exec (cal_m d) kMo_leaveWarm 21 t
theorem eMo_leaveWarm {d : Nat} {Q : xQ} {l1 : Int} {l0 : Nat} {g : xG} {w : xW} (t : ∀ (lim : Nat × Nat) (Q2 : xQ), (∀ r g2 w2, g2.1 = g.1 → Q r g2 w2 → Q2 r g2 w2) → aMo_leaveWarm d lim Q2 0 [xr l0, xi l1, none, none, none, none] [] g w) : cal (d + 1) nMo_leaveWarm [xr l0, xi l1] g w Q := t _ _ xQof
abbrev aMo_coldBy (d : Nat) (lim : Nat × Nat) (Q : xQ) : xK := xAt xMks tMo_coldBy (cal d) lim Q
def kMo_coldBy : List (Nat × List Bool) := [(24, [true, false, true, true, false]), (32, [true, false, true, true, true]), (68, [true, false, false, true, true])]
set_option maxRecDepth 20000 in
theorem wMo_coldBy_0 {d : Nat} {lim : Nat × Nat} {Q : xQ} {l1 l2 : Int} {l0 : Nat} {g : xG} {w : xW} (t : xIs g l0 (0, 7) ∧ 
  cal d nMo_start [xr l0] g w (fun r g1 w1 => r = none ∧ xIs g1 l0 (0, 7) ∧ xA1 g1 (g1.2 l0 0) 138 ∧ xIs g1 l0 (0, 7) ∧ xA1 g1 (g1.2 l0 0) 142 ∧ aMo_coldBy d lim Q 24 [xr l0, none, xi l2, xi 0, none] [] g1 (xup (xup w1 (g1.2 l0 0) (Int.toNat 138) l1) (g1.2 l0 0) (Int.toNat 142) 0))) :
    aMo_coldBy d lim Q 0 [xr l0, xi l1, xi l2, none, none] [] g w := xAt_exec (cal_m d) kMo_coldBy 15 t
set_option maxRecDepth 20000 in
theorem wMo_coldBy_24 {d : Nat} {lim : Nat × Nat} {Q : xQ} {l2 l3 : Int} {l0 : Nat} {g : xG} {w : xW} (t : 
  ((l2 ≤ l3) → aMo_coldBy d lim Q 68 [xr l0, none, none, xi 0, xi 0] [] g w) ∧
  ((l3 < l2) → aMo_coldBy d lim Q 32 [xr l0, none, xi l2, xi l3, xi 0] [] g w)) :
    aMo_coldBy d lim Q 24 [xr l0, none, xi l2, xi l3, none] [] g w := xAt_exec (cal_m d) kMo_coldBy 8 t
set_option maxRecDepth 20000 in
theorem wMo_coldBy_32 {d : Nat} {lim : Nat × Nat} {Q : xQ} {l2 l3 l4 : Int} {l0 : Nat} {g : xG} {w : xW} (t : xIs g l0 (0, 7) ∧ 
  (((w l0 13) ≤ l4) → xIs g l0 (0, 7) ∧ 
    cal d nMo_goMinute [xr l0] g w (fun r g1 w1 => r = none ∧ x32 (l3 + 1) ∧ aMo_coldBy d lim Q 24 [xr l0, none, xi l2, xi (l3 + 1), none] [] g1 w1)) ∧
  ((l4 < (w l0 13)) → xIs g l0 (0, 7) ∧ 
    cal d nMo_leaveWarm [xr l0, xi l4] g w (fun r g2 w2 => r = none ∧ x32 (l4 + 1) ∧ aMo_coldBy d lim Q 32 [xr l0, none, xi l2, xi l3, xi (l4 + 1)] [] g2 w2))) :
    aMo_coldBy d lim Q 32 [xr l0, none, xi l2, xi l3, xi l4] [] g w := xAt_exec (cal_m d) kMo_coldBy 10 t
set_option maxRecDepth 20000 in
theorem wMo_coldBy_68 {d : Nat} {lim : Nat × Nat} {Q : xQ} {l3 l4 : Int} {l0 : Nat} {g : xG} {w : xW} (t : xIs g l0 (0, 7) ∧ 
  (((w l0 13) ≤ l4) → xIs g l0 (0, 7) ∧ 
    cal d nMo_back [xr l0] g w (fun r g1 w1 => r = none ∧ Q (some (xi l3)) g1 w1)) ∧
  ((l4 < (w l0 13)) → xIs g l0 (0, 7) ∧ xAr g (g.2 l0 0) 142 ∧ x32 (l3 + (xAnd (xShr (w (g.2 l0 0) (Int.toNat 142)) l4) 1)) ∧ x32 (l4 + 1) ∧ aMo_coldBy d lim Q 68 [xr l0, none, none, xi (l3 + (xAnd (xShr (w (g.2 l0 0) (Int.toNat 142)) l4) 1)), xi (l4 + 1)] [] g w)) :
    aMo_coldBy d lim Q 68 [xr l0, none, none, xi l3, xi l4] [] g w := xAt_exec (cal_m d) kMo_coldBy 18 t
theorem eMo_coldBy {d : Nat} {Q : xQ} {l1 l2 : Int} {l0 : Nat} {g : xG} {w : xW} (t : ∀ (lim : Nat × Nat) (Q2 : xQ), (∀ r g2 w2, g2.1 = g.1 → Q r g2 w2 → Q2 r g2 w2) → aMo_coldBy d lim Q2 0 [xr l0, xi l1, xi l2, none, none] [] g w) : cal (d + 1) nMo_coldBy [xr l0, xi l1, xi l2] g w Q := t _ _ xQof
abbrev aMo_cold (d : Nat) (lim : Nat × Nat) (Q : xQ) : xK := xAt xMks tMo_cold (cal d) lim Q
def kMo_cold : List (Nat × List Bool) := []
set_option maxRecDepth 20000 in
theorem wMo_cold_0 {d : Nat} {lim : Nat × Nat} {Q : xQ} {l1 l2 : Int} {l0 : Nat} {g : xG} {w : xW} (t : 
  cal d nMo_in [xl l1, xl 0, xl 3] g w (fun r g1 w1 => ∃ v1 : Int, r = some (xi v1) ∧ 
    ((v1 = 0) → Q (some (xi (-1000000002))) g1 w1) ∧
    ((¬ v1 = 0) → 
      cal d nMo_in [xl l2, xl 1, xl 60] g1 w1 (fun r g2 w2 => ∃ v2 : Int, r = some (xi v2) ∧ 
        ((v2 = 0) → Q (some (xi (-1000000002))) g2 w2) ∧
        ((¬ v2 = 0) → xIs g2 l0 (0, 7) ∧ 
          cal d nMo_coldBy [xr l0, xi l1, xi l2] g2 w2 (fun r g3 w3 => ∃ v3 : Int, r = some (xi v3) ∧ Q (some (xi v3)) g3 w3)))))) :
    aMo_cold d lim Q 0 [xr l0, xi l1, xi l2] [] g w := xAt_exec (cal_m d) kMo_cold 19 t
theorem eMo_cold {d : Nat} {Q : xQ} {l1 l2 : Int} {l0 : Nat} {g : xG} {w : xW} (t : ∀ (lim : Nat × Nat) (Q2 : xQ), (∀ r g2 w2, g2.1 = g.1 → Q r g2 w2 → Q2 r g2 w2) → aMo_cold d lim Q2 0 [xr l0, xi l1, xi l2] [] g w) : cal (d + 1) nMo_cold [xr l0, xi l1, xi l2] g w Q := t _ _ xQof
abbrev aMo_mildest (d : Nat) (lim : Nat × Nat) (Q : xQ) : xK := xAt xMks tMo_mildest (cal d) lim Q
def kMo_mildest : List (Nat × List Bool) := [(19, [true, true, true, true])]
set_option maxRecDepth 20000 in
theorem wMo_mildest_0 {d : Nat} {lim : Nat × Nat} {Q : xQ} {l1 : Int} {l0 : Nat} {g : xG} {w : xW} (t : 
  cal d nMo_in [xl l1, xl 1, xl 60] g w (fun r g1 w1 => ∃ v1 : Int, r = some (xi v1) ∧ 
    ((¬ v1 = 0) → aMo_mildest d lim Q 19 [xr l0, xi l1, xi 0, xi 1] [] g1 w1) ∧
    ((v1 = 0) → Q (some (xi (-1000000002))) g1 w1))) :
    aMo_mildest d lim Q 0 [xr l0, xi l1, none, none] [] g w := xAt_exec (cal_m d) kMo_mildest 11 t
set_option maxRecDepth 20000 in
theorem wMo_mildest_19 {d : Nat} {lim : Nat × Nat} {Q : xQ} {l1 l2 l3 : Int} {l0 : Nat} {g : xG} {w : xW} (t : 
  ((4 ≤ l3) → Q (some (xi l2)) g w) ∧
  ((l3 < 4) → xIs g l0 (0, 7) ∧ 
    cal d nMo_coldBy [xr l0, xi l3, xi l1] g w (fun r g1 w1 => ∃ v1 : Int, r = some (xi v1) ∧ xIs g1 l0 (0, 7) ∧ 
      cal d nMo_coldBy [xr l0, xi l2, xi l1] g1 w1 (fun r g2 w2 => ∃ v2 : Int, r = some (xi v2) ∧ 
        ((v2 ≤ v1) → x32 (l3 + 1) ∧ aMo_mildest d lim Q 19 [xr l0, xi l1, xi l2, xi (l3 + 1)] [] g2 w2) ∧
        ((v1 < v2) → x32 (l3 + 1) ∧ aMo_mildest d lim Q 19 [xr l0, xi l1, xi l3, xi (l3 + 1)] [] g2 w2))))) :
    aMo_mildest d lim Q 19 [xr l0, xi l1, xi l2, xi l3] [] g w := xAt_exec (cal_m d) kMo_mildest 18 t
theorem eMo_mildest {d : Nat} {Q : xQ} {l1 : Int} {l0 : Nat} {g : xG} {w : xW} (t : ∀ (lim : Nat × Nat) (Q2 : xQ), (∀ r g2 w2, g2.1 = g.1 → Q r g2 w2 → Q2 r g2 w2) → aMo_mildest d lim Q2 0 [xr l0, xi l1, none, none] [] g w) : cal (d + 1) nMo_mildest [xr l0, xi l1] g w Q := t _ _ xQof
abbrev aMo_deed (d : Nat) (lim : Nat × Nat) (Q : xQ) : xK := xAt xMks tMo_deed (cal d) lim Q
def kMo_deed : List (Nat × List Bool) := []
set_option maxRecDepth 20000 in
theorem wMo_deed_0 {d : Nat} {lim : Nat × Nat} {Q : xQ} {l1 l2 l3 : Int} {l0 : Nat} {g : xG} {w : xW} (t : xIs g l0 (0, 7) ∧ 
  cal d nMo_cellOf [xr l0, xi l2] g w (fun r g1 w1 => ∃ v1 : Int, r = some (xi v1) ∧ xIs g1 l0 (0, 7) ∧ 
    cal d nMo_isPerson [xr l0, xi l1] g1 w1 (fun r g2 w2 => ∃ v2 : Int, r = some (xi v2) ∧ 
      ((v2 = 0) → Q (some (xi (-1000000001))) g2 w2) ∧
      ((¬ v2 = 0) → 
        ((¬ v1 = (-1)) → 
          cal d nMo_in [xl l3, xl 1, xl 60] g2 w2 (fun r g3 w3 => ∃ v3 : Int, r = some (xi v3) ∧ 
            ((¬ v3 = 0) → xIs g3 l0 (0, 7) ∧ 
              ((¬ (w3 l0 20) = 8) → xIs g3 l0 (0, 7) ∧ xIs g3 l0 (0, 7) ∧ xA1 g3 (g3.2 l0 21) (w3 l0 20) ∧ xIs g3 l0 (0, 7) ∧ xIs g3 l0 (0, 7) ∧ xA1 g3 (g3.2 l0 22) ((xup w3 (g3.2 l0 21) (Int.toNat (w3 l0 20)) l1) l0 20) ∧ xIs g3 l0 (0, 7) ∧ xIs g3 l0 (0, 7) ∧ xA1 g3 (g3.2 l0 23) ((xup (xup w3 (g3.2 l0 21) (Int.toNat (w3 l0 20)) l1) (g3.2 l0 22) (Int.toNat ((xup w3 (g3.2 l0 21) (Int.toNat (w3 l0 20)) l1) l0 20)) v1) l0 20) ∧ xIs g3 l0 (0, 7) ∧ x32 (((xup (xup (xup w3 (g3.2 l0 21) (Int.toNat (w3 l0 20)) l1) (g3.2 l0 22) (Int.toNat ((xup w3 (g3.2 l0 21) (Int.toNat (w3 l0 20)) l1) l0 20)) v1) (g3.2 l0 23) (Int.toNat ((xup (xup w3 (g3.2 l0 21) (Int.toNat (w3 l0 20)) l1) (g3.2 l0 22) (Int.toNat ((xup w3 (g3.2 l0 21) (Int.toNat (w3 l0 20)) l1) l0 20)) v1) l0 20)) l3) l0 20) + 1) ∧ xIs g3 l0 (0, 7) ∧ xIs g3 l0 (0, 7) ∧ Q (some (xi ((xup (xup (xup (xup w3 (g3.2 l0 21) (Int.toNat (w3 l0 20)) l1) (g3.2 l0 22) (Int.toNat ((xup w3 (g3.2 l0 21) (Int.toNat (w3 l0 20)) l1) l0 20)) v1) (g3.2 l0 23) (Int.toNat ((xup (xup w3 (g3.2 l0 21) (Int.toNat (w3 l0 20)) l1) (g3.2 l0 22) (Int.toNat ((xup w3 (g3.2 l0 21) (Int.toNat (w3 l0 20)) l1) l0 20)) v1) l0 20)) l3) l0 20 (((xup (xup (xup w3 (g3.2 l0 21) (Int.toNat (w3 l0 20)) l1) (g3.2 l0 22) (Int.toNat ((xup w3 (g3.2 l0 21) (Int.toNat (w3 l0 20)) l1) l0 20)) v1) (g3.2 l0 23) (Int.toNat ((xup (xup w3 (g3.2 l0 21) (Int.toNat (w3 l0 20)) l1) (g3.2 l0 22) (Int.toNat ((xup w3 (g3.2 l0 21) (Int.toNat (w3 l0 20)) l1) l0 20)) v1) l0 20)) l3) l0 20) + 1)) l0 20))) g3 (xup (xup (xup (xup w3 (g3.2 l0 21) (Int.toNat (w3 l0 20)) l1) (g3.2 l0 22) (Int.toNat ((xup w3 (g3.2 l0 21) (Int.toNat (w3 l0 20)) l1) l0 20)) v1) (g3.2 l0 23) (Int.toNat ((xup (xup w3 (g3.2 l0 21) (Int.toNat (w3 l0 20)) l1) (g3.2 l0 22) (Int.toNat ((xup w3 (g3.2 l0 21) (Int.toNat (w3 l0 20)) l1) l0 20)) v1) l0 20)) l3) l0 20 (((xup (xup (xup w3 (g3.2 l0 21) (Int.toNat (w3 l0 20)) l1) (g3.2 l0 22) (Int.toNat ((xup w3 (g3.2 l0 21) (Int.toNat (w3 l0 20)) l1) l0 20)) v1) (g3.2 l0 23) (Int.toNat ((xup (xup w3 (g3.2 l0 21) (Int.toNat (w3 l0 20)) l1) (g3.2 l0 22) (Int.toNat ((xup w3 (g3.2 l0 21) (Int.toNat (w3 l0 20)) l1) l0 20)) v1) l0 20)) l3) l0 20) + 1))) ∧
              (((w3 l0 20) = 8) → Q (some (xi (-1000000004))) g3 w3)) ∧
            ((v3 = 0) → Q (some (xi (-1000000002))) g3 w3))) ∧
        ((v1 = (-1)) → Q (some (xi (-1000000001))) g2 w2))))) :
    aMo_deed d lim Q 0 [xr l0, xi l1, xi l2, xi l3, none] [] g w := xAt_exec (cal_m d) kMo_deed 49 t
theorem eMo_deed {d : Nat} {Q : xQ} {l1 l2 l3 : Int} {l0 : Nat} {g : xG} {w : xW} (t : ∀ (lim : Nat × Nat) (Q2 : xQ), (∀ r g2 w2, g2.1 = g.1 → Q r g2 w2 → Q2 r g2 w2) → aMo_deed d lim Q2 0 [xr l0, xi l1, xi l2, xi l3, none] [] g w) : cal (d + 1) nMo_deed [xr l0, xi l1, xi l2, xi l3] g w Q := t _ _ xQof
abbrev aMo_areDeeds (d : Nat) (lim : Nat × Nat) (Q : xQ) : xK := xAt xMks tMo_areDeeds (cal d) lim Q
def kMo_areDeeds : List (Nat × List Bool) := [(5, [true, true, true, true, true, false]), (43, [true, true, true, true, true, false]), (51, [true, true, true, true, true, true]), (121, [true, false, false, true, false, false])]
set_option maxRecDepth 20000 in
theorem wMo_areDeeds_0 {d : Nat} {lim : Nat × Nat} {Q : xQ} {l1 l2 : Int} {l0 : Nat} {g : xG} {w : xW} (t : aMo_areDeeds d lim Q 5 [xr l0, xi l1, xi l2, xi 1, xi 0, none] [] g w) :
    aMo_areDeeds d lim Q 0 [xr l0, xi l1, xi l2, none, none, none] [] g w := xAt_exec (cal_m d) kMo_areDeeds 5 t
set_option maxRecDepth 20000 in
theorem wMo_areDeeds_5 {d : Nat} {lim : Nat × Nat} {Q : xQ} {l1 l2 l3 l4 : Int} {l0 : Nat} {g : xG} {w : xW} (t : 
  ((60 ≤ l4) → aMo_areDeeds d lim Q 121 [xr l0, none, none, xi l3, none, none] [] g w) ∧
  ((l4 < 60) → 
    ((l3 = 0) → aMo_areDeeds d lim Q 121 [xr l0, none, none, xi l3, none, none] [] g w) ∧
    ((¬ l3 = 0) → xIs g l0 (0, 7) ∧ x32 (104 + l1) ∧ 
      ((¬ l4 = l2) → xIs g l0 (0, 7) ∧ x32 (104 + l1) ∧ xAr g (g.2 l0 0) (104 + l1) ∧ aMo_areDeeds d lim Q 43 [xr l0, xi l1, xi l2, xi l3, xi l4, none] [xi (w (g.2 l0 0) (Int.toNat (104 + l1))), xi (104 + l1), xr (g.2 l0 0)] g w) ∧
      ((l4 = l2) → aMo_areDeeds d lim Q 43 [xr l0, xi l1, xi l2, xi l3, xi l4, none] [xi 1, xi (104 + l1), xr (g.2 l0 0)] g w)))) :
    aMo_areDeeds d lim Q 5 [xr l0, xi l1, xi l2, xi l3, xi l4, none] [] g w := xAt_exec (cal_m d) kMo_areDeeds 20 t
set_option maxRecDepth 20000 in
theorem wMo_areDeeds_43 {d : Nat} {lim : Nat × Nat} {Q : xQ} {l1 l2 l3 l4 s1 s2 : Int} {l0 s0 : Nat} {g : xG} {w : xW} (t : xA1 g s0 s1 ∧ xIs g l0 (0, 7) ∧ 
  cal d nMo_goMinute [xr l0] g (xup w s0 (Int.toNat s1) s2) (fun r g1 w1 => r = none ∧ aMo_areDeeds d lim Q 51 [xr l0, xi l1, xi l2, xi l3, xi l4, xi 0] [] g1 w1)) :
    aMo_areDeeds d lim Q 43 [xr l0, xi l1, xi l2, xi l3, xi l4, none] [xi s2, xi s1, xr s0] g w := xAt_exec (cal_m d) kMo_areDeeds 6 t
set_option maxRecDepth 20000 in
theorem wMo_areDeeds_51 {d : Nat} {lim : Nat × Nat} {Q : xQ} {l1 l2 l3 l4 l5 : Int} {l0 : Nat} {g : xG} {w : xW} (t : xIs g l0 (0, 7) ∧ 
  (((w l0 20) ≤ l5) → x32 (l4 + 1) ∧ aMo_areDeeds d lim Q 5 [xr l0, xi l1, xi l2, xi l3, xi (l4 + 1), none] [] g w) ∧
  ((l5 < (w l0 20)) → 
    ((l3 = 0) → x32 (l5 + 1) ∧ aMo_areDeeds d lim Q 51 [xr l0, xi l1, xi l2, xi 0, xi l4, xi (l5 + 1)] [] g w) ∧
    ((¬ l3 = 0) → xIs g l0 (0, 7) ∧ xAr g (g.2 l0 23) l5 ∧ x32 (l4 + 1) ∧ 
      ((¬ (w (g.2 l0 23) (Int.toNat l5)) = (l4 + 1)) → x32 (l5 + 1) ∧ aMo_areDeeds d lim Q 51 [xr l0, xi l1, xi l2, xi 1, xi l4, xi (l5 + 1)] [] g w) ∧
      (((w (g.2 l0 23) (Int.toNat l5)) = (l4 + 1)) → xIs g l0 (0, 7) ∧ xIs g l0 (0, 7) ∧ xAr g (g.2 l0 22) l5 ∧ x32 (60 + (w (g.2 l0 22) (Int.toNat l5))) ∧ xAr g (g.2 l0 0) (60 + (w (g.2 l0 22) (Int.toNat l5))) ∧ xIs g l0 (0, 7) ∧ xAr g (g.2 l0 21) l5 ∧ 
        ((¬ (w (g.2 l0 0) (Int.toNat (60 + (w (g.2 l0 22) (Int.toNat l5))))) = (w (g.2 l0 21) (Int.toNat l5))) → x32 (l5 + 1) ∧ aMo_areDeeds d lim Q 51 [xr l0, xi l1, xi l2, xi 0, xi l4, xi (l5 + 1)] [] g w) ∧
        (((w (g.2 l0 0) (Int.toNat (60 + (w (g.2 l0 22) (Int.toNat l5))))) = (w (g.2 l0 21) (Int.toNat l5))) → x32 (l5 + 1) ∧ aMo_areDeeds d lim Q 51 [xr l0, xi l1, xi l2, xi 1, xi l4, xi (l5 + 1)] [] g w))))) :
    aMo_areDeeds d lim Q 51 [xr l0, xi l1, xi l2, xi l3, xi l4, xi l5] [] g w := xAt_exec (cal_m d) kMo_areDeeds 34 t
set_option maxRecDepth 20000 in
theorem wMo_areDeeds_121 {d : Nat} {lim : Nat × Nat} {Q : xQ} {l3 : Int} {l0 : Nat} {g : xG} {w : xW} (t : xIs g l0 (0, 7) ∧ 
  cal d nMo_back [xr l0] g w (fun r g1 w1 => r = none ∧ ((l3 : Int) = 0 ∨ (l3 : Int) = 1) ∧ Q (some (xi l3)) g1 w1)) :
    aMo_areDeeds d lim Q 121 [xr l0, none, none, xi l3, none, none] [] g w := xAt_exec (cal_m d) kMo_areDeeds 5 t
theorem eMo_areDeeds {d : Nat} {Q : xQ} {l1 l2 : Int} {l0 : Nat} {g : xG} {w : xW} (t : ∀ (lim : Nat × Nat) (Q2 : xQ), (∀ r g2 w2, g2.1 = g.1 → Q r g2 w2 → Q2 r g2 w2) → aMo_areDeeds d lim Q2 0 [xr l0, xi l1, xi l2, none, none, none] [] g w) : cal (d + 1) nMo_areDeeds [xr l0, xi l1, xi l2] g w Q := t _ _ xQof
abbrev aMo_wasLit (d : Nat) (lim : Nat × Nat) (Q : xQ) : xK := xAt xMks tMo_wasLit (cal d) lim Q
def kMo_wasLit : List (Nat × List Bool) := [(35, [true, true, true, true, true, true])]
set_option maxRecDepth 20000 in
theorem wMo_wasLit_0 {d : Nat} {lim : Nat × Nat} {Q : xQ} {l1 l2 : Int} {l0 : Nat} {g : xG} {w : xW} (t : xIs g l0 (0, 7) ∧ 
  cal d nMo_isStove [xr l0, xi l1] g w (fun r g1 w1 => ∃ v1 : Int, r = some (xi v1) ∧ 
    ((¬ v1 = 0) → xIs g1 l0 (0, 7) ∧ 
      cal d nMo_canBeLit [xr l0, xi l1] g1 w1 (fun r g2 w2 => ∃ v2 : Int, r = some (xi v2) ∧ 
        ((¬ v2 = 0) → xIs g2 l0 (0, 7) ∧ 
          cal d nMo_start [xr l0] g2 w2 (fun r g3 w3 => r = none ∧ aMo_wasLit d lim Q 35 [xr l0, xi l1, xi l2, xi 0, xi (-1), xi 0] [] g3 w3)) ∧
        ((v2 = 0) → Q (some (xi (-1000000003))) g2 w2))) ∧
    ((v1 = 0) → Q (some (xi (-1000000001))) g1 w1))) :
    aMo_wasLit d lim Q 0 [xr l0, xi l1, xi l2, none, none, none] [] g w := xAt_exec (cal_m d) kMo_wasLit 17 t
set_option maxRecDepth 20000 in
theorem wMo_wasLit_35 {d : Nat} {lim : Nat × Nat} {Q : xQ} {l1 l2 l3 l4 l5 : Int} {l0 : Nat} {g : xG} {w : xW} (t : 
  ((60 ≤ l5) → 
    ((¬ l2 = (-1)) → Q (some (xi l4)) g w) ∧
    ((l2 = (-1)) → Q (some (xi l3)) g w)) ∧
  ((l5 < 60) → xIs g l0 (0, 7) ∧ 
    cal d nMo_areDeeds [xr l0, xi l1, xi l5] g w (fun r g1 w1 => ∃ v1 : Int, r = some (xi v1) ∧ 
      ((v1 = 0) → x32 (l5 + 1) ∧ aMo_wasLit d lim Q 35 [xr l0, xi l1, xi l2, xi l3, xi l4, xi (l5 + 1)] [] g1 w1) ∧
      ((¬ v1 = 0) → 
        ((¬ l3 = l2) → x32 (l3 + 1) ∧ x32 (l5 + 1) ∧ aMo_wasLit d lim Q 35 [xr l0, xi l1, xi l2, xi (l3 + 1), xi l4, xi (l5 + 1)] [] g1 w1) ∧
        ((l3 = l2) → x32 (l3 + 1) ∧ x32 (l5 + 1) ∧ aMo_wasLit d lim Q 35 [xr l0, xi l1, xi l2, xi (l3 + 1), xi l5, xi (l5 + 1)] [] g1 w1))))) :
    aMo_wasLit d lim Q 35 [xr l0, xi l1, xi l2, xi l3, xi l4, xi l5] [] g w := xAt_exec (cal_m d) kMo_wasLit 18 t
theorem eMo_wasLit {d : Nat} {Q : xQ} {l1 l2 : Int} {l0 : Nat} {g : xG} {w : xW} (t : ∀ (lim : Nat × Nat) (Q2 : xQ), (∀ r g2 w2, g2.1 = g.1 → Q r g2 w2 → Q2 r g2 w2) → aMo_wasLit d lim Q2 0 [xr l0, xi l1, xi l2, none, none, none] [] g w) : cal (d + 1) nMo_wasLit [xr l0, xi l1, xi l2] g w Q := t _ _ xQof
abbrev aMo_tear (d : Nat) (lim : Nat × Nat) (Q : xQ) : xK := xAt xMks tMo_tear (cal d) lim Q
def kMo_tear : List (Nat × List Bool) := []
set_option maxRecDepth 20000 in
theorem wMo_tear_0 {d : Nat} {lim : Nat × Nat} {Q : xQ} {l0 : Nat} {g : xG} {w : xW} (t : xIs g l0 (0, 7) ∧ xIs g l0 (0, 7) ∧ x32 ((w l0 16) + (w l0 20)) ∧ xIs g l0 (0, 7) ∧ xIs g l0 (0, 7) ∧ Q (some (xi ((w l0 16) + (w l0 20)))) g (xup (xup w l0 16 0) l0 20 0)) :
    aMo_tear d lim Q 0 [xr l0, none] [] g w := xAt_exec (cal_m d) kMo_tear 15 t
theorem eMo_tear {d : Nat} {Q : xQ} {l0 : Nat} {g : xG} {w : xW} (t : ∀ (lim : Nat × Nat) (Q2 : xQ), (∀ r g2 w2, g2.1 = g.1 → Q r g2 w2 → Q2 r g2 w2) → aMo_tear d lim Q2 0 [xr l0, none] [] g w) : cal (d + 1) nMo_tear [xr l0] g w Q := t _ _ xQof
abbrev aMo_seed (d : Nat) (lim : Nat × Nat) (Q : xQ) : xK := xAt xMks tMo_seed (cal d) lim Q
def kMo_seed : List (Nat × List Bool) := []
set_option maxRecDepth 20000 in
theorem wMo_seed_0 {d : Nat} {lim : Nat × Nat} {Q : xQ} {l1 : Int} {l0 : Nat} {g : xG} {w : xW} (t : 
  ((0 ≤ l1) → xIs g l0 (0, 7) ∧ xAr g (g.2 l0 0) 141 ∧ xIs g l0 (0, 7) ∧ xA1 g (g.2 l0 0) 141 ∧ Q (some (xi (w (g.2 l0 0) (Int.toNat 141)))) g (xup w (g.2 l0 0) (Int.toNat 141) l1)) ∧
  ((l1 < 0) → Q (some (xi (-1000000002))) g w)) :
    aMo_seed d lim Q 0 [xr l0, xi l1, none] [] g w := xAt_exec (cal_m d) kMo_seed 15 t
theorem eMo_seed {d : Nat} {Q : xQ} {l1 : Int} {l0 : Nat} {g : xG} {w : xW} (t : ∀ (lim : Nat × Nat) (Q2 : xQ), (∀ r g2 w2, g2.1 = g.1 → Q r g2 w2 → Q2 r g2 w2) → aMo_seed d lim Q2 0 [xr l0, xi l1, none] [] g w) : cal (d + 1) nMo_seed [xr l0, xi l1] g w Q := t _ _ xQof
abbrev aMo_keep (d : Nat) (lim : Nat × Nat) (Q : xQ) : xK := xAt xMks tMo_keep (cal d) lim Q
def kMo_keep : List (Nat × List Bool) := [(15, [true, true, true])]
set_option maxRecDepth 20000 in
theorem wMo_keep_0 {d : Nat} {lim : Nat × Nat} {Q : xQ} {l1 : Int} {l0 : Nat} {g : xG} {w : xW} (t : 
  cal d nMo_in [xl l1, xl 0, xl 1] g w (fun r g1 w1 => ∃ v1 : Int, r = some (xi v1) ∧ 
    ((¬ v1 = 0) → aMo_keep d lim Q 15 [xr l0, xi l1, xi 0] [] g1 w1) ∧
    ((v1 = 0) → Q (some (xi (-1000000001))) g1 w1))) :
    aMo_keep d lim Q 0 [xr l0, xi l1, none] [] g w := xAt_exec (cal_m d) kMo_keep 9 t
set_option maxRecDepth 20000 in
theorem wMo_keep_15 {d : Nat} {lim : Nat × Nat} {Q : xQ} {l1 l2 : Int} {l0 : Nat} {g : xG} {w : xW} (t : 
  ((143 ≤ l2) → xIs g l0 (0, 7) ∧ (xA2 g (g.2 l0 2) l1 ∧ ((1 : Int) = 0 ∨ (1 : Int) = 1)) ∧ Q (some (xi 1)) g (xup w (g.2 l0 2) (Int.toNat l1) 1)) ∧
  ((l2 < 143) → xIs g l0 (0, 7) ∧ x32 (143 * l1) ∧ x32 ((143 * l1) + l2) ∧ xIs g l0 (0, 7) ∧ xAr g (g.2 l0 0) l2 ∧ xA1 g (g.2 l0 1) ((143 * l1) + l2) ∧ x32 (l2 + 1) ∧ aMo_keep d lim Q 15 [xr l0, xi l1, xi (l2 + 1)] [] g (xup w (g.2 l0 1) (Int.toNat ((143 * l1) + l2)) (w (g.2 l0 0) (Int.toNat l2))))) :
    aMo_keep d lim Q 15 [xr l0, xi l1, xi l2] [] g w := xAt_exec (cal_m d) kMo_keep 18 t
theorem eMo_keep {d : Nat} {Q : xQ} {l1 : Int} {l0 : Nat} {g : xG} {w : xW} (t : ∀ (lim : Nat × Nat) (Q2 : xQ), (∀ r g2 w2, g2.1 = g.1 → Q r g2 w2 → Q2 r g2 w2) → aMo_keep d lim Q2 0 [xr l0, xi l1, none] [] g w) : cal (d + 1) nMo_keep [xr l0, xi l1] g w Q := t _ _ xQof
abbrev aMo_goBack (d : Nat) (lim : Nat × Nat) (Q : xQ) : xK := xAt xMks tMo_goBack (cal d) lim Q
def kMo_goBack : List (Nat × List Bool) := [(28, [true, true, true])]
set_option maxRecDepth 20000 in
theorem wMo_goBack_0 {d : Nat} {lim : Nat × Nat} {Q : xQ} {l1 : Int} {l0 : Nat} {g : xG} {w : xW} (t : 
  cal d nMo_in [xl l1, xl 0, xl 1] g w (fun r g1 w1 => ∃ v1 : Int, r = some (xi v1) ∧ 
    ((¬ v1 = 0) → xIs g1 l0 (0, 7) ∧ xA2 g1 (g1.2 l0 2) l1 ∧ 
      ((¬ (w1 (g1.2 l0 2) (Int.toNat l1)) = 0) → aMo_goBack d lim Q 28 [xr l0, xi l1, xi 0] [] g1 w1) ∧
      (((w1 (g1.2 l0 2) (Int.toNat l1)) = 0) → Q (some (xi (-1000000003))) g1 w1)) ∧
    ((v1 = 0) → Q (some (xi (-1000000001))) g1 w1))) :
    aMo_goBack d lim Q 0 [xr l0, xi l1, none] [] g w := xAt_exec (cal_m d) kMo_goBack 14 t
set_option maxRecDepth 20000 in
theorem wMo_goBack_28 {d : Nat} {lim : Nat × Nat} {Q : xQ} {l1 l2 : Int} {l0 : Nat} {g : xG} {w : xW} (t : 
  ((143 ≤ l2) → Q (some (xi 1)) g w) ∧
  ((l2 < 143) → xIs g l0 (0, 7) ∧ xIs g l0 (0, 7) ∧ x32 (143 * l1) ∧ x32 ((143 * l1) + l2) ∧ xAr g (g.2 l0 1) ((143 * l1) + l2) ∧ xA1 g (g.2 l0 0) l2 ∧ x32 (l2 + 1) ∧ aMo_goBack d lim Q 28 [xr l0, xi l1, xi (l2 + 1)] [] g (xup w (g.2 l0 0) (Int.toNat l2) (w (g.2 l0 1) (Int.toNat ((143 * l1) + l2)))))) :
    aMo_goBack d lim Q 28 [xr l0, xi l1, xi l2] [] g w := xAt_exec (cal_m d) kMo_goBack 18 t
theorem eMo_goBack {d : Nat} {Q : xQ} {l1 : Int} {l0 : Nat} {g : xG} {w : xW} (t : ∀ (lim : Nat × Nat) (Q2 : xQ), (∀ r g2 w2, g2.1 = g.1 → Q r g2 w2 → Q2 r g2 w2) → aMo_goBack d lim Q2 0 [xr l0, xi l1, none] [] g w) : cal (d + 1) nMo_goBack [xr l0, xi l1] g w Q := t _ _ xQof
end
