set_option maxRecDepth 100000 in
theorem qcMk_init : Jvm.Cond.code tMk_init.1.1 tMk_init.1.2.1 tMk_init.1.2.2.1 tMk_init.1.2.2.2 ∈ ygw := ymem 207 rfl rfl
theorem qiMk_init : Jvm.Cond.instanceMethod tMk_init.1.1 ∈ ygw := ymem 206 (by decide +kernel) rfl
set_option maxRecDepth 100000 in
theorem qcMk_settle : Jvm.Cond.code tMk_settle.1.1 tMk_settle.1.2.1 tMk_settle.1.2.2.1 tMk_settle.1.2.2.2 ∈ ygw := ymem 710 rfl rfl
theorem qiMk_settle : Jvm.Cond.instanceMethod tMk_settle.1.1 ∈ ygw := ymem 709 (by decide +kernel) rfl
theorem qlMk_settle : Jvm.Cond.selects tMk_settle.1.1.cls tMk_settle.1.1 tMk_settle.1.1 ∈ ygw := ymemS (n := 1) 59 (by decide +kernel) rfl
set_option maxRecDepth 100000 in
theorem qcMk_askAnew : Jvm.Cond.code tMk_askAnew.1.1 tMk_askAnew.1.2.1 tMk_askAnew.1.2.2.1 tMk_askAnew.1.2.2.2 ∈ ygw := ymem 715 rfl rfl
theorem qiMk_askAnew : Jvm.Cond.instanceMethod tMk_askAnew.1.1 ∈ ygw := ymem 714 (by decide +kernel) rfl
theorem qlMk_askAnew : Jvm.Cond.selects tMk_askAnew.1.1.cls tMk_askAnew.1.1 tMk_askAnew.1.1 ∈ ygw := ymemS (n := 1) 60 (by decide +kernel) rfl
set_option maxRecDepth 100000 in
theorem qcMk_bestRent : Jvm.Cond.code tMk_bestRent.1.1 tMk_bestRent.1.2.1 tMk_bestRent.1.2.2.1 tMk_bestRent.1.2.2.2 ∈ ygw := ymem 719 rfl rfl
theorem qiMk_bestRent : Jvm.Cond.instanceMethod tMk_bestRent.1.1 ∈ ygw := ymem 718 (by decide +kernel) rfl
theorem qlMk_bestRent : Jvm.Cond.selects tMk_bestRent.1.1.cls tMk_bestRent.1.1 tMk_bestRent.1.1 ∈ ygw := ymemS (n := 1) 61 (by decide +kernel) rfl
set_option maxRecDepth 100000 in
theorem qcMk_countLet : Jvm.Cond.code tMk_countLet.1.1 tMk_countLet.1.2.1 tMk_countLet.1.2.2.1 tMk_countLet.1.2.2.2 ∈ ygw := ymem 723 rfl rfl
theorem qiMk_countLet : Jvm.Cond.instanceMethod tMk_countLet.1.1 ∈ ygw := ymem 722 (by decide +kernel) rfl
theorem qlMk_countLet : Jvm.Cond.selects tMk_countLet.1.1.cls tMk_countLet.1.1 tMk_countLet.1.1 ∈ ygw := ymemS (n := 1) 62 (by decide +kernel) rfl
set_option maxRecDepth 100000 in
theorem qcMk_isUndercut : Jvm.Cond.code tMk_isUndercut.1.1 tMk_isUndercut.1.2.1 tMk_isUndercut.1.2.2.1 tMk_isUndercut.1.2.2.2 ∈ ygw := ymem 728 rfl rfl
theorem qiMk_isUndercut : Jvm.Cond.instanceMethod tMk_isUndercut.1.1 ∈ ygw := ymem 727 (by decide +kernel) rfl
theorem qlMk_isUndercut : Jvm.Cond.selects tMk_isUndercut.1.1.cls tMk_isUndercut.1.1 tMk_isUndercut.1.1 ∈ ygw := ymemS (n := 1) 63 (by decide +kernel) rfl
set_option maxRecDepth 100000 in
theorem qcPp_init : Jvm.Cond.code tPp_init.1.1 tPp_init.1.2.1 tPp_init.1.2.2.1 tPp_init.1.2.2.2 ∈ ygw := ymem 63 rfl rfl
theorem qiPp_init : Jvm.Cond.instanceMethod tPp_init.1.1 ∈ ygw := ymem 62 (by decide +kernel) rfl
set_option maxRecDepth 100000 in
theorem qcPp_write : Jvm.Cond.code tPp_write.1.1 tPp_write.1.2.1 tPp_write.1.2.2.1 tPp_write.1.2.2.2 ∈ ygw := ymem 741 rfl rfl
theorem qiPp_write : Jvm.Cond.instanceMethod tPp_write.1.1 ∈ ygw := ymem 740 (by decide +kernel) rfl
theorem qlPp_write : Jvm.Cond.selects tPp_write.1.1.cls tPp_write.1.1 tPp_write.1.1 ∈ ygw := ymemS (n := 4) 65 (by decide +kernel) rfl
set_option maxRecDepth 100000 in
theorem qcPp_latest : Jvm.Cond.code tPp_latest.1.1 tPp_latest.1.2.1 tPp_latest.1.2.2.1 tPp_latest.1.2.2.2 ∈ ygw := ymem 749 rfl rfl
theorem qiPp_latest : Jvm.Cond.instanceMethod tPp_latest.1.1 ∈ ygw := ymem 748 (by decide +kernel) rfl
theorem qlPp_latest : Jvm.Cond.selects tPp_latest.1.1.cls tPp_latest.1.1 tPp_latest.1.1 ∈ ygw := ymemS (n := 4) 66 (by decide +kernel) rfl
set_option maxRecDepth 100000 in
theorem qcPp_notFeltAt : Jvm.Cond.code tPp_notFeltAt.1.1 tPp_notFeltAt.1.2.1 tPp_notFeltAt.1.2.2.1 tPp_notFeltAt.1.2.2.2 ∈ ygw := ymem 753 rfl rfl
theorem qiPp_notFeltAt : Jvm.Cond.instanceMethod tPp_notFeltAt.1.1 ∈ ygw := ymem 752 (by decide +kernel) rfl
theorem qlPp_notFeltAt : Jvm.Cond.selects tPp_notFeltAt.1.1.cls tPp_notFeltAt.1.1 tPp_notFeltAt.1.1 ∈ ygw := ymemS (n := 4) 67 (by decide +kernel) rfl
set_option maxRecDepth 100000 in
theorem qcPp_ownedAt : Jvm.Cond.code tPp_ownedAt.1.1 tPp_ownedAt.1.2.1 tPp_ownedAt.1.2.2.1 tPp_ownedAt.1.2.2.2 ∈ ygw := ymem 796 rfl rfl
theorem qiPp_ownedAt : Jvm.Cond.instanceMethod tPp_ownedAt.1.1 ∈ ygw := ymem 795 (by decide +kernel) rfl
theorem qlPp_ownedAt : Jvm.Cond.selects tPp_ownedAt.1.1.cls tPp_ownedAt.1.1 tPp_ownedAt.1.1 ∈ ygw := ymemS (n := 4) 72 (by decide +kernel) rfl
set_option maxRecDepth 100000 in
theorem qcRd_init : Jvm.Cond.code tRd_init.1.1 tRd_init.1.2.1 tRd_init.1.2.2.1 tRd_init.1.2.2.2 ∈ ygw := ymem 25 rfl rfl
theorem qiRd_init : Jvm.Cond.instanceMethod tRd_init.1.1 ∈ ygw := ymem 24 (by decide +kernel) rfl
set_option maxRecDepth 100000 in
theorem qcRd_take : Jvm.Cond.code tRd_take.1.1 tRd_take.1.2.1 tRd_take.1.2.2.1 tRd_take.1.2.2.2 ∈ ygw := ymem 340 rfl rfl
theorem qiRd_take : Jvm.Cond.instanceMethod tRd_take.1.1 ∈ ygw := ymem 339 (by decide +kernel) rfl
theorem qlRd_take : Jvm.Cond.selects tRd_take.1.1.cls tRd_take.1.1 tRd_take.1.1 ∈ ygw := ymemS (n := 9) 0 (by decide +kernel) rfl
set_option maxRecDepth 100000 in
theorem qcRd_read : Jvm.Cond.code tRd_read.1.1 tRd_read.1.2.1 tRd_read.1.2.2.1 tRd_read.1.2.2.2 ∈ ygw := ymem 349 rfl rfl
theorem qiRd_read : Jvm.Cond.instanceMethod tRd_read.1.1 ∈ ygw := ymem 348 (by decide +kernel) rfl
theorem qlRd_read : Jvm.Cond.selects tRd_read.1.1.cls tRd_read.1.1 tRd_read.1.1 ∈ ygw := ymemS (n := 9) 1 (by decide +kernel) rfl
set_option maxRecDepth 100000 in
theorem qcRd_readClause : Jvm.Cond.code tRd_readClause.1.1 tRd_readClause.1.2.1 tRd_readClause.1.2.2.1 tRd_readClause.1.2.2.2 ∈ ygw := ymem 369 rfl rfl
theorem qiRd_readClause : Jvm.Cond.instanceMethod tRd_readClause.1.1 ∈ ygw := ymem 368 (by decide +kernel) rfl
theorem qlRd_readClause : Jvm.Cond.selects tRd_readClause.1.1.cls tRd_readClause.1.1 tRd_readClause.1.1 ∈ ygw := ymemS (n := 9) 5 (by decide +kernel) rfl
set_option maxRecDepth 100000 in
theorem qcRd_startClause : Jvm.Cond.code tRd_startClause.1.1 tRd_startClause.1.2.1 tRd_startClause.1.2.2.1 tRd_startClause.1.2.2.2 ∈ ygw := ymem 377 rfl rfl
theorem qiRd_startClause : Jvm.Cond.instanceMethod tRd_startClause.1.1 ∈ ygw := ymem 376 (by decide +kernel) rfl
theorem qlRd_startClause : Jvm.Cond.selects tRd_startClause.1.1.cls tRd_startClause.1.1 tRd_startClause.1.1 ∈ ygw := ymemS (n := 9) 7 (by decide +kernel) rfl
set_option maxRecDepth 100000 in
theorem qcRd_readTown : Jvm.Cond.code tRd_readTown.1.1 tRd_readTown.1.2.1 tRd_readTown.1.2.2.1 tRd_readTown.1.2.2.2 ∈ ygw := ymem 381 rfl rfl
theorem qiRd_readTown : Jvm.Cond.instanceMethod tRd_readTown.1.1 ∈ ygw := ymem 380 (by decide +kernel) rfl
theorem qlRd_readTown : Jvm.Cond.selects tRd_readTown.1.1.cls tRd_readTown.1.1 tRd_readTown.1.1 ∈ ygw := ymemS (n := 9) 8 (by decide +kernel) rfl
set_option maxRecDepth 100000 in
theorem qcRd_readWall : Jvm.Cond.code tRd_readWall.1.1 tRd_readWall.1.2.1 tRd_readWall.1.2.2.1 tRd_readWall.1.2.2.2 ∈ ygw := ymem 405 rfl rfl
theorem qiRd_readWall : Jvm.Cond.instanceMethod tRd_readWall.1.1 ∈ ygw := ymem 404 (by decide +kernel) rfl
theorem qlRd_readWall : Jvm.Cond.selects tRd_readWall.1.1.cls tRd_readWall.1.1 tRd_readWall.1.1 ∈ ygw := ymemS (n := 9) 13 (by decide +kernel) rfl
set_option maxRecDepth 100000 in
theorem qcRd_readStove : Jvm.Cond.code tRd_readStove.1.1 tRd_readStove.1.2.1 tRd_readStove.1.2.2.1 tRd_readStove.1.2.2.2 ∈ ygw := ymem 431 rfl rfl
theorem qiRd_readStove : Jvm.Cond.instanceMethod tRd_readStove.1.1 ∈ ygw := ymem 430 (by decide +kernel) rfl
theorem qlRd_readStove : Jvm.Cond.selects tRd_readStove.1.1.cls tRd_readStove.1.1 tRd_readStove.1.1 ∈ ygw := ymemS (n := 9) 18 (by decide +kernel) rfl
set_option maxRecDepth 100000 in
theorem qcRd_hasStove : Jvm.Cond.code tRd_hasStove.1.1 tRd_hasStove.1.2.1 tRd_hasStove.1.2.2.1 tRd_hasStove.1.2.2.2 ∈ ygw := ymem 435 rfl rfl
theorem qiRd_hasStove : Jvm.Cond.instanceMethod tRd_hasStove.1.1 ∈ ygw := ymem 434 (by decide +kernel) rfl
theorem qlRd_hasStove : Jvm.Cond.selects tRd_hasStove.1.1.cls tRd_hasStove.1.1 tRd_hasStove.1.1 ∈ ygw := ymemS (n := 9) 19 (by decide +kernel) rfl
set_option maxRecDepth 100000 in
theorem qcRd_readRoof : Jvm.Cond.code tRd_readRoof.1.1 tRd_readRoof.1.2.1 tRd_readRoof.1.2.2.1 tRd_readRoof.1.2.2.2 ∈ ygw := ymem 439 rfl rfl
theorem qiRd_readRoof : Jvm.Cond.instanceMethod tRd_readRoof.1.1 ∈ ygw := ymem 438 (by decide +kernel) rfl
theorem qlRd_readRoof : Jvm.Cond.selects tRd_readRoof.1.1.cls tRd_readRoof.1.1 tRd_readRoof.1.1 ∈ ygw := ymemS (n := 9) 20 (by decide +kernel) rfl
set_option maxRecDepth 100000 in
theorem qcRd_readSun : Jvm.Cond.code tRd_readSun.1.1 tRd_readSun.1.2.1 tRd_readSun.1.2.2.1 tRd_readSun.1.2.2.2 ∈ ygw := ymem 443 rfl rfl
theorem qiRd_readSun : Jvm.Cond.instanceMethod tRd_readSun.1.1 ∈ ygw := ymem 442 (by decide +kernel) rfl
theorem qlRd_readSun : Jvm.Cond.selects tRd_readSun.1.1.cls tRd_readSun.1.1 tRd_readSun.1.1 ∈ ygw := ymemS (n := 9) 21 (by decide +kernel) rfl
set_option maxRecDepth 100000 in
theorem qcRd_readPerson : Jvm.Cond.code tRd_readPerson.1.1 tRd_readPerson.1.2.1 tRd_readPerson.1.2.2.1 tRd_readPerson.1.2.2.2 ∈ ygw := ymem 447 rfl rfl
theorem qiRd_readPerson : Jvm.Cond.instanceMethod tRd_readPerson.1.1 ∈ ygw := ymem 446 (by decide +kernel) rfl
theorem qlRd_readPerson : Jvm.Cond.selects tRd_readPerson.1.1.cls tRd_readPerson.1.1 tRd_readPerson.1.1 ∈ ygw := ymemS (n := 9) 22 (by decide +kernel) rfl
set_option maxRecDepth 100000 in
theorem qcRd_readCell : Jvm.Cond.code tRd_readCell.1.1 tRd_readCell.1.2.1 tRd_readCell.1.2.2.1 tRd_readCell.1.2.2.2 ∈ ygw := ymem 409 rfl rfl
theorem qiRd_readCell : Jvm.Cond.instanceMethod tRd_readCell.1.1 ∈ ygw := ymem 408 (by decide +kernel) rfl
theorem qlRd_readCell : Jvm.Cond.selects tRd_readCell.1.1.cls tRd_readCell.1.1 tRd_readCell.1.1 ∈ ygw := ymemS (n := 9) 14 (by decide +kernel) rfl
set_option maxRecDepth 100000 in
theorem qcRd_readNumber : Jvm.Cond.code tRd_readNumber.1.1 tRd_readNumber.1.2.1 tRd_readNumber.1.2.2.1 tRd_readNumber.1.2.2.2 ∈ ygw := ymem 385 rfl rfl
theorem qiRd_readNumber : Jvm.Cond.instanceMethod tRd_readNumber.1.1 ∈ ygw := ymem 384 (by decide +kernel) rfl
theorem qlRd_readNumber : Jvm.Cond.selects tRd_readNumber.1.1.cls tRd_readNumber.1.1 tRd_readNumber.1.1 ∈ ygw := ymemS (n := 9) 9 (by decide +kernel) rfl
set_option maxRecDepth 100000 in
theorem qcRd_endClause : Jvm.Cond.code tRd_endClause.1.1 tRd_endClause.1.2.1 tRd_endClause.1.2.2.1 tRd_endClause.1.2.2.2 ∈ ygw := ymem 401 rfl rfl
theorem qiRd_endClause : Jvm.Cond.instanceMethod tRd_endClause.1.1 ∈ ygw := ymem 400 (by decide +kernel) rfl
theorem qlRd_endClause : Jvm.Cond.selects tRd_endClause.1.1.cls tRd_endClause.1.1 tRd_endClause.1.1 ∈ ygw := ymemS (n := 9) 12 (by decide +kernel) rfl
set_option maxRecDepth 100000 in
theorem qcRd_skipBlanks : Jvm.Cond.code tRd_skipBlanks.1.1 tRd_skipBlanks.1.2.1 tRd_skipBlanks.1.2.2.1 tRd_skipBlanks.1.2.2.2 ∈ ygw := ymem 365 rfl rfl
theorem qiRd_skipBlanks : Jvm.Cond.instanceMethod tRd_skipBlanks.1.1 ∈ ygw := ymem 364 (by decide +kernel) rfl
theorem qlRd_skipBlanks : Jvm.Cond.selects tRd_skipBlanks.1.1.cls tRd_skipBlanks.1.1 tRd_skipBlanks.1.1 ∈ ygw := ymemS (n := 9) 4 (by decide +kernel) rfl
set_option maxRecDepth 100000 in
theorem qcRd_fail : Jvm.Cond.code tRd_fail.1.1 tRd_fail.1.2.1 tRd_fail.1.2.2.1 tRd_fail.1.2.2.2 ∈ ygw := ymem 373 rfl rfl
theorem qiRd_fail : Jvm.Cond.instanceMethod tRd_fail.1.1 ∈ ygw := ymem 372 (by decide +kernel) rfl
theorem qlRd_fail : Jvm.Cond.selects tRd_fail.1.1.cls tRd_fail.1.1 tRd_fail.1.1 ∈ ygw := ymemS (n := 9) 6 (by decide +kernel) rfl
set_option maxRecDepth 100000 in
theorem qcSt_init : Jvm.Cond.code tSt_init.1.1 tSt_init.1.2.1 tSt_init.1.2.2.1 tSt_init.1.2.2.2 ∈ ygw := ymem 87 rfl rfl
theorem qiSt_init : Jvm.Cond.instanceMethod tSt_init.1.1 ∈ ygw := ymem 86 (by decide +kernel) rfl
set_option maxRecDepth 100000 in
theorem qcSt_clear : Jvm.Cond.code tSt_clear.1.1 tSt_clear.1.2.1 tSt_clear.1.2.2.1 tSt_clear.1.2.2.2 ∈ ygw := ymem 360 rfl rfl
theorem qiSt_clear : Jvm.Cond.instanceMethod tSt_clear.1.1 ∈ ygw := ymem 359 (by decide +kernel) rfl
theorem qlSt_clear : Jvm.Cond.selects tSt_clear.1.1.cls tSt_clear.1.1 tSt_clear.1.1 ∈ ygw := ymemS (n := 18) 3 (by decide +kernel) rfl
set_option maxRecDepth 100000 in
theorem qcSt_copyFrom : Jvm.Cond.code tSt_copyFrom.1.1 tSt_copyFrom.1.2.1 tSt_copyFrom.1.2.2.1 tSt_copyFrom.1.2.2.2 ∈ ygw := ymem 661 rfl rfl
theorem qiSt_copyFrom : Jvm.Cond.instanceMethod tSt_copyFrom.1.1 ∈ ygw := ymem 660 (by decide +kernel) rfl
theorem qlSt_copyFrom : Jvm.Cond.selects tSt_copyFrom.1.1.cls tSt_copyFrom.1.1 tSt_copyFrom.1.1 ∈ ygw := ymemS (n := 18) 53 (by decide +kernel) rfl
set_option maxRecDepth 100000 in
theorem qcSt_setWall : Jvm.Cond.code tSt_setWall.1.1 tSt_setWall.1.2.1 tSt_setWall.1.2.2.1 tSt_setWall.1.2.2.2 ∈ ygw := ymem 426 rfl rfl
theorem qiSt_setWall : Jvm.Cond.instanceMethod tSt_setWall.1.1 ∈ ygw := ymem 425 (by decide +kernel) rfl
theorem qlSt_setWall : Jvm.Cond.selects tSt_setWall.1.1.cls tSt_setWall.1.1 tSt_setWall.1.1 ∈ ygw := ymemS (n := 18) 17 (by decide +kernel) rfl
set_option maxRecDepth 100000 in
theorem qcSt_wallOf : Jvm.Cond.code tSt_wallOf.1.1 tSt_wallOf.1.2.1 tSt_wallOf.1.2.2.1 tSt_wallOf.1.2.2.2 ∈ ygw := ymem 421 rfl rfl
theorem qiSt_wallOf : Jvm.Cond.instanceMethod tSt_wallOf.1.1 ∈ ygw := ymem 420 (by decide +kernel) rfl
theorem qlSt_wallOf : Jvm.Cond.selects tSt_wallOf.1.1.cls tSt_wallOf.1.1 tSt_wallOf.1.1 ∈ ygw := ymemS (n := 18) 16 (by decide +kernel) rfl
set_option maxRecDepth 100000 in
theorem qcSt_countWalls : Jvm.Cond.code tSt_countWalls.1.1 tSt_countWalls.1.2.1 tSt_countWalls.1.2.2.1 tSt_countWalls.1.2.2.2 ∈ ygw := ymem 464 rfl rfl
theorem qiSt_countWalls : Jvm.Cond.instanceMethod tSt_countWalls.1.1 ∈ ygw := ymem 463 (by decide +kernel) rfl
theorem qlSt_countWalls : Jvm.Cond.selects tSt_countWalls.1.1.cls tSt_countWalls.1.1 tSt_countWalls.1.1 ∈ ygw := ymemS (n := 18) 24 (by decide +kernel) rfl
set_option maxRecDepth 100000 in
theorem qcSt_reach : Jvm.Cond.code tSt_reach.1.1 tSt_reach.1.2.1 tSt_reach.1.2.2.1 tSt_reach.1.2.2.2 ∈ ygw := ymem 523 rfl rfl
theorem qiSt_reach : Jvm.Cond.instanceMethod tSt_reach.1.1 ∈ ygw := ymem 522 (by decide +kernel) rfl
theorem qlSt_reach : Jvm.Cond.selects tSt_reach.1.1.cls tSt_reach.1.1 tSt_reach.1.1 ∈ ygw := ymemS (n := 18) 32 (by decide +kernel) rfl
set_option maxRecDepth 100000 in
theorem qcSt_peopleOn : Jvm.Cond.code tSt_peopleOn.1.1 tSt_peopleOn.1.2.1 tSt_peopleOn.1.2.2.1 tSt_peopleOn.1.2.2.2 ∈ ygw := ymem 480 rfl rfl
theorem qiSt_peopleOn : Jvm.Cond.instanceMethod tSt_peopleOn.1.1 ∈ ygw := ymem 479 (by decide +kernel) rfl
theorem qlSt_peopleOn : Jvm.Cond.selects tSt_peopleOn.1.1.cls tSt_peopleOn.1.1 tSt_peopleOn.1.1 ∈ ygw := ymemS (n := 18) 26 (by decide +kernel) rfl
set_option maxRecDepth 100000 in
theorem qcSt_countOwned : Jvm.Cond.code tSt_countOwned.1.1 tSt_countOwned.1.2.1 tSt_countOwned.1.2.2.1 tSt_countOwned.1.2.2.2 ∈ ygw := ymem 515 rfl rfl
theorem qiSt_countOwned : Jvm.Cond.instanceMethod tSt_countOwned.1.1 ∈ ygw := ymem 514 (by decide +kernel) rfl
theorem qlSt_countOwned : Jvm.Cond.selects tSt_countOwned.1.1.cls tSt_countOwned.1.1 tSt_countOwned.1.1 ∈ ygw := ymemS (n := 18) 31 (by decide +kernel) rfl
set_option maxRecDepth 100000 in
theorem qcSt_canBeLit : Jvm.Cond.code tSt_canBeLit.1.1 tSt_canBeLit.1.2.1 tSt_canBeLit.1.2.2.1 tSt_canBeLit.1.2.2.2 ∈ ygw := ymem 537 rfl rfl
theorem qiSt_canBeLit : Jvm.Cond.instanceMethod tSt_canBeLit.1.1 ∈ ygw := ymem 536 (by decide +kernel) rfl
theorem qlSt_canBeLit : Jvm.Cond.selects tSt_canBeLit.1.1.cls tSt_canBeLit.1.1 tSt_canBeLit.1.1 ∈ ygw := ymemS (n := 18) 33 (by decide +kernel) rfl
set_option maxRecDepth 100000 in
theorem qcSt_feels : Jvm.Cond.code tSt_feels.1.1 tSt_feels.1.2.1 tSt_feels.1.2.2.1 tSt_feels.1.2.2.2 ∈ ygw := ymem 607 rfl rfl
theorem qiSt_feels : Jvm.Cond.instanceMethod tSt_feels.1.1 ∈ ygw := ymem 606 (by decide +kernel) rfl
theorem qlSt_feels : Jvm.Cond.selects tSt_feels.1.1.cls tSt_feels.1.1 tSt_feels.1.1 ∈ ygw := ymemS (n := 18) 43 (by decide +kernel) rfl
set_option maxRecDepth 100000 in
theorem qcSt_draw : Jvm.Cond.code tSt_draw.1.1 tSt_draw.1.2.1 tSt_draw.1.2.2.1 tSt_draw.1.2.2.2 ∈ ygw := ymem 648 rfl rfl
theorem qiSt_draw : Jvm.Cond.instanceMethod tSt_draw.1.1 ∈ ygw := ymem 647 (by decide +kernel) rfl
theorem qlSt_draw : Jvm.Cond.selects tSt_draw.1.1.cls tSt_draw.1.1 tSt_draw.1.1 ∈ ygw := ymemS (n := 18) 52 (by decide +kernel) rfl
set_option maxRecDepth 100000 in
theorem qcSt_passMinutes : Jvm.Cond.code tSt_passMinutes.1.1 tSt_passMinutes.1.2.1 tSt_passMinutes.1.2.2.1 tSt_passMinutes.1.2.2.2 ∈ ygw := ymem 569 rfl rfl
theorem qiSt_passMinutes : Jvm.Cond.instanceMethod tSt_passMinutes.1.1 ∈ ygw := ymem 568 (by decide +kernel) rfl
theorem qlSt_passMinutes : Jvm.Cond.selects tSt_passMinutes.1.1.cls tSt_passMinutes.1.1 tSt_passMinutes.1.1 ∈ ygw := ymemS (n := 18) 35 (by decide +kernel) rfl
set_option maxRecDepth 100000 in
theorem qcSt_passMinute : Jvm.Cond.code tSt_passMinute.1.1 tSt_passMinute.1.2.1 tSt_passMinute.1.2.2.1 tSt_passMinute.1.2.2.2 ∈ ygw := ymem 573 rfl rfl
theorem qiSt_passMinute : Jvm.Cond.instanceMethod tSt_passMinute.1.1 ∈ ygw := ymem 572 (by decide +kernel) rfl
theorem qlSt_passMinute : Jvm.Cond.selects tSt_passMinute.1.1.cls tSt_passMinute.1.1 tSt_passMinute.1.1 ∈ ygw := ymemS (n := 18) 36 (by decide +kernel) rfl
set_option maxRecDepth 100000 in
theorem qcSt_flow : Jvm.Cond.code tSt_flow.1.1 tSt_flow.1.2.1 tSt_flow.1.2.2.1 tSt_flow.1.2.2.2 ∈ ygw := ymem 577 rfl rfl
theorem qiSt_flow : Jvm.Cond.instanceMethod tSt_flow.1.1 ∈ ygw := ymem 576 (by decide +kernel) rfl
theorem qlSt_flow : Jvm.Cond.selects tSt_flow.1.1.cls tSt_flow.1.1 tSt_flow.1.1 ∈ ygw := ymemS (n := 18) 37 (by decide +kernel) rfl
set_option maxRecDepth 100000 in
theorem qcSt_flowBetween : Jvm.Cond.code tSt_flowBetween.1.1 tSt_flowBetween.1.2.1 tSt_flowBetween.1.2.2.1 tSt_flowBetween.1.2.2.2 ∈ ygw := ymem 585 rfl rfl
theorem qiSt_flowBetween : Jvm.Cond.instanceMethod tSt_flowBetween.1.1 ∈ ygw := ymem 584 (by decide +kernel) rfl
theorem qlSt_flowBetween : Jvm.Cond.selects tSt_flowBetween.1.1.cls tSt_flowBetween.1.1 tSt_flowBetween.1.1 ∈ ygw := ymemS (n := 18) 38 (by decide +kernel) rfl
set_option maxRecDepth 100000 in
theorem qcSt_addWarmth : Jvm.Cond.code tSt_addWarmth.1.1 tSt_addWarmth.1.2.1 tSt_addWarmth.1.2.2.1 tSt_addWarmth.1.2.2.2 ∈ ygw := ymem 589 rfl rfl
theorem qiSt_addWarmth : Jvm.Cond.instanceMethod tSt_addWarmth.1.1 ∈ ygw := ymem 588 (by decide +kernel) rfl
theorem qlSt_addWarmth : Jvm.Cond.selects tSt_addWarmth.1.1.cls tSt_addWarmth.1.1 tSt_addWarmth.1.1 ∈ ygw := ymemS (n := 18) 39 (by decide +kernel) rfl
set_option maxRecDepth 100000 in
theorem qcSt_coolDown : Jvm.Cond.code tSt_coolDown.1.1 tSt_coolDown.1.2.1 tSt_coolDown.1.2.2.1 tSt_coolDown.1.2.2.2 ∈ ygw := ymem 593 rfl rfl
theorem qiSt_coolDown : Jvm.Cond.instanceMethod tSt_coolDown.1.1 ∈ ygw := ymem 592 (by decide +kernel) rfl
theorem qlSt_coolDown : Jvm.Cond.selects tSt_coolDown.1.1.cls tSt_coolDown.1.1 tSt_coolDown.1.1 ∈ ygw := ymemS (n := 18) 40 (by decide +kernel) rfl
set_option maxRecDepth 100000 in
theorem qcSt_feel : Jvm.Cond.code tSt_feel.1.1 tSt_feel.1.2.1 tSt_feel.1.2.2.1 tSt_feel.1.2.2.2 ∈ ygw := ymem 599 rfl rfl
theorem qiSt_feel : Jvm.Cond.instanceMethod tSt_feel.1.1 ∈ ygw := ymem 598 (by decide +kernel) rfl
theorem qlSt_feel : Jvm.Cond.selects tSt_feel.1.1.cls tSt_feel.1.1 tSt_feel.1.1 ∈ ygw := ymemS (n := 18) 41 (by decide +kernel) rfl
set_option maxRecDepth 100000 in
theorem qcSt_takeCells : Jvm.Cond.code tSt_takeCells.1.1 tSt_takeCells.1.2.1 tSt_takeCells.1.2.2.1 tSt_takeCells.1.2.2.2 ∈ ygw := ymem 603 rfl rfl
theorem qiSt_takeCells : Jvm.Cond.instanceMethod tSt_takeCells.1.1 ∈ ygw := ymem 602 (by decide +kernel) rfl
theorem qlSt_takeCells : Jvm.Cond.selects tSt_takeCells.1.1.cls tSt_takeCells.1.1 tSt_takeCells.1.1 ∈ ygw := ymemS (n := 18) 42 (by decide +kernel) rfl
set_option maxRecDepth 100000 in
theorem qcSt_coldestFeeling : Jvm.Cond.code tSt_coldestFeeling.1.1 tSt_coldestFeeling.1.2.1 tSt_coldestFeeling.1.2.2.1 tSt_coldestFeeling.1.2.2.2 ∈ ygw := ymem 611 rfl rfl
theorem qiSt_coldestFeeling : Jvm.Cond.instanceMethod tSt_coldestFeeling.1.1 ∈ ygw := ymem 610 (by decide +kernel) rfl
theorem qlSt_coldestFeeling : Jvm.Cond.selects tSt_coldestFeeling.1.1.cls tSt_coldestFeeling.1.1 tSt_coldestFeeling.1.1 ∈ ygw := ymemS (n := 18) 44 (by decide +kernel) rfl
set_option maxRecDepth 100000 in
theorem qcSt_keepLaw : Jvm.Cond.code tSt_keepLaw.1.1 tSt_keepLaw.1.2.1 tSt_keepLaw.1.2.2.1 tSt_keepLaw.1.2.2.2 ∈ ygw := ymem 615 rfl rfl
theorem qiSt_keepLaw : Jvm.Cond.instanceMethod tSt_keepLaw.1.1 ∈ ygw := ymem 614 (by decide +kernel) rfl
theorem qlSt_keepLaw : Jvm.Cond.selects tSt_keepLaw.1.1.cls tSt_keepLaw.1.1 tSt_keepLaw.1.1 ∈ ygw := ymemS (n := 18) 45 (by decide +kernel) rfl
set_option maxRecDepth 100000 in
theorem qcSt_endOwning : Jvm.Cond.code tSt_endOwning.1.1 tSt_endOwning.1.2.1 tSt_endOwning.1.2.2.1 tSt_endOwning.1.2.2.2 ∈ ygw := ymem 619 rfl rfl
theorem qiSt_endOwning : Jvm.Cond.instanceMethod tSt_endOwning.1.1 ∈ ygw := ymem 618 (by decide +kernel) rfl
theorem qlSt_endOwning : Jvm.Cond.selects tSt_endOwning.1.1.cls tSt_endOwning.1.1 tSt_endOwning.1.1 ∈ ygw := ymemS (n := 18) 46 (by decide +kernel) rfl
set_option maxRecDepth 100000 in
theorem qcSt_makePartners : Jvm.Cond.code tSt_makePartners.1.1 tSt_makePartners.1.2.1 tSt_makePartners.1.2.2.1 tSt_makePartners.1.2.2.2 ∈ ygw := ymem 623 rfl rfl
theorem qiSt_makePartners : Jvm.Cond.instanceMethod tSt_makePartners.1.1 ∈ ygw := ymem 622 (by decide +kernel) rfl
theorem qlSt_makePartners : Jvm.Cond.selects tSt_makePartners.1.1.cls tSt_makePartners.1.1 tSt_makePartners.1.1 ∈ ygw := ymemS (n := 18) 47 (by decide +kernel) rfl
set_option maxRecDepth 100000 in
theorem qcSt_isDear : Jvm.Cond.code tSt_isDear.1.1 tSt_isDear.1.2.1 tSt_isDear.1.2.2.1 tSt_isDear.1.2.2.2 ∈ ygw := ymem 631 rfl rfl
theorem qiSt_isDear : Jvm.Cond.instanceMethod tSt_isDear.1.1 ∈ ygw := ymem 630 (by decide +kernel) rfl
theorem qlSt_isDear : Jvm.Cond.selects tSt_isDear.1.1.cls tSt_isDear.1.1 tSt_isDear.1.1 ∈ ygw := ymemS (n := 18) 49 (by decide +kernel) rfl
set_option maxRecDepth 100000 in
theorem qcSt_oweForWarmth : Jvm.Cond.code tSt_oweForWarmth.1.1 tSt_oweForWarmth.1.2.1 tSt_oweForWarmth.1.2.2.1 tSt_oweForWarmth.1.2.2.2 ∈ ygw := ymem 627 rfl rfl
theorem qiSt_oweForWarmth : Jvm.Cond.instanceMethod tSt_oweForWarmth.1.1 ∈ ygw := ymem 626 (by decide +kernel) rfl
theorem qlSt_oweForWarmth : Jvm.Cond.selects tSt_oweForWarmth.1.1.cls tSt_oweForWarmth.1.1 tSt_oweForWarmth.1.1 ∈ ygw := ymemS (n := 18) 48 (by decide +kernel) rfl
set_option maxRecDepth 100000 in
theorem qcSt_warmSkins : Jvm.Cond.code tSt_warmSkins.1.1 tSt_warmSkins.1.2.1 tSt_warmSkins.1.2.2.1 tSt_warmSkins.1.2.2.2 ∈ ygw := ymem 636 rfl rfl
theorem qiSt_warmSkins : Jvm.Cond.instanceMethod tSt_warmSkins.1.1 ∈ ygw := ymem 635 (by decide +kernel) rfl
theorem qlSt_warmSkins : Jvm.Cond.selects tSt_warmSkins.1.1.cls tSt_warmSkins.1.1 tSt_warmSkins.1.1 ∈ ygw := ymemS (n := 18) 50 (by decide +kernel) rfl
set_option maxRecDepth 100000 in
theorem qcSt_leaveDearCells : Jvm.Cond.code tSt_leaveDearCells.1.1 tSt_leaveDearCells.1.2.1 tSt_leaveDearCells.1.2.2.1 tSt_leaveDearCells.1.2.2.2 ∈ ygw := ymem 766 rfl rfl
theorem qiSt_leaveDearCells : Jvm.Cond.instanceMethod tSt_leaveDearCells.1.1 ∈ ygw := ymem 765 (by decide +kernel) rfl
theorem qlSt_leaveDearCells : Jvm.Cond.selects tSt_leaveDearCells.1.1.cls tSt_leaveDearCells.1.1 tSt_leaveDearCells.1.1 ∈ ygw := ymemS (n := 18) 69 (by decide +kernel) rfl
set_option maxRecDepth 100000 in
theorem qcSt_refuge : Jvm.Cond.code tSt_refuge.1.1 tSt_refuge.1.2.1 tSt_refuge.1.2.2.1 tSt_refuge.1.2.2.2 ∈ ygw := ymem 770 rfl rfl
theorem qiSt_refuge : Jvm.Cond.instanceMethod tSt_refuge.1.1 ∈ ygw := ymem 769 (by decide +kernel) rfl
theorem qlSt_refuge : Jvm.Cond.selects tSt_refuge.1.1.cls tSt_refuge.1.1 tSt_refuge.1.1 ∈ ygw := ymemS (n := 18) 70 (by decide +kernel) rfl
set_option maxRecDepth 100000 in
theorem qcTo_init : Jvm.Cond.code tTo_init.1.1 tTo_init.1.2.1 tTo_init.1.2.2.1 tTo_init.1.2.2.2 ∈ ygw := ymem 170 rfl rfl
theorem qiTo_init : Jvm.Cond.instanceMethod tTo_init.1.1 ∈ ygw := ymem 169 (by decide +kernel) rfl
set_option maxRecDepth 100000 in
theorem qcTo_begin : Jvm.Cond.code tTo_begin.1.1 tTo_begin.1.2.1 tTo_begin.1.2.2.1 tTo_begin.1.2.2.2 ∈ ygw := ymem 669 rfl rfl
theorem qiTo_begin : Jvm.Cond.instanceMethod tTo_begin.1.1 ∈ ygw := ymem 668 (by decide +kernel) rfl
theorem qlTo_begin : Jvm.Cond.selects tTo_begin.1.1.cls tTo_begin.1.1 tTo_begin.1.1 ∈ ygw := ymemS (n := 7) 54 (by decide +kernel) rfl
set_option maxRecDepth 100000 in
theorem qcTo_finish : Jvm.Cond.code tTo_finish.1.1 tTo_finish.1.2.1 tTo_finish.1.2.2.1 tTo_finish.1.2.2.2 ∈ ygw := ymem 677 rfl rfl
theorem qiTo_finish : Jvm.Cond.instanceMethod tTo_finish.1.1 ∈ ygw := ymem 676 (by decide +kernel) rfl
theorem qlTo_finish : Jvm.Cond.selects tTo_finish.1.1.cls tTo_finish.1.1 tTo_finish.1.1 ∈ ygw := ymemS (n := 7) 55 (by decide +kernel) rfl
set_option maxRecDepth 100000 in
theorem qcTw_init : Jvm.Cond.code tTw_init.1.1 tTw_init.1.2.1 tTw_init.1.2.2.1 tTw_init.1.2.2.2 ∈ ygw := ymem 218 rfl rfl
theorem qiTw_init : Jvm.Cond.instanceMethod tTw_init.1.1 ∈ ygw := ymem 217 (by decide +kernel) rfl
set_option maxRecDepth 100000 in
theorem qcTw_clear : Jvm.Cond.code tTw_clear.1.1 tTw_clear.1.2.1 tTw_clear.1.2.2.1 tTw_clear.1.2.2.2 ∈ ygw := ymem 353 rfl rfl
theorem qiTw_clear : Jvm.Cond.instanceMethod tTw_clear.1.1 ∈ ygw := ymem 352 (by decide +kernel) rfl
theorem qlTw_clear : Jvm.Cond.selects tTw_clear.1.1.cls tTw_clear.1.1 tTw_clear.1.1 ∈ ygw := ymemS (n := 13) 2 (by decide +kernel) rfl
set_option maxRecDepth 100000 in
theorem qcTw_setSize : Jvm.Cond.code tTw_setSize.1.1 tTw_setSize.1.2.1 tTw_setSize.1.2.2.1 tTw_setSize.1.2.2.2 ∈ ygw := ymem 392 rfl rfl
theorem qiTw_setSize : Jvm.Cond.instanceMethod tTw_setSize.1.1 ∈ ygw := ymem 391 (by decide +kernel) rfl
theorem qlTw_setSize : Jvm.Cond.selects tTw_setSize.1.1.cls tTw_setSize.1.1 tTw_setSize.1.1 ∈ ygw := ymemS (n := 13) 10 (by decide +kernel) rfl
set_option maxRecDepth 100000 in
theorem qcTw_cells : Jvm.Cond.code tTw_cells.1.1 tTw_cells.1.2.1 tTw_cells.1.2.2.1 tTw_cells.1.2.2.2 ∈ ygw := ymem 452 rfl rfl
theorem qiTw_cells : Jvm.Cond.instanceMethod tTw_cells.1.1 ∈ ygw := ymem 451 (by decide +kernel) rfl
theorem qlTw_cells : Jvm.Cond.selects tTw_cells.1.1.cls tTw_cells.1.1 tTw_cells.1.1 ∈ ygw := ymemS (n := 13) 23 (by decide +kernel) rfl
set_option maxRecDepth 100000 in
theorem qcTw_cellAt : Jvm.Cond.code tTw_cellAt.1.1 tTw_cellAt.1.2.1 tTw_cellAt.1.2.2.1 tTw_cellAt.1.2.2.2 ∈ ygw := ymem 396 rfl rfl
theorem qiTw_cellAt : Jvm.Cond.instanceMethod tTw_cellAt.1.1 ∈ ygw := ymem 395 (by decide +kernel) rfl
theorem qlTw_cellAt : Jvm.Cond.selects tTw_cellAt.1.1.cls tTw_cellAt.1.1 tTw_cellAt.1.1 ∈ ygw := ymemS (n := 13) 11 (by decide +kernel) rfl
set_option maxRecDepth 100000 in
theorem qcTw_cellOfPair : Jvm.Cond.code tTw_cellOfPair.1.1 tTw_cellOfPair.1.2.1 tTw_cellOfPair.1.2.2.1 tTw_cellOfPair.1.2.2.2 ∈ ygw := ymem 737 rfl rfl
theorem qiTw_cellOfPair : Jvm.Cond.instanceMethod tTw_cellOfPair.1.1 ∈ ygw := ymem 736 (by decide +kernel) rfl
theorem qlTw_cellOfPair : Jvm.Cond.selects tTw_cellOfPair.1.1.cls tTw_cellOfPair.1.1 tTw_cellOfPair.1.1 ∈ ygw := ymemS (n := 13) 64 (by decide +kernel) rfl
set_option maxRecDepth 100000 in
theorem qcTw_pairOf : Jvm.Cond.code tTw_pairOf.1.1 tTw_pairOf.1.2.1 tTw_pairOf.1.2.2.1 tTw_pairOf.1.2.2.2 ∈ ygw := ymem 503 rfl rfl
theorem qiTw_pairOf : Jvm.Cond.instanceMethod tTw_pairOf.1.1 ∈ ygw := ymem 502 (by decide +kernel) rfl
theorem qlTw_pairOf : Jvm.Cond.selects tTw_pairOf.1.1.cls tTw_pairOf.1.1 tTw_pairOf.1.1 ∈ ygw := ymemS (n := 13) 29 (by decide +kernel) rfl
set_option maxRecDepth 100000 in
theorem qcTw_beside : Jvm.Cond.code tTw_beside.1.1 tTw_beside.1.2.1 tTw_beside.1.2.2.1 tTw_beside.1.2.2.2 ∈ ygw := ymem 417 rfl rfl
theorem qiTw_beside : Jvm.Cond.instanceMethod tTw_beside.1.1 ∈ ygw := ymem 416 (by decide +kernel) rfl
theorem qlTw_beside : Jvm.Cond.selects tTw_beside.1.1.cls tTw_beside.1.1 tTw_beside.1.1 ∈ ygw := ymemS (n := 13) 15 (by decide +kernel) rfl
set_option maxRecDepth 100000 in
theorem qcTw_sunAt : Jvm.Cond.code tTw_sunAt.1.1 tTw_sunAt.1.2.1 tTw_sunAt.1.2.2.1 tTw_sunAt.1.2.2.2 ∈ ygw := ymem 470 rfl rfl
theorem qiTw_sunAt : Jvm.Cond.instanceMethod tTw_sunAt.1.1 ∈ ygw := ymem 469 (by decide +kernel) rfl
theorem qlTw_sunAt : Jvm.Cond.selects tTw_sunAt.1.1.cls tTw_sunAt.1.1 tTw_sunAt.1.1 ∈ ygw := ymemS (n := 13) 25 (by decide +kernel) rfl
set_option maxRecDepth 100000 in
theorem qcFf_init : Jvm.Cond.code tFf_init.1.1 tFf_init.1.2.1 tFf_init.1.2.2.1 tFf_init.1.2.2.2 ∈ ygw := ymem 17 rfl rfl
theorem qiFf_init : Jvm.Cond.instanceMethod tFf_init.1.1 ∈ ygw := ymem 16 (by decide +kernel) rfl
set_option maxRecDepth 100000 in
theorem qcFf_feed : Jvm.Cond.code tFf_feed.1.1 tFf_feed.1.2.1 tFf_feed.1.2.2.1 tFf_feed.1.2.2.2 ∈ ygw := ymem 335 rfl rfl
theorem qiFf_feed : Jvm.Cond.instanceMethod tFf_feed.1.1 ∈ ygw := ymem 333 (by decide +kernel) rfl
theorem qlFf_feed : Jvm.Cond.selects tFf_feed.1.1.cls tFf_feed.1.1 tFf_feed.1.1 ∈ ygw := ymem 334 (by decide +kernel) rfl
set_option maxRecDepth 100000 in
theorem qcFf_town : Jvm.Cond.code tFf_town.1.1 tFf_town.1.2.1 tFf_town.1.2.2.1 tFf_town.1.2.2.2 ∈ ygw := ymem 345 rfl rfl
theorem qiFf_town : Jvm.Cond.instanceMethod tFf_town.1.1 ∈ ygw := ymem 343 (by decide +kernel) rfl
theorem qlFf_town : Jvm.Cond.selects tFf_town.1.1.cls tFf_town.1.1 tFf_town.1.1 ∈ ygw := ymem 344 (by decide +kernel) rfl
set_option maxRecDepth 100000 in
theorem qcFf_fault : Jvm.Cond.code tFf_fault.1.1 tFf_fault.1.2.1 tFf_fault.1.2.2.1 tFf_fault.1.2.2.2 ∈ ygw := ymem 456 rfl rfl
theorem qiFf_fault : Jvm.Cond.instanceMethod tFf_fault.1.1 ∈ ygw := ymem 454 (by decide +kernel) rfl
theorem qlFf_fault : Jvm.Cond.selects tFf_fault.1.1.cls tFf_fault.1.1 tFf_fault.1.1 ∈ ygw := ymem 455 (by decide +kernel) rfl
set_option maxRecDepth 100000 in
theorem qcFf_told : Jvm.Cond.code tFf_told.1.1 tFf_told.1.2.1 tFf_told.1.2.2.1 tFf_told.1.2.2.2 ∈ ygw := ymem 460 rfl rfl
theorem qiFf_told : Jvm.Cond.instanceMethod tFf_told.1.1 ∈ ygw := ymem 458 (by decide +kernel) rfl
theorem qlFf_told : Jvm.Cond.selects tFf_told.1.1.cls tFf_told.1.1 tFf_told.1.1 ∈ ygw := ymem 459 (by decide +kernel) rfl
set_option maxRecDepth 100000 in
theorem qcFf_cell : Jvm.Cond.code tFf_cell.1.1 tFf_cell.1.2.1 tFf_cell.1.2.2.1 tFf_cell.1.2.2.2 ∈ ygw := ymem 474 rfl rfl
theorem qiFf_cell : Jvm.Cond.instanceMethod tFf_cell.1.1 ∈ ygw := ymem 472 (by decide +kernel) rfl
theorem qlFf_cell : Jvm.Cond.selects tFf_cell.1.1.cls tFf_cell.1.1 tFf_cell.1.1 ∈ ygw := ymem 473 (by decide +kernel) rfl
set_option maxRecDepth 100000 in
theorem qcFf_wall : Jvm.Cond.code tFf_wall.1.1 tFf_wall.1.2.1 tFf_wall.1.2.2.1 tFf_wall.1.2.2.2 ∈ ygw := ymem 484 rfl rfl
theorem qiFf_wall : Jvm.Cond.instanceMethod tFf_wall.1.1 ∈ ygw := ymem 482 (by decide +kernel) rfl
theorem qlFf_wall : Jvm.Cond.selects tFf_wall.1.1.cls tFf_wall.1.1 tFf_wall.1.1 ∈ ygw := ymem 483 (by decide +kernel) rfl
set_option maxRecDepth 100000 in
theorem qcFf_stove : Jvm.Cond.code tFf_stove.1.1 tFf_stove.1.2.1 tFf_stove.1.2.2.1 tFf_stove.1.2.2.2 ∈ ygw := ymem 495 rfl rfl
theorem qiFf_stove : Jvm.Cond.instanceMethod tFf_stove.1.1 ∈ ygw := ymem 493 (by decide +kernel) rfl
theorem qlFf_stove : Jvm.Cond.selects tFf_stove.1.1.cls tFf_stove.1.1 tFf_stove.1.1 ∈ ygw := ymem 494 (by decide +kernel) rfl
set_option maxRecDepth 100000 in
theorem qcFf_person : Jvm.Cond.code tFf_person.1.1 tFf_person.1.2.1 tFf_person.1.2.2.1 tFf_person.1.2.2.2 ∈ ygw := ymem 507 rfl rfl
theorem qiFf_person : Jvm.Cond.instanceMethod tFf_person.1.1 ∈ ygw := ymem 505 (by decide +kernel) rfl
theorem qlFf_person : Jvm.Cond.selects tFf_person.1.1.cls tFf_person.1.1 tFf_person.1.1 ∈ ygw := ymem 506 (by decide +kernel) rfl
set_option maxRecDepth 100000 in
theorem qcFf_go : Jvm.Cond.code tFf_go.1.1 tFf_go.1.2.1 tFf_go.1.2.2.1 tFf_go.1.2.2.2 ∈ ygw := ymem 519 rfl rfl
theorem qiFf_go : Jvm.Cond.instanceMethod tFf_go.1.1 ∈ ygw := ymem 517 (by decide +kernel) rfl
theorem qlFf_go : Jvm.Cond.selects tFf_go.1.1.cls tFf_go.1.1 tFf_go.1.1 ∈ ygw := ymem 518 (by decide +kernel) rfl
set_option maxRecDepth 100000 in
theorem qcFf_build : Jvm.Cond.code tFf_build.1.1 tFf_build.1.2.1 tFf_build.1.2.2.1 tFf_build.1.2.2.2 ∈ ygw := ymem 528 rfl rfl
theorem qiFf_build : Jvm.Cond.instanceMethod tFf_build.1.1 ∈ ygw := ymem 526 (by decide +kernel) rfl
theorem qlFf_build : Jvm.Cond.selects tFf_build.1.1.cls tFf_build.1.1 tFf_build.1.1 ∈ ygw := ymem 527 (by decide +kernel) rfl
set_option maxRecDepth 100000 in
theorem qcFf_light : Jvm.Cond.code tFf_light.1.1 tFf_light.1.2.1 tFf_light.1.2.2.1 tFf_light.1.2.2.2 ∈ ygw := ymem 533 rfl rfl
theorem qiFf_light : Jvm.Cond.instanceMethod tFf_light.1.1 ∈ ygw := ymem 531 (by decide +kernel) rfl
theorem qlFf_light : Jvm.Cond.selects tFf_light.1.1.cls tFf_light.1.1 tFf_light.1.1 ∈ ygw := ymem 532 (by decide +kernel) rfl
set_option maxRecDepth 100000 in
theorem qcFf_stoke : Jvm.Cond.code tFf_stoke.1.1 tFf_stoke.1.2.1 tFf_stoke.1.2.2.1 tFf_stoke.1.2.2.2 ∈ ygw := ymem 541 rfl rfl
theorem qiFf_stoke : Jvm.Cond.instanceMethod tFf_stoke.1.1 ∈ ygw := ymem 539 (by decide +kernel) rfl
theorem qlFf_stoke : Jvm.Cond.selects tFf_stoke.1.1.cls tFf_stoke.1.1 tFf_stoke.1.1 ∈ ygw := ymem 540 (by decide +kernel) rfl
set_option maxRecDepth 100000 in
theorem qcFf_law : Jvm.Cond.code tFf_law.1.1 tFf_law.1.2.1 tFf_law.1.2.2.1 tFf_law.1.2.2.2 ∈ ygw := ymem 546 rfl rfl
theorem qiFf_law : Jvm.Cond.instanceMethod tFf_law.1.1 ∈ ygw := ymem 544 (by decide +kernel) rfl
theorem qlFf_law : Jvm.Cond.selects tFf_law.1.1.cls tFf_law.1.1 tFf_law.1.1 ∈ ygw := ymem 545 (by decide +kernel) rfl
set_option maxRecDepth 100000 in
theorem qcFf_last : Jvm.Cond.code tFf_last.1.1 tFf_last.1.2.1 tFf_last.1.2.2.1 tFf_last.1.2.2.2 ∈ ygw := ymem 553 rfl rfl
theorem qiFf_last : Jvm.Cond.instanceMethod tFf_last.1.1 ∈ ygw := ymem 551 (by decide +kernel) rfl
theorem qlFf_last : Jvm.Cond.selects tFf_last.1.1.cls tFf_last.1.1 tFf_last.1.1 ∈ ygw := ymem 552 (by decide +kernel) rfl
set_option maxRecDepth 100000 in
theorem qcFf_minute : Jvm.Cond.code tFf_minute.1.1 tFf_minute.1.2.1 tFf_minute.1.2.2.1 tFf_minute.1.2.2.2 ∈ ygw := ymem 557 rfl rfl
theorem qiFf_minute : Jvm.Cond.instanceMethod tFf_minute.1.1 ∈ ygw := ymem 555 (by decide +kernel) rfl
theorem qlFf_minute : Jvm.Cond.selects tFf_minute.1.1.cls tFf_minute.1.1 tFf_minute.1.1 ∈ ygw := ymem 556 (by decide +kernel) rfl
set_option maxRecDepth 100000 in
theorem qcFf_drift : Jvm.Cond.code tFf_drift.1.1 tFf_drift.1.2.1 tFf_drift.1.2.2.1 tFf_drift.1.2.2.2 ∈ ygw := ymem 640 rfl rfl
theorem qiFf_drift : Jvm.Cond.instanceMethod tFf_drift.1.1 ∈ ygw := ymem 638 (by decide +kernel) rfl
theorem qlFf_drift : Jvm.Cond.selects tFf_drift.1.1.cls tFf_drift.1.1 tFf_drift.1.1 ∈ ygw := ymem 639 (by decide +kernel) rfl
set_option maxRecDepth 100000 in
theorem qcFf_then : Jvm.Cond.code tFf_then.1.1 tFf_then.1.2.1 tFf_then.1.2.2.1 tFf_then.1.2.2.2 ∈ ygw := ymem 657 rfl rfl
theorem qiFf_then : Jvm.Cond.instanceMethod tFf_then.1.1 ∈ ygw := ymem 655 (by decide +kernel) rfl
theorem qlFf_then : Jvm.Cond.selects tFf_then.1.1.cls tFf_then.1.1 tFf_then.1.1 ∈ ygw := ymem 656 (by decide +kernel) rfl
set_option maxRecDepth 100000 in
theorem qcFf_stands : Jvm.Cond.code tFf_stands.1.1 tFf_stands.1.2.1 tFf_stands.1.2.2.1 tFf_stands.1.2.2.2 ∈ ygw := ymem 665 rfl rfl
theorem qiFf_stands : Jvm.Cond.instanceMethod tFf_stands.1.1 ∈ ygw := ymem 663 (by decide +kernel) rfl
theorem qlFf_stands : Jvm.Cond.selects tFf_stands.1.1.cls tFf_stands.1.1 tFf_stands.1.1 ∈ ygw := ymem 664 (by decide +kernel) rfl
set_option maxRecDepth 100000 in
theorem qcFf_lightFor : Jvm.Cond.code tFf_lightFor.1.1 tFf_lightFor.1.2.1 tFf_lightFor.1.2.2.1 tFf_lightFor.1.2.2.2 ∈ ygw := ymem 682 rfl rfl
theorem qiFf_lightFor : Jvm.Cond.instanceMethod tFf_lightFor.1.1 ∈ ygw := ymem 680 (by decide +kernel) rfl
theorem qlFf_lightFor : Jvm.Cond.selects tFf_lightFor.1.1.cls tFf_lightFor.1.1 tFf_lightFor.1.1 ∈ ygw := ymem 681 (by decide +kernel) rfl
set_option maxRecDepth 100000 in
theorem qcFf_keptOut : Jvm.Cond.code tFf_keptOut.1.1 tFf_keptOut.1.2.1 tFf_keptOut.1.2.2.1 tFf_keptOut.1.2.2.2 ∈ ygw := ymem 694 rfl rfl
theorem qiFf_keptOut : Jvm.Cond.instanceMethod tFf_keptOut.1.1 ∈ ygw := ymem 692 (by decide +kernel) rfl
theorem qlFf_keptOut : Jvm.Cond.selects tFf_keptOut.1.1.cls tFf_keptOut.1.1 tFf_keptOut.1.1 ∈ ygw := ymem 693 (by decide +kernel) rfl
set_option maxRecDepth 100000 in
theorem qcFf_gain : Jvm.Cond.code tFf_gain.1.1 tFf_gain.1.2.1 tFf_gain.1.2.2.1 tFf_gain.1.2.2.2 ∈ ygw := ymem 698 rfl rfl
theorem qiFf_gain : Jvm.Cond.instanceMethod tFf_gain.1.1 ∈ ygw := ymem 696 (by decide +kernel) rfl
theorem qlFf_gain : Jvm.Cond.selects tFf_gain.1.1.cls tFf_gain.1.1 tFf_gain.1.1 ∈ ygw := ymem 697 (by decide +kernel) rfl
set_option maxRecDepth 100000 in
theorem qcFf_rents : Jvm.Cond.code tFf_rents.1.1 tFf_rents.1.2.1 tFf_rents.1.2.2.1 tFf_rents.1.2.2.2 ∈ ygw := ymem 706 rfl rfl
theorem qiFf_rents : Jvm.Cond.instanceMethod tFf_rents.1.1 ∈ ygw := ymem 704 (by decide +kernel) rfl
theorem qlFf_rents : Jvm.Cond.selects tFf_rents.1.1.cls tFf_rents.1.1 tFf_rents.1.1 ∈ ygw := ymem 705 (by decide +kernel) rfl
set_option maxRecDepth 100000 in
theorem qcFf_claim : Jvm.Cond.code tFf_claim.1.1 tFf_claim.1.2.1 tFf_claim.1.2.2.1 tFf_claim.1.2.2.2 ∈ ygw := ymem 733 rfl rfl
theorem qiFf_claim : Jvm.Cond.instanceMethod tFf_claim.1.1 ∈ ygw := ymem 731 (by decide +kernel) rfl
theorem qlFf_claim : Jvm.Cond.selects tFf_claim.1.1.cls tFf_claim.1.1 tFf_claim.1.1 ∈ ygw := ymem 732 (by decide +kernel) rfl
set_option maxRecDepth 100000 in
theorem qcFf_forged : Jvm.Cond.code tFf_forged.1.1 tFf_forged.1.2.1 tFf_forged.1.2.2.1 tFf_forged.1.2.2.2 ∈ ygw := ymem 745 rfl rfl
theorem qiFf_forged : Jvm.Cond.instanceMethod tFf_forged.1.1 ∈ ygw := ymem 743 (by decide +kernel) rfl
theorem qlFf_forged : Jvm.Cond.selects tFf_forged.1.1.cls tFf_forged.1.1 tFf_forged.1.1 ∈ ygw := ymem 744 (by decide +kernel) rfl
set_option maxRecDepth 100000 in
theorem qcFf_cold : Jvm.Cond.code tFf_cold.1.1 tFf_cold.1.2.1 tFf_cold.1.2.2.1 tFf_cold.1.2.2.2 ∈ ygw := ymem 758 rfl rfl
theorem qiFf_cold : Jvm.Cond.instanceMethod tFf_cold.1.1 ∈ ygw := ymem 756 (by decide +kernel) rfl
theorem qlFf_cold : Jvm.Cond.selects tFf_cold.1.1.cls tFf_cold.1.1 tFf_cold.1.1 ∈ ygw := ymem 757 (by decide +kernel) rfl
set_option maxRecDepth 100000 in
theorem qcFf_mildest : Jvm.Cond.code tFf_mildest.1.1 tFf_mildest.1.2.1 tFf_mildest.1.2.2.1 tFf_mildest.1.2.2.2 ∈ ygw := ymem 780 rfl rfl
theorem qiFf_mildest : Jvm.Cond.instanceMethod tFf_mildest.1.1 ∈ ygw := ymem 778 (by decide +kernel) rfl
theorem qlFf_mildest : Jvm.Cond.selects tFf_mildest.1.1.cls tFf_mildest.1.1 tFf_mildest.1.1 ∈ ygw := ymem 779 (by decide +kernel) rfl
set_option maxRecDepth 100000 in
theorem qcFf_deed : Jvm.Cond.code tFf_deed.1.1 tFf_deed.1.2.1 tFf_deed.1.2.2.1 tFf_deed.1.2.2.2 ∈ ygw := ymem 784 rfl rfl
theorem qiFf_deed : Jvm.Cond.instanceMethod tFf_deed.1.1 ∈ ygw := ymem 782 (by decide +kernel) rfl
theorem qlFf_deed : Jvm.Cond.selects tFf_deed.1.1.cls tFf_deed.1.1 tFf_deed.1.1 ∈ ygw := ymem 783 (by decide +kernel) rfl
set_option maxRecDepth 100000 in
theorem qcFf_wasLit : Jvm.Cond.code tFf_wasLit.1.1 tFf_wasLit.1.2.1 tFf_wasLit.1.2.2.1 tFf_wasLit.1.2.2.2 ∈ ygw := ymem 788 rfl rfl
theorem qiFf_wasLit : Jvm.Cond.instanceMethod tFf_wasLit.1.1 ∈ ygw := ymem 786 (by decide +kernel) rfl
theorem qlFf_wasLit : Jvm.Cond.selects tFf_wasLit.1.1.cls tFf_wasLit.1.1 tFf_wasLit.1.1 ∈ ygw := ymem 787 (by decide +kernel) rfl
set_option maxRecDepth 100000 in
theorem qcFf_tear : Jvm.Cond.code tFf_tear.1.1 tFf_tear.1.2.1 tFf_tear.1.2.2.1 tFf_tear.1.2.2.2 ∈ ygw := ymem 800 rfl rfl
theorem qiFf_tear : Jvm.Cond.instanceMethod tFf_tear.1.1 ∈ ygw := ymem 798 (by decide +kernel) rfl
theorem qlFf_tear : Jvm.Cond.selects tFf_tear.1.1.cls tFf_tear.1.1 tFf_tear.1.1 ∈ ygw := ymem 799 (by decide +kernel) rfl
set_option maxRecDepth 100000 in
theorem qcFf_seed : Jvm.Cond.code tFf_seed.1.1 tFf_seed.1.2.1 tFf_seed.1.2.2.1 tFf_seed.1.2.2.2 ∈ ygw := ymem 804 rfl rfl
theorem qiFf_seed : Jvm.Cond.instanceMethod tFf_seed.1.1 ∈ ygw := ymem 802 (by decide +kernel) rfl
theorem qlFf_seed : Jvm.Cond.selects tFf_seed.1.1.cls tFf_seed.1.1 tFf_seed.1.1 ∈ ygw := ymem 803 (by decide +kernel) rfl
set_option maxRecDepth 100000 in
theorem qcFf_keep : Jvm.Cond.code tFf_keep.1.1 tFf_keep.1.2.1 tFf_keep.1.2.2.1 tFf_keep.1.2.2.2 ∈ ygw := ymem 808 rfl rfl
theorem qiFf_keep : Jvm.Cond.instanceMethod tFf_keep.1.1 ∈ ygw := ymem 806 (by decide +kernel) rfl
theorem qlFf_keep : Jvm.Cond.selects tFf_keep.1.1.cls tFf_keep.1.1 tFf_keep.1.1 ∈ ygw := ymem 807 (by decide +kernel) rfl
set_option maxRecDepth 100000 in
theorem qcFf_goBack : Jvm.Cond.code tFf_goBack.1.1 tFf_goBack.1.2.1 tFf_goBack.1.2.2.1 tFf_goBack.1.2.2.2 ∈ ygw := ymem 812 rfl rfl
theorem qiFf_goBack : Jvm.Cond.instanceMethod tFf_goBack.1.1 ∈ ygw := ymem 810 (by decide +kernel) rfl
theorem qlFf_goBack : Jvm.Cond.selects tFf_goBack.1.1.cls tFf_goBack.1.1 tFf_goBack.1.1 ∈ ygw := ymem 811 (by decide +kernel) rfl
set_option maxRecDepth 100000 in
theorem qcFf_isPerson : Jvm.Cond.code tFf_isPerson.1.1 tFf_isPerson.1.2.1 tFf_isPerson.1.2.2.1 tFf_isPerson.1.2.2.2 ∈ ygw := ymem 511 rfl rfl
theorem qiFf_isPerson : Jvm.Cond.instanceMethod tFf_isPerson.1.1 ∈ ygw := ymem 510 (by decide +kernel) rfl
theorem qlFf_isPerson : Jvm.Cond.selects tFf_isPerson.1.1.cls tFf_isPerson.1.1 tFf_isPerson.1.1 ∈ ygw := ymemS (n := 13) 30 (by decide +kernel) rfl
set_option maxRecDepth 100000 in
theorem qcFf_isStove : Jvm.Cond.code tFf_isStove.1.1 tFf_isStove.1.2.1 tFf_isStove.1.2.2.1 tFf_isStove.1.2.2.2 ∈ ygw := ymem 499 rfl rfl
theorem qiFf_isStove : Jvm.Cond.instanceMethod tFf_isStove.1.1 ∈ ygw := ymem 498 (by decide +kernel) rfl
theorem qlFf_isStove : Jvm.Cond.selects tFf_isStove.1.1.cls tFf_isStove.1.1 tFf_isStove.1.1 ∈ ygw := ymemS (n := 13) 28 (by decide +kernel) rfl
set_option maxRecDepth 100000 in
theorem qcFf_isLaw : Jvm.Cond.code tFf_isLaw.1.1 tFf_isLaw.1.2.1 tFf_isLaw.1.2.2.1 tFf_isLaw.1.2.2.2 ∈ ygw := ymem 549 rfl rfl
theorem qsFf_isLaw : Jvm.Cond.static tFf_isLaw.1.1 ∈ ygw := ymem 548 (by decide +kernel) rfl
set_option maxRecDepth 100000 in
theorem qcFf_isSpan : Jvm.Cond.code tFf_isSpan.1.1 tFf_isSpan.1.2.1 tFf_isSpan.1.2.2.1 tFf_isSpan.1.2.2.2 ∈ ygw := ymem 564 rfl rfl
theorem qsFf_isSpan : Jvm.Cond.static tFf_isSpan.1.1 ∈ ygw := ymem 563 (by decide +kernel) rfl
set_option maxRecDepth 100000 in
theorem qcFf_refusalOfWall : Jvm.Cond.code tFf_refusalOfWall.1.1 tFf_refusalOfWall.1.2.1 tFf_refusalOfWall.1.2.2.1 tFf_refusalOfWall.1.2.2.2 ∈ ygw := ymem 488 rfl rfl
theorem qiFf_refusalOfWall : Jvm.Cond.instanceMethod tFf_refusalOfWall.1.1 ∈ ygw := ymem 487 (by decide +kernel) rfl
theorem qlFf_refusalOfWall : Jvm.Cond.selects tFf_refusalOfWall.1.1.cls tFf_refusalOfWall.1.1 tFf_refusalOfWall.1.1 ∈ ygw := ymemS (n := 13) 27 (by decide +kernel) rfl
set_option maxRecDepth 100000 in
theorem qcFf_refusalOfMinutes : Jvm.Cond.code tFf_refusalOfMinutes.1.1 tFf_refusalOfMinutes.1.2.1 tFf_refusalOfMinutes.1.2.2.1 tFf_refusalOfMinutes.1.2.2.2 ∈ ygw := ymem 561 rfl rfl
theorem qiFf_refusalOfMinutes : Jvm.Cond.instanceMethod tFf_refusalOfMinutes.1.1 ∈ ygw := ymem 560 (by decide +kernel) rfl
theorem qlFf_refusalOfMinutes : Jvm.Cond.selects tFf_refusalOfMinutes.1.1.cls tFf_refusalOfMinutes.1.1 tFf_refusalOfMinutes.1.1 ∈ ygw := ymemS (n := 13) 34 (by decide +kernel) rfl
set_option maxRecDepth 100000 in
theorem qcFf_refusalOfLighting : Jvm.Cond.code tFf_refusalOfLighting.1.1 tFf_refusalOfLighting.1.2.1 tFf_refusalOfLighting.1.2.2.1 tFf_refusalOfLighting.1.2.2.2 ∈ ygw := ymem 686 rfl rfl
theorem qiFf_refusalOfLighting : Jvm.Cond.instanceMethod tFf_refusalOfLighting.1.1 ∈ ygw := ymem 685 (by decide +kernel) rfl
theorem qlFf_refusalOfLighting : Jvm.Cond.selects tFf_refusalOfLighting.1.1.cls tFf_refusalOfLighting.1.1 tFf_refusalOfLighting.1.1 ∈ ygw := ymemS (n := 13) 56 (by decide +kernel) rfl
set_option maxRecDepth 100000 in
theorem qcFf_wayOfWall : Jvm.Cond.code tFf_wayOfWall.1.1 tFf_wayOfWall.1.2.1 tFf_wayOfWall.1.2.2.1 tFf_wayOfWall.1.2.2.2 ∈ ygw := ymem 413 rfl rfl
theorem qsFf_wayOfWall : Jvm.Cond.static tFf_wayOfWall.1.1 ∈ ygw := ymem 412 (by decide +kernel) rfl
set_option maxRecDepth 100000 in
theorem qcFf_wander : Jvm.Cond.code tFf_wander.1.1 tFf_wander.1.2.1 tFf_wander.1.2.2.1 tFf_wander.1.2.2.2 ∈ ygw := ymem 644 rfl rfl
theorem qiFf_wander : Jvm.Cond.instanceMethod tFf_wander.1.1 ∈ ygw := ymem 643 (by decide +kernel) rfl
theorem qlFf_wander : Jvm.Cond.selects tFf_wander.1.1.cls tFf_wander.1.1 tFf_wander.1.1 ∈ ygw := ymemS (n := 13) 51 (by decide +kernel) rfl
set_option maxRecDepth 100000 in
theorem qcFf_ownsStove : Jvm.Cond.code tFf_ownsStove.1.1 tFf_ownsStove.1.2.1 tFf_ownsStove.1.2.2.1 tFf_ownsStove.1.2.2.2 ∈ ygw := ymem 690 rfl rfl
theorem qiFf_ownsStove : Jvm.Cond.instanceMethod tFf_ownsStove.1.1 ∈ ygw := ymem 689 (by decide +kernel) rfl
theorem qlFf_ownsStove : Jvm.Cond.selects tFf_ownsStove.1.1.cls tFf_ownsStove.1.1 tFf_ownsStove.1.1 ∈ ygw := ymemS (n := 13) 57 (by decide +kernel) rfl
set_option maxRecDepth 100000 in
theorem qcFf_ownedWithWall : Jvm.Cond.code tFf_ownedWithWall.1.1 tFf_ownedWithWall.1.2.1 tFf_ownedWithWall.1.2.2.1 tFf_ownedWithWall.1.2.2.2 ∈ ygw := ymem 702 rfl rfl
theorem qiFf_ownedWithWall : Jvm.Cond.instanceMethod tFf_ownedWithWall.1.1 ∈ ygw := ymem 701 (by decide +kernel) rfl
theorem qlFf_ownedWithWall : Jvm.Cond.selects tFf_ownedWithWall.1.1.cls tFf_ownedWithWall.1.1 tFf_ownedWithWall.1.1 ∈ ygw := ymemS (n := 13) 58 (by decide +kernel) rfl
set_option maxRecDepth 100000 in
theorem qcFf_countFreezing : Jvm.Cond.code tFf_countFreezing.1.1 tFf_countFreezing.1.2.1 tFf_countFreezing.1.2.2.1 tFf_countFreezing.1.2.2.2 ∈ ygw := ymem 762 rfl rfl
theorem qiFf_countFreezing : Jvm.Cond.instanceMethod tFf_countFreezing.1.1 ∈ ygw := ymem 761 (by decide +kernel) rfl
theorem qlFf_countFreezing : Jvm.Cond.selects tFf_countFreezing.1.1.cls tFf_countFreezing.1.1 tFf_countFreezing.1.1 ∈ ygw := ymemS (n := 13) 68 (by decide +kernel) rfl
set_option maxRecDepth 100000 in
theorem qcFf_fitsLitNow : Jvm.Cond.code tFf_fitsLitNow.1.1 tFf_fitsLitNow.1.2.1 tFf_fitsLitNow.1.2.2.1 tFf_fitsLitNow.1.2.2.2 ∈ ygw := ymem 792 rfl rfl
theorem qiFf_fitsLitNow : Jvm.Cond.instanceMethod tFf_fitsLitNow.1.1 ∈ ygw := ymem 791 (by decide +kernel) rfl
theorem qlFf_fitsLitNow : Jvm.Cond.selects tFf_fitsLitNow.1.1.cls tFf_fitsLitNow.1.1 tFf_fitsLitNow.1.1 ∈ ygw := ymemS (n := 13) 71 (by decide +kernel) rfl
set_option maxRecDepth 100000 in
theorem qcFf_tryWays : Jvm.Cond.code tFf_tryWays.1.1 tFf_tryWays.1.2.1 tFf_tryWays.1.2.2.1 tFf_tryWays.1.2.2.2 ∈ ygw := ymem 673 rfl rfl
theorem qsFf_tryWays : Jvm.Cond.static tFf_tryWays.1.1 ∈ ygw := ymem 672 (by decide +kernel) rfl
set_option maxRecDepth 100000 in
theorem qcMo_init : Jvm.Cond.code tMo_init.1.1 tMo_init.1.2.1 tMo_init.1.2.2.1 tMo_init.1.2.2.2 ∈ ygw := ymem 817 rfl rfl
theorem qiMo_init : Jvm.Cond.instanceMethod tMo_init.1.1 ∈ ygw := ymem 816 (by decide +kernel) rfl
set_option maxRecDepth 100000 in
theorem qcMo_in : Jvm.Cond.code tMo_in.1.1 tMo_in.1.2.1 tMo_in.1.2.2.1 tMo_in.1.2.2.2 ∈ ygw := ymem 988 rfl rfl
theorem qsMo_in : Jvm.Cond.static tMo_in.1.1 ∈ ygw := ymem 987 (by decide +kernel) rfl
set_option maxRecDepth 100000 in
theorem qcMo_emptyNow : Jvm.Cond.code tMo_emptyNow.1.1 tMo_emptyNow.1.2.1 tMo_emptyNow.1.2.2.1 tMo_emptyNow.1.2.2.2 ∈ ygw := ymem 822 rfl rfl
theorem qiMo_emptyNow : Jvm.Cond.instanceMethod tMo_emptyNow.1.1 ∈ ygw := ymem 821 (by decide +kernel) rfl
theorem qlMo_emptyNow : Jvm.Cond.selects tMo_emptyNow.1.1.cls tMo_emptyNow.1.1 tMo_emptyNow.1.1 ∈ ygw := ymemS (n := 52) 73 (by decide +kernel) rfl
set_option maxRecDepth 100000 in
theorem qcMo_cells : Jvm.Cond.code tMo_cells.1.1 tMo_cells.1.2.1 tMo_cells.1.2.2.1 tMo_cells.1.2.2.2 ∈ ygw := ymem 1065 rfl rfl
theorem qiMo_cells : Jvm.Cond.instanceMethod tMo_cells.1.1 ∈ ygw := ymem 1064 (by decide +kernel) rfl
theorem qlMo_cells : Jvm.Cond.selects tMo_cells.1.1.cls tMo_cells.1.1 tMo_cells.1.1 ∈ ygw := ymemS (n := 52) 89 (by decide +kernel) rfl
set_option maxRecDepth 100000 in
theorem qcMo_isCell : Jvm.Cond.code tMo_isCell.1.1 tMo_isCell.1.2.1 tMo_isCell.1.2.2.1 tMo_isCell.1.2.2.2 ∈ ygw := ymem 1089 rfl rfl
theorem qiMo_isCell : Jvm.Cond.instanceMethod tMo_isCell.1.1 ∈ ygw := ymem 1088 (by decide +kernel) rfl
theorem qlMo_isCell : Jvm.Cond.selects tMo_isCell.1.1.cls tMo_isCell.1.1 tMo_isCell.1.1 ∈ ygw := ymemS (n := 52) 92 (by decide +kernel) rfl
set_option maxRecDepth 100000 in
theorem qcMo_isPerson : Jvm.Cond.code tMo_isPerson.1.1 tMo_isPerson.1.2.1 tMo_isPerson.1.2.2.1 tMo_isPerson.1.2.2.2 ∈ ygw := ymem 1122 rfl rfl
theorem qiMo_isPerson : Jvm.Cond.instanceMethod tMo_isPerson.1.1 ∈ ygw := ymem 1121 (by decide +kernel) rfl
theorem qlMo_isPerson : Jvm.Cond.selects tMo_isPerson.1.1.cls tMo_isPerson.1.1 tMo_isPerson.1.1 ∈ ygw := ymemS (n := 52) 97 (by decide +kernel) rfl
set_option maxRecDepth 100000 in
theorem qcMo_isStove : Jvm.Cond.code tMo_isStove.1.1 tMo_isStove.1.2.1 tMo_isStove.1.2.2.1 tMo_isStove.1.2.2.2 ∈ ygw := ymem 1110 rfl rfl
theorem qiMo_isStove : Jvm.Cond.instanceMethod tMo_isStove.1.1 ∈ ygw := ymem 1109 (by decide +kernel) rfl
theorem qlMo_isStove : Jvm.Cond.selects tMo_isStove.1.1.cls tMo_isStove.1.1 tMo_isStove.1.1 ∈ ygw := ymemS (n := 52) 95 (by decide +kernel) rfl
set_option maxRecDepth 100000 in
theorem qcMo_named : Jvm.Cond.code tMo_named.1.1 tMo_named.1.2.1 tMo_named.1.2.2.1 tMo_named.1.2.2.2 ∈ ygw := ymem 1114 rfl rfl
theorem qiMo_named : Jvm.Cond.instanceMethod tMo_named.1.1 ∈ ygw := ymem 1113 (by decide +kernel) rfl
theorem qlMo_named : Jvm.Cond.selects tMo_named.1.1.cls tMo_named.1.1 tMo_named.1.1 ∈ ygw := ymemS (n := 52) 96 (by decide +kernel) rfl
set_option maxRecDepth 100000 in
theorem qcMo_cellOf : Jvm.Cond.code tMo_cellOf.1.1 tMo_cellOf.1.2.1 tMo_cellOf.1.2.2.1 tMo_cellOf.1.2.2.2 ∈ ygw := ymem 1303 rfl rfl
theorem qiMo_cellOf : Jvm.Cond.instanceMethod tMo_cellOf.1.1 ∈ ygw := ymem 1302 (by decide +kernel) rfl
theorem qlMo_cellOf : Jvm.Cond.selects tMo_cellOf.1.1.cls tMo_cellOf.1.1 tMo_cellOf.1.1 ∈ ygw := ymemS (n := 52) 123 (by decide +kernel) rfl
set_option maxRecDepth 100000 in
theorem qcMo_feed : Jvm.Cond.code tMo_feed.1.1 tMo_feed.1.2.1 tMo_feed.1.2.2.1 tMo_feed.1.2.2.2 ∈ ygw := ymem 984 rfl rfl
theorem qiMo_feed : Jvm.Cond.instanceMethod tMo_feed.1.1 ∈ ygw := ymem 982 (by decide +kernel) rfl
theorem qlMo_feed : Jvm.Cond.selects tMo_feed.1.1.cls tMo_feed.1.1 tMo_feed.1.1 ∈ ygw := ymem 983 (by decide +kernel) rfl
set_option maxRecDepth 100000 in
theorem qcMo_isFigure : Jvm.Cond.code tMo_isFigure.1.1 tMo_isFigure.1.2.1 tMo_isFigure.1.2.2.1 tMo_isFigure.1.2.2.2 ∈ ygw := ymem 1005 rfl rfl
theorem qsMo_isFigure : Jvm.Cond.static tMo_isFigure.1.1 ∈ ygw := ymem 1004 (by decide +kernel) rfl
set_option maxRecDepth 100000 in
theorem qcMo_look : Jvm.Cond.code tMo_look.1.1 tMo_look.1.2.1 tMo_look.1.2.2.1 tMo_look.1.2.2.2 ∈ ygw := ymem 1002 rfl rfl
theorem qiMo_look : Jvm.Cond.instanceMethod tMo_look.1.1 ∈ ygw := ymem 1001 (by decide +kernel) rfl
theorem qlMo_look : Jvm.Cond.selects tMo_look.1.1.cls tMo_look.1.1 tMo_look.1.1 ∈ ygw := ymemS (n := 52) 75 (by decide +kernel) rfl
set_option maxRecDepth 100000 in
theorem qcMo_goOn : Jvm.Cond.code tMo_goOn.1.1 tMo_goOn.1.2.1 tMo_goOn.1.2.2.1 tMo_goOn.1.2.2.2 ∈ ygw := ymem 1020 rfl rfl
theorem qiMo_goOn : Jvm.Cond.instanceMethod tMo_goOn.1.1 ∈ ygw := ymem 1019 (by decide +kernel) rfl
theorem qlMo_goOn : Jvm.Cond.selects tMo_goOn.1.1.cls tMo_goOn.1.1 tMo_goOn.1.1 ∈ ygw := ymemS (n := 52) 78 (by decide +kernel) rfl
set_option maxRecDepth 100000 in
theorem qcMo_faults : Jvm.Cond.code tMo_faults.1.1 tMo_faults.1.2.1 tMo_faults.1.2.2.1 tMo_faults.1.2.2.2 ∈ ygw := ymem 1016 rfl rfl
theorem qiMo_faults : Jvm.Cond.instanceMethod tMo_faults.1.1 ∈ ygw := ymem 1015 (by decide +kernel) rfl
theorem qlMo_faults : Jvm.Cond.selects tMo_faults.1.1.cls tMo_faults.1.1 tMo_faults.1.1 ∈ ygw := ymemS (n := 52) 77 (by decide +kernel) rfl
set_option maxRecDepth 100000 in
theorem qcMo_takes : Jvm.Cond.code tMo_takes.1.1 tMo_takes.1.2.1 tMo_takes.1.2.2.1 tMo_takes.1.2.2.2 ∈ ygw := ymem 1024 rfl rfl
theorem qiMo_takes : Jvm.Cond.instanceMethod tMo_takes.1.1 ∈ ygw := ymem 1023 (by decide +kernel) rfl
theorem qlMo_takes : Jvm.Cond.selects tMo_takes.1.1.cls tMo_takes.1.1 tMo_takes.1.1 ∈ ygw := ymemS (n := 52) 79 (by decide +kernel) rfl
set_option maxRecDepth 100000 in
theorem qcMo_stops : Jvm.Cond.code tMo_stops.1.1 tMo_stops.1.2.1 tMo_stops.1.2.2.1 tMo_stops.1.2.2.2 ∈ ygw := ymem 1029 rfl rfl
theorem qiMo_stops : Jvm.Cond.instanceMethod tMo_stops.1.1 ∈ ygw := ymem 1028 (by decide +kernel) rfl
theorem qlMo_stops : Jvm.Cond.selects tMo_stops.1.1.cls tMo_stops.1.1 tMo_stops.1.1 ∈ ygw := ymemS (n := 52) 80 (by decide +kernel) rfl
set_option maxRecDepth 100000 in
theorem qcMo_takesX : Jvm.Cond.code tMo_takesX.1.1 tMo_takesX.1.2.1 tMo_takesX.1.2.2.1 tMo_takesX.1.2.2.2 ∈ ygw := ymem 1041 rfl rfl
theorem qiMo_takesX : Jvm.Cond.instanceMethod tMo_takesX.1.1 ∈ ygw := ymem 1040 (by decide +kernel) rfl
theorem qlMo_takesX : Jvm.Cond.selects tMo_takesX.1.1.cls tMo_takesX.1.1 tMo_takesX.1.1 ∈ ygw := ymemS (n := 52) 83 (by decide +kernel) rfl
set_option maxRecDepth 100000 in
theorem qcMo_seesY : Jvm.Cond.code tMo_seesY.1.1 tMo_seesY.1.2.1 tMo_seesY.1.2.2.1 tMo_seesY.1.2.2.2 ∈ ygw := ymem 1045 rfl rfl
theorem qiMo_seesY : Jvm.Cond.instanceMethod tMo_seesY.1.1 ∈ ygw := ymem 1044 (by decide +kernel) rfl
theorem qlMo_seesY : Jvm.Cond.selects tMo_seesY.1.1.cls tMo_seesY.1.1 tMo_seesY.1.1 ∈ ygw := ymemS (n := 52) 84 (by decide +kernel) rfl
set_option maxRecDepth 100000 in
theorem qcMo_readsTown : Jvm.Cond.code tMo_readsTown.1.1 tMo_readsTown.1.2.1 tMo_readsTown.1.2.2.1 tMo_readsTown.1.2.2.2 ∈ ygw := ymem 1012 rfl rfl
theorem qiMo_readsTown : Jvm.Cond.instanceMethod tMo_readsTown.1.1 ∈ ygw := ymem 1011 (by decide +kernel) rfl
theorem qlMo_readsTown : Jvm.Cond.selects tMo_readsTown.1.1.cls tMo_readsTown.1.1 tMo_readsTown.1.1 ∈ ygw := ymemS (n := 52) 76 (by decide +kernel) rfl
set_option maxRecDepth 100000 in
theorem qcMo_readsWall : Jvm.Cond.code tMo_readsWall.1.1 tMo_readsWall.1.2.1 tMo_readsWall.1.2.2.1 tMo_readsWall.1.2.2.2 ∈ ygw := ymem 1037 rfl rfl
theorem qiMo_readsWall : Jvm.Cond.instanceMethod tMo_readsWall.1.1 ∈ ygw := ymem 1036 (by decide +kernel) rfl
theorem qlMo_readsWall : Jvm.Cond.selects tMo_readsWall.1.1.cls tMo_readsWall.1.1 tMo_readsWall.1.1 ∈ ygw := ymemS (n := 52) 82 (by decide +kernel) rfl
set_option maxRecDepth 100000 in
theorem qcMo_readsStove : Jvm.Cond.code tMo_readsStove.1.1 tMo_readsStove.1.2.1 tMo_readsStove.1.2.2.1 tMo_readsStove.1.2.2.2 ∈ ygw := ymem 1049 rfl rfl
theorem qiMo_readsStove : Jvm.Cond.instanceMethod tMo_readsStove.1.1 ∈ ygw := ymem 1048 (by decide +kernel) rfl
theorem qlMo_readsStove : Jvm.Cond.selects tMo_readsStove.1.1.cls tMo_readsStove.1.1 tMo_readsStove.1.1 ∈ ygw := ymemS (n := 52) 85 (by decide +kernel) rfl
set_option maxRecDepth 100000 in
theorem qcMo_readsRoof : Jvm.Cond.code tMo_readsRoof.1.1 tMo_readsRoof.1.2.1 tMo_readsRoof.1.2.2.1 tMo_readsRoof.1.2.2.2 ∈ ygw := ymem 1053 rfl rfl
theorem qiMo_readsRoof : Jvm.Cond.instanceMethod tMo_readsRoof.1.1 ∈ ygw := ymem 1052 (by decide +kernel) rfl
theorem qlMo_readsRoof : Jvm.Cond.selects tMo_readsRoof.1.1.cls tMo_readsRoof.1.1 tMo_readsRoof.1.1 ∈ ygw := ymemS (n := 52) 86 (by decide +kernel) rfl
set_option maxRecDepth 100000 in
theorem qcMo_readsSun : Jvm.Cond.code tMo_readsSun.1.1 tMo_readsSun.1.2.1 tMo_readsSun.1.2.2.1 tMo_readsSun.1.2.2.2 ∈ ygw := ymem 1057 rfl rfl
theorem qiMo_readsSun : Jvm.Cond.instanceMethod tMo_readsSun.1.1 ∈ ygw := ymem 1056 (by decide +kernel) rfl
theorem qlMo_readsSun : Jvm.Cond.selects tMo_readsSun.1.1.cls tMo_readsSun.1.1 tMo_readsSun.1.1 ∈ ygw := ymemS (n := 52) 87 (by decide +kernel) rfl
set_option maxRecDepth 100000 in
theorem qcMo_readsPerson : Jvm.Cond.code tMo_readsPerson.1.1 tMo_readsPerson.1.2.1 tMo_readsPerson.1.2.2.1 tMo_readsPerson.1.2.2.2 ∈ ygw := ymem 1061 rfl rfl
theorem qiMo_readsPerson : Jvm.Cond.instanceMethod tMo_readsPerson.1.1 ∈ ygw := ymem 1060 (by decide +kernel) rfl
theorem qlMo_readsPerson : Jvm.Cond.selects tMo_readsPerson.1.1.cls tMo_readsPerson.1.1 tMo_readsPerson.1.1 ∈ ygw := ymemS (n := 52) 88 (by decide +kernel) rfl
set_option maxRecDepth 100000 in
theorem qcMo_readsClause : Jvm.Cond.code tMo_readsClause.1.1 tMo_readsClause.1.2.1 tMo_readsClause.1.2.2.1 tMo_readsClause.1.2.2.2 ∈ ygw := ymem 1033 rfl rfl
theorem qiMo_readsClause : Jvm.Cond.instanceMethod tMo_readsClause.1.1 ∈ ygw := ymem 1032 (by decide +kernel) rfl
theorem qlMo_readsClause : Jvm.Cond.selects tMo_readsClause.1.1.cls tMo_readsClause.1.1 tMo_readsClause.1.1 ∈ ygw := ymemS (n := 52) 81 (by decide +kernel) rfl
set_option maxRecDepth 100000 in
theorem qcMo_readsAll : Jvm.Cond.code tMo_readsAll.1.1 tMo_readsAll.1.2.1 tMo_readsAll.1.2.2.1 tMo_readsAll.1.2.2.2 ∈ ygw := ymem 998 rfl rfl
theorem qiMo_readsAll : Jvm.Cond.instanceMethod tMo_readsAll.1.1 ∈ ygw := ymem 997 (by decide +kernel) rfl
theorem qlMo_readsAll : Jvm.Cond.selects tMo_readsAll.1.1.cls tMo_readsAll.1.1 tMo_readsAll.1.1 ∈ ygw := ymemS (n := 52) 74 (by decide +kernel) rfl
set_option maxRecDepth 100000 in
theorem qcMo_town : Jvm.Cond.code tMo_town.1.1 tMo_town.1.2.1 tMo_town.1.2.2.1 tMo_town.1.2.2.2 ∈ ygw := ymem 994 rfl rfl
theorem qiMo_town : Jvm.Cond.instanceMethod tMo_town.1.1 ∈ ygw := ymem 992 (by decide +kernel) rfl
theorem qlMo_town : Jvm.Cond.selects tMo_town.1.1.cls tMo_town.1.1 tMo_town.1.1 ∈ ygw := ymem 993 (by decide +kernel) rfl
set_option maxRecDepth 100000 in
theorem qcMo_fault : Jvm.Cond.code tMo_fault.1.1 tMo_fault.1.2.1 tMo_fault.1.2.2.1 tMo_fault.1.2.2.2 ∈ ygw := ymem 1069 rfl rfl
theorem qiMo_fault : Jvm.Cond.instanceMethod tMo_fault.1.1 ∈ ygw := ymem 1067 (by decide +kernel) rfl
theorem qlMo_fault : Jvm.Cond.selects tMo_fault.1.1.cls tMo_fault.1.1 tMo_fault.1.1 ∈ ygw := ymem 1068 (by decide +kernel) rfl
set_option maxRecDepth 100000 in
theorem qcMo_wallsNow : Jvm.Cond.code tMo_wallsNow.1.1 tMo_wallsNow.1.2.1 tMo_wallsNow.1.2.2.1 tMo_wallsNow.1.2.2.2 ∈ ygw := ymem 1077 rfl rfl
theorem qiMo_wallsNow : Jvm.Cond.instanceMethod tMo_wallsNow.1.1 ∈ ygw := ymem 1076 (by decide +kernel) rfl
theorem qlMo_wallsNow : Jvm.Cond.selects tMo_wallsNow.1.1.cls tMo_wallsNow.1.1 tMo_wallsNow.1.1 ∈ ygw := ymemS (n := 52) 90 (by decide +kernel) rfl
set_option maxRecDepth 100000 in
theorem qcMo_sunAt : Jvm.Cond.code tMo_sunAt.1.1 tMo_sunAt.1.2.1 tMo_sunAt.1.2.2.1 tMo_sunAt.1.2.2.2 ∈ ygw := ymem 1081 rfl rfl
theorem qiMo_sunAt : Jvm.Cond.instanceMethod tMo_sunAt.1.1 ∈ ygw := ymem 1080 (by decide +kernel) rfl
theorem qlMo_sunAt : Jvm.Cond.selects tMo_sunAt.1.1.cls tMo_sunAt.1.1 tMo_sunAt.1.1 ∈ ygw := ymemS (n := 52) 91 (by decide +kernel) rfl
set_option maxRecDepth 100000 in
theorem qcMo_told : Jvm.Cond.code tMo_told.1.1 tMo_told.1.2.1 tMo_told.1.2.2.1 tMo_told.1.2.2.2 ∈ ygw := ymem 1073 rfl rfl
theorem qiMo_told : Jvm.Cond.instanceMethod tMo_told.1.1 ∈ ygw := ymem 1071 (by decide +kernel) rfl
theorem qlMo_told : Jvm.Cond.selects tMo_told.1.1.cls tMo_told.1.1 tMo_told.1.1 ∈ ygw := ymem 1072 (by decide +kernel) rfl
set_option maxRecDepth 100000 in
theorem qcMo_onCell : Jvm.Cond.code tMo_onCell.1.1 tMo_onCell.1.2.1 tMo_onCell.1.2.2.1 tMo_onCell.1.2.2.2 ∈ ygw := ymem 1094 rfl rfl
theorem qiMo_onCell : Jvm.Cond.instanceMethod tMo_onCell.1.1 ∈ ygw := ymem 1093 (by decide +kernel) rfl
theorem qlMo_onCell : Jvm.Cond.selects tMo_onCell.1.1.cls tMo_onCell.1.1 tMo_onCell.1.1 ∈ ygw := ymemS (n := 52) 93 (by decide +kernel) rfl
set_option maxRecDepth 100000 in
theorem qcMo_cell : Jvm.Cond.code tMo_cell.1.1 tMo_cell.1.2.1 tMo_cell.1.2.2.1 tMo_cell.1.2.2.2 ∈ ygw := ymem 1085 rfl rfl
theorem qiMo_cell : Jvm.Cond.instanceMethod tMo_cell.1.1 ∈ ygw := ymem 1083 (by decide +kernel) rfl
theorem qlMo_cell : Jvm.Cond.selects tMo_cell.1.1.cls tMo_cell.1.1 tMo_cell.1.1 ∈ ygw := ymem 1084 (by decide +kernel) rfl
set_option maxRecDepth 100000 in
theorem qcMo_notWall : Jvm.Cond.code tMo_notWall.1.1 tMo_notWall.1.2.1 tMo_notWall.1.2.2.1 tMo_notWall.1.2.2.2 ∈ ygw := ymem 1102 rfl rfl
theorem qiMo_notWall : Jvm.Cond.instanceMethod tMo_notWall.1.1 ∈ ygw := ymem 1101 (by decide +kernel) rfl
theorem qlMo_notWall : Jvm.Cond.selects tMo_notWall.1.1.cls tMo_notWall.1.1 tMo_notWall.1.1 ∈ ygw := ymemS (n := 52) 94 (by decide +kernel) rfl
set_option maxRecDepth 100000 in
theorem qcMo_wall : Jvm.Cond.code tMo_wall.1.1 tMo_wall.1.2.1 tMo_wall.1.2.2.1 tMo_wall.1.2.2.2 ∈ ygw := ymem 1098 rfl rfl
theorem qiMo_wall : Jvm.Cond.instanceMethod tMo_wall.1.1 ∈ ygw := ymem 1096 (by decide +kernel) rfl
theorem qlMo_wall : Jvm.Cond.selects tMo_wall.1.1.cls tMo_wall.1.1 tMo_wall.1.1 ∈ ygw := ymem 1097 (by decide +kernel) rfl
set_option maxRecDepth 100000 in
theorem qcMo_stove : Jvm.Cond.code tMo_stove.1.1 tMo_stove.1.2.1 tMo_stove.1.2.2.1 tMo_stove.1.2.2.2 ∈ ygw := ymem 1106 rfl rfl
theorem qiMo_stove : Jvm.Cond.instanceMethod tMo_stove.1.1 ∈ ygw := ymem 1104 (by decide +kernel) rfl
theorem qlMo_stove : Jvm.Cond.selects tMo_stove.1.1.cls tMo_stove.1.1 tMo_stove.1.1 ∈ ygw := ymem 1105 (by decide +kernel) rfl
set_option maxRecDepth 100000 in
theorem qcMo_owns : Jvm.Cond.code tMo_owns.1.1 tMo_owns.1.2.1 tMo_owns.1.2.2.1 tMo_owns.1.2.2.2 ∈ ygw := ymem 1126 rfl rfl
theorem qiMo_owns : Jvm.Cond.instanceMethod tMo_owns.1.1 ∈ ygw := ymem 1125 (by decide +kernel) rfl
theorem qlMo_owns : Jvm.Cond.selects tMo_owns.1.1.cls tMo_owns.1.1 tMo_owns.1.1 ∈ ygw := ymemS (n := 52) 98 (by decide +kernel) rfl
set_option maxRecDepth 100000 in
theorem qcMo_person : Jvm.Cond.code tMo_person.1.1 tMo_person.1.2.1 tMo_person.1.2.2.1 tMo_person.1.2.2.2 ∈ ygw := ymem 1118 rfl rfl
theorem qiMo_person : Jvm.Cond.instanceMethod tMo_person.1.1 ∈ ygw := ymem 1116 (by decide +kernel) rfl
theorem qlMo_person : Jvm.Cond.selects tMo_person.1.1.cls tMo_person.1.1 tMo_person.1.1 ∈ ygw := ymem 1117 (by decide +kernel) rfl
set_option maxRecDepth 100000 in
theorem qcMo_way : Jvm.Cond.code tMo_way.1.1 tMo_way.1.2.1 tMo_way.1.2.2.1 tMo_way.1.2.2.2 ∈ ygw := ymem 1135 rfl rfl
theorem qiMo_way : Jvm.Cond.instanceMethod tMo_way.1.1 ∈ ygw := ymem 1134 (by decide +kernel) rfl
theorem qlMo_way : Jvm.Cond.selects tMo_way.1.1.cls tMo_way.1.1 tMo_way.1.1 ∈ ygw := ymemS (n := 52) 99 (by decide +kernel) rfl
set_option maxRecDepth 100000 in
theorem qcMo_go : Jvm.Cond.code tMo_go.1.1 tMo_go.1.2.1 tMo_go.1.2.2.1 tMo_go.1.2.2.2 ∈ ygw := ymem 1130 rfl rfl
theorem qiMo_go : Jvm.Cond.instanceMethod tMo_go.1.1 ∈ ygw := ymem 1128 (by decide +kernel) rfl
theorem qlMo_go : Jvm.Cond.selects tMo_go.1.1.cls tMo_go.1.1 tMo_go.1.1 ∈ ygw := ymem 1129 (by decide +kernel) rfl
set_option maxRecDepth 100000 in
theorem qcMo_build : Jvm.Cond.code tMo_build.1.1 tMo_build.1.2.1 tMo_build.1.2.2.1 tMo_build.1.2.2.2 ∈ ygw := ymem 1140 rfl rfl
theorem qiMo_build : Jvm.Cond.instanceMethod tMo_build.1.1 ∈ ygw := ymem 1138 (by decide +kernel) rfl
theorem qlMo_build : Jvm.Cond.selects tMo_build.1.1.cls tMo_build.1.1 tMo_build.1.1 ∈ ygw := ymem 1139 (by decide +kernel) rfl
set_option maxRecDepth 100000 in
theorem qcMo_canBeLit : Jvm.Cond.code tMo_canBeLit.1.1 tMo_canBeLit.1.2.1 tMo_canBeLit.1.2.2.1 tMo_canBeLit.1.2.2.2 ∈ ygw := ymem 1148 rfl rfl
theorem qiMo_canBeLit : Jvm.Cond.instanceMethod tMo_canBeLit.1.1 ∈ ygw := ymem 1147 (by decide +kernel) rfl
theorem qlMo_canBeLit : Jvm.Cond.selects tMo_canBeLit.1.1.cls tMo_canBeLit.1.1 tMo_canBeLit.1.1 ∈ ygw := ymemS (n := 52) 100 (by decide +kernel) rfl
set_option maxRecDepth 100000 in
theorem qcMo_light : Jvm.Cond.code tMo_light.1.1 tMo_light.1.2.1 tMo_light.1.2.2.1 tMo_light.1.2.2.2 ∈ ygw := ymem 1144 rfl rfl
theorem qiMo_light : Jvm.Cond.instanceMethod tMo_light.1.1 ∈ ygw := ymem 1142 (by decide +kernel) rfl
theorem qlMo_light : Jvm.Cond.selects tMo_light.1.1.cls tMo_light.1.1 tMo_light.1.1 ∈ ygw := ymem 1143 (by decide +kernel) rfl
set_option maxRecDepth 100000 in
theorem qcMo_stoke : Jvm.Cond.code tMo_stoke.1.1 tMo_stoke.1.2.1 tMo_stoke.1.2.2.1 tMo_stoke.1.2.2.2 ∈ ygw := ymem 1152 rfl rfl
theorem qiMo_stoke : Jvm.Cond.instanceMethod tMo_stoke.1.1 ∈ ygw := ymem 1150 (by decide +kernel) rfl
theorem qlMo_stoke : Jvm.Cond.selects tMo_stoke.1.1.cls tMo_stoke.1.1 tMo_stoke.1.1 ∈ ygw := ymem 1151 (by decide +kernel) rfl
set_option maxRecDepth 100000 in
theorem qcMo_law : Jvm.Cond.code tMo_law.1.1 tMo_law.1.2.1 tMo_law.1.2.2.1 tMo_law.1.2.2.2 ∈ ygw := ymem 1157 rfl rfl
theorem qiMo_law : Jvm.Cond.instanceMethod tMo_law.1.1 ∈ ygw := ymem 1155 (by decide +kernel) rfl
theorem qlMo_law : Jvm.Cond.selects tMo_law.1.1.cls tMo_law.1.1 tMo_law.1.1 ∈ ygw := ymem 1156 (by decide +kernel) rfl
set_option maxRecDepth 100000 in
theorem qcMo_last : Jvm.Cond.code tMo_last.1.1 tMo_last.1.2.1 tMo_last.1.2.2.1 tMo_last.1.2.2.2 ∈ ygw := ymem 1162 rfl rfl
theorem qiMo_last : Jvm.Cond.instanceMethod tMo_last.1.1 ∈ ygw := ymem 1160 (by decide +kernel) rfl
theorem qlMo_last : Jvm.Cond.selects tMo_last.1.1.cls tMo_last.1.1 tMo_last.1.1 ∈ ygw := ymem 1161 (by decide +kernel) rfl
set_option maxRecDepth 100000 in
theorem qcMo_flows : Jvm.Cond.code tMo_flows.1.1 tMo_flows.1.2.1 tMo_flows.1.2.2.1 tMo_flows.1.2.2.2 ∈ ygw := ymem 1189 rfl rfl
theorem qiMo_flows : Jvm.Cond.instanceMethod tMo_flows.1.1 ∈ ygw := ymem 1188 (by decide +kernel) rfl
theorem qlMo_flows : Jvm.Cond.selects tMo_flows.1.1.cls tMo_flows.1.1 tMo_flows.1.1 ∈ ygw := ymemS (n := 52) 105 (by decide +kernel) rfl
set_option maxRecDepth 100000 in
theorem qcMo_goHeat : Jvm.Cond.code tMo_goHeat.1.1 tMo_goHeat.1.2.1 tMo_goHeat.1.2.2.1 tMo_goHeat.1.2.2.2 ∈ ygw := ymem 1185 rfl rfl
theorem qiMo_goHeat : Jvm.Cond.instanceMethod tMo_goHeat.1.1 ∈ ygw := ymem 1184 (by decide +kernel) rfl
theorem qlMo_goHeat : Jvm.Cond.selects tMo_goHeat.1.1.cls tMo_goHeat.1.1 tMo_goHeat.1.1 ∈ ygw := ymemS (n := 52) 104 (by decide +kernel) rfl
set_option maxRecDepth 100000 in
theorem qcMo_feel : Jvm.Cond.code tMo_feel.1.1 tMo_feel.1.2.1 tMo_feel.1.2.2.1 tMo_feel.1.2.2.2 ∈ ygw := ymem 1193 rfl rfl
theorem qiMo_feel : Jvm.Cond.instanceMethod tMo_feel.1.1 ∈ ygw := ymem 1192 (by decide +kernel) rfl
theorem qlMo_feel : Jvm.Cond.selects tMo_feel.1.1.cls tMo_feel.1.1 tMo_feel.1.1 ∈ ygw := ymemS (n := 52) 106 (by decide +kernel) rfl
set_option maxRecDepth 100000 in
theorem qcMo_feelsOn : Jvm.Cond.code tMo_feelsOn.1.1 tMo_feelsOn.1.2.1 tMo_feelsOn.1.2.2.1 tMo_feelsOn.1.2.2.2 ∈ ygw := ymem 1201 rfl rfl
theorem qiMo_feelsOn : Jvm.Cond.instanceMethod tMo_feelsOn.1.1 ∈ ygw := ymem 1200 (by decide +kernel) rfl
theorem qlMo_feelsOn : Jvm.Cond.selects tMo_feelsOn.1.1.cls tMo_feelsOn.1.1 tMo_feelsOn.1.1 ∈ ygw := ymemS (n := 52) 108 (by decide +kernel) rfl
set_option maxRecDepth 100000 in
theorem qcMo_own : Jvm.Cond.code tMo_own.1.1 tMo_own.1.2.1 tMo_own.1.2.2.1 tMo_own.1.2.2.2 ∈ ygw := ymem 1197 rfl rfl
theorem qiMo_own : Jvm.Cond.instanceMethod tMo_own.1.1 ∈ ygw := ymem 1196 (by decide +kernel) rfl
theorem qlMo_own : Jvm.Cond.selects tMo_own.1.1.cls tMo_own.1.1 tMo_own.1.1 ∈ ygw := ymemS (n := 52) 107 (by decide +kernel) rfl
set_option maxRecDepth 100000 in
theorem qcMo_goLaw : Jvm.Cond.code tMo_goLaw.1.1 tMo_goLaw.1.2.1 tMo_goLaw.1.2.2.1 tMo_goLaw.1.2.2.2 ∈ ygw := ymem 1205 rfl rfl
theorem qiMo_goLaw : Jvm.Cond.instanceMethod tMo_goLaw.1.1 ∈ ygw := ymem 1204 (by decide +kernel) rfl
theorem qlMo_goLaw : Jvm.Cond.selects tMo_goLaw.1.1.cls tMo_goLaw.1.1 tMo_goLaw.1.1 ∈ ygw := ymemS (n := 52) 109 (by decide +kernel) rfl
set_option maxRecDepth 100000 in
theorem qcMo_arePartners : Jvm.Cond.code tMo_arePartners.1.1 tMo_arePartners.1.2.1 tMo_arePartners.1.2.2.1 tMo_arePartners.1.2.2.2 ∈ ygw := ymem 1217 rfl rfl
theorem qiMo_arePartners : Jvm.Cond.instanceMethod tMo_arePartners.1.1 ∈ ygw := ymem 1216 (by decide +kernel) rfl
theorem qlMo_arePartners : Jvm.Cond.selects tMo_arePartners.1.1.cls tMo_arePartners.1.1 tMo_arePartners.1.1 ∈ ygw := ymemS (n := 52) 112 (by decide +kernel) rfl
set_option maxRecDepth 100000 in
theorem qcMo_isOwedFor : Jvm.Cond.code tMo_isOwedFor.1.1 tMo_isOwedFor.1.2.1 tMo_isOwedFor.1.2.2.1 tMo_isOwedFor.1.2.2.2 ∈ ygw := ymem 1213 rfl rfl
theorem qiMo_isOwedFor : Jvm.Cond.instanceMethod tMo_isOwedFor.1.1 ∈ ygw := ymem 1212 (by decide +kernel) rfl
theorem qlMo_isOwedFor : Jvm.Cond.selects tMo_isOwedFor.1.1.cls tMo_isOwedFor.1.1 tMo_isOwedFor.1.1 ∈ ygw := ymemS (n := 52) 111 (by decide +kernel) rfl
set_option maxRecDepth 100000 in
theorem qcMo_owe : Jvm.Cond.code tMo_owe.1.1 tMo_owe.1.2.1 tMo_owe.1.2.2.1 tMo_owe.1.2.2.2 ∈ ygw := ymem 1209 rfl rfl
theorem qiMo_owe : Jvm.Cond.instanceMethod tMo_owe.1.1 ∈ ygw := ymem 1208 (by decide +kernel) rfl
theorem qlMo_owe : Jvm.Cond.selects tMo_owe.1.1.cls tMo_owe.1.1 tMo_owe.1.1 ∈ ygw := ymemS (n := 52) 110 (by decide +kernel) rfl
set_option maxRecDepth 100000 in
theorem qcMo_goMinute : Jvm.Cond.code tMo_goMinute.1.1 tMo_goMinute.1.2.1 tMo_goMinute.1.2.2.1 tMo_goMinute.1.2.2.2 ∈ ygw := ymem 1181 rfl rfl
theorem qiMo_goMinute : Jvm.Cond.instanceMethod tMo_goMinute.1.1 ∈ ygw := ymem 1180 (by decide +kernel) rfl
theorem qlMo_goMinute : Jvm.Cond.selects tMo_goMinute.1.1.cls tMo_goMinute.1.1 tMo_goMinute.1.1 ∈ ygw := ymemS (n := 52) 103 (by decide +kernel) rfl
set_option maxRecDepth 100000 in
theorem qcMo_goMinutes : Jvm.Cond.code tMo_goMinutes.1.1 tMo_goMinutes.1.2.1 tMo_goMinutes.1.2.2.1 tMo_goMinutes.1.2.2.2 ∈ ygw := ymem 1177 rfl rfl
theorem qiMo_goMinutes : Jvm.Cond.instanceMethod tMo_goMinutes.1.1 ∈ ygw := ymem 1176 (by decide +kernel) rfl
theorem qlMo_goMinutes : Jvm.Cond.selects tMo_goMinutes.1.1.cls tMo_goMinutes.1.1 tMo_goMinutes.1.1 ∈ ygw := ymemS (n := 52) 102 (by decide +kernel) rfl
set_option maxRecDepth 100000 in
theorem qcMo_notMinutes : Jvm.Cond.code tMo_notMinutes.1.1 tMo_notMinutes.1.2.1 tMo_notMinutes.1.2.2.1 tMo_notMinutes.1.2.2.2 ∈ ygw := ymem 1171 rfl rfl
theorem qiMo_notMinutes : Jvm.Cond.instanceMethod tMo_notMinutes.1.1 ∈ ygw := ymem 1170 (by decide +kernel) rfl
theorem qlMo_notMinutes : Jvm.Cond.selects tMo_notMinutes.1.1.cls tMo_notMinutes.1.1 tMo_notMinutes.1.1 ∈ ygw := ymemS (n := 52) 101 (by decide +kernel) rfl
set_option maxRecDepth 100000 in
theorem qcMo_minute : Jvm.Cond.code tMo_minute.1.1 tMo_minute.1.2.1 tMo_minute.1.2.2.1 tMo_minute.1.2.2.2 ∈ ygw := ymem 1167 rfl rfl
theorem qiMo_minute : Jvm.Cond.instanceMethod tMo_minute.1.1 ∈ ygw := ymem 1165 (by decide +kernel) rfl
theorem qlMo_minute : Jvm.Cond.selects tMo_minute.1.1.cls tMo_minute.1.1 tMo_minute.1.1 ∈ ygw := ymem 1166 (by decide +kernel) rfl
set_option maxRecDepth 100000 in
theorem qcMo_draw : Jvm.Cond.code tMo_draw.1.1 tMo_draw.1.2.1 tMo_draw.1.2.2.1 tMo_draw.1.2.2.2 ∈ ygw := ymem 1230 rfl rfl
theorem qiMo_draw : Jvm.Cond.instanceMethod tMo_draw.1.1 ∈ ygw := ymem 1229 (by decide +kernel) rfl
theorem qlMo_draw : Jvm.Cond.selects tMo_draw.1.1.cls tMo_draw.1.1 tMo_draw.1.1 ∈ ygw := ymemS (n := 52) 114 (by decide +kernel) rfl
set_option maxRecDepth 100000 in
theorem qcMo_driftOne : Jvm.Cond.code tMo_driftOne.1.1 tMo_driftOne.1.2.1 tMo_driftOne.1.2.2.1 tMo_driftOne.1.2.2.2 ∈ ygw := ymem 1226 rfl rfl
theorem qiMo_driftOne : Jvm.Cond.instanceMethod tMo_driftOne.1.1 ∈ ygw := ymem 1225 (by decide +kernel) rfl
theorem qlMo_driftOne : Jvm.Cond.selects tMo_driftOne.1.1.cls tMo_driftOne.1.1 tMo_driftOne.1.1 ∈ ygw := ymemS (n := 52) 113 (by decide +kernel) rfl
set_option maxRecDepth 100000 in
theorem qcMo_drift : Jvm.Cond.code tMo_drift.1.1 tMo_drift.1.2.1 tMo_drift.1.2.2.1 tMo_drift.1.2.2.2 ∈ ygw := ymem 1222 rfl rfl
theorem qiMo_drift : Jvm.Cond.instanceMethod tMo_drift.1.1 ∈ ygw := ymem 1220 (by decide +kernel) rfl
theorem qlMo_drift : Jvm.Cond.selects tMo_drift.1.1.cls tMo_drift.1.1 tMo_drift.1.1 ∈ ygw := ymem 1221 (by decide +kernel) rfl
set_option maxRecDepth 100000 in
theorem qcMo_start : Jvm.Cond.code tMo_start.1.1 tMo_start.1.2.1 tMo_start.1.2.2.1 tMo_start.1.2.2.2 ∈ ygw := ymem 1242 rfl rfl
theorem qiMo_start : Jvm.Cond.instanceMethod tMo_start.1.1 ∈ ygw := ymem 1241 (by decide +kernel) rfl
theorem qlMo_start : Jvm.Cond.selects tMo_start.1.1.cls tMo_start.1.1 tMo_start.1.1 ∈ ygw := ymemS (n := 52) 115 (by decide +kernel) rfl
set_option maxRecDepth 100000 in
theorem qcMo_back : Jvm.Cond.code tMo_back.1.1 tMo_back.1.2.1 tMo_back.1.2.2.1 tMo_back.1.2.2.2 ∈ ygw := ymem 1246 rfl rfl
theorem qiMo_back : Jvm.Cond.instanceMethod tMo_back.1.1 ∈ ygw := ymem 1245 (by decide +kernel) rfl
theorem qlMo_back : Jvm.Cond.selects tMo_back.1.1.cls tMo_back.1.1 tMo_back.1.1 ∈ ygw := ymemS (n := 52) 116 (by decide +kernel) rfl
set_option maxRecDepth 100000 in
theorem qcMo_then : Jvm.Cond.code tMo_then.1.1 tMo_then.1.2.1 tMo_then.1.2.2.1 tMo_then.1.2.2.2 ∈ ygw := ymem 1238 rfl rfl
theorem qiMo_then : Jvm.Cond.instanceMethod tMo_then.1.1 ∈ ygw := ymem 1236 (by decide +kernel) rfl
theorem qlMo_then : Jvm.Cond.selects tMo_then.1.1.cls tMo_then.1.1 tMo_then.1.1 ∈ ygw := ymem 1237 (by decide +kernel) rfl
set_option maxRecDepth 100000 in
theorem qcMo_power : Jvm.Cond.code tMo_power.1.1 tMo_power.1.2.1 tMo_power.1.2.2.1 tMo_power.1.2.2.2 ∈ ygw := ymem 1254 rfl rfl
theorem qsMo_power : Jvm.Cond.static tMo_power.1.1 ∈ ygw := ymem 1253 (by decide +kernel) rfl
set_option maxRecDepth 100000 in
theorem qcMo_ownsBy : Jvm.Cond.code tMo_ownsBy.1.1 tMo_ownsBy.1.2.1 tMo_ownsBy.1.2.2.1 tMo_ownsBy.1.2.2.2 ∈ ygw := ymem 1258 rfl rfl
theorem qiMo_ownsBy : Jvm.Cond.instanceMethod tMo_ownsBy.1.1 ∈ ygw := ymem 1257 (by decide +kernel) rfl
theorem qlMo_ownsBy : Jvm.Cond.selects tMo_ownsBy.1.1.cls tMo_ownsBy.1.1 tMo_ownsBy.1.1 ∈ ygw := ymemS (n := 52) 117 (by decide +kernel) rfl
set_option maxRecDepth 100000 in
theorem qcMo_stands : Jvm.Cond.code tMo_stands.1.1 tMo_stands.1.2.1 tMo_stands.1.2.2.1 tMo_stands.1.2.2.2 ∈ ygw := ymem 1250 rfl rfl
theorem qiMo_stands : Jvm.Cond.instanceMethod tMo_stands.1.1 ∈ ygw := ymem 1248 (by decide +kernel) rfl
theorem qlMo_stands : Jvm.Cond.selects tMo_stands.1.1.cls tMo_stands.1.1 tMo_stands.1.1 ∈ ygw := ymem 1249 (by decide +kernel) rfl
set_option maxRecDepth 100000 in
theorem qcMo_notStove : Jvm.Cond.code tMo_notStove.1.1 tMo_notStove.1.2.1 tMo_notStove.1.2.2.1 tMo_notStove.1.2.2.2 ∈ ygw := ymem 1266 rfl rfl
theorem qiMo_notStove : Jvm.Cond.instanceMethod tMo_notStove.1.1 ∈ ygw := ymem 1265 (by decide +kernel) rfl
theorem qlMo_notStove : Jvm.Cond.selects tMo_notStove.1.1.cls tMo_notStove.1.1 tMo_notStove.1.1 ∈ ygw := ymemS (n := 52) 118 (by decide +kernel) rfl
set_option maxRecDepth 100000 in
theorem qcMo_lightFor : Jvm.Cond.code tMo_lightFor.1.1 tMo_lightFor.1.2.1 tMo_lightFor.1.2.2.1 tMo_lightFor.1.2.2.2 ∈ ygw := ymem 1262 rfl rfl
theorem qiMo_lightFor : Jvm.Cond.instanceMethod tMo_lightFor.1.1 ∈ ygw := ymem 1260 (by decide +kernel) rfl
theorem qlMo_lightFor : Jvm.Cond.selects tMo_lightFor.1.1.cls tMo_lightFor.1.1 tMo_lightFor.1.1 ∈ ygw := ymem 1261 (by decide +kernel) rfl
set_option maxRecDepth 100000 in
theorem qcMo_ownsWithout : Jvm.Cond.code tMo_ownsWithout.1.1 tMo_ownsWithout.1.2.1 tMo_ownsWithout.1.2.2.1 tMo_ownsWithout.1.2.2.2 ∈ ygw := ymem 1275 rfl rfl
theorem qiMo_ownsWithout : Jvm.Cond.instanceMethod tMo_ownsWithout.1.1 ∈ ygw := ymem 1274 (by decide +kernel) rfl
theorem qlMo_ownsWithout : Jvm.Cond.selects tMo_ownsWithout.1.1.cls tMo_ownsWithout.1.1 tMo_ownsWithout.1.1 ∈ ygw := ymemS (n := 52) 119 (by decide +kernel) rfl
set_option maxRecDepth 100000 in
theorem qcMo_keptOut : Jvm.Cond.code tMo_keptOut.1.1 tMo_keptOut.1.2.1 tMo_keptOut.1.2.2.1 tMo_keptOut.1.2.2.2 ∈ ygw := ymem 1271 rfl rfl
theorem qiMo_keptOut : Jvm.Cond.instanceMethod tMo_keptOut.1.1 ∈ ygw := ymem 1269 (by decide +kernel) rfl
theorem qlMo_keptOut : Jvm.Cond.selects tMo_keptOut.1.1.cls tMo_keptOut.1.1 tMo_keptOut.1.1 ∈ ygw := ymem 1270 (by decide +kernel) rfl
set_option maxRecDepth 100000 in
theorem qcMo_gain : Jvm.Cond.code tMo_gain.1.1 tMo_gain.1.2.1 tMo_gain.1.2.2.1 tMo_gain.1.2.2.2 ∈ ygw := ymem 1279 rfl rfl
theorem qiMo_gain : Jvm.Cond.instanceMethod tMo_gain.1.1 ∈ ygw := ymem 1277 (by decide +kernel) rfl
theorem qlMo_gain : Jvm.Cond.selects tMo_gain.1.1.cls tMo_gain.1.1 tMo_gain.1.1 ∈ ygw := ymem 1278 (by decide +kernel) rfl
set_option maxRecDepth 100000 in
theorem qcMo_isLet : Jvm.Cond.code tMo_isLet.1.1 tMo_isLet.1.2.1 tMo_isLet.1.2.2.1 tMo_isLet.1.2.2.2 ∈ ygw := ymem 1295 rfl rfl
theorem qiMo_isLet : Jvm.Cond.instanceMethod tMo_isLet.1.1 ∈ ygw := ymem 1294 (by decide +kernel) rfl
theorem qlMo_isLet : Jvm.Cond.selects tMo_isLet.1.1.cls tMo_isLet.1.1 tMo_isLet.1.1 ∈ ygw := ymemS (n := 52) 122 (by decide +kernel) rfl
set_option maxRecDepth 100000 in
theorem qcMo_brings : Jvm.Cond.code tMo_brings.1.1 tMo_brings.1.2.1 tMo_brings.1.2.2.1 tMo_brings.1.2.2.2 ∈ ygw := ymem 1291 rfl rfl
theorem qiMo_brings : Jvm.Cond.instanceMethod tMo_brings.1.1 ∈ ygw := ymem 1290 (by decide +kernel) rfl
theorem qlMo_brings : Jvm.Cond.selects tMo_brings.1.1.cls tMo_brings.1.1 tMo_brings.1.1 ∈ ygw := ymemS (n := 52) 121 (by decide +kernel) rfl
set_option maxRecDepth 100000 in
theorem qcMo_bestRent : Jvm.Cond.code tMo_bestRent.1.1 tMo_bestRent.1.2.1 tMo_bestRent.1.2.2.1 tMo_bestRent.1.2.2.2 ∈ ygw := ymem 1287 rfl rfl
theorem qiMo_bestRent : Jvm.Cond.instanceMethod tMo_bestRent.1.1 ∈ ygw := ymem 1286 (by decide +kernel) rfl
theorem qlMo_bestRent : Jvm.Cond.selects tMo_bestRent.1.1.cls tMo_bestRent.1.1 tMo_bestRent.1.1 ∈ ygw := ymemS (n := 52) 120 (by decide +kernel) rfl
set_option maxRecDepth 100000 in
theorem qcMo_rents : Jvm.Cond.code tMo_rents.1.1 tMo_rents.1.2.1 tMo_rents.1.2.2.1 tMo_rents.1.2.2.2 ∈ ygw := ymem 1283 rfl rfl
theorem qiMo_rents : Jvm.Cond.instanceMethod tMo_rents.1.1 ∈ ygw := ymem 1281 (by decide +kernel) rfl
theorem qlMo_rents : Jvm.Cond.selects tMo_rents.1.1.cls tMo_rents.1.1 tMo_rents.1.1 ∈ ygw := ymem 1282 (by decide +kernel) rfl
set_option maxRecDepth 100000 in
theorem qcMo_claim : Jvm.Cond.code tMo_claim.1.1 tMo_claim.1.2.1 tMo_claim.1.2.2.1 tMo_claim.1.2.2.2 ∈ ygw := ymem 1299 rfl rfl
theorem qiMo_claim : Jvm.Cond.instanceMethod tMo_claim.1.1 ∈ ygw := ymem 1297 (by decide +kernel) rfl
theorem qlMo_claim : Jvm.Cond.selects tMo_claim.1.1.cls tMo_claim.1.1 tMo_claim.1.1 ∈ ygw := ymem 1298 (by decide +kernel) rfl
set_option maxRecDepth 100000 in
theorem qcMo_forged : Jvm.Cond.code tMo_forged.1.1 tMo_forged.1.2.1 tMo_forged.1.2.2.1 tMo_forged.1.2.2.2 ∈ ygw := ymem 1308 rfl rfl
theorem qiMo_forged : Jvm.Cond.instanceMethod tMo_forged.1.1 ∈ ygw := ymem 1306 (by decide +kernel) rfl
theorem qlMo_forged : Jvm.Cond.selects tMo_forged.1.1.cls tMo_forged.1.1 tMo_forged.1.1 ∈ ygw := ymem 1307 (by decide +kernel) rfl
set_option maxRecDepth 100000 in
theorem qcMo_leaveWarm : Jvm.Cond.code tMo_leaveWarm.1.1 tMo_leaveWarm.1.2.1 tMo_leaveWarm.1.2.2.1 tMo_leaveWarm.1.2.2.2 ∈ ygw := ymem 1320 rfl rfl
theorem qiMo_leaveWarm : Jvm.Cond.instanceMethod tMo_leaveWarm.1.1 ∈ ygw := ymem 1319 (by decide +kernel) rfl
theorem qlMo_leaveWarm : Jvm.Cond.selects tMo_leaveWarm.1.1.cls tMo_leaveWarm.1.1 tMo_leaveWarm.1.1 ∈ ygw := ymemS (n := 52) 125 (by decide +kernel) rfl
set_option maxRecDepth 100000 in
theorem qcMo_coldBy : Jvm.Cond.code tMo_coldBy.1.1 tMo_coldBy.1.2.1 tMo_coldBy.1.2.2.1 tMo_coldBy.1.2.2.2 ∈ ygw := ymem 1316 rfl rfl
theorem qiMo_coldBy : Jvm.Cond.instanceMethod tMo_coldBy.1.1 ∈ ygw := ymem 1315 (by decide +kernel) rfl
theorem qlMo_coldBy : Jvm.Cond.selects tMo_coldBy.1.1.cls tMo_coldBy.1.1 tMo_coldBy.1.1 ∈ ygw := ymemS (n := 52) 124 (by decide +kernel) rfl
set_option maxRecDepth 100000 in
theorem qcMo_cold : Jvm.Cond.code tMo_cold.1.1 tMo_cold.1.2.1 tMo_cold.1.2.2.1 tMo_cold.1.2.2.2 ∈ ygw := ymem 1312 rfl rfl
theorem qiMo_cold : Jvm.Cond.instanceMethod tMo_cold.1.1 ∈ ygw := ymem 1310 (by decide +kernel) rfl
theorem qlMo_cold : Jvm.Cond.selects tMo_cold.1.1.cls tMo_cold.1.1 tMo_cold.1.1 ∈ ygw := ymem 1311 (by decide +kernel) rfl
set_option maxRecDepth 100000 in
theorem qcMo_mildest : Jvm.Cond.code tMo_mildest.1.1 tMo_mildest.1.2.1 tMo_mildest.1.2.2.1 tMo_mildest.1.2.2.2 ∈ ygw := ymem 1324 rfl rfl
theorem qiMo_mildest : Jvm.Cond.instanceMethod tMo_mildest.1.1 ∈ ygw := ymem 1322 (by decide +kernel) rfl
theorem qlMo_mildest : Jvm.Cond.selects tMo_mildest.1.1.cls tMo_mildest.1.1 tMo_mildest.1.1 ∈ ygw := ymem 1323 (by decide +kernel) rfl
set_option maxRecDepth 100000 in
theorem qcMo_deed : Jvm.Cond.code tMo_deed.1.1 tMo_deed.1.2.1 tMo_deed.1.2.2.1 tMo_deed.1.2.2.2 ∈ ygw := ymem 1328 rfl rfl
theorem qiMo_deed : Jvm.Cond.instanceMethod tMo_deed.1.1 ∈ ygw := ymem 1326 (by decide +kernel) rfl
theorem qlMo_deed : Jvm.Cond.selects tMo_deed.1.1.cls tMo_deed.1.1 tMo_deed.1.1 ∈ ygw := ymem 1327 (by decide +kernel) rfl
set_option maxRecDepth 100000 in
theorem qcMo_areDeeds : Jvm.Cond.code tMo_areDeeds.1.1 tMo_areDeeds.1.2.1 tMo_areDeeds.1.2.2.1 tMo_areDeeds.1.2.2.2 ∈ ygw := ymem 1336 rfl rfl
theorem qiMo_areDeeds : Jvm.Cond.instanceMethod tMo_areDeeds.1.1 ∈ ygw := ymem 1335 (by decide +kernel) rfl
theorem qlMo_areDeeds : Jvm.Cond.selects tMo_areDeeds.1.1.cls tMo_areDeeds.1.1 tMo_areDeeds.1.1 ∈ ygw := ymemS (n := 52) 126 (by decide +kernel) rfl
set_option maxRecDepth 100000 in
theorem qcMo_wasLit : Jvm.Cond.code tMo_wasLit.1.1 tMo_wasLit.1.2.1 tMo_wasLit.1.2.2.1 tMo_wasLit.1.2.2.2 ∈ ygw := ymem 1332 rfl rfl
theorem qiMo_wasLit : Jvm.Cond.instanceMethod tMo_wasLit.1.1 ∈ ygw := ymem 1330 (by decide +kernel) rfl
theorem qlMo_wasLit : Jvm.Cond.selects tMo_wasLit.1.1.cls tMo_wasLit.1.1 tMo_wasLit.1.1 ∈ ygw := ymem 1331 (by decide +kernel) rfl
set_option maxRecDepth 100000 in
theorem qcMo_tear : Jvm.Cond.code tMo_tear.1.1 tMo_tear.1.2.1 tMo_tear.1.2.2.1 tMo_tear.1.2.2.2 ∈ ygw := ymem 1340 rfl rfl
theorem qiMo_tear : Jvm.Cond.instanceMethod tMo_tear.1.1 ∈ ygw := ymem 1338 (by decide +kernel) rfl
theorem qlMo_tear : Jvm.Cond.selects tMo_tear.1.1.cls tMo_tear.1.1 tMo_tear.1.1 ∈ ygw := ymem 1339 (by decide +kernel) rfl
set_option maxRecDepth 100000 in
theorem qcMo_seed : Jvm.Cond.code tMo_seed.1.1 tMo_seed.1.2.1 tMo_seed.1.2.2.1 tMo_seed.1.2.2.2 ∈ ygw := ymem 1344 rfl rfl
theorem qiMo_seed : Jvm.Cond.instanceMethod tMo_seed.1.1 ∈ ygw := ymem 1342 (by decide +kernel) rfl
theorem qlMo_seed : Jvm.Cond.selects tMo_seed.1.1.cls tMo_seed.1.1 tMo_seed.1.1 ∈ ygw := ymem 1343 (by decide +kernel) rfl
set_option maxRecDepth 100000 in
theorem qcMo_keep : Jvm.Cond.code tMo_keep.1.1 tMo_keep.1.2.1 tMo_keep.1.2.2.1 tMo_keep.1.2.2.2 ∈ ygw := ymem 1348 rfl rfl
theorem qiMo_keep : Jvm.Cond.instanceMethod tMo_keep.1.1 ∈ ygw := ymem 1346 (by decide +kernel) rfl
theorem qlMo_keep : Jvm.Cond.selects tMo_keep.1.1.cls tMo_keep.1.1 tMo_keep.1.1 ∈ ygw := ymem 1347 (by decide +kernel) rfl
set_option maxRecDepth 100000 in
theorem qcMo_goBack : Jvm.Cond.code tMo_goBack.1.1 tMo_goBack.1.2.1 tMo_goBack.1.2.2.1 tMo_goBack.1.2.2.2 ∈ ygw := ymem 1352 rfl rfl
theorem qiMo_goBack : Jvm.Cond.instanceMethod tMo_goBack.1.1 ∈ ygw := ymem 1350 (by decide +kernel) rfl
theorem qlMo_goBack : Jvm.Cond.selects tMo_goBack.1.1.cls tMo_goBack.1.1 tMo_goBack.1.1 ∈ ygw := ymem 1351 (by decide +kernel) rfl
set_option maxRecDepth 100000 in
theorem qcJd_bitCount : Jvm.Cond.code tJd_bitCount.1.1 tJd_bitCount.1.2.1 tJd_bitCount.1.2.2.1 tJd_bitCount.1.2.2.2 ∈ ygw := ymem 773 rfl rfl
theorem qsJd_bitCount : Jvm.Cond.static tJd_bitCount.1.1 ∈ ygw := ymem 772 (by decide +kernel) rfl
set_option maxRecDepth 100000 in
theorem qcJd_fill : Jvm.Cond.code tJd_fill.1.1 tJd_fill.1.2.1 tJd_fill.1.2.2.1 tJd_fill.1.2.2.2 ∈ ygw := ymem 356 rfl rfl
theorem qsJd_fill : Jvm.Cond.static tJd_fill.1.1 ∈ ygw := ymem 355 (by decide +kernel) rfl
theorem qnFirstFeltLaw : Jvm.Cond.initialized "FirstFeltLaw" ∈ ygw := ymem 0 (by decide +kernel) rfl
theorem qnFirstFelt : Jvm.Cond.initialized "FirstFelt" ∈ ygw := ymem 1 (by decide +kernel) rfl
theorem qnFirstFelt_Reader : Jvm.Cond.initialized "FirstFelt$Reader" ∈ ygw := ymem 2 (by decide +kernel) rfl
theorem qnFirstFelt_Papers : Jvm.Cond.initialized "FirstFelt$Papers" ∈ ygw := ymem 3 (by decide +kernel) rfl
theorem qnjava_lang_Math : Jvm.Cond.initialized "java/lang/Math" ∈ ygw := ymem 4 (by decide +kernel) rfl
theorem qnFirstFelt_State : Jvm.Cond.initialized "FirstFelt$State" ∈ ygw := ymem 5 (by decide +kernel) rfl
theorem qnFirstFelt_Tour : Jvm.Cond.initialized "FirstFelt$Tour" ∈ ygw := ymem 6 (by decide +kernel) rfl
theorem qnFirstFelt_Market : Jvm.Cond.initialized "FirstFelt$Market" ∈ ygw := ymem 7 (by decide +kernel) rfl
theorem qnFirstFelt_Town : Jvm.Cond.initialized "FirstFelt$Town" ∈ ygw := ymem 8 (by decide +kernel) rfl
theorem qnFirstFeltModel : Jvm.Cond.initialized "FirstFeltModel" ∈ ygw := ymem 9 (by decide +kernel) rfl
theorem qnjava_util_Arrays : Jvm.Cond.initialized "java/util/Arrays" ∈ ygw := ymem 10 (by decide +kernel) rfl
theorem qnjava_lang_System : Jvm.Cond.initialized "java/lang/System" ∈ ygw := ymem 11 (by decide +kernel) rfl
theorem qnjava_lang_Integer : Jvm.Cond.initialized "java/lang/Integer" ∈ ygw := ymem 12 (by decide +kernel) rfl
set_option maxRecDepth 100000 in
theorem qoC : Jvm.Cond.code Lib.objectInit ⟨#[0xb1]⟩ 1 none ∈ ygw := ymem 20 rfl rfl
theorem qoI : Jvm.Cond.instanceMethod Lib.objectInit ∈ ygw := ymem 19 (by decide +kernel) rfl
set_option maxRecDepth 100000 in
theorem qmaxC : Jvm.Cond.code Lib.Math.max.name Lib.Math.max.code 2 (some .int) ∈ ygw := ymem 67 rfl rfl
set_option maxRecDepth 100000 in
theorem qminC : Jvm.Cond.code Lib.Math.min.name Lib.Math.min.code 2 (some .int) ∈ ygw := ymem 388 rfl rfl
theorem qaN : Jvm.Cond.native arraycopyName ∈ ygw := ymem 580 (by decide +kernel) rfl
theorem qaS : Jvm.Cond.static arraycopyName ∈ ygw := ymem 579 (by decide +kernel) rfl
