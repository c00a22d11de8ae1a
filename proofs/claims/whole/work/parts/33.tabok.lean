set_option maxRecDepth 100000 in
theorem k2Mk_init : yTok xMT tMk_init := ytok (P := pMk) (init := true) okMk (fun _ => rfl) (by decide +kernel) rfl (by decide +kernel)
set_option maxRecDepth 100000 in
theorem k2Mk_settle : yTok xMT tMk_settle := ytok (P := pMk) (init := false) okMk (fun h => (by cases h)) (by decide +kernel) rfl (by decide +kernel)
set_option maxRecDepth 100000 in
theorem k2Mk_askAnew : yTok xMT tMk_askAnew := ytok (P := pMk) (init := false) okMk (fun h => (by cases h)) (by decide +kernel) rfl (by decide +kernel)
set_option maxRecDepth 100000 in
theorem k2Mk_bestRent : yTok xMT tMk_bestRent := ytok (P := pMk) (init := false) okMk (fun h => (by cases h)) (by decide +kernel) rfl (by decide +kernel)
set_option maxRecDepth 100000 in
theorem k2Mk_countLet : yTok xMT tMk_countLet := ytok (P := pMk) (init := false) okMk (fun h => (by cases h)) (by decide +kernel) rfl (by decide +kernel)
set_option maxRecDepth 100000 in
theorem k2Mk_isUndercut : yTok xMT tMk_isUndercut := ytok (P := pMk) (init := false) okMk (fun h => (by cases h)) (by decide +kernel) rfl (by decide +kernel)
set_option maxRecDepth 100000 in
theorem k2Pp_init : yTok xMT tPp_init := ytok (P := pPp) (init := true) okPp (fun _ => rfl) (by decide +kernel) rfl (by decide +kernel)
set_option maxRecDepth 100000 in
theorem k2Pp_init8 : yTok xMT tPp_init8 := ytok (P := pPp) (init := true) okPp (fun _ => rfl) (by decide +kernel) rfl (by decide +kernel)
set_option maxRecDepth 100000 in
theorem k2Pp_write : yTok xMT tPp_write := ytok (P := pPp) (init := false) okPp (fun h => (by cases h)) (by decide +kernel) rfl (by decide +kernel)
set_option maxRecDepth 100000 in
theorem k2Pp_latest : yTok xMT tPp_latest := ytok (P := pPp) (init := false) okPp (fun h => (by cases h)) (by decide +kernel) rfl (by decide +kernel)
set_option maxRecDepth 100000 in
theorem k2Pp_notFeltAt : yTok xMT tPp_notFeltAt := ytok (P := pPp) (init := false) okPp (fun h => (by cases h)) (by decide +kernel) rfl (by decide +kernel)
set_option maxRecDepth 100000 in
theorem k2Pp_ownedAt : yTok xMT tPp_ownedAt := ytok (P := pPp) (init := false) okPp (fun h => (by cases h)) (by decide +kernel) rfl (by decide +kernel)
set_option maxRecDepth 100000 in
theorem k2Rd_init : yTok xMT tRd_init := ytok (P := pRd) (init := true) okRd (fun _ => rfl) (by decide +kernel) rfl (by decide +kernel)
set_option maxRecDepth 100000 in
theorem k2Rd_take : yTok xMT tRd_take := ytok (P := pRd) (init := false) okRd (fun h => (by cases h)) (by decide +kernel) rfl (by decide +kernel)
set_option maxRecDepth 100000 in
theorem k2Rd_read : yTok xMT tRd_read := ytok (P := pRd) (init := false) okRd (fun h => (by cases h)) (by decide +kernel) rfl (by decide +kernel)
set_option maxRecDepth 100000 in
theorem k2Rd_readClause : yTok xMT tRd_readClause := ytok (P := pRd) (init := false) okRd (fun h => (by cases h)) (by decide +kernel) rfl (by decide +kernel)
set_option maxRecDepth 100000 in
theorem k2Rd_startClause : yTok xMT tRd_startClause := ytok (P := pRd) (init := false) okRd (fun h => (by cases h)) (by decide +kernel) rfl (by decide +kernel)
set_option maxRecDepth 100000 in
theorem k2Rd_readTown : yTok xMT tRd_readTown := ytok (P := pRd) (init := false) okRd (fun h => (by cases h)) (by decide +kernel) rfl (by decide +kernel)
set_option maxRecDepth 100000 in
theorem k2Rd_readWall : yTok xMT tRd_readWall := ytok (P := pRd) (init := false) okRd (fun h => (by cases h)) (by decide +kernel) rfl (by decide +kernel)
set_option maxRecDepth 100000 in
theorem k2Rd_readStove : yTok xMT tRd_readStove := ytok (P := pRd) (init := false) okRd (fun h => (by cases h)) (by decide +kernel) rfl (by decide +kernel)
set_option maxRecDepth 100000 in
theorem k2Rd_hasStove : yTok xMT tRd_hasStove := ytok (P := pRd) (init := false) okRd (fun h => (by cases h)) (by decide +kernel) rfl (by decide +kernel)
set_option maxRecDepth 100000 in
theorem k2Rd_readRoof : yTok xMT tRd_readRoof := ytok (P := pRd) (init := false) okRd (fun h => (by cases h)) (by decide +kernel) rfl (by decide +kernel)
set_option maxRecDepth 100000 in
theorem k2Rd_readSun : yTok xMT tRd_readSun := ytok (P := pRd) (init := false) okRd (fun h => (by cases h)) (by decide +kernel) rfl (by decide +kernel)
set_option maxRecDepth 100000 in
theorem k2Rd_readPerson : yTok xMT tRd_readPerson := ytok (P := pRd) (init := false) okRd (fun h => (by cases h)) (by decide +kernel) rfl (by decide +kernel)
set_option maxRecDepth 100000 in
theorem k2Rd_readCell : yTok xMT tRd_readCell := ytok (P := pRd) (init := false) okRd (fun h => (by cases h)) (by decide +kernel) rfl (by decide +kernel)
set_option maxRecDepth 100000 in
theorem k2Rd_readNumber : yTok xMT tRd_readNumber := ytok (P := pRd) (init := false) okRd (fun h => (by cases h)) (by decide +kernel) rfl (by decide +kernel)
set_option maxRecDepth 100000 in
theorem k2Rd_endClause : yTok xMT tRd_endClause := ytok (P := pRd) (init := false) okRd (fun h => (by cases h)) (by decide +kernel) rfl (by decide +kernel)
set_option maxRecDepth 100000 in
theorem k2Rd_skipBlanks : yTok xMT tRd_skipBlanks := ytok (P := pRd) (init := false) okRd (fun h => (by cases h)) (by decide +kernel) rfl (by decide +kernel)
set_option maxRecDepth 100000 in
theorem k2Rd_fail : yTok xMT tRd_fail := ytok (P := pRd) (init := false) okRd (fun h => (by cases h)) (by decide +kernel) rfl (by decide +kernel)
set_option maxRecDepth 100000 in
theorem k2St_init : yTok xMT tSt_init := ytok (P := pSt) (init := true) okSt (fun _ => rfl) (by decide +kernel) rfl (by decide +kernel)
set_option maxRecDepth 100000 in
theorem k2St_clear : yTok xMT tSt_clear := ytok (P := pSt) (init := false) okSt (fun h => (by cases h)) (by decide +kernel) rfl (by decide +kernel)
set_option maxRecDepth 100000 in
theorem k2St_copyFrom : yTok xMT tSt_copyFrom := ytok (P := pSt) (init := false) okSt (fun h => (by cases h)) (by decide +kernel) rfl (by decide +kernel)
set_option maxRecDepth 100000 in
theorem k2St_setWall : yTok xMT tSt_setWall := ytok (P := pSt) (init := false) okSt (fun h => (by cases h)) (by decide +kernel) rfl (by decide +kernel)
set_option maxRecDepth 100000 in
theorem k2St_wallOf : yTok xMT tSt_wallOf := ytok (P := pSt) (init := false) okSt (fun h => (by cases h)) (by decide +kernel) rfl (by decide +kernel)
set_option maxRecDepth 100000 in
theorem k2St_countWalls : yTok xMT tSt_countWalls := ytok (P := pSt) (init := false) okSt (fun h => (by cases h)) (by decide +kernel) rfl (by decide +kernel)
set_option maxRecDepth 100000 in
theorem k2St_reach : yTok xMT tSt_reach := ytok (P := pSt) (init := false) okSt (fun h => (by cases h)) (by decide +kernel) rfl (by decide +kernel)
set_option maxRecDepth 100000 in
theorem k2St_peopleOn : yTok xMT tSt_peopleOn := ytok (P := pSt) (init := false) okSt (fun h => (by cases h)) (by decide +kernel) rfl (by decide +kernel)
set_option maxRecDepth 100000 in
theorem k2St_countOwned : yTok xMT tSt_countOwned := ytok (P := pSt) (init := false) okSt (fun h => (by cases h)) (by decide +kernel) rfl (by decide +kernel)
set_option maxRecDepth 100000 in
theorem k2St_canBeLit : yTok xMT tSt_canBeLit := ytok (P := pSt) (init := false) okSt (fun h => (by cases h)) (by decide +kernel) rfl (by decide +kernel)
set_option maxRecDepth 100000 in
theorem k2St_feels : yTok xMT tSt_feels := ytok (P := pSt) (init := false) okSt (fun h => (by cases h)) (by decide +kernel) rfl (by decide +kernel)
set_option maxRecDepth 100000 in
theorem k2St_draw : yTok xMT tSt_draw := ytok (P := pSt) (init := false) okSt (fun h => (by cases h)) (by decide +kernel) rfl (by decide +kernel)
set_option maxRecDepth 100000 in
theorem k2St_passMinutes : yTok xMT tSt_passMinutes := ytok (P := pSt) (init := false) okSt (fun h => (by cases h)) (by decide +kernel) rfl (by decide +kernel)
set_option maxRecDepth 100000 in
theorem k2St_passMinute : yTok xMT tSt_passMinute := ytok (P := pSt) (init := false) okSt (fun h => (by cases h)) (by decide +kernel) rfl (by decide +kernel)
set_option maxRecDepth 100000 in
theorem k2St_flow : yTok xMT tSt_flow := ytok (P := pSt) (init := false) okSt (fun h => (by cases h)) (by decide +kernel) rfl (by decide +kernel)
set_option maxRecDepth 100000 in
theorem k2St_flowBetween : yTok xMT tSt_flowBetween := ytok (P := pSt) (init := false) okSt (fun h => (by cases h)) (by decide +kernel) rfl (by decide +kernel)
set_option maxRecDepth 100000 in
theorem k2St_addWarmth : yTok xMT tSt_addWarmth := ytok (P := pSt) (init := false) okSt (fun h => (by cases h)) (by decide +kernel) rfl (by decide +kernel)
set_option maxRecDepth 100000 in
theorem k2St_coolDown : yTok xMT tSt_coolDown := ytok (P := pSt) (init := false) okSt (fun h => (by cases h)) (by decide +kernel) rfl (by decide +kernel)
set_option maxRecDepth 100000 in
theorem k2St_feel : yTok xMT tSt_feel := ytok (P := pSt) (init := false) okSt (fun h => (by cases h)) (by decide +kernel) rfl (by decide +kernel)
set_option maxRecDepth 100000 in
theorem k2St_takeCells : yTok xMT tSt_takeCells := ytok (P := pSt) (init := false) okSt (fun h => (by cases h)) (by decide +kernel) rfl (by decide +kernel)
set_option maxRecDepth 100000 in
theorem k2St_coldestFeeling : yTok xMT tSt_coldestFeeling := ytok (P := pSt) (init := false) okSt (fun h => (by cases h)) (by decide +kernel) rfl (by decide +kernel)
set_option maxRecDepth 100000 in
theorem k2St_keepLaw : yTok xMT tSt_keepLaw := ytok (P := pSt) (init := false) okSt (fun h => (by cases h)) (by decide +kernel) rfl (by decide +kernel)
set_option maxRecDepth 100000 in
theorem k2St_endOwning : yTok xMT tSt_endOwning := ytok (P := pSt) (init := false) okSt (fun h => (by cases h)) (by decide +kernel) rfl (by decide +kernel)
set_option maxRecDepth 100000 in
theorem k2St_makePartners : yTok xMT tSt_makePartners := ytok (P := pSt) (init := false) okSt (fun h => (by cases h)) (by decide +kernel) rfl (by decide +kernel)
set_option maxRecDepth 100000 in
theorem k2St_isDear : yTok xMT tSt_isDear := ytok (P := pSt) (init := false) okSt (fun h => (by cases h)) (by decide +kernel) rfl (by decide +kernel)
set_option maxRecDepth 100000 in
theorem k2St_oweForWarmth : yTok xMT tSt_oweForWarmth := ytok (P := pSt) (init := false) okSt (fun h => (by cases h)) (by decide +kernel) rfl (by decide +kernel)
set_option maxRecDepth 100000 in
theorem k2St_warmSkins : yTok xMT tSt_warmSkins := ytok (P := pSt) (init := false) okSt (fun h => (by cases h)) (by decide +kernel) rfl (by decide +kernel)
set_option maxRecDepth 100000 in
theorem k2St_leaveDearCells : yTok xMT tSt_leaveDearCells := ytok (P := pSt) (init := false) okSt (fun h => (by cases h)) (by decide +kernel) rfl (by decide +kernel)
set_option maxRecDepth 100000 in
theorem k2St_refuge : yTok xMT tSt_refuge := ytok (P := pSt) (init := false) okSt (fun h => (by cases h)) (by decide +kernel) rfl (by decide +kernel)
set_option maxRecDepth 100000 in
theorem k2To_init : yTok xMT tTo_init := ytok (P := pTo) (init := true) okTo (fun _ => rfl) (by decide +kernel) rfl (by decide +kernel)
set_option maxRecDepth 100000 in
theorem k2To_begin : yTok xMT tTo_begin := ytok (P := pTo) (init := false) okTo (fun h => (by cases h)) (by decide +kernel) rfl (by decide +kernel)
set_option maxRecDepth 100000 in
theorem k2To_finish : yTok xMT tTo_finish := ytok (P := pTo) (init := false) okTo (fun h => (by cases h)) (by decide +kernel) rfl (by decide +kernel)
set_option maxRecDepth 100000 in
theorem k2Tw_init : yTok xMT tTw_init := ytok (P := pTw) (init := true) okTw (fun _ => rfl) (by decide +kernel) rfl (by decide +kernel)
set_option maxRecDepth 100000 in
theorem k2Tw_clear : yTok xMT tTw_clear := ytok (P := pTw) (init := false) okTw (fun h => (by cases h)) (by decide +kernel) rfl (by decide +kernel)
set_option maxRecDepth 100000 in
theorem k2Tw_setSize : yTok xMT tTw_setSize := ytok (P := pTw) (init := false) okTw (fun h => (by cases h)) (by decide +kernel) rfl (by decide +kernel)
set_option maxRecDepth 100000 in
theorem k2Tw_cells : yTok xMT tTw_cells := ytok (P := pTw) (init := false) okTw (fun h => (by cases h)) (by decide +kernel) rfl (by decide +kernel)
set_option maxRecDepth 100000 in
theorem k2Tw_cellAt : yTok xMT tTw_cellAt := ytok (P := pTw) (init := false) okTw (fun h => (by cases h)) (by decide +kernel) rfl (by decide +kernel)
set_option maxRecDepth 100000 in
theorem k2Tw_cellOfPair : yTok xMT tTw_cellOfPair := ytok (P := pTw) (init := false) okTw (fun h => (by cases h)) (by decide +kernel) rfl (by decide +kernel)
set_option maxRecDepth 100000 in
theorem k2Tw_pairOf : yTok xMT tTw_pairOf := ytok (P := pTw) (init := false) okTw (fun h => (by cases h)) (by decide +kernel) rfl (by decide +kernel)
set_option maxRecDepth 100000 in
theorem k2Tw_beside : yTok xMT tTw_beside := ytok (P := pTw) (init := false) okTw (fun h => (by cases h)) (by decide +kernel) rfl (by decide +kernel)
set_option maxRecDepth 100000 in
theorem k2Tw_sunAt : yTok xMT tTw_sunAt := ytok (P := pTw) (init := false) okTw (fun h => (by cases h)) (by decide +kernel) rfl (by decide +kernel)
set_option maxRecDepth 100000 in
theorem k2Ff_init : yTok xMT tFf_init := ytok (P := pFf) (init := true) okFf (fun _ => rfl) (by decide +kernel) rfl (by decide +kernel)
set_option maxRecDepth 100000 in
theorem k2Ff_feed : yTok xMT tFf_feed := ytok (P := pFf) (init := false) okFf (fun h => (by cases h)) (by decide +kernel) rfl (by decide +kernel)
set_option maxRecDepth 100000 in
theorem k2Ff_town : yTok xMT tFf_town := ytok (P := pFf) (init := false) okFf (fun h => (by cases h)) (by decide +kernel) rfl (by decide +kernel)
set_option maxRecDepth 100000 in
theorem k2Ff_fault : yTok xMT tFf_fault := ytok (P := pFf) (init := false) okFf (fun h => (by cases h)) (by decide +kernel) rfl (by decide +kernel)
set_option maxRecDepth 100000 in
theorem k2Ff_told : yTok xMT tFf_told := ytok (P := pFf) (init := false) okFf (fun h => (by cases h)) (by decide +kernel) rfl (by decide +kernel)
set_option maxRecDepth 100000 in
theorem k2Ff_cell : yTok xMT tFf_cell := ytok (P := pFf) (init := false) okFf (fun h => (by cases h)) (by decide +kernel) rfl (by decide +kernel)
set_option maxRecDepth 100000 in
theorem k2Ff_wall : yTok xMT tFf_wall := ytok (P := pFf) (init := false) okFf (fun h => (by cases h)) (by decide +kernel) rfl (by decide +kernel)
set_option maxRecDepth 100000 in
theorem k2Ff_stove : yTok xMT tFf_stove := ytok (P := pFf) (init := false) okFf (fun h => (by cases h)) (by decide +kernel) rfl (by decide +kernel)
set_option maxRecDepth 100000 in
theorem k2Ff_person : yTok xMT tFf_person := ytok (P := pFf) (init := false) okFf (fun h => (by cases h)) (by decide +kernel) rfl (by decide +kernel)
set_option maxRecDepth 100000 in
theorem k2Ff_go : yTok xMT tFf_go := ytok (P := pFf) (init := false) okFf (fun h => (by cases h)) (by decide +kernel) rfl (by decide +kernel)
set_option maxRecDepth 100000 in
theorem k2Ff_build : yTok xMT tFf_build := ytok (P := pFf) (init := false) okFf (fun h => (by cases h)) (by decide +kernel) rfl (by decide +kernel)
set_option maxRecDepth 100000 in
theorem k2Ff_light : yTok xMT tFf_light := ytok (P := pFf) (init := false) okFf (fun h => (by cases h)) (by decide +kernel) rfl (by decide +kernel)
set_option maxRecDepth 100000 in
theorem k2Ff_stoke : yTok xMT tFf_stoke := ytok (P := pFf) (init := false) okFf (fun h => (by cases h)) (by decide +kernel) rfl (by decide +kernel)
set_option maxRecDepth 100000 in
theorem k2Ff_law : yTok xMT tFf_law := ytok (P := pFf) (init := false) okFf (fun h => (by cases h)) (by decide +kernel) rfl (by decide +kernel)
set_option maxRecDepth 100000 in
theorem k2Ff_last : yTok xMT tFf_last := ytok (P := pFf) (init := false) okFf (fun h => (by cases h)) (by decide +kernel) rfl (by decide +kernel)
set_option maxRecDepth 100000 in
theorem k2Ff_minute : yTok xMT tFf_minute := ytok (P := pFf) (init := false) okFf (fun h => (by cases h)) (by decide +kernel) rfl (by decide +kernel)
set_option maxRecDepth 100000 in
theorem k2Ff_drift : yTok xMT tFf_drift := ytok (P := pFf) (init := false) okFf (fun h => (by cases h)) (by decide +kernel) rfl (by decide +kernel)
set_option maxRecDepth 100000 in
theorem k2Ff_then : yTok xMT tFf_then := ytok (P := pFf) (init := false) okFf (fun h => (by cases h)) (by decide +kernel) rfl (by decide +kernel)
set_option maxRecDepth 100000 in
theorem k2Ff_stands : yTok xMT tFf_stands := ytok (P := pFf) (init := false) okFf (fun h => (by cases h)) (by decide +kernel) rfl (by decide +kernel)
set_option maxRecDepth 100000 in
theorem k2Ff_lightFor : yTok xMT tFf_lightFor := ytok (P := pFf) (init := false) okFf (fun h => (by cases h)) (by decide +kernel) rfl (by decide +kernel)
set_option maxRecDepth 100000 in
theorem k2Ff_keptOut : yTok xMT tFf_keptOut := ytok (P := pFf) (init := false) okFf (fun h => (by cases h)) (by decide +kernel) rfl (by decide +kernel)
set_option maxRecDepth 100000 in
theorem k2Ff_gain : yTok xMT tFf_gain := ytok (P := pFf) (init := false) okFf (fun h => (by cases h)) (by decide +kernel) rfl (by decide +kernel)
set_option maxRecDepth 100000 in
theorem k2Ff_rents : yTok xMT tFf_rents := ytok (P := pFf) (init := false) okFf (fun h => (by cases h)) (by decide +kernel) rfl (by decide +kernel)
set_option maxRecDepth 100000 in
theorem k2Ff_claim : yTok xMT tFf_claim := ytok (P := pFf) (init := false) okFf (fun h => (by cases h)) (by decide +kernel) rfl (by decide +kernel)
set_option maxRecDepth 100000 in
theorem k2Ff_forged : yTok xMT tFf_forged := ytok (P := pFf) (init := false) okFf (fun h => (by cases h)) (by decide +kernel) rfl (by decide +kernel)
set_option maxRecDepth 100000 in
theorem k2Ff_cold : yTok xMT tFf_cold := ytok (P := pFf) (init := false) okFf (fun h => (by cases h)) (by decide +kernel) rfl (by decide +kernel)
set_option maxRecDepth 100000 in
theorem k2Ff_mildest : yTok xMT tFf_mildest := ytok (P := pFf) (init := false) okFf (fun h => (by cases h)) (by decide +kernel) rfl (by decide +kernel)
set_option maxRecDepth 100000 in
theorem k2Ff_deed : yTok xMT tFf_deed := ytok (P := pFf) (init := false) okFf (fun h => (by cases h)) (by decide +kernel) rfl (by decide +kernel)
set_option maxRecDepth 100000 in
theorem k2Ff_wasLit : yTok xMT tFf_wasLit := ytok (P := pFf) (init := false) okFf (fun h => (by cases h)) (by decide +kernel) rfl (by decide +kernel)
set_option maxRecDepth 100000 in
theorem k2Ff_tear : yTok xMT tFf_tear := ytok (P := pFf) (init := false) okFf (fun h => (by cases h)) (by decide +kernel) rfl (by decide +kernel)
set_option maxRecDepth 100000 in
theorem k2Ff_seed : yTok xMT tFf_seed := ytok (P := pFf) (init := false) okFf (fun h => (by cases h)) (by decide +kernel) rfl (by decide +kernel)
set_option maxRecDepth 100000 in
theorem k2Ff_keep : yTok xMT tFf_keep := ytok (P := pFf) (init := false) okFf (fun h => (by cases h)) (by decide +kernel) rfl (by decide +kernel)
set_option maxRecDepth 100000 in
theorem k2Ff_goBack : yTok xMT tFf_goBack := ytok (P := pFf) (init := false) okFf (fun h => (by cases h)) (by decide +kernel) rfl (by decide +kernel)
set_option maxRecDepth 100000 in
theorem k2Ff_isPerson : yTok xMT tFf_isPerson := ytok (P := pFf) (init := false) okFf (fun h => (by cases h)) (by decide +kernel) rfl (by decide +kernel)
set_option maxRecDepth 100000 in
theorem k2Ff_isStove : yTok xMT tFf_isStove := ytok (P := pFf) (init := false) okFf (fun h => (by cases h)) (by decide +kernel) rfl (by decide +kernel)
set_option maxRecDepth 100000 in
theorem k2Ff_isLaw : yTok xMT tFf_isLaw := ytok (P := pFf) (init := false) okFf (fun h => (by cases h)) (by decide +kernel) rfl (by decide +kernel)
set_option maxRecDepth 100000 in
theorem k2Ff_isSpan : yTok xMT tFf_isSpan := ytok (P := pFf) (init := false) okFf (fun h => (by cases h)) (by decide +kernel) rfl (by decide +kernel)
set_option maxRecDepth 100000 in
theorem k2Ff_refusalOfWall : yTok xMT tFf_refusalOfWall := ytok (P := pFf) (init := false) okFf (fun h => (by cases h)) (by decide +kernel) rfl (by decide +kernel)
set_option maxRecDepth 100000 in
theorem k2Ff_refusalOfMinutes : yTok xMT tFf_refusalOfMinutes := ytok (P := pFf) (init := false) okFf (fun h => (by cases h)) (by decide +kernel) rfl (by decide +kernel)
set_option maxRecDepth 100000 in
theorem k2Ff_refusalOfLighting : yTok xMT tFf_refusalOfLighting := ytok (P := pFf) (init := false) okFf (fun h => (by cases h)) (by decide +kernel) rfl (by decide +kernel)
set_option maxRecDepth 100000 in
theorem k2Ff_wayOfWall : yTok xMT tFf_wayOfWall := ytok (P := pFf) (init := false) okFf (fun h => (by cases h)) (by decide +kernel) rfl (by decide +kernel)
set_option maxRecDepth 100000 in
theorem k2Ff_wander : yTok xMT tFf_wander := ytok (P := pFf) (init := false) okFf (fun h => (by cases h)) (by decide +kernel) rfl (by decide +kernel)
set_option maxRecDepth 100000 in
theorem k2Ff_ownsStove : yTok xMT tFf_ownsStove := ytok (P := pFf) (init := false) okFf (fun h => (by cases h)) (by decide +kernel) rfl (by decide +kernel)
set_option maxRecDepth 100000 in
theorem k2Ff_ownedWithWall : yTok xMT tFf_ownedWithWall := ytok (P := pFf) (init := false) okFf (fun h => (by cases h)) (by decide +kernel) rfl (by decide +kernel)
set_option maxRecDepth 100000 in
theorem k2Ff_countFreezing : yTok xMT tFf_countFreezing := ytok (P := pFf) (init := false) okFf (fun h => (by cases h)) (by decide +kernel) rfl (by decide +kernel)
set_option maxRecDepth 100000 in
theorem k2Ff_fitsLitNow : yTok xMT tFf_fitsLitNow := ytok (P := pFf) (init := false) okFf (fun h => (by cases h)) (by decide +kernel) rfl (by decide +kernel)
set_option maxRecDepth 100000 in
theorem k2Ff_tryWays : yTok xMT tFf_tryWays := ytok (P := pFf) (init := false) okFf (fun h => (by cases h)) (by decide +kernel) rfl (by decide +kernel)
set_option maxRecDepth 100000 in
theorem k2Mo_init : yTok xMT tMo_init := ytok (P := pMo) (init := true) okMo (fun _ => rfl) (by decide +kernel) rfl (by decide +kernel)
set_option maxRecDepth 100000 in
theorem k2Mo_in : yTok xMT tMo_in := ytok (P := pMo) (init := false) okMo (fun h => (by cases h)) (by decide +kernel) rfl (by decide +kernel)
set_option maxRecDepth 100000 in
theorem k2Mo_emptyNow : yTok xMT tMo_emptyNow := ytok (P := pMo) (init := false) okMo (fun h => (by cases h)) (by decide +kernel) rfl (by decide +kernel)
set_option maxRecDepth 100000 in
theorem k2Mo_cells : yTok xMT tMo_cells := ytok (P := pMo) (init := false) okMo (fun h => (by cases h)) (by decide +kernel) rfl (by decide +kernel)
set_option maxRecDepth 100000 in
theorem k2Mo_isCell : yTok xMT tMo_isCell := ytok (P := pMo) (init := false) okMo (fun h => (by cases h)) (by decide +kernel) rfl (by decide +kernel)
set_option maxRecDepth 100000 in
theorem k2Mo_isPerson : yTok xMT tMo_isPerson := ytok (P := pMo) (init := false) okMo (fun h => (by cases h)) (by decide +kernel) rfl (by decide +kernel)
set_option maxRecDepth 100000 in
theorem k2Mo_isStove : yTok xMT tMo_isStove := ytok (P := pMo) (init := false) okMo (fun h => (by cases h)) (by decide +kernel) rfl (by decide +kernel)
set_option maxRecDepth 100000 in
theorem k2Mo_named : yTok xMT tMo_named := ytok (P := pMo) (init := false) okMo (fun h => (by cases h)) (by decide +kernel) rfl (by decide +kernel)
set_option maxRecDepth 100000 in
theorem k2Mo_cellOf : yTok xMT tMo_cellOf := ytok (P := pMo) (init := false) okMo (fun h => (by cases h)) (by decide +kernel) rfl (by decide +kernel)
set_option maxRecDepth 100000 in
theorem k2Mo_feed : yTok xMT tMo_feed := ytok (P := pMo) (init := false) okMo (fun h => (by cases h)) (by decide +kernel) rfl (by decide +kernel)
set_option maxRecDepth 100000 in
theorem k2Mo_isFigure : yTok xMT tMo_isFigure := ytok (P := pMo) (init := false) okMo (fun h => (by cases h)) (by decide +kernel) rfl (by decide +kernel)
set_option maxRecDepth 100000 in
theorem k2Mo_look : yTok xMT tMo_look := ytok (P := pMo) (init := false) okMo (fun h => (by cases h)) (by decide +kernel) rfl (by decide +kernel)
set_option maxRecDepth 100000 in
theorem k2Mo_goOn : yTok xMT tMo_goOn := ytok (P := pMo) (init := false) okMo (fun h => (by cases h)) (by decide +kernel) rfl (by decide +kernel)
set_option maxRecDepth 100000 in
theorem k2Mo_faults : yTok xMT tMo_faults := ytok (P := pMo) (init := false) okMo (fun h => (by cases h)) (by decide +kernel) rfl (by decide +kernel)
set_option maxRecDepth 100000 in
theorem k2Mo_takes : yTok xMT tMo_takes := ytok (P := pMo) (init := false) okMo (fun h => (by cases h)) (by decide +kernel) rfl (by decide +kernel)
set_option maxRecDepth 100000 in
theorem k2Mo_stops : yTok xMT tMo_stops := ytok (P := pMo) (init := false) okMo (fun h => (by cases h)) (by decide +kernel) rfl (by decide +kernel)
set_option maxRecDepth 100000 in
theorem k2Mo_takesX : yTok xMT tMo_takesX := ytok (P := pMo) (init := false) okMo (fun h => (by cases h)) (by decide +kernel) rfl (by decide +kernel)
set_option maxRecDepth 100000 in
theorem k2Mo_seesY : yTok xMT tMo_seesY := ytok (P := pMo) (init := false) okMo (fun h => (by cases h)) (by decide +kernel) rfl (by decide +kernel)
set_option maxRecDepth 100000 in
theorem k2Mo_readsTown : yTok xMT tMo_readsTown := ytok (P := pMo) (init := false) okMo (fun h => (by cases h)) (by decide +kernel) rfl (by decide +kernel)
set_option maxRecDepth 100000 in
theorem k2Mo_readsWall : yTok xMT tMo_readsWall := ytok (P := pMo) (init := false) okMo (fun h => (by cases h)) (by decide +kernel) rfl (by decide +kernel)
set_option maxRecDepth 100000 in
theorem k2Mo_readsStove : yTok xMT tMo_readsStove := ytok (P := pMo) (init := false) okMo (fun h => (by cases h)) (by decide +kernel) rfl (by decide +kernel)
set_option maxRecDepth 100000 in
theorem k2Mo_readsRoof : yTok xMT tMo_readsRoof := ytok (P := pMo) (init := false) okMo (fun h => (by cases h)) (by decide +kernel) rfl (by decide +kernel)
set_option maxRecDepth 100000 in
theorem k2Mo_readsSun : yTok xMT tMo_readsSun := ytok (P := pMo) (init := false) okMo (fun h => (by cases h)) (by decide +kernel) rfl (by decide +kernel)
set_option maxRecDepth 100000 in
theorem k2Mo_readsPerson : yTok xMT tMo_readsPerson := ytok (P := pMo) (init := false) okMo (fun h => (by cases h)) (by decide +kernel) rfl (by decide +kernel)
set_option maxRecDepth 100000 in
theorem k2Mo_readsClause : yTok xMT tMo_readsClause := ytok (P := pMo) (init := false) okMo (fun h => (by cases h)) (by decide +kernel) rfl (by decide +kernel)
set_option maxRecDepth 100000 in
theorem k2Mo_readsAll : yTok xMT tMo_readsAll := ytok (P := pMo) (init := false) okMo (fun h => (by cases h)) (by decide +kernel) rfl (by decide +kernel)
set_option maxRecDepth 100000 in
theorem k2Mo_town : yTok xMT tMo_town := ytok (P := pMo) (init := false) okMo (fun h => (by cases h)) (by decide +kernel) rfl (by decide +kernel)
set_option maxRecDepth 100000 in
theorem k2Mo_fault : yTok xMT tMo_fault := ytok (P := pMo) (init := false) okMo (fun h => (by cases h)) (by decide +kernel) rfl (by decide +kernel)
set_option maxRecDepth 100000 in
theorem k2Mo_wallsNow : yTok xMT tMo_wallsNow := ytok (P := pMo) (init := false) okMo (fun h => (by cases h)) (by decide +kernel) rfl (by decide +kernel)
set_option maxRecDepth 100000 in
theorem k2Mo_sunAt : yTok xMT tMo_sunAt := ytok (P := pMo) (init := false) okMo (fun h => (by cases h)) (by decide +kernel) rfl (by decide +kernel)
set_option maxRecDepth 100000 in
theorem k2Mo_told : yTok xMT tMo_told := ytok (P := pMo) (init := false) okMo (fun h => (by cases h)) (by decide +kernel) rfl (by decide +kernel)
set_option maxRecDepth 100000 in
theorem k2Mo_onCell : yTok xMT tMo_onCell := ytok (P := pMo) (init := false) okMo (fun h => (by cases h)) (by decide +kernel) rfl (by decide +kernel)
set_option maxRecDepth 100000 in
theorem k2Mo_cell : yTok xMT tMo_cell := ytok (P := pMo) (init := false) okMo (fun h => (by cases h)) (by decide +kernel) rfl (by decide +kernel)
set_option maxRecDepth 100000 in
theorem k2Mo_notWall : yTok xMT tMo_notWall := ytok (P := pMo) (init := false) okMo (fun h => (by cases h)) (by decide +kernel) rfl (by decide +kernel)
set_option maxRecDepth 100000 in
theorem k2Mo_wall : yTok xMT tMo_wall := ytok (P := pMo) (init := false) okMo (fun h => (by cases h)) (by decide +kernel) rfl (by decide +kernel)
set_option maxRecDepth 100000 in
theorem k2Mo_stove : yTok xMT tMo_stove := ytok (P := pMo) (init := false) okMo (fun h => (by cases h)) (by decide +kernel) rfl (by decide +kernel)
set_option maxRecDepth 100000 in
theorem k2Mo_owns : yTok xMT tMo_owns := ytok (P := pMo) (init := false) okMo (fun h => (by cases h)) (by decide +kernel) rfl (by decide +kernel)
set_option maxRecDepth 100000 in
theorem k2Mo_person : yTok xMT tMo_person := ytok (P := pMo) (init := false) okMo (fun h => (by cases h)) (by decide +kernel) rfl (by decide +kernel)
set_option maxRecDepth 100000 in
theorem k2Mo_way : yTok xMT tMo_way := ytok (P := pMo) (init := false) okMo (fun h => (by cases h)) (by decide +kernel) rfl (by decide +kernel)
set_option maxRecDepth 100000 in
theorem k2Mo_go : yTok xMT tMo_go := ytok (P := pMo) (init := false) okMo (fun h => (by cases h)) (by decide +kernel) rfl (by decide +kernel)
set_option maxRecDepth 100000 in
theorem k2Mo_build : yTok xMT tMo_build := ytok (P := pMo) (init := false) okMo (fun h => (by cases h)) (by decide +kernel) rfl (by decide +kernel)
set_option maxRecDepth 100000 in
theorem k2Mo_canBeLit : yTok xMT tMo_canBeLit := ytok (P := pMo) (init := false) okMo (fun h => (by cases h)) (by decide +kernel) rfl (by decide +kernel)
set_option maxRecDepth 100000 in
theorem k2Mo_light : yTok xMT tMo_light := ytok (P := pMo) (init := false) okMo (fun h => (by cases h)) (by decide +kernel) rfl (by decide +kernel)
set_option maxRecDepth 100000 in
theorem k2Mo_stoke : yTok xMT tMo_stoke := ytok (P := pMo) (init := false) okMo (fun h => (by cases h)) (by decide +kernel) rfl (by decide +kernel)
set_option maxRecDepth 100000 in
theorem k2Mo_law : yTok xMT tMo_law := ytok (P := pMo) (init := false) okMo (fun h => (by cases h)) (by decide +kernel) rfl (by decide +kernel)
set_option maxRecDepth 100000 in
theorem k2Mo_last : yTok xMT tMo_last := ytok (P := pMo) (init := false) okMo (fun h => (by cases h)) (by decide +kernel) rfl (by decide +kernel)
set_option maxRecDepth 100000 in
theorem k2Mo_flows : yTok xMT tMo_flows := ytok (P := pMo) (init := false) okMo (fun h => (by cases h)) (by decide +kernel) rfl (by decide +kernel)
set_option maxRecDepth 100000 in
theorem k2Mo_goHeat : yTok xMT tMo_goHeat := ytok (P := pMo) (init := false) okMo (fun h => (by cases h)) (by decide +kernel) rfl (by decide +kernel)
set_option maxRecDepth 100000 in
theorem k2Mo_feel : yTok xMT tMo_feel := ytok (P := pMo) (init := false) okMo (fun h => (by cases h)) (by decide +kernel) rfl (by decide +kernel)
set_option maxRecDepth 100000 in
theorem k2Mo_feelsOn : yTok xMT tMo_feelsOn := ytok (P := pMo) (init := false) okMo (fun h => (by cases h)) (by decide +kernel) rfl (by decide +kernel)
set_option maxRecDepth 100000 in
theorem k2Mo_own : yTok xMT tMo_own := ytok (P := pMo) (init := false) okMo (fun h => (by cases h)) (by decide +kernel) rfl (by decide +kernel)
set_option maxRecDepth 100000 in
theorem k2Mo_goLaw : yTok xMT tMo_goLaw := ytok (P := pMo) (init := false) okMo (fun h => (by cases h)) (by decide +kernel) rfl (by decide +kernel)
set_option maxRecDepth 100000 in
theorem k2Mo_arePartners : yTok xMT tMo_arePartners := ytok (P := pMo) (init := false) okMo (fun h => (by cases h)) (by decide +kernel) rfl (by decide +kernel)
set_option maxRecDepth 100000 in
theorem k2Mo_isOwedFor : yTok xMT tMo_isOwedFor := ytok (P := pMo) (init := false) okMo (fun h => (by cases h)) (by decide +kernel) rfl (by decide +kernel)
set_option maxRecDepth 100000 in
theorem k2Mo_owe : yTok xMT tMo_owe := ytok (P := pMo) (init := false) okMo (fun h => (by cases h)) (by decide +kernel) rfl (by decide +kernel)
set_option maxRecDepth 100000 in
theorem k2Mo_goMinute : yTok xMT tMo_goMinute := ytok (P := pMo) (init := false) okMo (fun h => (by cases h)) (by decide +kernel) rfl (by decide +kernel)
set_option maxRecDepth 100000 in
theorem k2Mo_goMinutes : yTok xMT tMo_goMinutes := ytok (P := pMo) (init := false) okMo (fun h => (by cases h)) (by decide +kernel) rfl (by decide +kernel)
set_option maxRecDepth 100000 in
theorem k2Mo_notMinutes : yTok xMT tMo_notMinutes := ytok (P := pMo) (init := false) okMo (fun h => (by cases h)) (by decide +kernel) rfl (by decide +kernel)
set_option maxRecDepth 100000 in
theorem k2Mo_minute : yTok xMT tMo_minute := ytok (P := pMo) (init := false) okMo (fun h => (by cases h)) (by decide +kernel) rfl (by decide +kernel)
set_option maxRecDepth 100000 in
theorem k2Mo_draw : yTok xMT tMo_draw := ytok (P := pMo) (init := false) okMo (fun h => (by cases h)) (by decide +kernel) rfl (by decide +kernel)
set_option maxRecDepth 100000 in
theorem k2Mo_driftOne : yTok xMT tMo_driftOne := ytok (P := pMo) (init := false) okMo (fun h => (by cases h)) (by decide +kernel) rfl (by decide +kernel)
set_option maxRecDepth 100000 in
theorem k2Mo_drift : yTok xMT tMo_drift := ytok (P := pMo) (init := false) okMo (fun h => (by cases h)) (by decide +kernel) rfl (by decide +kernel)
set_option maxRecDepth 100000 in
theorem k2Mo_start : yTok xMT tMo_start := ytok (P := pMo) (init := false) okMo (fun h => (by cases h)) (by decide +kernel) rfl (by decide +kernel)
set_option maxRecDepth 100000 in
theorem k2Mo_back : yTok xMT tMo_back := ytok (P := pMo) (init := false) okMo (fun h => (by cases h)) (by decide +kernel) rfl (by decide +kernel)
set_option maxRecDepth 100000 in
theorem k2Mo_then : yTok xMT tMo_then := ytok (P := pMo) (init := false) okMo (fun h => (by cases h)) (by decide +kernel) rfl (by decide +kernel)
set_option maxRecDepth 100000 in
theorem k2Mo_power : yTok xMT tMo_power := ytok (P := pMo) (init := false) okMo (fun h => (by cases h)) (by decide +kernel) rfl (by decide +kernel)
set_option maxRecDepth 100000 in
theorem k2Mo_ownsBy : yTok xMT tMo_ownsBy := ytok (P := pMo) (init := false) okMo (fun h => (by cases h)) (by decide +kernel) rfl (by decide +kernel)
set_option maxRecDepth 100000 in
theorem k2Mo_stands : yTok xMT tMo_stands := ytok (P := pMo) (init := false) okMo (fun h => (by cases h)) (by decide +kernel) rfl (by decide +kernel)
set_option maxRecDepth 100000 in
theorem k2Mo_notStove : yTok xMT tMo_notStove := ytok (P := pMo) (init := false) okMo (fun h => (by cases h)) (by decide +kernel) rfl (by decide +kernel)
set_option maxRecDepth 100000 in
theorem k2Mo_lightFor : yTok xMT tMo_lightFor := ytok (P := pMo) (init := false) okMo (fun h => (by cases h)) (by decide +kernel) rfl (by decide +kernel)
set_option maxRecDepth 100000 in
theorem k2Mo_ownsWithout : yTok xMT tMo_ownsWithout := ytok (P := pMo) (init := false) okMo (fun h => (by cases h)) (by decide +kernel) rfl (by decide +kernel)
set_option maxRecDepth 100000 in
theorem k2Mo_keptOut : yTok xMT tMo_keptOut := ytok (P := pMo) (init := false) okMo (fun h => (by cases h)) (by decide +kernel) rfl (by decide +kernel)
set_option maxRecDepth 100000 in
theorem k2Mo_gain : yTok xMT tMo_gain := ytok (P := pMo) (init := false) okMo (fun h => (by cases h)) (by decide +kernel) rfl (by decide +kernel)
set_option maxRecDepth 100000 in
theorem k2Mo_isLet : yTok xMT tMo_isLet := ytok (P := pMo) (init := false) okMo (fun h => (by cases h)) (by decide +kernel) rfl (by decide +kernel)
set_option maxRecDepth 100000 in
theorem k2Mo_brings : yTok xMT tMo_brings := ytok (P := pMo) (init := false) okMo (fun h => (by cases h)) (by decide +kernel) rfl (by decide +kernel)
set_option maxRecDepth 100000 in
theorem k2Mo_bestRent : yTok xMT tMo_bestRent := ytok (P := pMo) (init := false) okMo (fun h => (by cases h)) (by decide +kernel) rfl (by decide +kernel)
set_option maxRecDepth 100000 in
theorem k2Mo_rents : yTok xMT tMo_rents := ytok (P := pMo) (init := false) okMo (fun h => (by cases h)) (by decide +kernel) rfl (by decide +kernel)
set_option maxRecDepth 100000 in
theorem k2Mo_claim : yTok xMT tMo_claim := ytok (P := pMo) (init := false) okMo (fun h => (by cases h)) (by decide +kernel) rfl (by decide +kernel)
set_option maxRecDepth 100000 in
theorem k2Mo_forged : yTok xMT tMo_forged := ytok (P := pMo) (init := false) okMo (fun h => (by cases h)) (by decide +kernel) rfl (by decide +kernel)
set_option maxRecDepth 100000 in
theorem k2Mo_leaveWarm : yTok xMT tMo_leaveWarm := ytok (P := pMo) (init := false) okMo (fun h => (by cases h)) (by decide +kernel) rfl (by decide +kernel)
set_option maxRecDepth 100000 in
theorem k2Mo_coldBy : yTok xMT tMo_coldBy := ytok (P := pMo) (init := false) okMo (fun h => (by cases h)) (by decide +kernel) rfl (by decide +kernel)
set_option maxRecDepth 100000 in
theorem k2Mo_cold : yTok xMT tMo_cold := ytok (P := pMo) (init := false) okMo (fun h => (by cases h)) (by decide +kernel) rfl (by decide +kernel)
set_option maxRecDepth 100000 in
theorem k2Mo_mildest : yTok xMT tMo_mildest := ytok (P := pMo) (init := false) okMo (fun h => (by cases h)) (by decide +kernel) rfl (by decide +kernel)
set_option maxRecDepth 100000 in
theorem k2Mo_deed : yTok xMT tMo_deed := ytok (P := pMo) (init := false) okMo (fun h => (by cases h)) (by decide +kernel) rfl (by decide +kernel)
set_option maxRecDepth 100000 in
theorem k2Mo_areDeeds : yTok xMT tMo_areDeeds := ytok (P := pMo) (init := false) okMo (fun h => (by cases h)) (by decide +kernel) rfl (by decide +kernel)
set_option maxRecDepth 100000 in
theorem k2Mo_wasLit : yTok xMT tMo_wasLit := ytok (P := pMo) (init := false) okMo (fun h => (by cases h)) (by decide +kernel) rfl (by decide +kernel)
set_option maxRecDepth 100000 in
theorem k2Mo_tear : yTok xMT tMo_tear := ytok (P := pMo) (init := false) okMo (fun h => (by cases h)) (by decide +kernel) rfl (by decide +kernel)
set_option maxRecDepth 100000 in
theorem k2Mo_seed : yTok xMT tMo_seed := ytok (P := pMo) (init := false) okMo (fun h => (by cases h)) (by decide +kernel) rfl (by decide +kernel)
set_option maxRecDepth 100000 in
theorem k2Mo_keep : yTok xMT tMo_keep := ytok (P := pMo) (init := false) okMo (fun h => (by cases h)) (by decide +kernel) rfl (by decide +kernel)
set_option maxRecDepth 100000 in
theorem k2Mo_goBack : yTok xMT tMo_goBack := ytok (P := pMo) (init := false) okMo (fun h => (by cases h)) (by decide +kernel) rfl (by decide +kernel)
set_option maxRecDepth 100000 in
theorem k2Jd_bitCount : yTok xMT tJd_bitCount := ytok (P := pjava_lang_Integer) (init := false) okjava_lang_Integer (fun h => (by cases h)) (by decide +kernel) rfl (by decide +kernel)
set_option maxRecDepth 100000 in
theorem k2Jd_fill : yTok xMT tJd_fill := ytok (P := pjava_util_Arrays) (init := false) okjava_util_Arrays (fun h => (by cases h)) (by decide +kernel) rfl (by decide +kernel)
