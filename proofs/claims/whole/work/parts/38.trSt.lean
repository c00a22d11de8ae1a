abbrev aSt_clear (d : Nat) (lim : Nat × Nat) (Q : xQ) : xK := xAt xMks tSt_clear (cal d) lim Q
def kSt_clear : List (Nat × List Bool) := [(61, [true]), (66, [true]), (71, [true])]
set_option maxRecDepth 20000 in
theorem wSt_clear_0 {d : Nat} {lim : Nat × Nat} {Q : xQ} {l0 : Nat} {g : xG} {w : xW} (t : xIs g l0 (0, 3) ∧ 
  cal d nJd_fill [xr (g.2 l0 2), xi (-1)] g w (fun r g1 w1 => r = none ∧ xIs g1 l0 (0, 3) ∧ 
    cal d nJd_fill [xr (g1.2 l0 3), xi 0] g1 w1 (fun r g2 w2 => r = none ∧ xIs g2 l0 (0, 3) ∧ 
      cal d nJd_fill [xr (g2.2 l0 4), xi 0] g2 w2 (fun r g3 w3 => r = none ∧ xIs g3 l0 (0, 3) ∧ 
        cal d nJd_fill [xr (g3.2 l0 6), xi 0] g3 w3 (fun r g4 w4 => r = none ∧ xIs g4 l0 (0, 3) ∧ 
          cal d nJd_fill [xr (g4.2 l0 9), xi 0] g4 w4 (fun r g5 w5 => r = none ∧ xIs g5 l0 (0, 3) ∧ 
            cal d nJd_fill [xr (g5.2 l0 10), xi 0] g5 w5 (fun r g6 w6 => r = none ∧ xIs g6 l0 (0, 3) ∧ 
              cal d nJd_fill [xr (g6.2 l0 11), xi 0] g6 w6 (fun r g7 w7 => r = none ∧ xIs g7 l0 (0, 3) ∧ aSt_clear d lim Q 61 [xr l0] [] g7 (xup w7 l0 13 0))))))))) :
    aSt_clear d lim Q 0 [xr l0] [] g w := xAt_exec (cal_m d) kSt_clear 32 t
set_option maxRecDepth 20000 in
theorem wSt_clear_61 {d : Nat} {lim : Nat × Nat} {Q : xQ} {l0 : Nat} {g : xG} {w : xW} (t : xIs g l0 (0, 3) ∧ aSt_clear d lim Q 66 [xr l0] [] g (xup w l0 14 0)) :
    aSt_clear d lim Q 61 [xr l0] [] g w := xAt_exec (cal_m d) kSt_clear 4 t
set_option maxRecDepth 20000 in
theorem wSt_clear_66 {d : Nat} {lim : Nat × Nat} {Q : xQ} {l0 : Nat} {g : xG} {w : xW} (t : xIs g l0 (0, 3) ∧ aSt_clear d lim Q 71 [xr l0] [] g (xup w l0 15 3)) :
    aSt_clear d lim Q 66 [xr l0] [] g w := xAt_exec (cal_m d) kSt_clear 4 t
set_option maxRecDepth 20000 in
theorem wSt_clear_71 {d : Nat} {lim : Nat × Nat} {Q : xQ} {l0 : Nat} {g : xG} {w : xW} (t : xIs g l0 (0, 3) ∧ Q none g (xup w l0 16 0)) :
    aSt_clear d lim Q 71 [xr l0] [] g w := xAt_exec (cal_m d) kSt_clear 5 t
theorem eSt_clear {d : Nat} {Q : xQ} {l0 : Nat} {g : xG} {w : xW} (t : ∀ (lim : Nat × Nat) (Q2 : xQ), (∀ r g2 w2, g2.1 = g.1 → Q r g2 w2 → Q2 r g2 w2) → aSt_clear d lim Q2 0 [xr l0] [] g w) : cal (d + 1) nSt_clear [xr l0] g w Q := t _ _ xQof
abbrev aSt_copyFrom (d : Nat) (lim : Nat × Nat) (Q : xQ) : xK := xAt xMks tSt_copyFrom (cal d) lim Q
def kSt_copyFrom : List (Nat × List Bool) := [(171, [true, true]), (179, [true, true]), (187, [true, true]), (195, [true, true])]
set_option maxRecDepth 20000 in
theorem wSt_copyFrom_0 {d : Nat} {lim : Nat × Nat} {Q : xQ} {l0 l1 : Nat} {g : xG} {w : xW} (t : xIs g l1 (0, 3) ∧ xIs g l0 (0, 3) ∧ (xCo g (g.2 l1 0) 0 20 ∧ xCo g (g.2 l0 0) 0 20) ∧ xIs g l1 (0, 3) ∧ xIs g l0 (0, 3) ∧ (xCo g (g.2 l1 2) 0 20 ∧ xCo g (g.2 l0 2) 0 20) ∧ xIs g l1 (0, 3) ∧ xIs g l0 (0, 3) ∧ (xCo g (g.2 l1 3) 0 20 ∧ xCo g (g.2 l0 3) 0 20) ∧ xIs g l1 (0, 3) ∧ xIs g l0 (0, 3) ∧ (xCo g (g.2 l1 4) 0 20 ∧ xCo g (g.2 l0 4) 0 20) ∧ xIs g l1 (0, 3) ∧ xIs g l0 (0, 3) ∧ (xCo g (g.2 l1 5) 0 4 ∧ xCo g (g.2 l0 5) 0 4) ∧ xIs g l1 (0, 3) ∧ xIs g l0 (0, 3) ∧ (xCo g (g.2 l1 6) 0 4 ∧ xCo g (g.2 l0 6) 0 4) ∧ xIs g l1 (0, 3) ∧ xIs g l0 (0, 3) ∧ (xCo g (g.2 l1 7) 0 6 ∧ xCo g (g.2 l0 7) 0 6) ∧ xIs g l1 (0, 3) ∧ xIs g l0 (0, 3) ∧ (xCo g (g.2 l1 8) 0 6 ∧ xCo g (g.2 l0 8) 0 6) ∧ xIs g l1 (0, 3) ∧ xIs g l0 (0, 3) ∧ (xCo g (g.2 l1 9) 0 6 ∧ xCo g (g.2 l0 9) 0 6) ∧ xIs g l1 (0, 3) ∧ xIs g l0 (0, 3) ∧ (xCo g (g.2 l1 10) 0 6 ∧ xCo g (g.2 l0 10) 0 6) ∧ xIs g l1 (0, 3) ∧ xIs g l0 (0, 3) ∧ (xCo g (g.2 l1 11) 0 6 ∧ xCo g (g.2 l0 11) 0 6) ∧ xIs g l1 (0, 3) ∧ xIs g l0 (0, 3) ∧ aSt_copyFrom d lim Q 171 [xr l0, xr l1] [] g (xup (xcp (xcp (xcp (xcp (xcp (xcp (xcp (xcp (xcp (xcp (xcp w (g.2 l1 0) (Int.toNat 0) (g.2 l0 0) (Int.toNat 0) (Int.toNat 20)) (g.2 l1 2) (Int.toNat 0) (g.2 l0 2) (Int.toNat 0) (Int.toNat 20)) (g.2 l1 3) (Int.toNat 0) (g.2 l0 3) (Int.toNat 0) (Int.toNat 20)) (g.2 l1 4) (Int.toNat 0) (g.2 l0 4) (Int.toNat 0) (Int.toNat 20)) (g.2 l1 5) (Int.toNat 0) (g.2 l0 5) (Int.toNat 0) (Int.toNat 4)) (g.2 l1 6) (Int.toNat 0) (g.2 l0 6) (Int.toNat 0) (Int.toNat 4)) (g.2 l1 7) (Int.toNat 0) (g.2 l0 7) (Int.toNat 0) (Int.toNat 6)) (g.2 l1 8) (Int.toNat 0) (g.2 l0 8) (Int.toNat 0) (Int.toNat 6)) (g.2 l1 9) (Int.toNat 0) (g.2 l0 9) (Int.toNat 0) (Int.toNat 6)) (g.2 l1 10) (Int.toNat 0) (g.2 l0 10) (Int.toNat 0) (Int.toNat 6)) (g.2 l1 11) (Int.toNat 0) (g.2 l0 11) (Int.toNat 0) (Int.toNat 6)) l0 13 ((xcp (xcp (xcp (xcp (xcp (xcp (xcp (xcp (xcp (xcp (xcp w (g.2 l1 0) (Int.toNat 0) (g.2 l0 0) (Int.toNat 0) (Int.toNat 20)) (g.2 l1 2) (Int.toNat 0) (g.2 l0 2) (Int.toNat 0) (Int.toNat 20)) (g.2 l1 3) (Int.toNat 0) (g.2 l0 3) (Int.toNat 0) (Int.toNat 20)) (g.2 l1 4) (Int.toNat 0) (g.2 l0 4) (Int.toNat 0) (Int.toNat 20)) (g.2 l1 5) (Int.toNat 0) (g.2 l0 5) (Int.toNat 0) (Int.toNat 4)) (g.2 l1 6) (Int.toNat 0) (g.2 l0 6) (Int.toNat 0) (Int.toNat 4)) (g.2 l1 7) (Int.toNat 0) (g.2 l0 7) (Int.toNat 0) (Int.toNat 6)) (g.2 l1 8) (Int.toNat 0) (g.2 l0 8) (Int.toNat 0) (Int.toNat 6)) (g.2 l1 9) (Int.toNat 0) (g.2 l0 9) (Int.toNat 0) (Int.toNat 6)) (g.2 l1 10) (Int.toNat 0) (g.2 l0 10) (Int.toNat 0) (Int.toNat 6)) (g.2 l1 11) (Int.toNat 0) (g.2 l0 11) (Int.toNat 0) (Int.toNat 6)) l1 13))) :
    aSt_copyFrom d lim Q 0 [xr l0, xr l1] [] g w := xAt_exec (cal_m d) kSt_copyFrom 93 t
set_option maxRecDepth 20000 in
theorem wSt_copyFrom_171 {d : Nat} {lim : Nat × Nat} {Q : xQ} {l0 l1 : Nat} {g : xG} {w : xW} (t : xIs g l1 (0, 3) ∧ xIs g l0 (0, 3) ∧ aSt_copyFrom d lim Q 179 [xr l0, xr l1] [] g (xup w l0 14 (w l1 14))) :
    aSt_copyFrom d lim Q 171 [xr l0, xr l1] [] g w := xAt_exec (cal_m d) kSt_copyFrom 5 t
set_option maxRecDepth 20000 in
theorem wSt_copyFrom_179 {d : Nat} {lim : Nat × Nat} {Q : xQ} {l0 l1 : Nat} {g : xG} {w : xW} (t : xIs g l1 (0, 3) ∧ xIs g l0 (0, 3) ∧ aSt_copyFrom d lim Q 187 [xr l0, xr l1] [] g (xup w l0 15 (w l1 15))) :
    aSt_copyFrom d lim Q 179 [xr l0, xr l1] [] g w := xAt_exec (cal_m d) kSt_copyFrom 5 t
set_option maxRecDepth 20000 in
theorem wSt_copyFrom_187 {d : Nat} {lim : Nat × Nat} {Q : xQ} {l0 l1 : Nat} {g : xG} {w : xW} (t : xIs g l1 (0, 3) ∧ xIs g l0 (0, 3) ∧ aSt_copyFrom d lim Q 195 [xr l0, xr l1] [] g (xup w l0 16 (w l1 16))) :
    aSt_copyFrom d lim Q 187 [xr l0, xr l1] [] g w := xAt_exec (cal_m d) kSt_copyFrom 5 t
set_option maxRecDepth 20000 in
theorem wSt_copyFrom_195 {d : Nat} {lim : Nat × Nat} {Q : xQ} {l0 l1 : Nat} {g : xG} {w : xW} (t : xIs g l1 (0, 3) ∧ xIs g l0 (0, 3) ∧ Q none g (xup w l0 17 (w l1 17))) :
    aSt_copyFrom d lim Q 195 [xr l0, xr l1] [] g w := xAt_exec (cal_m d) kSt_copyFrom 6 t
theorem eSt_copyFrom {d : Nat} {Q : xQ} {l0 l1 : Nat} {g : xG} {w : xW} (t : ∀ (lim : Nat × Nat) (Q2 : xQ), (∀ r g2 w2, g2.1 = g.1 → Q r g2 w2 → Q2 r g2 w2) → aSt_copyFrom d lim Q2 0 [xr l0, xr l1] [] g w) : cal (d + 1) nSt_copyFrom [xr l0, xr l1] g w Q := t _ _ xQof
abbrev aSt_setWall (d : Nat) (lim : Nat × Nat) (Q : xQ) : xK := xAt xMks tSt_setWall (cal d) lim Q
def kSt_setWall : List (Nat × List Bool) := [(33, [true, false, true, false, true, true, true, false]), (72, [true, false, false, false, true, false, true, true]), (73, [true, false, false, false, true, false, true, true])]
set_option maxRecDepth 20000 in
theorem wSt_setWall_0 {d : Nat} {lim : Nat × Nat} {Q : xQ} {l2 l3 l4 : Int} {l0 l1 : Nat} {g : xG} {w : xW} (t : 
  cal d nFf_wayOfWall [xi l3] g w (fun r g1 w1 => ∃ v1 : Int, r = some (xi v1) ∧ xIs g1 l1 (0, 5) ∧ 
    cal d nTw_beside [xr l1, xi l2, xi v1] g1 w1 (fun r g2 w2 => ∃ v2 : Int, r = some (xi v2) ∧ 
      ((¬ v2 = (-1)) → 
        ((¬ v1 = 2) → aSt_setWall d lim Q 33 [xr l0, none, xi l2, none, xi l4, xi v1, xi v2, none] [xi 1] g2 w2) ∧
        ((v1 = 2) → aSt_setWall d lim Q 33 [xr l0, none, xi l2, none, xi l4, xi v1, xi v2, none] [xi 4] g2 w2)) ∧
      ((v2 = (-1)) → Q none g2 w2)))) :
    aSt_setWall d lim Q 0 [xr l0, xr l1, xi l2, xi l3, xi l4, none, none, none] [] g w := xAt_exec (cal_m d) kSt_setWall 17 t
set_option maxRecDepth 20000 in
theorem wSt_setWall_33 {d : Nat} {lim : Nat × Nat} {Q : xQ} {l2 l4 l5 l6 s0 : Int} {l0 : Nat} {g : xG} {w : xW} (t : xIs g l0 (0, 3) ∧ 
  ((l4 = 0) → xIs g l0 (0, 3) ∧ xAr g (g.2 l0 4) l2 ∧ aSt_setWall d lim Q 72 [xr l0, none, none, none, xi l4, none, xi l6, xi s0] [xi (xAnd (w (g.2 l0 4) (Int.toNat l2)) (xXor (xShl 1 l5) (-1))), xi l2, xr (g.2 l0 4)] g w) ∧
  ((¬ l4 = 0) → xIs g l0 (0, 3) ∧ xAr g (g.2 l0 4) l2 ∧ aSt_setWall d lim Q 72 [xr l0, none, none, none, xi l4, none, xi l6, xi s0] [xi (xOr (w (g.2 l0 4) (Int.toNat l2)) (xShl 1 l5)), xi l2, xr (g.2 l0 4)] g w)) :
    aSt_setWall d lim Q 33 [xr l0, none, xi l2, none, xi l4, xi l5, xi l6, none] [xi s0] g w := xAt_exec (cal_m d) kSt_setWall 17 t
set_option maxRecDepth 20000 in
theorem wSt_setWall_72 {d : Nat} {lim : Nat × Nat} {Q : xQ} {l4 l6 l7 s1 s2 : Int} {l0 s0 : Nat} {g : xG} {w : xW} (t : xA1 g s0 s1 ∧ aSt_setWall d lim Q 73 [xr l0, none, none, none, xi l4, none, xi l6, xi l7] [] g (xup w s0 (Int.toNat s1) s2)) :
    aSt_setWall d lim Q 72 [xr l0, none, none, none, xi l4, none, xi l6, xi l7] [xi s2, xi s1, xr s0] g w := xAt_exec (cal_m d) kSt_setWall 2 t
set_option maxRecDepth 20000 in
theorem wSt_setWall_73 {d : Nat} {lim : Nat × Nat} {Q : xQ} {l4 l6 l7 : Int} {l0 : Nat} {g : xG} {w : xW} (t : xIs g l0 (0, 3) ∧ 
  ((l4 = 0) → xIs g l0 (0, 3) ∧ xAr g (g.2 l0 4) l6 ∧ xA1 g (g.2 l0 4) l6 ∧ Q none g (xup w (g.2 l0 4) (Int.toNat l6) (xAnd (w (g.2 l0 4) (Int.toNat l6)) (xXor (xShl 1 l7) (-1))))) ∧
  ((¬ l4 = 0) → xIs g l0 (0, 3) ∧ xAr g (g.2 l0 4) l6 ∧ xA1 g (g.2 l0 4) l6 ∧ Q none g (xup w (g.2 l0 4) (Int.toNat l6) (xOr (w (g.2 l0 4) (Int.toNat l6)) (xShl 1 l7))))) :
    aSt_setWall d lim Q 73 [xr l0, none, none, none, xi l4, none, xi l6, xi l7] [] g w := xAt_exec (cal_m d) kSt_setWall 18 t
theorem eSt_setWall {d : Nat} {Q : xQ} {l2 l3 l4 : Int} {l0 l1 : Nat} {g : xG} {w : xW} (t : ∀ (lim : Nat × Nat) (Q2 : xQ), (∀ r g2 w2, g2.1 = g.1 → Q r g2 w2 → Q2 r g2 w2) → aSt_setWall d lim Q2 0 [xr l0, xr l1, xi l2, xi l3, xi l4, none, none, none] [] g w) : cal (d + 1) nSt_setWall [xr l0, xr l1, xi l2, xi l3, xi l4] g w Q := t _ _ xQof
abbrev aSt_wallOf (d : Nat) (lim : Nat × Nat) (Q : xQ) : xK := xAt xMks tSt_wallOf (cal d) lim Q
def kSt_wallOf : List (Nat × List Bool) := []
set_option maxRecDepth 20000 in
theorem wSt_wallOf_0 {d : Nat} {lim : Nat × Nat} {Q : xQ} {l1 l2 : Int} {l0 : Nat} {g : xG} {w : xW} (t : xIs g l0 (0, 3) ∧ xAr g (g.2 l0 4) l1 ∧ 
  cal d nFf_wayOfWall [xi l2] g w (fun r g1 w1 => ∃ v1 : Int, r = some (xi v1) ∧ Q (some (xi (xAnd (xShr (w (g.2 l0 4) (Int.toNat l1)) v1) 1))) g1 w1)) :
    aSt_wallOf d lim Q 0 [xr l0, xi l1, xi l2] [] g w := xAt_exec (cal_m d) kSt_wallOf 11 t
theorem eSt_wallOf {d : Nat} {Q : xQ} {l1 l2 : Int} {l0 : Nat} {g : xG} {w : xW} (t : ∀ (lim : Nat × Nat) (Q2 : xQ), (∀ r g2 w2, g2.1 = g.1 → Q r g2 w2 → Q2 r g2 w2) → aSt_wallOf d lim Q2 0 [xr l0, xi l1, xi l2] [] g w) : cal (d + 1) nSt_wallOf [xr l0, xi l1, xi l2] g w Q := t _ _ xQof
abbrev aSt_countWalls (d : Nat) (lim : Nat × Nat) (Q : xQ) : xK := xAt xMks tSt_countWalls (cal d) lim Q
def kSt_countWalls : List (Nat × List Bool) := [(4, [true, true, true, true])]
set_option maxRecDepth 20000 in
theorem wSt_countWalls_0 {d : Nat} {lim : Nat × Nat} {Q : xQ} {l0 l1 : Nat} {g : xG} {w : xW} (t : aSt_countWalls d lim Q 4 [xr l0, xr l1, xi 0, xi 0] [] g w) :
    aSt_countWalls d lim Q 0 [xr l0, xr l1, none, none] [] g w := xAt_exec (cal_m d) kSt_countWalls 5 t
set_option maxRecDepth 20000 in
theorem wSt_countWalls_4 {d : Nat} {lim : Nat × Nat} {Q : xQ} {l2 l3 : Int} {l0 l1 : Nat} {g : xG} {w : xW} (t : xIs g l1 (0, 5) ∧ 
  cal d nTw_cells [xr l1] g w (fun r g1 w1 => ∃ v1 : Int, r = some (xi v1) ∧ 
    ((v1 ≤ l3) → Q (some (xi l2)) g1 w1) ∧
    ((l3 < v1) → xIs g1 l0 (0, 3) ∧ 
      cal d nSt_wallOf [xr l0, xi l3, xi 0] g1 w1 (fun r g2 w2 => ∃ v2 : Int, r = some (xi v2) ∧ xIs g2 l0 (0, 3) ∧ 
        cal d nSt_wallOf [xr l0, xi l3, xi 1] g2 w2 (fun r g3 w3 => ∃ v3 : Int, r = some (xi v3) ∧ x32 (v2 + v3) ∧ x32 (l2 + (v2 + v3)) ∧ x32 (l3 + 1) ∧ aSt_countWalls d lim Q 4 [xr l0, xr l1, xi (l2 + (v2 + v3)), xi (l3 + 1)] [] g3 w3))))) :
    aSt_countWalls d lim Q 4 [xr l0, xr l1, xi l2, xi l3] [] g w := xAt_exec (cal_m d) kSt_countWalls 19 t
theorem eSt_countWalls {d : Nat} {Q : xQ} {l0 l1 : Nat} {g : xG} {w : xW} (t : ∀ (lim : Nat × Nat) (Q2 : xQ), (∀ r g2 w2, g2.1 = g.1 → Q r g2 w2 → Q2 r g2 w2) → aSt_countWalls d lim Q2 0 [xr l0, xr l1, none, none] [] g w) : cal (d + 1) nSt_countWalls [xr l0, xr l1] g w Q := t _ _ xQof
abbrev aSt_reach (d : Nat) (lim : Nat × Nat) (Q : xQ) : xK := xAt xMks tSt_reach (cal d) lim Q
def kSt_reach : List (Nat × List Bool) := []
set_option maxRecDepth 20000 in
theorem wSt_reach_0 {d : Nat} {lim : Nat × Nat} {Q : xQ} {l2 l3 : Int} {l0 l1 : Nat} {g : xG} {w : xW} (t : xIs g l0 (0, 3) ∧ xAr g (g.2 l0 4) l2 ∧ 
  (((xAnd (xShr (w (g.2 l0 4) (Int.toNat l2)) l3) 1) = 0) → xIs g l1 (0, 5) ∧ x32 (l2 * 5) ∧ x32 ((l2 * 5) + l3) ∧ xAr g (g.2 l1 6) ((l2 * 5) + l3) ∧ Q (some (xi (w (g.2 l1 6) (Int.toNat ((l2 * 5) + l3))))) g w) ∧
  ((¬ (xAnd (xShr (w (g.2 l0 4) (Int.toNat l2)) l3) 1) = 0) → Q (some (xi (-1))) g w)) :
    aSt_reach d lim Q 0 [xr l0, xr l1, xi l2, xi l3] [] g w := xAt_exec (cal_m d) kSt_reach 19 t
theorem eSt_reach {d : Nat} {Q : xQ} {l2 l3 : Int} {l0 l1 : Nat} {g : xG} {w : xW} (t : ∀ (lim : Nat × Nat) (Q2 : xQ), (∀ r g2 w2, g2.1 = g.1 → Q r g2 w2 → Q2 r g2 w2) → aSt_reach d lim Q2 0 [xr l0, xr l1, xi l2, xi l3] [] g w) : cal (d + 1) nSt_reach [xr l0, xr l1, xi l2, xi l3] g w Q := t _ _ xQof
abbrev aSt_peopleOn (d : Nat) (lim : Nat × Nat) (Q : xQ) : xK := xAt xMks tSt_peopleOn (cal d) lim Q
def kSt_peopleOn : List (Nat × List Bool) := [(5, [true, true, true, true, true])]
set_option maxRecDepth 20000 in
theorem wSt_peopleOn_0 {d : Nat} {lim : Nat × Nat} {Q : xQ} {l2 : Int} {l0 l1 : Nat} {g : xG} {w : xW} (t : aSt_peopleOn d lim Q 5 [xr l0, xr l1, xi l2, xi 0, xi 0] [] g w) :
    aSt_peopleOn d lim Q 0 [xr l0, xr l1, xi l2, none, none] [] g w := xAt_exec (cal_m d) kSt_peopleOn 5 t
set_option maxRecDepth 20000 in
theorem wSt_peopleOn_5 {d : Nat} {lim : Nat × Nat} {Q : xQ} {l2 l3 l4 : Int} {l0 l1 : Nat} {g : xG} {w : xW} (t : xIs g l1 (0, 5) ∧ 
  (((w l1 5) ≤ l4) → Q (some (xi l3)) g w) ∧
  ((l4 < (w l1 5)) → xIs g l0 (0, 3) ∧ xAr g (g.2 l0 7) l4 ∧ 
    ((¬ (w (g.2 l0 7) (Int.toNat l4)) = l2) → x32 (l4 + 1) ∧ aSt_peopleOn d lim Q 5 [xr l0, xr l1, xi l2, xi l3, xi (l4 + 1)] [] g w) ∧
    (((w (g.2 l0 7) (Int.toNat l4)) = l2) → x32 (l4 + 1) ∧ aSt_peopleOn d lim Q 5 [xr l0, xr l1, xi l2, xi (xOr l3 (xShl 1 l4)), xi (l4 + 1)] [] g w))) :
    aSt_peopleOn d lim Q 5 [xr l0, xr l1, xi l2, xi l3, xi l4] [] g w := xAt_exec (cal_m d) kSt_peopleOn 19 t
theorem eSt_peopleOn {d : Nat} {Q : xQ} {l2 : Int} {l0 l1 : Nat} {g : xG} {w : xW} (t : ∀ (lim : Nat × Nat) (Q2 : xQ), (∀ r g2 w2, g2.1 = g.1 → Q r g2 w2 → Q2 r g2 w2) → aSt_peopleOn d lim Q2 0 [xr l0, xr l1, xi l2, none, none] [] g w) : cal (d + 1) nSt_peopleOn [xr l0, xr l1, xi l2] g w Q := t _ _ xQof
abbrev aSt_countOwned (d : Nat) (lim : Nat × Nat) (Q : xQ) : xK := xAt xMks tSt_countOwned (cal d) lim Q
def kSt_countOwned : List (Nat × List Bool) := [(11, [true, false, true, true, true, true])]
set_option maxRecDepth 20000 in
theorem wSt_countOwned_0 {d : Nat} {lim : Nat × Nat} {Q : xQ} {l2 : Int} {l0 l1 : Nat} {g : xG} {w : xW} (t : xIs g l1 (0, 5) ∧ 
  cal d nTw_cells [xr l1] g w (fun r g1 w1 => ∃ v1 : Int, r = some (xi v1) ∧ aSt_countOwned d lim Q 11 [xr l0, none, xi l2, xi 0, xi v1, xi 0] [] g1 w1)) :
    aSt_countOwned d lim Q 0 [xr l0, xr l1, xi l2, none, none, none] [] g w := xAt_exec (cal_m d) kSt_countOwned 8 t
set_option maxRecDepth 20000 in
theorem wSt_countOwned_11 {d : Nat} {lim : Nat × Nat} {Q : xQ} {l2 l3 l4 l5 : Int} {l0 : Nat} {g : xG} {w : xW} (t : 
  ((l4 ≤ l5) → Q (some (xi l3)) g w) ∧
  ((l5 < l4) → xIs g l0 (0, 3) ∧ xAr g (g.2 l0 2) l5 ∧ 
    ((¬ (w (g.2 l0 2) (Int.toNat l5)) = l2) → x32 (l5 + 1) ∧ aSt_countOwned d lim Q 11 [xr l0, none, xi l2, xi l3, xi l4, xi (l5 + 1)] [] g w) ∧
    (((w (g.2 l0 2) (Int.toNat l5)) = l2) → x32 (l3 + 1) ∧ x32 (l5 + 1) ∧ aSt_countOwned d lim Q 11 [xr l0, none, xi l2, xi (l3 + 1), xi l4, xi (l5 + 1)] [] g w))) :
    aSt_countOwned d lim Q 11 [xr l0, none, xi l2, xi l3, xi l4, xi l5] [] g w := xAt_exec (cal_m d) kSt_countOwned 13 t
theorem eSt_countOwned {d : Nat} {Q : xQ} {l2 : Int} {l0 l1 : Nat} {g : xG} {w : xW} (t : ∀ (lim : Nat × Nat) (Q2 : xQ), (∀ r g2 w2, g2.1 = g.1 → Q r g2 w2 → Q2 r g2 w2) → aSt_countOwned d lim Q2 0 [xr l0, xr l1, xi l2, none, none, none] [] g w) : cal (d + 1) nSt_countOwned [xr l0, xr l1, xi l2] g w Q := t _ _ xQof
abbrev aSt_canBeLit (d : Nat) (lim : Nat × Nat) (Q : xQ) : xK := xAt xMks tSt_canBeLit (cal d) lim Q
def kSt_canBeLit : List (Nat × List Bool) := []
set_option maxRecDepth 20000 in
theorem wSt_canBeLit_0 {d : Nat} {lim : Nat × Nat} {Q : xQ} {l1 : Int} {l0 : Nat} {g : xG} {w : xW} (t : xIs g l0 (0, 3) ∧ xAr g (g.2 l0 6) l1 ∧ 
  ((¬ (w (g.2 l0 6) (Int.toNat l1)) = 0) → ((0 : Int) = 0 ∨ (0 : Int) = 1) ∧ Q (some (xi 0)) g w) ∧
  (((w (g.2 l0 6) (Int.toNat l1)) = 0) → xIs g l0 (0, 3) ∧ xAr g (g.2 l0 5) l1 ∧ 
    (((w (g.2 l0 5) (Int.toNat l1)) ≤ 0) → ((0 : Int) = 0 ∨ (0 : Int) = 1) ∧ Q (some (xi 0)) g w) ∧
    ((0 < (w (g.2 l0 5) (Int.toNat l1))) → ((1 : Int) = 0 ∨ (1 : Int) = 1) ∧ Q (some (xi 1)) g w))) :
    aSt_canBeLit d lim Q 0 [xr l0, xi l1] [] g w := xAt_exec (cal_m d) kSt_canBeLit 14 t
theorem eSt_canBeLit {d : Nat} {Q : xQ} {l1 : Int} {l0 : Nat} {g : xG} {w : xW} (t : ∀ (lim : Nat × Nat) (Q2 : xQ), (∀ r g2 w2, g2.1 = g.1 → Q r g2 w2 → Q2 r g2 w2) → aSt_canBeLit d lim Q2 0 [xr l0, xi l1] [] g w) : cal (d + 1) nSt_canBeLit [xr l0, xi l1] g w Q := t _ _ xQof
abbrev aSt_feels (d : Nat) (lim : Nat × Nat) (Q : xQ) : xK := xAt xMks tSt_feels (cal d) lim Q
def kSt_feels : List (Nat × List Bool) := []
set_option maxRecDepth 20000 in
theorem wSt_feels_0 {d : Nat} {lim : Nat × Nat} {Q : xQ} {l1 : Int} {l0 : Nat} {g : xG} {w : xW} (t : xIs g l0 (0, 3) ∧ 
  (((xAnd (xShr (w l0 12) l1) 1) = 0) → ((0 : Int) = 0 ∨ (0 : Int) = 1) ∧ Q (some (xi 0)) g w) ∧
  ((¬ (xAnd (xShr (w l0 12) l1) 1) = 0) → ((1 : Int) = 0 ∨ (1 : Int) = 1) ∧ Q (some (xi 1)) g w)) :
    aSt_feels d lim Q 0 [xr l0, xi l1] [] g w := xAt_exec (cal_m d) kSt_feels 11 t
theorem eSt_feels {d : Nat} {Q : xQ} {l1 : Int} {l0 : Nat} {g : xG} {w : xW} (t : ∀ (lim : Nat × Nat) (Q2 : xQ), (∀ r g2 w2, g2.1 = g.1 → Q r g2 w2 → Q2 r g2 w2) → aSt_feels d lim Q2 0 [xr l0, xi l1] [] g w) : cal (d + 1) nSt_feels [xr l0, xi l1] g w Q := t _ _ xQof
abbrev aSt_draw (d : Nat) (lim : Nat × Nat) (Q : xQ) : xK := xAt xMks tSt_draw (cal d) lim Q
def kSt_draw : List (Nat × List Bool) := []
set_option maxRecDepth 20000 in
theorem wSt_draw_0 {d : Nat} {lim : Nat × Nat} {Q : xQ} {l1 : Int} {l0 : Nat} {g : xG} {w : xW} (t : xIs g l0 (0, 3) ∧ x64 ((w l0 17) * 1103515245) ∧ x64 (((w l0 17) * 1103515245) + 12345) ∧ x32 (xLand (((w l0 17) * 1103515245) + 12345) 2147483647) ∧ xIs g l0 (0, 3) ∧ 
  ((1 ≤ l1) → xIs g l0 (0, 3) ∧ ((65536 : Int) ≠ 0 ∧ x32 (Int.tdiv ((xup w l0 17 (xLand (((w l0 17) * 1103515245) + 12345) 2147483647)) l0 17) 65536)) ∧ ((l1 : Int) ≠ 0 ∧ x32 (Int.tdiv (Int.tdiv ((xup w l0 17 (xLand (((w l0 17) * 1103515245) + 12345) 2147483647)) l0 17) 65536) l1)) ∧ Q (some (xi (Int.tmod (Int.tdiv ((xup w l0 17 (xLand (((w l0 17) * 1103515245) + 12345) 2147483647)) l0 17) 65536) l1))) g (xup w l0 17 (xLand (((w l0 17) * 1103515245) + 12345) 2147483647))) ∧
  ((l1 < 1) → Q (some (xi 0)) g (xup w l0 17 (xLand (((w l0 17) * 1103515245) + 12345) 2147483647)))) :
    aSt_draw d lim Q 0 [xr l0, xi l1] [] g w := xAt_exec (cal_m d) kSt_draw 23 t
theorem eSt_draw {d : Nat} {Q : xQ} {l1 : Int} {l0 : Nat} {g : xG} {w : xW} (t : ∀ (lim : Nat × Nat) (Q2 : xQ), (∀ r g2 w2, g2.1 = g.1 → Q r g2 w2 → Q2 r g2 w2) → aSt_draw d lim Q2 0 [xr l0, xi l1] [] g w) : cal (d + 1) nSt_draw [xr l0, xi l1] g w Q := t _ _ xQof
abbrev aSt_passMinutes (d : Nat) (lim : Nat × Nat) (Q : xQ) : xK := xAt xMks tSt_passMinutes (cal d) lim Q
def kSt_passMinutes : List (Nat × List Bool) := [(3, [true, true, true, true, true])]
set_option maxRecDepth 20000 in
theorem wSt_passMinutes_0 {d : Nat} {lim : Nat × Nat} {Q : xQ} {l2 l3 : Int} {l0 l1 : Nat} {g : xG} {w : xW} (t : aSt_passMinutes d lim Q 3 [xr l0, xr l1, xi l2, xi l3, xi 0] [] g w) :
    aSt_passMinutes d lim Q 0 [xr l0, xr l1, xi l2, xi l3, none] [] g w := xAt_exec (cal_m d) kSt_passMinutes 3 t
set_option maxRecDepth 20000 in
theorem wSt_passMinutes_3 {d : Nat} {lim : Nat × Nat} {Q : xQ} {l2 l3 l4 : Int} {l0 l1 : Nat} {g : xG} {w : xW} (t : 
  ((l2 ≤ l4) → Q none g w) ∧
  ((l4 < l2) → xIs g l0 (0, 3) ∧ 
    cal d nSt_passMinute [xr l0, xr l1, xi l3] g w (fun r g1 w1 => r = none ∧ x32 (l4 + 1) ∧ aSt_passMinutes d lim Q 3 [xr l0, xr l1, xi l2, xi l3, xi (l4 + 1)] [] g1 w1))) :
    aSt_passMinutes d lim Q 3 [xr l0, xr l1, xi l2, xi l3, xi l4] [] g w := xAt_exec (cal_m d) kSt_passMinutes 10 t
theorem eSt_passMinutes {d : Nat} {Q : xQ} {l2 l3 : Int} {l0 l1 : Nat} {g : xG} {w : xW} (t : ∀ (lim : Nat × Nat) (Q2 : xQ), (∀ r g2 w2, g2.1 = g.1 → Q r g2 w2 → Q2 r g2 w2) → aSt_passMinutes d lim Q2 0 [xr l0, xr l1, xi l2, xi l3, none] [] g w) : cal (d + 1) nSt_passMinutes [xr l0, xr l1, xi l2, xi l3] g w Q := t _ _ xQof
abbrev aSt_passMinute (d : Nat) (lim : Nat × Nat) (Q : xQ) : xK := xAt xMks tSt_passMinute (cal d) lim Q
def kSt_passMinute : List (Nat × List Bool) := []
set_option maxRecDepth 20000 in
theorem wSt_passMinute_0 {d : Nat} {lim : Nat × Nat} {Q : xQ} {l2 : Int} {l0 l1 : Nat} {g : xG} {w : xW} (t : xIs g l0 (0, 3) ∧ 
  cal d nSt_flow [xr l0, xr l1] g w (fun r g1 w1 => r = none ∧ xIs g1 l0 (0, 3) ∧ 
    cal d nSt_addWarmth [xr l0, xr l1] g1 w1 (fun r g2 w2 => r = none ∧ xIs g2 l0 (0, 3) ∧ 
      cal d nSt_coolDown [xr l0, xr l1] g2 w2 (fun r g3 w3 => r = none ∧ xIs g3 l0 (0, 3) ∧ 
        cal d nSt_feel [xr l0, xr l1, xi l2] g3 w3 (fun r g4 w4 => r = none ∧ xIs g4 l0 (0, 3) ∧ 
          cal d nSt_takeCells [xr l0, xr l1] g4 w4 (fun r g5 w5 => r = none ∧ xIs g5 l0 (0, 3) ∧ 
            cal d nSt_keepLaw [xr l0, xr l1] g5 w5 (fun r g6 w6 => r = none ∧ xIs g6 l0 (0, 3) ∧ 
              cal d nSt_oweForWarmth [xr l0, xr l1] g6 w6 (fun r g7 w7 => r = none ∧ xIs g7 l0 (0, 3) ∧ 
                cal d nSt_warmSkins [xr l0, xr l1] g7 w7 (fun r g8 w8 => r = none ∧ xIs g8 l0 (0, 3) ∧ x32 ((w8 l0 16) + 1) ∧ xIs g8 l0 (0, 3) ∧ Q none g8 (xup w8 l0 16 ((w8 l0 16) + 1))))))))))) :
    aSt_passMinute d lim Q 0 [xr l0, xr l1, xi l2] [] g w := xAt_exec (cal_m d) kSt_passMinute 33 t
theorem eSt_passMinute {d : Nat} {Q : xQ} {l2 : Int} {l0 l1 : Nat} {g : xG} {w : xW} (t : ∀ (lim : Nat × Nat) (Q2 : xQ), (∀ r g2 w2, g2.1 = g.1 → Q r g2 w2 → Q2 r g2 w2) → aSt_passMinute d lim Q2 0 [xr l0, xr l1, xi l2] [] g w) : cal (d + 1) nSt_passMinute [xr l0, xr l1, xi l2] g w Q := t _ _ xQof
abbrev aSt_flow (d : Nat) (lim : Nat × Nat) (Q : xQ) : xK := xAt xMks tSt_flow (cal d) lim Q
def kSt_flow : List (Nat × List Bool) := [(21, [true, true, true, true])]
set_option maxRecDepth 20000 in
theorem wSt_flow_0 {d : Nat} {lim : Nat × Nat} {Q : xQ} {l0 l1 : Nat} {g : xG} {w : xW} (t : xIs g l1 (0, 5) ∧ 
  cal d nTw_cells [xr l1] g w (fun r g1 w1 => ∃ v1 : Int, r = some (xi v1) ∧ xIs g1 l0 (0, 3) ∧ xIs g1 l0 (0, 3) ∧ (xCo g1 (g1.2 l0 0) 0 v1 ∧ xCo g1 (g1.2 l0 1) 0 v1) ∧ aSt_flow d lim Q 21 [xr l0, xr l1, xi v1, xi 0] [] g1 (xcp w1 (g1.2 l0 0) (Int.toNat 0) (g1.2 l0 1) (Int.toNat 0) (Int.toNat v1)))) :
    aSt_flow d lim Q 0 [xr l0, xr l1, none, none] [] g w := xAt_exec (cal_m d) kSt_flow 14 t
set_option maxRecDepth 20000 in
theorem wSt_flow_21 {d : Nat} {lim : Nat × Nat} {Q : xQ} {l2 l3 : Int} {l0 l1 : Nat} {g : xG} {w : xW} (t : 
  ((l2 ≤ l3) → xIs g l0 (0, 3) ∧ xIs g l0 (0, 3) ∧ (xCo g (g.2 l0 1) 0 l2 ∧ xCo g (g.2 l0 0) 0 l2) ∧ Q none g (xcp w (g.2 l0 1) (Int.toNat 0) (g.2 l0 0) (Int.toNat 0) (Int.toNat l2))) ∧
  ((l3 < l2) → xIs g l0 (0, 3) ∧ 
    cal d nSt_reach [xr l0, xr l1, xi l3, xi 2] g w (fun r g1 w1 => ∃ v1 : Int, r = some (xi v1) ∧ xIs g1 l0 (0, 3) ∧ 
      cal d nSt_flowBetween [xr l0, xi l3, xi v1] g1 w1 (fun r g2 w2 => r = none ∧ xIs g2 l0 (0, 3) ∧ 
        cal d nSt_reach [xr l0, xr l1, xi l3, xi 3] g2 w2 (fun r g3 w3 => ∃ v3 : Int, r = some (xi v3) ∧ xIs g3 l0 (0, 3) ∧ 
          cal d nSt_flowBetween [xr l0, xi l3, xi v3] g3 w3 (fun r g4 w4 => r = none ∧ x32 (l3 + 1) ∧ aSt_flow d lim Q 21 [xr l0, xr l1, xi l2, xi (l3 + 1)] [] g4 w4)))))) :
    aSt_flow d lim Q 21 [xr l0, xr l1, xi l2, xi l3] [] g w := xAt_exec (cal_m d) kSt_flow 22 t
theorem eSt_flow {d : Nat} {Q : xQ} {l0 l1 : Nat} {g : xG} {w : xW} (t : ∀ (lim : Nat × Nat) (Q2 : xQ), (∀ r g2 w2, g2.1 = g.1 → Q r g2 w2 → Q2 r g2 w2) → aSt_flow d lim Q2 0 [xr l0, xr l1, none, none] [] g w) : cal (d + 1) nSt_flow [xr l0, xr l1] g w Q := t _ _ xQof
abbrev aSt_flowBetween (d : Nat) (lim : Nat × Nat) (Q : xQ) : xK := xAt xMks tSt_flowBetween (cal d) lim Q
def kSt_flowBetween : List (Nat × List Bool) := [(32, [true, false, true, true])]
set_option maxRecDepth 20000 in
theorem wSt_flowBetween_0 {d : Nat} {lim : Nat × Nat} {Q : xQ} {l1 l2 : Int} {l0 : Nat} {g : xG} {w : xW} (t : 
  ((l2 = (-1)) → Q none g w) ∧
  ((¬ l2 = (-1)) → xIs g l0 (0, 3) ∧ xAr g (g.2 l0 0) l2 ∧ xIs g l0 (0, 3) ∧ xAr g (g.2 l0 0) l1 ∧ x32 ((w (g.2 l0 0) (Int.toNat l2)) - (w (g.2 l0 0) (Int.toNat l1))) ∧ ((8 : Int) ≠ 0 ∧ x32 (Int.tdiv ((w (g.2 l0 0) (Int.toNat l2)) - (w (g.2 l0 0) (Int.toNat l1))) 8)) ∧ xIs g l0 (0, 3) ∧ xAr g (g.2 l0 1) l1 ∧ x32 ((w (g.2 l0 1) (Int.toNat l1)) + (Int.tdiv ((w (g.2 l0 0) (Int.toNat l2)) - (w (g.2 l0 0) (Int.toNat l1))) 8)) ∧ xA1 g (g.2 l0 1) l1 ∧ aSt_flowBetween d lim Q 32 [xr l0, none, xi l2, xi (Int.tdiv ((w (g.2 l0 0) (Int.toNat l2)) - (w (g.2 l0 0) (Int.toNat l1))) 8)] [] g (xup w (g.2 l0 1) (Int.toNat l1) ((w (g.2 l0 1) (Int.toNat l1)) + (Int.tdiv ((w (g.2 l0 0) (Int.toNat l2)) - (w (g.2 l0 0) (Int.toNat l1))) 8))))) :
    aSt_flowBetween d lim Q 0 [xr l0, xi l1, xi l2, none] [] g w := xAt_exec (cal_m d) kSt_flowBetween 24 t
set_option maxRecDepth 20000 in
theorem wSt_flowBetween_32 {d : Nat} {lim : Nat × Nat} {Q : xQ} {l2 l3 : Int} {l0 : Nat} {g : xG} {w : xW} (t : xIs g l0 (0, 3) ∧ xAr g (g.2 l0 1) l2 ∧ x32 ((w (g.2 l0 1) (Int.toNat l2)) - l3) ∧ xA1 g (g.2 l0 1) l2 ∧ Q none g (xup w (g.2 l0 1) (Int.toNat l2) ((w (g.2 l0 1) (Int.toNat l2)) - l3))) :
    aSt_flowBetween d lim Q 32 [xr l0, none, xi l2, xi l3] [] g w := xAt_exec (cal_m d) kSt_flowBetween 10 t
theorem eSt_flowBetween {d : Nat} {Q : xQ} {l1 l2 : Int} {l0 : Nat} {g : xG} {w : xW} (t : ∀ (lim : Nat × Nat) (Q2 : xQ), (∀ r g2 w2, g2.1 = g.1 → Q r g2 w2 → Q2 r g2 w2) → aSt_flowBetween d lim Q2 0 [xr l0, xi l1, xi l2, none] [] g w) : cal (d + 1) nSt_flowBetween [xr l0, xi l1, xi l2] g w Q := t _ _ xQof
abbrev aSt_addWarmth (d : Nat) (lim : Nat × Nat) (Q : xQ) : xK := xAt xMks tSt_addWarmth (cal d) lim Q
def kSt_addWarmth : List (Nat × List Bool) := [(2, [true, true, true]), (39, [true, true, true]), (49, [true, true, true]), (77, [true, true, true])]
set_option maxRecDepth 20000 in
theorem wSt_addWarmth_0 {d : Nat} {lim : Nat × Nat} {Q : xQ} {l0 l1 : Nat} {g : xG} {w : xW} (t : aSt_addWarmth d lim Q 2 [xr l0, xr l1, xi 0] [] g w) :
    aSt_addWarmth d lim Q 0 [xr l0, xr l1, none] [] g w := xAt_exec (cal_m d) kSt_addWarmth 3 t
set_option maxRecDepth 20000 in
theorem wSt_addWarmth_2 {d : Nat} {lim : Nat × Nat} {Q : xQ} {l2 : Int} {l0 l1 : Nat} {g : xG} {w : xW} (t : xIs g l1 (0, 5) ∧ 
  (((w l1 2) ≤ l2) → aSt_addWarmth d lim Q 77 [xr l0, xr l1, xi 0] [] g w) ∧
  ((l2 < (w l1 2)) → xIs g l0 (0, 3) ∧ xAr g (g.2 l0 6) l2 ∧ 
    (((w (g.2 l0 6) (Int.toNat l2)) = 0) → x32 (l2 + 1) ∧ aSt_addWarmth d lim Q 2 [xr l0, xr l1, xi (l2 + 1)] [] g w) ∧
    ((¬ (w (g.2 l0 6) (Int.toNat l2)) = 0) → xIs g l0 (0, 3) ∧ xIs g l1 (0, 5) ∧ xAr g (g.2 l1 9) l2 ∧ xAr g (g.2 l0 0) (w (g.2 l1 9) (Int.toNat l2)) ∧ xIs g l1 (0, 5) ∧ xAr g (g.2 l1 10) l2 ∧ x32 ((w (g.2 l0 0) (Int.toNat (w (g.2 l1 9) (Int.toNat l2)))) + (w (g.2 l1 10) (Int.toNat l2))) ∧ xA1 g (g.2 l0 0) (w (g.2 l1 9) (Int.toNat l2)) ∧ aSt_addWarmth d lim Q 39 [xr l0, xr l1, xi l2] [] g (xup w (g.2 l0 0) (Int.toNat (w (g.2 l1 9) (Int.toNat l2))) ((w (g.2 l0 0) (Int.toNat (w (g.2 l1 9) (Int.toNat l2)))) + (w (g.2 l1 10) (Int.toNat l2))))))) :
    aSt_addWarmth d lim Q 2 [xr l0, xr l1, xi l2] [] g w := xAt_exec (cal_m d) kSt_addWarmth 24 t
set_option maxRecDepth 20000 in
theorem wSt_addWarmth_39 {d : Nat} {lim : Nat × Nat} {Q : xQ} {l2 : Int} {l0 l1 : Nat} {g : xG} {w : xW} (t : xIs g l0 (0, 3) ∧ xAr g (g.2 l0 5) l2 ∧ x32 ((w (g.2 l0 5) (Int.toNat l2)) - 1) ∧ xA1 g (g.2 l0 5) l2 ∧ aSt_addWarmth d lim Q 49 [xr l0, xr l1, xi l2] [] g (xup w (g.2 l0 5) (Int.toNat l2) ((w (g.2 l0 5) (Int.toNat l2)) - 1))) :
    aSt_addWarmth d lim Q 39 [xr l0, xr l1, xi l2] [] g w := xAt_exec (cal_m d) kSt_addWarmth 9 t
set_option maxRecDepth 20000 in
theorem wSt_addWarmth_49 {d : Nat} {lim : Nat × Nat} {Q : xQ} {l2 : Int} {l0 l1 : Nat} {g : xG} {w : xW} (t : xIs g l0 (0, 3) ∧ xIs g l0 (0, 3) ∧ xAr g (g.2 l0 5) l2 ∧ 
  (((w (g.2 l0 5) (Int.toNat l2)) ≤ 0) → xA1 g (g.2 l0 6) l2 ∧ x32 (l2 + 1) ∧ aSt_addWarmth d lim Q 2 [xr l0, xr l1, xi (l2 + 1)] [] g (xup w (g.2 l0 6) (Int.toNat l2) 0)) ∧
  ((0 < (w (g.2 l0 5) (Int.toNat l2))) → xA1 g (g.2 l0 6) l2 ∧ x32 (l2 + 1) ∧ aSt_addWarmth d lim Q 2 [xr l0, xr l1, xi (l2 + 1)] [] g (xup w (g.2 l0 6) (Int.toNat l2) 1))) :
    aSt_addWarmth d lim Q 49 [xr l0, xr l1, xi l2] [] g w := xAt_exec (cal_m d) kSt_addWarmth 14 t
set_option maxRecDepth 20000 in
theorem wSt_addWarmth_77 {d : Nat} {lim : Nat × Nat} {Q : xQ} {l2 : Int} {l0 l1 : Nat} {g : xG} {w : xW} (t : xIs g l1 (0, 5) ∧ 
  (((w l1 5) ≤ l2) → Q none g w) ∧
  ((l2 < (w l1 5)) → xIs g l0 (0, 3) ∧ xIs g l0 (0, 3) ∧ xAr g (g.2 l0 7) l2 ∧ xAr g (g.2 l0 0) (w (g.2 l0 7) (Int.toNat l2)) ∧ xIs g l1 (0, 5) ∧ xAr g (g.2 l1 12) l2 ∧ x32 ((w (g.2 l0 0) (Int.toNat (w (g.2 l0 7) (Int.toNat l2)))) + (w (g.2 l1 12) (Int.toNat l2))) ∧ xA1 g (g.2 l0 0) (w (g.2 l0 7) (Int.toNat l2)) ∧ x32 (l2 + 1) ∧ aSt_addWarmth d lim Q 77 [xr l0, xr l1, xi (l2 + 1)] [] g (xup w (g.2 l0 0) (Int.toNat (w (g.2 l0 7) (Int.toNat l2))) ((w (g.2 l0 0) (Int.toNat (w (g.2 l0 7) (Int.toNat l2)))) + (w (g.2 l1 12) (Int.toNat l2)))))) :
    aSt_addWarmth d lim Q 77 [xr l0, xr l1, xi l2] [] g w := xAt_exec (cal_m d) kSt_addWarmth 21 t
theorem eSt_addWarmth {d : Nat} {Q : xQ} {l0 l1 : Nat} {g : xG} {w : xW} (t : ∀ (lim : Nat × Nat) (Q2 : xQ), (∀ r g2 w2, g2.1 = g.1 → Q r g2 w2 → Q2 r g2 w2) → aSt_addWarmth d lim Q2 0 [xr l0, xr l1, none] [] g w) : cal (d + 1) nSt_addWarmth [xr l0, xr l1] g w Q := t _ _ xQof
abbrev aSt_coolDown (d : Nat) (lim : Nat × Nat) (Q : xQ) : xK := xAt xMks tSt_coolDown (cal d) lim Q
def kSt_coolDown : List (Nat × List Bool) := [(17, [true, true, true, true, true, false]), (52, [true, true, true, true, true, false])]
set_option maxRecDepth 20000 in
theorem wSt_coolDown_0 {d : Nat} {lim : Nat × Nat} {Q : xQ} {l0 l1 : Nat} {g : xG} {w : xW} (t : xIs g l1 (0, 5) ∧ 
  cal d nTw_cells [xr l1] g w (fun r g1 w1 => ∃ v1 : Int, r = some (xi v1) ∧ xIs g1 l0 (0, 3) ∧ xIs g1 l1 (0, 5) ∧ 
    cal d nTw_sunAt [xr l1, xi (w1 l0 16)] g1 w1 (fun r g2 w2 => ∃ v2 : Int, r = some (xi v2) ∧ aSt_coolDown d lim Q 17 [xr l0, xr l1, xi v1, xi v2, xi 0, none] [] g2 w2))) :
    aSt_coolDown d lim Q 0 [xr l0, xr l1, none, none, none, none] [] g w := xAt_exec (cal_m d) kSt_coolDown 11 t
set_option maxRecDepth 20000 in
theorem wSt_coolDown_17 {d : Nat} {lim : Nat × Nat} {Q : xQ} {l2 l3 l4 : Int} {l0 l1 : Nat} {g : xG} {w : xW} (t : 
  ((l2 ≤ l4) → Q none g w) ∧
  ((l4 < l2) → xIs g l1 (0, 5) ∧ xAr g (g.2 l1 7) l4 ∧ 
    (((w (g.2 l1 7) (Int.toNat l4)) = 0) → xIs g l0 (0, 3) ∧ xAr g (g.2 l0 0) l4 ∧ x32 ((w (g.2 l0 0) (Int.toNat l4)) + l3) ∧ aSt_coolDown d lim Q 52 [xr l0, xr l1, xi l2, xi l3, xi l4, none] [xi ((w (g.2 l0 0) (Int.toNat l4)) + l3)] g w) ∧
    ((¬ (w (g.2 l1 7) (Int.toNat l4)) = 0) → xIs g l0 (0, 3) ∧ xAr g (g.2 l0 0) l4 ∧ aSt_coolDown d lim Q 52 [xr l0, xr l1, xi l2, xi l3, xi l4, none] [xi (w (g.2 l0 0) (Int.toNat l4))] g w))) :
    aSt_coolDown d lim Q 17 [xr l0, xr l1, xi l2, xi l3, xi l4, none] [] g w := xAt_exec (cal_m d) kSt_coolDown 15 t
set_option maxRecDepth 20000 in
theorem wSt_coolDown_52 {d : Nat} {lim : Nat × Nat} {Q : xQ} {l2 l3 l4 s0 : Int} {l0 l1 : Nat} {g : xG} {w : xW} (t : xIs g l0 (0, 3) ∧ ((50 : Int) ≠ 0 ∧ x32 (Int.tdiv s0 50)) ∧ x32 (s0 - (Int.tdiv s0 50)) ∧ xA1 g (g.2 l0 0) l4 ∧ x32 (l4 + 1) ∧ aSt_coolDown d lim Q 17 [xr l0, xr l1, xi l2, xi l3, xi (l4 + 1), none] [] g (xup w (g.2 l0 0) (Int.toNat l4) (min 999 (s0 - (Int.tdiv s0 50))))) :
    aSt_coolDown d lim Q 52 [xr l0, xr l1, xi l2, xi l3, xi l4, none] [xi s0] g w := xAt_exec (cal_m d) kSt_coolDown 15 t
theorem eSt_coolDown {d : Nat} {Q : xQ} {l0 l1 : Nat} {g : xG} {w : xW} (t : ∀ (lim : Nat × Nat) (Q2 : xQ), (∀ r g2 w2, g2.1 = g.1 → Q r g2 w2 → Q2 r g2 w2) → aSt_coolDown d lim Q2 0 [xr l0, xr l1, none, none, none, none] [] g w) : cal (d + 1) nSt_coolDown [xr l0, xr l1] g w Q := t _ _ xQof
abbrev aSt_feel (d : Nat) (lim : Nat × Nat) (Q : xQ) : xK := xAt xMks tSt_feel (cal d) lim Q
def kSt_feel : List (Nat × List Bool) := [(7, [true, true, true, true])]
set_option maxRecDepth 20000 in
theorem wSt_feel_0 {d : Nat} {lim : Nat × Nat} {Q : xQ} {l2 : Int} {l0 l1 : Nat} {g : xG} {w : xW} (t : xIs g l0 (0, 3) ∧ aSt_feel d lim Q 7 [xr l0, xr l1, xi l2, xi 0] [] g (xup w l0 12 0)) :
    aSt_feel d lim Q 0 [xr l0, xr l1, xi l2, none] [] g w := xAt_exec (cal_m d) kSt_feel 6 t
set_option maxRecDepth 20000 in
theorem wSt_feel_7 {d : Nat} {lim : Nat × Nat} {Q : xQ} {l2 l3 : Int} {l0 l1 : Nat} {g : xG} {w : xW} (t : xIs g l1 (0, 5) ∧ 
  (((w l1 5) ≤ l3) → Q none g w) ∧
  ((l3 < (w l1 5)) → 
    ((l3 = l2) → x32 (l3 + 1) ∧ aSt_feel d lim Q 7 [xr l0, xr l1, xi l2, xi (l3 + 1)] [] g w) ∧
    ((¬ l3 = l2) → xIs g l0 (0, 3) ∧ xIs g l0 (0, 3) ∧ xAr g (g.2 l0 7) l3 ∧ xAr g (g.2 l0 0) (w (g.2 l0 7) (Int.toNat l3)) ∧ xIs g l0 (0, 3) ∧ xAr g (g.2 l0 8) l3 ∧ xIs g l1 (0, 5) ∧ xAr g (g.2 l1 11) l3 ∧ x32 ((w (g.2 l0 8) (Int.toNat l3)) + (w (g.2 l1 11) (Int.toNat l3))) ∧ 
      (((w (g.2 l0 0) (Int.toNat (w (g.2 l0 7) (Int.toNat l3)))) < ((w (g.2 l0 8) (Int.toNat l3)) + (w (g.2 l1 11) (Int.toNat l3)))) → x32 (l3 + 1) ∧ aSt_feel d lim Q 7 [xr l0, xr l1, xi l2, xi (l3 + 1)] [] g w) ∧
      ((((w (g.2 l0 8) (Int.toNat l3)) + (w (g.2 l1 11) (Int.toNat l3))) ≤ (w (g.2 l0 0) (Int.toNat (w (g.2 l0 7) (Int.toNat l3))))) → xIs g l0 (0, 3) ∧ xIs g l0 (0, 3) ∧ x32 (l3 + 1) ∧ aSt_feel d lim Q 7 [xr l0, xr l1, xi l2, xi (l3 + 1)] [] g (xup w l0 12 (xOr (w l0 12) (xShl 1 l3))))))) :
    aSt_feel d lim Q 7 [xr l0, xr l1, xi l2, xi l3] [] g w := xAt_exec (cal_m d) kSt_feel 35 t
theorem eSt_feel {d : Nat} {Q : xQ} {l2 : Int} {l0 l1 : Nat} {g : xG} {w : xW} (t : ∀ (lim : Nat × Nat) (Q2 : xQ), (∀ r g2 w2, g2.1 = g.1 → Q r g2 w2 → Q2 r g2 w2) → aSt_feel d lim Q2 0 [xr l0, xr l1, xi l2, none] [] g w) : cal (d + 1) nSt_feel [xr l0, xr l1, xi l2] g w Q := t _ _ xQof
abbrev aSt_takeCells (d : Nat) (lim : Nat × Nat) (Q : xQ) : xK := xAt xMks tSt_takeCells (cal d) lim Q
def kSt_takeCells : List (Nat × List Bool) := [(2, [true, true, true, false]), (47, [true, true, true, true])]
set_option maxRecDepth 20000 in
theorem wSt_takeCells_0 {d : Nat} {lim : Nat × Nat} {Q : xQ} {l0 l1 : Nat} {g : xG} {w : xW} (t : aSt_takeCells d lim Q 2 [xr l0, xr l1, xi 0, none] [] g w) :
    aSt_takeCells d lim Q 0 [xr l0, xr l1, none, none] [] g w := xAt_exec (cal_m d) kSt_takeCells 3 t
set_option maxRecDepth 20000 in
theorem wSt_takeCells_2 {d : Nat} {lim : Nat × Nat} {Q : xQ} {l2 : Int} {l0 l1 : Nat} {g : xG} {w : xW} (t : xIs g l1 (0, 5) ∧ 
  (((w l1 5) ≤ l2) → Q none g w) ∧
  ((l2 < (w l1 5)) → xIs g l0 (0, 3) ∧ xAr g (g.2 l0 7) l2 ∧ xIs g l0 (0, 3) ∧ 
    cal d nSt_feels [xr l0, xi l2] g w (fun r g1 w1 => ∃ v1 : Int, r = some (xi v1) ∧ 
      ((v1 = 0) → aSt_takeCells d lim Q 47 [xr l0, xr l1, xi l2, xi (w (g.2 l0 7) (Int.toNat l2))] [] g1 w1) ∧
      ((¬ v1 = 0) → xIs g1 l0 (0, 3) ∧ xAr g1 (g1.2 l0 2) (w (g.2 l0 7) (Int.toNat l2)) ∧ 
        ((¬ (w1 (g1.2 l0 2) (Int.toNat (w (g.2 l0 7) (Int.toNat l2)))) = (-1)) → aSt_takeCells d lim Q 47 [xr l0, xr l1, xi l2, xi (w (g.2 l0 7) (Int.toNat l2))] [] g1 w1) ∧
        (((w1 (g1.2 l0 2) (Int.toNat (w (g.2 l0 7) (Int.toNat l2)))) = (-1)) → xIs g1 l0 (0, 3) ∧ xIs g1 l0 (0, 3) ∧ 
          cal d nSt_coldestFeeling [xr l0, xr l1, xi (w (g.2 l0 7) (Int.toNat l2))] g1 w1 (fun r g2 w2 => ∃ v2 : Int, r = some (xi v2) ∧ xA1 g2 (g1.2 l0 2) (w (g.2 l0 7) (Int.toNat l2)) ∧ aSt_takeCells d lim Q 47 [xr l0, xr l1, xi l2, xi (w (g.2 l0 7) (Int.toNat l2))] [] g2 (xup w2 (g1.2 l0 2) (Int.toNat (w (g.2 l0 7) (Int.toNat l2))) v2))))))) :
    aSt_takeCells d lim Q 2 [xr l0, xr l1, xi l2, none] [] g w := xAt_exec (cal_m d) kSt_takeCells 28 t
set_option maxRecDepth 20000 in
theorem wSt_takeCells_47 {d : Nat} {lim : Nat × Nat} {Q : xQ} {l2 l3 : Int} {l0 l1 : Nat} {g : xG} {w : xW} (t : xIs g l0 (0, 3) ∧ 
  cal d nSt_feels [xr l0, xi l2] g w (fun r g1 w1 => ∃ v1 : Int, r = some (xi v1) ∧ 
    ((v1 = 0) → x32 (l2 + 1) ∧ aSt_takeCells d lim Q 2 [xr l0, xr l1, xi (l2 + 1), none] [] g1 w1) ∧
    ((¬ v1 = 0) → xIs g1 l0 (0, 3) ∧ xAr g1 (g1.2 l0 2) l3 ∧ 
      ((¬ (w1 (g1.2 l0 2) (Int.toNat l3)) = l2) → x32 (l2 + 1) ∧ aSt_takeCells d lim Q 2 [xr l0, xr l1, xi (l2 + 1), none] [] g1 w1) ∧
      (((w1 (g1.2 l0 2) (Int.toNat l3)) = l2) → xIs g1 l0 (0, 3) ∧ xIs g1 l0 (0, 3) ∧ xA1 g1 (g1.2 l0 3) l3 ∧ x32 (l2 + 1) ∧ aSt_takeCells d lim Q 2 [xr l0, xr l1, xi (l2 + 1), none] [] g1 (xup w1 (g1.2 l0 3) (Int.toNat l3) (w1 l0 16)))))) :
    aSt_takeCells d lim Q 47 [xr l0, xr l1, xi l2, xi l3] [] g w := xAt_exec (cal_m d) kSt_takeCells 19 t
theorem eSt_takeCells {d : Nat} {Q : xQ} {l0 l1 : Nat} {g : xG} {w : xW} (t : ∀ (lim : Nat × Nat) (Q2 : xQ), (∀ r g2 w2, g2.1 = g.1 → Q r g2 w2 → Q2 r g2 w2) → aSt_takeCells d lim Q2 0 [xr l0, xr l1, none, none] [] g w) : cal (d + 1) nSt_takeCells [xr l0, xr l1] g w Q := t _ _ xQof
abbrev aSt_coldestFeeling (d : Nat) (lim : Nat × Nat) (Q : xQ) : xK := xAt xMks tSt_coldestFeeling (cal d) lim Q
def kSt_coldestFeeling : List (Nat × List Bool) := [(5, [true, true, true, true, true])]
set_option maxRecDepth 20000 in
theorem wSt_coldestFeeling_0 {d : Nat} {lim : Nat × Nat} {Q : xQ} {l2 : Int} {l0 l1 : Nat} {g : xG} {w : xW} (t : aSt_coldestFeeling d lim Q 5 [xr l0, xr l1, xi l2, xi (-1), xi 0] [] g w) :
    aSt_coldestFeeling d lim Q 0 [xr l0, xr l1, xi l2, none, none] [] g w := xAt_exec (cal_m d) kSt_coldestFeeling 5 t
set_option maxRecDepth 20000 in
theorem wSt_coldestFeeling_5 {d : Nat} {lim : Nat × Nat} {Q : xQ} {l2 l3 l4 : Int} {l0 l1 : Nat} {g : xG} {w : xW} (t : xIs g l1 (0, 5) ∧ 
  (((w l1 5) ≤ l4) → Q (some (xi l3)) g w) ∧
  ((l4 < (w l1 5)) → xIs g l0 (0, 3) ∧ 
    cal d nSt_feels [xr l0, xi l4] g w (fun r g1 w1 => ∃ v1 : Int, r = some (xi v1) ∧ 
      ((v1 = 0) → x32 (l4 + 1) ∧ aSt_coldestFeeling d lim Q 5 [xr l0, xr l1, xi l2, xi l3, xi (l4 + 1)] [] g1 w1) ∧
      ((¬ v1 = 0) → xIs g1 l0 (0, 3) ∧ xAr g1 (g1.2 l0 7) l4 ∧ 
        ((¬ (w1 (g1.2 l0 7) (Int.toNat l4)) = l2) → x32 (l4 + 1) ∧ aSt_coldestFeeling d lim Q 5 [xr l0, xr l1, xi l2, xi l3, xi (l4 + 1)] [] g1 w1) ∧
        (((w1 (g1.2 l0 7) (Int.toNat l4)) = l2) → 
          ((l3 = (-1)) → x32 (l4 + 1) ∧ aSt_coldestFeeling d lim Q 5 [xr l0, xr l1, xi l2, xi l4, xi (l4 + 1)] [] g1 w1) ∧
          ((¬ l3 = (-1)) → xIs g1 l0 (0, 3) ∧ xAr g1 (g1.2 l0 8) l4 ∧ xIs g1 l0 (0, 3) ∧ xAr g1 (g1.2 l0 8) l3 ∧ 
            (((w1 (g1.2 l0 8) (Int.toNat l3)) ≤ (w1 (g1.2 l0 8) (Int.toNat l4))) → x32 (l4 + 1) ∧ aSt_coldestFeeling d lim Q 5 [xr l0, xr l1, xi l2, xi l3, xi (l4 + 1)] [] g1 w1) ∧
            (((w1 (g1.2 l0 8) (Int.toNat l4)) < (w1 (g1.2 l0 8) (Int.toNat l3))) → x32 (l4 + 1) ∧ aSt_coldestFeeling d lim Q 5 [xr l0, xr l1, xi l2, xi l4, xi (l4 + 1)] [] g1 w1))))))) :
    aSt_coldestFeeling d lim Q 5 [xr l0, xr l1, xi l2, xi l3, xi l4] [] g w := xAt_exec (cal_m d) kSt_coldestFeeling 31 t
theorem eSt_coldestFeeling {d : Nat} {Q : xQ} {l2 : Int} {l0 l1 : Nat} {g : xG} {w : xW} (t : ∀ (lim : Nat × Nat) (Q2 : xQ), (∀ r g2 w2, g2.1 = g.1 → Q r g2 w2 → Q2 r g2 w2) → aSt_coldestFeeling d lim Q2 0 [xr l0, xr l1, xi l2, none, none] [] g w) : cal (d + 1) nSt_coldestFeeling [xr l0, xr l1, xi l2] g w Q := t _ _ xQof
abbrev aSt_keepLaw (d : Nat) (lim : Nat × Nat) (Q : xQ) : xK := xAt xMks tSt_keepLaw (cal d) lim Q
def kSt_keepLaw : List (Nat × List Bool) := [(16, [true, true])]
set_option maxRecDepth 20000 in
theorem wSt_keepLaw_0 {d : Nat} {lim : Nat × Nat} {Q : xQ} {l0 l1 : Nat} {g : xG} {w : xW} (t : xIs g l0 (0, 3) ∧ 
  (((w l0 14) = 1) → aSt_keepLaw d lim Q 16 [xr l0, xr l1] [] g w) ∧
  ((¬ (w l0 14) = 1) → xIs g l0 (0, 3) ∧ 
    ((¬ (w l0 14) = 2) → xIs g l0 (0, 3) ∧ 
      ((¬ (w l0 14) = 3) → Q none g w) ∧
      (((w l0 14) = 3) → xIs g l0 (0, 3) ∧ 
        cal d nSt_makePartners [xr l0, xr l1] g w (fun r g1 w1 => r = none ∧ Q none g1 w1))) ∧
    (((w l0 14) = 2) → aSt_keepLaw d lim Q 16 [xr l0, xr l1] [] g w))) :
    aSt_keepLaw d lim Q 0 [xr l0, xr l1] [] g w := xAt_exec (cal_m d) kSt_keepLaw 17 t
set_option maxRecDepth 20000 in
theorem wSt_keepLaw_16 {d : Nat} {lim : Nat × Nat} {Q : xQ} {l0 l1 : Nat} {g : xG} {w : xW} (t : xIs g l0 (0, 3) ∧ 
  cal d nSt_endOwning [xr l0, xr l1] g w (fun r g1 w1 => r = none ∧ Q none g1 w1)) :
    aSt_keepLaw d lim Q 16 [xr l0, xr l1] [] g w := xAt_exec (cal_m d) kSt_keepLaw 6 t
theorem eSt_keepLaw {d : Nat} {Q : xQ} {l0 l1 : Nat} {g : xG} {w : xW} (t : ∀ (lim : Nat × Nat) (Q2 : xQ), (∀ r g2 w2, g2.1 = g.1 → Q r g2 w2 → Q2 r g2 w2) → aSt_keepLaw d lim Q2 0 [xr l0, xr l1] [] g w) : cal (d + 1) nSt_keepLaw [xr l0, xr l1] g w Q := t _ _ xQof
abbrev aSt_endOwning (d : Nat) (lim : Nat × Nat) (Q : xQ) : xK := xAt xMks tSt_endOwning (cal d) lim Q
def kSt_endOwning : List (Nat × List Bool) := [(7, [true, false, true, true, false]), (76, [true, false, true, true, false])]
set_option maxRecDepth 20000 in
theorem wSt_endOwning_0 {d : Nat} {lim : Nat × Nat} {Q : xQ} {l0 l1 : Nat} {g : xG} {w : xW} (t : xIs g l1 (0, 5) ∧ 
  cal d nTw_cells [xr l1] g w (fun r g1 w1 => ∃ v1 : Int, r = some (xi v1) ∧ aSt_endOwning d lim Q 7 [xr l0, none, xi v1, xi 0, none] [] g1 w1)) :
    aSt_endOwning d lim Q 0 [xr l0, xr l1, none, none, none] [] g w := xAt_exec (cal_m d) kSt_endOwning 6 t
set_option maxRecDepth 20000 in
theorem wSt_endOwning_7 {d : Nat} {lim : Nat × Nat} {Q : xQ} {l2 l3 : Int} {l0 : Nat} {g : xG} {w : xW} (t : 
  ((l2 ≤ l3) → Q none g w) ∧
  ((l3 < l2) → xIs g l0 (0, 3) ∧ xAr g (g.2 l0 2) l3 ∧ 
    (((w (g.2 l0 2) (Int.toNat l3)) = (-1)) → x32 (l3 + 1) ∧ aSt_endOwning d lim Q 7 [xr l0, none, xi l2, xi (l3 + 1), none] [] g w) ∧
    ((¬ (w (g.2 l0 2) (Int.toNat l3)) = (-1)) → xIs g l0 (0, 3) ∧ 
      ((¬ (w l0 14) = 1) → xIs g l0 (0, 3) ∧ xIs g l0 (0, 3) ∧ xAr g (g.2 l0 2) l3 ∧ xAr g (g.2 l0 7) (w (g.2 l0 2) (Int.toNat l3)) ∧ 
        ((¬ (w (g.2 l0 7) (Int.toNat (w (g.2 l0 2) (Int.toNat l3)))) = l3) → aSt_endOwning d lim Q 76 [xr l0, none, xi l2, xi l3, none] [xi 0] g w) ∧
        (((w (g.2 l0 7) (Int.toNat (w (g.2 l0 2) (Int.toNat l3)))) = l3) → aSt_endOwning d lim Q 76 [xr l0, none, xi l2, xi l3, none] [xi 1] g w)) ∧
      (((w l0 14) = 1) → xIs g l0 (0, 3) ∧ xIs g l0 (0, 3) ∧ xAr g (g.2 l0 3) l3 ∧ x32 ((w l0 16) - (w (g.2 l0 3) (Int.toNat l3))) ∧ xIs g l0 (0, 3) ∧ 
        (((w l0 15) < ((w l0 16) - (w (g.2 l0 3) (Int.toNat l3)))) → aSt_endOwning d lim Q 76 [xr l0, none, xi l2, xi l3, none] [xi 0] g w) ∧
        ((((w l0 16) - (w (g.2 l0 3) (Int.toNat l3))) ≤ (w l0 15)) → aSt_endOwning d lim Q 76 [xr l0, none, xi l2, xi l3, none] [xi 1] g w))))) :
    aSt_endOwning d lim Q 7 [xr l0, none, xi l2, xi l3, none] [] g w := xAt_exec (cal_m d) kSt_endOwning 26 t
set_option maxRecDepth 20000 in
theorem wSt_endOwning_76 {d : Nat} {lim : Nat × Nat} {Q : xQ} {l2 l3 s0 : Int} {l0 : Nat} {g : xG} {w : xW} (t : 
  ((¬ s0 = 0) → x32 (l3 + 1) ∧ aSt_endOwning d lim Q 7 [xr l0, none, xi l2, xi (l3 + 1), none] [] g w) ∧
  ((s0 = 0) → xIs g l0 (0, 3) ∧ xA1 g (g.2 l0 2) l3 ∧ x32 (l3 + 1) ∧ aSt_endOwning d lim Q 7 [xr l0, none, xi l2, xi (l3 + 1), none] [] g (xup w (g.2 l0 2) (Int.toNat l3) (-1)))) :
    aSt_endOwning d lim Q 76 [xr l0, none, xi l2, xi l3, none] [xi s0] g w := xAt_exec (cal_m d) kSt_endOwning 11 t
theorem eSt_endOwning {d : Nat} {Q : xQ} {l0 l1 : Nat} {g : xG} {w : xW} (t : ∀ (lim : Nat × Nat) (Q2 : xQ), (∀ r g2 w2, g2.1 = g.1 → Q r g2 w2 → Q2 r g2 w2) → aSt_endOwning d lim Q2 0 [xr l0, xr l1, none, none, none] [] g w) : cal (d + 1) nSt_endOwning [xr l0, xr l1] g w Q := t _ _ xQof
abbrev aSt_makePartners (d : Nat) (lim : Nat × Nat) (Q : xQ) : xK := xAt xMks tSt_makePartners (cal d) lim Q
def kSt_makePartners : List (Nat × List Bool) := [(2, [true, true, true, false]), (52, [true, true, true, true])]
set_option maxRecDepth 20000 in
theorem wSt_makePartners_0 {d : Nat} {lim : Nat × Nat} {Q : xQ} {l0 l1 : Nat} {g : xG} {w : xW} (t : aSt_makePartners d lim Q 2 [xr l0, xr l1, xi 0, none] [] g w) :
    aSt_makePartners d lim Q 0 [xr l0, xr l1, none, none] [] g w := xAt_exec (cal_m d) kSt_makePartners 3 t
set_option maxRecDepth 20000 in
theorem wSt_makePartners_2 {d : Nat} {lim : Nat × Nat} {Q : xQ} {l2 : Int} {l0 l1 : Nat} {g : xG} {w : xW} (t : xIs g l1 (0, 5) ∧ 
  (((w l1 5) ≤ l2) → Q none g w) ∧
  ((l2 < (w l1 5)) → xIs g l0 (0, 3) ∧ xIs g l0 (0, 3) ∧ xAr g (g.2 l0 7) l2 ∧ xAr g (g.2 l0 2) (w (g.2 l0 7) (Int.toNat l2)) ∧ xIs g l0 (0, 3) ∧ 
    cal d nSt_feels [xr l0, xi l2] g w (fun r g1 w1 => ∃ v1 : Int, r = some (xi v1) ∧ 
      ((v1 = 0) → x32 (l2 + 1) ∧ aSt_makePartners d lim Q 2 [xr l0, xr l1, xi (l2 + 1), none] [] g1 w1) ∧
      ((¬ v1 = 0) → 
        (((w (g.2 l0 2) (Int.toNat (w (g.2 l0 7) (Int.toNat l2)))) = (-1)) → x32 (l2 + 1) ∧ aSt_makePartners d lim Q 2 [xr l0, xr l1, xi (l2 + 1), none] [] g1 w1) ∧
        ((¬ (w (g.2 l0 2) (Int.toNat (w (g.2 l0 7) (Int.toNat l2)))) = (-1)) → 
          (((w (g.2 l0 2) (Int.toNat (w (g.2 l0 7) (Int.toNat l2)))) = l2) → x32 (l2 + 1) ∧ aSt_makePartners d lim Q 2 [xr l0, xr l1, xi (l2 + 1), none] [] g1 w1) ∧
          ((¬ (w (g.2 l0 2) (Int.toNat (w (g.2 l0 7) (Int.toNat l2)))) = l2) → xIs g1 l0 (0, 3) ∧ xAr g1 (g1.2 l0 11) l2 ∧ xA1 g1 (g1.2 l0 11) l2 ∧ aSt_makePartners d lim Q 52 [xr l0, xr l1, xi l2, xi (w (g.2 l0 2) (Int.toNat (w (g.2 l0 7) (Int.toNat l2))))] [] g1 (xup w1 (g1.2 l0 11) (Int.toNat l2) (xOr (w1 (g1.2 l0 11) (Int.toNat l2)) (xShl 1 (w (g.2 l0 2) (Int.toNat (w (g.2 l0 7) (Int.toNat l2))))))))))))) :
    aSt_makePartners d lim Q 2 [xr l0, xr l1, xi l2, none] [] g w := xAt_exec (cal_m d) kSt_makePartners 33 t
set_option maxRecDepth 20000 in
theorem wSt_makePartners_52 {d : Nat} {lim : Nat × Nat} {Q : xQ} {l2 l3 : Int} {l0 l1 : Nat} {g : xG} {w : xW} (t : xIs g l0 (0, 3) ∧ xAr g (g.2 l0 11) l3 ∧ xA1 g (g.2 l0 11) l3 ∧ x32 (l2 + 1) ∧ aSt_makePartners d lim Q 2 [xr l0, xr l1, xi (l2 + 1), none] [] g (xup w (g.2 l0 11) (Int.toNat l3) (xOr (w (g.2 l0 11) (Int.toNat l3)) (xShl 1 l2)))) :
    aSt_makePartners d lim Q 52 [xr l0, xr l1, xi l2, xi l3] [] g w := xAt_exec (cal_m d) kSt_makePartners 13 t
theorem eSt_makePartners {d : Nat} {Q : xQ} {l0 l1 : Nat} {g : xG} {w : xW} (t : ∀ (lim : Nat × Nat) (Q2 : xQ), (∀ r g2 w2, g2.1 = g.1 → Q r g2 w2 → Q2 r g2 w2) → aSt_makePartners d lim Q2 0 [xr l0, xr l1, none, none] [] g w) : cal (d + 1) nSt_makePartners [xr l0, xr l1] g w Q := t _ _ xQof
abbrev aSt_isDear (d : Nat) (lim : Nat × Nat) (Q : xQ) : xK := xAt xMks tSt_isDear (cal d) lim Q
def kSt_isDear : List (Nat × List Bool) := []
set_option maxRecDepth 20000 in
theorem wSt_isDear_0 {d : Nat} {lim : Nat × Nat} {Q : xQ} {l1 l2 : Int} {l0 : Nat} {g : xG} {w : xW} (t : xIs g l0 (0, 3) ∧ xAr g (g.2 l0 2) l2 ∧ xIs g l0 (0, 3) ∧ xAr g (g.2 l0 0) l2 ∧ 
  (((w (g.2 l0 0) (Int.toNat l2)) < 50) → ((0 : Int) = 0 ∨ (0 : Int) = 1) ∧ Q (some (xi 0)) g w) ∧
  ((50 ≤ (w (g.2 l0 0) (Int.toNat l2))) → 
    (((w (g.2 l0 2) (Int.toNat l2)) = (-1)) → ((0 : Int) = 0 ∨ (0 : Int) = 1) ∧ Q (some (xi 0)) g w) ∧
    ((¬ (w (g.2 l0 2) (Int.toNat l2)) = (-1)) → 
      (((w (g.2 l0 2) (Int.toNat l2)) = l1) → ((0 : Int) = 0 ∨ (0 : Int) = 1) ∧ Q (some (xi 0)) g w) ∧
      ((¬ (w (g.2 l0 2) (Int.toNat l2)) = l1) → xIs g l0 (0, 3) ∧ xAr g (g.2 l0 11) l1 ∧ 
        ((¬ (xAnd (xShr (w (g.2 l0 11) (Int.toNat l1)) (w (g.2 l0 2) (Int.toNat l2))) 1) = 0) → ((0 : Int) = 0 ∨ (0 : Int) = 1) ∧ Q (some (xi 0)) g w) ∧
        (((xAnd (xShr (w (g.2 l0 11) (Int.toNat l1)) (w (g.2 l0 2) (Int.toNat l2))) 1) = 0) → ((1 : Int) = 0 ∨ (1 : Int) = 1) ∧ Q (some (xi 1)) g w))))) :
    aSt_isDear d lim Q 0 [xr l0, xi l1, xi l2, none] [] g w := xAt_exec (cal_m d) kSt_isDear 30 t
theorem eSt_isDear {d : Nat} {Q : xQ} {l1 l2 : Int} {l0 : Nat} {g : xG} {w : xW} (t : ∀ (lim : Nat × Nat) (Q2 : xQ), (∀ r g2 w2, g2.1 = g.1 → Q r g2 w2 → Q2 r g2 w2) → aSt_isDear d lim Q2 0 [xr l0, xi l1, xi l2, none] [] g w) : cal (d + 1) nSt_isDear [xr l0, xi l1, xi l2] g w Q := t _ _ xQof
abbrev aSt_oweForWarmth (d : Nat) (lim : Nat × Nat) (Q : xQ) : xK := xAt xMks tSt_oweForWarmth (cal d) lim Q
def kSt_oweForWarmth : List (Nat × List Bool) := [(2, [true, true, true, false]), (55, [true, true, true, true])]
set_option maxRecDepth 20000 in
theorem wSt_oweForWarmth_0 {d : Nat} {lim : Nat × Nat} {Q : xQ} {l0 l1 : Nat} {g : xG} {w : xW} (t : aSt_oweForWarmth d lim Q 2 [xr l0, xr l1, xi 0, none] [] g w) :
    aSt_oweForWarmth d lim Q 0 [xr l0, xr l1, none, none] [] g w := xAt_exec (cal_m d) kSt_oweForWarmth 3 t
set_option maxRecDepth 20000 in
theorem wSt_oweForWarmth_2 {d : Nat} {lim : Nat × Nat} {Q : xQ} {l2 : Int} {l0 l1 : Nat} {g : xG} {w : xW} (t : xIs g l1 (0, 5) ∧ 
  (((w l1 5) ≤ l2) → Q none g w) ∧
  ((l2 < (w l1 5)) → xIs g l0 (0, 3) ∧ xAr g (g.2 l0 7) l2 ∧ xIs g l0 (0, 3) ∧ 
    cal d nSt_isDear [xr l0, xi l2, xi (w (g.2 l0 7) (Int.toNat l2))] g w (fun r g1 w1 => ∃ v1 : Int, r = some (xi v1) ∧ 
      ((v1 = 0) → x32 (l2 + 1) ∧ aSt_oweForWarmth d lim Q 2 [xr l0, xr l1, xi (l2 + 1), none] [] g1 w1) ∧
      ((¬ v1 = 0) → xIs g1 l0 (0, 3) ∧ xIs g1 l0 (0, 3) ∧ xAr g1 (g1.2 l0 7) l2 ∧ xAr g1 (g1.2 l0 2) (w1 (g1.2 l0 7) (Int.toNat l2)) ∧ xIs g1 l0 (0, 3) ∧ xIs g1 l0 (0, 3) ∧ xAr g1 (g1.2 l0 9) l2 ∧ x32 ((w1 (g1.2 l0 9) (Int.toNat l2)) + 1) ∧ xA1 g1 (g1.2 l0 9) l2 ∧ aSt_oweForWarmth d lim Q 55 [xr l0, xr l1, xi l2, xi (w1 (g1.2 l0 2) (Int.toNat (w1 (g1.2 l0 7) (Int.toNat l2))))] [] g1 (xup w1 (g1.2 l0 9) (Int.toNat l2) (min 999999 ((w1 (g1.2 l0 9) (Int.toNat l2)) + 1))))))) :
    aSt_oweForWarmth d lim Q 2 [xr l0, xr l1, xi l2, none] [] g w := xAt_exec (cal_m d) kSt_oweForWarmth 33 t
set_option maxRecDepth 20000 in
theorem wSt_oweForWarmth_55 {d : Nat} {lim : Nat × Nat} {Q : xQ} {l2 l3 : Int} {l0 l1 : Nat} {g : xG} {w : xW} (t : xIs g l0 (0, 3) ∧ xIs g l0 (0, 3) ∧ xAr g (g.2 l0 10) l3 ∧ x32 ((w (g.2 l0 10) (Int.toNat l3)) + 1) ∧ xA1 g (g.2 l0 10) l3 ∧ x32 (l2 + 1) ∧ aSt_oweForWarmth d lim Q 2 [xr l0, xr l1, xi (l2 + 1), none] [] g (xup w (g.2 l0 10) (Int.toNat l3) (min 999999 ((w (g.2 l0 10) (Int.toNat l3)) + 1)))) :
    aSt_oweForWarmth d lim Q 55 [xr l0, xr l1, xi l2, xi l3] [] g w := xAt_exec (cal_m d) kSt_oweForWarmth 15 t
theorem eSt_oweForWarmth {d : Nat} {Q : xQ} {l0 l1 : Nat} {g : xG} {w : xW} (t : ∀ (lim : Nat × Nat) (Q2 : xQ), (∀ r g2 w2, g2.1 = g.1 → Q r g2 w2 → Q2 r g2 w2) → aSt_oweForWarmth d lim Q2 0 [xr l0, xr l1, none, none] [] g w) : cal (d + 1) nSt_oweForWarmth [xr l0, xr l1] g w Q := t _ _ xQof
abbrev aSt_warmSkins (d : Nat) (lim : Nat × Nat) (Q : xQ) : xK := xAt xMks tSt_warmSkins (cal d) lim Q
def kSt_warmSkins : List (Nat × List Bool) := [(2, [true, true, true]), (39, [true, true, true])]
set_option maxRecDepth 20000 in
theorem wSt_warmSkins_0 {d : Nat} {lim : Nat × Nat} {Q : xQ} {l0 l1 : Nat} {g : xG} {w : xW} (t : aSt_warmSkins d lim Q 2 [xr l0, xr l1, xi 0] [] g w) :
    aSt_warmSkins d lim Q 0 [xr l0, xr l1, none] [] g w := xAt_exec (cal_m d) kSt_warmSkins 3 t
set_option maxRecDepth 20000 in
theorem wSt_warmSkins_2 {d : Nat} {lim : Nat × Nat} {Q : xQ} {l2 : Int} {l0 l1 : Nat} {g : xG} {w : xW} (t : xIs g l1 (0, 5) ∧ 
  (((w l1 5) ≤ l2) → Q none g w) ∧
  ((l2 < (w l1 5)) → xIs g l0 (0, 3) ∧ xAr g (g.2 l0 8) l2 ∧ xIs g l0 (0, 3) ∧ xIs g l0 (0, 3) ∧ xAr g (g.2 l0 7) l2 ∧ xAr g (g.2 l0 0) (w (g.2 l0 7) (Int.toNat l2)) ∧ xIs g l0 (0, 3) ∧ xAr g (g.2 l0 8) l2 ∧ x32 ((w (g.2 l0 0) (Int.toNat (w (g.2 l0 7) (Int.toNat l2)))) - (w (g.2 l0 8) (Int.toNat l2))) ∧ ((4 : Int) ≠ 0 ∧ x32 (Int.tdiv ((w (g.2 l0 0) (Int.toNat (w (g.2 l0 7) (Int.toNat l2)))) - (w (g.2 l0 8) (Int.toNat l2))) 4)) ∧ x32 ((w (g.2 l0 8) (Int.toNat l2)) + (Int.tdiv ((w (g.2 l0 0) (Int.toNat (w (g.2 l0 7) (Int.toNat l2)))) - (w (g.2 l0 8) (Int.toNat l2))) 4)) ∧ xA1 g (g.2 l0 8) l2 ∧ aSt_warmSkins d lim Q 39 [xr l0, xr l1, xi l2] [] g (xup w (g.2 l0 8) (Int.toNat l2) ((w (g.2 l0 8) (Int.toNat l2)) + (Int.tdiv ((w (g.2 l0 0) (Int.toNat (w (g.2 l0 7) (Int.toNat l2)))) - (w (g.2 l0 8) (Int.toNat l2))) 4))))) :
    aSt_warmSkins d lim Q 2 [xr l0, xr l1, xi l2] [] g w := xAt_exec (cal_m d) kSt_warmSkins 26 t
set_option maxRecDepth 20000 in
theorem wSt_warmSkins_39 {d : Nat} {lim : Nat × Nat} {Q : xQ} {l2 : Int} {l0 l1 : Nat} {g : xG} {w : xW} (t : xIs g l0 (0, 3) ∧ xAr g (g.2 l0 8) l2 ∧ 
  ((20 ≤ (w (g.2 l0 8) (Int.toNat l2))) → x32 (l2 + 1) ∧ aSt_warmSkins d lim Q 2 [xr l0, xr l1, xi (l2 + 1)] [] g w) ∧
  (((w (g.2 l0 8) (Int.toNat l2)) < 20) → xIs g l0 (0, 3) ∧ xIs g l0 (0, 3) ∧ x32 (l2 + 1) ∧ aSt_warmSkins d lim Q 2 [xr l0, xr l1, xi (l2 + 1)] [] g (xup w l0 13 (xOr (w l0 13) (xShl 1 l2))))) :
    aSt_warmSkins d lim Q 39 [xr l0, xr l1, xi l2] [] g w := xAt_exec (cal_m d) kSt_warmSkins 17 t
theorem eSt_warmSkins {d : Nat} {Q : xQ} {l0 l1 : Nat} {g : xG} {w : xW} (t : ∀ (lim : Nat × Nat) (Q2 : xQ), (∀ r g2 w2, g2.1 = g.1 → Q r g2 w2 → Q2 r g2 w2) → aSt_warmSkins d lim Q2 0 [xr l0, xr l1, none] [] g w) : cal (d + 1) nSt_warmSkins [xr l0, xr l1] g w Q := t _ _ xQof
abbrev aSt_leaveDearCells (d : Nat) (lim : Nat × Nat) (Q : xQ) : xK := xAt xMks tSt_leaveDearCells (cal d) lim Q
def kSt_leaveDearCells : List (Nat × List Bool) := [(2, [true, true, true])]
set_option maxRecDepth 20000 in
theorem wSt_leaveDearCells_0 {d : Nat} {lim : Nat × Nat} {Q : xQ} {l0 l1 : Nat} {g : xG} {w : xW} (t : aSt_leaveDearCells d lim Q 2 [xr l0, xr l1, xi 0] [] g w) :
    aSt_leaveDearCells d lim Q 0 [xr l0, xr l1, none] [] g w := xAt_exec (cal_m d) kSt_leaveDearCells 3 t
set_option maxRecDepth 20000 in
theorem wSt_leaveDearCells_2 {d : Nat} {lim : Nat × Nat} {Q : xQ} {l2 : Int} {l0 l1 : Nat} {g : xG} {w : xW} (t : xIs g l1 (0, 5) ∧ 
  (((w l1 5) ≤ l2) → Q none g w) ∧
  ((l2 < (w l1 5)) → xIs g l0 (0, 3) ∧ xAr g (g.2 l0 7) l2 ∧ xIs g l0 (0, 3) ∧ 
    cal d nSt_isDear [xr l0, xi l2, xi (w (g.2 l0 7) (Int.toNat l2))] g w (fun r g1 w1 => ∃ v1 : Int, r = some (xi v1) ∧ 
      ((v1 = 0) → x32 (l2 + 1) ∧ aSt_leaveDearCells d lim Q 2 [xr l0, xr l1, xi (l2 + 1)] [] g1 w1) ∧
      ((¬ v1 = 0) → xIs g1 l0 (0, 3) ∧ xIs g1 l0 (0, 3) ∧ 
        cal d nSt_refuge [xr l0, xr l1, xi l2] g1 w1 (fun r g2 w2 => ∃ v2 : Int, r = some (xi v2) ∧ xA1 g2 (g1.2 l0 7) l2 ∧ x32 (l2 + 1) ∧ aSt_leaveDearCells d lim Q 2 [xr l0, xr l1, xi (l2 + 1)] [] g2 (xup w2 (g1.2 l0 7) (Int.toNat l2) v2)))))) :
    aSt_leaveDearCells d lim Q 2 [xr l0, xr l1, xi l2] [] g w := xAt_exec (cal_m d) kSt_leaveDearCells 23 t
theorem eSt_leaveDearCells {d : Nat} {Q : xQ} {l0 l1 : Nat} {g : xG} {w : xW} (t : ∀ (lim : Nat × Nat) (Q2 : xQ), (∀ r g2 w2, g2.1 = g.1 → Q r g2 w2 → Q2 r g2 w2) → aSt_leaveDearCells d lim Q2 0 [xr l0, xr l1, none] [] g w) : cal (d + 1) nSt_leaveDearCells [xr l0, xr l1] g w Q := t _ _ xQof
abbrev aSt_refuge (d : Nat) (lim : Nat × Nat) (Q : xQ) : xK := xAt xMks tSt_refuge (cal d) lim Q
def kSt_refuge : List (Nat × List Bool) := [(2, [true, true, true, true, false])]
set_option maxRecDepth 20000 in
theorem wSt_refuge_0 {d : Nat} {lim : Nat × Nat} {Q : xQ} {l2 : Int} {l0 l1 : Nat} {g : xG} {w : xW} (t : aSt_refuge d lim Q 2 [xr l0, xr l1, xi l2, xi 1, none] [] g w) :
    aSt_refuge d lim Q 0 [xr l0, xr l1, xi l2, none, none] [] g w := xAt_exec (cal_m d) kSt_refuge 3 t
set_option maxRecDepth 20000 in
theorem wSt_refuge_2 {d : Nat} {lim : Nat × Nat} {Q : xQ} {l2 l3 : Int} {l0 l1 : Nat} {g : xG} {w : xW} (t : 
  ((4 < l3) → xIs g l0 (0, 3) ∧ xAr g (g.2 l0 7) l2 ∧ Q (some (xi (w (g.2 l0 7) (Int.toNat l2)))) g w) ∧
  ((l3 ≤ 4) → xIs g l0 (0, 3) ∧ xAr g (g.2 l0 7) l2 ∧ xIs g l0 (0, 3) ∧ 
    cal d nSt_reach [xr l0, xr l1, xi (w (g.2 l0 7) (Int.toNat l2)), xi l3] g w (fun r g1 w1 => ∃ v1 : Int, r = some (xi v1) ∧ 
      ((v1 = (-1)) → x32 (l3 + 1) ∧ aSt_refuge d lim Q 2 [xr l0, xr l1, xi l2, xi (l3 + 1), none] [] g1 w1) ∧
      ((¬ v1 = (-1)) → xIs g1 l0 (0, 3) ∧ 
        cal d nSt_isDear [xr l0, xi l2, xi v1] g1 w1 (fun r g2 w2 => ∃ v2 : Int, r = some (xi v2) ∧ 
          ((¬ v2 = 0) → x32 (l3 + 1) ∧ aSt_refuge d lim Q 2 [xr l0, xr l1, xi l2, xi (l3 + 1), none] [] g2 w2) ∧
          ((v2 = 0) → Q (some (xi v1)) g2 w2)))))) :
    aSt_refuge d lim Q 2 [xr l0, xr l1, xi l2, xi l3, none] [] g w := xAt_exec (cal_m d) kSt_refuge 23 t
theorem eSt_refuge {d : Nat} {Q : xQ} {l2 : Int} {l0 l1 : Nat} {g : xG} {w : xW} (t : ∀ (lim : Nat × Nat) (Q2 : xQ), (∀ r g2 w2, g2.1 = g.1 → Q r g2 w2 → Q2 r g2 w2) → aSt_refuge d lim Q2 0 [xr l0, xr l1, xi l2, none, none] [] g w) : cal (d + 1) nSt_refuge [xr l0, xr l1, xi l2] g w Q := t _ _ xQof
