abbrev aRd_take (d : Nat) (lim : Nat × Nat) (Q : xQ) : xK := xAt xMks tRd_take (cal d) lim Q
def kRd_take : List (Nat × List Bool) := [(22, [true, false])]
set_option maxRecDepth 20000 in
theorem wRd_take_0 {d : Nat} {lim : Nat × Nat} {Q : xQ} {l1 : Int} {l0 : Nat} {g : xG} {w : xW} (t : xIs g l0 (0, 2) ∧ 
  (((w l0 1) < 260) → xIs g l0 (0, 2) ∧ xIs g l0 (0, 2) ∧ xA1 g (g.2 l0 0) (w l0 1) ∧ aRd_take d lim Q 22 [xr l0, none] [] g (xup w (g.2 l0 0) (Int.toNat (w l0 1)) l1)) ∧
  ((260 ≤ (w l0 1)) → ((0 : Int) = 0 ∨ (0 : Int) = 1) ∧ Q (some (xi 0)) g w)) :
    aRd_take d lim Q 0 [xr l0, xi l1] [] g w := xAt_exec (cal_m d) kRd_take 11 t
set_option maxRecDepth 20000 in
theorem wRd_take_22 {d : Nat} {lim : Nat × Nat} {Q : xQ} {l0 : Nat} {g : xG} {w : xW} (t : xIs g l0 (0, 2) ∧ x32 ((w l0 1) + 1) ∧ xIs g l0 (0, 2) ∧ ((1 : Int) = 0 ∨ (1 : Int) = 1) ∧ Q (some (xi 1)) g (xup w l0 1 ((w l0 1) + 1))) :
    aRd_take d lim Q 22 [xr l0, none] [] g w := xAt_exec (cal_m d) kRd_take 9 t
theorem eRd_take {d : Nat} {Q : xQ} {l1 : Int} {l0 : Nat} {g : xG} {w : xW} (t : ∀ (lim : Nat × Nat) (Q2 : xQ), (∀ r g2 w2, g2.1 = g.1 → Q r g2 w2 → Q2 r g2 w2) → aRd_take d lim Q2 0 [xr l0, xi l1] [] g w) : cal (d + 1) nRd_take [xr l0, xi l1] g w Q := t _ _ xQof
abbrev aRd_read (d : Nat) (lim : Nat × Nat) (Q : xQ) : xK := xAt xMks tRd_read (cal d) lim Q
def kRd_read : List (Nat × List Bool) := [(5, [true, false, true, false]), (10, [true, false, false, false]), (29, [true, false, false, false]), (34, [true, false, false, false]), (39, [true, false, false, false]), (50, [true, false, false, true])]
set_option maxRecDepth 20000 in
theorem wRd_read_0 {d : Nat} {lim : Nat × Nat} {Q : xQ} {l0 l1 l2 : Nat} {g : xG} {w : xW} (t : xIs g l0 (0, 2) ∧ aRd_read d lim Q 5 [xr l0, none, xr l2, none] [] (g.1, xup g.2 l0 7 l1) w) :
    aRd_read d lim Q 0 [xr l0, xr l1, xr l2, none] [] g w := xAt_exec (cal_m d) kRd_read 4 t
set_option maxRecDepth 20000 in
theorem wRd_read_5 {d : Nat} {lim : Nat × Nat} {Q : xQ} {l0 l2 : Nat} {g : xG} {w : xW} (t : xIs g l0 (0, 2) ∧ aRd_read d lim Q 10 [xr l0, none, none, none] [] (g.1, xup g.2 l0 8 l2) w) :
    aRd_read d lim Q 5 [xr l0, none, xr l2, none] [] g w := xAt_exec (cal_m d) kRd_read 4 t
set_option maxRecDepth 20000 in
theorem wRd_read_10 {d : Nat} {lim : Nat × Nat} {Q : xQ} {l0 : Nat} {g : xG} {w : xW} (t : xIs g l0 (0, 2) ∧ xIs g (g.2 l0 7) (0, 5) ∧ 
  cal d nTw_clear [xr (g.2 l0 7)] g w (fun r g1 w1 => r = none ∧ xIs g1 l0 (0, 2) ∧ xIs g1 (g1.2 l0 8) (0, 3) ∧ 
    cal d nSt_clear [xr (g1.2 l0 8)] g1 w1 (fun r g2 w2 => r = none ∧ xIs g2 l0 (0, 2) ∧ aRd_read d lim Q 29 [xr l0, none, none, none] [] g2 (xup w2 l0 2 0)))) :
    aRd_read d lim Q 10 [xr l0, none, none, none] [] g w := xAt_exec (cal_m d) kRd_read 10 t
set_option maxRecDepth 20000 in
theorem wRd_read_29 {d : Nat} {lim : Nat × Nat} {Q : xQ} {l0 : Nat} {g : xG} {w : xW} (t : xIs g l0 (0, 2) ∧ aRd_read d lim Q 34 [xr l0, none, none, none] [] g (xup w l0 6 0)) :
    aRd_read d lim Q 29 [xr l0, none, none, none] [] g w := xAt_exec (cal_m d) kRd_read 4 t
set_option maxRecDepth 20000 in
theorem wRd_read_34 {d : Nat} {lim : Nat × Nat} {Q : xQ} {l0 : Nat} {g : xG} {w : xW} (t : xIs g l0 (0, 2) ∧ aRd_read d lim Q 39 [xr l0, none, none, none] [] g (xup w l0 4 0)) :
    aRd_read d lim Q 34 [xr l0, none, none, none] [] g w := xAt_exec (cal_m d) kRd_read 4 t
set_option maxRecDepth 20000 in
theorem wRd_read_39 {d : Nat} {lim : Nat × Nat} {Q : xQ} {l0 : Nat} {g : xG} {w : xW} (t : xIs g l0 (0, 2) ∧ xIs g l0 (0, 2) ∧ 
  cal d nRd_skipBlanks [xr l0] g (xup w l0 5 (-1)) (fun r g1 w1 => r = none ∧ aRd_read d lim Q 50 [xr l0, none, none, xi 0] [] g1 w1)) :
    aRd_read d lim Q 39 [xr l0, none, none, none] [] g w := xAt_exec (cal_m d) kRd_read 8 t
set_option maxRecDepth 20000 in
theorem wRd_read_50 {d : Nat} {lim : Nat × Nat} {Q : xQ} {l3 : Int} {l0 : Nat} {g : xG} {w : xW} (t : 
  ((260 ≤ l3) → ((1 : Int) = 0 ∨ (1 : Int) = 1) ∧ Q (some (xi 1)) g w) ∧
  ((l3 < 260) → xIs g l0 (0, 2) ∧ xIs g l0 (0, 2) ∧ 
    (((w l0 1) ≤ (w l0 2)) → ((1 : Int) = 0 ∨ (1 : Int) = 1) ∧ Q (some (xi 1)) g w) ∧
    (((w l0 2) < (w l0 1)) → xIs g l0 (0, 2) ∧ 
      cal d nRd_readClause [xr l0] g w (fun r g1 w1 => ∃ v1 : Int, r = some (xi v1) ∧ 
        ((¬ v1 = 0) → xIs g1 l0 (0, 2) ∧ 
          cal d nRd_skipBlanks [xr l0] g1 w1 (fun r g2 w2 => r = none ∧ x32 (l3 + 1) ∧ aRd_read d lim Q 50 [xr l0, none, none, xi (l3 + 1)] [] g2 w2)) ∧
        ((v1 = 0) → ((0 : Int) = 0 ∨ (0 : Int) = 1) ∧ Q (some (xi 0)) g1 w1))))) :
    aRd_read d lim Q 50 [xr l0, none, none, xi l3] [] g w := xAt_exec (cal_m d) kRd_read 16 t
theorem eRd_read {d : Nat} {Q : xQ} {l0 l1 l2 : Nat} {g : xG} {w : xW} (t : ∀ (lim : Nat × Nat) (Q2 : xQ), (∀ r g2 w2, g2.1 = g.1 → Q r g2 w2 → Q2 r g2 w2) → aRd_read d lim Q2 0 [xr l0, xr l1, xr l2, none] [] g w) : cal (d + 1) nRd_read [xr l0, xr l1, xr l2] g w Q := t _ _ xQof
abbrev aRd_readClause (d : Nat) (lim : Nat × Nat) (Q : xQ) : xK := xAt xMks tRd_readClause (cal d) lim Q
def kRd_readClause : List (Nat × List Bool) := [(36, [true, true]), (104, [true, false]), (138, [true, false]), (174, [true, false]), (211, [true, false]), (246, [true, false]), (283, [true, false])]
set_option maxRecDepth 20000 in
theorem wRd_readClause_0 {d : Nat} {lim : Nat × Nat} {Q : xQ} {l0 : Nat} {g : xG} {w : xW} (t : xIs g l0 (0, 2) ∧ xIs g l0 (0, 2) ∧ xAr g (g.2 l0 0) (w l0 2) ∧ xIs g l0 (0, 2) ∧ xIs g (g.2 l0 7) (0, 5) ∧ 
  ((¬ (w (g.2 l0 7) 0) = 0) → aRd_readClause d lim Q 36 [xr l0, xi (w (g.2 l0 0) (Int.toNat (w l0 2)))] [] g w) ∧
  (((w (g.2 l0 7) 0) = 0) → 
    (((w (g.2 l0 0) (Int.toNat (w l0 2))) = 116) → aRd_readClause d lim Q 36 [xr l0, xi (w (g.2 l0 0) (Int.toNat (w l0 2)))] [] g w) ∧
    ((¬ (w (g.2 l0 0) (Int.toNat (w l0 2))) = 116) → xIs g l0 (0, 2) ∧ xIs g l0 (0, 2) ∧ 
      cal d nRd_fail [xr l0, xi 1, xi (w l0 2)] g w (fun r g1 w1 => ∃ v1 : Int, r = some (xi v1) ∧ ((v1 : Int) = 0 ∨ (v1 : Int) = 1) ∧ Q (some (xi v1)) g1 w1)))) :
    aRd_readClause d lim Q 0 [xr l0, none] [] g w := xAt_exec (cal_m d) kRd_readClause 20 t
set_option maxRecDepth 20000 in
theorem wRd_readClause_36 {d : Nat} {lim : Nat × Nat} {Q : xQ} {l1 : Int} {l0 : Nat} {g : xG} {w : xW} (t : 
  ((l1 < 111 ∨ 119 < l1) → xIs g l0 (0, 2) ∧ xIs g l0 (0, 2) ∧ 
    cal d nRd_fail [xr l0, xi 1, xi (w l0 2)] g w (fun r g1 w1 => ∃ v1 : Int, r = some (xi v1) ∧ ((v1 : Int) = 0 ∨ (v1 : Int) = 1) ∧ Q (some (xi v1)) g1 w1)) ∧
  ((l1 = 111) → xIs g l0 (0, 2) ∧ xIs g (g.2 l0 7) (0, 5) ∧ 
    ((4 ≤ (w (g.2 l0 7) 2)) → aRd_readClause d lim Q 174 [xr l0, none] [xi 0, xr l0] g w) ∧
    (((w (g.2 l0 7) 2) < 4) → aRd_readClause d lim Q 174 [xr l0, none] [xi 1, xr l0] g w)) ∧
  ((l1 = 112) → xIs g l0 (0, 2) ∧ xIs g (g.2 l0 7) (0, 5) ∧ 
    ((6 ≤ (w (g.2 l0 7) 5)) → aRd_readClause d lim Q 283 [xr l0, none] [xi 0, xr l0] g w) ∧
    (((w (g.2 l0 7) 5) < 6) → aRd_readClause d lim Q 283 [xr l0, none] [xi 1, xr l0] g w)) ∧
  ((l1 = 113) → xIs g l0 (0, 2) ∧ xIs g l0 (0, 2) ∧ 
    cal d nRd_fail [xr l0, xi 1, xi (w l0 2)] g w (fun r g2 w2 => ∃ v2 : Int, r = some (xi v2) ∧ ((v2 : Int) = 0 ∨ (v2 : Int) = 1) ∧ Q (some (xi v2)) g2 w2)) ∧
  ((l1 = 114) → xIs g l0 (0, 2) ∧ xIs g (g.2 l0 7) (0, 5) ∧ 
    ((12 ≤ (w (g.2 l0 7) 3)) → aRd_readClause d lim Q 211 [xr l0, none] [xi 0, xr l0] g w) ∧
    (((w (g.2 l0 7) 3) < 12) → aRd_readClause d lim Q 211 [xr l0, none] [xi 1, xr l0] g w)) ∧
  ((l1 = 115) → xIs g l0 (0, 2) ∧ xIs g (g.2 l0 7) (0, 5) ∧ 
    ((¬ (w (g.2 l0 7) 4) = 0) → aRd_readClause d lim Q 246 [xr l0, none] [xi 0, xr l0] g w) ∧
    (((w (g.2 l0 7) 4) = 0) → aRd_readClause d lim Q 246 [xr l0, none] [xi 1, xr l0] g w)) ∧
  ((l1 = 116) → xIs g l0 (0, 2) ∧ xIs g (g.2 l0 7) (0, 5) ∧ 
    ((¬ (w (g.2 l0 7) 0) = 0) → aRd_readClause d lim Q 104 [xr l0, none] [xi 0, xr l0] g w) ∧
    (((w (g.2 l0 7) 0) = 0) → aRd_readClause d lim Q 104 [xr l0, none] [xi 1, xr l0] g w)) ∧
  ((l1 = 117) → xIs g l0 (0, 2) ∧ xIs g l0 (0, 2) ∧ 
    cal d nRd_fail [xr l0, xi 1, xi (w l0 2)] g w (fun r g3 w3 => ∃ v3 : Int, r = some (xi v3) ∧ ((v3 : Int) = 0 ∨ (v3 : Int) = 1) ∧ Q (some (xi v3)) g3 w3)) ∧
  ((l1 = 118) → xIs g l0 (0, 2) ∧ xIs g l0 (0, 2) ∧ 
    cal d nRd_fail [xr l0, xi 1, xi (w l0 2)] g w (fun r g4 w4 => ∃ v4 : Int, r = some (xi v4) ∧ ((v4 : Int) = 0 ∨ (v4 : Int) = 1) ∧ Q (some (xi v4)) g4 w4)) ∧
  ((l1 = 119) → xIs g l0 (0, 2) ∧ 
    ((12 ≤ (w l0 6)) → aRd_readClause d lim Q 138 [xr l0, none] [xi 0, xr l0] g w) ∧
    (((w l0 6) < 12) → aRd_readClause d lim Q 138 [xr l0, none] [xi 1, xr l0] g w)) ∧ True) :
    aRd_readClause d lim Q 36 [xr l0, xi l1] [] g w := xAt_exec (cal_m d) kRd_readClause 11 t
set_option maxRecDepth 20000 in
theorem wRd_readClause_104 {d : Nat} {lim : Nat × Nat} {Q : xQ} {s1 : Int} {l0 s0 : Nat} {g : xG} {w : xW} (t : xIs g s0 (0, 2) ∧ 
  cal d nRd_startClause [xr s0, xi s1] g w (fun r g1 w1 => ∃ v1 : Int, r = some (xi v1) ∧ 
    ((v1 = 0) → ((0 : Int) = 0 ∨ (0 : Int) = 1) ∧ Q (some (xi 0)) g1 w1) ∧
    ((¬ v1 = 0) → xIs g1 l0 (0, 2) ∧ 
      cal d nRd_readTown [xr l0] g1 w1 (fun r g2 w2 => ∃ v2 : Int, r = some (xi v2) ∧ 
        ((v2 = 0) → ((0 : Int) = 0 ∨ (0 : Int) = 1) ∧ Q (some (xi 0)) g2 w2) ∧
        ((¬ v2 = 0) → ((1 : Int) = 0 ∨ (1 : Int) = 1) ∧ Q (some (xi 1)) g2 w2))))) :
    aRd_readClause d lim Q 104 [xr l0, none] [xi s1, xr s0] g w := xAt_exec (cal_m d) kRd_readClause 9 t
set_option maxRecDepth 20000 in
theorem wRd_readClause_138 {d : Nat} {lim : Nat × Nat} {Q : xQ} {s1 : Int} {l0 s0 : Nat} {g : xG} {w : xW} (t : xIs g s0 (0, 2) ∧ 
  cal d nRd_startClause [xr s0, xi s1] g w (fun r g1 w1 => ∃ v1 : Int, r = some (xi v1) ∧ 
    ((v1 = 0) → ((0 : Int) = 0 ∨ (0 : Int) = 1) ∧ Q (some (xi 0)) g1 w1) ∧
    ((¬ v1 = 0) → xIs g1 l0 (0, 2) ∧ 
      cal d nRd_readWall [xr l0] g1 w1 (fun r g2 w2 => ∃ v2 : Int, r = some (xi v2) ∧ 
        ((v2 = 0) → ((0 : Int) = 0 ∨ (0 : Int) = 1) ∧ Q (some (xi 0)) g2 w2) ∧
        ((¬ v2 = 0) → ((1 : Int) = 0 ∨ (1 : Int) = 1) ∧ Q (some (xi 1)) g2 w2))))) :
    aRd_readClause d lim Q 138 [xr l0, none] [xi s1, xr s0] g w := xAt_exec (cal_m d) kRd_readClause 9 t
set_option maxRecDepth 20000 in
theorem wRd_readClause_174 {d : Nat} {lim : Nat × Nat} {Q : xQ} {s1 : Int} {l0 s0 : Nat} {g : xG} {w : xW} (t : xIs g s0 (0, 2) ∧ 
  cal d nRd_startClause [xr s0, xi s1] g w (fun r g1 w1 => ∃ v1 : Int, r = some (xi v1) ∧ 
    ((v1 = 0) → ((0 : Int) = 0 ∨ (0 : Int) = 1) ∧ Q (some (xi 0)) g1 w1) ∧
    ((¬ v1 = 0) → xIs g1 l0 (0, 2) ∧ 
      cal d nRd_readStove [xr l0] g1 w1 (fun r g2 w2 => ∃ v2 : Int, r = some (xi v2) ∧ 
        ((v2 = 0) → ((0 : Int) = 0 ∨ (0 : Int) = 1) ∧ Q (some (xi 0)) g2 w2) ∧
        ((¬ v2 = 0) → ((1 : Int) = 0 ∨ (1 : Int) = 1) ∧ Q (some (xi 1)) g2 w2))))) :
    aRd_readClause d lim Q 174 [xr l0, none] [xi s1, xr s0] g w := xAt_exec (cal_m d) kRd_readClause 9 t
set_option maxRecDepth 20000 in
theorem wRd_readClause_211 {d : Nat} {lim : Nat × Nat} {Q : xQ} {s1 : Int} {l0 s0 : Nat} {g : xG} {w : xW} (t : xIs g s0 (0, 2) ∧ 
  cal d nRd_startClause [xr s0, xi s1] g w (fun r g1 w1 => ∃ v1 : Int, r = some (xi v1) ∧ 
    ((v1 = 0) → ((0 : Int) = 0 ∨ (0 : Int) = 1) ∧ Q (some (xi 0)) g1 w1) ∧
    ((¬ v1 = 0) → xIs g1 l0 (0, 2) ∧ 
      cal d nRd_readRoof [xr l0] g1 w1 (fun r g2 w2 => ∃ v2 : Int, r = some (xi v2) ∧ 
        ((v2 = 0) → ((0 : Int) = 0 ∨ (0 : Int) = 1) ∧ Q (some (xi 0)) g2 w2) ∧
        ((¬ v2 = 0) → ((1 : Int) = 0 ∨ (1 : Int) = 1) ∧ Q (some (xi 1)) g2 w2))))) :
    aRd_readClause d lim Q 211 [xr l0, none] [xi s1, xr s0] g w := xAt_exec (cal_m d) kRd_readClause 9 t
set_option maxRecDepth 20000 in
theorem wRd_readClause_246 {d : Nat} {lim : Nat × Nat} {Q : xQ} {s1 : Int} {l0 s0 : Nat} {g : xG} {w : xW} (t : xIs g s0 (0, 2) ∧ 
  cal d nRd_startClause [xr s0, xi s1] g w (fun r g1 w1 => ∃ v1 : Int, r = some (xi v1) ∧ 
    ((v1 = 0) → ((0 : Int) = 0 ∨ (0 : Int) = 1) ∧ Q (some (xi 0)) g1 w1) ∧
    ((¬ v1 = 0) → xIs g1 l0 (0, 2) ∧ 
      cal d nRd_readSun [xr l0] g1 w1 (fun r g2 w2 => ∃ v2 : Int, r = some (xi v2) ∧ 
        ((v2 = 0) → ((0 : Int) = 0 ∨ (0 : Int) = 1) ∧ Q (some (xi 0)) g2 w2) ∧
        ((¬ v2 = 0) → ((1 : Int) = 0 ∨ (1 : Int) = 1) ∧ Q (some (xi 1)) g2 w2))))) :
    aRd_readClause d lim Q 246 [xr l0, none] [xi s1, xr s0] g w := xAt_exec (cal_m d) kRd_readClause 9 t
set_option maxRecDepth 20000 in
theorem wRd_readClause_283 {d : Nat} {lim : Nat × Nat} {Q : xQ} {s1 : Int} {l0 s0 : Nat} {g : xG} {w : xW} (t : xIs g s0 (0, 2) ∧ 
  cal d nRd_startClause [xr s0, xi s1] g w (fun r g1 w1 => ∃ v1 : Int, r = some (xi v1) ∧ 
    ((v1 = 0) → ((0 : Int) = 0 ∨ (0 : Int) = 1) ∧ Q (some (xi 0)) g1 w1) ∧
    ((¬ v1 = 0) → xIs g1 l0 (0, 2) ∧ 
      cal d nRd_readPerson [xr l0] g1 w1 (fun r g2 w2 => ∃ v2 : Int, r = some (xi v2) ∧ 
        ((v2 = 0) → ((0 : Int) = 0 ∨ (0 : Int) = 1) ∧ Q (some (xi 0)) g2 w2) ∧
        ((¬ v2 = 0) → ((1 : Int) = 0 ∨ (1 : Int) = 1) ∧ Q (some (xi 1)) g2 w2))))) :
    aRd_readClause d lim Q 283 [xr l0, none] [xi s1, xr s0] g w := xAt_exec (cal_m d) kRd_readClause 9 t
theorem eRd_readClause {d : Nat} {Q : xQ} {l0 : Nat} {g : xG} {w : xW} (t : ∀ (lim : Nat × Nat) (Q2 : xQ), (∀ r g2 w2, g2.1 = g.1 → Q r g2 w2 → Q2 r g2 w2) → aRd_readClause d lim Q2 0 [xr l0, none] [] g w) : cal (d + 1) nRd_readClause [xr l0] g w Q := t _ _ xQof
abbrev aRd_startClause (d : Nat) (lim : Nat × Nat) (Q : xQ) : xK := xAt xMks tRd_startClause (cal d) lim Q
def kRd_startClause : List (Nat × List Bool) := []
set_option maxRecDepth 20000 in
theorem wRd_startClause_0 {d : Nat} {lim : Nat × Nat} {Q : xQ} {l1 : Int} {l0 : Nat} {g : xG} {w : xW} (t : 
  ((¬ l1 = 0) → xIs g l0 (0, 2) ∧ x32 ((w l0 2) + 1) ∧ xIs g l0 (0, 2) ∧ ((1 : Int) = 0 ∨ (1 : Int) = 1) ∧ Q (some (xi 1)) g (xup w l0 2 ((w l0 2) + 1))) ∧
  ((l1 = 0) → xIs g l0 (0, 2) ∧ xIs g l0 (0, 2) ∧ 
    cal d nRd_fail [xr l0, xi 3, xi (w l0 2)] g w (fun r g1 w1 => ∃ v1 : Int, r = some (xi v1) ∧ ((v1 : Int) = 0 ∨ (v1 : Int) = 1) ∧ Q (some (xi v1)) g1 w1))) :
    aRd_startClause d lim Q 0 [xr l0, xi l1] [] g w := xAt_exec (cal_m d) kRd_startClause 11 t
theorem eRd_startClause {d : Nat} {Q : xQ} {l1 : Int} {l0 : Nat} {g : xG} {w : xW} (t : ∀ (lim : Nat × Nat) (Q2 : xQ), (∀ r g2 w2, g2.1 = g.1 → Q r g2 w2 → Q2 r g2 w2) → aRd_startClause d lim Q2 0 [xr l0, xi l1] [] g w) : cal (d + 1) nRd_startClause [xr l0, xi l1] g w Q := t _ _ xQof
abbrev aRd_readTown (d : Nat) (lim : Nat × Nat) (Q : xQ) : xK := xAt xMks tRd_readTown (cal d) lim Q
def kRd_readTown : List (Nat × List Bool) := []
set_option maxRecDepth 20000 in
theorem wRd_readTown_0 {d : Nat} {lim : Nat × Nat} {Q : xQ} {l0 : Nat} {g : xG} {w : xW} (t : xIs g l0 (0, 2) ∧ 
  cal d nRd_readNumber [xr l0, xi 1, xi 6] g w (fun r g1 w1 => ∃ v1 : Int, r = some (xi v1) ∧ 
    ((1 ≤ v1) → ((v1 : Int) ≠ 0 ∧ x32 (Int.tdiv 20 v1)) ∧ xIs g1 l0 (0, 2) ∧ 
      cal d nRd_readNumber [xr l0, xi 1, xi (min 6 (Int.tdiv 20 v1))] g1 w1 (fun r g2 w2 => ∃ v2 : Int, r = some (xi v2) ∧ 
        ((¬ v2 = (-1)) → xIs g2 l0 (0, 2) ∧ 
          cal d nRd_readNumber [xr l0, xi 0, xi 200] g2 w2 (fun r g3 w3 => ∃ v3 : Int, r = some (xi v3) ∧ 
            ((¬ v3 = (-1)) → xIs g3 l0 (0, 2) ∧ xIs g3 (g3.2 l0 7) (0, 5) ∧ 
              cal d nTw_setSize [xr (g3.2 l0 7), xi v1, xi v2] g3 w3 (fun r g4 w4 => r = none ∧ xIs g4 l0 (0, 2) ∧ xIs g4 (g4.2 l0 8) (0, 3) ∧ 
                cal d nJd_fill [xr (g4.2 (g4.2 l0 8) 0), xi v3] g4 w4 (fun r g5 w5 => r = none ∧ xIs g5 l0 (0, 2) ∧ 
                  cal d nRd_endClause [xr l0] g5 w5 (fun r g6 w6 => ∃ v6 : Int, r = some (xi v6) ∧ ((v6 : Int) = 0 ∨ (v6 : Int) = 1) ∧ Q (some (xi v6)) g6 w6)))) ∧
            ((v3 = (-1)) → ((0 : Int) = 0 ∨ (0 : Int) = 1) ∧ Q (some (xi 0)) g3 w3))) ∧
        ((v2 = (-1)) → ((0 : Int) = 0 ∨ (0 : Int) = 1) ∧ Q (some (xi 0)) g2 w2))) ∧
    ((v1 < 1) → ((0 : Int) = 0 ∨ (0 : Int) = 1) ∧ Q (some (xi 0)) g1 w1))) :
    aRd_readTown d lim Q 0 [xr l0, none, none, none] [] g w := xAt_exec (cal_m d) kRd_readTown 42 t
theorem eRd_readTown {d : Nat} {Q : xQ} {l0 : Nat} {g : xG} {w : xW} (t : ∀ (lim : Nat × Nat) (Q2 : xQ), (∀ r g2 w2, g2.1 = g.1 → Q r g2 w2 → Q2 r g2 w2) → aRd_readTown d lim Q2 0 [xr l0, none, none, none] [] g w) : cal (d + 1) nRd_readTown [xr l0] g w Q := t _ _ xQof
abbrev aRd_readWall (d : Nat) (lim : Nat × Nat) (Q : xQ) : xK := xAt xMks tRd_readWall (cal d) lim Q
def kRd_readWall : List (Nat × List Bool) := []
set_option maxRecDepth 20000 in
theorem wRd_readWall_0 {d : Nat} {lim : Nat × Nat} {Q : xQ} {l0 : Nat} {g : xG} {w : xW} (t : xIs g l0 (0, 2) ∧ 
  cal d nRd_readCell [xr l0] g w (fun r g1 w1 => ∃ v1 : Int, r = some (xi v1) ∧ 
    ((¬ v1 = (-1)) → xIs g1 l0 (0, 2) ∧ 
      cal d nRd_readNumber [xr l0, xi 0, xi 1] g1 w1 (fun r g2 w2 => ∃ v2 : Int, r = some (xi v2) ∧ 
        ((¬ v2 = (-1)) → xIs g2 l0 (0, 2) ∧ 
          cal d nFf_wayOfWall [xi v2] g2 w2 (fun r g3 w3 => ∃ v3 : Int, r = some (xi v3) ∧ xIs g3 (g2.2 l0 7) (0, 5) ∧ 
            cal d nTw_beside [xr (g2.2 l0 7), xi v1, xi v3] g3 w3 (fun r g4 w4 => ∃ v4 : Int, r = some (xi v4) ∧ 
              ((¬ v4 = (-1)) → xIs g4 l0 (0, 2) ∧ xIs g4 (g4.2 l0 8) (0, 3) ∧ 
                cal d nSt_wallOf [xr (g4.2 l0 8), xi v1, xi v2] g4 w4 (fun r g5 w5 => ∃ v5 : Int, r = some (xi v5) ∧ 
                  ((v5 = 0) → xIs g5 l0 (0, 2) ∧ xIs g5 l0 (0, 2) ∧ xIs g5 (g5.2 l0 8) (0, 3) ∧ 
                    cal d nSt_setWall [xr (g5.2 l0 8), xr (g5.2 l0 7), xi v1, xi v2, xi 1] g5 w5 (fun r g6 w6 => r = none ∧ xIs g6 l0 (0, 2) ∧ x32 ((w6 l0 6) + 1) ∧ xIs g6 l0 (0, 2) ∧ xIs g6 l0 (0, 2) ∧ 
                      cal d nRd_endClause [xr l0] g6 (xup w6 l0 6 ((w6 l0 6) + 1)) (fun r g7 w7 => ∃ v7 : Int, r = some (xi v7) ∧ ((v7 : Int) = 0 ∨ (v7 : Int) = 1) ∧ Q (some (xi v7)) g7 w7))) ∧
                  ((¬ v5 = 0) → xIs g5 l0 (0, 2) ∧ xIs g5 l0 (0, 2) ∧ 
                    cal d nRd_fail [xr l0, xi 4, xi (w5 l0 3)] g5 w5 (fun r g8 w8 => ∃ v8 : Int, r = some (xi v8) ∧ ((v8 : Int) = 0 ∨ (v8 : Int) = 1) ∧ Q (some (xi v8)) g8 w8)))) ∧
              ((v4 = (-1)) → xIs g4 l0 (0, 2) ∧ xIs g4 l0 (0, 2) ∧ 
                cal d nRd_fail [xr l0, xi 2, xi (w4 l0 3)] g4 w4 (fun r g9 w9 => ∃ v9 : Int, r = some (xi v9) ∧ ((v9 : Int) = 0 ∨ (v9 : Int) = 1) ∧ Q (some (xi v9)) g9 w9))))) ∧
        ((v2 = (-1)) → ((0 : Int) = 0 ∨ (0 : Int) = 1) ∧ Q (some (xi 0)) g2 w2))) ∧
    ((v1 = (-1)) → ((0 : Int) = 0 ∨ (0 : Int) = 1) ∧ Q (some (xi 0)) g1 w1))) :
    aRd_readWall d lim Q 0 [xr l0, none, none] [] g w := xAt_exec (cal_m d) kRd_readWall 46 t
theorem eRd_readWall {d : Nat} {Q : xQ} {l0 : Nat} {g : xG} {w : xW} (t : ∀ (lim : Nat × Nat) (Q2 : xQ), (∀ r g2 w2, g2.1 = g.1 → Q r g2 w2 → Q2 r g2 w2) → aRd_readWall d lim Q2 0 [xr l0, none, none] [] g w) : cal (d + 1) nRd_readWall [xr l0] g w Q := t _ _ xQof
abbrev aRd_readStove (d : Nat) (lim : Nat × Nat) (Q : xQ) : xK := xAt xMks tRd_readStove (cal d) lim Q
def kRd_readStove : List (Nat × List Bool) := [(82, [true, true, true, true, true]), (93, [true, false, true, true, true]), (104, [true, false, false, true, true])]
set_option maxRecDepth 20000 in
theorem wRd_readStove_0 {d : Nat} {lim : Nat × Nat} {Q : xQ} {l0 : Nat} {g : xG} {w : xW} (t : xIs g l0 (0, 2) ∧ 
  cal d nRd_readCell [xr l0] g w (fun r g1 w1 => ∃ v1 : Int, r = some (xi v1) ∧ 
    ((¬ v1 = (-1)) → xIs g1 l0 (0, 2) ∧ 
      cal d nRd_hasStove [xr l0, xi v1] g1 w1 (fun r g2 w2 => ∃ v2 : Int, r = some (xi v2) ∧ 
        ((v2 = 0) → xIs g2 l0 (0, 2) ∧ 
          cal d nRd_readNumber [xr l0, xi 1, xi 60] g2 w2 (fun r g3 w3 => ∃ v3 : Int, r = some (xi v3) ∧ 
            ((¬ v3 = (-1)) → xIs g3 l0 (0, 2) ∧ 
              cal d nRd_readNumber [xr l0, xi 0, xi 99] g3 w3 (fun r g4 w4 => ∃ v4 : Int, r = some (xi v4) ∧ 
                ((¬ v4 = (-1)) → xIs g4 l0 (0, 2) ∧ xIs g4 (g4.2 l0 7) (0, 5) ∧ xIs g4 l0 (0, 2) ∧ xIs g4 (g4.2 l0 7) (0, 5) ∧ x32 ((w4 (g4.2 l0 7) 2) + 1) ∧ xIs g4 (g4.2 l0 7) (0, 5) ∧ aRd_readStove d lim Q 82 [xr l0, xi v1, xi v3, xi v4, xi (w4 (g4.2 l0 7) 2)] [] g4 (xup w4 (g4.2 l0 7) 2 ((w4 (g4.2 l0 7) 2) + 1))) ∧
                ((v4 = (-1)) → ((0 : Int) = 0 ∨ (0 : Int) = 1) ∧ Q (some (xi 0)) g4 w4))) ∧
            ((v3 = (-1)) → ((0 : Int) = 0 ∨ (0 : Int) = 1) ∧ Q (some (xi 0)) g3 w3))) ∧
        ((¬ v2 = 0) → xIs g2 l0 (0, 2) ∧ xIs g2 l0 (0, 2) ∧ 
          cal d nRd_fail [xr l0, xi 4, xi (w2 l0 3)] g2 w2 (fun r g5 w5 => ∃ v5 : Int, r = some (xi v5) ∧ ((v5 : Int) = 0 ∨ (v5 : Int) = 1) ∧ Q (some (xi v5)) g5 w5)))) ∧
    ((v1 = (-1)) → ((0 : Int) = 0 ∨ (0 : Int) = 1) ∧ Q (some (xi 0)) g1 w1))) :
    aRd_readStove d lim Q 0 [xr l0, none, none, none, none] [] g w := xAt_exec (cal_m d) kRd_readStove 38 t
set_option maxRecDepth 20000 in
theorem wRd_readStove_82 {d : Nat} {lim : Nat × Nat} {Q : xQ} {l1 l2 l3 l4 : Int} {l0 : Nat} {g : xG} {w : xW} (t : xIs g l0 (0, 2) ∧ xIs g (g.2 l0 7) (0, 5) ∧ xA1 g (g.2 (g.2 l0 7) 9) l4 ∧ aRd_readStove d lim Q 93 [xr l0, none, xi l2, xi l3, xi l4] [] g (xup w (g.2 (g.2 l0 7) 9) (Int.toNat l4) l1)) :
    aRd_readStove d lim Q 82 [xr l0, xi l1, xi l2, xi l3, xi l4] [] g w := xAt_exec (cal_m d) kRd_readStove 7 t
set_option maxRecDepth 20000 in
theorem wRd_readStove_93 {d : Nat} {lim : Nat × Nat} {Q : xQ} {l2 l3 l4 : Int} {l0 : Nat} {g : xG} {w : xW} (t : xIs g l0 (0, 2) ∧ xIs g (g.2 l0 7) (0, 5) ∧ xA1 g (g.2 (g.2 l0 7) 10) l4 ∧ aRd_readStove d lim Q 104 [xr l0, none, none, xi l3, xi l4] [] g (xup w (g.2 (g.2 l0 7) 10) (Int.toNat l4) l2)) :
    aRd_readStove d lim Q 93 [xr l0, none, xi l2, xi l3, xi l4] [] g w := xAt_exec (cal_m d) kRd_readStove 7 t
set_option maxRecDepth 20000 in
theorem wRd_readStove_104 {d : Nat} {lim : Nat × Nat} {Q : xQ} {l3 l4 : Int} {l0 : Nat} {g : xG} {w : xW} (t : xIs g l0 (0, 2) ∧ xIs g (g.2 l0 8) (0, 3) ∧ xA1 g (g.2 (g.2 l0 8) 5) l4 ∧ xIs g l0 (0, 2) ∧ 
  cal d nRd_endClause [xr l0] g (xup w (g.2 (g.2 l0 8) 5) (Int.toNat l4) l3) (fun r g1 w1 => ∃ v1 : Int, r = some (xi v1) ∧ ((v1 : Int) = 0 ∨ (v1 : Int) = 1) ∧ Q (some (xi v1)) g1 w1)) :
    aRd_readStove d lim Q 104 [xr l0, none, none, xi l3, xi l4] [] g w := xAt_exec (cal_m d) kRd_readStove 10 t
theorem eRd_readStove {d : Nat} {Q : xQ} {l0 : Nat} {g : xG} {w : xW} (t : ∀ (lim : Nat × Nat) (Q2 : xQ), (∀ r g2 w2, g2.1 = g.1 → Q r g2 w2 → Q2 r g2 w2) → aRd_readStove d lim Q2 0 [xr l0, none, none, none, none] [] g w) : cal (d + 1) nRd_readStove [xr l0] g w Q := t _ _ xQof
abbrev aRd_hasStove (d : Nat) (lim : Nat × Nat) (Q : xQ) : xK := xAt xMks tRd_hasStove (cal d) lim Q
def kRd_hasStove : List (Nat × List Bool) := [(2, [true, true, true])]
set_option maxRecDepth 20000 in
theorem wRd_hasStove_0 {d : Nat} {lim : Nat × Nat} {Q : xQ} {l1 : Int} {l0 : Nat} {g : xG} {w : xW} (t : aRd_hasStove d lim Q 2 [xr l0, xi l1, xi 0] [] g w) :
    aRd_hasStove d lim Q 0 [xr l0, xi l1, none] [] g w := xAt_exec (cal_m d) kRd_hasStove 3 t
set_option maxRecDepth 20000 in
theorem wRd_hasStove_2 {d : Nat} {lim : Nat × Nat} {Q : xQ} {l1 l2 : Int} {l0 : Nat} {g : xG} {w : xW} (t : xIs g l0 (0, 2) ∧ xIs g (g.2 l0 7) (0, 5) ∧ 
  (((w (g.2 l0 7) 2) ≤ l2) → ((0 : Int) = 0 ∨ (0 : Int) = 1) ∧ Q (some (xi 0)) g w) ∧
  ((l2 < (w (g.2 l0 7) 2)) → xIs g l0 (0, 2) ∧ xIs g (g.2 l0 7) (0, 5) ∧ xAr g (g.2 (g.2 l0 7) 9) l2 ∧ 
    ((¬ (w (g.2 (g.2 l0 7) 9) (Int.toNat l2)) = l1) → x32 (l2 + 1) ∧ aRd_hasStove d lim Q 2 [xr l0, xi l1, xi (l2 + 1)] [] g w) ∧
    (((w (g.2 (g.2 l0 7) 9) (Int.toNat l2)) = l1) → ((1 : Int) = 0 ∨ (1 : Int) = 1) ∧ Q (some (xi 1)) g w))) :
    aRd_hasStove d lim Q 2 [xr l0, xi l1, xi l2] [] g w := xAt_exec (cal_m d) kRd_hasStove 15 t
theorem eRd_hasStove {d : Nat} {Q : xQ} {l1 : Int} {l0 : Nat} {g : xG} {w : xW} (t : ∀ (lim : Nat × Nat) (Q2 : xQ), (∀ r g2 w2, g2.1 = g.1 → Q r g2 w2 → Q2 r g2 w2) → aRd_hasStove d lim Q2 0 [xr l0, xi l1, none] [] g w) : cal (d + 1) nRd_hasStove [xr l0, xi l1] g w Q := t _ _ xQof
abbrev aRd_readRoof (d : Nat) (lim : Nat × Nat) (Q : xQ) : xK := xAt xMks tRd_readRoof (cal d) lim Q
def kRd_readRoof : List (Nat × List Bool) := [(44, [true, false])]
set_option maxRecDepth 20000 in
theorem wRd_readRoof_0 {d : Nat} {lim : Nat × Nat} {Q : xQ} {l0 : Nat} {g : xG} {w : xW} (t : xIs g l0 (0, 2) ∧ 
  cal d nRd_readCell [xr l0] g w (fun r g1 w1 => ∃ v1 : Int, r = some (xi v1) ∧ 
    ((¬ v1 = (-1)) → xIs g1 l0 (0, 2) ∧ xIs g1 (g1.2 l0 7) (0, 5) ∧ xAr g1 (g1.2 (g1.2 l0 7) 7) v1 ∧ 
      (((w1 (g1.2 (g1.2 l0 7) 7) (Int.toNat v1)) = 0) → xIs g1 l0 (0, 2) ∧ xIs g1 (g1.2 l0 7) (0, 5) ∧ xA1 g1 (g1.2 (g1.2 l0 7) 7) v1 ∧ aRd_readRoof d lim Q 44 [xr l0, none] [] g1 (xup w1 (g1.2 (g1.2 l0 7) 7) (Int.toNat v1) 1)) ∧
      ((¬ (w1 (g1.2 (g1.2 l0 7) 7) (Int.toNat v1)) = 0) → xIs g1 l0 (0, 2) ∧ xIs g1 l0 (0, 2) ∧ 
        cal d nRd_fail [xr l0, xi 4, xi (w1 l0 3)] g1 w1 (fun r g2 w2 => ∃ v2 : Int, r = some (xi v2) ∧ ((v2 : Int) = 0 ∨ (v2 : Int) = 1) ∧ Q (some (xi v2)) g2 w2))) ∧
    ((v1 = (-1)) → ((0 : Int) = 0 ∨ (0 : Int) = 1) ∧ Q (some (xi 0)) g1 w1))) :
    aRd_readRoof d lim Q 0 [xr l0, none] [] g w := xAt_exec (cal_m d) kRd_readRoof 19 t
set_option maxRecDepth 20000 in
theorem wRd_readRoof_44 {d : Nat} {lim : Nat × Nat} {Q : xQ} {l0 : Nat} {g : xG} {w : xW} (t : xIs g l0 (0, 2) ∧ xIs g (g.2 l0 7) (0, 5) ∧ x32 ((w (g.2 l0 7) 3) + 1) ∧ xIs g (g.2 l0 7) (0, 5) ∧ xIs g l0 (0, 2) ∧ 
  cal d nRd_endClause [xr l0] g (xup w (g.2 l0 7) 3 ((w (g.2 l0 7) 3) + 1)) (fun r g1 w1 => ∃ v1 : Int, r = some (xi v1) ∧ ((v1 : Int) = 0 ∨ (v1 : Int) = 1) ∧ Q (some (xi v1)) g1 w1)) :
    aRd_readRoof d lim Q 44 [xr l0, none] [] g w := xAt_exec (cal_m d) kRd_readRoof 11 t
theorem eRd_readRoof {d : Nat} {Q : xQ} {l0 : Nat} {g : xG} {w : xW} (t : ∀ (lim : Nat × Nat) (Q2 : xQ), (∀ r g2 w2, g2.1 = g.1 → Q r g2 w2 → Q2 r g2 w2) → aRd_readRoof d lim Q2 0 [xr l0, none] [] g w) : cal (d + 1) nRd_readRoof [xr l0] g w Q := t _ _ xQof
abbrev aRd_readSun (d : Nat) (lim : Nat × Nat) (Q : xQ) : xK := xAt xMks tRd_readSun (cal d) lim Q
def kRd_readSun : List (Nat × List Bool) := [(2, [true, true, false]), (33, [true, true, false]), (43, [true, true, false]), (80, [true, false, false])]
set_option maxRecDepth 20000 in
theorem wRd_readSun_0 {d : Nat} {lim : Nat × Nat} {Q : xQ} {l0 : Nat} {g : xG} {w : xW} (t : aRd_readSun d lim Q 2 [xr l0, xi 0, none] [] g w) :
    aRd_readSun d lim Q 0 [xr l0, none, none] [] g w := xAt_exec (cal_m d) kRd_readSun 3 t
set_option maxRecDepth 20000 in
theorem wRd_readSun_2 {d : Nat} {lim : Nat × Nat} {Q : xQ} {l1 : Int} {l0 : Nat} {g : xG} {w : xW} (t : 
  ((8 ≤ l1) → ((0 : Int) = 0 ∨ (0 : Int) = 1) ∧ Q (some (xi 0)) g w) ∧
  ((l1 < 8) → xIs g l0 (0, 2) ∧ 
    cal d nRd_readNumber [xr l0, xi 0, xi 30] g w (fun r g1 w1 => ∃ v1 : Int, r = some (xi v1) ∧ 
      ((¬ v1 = (-1)) → xIs g1 l0 (0, 2) ∧ xIs g1 (g1.2 l0 7) (0, 5) ∧ xA1 g1 (g1.2 (g1.2 l0 7) 8) l1 ∧ aRd_readSun d lim Q 33 [xr l0, xi l1, none] [] g1 (xup w1 (g1.2 (g1.2 l0 7) 8) (Int.toNat l1) v1)) ∧
      ((v1 = (-1)) → ((0 : Int) = 0 ∨ (0 : Int) = 1) ∧ Q (some (xi 0)) g1 w1)))) :
    aRd_readSun d lim Q 2 [xr l0, xi l1, none] [] g w := xAt_exec (cal_m d) kRd_readSun 18 t
set_option maxRecDepth 20000 in
theorem wRd_readSun_33 {d : Nat} {lim : Nat × Nat} {Q : xQ} {l1 : Int} {l0 : Nat} {g : xG} {w : xW} (t : xIs g l0 (0, 2) ∧ x32 (l1 + 1) ∧ xIs g (g.2 l0 7) (0, 5) ∧ aRd_readSun d lim Q 43 [xr l0, xi l1, none] [] g (xup w (g.2 l0 7) 4 (l1 + 1))) :
    aRd_readSun d lim Q 33 [xr l0, xi l1, none] [] g w := xAt_exec (cal_m d) kRd_readSun 7 t
set_option maxRecDepth 20000 in
theorem wRd_readSun_43 {d : Nat} {lim : Nat × Nat} {Q : xQ} {l1 : Int} {l0 : Nat} {g : xG} {w : xW} (t : xIs g l0 (0, 2) ∧ 
  cal d nRd_skipBlanks [xr l0] g w (fun r g1 w1 => r = none ∧ x32 (l1 + 1) ∧ 
    ((8 ≤ (l1 + 1)) → aRd_readSun d lim Q 80 [xr l0, none, none] [] g1 w1) ∧
    (((l1 + 1) < 8) → xIs g1 l0 (0, 2) ∧ xIs g1 l0 (0, 2) ∧ 
      (((w1 l0 1) ≤ (w1 l0 2)) → aRd_readSun d lim Q 80 [xr l0, none, none] [] g1 w1) ∧
      (((w1 l0 2) < (w1 l0 1)) → xIs g1 l0 (0, 2) ∧ xIs g1 l0 (0, 2) ∧ xAr g1 (g1.2 l0 0) (w1 l0 2) ∧ 
        (((w1 (g1.2 l0 0) (Int.toNat (w1 l0 2))) = 44) → xIs g1 l0 (0, 2) ∧ x32 ((w1 l0 2) + 1) ∧ xIs g1 l0 (0, 2) ∧ x32 (l1 + 1) ∧ aRd_readSun d lim Q 2 [xr l0, xi (l1 + 1), none] [] g1 (xup w1 l0 2 ((w1 l0 2) + 1))) ∧
        ((¬ (w1 (g1.2 l0 0) (Int.toNat (w1 l0 2))) = 44) → aRd_readSun d lim Q 80 [xr l0, none, none] [] g1 w1))))) :
    aRd_readSun d lim Q 43 [xr l0, xi l1, none] [] g w := xAt_exec (cal_m d) kRd_readSun 28 t
set_option maxRecDepth 20000 in
theorem wRd_readSun_80 {d : Nat} {lim : Nat × Nat} {Q : xQ} {l0 : Nat} {g : xG} {w : xW} (t : xIs g l0 (0, 2) ∧ 
  cal d nRd_endClause [xr l0] g w (fun r g1 w1 => ∃ v1 : Int, r = some (xi v1) ∧ ((v1 : Int) = 0 ∨ (v1 : Int) = 1) ∧ Q (some (xi v1)) g1 w1)) :
    aRd_readSun d lim Q 80 [xr l0, none, none] [] g w := xAt_exec (cal_m d) kRd_readSun 4 t
theorem eRd_readSun {d : Nat} {Q : xQ} {l0 : Nat} {g : xG} {w : xW} (t : ∀ (lim : Nat × Nat) (Q2 : xQ), (∀ r g2 w2, g2.1 = g.1 → Q r g2 w2 → Q2 r g2 w2) → aRd_readSun d lim Q2 0 [xr l0, none, none] [] g w) : cal (d + 1) nRd_readSun [xr l0] g w Q := t _ _ xQof
abbrev aRd_readPerson (d : Nat) (lim : Nat × Nat) (Q : xQ) : xK := xAt xMks tRd_readPerson (cal d) lim Q
def kRd_readPerson : List (Nat × List Bool) := [(82, [true, true, true, true, true, true]), (93, [true, false, true, true, true, true]), (104, [true, false, false, true, true, true]), (115, [true, false, false, false, true, true])]
set_option maxRecDepth 20000 in
theorem wRd_readPerson_0 {d : Nat} {lim : Nat × Nat} {Q : xQ} {l0 : Nat} {g : xG} {w : xW} (t : xIs g l0 (0, 2) ∧ 
  cal d nRd_readCell [xr l0] g w (fun r g1 w1 => ∃ v1 : Int, r = some (xi v1) ∧ 
    ((¬ v1 = (-1)) → xIs g1 l0 (0, 2) ∧ 
      cal d nRd_readNumber [xr l0, xi 0, xi 300] g1 w1 (fun r g2 w2 => ∃ v2 : Int, r = some (xi v2) ∧ 
        ((¬ v2 = (-1)) → xIs g2 l0 (0, 2) ∧ 
          cal d nRd_readNumber [xr l0, xi 1, xi 60] g2 w2 (fun r g3 w3 => ∃ v3 : Int, r = some (xi v3) ∧ 
            ((¬ v3 = (-1)) → xIs g3 l0 (0, 2) ∧ 
              cal d nRd_readNumber [xr l0, xi 0, xi 9] g3 w3 (fun r g4 w4 => ∃ v4 : Int, r = some (xi v4) ∧ 
                ((¬ v4 = (-1)) → xIs g4 l0 (0, 2) ∧ xIs g4 (g4.2 l0 7) (0, 5) ∧ xIs g4 l0 (0, 2) ∧ xIs g4 (g4.2 l0 7) (0, 5) ∧ x32 ((w4 (g4.2 l0 7) 5) + 1) ∧ xIs g4 (g4.2 l0 7) (0, 5) ∧ aRd_readPerson d lim Q 82 [xr l0, xi v1, xi v2, xi v3, xi v4, xi (w4 (g4.2 l0 7) 5)] [] g4 (xup w4 (g4.2 l0 7) 5 ((w4 (g4.2 l0 7) 5) + 1))) ∧
                ((v4 = (-1)) → ((0 : Int) = 0 ∨ (0 : Int) = 1) ∧ Q (some (xi 0)) g4 w4))) ∧
            ((v3 = (-1)) → ((0 : Int) = 0 ∨ (0 : Int) = 1) ∧ Q (some (xi 0)) g3 w3))) ∧
        ((v2 = (-1)) → ((0 : Int) = 0 ∨ (0 : Int) = 1) ∧ Q (some (xi 0)) g2 w2))) ∧
    ((v1 = (-1)) → ((0 : Int) = 0 ∨ (0 : Int) = 1) ∧ Q (some (xi 0)) g1 w1))) :
    aRd_readPerson d lim Q 0 [xr l0, none, none, none, none, none] [] g w := xAt_exec (cal_m d) kRd_readPerson 42 t
set_option maxRecDepth 20000 in
theorem wRd_readPerson_82 {d : Nat} {lim : Nat × Nat} {Q : xQ} {l1 l2 l3 l4 l5 : Int} {l0 : Nat} {g : xG} {w : xW} (t : xIs g l0 (0, 2) ∧ xIs g (g.2 l0 8) (0, 3) ∧ xA1 g (g.2 (g.2 l0 8) 7) l5 ∧ aRd_readPerson d lim Q 93 [xr l0, none, xi l2, xi l3, xi l4, xi l5] [] g (xup w (g.2 (g.2 l0 8) 7) (Int.toNat l5) l1)) :
    aRd_readPerson d lim Q 82 [xr l0, xi l1, xi l2, xi l3, xi l4, xi l5] [] g w := xAt_exec (cal_m d) kRd_readPerson 7 t
set_option maxRecDepth 20000 in
theorem wRd_readPerson_93 {d : Nat} {lim : Nat × Nat} {Q : xQ} {l2 l3 l4 l5 : Int} {l0 : Nat} {g : xG} {w : xW} (t : xIs g l0 (0, 2) ∧ xIs g (g.2 l0 8) (0, 3) ∧ xA1 g (g.2 (g.2 l0 8) 8) l5 ∧ aRd_readPerson d lim Q 104 [xr l0, none, none, xi l3, xi l4, xi l5] [] g (xup w (g.2 (g.2 l0 8) 8) (Int.toNat l5) l2)) :
    aRd_readPerson d lim Q 93 [xr l0, none, xi l2, xi l3, xi l4, xi l5] [] g w := xAt_exec (cal_m d) kRd_readPerson 7 t
set_option maxRecDepth 20000 in
theorem wRd_readPerson_104 {d : Nat} {lim : Nat × Nat} {Q : xQ} {l3 l4 l5 : Int} {l0 : Nat} {g : xG} {w : xW} (t : xIs g l0 (0, 2) ∧ xIs g (g.2 l0 7) (0, 5) ∧ xA1 g (g.2 (g.2 l0 7) 11) l5 ∧ aRd_readPerson d lim Q 115 [xr l0, none, none, none, xi l4, xi l5] [] g (xup w (g.2 (g.2 l0 7) 11) (Int.toNat l5) l3)) :
    aRd_readPerson d lim Q 104 [xr l0, none, none, xi l3, xi l4, xi l5] [] g w := xAt_exec (cal_m d) kRd_readPerson 7 t
set_option maxRecDepth 20000 in
theorem wRd_readPerson_115 {d : Nat} {lim : Nat × Nat} {Q : xQ} {l4 l5 : Int} {l0 : Nat} {g : xG} {w : xW} (t : xIs g l0 (0, 2) ∧ xIs g (g.2 l0 7) (0, 5) ∧ xA1 g (g.2 (g.2 l0 7) 12) l5 ∧ xIs g l0 (0, 2) ∧ 
  cal d nRd_endClause [xr l0] g (xup w (g.2 (g.2 l0 7) 12) (Int.toNat l5) l4) (fun r g1 w1 => ∃ v1 : Int, r = some (xi v1) ∧ ((v1 : Int) = 0 ∨ (v1 : Int) = 1) ∧ Q (some (xi v1)) g1 w1)) :
    aRd_readPerson d lim Q 115 [xr l0, none, none, none, xi l4, xi l5] [] g w := xAt_exec (cal_m d) kRd_readPerson 10 t
theorem eRd_readPerson {d : Nat} {Q : xQ} {l0 : Nat} {g : xG} {w : xW} (t : ∀ (lim : Nat × Nat) (Q2 : xQ), (∀ r g2 w2, g2.1 = g.1 → Q r g2 w2 → Q2 r g2 w2) → aRd_readPerson d lim Q2 0 [xr l0, none, none, none, none, none] [] g w) : cal (d + 1) nRd_readPerson [xr l0] g w Q := t _ _ xQof
abbrev aRd_readCell (d : Nat) (lim : Nat × Nat) (Q : xQ) : xK := xAt xMks tRd_readCell (cal d) lim Q
def kRd_readCell : List (Nat × List Bool) := []
set_option maxRecDepth 20000 in
theorem wRd_readCell_0 {d : Nat} {lim : Nat × Nat} {Q : xQ} {l0 : Nat} {g : xG} {w : xW} (t : xIs g l0 (0, 2) ∧ xIs g (g.2 l0 7) (0, 5) ∧ x32 ((w (g.2 l0 7) 0) - 1) ∧ xIs g l0 (0, 2) ∧ 
  cal d nRd_readNumber [xr l0, xi 0, xi ((w (g.2 l0 7) 0) - 1)] g w (fun r g1 w1 => ∃ v1 : Int, r = some (xi v1) ∧ 
    ((¬ v1 = (-1)) → xIs g1 l0 (0, 2) ∧ xIs g1 (g1.2 l0 7) (0, 5) ∧ x32 ((w1 (g1.2 l0 7) 1) - 1) ∧ xIs g1 l0 (0, 2) ∧ 
      cal d nRd_readNumber [xr l0, xi 0, xi ((w1 (g1.2 l0 7) 1) - 1)] g1 w1 (fun r g2 w2 => ∃ v2 : Int, r = some (xi v2) ∧ 
        ((¬ v2 = (-1)) → xIs g2 l0 (0, 2) ∧ xIs g2 (g2.2 l0 7) (0, 5) ∧ 
          cal d nTw_cellAt [xr (g2.2 l0 7), xi v1, xi v2] g2 w2 (fun r g3 w3 => ∃ v3 : Int, r = some (xi v3) ∧ Q (some (xi v3)) g3 w3)) ∧
        ((v2 = (-1)) → Q (some (xi (-1))) g2 w2))) ∧
    ((v1 = (-1)) → Q (some (xi (-1))) g1 w1))) :
    aRd_readCell d lim Q 0 [xr l0, none, none] [] g w := xAt_exec (cal_m d) kRd_readCell 31 t
theorem eRd_readCell {d : Nat} {Q : xQ} {l0 : Nat} {g : xG} {w : xW} (t : ∀ (lim : Nat × Nat) (Q2 : xQ), (∀ r g2 w2, g2.1 = g.1 → Q r g2 w2 → Q2 r g2 w2) → aRd_readCell d lim Q2 0 [xr l0, none, none] [] g w) : cal (d + 1) nRd_readCell [xr l0] g w Q := t _ _ xQof
abbrev aRd_readNumber (d : Nat) (lim : Nat × Nat) (Q : xQ) : xK := xAt xMks tRd_readNumber (cal d) lim Q
def kRd_readNumber : List (Nat × List Bool) := [(14, [true, true, true, true, false]), (90, [true, true, true, true, false]), (134, [true, false, false, false, false])]
set_option maxRecDepth 20000 in
theorem wRd_readNumber_0 {d : Nat} {lim : Nat × Nat} {Q : xQ} {l1 l2 : Int} {l0 : Nat} {g : xG} {w : xW} (t : xIs g l0 (0, 2) ∧ 
  cal d nRd_skipBlanks [xr l0] g w (fun r g1 w1 => r = none ∧ xIs g1 l0 (0, 2) ∧ xIs g1 l0 (0, 2) ∧ aRd_readNumber d lim Q 14 [xr l0, xi l1, xi l2, xi 0, none] [] g1 (xup w1 l0 3 (w1 l0 2)))) :
    aRd_readNumber d lim Q 0 [xr l0, xi l1, xi l2, none, none] [] g w := xAt_exec (cal_m d) kRd_readNumber 9 t
set_option maxRecDepth 20000 in
theorem wRd_readNumber_14 {d : Nat} {lim : Nat × Nat} {Q : xQ} {l1 l2 l3 : Int} {l0 : Nat} {g : xG} {w : xW} (t : xIs g l0 (0, 2) ∧ xIs g l0 (0, 2) ∧ 
  (((w l0 1) ≤ (w l0 2)) → aRd_readNumber d lim Q 90 [xr l0, xi l1, xi l2, xi l3, none] [] g w) ∧
  (((w l0 2) < (w l0 1)) → xIs g l0 (0, 2) ∧ xIs g l0 (0, 2) ∧ xAr g (g.2 l0 0) (w l0 2) ∧ 
    (((w (g.2 l0 0) (Int.toNat (w l0 2))) < 48) → aRd_readNumber d lim Q 90 [xr l0, xi l1, xi l2, xi l3, none] [] g w) ∧
    ((48 ≤ (w (g.2 l0 0) (Int.toNat (w l0 2)))) → xIs g l0 (0, 2) ∧ xIs g l0 (0, 2) ∧ xAr g (g.2 l0 0) (w l0 2) ∧ 
      ((57 < (w (g.2 l0 0) (Int.toNat (w l0 2)))) → aRd_readNumber d lim Q 90 [xr l0, xi l1, xi l2, xi l3, none] [] g w) ∧
      (((w (g.2 l0 0) (Int.toNat (w l0 2))) ≤ 57) → x32 (l3 * 10) ∧ xIs g l0 (0, 2) ∧ xIs g l0 (0, 2) ∧ xAr g (g.2 l0 0) (w l0 2) ∧ x32 ((l3 * 10) + (w (g.2 l0 0) (Int.toNat (w l0 2)))) ∧ x32 (((l3 * 10) + (w (g.2 l0 0) (Int.toNat (w l0 2)))) - 48) ∧ xIs g l0 (0, 2) ∧ x32 ((w l0 2) + 1) ∧ xIs g l0 (0, 2) ∧ aRd_readNumber d lim Q 14 [xr l0, xi l1, xi l2, xi (min 1000 (((l3 * 10) + (w (g.2 l0 0) (Int.toNat (w l0 2)))) - 48)), none] [] g (xup w l0 2 ((w l0 2) + 1)))))) :
    aRd_readNumber d lim Q 14 [xr l0, xi l1, xi l2, xi l3, none] [] g w := xAt_exec (cal_m d) kRd_readNumber 41 t
set_option maxRecDepth 20000 in
theorem wRd_readNumber_90 {d : Nat} {lim : Nat × Nat} {Q : xQ} {l1 l2 l3 : Int} {l0 : Nat} {g : xG} {w : xW} (t : xIs g l0 (0, 2) ∧ xIs g l0 (0, 2) ∧ x32 ((w l0 2) - (w l0 3)) ∧ 
  ((¬ ((w l0 2) - (w l0 3)) = 0) → 
    ((3 < ((w l0 2) - (w l0 3))) → aRd_readNumber d lim Q 134 [xr l0, none, none, none, none] [] g w) ∧
    ((((w l0 2) - (w l0 3)) ≤ 3) → 
      ((l3 < l1) → aRd_readNumber d lim Q 134 [xr l0, none, none, none, none] [] g w) ∧
      ((l1 ≤ l3) → 
        ((l3 ≤ l2) → Q (some (xi l3)) g w) ∧
        ((l2 < l3) → aRd_readNumber d lim Q 134 [xr l0, none, none, none, none] [] g w)))) ∧
  ((((w l0 2) - (w l0 3)) = 0) → xIs g l0 (0, 2) ∧ xIs g l0 (0, 2) ∧ 
    cal d nRd_fail [xr l0, xi 1, xi (w l0 3)] g w (fun r g1 w1 => ∃ v1 : Int, r = some (xi v1) ∧ Q (some (xi (-1))) g1 w1))) :
    aRd_readNumber d lim Q 90 [xr l0, xi l1, xi l2, xi l3, none] [] g w := xAt_exec (cal_m d) kRd_readNumber 20 t
set_option maxRecDepth 20000 in
theorem wRd_readNumber_134 {d : Nat} {lim : Nat × Nat} {Q : xQ} {l0 : Nat} {g : xG} {w : xW} (t : xIs g l0 (0, 2) ∧ xIs g l0 (0, 2) ∧ 
  cal d nRd_fail [xr l0, xi 2, xi (w l0 3)] g w (fun r g1 w1 => ∃ v1 : Int, r = some (xi v1) ∧ Q (some (xi (-1))) g1 w1)) :
    aRd_readNumber d lim Q 134 [xr l0, none, none, none, none] [] g w := xAt_exec (cal_m d) kRd_readNumber 9 t
theorem eRd_readNumber {d : Nat} {Q : xQ} {l1 l2 : Int} {l0 : Nat} {g : xG} {w : xW} (t : ∀ (lim : Nat × Nat) (Q2 : xQ), (∀ r g2 w2, g2.1 = g.1 → Q r g2 w2 → Q2 r g2 w2) → aRd_readNumber d lim Q2 0 [xr l0, xi l1, xi l2, none, none] [] g w) : cal (d + 1) nRd_readNumber [xr l0, xi l1, xi l2] g w Q := t _ _ xQof
abbrev aRd_endClause (d : Nat) (lim : Nat × Nat) (Q : xQ) : xK := xAt xMks tRd_endClause (cal d) lim Q
def kRd_endClause : List (Nat × List Bool) := [(29, [true])]
set_option maxRecDepth 20000 in
theorem wRd_endClause_0 {d : Nat} {lim : Nat × Nat} {Q : xQ} {l0 : Nat} {g : xG} {w : xW} (t : xIs g l0 (0, 2) ∧ 
  cal d nRd_skipBlanks [xr l0] g w (fun r g1 w1 => r = none ∧ xIs g1 l0 (0, 2) ∧ xIs g1 l0 (0, 2) ∧ 
    (((w1 l0 1) ≤ (w1 l0 2)) → aRd_endClause d lim Q 29 [xr l0] [] g1 w1) ∧
    (((w1 l0 2) < (w1 l0 1)) → xIs g1 l0 (0, 2) ∧ xIs g1 l0 (0, 2) ∧ xAr g1 (g1.2 l0 0) (w1 l0 2) ∧ 
      (((w1 (g1.2 l0 0) (Int.toNat (w1 l0 2))) = 59) → xIs g1 l0 (0, 2) ∧ x32 ((w1 l0 2) + 1) ∧ xIs g1 l0 (0, 2) ∧ ((1 : Int) = 0 ∨ (1 : Int) = 1) ∧ Q (some (xi 1)) g1 (xup w1 l0 2 ((w1 l0 2) + 1))) ∧
      ((¬ (w1 (g1.2 l0 0) (Int.toNat (w1 l0 2))) = 59) → aRd_endClause d lim Q 29 [xr l0] [] g1 w1)))) :
    aRd_endClause d lim Q 0 [xr l0] [] g w := xAt_exec (cal_m d) kRd_endClause 23 t
set_option maxRecDepth 20000 in
theorem wRd_endClause_29 {d : Nat} {lim : Nat × Nat} {Q : xQ} {l0 : Nat} {g : xG} {w : xW} (t : xIs g l0 (0, 2) ∧ xIs g l0 (0, 2) ∧ 
  cal d nRd_fail [xr l0, xi 1, xi (w l0 2)] g w (fun r g1 w1 => ∃ v1 : Int, r = some (xi v1) ∧ ((v1 : Int) = 0 ∨ (v1 : Int) = 1) ∧ Q (some (xi v1)) g1 w1)) :
    aRd_endClause d lim Q 29 [xr l0] [] g w := xAt_exec (cal_m d) kRd_endClause 7 t
theorem eRd_endClause {d : Nat} {Q : xQ} {l0 : Nat} {g : xG} {w : xW} (t : ∀ (lim : Nat × Nat) (Q2 : xQ), (∀ r g2 w2, g2.1 = g.1 → Q r g2 w2 → Q2 r g2 w2) → aRd_endClause d lim Q2 0 [xr l0] [] g w) : cal (d + 1) nRd_endClause [xr l0] g w Q := t _ _ xQof
abbrev aRd_skipBlanks (d : Nat) (lim : Nat × Nat) (Q : xQ) : xK := xAt xMks tRd_skipBlanks (cal d) lim Q
def kRd_skipBlanks : List (Nat × List Bool) := [(0, [true])]
set_option maxRecDepth 20000 in
theorem wRd_skipBlanks_0 {d : Nat} {lim : Nat × Nat} {Q : xQ} {l0 : Nat} {g : xG} {w : xW} (t : xIs g l0 (0, 2) ∧ xIs g l0 (0, 2) ∧ 
  (((w l0 1) ≤ (w l0 2)) → Q none g w) ∧
  (((w l0 2) < (w l0 1)) → xIs g l0 (0, 2) ∧ xIs g l0 (0, 2) ∧ xAr g (g.2 l0 0) (w l0 2) ∧ 
    ((¬ (w (g.2 l0 0) (Int.toNat (w l0 2))) = 32) → Q none g w) ∧
    (((w (g.2 l0 0) (Int.toNat (w l0 2))) = 32) → xIs g l0 (0, 2) ∧ x32 ((w l0 2) + 1) ∧ xIs g l0 (0, 2) ∧ aRd_skipBlanks d lim Q 0 [xr l0] [] g (xup w l0 2 ((w l0 2) + 1))))) :
    aRd_skipBlanks d lim Q 0 [xr l0] [] g w := xAt_exec (cal_m d) kRd_skipBlanks 20 t
theorem eRd_skipBlanks {d : Nat} {Q : xQ} {l0 : Nat} {g : xG} {w : xW} (t : ∀ (lim : Nat × Nat) (Q2 : xQ), (∀ r g2 w2, g2.1 = g.1 → Q r g2 w2 → Q2 r g2 w2) → aRd_skipBlanks d lim Q2 0 [xr l0] [] g w) : cal (d + 1) nRd_skipBlanks [xr l0] g w Q := t _ _ xQof
abbrev aRd_fail (d : Nat) (lim : Nat × Nat) (Q : xQ) : xK := xAt xMks tRd_fail (cal d) lim Q
def kRd_fail : List (Nat × List Bool) := [(5, [true, false, true])]
set_option maxRecDepth 20000 in
theorem wRd_fail_0 {d : Nat} {lim : Nat × Nat} {Q : xQ} {l1 l2 : Int} {l0 : Nat} {g : xG} {w : xW} (t : xIs g l0 (0, 2) ∧ aRd_fail d lim Q 5 [xr l0, none, xi l2] [] g (xup w l0 4 l1)) :
    aRd_fail d lim Q 0 [xr l0, xi l1, xi l2] [] g w := xAt_exec (cal_m d) kRd_fail 4 t
set_option maxRecDepth 20000 in
theorem wRd_fail_5 {d : Nat} {lim : Nat × Nat} {Q : xQ} {l2 : Int} {l0 : Nat} {g : xG} {w : xW} (t : xIs g l0 (0, 2) ∧ ((0 : Int) = 0 ∨ (0 : Int) = 1) ∧ Q (some (xi 0)) g (xup w l0 5 l2)) :
    aRd_fail d lim Q 5 [xr l0, none, xi l2] [] g w := xAt_exec (cal_m d) kRd_fail 6 t
theorem eRd_fail {d : Nat} {Q : xQ} {l1 l2 : Int} {l0 : Nat} {g : xG} {w : xW} (t : ∀ (lim : Nat × Nat) (Q2 : xQ), (∀ r g2 w2, g2.1 = g.1 → Q r g2 w2 → Q2 r g2 w2) → aRd_fail d lim Q2 0 [xr l0, xi l1, xi l2] [] g w) : cal (d + 1) nRd_fail [xr l0, xi l1, xi l2] g w Q := t _ _ xQof
