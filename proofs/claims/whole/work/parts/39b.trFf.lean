abbrev aFf_feed (d : Nat) (lim : Nat × Nat) (Q : xQ) : xK := xAt xMks tFf_feed (cal d) lim Q
def kFf_feed : List (Nat × List Bool) := []
set_option maxRecDepth 20000 in
theorem wFf_feed_0 {d : Nat} {lim : Nat × Nat} {Q : xQ} {l1 : Int} {l0 : Nat} {g : xG} {w : xW} (t : 
  ((l1 < 0) → Q (some (xi (-1000000002))) g w) ∧
  ((0 ≤ l1) → 
    ((l1 ≤ 255) → xIs g l0 (0, 6) ∧ xIs g (g.2 l0 0) (0, 2) ∧ 
      cal d nRd_take [xr (g.2 l0 0), xi l1] g w (fun r g1 w1 => ∃ v1 : Int, r = some (xi v1) ∧ 
        ((v1 = 0) → Q (some (xi (-1000000004))) g1 w1) ∧
        ((¬ v1 = 0) → xIs g1 l0 (0, 6) ∧ xIs g1 (g1.2 l0 0) (0, 2) ∧ Q (some (xi (w1 (g1.2 l0 0) 1))) g1 w1))) ∧
    ((255 < l1) → Q (some (xi (-1000000002))) g w))) :
    aFf_feed d lim Q 0 [xr l0, xi l1] [] g w := xAt_exec (cal_m d) kFf_feed 16 t
theorem eFf_feed {d : Nat} {Q : xQ} {l1 : Int} {l0 : Nat} {g : xG} {w : xW} (t : ∀ (lim : Nat × Nat) (Q2 : xQ), (∀ r g2 w2, g2.1 = g.1 → Q r g2 w2 → Q2 r g2 w2) → aFf_feed d lim Q2 0 [xr l0, xi l1] [] g w) : cal (d + 1) nFf_feed [xr l0, xi l1] g w Q := t _ _ xQof
abbrev aFf_town (d : Nat) (lim : Nat × Nat) (Q : xQ) : xK := xAt xMks tFf_town (cal d) lim Q
def kFf_town : List (Nat × List Bool) := [(32, [true, true, true, false, false]), (60, [true, true, false, true, false]), (65, [true, true, false, false, false]), (79, [true, true, false, false, true]), (85, [true, true, false, false, false]), (93, [true, false, false, false, false]), (101, [true, false, false, false, false])]
set_option maxRecDepth 20000 in
theorem wFf_town_0 {d : Nat} {lim : Nat × Nat} {Q : xQ} {l0 : Nat} {g : xG} {w : xW} (t : xIs g l0 (0, 6) ∧ xIs g (g.2 l0 11) (0, 3) ∧ xIs g l0 (0, 6) ∧ xIs g l0 (0, 6) ∧ xIs g l0 (0, 6) ∧ xIs g (g.2 l0 0) (0, 2) ∧ 
  cal d nRd_read [xr (g.2 l0 0), xr (g.2 l0 10), xr (g.2 l0 12)] g w (fun r g1 w1 => ∃ v1 : Int, r = some (xi v1) ∧ xIs g1 l0 (0, 6) ∧ xIs g1 (g1.2 l0 0) (0, 2) ∧ aFf_town d lim Q 32 [xr l0, xi (w (g.2 l0 11) 17), xi v1, none, none] [] g1 (xup w1 (g1.2 l0 0) 1 0))) :
    aFf_town d lim Q 0 [xr l0, none, none, none, none] [] g w := xAt_exec (cal_m d) kFf_town 17 t
set_option maxRecDepth 20000 in
theorem wFf_town_32 {d : Nat} {lim : Nat × Nat} {Q : xQ} {l1 l2 : Int} {l0 : Nat} {g : xG} {w : xW} (t : 
  ((¬ l2 = 0) → xIs g l0 (0, 6) ∧ xIs g l0 (0, 6) ∧ xIs g l0 (0, 6) ∧ aFf_town d lim Q 60 [xr l0, xi l1, none, xr (g.2 l0 9), none] [] (g.1, xup g.2 l0 9 (g.2 l0 10)) w) ∧
  ((l2 = 0) → xIs g l0 (0, 6) ∧ xIs g (g.2 l0 0) (0, 2) ∧ x32 ((-10) - (w (g.2 l0 0) 4)) ∧ Q (some (xi ((-10) - (w (g.2 l0 0) 4)))) g w)) :
    aFf_town d lim Q 32 [xr l0, xi l1, xi l2, none, none] [] g w := xAt_exec (cal_m d) kFf_town 10 t
set_option maxRecDepth 20000 in
theorem wFf_town_60 {d : Nat} {lim : Nat × Nat} {Q : xQ} {l1 : Int} {l0 l3 : Nat} {g : xG} {w : xW} (t : xIs g l0 (0, 6) ∧ aFf_town d lim Q 65 [xr l0, xi l1, none, none, none] [] (g.1, xup g.2 l0 10 l3) w) :
    aFf_town d lim Q 60 [xr l0, xi l1, none, xr l3, none] [] g w := xAt_exec (cal_m d) kFf_town 4 t
set_option maxRecDepth 20000 in
theorem wFf_town_65 {d : Nat} {lim : Nat × Nat} {Q : xQ} {l1 : Int} {l0 : Nat} {g : xG} {w : xW} (t : xIs g l0 (0, 6) ∧ xIs g l0 (0, 6) ∧ xIs g l0 (0, 6) ∧ aFf_town d lim Q 79 [xr l0, xi l1, none, none, xr (g.2 l0 11)] [] (g.1, xup g.2 l0 11 (g.2 l0 12)) w) :
    aFf_town d lim Q 65 [xr l0, xi l1, none, none, none] [] g w := xAt_exec (cal_m d) kFf_town 8 t
set_option maxRecDepth 20000 in
theorem wFf_town_79 {d : Nat} {lim : Nat × Nat} {Q : xQ} {l1 : Int} {l0 l4 : Nat} {g : xG} {w : xW} (t : xIs g l0 (0, 6) ∧ aFf_town d lim Q 85 [xr l0, xi l1, none, none, none] [] (g.1, xup g.2 l0 12 l4) w) :
    aFf_town d lim Q 79 [xr l0, xi l1, none, none, xr l4] [] g w := xAt_exec (cal_m d) kFf_town 4 t
set_option maxRecDepth 20000 in
theorem wFf_town_85 {d : Nat} {lim : Nat × Nat} {Q : xQ} {l1 : Int} {l0 : Nat} {g : xG} {w : xW} (t : xIs g l0 (0, 6) ∧ xIs g (g.2 l0 11) (0, 3) ∧ aFf_town d lim Q 93 [xr l0, none, none, none, none] [] g (xup w (g.2 l0 11) 17 l1)) :
    aFf_town d lim Q 85 [xr l0, xi l1, none, none, none] [] g w := xAt_exec (cal_m d) kFf_town 5 t
set_option maxRecDepth 20000 in
theorem wFf_town_93 {d : Nat} {lim : Nat × Nat} {Q : xQ} {l0 : Nat} {g : xG} {w : xW} (t : xIs g l0 (0, 6) ∧ xIs g (g.2 l0 1) (0, 1) ∧ aFf_town d lim Q 101 [xr l0, none, none, none, none] [] g (xup w (g.2 l0 1) 3 0)) :
    aFf_town d lim Q 93 [xr l0, none, none, none, none] [] g w := xAt_exec (cal_m d) kFf_town 5 t
set_option maxRecDepth 20000 in
theorem wFf_town_101 {d : Nat} {lim : Nat × Nat} {Q : xQ} {l0 : Nat} {g : xG} {w : xW} (t : xIs g l0 (0, 6) ∧ xIs g (g.2 l0 2) (0, 1) ∧ xIs g l0 (0, 6) ∧ 
  cal d nJd_fill [xr (g.2 l0 4), xi 0] g (xup w (g.2 l0 2) 3 0) (fun r g1 w1 => r = none ∧ xIs g1 l0 (0, 6) ∧ xIs g1 (g1.2 l0 9) (0, 5) ∧ 
    cal d nTw_cells [xr (g1.2 l0 9)] g1 w1 (fun r g2 w2 => ∃ v2 : Int, r = some (xi v2) ∧ Q (some (xi v2)) g2 w2))) :
    aFf_town d lim Q 101 [xr l0, none, none, none, none] [] g w := xAt_exec (cal_m d) kFf_town 13 t
theorem eFf_town {d : Nat} {Q : xQ} {l0 : Nat} {g : xG} {w : xW} (t : ∀ (lim : Nat × Nat) (Q2 : xQ), (∀ r g2 w2, g2.1 = g.1 → Q r g2 w2 → Q2 r g2 w2) → aFf_town d lim Q2 0 [xr l0, none, none, none, none] [] g w) : cal (d + 1) nFf_town [xr l0] g w Q := t _ _ xQof
abbrev aFf_fault (d : Nat) (lim : Nat × Nat) (Q : xQ) : xK := xAt xMks tFf_fault (cal d) lim Q
def kFf_fault : List (Nat × List Bool) := []
set_option maxRecDepth 20000 in
theorem wFf_fault_0 {d : Nat} {lim : Nat × Nat} {Q : xQ} {l0 : Nat} {g : xG} {w : xW} (t : xIs g l0 (0, 6) ∧ xIs g (g.2 l0 0) (0, 2) ∧ Q (some (xi (w (g.2 l0 0) 5))) g w) :
    aFf_fault d lim Q 0 [xr l0] [] g w := xAt_exec (cal_m d) kFf_fault 5 t
theorem eFf_fault {d : Nat} {Q : xQ} {l0 : Nat} {g : xG} {w : xW} (t : ∀ (lim : Nat × Nat) (Q2 : xQ), (∀ r g2 w2, g2.1 = g.1 → Q r g2 w2 → Q2 r g2 w2) → aFf_fault d lim Q2 0 [xr l0] [] g w) : cal (d + 1) nFf_fault [xr l0] g w Q := t _ _ xQof
abbrev aFf_told (d : Nat) (lim : Nat × Nat) (Q : xQ) : xK := xAt xMks tFf_told (cal d) lim Q
def kFf_told : List (Nat × List Bool) := []
set_option maxRecDepth 20000 in
theorem wFf_told_0 {d : Nat} {lim : Nat × Nat} {Q : xQ} {l1 : Int} {l0 : Nat} {g : xG} {w : xW} (t : 
  ((l1 < 0 ∨ 14 < l1) → Q (some (xi (-1000000002))) g w) ∧
  ((l1 = 0) → xIs g l0 (0, 6) ∧ xIs g (g.2 l0 9) (0, 5) ∧ Q (some (xi (w (g.2 l0 9) 0))) g w) ∧
  ((l1 = 1) → xIs g l0 (0, 6) ∧ xIs g (g.2 l0 9) (0, 5) ∧ Q (some (xi (w (g.2 l0 9) 1))) g w) ∧
  ((l1 = 2) → xIs g l0 (0, 6) ∧ xIs g l0 (0, 6) ∧ xIs g (g.2 l0 11) (0, 3) ∧ 
    cal d nSt_countWalls [xr (g.2 l0 11), xr (g.2 l0 9)] g w (fun r g1 w1 => ∃ v1 : Int, r = some (xi v1) ∧ Q (some (xi v1)) g1 w1)) ∧
  ((l1 = 3) → xIs g l0 (0, 6) ∧ xIs g (g.2 l0 9) (0, 5) ∧ Q (some (xi (w (g.2 l0 9) 2))) g w) ∧
  ((l1 = 4) → xIs g l0 (0, 6) ∧ xIs g (g.2 l0 9) (0, 5) ∧ Q (some (xi (w (g.2 l0 9) 3))) g w) ∧
  ((l1 = 5) → xIs g l0 (0, 6) ∧ xIs g (g.2 l0 9) (0, 5) ∧ Q (some (xi (w (g.2 l0 9) 4))) g w) ∧
  ((l1 = 6) → xIs g l0 (0, 6) ∧ xIs g (g.2 l0 9) (0, 5) ∧ Q (some (xi (w (g.2 l0 9) 5))) g w) ∧
  ((l1 = 7) → xIs g l0 (0, 6) ∧ xIs g (g.2 l0 0) (0, 2) ∧ Q (some (xi (w (g.2 l0 0) 1))) g w) ∧
  ((l1 = 8) → xIs g l0 (0, 6) ∧ xIs g (g.2 l0 11) (0, 3) ∧ Q (some (xi (w (g.2 l0 11) 16))) g w) ∧
  ((l1 = 9) → xIs g l0 (0, 6) ∧ xIs g (g.2 l0 11) (0, 3) ∧ Q (some (xi (w (g.2 l0 11) 14))) g w) ∧
  ((l1 = 10) → xIs g l0 (0, 6) ∧ xIs g (g.2 l0 11) (0, 3) ∧ Q (some (xi (w (g.2 l0 11) 15))) g w) ∧
  ((l1 = 11) → xIs g l0 (0, 6) ∧ xIs g l0 (0, 6) ∧ xIs g (g.2 l0 11) (0, 3) ∧ xIs g (g.2 l0 9) (0, 5) ∧ 
    cal d nTw_sunAt [xr (g.2 l0 9), xi (w (g.2 l0 11) 16)] g w (fun r g2 w2 => ∃ v2 : Int, r = some (xi v2) ∧ Q (some (xi v2)) g2 w2)) ∧
  ((l1 = 12) → xIs g l0 (0, 6) ∧ xIs g (g.2 l0 11) (0, 3) ∧ Q (some (xi (w (g.2 l0 11) 13))) g w) ∧
  ((l1 = 13) → xIs g l0 (0, 6) ∧ xIs g (g.2 l0 1) (0, 1) ∧ Q (some (xi (w (g.2 l0 1) 3))) g w) ∧
  ((l1 = 14) → xIs g l0 (0, 6) ∧ xIs g (g.2 l0 2) (0, 1) ∧ Q (some (xi (w (g.2 l0 2) 3))) g w) ∧ True) :
    aFf_told d lim Q 0 [xr l0, xi l1] [] g w := xAt_exec (cal_m d) kFf_told 10 t
theorem eFf_told {d : Nat} {Q : xQ} {l1 : Int} {l0 : Nat} {g : xG} {w : xW} (t : ∀ (lim : Nat × Nat) (Q2 : xQ), (∀ r g2 w2, g2.1 = g.1 → Q r g2 w2 → Q2 r g2 w2) → aFf_told d lim Q2 0 [xr l0, xi l1] [] g w) : cal (d + 1) nFf_told [xr l0, xi l1] g w Q := t _ _ xQof
abbrev aFf_cell (d : Nat) (lim : Nat × Nat) (Q : xQ) : xK := xAt xMks tFf_cell (cal d) lim Q
def kFf_cell : List (Nat × List Bool) := []
set_option maxRecDepth 20000 in
theorem wFf_cell_0 {d : Nat} {lim : Nat × Nat} {Q : xQ} {l1 l2 l3 : Int} {l0 : Nat} {g : xG} {w : xW} (t : xIs g l0 (0, 6) ∧ xIs g (g.2 l0 9) (0, 5) ∧ 
  cal d nTw_cellAt [xr (g.2 l0 9), xi l1, xi l2] g w (fun r g1 w1 => ∃ v1 : Int, r = some (xi v1) ∧ 
    ((¬ v1 = (-1)) → 
      ((l3 < 0 ∨ 3 < l3) → Q (some (xi (-1000000002))) g1 w1) ∧
      ((l3 = 0) → xIs g1 l0 (0, 6) ∧ xIs g1 (g1.2 l0 11) (0, 3) ∧ xAr g1 (g1.2 (g1.2 l0 11) 0) v1 ∧ Q (some (xi (w1 (g1.2 (g1.2 l0 11) 0) (Int.toNat v1)))) g1 w1) ∧
      ((l3 = 1) → xIs g1 l0 (0, 6) ∧ xIs g1 (g1.2 l0 11) (0, 3) ∧ xAr g1 (g1.2 (g1.2 l0 11) 2) v1 ∧ Q (some (xi (w1 (g1.2 (g1.2 l0 11) 2) (Int.toNat v1)))) g1 w1) ∧
      ((l3 = 2) → xIs g1 l0 (0, 6) ∧ xIs g1 (g1.2 l0 9) (0, 5) ∧ xAr g1 (g1.2 (g1.2 l0 9) 7) v1 ∧ Q (some (xi (w1 (g1.2 (g1.2 l0 9) 7) (Int.toNat v1)))) g1 w1) ∧
      ((l3 = 3) → xIs g1 l0 (0, 6) ∧ xIs g1 l0 (0, 6) ∧ xIs g1 (g1.2 l0 11) (0, 3) ∧ 
        cal d nSt_peopleOn [xr (g1.2 l0 11), xr (g1.2 l0 9), xi v1] g1 w1 (fun r g2 w2 => ∃ v2 : Int, r = some (xi v2) ∧ Q (some (xi v2)) g2 w2)) ∧ True) ∧
    ((v1 = (-1)) → Q (some (xi (-1000000001))) g1 w1))) :
    aFf_cell d lim Q 0 [xr l0, xi l1, xi l2, xi l3, none] [] g w := xAt_exec (cal_m d) kFf_cell 19 t
theorem eFf_cell {d : Nat} {Q : xQ} {l1 l2 l3 : Int} {l0 : Nat} {g : xG} {w : xW} (t : ∀ (lim : Nat × Nat) (Q2 : xQ), (∀ r g2 w2, g2.1 = g.1 → Q r g2 w2 → Q2 r g2 w2) → aFf_cell d lim Q2 0 [xr l0, xi l1, xi l2, xi l3, none] [] g w) : cal (d + 1) nFf_cell [xr l0, xi l1, xi l2, xi l3] g w Q := t _ _ xQof
abbrev aFf_wall (d : Nat) (lim : Nat × Nat) (Q : xQ) : xK := xAt xMks tFf_wall (cal d) lim Q
def kFf_wall : List (Nat × List Bool) := []
set_option maxRecDepth 20000 in
theorem wFf_wall_0 {d : Nat} {lim : Nat × Nat} {Q : xQ} {l1 l2 l3 : Int} {l0 : Nat} {g : xG} {w : xW} (t : xIs g l0 (0, 6) ∧ 
  cal d nFf_refusalOfWall [xr l0, xi l1, xi l2, xi l3] g w (fun r g1 w1 => ∃ v1 : Int, r = some (xi v1) ∧ 
    ((v1 = 0) → xIs g1 l0 (0, 6) ∧ xIs g1 l0 (0, 6) ∧ xIs g1 (g1.2 l0 9) (0, 5) ∧ 
      cal d nTw_cellAt [xr (g1.2 l0 9), xi l1, xi l2] g1 w1 (fun r g2 w2 => ∃ v2 : Int, r = some (xi v2) ∧ xIs g2 (g1.2 l0 11) (0, 3) ∧ 
        cal d nSt_wallOf [xr (g1.2 l0 11), xi v2, xi l3] g2 w2 (fun r g3 w3 => ∃ v3 : Int, r = some (xi v3) ∧ Q (some (xi v3)) g3 w3))) ∧
    ((¬ v1 = 0) → Q (some (xi v1)) g1 w1))) :
    aFf_wall d lim Q 0 [xr l0, xi l1, xi l2, xi l3, none] [] g w := xAt_exec (cal_m d) kFf_wall 19 t
theorem eFf_wall {d : Nat} {Q : xQ} {l1 l2 l3 : Int} {l0 : Nat} {g : xG} {w : xW} (t : ∀ (lim : Nat × Nat) (Q2 : xQ), (∀ r g2 w2, g2.1 = g.1 → Q r g2 w2 → Q2 r g2 w2) → aFf_wall d lim Q2 0 [xr l0, xi l1, xi l2, xi l3, none] [] g w) : cal (d + 1) nFf_wall [xr l0, xi l1, xi l2, xi l3] g w Q := t _ _ xQof
abbrev aFf_stove (d : Nat) (lim : Nat × Nat) (Q : xQ) : xK := xAt xMks tFf_stove (cal d) lim Q
def kFf_stove : List (Nat × List Bool) := []
set_option maxRecDepth 20000 in
theorem wFf_stove_0 {d : Nat} {lim : Nat × Nat} {Q : xQ} {l1 l2 : Int} {l0 : Nat} {g : xG} {w : xW} (t : xIs g l0 (0, 6) ∧ 
  cal d nFf_isStove [xr l0, xi l1] g w (fun r g1 w1 => ∃ v1 : Int, r = some (xi v1) ∧ 
    ((¬ v1 = 0) → 
      ((l2 < 0 ∨ 3 < l2) → Q (some (xi (-1000000002))) g1 w1) ∧
      ((l2 = 0) → xIs g1 l0 (0, 6) ∧ xIs g1 l0 (0, 6) ∧ xIs g1 (g1.2 l0 9) (0, 5) ∧ xAr g1 (g1.2 (g1.2 l0 9) 9) l1 ∧ xIs g1 (g1.2 l0 9) (0, 5) ∧ 
        cal d nTw_pairOf [xr (g1.2 l0 9), xi (w1 (g1.2 (g1.2 l0 9) 9) (Int.toNat l1))] g1 w1 (fun r g2 w2 => ∃ v2 : Int, r = some (xi v2) ∧ Q (some (xi v2)) g2 w2)) ∧
      ((l2 = 1) → xIs g1 l0 (0, 6) ∧ xIs g1 (g1.2 l0 9) (0, 5) ∧ xAr g1 (g1.2 (g1.2 l0 9) 10) l1 ∧ Q (some (xi (w1 (g1.2 (g1.2 l0 9) 10) (Int.toNat l1)))) g1 w1) ∧
      ((l2 = 2) → xIs g1 l0 (0, 6) ∧ xIs g1 (g1.2 l0 11) (0, 3) ∧ xAr g1 (g1.2 (g1.2 l0 11) 5) l1 ∧ Q (some (xi (w1 (g1.2 (g1.2 l0 11) 5) (Int.toNat l1)))) g1 w1) ∧
      ((l2 = 3) → xIs g1 l0 (0, 6) ∧ xIs g1 (g1.2 l0 11) (0, 3) ∧ xAr g1 (g1.2 (g1.2 l0 11) 6) l1 ∧ Q (some (xi (w1 (g1.2 (g1.2 l0 11) 6) (Int.toNat l1)))) g1 w1) ∧ True) ∧
    ((v1 = 0) → Q (some (xi (-1000000001))) g1 w1))) :
    aFf_stove d lim Q 0 [xr l0, xi l1, xi l2] [] g w := xAt_exec (cal_m d) kFf_stove 16 t
theorem eFf_stove {d : Nat} {Q : xQ} {l1 l2 : Int} {l0 : Nat} {g : xG} {w : xW} (t : ∀ (lim : Nat × Nat) (Q2 : xQ), (∀ r g2 w2, g2.1 = g.1 → Q r g2 w2 → Q2 r g2 w2) → aFf_stove d lim Q2 0 [xr l0, xi l1, xi l2] [] g w) : cal (d + 1) nFf_stove [xr l0, xi l1, xi l2] g w Q := t _ _ xQof
abbrev aFf_person (d : Nat) (lim : Nat × Nat) (Q : xQ) : xK := xAt xMks tFf_person (cal d) lim Q
def kFf_person : List (Nat × List Bool) := []
set_option maxRecDepth 20000 in
theorem wFf_person_0 {d : Nat} {lim : Nat × Nat} {Q : xQ} {l1 l2 : Int} {l0 : Nat} {g : xG} {w : xW} (t : xIs g l0 (0, 6) ∧ 
  cal d nFf_isPerson [xr l0, xi l1] g w (fun r g1 w1 => ∃ v1 : Int, r = some (xi v1) ∧ 
    ((¬ v1 = 0) → 
      ((l2 < 0 ∨ 7 < l2) → Q (some (xi (-1000000002))) g1 w1) ∧
      ((l2 = 0) → xIs g1 l0 (0, 6) ∧ xIs g1 l0 (0, 6) ∧ xIs g1 (g1.2 l0 11) (0, 3) ∧ xAr g1 (g1.2 (g1.2 l0 11) 7) l1 ∧ xIs g1 (g1.2 l0 9) (0, 5) ∧ 
        cal d nTw_pairOf [xr (g1.2 l0 9), xi (w1 (g1.2 (g1.2 l0 11) 7) (Int.toNat l1))] g1 w1 (fun r g2 w2 => ∃ v2 : Int, r = some (xi v2) ∧ Q (some (xi v2)) g2 w2)) ∧
      ((l2 = 1) → xIs g1 l0 (0, 6) ∧ xIs g1 (g1.2 l0 11) (0, 3) ∧ xAr g1 (g1.2 (g1.2 l0 11) 8) l1 ∧ Q (some (xi (w1 (g1.2 (g1.2 l0 11) 8) (Int.toNat l1)))) g1 w1) ∧
      ((l2 = 2) → xIs g1 l0 (0, 6) ∧ xIs g1 (g1.2 l0 9) (0, 5) ∧ xAr g1 (g1.2 (g1.2 l0 9) 11) l1 ∧ Q (some (xi (w1 (g1.2 (g1.2 l0 9) 11) (Int.toNat l1)))) g1 w1) ∧
      ((l2 = 3) → xIs g1 l0 (0, 6) ∧ xIs g1 (g1.2 l0 9) (0, 5) ∧ xAr g1 (g1.2 (g1.2 l0 9) 12) l1 ∧ Q (some (xi (w1 (g1.2 (g1.2 l0 9) 12) (Int.toNat l1)))) g1 w1) ∧
      ((l2 = 4) → xIs g1 l0 (0, 6) ∧ xIs g1 (g1.2 l0 11) (0, 3) ∧ xAr g1 (g1.2 (g1.2 l0 11) 9) l1 ∧ Q (some (xi (w1 (g1.2 (g1.2 l0 11) 9) (Int.toNat l1)))) g1 w1) ∧
      ((l2 = 5) → xIs g1 l0 (0, 6) ∧ xIs g1 (g1.2 l0 11) (0, 3) ∧ xAr g1 (g1.2 (g1.2 l0 11) 10) l1 ∧ Q (some (xi (w1 (g1.2 (g1.2 l0 11) 10) (Int.toNat l1)))) g1 w1) ∧
      ((l2 = 6) → xIs g1 l0 (0, 6) ∧ xIs g1 l0 (0, 6) ∧ xIs g1 (g1.2 l0 11) (0, 3) ∧ 
        cal d nSt_countOwned [xr (g1.2 l0 11), xr (g1.2 l0 9), xi l1] g1 w1 (fun r g3 w3 => ∃ v3 : Int, r = some (xi v3) ∧ Q (some (xi v3)) g3 w3)) ∧
      ((l2 = 7) → xIs g1 l0 (0, 6) ∧ xIs g1 (g1.2 l0 11) (0, 3) ∧ xAr g1 (g1.2 (g1.2 l0 11) 11) l1 ∧ Q (some (xi (w1 (g1.2 (g1.2 l0 11) 11) (Int.toNat l1)))) g1 w1) ∧ True) ∧
    ((v1 = 0) → Q (some (xi (-1000000001))) g1 w1))) :
    aFf_person d lim Q 0 [xr l0, xi l1, xi l2] [] g w := xAt_exec (cal_m d) kFf_person 16 t
theorem eFf_person {d : Nat} {Q : xQ} {l1 l2 : Int} {l0 : Nat} {g : xG} {w : xW} (t : ∀ (lim : Nat × Nat) (Q2 : xQ), (∀ r g2 w2, g2.1 = g.1 → Q r g2 w2 → Q2 r g2 w2) → aFf_person d lim Q2 0 [xr l0, xi l1, xi l2] [] g w) : cal (d + 1) nFf_person [xr l0, xi l1, xi l2] g w Q := t _ _ xQof
abbrev aFf_go (d : Nat) (lim : Nat × Nat) (Q : xQ) : xK := xAt xMks tFf_go (cal d) lim Q
def kFf_go : List (Nat × List Bool) := []
set_option maxRecDepth 20000 in
theorem wFf_go_0 {d : Nat} {lim : Nat × Nat} {Q : xQ} {l1 l2 : Int} {l0 : Nat} {g : xG} {w : xW} (t : xIs g l0 (0, 6) ∧ 
  cal d nFf_isPerson [xr l0, xi l1] g w (fun r g1 w1 => ∃ v1 : Int, r = some (xi v1) ∧ 
    ((¬ v1 = 0) → 
      ((l2 < 1) → Q (some (xi (-1000000002))) g1 w1) ∧
      ((1 ≤ l2) → 
        ((l2 ≤ 4) → xIs g1 l0 (0, 6) ∧ xIs g1 l0 (0, 6) ∧ xIs g1 l0 (0, 6) ∧ xIs g1 (g1.2 l0 11) (0, 3) ∧ xAr g1 (g1.2 (g1.2 l0 11) 7) l1 ∧ xIs g1 (g1.2 l0 11) (0, 3) ∧ 
          cal d nSt_reach [xr (g1.2 l0 11), xr (g1.2 l0 9), xi (w1 (g1.2 (g1.2 l0 11) 7) (Int.toNat l1)), xi l2] g1 w1 (fun r g2 w2 => ∃ v2 : Int, r = some (xi v2) ∧ 
            ((¬ v2 = (-1)) → xIs g2 l0 (0, 6) ∧ xIs g2 (g2.2 l0 11) (0, 3) ∧ xA1 g2 (g2.2 (g2.2 l0 11) 7) l1 ∧ xIs g2 l0 (0, 6) ∧ xIs g2 (g2.2 l0 9) (0, 5) ∧ 
              cal d nTw_pairOf [xr (g2.2 l0 9), xi v2] g2 (xup w2 (g2.2 (g2.2 l0 11) 7) (Int.toNat l1) v2) (fun r g3 w3 => ∃ v3 : Int, r = some (xi v3) ∧ Q (some (xi v3)) g3 w3)) ∧
            ((v2 = (-1)) → Q (some (xi (-1000000003))) g2 w2))) ∧
        ((4 < l2) → Q (some (xi (-1000000002))) g1 w1))) ∧
    ((v1 = 0) → Q (some (xi (-1000000001))) g1 w1))) :
    aFf_go d lim Q 0 [xr l0, xi l1, xi l2, none] [] g w := xAt_exec (cal_m d) kFf_go 37 t
theorem eFf_go {d : Nat} {Q : xQ} {l1 l2 : Int} {l0 : Nat} {g : xG} {w : xW} (t : ∀ (lim : Nat × Nat) (Q2 : xQ), (∀ r g2 w2, g2.1 = g.1 → Q r g2 w2 → Q2 r g2 w2) → aFf_go d lim Q2 0 [xr l0, xi l1, xi l2, none] [] g w) : cal (d + 1) nFf_go [xr l0, xi l1, xi l2] g w Q := t _ _ xQof
abbrev aFf_build (d : Nat) (lim : Nat × Nat) (Q : xQ) : xK := xAt xMks tFf_build (cal d) lim Q
def kFf_build : List (Nat × List Bool) := []
set_option maxRecDepth 20000 in
theorem wFf_build_0 {d : Nat} {lim : Nat × Nat} {Q : xQ} {l1 l2 l3 l4 : Int} {l0 : Nat} {g : xG} {w : xW} (t : xIs g l0 (0, 6) ∧ 
  cal d nFf_refusalOfWall [xr l0, xi l1, xi l2, xi l3] g w (fun r g1 w1 => ∃ v1 : Int, r = some (xi v1) ∧ 
    ((v1 = 0) → xIs g1 l0 (0, 6) ∧ xIs g1 (g1.2 l0 9) (0, 5) ∧ 
      cal d nTw_cellAt [xr (g1.2 l0 9), xi l1, xi l2] g1 w1 (fun r g2 w2 => ∃ v2 : Int, r = some (xi v2) ∧ xIs g2 l0 (0, 6) ∧ xIs g2 (g2.2 l0 11) (0, 3) ∧ 
        cal d nSt_wallOf [xr (g2.2 l0 11), xi v2, xi l3] g2 w2 (fun r g3 w3 => ∃ v3 : Int, r = some (xi v3) ∧ xIs g3 l0 (0, 6) ∧ xIs g3 l0 (0, 6) ∧ xIs g3 (g3.2 l0 11) (0, 3) ∧ 
          cal d nSt_setWall [xr (g3.2 l0 11), xr (g3.2 l0 9), xi v2, xi l3, xi l4] g3 w3 (fun r g4 w4 => r = none ∧ Q (some (xi v3)) g4 w4)))) ∧
    ((¬ v1 = 0) → Q (some (xi v1)) g1 w1))) :
    aFf_build d lim Q 0 [xr l0, xi l1, xi l2, xi l3, xi l4, none, none, none] [] g w := xAt_exec (cal_m d) kFf_build 31 t
theorem eFf_build {d : Nat} {Q : xQ} {l1 l2 l3 l4 : Int} {l0 : Nat} {g : xG} {w : xW} (t : ∀ (lim : Nat × Nat) (Q2 : xQ), (∀ r g2 w2, g2.1 = g.1 → Q r g2 w2 → Q2 r g2 w2) → aFf_build d lim Q2 0 [xr l0, xi l1, xi l2, xi l3, xi l4, none, none, none] [] g w) : cal (d + 1) nFf_build [xr l0, xi l1, xi l2, xi l3, xi l4] g w Q := t _ _ xQof
abbrev aFf_light (d : Nat) (lim : Nat × Nat) (Q : xQ) : xK := xAt xMks tFf_light (cal d) lim Q
def kFf_light : List (Nat × List Bool) := []
set_option maxRecDepth 20000 in
theorem wFf_light_0 {d : Nat} {lim : Nat × Nat} {Q : xQ} {l1 : Int} {l0 : Nat} {g : xG} {w : xW} (t : xIs g l0 (0, 6) ∧ 
  cal d nFf_isStove [xr l0, xi l1] g w (fun r g1 w1 => ∃ v1 : Int, r = some (xi v1) ∧ 
    ((¬ v1 = 0) → xIs g1 l0 (0, 6) ∧ xIs g1 (g1.2 l0 11) (0, 3) ∧ 
      cal d nSt_canBeLit [xr (g1.2 l0 11), xi l1] g1 w1 (fun r g2 w2 => ∃ v2 : Int, r = some (xi v2) ∧ 
        ((¬ v2 = 0) → xIs g2 l0 (0, 6) ∧ xIs g2 (g2.2 l0 11) (0, 3) ∧ xA1 g2 (g2.2 (g2.2 l0 11) 6) l1 ∧ xIs g2 l0 (0, 6) ∧ xIs g2 (g2.2 l0 11) (0, 3) ∧ xAr g2 (g2.2 (g2.2 l0 11) 5) l1 ∧ Q (some (xi ((xup w2 (g2.2 (g2.2 l0 11) 6) (Int.toNat l1) 1) (g2.2 (g2.2 l0 11) 5) (Int.toNat l1)))) g2 (xup w2 (g2.2 (g2.2 l0 11) 6) (Int.toNat l1) 1)) ∧
        ((v2 = 0) → Q (some (xi (-1000000003))) g2 w2))) ∧
    ((v1 = 0) → Q (some (xi (-1000000001))) g1 w1))) :
    aFf_light d lim Q 0 [xr l0, xi l1] [] g w := xAt_exec (cal_m d) kFf_light 22 t
theorem eFf_light {d : Nat} {Q : xQ} {l1 : Int} {l0 : Nat} {g : xG} {w : xW} (t : ∀ (lim : Nat × Nat) (Q2 : xQ), (∀ r g2 w2, g2.1 = g.1 → Q r g2 w2 → Q2 r g2 w2) → aFf_light d lim Q2 0 [xr l0, xi l1] [] g w) : cal (d + 1) nFf_light [xr l0, xi l1] g w Q := t _ _ xQof
abbrev aFf_stoke (d : Nat) (lim : Nat × Nat) (Q : xQ) : xK := xAt xMks tFf_stoke (cal d) lim Q
def kFf_stoke : List (Nat × List Bool) := []
set_option maxRecDepth 20000 in
theorem wFf_stoke_0 {d : Nat} {lim : Nat × Nat} {Q : xQ} {l1 l2 : Int} {l0 : Nat} {g : xG} {w : xW} (t : xIs g l0 (0, 6) ∧ 
  cal d nFf_isStove [xr l0, xi l1] g w (fun r g1 w1 => ∃ v1 : Int, r = some (xi v1) ∧ 
    ((¬ v1 = 0) → 
      ((l2 < 1) → Q (some (xi (-1000000002))) g1 w1) ∧
      ((1 ≤ l2) → 
        ((l2 ≤ 99) → xIs g1 l0 (0, 6) ∧ xIs g1 (g1.2 l0 11) (0, 3) ∧ xIs g1 l0 (0, 6) ∧ xIs g1 (g1.2 l0 11) (0, 3) ∧ xAr g1 (g1.2 (g1.2 l0 11) 5) l1 ∧ x32 ((w1 (g1.2 (g1.2 l0 11) 5) (Int.toNat l1)) + l2) ∧ xA1 g1 (g1.2 (g1.2 l0 11) 5) l1 ∧ xIs g1 l0 (0, 6) ∧ xIs g1 (g1.2 l0 11) (0, 3) ∧ xAr g1 (g1.2 (g1.2 l0 11) 5) l1 ∧ Q (some (xi ((xup w1 (g1.2 (g1.2 l0 11) 5) (Int.toNat l1) (min 999 ((w1 (g1.2 (g1.2 l0 11) 5) (Int.toNat l1)) + l2))) (g1.2 (g1.2 l0 11) 5) (Int.toNat l1)))) g1 (xup w1 (g1.2 (g1.2 l0 11) 5) (Int.toNat l1) (min 999 ((w1 (g1.2 (g1.2 l0 11) 5) (Int.toNat l1)) + l2)))) ∧
        ((99 < l2) → Q (some (xi (-1000000002))) g1 w1))) ∧
    ((v1 = 0) → Q (some (xi (-1000000001))) g1 w1))) :
    aFf_stoke d lim Q 0 [xr l0, xi l1, xi l2] [] g w := xAt_exec (cal_m d) kFf_stoke 31 t
theorem eFf_stoke {d : Nat} {Q : xQ} {l1 l2 : Int} {l0 : Nat} {g : xG} {w : xW} (t : ∀ (lim : Nat × Nat) (Q2 : xQ), (∀ r g2 w2, g2.1 = g.1 → Q r g2 w2 → Q2 r g2 w2) → aFf_stoke d lim Q2 0 [xr l0, xi l1, xi l2] [] g w) : cal (d + 1) nFf_stoke [xr l0, xi l1, xi l2] g w Q := t _ _ xQof
abbrev aFf_law (d : Nat) (lim : Nat × Nat) (Q : xQ) : xK := xAt xMks tFf_law (cal d) lim Q
def kFf_law : List (Nat × List Bool) := []
set_option maxRecDepth 20000 in
theorem wFf_law_0 {d : Nat} {lim : Nat × Nat} {Q : xQ} {l1 : Int} {l0 : Nat} {g : xG} {w : xW} (t : 
  cal d nFf_isLaw [xi l1] g w (fun r g1 w1 => ∃ v1 : Int, r = some (xi v1) ∧ 
    ((¬ v1 = 0) → xIs g1 l0 (0, 6) ∧ xIs g1 (g1.2 l0 11) (0, 3) ∧ xIs g1 l0 (0, 6) ∧ xIs g1 (g1.2 l0 11) (0, 3) ∧ Q (some (xi (w1 (g1.2 l0 11) 14))) g1 (xup w1 (g1.2 l0 11) 14 l1)) ∧
    ((v1 = 0) → Q (some (xi (-1000000002))) g1 w1))) :
    aFf_law d lim Q 0 [xr l0, xi l1, none] [] g w := xAt_exec (cal_m d) kFf_law 14 t
theorem eFf_law {d : Nat} {Q : xQ} {l1 : Int} {l0 : Nat} {g : xG} {w : xW} (t : ∀ (lim : Nat × Nat) (Q2 : xQ), (∀ r g2 w2, g2.1 = g.1 → Q r g2 w2 → Q2 r g2 w2) → aFf_law d lim Q2 0 [xr l0, xi l1, none] [] g w) : cal (d + 1) nFf_law [xr l0, xi l1] g w Q := t _ _ xQof
abbrev aFf_last (d : Nat) (lim : Nat × Nat) (Q : xQ) : xK := xAt xMks tFf_last (cal d) lim Q
def kFf_last : List (Nat × List Bool) := []
set_option maxRecDepth 20000 in
theorem wFf_last_0 {d : Nat} {lim : Nat × Nat} {Q : xQ} {l1 : Int} {l0 : Nat} {g : xG} {w : xW} (t : 
  ((l1 < 1) → Q (some (xi (-1000000002))) g w) ∧
  ((1 ≤ l1) → 
    ((l1 ≤ 20) → xIs g l0 (0, 6) ∧ xIs g (g.2 l0 11) (0, 3) ∧ xIs g l0 (0, 6) ∧ xIs g (g.2 l0 11) (0, 3) ∧ Q (some (xi (w (g.2 l0 11) 15))) g (xup w (g.2 l0 11) 15 l1)) ∧
    ((20 < l1) → Q (some (xi (-1000000002))) g w))) :
    aFf_last d lim Q 0 [xr l0, xi l1, none] [] g w := xAt_exec (cal_m d) kFf_last 17 t
theorem eFf_last {d : Nat} {Q : xQ} {l1 : Int} {l0 : Nat} {g : xG} {w : xW} (t : ∀ (lim : Nat × Nat) (Q2 : xQ), (∀ r g2 w2, g2.1 = g.1 → Q r g2 w2 → Q2 r g2 w2) → aFf_last d lim Q2 0 [xr l0, xi l1, none] [] g w) : cal (d + 1) nFf_last [xr l0, xi l1] g w Q := t _ _ xQof
abbrev aFf_minute (d : Nat) (lim : Nat × Nat) (Q : xQ) : xK := xAt xMks tFf_minute (cal d) lim Q
def kFf_minute : List (Nat × List Bool) := []
set_option maxRecDepth 20000 in
theorem wFf_minute_0 {d : Nat} {lim : Nat × Nat} {Q : xQ} {l1 : Int} {l0 : Nat} {g : xG} {w : xW} (t : xIs g l0 (0, 6) ∧ 
  cal d nFf_refusalOfMinutes [xr l0, xi l1] g w (fun r g1 w1 => ∃ v1 : Int, r = some (xi v1) ∧ 
    ((v1 = 0) → xIs g1 l0 (0, 6) ∧ xIs g1 l0 (0, 6) ∧ xIs g1 (g1.2 l0 11) (0, 3) ∧ 
      cal d nSt_passMinutes [xr (g1.2 l0 11), xr (g1.2 l0 9), xi l1, xi (-1)] g1 w1 (fun r g2 w2 => r = none ∧ xIs g2 l0 (0, 6) ∧ xIs g2 (g2.2 l0 11) (0, 3) ∧ Q (some (xi (w2 (g2.2 l0 11) 16))) g2 w2)) ∧
    ((¬ v1 = 0) → Q (some (xi v1)) g1 w1))) :
    aFf_minute d lim Q 0 [xr l0, xi l1, none] [] g w := xAt_exec (cal_m d) kFf_minute 18 t
theorem eFf_minute {d : Nat} {Q : xQ} {l1 : Int} {l0 : Nat} {g : xG} {w : xW} (t : ∀ (lim : Nat × Nat) (Q2 : xQ), (∀ r g2 w2, g2.1 = g.1 → Q r g2 w2 → Q2 r g2 w2) → aFf_minute d lim Q2 0 [xr l0, xi l1, none] [] g w) : cal (d + 1) nFf_minute [xr l0, xi l1] g w Q := t _ _ xQof
abbrev aFf_drift (d : Nat) (lim : Nat × Nat) (Q : xQ) : xK := xAt xMks tFf_drift (cal d) lim Q
def kFf_drift : List (Nat × List Bool) := [(14, [true, true, false, true])]
set_option maxRecDepth 20000 in
theorem wFf_drift_0 {d : Nat} {lim : Nat × Nat} {Q : xQ} {l1 : Int} {l0 : Nat} {g : xG} {w : xW} (t : xIs g l0 (0, 6) ∧ 
  cal d nFf_refusalOfMinutes [xr l0, xi l1] g w (fun r g1 w1 => ∃ v1 : Int, r = some (xi v1) ∧ 
    ((v1 = 0) → aFf_drift d lim Q 14 [xr l0, xi l1, none, xi 0] [] g1 w1) ∧
    ((¬ v1 = 0) → Q (some (xi v1)) g1 w1))) :
    aFf_drift d lim Q 0 [xr l0, xi l1, none, none] [] g w := xAt_exec (cal_m d) kFf_drift 9 t
set_option maxRecDepth 20000 in
theorem wFf_drift_14 {d : Nat} {lim : Nat × Nat} {Q : xQ} {l1 l3 : Int} {l0 : Nat} {g : xG} {w : xW} (t : 
  ((l1 ≤ l3) → xIs g l0 (0, 6) ∧ xIs g (g.2 l0 11) (0, 3) ∧ Q (some (xi (w (g.2 l0 11) 16))) g w) ∧
  ((l3 < l1) → xIs g l0 (0, 6) ∧ 
    cal d nFf_wander [xr l0] g w (fun r g1 w1 => r = none ∧ xIs g1 l0 (0, 6) ∧ xIs g1 l0 (0, 6) ∧ xIs g1 (g1.2 l0 11) (0, 3) ∧ 
      cal d nSt_passMinute [xr (g1.2 l0 11), xr (g1.2 l0 9), xi (-1)] g1 w1 (fun r g2 w2 => r = none ∧ x32 (l3 + 1) ∧ aFf_drift d lim Q 14 [xr l0, xi l1, none, xi (l3 + 1)] [] g2 w2)))) :
    aFf_drift d lim Q 14 [xr l0, xi l1, none, xi l3] [] g w := xAt_exec (cal_m d) kFf_drift 14 t
theorem eFf_drift {d : Nat} {Q : xQ} {l1 : Int} {l0 : Nat} {g : xG} {w : xW} (t : ∀ (lim : Nat × Nat) (Q2 : xQ), (∀ r g2 w2, g2.1 = g.1 → Q r g2 w2 → Q2 r g2 w2) → aFf_drift d lim Q2 0 [xr l0, xi l1, none, none] [] g w) : cal (d + 1) nFf_drift [xr l0, xi l1] g w Q := t _ _ xQof
abbrev aFf_then (d : Nat) (lim : Nat × Nat) (Q : xQ) : xK := xAt xMks tFf_then (cal d) lim Q
def kFf_then : List (Nat × List Bool) := []
set_option maxRecDepth 20000 in
theorem wFf_then_0 {d : Nat} {lim : Nat × Nat} {Q : xQ} {l1 l2 l3 l4 : Int} {l0 : Nat} {g : xG} {w : xW} (t : xIs g l0 (0, 6) ∧ xIs g (g.2 l0 9) (0, 5) ∧ 
  cal d nTw_cellAt [xr (g.2 l0 9), xi l1, xi l2] g w (fun r g1 w1 => ∃ v1 : Int, r = some (xi v1) ∧ 
    ((¬ v1 = (-1)) → 
      cal d nFf_isSpan [xi l3] g1 w1 (fun r g2 w2 => ∃ v2 : Int, r = some (xi v2) ∧ 
        ((v2 = 0) → Q (some (xi (-1000000002))) g2 w2) ∧
        ((¬ v2 = 0) → 
          ((l4 < 0) → Q (some (xi (-1000000002))) g2 w2) ∧
          ((0 ≤ l4) → 
            ((l4 ≤ 1) → xIs g2 l0 (0, 6) ∧ xIs g2 l0 (0, 6) ∧ xIs g2 (g2.2 l0 5) (0, 3) ∧ 
              cal d nSt_copyFrom [xr (g2.2 l0 5), xr (g2.2 l0 11)] g2 w2 (fun r g3 w3 => r = none ∧ xIs g3 l0 (0, 6) ∧ xIs g3 l0 (0, 6) ∧ xIs g3 (g3.2 l0 5) (0, 3) ∧ 
                cal d nSt_passMinutes [xr (g3.2 l0 5), xr (g3.2 l0 9), xi l3, xi (-1)] g3 w3 (fun r g4 w4 => r = none ∧ 
                  ((¬ l4 = 0) → xIs g4 l0 (0, 6) ∧ xIs g4 (g4.2 l0 5) (0, 3) ∧ xAr g4 (g4.2 (g4.2 l0 5) 2) v1 ∧ Q (some (xi (w4 (g4.2 (g4.2 l0 5) 2) (Int.toNat v1)))) g4 w4) ∧
                  ((l4 = 0) → xIs g4 l0 (0, 6) ∧ xIs g4 (g4.2 l0 5) (0, 3) ∧ xAr g4 (g4.2 (g4.2 l0 5) 0) v1 ∧ Q (some (xi (w4 (g4.2 (g4.2 l0 5) 0) (Int.toNat v1)))) g4 w4)))) ∧
            ((1 < l4) → Q (some (xi (-1000000002))) g2 w2))))) ∧
    ((v1 = (-1)) → Q (some (xi (-1000000001))) g1 w1))) :
    aFf_then d lim Q 0 [xr l0, xi l1, xi l2, xi l3, xi l4, none] [] g w := xAt_exec (cal_m d) kFf_then 39 t
theorem eFf_then {d : Nat} {Q : xQ} {l1 l2 l3 l4 : Int} {l0 : Nat} {g : xG} {w : xW} (t : ∀ (lim : Nat × Nat) (Q2 : xQ), (∀ r g2 w2, g2.1 = g.1 → Q r g2 w2 → Q2 r g2 w2) → aFf_then d lim Q2 0 [xr l0, xi l1, xi l2, xi l3, xi l4, none] [] g w) : cal (d + 1) nFf_then [xr l0, xi l1, xi l2, xi l3, xi l4] g w Q := t _ _ xQof
abbrev aFf_stands (d : Nat) (lim : Nat × Nat) (Q : xQ) : xK := xAt xMks tFf_stands (cal d) lim Q
def kFf_stands : List (Nat × List Bool) := [(40, [true, true, true, true])]
set_option maxRecDepth 20000 in
theorem wFf_stands_0 {d : Nat} {lim : Nat × Nat} {Q : xQ} {l1 l2 l3 : Int} {l0 : Nat} {g : xG} {w : xW} (t : xIs g l0 (0, 6) ∧ 
  cal d nFf_isPerson [xr l0, xi l1] g w (fun r g1 w1 => ∃ v1 : Int, r = some (xi v1) ∧ 
    ((¬ v1 = 0) → 
      ((l2 < 1) → Q (some (xi (-1000000002))) g1 w1) ∧
      ((1 ≤ l2) → 
        ((l2 ≤ 5) → 
          ((l3 = (-1)) → aFf_stands d lim Q 40 [xr l0, xi l1, xi l2, xi l3] [] g1 w1) ∧
          ((¬ l3 = (-1)) → 
            ((l3 < 0) → Q (some (xi (-1))) g1 w1) ∧
            ((0 ≤ l3) → 
              ((l3 < l2) → aFf_stands d lim Q 40 [xr l0, xi l1, xi l2, xi l3] [] g1 w1) ∧
              ((l2 ≤ l3) → Q (some (xi (-1))) g1 w1)))) ∧
        ((5 < l2) → Q (some (xi (-1000000002))) g1 w1))) ∧
    ((v1 = 0) → Q (some (xi (-1000000001))) g1 w1))) :
    aFf_stands d lim Q 0 [xr l0, xi l1, xi l2, xi l3] [] g w := xAt_exec (cal_m d) kFf_stands 21 t
set_option maxRecDepth 20000 in
theorem wFf_stands_40 {d : Nat} {lim : Nat × Nat} {Q : xQ} {l1 l2 l3 : Int} {l0 : Nat} {g : xG} {w : xW} (t : xIs g l0 (0, 6) ∧ xIs g l0 (0, 6) ∧ xIs g l0 (0, 6) ∧ xIs g (g.2 l0 7) (0, 4) ∧ 
  cal d nTo_begin [xr (g.2 l0 7), xr (g.2 l0 9), xr (g.2 l0 11), xi l1, xi l2] g w (fun r g1 w1 => r = none ∧ xIs g1 l0 (0, 6) ∧ 
    cal d nFf_tryWays [xr (g1.2 l0 7), xi 0] g1 w1 (fun r g2 w2 => r = none ∧ 
      ((¬ l3 = (-1)) → xIs g2 l0 (0, 6) ∧ xIs g2 (g2.2 l0 7) (0, 4) ∧ xAr g2 (g2.2 (g2.2 l0 7) 2) l3 ∧ Q (some (xi (w2 (g2.2 (g2.2 l0 7) 2) (Int.toNat l3)))) g2 w2) ∧
      ((l3 = (-1)) → xIs g2 l0 (0, 6) ∧ xIs g2 (g2.2 l0 7) (0, 4) ∧ Q (some (xi (w2 (g2.2 l0 7) 6))) g2 w2)))) :
    aFf_stands d lim Q 40 [xr l0, xi l1, xi l2, xi l3] [] g w := xAt_exec (cal_m d) kFf_stands 23 t
theorem eFf_stands {d : Nat} {Q : xQ} {l1 l2 l3 : Int} {l0 : Nat} {g : xG} {w : xW} (t : ∀ (lim : Nat × Nat) (Q2 : xQ), (∀ r g2 w2, g2.1 = g.1 → Q r g2 w2 → Q2 r g2 w2) → aFf_stands d lim Q2 0 [xr l0, xi l1, xi l2, xi l3] [] g w) : cal (d + 1) nFf_stands [xr l0, xi l1, xi l2, xi l3] g w Q := t _ _ xQof
abbrev aFf_lightFor (d : Nat) (lim : Nat × Nat) (Q : xQ) : xK := xAt xMks tFf_lightFor (cal d) lim Q
def kFf_lightFor : List (Nat × List Bool) := [(31, [true, true, true, true, false, true])]
set_option maxRecDepth 20000 in
theorem wFf_lightFor_0 {d : Nat} {lim : Nat × Nat} {Q : xQ} {l1 l2 l3 : Int} {l0 : Nat} {g : xG} {w : xW} (t : xIs g l0 (0, 6) ∧ 
  cal d nFf_refusalOfLighting [xr l0, xi l1, xi l2, xi l3] g w (fun r g1 w1 => ∃ v1 : Int, r = some (xi v1) ∧ 
    ((v1 = 0) → xIs g1 l0 (0, 6) ∧ xIs g1 l0 (0, 6) ∧ xIs g1 (g1.2 l0 6) (0, 3) ∧ 
      cal d nSt_copyFrom [xr (g1.2 l0 6), xr (g1.2 l0 11)] g1 w1 (fun r g2 w2 => r = none ∧ aFf_lightFor d lim Q 31 [xr l0, xi l1, xi l2, xi l3, none, xi 0] [] g2 w2)) ∧
    ((¬ v1 = 0) → Q (some (xi v1)) g1 w1))) :
    aFf_lightFor d lim Q 0 [xr l0, xi l1, xi l2, xi l3, none, none] [] g w := xAt_exec (cal_m d) kFf_lightFor 16 t
set_option maxRecDepth 20000 in
theorem wFf_lightFor_31 {d : Nat} {lim : Nat × Nat} {Q : xQ} {l1 l2 l3 l5 : Int} {l0 : Nat} {g : xG} {w : xW} (t : 
  ((l3 < l5) → Q (some (xi (-1))) g w) ∧
  ((l5 ≤ l3) → xIs g l0 (0, 6) ∧ x32 (l3 - l5) ∧ xIs g l0 (0, 6) ∧ 
    cal d nFf_ownsStove [xr l0, xr (g.2 l0 6), xi l1, xi l2, xi (l3 - l5), xi (-1)] g w (fun r g1 w1 => ∃ v1 : Int, r = some (xi v1) ∧ 
      ((v1 = 0) → xIs g1 l0 (0, 6) ∧ xIs g1 l0 (0, 6) ∧ xIs g1 (g1.2 l0 6) (0, 3) ∧ 
        cal d nSt_passMinute [xr (g1.2 l0 6), xr (g1.2 l0 9), xi (-1)] g1 w1 (fun r g2 w2 => r = none ∧ x32 (l5 + 1) ∧ aFf_lightFor d lim Q 31 [xr l0, xi l1, xi l2, xi l3, none, xi (l5 + 1)] [] g2 w2)) ∧
      ((¬ v1 = 0) → Q (some (xi l5)) g1 w1)))) :
    aFf_lightFor d lim Q 31 [xr l0, xi l1, xi l2, xi l3, none, xi l5] [] g w := xAt_exec (cal_m d) kFf_lightFor 23 t
theorem eFf_lightFor {d : Nat} {Q : xQ} {l1 l2 l3 : Int} {l0 : Nat} {g : xG} {w : xW} (t : ∀ (lim : Nat × Nat) (Q2 : xQ), (∀ r g2 w2, g2.1 = g.1 → Q r g2 w2 → Q2 r g2 w2) → aFf_lightFor d lim Q2 0 [xr l0, xi l1, xi l2, xi l3, none, none] [] g w) : cal (d + 1) nFf_lightFor [xr l0, xi l1, xi l2, xi l3] g w Q := t _ _ xQof
abbrev aFf_keptOut (d : Nat) (lim : Nat × Nat) (Q : xQ) : xK := xAt xMks tFf_keptOut (cal d) lim Q
def kFf_keptOut : List (Nat × List Bool) := [(37, [true, true, true, true, false, true])]
set_option maxRecDepth 20000 in
theorem wFf_keptOut_0 {d : Nat} {lim : Nat × Nat} {Q : xQ} {l1 l2 l3 : Int} {l0 : Nat} {g : xG} {w : xW} (t : xIs g l0 (0, 6) ∧ 
  cal d nFf_refusalOfLighting [xr l0, xi l1, xi l2, xi l3] g w (fun r g1 w1 => ∃ v1 : Int, r = some (xi v1) ∧ 
    ((v1 = 0) → xIs g1 l0 (0, 6) ∧ xIs g1 l0 (0, 6) ∧ 
      cal d nFf_ownsStove [xr l0, xr (g1.2 l0 11), xi l1, xi l2, xi l3, xi (-1)] g1 w1 (fun r g2 w2 => ∃ v2 : Int, r = some (xi v2) ∧ 
        ((v2 = 0) → aFf_keptOut d lim Q 37 [xr l0, xi l1, xi l2, xi l3, none, xi 0] [] g2 w2) ∧
        ((¬ v2 = 0) → Q (some (xi (-1))) g2 w2))) ∧
    ((¬ v1 = 0) → Q (some (xi v1)) g1 w1))) :
    aFf_keptOut d lim Q 0 [xr l0, xi l1, xi l2, xi l3, none, none] [] g w := xAt_exec (cal_m d) kFf_keptOut 20 t
set_option maxRecDepth 20000 in
theorem wFf_keptOut_37 {d : Nat} {lim : Nat × Nat} {Q : xQ} {l1 l2 l3 l5 : Int} {l0 : Nat} {g : xG} {w : xW} (t : xIs g l0 (0, 6) ∧ xIs g (g.2 l0 9) (0, 5) ∧ 
  (((w (g.2 l0 9) 5) ≤ l5) → Q (some (xi (-1))) g w) ∧
  ((l5 < (w (g.2 l0 9) 5)) → 
    ((l5 = l1) → x32 (l5 + 1) ∧ aFf_keptOut d lim Q 37 [xr l0, xi l1, xi l2, xi l3, none, xi (l5 + 1)] [] g w) ∧
    ((¬ l5 = l1) → xIs g l0 (0, 6) ∧ xIs g l0 (0, 6) ∧ 
      cal d nFf_ownsStove [xr l0, xr (g.2 l0 11), xi l1, xi l2, xi l3, xi l5] g w (fun r g1 w1 => ∃ v1 : Int, r = some (xi v1) ∧ 
        ((v1 = 0) → x32 (l5 + 1) ∧ aFf_keptOut d lim Q 37 [xr l0, xi l1, xi l2, xi l3, none, xi (l5 + 1)] [] g1 w1) ∧
        ((¬ v1 = 0) → Q (some (xi l5)) g1 w1))))) :
    aFf_keptOut d lim Q 37 [xr l0, xi l1, xi l2, xi l3, none, xi l5] [] g w := xAt_exec (cal_m d) kFf_keptOut 20 t
theorem eFf_keptOut {d : Nat} {Q : xQ} {l1 l2 l3 : Int} {l0 : Nat} {g : xG} {w : xW} (t : ∀ (lim : Nat × Nat) (Q2 : xQ), (∀ r g2 w2, g2.1 = g.1 → Q r g2 w2 → Q2 r g2 w2) → aFf_keptOut d lim Q2 0 [xr l0, xi l1, xi l2, xi l3, none, none] [] g w) : cal (d + 1) nFf_keptOut [xr l0, xi l1, xi l2, xi l3] g w Q := t _ _ xQof
abbrev aFf_gain (d : Nat) (lim : Nat × Nat) (Q : xQ) : xK := xAt xMks tFf_gain (cal d) lim Q
def kFf_gain : List (Nat × List Bool) := []
set_option maxRecDepth 20000 in
theorem wFf_gain_0 {d : Nat} {lim : Nat × Nat} {Q : xQ} {l1 l2 l3 l4 l5 : Int} {l0 : Nat} {g : xG} {w : xW} (t : xIs g l0 (0, 6) ∧ 
  cal d nFf_isPerson [xr l0, xi l1] g w (fun r g1 w1 => ∃ v1 : Int, r = some (xi v1) ∧ 
    ((¬ v1 = 0) → xIs g1 l0 (0, 6) ∧ 
      cal d nFf_refusalOfWall [xr l0, xi l2, xi l3, xi l4] g1 w1 (fun r g2 w2 => ∃ v2 : Int, r = some (xi v2) ∧ 
        ((v2 = 0) → 
          cal d nFf_isSpan [xi l5] g2 w2 (fun r g3 w3 => ∃ v3 : Int, r = some (xi v3) ∧ 
            ((¬ v3 = 0) → xIs g3 l0 (0, 6) ∧ xIs g3 (g3.2 l0 9) (0, 5) ∧ 
              cal d nTw_cellAt [xr (g3.2 l0 9), xi l2, xi l3] g3 w3 (fun r g4 w4 => ∃ v4 : Int, r = some (xi v4) ∧ xIs g4 l0 (0, 6) ∧ 
                cal d nFf_ownedWithWall [xr l0, xi l1, xi v4, xi l4, xi l5, xi 1] g4 w4 (fun r g5 w5 => ∃ v5 : Int, r = some (xi v5) ∧ xIs g5 l0 (0, 6) ∧ 
                  cal d nFf_ownedWithWall [xr l0, xi l1, xi v4, xi l4, xi l5, xi 0] g5 w5 (fun r g6 w6 => ∃ v6 : Int, r = some (xi v6) ∧ x32 (v5 - v6) ∧ Q (some (xi (v5 - v6))) g6 w6)))) ∧
            ((v3 = 0) → Q (some (xi (-1000000002))) g3 w3))) ∧
        ((¬ v2 = 0) → Q (some (xi v2)) g2 w2))) ∧
    ((v1 = 0) → Q (some (xi (-1000000001))) g1 w1))) :
    aFf_gain d lim Q 0 [xr l0, xi l1, xi l2, xi l3, xi l4, xi l5, none, none] [] g w := xAt_exec (cal_m d) kFf_gain 38 t
theorem eFf_gain {d : Nat} {Q : xQ} {l1 l2 l3 l4 l5 : Int} {l0 : Nat} {g : xG} {w : xW} (t : ∀ (lim : Nat × Nat) (Q2 : xQ), (∀ r g2 w2, g2.1 = g.1 → Q r g2 w2 → Q2 r g2 w2) → aFf_gain d lim Q2 0 [xr l0, xi l1, xi l2, xi l3, xi l4, xi l5, none, none] [] g w) : cal (d + 1) nFf_gain [xr l0, xi l1, xi l2, xi l3, xi l4, xi l5] g w Q := t _ _ xQof
abbrev aFf_rents (d : Nat) (lim : Nat × Nat) (Q : xQ) : xK := xAt xMks tFf_rents (cal d) lim Q
def kFf_rents : List (Nat × List Bool) := [(16, [true, true, false])]
set_option maxRecDepth 20000 in
theorem wFf_rents_0 {d : Nat} {lim : Nat × Nat} {Q : xQ} {l1 : Int} {l0 : Nat} {g : xG} {w : xW} (t : 
  ((l1 = (-1)) → aFf_rents d lim Q 16 [xr l0, xi l1, none] [] g w) ∧
  ((¬ l1 = (-1)) → xIs g l0 (0, 6) ∧ 
    cal d nFf_isPerson [xr l0, xi l1] g w (fun r g1 w1 => ∃ v1 : Int, r = some (xi v1) ∧ 
      ((¬ v1 = 0) → aFf_rents d lim Q 16 [xr l0, xi l1, none] [] g1 w1) ∧
      ((v1 = 0) → Q (some (xi (-1000000001))) g1 w1)))) :
    aFf_rents d lim Q 0 [xr l0, xi l1, none] [] g w := xAt_exec (cal_m d) kFf_rents 10 t
set_option maxRecDepth 20000 in
theorem wFf_rents_16 {d : Nat} {lim : Nat × Nat} {Q : xQ} {l1 : Int} {l0 : Nat} {g : xG} {w : xW} (t : xIs g l0 (0, 6) ∧ xIs g l0 (0, 6) ∧ xIs g l0 (0, 6) ∧ xIs g (g.2 l0 8) (0, 0) ∧ 
  cal d nMk_settle [xr (g.2 l0 8), xr (g.2 l0 9), xr (g.2 l0 11)] g w (fun r g1 w1 => ∃ v1 : Int, r = some (xi v1) ∧ 
    ((l1 = (-1)) → Q (some (xi v1)) g1 w1) ∧
    ((¬ l1 = (-1)) → 
      ((¬ v1 = (-1)) → xIs g1 l0 (0, 6) ∧ xIs g1 (g1.2 l0 8) (0, 0) ∧ xAr g1 (g1.2 (g1.2 l0 8) 0) l1 ∧ Q (some (xi (w1 (g1.2 (g1.2 l0 8) 0) (Int.toNat l1)))) g1 w1) ∧
      ((v1 = (-1)) → Q (some (xi v1)) g1 w1)))) :
    aFf_rents d lim Q 16 [xr l0, xi l1, none] [] g w := xAt_exec (cal_m d) kFf_rents 21 t
theorem eFf_rents {d : Nat} {Q : xQ} {l1 : Int} {l0 : Nat} {g : xG} {w : xW} (t : ∀ (lim : Nat × Nat) (Q2 : xQ), (∀ r g2 w2, g2.1 = g.1 → Q r g2 w2 → Q2 r g2 w2) → aFf_rents d lim Q2 0 [xr l0, xi l1, none] [] g w) : cal (d + 1) nFf_rents [xr l0, xi l1] g w Q := t _ _ xQof
abbrev aFf_claim (d : Nat) (lim : Nat × Nat) (Q : xQ) : xK := xAt xMks tFf_claim (cal d) lim Q
def kFf_claim : List (Nat × List Bool) := []
set_option maxRecDepth 20000 in
theorem wFf_claim_0 {d : Nat} {lim : Nat × Nat} {Q : xQ} {l1 l2 l3 : Int} {l0 : Nat} {g : xG} {w : xW} (t : xIs g l0 (0, 6) ∧ xIs g (g.2 l0 9) (0, 5) ∧ 
  cal d nTw_cellOfPair [xr (g.2 l0 9), xi l2] g w (fun r g1 w1 => ∃ v1 : Int, r = some (xi v1) ∧ xIs g1 l0 (0, 6) ∧ 
    cal d nFf_isPerson [xr l0, xi l1] g1 w1 (fun r g2 w2 => ∃ v2 : Int, r = some (xi v2) ∧ 
      ((v2 = 0) → Q (some (xi (-1000000001))) g2 w2) ∧
      ((¬ v2 = 0) → 
        ((¬ v1 = (-1)) → 
          ((l3 < 0) → Q (some (xi (-1000000002))) g2 w2) ∧
          ((0 ≤ l3) → 
            ((l3 < 60) → xIs g2 l0 (0, 6) ∧ xIs g2 (g2.2 l0 1) (0, 1) ∧ 
              cal d nPp_write [xr (g2.2 l0 1), xi l1, xi v1, xi l3] g2 w2 (fun r g3 w3 => ∃ v3 : Int, r = some (xi v3) ∧ 
                ((v3 = 0) → Q (some (xi (-1000000004))) g3 w3) ∧
                ((¬ v3 = 0) → xIs g3 l0 (0, 6) ∧ xIs g3 (g3.2 l0 1) (0, 1) ∧ Q (some (xi (w3 (g3.2 l0 1) 3))) g3 w3))) ∧
            ((60 ≤ l3) → Q (some (xi (-1000000002))) g2 w2))) ∧
        ((v1 = (-1)) → Q (some (xi (-1000000001))) g2 w2))))) :
    aFf_claim d lim Q 0 [xr l0, xi l1, xi l2, xi l3, none] [] g w := xAt_exec (cal_m d) kFf_claim 30 t
theorem eFf_claim {d : Nat} {Q : xQ} {l1 l2 l3 : Int} {l0 : Nat} {g : xG} {w : xW} (t : ∀ (lim : Nat × Nat) (Q2 : xQ), (∀ r g2 w2, g2.1 = g.1 → Q r g2 w2 → Q2 r g2 w2) → aFf_claim d lim Q2 0 [xr l0, xi l1, xi l2, xi l3, none] [] g w) : cal (d + 1) nFf_claim [xr l0, xi l1, xi l2, xi l3] g w Q := t _ _ xQof
abbrev aFf_forged (d : Nat) (lim : Nat × Nat) (Q : xQ) : xK := xAt xMks tFf_forged (cal d) lim Q
def kFf_forged : List (Nat × List Bool) := [(23, [true, true, true, true])]
set_option maxRecDepth 20000 in
theorem wFf_forged_0 {d : Nat} {lim : Nat × Nat} {Q : xQ} {l0 : Nat} {g : xG} {w : xW} (t : xIs g l0 (0, 6) ∧ xIs g (g.2 l0 1) (0, 1) ∧ 
  cal d nPp_latest [xr (g.2 l0 1)] g w (fun r g1 w1 => ∃ v1 : Int, r = some (xi v1) ∧ xIs g1 l0 (0, 6) ∧ xIs g1 l0 (0, 6) ∧ xIs g1 (g1.2 l0 5) (0, 3) ∧ 
    cal d nSt_copyFrom [xr (g1.2 l0 5), xr (g1.2 l0 11)] g1 w1 (fun r g2 w2 => r = none ∧ aFf_forged d lim Q 23 [xr l0, xi 0, xi v1, xi 0] [] g2 w2))) :
    aFf_forged d lim Q 0 [xr l0, none, none, none] [] g w := xAt_exec (cal_m d) kFf_forged 14 t
set_option maxRecDepth 20000 in
theorem wFf_forged_23 {d : Nat} {lim : Nat × Nat} {Q : xQ} {l1 l2 l3 : Int} {l0 : Nat} {g : xG} {w : xW} (t : 
  ((l2 < l3) → Q (some (xi l1)) g w) ∧
  ((l3 ≤ l2) → xIs g l0 (0, 6) ∧ xIs g l0 (0, 6) ∧ xIs g (g.2 l0 5) (0, 3) ∧ 
    cal d nSt_passMinute [xr (g.2 l0 5), xr (g.2 l0 9), xi (-1)] g w (fun r g1 w1 => r = none ∧ xIs g1 l0 (0, 6) ∧ xIs g1 l0 (0, 6) ∧ xIs g1 (g1.2 l0 1) (0, 1) ∧ 
      cal d nPp_notFeltAt [xr (g1.2 l0 1), xi l3, xr (g1.2 l0 5)] g1 w1 (fun r g2 w2 => ∃ v2 : Int, r = some (xi v2) ∧ x32 (l3 + 1) ∧ aFf_forged d lim Q 23 [xr l0, xi (xOr l1 v2), xi l2, xi (l3 + 1)] [] g2 w2)))) :
    aFf_forged d lim Q 23 [xr l0, xi l1, xi l2, xi l3] [] g w := xAt_exec (cal_m d) kFf_forged 21 t
theorem eFf_forged {d : Nat} {Q : xQ} {l0 : Nat} {g : xG} {w : xW} (t : ∀ (lim : Nat × Nat) (Q2 : xQ), (∀ r g2 w2, g2.1 = g.1 → Q r g2 w2 → Q2 r g2 w2) → aFf_forged d lim Q2 0 [xr l0, none, none, none] [] g w) : cal (d + 1) nFf_forged [xr l0] g w Q := t _ _ xQof
abbrev aFf_cold (d : Nat) (lim : Nat × Nat) (Q : xQ) : xK := xAt xMks tFf_cold (cal d) lim Q
def kFf_cold : List (Nat × List Bool) := []
set_option maxRecDepth 20000 in
theorem wFf_cold_0 {d : Nat} {lim : Nat × Nat} {Q : xQ} {l1 l2 : Int} {l0 : Nat} {g : xG} {w : xW} (t : 
  cal d nFf_isLaw [xi l1] g w (fun r g1 w1 => ∃ v1 : Int, r = some (xi v1) ∧ 
    ((v1 = 0) → Q (some (xi (-1000000002))) g1 w1) ∧
    ((¬ v1 = 0) → 
      cal d nFf_isSpan [xi l2] g1 w1 (fun r g2 w2 => ∃ v2 : Int, r = some (xi v2) ∧ 
        ((v2 = 0) → Q (some (xi (-1000000002))) g2 w2) ∧
        ((¬ v2 = 0) → xIs g2 l0 (0, 6) ∧ 
          cal d nFf_countFreezing [xr l0, xi l1, xi l2] g2 w2 (fun r g3 w3 => ∃ v3 : Int, r = some (xi v3) ∧ Q (some (xi v3)) g3 w3)))))) :
    aFf_cold d lim Q 0 [xr l0, xi l1, xi l2] [] g w := xAt_exec (cal_m d) kFf_cold 13 t
theorem eFf_cold {d : Nat} {Q : xQ} {l1 l2 : Int} {l0 : Nat} {g : xG} {w : xW} (t : ∀ (lim : Nat × Nat) (Q2 : xQ), (∀ r g2 w2, g2.1 = g.1 → Q r g2 w2 → Q2 r g2 w2) → aFf_cold d lim Q2 0 [xr l0, xi l1, xi l2] [] g w) : cal (d + 1) nFf_cold [xr l0, xi l1, xi l2] g w Q := t _ _ xQof
abbrev aFf_mildest (d : Nat) (lim : Nat × Nat) (Q : xQ) : xK := xAt xMks tFf_mildest (cal d) lim Q
def kFf_mildest : List (Nat × List Bool) := [(22, [true, true, true, true, true, false])]
set_option maxRecDepth 20000 in
theorem wFf_mildest_0 {d : Nat} {lim : Nat × Nat} {Q : xQ} {l1 : Int} {l0 : Nat} {g : xG} {w : xW} (t : 
  cal d nFf_isSpan [xi l1] g w (fun r g1 w1 => ∃ v1 : Int, r = some (xi v1) ∧ 
    ((¬ v1 = 0) → xIs g1 l0 (0, 6) ∧ 
      cal d nFf_countFreezing [xr l0, xi 0, xi l1] g1 w1 (fun r g2 w2 => ∃ v2 : Int, r = some (xi v2) ∧ aFf_mildest d lim Q 22 [xr l0, xi l1, xi 0, xi v2, xi 1, none] [] g2 w2)) ∧
    ((v1 = 0) → Q (some (xi (-1000000002))) g1 w1))) :
    aFf_mildest d lim Q 0 [xr l0, xi l1, none, none, none, none] [] g w := xAt_exec (cal_m d) kFf_mildest 13 t
set_option maxRecDepth 20000 in
theorem wFf_mildest_22 {d : Nat} {lim : Nat × Nat} {Q : xQ} {l1 l2 l3 l4 : Int} {l0 : Nat} {g : xG} {w : xW} (t : 
  ((3 < l4) → Q (some (xi l2)) g w) ∧
  ((l4 ≤ 3) → xIs g l0 (0, 6) ∧ 
    cal d nFf_countFreezing [xr l0, xi l4, xi l1] g w (fun r g1 w1 => ∃ v1 : Int, r = some (xi v1) ∧ 
      ((l3 ≤ v1) → x32 (l4 + 1) ∧ aFf_mildest d lim Q 22 [xr l0, xi l1, xi l2, xi l3, xi (l4 + 1), none] [] g1 w1) ∧
      ((v1 < l3) → x32 (l4 + 1) ∧ aFf_mildest d lim Q 22 [xr l0, xi l1, xi l4, xi v1, xi (l4 + 1), none] [] g1 w1)))) :
    aFf_mildest d lim Q 22 [xr l0, xi l1, xi l2, xi l3, xi l4, none] [] g w := xAt_exec (cal_m d) kFf_mildest 18 t
theorem eFf_mildest {d : Nat} {Q : xQ} {l1 : Int} {l0 : Nat} {g : xG} {w : xW} (t : ∀ (lim : Nat × Nat) (Q2 : xQ), (∀ r g2 w2, g2.1 = g.1 → Q r g2 w2 → Q2 r g2 w2) → aFf_mildest d lim Q2 0 [xr l0, xi l1, none, none, none, none] [] g w) : cal (d + 1) nFf_mildest [xr l0, xi l1] g w Q := t _ _ xQof
abbrev aFf_deed (d : Nat) (lim : Nat × Nat) (Q : xQ) : xK := xAt xMks tFf_deed (cal d) lim Q
def kFf_deed : List (Nat × List Bool) := []
set_option maxRecDepth 20000 in
theorem wFf_deed_0 {d : Nat} {lim : Nat × Nat} {Q : xQ} {l1 l2 l3 : Int} {l0 : Nat} {g : xG} {w : xW} (t : xIs g l0 (0, 6) ∧ xIs g (g.2 l0 9) (0, 5) ∧ 
  cal d nTw_cellOfPair [xr (g.2 l0 9), xi l2] g w (fun r g1 w1 => ∃ v1 : Int, r = some (xi v1) ∧ xIs g1 l0 (0, 6) ∧ 
    cal d nFf_isPerson [xr l0, xi l1] g1 w1 (fun r g2 w2 => ∃ v2 : Int, r = some (xi v2) ∧ 
      ((v2 = 0) → Q (some (xi (-1000000001))) g2 w2) ∧
      ((¬ v2 = 0) → 
        ((¬ v1 = (-1)) → 
          cal d nFf_isSpan [xi l3] g2 w2 (fun r g3 w3 => ∃ v3 : Int, r = some (xi v3) ∧ 
            ((¬ v3 = 0) → xIs g3 l0 (0, 6) ∧ xIs g3 (g3.2 l0 2) (0, 1) ∧ 
              cal d nPp_write [xr (g3.2 l0 2), xi l1, xi v1, xi l3] g3 w3 (fun r g4 w4 => ∃ v4 : Int, r = some (xi v4) ∧ 
                ((v4 = 0) → Q (some (xi (-1000000004))) g4 w4) ∧
                ((¬ v4 = 0) → xIs g4 l0 (0, 6) ∧ xIs g4 (g4.2 l0 2) (0, 1) ∧ Q (some (xi (w4 (g4.2 l0 2) 3))) g4 w4))) ∧
            ((v3 = 0) → Q (some (xi (-1000000002))) g3 w3))) ∧
        ((v1 = (-1)) → Q (some (xi (-1000000001))) g2 w2))))) :
    aFf_deed d lim Q 0 [xr l0, xi l1, xi l2, xi l3, none] [] g w := xAt_exec (cal_m d) kFf_deed 28 t
theorem eFf_deed {d : Nat} {Q : xQ} {l1 l2 l3 : Int} {l0 : Nat} {g : xG} {w : xW} (t : ∀ (lim : Nat × Nat) (Q2 : xQ), (∀ r g2 w2, g2.1 = g.1 → Q r g2 w2 → Q2 r g2 w2) → aFf_deed d lim Q2 0 [xr l0, xi l1, xi l2, xi l3, none] [] g w) : cal (d + 1) nFf_deed [xr l0, xi l1, xi l2, xi l3] g w Q := t _ _ xQof
abbrev aFf_wasLit (d : Nat) (lim : Nat × Nat) (Q : xQ) : xK := xAt xMks tFf_wasLit (cal d) lim Q
def kFf_wasLit : List (Nat × List Bool) := [(41, [true, true, true, true, true]), (69, [true, true, true, true, true]), (108, [false, false, true, true, false])]
set_option maxRecDepth 20000 in
theorem wFf_wasLit_0 {d : Nat} {lim : Nat × Nat} {Q : xQ} {l1 l2 : Int} {l0 : Nat} {g : xG} {w : xW} (t : xIs g l0 (0, 6) ∧ 
  cal d nFf_isStove [xr l0, xi l1] g w (fun r g1 w1 => ∃ v1 : Int, r = some (xi v1) ∧ 
    ((¬ v1 = 0) → xIs g1 l0 (0, 6) ∧ xIs g1 (g1.2 l0 11) (0, 3) ∧ 
      cal d nSt_canBeLit [xr (g1.2 l0 11), xi l1] g1 w1 (fun r g2 w2 => ∃ v2 : Int, r = some (xi v2) ∧ 
        ((¬ v2 = 0) → xIs g2 l0 (0, 6) ∧ xIs g2 l0 (0, 6) ∧ xIs g2 (g2.2 l0 6) (0, 3) ∧ 
          cal d nSt_copyFrom [xr (g2.2 l0 6), xr (g2.2 l0 11)] g2 w2 (fun r g3 w3 => r = none ∧ aFf_wasLit d lim Q 41 [xr l0, xi l1, xi l2, xi 0, xi 0] [] g3 w3)) ∧
        ((v2 = 0) → Q (some (xi (-1000000003))) g2 w2))) ∧
    ((v1 = 0) → Q (some (xi (-1000000001))) g1 w1))) :
    aFf_wasLit d lim Q 0 [xr l0, xi l1, xi l2, none, none] [] g w := xAt_exec (cal_m d) kFf_wasLit 19 t
set_option maxRecDepth 20000 in
theorem wFf_wasLit_41 {d : Nat} {lim : Nat × Nat} {Q : xQ} {l1 l2 l3 l4 : Int} {l0 : Nat} {g : xG} {w : xW} (t : 
  ((60 ≤ l4) → aFf_wasLit d lim Q 108 [none, none, xi l2, xi l3, none] [] g w) ∧
  ((l4 < 60) → xIs g l0 (0, 6) ∧ 
    cal d nFf_fitsLitNow [xr l0, xi l1, xi l4] g w (fun r g1 w1 => ∃ v1 : Int, r = some (xi v1) ∧ 
      ((v1 = 0) → aFf_wasLit d lim Q 69 [xr l0, xi l1, xi l2, xi l3, xi l4] [] g1 w1) ∧
      ((¬ v1 = 0) → 
        ((¬ l3 = l2) → x32 (l3 + 1) ∧ aFf_wasLit d lim Q 69 [xr l0, xi l1, xi l2, xi (l3 + 1), xi l4] [] g1 w1) ∧
        ((l3 = l2) → Q (some (xi l4)) g1 w1))))) :
    aFf_wasLit d lim Q 41 [xr l0, xi l1, xi l2, xi l3, xi l4] [] g w := xAt_exec (cal_m d) kFf_wasLit 14 t
set_option maxRecDepth 20000 in
theorem wFf_wasLit_69 {d : Nat} {lim : Nat × Nat} {Q : xQ} {l1 l2 l3 l4 : Int} {l0 : Nat} {g : xG} {w : xW} (t : xIs g l0 (0, 6) ∧ xIs g l0 (0, 6) ∧ xIs g (g.2 l0 6) (0, 3) ∧ 
  cal d nSt_passMinute [xr (g.2 l0 6), xr (g.2 l0 9), xi (-1)] g w (fun r g1 w1 => r = none ∧ xIs g1 l0 (0, 6) ∧ x32 (l4 + 1) ∧ xIs g1 l0 (0, 6) ∧ xIs g1 (g1.2 l0 2) (0, 1) ∧ 
    cal d nPp_ownedAt [xr (g1.2 l0 2), xi (l4 + 1), xr (g1.2 l0 6)] g1 w1 (fun r g2 w2 => ∃ v2 : Int, r = some (xi v2) ∧ 
      ((¬ v2 = 0) → x32 (l4 + 1) ∧ aFf_wasLit d lim Q 41 [xr l0, xi l1, xi l2, xi l3, xi (l4 + 1)] [] g2 w2) ∧
      ((v2 = 0) → aFf_wasLit d lim Q 108 [none, none, xi l2, xi l3, none] [] g2 w2)))) :
    aFf_wasLit d lim Q 69 [xr l0, xi l1, xi l2, xi l3, xi l4] [] g w := xAt_exec (cal_m d) kFf_wasLit 18 t
set_option maxRecDepth 20000 in
theorem wFf_wasLit_108 {d : Nat} {lim : Nat × Nat} {Q : xQ} {l2 l3 : Int} {g : xG} {w : xW} (t : 
  ((¬ l2 = (-1)) → Q (some (xi (-1))) g w) ∧
  ((l2 = (-1)) → Q (some (xi l3)) g w)) :
    aFf_wasLit d lim Q 108 [none, none, xi l2, xi l3, none] [] g w := xAt_exec (cal_m d) kFf_wasLit 7 t
theorem eFf_wasLit {d : Nat} {Q : xQ} {l1 l2 : Int} {l0 : Nat} {g : xG} {w : xW} (t : ∀ (lim : Nat × Nat) (Q2 : xQ), (∀ r g2 w2, g2.1 = g.1 → Q r g2 w2 → Q2 r g2 w2) → aFf_wasLit d lim Q2 0 [xr l0, xi l1, xi l2, none, none] [] g w) : cal (d + 1) nFf_wasLit [xr l0, xi l1, xi l2] g w Q := t _ _ xQof
abbrev aFf_tear (d : Nat) (lim : Nat × Nat) (Q : xQ) : xK := xAt xMks tFf_tear (cal d) lim Q
def kFf_tear : List (Nat × List Bool) := [(24, [true, true])]
set_option maxRecDepth 20000 in
theorem wFf_tear_0 {d : Nat} {lim : Nat × Nat} {Q : xQ} {l0 : Nat} {g : xG} {w : xW} (t : xIs g l0 (0, 6) ∧ xIs g (g.2 l0 1) (0, 1) ∧ xIs g l0 (0, 6) ∧ xIs g (g.2 l0 2) (0, 1) ∧ x32 ((w (g.2 l0 1) 3) + (w (g.2 l0 2) 3)) ∧ xIs g l0 (0, 6) ∧ xIs g (g.2 l0 1) (0, 1) ∧ aFf_tear d lim Q 24 [xr l0, xi ((w (g.2 l0 1) 3) + (w (g.2 l0 2) 3))] [] g (xup w (g.2 l0 1) 3 0)) :
    aFf_tear d lim Q 0 [xr l0, none] [] g w := xAt_exec (cal_m d) kFf_tear 13 t
set_option maxRecDepth 20000 in
theorem wFf_tear_24 {d : Nat} {lim : Nat × Nat} {Q : xQ} {l1 : Int} {l0 : Nat} {g : xG} {w : xW} (t : xIs g l0 (0, 6) ∧ xIs g (g.2 l0 2) (0, 1) ∧ Q (some (xi l1)) g (xup w (g.2 l0 2) 3 0)) :
    aFf_tear d lim Q 24 [xr l0, xi l1] [] g w := xAt_exec (cal_m d) kFf_tear 7 t
theorem eFf_tear {d : Nat} {Q : xQ} {l0 : Nat} {g : xG} {w : xW} (t : ∀ (lim : Nat × Nat) (Q2 : xQ), (∀ r g2 w2, g2.1 = g.1 → Q r g2 w2 → Q2 r g2 w2) → aFf_tear d lim Q2 0 [xr l0, none] [] g w) : cal (d + 1) nFf_tear [xr l0] g w Q := t _ _ xQof
abbrev aFf_seed (d : Nat) (lim : Nat × Nat) (Q : xQ) : xK := xAt xMks tFf_seed (cal d) lim Q
def kFf_seed : List (Nat × List Bool) := []
set_option maxRecDepth 20000 in
theorem wFf_seed_0 {d : Nat} {lim : Nat × Nat} {Q : xQ} {l1 : Int} {l0 : Nat} {g : xG} {w : xW} (t : 
  ((0 ≤ l1) → xIs g l0 (0, 6) ∧ xIs g (g.2 l0 11) (0, 3) ∧ xIs g l0 (0, 6) ∧ xIs g (g.2 l0 11) (0, 3) ∧ Q (some (xi (w (g.2 l0 11) 17))) g (xup w (g.2 l0 11) 17 l1)) ∧
  ((l1 < 0) → Q (some (xi (-1000000002))) g w)) :
    aFf_seed d lim Q 0 [xr l0, xi l1, none] [] g w := xAt_exec (cal_m d) kFf_seed 13 t
theorem eFf_seed {d : Nat} {Q : xQ} {l1 : Int} {l0 : Nat} {g : xG} {w : xW} (t : ∀ (lim : Nat × Nat) (Q2 : xQ), (∀ r g2 w2, g2.1 = g.1 → Q r g2 w2 → Q2 r g2 w2) → aFf_seed d lim Q2 0 [xr l0, xi l1, none] [] g w) : cal (d + 1) nFf_seed [xr l0, xi l1] g w Q := t _ _ xQof
abbrev aFf_keep (d : Nat) (lim : Nat × Nat) (Q : xQ) : xK := xAt xMks tFf_keep (cal d) lim Q
def kFf_keep : List (Nat × List Bool) := []
set_option maxRecDepth 20000 in
theorem wFf_keep_0 {d : Nat} {lim : Nat × Nat} {Q : xQ} {l1 : Int} {l0 : Nat} {g : xG} {w : xW} (t : 
  ((l1 < 0) → Q (some (xi (-1000000001))) g w) ∧
  ((0 ≤ l1) → 
    ((l1 < 2) → xIs g l0 (0, 6) ∧ xA3 g (g.2 l0 3) l1 ∧ xIs g l0 (0, 6) ∧ xIs g (g.2 (g.2 l0 3) (Int.toNat l1)) (0, 3) ∧ 
      cal d nSt_copyFrom [xr (g.2 (g.2 l0 3) (Int.toNat l1)), xr (g.2 l0 11)] g w (fun r g1 w1 => r = none ∧ xIs g1 l0 (0, 6) ∧ xA1 g1 (g1.2 l0 4) l1 ∧ Q (some (xi 1)) g1 (xup w1 (g1.2 l0 4) (Int.toNat l1) 1))) ∧
    ((2 ≤ l1) → Q (some (xi (-1000000001))) g w))) :
    aFf_keep d lim Q 0 [xr l0, xi l1] [] g w := xAt_exec (cal_m d) kFf_keep 20 t
theorem eFf_keep {d : Nat} {Q : xQ} {l1 : Int} {l0 : Nat} {g : xG} {w : xW} (t : ∀ (lim : Nat × Nat) (Q2 : xQ), (∀ r g2 w2, g2.1 = g.1 → Q r g2 w2 → Q2 r g2 w2) → aFf_keep d lim Q2 0 [xr l0, xi l1] [] g w) : cal (d + 1) nFf_keep [xr l0, xi l1] g w Q := t _ _ xQof
abbrev aFf_goBack (d : Nat) (lim : Nat × Nat) (Q : xQ) : xK := xAt xMks tFf_goBack (cal d) lim Q
def kFf_goBack : List (Nat × List Bool) := []
set_option maxRecDepth 20000 in
theorem wFf_goBack_0 {d : Nat} {lim : Nat × Nat} {Q : xQ} {l1 : Int} {l0 : Nat} {g : xG} {w : xW} (t : 
  ((l1 < 0) → Q (some (xi (-1000000001))) g w) ∧
  ((0 ≤ l1) → 
    ((l1 < 2) → xIs g l0 (0, 6) ∧ xAr g (g.2 l0 4) l1 ∧ 
      ((¬ (w (g.2 l0 4) (Int.toNat l1)) = 0) → xIs g l0 (0, 6) ∧ xIs g l0 (0, 6) ∧ xA3 g (g.2 l0 3) l1 ∧ xIs g (g.2 l0 11) (0, 3) ∧ 
        cal d nSt_copyFrom [xr (g.2 l0 11), xr (g.2 (g.2 l0 3) (Int.toNat l1))] g w (fun r g1 w1 => r = none ∧ Q (some (xi 1)) g1 w1)) ∧
      (((w (g.2 l0 4) (Int.toNat l1)) = 0) → Q (some (xi (-1000000003))) g w)) ∧
    ((2 ≤ l1) → Q (some (xi (-1000000001))) g w))) :
    aFf_goBack d lim Q 0 [xr l0, xi l1] [] g w := xAt_exec (cal_m d) kFf_goBack 20 t
theorem eFf_goBack {d : Nat} {Q : xQ} {l1 : Int} {l0 : Nat} {g : xG} {w : xW} (t : ∀ (lim : Nat × Nat) (Q2 : xQ), (∀ r g2 w2, g2.1 = g.1 → Q r g2 w2 → Q2 r g2 w2) → aFf_goBack d lim Q2 0 [xr l0, xi l1] [] g w) : cal (d + 1) nFf_goBack [xr l0, xi l1] g w Q := t _ _ xQof
abbrev aFf_isPerson (d : Nat) (lim : Nat × Nat) (Q : xQ) : xK := xAt xMks tFf_isPerson (cal d) lim Q
def kFf_isPerson : List (Nat × List Bool) := []
set_option maxRecDepth 20000 in
theorem wFf_isPerson_0 {d : Nat} {lim : Nat × Nat} {Q : xQ} {l1 : Int} {l0 : Nat} {g : xG} {w : xW} (t : 
  ((l1 < 0) → ((0 : Int) = 0 ∨ (0 : Int) = 1) ∧ Q (some (xi 0)) g w) ∧
  ((0 ≤ l1) → xIs g l0 (0, 6) ∧ xIs g (g.2 l0 9) (0, 5) ∧ 
    (((w (g.2 l0 9) 5) ≤ l1) → ((0 : Int) = 0 ∨ (0 : Int) = 1) ∧ Q (some (xi 0)) g w) ∧
    ((l1 < (w (g.2 l0 9) 5)) → ((1 : Int) = 0 ∨ (1 : Int) = 1) ∧ Q (some (xi 1)) g w))) :
    aFf_isPerson d lim Q 0 [xr l0, xi l1] [] g w := xAt_exec (cal_m d) kFf_isPerson 11 t
theorem eFf_isPerson {d : Nat} {Q : xQ} {l1 : Int} {l0 : Nat} {g : xG} {w : xW} (t : ∀ (lim : Nat × Nat) (Q2 : xQ), (∀ r g2 w2, g2.1 = g.1 → Q r g2 w2 → Q2 r g2 w2) → aFf_isPerson d lim Q2 0 [xr l0, xi l1] [] g w) : cal (d + 1) nFf_isPerson [xr l0, xi l1] g w Q := t _ _ xQof
abbrev aFf_isStove (d : Nat) (lim : Nat × Nat) (Q : xQ) : xK := xAt xMks tFf_isStove (cal d) lim Q
def kFf_isStove : List (Nat × List Bool) := []
set_option maxRecDepth 20000 in
theorem wFf_isStove_0 {d : Nat} {lim : Nat × Nat} {Q : xQ} {l1 : Int} {l0 : Nat} {g : xG} {w : xW} (t : 
  ((l1 < 0) → ((0 : Int) = 0 ∨ (0 : Int) = 1) ∧ Q (some (xi 0)) g w) ∧
  ((0 ≤ l1) → xIs g l0 (0, 6) ∧ xIs g (g.2 l0 9) (0, 5) ∧ 
    (((w (g.2 l0 9) 2) ≤ l1) → ((0 : Int) = 0 ∨ (0 : Int) = 1) ∧ Q (some (xi 0)) g w) ∧
    ((l1 < (w (g.2 l0 9) 2)) → ((1 : Int) = 0 ∨ (1 : Int) = 1) ∧ Q (some (xi 1)) g w))) :
    aFf_isStove d lim Q 0 [xr l0, xi l1] [] g w := xAt_exec (cal_m d) kFf_isStove 11 t
theorem eFf_isStove {d : Nat} {Q : xQ} {l1 : Int} {l0 : Nat} {g : xG} {w : xW} (t : ∀ (lim : Nat × Nat) (Q2 : xQ), (∀ r g2 w2, g2.1 = g.1 → Q r g2 w2 → Q2 r g2 w2) → aFf_isStove d lim Q2 0 [xr l0, xi l1] [] g w) : cal (d + 1) nFf_isStove [xr l0, xi l1] g w Q := t _ _ xQof
abbrev aFf_isLaw (d : Nat) (lim : Nat × Nat) (Q : xQ) : xK := xAt xMks tFf_isLaw (cal d) lim Q
def kFf_isLaw : List (Nat × List Bool) := []
set_option maxRecDepth 20000 in
theorem wFf_isLaw_0 {d : Nat} {lim : Nat × Nat} {Q : xQ} {l0 : Int} {g : xG} {w : xW} (t : 
  ((l0 < 0) → ((0 : Int) = 0 ∨ (0 : Int) = 1) ∧ Q (some (xi 0)) g w) ∧
  ((0 ≤ l0) → 
    ((3 < l0) → ((0 : Int) = 0 ∨ (0 : Int) = 1) ∧ Q (some (xi 0)) g w) ∧
    ((l0 ≤ 3) → ((1 : Int) = 0 ∨ (1 : Int) = 1) ∧ Q (some (xi 1)) g w))) :
    aFf_isLaw d lim Q 0 [xi l0] [] g w := xAt_exec (cal_m d) kFf_isLaw 9 t
theorem eFf_isLaw {d : Nat} {Q : xQ} {l0 : Int} {g : xG} {w : xW} (t : ∀ (lim : Nat × Nat) (Q2 : xQ), (∀ r g2 w2, g2.1 = g.1 → Q r g2 w2 → Q2 r g2 w2) → aFf_isLaw d lim Q2 0 [xi l0] [] g w) : cal (d + 1) nFf_isLaw [xi l0] g w Q := t _ _ xQof
abbrev aFf_isSpan (d : Nat) (lim : Nat × Nat) (Q : xQ) : xK := xAt xMks tFf_isSpan (cal d) lim Q
def kFf_isSpan : List (Nat × List Bool) := []
set_option maxRecDepth 20000 in
theorem wFf_isSpan_0 {d : Nat} {lim : Nat × Nat} {Q : xQ} {l0 : Int} {g : xG} {w : xW} (t : 
  ((l0 < 1) → ((0 : Int) = 0 ∨ (0 : Int) = 1) ∧ Q (some (xi 0)) g w) ∧
  ((1 ≤ l0) → 
    ((60 < l0) → ((0 : Int) = 0 ∨ (0 : Int) = 1) ∧ Q (some (xi 0)) g w) ∧
    ((l0 ≤ 60) → ((1 : Int) = 0 ∨ (1 : Int) = 1) ∧ Q (some (xi 1)) g w))) :
    aFf_isSpan d lim Q 0 [xi l0] [] g w := xAt_exec (cal_m d) kFf_isSpan 10 t
theorem eFf_isSpan {d : Nat} {Q : xQ} {l0 : Int} {g : xG} {w : xW} (t : ∀ (lim : Nat × Nat) (Q2 : xQ), (∀ r g2 w2, g2.1 = g.1 → Q r g2 w2 → Q2 r g2 w2) → aFf_isSpan d lim Q2 0 [xi l0] [] g w) : cal (d + 1) nFf_isSpan [xi l0] g w Q := t _ _ xQof
abbrev aFf_refusalOfWall (d : Nat) (lim : Nat × Nat) (Q : xQ) : xK := xAt xMks tFf_refusalOfWall (cal d) lim Q
def kFf_refusalOfWall : List (Nat × List Bool) := []
set_option maxRecDepth 20000 in
theorem wFf_refusalOfWall_0 {d : Nat} {lim : Nat × Nat} {Q : xQ} {l1 l2 l3 : Int} {l0 : Nat} {g : xG} {w : xW} (t : xIs g l0 (0, 6) ∧ xIs g (g.2 l0 9) (0, 5) ∧ 
  cal d nTw_cellAt [xr (g.2 l0 9), xi l1, xi l2] g w (fun r g1 w1 => ∃ v1 : Int, r = some (xi v1) ∧ 
    ((¬ v1 = (-1)) → 
      ((l3 < 0) → Q (some (xi (-1000000002))) g1 w1) ∧
      ((0 ≤ l3) → 
        ((l3 ≤ 1) → xIs g1 l0 (0, 6) ∧ 
          cal d nFf_wayOfWall [xi l3] g1 w1 (fun r g2 w2 => ∃ v2 : Int, r = some (xi v2) ∧ xIs g2 (g1.2 l0 9) (0, 5) ∧ 
            cal d nTw_beside [xr (g1.2 l0 9), xi v1, xi v2] g2 w2 (fun r g3 w3 => ∃ v3 : Int, r = some (xi v3) ∧ 
              ((¬ v3 = (-1)) → Q (some (xi 0)) g3 w3) ∧
              ((v3 = (-1)) → Q (some (xi (-1000000001))) g3 w3)))) ∧
        ((1 < l3) → Q (some (xi (-1000000002))) g1 w1))) ∧
    ((v1 = (-1)) → Q (some (xi (-1000000001))) g1 w1))) :
    aFf_refusalOfWall d lim Q 0 [xr l0, xi l1, xi l2, xi l3, none] [] g w := xAt_exec (cal_m d) kFf_refusalOfWall 26 t
theorem eFf_refusalOfWall {d : Nat} {Q : xQ} {l1 l2 l3 : Int} {l0 : Nat} {g : xG} {w : xW} (t : ∀ (lim : Nat × Nat) (Q2 : xQ), (∀ r g2 w2, g2.1 = g.1 → Q r g2 w2 → Q2 r g2 w2) → aFf_refusalOfWall d lim Q2 0 [xr l0, xi l1, xi l2, xi l3, none] [] g w) : cal (d + 1) nFf_refusalOfWall [xr l0, xi l1, xi l2, xi l3] g w Q := t _ _ xQof
abbrev aFf_refusalOfMinutes (d : Nat) (lim : Nat × Nat) (Q : xQ) : xK := xAt xMks tFf_refusalOfMinutes (cal d) lim Q
def kFf_refusalOfMinutes : List (Nat × List Bool) := []
set_option maxRecDepth 20000 in
theorem wFf_refusalOfMinutes_0 {d : Nat} {lim : Nat × Nat} {Q : xQ} {l1 : Int} {l0 : Nat} {g : xG} {w : xW} (t : 
  cal d nFf_isSpan [xi l1] g w (fun r g1 w1 => ∃ v1 : Int, r = some (xi v1) ∧ 
    ((¬ v1 = 0) → xIs g1 l0 (0, 6) ∧ xIs g1 (g1.2 l0 9) (0, 5) ∧ 
      cal d nTw_cells [xr (g1.2 l0 9)] g1 w1 (fun r g2 w2 => ∃ v2 : Int, r = some (xi v2) ∧ 
        ((¬ v2 = 0) → xIs g2 l0 (0, 6) ∧ xIs g2 (g2.2 l0 11) (0, 3) ∧ 
          (((w2 (g2.2 l0 11) 16) ≤ 900000) → Q (some (xi 0)) g2 w2) ∧
          ((900000 < (w2 (g2.2 l0 11) 16)) → Q (some (xi (-1000000004))) g2 w2)) ∧
        ((v2 = 0) → Q (some (xi (-1000000003))) g2 w2))) ∧
    ((v1 = 0) → Q (some (xi (-1000000002))) g1 w1))) :
    aFf_refusalOfMinutes d lim Q 0 [xr l0, xi l1] [] g w := xAt_exec (cal_m d) kFf_refusalOfMinutes 16 t
theorem eFf_refusalOfMinutes {d : Nat} {Q : xQ} {l1 : Int} {l0 : Nat} {g : xG} {w : xW} (t : ∀ (lim : Nat × Nat) (Q2 : xQ), (∀ r g2 w2, g2.1 = g.1 → Q r g2 w2 → Q2 r g2 w2) → aFf_refusalOfMinutes d lim Q2 0 [xr l0, xi l1] [] g w) : cal (d + 1) nFf_refusalOfMinutes [xr l0, xi l1] g w Q := t _ _ xQof
abbrev aFf_refusalOfLighting (d : Nat) (lim : Nat × Nat) (Q : xQ) : xK := xAt xMks tFf_refusalOfLighting (cal d) lim Q
def kFf_refusalOfLighting : List (Nat × List Bool) := []
set_option maxRecDepth 20000 in
theorem wFf_refusalOfLighting_0 {d : Nat} {lim : Nat × Nat} {Q : xQ} {l1 l2 l3 : Int} {l0 : Nat} {g : xG} {w : xW} (t : xIs g l0 (0, 6) ∧ 
  cal d nFf_isPerson [xr l0, xi l1] g w (fun r g1 w1 => ∃ v1 : Int, r = some (xi v1) ∧ 
    ((v1 = 0) → Q (some (xi (-1000000001))) g1 w1) ∧
    ((¬ v1 = 0) → xIs g1 l0 (0, 6) ∧ 
      cal d nFf_isStove [xr l0, xi l2] g1 w1 (fun r g2 w2 => ∃ v2 : Int, r = some (xi v2) ∧ 
        ((¬ v2 = 0) → 
          ((l3 < 1) → Q (some (xi (-1000000002))) g2 w2) ∧
          ((1 ≤ l3) → 
            ((l3 ≤ 30) → xIs g2 l0 (0, 6) ∧ xIs g2 (g2.2 l0 11) (0, 3) ∧ 
              cal d nSt_canBeLit [xr (g2.2 l0 11), xi l2] g2 w2 (fun r g3 w3 => ∃ v3 : Int, r = some (xi v3) ∧ 
                ((v3 = 0) → Q (some (xi (-1000000003))) g3 w3) ∧
                ((¬ v3 = 0) → Q (some (xi 0)) g3 w3))) ∧
            ((30 < l3) → Q (some (xi (-1000000002))) g2 w2))) ∧
        ((v2 = 0) → Q (some (xi (-1000000001))) g2 w2))))) :
    aFf_refusalOfLighting d lim Q 0 [xr l0, xi l1, xi l2, xi l3] [] g w := xAt_exec (cal_m d) kFf_refusalOfLighting 23 t
theorem eFf_refusalOfLighting {d : Nat} {Q : xQ} {l1 l2 l3 : Int} {l0 : Nat} {g : xG} {w : xW} (t : ∀ (lim : Nat × Nat) (Q2 : xQ), (∀ r g2 w2, g2.1 = g.1 → Q r g2 w2 → Q2 r g2 w2) → aFf_refusalOfLighting d lim Q2 0 [xr l0, xi l1, xi l2, xi l3] [] g w) : cal (d + 1) nFf_refusalOfLighting [xr l0, xi l1, xi l2, xi l3] g w Q := t _ _ xQof
abbrev aFf_wayOfWall (d : Nat) (lim : Nat × Nat) (Q : xQ) : xK := xAt xMks tFf_wayOfWall (cal d) lim Q
def kFf_wayOfWall : List (Nat × List Bool) := []
set_option maxRecDepth 20000 in
theorem wFf_wayOfWall_0 {d : Nat} {lim : Nat × Nat} {Q : xQ} {l0 : Int} {g : xG} {w : xW} (t : 
  ((¬ l0 = 0) → Q (some (xi 3)) g w) ∧
  ((l0 = 0) → Q (some (xi 2)) g w)) :
    aFf_wayOfWall d lim Q 0 [xi l0] [] g w := xAt_exec (cal_m d) kFf_wayOfWall 6 t
theorem eFf_wayOfWall {d : Nat} {Q : xQ} {l0 : Int} {g : xG} {w : xW} (t : ∀ (lim : Nat × Nat) (Q2 : xQ), (∀ r g2 w2, g2.1 = g.1 → Q r g2 w2 → Q2 r g2 w2) → aFf_wayOfWall d lim Q2 0 [xi l0] [] g w) : cal (d + 1) nFf_wayOfWall [xi l0] g w Q := t _ _ xQof
abbrev aFf_wander (d : Nat) (lim : Nat × Nat) (Q : xQ) : xK := xAt xMks tFf_wander (cal d) lim Q
def kFf_wander : List (Nat × List Bool) := [(2, [true, true, false])]
set_option maxRecDepth 20000 in
theorem wFf_wander_0 {d : Nat} {lim : Nat × Nat} {Q : xQ} {l0 : Nat} {g : xG} {w : xW} (t : aFf_wander d lim Q 2 [xr l0, xi 0, none] [] g w) :
    aFf_wander d lim Q 0 [xr l0, none, none] [] g w := xAt_exec (cal_m d) kFf_wander 3 t
set_option maxRecDepth 20000 in
theorem wFf_wander_2 {d : Nat} {lim : Nat × Nat} {Q : xQ} {l1 : Int} {l0 : Nat} {g : xG} {w : xW} (t : xIs g l0 (0, 6) ∧ xIs g (g.2 l0 9) (0, 5) ∧ 
  (((w (g.2 l0 9) 5) ≤ l1) → xIs g l0 (0, 6) ∧ xIs g (g.2 l0 11) (0, 3) ∧ 
    cal d nSt_draw [xr (g.2 l0 11), xi 20] g w (fun r g1 w1 => ∃ v1 : Int, r = some (xi v1) ∧ 
      ((¬ v1 = 0) → Q none g1 w1) ∧
      ((v1 = 0) → xIs g1 l0 (0, 6) ∧ xIs g1 (g1.2 l0 9) (0, 5) ∧ 
        (((w1 (g1.2 l0 9) 2) ≤ 0) → Q none g1 w1) ∧
        ((0 < (w1 (g1.2 l0 9) 2)) → xIs g1 l0 (0, 6) ∧ xIs g1 l0 (0, 6) ∧ xIs g1 (g1.2 l0 9) (0, 5) ∧ xIs g1 (g1.2 l0 11) (0, 3) ∧ 
          cal d nSt_draw [xr (g1.2 l0 11), xi (w1 (g1.2 l0 9) 2)] g1 w1 (fun r g2 w2 => ∃ v2 : Int, r = some (xi v2) ∧ xIs g2 l0 (0, 6) ∧ xIs g2 (g2.2 l0 11) (0, 3) ∧ 
            cal d nSt_canBeLit [xr (g2.2 l0 11), xi v2] g2 w2 (fun r g3 w3 => ∃ v3 : Int, r = some (xi v3) ∧ 
              ((v3 = 0) → Q none g3 w3) ∧
              ((¬ v3 = 0) → xIs g3 l0 (0, 6) ∧ xIs g3 (g3.2 l0 11) (0, 3) ∧ xA1 g3 (g3.2 (g3.2 l0 11) 6) v2 ∧ Q none g3 (xup w3 (g3.2 (g3.2 l0 11) 6) (Int.toNat v2) 1)))))))) ∧
  ((l1 < (w (g.2 l0 9) 5)) → xIs g l0 (0, 6) ∧ xIs g l0 (0, 6) ∧ xIs g l0 (0, 6) ∧ xIs g (g.2 l0 11) (0, 3) ∧ xAr g (g.2 (g.2 l0 11) 7) l1 ∧ xIs g l0 (0, 6) ∧ xIs g (g.2 l0 11) (0, 3) ∧ 
    cal d nSt_draw [xr (g.2 l0 11), xi 5] g w (fun r g4 w4 => ∃ v4 : Int, r = some (xi v4) ∧ xIs g4 (g.2 l0 11) (0, 3) ∧ 
      cal d nSt_reach [xr (g.2 l0 11), xr (g.2 l0 9), xi (w (g.2 (g.2 l0 11) 7) (Int.toNat l1)), xi v4] g4 w4 (fun r g5 w5 => ∃ v5 : Int, r = some (xi v5) ∧ 
        ((v5 = (-1)) → x32 (l1 + 1) ∧ aFf_wander d lim Q 2 [xr l0, xi (l1 + 1), none] [] g5 w5) ∧
        ((¬ v5 = (-1)) → xIs g5 l0 (0, 6) ∧ xIs g5 (g5.2 l0 11) (0, 3) ∧ xA1 g5 (g5.2 (g5.2 l0 11) 7) l1 ∧ x32 (l1 + 1) ∧ aFf_wander d lim Q 2 [xr l0, xi (l1 + 1), none] [] g5 (xup w5 (g5.2 (g5.2 l0 11) 7) (Int.toNat l1) v5)))))) :
    aFf_wander d lim Q 2 [xr l0, xi l1, none] [] g w := xAt_exec (cal_m d) kFf_wander 34 t
theorem eFf_wander {d : Nat} {Q : xQ} {l0 : Nat} {g : xG} {w : xW} (t : ∀ (lim : Nat × Nat) (Q2 : xQ), (∀ r g2 w2, g2.1 = g.1 → Q r g2 w2 → Q2 r g2 w2) → aFf_wander d lim Q2 0 [xr l0, none, none] [] g w) : cal (d + 1) nFf_wander [xr l0] g w Q := t _ _ xQof
abbrev aFf_ownsStove (d : Nat) (lim : Nat × Nat) (Q : xQ) : xK := xAt xMks tFf_ownsStove (cal d) lim Q
def kFf_ownsStove : List (Nat × List Bool) := []
set_option maxRecDepth 20000 in
theorem wFf_ownsStove_0 {d : Nat} {lim : Nat × Nat} {Q : xQ} {l2 l3 l4 l5 : Int} {l0 l1 : Nat} {g : xG} {w : xW} (t : xIs g l0 (0, 6) ∧ xIs g (g.2 l0 5) (0, 3) ∧ 
  cal d nSt_copyFrom [xr (g.2 l0 5), xr l1] g w (fun r g1 w1 => r = none ∧ xIs g1 l0 (0, 6) ∧ xIs g1 (g1.2 l0 5) (0, 3) ∧ xA1 g1 (g1.2 (g1.2 l0 5) 6) l3 ∧ xIs g1 l0 (0, 6) ∧ xIs g1 l0 (0, 6) ∧ xIs g1 (g1.2 l0 5) (0, 3) ∧ 
    cal d nSt_passMinutes [xr (g1.2 l0 5), xr (g1.2 l0 9), xi l4, xi l5] g1 (xup w1 (g1.2 (g1.2 l0 5) 6) (Int.toNat l3) 1) (fun r g2 w2 => r = none ∧ xIs g2 l0 (0, 6) ∧ xIs g2 (g2.2 l0 5) (0, 3) ∧ xIs g2 l0 (0, 6) ∧ xIs g2 (g2.2 l0 9) (0, 5) ∧ xAr g2 (g2.2 (g2.2 l0 9) 9) l3 ∧ xAr g2 (g2.2 (g2.2 l0 5) 2) (w2 (g2.2 (g2.2 l0 9) 9) (Int.toNat l3)) ∧ 
      ((¬ (w2 (g2.2 (g2.2 l0 5) 2) (Int.toNat (w2 (g2.2 (g2.2 l0 9) 9) (Int.toNat l3)))) = l2) → ((0 : Int) = 0 ∨ (0 : Int) = 1) ∧ Q (some (xi 0)) g2 w2) ∧
      (((w2 (g2.2 (g2.2 l0 5) 2) (Int.toNat (w2 (g2.2 (g2.2 l0 9) 9) (Int.toNat l3)))) = l2) → ((1 : Int) = 0 ∨ (1 : Int) = 1) ∧ Q (some (xi 1)) g2 w2)))) :
    aFf_ownsStove d lim Q 0 [xr l0, xr l1, xi l2, xi l3, xi l4, xi l5] [] g w := xAt_exec (cal_m d) kFf_ownsStove 32 t
theorem eFf_ownsStove {d : Nat} {Q : xQ} {l2 l3 l4 l5 : Int} {l0 l1 : Nat} {g : xG} {w : xW} (t : ∀ (lim : Nat × Nat) (Q2 : xQ), (∀ r g2 w2, g2.1 = g.1 → Q r g2 w2 → Q2 r g2 w2) → aFf_ownsStove d lim Q2 0 [xr l0, xr l1, xi l2, xi l3, xi l4, xi l5] [] g w) : cal (d + 1) nFf_ownsStove [xr l0, xr l1, xi l2, xi l3, xi l4, xi l5] g w Q := t _ _ xQof
abbrev aFf_ownedWithWall (d : Nat) (lim : Nat × Nat) (Q : xQ) : xK := xAt xMks tFf_ownedWithWall (cal d) lim Q
def kFf_ownedWithWall : List (Nat × List Bool) := []
set_option maxRecDepth 20000 in
theorem wFf_ownedWithWall_0 {d : Nat} {lim : Nat × Nat} {Q : xQ} {l1 l2 l3 l4 l5 : Int} {l0 : Nat} {g : xG} {w : xW} (t : xIs g l0 (0, 6) ∧ xIs g l0 (0, 6) ∧ xIs g (g.2 l0 5) (0, 3) ∧ 
  cal d nSt_copyFrom [xr (g.2 l0 5), xr (g.2 l0 11)] g w (fun r g1 w1 => r = none ∧ xIs g1 l0 (0, 6) ∧ xIs g1 l0 (0, 6) ∧ xIs g1 (g1.2 l0 5) (0, 3) ∧ 
    cal d nSt_setWall [xr (g1.2 l0 5), xr (g1.2 l0 9), xi l2, xi l3, xi l5] g1 w1 (fun r g2 w2 => r = none ∧ xIs g2 l0 (0, 6) ∧ xIs g2 l0 (0, 6) ∧ xIs g2 (g2.2 l0 5) (0, 3) ∧ 
      cal d nSt_passMinutes [xr (g2.2 l0 5), xr (g2.2 l0 9), xi l4, xi (-1)] g2 w2 (fun r g3 w3 => r = none ∧ xIs g3 l0 (0, 6) ∧ xIs g3 l0 (0, 6) ∧ xIs g3 (g3.2 l0 5) (0, 3) ∧ 
        cal d nSt_countOwned [xr (g3.2 l0 5), xr (g3.2 l0 9), xi l1] g3 w3 (fun r g4 w4 => ∃ v4 : Int, r = some (xi v4) ∧ Q (some (xi v4)) g4 w4))))) :
    aFf_ownedWithWall d lim Q 0 [xr l0, xi l1, xi l2, xi l3, xi l4, xi l5] [] g w := xAt_exec (cal_m d) kFf_ownedWithWall 28 t
theorem eFf_ownedWithWall {d : Nat} {Q : xQ} {l1 l2 l3 l4 l5 : Int} {l0 : Nat} {g : xG} {w : xW} (t : ∀ (lim : Nat × Nat) (Q2 : xQ), (∀ r g2 w2, g2.1 = g.1 → Q r g2 w2 → Q2 r g2 w2) → aFf_ownedWithWall d lim Q2 0 [xr l0, xi l1, xi l2, xi l3, xi l4, xi l5] [] g w) : cal (d + 1) nFf_ownedWithWall [xr l0, xi l1, xi l2, xi l3, xi l4, xi l5] g w Q := t _ _ xQof
abbrev aFf_countFreezing (d : Nat) (lim : Nat × Nat) (Q : xQ) : xK := xAt xMks tFf_countFreezing (cal d) lim Q
def kFf_countFreezing : List (Nat × List Bool) := [(19, [true, false, true, false]), (29, [true, false, true, true])]
set_option maxRecDepth 20000 in
theorem wFf_countFreezing_0 {d : Nat} {lim : Nat × Nat} {Q : xQ} {l1 l2 : Int} {l0 : Nat} {g : xG} {w : xW} (t : xIs g l0 (0, 6) ∧ xIs g l0 (0, 6) ∧ xIs g (g.2 l0 5) (0, 3) ∧ 
  cal d nSt_copyFrom [xr (g.2 l0 5), xr (g.2 l0 11)] g w (fun r g1 w1 => r = none ∧ xIs g1 l0 (0, 6) ∧ xIs g1 (g1.2 l0 5) (0, 3) ∧ aFf_countFreezing d lim Q 19 [xr l0, none, xi l2, none] [] g1 (xup w1 (g1.2 l0 5) 14 l1))) :
    aFf_countFreezing d lim Q 0 [xr l0, xi l1, xi l2, none] [] g w := xAt_exec (cal_m d) kFf_countFreezing 10 t
set_option maxRecDepth 20000 in
theorem wFf_countFreezing_19 {d : Nat} {lim : Nat × Nat} {Q : xQ} {l2 : Int} {l0 : Nat} {g : xG} {w : xW} (t : xIs g l0 (0, 6) ∧ xIs g (g.2 l0 5) (0, 3) ∧ aFf_countFreezing d lim Q 29 [xr l0, none, xi l2, xi 0] [] g (xup w (g.2 l0 5) 13 0)) :
    aFf_countFreezing d lim Q 19 [xr l0, none, xi l2, none] [] g w := xAt_exec (cal_m d) kFf_countFreezing 7 t
set_option maxRecDepth 20000 in
theorem wFf_countFreezing_29 {d : Nat} {lim : Nat × Nat} {Q : xQ} {l2 l3 : Int} {l0 : Nat} {g : xG} {w : xW} (t : 
  ((l2 ≤ l3) → xIs g l0 (0, 6) ∧ xIs g (g.2 l0 5) (0, 3) ∧ 
    cal d nJd_bitCount [xi (w (g.2 l0 5) 13)] g w (fun r g1 w1 => ∃ v1 : Int, r = some (xi v1) ∧ Q (some (xi v1)) g1 w1)) ∧
  ((l3 < l2) → xIs g l0 (0, 6) ∧ xIs g l0 (0, 6) ∧ xIs g (g.2 l0 5) (0, 3) ∧ 
    cal d nSt_leaveDearCells [xr (g.2 l0 5), xr (g.2 l0 9)] g w (fun r g2 w2 => r = none ∧ xIs g2 l0 (0, 6) ∧ xIs g2 l0 (0, 6) ∧ xIs g2 (g2.2 l0 5) (0, 3) ∧ 
      cal d nSt_passMinute [xr (g2.2 l0 5), xr (g2.2 l0 9), xi (-1)] g2 w2 (fun r g3 w3 => r = none ∧ x32 (l3 + 1) ∧ aFf_countFreezing d lim Q 29 [xr l0, none, xi l2, xi (l3 + 1)] [] g3 w3)))) :
    aFf_countFreezing d lim Q 29 [xr l0, none, xi l2, xi l3] [] g w := xAt_exec (cal_m d) kFf_countFreezing 17 t
theorem eFf_countFreezing {d : Nat} {Q : xQ} {l1 l2 : Int} {l0 : Nat} {g : xG} {w : xW} (t : ∀ (lim : Nat × Nat) (Q2 : xQ), (∀ r g2 w2, g2.1 = g.1 → Q r g2 w2 → Q2 r g2 w2) → aFf_countFreezing d lim Q2 0 [xr l0, xi l1, xi l2, none] [] g w) : cal (d + 1) nFf_countFreezing [xr l0, xi l1, xi l2] g w Q := t _ _ xQof
abbrev aFf_fitsLitNow (d : Nat) (lim : Nat × Nat) (Q : xQ) : xK := xAt xMks tFf_fitsLitNow (cal d) lim Q
def kFf_fitsLitNow : List (Nat × List Bool) := [(34, [true, false, false, true, true])]
set_option maxRecDepth 20000 in
theorem wFf_fitsLitNow_0 {d : Nat} {lim : Nat × Nat} {Q : xQ} {l1 l2 : Int} {l0 : Nat} {g : xG} {w : xW} (t : xIs g l0 (0, 6) ∧ xIs g (g.2 l0 2) (0, 1) ∧ 
  cal d nPp_latest [xr (g.2 l0 2)] g w (fun r g1 w1 => ∃ v1 : Int, r = some (xi v1) ∧ xIs g1 l0 (0, 6) ∧ xIs g1 l0 (0, 6) ∧ xIs g1 (g1.2 l0 5) (0, 3) ∧ 
    cal d nSt_copyFrom [xr (g1.2 l0 5), xr (g1.2 l0 6)] g1 w1 (fun r g2 w2 => r = none ∧ xIs g2 l0 (0, 6) ∧ xIs g2 (g2.2 l0 5) (0, 3) ∧ xA1 g2 (g2.2 (g2.2 l0 5) 6) l1 ∧ x32 (l2 + 1) ∧ aFf_fitsLitNow d lim Q 34 [xr l0, none, none, xi v1, xi (l2 + 1)] [] g2 (xup w2 (g2.2 (g2.2 l0 5) 6) (Int.toNat l1) 1)))) :
    aFf_fitsLitNow d lim Q 0 [xr l0, xi l1, xi l2, none, none] [] g w := xAt_exec (cal_m d) kFf_fitsLitNow 20 t
set_option maxRecDepth 20000 in
theorem wFf_fitsLitNow_34 {d : Nat} {lim : Nat × Nat} {Q : xQ} {l3 l4 : Int} {l0 : Nat} {g : xG} {w : xW} (t : 
  ((l3 < l4) → ((1 : Int) = 0 ∨ (1 : Int) = 1) ∧ Q (some (xi 1)) g w) ∧
  ((l4 ≤ l3) → xIs g l0 (0, 6) ∧ xIs g l0 (0, 6) ∧ xIs g (g.2 l0 5) (0, 3) ∧ 
    cal d nSt_passMinute [xr (g.2 l0 5), xr (g.2 l0 9), xi (-1)] g w (fun r g1 w1 => r = none ∧ xIs g1 l0 (0, 6) ∧ xIs g1 l0 (0, 6) ∧ xIs g1 (g1.2 l0 2) (0, 1) ∧ 
      cal d nPp_ownedAt [xr (g1.2 l0 2), xi l4, xr (g1.2 l0 5)] g1 w1 (fun r g2 w2 => ∃ v2 : Int, r = some (xi v2) ∧ 
        ((¬ v2 = 0) → x32 (l4 + 1) ∧ aFf_fitsLitNow d lim Q 34 [xr l0, none, none, xi l3, xi (l4 + 1)] [] g2 w2) ∧
        ((v2 = 0) → ((0 : Int) = 0 ∨ (0 : Int) = 1) ∧ Q (some (xi 0)) g2 w2))))) :
    aFf_fitsLitNow d lim Q 34 [xr l0, none, none, xi l3, xi l4] [] g w := xAt_exec (cal_m d) kFf_fitsLitNow 19 t
theorem eFf_fitsLitNow {d : Nat} {Q : xQ} {l1 l2 : Int} {l0 : Nat} {g : xG} {w : xW} (t : ∀ (lim : Nat × Nat) (Q2 : xQ), (∀ r g2 w2, g2.1 = g.1 → Q r g2 w2 → Q2 r g2 w2) → aFf_fitsLitNow d lim Q2 0 [xr l0, xi l1, xi l2, none, none] [] g w) : cal (d + 1) nFf_fitsLitNow [xr l0, xi l1, xi l2] g w Q := t _ _ xQof
abbrev aFf_tryWays (d : Nat) (lim : Nat × Nat) (Q : xQ) : xK := xAt xMks tFf_tryWays (cal d) lim Q
def kFf_tryWays : List (Nat × List Bool) := [(69, [true, true, true, false, true, true, false]), (120, [true, true, true, false, true, true, false])]
set_option maxRecDepth 20000 in
theorem wFf_tryWays_0 {d : Nat} {lim : Nat × Nat} {Q : xQ} {l1 : Int} {l0 : Nat} {g : xG} {w : xW} (t : 
  ((l1 ≤ 5) → xIs g l0 (0, 4) ∧ xA3 g (g.2 l0 0) l1 ∧ xIs g l0 (0, 4) ∧ xIs g l0 (0, 4) ∧ xIs g (g.2 (g.2 l0 0) (Int.toNat l1)) (0, 3) ∧ 
    cal d nSt_countOwned [xr (g.2 (g.2 l0 0) (Int.toNat l1)), xr (g.2 l0 3), xi (w l0 4)] g w (fun r g1 w1 => ∃ v1 : Int, r = some (xi v1) ∧ xIs g1 l0 (0, 4) ∧ 
      ((l1 < (w1 l0 5)) → xIs g1 l0 (0, 4) ∧ x32 (v1 + (w1 l0 5)) ∧ x32 ((v1 + (w1 l0 5)) - l1) ∧ xIs g1 l0 (0, 4) ∧ 
        (((w1 l0 6) < ((v1 + (w1 l0 5)) - l1)) → xIs g1 l0 (0, 4) ∧ x32 (l1 + 1) ∧ xA3 g1 (g1.2 l0 0) (l1 + 1) ∧ aFf_tryWays d lim Q 69 [xr l0, xi l1, xr (g.2 (g.2 l0 0) (Int.toNat l1)), none, xr (g1.2 (g1.2 l0 0) (Int.toNat (l1 + 1))), xi 0, none] [] g1 w1) ∧
        ((((v1 + (w1 l0 5)) - l1) ≤ (w1 l0 6)) → Q none g1 w1)) ∧
      (((w1 l0 5) ≤ l1) → xIs g1 l0 (0, 4) ∧ 
        cal d nTo_finish [xr l0, xi v1] g1 w1 (fun r g2 w2 => r = none ∧ Q none g2 w2)))) ∧
  ((5 < l1) → Q none g w)) :
    aFf_tryWays d lim Q 0 [xr l0, xi l1, none, none, none, none, none] [] g w := xAt_exec (cal_m d) kFf_tryWays 38 t
set_option maxRecDepth 20000 in
theorem wFf_tryWays_69 {d : Nat} {lim : Nat × Nat} {Q : xQ} {l1 l5 : Int} {l0 l2 l4 : Nat} {g : xG} {w : xW} (t : 
  ((4 < l5) → Q none g w) ∧
  ((l5 ≤ 4) → xIs g l0 (0, 4) ∧ xIs g l2 (0, 3) ∧ xIs g l0 (0, 4) ∧ xAr g (g.2 l2 7) (w l0 4) ∧ xIs g l2 (0, 3) ∧ 
    cal d nSt_reach [xr l2, xr (g.2 l0 3), xi (w (g.2 l2 7) (Int.toNat (w l0 4))), xi l5] g w (fun r g1 w1 => ∃ v1 : Int, r = some (xi v1) ∧ 
      ((v1 = (-1)) → x32 (l5 + 1) ∧ aFf_tryWays d lim Q 69 [xr l0, xi l1, xr l2, none, xr l4, xi (l5 + 1), none] [] g1 w1) ∧
      ((¬ v1 = (-1)) → xIs g1 l4 (0, 3) ∧ 
        cal d nSt_copyFrom [xr l4, xr l2] g1 w1 (fun r g2 w2 => r = none ∧ xIs g2 l4 (0, 3) ∧ xIs g2 l0 (0, 4) ∧ xA1 g2 (g2.2 l4 7) (w2 l0 4) ∧ aFf_tryWays d lim Q 120 [xr l0, xi l1, xr l2, none, xr l4, xi l5, none] [] g2 (xup w2 (g2.2 l4 7) (Int.toNat (w2 l0 4)) v1)))))) :
    aFf_tryWays d lim Q 69 [xr l0, xi l1, xr l2, none, xr l4, xi l5, none] [] g w := xAt_exec (cal_m d) kFf_tryWays 27 t
set_option maxRecDepth 20000 in
theorem wFf_tryWays_120 {d : Nat} {lim : Nat × Nat} {Q : xQ} {l1 l5 : Int} {l0 l2 l4 : Nat} {g : xG} {w : xW} (t : xIs g l0 (0, 4) ∧ xIs g l4 (0, 3) ∧ 
  cal d nSt_passMinute [xr l4, xr (g.2 l0 3), xi (-1)] g w (fun r g1 w1 => r = none ∧ xIs g1 l0 (0, 4) ∧ xA1 g1 (g1.2 l0 1) l1 ∧ x32 (l1 + 1) ∧ 
    cal d nFf_tryWays [xr l0, xi (l1 + 1)] g1 (xup w1 (g1.2 l0 1) (Int.toNat l1) l5) (fun r g2 w2 => r = none ∧ x32 (l5 + 1) ∧ aFf_tryWays d lim Q 69 [xr l0, xi l1, xr l2, none, xr l4, xi (l5 + 1), none] [] g2 w2))) :
    aFf_tryWays d lim Q 120 [xr l0, xi l1, xr l2, none, xr l4, xi l5, none] [] g w := xAt_exec (cal_m d) kFf_tryWays 18 t
theorem eFf_tryWays {d : Nat} {Q : xQ} {l1 : Int} {l0 : Nat} {g : xG} {w : xW} (t : ∀ (lim : Nat × Nat) (Q2 : xQ), (∀ r g2 w2, g2.1 = g.1 → Q r g2 w2 → Q2 r g2 w2) → aFf_tryWays d lim Q2 0 [xr l0, xi l1, none, none, none, none, none] [] g w) : cal (d + 1) nFf_tryWays [xr l0, xi l1] g w Q := t _ _ xQof
