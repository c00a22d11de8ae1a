abbrev aMo_in (d : Nat) (lim : Nat × Nat) (Q : xQ) : xK := xAt xMks tMo_in (cal d) lim Q
def kMo_in : List (Nat × List Bool) := []
set_option maxRecDepth 20000 in
theorem wMo_in_0 {d : Nat} {lim : Nat × Nat} {Q : xQ} {l0 l2 l4 : Int} {g : xG} {w : xW} (t : 
  (((xCmp l0 l2) < 0) → ((0 : Int) = 0 ∨ (0 : Int) = 1) ∧ Q (some (xi 0)) g w) ∧
  ((0 ≤ (xCmp l0 l2)) → 
    ((0 < (xCmp l0 l4)) → ((0 : Int) = 0 ∨ (0 : Int) = 1) ∧ Q (some (xi 0)) g w) ∧
    (((xCmp l0 l4) ≤ 0) → ((1 : Int) = 0 ∨ (1 : Int) = 1) ∧ Q (some (xi 1)) g w))) :
    aMo_in d lim Q 0 [xl l0, none, xl l2, none, xl l4, none] [] g w := xAt_exec (cal_m d) kMo_in 12 t
theorem eMo_in {d : Nat} {Q : xQ} {l0 l2 l4 : Int} {g : xG} {w : xW} (t : ∀ (lim : Nat × Nat) (Q2 : xQ), (∀ r g2 w2, g2.1 = g.1 → Q r g2 w2 → Q2 r g2 w2) → aMo_in d lim Q2 0 [xl l0, none, xl l2, none, xl l4, none] [] g w) : cal (d + 1) nMo_in [xl l0, xl l2, xl l4] g w Q := t _ _ xQof
abbrev aMo_emptyNow (d : Nat) (lim : Nat × Nat) (Q : xQ) : xK := xAt xMks tMo_emptyNow (cal d) lim Q
def kMo_emptyNow : List (Nat × List Bool) := [(2, [true, true])]
set_option maxRecDepth 20000 in
theorem wMo_emptyNow_0 {d : Nat} {lim : Nat × Nat} {Q : xQ} {l0 : Nat} {g : xG} {w : xW} (t : aMo_emptyNow d lim Q 2 [xr l0, xi 0] [] g w) :
    aMo_emptyNow d lim Q 0 [xr l0, none] [] g w := xAt_exec (cal_m d) kMo_emptyNow 3 t
set_option maxRecDepth 20000 in
theorem wMo_emptyNow_2 {d : Nat} {lim : Nat × Nat} {Q : xQ} {l1 : Int} {l0 : Nat} {g : xG} {w : xW} (t : 
  ((143 ≤ l1) → Q none g w) ∧
  ((l1 < 143) → xIs g l0 (0, 7) ∧ 
    ((¬ l1 = 141) → 
      ((l1 < 60) → xA1 g (g.2 l0 0) l1 ∧ x32 (l1 + 1) ∧ aMo_emptyNow d lim Q 2 [xr l0, xi (l1 + 1)] [] g (xup w (g.2 l0 0) (Int.toNat l1) 0)) ∧
      ((60 ≤ l1) → 
        ((80 ≤ l1) → xA1 g (g.2 l0 0) l1 ∧ x32 (l1 + 1) ∧ aMo_emptyNow d lim Q 2 [xr l0, xi (l1 + 1)] [] g (xup w (g.2 l0 0) (Int.toNat l1) 0)) ∧
        ((l1 < 80) → xA1 g (g.2 l0 0) l1 ∧ x32 (l1 + 1) ∧ aMo_emptyNow d lim Q 2 [xr l0, xi (l1 + 1)] [] g (xup w (g.2 l0 0) (Int.toNat l1) (-1))))) ∧
    ((l1 = 141) → xIs g l0 (0, 7) ∧ xAr g (g.2 l0 0) 141 ∧ xA1 g (g.2 l0 0) l1 ∧ x32 (l1 + 1) ∧ aMo_emptyNow d lim Q 2 [xr l0, xi (l1 + 1)] [] g (xup w (g.2 l0 0) (Int.toNat l1) (w (g.2 l0 0) (Int.toNat 141)))))) :
    aMo_emptyNow d lim Q 2 [xr l0, xi l1] [] g w := xAt_exec (cal_m d) kMo_emptyNow 21 t
theorem eMo_emptyNow {d : Nat} {Q : xQ} {l0 : Nat} {g : xG} {w : xW} (t : ∀ (lim : Nat × Nat) (Q2 : xQ), (∀ r g2 w2, g2.1 = g.1 → Q r g2 w2 → Q2 r g2 w2) → aMo_emptyNow d lim Q2 0 [xr l0, none] [] g w) : cal (d + 1) nMo_emptyNow [xr l0] g w Q := t _ _ xQof
abbrev aMo_cells (d : Nat) (lim : Nat × Nat) (Q : xQ) : xK := xAt xMks tMo_cells (cal d) lim Q
def kMo_cells : List (Nat × List Bool) := []
set_option maxRecDepth 20000 in
theorem wMo_cells_0 {d : Nat} {lim : Nat × Nat} {Q : xQ} {l0 : Nat} {g : xG} {w : xW} (t : xIs g l0 (0, 7) ∧ xIs g l0 (0, 7) ∧ x32 ((w l0 4) * (w l0 5)) ∧ Q (some (xi ((w l0 4) * (w l0 5)))) g w) :
    aMo_cells d lim Q 0 [xr l0] [] g w := xAt_exec (cal_m d) kMo_cells 7 t
theorem eMo_cells {d : Nat} {Q : xQ} {l0 : Nat} {g : xG} {w : xW} (t : ∀ (lim : Nat × Nat) (Q2 : xQ), (∀ r g2 w2, g2.1 = g.1 → Q r g2 w2 → Q2 r g2 w2) → aMo_cells d lim Q2 0 [xr l0] [] g w) : cal (d + 1) nMo_cells [xr l0] g w Q := t _ _ xQof
abbrev aMo_isCell (d : Nat) (lim : Nat × Nat) (Q : xQ) : xK := xAt xMks tMo_isCell (cal d) lim Q
def kMo_isCell : List (Nat × List Bool) := []
set_option maxRecDepth 20000 in
theorem wMo_isCell_0 {d : Nat} {lim : Nat × Nat} {Q : xQ} {l1 l2 : Int} {l0 : Nat} {g : xG} {w : xW} (t : xIs g l0 (0, 7) ∧ x32 ((w l0 4) - 1) ∧ 
  cal d nMo_in [xl l1, xl 0, xl ((w l0 4) - 1)] g w (fun r g1 w1 => ∃ v1 : Int, r = some (xi v1) ∧ 
    ((v1 = 0) → ((0 : Int) = 0 ∨ (0 : Int) = 1) ∧ Q (some (xi 0)) g1 w1) ∧
    ((¬ v1 = 0) → xIs g1 l0 (0, 7) ∧ x32 ((w1 l0 5) - 1) ∧ 
      cal d nMo_in [xl l2, xl 0, xl ((w1 l0 5) - 1)] g1 w1 (fun r g2 w2 => ∃ v2 : Int, r = some (xi v2) ∧ 
        ((v2 = 0) → ((0 : Int) = 0 ∨ (0 : Int) = 1) ∧ Q (some (xi 0)) g2 w2) ∧
        ((¬ v2 = 0) → ((1 : Int) = 0 ∨ (1 : Int) = 1) ∧ Q (some (xi 1)) g2 w2))))) :
    aMo_isCell d lim Q 0 [xr l0, xi l1, xi l2] [] g w := xAt_exec (cal_m d) kMo_isCell 24 t
theorem eMo_isCell {d : Nat} {Q : xQ} {l1 l2 : Int} {l0 : Nat} {g : xG} {w : xW} (t : ∀ (lim : Nat × Nat) (Q2 : xQ), (∀ r g2 w2, g2.1 = g.1 → Q r g2 w2 → Q2 r g2 w2) → aMo_isCell d lim Q2 0 [xr l0, xi l1, xi l2] [] g w) : cal (d + 1) nMo_isCell [xr l0, xi l1, xi l2] g w Q := t _ _ xQof
abbrev aMo_isPerson (d : Nat) (lim : Nat × Nat) (Q : xQ) : xK := xAt xMks tMo_isPerson (cal d) lim Q
def kMo_isPerson : List (Nat × List Bool) := []
set_option maxRecDepth 20000 in
theorem wMo_isPerson_0 {d : Nat} {lim : Nat × Nat} {Q : xQ} {l1 : Int} {l0 : Nat} {g : xG} {w : xW} (t : xIs g l0 (0, 7) ∧ x32 ((w l0 13) - 1) ∧ 
  cal d nMo_in [xl l1, xl 0, xl ((w l0 13) - 1)] g w (fun r g1 w1 => ∃ v1 : Int, r = some (xi v1) ∧ ((v1 : Int) = 0 ∨ (v1 : Int) = 1) ∧ Q (some (xi v1)) g1 w1)) :
    aMo_isPerson d lim Q 0 [xr l0, xi l1] [] g w := xAt_exec (cal_m d) kMo_isPerson 11 t
theorem eMo_isPerson {d : Nat} {Q : xQ} {l1 : Int} {l0 : Nat} {g : xG} {w : xW} (t : ∀ (lim : Nat × Nat) (Q2 : xQ), (∀ r g2 w2, g2.1 = g.1 → Q r g2 w2 → Q2 r g2 w2) → aMo_isPerson d lim Q2 0 [xr l0, xi l1] [] g w) : cal (d + 1) nMo_isPerson [xr l0, xi l1] g w Q := t _ _ xQof
abbrev aMo_isStove (d : Nat) (lim : Nat × Nat) (Q : xQ) : xK := xAt xMks tMo_isStove (cal d) lim Q
def kMo_isStove : List (Nat × List Bool) := []
set_option maxRecDepth 20000 in
theorem wMo_isStove_0 {d : Nat} {lim : Nat × Nat} {Q : xQ} {l1 : Int} {l0 : Nat} {g : xG} {w : xW} (t : xIs g l0 (0, 7) ∧ x32 ((w l0 8) - 1) ∧ 
  cal d nMo_in [xl l1, xl 0, xl ((w l0 8) - 1)] g w (fun r g1 w1 => ∃ v1 : Int, r = some (xi v1) ∧ ((v1 : Int) = 0 ∨ (v1 : Int) = 1) ∧ Q (some (xi v1)) g1 w1)) :
    aMo_isStove d lim Q 0 [xr l0, xi l1] [] g w := xAt_exec (cal_m d) kMo_isStove 11 t
theorem eMo_isStove {d : Nat} {Q : xQ} {l1 : Int} {l0 : Nat} {g : xG} {w : xW} (t : ∀ (lim : Nat × Nat) (Q2 : xQ), (∀ r g2 w2, g2.1 = g.1 → Q r g2 w2 → Q2 r g2 w2) → aMo_isStove d lim Q2 0 [xr l0, xi l1] [] g w) : cal (d + 1) nMo_isStove [xr l0, xi l1] g w Q := t _ _ xQof
abbrev aMo_named (d : Nat) (lim : Nat × Nat) (Q : xQ) : xK := xAt xMks tMo_named (cal d) lim Q
def kMo_named : List (Nat × List Bool) := []
set_option maxRecDepth 20000 in
theorem wMo_named_0 {d : Nat} {lim : Nat × Nat} {Q : xQ} {l1 : Int} {l0 : Nat} {g : xG} {w : xW} (t : xIs g l0 (0, 7) ∧ (((w l0 4) : Int) ≠ 0 ∧ x32 (Int.tdiv l1 (w l0 4))) ∧ x32 (10 * (Int.tmod l1 (w l0 4))) ∧ xIs g l0 (0, 7) ∧ (((w l0 4) : Int) ≠ 0 ∧ x32 (Int.tdiv l1 (w l0 4))) ∧ x32 ((10 * (Int.tmod l1 (w l0 4))) + (Int.tdiv l1 (w l0 4))) ∧ Q (some (xi ((10 * (Int.tmod l1 (w l0 4))) + (Int.tdiv l1 (w l0 4))))) g w) :
    aMo_named d lim Q 0 [xr l0, xi l1] [] g w := xAt_exec (cal_m d) kMo_named 13 t
theorem eMo_named {d : Nat} {Q : xQ} {l1 : Int} {l0 : Nat} {g : xG} {w : xW} (t : ∀ (lim : Nat × Nat) (Q2 : xQ), (∀ r g2 w2, g2.1 = g.1 → Q r g2 w2 → Q2 r g2 w2) → aMo_named d lim Q2 0 [xr l0, xi l1] [] g w) : cal (d + 1) nMo_named [xr l0, xi l1] g w Q := t _ _ xQof
abbrev aMo_cellOf (d : Nat) (lim : Nat × Nat) (Q : xQ) : xK := xAt xMks tMo_cellOf (cal d) lim Q
def kMo_cellOf : List (Nat × List Bool) := []
set_option maxRecDepth 20000 in
theorem wMo_cellOf_0 {d : Nat} {lim : Nat × Nat} {Q : xQ} {l1 : Int} {l0 : Nat} {g : xG} {w : xW} (t : 
  ((l1 < 0) → Q (some (xi (-1))) g w) ∧
  ((0 ≤ l1) → ((10 : Int) ≠ 0 ∧ x32 (Int.tdiv l1 10)) ∧ ((10 : Int) ≠ 0 ∧ x32 (Int.tdiv l1 10)) ∧ xIs g l0 (0, 7) ∧ 
    cal d nMo_isCell [xr l0, xi (Int.tdiv l1 10), xi (Int.tmod l1 10)] g w (fun r g1 w1 => ∃ v1 : Int, r = some (xi v1) ∧ 
      ((v1 = 0) → Q (some (xi (-1))) g1 w1) ∧
      ((¬ v1 = 0) → xIs g1 l0 (0, 7) ∧ ((10 : Int) ≠ 0 ∧ x32 (Int.tdiv l1 10)) ∧ x32 ((w1 l0 4) * (Int.tmod l1 10)) ∧ ((10 : Int) ≠ 0 ∧ x32 (Int.tdiv l1 10)) ∧ x32 (((w1 l0 4) * (Int.tmod l1 10)) + (Int.tdiv l1 10)) ∧ Q (some (xi (((w1 l0 4) * (Int.tmod l1 10)) + (Int.tdiv l1 10)))) g1 w1)))) :
    aMo_cellOf d lim Q 0 [xr l0, xi l1] [] g w := xAt_exec (cal_m d) kMo_cellOf 24 t
theorem eMo_cellOf {d : Nat} {Q : xQ} {l1 : Int} {l0 : Nat} {g : xG} {w : xW} (t : ∀ (lim : Nat × Nat) (Q2 : xQ), (∀ r g2 w2, g2.1 = g.1 → Q r g2 w2 → Q2 r g2 w2) → aMo_cellOf d lim Q2 0 [xr l0, xi l1] [] g w) : cal (d + 1) nMo_cellOf [xr l0, xi l1] g w Q := t _ _ xQof
abbrev aMo_feed (d : Nat) (lim : Nat × Nat) (Q : xQ) : xK := xAt xMks tMo_feed (cal d) lim Q
def kMo_feed : List (Nat × List Bool) := [(38, [true, false])]
set_option maxRecDepth 20000 in
theorem wMo_feed_0 {d : Nat} {lim : Nat × Nat} {Q : xQ} {l1 : Int} {l0 : Nat} {g : xG} {w : xW} (t : 
  cal d nMo_in [xl l1, xl 0, xl 255] g w (fun r g1 w1 => ∃ v1 : Int, r = some (xi v1) ∧ 
    ((¬ v1 = 0) → xIs g1 l0 (0, 7) ∧ 
      ((¬ (w1 l0 25) = 260) → xIs g1 l0 (0, 7) ∧ xIs g1 l0 (0, 7) ∧ xA1 g1 (g1.2 l0 24) (w1 l0 25) ∧ aMo_feed d lim Q 38 [xr l0, none] [] g1 (xup w1 (g1.2 l0 24) (Int.toNat (w1 l0 25)) l1)) ∧
      (((w1 l0 25) = 260) → Q (some (xi (-1000000004))) g1 w1)) ∧
    ((v1 = 0) → Q (some (xi (-1000000002))) g1 w1))) :
    aMo_feed d lim Q 0 [xr l0, xi l1] [] g w := xAt_exec (cal_m d) kMo_feed 17 t
set_option maxRecDepth 20000 in
theorem wMo_feed_38 {d : Nat} {lim : Nat × Nat} {Q : xQ} {l0 : Nat} {g : xG} {w : xW} (t : xIs g l0 (0, 7) ∧ x32 ((w l0 25) + 1) ∧ xIs g l0 (0, 7) ∧ xIs g l0 (0, 7) ∧ Q (some (xi ((xup w l0 25 ((w l0 25) + 1)) l0 25))) g (xup w l0 25 ((w l0 25) + 1))) :
    aMo_feed d lim Q 38 [xr l0, none] [] g w := xAt_exec (cal_m d) kMo_feed 10 t
theorem eMo_feed {d : Nat} {Q : xQ} {l1 : Int} {l0 : Nat} {g : xG} {w : xW} (t : ∀ (lim : Nat × Nat) (Q2 : xQ), (∀ r g2 w2, g2.1 = g.1 → Q r g2 w2 → Q2 r g2 w2) → aMo_feed d lim Q2 0 [xr l0, xi l1] [] g w) : cal (d + 1) nMo_feed [xr l0, xi l1] g w Q := t _ _ xQof
abbrev aMo_isFigure (d : Nat) (lim : Nat × Nat) (Q : xQ) : xK := xAt xMks tMo_isFigure (cal d) lim Q
def kMo_isFigure : List (Nat × List Bool) := []
set_option maxRecDepth 20000 in
theorem wMo_isFigure_0 {d : Nat} {lim : Nat × Nat} {Q : xQ} {l0 : Int} {g : xG} {w : xW} (t : 
  cal d nMo_in [xl l0, xl 48, xl 57] g w (fun r g1 w1 => ∃ v1 : Int, r = some (xi v1) ∧ ((v1 : Int) = 0 ∨ (v1 : Int) = 1) ∧ Q (some (xi v1)) g1 w1)) :
    aMo_isFigure d lim Q 0 [xi l0] [] g w := xAt_exec (cal_m d) kMo_isFigure 7 t
theorem eMo_isFigure {d : Nat} {Q : xQ} {l0 : Int} {g : xG} {w : xW} (t : ∀ (lim : Nat × Nat) (Q2 : xQ), (∀ r g2 w2, g2.1 = g.1 → Q r g2 w2 → Q2 r g2 w2) → aMo_isFigure d lim Q2 0 [xi l0] [] g w) : cal (d + 1) nMo_isFigure [xi l0] g w Q := t _ _ xQof
abbrev aMo_look (d : Nat) (lim : Nat × Nat) (Q : xQ) : xK := xAt xMks tMo_look (cal d) lim Q
def kMo_look : List (Nat × List Bool) := [(5, [true, false, false]), (43, [true, false, false]), (48, [true, false, false]), (53, [true, false, false]), (58, [true, false, false]), (119, [true, false, false]), (124, [true, false, false]), (183, [true, false, true])]
set_option maxRecDepth 20000 in
theorem wMo_look_0 {d : Nat} {lim : Nat × Nat} {Q : xQ} {l1 : Int} {l0 : Nat} {g : xG} {w : xW} (t : xIs g l0 (0, 7) ∧ aMo_look d lim Q 5 [xr l0, none, none] [] g (xup w l0 27 l1)) :
    aMo_look d lim Q 0 [xr l0, xi l1, none] [] g w := xAt_exec (cal_m d) kMo_look 4 t
set_option maxRecDepth 20000 in
theorem wMo_look_5 {d : Nat} {lim : Nat × Nat} {Q : xQ} {l0 : Nat} {g : xG} {w : xW} (t : xIs g l0 (0, 7) ∧ xIs g l0 (0, 7) ∧ 
  (((w l0 25) ≤ (w l0 27)) → aMo_look d lim Q 43 [xr l0, none, none] [] g w) ∧
  (((w l0 27) < (w l0 25)) → xIs g l0 (0, 7) ∧ xIs g l0 (0, 7) ∧ xAr g (g.2 l0 24) (w l0 27) ∧ 
    ((¬ (w (g.2 l0 24) (Int.toNat (w l0 27))) = 32) → aMo_look d lim Q 43 [xr l0, none, none] [] g w) ∧
    (((w (g.2 l0 24) (Int.toNat (w l0 27))) = 32) → xIs g l0 (0, 7) ∧ x32 ((w l0 27) + 1) ∧ xIs g l0 (0, 7) ∧ aMo_look d lim Q 5 [xr l0, none, none] [] g (xup w l0 27 ((w l0 27) + 1))))) :
    aMo_look d lim Q 5 [xr l0, none, none] [] g w := xAt_exec (cal_m d) kMo_look 20 t
set_option maxRecDepth 20000 in
theorem wMo_look_43 {d : Nat} {lim : Nat × Nat} {Q : xQ} {l0 : Nat} {g : xG} {w : xW} (t : xIs g l0 (0, 7) ∧ aMo_look d lim Q 48 [xr l0, none, none] [] g (xup w l0 28 0)) :
    aMo_look d lim Q 43 [xr l0, none, none] [] g w := xAt_exec (cal_m d) kMo_look 4 t
set_option maxRecDepth 20000 in
theorem wMo_look_48 {d : Nat} {lim : Nat × Nat} {Q : xQ} {l0 : Nat} {g : xG} {w : xW} (t : xIs g l0 (0, 7) ∧ aMo_look d lim Q 53 [xr l0, none, none] [] g (xup w l0 29 0)) :
    aMo_look d lim Q 48 [xr l0, none, none] [] g w := xAt_exec (cal_m d) kMo_look 4 t
set_option maxRecDepth 20000 in
theorem wMo_look_53 {d : Nat} {lim : Nat × Nat} {Q : xQ} {l0 : Nat} {g : xG} {w : xW} (t : xIs g l0 (0, 7) ∧ aMo_look d lim Q 58 [xr l0, none, none] [] g (xup w l0 30 0)) :
    aMo_look d lim Q 53 [xr l0, none, none] [] g w := xAt_exec (cal_m d) kMo_look 4 t
set_option maxRecDepth 20000 in
theorem wMo_look_58 {d : Nat} {lim : Nat × Nat} {Q : xQ} {l0 : Nat} {g : xG} {w : xW} (t : xIs g l0 (0, 7) ∧ xIs g l0 (0, 7) ∧ 
  ((¬ (w l0 27) = (w l0 25)) → xIs g l0 (0, 7) ∧ xIs g l0 (0, 7) ∧ xAr g (g.2 l0 24) (w l0 27) ∧ 
    cal d nMo_isFigure [xi (w (g.2 l0 24) (Int.toNat (w l0 27)))] g w (fun r g1 w1 => ∃ v1 : Int, r = some (xi v1) ∧ 
      ((v1 = 0) → xIs g1 l0 (0, 7) ∧ xIs g1 l0 (0, 7) ∧ xAr g1 (g1.2 l0 24) (w1 l0 27) ∧ 
        ((2 ≤ (w1 (g1.2 l0 24) (Int.toNat (w1 l0 27)))) → xIs g1 l0 (0, 7) ∧ xIs g1 l0 (0, 7) ∧ xAr g1 (g1.2 l0 24) (w1 l0 27) ∧ xIs g1 l0 (0, 7) ∧ aMo_look d lim Q 119 [xr l0, none, none] [] g1 (xup w1 l0 29 (w1 (g1.2 l0 24) (Int.toNat (w1 l0 27))))) ∧
        (((w1 (g1.2 l0 24) (Int.toNat (w1 l0 27))) < 2) → xIs g1 l0 (0, 7) ∧ aMo_look d lim Q 119 [xr l0, none, none] [] g1 (xup w1 l0 29 2))) ∧
      ((¬ v1 = 0) → xIs g1 l0 (0, 7) ∧ aMo_look d lim Q 119 [xr l0, none, none] [] g1 (xup w1 l0 29 1)))) ∧
  (((w l0 27) = (w l0 25)) → Q none g w)) :
    aMo_look d lim Q 58 [xr l0, none, none] [] g w := xAt_exec (cal_m d) kMo_look 27 t
set_option maxRecDepth 20000 in
theorem wMo_look_119 {d : Nat} {lim : Nat × Nat} {Q : xQ} {l0 : Nat} {g : xG} {w : xW} (t : xIs g l0 (0, 7) ∧ aMo_look d lim Q 124 [xr l0, none, none] [] g (xup w l0 28 1)) :
    aMo_look d lim Q 119 [xr l0, none, none] [] g w := xAt_exec (cal_m d) kMo_look 4 t
set_option maxRecDepth 20000 in
theorem wMo_look_124 {d : Nat} {lim : Nat × Nat} {Q : xQ} {l0 : Nat} {g : xG} {w : xW} (t : xIs g l0 (0, 7) ∧ 
  ((¬ (w l0 29) = 1) → aMo_look d lim Q 183 [xr l0, none, xi 0] [] g w) ∧
  (((w l0 29) = 1) → xIs g l0 (0, 7) ∧ xIs g l0 (0, 7) ∧ x32 ((w l0 27) + (w l0 28)) ∧ xIs g l0 (0, 7) ∧ 
    (((w l0 25) ≤ ((w l0 27) + (w l0 28))) → aMo_look d lim Q 183 [xr l0, none, xi 0] [] g w) ∧
    ((((w l0 27) + (w l0 28)) < (w l0 25)) → xIs g l0 (0, 7) ∧ xIs g l0 (0, 7) ∧ xIs g l0 (0, 7) ∧ x32 ((w l0 27) + (w l0 28)) ∧ xAr g (g.2 l0 24) ((w l0 27) + (w l0 28)) ∧ 
      cal d nMo_isFigure [xi (w (g.2 l0 24) (Int.toNat ((w l0 27) + (w l0 28))))] g w (fun r g1 w1 => ∃ v1 : Int, r = some (xi v1) ∧ 
        ((v1 = 0) → aMo_look d lim Q 183 [xr l0, none, xi 0] [] g1 w1) ∧
        ((¬ v1 = 0) → xIs g1 l0 (0, 7) ∧ x32 ((w1 l0 28) + 1) ∧ xIs g1 l0 (0, 7) ∧ aMo_look d lim Q 124 [xr l0, none, none] [] g1 (xup w1 l0 28 ((w1 l0 28) + 1))))))) :
    aMo_look d lim Q 124 [xr l0, none, none] [] g w := xAt_exec (cal_m d) kMo_look 30 t
set_option maxRecDepth 20000 in
theorem wMo_look_183 {d : Nat} {lim : Nat × Nat} {Q : xQ} {l2 : Int} {l0 : Nat} {g : xG} {w : xW} (t : xIs g l0 (0, 7) ∧ 
  (((w l0 28) ≤ l2) → Q none g w) ∧
  ((l2 < (w l0 28)) → xIs g l0 (0, 7) ∧ 
    ((¬ (w l0 29) = 1) → Q none g w) ∧
    (((w l0 29) = 1) → xIs g l0 (0, 7) ∧ 
      (((w l0 28) ≤ 3) → xIs g l0 (0, 7) ∧ x32 (10 * (w l0 30)) ∧ xIs g l0 (0, 7) ∧ xIs g l0 (0, 7) ∧ x32 ((w l0 27) + l2) ∧ xAr g (g.2 l0 24) ((w l0 27) + l2) ∧ x32 ((10 * (w l0 30)) + (w (g.2 l0 24) (Int.toNat ((w l0 27) + l2)))) ∧ x32 (((10 * (w l0 30)) + (w (g.2 l0 24) (Int.toNat ((w l0 27) + l2)))) - 48) ∧ xIs g l0 (0, 7) ∧ x32 (l2 + 1) ∧ aMo_look d lim Q 183 [xr l0, none, xi (l2 + 1)] [] g (xup w l0 30 (((10 * (w l0 30)) + (w (g.2 l0 24) (Int.toNat ((w l0 27) + l2)))) - 48))) ∧
      ((3 < (w l0 28)) → xIs g l0 (0, 7) ∧ x32 (l2 + 1) ∧ aMo_look d lim Q 183 [xr l0, none, xi (l2 + 1)] [] g (xup w l0 30 1000000))))) :
    aMo_look d lim Q 183 [xr l0, none, xi l2] [] g w := xAt_exec (cal_m d) kMo_look 31 t
theorem eMo_look {d : Nat} {Q : xQ} {l1 : Int} {l0 : Nat} {g : xG} {w : xW} (t : ∀ (lim : Nat × Nat) (Q2 : xQ), (∀ r g2 w2, g2.1 = g.1 → Q r g2 w2 → Q2 r g2 w2) → aMo_look d lim Q2 0 [xr l0, xi l1, none] [] g w) : cal (d + 1) nMo_look [xr l0, xi l1] g w Q := t _ _ xQof
abbrev aMo_goOn (d : Nat) (lim : Nat × Nat) (Q : xQ) : xK := xAt xMks tMo_goOn (cal d) lim Q
def kMo_goOn : List (Nat × List Bool) := []
set_option maxRecDepth 20000 in
theorem wMo_goOn_0 {d : Nat} {lim : Nat × Nat} {Q : xQ} {l0 : Nat} {g : xG} {w : xW} (t : xIs g l0 (0, 7) ∧ xIs g l0 (0, 7) ∧ x32 ((w l0 27) + (w l0 28)) ∧ xIs g l0 (0, 7) ∧ 
  cal d nMo_look [xr l0, xi ((w l0 27) + (w l0 28))] g w (fun r g1 w1 => r = none ∧ Q none g1 w1)) :
    aMo_goOn d lim Q 0 [xr l0] [] g w := xAt_exec (cal_m d) kMo_goOn 9 t
theorem eMo_goOn {d : Nat} {Q : xQ} {l0 : Nat} {g : xG} {w : xW} (t : ∀ (lim : Nat × Nat) (Q2 : xQ), (∀ r g2 w2, g2.1 = g.1 → Q r g2 w2 → Q2 r g2 w2) → aMo_goOn d lim Q2 0 [xr l0] [] g w) : cal (d + 1) nMo_goOn [xr l0] g w Q := t _ _ xQof
abbrev aMo_faults (d : Nat) (lim : Nat × Nat) (Q : xQ) : xK := xAt xMks tMo_faults (cal d) lim Q
def kMo_faults : List (Nat × List Bool) := []
set_option maxRecDepth 20000 in
theorem wMo_faults_0 {d : Nat} {lim : Nat × Nat} {Q : xQ} {l1 : Int} {l0 : Nat} {g : xG} {w : xW} (t : xIs g l0 (0, 7) ∧ ((0 : Int) = 0 ∨ (0 : Int) = 1) ∧ Q (some (xi 0)) g (xup w l0 31 l1)) :
    aMo_faults d lim Q 0 [xr l0, xi l1] [] g w := xAt_exec (cal_m d) kMo_faults 6 t
theorem eMo_faults {d : Nat} {Q : xQ} {l1 : Int} {l0 : Nat} {g : xG} {w : xW} (t : ∀ (lim : Nat × Nat) (Q2 : xQ), (∀ r g2 w2, g2.1 = g.1 → Q r g2 w2 → Q2 r g2 w2) → aMo_faults d lim Q2 0 [xr l0, xi l1] [] g w) : cal (d + 1) nMo_faults [xr l0, xi l1] g w Q := t _ _ xQof
abbrev aMo_takes (d : Nat) (lim : Nat × Nat) (Q : xQ) : xK := xAt xMks tMo_takes (cal d) lim Q
def kMo_takes : List (Nat × List Bool) := []
set_option maxRecDepth 20000 in
theorem wMo_takes_0 {d : Nat} {lim : Nat × Nat} {Q : xQ} {l1 l2 : Int} {l0 : Nat} {g : xG} {w : xW} (t : xIs g l0 (0, 7) ∧ 
  (((w l0 29) = 1) → xIs g l0 (0, 7) ∧ 
    cal d nMo_in [xl (w l0 30), xl l1, xl l2] g w (fun r g1 w1 => ∃ v1 : Int, r = some (xi v1) ∧ 
      ((¬ v1 = 0) → xIs g1 l0 (0, 7) ∧ xIs g1 l0 (0, 7) ∧ xIs g1 l0 (0, 7) ∧ 
        cal d nMo_goOn [xr l0] g1 (xup w1 l0 32 (w1 l0 30)) (fun r g2 w2 => r = none ∧ ((1 : Int) = 0 ∨ (1 : Int) = 1) ∧ Q (some (xi 1)) g2 w2)) ∧
      ((v1 = 0) → xIs g1 l0 (0, 7) ∧ 
        cal d nMo_faults [xr l0, xi 2] g1 w1 (fun r g3 w3 => ∃ v3 : Int, r = some (xi v3) ∧ ((v3 : Int) = 0 ∨ (v3 : Int) = 1) ∧ Q (some (xi v3)) g3 w3)))) ∧
  ((¬ (w l0 29) = 1) → xIs g l0 (0, 7) ∧ 
    cal d nMo_faults [xr l0, xi 1] g w (fun r g4 w4 => ∃ v4 : Int, r = some (xi v4) ∧ ((v4 : Int) = 0 ∨ (v4 : Int) = 1) ∧ Q (some (xi v4)) g4 w4))) :
    aMo_takes d lim Q 0 [xr l0, xi l1, xi l2] [] g w := xAt_exec (cal_m d) kMo_takes 22 t
theorem eMo_takes {d : Nat} {Q : xQ} {l1 l2 : Int} {l0 : Nat} {g : xG} {w : xW} (t : ∀ (lim : Nat × Nat) (Q2 : xQ), (∀ r g2 w2, g2.1 = g.1 → Q r g2 w2 → Q2 r g2 w2) → aMo_takes d lim Q2 0 [xr l0, xi l1, xi l2] [] g w) : cal (d + 1) nMo_takes [xr l0, xi l1, xi l2] g w Q := t _ _ xQof
abbrev aMo_stops (d : Nat) (lim : Nat × Nat) (Q : xQ) : xK := xAt xMks tMo_stops (cal d) lim Q
def kMo_stops : List (Nat × List Bool) := []
set_option maxRecDepth 20000 in
theorem wMo_stops_0 {d : Nat} {lim : Nat × Nat} {Q : xQ} {l0 : Nat} {g : xG} {w : xW} (t : xIs g l0 (0, 7) ∧ 
  (((w l0 29) = 59) → xIs g l0 (0, 7) ∧ 
    cal d nMo_goOn [xr l0] g w (fun r g1 w1 => r = none ∧ ((1 : Int) = 0 ∨ (1 : Int) = 1) ∧ Q (some (xi 1)) g1 w1)) ∧
  ((¬ (w l0 29) = 59) → xIs g l0 (0, 7) ∧ 
    cal d nMo_faults [xr l0, xi 1] g w (fun r g2 w2 => ∃ v2 : Int, r = some (xi v2) ∧ ((v2 : Int) = 0 ∨ (v2 : Int) = 1) ∧ Q (some (xi v2)) g2 w2))) :
    aMo_stops d lim Q 0 [xr l0] [] g w := xAt_exec (cal_m d) kMo_stops 9 t
theorem eMo_stops {d : Nat} {Q : xQ} {l0 : Nat} {g : xG} {w : xW} (t : ∀ (lim : Nat × Nat) (Q2 : xQ), (∀ r g2 w2, g2.1 = g.1 → Q r g2 w2 → Q2 r g2 w2) → aMo_stops d lim Q2 0 [xr l0] [] g w) : cal (d + 1) nMo_stops [xr l0] g w Q := t _ _ xQof
abbrev aMo_takesX (d : Nat) (lim : Nat × Nat) (Q : xQ) : xK := xAt xMks tMo_takesX (cal d) lim Q
def kMo_takesX : List (Nat × List Bool) := []
set_option maxRecDepth 20000 in
theorem wMo_takesX_0 {d : Nat} {lim : Nat × Nat} {Q : xQ} {l0 : Nat} {g : xG} {w : xW} (t : xIs g l0 (0, 7) ∧ x32 ((w l0 33) - 1) ∧ xIs g l0 (0, 7) ∧ 
  cal d nMo_takes [xr l0, xi 0, xi ((w l0 33) - 1)] g w (fun r g1 w1 => ∃ v1 : Int, r = some (xi v1) ∧ ((v1 : Int) = 0 ∨ (v1 : Int) = 1) ∧ Q (some (xi v1)) g1 w1)) :
    aMo_takesX d lim Q 0 [xr l0] [] g w := xAt_exec (cal_m d) kMo_takesX 9 t
theorem eMo_takesX {d : Nat} {Q : xQ} {l0 : Nat} {g : xG} {w : xW} (t : ∀ (lim : Nat × Nat) (Q2 : xQ), (∀ r g2 w2, g2.1 = g.1 → Q r g2 w2 → Q2 r g2 w2) → aMo_takesX d lim Q2 0 [xr l0] [] g w) : cal (d + 1) nMo_takesX [xr l0] g w Q := t _ _ xQof
abbrev aMo_seesY (d : Nat) (lim : Nat × Nat) (Q : xQ) : xK := xAt xMks tMo_seesY (cal d) lim Q
def kMo_seesY : List (Nat × List Bool) := []
set_option maxRecDepth 20000 in
theorem wMo_seesY_0 {d : Nat} {lim : Nat × Nat} {Q : xQ} {l1 : Int} {l0 : Nat} {g : xG} {w : xW} (t : xIs g l0 (0, 7) ∧ 
  (((w l0 29) = 1) → xIs g l0 (0, 7) ∧ xIs g l0 (0, 7) ∧ x32 ((w l0 34) - 1) ∧ 
    cal d nMo_in [xl (w l0 30), xl 0, xl ((w l0 34) - 1)] g w (fun r g1 w1 => ∃ v1 : Int, r = some (xi v1) ∧ 
      ((¬ v1 = 0) → xIs g1 l0 (0, 7) ∧ xIs g1 l0 (0, 7) ∧ x32 ((w1 l0 33) * (w1 l0 30)) ∧ x32 (((w1 l0 33) * (w1 l0 30)) + l1) ∧ xIs g1 l0 (0, 7) ∧ ((1 : Int) = 0 ∨ (1 : Int) = 1) ∧ Q (some (xi 1)) g1 (xup w1 l0 47 (((w1 l0 33) * (w1 l0 30)) + l1))) ∧
      ((v1 = 0) → xIs g1 l0 (0, 7) ∧ 
        cal d nMo_faults [xr l0, xi 2] g1 w1 (fun r g2 w2 => ∃ v2 : Int, r = some (xi v2) ∧ ((v2 : Int) = 0 ∨ (v2 : Int) = 1) ∧ Q (some (xi v2)) g2 w2)))) ∧
  ((¬ (w l0 29) = 1) → xIs g l0 (0, 7) ∧ 
    cal d nMo_faults [xr l0, xi 1] g w (fun r g3 w3 => ∃ v3 : Int, r = some (xi v3) ∧ ((v3 : Int) = 0 ∨ (v3 : Int) = 1) ∧ Q (some (xi v3)) g3 w3))) :
    aMo_seesY d lim Q 0 [xr l0, xi l1] [] g w := xAt_exec (cal_m d) kMo_seesY 27 t
theorem eMo_seesY {d : Nat} {Q : xQ} {l1 : Int} {l0 : Nat} {g : xG} {w : xW} (t : ∀ (lim : Nat × Nat) (Q2 : xQ), (∀ r g2 w2, g2.1 = g.1 → Q r g2 w2 → Q2 r g2 w2) → aMo_seesY d lim Q2 0 [xr l0, xi l1] [] g w) : cal (d + 1) nMo_seesY [xr l0, xi l1] g w Q := t _ _ xQof
abbrev aMo_readsTown (d : Nat) (lim : Nat × Nat) (Q : xQ) : xK := xAt xMks tMo_readsTown (cal d) lim Q
def kMo_readsTown : List (Nat × List Bool) := [(82, [true]), (102, [true])]
set_option maxRecDepth 20000 in
theorem wMo_readsTown_0 {d : Nat} {lim : Nat × Nat} {Q : xQ} {l0 : Nat} {g : xG} {w : xW} (t : xIs g l0 (0, 7) ∧ 
  (((w l0 29) = 116) → xIs g l0 (0, 7) ∧ 
    cal d nMo_goOn [xr l0] g w (fun r g1 w1 => r = none ∧ xIs g1 l0 (0, 7) ∧ 
      cal d nMo_takes [xr l0, xi 1, xi 6] g1 w1 (fun r g2 w2 => ∃ v2 : Int, r = some (xi v2) ∧ 
        ((¬ v2 = 0) → xIs g2 l0 (0, 7) ∧ xIs g2 l0 (0, 7) ∧ xIs g2 l0 (0, 7) ∧ 
          ((¬ ((xup w2 l0 33 (w2 l0 32)) l0 29) = 1) → aMo_readsTown d lim Q 82 [xr l0] [] g2 (xup w2 l0 33 (w2 l0 32))) ∧
          ((((xup w2 l0 33 (w2 l0 32)) l0 29) = 1) → xIs g2 l0 (0, 7) ∧ 
            cal d nMo_in [xl ((xup w2 l0 33 (w2 l0 32)) l0 30), xl 1, xl 6] g2 (xup w2 l0 33 (w2 l0 32)) (fun r g3 w3 => ∃ v3 : Int, r = some (xi v3) ∧ 
              ((v3 = 0) → aMo_readsTown d lim Q 82 [xr l0] [] g3 w3) ∧
              ((¬ v3 = 0) → xIs g3 l0 (0, 7) ∧ xIs g3 l0 (0, 7) ∧ x32 ((w3 l0 33) * (w3 l0 30)) ∧ 
                ((((w3 l0 33) * (w3 l0 30)) ≤ 20) → aMo_readsTown d lim Q 82 [xr l0] [] g3 w3) ∧
                ((20 < ((w3 l0 33) * (w3 l0 30))) → xIs g3 l0 (0, 7) ∧ 
                  cal d nMo_faults [xr l0, xi 2] g3 w3 (fun r g4 w4 => ∃ v4 : Int, r = some (xi v4) ∧ ((v4 : Int) = 0 ∨ (v4 : Int) = 1) ∧ Q (some (xi v4)) g4 w4)))))) ∧
        ((v2 = 0) → ((0 : Int) = 0 ∨ (0 : Int) = 1) ∧ Q (some (xi 0)) g2 w2)))) ∧
  ((¬ (w l0 29) = 116) → xIs g l0 (0, 7) ∧ 
    cal d nMo_faults [xr l0, xi 1] g w (fun r g5 w5 => ∃ v5 : Int, r = some (xi v5) ∧ ((v5 : Int) = 0 ∨ (v5 : Int) = 1) ∧ Q (some (xi v5)) g5 w5))) :
    aMo_readsTown d lim Q 0 [xr l0] [] g w := xAt_exec (cal_m d) kMo_readsTown 38 t
set_option maxRecDepth 20000 in
theorem wMo_readsTown_82 {d : Nat} {lim : Nat × Nat} {Q : xQ} {l0 : Nat} {g : xG} {w : xW} (t : xIs g l0 (0, 7) ∧ 
  cal d nMo_takes [xr l0, xi 1, xi 6] g w (fun r g1 w1 => ∃ v1 : Int, r = some (xi v1) ∧ 
    ((¬ v1 = 0) → xIs g1 l0 (0, 7) ∧ xIs g1 l0 (0, 7) ∧ aMo_readsTown d lim Q 102 [xr l0] [] g1 (xup w1 l0 34 (w1 l0 32))) ∧
    ((v1 = 0) → ((0 : Int) = 0 ∨ (0 : Int) = 1) ∧ Q (some (xi 0)) g1 w1))) :
    aMo_readsTown d lim Q 82 [xr l0] [] g w := xAt_exec (cal_m d) kMo_readsTown 10 t
set_option maxRecDepth 20000 in
theorem wMo_readsTown_102 {d : Nat} {lim : Nat × Nat} {Q : xQ} {l0 : Nat} {g : xG} {w : xW} (t : xIs g l0 (0, 7) ∧ 
  cal d nMo_takes [xr l0, xi 0, xi 200] g w (fun r g1 w1 => ∃ v1 : Int, r = some (xi v1) ∧ 
    ((¬ v1 = 0) → xIs g1 l0 (0, 7) ∧ xIs g1 l0 (0, 7) ∧ xIs g1 l0 (0, 7) ∧ 
      cal d nMo_stops [xr l0] g1 (xup w1 l0 35 (w1 l0 32)) (fun r g2 w2 => ∃ v2 : Int, r = some (xi v2) ∧ ((v2 : Int) = 0 ∨ (v2 : Int) = 1) ∧ Q (some (xi v2)) g2 w2)) ∧
    ((v1 = 0) → ((0 : Int) = 0 ∨ (0 : Int) = 1) ∧ Q (some (xi 0)) g1 w1))) :
    aMo_readsTown d lim Q 102 [xr l0] [] g w := xAt_exec (cal_m d) kMo_readsTown 13 t
theorem eMo_readsTown {d : Nat} {Q : xQ} {l0 : Nat} {g : xG} {w : xW} (t : ∀ (lim : Nat × Nat) (Q2 : xQ), (∀ r g2 w2, g2.1 = g.1 → Q r g2 w2 → Q2 r g2 w2) → aMo_readsTown d lim Q2 0 [xr l0] [] g w) : cal (d + 1) nMo_readsTown [xr l0] g w Q := t _ _ xQof
abbrev aMo_readsWall (d : Nat) (lim : Nat × Nat) (Q : xQ) : xK := xAt xMks tMo_readsWall (cal d) lim Q
def kMo_readsWall : List (Nat × List Bool) := [(122, [true, true, false]), (140, [true, false, false])]
set_option maxRecDepth 20000 in
theorem wMo_readsWall_0 {d : Nat} {lim : Nat × Nat} {Q : xQ} {l0 : Nat} {g : xG} {w : xW} (t : xIs g l0 (0, 7) ∧ 
  ((¬ (w l0 37) = 12) → xIs g l0 (0, 7) ∧ x32 ((w l0 37) + 1) ∧ xIs g l0 (0, 7) ∧ xIs g l0 (0, 7) ∧ 
    cal d nMo_goOn [xr l0] g (xup w l0 37 ((w l0 37) + 1)) (fun r g1 w1 => r = none ∧ xIs g1 l0 (0, 7) ∧ 
      cal d nMo_takesX [xr l0] g1 w1 (fun r g2 w2 => ∃ v2 : Int, r = some (xi v2) ∧ 
        ((v2 = 0) → ((0 : Int) = 0 ∨ (0 : Int) = 1) ∧ Q (some (xi 0)) g2 w2) ∧
        ((¬ v2 = 0) → xIs g2 l0 (0, 7) ∧ xIs g2 l0 (0, 7) ∧ 
          cal d nMo_seesY [xr l0, xi (w2 l0 32)] g2 w2 (fun r g3 w3 => ∃ v3 : Int, r = some (xi v3) ∧ 
            ((¬ v3 = 0) → xIs g3 l0 (0, 7) ∧ xIs g3 l0 (0, 7) ∧ 
              cal d nMo_goOn [xr l0] g3 w3 (fun r g4 w4 => r = none ∧ xIs g4 l0 (0, 7) ∧ 
                (((w4 l0 29) = 1) → xIs g4 l0 (0, 7) ∧ 
                  ((¬ (w4 l0 30) = 0) → xIs g4 l0 (0, 7) ∧ (((w4 l0 33) : Int) ≠ 0 ∧ x32 (Int.tdiv (w3 l0 47) (w4 l0 33))) ∧ xIs g4 l0 (0, 7) ∧ x32 ((w4 l0 34) - 1) ∧ 
                    ((((w4 l0 34) - 1) ≤ (Int.tdiv (w3 l0 47) (w4 l0 33))) → aMo_readsWall d lim Q 122 [xr l0, xi (w3 l0 47), none] [xi 0] g4 w4) ∧
                    (((Int.tdiv (w3 l0 47) (w4 l0 33)) < ((w4 l0 34) - 1)) → aMo_readsWall d lim Q 122 [xr l0, xi (w3 l0 47), none] [xi 1] g4 w4)) ∧
                  (((w4 l0 30) = 0) → xIs g4 l0 (0, 7) ∧ (((w4 l0 33) : Int) ≠ 0 ∧ x32 (Int.tdiv (w3 l0 47) (w4 l0 33))) ∧ xIs g4 l0 (0, 7) ∧ x32 ((w4 l0 33) - 1) ∧ 
                    ((((w4 l0 33) - 1) ≤ (Int.tmod (w3 l0 47) (w4 l0 33))) → aMo_readsWall d lim Q 122 [xr l0, xi (w3 l0 47), none] [xi 0] g4 w4) ∧
                    (((Int.tmod (w3 l0 47) (w4 l0 33)) < ((w4 l0 33) - 1)) → aMo_readsWall d lim Q 122 [xr l0, xi (w3 l0 47), none] [xi 1] g4 w4))) ∧
                ((¬ (w4 l0 29) = 1) → xIs g4 l0 (0, 7) ∧ 
                  cal d nMo_faults [xr l0, xi 1] g4 w4 (fun r g5 w5 => ∃ v5 : Int, r = some (xi v5) ∧ ((v5 : Int) = 0 ∨ (v5 : Int) = 1) ∧ Q (some (xi v5)) g5 w5)))) ∧
            ((v3 = 0) → ((0 : Int) = 0 ∨ (0 : Int) = 1) ∧ Q (some (xi 0)) g3 w3)))))) ∧
  (((w l0 37) = 12) → xIs g l0 (0, 7) ∧ 
    cal d nMo_faults [xr l0, xi 3] g w (fun r g6 w6 => ∃ v6 : Int, r = some (xi v6) ∧ ((v6 : Int) = 0 ∨ (v6 : Int) = 1) ∧ Q (some (xi v6)) g6 w6))) :
    aMo_readsWall d lim Q 0 [xr l0, none, none] [] g w := xAt_exec (cal_m d) kMo_readsWall 44 t
set_option maxRecDepth 20000 in
theorem wMo_readsWall_122 {d : Nat} {lim : Nat × Nat} {Q : xQ} {l1 s0 : Int} {l0 : Nat} {g : xG} {w : xW} (t : xIs g l0 (0, 7) ∧ 
  cal d nMo_in [xl (w l0 30), xl 0, xl 1] g w (fun r g1 w1 => ∃ v1 : Int, r = some (xi v1) ∧ 
    ((v1 = 0) → aMo_readsWall d lim Q 140 [xr l0, none, none] [] g1 w1) ∧
    ((¬ v1 = 0) → 
      ((¬ s0 = 0) → xIs g1 l0 (0, 7) ∧ xIs g1 l0 (0, 7) ∧ x32 (20 * (w1 l0 30)) ∧ x32 ((20 * (w1 l0 30)) + l1) ∧ xAr g1 (g1.2 l0 36) ((20 * (w1 l0 30)) + l1) ∧ 
        ((¬ (w1 (g1.2 l0 36) (Int.toNat ((20 * (w1 l0 30)) + l1))) = 1) → xIs g1 l0 (0, 7) ∧ xIs g1 l0 (0, 7) ∧ x32 (20 * (w1 l0 30)) ∧ x32 ((20 * (w1 l0 30)) + l1) ∧ xA1 g1 (g1.2 l0 36) ((20 * (w1 l0 30)) + l1) ∧ xIs g1 l0 (0, 7) ∧ 
          cal d nMo_goOn [xr l0] g1 (xup w1 (g1.2 l0 36) (Int.toNat ((20 * (w1 l0 30)) + l1)) 1) (fun r g2 w2 => r = none ∧ xIs g2 l0 (0, 7) ∧ 
            cal d nMo_stops [xr l0] g2 w2 (fun r g3 w3 => ∃ v3 : Int, r = some (xi v3) ∧ ((v3 : Int) = 0 ∨ (v3 : Int) = 1) ∧ Q (some (xi v3)) g3 w3))) ∧
        (((w1 (g1.2 l0 36) (Int.toNat ((20 * (w1 l0 30)) + l1))) = 1) → xIs g1 l0 (0, 7) ∧ 
          cal d nMo_faults [xr l0, xi 4] g1 w1 (fun r g4 w4 => ∃ v4 : Int, r = some (xi v4) ∧ ((v4 : Int) = 0 ∨ (v4 : Int) = 1) ∧ Q (some (xi v4)) g4 w4))) ∧
      ((s0 = 0) → aMo_readsWall d lim Q 140 [xr l0, none, none] [] g1 w1)))) :
    aMo_readsWall d lim Q 122 [xr l0, xi l1, none] [xi s0] g w := xAt_exec (cal_m d) kMo_readsWall 37 t
set_option maxRecDepth 20000 in
theorem wMo_readsWall_140 {d : Nat} {lim : Nat × Nat} {Q : xQ} {l0 : Nat} {g : xG} {w : xW} (t : xIs g l0 (0, 7) ∧ 
  cal d nMo_faults [xr l0, xi 2] g w (fun r g1 w1 => ∃ v1 : Int, r = some (xi v1) ∧ ((v1 : Int) = 0 ∨ (v1 : Int) = 1) ∧ Q (some (xi v1)) g1 w1)) :
    aMo_readsWall d lim Q 140 [xr l0, none, none] [] g w := xAt_exec (cal_m d) kMo_readsWall 5 t
theorem eMo_readsWall {d : Nat} {Q : xQ} {l0 : Nat} {g : xG} {w : xW} (t : ∀ (lim : Nat × Nat) (Q2 : xQ), (∀ r g2 w2, g2.1 = g.1 → Q r g2 w2 → Q2 r g2 w2) → aMo_readsWall d lim Q2 0 [xr l0, none, none] [] g w) : cal (d + 1) nMo_readsWall [xr l0] g w Q := t _ _ xQof
abbrev aMo_readsStove (d : Nat) (lim : Nat × Nat) (Q : xQ) : xK := xAt xMks tMo_readsStove (cal d) lim Q
def kMo_readsStove : List (Nat × List Bool) := [(66, [true]), (79, [true]), (110, [true]), (138, [true])]
set_option maxRecDepth 20000 in
theorem wMo_readsStove_0 {d : Nat} {lim : Nat × Nat} {Q : xQ} {l0 : Nat} {g : xG} {w : xW} (t : xIs g l0 (0, 7) ∧ 
  ((¬ (w l0 40) = 4) → xIs g l0 (0, 7) ∧ 
    cal d nMo_goOn [xr l0] g w (fun r g1 w1 => r = none ∧ xIs g1 l0 (0, 7) ∧ 
      cal d nMo_takesX [xr l0] g1 w1 (fun r g2 w2 => ∃ v2 : Int, r = some (xi v2) ∧ 
        ((v2 = 0) → ((0 : Int) = 0 ∨ (0 : Int) = 1) ∧ Q (some (xi 0)) g2 w2) ∧
        ((¬ v2 = 0) → xIs g2 l0 (0, 7) ∧ xIs g2 l0 (0, 7) ∧ 
          cal d nMo_seesY [xr l0, xi (w2 l0 32)] g2 w2 (fun r g3 w3 => ∃ v3 : Int, r = some (xi v3) ∧ 
            ((¬ v3 = 0) → xIs g3 l0 (0, 7) ∧ xIs g3 l0 (0, 7) ∧ xA2 g3 (g3.2 l0 42) (w3 l0 47) ∧ 
              (((w3 (g3.2 l0 42) (Int.toNat (w3 l0 47))) = 0) → xIs g3 l0 (0, 7) ∧ xIs g3 l0 (0, 7) ∧ (xA2 g3 (g3.2 l0 42) (w3 l0 47) ∧ ((1 : Int) = 0 ∨ (1 : Int) = 1)) ∧ aMo_readsStove d lim Q 66 [xr l0] [] g3 (xup w3 (g3.2 l0 42) (Int.toNat (w3 l0 47)) 1)) ∧
              ((¬ (w3 (g3.2 l0 42) (Int.toNat (w3 l0 47))) = 0) → xIs g3 l0 (0, 7) ∧ 
                cal d nMo_faults [xr l0, xi 4] g3 w3 (fun r g4 w4 => ∃ v4 : Int, r = some (xi v4) ∧ ((v4 : Int) = 0 ∨ (v4 : Int) = 1) ∧ Q (some (xi v4)) g4 w4))) ∧
            ((v3 = 0) → ((0 : Int) = 0 ∨ (0 : Int) = 1) ∧ Q (some (xi 0)) g3 w3)))))) ∧
  (((w l0 40) = 4) → xIs g l0 (0, 7) ∧ 
    cal d nMo_faults [xr l0, xi 3] g w (fun r g5 w5 => ∃ v5 : Int, r = some (xi v5) ∧ ((v5 : Int) = 0 ∨ (v5 : Int) = 1) ∧ Q (some (xi v5)) g5 w5))) :
    aMo_readsStove d lim Q 0 [xr l0] [] g w := xAt_exec (cal_m d) kMo_readsStove 27 t
set_option maxRecDepth 20000 in
theorem wMo_readsStove_66 {d : Nat} {lim : Nat × Nat} {Q : xQ} {l0 : Nat} {g : xG} {w : xW} (t : xIs g l0 (0, 7) ∧ xIs g l0 (0, 7) ∧ xIs g l0 (0, 7) ∧ xA1 g (g.2 l0 41) (w l0 40) ∧ aMo_readsStove d lim Q 79 [xr l0] [] g (xup w (g.2 l0 41) (Int.toNat (w l0 40)) (w l0 47))) :
    aMo_readsStove d lim Q 66 [xr l0] [] g w := xAt_exec (cal_m d) kMo_readsStove 8 t
set_option maxRecDepth 20000 in
theorem wMo_readsStove_79 {d : Nat} {lim : Nat × Nat} {Q : xQ} {l0 : Nat} {g : xG} {w : xW} (t : xIs g l0 (0, 7) ∧ 
  cal d nMo_goOn [xr l0] g w (fun r g1 w1 => r = none ∧ xIs g1 l0 (0, 7) ∧ 
    cal d nMo_takes [xr l0, xi 1, xi 60] g1 w1 (fun r g2 w2 => ∃ v2 : Int, r = some (xi v2) ∧ 
      ((¬ v2 = 0) → xIs g2 l0 (0, 7) ∧ xIs g2 l0 (0, 7) ∧ x32 (4 + (w2 l0 40)) ∧ xIs g2 l0 (0, 7) ∧ xA1 g2 (g2.2 l0 41) (4 + (w2 l0 40)) ∧ aMo_readsStove d lim Q 110 [xr l0] [] g2 (xup w2 (g2.2 l0 41) (Int.toNat (4 + (w2 l0 40))) (w2 l0 32))) ∧
      ((v2 = 0) → ((0 : Int) = 0 ∨ (0 : Int) = 1) ∧ Q (some (xi 0)) g2 w2)))) :
    aMo_readsStove d lim Q 79 [xr l0] [] g w := xAt_exec (cal_m d) kMo_readsStove 17 t
set_option maxRecDepth 20000 in
theorem wMo_readsStove_110 {d : Nat} {lim : Nat × Nat} {Q : xQ} {l0 : Nat} {g : xG} {w : xW} (t : xIs g l0 (0, 7) ∧ 
  cal d nMo_takes [xr l0, xi 0, xi 99] g w (fun r g1 w1 => ∃ v1 : Int, r = some (xi v1) ∧ 
    ((¬ v1 = 0) → xIs g1 l0 (0, 7) ∧ xIs g1 l0 (0, 7) ∧ x32 (8 + (w1 l0 40)) ∧ xIs g1 l0 (0, 7) ∧ xA1 g1 (g1.2 l0 41) (8 + (w1 l0 40)) ∧ aMo_readsStove d lim Q 138 [xr l0] [] g1 (xup w1 (g1.2 l0 41) (Int.toNat (8 + (w1 l0 40))) (w1 l0 32))) ∧
    ((v1 = 0) → ((0 : Int) = 0 ∨ (0 : Int) = 1) ∧ Q (some (xi 0)) g1 w1))) :
    aMo_readsStove d lim Q 110 [xr l0] [] g w := xAt_exec (cal_m d) kMo_readsStove 15 t
set_option maxRecDepth 20000 in
theorem wMo_readsStove_138 {d : Nat} {lim : Nat × Nat} {Q : xQ} {l0 : Nat} {g : xG} {w : xW} (t : xIs g l0 (0, 7) ∧ x32 ((w l0 40) + 1) ∧ xIs g l0 (0, 7) ∧ xIs g l0 (0, 7) ∧ 
  cal d nMo_stops [xr l0] g (xup w l0 40 ((w l0 40) + 1)) (fun r g1 w1 => ∃ v1 : Int, r = some (xi v1) ∧ ((v1 : Int) = 0 ∨ (v1 : Int) = 1) ∧ Q (some (xi v1)) g1 w1)) :
    aMo_readsStove d lim Q 138 [xr l0] [] g w := xAt_exec (cal_m d) kMo_readsStove 10 t
theorem eMo_readsStove {d : Nat} {Q : xQ} {l0 : Nat} {g : xG} {w : xW} (t : ∀ (lim : Nat × Nat) (Q2 : xQ), (∀ r g2 w2, g2.1 = g.1 → Q r g2 w2 → Q2 r g2 w2) → aMo_readsStove d lim Q2 0 [xr l0] [] g w) : cal (d + 1) nMo_readsStove [xr l0] g w Q := t _ _ xQof
abbrev aMo_readsRoof (d : Nat) (lim : Nat × Nat) (Q : xQ) : xK := xAt xMks tMo_readsRoof (cal d) lim Q
def kMo_readsRoof : List (Nat × List Bool) := [(25, [true])]
set_option maxRecDepth 20000 in
theorem wMo_readsRoof_0 {d : Nat} {lim : Nat × Nat} {Q : xQ} {l0 : Nat} {g : xG} {w : xW} (t : xIs g l0 (0, 7) ∧ 
  ((¬ (w l0 39) = 12) → xIs g l0 (0, 7) ∧ x32 ((w l0 39) + 1) ∧ xIs g l0 (0, 7) ∧ aMo_readsRoof d lim Q 25 [xr l0] [] g (xup w l0 39 ((w l0 39) + 1))) ∧
  (((w l0 39) = 12) → xIs g l0 (0, 7) ∧ 
    cal d nMo_faults [xr l0, xi 3] g w (fun r g1 w1 => ∃ v1 : Int, r = some (xi v1) ∧ ((v1 : Int) = 0 ∨ (v1 : Int) = 1) ∧ Q (some (xi v1)) g1 w1))) :
    aMo_readsRoof d lim Q 0 [xr l0] [] g w := xAt_exec (cal_m d) kMo_readsRoof 11 t
set_option maxRecDepth 20000 in
theorem wMo_readsRoof_25 {d : Nat} {lim : Nat × Nat} {Q : xQ} {l0 : Nat} {g : xG} {w : xW} (t : xIs g l0 (0, 7) ∧ 
  cal d nMo_goOn [xr l0] g w (fun r g1 w1 => r = none ∧ xIs g1 l0 (0, 7) ∧ 
    cal d nMo_takesX [xr l0] g1 w1 (fun r g2 w2 => ∃ v2 : Int, r = some (xi v2) ∧ 
      ((v2 = 0) → ((0 : Int) = 0 ∨ (0 : Int) = 1) ∧ Q (some (xi 0)) g2 w2) ∧
      ((¬ v2 = 0) → xIs g2 l0 (0, 7) ∧ xIs g2 l0 (0, 7) ∧ 
        cal d nMo_seesY [xr l0, xi (w2 l0 32)] g2 w2 (fun r g3 w3 => ∃ v3 : Int, r = some (xi v3) ∧ 
          ((¬ v3 = 0) → xIs g3 l0 (0, 7) ∧ xIs g3 l0 (0, 7) ∧ xA2 g3 (g3.2 l0 38) (w3 l0 47) ∧ 
            (((w3 (g3.2 l0 38) (Int.toNat (w3 l0 47))) = 0) → xIs g3 l0 (0, 7) ∧ xIs g3 l0 (0, 7) ∧ (xA2 g3 (g3.2 l0 38) (w3 l0 47) ∧ ((1 : Int) = 0 ∨ (1 : Int) = 1)) ∧ xIs g3 l0 (0, 7) ∧ 
              cal d nMo_goOn [xr l0] g3 (xup w3 (g3.2 l0 38) (Int.toNat (w3 l0 47)) 1) (fun r g4 w4 => r = none ∧ xIs g4 l0 (0, 7) ∧ 
                cal d nMo_stops [xr l0] g4 w4 (fun r g5 w5 => ∃ v5 : Int, r = some (xi v5) ∧ ((v5 : Int) = 0 ∨ (v5 : Int) = 1) ∧ Q (some (xi v5)) g5 w5))) ∧
            ((¬ (w3 (g3.2 l0 38) (Int.toNat (w3 l0 47))) = 0) → xIs g3 l0 (0, 7) ∧ 
              cal d nMo_faults [xr l0, xi 4] g3 w3 (fun r g6 w6 => ∃ v6 : Int, r = some (xi v6) ∧ ((v6 : Int) = 0 ∨ (v6 : Int) = 1) ∧ Q (some (xi v6)) g6 w6))) ∧
          ((v3 = 0) → ((0 : Int) = 0 ∨ (0 : Int) = 1) ∧ Q (some (xi 0)) g3 w3)))))) :
    aMo_readsRoof d lim Q 25 [xr l0] [] g w := xAt_exec (cal_m d) kMo_readsRoof 28 t
theorem eMo_readsRoof {d : Nat} {Q : xQ} {l0 : Nat} {g : xG} {w : xW} (t : ∀ (lim : Nat × Nat) (Q2 : xQ), (∀ r g2 w2, g2.1 = g.1 → Q r g2 w2 → Q2 r g2 w2) → aMo_readsRoof d lim Q2 0 [xr l0] [] g w) : cal (d + 1) nMo_readsRoof [xr l0] g w Q := t _ _ xQof
abbrev aMo_readsSun (d : Nat) (lim : Nat × Nat) (Q : xQ) : xK := xAt xMks tMo_readsSun (cal d) lim Q
def kMo_readsSun : List (Nat × List Bool) := [(19, [true, true]), (48, [true, false]), (81, [true, false])]
set_option maxRecDepth 20000 in
theorem wMo_readsSun_0 {d : Nat} {lim : Nat × Nat} {Q : xQ} {l0 : Nat} {g : xG} {w : xW} (t : xIs g l0 (0, 7) ∧ 
  (((w l0 43) ≤ 0) → xIs g l0 (0, 7) ∧ 
    cal d nMo_goOn [xr l0] g w (fun r g1 w1 => r = none ∧ aMo_readsSun d lim Q 19 [xr l0, xi 1] [] g1 w1)) ∧
  ((0 < (w l0 43)) → xIs g l0 (0, 7) ∧ 
    cal d nMo_faults [xr l0, xi 3] g w (fun r g2 w2 => ∃ v2 : Int, r = some (xi v2) ∧ ((v2 : Int) = 0 ∨ (v2 : Int) = 1) ∧ Q (some (xi v2)) g2 w2))) :
    aMo_readsSun d lim Q 0 [xr l0, none] [] g w := xAt_exec (cal_m d) kMo_readsSun 8 t
set_option maxRecDepth 20000 in
theorem wMo_readsSun_19 {d : Nat} {lim : Nat × Nat} {Q : xQ} {l1 : Int} {l0 : Nat} {g : xG} {w : xW} (t : 
  ((l1 = 0) → xIs g l0 (0, 7) ∧ 
    cal d nMo_stops [xr l0] g w (fun r g1 w1 => ∃ v1 : Int, r = some (xi v1) ∧ ((v1 : Int) = 0 ∨ (v1 : Int) = 1) ∧ Q (some (xi v1)) g1 w1)) ∧
  ((¬ l1 = 0) → xIs g l0 (0, 7) ∧ 
    cal d nMo_takes [xr l0, xi 0, xi 30] g w (fun r g2 w2 => ∃ v2 : Int, r = some (xi v2) ∧ 
      ((¬ v2 = 0) → xIs g2 l0 (0, 7) ∧ xIs g2 l0 (0, 7) ∧ xIs g2 l0 (0, 7) ∧ xA1 g2 (g2.2 l0 44) (w2 l0 43) ∧ aMo_readsSun d lim Q 48 [xr l0, none] [] g2 (xup w2 (g2.2 l0 44) (Int.toNat (w2 l0 43)) (w2 l0 32))) ∧
      ((v2 = 0) → ((0 : Int) = 0 ∨ (0 : Int) = 1) ∧ Q (some (xi 0)) g2 w2)))) :
    aMo_readsSun d lim Q 19 [xr l0, xi l1] [] g w := xAt_exec (cal_m d) kMo_readsSun 15 t
set_option maxRecDepth 20000 in
theorem wMo_readsSun_48 {d : Nat} {lim : Nat × Nat} {Q : xQ} {l0 : Nat} {g : xG} {w : xW} (t : xIs g l0 (0, 7) ∧ x32 ((w l0 43) + 1) ∧ xIs g l0 (0, 7) ∧ xIs g l0 (0, 7) ∧ 
  ((¬ ((xup w l0 43 ((w l0 43) + 1)) l0 29) = 44) → aMo_readsSun d lim Q 81 [xr l0, none] [xi 0] g (xup w l0 43 ((w l0 43) + 1))) ∧
  ((((xup w l0 43 ((w l0 43) + 1)) l0 29) = 44) → xIs g l0 (0, 7) ∧ 
    ((8 ≤ ((xup w l0 43 ((w l0 43) + 1)) l0 43)) → aMo_readsSun d lim Q 81 [xr l0, none] [xi 0] g (xup w l0 43 ((w l0 43) + 1))) ∧
    ((((xup w l0 43 ((w l0 43) + 1)) l0 43) < 8) → aMo_readsSun d lim Q 81 [xr l0, none] [xi 1] g (xup w l0 43 ((w l0 43) + 1))))) :
    aMo_readsSun d lim Q 48 [xr l0, none] [] g w := xAt_exec (cal_m d) kMo_readsSun 17 t
set_option maxRecDepth 20000 in
theorem wMo_readsSun_81 {d : Nat} {lim : Nat × Nat} {Q : xQ} {s0 : Int} {l0 : Nat} {g : xG} {w : xW} (t : 
  ((s0 = 0) → aMo_readsSun d lim Q 19 [xr l0, xi s0] [] g w) ∧
  ((¬ s0 = 0) → xIs g l0 (0, 7) ∧ 
    cal d nMo_goOn [xr l0] g w (fun r g1 w1 => r = none ∧ aMo_readsSun d lim Q 19 [xr l0, xi s0] [] g1 w1))) :
    aMo_readsSun d lim Q 81 [xr l0, none] [xi s0] g w := xAt_exec (cal_m d) kMo_readsSun 7 t
theorem eMo_readsSun {d : Nat} {Q : xQ} {l0 : Nat} {g : xG} {w : xW} (t : ∀ (lim : Nat × Nat) (Q2 : xQ), (∀ r g2 w2, g2.1 = g.1 → Q r g2 w2 → Q2 r g2 w2) → aMo_readsSun d lim Q2 0 [xr l0, none] [] g w) : cal (d + 1) nMo_readsSun [xr l0] g w Q := t _ _ xQof
abbrev aMo_readsPerson (d : Nat) (lim : Nat × Nat) (Q : xQ) : xK := xAt xMks tMo_readsPerson (cal d) lim Q
def kMo_readsPerson : List (Nat × List Bool) := [(52, [true]), (85, [true]), (113, [true]), (141, [true])]
set_option maxRecDepth 20000 in
theorem wMo_readsPerson_0 {d : Nat} {lim : Nat × Nat} {Q : xQ} {l0 : Nat} {g : xG} {w : xW} (t : xIs g l0 (0, 7) ∧ 
  ((¬ (w l0 45) = 6) → xIs g l0 (0, 7) ∧ 
    cal d nMo_goOn [xr l0] g w (fun r g1 w1 => r = none ∧ xIs g1 l0 (0, 7) ∧ 
      cal d nMo_takesX [xr l0] g1 w1 (fun r g2 w2 => ∃ v2 : Int, r = some (xi v2) ∧ 
        ((v2 = 0) → ((0 : Int) = 0 ∨ (0 : Int) = 1) ∧ Q (some (xi 0)) g2 w2) ∧
        ((¬ v2 = 0) → xIs g2 l0 (0, 7) ∧ xIs g2 l0 (0, 7) ∧ 
          cal d nMo_seesY [xr l0, xi (w2 l0 32)] g2 w2 (fun r g3 w3 => ∃ v3 : Int, r = some (xi v3) ∧ 
            ((¬ v3 = 0) → xIs g3 l0 (0, 7) ∧ xIs g3 l0 (0, 7) ∧ xIs g3 l0 (0, 7) ∧ xA1 g3 (g3.2 l0 46) (w3 l0 45) ∧ aMo_readsPerson d lim Q 52 [xr l0] [] g3 (xup w3 (g3.2 l0 46) (Int.toNat (w3 l0 45)) (w3 l0 47))) ∧
            ((v3 = 0) → ((0 : Int) = 0 ∨ (0 : Int) = 1) ∧ Q (some (xi 0)) g3 w3)))))) ∧
  (((w l0 45) = 6) → xIs g l0 (0, 7) ∧ 
    cal d nMo_faults [xr l0, xi 3] g w (fun r g4 w4 => ∃ v4 : Int, r = some (xi v4) ∧ ((v4 : Int) = 0 ∨ (v4 : Int) = 1) ∧ Q (some (xi v4)) g4 w4))) :
    aMo_readsPerson d lim Q 0 [xr l0] [] g w := xAt_exec (cal_m d) kMo_readsPerson 22 t
set_option maxRecDepth 20000 in
theorem wMo_readsPerson_52 {d : Nat} {lim : Nat × Nat} {Q : xQ} {l0 : Nat} {g : xG} {w : xW} (t : xIs g l0 (0, 7) ∧ 
  cal d nMo_goOn [xr l0] g w (fun r g1 w1 => r = none ∧ xIs g1 l0 (0, 7) ∧ 
    cal d nMo_takes [xr l0, xi 0, xi 300] g1 w1 (fun r g2 w2 => ∃ v2 : Int, r = some (xi v2) ∧ 
      ((¬ v2 = 0) → xIs g2 l0 (0, 7) ∧ xIs g2 l0 (0, 7) ∧ x32 (6 + (w2 l0 45)) ∧ xIs g2 l0 (0, 7) ∧ xA1 g2 (g2.2 l0 46) (6 + (w2 l0 45)) ∧ aMo_readsPerson d lim Q 85 [xr l0] [] g2 (xup w2 (g2.2 l0 46) (Int.toNat (6 + (w2 l0 45))) (w2 l0 32))) ∧
      ((v2 = 0) → ((0 : Int) = 0 ∨ (0 : Int) = 1) ∧ Q (some (xi 0)) g2 w2)))) :
    aMo_readsPerson d lim Q 52 [xr l0] [] g w := xAt_exec (cal_m d) kMo_readsPerson 17 t
set_option maxRecDepth 20000 in
theorem wMo_readsPerson_85 {d : Nat} {lim : Nat × Nat} {Q : xQ} {l0 : Nat} {g : xG} {w : xW} (t : xIs g l0 (0, 7) ∧ 
  cal d nMo_takes [xr l0, xi 1, xi 60] g w (fun r g1 w1 => ∃ v1 : Int, r = some (xi v1) ∧ 
    ((¬ v1 = 0) → xIs g1 l0 (0, 7) ∧ xIs g1 l0 (0, 7) ∧ x32 (12 + (w1 l0 45)) ∧ xIs g1 l0 (0, 7) ∧ xA1 g1 (g1.2 l0 46) (12 + (w1 l0 45)) ∧ aMo_readsPerson d lim Q 113 [xr l0] [] g1 (xup w1 (g1.2 l0 46) (Int.toNat (12 + (w1 l0 45))) (w1 l0 32))) ∧
    ((v1 = 0) → ((0 : Int) = 0 ∨ (0 : Int) = 1) ∧ Q (some (xi 0)) g1 w1))) :
    aMo_readsPerson d lim Q 85 [xr l0] [] g w := xAt_exec (cal_m d) kMo_readsPerson 15 t
set_option maxRecDepth 20000 in
theorem wMo_readsPerson_113 {d : Nat} {lim : Nat × Nat} {Q : xQ} {l0 : Nat} {g : xG} {w : xW} (t : xIs g l0 (0, 7) ∧ 
  cal d nMo_takes [xr l0, xi 0, xi 9] g w (fun r g1 w1 => ∃ v1 : Int, r = some (xi v1) ∧ 
    ((¬ v1 = 0) → xIs g1 l0 (0, 7) ∧ xIs g1 l0 (0, 7) ∧ x32 (18 + (w1 l0 45)) ∧ xIs g1 l0 (0, 7) ∧ xA1 g1 (g1.2 l0 46) (18 + (w1 l0 45)) ∧ aMo_readsPerson d lim Q 141 [xr l0] [] g1 (xup w1 (g1.2 l0 46) (Int.toNat (18 + (w1 l0 45))) (w1 l0 32))) ∧
    ((v1 = 0) → ((0 : Int) = 0 ∨ (0 : Int) = 1) ∧ Q (some (xi 0)) g1 w1))) :
    aMo_readsPerson d lim Q 113 [xr l0] [] g w := xAt_exec (cal_m d) kMo_readsPerson 15 t
set_option maxRecDepth 20000 in
theorem wMo_readsPerson_141 {d : Nat} {lim : Nat × Nat} {Q : xQ} {l0 : Nat} {g : xG} {w : xW} (t : xIs g l0 (0, 7) ∧ x32 ((w l0 45) + 1) ∧ xIs g l0 (0, 7) ∧ xIs g l0 (0, 7) ∧ 
  cal d nMo_stops [xr l0] g (xup w l0 45 ((w l0 45) + 1)) (fun r g1 w1 => ∃ v1 : Int, r = some (xi v1) ∧ ((v1 : Int) = 0 ∨ (v1 : Int) = 1) ∧ Q (some (xi v1)) g1 w1)) :
    aMo_readsPerson d lim Q 141 [xr l0] [] g w := xAt_exec (cal_m d) kMo_readsPerson 10 t
theorem eMo_readsPerson {d : Nat} {Q : xQ} {l0 : Nat} {g : xG} {w : xW} (t : ∀ (lim : Nat × Nat) (Q2 : xQ), (∀ r g2 w2, g2.1 = g.1 → Q r g2 w2 → Q2 r g2 w2) → aMo_readsPerson d lim Q2 0 [xr l0] [] g w) : cal (d + 1) nMo_readsPerson [xr l0] g w Q := t _ _ xQof
abbrev aMo_readsClause (d : Nat) (lim : Nat × Nat) (Q : xQ) : xK := xAt xMks tMo_readsClause (cal d) lim Q
def kMo_readsClause : List (Nat × List Bool) := [(96, [false])]
set_option maxRecDepth 20000 in
theorem wMo_readsClause_0 {d : Nat} {lim : Nat × Nat} {Q : xQ} {l0 : Nat} {g : xG} {w : xW} (t : xIs g l0 (0, 7) ∧ 
  (((w l0 29) < 111 ∨ 119 < (w l0 29)) → xIs g l0 (0, 7) ∧ 
    ((¬ (w l0 29) = 116) → aMo_readsClause d lim Q 96 [none] [xi 1, xr l0] g w) ∧
    (((w l0 29) = 116) → aMo_readsClause d lim Q 96 [none] [xi 3, xr l0] g w)) ∧
  (((w l0 29) = 111) → xIs g l0 (0, 7) ∧ 
    cal d nMo_readsStove [xr l0] g w (fun r g1 w1 => ∃ v1 : Int, r = some (xi v1) ∧ ((v1 : Int) = 0 ∨ (v1 : Int) = 1) ∧ Q (some (xi v1)) g1 w1)) ∧
  (((w l0 29) = 112) → xIs g l0 (0, 7) ∧ 
    cal d nMo_readsPerson [xr l0] g w (fun r g2 w2 => ∃ v2 : Int, r = some (xi v2) ∧ ((v2 : Int) = 0 ∨ (v2 : Int) = 1) ∧ Q (some (xi v2)) g2 w2)) ∧
  (((w l0 29) = 113) → xIs g l0 (0, 7) ∧ 
    ((¬ (w l0 29) = 116) → aMo_readsClause d lim Q 96 [none] [xi 1, xr l0] g w) ∧
    (((w l0 29) = 116) → aMo_readsClause d lim Q 96 [none] [xi 3, xr l0] g w)) ∧
  (((w l0 29) = 114) → xIs g l0 (0, 7) ∧ 
    cal d nMo_readsRoof [xr l0] g w (fun r g3 w3 => ∃ v3 : Int, r = some (xi v3) ∧ ((v3 : Int) = 0 ∨ (v3 : Int) = 1) ∧ Q (some (xi v3)) g3 w3)) ∧
  (((w l0 29) = 115) → xIs g l0 (0, 7) ∧ 
    cal d nMo_readsSun [xr l0] g w (fun r g4 w4 => ∃ v4 : Int, r = some (xi v4) ∧ ((v4 : Int) = 0 ∨ (v4 : Int) = 1) ∧ Q (some (xi v4)) g4 w4)) ∧
  (((w l0 29) = 116) → xIs g l0 (0, 7) ∧ 
    ((¬ (w l0 29) = 116) → aMo_readsClause d lim Q 96 [none] [xi 1, xr l0] g w) ∧
    (((w l0 29) = 116) → aMo_readsClause d lim Q 96 [none] [xi 3, xr l0] g w)) ∧
  (((w l0 29) = 117) → xIs g l0 (0, 7) ∧ 
    ((¬ (w l0 29) = 116) → aMo_readsClause d lim Q 96 [none] [xi 1, xr l0] g w) ∧
    (((w l0 29) = 116) → aMo_readsClause d lim Q 96 [none] [xi 3, xr l0] g w)) ∧
  (((w l0 29) = 118) → xIs g l0 (0, 7) ∧ 
    ((¬ (w l0 29) = 116) → aMo_readsClause d lim Q 96 [none] [xi 1, xr l0] g w) ∧
    (((w l0 29) = 116) → aMo_readsClause d lim Q 96 [none] [xi 3, xr l0] g w)) ∧
  (((w l0 29) = 119) → xIs g l0 (0, 7) ∧ 
    cal d nMo_readsWall [xr l0] g w (fun r g5 w5 => ∃ v5 : Int, r = some (xi v5) ∧ ((v5 : Int) = 0 ∨ (v5 : Int) = 1) ∧ Q (some (xi v5)) g5 w5)) ∧ True) :
    aMo_readsClause d lim Q 0 [xr l0] [] g w := xAt_exec (cal_m d) kMo_readsClause 11 t
set_option maxRecDepth 20000 in
theorem wMo_readsClause_96 {d : Nat} {lim : Nat × Nat} {Q : xQ} {s1 : Int} {s0 : Nat} {g : xG} {w : xW} (t : xIs g s0 (0, 7) ∧ 
  cal d nMo_faults [xr s0, xi s1] g w (fun r g1 w1 => ∃ v1 : Int, r = some (xi v1) ∧ ((v1 : Int) = 0 ∨ (v1 : Int) = 1) ∧ Q (some (xi v1)) g1 w1)) :
    aMo_readsClause d lim Q 96 [none] [xi s1, xr s0] g w := xAt_exec (cal_m d) kMo_readsClause 3 t
theorem eMo_readsClause {d : Nat} {Q : xQ} {l0 : Nat} {g : xG} {w : xW} (t : ∀ (lim : Nat × Nat) (Q2 : xQ), (∀ r g2 w2, g2.1 = g.1 → Q r g2 w2 → Q2 r g2 w2) → aMo_readsClause d lim Q2 0 [xr l0] [] g w) : cal (d + 1) nMo_readsClause [xr l0] g w Q := t _ _ xQof
abbrev aMo_readsAll (d : Nat) (lim : Nat × Nat) (Q : xQ) : xK := xAt xMks tMo_readsAll (cal d) lim Q
def kMo_readsAll : List (Nat × List Bool) := [(5, [true, false]), (10, [true, false]), (15, [true, false]), (20, [true, false]), (25, [true, false]), (30, [true, false]), (35, [true, false]), (42, [true, true]), (55, [true, true]), (65, [true, true]), (72, [true, true]), (104, [true, true])]
set_option maxRecDepth 20000 in
theorem wMo_readsAll_0 {d : Nat} {lim : Nat × Nat} {Q : xQ} {l0 : Nat} {g : xG} {w : xW} (t : xIs g l0 (0, 7) ∧ aMo_readsAll d lim Q 5 [xr l0, none] [] g (xup w l0 33 0)) :
    aMo_readsAll d lim Q 0 [xr l0, none] [] g w := xAt_exec (cal_m d) kMo_readsAll 4 t
set_option maxRecDepth 20000 in
theorem wMo_readsAll_5 {d : Nat} {lim : Nat × Nat} {Q : xQ} {l0 : Nat} {g : xG} {w : xW} (t : xIs g l0 (0, 7) ∧ aMo_readsAll d lim Q 10 [xr l0, none] [] g (xup w l0 34 0)) :
    aMo_readsAll d lim Q 5 [xr l0, none] [] g w := xAt_exec (cal_m d) kMo_readsAll 4 t
set_option maxRecDepth 20000 in
theorem wMo_readsAll_10 {d : Nat} {lim : Nat × Nat} {Q : xQ} {l0 : Nat} {g : xG} {w : xW} (t : xIs g l0 (0, 7) ∧ aMo_readsAll d lim Q 15 [xr l0, none] [] g (xup w l0 37 0)) :
    aMo_readsAll d lim Q 10 [xr l0, none] [] g w := xAt_exec (cal_m d) kMo_readsAll 4 t
set_option maxRecDepth 20000 in
theorem wMo_readsAll_15 {d : Nat} {lim : Nat × Nat} {Q : xQ} {l0 : Nat} {g : xG} {w : xW} (t : xIs g l0 (0, 7) ∧ aMo_readsAll d lim Q 20 [xr l0, none] [] g (xup w l0 39 0)) :
    aMo_readsAll d lim Q 15 [xr l0, none] [] g w := xAt_exec (cal_m d) kMo_readsAll 4 t
set_option maxRecDepth 20000 in
theorem wMo_readsAll_20 {d : Nat} {lim : Nat × Nat} {Q : xQ} {l0 : Nat} {g : xG} {w : xW} (t : xIs g l0 (0, 7) ∧ aMo_readsAll d lim Q 25 [xr l0, none] [] g (xup w l0 40 0)) :
    aMo_readsAll d lim Q 20 [xr l0, none] [] g w := xAt_exec (cal_m d) kMo_readsAll 4 t
set_option maxRecDepth 20000 in
theorem wMo_readsAll_25 {d : Nat} {lim : Nat × Nat} {Q : xQ} {l0 : Nat} {g : xG} {w : xW} (t : xIs g l0 (0, 7) ∧ aMo_readsAll d lim Q 30 [xr l0, none] [] g (xup w l0 43 0)) :
    aMo_readsAll d lim Q 25 [xr l0, none] [] g w := xAt_exec (cal_m d) kMo_readsAll 4 t
set_option maxRecDepth 20000 in
theorem wMo_readsAll_30 {d : Nat} {lim : Nat × Nat} {Q : xQ} {l0 : Nat} {g : xG} {w : xW} (t : xIs g l0 (0, 7) ∧ aMo_readsAll d lim Q 35 [xr l0, none] [] g (xup w l0 45 0)) :
    aMo_readsAll d lim Q 30 [xr l0, none] [] g w := xAt_exec (cal_m d) kMo_readsAll 4 t
set_option maxRecDepth 20000 in
theorem wMo_readsAll_35 {d : Nat} {lim : Nat × Nat} {Q : xQ} {l0 : Nat} {g : xG} {w : xW} (t : xIs g l0 (0, 7) ∧ aMo_readsAll d lim Q 42 [xr l0, xi 0] [] g (xup w l0 31 0)) :
    aMo_readsAll d lim Q 35 [xr l0, none] [] g w := xAt_exec (cal_m d) kMo_readsAll 6 t
set_option maxRecDepth 20000 in
theorem wMo_readsAll_42 {d : Nat} {lim : Nat × Nat} {Q : xQ} {l1 : Int} {l0 : Nat} {g : xG} {w : xW} (t : 
  ((20 ≤ l1) → xIs g l0 (0, 7) ∧ 
    cal d nMo_look [xr l0, xi 0] g w (fun r g1 w1 => r = none ∧ xIs g1 l0 (0, 7) ∧ 
      ((¬ (w1 l0 29) = 0) → xIs g1 l0 (0, 7) ∧ 
        cal d nMo_readsTown [xr l0] g1 w1 (fun r g2 w2 => ∃ v2 : Int, r = some (xi v2) ∧ aMo_readsAll d lim Q 104 [xr l0, xi v2] [] g2 w2)) ∧
      (((w1 l0 29) = 0) → ((1 : Int) = 0 ∨ (1 : Int) = 1) ∧ Q (some (xi 1)) g1 w1))) ∧
  ((l1 < 20) → xIs g l0 (0, 7) ∧ xA1 g (g.2 l0 36) l1 ∧ aMo_readsAll d lim Q 55 [xr l0, xi l1] [] g (xup w (g.2 l0 36) (Int.toNat l1) 0))) :
    aMo_readsAll d lim Q 42 [xr l0, xi l1] [] g w := xAt_exec (cal_m d) kMo_readsAll 13 t
set_option maxRecDepth 20000 in
theorem wMo_readsAll_55 {d : Nat} {lim : Nat × Nat} {Q : xQ} {l1 : Int} {l0 : Nat} {g : xG} {w : xW} (t : xIs g l0 (0, 7) ∧ x32 (20 + l1) ∧ xA1 g (g.2 l0 36) (20 + l1) ∧ aMo_readsAll d lim Q 65 [xr l0, xi l1] [] g (xup w (g.2 l0 36) (Int.toNat (20 + l1)) 0)) :
    aMo_readsAll d lim Q 55 [xr l0, xi l1] [] g w := xAt_exec (cal_m d) kMo_readsAll 8 t
set_option maxRecDepth 20000 in
theorem wMo_readsAll_65 {d : Nat} {lim : Nat × Nat} {Q : xQ} {l1 : Int} {l0 : Nat} {g : xG} {w : xW} (t : xIs g l0 (0, 7) ∧ (xA2 g (g.2 l0 38) l1 ∧ ((0 : Int) = 0 ∨ (0 : Int) = 1)) ∧ aMo_readsAll d lim Q 72 [xr l0, xi l1] [] g (xup w (g.2 l0 38) (Int.toNat l1) 0)) :
    aMo_readsAll d lim Q 65 [xr l0, xi l1] [] g w := xAt_exec (cal_m d) kMo_readsAll 6 t
set_option maxRecDepth 20000 in
theorem wMo_readsAll_72 {d : Nat} {lim : Nat × Nat} {Q : xQ} {l1 : Int} {l0 : Nat} {g : xG} {w : xW} (t : xIs g l0 (0, 7) ∧ (xA2 g (g.2 l0 42) l1 ∧ ((0 : Int) = 0 ∨ (0 : Int) = 1)) ∧ x32 (l1 + 1) ∧ aMo_readsAll d lim Q 42 [xr l0, xi (l1 + 1)] [] g (xup w (g.2 l0 42) (Int.toNat l1) 0)) :
    aMo_readsAll d lim Q 72 [xr l0, xi l1] [] g w := xAt_exec (cal_m d) kMo_readsAll 8 t
set_option maxRecDepth 20000 in
theorem wMo_readsAll_104 {d : Nat} {lim : Nat × Nat} {Q : xQ} {l1 : Int} {l0 : Nat} {g : xG} {w : xW} (t : 
  ((l1 = 0) → ((l1 : Int) = 0 ∨ (l1 : Int) = 1) ∧ Q (some (xi l1)) g w) ∧
  ((¬ l1 = 0) → xIs g l0 (0, 7) ∧ 
    (((w l0 29) = 0) → ((l1 : Int) = 0 ∨ (l1 : Int) = 1) ∧ Q (some (xi l1)) g w) ∧
    ((¬ (w l0 29) = 0) → xIs g l0 (0, 7) ∧ 
      cal d nMo_readsClause [xr l0] g w (fun r g1 w1 => ∃ v1 : Int, r = some (xi v1) ∧ aMo_readsAll d lim Q 104 [xr l0, xi v1] [] g1 w1)))) :
    aMo_readsAll d lim Q 104 [xr l0, xi l1] [] g w := xAt_exec (cal_m d) kMo_readsAll 10 t
theorem eMo_readsAll {d : Nat} {Q : xQ} {l0 : Nat} {g : xG} {w : xW} (t : ∀ (lim : Nat × Nat) (Q2 : xQ), (∀ r g2 w2, g2.1 = g.1 → Q r g2 w2 → Q2 r g2 w2) → aMo_readsAll d lim Q2 0 [xr l0, none] [] g w) : cal (d + 1) nMo_readsAll [xr l0] g w Q := t _ _ xQof
abbrev aMo_town (d : Nat) (lim : Nat × Nat) (Q : xQ) : xK := xAt xMks tMo_town (cal d) lim Q
def kMo_town : List (Nat × List Bool) := [(18, [true, true, false]), (21, [true, true, false]), (26, [true, true, false]), (46, [true, false, false]), (54, [true, false, false]), (69, [true, false, true]), (98, [true, false, true]), (99, [true, false, true]), (114, [true, false, true]), (132, [true, false, true]), (158, [true, false, false]), (168, [true, false, true]), (188, [true, false, true]), (202, [true, false, true]), (234, [true, false, false]), (236, [true, false, true]), (270, [true, false, true]), (293, [true, false, true]), (311, [true, false, true]), (326, [true, false, true]), (352, [true, false, false]), (357, [true, false, false]), (364, [true, false, false])]
set_option maxRecDepth 20000 in
theorem wMo_town_0 {d : Nat} {lim : Nat × Nat} {Q : xQ} {l0 : Nat} {g : xG} {w : xW} (t : xIs g l0 (0, 7) ∧ 
  cal d nMo_readsAll [xr l0] g w (fun r g1 w1 => ∃ v1 : Int, r = some (xi v1) ∧ 
    ((v1 = 0) → xIs g1 l0 (0, 7) ∧ aMo_town d lim Q 18 [xr l0, xi v1, none] [xi (w1 l0 27), xr l0] g1 w1) ∧
    ((¬ v1 = 0) → aMo_town d lim Q 18 [xr l0, xi v1, none] [xi (-1), xr l0] g1 w1))) :
    aMo_town d lim Q 0 [xr l0, none, none] [] g w := xAt_exec (cal_m d) kMo_town 9 t
set_option maxRecDepth 20000 in
theorem wMo_town_18 {d : Nat} {lim : Nat × Nat} {Q : xQ} {l1 s1 : Int} {l0 s0 : Nat} {g : xG} {w : xW} (t : xIs g s0 (0, 7) ∧ aMo_town d lim Q 21 [xr l0, xi l1, none] [] g (xup w s0 26 s1)) :
    aMo_town d lim Q 18 [xr l0, xi l1, none] [xi s1, xr s0] g w := xAt_exec (cal_m d) kMo_town 2 t
set_option maxRecDepth 20000 in
theorem wMo_town_21 {d : Nat} {lim : Nat × Nat} {Q : xQ} {l1 : Int} {l0 : Nat} {g : xG} {w : xW} (t : xIs g l0 (0, 7) ∧ aMo_town d lim Q 26 [xr l0, xi l1, none] [] g (xup w l0 25 0)) :
    aMo_town d lim Q 21 [xr l0, xi l1, none] [] g w := xAt_exec (cal_m d) kMo_town 4 t
set_option maxRecDepth 20000 in
theorem wMo_town_26 {d : Nat} {lim : Nat × Nat} {Q : xQ} {l1 : Int} {l0 : Nat} {g : xG} {w : xW} (t : 
  ((¬ l1 = 0) → xIs g l0 (0, 7) ∧ xIs g l0 (0, 7) ∧ aMo_town d lim Q 46 [xr l0, none, none] [] g (xup w l0 4 (w l0 33))) ∧
  ((l1 = 0) → xIs g l0 (0, 7) ∧ x32 ((-10) - (w l0 31)) ∧ Q (some (xi ((-10) - (w l0 31)))) g w)) :
    aMo_town d lim Q 26 [xr l0, xi l1, none] [] g w := xAt_exec (cal_m d) kMo_town 8 t
set_option maxRecDepth 20000 in
theorem wMo_town_46 {d : Nat} {lim : Nat × Nat} {Q : xQ} {l0 : Nat} {g : xG} {w : xW} (t : xIs g l0 (0, 7) ∧ xIs g l0 (0, 7) ∧ aMo_town d lim Q 54 [xr l0, none, none] [] g (xup w l0 5 (w l0 34))) :
    aMo_town d lim Q 46 [xr l0, none, none] [] g w := xAt_exec (cal_m d) kMo_town 5 t
set_option maxRecDepth 20000 in
theorem wMo_town_54 {d : Nat} {lim : Nat × Nat} {Q : xQ} {l0 : Nat} {g : xG} {w : xW} (t : xIs g l0 (0, 7) ∧ 
  cal d nMo_emptyNow [xr l0] g w (fun r g1 w1 => r = none ∧ xIs g1 l0 (0, 7) ∧ xA1 g1 (g1.2 l0 0) 139 ∧ aMo_town d lim Q 69 [xr l0, none, xi 0] [] g1 (xup w1 (g1.2 l0 0) (Int.toNat 139) 3))) :
    aMo_town d lim Q 54 [xr l0, none, none] [] g w := xAt_exec (cal_m d) kMo_town 10 t
set_option maxRecDepth 20000 in
theorem wMo_town_69 {d : Nat} {lim : Nat × Nat} {Q : xQ} {l2 : Int} {l0 : Nat} {g : xG} {w : xW} (t : 
  ((20 ≤ l2) → xIs g l0 (0, 7) ∧ xIs g l0 (0, 7) ∧ aMo_town d lim Q 158 [xr l0, none, none] [] g (xup w l0 7 (w l0 39))) ∧
  ((l2 < 20) → xIs g l0 (0, 7) ∧ x32 (0 + l2) ∧ xIs g l0 (0, 7) ∧ 
    cal d nMo_cells [xr l0] g w (fun r g1 w1 => ∃ v1 : Int, r = some (xi v1) ∧ 
      ((v1 ≤ l2) → aMo_town d lim Q 98 [xr l0, none, xi l2] [xi 0, xi (0 + l2), xr (g.2 l0 0)] g1 w1) ∧
      ((l2 < v1) → xIs g1 l0 (0, 7) ∧ aMo_town d lim Q 98 [xr l0, none, xi l2] [xi (w1 l0 35), xi (0 + l2), xr (g.2 l0 0)] g1 w1)))) :
    aMo_town d lim Q 69 [xr l0, none, xi l2] [] g w := xAt_exec (cal_m d) kMo_town 16 t
set_option maxRecDepth 20000 in
theorem wMo_town_98 {d : Nat} {lim : Nat × Nat} {Q : xQ} {l2 s1 s2 : Int} {l0 s0 : Nat} {g : xG} {w : xW} (t : xA1 g s0 s1 ∧ aMo_town d lim Q 99 [xr l0, none, xi l2] [] g (xup w s0 (Int.toNat s1) s2)) :
    aMo_town d lim Q 98 [xr l0, none, xi l2] [xi s2, xi s1, xr s0] g w := xAt_exec (cal_m d) kMo_town 2 t
set_option maxRecDepth 20000 in
theorem wMo_town_99 {d : Nat} {lim : Nat × Nat} {Q : xQ} {l2 : Int} {l0 : Nat} {g : xG} {w : xW} (t : xIs g l0 (0, 7) ∧ x32 (20 + l2) ∧ xIs g l0 (0, 7) ∧ xAr g (g.2 l0 36) l2 ∧ xA1 g (g.2 l0 0) (20 + l2) ∧ aMo_town d lim Q 114 [xr l0, none, xi l2] [] g (xup w (g.2 l0 0) (Int.toNat (20 + l2)) (w (g.2 l0 36) (Int.toNat l2)))) :
    aMo_town d lim Q 99 [xr l0, none, xi l2] [] g w := xAt_exec (cal_m d) kMo_town 11 t
set_option maxRecDepth 20000 in
theorem wMo_town_114 {d : Nat} {lim : Nat × Nat} {Q : xQ} {l2 : Int} {l0 : Nat} {g : xG} {w : xW} (t : xIs g l0 (0, 7) ∧ x32 (40 + l2) ∧ xIs g l0 (0, 7) ∧ x32 (20 + l2) ∧ xAr g (g.2 l0 36) (20 + l2) ∧ xA1 g (g.2 l0 0) (40 + l2) ∧ aMo_town d lim Q 132 [xr l0, none, xi l2] [] g (xup w (g.2 l0 0) (Int.toNat (40 + l2)) (w (g.2 l0 36) (Int.toNat (20 + l2))))) :
    aMo_town d lim Q 114 [xr l0, none, xi l2] [] g w := xAt_exec (cal_m d) kMo_town 13 t
set_option maxRecDepth 20000 in
theorem wMo_town_132 {d : Nat} {lim : Nat × Nat} {Q : xQ} {l2 : Int} {l0 : Nat} {g : xG} {w : xW} (t : xIs g l0 (0, 7) ∧ xIs g l0 (0, 7) ∧ xA2 g (g.2 l0 38) l2 ∧ (xA2 g (g.2 l0 6) l2 ∧ (((w (g.2 l0 38) (Int.toNat l2)) : Int) = 0 ∨ ((w (g.2 l0 38) (Int.toNat l2)) : Int) = 1)) ∧ x32 (l2 + 1) ∧ aMo_town d lim Q 69 [xr l0, none, xi (l2 + 1)] [] g (xup w (g.2 l0 6) (Int.toNat l2) (w (g.2 l0 38) (Int.toNat l2)))) :
    aMo_town d lim Q 132 [xr l0, none, xi l2] [] g w := xAt_exec (cal_m d) kMo_town 11 t
set_option maxRecDepth 20000 in
theorem wMo_town_158 {d : Nat} {lim : Nat × Nat} {Q : xQ} {l0 : Nat} {g : xG} {w : xW} (t : xIs g l0 (0, 7) ∧ xIs g l0 (0, 7) ∧ aMo_town d lim Q 168 [xr l0, none, xi 0] [] g (xup w l0 8 (w l0 40))) :
    aMo_town d lim Q 158 [xr l0, none, none] [] g w := xAt_exec (cal_m d) kMo_town 7 t
set_option maxRecDepth 20000 in
theorem wMo_town_168 {d : Nat} {lim : Nat × Nat} {Q : xQ} {l2 : Int} {l0 : Nat} {g : xG} {w : xW} (t : xIs g l0 (0, 7) ∧ 
  (((w l0 8) ≤ l2) → xIs g l0 (0, 7) ∧ xIs g l0 (0, 7) ∧ aMo_town d lim Q 234 [xr l0, none, none] [] g (xup w l0 11 (w l0 43))) ∧
  ((l2 < (w l0 8)) → xIs g l0 (0, 7) ∧ xIs g l0 (0, 7) ∧ xAr g (g.2 l0 41) l2 ∧ xA1 g (g.2 l0 9) l2 ∧ aMo_town d lim Q 188 [xr l0, none, xi l2] [] g (xup w (g.2 l0 9) (Int.toNat l2) (w (g.2 l0 41) (Int.toNat l2))))) :
    aMo_town d lim Q 168 [xr l0, none, xi l2] [] g w := xAt_exec (cal_m d) kMo_town 13 t
set_option maxRecDepth 20000 in
theorem wMo_town_188 {d : Nat} {lim : Nat × Nat} {Q : xQ} {l2 : Int} {l0 : Nat} {g : xG} {w : xW} (t : xIs g l0 (0, 7) ∧ xIs g l0 (0, 7) ∧ x32 (4 + l2) ∧ xAr g (g.2 l0 41) (4 + l2) ∧ xA1 g (g.2 l0 10) l2 ∧ aMo_town d lim Q 202 [xr l0, none, xi l2] [] g (xup w (g.2 l0 10) (Int.toNat l2) (w (g.2 l0 41) (Int.toNat (4 + l2))))) :
    aMo_town d lim Q 188 [xr l0, none, xi l2] [] g w := xAt_exec (cal_m d) kMo_town 11 t
set_option maxRecDepth 20000 in
theorem wMo_town_202 {d : Nat} {lim : Nat × Nat} {Q : xQ} {l2 : Int} {l0 : Nat} {g : xG} {w : xW} (t : xIs g l0 (0, 7) ∧ x32 (100 + l2) ∧ xIs g l0 (0, 7) ∧ x32 (8 + l2) ∧ xAr g (g.2 l0 41) (8 + l2) ∧ xA1 g (g.2 l0 0) (100 + l2) ∧ x32 (l2 + 1) ∧ aMo_town d lim Q 168 [xr l0, none, xi (l2 + 1)] [] g (xup w (g.2 l0 0) (Int.toNat (100 + l2)) (w (g.2 l0 41) (Int.toNat (8 + l2))))) :
    aMo_town d lim Q 202 [xr l0, none, xi l2] [] g w := xAt_exec (cal_m d) kMo_town 15 t
set_option maxRecDepth 20000 in
theorem wMo_town_234 {d : Nat} {lim : Nat × Nat} {Q : xQ} {l0 : Nat} {g : xG} {w : xW} (t : aMo_town d lim Q 236 [xr l0, none, xi 0] [] g w) :
    aMo_town d lim Q 234 [xr l0, none, none] [] g w := xAt_exec (cal_m d) kMo_town 3 t
set_option maxRecDepth 20000 in
theorem wMo_town_236 {d : Nat} {lim : Nat × Nat} {Q : xQ} {l2 : Int} {l0 : Nat} {g : xG} {w : xW} (t : 
  ((8 ≤ l2) → xIs g l0 (0, 7) ∧ xIs g l0 (0, 7) ∧ aMo_town d lim Q 270 [xr l0, none, xi 0] [] g (xup w l0 13 (w l0 45))) ∧
  ((l2 < 8) → xIs g l0 (0, 7) ∧ xIs g l0 (0, 7) ∧ xAr g (g.2 l0 44) l2 ∧ xA1 g (g.2 l0 12) l2 ∧ x32 (l2 + 1) ∧ aMo_town d lim Q 236 [xr l0, none, xi (l2 + 1)] [] g (xup w (g.2 l0 12) (Int.toNat l2) (w (g.2 l0 44) (Int.toNat l2))))) :
    aMo_town d lim Q 236 [xr l0, none, xi l2] [] g w := xAt_exec (cal_m d) kMo_town 14 t
set_option maxRecDepth 20000 in
theorem wMo_town_270 {d : Nat} {lim : Nat × Nat} {Q : xQ} {l2 : Int} {l0 : Nat} {g : xG} {w : xW} (t : xIs g l0 (0, 7) ∧ 
  (((w l0 13) ≤ l2) → xIs g l0 (0, 7) ∧ aMo_town d lim Q 352 [xr l0, none, none] [] g (xup w l0 16 0)) ∧
  ((l2 < (w l0 13)) → xIs g l0 (0, 7) ∧ x32 (108 + l2) ∧ xIs g l0 (0, 7) ∧ xAr g (g.2 l0 46) l2 ∧ xA1 g (g.2 l0 0) (108 + l2) ∧ aMo_town d lim Q 293 [xr l0, none, xi l2] [] g (xup w (g.2 l0 0) (Int.toNat (108 + l2)) (w (g.2 l0 46) (Int.toNat l2))))) :
    aMo_town d lim Q 270 [xr l0, none, xi l2] [] g w := xAt_exec (cal_m d) kMo_town 15 t
set_option maxRecDepth 20000 in
theorem wMo_town_293 {d : Nat} {lim : Nat × Nat} {Q : xQ} {l2 : Int} {l0 : Nat} {g : xG} {w : xW} (t : xIs g l0 (0, 7) ∧ x32 (114 + l2) ∧ xIs g l0 (0, 7) ∧ x32 (6 + l2) ∧ xAr g (g.2 l0 46) (6 + l2) ∧ xA1 g (g.2 l0 0) (114 + l2) ∧ aMo_town d lim Q 311 [xr l0, none, xi l2] [] g (xup w (g.2 l0 0) (Int.toNat (114 + l2)) (w (g.2 l0 46) (Int.toNat (6 + l2))))) :
    aMo_town d lim Q 293 [xr l0, none, xi l2] [] g w := xAt_exec (cal_m d) kMo_town 13 t
set_option maxRecDepth 20000 in
theorem wMo_town_311 {d : Nat} {lim : Nat × Nat} {Q : xQ} {l2 : Int} {l0 : Nat} {g : xG} {w : xW} (t : xIs g l0 (0, 7) ∧ xIs g l0 (0, 7) ∧ x32 (12 + l2) ∧ xAr g (g.2 l0 46) (12 + l2) ∧ xA1 g (g.2 l0 14) l2 ∧ aMo_town d lim Q 326 [xr l0, none, xi l2] [] g (xup w (g.2 l0 14) (Int.toNat l2) (w (g.2 l0 46) (Int.toNat (12 + l2))))) :
    aMo_town d lim Q 311 [xr l0, none, xi l2] [] g w := xAt_exec (cal_m d) kMo_town 11 t
set_option maxRecDepth 20000 in
theorem wMo_town_326 {d : Nat} {lim : Nat × Nat} {Q : xQ} {l2 : Int} {l0 : Nat} {g : xG} {w : xW} (t : xIs g l0 (0, 7) ∧ xIs g l0 (0, 7) ∧ x32 (18 + l2) ∧ xAr g (g.2 l0 46) (18 + l2) ∧ xA1 g (g.2 l0 15) l2 ∧ x32 (l2 + 1) ∧ aMo_town d lim Q 270 [xr l0, none, xi (l2 + 1)] [] g (xup w (g.2 l0 15) (Int.toNat l2) (w (g.2 l0 46) (Int.toNat (18 + l2))))) :
    aMo_town d lim Q 326 [xr l0, none, xi l2] [] g w := xAt_exec (cal_m d) kMo_town 13 t
set_option maxRecDepth 20000 in
theorem wMo_town_352 {d : Nat} {lim : Nat × Nat} {Q : xQ} {l0 : Nat} {g : xG} {w : xW} (t : xIs g l0 (0, 7) ∧ aMo_town d lim Q 357 [xr l0, none, none] [] g (xup w l0 20 0)) :
    aMo_town d lim Q 352 [xr l0, none, none] [] g w := xAt_exec (cal_m d) kMo_town 4 t
set_option maxRecDepth 20000 in
theorem wMo_town_357 {d : Nat} {lim : Nat × Nat} {Q : xQ} {l0 : Nat} {g : xG} {w : xW} (t : xIs g l0 (0, 7) ∧ (xA2 g (g.2 l0 2) 0 ∧ ((0 : Int) = 0 ∨ (0 : Int) = 1)) ∧ aMo_town d lim Q 364 [xr l0, none, none] [] g (xup w (g.2 l0 2) (Int.toNat 0) 0)) :
    aMo_town d lim Q 357 [xr l0, none, none] [] g w := xAt_exec (cal_m d) kMo_town 6 t
set_option maxRecDepth 20000 in
theorem wMo_town_364 {d : Nat} {lim : Nat × Nat} {Q : xQ} {l0 : Nat} {g : xG} {w : xW} (t : xIs g l0 (0, 7) ∧ (xA2 g (g.2 l0 2) 1 ∧ ((0 : Int) = 0 ∨ (0 : Int) = 1)) ∧ xIs g l0 (0, 7) ∧ 
  cal d nMo_cells [xr l0] g (xup w (g.2 l0 2) (Int.toNat 1) 0) (fun r g1 w1 => ∃ v1 : Int, r = some (xi v1) ∧ Q (some (xi v1)) g1 w1)) :
    aMo_town d lim Q 364 [xr l0, none, none] [] g w := xAt_exec (cal_m d) kMo_town 9 t
theorem eMo_town {d : Nat} {Q : xQ} {l0 : Nat} {g : xG} {w : xW} (t : ∀ (lim : Nat × Nat) (Q2 : xQ), (∀ r g2 w2, g2.1 = g.1 → Q r g2 w2 → Q2 r g2 w2) → aMo_town d lim Q2 0 [xr l0, none, none] [] g w) : cal (d + 1) nMo_town [xr l0] g w Q := t _ _ xQof
abbrev aMo_fault (d : Nat) (lim : Nat × Nat) (Q : xQ) : xK := xAt xMks tMo_fault (cal d) lim Q
def kMo_fault : List (Nat × List Bool) := []
set_option maxRecDepth 20000 in
theorem wMo_fault_0 {d : Nat} {lim : Nat × Nat} {Q : xQ} {l0 : Nat} {g : xG} {w : xW} (t : xIs g l0 (0, 7) ∧ Q (some (xi (w l0 26))) g w) :
    aMo_fault d lim Q 0 [xr l0] [] g w := xAt_exec (cal_m d) kMo_fault 4 t
theorem eMo_fault {d : Nat} {Q : xQ} {l0 : Nat} {g : xG} {w : xW} (t : ∀ (lim : Nat × Nat) (Q2 : xQ), (∀ r g2 w2, g2.1 = g.1 → Q r g2 w2 → Q2 r g2 w2) → aMo_fault d lim Q2 0 [xr l0] [] g w) : cal (d + 1) nMo_fault [xr l0] g w Q := t _ _ xQof
abbrev aMo_wallsNow (d : Nat) (lim : Nat × Nat) (Q : xQ) : xK := xAt xMks tMo_wallsNow (cal d) lim Q
def kMo_wallsNow : List (Nat × List Bool) := [(5, [true, true, true])]
set_option maxRecDepth 20000 in
theorem wMo_wallsNow_0 {d : Nat} {lim : Nat × Nat} {Q : xQ} {l0 : Nat} {g : xG} {w : xW} (t : aMo_wallsNow d lim Q 5 [xr l0, xi 0, xi 20] [] g w) :
    aMo_wallsNow d lim Q 0 [xr l0, none, none] [] g w := xAt_exec (cal_m d) kMo_wallsNow 5 t
set_option maxRecDepth 20000 in
theorem wMo_wallsNow_5 {d : Nat} {lim : Nat × Nat} {Q : xQ} {l1 l2 : Int} {l0 : Nat} {g : xG} {w : xW} (t : 
  ((60 ≤ l2) → Q (some (xi l1)) g w) ∧
  ((l2 < 60) → xIs g l0 (0, 7) ∧ xAr g (g.2 l0 0) l2 ∧ x32 (l1 + (w (g.2 l0 0) (Int.toNat l2))) ∧ x32 (l2 + 1) ∧ aMo_wallsNow d lim Q 5 [xr l0, xi (l1 + (w (g.2 l0 0) (Int.toNat l2))), xi (l2 + 1)] [] g w)) :
    aMo_wallsNow d lim Q 5 [xr l0, xi l1, xi l2] [] g w := xAt_exec (cal_m d) kMo_wallsNow 13 t
theorem eMo_wallsNow {d : Nat} {Q : xQ} {l0 : Nat} {g : xG} {w : xW} (t : ∀ (lim : Nat × Nat) (Q2 : xQ), (∀ r g2 w2, g2.1 = g.1 → Q r g2 w2 → Q2 r g2 w2) → aMo_wallsNow d lim Q2 0 [xr l0, none, none] [] g w) : cal (d + 1) nMo_wallsNow [xr l0] g w Q := t _ _ xQof
abbrev aMo_sunAt (d : Nat) (lim : Nat × Nat) (Q : xQ) : xK := xAt xMks tMo_sunAt (cal d) lim Q
def kMo_sunAt : List (Nat × List Bool) := []
set_option maxRecDepth 20000 in
theorem wMo_sunAt_0 {d : Nat} {lim : Nat × Nat} {Q : xQ} {l1 : Int} {l0 : Nat} {g : xG} {w : xW} (t : xIs g l0 (0, 7) ∧ 
  ((¬ (w l0 11) = 0) → xIs g l0 (0, 7) ∧ ((6 : Int) ≠ 0 ∧ x32 (Int.tdiv l1 6)) ∧ xIs g l0 (0, 7) ∧ (((w l0 11) : Int) ≠ 0 ∧ x32 (Int.tdiv (Int.tdiv l1 6) (w l0 11))) ∧ xAr g (g.2 l0 12) (Int.tmod (Int.tdiv l1 6) (w l0 11)) ∧ Q (some (xi (w (g.2 l0 12) (Int.toNat (Int.tmod (Int.tdiv l1 6) (w l0 11)))))) g w) ∧
  (((w l0 11) = 0) → Q (some (xi 0)) g w)) :
    aMo_sunAt d lim Q 0 [xr l0, xi l1] [] g w := xAt_exec (cal_m d) kMo_sunAt 14 t
theorem eMo_sunAt {d : Nat} {Q : xQ} {l1 : Int} {l0 : Nat} {g : xG} {w : xW} (t : ∀ (lim : Nat × Nat) (Q2 : xQ), (∀ r g2 w2, g2.1 = g.1 → Q r g2 w2 → Q2 r g2 w2) → aMo_sunAt d lim Q2 0 [xr l0, xi l1] [] g w) : cal (d + 1) nMo_sunAt [xr l0, xi l1] g w Q := t _ _ xQof
abbrev aMo_told (d : Nat) (lim : Nat × Nat) (Q : xQ) : xK := xAt xMks tMo_told (cal d) lim Q
def kMo_told : List (Nat × List Bool) := []
set_option maxRecDepth 20000 in
theorem wMo_told_0 {d : Nat} {lim : Nat × Nat} {Q : xQ} {l1 : Int} {l0 : Nat} {g : xG} {w : xW} (t : 
  ((l1 < 0 ∨ 14 < l1) → Q (some (xi (-1000000002))) g w) ∧
  ((l1 = 0) → xIs g l0 (0, 7) ∧ Q (some (xi (w l0 4))) g w) ∧
  ((l1 = 1) → xIs g l0 (0, 7) ∧ Q (some (xi (w l0 5))) g w) ∧
  ((l1 = 2) → xIs g l0 (0, 7) ∧ 
    cal d nMo_wallsNow [xr l0] g w (fun r g1 w1 => ∃ v1 : Int, r = some (xi v1) ∧ Q (some (xi v1)) g1 w1)) ∧
  ((l1 = 3) → xIs g l0 (0, 7) ∧ Q (some (xi (w l0 8))) g w) ∧
  ((l1 = 4) → xIs g l0 (0, 7) ∧ Q (some (xi (w l0 7))) g w) ∧
  ((l1 = 5) → xIs g l0 (0, 7) ∧ Q (some (xi (w l0 11))) g w) ∧
  ((l1 = 6) → xIs g l0 (0, 7) ∧ Q (some (xi (w l0 13))) g w) ∧
  ((l1 = 7) → xIs g l0 (0, 7) ∧ Q (some (xi (w l0 25))) g w) ∧
  ((l1 = 8) → xIs g l0 (0, 7) ∧ xAr g (g.2 l0 0) 140 ∧ Q (some (xi (w (g.2 l0 0) (Int.toNat 140)))) g w) ∧
  ((l1 = 9) → xIs g l0 (0, 7) ∧ xAr g (g.2 l0 0) 138 ∧ Q (some (xi (w (g.2 l0 0) (Int.toNat 138)))) g w) ∧
  ((l1 = 10) → xIs g l0 (0, 7) ∧ xAr g (g.2 l0 0) 139 ∧ Q (some (xi (w (g.2 l0 0) (Int.toNat 139)))) g w) ∧
  ((l1 = 11) → xIs g l0 (0, 7) ∧ xAr g (g.2 l0 0) 140 ∧ xIs g l0 (0, 7) ∧ 
    cal d nMo_sunAt [xr l0, xi (w (g.2 l0 0) (Int.toNat 140))] g w (fun r g2 w2 => ∃ v2 : Int, r = some (xi v2) ∧ Q (some (xi v2)) g2 w2)) ∧
  ((l1 = 12) → xIs g l0 (0, 7) ∧ xAr g (g.2 l0 0) 142 ∧ Q (some (xi (w (g.2 l0 0) (Int.toNat 142)))) g w) ∧
  ((l1 = 13) → xIs g l0 (0, 7) ∧ Q (some (xi (w l0 16))) g w) ∧
  ((l1 = 14) → xIs g l0 (0, 7) ∧ Q (some (xi (w l0 20))) g w) ∧ True) :
    aMo_told d lim Q 0 [xr l0, xi l1] [] g w := xAt_exec (cal_m d) kMo_told 10 t
theorem eMo_told {d : Nat} {Q : xQ} {l1 : Int} {l0 : Nat} {g : xG} {w : xW} (t : ∀ (lim : Nat × Nat) (Q2 : xQ), (∀ r g2 w2, g2.1 = g.1 → Q r g2 w2 → Q2 r g2 w2) → aMo_told d lim Q2 0 [xr l0, xi l1] [] g w) : cal (d + 1) nMo_told [xr l0, xi l1] g w Q := t _ _ xQof
abbrev aMo_onCell (d : Nat) (lim : Nat × Nat) (Q : xQ) : xK := xAt xMks tMo_onCell (cal d) lim Q
def kMo_onCell : List (Nat × List Bool) := [(4, [true, true, true, true])]
set_option maxRecDepth 20000 in
theorem wMo_onCell_0 {d : Nat} {lim : Nat × Nat} {Q : xQ} {l1 : Int} {l0 : Nat} {g : xG} {w : xW} (t : aMo_onCell d lim Q 4 [xr l0, xi l1, xi 0, xi 0] [] g w) :
    aMo_onCell d lim Q 0 [xr l0, xi l1, none, none] [] g w := xAt_exec (cal_m d) kMo_onCell 5 t
set_option maxRecDepth 20000 in
theorem wMo_onCell_4 {d : Nat} {lim : Nat × Nat} {Q : xQ} {l1 l2 l3 : Int} {l0 : Nat} {g : xG} {w : xW} (t : xIs g l0 (0, 7) ∧ 
  (((w l0 13) ≤ l3) → Q (some (xi l2)) g w) ∧
  ((l3 < (w l0 13)) → xIs g l0 (0, 7) ∧ x32 (108 + l3) ∧ xAr g (g.2 l0 0) (108 + l3) ∧ 
    ((¬ (w (g.2 l0 0) (Int.toNat (108 + l3))) = l1) → x32 (l3 + 1) ∧ aMo_onCell d lim Q 4 [xr l0, xi l1, xi (xOr l2 0), xi (l3 + 1)] [] g w) ∧
    (((w (g.2 l0 0) (Int.toNat (108 + l3))) = l1) → x32 (l3 + 1) ∧ aMo_onCell d lim Q 4 [xr l0, xi l1, xi (xOr l2 (xShl 1 l3)), xi (l3 + 1)] [] g w))) :
    aMo_onCell d lim Q 4 [xr l0, xi l1, xi l2, xi l3] [] g w := xAt_exec (cal_m d) kMo_onCell 22 t
theorem eMo_onCell {d : Nat} {Q : xQ} {l1 : Int} {l0 : Nat} {g : xG} {w : xW} (t : ∀ (lim : Nat × Nat) (Q2 : xQ), (∀ r g2 w2, g2.1 = g.1 → Q r g2 w2 → Q2 r g2 w2) → aMo_onCell d lim Q2 0 [xr l0, xi l1, none, none] [] g w) : cal (d + 1) nMo_onCell [xr l0, xi l1] g w Q := t _ _ xQof
abbrev aMo_cell (d : Nat) (lim : Nat × Nat) (Q : xQ) : xK := xAt xMks tMo_cell (cal d) lim Q
def kMo_cell : List (Nat × List Bool) := []
set_option maxRecDepth 20000 in
theorem wMo_cell_0 {d : Nat} {lim : Nat × Nat} {Q : xQ} {l1 l2 l3 : Int} {l0 : Nat} {g : xG} {w : xW} (t : xIs g l0 (0, 7) ∧ 
  cal d nMo_isCell [xr l0, xi l1, xi l2] g w (fun r g1 w1 => ∃ v1 : Int, r = some (xi v1) ∧ 
    ((¬ v1 = 0) → xIs g1 l0 (0, 7) ∧ x32 ((w1 l0 4) * l2) ∧ x32 (((w1 l0 4) * l2) + l1) ∧ 
      ((l3 < 0 ∨ 3 < l3) → Q (some (xi (-1000000002))) g1 w1) ∧
      ((l3 = 0) → xIs g1 l0 (0, 7) ∧ x32 (0 + (((w1 l0 4) * l2) + l1)) ∧ xAr g1 (g1.2 l0 0) (0 + (((w1 l0 4) * l2) + l1)) ∧ Q (some (xi (w1 (g1.2 l0 0) (Int.toNat (0 + (((w1 l0 4) * l2) + l1)))))) g1 w1) ∧
      ((l3 = 1) → xIs g1 l0 (0, 7) ∧ x32 (60 + (((w1 l0 4) * l2) + l1)) ∧ xAr g1 (g1.2 l0 0) (60 + (((w1 l0 4) * l2) + l1)) ∧ Q (some (xi (w1 (g1.2 l0 0) (Int.toNat (60 + (((w1 l0 4) * l2) + l1)))))) g1 w1) ∧
      ((l3 = 2) → xIs g1 l0 (0, 7) ∧ xA2 g1 (g1.2 l0 6) (((w1 l0 4) * l2) + l1) ∧ 
        (((w1 (g1.2 l0 6) (Int.toNat (((w1 l0 4) * l2) + l1))) = 0) → Q (some (xi 0)) g1 w1) ∧
        ((¬ (w1 (g1.2 l0 6) (Int.toNat (((w1 l0 4) * l2) + l1))) = 0) → Q (some (xi 1)) g1 w1)) ∧
      ((l3 = 3) → xIs g1 l0 (0, 7) ∧ 
        cal d nMo_onCell [xr l0, xi (((w1 l0 4) * l2) + l1)] g1 w1 (fun r g2 w2 => ∃ v2 : Int, r = some (xi v2) ∧ Q (some (xi v2)) g2 w2)) ∧ True) ∧
    ((v1 = 0) → Q (some (xi (-1000000001))) g1 w1))) :
    aMo_cell d lim Q 0 [xr l0, xi l1, xi l2, xi l3, none] [] g w := xAt_exec (cal_m d) kMo_cell 23 t
theorem eMo_cell {d : Nat} {Q : xQ} {l1 l2 l3 : Int} {l0 : Nat} {g : xG} {w : xW} (t : ∀ (lim : Nat × Nat) (Q2 : xQ), (∀ r g2 w2, g2.1 = g.1 → Q r g2 w2 → Q2 r g2 w2) → aMo_cell d lim Q2 0 [xr l0, xi l1, xi l2, xi l3, none] [] g w) : cal (d + 1) nMo_cell [xr l0, xi l1, xi l2, xi l3] g w Q := t _ _ xQof
abbrev aMo_notWall (d : Nat) (lim : Nat × Nat) (Q : xQ) : xK := xAt xMks tMo_notWall (cal d) lim Q
def kMo_notWall : List (Nat × List Bool) := [(24, [true, true, true, true]), (43, [false, false, false, true])]
set_option maxRecDepth 20000 in
theorem wMo_notWall_0 {d : Nat} {lim : Nat × Nat} {Q : xQ} {l1 l2 l3 : Int} {l0 : Nat} {g : xG} {w : xW} (t : xIs g l0 (0, 7) ∧ 
  cal d nMo_isCell [xr l0, xi l1, xi l2] g w (fun r g1 w1 => ∃ v1 : Int, r = some (xi v1) ∧ 
    ((v1 = 0) → Q (some (xi (-1000000001))) g1 w1) ∧
    ((¬ v1 = 0) → 
      ((¬ l3 = 0) → aMo_notWall d lim Q 24 [xr l0, xi l1, xi l2, xi l3] [] g1 w1) ∧
      ((l3 = 0) → x32 (l1 + 1) ∧ xIs g1 l0 (0, 7) ∧ 
        cal d nMo_isCell [xr l0, xi (l1 + 1), xi l2] g1 w1 (fun r g2 w2 => ∃ v2 : Int, r = some (xi v2) ∧ 
          ((v2 = 0) → Q (some (xi (-1000000001))) g2 w2) ∧
          ((¬ v2 = 0) → aMo_notWall d lim Q 24 [xr l0, xi l1, xi l2, xi l3] [] g2 w2)))))) :
    aMo_notWall d lim Q 0 [xr l0, xi l1, xi l2, xi l3] [] g w := xAt_exec (cal_m d) kMo_notWall 17 t
set_option maxRecDepth 20000 in
theorem wMo_notWall_24 {d : Nat} {lim : Nat × Nat} {Q : xQ} {l1 l2 l3 : Int} {l0 : Nat} {g : xG} {w : xW} (t : 
  ((¬ l3 = 1) → aMo_notWall d lim Q 43 [none, none, none, xi l3] [] g w) ∧
  ((l3 = 1) → x32 (l2 + 1) ∧ xIs g l0 (0, 7) ∧ 
    cal d nMo_isCell [xr l0, xi l1, xi (l2 + 1)] g w (fun r g1 w1 => ∃ v1 : Int, r = some (xi v1) ∧ 
      ((¬ v1 = 0) → aMo_notWall d lim Q 43 [none, none, none, xi l3] [] g1 w1) ∧
      ((v1 = 0) → Q (some (xi (-1000000001))) g1 w1)))) :
    aMo_notWall d lim Q 24 [xr l0, xi l1, xi l2, xi l3] [] g w := xAt_exec (cal_m d) kMo_notWall 13 t
set_option maxRecDepth 20000 in
theorem wMo_notWall_43 {d : Nat} {lim : Nat × Nat} {Q : xQ} {l3 : Int} {g : xG} {w : xW} (t : 
  cal d nMo_in [xl l3, xl 0, xl 1] g w (fun r g1 w1 => ∃ v1 : Int, r = some (xi v1) ∧ 
    ((v1 = 0) → Q (some (xi (-1000000002))) g1 w1) ∧
    ((¬ v1 = 0) → Q (some (xi 0)) g1 w1))) :
    aMo_notWall d lim Q 43 [none, none, none, xi l3] [] g w := xAt_exec (cal_m d) kMo_notWall 10 t
theorem eMo_notWall {d : Nat} {Q : xQ} {l1 l2 l3 : Int} {l0 : Nat} {g : xG} {w : xW} (t : ∀ (lim : Nat × Nat) (Q2 : xQ), (∀ r g2 w2, g2.1 = g.1 → Q r g2 w2 → Q2 r g2 w2) → aMo_notWall d lim Q2 0 [xr l0, xi l1, xi l2, xi l3] [] g w) : cal (d + 1) nMo_notWall [xr l0, xi l1, xi l2, xi l3] g w Q := t _ _ xQof
abbrev aMo_wall (d : Nat) (lim : Nat × Nat) (Q : xQ) : xK := xAt xMks tMo_wall (cal d) lim Q
def kMo_wall : List (Nat × List Bool) := []
set_option maxRecDepth 20000 in
theorem wMo_wall_0 {d : Nat} {lim : Nat × Nat} {Q : xQ} {l1 l2 l3 : Int} {l0 : Nat} {g : xG} {w : xW} (t : xIs g l0 (0, 7) ∧ 
  cal d nMo_notWall [xr l0, xi l1, xi l2, xi l3] g w (fun r g1 w1 => ∃ v1 : Int, r = some (xi v1) ∧ 
    ((v1 = 0) → xIs g1 l0 (0, 7) ∧ x32 (20 * l3) ∧ x32 (20 + (20 * l3)) ∧ xIs g1 l0 (0, 7) ∧ x32 ((w1 l0 4) * l2) ∧ x32 ((20 + (20 * l3)) + ((w1 l0 4) * l2)) ∧ x32 (((20 + (20 * l3)) + ((w1 l0 4) * l2)) + l1) ∧ xAr g1 (g1.2 l0 0) (((20 + (20 * l3)) + ((w1 l0 4) * l2)) + l1) ∧ Q (some (xi (w1 (g1.2 l0 0) (Int.toNat (((20 + (20 * l3)) + ((w1 l0 4) * l2)) + l1))))) g1 w1) ∧
    ((¬ v1 = 0) → Q (some (xi v1)) g1 w1))) :
    aMo_wall d lim Q 0 [xr l0, xi l1, xi l2, xi l3, none] [] g w := xAt_exec (cal_m d) kMo_wall 25 t
theorem eMo_wall {d : Nat} {Q : xQ} {l1 l2 l3 : Int} {l0 : Nat} {g : xG} {w : xW} (t : ∀ (lim : Nat × Nat) (Q2 : xQ), (∀ r g2 w2, g2.1 = g.1 → Q r g2 w2 → Q2 r g2 w2) → aMo_wall d lim Q2 0 [xr l0, xi l1, xi l2, xi l3, none] [] g w) : cal (d + 1) nMo_wall [xr l0, xi l1, xi l2, xi l3] g w Q := t _ _ xQof
abbrev aMo_stove (d : Nat) (lim : Nat × Nat) (Q : xQ) : xK := xAt xMks tMo_stove (cal d) lim Q
def kMo_stove : List (Nat × List Bool) := []
set_option maxRecDepth 20000 in
theorem wMo_stove_0 {d : Nat} {lim : Nat × Nat} {Q : xQ} {l1 l2 : Int} {l0 : Nat} {g : xG} {w : xW} (t : xIs g l0 (0, 7) ∧ 
  cal d nMo_isStove [xr l0, xi l1] g w (fun r g1 w1 => ∃ v1 : Int, r = some (xi v1) ∧ 
    ((¬ v1 = 0) → 
      ((l2 < 0 ∨ 3 < l2) → Q (some (xi (-1000000002))) g1 w1) ∧
      ((l2 = 0) → xIs g1 l0 (0, 7) ∧ xAr g1 (g1.2 l0 9) l1 ∧ xIs g1 l0 (0, 7) ∧ 
        cal d nMo_named [xr l0, xi (w1 (g1.2 l0 9) (Int.toNat l1))] g1 w1 (fun r g2 w2 => ∃ v2 : Int, r = some (xi v2) ∧ Q (some (xi v2)) g2 w2)) ∧
      ((l2 = 1) → xIs g1 l0 (0, 7) ∧ xAr g1 (g1.2 l0 10) l1 ∧ Q (some (xi (w1 (g1.2 l0 10) (Int.toNat l1)))) g1 w1) ∧
      ((l2 = 2) → xIs g1 l0 (0, 7) ∧ x32 (100 + l1) ∧ xAr g1 (g1.2 l0 0) (100 + l1) ∧ Q (some (xi (w1 (g1.2 l0 0) (Int.toNat (100 + l1))))) g1 w1) ∧
      ((l2 = 3) → xIs g1 l0 (0, 7) ∧ x32 (104 + l1) ∧ xAr g1 (g1.2 l0 0) (104 + l1) ∧ Q (some (xi (w1 (g1.2 l0 0) (Int.toNat (104 + l1))))) g1 w1) ∧ True) ∧
    ((v1 = 0) → Q (some (xi (-1000000001))) g1 w1))) :
    aMo_stove d lim Q 0 [xr l0, xi l1, xi l2] [] g w := xAt_exec (cal_m d) kMo_stove 14 t
theorem eMo_stove {d : Nat} {Q : xQ} {l1 l2 : Int} {l0 : Nat} {g : xG} {w : xW} (t : ∀ (lim : Nat × Nat) (Q2 : xQ), (∀ r g2 w2, g2.1 = g.1 → Q r g2 w2 → Q2 r g2 w2) → aMo_stove d lim Q2 0 [xr l0, xi l1, xi l2] [] g w) : cal (d + 1) nMo_stove [xr l0, xi l1, xi l2] g w Q := t _ _ xQof
abbrev aMo_owns (d : Nat) (lim : Nat × Nat) (Q : xQ) : xK := xAt xMks tMo_owns (cal d) lim Q
def kMo_owns : List (Nat × List Bool) := [(4, [true, true, true, true])]
set_option maxRecDepth 20000 in
theorem wMo_owns_0 {d : Nat} {lim : Nat × Nat} {Q : xQ} {l1 : Int} {l0 : Nat} {g : xG} {w : xW} (t : aMo_owns d lim Q 4 [xr l0, xi l1, xi 0, xi 0] [] g w) :
    aMo_owns d lim Q 0 [xr l0, xi l1, none, none] [] g w := xAt_exec (cal_m d) kMo_owns 5 t
set_option maxRecDepth 20000 in
theorem wMo_owns_4 {d : Nat} {lim : Nat × Nat} {Q : xQ} {l1 l2 l3 : Int} {l0 : Nat} {g : xG} {w : xW} (t : xIs g l0 (0, 7) ∧ 
  cal d nMo_cells [xr l0] g w (fun r g1 w1 => ∃ v1 : Int, r = some (xi v1) ∧ 
    ((v1 ≤ l3) → Q (some (xi l2)) g1 w1) ∧
    ((l3 < v1) → xIs g1 l0 (0, 7) ∧ x32 (60 + l3) ∧ xAr g1 (g1.2 l0 0) (60 + l3) ∧ 
      ((¬ (w1 (g1.2 l0 0) (Int.toNat (60 + l3))) = l1) → x32 (l2 + 0) ∧ x32 (l3 + 1) ∧ aMo_owns d lim Q 4 [xr l0, xi l1, xi (l2 + 0), xi (l3 + 1)] [] g1 w1) ∧
      (((w1 (g1.2 l0 0) (Int.toNat (60 + l3))) = l1) → x32 (l2 + 1) ∧ x32 (l3 + 1) ∧ aMo_owns d lim Q 4 [xr l0, xi l1, xi (l2 + 1), xi (l3 + 1)] [] g1 w1)))) :
    aMo_owns d lim Q 4 [xr l0, xi l1, xi l2, xi l3] [] g w := xAt_exec (cal_m d) kMo_owns 20 t
theorem eMo_owns {d : Nat} {Q : xQ} {l1 : Int} {l0 : Nat} {g : xG} {w : xW} (t : ∀ (lim : Nat × Nat) (Q2 : xQ), (∀ r g2 w2, g2.1 = g.1 → Q r g2 w2 → Q2 r g2 w2) → aMo_owns d lim Q2 0 [xr l0, xi l1, none, none] [] g w) : cal (d + 1) nMo_owns [xr l0, xi l1] g w Q := t _ _ xQof
abbrev aMo_person (d : Nat) (lim : Nat × Nat) (Q : xQ) : xK := xAt xMks tMo_person (cal d) lim Q
def kMo_person : List (Nat × List Bool) := []
set_option maxRecDepth 20000 in
theorem wMo_person_0 {d : Nat} {lim : Nat × Nat} {Q : xQ} {l1 l2 : Int} {l0 : Nat} {g : xG} {w : xW} (t : xIs g l0 (0, 7) ∧ 
  cal d nMo_isPerson [xr l0, xi l1] g w (fun r g1 w1 => ∃ v1 : Int, r = some (xi v1) ∧ 
    ((¬ v1 = 0) → 
      ((l2 < 0 ∨ 7 < l2) → Q (some (xi (-1000000002))) g1 w1) ∧
      ((l2 = 0) → xIs g1 l0 (0, 7) ∧ x32 (108 + l1) ∧ xAr g1 (g1.2 l0 0) (108 + l1) ∧ xIs g1 l0 (0, 7) ∧ 
        cal d nMo_named [xr l0, xi (w1 (g1.2 l0 0) (Int.toNat (108 + l1)))] g1 w1 (fun r g2 w2 => ∃ v2 : Int, r = some (xi v2) ∧ Q (some (xi v2)) g2 w2)) ∧
      ((l2 = 1) → xIs g1 l0 (0, 7) ∧ x32 (114 + l1) ∧ xAr g1 (g1.2 l0 0) (114 + l1) ∧ Q (some (xi (w1 (g1.2 l0 0) (Int.toNat (114 + l1))))) g1 w1) ∧
      ((l2 = 2) → xIs g1 l0 (0, 7) ∧ xAr g1 (g1.2 l0 14) l1 ∧ Q (some (xi (w1 (g1.2 l0 14) (Int.toNat l1)))) g1 w1) ∧
      ((l2 = 3) → xIs g1 l0 (0, 7) ∧ xAr g1 (g1.2 l0 15) l1 ∧ Q (some (xi (w1 (g1.2 l0 15) (Int.toNat l1)))) g1 w1) ∧
      ((l2 = 4) → xIs g1 l0 (0, 7) ∧ x32 (120 + l1) ∧ xAr g1 (g1.2 l0 0) (120 + l1) ∧ Q (some (xi (w1 (g1.2 l0 0) (Int.toNat (120 + l1))))) g1 w1) ∧
      ((l2 = 5) → xIs g1 l0 (0, 7) ∧ x32 (126 + l1) ∧ xAr g1 (g1.2 l0 0) (126 + l1) ∧ Q (some (xi (w1 (g1.2 l0 0) (Int.toNat (126 + l1))))) g1 w1) ∧
      ((l2 = 6) → xIs g1 l0 (0, 7) ∧ 
        cal d nMo_owns [xr l0, xi l1] g1 w1 (fun r g3 w3 => ∃ v3 : Int, r = some (xi v3) ∧ Q (some (xi v3)) g3 w3)) ∧
      ((l2 = 7) → xIs g1 l0 (0, 7) ∧ x32 (132 + l1) ∧ xAr g1 (g1.2 l0 0) (132 + l1) ∧ Q (some (xi (w1 (g1.2 l0 0) (Int.toNat (132 + l1))))) g1 w1) ∧ True) ∧
    ((v1 = 0) → Q (some (xi (-1000000001))) g1 w1))) :
    aMo_person d lim Q 0 [xr l0, xi l1, xi l2] [] g w := xAt_exec (cal_m d) kMo_person 16 t
theorem eMo_person {d : Nat} {Q : xQ} {l1 l2 : Int} {l0 : Nat} {g : xG} {w : xW} (t : ∀ (lim : Nat × Nat) (Q2 : xQ), (∀ r g2 w2, g2.1 = g.1 → Q r g2 w2 → Q2 r g2 w2) → aMo_person d lim Q2 0 [xr l0, xi l1, xi l2] [] g w) : cal (d + 1) nMo_person [xr l0, xi l1, xi l2] g w Q := t _ _ xQof
abbrev aMo_way (d : Nat) (lim : Nat × Nat) (Q : xQ) : xK := xAt xMks tMo_way (cal d) lim Q
def kMo_way : List (Nat × List Bool) := []
set_option maxRecDepth 20000 in
theorem wMo_way_0 {d : Nat} {lim : Nat × Nat} {Q : xQ} {l1 l2 : Int} {l0 : Nat} {g : xG} {w : xW} (t : xIs g l0 (0, 7) ∧ (((w l0 4) : Int) ≠ 0 ∧ x32 (Int.tdiv l1 (w l0 4))) ∧ xIs g l0 (0, 7) ∧ (((w l0 4) : Int) ≠ 0 ∧ x32 (Int.tdiv l1 (w l0 4))) ∧ 
  ((l2 < 1 ∨ 4 < l2) → Q (some (xi l1)) g w) ∧
  ((l2 = 1) → 
    (((Int.tdiv l1 (w l0 4)) ≤ 0) → Q (some (xi (-1))) g w) ∧
    ((0 < (Int.tdiv l1 (w l0 4))) → xIs g l0 (0, 7) ∧ x32 (40 + l1) ∧ xIs g l0 (0, 7) ∧ x32 ((40 + l1) - (w l0 4)) ∧ xAr g (g.2 l0 0) ((40 + l1) - (w l0 4)) ∧ 
      ((¬ (w (g.2 l0 0) (Int.toNat ((40 + l1) - (w l0 4)))) = 0) → Q (some (xi (-1))) g w) ∧
      (((w (g.2 l0 0) (Int.toNat ((40 + l1) - (w l0 4)))) = 0) → xIs g l0 (0, 7) ∧ x32 (l1 - (w l0 4)) ∧ Q (some (xi (l1 - (w l0 4)))) g w))) ∧
  ((l2 = 2) → xIs g l0 (0, 7) ∧ x32 ((w l0 4) - 1) ∧ 
    ((((w l0 4) - 1) ≤ (Int.tmod l1 (w l0 4))) → Q (some (xi (-1))) g w) ∧
    (((Int.tmod l1 (w l0 4)) < ((w l0 4) - 1)) → xIs g l0 (0, 7) ∧ x32 (20 + l1) ∧ xAr g (g.2 l0 0) (20 + l1) ∧ 
      ((¬ (w (g.2 l0 0) (Int.toNat (20 + l1))) = 0) → Q (some (xi (-1))) g w) ∧
      (((w (g.2 l0 0) (Int.toNat (20 + l1))) = 0) → x32 (l1 + 1) ∧ Q (some (xi (l1 + 1))) g w))) ∧
  ((l2 = 3) → xIs g l0 (0, 7) ∧ x32 ((w l0 5) - 1) ∧ 
    ((((w l0 5) - 1) ≤ (Int.tdiv l1 (w l0 4))) → Q (some (xi (-1))) g w) ∧
    (((Int.tdiv l1 (w l0 4)) < ((w l0 5) - 1)) → xIs g l0 (0, 7) ∧ x32 (40 + l1) ∧ xAr g (g.2 l0 0) (40 + l1) ∧ 
      ((¬ (w (g.2 l0 0) (Int.toNat (40 + l1))) = 0) → Q (some (xi (-1))) g w) ∧
      (((w (g.2 l0 0) (Int.toNat (40 + l1))) = 0) → xIs g l0 (0, 7) ∧ x32 (l1 + (w l0 4)) ∧ Q (some (xi (l1 + (w l0 4)))) g w))) ∧
  ((l2 = 4) → 
    (((Int.tmod l1 (w l0 4)) ≤ 0) → Q (some (xi (-1))) g w) ∧
    ((0 < (Int.tmod l1 (w l0 4))) → xIs g l0 (0, 7) ∧ x32 (20 + l1) ∧ x32 ((20 + l1) - 1) ∧ xAr g (g.2 l0 0) ((20 + l1) - 1) ∧ 
      ((¬ (w (g.2 l0 0) (Int.toNat ((20 + l1) - 1))) = 0) → Q (some (xi (-1))) g w) ∧
      (((w (g.2 l0 0) (Int.toNat ((20 + l1) - 1))) = 0) → x32 (l1 - 1) ∧ Q (some (xi (l1 - 1))) g w))) ∧ True) :
    aMo_way d lim Q 0 [xr l0, xi l1, xi l2, none, none] [] g w := xAt_exec (cal_m d) kMo_way 32 t
theorem eMo_way {d : Nat} {Q : xQ} {l1 l2 : Int} {l0 : Nat} {g : xG} {w : xW} (t : ∀ (lim : Nat × Nat) (Q2 : xQ), (∀ r g2 w2, g2.1 = g.1 → Q r g2 w2 → Q2 r g2 w2) → aMo_way d lim Q2 0 [xr l0, xi l1, xi l2, none, none] [] g w) : cal (d + 1) nMo_way [xr l0, xi l1, xi l2] g w Q := t _ _ xQof
abbrev aMo_go (d : Nat) (lim : Nat × Nat) (Q : xQ) : xK := xAt xMks tMo_go (cal d) lim Q
def kMo_go : List (Nat × List Bool) := []
set_option maxRecDepth 20000 in
theorem wMo_go_0 {d : Nat} {lim : Nat × Nat} {Q : xQ} {l1 l2 : Int} {l0 : Nat} {g : xG} {w : xW} (t : xIs g l0 (0, 7) ∧ 
  cal d nMo_isPerson [xr l0, xi l1] g w (fun r g1 w1 => ∃ v1 : Int, r = some (xi v1) ∧ 
    ((¬ v1 = 0) → 
      cal d nMo_in [xl l2, xl 1, xl 4] g1 w1 (fun r g2 w2 => ∃ v2 : Int, r = some (xi v2) ∧ 
        ((¬ v2 = 0) → xIs g2 l0 (0, 7) ∧ x32 (108 + l1) ∧ xAr g2 (g2.2 l0 0) (108 + l1) ∧ xIs g2 l0 (0, 7) ∧ 
          cal d nMo_way [xr l0, xi (w2 (g2.2 l0 0) (Int.toNat (108 + l1))), xi l2] g2 w2 (fun r g3 w3 => ∃ v3 : Int, r = some (xi v3) ∧ 
            ((¬ v3 = (-1)) → xIs g3 l0 (0, 7) ∧ x32 (108 + l1) ∧ xA1 g3 (g3.2 l0 0) (108 + l1) ∧ xIs g3 l0 (0, 7) ∧ 
              cal d nMo_named [xr l0, xi v3] g3 (xup w3 (g3.2 l0 0) (Int.toNat (108 + l1)) v3) (fun r g4 w4 => ∃ v4 : Int, r = some (xi v4) ∧ Q (some (xi v4)) g4 w4)) ∧
            ((v3 = (-1)) → Q (some (xi (-1000000003))) g3 w3))) ∧
        ((v2 = 0) → Q (some (xi (-1000000002))) g2 w2))) ∧
    ((v1 = 0) → Q (some (xi (-1000000001))) g1 w1))) :
    aMo_go d lim Q 0 [xr l0, xi l1, xi l2, none] [] g w := xAt_exec (cal_m d) kMo_go 35 t
theorem eMo_go {d : Nat} {Q : xQ} {l1 l2 : Int} {l0 : Nat} {g : xG} {w : xW} (t : ∀ (lim : Nat × Nat) (Q2 : xQ), (∀ r g2 w2, g2.1 = g.1 → Q r g2 w2 → Q2 r g2 w2) → aMo_go d lim Q2 0 [xr l0, xi l1, xi l2, none] [] g w) : cal (d + 1) nMo_go [xr l0, xi l1, xi l2] g w Q := t _ _ xQof
abbrev aMo_build (d : Nat) (lim : Nat × Nat) (Q : xQ) : xK := xAt xMks tMo_build (cal d) lim Q
def kMo_build : List (Nat × List Bool) := []
set_option maxRecDepth 20000 in
theorem wMo_build_0 {d : Nat} {lim : Nat × Nat} {Q : xQ} {l1 l2 l3 l4 : Int} {l0 : Nat} {g : xG} {w : xW} (t : xIs g l0 (0, 7) ∧ 
  cal d nMo_notWall [xr l0, xi l1, xi l2, xi l3] g w (fun r g1 w1 => ∃ v1 : Int, r = some (xi v1) ∧ 
    ((v1 = 0) → x32 (20 * l3) ∧ x32 (20 + (20 * l3)) ∧ xIs g1 l0 (0, 7) ∧ x32 ((w1 l0 4) * l2) ∧ x32 ((20 + (20 * l3)) + ((w1 l0 4) * l2)) ∧ x32 (((20 + (20 * l3)) + ((w1 l0 4) * l2)) + l1) ∧ xIs g1 l0 (0, 7) ∧ xAr g1 (g1.2 l0 0) (((20 + (20 * l3)) + ((w1 l0 4) * l2)) + l1) ∧ xIs g1 l0 (0, 7) ∧ 
      ((l4 = 0) → xA1 g1 (g1.2 l0 0) (((20 + (20 * l3)) + ((w1 l0 4) * l2)) + l1) ∧ Q (some (xi (w1 (g1.2 l0 0) (Int.toNat (((20 + (20 * l3)) + ((w1 l0 4) * l2)) + l1))))) g1 (xup w1 (g1.2 l0 0) (Int.toNat (((20 + (20 * l3)) + ((w1 l0 4) * l2)) + l1)) 0)) ∧
      ((¬ l4 = 0) → xA1 g1 (g1.2 l0 0) (((20 + (20 * l3)) + ((w1 l0 4) * l2)) + l1) ∧ Q (some (xi (w1 (g1.2 l0 0) (Int.toNat (((20 + (20 * l3)) + ((w1 l0 4) * l2)) + l1))))) g1 (xup w1 (g1.2 l0 0) (Int.toNat (((20 + (20 * l3)) + ((w1 l0 4) * l2)) + l1)) 1))) ∧
    ((¬ v1 = 0) → Q (some (xi v1)) g1 w1))) :
    aMo_build d lim Q 0 [xr l0, xi l1, xi l2, xi l3, xi l4, none, none, none] [] g w := xAt_exec (cal_m d) kMo_build 37 t
theorem eMo_build {d : Nat} {Q : xQ} {l1 l2 l3 l4 : Int} {l0 : Nat} {g : xG} {w : xW} (t : ∀ (lim : Nat × Nat) (Q2 : xQ), (∀ r g2 w2, g2.1 = g.1 → Q r g2 w2 → Q2 r g2 w2) → aMo_build d lim Q2 0 [xr l0, xi l1, xi l2, xi l3, xi l4, none, none, none] [] g w) : cal (d + 1) nMo_build [xr l0, xi l1, xi l2, xi l3, xi l4] g w Q := t _ _ xQof
abbrev aMo_canBeLit (d : Nat) (lim : Nat × Nat) (Q : xQ) : xK := xAt xMks tMo_canBeLit (cal d) lim Q
def kMo_canBeLit : List (Nat × List Bool) := []
set_option maxRecDepth 20000 in
theorem wMo_canBeLit_0 {d : Nat} {lim : Nat × Nat} {Q : xQ} {l1 : Int} {l0 : Nat} {g : xG} {w : xW} (t : xIs g l0 (0, 7) ∧ x32 (104 + l1) ∧ xAr g (g.2 l0 0) (104 + l1) ∧ 
  ((¬ (w (g.2 l0 0) (Int.toNat (104 + l1))) = 0) → ((0 : Int) = 0 ∨ (0 : Int) = 1) ∧ Q (some (xi 0)) g w) ∧
  (((w (g.2 l0 0) (Int.toNat (104 + l1))) = 0) → xIs g l0 (0, 7) ∧ x32 (100 + l1) ∧ xAr g (g.2 l0 0) (100 + l1) ∧ 
    (((w (g.2 l0 0) (Int.toNat (100 + l1))) ≤ 0) → ((0 : Int) = 0 ∨ (0 : Int) = 1) ∧ Q (some (xi 0)) g w) ∧
    ((0 < (w (g.2 l0 0) (Int.toNat (100 + l1)))) → ((1 : Int) = 0 ∨ (1 : Int) = 1) ∧ Q (some (xi 1)) g w))) :
    aMo_canBeLit d lim Q 0 [xr l0, xi l1] [] g w := xAt_exec (cal_m d) kMo_canBeLit 18 t
theorem eMo_canBeLit {d : Nat} {Q : xQ} {l1 : Int} {l0 : Nat} {g : xG} {w : xW} (t : ∀ (lim : Nat × Nat) (Q2 : xQ), (∀ r g2 w2, g2.1 = g.1 → Q r g2 w2 → Q2 r g2 w2) → aMo_canBeLit d lim Q2 0 [xr l0, xi l1] [] g w) : cal (d + 1) nMo_canBeLit [xr l0, xi l1] g w Q := t _ _ xQof
abbrev aMo_light (d : Nat) (lim : Nat × Nat) (Q : xQ) : xK := xAt xMks tMo_light (cal d) lim Q
def kMo_light : List (Nat × List Bool) := []
set_option maxRecDepth 20000 in
theorem wMo_light_0 {d : Nat} {lim : Nat × Nat} {Q : xQ} {l1 : Int} {l0 : Nat} {g : xG} {w : xW} (t : xIs g l0 (0, 7) ∧ 
  cal d nMo_isStove [xr l0, xi l1] g w (fun r g1 w1 => ∃ v1 : Int, r = some (xi v1) ∧ 
    ((¬ v1 = 0) → xIs g1 l0 (0, 7) ∧ 
      cal d nMo_canBeLit [xr l0, xi l1] g1 w1 (fun r g2 w2 => ∃ v2 : Int, r = some (xi v2) ∧ 
        ((¬ v2 = 0) → xIs g2 l0 (0, 7) ∧ x32 (104 + l1) ∧ xA1 g2 (g2.2 l0 0) (104 + l1) ∧ xIs g2 l0 (0, 7) ∧ x32 (100 + l1) ∧ xAr g2 (g2.2 l0 0) (100 + l1) ∧ Q (some (xi ((xup w2 (g2.2 l0 0) (Int.toNat (104 + l1)) 1) (g2.2 l0 0) (Int.toNat (100 + l1))))) g2 (xup w2 (g2.2 l0 0) (Int.toNat (104 + l1)) 1)) ∧
        ((v2 = 0) → Q (some (xi (-1000000003))) g2 w2))) ∧
    ((v1 = 0) → Q (some (xi (-1000000001))) g1 w1))) :
    aMo_light d lim Q 0 [xr l0, xi l1] [] g w := xAt_exec (cal_m d) kMo_light 23 t
theorem eMo_light {d : Nat} {Q : xQ} {l1 : Int} {l0 : Nat} {g : xG} {w : xW} (t : ∀ (lim : Nat × Nat) (Q2 : xQ), (∀ r g2 w2, g2.1 = g.1 → Q r g2 w2 → Q2 r g2 w2) → aMo_light d lim Q2 0 [xr l0, xi l1] [] g w) : cal (d + 1) nMo_light [xr l0, xi l1] g w Q := t _ _ xQof
abbrev aMo_stoke (d : Nat) (lim : Nat × Nat) (Q : xQ) : xK := xAt xMks tMo_stoke (cal d) lim Q
def kMo_stoke : List (Nat × List Bool) := [(60, [true, true, false, false])]
set_option maxRecDepth 20000 in
theorem wMo_stoke_0 {d : Nat} {lim : Nat × Nat} {Q : xQ} {l1 l2 : Int} {l0 : Nat} {g : xG} {w : xW} (t : xIs g l0 (0, 7) ∧ 
  cal d nMo_isStove [xr l0, xi l1] g w (fun r g1 w1 => ∃ v1 : Int, r = some (xi v1) ∧ 
    ((¬ v1 = 0) → 
      cal d nMo_in [xl l2, xl 1, xl 99] g1 w1 (fun r g2 w2 => ∃ v2 : Int, r = some (xi v2) ∧ 
        ((¬ v2 = 0) → xIs g2 l0 (0, 7) ∧ x32 (100 + l1) ∧ xAr g2 (g2.2 l0 0) (100 + l1) ∧ x32 ((w2 (g2.2 l0 0) (Int.toNat (100 + l1))) + l2) ∧ xIs g2 l0 (0, 7) ∧ x32 (100 + l1) ∧ 
          ((((w2 (g2.2 l0 0) (Int.toNat (100 + l1))) + l2) ≤ 999) → aMo_stoke d lim Q 60 [xr l0, xi l1, none, none] [xi ((w2 (g2.2 l0 0) (Int.toNat (100 + l1))) + l2), xi (100 + l1), xr (g2.2 l0 0)] g2 w2) ∧
          ((999 < ((w2 (g2.2 l0 0) (Int.toNat (100 + l1))) + l2)) → aMo_stoke d lim Q 60 [xr l0, xi l1, none, none] [xi 999, xi (100 + l1), xr (g2.2 l0 0)] g2 w2)) ∧
        ((v2 = 0) → Q (some (xi (-1000000002))) g2 w2))) ∧
    ((v1 = 0) → Q (some (xi (-1000000001))) g1 w1))) :
    aMo_stoke d lim Q 0 [xr l0, xi l1, xi l2, none] [] g w := xAt_exec (cal_m d) kMo_stoke 30 t
set_option maxRecDepth 20000 in
theorem wMo_stoke_60 {d : Nat} {lim : Nat × Nat} {Q : xQ} {l1 s1 s2 : Int} {l0 s0 : Nat} {g : xG} {w : xW} (t : xA1 g s0 s1 ∧ xIs g l0 (0, 7) ∧ x32 (100 + l1) ∧ xAr g (g.2 l0 0) (100 + l1) ∧ Q (some (xi ((xup w s0 (Int.toNat s1) s2) (g.2 l0 0) (Int.toNat (100 + l1))))) g (xup w s0 (Int.toNat s1) s2)) :
    aMo_stoke d lim Q 60 [xr l0, xi l1, none, none] [xi s2, xi s1, xr s0] g w := xAt_exec (cal_m d) kMo_stoke 9 t
theorem eMo_stoke {d : Nat} {Q : xQ} {l1 l2 : Int} {l0 : Nat} {g : xG} {w : xW} (t : ∀ (lim : Nat × Nat) (Q2 : xQ), (∀ r g2 w2, g2.1 = g.1 → Q r g2 w2 → Q2 r g2 w2) → aMo_stoke d lim Q2 0 [xr l0, xi l1, xi l2, none] [] g w) : cal (d + 1) nMo_stoke [xr l0, xi l1, xi l2] g w Q := t _ _ xQof
abbrev aMo_law (d : Nat) (lim : Nat × Nat) (Q : xQ) : xK := xAt xMks tMo_law (cal d) lim Q
def kMo_law : List (Nat × List Bool) := []
set_option maxRecDepth 20000 in
theorem wMo_law_0 {d : Nat} {lim : Nat × Nat} {Q : xQ} {l1 : Int} {l0 : Nat} {g : xG} {w : xW} (t : 
  cal d nMo_in [xl l1, xl 0, xl 3] g w (fun r g1 w1 => ∃ v1 : Int, r = some (xi v1) ∧ 
    ((¬ v1 = 0) → xIs g1 l0 (0, 7) ∧ xAr g1 (g1.2 l0 0) 138 ∧ xIs g1 l0 (0, 7) ∧ xA1 g1 (g1.2 l0 0) 138 ∧ Q (some (xi (w1 (g1.2 l0 0) (Int.toNat 138)))) g1 (xup w1 (g1.2 l0 0) (Int.toNat 138) l1)) ∧
    ((v1 = 0) → Q (some (xi (-1000000002))) g1 w1))) :
    aMo_law d lim Q 0 [xr l0, xi l1, none] [] g w := xAt_exec (cal_m d) kMo_law 19 t
theorem eMo_law {d : Nat} {Q : xQ} {l1 : Int} {l0 : Nat} {g : xG} {w : xW} (t : ∀ (lim : Nat × Nat) (Q2 : xQ), (∀ r g2 w2, g2.1 = g.1 → Q r g2 w2 → Q2 r g2 w2) → aMo_law d lim Q2 0 [xr l0, xi l1, none] [] g w) : cal (d + 1) nMo_law [xr l0, xi l1] g w Q := t _ _ xQof
abbrev aMo_last (d : Nat) (lim : Nat × Nat) (Q : xQ) : xK := xAt xMks tMo_last (cal d) lim Q
def kMo_last : List (Nat × List Bool) := []
set_option maxRecDepth 20000 in
theorem wMo_last_0 {d : Nat} {lim : Nat × Nat} {Q : xQ} {l1 : Int} {l0 : Nat} {g : xG} {w : xW} (t : 
  cal d nMo_in [xl l1, xl 1, xl 20] g w (fun r g1 w1 => ∃ v1 : Int, r = some (xi v1) ∧ 
    ((¬ v1 = 0) → xIs g1 l0 (0, 7) ∧ xAr g1 (g1.2 l0 0) 139 ∧ xIs g1 l0 (0, 7) ∧ xA1 g1 (g1.2 l0 0) 139 ∧ Q (some (xi (w1 (g1.2 l0 0) (Int.toNat 139)))) g1 (xup w1 (g1.2 l0 0) (Int.toNat 139) l1)) ∧
    ((v1 = 0) → Q (some (xi (-1000000002))) g1 w1))) :
    aMo_last d lim Q 0 [xr l0, xi l1, none] [] g w := xAt_exec (cal_m d) kMo_last 19 t
theorem eMo_last {d : Nat} {Q : xQ} {l1 : Int} {l0 : Nat} {g : xG} {w : xW} (t : ∀ (lim : Nat × Nat) (Q2 : xQ), (∀ r g2 w2, g2.1 = g.1 → Q r g2 w2 → Q2 r g2 w2) → aMo_last d lim Q2 0 [xr l0, xi l1, none] [] g w) : cal (d + 1) nMo_last [xr l0, xi l1] g w Q := t _ _ xQof
abbrev aMo_flows (d : Nat) (lim : Nat × Nat) (Q : xQ) : xK := xAt xMks tMo_flows (cal d) lim Q
def kMo_flows : List (Nat × List Bool) := [(4, [true, true, true, true, false])]
set_option maxRecDepth 20000 in
theorem wMo_flows_0 {d : Nat} {lim : Nat × Nat} {Q : xQ} {l1 : Int} {l0 : Nat} {g : xG} {w : xW} (t : aMo_flows d lim Q 4 [xr l0, xi l1, xi 0, xi 1, none] [] g w) :
    aMo_flows d lim Q 0 [xr l0, xi l1, none, none, none] [] g w := xAt_exec (cal_m d) kMo_flows 5 t
set_option maxRecDepth 20000 in
theorem wMo_flows_4 {d : Nat} {lim : Nat × Nat} {Q : xQ} {l1 l2 l3 : Int} {l0 : Nat} {g : xG} {w : xW} (t : 
  ((4 < l3) → Q (some (xi l2)) g w) ∧
  ((l3 ≤ 4) → xIs g l0 (0, 7) ∧ 
    cal d nMo_way [xr l0, xi l1, xi l3] g w (fun r g1 w1 => ∃ v1 : Int, r = some (xi v1) ∧ 
      ((¬ v1 = (-1)) → xIs g1 l0 (0, 7) ∧ x32 (0 + v1) ∧ xAr g1 (g1.2 l0 0) (0 + v1) ∧ xIs g1 l0 (0, 7) ∧ x32 (0 + l1) ∧ xAr g1 (g1.2 l0 0) (0 + l1) ∧ x32 ((w1 (g1.2 l0 0) (Int.toNat (0 + v1))) - (w1 (g1.2 l0 0) (Int.toNat (0 + l1)))) ∧ ((8 : Int) ≠ 0 ∧ x32 (Int.tdiv ((w1 (g1.2 l0 0) (Int.toNat (0 + v1))) - (w1 (g1.2 l0 0) (Int.toNat (0 + l1)))) 8)) ∧ x32 (l2 + (Int.tdiv ((w1 (g1.2 l0 0) (Int.toNat (0 + v1))) - (w1 (g1.2 l0 0) (Int.toNat (0 + l1)))) 8)) ∧ x32 (l3 + 1) ∧ aMo_flows d lim Q 4 [xr l0, xi l1, xi (l2 + (Int.tdiv ((w1 (g1.2 l0 0) (Int.toNat (0 + v1))) - (w1 (g1.2 l0 0) (Int.toNat (0 + l1)))) 8)), xi (l3 + 1), none] [] g1 w1) ∧
      ((v1 = (-1)) → x32 (l2 + 0) ∧ x32 (l3 + 1) ∧ aMo_flows d lim Q 4 [xr l0, xi l1, xi (l2 + 0), xi (l3 + 1), none] [] g1 w1)))) :
    aMo_flows d lim Q 4 [xr l0, xi l1, xi l2, xi l3, none] [] g w := xAt_exec (cal_m d) kMo_flows 32 t
theorem eMo_flows {d : Nat} {Q : xQ} {l1 : Int} {l0 : Nat} {g : xG} {w : xW} (t : ∀ (lim : Nat × Nat) (Q2 : xQ), (∀ r g2 w2, g2.1 = g.1 → Q r g2 w2 → Q2 r g2 w2) → aMo_flows d lim Q2 0 [xr l0, xi l1, none, none, none] [] g w) : cal (d + 1) nMo_flows [xr l0, xi l1] g w Q := t _ _ xQof
abbrev aMo_goHeat (d : Nat) (lim : Nat × Nat) (Q : xQ) : xK := xAt xMks tMo_goHeat (cal d) lim Q
def kMo_goHeat : List (Nat × List Bool) := [(2, [true, true, false]), (64, [true, true, false]), (105, [true, true, false]), (118, [true, true, false]), (152, [true, true, false]), (191, [true, true, false])]
set_option maxRecDepth 20000 in
theorem wMo_goHeat_0 {d : Nat} {lim : Nat × Nat} {Q : xQ} {l0 : Nat} {g : xG} {w : xW} (t : aMo_goHeat d lim Q 2 [xr l0, xi 0, none] [] g w) :
    aMo_goHeat d lim Q 0 [xr l0, none, none] [] g w := xAt_exec (cal_m d) kMo_goHeat 3 t
set_option maxRecDepth 20000 in
theorem wMo_goHeat_2 {d : Nat} {lim : Nat × Nat} {Q : xQ} {l1 : Int} {l0 : Nat} {g : xG} {w : xW} (t : xIs g l0 (0, 7) ∧ 
  cal d nMo_cells [xr l0] g w (fun r g1 w1 => ∃ v1 : Int, r = some (xi v1) ∧ 
    ((v1 ≤ l1) → aMo_goHeat d lim Q 64 [xr l0, xi 0, none] [] g1 w1) ∧
    ((l1 < v1) → xIs g1 l0 (0, 7) ∧ xIs g1 l0 (0, 7) ∧ x32 (0 + l1) ∧ xAr g1 (g1.2 l0 0) (0 + l1) ∧ xIs g1 l0 (0, 7) ∧ 
      cal d nMo_flows [xr l0, xi l1] g1 w1 (fun r g2 w2 => ∃ v2 : Int, r = some (xi v2) ∧ x32 ((w1 (g1.2 l0 0) (Int.toNat (0 + l1))) + v2) ∧ xIs g2 l0 (0, 7) ∧ xA2 g2 (g2.2 l0 6) l1 ∧ 
        (((w2 (g2.2 l0 6) (Int.toNat l1)) = 0) → xIs g2 l0 (0, 7) ∧ xAr g2 (g2.2 l0 0) 140 ∧ xIs g2 l0 (0, 7) ∧ 
          cal d nMo_sunAt [xr l0, xi (w2 (g2.2 l0 0) (Int.toNat 140))] g2 w2 (fun r g3 w3 => ∃ v3 : Int, r = some (xi v3) ∧ x32 (((w1 (g1.2 l0 0) (Int.toNat (0 + l1))) + v2) + v3) ∧ xA1 g3 (g1.2 l0 48) l1 ∧ x32 (l1 + 1) ∧ aMo_goHeat d lim Q 2 [xr l0, xi (l1 + 1), none] [] g3 (xup w3 (g1.2 l0 48) (Int.toNat l1) (((w1 (g1.2 l0 0) (Int.toNat (0 + l1))) + v2) + v3)))) ∧
        ((¬ (w2 (g2.2 l0 6) (Int.toNat l1)) = 0) → x32 (((w1 (g1.2 l0 0) (Int.toNat (0 + l1))) + v2) + 0) ∧ xA1 g2 (g1.2 l0 48) l1 ∧ x32 (l1 + 1) ∧ aMo_goHeat d lim Q 2 [xr l0, xi (l1 + 1), none] [] g2 (xup w2 (g1.2 l0 48) (Int.toNat l1) (((w1 (g1.2 l0 0) (Int.toNat (0 + l1))) + v2) + 0))))))) :
    aMo_goHeat d lim Q 2 [xr l0, xi l1, none] [] g w := xAt_exec (cal_m d) kMo_goHeat 33 t
set_option maxRecDepth 20000 in
theorem wMo_goHeat_64 {d : Nat} {lim : Nat × Nat} {Q : xQ} {l1 : Int} {l0 : Nat} {g : xG} {w : xW} (t : xIs g l0 (0, 7) ∧ 
  (((w l0 8) ≤ l1) → aMo_goHeat d lim Q 152 [xr l0, xi 0, none] [] g w) ∧
  ((l1 < (w l0 8)) → xIs g l0 (0, 7) ∧ x32 (104 + l1) ∧ xAr g (g.2 l0 0) (104 + l1) ∧ 
    ((¬ (w (g.2 l0 0) (Int.toNat (104 + l1))) = 1) → x32 (l1 + 1) ∧ aMo_goHeat d lim Q 64 [xr l0, xi (l1 + 1), none] [] g w) ∧
    (((w (g.2 l0 0) (Int.toNat (104 + l1))) = 1) → xIs g l0 (0, 7) ∧ xIs g l0 (0, 7) ∧ xAr g (g.2 l0 9) l1 ∧ xAr g (g.2 l0 48) (w (g.2 l0 9) (Int.toNat l1)) ∧ xIs g l0 (0, 7) ∧ xAr g (g.2 l0 10) l1 ∧ x32 ((w (g.2 l0 48) (Int.toNat (w (g.2 l0 9) (Int.toNat l1)))) + (w (g.2 l0 10) (Int.toNat l1))) ∧ xA1 g (g.2 l0 48) (w (g.2 l0 9) (Int.toNat l1)) ∧ aMo_goHeat d lim Q 105 [xr l0, xi l1, none] [] g (xup w (g.2 l0 48) (Int.toNat (w (g.2 l0 9) (Int.toNat l1))) ((w (g.2 l0 48) (Int.toNat (w (g.2 l0 9) (Int.toNat l1)))) + (w (g.2 l0 10) (Int.toNat l1))))))) :
    aMo_goHeat d lim Q 64 [xr l0, xi l1, none] [] g w := xAt_exec (cal_m d) kMo_goHeat 27 t
set_option maxRecDepth 20000 in
theorem wMo_goHeat_105 {d : Nat} {lim : Nat × Nat} {Q : xQ} {l1 : Int} {l0 : Nat} {g : xG} {w : xW} (t : xIs g l0 (0, 7) ∧ x32 (100 + l1) ∧ xAr g (g.2 l0 0) (100 + l1) ∧ x32 ((w (g.2 l0 0) (Int.toNat (100 + l1))) - 1) ∧ xA1 g (g.2 l0 0) (100 + l1) ∧ aMo_goHeat d lim Q 118 [xr l0, xi l1, none] [] g (xup w (g.2 l0 0) (Int.toNat (100 + l1)) ((w (g.2 l0 0) (Int.toNat (100 + l1))) - 1))) :
    aMo_goHeat d lim Q 105 [xr l0, xi l1, none] [] g w := xAt_exec (cal_m d) kMo_goHeat 11 t
set_option maxRecDepth 20000 in
theorem wMo_goHeat_118 {d : Nat} {lim : Nat × Nat} {Q : xQ} {l1 : Int} {l0 : Nat} {g : xG} {w : xW} (t : xIs g l0 (0, 7) ∧ x32 (104 + l1) ∧ xIs g l0 (0, 7) ∧ x32 (100 + l1) ∧ xAr g (g.2 l0 0) (100 + l1) ∧ 
  (((w (g.2 l0 0) (Int.toNat (100 + l1))) ≤ 0) → xA1 g (g.2 l0 0) (104 + l1) ∧ x32 (l1 + 1) ∧ aMo_goHeat d lim Q 64 [xr l0, xi (l1 + 1), none] [] g (xup w (g.2 l0 0) (Int.toNat (104 + l1)) 0)) ∧
  ((0 < (w (g.2 l0 0) (Int.toNat (100 + l1)))) → xA1 g (g.2 l0 0) (104 + l1) ∧ x32 (l1 + 1) ∧ aMo_goHeat d lim Q 64 [xr l0, xi (l1 + 1), none] [] g (xup w (g.2 l0 0) (Int.toNat (104 + l1)) 1))) :
    aMo_goHeat d lim Q 118 [xr l0, xi l1, none] [] g w := xAt_exec (cal_m d) kMo_goHeat 18 t
set_option maxRecDepth 20000 in
theorem wMo_goHeat_152 {d : Nat} {lim : Nat × Nat} {Q : xQ} {l1 : Int} {l0 : Nat} {g : xG} {w : xW} (t : xIs g l0 (0, 7) ∧ 
  (((w l0 13) ≤ l1) → aMo_goHeat d lim Q 191 [xr l0, xi 0, none] [] g w) ∧
  ((l1 < (w l0 13)) → xIs g l0 (0, 7) ∧ xIs g l0 (0, 7) ∧ x32 (108 + l1) ∧ xAr g (g.2 l0 0) (108 + l1) ∧ xAr g (g.2 l0 48) (w (g.2 l0 0) (Int.toNat (108 + l1))) ∧ xIs g l0 (0, 7) ∧ xAr g (g.2 l0 15) l1 ∧ x32 ((w (g.2 l0 48) (Int.toNat (w (g.2 l0 0) (Int.toNat (108 + l1))))) + (w (g.2 l0 15) (Int.toNat l1))) ∧ xA1 g (g.2 l0 48) (w (g.2 l0 0) (Int.toNat (108 + l1))) ∧ x32 (l1 + 1) ∧ aMo_goHeat d lim Q 152 [xr l0, xi (l1 + 1), none] [] g (xup w (g.2 l0 48) (Int.toNat (w (g.2 l0 0) (Int.toNat (108 + l1)))) ((w (g.2 l0 48) (Int.toNat (w (g.2 l0 0) (Int.toNat (108 + l1))))) + (w (g.2 l0 15) (Int.toNat l1)))))) :
    aMo_goHeat d lim Q 152 [xr l0, xi l1, none] [] g w := xAt_exec (cal_m d) kMo_goHeat 23 t
set_option maxRecDepth 20000 in
theorem wMo_goHeat_191 {d : Nat} {lim : Nat × Nat} {Q : xQ} {l1 : Int} {l0 : Nat} {g : xG} {w : xW} (t : xIs g l0 (0, 7) ∧ 
  cal d nMo_cells [xr l0] g w (fun r g1 w1 => ∃ v1 : Int, r = some (xi v1) ∧ 
    ((v1 ≤ l1) → Q none g1 w1) ∧
    ((l1 < v1) → xIs g1 l0 (0, 7) ∧ xAr g1 (g1.2 l0 48) l1 ∧ xIs g1 l0 (0, 7) ∧ xAr g1 (g1.2 l0 48) l1 ∧ ((50 : Int) ≠ 0 ∧ x32 (Int.tdiv (w1 (g1.2 l0 48) (Int.toNat l1)) 50)) ∧ x32 ((w1 (g1.2 l0 48) (Int.toNat l1)) - (Int.tdiv (w1 (g1.2 l0 48) (Int.toNat l1)) 50)) ∧ xIs g1 l0 (0, 7) ∧ x32 (0 + l1) ∧ 
      ((((w1 (g1.2 l0 48) (Int.toNat l1)) - (Int.tdiv (w1 (g1.2 l0 48) (Int.toNat l1)) 50)) ≤ 999) → xA1 g1 (g1.2 l0 0) (0 + l1) ∧ x32 (l1 + 1) ∧ aMo_goHeat d lim Q 191 [xr l0, xi (l1 + 1), none] [] g1 (xup w1 (g1.2 l0 0) (Int.toNat (0 + l1)) ((w1 (g1.2 l0 48) (Int.toNat l1)) - (Int.tdiv (w1 (g1.2 l0 48) (Int.toNat l1)) 50)))) ∧
      ((999 < ((w1 (g1.2 l0 48) (Int.toNat l1)) - (Int.tdiv (w1 (g1.2 l0 48) (Int.toNat l1)) 50))) → xA1 g1 (g1.2 l0 0) (0 + l1) ∧ x32 (l1 + 1) ∧ aMo_goHeat d lim Q 191 [xr l0, xi (l1 + 1), none] [] g1 (xup w1 (g1.2 l0 0) (Int.toNat (0 + l1)) 999))))) :
    aMo_goHeat d lim Q 191 [xr l0, xi l1, none] [] g w := xAt_exec (cal_m d) kMo_goHeat 30 t
theorem eMo_goHeat {d : Nat} {Q : xQ} {l0 : Nat} {g : xG} {w : xW} (t : ∀ (lim : Nat × Nat) (Q2 : xQ), (∀ r g2 w2, g2.1 = g.1 → Q r g2 w2 → Q2 r g2 w2) → aMo_goHeat d lim Q2 0 [xr l0, none, none] [] g w) : cal (d + 1) nMo_goHeat [xr l0] g w Q := t _ _ xQof
abbrev aMo_feel (d : Nat) (lim : Nat × Nat) (Q : xQ) : xK := xAt xMks tMo_feel (cal d) lim Q
def kMo_feel : List (Nat × List Bool) := [(7, [true, true, false]), (63, [true, true, false])]
set_option maxRecDepth 20000 in
theorem wMo_feel_0 {d : Nat} {lim : Nat × Nat} {Q : xQ} {l0 : Nat} {g : xG} {w : xW} (t : xIs g l0 (0, 7) ∧ aMo_feel d lim Q 7 [xr l0, xi 0, none] [] g (xup w l0 49 0)) :
    aMo_feel d lim Q 0 [xr l0, none, none] [] g w := xAt_exec (cal_m d) kMo_feel 6 t
set_option maxRecDepth 20000 in
theorem wMo_feel_7 {d : Nat} {lim : Nat × Nat} {Q : xQ} {l1 : Int} {l0 : Nat} {g : xG} {w : xW} (t : xIs g l0 (0, 7) ∧ 
  (((w l0 13) ≤ l1) → Q none g w) ∧
  ((l1 < (w l0 13)) → xIs g l0 (0, 7) ∧ 
    ((l1 = (w l0 50)) → aMo_feel d lim Q 63 [xr l0, xi l1, none] [xi 0] g w) ∧
    ((¬ l1 = (w l0 50)) → xIs g l0 (0, 7) ∧ xIs g l0 (0, 7) ∧ x32 (108 + l1) ∧ xAr g (g.2 l0 0) (108 + l1) ∧ x32 (0 + (w (g.2 l0 0) (Int.toNat (108 + l1)))) ∧ xAr g (g.2 l0 0) (0 + (w (g.2 l0 0) (Int.toNat (108 + l1)))) ∧ xIs g l0 (0, 7) ∧ x32 (114 + l1) ∧ xAr g (g.2 l0 0) (114 + l1) ∧ xIs g l0 (0, 7) ∧ xAr g (g.2 l0 14) l1 ∧ x32 ((w (g.2 l0 0) (Int.toNat (114 + l1))) + (w (g.2 l0 14) (Int.toNat l1))) ∧ 
      (((w (g.2 l0 0) (Int.toNat (0 + (w (g.2 l0 0) (Int.toNat (108 + l1)))))) < ((w (g.2 l0 0) (Int.toNat (114 + l1))) + (w (g.2 l0 14) (Int.toNat l1)))) → aMo_feel d lim Q 63 [xr l0, xi l1, none] [xi 0] g w) ∧
      ((((w (g.2 l0 0) (Int.toNat (114 + l1))) + (w (g.2 l0 14) (Int.toNat l1))) ≤ (w (g.2 l0 0) (Int.toNat (0 + (w (g.2 l0 0) (Int.toNat (108 + l1))))))) → aMo_feel d lim Q 63 [xr l0, xi l1, none] [xi 1] g w)))) :
    aMo_feel d lim Q 7 [xr l0, xi l1, none] [] g w := xAt_exec (cal_m d) kMo_feel 34 t
set_option maxRecDepth 20000 in
theorem wMo_feel_63 {d : Nat} {lim : Nat × Nat} {Q : xQ} {l1 s0 : Int} {l0 : Nat} {g : xG} {w : xW} (t : xIs g l0 (0, 7) ∧ 
  ((s0 = 0) → xIs g l0 (0, 7) ∧ x32 (l1 + 1) ∧ aMo_feel d lim Q 7 [xr l0, xi (l1 + 1), none] [] g (xup w l0 49 (xOr (w l0 49) 0))) ∧
  ((¬ s0 = 0) → xIs g l0 (0, 7) ∧ x32 (l1 + 1) ∧ aMo_feel d lim Q 7 [xr l0, xi (l1 + 1), none] [] g (xup w l0 49 (xOr (w l0 49) (xShl 1 l1))))) :
    aMo_feel d lim Q 63 [xr l0, xi l1, none] [xi s0] g w := xAt_exec (cal_m d) kMo_feel 15 t
theorem eMo_feel {d : Nat} {Q : xQ} {l0 : Nat} {g : xG} {w : xW} (t : ∀ (lim : Nat × Nat) (Q2 : xQ), (∀ r g2 w2, g2.1 = g.1 → Q r g2 w2 → Q2 r g2 w2) → aMo_feel d lim Q2 0 [xr l0, none, none] [] g w) : cal (d + 1) nMo_feel [xr l0] g w Q := t _ _ xQof
abbrev aMo_feelsOn (d : Nat) (lim : Nat × Nat) (Q : xQ) : xK := xAt xMks tMo_feelsOn (cal d) lim Q
def kMo_feelsOn : List (Nat × List Bool) := []
set_option maxRecDepth 20000 in
theorem wMo_feelsOn_0 {d : Nat} {lim : Nat × Nat} {Q : xQ} {l1 l2 : Int} {l0 : Nat} {g : xG} {w : xW} (t : xIs g l0 (0, 7) ∧ 
  ((¬ (xAnd (xShr (w l0 49) l1) 1) = 1) → ((0 : Int) = 0 ∨ (0 : Int) = 1) ∧ Q (some (xi 0)) g w) ∧
  (((xAnd (xShr (w l0 49) l1) 1) = 1) → xIs g l0 (0, 7) ∧ x32 (108 + l1) ∧ xAr g (g.2 l0 0) (108 + l1) ∧ 
    ((¬ (w (g.2 l0 0) (Int.toNat (108 + l1))) = l2) → ((0 : Int) = 0 ∨ (0 : Int) = 1) ∧ Q (some (xi 0)) g w) ∧
    (((w (g.2 l0 0) (Int.toNat (108 + l1))) = l2) → ((1 : Int) = 0 ∨ (1 : Int) = 1) ∧ Q (some (xi 1)) g w))) :
    aMo_feelsOn d lim Q 0 [xr l0, xi l1, xi l2] [] g w := xAt_exec (cal_m d) kMo_feelsOn 20 t
theorem eMo_feelsOn {d : Nat} {Q : xQ} {l1 l2 : Int} {l0 : Nat} {g : xG} {w : xW} (t : ∀ (lim : Nat × Nat) (Q2 : xQ), (∀ r g2 w2, g2.1 = g.1 → Q r g2 w2 → Q2 r g2 w2) → aMo_feelsOn d lim Q2 0 [xr l0, xi l1, xi l2] [] g w) : cal (d + 1) nMo_feelsOn [xr l0, xi l1, xi l2] g w Q := t _ _ xQof
abbrev aMo_own (d : Nat) (lim : Nat × Nat) (Q : xQ) : xK := xAt xMks tMo_own (cal d) lim Q
def kMo_own : List (Nat × List Bool) := [(2, [true, true, false, false, false]), (14, [true, true, true, true, false]), (75, [true, true, true, true, false]), (94, [true, true, true, false, false]), (120, [true, true, false, false, false]), (121, [true, true, false, false, false]), (164, [true, true, false, false, false])]
set_option maxRecDepth 20000 in
theorem wMo_own_0 {d : Nat} {lim : Nat × Nat} {Q : xQ} {l0 : Nat} {g : xG} {w : xW} (t : aMo_own d lim Q 2 [xr l0, xi 0, none, none, none] [] g w) :
    aMo_own d lim Q 0 [xr l0, none, none, none, none] [] g w := xAt_exec (cal_m d) kMo_own 3 t
set_option maxRecDepth 20000 in
theorem wMo_own_2 {d : Nat} {lim : Nat × Nat} {Q : xQ} {l1 : Int} {l0 : Nat} {g : xG} {w : xW} (t : xIs g l0 (0, 7) ∧ 
  cal d nMo_cells [xr l0] g w (fun r g1 w1 => ∃ v1 : Int, r = some (xi v1) ∧ 
    ((v1 ≤ l1) → Q none g1 w1) ∧
    ((l1 < v1) → aMo_own d lim Q 14 [xr l0, xi l1, xi (-1), xi 0, none] [] g1 w1))) :
    aMo_own d lim Q 2 [xr l0, xi l1, none, none, none] [] g w := xAt_exec (cal_m d) kMo_own 9 t
set_option maxRecDepth 20000 in
theorem wMo_own_14 {d : Nat} {lim : Nat × Nat} {Q : xQ} {l1 l2 l3 : Int} {l0 : Nat} {g : xG} {w : xW} (t : xIs g l0 (0, 7) ∧ 
  (((w l0 13) ≤ l3) → aMo_own d lim Q 94 [xr l0, xi l1, xi l2, none, none] [] g w) ∧
  ((l3 < (w l0 13)) → xIs g l0 (0, 7) ∧ x32 (60 + l1) ∧ xAr g (g.2 l0 0) (60 + l1) ∧ 
    ((¬ (w (g.2 l0 0) (Int.toNat (60 + l1))) = (-1)) → aMo_own d lim Q 94 [xr l0, xi l1, xi l2, none, none] [] g w) ∧
    (((w (g.2 l0 0) (Int.toNat (60 + l1))) = (-1)) → xIs g l0 (0, 7) ∧ 
      cal d nMo_feelsOn [xr l0, xi l3, xi l1] g w (fun r g1 w1 => ∃ v1 : Int, r = some (xi v1) ∧ 
        ((v1 = 0) → aMo_own d lim Q 75 [xr l0, xi l1, xi l2, xi l3, none] [xi 0] g1 w1) ∧
        ((¬ v1 = 0) → 
          ((l2 = (-1)) → aMo_own d lim Q 75 [xr l0, xi l1, xi l2, xi l3, none] [xi 1] g1 w1) ∧
          ((¬ l2 = (-1)) → xIs g1 l0 (0, 7) ∧ x32 (114 + l3) ∧ xAr g1 (g1.2 l0 0) (114 + l3) ∧ xIs g1 l0 (0, 7) ∧ x32 (114 + l2) ∧ xAr g1 (g1.2 l0 0) (114 + l2) ∧ 
            (((w1 (g1.2 l0 0) (Int.toNat (114 + l2))) ≤ (w1 (g1.2 l0 0) (Int.toNat (114 + l3)))) → aMo_own d lim Q 75 [xr l0, xi l1, xi l2, xi l3, none] [xi 0] g1 w1) ∧
            (((w1 (g1.2 l0 0) (Int.toNat (114 + l3))) < (w1 (g1.2 l0 0) (Int.toNat (114 + l2)))) → aMo_own d lim Q 75 [xr l0, xi l1, xi l2, xi l3, none] [xi 1] g1 w1))))))) :
    aMo_own d lim Q 14 [xr l0, xi l1, xi l2, xi l3, none] [] g w := xAt_exec (cal_m d) kMo_own 36 t
set_option maxRecDepth 20000 in
theorem wMo_own_75 {d : Nat} {lim : Nat × Nat} {Q : xQ} {l1 l2 l3 s0 : Int} {l0 : Nat} {g : xG} {w : xW} (t : 
  ((s0 = 0) → x32 (l3 + 1) ∧ aMo_own d lim Q 14 [xr l0, xi l1, xi l2, xi (l3 + 1), none] [] g w) ∧
  ((¬ s0 = 0) → x32 (l3 + 1) ∧ aMo_own d lim Q 14 [xr l0, xi l1, xi l3, xi (l3 + 1), none] [] g w)) :
    aMo_own d lim Q 75 [xr l0, xi l1, xi l2, xi l3, none] [xi s0] g w := xAt_exec (cal_m d) kMo_own 9 t
set_option maxRecDepth 20000 in
theorem wMo_own_94 {d : Nat} {lim : Nat × Nat} {Q : xQ} {l1 l2 : Int} {l0 : Nat} {g : xG} {w : xW} (t : xIs g l0 (0, 7) ∧ x32 (60 + l1) ∧ 
  ((¬ l2 = (-1)) → aMo_own d lim Q 120 [xr l0, xi l1, none, none, none] [xi l2, xi (60 + l1), xr (g.2 l0 0)] g w) ∧
  ((l2 = (-1)) → xIs g l0 (0, 7) ∧ x32 (60 + l1) ∧ xAr g (g.2 l0 0) (60 + l1) ∧ aMo_own d lim Q 120 [xr l0, xi l1, none, none, none] [xi (w (g.2 l0 0) (Int.toNat (60 + l1))), xi (60 + l1), xr (g.2 l0 0)] g w)) :
    aMo_own d lim Q 94 [xr l0, xi l1, xi l2, none, none] [] g w := xAt_exec (cal_m d) kMo_own 16 t
set_option maxRecDepth 20000 in
theorem wMo_own_120 {d : Nat} {lim : Nat × Nat} {Q : xQ} {l1 s1 s2 : Int} {l0 s0 : Nat} {g : xG} {w : xW} (t : xA1 g s0 s1 ∧ aMo_own d lim Q 121 [xr l0, xi l1, none, none, none] [] g (xup w s0 (Int.toNat s1) s2)) :
    aMo_own d lim Q 120 [xr l0, xi l1, none, none, none] [xi s2, xi s1, xr s0] g w := xAt_exec (cal_m d) kMo_own 2 t
set_option maxRecDepth 20000 in
theorem wMo_own_121 {d : Nat} {lim : Nat × Nat} {Q : xQ} {l1 : Int} {l0 : Nat} {g : xG} {w : xW} (t : xIs g l0 (0, 7) ∧ x32 (60 + l1) ∧ xAr g (g.2 l0 0) (60 + l1) ∧ xIs g l0 (0, 7) ∧ x32 (80 + l1) ∧ 
  (((w (g.2 l0 0) (Int.toNat (60 + l1))) = (-1)) → aMo_own d lim Q 164 [xr l0, xi l1, none, none, none] [xi (80 + l1), xr (g.2 l0 0)] g w) ∧
  ((¬ (w (g.2 l0 0) (Int.toNat (60 + l1))) = (-1)) → xIs g l0 (0, 7) ∧ 
    cal d nMo_feelsOn [xr l0, xi (w (g.2 l0 0) (Int.toNat (60 + l1))), xi l1] g w (fun r g1 w1 => ∃ v1 : Int, r = some (xi v1) ∧ 
      ((v1 = 0) → aMo_own d lim Q 164 [xr l0, xi l1, none, none, none] [xi (80 + l1), xr (g.2 l0 0)] g1 w1) ∧
      ((¬ v1 = 0) → xIs g1 l0 (0, 7) ∧ xAr g1 (g1.2 l0 0) 140 ∧ xA1 g1 (g.2 l0 0) (80 + l1) ∧ x32 (l1 + 1) ∧ aMo_own d lim Q 2 [xr l0, xi (l1 + 1), none, none, none] [] g1 (xup w1 (g.2 l0 0) (Int.toNat (80 + l1)) (w1 (g1.2 l0 0) (Int.toNat 140))))))) :
    aMo_own d lim Q 121 [xr l0, xi l1, none, none, none] [] g w := xAt_exec (cal_m d) kMo_own 29 t
set_option maxRecDepth 20000 in
theorem wMo_own_164 {d : Nat} {lim : Nat × Nat} {Q : xQ} {l1 s1 : Int} {l0 s0 : Nat} {g : xG} {w : xW} (t : xIs g l0 (0, 7) ∧ x32 (80 + l1) ∧ xAr g (g.2 l0 0) (80 + l1) ∧ xA1 g s0 s1 ∧ x32 (l1 + 1) ∧ aMo_own d lim Q 2 [xr l0, xi (l1 + 1), none, none, none] [] g (xup w s0 (Int.toNat s1) (w (g.2 l0 0) (Int.toNat (80 + l1))))) :
    aMo_own d lim Q 164 [xr l0, xi l1, none, none, none] [xi s1, xr s0] g w := xAt_exec (cal_m d) kMo_own 10 t
theorem eMo_own {d : Nat} {Q : xQ} {l0 : Nat} {g : xG} {w : xW} (t : ∀ (lim : Nat × Nat) (Q2 : xQ), (∀ r g2 w2, g2.1 = g.1 → Q r g2 w2 → Q2 r g2 w2) → aMo_own d lim Q2 0 [xr l0, none, none, none, none] [] g w) : cal (d + 1) nMo_own [xr l0] g w Q := t _ _ xQof
abbrev aMo_goLaw (d : Nat) (lim : Nat × Nat) (Q : xQ) : xK := xAt xMks tMo_goLaw (cal d) lim Q
def kMo_goLaw : List (Nat × List Bool) := [(2, [true, true, false, false, false]), (66, [true, true, true, false, false]), (102, [true, true, true, true, false]), (135, [true, true, false, false, false]), (211, [true, true, true, false, false])]
set_option maxRecDepth 20000 in
theorem wMo_goLaw_0 {d : Nat} {lim : Nat × Nat} {Q : xQ} {l0 : Nat} {g : xG} {w : xW} (t : aMo_goLaw d lim Q 2 [xr l0, xi 0, none, none, none] [] g w) :
    aMo_goLaw d lim Q 0 [xr l0, none, none, none, none] [] g w := xAt_exec (cal_m d) kMo_goLaw 3 t
set_option maxRecDepth 20000 in
theorem wMo_goLaw_2 {d : Nat} {lim : Nat × Nat} {Q : xQ} {l1 : Int} {l0 : Nat} {g : xG} {w : xW} (t : xIs g l0 (0, 7) ∧ 
  cal d nMo_cells [xr l0] g w (fun r g1 w1 => ∃ v1 : Int, r = some (xi v1) ∧ 
    ((v1 ≤ l1) → aMo_goLaw d lim Q 135 [xr l0, xi 0, none, none, none] [] g1 w1) ∧
    ((l1 < v1) → xIs g1 l0 (0, 7) ∧ x32 (60 + l1) ∧ xAr g1 (g1.2 l0 0) (60 + l1) ∧ xIs g1 l0 (0, 7) ∧ xAr g1 (g1.2 l0 0) 138 ∧ 
      ((¬ (w1 (g1.2 l0 0) (Int.toNat 138)) = 1) → aMo_goLaw d lim Q 66 [xr l0, xi l1, xi (w1 (g1.2 l0 0) (Int.toNat (60 + l1))), none, none] [xi 0] g1 w1) ∧
      (((w1 (g1.2 l0 0) (Int.toNat 138)) = 1) → xIs g1 l0 (0, 7) ∧ xAr g1 (g1.2 l0 0) 140 ∧ xIs g1 l0 (0, 7) ∧ x32 (80 + l1) ∧ xAr g1 (g1.2 l0 0) (80 + l1) ∧ x32 ((w1 (g1.2 l0 0) (Int.toNat 140)) - (w1 (g1.2 l0 0) (Int.toNat (80 + l1)))) ∧ xIs g1 l0 (0, 7) ∧ xAr g1 (g1.2 l0 0) 139 ∧ 
        ((((w1 (g1.2 l0 0) (Int.toNat 140)) - (w1 (g1.2 l0 0) (Int.toNat (80 + l1)))) ≤ (w1 (g1.2 l0 0) (Int.toNat 139))) → aMo_goLaw d lim Q 66 [xr l0, xi l1, xi (w1 (g1.2 l0 0) (Int.toNat (60 + l1))), none, none] [xi 0] g1 w1) ∧
        (((w1 (g1.2 l0 0) (Int.toNat 139)) < ((w1 (g1.2 l0 0) (Int.toNat 140)) - (w1 (g1.2 l0 0) (Int.toNat (80 + l1))))) → aMo_goLaw d lim Q 66 [xr l0, xi l1, xi (w1 (g1.2 l0 0) (Int.toNat (60 + l1))), none, none] [xi 1] g1 w1))))) :
    aMo_goLaw d lim Q 2 [xr l0, xi l1, none, none, none] [] g w := xAt_exec (cal_m d) kMo_goLaw 36 t
set_option maxRecDepth 20000 in
theorem wMo_goLaw_66 {d : Nat} {lim : Nat × Nat} {Q : xQ} {l1 l2 s0 : Int} {l0 : Nat} {g : xG} {w : xW} (t : xIs g l0 (0, 7) ∧ xAr g (g.2 l0 0) 138 ∧ 
  ((¬ (w (g.2 l0 0) (Int.toNat 138)) = 2) → aMo_goLaw d lim Q 102 [xr l0, xi l1, xi l2, xi s0, none] [xi 0] g w) ∧
  (((w (g.2 l0 0) (Int.toNat 138)) = 2) → 
    ((l2 = (-1)) → aMo_goLaw d lim Q 102 [xr l0, xi l1, xi l2, xi s0, none] [xi 0] g w) ∧
    ((¬ l2 = (-1)) → xIs g l0 (0, 7) ∧ x32 (108 + l2) ∧ xAr g (g.2 l0 0) (108 + l2) ∧ 
      (((w (g.2 l0 0) (Int.toNat (108 + l2))) = l1) → aMo_goLaw d lim Q 102 [xr l0, xi l1, xi l2, xi s0, none] [xi 0] g w) ∧
      ((¬ (w (g.2 l0 0) (Int.toNat (108 + l2))) = l1) → aMo_goLaw d lim Q 102 [xr l0, xi l1, xi l2, xi s0, none] [xi 1] g w)))) :
    aMo_goLaw d lim Q 66 [xr l0, xi l1, xi l2, none, none] [xi s0] g w := xAt_exec (cal_m d) kMo_goLaw 21 t
set_option maxRecDepth 20000 in
theorem wMo_goLaw_102 {d : Nat} {lim : Nat × Nat} {Q : xQ} {l1 l2 l3 s0 : Int} {l0 : Nat} {g : xG} {w : xW} (t : xIs g l0 (0, 7) ∧ x32 (60 + l1) ∧ 
  ((¬ l3 = 0) → xA1 g (g.2 l0 0) (60 + l1) ∧ x32 (l1 + 1) ∧ aMo_goLaw d lim Q 2 [xr l0, xi (l1 + 1), none, none, none] [] g (xup w (g.2 l0 0) (Int.toNat (60 + l1)) (-1))) ∧
  ((l3 = 0) → 
    ((s0 = 0) → xA1 g (g.2 l0 0) (60 + l1) ∧ x32 (l1 + 1) ∧ aMo_goLaw d lim Q 2 [xr l0, xi (l1 + 1), none, none, none] [] g (xup w (g.2 l0 0) (Int.toNat (60 + l1)) l2)) ∧
    ((¬ s0 = 0) → xA1 g (g.2 l0 0) (60 + l1) ∧ x32 (l1 + 1) ∧ aMo_goLaw d lim Q 2 [xr l0, xi (l1 + 1), none, none, none] [] g (xup w (g.2 l0 0) (Int.toNat (60 + l1)) (-1))))) :
    aMo_goLaw d lim Q 102 [xr l0, xi l1, xi l2, xi l3, none] [xi s0] g w := xAt_exec (cal_m d) kMo_goLaw 16 t
set_option maxRecDepth 20000 in
theorem wMo_goLaw_135 {d : Nat} {lim : Nat × Nat} {Q : xQ} {l1 : Int} {l0 : Nat} {g : xG} {w : xW} (t : xIs g l0 (0, 7) ∧ 
  (((w l0 13) ≤ l1) → Q none g w) ∧
  ((l1 < (w l0 13)) → xIs g l0 (0, 7) ∧ xAr g (g.2 l0 0) 138 ∧ 
    ((¬ (w (g.2 l0 0) (Int.toNat 138)) = 3) → Q none g w) ∧
    (((w (g.2 l0 0) (Int.toNat 138)) = 3) → xIs g l0 (0, 7) ∧ xIs g l0 (0, 7) ∧ x32 (108 + l1) ∧ xAr g (g.2 l0 0) (108 + l1) ∧ x32 (60 + (w (g.2 l0 0) (Int.toNat (108 + l1)))) ∧ xAr g (g.2 l0 0) (60 + (w (g.2 l0 0) (Int.toNat (108 + l1)))) ∧ xIs g l0 (0, 7) ∧ 
      ((¬ (xAnd (xShr (w l0 49) l1) 1) = 1) → x32 (l1 + 1) ∧ aMo_goLaw d lim Q 135 [xr l0, xi (l1 + 1), none, none, none] [] g w) ∧
      (((xAnd (xShr (w l0 49) l1) 1) = 1) → 
        (((w (g.2 l0 0) (Int.toNat (60 + (w (g.2 l0 0) (Int.toNat (108 + l1)))))) = (-1)) → x32 (l1 + 1) ∧ aMo_goLaw d lim Q 135 [xr l0, xi (l1 + 1), none, none, none] [] g w) ∧
        ((¬ (w (g.2 l0 0) (Int.toNat (60 + (w (g.2 l0 0) (Int.toNat (108 + l1)))))) = (-1)) → 
          (((w (g.2 l0 0) (Int.toNat (60 + (w (g.2 l0 0) (Int.toNat (108 + l1)))))) = l1) → x32 (l1 + 1) ∧ aMo_goLaw d lim Q 135 [xr l0, xi (l1 + 1), none, none, none] [] g w) ∧
          ((¬ (w (g.2 l0 0) (Int.toNat (60 + (w (g.2 l0 0) (Int.toNat (108 + l1)))))) = l1) → xIs g l0 (0, 7) ∧ x32 (132 + l1) ∧ xAr g (g.2 l0 0) (132 + l1) ∧ xA1 g (g.2 l0 0) (132 + l1) ∧ aMo_goLaw d lim Q 211 [xr l0, xi l1, xi (w (g.2 l0 0) (Int.toNat (60 + (w (g.2 l0 0) (Int.toNat (108 + l1)))))), none, none] [] g (xup w (g.2 l0 0) (Int.toNat (132 + l1)) (xOr (w (g.2 l0 0) (Int.toNat (132 + l1))) (xShl 1 (w (g.2 l0 0) (Int.toNat (60 + (w (g.2 l0 0) (Int.toNat (108 + l1))))))))))))))) :
    aMo_goLaw d lim Q 135 [xr l0, xi l1, none, none, none] [] g w := xAt_exec (cal_m d) kMo_goLaw 49 t
set_option maxRecDepth 20000 in
theorem wMo_goLaw_211 {d : Nat} {lim : Nat × Nat} {Q : xQ} {l1 l2 : Int} {l0 : Nat} {g : xG} {w : xW} (t : xIs g l0 (0, 7) ∧ x32 (132 + l2) ∧ xAr g (g.2 l0 0) (132 + l2) ∧ xA1 g (g.2 l0 0) (132 + l2) ∧ x32 (l1 + 1) ∧ aMo_goLaw d lim Q 135 [xr l0, xi (l1 + 1), none, none, none] [] g (xup w (g.2 l0 0) (Int.toNat (132 + l2)) (xOr (w (g.2 l0 0) (Int.toNat (132 + l2))) (xShl 1 l1)))) :
    aMo_goLaw d lim Q 211 [xr l0, xi l1, xi l2, none, none] [] g w := xAt_exec (cal_m d) kMo_goLaw 15 t
theorem eMo_goLaw {d : Nat} {Q : xQ} {l0 : Nat} {g : xG} {w : xW} (t : ∀ (lim : Nat × Nat) (Q2 : xQ), (∀ r g2 w2, g2.1 = g.1 → Q r g2 w2 → Q2 r g2 w2) → aMo_goLaw d lim Q2 0 [xr l0, none, none, none, none] [] g w) : cal (d + 1) nMo_goLaw [xr l0] g w Q := t _ _ xQof
abbrev aMo_arePartners (d : Nat) (lim : Nat × Nat) (Q : xQ) : xK := xAt xMks tMo_arePartners (cal d) lim Q
def kMo_arePartners : List (Nat × List Bool) := []
set_option maxRecDepth 20000 in
theorem wMo_arePartners_0 {d : Nat} {lim : Nat × Nat} {Q : xQ} {l1 l2 : Int} {l0 : Nat} {g : xG} {w : xW} (t : xIs g l0 (0, 7) ∧ x32 (132 + l1) ∧ xAr g (g.2 l0 0) (132 + l1) ∧ 
  ((¬ (xAnd (xShr (w (g.2 l0 0) (Int.toNat (132 + l1))) l2) 1) = 1) → ((0 : Int) = 0 ∨ (0 : Int) = 1) ∧ Q (some (xi 0)) g w) ∧
  (((xAnd (xShr (w (g.2 l0 0) (Int.toNat (132 + l1))) l2) 1) = 1) → ((1 : Int) = 0 ∨ (1 : Int) = 1) ∧ Q (some (xi 1)) g w)) :
    aMo_arePartners d lim Q 0 [xr l0, xi l1, xi l2] [] g w := xAt_exec (cal_m d) kMo_arePartners 16 t
theorem eMo_arePartners {d : Nat} {Q : xQ} {l1 l2 : Int} {l0 : Nat} {g : xG} {w : xW} (t : ∀ (lim : Nat × Nat) (Q2 : xQ), (∀ r g2 w2, g2.1 = g.1 → Q r g2 w2 → Q2 r g2 w2) → aMo_arePartners d lim Q2 0 [xr l0, xi l1, xi l2] [] g w) : cal (d + 1) nMo_arePartners [xr l0, xi l1, xi l2] g w Q := t _ _ xQof
abbrev aMo_isOwedFor (d : Nat) (lim : Nat × Nat) (Q : xQ) : xK := xAt xMks tMo_isOwedFor (cal d) lim Q
def kMo_isOwedFor : List (Nat × List Bool) := []
set_option maxRecDepth 20000 in
theorem wMo_isOwedFor_0 {d : Nat} {lim : Nat × Nat} {Q : xQ} {l1 l2 : Int} {l0 : Nat} {g : xG} {w : xW} (t : xIs g l0 (0, 7) ∧ x32 (60 + l2) ∧ xAr g (g.2 l0 0) (60 + l2) ∧ 
  (((w (g.2 l0 0) (Int.toNat (60 + l2))) = (-1)) → ((0 : Int) = 0 ∨ (0 : Int) = 1) ∧ Q (some (xi 0)) g w) ∧
  ((¬ (w (g.2 l0 0) (Int.toNat (60 + l2))) = (-1)) → 
    (((w (g.2 l0 0) (Int.toNat (60 + l2))) = l1) → ((0 : Int) = 0 ∨ (0 : Int) = 1) ∧ Q (some (xi 0)) g w) ∧
    ((¬ (w (g.2 l0 0) (Int.toNat (60 + l2))) = l1) → xIs g l0 (0, 7) ∧ 
      cal d nMo_arePartners [xr l0, xi l1, xi (w (g.2 l0 0) (Int.toNat (60 + l2)))] g w (fun r g1 w1 => ∃ v1 : Int, r = some (xi v1) ∧ 
        ((¬ v1 = 0) → ((0 : Int) = 0 ∨ (0 : Int) = 1) ∧ Q (some (xi 0)) g1 w1) ∧
        ((v1 = 0) → xIs g1 l0 (0, 7) ∧ x32 (0 + l2) ∧ xAr g1 (g1.2 l0 0) (0 + l2) ∧ 
          (((w1 (g1.2 l0 0) (Int.toNat (0 + l2))) < 50) → ((0 : Int) = 0 ∨ (0 : Int) = 1) ∧ Q (some (xi 0)) g1 w1) ∧
          ((50 ≤ (w1 (g1.2 l0 0) (Int.toNat (0 + l2)))) → ((1 : Int) = 0 ∨ (1 : Int) = 1) ∧ Q (some (xi 1)) g1 w1)))))) :
    aMo_isOwedFor d lim Q 0 [xr l0, xi l1, xi l2, none] [] g w := xAt_exec (cal_m d) kMo_isOwedFor 30 t
theorem eMo_isOwedFor {d : Nat} {Q : xQ} {l1 l2 : Int} {l0 : Nat} {g : xG} {w : xW} (t : ∀ (lim : Nat × Nat) (Q2 : xQ), (∀ r g2 w2, g2.1 = g.1 → Q r g2 w2 → Q2 r g2 w2) → aMo_isOwedFor d lim Q2 0 [xr l0, xi l1, xi l2, none] [] g w) : cal (d + 1) nMo_isOwedFor [xr l0, xi l1, xi l2] g w Q := t _ _ xQof
abbrev aMo_owe (d : Nat) (lim : Nat × Nat) (Q : xQ) : xK := xAt xMks tMo_owe (cal d) lim Q
def kMo_owe : List (Nat × List Bool) := [(2, [true, true, false, false]), (69, [true, true, false, true]), (71, [true, true, false, true])]
set_option maxRecDepth 20000 in
theorem wMo_owe_0 {d : Nat} {lim : Nat × Nat} {Q : xQ} {l0 : Nat} {g : xG} {w : xW} (t : aMo_owe d lim Q 2 [xr l0, xi 0, none, none] [] g w) :
    aMo_owe d lim Q 0 [xr l0, none, none, none] [] g w := xAt_exec (cal_m d) kMo_owe 3 t
set_option maxRecDepth 20000 in
theorem wMo_owe_2 {d : Nat} {lim : Nat × Nat} {Q : xQ} {l1 : Int} {l0 : Nat} {g : xG} {w : xW} (t : xIs g l0 (0, 7) ∧ 
  (((w l0 13) ≤ l1) → Q none g w) ∧
  ((l1 < (w l0 13)) → xIs g l0 (0, 7) ∧ x32 (108 + l1) ∧ xAr g (g.2 l0 0) (108 + l1) ∧ xIs g l0 (0, 7) ∧ 
    cal d nMo_isOwedFor [xr l0, xi l1, xi (w (g.2 l0 0) (Int.toNat (108 + l1)))] g w (fun r g1 w1 => ∃ v1 : Int, r = some (xi v1) ∧ 
      ((v1 = 0) → x32 (l1 + 1) ∧ aMo_owe d lim Q 2 [xr l0, xi (l1 + 1), none, none] [] g1 w1) ∧
      ((¬ v1 = 0) → xIs g1 l0 (0, 7) ∧ x32 (60 + (w (g.2 l0 0) (Int.toNat (108 + l1)))) ∧ xAr g1 (g1.2 l0 0) (60 + (w (g.2 l0 0) (Int.toNat (108 + l1)))) ∧ xIs g1 l0 (0, 7) ∧ x32 (120 + l1) ∧ xAr g1 (g1.2 l0 0) (120 + l1) ∧ xIs g1 l0 (0, 7) ∧ x32 (120 + l1) ∧ xAr g1 (g1.2 l0 0) (120 + l1) ∧ 
        ((999999 ≤ (w1 (g1.2 l0 0) (Int.toNat (120 + l1)))) → aMo_owe d lim Q 69 [xr l0, xi l1, none, xi (w1 (g1.2 l0 0) (Int.toNat (60 + (w (g.2 l0 0) (Int.toNat (108 + l1))))))] [xi 0, xi (w1 (g1.2 l0 0) (Int.toNat (120 + l1))), xi (120 + l1), xr (g1.2 l0 0)] g1 w1) ∧
        (((w1 (g1.2 l0 0) (Int.toNat (120 + l1))) < 999999) → aMo_owe d lim Q 69 [xr l0, xi l1, none, xi (w1 (g1.2 l0 0) (Int.toNat (60 + (w (g.2 l0 0) (Int.toNat (108 + l1))))))] [xi 1, xi (w1 (g1.2 l0 0) (Int.toNat (120 + l1))), xi (120 + l1), xr (g1.2 l0 0)] g1 w1))))) :
    aMo_owe d lim Q 2 [xr l0, xi l1, none, none] [] g w := xAt_exec (cal_m d) kMo_owe 41 t
set_option maxRecDepth 20000 in
theorem wMo_owe_69 {d : Nat} {lim : Nat × Nat} {Q : xQ} {l1 l3 s1 s2 s3 : Int} {l0 s0 : Nat} {g : xG} {w : xW} (t : x32 (s2 + s3) ∧ xA1 g s0 s1 ∧ aMo_owe d lim Q 71 [xr l0, xi l1, none, xi l3] [] g (xup w s0 (Int.toNat s1) (s2 + s3))) :
    aMo_owe d lim Q 69 [xr l0, xi l1, none, xi l3] [xi s3, xi s2, xi s1, xr s0] g w := xAt_exec (cal_m d) kMo_owe 3 t
set_option maxRecDepth 20000 in
theorem wMo_owe_71 {d : Nat} {lim : Nat × Nat} {Q : xQ} {l1 l3 : Int} {l0 : Nat} {g : xG} {w : xW} (t : xIs g l0 (0, 7) ∧ x32 (126 + l3) ∧ xAr g (g.2 l0 0) (126 + l3) ∧ xIs g l0 (0, 7) ∧ x32 (126 + l3) ∧ xAr g (g.2 l0 0) (126 + l3) ∧ 
  ((999999 ≤ (w (g.2 l0 0) (Int.toNat (126 + l3)))) → x32 ((w (g.2 l0 0) (Int.toNat (126 + l3))) + 0) ∧ xA1 g (g.2 l0 0) (126 + l3) ∧ x32 (l1 + 1) ∧ aMo_owe d lim Q 2 [xr l0, xi (l1 + 1), none, none] [] g (xup w (g.2 l0 0) (Int.toNat (126 + l3)) ((w (g.2 l0 0) (Int.toNat (126 + l3))) + 0))) ∧
  (((w (g.2 l0 0) (Int.toNat (126 + l3))) < 999999) → x32 ((w (g.2 l0 0) (Int.toNat (126 + l3))) + 1) ∧ xA1 g (g.2 l0 0) (126 + l3) ∧ x32 (l1 + 1) ∧ aMo_owe d lim Q 2 [xr l0, xi (l1 + 1), none, none] [] g (xup w (g.2 l0 0) (Int.toNat (126 + l3)) ((w (g.2 l0 0) (Int.toNat (126 + l3))) + 1)))) :
    aMo_owe d lim Q 71 [xr l0, xi l1, none, xi l3] [] g w := xAt_exec (cal_m d) kMo_owe 22 t
theorem eMo_owe {d : Nat} {Q : xQ} {l0 : Nat} {g : xG} {w : xW} (t : ∀ (lim : Nat × Nat) (Q2 : xQ), (∀ r g2 w2, g2.1 = g.1 → Q r g2 w2 → Q2 r g2 w2) → aMo_owe d lim Q2 0 [xr l0, none, none, none] [] g w) : cal (d + 1) nMo_owe [xr l0] g w Q := t _ _ xQof
abbrev aMo_goMinute (d : Nat) (lim : Nat × Nat) (Q : xQ) : xK := xAt xMks tMo_goMinute (cal d) lim Q
def kMo_goMinute : List (Nat × List Bool) := [(22, [true, true]), (70, [true, true])]
set_option maxRecDepth 20000 in
theorem wMo_goMinute_0 {d : Nat} {lim : Nat × Nat} {Q : xQ} {l0 : Nat} {g : xG} {w : xW} (t : xIs g l0 (0, 7) ∧ 
  cal d nMo_goHeat [xr l0] g w (fun r g1 w1 => r = none ∧ xIs g1 l0 (0, 7) ∧ 
    cal d nMo_feel [xr l0] g1 w1 (fun r g2 w2 => r = none ∧ xIs g2 l0 (0, 7) ∧ 
      cal d nMo_own [xr l0] g2 w2 (fun r g3 w3 => r = none ∧ xIs g3 l0 (0, 7) ∧ 
        cal d nMo_goLaw [xr l0] g3 w3 (fun r g4 w4 => r = none ∧ xIs g4 l0 (0, 7) ∧ 
          cal d nMo_owe [xr l0] g4 w4 (fun r g5 w5 => r = none ∧ aMo_goMinute d lim Q 22 [xr l0, xi 0] [] g5 w5)))))) :
    aMo_goMinute d lim Q 0 [xr l0, none] [] g w := xAt_exec (cal_m d) kMo_goMinute 13 t
set_option maxRecDepth 20000 in
theorem wMo_goMinute_22 {d : Nat} {lim : Nat × Nat} {Q : xQ} {l1 : Int} {l0 : Nat} {g : xG} {w : xW} (t : xIs g l0 (0, 7) ∧ 
  (((w l0 13) ≤ l1) → xIs g l0 (0, 7) ∧ xAr g (g.2 l0 0) 140 ∧ x32 ((w (g.2 l0 0) (Int.toNat 140)) + 1) ∧ xA1 g (g.2 l0 0) 140 ∧ Q none g (xup w (g.2 l0 0) (Int.toNat 140) ((w (g.2 l0 0) (Int.toNat 140)) + 1))) ∧
  ((l1 < (w l0 13)) → xIs g l0 (0, 7) ∧ x32 (114 + l1) ∧ xAr g (g.2 l0 0) (114 + l1) ∧ xIs g l0 (0, 7) ∧ xIs g l0 (0, 7) ∧ x32 (108 + l1) ∧ xAr g (g.2 l0 0) (108 + l1) ∧ x32 (0 + (w (g.2 l0 0) (Int.toNat (108 + l1)))) ∧ xAr g (g.2 l0 0) (0 + (w (g.2 l0 0) (Int.toNat (108 + l1)))) ∧ xIs g l0 (0, 7) ∧ x32 (114 + l1) ∧ xAr g (g.2 l0 0) (114 + l1) ∧ x32 ((w (g.2 l0 0) (Int.toNat (0 + (w (g.2 l0 0) (Int.toNat (108 + l1)))))) - (w (g.2 l0 0) (Int.toNat (114 + l1)))) ∧ ((4 : Int) ≠ 0 ∧ x32 (Int.tdiv ((w (g.2 l0 0) (Int.toNat (0 + (w (g.2 l0 0) (Int.toNat (108 + l1)))))) - (w (g.2 l0 0) (Int.toNat (114 + l1)))) 4)) ∧ x32 ((w (g.2 l0 0) (Int.toNat (114 + l1))) + (Int.tdiv ((w (g.2 l0 0) (Int.toNat (0 + (w (g.2 l0 0) (Int.toNat (108 + l1)))))) - (w (g.2 l0 0) (Int.toNat (114 + l1)))) 4)) ∧ xA1 g (g.2 l0 0) (114 + l1) ∧ aMo_goMinute d lim Q 70 [xr l0, xi l1] [] g (xup w (g.2 l0 0) (Int.toNat (114 + l1)) ((w (g.2 l0 0) (Int.toNat (114 + l1))) + (Int.tdiv ((w (g.2 l0 0) (Int.toNat (0 + (w (g.2 l0 0) (Int.toNat (108 + l1)))))) - (w (g.2 l0 0) (Int.toNat (114 + l1)))) 4))))) :
    aMo_goMinute d lim Q 22 [xr l0, xi l1] [] g w := xAt_exec (cal_m d) kMo_goMinute 34 t
set_option maxRecDepth 20000 in
theorem wMo_goMinute_70 {d : Nat} {lim : Nat × Nat} {Q : xQ} {l1 : Int} {l0 : Nat} {g : xG} {w : xW} (t : xIs g l0 (0, 7) ∧ xAr g (g.2 l0 0) 142 ∧ xIs g l0 (0, 7) ∧ x32 (114 + l1) ∧ xAr g (g.2 l0 0) (114 + l1) ∧ 
  ((20 ≤ (w (g.2 l0 0) (Int.toNat (114 + l1)))) → xA1 g (g.2 l0 0) 142 ∧ x32 (l1 + 1) ∧ aMo_goMinute d lim Q 22 [xr l0, xi (l1 + 1)] [] g (xup w (g.2 l0 0) (Int.toNat 142) (xOr (w (g.2 l0 0) (Int.toNat 142)) 0))) ∧
  (((w (g.2 l0 0) (Int.toNat (114 + l1))) < 20) → xA1 g (g.2 l0 0) 142 ∧ x32 (l1 + 1) ∧ aMo_goMinute d lim Q 22 [xr l0, xi (l1 + 1)] [] g (xup w (g.2 l0 0) (Int.toNat 142) (xOr (w (g.2 l0 0) (Int.toNat 142)) (xShl 1 l1))))) :
    aMo_goMinute d lim Q 70 [xr l0, xi l1] [] g w := xAt_exec (cal_m d) kMo_goMinute 22 t
theorem eMo_goMinute {d : Nat} {Q : xQ} {l0 : Nat} {g : xG} {w : xW} (t : ∀ (lim : Nat × Nat) (Q2 : xQ), (∀ r g2 w2, g2.1 = g.1 → Q r g2 w2 → Q2 r g2 w2) → aMo_goMinute d lim Q2 0 [xr l0, none] [] g w) : cal (d + 1) nMo_goMinute [xr l0] g w Q := t _ _ xQof
abbrev aMo_goMinutes (d : Nat) (lim : Nat × Nat) (Q : xQ) : xK := xAt xMks tMo_goMinutes (cal d) lim Q
def kMo_goMinutes : List (Nat × List Bool) := [(2, [true, true, true])]
set_option maxRecDepth 20000 in
theorem wMo_goMinutes_0 {d : Nat} {lim : Nat × Nat} {Q : xQ} {l1 : Int} {l0 : Nat} {g : xG} {w : xW} (t : aMo_goMinutes d lim Q 2 [xr l0, xi l1, xi 0] [] g w) :
    aMo_goMinutes d lim Q 0 [xr l0, xi l1, none] [] g w := xAt_exec (cal_m d) kMo_goMinutes 3 t
set_option maxRecDepth 20000 in
theorem wMo_goMinutes_2 {d : Nat} {lim : Nat × Nat} {Q : xQ} {l1 l2 : Int} {l0 : Nat} {g : xG} {w : xW} (t : 
  ((l1 ≤ l2) → Q none g w) ∧
  ((l2 < l1) → xIs g l0 (0, 7) ∧ 
    cal d nMo_goMinute [xr l0] g w (fun r g1 w1 => r = none ∧ x32 (l2 + 1) ∧ aMo_goMinutes d lim Q 2 [xr l0, xi l1, xi (l2 + 1)] [] g1 w1))) :
    aMo_goMinutes d lim Q 2 [xr l0, xi l1, xi l2] [] g w := xAt_exec (cal_m d) kMo_goMinutes 8 t
theorem eMo_goMinutes {d : Nat} {Q : xQ} {l1 : Int} {l0 : Nat} {g : xG} {w : xW} (t : ∀ (lim : Nat × Nat) (Q2 : xQ), (∀ r g2 w2, g2.1 = g.1 → Q r g2 w2 → Q2 r g2 w2) → aMo_goMinutes d lim Q2 0 [xr l0, xi l1, none] [] g w) : cal (d + 1) nMo_goMinutes [xr l0, xi l1] g w Q := t _ _ xQof
abbrev aMo_notMinutes (d : Nat) (lim : Nat × Nat) (Q : xQ) : xK := xAt xMks tMo_notMinutes (cal d) lim Q
def kMo_notMinutes : List (Nat × List Bool) := []
set_option maxRecDepth 20000 in
theorem wMo_notMinutes_0 {d : Nat} {lim : Nat × Nat} {Q : xQ} {l1 : Int} {l0 : Nat} {g : xG} {w : xW} (t : 
  cal d nMo_in [xl l1, xl 1, xl 60] g w (fun r g1 w1 => ∃ v1 : Int, r = some (xi v1) ∧ 
    ((¬ v1 = 0) → xIs g1 l0 (0, 7) ∧ 
      cal d nMo_cells [xr l0] g1 w1 (fun r g2 w2 => ∃ v2 : Int, r = some (xi v2) ∧ 
        ((¬ v2 = 0) → xIs g2 l0 (0, 7) ∧ xAr g2 (g2.2 l0 0) 140 ∧ 
          (((w2 (g2.2 l0 0) (Int.toNat 140)) ≤ 900000) → Q (some (xi 0)) g2 w2) ∧
          ((900000 < (w2 (g2.2 l0 0) (Int.toNat 140))) → Q (some (xi (-1000000004))) g2 w2)) ∧
        ((v2 = 0) → Q (some (xi (-1000000003))) g2 w2))) ∧
    ((v1 = 0) → Q (some (xi (-1000000002))) g1 w1))) :
    aMo_notMinutes d lim Q 0 [xr l0, xi l1] [] g w := xAt_exec (cal_m d) kMo_notMinutes 19 t
theorem eMo_notMinutes {d : Nat} {Q : xQ} {l1 : Int} {l0 : Nat} {g : xG} {w : xW} (t : ∀ (lim : Nat × Nat) (Q2 : xQ), (∀ r g2 w2, g2.1 = g.1 → Q r g2 w2 → Q2 r g2 w2) → aMo_notMinutes d lim Q2 0 [xr l0, xi l1] [] g w) : cal (d + 1) nMo_notMinutes [xr l0, xi l1] g w Q := t _ _ xQof
abbrev aMo_minute (d : Nat) (lim : Nat × Nat) (Q : xQ) : xK := xAt xMks tMo_minute (cal d) lim Q
def kMo_minute : List (Nat × List Bool) := []
set_option maxRecDepth 20000 in
theorem wMo_minute_0 {d : Nat} {lim : Nat × Nat} {Q : xQ} {l1 : Int} {l0 : Nat} {g : xG} {w : xW} (t : xIs g l0 (0, 7) ∧ 
  cal d nMo_notMinutes [xr l0, xi l1] g w (fun r g1 w1 => ∃ v1 : Int, r = some (xi v1) ∧ 
    ((v1 = 0) → xIs g1 l0 (0, 7) ∧ 
      cal d nMo_goMinutes [xr l0, xi l1] g1 w1 (fun r g2 w2 => r = none ∧ xIs g2 l0 (0, 7) ∧ xAr g2 (g2.2 l0 0) 140 ∧ Q (some (xi (w2 (g2.2 l0 0) (Int.toNat 140)))) g2 w2)) ∧
    ((¬ v1 = 0) → Q (some (xi v1)) g1 w1))) :
    aMo_minute d lim Q 0 [xr l0, xi l1, none] [] g w := xAt_exec (cal_m d) kMo_minute 15 t
theorem eMo_minute {d : Nat} {Q : xQ} {l1 : Int} {l0 : Nat} {g : xG} {w : xW} (t : ∀ (lim : Nat × Nat) (Q2 : xQ), (∀ r g2 w2, g2.1 = g.1 → Q r g2 w2 → Q2 r g2 w2) → aMo_minute d lim Q2 0 [xr l0, xi l1, none] [] g w) : cal (d + 1) nMo_minute [xr l0, xi l1] g w Q := t _ _ xQof
abbrev aMo_draw (d : Nat) (lim : Nat × Nat) (Q : xQ) : xK := xAt xMks tMo_draw (cal d) lim Q
def kMo_draw : List (Nat × List Bool) := []
set_option maxRecDepth 20000 in
theorem wMo_draw_0 {d : Nat} {lim : Nat × Nat} {Q : xQ} {l1 : Int} {l0 : Nat} {g : xG} {w : xW} (t : xIs g l0 (0, 7) ∧ xIs g l0 (0, 7) ∧ xAr g (g.2 l0 0) 141 ∧ x64 ((w (g.2 l0 0) (Int.toNat 141)) * 1103515245) ∧ x64 (((w (g.2 l0 0) (Int.toNat 141)) * 1103515245) + 12345) ∧ ((2147483648 : Int) ≠ 0 ∧ x64 (Int.tdiv (((w (g.2 l0 0) (Int.toNat 141)) * 1103515245) + 12345) 2147483648)) ∧ x32 (Int.tmod (((w (g.2 l0 0) (Int.toNat 141)) * 1103515245) + 12345) 2147483648) ∧ xA1 g (g.2 l0 0) 141 ∧ xIs g l0 (0, 7) ∧ xAr g (g.2 l0 0) 141 ∧ ((65536 : Int) ≠ 0 ∧ x32 (Int.tdiv ((xup w (g.2 l0 0) (Int.toNat 141) (Int.tmod (((w (g.2 l0 0) (Int.toNat 141)) * 1103515245) + 12345) 2147483648)) (g.2 l0 0) (Int.toNat 141)) 65536)) ∧ ((l1 : Int) ≠ 0 ∧ x32 (Int.tdiv (Int.tdiv ((xup w (g.2 l0 0) (Int.toNat 141) (Int.tmod (((w (g.2 l0 0) (Int.toNat 141)) * 1103515245) + 12345) 2147483648)) (g.2 l0 0) (Int.toNat 141)) 65536) l1)) ∧ Q (some (xi (Int.tmod (Int.tdiv ((xup w (g.2 l0 0) (Int.toNat 141) (Int.tmod (((w (g.2 l0 0) (Int.toNat 141)) * 1103515245) + 12345) 2147483648)) (g.2 l0 0) (Int.toNat 141)) 65536) l1))) g (xup w (g.2 l0 0) (Int.toNat 141) (Int.tmod (((w (g.2 l0 0) (Int.toNat 141)) * 1103515245) + 12345) 2147483648))) :
    aMo_draw d lim Q 0 [xr l0, xi l1] [] g w := xAt_exec (cal_m d) kMo_draw 26 t
theorem eMo_draw {d : Nat} {Q : xQ} {l1 : Int} {l0 : Nat} {g : xG} {w : xW} (t : ∀ (lim : Nat × Nat) (Q2 : xQ), (∀ r g2 w2, g2.1 = g.1 → Q r g2 w2 → Q2 r g2 w2) → aMo_draw d lim Q2 0 [xr l0, xi l1] [] g w) : cal (d + 1) nMo_draw [xr l0, xi l1] g w Q := t _ _ xQof
abbrev aMo_driftOne (d : Nat) (lim : Nat × Nat) (Q : xQ) : xK := xAt xMks tMo_driftOne (cal d) lim Q
def kMo_driftOne : List (Nat × List Bool) := [(2, [true, true, false]), (117, [true, false, false])]
set_option maxRecDepth 20000 in
theorem wMo_driftOne_0 {d : Nat} {lim : Nat × Nat} {Q : xQ} {l0 : Nat} {g : xG} {w : xW} (t : aMo_driftOne d lim Q 2 [xr l0, xi 0, none] [] g w) :
    aMo_driftOne d lim Q 0 [xr l0, none, none] [] g w := xAt_exec (cal_m d) kMo_driftOne 3 t
set_option maxRecDepth 20000 in
theorem wMo_driftOne_2 {d : Nat} {lim : Nat × Nat} {Q : xQ} {l1 : Int} {l0 : Nat} {g : xG} {w : xW} (t : xIs g l0 (0, 7) ∧ 
  (((w l0 13) ≤ l1) → xIs g l0 (0, 7) ∧ 
    cal d nMo_draw [xr l0, xi 20] g w (fun r g1 w1 => ∃ v1 : Int, r = some (xi v1) ∧ 
      ((¬ v1 = 0) → aMo_driftOne d lim Q 117 [xr l0, none, none] [] g1 w1) ∧
      ((v1 = 0) → xIs g1 l0 (0, 7) ∧ 
        (((w1 l0 8) ≤ 0) → aMo_driftOne d lim Q 117 [xr l0, none, none] [] g1 w1) ∧
        ((0 < (w1 l0 8)) → xIs g1 l0 (0, 7) ∧ xIs g1 l0 (0, 7) ∧ 
          cal d nMo_draw [xr l0, xi (w1 l0 8)] g1 w1 (fun r g2 w2 => ∃ v2 : Int, r = some (xi v2) ∧ xIs g2 l0 (0, 7) ∧ x32 (104 + v2) ∧ xIs g2 l0 (0, 7) ∧ 
            cal d nMo_canBeLit [xr l0, xi v2] g2 w2 (fun r g3 w3 => ∃ v3 : Int, r = some (xi v3) ∧ 
              ((v3 = 0) → xIs g3 l0 (0, 7) ∧ x32 (104 + v2) ∧ xAr g3 (g3.2 l0 0) (104 + v2) ∧ xA1 g3 (g2.2 l0 0) (104 + v2) ∧ aMo_driftOne d lim Q 117 [xr l0, none, none] [] g3 (xup w3 (g2.2 l0 0) (Int.toNat (104 + v2)) (w3 (g3.2 l0 0) (Int.toNat (104 + v2))))) ∧
              ((¬ v3 = 0) → xA1 g3 (g2.2 l0 0) (104 + v2) ∧ aMo_driftOne d lim Q 117 [xr l0, none, none] [] g3 (xup w3 (g2.2 l0 0) (Int.toNat (104 + v2)) 1)))))))) ∧
  ((l1 < (w l0 13)) → xIs g l0 (0, 7) ∧ x32 (108 + l1) ∧ xAr g (g.2 l0 0) (108 + l1) ∧ xIs g l0 (0, 7) ∧ 
    cal d nMo_draw [xr l0, xi 5] g w (fun r g4 w4 => ∃ v4 : Int, r = some (xi v4) ∧ xIs g4 l0 (0, 7) ∧ 
      cal d nMo_way [xr l0, xi (w (g.2 l0 0) (Int.toNat (108 + l1))), xi v4] g4 w4 (fun r g5 w5 => ∃ v5 : Int, r = some (xi v5) ∧ xIs g5 l0 (0, 7) ∧ x32 (108 + l1) ∧ 
        ((¬ v5 = (-1)) → xA1 g5 (g5.2 l0 0) (108 + l1) ∧ x32 (l1 + 1) ∧ aMo_driftOne d lim Q 2 [xr l0, xi (l1 + 1), none] [] g5 (xup w5 (g5.2 l0 0) (Int.toNat (108 + l1)) v5)) ∧
        ((v5 = (-1)) → xIs g5 l0 (0, 7) ∧ x32 (108 + l1) ∧ xAr g5 (g5.2 l0 0) (108 + l1) ∧ xA1 g5 (g5.2 l0 0) (108 + l1) ∧ x32 (l1 + 1) ∧ aMo_driftOne d lim Q 2 [xr l0, xi (l1 + 1), none] [] g5 (xup w5 (g5.2 l0 0) (Int.toNat (108 + l1)) (w5 (g5.2 l0 0) (Int.toNat (108 + l1))))))))) :
    aMo_driftOne d lim Q 2 [xr l0, xi l1, none] [] g w := xAt_exec (cal_m d) kMo_driftOne 35 t
set_option maxRecDepth 20000 in
theorem wMo_driftOne_117 {d : Nat} {lim : Nat × Nat} {Q : xQ} {l0 : Nat} {g : xG} {w : xW} (t : xIs g l0 (0, 7) ∧ 
  cal d nMo_goMinute [xr l0] g w (fun r g1 w1 => r = none ∧ Q none g1 w1)) :
    aMo_driftOne d lim Q 117 [xr l0, none, none] [] g w := xAt_exec (cal_m d) kMo_driftOne 4 t
theorem eMo_driftOne {d : Nat} {Q : xQ} {l0 : Nat} {g : xG} {w : xW} (t : ∀ (lim : Nat × Nat) (Q2 : xQ), (∀ r g2 w2, g2.1 = g.1 → Q r g2 w2 → Q2 r g2 w2) → aMo_driftOne d lim Q2 0 [xr l0, none, none] [] g w) : cal (d + 1) nMo_driftOne [xr l0] g w Q := t _ _ xQof
abbrev aMo_drift (d : Nat) (lim : Nat × Nat) (Q : xQ) : xK := xAt xMks tMo_drift (cal d) lim Q
def kMo_drift : List (Nat × List Bool) := [(14, [true, true, false, true])]
set_option maxRecDepth 20000 in
theorem wMo_drift_0 {d : Nat} {lim : Nat × Nat} {Q : xQ} {l1 : Int} {l0 : Nat} {g : xG} {w : xW} (t : xIs g l0 (0, 7) ∧ 
  cal d nMo_notMinutes [xr l0, xi l1] g w (fun r g1 w1 => ∃ v1 : Int, r = some (xi v1) ∧ 
    ((v1 = 0) → aMo_drift d lim Q 14 [xr l0, xi l1, none, xi 0] [] g1 w1) ∧
    ((¬ v1 = 0) → Q (some (xi v1)) g1 w1))) :
    aMo_drift d lim Q 0 [xr l0, xi l1, none, none] [] g w := xAt_exec (cal_m d) kMo_drift 9 t
set_option maxRecDepth 20000 in
theorem wMo_drift_14 {d : Nat} {lim : Nat × Nat} {Q : xQ} {l1 l3 : Int} {l0 : Nat} {g : xG} {w : xW} (t : 
  ((l1 ≤ l3) → xIs g l0 (0, 7) ∧ xAr g (g.2 l0 0) 140 ∧ Q (some (xi (w (g.2 l0 0) (Int.toNat 140)))) g w) ∧
  ((l3 < l1) → xIs g l0 (0, 7) ∧ 
    cal d nMo_driftOne [xr l0] g w (fun r g1 w1 => r = none ∧ x32 (l3 + 1) ∧ aMo_drift d lim Q 14 [xr l0, xi l1, none, xi (l3 + 1)] [] g1 w1))) :
    aMo_drift d lim Q 14 [xr l0, xi l1, none, xi l3] [] g w := xAt_exec (cal_m d) kMo_drift 9 t
theorem eMo_drift {d : Nat} {Q : xQ} {l1 : Int} {l0 : Nat} {g : xG} {w : xW} (t : ∀ (lim : Nat × Nat) (Q2 : xQ), (∀ r g2 w2, g2.1 = g.1 → Q r g2 w2 → Q2 r g2 w2) → aMo_drift d lim Q2 0 [xr l0, xi l1, none, none] [] g w) : cal (d + 1) nMo_drift [xr l0, xi l1] g w Q := t _ _ xQof
abbrev aMo_start (d : Nat) (lim : Nat × Nat) (Q : xQ) : xK := xAt xMks tMo_start (cal d) lim Q
def kMo_start : List (Nat × List Bool) := [(2, [true, true])]
set_option maxRecDepth 20000 in
theorem wMo_start_0 {d : Nat} {lim : Nat × Nat} {Q : xQ} {l0 : Nat} {g : xG} {w : xW} (t : aMo_start d lim Q 2 [xr l0, xi 0] [] g w) :
    aMo_start d lim Q 0 [xr l0, none] [] g w := xAt_exec (cal_m d) kMo_start 3 t
set_option maxRecDepth 20000 in
theorem wMo_start_2 {d : Nat} {lim : Nat × Nat} {Q : xQ} {l1 : Int} {l0 : Nat} {g : xG} {w : xW} (t : 
  ((143 ≤ l1) → Q none g w) ∧
  ((l1 < 143) → xIs g l0 (0, 7) ∧ xIs g l0 (0, 7) ∧ xAr g (g.2 l0 0) l1 ∧ xA1 g (g.2 l0 3) l1 ∧ x32 (l1 + 1) ∧ aMo_start d lim Q 2 [xr l0, xi (l1 + 1)] [] g (xup w (g.2 l0 3) (Int.toNat l1) (w (g.2 l0 0) (Int.toNat l1))))) :
    aMo_start d lim Q 2 [xr l0, xi l1] [] g w := xAt_exec (cal_m d) kMo_start 14 t
theorem eMo_start {d : Nat} {Q : xQ} {l0 : Nat} {g : xG} {w : xW} (t : ∀ (lim : Nat × Nat) (Q2 : xQ), (∀ r g2 w2, g2.1 = g.1 → Q r g2 w2 → Q2 r g2 w2) → aMo_start d lim Q2 0 [xr l0, none] [] g w) : cal (d + 1) nMo_start [xr l0] g w Q := t _ _ xQof
abbrev aMo_back (d : Nat) (lim : Nat × Nat) (Q : xQ) : xK := xAt xMks tMo_back (cal d) lim Q
def kMo_back : List (Nat × List Bool) := [(2, [true, true])]
set_option maxRecDepth 20000 in
theorem wMo_back_0 {d : Nat} {lim : Nat × Nat} {Q : xQ} {l0 : Nat} {g : xG} {w : xW} (t : aMo_back d lim Q 2 [xr l0, xi 0] [] g w) :
    aMo_back d lim Q 0 [xr l0, none] [] g w := xAt_exec (cal_m d) kMo_back 3 t
set_option maxRecDepth 20000 in
theorem wMo_back_2 {d : Nat} {lim : Nat × Nat} {Q : xQ} {l1 : Int} {l0 : Nat} {g : xG} {w : xW} (t : 
  ((143 ≤ l1) → Q none g w) ∧
  ((l1 < 143) → xIs g l0 (0, 7) ∧ xIs g l0 (0, 7) ∧ xAr g (g.2 l0 3) l1 ∧ xA1 g (g.2 l0 0) l1 ∧ x32 (l1 + 1) ∧ aMo_back d lim Q 2 [xr l0, xi (l1 + 1)] [] g (xup w (g.2 l0 0) (Int.toNat l1) (w (g.2 l0 3) (Int.toNat l1))))) :
    aMo_back d lim Q 2 [xr l0, xi l1] [] g w := xAt_exec (cal_m d) kMo_back 14 t
theorem eMo_back {d : Nat} {Q : xQ} {l0 : Nat} {g : xG} {w : xW} (t : ∀ (lim : Nat × Nat) (Q2 : xQ), (∀ r g2 w2, g2.1 = g.1 → Q r g2 w2 → Q2 r g2 w2) → aMo_back d lim Q2 0 [xr l0, none] [] g w) : cal (d + 1) nMo_back [xr l0] g w Q := t _ _ xQof
abbrev aMo_then (d : Nat) (lim : Nat × Nat) (Q : xQ) : xK := xAt xMks tMo_then (cal d) lim Q
def kMo_then : List (Nat × List Bool) := [(62, [true, true, true, false, false, false])]
set_option maxRecDepth 20000 in
theorem wMo_then_0 {d : Nat} {lim : Nat × Nat} {Q : xQ} {l1 l2 l3 l4 : Int} {l0 : Nat} {g : xG} {w : xW} (t : xIs g l0 (0, 7) ∧ 
  cal d nMo_isCell [xr l0, xi l1, xi l2] g w (fun r g1 w1 => ∃ v1 : Int, r = some (xi v1) ∧ 
    ((¬ v1 = 0) → 
      cal d nMo_in [xl l3, xl 1, xl 60] g1 w1 (fun r g2 w2 => ∃ v2 : Int, r = some (xi v2) ∧ 
        ((v2 = 0) → Q (some (xi (-1000000002))) g2 w2) ∧
        ((¬ v2 = 0) → 
          cal d nMo_in [xl l4, xl 0, xl 1] g2 w2 (fun r g3 w3 => ∃ v3 : Int, r = some (xi v3) ∧ 
            ((¬ v3 = 0) → xIs g3 l0 (0, 7) ∧ 
              cal d nMo_start [xr l0] g3 w3 (fun r g4 w4 => r = none ∧ xIs g4 l0 (0, 7) ∧ 
                cal d nMo_goMinutes [xr l0, xi l3] g4 w4 (fun r g5 w5 => r = none ∧ xIs g5 l0 (0, 7) ∧ 
                  ((¬ l4 = 0) → aMo_then d lim Q 62 [xr l0, xi l1, xi l2, none, none, none] [xi 60, xr (g5.2 l0 0)] g5 w5) ∧
                  ((l4 = 0) → aMo_then d lim Q 62 [xr l0, xi l1, xi l2, none, none, none] [xi 0, xr (g5.2 l0 0)] g5 w5)))) ∧
            ((v3 = 0) → Q (some (xi (-1000000002))) g3 w3))))) ∧
    ((v1 = 0) → Q (some (xi (-1000000001))) g1 w1))) :
    aMo_then d lim Q 0 [xr l0, xi l1, xi l2, xi l3, xi l4, none] [] g w := xAt_exec (cal_m d) kMo_then 29 t
set_option maxRecDepth 20000 in
theorem wMo_then_62 {d : Nat} {lim : Nat × Nat} {Q : xQ} {l1 l2 s1 : Int} {l0 s0 : Nat} {g : xG} {w : xW} (t : xIs g l0 (0, 7) ∧ x32 ((w l0 4) * l2) ∧ x32 (s1 + ((w l0 4) * l2)) ∧ x32 ((s1 + ((w l0 4) * l2)) + l1) ∧ xAr g s0 ((s1 + ((w l0 4) * l2)) + l1) ∧ xIs g l0 (0, 7) ∧ 
  cal d nMo_back [xr l0] g w (fun r g1 w1 => r = none ∧ Q (some (xi (w s0 (Int.toNat ((s1 + ((w l0 4) * l2)) + l1))))) g1 w1)) :
    aMo_then d lim Q 62 [xr l0, xi l1, xi l2, none, none, none] [xi s1, xr s0] g w := xAt_exec (cal_m d) kMo_then 14 t
theorem eMo_then {d : Nat} {Q : xQ} {l1 l2 l3 l4 : Int} {l0 : Nat} {g : xG} {w : xW} (t : ∀ (lim : Nat × Nat) (Q2 : xQ), (∀ r g2 w2, g2.1 = g.1 → Q r g2 w2 → Q2 r g2 w2) → aMo_then d lim Q2 0 [xr l0, xi l1, xi l2, xi l3, xi l4, none] [] g w) : cal (d + 1) nMo_then [xr l0, xi l1, xi l2, xi l3, xi l4] g w Q := t _ _ xQof
abbrev aMo_power (d : Nat) (lim : Nat × Nat) (Q : xQ) : xK := xAt xMks tMo_power (cal d) lim Q
def kMo_power : List (Nat × List Bool) := [(4, [true, true, true, true])]
set_option maxRecDepth 20000 in
theorem wMo_power_0 {d : Nat} {lim : Nat × Nat} {Q : xQ} {l0 l1 : Int} {g : xG} {w : xW} (t : aMo_power d lim Q 4 [xi l0, xi l1, xi 1, xi 0] [] g w) :
    aMo_power d lim Q 0 [xi l0, xi l1, none, none] [] g w := xAt_exec (cal_m d) kMo_power 5 t
set_option maxRecDepth 20000 in
theorem wMo_power_4 {d : Nat} {lim : Nat × Nat} {Q : xQ} {l0 l1 l2 l3 : Int} {g : xG} {w : xW} (t : 
  ((l1 ≤ l3) → Q (some (xi l2)) g w) ∧
  ((l3 < l1) → x32 (l2 * l0) ∧ x32 (l3 + 1) ∧ aMo_power d lim Q 4 [xi l0, xi l1, xi (l2 * l0), xi (l3 + 1)] [] g w)) :
    aMo_power d lim Q 4 [xi l0, xi l1, xi l2, xi l3] [] g w := xAt_exec (cal_m d) kMo_power 10 t
theorem eMo_power {d : Nat} {Q : xQ} {l0 l1 : Int} {g : xG} {w : xW} (t : ∀ (lim : Nat × Nat) (Q2 : xQ), (∀ r g2 w2, g2.1 = g.1 → Q r g2 w2 → Q2 r g2 w2) → aMo_power d lim Q2 0 [xi l0, xi l1, none, none] [] g w) : cal (d + 1) nMo_power [xi l0, xi l1] g w Q := t _ _ xQof
abbrev aMo_ownsBy (d : Nat) (lim : Nat × Nat) (Q : xQ) : xK := xAt xMks tMo_ownsBy (cal d) lim Q
def kMo_ownsBy : List (Nat × List Bool) := [(3, [true, true, true, true, true, false])]
set_option maxRecDepth 20000 in
theorem wMo_ownsBy_0 {d : Nat} {lim : Nat × Nat} {Q : xQ} {l1 l2 l3 : Int} {l0 : Nat} {g : xG} {w : xW} (t : aMo_ownsBy d lim Q 3 [xr l0, xi l1, xi l2, xi l3, xi 0, none] [] g w) :
    aMo_ownsBy d lim Q 0 [xr l0, xi l1, xi l2, xi l3, none, none] [] g w := xAt_exec (cal_m d) kMo_ownsBy 3 t
set_option maxRecDepth 20000 in
theorem wMo_ownsBy_3 {d : Nat} {lim : Nat × Nat} {Q : xQ} {l1 l2 l3 l4 : Int} {l0 : Nat} {g : xG} {w : xW} (t : 
  ((l2 ≤ l4) → xIs g l0 (0, 7) ∧ 
    cal d nMo_owns [xr l0, xi l1] g w (fun r g1 w1 => ∃ v1 : Int, r = some (xi v1) ∧ Q (some (xi v1)) g1 w1)) ∧
  ((l4 < l2) → xIs g l0 (0, 7) ∧ x32 (108 + l1) ∧ xAr g (g.2 l0 0) (108 + l1) ∧ x32 (l2 - 1) ∧ x32 ((l2 - 1) - l4) ∧ 
    cal d nMo_power [xi 5, xi ((l2 - 1) - l4)] g w (fun r g2 w2 => ∃ v2 : Int, r = some (xi v2) ∧ ((v2 : Int) ≠ 0 ∧ x32 (Int.tdiv l3 v2)) ∧ ((5 : Int) ≠ 0 ∧ x32 (Int.tdiv (Int.tdiv l3 v2) 5)) ∧ xIs g2 l0 (0, 7) ∧ 
      cal d nMo_way [xr l0, xi (w (g.2 l0 0) (Int.toNat (108 + l1))), xi (Int.tmod (Int.tdiv l3 v2) 5)] g2 w2 (fun r g3 w3 => ∃ v3 : Int, r = some (xi v3) ∧ 
        ((¬ v3 = (-1)) → xIs g3 l0 (0, 7) ∧ x32 (108 + l1) ∧ xA1 g3 (g3.2 l0 0) (108 + l1) ∧ xIs g3 l0 (0, 7) ∧ 
          cal d nMo_goMinute [xr l0] g3 (xup w3 (g3.2 l0 0) (Int.toNat (108 + l1)) v3) (fun r g4 w4 => r = none ∧ x32 (l4 + 1) ∧ aMo_ownsBy d lim Q 3 [xr l0, xi l1, xi l2, xi l3, xi (l4 + 1), none] [] g4 w4)) ∧
        ((v3 = (-1)) → Q (some (xi (-1))) g3 w3))))) :
    aMo_ownsBy d lim Q 3 [xr l0, xi l1, xi l2, xi l3, xi l4, none] [] g w := xAt_exec (cal_m d) kMo_ownsBy 38 t
theorem eMo_ownsBy {d : Nat} {Q : xQ} {l1 l2 l3 : Int} {l0 : Nat} {g : xG} {w : xW} (t : ∀ (lim : Nat × Nat) (Q2 : xQ), (∀ r g2 w2, g2.1 = g.1 → Q r g2 w2 → Q2 r g2 w2) → aMo_ownsBy d lim Q2 0 [xr l0, xi l1, xi l2, xi l3, none, none] [] g w) : cal (d + 1) nMo_ownsBy [xr l0, xi l1, xi l2, xi l3] g w Q := t _ _ xQof
abbrev aMo_stands (d : Nat) (lim : Nat × Nat) (Q : xQ) : xK := xAt xMks tMo_stands (cal d) lim Q
def kMo_stands : List (Nat × List Bool) := [(39, [true, true, true, true, true, true, true, false]), (77, [true, true, true, true, false, true, true, true])]
set_option maxRecDepth 20000 in
theorem wMo_stands_0 {d : Nat} {lim : Nat × Nat} {Q : xQ} {l1 l2 l3 : Int} {l0 : Nat} {g : xG} {w : xW} (t : xIs g l0 (0, 7) ∧ 
  cal d nMo_isPerson [xr l0, xi l1] g w (fun r g1 w1 => ∃ v1 : Int, r = some (xi v1) ∧ 
    ((¬ v1 = 0) → 
      cal d nMo_in [xl l2, xl 1, xl 5] g1 w1 (fun r g2 w2 => ∃ v2 : Int, r = some (xi v2) ∧ 
        ((¬ v2 = 0) → xIs g2 l0 (0, 7) ∧ 
          cal d nMo_start [xr l0] g2 w2 (fun r g3 w3 => r = none ∧ aMo_stands d lim Q 39 [xr l0, xi l1, xi l2, xi l3, xi 0, xi (-1), xi 0, none] [] g3 w3)) ∧
        ((v2 = 0) → Q (some (xi (-1000000002))) g2 w2))) ∧
    ((v1 = 0) → Q (some (xi (-1000000001))) g1 w1))) :
    aMo_stands d lim Q 0 [xr l0, xi l1, xi l2, xi l3, none, none, none, none] [] g w := xAt_exec (cal_m d) kMo_stands 19 t
set_option maxRecDepth 20000 in
theorem wMo_stands_39 {d : Nat} {lim : Nat × Nat} {Q : xQ} {l1 l2 l3 l4 l5 l6 : Int} {l0 : Nat} {g : xG} {w : xW} (t : 
  cal d nMo_power [xi 5, xi l2] g w (fun r g1 w1 => ∃ v1 : Int, r = some (xi v1) ∧ 
    ((v1 ≤ l6) → 
      ((¬ l3 = (-1)) → x32 (l2 - 1) ∧ 
        cal d nMo_in [xl l3, xl 0, xl (l2 - 1)] g1 w1 (fun r g2 w2 => ∃ v2 : Int, r = some (xi v2) ∧ 
          ((v2 = 0) → Q (some (xi (-1))) g2 w2) ∧
          ((¬ v2 = 0) → x32 (l2 - 1) ∧ x32 ((l2 - 1) - l3) ∧ 
            cal d nMo_power [xi 5, xi ((l2 - 1) - l3)] g2 w2 (fun r g3 w3 => ∃ v3 : Int, r = some (xi v3) ∧ ((v3 : Int) ≠ 0 ∧ x32 (Int.tdiv l4 v3)) ∧ ((5 : Int) ≠ 0 ∧ x32 (Int.tdiv (Int.tdiv l4 v3) 5)) ∧ Q (some (xi (Int.tmod (Int.tdiv l4 v3) 5))) g3 w3)))) ∧
      ((l3 = (-1)) → Q (some (xi l5)) g1 w1)) ∧
    ((l6 < v1) → xIs g1 l0 (0, 7) ∧ 
      cal d nMo_ownsBy [xr l0, xi l1, xi l2, xi l6] g1 w1 (fun r g4 w4 => ∃ v4 : Int, r = some (xi v4) ∧ xIs g4 l0 (0, 7) ∧ 
        cal d nMo_back [xr l0] g4 w4 (fun r g5 w5 => r = none ∧ 
          ((v4 ≤ l5) → aMo_stands d lim Q 77 [xr l0, xi l1, xi l2, xi l3, none, xi l5, xi l6, xi v4] [xi l4] g5 w5) ∧
          ((l5 < v4) → aMo_stands d lim Q 77 [xr l0, xi l1, xi l2, xi l3, none, xi l5, xi l6, xi v4] [xi l6] g5 w5)))))) :
    aMo_stands d lim Q 39 [xr l0, xi l1, xi l2, xi l3, xi l4, xi l5, xi l6, none] [] g w := xAt_exec (cal_m d) kMo_stands 31 t
set_option maxRecDepth 20000 in
theorem wMo_stands_77 {d : Nat} {lim : Nat × Nat} {Q : xQ} {l1 l2 l3 l5 l6 l7 s0 : Int} {l0 : Nat} {g : xG} {w : xW} (t : 
  ((l7 ≤ l5) → x32 (l6 + 1) ∧ aMo_stands d lim Q 39 [xr l0, xi l1, xi l2, xi l3, xi s0, xi l5, xi (l6 + 1), none] [] g w) ∧
  ((l5 < l7) → x32 (l6 + 1) ∧ aMo_stands d lim Q 39 [xr l0, xi l1, xi l2, xi l3, xi s0, xi l7, xi (l6 + 1), none] [] g w)) :
    aMo_stands d lim Q 77 [xr l0, xi l1, xi l2, xi l3, none, xi l5, xi l6, xi l7] [xi s0] g w := xAt_exec (cal_m d) kMo_stands 10 t
theorem eMo_stands {d : Nat} {Q : xQ} {l1 l2 l3 : Int} {l0 : Nat} {g : xG} {w : xW} (t : ∀ (lim : Nat × Nat) (Q2 : xQ), (∀ r g2 w2, g2.1 = g.1 → Q r g2 w2 → Q2 r g2 w2) → aMo_stands d lim Q2 0 [xr l0, xi l1, xi l2, xi l3, none, none, none, none] [] g w) : cal (d + 1) nMo_stands [xr l0, xi l1, xi l2, xi l3] g w Q := t _ _ xQof
abbrev aMo_notStove (d : Nat) (lim : Nat × Nat) (Q : xQ) : xK := xAt xMks tMo_notStove (cal d) lim Q
def kMo_notStove : List (Nat × List Bool) := []
set_option maxRecDepth 20000 in
theorem wMo_notStove_0 {d : Nat} {lim : Nat × Nat} {Q : xQ} {l1 l2 l3 : Int} {l0 : Nat} {g : xG} {w : xW} (t : xIs g l0 (0, 7) ∧ 
  cal d nMo_isPerson [xr l0, xi l1] g w (fun r g1 w1 => ∃ v1 : Int, r = some (xi v1) ∧ 
    ((v1 = 0) → Q (some (xi (-1000000001))) g1 w1) ∧
    ((¬ v1 = 0) → xIs g1 l0 (0, 7) ∧ 
      cal d nMo_isStove [xr l0, xi l2] g1 w1 (fun r g2 w2 => ∃ v2 : Int, r = some (xi v2) ∧ 
        ((¬ v2 = 0) → 
          cal d nMo_in [xl l3, xl 1, xl 30] g2 w2 (fun r g3 w3 => ∃ v3 : Int, r = some (xi v3) ∧ 
            ((¬ v3 = 0) → xIs g3 l0 (0, 7) ∧ 
              cal d nMo_canBeLit [xr l0, xi l2] g3 w3 (fun r g4 w4 => ∃ v4 : Int, r = some (xi v4) ∧ 
                ((¬ v4 = 0) → Q (some (xi 0)) g4 w4) ∧
                ((v4 = 0) → Q (some (xi (-1000000003))) g4 w4))) ∧
            ((v3 = 0) → Q (some (xi (-1000000002))) g3 w3))) ∧
        ((v2 = 0) → Q (some (xi (-1000000001))) g2 w2))))) :
    aMo_notStove d lim Q 0 [xr l0, xi l1, xi l2, xi l3] [] g w := xAt_exec (cal_m d) kMo_notStove 22 t
theorem eMo_notStove {d : Nat} {Q : xQ} {l1 l2 l3 : Int} {l0 : Nat} {g : xG} {w : xW} (t : ∀ (lim : Nat × Nat) (Q2 : xQ), (∀ r g2 w2, g2.1 = g.1 → Q r g2 w2 → Q2 r g2 w2) → aMo_notStove d lim Q2 0 [xr l0, xi l1, xi l2, xi l3] [] g w) : cal (d + 1) nMo_notStove [xr l0, xi l1, xi l2, xi l3] g w Q := t _ _ xQof
abbrev aMo_lightFor (d : Nat) (lim : Nat × Nat) (Q : xQ) : xK := xAt xMks tMo_lightFor (cal d) lim Q
def kMo_lightFor : List (Nat × List Bool) := [(24, [true, true, true, true, false, true, false]), (77, [true, true, true, true, false, true, false])]
set_option maxRecDepth 20000 in
theorem wMo_lightFor_0 {d : Nat} {lim : Nat × Nat} {Q : xQ} {l1 l2 l3 : Int} {l0 : Nat} {g : xG} {w : xW} (t : xIs g l0 (0, 7) ∧ 
  cal d nMo_notStove [xr l0, xi l1, xi l2, xi l3] g w (fun r g1 w1 => ∃ v1 : Int, r = some (xi v1) ∧ 
    ((v1 = 0) → xIs g1 l0 (0, 7) ∧ 
      cal d nMo_start [xr l0] g1 w1 (fun r g2 w2 => r = none ∧ aMo_lightFor d lim Q 24 [xr l0, xi l1, xi l2, xi l3, none, xi 0, none] [] g2 w2)) ∧
    ((¬ v1 = 0) → Q (some (xi v1)) g1 w1))) :
    aMo_lightFor d lim Q 0 [xr l0, xi l1, xi l2, xi l3, none, none, none] [] g w := xAt_exec (cal_m d) kMo_lightFor 13 t
set_option maxRecDepth 20000 in
theorem wMo_lightFor_24 {d : Nat} {lim : Nat × Nat} {Q : xQ} {l1 l2 l3 l5 : Int} {l0 : Nat} {g : xG} {w : xW} (t : 
  ((l3 < l5) → Q (some (xi (-1))) g w) ∧
  ((l5 ≤ l3) → xIs g l0 (0, 7) ∧ 
    cal d nMo_goMinutes [xr l0, xi l5] g w (fun r g1 w1 => r = none ∧ xIs g1 l0 (0, 7) ∧ x32 (104 + l2) ∧ xA1 g1 (g1.2 l0 0) (104 + l2) ∧ x32 (l3 - l5) ∧ xIs g1 l0 (0, 7) ∧ 
      cal d nMo_goMinutes [xr l0, xi (l3 - l5)] g1 (xup w1 (g1.2 l0 0) (Int.toNat (104 + l2)) 1) (fun r g2 w2 => r = none ∧ xIs g2 l0 (0, 7) ∧ xIs g2 l0 (0, 7) ∧ xAr g2 (g2.2 l0 9) l2 ∧ x32 (60 + (w2 (g2.2 l0 9) (Int.toNat l2))) ∧ xAr g2 (g2.2 l0 0) (60 + (w2 (g2.2 l0 9) (Int.toNat l2))) ∧ 
        ((¬ (w2 (g2.2 l0 0) (Int.toNat (60 + (w2 (g2.2 l0 9) (Int.toNat l2))))) = l1) → aMo_lightFor d lim Q 77 [xr l0, xi l1, xi l2, xi l3, none, xi l5, none] [xi 0] g2 w2) ∧
        (((w2 (g2.2 l0 0) (Int.toNat (60 + (w2 (g2.2 l0 9) (Int.toNat l2))))) = l1) → aMo_lightFor d lim Q 77 [xr l0, xi l1, xi l2, xi l3, none, xi l5, none] [xi 1] g2 w2))))) :
    aMo_lightFor d lim Q 24 [xr l0, xi l1, xi l2, xi l3, none, xi l5, none] [] g w := xAt_exec (cal_m d) kMo_lightFor 32 t
set_option maxRecDepth 20000 in
theorem wMo_lightFor_77 {d : Nat} {lim : Nat × Nat} {Q : xQ} {l1 l2 l3 l5 s0 : Int} {l0 : Nat} {g : xG} {w : xW} (t : xIs g l0 (0, 7) ∧ 
  cal d nMo_back [xr l0] g w (fun r g1 w1 => r = none ∧ 
    ((s0 = 0) → x32 (l5 + 1) ∧ aMo_lightFor d lim Q 24 [xr l0, xi l1, xi l2, xi l3, none, xi (l5 + 1), none] [] g1 w1) ∧
    ((¬ s0 = 0) → Q (some (xi l5)) g1 w1))) :
    aMo_lightFor d lim Q 77 [xr l0, xi l1, xi l2, xi l3, none, xi l5, none] [xi s0] g w := xAt_exec (cal_m d) kMo_lightFor 8 t
theorem eMo_lightFor {d : Nat} {Q : xQ} {l1 l2 l3 : Int} {l0 : Nat} {g : xG} {w : xW} (t : ∀ (lim : Nat × Nat) (Q2 : xQ), (∀ r g2 w2, g2.1 = g.1 → Q r g2 w2 → Q2 r g2 w2) → aMo_lightFor d lim Q2 0 [xr l0, xi l1, xi l2, xi l3, none, none, none] [] g w) : cal (d + 1) nMo_lightFor [xr l0, xi l1, xi l2, xi l3] g w Q := t _ _ xQof
abbrev aMo_ownsWithout (d : Nat) (lim : Nat × Nat) (Q : xQ) : xK := xAt xMks tMo_ownsWithout (cal d) lim Q
def kMo_ownsWithout : List (Nat × List Bool) := [(6, [true, true, true, true, false, false]), (44, [true, false, false, false, false, false])]
set_option maxRecDepth 20000 in
theorem wMo_ownsWithout_0 {d : Nat} {lim : Nat × Nat} {Q : xQ} {l1 l2 l3 l4 : Int} {l0 : Nat} {g : xG} {w : xW} (t : xIs g l0 (0, 7) ∧ aMo_ownsWithout d lim Q 6 [xr l0, xi l1, xi l2, xi l3, none, none] [] g (xup w l0 50 l4)) :
    aMo_ownsWithout d lim Q 0 [xr l0, xi l1, xi l2, xi l3, xi l4, none] [] g w := xAt_exec (cal_m d) kMo_ownsWithout 4 t
set_option maxRecDepth 20000 in
theorem wMo_ownsWithout_6 {d : Nat} {lim : Nat × Nat} {Q : xQ} {l1 l2 l3 : Int} {l0 : Nat} {g : xG} {w : xW} (t : xIs g l0 (0, 7) ∧ x32 (104 + l2) ∧ xA1 g (g.2 l0 0) (104 + l2) ∧ xIs g l0 (0, 7) ∧ 
  cal d nMo_goMinutes [xr l0, xi l3] g (xup w (g.2 l0 0) (Int.toNat (104 + l2)) 1) (fun r g1 w1 => r = none ∧ xIs g1 l0 (0, 7) ∧ xIs g1 l0 (0, 7) ∧ xAr g1 (g1.2 l0 9) l2 ∧ x32 (60 + (w1 (g1.2 l0 9) (Int.toNat l2))) ∧ xAr g1 (g1.2 l0 0) (60 + (w1 (g1.2 l0 9) (Int.toNat l2))) ∧ 
    ((¬ (w1 (g1.2 l0 0) (Int.toNat (60 + (w1 (g1.2 l0 9) (Int.toNat l2))))) = l1) → aMo_ownsWithout d lim Q 44 [xr l0, none, none, none, none, none] [xi 0] g1 w1) ∧
    (((w1 (g1.2 l0 0) (Int.toNat (60 + (w1 (g1.2 l0 9) (Int.toNat l2))))) = l1) → aMo_ownsWithout d lim Q 44 [xr l0, none, none, none, none, none] [xi 1] g1 w1))) :
    aMo_ownsWithout d lim Q 6 [xr l0, xi l1, xi l2, xi l3, none, none] [] g w := xAt_exec (cal_m d) kMo_ownsWithout 24 t
set_option maxRecDepth 20000 in
theorem wMo_ownsWithout_44 {d : Nat} {lim : Nat × Nat} {Q : xQ} {s0 : Int} {l0 : Nat} {g : xG} {w : xW} (t : xIs g l0 (0, 7) ∧ 
  cal d nMo_back [xr l0] g w (fun r g1 w1 => r = none ∧ xIs g1 l0 (0, 7) ∧ ((s0 : Int) = 0 ∨ (s0 : Int) = 1) ∧ Q (some (xi s0)) g1 (xup w1 l0 50 (-1)))) :
    aMo_ownsWithout d lim Q 44 [xr l0, none, none, none, none, none] [xi s0] g w := xAt_exec (cal_m d) kMo_ownsWithout 9 t
theorem eMo_ownsWithout {d : Nat} {Q : xQ} {l1 l2 l3 l4 : Int} {l0 : Nat} {g : xG} {w : xW} (t : ∀ (lim : Nat × Nat) (Q2 : xQ), (∀ r g2 w2, g2.1 = g.1 → Q r g2 w2 → Q2 r g2 w2) → aMo_ownsWithout d lim Q2 0 [xr l0, xi l1, xi l2, xi l3, xi l4, none] [] g w) : cal (d + 1) nMo_ownsWithout [xr l0, xi l1, xi l2, xi l3, xi l4] g w Q := t _ _ xQof
abbrev aMo_keptOut (d : Nat) (lim : Nat × Nat) (Q : xQ) : xK := xAt xMks tMo_keptOut (cal d) lim Q
def kMo_keptOut : List (Nat × List Bool) := [(37, [true, true, true, true, false, true])]
set_option maxRecDepth 20000 in
theorem wMo_keptOut_0 {d : Nat} {lim : Nat × Nat} {Q : xQ} {l1 l2 l3 : Int} {l0 : Nat} {g : xG} {w : xW} (t : xIs g l0 (0, 7) ∧ 
  cal d nMo_notStove [xr l0, xi l1, xi l2, xi l3] g w (fun r g1 w1 => ∃ v1 : Int, r = some (xi v1) ∧ 
    ((v1 = 0) → xIs g1 l0 (0, 7) ∧ 
      cal d nMo_start [xr l0] g1 w1 (fun r g2 w2 => r = none ∧ xIs g2 l0 (0, 7) ∧ 
        cal d nMo_ownsWithout [xr l0, xi l1, xi l2, xi l3, xi (-1)] g2 w2 (fun r g3 w3 => ∃ v3 : Int, r = some (xi v3) ∧ 
          ((v3 = 0) → aMo_keptOut d lim Q 37 [xr l0, xi l1, xi l2, xi l3, none, xi 0] [] g3 w3) ∧
          ((¬ v3 = 0) → Q (some (xi (-1))) g3 w3)))) ∧
    ((¬ v1 = 0) → Q (some (xi v1)) g1 w1))) :
    aMo_keptOut d lim Q 0 [xr l0, xi l1, xi l2, xi l3, none, none] [] g w := xAt_exec (cal_m d) kMo_keptOut 20 t
set_option maxRecDepth 20000 in
theorem wMo_keptOut_37 {d : Nat} {lim : Nat × Nat} {Q : xQ} {l1 l2 l3 l5 : Int} {l0 : Nat} {g : xG} {w : xW} (t : xIs g l0 (0, 7) ∧ 
  (((w l0 13) ≤ l5) → Q (some (xi (-1))) g w) ∧
  ((l5 < (w l0 13)) → 
    ((l5 = l1) → x32 (l5 + 1) ∧ aMo_keptOut d lim Q 37 [xr l0, xi l1, xi l2, xi l3, none, xi (l5 + 1)] [] g w) ∧
    ((¬ l5 = l1) → xIs g l0 (0, 7) ∧ 
      cal d nMo_ownsWithout [xr l0, xi l1, xi l2, xi l3, xi l5] g w (fun r g1 w1 => ∃ v1 : Int, r = some (xi v1) ∧ 
        ((v1 = 0) → x32 (l5 + 1) ∧ aMo_keptOut d lim Q 37 [xr l0, xi l1, xi l2, xi l3, none, xi (l5 + 1)] [] g1 w1) ∧
        ((¬ v1 = 0) → Q (some (xi l5)) g1 w1))))) :
    aMo_keptOut d lim Q 37 [xr l0, xi l1, xi l2, xi l3, none, xi l5] [] g w := xAt_exec (cal_m d) kMo_keptOut 17 t
theorem eMo_keptOut {d : Nat} {Q : xQ} {l1 l2 l3 : Int} {l0 : Nat} {g : xG} {w : xW} (t : ∀ (lim : Nat × Nat) (Q2 : xQ), (∀ r g2 w2, g2.1 = g.1 → Q r g2 w2 → Q2 r g2 w2) → aMo_keptOut d lim Q2 0 [xr l0, xi l1, xi l2, xi l3, none, none] [] g w) : cal (d + 1) nMo_keptOut [xr l0, xi l1, xi l2, xi l3] g w Q := t _ _ xQof
abbrev aMo_gain (d : Nat) (lim : Nat × Nat) (Q : xQ) : xK := xAt xMks tMo_gain (cal d) lim Q
def kMo_gain : List (Nat × List Bool) := [(80, [true, true, false, false, false, true, false, true, false, false])]
set_option maxRecDepth 20000 in
theorem wMo_gain_0 {d : Nat} {lim : Nat × Nat} {Q : xQ} {l1 l2 l3 l4 l5 : Int} {l0 : Nat} {g : xG} {w : xW} (t : xIs g l0 (0, 7) ∧ 
  cal d nMo_notWall [xr l0, xi l2, xi l3, xi l4] g w (fun r g1 w1 => ∃ v1 : Int, r = some (xi v1) ∧ xIs g1 l0 (0, 7) ∧ 
    cal d nMo_isPerson [xr l0, xi l1] g1 w1 (fun r g2 w2 => ∃ v2 : Int, r = some (xi v2) ∧ 
      ((v2 = 0) → Q (some (xi (-1000000001))) g2 w2) ∧
      ((¬ v2 = 0) → 
        ((¬ v1 = (-1000000001)) → 
          ((¬ v1 = 0) → Q (some (xi (-1000000002))) g2 w2) ∧
          ((v1 = 0) → 
            cal d nMo_in [xl l5, xl 1, xl 60] g2 w2 (fun r g3 w3 => ∃ v3 : Int, r = some (xi v3) ∧ 
              ((¬ v3 = 0) → x32 (20 * l4) ∧ x32 (20 + (20 * l4)) ∧ xIs g3 l0 (0, 7) ∧ x32 ((w3 l0 4) * l3) ∧ x32 ((20 + (20 * l4)) + ((w3 l0 4) * l3)) ∧ x32 (((20 + (20 * l4)) + ((w3 l0 4) * l3)) + l2) ∧ xIs g3 l0 (0, 7) ∧ 
                cal d nMo_start [xr l0] g3 w3 (fun r g4 w4 => r = none ∧ xIs g4 l0 (0, 7) ∧ xA1 g4 (g4.2 l0 0) (((20 + (20 * l4)) + ((w3 l0 4) * l3)) + l2) ∧ aMo_gain d lim Q 80 [xr l0, xi l1, none, none, none, xi l5, none, xi (((20 + (20 * l4)) + ((w3 l0 4) * l3)) + l2), none, none] [] g4 (xup w4 (g4.2 l0 0) (Int.toNat (((20 + (20 * l4)) + ((w3 l0 4) * l3)) + l2)) 1))) ∧
              ((v3 = 0) → Q (some (xi (-1000000002))) g3 w3)))) ∧
        ((v1 = (-1000000001)) → Q (some (xi (-1000000001))) g2 w2))))) :
    aMo_gain d lim Q 0 [xr l0, xi l1, xi l2, xi l3, xi l4, xi l5, none, none, none, none] [] g w := xAt_exec (cal_m d) kMo_gain 42 t
set_option maxRecDepth 20000 in
theorem wMo_gain_80 {d : Nat} {lim : Nat × Nat} {Q : xQ} {l1 l5 l7 : Int} {l0 : Nat} {g : xG} {w : xW} (t : xIs g l0 (0, 7) ∧ 
  cal d nMo_goMinutes [xr l0, xi l5] g w (fun r g1 w1 => r = none ∧ xIs g1 l0 (0, 7) ∧ 
    cal d nMo_owns [xr l0, xi l1] g1 w1 (fun r g2 w2 => ∃ v2 : Int, r = some (xi v2) ∧ xIs g2 l0 (0, 7) ∧ 
      cal d nMo_back [xr l0] g2 w2 (fun r g3 w3 => r = none ∧ xIs g3 l0 (0, 7) ∧ xA1 g3 (g3.2 l0 0) l7 ∧ xIs g3 l0 (0, 7) ∧ 
        cal d nMo_goMinutes [xr l0, xi l5] g3 (xup w3 (g3.2 l0 0) (Int.toNat l7) 0) (fun r g4 w4 => r = none ∧ xIs g4 l0 (0, 7) ∧ 
          cal d nMo_owns [xr l0, xi l1] g4 w4 (fun r g5 w5 => ∃ v5 : Int, r = some (xi v5) ∧ xIs g5 l0 (0, 7) ∧ 
            cal d nMo_back [xr l0] g5 w5 (fun r g6 w6 => r = none ∧ x32 (v2 - v5) ∧ Q (some (xi (v2 - v5))) g6 w6))))))) :
    aMo_gain d lim Q 80 [xr l0, xi l1, none, none, none, xi l5, none, xi l7, none, none] [] g w := xAt_exec (cal_m d) kMo_gain 28 t
theorem eMo_gain {d : Nat} {Q : xQ} {l1 l2 l3 l4 l5 : Int} {l0 : Nat} {g : xG} {w : xW} (t : ∀ (lim : Nat × Nat) (Q2 : xQ), (∀ r g2 w2, g2.1 = g.1 → Q r g2 w2 → Q2 r g2 w2) → aMo_gain d lim Q2 0 [xr l0, xi l1, xi l2, xi l3, xi l4, xi l5, none, none, none, none] [] g w) : cal (d + 1) nMo_gain [xr l0, xi l1, xi l2, xi l3, xi l4, xi l5] g w Q := t _ _ xQof
abbrev aMo_isLet (d : Nat) (lim : Nat × Nat) (Q : xQ) : xK := xAt xMks tMo_isLet (cal d) lim Q
def kMo_isLet : List (Nat × List Bool) := [(44, [true, true, true, true, true, false, false]), (83, [true, true, true, false, true, false, false])]
set_option maxRecDepth 20000 in
theorem wMo_isLet_0 {d : Nat} {lim : Nat × Nat} {Q : xQ} {l1 : Int} {l0 : Nat} {g : xG} {w : xW} (t : xIs g l0 (0, 7) ∧ x32 (60 + l1) ∧ xAr g (g.2 l0 0) (60 + l1) ∧ 
  (((w (g.2 l0 0) (Int.toNat (60 + l1))) = (-1)) → aMo_isLet d lim Q 44 [xr l0, xi l1, xi (w (g.2 l0 0) (Int.toNat (60 + l1))), xi 0, xi 1, none, none] [] g w) ∧
  ((¬ (w (g.2 l0 0) (Int.toNat (60 + l1))) = (-1)) → xIs g l0 (0, 7) ∧ xAr g (g.2 l0 51) (w (g.2 l0 0) (Int.toNat (60 + l1))) ∧ xIs g l0 (0, 7) ∧ x32 (0 + l1) ∧ xAr g (g.2 l0 0) (0 + l1) ∧ ((50 : Int) ≠ 0 ∧ x32 (Int.tdiv (w (g.2 l0 0) (Int.toNat (0 + l1))) 50)) ∧ 
    (((Int.tdiv (w (g.2 l0 0) (Int.toNat (0 + l1))) 50) < (w (g.2 l0 51) (Int.toNat (w (g.2 l0 0) (Int.toNat (60 + l1)))))) → aMo_isLet d lim Q 44 [xr l0, xi l1, xi (w (g.2 l0 0) (Int.toNat (60 + l1))), xi 0, xi 1, none, none] [] g w) ∧
    (((w (g.2 l0 51) (Int.toNat (w (g.2 l0 0) (Int.toNat (60 + l1))))) ≤ (Int.tdiv (w (g.2 l0 0) (Int.toNat (0 + l1))) 50)) → aMo_isLet d lim Q 44 [xr l0, xi l1, xi (w (g.2 l0 0) (Int.toNat (60 + l1))), xi 1, xi 1, none, none] [] g w))) :
    aMo_isLet d lim Q 0 [xr l0, xi l1, none, none, none, none, none] [] g w := xAt_exec (cal_m d) kMo_isLet 29 t
set_option maxRecDepth 20000 in
theorem wMo_isLet_44 {d : Nat} {lim : Nat × Nat} {Q : xQ} {l1 l2 l3 l4 : Int} {l0 : Nat} {g : xG} {w : xW} (t : 
  ((4 < l4) → ((l3 : Int) = 0 ∨ (l3 : Int) = 1) ∧ Q (some (xi l3)) g w) ∧
  ((l4 ≤ 4) → 
    ((l3 = 0) → ((l3 : Int) = 0 ∨ (l3 : Int) = 1) ∧ Q (some (xi l3)) g w) ∧
    ((¬ l3 = 0) → xIs g l0 (0, 7) ∧ 
      cal d nMo_way [xr l0, xi l1, xi l4] g w (fun r g1 w1 => ∃ v1 : Int, r = some (xi v1) ∧ 
        ((¬ v1 = (-1)) → xIs g1 l0 (0, 7) ∧ x32 (60 + v1) ∧ xAr g1 (g1.2 l0 0) (60 + v1) ∧ aMo_isLet d lim Q 83 [xr l0, xi l1, xi l2, none, xi l4, none, none] [xi (w1 (g1.2 l0 0) (Int.toNat (60 + v1)))] g1 w1) ∧
        ((v1 = (-1)) → aMo_isLet d lim Q 83 [xr l0, xi l1, xi l2, none, xi l4, none, none] [xi (-1)] g1 w1))))) :
    aMo_isLet d lim Q 44 [xr l0, xi l1, xi l2, xi l3, xi l4, none, none] [] g w := xAt_exec (cal_m d) kMo_isLet 20 t
set_option maxRecDepth 20000 in
theorem wMo_isLet_83 {d : Nat} {lim : Nat × Nat} {Q : xQ} {l1 l2 l4 s0 : Int} {l0 : Nat} {g : xG} {w : xW} (t : 
  ((s0 = (-1)) → x32 (l4 + 1) ∧ aMo_isLet d lim Q 44 [xr l0, xi l1, xi l2, xi 1, xi (l4 + 1), none, none] [] g w) ∧
  ((¬ s0 = (-1)) → 
    ((s0 = l2) → x32 (l4 + 1) ∧ aMo_isLet d lim Q 44 [xr l0, xi l1, xi l2, xi 1, xi (l4 + 1), none, none] [] g w) ∧
    ((¬ s0 = l2) → xIs g l0 (0, 7) ∧ xAr g (g.2 l0 51) s0 ∧ xIs g l0 (0, 7) ∧ xAr g (g.2 l0 51) l2 ∧ 
      (((w (g.2 l0 51) (Int.toNat s0)) < (w (g.2 l0 51) (Int.toNat l2))) → x32 (l4 + 1) ∧ aMo_isLet d lim Q 44 [xr l0, xi l1, xi l2, xi 0, xi (l4 + 1), none, none] [] g w) ∧
      (((w (g.2 l0 51) (Int.toNat l2)) ≤ (w (g.2 l0 51) (Int.toNat s0))) → x32 (l4 + 1) ∧ aMo_isLet d lim Q 44 [xr l0, xi l1, xi l2, xi 1, xi (l4 + 1), none, none] [] g w)))) :
    aMo_isLet d lim Q 83 [xr l0, xi l1, xi l2, none, xi l4, none, none] [xi s0] g w := xAt_exec (cal_m d) kMo_isLet 22 t
theorem eMo_isLet {d : Nat} {Q : xQ} {l1 : Int} {l0 : Nat} {g : xG} {w : xW} (t : ∀ (lim : Nat × Nat) (Q2 : xQ), (∀ r g2 w2, g2.1 = g.1 → Q r g2 w2 → Q2 r g2 w2) → aMo_isLet d lim Q2 0 [xr l0, xi l1, none, none, none, none, none] [] g w) : cal (d + 1) nMo_isLet [xr l0, xi l1] g w Q := t _ _ xQof
abbrev aMo_brings (d : Nat) (lim : Nat × Nat) (Q : xQ) : xK := xAt xMks tMo_brings (cal d) lim Q
def kMo_brings : List (Nat × List Bool) := [(4, [true, true, true, true])]
set_option maxRecDepth 20000 in
theorem wMo_brings_0 {d : Nat} {lim : Nat × Nat} {Q : xQ} {l1 : Int} {l0 : Nat} {g : xG} {w : xW} (t : aMo_brings d lim Q 4 [xr l0, xi l1, xi 0, xi 0] [] g w) :
    aMo_brings d lim Q 0 [xr l0, xi l1, none, none] [] g w := xAt_exec (cal_m d) kMo_brings 5 t
set_option maxRecDepth 20000 in
theorem wMo_brings_4 {d : Nat} {lim : Nat × Nat} {Q : xQ} {l1 l2 l3 : Int} {l0 : Nat} {g : xG} {w : xW} (t : xIs g l0 (0, 7) ∧ 
  cal d nMo_cells [xr l0] g w (fun r g1 w1 => ∃ v1 : Int, r = some (xi v1) ∧ 
    ((v1 ≤ l3) → Q (some (xi l2)) g1 w1) ∧
    ((l3 < v1) → xIs g1 l0 (0, 7) ∧ x32 (60 + l3) ∧ xAr g1 (g1.2 l0 0) (60 + l3) ∧ 
      ((¬ (w1 (g1.2 l0 0) (Int.toNat (60 + l3))) = l1) → x32 (l2 + 0) ∧ x32 (l3 + 1) ∧ aMo_brings d lim Q 4 [xr l0, xi l1, xi (l2 + 0), xi (l3 + 1)] [] g1 w1) ∧
      (((w1 (g1.2 l0 0) (Int.toNat (60 + l3))) = l1) → xIs g1 l0 (0, 7) ∧ 
        cal d nMo_isLet [xr l0, xi l3] g1 w1 (fun r g2 w2 => ∃ v2 : Int, r = some (xi v2) ∧ 
          ((v2 = 0) → x32 (l2 + 0) ∧ x32 (l3 + 1) ∧ aMo_brings d lim Q 4 [xr l0, xi l1, xi (l2 + 0), xi (l3 + 1)] [] g2 w2) ∧
          ((¬ v2 = 0) → xIs g2 l0 (0, 7) ∧ xAr g2 (g2.2 l0 51) l1 ∧ x32 (l2 + (w2 (g2.2 l0 51) (Int.toNat l1))) ∧ x32 (l3 + 1) ∧ aMo_brings d lim Q 4 [xr l0, xi l1, xi (l2 + (w2 (g2.2 l0 51) (Int.toNat l1))), xi (l3 + 1)] [] g2 w2)))))) :
    aMo_brings d lim Q 4 [xr l0, xi l1, xi l2, xi l3] [] g w := xAt_exec (cal_m d) kMo_brings 27 t
theorem eMo_brings {d : Nat} {Q : xQ} {l1 : Int} {l0 : Nat} {g : xG} {w : xW} (t : ∀ (lim : Nat × Nat) (Q2 : xQ), (∀ r g2 w2, g2.1 = g.1 → Q r g2 w2 → Q2 r g2 w2) → aMo_brings d lim Q2 0 [xr l0, xi l1, none, none] [] g w) : cal (d + 1) nMo_brings [xr l0, xi l1] g w Q := t _ _ xQof
abbrev aMo_bestRent (d : Nat) (lim : Nat × Nat) (Q : xQ) : xK := xAt xMks tMo_bestRent (cal d) lim Q
def kMo_bestRent : List (Nat × List Bool) := [(15, [true, true, true, true, true, true, false]), (50, [true, true, true, false, true, true, true])]
set_option maxRecDepth 20000 in
theorem wMo_bestRent_0 {d : Nat} {lim : Nat × Nat} {Q : xQ} {l1 : Int} {l0 : Nat} {g : xG} {w : xW} (t : xIs g l0 (0, 7) ∧ xAr g (g.2 l0 51) l1 ∧ aMo_bestRent d lim Q 15 [xr l0, xi l1, xi (w (g.2 l0 51) (Int.toNat l1)), xi 0, xi (-1), xi 0, none] [] g w) :
    aMo_bestRent d lim Q 0 [xr l0, xi l1, none, none, none, none, none] [] g w := xAt_exec (cal_m d) kMo_bestRent 12 t
set_option maxRecDepth 20000 in
theorem wMo_bestRent_15 {d : Nat} {lim : Nat × Nat} {Q : xQ} {l1 l2 l3 l4 l5 : Int} {l0 : Nat} {g : xG} {w : xW} (t : 
  ((10 ≤ l5) → xIs g l0 (0, 7) ∧ xA1 g (g.2 l0 51) l1 ∧ Q (some (xi l3)) g (xup w (g.2 l0 51) (Int.toNat l1) l2)) ∧
  ((l5 < 10) → xIs g l0 (0, 7) ∧ xA1 g (g.2 l0 51) l1 ∧ xIs g l0 (0, 7) ∧ 
    cal d nMo_brings [xr l0, xi l1] g (xup w (g.2 l0 51) (Int.toNat l1) l5) (fun r g1 w1 => ∃ v1 : Int, r = some (xi v1) ∧ 
      ((v1 ≤ l4) → aMo_bestRent d lim Q 50 [xr l0, xi l1, xi l2, none, xi l4, xi l5, xi v1] [xi l3] g1 w1) ∧
      ((l4 < v1) → aMo_bestRent d lim Q 50 [xr l0, xi l1, xi l2, none, xi l4, xi l5, xi v1] [xi l5] g1 w1)))) :
    aMo_bestRent d lim Q 15 [xr l0, xi l1, xi l2, xi l3, xi l4, xi l5, none] [] g w := xAt_exec (cal_m d) kMo_bestRent 18 t
set_option maxRecDepth 20000 in
theorem wMo_bestRent_50 {d : Nat} {lim : Nat × Nat} {Q : xQ} {l1 l2 l4 l5 l6 s0 : Int} {l0 : Nat} {g : xG} {w : xW} (t : 
  ((l6 ≤ l4) → x32 (l5 + 1) ∧ aMo_bestRent d lim Q 15 [xr l0, xi l1, xi l2, xi s0, xi l4, xi (l5 + 1), none] [] g w) ∧
  ((l4 < l6) → x32 (l5 + 1) ∧ aMo_bestRent d lim Q 15 [xr l0, xi l1, xi l2, xi s0, xi l6, xi (l5 + 1), none] [] g w)) :
    aMo_bestRent d lim Q 50 [xr l0, xi l1, xi l2, none, xi l4, xi l5, xi l6] [xi s0] g w := xAt_exec (cal_m d) kMo_bestRent 10 t
theorem eMo_bestRent {d : Nat} {Q : xQ} {l1 : Int} {l0 : Nat} {g : xG} {w : xW} (t : ∀ (lim : Nat × Nat) (Q2 : xQ), (∀ r g2 w2, g2.1 = g.1 → Q r g2 w2 → Q2 r g2 w2) → aMo_bestRent d lim Q2 0 [xr l0, xi l1, none, none, none, none, none] [] g w) : cal (d + 1) nMo_bestRent [xr l0, xi l1] g w Q := t _ _ xQof
abbrev aMo_rents (d : Nat) (lim : Nat × Nat) (Q : xQ) : xK := xAt xMks tMo_rents (cal d) lim Q
def kMo_rents : List (Nat × List Bool) := [(18, [true, true, true, false, false, false]), (39, [true, true, true, false, false, false]), (50, [true, true, true, true, true, false]), (88, [true, true, true, false, true, true])]
set_option maxRecDepth 20000 in
theorem wMo_rents_0 {d : Nat} {lim : Nat × Nat} {Q : xQ} {l1 : Int} {l0 : Nat} {g : xG} {w : xW} (t : 
  ((l1 = (-1)) → aMo_rents d lim Q 18 [xr l0, xi l1, xi 0, none, none, none] [] g w) ∧
  ((¬ l1 = (-1)) → xIs g l0 (0, 7) ∧ 
    cal d nMo_isPerson [xr l0, xi l1] g w (fun r g1 w1 => ∃ v1 : Int, r = some (xi v1) ∧ 
      ((¬ v1 = 0) → aMo_rents d lim Q 18 [xr l0, xi l1, xi 0, none, none, none] [] g1 w1) ∧
      ((v1 = 0) → Q (some (xi (-1000000001))) g1 w1)))) :
    aMo_rents d lim Q 0 [xr l0, xi l1, none, none, none, none] [] g w := xAt_exec (cal_m d) kMo_rents 10 t
set_option maxRecDepth 20000 in
theorem wMo_rents_18 {d : Nat} {lim : Nat × Nat} {Q : xQ} {l1 l2 : Int} {l0 : Nat} {g : xG} {w : xW} (t : 
  ((6 ≤ l2) → aMo_rents d lim Q 39 [xr l0, xi l1, xi 0, none, none, none] [] g w) ∧
  ((l2 < 6) → xIs g l0 (0, 7) ∧ xA1 g (g.2 l0 51) l2 ∧ x32 (l2 + 1) ∧ aMo_rents d lim Q 18 [xr l0, xi l1, xi (l2 + 1), none, none, none] [] g (xup w (g.2 l0 51) (Int.toNat l2) 0))) :
    aMo_rents d lim Q 18 [xr l0, xi l1, xi l2, none, none, none] [] g w := xAt_exec (cal_m d) kMo_rents 11 t
set_option maxRecDepth 20000 in
theorem wMo_rents_39 {d : Nat} {lim : Nat × Nat} {Q : xQ} {l1 l2 : Int} {l0 : Nat} {g : xG} {w : xW} (t : 
  ((20 ≤ l2) → Q (some (xi (-1))) g w) ∧
  ((l2 < 20) → aMo_rents d lim Q 50 [xr l0, xi l1, xi l2, xi 0, xi 0, none] [] g w)) :
    aMo_rents d lim Q 39 [xr l0, xi l1, xi l2, none, none, none] [] g w := xAt_exec (cal_m d) kMo_rents 8 t
set_option maxRecDepth 20000 in
theorem wMo_rents_50 {d : Nat} {lim : Nat × Nat} {Q : xQ} {l1 l2 l3 l4 : Int} {l0 : Nat} {g : xG} {w : xW} (t : xIs g l0 (0, 7) ∧ 
  (((w l0 13) ≤ l4) → 
    ((¬ l3 = 0) → x32 (l2 + 1) ∧ aMo_rents d lim Q 39 [xr l0, xi l1, xi (l2 + 1), none, none, none] [] g w) ∧
    ((l3 = 0) → 
      ((¬ l1 = (-1)) → xIs g l0 (0, 7) ∧ xAr g (g.2 l0 51) l1 ∧ Q (some (xi (w (g.2 l0 51) (Int.toNat l1)))) g w) ∧
      ((l1 = (-1)) → Q (some (xi l2)) g w))) ∧
  ((l4 < (w l0 13)) → xIs g l0 (0, 7) ∧ 
    cal d nMo_bestRent [xr l0, xi l4] g w (fun r g1 w1 => ∃ v1 : Int, r = some (xi v1) ∧ 
      ((¬ l3 = 0) → aMo_rents d lim Q 88 [xr l0, xi l1, xi l2, none, xi l4, xi v1] [xi 1] g1 w1) ∧
      ((l3 = 0) → xIs g1 l0 (0, 7) ∧ xAr g1 (g1.2 l0 51) l4 ∧ 
        ((v1 = (w1 (g1.2 l0 51) (Int.toNat l4))) → aMo_rents d lim Q 88 [xr l0, xi l1, xi l2, none, xi l4, xi v1] [xi 0] g1 w1) ∧
        ((¬ v1 = (w1 (g1.2 l0 51) (Int.toNat l4))) → aMo_rents d lim Q 88 [xr l0, xi l1, xi l2, none, xi l4, xi v1] [xi 1] g1 w1))))) :
    aMo_rents d lim Q 50 [xr l0, xi l1, xi l2, xi l3, xi l4, none] [] g w := xAt_exec (cal_m d) kMo_rents 19 t
set_option maxRecDepth 20000 in
theorem wMo_rents_88 {d : Nat} {lim : Nat × Nat} {Q : xQ} {l1 l2 l4 l5 s0 : Int} {l0 : Nat} {g : xG} {w : xW} (t : xIs g l0 (0, 7) ∧ xA1 g (g.2 l0 51) l4 ∧ x32 (l4 + 1) ∧ aMo_rents d lim Q 50 [xr l0, xi l1, xi l2, xi s0, xi (l4 + 1), none] [] g (xup w (g.2 l0 51) (Int.toNat l4) l5)) :
    aMo_rents d lim Q 88 [xr l0, xi l1, xi l2, none, xi l4, xi l5] [xi s0] g w := xAt_exec (cal_m d) kMo_rents 9 t
theorem eMo_rents {d : Nat} {Q : xQ} {l1 : Int} {l0 : Nat} {g : xG} {w : xW} (t : ∀ (lim : Nat × Nat) (Q2 : xQ), (∀ r g2 w2, g2.1 = g.1 → Q r g2 w2 → Q2 r g2 w2) → aMo_rents d lim Q2 0 [xr l0, xi l1, none, none, none, none] [] g w) : cal (d + 1) nMo_rents [xr l0, xi l1] g w Q := t _ _ xQof
abbrev aMo_claim (d : Nat) (lim : Nat × Nat) (Q : xQ) : xK := xAt xMks tMo_claim (cal d) lim Q
def kMo_claim : List (Nat × List Bool) := [(61, [true, false, false, true, true]), (72, [true, false, false, true, false]), (82, [true, false, false, false, false])]
set_option maxRecDepth 20000 in
theorem wMo_claim_0 {d : Nat} {lim : Nat × Nat} {Q : xQ} {l1 l2 l3 : Int} {l0 : Nat} {g : xG} {w : xW} (t : xIs g l0 (0, 7) ∧ 
  cal d nMo_cellOf [xr l0, xi l2] g w (fun r g1 w1 => ∃ v1 : Int, r = some (xi v1) ∧ xIs g1 l0 (0, 7) ∧ 
    cal d nMo_isPerson [xr l0, xi l1] g1 w1 (fun r g2 w2 => ∃ v2 : Int, r = some (xi v2) ∧ 
      ((v2 = 0) → Q (some (xi (-1000000001))) g2 w2) ∧
      ((¬ v2 = 0) → 
        ((¬ v1 = (-1)) → 
          cal d nMo_in [xl l3, xl 0, xl 59] g2 w2 (fun r g3 w3 => ∃ v3 : Int, r = some (xi v3) ∧ 
            ((¬ v3 = 0) → xIs g3 l0 (0, 7) ∧ 
              ((¬ (w3 l0 16) = 12) → xIs g3 l0 (0, 7) ∧ xIs g3 l0 (0, 7) ∧ xA1 g3 (g3.2 l0 17) (w3 l0 16) ∧ aMo_claim d lim Q 61 [xr l0, none, none, xi l3, xi v1] [] g3 (xup w3 (g3.2 l0 17) (Int.toNat (w3 l0 16)) l1)) ∧
              (((w3 l0 16) = 12) → Q (some (xi (-1000000004))) g3 w3)) ∧
            ((v3 = 0) → Q (some (xi (-1000000002))) g3 w3))) ∧
        ((v1 = (-1)) → Q (some (xi (-1000000001))) g2 w2))))) :
    aMo_claim d lim Q 0 [xr l0, xi l1, xi l2, xi l3, none] [] g w := xAt_exec (cal_m d) kMo_claim 28 t
set_option maxRecDepth 20000 in
theorem wMo_claim_61 {d : Nat} {lim : Nat × Nat} {Q : xQ} {l3 l4 : Int} {l0 : Nat} {g : xG} {w : xW} (t : xIs g l0 (0, 7) ∧ xIs g l0 (0, 7) ∧ xA1 g (g.2 l0 18) (w l0 16) ∧ aMo_claim d lim Q 72 [xr l0, none, none, xi l3, none] [] g (xup w (g.2 l0 18) (Int.toNat (w l0 16)) l4)) :
    aMo_claim d lim Q 61 [xr l0, none, none, xi l3, xi l4] [] g w := xAt_exec (cal_m d) kMo_claim 7 t
set_option maxRecDepth 20000 in
theorem wMo_claim_72 {d : Nat} {lim : Nat × Nat} {Q : xQ} {l3 : Int} {l0 : Nat} {g : xG} {w : xW} (t : xIs g l0 (0, 7) ∧ xIs g l0 (0, 7) ∧ xA1 g (g.2 l0 19) (w l0 16) ∧ aMo_claim d lim Q 82 [xr l0, none, none, none, none] [] g (xup w (g.2 l0 19) (Int.toNat (w l0 16)) l3)) :
    aMo_claim d lim Q 72 [xr l0, none, none, xi l3, none] [] g w := xAt_exec (cal_m d) kMo_claim 7 t
set_option maxRecDepth 20000 in
theorem wMo_claim_82 {d : Nat} {lim : Nat × Nat} {Q : xQ} {l0 : Nat} {g : xG} {w : xW} (t : xIs g l0 (0, 7) ∧ x32 ((w l0 16) + 1) ∧ xIs g l0 (0, 7) ∧ xIs g l0 (0, 7) ∧ Q (some (xi ((xup w l0 16 ((w l0 16) + 1)) l0 16))) g (xup w l0 16 ((w l0 16) + 1))) :
    aMo_claim d lim Q 82 [xr l0, none, none, none, none] [] g w := xAt_exec (cal_m d) kMo_claim 10 t
theorem eMo_claim {d : Nat} {Q : xQ} {l1 l2 l3 : Int} {l0 : Nat} {g : xG} {w : xW} (t : ∀ (lim : Nat × Nat) (Q2 : xQ), (∀ r g2 w2, g2.1 = g.1 → Q r g2 w2 → Q2 r g2 w2) → aMo_claim d lim Q2 0 [xr l0, xi l1, xi l2, xi l3, none] [] g w) : cal (d + 1) nMo_claim [xr l0, xi l1, xi l2, xi l3] g w Q := t _ _ xQof
abbrev aMo_forged (d : Nat) (lim : Nat × Nat) (Q : xQ) : xK := xAt xMks tMo_forged (cal d) lim Q
def kMo_forged : List (Nat × List Bool) := [(24, [true, true, true, false, false]), (36, [true, true, true, true, false]), (78, [true, true, true, true, false])]
set_option maxRecDepth 20000 in
theorem wMo_forged_0 {d : Nat} {lim : Nat × Nat} {Q : xQ} {l0 : Nat} {g : xG} {w : xW} (t : xIs g l0 (0, 7) ∧ x32 ((xShl 1 (w l0 16)) - 1) ∧ xIs g l0 (0, 7) ∧ 
  ((¬ (w l0 16) = 0) → xIs g l0 (0, 7) ∧ 
    cal d nMo_start [xr l0] g w (fun r g1 w1 => r = none ∧ aMo_forged d lim Q 24 [xr l0, xi ((xShl 1 (w l0 16)) - 1), xi 0, none, none] [] g1 w1)) ∧
  (((w l0 16) = 0) → Q (some (xi 0)) g w)) :
    aMo_forged d lim Q 0 [xr l0, none, none, none, none] [] g w := xAt_exec (cal_m d) kMo_forged 15 t
set_option maxRecDepth 20000 in
theorem wMo_forged_24 {d : Nat} {lim : Nat × Nat} {Q : xQ} {l1 l2 : Int} {l0 : Nat} {g : xG} {w : xW} (t : 
  ((60 ≤ l2) → xIs g l0 (0, 7) ∧ 
    cal d nMo_back [xr l0] g w (fun r g1 w1 => r = none ∧ Q (some (xi l1)) g1 w1)) ∧
  ((l2 < 60) → xIs g l0 (0, 7) ∧ 
    cal d nMo_goMinute [xr l0] g w (fun r g2 w2 => r = none ∧ aMo_forged d lim Q 36 [xr l0, xi l1, xi l2, xi 0, none] [] g2 w2))) :
    aMo_forged d lim Q 24 [xr l0, xi l1, xi l2, none, none] [] g w := xAt_exec (cal_m d) kMo_forged 8 t
set_option maxRecDepth 20000 in
theorem wMo_forged_36 {d : Nat} {lim : Nat × Nat} {Q : xQ} {l1 l2 l3 : Int} {l0 : Nat} {g : xG} {w : xW} (t : xIs g l0 (0, 7) ∧ 
  (((w l0 16) ≤ l3) → x32 (l2 + 1) ∧ aMo_forged d lim Q 24 [xr l0, xi l1, xi (l2 + 1), none, none] [] g w) ∧
  ((l3 < (w l0 16)) → xIs g l0 (0, 7) ∧ xAr g (g.2 l0 19) l3 ∧ 
    ((¬ (w (g.2 l0 19) (Int.toNat l3)) = l2) → aMo_forged d lim Q 78 [xr l0, xi l1, xi l2, xi l3, none] [xi 0] g w) ∧
    (((w (g.2 l0 19) (Int.toNat l3)) = l2) → xIs g l0 (0, 7) ∧ xAr g (g.2 l0 17) l3 ∧ xIs g l0 (0, 7) ∧ xAr g (g.2 l0 18) l3 ∧ xIs g l0 (0, 7) ∧ 
      cal d nMo_feelsOn [xr l0, xi (w (g.2 l0 17) (Int.toNat l3)), xi (w (g.2 l0 18) (Int.toNat l3))] g w (fun r g1 w1 => ∃ v1 : Int, r = some (xi v1) ∧ 
        ((v1 = 0) → aMo_forged d lim Q 78 [xr l0, xi l1, xi l2, xi l3, none] [xi 0] g1 w1) ∧
        ((¬ v1 = 0) → aMo_forged d lim Q 78 [xr l0, xi l1, xi l2, xi l3, none] [xi 1] g1 w1))))) :
    aMo_forged d lim Q 36 [xr l0, xi l1, xi l2, xi l3, none] [] g w := xAt_exec (cal_m d) kMo_forged 24 t
set_option maxRecDepth 20000 in
theorem wMo_forged_78 {d : Nat} {lim : Nat × Nat} {Q : xQ} {l1 l2 l3 s0 : Int} {l0 : Nat} {g : xG} {w : xW} (t : 
  ((s0 = 0) → x32 (l3 + 1) ∧ aMo_forged d lim Q 36 [xr l0, xi (xAnd l1 (-1)), xi l2, xi (l3 + 1), none] [] g w) ∧
  ((¬ s0 = 0) → x32 (l3 + 1) ∧ aMo_forged d lim Q 36 [xr l0, xi (xAnd l1 (xXor (xShl 1 l3) (-1))), xi l2, xi (l3 + 1), none] [] g w)) :
    aMo_forged d lim Q 78 [xr l0, xi l1, xi l2, xi l3, none] [xi s0] g w := xAt_exec (cal_m d) kMo_forged 15 t
theorem eMo_forged {d : Nat} {Q : xQ} {l0 : Nat} {g : xG} {w : xW} (t : ∀ (lim : Nat × Nat) (Q2 : xQ), (∀ r g2 w2, g2.1 = g.1 → Q r g2 w2 → Q2 r g2 w2) → aMo_forged d lim Q2 0 [xr l0, none, none, none, none] [] g w) : cal (d + 1) nMo_forged [xr l0] g w Q := t _ _ xQof
abbrev aMo_leaveWarm (d : Nat) (lim : Nat × Nat) (Q : xQ) : xK := xAt xMks tMo_leaveWarm (cal d) lim Q
def kMo_leaveWarm : List (Nat × List Bool) := [(24, [true, true, true, true, true, false])]
set_option maxRecDepth 20000 in
theorem wMo_leaveWarm_0 {d : Nat} {lim : Nat × Nat} {Q : xQ} {l1 : Int} {l0 : Nat} {g : xG} {w : xW} (t : xIs g l0 (0, 7) ∧ x32 (108 + l1) ∧ xAr g (g.2 l0 0) (108 + l1) ∧ xIs g l0 (0, 7) ∧ 
  cal d nMo_isOwedFor [xr l0, xi l1, xi (w (g.2 l0 0) (Int.toNat (108 + l1)))] g w (fun r g1 w1 => ∃ v1 : Int, r = some (xi v1) ∧ 
    ((v1 = 0) → Q none g1 w1) ∧
    ((¬ v1 = 0) → aMo_leaveWarm d lim Q 24 [xr l0, xi l1, xi (w (g.2 l0 0) (Int.toNat (108 + l1))), xi (-1), xi 4, none] [] g1 w1))) :
    aMo_leaveWarm d lim Q 0 [xr l0, xi l1, none, none, none, none] [] g w := xAt_exec (cal_m d) kMo_leaveWarm 17 t
set_option maxRecDepth 20000 in
theorem wMo_leaveWarm_24 {d : Nat} {lim : Nat × Nat} {Q : xQ} {l1 l2 l3 l4 : Int} {l0 : Nat} {g : xG} {w : xW} (t : 
  ((l4 ≤ 0) → xIs g l0 (0, 7) ∧ x32 (108 + l1) ∧ 
    ((¬ l3 = (-1)) → xA1 g (g.2 l0 0) (108 + l1) ∧ Q none g (xup w (g.2 l0 0) (Int.toNat (108 + l1)) l3)) ∧
    ((l3 = (-1)) → xA1 g (g.2 l0 0) (108 + l1) ∧ Q none g (xup w (g.2 l0 0) (Int.toNat (108 + l1)) l2))) ∧
  ((0 < l4) → xIs g l0 (0, 7) ∧ 
    cal d nMo_way [xr l0, xi l2, xi l4] g w (fun r g1 w1 => ∃ v1 : Int, r = some (xi v1) ∧ 
      ((v1 = (-1)) → x32 (l4 + (-1)) ∧ aMo_leaveWarm d lim Q 24 [xr l0, xi l1, xi l2, xi l3, xi (l4 + (-1)), none] [] g1 w1) ∧
      ((¬ v1 = (-1)) → xIs g1 l0 (0, 7) ∧ 
        cal d nMo_isOwedFor [xr l0, xi l1, xi v1] g1 w1 (fun r g2 w2 => ∃ v2 : Int, r = some (xi v2) ∧ 
          ((¬ v2 = 0) → x32 (l4 + (-1)) ∧ aMo_leaveWarm d lim Q 24 [xr l0, xi l1, xi l2, xi l3, xi (l4 + (-1)), none] [] g2 w2) ∧
          ((v2 = 0) → x32 (l4 + (-1)) ∧ aMo_leaveWarm d lim Q 24 [xr l0, xi l1, xi l2, xi v1, xi (l4 + (-1)), none] [] g2 w2)))))) :
    aMo_leaveWarm d lim Q 24 [xr l0, xi l1, xi l2, xi l3, xi l4, none] [] g w := xAt_exec (cal_m d) kMo_leaveWarm 21 t
theorem eMo_leaveWarm {d : Nat} {Q : xQ} {l1 : Int} {l0 : Nat} {g : xG} {w : xW} (t : ∀ (lim : Nat × Nat) (Q2 : xQ), (∀ r g2 w2, g2.1 = g.1 → Q r g2 w2 → Q2 r g2 w2) → aMo_leaveWarm d lim Q2 0 [xr l0, xi l1, none, none, none, none] [] g w) : cal (d + 1) nMo_leaveWarm [xr l0, xi l1] g w Q := t _ _ xQof
abbrev aMo_coldBy (d : Nat) (lim : Nat × Nat) (Q : xQ) : xK := xAt xMks tMo_coldBy (cal d) lim Q
def kMo_coldBy : List (Nat × List Bool) := [(13, [true, false, true, false, false]), (24, [true, false, true, true, false]), (32, [true, false, true, true, true]), (68, [true, false, false, true, true])]
set_option maxRecDepth 20000 in
theorem wMo_coldBy_0 {d : Nat} {lim : Nat × Nat} {Q : xQ} {l1 l2 : Int} {l0 : Nat} {g : xG} {w : xW} (t : xIs g l0 (0, 7) ∧ 
  cal d nMo_start [xr l0] g w (fun r g1 w1 => r = none ∧ xIs g1 l0 (0, 7) ∧ xA1 g1 (g1.2 l0 0) 138 ∧ aMo_coldBy d lim Q 13 [xr l0, none, xi l2, none, none] [] g1 (xup w1 (g1.2 l0 0) (Int.toNat 138) l1))) :
    aMo_coldBy d lim Q 0 [xr l0, xi l1, xi l2, none, none] [] g w := xAt_exec (cal_m d) kMo_coldBy 8 t
set_option maxRecDepth 20000 in
theorem wMo_coldBy_13 {d : Nat} {lim : Nat × Nat} {Q : xQ} {l2 : Int} {l0 : Nat} {g : xG} {w : xW} (t : xIs g l0 (0, 7) ∧ xA1 g (g.2 l0 0) 142 ∧ aMo_coldBy d lim Q 24 [xr l0, none, xi l2, xi 0, none] [] g (xup w (g.2 l0 0) (Int.toNat 142) 0)) :
    aMo_coldBy d lim Q 13 [xr l0, none, xi l2, none, none] [] g w := xAt_exec (cal_m d) kMo_coldBy 8 t
set_option maxRecDepth 20000 in
theorem wMo_coldBy_24 {d : Nat} {lim : Nat × Nat} {Q : xQ} {l2 l3 : Int} {l0 : Nat} {g : xG} {w : xW} (t : 
  ((l2 ≤ l3) → aMo_coldBy d lim Q 68 [xr l0, none, none, xi 0, xi 0] [] g w) ∧
  ((l3 < l2) → aMo_coldBy d lim Q 32 [xr l0, none, xi l2, xi l3, xi 0] [] g w)) :
    aMo_coldBy d lim Q 24 [xr l0, none, xi l2, xi l3, none] [] g w := xAt_exec (cal_m d) kMo_coldBy 8 t
set_option maxRecDepth 20000 in
theorem wMo_coldBy_32 {d : Nat} {lim : Nat × Nat} {Q : xQ} {l2 l3 l4 : Int} {l0 : Nat} {g : xG} {w : xW} (t : xIs g l0 (0, 7) ∧ 
  (((w l0 13) ≤ l4) → xIs g l0 (0, 7) ∧ 
    cal d nMo_goMinute [xr l0] g w (fun r g1 w1 => r = none ∧ x32 (l3 + 1) ∧ aMo_coldBy d lim Q 24 [xr l0, none, xi l2, xi (l3 + 1), none] [] g1 w1)) ∧
  ((l4 < (w l0 13)) → xIs g l0 (0, 7) ∧ 
    cal d nMo_leaveWarm [xr l0, xi l4] g w (fun r g2 w2 => r = none ∧ x32 (l4 + 1) ∧ aMo_coldBy d lim Q 32 [xr l0, none, xi l2, xi l3, xi (l4 + 1)] [] g2 w2))) :
    aMo_coldBy d lim Q 32 [xr l0, none, xi l2, xi l3, xi l4] [] g w := xAt_exec (cal_m d) kMo_coldBy 10 t
set_option maxRecDepth 20000 in
theorem wMo_coldBy_68 {d : Nat} {lim : Nat × Nat} {Q : xQ} {l3 l4 : Int} {l0 : Nat} {g : xG} {w : xW} (t : xIs g l0 (0, 7) ∧ 
  (((w l0 13) ≤ l4) → xIs g l0 (0, 7) ∧ 
    cal d nMo_back [xr l0] g w (fun r g1 w1 => r = none ∧ Q (some (xi l3)) g1 w1)) ∧
  ((l4 < (w l0 13)) → xIs g l0 (0, 7) ∧ xAr g (g.2 l0 0) 142 ∧ x32 (l3 + (xAnd (xShr (w (g.2 l0 0) (Int.toNat 142)) l4) 1)) ∧ x32 (l4 + 1) ∧ aMo_coldBy d lim Q 68 [xr l0, none, none, xi (l3 + (xAnd (xShr (w (g.2 l0 0) (Int.toNat 142)) l4) 1)), xi (l4 + 1)] [] g w)) :
    aMo_coldBy d lim Q 68 [xr l0, none, none, xi l3, xi l4] [] g w := xAt_exec (cal_m d) kMo_coldBy 18 t
theorem eMo_coldBy {d : Nat} {Q : xQ} {l1 l2 : Int} {l0 : Nat} {g : xG} {w : xW} (t : ∀ (lim : Nat × Nat) (Q2 : xQ), (∀ r g2 w2, g2.1 = g.1 → Q r g2 w2 → Q2 r g2 w2) → aMo_coldBy d lim Q2 0 [xr l0, xi l1, xi l2, none, none] [] g w) : cal (d + 1) nMo_coldBy [xr l0, xi l1, xi l2] g w Q := t _ _ xQof
abbrev aMo_cold (d : Nat) (lim : Nat × Nat) (Q : xQ) : xK := xAt xMks tMo_cold (cal d) lim Q
def kMo_cold : List (Nat × List Bool) := []
set_option maxRecDepth 20000 in
theorem wMo_cold_0 {d : Nat} {lim : Nat × Nat} {Q : xQ} {l1 l2 : Int} {l0 : Nat} {g : xG} {w : xW} (t : 
  cal d nMo_in [xl l1, xl 0, xl 3] g w (fun r g1 w1 => ∃ v1 : Int, r = some (xi v1) ∧ 
    ((v1 = 0) → Q (some (xi (-1000000002))) g1 w1) ∧
    ((¬ v1 = 0) → 
      cal d nMo_in [xl l2, xl 1, xl 60] g1 w1 (fun r g2 w2 => ∃ v2 : Int, r = some (xi v2) ∧ 
        ((v2 = 0) → Q (some (xi (-1000000002))) g2 w2) ∧
        ((¬ v2 = 0) → xIs g2 l0 (0, 7) ∧ 
          cal d nMo_coldBy [xr l0, xi l1, xi l2] g2 w2 (fun r g3 w3 => ∃ v3 : Int, r = some (xi v3) ∧ Q (some (xi v3)) g3 w3)))))) :
    aMo_cold d lim Q 0 [xr l0, xi l1, xi l2] [] g w := xAt_exec (cal_m d) kMo_cold 19 t
theorem eMo_cold {d : Nat} {Q : xQ} {l1 l2 : Int} {l0 : Nat} {g : xG} {w : xW} (t : ∀ (lim : Nat × Nat) (Q2 : xQ), (∀ r g2 w2, g2.1 = g.1 → Q r g2 w2 → Q2 r g2 w2) → aMo_cold d lim Q2 0 [xr l0, xi l1, xi l2] [] g w) : cal (d + 1) nMo_cold [xr l0, xi l1, xi l2] g w Q := t _ _ xQof
abbrev aMo_mildest (d : Nat) (lim : Nat × Nat) (Q : xQ) : xK := xAt xMks tMo_mildest (cal d) lim Q
def kMo_mildest : List (Nat × List Bool) := [(19, [true, true, true, true])]
set_option maxRecDepth 20000 in
theorem wMo_mildest_0 {d : Nat} {lim : Nat × Nat} {Q : xQ} {l1 : Int} {l0 : Nat} {g : xG} {w : xW} (t : 
  cal d nMo_in [xl l1, xl 1, xl 60] g w (fun r g1 w1 => ∃ v1 : Int, r = some (xi v1) ∧ 
    ((¬ v1 = 0) → aMo_mildest d lim Q 19 [xr l0, xi l1, xi 0, xi 1] [] g1 w1) ∧
    ((v1 = 0) → Q (some (xi (-1000000002))) g1 w1))) :
    aMo_mildest d lim Q 0 [xr l0, xi l1, none, none] [] g w := xAt_exec (cal_m d) kMo_mildest 11 t
set_option maxRecDepth 20000 in
theorem wMo_mildest_19 {d : Nat} {lim : Nat × Nat} {Q : xQ} {l1 l2 l3 : Int} {l0 : Nat} {g : xG} {w : xW} (t : 
  ((4 ≤ l3) → Q (some (xi l2)) g w) ∧
  ((l3 < 4) → xIs g l0 (0, 7) ∧ 
    cal d nMo_coldBy [xr l0, xi l3, xi l1] g w (fun r g1 w1 => ∃ v1 : Int, r = some (xi v1) ∧ xIs g1 l0 (0, 7) ∧ 
      cal d nMo_coldBy [xr l0, xi l2, xi l1] g1 w1 (fun r g2 w2 => ∃ v2 : Int, r = some (xi v2) ∧ 
        ((v2 ≤ v1) → x32 (l3 + 1) ∧ aMo_mildest d lim Q 19 [xr l0, xi l1, xi l2, xi (l3 + 1)] [] g2 w2) ∧
        ((v1 < v2) → x32 (l3 + 1) ∧ aMo_mildest d lim Q 19 [xr l0, xi l1, xi l3, xi (l3 + 1)] [] g2 w2))))) :
    aMo_mildest d lim Q 19 [xr l0, xi l1, xi l2, xi l3] [] g w := xAt_exec (cal_m d) kMo_mildest 18 t
theorem eMo_mildest {d : Nat} {Q : xQ} {l1 : Int} {l0 : Nat} {g : xG} {w : xW} (t : ∀ (lim : Nat × Nat) (Q2 : xQ), (∀ r g2 w2, g2.1 = g.1 → Q r g2 w2 → Q2 r g2 w2) → aMo_mildest d lim Q2 0 [xr l0, xi l1, none, none] [] g w) : cal (d + 1) nMo_mildest [xr l0, xi l1] g w Q := t _ _ xQof
abbrev aMo_deed (d : Nat) (lim : Nat × Nat) (Q : xQ) : xK := xAt xMks tMo_deed (cal d) lim Q
def kMo_deed : List (Nat × List Bool) := [(61, [true, false, false, true, true]), (72, [true, false, false, true, false]), (82, [true, false, false, false, false])]
set_option maxRecDepth 20000 in
theorem wMo_deed_0 {d : Nat} {lim : Nat × Nat} {Q : xQ} {l1 l2 l3 : Int} {l0 : Nat} {g : xG} {w : xW} (t : xIs g l0 (0, 7) ∧ 
  cal d nMo_cellOf [xr l0, xi l2] g w (fun r g1 w1 => ∃ v1 : Int, r = some (xi v1) ∧ xIs g1 l0 (0, 7) ∧ 
    cal d nMo_isPerson [xr l0, xi l1] g1 w1 (fun r g2 w2 => ∃ v2 : Int, r = some (xi v2) ∧ 
      ((v2 = 0) → Q (some (xi (-1000000001))) g2 w2) ∧
      ((¬ v2 = 0) → 
        ((¬ v1 = (-1)) → 
          cal d nMo_in [xl l3, xl 1, xl 60] g2 w2 (fun r g3 w3 => ∃ v3 : Int, r = some (xi v3) ∧ 
            ((¬ v3 = 0) → xIs g3 l0 (0, 7) ∧ 
              ((¬ (w3 l0 20) = 8) → xIs g3 l0 (0, 7) ∧ xIs g3 l0 (0, 7) ∧ xA1 g3 (g3.2 l0 21) (w3 l0 20) ∧ aMo_deed d lim Q 61 [xr l0, none, none, xi l3, xi v1] [] g3 (xup w3 (g3.2 l0 21) (Int.toNat (w3 l0 20)) l1)) ∧
              (((w3 l0 20) = 8) → Q (some (xi (-1000000004))) g3 w3)) ∧
            ((v3 = 0) → Q (some (xi (-1000000002))) g3 w3))) ∧
        ((v1 = (-1)) → Q (some (xi (-1000000001))) g2 w2))))) :
    aMo_deed d lim Q 0 [xr l0, xi l1, xi l2, xi l3, none] [] g w := xAt_exec (cal_m d) kMo_deed 28 t
set_option maxRecDepth 20000 in
theorem wMo_deed_61 {d : Nat} {lim : Nat × Nat} {Q : xQ} {l3 l4 : Int} {l0 : Nat} {g : xG} {w : xW} (t : xIs g l0 (0, 7) ∧ xIs g l0 (0, 7) ∧ xA1 g (g.2 l0 22) (w l0 20) ∧ aMo_deed d lim Q 72 [xr l0, none, none, xi l3, none] [] g (xup w (g.2 l0 22) (Int.toNat (w l0 20)) l4)) :
    aMo_deed d lim Q 61 [xr l0, none, none, xi l3, xi l4] [] g w := xAt_exec (cal_m d) kMo_deed 7 t
set_option maxRecDepth 20000 in
theorem wMo_deed_72 {d : Nat} {lim : Nat × Nat} {Q : xQ} {l3 : Int} {l0 : Nat} {g : xG} {w : xW} (t : xIs g l0 (0, 7) ∧ xIs g l0 (0, 7) ∧ xA1 g (g.2 l0 23) (w l0 20) ∧ aMo_deed d lim Q 82 [xr l0, none, none, none, none] [] g (xup w (g.2 l0 23) (Int.toNat (w l0 20)) l3)) :
    aMo_deed d lim Q 72 [xr l0, none, none, xi l3, none] [] g w := xAt_exec (cal_m d) kMo_deed 7 t
set_option maxRecDepth 20000 in
theorem wMo_deed_82 {d : Nat} {lim : Nat × Nat} {Q : xQ} {l0 : Nat} {g : xG} {w : xW} (t : xIs g l0 (0, 7) ∧ x32 ((w l0 20) + 1) ∧ xIs g l0 (0, 7) ∧ xIs g l0 (0, 7) ∧ Q (some (xi ((xup w l0 20 ((w l0 20) + 1)) l0 20))) g (xup w l0 20 ((w l0 20) + 1))) :
    aMo_deed d lim Q 82 [xr l0, none, none, none, none] [] g w := xAt_exec (cal_m d) kMo_deed 10 t
theorem eMo_deed {d : Nat} {Q : xQ} {l1 l2 l3 : Int} {l0 : Nat} {g : xG} {w : xW} (t : ∀ (lim : Nat × Nat) (Q2 : xQ), (∀ r g2 w2, g2.1 = g.1 → Q r g2 w2 → Q2 r g2 w2) → aMo_deed d lim Q2 0 [xr l0, xi l1, xi l2, xi l3, none] [] g w) : cal (d + 1) nMo_deed [xr l0, xi l1, xi l2, xi l3] g w Q := t _ _ xQof
abbrev aMo_areDeeds (d : Nat) (lim : Nat × Nat) (Q : xQ) : xK := xAt xMks tMo_areDeeds (cal d) lim Q
def kMo_areDeeds : List (Nat × List Bool) := [(5, [true, true, true, true, true, false]), (43, [true, true, true, true, true, false]), (51, [true, true, true, true, true, true]), (121, [true, false, false, true, false, false])]
set_option maxRecDepth 20000 in
theorem wMo_areDeeds_0 {d : Nat} {lim : Nat × Nat} {Q : xQ} {l1 l2 : Int} {l0 : Nat} {g : xG} {w : xW} (t : aMo_areDeeds d lim Q 5 [xr l0, xi l1, xi l2, xi 1, xi 0, none] [] g w) :
    aMo_areDeeds d lim Q 0 [xr l0, xi l1, xi l2, none, none, none] [] g w := xAt_exec (cal_m d) kMo_areDeeds 5 t
set_option maxRecDepth 20000 in
theorem wMo_areDeeds_5 {d : Nat} {lim : Nat × Nat} {Q : xQ} {l1 l2 l3 l4 : Int} {l0 : Nat} {g : xG} {w : xW} (t : 
  ((60 ≤ l4) → aMo_areDeeds d lim Q 121 [xr l0, none, none, xi l3, none, none] [] g w) ∧
  ((l4 < 60) → 
    ((l3 = 0) → aMo_areDeeds d lim Q 121 [xr l0, none, none, xi l3, none, none] [] g w) ∧
    ((¬ l3 = 0) → xIs g l0 (0, 7) ∧ x32 (104 + l1) ∧ 
      ((¬ l4 = l2) → xIs g l0 (0, 7) ∧ x32 (104 + l1) ∧ xAr g (g.2 l0 0) (104 + l1) ∧ aMo_areDeeds d lim Q 43 [xr l0, xi l1, xi l2, xi l3, xi l4, none] [xi (w (g.2 l0 0) (Int.toNat (104 + l1))), xi (104 + l1), xr (g.2 l0 0)] g w) ∧
      ((l4 = l2) → aMo_areDeeds d lim Q 43 [xr l0, xi l1, xi l2, xi l3, xi l4, none] [xi 1, xi (104 + l1), xr (g.2 l0 0)] g w)))) :
    aMo_areDeeds d lim Q 5 [xr l0, xi l1, xi l2, xi l3, xi l4, none] [] g w := xAt_exec (cal_m d) kMo_areDeeds 20 t
set_option maxRecDepth 20000 in
theorem wMo_areDeeds_43 {d : Nat} {lim : Nat × Nat} {Q : xQ} {l1 l2 l3 l4 s1 s2 : Int} {l0 s0 : Nat} {g : xG} {w : xW} (t : xA1 g s0 s1 ∧ xIs g l0 (0, 7) ∧ 
  cal d nMo_goMinute [xr l0] g (xup w s0 (Int.toNat s1) s2) (fun r g1 w1 => r = none ∧ aMo_areDeeds d lim Q 51 [xr l0, xi l1, xi l2, xi l3, xi l4, xi 0] [] g1 w1)) :
    aMo_areDeeds d lim Q 43 [xr l0, xi l1, xi l2, xi l3, xi l4, none] [xi s2, xi s1, xr s0] g w := xAt_exec (cal_m d) kMo_areDeeds 6 t
set_option maxRecDepth 20000 in
theorem wMo_areDeeds_51 {d : Nat} {lim : Nat × Nat} {Q : xQ} {l1 l2 l3 l4 l5 : Int} {l0 : Nat} {g : xG} {w : xW} (t : xIs g l0 (0, 7) ∧ 
  (((w l0 20) ≤ l5) → x32 (l4 + 1) ∧ aMo_areDeeds d lim Q 5 [xr l0, xi l1, xi l2, xi l3, xi (l4 + 1), none] [] g w) ∧
  ((l5 < (w l0 20)) → 
    ((l3 = 0) → x32 (l5 + 1) ∧ aMo_areDeeds d lim Q 51 [xr l0, xi l1, xi l2, xi 0, xi l4, xi (l5 + 1)] [] g w) ∧
    ((¬ l3 = 0) → xIs g l0 (0, 7) ∧ xAr g (g.2 l0 23) l5 ∧ x32 (l4 + 1) ∧ 
      ((¬ (w (g.2 l0 23) (Int.toNat l5)) = (l4 + 1)) → x32 (l5 + 1) ∧ aMo_areDeeds d lim Q 51 [xr l0, xi l1, xi l2, xi 1, xi l4, xi (l5 + 1)] [] g w) ∧
      (((w (g.2 l0 23) (Int.toNat l5)) = (l4 + 1)) → xIs g l0 (0, 7) ∧ xIs g l0 (0, 7) ∧ xAr g (g.2 l0 22) l5 ∧ x32 (60 + (w (g.2 l0 22) (Int.toNat l5))) ∧ xAr g (g.2 l0 0) (60 + (w (g.2 l0 22) (Int.toNat l5))) ∧ xIs g l0 (0, 7) ∧ xAr g (g.2 l0 21) l5 ∧ 
        ((¬ (w (g.2 l0 0) (Int.toNat (60 + (w (g.2 l0 22) (Int.toNat l5))))) = (w (g.2 l0 21) (Int.toNat l5))) → x32 (l5 + 1) ∧ aMo_areDeeds d lim Q 51 [xr l0, xi l1, xi l2, xi 0, xi l4, xi (l5 + 1)] [] g w) ∧
        (((w (g.2 l0 0) (Int.toNat (60 + (w (g.2 l0 22) (Int.toNat l5))))) = (w (g.2 l0 21) (Int.toNat l5))) → x32 (l5 + 1) ∧ aMo_areDeeds d lim Q 51 [xr l0, xi l1, xi l2, xi 1, xi l4, xi (l5 + 1)] [] g w))))) :
    aMo_areDeeds d lim Q 51 [xr l0, xi l1, xi l2, xi l3, xi l4, xi l5] [] g w := xAt_exec (cal_m d) kMo_areDeeds 34 t
set_option maxRecDepth 20000 in
theorem wMo_areDeeds_121 {d : Nat} {lim : Nat × Nat} {Q : xQ} {l3 : Int} {l0 : Nat} {g : xG} {w : xW} (t : xIs g l0 (0, 7) ∧ 
  cal d nMo_back [xr l0] g w (fun r g1 w1 => r = none ∧ ((l3 : Int) = 0 ∨ (l3 : Int) = 1) ∧ Q (some (xi l3)) g1 w1)) :
    aMo_areDeeds d lim Q 121 [xr l0, none, none, xi l3, none, none] [] g w := xAt_exec (cal_m d) kMo_areDeeds 5 t
theorem eMo_areDeeds {d : Nat} {Q : xQ} {l1 l2 : Int} {l0 : Nat} {g : xG} {w : xW} (t : ∀ (lim : Nat × Nat) (Q2 : xQ), (∀ r g2 w2, g2.1 = g.1 → Q r g2 w2 → Q2 r g2 w2) → aMo_areDeeds d lim Q2 0 [xr l0, xi l1, xi l2, none, none, none] [] g w) : cal (d + 1) nMo_areDeeds [xr l0, xi l1, xi l2] g w Q := t _ _ xQof
abbrev aMo_wasLit (d : Nat) (lim : Nat × Nat) (Q : xQ) : xK := xAt xMks tMo_wasLit (cal d) lim Q
def kMo_wasLit : List (Nat × List Bool) := [(35, [true, true, true, true, true, true])]
set_option maxRecDepth 20000 in
theorem wMo_wasLit_0 {d : Nat} {lim : Nat × Nat} {Q : xQ} {l1 l2 : Int} {l0 : Nat} {g : xG} {w : xW} (t : xIs g l0 (0, 7) ∧ 
  cal d nMo_isStove [xr l0, xi l1] g w (fun r g1 w1 => ∃ v1 : Int, r = some (xi v1) ∧ 
    ((¬ v1 = 0) → xIs g1 l0 (0, 7) ∧ 
      cal d nMo_canBeLit [xr l0, xi l1] g1 w1 (fun r g2 w2 => ∃ v2 : Int, r = some (xi v2) ∧ 
        ((¬ v2 = 0) → xIs g2 l0 (0, 7) ∧ 
          cal d nMo_start [xr l0] g2 w2 (fun r g3 w3 => r = none ∧ aMo_wasLit d lim Q 35 [xr l0, xi l1, xi l2, xi 0, xi (-1), xi 0] [] g3 w3)) ∧
        ((v2 = 0) → Q (some (xi (-1000000003))) g2 w2))) ∧
    ((v1 = 0) → Q (some (xi (-1000000001))) g1 w1))) :
    aMo_wasLit d lim Q 0 [xr l0, xi l1, xi l2, none, none, none] [] g w := xAt_exec (cal_m d) kMo_wasLit 17 t
set_option maxRecDepth 20000 in
theorem wMo_wasLit_35 {d : Nat} {lim : Nat × Nat} {Q : xQ} {l1 l2 l3 l4 l5 : Int} {l0 : Nat} {g : xG} {w : xW} (t : 
  ((60 ≤ l5) → 
    ((¬ l2 = (-1)) → Q (some (xi l4)) g w) ∧
    ((l2 = (-1)) → Q (some (xi l3)) g w)) ∧
  ((l5 < 60) → xIs g l0 (0, 7) ∧ 
    cal d nMo_areDeeds [xr l0, xi l1, xi l5] g w (fun r g1 w1 => ∃ v1 : Int, r = some (xi v1) ∧ 
      ((v1 = 0) → x32 (l5 + 1) ∧ aMo_wasLit d lim Q 35 [xr l0, xi l1, xi l2, xi l3, xi l4, xi (l5 + 1)] [] g1 w1) ∧
      ((¬ v1 = 0) → 
        ((¬ l3 = l2) → x32 (l3 + 1) ∧ x32 (l5 + 1) ∧ aMo_wasLit d lim Q 35 [xr l0, xi l1, xi l2, xi (l3 + 1), xi l4, xi (l5 + 1)] [] g1 w1) ∧
        ((l3 = l2) → x32 (l3 + 1) ∧ x32 (l5 + 1) ∧ aMo_wasLit d lim Q 35 [xr l0, xi l1, xi l2, xi (l3 + 1), xi l5, xi (l5 + 1)] [] g1 w1))))) :
    aMo_wasLit d lim Q 35 [xr l0, xi l1, xi l2, xi l3, xi l4, xi l5] [] g w := xAt_exec (cal_m d) kMo_wasLit 18 t
theorem eMo_wasLit {d : Nat} {Q : xQ} {l1 l2 : Int} {l0 : Nat} {g : xG} {w : xW} (t : ∀ (lim : Nat × Nat) (Q2 : xQ), (∀ r g2 w2, g2.1 = g.1 → Q r g2 w2 → Q2 r g2 w2) → aMo_wasLit d lim Q2 0 [xr l0, xi l1, xi l2, none, none, none] [] g w) : cal (d + 1) nMo_wasLit [xr l0, xi l1, xi l2] g w Q := t _ _ xQof
abbrev aMo_tear (d : Nat) (lim : Nat × Nat) (Q : xQ) : xK := xAt xMks tMo_tear (cal d) lim Q
def kMo_tear : List (Nat × List Bool) := [(15, [true, true])]
set_option maxRecDepth 20000 in
theorem wMo_tear_0 {d : Nat} {lim : Nat × Nat} {Q : xQ} {l0 : Nat} {g : xG} {w : xW} (t : xIs g l0 (0, 7) ∧ xIs g l0 (0, 7) ∧ x32 ((w l0 16) + (w l0 20)) ∧ xIs g l0 (0, 7) ∧ aMo_tear d lim Q 15 [xr l0, xi ((w l0 16) + (w l0 20))] [] g (xup w l0 16 0)) :
    aMo_tear d lim Q 0 [xr l0, none] [] g w := xAt_exec (cal_m d) kMo_tear 10 t
set_option maxRecDepth 20000 in
theorem wMo_tear_15 {d : Nat} {lim : Nat × Nat} {Q : xQ} {l1 : Int} {l0 : Nat} {g : xG} {w : xW} (t : xIs g l0 (0, 7) ∧ Q (some (xi l1)) g (xup w l0 20 0)) :
    aMo_tear d lim Q 15 [xr l0, xi l1] [] g w := xAt_exec (cal_m d) kMo_tear 6 t
theorem eMo_tear {d : Nat} {Q : xQ} {l0 : Nat} {g : xG} {w : xW} (t : ∀ (lim : Nat × Nat) (Q2 : xQ), (∀ r g2 w2, g2.1 = g.1 → Q r g2 w2 → Q2 r g2 w2) → aMo_tear d lim Q2 0 [xr l0, none] [] g w) : cal (d + 1) nMo_tear [xr l0] g w Q := t _ _ xQof
abbrev aMo_seed (d : Nat) (lim : Nat × Nat) (Q : xQ) : xK := xAt xMks tMo_seed (cal d) lim Q
def kMo_seed : List (Nat × List Bool) := []
set_option maxRecDepth 20000 in
theorem wMo_seed_0 {d : Nat} {lim : Nat × Nat} {Q : xQ} {l1 : Int} {l0 : Nat} {g : xG} {w : xW} (t : 
  ((0 ≤ l1) → xIs g l0 (0, 7) ∧ xAr g (g.2 l0 0) 141 ∧ xIs g l0 (0, 7) ∧ xA1 g (g.2 l0 0) 141 ∧ Q (some (xi (w (g.2 l0 0) (Int.toNat 141)))) g (xup w (g.2 l0 0) (Int.toNat 141) l1)) ∧
  ((l1 < 0) → Q (some (xi (-1000000002))) g w)) :
    aMo_seed d lim Q 0 [xr l0, xi l1, none] [] g w := xAt_exec (cal_m d) kMo_seed 15 t
theorem eMo_seed {d : Nat} {Q : xQ} {l1 : Int} {l0 : Nat} {g : xG} {w : xW} (t : ∀ (lim : Nat × Nat) (Q2 : xQ), (∀ r g2 w2, g2.1 = g.1 → Q r g2 w2 → Q2 r g2 w2) → aMo_seed d lim Q2 0 [xr l0, xi l1, none] [] g w) : cal (d + 1) nMo_seed [xr l0, xi l1] g w Q := t _ _ xQof
abbrev aMo_keep (d : Nat) (lim : Nat × Nat) (Q : xQ) : xK := xAt xMks tMo_keep (cal d) lim Q
def kMo_keep : List (Nat × List Bool) := [(15, [true, true, true])]
set_option maxRecDepth 20000 in
theorem wMo_keep_0 {d : Nat} {lim : Nat × Nat} {Q : xQ} {l1 : Int} {l0 : Nat} {g : xG} {w : xW} (t : 
  cal d nMo_in [xl l1, xl 0, xl 1] g w (fun r g1 w1 => ∃ v1 : Int, r = some (xi v1) ∧ 
    ((¬ v1 = 0) → aMo_keep d lim Q 15 [xr l0, xi l1, xi 0] [] g1 w1) ∧
    ((v1 = 0) → Q (some (xi (-1000000001))) g1 w1))) :
    aMo_keep d lim Q 0 [xr l0, xi l1, none] [] g w := xAt_exec (cal_m d) kMo_keep 9 t
set_option maxRecDepth 20000 in
theorem wMo_keep_15 {d : Nat} {lim : Nat × Nat} {Q : xQ} {l1 l2 : Int} {l0 : Nat} {g : xG} {w : xW} (t : 
  ((143 ≤ l2) → xIs g l0 (0, 7) ∧ (xA2 g (g.2 l0 2) l1 ∧ ((1 : Int) = 0 ∨ (1 : Int) = 1)) ∧ Q (some (xi 1)) g (xup w (g.2 l0 2) (Int.toNat l1) 1)) ∧
  ((l2 < 143) → xIs g l0 (0, 7) ∧ x32 (143 * l1) ∧ x32 ((143 * l1) + l2) ∧ xIs g l0 (0, 7) ∧ xAr g (g.2 l0 0) l2 ∧ xA1 g (g.2 l0 1) ((143 * l1) + l2) ∧ x32 (l2 + 1) ∧ aMo_keep d lim Q 15 [xr l0, xi l1, xi (l2 + 1)] [] g (xup w (g.2 l0 1) (Int.toNat ((143 * l1) + l2)) (w (g.2 l0 0) (Int.toNat l2))))) :
    aMo_keep d lim Q 15 [xr l0, xi l1, xi l2] [] g w := xAt_exec (cal_m d) kMo_keep 18 t
theorem eMo_keep {d : Nat} {Q : xQ} {l1 : Int} {l0 : Nat} {g : xG} {w : xW} (t : ∀ (lim : Nat × Nat) (Q2 : xQ), (∀ r g2 w2, g2.1 = g.1 → Q r g2 w2 → Q2 r g2 w2) → aMo_keep d lim Q2 0 [xr l0, xi l1, none] [] g w) : cal (d + 1) nMo_keep [xr l0, xi l1] g w Q := t _ _ xQof
abbrev aMo_goBack (d : Nat) (lim : Nat × Nat) (Q : xQ) : xK := xAt xMks tMo_goBack (cal d) lim Q
def kMo_goBack : List (Nat × List Bool) := [(28, [true, true, true])]
set_option maxRecDepth 20000 in
theorem wMo_goBack_0 {d : Nat} {lim : Nat × Nat} {Q : xQ} {l1 : Int} {l0 : Nat} {g : xG} {w : xW} (t : 
  cal d nMo_in [xl l1, xl 0, xl 1] g w (fun r g1 w1 => ∃ v1 : Int, r = some (xi v1) ∧ 
    ((¬ v1 = 0) → xIs g1 l0 (0, 7) ∧ xA2 g1 (g1.2 l0 2) l1 ∧ 
      ((¬ (w1 (g1.2 l0 2) (Int.toNat l1)) = 0) → aMo_goBack d lim Q 28 [xr l0, xi l1, xi 0] [] g1 w1) ∧
      (((w1 (g1.2 l0 2) (Int.toNat l1)) = 0) → Q (some (xi (-1000000003))) g1 w1)) ∧
    ((v1 = 0) → Q (some (xi (-1000000001))) g1 w1))) :
    aMo_goBack d lim Q 0 [xr l0, xi l1, none] [] g w := xAt_exec (cal_m d) kMo_goBack 14 t
set_option maxRecDepth 20000 in
theorem wMo_goBack_28 {d : Nat} {lim : Nat × Nat} {Q : xQ} {l1 l2 : Int} {l0 : Nat} {g : xG} {w : xW} (t : 
  ((143 ≤ l2) → Q (some (xi 1)) g w) ∧
  ((l2 < 143) → xIs g l0 (0, 7) ∧ xIs g l0 (0, 7) ∧ x32 (143 * l1) ∧ x32 ((143 * l1) + l2) ∧ xAr g (g.2 l0 1) ((143 * l1) + l2) ∧ xA1 g (g.2 l0 0) l2 ∧ x32 (l2 + 1) ∧ aMo_goBack d lim Q 28 [xr l0, xi l1, xi (l2 + 1)] [] g (xup w (g.2 l0 0) (Int.toNat l2) (w (g.2 l0 1) (Int.toNat ((143 * l1) + l2)))))) :
    aMo_goBack d lim Q 28 [xr l0, xi l1, xi l2] [] g w := xAt_exec (cal_m d) kMo_goBack 18 t
theorem eMo_goBack {d : Nat} {Q : xQ} {l1 : Int} {l0 : Nat} {g : xG} {w : xW} (t : ∀ (lim : Nat × Nat) (Q2 : xQ), (∀ r g2 w2, g2.1 = g.1 → Q r g2 w2 → Q2 r g2 w2) → aMo_goBack d lim Q2 0 [xr l0, xi l1, none] [] g w) : cal (d + 1) nMo_goBack [xr l0, xi l1] g w Q := t _ _ xQof
