theorem xQof {g : xG} {Q : xQ} : ∀ (r : Option xV) (g2 : xG) (w2 : xW), g2.1 = g.1 → Q r g2 w2 → (xchk (0, 0) g g2 ∧ Q r g2 w2) := fun _ _ _ h q => ⟨⟨by rw [h]; rfl, by rw [h]; rfl⟩, q⟩

abbrev aMk_settle (d : Nat) (lim : Nat × Nat) (Q : xQ) : xK := xAt xMks tMk_settle (cal d) lim Q
def kMk_settle : List (Nat × List Bool) := [(10, [true, true, true, true])]
set_option maxRecDepth 20000 in
theorem wMk_settle_0 {d : Nat} {lim : Nat × Nat} {Q : xQ} {l0 l1 l2 : Nat} {g : xG} {w : xW} (t : xIs g l0 (0, 0) ∧ 
  cal d nJd_fill [xr (g.2 l0 0), xi 0] g w (fun r g1 w1 => r = none ∧ aMk_settle d lim Q 10 [xr l0, xr l1, xr l2, xi 0] [] g1 w1)) :
    aMk_settle d lim Q 0 [xr l0, xr l1, xr l2, none] [] g w := xAt_exec (cal_m d) kMk_settle 7 t
set_option maxRecDepth 20000 in
theorem wMk_settle_10 {d : Nat} {lim : Nat × Nat} {Q : xQ} {l3 : Int} {l0 l1 l2 : Nat} {g : xG} {w : xW} (t : 
  ((20 ≤ l3) → Q (some (xi (-1))) g w) ∧
  ((l3 < 20) → xIs g l0 (0, 0) ∧ 
    cal d nMk_askAnew [xr l0, xr l1, xr l2] g w (fun r g1 w1 => ∃ v1 : Int, r = some (xi v1) ∧ 
      ((¬ v1 = 0) → x32 (l3 + 1) ∧ aMk_settle d lim Q 10 [xr l0, xr l1, xr l2, xi (l3 + 1)] [] g1 w1) ∧
      ((v1 = 0) → Q (some (xi l3)) g1 w1)))) :
    aMk_settle d lim Q 10 [xr l0, xr l1, xr l2, xi l3] [] g w := xAt_exec (cal_m d) kMk_settle 11 t
theorem eMk_settle {d : Nat} {Q : xQ} {l0 l1 l2 : Nat} {g : xG} {w : xW} (t : ∀ (lim : Nat × Nat) (Q2 : xQ), (∀ r g2 w2, g2.1 = g.1 → Q r g2 w2 → Q2 r g2 w2) → aMk_settle d lim Q2 0 [xr l0, xr l1, xr l2, none] [] g w) : cal (d + 1) nMk_settle [xr l0, xr l1, xr l2] g w Q := t _ _ xQof
abbrev aMk_askAnew (d : Nat) (lim : Nat × Nat) (Q : xQ) : xK := xAt xMks tMk_askAnew (cal d) lim Q
def kMk_askAnew : List (Nat × List Bool) := [(5, [true, true, true, true, true, false]), (45, [true, true, true, false, true, true])]
set_option maxRecDepth 20000 in
theorem wMk_askAnew_0 {d : Nat} {lim : Nat × Nat} {Q : xQ} {l0 l1 l2 : Nat} {g : xG} {w : xW} (t : aMk_askAnew d lim Q 5 [xr l0, xr l1, xr l2, xi 0, xi 0, none] [] g w) :
    aMk_askAnew d lim Q 0 [xr l0, xr l1, xr l2, none, none, none] [] g w := xAt_exec (cal_m d) kMk_askAnew 5 t
set_option maxRecDepth 20000 in
theorem wMk_askAnew_5 {d : Nat} {lim : Nat × Nat} {Q : xQ} {l3 l4 : Int} {l0 l1 l2 : Nat} {g : xG} {w : xW} (t : xIs g l1 (0, 5) ∧ 
  (((w l1 5) ≤ l4) → ((l3 : Int) = 0 ∨ (l3 : Int) = 1) ∧ Q (some (xi l3)) g w) ∧
  ((l4 < (w l1 5)) → xIs g l0 (0, 0) ∧ 
    cal d nMk_bestRent [xr l0, xr l1, xr l2, xi l4] g w (fun r g1 w1 => ∃ v1 : Int, r = some (xi v1) ∧ 
      ((¬ l3 = 0) → aMk_askAnew d lim Q 45 [xr l0, xr l1, xr l2, none, xi l4, xi v1] [xi 1] g1 w1) ∧
      ((l3 = 0) → xIs g1 l0 (0, 0) ∧ xAr g1 (g1.2 l0 0) l4 ∧ 
        ((v1 = (w1 (g1.2 l0 0) (Int.toNat l4))) → aMk_askAnew d lim Q 45 [xr l0, xr l1, xr l2, none, xi l4, xi v1] [xi 0] g1 w1) ∧
        ((¬ v1 = (w1 (g1.2 l0 0) (Int.toNat l4))) → aMk_askAnew d lim Q 45 [xr l0, xr l1, xr l2, none, xi l4, xi v1] [xi 1] g1 w1))))) :
    aMk_askAnew d lim Q 5 [xr l0, xr l1, xr l2, xi l3, xi l4, none] [] g w := xAt_exec (cal_m d) kMk_askAnew 21 t
set_option maxRecDepth 20000 in
theorem wMk_askAnew_45 {d : Nat} {lim : Nat × Nat} {Q : xQ} {l4 l5 s0 : Int} {l0 l1 l2 : Nat} {g : xG} {w : xW} (t : xIs g l0 (0, 0) ∧ xA1 g (g.2 l0 0) l4 ∧ x32 (l4 + 1) ∧ aMk_askAnew d lim Q 5 [xr l0, xr l1, xr l2, xi s0, xi (l4 + 1), none] [] g (xup w (g.2 l0 0) (Int.toNat l4) l5)) :
    aMk_askAnew d lim Q 45 [xr l0, xr l1, xr l2, none, xi l4, xi l5] [xi s0] g w := xAt_exec (cal_m d) kMk_askAnew 9 t
theorem eMk_askAnew {d : Nat} {Q : xQ} {l0 l1 l2 : Nat} {g : xG} {w : xW} (t : ∀ (lim : Nat × Nat) (Q2 : xQ), (∀ r g2 w2, g2.1 = g.1 → Q r g2 w2 → Q2 r g2 w2) → aMk_askAnew d lim Q2 0 [xr l0, xr l1, xr l2, none, none, none] [] g w) : cal (d + 1) nMk_askAnew [xr l0, xr l1, xr l2] g w Q := t _ _ xQof
abbrev aMk_bestRent (d : Nat) (lim : Nat × Nat) (Q : xQ) : xK := xAt xMks tMk_bestRent (cal d) lim Q
def kMk_bestRent : List (Nat × List Bool) := [(9, [true, true, true, true, true, true, true, false])]
set_option maxRecDepth 20000 in
theorem wMk_bestRent_0 {d : Nat} {lim : Nat × Nat} {Q : xQ} {l3 : Int} {l0 l1 l2 : Nat} {g : xG} {w : xW} (t : aMk_bestRent d lim Q 9 [xr l0, xr l1, xr l2, xi l3, xi 0, xi 0, xi 1, none] [] g w) :
    aMk_bestRent d lim Q 0 [xr l0, xr l1, xr l2, xi l3, none, none, none, none] [] g w := xAt_exec (cal_m d) kMk_bestRent 7 t
set_option maxRecDepth 20000 in
theorem wMk_bestRent_9 {d : Nat} {lim : Nat × Nat} {Q : xQ} {l3 l4 l5 l6 : Int} {l0 l1 l2 : Nat} {g : xG} {w : xW} (t : 
  ((9 < l6) → Q (some (xi l4)) g w) ∧
  ((l6 ≤ 9) → xIs g l0 (0, 0) ∧ 
    cal d nMk_countLet [xr l0, xr l1, xr l2, xi l3, xi l6] g w (fun r g1 w1 => ∃ v1 : Int, r = some (xi v1) ∧ x32 (l6 * v1) ∧ 
      (((l6 * v1) ≤ l5) → x32 (l6 + 1) ∧ aMk_bestRent d lim Q 9 [xr l0, xr l1, xr l2, xi l3, xi l4, xi l5, xi (l6 + 1), none] [] g1 w1) ∧
      ((l5 < (l6 * v1)) → x32 (l6 + 1) ∧ aMk_bestRent d lim Q 9 [xr l0, xr l1, xr l2, xi l3, xi l6, xi (l6 * v1), xi (l6 + 1), none] [] g1 w1)))) :
    aMk_bestRent d lim Q 9 [xr l0, xr l1, xr l2, xi l3, xi l4, xi l5, xi l6, none] [] g w := xAt_exec (cal_m d) kMk_bestRent 22 t
theorem eMk_bestRent {d : Nat} {Q : xQ} {l3 : Int} {l0 l1 l2 : Nat} {g : xG} {w : xW} (t : ∀ (lim : Nat × Nat) (Q2 : xQ), (∀ r g2 w2, g2.1 = g.1 → Q r g2 w2 → Q2 r g2 w2) → aMk_bestRent d lim Q2 0 [xr l0, xr l1, xr l2, xi l3, none, none, none, none] [] g w) : cal (d + 1) nMk_bestRent [xr l0, xr l1, xr l2, xi l3] g w Q := t _ _ xQof
abbrev aMk_countLet (d : Nat) (lim : Nat × Nat) (Q : xQ) : xK := xAt xMks tMk_countLet (cal d) lim Q
def kMk_countLet : List (Nat × List Bool) := [(12, [true, true, true, true, true, true, true, true])]
set_option maxRecDepth 20000 in
theorem wMk_countLet_0 {d : Nat} {lim : Nat × Nat} {Q : xQ} {l3 l4 : Int} {l0 l1 l2 : Nat} {g : xG} {w : xW} (t : xIs g l1 (0, 5) ∧ 
  cal d nTw_cells [xr l1] g w (fun r g1 w1 => ∃ v1 : Int, r = some (xi v1) ∧ aMk_countLet d lim Q 12 [xr l0, xr l1, xr l2, xi l3, xi l4, xi 0, xi v1, xi 0] [] g1 w1)) :
    aMk_countLet d lim Q 0 [xr l0, xr l1, xr l2, xi l3, xi l4, none, none, none] [] g w := xAt_exec (cal_m d) kMk_countLet 8 t
set_option maxRecDepth 20000 in
theorem wMk_countLet_12 {d : Nat} {lim : Nat × Nat} {Q : xQ} {l3 l4 l5 l6 l7 : Int} {l0 l1 l2 : Nat} {g : xG} {w : xW} (t : 
  ((l6 ≤ l7) → Q (some (xi l5)) g w) ∧
  ((l7 < l6) → xIs g l2 (0, 3) ∧ xAr g (g.2 l2 2) l7 ∧ 
    ((¬ (w (g.2 l2 2) (Int.toNat l7)) = l3) → x32 (l7 + 1) ∧ aMk_countLet d lim Q 12 [xr l0, xr l1, xr l2, xi l3, xi l4, xi l5, xi l6, xi (l7 + 1)] [] g w) ∧
    (((w (g.2 l2 2) (Int.toNat l7)) = l3) → xIs g l2 (0, 3) ∧ xAr g (g.2 l2 0) l7 ∧ ((50 : Int) ≠ 0 ∧ x32 (Int.tdiv (w (g.2 l2 0) (Int.toNat l7)) 50)) ∧ 
      (((Int.tdiv (w (g.2 l2 0) (Int.toNat l7)) 50) < l4) → x32 (l7 + 1) ∧ aMk_countLet d lim Q 12 [xr l0, xr l1, xr l2, xi l3, xi l4, xi l5, xi l6, xi (l7 + 1)] [] g w) ∧
      ((l4 ≤ (Int.tdiv (w (g.2 l2 0) (Int.toNat l7)) 50)) → xIs g l0 (0, 0) ∧ 
        cal d nMk_isUndercut [xr l0, xr l1, xr l2, xi l7, xi l4] g w (fun r g1 w1 => ∃ v1 : Int, r = some (xi v1) ∧ 
          ((¬ v1 = 0) → x32 (l7 + 1) ∧ aMk_countLet d lim Q 12 [xr l0, xr l1, xr l2, xi l3, xi l4, xi l5, xi l6, xi (l7 + 1)] [] g1 w1) ∧
          ((v1 = 0) → x32 (l5 + 1) ∧ x32 (l7 + 1) ∧ aMk_countLet d lim Q 12 [xr l0, xr l1, xr l2, xi l3, xi l4, xi (l5 + 1), xi l6, xi (l7 + 1)] [] g1 w1)))))) :
    aMk_countLet d lim Q 12 [xr l0, xr l1, xr l2, xi l3, xi l4, xi l5, xi l6, xi l7] [] g w := xAt_exec (cal_m d) kMk_countLet 28 t
theorem eMk_countLet {d : Nat} {Q : xQ} {l3 l4 : Int} {l0 l1 l2 : Nat} {g : xG} {w : xW} (t : ∀ (lim : Nat × Nat) (Q2 : xQ), (∀ r g2 w2, g2.1 = g.1 → Q r g2 w2 → Q2 r g2 w2) → aMk_countLet d lim Q2 0 [xr l0, xr l1, xr l2, xi l3, xi l4, none, none, none] [] g w) : cal (d + 1) nMk_countLet [xr l0, xr l1, xr l2, xi l3, xi l4] g w Q := t _ _ xQof
abbrev aMk_isUndercut (d : Nat) (lim : Nat × Nat) (Q : xQ) : xK := xAt xMks tMk_isUndercut (cal d) lim Q
def kMk_isUndercut : List (Nat × List Bool) := [(3, [true, true, true, true, true, true, false, false])]
set_option maxRecDepth 20000 in
theorem wMk_isUndercut_0 {d : Nat} {lim : Nat × Nat} {Q : xQ} {l3 l4 : Int} {l0 l1 l2 : Nat} {g : xG} {w : xW} (t : aMk_isUndercut d lim Q 3 [xr l0, xr l1, xr l2, xi l3, xi l4, xi 1, none, none] [] g w) :
    aMk_isUndercut d lim Q 0 [xr l0, xr l1, xr l2, xi l3, xi l4, none, none, none] [] g w := xAt_exec (cal_m d) kMk_isUndercut 3 t
set_option maxRecDepth 20000 in
theorem wMk_isUndercut_3 {d : Nat} {lim : Nat × Nat} {Q : xQ} {l3 l4 l5 : Int} {l0 l1 l2 : Nat} {g : xG} {w : xW} (t : 
  ((4 < l5) → ((0 : Int) = 0 ∨ (0 : Int) = 1) ∧ Q (some (xi 0)) g w) ∧
  ((l5 ≤ 4) → xIs g l2 (0, 3) ∧ 
    cal d nSt_reach [xr l2, xr l1, xi l3, xi l5] g w (fun r g1 w1 => ∃ v1 : Int, r = some (xi v1) ∧ 
      ((v1 = (-1)) → x32 (l5 + 1) ∧ aMk_isUndercut d lim Q 3 [xr l0, xr l1, xr l2, xi l3, xi l4, xi (l5 + 1), none, none] [] g1 w1) ∧
      ((¬ v1 = (-1)) → xIs g1 l2 (0, 3) ∧ xAr g1 (g1.2 l2 2) v1 ∧ 
        (((w1 (g1.2 l2 2) (Int.toNat v1)) = (-1)) → x32 (l5 + 1) ∧ aMk_isUndercut d lim Q 3 [xr l0, xr l1, xr l2, xi l3, xi l4, xi (l5 + 1), none, none] [] g1 w1) ∧
        ((¬ (w1 (g1.2 l2 2) (Int.toNat v1)) = (-1)) → xIs g1 l2 (0, 3) ∧ xAr g1 (g1.2 l2 2) l3 ∧ 
          (((w1 (g1.2 l2 2) (Int.toNat v1)) = (w1 (g1.2 l2 2) (Int.toNat l3))) → x32 (l5 + 1) ∧ aMk_isUndercut d lim Q 3 [xr l0, xr l1, xr l2, xi l3, xi l4, xi (l5 + 1), none, none] [] g1 w1) ∧
          ((¬ (w1 (g1.2 l2 2) (Int.toNat v1)) = (w1 (g1.2 l2 2) (Int.toNat l3))) → xIs g1 l0 (0, 0) ∧ xAr g1 (g1.2 l0 0) (w1 (g1.2 l2 2) (Int.toNat v1)) ∧ 
            ((l4 ≤ (w1 (g1.2 l0 0) (Int.toNat (w1 (g1.2 l2 2) (Int.toNat v1))))) → x32 (l5 + 1) ∧ aMk_isUndercut d lim Q 3 [xr l0, xr l1, xr l2, xi l3, xi l4, xi (l5 + 1), none, none] [] g1 w1) ∧
            (((w1 (g1.2 l0 0) (Int.toNat (w1 (g1.2 l2 2) (Int.toNat v1)))) < l4) → ((1 : Int) = 0 ∨ (1 : Int) = 1) ∧ Q (some (xi 1)) g1 w1))))))) :
    aMk_isUndercut d lim Q 3 [xr l0, xr l1, xr l2, xi l3, xi l4, xi l5, none, none] [] g w := xAt_exec (cal_m d) kMk_isUndercut 35 t
theorem eMk_isUndercut {d : Nat} {Q : xQ} {l3 l4 : Int} {l0 l1 l2 : Nat} {g : xG} {w : xW} (t : ∀ (lim : Nat × Nat) (Q2 : xQ), (∀ r g2 w2, g2.1 = g.1 → Q r g2 w2 → Q2 r g2 w2) → aMk_isUndercut d lim Q2 0 [xr l0, xr l1, xr l2, xi l3, xi l4, none, none, none] [] g w) : cal (d + 1) nMk_isUndercut [xr l0, xr l1, xr l2, xi l3, xi l4] g w Q := t _ _ xQof
abbrev aPp_write (d : Nat) (lim : Nat × Nat) (Q : xQ) : xK := xAt xMks tPp_write (cal d) lim Q
def kPp_write : List (Nat × List Bool) := [(24, [true, false, true, true]), (34, [true, false, false, true]), (44, [true, false, false, false])]
set_option maxRecDepth 20000 in
theorem wPp_write_0 {d : Nat} {lim : Nat × Nat} {Q : xQ} {l1 l2 l3 : Int} {l0 : Nat} {g : xG} {w : xW} (t : xIs g l0 (0, 1) ∧ xIs g l0 (0, 1) ∧ xAl g (g.2 l0 0) ∧ 
  (((w l0 3) < (xlen g (g.2 l0 0) : Nat)) → xIs g l0 (0, 1) ∧ xIs g l0 (0, 1) ∧ xA1 g (g.2 l0 0) (w l0 3) ∧ aPp_write d lim Q 24 [xr l0, none, xi l2, xi l3] [] g (xup w (g.2 l0 0) (Int.toNat (w l0 3)) l1)) ∧
  (((xlen g (g.2 l0 0) : Nat) ≤ (w l0 3)) → ((0 : Int) = 0 ∨ (0 : Int) = 1) ∧ Q (some (xi 0)) g w)) :
    aPp_write d lim Q 0 [xr l0, xi l1, xi l2, xi l3] [] g w := xAt_exec (cal_m d) kPp_write 13 t
set_option maxRecDepth 20000 in
theorem wPp_write_24 {d : Nat} {lim : Nat × Nat} {Q : xQ} {l2 l3 : Int} {l0 : Nat} {g : xG} {w : xW} (t : xIs g l0 (0, 1) ∧ xIs g l0 (0, 1) ∧ xA1 g (g.2 l0 1) (w l0 3) ∧ aPp_write d lim Q 34 [xr l0, none, none, xi l3] [] g (xup w (g.2 l0 1) (Int.toNat (w l0 3)) l2)) :
    aPp_write d lim Q 24 [xr l0, none, xi l2, xi l3] [] g w := xAt_exec (cal_m d) kPp_write 7 t
set_option maxRecDepth 20000 in
theorem wPp_write_34 {d : Nat} {lim : Nat × Nat} {Q : xQ} {l3 : Int} {l0 : Nat} {g : xG} {w : xW} (t : xIs g l0 (0, 1) ∧ xIs g l0 (0, 1) ∧ xA1 g (g.2 l0 2) (w l0 3) ∧ aPp_write d lim Q 44 [xr l0, none, none, none] [] g (xup w (g.2 l0 2) (Int.toNat (w l0 3)) l3)) :
    aPp_write d lim Q 34 [xr l0, none, none, xi l3] [] g w := xAt_exec (cal_m d) kPp_write 7 t
set_option maxRecDepth 20000 in
theorem wPp_write_44 {d : Nat} {lim : Nat × Nat} {Q : xQ} {l0 : Nat} {g : xG} {w : xW} (t : xIs g l0 (0, 1) ∧ x32 ((w l0 3) + 1) ∧ xIs g l0 (0, 1) ∧ ((1 : Int) = 0 ∨ (1 : Int) = 1) ∧ Q (some (xi 1)) g (xup w l0 3 ((w l0 3) + 1))) :
    aPp_write d lim Q 44 [xr l0, none, none, none] [] g w := xAt_exec (cal_m d) kPp_write 9 t
theorem ePp_write {d : Nat} {Q : xQ} {l1 l2 l3 : Int} {l0 : Nat} {g : xG} {w : xW} (t : ∀ (lim : Nat × Nat) (Q2 : xQ), (∀ r g2 w2, g2.1 = g.1 → Q r g2 w2 → Q2 r g2 w2) → aPp_write d lim Q2 0 [xr l0, xi l1, xi l2, xi l3] [] g w) : cal (d + 1) nPp_write [xr l0, xi l1, xi l2, xi l3] g w Q := t _ _ xQof
abbrev aPp_latest (d : Nat) (lim : Nat × Nat) (Q : xQ) : xK := xAt xMks tPp_latest (cal d) lim Q
def kPp_latest : List (Nat × List Bool) := [(4, [true, true, true])]
set_option maxRecDepth 20000 in
theorem wPp_latest_0 {d : Nat} {lim : Nat × Nat} {Q : xQ} {l0 : Nat} {g : xG} {w : xW} (t : aPp_latest d lim Q 4 [xr l0, xi (-1), xi 0] [] g w) :
    aPp_latest d lim Q 0 [xr l0, none, none] [] g w := xAt_exec (cal_m d) kPp_latest 5 t
set_option maxRecDepth 20000 in
theorem wPp_latest_4 {d : Nat} {lim : Nat × Nat} {Q : xQ} {l1 l2 : Int} {l0 : Nat} {g : xG} {w : xW} (t : xIs g l0 (0, 1) ∧ 
  (((w l0 3) ≤ l2) → Q (some (xi l1)) g w) ∧
  ((l2 < (w l0 3)) → xIs g l0 (0, 1) ∧ xAr g (g.2 l0 2) l2 ∧ x32 (l2 + 1) ∧ aPp_latest d lim Q 4 [xr l0, xi (max l1 (w (g.2 l0 2) (Int.toNat l2))), xi (l2 + 1)] [] g w)) :
    aPp_latest d lim Q 4 [xr l0, xi l1, xi l2] [] g w := xAt_exec (cal_m d) kPp_latest 14 t
theorem ePp_latest {d : Nat} {Q : xQ} {l0 : Nat} {g : xG} {w : xW} (t : ∀ (lim : Nat × Nat) (Q2 : xQ), (∀ r g2 w2, g2.1 = g.1 → Q r g2 w2 → Q2 r g2 w2) → aPp_latest d lim Q2 0 [xr l0, none, none] [] g w) : cal (d + 1) nPp_latest [xr l0] g w Q := t _ _ xQof
abbrev aPp_notFeltAt (d : Nat) (lim : Nat × Nat) (Q : xQ) : xK := xAt xMks tPp_notFeltAt (cal d) lim Q
def kPp_notFeltAt : List (Nat × List Bool) := [(5, [true, true, true, true, true]), (61, [true, true, true, true, true])]
set_option maxRecDepth 20000 in
theorem wPp_notFeltAt_0 {d : Nat} {lim : Nat × Nat} {Q : xQ} {l1 : Int} {l0 l2 : Nat} {g : xG} {w : xW} (t : aPp_notFeltAt d lim Q 5 [xr l0, xi l1, xr l2, xi 0, xi 0] [] g w) :
    aPp_notFeltAt d lim Q 0 [xr l0, xi l1, xr l2, none, none] [] g w := xAt_exec (cal_m d) kPp_notFeltAt 5 t
set_option maxRecDepth 20000 in
theorem wPp_notFeltAt_5 {d : Nat} {lim : Nat × Nat} {Q : xQ} {l1 l3 l4 : Int} {l0 l2 : Nat} {g : xG} {w : xW} (t : xIs g l0 (0, 1) ∧ 
  (((w l0 3) ≤ l4) → Q (some (xi l3)) g w) ∧
  ((l4 < (w l0 3)) → xIs g l0 (0, 1) ∧ xAr g (g.2 l0 2) l4 ∧ 
    ((¬ (w (g.2 l0 2) (Int.toNat l4)) = l1) → x32 (l4 + 1) ∧ aPp_notFeltAt d lim Q 5 [xr l0, xi l1, xr l2, xi l3, xi (l4 + 1)] [] g w) ∧
    (((w (g.2 l0 2) (Int.toNat l4)) = l1) → xIs g l2 (0, 3) ∧ xIs g l0 (0, 1) ∧ xAr g (g.2 l0 0) l4 ∧ xAr g (g.2 l2 7) (w (g.2 l0 0) (Int.toNat l4)) ∧ xIs g l0 (0, 1) ∧ xAr g (g.2 l0 1) l4 ∧ 
      ((¬ (w (g.2 l2 7) (Int.toNat (w (g.2 l0 0) (Int.toNat l4)))) = (w (g.2 l0 1) (Int.toNat l4))) → aPp_notFeltAt d lim Q 61 [xr l0, xi l1, xr l2, xi l3, xi l4] [] g w) ∧
      (((w (g.2 l2 7) (Int.toNat (w (g.2 l0 0) (Int.toNat l4)))) = (w (g.2 l0 1) (Int.toNat l4))) → xIs g l0 (0, 1) ∧ xAr g (g.2 l0 0) l4 ∧ xIs g l2 (0, 3) ∧ 
        cal d nSt_feels [xr l2, xi (w (g.2 l0 0) (Int.toNat l4))] g w (fun r g1 w1 => ∃ v1 : Int, r = some (xi v1) ∧ 
          ((¬ v1 = 0) → x32 (l4 + 1) ∧ aPp_notFeltAt d lim Q 5 [xr l0, xi l1, xr l2, xi l3, xi (l4 + 1)] [] g1 w1) ∧
          ((v1 = 0) → aPp_notFeltAt d lim Q 61 [xr l0, xi l1, xr l2, xi l3, xi l4] [] g1 w1)))))) :
    aPp_notFeltAt d lim Q 5 [xr l0, xi l1, xr l2, xi l3, xi l4] [] g w := xAt_exec (cal_m d) kPp_notFeltAt 32 t
set_option maxRecDepth 20000 in
theorem wPp_notFeltAt_61 {d : Nat} {lim : Nat × Nat} {Q : xQ} {l1 l3 l4 : Int} {l0 l2 : Nat} {g : xG} {w : xW} (t : x32 (l4 + 1) ∧ aPp_notFeltAt d lim Q 5 [xr l0, xi l1, xr l2, xi (xOr l3 (xShl 1 l4)), xi (l4 + 1)] [] g w) :
    aPp_notFeltAt d lim Q 61 [xr l0, xi l1, xr l2, xi l3, xi l4] [] g w := xAt_exec (cal_m d) kPp_notFeltAt 9 t
theorem ePp_notFeltAt {d : Nat} {Q : xQ} {l1 : Int} {l0 l2 : Nat} {g : xG} {w : xW} (t : ∀ (lim : Nat × Nat) (Q2 : xQ), (∀ r g2 w2, g2.1 = g.1 → Q r g2 w2 → Q2 r g2 w2) → aPp_notFeltAt d lim Q2 0 [xr l0, xi l1, xr l2, none, none] [] g w) : cal (d + 1) nPp_notFeltAt [xr l0, xi l1, xr l2] g w Q := t _ _ xQof
abbrev aPp_ownedAt (d : Nat) (lim : Nat × Nat) (Q : xQ) : xK := xAt xMks tPp_ownedAt (cal d) lim Q
def kPp_ownedAt : List (Nat × List Bool) := [(2, [true, true, true, true])]
set_option maxRecDepth 20000 in
theorem wPp_ownedAt_0 {d : Nat} {lim : Nat × Nat} {Q : xQ} {l1 : Int} {l0 l2 : Nat} {g : xG} {w : xW} (t : aPp_ownedAt d lim Q 2 [xr l0, xi l1, xr l2, xi 0] [] g w) :
    aPp_ownedAt d lim Q 0 [xr l0, xi l1, xr l2, none] [] g w := xAt_exec (cal_m d) kPp_ownedAt 3 t
set_option maxRecDepth 20000 in
theorem wPp_ownedAt_2 {d : Nat} {lim : Nat × Nat} {Q : xQ} {l1 l3 : Int} {l0 l2 : Nat} {g : xG} {w : xW} (t : xIs g l0 (0, 1) ∧ 
  (((w l0 3) ≤ l3) → ((1 : Int) = 0 ∨ (1 : Int) = 1) ∧ Q (some (xi 1)) g w) ∧
  ((l3 < (w l0 3)) → xIs g l0 (0, 1) ∧ xAr g (g.2 l0 2) l3 ∧ 
    ((¬ (w (g.2 l0 2) (Int.toNat l3)) = l1) → x32 (l3 + 1) ∧ aPp_ownedAt d lim Q 2 [xr l0, xi l1, xr l2, xi (l3 + 1)] [] g w) ∧
    (((w (g.2 l0 2) (Int.toNat l3)) = l1) → xIs g l2 (0, 3) ∧ xIs g l0 (0, 1) ∧ xAr g (g.2 l0 1) l3 ∧ xAr g (g.2 l2 2) (w (g.2 l0 1) (Int.toNat l3)) ∧ xIs g l0 (0, 1) ∧ xAr g (g.2 l0 0) l3 ∧ 
      (((w (g.2 l2 2) (Int.toNat (w (g.2 l0 1) (Int.toNat l3)))) = (w (g.2 l0 0) (Int.toNat l3))) → x32 (l3 + 1) ∧ aPp_ownedAt d lim Q 2 [xr l0, xi l1, xr l2, xi (l3 + 1)] [] g w) ∧
      ((¬ (w (g.2 l2 2) (Int.toNat (w (g.2 l0 1) (Int.toNat l3)))) = (w (g.2 l0 0) (Int.toNat l3))) → ((0 : Int) = 0 ∨ (0 : Int) = 1) ∧ Q (some (xi 0)) g w)))) :
    aPp_ownedAt d lim Q 2 [xr l0, xi l1, xr l2, xi l3] [] g w := xAt_exec (cal_m d) kPp_ownedAt 25 t
theorem ePp_ownedAt {d : Nat} {Q : xQ} {l1 : Int} {l0 l2 : Nat} {g : xG} {w : xW} (t : ∀ (lim : Nat × Nat) (Q2 : xQ), (∀ r g2 w2, g2.1 = g.1 → Q r g2 w2 → Q2 r g2 w2) → aPp_ownedAt d lim Q2 0 [xr l0, xi l1, xr l2, none] [] g w) : cal (d + 1) nPp_ownedAt [xr l0, xi l1, xr l2] g w Q := t _ _ xQof
abbrev aTo_begin (d : Nat) (lim : Nat × Nat) (Q : xQ) : xK := xAt xMks tTo_begin (cal d) lim Q
def kTo_begin : List (Nat × List Bool) := [(5, [true, false, true, true, true]), (20, [true, false, false, false, true]), (26, [true, false, false, false, false])]
set_option maxRecDepth 20000 in
theorem wTo_begin_0 {d : Nat} {lim : Nat × Nat} {Q : xQ} {l3 l4 : Int} {l0 l1 l2 : Nat} {g : xG} {w : xW} (t : xIs g l0 (0, 4) ∧ aTo_begin d lim Q 5 [xr l0, none, xr l2, xi l3, xi l4] [] (g.1, xup g.2 l0 3 l1) w) :
    aTo_begin d lim Q 0 [xr l0, xr l1, xr l2, xi l3, xi l4] [] g w := xAt_exec (cal_m d) kTo_begin 4 t
set_option maxRecDepth 20000 in
theorem wTo_begin_5 {d : Nat} {lim : Nat × Nat} {Q : xQ} {l3 l4 : Int} {l0 l2 : Nat} {g : xG} {w : xW} (t : xIs g l0 (0, 4) ∧ xA3 g (g.2 l0 0) 0 ∧ xIs g (g.2 (g.2 l0 0) (Int.toNat 0)) (0, 3) ∧ 
  cal d nSt_copyFrom [xr (g.2 (g.2 l0 0) (Int.toNat 0)), xr l2] g w (fun r g1 w1 => r = none ∧ xIs g1 l0 (0, 4) ∧ aTo_begin d lim Q 20 [xr l0, none, none, none, xi l4] [] g1 (xup w1 l0 4 l3))) :
    aTo_begin d lim Q 5 [xr l0, none, xr l2, xi l3, xi l4] [] g w := xAt_exec (cal_m d) kTo_begin 10 t
set_option maxRecDepth 20000 in
theorem wTo_begin_20 {d : Nat} {lim : Nat × Nat} {Q : xQ} {l4 : Int} {l0 : Nat} {g : xG} {w : xW} (t : xIs g l0 (0, 4) ∧ aTo_begin d lim Q 26 [xr l0, none, none, none, none] [] g (xup w l0 5 l4)) :
    aTo_begin d lim Q 20 [xr l0, none, none, none, xi l4] [] g w := xAt_exec (cal_m d) kTo_begin 4 t
set_option maxRecDepth 20000 in
theorem wTo_begin_26 {d : Nat} {lim : Nat × Nat} {Q : xQ} {l0 : Nat} {g : xG} {w : xW} (t : xIs g l0 (0, 4) ∧ Q none g (xup w l0 6 (-1))) :
    aTo_begin d lim Q 26 [xr l0, none, none, none, none] [] g w := xAt_exec (cal_m d) kTo_begin 5 t
theorem eTo_begin {d : Nat} {Q : xQ} {l3 l4 : Int} {l0 l1 l2 : Nat} {g : xG} {w : xW} (t : ∀ (lim : Nat × Nat) (Q2 : xQ), (∀ r g2 w2, g2.1 = g.1 → Q r g2 w2 → Q2 r g2 w2) → aTo_begin d lim Q2 0 [xr l0, xr l1, xr l2, xi l3, xi l4] [] g w) : cal (d + 1) nTo_begin [xr l0, xr l1, xr l2, xi l3, xi l4] g w Q := t _ _ xQof
abbrev aTo_finish (d : Nat) (lim : Nat × Nat) (Q : xQ) : xK := xAt xMks tTo_finish (cal d) lim Q
def kTo_finish : List (Nat × List Bool) := []
set_option maxRecDepth 20000 in
theorem wTo_finish_0 {d : Nat} {lim : Nat × Nat} {Q : xQ} {l1 : Int} {l0 : Nat} {g : xG} {w : xW} (t : xIs g l0 (0, 4) ∧ 
  ((l1 ≤ (w l0 6)) → Q none g w) ∧
  (((w l0 6) < l1) → xIs g l0 (0, 4) ∧ xIs g l0 (0, 4) ∧ xIs g l0 (0, 4) ∧ (xCo g (g.2 l0 1) 0 5 ∧ xCo g (g.2 l0 2) 0 5) ∧ Q none g (xcp (xup w l0 6 l1) (g.2 l0 1) (Int.toNat 0) (g.2 l0 2) (Int.toNat 0) (Int.toNat 5)))) :
    aTo_finish d lim Q 0 [xr l0, xi l1] [] g w := xAt_exec (cal_m d) kTo_finish 17 t
theorem eTo_finish {d : Nat} {Q : xQ} {l1 : Int} {l0 : Nat} {g : xG} {w : xW} (t : ∀ (lim : Nat × Nat) (Q2 : xQ), (∀ r g2 w2, g2.1 = g.1 → Q r g2 w2 → Q2 r g2 w2) → aTo_finish d lim Q2 0 [xr l0, xi l1] [] g w) : cal (d + 1) nTo_finish [xr l0, xi l1] g w Q := t _ _ xQof
abbrev aTw_clear (d : Nat) (lim : Nat × Nat) (Q : xQ) : xK := xAt xMks tTw_clear (cal d) lim Q
def kTw_clear : List (Nat × List Bool) := [(5, [true]), (10, [true]), (15, [true]), (20, [true]), (25, [true])]
set_option maxRecDepth 20000 in
theorem wTw_clear_0 {d : Nat} {lim : Nat × Nat} {Q : xQ} {l0 : Nat} {g : xG} {w : xW} (t : xIs g l0 (0, 5) ∧ aTw_clear d lim Q 5 [xr l0] [] g (xup w l0 0 0)) :
    aTw_clear d lim Q 0 [xr l0] [] g w := xAt_exec (cal_m d) kTw_clear 4 t
set_option maxRecDepth 20000 in
theorem wTw_clear_5 {d : Nat} {lim : Nat × Nat} {Q : xQ} {l0 : Nat} {g : xG} {w : xW} (t : xIs g l0 (0, 5) ∧ aTw_clear d lim Q 10 [xr l0] [] g (xup w l0 1 0)) :
    aTw_clear d lim Q 5 [xr l0] [] g w := xAt_exec (cal_m d) kTw_clear 4 t
set_option maxRecDepth 20000 in
theorem wTw_clear_10 {d : Nat} {lim : Nat × Nat} {Q : xQ} {l0 : Nat} {g : xG} {w : xW} (t : xIs g l0 (0, 5) ∧ aTw_clear d lim Q 15 [xr l0] [] g (xup w l0 2 0)) :
    aTw_clear d lim Q 10 [xr l0] [] g w := xAt_exec (cal_m d) kTw_clear 4 t
set_option maxRecDepth 20000 in
theorem wTw_clear_15 {d : Nat} {lim : Nat × Nat} {Q : xQ} {l0 : Nat} {g : xG} {w : xW} (t : xIs g l0 (0, 5) ∧ aTw_clear d lim Q 20 [xr l0] [] g (xup w l0 3 0)) :
    aTw_clear d lim Q 15 [xr l0] [] g w := xAt_exec (cal_m d) kTw_clear 4 t
set_option maxRecDepth 20000 in
theorem wTw_clear_20 {d : Nat} {lim : Nat × Nat} {Q : xQ} {l0 : Nat} {g : xG} {w : xW} (t : xIs g l0 (0, 5) ∧ aTw_clear d lim Q 25 [xr l0] [] g (xup w l0 4 0)) :
    aTw_clear d lim Q 20 [xr l0] [] g w := xAt_exec (cal_m d) kTw_clear 4 t
set_option maxRecDepth 20000 in
theorem wTw_clear_25 {d : Nat} {lim : Nat × Nat} {Q : xQ} {l0 : Nat} {g : xG} {w : xW} (t : xIs g l0 (0, 5) ∧ xIs g l0 (0, 5) ∧ 
  cal d nJd_fill [xr (g.2 l0 7), xi 0] g (xup w l0 5 0) (fun r g1 w1 => r = none ∧ Q none g1 w1)) :
    aTw_clear d lim Q 25 [xr l0] [] g w := xAt_exec (cal_m d) kTw_clear 9 t
theorem eTw_clear {d : Nat} {Q : xQ} {l0 : Nat} {g : xG} {w : xW} (t : ∀ (lim : Nat × Nat) (Q2 : xQ), (∀ r g2 w2, g2.1 = g.1 → Q r g2 w2 → Q2 r g2 w2) → aTw_clear d lim Q2 0 [xr l0] [] g w) : cal (d + 1) nTw_clear [xr l0] g w Q := t _ _ xQof
abbrev aTw_setSize (d : Nat) (lim : Nat × Nat) (Q : xQ) : xK := xAt xMks tTw_setSize (cal d) lim Q
def kTw_setSize : List (Nat × List Bool) := [(5, [true, true, true, false, false, false]), (12, [true, true, true, true, false, false]), (20, [true, true, true, true, true, false]), (53, [true, true, true, true, true, true]), (71, [true, true, true, true, true, true]), (89, [true, true, true, true, true, true]), (107, [true, true, true, true, true, true])]
set_option maxRecDepth 20000 in
theorem wTw_setSize_0 {d : Nat} {lim : Nat × Nat} {Q : xQ} {l1 l2 : Int} {l0 : Nat} {g : xG} {w : xW} (t : xIs g l0 (0, 5) ∧ aTw_setSize d lim Q 5 [xr l0, xi l1, xi l2, none, none, none] [] g (xup w l0 0 l1)) :
    aTw_setSize d lim Q 0 [xr l0, xi l1, xi l2, none, none, none] [] g w := xAt_exec (cal_m d) kTw_setSize 4 t
set_option maxRecDepth 20000 in
theorem wTw_setSize_5 {d : Nat} {lim : Nat × Nat} {Q : xQ} {l1 l2 : Int} {l0 : Nat} {g : xG} {w : xW} (t : xIs g l0 (0, 5) ∧ aTw_setSize d lim Q 12 [xr l0, xi l1, xi l2, xi 0, none, none] [] g (xup w l0 1 l2)) :
    aTw_setSize d lim Q 5 [xr l0, xi l1, xi l2, none, none, none] [] g w := xAt_exec (cal_m d) kTw_setSize 6 t
set_option maxRecDepth 20000 in
theorem wTw_setSize_12 {d : Nat} {lim : Nat × Nat} {Q : xQ} {l1 l2 l3 : Int} {l0 : Nat} {g : xG} {w : xW} (t : 
  ((l2 ≤ l3) → Q none g w) ∧
  ((l3 < l2) → aTw_setSize d lim Q 20 [xr l0, xi l1, xi l2, xi l3, xi 0, none] [] g w)) :
    aTw_setSize d lim Q 12 [xr l0, xi l1, xi l2, xi l3, none, none] [] g w := xAt_exec (cal_m d) kTw_setSize 6 t
set_option maxRecDepth 20000 in
theorem wTw_setSize_20 {d : Nat} {lim : Nat × Nat} {Q : xQ} {l1 l2 l3 l4 : Int} {l0 : Nat} {g : xG} {w : xW} (t : 
  ((l1 ≤ l4) → x32 (l3 + 1) ∧ aTw_setSize d lim Q 12 [xr l0, xi l1, xi l2, xi (l3 + 1), none, none] [] g w) ∧
  ((l4 < l1) → xIs g l0 (0, 5) ∧ 
    cal d nTw_cellAt [xr l0, xi l4, xi l3] g w (fun r g1 w1 => ∃ v1 : Int, r = some (xi v1) ∧ x32 (v1 * 5) ∧ xIs g1 l0 (0, 5) ∧ x32 ((v1 * 5) + 0) ∧ xIs g1 l0 (0, 5) ∧ 
      cal d nTw_cellAt [xr l0, xi l4, xi l3] g1 w1 (fun r g2 w2 => ∃ v2 : Int, r = some (xi v2) ∧ xA1 g2 (g1.2 l0 6) ((v1 * 5) + 0) ∧ aTw_setSize d lim Q 53 [xr l0, xi l1, xi l2, xi l3, xi l4, xi (v1 * 5)] [] g2 (xup w2 (g1.2 l0 6) (Int.toNat ((v1 * 5) + 0)) v2))))) :
    aTw_setSize d lim Q 20 [xr l0, xi l1, xi l2, xi l3, xi l4, none] [] g w := xAt_exec (cal_m d) kTw_setSize 21 t
set_option maxRecDepth 20000 in
theorem wTw_setSize_53 {d : Nat} {lim : Nat × Nat} {Q : xQ} {l1 l2 l3 l4 l5 : Int} {l0 : Nat} {g : xG} {w : xW} (t : xIs g l0 (0, 5) ∧ x32 (l5 + 1) ∧ x32 (l3 - 1) ∧ xIs g l0 (0, 5) ∧ 
  cal d nTw_cellAt [xr l0, xi l4, xi (l3 - 1)] g w (fun r g1 w1 => ∃ v1 : Int, r = some (xi v1) ∧ xA1 g1 (g.2 l0 6) (l5 + 1) ∧ aTw_setSize d lim Q 71 [xr l0, xi l1, xi l2, xi l3, xi l4, xi l5] [] g1 (xup w1 (g.2 l0 6) (Int.toNat (l5 + 1)) v1))) :
    aTw_setSize d lim Q 53 [xr l0, xi l1, xi l2, xi l3, xi l4, xi l5] [] g w := xAt_exec (cal_m d) kTw_setSize 13 t
set_option maxRecDepth 20000 in
theorem wTw_setSize_71 {d : Nat} {lim : Nat × Nat} {Q : xQ} {l1 l2 l3 l4 l5 : Int} {l0 : Nat} {g : xG} {w : xW} (t : xIs g l0 (0, 5) ∧ x32 (l5 + 2) ∧ x32 (l4 + 1) ∧ xIs g l0 (0, 5) ∧ 
  cal d nTw_cellAt [xr l0, xi (l4 + 1), xi l3] g w (fun r g1 w1 => ∃ v1 : Int, r = some (xi v1) ∧ xA1 g1 (g.2 l0 6) (l5 + 2) ∧ aTw_setSize d lim Q 89 [xr l0, xi l1, xi l2, xi l3, xi l4, xi l5] [] g1 (xup w1 (g.2 l0 6) (Int.toNat (l5 + 2)) v1))) :
    aTw_setSize d lim Q 71 [xr l0, xi l1, xi l2, xi l3, xi l4, xi l5] [] g w := xAt_exec (cal_m d) kTw_setSize 13 t
set_option maxRecDepth 20000 in
theorem wTw_setSize_89 {d : Nat} {lim : Nat × Nat} {Q : xQ} {l1 l2 l3 l4 l5 : Int} {l0 : Nat} {g : xG} {w : xW} (t : xIs g l0 (0, 5) ∧ x32 (l5 + 3) ∧ x32 (l3 + 1) ∧ xIs g l0 (0, 5) ∧ 
  cal d nTw_cellAt [xr l0, xi l4, xi (l3 + 1)] g w (fun r g1 w1 => ∃ v1 : Int, r = some (xi v1) ∧ xA1 g1 (g.2 l0 6) (l5 + 3) ∧ aTw_setSize d lim Q 107 [xr l0, xi l1, xi l2, xi l3, xi l4, xi l5] [] g1 (xup w1 (g.2 l0 6) (Int.toNat (l5 + 3)) v1))) :
    aTw_setSize d lim Q 89 [xr l0, xi l1, xi l2, xi l3, xi l4, xi l5] [] g w := xAt_exec (cal_m d) kTw_setSize 13 t
set_option maxRecDepth 20000 in
theorem wTw_setSize_107 {d : Nat} {lim : Nat × Nat} {Q : xQ} {l1 l2 l3 l4 l5 : Int} {l0 : Nat} {g : xG} {w : xW} (t : xIs g l0 (0, 5) ∧ x32 (l5 + 4) ∧ x32 (l4 - 1) ∧ xIs g l0 (0, 5) ∧ 
  cal d nTw_cellAt [xr l0, xi (l4 - 1), xi l3] g w (fun r g1 w1 => ∃ v1 : Int, r = some (xi v1) ∧ xA1 g1 (g.2 l0 6) (l5 + 4) ∧ x32 (l4 + 1) ∧ aTw_setSize d lim Q 20 [xr l0, xi l1, xi l2, xi l3, xi (l4 + 1), none] [] g1 (xup w1 (g.2 l0 6) (Int.toNat (l5 + 4)) v1))) :
    aTw_setSize d lim Q 107 [xr l0, xi l1, xi l2, xi l3, xi l4, xi l5] [] g w := xAt_exec (cal_m d) kTw_setSize 15 t
theorem eTw_setSize {d : Nat} {Q : xQ} {l1 l2 : Int} {l0 : Nat} {g : xG} {w : xW} (t : ∀ (lim : Nat × Nat) (Q2 : xQ), (∀ r g2 w2, g2.1 = g.1 → Q r g2 w2 → Q2 r g2 w2) → aTw_setSize d lim Q2 0 [xr l0, xi l1, xi l2, none, none, none] [] g w) : cal (d + 1) nTw_setSize [xr l0, xi l1, xi l2] g w Q := t _ _ xQof
abbrev aTw_cells (d : Nat) (lim : Nat × Nat) (Q : xQ) : xK := xAt xMks tTw_cells (cal d) lim Q
def kTw_cells : List (Nat × List Bool) := []
set_option maxRecDepth 20000 in
theorem wTw_cells_0 {d : Nat} {lim : Nat × Nat} {Q : xQ} {l0 : Nat} {g : xG} {w : xW} (t : xIs g l0 (0, 5) ∧ xIs g l0 (0, 5) ∧ x32 ((w l0 0) * (w l0 1)) ∧ Q (some (xi ((w l0 0) * (w l0 1)))) g w) :
    aTw_cells d lim Q 0 [xr l0] [] g w := xAt_exec (cal_m d) kTw_cells 7 t
theorem eTw_cells {d : Nat} {Q : xQ} {l0 : Nat} {g : xG} {w : xW} (t : ∀ (lim : Nat × Nat) (Q2 : xQ), (∀ r g2 w2, g2.1 = g.1 → Q r g2 w2 → Q2 r g2 w2) → aTw_cells d lim Q2 0 [xr l0] [] g w) : cal (d + 1) nTw_cells [xr l0] g w Q := t _ _ xQof
abbrev aTw_cellAt (d : Nat) (lim : Nat × Nat) (Q : xQ) : xK := xAt xMks tTw_cellAt (cal d) lim Q
def kTw_cellAt : List (Nat × List Bool) := []
set_option maxRecDepth 20000 in
theorem wTw_cellAt_0 {d : Nat} {lim : Nat × Nat} {Q : xQ} {l1 l2 : Int} {l0 : Nat} {g : xG} {w : xW} (t : 
  ((l1 < 0) → Q (some (xi (-1))) g w) ∧
  ((0 ≤ l1) → xIs g l0 (0, 5) ∧ 
    (((w l0 0) ≤ l1) → Q (some (xi (-1))) g w) ∧
    ((l1 < (w l0 0)) → 
      ((l2 < 0) → Q (some (xi (-1))) g w) ∧
      ((0 ≤ l2) → xIs g l0 (0, 5) ∧ 
        (((w l0 1) ≤ l2) → Q (some (xi (-1))) g w) ∧
        ((l2 < (w l0 1)) → xIs g l0 (0, 5) ∧ x32 (l2 * (w l0 0)) ∧ x32 ((l2 * (w l0 0)) + l1) ∧ Q (some (xi ((l2 * (w l0 0)) + l1))) g w))))) :
    aTw_cellAt d lim Q 0 [xr l0, xi l1, xi l2] [] g w := xAt_exec (cal_m d) kTw_cellAt 21 t
theorem eTw_cellAt {d : Nat} {Q : xQ} {l1 l2 : Int} {l0 : Nat} {g : xG} {w : xW} (t : ∀ (lim : Nat × Nat) (Q2 : xQ), (∀ r g2 w2, g2.1 = g.1 → Q r g2 w2 → Q2 r g2 w2) → aTw_cellAt d lim Q2 0 [xr l0, xi l1, xi l2] [] g w) : cal (d + 1) nTw_cellAt [xr l0, xi l1, xi l2] g w Q := t _ _ xQof
abbrev aTw_cellOfPair (d : Nat) (lim : Nat × Nat) (Q : xQ) : xK := xAt xMks tTw_cellOfPair (cal d) lim Q
def kTw_cellOfPair : List (Nat × List Bool) := []
set_option maxRecDepth 20000 in
theorem wTw_cellOfPair_0 {d : Nat} {lim : Nat × Nat} {Q : xQ} {l1 : Int} {l0 : Nat} {g : xG} {w : xW} (t : 
  ((0 ≤ l1) → ((10 : Int) ≠ 0 ∧ x32 (Int.tdiv l1 10)) ∧ ((10 : Int) ≠ 0 ∧ x32 (Int.tdiv l1 10)) ∧ xIs g l0 (0, 5) ∧ 
    cal d nTw_cellAt [xr l0, xi (Int.tdiv l1 10), xi (Int.tmod l1 10)] g w (fun r g1 w1 => ∃ v1 : Int, r = some (xi v1) ∧ Q (some (xi v1)) g1 w1)) ∧
  ((l1 < 0) → Q (some (xi (-1))) g w)) :
    aTw_cellOfPair d lim Q 0 [xr l0, xi l1] [] g w := xAt_exec (cal_m d) kTw_cellOfPair 12 t
theorem eTw_cellOfPair {d : Nat} {Q : xQ} {l1 : Int} {l0 : Nat} {g : xG} {w : xW} (t : ∀ (lim : Nat × Nat) (Q2 : xQ), (∀ r g2 w2, g2.1 = g.1 → Q r g2 w2 → Q2 r g2 w2) → aTw_cellOfPair d lim Q2 0 [xr l0, xi l1] [] g w) : cal (d + 1) nTw_cellOfPair [xr l0, xi l1] g w Q := t _ _ xQof
abbrev aTw_pairOf (d : Nat) (lim : Nat × Nat) (Q : xQ) : xK := xAt xMks tTw_pairOf (cal d) lim Q
def kTw_pairOf : List (Nat × List Bool) := []
set_option maxRecDepth 20000 in
theorem wTw_pairOf_0 {d : Nat} {lim : Nat × Nat} {Q : xQ} {l1 : Int} {l0 : Nat} {g : xG} {w : xW} (t : xIs g l0 (0, 5) ∧ 
  ((1 ≤ (w l0 0)) → xIs g l0 (0, 5) ∧ (((w l0 0) : Int) ≠ 0 ∧ x32 (Int.tdiv l1 (w l0 0))) ∧ x32 ((Int.tmod l1 (w l0 0)) * 10) ∧ xIs g l0 (0, 5) ∧ (((w l0 0) : Int) ≠ 0 ∧ x32 (Int.tdiv l1 (w l0 0))) ∧ x32 (((Int.tmod l1 (w l0 0)) * 10) + (Int.tdiv l1 (w l0 0))) ∧ Q (some (xi (((Int.tmod l1 (w l0 0)) * 10) + (Int.tdiv l1 (w l0 0))))) g w) ∧
  (((w l0 0) < 1) → Q (some (xi (-1))) g w)) :
    aTw_pairOf d lim Q 0 [xr l0, xi l1] [] g w := xAt_exec (cal_m d) kTw_pairOf 17 t
theorem eTw_pairOf {d : Nat} {Q : xQ} {l1 : Int} {l0 : Nat} {g : xG} {w : xW} (t : ∀ (lim : Nat × Nat) (Q2 : xQ), (∀ r g2 w2, g2.1 = g.1 → Q r g2 w2 → Q2 r g2 w2) → aTw_pairOf d lim Q2 0 [xr l0, xi l1] [] g w) : cal (d + 1) nTw_pairOf [xr l0, xi l1] g w Q := t _ _ xQof
abbrev aTw_beside (d : Nat) (lim : Nat × Nat) (Q : xQ) : xK := xAt xMks tTw_beside (cal d) lim Q
def kTw_beside : List (Nat × List Bool) := []
set_option maxRecDepth 20000 in
theorem wTw_beside_0 {d : Nat} {lim : Nat × Nat} {Q : xQ} {l1 l2 : Int} {l0 : Nat} {g : xG} {w : xW} (t : xIs g l0 (0, 5) ∧ x32 (l1 * 5) ∧ x32 ((l1 * 5) + l2) ∧ xAr g (g.2 l0 6) ((l1 * 5) + l2) ∧ Q (some (xi (w (g.2 l0 6) (Int.toNat ((l1 * 5) + l2))))) g w) :
    aTw_beside d lim Q 0 [xr l0, xi l1, xi l2] [] g w := xAt_exec (cal_m d) kTw_beside 10 t
theorem eTw_beside {d : Nat} {Q : xQ} {l1 l2 : Int} {l0 : Nat} {g : xG} {w : xW} (t : ∀ (lim : Nat × Nat) (Q2 : xQ), (∀ r g2 w2, g2.1 = g.1 → Q r g2 w2 → Q2 r g2 w2) → aTw_beside d lim Q2 0 [xr l0, xi l1, xi l2] [] g w) : cal (d + 1) nTw_beside [xr l0, xi l1, xi l2] g w Q := t _ _ xQof
abbrev aTw_sunAt (d : Nat) (lim : Nat × Nat) (Q : xQ) : xK := xAt xMks tTw_sunAt (cal d) lim Q
def kTw_sunAt : List (Nat × List Bool) := []
set_option maxRecDepth 20000 in
theorem wTw_sunAt_0 {d : Nat} {lim : Nat × Nat} {Q : xQ} {l1 : Int} {l0 : Nat} {g : xG} {w : xW} (t : xIs g l0 (0, 5) ∧ 
  ((1 ≤ (w l0 4)) → xIs g l0 (0, 5) ∧ ((6 : Int) ≠ 0 ∧ x32 (Int.tdiv l1 6)) ∧ xIs g l0 (0, 5) ∧ (((w l0 4) : Int) ≠ 0 ∧ x32 (Int.tdiv (Int.tdiv l1 6) (w l0 4))) ∧ xAr g (g.2 l0 8) (Int.tmod (Int.tdiv l1 6) (w l0 4)) ∧ Q (some (xi (w (g.2 l0 8) (Int.toNat (Int.tmod (Int.tdiv l1 6) (w l0 4)))))) g w) ∧
  (((w l0 4) < 1) → Q (some (xi 0)) g w)) :
    aTw_sunAt d lim Q 0 [xr l0, xi l1] [] g w := xAt_exec (cal_m d) kTw_sunAt 15 t
theorem eTw_sunAt {d : Nat} {Q : xQ} {l1 : Int} {l0 : Nat} {g : xG} {w : xW} (t : ∀ (lim : Nat × Nat) (Q2 : xQ), (∀ r g2 w2, g2.1 = g.1 → Q r g2 w2 → Q2 r g2 w2) → aTw_sunAt d lim Q2 0 [xr l0, xi l1] [] g w) : cal (d + 1) nTw_sunAt [xr l0, xi l1] g w Q := t _ _ xQof
abbrev aJd_bitCount (d : Nat) (lim : Nat × Nat) (Q : xQ) : xK := xAt xMks tJd_bitCount (cal d) lim Q
def kJd_bitCount : List (Nat × List Bool) := []
set_option maxRecDepth 20000 in
theorem wJd_bitCount_0 {d : Nat} {lim : Nat × Nat} {Q : xQ} {l0 : Int} {g : xG} {w : xW} (t : x32 (l0 - (xAnd (xUshr l0 1) 1431655765)) ∧ x32 ((xAnd (l0 - (xAnd (xUshr l0 1) 1431655765)) 858993459) + (xAnd (xUshr (l0 - (xAnd (xUshr l0 1) 1431655765)) 2) 858993459)) ∧ x32 (((xAnd (l0 - (xAnd (xUshr l0 1) 1431655765)) 858993459) + (xAnd (xUshr (l0 - (xAnd (xUshr l0 1) 1431655765)) 2) 858993459)) + (xUshr ((xAnd (l0 - (xAnd (xUshr l0 1) 1431655765)) 858993459) + (xAnd (xUshr (l0 - (xAnd (xUshr l0 1) 1431655765)) 2) 858993459)) 4)) ∧ x32 ((xAnd (((xAnd (l0 - (xAnd (xUshr l0 1) 1431655765)) 858993459) + (xAnd (xUshr (l0 - (xAnd (xUshr l0 1) 1431655765)) 2) 858993459)) + (xUshr ((xAnd (l0 - (xAnd (xUshr l0 1) 1431655765)) 858993459) + (xAnd (xUshr (l0 - (xAnd (xUshr l0 1) 1431655765)) 2) 858993459)) 4)) 252645135) + (xUshr (xAnd (((xAnd (l0 - (xAnd (xUshr l0 1) 1431655765)) 858993459) + (xAnd (xUshr (l0 - (xAnd (xUshr l0 1) 1431655765)) 2) 858993459)) + (xUshr ((xAnd (l0 - (xAnd (xUshr l0 1) 1431655765)) 858993459) + (xAnd (xUshr (l0 - (xAnd (xUshr l0 1) 1431655765)) 2) 858993459)) 4)) 252645135) 8)) ∧ x32 (((xAnd (((xAnd (l0 - (xAnd (xUshr l0 1) 1431655765)) 858993459) + (xAnd (xUshr (l0 - (xAnd (xUshr l0 1) 1431655765)) 2) 858993459)) + (xUshr ((xAnd (l0 - (xAnd (xUshr l0 1) 1431655765)) 858993459) + (xAnd (xUshr (l0 - (xAnd (xUshr l0 1) 1431655765)) 2) 858993459)) 4)) 252645135) + (xUshr (xAnd (((xAnd (l0 - (xAnd (xUshr l0 1) 1431655765)) 858993459) + (xAnd (xUshr (l0 - (xAnd (xUshr l0 1) 1431655765)) 2) 858993459)) + (xUshr ((xAnd (l0 - (xAnd (xUshr l0 1) 1431655765)) 858993459) + (xAnd (xUshr (l0 - (xAnd (xUshr l0 1) 1431655765)) 2) 858993459)) 4)) 252645135) 8)) + (xUshr ((xAnd (((xAnd (l0 - (xAnd (xUshr l0 1) 1431655765)) 858993459) + (xAnd (xUshr (l0 - (xAnd (xUshr l0 1) 1431655765)) 2) 858993459)) + (xUshr ((xAnd (l0 - (xAnd (xUshr l0 1) 1431655765)) 858993459) + (xAnd (xUshr (l0 - (xAnd (xUshr l0 1) 1431655765)) 2) 858993459)) 4)) 252645135) + (xUshr (xAnd (((xAnd (l0 - (xAnd (xUshr l0 1) 1431655765)) 858993459) + (xAnd (xUshr (l0 - (xAnd (xUshr l0 1) 1431655765)) 2) 858993459)) + (xUshr ((xAnd (l0 - (xAnd (xUshr l0 1) 1431655765)) 858993459) + (xAnd (xUshr (l0 - (xAnd (xUshr l0 1) 1431655765)) 2) 858993459)) 4)) 252645135) 8)) 16)) ∧ Q (some (xi (xAnd (((xAnd (((xAnd (l0 - (xAnd (xUshr l0 1) 1431655765)) 858993459) + (xAnd (xUshr (l0 - (xAnd (xUshr l0 1) 1431655765)) 2) 858993459)) + (xUshr ((xAnd (l0 - (xAnd (xUshr l0 1) 1431655765)) 858993459) + (xAnd (xUshr (l0 - (xAnd (xUshr l0 1) 1431655765)) 2) 858993459)) 4)) 252645135) + (xUshr (xAnd (((xAnd (l0 - (xAnd (xUshr l0 1) 1431655765)) 858993459) + (xAnd (xUshr (l0 - (xAnd (xUshr l0 1) 1431655765)) 2) 858993459)) + (xUshr ((xAnd (l0 - (xAnd (xUshr l0 1) 1431655765)) 858993459) + (xAnd (xUshr (l0 - (xAnd (xUshr l0 1) 1431655765)) 2) 858993459)) 4)) 252645135) 8)) + (xUshr ((xAnd (((xAnd (l0 - (xAnd (xUshr l0 1) 1431655765)) 858993459) + (xAnd (xUshr (l0 - (xAnd (xUshr l0 1) 1431655765)) 2) 858993459)) + (xUshr ((xAnd (l0 - (xAnd (xUshr l0 1) 1431655765)) 858993459) + (xAnd (xUshr (l0 - (xAnd (xUshr l0 1) 1431655765)) 2) 858993459)) 4)) 252645135) + (xUshr (xAnd (((xAnd (l0 - (xAnd (xUshr l0 1) 1431655765)) 858993459) + (xAnd (xUshr (l0 - (xAnd (xUshr l0 1) 1431655765)) 2) 858993459)) + (xUshr ((xAnd (l0 - (xAnd (xUshr l0 1) 1431655765)) 858993459) + (xAnd (xUshr (l0 - (xAnd (xUshr l0 1) 1431655765)) 2) 858993459)) 4)) 252645135) 8)) 16)) 63))) g w) :
    aJd_bitCount d lim Q 0 [xi l0] [] g w := xAt_exec (cal_m d) kJd_bitCount 43 t
theorem eJd_bitCount {d : Nat} {Q : xQ} {l0 : Int} {g : xG} {w : xW} (t : ∀ (lim : Nat × Nat) (Q2 : xQ), (∀ r g2 w2, g2.1 = g.1 → Q r g2 w2 → Q2 r g2 w2) → aJd_bitCount d lim Q2 0 [xi l0] [] g w) : cal (d + 1) nJd_bitCount [xi l0] g w Q := t _ _ xQof
abbrev aJd_fill (d : Nat) (lim : Nat × Nat) (Q : xQ) : xK := xAt xMks tJd_fill (cal d) lim Q
def kJd_fill : List (Nat × List Bool) := [(5, [true, true, true, true])]
set_option maxRecDepth 20000 in
theorem wJd_fill_0 {d : Nat} {lim : Nat × Nat} {Q : xQ} {l1 : Int} {l0 : Nat} {g : xG} {w : xW} (t : xAl g l0 ∧ aJd_fill d lim Q 5 [xr l0, xi l1, xi 0, xi (xlen g l0 : Nat)] [] g w) :
    aJd_fill d lim Q 0 [xr l0, xi l1, none, none] [] g w := xAt_exec (cal_m d) kJd_fill 6 t
set_option maxRecDepth 20000 in
theorem wJd_fill_5 {d : Nat} {lim : Nat × Nat} {Q : xQ} {l1 l2 l3 : Int} {l0 : Nat} {g : xG} {w : xW} (t : 
  ((l3 ≤ l2) → Q none g w) ∧
  ((l2 < l3) → xA1 g l0 l2 ∧ x32 (l2 + 1) ∧ aJd_fill d lim Q 5 [xr l0, xi l1, xi (l2 + 1), xi l3] [] g (xup w l0 (Int.toNat l2) l1))) :
    aJd_fill d lim Q 5 [xr l0, xi l1, xi l2, xi l3] [] g w := xAt_exec (cal_m d) kJd_fill 10 t
theorem eJd_fill {d : Nat} {Q : xQ} {l1 : Int} {l0 : Nat} {g : xG} {w : xW} (t : ∀ (lim : Nat × Nat) (Q2 : xQ), (∀ r g2 w2, g2.1 = g.1 → Q r g2 w2 → Q2 r g2 w2) → aJd_fill d lim Q2 0 [xr l0, xi l1, none, none] [] g w) : cal (d + 1) nJd_fill [xr l0, xi l1] g w Q := t _ _ xQof
