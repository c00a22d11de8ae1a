/-! ===== printed by wip/gen/mklaw.py: the constructors, the law ===== -/
abbrev aMk_init (d : Nat) (lim : Nat × Nat) (Q : xQ) : xK := xAt xMks tMk_init (cal d) lim Q
def kMk_init : List (Nat × List Bool) := []
set_option maxRecDepth 20000 in
theorem wMk_init_0 {d : Nat} {lim : Nat × Nat} {Q : xQ} {l0 : Nat} {g : xG} {w : xW} (t : l0 ≠ 0 ∧ ((0 : Int) ≤ 6 ∧ (6 : Int) ≤ 65536) ∧ (g.1.length + 1 ≤ lim.1 ∧ xsl g.1 + xsz (1, Int.toNat 6) ≤ lim.2) ∧ xIs (g.1 ++ [(1, Int.toNat 6)], g.2) l0 (0, 0) ∧ Q none ((g.1 ++ [(1, Int.toNat 6)], g.2).1, xup (g.1 ++ [(1, Int.toNat 6)], g.2).2 l0 0 (g.1.length + 1)) w) :
    aMk_init d lim Q 0 [xr l0] [] g w := xAt_exec (cal_m d) kMk_init 8 t
theorem eMk_init {d : Nat} {Q : xQ} {l0 : Nat} {g : xG} {w : xW} (t : aMk_init d (g.1.length + 1, xsl g.1 + 6) (fun r g2 w2 => xchk (1, 6) g g2 ∧ Q r g2 w2) 0 [xr l0] [] g w) : cal (d + 1) nMk_init [xr l0] g w Q := t
abbrev aPp_init (d : Nat) (lim : Nat × Nat) (Q : xQ) : xK := xAt xMks tPp_init (cal d) lim Q
def kPp_init : List (Nat × List Bool) := [(17, [true, false, true]), (24, [true, false, true])]
set_option maxRecDepth 20000 in
theorem wPp_init_0 {d : Nat} {lim : Nat × Nat} {Q : xQ} {l1 : Int} {l0 : Nat} {g : xG} {w : xW} (t : l0 ≠ 0 ∧ ((0 : Int) ≤ (max 0 l1) ∧ ((max 0 l1) : Int) ≤ 65536) ∧ (g.1.length + 1 ≤ lim.1 ∧ xsl g.1 + xsz (1, Int.toNat (max 0 l1)) ≤ lim.2) ∧ xIs (g.1 ++ [(1, Int.toNat (max 0 l1))], g.2) l0 (0, 1) ∧ aPp_init d lim Q 17 [xr l0, none, xi (max 0 l1)] [] ((g.1 ++ [(1, Int.toNat (max 0 l1))], g.2).1, xup (g.1 ++ [(1, Int.toNat (max 0 l1))], g.2).2 l0 0 (g.1.length + 1)) w) :
    aPp_init d lim Q 0 [xr l0, xi l1, none] [] g w := xAt_exec (cal_m d) kPp_init 11 t
set_option maxRecDepth 20000 in
theorem wPp_init_17 {d : Nat} {lim : Nat × Nat} {Q : xQ} {l2 : Int} {l0 : Nat} {g : xG} {w : xW} (t : ((0 : Int) ≤ l2 ∧ (l2 : Int) ≤ 65536) ∧ (g.1.length + 1 ≤ lim.1 ∧ xsl g.1 + xsz (1, Int.toNat l2) ≤ lim.2) ∧ xIs (g.1 ++ [(1, Int.toNat l2)], g.2) l0 (0, 1) ∧ aPp_init d lim Q 24 [xr l0, none, xi l2] [] ((g.1 ++ [(1, Int.toNat l2)], g.2).1, xup (g.1 ++ [(1, Int.toNat l2)], g.2).2 l0 1 (g.1.length + 1)) w) :
    aPp_init d lim Q 17 [xr l0, none, xi l2] [] g w := xAt_exec (cal_m d) kPp_init 5 t
set_option maxRecDepth 20000 in
theorem wPp_init_24 {d : Nat} {lim : Nat × Nat} {Q : xQ} {l2 : Int} {l0 : Nat} {g : xG} {w : xW} (t : ((0 : Int) ≤ l2 ∧ (l2 : Int) ≤ 65536) ∧ (g.1.length + 1 ≤ lim.1 ∧ xsl g.1 + xsz (1, Int.toNat l2) ≤ lim.2) ∧ xIs (g.1 ++ [(1, Int.toNat l2)], g.2) l0 (0, 1) ∧ Q none ((g.1 ++ [(1, Int.toNat l2)], g.2).1, xup (g.1 ++ [(1, Int.toNat l2)], g.2).2 l0 2 (g.1.length + 1)) w) :
    aPp_init d lim Q 24 [xr l0, none, xi l2] [] g w := xAt_exec (cal_m d) kPp_init 6 t
theorem ePp_init {d : Nat} {Q : xQ} {l1 : Int} {l0 : Nat} {g : xG} {w : xW} (t : aPp_init d (g.1.length + 3, xsl g.1 + 36) (fun r g2 w2 => xchk (3, 36) g g2 ∧ Q r g2 w2) 0 [xr l0, xi l1, none] [] g w) : cal (d + 1) nPp_init [xr l0, xi l1] g w Q := t
abbrev aPp_init8 (d : Nat) (lim : Nat × Nat) (Q : xQ) : xK := xAt xMks tPp_init8 (cal d) lim Q
def kPp_init8 : List (Nat × List Bool) := [(17, [true, false, true]), (24, [true, false, true])]
set_option maxRecDepth 20000 in
theorem wPp_init8_0 {d : Nat} {lim : Nat × Nat} {Q : xQ} {l1 : Int} {l0 : Nat} {g : xG} {w : xW} (t : l0 ≠ 0 ∧ ((0 : Int) ≤ (max 0 l1) ∧ ((max 0 l1) : Int) ≤ 65536) ∧ (g.1.length + 1 ≤ lim.1 ∧ xsl g.1 + xsz (1, Int.toNat (max 0 l1)) ≤ lim.2) ∧ xIs (g.1 ++ [(1, Int.toNat (max 0 l1))], g.2) l0 (0, 1) ∧ aPp_init8 d lim Q 17 [xr l0, none, xi (max 0 l1)] [] ((g.1 ++ [(1, Int.toNat (max 0 l1))], g.2).1, xup (g.1 ++ [(1, Int.toNat (max 0 l1))], g.2).2 l0 0 (g.1.length + 1)) w) :
    aPp_init8 d lim Q 0 [xr l0, xi l1, none] [] g w := xAt_exec (cal_m d) kPp_init8 11 t
set_option maxRecDepth 20000 in
theorem wPp_init8_17 {d : Nat} {lim : Nat × Nat} {Q : xQ} {l2 : Int} {l0 : Nat} {g : xG} {w : xW} (t : ((0 : Int) ≤ l2 ∧ (l2 : Int) ≤ 65536) ∧ (g.1.length + 1 ≤ lim.1 ∧ xsl g.1 + xsz (1, Int.toNat l2) ≤ lim.2) ∧ xIs (g.1 ++ [(1, Int.toNat l2)], g.2) l0 (0, 1) ∧ aPp_init8 d lim Q 24 [xr l0, none, xi l2] [] ((g.1 ++ [(1, Int.toNat l2)], g.2).1, xup (g.1 ++ [(1, Int.toNat l2)], g.2).2 l0 1 (g.1.length + 1)) w) :
    aPp_init8 d lim Q 17 [xr l0, none, xi l2] [] g w := xAt_exec (cal_m d) kPp_init8 5 t
set_option maxRecDepth 20000 in
theorem wPp_init8_24 {d : Nat} {lim : Nat × Nat} {Q : xQ} {l2 : Int} {l0 : Nat} {g : xG} {w : xW} (t : ((0 : Int) ≤ l2 ∧ (l2 : Int) ≤ 65536) ∧ (g.1.length + 1 ≤ lim.1 ∧ xsl g.1 + xsz (1, Int.toNat l2) ≤ lim.2) ∧ xIs (g.1 ++ [(1, Int.toNat l2)], g.2) l0 (0, 1) ∧ Q none ((g.1 ++ [(1, Int.toNat l2)], g.2).1, xup (g.1 ++ [(1, Int.toNat l2)], g.2).2 l0 2 (g.1.length + 1)) w) :
    aPp_init8 d lim Q 24 [xr l0, none, xi l2] [] g w := xAt_exec (cal_m d) kPp_init8 6 t
theorem ePp_init8 {d : Nat} {Q : xQ} {l1 : Int} {l0 : Nat} {g : xG} {w : xW} (t : aPp_init8 d (g.1.length + 3, xsl g.1 + 24) (fun r g2 w2 => xchk (3, 24) g g2 ∧ Q r g2 w2) 0 [xr l0, xi l1, none] [] g w) : cal (d + 1) nPp_init8 [xr l0, xi l1] g w Q := t
abbrev aRd_init (d : Nat) (lim : Nat × Nat) (Q : xQ) : xK := xAt xMks tRd_init (cal d) lim Q
def kRd_init : List (Nat × List Bool) := [(13, [true])]
set_option maxRecDepth 20000 in
theorem wRd_init_0 {d : Nat} {lim : Nat × Nat} {Q : xQ} {l0 : Nat} {g : xG} {w : xW} (t : l0 ≠ 0 ∧ ((0 : Int) ≤ 260 ∧ (260 : Int) ≤ 65536) ∧ (g.1.length + 1 ≤ lim.1 ∧ xsl g.1 + xsz (1, Int.toNat 260) ≤ lim.2) ∧ xIs (g.1 ++ [(1, Int.toNat 260)], g.2) l0 (0, 2) ∧ aRd_init d lim Q 13 [xr l0] [] ((g.1 ++ [(1, Int.toNat 260)], g.2).1, xup (g.1 ++ [(1, Int.toNat 260)], g.2).2 l0 0 (g.1.length + 1)) w) :
    aRd_init d lim Q 0 [xr l0] [] g w := xAt_exec (cal_m d) kRd_init 7 t
set_option maxRecDepth 20000 in
theorem wRd_init_13 {d : Nat} {lim : Nat × Nat} {Q : xQ} {l0 : Nat} {g : xG} {w : xW} (t : xIs g l0 (0, 2) ∧ Q none g (xup w l0 5 (-1))) :
    aRd_init d lim Q 13 [xr l0] [] g w := xAt_exec (cal_m d) kRd_init 5 t
theorem eRd_init {d : Nat} {Q : xQ} {l0 : Nat} {g : xG} {w : xW} (t : aRd_init d (g.1.length + 1, xsl g.1 + 260) (fun r g2 w2 => xchk (1, 260) g g2 ∧ Q r g2 w2) 0 [xr l0] [] g w) : cal (d + 1) nRd_init [xr l0] g w Q := t
abbrev aSt_init (d : Nat) (lim : Nat × Nat) (Q : xQ) : xK := xAt xMks tSt_init (cal d) lim Q
def kSt_init : List (Nat × List Bool) := [(12, [true]), (20, [true]), (28, [true]), (36, [true]), (44, [true]), (51, [true]), (58, [true]), (66, [true]), (74, [true]), (82, [true]), (90, [true]), (98, [true])]
set_option maxRecDepth 20000 in
theorem wSt_init_0 {d : Nat} {lim : Nat × Nat} {Q : xQ} {l0 : Nat} {g : xG} {w : xW} (t : l0 ≠ 0 ∧ ((0 : Int) ≤ 20 ∧ (20 : Int) ≤ 65536) ∧ (g.1.length + 1 ≤ lim.1 ∧ xsl g.1 + xsz (1, Int.toNat 20) ≤ lim.2) ∧ xIs (g.1 ++ [(1, Int.toNat 20)], g.2) l0 (0, 3) ∧ aSt_init d lim Q 12 [xr l0] [] ((g.1 ++ [(1, Int.toNat 20)], g.2).1, xup (g.1 ++ [(1, Int.toNat 20)], g.2).2 l0 0 (g.1.length + 1)) w) :
    aSt_init d lim Q 0 [xr l0] [] g w := xAt_exec (cal_m d) kSt_init 7 t
set_option maxRecDepth 20000 in
theorem wSt_init_12 {d : Nat} {lim : Nat × Nat} {Q : xQ} {l0 : Nat} {g : xG} {w : xW} (t : ((0 : Int) ≤ 20 ∧ (20 : Int) ≤ 65536) ∧ (g.1.length + 1 ≤ lim.1 ∧ xsl g.1 + xsz (1, Int.toNat 20) ≤ lim.2) ∧ xIs (g.1 ++ [(1, Int.toNat 20)], g.2) l0 (0, 3) ∧ aSt_init d lim Q 20 [xr l0] [] ((g.1 ++ [(1, Int.toNat 20)], g.2).1, xup (g.1 ++ [(1, Int.toNat 20)], g.2).2 l0 1 (g.1.length + 1)) w) :
    aSt_init d lim Q 12 [xr l0] [] g w := xAt_exec (cal_m d) kSt_init 5 t
set_option maxRecDepth 20000 in
theorem wSt_init_20 {d : Nat} {lim : Nat × Nat} {Q : xQ} {l0 : Nat} {g : xG} {w : xW} (t : ((0 : Int) ≤ 20 ∧ (20 : Int) ≤ 65536) ∧ (g.1.length + 1 ≤ lim.1 ∧ xsl g.1 + xsz (1, Int.toNat 20) ≤ lim.2) ∧ xIs (g.1 ++ [(1, Int.toNat 20)], g.2) l0 (0, 3) ∧ aSt_init d lim Q 28 [xr l0] [] ((g.1 ++ [(1, Int.toNat 20)], g.2).1, xup (g.1 ++ [(1, Int.toNat 20)], g.2).2 l0 2 (g.1.length + 1)) w) :
    aSt_init d lim Q 20 [xr l0] [] g w := xAt_exec (cal_m d) kSt_init 5 t
set_option maxRecDepth 20000 in
theorem wSt_init_28 {d : Nat} {lim : Nat × Nat} {Q : xQ} {l0 : Nat} {g : xG} {w : xW} (t : ((0 : Int) ≤ 20 ∧ (20 : Int) ≤ 65536) ∧ (g.1.length + 1 ≤ lim.1 ∧ xsl g.1 + xsz (1, Int.toNat 20) ≤ lim.2) ∧ xIs (g.1 ++ [(1, Int.toNat 20)], g.2) l0 (0, 3) ∧ aSt_init d lim Q 36 [xr l0] [] ((g.1 ++ [(1, Int.toNat 20)], g.2).1, xup (g.1 ++ [(1, Int.toNat 20)], g.2).2 l0 3 (g.1.length + 1)) w) :
    aSt_init d lim Q 28 [xr l0] [] g w := xAt_exec (cal_m d) kSt_init 5 t
set_option maxRecDepth 20000 in
theorem wSt_init_36 {d : Nat} {lim : Nat × Nat} {Q : xQ} {l0 : Nat} {g : xG} {w : xW} (t : ((0 : Int) ≤ 20 ∧ (20 : Int) ≤ 65536) ∧ (g.1.length + 1 ≤ lim.1 ∧ xsl g.1 + xsz (1, Int.toNat 20) ≤ lim.2) ∧ xIs (g.1 ++ [(1, Int.toNat 20)], g.2) l0 (0, 3) ∧ aSt_init d lim Q 44 [xr l0] [] ((g.1 ++ [(1, Int.toNat 20)], g.2).1, xup (g.1 ++ [(1, Int.toNat 20)], g.2).2 l0 4 (g.1.length + 1)) w) :
    aSt_init d lim Q 36 [xr l0] [] g w := xAt_exec (cal_m d) kSt_init 5 t
set_option maxRecDepth 20000 in
theorem wSt_init_44 {d : Nat} {lim : Nat × Nat} {Q : xQ} {l0 : Nat} {g : xG} {w : xW} (t : ((0 : Int) ≤ 4 ∧ (4 : Int) ≤ 65536) ∧ (g.1.length + 1 ≤ lim.1 ∧ xsl g.1 + xsz (1, Int.toNat 4) ≤ lim.2) ∧ xIs (g.1 ++ [(1, Int.toNat 4)], g.2) l0 (0, 3) ∧ aSt_init d lim Q 51 [xr l0] [] ((g.1 ++ [(1, Int.toNat 4)], g.2).1, xup (g.1 ++ [(1, Int.toNat 4)], g.2).2 l0 5 (g.1.length + 1)) w) :
    aSt_init d lim Q 44 [xr l0] [] g w := xAt_exec (cal_m d) kSt_init 5 t
set_option maxRecDepth 20000 in
theorem wSt_init_51 {d : Nat} {lim : Nat × Nat} {Q : xQ} {l0 : Nat} {g : xG} {w : xW} (t : ((0 : Int) ≤ 4 ∧ (4 : Int) ≤ 65536) ∧ (g.1.length + 1 ≤ lim.1 ∧ xsl g.1 + xsz (1, Int.toNat 4) ≤ lim.2) ∧ xIs (g.1 ++ [(1, Int.toNat 4)], g.2) l0 (0, 3) ∧ aSt_init d lim Q 58 [xr l0] [] ((g.1 ++ [(1, Int.toNat 4)], g.2).1, xup (g.1 ++ [(1, Int.toNat 4)], g.2).2 l0 6 (g.1.length + 1)) w) :
    aSt_init d lim Q 51 [xr l0] [] g w := xAt_exec (cal_m d) kSt_init 5 t
set_option maxRecDepth 20000 in
theorem wSt_init_58 {d : Nat} {lim : Nat × Nat} {Q : xQ} {l0 : Nat} {g : xG} {w : xW} (t : ((0 : Int) ≤ 6 ∧ (6 : Int) ≤ 65536) ∧ (g.1.length + 1 ≤ lim.1 ∧ xsl g.1 + xsz (1, Int.toNat 6) ≤ lim.2) ∧ xIs (g.1 ++ [(1, Int.toNat 6)], g.2) l0 (0, 3) ∧ aSt_init d lim Q 66 [xr l0] [] ((g.1 ++ [(1, Int.toNat 6)], g.2).1, xup (g.1 ++ [(1, Int.toNat 6)], g.2).2 l0 7 (g.1.length + 1)) w) :
    aSt_init d lim Q 58 [xr l0] [] g w := xAt_exec (cal_m d) kSt_init 5 t
set_option maxRecDepth 20000 in
theorem wSt_init_66 {d : Nat} {lim : Nat × Nat} {Q : xQ} {l0 : Nat} {g : xG} {w : xW} (t : ((0 : Int) ≤ 6 ∧ (6 : Int) ≤ 65536) ∧ (g.1.length + 1 ≤ lim.1 ∧ xsl g.1 + xsz (1, Int.toNat 6) ≤ lim.2) ∧ xIs (g.1 ++ [(1, Int.toNat 6)], g.2) l0 (0, 3) ∧ aSt_init d lim Q 74 [xr l0] [] ((g.1 ++ [(1, Int.toNat 6)], g.2).1, xup (g.1 ++ [(1, Int.toNat 6)], g.2).2 l0 8 (g.1.length + 1)) w) :
    aSt_init d lim Q 66 [xr l0] [] g w := xAt_exec (cal_m d) kSt_init 5 t
set_option maxRecDepth 20000 in
theorem wSt_init_74 {d : Nat} {lim : Nat × Nat} {Q : xQ} {l0 : Nat} {g : xG} {w : xW} (t : ((0 : Int) ≤ 6 ∧ (6 : Int) ≤ 65536) ∧ (g.1.length + 1 ≤ lim.1 ∧ xsl g.1 + xsz (1, Int.toNat 6) ≤ lim.2) ∧ xIs (g.1 ++ [(1, Int.toNat 6)], g.2) l0 (0, 3) ∧ aSt_init d lim Q 82 [xr l0] [] ((g.1 ++ [(1, Int.toNat 6)], g.2).1, xup (g.1 ++ [(1, Int.toNat 6)], g.2).2 l0 9 (g.1.length + 1)) w) :
    aSt_init d lim Q 74 [xr l0] [] g w := xAt_exec (cal_m d) kSt_init 5 t
set_option maxRecDepth 20000 in
theorem wSt_init_82 {d : Nat} {lim : Nat × Nat} {Q : xQ} {l0 : Nat} {g : xG} {w : xW} (t : ((0 : Int) ≤ 6 ∧ (6 : Int) ≤ 65536) ∧ (g.1.length + 1 ≤ lim.1 ∧ xsl g.1 + xsz (1, Int.toNat 6) ≤ lim.2) ∧ xIs (g.1 ++ [(1, Int.toNat 6)], g.2) l0 (0, 3) ∧ aSt_init d lim Q 90 [xr l0] [] ((g.1 ++ [(1, Int.toNat 6)], g.2).1, xup (g.1 ++ [(1, Int.toNat 6)], g.2).2 l0 10 (g.1.length + 1)) w) :
    aSt_init d lim Q 82 [xr l0] [] g w := xAt_exec (cal_m d) kSt_init 5 t
set_option maxRecDepth 20000 in
theorem wSt_init_90 {d : Nat} {lim : Nat × Nat} {Q : xQ} {l0 : Nat} {g : xG} {w : xW} (t : ((0 : Int) ≤ 6 ∧ (6 : Int) ≤ 65536) ∧ (g.1.length + 1 ≤ lim.1 ∧ xsl g.1 + xsz (1, Int.toNat 6) ≤ lim.2) ∧ xIs (g.1 ++ [(1, Int.toNat 6)], g.2) l0 (0, 3) ∧ aSt_init d lim Q 98 [xr l0] [] ((g.1 ++ [(1, Int.toNat 6)], g.2).1, xup (g.1 ++ [(1, Int.toNat 6)], g.2).2 l0 11 (g.1.length + 1)) w) :
    aSt_init d lim Q 90 [xr l0] [] g w := xAt_exec (cal_m d) kSt_init 5 t
set_option maxRecDepth 20000 in
theorem wSt_init_98 {d : Nat} {lim : Nat × Nat} {Q : xQ} {l0 : Nat} {g : xG} {w : xW} (t : xIs g l0 (0, 3) ∧ Q none g (xup w l0 15 3)) :
    aSt_init d lim Q 98 [xr l0] [] g w := xAt_exec (cal_m d) kSt_init 5 t
theorem eSt_init {d : Nat} {Q : xQ} {l0 : Nat} {g : xG} {w : xW} (t : aSt_init d (g.1.length + 12, xsl g.1 + 138) (fun r g2 w2 => xchk (12, 138) g g2 ∧ Q r g2 w2) 0 [xr l0] [] g w) : cal (d + 1) nSt_init [xr l0] g w Q := t
abbrev aTo_init (d : Nat) (lim : Nat × Nat) (Q : xQ) : xK := xAt xMks tTo_init (cal d) lim Q
def kTo_init : List (Nat × List Bool) := [(13, [true, false]), (20, [true, false]), (29, [true, true])]
set_option maxRecDepth 20000 in
theorem wTo_init_0 {d : Nat} {lim : Nat × Nat} {Q : xQ} {l0 : Nat} {g : xG} {w : xW} (t : l0 ≠ 0 ∧ ((0 : Int) ≤ 6 ∧ (6 : Int) ≤ 65536) ∧ (g.1.length + 1 ≤ lim.1 ∧ xsl g.1 + xsz (3, Int.toNat 6) ≤ lim.2) ∧ xIs (g.1 ++ [(3, Int.toNat 6)], g.2) l0 (0, 4) ∧ aTo_init d lim Q 13 [xr l0, none] [] ((g.1 ++ [(3, Int.toNat 6)], g.2).1, xup (g.1 ++ [(3, Int.toNat 6)], g.2).2 l0 0 (g.1.length + 1)) w) :
    aTo_init d lim Q 0 [xr l0, none] [] g w := xAt_exec (cal_m d) kTo_init 7 t
set_option maxRecDepth 20000 in
theorem wTo_init_13 {d : Nat} {lim : Nat × Nat} {Q : xQ} {l0 : Nat} {g : xG} {w : xW} (t : ((0 : Int) ≤ 5 ∧ (5 : Int) ≤ 65536) ∧ (g.1.length + 1 ≤ lim.1 ∧ xsl g.1 + xsz (1, Int.toNat 5) ≤ lim.2) ∧ xIs (g.1 ++ [(1, Int.toNat 5)], g.2) l0 (0, 4) ∧ aTo_init d lim Q 20 [xr l0, none] [] ((g.1 ++ [(1, Int.toNat 5)], g.2).1, xup (g.1 ++ [(1, Int.toNat 5)], g.2).2 l0 1 (g.1.length + 1)) w) :
    aTo_init d lim Q 13 [xr l0, none] [] g w := xAt_exec (cal_m d) kTo_init 5 t
set_option maxRecDepth 20000 in
theorem wTo_init_20 {d : Nat} {lim : Nat × Nat} {Q : xQ} {l0 : Nat} {g : xG} {w : xW} (t : ((0 : Int) ≤ 5 ∧ (5 : Int) ≤ 65536) ∧ (g.1.length + 1 ≤ lim.1 ∧ xsl g.1 + xsz (1, Int.toNat 5) ≤ lim.2) ∧ xIs (g.1 ++ [(1, Int.toNat 5)], g.2) l0 (0, 4) ∧ aTo_init d lim Q 29 [xr l0, xi 0] [] ((g.1 ++ [(1, Int.toNat 5)], g.2).1, xup (g.1 ++ [(1, Int.toNat 5)], g.2).2 l0 2 (g.1.length + 1)) w) :
    aTo_init d lim Q 20 [xr l0, none] [] g w := xAt_exec (cal_m d) kTo_init 7 t
set_option maxRecDepth 20000 in
theorem wTo_init_29 {d : Nat} {lim : Nat × Nat} {Q : xQ} {l1 : Int} {l0 : Nat} {g : xG} {w : xW} (t : 
  ((5 < l1) → Q none g w) ∧
  ((l1 ≤ 5) → xIs g l0 (0, 4) ∧ (g.1.length + 1 ≤ lim.1 ∧ xsl g.1 + xsz (0, 3) ≤ lim.2) ∧ xIs (g.1 ++ [(0, 3)], g.2) (g.1.length + 1) (0, 3) ∧ ((g.1 ++ [(0, 3)], g.2).1.length + 12 ≤ lim.1 ∧ xsl (g.1 ++ [(0, 3)], g.2).1 + 138 ≤ lim.2) ∧ 
    cal d nSt_init [xr (g.1.length + 1)] (g.1 ++ [(0, 3)], g.2) w (fun r g1 w1 => r = none ∧ (xA3 g1 (g.2 l0 0) l1 ∧ xIs g1 (g.1.length + 1) (0, 3)) ∧ x32 (l1 + 1) ∧ aTo_init d lim Q 29 [xr l0, xi (l1 + 1)] [] (g1.1, xup g1.2 (g.2 l0 0) (Int.toNat l1) (g.1.length + 1)) w1))) :
    aTo_init d lim Q 29 [xr l0, xi l1] [] g w := xAt_exec (cal_m d) kTo_init 13 t
theorem eTo_init {d : Nat} {Q : xQ} {l0 : Nat} {g : xG} {w : xW} (t : aTo_init d (g.1.length + 81, xsl g.1 + 952) (fun r g2 w2 => xchk (81, 952) g g2 ∧ Q r g2 w2) 0 [xr l0, none] [] g w) : cal (d + 1) nTo_init [xr l0] g w Q := t
abbrev aTw_init (d : Nat) (lim : Nat × Nat) (Q : xQ) : xK := xAt xMks tTw_init (cal d) lim Q
def kTw_init : List (Nat × List Bool) := [(12, [true]), (20, [true]), (28, [true]), (35, [true]), (42, [true]), (50, [true])]
set_option maxRecDepth 20000 in
theorem wTw_init_0 {d : Nat} {lim : Nat × Nat} {Q : xQ} {l0 : Nat} {g : xG} {w : xW} (t : l0 ≠ 0 ∧ ((0 : Int) ≤ 100 ∧ (100 : Int) ≤ 65536) ∧ (g.1.length + 1 ≤ lim.1 ∧ xsl g.1 + xsz (1, Int.toNat 100) ≤ lim.2) ∧ xIs (g.1 ++ [(1, Int.toNat 100)], g.2) l0 (0, 5) ∧ aTw_init d lim Q 12 [xr l0] [] ((g.1 ++ [(1, Int.toNat 100)], g.2).1, xup (g.1 ++ [(1, Int.toNat 100)], g.2).2 l0 6 (g.1.length + 1)) w) :
    aTw_init d lim Q 0 [xr l0] [] g w := xAt_exec (cal_m d) kTw_init 7 t
set_option maxRecDepth 20000 in
theorem wTw_init_12 {d : Nat} {lim : Nat × Nat} {Q : xQ} {l0 : Nat} {g : xG} {w : xW} (t : ((0 : Int) ≤ 20 ∧ (20 : Int) ≤ 65536) ∧ (g.1.length + 1 ≤ lim.1 ∧ xsl g.1 + xsz (1, Int.toNat 20) ≤ lim.2) ∧ xIs (g.1 ++ [(1, Int.toNat 20)], g.2) l0 (0, 5) ∧ aTw_init d lim Q 20 [xr l0] [] ((g.1 ++ [(1, Int.toNat 20)], g.2).1, xup (g.1 ++ [(1, Int.toNat 20)], g.2).2 l0 7 (g.1.length + 1)) w) :
    aTw_init d lim Q 12 [xr l0] [] g w := xAt_exec (cal_m d) kTw_init 5 t
set_option maxRecDepth 20000 in
theorem wTw_init_20 {d : Nat} {lim : Nat × Nat} {Q : xQ} {l0 : Nat} {g : xG} {w : xW} (t : ((0 : Int) ≤ 8 ∧ (8 : Int) ≤ 65536) ∧ (g.1.length + 1 ≤ lim.1 ∧ xsl g.1 + xsz (1, Int.toNat 8) ≤ lim.2) ∧ xIs (g.1 ++ [(1, Int.toNat 8)], g.2) l0 (0, 5) ∧ aTw_init d lim Q 28 [xr l0] [] ((g.1 ++ [(1, Int.toNat 8)], g.2).1, xup (g.1 ++ [(1, Int.toNat 8)], g.2).2 l0 8 (g.1.length + 1)) w) :
    aTw_init d lim Q 20 [xr l0] [] g w := xAt_exec (cal_m d) kTw_init 5 t
set_option maxRecDepth 20000 in
theorem wTw_init_28 {d : Nat} {lim : Nat × Nat} {Q : xQ} {l0 : Nat} {g : xG} {w : xW} (t : ((0 : Int) ≤ 4 ∧ (4 : Int) ≤ 65536) ∧ (g.1.length + 1 ≤ lim.1 ∧ xsl g.1 + xsz (1, Int.toNat 4) ≤ lim.2) ∧ xIs (g.1 ++ [(1, Int.toNat 4)], g.2) l0 (0, 5) ∧ aTw_init d lim Q 35 [xr l0] [] ((g.1 ++ [(1, Int.toNat 4)], g.2).1, xup (g.1 ++ [(1, Int.toNat 4)], g.2).2 l0 9 (g.1.length + 1)) w) :
    aTw_init d lim Q 28 [xr l0] [] g w := xAt_exec (cal_m d) kTw_init 5 t
set_option maxRecDepth 20000 in
theorem wTw_init_35 {d : Nat} {lim : Nat × Nat} {Q : xQ} {l0 : Nat} {g : xG} {w : xW} (t : ((0 : Int) ≤ 4 ∧ (4 : Int) ≤ 65536) ∧ (g.1.length + 1 ≤ lim.1 ∧ xsl g.1 + xsz (1, Int.toNat 4) ≤ lim.2) ∧ xIs (g.1 ++ [(1, Int.toNat 4)], g.2) l0 (0, 5) ∧ aTw_init d lim Q 42 [xr l0] [] ((g.1 ++ [(1, Int.toNat 4)], g.2).1, xup (g.1 ++ [(1, Int.toNat 4)], g.2).2 l0 10 (g.1.length + 1)) w) :
    aTw_init d lim Q 35 [xr l0] [] g w := xAt_exec (cal_m d) kTw_init 5 t
set_option maxRecDepth 20000 in
theorem wTw_init_42 {d : Nat} {lim : Nat × Nat} {Q : xQ} {l0 : Nat} {g : xG} {w : xW} (t : ((0 : Int) ≤ 6 ∧ (6 : Int) ≤ 65536) ∧ (g.1.length + 1 ≤ lim.1 ∧ xsl g.1 + xsz (1, Int.toNat 6) ≤ lim.2) ∧ xIs (g.1 ++ [(1, Int.toNat 6)], g.2) l0 (0, 5) ∧ aTw_init d lim Q 50 [xr l0] [] ((g.1 ++ [(1, Int.toNat 6)], g.2).1, xup (g.1 ++ [(1, Int.toNat 6)], g.2).2 l0 11 (g.1.length + 1)) w) :
    aTw_init d lim Q 42 [xr l0] [] g w := xAt_exec (cal_m d) kTw_init 5 t
set_option maxRecDepth 20000 in
theorem wTw_init_50 {d : Nat} {lim : Nat × Nat} {Q : xQ} {l0 : Nat} {g : xG} {w : xW} (t : ((0 : Int) ≤ 6 ∧ (6 : Int) ≤ 65536) ∧ (g.1.length + 1 ≤ lim.1 ∧ xsl g.1 + xsz (1, Int.toNat 6) ≤ lim.2) ∧ xIs (g.1 ++ [(1, Int.toNat 6)], g.2) l0 (0, 5) ∧ Q none ((g.1 ++ [(1, Int.toNat 6)], g.2).1, xup (g.1 ++ [(1, Int.toNat 6)], g.2).2 l0 12 (g.1.length + 1)) w) :
    aTw_init d lim Q 50 [xr l0] [] g w := xAt_exec (cal_m d) kTw_init 6 t
theorem eTw_init {d : Nat} {Q : xQ} {l0 : Nat} {g : xG} {w : xW} (t : aTw_init d (g.1.length + 7, xsl g.1 + 148) (fun r g2 w2 => xchk (7, 148) g g2 ∧ Q r g2 w2) 0 [xr l0] [] g w) : cal (d + 1) nTw_init [xr l0] g w Q := t
abbrev aFf_init (d : Nat) (lim : Nat × Nat) (Q : xQ) : xK := xAt xMks tFf_init (cal d) lim Q
def kFf_init : List (Nat × List Bool) := [(15, [true, false]), (28, [true, false]), (41, [true, false]), (49, [true, false]), (56, [true, false]), (67, [true, false]), (78, [true, false]), (89, [true, false]), (100, [true, false]), (111, [true, false]), (122, [true, false]), (133, [true, false]), (146, [true, true])]
set_option maxRecDepth 20000 in
theorem wFf_init_0 {d : Nat} {lim : Nat × Nat} {Q : xQ} {l0 : Nat} {g : xG} {w : xW} (t : l0 ≠ 0 ∧ (g.1.length + 1 ≤ lim.1 ∧ xsl g.1 + xsz (0, 2) ≤ lim.2) ∧ xIs (g.1 ++ [(0, 2)], g.2) (g.1.length + 1) (0, 2) ∧ ((g.1 ++ [(0, 2)], g.2).1.length + 1 ≤ lim.1 ∧ xsl (g.1 ++ [(0, 2)], g.2).1 + 260 ≤ lim.2) ∧ 
  cal d nRd_init [xr (g.1.length + 1)] (g.1 ++ [(0, 2)], g.2) w (fun r g1 w1 => r = none ∧ xIs g1 l0 (0, 6) ∧ aFf_init d lim Q 15 [xr l0, none] [] (g1.1, xup g1.2 l0 0 (g.1.length + 1)) w1)) :
    aFf_init d lim Q 0 [xr l0, none] [] g w := xAt_exec (cal_m d) kFf_init 8 t
set_option maxRecDepth 20000 in
theorem wFf_init_15 {d : Nat} {lim : Nat × Nat} {Q : xQ} {l0 : Nat} {g : xG} {w : xW} (t : (g.1.length + 1 ≤ lim.1 ∧ xsl g.1 + xsz (0, 1) ≤ lim.2) ∧ xIs (g.1 ++ [(0, 1)], g.2) (g.1.length + 1) (0, 1) ∧ ((g.1 ++ [(0, 1)], g.2).1.length + 3 ≤ lim.1 ∧ xsl (g.1 ++ [(0, 1)], g.2).1 + 36 ≤ lim.2) ∧ 
  cal d nPp_init [xr (g.1.length + 1), xi 12] (g.1 ++ [(0, 1)], g.2) w (fun r g1 w1 => r = none ∧ xIs g1 l0 (0, 6) ∧ aFf_init d lim Q 28 [xr l0, none] [] (g1.1, xup g1.2 l0 1 (g.1.length + 1)) w1)) :
    aFf_init d lim Q 15 [xr l0, none] [] g w := xAt_exec (cal_m d) kFf_init 7 t
set_option maxRecDepth 20000 in
theorem wFf_init_28 {d : Nat} {lim : Nat × Nat} {Q : xQ} {l0 : Nat} {g : xG} {w : xW} (t : (g.1.length + 1 ≤ lim.1 ∧ xsl g.1 + xsz (0, 1) ≤ lim.2) ∧ xIs (g.1 ++ [(0, 1)], g.2) (g.1.length + 1) (0, 1) ∧ ((g.1 ++ [(0, 1)], g.2).1.length + 3 ≤ lim.1 ∧ xsl (g.1 ++ [(0, 1)], g.2).1 + 24 ≤ lim.2) ∧ 
  cal d nPp_init8 [xr (g.1.length + 1), xi 8] (g.1 ++ [(0, 1)], g.2) w (fun r g1 w1 => r = none ∧ xIs g1 l0 (0, 6) ∧ aFf_init d lim Q 41 [xr l0, none] [] (g1.1, xup g1.2 l0 2 (g.1.length + 1)) w1)) :
    aFf_init d lim Q 28 [xr l0, none] [] g w := xAt_exec (cal_m d) kFf_init 7 t
set_option maxRecDepth 20000 in
theorem wFf_init_41 {d : Nat} {lim : Nat × Nat} {Q : xQ} {l0 : Nat} {g : xG} {w : xW} (t : ((0 : Int) ≤ 2 ∧ (2 : Int) ≤ 65536) ∧ (g.1.length + 1 ≤ lim.1 ∧ xsl g.1 + xsz (3, Int.toNat 2) ≤ lim.2) ∧ xIs (g.1 ++ [(3, Int.toNat 2)], g.2) l0 (0, 6) ∧ aFf_init d lim Q 49 [xr l0, none] [] ((g.1 ++ [(3, Int.toNat 2)], g.2).1, xup (g.1 ++ [(3, Int.toNat 2)], g.2).2 l0 3 (g.1.length + 1)) w) :
    aFf_init d lim Q 41 [xr l0, none] [] g w := xAt_exec (cal_m d) kFf_init 5 t
set_option maxRecDepth 20000 in
theorem wFf_init_49 {d : Nat} {lim : Nat × Nat} {Q : xQ} {l0 : Nat} {g : xG} {w : xW} (t : ((0 : Int) ≤ 2 ∧ (2 : Int) ≤ 65536) ∧ (g.1.length + 1 ≤ lim.1 ∧ xsl g.1 + xsz (1, Int.toNat 2) ≤ lim.2) ∧ xIs (g.1 ++ [(1, Int.toNat 2)], g.2) l0 (0, 6) ∧ aFf_init d lim Q 56 [xr l0, none] [] ((g.1 ++ [(1, Int.toNat 2)], g.2).1, xup (g.1 ++ [(1, Int.toNat 2)], g.2).2 l0 4 (g.1.length + 1)) w) :
    aFf_init d lim Q 49 [xr l0, none] [] g w := xAt_exec (cal_m d) kFf_init 5 t
set_option maxRecDepth 20000 in
theorem wFf_init_56 {d : Nat} {lim : Nat × Nat} {Q : xQ} {l0 : Nat} {g : xG} {w : xW} (t : (g.1.length + 1 ≤ lim.1 ∧ xsl g.1 + xsz (0, 3) ≤ lim.2) ∧ xIs (g.1 ++ [(0, 3)], g.2) (g.1.length + 1) (0, 3) ∧ ((g.1 ++ [(0, 3)], g.2).1.length + 12 ≤ lim.1 ∧ xsl (g.1 ++ [(0, 3)], g.2).1 + 138 ≤ lim.2) ∧ 
  cal d nSt_init [xr (g.1.length + 1)] (g.1 ++ [(0, 3)], g.2) w (fun r g1 w1 => r = none ∧ xIs g1 l0 (0, 6) ∧ aFf_init d lim Q 67 [xr l0, none] [] (g1.1, xup g1.2 l0 5 (g.1.length + 1)) w1)) :
    aFf_init d lim Q 56 [xr l0, none] [] g w := xAt_exec (cal_m d) kFf_init 6 t
set_option maxRecDepth 20000 in
theorem wFf_init_67 {d : Nat} {lim : Nat × Nat} {Q : xQ} {l0 : Nat} {g : xG} {w : xW} (t : (g.1.length + 1 ≤ lim.1 ∧ xsl g.1 + xsz (0, 3) ≤ lim.2) ∧ xIs (g.1 ++ [(0, 3)], g.2) (g.1.length + 1) (0, 3) ∧ ((g.1 ++ [(0, 3)], g.2).1.length + 12 ≤ lim.1 ∧ xsl (g.1 ++ [(0, 3)], g.2).1 + 138 ≤ lim.2) ∧ 
  cal d nSt_init [xr (g.1.length + 1)] (g.1 ++ [(0, 3)], g.2) w (fun r g1 w1 => r = none ∧ xIs g1 l0 (0, 6) ∧ aFf_init d lim Q 78 [xr l0, none] [] (g1.1, xup g1.2 l0 6 (g.1.length + 1)) w1)) :
    aFf_init d lim Q 67 [xr l0, none] [] g w := xAt_exec (cal_m d) kFf_init 6 t
set_option maxRecDepth 20000 in
theorem wFf_init_78 {d : Nat} {lim : Nat × Nat} {Q : xQ} {l0 : Nat} {g : xG} {w : xW} (t : (g.1.length + 1 ≤ lim.1 ∧ xsl g.1 + xsz (0, 4) ≤ lim.2) ∧ xIs (g.1 ++ [(0, 4)], g.2) (g.1.length + 1) (0, 4) ∧ ((g.1 ++ [(0, 4)], g.2).1.length + 81 ≤ lim.1 ∧ xsl (g.1 ++ [(0, 4)], g.2).1 + 952 ≤ lim.2) ∧ 
  cal d nTo_init [xr (g.1.length + 1)] (g.1 ++ [(0, 4)], g.2) w (fun r g1 w1 => r = none ∧ xIs g1 l0 (0, 6) ∧ aFf_init d lim Q 89 [xr l0, none] [] (g1.1, xup g1.2 l0 7 (g.1.length + 1)) w1)) :
    aFf_init d lim Q 78 [xr l0, none] [] g w := xAt_exec (cal_m d) kFf_init 6 t
set_option maxRecDepth 20000 in
theorem wFf_init_89 {d : Nat} {lim : Nat × Nat} {Q : xQ} {l0 : Nat} {g : xG} {w : xW} (t : (g.1.length + 1 ≤ lim.1 ∧ xsl g.1 + xsz (0, 0) ≤ lim.2) ∧ xIs (g.1 ++ [(0, 0)], g.2) (g.1.length + 1) (0, 0) ∧ ((g.1 ++ [(0, 0)], g.2).1.length + 1 ≤ lim.1 ∧ xsl (g.1 ++ [(0, 0)], g.2).1 + 6 ≤ lim.2) ∧ 
  cal d nMk_init [xr (g.1.length + 1)] (g.1 ++ [(0, 0)], g.2) w (fun r g1 w1 => r = none ∧ xIs g1 l0 (0, 6) ∧ aFf_init d lim Q 100 [xr l0, none] [] (g1.1, xup g1.2 l0 8 (g.1.length + 1)) w1)) :
    aFf_init d lim Q 89 [xr l0, none] [] g w := xAt_exec (cal_m d) kFf_init 6 t
set_option maxRecDepth 20000 in
theorem wFf_init_100 {d : Nat} {lim : Nat × Nat} {Q : xQ} {l0 : Nat} {g : xG} {w : xW} (t : (g.1.length + 1 ≤ lim.1 ∧ xsl g.1 + xsz (0, 5) ≤ lim.2) ∧ xIs (g.1 ++ [(0, 5)], g.2) (g.1.length + 1) (0, 5) ∧ ((g.1 ++ [(0, 5)], g.2).1.length + 7 ≤ lim.1 ∧ xsl (g.1 ++ [(0, 5)], g.2).1 + 148 ≤ lim.2) ∧ 
  cal d nTw_init [xr (g.1.length + 1)] (g.1 ++ [(0, 5)], g.2) w (fun r g1 w1 => r = none ∧ xIs g1 l0 (0, 6) ∧ aFf_init d lim Q 111 [xr l0, none] [] (g1.1, xup g1.2 l0 9 (g.1.length + 1)) w1)) :
    aFf_init d lim Q 100 [xr l0, none] [] g w := xAt_exec (cal_m d) kFf_init 6 t
set_option maxRecDepth 20000 in
theorem wFf_init_111 {d : Nat} {lim : Nat × Nat} {Q : xQ} {l0 : Nat} {g : xG} {w : xW} (t : (g.1.length + 1 ≤ lim.1 ∧ xsl g.1 + xsz (0, 5) ≤ lim.2) ∧ xIs (g.1 ++ [(0, 5)], g.2) (g.1.length + 1) (0, 5) ∧ ((g.1 ++ [(0, 5)], g.2).1.length + 7 ≤ lim.1 ∧ xsl (g.1 ++ [(0, 5)], g.2).1 + 148 ≤ lim.2) ∧ 
  cal d nTw_init [xr (g.1.length + 1)] (g.1 ++ [(0, 5)], g.2) w (fun r g1 w1 => r = none ∧ xIs g1 l0 (0, 6) ∧ aFf_init d lim Q 122 [xr l0, none] [] (g1.1, xup g1.2 l0 10 (g.1.length + 1)) w1)) :
    aFf_init d lim Q 111 [xr l0, none] [] g w := xAt_exec (cal_m d) kFf_init 6 t
set_option maxRecDepth 20000 in
theorem wFf_init_122 {d : Nat} {lim : Nat × Nat} {Q : xQ} {l0 : Nat} {g : xG} {w : xW} (t : (g.1.length + 1 ≤ lim.1 ∧ xsl g.1 + xsz (0, 3) ≤ lim.2) ∧ xIs (g.1 ++ [(0, 3)], g.2) (g.1.length + 1) (0, 3) ∧ ((g.1 ++ [(0, 3)], g.2).1.length + 12 ≤ lim.1 ∧ xsl (g.1 ++ [(0, 3)], g.2).1 + 138 ≤ lim.2) ∧ 
  cal d nSt_init [xr (g.1.length + 1)] (g.1 ++ [(0, 3)], g.2) w (fun r g1 w1 => r = none ∧ xIs g1 l0 (0, 6) ∧ aFf_init d lim Q 133 [xr l0, none] [] (g1.1, xup g1.2 l0 11 (g.1.length + 1)) w1)) :
    aFf_init d lim Q 122 [xr l0, none] [] g w := xAt_exec (cal_m d) kFf_init 6 t
set_option maxRecDepth 20000 in
theorem wFf_init_133 {d : Nat} {lim : Nat × Nat} {Q : xQ} {l0 : Nat} {g : xG} {w : xW} (t : (g.1.length + 1 ≤ lim.1 ∧ xsl g.1 + xsz (0, 3) ≤ lim.2) ∧ xIs (g.1 ++ [(0, 3)], g.2) (g.1.length + 1) (0, 3) ∧ ((g.1 ++ [(0, 3)], g.2).1.length + 12 ≤ lim.1 ∧ xsl (g.1 ++ [(0, 3)], g.2).1 + 138 ≤ lim.2) ∧ 
  cal d nSt_init [xr (g.1.length + 1)] (g.1 ++ [(0, 3)], g.2) w (fun r g1 w1 => r = none ∧ xIs g1 l0 (0, 6) ∧ aFf_init d lim Q 146 [xr l0, xi 0] [] (g1.1, xup g1.2 l0 12 (g.1.length + 1)) w1)) :
    aFf_init d lim Q 133 [xr l0, none] [] g w := xAt_exec (cal_m d) kFf_init 8 t
set_option maxRecDepth 20000 in
theorem wFf_init_146 {d : Nat} {lim : Nat × Nat} {Q : xQ} {l1 : Int} {l0 : Nat} {g : xG} {w : xW} (t : 
  ((2 ≤ l1) → Q none g w) ∧
  ((l1 < 2) → xIs g l0 (0, 6) ∧ (g.1.length + 1 ≤ lim.1 ∧ xsl g.1 + xsz (0, 3) ≤ lim.2) ∧ xIs (g.1 ++ [(0, 3)], g.2) (g.1.length + 1) (0, 3) ∧ ((g.1 ++ [(0, 3)], g.2).1.length + 12 ≤ lim.1 ∧ xsl (g.1 ++ [(0, 3)], g.2).1 + 138 ≤ lim.2) ∧ 
    cal d nSt_init [xr (g.1.length + 1)] (g.1 ++ [(0, 3)], g.2) w (fun r g1 w1 => r = none ∧ (xA3 g1 (g.2 l0 3) l1 ∧ xIs g1 (g.1.length + 1) (0, 3)) ∧ x32 (l1 + 1) ∧ aFf_init d lim Q 146 [xr l0, xi (l1 + 1)] [] (g1.1, xup g1.2 (g.2 l0 3) (Int.toNat l1) (g.1.length + 1)) w1))) :
    aFf_init d lim Q 146 [xr l0, xi l1] [] g w := xAt_exec (cal_m d) kFf_init 13 t
theorem eFf_init {d : Nat} {Q : xQ} {l0 : Nat} {g : xG} {w : xW} (t : aFf_init d (g.1.length + 190, xsl g.1 + 2565) (fun r g2 w2 => xchk (190, 2565) g g2 ∧ Q r g2 w2) 0 [xr l0, none] [] g w) : cal (d + 1) nFf_init [xr l0] g w Q := t
abbrev aMo_init (d : Nat) (lim : Nat × Nat) (Q : xQ) : xK := xAt xMks tMo_init (cal d) lim Q
def kMo_init : List (Nat × List Bool) := [(13, [true]), (22, [true]), (29, [true]), (38, [true]), (46, [true]), (53, [true]), (60, [true]), (68, [true]), (76, [true]), (84, [true]), (92, [true]), (100, [true]), (108, [true]), (116, [true]), (124, [true]), (132, [true]), (141, [true]), (146, [true]), (154, [true]), (162, [true]), (170, [true]), (178, [true]), (186, [true]), (194, [true]), (202, [true]), (207, [true]), (215, [true])]
set_option maxRecDepth 20000 in
theorem wMo_init_0 {d : Nat} {lim : Nat × Nat} {Q : xQ} {l0 : Nat} {g : xG} {w : xW} (t : l0 ≠ 0 ∧ ((0 : Int) ≤ 143 ∧ (143 : Int) ≤ 65536) ∧ (g.1.length + 1 ≤ lim.1 ∧ xsl g.1 + xsz (1, Int.toNat 143) ≤ lim.2) ∧ xIs (g.1 ++ [(1, Int.toNat 143)], g.2) l0 (0, 7) ∧ aMo_init d lim Q 13 [xr l0] [] ((g.1 ++ [(1, Int.toNat 143)], g.2).1, xup (g.1 ++ [(1, Int.toNat 143)], g.2).2 l0 0 (g.1.length + 1)) w) :
    aMo_init d lim Q 0 [xr l0] [] g w := xAt_exec (cal_m d) kMo_init 7 t
set_option maxRecDepth 20000 in
theorem wMo_init_13 {d : Nat} {lim : Nat × Nat} {Q : xQ} {l0 : Nat} {g : xG} {w : xW} (t : ((0 : Int) ≤ 286 ∧ (286 : Int) ≤ 65536) ∧ (g.1.length + 1 ≤ lim.1 ∧ xsl g.1 + xsz (1, Int.toNat 286) ≤ lim.2) ∧ xIs (g.1 ++ [(1, Int.toNat 286)], g.2) l0 (0, 7) ∧ aMo_init d lim Q 22 [xr l0] [] ((g.1 ++ [(1, Int.toNat 286)], g.2).1, xup (g.1 ++ [(1, Int.toNat 286)], g.2).2 l0 1 (g.1.length + 1)) w) :
    aMo_init d lim Q 13 [xr l0] [] g w := xAt_exec (cal_m d) kMo_init 5 t
set_option maxRecDepth 20000 in
theorem wMo_init_22 {d : Nat} {lim : Nat × Nat} {Q : xQ} {l0 : Nat} {g : xG} {w : xW} (t : ((0 : Int) ≤ 2 ∧ (2 : Int) ≤ 65536) ∧ (g.1.length + 1 ≤ lim.1 ∧ xsl g.1 + xsz (2, Int.toNat 2) ≤ lim.2) ∧ xIs (g.1 ++ [(2, Int.toNat 2)], g.2) l0 (0, 7) ∧ aMo_init d lim Q 29 [xr l0] [] ((g.1 ++ [(2, Int.toNat 2)], g.2).1, xup (g.1 ++ [(2, Int.toNat 2)], g.2).2 l0 2 (g.1.length + 1)) w) :
    aMo_init d lim Q 22 [xr l0] [] g w := xAt_exec (cal_m d) kMo_init 5 t
set_option maxRecDepth 20000 in
theorem wMo_init_29 {d : Nat} {lim : Nat × Nat} {Q : xQ} {l0 : Nat} {g : xG} {w : xW} (t : ((0 : Int) ≤ 143 ∧ (143 : Int) ≤ 65536) ∧ (g.1.length + 1 ≤ lim.1 ∧ xsl g.1 + xsz (1, Int.toNat 143) ≤ lim.2) ∧ xIs (g.1 ++ [(1, Int.toNat 143)], g.2) l0 (0, 7) ∧ aMo_init d lim Q 38 [xr l0] [] ((g.1 ++ [(1, Int.toNat 143)], g.2).1, xup (g.1 ++ [(1, Int.toNat 143)], g.2).2 l0 3 (g.1.length + 1)) w) :
    aMo_init d lim Q 29 [xr l0] [] g w := xAt_exec (cal_m d) kMo_init 5 t
set_option maxRecDepth 20000 in
theorem wMo_init_38 {d : Nat} {lim : Nat × Nat} {Q : xQ} {l0 : Nat} {g : xG} {w : xW} (t : ((0 : Int) ≤ 20 ∧ (20 : Int) ≤ 65536) ∧ (g.1.length + 1 ≤ lim.1 ∧ xsl g.1 + xsz (2, Int.toNat 20) ≤ lim.2) ∧ xIs (g.1 ++ [(2, Int.toNat 20)], g.2) l0 (0, 7) ∧ aMo_init d lim Q 46 [xr l0] [] ((g.1 ++ [(2, Int.toNat 20)], g.2).1, xup (g.1 ++ [(2, Int.toNat 20)], g.2).2 l0 6 (g.1.length + 1)) w) :
    aMo_init d lim Q 38 [xr l0] [] g w := xAt_exec (cal_m d) kMo_init 5 t
set_option maxRecDepth 20000 in
theorem wMo_init_46 {d : Nat} {lim : Nat × Nat} {Q : xQ} {l0 : Nat} {g : xG} {w : xW} (t : ((0 : Int) ≤ 4 ∧ (4 : Int) ≤ 65536) ∧ (g.1.length + 1 ≤ lim.1 ∧ xsl g.1 + xsz (1, Int.toNat 4) ≤ lim.2) ∧ xIs (g.1 ++ [(1, Int.toNat 4)], g.2) l0 (0, 7) ∧ aMo_init d lim Q 53 [xr l0] [] ((g.1 ++ [(1, Int.toNat 4)], g.2).1, xup (g.1 ++ [(1, Int.toNat 4)], g.2).2 l0 9 (g.1.length + 1)) w) :
    aMo_init d lim Q 46 [xr l0] [] g w := xAt_exec (cal_m d) kMo_init 5 t
set_option maxRecDepth 20000 in
theorem wMo_init_53 {d : Nat} {lim : Nat × Nat} {Q : xQ} {l0 : Nat} {g : xG} {w : xW} (t : ((0 : Int) ≤ 4 ∧ (4 : Int) ≤ 65536) ∧ (g.1.length + 1 ≤ lim.1 ∧ xsl g.1 + xsz (1, Int.toNat 4) ≤ lim.2) ∧ xIs (g.1 ++ [(1, Int.toNat 4)], g.2) l0 (0, 7) ∧ aMo_init d lim Q 60 [xr l0] [] ((g.1 ++ [(1, Int.toNat 4)], g.2).1, xup (g.1 ++ [(1, Int.toNat 4)], g.2).2 l0 10 (g.1.length + 1)) w) :
    aMo_init d lim Q 53 [xr l0] [] g w := xAt_exec (cal_m d) kMo_init 5 t
set_option maxRecDepth 20000 in
theorem wMo_init_60 {d : Nat} {lim : Nat × Nat} {Q : xQ} {l0 : Nat} {g : xG} {w : xW} (t : ((0 : Int) ≤ 8 ∧ (8 : Int) ≤ 65536) ∧ (g.1.length + 1 ≤ lim.1 ∧ xsl g.1 + xsz (1, Int.toNat 8) ≤ lim.2) ∧ xIs (g.1 ++ [(1, Int.toNat 8)], g.2) l0 (0, 7) ∧ aMo_init d lim Q 68 [xr l0] [] ((g.1 ++ [(1, Int.toNat 8)], g.2).1, xup (g.1 ++ [(1, Int.toNat 8)], g.2).2 l0 12 (g.1.length + 1)) w) :
    aMo_init d lim Q 60 [xr l0] [] g w := xAt_exec (cal_m d) kMo_init 5 t
set_option maxRecDepth 20000 in
theorem wMo_init_68 {d : Nat} {lim : Nat × Nat} {Q : xQ} {l0 : Nat} {g : xG} {w : xW} (t : ((0 : Int) ≤ 6 ∧ (6 : Int) ≤ 65536) ∧ (g.1.length + 1 ≤ lim.1 ∧ xsl g.1 + xsz (1, Int.toNat 6) ≤ lim.2) ∧ xIs (g.1 ++ [(1, Int.toNat 6)], g.2) l0 (0, 7) ∧ aMo_init d lim Q 76 [xr l0] [] ((g.1 ++ [(1, Int.toNat 6)], g.2).1, xup (g.1 ++ [(1, Int.toNat 6)], g.2).2 l0 14 (g.1.length + 1)) w) :
    aMo_init d lim Q 68 [xr l0] [] g w := xAt_exec (cal_m d) kMo_init 5 t
set_option maxRecDepth 20000 in
theorem wMo_init_76 {d : Nat} {lim : Nat × Nat} {Q : xQ} {l0 : Nat} {g : xG} {w : xW} (t : ((0 : Int) ≤ 6 ∧ (6 : Int) ≤ 65536) ∧ (g.1.length + 1 ≤ lim.1 ∧ xsl g.1 + xsz (1, Int.toNat 6) ≤ lim.2) ∧ xIs (g.1 ++ [(1, Int.toNat 6)], g.2) l0 (0, 7) ∧ aMo_init d lim Q 84 [xr l0] [] ((g.1 ++ [(1, Int.toNat 6)], g.2).1, xup (g.1 ++ [(1, Int.toNat 6)], g.2).2 l0 15 (g.1.length + 1)) w) :
    aMo_init d lim Q 76 [xr l0] [] g w := xAt_exec (cal_m d) kMo_init 5 t
set_option maxRecDepth 20000 in
theorem wMo_init_84 {d : Nat} {lim : Nat × Nat} {Q : xQ} {l0 : Nat} {g : xG} {w : xW} (t : ((0 : Int) ≤ 12 ∧ (12 : Int) ≤ 65536) ∧ (g.1.length + 1 ≤ lim.1 ∧ xsl g.1 + xsz (1, Int.toNat 12) ≤ lim.2) ∧ xIs (g.1 ++ [(1, Int.toNat 12)], g.2) l0 (0, 7) ∧ aMo_init d lim Q 92 [xr l0] [] ((g.1 ++ [(1, Int.toNat 12)], g.2).1, xup (g.1 ++ [(1, Int.toNat 12)], g.2).2 l0 17 (g.1.length + 1)) w) :
    aMo_init d lim Q 84 [xr l0] [] g w := xAt_exec (cal_m d) kMo_init 5 t
set_option maxRecDepth 20000 in
theorem wMo_init_92 {d : Nat} {lim : Nat × Nat} {Q : xQ} {l0 : Nat} {g : xG} {w : xW} (t : ((0 : Int) ≤ 12 ∧ (12 : Int) ≤ 65536) ∧ (g.1.length + 1 ≤ lim.1 ∧ xsl g.1 + xsz (1, Int.toNat 12) ≤ lim.2) ∧ xIs (g.1 ++ [(1, Int.toNat 12)], g.2) l0 (0, 7) ∧ aMo_init d lim Q 100 [xr l0] [] ((g.1 ++ [(1, Int.toNat 12)], g.2).1, xup (g.1 ++ [(1, Int.toNat 12)], g.2).2 l0 18 (g.1.length + 1)) w) :
    aMo_init d lim Q 92 [xr l0] [] g w := xAt_exec (cal_m d) kMo_init 5 t
set_option maxRecDepth 20000 in
theorem wMo_init_100 {d : Nat} {lim : Nat × Nat} {Q : xQ} {l0 : Nat} {g : xG} {w : xW} (t : ((0 : Int) ≤ 12 ∧ (12 : Int) ≤ 65536) ∧ (g.1.length + 1 ≤ lim.1 ∧ xsl g.1 + xsz (1, Int.toNat 12) ≤ lim.2) ∧ xIs (g.1 ++ [(1, Int.toNat 12)], g.2) l0 (0, 7) ∧ aMo_init d lim Q 108 [xr l0] [] ((g.1 ++ [(1, Int.toNat 12)], g.2).1, xup (g.1 ++ [(1, Int.toNat 12)], g.2).2 l0 19 (g.1.length + 1)) w) :
    aMo_init d lim Q 100 [xr l0] [] g w := xAt_exec (cal_m d) kMo_init 5 t
set_option maxRecDepth 20000 in
theorem wMo_init_108 {d : Nat} {lim : Nat × Nat} {Q : xQ} {l0 : Nat} {g : xG} {w : xW} (t : ((0 : Int) ≤ 8 ∧ (8 : Int) ≤ 65536) ∧ (g.1.length + 1 ≤ lim.1 ∧ xsl g.1 + xsz (1, Int.toNat 8) ≤ lim.2) ∧ xIs (g.1 ++ [(1, Int.toNat 8)], g.2) l0 (0, 7) ∧ aMo_init d lim Q 116 [xr l0] [] ((g.1 ++ [(1, Int.toNat 8)], g.2).1, xup (g.1 ++ [(1, Int.toNat 8)], g.2).2 l0 21 (g.1.length + 1)) w) :
    aMo_init d lim Q 108 [xr l0] [] g w := xAt_exec (cal_m d) kMo_init 5 t
set_option maxRecDepth 20000 in
theorem wMo_init_116 {d : Nat} {lim : Nat × Nat} {Q : xQ} {l0 : Nat} {g : xG} {w : xW} (t : ((0 : Int) ≤ 8 ∧ (8 : Int) ≤ 65536) ∧ (g.1.length + 1 ≤ lim.1 ∧ xsl g.1 + xsz (1, Int.toNat 8) ≤ lim.2) ∧ xIs (g.1 ++ [(1, Int.toNat 8)], g.2) l0 (0, 7) ∧ aMo_init d lim Q 124 [xr l0] [] ((g.1 ++ [(1, Int.toNat 8)], g.2).1, xup (g.1 ++ [(1, Int.toNat 8)], g.2).2 l0 22 (g.1.length + 1)) w) :
    aMo_init d lim Q 116 [xr l0] [] g w := xAt_exec (cal_m d) kMo_init 5 t
set_option maxRecDepth 20000 in
theorem wMo_init_124 {d : Nat} {lim : Nat × Nat} {Q : xQ} {l0 : Nat} {g : xG} {w : xW} (t : ((0 : Int) ≤ 8 ∧ (8 : Int) ≤ 65536) ∧ (g.1.length + 1 ≤ lim.1 ∧ xsl g.1 + xsz (1, Int.toNat 8) ≤ lim.2) ∧ xIs (g.1 ++ [(1, Int.toNat 8)], g.2) l0 (0, 7) ∧ aMo_init d lim Q 132 [xr l0] [] ((g.1 ++ [(1, Int.toNat 8)], g.2).1, xup (g.1 ++ [(1, Int.toNat 8)], g.2).2 l0 23 (g.1.length + 1)) w) :
    aMo_init d lim Q 124 [xr l0] [] g w := xAt_exec (cal_m d) kMo_init 5 t
set_option maxRecDepth 20000 in
theorem wMo_init_132 {d : Nat} {lim : Nat × Nat} {Q : xQ} {l0 : Nat} {g : xG} {w : xW} (t : ((0 : Int) ≤ 260 ∧ (260 : Int) ≤ 65536) ∧ (g.1.length + 1 ≤ lim.1 ∧ xsl g.1 + xsz (1, Int.toNat 260) ≤ lim.2) ∧ xIs (g.1 ++ [(1, Int.toNat 260)], g.2) l0 (0, 7) ∧ aMo_init d lim Q 141 [xr l0] [] ((g.1 ++ [(1, Int.toNat 260)], g.2).1, xup (g.1 ++ [(1, Int.toNat 260)], g.2).2 l0 24 (g.1.length + 1)) w) :
    aMo_init d lim Q 132 [xr l0] [] g w := xAt_exec (cal_m d) kMo_init 5 t
set_option maxRecDepth 20000 in
theorem wMo_init_141 {d : Nat} {lim : Nat × Nat} {Q : xQ} {l0 : Nat} {g : xG} {w : xW} (t : xIs g l0 (0, 7) ∧ aMo_init d lim Q 146 [xr l0] [] g (xup w l0 26 (-1))) :
    aMo_init d lim Q 141 [xr l0] [] g w := xAt_exec (cal_m d) kMo_init 4 t
set_option maxRecDepth 20000 in
theorem wMo_init_146 {d : Nat} {lim : Nat × Nat} {Q : xQ} {l0 : Nat} {g : xG} {w : xW} (t : ((0 : Int) ≤ 40 ∧ (40 : Int) ≤ 65536) ∧ (g.1.length + 1 ≤ lim.1 ∧ xsl g.1 + xsz (1, Int.toNat 40) ≤ lim.2) ∧ xIs (g.1 ++ [(1, Int.toNat 40)], g.2) l0 (0, 7) ∧ aMo_init d lim Q 154 [xr l0] [] ((g.1 ++ [(1, Int.toNat 40)], g.2).1, xup (g.1 ++ [(1, Int.toNat 40)], g.2).2 l0 36 (g.1.length + 1)) w) :
    aMo_init d lim Q 146 [xr l0] [] g w := xAt_exec (cal_m d) kMo_init 5 t
set_option maxRecDepth 20000 in
theorem wMo_init_154 {d : Nat} {lim : Nat × Nat} {Q : xQ} {l0 : Nat} {g : xG} {w : xW} (t : ((0 : Int) ≤ 20 ∧ (20 : Int) ≤ 65536) ∧ (g.1.length + 1 ≤ lim.1 ∧ xsl g.1 + xsz (2, Int.toNat 20) ≤ lim.2) ∧ xIs (g.1 ++ [(2, Int.toNat 20)], g.2) l0 (0, 7) ∧ aMo_init d lim Q 162 [xr l0] [] ((g.1 ++ [(2, Int.toNat 20)], g.2).1, xup (g.1 ++ [(2, Int.toNat 20)], g.2).2 l0 38 (g.1.length + 1)) w) :
    aMo_init d lim Q 154 [xr l0] [] g w := xAt_exec (cal_m d) kMo_init 5 t
set_option maxRecDepth 20000 in
theorem wMo_init_162 {d : Nat} {lim : Nat × Nat} {Q : xQ} {l0 : Nat} {g : xG} {w : xW} (t : ((0 : Int) ≤ 12 ∧ (12 : Int) ≤ 65536) ∧ (g.1.length + 1 ≤ lim.1 ∧ xsl g.1 + xsz (1, Int.toNat 12) ≤ lim.2) ∧ xIs (g.1 ++ [(1, Int.toNat 12)], g.2) l0 (0, 7) ∧ aMo_init d lim Q 170 [xr l0] [] ((g.1 ++ [(1, Int.toNat 12)], g.2).1, xup (g.1 ++ [(1, Int.toNat 12)], g.2).2 l0 41 (g.1.length + 1)) w) :
    aMo_init d lim Q 162 [xr l0] [] g w := xAt_exec (cal_m d) kMo_init 5 t
set_option maxRecDepth 20000 in
theorem wMo_init_170 {d : Nat} {lim : Nat × Nat} {Q : xQ} {l0 : Nat} {g : xG} {w : xW} (t : ((0 : Int) ≤ 20 ∧ (20 : Int) ≤ 65536) ∧ (g.1.length + 1 ≤ lim.1 ∧ xsl g.1 + xsz (2, Int.toNat 20) ≤ lim.2) ∧ xIs (g.1 ++ [(2, Int.toNat 20)], g.2) l0 (0, 7) ∧ aMo_init d lim Q 178 [xr l0] [] ((g.1 ++ [(2, Int.toNat 20)], g.2).1, xup (g.1 ++ [(2, Int.toNat 20)], g.2).2 l0 42 (g.1.length + 1)) w) :
    aMo_init d lim Q 170 [xr l0] [] g w := xAt_exec (cal_m d) kMo_init 5 t
set_option maxRecDepth 20000 in
theorem wMo_init_178 {d : Nat} {lim : Nat × Nat} {Q : xQ} {l0 : Nat} {g : xG} {w : xW} (t : ((0 : Int) ≤ 8 ∧ (8 : Int) ≤ 65536) ∧ (g.1.length + 1 ≤ lim.1 ∧ xsl g.1 + xsz (1, Int.toNat 8) ≤ lim.2) ∧ xIs (g.1 ++ [(1, Int.toNat 8)], g.2) l0 (0, 7) ∧ aMo_init d lim Q 186 [xr l0] [] ((g.1 ++ [(1, Int.toNat 8)], g.2).1, xup (g.1 ++ [(1, Int.toNat 8)], g.2).2 l0 44 (g.1.length + 1)) w) :
    aMo_init d lim Q 178 [xr l0] [] g w := xAt_exec (cal_m d) kMo_init 5 t
set_option maxRecDepth 20000 in
theorem wMo_init_186 {d : Nat} {lim : Nat × Nat} {Q : xQ} {l0 : Nat} {g : xG} {w : xW} (t : ((0 : Int) ≤ 24 ∧ (24 : Int) ≤ 65536) ∧ (g.1.length + 1 ≤ lim.1 ∧ xsl g.1 + xsz (1, Int.toNat 24) ≤ lim.2) ∧ xIs (g.1 ++ [(1, Int.toNat 24)], g.2) l0 (0, 7) ∧ aMo_init d lim Q 194 [xr l0] [] ((g.1 ++ [(1, Int.toNat 24)], g.2).1, xup (g.1 ++ [(1, Int.toNat 24)], g.2).2 l0 46 (g.1.length + 1)) w) :
    aMo_init d lim Q 186 [xr l0] [] g w := xAt_exec (cal_m d) kMo_init 5 t
set_option maxRecDepth 20000 in
theorem wMo_init_194 {d : Nat} {lim : Nat × Nat} {Q : xQ} {l0 : Nat} {g : xG} {w : xW} (t : ((0 : Int) ≤ 20 ∧ (20 : Int) ≤ 65536) ∧ (g.1.length + 1 ≤ lim.1 ∧ xsl g.1 + xsz (1, Int.toNat 20) ≤ lim.2) ∧ xIs (g.1 ++ [(1, Int.toNat 20)], g.2) l0 (0, 7) ∧ aMo_init d lim Q 202 [xr l0] [] ((g.1 ++ [(1, Int.toNat 20)], g.2).1, xup (g.1 ++ [(1, Int.toNat 20)], g.2).2 l0 48 (g.1.length + 1)) w) :
    aMo_init d lim Q 194 [xr l0] [] g w := xAt_exec (cal_m d) kMo_init 5 t
set_option maxRecDepth 20000 in
theorem wMo_init_202 {d : Nat} {lim : Nat × Nat} {Q : xQ} {l0 : Nat} {g : xG} {w : xW} (t : xIs g l0 (0, 7) ∧ aMo_init d lim Q 207 [xr l0] [] g (xup w l0 50 (-1))) :
    aMo_init d lim Q 202 [xr l0] [] g w := xAt_exec (cal_m d) kMo_init 4 t
set_option maxRecDepth 20000 in
theorem wMo_init_207 {d : Nat} {lim : Nat × Nat} {Q : xQ} {l0 : Nat} {g : xG} {w : xW} (t : ((0 : Int) ≤ 6 ∧ (6 : Int) ≤ 65536) ∧ (g.1.length + 1 ≤ lim.1 ∧ xsl g.1 + xsz (1, Int.toNat 6) ≤ lim.2) ∧ xIs (g.1 ++ [(1, Int.toNat 6)], g.2) l0 (0, 7) ∧ aMo_init d lim Q 215 [xr l0] [] ((g.1 ++ [(1, Int.toNat 6)], g.2).1, xup (g.1 ++ [(1, Int.toNat 6)], g.2).2 l0 51 (g.1.length + 1)) w) :
    aMo_init d lim Q 207 [xr l0] [] g w := xAt_exec (cal_m d) kMo_init 5 t
set_option maxRecDepth 20000 in
theorem wMo_init_215 {d : Nat} {lim : Nat × Nat} {Q : xQ} {l0 : Nat} {g : xG} {w : xW} (t : xIs g l0 (0, 7) ∧ 
  cal d nMo_emptyNow [xr l0] g w (fun r g1 w1 => r = none ∧ xIs g1 l0 (0, 7) ∧ xA1 g1 (g1.2 l0 0) 139 ∧ Q none g1 (xup w1 (g1.2 l0 0) (Int.toNat 139) 3))) :
    aMo_init d lim Q 215 [xr l0] [] g w := xAt_exec (cal_m d) kMo_init 9 t
theorem eMo_init {d : Nat} {Q : xQ} {l0 : Nat} {g : xG} {w : xW} (t : aMo_init d (g.1.length + 25, xsl g.1 + 1092) (fun r g2 w2 => xchk (25, 1092) g g2 ∧ Q r g2 w2) 0 [xr l0] [] g w) : cal (d + 1) nMo_init [xr l0] g w Q := t
abbrev aLw_law (d : Nat) (lim : Nat × Nat) (Q : xQ) : xK := xAt xMks tLw_law (cal d) lim Q
def kLw_law : List (Nat × List Bool) := [(18, [true, true, true, true]), (176, [true, true, true, true]), (199, [true, true, true, true]), (212, [true, true, true, true]), (225, [true, true, true, true]), (248, [true, true, true, true]), (291, [true, true, true, true]), (334, [true, true, true, true]), (367, [true, true, true, true]), (400, [true, true, true, true]), (433, [true, true, true, true]), (462, [true, true, true, true]), (494, [true, true, true, true]), (502, [true, true, true, true]), (525, [true, true, true, true]), (558, [true, true, true, true]), (581, [true, true, true, true]), (604, [true, true, true, true]), (627, [true, true, true, true]), (650, [true, true, true, true]), (703, [true, true, true, true]), (746, [true, true, true, true]), (789, [true, true, true, true]), (832, [true, true, true, true]), (895, [true, true, true, true]), (918, [true, true, true, true]), (961, [true, true, true, true]), (974, [true, true, true, true]), (1007, [true, true, true, true]), (1030, [true, true, true, true]), (1073, [true, true, true, true]), (1106, [true, true, true, true]), (1119, [true, true, true, true]), (1142, [true, true, true, true]), (1165, [true, true, true, true])]
set_option maxRecDepth 20000 in
theorem wLw_law_0 {d : Nat} {lim : Nat × Nat} {Q : xQ} {l0 : Nat} {g : xG} {w : xW} (t : (g.1.length + 1 ≤ lim.1 ∧ xsl g.1 + xsz (0, 6) ≤ lim.2) ∧ xIs (g.1 ++ [(0, 6)], g.2) (g.1.length + 1) (0, 6) ∧ ((g.1 ++ [(0, 6)], g.2).1.length + 190 ≤ lim.1 ∧ xsl (g.1 ++ [(0, 6)], g.2).1 + 2565 ≤ lim.2) ∧ 
  cal d nFf_init [xr (g.1.length + 1)] (g.1 ++ [(0, 6)], g.2) w (fun r g1 w1 => r = none ∧ (g1.1.length + 1 ≤ lim.1 ∧ xsl g1.1 + xsz (0, 7) ≤ lim.2) ∧ xIs (g1.1 ++ [(0, 7)], g1.2) (g1.1.length + 1) (0, 7) ∧ ((g1.1 ++ [(0, 7)], g1.2).1.length + 25 ≤ lim.1 ∧ xsl (g1.1 ++ [(0, 7)], g1.2).1 + 1092 ≤ lim.2) ∧ 
    cal d nMo_init [xr (g1.1.length + 1)] (g1.1 ++ [(0, 7)], g1.2) w1 (fun r g2 w2 => r = none ∧ aLw_law d lim Q 18 [xr l0, xr (g.1.length + 1), xr (g1.1.length + 1), xi 0] [] g2 w2))) :
    aLw_law d lim Q 0 [xr l0, none, none, none] [] g w := xAt_exec (cal_m d) kLw_law 11 t
set_option maxRecDepth 20000 in
theorem wLw_law_18 {d : Nat} {lim : Nat × Nat} {Q : xQ} {l3 : Int} {l0 l1 l2 : Nat} {g : xG} {w : xW} (t : xAl g l0 ∧ x32 ((xlen g l0 : Nat) - 6) ∧ 
  ((((xlen g l0 : Nat) - 6) < l3) → ((1 : Int) = 0 ∨ (1 : Int) = 1) ∧ Q (some (xi 1)) g w) ∧
  ((l3 ≤ ((xlen g l0 : Nat) - 6)) → xAr g l0 l3 ∧ 
    (((xAnd (w l0 (Int.toNat l3)) 31) < 0 ∨ 31 < (xAnd (w l0 (Int.toNat l3)) 31)) → x32 (l3 + 6) ∧ aLw_law d lim Q 18 [xr l0, xr l1, xr l2, xi (l3 + 6)] [] g w) ∧
    (((xAnd (w l0 (Int.toNat l3)) 31) = 0) → aLw_law d lim Q 176 [xr l0, xr l1, xr l2, xi l3] [] g w) ∧
    (((xAnd (w l0 (Int.toNat l3)) 31) = 1) → aLw_law d lim Q 199 [xr l0, xr l1, xr l2, xi l3] [] g w) ∧
    (((xAnd (w l0 (Int.toNat l3)) 31) = 2) → aLw_law d lim Q 212 [xr l0, xr l1, xr l2, xi l3] [] g w) ∧
    (((xAnd (w l0 (Int.toNat l3)) 31) = 3) → aLw_law d lim Q 225 [xr l0, xr l1, xr l2, xi l3] [] g w) ∧
    (((xAnd (w l0 (Int.toNat l3)) 31) = 4) → aLw_law d lim Q 248 [xr l0, xr l1, xr l2, xi l3] [] g w) ∧
    (((xAnd (w l0 (Int.toNat l3)) 31) = 5) → aLw_law d lim Q 291 [xr l0, xr l1, xr l2, xi l3] [] g w) ∧
    (((xAnd (w l0 (Int.toNat l3)) 31) = 6) → aLw_law d lim Q 334 [xr l0, xr l1, xr l2, xi l3] [] g w) ∧
    (((xAnd (w l0 (Int.toNat l3)) 31) = 7) → aLw_law d lim Q 367 [xr l0, xr l1, xr l2, xi l3] [] g w) ∧
    (((xAnd (w l0 (Int.toNat l3)) 31) = 8) → aLw_law d lim Q 400 [xr l0, xr l1, xr l2, xi l3] [] g w) ∧
    (((xAnd (w l0 (Int.toNat l3)) 31) = 9) → aLw_law d lim Q 433 [xr l0, xr l1, xr l2, xi l3] [] g w) ∧
    (((xAnd (w l0 (Int.toNat l3)) 31) = 10) → aLw_law d lim Q 502 [xr l0, xr l1, xr l2, xi l3] [] g w) ∧
    (((xAnd (w l0 (Int.toNat l3)) 31) = 11) → aLw_law d lim Q 525 [xr l0, xr l1, xr l2, xi l3] [] g w) ∧
    (((xAnd (w l0 (Int.toNat l3)) 31) = 12) → aLw_law d lim Q 558 [xr l0, xr l1, xr l2, xi l3] [] g w) ∧
    (((xAnd (w l0 (Int.toNat l3)) 31) = 13) → aLw_law d lim Q 581 [xr l0, xr l1, xr l2, xi l3] [] g w) ∧
    (((xAnd (w l0 (Int.toNat l3)) 31) = 14) → aLw_law d lim Q 604 [xr l0, xr l1, xr l2, xi l3] [] g w) ∧
    (((xAnd (w l0 (Int.toNat l3)) 31) = 15) → aLw_law d lim Q 627 [xr l0, xr l1, xr l2, xi l3] [] g w) ∧
    (((xAnd (w l0 (Int.toNat l3)) 31) = 16) → aLw_law d lim Q 650 [xr l0, xr l1, xr l2, xi l3] [] g w) ∧
    (((xAnd (w l0 (Int.toNat l3)) 31) = 17) → aLw_law d lim Q 703 [xr l0, xr l1, xr l2, xi l3] [] g w) ∧
    (((xAnd (w l0 (Int.toNat l3)) 31) = 18) → aLw_law d lim Q 746 [xr l0, xr l1, xr l2, xi l3] [] g w) ∧
    (((xAnd (w l0 (Int.toNat l3)) 31) = 19) → aLw_law d lim Q 789 [xr l0, xr l1, xr l2, xi l3] [] g w) ∧
    (((xAnd (w l0 (Int.toNat l3)) 31) = 20) → aLw_law d lim Q 832 [xr l0, xr l1, xr l2, xi l3] [] g w) ∧
    (((xAnd (w l0 (Int.toNat l3)) 31) = 21) → aLw_law d lim Q 895 [xr l0, xr l1, xr l2, xi l3] [] g w) ∧
    (((xAnd (w l0 (Int.toNat l3)) 31) = 22) → aLw_law d lim Q 918 [xr l0, xr l1, xr l2, xi l3] [] g w) ∧
    (((xAnd (w l0 (Int.toNat l3)) 31) = 23) → aLw_law d lim Q 961 [xr l0, xr l1, xr l2, xi l3] [] g w) ∧
    (((xAnd (w l0 (Int.toNat l3)) 31) = 24) → aLw_law d lim Q 974 [xr l0, xr l1, xr l2, xi l3] [] g w) ∧
    (((xAnd (w l0 (Int.toNat l3)) 31) = 25) → aLw_law d lim Q 1007 [xr l0, xr l1, xr l2, xi l3] [] g w) ∧
    (((xAnd (w l0 (Int.toNat l3)) 31) = 26) → aLw_law d lim Q 1030 [xr l0, xr l1, xr l2, xi l3] [] g w) ∧
    (((xAnd (w l0 (Int.toNat l3)) 31) = 27) → aLw_law d lim Q 1073 [xr l0, xr l1, xr l2, xi l3] [] g w) ∧
    (((xAnd (w l0 (Int.toNat l3)) 31) = 28) → aLw_law d lim Q 1106 [xr l0, xr l1, xr l2, xi l3] [] g w) ∧
    (((xAnd (w l0 (Int.toNat l3)) 31) = 29) → aLw_law d lim Q 1119 [xr l0, xr l1, xr l2, xi l3] [] g w) ∧
    (((xAnd (w l0 (Int.toNat l3)) 31) = 30) → aLw_law d lim Q 1142 [xr l0, xr l1, xr l2, xi l3] [] g w) ∧
    (((xAnd (w l0 (Int.toNat l3)) 31) = 31) → aLw_law d lim Q 1165 [xr l0, xr l1, xr l2, xi l3] [] g w) ∧ True)) :
    aLw_law d lim Q 18 [xr l0, xr l1, xr l2, xi l3] [] g w := xAt_exec (cal_m d) kLw_law 15 t
set_option maxRecDepth 20000 in
theorem wLw_law_176 {d : Nat} {lim : Nat × Nat} {Q : xQ} {l3 : Int} {l0 l1 l2 : Nat} {g : xG} {w : xW} (t : x32 (l3 + 1) ∧ xAr g l0 (l3 + 1) ∧ xIs g l1 (0, 6) ∧ 
  cal d nFf_feed [xr l1, xi (w l0 (Int.toNat (l3 + 1)))] g w (fun r g1 w1 => ∃ v1 : Int, r = some (xi v1) ∧ x32 (l3 + 1) ∧ xAr g1 l0 (l3 + 1) ∧ xIs g1 l2 (0, 7) ∧ 
    cal d nMo_feed [xr l2, xi (w1 l0 (Int.toNat (l3 + 1)))] g1 w1 (fun r g2 w2 => ∃ v2 : Int, r = some (xi v2) ∧ 
      ((v1 = v2) → x32 (l3 + 6) ∧ aLw_law d lim Q 18 [xr l0, xr l1, xr l2, xi (l3 + 6)] [] g2 w2) ∧
      ((¬ v1 = v2) → ((0 : Int) = 0 ∨ (0 : Int) = 1) ∧ Q (some (xi 0)) g2 w2)))) :
    aLw_law d lim Q 176 [xr l0, xr l1, xr l2, xi l3] [] g w := xAt_exec (cal_m d) kLw_law 18 t
set_option maxRecDepth 20000 in
theorem wLw_law_199 {d : Nat} {lim : Nat × Nat} {Q : xQ} {l3 : Int} {l0 l1 l2 : Nat} {g : xG} {w : xW} (t : xIs g l1 (0, 6) ∧ 
  cal d nFf_town [xr l1] g w (fun r g1 w1 => ∃ v1 : Int, r = some (xi v1) ∧ xIs g1 l2 (0, 7) ∧ 
    cal d nMo_town [xr l2] g1 w1 (fun r g2 w2 => ∃ v2 : Int, r = some (xi v2) ∧ 
      ((v1 = v2) → x32 (l3 + 6) ∧ aLw_law d lim Q 18 [xr l0, xr l1, xr l2, xi (l3 + 6)] [] g2 w2) ∧
      ((¬ v1 = v2) → ((0 : Int) = 0 ∨ (0 : Int) = 1) ∧ Q (some (xi 0)) g2 w2)))) :
    aLw_law d lim Q 199 [xr l0, xr l1, xr l2, xi l3] [] g w := xAt_exec (cal_m d) kLw_law 8 t
set_option maxRecDepth 20000 in
theorem wLw_law_212 {d : Nat} {lim : Nat × Nat} {Q : xQ} {l3 : Int} {l0 l1 l2 : Nat} {g : xG} {w : xW} (t : xIs g l1 (0, 6) ∧ 
  cal d nFf_fault [xr l1] g w (fun r g1 w1 => ∃ v1 : Int, r = some (xi v1) ∧ xIs g1 l2 (0, 7) ∧ 
    cal d nMo_fault [xr l2] g1 w1 (fun r g2 w2 => ∃ v2 : Int, r = some (xi v2) ∧ 
      ((v1 = v2) → x32 (l3 + 6) ∧ aLw_law d lim Q 18 [xr l0, xr l1, xr l2, xi (l3 + 6)] [] g2 w2) ∧
      ((¬ v1 = v2) → ((0 : Int) = 0 ∨ (0 : Int) = 1) ∧ Q (some (xi 0)) g2 w2)))) :
    aLw_law d lim Q 212 [xr l0, xr l1, xr l2, xi l3] [] g w := xAt_exec (cal_m d) kLw_law 8 t
set_option maxRecDepth 20000 in
theorem wLw_law_225 {d : Nat} {lim : Nat × Nat} {Q : xQ} {l3 : Int} {l0 l1 l2 : Nat} {g : xG} {w : xW} (t : x32 (l3 + 1) ∧ xAr g l0 (l3 + 1) ∧ xIs g l1 (0, 6) ∧ 
  cal d nFf_told [xr l1, xi (w l0 (Int.toNat (l3 + 1)))] g w (fun r g1 w1 => ∃ v1 : Int, r = some (xi v1) ∧ x32 (l3 + 1) ∧ xAr g1 l0 (l3 + 1) ∧ xIs g1 l2 (0, 7) ∧ 
    cal d nMo_told [xr l2, xi (w1 l0 (Int.toNat (l3 + 1)))] g1 w1 (fun r g2 w2 => ∃ v2 : Int, r = some (xi v2) ∧ 
      ((v1 = v2) → x32 (l3 + 6) ∧ aLw_law d lim Q 18 [xr l0, xr l1, xr l2, xi (l3 + 6)] [] g2 w2) ∧
      ((¬ v1 = v2) → ((0 : Int) = 0 ∨ (0 : Int) = 1) ∧ Q (some (xi 0)) g2 w2)))) :
    aLw_law d lim Q 225 [xr l0, xr l1, xr l2, xi l3] [] g w := xAt_exec (cal_m d) kLw_law 18 t
set_option maxRecDepth 20000 in
theorem wLw_law_248 {d : Nat} {lim : Nat × Nat} {Q : xQ} {l3 : Int} {l0 l1 l2 : Nat} {g : xG} {w : xW} (t : x32 (l3 + 1) ∧ xAr g l0 (l3 + 1) ∧ x32 (l3 + 2) ∧ xAr g l0 (l3 + 2) ∧ x32 (l3 + 3) ∧ xAr g l0 (l3 + 3) ∧ xIs g l1 (0, 6) ∧ 
  cal d nFf_cell [xr l1, xi (w l0 (Int.toNat (l3 + 1))), xi (w l0 (Int.toNat (l3 + 2))), xi (w l0 (Int.toNat (l3 + 3)))] g w (fun r g1 w1 => ∃ v1 : Int, r = some (xi v1) ∧ x32 (l3 + 1) ∧ xAr g1 l0 (l3 + 1) ∧ x32 (l3 + 2) ∧ xAr g1 l0 (l3 + 2) ∧ x32 (l3 + 3) ∧ xAr g1 l0 (l3 + 3) ∧ xIs g1 l2 (0, 7) ∧ 
    cal d nMo_cell [xr l2, xi (w1 l0 (Int.toNat (l3 + 1))), xi (w1 l0 (Int.toNat (l3 + 2))), xi (w1 l0 (Int.toNat (l3 + 3)))] g1 w1 (fun r g2 w2 => ∃ v2 : Int, r = some (xi v2) ∧ 
      ((v1 = v2) → x32 (l3 + 6) ∧ aLw_law d lim Q 18 [xr l0, xr l1, xr l2, xi (l3 + 6)] [] g2 w2) ∧
      ((¬ v1 = v2) → ((0 : Int) = 0 ∨ (0 : Int) = 1) ∧ Q (some (xi 0)) g2 w2)))) :
    aLw_law d lim Q 248 [xr l0, xr l1, xr l2, xi l3] [] g w := xAt_exec (cal_m d) kLw_law 38 t
set_option maxRecDepth 20000 in
theorem wLw_law_291 {d : Nat} {lim : Nat × Nat} {Q : xQ} {l3 : Int} {l0 l1 l2 : Nat} {g : xG} {w : xW} (t : x32 (l3 + 1) ∧ xAr g l0 (l3 + 1) ∧ x32 (l3 + 2) ∧ xAr g l0 (l3 + 2) ∧ x32 (l3 + 3) ∧ xAr g l0 (l3 + 3) ∧ xIs g l1 (0, 6) ∧ 
  cal d nFf_wall [xr l1, xi (w l0 (Int.toNat (l3 + 1))), xi (w l0 (Int.toNat (l3 + 2))), xi (w l0 (Int.toNat (l3 + 3)))] g w (fun r g1 w1 => ∃ v1 : Int, r = some (xi v1) ∧ x32 (l3 + 1) ∧ xAr g1 l0 (l3 + 1) ∧ x32 (l3 + 2) ∧ xAr g1 l0 (l3 + 2) ∧ x32 (l3 + 3) ∧ xAr g1 l0 (l3 + 3) ∧ xIs g1 l2 (0, 7) ∧ 
    cal d nMo_wall [xr l2, xi (w1 l0 (Int.toNat (l3 + 1))), xi (w1 l0 (Int.toNat (l3 + 2))), xi (w1 l0 (Int.toNat (l3 + 3)))] g1 w1 (fun r g2 w2 => ∃ v2 : Int, r = some (xi v2) ∧ 
      ((v1 = v2) → x32 (l3 + 6) ∧ aLw_law d lim Q 18 [xr l0, xr l1, xr l2, xi (l3 + 6)] [] g2 w2) ∧
      ((¬ v1 = v2) → ((0 : Int) = 0 ∨ (0 : Int) = 1) ∧ Q (some (xi 0)) g2 w2)))) :
    aLw_law d lim Q 291 [xr l0, xr l1, xr l2, xi l3] [] g w := xAt_exec (cal_m d) kLw_law 38 t
set_option maxRecDepth 20000 in
theorem wLw_law_334 {d : Nat} {lim : Nat × Nat} {Q : xQ} {l3 : Int} {l0 l1 l2 : Nat} {g : xG} {w : xW} (t : x32 (l3 + 1) ∧ xAr g l0 (l3 + 1) ∧ x32 (l3 + 2) ∧ xAr g l0 (l3 + 2) ∧ xIs g l1 (0, 6) ∧ 
  cal d nFf_stove [xr l1, xi (w l0 (Int.toNat (l3 + 1))), xi (w l0 (Int.toNat (l3 + 2)))] g w (fun r g1 w1 => ∃ v1 : Int, r = some (xi v1) ∧ x32 (l3 + 1) ∧ xAr g1 l0 (l3 + 1) ∧ x32 (l3 + 2) ∧ xAr g1 l0 (l3 + 2) ∧ xIs g1 l2 (0, 7) ∧ 
    cal d nMo_stove [xr l2, xi (w1 l0 (Int.toNat (l3 + 1))), xi (w1 l0 (Int.toNat (l3 + 2)))] g1 w1 (fun r g2 w2 => ∃ v2 : Int, r = some (xi v2) ∧ 
      ((v1 = v2) → x32 (l3 + 6) ∧ aLw_law d lim Q 18 [xr l0, xr l1, xr l2, xi (l3 + 6)] [] g2 w2) ∧
      ((¬ v1 = v2) → ((0 : Int) = 0 ∨ (0 : Int) = 1) ∧ Q (some (xi 0)) g2 w2)))) :
    aLw_law d lim Q 334 [xr l0, xr l1, xr l2, xi l3] [] g w := xAt_exec (cal_m d) kLw_law 28 t
set_option maxRecDepth 20000 in
theorem wLw_law_367 {d : Nat} {lim : Nat × Nat} {Q : xQ} {l3 : Int} {l0 l1 l2 : Nat} {g : xG} {w : xW} (t : x32 (l3 + 1) ∧ xAr g l0 (l3 + 1) ∧ x32 (l3 + 2) ∧ xAr g l0 (l3 + 2) ∧ xIs g l1 (0, 6) ∧ 
  cal d nFf_person [xr l1, xi (w l0 (Int.toNat (l3 + 1))), xi (w l0 (Int.toNat (l3 + 2)))] g w (fun r g1 w1 => ∃ v1 : Int, r = some (xi v1) ∧ x32 (l3 + 1) ∧ xAr g1 l0 (l3 + 1) ∧ x32 (l3 + 2) ∧ xAr g1 l0 (l3 + 2) ∧ xIs g1 l2 (0, 7) ∧ 
    cal d nMo_person [xr l2, xi (w1 l0 (Int.toNat (l3 + 1))), xi (w1 l0 (Int.toNat (l3 + 2)))] g1 w1 (fun r g2 w2 => ∃ v2 : Int, r = some (xi v2) ∧ 
      ((v1 = v2) → x32 (l3 + 6) ∧ aLw_law d lim Q 18 [xr l0, xr l1, xr l2, xi (l3 + 6)] [] g2 w2) ∧
      ((¬ v1 = v2) → ((0 : Int) = 0 ∨ (0 : Int) = 1) ∧ Q (some (xi 0)) g2 w2)))) :
    aLw_law d lim Q 367 [xr l0, xr l1, xr l2, xi l3] [] g w := xAt_exec (cal_m d) kLw_law 28 t
set_option maxRecDepth 20000 in
theorem wLw_law_400 {d : Nat} {lim : Nat × Nat} {Q : xQ} {l3 : Int} {l0 l1 l2 : Nat} {g : xG} {w : xW} (t : x32 (l3 + 1) ∧ xAr g l0 (l3 + 1) ∧ x32 (l3 + 2) ∧ xAr g l0 (l3 + 2) ∧ xIs g l1 (0, 6) ∧ 
  cal d nFf_go [xr l1, xi (w l0 (Int.toNat (l3 + 1))), xi (w l0 (Int.toNat (l3 + 2)))] g w (fun r g1 w1 => ∃ v1 : Int, r = some (xi v1) ∧ x32 (l3 + 1) ∧ xAr g1 l0 (l3 + 1) ∧ x32 (l3 + 2) ∧ xAr g1 l0 (l3 + 2) ∧ xIs g1 l2 (0, 7) ∧ 
    cal d nMo_go [xr l2, xi (w1 l0 (Int.toNat (l3 + 1))), xi (w1 l0 (Int.toNat (l3 + 2)))] g1 w1 (fun r g2 w2 => ∃ v2 : Int, r = some (xi v2) ∧ 
      ((v1 = v2) → x32 (l3 + 6) ∧ aLw_law d lim Q 18 [xr l0, xr l1, xr l2, xi (l3 + 6)] [] g2 w2) ∧
      ((¬ v1 = v2) → ((0 : Int) = 0 ∨ (0 : Int) = 1) ∧ Q (some (xi 0)) g2 w2)))) :
    aLw_law d lim Q 400 [xr l0, xr l1, xr l2, xi l3] [] g w := xAt_exec (cal_m d) kLw_law 28 t
set_option maxRecDepth 20000 in
theorem wLw_law_433 {d : Nat} {lim : Nat × Nat} {Q : xQ} {l3 : Int} {l0 l1 l2 : Nat} {g : xG} {w : xW} (t : x32 (l3 + 1) ∧ xAr g l0 (l3 + 1) ∧ x32 (l3 + 2) ∧ xAr g l0 (l3 + 2) ∧ x32 (l3 + 3) ∧ xAr g l0 (l3 + 3) ∧ x32 (l3 + 4) ∧ xAr g l0 (l3 + 4) ∧ 
  (((w l0 (Int.toNat (l3 + 4))) = 0) → aLw_law d lim Q 462 [xr l0, xr l1, xr l2, xi l3] [xi 0, xi (w l0 (Int.toNat (l3 + 3))), xi (w l0 (Int.toNat (l3 + 2))), xi (w l0 (Int.toNat (l3 + 1))), xr l1] g w) ∧
  ((¬ (w l0 (Int.toNat (l3 + 4))) = 0) → aLw_law d lim Q 462 [xr l0, xr l1, xr l2, xi l3] [xi 1, xi (w l0 (Int.toNat (l3 + 3))), xi (w l0 (Int.toNat (l3 + 2))), xi (w l0 (Int.toNat (l3 + 1))), xr l1] g w)) :
    aLw_law d lim Q 433 [xr l0, xr l1, xr l2, xi l3] [] g w := xAt_exec (cal_m d) kLw_law 25 t
set_option maxRecDepth 20000 in
theorem wLw_law_462 {d : Nat} {lim : Nat × Nat} {Q : xQ} {l3 s1 s2 s3 s4 : Int} {l0 l1 l2 s0 : Nat} {g : xG} {w : xW} (t : xIs g s0 (0, 6) ∧ 
  cal d nFf_build [xr s0, xi s1, xi s2, xi s3, xi s4] g w (fun r g1 w1 => ∃ v1 : Int, r = some (xi v1) ∧ x32 (l3 + 1) ∧ xAr g1 l0 (l3 + 1) ∧ x32 (l3 + 2) ∧ xAr g1 l0 (l3 + 2) ∧ x32 (l3 + 3) ∧ xAr g1 l0 (l3 + 3) ∧ x32 (l3 + 4) ∧ xAr g1 l0 (l3 + 4) ∧ 
    (((w1 l0 (Int.toNat (l3 + 4))) = 0) → aLw_law d lim Q 494 [xr l0, xr l1, xr l2, xi l3] [xi 0, xi (w1 l0 (Int.toNat (l3 + 3))), xi (w1 l0 (Int.toNat (l3 + 2))), xi (w1 l0 (Int.toNat (l3 + 1))), xr l2, xi v1] g1 w1) ∧
    ((¬ (w1 l0 (Int.toNat (l3 + 4))) = 0) → aLw_law d lim Q 494 [xr l0, xr l1, xr l2, xi l3] [xi 1, xi (w1 l0 (Int.toNat (l3 + 3))), xi (w1 l0 (Int.toNat (l3 + 2))), xi (w1 l0 (Int.toNat (l3 + 1))), xr l2, xi v1] g1 w1))) :
    aLw_law d lim Q 462 [xr l0, xr l1, xr l2, xi l3] [xi s4, xi s3, xi s2, xi s1, xr s0] g w := xAt_exec (cal_m d) kLw_law 26 t
set_option maxRecDepth 20000 in
theorem wLw_law_494 {d : Nat} {lim : Nat × Nat} {Q : xQ} {l3 s0 s2 s3 s4 s5 : Int} {l0 l1 l2 s1 : Nat} {g : xG} {w : xW} (t : xIs g s1 (0, 7) ∧ 
  cal d nMo_build [xr s1, xi s2, xi s3, xi s4, xi s5] g w (fun r g1 w1 => ∃ v1 : Int, r = some (xi v1) ∧ 
    ((s0 = v1) → x32 (l3 + 6) ∧ aLw_law d lim Q 18 [xr l0, xr l1, xr l2, xi (l3 + 6)] [] g1 w1) ∧
    ((¬ s0 = v1) → ((0 : Int) = 0 ∨ (0 : Int) = 1) ∧ Q (some (xi 0)) g1 w1))) :
    aLw_law d lim Q 494 [xr l0, xr l1, xr l2, xi l3] [xi s5, xi s4, xi s3, xi s2, xr s1, xi s0] g w := xAt_exec (cal_m d) kLw_law 5 t
set_option maxRecDepth 20000 in
theorem wLw_law_502 {d : Nat} {lim : Nat × Nat} {Q : xQ} {l3 : Int} {l0 l1 l2 : Nat} {g : xG} {w : xW} (t : x32 (l3 + 1) ∧ xAr g l0 (l3 + 1) ∧ xIs g l1 (0, 6) ∧ 
  cal d nFf_light [xr l1, xi (w l0 (Int.toNat (l3 + 1)))] g w (fun r g1 w1 => ∃ v1 : Int, r = some (xi v1) ∧ x32 (l3 + 1) ∧ xAr g1 l0 (l3 + 1) ∧ xIs g1 l2 (0, 7) ∧ 
    cal d nMo_light [xr l2, xi (w1 l0 (Int.toNat (l3 + 1)))] g1 w1 (fun r g2 w2 => ∃ v2 : Int, r = some (xi v2) ∧ 
      ((v1 = v2) → x32 (l3 + 6) ∧ aLw_law d lim Q 18 [xr l0, xr l1, xr l2, xi (l3 + 6)] [] g2 w2) ∧
      ((¬ v1 = v2) → ((0 : Int) = 0 ∨ (0 : Int) = 1) ∧ Q (some (xi 0)) g2 w2)))) :
    aLw_law d lim Q 502 [xr l0, xr l1, xr l2, xi l3] [] g w := xAt_exec (cal_m d) kLw_law 18 t
set_option maxRecDepth 20000 in
theorem wLw_law_525 {d : Nat} {lim : Nat × Nat} {Q : xQ} {l3 : Int} {l0 l1 l2 : Nat} {g : xG} {w : xW} (t : x32 (l3 + 1) ∧ xAr g l0 (l3 + 1) ∧ x32 (l3 + 2) ∧ xAr g l0 (l3 + 2) ∧ xIs g l1 (0, 6) ∧ 
  cal d nFf_stoke [xr l1, xi (w l0 (Int.toNat (l3 + 1))), xi (w l0 (Int.toNat (l3 + 2)))] g w (fun r g1 w1 => ∃ v1 : Int, r = some (xi v1) ∧ x32 (l3 + 1) ∧ xAr g1 l0 (l3 + 1) ∧ x32 (l3 + 2) ∧ xAr g1 l0 (l3 + 2) ∧ xIs g1 l2 (0, 7) ∧ 
    cal d nMo_stoke [xr l2, xi (w1 l0 (Int.toNat (l3 + 1))), xi (w1 l0 (Int.toNat (l3 + 2)))] g1 w1 (fun r g2 w2 => ∃ v2 : Int, r = some (xi v2) ∧ 
      ((v1 = v2) → x32 (l3 + 6) ∧ aLw_law d lim Q 18 [xr l0, xr l1, xr l2, xi (l3 + 6)] [] g2 w2) ∧
      ((¬ v1 = v2) → ((0 : Int) = 0 ∨ (0 : Int) = 1) ∧ Q (some (xi 0)) g2 w2)))) :
    aLw_law d lim Q 525 [xr l0, xr l1, xr l2, xi l3] [] g w := xAt_exec (cal_m d) kLw_law 28 t
set_option maxRecDepth 20000 in
theorem wLw_law_558 {d : Nat} {lim : Nat × Nat} {Q : xQ} {l3 : Int} {l0 l1 l2 : Nat} {g : xG} {w : xW} (t : x32 (l3 + 1) ∧ xAr g l0 (l3 + 1) ∧ xIs g l1 (0, 6) ∧ 
  cal d nFf_law [xr l1, xi (w l0 (Int.toNat (l3 + 1)))] g w (fun r g1 w1 => ∃ v1 : Int, r = some (xi v1) ∧ x32 (l3 + 1) ∧ xAr g1 l0 (l3 + 1) ∧ xIs g1 l2 (0, 7) ∧ 
    cal d nMo_law [xr l2, xi (w1 l0 (Int.toNat (l3 + 1)))] g1 w1 (fun r g2 w2 => ∃ v2 : Int, r = some (xi v2) ∧ 
      ((v1 = v2) → x32 (l3 + 6) ∧ aLw_law d lim Q 18 [xr l0, xr l1, xr l2, xi (l3 + 6)] [] g2 w2) ∧
      ((¬ v1 = v2) → ((0 : Int) = 0 ∨ (0 : Int) = 1) ∧ Q (some (xi 0)) g2 w2)))) :
    aLw_law d lim Q 558 [xr l0, xr l1, xr l2, xi l3] [] g w := xAt_exec (cal_m d) kLw_law 18 t
set_option maxRecDepth 20000 in
theorem wLw_law_581 {d : Nat} {lim : Nat × Nat} {Q : xQ} {l3 : Int} {l0 l1 l2 : Nat} {g : xG} {w : xW} (t : x32 (l3 + 1) ∧ xAr g l0 (l3 + 1) ∧ xIs g l1 (0, 6) ∧ 
  cal d nFf_last [xr l1, xi (w l0 (Int.toNat (l3 + 1)))] g w (fun r g1 w1 => ∃ v1 : Int, r = some (xi v1) ∧ x32 (l3 + 1) ∧ xAr g1 l0 (l3 + 1) ∧ xIs g1 l2 (0, 7) ∧ 
    cal d nMo_last [xr l2, xi (w1 l0 (Int.toNat (l3 + 1)))] g1 w1 (fun r g2 w2 => ∃ v2 : Int, r = some (xi v2) ∧ 
      ((v1 = v2) → x32 (l3 + 6) ∧ aLw_law d lim Q 18 [xr l0, xr l1, xr l2, xi (l3 + 6)] [] g2 w2) ∧
      ((¬ v1 = v2) → ((0 : Int) = 0 ∨ (0 : Int) = 1) ∧ Q (some (xi 0)) g2 w2)))) :
    aLw_law d lim Q 581 [xr l0, xr l1, xr l2, xi l3] [] g w := xAt_exec (cal_m d) kLw_law 18 t
set_option maxRecDepth 20000 in
theorem wLw_law_604 {d : Nat} {lim : Nat × Nat} {Q : xQ} {l3 : Int} {l0 l1 l2 : Nat} {g : xG} {w : xW} (t : x32 (l3 + 1) ∧ xAr g l0 (l3 + 1) ∧ xIs g l1 (0, 6) ∧ 
  cal d nFf_minute [xr l1, xi (w l0 (Int.toNat (l3 + 1)))] g w (fun r g1 w1 => ∃ v1 : Int, r = some (xi v1) ∧ x32 (l3 + 1) ∧ xAr g1 l0 (l3 + 1) ∧ xIs g1 l2 (0, 7) ∧ 
    cal d nMo_minute [xr l2, xi (w1 l0 (Int.toNat (l3 + 1)))] g1 w1 (fun r g2 w2 => ∃ v2 : Int, r = some (xi v2) ∧ 
      ((v1 = v2) → x32 (l3 + 6) ∧ aLw_law d lim Q 18 [xr l0, xr l1, xr l2, xi (l3 + 6)] [] g2 w2) ∧
      ((¬ v1 = v2) → ((0 : Int) = 0 ∨ (0 : Int) = 1) ∧ Q (some (xi 0)) g2 w2)))) :
    aLw_law d lim Q 604 [xr l0, xr l1, xr l2, xi l3] [] g w := xAt_exec (cal_m d) kLw_law 18 t
set_option maxRecDepth 20000 in
theorem wLw_law_627 {d : Nat} {lim : Nat × Nat} {Q : xQ} {l3 : Int} {l0 l1 l2 : Nat} {g : xG} {w : xW} (t : x32 (l3 + 1) ∧ xAr g l0 (l3 + 1) ∧ xIs g l1 (0, 6) ∧ 
  cal d nFf_drift [xr l1, xi (w l0 (Int.toNat (l3 + 1)))] g w (fun r g1 w1 => ∃ v1 : Int, r = some (xi v1) ∧ x32 (l3 + 1) ∧ xAr g1 l0 (l3 + 1) ∧ xIs g1 l2 (0, 7) ∧ 
    cal d nMo_drift [xr l2, xi (w1 l0 (Int.toNat (l3 + 1)))] g1 w1 (fun r g2 w2 => ∃ v2 : Int, r = some (xi v2) ∧ 
      ((v1 = v2) → x32 (l3 + 6) ∧ aLw_law d lim Q 18 [xr l0, xr l1, xr l2, xi (l3 + 6)] [] g2 w2) ∧
      ((¬ v1 = v2) → ((0 : Int) = 0 ∨ (0 : Int) = 1) ∧ Q (some (xi 0)) g2 w2)))) :
    aLw_law d lim Q 627 [xr l0, xr l1, xr l2, xi l3] [] g w := xAt_exec (cal_m d) kLw_law 18 t
set_option maxRecDepth 20000 in
theorem wLw_law_650 {d : Nat} {lim : Nat × Nat} {Q : xQ} {l3 : Int} {l0 l1 l2 : Nat} {g : xG} {w : xW} (t : x32 (l3 + 1) ∧ xAr g l0 (l3 + 1) ∧ x32 (l3 + 2) ∧ xAr g l0 (l3 + 2) ∧ x32 (l3 + 3) ∧ xAr g l0 (l3 + 3) ∧ x32 (l3 + 4) ∧ xAr g l0 (l3 + 4) ∧ xIs g l1 (0, 6) ∧ 
  cal d nFf_then [xr l1, xi (w l0 (Int.toNat (l3 + 1))), xi (w l0 (Int.toNat (l3 + 2))), xi (w l0 (Int.toNat (l3 + 3))), xi (w l0 (Int.toNat (l3 + 4)))] g w (fun r g1 w1 => ∃ v1 : Int, r = some (xi v1) ∧ x32 (l3 + 1) ∧ xAr g1 l0 (l3 + 1) ∧ x32 (l3 + 2) ∧ xAr g1 l0 (l3 + 2) ∧ x32 (l3 + 3) ∧ xAr g1 l0 (l3 + 3) ∧ x32 (l3 + 4) ∧ xAr g1 l0 (l3 + 4) ∧ xIs g1 l2 (0, 7) ∧ 
    cal d nMo_then [xr l2, xi (w1 l0 (Int.toNat (l3 + 1))), xi (w1 l0 (Int.toNat (l3 + 2))), xi (w1 l0 (Int.toNat (l3 + 3))), xi (w1 l0 (Int.toNat (l3 + 4)))] g1 w1 (fun r g2 w2 => ∃ v2 : Int, r = some (xi v2) ∧ 
      ((v1 = v2) → x32 (l3 + 6) ∧ aLw_law d lim Q 18 [xr l0, xr l1, xr l2, xi (l3 + 6)] [] g2 w2) ∧
      ((¬ v1 = v2) → ((0 : Int) = 0 ∨ (0 : Int) = 1) ∧ Q (some (xi 0)) g2 w2)))) :
    aLw_law d lim Q 650 [xr l0, xr l1, xr l2, xi l3] [] g w := xAt_exec (cal_m d) kLw_law 48 t
set_option maxRecDepth 20000 in
theorem wLw_law_703 {d : Nat} {lim : Nat × Nat} {Q : xQ} {l3 : Int} {l0 l1 l2 : Nat} {g : xG} {w : xW} (t : x32 (l3 + 1) ∧ xAr g l0 (l3 + 1) ∧ x32 (l3 + 2) ∧ xAr g l0 (l3 + 2) ∧ x32 (l3 + 3) ∧ xAr g l0 (l3 + 3) ∧ xIs g l1 (0, 6) ∧ 
  cal d nFf_stands [xr l1, xi (w l0 (Int.toNat (l3 + 1))), xi (w l0 (Int.toNat (l3 + 2))), xi (w l0 (Int.toNat (l3 + 3)))] g w (fun r g1 w1 => ∃ v1 : Int, r = some (xi v1) ∧ x32 (l3 + 1) ∧ xAr g1 l0 (l3 + 1) ∧ x32 (l3 + 2) ∧ xAr g1 l0 (l3 + 2) ∧ x32 (l3 + 3) ∧ xAr g1 l0 (l3 + 3) ∧ xIs g1 l2 (0, 7) ∧ 
    cal d nMo_stands [xr l2, xi (w1 l0 (Int.toNat (l3 + 1))), xi (w1 l0 (Int.toNat (l3 + 2))), xi (w1 l0 (Int.toNat (l3 + 3)))] g1 w1 (fun r g2 w2 => ∃ v2 : Int, r = some (xi v2) ∧ 
      ((v1 = v2) → x32 (l3 + 6) ∧ aLw_law d lim Q 18 [xr l0, xr l1, xr l2, xi (l3 + 6)] [] g2 w2) ∧
      ((¬ v1 = v2) → ((0 : Int) = 0 ∨ (0 : Int) = 1) ∧ Q (some (xi 0)) g2 w2)))) :
    aLw_law d lim Q 703 [xr l0, xr l1, xr l2, xi l3] [] g w := xAt_exec (cal_m d) kLw_law 38 t
set_option maxRecDepth 20000 in
theorem wLw_law_746 {d : Nat} {lim : Nat × Nat} {Q : xQ} {l3 : Int} {l0 l1 l2 : Nat} {g : xG} {w : xW} (t : x32 (l3 + 1) ∧ xAr g l0 (l3 + 1) ∧ x32 (l3 + 2) ∧ xAr g l0 (l3 + 2) ∧ x32 (l3 + 3) ∧ xAr g l0 (l3 + 3) ∧ xIs g l1 (0, 6) ∧ 
  cal d nFf_lightFor [xr l1, xi (w l0 (Int.toNat (l3 + 1))), xi (w l0 (Int.toNat (l3 + 2))), xi (w l0 (Int.toNat (l3 + 3)))] g w (fun r g1 w1 => ∃ v1 : Int, r = some (xi v1) ∧ x32 (l3 + 1) ∧ xAr g1 l0 (l3 + 1) ∧ x32 (l3 + 2) ∧ xAr g1 l0 (l3 + 2) ∧ x32 (l3 + 3) ∧ xAr g1 l0 (l3 + 3) ∧ xIs g1 l2 (0, 7) ∧ 
    cal d nMo_lightFor [xr l2, xi (w1 l0 (Int.toNat (l3 + 1))), xi (w1 l0 (Int.toNat (l3 + 2))), xi (w1 l0 (Int.toNat (l3 + 3)))] g1 w1 (fun r g2 w2 => ∃ v2 : Int, r = some (xi v2) ∧ 
      ((v1 = v2) → x32 (l3 + 6) ∧ aLw_law d lim Q 18 [xr l0, xr l1, xr l2, xi (l3 + 6)] [] g2 w2) ∧
      ((¬ v1 = v2) → ((0 : Int) = 0 ∨ (0 : Int) = 1) ∧ Q (some (xi 0)) g2 w2)))) :
    aLw_law d lim Q 746 [xr l0, xr l1, xr l2, xi l3] [] g w := xAt_exec (cal_m d) kLw_law 38 t
set_option maxRecDepth 20000 in
theorem wLw_law_789 {d : Nat} {lim : Nat × Nat} {Q : xQ} {l3 : Int} {l0 l1 l2 : Nat} {g : xG} {w : xW} (t : x32 (l3 + 1) ∧ xAr g l0 (l3 + 1) ∧ x32 (l3 + 2) ∧ xAr g l0 (l3 + 2) ∧ x32 (l3 + 3) ∧ xAr g l0 (l3 + 3) ∧ xIs g l1 (0, 6) ∧ 
  cal d nFf_keptOut [xr l1, xi (w l0 (Int.toNat (l3 + 1))), xi (w l0 (Int.toNat (l3 + 2))), xi (w l0 (Int.toNat (l3 + 3)))] g w (fun r g1 w1 => ∃ v1 : Int, r = some (xi v1) ∧ x32 (l3 + 1) ∧ xAr g1 l0 (l3 + 1) ∧ x32 (l3 + 2) ∧ xAr g1 l0 (l3 + 2) ∧ x32 (l3 + 3) ∧ xAr g1 l0 (l3 + 3) ∧ xIs g1 l2 (0, 7) ∧ 
    cal d nMo_keptOut [xr l2, xi (w1 l0 (Int.toNat (l3 + 1))), xi (w1 l0 (Int.toNat (l3 + 2))), xi (w1 l0 (Int.toNat (l3 + 3)))] g1 w1 (fun r g2 w2 => ∃ v2 : Int, r = some (xi v2) ∧ 
      ((v1 = v2) → x32 (l3 + 6) ∧ aLw_law d lim Q 18 [xr l0, xr l1, xr l2, xi (l3 + 6)] [] g2 w2) ∧
      ((¬ v1 = v2) → ((0 : Int) = 0 ∨ (0 : Int) = 1) ∧ Q (some (xi 0)) g2 w2)))) :
    aLw_law d lim Q 789 [xr l0, xr l1, xr l2, xi l3] [] g w := xAt_exec (cal_m d) kLw_law 38 t
set_option maxRecDepth 20000 in
theorem wLw_law_832 {d : Nat} {lim : Nat × Nat} {Q : xQ} {l3 : Int} {l0 l1 l2 : Nat} {g : xG} {w : xW} (t : x32 (l3 + 1) ∧ xAr g l0 (l3 + 1) ∧ x32 (l3 + 2) ∧ xAr g l0 (l3 + 2) ∧ x32 (l3 + 3) ∧ xAr g l0 (l3 + 3) ∧ x32 (l3 + 4) ∧ xAr g l0 (l3 + 4) ∧ x32 (l3 + 5) ∧ xAr g l0 (l3 + 5) ∧ xIs g l1 (0, 6) ∧ 
  cal d nFf_gain [xr l1, xi (w l0 (Int.toNat (l3 + 1))), xi (w l0 (Int.toNat (l3 + 2))), xi (w l0 (Int.toNat (l3 + 3))), xi (w l0 (Int.toNat (l3 + 4))), xi (w l0 (Int.toNat (l3 + 5)))] g w (fun r g1 w1 => ∃ v1 : Int, r = some (xi v1) ∧ x32 (l3 + 1) ∧ xAr g1 l0 (l3 + 1) ∧ x32 (l3 + 2) ∧ xAr g1 l0 (l3 + 2) ∧ x32 (l3 + 3) ∧ xAr g1 l0 (l3 + 3) ∧ x32 (l3 + 4) ∧ xAr g1 l0 (l3 + 4) ∧ x32 (l3 + 5) ∧ xAr g1 l0 (l3 + 5) ∧ xIs g1 l2 (0, 7) ∧ 
    cal d nMo_gain [xr l2, xi (w1 l0 (Int.toNat (l3 + 1))), xi (w1 l0 (Int.toNat (l3 + 2))), xi (w1 l0 (Int.toNat (l3 + 3))), xi (w1 l0 (Int.toNat (l3 + 4))), xi (w1 l0 (Int.toNat (l3 + 5)))] g1 w1 (fun r g2 w2 => ∃ v2 : Int, r = some (xi v2) ∧ 
      ((v1 = v2) → x32 (l3 + 6) ∧ aLw_law d lim Q 18 [xr l0, xr l1, xr l2, xi (l3 + 6)] [] g2 w2) ∧
      ((¬ v1 = v2) → ((0 : Int) = 0 ∨ (0 : Int) = 1) ∧ Q (some (xi 0)) g2 w2)))) :
    aLw_law d lim Q 832 [xr l0, xr l1, xr l2, xi l3] [] g w := xAt_exec (cal_m d) kLw_law 58 t
set_option maxRecDepth 20000 in
theorem wLw_law_895 {d : Nat} {lim : Nat × Nat} {Q : xQ} {l3 : Int} {l0 l1 l2 : Nat} {g : xG} {w : xW} (t : x32 (l3 + 1) ∧ xAr g l0 (l3 + 1) ∧ xIs g l1 (0, 6) ∧ 
  cal d nFf_rents [xr l1, xi (w l0 (Int.toNat (l3 + 1)))] g w (fun r g1 w1 => ∃ v1 : Int, r = some (xi v1) ∧ x32 (l3 + 1) ∧ xAr g1 l0 (l3 + 1) ∧ xIs g1 l2 (0, 7) ∧ 
    cal d nMo_rents [xr l2, xi (w1 l0 (Int.toNat (l3 + 1)))] g1 w1 (fun r g2 w2 => ∃ v2 : Int, r = some (xi v2) ∧ 
      ((v1 = v2) → x32 (l3 + 6) ∧ aLw_law d lim Q 18 [xr l0, xr l1, xr l2, xi (l3 + 6)] [] g2 w2) ∧
      ((¬ v1 = v2) → ((0 : Int) = 0 ∨ (0 : Int) = 1) ∧ Q (some (xi 0)) g2 w2)))) :
    aLw_law d lim Q 895 [xr l0, xr l1, xr l2, xi l3] [] g w := xAt_exec (cal_m d) kLw_law 18 t
set_option maxRecDepth 20000 in
theorem wLw_law_918 {d : Nat} {lim : Nat × Nat} {Q : xQ} {l3 : Int} {l0 l1 l2 : Nat} {g : xG} {w : xW} (t : x32 (l3 + 1) ∧ xAr g l0 (l3 + 1) ∧ x32 (l3 + 2) ∧ xAr g l0 (l3 + 2) ∧ x32 (l3 + 3) ∧ xAr g l0 (l3 + 3) ∧ xIs g l1 (0, 6) ∧ 
  cal d nFf_claim [xr l1, xi (w l0 (Int.toNat (l3 + 1))), xi (w l0 (Int.toNat (l3 + 2))), xi (w l0 (Int.toNat (l3 + 3)))] g w (fun r g1 w1 => ∃ v1 : Int, r = some (xi v1) ∧ x32 (l3 + 1) ∧ xAr g1 l0 (l3 + 1) ∧ x32 (l3 + 2) ∧ xAr g1 l0 (l3 + 2) ∧ x32 (l3 + 3) ∧ xAr g1 l0 (l3 + 3) ∧ xIs g1 l2 (0, 7) ∧ 
    cal d nMo_claim [xr l2, xi (w1 l0 (Int.toNat (l3 + 1))), xi (w1 l0 (Int.toNat (l3 + 2))), xi (w1 l0 (Int.toNat (l3 + 3)))] g1 w1 (fun r g2 w2 => ∃ v2 : Int, r = some (xi v2) ∧ 
      ((v1 = v2) → x32 (l3 + 6) ∧ aLw_law d lim Q 18 [xr l0, xr l1, xr l2, xi (l3 + 6)] [] g2 w2) ∧
      ((¬ v1 = v2) → ((0 : Int) = 0 ∨ (0 : Int) = 1) ∧ Q (some (xi 0)) g2 w2)))) :
    aLw_law d lim Q 918 [xr l0, xr l1, xr l2, xi l3] [] g w := xAt_exec (cal_m d) kLw_law 38 t
set_option maxRecDepth 20000 in
theorem wLw_law_961 {d : Nat} {lim : Nat × Nat} {Q : xQ} {l3 : Int} {l0 l1 l2 : Nat} {g : xG} {w : xW} (t : xIs g l1 (0, 6) ∧ 
  cal d nFf_forged [xr l1] g w (fun r g1 w1 => ∃ v1 : Int, r = some (xi v1) ∧ xIs g1 l2 (0, 7) ∧ 
    cal d nMo_forged [xr l2] g1 w1 (fun r g2 w2 => ∃ v2 : Int, r = some (xi v2) ∧ 
      ((v1 = v2) → x32 (l3 + 6) ∧ aLw_law d lim Q 18 [xr l0, xr l1, xr l2, xi (l3 + 6)] [] g2 w2) ∧
      ((¬ v1 = v2) → ((0 : Int) = 0 ∨ (0 : Int) = 1) ∧ Q (some (xi 0)) g2 w2)))) :
    aLw_law d lim Q 961 [xr l0, xr l1, xr l2, xi l3] [] g w := xAt_exec (cal_m d) kLw_law 8 t
set_option maxRecDepth 20000 in
theorem wLw_law_974 {d : Nat} {lim : Nat × Nat} {Q : xQ} {l3 : Int} {l0 l1 l2 : Nat} {g : xG} {w : xW} (t : x32 (l3 + 1) ∧ xAr g l0 (l3 + 1) ∧ x32 (l3 + 2) ∧ xAr g l0 (l3 + 2) ∧ xIs g l1 (0, 6) ∧ 
  cal d nFf_cold [xr l1, xi (w l0 (Int.toNat (l3 + 1))), xi (w l0 (Int.toNat (l3 + 2)))] g w (fun r g1 w1 => ∃ v1 : Int, r = some (xi v1) ∧ x32 (l3 + 1) ∧ xAr g1 l0 (l3 + 1) ∧ x32 (l3 + 2) ∧ xAr g1 l0 (l3 + 2) ∧ xIs g1 l2 (0, 7) ∧ 
    cal d nMo_cold [xr l2, xi (w1 l0 (Int.toNat (l3 + 1))), xi (w1 l0 (Int.toNat (l3 + 2)))] g1 w1 (fun r g2 w2 => ∃ v2 : Int, r = some (xi v2) ∧ 
      ((v1 = v2) → x32 (l3 + 6) ∧ aLw_law d lim Q 18 [xr l0, xr l1, xr l2, xi (l3 + 6)] [] g2 w2) ∧
      ((¬ v1 = v2) → ((0 : Int) = 0 ∨ (0 : Int) = 1) ∧ Q (some (xi 0)) g2 w2)))) :
    aLw_law d lim Q 974 [xr l0, xr l1, xr l2, xi l3] [] g w := xAt_exec (cal_m d) kLw_law 28 t
set_option maxRecDepth 20000 in
theorem wLw_law_1007 {d : Nat} {lim : Nat × Nat} {Q : xQ} {l3 : Int} {l0 l1 l2 : Nat} {g : xG} {w : xW} (t : x32 (l3 + 1) ∧ xAr g l0 (l3 + 1) ∧ xIs g l1 (0, 6) ∧ 
  cal d nFf_mildest [xr l1, xi (w l0 (Int.toNat (l3 + 1)))] g w (fun r g1 w1 => ∃ v1 : Int, r = some (xi v1) ∧ x32 (l3 + 1) ∧ xAr g1 l0 (l3 + 1) ∧ xIs g1 l2 (0, 7) ∧ 
    cal d nMo_mildest [xr l2, xi (w1 l0 (Int.toNat (l3 + 1)))] g1 w1 (fun r g2 w2 => ∃ v2 : Int, r = some (xi v2) ∧ 
      ((v1 = v2) → x32 (l3 + 6) ∧ aLw_law d lim Q 18 [xr l0, xr l1, xr l2, xi (l3 + 6)] [] g2 w2) ∧
      ((¬ v1 = v2) → ((0 : Int) = 0 ∨ (0 : Int) = 1) ∧ Q (some (xi 0)) g2 w2)))) :
    aLw_law d lim Q 1007 [xr l0, xr l1, xr l2, xi l3] [] g w := xAt_exec (cal_m d) kLw_law 18 t
set_option maxRecDepth 20000 in
theorem wLw_law_1030 {d : Nat} {lim : Nat × Nat} {Q : xQ} {l3 : Int} {l0 l1 l2 : Nat} {g : xG} {w : xW} (t : x32 (l3 + 1) ∧ xAr g l0 (l3 + 1) ∧ x32 (l3 + 2) ∧ xAr g l0 (l3 + 2) ∧ x32 (l3 + 3) ∧ xAr g l0 (l3 + 3) ∧ xIs g l1 (0, 6) ∧ 
  cal d nFf_deed [xr l1, xi (w l0 (Int.toNat (l3 + 1))), xi (w l0 (Int.toNat (l3 + 2))), xi (w l0 (Int.toNat (l3 + 3)))] g w (fun r g1 w1 => ∃ v1 : Int, r = some (xi v1) ∧ x32 (l3 + 1) ∧ xAr g1 l0 (l3 + 1) ∧ x32 (l3 + 2) ∧ xAr g1 l0 (l3 + 2) ∧ x32 (l3 + 3) ∧ xAr g1 l0 (l3 + 3) ∧ xIs g1 l2 (0, 7) ∧ 
    cal d nMo_deed [xr l2, xi (w1 l0 (Int.toNat (l3 + 1))), xi (w1 l0 (Int.toNat (l3 + 2))), xi (w1 l0 (Int.toNat (l3 + 3)))] g1 w1 (fun r g2 w2 => ∃ v2 : Int, r = some (xi v2) ∧ 
      ((v1 = v2) → x32 (l3 + 6) ∧ aLw_law d lim Q 18 [xr l0, xr l1, xr l2, xi (l3 + 6)] [] g2 w2) ∧
      ((¬ v1 = v2) → ((0 : Int) = 0 ∨ (0 : Int) = 1) ∧ Q (some (xi 0)) g2 w2)))) :
    aLw_law d lim Q 1030 [xr l0, xr l1, xr l2, xi l3] [] g w := xAt_exec (cal_m d) kLw_law 38 t
set_option maxRecDepth 20000 in
theorem wLw_law_1073 {d : Nat} {lim : Nat × Nat} {Q : xQ} {l3 : Int} {l0 l1 l2 : Nat} {g : xG} {w : xW} (t : x32 (l3 + 1) ∧ xAr g l0 (l3 + 1) ∧ x32 (l3 + 2) ∧ xAr g l0 (l3 + 2) ∧ xIs g l1 (0, 6) ∧ 
  cal d nFf_wasLit [xr l1, xi (w l0 (Int.toNat (l3 + 1))), xi (w l0 (Int.toNat (l3 + 2)))] g w (fun r g1 w1 => ∃ v1 : Int, r = some (xi v1) ∧ x32 (l3 + 1) ∧ xAr g1 l0 (l3 + 1) ∧ x32 (l3 + 2) ∧ xAr g1 l0 (l3 + 2) ∧ xIs g1 l2 (0, 7) ∧ 
    cal d nMo_wasLit [xr l2, xi (w1 l0 (Int.toNat (l3 + 1))), xi (w1 l0 (Int.toNat (l3 + 2)))] g1 w1 (fun r g2 w2 => ∃ v2 : Int, r = some (xi v2) ∧ 
      ((v1 = v2) → x32 (l3 + 6) ∧ aLw_law d lim Q 18 [xr l0, xr l1, xr l2, xi (l3 + 6)] [] g2 w2) ∧
      ((¬ v1 = v2) → ((0 : Int) = 0 ∨ (0 : Int) = 1) ∧ Q (some (xi 0)) g2 w2)))) :
    aLw_law d lim Q 1073 [xr l0, xr l1, xr l2, xi l3] [] g w := xAt_exec (cal_m d) kLw_law 28 t
set_option maxRecDepth 20000 in
theorem wLw_law_1106 {d : Nat} {lim : Nat × Nat} {Q : xQ} {l3 : Int} {l0 l1 l2 : Nat} {g : xG} {w : xW} (t : xIs g l1 (0, 6) ∧ 
  cal d nFf_tear [xr l1] g w (fun r g1 w1 => ∃ v1 : Int, r = some (xi v1) ∧ xIs g1 l2 (0, 7) ∧ 
    cal d nMo_tear [xr l2] g1 w1 (fun r g2 w2 => ∃ v2 : Int, r = some (xi v2) ∧ 
      ((v1 = v2) → x32 (l3 + 6) ∧ aLw_law d lim Q 18 [xr l0, xr l1, xr l2, xi (l3 + 6)] [] g2 w2) ∧
      ((¬ v1 = v2) → ((0 : Int) = 0 ∨ (0 : Int) = 1) ∧ Q (some (xi 0)) g2 w2)))) :
    aLw_law d lim Q 1106 [xr l0, xr l1, xr l2, xi l3] [] g w := xAt_exec (cal_m d) kLw_law 8 t
set_option maxRecDepth 20000 in
theorem wLw_law_1119 {d : Nat} {lim : Nat × Nat} {Q : xQ} {l3 : Int} {l0 l1 l2 : Nat} {g : xG} {w : xW} (t : x32 (l3 + 1) ∧ xAr g l0 (l3 + 1) ∧ xIs g l1 (0, 6) ∧ 
  cal d nFf_seed [xr l1, xi (w l0 (Int.toNat (l3 + 1)))] g w (fun r g1 w1 => ∃ v1 : Int, r = some (xi v1) ∧ x32 (l3 + 1) ∧ xAr g1 l0 (l3 + 1) ∧ xIs g1 l2 (0, 7) ∧ 
    cal d nMo_seed [xr l2, xi (w1 l0 (Int.toNat (l3 + 1)))] g1 w1 (fun r g2 w2 => ∃ v2 : Int, r = some (xi v2) ∧ 
      ((v1 = v2) → x32 (l3 + 6) ∧ aLw_law d lim Q 18 [xr l0, xr l1, xr l2, xi (l3 + 6)] [] g2 w2) ∧
      ((¬ v1 = v2) → ((0 : Int) = 0 ∨ (0 : Int) = 1) ∧ Q (some (xi 0)) g2 w2)))) :
    aLw_law d lim Q 1119 [xr l0, xr l1, xr l2, xi l3] [] g w := xAt_exec (cal_m d) kLw_law 18 t
set_option maxRecDepth 20000 in
theorem wLw_law_1142 {d : Nat} {lim : Nat × Nat} {Q : xQ} {l3 : Int} {l0 l1 l2 : Nat} {g : xG} {w : xW} (t : x32 (l3 + 1) ∧ xAr g l0 (l3 + 1) ∧ xIs g l1 (0, 6) ∧ 
  cal d nFf_keep [xr l1, xi (w l0 (Int.toNat (l3 + 1)))] g w (fun r g1 w1 => ∃ v1 : Int, r = some (xi v1) ∧ x32 (l3 + 1) ∧ xAr g1 l0 (l3 + 1) ∧ xIs g1 l2 (0, 7) ∧ 
    cal d nMo_keep [xr l2, xi (w1 l0 (Int.toNat (l3 + 1)))] g1 w1 (fun r g2 w2 => ∃ v2 : Int, r = some (xi v2) ∧ 
      ((v1 = v2) → x32 (l3 + 6) ∧ aLw_law d lim Q 18 [xr l0, xr l1, xr l2, xi (l3 + 6)] [] g2 w2) ∧
      ((¬ v1 = v2) → ((0 : Int) = 0 ∨ (0 : Int) = 1) ∧ Q (some (xi 0)) g2 w2)))) :
    aLw_law d lim Q 1142 [xr l0, xr l1, xr l2, xi l3] [] g w := xAt_exec (cal_m d) kLw_law 18 t
set_option maxRecDepth 20000 in
theorem wLw_law_1165 {d : Nat} {lim : Nat × Nat} {Q : xQ} {l3 : Int} {l0 l1 l2 : Nat} {g : xG} {w : xW} (t : x32 (l3 + 1) ∧ xAr g l0 (l3 + 1) ∧ xIs g l1 (0, 6) ∧ 
  cal d nFf_goBack [xr l1, xi (w l0 (Int.toNat (l3 + 1)))] g w (fun r g1 w1 => ∃ v1 : Int, r = some (xi v1) ∧ x32 (l3 + 1) ∧ xAr g1 l0 (l3 + 1) ∧ xIs g1 l2 (0, 7) ∧ 
    cal d nMo_goBack [xr l2, xi (w1 l0 (Int.toNat (l3 + 1)))] g1 w1 (fun r g2 w2 => ∃ v2 : Int, r = some (xi v2) ∧ 
      ((v1 = v2) → x32 (l3 + 6) ∧ aLw_law d lim Q 18 [xr l0, xr l1, xr l2, xi (l3 + 6)] [] g2 w2) ∧
      ((¬ v1 = v2) → ((0 : Int) = 0 ∨ (0 : Int) = 1) ∧ Q (some (xi 0)) g2 w2)))) :
    aLw_law d lim Q 1165 [xr l0, xr l1, xr l2, xi l3] [] g w := xAt_exec (cal_m d) kLw_law 18 t
