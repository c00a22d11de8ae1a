/-! ===== what a town and its state ARE: rows of numbers; a minute ===== -/
abbrev zS : Type := Nat → Nat → Int
/-- a row is put in -/
def zset (σ : zS) (r : Nat) (f : Nat → Int) : zS := fun r2 i => if r2 = r then f i else σ r2 i
theorem zset_s {σ : zS} {r : Nat} {f : Nat → Int} {i : Nat} : zset σ r f r i = f i := by simp [zset]
theorem zset_n {σ : zS} {r r2 : Nat} {f : Nat → Int} {i : Nat} (h : r2 ≠ r) : zset σ r f r2 i = σ r2 i := by simp [zset, h]
def zup (f : Nat → Int) (k : Nat) (v : Int) : Nat → Int := fun j => if j = k then v else f j
theorem zup_s {f : Nat → Int} {k : Nat} {v : Int} : zup f k v k = v := by simp [zup]
theorem zup_n {f : Nat → Int} {k j : Nat} {v : Int} (h : j ≠ k) : zup f k v j = f j := by simp [zup, h]
/-- land: row 0: width, height, stoves, roofs, hours, people; 1 roofs, 2 sun, 3 stoves' cells, 4 what they give, 5 noses, 6 fevers -/
def nC (t : zS) : Nat := (t 0 0 * t 0 1).toNat
def nS (t : zS) : Nat := (t 0 2).toNat
def nP (t : zS) : Nat := (t 0 5).toNat
/-- state: 0 heat, 1 walls east, 2 walls south, 3 owners, 4 felt, 5 wood, 6 burning, 7 where, 8 skins, 9 owed, 10 due, 11 partners, 12: law, lasting, minutes, seed, frozen -/
def LInv (t : zS) : Prop := ((t 0 0 = 0 ∧ t 0 1 = 0 ∧ t 0 2 = 0 ∧ t 0 5 = 0) ∨ (1 ≤ t 0 0 ∧ t 0 0 ≤ 6 ∧ 1 ≤ t 0 1 ∧ t 0 1 ≤ 6 ∧ t 0 0 * t 0 1 ≤ 20)) ∧ (0 ≤ t 0 2 ∧ t 0 2 ≤ 4) ∧ (0 ≤ t 0 3 ∧ t 0 3 ≤ 12) ∧ (0 ≤ t 0 4 ∧ t 0 4 ≤ 8) ∧ (0 ≤ t 0 5 ∧ t 0 5 ≤ 6) ∧
  (∀ i, i < nC t → t 1 i = 0 ∨ t 1 i = 1) ∧ (∀ i : Nat, (i : Int) < t 0 4 → 0 ≤ t 2 i ∧ t 2 i ≤ 30) ∧ (∀ i, i < nS t → (0 ≤ t 3 i ∧ t 3 i < nC t) ∧ (1 ≤ t 4 i ∧ t 4 i ≤ 60)) ∧ ∀ i, i < nP t → (1 ≤ t 5 i ∧ t 5 i ≤ 60) ∧ (0 ≤ t 6 i ∧ t 6 i ≤ 9)
def SInv (t s : zS) : Prop := (∀ i, i < nC t → (0 ≤ s 0 i ∧ s 0 i ≤ 999) ∧ (-1 ≤ s 3 i ∧ s 3 i < t 0 5) ∧ (0 ≤ s 4 i ∧ s 4 i ≤ s 12 2)) ∧ (∀ i, (s 1 i = 0 ∨ s 1 i = 1) ∧ (s 2 i = 0 ∨ s 2 i = 1)) ∧ (∀ i, nC t ≤ i → s 1 i = 0 ∧ s 2 i = 0) ∧ (∀ i, i < nS t → (0 ≤ s 5 i ∧ s 5 i ≤ 999) ∧ (s 6 i = 0 ∨ (s 6 i = 1 ∧ 1 ≤ s 5 i))) ∧
  (∀ i, i < nP t → (0 ≤ s 7 i ∧ s 7 i < nC t) ∧ (0 ≤ s 8 i ∧ s 8 i ≤ 999) ∧ (0 ≤ s 9 i ∧ s 9 i ≤ 999999) ∧ (0 ≤ s 10 i ∧ s 10 i ≤ 999999) ∧ (0 ≤ s 11 i ∧ s 11 i < 64)) ∧ (0 ≤ s 12 0 ∧ s 12 0 ≤ 3) ∧ (1 ≤ s 12 1 ∧ s 12 1 ≤ 20) ∧ (0 ≤ s 12 2 ∧ s 12 2 ≤ 1000000000) ∧ (0 ≤ s 12 3 ∧ s 12 3 ≤ 2147483647) ∧ (0 ≤ s 12 4 ∧ s 12 4 < 64)
/-- the cell beside, walls or not -/
def nbr (t : zS) (c d : Int) : Int := if d = 1 then (if 0 < c / t 0 0 then c - t 0 0 else -1) else if d = 2 then (if c % t 0 0 < t 0 0 - 1 then c + 1 else -1) else if d = 3 then (if c / t 0 0 < t 0 1 - 1 then c + t 0 0 else -1) else if d = 4 then (if 0 < c % t 0 0 then c - 1 else -1) else c
/-- whether a wall stands that way (where there is a cell beside) -/
def wlf (t s : zS) (c d : Int) : Int := if d = 1 then s 2 (c - t 0 0).toNat else if d = 2 then s 1 c.toNat else if d = 3 then s 2 c.toNat else if d = 4 then s 1 (c - 1).toNat else 0
def wyy (t s : zS) (c d : Int) : Int := if nbr t c d = -1 then -1 else if wlf t s c d = 0 then nbr t c d else -1
def fl1 (t s : zS) (c : Nat) (d : Int) : Int := if wyy t s c d = -1 then 0 else (s 0 (wyy t s c d).toNat - s 0 c).tdiv 8
def flw (t s : zS) (c : Nat) : Int := fl1 t s c 1 + fl1 t s c 2 + fl1 t s c 3 + fl1 t s c 4
def sunv (t : zS) (m : Int) : Int := if t 0 4 = 0 then 0 else t 2 (m / 6 % t 0 4).toNat
/-- sums -/
def zsm (f : Nat → Int) : Nat → Int
  | 0 => 0
  | n + 1 => zsm f n + f n
def hv (t s : zS) (c : Nat) : Int := s 0 c + flw t s c + (if t 1 c = 0 then sunv t (s 12 2) else 0) + zsm (fun k => if s 6 k = 1 ∧ t 3 k = c then t 4 k else 0) (nS t) + zsm (fun p => if s 7 p = c then t 6 p else 0) (nP t)
def h1 (t s : zS) (c : Nat) : Int := min 999 (hv t s c - hv t s c / 50)
/-- behind (a): heats, wood, stoves -/
def stA (t s : zS) : zS := zset (zset (zset s 0 (h1 t s)) 5 (fun k => if s 6 k = 1 then s 5 k - 1 else s 5 k)) 6 (fun k => if s 6 k = 1 then (if 0 < s 5 k - 1 then 1 else 0) else s 6 k)
/-- who feels, behind (a) -/
def feB (t s : zS) (numb : Int) (p : Nat) : Bool := !decide ((p : Int) = numb) && decide (s 8 p + t 5 p ≤ s 0 (s 7 p).toNat)
/-- a set of those, as both programs gather it -/
def msk (f : Nat → Bool) (z : Int) : Nat → Int
  | 0 => z
  | n + 1 => if f n then xOr (msk f z n) (xShl 1 n) else msk f z n
/-- (c): the coldest of those who feel on a cell -/
def bst (s : zS) (fe : Nat → Bool) (c : Int) : Nat → Int
  | 0 => -1
  | n + 1 => if fe n = true ∧ s 7 n = c ∧ (bst s fe c n = -1 ∨ s 8 n < s 8 (bst s fe c n).toNat) then n else bst s fe c n
def ow1 (t s : zS) (fe : Nat → Bool) (c : Nat) : Int := if s 3 c = -1 then bst s fe c (nP t) else s 3 c
def ft1 (t s : zS) (fe : Nat → Bool) (c : Nat) : Int := if ow1 t s fe c ≠ -1 ∧ fe (ow1 t s fe c).toNat = true ∧ s 7 (ow1 t s fe c).toNat = c then s 12 2 else s 4 c
def stB (t s : zS) (fe : Nat → Bool) : zS := zset (zset s 3 (ow1 t s fe)) 4 (ft1 t s fe)
/-- (d): owning that ends -/
def ow2 (s : zS) (c : Nat) : Int := if (s 12 0 = 1 ∧ s 12 1 < s 12 2 - s 4 c) ∨ (s 12 0 = 2 ∧ s 3 c ≠ -1 ∧ s 7 (s 3 c).toNat ≠ c) then -1 else s 3 c
def stC (s : zS) : zS := zset s 3 (ow2 s)
/-- (d): partners -/
def prt (s : zS) (fe : Nat → Bool) : Nat → Nat → Int
  | 0 => s 11
  | n + 1 => if s 12 0 = 3 ∧ fe n = true ∧ s 3 (s 7 n).toNat ≠ -1 ∧ s 3 (s 7 n).toNat ≠ n then zup (zup (prt s fe n) n (xOr (prt s fe n n) (xShl 1 (s 3 (s 7 n).toNat)))) (s 3 (s 7 n).toNat).toNat (xOr (zup (prt s fe n) n (xOr (prt s fe n n) (xShl 1 (s 3 (s 7 n).toNat))) (s 3 (s 7 n).toNat).toNat) (xShl 1 n)) else prt s fe n
def stD (t s : zS) (fe : Nat → Bool) : zS := zset s 11 (prt s fe (nP t))
/-- (e): whether a cell is warm and another one's who is no partner -/
def isO (s : zS) (p : Nat) (c : Nat) : Bool := decide (s 3 c ≠ -1) && decide (s 3 c ≠ p) && decide (xAnd (xShr (s 11 p) (s 3 c)) 1 = 0) && decide (50 ≤ s 0 c)
def owe (s : zS) : Nat → zS
  | 0 => s
  | n + 1 => if isO s n (s 7 n).toNat = true then zset (zset (owe s n) 9 (zup (owe s n 9) n (min 999999 (owe s n 9 n + 1)))) 10 (zup (owe s n 10) (s 3 (s 7 n).toNat).toNat (min 999999 (owe s n 10 (s 3 (s 7 n).toNat).toNat + 1))) else owe s n
/-- (f), (g) -/
def skn (s : zS) (p : Nat) : Int := s 8 p + (s 0 (s 7 p).toNat - s 8 p).tdiv 4
def stF (t s : zS) : zS := zset (zset s 8 (skn s)) 12 (zup (zup (s 12) 4 (msk (fun p => decide (skn s p < 20)) (s 12 4) (nP t))) 2 (s 12 2 + 1))
def step (t : zS) (numb : Int) (s : zS) : zS := stF t (owe (stD t (stC (stB t (stA t s) (feB t (stA t s) numb))) (feB t (stA t s) numb)) (nP t))
def steps (t : zS) (numb : Int) : Nat → zS → zS
  | 0, s => s
  | n + 1, s => steps t numb n (step t numb s)
