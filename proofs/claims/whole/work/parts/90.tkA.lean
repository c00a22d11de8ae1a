/-! ===== the text: what it means ===== -/
abbrev zT : Type := Nat → Int
def skU (T : zT) (L : Nat) : Nat → Nat → Nat
  | 0, i => i
  | k + 1, i => if i < L ∧ T i = 32 then skU T L k (i + 1) else i
/-- behind blanks -/
def sk (T : zT) (L i : Nat) : Nat := skU T L (L - i) i
def fgU (T : zT) (L : Nat) : Nat → Nat → Nat
  | 0, _ => 0
  | k + 1, i => if i < L ∧ 48 ≤ T i ∧ T i ≤ 57 then fgU T L k (i + 1) + 1 else 0
/-- how many figures -/
def fg (T : zT) (L i : Nat) : Nat := fgU T L (L - i) i
def vlU (T : zT) (i : Nat) : Nat → Int
  | 0 => 0
  | n + 1 => 10 * vlU T i n + T (i + n) - 48
/-- a number within bounds: (it, where one goes on), or (-1 or -2, where the fault is) -/
def rnm (T : zT) (L : Nat) (lo hi : Int) (i : Nat) : Int × Nat := if fg T L (sk T L i) = 0 then (-1, sk T L i) else if 3 < fg T L (sk T L i) ∨ vlU T (sk T L i) (fg T L (sk T L i)) < lo ∨ hi < vlU T (sk T L i) (fg T L (sk T L i)) then (-2, sk T L i) else (vlU T (sk T L i) (fg T L (sk T L i)), sk T L i + fg T L (sk T L i))
/-- 0 and what was read so far, or a fault's kind and place -/
abbrev zPR : Type := Int × Nat × zS × zS × Int
def flt1 (k : Int) (i : Nat) : zPR := (k, i, fun _ _ => 0, fun _ _ => 0, 0)
def pNum (T : zT) (L : Nat) (lo hi : Int) (i : Nat) (K : Int → Nat → zPR) : zPR := if (rnm T L lo hi i).1 < 0 then flt1 (-(rnm T L lo hi i).1) (rnm T L lo hi i).2 else K (rnm T L lo hi i).1 (rnm T L lo hi i).2
def pEnd (T : zT) (L i : Nat) (t s : zS) (wl : Int) : zPR := if sk T L i < L ∧ T (sk T L i) = 59 then (0, sk T L i + 1, t, s, wl) else flt1 1 (sk T L i)
def pCell (T : zT) (L : Nat) (t : zS) (i : Nat) (K : Nat → Nat → Nat → zPR) : zPR := pNum T L 0 (t 0 0 - 1) i fun x j => pNum T L 0 (t 0 1 - 1) j fun y j2 => K (y * t 0 0 + x).toNat j2 (sk T L j)
def pTown (T : zT) (L i : Nat) (t s : zS) (wl : Int) : zPR := pNum T L 1 6 i fun x j => pNum T L 1 (min 6 (20 / x)) j fun y j2 => pNum T L 0 200 j2 fun b j3 => pEnd T L j3 (zset t 0 (zup (zup (t 0) 0 x) 1 y)) (zset s 0 (fun _ => b)) wl
def pWall (T : zT) (L i : Nat) (t s : zS) (wl : Int) : zPR := pCell T L t i fun c j _ => pNum T L 0 1 j fun d j2 => if nbr t c (2 + d) = -1 then flt1 2 (sk T L j) else if s (1 + d.toNat) c = 0 then pEnd T L j2 t (bld s d.toNat c 1) (wl + 1) else flt1 4 (sk T L j)
def hsU (t : zS) (c : Int) : Nat → Bool
  | 0 => false
  | n + 1 => hsU t c n || decide (t 3 n = c)
def stT (t : zS) (c v : Int) : zS := zset (zset (zset t 3 (zup (t 3) (nS t) c)) 4 (zup (t 4) (nS t) v)) 0 (zup (t 0) 2 (t 0 2 + 1))
def stS (t s : zS) (f : Int) : zS := zset s 5 (zup (s 5) (nS t) f)
def pStove (T : zT) (L i : Nat) (t s : zS) (wl : Int) : zPR := pCell T L t i fun c j a => if hsU t c (nS t) = true then flt1 4 a else pNum T L 1 60 j fun v j2 => pNum T L 0 99 j2 fun f j3 => pEnd T L j3 (stT t c v) (stS t s f) wl
def rfT (t : zS) (c : Nat) : zS := zset (zset t 1 (zup (t 1) c 1)) 0 (zup (t 0) 3 (t 0 3 + 1))
def pRoof (T : zT) (L i : Nat) (t s : zS) (wl : Int) : zPR := pCell T L t i fun c j a => if t 1 c = 0 then pEnd T L j (rfT t c) s wl else flt1 4 a
def snT (t : zS) (h : Nat) (v : Int) : zS := zset (zset t 2 (zup (t 2) h v)) 0 (zup (t 0) 4 (h + 1))
def pSun (T : zT) (L : Nat) (s : zS) (wl : Int) : Nat → Nat → Nat → zS → zPR
  | 0, _, i, _ => flt1 1 i
  | n + 1, h, i, t => pNum T L 0 30 i fun v j => if h + 1 < 8 ∧ sk T L j < L ∧ T (sk T L j) = 44 then pSun T L s wl n (h + 1) (sk T L j + 1) (snT t h v) else pEnd T L j (snT t h v) s wl
def prT (t : zS) (u v : Int) : zS := zset (zset (zset t 5 (zup (t 5) (nP t) u)) 6 (zup (t 6) (nP t) v)) 0 (zup (t 0) 5 (t 0 5 + 1))
def prS (t s : zS) (c k : Int) : zS := zset (zset s 7 (zup (s 7) (nP t) c)) 8 (zup (s 8) (nP t) k)
def pPers (T : zT) (L i : Nat) (t s : zS) (wl : Int) : zPR := pCell T L t i fun c j _ => pNum T L 0 300 j fun k j2 => pNum T L 1 60 j2 fun u j3 => pNum T L 0 9 j3 fun v j4 => pEnd T L j4 (prT t u v) (prS t s c k) wl
def pCls (T : zT) (L i : Nat) (t s : zS) (wl : Int) : zPR := if t 0 0 = 0 then (if T i = 116 then pTown T L (i + 1) t s wl else flt1 1 i) else if T i = 116 then flt1 3 i else if T i = 119 then (if wl < 12 then pWall T L (i + 1) t s wl else flt1 3 i) else if T i = 111 then (if t 0 2 < 4 then pStove T L (i + 1) t s wl else flt1 3 i) else if T i = 114 then (if t 0 3 < 12 then pRoof T L (i + 1) t s wl else flt1 3 i) else if T i = 115 then (if t 0 4 = 0 then pSun T L s wl 8 0 (i + 1) t else flt1 3 i) else if T i = 112 then (if t 0 5 < 6 then pPers T L (i + 1) t s wl else flt1 3 i) else flt1 1 i
def pAll (T : zT) (L : Nat) : Nat → Nat → zS → zS → Int → zPR
  | 0, i, t, s, wl => (0, i, t, s, wl)
  | n + 1, i, t, s, wl => if sk T L i < L then (if (pCls T L (sk T L i) t s wl).1 = 0 then pAll T L n (pCls T L (sk T L i) t s wl).2.1 (pCls T L (sk T L i) t s wl).2.2.1 (pCls T L (sk T L i) t s wl).2.2.2.1 (pCls T L (sk T L i) t s wl).2.2.2.2 else pCls T L (sk T L i) t s wl) else (0, i, t, s, wl)
section TKA
variable {T : zT} {L : Nat} {t s : zS} {wl : Int}
theorem skU_b : ∀ k i, i + k = L → i ≤ skU T L k i ∧ skU T L k i ≤ L
  | 0, i, h => by unfold skU; omega
  | k + 1, i, h => by
    unfold skU
    split
    · have := skU_b k (i + 1) (by omega); omega
    · omega
theorem sk_b {i : Nat} (h : i ≤ L) : i ≤ sk T L i ∧ sk T L i ≤ L := skU_b _ _ (by omega)
theorem skU_n : ∀ k i, i + k = L → skU T L k i < L → T (skU T L k i) ≠ 32
  | 0, i, h, h2 => by unfold skU at h2; omega
  | k + 1, i, h, h2 => by
    unfold skU at h2 ⊢
    split at h2
    · rename_i q
      rw [if_pos q]; exact skU_n k (i + 1) (by omega) h2
    · rename_i q
      rw [if_neg q]; exact fun z => q ⟨h2, z⟩
theorem sk_n {i : Nat} (h : i ≤ L) (h2 : sk T L i < L) : T (sk T L i) ≠ 32 := skU_n _ _ (by omega) h2
theorem sk_sk {i : Nat} (h : i ≤ L) : sk T L (sk T L i) = sk T L i := by
  by_cases q : sk T L i < L
  · have := sk_n h q
    show skU T L (L - sk T L i) (sk T L i) = sk T L i
    rw [show L - sk T L i = (L - sk T L i - 1) + 1 by omega, skU, if_neg (fun z => this z.2)]
  · show skU T L (L - sk T L i) (sk T L i) = sk T L i
    rw [show L - sk T L i = 0 by omega, skU]
theorem fgU_b : ∀ k i, i + k = L → i + fgU T L k i ≤ L
  | 0, i, h => by unfold fgU; omega
  | k + 1, i, h => by
    unfold fgU
    split
    · have := fgU_b k (i + 1) (by omega); omega
    · omega
theorem fg_b {i : Nat} (h : i ≤ L) : i + fg T L i ≤ L := fgU_b _ _ (by omega)
theorem fgU_d : ∀ k i, i + k = L → ∀ j, j < fgU T L k i → 48 ≤ T (i + j) ∧ T (i + j) ≤ 57
  | 0, i, h, j, hj => by unfold fgU at hj; omega
  | k + 1, i, h, j, hj => by
    unfold fgU at hj
    split at hj
    · rename_i q
      by_cases z : j = 0
      · subst z; exact q.2
      · have := fgU_d k (i + 1) (by omega) (j - 1) (by omega)
        rw [show i + 1 + (j - 1) = i + j by omega] at this; exact this
    · omega
theorem fg_d {i : Nat} (h : i ≤ L) {j : Nat} (hj : j < fg T L i) : 48 ≤ T (i + j) ∧ T (i + j) ≤ 57 := fgU_d _ _ (by omega) j hj
theorem vlU_b {i : Nat} : ∀ n, (∀ j, j < n → 48 ≤ T (i + j) ∧ T (i + j) ≤ 57) → n ≤ 3 → 0 ≤ vlU T i n ∧ vlU T i n ≤ 999 ∧ (n ≤ 2 → vlU T i n ≤ 99) ∧ (n ≤ 1 → vlU T i n ≤ 9) ∧ (n = 0 → vlU T i n = 0)
  | 0, _, _ => by unfold vlU; omega
  | n + 1, h, hn => by
    have ih := vlU_b (i := i) n (fun j hj => h j (by omega)) (by omega)
    have := h n (by omega)
    unfold vlU
    omega
theorem rnm_in {lo hi : Int} {i : Nat} (h : i ≤ L) (h0 : 0 ≤ (rnm T L lo hi i).1) : lo ≤ (rnm T L lo hi i).1 ∧ (rnm T L lo hi i).1 ≤ hi ∧ i < (rnm T L lo hi i).2 ∧ (rnm T L lo hi i).2 ≤ L ∧ 0 < fg T L (sk T L i) ∧ fg T L (sk T L i) ≤ 3 ∧ (rnm T L lo hi i) = (vlU T (sk T L i) (fg T L (sk T L i)), sk T L i + fg T L (sk T L i)) := by
  have b := sk_b (T := T) h
  have f := fg_b (T := T) b.2
  unfold rnm at h0 ⊢
  split at h0
  · exact absurd (show (0 : Int) ≤ -1 from h0) (by decide)
  · rename_i q
    rw [if_neg q]
    split at h0
    · exact absurd (show (0 : Int) ≤ -2 from h0) (by decide)
    · rename_i q2
      rw [if_neg q2]
      refine ⟨?_, ?_, ?_, f, by omega, by omega, rfl⟩
      · show lo ≤ vlU T (sk T L i) (fg T L (sk T L i)); omega
      · show vlU T (sk T L i) (fg T L (sk T L i)) ≤ hi; omega
      · show i < sk T L i + fg T L (sk T L i); omega
theorem rnm_fl {lo hi : Int} {i : Nat} (h0 : (rnm T L lo hi i).1 < 0) (hlo : 0 ≤ lo) (h : i ≤ L) : (rnm T L lo hi i).2 = sk T L i ∧ ((fg T L (sk T L i) = 0 ∧ (rnm T L lo hi i).1 = -1) ∨ (0 < fg T L (sk T L i) ∧ (3 < fg T L (sk T L i) ∨ vlU T (sk T L i) (fg T L (sk T L i)) < lo ∨ hi < vlU T (sk T L i) (fg T L (sk T L i))) ∧ (rnm T L lo hi i).1 = -2)) := by
  unfold rnm at h0 ⊢
  split at h0
  · rename_i q
    rw [if_pos q]; exact ⟨rfl, Or.inl ⟨q, rfl⟩⟩
  · rename_i q
    rw [if_neg q]
    split at h0
    · rename_i q2
      rw [if_pos q2]; exact ⟨rfl, Or.inr ⟨by omega, q2, rfl⟩⟩
    · rename_i q2
      have h0 : vlU T (sk T L i) (fg T L (sk T L i)) < 0 := h0
      omega
theorem pNum_ok {lo hi : Int} {i : Nat} {K : Int → Nat → zPR} (h : 0 ≤ (rnm T L lo hi i).1) : pNum T L lo hi i K = K (rnm T L lo hi i).1 (rnm T L lo hi i).2 := if_neg (by omega)
theorem pNum_fl {lo hi : Int} {i : Nat} {K : Int → Nat → zPR} (h : (rnm T L lo hi i).1 < 0) : pNum T L lo hi i K = flt1 (-(rnm T L lo hi i).1) (rnm T L lo hi i).2 := if_pos h
end TKA
