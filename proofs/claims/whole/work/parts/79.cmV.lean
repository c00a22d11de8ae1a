/-! ===== walls: command wall, a wall put or taken ===== -/
def oRW (t : zS) (x y d : Int) : Int := if cAt t x y = -1 then -1000000001 else if 0 ≤ d ∧ d ≤ 1 then (if nbr t (cAt t x y) (2 + d) = -1 then -1000000001 else 0) else -1000000002
def oWall (t s : zS) (x y d : Int) : Int := if oRW t x y d = 0 then s (1 + d.toNat) (cAt t x y).toNat else oRW t x y d
def bld (s : zS) (d c : Nat) (v : Int) : zS := zset s (1 + d) (zup (s (1 + d)) c v)
/-- a bit put or taken as the class does it -/
def bst1 (v x : Int) (b : Nat) : Int := if v = 0 then xAnd x (xXor (xShl 1 (b : Int)) (-1)) else xOr x (xShl 1 (b : Int))
def bsm (a : Nat → Nat) : Int := 2 * (a 1 : Int) + 4 * (a 2 : Int) + 8 * (a 3 : Int) + 16 * (a 4 : Int)
theorem z_bs1 : ∀ v : Nat, v < 2 → ∀ a1 : Nat, a1 < 2 → ∀ a2 : Nat, a2 < 2 → ∀ a3 : Nat, a3 < 2 → ∀ a4 : Nat, a4 < 2 → bst1 v (2 * a1 + 4 * a2 + 8 * a3 + 16 * a4) 1 = 2 * v + 4 * a2 + 8 * a3 + 16 * a4 := by decide +kernel
theorem z_bs2 : ∀ v : Nat, v < 2 → ∀ a1 : Nat, a1 < 2 → ∀ a2 : Nat, a2 < 2 → ∀ a3 : Nat, a3 < 2 → ∀ a4 : Nat, a4 < 2 → bst1 v (2 * a1 + 4 * a2 + 8 * a3 + 16 * a4) 2 = 2 * a1 + 4 * v + 8 * a3 + 16 * a4 := by decide +kernel
theorem z_bs3 : ∀ v : Nat, v < 2 → ∀ a1 : Nat, a1 < 2 → ∀ a2 : Nat, a2 < 2 → ∀ a3 : Nat, a3 < 2 → ∀ a4 : Nat, a4 < 2 → bst1 v (2 * a1 + 4 * a2 + 8 * a3 + 16 * a4) 3 = 2 * a1 + 4 * a2 + 8 * v + 16 * a4 := by decide +kernel
theorem z_bs4 : ∀ v : Nat, v < 2 → ∀ a1 : Nat, a1 < 2 → ∀ a2 : Nat, a2 < 2 → ∀ a3 : Nat, a3 < 2 → ∀ a4 : Nat, a4 < 2 → bst1 v (2 * a1 + 4 * a2 + 8 * a3 + 16 * a4) 4 = 2 * a1 + 4 * a2 + 8 * a3 + 16 * v := by decide +kernel
section CMV
variable {g : xG} {w w0 : xW} {t s s2 : zS} {d : Nat} {Q : xQ} {lim : Nat × Nat} {kl kn kl2 kn2 k kt : Nat} {x y e : Int}
theorem brd_set (si : SInv t s) (c : Int) {b : Nat} (hb : 1 ≤ b ∧ b ≤ 4) {v : Int} (hv : v = 0 ∨ v = 1) (h1 : bw1 t s2 c b = v) (h2 : ∀ j : Nat, 1 ≤ j → j ≤ 4 → j ≠ b → bw1 t s2 c j = bw1 t s c j) : bst1 v (brd t s c) b = brd t s2 c := by
  have key : ∀ e, ∃ n : Nat, n < 2 ∧ bw1 t s c e = n := fun e => by
    rcases bw1_01 si c e with q | q
    · exact ⟨0, by decide, q⟩
    · exact ⟨1, by decide, q⟩
  obtain ⟨V, hV, eV⟩ : ∃ n : Nat, n < 2 ∧ v = n := by
    rcases hv with q | q
    · exact ⟨0, by decide, q⟩
    · exact ⟨1, by decide, q⟩
  obtain ⟨a1, b1, e1⟩ := key 1
  obtain ⟨a2, b2, e2⟩ := key 2
  obtain ⟨a3, b3, e3⟩ := key 3
  obtain ⟨a4, b4, e4⟩ := key 4
  have k1 := h2 1 (by decide) (by decide)
  have k2 := h2 2 (by decide) (by decide)
  have k3 := h2 3 (by decide) (by decide)
  have k4 := h2 4 (by decide) (by decide)
  unfold brd
  rcases (by omega : b = 1 ∨ b = 2 ∨ b = 3 ∨ b = 4) with q | q | q | q <;> subst q
  · have h1 : bw1 t s2 c 1 = v := h1
    have k2 : bw1 t s2 c 2 = _ := k2 (by decide)
    have k3 : bw1 t s2 c 3 = _ := k3 (by decide)
    have k4 : bw1 t s2 c 4 = _ := k4 (by decide)
    rw [h1, k2, k3, k4, show bw1 t s c ((2 : Nat) : Int) = _ from e2, show bw1 t s c ((3 : Nat) : Int) = _ from e3, show bw1 t s c ((4 : Nat) : Int) = _ from e4, e1, e2, e3, e4, eV]
    exact z_bs1 V hV a1 b1 a2 b2 a3 b3 a4 b4
  · have h1 : bw1 t s2 c 2 = v := h1
    have k1 : bw1 t s2 c 1 = _ := k1 (by decide)
    have k3 : bw1 t s2 c 3 = _ := k3 (by decide)
    have k4 : bw1 t s2 c 4 = _ := k4 (by decide)
    rw [h1, k1, k3, k4, show bw1 t s c ((1 : Nat) : Int) = _ from e1, show bw1 t s c ((3 : Nat) : Int) = _ from e3, show bw1 t s c ((4 : Nat) : Int) = _ from e4, e1, e2, e3, e4, eV]
    exact z_bs2 V hV a1 b1 a2 b2 a3 b3 a4 b4
  · have h1 : bw1 t s2 c 3 = v := h1
    have k1 : bw1 t s2 c 1 = _ := k1 (by decide)
    have k2 : bw1 t s2 c 2 = _ := k2 (by decide)
    have k4 : bw1 t s2 c 4 = _ := k4 (by decide)
    rw [h1, k1, k2, k4, show bw1 t s c ((1 : Nat) : Int) = _ from e1, show bw1 t s c ((2 : Nat) : Int) = _ from e2, show bw1 t s c ((4 : Nat) : Int) = _ from e4, e1, e2, e3, e4, eV]
    exact z_bs3 V hV a1 b1 a2 b2 a3 b3 a4 b4
  · have h1 : bw1 t s2 c 4 = v := h1
    have k1 : bw1 t s2 c 1 = _ := k1 (by decide)
    have k2 : bw1 t s2 c 2 = _ := k2 (by decide)
    have k3 : bw1 t s2 c 3 = _ := k3 (by decide)
    rw [h1, k1, k2, k3, show bw1 t s c ((1 : Nat) : Int) = _ from e1, show bw1 t s c ((2 : Nat) : Int) = _ from e2, show bw1 t s c ((3 : Nat) : Int) = _ from e3, e1, e2, e3, e4, eV]
    exact z_bs4 V hV a1 b1 a2 b2 a3 b3 a4 b4
theorem bw1_1 (c : Int) : bw1 t s c 1 = if 0 < c / t 0 0 ∧ c - t 0 0 ≠ -1 then s 2 (c - t 0 0).toNat else 0 := by
  have e : nbr t c 1 = if 0 < c / t 0 0 then c - t 0 0 else -1 := by unfold nbr; rw [if_pos rfl]
  have e2 : wlf t s c 1 = s 2 (c - t 0 0).toNat := by unfold wlf; rw [if_pos rfl]
  unfold bw1
  rw [e, e2]
  by_cases a : 0 < c / t 0 0
  · rw [if_pos a]
    by_cases b : c - t 0 0 = -1
    · rw [if_pos b, if_neg (fun z => z.2 b)]
    · rw [if_neg b, if_pos ⟨a, b⟩]
  · rw [if_neg a, if_pos rfl, if_neg (fun z => a z.1)]
theorem bw1_2 (c : Int) : bw1 t s c 2 = if c % t 0 0 < t 0 0 - 1 ∧ c + 1 ≠ -1 then s 1 c.toNat else 0 := by
  have e : nbr t c 2 = if c % t 0 0 < t 0 0 - 1 then c + 1 else -1 := by unfold nbr; rw [if_neg (by decide), if_pos rfl]
  have e2 : wlf t s c 2 = s 1 c.toNat := by unfold wlf; rw [if_neg (by decide), if_pos rfl]
  unfold bw1
  rw [e, e2]
  by_cases a : c % t 0 0 < t 0 0 - 1
  · rw [if_pos a]
    by_cases b : c + 1 = -1
    · rw [if_pos b, if_neg (fun z => z.2 b)]
    · rw [if_neg b, if_pos ⟨a, b⟩]
  · rw [if_neg a, if_pos rfl, if_neg (fun z => a z.1)]
theorem bw1_3 (c : Int) : bw1 t s c 3 = if c / t 0 0 < t 0 1 - 1 ∧ c + t 0 0 ≠ -1 then s 2 c.toNat else 0 := by
  have e : nbr t c 3 = if c / t 0 0 < t 0 1 - 1 then c + t 0 0 else -1 := by unfold nbr; rw [if_neg (by decide), if_neg (by decide), if_pos rfl]
  have e2 : wlf t s c 3 = s 2 c.toNat := by unfold wlf; rw [if_neg (by decide), if_neg (by decide), if_pos rfl]
  unfold bw1
  rw [e, e2]
  by_cases a : c / t 0 0 < t 0 1 - 1
  · rw [if_pos a]
    by_cases b : c + t 0 0 = -1
    · rw [if_pos b, if_neg (fun z => z.2 b)]
    · rw [if_neg b, if_pos ⟨a, b⟩]
  · rw [if_neg a, if_pos rfl, if_neg (fun z => a z.1)]
theorem bw1_4 (c : Int) : bw1 t s c 4 = if 0 < c % t 0 0 ∧ c - 1 ≠ -1 then s 1 (c - 1).toNat else 0 := by
  have e : nbr t c 4 = if 0 < c % t 0 0 then c - 1 else -1 := by unfold nbr; rw [if_neg (by decide), if_neg (by decide), if_neg (by decide), if_pos rfl]
  have e2 : wlf t s c 4 = s 1 (c - 1).toNat := by unfold wlf; rw [if_neg (by decide), if_neg (by decide), if_neg (by decide), if_pos rfl]
  unfold bw1
  rw [e, e2]
  by_cases a : 0 < c % t 0 0
  · rw [if_pos a]
    by_cases b : c - 1 = -1
    · rw [if_pos b, if_neg (fun z => z.2 b)]
    · rw [if_neg b, if_pos ⟨a, b⟩]
  · rw [if_neg a, if_pos rfl, if_neg (fun z => a z.1)]
theorem nbr_2 (c : Int) : nbr t c 2 = if c % t 0 0 < t 0 0 - 1 then c + 1 else -1 := by unfold nbr; rw [if_neg (by decide), if_pos rfl]
theorem nbr_3 (c : Int) : nbr t c 3 = if c / t 0 0 < t 0 1 - 1 then c + t 0 0 else -1 := by unfold nbr; rw [if_neg (by decide), if_neg (by decide), if_pos rfl]
theorem bld_n {r c : Nat} {v : Int} {i : Nat} (h : r ≠ 1 + d) : bld s d c v r i = s r i := zset_n h
theorem bld_e {c : Nat} {v : Int} {i : Nat} : bld s d c v (1 + d) i = zup (s (1 + d)) c v i := zset_s
/-- an east wall: the two cells' bits -/
theorem brd_E (li : LInv t) (si : SInv t s) {c : Nat} (hc : c < nC t) (hn : (c : Int) % t 0 0 < t 0 0 - 1) {v : Int} (hv : v = 0 ∨ v = 1) {j : Nat} (hj : j < nC t) : brd t (bld s 0 c v) j = if j = c then bst1 v (brd t s c) 2 else if j = c + 1 then bst1 v (brd t s (c + 1)) 4 else brd t s j := by
  have gc := geo li (c := (c : Int)) (by omega)
  have g2 := geo2 li (c := (c : Int)) (by omega)
  have gj := geo li (c := (j : Int)) (by omega)
  have e1 : ∀ i, bld s 0 c v 1 i = zup (s 1) c v i := fun i => bld_e (d := 0)
  have e2 : ∀ i, bld s 0 c v 2 i = s 2 i := fun i => bld_n (d := 0) (by decide)
  have same : ∀ b : Nat, b = 1 ∨ b = 3 → ∀ i : Int, bw1 t (bld s 0 c v) i b = bw1 t s i b := fun b hb i => by
    rcases hb with q | q <;> subst q
    · show bw1 t (bld s 0 c v) i 1 = bw1 t s i 1
      rw [bw1_1, bw1_1, e2]
    · show bw1 t (bld s 0 c v) i 3 = bw1 t s i 3
      rw [bw1_3, bw1_3, e2]
  have w2 : j ≠ c → bw1 t (bld s 0 c v) j 2 = bw1 t s j 2 := fun q => by
    rw [bw1_2, bw1_2, e1, zup_n (by omega)]
  have w4 : j ≠ c + 1 → bw1 t (bld s 0 c v) j 4 = bw1 t s j 4 := fun q => by
    rw [bw1_4, bw1_4, e1]
    by_cases z : 0 < (j : Int) % t 0 0 ∧ (j : Int) - 1 ≠ -1
    · rw [if_pos z, if_pos z, zup_n (by omega)]
    · rw [if_neg z, if_neg z]
  by_cases q : j = c
  · subst q
    rw [if_pos rfl]
    symm
    refine brd_set si j (by decide) hv ?_ fun b p1 p2 p3 => ?_
    · show bw1 t (bld s 0 j v) j 2 = v
      rw [bw1_2, if_pos ⟨hn, by omega⟩, e1, show (j : Int).toNat = j by omega, zup_s]
    · rcases (by omega : b = 1 ∨ b = 3 ∨ b = 4) with r | r | r
      · exact same b (Or.inl r) j
      · exact same b (Or.inr r) j
      · subst r; exact w4 (by omega)
  · rw [if_neg q]
    by_cases q2 : j = c + 1
    · subst q2
      rw [if_pos rfl]
      symm
      refine brd_set si _ (by decide) hv ?_ fun b p1 p2 p3 => ?_
      · show bw1 t (bld s 0 c v) ((c : Int) + 1) 4 = v
        rw [bw1_4, if_pos ⟨g2.1 hn, by omega⟩, e1, show ((c : Int) + 1 - 1).toNat = c by omega, zup_s]
      · rcases (by omega : b = 1 ∨ b = 3 ∨ b = 2) with r | r | r
        · exact same b (Or.inl r) _
        · exact same b (Or.inr r) _
        · subst r; exact w2 q
    · rw [if_neg q2]
      unfold brd
      rw [w2 q, w4 q2, show bw1 t (bld s 0 c v) j 1 = _ from same 1 (Or.inl rfl) j, show bw1 t (bld s 0 c v) j 3 = _ from same 3 (Or.inr rfl) j]; rfl
/-- a south wall: the two cells' bits -/
theorem brd_S (li : LInv t) (si : SInv t s) {W : Nat} (hW : (W : Int) = t 0 0) {c : Nat} (hc : c < nC t) (hn : (c : Int) / t 0 0 < t 0 1 - 1) {v : Int} (hv : v = 0 ∨ v = 1) {j : Nat} (hj : j < nC t) : brd t (bld s 1 c v) j = if j = c then bst1 v (brd t s c) 3 else if j = c + W then bst1 v (brd t s ((c + W : Nat) : Int)) 1 else brd t s j := by
  have gc := geo li (c := (c : Int)) (by omega)
  have g2 := geo2 li (c := (c : Int)) (by omega)
  have gj := geo li (c := (j : Int)) (by omega)
  have e1 : ∀ i, bld s 1 c v 2 i = zup (s 2) c v i := fun i => bld_e (d := 1)
  have e2 : ∀ i, bld s 1 c v 1 i = s 1 i := fun i => bld_n (d := 1) (by decide)
  have same : ∀ b : Nat, b = 2 ∨ b = 4 → ∀ i : Int, bw1 t (bld s 1 c v) i b = bw1 t s i b := fun b hb i => by
    rcases hb with q | q <;> subst q
    · show bw1 t (bld s 1 c v) i 2 = bw1 t s i 2
      rw [bw1_2, bw1_2, e2]
    · show bw1 t (bld s 1 c v) i 4 = bw1 t s i 4
      rw [bw1_4, bw1_4, e2]
  have w3 : j ≠ c → bw1 t (bld s 1 c v) j 3 = bw1 t s j 3 := fun q => by
    rw [bw1_3, bw1_3, e1, zup_n (by omega)]
  have w1 : j ≠ c + W → bw1 t (bld s 1 c v) j 1 = bw1 t s j 1 := fun q => by
    rw [bw1_1, bw1_1, e1]
    by_cases z : 0 < (j : Int) / t 0 0 ∧ (j : Int) - t 0 0 ≠ -1
    · have := gj.2.1 z.1
      rw [if_pos z, if_pos z, zup_n (by omega)]
    · rw [if_neg z, if_neg z]
  by_cases q : j = c
  · subst q
    rw [if_pos rfl]
    symm
    refine brd_set si j (by decide) hv ?_ fun b p1 p2 p3 => ?_
    · show bw1 t (bld s 1 j v) j 3 = v
      rw [bw1_3, if_pos ⟨hn, by omega⟩, e1, show (j : Int).toNat = j by omega, zup_s]
    · rcases (by omega : b = 2 ∨ b = 4 ∨ b = 1) with r | r | r
      · exact same b (Or.inl r) j
      · exact same b (Or.inr r) j
      · subst r; exact w1 (by omega)
  · rw [if_neg q]
    by_cases q2 : j = c + W
    · subst q2
      rw [if_pos rfl]
      symm
      refine brd_set si _ (by decide) hv ?_ fun b p1 p2 p3 => ?_
      · show bw1 t (bld s 1 c v) ((c + W : Nat) : Int) 1 = v
        have h3 := g2.2.2.1 hn
        rw [← show ((c + W : Nat) : Int) = (c : Int) + t 0 0 by omega] at h3
        rw [bw1_1, if_pos ⟨h3, by omega⟩, e1, show (((c + W : Nat) : Int) - t 0 0).toNat = c by omega, zup_s]
      · rcases (by omega : b = 2 ∨ b = 4 ∨ b = 3) with r | r | r
        · exact same b (Or.inl r) _
        · exact same b (Or.inr r) _
        · subst r; exact w3 q
    · rw [if_neg q2]
      unfold brd
      rw [w3 q, w1 q2, show bw1 t (bld s 1 c v) j 2 = _ from same 2 (Or.inl rfl) j, show bw1 t (bld s 1 c v) j 4 = _ from same 4 (Or.inr rfl) j]; rfl
end CMV
