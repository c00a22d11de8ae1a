/-! ===== stands: what it means; why a row may be left ===== -/
/-- one way, one minute -/
def mv (t σ : zS) (p : Nat) (b : Nat) : zS := step t (-1) (zset σ 7 (zup (σ 7) p (wyy t σ (σ 7 p) b)))
def fld (h : Nat → Int × Nat → Int × Nat) : Nat → Nat → Int × Nat → Int × Nat
  | 0, _, z => z
  | k + 1, b, z => fld h k (b + 1) (h b z)
/-- the best of all rows of m ways, code behind code -/
def srch (t : zS) (p : Nat) : Nat → zS → Nat → Int × Nat → Int × Nat
  | 0, σ, c, z => if z.1 < cnO σ p (nC t) then (cnO σ p (nC t), c) else z
  | m + 1, σ, c, z => fld (fun b y => if wyy t σ (σ 7 p) b = -1 then y else srch t p m (mv t σ p b) (5 * c + b) y) 5 0 z
/-- what a code's last m ways bring -/
def obw (t : zS) (p : Nat) : Nat → zS → Nat → Int
  | 0, σ, _ => cnO σ p (nC t)
  | m + 1, σ, c => if wyy t σ (σ 7 p) ((c / 5 ^ m % 5 : Nat) : Int) = -1 then -1 else obw t p m (mv t σ p (c / 5 ^ m % 5)) c
def fob (t : zS) (p m : Nat) (σ : zS) (c : Nat) (z : Int × Nat) : Int × Nat := if z.1 < obw t p m σ c then (obw t p m σ c, c) else z
def oStands (t s : zS) (p n i : Int) : Int := if 0 ≤ p ∧ p < t 0 5 then (if 1 ≤ n ∧ n ≤ 5 then (if i = -1 then (srch t p.toNat n.toNat s 0 (-1, 0)).1 else if 0 ≤ i ∧ i < n then (((srch t p.toNat n.toNat s 0 (-1, 0)).2 / 5 ^ (n.toNat - 1 - i.toNat) % 5 : Nat) : Int) else -1) else -1000000002) else -1000000001
section CND
variable {t s σ : zS} {p : Nat} {numb : Int} {fe : Nat → Bool}
theorem fld_add {h : Nat → Int × Nat → Int × Nat} : ∀ k1 k2 b z, fld h (k1 + k2) b z = fld h k2 (b + k1) (fld h k1 b z)
  | 0, k2, b, z => by rw [Nat.zero_add, Nat.add_zero]; rfl
  | k1 + 1, k2, b, z => by
    rw [show k1 + 1 + k2 = (k1 + k2) + 1 by omega]
    show fld h (k1 + k2) (b + 1) (h b z) = fld h k2 (b + (k1 + 1)) (fld h k1 (b + 1) (h b z))
    rw [fld_add k1 k2 (b + 1), show b + 1 + k1 = b + (k1 + 1) by omega]
theorem fld_cg {h h2 : Nat → Int × Nat → Int × Nat} : ∀ k b z, (∀ i, b ≤ i → i < b + k → h i = h2 i) → fld h k b z = fld h2 k b z
  | 0, _, _, _ => rfl
  | k + 1, b, z, e => by
    show fld h k (b + 1) (h b z) = fld h2 k (b + 1) (h2 b z)
    rw [e b (by omega) (by omega), fld_cg k (b + 1) _ fun i q r => e i (by omega) (by omega)]
theorem fld_id {h : Nat → Int × Nat → Int × Nat} {z : Int × Nat} : ∀ k b, (∀ i, b ≤ i → i < b + k → h i z = z) → fld h k b z = z
  | 0, _, _ => rfl
  | k + 1, b, e => by
    show fld h k (b + 1) (h b z) = z
    rw [e b (by omega) (by omega)]
    exact fld_id k (b + 1) fun i q r => e i (by omega) (by omega)
theorem fld_ge {h : Nat → Int × Nat → Int × Nat} (e : ∀ i z, z.1 ≤ (h i z).1) : ∀ k b z, z.1 ≤ (fld h k b z).1
  | 0, _, _ => Int.le_refl _
  | k + 1, b, z => Int.le_trans (e b z) (fld_ge e k (b + 1) _)
theorem srch_ge : ∀ m σ c z, z.1 ≤ (srch t p m σ c z).1
  | 0, σ, c, z => by
    unfold srch
    split
    · show z.1 ≤ cnO σ p (nC t); omega
    · exact Int.le_refl _
  | m + 1, σ, c, z => by
    unfold srch
    refine fld_ge (fun b y => ?_) 5 0 z
    split
    · exact Int.le_refl _
    · exact srch_ge m _ _ _
/-- all codes in their order are the rows in theirs -/
theorem fold_srch : ∀ m σ base z, -1 ≤ z.1 → fld (fob t p m σ) (5 ^ m) (base * 5 ^ m) z = srch t p m σ base z
  | 0, σ, base, z, hz => by
    rw [Nat.pow_zero, Nat.mul_one]; rfl
  | m + 1, σ, base, z, hz => by
    have hp : 0 < 5 ^ m := Nat.pow_pos (by decide)
    have main : ∀ k b z, b + k = 5 → -1 ≤ z.1 → fld (fob t p (m + 1) σ) (k * 5 ^ m) ((5 * base + b) * 5 ^ m) z = fld (fun b y => if wyy t σ (σ 7 p) b = -1 then y else srch t p m (mv t σ p b) (5 * base + b) y) k b z := by
      intro k
      induction k with
      | zero => intro b z _ _; rw [Nat.zero_mul]; rfl
      | succ k ih =>
        intro b z hb hz
        have hdig : ∀ i, (5 * base + b) * 5 ^ m ≤ i → i < (5 * base + b) * 5 ^ m + 5 ^ m → i / 5 ^ m % 5 = b := fun i q r => by
          have : i / 5 ^ m = 5 * base + b := by
            rw [Nat.div_eq_iff hp]
            constructor
            · omega
            · omega
          rw [this]; omega
        have first : fld (fob t p (m + 1) σ) (5 ^ m) ((5 * base + b) * 5 ^ m) z = (if wyy t σ (σ 7 p) b = -1 then z else srch t p m (mv t σ p b) (5 * base + b) z) := by
          by_cases q : wyy t σ (σ 7 p) b = -1
          · rw [if_pos q]
            refine fld_id _ _ fun i q1 q2 => ?_
            unfold fob
            have : obw t p (m + 1) σ i = -1 := by
              unfold obw
              rw [hdig i q1 q2, if_pos q]
            rw [this, if_neg (by omega)]
          · rw [if_neg q, ← fold_srch m _ _ z hz]
            refine fld_cg _ _ _ fun i q1 q2 => ?_
            have : obw t p (m + 1) σ i = obw t p m (mv t σ p b) i := by
              rw [obw]
              rw [hdig i q1 q2, if_neg q]
            funext y
            unfold fob
            rw [this]
        rw [Nat.succ_mul, Nat.add_comm (k * 5 ^ m) (5 ^ m), fld_add, first]
        have e2 : (5 * base + b) * 5 ^ m + 5 ^ m = (5 * base + (b + 1)) * 5 ^ m := by rw [← Nat.succ_mul]; rfl
        rw [e2, ih (b + 1) _ (by omega)]
        · rfl
        · split
          · exact hz
          · exact Int.le_trans hz (srch_ge m _ _ _)
    have := main 5 0 z rfl hz
    rw [srch, ← this]
    rw [show 5 ^ (m + 1) = 5 * 5 ^ m by rw [Nat.pow_succ, Nat.mul_comm], show base * (5 * 5 ^ m) = (5 * base + 0) * 5 ^ m by rw [Nat.add_zero, ← Nat.mul_assoc, Nat.mul_comm base 5]]
/-- whom a minute gives a cell -/
theorem bst_at {c : Int} : ∀ n, bst s fe c n = p → s 7 p = c
  | 0, h => by unfold bst at h; omega
  | n + 1, h => by
    unfold bst at h
    split at h
    · rename_i q
      rw [show p = n by omega]; exact q.2.1
    · exact bst_at n h
theorem step_3 {c : Nat} (h : step t numb s 3 c = p) : s 3 c = p ∨ s 7 p = c := by
  unfold step stF at h
  rw [zset_n (by decide), zset_n (by decide), owe_o (by decide) (by decide)] at h
  unfold stD at h
  rw [zset_n (by decide)] at h
  unfold stC at h
  rw [zset_s] at h
  unfold ow2 at h
  split at h
  · omega
  · unfold stB at h
    rw [zset_n (by decide), zset_s] at h
    unfold ow1 at h
    split at h
    · exact Or.inr (bst_at (s := stA t s) _ h)
    · exact Or.inl h
theorem cnO_step : ∀ n : Nat, cnO (step t numb s) p n ≤ cnO s p n + (if 0 ≤ s 7 p ∧ s 7 p < n then 1 else 0)
  | 0 => by unfold cnO; split <;> omega
  | n + 1 => by
    have ih : cnO (step t numb s) p n ≤ cnO s p n + (if 0 ≤ s 7 p ∧ s 7 p < n then 1 else 0) := cnO_step n
    have h3 := step_3 (t := t) (numb := numb) (s := s) (p := p) (c := n)
    unfold cnO
    by_cases q : step t numb s 3 n = p
    · rw [if_pos q]
      rcases h3 q with z | z
      · rw [if_pos z]
        split at ih <;> split <;> omega
      · rw [z] at ih ⊢
        split at ih
        · omega
        · split <;> split <;> omega
    · rw [if_neg q]
      split at ih <;> split <;> split <;> omega
theorem cnO_7 {f : Nat → Int} : ∀ n : Nat, cnO (zset σ 7 f) p n = cnO σ p n
  | 0 => rfl
  | n + 1 => by
    unfold cnO
    rw [cnO_7 n, zset_n (by decide)]
theorem cnO_mv {b n : Nat} : cnO (mv t σ p b) p n ≤ cnO σ p n + 1 := by
  have := cnO_step (t := t) (numb := -1) (s := zset σ 7 (zup (σ 7) p (wyy t σ (σ 7 p) b))) (p := p) n
  rw [cnO_7] at this
  unfold mv
  split at this <;> omega
/-- a row that can win no more -/
theorem srch_cut : ∀ (m : Nat) σ c z, cnO σ p (nC t) + m ≤ z.1 → srch t p m σ c z = z
  | 0, σ, c, z, h => by unfold srch; rw [if_neg (by omega)]
  | m + 1, σ, c, z, h => by
    unfold srch
    refine fld_id 5 0 fun b _ _ => ?_
    by_cases q : wyy t σ (σ 7 p) b = -1
    · exact if_pos q
    · rw [if_neg q]
      have := cnO_mv (t := t) (σ := σ) (p := p) (b := b) (n := nC t)
      exact srch_cut m _ _ _ (by omega)
/-- one finds a row always: he stays -/
theorem srch_0 : ∀ (m : Nat) σ c z, SInv t σ → p < nP t → LInv t → σ 12 2 + m ≤ 1000000000 → 0 ≤ (srch t p m σ c z).1
  | 0, σ, c, z, si, hp, li, hm => by
    have := cnO_bb (s := σ) (p := p) (nC t)
    unfold srch
    split
    · show 0 ≤ cnO σ p (nC t); omega
    · omega
  | m + 1, σ, c, z, si, hp, li, hm => by
    have h7 := (si.2.2.2.2.1 p hp).1
    have w0 : wyy t σ (σ 7 p) ((0 : Nat) : Int) = σ 7 p := by
      show wyy t σ (σ 7 p) 0 = σ 7 p
      unfold wyy
      have e1 : nbr t (σ 7 p) 0 = σ 7 p := by unfold nbr; rw [if_neg (by decide), if_neg (by decide), if_neg (by decide), if_neg (by decide)]
      have e2 : wlf t σ (σ 7 p) 0 = 0 := by unfold wlf; rw [if_neg (by decide), if_neg (by decide), if_neg (by decide), if_neg (by decide)]
      rw [e1, e2, if_neg (by omega), if_pos rfl]
    have s2 : SInv t (mv t σ p 0) := by
      unfold mv
      refine si_step li (si_7 si (by rw [w0]; exact h7)) _ ?_
      rw [zset_n (by decide)]; omega
    have m2 : mv t σ p 0 12 2 = σ 12 2 + 1 := by unfold mv; rw [step_m, zset_n (by decide)]
    unfold srch
    have h1 : 0 ≤ (srch t p m (mv t σ p 0) (5 * c + 0) z).1 := srch_0 m _ _ _ s2 hp li (by omega)
    rw [show (5 : Nat) = 4 + 1 from rfl, fld]
    rw [if_neg (by rw [w0]; omega)]
    refine Int.le_trans h1 (fld_ge (fun b y => ?_) 4 1 _)
    split
    · exact Int.le_refl _
    · exact srch_ge m _ _ _
theorem si_mv (li : LInv t) (si : SInv t σ) (hp : p < nP t) {b : Nat} (hb : wyy t σ (σ 7 p) b ≠ -1) (hm : σ 12 2 < 1000000000) : SInv t (mv t σ p b) := by
  have h7 := (si.2.2.2.2.1 p hp).1
  unfold mv
  refine si_step li (si_7 si ((wyy_in li h7 b).resolve_left hb)) _ ?_
  rw [zset_n (by decide)]; exact hm
theorem mv_m {b : Nat} : mv t σ p b 12 2 = σ 12 2 + 1 := by unfold mv; rw [step_m, zset_n (by decide)]
end CND
