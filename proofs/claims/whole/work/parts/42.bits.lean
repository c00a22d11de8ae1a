/-! ===== small numbers: bits, division ===== -/
theorem z_sh : ∀ b : Nat, b < 64 → ∀ d : Nat, d < 6 → xAnd (xShr (b : Int) (d : Int)) 1 = ((b / 2 ^ d % 2 : Nat) : Int) := by decide +kernel
theorem z_or : ∀ d : Nat, d < 6 → ∀ b : Nat, b < 64 → xOr (b : Int) (xShl 1 (d : Int)) = ((b ||| 2 ^ d : Nat) : Int) := by decide +kernel
theorem z_orlt : ∀ d : Nat, d < 6 → ∀ b : Nat, b < 64 → b ||| 2 ^ d < 64 := by decide +kernel
theorem z_or0 : ∀ b : Nat, b < 64 → xOr (b : Int) 0 = (b : Int) := by decide +kernel
theorem z_bit : ∀ d : Nat, d < 6 → ∀ e : Nat, e < 6 → ∀ b : Nat, b < 64 → (b ||| 2 ^ d) / 2 ^ e % 2 = if e = d then 1 else b / 2 ^ e % 2 := by decide +kernel
theorem z_nn {x : Int} (h0 : 0 ≤ x) : ∃ n : Nat, x = (n : Int) := ⟨x.toNat, by omega⟩
/-- a set's bit -/
theorem z_shr {x p : Int} (hx : 0 ≤ x ∧ x < 64) (hp : 0 ≤ p ∧ p < 6) : xAnd (xShr x p) 1 = ((x.toNat / 2 ^ p.toNat % 2 : Nat) : Int) := by
  obtain ⟨a, rfl⟩ := z_nn hx.1
  obtain ⟨b, rfl⟩ := z_nn hp.1
  exact z_sh a (by omega) b (by omega)
theorem z_orr {x p : Int} (hx : 0 ≤ x ∧ x < 64) (hp : 0 ≤ p ∧ p < 6) : xOr x (xShl 1 p) = ((x.toNat ||| 2 ^ p.toNat : Nat) : Int) ∧ 0 ≤ xOr x (xShl 1 p) ∧ xOr x (xShl 1 p) < 64 := by
  obtain ⟨a, rfl⟩ := z_nn hx.1
  obtain ⟨b, rfl⟩ := z_nn hp.1
  have h1 := z_or b (by omega) a (by omega)
  have h2 := z_orlt b (by omega) a (by omega)
  refine ⟨h1, ?_⟩
  rw [h1]
  omega
theorem msk_in {f : Nat → Bool} {z : Int} (hz : 0 ≤ z ∧ z < 64) : ∀ n, n ≤ 6 → 0 ≤ msk f z n ∧ msk f z n < 64
  | 0, _ => hz
  | n + 1, hn => by
    have ih := msk_in (f := f) hz n (by omega)
    unfold msk
    split
    · exact (z_orr ih (by omega)).2
    · exact ih
theorem msk_bit {f : Nat → Bool} : ∀ n, n ≤ 6 → ∀ p, p < 6 → (msk f 0 n).toNat / 2 ^ p % 2 = if p < n ∧ f p = true then 1 else 0
  | 0, _, p, hp => by
    have : (msk f 0 0).toNat = 0 := rfl
    rw [this, Nat.zero_div, if_neg (by omega)]
  | n + 1, hn, p, hp => by
    have ih := msk_bit (f := f) n (by omega) p hp
    have hi := msk_in (f := f) (z := 0) (by omega) n (by omega)
    unfold msk
    split
    · rename_i hf
      rw [(z_orr hi (p := n) (by omega)).1]
      rw [Int.toNat_natCast, Int.toNat_natCast, z_bit n (by omega) p hp _ (by omega), ih]
      by_cases hpn : p = n
      · subst hpn
        rw [if_pos rfl, if_pos ⟨by omega, hf⟩]
      · rw [if_neg hpn]
        by_cases h1 : p < n ∧ f p = true
        · rw [if_pos h1, if_pos ⟨by omega, h1.2⟩]
        · rw [if_neg h1, if_neg (fun z => h1 ⟨by omega, z.2⟩)]
    · rename_i hf
      rw [ih]
      by_cases h1 : p < n ∧ f p = true
      · rw [if_pos h1, if_pos ⟨by omega, h1.2⟩]
      · rw [if_neg h1, if_neg (fun z => h1 ⟨by
          have : p ≠ n := fun q => hf (q ▸ z.2)
          omega, z.2⟩)]
/-- whether a set that was gathered has one -/
theorem msk_has {f : Nat → Bool} {n p : Nat} (hn : n ≤ 6) (hp : p < n) : xAnd (xShr (msk f 0 n) p) 1 = if f p = true then 1 else 0 := by
  rw [z_shr (msk_in (by omega) n hn) (by omega), Int.toNat_natCast, msk_bit n hn p (by omega)]
  by_cases h : f p = true
  · rw [if_pos h, if_pos ⟨hp, h⟩]; rfl
  · rw [if_neg h, if_neg (fun z => h z.2)]; rfl
theorem zsm_b {f : Nat → Int} {b : Int} : ∀ n : Nat, (∀ i, i < n → 0 ≤ f i ∧ f i ≤ b) → 0 ≤ zsm f n ∧ zsm f n ≤ n * b
  | 0, _ => by simp [zsm]
  | n + 1, h => by
    have ih := zsm_b n (fun i hi => h i (by omega))
    have h0 := h n (by omega)
    unfold zsm
    have e : ((n + 1 : Nat) : Int) * b = n * b + b := by rw [Int.natCast_add, Int.add_mul]; simp
    omega
theorem z_td (x : Int) : (0 ≤ x → 0 ≤ x.tdiv 8 ∧ x.tdiv 8 ≤ x / 8) ∧ (x < 0 → -((-x) / 8) ≤ x.tdiv 8 ∧ x.tdiv 8 ≤ 0) := by
  constructor
  · intro h
    rw [Int.tdiv_eq_ediv_of_nonneg h]
    omega
  · intro h
    have e : x = -(-x) := by omega
    have h2 : (-(-x)).tdiv 8 = -((-x).tdiv 8) := Int.neg_tdiv _ _
    rw [← e] at h2
    rw [h2, Int.tdiv_eq_ediv_of_nonneg (by omega)]
    omega
theorem z_td4 (x : Int) : (0 ≤ x → x.tdiv 4 = x / 4) ∧ (x < 0 → x.tdiv 4 = -((-x) / 4)) := by
  constructor
  · intro h
    exact Int.tdiv_eq_ediv_of_nonneg h
  · intro h
    have e : x = -(-x) := by omega
    have h2 : (-(-x)).tdiv 4 = -((-x).tdiv 4) := Int.neg_tdiv _ _
    rw [← e] at h2
    rw [h2, Int.tdiv_eq_ediv_of_nonneg (by omega)]
