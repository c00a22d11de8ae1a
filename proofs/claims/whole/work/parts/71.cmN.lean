/-! ===== papers: writing one ===== -/
def wr (P : zS) (p c m : Int) : zS := zset (zset (zset (zset P 1 (zup (P 1) (P 0 0).toNat p)) 2 (zup (P 2) (P 0 0).toNat c)) 3 (zup (P 3) (P 0 0).toNat m)) 0 (zup (P 0) 0 (P 0 0 + 1))
section CMN
variable {g : xG} {w w0 : xW} {t s P : zS} {d : Nat} {Q : xQ} {lim : Nat × Nat} {k : Nat} {p c m : Int}
theorem wr_0 : wr P p c m 0 0 = P 0 0 + 1 := by unfold wr; rw [zset_s, zup_s]
theorem wr_1 {i : Nat} : wr P p c m 1 i = zup (P 1) (P 0 0).toNat p i := by unfold wr; rw [zset_n (by decide), zset_n (by decide), zset_n (by decide), zset_s]
theorem wr_2 {i : Nat} : wr P p c m 2 i = zup (P 2) (P 0 0).toNat c i := by unfold wr; rw [zset_n (by decide), zset_n (by decide), zset_s]
theorem wr_3 {i : Nat} : wr P p c m 3 i = zup (P 3) (P 0 0).toNat m i := by unfold wr; rw [zset_n (by decide), zset_s]
theorem cl_write12 (hP : PG12 g k) (h : RP P k w) (h0 : 0 ≤ P 0 0 ∧ P 0 0 ≤ 12) (hQ : P 0 0 < 12 → ∀ w2, (∀ a j, (a < k ∨ k + 3 < a) → w2 a j = w a j) → RP (wr P p c m) k w2 → Q (some (xi 1)) g w2) (hQ2 : P 0 0 = 12 → Q (some (xi 0)) g w) : cal (d + 1) nPp_write [xr k, xi p, xi c, xi m] g w Q := by
  refine ePp_write fun lim Q2 h2 => wPp_write_0 ?_
  have e3 : w k 3 = P 0 0 := h.1
  have el : xlen g (k + 1) = 12 := xlen_1 (p12_i0 hP)
  simp only [p12_o hP, p12_p0 hP, p12_a0 hP, e3, el, true_and]
  refine ⟨xAl_1 (k := 0) (p12_i0 hP) (by decide) (by decide), fun a => ⟨by omega, ?_⟩, fun a => ⟨Or.inl trivial, h2 _ _ _ rfl (hQ2 (by omega))⟩⟩
  refine wPp_write_24 ?_
  simp only [p12_o hP, p12_p1 hP, p12_a1 hP, xup_a (show k ≠ k + 1 by omega), e3, true_and]
  refine ⟨by omega, wPp_write_34 ?_⟩
  simp only [p12_o hP, p12_p2 hP, p12_a2 hP, xup_a (show k ≠ k + 1 by omega), xup_a (show k ≠ k + 2 by omega), e3, true_and]
  refine ⟨by omega, wPp_write_44 ?_⟩
  simp only [p12_o hP, xup_a (show k ≠ k + 1 by omega), xup_a (show k ≠ k + 2 by omega), xup_a (show k ≠ k + 3 by omega), e3, true_and]
  refine ⟨by constructor <;> omega, Or.inr trivial, h2 _ _ _ rfl (hQ (by omega) _ (fun x j q => ?_) ⟨?_, fun i hi => ?_⟩)⟩
  · rw [xup_a (by omega), xup_a (by omega), xup_a (by omega), xup_a (by omega)]
  · rw [xup_s, wr_0]
  · rw [wr_0] at hi
    rw [wr_1, wr_2, wr_3]
    refine ⟨?_, ?_, ?_⟩
    · rw [xup_a (show k + 1 ≠ k by omega), xup_a (show k + 1 ≠ k + 3 by omega), xup_a (show k + 1 ≠ k + 2 by omega)]
      by_cases z : i = (P 0 0).toNat
      · rw [z, xup_s, zup_s]
      · rw [xup_k z, zup_n z]; exact (h.2 i (by omega)).1
    · rw [xup_a (show k + 2 ≠ k by omega), xup_a (show k + 2 ≠ k + 3 by omega)]
      by_cases z : i = (P 0 0).toNat
      · rw [z, xup_s, zup_s]
      · rw [xup_k z, zup_n z, xup_a (show k + 2 ≠ k + 1 by omega)]; exact (h.2 i (by omega)).2.1
    · rw [xup_a (show k + 3 ≠ k by omega)]
      by_cases z : i = (P 0 0).toNat
      · rw [z, xup_s, zup_s]
      · rw [xup_k z, zup_n z, xup_a (show k + 3 ≠ k + 2 by omega), xup_a (show k + 3 ≠ k + 1 by omega)]; exact (h.2 i (by omega)).2.2
theorem cl_write8 (hP : PG8 g k) (h : RP P k w) (h0 : 0 ≤ P 0 0 ∧ P 0 0 ≤ 8) (hQ : P 0 0 < 8 → ∀ w2, (∀ a j, (a < k ∨ k + 3 < a) → w2 a j = w a j) → RP (wr P p c m) k w2 → Q (some (xi 1)) g w2) (hQ2 : P 0 0 = 8 → Q (some (xi 0)) g w) : cal (d + 1) nPp_write [xr k, xi p, xi c, xi m] g w Q := by
  refine ePp_write fun lim Q2 h2 => wPp_write_0 ?_
  have e3 : w k 3 = P 0 0 := h.1
  have el : xlen g (k + 1) = 8 := xlen_1 (p8_i0 hP)
  simp only [p8_o hP, p8_p0 hP, p8_a0 hP, e3, el, true_and]
  refine ⟨xAl_1 (k := 0) (p8_i0 hP) (by decide) (by decide), fun a => ⟨by omega, ?_⟩, fun a => ⟨Or.inl trivial, h2 _ _ _ rfl (hQ2 (by omega))⟩⟩
  refine wPp_write_24 ?_
  simp only [p8_o hP, p8_p1 hP, p8_a1 hP, xup_a (show k ≠ k + 1 by omega), e3, true_and]
  refine ⟨by omega, wPp_write_34 ?_⟩
  simp only [p8_o hP, p8_p2 hP, p8_a2 hP, xup_a (show k ≠ k + 1 by omega), xup_a (show k ≠ k + 2 by omega), e3, true_and]
  refine ⟨by omega, wPp_write_44 ?_⟩
  simp only [p8_o hP, xup_a (show k ≠ k + 1 by omega), xup_a (show k ≠ k + 2 by omega), xup_a (show k ≠ k + 3 by omega), e3, true_and]
  refine ⟨by constructor <;> omega, Or.inr trivial, h2 _ _ _ rfl (hQ (by omega) _ (fun x j q => ?_) ⟨?_, fun i hi => ?_⟩)⟩
  · rw [xup_a (by omega), xup_a (by omega), xup_a (by omega), xup_a (by omega)]
  · rw [xup_s, wr_0]
  · rw [wr_0] at hi
    rw [wr_1, wr_2, wr_3]
    refine ⟨?_, ?_, ?_⟩
    · rw [xup_a (show k + 1 ≠ k by omega), xup_a (show k + 1 ≠ k + 3 by omega), xup_a (show k + 1 ≠ k + 2 by omega)]
      by_cases z : i = (P 0 0).toNat
      · rw [z, xup_s, zup_s]
      · rw [xup_k z, zup_n z]; exact (h.2 i (by omega)).1
    · rw [xup_a (show k + 2 ≠ k by omega), xup_a (show k + 2 ≠ k + 3 by omega)]
      by_cases z : i = (P 0 0).toNat
      · rw [z, xup_s, zup_s]
      · rw [xup_k z, zup_n z, xup_a (show k + 2 ≠ k + 1 by omega)]; exact (h.2 i (by omega)).2.1
    · rw [xup_a (show k + 3 ≠ k by omega)]
      by_cases z : i = (P 0 0).toNat
      · rw [z, xup_s, zup_s]
      · rw [xup_k z, zup_n z, xup_a (show k + 3 ≠ k + 2 by omega), xup_a (show k + 3 ≠ k + 1 by omega)]; exact (h.2 i (by omega)).2.2
end CMN
