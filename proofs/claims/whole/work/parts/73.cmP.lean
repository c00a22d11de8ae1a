/-! ===== command tear ===== -/
def emp (P : zS) : zS := zset P 0 (zup (P 0) 0 0)
section CMP
variable {g : xG} {w w0 : xW} {t s P D : zS} {d : Nat} {Q : xQ} {lim : Nat × Nat} {kl kn kl2 kn2 k : Nat}
theorem emp_0 : emp P 0 0 = 0 := by unfold emp; rw [zset_s, zup_s]
theorem RP.emp (h : w k 3 = 0) : RP (emp P) k w := ⟨h.trans emp_0.symm, fun i hi => by rw [emp_0] at hi; omega⟩
theorem RQ.emp {c a : Nat} (h : w 193 c = 0) : RQ (emp P) c a w := ⟨h.trans emp_0.symm, fun i hi => by rw [emp_0] at hi; omega⟩
theorem cl_tear (F : FG g kl kn kl2 kn2) (h : RP P 5 w) (hD : RP D 9 w) (h0 : 0 ≤ P 0 0 ∧ P 0 0 ≤ 12) (hd0 : 0 ≤ D 0 0 ∧ D 0 0 ≤ 8) (hQ : ∀ w2, (∀ a j, a ≠ 5 → a ≠ 9 → w2 a j = w a j) → RP (emp P) 5 w2 → RP (emp D) 9 w2 → Q (some (xi (P 0 0 + D 0 0))) g w2) : cal (d + 1) nFf_tear [xr 2] g w Q := by
  refine eFf_tear fun lim Q2 h2 => wFf_tear_0 ?_
  have e1 : w 5 3 = P 0 0 := h.1
  have e2 : w 9 3 = D 0 0 := hD.1
  simp only [f_o F, f_p1 F, f_p2 F, p12_o (f_cs F), p8_o (f_ds F), e1, e2, true_and]
  refine ⟨by constructor <;> omega, wFf_tear_24 ?_⟩
  simp only [f_o F, f_p2 F, p8_o (f_ds F), true_and]
  exact h2 _ _ _ rfl (hQ _ (fun a j p q => by rw [xup_a q, xup_a p]) (RP.emp (by rw [xup_a (by decide), xup_s])) (RP.emp (by rw [xup_s])))
end CMP
