/-! ===== command tear ===== -/
def emp (P : zS) : zS := zset P 0 (zup (P 0) 0 0)
section CMP
variable {g : xG} {w w0 : xW} {t s P D : zS} {d : Nat} {Q : xQ} {lim : Nat × Nat} {kl kn kl2 kn2 k : Nat}
theorem emp_0 : emp P 0 0 = 0 := by unfold emp; rw [zset_s, zup_s]
theorem RP.emp (h : w k 3 = 0) : RP (emp P) k w := ⟨h.trans emp_0.symm, fun i hi => by rw [emp_0] at hi; omega⟩
theorem RQ.emp {c a : Nat} (h : w 193 c = 0) : RQ (emp P) c a w := ⟨h.trans emp_0.symm, fun i hi => by rw [emp_0] at hi; omega⟩
theorem cl_tear (F : FG g kl kn kl2 kn2) (h : RP P 5 w) (hD : RP D 9 w) (h0 : 0 ≤ P 0 0 ∧ P 0 0 ≤ 12) (hd0 : 0 ≤ D 0 0 ∧ D 0 0 ≤ 8) (hQ : ∀ w2, (∀ a j, a ≠ 5 → a ≠ 9 → w2 a j = w a j) → RP (emp P) 5 w2 → RP (emp D) 9 w2 → Q (some (xi (P 0 0 + D 0 0))) g w2) : cal (d + 1) nFf_tear [xr 2] g w Q := by
  refine eFf_tear fun lim Q2 h2 => wFf_tear_0 ?_
  have e1 : w 5 3 = P 0 0 := h.1
  have e2 : w 9 3 = D 0 0 := hD.1
  simp only [f_o F, f_p1 F, f_p2 F, p12_o (f_cs F), p8_o (f_ds F), e1, e2, true_and]
  refine ⟨by constructor <;> omega, wFf_tear_24 ?_⟩
  simp only [f_o F, f_p2 F, p8_o (f_ds F), true_and]
  exact h2 _ _ _ rfl (hQ _ (fun a j p q => by rw [xup_a q, xup_a p]) (RP.emp (by rw [xup_a (by decide), xup_s])) (RP.emp (by rw [xup_s])))
theorem mo_tear (hM : MG g) (h : RQ P 16 204 w) (hD : RQ D 20 207 w) (h0 : 0 ≤ P 0 0 ∧ P 0 0 ≤ 12) (hd0 : 0 ≤ D 0 0 ∧ D 0 0 ≤ 8) (hQ : ∀ w2, (∀ a j, (a ≠ 193 ∨ (j ≠ 16 ∧ j ≠ 20)) → w2 a j = w a j) → RQ (emp P) 16 204 w2 → RQ (emp D) 20 207 w2 → Q (some (xi (P 0 0 + D 0 0))) g w2) : cal (d + 1) nMo_tear [xr 193] g w Q := by
  refine eMo_tear fun lim Q2 h2 => wMo_tear_0 ?_
  have e1 : w 193 16 = P 0 0 := h.1
  have e2 : w 193 20 = D 0 0 := hD.1
  simp only [m_o hM, e1, e2, true_and]
  refine ⟨by constructor <;> omega, wMo_tear_15 ?_⟩
  simp only [m_o hM, true_and]
  refine h2 _ _ _ rfl (hQ _ (fun a j p => ?_) (RQ.emp (by rw [xup_k (by decide), xup_s])) (RQ.emp (by rw [xup_s])))
  by_cases z : a = 193
  · subst z
    have p := p.resolve_left (fun n => n rfl)
    rw [xup_k p.2, xup_k p.1]
  · rw [xup_a z, xup_a z]
end CMP
