/-! ===== command claim ===== -/
def oClaim (t P : zS) (p v m : Int) : Int × zS := if (0 ≤ p ∧ p < t 0 5) ∧ cOf t v ≠ -1 then (if 0 ≤ m ∧ m ≤ 59 then (if P 0 0 < 12 then (P 0 0 + 1, wr P p (cOf t v) m) else (-1000000004, P)) else (-1000000002, P)) else (-1000000001, P)
section CMO
variable {g : xG} {w w0 : xW} {t s P : zS} {d : Nat} {Q : xQ} {lim : Nat × Nat} {kl kn kl2 kn2 k : Nat} {p v m : Int}
theorem cl_claim (F : FG g kl kn kl2 kn2) (hl : RCl t kl w) (li : LInv t) (h : RP P 5 w) (h0 : 0 ≤ P 0 0 ∧ P 0 0 ≤ 12) (hv : v ≤ 2147483647) (hQ : ∀ w2, (∀ a j, (a < 5 ∨ 5 + 3 < a) → w2 a j = w a j) → RP (oClaim t P p v m).2 5 w2 → Q (some (xi (oClaim t P p v m).1)) g w2) : cal (d + 3) nFf_claim [xr 2, xi p, xi v, xi m] g w Q := by
  refine eFf_claim fun lim Q2 h2 => wFf_claim_0 ?_
  have hQ := fun w2 a b => h2 _ g w2 rfl (hQ w2 a b)
  unfold oClaim at hQ
  simp only [f_o F, f_p9 F, t_o (f_tl F), true_and]
  refine cl_cellOfPair (f_tl F) hl li hv ⟨_, rfl, ?_⟩
  simp only [f_o F, true_and]
  refine cl_isPerson F hl ⟨_, rfl, fun a => ?_, fun a => ⟨fun b => ⟨fun e => ?_, fun e => ⟨fun e2 => ?_, fun e2 => ?_⟩⟩, fun b => ?_⟩⟩
  · rw [if_neg (fun z => ifv.1 a z.1)] at hQ; exact hQ w (fun _ _ _ => rfl) h
  · rw [if_pos ⟨ifv.2 a, b⟩, if_neg (by omega)] at hQ; exact hQ w (fun _ _ _ => rfl) h
  · rw [if_pos ⟨ifv.2 a, b⟩, if_pos (by omega)] at hQ
    simp only [f_o F, f_p1 F, p12_o (f_cs F), true_and]
    refine cl_write12 (f_cs F) h h0 (fun q w2 f2 r2 => ⟨_, rfl, fun z => absurd z (by decide), fun _ => ?_⟩) (fun q => ⟨_, rfl, fun _ => ?_, fun z => absurd rfl z⟩)
    · rw [if_pos q] at hQ
      simp only [f_o F, f_p1 F, p12_o (f_cs F), true_and]
      have := hQ w2 f2 r2
      rw [show w2 5 3 = _ from r2.1, wr_0]; exact this
    · rw [if_neg (by omega)] at hQ; exact hQ w (fun _ _ _ => rfl) h
  · rw [if_pos ⟨ifv.2 a, b⟩, if_neg (by omega)] at hQ; exact hQ w (fun _ _ _ => rfl) h
  · rw [if_neg (fun z => z.2 b)] at hQ; exact hQ w (fun _ _ _ => rfl) h
end CMO
