/-! ===== command claim ===== -/
def oClaim (t P : zS) (p v m : Int) : Int × zS := if (0 ≤ p ∧ p < t 0 5) ∧ cOf t v ≠ -1 then (if 0 ≤ m ∧ m ≤ 59 then (if P 0 0 < 12 then (P 0 0 + 1, wr P p (cOf t v) m) else (-1000000004, P)) else (-1000000002, P)) else (-1000000001, P)
section CMO
variable {g : xG} {w w0 : xW} {t s P : zS} {d : Nat} {Q : xQ} {lim : Nat × Nat} {kl kn kl2 kn2 k : Nat} {p v m : Int}
theorem cl_claim (F : FG g kl kn kl2 kn2) (hl : RCl t kl w) (li : LInv t) (h : RP P 5 w) (h0 : 0 ≤ P 0 0 ∧ P 0 0 ≤ 12) (hv : v ≤ 2147483647) (hQ : ∀ w2, (∀ a j, (a < 5 ∨ 5 + 3 < a) → w2 a j = w a j) → RP (oClaim t P p v m).2 5 w2 → Q (some (xi (oClaim t P p v m).1)) g w2) : cal (d + 3) nFf_claim [xr 2, xi p, xi v, xi m] g w Q := by
  refine eFf_claim fun lim Q2 h2 => wFf_claim_0 ?_
  have hQ := fun w2 a b => h2 _ g w2 rfl (hQ w2 a b)
  unfold oClaim at hQ
  simp only [f_o F, f_p9 F, t_o (f_tl F), true_and]
  refine cl_cellOfPair (f_tl F) hl li hv ⟨_, rfl, ?_⟩
  simp only [f_o F, true_and]
  refine cl_isPerson F hl ⟨_, rfl, fun a => ?_, fun a => ⟨fun b => ⟨fun e => ?_, fun e => ⟨fun e2 => ?_, fun e2 => ?_⟩⟩, fun b => ?_⟩⟩
  · rw [if_neg (fun z => ifv.1 a z.1)] at hQ; exact hQ w (fun _ _ _ => rfl) h
  · rw [if_pos ⟨ifv.2 a, b⟩, if_neg (by omega)] at hQ; exact hQ w (fun _ _ _ => rfl) h
  · rw [if_pos ⟨ifv.2 a, b⟩, if_pos (by omega)] at hQ
    simp only [f_o F, f_p1 F, p12_o (f_cs F), true_and]
    refine cl_write12 (f_cs F) h h0 (fun q w2 f2 r2 => ⟨_, rfl, fun z => absurd z (by decide), fun _ => ?_⟩) (fun q => ⟨_, rfl, fun _ => ?_, fun z => absurd rfl z⟩)
    · rw [if_pos q] at hQ
      simp only [f_o F, f_p1 F, p12_o (f_cs F), true_and]
      have := hQ w2 f2 r2
      rw [show w2 5 3 = _ from r2.1, wr_0]; exact this
    · rw [if_neg (by omega)] at hQ; exact hQ w (fun _ _ _ => rfl) h
  · rw [if_pos ⟨ifv.2 a, b⟩, if_neg (by omega)] at hQ; exact hQ w (fun _ _ _ => rfl) h
  · rw [if_neg (fun z => z.2 b)] at hQ; exact hQ w (fun _ _ _ => rfl) h
theorem mo_claim (hM : MG g) (hl : RMl t w) (li : LInv t) (h : RQ P 16 204 w) (h0 : 0 ≤ P 0 0 ∧ P 0 0 ≤ 12) (hv : v ≤ 2147483647) (hQ : ∀ w2, (∀ a j, (a ≠ 193 ∨ j ≠ 16) → (a < 204 ∨ 206 < a) → w2 a j = w a j) → RQ (oClaim t P p v m).2 16 204 w2 → Q (some (xi (oClaim t P p v m).1)) g w2) : cal (d + 4) nMo_claim [xr 193, xi p, xi v, xi m] g w Q := by
  refine eMo_claim fun lim Q2 h2 => wMo_claim_0 ?_
  have hQ := fun w2 a b => h2 _ g w2 rfl (hQ w2 a b)
  have e3 : w 193 16 = P 0 0 := h.1
  unfold oClaim at hQ
  simp only [m_o hM, true_and]
  refine mo_cellOf hM hl li hv ⟨_, rfl, ?_⟩
  simp only [m_o hM, true_and]
  refine mo_isPerson hM hl li ⟨_, rfl, fun a => ?_, fun a => ⟨fun b => mo_in ⟨_, rfl, fun e => ?_, fun e => ?_⟩, fun b => ?_⟩⟩
  · rw [if_neg (fun z => ifv.1 a z.1)] at hQ; exact hQ w (fun _ _ _ _ => rfl) h
  · rw [if_pos ⟨ifv.2 a, b⟩, if_pos (ifv.2 e)] at hQ
    simp only [m_o hM, m_p17 hM, m_a17 hM, e3, true_and]
    refine ⟨fun q => ⟨by omega, ?_⟩, fun q => ?_⟩
    · rw [if_pos (by omega)] at hQ
      refine wMo_claim_61 ?_
      simp only [m_o hM, m_p18 hM, m_a18 hM, xup_a (show 193 ≠ 204 by decide), e3, true_and]
      refine ⟨by omega, wMo_claim_72 ?_⟩
      simp only [m_o hM, m_p19 hM, m_a19 hM, xup_a (show 193 ≠ 204 by decide), xup_a (show 193 ≠ 205 by decide), e3, true_and]
      refine ⟨by omega, wMo_claim_82 ?_⟩
      simp only [m_o hM, xup_a (show 193 ≠ 204 by decide), xup_a (show 193 ≠ 205 by decide), xup_a (show 193 ≠ 206 by decide), e3, xup_s, true_and]
      refine ⟨by constructor <;> omega, hQ _ (fun x j q r => ?_) ⟨by rw [xup_s]; exact (wr_0 (P := P) (p := p) (c := cOf t v) (m := m)).symm, fun i hi => ?_⟩⟩
      · have e1 : ∀ (u : xW) (val : Int), xup u 193 16 val x j = u x j := fun u val => by
          by_cases z : x = 193
          · subst z; exact xup_k (q.resolve_left (fun n => n rfl))
          · exact xup_a z
        rw [e1, xup_a (by omega), xup_a (by omega), xup_a (by omega)]
      · have hi : (i : Int) < wr P p (cOf t v) m 0 0 := hi
        rw [wr_0] at hi
        show _ = wr P p (cOf t v) m 1 i ∧ _ = wr P p (cOf t v) m 2 i ∧ _ = wr P p (cOf t v) m 3 i
        rw [wr_1, wr_2, wr_3]
        refine ⟨?_, ?_, ?_⟩
        · rw [xup_a (show 204 ≠ 193 by decide), xup_a (show 204 ≠ 206 by decide), xup_a (show 204 ≠ 205 by decide)]
          by_cases z : i = (P 0 0).toNat
          · rw [z, xup_s, zup_s]
          · rw [xup_k z, zup_n z]; exact (h.2 i (by omega)).1
        · show xup _ 193 16 _ 205 i = _
          rw [xup_a (show 205 ≠ 193 by decide), xup_a (show 205 ≠ 206 by decide)]
          by_cases z : i = (P 0 0).toNat
          · rw [z, xup_s, zup_s]
          · rw [xup_k z, zup_n z, xup_a (show 205 ≠ 204 by decide)]; exact (h.2 i (by omega)).2.1
        · show xup _ 193 16 _ 206 i = _
          rw [xup_a (show 206 ≠ 193 by decide)]
          by_cases z : i = (P 0 0).toNat
          · rw [z, xup_s, zup_s]
          · rw [xup_k z, zup_n z, xup_a (show 206 ≠ 205 by decide), xup_a (show 206 ≠ 204 by decide)]; exact (h.2 i (by omega)).2.2
    · rw [if_neg (by omega)] at hQ; exact hQ w (fun _ _ _ _ => rfl) h
  · rw [if_pos ⟨ifv.2 a, b⟩, if_neg (ifv.1 e)] at hQ; exact hQ w (fun _ _ _ _ => rfl) h
  · rw [if_neg (fun z => z.2 b)] at hQ; exact hQ w (fun _ _ _ _ => rfl) h
end CMO
