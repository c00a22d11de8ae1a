/-! ===== command deed ===== -/
def oDeed (t P : zS) (p v m : Int) : Int × zS := if (0 ≤ p ∧ p < t 0 5) ∧ cOf t v ≠ -1 then (if 1 ≤ m ∧ m ≤ 60 then (if P 0 0 < 8 then (P 0 0 + 1, wr P p (cOf t v) m) else (-1000000004, P)) else (-1000000002, P)) else (-1000000001, P)
section CMQ
variable {g : xG} {w w0 : xW} {t s P : zS} {d : Nat} {Q : xQ} {lim : Nat × Nat} {kl kn kl2 kn2 k : Nat} {p v m : Int}
theorem cl_isSpan {n : Int} (hQ : Q (some (xi (if 1 ≤ n ∧ n ≤ 60 then 1 else 0))) g w) : cal (d + 1) nFf_isSpan [xi n] g w Q := by
  refine eFf_isSpan fun lim Q2 h2 => wFf_isSpan_0 ⟨fun b => ⟨Or.inl rfl, h2 _ _ _ rfl (qe hQ ?_)⟩, fun b => ⟨fun b2 => ⟨Or.inl rfl, h2 _ _ _ rfl (qe hQ ?_)⟩, fun b2 => ⟨Or.inr rfl, h2 _ _ _ rfl (qe hQ ?_)⟩⟩⟩
  · rw [if_neg (by omega)]
  · rw [if_neg (by omega)]
  · rw [if_pos (by omega)]
theorem cl_deed (F : FG g kl kn kl2 kn2) (hl : RCl t kl w) (li : LInv t) (h : RP P 9 w) (h0 : 0 ≤ P 0 0 ∧ P 0 0 ≤ 8) (hv : v ≤ 2147483647) (hQ : ∀ w2, (∀ a j, (a < 9 ∨ 9 + 3 < a) → w2 a j = w a j) → RP (oDeed t P p v m).2 9 w2 → Q (some (xi (oDeed t P p v m).1)) g w2) : cal (d + 3) nFf_deed [xr 2, xi p, xi v, xi m] g w Q := by
  refine eFf_deed fun lim Q2 h2 => wFf_deed_0 ?_
  have hQ := fun w2 a b => h2 _ g w2 rfl (hQ w2 a b)
  unfold oDeed at hQ
  simp only [f_o F, f_p9 F, t_o (f_tl F), true_and]
  refine cl_cellOfPair (f_tl F) hl li hv ⟨_, rfl, ?_⟩
  simp only [f_o F, true_and]
  refine cl_isPerson F hl ⟨_, rfl, fun a => ?_, fun a => ⟨fun b => cl_isSpan ⟨_, rfl, fun e => ?_, fun e => ?_⟩, fun b => ?_⟩⟩
  · rw [if_neg (fun z => ifv.1 a z.1)] at hQ; exact hQ w (fun _ _ _ => rfl) h
  · rw [if_pos ⟨ifv.2 a, b⟩, if_pos (ifv.2 e)] at hQ
    simp only [f_o F, f_p2 F, p8_o (f_ds F), true_and]
    refine cl_write8 (f_ds F) h h0 (fun q w2 f2 r2 => ⟨_, rfl, fun z => absurd z (by decide), fun _ => ?_⟩) (fun q => ⟨_, rfl, fun _ => ?_, fun z => absurd rfl z⟩)
    · rw [if_pos q] at hQ
      simp only [f_o F, f_p2 F, p8_o (f_ds F), true_and]
      have := hQ w2 f2 r2
      rw [show w2 9 3 = _ from r2.1, wr_0]; exact this
    · rw [if_neg (by omega)] at hQ; exact hQ w (fun _ _ _ => rfl) h
  · rw [if_pos ⟨ifv.2 a, b⟩, if_neg (ifv.1 e)] at hQ; exact hQ w (fun _ _ _ => rfl) h
  · rw [if_neg (fun z => z.2 b)] at hQ; exact hQ w (fun _ _ _ => rfl) h
theorem mo_deed (hM : MG g) (hl : RMl t w) (li : LInv t) (h : RQ P 20 207 w) (h0 : 0 ≤ P 0 0 ∧ P 0 0 ≤ 8) (hv : v ≤ 2147483647) (hQ : ∀ w2, (∀ a j, (a ≠ 193 ∨ j ≠ 20) → (a < 207 ∨ 209 < a) → w2 a j = w a j) → RQ (oDeed t P p v m).2 20 207 w2 → Q (some (xi (oDeed t P p v m).1)) g w2) : cal (d + 4) nMo_deed [xr 193, xi p, xi v, xi m] g w Q := by
  refine eMo_deed fun lim Q2 h2 => wMo_deed_0 ?_
  have hQ := fun w2 a b => h2 _ g w2 rfl (hQ w2 a b)
  have e3 : w 193 20 = P 0 0 := h.1
  unfold oDeed at hQ
  simp only [m_o hM, true_and]
  refine mo_cellOf hM hl li hv ⟨_, rfl, ?_⟩
  simp only [m_o hM, true_and]
  refine mo_isPerson hM hl li ⟨_, rfl, fun a => ?_, fun a => ⟨fun b => mo_in ⟨_, rfl, fun e => ?_, fun e => ?_⟩, fun b => ?_⟩⟩
  · rw [if_neg (fun z => ifv.1 a z.1)] at hQ; exact hQ w (fun _ _ _ _ => rfl) h
  · rw [if_pos ⟨ifv.2 a, b⟩, if_pos (ifv.2 e)] at hQ
    simp only [m_o hM, m_p21 hM, m_a21 hM, e3, true_and]
    refine ⟨fun q => ⟨by omega, ?_⟩, fun q => ?_⟩
    · rw [if_pos (by omega)] at hQ
      refine wMo_deed_61 ?_
      simp only [m_o hM, m_p22 hM, m_a22 hM, xup_a (show 193 ≠ 207 by decide), e3, true_and]
      refine ⟨by omega, wMo_deed_72 ?_⟩
      simp only [m_o hM, m_p23 hM, m_a23 hM, xup_a (show 193 ≠ 207 by decide), xup_a (show 193 ≠ 208 by decide), e3, true_and]
      refine ⟨by omega, wMo_deed_82 ?_⟩
      simp only [m_o hM, xup_a (show 193 ≠ 207 by decide), xup_a (show 193 ≠ 208 by decide), xup_a (show 193 ≠ 209 by decide), e3, xup_s, true_and]
      refine ⟨by constructor <;> omega, hQ _ (fun x j q r => ?_) ⟨by rw [xup_s]; exact (wr_0 (P := P) (p := p) (c := cOf t v) (m := m)).symm, fun i hi => ?_⟩⟩
      · have e1 : ∀ (u : xW) (val : Int), xup u 193 20 val x j = u x j := fun u val => by
          by_cases z : x = 193
          · subst z; exact xup_k (q.resolve_left (fun n => n rfl))
          · exact xup_a z
        rw [e1, xup_a (by omega), xup_a (by omega), xup_a (by omega)]
      · have hi : (i : Int) < wr P p (cOf t v) m 0 0 := hi
        rw [wr_0] at hi
        show _ = wr P p (cOf t v) m 1 i ∧ _ = wr P p (cOf t v) m 2 i ∧ _ = wr P p (cOf t v) m 3 i
        rw [wr_1, wr_2, wr_3]
        refine ⟨?_, ?_, ?_⟩
        · rw [xup_a (show 207 ≠ 193 by decide), xup_a (show 207 ≠ 209 by decide), xup_a (show 207 ≠ 208 by decide)]
          by_cases z : i = (P 0 0).toNat
          · rw [z, xup_s, zup_s]
          · rw [xup_k z, zup_n z]; exact (h.2 i (by omega)).1
        · show xup _ 193 20 _ 208 i = _
          rw [xup_a (show 208 ≠ 193 by decide), xup_a (show 208 ≠ 209 by decide)]
          by_cases z : i = (P 0 0).toNat
          · rw [z, xup_s, zup_s]
          · rw [xup_k z, zup_n z, xup_a (show 208 ≠ 207 by decide)]; exact (h.2 i (by omega)).2.1
        · show xup _ 193 20 _ 209 i = _
          rw [xup_a (show 209 ≠ 193 by decide)]
          by_cases z : i = (P 0 0).toNat
          · rw [z, xup_s, zup_s]
          · rw [xup_k z, zup_n z, xup_a (show 209 ≠ 208 by decide), xup_a (show 209 ≠ 207 by decide)]; exact (h.2 i (by omega)).2.2
    · rw [if_neg (by omega)] at hQ; exact hQ w (fun _ _ _ _ => rfl) h
  · rw [if_pos ⟨ifv.2 a, b⟩, if_neg (ifv.1 e)] at hQ; exact hQ w (fun _ _ _ _ => rfl) h
  · rw [if_neg (fun z => z.2 b)] at hQ; exact hQ w (fun _ _ _ _ => rfl) h
end CMQ
