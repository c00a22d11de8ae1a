/-! ===== papers: claims and deeds ===== -/
def cOf (t : zS) (v : Int) : Int := if 0 ≤ v then cAt t (v / 10) (v % 10) else -1
/-- papers: row 0: how many; 1 whose, 2 which cell, 3 which minute -/
def RP (P : zS) (k : Nat) (w : xW) : Prop := w k 3 = P 0 0 ∧ ∀ i : Nat, (i : Int) < P 0 0 → w (k + 1) i = P 1 i ∧ w (k + 2) i = P 2 i ∧ w (k + 3) i = P 3 i
def RQ (P : zS) (c a : Nat) (w : xW) : Prop := w 193 c = P 0 0 ∧ ∀ i : Nat, (i : Int) < P 0 0 → w a i = P 1 i ∧ w (a + 1) i = P 2 i ∧ w (a + 2) i = P 3 i
section CMM
variable {g : xG} {w w0 : xW} {t s P : zS} {d : Nat} {Q : xQ} {lim : Nat × Nat} {kl kn kl2 kn2 k kt : Nat} {v x y n q : Int}
theorem cl_cellOfPair (hT : TG g kt) (hl : RCl t kt w) (li : LInv t) (hv : v ≤ 2147483647) (hQ : Q (some (xi (cOf t v))) g w) : cal (d + 2) nTw_cellOfPair [xr kt, xi v] g w Q := by
  refine eTw_cellOfPair fun lim Q2 h2 => wTw_cellOfPair_0 ?_
  have hQ := h2 _ _ _ rfl hQ
  unfold cOf at hQ
  simp only [t_o hT, true_and]
  refine ⟨fun a => ?_, fun a => ?_⟩
  · rw [if_pos a] at hQ
    simp only [Int.tdiv_eq_ediv_of_nonneg a, Int.tmod_eq_emod_of_nonneg a]
    exact ⟨⟨by decide, by constructor <;> omega⟩, ⟨by decide, by constructor <;> omega⟩, cl_cellAt hT hl li ⟨_, rfl, hQ⟩⟩
  · rw [if_neg (by omega)] at hQ; exact hQ
theorem mo_cellOf (hM : MG g) (hl : RMl t w) (li : LInv t) (hv : v ≤ 2147483647) (hQ : Q (some (xi (cOf t v))) g w) : cal (d + 3) nMo_cellOf [xr 193, xi v] g w Q := by
  refine eMo_cellOf fun lim Q2 h2 => wMo_cellOf_0 ?_
  have hQ := h2 _ _ _ rfl hQ
  have ew : w 193 4 = t 0 0 := hl.1
  obtain ⟨n1, n2, -⟩ := li_n li
  unfold cOf cAt at hQ
  refine ⟨fun a => ?_, fun a => ?_⟩
  · rw [if_neg (by omega)] at hQ; exact hQ
  · rw [if_pos a] at hQ
    simp only [m_o hM, true_and, Int.tdiv_eq_ediv_of_nonneg a, Int.tmod_eq_emod_of_nonneg a]
    refine ⟨⟨by decide, by constructor <;> omega⟩, ⟨by decide, by constructor <;> omega⟩, mo_isCell hM hl li ⟨_, rfl, fun z => ?_, fun z => ?_⟩⟩
    · rw [if_neg (ifv.1 z)] at hQ; exact hQ
    · have z := ifv.2 z
      have hb := cAt_b li z
      rw [if_pos z] at hQ
      rw [Int.mul_comm] at hb hQ
      simp only [m_o hM, true_and, ew]
      exact ⟨⟨by decide, by constructor <;> omega⟩, by constructor <;> omega, ⟨by decide, by constructor <;> omega⟩, by constructor <;> omega, hQ⟩
end CMM
