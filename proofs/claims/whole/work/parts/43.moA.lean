/-! ===== the reference: a minute ===== -/
def RMl (t : zS) (w : xW) : Prop := w 193 4 = t 0 0 ∧ w 193 5 = t 0 1 ∧ w 193 8 = t 0 2 ∧ w 193 7 = t 0 3 ∧ w 193 11 = t 0 4 ∧ w 193 13 = t 0 5 ∧ (∀ i, i < nC t → w 198 i = t 1 i) ∧ (∀ i : Nat, (i : Int) < t 0 4 → w 201 i = t 2 i) ∧ (∀ i, i < nS t → w 199 i = t 3 i ∧ w 200 i = t 4 i) ∧ ∀ i, i < nP t → w 202 i = t 5 i ∧ w 203 i = t 6 i
/-- where a row begins in the reference's array; which of its places count -/
def off (r : Nat) : Nat := ([0, 20, 40, 60, 80, 100, 104, 108, 114, 120, 126, 132, 138][r]?).getD 143
def act (t : zS) (r i : Nat) : Prop := match r with
  | 0 => i < nC t
  | 1 => i < 20
  | 2 => i < 20
  | 3 => i < nC t
  | 4 => i < nC t
  | 5 => i < nS t
  | 6 => i < nS t
  | 7 => i < nP t
  | 8 => i < nP t
  | 9 => i < nP t
  | 10 => i < nP t
  | 11 => i < nP t
  | 12 => i < 5
  | _ => False
def RMs (t s : zS) (w : xW) : Prop := ∀ r i, act t r i → w 194 (off r + i) = s r i
/-- only now, heats, who feels changed -/
def MF (w w2 : xW) : Prop := ∀ a j, a ≠ 194 → a ≠ 217 → (a = 193 → j ≠ 49) → w2 a j = w a j
theorem MF.refl {w : xW} : MF w w := fun _ _ _ _ _ => rfl
theorem MF.trans {w w2 w3 : xW} (h : MF w w2) (h2 : MF w2 w3) : MF w w3 := fun a j p q r => (h2 a j p q r).trans (h a j p q r)
theorem RMl.fr {t : zS} {w w2 : xW} (h : RMl t w) (f : MF w w2) : RMl t w2 := by
  obtain ⟨h1, h2, h3, h4, h5, h6, h7, h8, h9, h10⟩ := h
  have e : ∀ j, j ≠ 49 → w2 193 j = w 193 j := fun j q => f 193 j (by decide) (by decide) (fun _ => q)
  refine ⟨by rw [e _ (by decide), h1], by rw [e _ (by decide), h2], by rw [e _ (by decide), h3], by rw [e _ (by decide), h4], by rw [e _ (by decide), h5], by rw [e _ (by decide), h6], fun i q => ?_, fun i q => ?_, fun i q => ?_, fun i q => ?_⟩
  · rw [f 198 i (by omega) (by omega) (by omega)]; exact h7 i q
  · rw [f 201 i (by omega) (by omega) (by omega)]; exact h8 i q
  · rw [f 199 i (by omega) (by omega) (by omega), f 200 i (by omega) (by omega) (by omega)]; exact h9 i q
  · rw [f 202 i (by omega) (by omega) (by omega), f 203 i (by omega) (by omega) (by omega)]; exact h10 i q
theorem li_n {t : zS} (li : LInv t) : (nC t : Int) = t 0 0 * t 0 1 ∧ nC t ≤ 20 ∧ (nS t : Int) = t 0 2 ∧ nS t ≤ 4 ∧ (nP t : Int) = t 0 5 ∧ nP t ≤ 6 := by
  obtain ⟨h1, h2, -, -, h5, -⟩ := li
  have h : 0 ≤ t 0 0 * t 0 1 ∧ t 0 0 * t 0 1 ≤ 20 := by
    rcases h1 with q | q
    · rw [q.1]; simp
    · exact ⟨Int.mul_nonneg (by omega) (by omega), q.2.2.2.2⟩
  unfold nC nS nP
  omega
theorem off_s {r : Nat} (h : r ≤ 12) : r = 0 ∨ r = 1 ∨ r = 2 ∨ r = 3 ∨ r = 4 ∨ r = 5 ∨ r = 6 ∨ r = 7 ∨ r = 8 ∨ r = 9 ∨ r = 10 ∨ r = 11 ∨ r = 12 := by omega
theorem act_b {t : zS} (li : LInv t) {r i : Nat} (h : act t r i) : r ≤ 12 ∧ off r + i < off (r + 1) ∧ off r + i < 143 := by
  obtain ⟨-, n2, -, n4, -, n6⟩ := li_n li
  have hr : r ≤ 12 := by
    rcases Nat.lt_or_ge 12 r with q | q
    · exfalso
      unfold act at h
      split at h <;> omega
    · exact q
  refine ⟨hr, ?_⟩
  rcases off_s hr with q | q | q | q | q | q | q | q | q | q | q | q | q <;> subst q <;> simp only [act] at h <;> simp [off] <;> omega
theorem off_le : ∀ r, r ≤ 12 → ∀ r2, r2 ≤ 12 → r < r2 → off (r + 1) ≤ off r2 := by decide
/-- a number is put into a row -/
theorem RMs.put {t s : zS} {w : xW} (li : LInv t) (h : RMs t s w) {r i : Nat} (ha : act t r i) {v : Int} {j : Nat} (hj : j = off r + i) : RMs t (zset s r (zup (s r) i v)) (xup w 194 j v) := by
  intro r2 i2 h2
  subst hj
  obtain ⟨a1, a2, -⟩ := act_b li ha
  obtain ⟨b1, b2, -⟩ := act_b li h2
  by_cases hr : r2 = r
  · subst hr
    rw [zset_s]
    by_cases hi : i2 = i
    · subst hi
      rw [zup_s, xup_s]
    · rw [zup_n hi, xup_k (by omega)]
      exact h r2 i2 h2
  · rw [zset_n hr, xup_k]
    · exact h r2 i2 h2
    · rcases Nat.lt_or_ge r r2 with q | q
      · have := off_le r a1 r2 b1 q
        omega
      · have := off_le r2 b1 r a1 (by omega)
        omega
/-- rows that are alike where it counts -/
theorem RMs.to {t s s2 : zS} {w : xW} (h : RMs t s w) (e : ∀ r i, act t r i → s2 r i = s r i) : RMs t s2 w := fun r i q => by rw [e r i q]; exact h r i q
/-- another cell is put -/
theorem RMs.oth {t s : zS} {w w2 : xW} (h : RMs t s w) (e : ∀ j, w2 194 j = w 194 j) : RMs t s w2 := fun r i q => by rw [e]; exact h r i q
theorem geo {t : zS} (li : LInv t) {c : Int} (hc : 0 ≤ c ∧ c < nC t) : (1 ≤ t 0 0 ∧ t 0 0 ≤ 6 ∧ 1 ≤ t 0 1 ∧ t 0 1 ≤ 6) ∧ (0 < c / t 0 0 → t 0 0 ≤ c) ∧ (c % t 0 0 < t 0 0 - 1 → c + 1 < nC t) ∧ (c / t 0 0 < t 0 1 - 1 → c + t 0 0 < nC t) ∧ (0 < c % t 0 0 → 1 ≤ c) ∧ (0 ≤ c / t 0 0 ∧ c / t 0 0 < t 0 1) ∧ (0 ≤ c % t 0 0 ∧ c % t 0 0 < t 0 0) := by
  obtain ⟨n1, n2, -⟩ := li_n li
  have hW : 1 ≤ t 0 0 ∧ t 0 0 ≤ 6 ∧ 1 ≤ t 0 1 ∧ t 0 1 ≤ 6 := by
    rcases li.1 with q | q
    · rw [q.1] at n1
      simp at n1
      omega
    · omega
  refine ⟨hW, ?_⟩
  rw [n1] at hc ⊢
  generalize t 0 0 = W at *
  generalize t 0 1 = H at *
  have : W = 1 ∨ W = 2 ∨ W = 3 ∨ W = 4 ∨ W = 5 ∨ W = 6 := by omega
  rcases this with q | q | q | q | q | q <;> subst q <;> omega
theorem qe {Q : xQ} {g : xG} {w : xW} {a b : Int} (h : Q (some (xi a)) g w) (e : a = b) : Q (some (xi b)) g w := e ▸ h
section MO
variable {g : xG} {w : xW} {t s : zS} {d : Nat} {Q : xQ}
theorem mo_in {v lo hi : Int} (hQ : Q (some (xi (if lo ≤ v ∧ v ≤ hi then 1 else 0))) g w) : cal (d + 1) nMo_in [xl v, xl lo, xl hi] g w Q := by
  refine eMo_in fun lim Q2 h2 => wMo_in_0 ?_
  have hQ := h2 _ _ _ rfl hQ
  unfold xCmp
  refine ⟨fun h => ⟨Or.inl rfl, qe hQ ?_⟩, fun h => ⟨fun h2 => ⟨Or.inl rfl, qe hQ ?_⟩, fun h2 => ⟨Or.inr rfl, qe hQ ?_⟩⟩⟩
  · rw [if_neg]
    split at h
    · omega
    · split at h <;> omega
  · rw [if_neg]
    split at h2
    · omega
    · split at h2 <;> omega
  · rw [if_pos]
    constructor
    · split at h
      · omega
      · split at h <;> omega
    · split at h2
      · omega
      · split at h2 <;> omega
theorem mo_cells (hM : MG g) (hl : RMl t w) (li : LInv t) (hQ : Q (some (xi (nC t))) g w) : cal (d + 1) nMo_cells [xr 193] g w Q := by
  refine eMo_cells fun lim Q2 h2 => wMo_cells_0 ?_
  have hQ := h2 _ _ _ rfl hQ
  obtain ⟨n1, n2, -⟩ := li_n li
  rw [hl.1, hl.2.1, ← n1]
  exact ⟨m_o hM, m_o hM, by constructor <;> omega, hQ⟩
theorem mo_way (hM : MG g) (hl : RMl t w) (hs : RMs t s w) (li : LInv t) {c dd : Int} (hc : 0 ≤ c ∧ c < nC t) (hQ : Q (some (xi (wyy t s c dd))) g w) : cal (d + 1) nMo_way [xr 193, xi c, xi dd] g w Q := by
  refine eMo_way fun lim Q2 h2 => wMo_way_0 ?_
  have hQ := h2 _ _ _ rfl hQ
  obtain ⟨n1, n2, -⟩ := li_n li
  obtain ⟨hW, g1, g2, g3, g4, g5, g6⟩ := geo li hc
  simp only [m_o hM, m_p0 hM, m_r0 hM, hl.1, hl.2.1, Int.tdiv_eq_ediv_of_nonneg hc.1, Int.tmod_eq_emod_of_nonneg hc.1, true_and]
  refine ⟨⟨by omega, by constructor <;> omega⟩, ⟨by omega, by constructor <;> omega⟩, fun h => ?_, fun h => ⟨fun h1 => ?_, fun h1 => ?_⟩, fun h => ⟨by constructor <;> omega, fun h1 => ?_, fun h1 => ?_⟩, fun h => ⟨by constructor <;> omega, fun h1 => ?_, fun h1 => ?_⟩, fun h => ⟨fun h1 => ?_, fun h1 => ?_⟩, trivial⟩
  · refine qe hQ ?_
    have e : nbr t c dd = c := by unfold nbr; rw [if_neg (by omega), if_neg (by omega), if_neg (by omega), if_neg (by omega)]
    have e2 : wlf t s c dd = 0 := by unfold wlf; rw [if_neg (by omega), if_neg (by omega), if_neg (by omega), if_neg (by omega)]
    unfold wyy
    rw [e, e2, if_neg (by omega), if_pos rfl]
  · subst h
    refine qe hQ ?_
    have e : nbr t c 1 = -1 := by unfold nbr; rw [if_pos rfl, if_neg (by omega)]
    unfold wyy
    rw [e, if_pos rfl]
  · subst h
    have := g1 h1
    have e : nbr t c 1 = c - t 0 0 := by unfold nbr; rw [if_pos rfl, if_pos h1]
    have e1 : (40 + c - t 0 0).toNat = 40 + (c - t 0 0).toNat := by omega
    have e2 : w 194 (40 + c - t 0 0).toNat = wlf t s c 1 := by rw [e1, show w 194 (40 + _) = _ from hs 2 _ (show _ < 20 by omega)]; rfl
    rw [e2]
    refine ⟨by constructor <;> omega, by constructor <;> omega, by constructor <;> omega, fun q => qe hQ ?_, fun q => ⟨by constructor <;> omega, qe hQ ?_⟩⟩
    · unfold wyy
      rw [e, if_neg (by omega), if_neg q]
    · unfold wyy
      rw [e, if_neg (by omega), if_pos q]
  · subst h
    refine qe hQ ?_
    have e : nbr t c 2 = -1 := by unfold nbr; rw [if_neg (by decide), if_pos rfl, if_neg (by omega)]
    unfold wyy
    rw [e, if_pos rfl]
  · subst h
    have := g2 h1
    have e : nbr t c 2 = c + 1 := by unfold nbr; rw [if_neg (by decide), if_pos rfl, if_pos h1]
    have e1 : (20 + c).toNat = 20 + c.toNat := by omega
    have e2 : w 194 (20 + c).toNat = wlf t s c 2 := by rw [e1, show w 194 (20 + _) = _ from hs 1 _ (show _ < 20 by omega)]; rfl
    rw [e2]
    refine ⟨by constructor <;> omega, by constructor <;> omega, fun q => qe hQ ?_, fun q => ⟨by constructor <;> omega, qe hQ ?_⟩⟩
    · unfold wyy
      rw [e, if_neg (by omega), if_neg q]
    · unfold wyy
      rw [e, if_neg (by omega), if_pos q]
  · subst h
    refine qe hQ ?_
    have e : nbr t c 3 = -1 := by unfold nbr; rw [if_neg (by decide), if_neg (by decide), if_pos rfl, if_neg (by omega)]
    unfold wyy
    rw [e, if_pos rfl]
  · subst h
    have := g3 h1
    have e : nbr t c 3 = c + t 0 0 := by unfold nbr; rw [if_neg (by decide), if_neg (by decide), if_pos rfl, if_pos h1]
    have e1 : (40 + c).toNat = 40 + c.toNat := by omega
    have e2 : w 194 (40 + c).toNat = wlf t s c 3 := by rw [e1, show w 194 (40 + _) = _ from hs 2 _ (show _ < 20 by omega)]; rfl
    rw [e2]
    refine ⟨by constructor <;> omega, by constructor <;> omega, fun q => qe hQ ?_, fun q => ⟨by constructor <;> omega, qe hQ ?_⟩⟩
    · unfold wyy
      rw [e, if_neg (by omega), if_neg q]
    · unfold wyy
      rw [e, if_neg (by omega), if_pos q]
  · subst h
    refine qe hQ ?_
    have e : nbr t c 4 = -1 := by unfold nbr; rw [if_neg (by decide), if_neg (by decide), if_neg (by decide), if_pos rfl, if_neg (by omega)]
    unfold wyy
    rw [e, if_pos rfl]
  · subst h
    have := g4 h1
    have e : nbr t c 4 = c - 1 := by unfold nbr; rw [if_neg (by decide), if_neg (by decide), if_neg (by decide), if_pos rfl, if_pos h1]
    have e1 : (20 + c - 1).toNat = 20 + (c - 1).toNat := by omega
    have e2 : w 194 (20 + c - 1).toNat = wlf t s c 4 := by rw [e1, show w 194 (20 + _) = _ from hs 1 _ (show _ < 20 by omega)]; rfl
    rw [e2]
    refine ⟨by constructor <;> omega, by constructor <;> omega, by constructor <;> omega, fun q => qe hQ ?_, fun q => ⟨by constructor <;> omega, qe hQ ?_⟩⟩
    · unfold wyy
      rw [e, if_neg (by omega), if_neg q]
    · unfold wyy
      rw [e, if_neg (by omega), if_pos q]
/-- where a way leads: a cell, or nowhere -/
theorem wyy_in (li : LInv t) {c : Int} (hc : 0 ≤ c ∧ c < nC t) (dd : Int) : wyy t s c dd = -1 ∨ (0 ≤ wyy t s c dd ∧ wyy t s c dd < nC t) := by
  obtain ⟨hW, g1, g2, g3, g4, g5, g6⟩ := geo li hc
  have hn : nbr t c dd = -1 ∨ (0 ≤ nbr t c dd ∧ nbr t c dd < nC t) := by
    unfold nbr
    split
    · split
      · have := g1 (by assumption); omega
      · exact Or.inl rfl
    · split
      · split
        · have := g2 (by assumption); omega
        · exact Or.inl rfl
      · split
        · split
          · have := g3 (by assumption); omega
          · exact Or.inl rfl
        · split
          · split
            · have := g4 (by assumption); omega
            · exact Or.inl rfl
          · omega
  unfold wyy
  split
  · exact Or.inl rfl
  · split
    · exact hn
    · exact Or.inl rfl
theorem mo_sunAt (hM : MG g) (hl : RMl t w) (li : LInv t) {m : Int} (hm : 0 ≤ m ∧ m ≤ 2147483647) (hQ : Q (some (xi (sunv t m))) g w) : cal (d + 1) nMo_sunAt [xr 193, xi m] g w Q := by
  refine eMo_sunAt fun lim Q2 h2 => wMo_sunAt_0 ?_
  have hQ := h2 _ _ _ rfl hQ
  obtain ⟨-, -, -, lh, -, -, ls, -⟩ := li
  have hh : w 193 11 = t 0 4 := hl.2.2.2.2.1
  simp only [m_o hM, m_p12 hM, m_r12 hM, hh, true_and]
  refine ⟨fun h => ?_, fun h => qe hQ ?_⟩
  · rw [Int.tdiv_eq_ediv_of_nonneg hm.1, Int.tdiv_eq_ediv_of_nonneg (by omega), Int.tmod_eq_emod_of_nonneg (by omega)]
    have h1 : 0 ≤ m / 6 % t 0 4 := Int.emod_nonneg _ h
    have h2 : m / 6 % t 0 4 < t 0 4 := Int.emod_lt_of_pos _ (by omega)
    have h3 : 0 ≤ m / 6 / t 0 4 := Int.ediv_nonneg (by omega) (by omega)
    have h4 : m / 6 / t 0 4 ≤ m / 6 := Int.ediv_le_self _ (by omega)
    refine ⟨⟨by decide, by constructor <;> omega⟩, ⟨h, by constructor <;> omega⟩, by constructor <;> omega, qe hQ ?_⟩
    unfold sunv
    rw [if_neg h, hl.2.2.2.2.2.2.2.1 _ (by omega)]
  · unfold sunv
    rw [if_pos h]
end MO
