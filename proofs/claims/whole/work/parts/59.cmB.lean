/-! ===== cells and their names, counting ===== -/
def cAt (t : zS) (x y : Int) : Int := if (0 ≤ x ∧ x < t 0 0) ∧ 0 ≤ y ∧ y < t 0 1 then y * t 0 0 + x else -1
def nam (t : zS) (c : Int) : Int := 10 * (c % t 0 0) + c / t 0 0
def cnO (s : zS) (p : Int) : Nat → Int
  | 0 => 0
  | n + 1 => cnO s p n + (if s 3 n = p then 1 else 0)
section CMB
variable {g : xG} {w w0 : xW} {t s : zS} {d : Nat} {Q : xQ} {lim : Nat × Nat} {kl kn kl2 kn2 k kt : Nat} {v x y : Int}
theorem cAt_b (li : LInv t) (h : (0 ≤ x ∧ x < t 0 0) ∧ 0 ≤ y ∧ y < t 0 1) : 0 ≤ y * t 0 0 + x ∧ y * t 0 0 + x < nC t ∧ 0 ≤ y * t 0 0 ∧ y * t 0 0 ≤ 30 ∧ 1 ≤ t 0 0 ∧ t 0 0 ≤ 6 ∧ 1 ≤ t 0 1 ∧ t 0 1 ≤ 6 := by
  obtain ⟨n1, -⟩ := li_n li
  rw [n1]
  have hW : 1 ≤ t 0 0 ∧ t 0 0 ≤ 6 ∧ 1 ≤ t 0 1 ∧ t 0 1 ≤ 6 := by rcases li.1 with q | q <;> omega
  generalize t 0 0 = W at *
  generalize t 0 1 = H at *
  have : W = 1 ∨ W = 2 ∨ W = 3 ∨ W = 4 ∨ W = 5 ∨ W = 6 := by omega
  rcases this with q | q | q | q | q | q <;> subst q <;> omega
theorem cAt_r (li : LInv t) : cAt t x y = -1 ∨ (0 ≤ cAt t x y ∧ cAt t x y < nC t) := by
  unfold cAt
  by_cases h : (0 ≤ x ∧ x < t 0 0) ∧ 0 ≤ y ∧ y < t 0 1
  · rw [if_pos h]; have := cAt_b li h; omega
  · rw [if_neg h]; exact Or.inl rfl
theorem cl_cellAt (hT : TG g kt) (hl : RCl t kt w) (li : LInv t) (hQ : Q (some (xi (cAt t x y))) g w) : cal (d + 1) nTw_cellAt [xr kt, xi x, xi y] g w Q := by
  refine eTw_cellAt fun lim Q2 h2 => wTw_cellAt_0 ?_
  have hQ := h2 _ _ _ rfl hQ
  have e0 : w kt 0 = t 0 0 := hl.1
  have e1 : w kt 1 = t 0 1 := hl.2.1
  unfold cAt at hQ
  simp only [t_o hT, true_and, e0, e1]
  refine ⟨fun q => qe hQ ?_, fun q => ⟨fun q2 => qe hQ ?_, fun q2 => ⟨fun q3 => qe hQ ?_, fun q3 => ⟨fun q4 => qe hQ ?_, fun q4 => ?_⟩⟩⟩⟩
  · rw [if_neg (by omega)]
  · rw [if_neg (by omega)]
  · rw [if_neg (by omega)]
  · rw [if_neg (by omega)]
  · have h : (0 ≤ x ∧ x < t 0 0) ∧ 0 ≤ y ∧ y < t 0 1 := by omega
    have hb := cAt_b li h
    exact ⟨by constructor <;> omega, by constructor <;> omega, qe hQ (if_pos h)⟩
theorem mo_isCell (hM : MG g) (hl : RMl t w) (li : LInv t) (hQ : Q (some (xi (if (0 ≤ x ∧ x < t 0 0) ∧ 0 ≤ y ∧ y < t 0 1 then 1 else 0))) g w) : cal (d + 2) nMo_isCell [xr 193, xi x, xi y] g w Q := by
  refine eMo_isCell fun lim Q2 h2 => wMo_isCell_0 ?_
  have hQ := h2 _ _ _ rfl hQ
  have e0 : w 193 4 = t 0 0 := hl.1
  have e1 : w 193 5 = t 0 1 := hl.2.1
  have hW : 0 ≤ t 0 0 ∧ t 0 0 ≤ 6 ∧ 0 ≤ t 0 1 ∧ t 0 1 ≤ 6 := by rcases li.1 with q | q <;> omega
  simp only [m_o hM, true_and, e0]
  refine ⟨by constructor <;> omega, mo_in ⟨_, rfl, fun q => ⟨Or.inl trivial, qe hQ ?_⟩, fun q => ?_⟩⟩
  · have := ifv.1 q
    rw [if_neg (by omega)]
  · have q := ifv.2 q
    simp only [m_o hM, true_and, e1]
    refine ⟨by constructor <;> omega, mo_in ⟨_, rfl, fun q2 => ⟨Or.inl trivial, qe hQ ?_⟩, fun q2 => ⟨Or.inr trivial, qe hQ ?_⟩⟩⟩
    · have := ifv.1 q2
      rw [if_neg (by omega)]
    · have q2 := ifv.2 q2
      rw [if_pos (by omega)]
theorem nam_b (li : LInv t) (hc : 0 ≤ v ∧ v < nC t) : (1 ≤ t 0 0 ∧ t 0 0 ≤ 6) ∧ (0 ≤ v / t 0 0 ∧ v / t 0 0 < 6) ∧ (0 ≤ v % t 0 0 ∧ v % t 0 0 < 6) := by
  obtain ⟨h1, -, -, -, -, h2, h3⟩ := geo li hc
  omega
theorem cl_pairOf (hT : TG g kt) (hl : RCl t kt w) (li : LInv t) (hc : 0 ≤ v ∧ v < nC t) (hQ : Q (some (xi (nam t v))) g w) : cal (d + 1) nTw_pairOf [xr kt, xi v] g w Q := by
  refine eTw_pairOf fun lim Q2 h2 => wTw_pairOf_0 ?_
  have hQ := h2 _ _ _ rfl hQ
  have e0 : w kt 0 = t 0 0 := hl.1
  have hb := nam_b li hc
  unfold nam at hQ
  simp only [t_o hT, true_and, e0, Int.tdiv_eq_ediv_of_nonneg hc.1, Int.tmod_eq_emod_of_nonneg hc.1]
  exact ⟨fun _ => ⟨⟨by omega, by constructor <;> omega⟩, by constructor <;> omega, ⟨by omega, by constructor <;> omega⟩, by constructor <;> omega, qe hQ (by omega)⟩, fun q => by omega⟩
theorem mo_named (hM : MG g) (hl : RMl t w) (li : LInv t) (hc : 0 ≤ v ∧ v < nC t) (hQ : Q (some (xi (nam t v))) g w) : cal (d + 1) nMo_named [xr 193, xi v] g w Q := by
  refine eMo_named fun lim Q2 h2 => wMo_named_0 ?_
  have hQ := h2 _ _ _ rfl hQ
  have e0 : w 193 4 = t 0 0 := hl.1
  have hb := nam_b li hc
  unfold nam at hQ
  simp only [m_o hM, true_and, e0, Int.tdiv_eq_ediv_of_nonneg hc.1, Int.tmod_eq_emod_of_nonneg hc.1]
  exact ⟨⟨by omega, by constructor <;> omega⟩, by constructor <;> omega, ⟨by omega, by constructor <;> omega⟩, by constructor <;> omega, qe hQ (by omega)⟩
theorem cnO_b {p : Int} : ∀ n : Nat, 0 ≤ cnO s p n ∧ cnO s p n ≤ n
  | 0 => by unfold cnO; omega
  | n + 1 => by
    have := cnO_b (p := p) n
    unfold cnO
    split <;> omega
theorem cl_owned1 (hS : SG g k) (hs : RCs t s k w) (li : LInv t) {p : Int} (hQ : Q (some (xi (cnO s p (nC t)))) g w) : ∀ (n i : Nat), i + n = nC t → aSt_countOwned d lim Q 11 [xr k, none, xi p, xi (cnO s p i), xi (nC t), xi i] [] g w
  | 0, i, hi => by
    have hi : i = nC t := by omega
    subst hi
    refine wSt_countOwned_11 ?_
    simp only [s_o hS, true_and]
    exact ⟨fun _ => hQ, fun h => by omega⟩
  | n + 1, i, hi => by
    obtain ⟨n1, n2, -⟩ := li_n li
    have hin : i < nC t := by omega
    have hb := cnO_b (s := s) (p := p) i
    have e3 : w (k + 3) (Int.toNat (i : Int)) = s 3 i := by rw [Int.toNat_natCast]; exact hs.1 3 i hin (by decide) (by decide)
    have ih := cl_owned1 hS hs li hQ n (i + 1) (by omega)
    refine wSt_countOwned_11 ?_
    simp only [s_o hS, s_p2 hS, s_r2 hS, true_and, e3]
    rw [show ((i : Int) + 1) = ((i + 1 : Nat) : Int) by omega]
    refine ⟨fun h => by omega, fun _ => ⟨by constructor <;> omega, fun q => ⟨by constructor <;> omega, ?_⟩, fun q => ⟨by constructor <;> omega, by constructor <;> omega, ?_⟩⟩⟩
    · rw [cnO, if_neg q, Int.add_zero] at ih; exact ih
    · rw [cnO, if_pos q] at ih; exact ih
theorem cl_owned (hS : SG g k) (hT : TG g kt) (hl : RCl t kt w) (hs : RCs t s k w) (li : LInv t) {p : Int} (hQ : Q (some (xi (cnO s p (nC t)))) g w) : cal (d + 2) nSt_countOwned [xr k, xr kt, xi p] g w Q := by
  refine eSt_countOwned fun lim Q2 h2 => wSt_countOwned_0 ?_
  have hQ := h2 _ _ _ rfl hQ
  simp only [s_o hS, t_o hT, true_and]
  exact cl_cells hT hl li ⟨_, rfl, cl_owned1 hS hs li hQ (nC t) 0 (by omega)⟩
theorem mo_owns1 (hM : MG g) (hl : RMl t w) (hs : RMs t s w) (li : LInv t) {p : Int} (hQ : Q (some (xi (cnO s p (nC t)))) g w) : ∀ (n i : Nat), i + n = nC t → aMo_owns (d + 1) lim Q 4 [xr 193, xi p, xi (cnO s p i), xi i] [] g w
  | 0, i, hi => by
    have hi : i = nC t := by omega
    subst hi
    refine wMo_owns_4 ⟨m_o hM, mo_cells hM hl li ⟨_, rfl, fun _ => hQ, fun h => by omega⟩⟩
  | n + 1, i, hi => by
    obtain ⟨n1, n2, -⟩ := li_n li
    have hin : i < nC t := by omega
    have hb := cnO_b (s := s) (p := p) i
    have e3 : w 194 (Int.toNat (60 + (i : Int))) = s 3 i := by
      rw [show Int.toNat (60 + (i : Int)) = 60 + i by omega]; exact hs 3 i hin
    have ih := mo_owns1 hM hl hs li hQ n (i + 1) (by omega)
    refine wMo_owns_4 ⟨m_o hM, mo_cells hM hl li ⟨_, rfl, fun h => by omega, fun _ => ?_⟩⟩
    simp only [m_o hM, m_p0 hM, m_r0 hM, true_and, e3]
    rw [show ((i : Int) + 1) = ((i + 1 : Nat) : Int) by omega]
    refine ⟨by constructor <;> omega, by constructor <;> omega, fun q => ⟨by constructor <;> omega, by constructor <;> omega, ?_⟩, fun q => ⟨by constructor <;> omega, by constructor <;> omega, ?_⟩⟩
    · rw [cnO, if_neg q] at ih; exact ih
    · rw [cnO, if_pos q] at ih; exact ih
theorem mo_owns (hM : MG g) (hl : RMl t w) (hs : RMs t s w) (li : LInv t) {p : Int} (hQ : Q (some (xi (cnO s p (nC t)))) g w) : cal (d + 2) nMo_owns [xr 193, xi p] g w Q := by
  refine eMo_owns fun lim Q2 h2 => wMo_owns_0 ?_
  exact mo_owns1 hM hl hs li (h2 _ _ _ rfl hQ) (nC t) 0 (by omega)
/-- who is on a cell -/
def onC (s : zS) (c : Int) (n : Nat) : Int := msk (fun p => decide (s 7 p = c)) 0 n
theorem cl_people1 (hS : SG g k) (hT : TG g kt) (hl : RCl t kt w) (hs : RCs t s k w) (li : LInv t) {c : Int} (hQ : Q (some (xi (onC s c (nP t)))) g w) : ∀ (n i : Nat), i + n = nP t → aSt_peopleOn d lim Q 5 [xr k, xr kt, xi c, xi (onC s c i), xi i] [] g w
  | 0, i, hi => by
    obtain ⟨-, -, -, -, n5, n6⟩ := li_n li
    have e8 : w kt 5 = t 0 5 := hl.2.2.2.2.2.1
    have hi : i = nP t := by omega
    subst hi
    refine wSt_peopleOn_5 ?_
    simp only [s_o hS, t_o hT, e8, true_and]
    exact ⟨fun _ => hQ, fun h => by omega⟩
  | n + 1, i, hi => by
    obtain ⟨-, -, -, -, n5, n6⟩ := li_n li
    have e8 : w kt 5 = t 0 5 := hl.2.2.2.2.2.1
    have hin : i < nP t := by omega
    have e7 : w (k + 8) (Int.toNat (i : Int)) = s 7 i := by rw [Int.toNat_natCast]; exact hs.1 7 i hin (by decide) (by decide)
    have ih := cl_people1 hS hT hl hs li hQ n (i + 1) (by omega)
    refine wSt_peopleOn_5 ?_
    simp only [s_o hS, t_o hT, s_p7 hS, s_r7 hS, e8, e7, true_and]
    rw [show ((i : Int) + 1) = ((i + 1 : Nat) : Int) by omega]
    refine ⟨fun h => by omega, fun _ => ⟨by constructor <;> omega, fun q => ⟨by constructor <;> omega, ?_⟩, fun q => ⟨by constructor <;> omega, ?_⟩⟩⟩
    · unfold onC at ih ⊢
      rw [msk, if_neg (by simp; exact q)] at ih; exact ih
    · unfold onC at ih ⊢
      rw [msk, if_pos (by simp; exact q)] at ih; exact ih
theorem cl_people (hS : SG g k) (hT : TG g kt) (hl : RCl t kt w) (hs : RCs t s k w) (li : LInv t) {c : Int} (hQ : Q (some (xi (onC s c (nP t)))) g w) : cal (d + 1) nSt_peopleOn [xr k, xr kt, xi c] g w Q := by
  refine eSt_peopleOn fun lim Q2 h2 => wSt_peopleOn_0 ?_
  exact cl_people1 hS hT hl hs li (h2 _ _ _ rfl hQ) (nP t) 0 (by omega)
theorem mo_onCell1 (hM : MG g) (hl : RMl t w) (hs : RMs t s w) (li : LInv t) {c : Int} (hQ : Q (some (xi (onC s c (nP t)))) g w) : ∀ (n i : Nat), i + n = nP t → aMo_onCell d lim Q 4 [xr 193, xi c, xi (onC s c i), xi i] [] g w
  | 0, i, hi => by
    obtain ⟨-, -, -, -, n5, n6⟩ := li_n li
    have e8 : w 193 13 = t 0 5 := hl.2.2.2.2.2.1
    have hi : i = nP t := by omega
    subst hi
    refine wMo_onCell_4 ?_
    simp only [m_o hM, e8, true_and]
    exact ⟨fun _ => hQ, fun h => by omega⟩
  | n + 1, i, hi => by
    obtain ⟨-, -, -, -, n5, n6⟩ := li_n li
    have e8 : w 193 13 = t 0 5 := hl.2.2.2.2.2.1
    have hin : i < nP t := by omega
    have e7 : w 194 (Int.toNat (108 + (i : Int))) = s 7 i := by
      rw [show Int.toNat (108 + (i : Int)) = 108 + i by omega]; exact hs 7 i hin
    have ih := mo_onCell1 hM hl hs li hQ n (i + 1) (by omega)
    have hmi := msk_in (f := fun p => decide (s 7 p = c)) (z := 0) (by omega) i (by omega)
    refine wMo_onCell_4 ?_
    simp only [m_o hM, m_p0 hM, m_r0 hM, e8, e7, true_and]
    rw [show ((i : Int) + 1) = ((i + 1 : Nat) : Int) by omega]
    refine ⟨fun h => by omega, fun _ => ⟨by constructor <;> omega, by constructor <;> omega, fun q => ⟨by constructor <;> omega, ?_⟩, fun q => ⟨by constructor <;> omega, ?_⟩⟩⟩
    · unfold onC at ih ⊢
      rw [msk, if_neg (by simp; exact q)] at ih
      obtain ⟨a, ha⟩ := z_nn hmi.1
      rw [ha] at ih ⊢
      rw [z_or0 a (by omega)]; exact ih
    · unfold onC at ih ⊢
      rw [msk, if_pos (by simp; exact q)] at ih; exact ih
theorem mo_onCell (hM : MG g) (hl : RMl t w) (hs : RMs t s w) (li : LInv t) {c : Int} (hQ : Q (some (xi (onC s c (nP t)))) g w) : cal (d + 1) nMo_onCell [xr 193, xi c] g w Q := by
  refine eMo_onCell fun lim Q2 h2 => wMo_onCell_0 ?_
  exact mo_onCell1 hM hl hs li (h2 _ _ _ rfl hQ) (nP t) 0 (by omega)
end CMB
