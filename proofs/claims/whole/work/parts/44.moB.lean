/-! ===== the reference: heat flows ===== -/
section MOB
variable {g : xG} {w w0 : xW} {t s : zS} {d : Nat} {Q : xQ} {lim : Nat × Nat}
theorem fl1_b (li : LInv t) (si : SInv t s) {c : Nat} (hc : c < nC t) (dd : Int) : -(s 0 c / 8) ≤ fl1 t s c dd ∧ fl1 t s c dd ≤ 124 := by
  have h0 := (si.1 c hc).1
  unfold fl1
  split
  · omega
  · rcases wyy_in (s := s) li (c := c) (by omega) dd with q | q
    · omega
    · have h1 := (si.1 (wyy t s c dd).toNat (by omega)).1
      have h2 := z_td (s 0 (wyy t s c dd).toNat - s 0 c)
      rcases Int.lt_or_le (s 0 (wyy t s c dd).toNat - s 0 c) 0 with z | z
      · have := h2.2 z; omega
      · have := h2.1 z; omega
theorem mo_flows_it (hM : MG g) (hl : RMl t w) (hs : RMs t s w) (li : LInv t) (si : SInv t s) {c : Nat} (hc : c < nC t) {l2 dd : Int} (hd : 1 ≤ dd ∧ dd ≤ 4) (h2 : -1000 ≤ l2 ∧ l2 ≤ 1000) (hk : aMo_flows (d + 1) lim Q 4 [xr 193, xi c, xi (l2 + fl1 t s c dd), xi (dd + 1), none] [] g w) : aMo_flows (d + 1) lim Q 4 [xr 193, xi c, xi l2, xi dd, none] [] g w := by
  have hb := fl1_b li si hc dd
  have h0 := (si.1 c hc).1
  obtain ⟨n1, n2, -⟩ := li_n li
  refine wMo_flows_4 ⟨fun h => by omega, fun h => ⟨m_o hM, mo_way hM hl hs li (by omega) ⟨_, rfl, fun hv => ?_, fun hv => ?_⟩⟩⟩
  · rcases wyy_in (s := s) li (c := c) (by omega) dd with q | q
    · exact absurd q hv
    · have e1 : w 194 (Int.toNat (0 + wyy t s c dd)) = s 0 (wyy t s c dd).toNat := by
        rw [show Int.toNat (0 + wyy t s c dd) = 0 + (wyy t s c dd).toNat by omega]
        exact hs 0 _ (show _ < nC t by omega)
      have e2 : w 194 (Int.toNat (0 + (c : Int))) = s 0 c := by
        rw [show Int.toNat (0 + (c : Int)) = 0 + c by omega]
        exact hs 0 _ hc
      have h1 := (si.1 (wyy t s c dd).toNat (by omega)).1
      have e3 : fl1 t s c dd = (s 0 (wyy t s c dd).toNat - s 0 c).tdiv 8 := by unfold fl1; rw [if_neg hv]
      simp only [m_o hM, m_p0 hM, m_r0 hM, e1, e2, true_and, ← e3]
      refine ⟨by constructor <;> omega, by constructor <;> omega, by constructor <;> omega, by constructor <;> omega, by constructor <;> omega, ⟨by decide, by constructor <;> omega⟩, by constructor <;> omega, by constructor <;> omega, hk⟩
  · have e3 : fl1 t s c dd = 0 := by unfold fl1; rw [if_pos hv]
    rw [e3] at hk
    exact ⟨by constructor <;> omega, by constructor <;> omega, hk⟩
theorem mo_flows (hM : MG g) (hl : RMl t w) (hs : RMs t s w) (li : LInv t) (si : SInv t s) {c : Nat} (hc : c < nC t) (hQ : Q (some (xi (flw t s c))) g w) : cal (d + 2) nMo_flows [xr 193, xi c] g w Q := by
  refine eMo_flows fun lim Q2 h2 => wMo_flows_0 ?_
  have hQ := h2 _ _ _ rfl hQ
  have b1 := fl1_b li si hc 1
  have b2 := fl1_b li si hc 2
  have b3 := fl1_b li si hc 3
  have b4 := fl1_b li si hc 4
  have h0 := (si.1 c hc).1
  refine mo_flows_it (dd := 1) hM hl hs li si hc (by omega) (by omega) ?_
  refine mo_flows_it (dd := 2) hM hl hs li si hc (by omega) (by omega) ?_
  refine mo_flows_it (dd := 3) hM hl hs li si hc (by omega) (by omega) ?_
  refine mo_flows_it (dd := 4) hM hl hs li si hc (by omega) (by omega) ?_
  refine wMo_flows_4 (l3 := 5) ⟨fun _ => qe hQ ?_, fun h => by omega⟩
  unfold flw
  omega
/-- heat, what flows, the sun -/
def hA (t s : zS) (c : Nat) : Int := s 0 c + flw t s c + (if t 1 c = 0 then sunv t (s 12 2) else 0)
theorem sunv_b (li : LInv t) {m : Int} (hm : 0 ≤ m) : 0 ≤ sunv t m ∧ sunv t m ≤ 30 := by
  unfold sunv
  split
  · omega
  · rename_i h
    have h1 : 0 ≤ m / 6 % t 0 4 := Int.emod_nonneg _ h
    have h2 : m / 6 % t 0 4 < t 0 4 := Int.emod_lt_of_pos _ (by have := li.2.2.2.1; omega)
    exact li.2.2.2.2.2.2.1 _ (by omega)
theorem flw_b (li : LInv t) (si : SInv t s) {c : Nat} (hc : c < nC t) : -(s 0 c / 8) * 4 ≤ flw t s c ∧ flw t s c ≤ 496 := by
  have b1 := fl1_b li si hc 1
  have b2 := fl1_b li si hc 2
  have b3 := fl1_b li si hc 3
  have b4 := fl1_b li si hc 4
  unfold flw
  omega
theorem hA_b (li : LInv t) (si : SInv t s) {c : Nat} (hc : c < nC t) : 0 ≤ hA t s c ∧ hA t s c ≤ 1600 := by
  have h0 := (si.1 c hc).1
  have h1 := flw_b li si hc
  have h2 := sunv_b li (m := s 12 2) si.2.2.2.2.2.2.2.1.1
  unfold hA
  split <;> omega
theorem mo_goHeat1 (hM : MG g) (hl : RMl t w0) (li : LInv t) (si : SInv t s) (hk : ∀ w, MF w0 w → RMs t s w → (∀ c, c < nC t → w 217 c = hA t s c) → aMo_goHeat (d + 2) lim Q 64 [xr 193, xi 0, none] [] g w) : ∀ (n i : Nat) (w : xW), i + n = nC t → MF w0 w → RMs t s w → (∀ c, c < i → w 217 c = hA t s c) → aMo_goHeat (d + 2) lim Q 2 [xr 193, xi i, none] [] g w
  | 0, i, w, hi, hf, hs, hh => by
    have hl2 := hl.fr hf
    refine wMo_goHeat_2 ⟨m_o hM, mo_cells hM hl2 li ⟨_, rfl, fun _ => ?_, fun h => by omega⟩⟩
    exact hk w hf hs (fun c hc => hh c (by omega))
  | n + 1, i, w, hi, hf, hs, hh => by
    have hl2 := hl.fr hf
    obtain ⟨n1, n2, -⟩ := li_n li
    have hin : i < nC t := by omega
    have h0 := (si.1 i hin).1
    have h1 := flw_b li si hin
    have h2 := sunv_b li (m := s 12 2) si.2.2.2.2.2.2.2.1.1
    have hm := si.2.2.2.2.2.2.2.1
    have e0 : w 194 (Int.toNat (0 + (i : Int))) = s 0 i := by
      rw [show Int.toNat (0 + (i : Int)) = 0 + i by omega]
      exact hs 0 _ hin
    have e1 : w 198 (Int.toNat (i : Int)) = t 1 i := by rw [Int.toNat_natCast]; exact hl2.2.2.2.2.2.2.1 i hin
    have e2 : w 194 (Int.toNat 140) = s 12 2 := hs 12 2 (show 2 < 5 by decide)
    have go : ∀ v : Int, v = hA t s i → aMo_goHeat (d + 2) lim Q 2 [xr 193, xi ((i : Int) + 1), none] [] g (xup w 217 (Int.toNat (i : Int)) v) := by
      intro v hv
      rw [show ((i : Int) + 1) = ((i + 1 : Nat) : Int) by omega, Int.toNat_natCast]
      refine mo_goHeat1 hM hl li si hk n (i + 1) _ (by omega) (hf.trans fun a j p q _ => xup_a q) (hs.oth fun j => xup_a (by decide)) (fun c hc => ?_)
      by_cases q : c = i
      · subst q; rw [xup_s]; exact hv
      · rw [xup_k q]; exact hh c (by omega)
    refine wMo_goHeat_2 ⟨m_o hM, mo_cells hM hl2 li ⟨_, rfl, fun h => by omega, fun _ => ?_⟩⟩
    simp only [m_o hM, m_p0 hM, m_r0 hM, m_p48 hM, m_a48 hM, m_p6 hM, m_b6 hM, e0, e1, e2, true_and]
    refine ⟨by constructor <;> omega, by constructor <;> omega, mo_flows hM hl2 hs li si hin ⟨_, rfl, ?_⟩⟩
    simp only [m_o hM, m_p0 hM, m_r0 hM, m_p48 hM, m_a48 hM, m_p6 hM, m_b6 hM, e0, e1, e2, true_and]
    refine ⟨by constructor <;> omega, by constructor <;> omega, fun hr => ⟨by decide, mo_sunAt hM hl2 li (by omega) ⟨_, rfl, ?_⟩⟩, fun hr => ?_⟩
    · simp only [m_o hM, m_p0 hM, m_r0 hM, m_p48 hM, m_a48 hM, true_and]
      refine ⟨by constructor <;> omega, by constructor <;> omega, by constructor <;> omega, go _ ?_⟩
      unfold hA; rw [if_pos hr]
    · refine ⟨by constructor <;> omega, by constructor <;> omega, by constructor <;> omega, go _ ?_⟩
      unfold hA; rw [if_neg hr]
end MOB
