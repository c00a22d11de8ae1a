/-! ===== command then: minutes that are taken back ===== -/
def oThen (t s : zS) (x y n q : Int) : Int := if cAt t x y = -1 then -1000000001 else if (1 ≤ n ∧ n ≤ 60) ∧ 0 ≤ q ∧ q ≤ 1 then (if q = 0 then steps t (-1) n.toNat s 0 (cAt t x y).toNat else steps t (-1) n.toNat s 3 (cAt t x y).toNat) else -1000000002
/-- what the reference may change where it takes all back -/
def MB (w w2 : xW) : Prop := ∀ a j, a ≠ 194 → a ≠ 197 → a ≠ 217 → a ≠ 218 → (a = 193 → j ≠ 49) → w2 a j = w a j
theorem MB.refl {w : xW} : MB w w := fun _ _ _ _ _ _ _ => rfl
theorem MB.trans {w w2 w3 : xW} (h : MB w w2) (h2 : MB w2 w3) : MB w w3 := fun a j p q r u v => (h2 a j p q r u v).trans (h a j p q r u v)
theorem MF.mb {w w2 : xW} (h : MF w w2) : MB w w2 := fun a j p _ r _ v => h a j p r v
section CMF
variable {g : xG} {w w0 : xW} {t s : zS} {d : Nat} {Q : xQ} {lim : Nat × Nat} {kl kn kl2 kn2 k kt : Nat} {v x y n q : Int}
theorem RMl.mb {w w2 : xW} (h : RMl t w) (f : MB w w2) : RMl t w2 := by
  obtain ⟨h1, h2, h3, h4, h5, h6, h7, h8, h9, h10⟩ := h
  have e : ∀ j, j ≠ 49 → w2 193 j = w 193 j := fun j q => f 193 j (by decide) (by decide) (by decide) (by decide) (fun _ => q)
  have e2 : ∀ a j, 198 ≤ a → a ≤ 203 → w2 a j = w a j := fun a j p q => f a j (by omega) (by omega) (by omega) (by omega) (by omega)
  refine ⟨by rw [e _ (by decide), h1], by rw [e _ (by decide), h2], by rw [e _ (by decide), h3], by rw [e _ (by decide), h4], by rw [e _ (by decide), h5], by rw [e _ (by decide), h6], fun i q => ?_, fun i q => ?_, fun i q => ?_, fun i q => ?_⟩
  · rw [e2 _ _ (by decide) (by decide)]; exact h7 i q
  · rw [e2 _ _ (by decide) (by decide)]; exact h8 i q
  · rw [e2 _ _ (by decide) (by decide), e2 _ _ (by decide) (by decide)]; exact h9 i q
  · rw [e2 _ _ (by decide) (by decide), e2 _ _ (by decide) (by decide)]; exact h10 i q
/-- back behind start, whatever minutes passed between -/
theorem RMs.bk {w w1 w2 w3 : xW} (li : LInv t) (h : RMs t s w) (a : ∀ j, j < 143 → w1 197 j = w 194 j) (b : ∀ j, j < 143 → w2 197 j = w1 197 j) (c : ∀ j, j < 143 → w3 194 j = w2 197 j) : RMs t s w3 := fun r i q => by
  have := act_off li q
  rw [c _ this, b _ this, a _ this]; exact h r i q
theorem cl_then (F : FG g kl kn kl2 kn2) (hl : RCl t kl w) (hs : RCs t s kn w) (li : LInv t) (si : SInv t s) (hm : s 12 2 ≤ 999999900) (hQ : ∀ w2, CF 15 w w2 → Q (some (xi (oThen t s x y n q))) g w2) : cal (d + 6) nFf_then [xr 2, xi x, xi y, xi n, xi q] g w Q := by
  refine eFf_then fun lim Q2 h2 => wFf_then_0 ?_
  have hQ := fun w2 a => h2 _ g w2 rfl (hQ w2 a)
  obtain ⟨n1, n2, -⟩ := li_n li
  have hm0 := si.2.2.2.2.2.2.2.1
  have hkl := f_hl F
  have hkn := f_hn F
  unfold oThen at hQ
  simp only [f_o F, f_p9 F, t_o (f_tl F), true_and]
  refine cl_cellAt (f_tl F) hl li ⟨_, rfl, fun a => ?_, fun a => ?_⟩
  · rw [if_neg a] at hQ
    have hc := (cAt_r (x := x) (y := y) li).resolve_left a
    have hc2 : (cAt t x y).toNat < nC t := by omega
    have bad : ¬ ((1 ≤ n ∧ n ≤ 60) ∧ 0 ≤ q ∧ q ≤ 1) → Q2 (some (xi (-1000000002))) g w := fun z => by
      rw [if_neg z] at hQ; exact hQ w CF.refl
    refine eFf_isSpan fun lim2 Q3 h3 => wFf_isSpan_0 ⟨fun b => ⟨Or.inl rfl, h3 _ _ _ rfl ⟨_, rfl, fun _ => bad (by omega), fun z => absurd rfl z⟩⟩, fun b => ⟨fun b2 => ⟨Or.inl rfl, h3 _ _ _ rfl ⟨_, rfl, fun _ => bad (by omega), fun z => absurd rfl z⟩⟩, fun b2 => ⟨Or.inr rfl, h3 _ _ _ rfl ⟨_, rfl, fun z => absurd z (by decide), fun _ => ⟨fun b3 => bad (by omega), fun b3 => ⟨fun b4 => ?_, fun b4 => bad (by omega)⟩⟩⟩⟩⟩⟩
    rw [if_pos (by omega)] at hQ
    simp only [f_o F, f_p5 F, f_p11 F, f_p9 F, s_o (f_tr F), true_and]
    refine cl_copy (f_tr F) (f_sn F) (by omega) hs li fun w2 g2 s2 => ⟨rfl, ?_⟩
    simp only [f_o F, f_p5 F, f_p11 F, f_p9 F, s_o (f_tr F), true_and]
    obtain ⟨m, hmn⟩ := z_nn (x := n) (by omega)
    subst hmn
    rw [Int.toNat_natCast] at hQ
    refine cl_passMinutes (f_tr F) (f_tl F) (by omega) (hl.fr g2 (by omega)) s2 li si (by omega) fun w3 g3 s3 => ⟨rfl, ?_⟩
    have hQ := hQ w3 (g2.trans g3)
    have e0 : w3 (15 + 1) (cAt t x y).toNat = steps t (-1) m s 0 (cAt t x y).toNat := s3.1 0 (cAt t x y).toNat hc2 (by decide) (by decide)
    have e3 : w3 (15 + 3) (cAt t x y).toNat = steps t (-1) m s 3 (cAt t x y).toNat := s3.1 3 (cAt t x y).toNat hc2 (by decide) (by decide)
    have e0 : w3 16 (cAt t x y).toNat = _ := e0
    have e3 : w3 18 (cAt t x y).toNat = _ := e3
    have p0 : g.2 15 0 = 16 := s_p0 (f_tr F)
    have p2 : g.2 15 2 = 18 := s_p2 (f_tr F)
    have r0 : ∀ i : Int, xAr g 16 i ↔ (0 ≤ i ∧ i < 20) := s_r0 (f_tr F)
    have r2 : ∀ i : Int, xAr g 18 i ↔ (0 ≤ i ∧ i < 20) := s_r2 (f_tr F)
    simp only [f_o F, f_p5 F, s_o (f_tr F), p0, p2, r0, r2, true_and, e0, e3]
    refine ⟨fun z => ⟨by constructor <;> omega, ?_⟩, fun z => ⟨by constructor <;> omega, ?_⟩⟩
    · rw [if_neg z] at hQ; exact hQ
    · rw [if_pos z] at hQ; exact hQ
  · rw [if_pos a] at hQ; exact hQ w CF.refl
theorem mo_then (hM : MG g) (hl : RMl t w) (hs : RMs t s w) (li : LInv t) (si : SInv t s) (hn : w 193 50 = -1) (hm : s 12 2 ≤ 999999900) (hQ : ∀ w2, MB w w2 → RMs t s w2 → Q (some (xi (oThen t s x y n q))) g w2) : cal (d + 6) nMo_then [xr 193, xi x, xi y, xi n, xi q] g w Q := by
  refine eMo_then fun lim Q2 h2 => wMo_then_0 ?_
  have hQ := fun w2 a b => h2 _ g w2 rfl (hQ w2 a b)
  obtain ⟨n1, n2, -⟩ := li_n li
  have hm0 := si.2.2.2.2.2.2.2.1
  unfold oThen at hQ
  simp only [m_o hM, true_and]
  refine mo_isCell hM hl li ⟨_, rfl, fun a => ?_, fun a => ?_⟩
  · have a := ifv.2 a
    have hb := cAt_b li a
    have ec : cAt t x y = t 0 0 * y + x := by unfold cAt; rw [if_pos a, Int.mul_comm]
    rw [Int.mul_comm] at hb
    rw [if_neg (by omega)] at hQ
    have hc2 : (cAt t x y).toNat < nC t := by omega
    have bad : ¬ ((1 ≤ n ∧ n ≤ 60) ∧ 0 ≤ q ∧ q ≤ 1) → Q2 (some (xi (-1000000002))) g w := fun z => by
      rw [if_neg z] at hQ; exact hQ w MB.refl hs
    refine mo_in ⟨_, rfl, fun b => bad (by have := ifv.1 b; omega), fun b => mo_in ⟨_, rfl, fun b2 => ?_, fun b2 => bad (by have := ifv.1 b2; omega)⟩⟩
    have b := ifv.2 b
    have b2 := ifv.2 b2
    rw [if_pos (by omega)] at hQ
    simp only [m_o hM, true_and]
    refine mo_start hM fun w1 f1 v1 => ⟨rfl, m_o hM, ?_⟩
    have s1 : RMs t s w1 := fun r i h => by rw [f1 194 _ (by decide)]; exact hs r i h
    have m1 : MB w w1 := fun a j _ p _ _ _ => f1 a j p
    obtain ⟨m, hmn⟩ := z_nn (x := n) (by omega)
    subst hmn
    rw [Int.toNat_natCast] at hQ
    refine mo_goMinutes (numb := -1) hM (hl.mb m1) s1 li si (by rw [f1 193 50 (by decide)]; exact hn) (by omega) (by omega) fun w2 f2 s2 => ⟨rfl, ?_⟩
    have m2 := m1.trans f2.mb
    have ew : w2 193 4 = t 0 0 := (hl.mb m2).1
    have e0 : w2 194 (Int.toNat (0 + t 0 0 * y + x)) = steps t (-1) m s 0 (cAt t x y).toNat := by
      rw [show Int.toNat (0 + t 0 0 * y + x) = 0 + (cAt t x y).toNat by omega]; exact s2 0 (cAt t x y).toNat hc2
    have e3 : w2 194 (Int.toNat (60 + t 0 0 * y + x)) = steps t (-1) m s 3 (cAt t x y).toNat := by
      rw [show Int.toNat (60 + t 0 0 * y + x) = 60 + (cAt t x y).toNat by omega]; exact s2 3 (cAt t x y).toNat hc2
    have go : ∀ w3, (∀ a j, a ≠ 194 → w3 a j = w2 a j) → (∀ j, j < 143 → w3 194 j = w2 197 j) → Q2 (some (xi (if q = 0 then steps t (-1) m s 0 (cAt t x y).toNat else steps t (-1) m s 3 (cAt t x y).toNat))) g w3 := fun w3 f3 v3 =>
      hQ w3 (m2.trans fun a j p _ _ _ _ => f3 a j p) (RMs.bk li hs v1 (fun j _ => f2 197 j (by decide) (by decide) (fun z => absurd z (by decide))) v3)
    simp only [m_o hM, m_p0 hM, true_and]
    refine ⟨fun z => ?_, fun z => ?_⟩
    · refine wMo_then_62 ?_
      simp only [m_o hM, m_r0 hM, ew, e3, true_and]
      refine ⟨by constructor <;> omega, by constructor <;> omega, by constructor <;> omega, by constructor <;> omega, mo_back hM fun w3 f3 v3 => ⟨rfl, ?_⟩⟩
      have := go w3 f3 v3
      rw [if_neg z] at this; exact this
    · refine wMo_then_62 ?_
      simp only [m_o hM, m_r0 hM, ew, e0, true_and]
      refine ⟨by constructor <;> omega, by constructor <;> omega, by constructor <;> omega, by constructor <;> omega, mo_back hM fun w3 f3 v3 => ⟨rfl, ?_⟩⟩
      have := go w3 f3 v3
      rw [if_pos z] at this; exact this
  · have a := ifv.1 a
    rw [if_pos (by unfold cAt; rw [if_neg a])] at hQ; exact hQ w MB.refl hs
end CMF
