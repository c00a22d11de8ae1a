/-! ===== commands: go, cell, stove, person ===== -/
section CMD
variable {g : xG} {w w0 : xW} {t s : zS} {d : Nat} {Q : xQ} {lim : Nat × Nat} {kl kn kl2 kn2 k kt : Nat} {v x y : Int}
theorem cl_go (F : FG g kl kn kl2 kn2) (hl : RCl t kl w) (hs : RCs t s kn w) (li : LInv t) (si : SInv t s) (hQ : ∀ w2, CF kn w w2 → RCs t (oGo t s v y).2 kn w2 → Q (some (xi (oGo t s v y).1)) g w2) : cal (d + 2) nFf_go [xr 2, xi v, xi y] g w Q := by
  refine eFf_go fun lim Q2 h2 => wFf_go_0 ?_
  have hQ := fun w2 a b => h2 _ g w2 rfl (hQ w2 a b)
  obtain ⟨n1, n2, -, -, n5, n6⟩ := li_n li
  unfold oGo at hQ
  simp only [f_o F, true_and]
  refine cl_isPerson F hl ⟨_, rfl, fun q => ?_, fun q => ?_⟩
  · have q := ifv.2 q
    rw [if_pos q] at hQ
    have hv : v.toNat < nP t := by omega
    have h7 := (si.2.2.2.2.1 v.toNat hv).1
    have e7 : w (kn + 8) v.toNat = s 7 v.toNat := hs.1 7 v.toNat hv (by decide) (by decide)
    refine ⟨fun a => ?_, fun a => ⟨fun b => ?_, fun b => ?_⟩⟩
    · rw [if_neg (by omega)] at hQ; exact hQ w CF.refl hs
    · rw [if_pos (by omega)] at hQ
      simp only [f_o F, f_p11 F, f_p9 F, s_o (f_sn F), s_p7 (f_sn F), s_r7 (f_sn F), true_and, e7]
      refine ⟨by constructor <;> omega, ?_⟩
      have hin := wyy_in (s := s) li h7 y
      obtain ⟨e, he⟩ := z_nn (x := y) (by omega)
      obtain ⟨c, hc⟩ := z_nn h7.1
      subst he
      rw [hc] at hQ hin ⊢
      refine cl_reach (f_sn F) (f_tl F) hl hs li si (by omega) (by omega) ⟨_, rfl, fun z => ?_, fun z => ?_⟩
      · rw [if_pos z] at hQ
        have hin := hin.resolve_left z
        simp only [f_o F, f_p11 F, f_p9 F, s_o (f_sn F), s_p7 (f_sn F), s_a7 (f_sn F), t_o (f_tl F), true_and]
        refine ⟨by constructor <;> omega, ?_⟩
        have f1 : CF kn w (xup w (kn + 8) v.toNat (wyy t s c e)) := CF.up (by omega) (by omega)
        refine cl_pairOf (f_tl F) (hl.fr f1 (f_d F)) li hin ⟨_, rfl, hQ _ f1 ?_⟩
        exact hs.put li (r := 7) (i := v.toNat) hv (by decide) (by decide) rfl rfl
      · rw [if_neg (fun n => n z)] at hQ; exact hQ w CF.refl hs
    · rw [if_neg (by omega)] at hQ; exact hQ w CF.refl hs
  · rw [if_neg (ifv.1 q)] at hQ; exact hQ w CF.refl hs
theorem mo_go (hM : MG g) (hl : RMl t w) (hs : RMs t s w) (li : LInv t) (si : SInv t s) (hQ : ∀ w2, MF w w2 → RMs t (oGo t s v y).2 w2 → Q (some (xi (oGo t s v y).1)) g w2) : cal (d + 3) nMo_go [xr 193, xi v, xi y] g w Q := by
  refine eMo_go fun lim Q2 h2 => wMo_go_0 ?_
  have hQ := fun w2 a b => h2 _ g w2 rfl (hQ w2 a b)
  obtain ⟨n1, n2, -, -, n5, n6⟩ := li_n li
  unfold oGo at hQ
  simp only [m_o hM, true_and]
  refine mo_isPerson hM hl li ⟨_, rfl, fun q => mo_in ⟨_, rfl, fun q2 => ?_, fun q2 => ?_⟩, fun q => ?_⟩
  · have q := ifv.2 q
    have q2 := ifv.2 q2
    rw [if_pos q, if_pos q2] at hQ
    have hv : v.toNat < nP t := by omega
    have h7 := (si.2.2.2.2.1 v.toNat hv).1
    have e7 : w 194 (Int.toNat (108 + v)) = s 7 v.toNat := by
      rw [show Int.toNat (108 + v) = 108 + v.toNat by omega]; exact hs 7 v.toNat hv
    have hin := wyy_in (s := s) li h7 y
    simp only [m_o hM, m_p0 hM, m_r0 hM, true_and, e7]
    refine ⟨by constructor <;> omega, by constructor <;> omega, mo_way hM hl hs li h7 ⟨_, rfl, fun z => ?_, fun z => ?_⟩⟩
    · rw [if_pos z] at hQ
      have hin := hin.resolve_left z
      simp only [m_o hM, m_p0 hM, m_a0 hM, true_and]
      have f1 : MF w (xup w 194 (Int.toNat (108 + v)) (wyy t s (s 7 v.toNat) y)) := fun a j p q _ => xup_a p
      refine ⟨by constructor <;> omega, by constructor <;> omega, mo_named hM (hl.fr f1) li hin ⟨_, rfl, hQ _ f1 ?_⟩⟩
      exact hs.put li (r := 7) (i := v.toNat) hv (by show Int.toNat _ = 108 + _; omega)
    · rw [if_neg (fun n => n z)] at hQ; exact hQ w MF.refl hs
  · rw [if_pos (ifv.2 q), if_neg (ifv.1 q2)] at hQ; exact hQ w MF.refl hs
  · rw [if_neg (ifv.1 q)] at hQ; exact hQ w MF.refl hs
theorem cl_cell {q : Int} (F : FG g kl kn kl2 kn2) (hl : RCl t kl w) (hs : RCs t s kn w) (li : LInv t) (hQ : Q (some (xi (oCell t s x y q))) g w) : cal (d + 2) nFf_cell [xr 2, xi x, xi y, xi q] g w Q := by
  refine eFf_cell fun lim Q2 h2 => wFf_cell_0 ?_
  have hQ := h2 _ _ _ rfl hQ
  obtain ⟨n1, n2, -⟩ := li_n li
  unfold oCell at hQ
  simp only [f_o F, f_p9 F, t_o (f_tl F), true_and]
  refine cl_cellAt (f_tl F) hl li ⟨_, rfl, fun a => ?_, fun a => ?_⟩
  · rw [if_neg a] at hQ
    have hc := (cAt_r (x := x) (y := y) li).resolve_left a
    have hc2 : (cAt t x y).toNat < nC t := by omega
    have e0 : w (kn + 1) (cAt t x y).toNat = s 0 (cAt t x y).toNat := hs.1 0 (cAt t x y).toNat hc2 (by decide) (by decide)
    have e3 : w (kn + 3) (cAt t x y).toNat = s 3 (cAt t x y).toNat := hs.1 3 (cAt t x y).toNat hc2 (by decide) (by decide)
    have e1 : w (kl + 2) (cAt t x y).toNat = t 1 (cAt t x y).toNat := hl.2.2.2.2.2.2.2.1 _ hc2
    simp only [f_o F, f_p9 F, f_p11 F, t_o (f_tl F), s_o (f_sn F), s_p0 (f_sn F), s_r0 (f_sn F), s_p2 (f_sn F), s_r2 (f_sn F), t_p7 (f_tl F), t_r7 (f_tl F), true_and, and_true, e0, e3, e1]
    refine ⟨fun b => qe hQ ?_, fun b => ⟨by constructor <;> omega, qe hQ ?_⟩, fun b => ⟨by constructor <;> omega, qe hQ ?_⟩, fun b => ⟨by constructor <;> omega, qe hQ ?_⟩, fun b => cl_people (f_sn F) (f_tl F) hl hs li ⟨_, rfl, qe hQ ?_⟩⟩
    · rw [if_neg (by omega), if_neg (by omega), if_neg (by omega), if_neg (by omega)]
    · rw [if_pos b]
    · rw [if_neg (by omega), if_pos b]
    · rw [if_neg (by omega), if_neg (by omega), if_pos b]
    · rw [if_neg (by omega), if_neg (by omega), if_neg (by omega), if_pos b]
  · rw [if_pos a] at hQ; exact hQ
theorem mo_cell {q : Int} (hM : MG g) (hl : RMl t w) (hs : RMs t s w) (li : LInv t) (hQ : Q (some (xi (oCell t s x y q))) g w) : cal (d + 3) nMo_cell [xr 193, xi x, xi y, xi q] g w Q := by
  refine eMo_cell fun lim Q2 h2 => wMo_cell_0 ?_
  have hQ := h2 _ _ _ rfl hQ
  obtain ⟨n1, n2, -⟩ := li_n li
  unfold oCell at hQ
  have ew : w 193 4 = t 0 0 := hl.1
  simp only [m_o hM, true_and]
  refine mo_isCell hM hl li ⟨_, rfl, fun a => ?_, fun a => ?_⟩
  · have a := ifv.2 a
    have hb := cAt_b li a
    have ec : cAt t x y = t 0 0 * y + x := by unfold cAt; rw [if_pos a, Int.mul_comm]
    rw [Int.mul_comm] at hb
    rw [if_neg (by omega)] at hQ
    rw [← ec] at hb
    have hc2 : (cAt t x y).toNat < nC t := by omega
    have e0 : w 194 (Int.toNat (0 + cAt t x y)) = s 0 (cAt t x y).toNat := by
      rw [show Int.toNat (0 + cAt t x y) = 0 + (cAt t x y).toNat by omega]; exact hs 0 (cAt t x y).toNat hc2
    have e3 : w 194 (Int.toNat (60 + cAt t x y)) = s 3 (cAt t x y).toNat := by
      rw [show Int.toNat (60 + cAt t x y) = 60 + (cAt t x y).toNat by omega]; exact hs 3 (cAt t x y).toNat hc2
    have e1 : w 198 (cAt t x y).toNat = t 1 (cAt t x y).toNat := hl.2.2.2.2.2.2.1 _ hc2
    have h1 := li.2.2.2.2.2.1 _ hc2
    simp only [m_o hM, ew, true_and, and_true]
    rw [← ec]
    simp only [m_o hM, m_p0 hM, m_r0 hM, m_p6 hM, m_b6 hM, true_and, and_true, e0, e3, e1]
    refine ⟨by constructor <;> omega, by constructor <;> omega, fun b => qe hQ ?_, fun b => ⟨by constructor <;> omega, by constructor <;> omega, qe hQ ?_⟩, fun b => ⟨by constructor <;> omega, by constructor <;> omega, qe hQ ?_⟩, fun b => ⟨by constructor <;> omega, fun z => qe hQ ?_, fun z => qe hQ ?_⟩, fun b => mo_onCell hM hl hs li ⟨_, rfl, qe hQ ?_⟩⟩
    · rw [if_neg (by omega), if_neg (by omega), if_neg (by omega), if_neg (by omega)]
    · rw [if_pos b]
    · rw [if_neg (by omega), if_pos b]
    · rw [if_neg (by omega), if_neg (by omega), if_pos b, z]
    · rw [if_neg (by omega), if_neg (by omega), if_pos b]; omega
    · rw [if_neg (by omega), if_neg (by omega), if_neg (by omega), if_pos b]
  · have a := ifv.1 a
    rw [if_pos (by unfold cAt; rw [if_neg a])] at hQ; exact hQ
end CMD
