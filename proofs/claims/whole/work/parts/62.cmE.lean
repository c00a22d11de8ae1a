/-! ===== commands: stove, person ===== -/
section CME
variable {g : xG} {w w0 : xW} {t s : zS} {d : Nat} {Q : xQ} {lim : Nat × Nat} {kl kn kl2 kn2 k kt : Nat} {v x y q : Int}
theorem cl_stove (F : FG g kl kn kl2 kn2) (hl : RCl t kl w) (hs : RCs t s kn w) (li : LInv t) (hQ : Q (some (xi (oStove t s v q))) g w) : cal (d + 2) nFf_stove [xr 2, xi v, xi q] g w Q := by
  refine eFf_stove fun lim Q2 h2 => wFf_stove_0 ?_
  have hQ := h2 _ _ _ rfl hQ
  obtain ⟨n1, n2, n3, n4, -⟩ := li_n li
  unfold oStove at hQ
  simp only [f_o F, true_and]
  refine cl_isStove F hl ⟨_, rfl, fun a => ?_, fun a => ?_⟩
  · have a := ifv.2 a
    rw [if_pos a] at hQ
    have hv : v.toNat < nS t := by omega
    have hl3 := li.2.2.2.2.2.2.2.1 v.toNat hv
    have e3 : w (kl + 4) v.toNat = t 3 v.toNat := (hl.2.2.2.2.2.2.2.2.2.1 v.toNat hv).1
    have e4 : w (kl + 5) v.toNat = t 4 v.toNat := (hl.2.2.2.2.2.2.2.2.2.1 v.toNat hv).2
    have e5 : w (kn + 6) v.toNat = s 5 v.toNat := hs.1 5 v.toNat hv (by decide) (by decide)
    have e6 : w (kn + 7) v.toNat = s 6 v.toNat := hs.1 6 v.toNat hv (by decide) (by decide)
    simp only [f_o F, f_p9 F, f_p11 F, t_o (f_tl F), s_o (f_sn F), s_p5 (f_sn F), s_r5 (f_sn F), s_p6 (f_sn F), s_r6 (f_sn F), t_p9 (f_tl F), t_r9 (f_tl F), t_p10 (f_tl F), t_r10 (f_tl F), true_and, and_true, e3, e4, e5, e6]
    refine ⟨fun b => qe hQ ?_, fun b => ⟨by constructor <;> omega, cl_pairOf (f_tl F) hl li (by omega) ⟨_, rfl, qe hQ ?_⟩⟩, fun b => ⟨by constructor <;> omega, qe hQ ?_⟩, fun b => ⟨by constructor <;> omega, qe hQ ?_⟩, fun b => ⟨by constructor <;> omega, qe hQ ?_⟩⟩
    · rw [if_neg (by omega), if_neg (by omega), if_neg (by omega), if_neg (by omega)]
    · rw [if_pos b]
    · rw [if_neg (by omega), if_pos b]
    · rw [if_neg (by omega), if_neg (by omega), if_pos b]
    · rw [if_neg (by omega), if_neg (by omega), if_neg (by omega), if_pos b]
  · rw [if_neg (ifv.1 a)] at hQ; exact hQ
theorem mo_stove (hM : MG g) (hl : RMl t w) (hs : RMs t s w) (li : LInv t) (hQ : Q (some (xi (oStove t s v q))) g w) : cal (d + 3) nMo_stove [xr 193, xi v, xi q] g w Q := by
  refine eMo_stove fun lim Q2 h2 => wMo_stove_0 ?_
  have hQ := h2 _ _ _ rfl hQ
  obtain ⟨n1, n2, n3, n4, -⟩ := li_n li
  unfold oStove at hQ
  simp only [m_o hM, true_and]
  refine mo_isStove hM hl li ⟨_, rfl, fun a => ?_, fun a => ?_⟩
  · have a := ifv.2 a
    rw [if_pos a] at hQ
    have hv : v.toNat < nS t := by omega
    have hl3 := li.2.2.2.2.2.2.2.1 v.toNat hv
    have e3 : w 199 v.toNat = t 3 v.toNat := (hl.2.2.2.2.2.2.2.2.1 v.toNat hv).1
    have e4 : w 200 v.toNat = t 4 v.toNat := (hl.2.2.2.2.2.2.2.2.1 v.toNat hv).2
    have e5 : w 194 (Int.toNat (100 + v)) = s 5 v.toNat := by
      rw [show Int.toNat (100 + v) = 100 + v.toNat by omega]; exact hs 5 v.toNat hv
    have e6 : w 194 (Int.toNat (104 + v)) = s 6 v.toNat := by
      rw [show Int.toNat (104 + v) = 104 + v.toNat by omega]; exact hs 6 v.toNat hv
    simp only [m_o hM, m_p0 hM, m_r0 hM, m_p9 hM, m_r9 hM, m_p10 hM, m_r10 hM, true_and, and_true, e3, e4, e5, e6]
    refine ⟨fun b => qe hQ ?_, fun b => ⟨by constructor <;> omega, mo_named hM hl li (by omega) ⟨_, rfl, qe hQ ?_⟩⟩, fun b => ⟨by constructor <;> omega, qe hQ ?_⟩, fun b => ⟨by constructor <;> omega, by constructor <;> omega, qe hQ ?_⟩, fun b => ⟨by constructor <;> omega, by constructor <;> omega, qe hQ ?_⟩⟩
    · rw [if_neg (by omega), if_neg (by omega), if_neg (by omega), if_neg (by omega)]
    · rw [if_pos b]
    · rw [if_neg (by omega), if_pos b]
    · rw [if_neg (by omega), if_neg (by omega), if_pos b]
    · rw [if_neg (by omega), if_neg (by omega), if_neg (by omega), if_pos b]
  · rw [if_neg (ifv.1 a)] at hQ; exact hQ
theorem cl_person (F : FG g kl kn kl2 kn2) (hl : RCl t kl w) (hs : RCs t s kn w) (li : LInv t) (si : SInv t s) (hQ : Q (some (xi (oPerson t s v q))) g w) : cal (d + 3) nFf_person [xr 2, xi v, xi q] g w Q := by
  refine eFf_person fun lim Q2 h2 => wFf_person_0 ?_
  have hQ := h2 _ _ _ rfl hQ
  obtain ⟨n1, n2, -, -, n5, n6⟩ := li_n li
  unfold oPerson at hQ
  simp only [f_o F, true_and]
  refine cl_isPerson F hl ⟨_, rfl, fun a => ?_, fun a => ?_⟩
  · have a := ifv.2 a
    rw [if_pos a] at hQ
    have hv : v.toNat < nP t := by omega
    have h7 := (si.2.2.2.2.1 v.toNat hv).1
    have e7 : w (kn + 8) v.toNat = s 7 v.toNat := hs.1 7 v.toNat hv (by decide) (by decide)
    have e8 : w (kn + 9) v.toNat = s 8 v.toNat := hs.1 8 v.toNat hv (by decide) (by decide)
    have e9 : w (kn + 10) v.toNat = s 9 v.toNat := hs.1 9 v.toNat hv (by decide) (by decide)
    have e10 : w (kn + 11) v.toNat = s 10 v.toNat := hs.1 10 v.toNat hv (by decide) (by decide)
    have e11 : w (kn + 12) v.toNat = s 11 v.toNat := hs.1 11 v.toNat hv (by decide) (by decide)
    have e5 : w (kl + 6) v.toNat = t 5 v.toNat := (hl.2.2.2.2.2.2.2.2.2.2 v.toNat hv).1
    have e6 : w (kl + 7) v.toNat = t 6 v.toNat := (hl.2.2.2.2.2.2.2.2.2.2 v.toNat hv).2
    simp only [f_o F, f_p9 F, f_p11 F, t_o (f_tl F), s_o (f_sn F), s_p7 (f_sn F), s_r7 (f_sn F), s_p8 (f_sn F), s_r8 (f_sn F), s_p9 (f_sn F), s_r9 (f_sn F), s_p10 (f_sn F), s_r10 (f_sn F), s_p11 (f_sn F), s_r11 (f_sn F), t_p11 (f_tl F), t_r11 (f_tl F), t_p12 (f_tl F), t_r12 (f_tl F), true_and, and_true, e5, e6, e7, e8, e9, e10, e11]
    refine ⟨fun b => qe hQ ?_, fun b => ⟨by constructor <;> omega, cl_pairOf (f_tl F) hl li (by omega) ⟨_, rfl, qe hQ ?_⟩⟩, fun b => ⟨by constructor <;> omega, qe hQ ?_⟩, fun b => ⟨by constructor <;> omega, qe hQ ?_⟩, fun b => ⟨by constructor <;> omega, qe hQ ?_⟩, fun b => ⟨by constructor <;> omega, qe hQ ?_⟩, fun b => ⟨by constructor <;> omega, qe hQ ?_⟩, fun b => cl_owned (f_sn F) (f_tl F) hl hs li ⟨_, rfl, qe hQ ?_⟩, fun b => ⟨by constructor <;> omega, qe hQ ?_⟩⟩
    · rw [if_neg (by omega), if_neg (by omega), if_neg (by omega), if_neg (by omega), if_neg (by omega), if_neg (by omega), if_neg (by omega), if_neg (by omega)]
    · rw [if_pos b]
    · rw [if_neg (by omega), if_pos b]
    · rw [if_neg (by omega), if_neg (by omega), if_pos b]
    · rw [if_neg (by omega), if_neg (by omega), if_neg (by omega), if_pos b]
    · rw [if_neg (by omega), if_neg (by omega), if_neg (by omega), if_neg (by omega), if_pos b]
    · rw [if_neg (by omega), if_neg (by omega), if_neg (by omega), if_neg (by omega), if_neg (by omega), if_pos b]
    · rw [if_neg (by omega), if_neg (by omega), if_neg (by omega), if_neg (by omega), if_neg (by omega), if_neg (by omega), if_pos b]
    · rw [if_neg (by omega), if_neg (by omega), if_neg (by omega), if_neg (by omega), if_neg (by omega), if_neg (by omega), if_neg (by omega), if_pos b]
  · rw [if_neg (ifv.1 a)] at hQ; exact hQ
theorem mo_person (hM : MG g) (hl : RMl t w) (hs : RMs t s w) (li : LInv t) (si : SInv t s) (hQ : Q (some (xi (oPerson t s v q))) g w) : cal (d + 3) nMo_person [xr 193, xi v, xi q] g w Q := by
  refine eMo_person fun lim Q2 h2 => wMo_person_0 ?_
  have hQ := h2 _ _ _ rfl hQ
  obtain ⟨n1, n2, -, -, n5, n6⟩ := li_n li
  unfold oPerson at hQ
  simp only [m_o hM, true_and]
  refine mo_isPerson hM hl li ⟨_, rfl, fun a => ?_, fun a => ?_⟩
  · have a := ifv.2 a
    rw [if_pos a] at hQ
    have hv : v.toNat < nP t := by omega
    have h7 := (si.2.2.2.2.1 v.toNat hv).1
    have e7 : w 194 (Int.toNat (108 + v)) = s 7 v.toNat := by
      rw [show Int.toNat (108 + v) = 108 + v.toNat by omega]; exact hs 7 v.toNat hv
    have e8 : w 194 (Int.toNat (114 + v)) = s 8 v.toNat := by
      rw [show Int.toNat (114 + v) = 114 + v.toNat by omega]; exact hs 8 v.toNat hv
    have e9 : w 194 (Int.toNat (120 + v)) = s 9 v.toNat := by
      rw [show Int.toNat (120 + v) = 120 + v.toNat by omega]; exact hs 9 v.toNat hv
    have e10 : w 194 (Int.toNat (126 + v)) = s 10 v.toNat := by
      rw [show Int.toNat (126 + v) = 126 + v.toNat by omega]; exact hs 10 v.toNat hv
    have e11 : w 194 (Int.toNat (132 + v)) = s 11 v.toNat := by
      rw [show Int.toNat (132 + v) = 132 + v.toNat by omega]; exact hs 11 v.toNat hv
    have e5 : w 202 v.toNat = t 5 v.toNat := (hl.2.2.2.2.2.2.2.2.2 v.toNat hv).1
    have e6 : w 203 v.toNat = t 6 v.toNat := (hl.2.2.2.2.2.2.2.2.2 v.toNat hv).2
    simp only [m_o hM, m_p0 hM, m_r0 hM, m_p14 hM, m_r14 hM, m_p15 hM, m_r15 hM, true_and, and_true, e5, e6, e7, e8, e9, e10, e11]
    refine ⟨fun b => qe hQ ?_, fun b => ⟨by constructor <;> omega, by constructor <;> omega, mo_named hM hl li (by omega) ⟨_, rfl, qe hQ ?_⟩⟩, fun b => ⟨by constructor <;> omega, by constructor <;> omega, qe hQ ?_⟩, fun b => ⟨by constructor <;> omega, qe hQ ?_⟩, fun b => ⟨by constructor <;> omega, qe hQ ?_⟩, fun b => ⟨by constructor <;> omega, by constructor <;> omega, qe hQ ?_⟩, fun b => ⟨by constructor <;> omega, by constructor <;> omega, qe hQ ?_⟩, fun b => mo_owns hM hl hs li ⟨_, rfl, qe hQ ?_⟩, fun b => ⟨by constructor <;> omega, by constructor <;> omega, qe hQ ?_⟩⟩
    · rw [if_neg (by omega), if_neg (by omega), if_neg (by omega), if_neg (by omega), if_neg (by omega), if_neg (by omega), if_neg (by omega), if_neg (by omega)]
    · rw [if_pos b]
    · rw [if_neg (by omega), if_pos b]
    · rw [if_neg (by omega), if_neg (by omega), if_pos b]
    · rw [if_neg (by omega), if_neg (by omega), if_neg (by omega), if_pos b]
    · rw [if_neg (by omega), if_neg (by omega), if_neg (by omega), if_neg (by omega), if_pos b]
    · rw [if_neg (by omega), if_neg (by omega), if_neg (by omega), if_neg (by omega), if_neg (by omega), if_pos b]
    · rw [if_neg (by omega), if_neg (by omega), if_neg (by omega), if_neg (by omega), if_neg (by omega), if_neg (by omega), if_pos b]
    · rw [if_neg (by omega), if_neg (by omega), if_neg (by omega), if_neg (by omega), if_neg (by omega), if_neg (by omega), if_neg (by omega), if_pos b]
  · rw [if_neg (ifv.1 a)] at hQ; exact hQ
end CME
