/-! ===== commands: minute, go, cell, stove, person ===== -/
def oGo (t s : zS) (p y : Int) : Int × zS := if 0 ≤ p ∧ p < t 0 5 then (if 1 ≤ y ∧ y ≤ 4 then (if wyy t s (s 7 p.toNat) y ≠ -1 then (nam t (wyy t s (s 7 p.toNat) y), zset s 7 (zup (s 7) p.toNat (wyy t s (s 7 p.toNat) y))) else (-1000000003, s)) else (-1000000002, s)) else (-1000000001, s)
def oCell (t s : zS) (x y q : Int) : Int := if cAt t x y = -1 then -1000000001 else if q = 0 then s 0 (cAt t x y).toNat else if q = 1 then s 3 (cAt t x y).toNat else if q = 2 then t 1 (cAt t x y).toNat else if q = 3 then onC s (cAt t x y) (nP t) else -1000000002
def oStove (t s : zS) (k q : Int) : Int := if 0 ≤ k ∧ k < t 0 2 then (if q = 0 then nam t (t 3 k.toNat) else if q = 1 then t 4 k.toNat else if q = 2 then s 5 k.toNat else if q = 3 then s 6 k.toNat else -1000000002) else -1000000001
def oPerson (t s : zS) (p q : Int) : Int := if 0 ≤ p ∧ p < t 0 5 then (if q = 0 then nam t (s 7 p.toNat) else if q = 1 then s 8 p.toNat else if q = 2 then t 5 p.toNat else if q = 3 then t 6 p.toNat else if q = 4 then s 9 p.toNat else if q = 5 then s 10 p.toNat else if q = 6 then cnO s p (nC t) else if q = 7 then s 11 p.toNat else -1000000002) else -1000000001
section CMC
variable {g : xG} {w w0 : xW} {t s : zS} {d : Nat} {Q : xQ} {lim : Nat × Nat} {kl kn kl2 kn2 k kt : Nat} {v x y : Int}
theorem cl_refMin (F : FG g kl kn kl2 kn2) (hl : RCl t kl w) (hs : RCs t s kn w) (li : LInv t) (hQ : Q (some (xi (if 1 ≤ v ∧ v ≤ 60 then (if nC t ≠ 0 then (if s 12 2 ≤ 900000 then 0 else -1000000004) else -1000000003) else -1000000002))) g w) : cal (d + 2) nFf_refusalOfMinutes [xr 2, xi v] g w Q := by
  refine eFf_refusalOfMinutes fun lim Q2 h2 => wFf_refusalOfMinutes_0 ?_
  have hQ := h2 _ _ _ rfl hQ
  have c2 : w kn 16 = s 12 2 := hs.1 12 2 (show 2 < 5 by decide) (by decide) (by decide)
  refine eFf_isSpan fun lim2 Q3 h3 => wFf_isSpan_0 ⟨fun q => ⟨Or.inl rfl, h3 _ _ _ rfl ⟨_, rfl, fun z => absurd rfl z, fun _ => qe hQ ?_⟩⟩, fun q => ⟨fun q2 => ⟨Or.inl rfl, h3 _ _ _ rfl ⟨_, rfl, fun z => absurd rfl z, fun _ => qe hQ ?_⟩⟩, fun q2 => ⟨Or.inr rfl, h3 _ _ _ rfl ⟨_, rfl, fun _ => ?_, fun z => absurd z (by decide)⟩⟩⟩⟩
  · rw [if_neg (by omega)]
  · rw [if_neg (by omega)]
  · simp only [f_o F, f_p9 F, t_o (f_tl F), true_and]
    refine cl_cells (f_tl F) hl li ⟨_, rfl, fun q3 => ?_, fun q3 => qe hQ ?_⟩
    · simp only [f_o F, f_p11 F, s_o (f_sn F), true_and, c2]
      refine ⟨fun q4 => qe hQ ?_, fun q4 => qe hQ ?_⟩
      · rw [if_pos (by omega), if_pos (by omega), if_pos q4]
      · rw [if_pos (by omega), if_pos (by omega), if_neg (by omega)]
    · rw [if_pos (by omega), if_neg (by omega)]
theorem mo_notMin (hM : MG g) (hl : RMl t w) (hs : RMs t s w) (li : LInv t) (hQ : Q (some (xi (if 1 ≤ v ∧ v ≤ 60 then (if nC t ≠ 0 then (if s 12 2 ≤ 900000 then 0 else -1000000004) else -1000000003) else -1000000002))) g w) : cal (d + 2) nMo_notMinutes [xr 193, xi v] g w Q := by
  refine eMo_notMinutes fun lim Q2 h2 => wMo_notMinutes_0 ?_
  have hQ := h2 _ _ _ rfl hQ
  have c2 : w 194 (Int.toNat 140) = s 12 2 := hs 12 2 (show 2 < 5 by decide)
  refine mo_in ⟨_, rfl, fun q => ?_, fun q => qe hQ ?_⟩
  · have q := ifv.2 q
    simp only [m_o hM, true_and]
    refine mo_cells hM hl li ⟨_, rfl, fun q3 => ?_, fun q3 => qe hQ ?_⟩
    · simp only [m_o hM, m_p0 hM, m_r0 hM, true_and, c2]
      refine ⟨by decide, fun q4 => qe hQ ?_, fun q4 => qe hQ ?_⟩
      · rw [if_pos (by omega), if_pos (by omega), if_pos q4]
      · rw [if_pos (by omega), if_pos (by omega), if_neg (by omega)]
    · rw [if_pos (by omega), if_neg (by omega)]
  · have q := ifv.1 q
    rw [if_neg q]
theorem min_cases (v : Int) : (if 1 ≤ v ∧ v ≤ 60 then (if nC t ≠ 0 then (if s 12 2 ≤ 900000 then (0 : Int) else -1000000004) else -1000000003) else -1000000002) = 0 ∧ ((1 ≤ v ∧ v ≤ 60) ∧ nC t ≠ 0 ∧ s 12 2 ≤ 900000) ∧ oMinute t s v = (s 12 2 + v, steps t (-1) v.toNat s) ∨ (if 1 ≤ v ∧ v ≤ 60 then (if nC t ≠ 0 then (if s 12 2 ≤ 900000 then (0 : Int) else -1000000004) else -1000000003) else -1000000002) ≠ 0 ∧ oMinute t s v = ((if 1 ≤ v ∧ v ≤ 60 then (if nC t ≠ 0 then (if s 12 2 ≤ 900000 then (0 : Int) else -1000000004) else -1000000003) else -1000000002), s) := by
  unfold oMinute
  by_cases a : 1 ≤ v ∧ v ≤ 60
  · rw [if_pos a, if_pos a]
    by_cases b : nC t ≠ 0
    · rw [if_pos b, if_pos b]
      by_cases c : s 12 2 ≤ 900000
      · rw [if_pos c, if_pos c]; exact Or.inl ⟨rfl, ⟨a, b, c⟩, rfl⟩
      · rw [if_neg c, if_neg c]; exact Or.inr ⟨by decide, rfl⟩
    · rw [if_neg b, if_neg b]; exact Or.inr ⟨by decide, rfl⟩
  · rw [if_neg a, if_neg a]; exact Or.inr ⟨by decide, rfl⟩
theorem cl_minute (F : FG g kl kn kl2 kn2) (hl : RCl t kl w) (hs : RCs t s kn w) (li : LInv t) (si : SInv t s) (hQ : ∀ w2, CF kn w w2 → RCs t (oMinute t s v).2 kn w2 → Q (some (xi (oMinute t s v).1)) g w2) : cal (d + 6) nFf_minute [xr 2, xi v] g w Q := by
  refine eFf_minute fun lim Q2 h2 => wFf_minute_0 ?_
  have hQ := fun w2 a b => h2 _ g w2 rfl (hQ w2 a b)
  have hm0 := si.2.2.2.2.2.2.2.1
  simp only [f_o F, true_and]
  refine cl_refMin F hl hs li ⟨_, rfl, fun q => ?_, fun q => ?_⟩
  · rcases min_cases (t := t) (s := s) v with ⟨-, a, b⟩ | ⟨a, -⟩
    · rw [b] at hQ
      simp only [f_o F, f_p11 F, f_p9 F, s_o (f_sn F), true_and]
      obtain ⟨m, hm⟩ := z_nn (x := v) (by omega)
      subst hm
      refine cl_passMinutes (f_sn F) (f_tl F) (f_d F) hl hs li si (by omega) fun w2 f2 s2 => ⟨rfl, ?_⟩
      have e16 : w2 kn 16 = s 12 2 + m := by
        rw [show w2 kn 16 = _ from s2.1 12 2 (show 2 < 5 by decide) (by decide) (by decide), steps_m]
      simp only [f_o F, f_p11 F, s_o (f_sn F), true_and, e16]
      exact hQ w2 f2 (by rw [Int.toNat_natCast]; exact s2)
    · exact absurd q a
  · rcases min_cases (t := t) (s := s) v with ⟨a, -⟩ | ⟨-, b⟩
    · exact absurd a q
    · rw [b] at hQ; exact hQ w CF.refl hs
theorem mo_minute (hM : MG g) (hl : RMl t w) (hs : RMs t s w) (li : LInv t) (si : SInv t s) (hn : w 193 50 = -1) (hQ : ∀ w2, MF w w2 → RMs t (oMinute t s v).2 w2 → Q (some (xi (oMinute t s v).1)) g w2) : cal (d + 6) nMo_minute [xr 193, xi v] g w Q := by
  refine eMo_minute fun lim Q2 h2 => wMo_minute_0 ?_
  have hQ := fun w2 a b => h2 _ g w2 rfl (hQ w2 a b)
  have hm0 := si.2.2.2.2.2.2.2.1
  simp only [m_o hM, true_and]
  refine mo_notMin hM hl hs li ⟨_, rfl, fun q => ?_, fun q => ?_⟩
  · rcases min_cases (t := t) (s := s) v with ⟨-, a, b⟩ | ⟨a, -⟩
    · rw [b] at hQ
      obtain ⟨m, hm⟩ := z_nn (x := v) (by omega)
      subst hm
      simp only [m_o hM, true_and]
      refine mo_goMinutes hM hl hs li si hn (by omega) (by omega) fun w2 f2 s2 => ⟨rfl, ?_⟩
      have e16 : w2 194 (Int.toNat 140) = s 12 2 + m := by
        rw [show w2 194 (Int.toNat 140) = _ from s2 12 2 (show 2 < 5 by decide), steps_m]
      simp only [m_o hM, m_p0 hM, m_r0 hM, true_and, e16]
      exact ⟨by decide, hQ w2 f2 (by rw [Int.toNat_natCast]; exact s2)⟩
    · exact absurd q a
  · rcases min_cases (t := t) (s := s) v with ⟨a, -⟩ | ⟨-, b⟩
    · exact absurd a q
    · rw [b] at hQ; exact hQ w MF.refl hs
end CMC
