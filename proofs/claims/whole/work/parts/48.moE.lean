/-! ===== the reference: laws, owing, a minute ===== -/
section MOE
variable {g : xG} {w w0 : xW} {t s : zS} {d : Nat} {Q : xQ} {lim : Nat × Nat} {fe : Nat → Bool} {numb : Int}
theorem mo_goLaw1 (hM : MG g) (hl : RMl t w0) (li : LInv t) (si : SInv t s) (hk : ∀ w, MF w0 w → RMs t (stC s) w → w 193 49 = msk fe 0 (nP t) → aMo_goLaw (d + 1) lim Q 135 [xr 193, xi 0, none, none, none] [] g w) : ∀ (n i : Nat) (w : xW), i + n = nC t → MF w0 w → RMs t (zset s 3 (fun c => if c < i then ow2 s c else s 3 c)) w → w 193 49 = msk fe 0 (nP t) → aMo_goLaw (d + 1) lim Q 2 [xr 193, xi i, none, none, none] [] g w
  | 0, i, w, hi, hf, hs, hF => by
    have hl2 := hl.fr hf
    refine wMo_goLaw_2 ⟨m_o hM, mo_cells hM hl2 li ⟨_, rfl, fun _ => hk w hf (hs.to fun r j hj => ?_) hF, fun h => by omega⟩⟩
    unfold stC
    by_cases h3 : r = 3
    · subst h3
      have hj : j < nC t := hj
      rw [zset_s, zset_s, if_pos (by omega)]
    · rw [zset_n h3, zset_n h3]
  | n + 1, i, w, hi, hf, hs, hF => by
    have hl2 := hl.fr hf
    obtain ⟨n1, n2, -, -, n5, n6⟩ := li_n li
    have hin : i < nC t := by omega
    have h3b := (si.1 i hin).2.1
    have h4b := (si.1 i hin).2.2
    have hm := si.2.2.2.2.2.2.2.1
    have e3 : w 194 (Int.toNat (60 + (i : Int))) = s 3 i := by
      rw [show Int.toNat (60 + (i : Int)) = 60 + i by omega, show w 194 (60 + i) = _ from hs 3 i hin, zset_s, if_neg (by omega)]
    have e4 : w 194 (Int.toNat (80 + (i : Int))) = s 4 i := by
      rw [show Int.toNat (80 + (i : Int)) = 80 + i by omega, show w 194 (80 + i) = _ from hs 4 i hin, zset_n (by decide)]
    have c0 : w 194 (Int.toNat 138) = s 12 0 := by rw [show w 194 (Int.toNat 138) = _ from hs 12 0 (show 0 < 5 by decide), zset_n (by decide)]
    have c1 : w 194 (Int.toNat 139) = s 12 1 := by rw [show w 194 (Int.toNat 139) = _ from hs 12 1 (show 1 < 5 by decide), zset_n (by decide)]
    have c2 : w 194 (Int.toNat 140) = s 12 2 := by rw [show w 194 (Int.toNat 140) = _ from hs 12 2 (show 2 < 5 by decide), zset_n (by decide)]
    have put : ∀ v : Int, v = ow2 s i → aMo_goLaw (d + 1) lim Q 2 [xr 193, xi ((i : Int) + 1), none, none, none] [] g (xup w 194 (Int.toNat (60 + (i : Int))) v) := by
      intro v hv
      rw [show ((i : Int) + 1) = ((i + 1 : Nat) : Int) by omega]
      refine mo_goLaw1 hM hl li si hk n (i + 1) _ (by omega) (hf.trans fun a j p q _ => xup_a p) ?_ (by rw [xup_a (by decide)]; exact hF)
      refine (hs.put li (r := 3) (i := i) (v := v) hin (by show Int.toNat _ = 60 + i; omega)).to fun r j _ => ?_
      by_cases h3 : r = 3
      · subst h3
        rw [zset_s, zset_s]
        by_cases q : j = i
        · subst q; rw [zup_s, if_pos (by omega), hv]
        · rw [zup_n q, zset_s]
          by_cases q2 : j < i
          · rw [if_pos q2, if_pos (by omega)]
          · rw [if_neg q2, if_neg (by omega)]
      · rw [zset_n h3, zset_n h3, zset_n h3]
    have b102 : ∀ l3 s0 : Int, (l3 ≠ 0 ↔ (s 12 0 = 1 ∧ s 12 1 < s 12 2 - s 4 i)) → (s0 ≠ 0 ↔ (s 12 0 = 2 ∧ s 3 i ≠ -1 ∧ s 7 (s 3 i).toNat ≠ i)) → aMo_goLaw (d + 1) lim Q 102 [xr 193, xi i, xi (s 3 i), xi l3, none] [xi s0] g w := by
      intro l3 s0 a1 a2
      refine wMo_goLaw_102 ?_
      simp only [m_o hM, m_p0 hM, m_r0 hM, m_a0 hM, true_and]
      refine ⟨by constructor <;> omega, fun q => ⟨by constructor <;> omega, by constructor <;> omega, put _ ?_⟩, fun q => ⟨fun q2 => ⟨by constructor <;> omega, by constructor <;> omega, put _ ?_⟩, fun q2 => ⟨by constructor <;> omega, by constructor <;> omega, put _ ?_⟩⟩⟩
      · unfold ow2; rw [if_pos (Or.inl (a1.mp q))]
      · unfold ow2; rw [if_neg]
        intro z
        rcases z with z | z
        · exact a1.mpr z q
        · exact a2.mpr z q2
      · unfold ow2; rw [if_pos (Or.inr (a2.mp q2))]
    have b66 : ∀ s0 : Int, (s0 ≠ 0 ↔ (s 12 0 = 1 ∧ s 12 1 < s 12 2 - s 4 i)) → aMo_goLaw (d + 1) lim Q 66 [xr 193, xi i, xi (s 3 i), none, none] [xi s0] g w := by
      intro s0 a1
      refine wMo_goLaw_66 ?_
      simp only [m_o hM, m_p0 hM, m_r0 hM, m_a0 hM, c0, true_and]
      refine ⟨by decide, fun q => b102 _ _ a1 ?_, fun q => ⟨fun q2 => b102 _ _ a1 ?_, fun q2 => ?_⟩⟩
      · exact ⟨fun z => absurd rfl z, fun z => absurd z.1 q⟩
      · exact ⟨fun z => absurd rfl z, fun z => absurd q2 z.2.1⟩
      · have e7 : w 194 (Int.toNat (108 + s 3 i)) = s 7 (s 3 i).toNat := by
          rw [show Int.toNat (108 + s 3 i) = 108 + (s 3 i).toNat by omega, show w 194 (108 + _) = _ from hs 7 (s 3 i).toNat (show _ < nP t by omega), zset_n (by decide)]
        rw [e7]
        refine ⟨by constructor <;> omega, by constructor <;> omega, fun q3 => b102 _ _ a1 ?_, fun q3 => b102 _ _ a1 ?_⟩
        · exact ⟨fun z => absurd rfl z, fun z => absurd q3 z.2.2⟩
        · exact ⟨fun _ => ⟨q, q2, q3⟩, fun _ => by decide⟩
    refine wMo_goLaw_2 ⟨m_o hM, mo_cells hM hl2 li ⟨_, rfl, fun h => by omega, fun _ => ?_⟩⟩
    simp only [m_o hM, m_p0 hM, m_r0 hM, m_a0 hM, e3, e4, c0, c1, c2, true_and]
    refine ⟨by constructor <;> omega, by constructor <;> omega, by decide, fun q => b66 _ ?_, fun q => ⟨by decide, by constructor <;> omega, by constructor <;> omega, by constructor <;> omega, by decide, fun q2 => b66 _ ?_, fun q2 => b66 _ ?_⟩⟩
    · exact ⟨fun z => absurd rfl z, fun z => absurd z.1 q⟩
    · exact ⟨fun z => absurd rfl z, fun z => by have := z.2; omega⟩
    · exact ⟨fun _ => ⟨q, q2⟩, fun _ => by decide⟩
theorem prt_stop (h : ¬ s 12 0 = 3) : ∀ n, prt s fe n = s 11
  | 0 => rfl
  | n + 1 => by rw [prt, if_neg (fun z => h z.1)]; exact prt_stop h n
theorem mo_goLaw2 (hM : MG g) (hl : RMl t w0) (li : LInv t) (si : SInv t s) (hk : ∀ w, MF w0 w → RMs t (stD t s fe) w → w 193 49 = msk fe 0 (nP t) → Q none g w) : ∀ (n i : Nat) (w : xW), i + n = nP t → MF w0 w → RMs t (zset s 11 (prt s fe i)) w → w 193 49 = msk fe 0 (nP t) → aMo_goLaw d lim Q 135 [xr 193, xi i, none, none, none] [] g w
  | 0, i, w, hi, hf, hs, hF => by
    have hl2 := hl.fr hf
    obtain ⟨n1, n2, -, -, n5, n6⟩ := li_n li
    have e8 : w 193 13 = t 0 5 := hl2.2.2.2.2.2.1
    have hi : i = nP t := by omega
    subst hi
    refine wMo_goLaw_135 ?_
    simp only [m_o hM, true_and]
    exact ⟨fun _ => hk w hf hs hF, fun h => by rw [e8] at h; omega⟩
  | n + 1, i, w, hi, hf, hs, hF => by
    have hl2 := hl.fr hf
    obtain ⟨n1, n2, -, -, n5, n6⟩ := li_n li
    have e8 : w 193 13 = t 0 5 := hl2.2.2.2.2.2.1
    have hin : i < nP t := by omega
    have h7 := (si.2.2.2.2.1 i hin).1
    have h3 := (si.1 (s 7 i).toNat (by omega)).2.1
    have e7 : w 194 (Int.toNat (108 + (i : Int))) = s 7 i := by
      rw [show Int.toNat (108 + (i : Int)) = 108 + i by omega, show w 194 (108 + i) = _ from hs 7 i hin, zset_n (by decide)]
    have e3 : w 194 (Int.toNat (60 + s 7 i)) = s 3 (s 7 i).toNat := by
      rw [show Int.toNat (60 + s 7 i) = 60 + (s 7 i).toNat by omega, show w 194 (60 + _) = _ from hs 3 (s 7 i).toNat (show _ < nC t by omega), zset_n (by decide)]
    have c0 : w 194 (Int.toNat 138) = s 12 0 := by rw [show w 194 (Int.toNat 138) = _ from hs 12 0 (show 0 < 5 by decide), zset_n (by decide)]
    have e11 : w 194 (Int.toNat (132 + (i : Int))) = prt s fe i i := by
      rw [show Int.toNat (132 + (i : Int)) = 132 + i by omega, show w 194 (132 + i) = _ from hs 11 i hin, zset_s]
    have eb := msk_has (f := fe) n6 hin
    have skip : ¬ (s 12 0 = 3 ∧ fe i = true ∧ s 3 (s 7 i).toNat ≠ -1 ∧ s 3 (s 7 i).toNat ≠ i) → aMo_goLaw d lim Q 135 [xr 193, xi ((i : Int) + 1), none, none, none] [] g w := fun z => by
      rw [show ((i : Int) + 1) = ((i + 1 : Nat) : Int) by omega]
      refine mo_goLaw2 hM hl li si hk n (i + 1) w (by omega) hf ?_ hF
      rw [prt, if_neg z]; exact hs
    refine wMo_goLaw_135 ?_
    simp only [m_o hM, m_p0 hM, m_r0 hM, m_a0 hM, e7, e3, c0, e11, hF, eb, true_and]
    refine ⟨fun h => by rw [e8] at h; omega, fun _ => ⟨by decide, fun q => hk w hf (hs.to fun r j _ => ?_) hF, fun q => ⟨by constructor <;> omega, by constructor <;> omega, by constructor <;> omega, by constructor <;> omega, fun q2 => ⟨by constructor <;> omega, skip ?_⟩, fun q2 => ⟨fun q3 => ⟨by constructor <;> omega, skip ?_⟩, fun q3 => ⟨fun q4 => ⟨by constructor <;> omega, skip ?_⟩, fun q4 => ⟨by constructor <;> omega, by constructor <;> omega, by constructor <;> omega, ?_⟩⟩⟩⟩⟩⟩
    · unfold stD
      rw [prt_stop q, prt_stop q]
    · exact fun z => q2 (by rw [if_pos z.2.1])
    · exact fun z => z.2.2.1 q3
    · exact fun z => z.2.2.2 q4
    · have hfe : fe i = true := by
        by_cases z : fe i = true
        · exact z
        · rw [if_neg z] at q2; omega
      generalize hw1 : xup w 194 (Int.toNat (132 + (i : Int))) (xOr (prt s fe i i) (xShl 1 (s 3 (s 7 i).toNat))) = w1
      have f1 : MF w0 w1 := hf.trans fun a j p q _ => by rw [← hw1]; exact xup_a p
      have F1 : w1 193 49 = msk fe 0 (nP t) := by rw [← hw1, xup_a (by decide)]; exact hF
      have s1 : RMs t (zset s 11 (zup (prt s fe i) i (xOr (prt s fe i i) (xShl 1 (s 3 (s 7 i).toNat))))) w1 := by
        rw [← hw1]
        refine (hs.put li (r := 11) (i := i) hin (by show Int.toNat _ = 132 + i; omega)).to fun r j _ => ?_
        by_cases h11 : r = 11
        · subst h11
          rw [zset_s, zset_s]
          by_cases z : j = i
          · subst z; rw [zup_s, zup_s]
          · rw [zup_n z, zup_n z, zset_s]
        · rw [zset_n h11, zset_n h11, zset_n h11]
      have e11b : w1 194 (Int.toNat (132 + s 3 (s 7 i).toNat)) = zup (prt s fe i) i (xOr (prt s fe i i) (xShl 1 (s 3 (s 7 i).toNat))) (s 3 (s 7 i).toNat).toNat := by
        rw [show Int.toNat (132 + s 3 (s 7 i).toNat) = 132 + (s 3 (s 7 i).toNat).toNat by omega, show w1 194 (132 + _) = _ from s1 11 (s 3 (s 7 i).toNat).toNat (show _ < nP t by omega), zset_s]
      refine wMo_goLaw_211 ?_
      simp only [m_o hM, m_p0 hM, m_r0 hM, m_a0 hM, e11b, true_and]
      refine ⟨by constructor <;> omega, by constructor <;> omega, by constructor <;> omega, by constructor <;> omega, ?_⟩
      rw [show ((i : Int) + 1) = ((i + 1 : Nat) : Int) by omega]
      refine mo_goLaw2 hM hl li si hk n (i + 1) _ (by omega) (f1.trans fun a j p q _ => xup_a p) ?_ (by rw [xup_a (by decide)]; exact F1)
      rw [prt, if_pos ⟨q, hfe, q3, q4⟩]
      refine (s1.put li (r := 11) (i := (s 3 (s 7 i).toNat).toNat) (show _ < nP t by omega) (by show Int.toNat _ = 132 + _; omega)).to fun r j _ => ?_
      by_cases h11 : r = 11
      · subst h11
        rw [zset_s, zset_s]
        by_cases z : j = (s 3 (s 7 i).toNat).toNat
        · rw [z, zup_s, zup_s]
        · rw [zup_n z, zup_n z, zset_s]
      · rw [zset_n h11, zset_n h11, zset_n h11]
theorem mo_goLaw (hM : MG g) (hl : RMl t w) (hs : RMs t s w) (li : LInv t) (si : SInv t s) (hF : w 193 49 = msk fe 0 (nP t)) (hQ : ∀ w2, MF w w2 → RMs t (stD t (stC s) fe) w2 → w2 193 49 = msk fe 0 (nP t) → Q none g w2) : cal (d + 2) nMo_goLaw [xr 193] g w Q := by
  refine eMo_goLaw fun lim Q2 h2 => wMo_goLaw_0 ?_
  refine mo_goLaw1 (fe := fe) hM hl li si (fun w1 f1 s1 F1 => ?_) (nC t) 0 w (by omega) MF.refl (hs.to fun r j _ => ?_) hF
  · refine mo_goLaw2 (fe := fe) hM hl li (si_C si li.2.2.2.2.1.1) (fun w2 a b c => h2 _ _ _ rfl (hQ w2 a b c)) (nP t) 0 w1 (by omega) f1 (s1.to fun r j _ => ?_) F1
    by_cases h11 : r = 11
    · subst h11; rw [zset_s]; rfl
    · rw [zset_n h11]
  · by_cases h3 : r = 3
    · subst h3; rw [zset_s, if_neg (by omega)]
    · rw [zset_n h3]
theorem mo_isOwedFor (hM : MG g) (hs : RMs t s w) (li : LInv t) (si : SInv t s) {p c : Nat} (hp : p < nP t) (hc : c < nC t) (hQ : Q (some (xi (if isO s p c = true then 1 else 0))) g w) : cal (d + 2) nMo_isOwedFor [xr 193, xi p, xi c] g w Q := by
  refine eMo_isOwedFor fun lim Q2 h2 => wMo_isOwedFor_0 ?_
  have hQ := h2 _ _ _ rfl hQ
  obtain ⟨n1, n2, -, -, n5, n6⟩ := li_n li
  have h3 := (si.1 c hc).2.1
  have h11 := (si.2.2.2.2.1 p hp).2.2.2.2
  have e3 : w 194 (Int.toNat (60 + (c : Int))) = s 3 c := by
    rw [show Int.toNat (60 + (c : Int)) = 60 + c by omega]; exact hs 3 c hc
  have e0 : w 194 (Int.toNat (0 + (c : Int))) = s 0 c := by
    rw [show Int.toNat (0 + (c : Int)) = 0 + c by omega]; exact hs 0 c hc
  have e11 : w 194 (Int.toNat (132 + (p : Int))) = s 11 p := by
    rw [show Int.toNat (132 + (p : Int)) = 132 + p by omega]; exact hs 11 p hp
  have ei : isO s p c = true ↔ (s 3 c ≠ -1 ∧ s 3 c ≠ p ∧ xAnd (xShr (s 11 p) (s 3 c)) 1 = 0 ∧ 50 ≤ s 0 c) := by
    unfold isO
    simp [and_assoc]
  simp only [m_o hM, m_p0 hM, m_r0 hM, e3, true_and]
  refine ⟨by constructor <;> omega, by constructor <;> omega, fun q => ⟨Or.inl trivial, qe hQ ?_⟩, fun q => ⟨fun q2 => ⟨Or.inl trivial, qe hQ ?_⟩, fun q2 => ?_⟩⟩
  · rw [if_neg (fun z => (ei.mp z).1 q)]
  · rw [if_neg (fun z => (ei.mp z).2.1 q2)]
  · refine eMo_arePartners fun lim2 Q3 h3' => wMo_arePartners_0 ?_
    have hbit := z_shr (x := s 11 p) (p := s 3 c) h11 (by omega)
    simp only [m_o hM, m_p0 hM, m_r0 hM, e11, true_and]
    refine ⟨by constructor <;> omega, by constructor <;> omega, fun q3 => ⟨Or.inl trivial, h3' _ _ _ rfl ⟨_, rfl, fun z => absurd rfl z, fun _ => ?_⟩⟩, fun q3 => ⟨Or.inr trivial, h3' _ _ _ rfl ⟨_, rfl, fun _ => ⟨Or.inl trivial, qe hQ ?_⟩, fun z => absurd z (by decide)⟩⟩⟩
    · have z0 : xAnd (xShr (s 11 p) (s 3 c)) 1 = 0 := by omega
      simp only [m_o hM, m_p0 hM, m_r0 hM, e0, true_and]
      refine ⟨by constructor <;> omega, by constructor <;> omega, fun q4 => ⟨Or.inl trivial, qe hQ ?_⟩, fun q4 => ⟨Or.inr trivial, qe hQ ?_⟩⟩
      · rw [if_neg (fun z => by have := (ei.mp z).2.2.2; omega)]
      · rw [if_pos (ei.mpr ⟨q, q2, z0, q4⟩)]
    · rw [if_neg (fun z => by have := (ei.mp z).2.2.1; omega)]
end MOE
