/-! ===== commands cold and mildest on both sides ===== -/
section CNA
variable {g : xG} {w w0 : xW} {t s : zS} {d : Nat} {Q : xQ} {lim : Nat × Nat} {kl kn kl2 kn2 k kt : Nat} {x y v n : Int}
theorem cl_refuge1 (hS : SG g k) (hT : TG g kt) (hl : RCl t kt w) (hs : RCs t s k w) (li : LInv t) (si : SInv t s) {p : Nat} (hp : p < nP t) : ∀ (n b : Nat), b + n = 5 → Q (some (xi (if rfU t s p (s 7 p) n b = -1 then s 7 p else rfU t s p (s 7 p) n b))) g w → aSt_refuge (d + 1) lim Q 2 [xr k, xr kt, xi p, xi b, none] [] g w
  | 0, b, hb, hQ => by
    obtain ⟨-, -, -, -, n5, n6⟩ := li_n li
    have e7 : w (k + 8) (Int.toNat (p : Int)) = s 7 p := by rw [Int.toNat_natCast]; exact hs.1 7 p hp (by decide) (by decide)
    refine wSt_refuge_2 ?_
    simp only [s_o hS, s_p7 hS, s_r7 hS, e7, true_and]
    exact ⟨fun _ => ⟨by constructor <;> omega, hQ⟩, fun h => by omega⟩
  | n + 1, b, hb, hQ => by
    obtain ⟨-, -, -, -, n5, n6⟩ := li_n li
    have e7 : w (k + 8) (Int.toNat (p : Int)) = s 7 p := by rw [Int.toNat_natCast]; exact hs.1 7 p hp (by decide) (by decide)
    have h7 := (si.2.2.2.2.1 p hp).1
    have no : ¬ (wyy t s (s 7 p) b ≠ -1 ∧ isO s p (wyy t s (s 7 p) b).toNat = false) → aSt_refuge (d + 1) lim Q 2 [xr k, xr kt, xi p, xi ((b : Int) + 1), none] [] g w := fun z => by
      rw [show ((b : Int) + 1) = ((b + 1 : Nat) : Int) by omega]
      refine cl_refuge1 hS hT hl hs li si hp n (b + 1) (by omega) ?_
      rw [rfU, if_neg z] at hQ; exact hQ
    refine wSt_refuge_2 ?_
    simp only [s_o hS, s_p7 hS, s_r7 hS, e7, true_and]
    refine ⟨fun h => by omega, fun _ => ⟨by constructor <;> omega, ?_⟩⟩
    obtain ⟨C, hC⟩ := z_nn h7.1
    have ew : wyy t s C b = wyy t s (s 7 p) b := by rw [hC]
    rw [hC]
    refine cl_reach hS hT hl hs li si (by omega) (by omega) ⟨_, rfl, fun z => ⟨by constructor <;> omega, no fun y => y.1 (ew ▸ z)⟩, fun z => ?_⟩
    rw [ew] at z ⊢
    have hin := (wyy_in (s := s) li h7 b).resolve_left z
    obtain ⟨D, hD⟩ := z_nn hin.1
    simp only [s_o hS, true_and]
    rw [hD]
    refine cl_isDear hS hs li si hp (by omega) ⟨_, rfl, fun y => ⟨by constructor <;> omega, no fun u => ?_⟩, fun y => ?_⟩
    · have y := ifv.2 y
      have := u.2
      rw [hD, Int.toNat_natCast, y] at this
      exact absurd this (by decide)
    · have y := ifv.1 y
      have y : isO s p D = false := by
        cases h : isO s p D
        · rfl
        · exact absurd h y
      have c : wyy t s (s 7 p) b ≠ -1 ∧ isO s p (wyy t s (s 7 p) b).toNat = false := ⟨z, by rw [hD, Int.toNat_natCast]; exact y⟩
      rw [rfU, if_pos c, if_neg z, hD] at hQ
      exact hQ
theorem cl_refuge (hS : SG g k) (hT : TG g kt) (hl : RCl t kt w) (hs : RCs t s k w) (li : LInv t) (si : SInv t s) {p : Nat} (hp : p < nP t) (hQ : Q (some (xi (rfg t s p))) g w) : cal (d + 2) nSt_refuge [xr k, xr kt, xi p] g w Q := by
  refine eSt_refuge fun lim Q2 h2 => wSt_refuge_0 ?_
  exact cl_refuge1 hS hT hl hs li si hp 4 1 rfl (h2 _ _ _ rfl hQ)
theorem cl_leave1 (hS : SG g k) (hT : TG g kt) (hd : kt + 7 < k ∨ k + 12 < kt) (hl : RCl t kt w0) (li : LInv t) (si : SInv t s) (hk : ∀ w, CF k w0 w → RCs t (lvU t s (nP t)) k w → Q none g w) : ∀ (n i : Nat) (w : xW), i + n = nP t → CF k w0 w → RCs t (lvU t s i) k w → aSt_leaveDearCells (d + 2) lim Q 2 [xr k, xr kt, xi i] [] g w
  | 0, i, w, hi, hf, hs => by
    have hi : i = nP t := by omega
    subst hi
    obtain ⟨-, -, -, -, n5, n6⟩ := li_n li
    have e5 : w kt 5 = t 0 5 := (hl.fr hf hd).2.2.2.2.2.1
    refine wSt_leaveDearCells_2 ?_
    simp only [s_o hS, t_o hT, e5, true_and]
    exact ⟨fun _ => hk w hf hs, fun h => by omega⟩
  | n + 1, i, w, hi, hf, hs => by
    obtain ⟨-, -, -, -, n5, n6⟩ := li_n li
    have hl2 := hl.fr hf hd
    have e5 : w kt 5 = t 0 5 := hl2.2.2.2.2.2.1
    have sii := si_lvU li si i (by omega)
    have hin : i < nP t := by omega
    have h7 := (sii.2.2.2.2.1 i hin).1
    have e7 : w (k + 8) (Int.toNat (i : Int)) = lvU t s i 7 i := by rw [Int.toNat_natCast]; exact hs.1 7 i hin (by decide) (by decide)
    refine wSt_leaveDearCells_2 ?_
    simp only [s_o hS, t_o hT, s_p7 hS, s_r7 hS, e5, e7, true_and]
    refine ⟨fun h => by omega, fun _ => ⟨by constructor <;> omega, ?_⟩⟩
    obtain ⟨C, hC⟩ := z_nn h7.1
    rw [hC]
    refine cl_isDear hS hs li sii hin (by omega) ⟨_, rfl, fun z => ⟨by constructor <;> omega, ?_⟩, fun z => ?_⟩
    · have z := ifv.1 z
      rw [show ((i : Int) + 1) = ((i + 1 : Nat) : Int) by omega]
      refine cl_leave1 hS hT hd hl li si hk n (i + 1) w (by omega) hf ?_
      rw [lvU, lv1, if_neg (by rw [hC, Int.toNat_natCast]; exact z)]; exact hs
    · have z := ifv.2 z
      simp only [s_o hS, s_p7 hS, true_and]
      refine cl_refuge hS hT hl2 hs li sii hin ⟨_, rfl, ?_⟩
      simp only [s_a7 hS, true_and]
      refine ⟨by constructor <;> omega, by constructor <;> omega, ?_⟩
      rw [show ((i : Int) + 1) = ((i + 1 : Nat) : Int) by omega]
      refine cl_leave1 hS hT hd hl li si hk n (i + 1) _ (by omega) (hf.trans (CF.up (by omega) (by omega))) ?_
      rw [lvU, lv1, if_pos (by rw [hC, Int.toNat_natCast]; exact z)]
      exact hs.put li (r := 7) (i := i) hin (by decide) (by decide) rfl (Int.toNat_natCast i)
theorem cl_leave (hS : SG g k) (hT : TG g kt) (hd : kt + 7 < k ∨ k + 12 < kt) (hl : RCl t kt w) (hs : RCs t s k w) (li : LInv t) (si : SInv t s) (hk : ∀ w2, CF k w w2 → RCs t (lvU t s (nP t)) k w2 → Q none g w2) : cal (d + 3) nSt_leaveDearCells [xr k, xr kt] g w Q := by
  refine eSt_leaveDearCells fun lim Q2 h2 => wSt_leaveDearCells_0 ?_
  exact cl_leave1 hS hT hd hl li si (fun w2 a b => h2 _ g w2 rfl (hk w2 a b)) (nP t) 0 w (by omega) CF.refl hs
theorem cl_frz1 (F : FG g kl kn kl2 kn2) (hl : RCl t kl w0) (li : LInv t) {N : Nat} (si : SInv t s) (hv : 0 ≤ v ∧ v ≤ 3) (hm : s 12 2 + N ≤ 1000000000) (hQ : ∀ w2, CF 15 w0 w2 → Q (some (xi (oFrz t s v N))) g w2) : ∀ (n i : Nat) (w : xW), i + n = N → CF 15 w0 w → RCs t (cz t (czS s v) i) 15 w → aFf_countFreezing (d + 4) lim Q 29 [xr 2, none, xi N, xi i] [] g w
  | 0, i, w, hi, hf, hs => by
    have hi : i = N := by omega
    subst hi
    obtain ⟨q1, q2, q3, -⟩ := oFrz_6 (s := s) (v := v) (N := i) li
    have e4 : w 15 13 = cz t (czS s v) i 12 4 := hs.1 12 4 (show 4 < 5 by decide) (by decide) (by decide)
    refine wFf_countFreezing_29 ?_
    simp only [f_o F, f_p5 F, s_o (f_tr F), e4, true_and]
    refine ⟨fun _ => cl_bitCount ⟨q2, q3⟩ ⟨_, rfl, ?_⟩, fun h => by omega⟩
    rw [q1]; exact hQ w hf
  | n + 1, i, w, hi, hf, hs => by
    have hkl := f_hl F
    have hm0 := si.2.2.2.2.2.2.2.1
    have sii := si_cz li (si_czS si hv) i (by rw [czS_m]; omega)
    have em := cz_m (t := t) (s := czS s v) i
    rw [czS_m] at em
    refine wFf_countFreezing_29 ?_
    simp only [f_o F, f_p5 F, f_p9 F, s_o (f_tr F), true_and]
    refine ⟨fun h => by omega, fun _ => cl_leave (f_tr F) (f_tl F) (by omega) (hl.fr hf (by omega)) hs li sii fun w2 f2 s2 => ⟨rfl, ?_⟩⟩
    simp only [f_o F, f_p5 F, f_p9 F, s_o (f_tr F), true_and]
    have f12 := hf.trans f2
    refine cl_passMinute (f_tr F) (f_tl F) (by omega) (hl.fr f12 (by omega)) s2 li (si_lvU li sii _ (Nat.le_refl _)) (by rw [lvU_12]; omega) fun w3 f3 s3 => ⟨rfl, by constructor <;> omega, ?_⟩
    rw [show ((i : Int) + 1) = ((i + 1 : Nat) : Int) by omega]
    exact cl_frz1 F hl li si hv hm hQ n (i + 1) w3 (by omega) (f12.trans f3) s3
theorem cl_frz (F : FG g kl kn kl2 kn2) (hl : RCl t kl w) (hs : RCs t s kn w) (li : LInv t) {N : Nat} (si : SInv t s) (hv : 0 ≤ v ∧ v ≤ 3) (hm : s 12 2 + N ≤ 1000000000) (hQ : ∀ w2, CF 15 w w2 → Q (some (xi (oFrz t s v N))) g w2) : cal (d + 5) nFf_countFreezing [xr 2, xi v, xi N] g w Q := by
  refine eFf_countFreezing fun lim Q2 h2 => wFf_countFreezing_0 ?_
  have hQ := fun w2 a => h2 _ g w2 rfl (hQ w2 a)
  have hkn := f_hn F
  simp only [f_o F, f_p5 F, f_p11 F, s_o (f_tr F), true_and]
  refine cl_copy (f_tr F) (f_sn F) (by omega) hs li fun w2 f2 s2 => ⟨rfl, ?_⟩
  simp only [f_o F, f_p5 F, s_o (f_tr F), true_and]
  refine wFf_countFreezing_19 ?_
  simp only [f_o F, f_p5 F, s_o (f_tr F), true_and]
  have s3 := (s2.put li (r := 12) (i := 0) (v := v) (show 0 < 5 by decide) (by decide) (by decide) (a := 15) (j := 14) rfl rfl).put li (r := 12) (i := 4) (v := 0) (show 4 < 5 by decide) (by decide) (by decide) (a := 15) (j := 13) rfl rfl
  refine cl_frz1 F hl li si hv hm hQ N 0 _ (by omega) (f2.trans ((CF.up (by omega) (by omega)).trans (CF.up (by omega) (by omega)))) (s3.to (fun r j _ _ _ => ?_) fun j => ?_)
  · show czS s v r j = _
    unfold czS
    by_cases q : r = 12
    · subst q
      rw [zset_s, zset_s]
      by_cases q2 : j = 4
      · subst q2; rw [zup_s, zup_s]
      · rw [zup_n q2, zup_n q2, zset_s]
    · rw [zset_n q, zset_n q, zset_n q]
  · show czS s v 1 j = _ ∧ czS s v 2 j = _
    unfold czS
    rw [zset_n (by decide), zset_n (by decide), zset_n (by decide), zset_n (by decide), zset_n (by decide), zset_n (by decide)]; exact ⟨rfl, rfl⟩
theorem cl_isLaw (hQ : Q (some (xi (if 0 ≤ v ∧ v ≤ 3 then 1 else 0))) g w) : cal (d + 1) nFf_isLaw [xi v] g w Q := by
  refine eFf_isLaw fun lim Q2 h2 => wFf_isLaw_0 ⟨fun b => ⟨Or.inl rfl, h2 _ _ _ rfl (qe hQ ?_)⟩, fun b => ⟨fun b2 => ⟨Or.inl rfl, h2 _ _ _ rfl (qe hQ ?_)⟩, fun b2 => ⟨Or.inr rfl, h2 _ _ _ rfl (qe hQ ?_)⟩⟩⟩
  · rw [if_neg (by omega)]
  · rw [if_neg (by omega)]
  · rw [if_pos (by omega)]
theorem cl_coldC (F : FG g kl kn kl2 kn2) (hl : RCl t kl w) (hs : RCs t s kn w) (li : LInv t) (si : SInv t s) (hm : s 12 2 ≤ 999999900) (hQ : ∀ w2, CF 15 w w2 → Q (some (xi (oCold t s v n))) g w2) : cal (d + 6) nFf_cold [xr 2, xi v, xi n] g w Q := by
  refine eFf_cold fun lim Q2 h2 => wFf_cold_0 ?_
  have hQ := fun w2 a => h2 _ g w2 rfl (hQ w2 a)
  unfold oCold at hQ
  refine cl_isLaw ⟨_, rfl, fun a => ?_, fun a => cl_isSpan ⟨_, rfl, fun b => ?_, fun b => ?_⟩⟩
  · rw [if_neg (fun z => ifv.1 a z.1)] at hQ; exact hQ w CF.refl
  · rw [if_neg (fun z => ifv.1 b z.2)] at hQ; exact hQ w CF.refl
  · have a := ifv.2 a
    have b := ifv.2 b
    rw [if_pos ⟨a, b⟩] at hQ
    simp only [f_o F, true_and]
    obtain ⟨N, hN⟩ := z_nn (x := n) (by omega)
    subst hN
    rw [Int.toNat_natCast] at hQ
    exact cl_frz F hl hs li si a (by omega) fun w2 f2 => ⟨_, rfl, hQ w2 f2⟩
theorem cl_mild1 (F : FG g kl kn kl2 kn2) (hl : RCl t kl w0) (hs : RCs t s kn w0) (li : LInv t) {N : Nat} (si : SInv t s) (hm : s 12 2 + N ≤ 1000000000) : ∀ (n i b : Nat) (w : xW), i + n = 4 → b ≤ 3 → CF 15 w0 w → (∀ w2, CF 15 w0 w2 → Q (some (xi (mld t s N n i b))) g w2) → aFf_mildest (d + 5) lim Q 22 [xr 2, xi N, xi b, xi (oFrz t s b N), xi i, none] [] g w
  | 0, i, b, w, hi, hb, hf, hQ => by
    refine wFf_mildest_22 ?_
    simp only [f_o F, true_and]
    exact ⟨fun _ => hQ w hf, fun h => by omega⟩
  | n + 1, i, b, w, hi, hb, hf, hQ => by
    have hkl := f_hl F
    have hkn := f_hn F
    refine wFf_mildest_22 ?_
    simp only [f_o F, true_and]
    refine ⟨fun h => by omega, fun _ => cl_frz F (hl.fr hf (by omega)) (hs.cf li hf (by omega)) li si (by omega) hm fun w2 f2 => ⟨_, rfl, fun z => ⟨by constructor <;> omega, ?_⟩, fun z => ⟨by constructor <;> omega, ?_⟩⟩⟩
    · rw [show ((i : Int) + 1) = ((i + 1 : Nat) : Int) by omega]
      refine cl_mild1 F hl hs li si hm n (i + 1) b w2 (by omega) hb (hf.trans f2) fun w3 f3 => ?_
      have := hQ w3 f3
      rw [mld, if_neg (by omega)] at this; exact this
    · rw [show ((i : Int) + 1) = ((i + 1 : Nat) : Int) by omega]
      refine cl_mild1 F hl hs li si hm n (i + 1) i w2 (by omega) (by omega) (hf.trans f2) fun w3 f3 => ?_
      have := hQ w3 f3
      rw [mld, if_pos z] at this; exact this
theorem cl_mildest (F : FG g kl kn kl2 kn2) (hl : RCl t kl w) (hs : RCs t s kn w) (li : LInv t) (si : SInv t s) (hm : s 12 2 ≤ 999999900) (hQ : ∀ w2, CF 15 w w2 → Q (some (xi (oMild t s n))) g w2) : cal (d + 6) nFf_mildest [xr 2, xi n] g w Q := by
  refine eFf_mildest fun lim Q2 h2 => wFf_mildest_0 ?_
  have hQ := fun w2 a => h2 _ g w2 rfl (hQ w2 a)
  unfold oMild at hQ
  refine cl_isSpan ⟨_, rfl, fun b => ?_, fun b => ?_⟩
  · have b := ifv.2 b
    rw [if_pos b] at hQ
    simp only [f_o F, true_and]
    obtain ⟨N, hN⟩ := z_nn (x := n) (by omega)
    subst hN
    rw [Int.toNat_natCast] at hQ
    refine cl_frz F hl hs li si (by decide) (by omega) fun w2 f2 => ⟨_, rfl, ?_⟩
    exact cl_mild1 F hl hs li si (by omega) 3 1 0 w2 rfl (by decide) f2 hQ
  · rw [if_neg (ifv.1 b)] at hQ; exact hQ w CF.refl
/-! the reference -/
theorem mo_lw1 (hM : MG g) (hl : RMl t w) (hs : RMs t s w) (li : LInv t) (si : SInv t s) {p : Nat} (hp : p < nP t) (hQ : ∀ w2, MF w w2 → RMs t (zset s 7 (zup (s 7) p (rfg t s p))) w2 → Q none g w2) : ∀ (b n : Nat), b + n = 4 → aMo_leaveWarm (d + 2) lim Q 24 [xr 193, xi p, xi (s 7 p), xi (rfU t s p (s 7 p) n (b + 1)), xi b, none] [] g w
  | 0, n, hb => by
    have hn : n = 4 := by omega
    subst hn
    obtain ⟨-, -, -, -, n5, n6⟩ := li_n li
    refine wMo_leaveWarm_24 ?_
    simp only [m_o hM, m_p0 hM, m_a0 hM, true_and]
    have fin : ∀ u, u = rfg t s p → Q none g (xup w 194 (Int.toNat (108 + (p : Int))) u) := fun u hu => by
      rw [hu]
      exact hQ _ (fun a j p _ _ => xup_a p) (hs.put li (r := 7) (i := p) hp (by show _ = 108 + _; omega))
    refine ⟨fun _ => ⟨by constructor <;> omega, fun z => ⟨by constructor <;> omega, fin _ ?_⟩, fun z => ⟨by constructor <;> omega, fin _ ?_⟩⟩, fun h => by omega⟩
    · unfold rfg; rw [if_neg z]
    · unfold rfg; rw [if_pos z]
  | b + 1, n, hb => by
    have h7 := (si.2.2.2.2.1 p hp).1
    have ih := mo_lw1 hM hl hs li si hp hQ b (n + 1) (by omega)
    have no : ¬ (wyy t s (s 7 p) ((b + 1 : Nat) : Int) ≠ -1 ∧ isO s p (wyy t s (s 7 p) ((b + 1 : Nat) : Int)).toNat = false) → aMo_leaveWarm (d + 2) lim Q 24 [xr 193, xi p, xi (s 7 p), xi (rfU t s p (s 7 p) n (b + 1 + 1)), xi (((b + 1 : Nat) : Int) + -1), none] [] g w := fun z => by
      rw [show (((b + 1 : Nat) : Int) + -1) = (b : Int) by omega]
      rw [rfU, if_neg z] at ih; exact ih
    refine wMo_leaveWarm_24 ?_
    simp only [m_o hM, true_and]
    refine ⟨fun h => by omega, fun _ => mo_way hM hl hs li h7 ⟨_, rfl, fun z => ⟨by constructor <;> omega, no fun y => y.1 z⟩, fun z => ?_⟩⟩
    have hin := (wyy_in (s := s) li h7 ((b + 1 : Nat) : Int)).resolve_left z
    obtain ⟨D, hD⟩ := z_nn hin.1
    simp only [m_o hM, true_and]
    rw [hD]
    refine mo_isOwedFor hM hs li si hp (by omega) ⟨_, rfl, fun y => ⟨by constructor <;> omega, no fun u => ?_⟩, fun y => ⟨by constructor <;> omega, ?_⟩⟩
    · have y := ifv.2 y
      have := u.2
      rw [hD, Int.toNat_natCast, y] at this
      exact absurd this (by decide)
    · have y := ifv.1 y
      have y : isO s p D = false := by
        cases h : isO s p D
        · rfl
        · exact absurd h y
      rw [rfU, if_pos ⟨z, by rw [hD, Int.toNat_natCast]; exact y⟩, hD] at ih
      rw [show (((b + 1 : Nat) : Int) + -1) = (b : Int) by omega]
      exact ih
theorem mo_leaveWarm (hM : MG g) (hl : RMl t w) (hs : RMs t s w) (li : LInv t) (si : SInv t s) {p : Nat} (hp : p < nP t) (hQ : ∀ w2, MF w w2 → RMs t (lv1 t s p) w2 → Q none g w2) : cal (d + 3) nMo_leaveWarm [xr 193, xi p] g w Q := by
  refine eMo_leaveWarm fun lim Q2 h2 => wMo_leaveWarm_0 ?_
  have hQ := fun w2 a b => h2 _ g w2 rfl (hQ w2 a b)
  obtain ⟨-, -, -, -, n5, n6⟩ := li_n li
  have h7 := (si.2.2.2.2.1 p hp).1
  have e7 : w 194 (Int.toNat (108 + (p : Int))) = s 7 p := by rw [show Int.toNat (108 + (p : Int)) = 108 + p by omega]; exact hs 7 p hp
  simp only [m_o hM, m_p0 hM, m_r0 hM, e7, true_and]
  refine ⟨by constructor <;> omega, by constructor <;> omega, ?_⟩
  obtain ⟨C, hC⟩ := z_nn h7.1
  unfold lv1 at hQ
  have go : isO s p (s 7 p).toNat = true → aMo_leaveWarm (d + 2) lim Q2 24 [xr 193, xi p, xi (s 7 p), xi (-1), xi 4, none] [] g w := fun z => by
    rw [if_pos z] at hQ
    exact mo_lw1 hM hl hs li si hp hQ 4 0 rfl
  rw [hC] at go ⊢
  refine mo_isOwedFor hM hs li si hp (by omega) ⟨_, rfl, fun z => ?_, fun z => go (by rw [Int.toNat_natCast]; exact ifv.2 z)⟩
  rw [if_neg (by rw [hC, Int.toNat_natCast]; exact ifv.1 z)] at hQ
  exact hQ w (fun _ _ _ _ _ => rfl) hs
theorem mo_cb32 (hM : MG g) (hl : RMl t w0) (li : LInv t) (si : SInv t s) {N i : Nat} (hk : ∀ w2, MF w0 w2 → RMs t (lvU t s (nP t)) w2 → aMo_coldBy (d + 3) lim Q 32 [xr 193, none, xi N, xi i, xi (nP t)] [] g w2) : ∀ (n p : Nat) (w : xW), p + n = nP t → MF w0 w → RMs t (lvU t s p) w → aMo_coldBy (d + 3) lim Q 32 [xr 193, none, xi N, xi i, xi p] [] g w
  | 0, p, w, hp, hf, hs => by
    have hp : p = nP t := by omega
    subst hp
    exact hk w hf hs
  | n + 1, p, w, hp, hf, hs => by
    obtain ⟨-, -, -, -, n5, n6⟩ := li_n li
    have hl2 := hl.fr hf
    have e5 : w 193 13 = t 0 5 := hl2.2.2.2.2.2.1
    refine wMo_coldBy_32 ?_
    simp only [m_o hM, e5, true_and]
    refine ⟨fun h => by omega, fun _ => mo_leaveWarm hM hl2 hs li (si_lvU li si p (by omega)) (by omega) fun w2 f2 s2 => ⟨rfl, by constructor <;> omega, ?_⟩⟩
    rw [show ((p : Int) + 1) = ((p + 1 : Nat) : Int) by omega]
    exact mo_cb32 hM hl li si hk n (p + 1) w2 (by omega) (hf.trans f2) s2
theorem mo_cb68 (hM : MG g) (hl : RMl t w) (li : LInv t) {X : Int} (hX : 0 ≤ X ∧ X < 64) (he : w 194 (Int.toNat 142) = X) (hQ : ∀ w2, (∀ a j, a ≠ 194 → w2 a j = w a j) → (∀ j, j < 143 → w2 194 j = w 197 j) → Q (some (xi (cbt X (nP t)))) g w2) : ∀ (n p : Nat), p + n = nP t → aMo_coldBy (d + 1) lim Q 68 [xr 193, none, none, xi (cbt X p), xi p] [] g w
  | 0, p, hp => by
    have hp : p = nP t := by omega
    subst hp
    obtain ⟨-, -, -, -, n5, n6⟩ := li_n li
    have e5 : w 193 13 = t 0 5 := hl.2.2.2.2.2.1
    refine wMo_coldBy_68 ?_
    simp only [m_o hM, e5, true_and]
    exact ⟨fun _ => mo_back hM fun w2 f2 v2 => ⟨rfl, hQ w2 f2 v2⟩, fun h => by omega⟩
  | n + 1, p, hp => by
    obtain ⟨-, -, -, -, n5, n6⟩ := li_n li
    have e5 : w 193 13 = t 0 5 := hl.2.2.2.2.2.1
    obtain ⟨Y, hY⟩ := z_nn hX.1
    have b1 := z_cbb p (by omega) Y (by omega)
    have b2 := z_cb1 p (by omega) Y (by omega)
    rw [← hY] at b1 b2
    refine wMo_coldBy_68 ?_
    simp only [m_o hM, m_p0 hM, m_r0 hM, e5, he, true_and]
    refine ⟨fun h => by omega, fun _ => ⟨by decide, by constructor <;> omega, by constructor <;> omega, ?_⟩⟩
    rw [show ((p : Int) + 1) = ((p + 1 : Nat) : Int) by omega]
    exact mo_cb68 hM hl li hX he hQ n (p + 1) (by omega)
theorem mo_cb24 (hM : MG g) (hl : RMl t w0) (li : LInv t) (si : SInv t s) (hn : w0 193 50 = -1) {N : Nat} (hv : 0 ≤ v ∧ v ≤ 3) (hm : s 12 2 + N ≤ 1000000000) (hN : N ≤ 1000) (hQ : ∀ w2, MB w0 w2 → (∀ j, j < 143 → w2 194 j = w0 197 j) → (∀ j, w2 197 j = w0 197 j) → Q (some (xi (oFrz t s v N))) g w2) : ∀ (n i : Nat) (w : xW), i + n = N → MF w0 w → RMs t (cz t (czS s v) i) w → aMo_coldBy (d + 4) lim Q 24 [xr 193, none, xi N, xi i, none] [] g w
  | 0, i, w, hi, hf, hs => by
    have hi : i = N := by omega
    subst hi
    obtain ⟨q1, q2, q3, -⟩ := oFrz_6 (s := s) (v := v) (N := i) li
    have e4 : w 194 (Int.toNat 142) = cz t (czS s v) i 12 4 := hs 12 4 (show 4 < 5 by decide)
    refine wMo_coldBy_24 ?_
    refine ⟨fun _ => ?_, fun h => by omega⟩
    exact mo_cb68 hM (hl.fr hf) li ⟨q2, q3⟩ e4 (fun w2 f2 v2 => hQ w2 (hf.mb.trans fun a j p _ _ _ _ => f2 a j p) (fun j hj => (v2 j hj).trans (hf 197 j (by decide) (by decide) (fun z => absurd z (by decide)))) fun j => (f2 197 j (by decide)).trans (hf 197 j (by decide) (by decide) (fun z => absurd z (by decide)))) (nP t) 0 (by omega)
  | n + 1, i, w, hi, hf, hs => by
    have hm0 := si.2.2.2.2.2.2.2.1
    have sii := si_cz li (si_czS si hv) i (by rw [czS_m]; omega)
    have em := cz_m (t := t) (s := czS s v) i
    rw [czS_m] at em
    obtain ⟨-, -, -, -, n5, n6⟩ := li_n li
    refine wMo_coldBy_24 ?_
    refine ⟨fun h => by omega, fun _ => mo_cb32 (d := d + 1) hM (hl.fr hf) li sii (fun w2 f2 s2 => ?_) (nP t) 0 w (by omega) (fun _ _ _ _ _ => rfl) hs⟩
    have f12 := hf.trans f2
    have hl2 := hl.fr f12
    have e5 : w2 193 13 = t 0 5 := hl2.2.2.2.2.2.1
    refine wMo_coldBy_32 ?_
    simp only [m_o hM, e5, true_and]
    refine ⟨fun _ => mo_goMinute (numb := -1) hM hl2 s2 li (si_lvU li sii _ (Nat.le_refl _)) (by rw [lvU_12]; omega) (by rw [f12 193 50 (by decide) (by decide) (fun _ => by decide)]; exact hn) fun w3 f3 s3 _ => ⟨rfl, by constructor <;> omega, ?_⟩, fun h => by omega⟩
    rw [show ((i : Int) + 1) = ((i + 1 : Nat) : Int) by omega]
    exact mo_cb24 hM hl li si hn hv hm hN hQ n (i + 1) w3 (by omega) (f12.trans f3) s3
theorem mo_coldBy (hM : MG g) (hl : RMl t w) (hs : RMs t s w) (li : LInv t) (si : SInv t s) (hn : w 193 50 = -1) {N : Nat} (hv : 0 ≤ v ∧ v ≤ 3) (hm : s 12 2 + N ≤ 1000000000) (hN : N ≤ 1000) (hQ : ∀ w2, MB w w2 → (∀ j, j < 143 → w2 194 j = w 194 j) → Q (some (xi (oFrz t s v N))) g w2) : cal (d + 5) nMo_coldBy [xr 193, xi v, xi N] g w Q := by
  refine eMo_coldBy fun lim Q2 h2 => wMo_coldBy_0 ?_
  have hQ := fun w2 a b => h2 _ g w2 rfl (hQ w2 a b)
  simp only [m_o hM, true_and]
  refine mo_start hM fun w1 f1 v1 => ⟨rfl, ?_⟩
  have m1 : MB w w1 := fun a j _ p _ _ _ => f1 a j p
  have s1 : RMs t s w1 := fun r i h => by rw [f1 194 _ (by decide)]; exact hs r i h
  simp only [m_o hM, m_p0 hM, m_a0 hM, true_and]
  refine ⟨by decide, wMo_coldBy_13 ?_⟩
  simp only [m_o hM, m_p0 hM, m_a0 hM, true_and]
  refine ⟨by decide, ?_⟩
  have s3 := (s1.put li (r := 12) (i := 0) (v := v) (show 0 < 5 by decide) (j := Int.toNat 138) rfl).put li (r := 12) (i := 4) (v := 0) (show 4 < 5 by decide) (j := Int.toNat 142) rfl
  have f3 : MF w1 (xup (xup w1 194 (Int.toNat 138) v) 194 (Int.toNat 142) 0) := fun a j p _ _ => by rw [xup_a p, xup_a p]
  have l1 := (hl.mb m1).fr f3
  have e197 : ∀ j, xup (xup w1 194 (Int.toNat 138) v) 194 (Int.toNat 142) 0 197 j = w1 197 j := fun j => by rw [xup_a (by decide), xup_a (by decide)]
  refine mo_cb24 hM l1 li si (by rw [f3 193 50 (by decide) (by decide) (fun _ => by decide), f1 193 50 (by decide)]; exact hn) hv hm hN (fun w2 f2 v2 _ => hQ w2 ((m1.trans f3.mb).trans f2) fun j hj => by rw [v2 j hj, e197, v1 j hj]) N 0 _ (by omega) (fun _ _ _ _ _ => rfl) ?_
  intro r i h
  rw [s3 r i h]
  show _ = czS s v r i
  unfold czS
  by_cases q : r = 12
  · subst q
    rw [zset_s, zset_s]
    by_cases q2 : i = 4
    · subst q2; rw [zup_s, zup_s]
    · rw [zup_n q2, zup_n q2, zset_s]
  · rw [zset_n q, zset_n q, zset_n q]
theorem mo_cold (hM : MG g) (hl : RMl t w) (hs : RMs t s w) (li : LInv t) (si : SInv t s) (hn : w 193 50 = -1) (hm : s 12 2 ≤ 999999900) (hQ : ∀ w2, MB w w2 → (∀ j, j < 143 → w2 194 j = w 194 j) → Q (some (xi (oCold t s v n))) g w2) : cal (d + 6) nMo_cold [xr 193, xi v, xi n] g w Q := by
  refine eMo_cold fun lim Q2 h2 => wMo_cold_0 ?_
  have hQ := fun w2 a b => h2 _ g w2 rfl (hQ w2 a b)
  unfold oCold at hQ
  refine mo_in ⟨_, rfl, fun a => ?_, fun a => mo_in ⟨_, rfl, fun b => ?_, fun b => ?_⟩⟩
  · rw [if_neg (fun z => ifv.1 a z.1)] at hQ; exact hQ w MB.refl fun _ _ => rfl
  · rw [if_neg (fun z => ifv.1 b z.2)] at hQ; exact hQ w MB.refl fun _ _ => rfl
  · have a := ifv.2 a
    have b := ifv.2 b
    rw [if_pos ⟨a, b⟩] at hQ
    simp only [m_o hM, true_and]
    obtain ⟨N, hN⟩ := z_nn (x := n) (by omega)
    subst hN
    rw [Int.toNat_natCast] at hQ
    exact mo_coldBy hM hl hs li si hn a (by omega) (by omega) fun w2 f2 v2 => ⟨_, rfl, hQ w2 f2 v2⟩
theorem mo_mild1 (hM : MG g) (hl : RMl t w0) (hs : RMs t s w0) (li : LInv t) (si : SInv t s) (hn : w0 193 50 = -1) {N : Nat} (hm : s 12 2 + N ≤ 1000000000) (hN : N ≤ 1000) : ∀ (n i b : Nat) (w : xW), i + n = 4 → b ≤ 3 → MB w0 w → (∀ j, j < 143 → w 194 j = w0 194 j) → (∀ w2, MB w0 w2 → (∀ j, j < 143 → w2 194 j = w0 194 j) → Q (some (xi (mld t s N n i b))) g w2) → aMo_mildest (d + 5) lim Q 19 [xr 193, xi N, xi b, xi i] [] g w
  | 0, i, b, w, hi, hb, hf, h1, hQ => by
    refine wMo_mildest_19 ?_
    simp only [m_o hM, true_and]
    exact ⟨fun _ => hQ w hf h1, fun h => by omega⟩
  | n + 1, i, b, w, hi, hb, hf, h1, hQ => by
    have kk : ∀ w3, MB w0 w3 → w3 193 50 = -1 := fun w3 f => by rw [f 193 50 (by decide) (by decide) (by decide) (by decide) (by decide)]; exact hn
    have ss : ∀ w3, (∀ j, j < 143 → w3 194 j = w0 194 j) → RMs t s w3 := fun w3 v r i h => by rw [v _ (act_off li h)]; exact hs r i h
    refine wMo_mildest_19 ?_
    simp only [m_o hM, true_and]
    refine ⟨fun h => by omega, fun _ => mo_coldBy hM (hl.mb hf) (ss w h1) li si (kk w hf) (by omega) hm hN fun w2 f2 v2 => ⟨_, rfl, m_o hM, ?_⟩⟩
    have f12 := hf.trans f2
    have v12 : ∀ j, j < 143 → w2 194 j = w0 194 j := fun j hj => (v2 j hj).trans (h1 j hj)
    refine mo_coldBy hM (hl.mb f12) (ss w2 v12) li si (kk w2 f12) (by omega) hm hN fun w3 f3 v3 => ⟨_, rfl, fun z => ⟨by constructor <;> omega, ?_⟩, fun z => ⟨by constructor <;> omega, ?_⟩⟩
    · rw [show ((i : Int) + 1) = ((i + 1 : Nat) : Int) by omega]
      refine mo_mild1 hM hl hs li si hn hm hN n (i + 1) b w3 (by omega) hb (f12.trans f3) (fun j hj => (v3 j hj).trans (v12 j hj)) fun w4 f4 v4 => ?_
      have := hQ w4 f4 v4
      rw [mld, if_neg (by omega)] at this; exact this
    · rw [show ((i : Int) + 1) = ((i + 1 : Nat) : Int) by omega]
      refine mo_mild1 hM hl hs li si hn hm hN n (i + 1) i w3 (by omega) (by omega) (f12.trans f3) (fun j hj => (v3 j hj).trans (v12 j hj)) fun w4 f4 v4 => ?_
      have := hQ w4 f4 v4
      rw [mld, if_pos z] at this; exact this
theorem mo_mildest (hM : MG g) (hl : RMl t w) (hs : RMs t s w) (li : LInv t) (si : SInv t s) (hn : w 193 50 = -1) (hm : s 12 2 ≤ 999999900) (hQ : ∀ w2, MB w w2 → (∀ j, j < 143 → w2 194 j = w 194 j) → Q (some (xi (oMild t s n))) g w2) : cal (d + 6) nMo_mildest [xr 193, xi n] g w Q := by
  refine eMo_mildest fun lim Q2 h2 => wMo_mildest_0 ?_
  have hQ := fun w2 a b => h2 _ g w2 rfl (hQ w2 a b)
  unfold oMild at hQ
  refine mo_in ⟨_, rfl, fun b => ?_, fun b => ?_⟩
  · have b := ifv.2 b
    rw [if_pos b] at hQ
    obtain ⟨N, hN⟩ := z_nn (x := n) (by omega)
    subst hN
    rw [Int.toNat_natCast] at hQ
    exact mo_mild1 hM hl hs li si hn (by omega) (by omega) 3 1 0 w rfl (by decide) MB.refl (fun _ _ => rfl) hQ
  · rw [if_neg (ifv.1 b)] at hQ; exact hQ w MB.refl fun _ _ => rfl
end CNA
