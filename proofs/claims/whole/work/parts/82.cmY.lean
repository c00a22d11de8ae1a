/-! ===== command drift ===== -/
def nsd (v : Int) : Int := (v * 1103515245 + 12345) % 2147483648
def sdr (s : zS) : zS := zset s 12 (zup (s 12) 3 (nsd (s 12 3)))
def dv (s : zS) (n : Int) : Int := nsd (s 12 3) / 65536 % n
/-- one who goes by a draw -/
def wn1 (t s : zS) (p : Nat) : zS := if wyy t (sdr s) (s 7 p) (dv s 5) = -1 then sdr s else zset (sdr s) 7 (zup (sdr s 7) p (wyy t (sdr s) (s 7 p) (dv s 5)))
def wnU (t s : zS) : Nat → zS
  | 0 => s
  | p + 1 => wn1 t (wnU t s p) p
/-- a stove that is lit by draws -/
def wnL (t s : zS) : zS := if dv s 20 = 0 ∧ 0 < t 0 2 then (if s 6 (dv (sdr s) (t 0 2)).toNat = 0 ∧ 0 < s 5 (dv (sdr s) (t 0 2)).toNat then lit (sdr (sdr s)) (dv (sdr s) (t 0 2)).toNat else sdr (sdr s)) else sdr s
def wnd (t s : zS) : zS := wnL t (wnU t s (nP t))
def dfs (t : zS) : Nat → zS → zS
  | 0, s => s
  | n + 1, s => step t (-1) (wnd t (dfs t n s))
def oDrift (t s : zS) (n : Int) : Int × zS := if 1 ≤ n ∧ n ≤ 60 then (if nC t ≠ 0 then (if s 12 2 ≤ 900000 then (s 12 2 + n, dfs t n.toNat s) else (-1000000004, s)) else (-1000000003, s)) else (-1000000002, s)
theorem xLand_m {z : Int} (h0 : 0 ≤ z) (h1 : z < 9223372036854775808) : xLand z 2147483647 = z % 2147483648 := by
  obtain ⟨n, rfl⟩ := z_nn h0
  unfold xLand
  have hb : (Int64.ofInt (n : Int) &&& Int64.ofInt 2147483647).toBitVec = BitVec.ofNat 64 (n % 2147483648) := by
    rw [Int64.toBitVec_and]
    apply BitVec.eq_of_toNat_eq
    rw [BitVec.toNat_and]
    have e1 : (Int64.ofInt (n : Int)).toBitVec = BitVec.ofNat 64 n := by
      show BitVec.ofInt 64 (n : Int) = _
      exact BitVec.ofInt_natCast 64 n
    have e2 : (Int64.ofInt 2147483647).toBitVec = BitVec.ofNat 64 2147483647 := by
      show BitVec.ofInt 64 ((2147483647 : Nat) : Int) = _
      exact BitVec.ofInt_natCast 64 _
    rw [e1, e2, BitVec.toNat_ofNat, BitVec.toNat_ofNat, BitVec.toNat_ofNat]
    rw [Nat.mod_eq_of_lt (show n < 2 ^ 64 by omega), Nat.mod_eq_of_lt (show 2147483647 < 2 ^ 64 by decide)]
    rw [Nat.mod_eq_of_lt (show n % 2147483648 < 2 ^ 64 by omega)]
    exact Nat.and_two_pow_sub_one_eq_mod n 31
  show (Int64.ofInt (n : Int) &&& Int64.ofInt 2147483647).toBitVec.toInt = _
  rw [hb, BitVec.toInt_eq_toNat_of_lt]
  · rw [BitVec.toNat_ofNat, Nat.mod_eq_of_lt (show n % 2147483648 < 2 ^ 64 by omega)]; omega
  · rw [BitVec.toNat_ofNat, Nat.mod_eq_of_lt (show n % 2147483648 < 2 ^ 64 by omega)]; omega
section CMY
variable {g : xG} {w w0 : xW} {t s : zS} {d : Nat} {Q : xQ} {lim : Nat × Nat} {kl kn kl2 kn2 k kt : Nat} {x y v n : Int}
theorem nsd_b : 0 ≤ nsd v ∧ nsd v ≤ 2147483647 := by unfold nsd; omega
theorem dv_b (hn : 1 ≤ n) : 0 ≤ dv s n ∧ dv s n < n := ⟨Int.emod_nonneg _ (by omega), Int.emod_lt_of_pos _ (by omega)⟩
theorem sdr_o {r i : Nat} (h : r ≠ 12) : sdr s r i = s r i := zset_n h
theorem sdr_12 {i : Nat} (h : i ≠ 3) : sdr s 12 i = s 12 i := by unfold sdr; rw [zset_s, zup_n h]
theorem si_sdr (si : SInv t s) : SInv t (sdr s) := si_12 si (Or.inr (Or.inr ⟨rfl, nsd_b⟩))
theorem cl_draw (hS : SG g k) (hs : RCs t s k w) (li : LInv t) (si : SInv t s) (hn : 1 ≤ n ∧ n ≤ 100) (hQ : ∀ w2, CF k w w2 → RCs t (sdr s) k w2 → Q (some (xi (dv s n))) g w2) : cal (d + 1) nSt_draw [xr k, xi n] g w Q := by
  refine eSt_draw fun lim Q2 h2 => wSt_draw_0 ?_
  have hQ := fun w2 a b => h2 _ g w2 rfl (hQ w2 a b)
  have h3 := si.2.2.2.2.2.2.2.2.1
  have c3 : w k 17 = s 12 3 := hs.1 12 3 (show 3 < 5 by decide) (by decide) (by decide)
  have hb := nsd_b (v := s 12 3)
  have el : xLand (s 12 3 * 1103515245 + 12345) 2147483647 = nsd (s 12 3) := xLand_m (by omega) (by omega)
  have hd := dv_b (s := s) (n := n) hn.1
  simp only [s_o hS, c3, el, xup_s, true_and]
  refine ⟨by constructor <;> omega, by constructor <;> omega, by constructor <;> omega, fun q => ?_, fun q => by omega⟩
  rw [Int.tdiv_eq_ediv_of_nonneg hb.1, Int.tmod_eq_emod_of_nonneg (by omega), Int.tdiv_eq_ediv_of_nonneg (by omega)]
  have g1 : 0 ≤ nsd (s 12 3) / 65536 / n := Int.ediv_nonneg (by omega) (by omega)
  have g2 : nsd (s 12 3) / 65536 / n ≤ nsd (s 12 3) / 65536 := Int.ediv_le_self _ (by omega)
  exact ⟨⟨by decide, by constructor <;> omega⟩, ⟨by omega, by constructor <;> omega⟩, hQ _ (CF.up (by omega) (by omega)) (hs.put li (r := 12) (i := 3) (show 3 < 5 by decide) (by decide) (by decide) rfl rfl)⟩
theorem mo_draw (hM : MG g) (hs : RMs t s w) (li : LInv t) (si : SInv t s) (hn : 1 ≤ n ∧ n ≤ 100) (hQ : ∀ w2, MF w w2 → RMs t (sdr s) w2 → Q (some (xi (dv s n))) g w2) : cal (d + 1) nMo_draw [xr 193, xi n] g w Q := by
  refine eMo_draw fun lim Q2 h2 => wMo_draw_0 ?_
  have hQ := fun w2 a b => h2 _ g w2 rfl (hQ w2 a b)
  have h3 := si.2.2.2.2.2.2.2.2.1
  have c3 : w 194 (Int.toNat 141) = s 12 3 := hs 12 3 (show 3 < 5 by decide)
  have hb := nsd_b (v := s 12 3)
  have el : Int.tmod (s 12 3 * 1103515245 + 12345) 2147483648 = nsd (s 12 3) := Int.tmod_eq_emod_of_nonneg (by omega)
  have hd := dv_b (s := s) (n := n) hn.1
  simp only [m_o hM, m_p0 hM, m_r0 hM, m_a0 hM, c3, el, xup_s, true_and]
  rw [Int.tdiv_eq_ediv_of_nonneg (show 0 ≤ s 12 3 * 1103515245 + 12345 by omega), Int.tdiv_eq_ediv_of_nonneg hb.1, Int.tmod_eq_emod_of_nonneg (by omega), Int.tdiv_eq_ediv_of_nonneg (by omega)]
  have g1 : 0 ≤ nsd (s 12 3) / 65536 / n := Int.ediv_nonneg (by omega) (by omega)
  have g2 : nsd (s 12 3) / 65536 / n ≤ nsd (s 12 3) / 65536 := Int.ediv_le_self _ (by omega)
  exact ⟨by decide, by constructor <;> omega, by constructor <;> omega, ⟨by decide, by constructor <;> omega⟩, by constructor <;> omega, by decide, by decide, ⟨by decide, by constructor <;> omega⟩, ⟨by omega, by constructor <;> omega⟩, hQ _ (fun a j p _ _ => xup_a p) (hs.put li (r := 12) (i := 3) (show 3 < 5 by decide) rfl)⟩
theorem si_wn1 (li : LInv t) (si : SInv t s) {p : Nat} (hp : p < nP t) : SInv t (wn1 t s p) := by
  unfold wn1
  by_cases z : wyy t (sdr s) (s 7 p) (dv s 5) = -1
  · rw [if_pos z]; exact si_sdr si
  · rw [if_neg z]
    exact si_7 (si_sdr si) ((wyy_in li (si.2.2.2.2.1 p hp).1 _).resolve_left z)
theorem si_wnU (li : LInv t) (si : SInv t s) : ∀ p, p ≤ nP t → SInv t (wnU t s p)
  | 0, _ => si
  | p + 1, h => si_wn1 li (si_wnU li si p (by omega)) (by omega)
theorem wn1_m {p : Nat} : wn1 t s p 12 2 = s 12 2 := by
  unfold wn1
  split
  · exact sdr_12 (by decide)
  · rw [zset_n (by decide)]; exact sdr_12 (by decide)
theorem wnU_m : ∀ p, wnU t s p 12 2 = s 12 2
  | 0 => rfl
  | p + 1 => by rw [wnU, wn1_m]; exact wnU_m p
theorem wnL_m : wnL t s 12 2 = s 12 2 := by
  unfold wnL
  split
  · split
    · unfold lit; rw [zset_n (by decide), sdr_12 (by decide), sdr_12 (by decide)]
    · rw [sdr_12 (by decide), sdr_12 (by decide)]
  · exact sdr_12 (by decide)
theorem si_wnL (si : SInv t s) : SInv t (wnL t s) := by
  unfold wnL
  split
  · split
    · refine si_lit (si_sdr (si_sdr si)) ?_
      rw [sdr_o (by decide), sdr_o (by decide)]; omega
    · exact si_sdr (si_sdr si)
  · exact si_sdr si
theorem si_wnd (li : LInv t) (si : SInv t s) : SInv t (wnd t s) := si_wnL (si_wnU li si _ (Nat.le_refl _))
theorem wnd_m : wnd t s 12 2 = s 12 2 := wnL_m.trans (wnU_m _)
theorem cl_wander1 (F : FG g kl kn kl2 kn2) (hl : RCl t kl w0) (li : LInv t) (si : SInv t s) (hQ : ∀ w2, CF kn w0 w2 → RCs t (wnd t s) kn w2 → Q none g w2) : ∀ (n i : Nat) (w : xW), i + n = nP t → CF kn w0 w → RCs t (wnU t s i) kn w → aFf_wander (d + 1) lim Q 2 [xr 2, xi i, none] [] g w
  | 0, i, w, hi, hf, hs => by
    have hi : i = nP t := by omega
    subst hi
    have hl2 := hl.fr hf (f_d F)
    obtain ⟨-, -, n3, n4, n5, n6⟩ := li_n li
    have e5 : w kl 5 = t 0 5 := hl2.2.2.2.2.2.1
    have sii := si_wnU li si (nP t) (Nat.le_refl _)
    refine wFf_wander_2 ?_
    simp only [f_o F, f_p9 F, f_p11 F, t_o (f_tl F), s_o (f_sn F), e5, true_and]
    refine ⟨fun _ => cl_draw (f_sn F) hs li sii (by decide) fun w2 f2 s2 => ⟨_, rfl, fun q => hQ w2 (hf.trans f2) ?_, fun q => ?_⟩, fun h => by omega⟩
    · unfold wnd wnL
      rw [if_neg (fun z => q z.1)]; exact s2
    · have f12 := hf.trans f2
      have hl3 := hl.fr f12 (f_d F)
      have e2 : w2 kl 2 = t 0 2 := hl3.2.2.1
      simp only [f_o F, f_p9 F, f_p11 F, t_o (f_tl F), s_o (f_sn F), e2, true_and]
      refine ⟨fun q2 => hQ w2 f12 ?_, fun q2 => cl_draw (f_sn F) s2 li (si_sdr sii) (by omega) fun w3 f3 s3 => ⟨_, rfl, ?_⟩⟩
      · unfold wnd wnL
        rw [if_neg (by omega)]; exact s2
      · have hd := dv_b (s := sdr (wnU t s (nP t))) (n := t 0 2) (by omega)
        simp only [f_o F, f_p11 F, s_o (f_sn F), true_and]
        have f13 := f12.trans f3
        refine cl_canBeLit (f_sn F) s3 li (by omega) ⟨_, rfl, fun z => ?_, fun z => ?_⟩
        · have z := ifv.1 z
          rw [sdr_o (by decide), sdr_o (by decide), sdr_o (by decide), sdr_o (by decide)] at z
          refine hQ w3 f13 ?_
          unfold wnd wnL
          rw [if_pos ⟨q, q2⟩, if_neg z]; exact s3
        · have z := ifv.2 z
          rw [sdr_o (by decide), sdr_o (by decide), sdr_o (by decide), sdr_o (by decide)] at z
          simp only [f_o F, f_p11 F, s_o (f_sn F), s_p6 (f_sn F), s_a6 (f_sn F), true_and]
          refine ⟨by constructor <;> omega, hQ _ (f13.trans (CF.up (by omega) (by omega))) ?_⟩
          unfold wnd wnL
          rw [if_pos ⟨q, q2⟩, if_pos z]
          exact s3.put li (r := 6) (i := (dv (sdr (wnU t s (nP t))) (t 0 2)).toNat) (show _ < nS t by omega) (by decide) (by decide) rfl rfl
  | n + 1, i, w, hi, hf, hs => by
    have hl2 := hl.fr hf (f_d F)
    obtain ⟨-, -, n3, n4, n5, n6⟩ := li_n li
    have e5 : w kl 5 = t 0 5 := hl2.2.2.2.2.2.1
    have sii := si_wnU li si i (by omega)
    have hin : i < nP t := by omega
    have h7 := (sii.2.2.2.2.1 i hin).1
    have e7 : w (kn + 8) (Int.toNat (i : Int)) = wnU t s i 7 i := by rw [Int.toNat_natCast]; exact hs.1 7 i hin (by decide) (by decide)
    refine wFf_wander_2 ?_
    simp only [f_o F, f_p9 F, f_p11 F, t_o (f_tl F), s_o (f_sn F), s_p7 (f_sn F), s_r7 (f_sn F), e5, e7, true_and]
    refine ⟨fun h => by omega, fun _ => ⟨by constructor <;> omega, cl_draw (f_sn F) hs li sii (by decide) fun w2 f2 s2 => ⟨_, rfl, s_o (f_sn F), ?_⟩⟩⟩
    have f12 := hf.trans f2
    have hd := dv_b (s := wnU t s i) (n := 5) (by decide)
    obtain ⟨C, hC⟩ := z_nn h7.1
    obtain ⟨E, hE⟩ := z_nn hd.1
    have ew : wyy t (sdr (wnU t s i)) C E = wyy t (sdr (wnU t s i)) (wnU t s i 7 i) (dv (wnU t s i) 5) := by rw [hC, hE]
    rw [hC, hE]
    refine cl_reach (f_sn F) (f_tl F) (hl.fr f12 (f_d F)) s2 li (si_sdr sii) (by omega) (by omega) ⟨_, rfl, fun z => ⟨by constructor <;> omega, ?_⟩, fun z => ?_⟩
    · rw [show ((i : Int) + 1) = ((i + 1 : Nat) : Int) by omega]
      refine cl_wander1 F hl li si hQ n (i + 1) w2 (by omega) f12 ?_
      rw [wnU, wn1, if_pos (ew ▸ z)]; exact s2
    · simp only [f_o F, f_p11 F, s_o (f_sn F), s_p7 (f_sn F), s_a7 (f_sn F), true_and]
      refine ⟨by constructor <;> omega, by constructor <;> omega, ?_⟩
      rw [show ((i : Int) + 1) = ((i + 1 : Nat) : Int) by omega]
      refine cl_wander1 F hl li si hQ n (i + 1) _ (by omega) (f12.trans (CF.up (by omega) (by omega))) ?_
      rw [wnU, wn1, if_neg (ew ▸ z), ← ew]
      exact s2.put li (r := 7) (i := i) hin (by decide) (by decide) rfl (Int.toNat_natCast i)
theorem cl_wander (F : FG g kl kn kl2 kn2) (hl : RCl t kl w) (hs : RCs t s kn w) (li : LInv t) (si : SInv t s) (hQ : ∀ w2, CF kn w w2 → RCs t (wnd t s) kn w2 → Q none g w2) : cal (d + 2) nFf_wander [xr 2] g w Q := by
  refine eFf_wander fun lim Q2 h2 => wFf_wander_0 ?_
  exact cl_wander1 F hl li si (fun w2 a b => h2 _ g w2 rfl (hQ w2 a b)) (nP t) 0 w (by omega) CF.refl hs
theorem dfs_m : ∀ n : Nat, dfs t n s 12 2 = s 12 2 + n
  | 0 => by simp [dfs]
  | n + 1 => by rw [dfs, step_m, wnd_m, dfs_m n]; omega
theorem si_dfs (li : LInv t) (si : SInv t s) : ∀ n : Nat, s 12 2 + n ≤ 1000000000 → SInv t (dfs t n s)
  | 0, _ => si
  | n + 1, h => by
    rw [dfs]
    refine si_step li (si_wnd li (si_dfs li si n (by omega))) _ ?_
    rw [wnd_m, dfs_m]; omega
theorem cl_drift1 (F : FG g kl kn kl2 kn2) (hl : RCl t kl w0) (li : LInv t) (si : SInv t s) {N : Nat} (hm : s 12 2 + N ≤ 1000000000) (hQ : ∀ w2, CF kn w0 w2 → RCs t (dfs t N s) kn w2 → Q (some (xi (s 12 2 + N))) g w2) : ∀ (n i : Nat) (w : xW), i + n = N → CF kn w0 w → RCs t (dfs t i s) kn w → aFf_drift (d + 4) lim Q 14 [xr 2, xi N, none, xi i] [] g w
  | 0, i, w, hi, hf, hs => by
    have hi : i = N := by omega
    subst hi
    have c2 : w kn 16 = s 12 2 + i := (show w kn 16 = dfs t i s 12 2 from hs.1 12 2 (show 2 < 5 by decide) (by decide) (by decide)).trans (dfs_m i)
    refine wFf_drift_14 ?_
    simp only [f_o F, f_p11 F, s_o (f_sn F), c2, true_and]
    exact ⟨fun _ => hQ w hf hs, fun h => by omega⟩
  | n + 1, i, w, hi, hf, hs => by
    have hm0 := si.2.2.2.2.2.2.2.1
    have sii := si_dfs li si i (by omega)
    have em := dfs_m (t := t) (s := s) i
    refine wFf_drift_14 ?_
    simp only [f_o F, true_and]
    refine ⟨fun h => by omega, fun _ => cl_wander F (hl.fr hf (f_d F)) hs li sii fun w2 f2 s2 => ⟨rfl, ?_⟩⟩
    simp only [f_o F, f_p9 F, f_p11 F, s_o (f_sn F), true_and]
    have f12 := hf.trans f2
    refine cl_passMinute (f_sn F) (f_tl F) (f_d F) (hl.fr f12 (f_d F)) s2 li (si_wnd li sii) (by rw [wnd_m]; omega) fun w3 f3 s3 => ⟨rfl, by constructor <;> omega, ?_⟩
    rw [show ((i : Int) + 1) = ((i + 1 : Nat) : Int) by omega]
    exact cl_drift1 F hl li si hm hQ n (i + 1) w3 (by omega) (f12.trans f3) s3
theorem drf_cases (v : Int) : (if 1 ≤ v ∧ v ≤ 60 then (if nC t ≠ 0 then (if s 12 2 ≤ 900000 then (0 : Int) else -1000000004) else -1000000003) else -1000000002) = 0 ∧ ((1 ≤ v ∧ v ≤ 60) ∧ nC t ≠ 0 ∧ s 12 2 ≤ 900000) ∧ oDrift t s v = (s 12 2 + v, dfs t v.toNat s) ∨ (if 1 ≤ v ∧ v ≤ 60 then (if nC t ≠ 0 then (if s 12 2 ≤ 900000 then (0 : Int) else -1000000004) else -1000000003) else -1000000002) ≠ 0 ∧ oDrift t s v = ((if 1 ≤ v ∧ v ≤ 60 then (if nC t ≠ 0 then (if s 12 2 ≤ 900000 then (0 : Int) else -1000000004) else -1000000003) else -1000000002), s) := by
  unfold oDrift
  by_cases a : 1 ≤ v ∧ v ≤ 60
  · rw [if_pos a, if_pos a]
    by_cases b : nC t ≠ 0
    · rw [if_pos b, if_pos b]
      by_cases c : s 12 2 ≤ 900000
      · rw [if_pos c, if_pos c]; exact Or.inl ⟨rfl, ⟨a, b, c⟩, rfl⟩
      · rw [if_neg c, if_neg c]; exact Or.inr ⟨by decide, rfl⟩
    · rw [if_neg b, if_neg b]; exact Or.inr ⟨by decide, rfl⟩
  · rw [if_neg a, if_neg a]; exact Or.inr ⟨by decide, rfl⟩
theorem cl_drift (F : FG g kl kn kl2 kn2) (hl : RCl t kl w) (hs : RCs t s kn w) (li : LInv t) (si : SInv t s) (hQ : ∀ w2, CF kn w w2 → RCs t (oDrift t s v).2 kn w2 → Q (some (xi (oDrift t s v).1)) g w2) : cal (d + 5) nFf_drift [xr 2, xi v] g w Q := by
  refine eFf_drift fun lim Q2 h2 => wFf_drift_0 ?_
  have hQ := fun w2 a b => h2 _ g w2 rfl (hQ w2 a b)
  have hm0 := si.2.2.2.2.2.2.2.1
  simp only [f_o F, true_and]
  refine cl_refMin F hl hs li ⟨_, rfl, fun q => ?_, fun q => ?_⟩
  · rcases drf_cases (t := t) (s := s) v with ⟨-, a, b⟩ | ⟨a, -⟩
    · rw [b] at hQ
      obtain ⟨m, hm⟩ := z_nn (x := v) (by omega)
      subst hm
      exact cl_drift1 F hl li si (by omega) hQ m 0 w (by omega) CF.refl hs
    · exact absurd q a
  · rcases drf_cases (t := t) (s := s) v with ⟨a, -⟩ | ⟨-, b⟩
    · exact absurd a q
    · rw [b] at hQ; exact hQ w CF.refl hs
theorem mo_done1 (hM : MG g) (hl : RMl t w0) (li : LInv t) (si : SInv t s) (hn : w0 193 50 = -1) (hm : s 12 2 < 1000000000) (hQ : ∀ w2, MF w0 w2 → RMs t (step t (-1) (wnd t s)) w2 → Q none g w2) : ∀ (n i : Nat) (w : xW), i + n = nP t → MF w0 w → RMs t (wnU t s i) w → aMo_driftOne (d + 4) lim Q 2 [xr 193, xi i, none] [] g w
  | 0, i, w, hi, hf, hs => by
    have hi : i = nP t := by omega
    subst hi
    have hl2 := hl.fr hf
    obtain ⟨-, -, n3, n4, n5, n6⟩ := li_n li
    have e5 : w 193 13 = t 0 5 := hl2.2.2.2.2.2.1
    have sii := si_wnU li si (nP t) (Nat.le_refl _)
    have siw := si_wnd li si
    have fin : ∀ w2, MF w0 w2 → RMs t (wnd t s) w2 → aMo_driftOne (d + 4) lim Q 117 [xr 193, none, none] [] g w2 := fun w2 f2 s2 => by
      refine wMo_driftOne_117 ?_
      simp only [m_o hM, true_and]
      exact mo_goMinute (numb := -1) hM (hl.fr f2) s2 li siw (by rw [wnd_m]; exact hm) (by rw [f2 193 50 (by decide) (by decide) (fun _ => by decide)]; exact hn) fun w3 f3 s3 _ => ⟨rfl, hQ w3 (f2.trans f3) s3⟩
    refine wMo_driftOne_2 ?_
    simp only [m_o hM, e5, true_and]
    refine ⟨fun _ => mo_draw hM hs li sii (by decide) fun w2 f2 s2 => ⟨_, rfl, fun q => fin w2 (hf.trans f2) ?_, fun q => ?_⟩, fun h => by omega⟩
    · unfold wnd wnL
      rw [if_neg (fun z => q z.1)]; exact s2
    · have f12 := hf.trans f2
      have hl3 := hl.fr f12
      have e2 : w2 193 8 = t 0 2 := hl3.2.2.1
      simp only [m_o hM, e2, true_and]
      refine ⟨fun q2 => fin w2 f12 ?_, fun q2 => mo_draw hM s2 li (si_sdr sii) (by omega) fun w3 f3 s3 => ⟨_, rfl, ?_⟩⟩
      · unfold wnd wnL
        rw [if_neg (by omega)]; exact s2
      · have hd := dv_b (s := sdr (wnU t s (nP t))) (n := t 0 2) (by omega)
        have f13 := f12.trans f3
        simp only [m_o hM, m_p0 hM, true_and]
        refine ⟨by constructor <;> omega, mo_canBeLit hM s3 li (by omega) ⟨_, rfl, fun z => ?_, fun z => ?_⟩⟩
        · have z := ifv.1 z
          rw [sdr_o (by decide), sdr_o (by decide), sdr_o (by decide), sdr_o (by decide)] at z
          simp only [m_o hM, m_p0 hM, m_r0 hM, m_a0 hM, true_and]
          refine ⟨by constructor <;> omega, by constructor <;> omega, by constructor <;> omega, ?_⟩
          rw [xup_id]
          refine fin w3 f13 ?_
          unfold wnd wnL
          rw [if_pos ⟨q, q2⟩, if_neg z]; exact s3
        · have z := ifv.2 z
          rw [sdr_o (by decide), sdr_o (by decide), sdr_o (by decide), sdr_o (by decide)] at z
          simp only [m_o hM, m_p0 hM, m_a0 hM, true_and]
          refine ⟨by constructor <;> omega, fin _ (f13.trans fun a j p _ _ => xup_a p) ?_⟩
          unfold wnd wnL
          rw [if_pos ⟨q, q2⟩, if_pos z]
          exact s3.put li (r := 6) (i := (dv (sdr (wnU t s (nP t))) (t 0 2)).toNat) (show _ < nS t by omega) (by show _ = 104 + _; omega)
  | n + 1, i, w, hi, hf, hs => by
    have hl2 := hl.fr hf
    obtain ⟨-, -, n3, n4, n5, n6⟩ := li_n li
    have e5 : w 193 13 = t 0 5 := hl2.2.2.2.2.2.1
    have sii := si_wnU li si i (by omega)
    have hin : i < nP t := by omega
    have h7 := (sii.2.2.2.2.1 i hin).1
    have e7 : w 194 (Int.toNat (108 + (i : Int))) = wnU t s i 7 i := by rw [show Int.toNat (108 + (i : Int)) = 108 + i by omega]; exact hs 7 i hin
    refine wMo_driftOne_2 ?_
    simp only [m_o hM, m_p0 hM, m_r0 hM, e5, e7, true_and]
    refine ⟨fun h => by omega, fun _ => ⟨by constructor <;> omega, by constructor <;> omega, mo_draw hM hs li sii (by decide) fun w2 f2 s2 => ⟨_, rfl, ?_⟩⟩⟩
    have f12 := hf.trans f2
    simp only [m_o hM, true_and]
    refine mo_way hM (hl.fr f12) s2 li h7 ⟨_, rfl, m_o hM, by constructor <;> omega, fun z => ?_, fun z => ?_⟩
    · simp only [m_o hM, m_p0 hM, m_a0 hM, true_and]
      refine ⟨by constructor <;> omega, by constructor <;> omega, ?_⟩
      rw [show ((i : Int) + 1) = ((i + 1 : Nat) : Int) by omega]
      refine mo_done1 hM hl li si hn hm hQ n (i + 1) _ (by omega) (f12.trans fun a j p _ _ => xup_a p) ?_
      rw [wnU, wn1, if_neg z]
      exact s2.put li (r := 7) (i := i) hin (by show _ = 108 + _; omega)
    · simp only [m_o hM, m_p0 hM, m_r0 hM, m_a0 hM, true_and]
      refine ⟨by constructor <;> omega, by constructor <;> omega, by constructor <;> omega, by constructor <;> omega, ?_⟩
      rw [show ((i : Int) + 1) = ((i + 1 : Nat) : Int) by omega, xup_id]
      refine mo_done1 hM hl li si hn hm hQ n (i + 1) _ (by omega) f12 ?_
      rw [wnU, wn1, if_pos z]; exact s2
theorem mo_drift1 (hM : MG g) (hl : RMl t w0) (li : LInv t) (si : SInv t s) (hn : w0 193 50 = -1) {N : Nat} (hm : s 12 2 + N ≤ 1000000000) (hN : N ≤ 1000) (hQ : ∀ w2, MF w0 w2 → RMs t (dfs t N s) w2 → Q (some (xi (s 12 2 + N))) g w2) : ∀ (n i : Nat) (w : xW), i + n = N → MF w0 w → RMs t (dfs t i s) w → aMo_drift (d + 5) lim Q 14 [xr 193, xi N, none, xi i] [] g w
  | 0, i, w, hi, hf, hs => by
    have hi : i = N := by omega
    subst hi
    have c2 : w 194 (Int.toNat 140) = s 12 2 + i := (show w 194 (Int.toNat 140) = dfs t i s 12 2 from hs 12 2 (show 2 < 5 by decide)).trans (dfs_m i)
    refine wMo_drift_14 ?_
    simp only [m_o hM, m_p0 hM, m_r0 hM, c2, true_and]
    exact ⟨fun _ => ⟨by decide, hQ w hf hs⟩, fun h => by omega⟩
  | n + 1, i, w, hi, hf, hs => by
    have hm0 := si.2.2.2.2.2.2.2.1
    have sii := si_dfs li si i (by omega)
    have em := dfs_m (t := t) (s := s) i
    refine wMo_drift_14 ?_
    simp only [m_o hM, true_and]
    refine ⟨fun h => by omega, fun _ => eMo_driftOne fun lim2 Q3 h3 => wMo_driftOne_0 ?_⟩
    refine mo_done1 hM (hl.fr hf) li sii (by rw [hf 193 50 (by decide) (by decide) (fun _ => by decide)]; exact hn) (by omega) (fun w2 f2 s2 => h3 _ _ _ rfl ⟨rfl, by constructor <;> omega, ?_⟩) (nP t) 0 w (by omega) (fun _ _ _ _ _ => rfl) hs
    rw [show ((i : Int) + 1) = ((i + 1 : Nat) : Int) by omega]
    exact mo_drift1 hM hl li si hn hm hN hQ n (i + 1) w2 (by omega) (hf.trans f2) s2
theorem mo_drift (hM : MG g) (hl : RMl t w) (hs : RMs t s w) (li : LInv t) (si : SInv t s) (hn : w 193 50 = -1) (hQ : ∀ w2, MF w w2 → RMs t (oDrift t s v).2 w2 → Q (some (xi (oDrift t s v).1)) g w2) : cal (d + 6) nMo_drift [xr 193, xi v] g w Q := by
  refine eMo_drift fun lim Q2 h2 => wMo_drift_0 ?_
  have hQ := fun w2 a b => h2 _ g w2 rfl (hQ w2 a b)
  have hm0 := si.2.2.2.2.2.2.2.1
  simp only [m_o hM, true_and]
  refine mo_notMin hM hl hs li ⟨_, rfl, fun q => ?_, fun q => ?_⟩
  · rcases drf_cases (t := t) (s := s) v with ⟨-, a, b⟩ | ⟨a, -⟩
    · rw [b] at hQ
      obtain ⟨m, hm⟩ := z_nn (x := v) (by omega)
      subst hm
      exact mo_drift1 hM hl li si hn (by omega) (by omega) hQ m 0 w (by omega) (fun _ _ _ _ _ => rfl) hs
    · exact absurd q a
  · rcases drf_cases (t := t) (s := s) v with ⟨a, -⟩ | ⟨-, b⟩
    · exact absurd a q
    · rw [b] at hQ; exact hQ w (fun _ _ _ _ _ => rfl) hs
theorem si_drift (li : LInv t) (si : SInv t s) : SInv t (oDrift t s v).2 := by
  have hm0 := si.2.2.2.2.2.2.2.1
  rcases drf_cases (t := t) (s := s) v with ⟨-, a, b⟩ | ⟨-, b⟩
  · rw [b]; exact si_dfs li si v.toNat (by omega)
  · rw [b]; exact si
theorem m_drift (hm : s 12 2 ≤ 900060) : (oDrift t s v).2 12 2 ≤ 900060 := by
  rcases drf_cases (t := t) (s := s) v with ⟨-, a, b⟩ | ⟨-, b⟩
  · rw [b]; show dfs t v.toNat s 12 2 ≤ 900060; rw [dfs_m]; omega
  · rw [b]; exact hm
end CMY
