/-! ===== commands told and gain ===== -/
def oWalls (s : zS) : Int := zsm (s 1) 20 + zsm (s 2) 20
def oTold (t s P D : zS) (len q : Int) : Int := if q = 0 then t 0 0 else if q = 1 then t 0 1 else if q = 2 then oWalls s else if q = 3 then t 0 2 else if q = 4 then t 0 3 else if q = 5 then t 0 4 else if q = 6 then t 0 5 else if q = 7 then len else if q = 8 then s 12 2 else if q = 9 then s 12 0 else if q = 10 then s 12 1 else if q = 11 then sunv t (s 12 2) else if q = 12 then s 12 4 else if q = 13 then P 0 0 else if q = 14 then D 0 0 else -1000000002
def gnO (t s : zS) (p : Int) (c d n : Nat) (v : Int) : Int := cnO (steps t (-1) n (bld s d c v)) p (nC t)
def oGain (t s : zS) (p x y v n : Int) : Int := if 0 ≤ p ∧ p < t 0 5 then (if oRW t x y v = 0 then (if 1 ≤ n ∧ n ≤ 60 then gnO t s p (cAt t x y).toNat v.toNat n.toNat 1 - gnO t s p (cAt t x y).toNat v.toNat n.toNat 0 else -1000000002) else oRW t x y v) else -1000000001
theorem zsm_add {f h : Nat → Int} : ∀ n, zsm (fun i => f i + h i) n = zsm f n + zsm h n
  | 0 => rfl
  | n + 1 => by unfold zsm; rw [zsm_add n]; omega
theorem zsm_cg {f h : Nat → Int} : ∀ n, (∀ i, i < n → f i = h i) → zsm f n = zsm h n
  | 0, _ => rfl
  | n + 1, e => by unfold zsm; rw [zsm_cg n fun i hi => e i (by omega), e n (by omega)]
theorem zsm_z {f : Nat → Int} {n : Nat} (h : ∀ i, n ≤ i → f i = 0) : ∀ m, zsm f (n + m) = zsm f n
  | 0 => rfl
  | m + 1 => by
    show zsm f ((n + m) + 1) = _
    unfold zsm
    rw [h (n + m) (by omega), zsm_z h m]; cases n <;> simp [zsm]
theorem cnO_bb {s : zS} {p : Int} : ∀ n : Nat, 0 ≤ cnO s p n ∧ cnO s p n ≤ n
  | 0 => by unfold cnO; omega
  | n + 1 => by
    have ih := cnO_bb (s := s) (p := p) n
    unfold cnO
    split <;> omega
section CMX
variable {g : xG} {w w0 : xW} {t s P D : zS} {d : Nat} {Q : xQ} {lim : Nat × Nat} {kl kn kl2 kn2 k kt : Nat} {x y v p n q len : Int}
theorem cl_walls1 (hS : SG g k) (hT : TG g kt) (hl : RCl t kt w) (hs : RCs t s k w) (li : LInv t) (si : SInv t s) (hQ : Q (some (xi (zsm (fun c => bw1 t s c 2 + bw1 t s c 3) (nC t)))) g w) : ∀ (n i : Nat), i + n = nC t → aSt_countWalls (d + 2) lim Q 4 [xr k, xr kt, xi (zsm (fun c => bw1 t s c 2 + bw1 t s c 3) i), xi i] [] g w
  | 0, i, hi => by
    have hi : i = nC t := by omega
    subst hi
    refine wSt_countWalls_4 ?_
    simp only [s_o hS, t_o hT, true_and]
    exact cl_cells hT hl li ⟨_, rfl, fun _ => hQ, fun h => by omega⟩
  | n + 1, i, hi => by
    obtain ⟨n1, n2, -⟩ := li_n li
    have hb : ∀ c : Nat, 0 ≤ bw1 t s c 2 + bw1 t s c 3 ∧ bw1 t s c 2 + bw1 t s c 3 ≤ 2 := fun c => by
      have a := bw1_01 si c 2
      have b := bw1_01 si c 3
      omega
    have hz := zsm_b (f := fun c => bw1 t s c 2 + bw1 t s c 3) (b := 2) i fun j _ => hb j
    have hbi := hb i
    refine wSt_countWalls_4 ?_
    simp only [s_o hS, t_o hT, true_and]
    refine cl_cells hT hl li ⟨_, rfl, fun h => by omega, fun _ => ?_⟩
    simp only [s_o hS, true_and]
    refine cl_wallOf hS hs li si (by omega) (Or.inl rfl) ⟨_, rfl, s_o hS, cl_wallOf hS hs li si (by omega) (Or.inr rfl) ⟨_, rfl, ?_⟩⟩
    have e2 : bw1 t s i (2 + 0) = bw1 t s i 2 := rfl
    have e3 : bw1 t s i (2 + 1) = bw1 t s i 3 := rfl
    rw [e2, e3]
    refine ⟨by constructor <;> omega, by constructor <;> omega, by constructor <;> omega, ?_⟩
    rw [show ((i : Int) + 1) = ((i + 1 : Nat) : Int) by omega]
    exact cl_walls1 hS hT hl hs li si hQ n (i + 1) (by omega)
theorem walls_eq (li : LInv t) (si : SInv t s) (wi : WInv t s) : zsm (fun c => bw1 t s c 2 + bw1 t s c 3) (nC t) = oWalls s := by
  obtain ⟨n1, n2, -⟩ := li_n li
  unfold oWalls
  have e1 : zsm (s 1) 20 = zsm (s 1) (nC t) := by
    have := zsm_z (f := s 1) (n := nC t) (fun i hi => (si.2.2.1 i hi).1) (20 - nC t)
    rw [← this, show nC t + (20 - nC t) = 20 by omega]
  have e2 : zsm (s 2) 20 = zsm (s 2) (nC t) := by
    have := zsm_z (f := s 2) (n := nC t) (fun i hi => (si.2.2.1 i hi).2) (20 - nC t)
    rw [← this, show nC t + (20 - nC t) = 20 by omega]
  rw [e1, e2, ← zsm_add]
  refine zsm_cg _ fun c hc => ?_
  have wc := wi c hc
  have a : bw1 t s c 2 = s 1 c := by
    by_cases z : nbr t c 2 = -1
    · unfold bw1; rw [if_pos z, wc.1 z]
    · exact bw1_row (v := 0) z (Or.inl rfl)
  have b : bw1 t s c 3 = s 2 c := by
    by_cases z : nbr t c 3 = -1
    · unfold bw1; rw [if_pos z, wc.2 z]
    · exact bw1_row (v := 1) z (Or.inr rfl)
  rw [a, b]
theorem cl_countWalls (hS : SG g k) (hT : TG g kt) (hl : RCl t kt w) (hs : RCs t s k w) (li : LInv t) (si : SInv t s) (wi : WInv t s) (hQ : Q (some (xi (oWalls s))) g w) : cal (d + 3) nSt_countWalls [xr k, xr kt] g w Q := by
  refine eSt_countWalls fun lim Q2 h2 => wSt_countWalls_0 ?_
  exact cl_walls1 hS hT hl hs li si (by rw [walls_eq li si wi]; exact h2 _ _ _ rfl hQ) (nC t) 0 (by omega)
/-- the reference's forty places -/
def pl40 (s : zS) (i : Nat) : Int := if i < 20 then s 1 i else s 2 (i - 20)
theorem pl40_s : zsm (pl40 s) 40 = oWalls s := by
  have a : ∀ m, m ≤ 20 → zsm (pl40 s) m = zsm (s 1) m := fun m hm => zsm_cg m fun i hi => by unfold pl40; rw [if_pos (by omega)]
  have b : ∀ m, zsm (pl40 s) (20 + m) = zsm (s 1) 20 + zsm (s 2) m := by
    intro m
    induction m with
    | zero => rw [a 20 (by omega)]; simp [zsm]
    | succ m ih =>
      show zsm (pl40 s) ((20 + m) + 1) = _
      rw [zsm, ih]
      unfold pl40
      rw [if_neg (by omega), show 20 + m - 20 = m by omega]
      show _ = zsm (s 1) 20 + (zsm (s 2) m + s 2 m)
      omega
  exact b 20
theorem mo_walls1 (hM : MG g) (hs : RMs t s w) (si : SInv t s) (hQ : Q (some (xi (oWalls s))) g w) : ∀ (n i : Nat), i + n = 40 → aMo_wallsNow d lim Q 5 [xr 193, xi (zsm (pl40 s) i), xi ((20 + i : Nat) : Int)] [] g w
  | 0, i, hi => by
    have hi : i = 40 := by omega
    subst hi
    refine wMo_wallsNow_5 ?_
    simp only [m_o hM, true_and]
    refine ⟨fun _ => ?_, fun h => by omega⟩
    rw [pl40_s]; exact hQ
  | n + 1, i, hi => by
    have hb : ∀ c : Nat, 0 ≤ pl40 s c ∧ pl40 s c ≤ 1 := fun c => by
      unfold pl40
      have a := (si.2.1 c).1
      have b := (si.2.1 (c - 20)).2
      split <;> omega
    have hz := zsm_b (f := pl40 s) (b := 1) i fun j _ => hb j
    have hbi := hb i
    have e : w 194 (Int.toNat ((20 + i : Nat) : Int)) = pl40 s i := by
      rw [Int.toNat_natCast]
      unfold pl40
      by_cases z : i < 20
      · rw [if_pos z]; exact hs 1 i z
      · rw [if_neg z, show 20 + i = 40 + (i - 20) by omega]; exact hs 2 (i - 20) (show i - 20 < 20 by omega)
    refine wMo_wallsNow_5 ?_
    simp only [m_o hM, m_p0 hM, m_r0 hM, e, true_and]
    refine ⟨fun h => by omega, fun _ => ⟨by constructor <;> omega, by constructor <;> omega, by constructor <;> omega, ?_⟩⟩
    rw [show (((20 + i : Nat) : Int) + 1) = ((20 + (i + 1) : Nat) : Int) by omega]
    exact mo_walls1 hM hs si hQ n (i + 1) (by omega)
theorem mo_wallsNow (hM : MG g) (hs : RMs t s w) (si : SInv t s) (hQ : Q (some (xi (oWalls s))) g w) : cal (d + 1) nMo_wallsNow [xr 193] g w Q := by
  refine eMo_wallsNow fun lim Q2 h2 => wMo_wallsNow_0 ?_
  exact mo_walls1 hM hs si (h2 _ _ _ rfl hQ) 40 0 rfl
theorem cl_told (F : FG g kl kn kl2 kn2) (hl : RCl t kl w) (hs : RCs t s kn w) (li : LInv t) (si : SInv t s) (wi : WInv t s) (hP : RP P 5 w) (hD : RP D 9 w) (hlen : w 3 1 = len) (hQ : Q (some (xi (oTold t s P D len q))) g w) : cal (d + 4) nFf_told [xr 2, xi q] g w Q := by
  refine eFf_told fun lim Q2 h2 => wFf_told_0 ?_
  have hQ := h2 _ _ _ rfl hQ
  have hm0 := si.2.2.2.2.2.2.2.1
  have c0 : w kn 14 = s 12 0 := hs.1 12 0 (show 0 < 5 by decide) (by decide) (by decide)
  have c1 : w kn 15 = s 12 1 := hs.1 12 1 (show 1 < 5 by decide) (by decide) (by decide)
  have c2 : w kn 16 = s 12 2 := hs.1 12 2 (show 2 < 5 by decide) (by decide) (by decide)
  have c4 : w kn 13 = s 12 4 := hs.1 12 4 (show 4 < 5 by decide) (by decide) (by decide)
  have l0 : w kl 0 = t 0 0 := hl.1
  have l1 : w kl 1 = t 0 1 := hl.2.1
  have l2 : w kl 2 = t 0 2 := hl.2.2.1
  have l3 : w kl 3 = t 0 3 := hl.2.2.2.1
  have l4 : w kl 4 = t 0 4 := hl.2.2.2.2.1
  have l5 : w kl 5 = t 0 5 := hl.2.2.2.2.2.1
  have p0 : w 5 3 = P 0 0 := hP.1
  have d0 : w 9 3 = D 0 0 := hD.1
  simp only [f_o F, f_p9 F, f_p11 F, f_p0 F, f_p1 F, f_p2 F, t_o (f_tl F), s_o (f_sn F), p12_o (f_cs F), p8_o (f_ds F), r_o (f_rd F), c0, c1, c2, c4, l0, l1, l2, l3, l4, l5, p0, d0, hlen, true_and, and_true]
  refine ⟨fun z => qe hQ ?_, fun z => qe hQ ?_, fun z => qe hQ ?_, fun z => ?_, fun z => qe hQ ?_, fun z => qe hQ ?_, fun z => qe hQ ?_, fun z => qe hQ ?_, fun z => qe hQ ?_, fun z => qe hQ ?_, fun z => qe hQ ?_, fun z => qe hQ ?_, fun z => ?_, fun z => qe hQ ?_, fun z => qe hQ ?_, fun z => qe hQ ?_⟩
  · unfold oTold; repeat rw [if_neg (by omega)]
  · subst z; simp [oTold]
  · subst z; simp [oTold]
  · subst z
    exact cl_countWalls (f_sn F) (f_tl F) hl hs li si wi ⟨_, rfl, qe hQ (by simp [oTold])⟩
  · subst z; simp [oTold]
  · subst z; simp [oTold]
  · subst z; simp [oTold]
  · subst z; simp [oTold]
  · subst z; simp [oTold]
  · subst z; simp [oTold]
  · subst z; simp [oTold]
  · subst z; simp [oTold]
  · subst z
    exact cl_sunAt (f_tl F) hl li (by omega) ⟨_, rfl, qe hQ (by simp [oTold])⟩
  · subst z; simp [oTold]
  · subst z; simp [oTold]
  · subst z; simp [oTold]
theorem mo_told (hM : MG g) (hl : RMl t w) (hs : RMs t s w) (li : LInv t) (si : SInv t s) (hP : RQ P 16 204 w) (hD : RQ D 20 207 w) (hlen : w 193 25 = len) (hQ : Q (some (xi (oTold t s P D len q))) g w) : cal (d + 2) nMo_told [xr 193, xi q] g w Q := by
  refine eMo_told fun lim Q2 h2 => wMo_told_0 ?_
  have hQ := h2 _ _ _ rfl hQ
  have hm0 := si.2.2.2.2.2.2.2.1
  have c0 : w 194 (Int.toNat 138) = s 12 0 := hs 12 0 (show 0 < 5 by decide)
  have c1 : w 194 (Int.toNat 139) = s 12 1 := hs 12 1 (show 1 < 5 by decide)
  have c2 : w 194 (Int.toNat 140) = s 12 2 := hs 12 2 (show 2 < 5 by decide)
  have c4 : w 194 (Int.toNat 142) = s 12 4 := hs 12 4 (show 4 < 5 by decide)
  have l0 : w 193 4 = t 0 0 := hl.1
  have l1 : w 193 5 = t 0 1 := hl.2.1
  have l2 : w 193 8 = t 0 2 := hl.2.2.1
  have l3 : w 193 7 = t 0 3 := hl.2.2.2.1
  have l4 : w 193 11 = t 0 4 := hl.2.2.2.2.1
  have l5 : w 193 13 = t 0 5 := hl.2.2.2.2.2.1
  have p0 : w 193 16 = P 0 0 := hP.1
  have d0 : w 193 20 = D 0 0 := hD.1
  simp only [m_o hM, m_p0 hM, m_r0 hM, c0, c1, c2, c4, l0, l1, l2, l3, l4, l5, p0, d0, hlen, true_and, and_true]
  refine ⟨fun z => qe hQ ?_, fun z => qe hQ ?_, fun z => qe hQ ?_, fun z => ?_, fun z => qe hQ ?_, fun z => qe hQ ?_, fun z => qe hQ ?_, fun z => qe hQ ?_, fun z => qe hQ ?_, fun z => ⟨by decide, qe hQ ?_⟩, fun z => ⟨by decide, qe hQ ?_⟩, fun z => ⟨by decide, qe hQ ?_⟩, fun z => ⟨by decide, ?_⟩, fun z => ⟨by decide, qe hQ ?_⟩, fun z => qe hQ ?_, fun z => qe hQ ?_⟩
  · unfold oTold; repeat rw [if_neg (by omega)]
  · subst z; simp [oTold]
  · subst z; simp [oTold]
  · subst z
    exact mo_wallsNow hM hs si ⟨_, rfl, qe hQ (by simp [oTold])⟩
  · subst z; simp [oTold]
  · subst z; simp [oTold]
  · subst z; simp [oTold]
  · subst z; simp [oTold]
  · subst z; simp [oTold]
  · subst z; simp [oTold]
  · subst z; simp [oTold]
  · subst z; simp [oTold]
  · subst z
    exact mo_sunAt hM hl li (by omega) ⟨_, rfl, qe hQ (by simp [oTold])⟩
  · subst z; simp [oTold]
  · subst z; simp [oTold]
  · subst z; simp [oTold]
theorem bld_12 {D c : Nat} (hD : D ≤ 1) {i : Nat} : bld s D c v 12 i = s 12 i := bld_n (by omega)
theorem cl_owW {N : Nat} (F : FG g kl kn kl2 kn2) (hl : RCl t kl w) (hs : RCs t s kn w) (li : LInv t) (si : SInv t s) (hm : s 12 2 + N ≤ 1000000000) {c : Int} (hc : 0 ≤ c ∧ c < nC t) (hv : v = 0 ∨ v = 1) (hn : nbr t c (2 + v) ≠ -1) {e : Int} (he : e = 0 ∨ e = 1) (hQ : ∀ w2, CF 15 w w2 → Q (some (xi (gnO t s p c.toNat v.toNat N e))) g w2) : cal (d + 6) nFf_ownedWithWall [xr 2, xi p, xi c, xi v, xi N, xi e] g w Q := by
  refine eFf_ownedWithWall fun lim Q2 h2 => wFf_ownedWithWall_0 ?_
  have hQ := fun w2 a => h2 _ g w2 rfl (hQ w2 a)
  have hkl := f_hl F
  have hkn := f_hn F
  have e1 : (if e = 0 then (0 : Int) else 1) = e := by split <;> omega
  simp only [f_o F, f_p5 F, f_p11 F, s_o (f_tr F), true_and]
  refine cl_copy (f_tr F) (f_sn F) (by omega) hs li fun w2 f2 s2 => ⟨rfl, ?_⟩
  simp only [f_o F, f_p5 F, f_p9 F, s_o (f_tr F), true_and]
  refine cl_setWall (e := e) (f_tr F) (f_tl F) (hl.fr f2 (by omega)) s2 li si hc hv hn fun w3 f3 s3 => ⟨rfl, ?_⟩
  rw [e1] at s3
  have f23 := f2.trans f3
  simp only [f_o F, f_p5 F, f_p9 F, s_o (f_tr F), true_and]
  refine cl_passMinutes (f_tr F) (f_tl F) (by omega) (hl.fr f23 (by omega)) s3 li (si_bld si (by omega) (by omega) he) (by rw [bld_12 (by omega)]; exact hm) fun w4 f4 s4 => ⟨rfl, ?_⟩
  have f24 := f23.trans f4
  simp only [f_o F, f_p5 F, f_p9 F, s_o (f_tr F), true_and]
  exact cl_owned (f_tr F) (f_tl F) (hl.fr f24 (by omega)) s4 li ⟨_, rfl, hQ w4 f24⟩
theorem cl_gain (F : FG g kl kn kl2 kn2) (hl : RCl t kl w) (hs : RCs t s kn w) (li : LInv t) (si : SInv t s) (hm : s 12 2 ≤ 999999900) (hQ : ∀ w2, CF 15 w w2 → Q (some (xi (oGain t s p x y v n))) g w2) : cal (d + 7) nFf_gain [xr 2, xi p, xi x, xi y, xi v, xi n] g w Q := by
  refine eFf_gain fun lim Q2 h2 => wFf_gain_0 ?_
  have hQ := fun w2 a => h2 _ g w2 rfl (hQ w2 a)
  have hkl := f_hl F
  have hkn := f_hn F
  unfold oGain at hQ
  simp only [f_o F, true_and]
  refine cl_isPerson F hl ⟨_, rfl, fun a => ?_, fun a => ?_⟩
  · rw [if_pos (ifv.2 a)] at hQ
    simp only [f_o F, true_and]
    refine cl_refW F hl li ⟨_, rfl, fun b => ?_, fun b => ?_⟩
    · rw [if_pos b] at hQ
      obtain ⟨b1, b2, b3⟩ := oRW_0 li b
      refine cl_isSpan ⟨_, rfl, fun e => ?_, fun e => ?_⟩
      · have e := ifv.2 e
        rw [if_pos e] at hQ
        simp only [f_o F, f_p9 F, t_o (f_tl F), true_and]
        obtain ⟨N, hN⟩ := z_nn (x := n) (by omega)
        subst hN
        rw [Int.toNat_natCast] at hQ
        refine cl_cellAt (f_tl F) hl li ⟨_, rfl, ?_⟩
        simp only [f_o F, true_and]
        refine cl_owW F hl hs li si (by omega) b1 b2 b3 (Or.inr rfl) fun w2 f2 => ⟨_, rfl, f_o F, ?_⟩
        refine cl_owW F (hl.fr f2 (by omega)) (hs.cf li f2 (by omega)) li si (by omega) b1 b2 b3 (Or.inl rfl) fun w3 f3 => ⟨_, rfl, ?_, hQ w3 (f2.trans f3)⟩
        obtain ⟨n1, n2, -⟩ := li_n li
        unfold gnO
        have q1 := cnO_bb (s := steps t (-1) N (bld s v.toNat (cAt t x y).toNat 1)) (p := p) (nC t)
        have q0 := cnO_bb (s := steps t (-1) N (bld s v.toNat (cAt t x y).toNat 0)) (p := p) (nC t)
        constructor <;> omega
      · rw [if_neg (ifv.1 e)] at hQ; exact hQ w CF.refl
    · rw [if_neg b] at hQ; exact hQ w CF.refl
  · rw [if_neg (ifv.1 a)] at hQ; exact hQ w CF.refl
theorem oRW_v (h : oRW t x y v ≠ -1000000001) (h0 : oRW t x y v ≠ 0) : oRW t x y v = -1000000002 := by
  unfold oRW at h h0 ⊢
  by_cases a : cAt t x y = -1
  · rw [if_pos a] at h; exact absurd rfl h
  · rw [if_neg a] at h h0 ⊢
    by_cases b : 0 ≤ v ∧ v ≤ 1
    · rw [if_pos b] at h h0
      by_cases c : nbr t (cAt t x y) (2 + v) = -1
      · rw [if_pos c] at h; exact absurd rfl h
      · rw [if_neg c] at h0; exact absurd rfl h0
    · rw [if_neg b]
theorem mo_gain (hM : MG g) (hl : RMl t w) (hs : RMs t s w) (li : LInv t) (si : SInv t s) (hn : w 193 50 = -1) (hm : s 12 2 ≤ 999999900) (hQ : ∀ w2, MB w w2 → (∀ j, j < 143 → w2 194 j = w 194 j) → Q (some (xi (oGain t s p x y v n))) g w2) : cal (d + 6) nMo_gain [xr 193, xi p, xi x, xi y, xi v, xi n] g w Q := by
  refine eMo_gain fun lim Q2 h2 => wMo_gain_0 ?_
  have hQ := fun w2 a b => h2 _ g w2 rfl (hQ w2 a b)
  have ew : w 193 4 = t 0 0 := hl.1
  have same := hQ w MB.refl fun _ _ => rfl
  unfold oGain at hQ same
  simp only [m_o hM, true_and]
  refine mo_notWall hM hl li ⟨_, rfl, ?_⟩
  simp only [m_o hM, true_and]
  refine mo_isPerson hM hl li ⟨_, rfl, fun a => ?_, fun a => ⟨fun b => ⟨fun b2 => ?_, fun b2 => mo_in ⟨_, rfl, fun e => ?_, fun e => ?_⟩⟩, fun b => ?_⟩⟩
  · rw [if_neg (ifv.1 a)] at same; exact same
  · rw [if_pos (ifv.2 a), if_neg b2, oRW_v b b2] at same; exact same
  · have e := ifv.2 e
    rw [if_pos (ifv.2 a), if_pos b2, if_pos e] at hQ
    obtain ⟨b1, b2, b3⟩ := oRW_0 li b2
    obtain ⟨c1, c2⟩ := cAt_xy (t := t) (x := x) (y := y) (by omega)
    have hb := cAt_b li c1
    obtain ⟨n1, n2, -⟩ := li_n li
    obtain ⟨N, hN⟩ := z_nn (x := n) (by omega)
    subst hN
    rw [Int.toNat_natCast] at hQ
    simp only [m_o hM, ew, Int.mul_comm (t 0 0) y, true_and]
    refine ⟨by constructor <;> omega, by constructor <;> omega, by constructor <;> omega, by constructor <;> omega, by constructor <;> omega, mo_start hM fun w1 f1 v1 => ⟨rfl, ?_⟩⟩
    simp only [m_o hM, m_p0 hM, m_a0 hM, true_and]
    refine ⟨by constructor <;> omega, ?_⟩
    have m1 : MB w w1 := fun a j _ p _ _ _ => f1 a j p
    have fin : ∀ (u : Int) (w5 : xW), RMs t s w5 → RMs t (bld s v.toNat (cAt t x y).toNat u) (xup w5 194 (Int.toNat (20 + 20 * v + y * t 0 0 + x)) u) := fun u w5 hs5 => by
      unfold bld
      rcases b2 with q | q <;> subst q
      · exact hs5.put li (r := 1) (i := (cAt t x y).toNat) (show _ < 20 by omega) (by show _ = 20 + (cAt t x y).toNat; omega)
      · exact hs5.put li (r := 2) (i := (cAt t x y).toNat) (show _ < 20 by omega) (by show _ = 40 + (cAt t x y).toNat; omega)
    have s1 : RMs t s w1 := fun r i h => by rw [f1 194 _ (by decide)]; exact hs r i h
    have p1 := fin 1 w1 s1
    have g1 : MF w1 (xup w1 194 (Int.toNat (20 + 20 * v + y * t 0 0 + x)) 1) := fun a j p _ _ => xup_a p
    have k1 : w1 193 50 = -1 := by rw [f1 193 50 (by decide)]; exact hn
    refine wMo_gain_80 ?_
    simp only [m_o hM, true_and]
    have l1 := hl.mb m1
    refine mo_goMinutes (numb := -1) hM (l1.fr g1) p1 li (si_bld si (by omega) (by omega) (Or.inr rfl)) (by rw [g1 193 50 (by decide) (by decide) (fun _ => by decide)]; exact k1) (by rw [bld_12 (by omega)]; omega) (by omega) fun w2 f2 s2 => ⟨rfl, ?_⟩
    have f12 := g1.trans f2
    simp only [m_o hM, true_and]
    refine mo_owns hM (l1.fr f12) s2 li ⟨_, rfl, ?_⟩
    simp only [m_o hM, true_and]
    refine mo_back hM fun w3 f3 v3 => ⟨rfl, ?_⟩
    have m3 : MB w1 w3 := f12.mb.trans fun a j p _ _ _ _ => f3 a j p
    have e197 : ∀ j, w3 197 j = w1 197 j := fun j => (f3 197 j (by decide)).trans (f12 197 j (by decide) (by decide) (fun z => absurd z (by decide)))
    have s3 : RMs t s w3 := fun r i h => by
      rw [v3 _ (act_off li h), ← f3 197 _ (by decide), e197, v1 _ (act_off li h)]; exact hs r i h
    simp only [m_o hM, m_p0 hM, m_a0 hM, true_and]
    have g3 : MF w3 (xup w3 194 (Int.toNat (20 + 20 * v + y * t 0 0 + x)) 0) := fun a j p _ _ => xup_a p
    have l3 := l1.mb m3
    refine ⟨by constructor <;> omega, mo_goMinutes (numb := -1) hM (l3.fr g3) (fin 0 w3 s3) li (si_bld si (by omega) (by omega) (Or.inl rfl)) (by rw [g3 193 50 (by decide) (by decide) (fun _ => by decide), m3 193 50 (by decide) (by decide) (by decide) (by decide) (by decide)]; exact k1) (by rw [bld_12 (by omega)]; omega) (by omega) fun w4 f4 s4 => ⟨rfl, ?_⟩⟩
    have f34 := g3.trans f4
    simp only [m_o hM, true_and]
    refine mo_owns hM (l3.fr f34) s4 li ⟨_, rfl, ?_⟩
    simp only [m_o hM, true_and]
    refine mo_back hM fun w5 f5 v5 => ⟨rfl, ?_, ?_⟩
    · have q1 := cnO_bb (s := steps t (-1) N (bld s v.toNat (cAt t x y).toNat 1)) (p := p) (nC t)
      have q0 := cnO_bb (s := steps t (-1) N (bld s v.toNat (cAt t x y).toNat 0)) (p := p) (nC t)
      constructor <;> omega
    · refine hQ w5 ((m1.trans m3).trans (f34.mb.trans fun a j p _ _ _ _ => f5 a j p)) fun j hj => ?_
      rw [v5 j hj, f34 197 j (by decide) (by decide) (fun z => absurd z (by decide)), e197, v1 j hj]
  · rw [if_pos (ifv.2 a), if_pos b2, if_neg (ifv.1 e)] at same; exact same
  · rw [if_pos (ifv.2 a), if_neg (by rw [b]; decide), b] at same; exact same
end CMX
