/-! ===== the class reads clauses: roofs, suns, people; a whole text ===== -/
section TKH
variable {g : xG} {w w0 : xW} {T : zT} {L : Nat} {t s : zS} {d : Nat} {Q : xQ} {lim : Nat × Nat} {kl kn : Nat} {v wl : Int} {i : Nat}
theorem cl_rRoof (h : CC g kl kn T L t s v wl w i) (h0 : t 0 0 ≠ 0) (h3 : t 0 3 < 12) (hF : cFin (pRoof T L i t s wl) v kl kn w g Q) : cal (d + 4) nRd_readRoof [xr 3] g w Q := by
  obtain ⟨⟨R, h7, h8, hTG, hS, hk1, hk2⟩, hT, hx, hz, zi, hiL, hp⟩ := h
  have hk : 4 < kl ∧ 4 < kn := by omega
  refine eRd_readRoof fun lim Q2 h2 => wRd_readRoof_0 ?_
  have hF : cFin (pRoof T L i t s wl) v kl kn w g Q2 := fun w2 a b => h2 _ _ _ rfl (hF w2 a b)
  unfold pRoof at hF
  have li := zi.1
  have hl3 := li.2.2.1
  obtain ⟨n1, n2, n3, n4, n5, n6⟩ := li_n li
  simp only [R.1, true_and]
  refine cl_pcell R h7 hTG hT hx hk li h0 hz.1 hiL hp hF (fun c j a w1 hc b3 b4 f1 p1 q1 hF1 => ⟨_, rfl, fun _ => ?_, fun z => by omega⟩) (fun w1 hq => ⟨_, rfl, fun z => absurd rfl z, fun _ => ⟨Or.inl trivial, hq⟩⟩)
  have hz1 := hz.rn f1 hk
  have er : w1 (kl + 2) (Int.toNat (c : Int)) = t 1 c := by rw [Int.toNat_natCast]; exact (hz1.2.2.2.2.1 c (by omega)).1
  simp only [R.1, h7, t_o hTG, t_p7 hTG, t_r7 hTG, t_a7 hTG, er, true_and]
  refine ⟨by constructor <;> omega, fun z => ⟨by constructor <;> omega, ?_⟩, fun z => ?_⟩
  · rw [if_pos z] at hF1
    have e3 : xup w1 (kl + 2) (Int.toNat (c : Int)) 1 kl 3 = t 0 3 := by rw [xup_a (by omega)]; exact hz1.1.2.2.2.1
    refine wRd_readRoof_44 ?_
    simp only [R.1, h7, t_o hTG, e3, true_and]
    refine ⟨by constructor <;> omega, ?_⟩
    rw [Int.toNat_natCast]
    have e5 : ∀ a j, a ≠ kl + 2 → (a = kl → j ≠ 3) → xup (xup w1 (kl + 2) c 1) kl 3 (t 0 3 + 1) a j = w1 a j := fun a j p q => by
      by_cases y : a = kl
      · subst y; rw [xup_k (q rfl), xup_a p]
      · rw [xup_a y, xup_a p]
    have g3 : xup (xup w1 (kl + 2) c 1) kl 3 (t 0 3 + 1) kl 3 = t 0 3 + 1 := xup_s
    have g1 : ∀ i, i < 20 → xup (xup w1 (kl + 2) c 1) kl 3 (t 0 3 + 1) (kl + 2) i = rfT t c 1 i := fun i hi => by
      rw [rfT_1, xup_a (by omega)]
      by_cases y : i = c
      · subst y; rw [xup_s, zup_s]
      · rw [xup_k y, zup_n y]; exact (hz1.2.2.2.2.1 i hi).1
    generalize xup (xup w1 (kl + 2) c 1) kl 3 (t 0 3 + 1) = w2 at e5 g3 g1
    have z2 : ZC (rfT t c) s v wl kl kn w2 := zc_land hz1 li (by omega) (rfT_0 (by decide)) (rfT_0 (by decide)) (rfT_0 (by decide)) (rfT_0 (by decide)) (fun r i hr => rfT_n (by omega) (by omega)) (fun a j p _ r => e5 a j p fun y => (r y).1) (by rw [g3, rfT_3]) (by rw [e5 _ _ (by omega) (by omega), rfT_0 (by decide)]; exact hz1.1.2.2.2.2.1) g1 (fun i hi => by
      rw [rfT_0 (by decide)] at hi
      rw [e5 _ _ (by omega) (by omega), rfT_n (by decide) (by decide)]; exact hz1.1.2.2.2.2.2.2.2.2.1 i hi)
    have pf : PF kl kn w1 w2 := ⟨fun a j p q r => e5 a j (by omega) (by omega), e5 _ _ (by omega) (by omega)⟩
    exact cl_pend R hT ((hx.rn f1).e (fun j => e5 4 j (by omega) (by omega)) (e5 3 1 (by omega) (by omega))) hk b4 ((e5 3 2 (by omega) (by omega)).trans p1) z2 (hF1.mono pf) fun x w6 hx6 hq => ⟨_, rfl, hx6, hq⟩
  · rw [if_neg z] at hF1
    simp only [R.1, q1, true_and]
    exact cl_fail R fun w3 f3 k3 a3 => ⟨_, rfl, Or.inl rfl, hF1.fl (by decide) (f3.pf hk.2) k3 a3⟩
theorem pEnd_sk {t2 s2 : zS} {wl2 : Int} {j : Nat} (h : j ≤ L) : pEnd T L (sk T L j) t2 s2 wl2 = pEnd T L j t2 s2 wl2 := by unfold pEnd; rw [sk_sk h]
theorem cl_sun1 : ∀ (n h i : Nat) (t : zS) (w : xW), h + n = 7 → t 0 4 = h → CC g kl kn T L t s v wl w i → t 0 0 ≠ 0 → cFin (pSun T L s wl (n + 1) h i t) v kl kn w g Q → aRd_readSun (d + 3) lim Q 2 [xr 3, xi h, none] [] g w
  | n, h, i, t, w, hn, h4, hC, h0, hF => by
    obtain ⟨⟨R, h7, h8, hTG, hS, hk1, hk2⟩, hT, hx, hz, zi, hiL, hp⟩ := id hC
    have hk : 4 < kl ∧ 4 < kn := by omega
    unfold pSun at hF
    have li := zi.1
    refine wRd_readSun_2 ?_
    simp only [R.1, true_and]
    refine ⟨fun q => by omega, fun _ => cl_pnum R hT hx hk.2 hiL hp (by decide) hF (fun x j w1 b1 b2 b3 b4 f1 p1 q1 hF1 => ⟨_, rfl, fun _ => ?_, fun z => by omega⟩) (fun w1 hq => ⟨_, rfl, fun z => absurd rfl z, fun _ => ⟨Or.inl trivial, hq⟩⟩)⟩
    have hz1 := hz.rn f1 hk
    simp only [R.1, h7, t_o hTG, t_p8 hTG, t_a8 hTG, true_and]
    refine ⟨by constructor <;> omega, wRd_readSun_33 ?_⟩
    simp only [R.1, h7, t_o hTG, true_and]
    refine ⟨by constructor <;> omega, ?_⟩
    rw [Int.toNat_natCast]
    have e5 : ∀ a j, a ≠ kl + 3 → (a = kl → j ≠ 4) → xup (xup w1 (kl + 3) h x) kl 4 ((h : Int) + 1) a j = w1 a j := fun a j p q => by
      by_cases y : a = kl
      · subst y; rw [xup_k (q rfl), xup_a p]
      · rw [xup_a y, xup_a p]
    have g4 : xup (xup w1 (kl + 3) h x) kl 4 ((h : Int) + 1) kl 4 = (h : Int) + 1 := xup_s
    have g2 : ∀ i : Nat, (i : Int) < snT t h x 0 4 → xup (xup w1 (kl + 3) h x) kl 4 ((h : Int) + 1) (kl + 3) i = snT t h x 2 i := fun i hi => by
      rw [snT_4] at hi
      rw [snT_2, xup_a (by omega)]
      by_cases y : i = h
      · subst y; rw [xup_s, zup_s]
      · rw [xup_k y, zup_n y]; exact hz1.1.2.2.2.2.2.2.2.2.1 i (by omega)
    generalize xup (xup w1 (kl + 3) h x) kl 4 ((h : Int) + 1) = w2 at e5 g4 g2
    have z2 : ZC (snT t h x) s v wl kl kn w2 := zc_land hz1 li (by omega) (snT_0 (by decide)) (snT_0 (by decide)) (snT_0 (by decide)) (snT_0 (by decide)) (fun r i hr => snT_n (by omega) (by omega)) (fun a j _ p r => e5 a j p fun y => (r y).2) (by rw [e5 _ _ (by omega) (by omega), snT_0 (by decide)]; exact hz1.1.2.2.2.1) (by rw [g4, snT_4]) (fun i hi => by rw [e5 _ _ (by omega) (by omega), snT_n (by decide) (by decide)]; exact (hz1.2.2.2.2.1 i hi).1) g2
    have pf : PF kl kn w1 w2 := ⟨fun a j p q r => e5 a j (by omega) (by omega), e5 _ _ (by omega) (by omega)⟩
    have x2 := (hx.rn f1).e (fun j => e5 4 j (by omega) (by omega)) (e5 3 1 (by omega) (by omega))
    have p2 := (e5 3 2 (by omega) (by omega)).trans p1
    have zi2 := zi_sun zi ⟨b1, b2⟩ h4 (by omega)
    have hF2 := hF1.mono pf
    have b := sk_b (T := T) b4
    refine wRd_readSun_43 ?_
    simp only [R.1, true_and]
    refine cl_skip R hT x2 b4 p2 fun w3 f3 p3 => ⟨rfl, ?_⟩
    have f3 : RN w2 w3 := fun a j q => f3 a j fun z => q ⟨z.1, Or.inl z.2⟩
    have x3 := x2.rn f3
    have z3 := z2.rn f3 hk
    have hF3 := hF2.mono (f3.pf hk.2)
    have e1 : w3 3 1 = L := x3.1
    have hL := hT.1
    have no : ¬ (h + 1 < 8 ∧ sk T L j < L ∧ T (sk T L j) = 44) → aRd_readSun (d + 3) lim Q 80 [xr 3, none, none] [] g w3 := fun z => by
      rw [if_neg z, ← pEnd_sk b4] at hF3
      refine wRd_readSun_80 ?_
      simp only [R.1, true_and]
      exact cl_pend R hT x3 hk b.2 p3 z3 hF3 fun x w6 hx6 hq => ⟨_, rfl, hx6, hq⟩
    simp only [R.1, R.2.1, r_rr R, e1, p3, true_and]
    refine ⟨by constructor <;> omega, fun q => no (by omega), fun q => ⟨fun q2 => no (by omega), fun q2 => ⟨by constructor <;> omega, ?_⟩⟩⟩
    have eT : w3 4 (Int.toNat ((sk T L j : Nat) : Int)) = T (sk T L j) := by rw [Int.toNat_natCast]; exact x3.2 _ (by omega)
    rw [eT]
    refine ⟨fun z => ⟨by constructor <;> omega, by constructor <;> omega, ?_⟩, fun z => no (fun y => z y.2.2)⟩
    rw [if_pos ⟨by omega, by omega, z⟩] at hF3
    rw [show ((h : Int) + 1) = ((h + 1 : Nat) : Int) by omega, show (((sk T L j : Nat) : Int) + 1) = ((sk T L j + 1 : Nat) : Int) by omega]
    match n, hn, hF3 with
    | 0, hn, _ => omega
    | m + 1, hn, hF3 =>
      exact cl_sun1 m (h + 1) (sk T L j + 1) (snT t h x) _ (by omega) (by rw [snT_4]; rfl) ⟨⟨R, h7, h8, hTG, hS, hk1, hk2⟩, hT, x3.rn RN.up, z3.rn RN.up hk, zi2, by omega, xup_s⟩ (by rw [snT_0 (by decide)]; exact h0) (hF3.mono (RN.up.pf hk.2))
theorem cl_rSun (h : CC g kl kn T L t s v wl w i) (h0 : t 0 0 ≠ 0) (h4 : t 0 4 = 0) (hF : cFin (pSun T L s wl 8 0 i t) v kl kn w g Q) : cal (d + 4) nRd_readSun [xr 3] g w Q := by
  refine eRd_readSun fun lim Q2 h2 => wRd_readSun_0 ?_
  exact cl_sun1 7 0 i t w rfl h4 h h0 fun w2 a b => h2 _ _ _ rfl (hF w2 a b)
theorem cl_rPers (h : CC g kl kn T L t s v wl w i) (h0 : t 0 0 ≠ 0) (h5 : t 0 5 < 6) (hF : cFin (pPers T L i t s wl) v kl kn w g Q) : cal (d + 4) nRd_readPerson [xr 3] g w Q := by
  obtain ⟨⟨R, h7, h8, hTG, hS, hk1, hk2⟩, hT, hx, hz, zi, hiL, hp⟩ := h
  have hk : 4 < kl ∧ 4 < kn := by omega
  refine eRd_readPerson fun lim Q2 h2 => wRd_readPerson_0 ?_
  have hF : cFin (pPers T L i t s wl) v kl kn w g Q2 := fun w2 a b => h2 _ _ _ rfl (hF w2 a b)
  unfold pPers at hF
  have li := zi.1
  obtain ⟨n1, n2, n3, n4, n5, n6⟩ := li_n li
  simp only [R.1, true_and]
  refine cl_pcell R h7 hTG hT hx hk li h0 hz.1 hiL hp hF (fun c j a w1 hc b3 b4 f1 p1 q1 hF1 => ⟨_, rfl, fun _ => ?_, fun z => by omega⟩) (fun w1 hq => ⟨_, rfl, fun z => absurd rfl z, fun _ => ⟨Or.inl trivial, hq⟩⟩)
  simp only [R.1, true_and]
  refine cl_pnum R hT (hx.rn f1) hk.2 b4 p1 (by decide) hF1 (fun kk j2 w2 c1 c2 c3 c4 f2 p2 q2 hF2 => ⟨_, rfl, fun _ => ?_, fun z => by omega⟩) (fun w2 hq => ⟨_, rfl, fun z => absurd rfl z, fun _ => ⟨Or.inl trivial, hq⟩⟩)
  have f12 := f1.trans f2
  simp only [R.1, true_and]
  refine cl_pnum R hT (hx.rn f12) hk.2 c4 p2 (by decide) hF2 (fun x j3 w3 d1 d2 d3 d4 f3 p3 q3 hF3 => ⟨_, rfl, fun _ => ?_, fun z => by omega⟩) (fun w3 hq => ⟨_, rfl, fun z => absurd rfl z, fun _ => ⟨Or.inl trivial, hq⟩⟩)
  have f13 := f12.trans f3
  simp only [R.1, true_and]
  refine cl_pnum R hT (hx.rn f13) hk.2 d4 p3 (by decide) hF3 (fun y j4 w4 g1 g2 g3 g4 f4 p4 q4 hF4 => ⟨_, rfl, fun _ => ?_, fun z => by omega⟩) (fun w4 hq => ⟨_, rfl, fun z => absurd rfl z, fun _ => ⟨Or.inl trivial, hq⟩⟩)
  have f14 := f13.trans f4
  have hz4 := hz.rn f14 hk
  have e5' : w4 kl 5 = t 0 5 := hz4.1.2.2.2.2.2.1
  have hnP : Int.toNat (t 0 5) = nP t := rfl
  simp only [R.1, h7, t_o hTG, e5', true_and]
  refine ⟨by constructor <;> omega, wRd_readPerson_82 ?_⟩
  simp only [R.1, h8, s_o hS, s_p7 hS, s_a7 hS, true_and]
  refine ⟨by omega, wRd_readPerson_93 ?_⟩
  simp only [R.1, h8, s_o hS, s_p8 hS, s_a8 hS, true_and]
  refine ⟨by omega, wRd_readPerson_104 ?_⟩
  simp only [R.1, h7, t_o hTG, t_p11 hTG, t_a11 hTG, true_and]
  refine ⟨by omega, wRd_readPerson_115 ?_⟩
  simp only [R.1, h7, t_o hTG, t_p12 hTG, t_a12 hTG, true_and, hnP]
  refine ⟨by omega, ?_⟩
  have e5 : ∀ a j, ¬ (a = kl ∧ j = 5) → ¬ ((a = kl + 6 ∨ a = kl + 7 ∨ a = kn + 8 ∨ a = kn + 9) ∧ j = nP t) → xup (xup (xup (xup (xup w4 kl 5 (t 0 5 + 1)) (kn + 8) (nP t) (c : Int)) (kn + 9) (nP t) kk) (kl + 6) (nP t) x) (kl + 7) (nP t) y a j = w4 a j := fun a j p q => by
    have u : ∀ (w9 : xW) (b : Nat) (x9 : Int), (b = kl + 6 ∨ b = kl + 7 ∨ b = kn + 8 ∨ b = kn + 9) → xup w9 b (nP t) x9 a j = w9 a j := fun w9 b x9 hb => by
      by_cases y : a = b
      · subst y; exact xup_k (fun u => q ⟨hb, u⟩)
      · exact xup_a y
    rw [u _ _ _ (by omega), u _ _ _ (by omega), u _ _ _ (by omega), u _ _ _ (by omega)]
    by_cases y : a = kl
    · subst y; exact xup_k (fun u => p ⟨rfl, u⟩)
    · exact xup_a y
  have m5 : xup (xup (xup (xup (xup w4 kl 5 (t 0 5 + 1)) (kn + 8) (nP t) (c : Int)) (kn + 9) (nP t) kk) (kl + 6) (nP t) x) (kl + 7) (nP t) y kl 5 = t 0 5 + 1 := by rw [xup_a (by omega), xup_a (by omega), xup_a (by omega), xup_a (by omega), xup_s]
  have m8 : xup (xup (xup (xup (xup w4 kl 5 (t 0 5 + 1)) (kn + 8) (nP t) (c : Int)) (kn + 9) (nP t) kk) (kl + 6) (nP t) x) (kl + 7) (nP t) y (kn + 8) (nP t) = c := by rw [xup_a (by omega), xup_a (by omega), xup_a (by omega), xup_s]
  have m9 : xup (xup (xup (xup (xup w4 kl 5 (t 0 5 + 1)) (kn + 8) (nP t) (c : Int)) (kn + 9) (nP t) kk) (kl + 6) (nP t) x) (kl + 7) (nP t) y (kn + 9) (nP t) = kk := by rw [xup_a (by omega), xup_a (by omega), xup_s]
  have m6 : xup (xup (xup (xup (xup w4 kl 5 (t 0 5 + 1)) (kn + 8) (nP t) (c : Int)) (kn + 9) (nP t) kk) (kl + 6) (nP t) x) (kl + 7) (nP t) y (kl + 6) (nP t) = x := by rw [xup_a (by omega), xup_s]
  have m7 : xup (xup (xup (xup (xup w4 kl 5 (t 0 5 + 1)) (kn + 8) (nP t) (c : Int)) (kn + 9) (nP t) kk) (kl + 6) (nP t) x) (kl + 7) (nP t) y (kl + 7) (nP t) = y := xup_s
  generalize xup (xup (xup (xup (xup w4 kl 5 (t 0 5 + 1)) (kn + 8) (nP t) (c : Int)) (kn + 9) (nP t) kk) (kl + 6) (nP t) x) (kl + 7) (nP t) y = w5 at e5 m5 m8 m9 m6 m7
  have z5 := zc_pers hz4 li (fun i => (zi.2.2.2.2.2 i).2.2.2) (by omega) h5 e5 m5 m6 m7 m8 m9
  have pf : PF kl kn w4 w5 := ⟨fun a j p q r => e5 a j (by omega) (by omega), e5 _ _ (by omega) (by omega)⟩
  exact cl_pend R hT ((hx.rn f14).e (fun j => e5 4 j (by omega) (by omega)) (e5 3 1 (by omega) (by omega))) hk g4 ((e5 3 2 (by omega) (by omega)).trans p4) z5 (hF4.mono pf) fun x w6 hx6 hq => ⟨_, rfl, hx6, hq⟩
/-- a clause begins, if there is room for it -/
theorem cl_startT (R : RG g) {x : Int} (hx : x ≠ 0) (hp : w 3 2 = (i : Int)) (hi : i < 1000) (hQ : ∀ w2, RN w w2 → w2 3 2 = ((i + 1 : Nat) : Int) → Q (some (xi 1)) g w2) : cal (d + 1) nRd_startClause [xr 3, xi x] g w Q := by
  refine eRd_startClause fun lim Q2 h2 => wRd_startClause_0 ?_
  simp only [R.1, hp, true_and]
  refine ⟨fun _ => ⟨by constructor <;> omega, Or.inr trivial, h2 _ _ _ rfl (hQ _ RN.up ?_)⟩, fun q => absurd q hx⟩
  rw [xup_s]; rfl
theorem cl_startF (R : RG g) (hp : w 3 2 = (i : Int)) (hQ : ∀ w2, RF w w2 → w2 3 4 = 3 → w2 3 5 = (i : Int) → Q (some (xi 0)) g w2) : cal (d + 2) nRd_startClause [xr 3, xi 0] g w Q := by
  refine eRd_startClause fun lim Q2 h2 => wRd_startClause_0 ?_
  simp only [R.1, hp, true_and]
  exact ⟨fun q => absurd trivial q, fun _ => cl_fail R fun w2 f2 k2 a2 => ⟨_, rfl, Or.inl rfl, h2 _ _ _ rfl (hQ w2 f2 k2 a2)⟩⟩
theorem cl_cT (h : CC g kl kn T L t s v wl w i) (hi : i < L) (hc1 : t 0 0 = 0) (hF : cFin (pTown T L (i + 1) t s wl) v kl kn w g Q) : aRd_readClause (d + 4) lim Q 104 [xr 3, none] [xi 1, xr 3] g w := by
  obtain ⟨⟨R, h7, h8, hTG, hS, hk1, hk2⟩, hT, hx, hz, zi, hiL, hp⟩ := h
  have hL := hT.1
  refine wRd_readClause_104 ?_
  simp only [R.1, true_and]
  refine cl_startT R (by decide) hp (by omega) fun w1 f1 p1 => ⟨_, rfl, fun z => absurd z (by decide), fun _ => ?_⟩
  simp only [R.1, true_and]
  refine cl_rTown (d := d + 1) ⟨⟨R, h7, h8, hTG, hS, hk1, hk2⟩, hT, hx.rn f1, hz.rn f1 (by omega), zi, by omega, p1⟩ hc1 fun w2 a b => ?_
  have := hF w2 ((f1.pf (by omega)).trans a) b
  refine ⟨_, rfl, fun z => ⟨Or.inl trivial, ?_⟩, fun z => ⟨Or.inr trivial, ?_⟩⟩
  · rw [z] at this; exact this
  · rw [if_pos (ifv.2 z)] at this; exact this
theorem cl_dT (h : CC g kl kn T L t s v wl w i) (hF : cFin (flt1 3 i) v kl kn w g Q) : aRd_readClause (d + 4) lim Q 104 [xr 3, none] [xi 0, xr 3] g w := by
  obtain ⟨⟨R, h7, h8, hTG, hS, hk1, hk2⟩, hT, hx, hz, zi, hiL, hp⟩ := h
  refine wRd_readClause_104 ?_
  simp only [R.1, true_and]
  exact cl_startF R hp fun w1 f1 k1 a1 => ⟨_, rfl, fun _ => ⟨Or.inl trivial, hF.fl (by decide) (f1.pf (by omega)) k1 a1⟩, fun z => absurd rfl z⟩
theorem cl_cW (h : CC g kl kn T L t s v wl w i) (hi : i < L) (hc1 : t 0 0 ≠ 0) (hc2 : wl < 12) (hF : cFin (pWall T L (i + 1) t s wl) v kl kn w g Q) : aRd_readClause (d + 4) lim Q 138 [xr 3, none] [xi 1, xr 3] g w := by
  obtain ⟨⟨R, h7, h8, hTG, hS, hk1, hk2⟩, hT, hx, hz, zi, hiL, hp⟩ := h
  have hL := hT.1
  refine wRd_readClause_138 ?_
  simp only [R.1, true_and]
  refine cl_startT R (by decide) hp (by omega) fun w1 f1 p1 => ⟨_, rfl, fun z => absurd z (by decide), fun _ => ?_⟩
  simp only [R.1, true_and]
  refine cl_rWall (d := d) ⟨⟨R, h7, h8, hTG, hS, hk1, hk2⟩, hT, hx.rn f1, hz.rn f1 (by omega), zi, by omega, p1⟩ hc1 hc2 fun w2 a b => ?_
  have := hF w2 ((f1.pf (by omega)).trans a) b
  refine ⟨_, rfl, fun z => ⟨Or.inl trivial, ?_⟩, fun z => ⟨Or.inr trivial, ?_⟩⟩
  · rw [z] at this; exact this
  · rw [if_pos (ifv.2 z)] at this; exact this
theorem cl_dW (h : CC g kl kn T L t s v wl w i) (hF : cFin (flt1 3 i) v kl kn w g Q) : aRd_readClause (d + 4) lim Q 138 [xr 3, none] [xi 0, xr 3] g w := by
  obtain ⟨⟨R, h7, h8, hTG, hS, hk1, hk2⟩, hT, hx, hz, zi, hiL, hp⟩ := h
  refine wRd_readClause_138 ?_
  simp only [R.1, true_and]
  exact cl_startF R hp fun w1 f1 k1 a1 => ⟨_, rfl, fun _ => ⟨Or.inl trivial, hF.fl (by decide) (f1.pf (by omega)) k1 a1⟩, fun z => absurd rfl z⟩
theorem cl_cS (h : CC g kl kn T L t s v wl w i) (hi : i < L) (hc1 : t 0 0 ≠ 0) (hc2 : t 0 2 < 4) (hF : cFin (pStove T L (i + 1) t s wl) v kl kn w g Q) : aRd_readClause (d + 4) lim Q 174 [xr 3, none] [xi 1, xr 3] g w := by
  obtain ⟨⟨R, h7, h8, hTG, hS, hk1, hk2⟩, hT, hx, hz, zi, hiL, hp⟩ := h
  have hL := hT.1
  refine wRd_readClause_174 ?_
  simp only [R.1, true_and]
  refine cl_startT R (by decide) hp (by omega) fun w1 f1 p1 => ⟨_, rfl, fun z => absurd z (by decide), fun _ => ?_⟩
  simp only [R.1, true_and]
  refine cl_rStove (d := d) ⟨⟨R, h7, h8, hTG, hS, hk1, hk2⟩, hT, hx.rn f1, hz.rn f1 (by omega), zi, by omega, p1⟩ hc1 hc2 fun w2 a b => ?_
  have := hF w2 ((f1.pf (by omega)).trans a) b
  refine ⟨_, rfl, fun z => ⟨Or.inl trivial, ?_⟩, fun z => ⟨Or.inr trivial, ?_⟩⟩
  · rw [z] at this; exact this
  · rw [if_pos (ifv.2 z)] at this; exact this
theorem cl_dS (h : CC g kl kn T L t s v wl w i) (hF : cFin (flt1 3 i) v kl kn w g Q) : aRd_readClause (d + 4) lim Q 174 [xr 3, none] [xi 0, xr 3] g w := by
  obtain ⟨⟨R, h7, h8, hTG, hS, hk1, hk2⟩, hT, hx, hz, zi, hiL, hp⟩ := h
  refine wRd_readClause_174 ?_
  simp only [R.1, true_and]
  exact cl_startF R hp fun w1 f1 k1 a1 => ⟨_, rfl, fun _ => ⟨Or.inl trivial, hF.fl (by decide) (f1.pf (by omega)) k1 a1⟩, fun z => absurd rfl z⟩
theorem cl_cR (h : CC g kl kn T L t s v wl w i) (hi : i < L) (hc1 : t 0 0 ≠ 0) (hc2 : t 0 3 < 12) (hF : cFin (pRoof T L (i + 1) t s wl) v kl kn w g Q) : aRd_readClause (d + 4) lim Q 211 [xr 3, none] [xi 1, xr 3] g w := by
  obtain ⟨⟨R, h7, h8, hTG, hS, hk1, hk2⟩, hT, hx, hz, zi, hiL, hp⟩ := h
  have hL := hT.1
  refine wRd_readClause_211 ?_
  simp only [R.1, true_and]
  refine cl_startT R (by decide) hp (by omega) fun w1 f1 p1 => ⟨_, rfl, fun z => absurd z (by decide), fun _ => ?_⟩
  simp only [R.1, true_and]
  refine cl_rRoof (d := d) ⟨⟨R, h7, h8, hTG, hS, hk1, hk2⟩, hT, hx.rn f1, hz.rn f1 (by omega), zi, by omega, p1⟩ hc1 hc2 fun w2 a b => ?_
  have := hF w2 ((f1.pf (by omega)).trans a) b
  refine ⟨_, rfl, fun z => ⟨Or.inl trivial, ?_⟩, fun z => ⟨Or.inr trivial, ?_⟩⟩
  · rw [z] at this; exact this
  · rw [if_pos (ifv.2 z)] at this; exact this
theorem cl_dR (h : CC g kl kn T L t s v wl w i) (hF : cFin (flt1 3 i) v kl kn w g Q) : aRd_readClause (d + 4) lim Q 211 [xr 3, none] [xi 0, xr 3] g w := by
  obtain ⟨⟨R, h7, h8, hTG, hS, hk1, hk2⟩, hT, hx, hz, zi, hiL, hp⟩ := h
  refine wRd_readClause_211 ?_
  simp only [R.1, true_and]
  exact cl_startF R hp fun w1 f1 k1 a1 => ⟨_, rfl, fun _ => ⟨Or.inl trivial, hF.fl (by decide) (f1.pf (by omega)) k1 a1⟩, fun z => absurd rfl z⟩
theorem cl_cU (h : CC g kl kn T L t s v wl w i) (hi : i < L) (hc1 : t 0 0 ≠ 0) (hc2 : t 0 4 = 0) (hF : cFin (pSun T L s wl 8 0 (i + 1) t) v kl kn w g Q) : aRd_readClause (d + 4) lim Q 246 [xr 3, none] [xi 1, xr 3] g w := by
  obtain ⟨⟨R, h7, h8, hTG, hS, hk1, hk2⟩, hT, hx, hz, zi, hiL, hp⟩ := h
  have hL := hT.1
  refine wRd_readClause_246 ?_
  simp only [R.1, true_and]
  refine cl_startT R (by decide) hp (by omega) fun w1 f1 p1 => ⟨_, rfl, fun z => absurd z (by decide), fun _ => ?_⟩
  simp only [R.1, true_and]
  refine cl_rSun (d := d) ⟨⟨R, h7, h8, hTG, hS, hk1, hk2⟩, hT, hx.rn f1, hz.rn f1 (by omega), zi, by omega, p1⟩ hc1 hc2 fun w2 a b => ?_
  have := hF w2 ((f1.pf (by omega)).trans a) b
  refine ⟨_, rfl, fun z => ⟨Or.inl trivial, ?_⟩, fun z => ⟨Or.inr trivial, ?_⟩⟩
  · rw [z] at this; exact this
  · rw [if_pos (ifv.2 z)] at this; exact this
theorem cl_dU (h : CC g kl kn T L t s v wl w i) (hF : cFin (flt1 3 i) v kl kn w g Q) : aRd_readClause (d + 4) lim Q 246 [xr 3, none] [xi 0, xr 3] g w := by
  obtain ⟨⟨R, h7, h8, hTG, hS, hk1, hk2⟩, hT, hx, hz, zi, hiL, hp⟩ := h
  refine wRd_readClause_246 ?_
  simp only [R.1, true_and]
  exact cl_startF R hp fun w1 f1 k1 a1 => ⟨_, rfl, fun _ => ⟨Or.inl trivial, hF.fl (by decide) (f1.pf (by omega)) k1 a1⟩, fun z => absurd rfl z⟩
theorem cl_cP (h : CC g kl kn T L t s v wl w i) (hi : i < L) (hc1 : t 0 0 ≠ 0) (hc2 : t 0 5 < 6) (hF : cFin (pPers T L (i + 1) t s wl) v kl kn w g Q) : aRd_readClause (d + 4) lim Q 283 [xr 3, none] [xi 1, xr 3] g w := by
  obtain ⟨⟨R, h7, h8, hTG, hS, hk1, hk2⟩, hT, hx, hz, zi, hiL, hp⟩ := h
  have hL := hT.1
  refine wRd_readClause_283 ?_
  simp only [R.1, true_and]
  refine cl_startT R (by decide) hp (by omega) fun w1 f1 p1 => ⟨_, rfl, fun z => absurd z (by decide), fun _ => ?_⟩
  simp only [R.1, true_and]
  refine cl_rPers (d := d) ⟨⟨R, h7, h8, hTG, hS, hk1, hk2⟩, hT, hx.rn f1, hz.rn f1 (by omega), zi, by omega, p1⟩ hc1 hc2 fun w2 a b => ?_
  have := hF w2 ((f1.pf (by omega)).trans a) b
  refine ⟨_, rfl, fun z => ⟨Or.inl trivial, ?_⟩, fun z => ⟨Or.inr trivial, ?_⟩⟩
  · rw [z] at this; exact this
  · rw [if_pos (ifv.2 z)] at this; exact this
theorem cl_dP (h : CC g kl kn T L t s v wl w i) (hF : cFin (flt1 3 i) v kl kn w g Q) : aRd_readClause (d + 4) lim Q 283 [xr 3, none] [xi 0, xr 3] g w := by
  obtain ⟨⟨R, h7, h8, hTG, hS, hk1, hk2⟩, hT, hx, hz, zi, hiL, hp⟩ := h
  refine wRd_readClause_283 ?_
  simp only [R.1, true_and]
  exact cl_startF R hp fun w1 f1 k1 a1 => ⟨_, rfl, fun _ => ⟨Or.inl trivial, hF.fl (by decide) (f1.pf (by omega)) k1 a1⟩, fun z => absurd rfl z⟩
theorem cl_clause (h : CC g kl kn T L t s v wl w i) (hi : i < L) (hF : cFin (pCls T L i t s wl) v kl kn w g Q) : cal (d + 5) nRd_readClause [xr 3] g w Q := by
  obtain ⟨⟨R, h7, h8, hTG, hS, hk1, hk2⟩, hT, hx, hz, zi, hiL, hp⟩ := id h
  refine eRd_readClause fun lim Q2 h2 => wRd_readClause_0 ?_
  have hF : cFin (pCls T L i t s wl) v kl kn w g Q2 := fun w2 a b => h2 _ _ _ rfl (hF w2 a b)
  have hL := hT.1
  have l0 : w kl 0 = t 0 0 := hz.1.1
  have l2 : w kl 2 = t 0 2 := hz.1.2.2.1
  have l3 : w kl 3 = t 0 3 := hz.1.2.2.2.1
  have l4 : w kl 4 = t 0 4 := hz.1.2.2.2.2.1
  have l5 : w kl 5 = t 0 5 := hz.1.2.2.2.2.2.1
  have l6 : w 3 6 = wl := hz.2.2.1
  have eT : w 4 (Int.toNat (i : Int)) = T i := by rw [Int.toNat_natCast]; exact hx.2 i hi
  have bad : cFin (flt1 1 i) v kl kn w g Q2 → ∀ (P : xQ), (∀ v1 g1 w1, (v1 = 0 ∨ v1 = 1) → Q2 (some (xi v1)) g1 w1 → P (some (xi v1)) g1 w1) → cal (d + 4) nRd_fail [xr 3, xi 1, xi i] g w P := fun hb P hP => cl_fail R fun w1 f1 k1 a1 => hP 0 g w1 (Or.inl rfl) (hb.fl (by decide) (f1.pf (by omega)) k1 a1)
  unfold pCls at hF
  have main : (t 0 0 ≠ 0 ∨ T i = 116) → aRd_readClause (d + 4) lim Q2 36 [xr 3, xi (T i)] [] g w := fun hm => by
    refine wRd_readClause_36 ?_
    simp only [R.1, h7, t_o hTG, l0, l2, l3, l4, l5, l6, hp, true_and, and_true]
    have z0 : T i ≠ 116 → t 0 0 ≠ 0 := fun q => hm.resolve_right q
    have other : T i ≠ 116 → T i ≠ 119 → T i ≠ 111 → T i ≠ 114 → T i ≠ 115 → T i ≠ 112 → cFin (flt1 1 i) v kl kn w g Q2 := fun q1 q2 q3 q4 q5 q6 => by
      rw [if_neg (z0 q1), if_neg q1, if_neg q2, if_neg q3, if_neg q4, if_neg q5, if_neg q6] at hF; exact hF
    refine ⟨fun q => bad (other (by omega) (by omega) (by omega) (by omega) (by omega) (by omega)) _ fun v1 g1 w1 hv hq => ⟨_, rfl, hv, hq⟩, fun q => ⟨fun u => ?_, fun u => ?_⟩, fun q => ⟨fun u => ?_, fun u => ?_⟩, fun q => bad (other (by omega) (by omega) (by omega) (by omega) (by omega) (by omega)) _ fun v1 g1 w1 hv hq => ⟨_, rfl, hv, hq⟩, fun q => ⟨fun u => ?_, fun u => ?_⟩, fun q => ⟨fun u => ?_, fun u => ?_⟩, fun q => ⟨fun u => ?_, fun u => ?_⟩, fun q => bad (other (by omega) (by omega) (by omega) (by omega) (by omega) (by omega)) _ fun v1 g1 w1 hv hq => ⟨_, rfl, hv, hq⟩, fun q => bad (other (by omega) (by omega) (by omega) (by omega) (by omega) (by omega)) _ fun v1 g1 w1 hv hq => ⟨_, rfl, hv, hq⟩, fun q => ⟨fun u => ?_, fun u => ?_⟩⟩
    · rw [if_neg (z0 (by omega)), if_neg (by omega), if_neg (by omega), if_pos q, if_neg (by omega)] at hF; exact cl_dS h hF
    · rw [if_neg (z0 (by omega)), if_neg (by omega), if_neg (by omega), if_pos q, if_pos u] at hF; exact cl_cS h hi (z0 (by omega)) u hF
    · rw [if_neg (z0 (by omega)), if_neg (by omega), if_neg (by omega), if_neg (by omega), if_neg (by omega), if_neg (by omega), if_pos q, if_neg (by omega)] at hF; exact cl_dP h hF
    · rw [if_neg (z0 (by omega)), if_neg (by omega), if_neg (by omega), if_neg (by omega), if_neg (by omega), if_neg (by omega), if_pos q, if_pos u] at hF; exact cl_cP h hi (z0 (by omega)) u hF
    · rw [if_neg (z0 (by omega)), if_neg (by omega), if_neg (by omega), if_neg (by omega), if_pos q, if_neg (by omega)] at hF; exact cl_dR h hF
    · rw [if_neg (z0 (by omega)), if_neg (by omega), if_neg (by omega), if_neg (by omega), if_pos q, if_pos u] at hF; exact cl_cR h hi (z0 (by omega)) u hF
    · rw [if_neg (z0 (by omega)), if_neg (by omega), if_neg (by omega), if_neg (by omega), if_neg (by omega), if_pos q, if_neg u] at hF; exact cl_dU h hF
    · rw [if_neg (z0 (by omega)), if_neg (by omega), if_neg (by omega), if_neg (by omega), if_neg (by omega), if_pos q, if_pos u] at hF; exact cl_cU h hi (z0 (by omega)) u hF
    · rw [if_neg u, if_pos q] at hF; exact cl_dT h hF
    · rw [if_pos u, if_pos q] at hF; exact cl_cT h hi u hF
    · rw [if_neg (z0 (by omega)), if_neg (by omega), if_pos q, if_neg (by omega)] at hF; exact cl_dW h hF
    · rw [if_neg (z0 (by omega)), if_neg (by omega), if_pos q, if_pos u] at hF; exact cl_cW h hi (z0 (by omega)) u hF
  simp only [R.1, R.2.1, r_rr R, h7, t_o hTG, l0, hp, eT, true_and]
  refine ⟨by constructor <;> omega, fun q => main (Or.inl q), fun q => ⟨fun q2 => main (Or.inr q2), fun q2 => ?_⟩⟩
  rw [if_pos q, if_neg q2] at hF
  exact bad hF _ fun v1 g1 w1 hv hq => ⟨_, rfl, hv, hq⟩
end TKH
