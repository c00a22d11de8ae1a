/-! ===== the reference reads clauses: stoves, suns, people ===== -/
section MTF
variable {g : xG} {w w0 : xW} {T : zT} {L : Nat} {t s : zS} {d : Nat} {Q : xQ} {lim : Nat × Nat} {v wl : Int} {i : Nat}
theorem mo_rStove (h : MC g T L t s v wl w i) (ha : sk T L i < L) (hd : ¬ dgt T (sk T L i)) (h0 : t 0 0 ≠ 0) (hF : mFin T L (if t 0 2 < 4 then pStove T L (sk T L i + 1) t s wl else flt1 3 (sk T L i)) w g Q) : cal (d + 7) nMo_readsStove [xr 193] g w Q := by
  obtain ⟨hM, hT, hx, hz, zi, hiL, hl⟩ := h
  refine eMo_readsStove fun lim Q2 h2 => wMo_readsStove_0 ?_
  have hF : mFin T L (if t 0 2 < 4 then pStove T L (sk T L i + 1) t s wl else flt1 3 (sk T L i)) w g Q2 := fun w2 a b => h2 _ _ _ rfl (hF w2 a b)
  have e40 : w 193 40 = t 0 2 := hz.2.2.2.2.2.1
  have li := zi.1
  obtain ⟨n1, n2, n3, n4, n5, n6⟩ := li_n li
  simp only [m_o hM, e40, true_and]
  refine ⟨fun z => ?_, fun z => ?_⟩
  · rw [if_pos (by omega)] at hF
    unfold pStove pCell at hF
    refine mo_goOn hM hT hx hiL hl fun w2 f2 k2 => ⟨rfl, ?_⟩
    rw [tkL_1 ha hd] at k2
    have x2 := hx.mp f2.nt.mp
    have z2 := hz.of f2.nt
    simp only [m_o hM, true_and]
    refine mo_takesX hM hT x2 (by omega) k2 z2 li (hF.mono f2.nt.mp) (fun x j w3 a1 a2 a4 a5 f3 k3 t3 hF3 => ⟨_, rfl, fun u => absurd u (by decide), fun _ => ?_⟩) (fun w3 hq => ⟨_, rfl, fun _ => ⟨Or.inl trivial, hq⟩, fun u => absurd rfl u⟩)
    have z3 := z2.of f3
    have x3 := x2.mp f3.mp
    rw [t3]
    simp only [m_o hM, true_and]
    refine mo_seesY (K := fun c j a => if hsU t c (nS t) = true then flt1 4 a else pNum T L 1 60 j fun v j2 => pNum T L 0 99 j2 fun f j3 => pEnd T L j3 (stT t c v) (stS t s f) wl) hM hT x3 a5 k3 z3 li ⟨a1, a2⟩ hF3 (fun c w4 c1 c2 c3 f4 k4 t4 hF4 => ⟨_, rfl, fun _ => ?_, fun u => absurd u (by decide)⟩) (fun w4 hq => ⟨_, rfl, fun u => absurd rfl u, fun _ => ⟨Or.inl trivial, hq⟩⟩)
    have x4 := x3.mp f4.mp
    have z4 := z3.of f4
    have er : w4 214 (Int.toNat (c : Int)) = if hsU t c (nS t) = true then 1 else 0 := by rw [Int.toNat_natCast]; exact (z4.2.2.2.2.2.2.2.2.1 c (by omega)).2.2.2
    simp only [m_o hM, m_p42 hM, m_b42 hM, t4, er, true_and]
    refine ⟨by constructor <;> omega, fun u => ⟨⟨by constructor <;> omega, Or.inr trivial⟩, ?_⟩, fun u => ?_⟩
    · rw [if_neg (ifv.1 u)] at hF4
      rw [Int.toNat_natCast]
      have g5 : MP w4 (xup w4 214 c 1) := fun a j p q => xup_o (by omega)
      have k5 : LK T L j (xup w4 214 c 1) := k4.of fun j a b => xup_a (by decide)
      have o5 : ∀ a j, ¬ (a = 214 ∧ j = c) → xup w4 214 c 1 a j = w4 a j := fun a j q => xup_o q
      have p5 : xup w4 214 c 1 214 c = 1 := xup_s
      generalize xup w4 214 c 1 = w5 at g5 k5 o5 p5
      have q40 : w5 193 40 = t 0 2 := (o5 _ _ (by omega)).trans z4.2.2.2.2.2.1
      have q47 : w5 193 47 = (c : Int) := (o5 _ _ (by omega)).trans t4
      have hnS : Int.toNat (t 0 2) = nS t := rfl
      refine wMo_readsStove_66 ?_
      simp only [m_o hM, m_p41 hM, m_a41 hM, q40, q47, hnS, true_and]
      refine ⟨by constructor <;> omega, ?_⟩
      have g6 : MP w5 (xup w5 213 (nS t) c) := fun a j p q => xup_o (by omega)
      have k6 : LK T L j (xup w5 213 (nS t) c) := k5.of fun j a b => xup_a (by decide)
      have o6 : ∀ a j, ¬ (a = 213 ∧ j = nS t) → xup w5 213 (nS t) (c : Int) a j = w5 a j := fun a j q => xup_o q
      have p6 : xup w5 213 (nS t) (c : Int) 213 (nS t) = c := xup_s
      generalize xup w5 213 (nS t) (c : Int) = w6 at g6 k6 o6 p6
      have x6 := (x4.mp g5).mp g6
      refine wMo_readsStove_79 ?_
      simp only [m_o hM, true_and]
      refine mo_goOn hM hT x6 a5 k6 fun w7 f7 k7 => ⟨rfl, ?_⟩
      have x7 := x6.mp f7.nt.mp
      simp only [m_o hM, true_and]
      refine mo_ptakes hM hT x7 c3 k7 (by decide) (hF4.mono ((g5.trans g6).trans f7.nt.mp)) (fun x8 j8 w8 b1 b2 b3 b4 b5 f8 k8 t8 hF8 => ⟨_, rfl, fun _ => ?_, fun u => absurd u (by decide)⟩) (fun w8 hq => ⟨_, rfl, fun u => absurd rfl u, fun _ => ⟨Or.inl trivial, hq⟩⟩)
      have r40 : w8 193 40 = t 0 2 := by rw [f8 _ _ (by omega), f7 _ _ (by omega), o6 _ _ (by omega)]; exact q40
      have h4S : Int.toNat (4 + t 0 2) = 4 + nS t := by omega
      have h8S : Int.toNat (8 + t 0 2) = 8 + nS t := by omega
      simp only [m_o hM, m_p41 hM, m_a41 hM, r40, t8, h4S, true_and]
      refine ⟨by constructor <;> omega, by constructor <;> omega, ?_⟩
      have g9 : MP w8 (xup w8 213 (4 + nS t) x8) := fun a j p q => xup_o (by omega)
      have k9 : LK T L j8 (xup w8 213 (4 + nS t) x8) := k8.of fun j a b => xup_a (by decide)
      have o9 : ∀ a j, ¬ (a = 213 ∧ j = 4 + nS t) → xup w8 213 (4 + nS t) x8 a j = w8 a j := fun a j q => xup_o q
      have p9 : xup w8 213 (4 + nS t) x8 213 (4 + nS t) = x8 := xup_s
      generalize xup w8 213 (4 + nS t) x8 = w9 at g9 k9 o9 p9
      have x9 := (x7.mp f8.mp).mp g9
      refine wMo_readsStove_110 ?_
      simp only [m_o hM, true_and]
      refine mo_ptakes hM hT x9 b5 k9 (by decide) (hF8.mono g9) (fun f jA wA d1 d2 d3 d4 d5 fA kA tA hFA => ⟨_, rfl, fun _ => ?_, fun u => absurd u (by decide)⟩) (fun wA hq => ⟨_, rfl, fun u => absurd rfl u, fun _ => ⟨Or.inl trivial, hq⟩⟩)
      have s40 : wA 193 40 = t 0 2 := by rw [fA _ _ (by omega), o9 _ _ (by omega)]; exact r40
      simp only [m_o hM, m_p41 hM, m_a41 hM, s40, tA, h8S, true_and]
      refine ⟨by constructor <;> omega, by constructor <;> omega, wMo_readsStove_138 ?_⟩
      have u40 : xup wA 213 (8 + nS t) f 193 40 = t 0 2 := by rw [xup_a (by decide)]; exact s40
      simp only [m_o hM, u40, true_and]
      refine ⟨by constructor <;> omega, ?_⟩
      have gB : MP wA (xup (xup wA 213 (8 + nS t) f) 193 40 (t 0 2 + 1)) := fun a j p q => by rw [xup_o (by omega), xup_o (by omega)]
      have kB : LK T L jA (xup (xup wA 213 (8 + nS t) f) 193 40 (t 0 2 + 1)) := kA.of fun j a b => by rw [xup_k (by omega), xup_a (by decide)]
      have oB : ∀ a j, ¬ (a = 193 ∧ j = 40) → ¬ (a = 213 ∧ j = 8 + nS t) → xup (xup wA 213 (8 + nS t) f) 193 40 (t 0 2 + 1) a j = wA a j := fun a j q q2 => by rw [xup_o q, xup_o q2]
      have pB : xup (xup wA 213 (8 + nS t) f) 193 40 (t 0 2 + 1) 213 (8 + nS t) = f := by rw [xup_a (by decide), xup_s]
      have qB : xup (xup wA 213 (8 + nS t) f) 193 40 (t 0 2 + 1) 193 40 = t 0 2 + 1 := xup_s
      generalize xup (xup wA 213 (8 + nS t) f) 193 40 (t 0 2 + 1) = wB at gB kB oB pB qB
      have nx : NX w wB fun a j => (a = 193 ∧ j = 40) ∨ (a = 214 ∧ j = c) ∨ (a = 213 ∧ (j = nS t ∨ j = 4 + nS t ∨ j = 8 + nS t)) := fun a j p q => by
        rw [oB a j (by omega) (by omega), fA a j p, o9 a j (by omega), f8 a j p, f7 a j (by omega), o6 a j (by omega), o5 a j (by omega), f4 a j p, f3 a j p, f2 a j (by omega)]
      have zB := zm_stove (c := c) hz li (by omega) nx qB (by rw [oB _ _ (by omega) (by omega), fA _ _ (by omega), o9 _ _ (by omega), f8 _ _ (by omega), f7 _ _ (by omega), o6 _ _ (by omega), p5]) (by rw [oB _ _ (by omega) (by omega), fA _ _ (by omega), o9 _ _ (by omega), f8 _ _ (by omega), f7 _ _ (by omega), p6]) (by rw [oB _ _ (by omega) (by omega), fA _ _ (by omega), p9]) pB
      exact mo_pstops hM hT ((x9.mp fA.mp).mp gB) d5 kB zB (hFA.mono gB) fun x wC hxC hq => ⟨_, rfl, hxC, hq⟩
    · rw [if_pos (ifv.2 u)] at hF4
      refine mo_faults hM fun w5 f5 k5 o5 => ⟨_, rfl, Or.inl rfl, hF4.fl (by decide) f5.mp k5 ?_⟩
      rw [o5 27 (by decide), k4.1]
  · rw [if_neg (by omega)] at hF
    refine mo_faults hM fun w4 f4 k4 o4 => ⟨_, rfl, Or.inl rfl, hF.fl (by decide) f4.mp k4 ?_⟩
    rw [o4 27 (by decide), hl.1]
theorem mo_pers85 {c k8 : Int} {j8 : Nat} {w9 : xW} (hM : MG g) (hT : TxI T L) (x9 : TxM T L w9) (b5 : j8 ≤ L) (k9 : LK T L j8 w9) (hz : ZM t s wl w) (li : LInv t) (h6 : t 0 5 < 6) (nx9 : NX w w9 fun a j => (a = 193 ∧ j = 45) ∨ (a = 216 ∧ (j = nP t ∨ j = 6 + nP t ∨ j = 12 + nP t ∨ j = 18 + nP t))) (r45 : w9 193 45 = t 0 5) (p6 : w9 216 (nP t) = c) (p9 : w9 216 (6 + nP t) = k8) (hF8 : mFin T L (pNum T L 1 60 j8 fun u j3 => pNum T L 0 9 j3 fun v j4 => pEnd T L j4 (prT t u v) (prS t s c k8) wl) w9 g Q) : aMo_readsPerson (d + 6) lim Q 85 [xr 193] [] g w9 := by
  obtain ⟨n1, n2, n3, n4, n5, n6⟩ := li_n li
  have h12P : Int.toNat (12 + t 0 5) = 12 + nP t := by omega
  have h18P : Int.toNat (18 + t 0 5) = 18 + nP t := by omega
  refine wMo_readsPerson_85 ?_
  simp only [m_o hM, true_and]
  refine mo_ptakes hM hT x9 b5 k9 (by decide) hF8 (fun xA jA wA d1 d2 d3 d4 d5 fA kA tA hFA => ⟨_, rfl, fun _ => ?_, fun u => absurd u (by decide)⟩) (fun wA hq => ⟨_, rfl, fun u => absurd rfl u, fun _ => ⟨Or.inl trivial, hq⟩⟩)
  have s45 : wA 193 45 = t 0 5 := by rw [fA _ _ (by decide)]; exact r45
  simp only [m_o hM, m_p46 hM, m_a46 hM, s45, tA, h12P, true_and]
  refine ⟨by constructor <;> omega, by constructor <;> omega, ?_⟩
  have gB : MP wA (xup wA 216 (12 + nP t) xA) := fun a j p q => xup_o (by omega)
  have kB : LK T L jA (xup wA 216 (12 + nP t) xA) := kA.of fun j a b => xup_a (by decide)
  have oB : ∀ a j, ¬ (a = 216 ∧ j = 12 + nP t) → xup wA 216 (12 + nP t) xA a j = wA a j := fun a j q => xup_o q
  have pB : xup wA 216 (12 + nP t) xA 216 (12 + nP t) = xA := xup_s
  generalize xup wA 216 (12 + nP t) xA = wB at gB kB oB pB
  have xB := (x9.mp fA.mp).mp gB
  refine wMo_readsPerson_113 ?_
  simp only [m_o hM, true_and]
  refine mo_ptakes hM hT xB d5 kB (by decide) (hFA.mono gB) (fun y jC wC e1 e2 e3 e4 e5 fC kC tC hFC => ⟨_, rfl, fun _ => ?_, fun u => absurd u (by decide)⟩) (fun wC hq => ⟨_, rfl, fun u => absurd rfl u, fun _ => ⟨Or.inl trivial, hq⟩⟩)
  have u45 : wC 193 45 = t 0 5 := by rw [fC _ _ (by omega), oB _ _ (by omega)]; exact s45
  simp only [m_o hM, m_p46 hM, m_a46 hM, u45, tC, h18P, true_and]
  refine ⟨by constructor <;> omega, by constructor <;> omega, wMo_readsPerson_141 ?_⟩
  have v45 : xup wC 216 (18 + nP t) y 193 45 = t 0 5 := by rw [xup_a (by decide)]; exact u45
  simp only [m_o hM, v45, true_and]
  refine ⟨by constructor <;> omega, ?_⟩
  have gD : MP wC (xup (xup wC 216 (18 + nP t) y) 193 45 (t 0 5 + 1)) := fun a j p q => by rw [xup_o (by omega), xup_o (by omega)]
  have kD : LK T L jC (xup (xup wC 216 (18 + nP t) y) 193 45 (t 0 5 + 1)) := kC.of fun j a b => by rw [xup_k (by omega), xup_a (by decide)]
  have oD : ∀ a j, ¬ (a = 193 ∧ j = 45) → ¬ (a = 216 ∧ j = 18 + nP t) → xup (xup wC 216 (18 + nP t) y) 193 45 (t 0 5 + 1) a j = wC a j := fun a j q q2 => by rw [xup_o q, xup_o q2]
  have pD : xup (xup wC 216 (18 + nP t) y) 193 45 (t 0 5 + 1) 216 (18 + nP t) = y := by rw [xup_a (by decide), xup_s]
  have qD : xup (xup wC 216 (18 + nP t) y) 193 45 (t 0 5 + 1) 193 45 = t 0 5 + 1 := xup_s
  generalize xup (xup wC 216 (18 + nP t) y) 193 45 (t 0 5 + 1) = wD at gD kD oD pD qD
  have nx : NX w wD fun a j => (a = 193 ∧ j = 45) ∨ (a = 216 ∧ (j = nP t ∨ j = 6 + nP t ∨ j = 12 + nP t ∨ j = 18 + nP t)) := fun a j p q => by
    rw [oD a j (fun z => q (Or.inl z)) (fun z => q (Or.inr ⟨z.1, Or.inr (Or.inr (Or.inr z.2))⟩)), fC a j p, oB a j (fun z => q (Or.inr ⟨z.1, Or.inr (Or.inr (Or.inl z.2))⟩)), fA a j p, nx9 a j p q]
  have e0 : wD 216 (nP t) = c := by rw [oD _ _ (fun z => absurd z.1 (by decide)) (by omega), fC _ _ (fun z => absurd z.1 (by decide)), oB _ _ (by omega), fA _ _ (fun z => absurd z.1 (by decide)), p6]
  have e6 : wD 216 (6 + nP t) = k8 := by rw [oD _ _ (fun z => absurd z.1 (by decide)) (by omega), fC _ _ (fun z => absurd z.1 (by decide)), oB _ _ (by omega), fA _ _ (fun z => absurd z.1 (by decide)), p9]
  have e12 : wD 216 (12 + nP t) = xA := by rw [oD _ _ (fun z => absurd z.1 (by decide)) (by omega), fC _ _ (fun z => absurd z.1 (by decide)), pB]
  have zD := zm_pers hz li h6 nx qD e0 e6 e12 pD
  exact mo_pstops hM hT ((xB.mp fC.mp).mp gD) e5 kD zD (hFC.mono gD) fun x wE hxE hq => ⟨_, rfl, hxE, hq⟩
theorem mo_rPers (h : MC g T L t s v wl w i) (ha : sk T L i < L) (hd : ¬ dgt T (sk T L i)) (h0 : t 0 0 ≠ 0) (hF : mFin T L (if t 0 5 < 6 then pPers T L (sk T L i + 1) t s wl else flt1 3 (sk T L i)) w g Q) : cal (d + 7) nMo_readsPerson [xr 193] g w Q := by
  obtain ⟨hM, hT, hx, hz, zi, hiL, hl⟩ := h
  refine eMo_readsPerson fun lim Q2 h2 => wMo_readsPerson_0 ?_
  have hF : mFin T L (if t 0 5 < 6 then pPers T L (sk T L i + 1) t s wl else flt1 3 (sk T L i)) w g Q2 := fun w2 a b => h2 _ _ _ rfl (hF w2 a b)
  have e45 : w 193 45 = t 0 5 := hz.2.2.2.2.2.2.2.1
  have li := zi.1
  obtain ⟨n1, n2, n3, n4, n5, n6⟩ := li_n li
  simp only [m_o hM, e45, true_and]
  refine ⟨fun z => ?_, fun z => ?_⟩
  · rw [if_pos (by omega)] at hF
    unfold pPers pCell at hF
    refine mo_goOn hM hT hx hiL hl fun w2 f2 k2 => ⟨rfl, ?_⟩
    rw [tkL_1 ha hd] at k2
    have x2 := hx.mp f2.nt.mp
    have z2 := hz.of f2.nt
    simp only [m_o hM, true_and]
    refine mo_takesX hM hT x2 (by omega) k2 z2 li (hF.mono f2.nt.mp) (fun x j w3 a1 a2 a4 a5 f3 k3 t3 hF3 => ⟨_, rfl, fun u => absurd u (by decide), fun _ => ?_⟩) (fun w3 hq => ⟨_, rfl, fun _ => ⟨Or.inl trivial, hq⟩, fun u => absurd rfl u⟩)
    have z3 := z2.of f3
    have x3 := x2.mp f3.mp
    rw [t3]
    simp only [m_o hM, true_and]
    refine mo_seesY (K := fun c j _ => pNum T L 0 300 j fun k j2 => pNum T L 1 60 j2 fun u j3 => pNum T L 0 9 j3 fun v j4 => pEnd T L j4 (prT t u v) (prS t s c k) wl) hM hT x3 a5 k3 z3 li ⟨a1, a2⟩ hF3 (fun c w4 c1 c2 c3 f4 k4 t4 hF4 => ⟨_, rfl, fun _ => ?_, fun u => absurd u (by decide)⟩) (fun w4 hq => ⟨_, rfl, fun u => absurd rfl u, fun _ => ⟨Or.inl trivial, hq⟩⟩)
    have x4 := x3.mp f4.mp
    have z4 := z3.of f4
    have q45 : w4 193 45 = t 0 5 := z4.2.2.2.2.2.2.2.1
    have hnP : Int.toNat (t 0 5) = nP t := rfl
    simp only [m_o hM, m_p46 hM, m_a46 hM, q45, t4, hnP, true_and]
    refine ⟨by constructor <;> omega, ?_⟩
    have g6 : MP w4 (xup w4 216 (nP t) c) := fun a j p q => xup_o (by omega)
    have k6 : LK T L j (xup w4 216 (nP t) c) := k4.of fun j a b => xup_a (by decide)
    have o6 : ∀ a j, ¬ (a = 216 ∧ j = nP t) → xup w4 216 (nP t) (c : Int) a j = w4 a j := fun a j q => xup_o q
    have p6 : xup w4 216 (nP t) (c : Int) 216 (nP t) = c := xup_s
    generalize xup w4 216 (nP t) (c : Int) = w6 at g6 k6 o6 p6
    have x6 := x4.mp g6
    refine wMo_readsPerson_52 ?_
    simp only [m_o hM, true_and]
    refine mo_goOn hM hT x6 a5 k6 fun w7 f7 k7 => ⟨rfl, ?_⟩
    have x7 := x6.mp f7.nt.mp
    simp only [m_o hM, true_and]
    refine mo_ptakes hM hT x7 c3 k7 (by decide) (hF4.mono (g6.trans f7.nt.mp)) (fun x8 j8 w8 b1 b2 b3 b4 b5 f8 k8 t8 hF8 => ⟨_, rfl, fun _ => ?_, fun u => absurd u (by decide)⟩) (fun w8 hq => ⟨_, rfl, fun u => absurd rfl u, fun _ => ⟨Or.inl trivial, hq⟩⟩)
    have r45 : w8 193 45 = t 0 5 := by rw [f8 _ _ (by omega), f7 _ _ (by omega), o6 _ _ (by omega)]; exact q45
    have h6P : Int.toNat (6 + t 0 5) = 6 + nP t := by omega
    simp only [m_o hM, m_p46 hM, m_a46 hM, r45, t8, h6P, true_and]
    refine ⟨by constructor <;> omega, by constructor <;> omega, ?_⟩
    have g9 : MP w8 (xup w8 216 (6 + nP t) x8) := fun a j p q => xup_o (by omega)
    have k9 : LK T L j8 (xup w8 216 (6 + nP t) x8) := k8.of fun j a b => xup_a (by decide)
    have o9 : ∀ a j, ¬ (a = 216 ∧ j = 6 + nP t) → xup w8 216 (6 + nP t) x8 a j = w8 a j := fun a j q => xup_o q
    have p9 : xup w8 216 (6 + nP t) x8 216 (6 + nP t) = x8 := xup_s
    generalize xup w8 216 (6 + nP t) x8 = w9 at g9 k9 o9 p9
    have x9 := (x7.mp f8.mp).mp g9
    refine mo_pers85 hM hT x9 b5 k9 hz li (by omega) (fun a j p q => ?_) ?_ ?_ p9 (hF8.mono g9)
    · rw [o9 a j (fun z => q (Or.inr ⟨z.1, Or.inr (Or.inl z.2)⟩)), f8 a j p, f7 a j (fun z => p ⟨z.1, Or.inl ⟨z.2.1, by omega⟩⟩), o6 a j (fun z => q (Or.inr ⟨z.1, Or.inl z.2⟩)), f4 a j p, f3 a j p, f2 a j (fun z => p ⟨z.1, Or.inl ⟨z.2.1, by omega⟩⟩)]
    · rw [o9 _ _ (fun z => absurd z.1 (by decide))]; exact r45
    · rw [o9 _ _ (by omega), f8 _ _ (fun z => absurd z.1 (by decide)), f7 _ _ (fun z => absurd z.1 (by decide)), p6]
  · rw [if_neg (by omega)] at hF
    refine mo_faults hM fun w4 f4 k4 o4 => ⟨_, rfl, Or.inl rfl, hF.fl (by decide) f4.mp k4 ?_⟩
    rw [o4 27 (by decide), hl.1]
theorem mo_sun1 : ∀ (n h i : Nat) (t : zS) (w : xW), h + n = 7 → t 0 4 = h → MC g T L t s v wl w i → mFin T L (pSun T L s wl (n + 1) h i t) w g Q → aMo_readsSun (d + 6) lim Q 19 [xr 193, xi 1] [] g w
  | n, h, i, t, w, hn, h4, hC, hF => by
    obtain ⟨hM, hT, hx, hz, zi, hiL, hl⟩ := id hC
    unfold pSun at hF
    have li := zi.1
    refine wMo_readsSun_19 ?_
    simp only [m_o hM, true_and]
    refine ⟨fun u => absurd u (by decide), fun _ => mo_ptakes hM hT hx hiL hl (by decide) hF (fun x j w1 b1 b2 b3 b4 b5 f1 k1 t1 hF1 => ⟨_, rfl, fun _ => ?_, fun u => absurd u (by decide)⟩) (fun w1 hq => ⟨_, rfl, fun u => absurd rfl u, fun _ => ⟨Or.inl trivial, hq⟩⟩)⟩
    have e43 : w1 193 43 = (h : Int) := by rw [f1 _ _ (by omega), ← h4]; exact hz.2.2.2.2.2.2.1
    simp only [m_o hM, m_p44 hM, m_a44 hM, e43, t1, true_and]
    refine ⟨by constructor <;> omega, wMo_readsSun_48 ?_⟩
    rw [Int.toNat_natCast]
    have r43 : xup w1 215 h x 193 43 = (h : Int) := by rw [xup_a (by decide)]; exact e43
    have g2 : MP w1 (xup (xup w1 215 h x) 193 43 ((h : Int) + 1)) := fun a j p q => by rw [xup_o (by omega), xup_o (by omega)]
    have k2 : LK T L j (xup (xup w1 215 h x) 193 43 ((h : Int) + 1)) := k1.of fun j a b => by rw [xup_k (by omega), xup_a (by decide)]
    have o2 : ∀ a j, ¬ (a = 193 ∧ j = 43) → ¬ (a = 215 ∧ j = h) → xup (xup w1 215 h x) 193 43 ((h : Int) + 1) a j = w1 a j := fun a j q q2 => by rw [xup_o q, xup_o q2]
    have p2 : xup (xup w1 215 h x) 193 43 ((h : Int) + 1) 215 h = x := by rw [xup_a (by decide), xup_s]
    have q2 : xup (xup w1 215 h x) 193 43 ((h : Int) + 1) 193 43 = (h : Int) + 1 := xup_s
    simp only [m_o hM, r43, true_and]
    generalize xup (xup w1 215 h x) 193 43 ((h : Int) + 1) = w2 at g2 k2 o2 p2 q2
    have x2 := (hx.mp f1.mp).mp g2
    have nx : NX w w2 fun a j => (a = 193 ∧ j = 43) ∨ (a = 215 ∧ j = h) := fun a j p q => by rw [o2 a j (by omega) (by omega), f1 a j p]
    have z2 := zm_sun (n := h) (x := x) hz h4 nx q2 p2
    have zi2 := zi_sun zi ⟨b1, b2⟩ h4 (by omega)
    have hF2 := hF1.mono g2
    have b := sk_b (T := T) b5
    obtain ⟨l1, l2, l3, l4⟩ := id k2
    have e44 : tkV T L (sk T L j) = 44 ↔ (sk T L j < L ∧ T (sk T L j) = 44) := by
      unfold tkV
      by_cases q : sk T L j < L
      · rw [if_pos q]
        by_cases q2 : dgt T (sk T L j)
        · rw [if_pos q2]; exact ⟨fun z => absurd z (by decide), fun z => by omega⟩
        · rw [if_neg q2]
          by_cases q3 : T (sk T L j) < 2
          · rw [if_pos q3]; exact ⟨fun z => absurd z (by decide), fun z => by omega⟩
          · rw [if_neg q3]; exact ⟨fun z => ⟨q, z⟩, fun z => z.2⟩
      · rw [if_neg q]; exact ⟨fun z => absurd z (by decide), fun z => absurd z.1 q⟩
    have no : ¬ (h + 1 < 8 ∧ sk T L j < L ∧ T (sk T L j) = 44) → aMo_readsSun (d + 6) lim Q 81 [xr 193, none] [xi 0] g w2 := fun z => by
      rw [if_neg z] at hF2
      refine wMo_readsSun_81 ?_
      simp only [m_o hM, true_and]
      refine ⟨fun _ => wMo_readsSun_19 ?_, fun u => absurd trivial u⟩
      simp only [m_o hM, true_and]
      exact ⟨fun _ => mo_pstops hM hT x2 b5 k2 z2 hF2 fun x w6 hx6 hq => ⟨_, rfl, hx6, hq⟩, fun u => absurd trivial u⟩
    simp only [l3, q2]
    refine ⟨by constructor <;> omega, fun z => no (fun y => z (e44.2 y.2)), fun z => ⟨fun y => no (by omega), fun y => ?_⟩⟩
    have z := e44.1 z
    rw [if_pos ⟨by omega, z.1, z.2⟩] at hF2
    refine wMo_readsSun_81 ?_
    simp only [m_o hM, true_and]
    refine ⟨fun u => absurd u (by decide), fun _ => mo_goOn hM hT x2 b5 k2 fun w3 f3 k3 => ⟨rfl, ?_⟩⟩
    rw [tkL_1 z.1 (fun u => by omega)] at k3
    match n, hn, hF2 with
    | 0, hn, _ => omega
    | m + 1, hn, hF2 => exact mo_sun1 m (h + 1) (sk T L j + 1) (snT t h x) w3 (by omega) (by rw [snT_4]; rfl) ⟨hM, hT, x2.mp f3.nt.mp, z2.of f3.nt, zi2, by omega, k3⟩ (hF2.mono f3.nt.mp)
theorem mo_rSun (h : MC g T L t s v wl w i) (ha : sk T L i < L) (hd : ¬ dgt T (sk T L i)) (hF : mFin T L (if t 0 4 = 0 then pSun T L s wl 8 0 (sk T L i + 1) t else flt1 3 (sk T L i)) w g Q) : cal (d + 7) nMo_readsSun [xr 193] g w Q := by
  obtain ⟨hM, hT, hx, hz, zi, hiL, hl⟩ := h
  refine eMo_readsSun fun lim Q2 h2 => wMo_readsSun_0 ?_
  have hF : mFin T L (if t 0 4 = 0 then pSun T L s wl 8 0 (sk T L i + 1) t else flt1 3 (sk T L i)) w g Q2 := fun w2 a b => h2 _ _ _ rfl (hF w2 a b)
  have e43 : w 193 43 = t 0 4 := hz.2.2.2.2.2.2.1
  have h4 := zi.1.2.2.2.1
  simp only [m_o hM, e43, true_and]
  refine ⟨fun z => ?_, fun z => ?_⟩
  · rw [if_pos (by omega)] at hF
    refine mo_goOn hM hT hx hiL hl fun w1 f1 k1 => ⟨rfl, ?_⟩
    rw [tkL_1 ha hd] at k1
    exact mo_sun1 7 0 (sk T L i + 1) t w1 rfl (by omega) ⟨hM, hT, hx.mp f1.nt.mp, hz.of f1.nt, zi, by omega, k1⟩ (hF.mono f1.nt.mp)
  · rw [if_neg (by omega)] at hF
    refine mo_faults hM fun w4 f4 k4 o4 => ⟨_, rfl, Or.inl rfl, hF.fl (by decide) f4.mp k4 ?_⟩
    rw [o4 27 (by decide), hl.1]
end MTF
