/-! ===== the reference reads clauses: walls, stoves, roofs ===== -/
section MTE
variable {g : xG} {w w0 : xW} {T : zT} {L : Nat} {t s : zS} {d : Nat} {Q : xQ} {lim : Nat × Nat} {v wl : Int} {i : Nat}
/-- a letter is passed, x is taken, y is seen -/
theorem MC.letter (h : MC g T L t s v wl w i) (ha : sk T L i < L) (hd : ¬ dgt T (sk T L i)) : tkL T L (sk T L i) = 1 := tkL_1 ha hd
theorem xup_o {a j : Nat} {x : Int} {b k : Nat} (q : ¬ (b = a ∧ k = j)) : xup w a j x b k = w b k := by
  by_cases u : b = a
  · subst u; exact xup_k (fun y => q ⟨rfl, y⟩)
  · exact xup_a u
theorem mo_rWall (h : MC g T L t s v wl w i) (ha : sk T L i < L) (hd : ¬ dgt T (sk T L i)) (h0 : t 0 0 ≠ 0) (hF : mFin T L (if wl < 12 then pWall T L (sk T L i + 1) t s wl else flt1 3 (sk T L i)) w g Q) : cal (d + 7) nMo_readsWall [xr 193] g w Q := by
  obtain ⟨hM, hT, hx, hz, zi, hiL, hl⟩ := h
  refine eMo_readsWall fun lim Q2 h2 => wMo_readsWall_0 ?_
  have hF : mFin T L (if wl < 12 then pWall T L (sk T L i + 1) t s wl else flt1 3 (sk T L i)) w g Q2 := fun w2 a b => h2 _ _ _ rfl (hF w2 a b)
  have e37 : w 193 37 = wl := hz.2.2.2.1
  have hw := zi.2.2.2.1
  have li := zi.1
  obtain ⟨n1, n2, -⟩ := li_n li
  have hW : 1 ≤ t 0 0 ∧ t 0 0 ≤ 6 ∧ 1 ≤ t 0 1 ∧ t 0 1 ≤ 6 := by rcases li.1 with q | q <;> omega
  simp only [m_o hM, e37, true_and]
  refine ⟨fun z => ⟨by constructor <;> omega, ?_⟩, fun z => ?_⟩
  · rw [if_pos (by omega)] at hF
    unfold pWall pCell at hF
    have g1 : MP w (xup w 193 37 (wl + 1)) := fun a j p q => xup_o (by omega)
    have k1 : LK T L i (xup w 193 37 (wl + 1)) := hl.of fun j a b => xup_k (by omega)
    have o1 : ∀ a j, ¬ (a = 193 ∧ j = 37) → xup w 193 37 (wl + 1) a j = w a j := fun a j q => xup_o q
    have p1 : xup w 193 37 (wl + 1) 193 37 = wl + 1 := xup_s
    generalize xup w 193 37 (wl + 1) = w1 at g1 k1 o1 p1
    have x1 := hx.mp g1
    refine mo_goOn hM hT x1 hiL k1 fun w2 f2 k2 => ⟨rfl, ?_⟩
    rw [tkL_1 ha hd] at k2
    have z2 : ZM t s (wl + 1) w2 := by
      obtain ⟨h1, h2, h3, h4, h5, h6, h7, h8, h9, h10, h11, h12⟩ := hz
      have f : ∀ a j, ¬ (a = 193 ∧ (27 ≤ j ∧ j ≤ 30 ∨ j = 37)) → w2 a j = w a j := fun a j q => by rw [f2 a j (by omega), o1 a j (by omega)]
      refine ⟨by rw [f _ _ (by omega), h1], by rw [f _ _ (by omega), h2], fun q i => by rw [f _ _ (by omega)]; exact h3 q i, (f2 193 37 (by omega)).trans p1, by rw [f _ _ (by omega), h5], by rw [f _ _ (by omega), h6], by rw [f _ _ (by omega), h7], by rw [f _ _ (by omega), h8], fun i q => ?_, fun k q => ?_, fun k q => ?_, fun p q => ?_⟩
      · rw [f _ _ (by omega), f _ _ (by omega), f _ _ (by omega), f _ _ (by omega)]; exact h9 i q
      · rw [f _ _ (by omega), f _ _ (by omega), f _ _ (by omega)]; exact h10 k q
      · rw [f _ _ (by omega)]; exact h11 k q
      · rw [f _ _ (by omega), f _ _ (by omega), f _ _ (by omega), f _ _ (by omega)]; exact h12 p q
    have x2 := x1.mp f2.nt.mp
    simp only [m_o hM, true_and]
    refine mo_takesX hM hT x2 (by omega) k2 z2 li (hF.mono (g1.trans f2.nt.mp)) (fun x j w3 a1 a2 a4 a5 f3 k3 t3 hF3 => ⟨_, rfl, fun u => absurd u (by decide), fun _ => ?_⟩) (fun w3 hq => ⟨_, rfl, fun _ => ⟨Or.inl trivial, hq⟩, fun u => absurd rfl u⟩)
    have z3 := z2.of f3
    have x3 := x2.mp f3.mp
    rw [t3]
    simp only [m_o hM, true_and]
    refine mo_seesY (K := fun c j2 _ => pNum T L 0 1 j2 fun d j3 => if nbr t c (2 + d) = -1 then flt1 2 (sk T L j2) else if s (1 + d.toNat) c = 0 then pEnd T L j3 t (bld s d.toNat c 1) (wl + 1) else flt1 4 (sk T L j2)) hM hT x3 a5 k3 z3 li ⟨a1, a2⟩ hF3 (fun c w4 c1 c2 c3 f4 k4 t4 hF4 => ⟨_, rfl, fun _ => ?_, fun u => absurd u (by decide)⟩) (fun w4 hq => ⟨_, rfl, fun u => absurd rfl u, fun _ => ⟨Or.inl trivial, hq⟩⟩)
    have x4 := x3.mp f4.mp
    have z4 := z3.of f4
    simp only [m_o hM, t4, true_and]
    refine mo_goOn hM hT x4 a5 k4 fun w5 f5 k5 => ⟨rfl, ?_⟩
    have z5 := z4.of f5.nt
    have x5 := x4.mp f5.nt.mp
    have hF5 := hF4.mono f5.nt.mp
    generalize hJ : sk T L j + tkL T L (sk T L j) = J at *
    obtain ⟨l1, l2, l3, l4⟩ := id k5
    have b := sk_b (T := T) c3
    have fb := fg_b (T := T) b.2
    have e33 : w5 193 33 = t 0 0 := z5.1
    have e34 : w5 193 34 = t 0 1 := z5.2.1
    have gc := geo li (c := (c : Int)) (by omega)
    have nz := geo2 li (c := (c : Int)) (by omega)
    simp only [m_o hM, l3, l4, e33, e34, Int.tdiv_eq_ediv_of_nonneg (show (0 : Int) ≤ (c : Int) by omega), Int.tmod_eq_emod_of_nonneg (show (0 : Int) ≤ (c : Int) by omega), true_and]
    have fail : ∀ k : Int, k ≠ 0 → mFin T L (flt1 k (sk T L J)) w5 g Q2 → ∀ d2, cal (d2 + 1) nMo_faults [xr 193, xi k] g w5 (fun r g4 w4 => ∃ v4 : Int, r = some (xi v4) ∧ ((v4 : Int) = 0 ∨ (v4 : Int) = 1) ∧ Q2 (some (xi v4)) g4 w4) := fun k hk hF d2 => by
      refine mo_faults hM fun w2 f2 k2 o2 => ⟨_, rfl, Or.inl rfl, hF.fl hk f2.mp k2 ?_⟩
      rw [o2 27 (by decide), l1]
    have b140 : mFin T L (flt1 2 (sk T L J)) w5 g Q2 → aMo_readsWall (d + 6) lim Q2 140 [xr 193, none, none] [] g w5 := fun hb => by
      refine wMo_readsWall_140 ?_
      simp only [m_o hM, true_and]
      exact fail 2 (by decide) hb _
    refine ⟨fun u => ?_, fun u => ?_⟩
    · have u := (tkV_1 hT).1 u
      have f1 := fg_1 u
      have en : tkN T L (sk T L J) = if fg T L (sk T L J) ≤ 3 then vlU T (sk T L J) (fg T L (sk T L J)) else 1000000 := by unfold tkN; exact if_pos u
      have el : tkL T L (sk T L J) = fg T L (sk T L J) := by unfold tkL; rw [if_pos u.1, if_pos u.2]
      have main : ∀ q : Int, (q = 0 ∨ q = 1) → ((tkN T L (sk T L J) = 0 ∨ tkN T L (sk T L J) = 1) → (q = 0 ↔ nbr t c (2 + tkN T L (sk T L J)) = -1)) → aMo_readsWall (d + 6) lim Q2 122 [xr 193, xi c, none] [xi q] g w5 := fun q hq hqn => by
        refine wMo_readsWall_122 ?_
        simp only [m_o hM, l4, true_and]
        refine mo_in ⟨_, rfl, fun y => b140 ?_, fun y => ?_⟩
        · have y := ifv.1 y
          have er : rnm T L 0 1 J = (-2, sk T L J) := by
            unfold rnm
            rw [if_neg (by omega), if_pos]
            by_cases r : fg T L (sk T L J) ≤ 3
            · rw [en, if_pos r] at y; omega
            · omega
          have := hF5
          unfold pNum at this
          rw [er] at this; exact this
        · have y := ifv.2 y
          have h3 : fg T L (sk T L J) ≤ 3 := Classical.byContradiction fun q => by rw [en, if_neg q] at y; omega
          have en : tkN T L (sk T L J) = vlU T (sk T L J) (fg T L (sk T L J)) := en.trans (if_pos h3)
          have er : rnm T L 0 1 J = (tkN T L (sk T L J), sk T L J + tkL T L (sk T L J)) := by
            rw [el, en]
            rw [en] at y
            unfold rnm; rw [if_neg (by omega), if_neg (by omega)]
          have hF5 : mFin T L (if nbr t c (2 + tkN T L (sk T L J)) = -1 then flt1 2 (sk T L J) else if s (1 + (tkN T L (sk T L J)).toNat) c = 0 then pEnd T L (sk T L J + tkL T L (sk T L J)) t (bld s (tkN T L (sk T L J)).toNat c 1) (wl + 1) else flt1 4 (sk T L J)) w5 g Q2 := by
            have := hF5
            unfold pNum at this
            rw [er] at this
            rw [if_neg (show ¬ tkN T L (sk T L J) < 0 by omega)] at this
            exact this
          have hqn := hqn (by omega)
          generalize tkN T L (sk T L J) = D at *
          refine ⟨fun r => ?_, fun r => b140 ?_⟩
          · rw [if_neg (fun z => r (hqn.2 z))] at hF5
            simp only [m_o hM, m_p36 hM, m_r36 hM, m_a36 hM, l4, true_and]
            have eD : w5 211 (Int.toNat (20 * D + (c : Int))) = s (1 + D.toNat) c := by
              rcases (by omega : D = 0 ∨ D = 1) with v | v <;> subst v
              · rw [show Int.toNat (20 * 0 + (c : Int)) = c by omega]; exact (z5.2.2.2.2.2.2.2.2.1 c (by omega)).1
              · rw [show Int.toNat (20 * 1 + (c : Int)) = 20 + c by omega]; exact (z5.2.2.2.2.2.2.2.2.1 c (by omega)).2.1
            have s01 : s (1 + D.toNat) c = 0 ∨ s (1 + D.toNat) c = 1 := by
              have := zi.2.1.2.1 c
              rw [sd_n (by decide), sd_n (by decide)] at this
              rcases (by omega : D = 0 ∨ D = 1) with v | v <;> subst v
              · exact this.1
              · exact this.2
            rw [eD]
            refine ⟨by constructor <;> omega, by constructor <;> omega, by constructor <;> omega, fun z => ⟨by constructor <;> omega, by constructor <;> omega, by constructor <;> omega, ?_⟩, fun z => ?_⟩
            · rw [if_pos (by omega)] at hF5
              have g6 : MP w5 (xup w5 211 (Int.toNat (20 * D + (c : Int))) 1) := fun a j p q => xup_o (by omega)
              have k6 : LK T L J (xup w5 211 (Int.toNat (20 * D + (c : Int))) 1) := k5.of fun j a b => xup_a (by decide)
              have o6 : ∀ a j, ¬ (a = 211 ∧ j = Int.toNat (20 * D + (c : Int))) → xup w5 211 (Int.toNat (20 * D + (c : Int))) 1 a j = w5 a j := fun a j q => xup_o q
              have p6 : xup w5 211 (Int.toNat (20 * D + (c : Int))) 1 211 (Int.toNat (20 * D + (c : Int))) = 1 := xup_s
              generalize xup w5 211 (Int.toNat (20 * D + (c : Int))) 1 = w6 at g6 k6 o6 p6
              have x6 := x5.mp g6
              refine mo_goOn hM hT x6 c3 k6 fun w7 f7 k7 => ⟨rfl, ?_⟩
              simp only [m_o hM, true_and]
              have eix : Int.toNat (20 * D + (c : Int)) = 20 * D.toNat + c := by omega
              have nx : NX w w7 fun a j => (a = 193 ∧ j = 37) ∨ (a = 211 ∧ j = 20 * D.toNat + c) := fun a j p q => by
                rw [f7 a j (by omega), o6 a j (by omega), f5 a j (by omega), f4 a j p, f3 a j p, f2 a j (by omega), o1 a j (by omega)]
              have z7 := zm_wall (D := D.toNat) (c := c) hz (by omega) (by omega) nx (by
                rw [f7 _ _ (by omega), o6 _ _ (by omega), f5 _ _ (by omega), f4 _ _ (by omega), f3 _ _ (by omega), f2 _ _ (by omega), p1]) (by
                rw [f7 _ _ (by omega), ← eix, p6])
              exact mo_pstops hM hT (x6.mp f7.nt.mp) (by omega) k7 z7 (hF5.mono (g6.trans f7.nt.mp)) fun x w8 hx8 hq => ⟨_, rfl, hx8, hq⟩
            · rw [if_neg (by omega)] at hF5
              exact fail 4 (by decide) hF5 _
          · rw [if_pos (hqn.1 r)] at hF5; exact hF5
      refine ⟨fun y => ⟨⟨by omega, by constructor <;> omega⟩, by constructor <;> omega, fun q => main 0 (Or.inl rfl) fun y2 => ?_, fun q => main 1 (Or.inr rfl) fun y2 => ?_⟩, fun y => ⟨⟨by omega, by constructor <;> omega⟩, by constructor <;> omega, fun q => main 0 (Or.inl rfl) fun y2 => ?_, fun q => main 1 (Or.inr rfl) fun y2 => ?_⟩⟩
      · rw [show (2 + tkN T L (sk T L J)) = 3 by omega, nbr_3, if_neg (by omega)]; exact ⟨fun _ => rfl, fun _ => rfl⟩
      · rw [show (2 + tkN T L (sk T L J)) = 3 by omega, nbr_3, if_pos q]; omega
      · rw [y, show ((2 : Int) + 0) = 2 by omega, nbr_2, if_neg (by omega)]; exact ⟨fun _ => rfl, fun _ => rfl⟩
      · rw [y, show ((2 : Int) + 0) = 2 by omega, nbr_2, if_pos q]; omega
    · have u : ¬ (sk T L J < L ∧ dgt T (sk T L J)) := fun y => u ((tkV_1 hT).2 y)
      have er : rnm T L 0 1 J = (-1, sk T L J) := by unfold rnm; rw [if_pos (fg_0 u)]
      have hF5 : mFin T L (flt1 1 (sk T L J)) w5 g Q2 := by
        have := hF5
        unfold pNum at this
        rw [er] at this; exact this
      exact fail 1 (by decide) hF5 _
  · rw [if_neg (by omega)] at hF
    refine mo_faults hM fun w4 f4 k4 o4 => ⟨_, rfl, Or.inl rfl, hF.fl (by decide) f4.mp k4 ?_⟩
    rw [o4 27 (by decide), hl.1]
theorem mo_rRoof (h : MC g T L t s v wl w i) (ha : sk T L i < L) (hd : ¬ dgt T (sk T L i)) (h0 : t 0 0 ≠ 0) (hF : mFin T L (if t 0 3 < 12 then pRoof T L (sk T L i + 1) t s wl else flt1 3 (sk T L i)) w g Q) : cal (d + 7) nMo_readsRoof [xr 193] g w Q := by
  obtain ⟨hM, hT, hx, hz, zi, hiL, hl⟩ := h
  refine eMo_readsRoof fun lim Q2 h2 => wMo_readsRoof_0 ?_
  have hF : mFin T L (if t 0 3 < 12 then pRoof T L (sk T L i + 1) t s wl else flt1 3 (sk T L i)) w g Q2 := fun w2 a b => h2 _ _ _ rfl (hF w2 a b)
  have e39 : w 193 39 = t 0 3 := hz.2.2.2.2.1
  have li := zi.1
  have h3 := li.2.2.1
  obtain ⟨n1, n2, -⟩ := li_n li
  simp only [m_o hM, e39, true_and]
  refine ⟨fun z => ⟨by constructor <;> omega, wMo_readsRoof_25 ?_⟩, fun z => ?_⟩
  · rw [if_pos (by omega)] at hF
    unfold pRoof pCell at hF
    have g1 : MP w (xup w 193 39 (t 0 3 + 1)) := fun a j p q => xup_o (by omega)
    have k1 : LK T L i (xup w 193 39 (t 0 3 + 1)) := hl.of fun j a b => xup_k (by omega)
    have o1 : ∀ a j, ¬ (a = 193 ∧ j = 39) → xup w 193 39 (t 0 3 + 1) a j = w a j := fun a j q => xup_o q
    have p1 : xup w 193 39 (t 0 3 + 1) 193 39 = t 0 3 + 1 := xup_s
    generalize xup w 193 39 (t 0 3 + 1) = w1 at g1 k1 o1 p1
    have x1 := hx.mp g1
    simp only [m_o hM, true_and]
    refine mo_goOn hM hT x1 hiL k1 fun w2 f2 k2 => ⟨rfl, ?_⟩
    rw [tkL_1 ha hd] at k2
    have x2 := x1.mp f2.nt.mp
    -- a land with a roof more told
    have z2 : ZM (zset t 0 (zup (t 0) 3 (t 0 3 + 1))) s wl w2 := by
      obtain ⟨h1, h2, h3, h4, h5, h6, h7, h8, h9, h10, h11, h12⟩ := hz
      have f : ∀ a j, ¬ (a = 193 ∧ (27 ≤ j ∧ j ≤ 30 ∨ j = 39)) → w2 a j = w a j := fun a j q => by rw [f2 a j (by omega), o1 a j (by omega)]
      have eo : ∀ i, i ≠ 3 → zset t 0 (zup (t 0) 3 (t 0 3 + 1)) 0 i = t 0 i := fun i q => by rw [zset_s, zup_n q]
      have en : ∀ r i, r ≠ 0 → zset t 0 (zup (t 0) 3 (t 0 3 + 1)) r i = t r i := fun r i q => zset_n q
      have eS : nS (zset t 0 (zup (t 0) 3 (t 0 3 + 1))) = nS t := by unfold nS; rw [eo 2 (by decide)]
      have eP : nP (zset t 0 (zup (t 0) 3 (t 0 3 + 1))) = nP t := by unfold nP; rw [eo 5 (by decide)]
      refine ⟨by rw [f _ _ (by omega), h1, eo 0 (by decide)], by rw [f _ _ (by omega), h2, eo 1 (by decide)], fun q i => by rw [eo 0 (by decide)] at q; rw [f _ _ (by omega)]; exact h3 q i, by rw [f _ _ (by omega), h4], by rw [f2 _ _ (by omega), p1, zset_s, zup_s], by rw [f _ _ (by omega), h6, eo 2 (by decide)], by rw [f _ _ (by omega), h7, eo 4 (by decide)], by rw [f _ _ (by omega), h8, eo 5 (by decide)], fun i q => ?_, fun k q => ?_, fun k q => ?_, fun p q => ?_⟩
      · rw [f _ _ (by omega), f _ _ (by omega), f _ _ (by omega), f _ _ (by omega), en 1 i (by decide), eS, hsU_c (t := t) _ fun k _ => en 3 k (by decide)]; exact h9 i q
      · rw [f _ _ (by omega), f _ _ (by omega), f _ _ (by omega), en 3 k (by decide), en 4 k (by decide)]; exact h10 k (by omega)
      · rw [eo 4 (by decide)] at q
        rw [f _ _ (by omega), en 2 k (by decide)]; exact h11 k q
      · rw [f _ _ (by omega), f _ _ (by omega), f _ _ (by omega), f _ _ (by omega), en 5 p (by decide), en 6 p (by decide)]; exact h12 p (by omega)
    have li2 : LInv (zset t 0 (zup (t 0) 3 (t 0 3 + 1))) := by
      have eo : ∀ i, i ≠ 3 → zset t 0 (zup (t 0) 3 (t 0 3 + 1)) 0 i = t 0 i := fun i q => by rw [zset_s, zup_n q]
      have en : ∀ r i, r ≠ 0 → zset t 0 (zup (t 0) 3 (t 0 3 + 1)) r i = t r i := fun r i q => zset_n q
      have eS : nS (zset t 0 (zup (t 0) 3 (t 0 3 + 1))) = nS t := by unfold nS; rw [eo 2 (by decide)]
      have eP : nP (zset t 0 (zup (t 0) 3 (t 0 3 + 1))) = nP t := by unfold nP; rw [eo 5 (by decide)]
      have eC : nC (zset t 0 (zup (t 0) 3 (t 0 3 + 1))) = nC t := nC_t (eo 0 (by decide)) (eo 1 (by decide))
      obtain ⟨l1, l2, l3, l4, l5, l6, l7, l8, l9⟩ := li
      refine ⟨by rw [eo 0 (by decide), eo 1 (by decide), eo 2 (by decide), eo 5 (by decide)]; exact l1, by rw [eo 2 (by decide)]; exact l2, by rw [zset_s, zup_s]; omega, by rw [eo 4 (by decide)]; exact l4, by rw [eo 5 (by decide)]; exact l5, fun i q => by rw [en 1 i (by decide)]; exact l6 i (by omega), fun i q => ?_, fun i q => ?_, fun i q => ?_⟩
      · rw [eo 4 (by decide)] at q
        rw [en 2 i (by decide)]; exact l7 i q
      · rw [en 3 i (by decide), en 4 i (by decide), eC]; exact l8 i (by omega)
      · rw [en 5 i (by decide), en 6 i (by decide)]; exact l9 i (by omega)
    have q00 : zset t 0 (zup (t 0) 3 (t 0 3 + 1)) 0 0 = t 0 0 := by rw [zset_s, zup_n (by decide)]
    have q01 : zset t 0 (zup (t 0) 3 (t 0 3 + 1)) 0 1 = t 0 1 := by rw [zset_s, zup_n (by decide)]
    have qC := nC_t q00 q01
    have hF := hF.mono (g1.trans f2.nt.mp)
    rw [← q00, ← q01] at hF
    simp only [m_o hM, true_and]
    refine mo_takesX hM hT x2 (by omega) k2 z2 li2 hF (fun x j w3 a1 a2 a4 a5 f3 k3 t3 hF3 => ⟨_, rfl, fun u => absurd u (by decide), fun _ => ?_⟩) (fun w3 hq => ⟨_, rfl, fun _ => ⟨Or.inl trivial, hq⟩, fun u => absurd rfl u⟩)
    have z3 := z2.of f3
    have x3 := x2.mp f3.mp
    rw [t3]
    simp only [m_o hM, true_and]
    refine mo_seesY (K := fun c j a => if t 1 c = 0 then pEnd T L j (rfT t c) s wl else flt1 4 a) hM hT x3 a5 k3 z3 li2 ⟨a1, a2⟩ hF3 (fun c w4 c1 c2 c3 f4 k4 t4 hF4 => ⟨_, rfl, fun _ => ?_, fun u => absurd u (by decide)⟩) (fun w4 hq => ⟨_, rfl, fun u => absurd rfl u, fun _ => ⟨Or.inl trivial, hq⟩⟩)
    have x4 := x3.mp f4.mp
    have er : w4 212 (Int.toNat (c : Int)) = t 1 c := by
      rw [Int.toNat_natCast, f4 _ _ (by omega), f3 _ _ (by omega), f2 _ _ (by omega), o1 _ _ (by omega)]; exact (hz.2.2.2.2.2.2.2.2.1 c (by omega)).2.2.1
    simp only [m_o hM, m_p38 hM, m_b38 hM, t4, er, true_and]
    refine ⟨by constructor <;> omega, fun u => ⟨⟨by constructor <;> omega, Or.inr trivial⟩, ?_⟩, fun u => ?_⟩
    · rw [if_pos u] at hF4
      rw [Int.toNat_natCast]
      have g5 : MP w4 (xup w4 212 c 1) := fun a j p q => xup_o (by omega)
      have k5 : LK T L j (xup w4 212 c 1) := k4.of fun j a b => xup_a (by decide)
      have o5 : ∀ a j, ¬ (a = 212 ∧ j = c) → xup w4 212 c 1 a j = w4 a j := fun a j q => xup_o q
      have p5 : xup w4 212 c 1 212 c = 1 := xup_s
      generalize xup w4 212 c 1 = w5 at g5 k5 o5 p5
      have x5 := x4.mp g5
      refine mo_goOn hM hT x5 a5 k5 fun w6 f6 k6 => ⟨rfl, ?_⟩
      have nx : NX w w6 fun a j => (a = 193 ∧ j = 39) ∨ (a = 212 ∧ j = c) := fun a j p q => by
        rw [f6 a j (by omega), o5 a j (by omega), f4 a j p, f3 a j p, f2 a j (by omega), o1 a j (by omega)]
      have z6 := zm_roof (c := c) hz (by omega) nx (by rw [f6 _ _ (by omega), o5 _ _ (by omega), f4 _ _ (by omega), f3 _ _ (by omega), f2 _ _ (by omega), p1]) (by rw [f6 _ _ (by omega), p5])
      simp only [m_o hM, true_and]
      exact mo_pstops hM hT (x5.mp f6.nt.mp) c3 k6 z6 (hF4.mono (g5.trans f6.nt.mp)) fun x w8 hx8 hq => ⟨_, rfl, hx8, hq⟩
    · rw [if_neg u] at hF4
      refine mo_faults hM fun w5 f5 k5 o5 => ⟨_, rfl, Or.inl rfl, hF4.fl (by decide) f5.mp k5 ?_⟩
      rw [o5 27 (by decide), k4.1]
  · rw [if_neg (by omega)] at hF
    refine mo_faults hM fun w4 f4 k4 o4 => ⟨_, rfl, Or.inl rfl, hF.fl (by decide) f4.mp k4 ?_⟩
    rw [o4 27 (by decide), hl.1]
end MTE
