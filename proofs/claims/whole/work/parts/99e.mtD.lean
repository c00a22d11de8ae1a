/-! ===== the reference reads clauses ===== -/
def MC (g : xG) (T : zT) (L : Nat) (t s : zS) (v wl : Int) (w : xW) (i : Nat) : Prop := MG g ∧ TxI T L ∧ TxM T L w ∧ ZM t s wl w ∧ ZI t s v wl ∧ i ≤ L ∧ LK T L i w
section MTD
variable {g : xG} {w w0 : xW} {T : zT} {L : Nat} {t s : zS} {d : Nat} {Q : xQ} {lim : Nat × Nat} {v wl : Int} {i : Nat}
theorem tkL_1 {a : Nat} (h : a < L) (h2 : ¬ dgt T a) : tkL T L a = 1 := by unfold tkL; rw [if_pos h, if_neg h2]
theorem rnm_min {x : Int} {j : Nat} (hx : 1 ≤ x ∧ x ≤ 6) (hj : j ≤ L) (h : ¬ (0 < fg T L (sk T L j) ∧ fg T L (sk T L j) ≤ 3 ∧ (1 ≤ vlU T (sk T L j) (fg T L (sk T L j)) ∧ vlU T (sk T L j) (fg T L (sk T L j)) ≤ 6) ∧ 20 < x * vlU T (sk T L j) (fg T L (sk T L j)))) : rnm T L 1 (min 6 (20 / x)) j = rnm T L 1 6 j := by
  unfold rnm
  by_cases q : fg T L (sk T L j) = 0
  · rw [if_pos q, if_pos q]
  · rw [if_neg q, if_neg q]
    generalize vlU T (sk T L j) (fg T L (sk T L j)) = V at *
    by_cases u : 3 < fg T L (sk T L j) ∨ V < 1 ∨ 6 < V
    · rw [if_pos u, if_pos (by omega)]
    · rw [if_neg u, if_neg]
      have hV : ¬ 20 < x * V := fun z => h ⟨by omega, by omega, by omega, z⟩
      have : x = 1 ∨ x = 2 ∨ x = 3 ∨ x = 4 ∨ x = 5 ∨ x = 6 := by omega
      rcases this with q | q | q | q | q | q <;> subst q <;> omega
theorem mo_rTown (h : MC g T L t s v wl w i) (ha : sk T L i < L) (hF : mFin T L (if T (sk T L i) = 116 then pTown T L (sk T L i + 1) t s wl else flt1 1 (sk T L i)) w g Q) : cal (d + 6) nMo_readsTown [xr 193] g w Q := by
  obtain ⟨hM, hT, hx, hz, zi, hiL, hl⟩ := h
  refine eMo_readsTown fun lim Q2 h2 => wMo_readsTown_0 ?_
  have hF : mFin T L (if T (sk T L i) = 116 then pTown T L (sk T L i + 1) t s wl else flt1 1 (sk T L i)) w g Q2 := fun w2 a b => h2 _ _ _ rfl (hF w2 a b)
  have e29 : w 193 29 = tkV T L (sk T L i) := hl.2.2.1
  have e116 : tkV T L (sk T L i) = 116 ↔ T (sk T L i) = 116 := by
    unfold tkV
    rw [if_pos ha]
    by_cases q2 : dgt T (sk T L i)
    · rw [if_pos q2]; exact ⟨fun z => absurd z (by decide), fun z => by omega⟩
    · rw [if_neg q2]
      by_cases q3 : T (sk T L i) < 2
      · rw [if_pos q3]; exact ⟨fun z => absurd z (by decide), fun z => by omega⟩
      · rw [if_neg q3]
  simp only [m_o hM, e29, true_and]
  refine ⟨fun z => ?_, fun z => ?_⟩
  · have z := e116.1 z
    rw [if_pos z] at hF
    unfold pTown at hF
    refine mo_goOn hM hT hx hiL hl fun w1 f1 k1 => ⟨rfl, ?_⟩
    rw [tkL_1 ha (fun u => by omega)] at k1
    have hF := hF.mono f1.nt.mp
    have x1 := hx.mp f1.nt.mp
    simp only [m_o hM, true_and]
    refine mo_ptakes hM hT x1 (by omega) k1 (by decide) hF (fun x j w2 a1 a2 a3 a4 a5 f2 k2 t2 hF2 => ⟨_, rfl, fun _ => ?_, fun u => absurd u (by decide)⟩) (fun w2 hq => ⟨_, rfl, fun u => absurd rfl u, fun _ => ⟨Or.inl trivial, hq⟩⟩)
    have f12 := f1.nt.trans f2
    have b := sk_b (T := T) a5
    -- the width is put
    have g3 : MP w2 (xup w2 193 33 x) := fun a j p q => by
      by_cases u : a = 193
      · subst u; exact xup_k (by omega)
      · exact xup_a u
    have k3 : LK T L j (xup w2 193 33 x) := k2.of fun j a b => xup_k (by omega)
    have e33 : xup w2 193 33 x 193 33 = x := xup_s
    have o3 : ∀ a j, ¬ (a = 193 ∧ j = 33) → xup w2 193 33 x a j = w2 a j := fun a j q => by
      by_cases u : a = 193
      · subst u; exact xup_k (fun y => q ⟨rfl, y⟩)
      · exact xup_a u
    rw [t2]
    generalize xup w2 193 33 x = w3 at g3 k3 e33 o3
    have x3 := (x1.mp f2.mp).mp g3
    obtain ⟨l1, l2, l3, l4⟩ := id k3
    have hF3 := hF2.mono g3
    have rest : mFin T L (pNum T L 1 6 j fun y j2 => pNum T L 0 200 j2 fun b j3 => pEnd T L j3 (zset t 0 (zup (zup (t 0) 0 x) 1 y)) (zset s 0 (fun _ => b)) wl) w3 g Q2 → aMo_readsTown (d + 5) lim Q2 82 [xr 193] [] g w3 := fun hF3 => by
      refine wMo_readsTown_82 ?_
      simp only [m_o hM, true_and]
      refine mo_ptakes hM hT x3 a5 k3 (by decide) hF3 (fun y j2 w4 b1 b2 b3 b4 b5 f4 k4 t4 hF4 => ⟨_, rfl, fun _ => ?_, fun u => absurd u (by decide)⟩) (fun w4 hq => ⟨_, rfl, fun u => absurd rfl u, fun _ => ⟨Or.inl trivial, hq⟩⟩)
      rw [t4]
      have g5 : MP w4 (xup w4 193 34 y) := fun a j p q => by
        by_cases u : a = 193
        · subst u; exact xup_k (by omega)
        · exact xup_a u
      have k5 : LK T L j2 (xup w4 193 34 y) := k4.of fun j a b => xup_k (by omega)
      have e34 : xup w4 193 34 y 193 34 = y := xup_s
      have o5 : ∀ a j, ¬ (a = 193 ∧ j = 34) → xup w4 193 34 y a j = w4 a j := fun a j q => by
        by_cases u : a = 193
        · subst u; exact xup_k (fun y => q ⟨rfl, y⟩)
        · exact xup_a u
      generalize xup w4 193 34 y = w5 at g5 k5 e34 o5
      have x5 := (x3.mp f4.mp).mp g5
      refine ⟨m_o hM, m_o hM, wMo_readsTown_102 ?_⟩
      simp only [m_o hM, true_and]
      refine mo_ptakes hM hT x5 b5 k5 (by decide) (hF4.mono g5) (fun bb j3 w6 c1 c2 c3 c4 c5 f6 k6 t6 hF6 => ⟨_, rfl, fun _ => ?_, fun u => absurd u (by decide)⟩) (fun w6 hq => ⟨_, rfl, fun u => absurd rfl u, fun _ => ⟨Or.inl trivial, hq⟩⟩)
      simp only [m_o hM, t6, true_and]
      have g7 : MP w6 (xup w6 193 35 bb) := fun a j p q => by
        by_cases u : a = 193
        · subst u; exact xup_k (by omega)
        · exact xup_a u
      have k7 : LK T L j3 (xup w6 193 35 bb) := k6.of fun j a b => xup_k (by omega)
      have o7 : ∀ a j, ¬ (a = 193 ∧ j = 35) → xup w6 193 35 bb a j = w6 a j := fun a j q => by
        by_cases u : a = 193
        · subst u; exact xup_k (fun y => q ⟨rfl, y⟩)
        · exact xup_a u
      have e35 : xup w6 193 35 bb 193 35 = bb := xup_s
      generalize xup w6 193 35 bb = w7 at g7 k7 o7 e35
      have nx : NX w w7 fun a j => a = 193 ∧ (j = 33 ∨ j = 34 ∨ j = 35) := fun a j p q => by
        rw [o7 a j (by omega), f6 a j p, o5 a j (by omega), f4 a j p, o3 a j (by omega), f12 a j p]
      refine mo_pstops hM hT ((x5.mp f6.mp).mp g7) c5 k7 (zm_town hz nx ?_ ?_ e35) (hF6.mono g7) fun x w8 hx8 hq => ⟨_, rfl, hx8, hq⟩
      · rw [o7 _ _ (by decide), f6 _ _ (by omega), o5 _ _ (by decide), f4 _ _ (by omega), e33]
      · rw [o7 _ _ (by decide), f6 _ _ (by omega), e34]
    have use : ¬ (0 < fg T L (sk T L j) ∧ fg T L (sk T L j) ≤ 3 ∧ (1 ≤ vlU T (sk T L j) (fg T L (sk T L j)) ∧ vlU T (sk T L j) (fg T L (sk T L j)) ≤ 6) ∧ 20 < x * vlU T (sk T L j) (fg T L (sk T L j))) → aMo_readsTown (d + 5) lim Q2 82 [xr 193] [] g w3 := fun hn => by
      refine rest ?_
      have := hF3
      unfold pNum at this ⊢
      rw [rnm_min ⟨a1, a2⟩ a5 hn] at this; exact this
    simp only [m_o hM, l3, l4, true_and]
    refine ⟨fun u => use (fun y => ?_), fun u => mo_in ⟨_, rfl, fun y => use (fun y2 => ?_), fun y => ?_⟩⟩
    · have : ¬ (sk T L j < L ∧ dgt T (sk T L j)) := fun q => u ((tkV_1 hT).2 q)
      have := fg_0 this
      omega
    · have u := (tkV_1 hT).1 u
      have y := ifv.1 y
      have en : tkN T L (sk T L j) = if fg T L (sk T L j) ≤ 3 then vlU T (sk T L j) (fg T L (sk T L j)) else 1000000 := by unfold tkN; exact if_pos u
      rw [en, if_pos y2.2.1] at y
      omega
    · have u := (tkV_1 hT).1 u
      have y := ifv.2 y
      have en : tkN T L (sk T L j) = if fg T L (sk T L j) ≤ 3 then vlU T (sk T L j) (fg T L (sk T L j)) else 1000000 := by unfold tkN; exact if_pos u
      have h3 : fg T L (sk T L j) ≤ 3 := Classical.byContradiction fun q => by rw [en, if_neg q] at y; omega
      rw [if_pos h3] at en
      rw [en] at y
      have f1 := fg_1 u
      have hm : 1 ≤ x * vlU T (sk T L j) (fg T L (sk T L j)) ∧ x * vlU T (sk T L j) (fg T L (sk T L j)) ≤ 36 := by
        generalize vlU T (sk T L j) (fg T L (sk T L j)) = V at *
        have : x = 1 ∨ x = 2 ∨ x = 3 ∨ x = 4 ∨ x = 5 ∨ x = 6 := by omega
        rcases this with q | q | q | q | q | q <;> subst q <;> omega
      simp only [m_o hM, e33, l4, en, true_and]
      refine ⟨by constructor <;> omega, fun q => use (fun y2 => by omega), fun q => ?_⟩
      have er : rnm T L 1 (min 6 (20 / x)) j = (-2, sk T L j) := by
        unfold rnm
        rw [if_neg (by omega), if_pos]
        generalize vlU T (sk T L j) (fg T L (sk T L j)) = V at *
        have : x = 1 ∨ x = 2 ∨ x = 3 ∨ x = 4 ∨ x = 5 ∨ x = 6 := by omega
        rcases this with q | q | q | q | q | q <;> subst q <;> omega
      have hF3 : mFin T L (flt1 2 (sk T L j)) w3 g Q2 := by
        have := hF3
        unfold pNum at this
        rw [er] at this; exact this
      refine mo_faults hM fun w4 f4 k4 o4 => ⟨_, rfl, Or.inl rfl, hF3.fl (by decide) f4.mp k4 ?_⟩
      rw [o4 27 (by decide), l1]
  · rw [if_neg (fun u => z (e116.2 u))] at hF
    refine mo_faults hM fun w4 f4 k4 o4 => ⟨_, rfl, Or.inl rfl, hF.fl (by decide) f4.mp k4 ?_⟩
    rw [o4 27 (by decide), hl.1]
end MTD
