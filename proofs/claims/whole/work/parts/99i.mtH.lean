/-! ===== the reference: a town comes to stand ===== -/
section MTH
variable {g : xG} {w w0 : xW} {T : zT} {L : Nat} {t s : zS} {d : Nat} {Q : xQ} {lim : Nat × Nat} {v wl : Int} {i : Nat}
def eN (w : xW) (j : Nat) : Int := if j = 141 then w 194 141 else if 60 ≤ j ∧ j < 80 then -1 else 0
theorem mo_empty1 (hM : MG g) (hk : ∀ w2, (∀ a j, a ≠ 194 → w2 a j = w0 a j) → (∀ j, j < 143 → w2 194 j = eN w0 j) → Q none g w2) : ∀ (n k : Nat) (w : xW), k + n = 143 → (∀ a j, a ≠ 194 → w a j = w0 a j) → (∀ j, j < k → w 194 j = eN w0 j) → (∀ j, k ≤ j → w 194 j = w0 194 j) → aMo_emptyNow d lim Q 2 [xr 193, xi k] [] g w
  | 0, k, w, hn, hf, h1, h2 => by
    have hn : k = 143 := by omega
    subst hn
    exact wMo_emptyNow_2 ⟨fun _ => hk w hf h1, fun h => by omega⟩
  | n + 1, k, w, hn, hf, h1, h2 => by
    have go : ∀ x : Int, x = eN w0 k → aMo_emptyNow d lim Q 2 [xr 193, xi ((k : Int) + 1)] [] g (xup w 194 (Int.toNat (k : Int)) x) := fun x hx => by
      rw [show ((k : Int) + 1) = ((k + 1 : Nat) : Int) by omega, Int.toNat_natCast]
      refine mo_empty1 hM hk n (k + 1) _ (by omega) (fun a j q => by rw [xup_a q]; exact hf a j q) (fun j q => ?_) fun j q => ?_
      · by_cases z : j = k
        · subst z; rw [xup_s]; exact hx
        · rw [xup_k z]; exact h1 j (by omega)
      · rw [xup_k (by omega)]; exact h2 j (by omega)
    refine wMo_emptyNow_2 ?_
    simp only [m_o hM, m_p0 hM, m_a0 hM, m_r0 hM, true_and]
    refine ⟨fun h => by omega, fun _ => ⟨fun q => ⟨fun q2 => ⟨by constructor <;> omega, by constructor <;> omega, go 0 ?_⟩, fun q2 => ⟨fun q3 => ⟨by constructor <;> omega, by constructor <;> omega, go 0 ?_⟩, fun q3 => ⟨by constructor <;> omega, by constructor <;> omega, go (-1) ?_⟩⟩⟩, fun q => ⟨by decide, by constructor <;> omega, by constructor <;> omega, go _ ?_⟩⟩⟩
    · unfold eN; rw [if_neg (by omega), if_neg (by omega)]
    · unfold eN; rw [if_neg (by omega), if_neg (by omega)]
    · unfold eN; rw [if_neg (by omega), if_pos (by omega)]
    · unfold eN; rw [if_pos (by omega)]; exact h2 141 (by omega)
theorem mo_emptyNow (hM : MG g) (hQ : ∀ w2, (∀ a j, a ≠ 194 → w2 a j = w a j) → (∀ j, j < 143 → w2 194 j = eN w j) → Q none g w2) : cal (d + 1) nMo_emptyNow [xr 193] g w Q := by
  refine eMo_emptyNow fun lim Q2 h2 => wMo_emptyNow_0 ?_
  exact mo_empty1 hM (fun w2 a b => h2 _ _ _ rfl (hQ w2 a b)) 143 0 w rfl (fun _ _ _ => rfl) (fun j q => by omega) fun _ _ => rfl
theorem mo_cells2 (hM : MG g) (e0 : w 193 4 = t 0 0) (e1 : w 193 5 = t 0 1) (li : LInv t) (hQ : Q (some (xi (nC t))) g w) : cal (d + 1) nMo_cells [xr 193] g w Q := by
  refine eMo_cells fun lim Q2 h2 => wMo_cells_0 ?_
  have hQ := h2 _ _ _ rfl hQ
  obtain ⟨n1, n2, -⟩ := li_n li
  rw [e0, e1, ← n1]
  exact ⟨m_o hM, m_o hM, by constructor <;> omega, hQ⟩
/-- cells: heats, walls, roofs -/
theorem mo_tw69 (hM : MG g) (li : LInv t) (e4 : w0 193 4 = t 0 0) (e5 : w0 193 5 = t 0 1) (h01 : ∀ j, j < 20 → w0 212 j = 0 ∨ w0 212 j = 1) (hk : ∀ w2, (∀ a j, ¬ (a = 194 ∧ j < 60) → a ≠ 198 → w2 a j = w0 a j) → (∀ j, j < 20 → w2 194 j = (if j < nC t then w0 193 35 else 0) ∧ w2 194 (20 + j) = w0 211 j ∧ w2 194 (40 + j) = w0 211 (20 + j) ∧ w2 198 j = w0 212 j) → aMo_town (d + 1) lim Q 69 [xr 193, none, xi 20] [] g w2) : ∀ (n q : Nat) (w : xW), q + n = 20 → (∀ a j, ¬ (a = 194 ∧ j < 60) → a ≠ 198 → w a j = w0 a j) → (∀ j, j < q → w 194 j = (if j < nC t then w0 193 35 else 0) ∧ w 194 (20 + j) = w0 211 j ∧ w 194 (40 + j) = w0 211 (20 + j) ∧ w 198 j = w0 212 j) → aMo_town (d + 1) lim Q 69 [xr 193, none, xi q] [] g w
  | 0, q, w, hq, hf, hj => by
    have hq : q = 20 := by omega
    subst hq
    exact hk w hf hj
  | n + 1, q, w, hq, hf, hj => by
    have f4 : w 193 4 = t 0 0 := (hf _ _ (by omega) (by decide)).trans e4
    have f5 : w 193 5 = t 0 1 := (hf _ _ (by omega) (by decide)).trans e5
    have f35 : w 193 35 = w0 193 35 := hf _ _ (by omega) (by decide)
    obtain ⟨n1, n2, -⟩ := li_n li
    have go : ∀ x : Int, x = (if q < nC t then w0 193 35 else 0) → aMo_town (d + 1) lim Q 98 [xr 193, none, xi q] [xi x, xi (0 + (q : Int)), xr 194] g w := fun x hx => by
      refine wMo_town_98 ?_
      simp only [m_o hM, m_a0 hM, true_and]
      refine ⟨by constructor <;> omega, wMo_town_99 ?_⟩
      rw [show Int.toNat (0 + (q : Int)) = q by omega]
      have r1 : xup w 194 q x 211 (Int.toNat (q : Int)) = w0 211 q := by rw [Int.toNat_natCast, xup_a (by decide)]; exact hf _ _ (by omega) (by decide)
      simp only [m_o hM, m_p0 hM, m_a0 hM, m_p36 hM, m_r36 hM, r1, true_and]
      refine ⟨by constructor <;> omega, by constructor <;> omega, by constructor <;> omega, wMo_town_114 ?_⟩
      rw [show Int.toNat (20 + (q : Int)) = 20 + q by omega]
      have r2 : xup (xup w 194 q x) 194 (20 + q) (w0 211 q) 211 (20 + q) = w0 211 (20 + q) := by rw [xup_a (by decide), xup_a (by decide)]; exact hf _ _ (by omega) (by decide)
      simp only [m_o hM, m_p0 hM, m_a0 hM, m_p36 hM, m_r36 hM, r2, true_and]
      refine ⟨by constructor <;> omega, by constructor <;> omega, by constructor <;> omega, by constructor <;> omega, wMo_town_132 ?_⟩
      rw [show Int.toNat (40 + (q : Int)) = 40 + q by omega]
      have r3 : xup (xup (xup w 194 q x) 194 (20 + q) (w0 211 q)) 194 (40 + q) (w0 211 (20 + q)) 212 (Int.toNat (q : Int)) = w0 212 q := by rw [Int.toNat_natCast, xup_a (by decide), xup_a (by decide), xup_a (by decide)]; exact hf _ _ (by omega) (by decide)
      simp only [m_o hM, m_p38 hM, m_b38 hM, m_p6 hM, m_b6 hM, r3, true_and]
      refine ⟨by constructor <;> omega, ⟨by constructor <;> omega, h01 q (by omega)⟩, by constructor <;> omega, ?_⟩
      rw [show ((q : Int) + 1) = ((q + 1 : Nat) : Int) by omega, Int.toNat_natCast]
      refine mo_tw69 hM li e4 e5 h01 hk n (q + 1) _ (by omega) (fun a j p1 p2 => ?_) fun j h => ?_
      · rw [xup_a p2, xup_o (by omega), xup_o (by omega), xup_o (by omega)]; exact hf a j p1 p2
      · refine ⟨?_, ?_, ?_, ?_⟩
        · rw [xup_a (by decide), xup_k (by omega), xup_k (by omega)]
          by_cases z : j = q
          · subst z; rw [xup_s]; exact hx
          · rw [xup_k z]; exact (hj j (by omega)).1
        · rw [xup_a (by decide), xup_k (by omega)]
          by_cases z : j = q
          · subst z; rw [xup_s]
          · rw [xup_k (by omega), xup_k (by omega)]; exact (hj j (by omega)).2.1
        · rw [xup_a (by decide)]
          by_cases z : j = q
          · subst z; rw [xup_s]
          · rw [xup_k (by omega), xup_k (by omega), xup_k (by omega)]; exact (hj j (by omega)).2.2.1
        · by_cases z : j = q
          · subst z; rw [xup_s]
          · rw [xup_k z, xup_a (by decide), xup_a (by decide), xup_a (by decide)]; exact (hj j (by omega)).2.2.2
    refine wMo_town_69 ?_
    simp only [m_o hM, m_p0 hM, true_and]
    refine ⟨fun h => by omega, fun _ => ⟨by constructor <;> omega, mo_cells2 hM f4 f5 li ⟨_, rfl, fun z => go 0 ?_, fun z => ?_⟩⟩⟩
    · rw [if_neg (by omega)]
    · refine ⟨m_o hM, ?_⟩
      rw [f35]
      exact go _ (by rw [if_pos (by omega)])
/-- stoves -/
theorem mo_tw168 {K : Nat} (hM : MG g) (hK : K ≤ 4) (e8 : w0 193 8 = (K : Int)) (hk : ∀ w2, (∀ a j, ¬ (a = 194 ∧ 100 ≤ j ∧ j < 100 + K) → a ≠ 199 → a ≠ 200 → w2 a j = w0 a j) → (∀ j, j < K → w2 199 j = w0 213 j ∧ w2 200 j = w0 213 (4 + j) ∧ w2 194 (100 + j) = w0 213 (8 + j)) → aMo_town d lim Q 168 [xr 193, none, xi K] [] g w2) : ∀ (n q : Nat) (w : xW), q + n = K → (∀ a j, ¬ (a = 194 ∧ 100 ≤ j ∧ j < 100 + K) → a ≠ 199 → a ≠ 200 → w a j = w0 a j) → (∀ j, j < q → w 199 j = w0 213 j ∧ w 200 j = w0 213 (4 + j) ∧ w 194 (100 + j) = w0 213 (8 + j)) → aMo_town d lim Q 168 [xr 193, none, xi q] [] g w
  | 0, q, w, hq, hf, hj => by
    have hq : q = K := by omega
    subst hq
    exact hk w hf hj
  | n + 1, q, w, hq, hf, hj => by
    have f8 : w 193 8 = (K : Int) := (hf _ _ (by omega) (by decide) (by decide)).trans e8
    have r1 : w 213 (Int.toNat (q : Int)) = w0 213 q := by rw [Int.toNat_natCast]; exact hf _ _ (by omega) (by decide) (by decide)
    refine wMo_town_168 ?_
    simp only [m_o hM, m_p41 hM, m_r41 hM, m_p9 hM, m_a9 hM, f8, r1, true_and]
    refine ⟨fun h => by omega, fun _ => ⟨by constructor <;> omega, by constructor <;> omega, wMo_town_188 ?_⟩⟩
    rw [Int.toNat_natCast]
    have r2 : xup w 199 q (w0 213 q) 213 (Int.toNat (4 + (q : Int))) = w0 213 (4 + q) := by rw [show Int.toNat (4 + (q : Int)) = 4 + q by omega, xup_a (by decide)]; exact hf _ _ (by omega) (by decide) (by decide)
    simp only [m_o hM, m_p41 hM, m_r41 hM, m_p10 hM, m_a10 hM, r2, true_and]
    refine ⟨by constructor <;> omega, by constructor <;> omega, by constructor <;> omega, wMo_town_202 ?_⟩
    have r3 : xup (xup w 199 q (w0 213 q)) 200 q (w0 213 (4 + q)) 213 (Int.toNat (8 + (q : Int))) = w0 213 (8 + q) := by rw [show Int.toNat (8 + (q : Int)) = 8 + q by omega, xup_a (by decide), xup_a (by decide)]; exact hf _ _ (by omega) (by decide) (by decide)
    simp only [m_o hM, m_p41 hM, m_r41 hM, m_p0 hM, m_a0 hM, r3, true_and]
    refine ⟨by constructor <;> omega, by constructor <;> omega, by constructor <;> omega, by constructor <;> omega, by constructor <;> omega, ?_⟩
    rw [show ((q : Int) + 1) = ((q + 1 : Nat) : Int) by omega, show Int.toNat (100 + (q : Int)) = 100 + q by omega]
    refine mo_tw168 hM hK e8 hk n (q + 1) _ (by omega) (fun a j p1 p2 p3 => ?_) fun j h => ⟨?_, ?_, ?_⟩
    · rw [xup_o (by omega), xup_a p3, xup_a p2]; exact hf a j p1 p2 p3
    · rw [xup_a (by decide), xup_a (by decide)]
      by_cases z : j = q
      · subst z; rw [xup_s]
      · rw [xup_k z]; exact (hj j (by omega)).1
    · rw [xup_a (by decide)]
      by_cases z : j = q
      · subst z; rw [xup_s]
      · rw [xup_k z, xup_a (by decide)]; exact (hj j (by omega)).2.1
    · by_cases z : j = q
      · subst z; rw [xup_s]
      · rw [xup_k (by omega), xup_a (by decide), xup_a (by decide)]; exact (hj j (by omega)).2.2
/-- suns -/
theorem mo_tw236 (hM : MG g) (hk : ∀ w2, (∀ a j, a ≠ 201 → w2 a j = w0 a j) → (∀ j, j < 8 → w2 201 j = w0 215 j) → aMo_town d lim Q 236 [xr 193, none, xi 8] [] g w2) : ∀ (n q : Nat) (w : xW), q + n = 8 → (∀ a j, a ≠ 201 → w a j = w0 a j) → (∀ j, j < q → w 201 j = w0 215 j) → aMo_town d lim Q 236 [xr 193, none, xi q] [] g w
  | 0, q, w, hq, hf, hj => by
    have hq : q = 8 := by omega
    subst hq
    exact hk w hf hj
  | n + 1, q, w, hq, hf, hj => by
    have r1 : w 215 (Int.toNat (q : Int)) = w0 215 q := by rw [Int.toNat_natCast]; exact hf _ _ (by decide)
    refine wMo_town_236 ?_
    simp only [m_o hM, m_p44 hM, m_r44 hM, m_p12 hM, m_a12 hM, r1, true_and]
    refine ⟨fun h => by omega, fun _ => ⟨by constructor <;> omega, by constructor <;> omega, by constructor <;> omega, ?_⟩⟩
    rw [show ((q : Int) + 1) = ((q + 1 : Nat) : Int) by omega, Int.toNat_natCast]
    refine mo_tw236 hM hk n (q + 1) _ (by omega) (fun a j p => by rw [xup_a p]; exact hf a j p) fun j h => ?_
    by_cases z : j = q
    · subst z; rw [xup_s]
    · rw [xup_k z]; exact hj j (by omega)
/-- people -/
theorem mo_tw270 {K : Nat} (hM : MG g) (hK : K ≤ 6) (e13 : w0 193 13 = (K : Int)) (hk : ∀ w2, (∀ a j, ¬ (a = 194 ∧ 108 ≤ j ∧ j < 120) → a ≠ 202 → a ≠ 203 → w2 a j = w0 a j) → (∀ j, j < K → w2 194 (108 + j) = w0 216 j ∧ w2 194 (114 + j) = w0 216 (6 + j) ∧ w2 202 j = w0 216 (12 + j) ∧ w2 203 j = w0 216 (18 + j)) → aMo_town d lim Q 270 [xr 193, none, xi K] [] g w2) : ∀ (n q : Nat) (w : xW), q + n = K → (∀ a j, ¬ (a = 194 ∧ 108 ≤ j ∧ j < 120) → a ≠ 202 → a ≠ 203 → w a j = w0 a j) → (∀ j, j < q → w 194 (108 + j) = w0 216 j ∧ w 194 (114 + j) = w0 216 (6 + j) ∧ w 202 j = w0 216 (12 + j) ∧ w 203 j = w0 216 (18 + j)) → aMo_town d lim Q 270 [xr 193, none, xi q] [] g w
  | 0, q, w, hq, hf, hj => by
    have hq : q = K := by omega
    subst hq
    exact hk w hf hj
  | n + 1, q, w, hq, hf, hj => by
    have f13 : w 193 13 = (K : Int) := (hf _ _ (by omega) (by decide) (by decide)).trans e13
    have r1 : w 216 (Int.toNat (q : Int)) = w0 216 q := by rw [Int.toNat_natCast]; exact hf _ _ (by omega) (by decide) (by decide)
    refine wMo_town_270 ?_
    simp only [m_o hM, m_p46 hM, m_r46 hM, m_p0 hM, m_a0 hM, f13, r1, true_and]
    refine ⟨fun h => by omega, fun _ => ⟨by constructor <;> omega, by constructor <;> omega, by constructor <;> omega, wMo_town_293 ?_⟩⟩
    rw [show Int.toNat (108 + (q : Int)) = 108 + q by omega]
    have r2 : xup w 194 (108 + q) (w0 216 q) 216 (Int.toNat (6 + (q : Int))) = w0 216 (6 + q) := by rw [show Int.toNat (6 + (q : Int)) = 6 + q by omega, xup_a (by decide)]; exact hf _ _ (by omega) (by decide) (by decide)
    simp only [m_o hM, m_p46 hM, m_r46 hM, m_p0 hM, m_a0 hM, r2, true_and]
    refine ⟨by constructor <;> omega, by constructor <;> omega, by constructor <;> omega, by constructor <;> omega, wMo_town_311 ?_⟩
    rw [show Int.toNat (114 + (q : Int)) = 114 + q by omega]
    have r3 : xup (xup w 194 (108 + q) (w0 216 q)) 194 (114 + q) (w0 216 (6 + q)) 216 (Int.toNat (12 + (q : Int))) = w0 216 (12 + q) := by rw [show Int.toNat (12 + (q : Int)) = 12 + q by omega, xup_a (by decide), xup_a (by decide)]; exact hf _ _ (by omega) (by decide) (by decide)
    simp only [m_o hM, m_p46 hM, m_r46 hM, m_p14 hM, m_a14 hM, r3, true_and]
    refine ⟨by constructor <;> omega, by constructor <;> omega, by constructor <;> omega, wMo_town_326 ?_⟩
    rw [Int.toNat_natCast]
    have r4 : xup (xup (xup w 194 (108 + q) (w0 216 q)) 194 (114 + q) (w0 216 (6 + q))) 202 q (w0 216 (12 + q)) 216 (Int.toNat (18 + (q : Int))) = w0 216 (18 + q) := by rw [show Int.toNat (18 + (q : Int)) = 18 + q by omega, xup_a (by decide), xup_a (by decide), xup_a (by decide)]; exact hf _ _ (by omega) (by decide) (by decide)
    simp only [m_o hM, m_p46 hM, m_r46 hM, m_p15 hM, m_a15 hM, r4, true_and]
    refine ⟨by constructor <;> omega, by constructor <;> omega, by constructor <;> omega, by constructor <;> omega, ?_⟩
    rw [show ((q : Int) + 1) = ((q + 1 : Nat) : Int) by omega]
    refine mo_tw270 hM hK e13 hk n (q + 1) _ (by omega) (fun a j p1 p2 p3 => ?_) fun j h => ⟨?_, ?_, ?_, ?_⟩
    · rw [xup_a p3, xup_a p2, xup_o (by omega), xup_o (by omega)]; exact hf a j p1 p2 p3
    · rw [xup_a (by decide), xup_a (by decide), xup_k (by omega)]
      by_cases z : j = q
      · subst z; rw [xup_s]
      · rw [xup_k (by omega)]; exact (hj j (by omega)).1
    · rw [xup_a (by decide), xup_a (by decide)]
      by_cases z : j = q
      · subst z; rw [xup_s]
      · rw [xup_k (by omega), xup_k (by omega)]; exact (hj j (by omega)).2.1
    · rw [xup_a (by decide)]
      by_cases z : j = q
      · subst z; rw [xup_s]
      · rw [xup_k z, xup_a (by decide), xup_a (by decide)]; exact (hj j (by omega)).2.2.1
    · by_cases z : j = q
      · subst z; rw [xup_s]
      · rw [xup_k z, xup_a (by decide), xup_a (by decide), xup_a (by decide)]; exact (hj j (by omega)).2.2.2
end MTH
