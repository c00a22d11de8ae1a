/-! ===== the first world; the claim ===== -/
section CTC
variable {g : xG} {w w0 : xW} {L : Nat}
theorem kn_S15 (h : Kn L g cE56 cP56) : SG g 15 := ⟨h.is (by decide +kernel), h.f (by decide +kernel), h.is (by decide +kernel), h.f (by decide +kernel), h.is (by decide +kernel), h.f (by decide +kernel), h.is (by decide +kernel), h.f (by decide +kernel), h.is (by decide +kernel), h.f (by decide +kernel), h.is (by decide +kernel), h.f (by decide +kernel), h.is (by decide +kernel), h.f (by decide +kernel), h.is (by decide +kernel), h.f (by decide +kernel), h.is (by decide +kernel), h.f (by decide +kernel), h.is (by decide +kernel), h.f (by decide +kernel), h.is (by decide +kernel), h.f (by decide +kernel), h.is (by decide +kernel), h.f (by decide +kernel), h.is (by decide +kernel)⟩
theorem kn_S28 (h : Kn L g cE56 cP56) : SG g 28 := ⟨h.is (by decide +kernel), h.f (by decide +kernel), h.is (by decide +kernel), h.f (by decide +kernel), h.is (by decide +kernel), h.f (by decide +kernel), h.is (by decide +kernel), h.f (by decide +kernel), h.is (by decide +kernel), h.f (by decide +kernel), h.is (by decide +kernel), h.f (by decide +kernel), h.is (by decide +kernel), h.f (by decide +kernel), h.is (by decide +kernel), h.f (by decide +kernel), h.is (by decide +kernel), h.f (by decide +kernel), h.is (by decide +kernel), h.f (by decide +kernel), h.is (by decide +kernel), h.f (by decide +kernel), h.is (by decide +kernel), h.f (by decide +kernel), h.is (by decide +kernel)⟩
theorem kn_S45 (h : Kn L g cE56 cP56) : SG g 45 := ⟨h.is (by decide +kernel), h.f (by decide +kernel), h.is (by decide +kernel), h.f (by decide +kernel), h.is (by decide +kernel), h.f (by decide +kernel), h.is (by decide +kernel), h.f (by decide +kernel), h.is (by decide +kernel), h.f (by decide +kernel), h.is (by decide +kernel), h.f (by decide +kernel), h.is (by decide +kernel), h.f (by decide +kernel), h.is (by decide +kernel), h.f (by decide +kernel), h.is (by decide +kernel), h.f (by decide +kernel), h.is (by decide +kernel), h.f (by decide +kernel), h.is (by decide +kernel), h.f (by decide +kernel), h.is (by decide +kernel), h.f (by decide +kernel), h.is (by decide +kernel)⟩
theorem kn_S58 (h : Kn L g cE56 cP56) : SG g 58 := ⟨h.is (by decide +kernel), h.f (by decide +kernel), h.is (by decide +kernel), h.f (by decide +kernel), h.is (by decide +kernel), h.f (by decide +kernel), h.is (by decide +kernel), h.f (by decide +kernel), h.is (by decide +kernel), h.f (by decide +kernel), h.is (by decide +kernel), h.f (by decide +kernel), h.is (by decide +kernel), h.f (by decide +kernel), h.is (by decide +kernel), h.f (by decide +kernel), h.is (by decide +kernel), h.f (by decide +kernel), h.is (by decide +kernel), h.f (by decide +kernel), h.is (by decide +kernel), h.f (by decide +kernel), h.is (by decide +kernel), h.f (by decide +kernel), h.is (by decide +kernel)⟩
theorem kn_S71 (h : Kn L g cE56 cP56) : SG g 71 := ⟨h.is (by decide +kernel), h.f (by decide +kernel), h.is (by decide +kernel), h.f (by decide +kernel), h.is (by decide +kernel), h.f (by decide +kernel), h.is (by decide +kernel), h.f (by decide +kernel), h.is (by decide +kernel), h.f (by decide +kernel), h.is (by decide +kernel), h.f (by decide +kernel), h.is (by decide +kernel), h.f (by decide +kernel), h.is (by decide +kernel), h.f (by decide +kernel), h.is (by decide +kernel), h.f (by decide +kernel), h.is (by decide +kernel), h.f (by decide +kernel), h.is (by decide +kernel), h.f (by decide +kernel), h.is (by decide +kernel), h.f (by decide +kernel), h.is (by decide +kernel)⟩
theorem kn_S84 (h : Kn L g cE56 cP56) : SG g 84 := ⟨h.is (by decide +kernel), h.f (by decide +kernel), h.is (by decide +kernel), h.f (by decide +kernel), h.is (by decide +kernel), h.f (by decide +kernel), h.is (by decide +kernel), h.f (by decide +kernel), h.is (by decide +kernel), h.f (by decide +kernel), h.is (by decide +kernel), h.f (by decide +kernel), h.is (by decide +kernel), h.f (by decide +kernel), h.is (by decide +kernel), h.f (by decide +kernel), h.is (by decide +kernel), h.f (by decide +kernel), h.is (by decide +kernel), h.f (by decide +kernel), h.is (by decide +kernel), h.f (by decide +kernel), h.is (by decide +kernel), h.f (by decide +kernel), h.is (by decide +kernel)⟩
theorem kn_S97 (h : Kn L g cE56 cP56) : SG g 97 := ⟨h.is (by decide +kernel), h.f (by decide +kernel), h.is (by decide +kernel), h.f (by decide +kernel), h.is (by decide +kernel), h.f (by decide +kernel), h.is (by decide +kernel), h.f (by decide +kernel), h.is (by decide +kernel), h.f (by decide +kernel), h.is (by decide +kernel), h.f (by decide +kernel), h.is (by decide +kernel), h.f (by decide +kernel), h.is (by decide +kernel), h.f (by decide +kernel), h.is (by decide +kernel), h.f (by decide +kernel), h.is (by decide +kernel), h.f (by decide +kernel), h.is (by decide +kernel), h.f (by decide +kernel), h.is (by decide +kernel), h.f (by decide +kernel), h.is (by decide +kernel)⟩
theorem kn_S110 (h : Kn L g cE56 cP56) : SG g 110 := ⟨h.is (by decide +kernel), h.f (by decide +kernel), h.is (by decide +kernel), h.f (by decide +kernel), h.is (by decide +kernel), h.f (by decide +kernel), h.is (by decide +kernel), h.f (by decide +kernel), h.is (by decide +kernel), h.f (by decide +kernel), h.is (by decide +kernel), h.f (by decide +kernel), h.is (by decide +kernel), h.f (by decide +kernel), h.is (by decide +kernel), h.f (by decide +kernel), h.is (by decide +kernel), h.f (by decide +kernel), h.is (by decide +kernel), h.f (by decide +kernel), h.is (by decide +kernel), h.f (by decide +kernel), h.is (by decide +kernel), h.f (by decide +kernel), h.is (by decide +kernel)⟩
theorem kn_S141 (h : Kn L g cE56 cP56) : SG g 141 := ⟨h.is (by decide +kernel), h.f (by decide +kernel), h.is (by decide +kernel), h.f (by decide +kernel), h.is (by decide +kernel), h.f (by decide +kernel), h.is (by decide +kernel), h.f (by decide +kernel), h.is (by decide +kernel), h.f (by decide +kernel), h.is (by decide +kernel), h.f (by decide +kernel), h.is (by decide +kernel), h.f (by decide +kernel), h.is (by decide +kernel), h.f (by decide +kernel), h.is (by decide +kernel), h.f (by decide +kernel), h.is (by decide +kernel), h.f (by decide +kernel), h.is (by decide +kernel), h.f (by decide +kernel), h.is (by decide +kernel), h.f (by decide +kernel), h.is (by decide +kernel)⟩
theorem kn_S154 (h : Kn L g cE56 cP56) : SG g 154 := ⟨h.is (by decide +kernel), h.f (by decide +kernel), h.is (by decide +kernel), h.f (by decide +kernel), h.is (by decide +kernel), h.f (by decide +kernel), h.is (by decide +kernel), h.f (by decide +kernel), h.is (by decide +kernel), h.f (by decide +kernel), h.is (by decide +kernel), h.f (by decide +kernel), h.is (by decide +kernel), h.f (by decide +kernel), h.is (by decide +kernel), h.f (by decide +kernel), h.is (by decide +kernel), h.f (by decide +kernel), h.is (by decide +kernel), h.f (by decide +kernel), h.is (by decide +kernel), h.f (by decide +kernel), h.is (by decide +kernel), h.f (by decide +kernel), h.is (by decide +kernel)⟩
theorem kn_S167 (h : Kn L g cE56 cP56) : SG g 167 := ⟨h.is (by decide +kernel), h.f (by decide +kernel), h.is (by decide +kernel), h.f (by decide +kernel), h.is (by decide +kernel), h.f (by decide +kernel), h.is (by decide +kernel), h.f (by decide +kernel), h.is (by decide +kernel), h.f (by decide +kernel), h.is (by decide +kernel), h.f (by decide +kernel), h.is (by decide +kernel), h.f (by decide +kernel), h.is (by decide +kernel), h.f (by decide +kernel), h.is (by decide +kernel), h.f (by decide +kernel), h.is (by decide +kernel), h.f (by decide +kernel), h.is (by decide +kernel), h.f (by decide +kernel), h.is (by decide +kernel), h.f (by decide +kernel), h.is (by decide +kernel)⟩
theorem kn_S180 (h : Kn L g cE56 cP56) : SG g 180 := ⟨h.is (by decide +kernel), h.f (by decide +kernel), h.is (by decide +kernel), h.f (by decide +kernel), h.is (by decide +kernel), h.f (by decide +kernel), h.is (by decide +kernel), h.f (by decide +kernel), h.is (by decide +kernel), h.f (by decide +kernel), h.is (by decide +kernel), h.f (by decide +kernel), h.is (by decide +kernel), h.f (by decide +kernel), h.is (by decide +kernel), h.f (by decide +kernel), h.is (by decide +kernel), h.f (by decide +kernel), h.is (by decide +kernel), h.f (by decide +kernel), h.is (by decide +kernel), h.f (by decide +kernel), h.is (by decide +kernel), h.f (by decide +kernel), h.is (by decide +kernel)⟩
theorem kn_T125 (h : Kn L g cE56 cP56) : TG g 125 := ⟨h.is (by decide +kernel), h.f (by decide +kernel), h.is (by decide +kernel), h.f (by decide +kernel), h.is (by decide +kernel), h.f (by decide +kernel), h.is (by decide +kernel), h.f (by decide +kernel), h.is (by decide +kernel), h.f (by decide +kernel), h.is (by decide +kernel), h.f (by decide +kernel), h.is (by decide +kernel), h.f (by decide +kernel), h.is (by decide +kernel)⟩
theorem kn_T133 (h : Kn L g cE56 cP56) : TG g 133 := ⟨h.is (by decide +kernel), h.f (by decide +kernel), h.is (by decide +kernel), h.f (by decide +kernel), h.is (by decide +kernel), h.f (by decide +kernel), h.is (by decide +kernel), h.f (by decide +kernel), h.is (by decide +kernel), h.f (by decide +kernel), h.is (by decide +kernel), h.f (by decide +kernel), h.is (by decide +kernel), h.f (by decide +kernel), h.is (by decide +kernel)⟩
theorem kn_R (h : Kn L g cE56 cP56) : RG g := ⟨h.is (by decide +kernel), h.f (by decide +kernel), h.is (by decide +kernel)⟩
theorem kn_P5 (h : Kn L g cE56 cP56) : PG12 g 5 := ⟨h.is (by decide +kernel), h.f (by decide +kernel), h.is (by decide +kernel), h.f (by decide +kernel), h.is (by decide +kernel), h.f (by decide +kernel), h.is (by decide +kernel)⟩
theorem kn_P9 (h : Kn L g cE56 cP56) : PG8 g 9 := ⟨h.is (by decide +kernel), h.f (by decide +kernel), h.is (by decide +kernel), h.f (by decide +kernel), h.is (by decide +kernel), h.f (by decide +kernel), h.is (by decide +kernel)⟩
theorem kn_F (h : Kn L g cE56 cP56) : FG g 125 141 133 154 := ⟨h.is (by decide +kernel), h.f (by decide +kernel), h.f (by decide +kernel), h.f (by decide +kernel), h.f (by decide +kernel), h.f (by decide +kernel), h.f (by decide +kernel), h.f (by decide +kernel), h.f (by decide +kernel), h.f (by decide +kernel), h.f (by decide +kernel), h.f (by decide +kernel), h.f (by decide +kernel), h.f (by decide +kernel), kn_R h, kn_P5 h, kn_P9 h, h.is (by decide +kernel), h.f (by decide +kernel), h.f (by decide +kernel), h.is (by decide +kernel), kn_S15 h, kn_S28 h, kn_S167 h, kn_S180 h, kn_S141 h, kn_S154 h, kn_T125 h, kn_T133 h, Or.inl ⟨rfl, rfl⟩, Or.inl ⟨rfl, rfl⟩⟩
theorem kn_Tu (h : Kn L g cE56 cP56) : TuG g := by
  refine ⟨h.is (by decide +kernel), h.f (by decide +kernel), h.f (by decide +kernel), h.f (by decide +kernel), h.is (by decide +kernel), h.is (by decide +kernel), h.is (by decide +kernel), fun i hi => ?_⟩
  match i, hi with
  | 0, _ => exact ⟨h.f (by decide +kernel), kn_S45 h⟩
  | 1, _ => exact ⟨h.f (by decide +kernel), kn_S58 h⟩
  | 2, _ => exact ⟨h.f (by decide +kernel), kn_S71 h⟩
  | 3, _ => exact ⟨h.f (by decide +kernel), kn_S84 h⟩
  | 4, _ => exact ⟨h.f (by decide +kernel), kn_S97 h⟩
  | 5, _ => exact ⟨h.f (by decide +kernel), kn_S110 h⟩
  | i + 6, q => exact absurd q (by omega)
theorem kn_Mk (h : Kn L g cE56 cP56) : MkG g := ⟨h.is (by decide +kernel), h.f (by decide +kernel), h.is (by decide +kernel)⟩
def wF (w : xW) : xW := (xup (xup (xup (xup (xup (xup (xup (xup (xup (xup (xup (xup (xup (xup (xup w 3 5 (-1)) 15 15 3) 28 15 3) 45 15 3) 58 15 3) 71 15 3) 84 15 3) 97 15 3) 110 15 3) 141 15 3) 154 15 3) 167 15 3) 180 15 3) 193 26 (-1)) 193 50 (-1))
def X0 : zX := fun k => if k = 0 then tz0 else if k = 1 then sd sz0 0 else if k = 6 then (fun r j => if r = 2 ∧ j = 1 then -1 else 0) else emp (fun _ _ => 0)
theorem wF_o {a j : Nat} (h1 : j ≠ 15) (h2 : ¬ (a = 3 ∧ j = 5)) (h3 : ¬ (a = 193 ∧ j = 26)) (h4 : ¬ (a = 193 ∧ j = 50)) : wF w a j = w a j := by
  unfold wF
  rw [xup_o h4, xup_o h3, xup_k h1, xup_k h1, xup_k h1, xup_k h1, xup_k h1, xup_k h1, xup_k h1, xup_k h1, xup_k h1, xup_k h1, xup_k h1, xup_k h1, xup_o h2]
theorem wF_1 {j : Nat} : wF w 1 j = w 1 j := by
  unfold wF
  rw [xup_a (by decide), xup_a (by decide), xup_a (by decide), xup_a (by decide), xup_a (by decide), xup_a (by decide), xup_a (by decide), xup_a (by decide), xup_a (by decide), xup_a (by decide), xup_a (by decide), xup_a (by decide), xup_a (by decide), xup_a (by decide), xup_a (by decide)]
theorem nC0 : nC tz0 = 0 := rfl
theorem nS0 : nS tz0 = 0 := rfl
theorem nP0 : nP tz0 = 0 := rfl
theorem X0_I : XI X0 := by
  have zi := zi_0 (v := 0) (by decide)
  refine ⟨zi.1, ⟨zi.2.1, zi.2.2.1.of (fun i => (sd_n (s := sz0) (v := 0) (r := 1) (i := i) (by decide) : sd sz0 0 1 i = sz0 1 i)) (fun i => (sd_n (s := sz0) (v := 0) (r := 2) (i := i) (by decide) : sd sz0 0 2 i = sz0 2 i)), ?_⟩, pi_emp, pi_emp, fun i hi => ⟨Or.inl rfl, fun u => absurd rfl u⟩, by decide, fun j hj => ?_⟩
  · show sd sz0 0 12 2 ≤ 900060
    rw [sd_12]; decide
  · have hj : (j : Int) < 0 := hj
    omega
theorem X0_C (h : Kn L g cE56 cP56) (hw : ∀ a j, a ≠ 194 → w a j = wF w0 a j) (h0 : ∀ a j, a ≠ 1 → w0 a j = 0) : CW X0 g w := by
  have z : ∀ a j, a ≠ 194 → a ≠ 1 → j ≠ 15 → ¬ (a = 3 ∧ j = 5) → ¬ (a = 193 ∧ j = 26) → ¬ (a = 193 ∧ j = 50) → w a j = 0 := fun a j p q r s t u => by rw [hw a j p, wF_o r s t u]; exact h0 a j q
  have z2 : ∀ a j, a < 193 → a ≠ 1 → a ≠ 3 → j ≠ 15 → w a j = 0 := fun a j p q r s => z a j (by omega) q s (fun u => r u.1) (fun u => by omega) (fun u => by omega)
  refine ⟨125, 141, 133, 154, kn_F h, kn_Tu h, kn_Mk h, ?_, ?_, ?_, ?_, ?_, ?_, ?_, ?_⟩
  · exact ⟨z2 _ _ (by decide) (by decide) (by decide) (by decide), z2 _ _ (by decide) (by decide) (by decide) (by decide), z2 _ _ (by decide) (by decide) (by decide) (by decide), z2 _ _ (by decide) (by decide) (by decide) (by decide), z2 _ _ (by decide) (by decide) (by decide) (by decide), z2 _ _ (by decide) (by decide) (by decide) (by decide), fun c hc => absurd hc (Nat.not_lt_zero c), fun c hc => absurd hc (Nat.not_lt_zero c), fun i hi => absurd hi (show ¬ ((i : Int) < 0) by omega), fun c hc => absurd hc (Nat.not_lt_zero c), fun c hc => absurd hc (Nat.not_lt_zero c)⟩
  · refine ⟨fun r i q p1 p2 => ?_, fun c hc => absurd hc (Nat.not_lt_zero c)⟩
    match r, q with
    | 0, q | 3, q | 4, q | 5, q | 6, q | 7, q | 8, q | 9, q | 10, q | 11, q => exact absurd q (Nat.not_lt_zero i)
    | 1, q => exact absurd rfl p1
    | 2, q => exact absurd rfl p2
    | 12, q =>
      match i, q with
      | 0, _ => exact z2 _ _ (by decide) (by decide) (by decide) (by decide)
      | 1, _ => exact (hw 141 15 (by decide)).trans rfl
      | 2, _ => exact z2 _ _ (by decide) (by decide) (by decide) (by decide)
      | 3, _ => exact z2 _ _ (by decide) (by decide) (by decide) (by decide)
      | 4, _ => exact z2 _ _ (by decide) (by decide) (by decide) (by decide)
      | i + 5, q => exact absurd (show i + 5 < 5 from q) (by omega)
    | r + 13, q => exact absurd q id
  · exact ⟨z2 _ _ (by decide) (by decide) (by decide) (by decide), fun i hi => absurd hi (show ¬ ((i : Int) < 0) by omega)⟩
  · exact ⟨z2 _ _ (by decide) (by decide) (by decide) (by decide), fun i hi => absurd hi (show ¬ ((i : Int) < 0) by omega)⟩
  · exact fun i hi => ⟨z2 14 i (by decide) (by decide) (by decide) (by omega), fun u => absurd rfl u⟩
  · exact ⟨z 3 1 (by decide) (by decide) (by decide) (by decide) (by decide) (by decide), fun i hi => absurd hi (show ¬ ((i : Int) < 0) by omega)⟩
  · exact (hw 3 5 (by decide)).trans rfl
  · rw [z2 154 17 (by decide) (by decide) (by decide) (by decide)]; decide
theorem X0_M (hw : ∀ a j, a ≠ 194 → w a j = wF w0 a j) (h0 : ∀ a j, a ≠ 1 → w0 a j = 0) (he : ∀ j, j < 143 → w 194 j = if j = 139 then 3 else eN (wF w0) j) : MK X0 w := by
  have z : ∀ a j, a ≠ 194 → a ≠ 1 → j ≠ 15 → ¬ (a = 3 ∧ j = 5) → ¬ (a = 193 ∧ j = 26) → ¬ (a = 193 ∧ j = 50) → w a j = 0 := fun a j p q r s t u => by rw [hw a j p, wF_o r s t u]; exact h0 a j q
  have e1 : wF w0 194 141 = 0 := by rw [wF_o (by decide) (by decide) (by decide) (by decide)]; exact h0 _ _ (by decide)
  refine ⟨?_, ?_, (hw 193 50 (by decide)).trans rfl, ?_, ?_, ?_, ?_, (hw 193 26 (by decide)).trans rfl⟩
  · exact ⟨z _ _ (by decide) (by decide) (by decide) (by decide) (by decide) (by decide), z _ _ (by decide) (by decide) (by decide) (by decide) (by decide) (by decide), z _ _ (by decide) (by decide) (by decide) (by decide) (by decide) (by decide), z _ _ (by decide) (by decide) (by decide) (by decide) (by decide) (by decide), z _ _ (by decide) (by decide) (by decide) (by decide) (by decide) (by decide), z _ _ (by decide) (by decide) (by decide) (by decide) (by decide) (by decide), fun c hc => absurd hc (Nat.not_lt_zero c), fun i hi => absurd hi (show ¬ ((i : Int) < 0) by omega), fun c hc => absurd hc (Nat.not_lt_zero c), fun c hc => absurd hc (Nat.not_lt_zero c)⟩
  · intro r i q
    match r, q with
    | 0, q | 3, q | 4, q | 5, q | 6, q | 7, q | 8, q | 9, q | 10, q | 11, q => exact absurd q (Nat.not_lt_zero i)
    | 1, q =>
      have q : i < 20 := q
      show w 194 (20 + i) = 0
      rw [he _ (by omega), if_neg (by omega)]; unfold eN; rw [if_neg (by omega), if_neg (by omega)]
    | 2, q =>
      have q : i < 20 := q
      show w 194 (40 + i) = 0
      rw [he _ (by omega), if_neg (by omega)]; unfold eN; rw [if_neg (by omega), if_neg (by omega)]
    | 12, q =>
      match i, q with
      | 0, _ => exact (he 138 (by decide)).trans rfl
      | 1, _ => exact (he 139 (by decide)).trans rfl
      | 2, _ => exact (he 140 (by decide)).trans rfl
      | 3, _ => exact (he 141 (by decide)).trans e1
      | 4, _ => exact (he 142 (by decide)).trans rfl
      | i + 5, q => exact absurd (show i + 5 < 5 from q) (by omega)
    | r + 13, q => exact absurd q id
  · exact ⟨z _ _ (by decide) (by decide) (by decide) (by decide) (by decide) (by decide), fun i hi => absurd hi (show ¬ ((i : Int) < 0) by omega)⟩
  · exact ⟨z _ _ (by decide) (by decide) (by decide) (by decide) (by decide) (by decide), fun i hi => absurd hi (show ¬ ((i : Int) < 0) by omega)⟩
  · exact fun i hi => ⟨z 196 i (by decide) (by decide) (by omega) (fun u => absurd u.1 (by decide)) (fun u => absurd u.1 (by decide)) (fun u => absurd u.1 (by decide)), fun u => absurd rfl u⟩
  · exact ⟨z _ _ (by decide) (by decide) (by decide) (by decide) (by decide) (by decide), fun i hi => absurd hi (show ¬ ((i : Int) < 0) by omega)⟩
theorem pure_start {xs : Nat → Int32} (hL : L ≤ 384) : xAt xMks tLw_law (cal 30) (1 + 600000, L + 7302250) (fun r _ _ => r = some (xi 1)) 0 [xr 1, none, none, none] [] (yg0 L) (yw0 L xs) := by
  have k0 : Kn L (yg0 L) [] [] := ⟨rfl, fun p h => absurd h List.not_mem_nil⟩
  have l1 : ((1 + 600000, L + 7302250) : Nat × Nat).1 = 600001 := rfl
  have l2 : ((1 + 600000, L + 7302250) : Nat × Nat).2 = L + 7302250 := rfl
  refine wLw_law_0 (d := 30) ⟨k0.room l1 l2 (by decide +kernel), clast, (k0.app (c := (0, 6))).room l1 l2 (by decide +kernel), ciFf (d := 27) ((k0.app (c := (0, 6))).mono (by decide +kernel) (by decide +kernel)) fun g1 k1 => ⟨rfl, k1.room l1 l2 (by decide +kernel), clast, (k1.app (c := (0, 7))).room l1 l2 (by decide +kernel), ?_⟩⟩
  rw [k1.at (v := 193) (by decide +kernel)]
  refine ciMo (d := 28) ((k1.app (c := (0, 7))).mono (by decide +kernel) (by decide +kernel)) fun g2 w2 k2 f v => ⟨rfl, ?_⟩
  have f : ∀ a j, a ≠ 194 → w2 a j = wF (yw0 L xs) a j := f
  have v : ∀ j, j < 143 → w2 194 j = if j = 139 then 3 else eN (wF (yw0 L xs)) j := v
  have h0 : ∀ a j, a ≠ 1 → yw0 L xs a j = 0 := fun a j q => by unfold yw0; rw [if_neg (fun u => q u.1)]
  refine lw_loop (L := L) (w0 := yw0 L xs) (d := 10) (fun _ _ => rfl) (L + 6) 0 X0 g2 w2 (by decide) (by omega) (by omega) ⟨⟨by decide, by rw [k2.1]; rfl⟩, hL, fun j => by rw [f 1 j (by decide), wF_1], fun j => ?_, X0_C k2 f h0, kn_MG k2, X0_M f h0 v, X0_I⟩
  unfold yw0
  split
  · exact y32r _
  · decide
end CTC
