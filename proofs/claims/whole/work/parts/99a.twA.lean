/-! ===== the class: a town is cleared, read ===== -/
section TWA
variable {g : xG} {w w0 : xW} {T : zT} {L : Nat} {t s : zS} {d : Nat} {Q : xQ} {lim : Nat × Nat} {kl kn : Nat} {v wl : Int} {i : Nat}
theorem cl_clearT (hT : TG g kl) (hQ : ∀ w2 : xW, (∀ a j, a ≠ kl + 2 → (a = kl → 6 ≤ j) → w2 a j = w a j) → (∀ j, j < 6 → w2 kl j = 0) → (∀ j, j < 20 → w2 (kl + 2) j = 0) → Q none g w2) : cal (d + 2) nTw_clear [xr kl] g w Q := by
  refine eTw_clear fun lim Q2 h2 => wTw_clear_0 ?_
  simp only [t_o hT, true_and]
  refine wTw_clear_5 ?_
  simp only [t_o hT, true_and]
  refine wTw_clear_10 ?_
  simp only [t_o hT, true_and]
  refine wTw_clear_15 ?_
  simp only [t_o hT, true_and]
  refine wTw_clear_20 ?_
  simp only [t_o hT, true_and]
  refine wTw_clear_25 ?_
  simp only [t_o hT, t_p7 hT, true_and]
  have f : ∀ a j, (a = kl → 6 ≤ j) → xup (xup (xup (xup (xup (xup w kl 0 0) kl 1 0) kl 2 0) kl 3 0) kl 4 0) kl 5 0 a j = w a j := fun a j q => by
    by_cases z : a = kl
    · subst z
      have := q rfl
      rw [xup_k (by omega), xup_k (by omega), xup_k (by omega), xup_k (by omega), xup_k (by omega), xup_k (by omega)]
    · rw [xup_a z, xup_a z, xup_a z, xup_a z, xup_a z, xup_a z]
  have f0 : ∀ j, j < 6 → xup (xup (xup (xup (xup (xup w kl 0 0) kl 1 0) kl 2 0) kl 3 0) kl 4 0) kl 5 0 kl j = 0 := fun j hj => by
    rcases (by omega : j = 0 ∨ j = 1 ∨ j = 2 ∨ j = 3 ∨ j = 4 ∨ j = 5) with u | u | u | u | u | u <;> subst u
    · rw [xup_k (by decide), xup_k (by decide), xup_k (by decide), xup_k (by decide), xup_k (by decide), xup_s]
    · rw [xup_k (by decide), xup_k (by decide), xup_k (by decide), xup_k (by decide), xup_s]
    · rw [xup_k (by decide), xup_k (by decide), xup_k (by decide), xup_s]
    · rw [xup_k (by decide), xup_k (by decide), xup_s]
    · rw [xup_k (by decide), xup_s]
    · rw [xup_s]
  generalize xup (xup (xup (xup (xup (xup w kl 0 0) kl 1 0) kl 2 0) kl 3 0) kl 4 0) kl 5 0 = w1 at f f0
  refine cl_fill (t_i7 hT) (by decide) fun w2 f2 a2 => ⟨rfl, h2 _ _ _ rfl (hQ w2 (fun a j p q => (f2 a j p).trans (f a j q)) (fun j hj => (f2 _ _ (by omega)).trans (f0 j hj)) a2)⟩
theorem cl_clearS (hS : SG g kn) (hQ : ∀ w2 : xW, (∀ a j, ¬ (kn ≤ a ∧ a ≤ kn + 12) → w2 a j = w a j) → w2 kn 17 = w kn 17 → (∀ j, j < 20 → w2 (kn + 3) j = -1 ∧ w2 (kn + 4) j = 0 ∧ w2 (kn + 5) j = 0) → (∀ j, j < 4 → w2 (kn + 7) j = 0) → (∀ j, j < 6 → w2 (kn + 10) j = 0 ∧ w2 (kn + 11) j = 0 ∧ w2 (kn + 12) j = 0) → (w2 kn 13 = 0 ∧ w2 kn 14 = 0 ∧ w2 kn 15 = 3 ∧ w2 kn 16 = 0) → Q none g w2) : cal (d + 2) nSt_clear [xr kn] g w Q := by
  refine eSt_clear fun lim Q2 h2 => wSt_clear_0 ?_
  simp only [s_o hS, s_p2 hS, true_and]
  refine cl_fill (s_i2 hS) (by decide) fun w1 f1 a1 => ⟨rfl, ?_⟩
  simp only [s_o hS, s_p3 hS, true_and]
  refine cl_fill (s_i3 hS) (by decide) fun w2 f2 a2 => ⟨rfl, ?_⟩
  simp only [s_o hS, s_p4 hS, true_and]
  refine cl_fill (s_i4 hS) (by decide) fun w3 f3 a3 => ⟨rfl, ?_⟩
  simp only [s_o hS, s_p6 hS, true_and]
  refine cl_fill (s_i6 hS) (by decide) fun w4 f4 a4 => ⟨rfl, ?_⟩
  simp only [s_o hS, s_p9 hS, true_and]
  refine cl_fill (s_i9 hS) (by decide) fun w5 f5 a5 => ⟨rfl, ?_⟩
  simp only [s_o hS, s_p10 hS, true_and]
  refine cl_fill (s_i10 hS) (by decide) fun w6 f6 a6 => ⟨rfl, ?_⟩
  simp only [s_o hS, s_p11 hS, true_and]
  refine cl_fill (s_i11 hS) (by decide) fun w7 f7 a7 => ⟨rfl, ?_⟩
  simp only [s_o hS, true_and]
  refine wSt_clear_61 ?_
  simp only [s_o hS, true_and]
  refine wSt_clear_66 ?_
  simp only [s_o hS, true_and]
  refine wSt_clear_71 ?_
  simp only [s_o hS, true_and]
  have z : ∀ a j, a ≠ kn → xup (xup (xup (xup w7 kn 13 0) kn 14 0) kn 15 3) kn 16 0 a j = w7 a j := fun a j q => by rw [xup_a q, xup_a q, xup_a q, xup_a q]
  refine h2 _ _ _ rfl (hQ _ (fun a j q => ?_) ?_ (fun j hj => ⟨?_, ?_, ?_⟩) (fun j hj => ?_) (fun j hj => ⟨?_, ?_, ?_⟩) ⟨?_, ?_, ?_, ?_⟩)
  · rw [z _ _ (by omega), f7 _ _ (by omega), f6 _ _ (by omega), f5 _ _ (by omega), f4 _ _ (by omega), f3 _ _ (by omega), f2 _ _ (by omega), f1 _ _ (by omega)]
  · rw [xup_k (by decide), xup_k (by decide), xup_k (by decide), xup_k (by decide), f7 _ _ (by omega), f6 _ _ (by omega), f5 _ _ (by omega), f4 _ _ (by omega), f3 _ _ (by omega), f2 _ _ (by omega), f1 _ _ (by omega)]
  · rw [z _ _ (by omega), f7 _ _ (by omega), f6 _ _ (by omega), f5 _ _ (by omega), f4 _ _ (by omega), f3 _ _ (by omega), f2 _ _ (by omega)]; exact a1 j hj
  · rw [z _ _ (by omega), f7 _ _ (by omega), f6 _ _ (by omega), f5 _ _ (by omega), f4 _ _ (by omega), f3 _ _ (by omega)]; exact a2 j hj
  · rw [z _ _ (by omega), f7 _ _ (by omega), f6 _ _ (by omega), f5 _ _ (by omega), f4 _ _ (by omega)]; exact a3 j hj
  · rw [z _ _ (by omega), f7 _ _ (by omega), f6 _ _ (by omega), f5 _ _ (by omega)]; exact a4 j hj
  · rw [z _ _ (by omega), f7 _ _ (by omega), f6 _ _ (by omega)]; exact a5 j hj
  · rw [z _ _ (by omega), f7 _ _ (by omega)]; exact a6 j hj
  · rw [z _ _ (by omega)]; exact a7 j hj
  · rw [xup_k (by decide), xup_k (by decide), xup_k (by decide), xup_s]
  · rw [xup_k (by decide), xup_k (by decide), xup_s]
  · rw [xup_k (by decide), xup_s]
  · rw [xup_s]
theorem sz0_n {r i : Nat} (h : r ≠ 3) : sz0 r i = 0 := zset_n h
theorem sz0_3 {i : Nat} : sz0 3 i = -1 := zset_s
theorem zi_0 (hv : 0 ≤ v ∧ v ≤ 2147483647) : ZI tz0 sz0 v 0 := by
  have nC0 : nC tz0 = 0 := rfl
  have nS0 : nS tz0 = 0 := rfl
  have nP0 : nP tz0 = 0 := rfl
  refine ⟨⟨Or.inl ⟨rfl, rfl, rfl, rfl⟩, ⟨by decide, by decide⟩, ⟨by decide, by decide⟩, ⟨by decide, by decide⟩, ⟨by decide, by decide⟩, fun i hi => by omega, fun i hi => ⟨Int.le_refl 0, by show (0 : Int) ≤ 30; decide⟩, fun i hi => by omega, fun i hi => by omega⟩, ⟨fun i hi => by omega, fun i => ?_, fun i _ => ?_, fun i hi => by omega, fun i hi => by omega, ?_, ?_, ?_, ?_, ?_⟩, fun c hc => by omega, ⟨by decide, by decide⟩, fun i => Or.inl rfl, fun i => ?_⟩
  · rw [sd_n (by decide), sd_n (by decide), sz0_n (by decide), sz0_n (by decide)]; exact ⟨Or.inl rfl, Or.inl rfl⟩
  · rw [sd_n (by decide), sd_n (by decide), sz0_n (by decide), sz0_n (by decide)]; exact ⟨rfl, rfl⟩
  · rw [sd_12]; simp
  · rw [sd_12]; simp
  · rw [sd_12]; simp
  · rw [sd_12]; simp; exact hv
  · rw [sd_12]; simp
  · rw [sz0_3, sz0_n (by decide), sz0_n (by decide), sz0_n (by decide), sz0_n (by decide), sz0_n (by decide)]; exact ⟨rfl, rfl, rfl, rfl, rfl, rfl⟩
theorem GE.r {x y : Nat} : GE g (g.1, xup (xup g.2 3 7 x) 3 8 y) := ⟨rfl, fun a j _ q => by
  show xup (xup g.2 3 7 x) 3 8 y a j = g.2 a j
  by_cases z : a = 3
  · subst z
    rw [xup_k (fun u => q ⟨rfl, Or.inr u⟩), xup_k (fun u => q ⟨rfl, Or.inl u⟩)]
  · rw [xup_a z, xup_a z]⟩
/-- the class's reader: a text into a land and a state -/
theorem cl_read (R : RG g) (hTG : TG g kl) (hS : SG g kn) (hk1 : 4 < kl) (hk2 : kl + 7 < kn) (hk3 : kl ≠ 41 ∧ kn ≠ 41) (hT : TxI T L) (hx : Tx T L w) (hv : 0 ≤ w kn 17 ∧ w kn 17 ≤ 2147483647) (hQ : ∀ g2 w2, GE g g2 → PF kl kn w w2 → (cRd (pAll T L 260 0 tz0 sz0 0) (w kn 17) kl kn w2) → Q (some (xi (if (pAll T L 260 0 tz0 sz0 0).1 = 0 then 1 else 0))) g2 w2) : cal (d + 6) nRd_read [xr 3, xr kl, xr kn] g w Q := by
  refine eRd_read fun lim Q2 h2 => wRd_read_0 ?_
  simp only [R.1, true_and]
  refine wRd_read_5 ?_
  have e : GE g (g.1, xup (xup g.2 3 7 kl) 3 8 kn) := GE.r
  have e7 : (g.1, xup (xup g.2 3 7 kl) 3 8 kn).2 3 7 = kl := by show xup (xup g.2 3 7 kl) 3 8 kn 3 7 = kl; rw [xup_k (by decide), xup_s]
  have e8 : (g.1, xup (xup g.2 3 7 kl) 3 8 kn).2 3 8 = kn := by show xup (xup g.2 3 7 kl) 3 8 kn 3 8 = kn; rw [xup_s]
  have x3 : xIs (g.1, xup g.2 3 7 kl) 3 (0, 2) := R.1
  simp only [x3, true_and]
  revert h2
  generalize (g.1, xup (xup g.2 3 7 kl) 3 8 kn) = g2 at e e7 e8
  intro h2
  have hQ := fun w2 a b => h2 _ _ _ e.1 (hQ g2 w2 e a b)
  have R2 := R.ge e
  have T2 := hTG.ge e (by omega)
  have S2 := hS.ge e (by omega)
  refine wRd_read_10 ?_
  simp only [R2.1, e7, t_o T2, true_and]
  refine cl_clearT T2 fun w1 f1 a1 b1 => ⟨rfl, ?_⟩
  simp only [R2.1, e8, s_o S2, true_and]
  refine cl_clearS S2 fun w2 f2 v2 a2 b2 c2 i2 => ⟨rfl, ?_⟩
  simp only [R2.1, true_and]
  refine wRd_read_29 ?_
  simp only [R2.1, true_and]
  refine wRd_read_34 ?_
  simp only [R2.1, true_and]
  refine wRd_read_39 ?_
  simp only [R2.1, true_and]
  have f3 : ∀ a j, ¬ (a = 3 ∧ (j = 2 ∨ j = 4 ∨ j = 5 ∨ j = 6)) → xup (xup (xup (xup w2 3 2 0) 3 6 0) 3 4 0) 3 5 (-1) a j = w2 a j := fun a j q => by
    by_cases z : a = 3
    · subst z
      rw [xup_k (fun u => q ⟨rfl, by omega⟩), xup_k (fun u => q ⟨rfl, by omega⟩), xup_k (fun u => q ⟨rfl, by omega⟩), xup_k (fun u => q ⟨rfl, by omega⟩)]
    · rw [xup_a z, xup_a z, xup_a z, xup_a z]
  have p3 : xup (xup (xup (xup w2 3 2 0) 3 6 0) 3 4 0) 3 5 (-1) 3 2 = ((0 : Nat) : Int) := by rw [xup_k (by decide), xup_k (by decide), xup_k (by decide), xup_s]; rfl
  have p6 : xup (xup (xup (xup w2 3 2 0) 3 6 0) 3 4 0) 3 5 (-1) 3 6 = 0 := by rw [xup_k (by decide), xup_k (by decide), xup_s]
  have p5 : xup (xup (xup (xup w2 3 2 0) 3 6 0) 3 4 0) 3 5 (-1) 3 5 = -1 := xup_s
  generalize xup (xup (xup (xup w2 3 2 0) 3 6 0) 3 4 0) 3 5 (-1) = w3 at f3 p3 p6 p5
  have fr : ∀ a j, ¬ (a = 3 ∧ (j = 2 ∨ j = 4 ∨ j = 5 ∨ j = 6)) → ¬ (kl ≤ a ∧ a ≤ kl + 7) → ¬ (kn ≤ a ∧ a ≤ kn + 12) → w3 a j = w a j := fun a j p q r => by rw [f3 a j p, f2 a j r, f1 a j (by omega) (by omega)]
  have e17 : w3 kn 17 = w kn 17 := by rw [f3 _ _ (by omega), v2, f1 _ _ (by omega) (by omega)]
  have pf : PF kl kn w w3 := ⟨fun a j p q r => fr a j (by omega) q r, e17⟩
  have x3 : Tx T L w3 := hx.e (fun j => fr 4 j (by omega) (by omega) (by omega)) (fr 3 1 (by omega) (by omega) (by omega))
  have nC0 : nC tz0 = 0 := rfl
  have nS0 : nS tz0 = 0 := rfl
  have nP0 : nP tz0 = 0 := rfl
  have k0 : ∀ j, j < 6 → w3 kl j = 0 := fun j hj => by rw [f3 _ _ (by omega), f2 _ _ (by omega)]; exact a1 j hj
  have z3 : ZC tz0 sz0 (w kn 17) 0 kl kn w3 := by
    refine ⟨⟨k0 0 (by decide), k0 1 (by decide), k0 2 (by decide), k0 3 (by decide), k0 4 (by decide), k0 5 (by decide), fun c hc => by omega, fun i hi => by omega, fun i hi => ?_, fun i hi => by omega, fun i hi => by omega⟩, ⟨fun r i q p1 p2 => ?_, fun c hc => by omega⟩, p6, p5, fun i hi => ⟨?_, ?_, ?_⟩, fun i _ hi => ?_, fun i hi => ?_, fun i hi => ⟨?_, ?_, ?_⟩⟩
    · have hi : (i : Int) < 0 := hi
      omega
    · match r, q, p1, p2 with
      | 0, q, _, _ | 3, q, _, _ | 4, q, _, _ => have q : i < nC tz0 := q; omega
      | 1, _, p, _ => exact absurd rfl p
      | 2, _, _, p => exact absurd rfl p
      | 5, q, _, _ | 6, q, _, _ => have q : i < nS tz0 := q; omega
      | 7, q, _, _ | 8, q, _, _ | 9, q, _, _ | 10, q, _, _ | 11, q, _, _ => have q : i < nP tz0 := q; omega
      | 12, q, _, _ =>
        have q : i < 5 := q
        rw [sd_12]
        rcases (by omega : i = 0 ∨ i = 1 ∨ i = 2 ∨ i = 3 ∨ i = 4) with u | u | u | u | u <;> subst u
        · show w3 kn 14 = 0
          rw [f3 _ _ (by omega)]; exact i2.2.1
        · show w3 kn 15 = 3
          rw [f3 _ _ (by omega)]; exact i2.2.2.1
        · show w3 kn 16 = 0
          rw [f3 _ _ (by omega)]; exact i2.2.2.2
        · show w3 kn 17 = w kn 17
          exact e17
        · show w3 kn 13 = 0
          rw [f3 _ _ (by omega)]; exact i2.1
    · rw [f3 _ _ (by omega), f2 _ _ (by omega)]; exact b1 i hi
    · rw [f3 _ _ (by omega)]; exact (a2 i hi).1
    · rw [f3 _ _ (by omega)]; exact (a2 i hi).2.1
    · rw [f3 _ _ (by omega)]; exact (a2 i hi).2.2
    · rw [f3 _ _ (by omega)]; exact b2 i hi
    · rw [f3 _ _ (by omega)]; exact (c2 i hi).1
    · rw [f3 _ _ (by omega)]; exact (c2 i hi).2.1
    · rw [f3 _ _ (by omega)]; exact (c2 i hi).2.2
  refine cl_skip R2 hT x3 (Nat.zero_le L) p3 fun w4 f4 p4 => ⟨rfl, ?_⟩
  have f4 : RN w3 w4 := fun a j q => f4 a j fun z => q ⟨z.1, Or.inl z.2⟩
  have b := sk_b (T := T) (Nat.zero_le L)
  exact cl_read50 260 0 0 tz0 sz0 0 w4 rfl (Nat.zero_le L) ⟨⟨R2, e7, e8, T2, S2, hk1, hk2⟩, hT, x3.rn f4, z3.rn f4 (by omega), zi_0 hv, b.2, p4⟩ fun w5 f5 r5 => hQ w5 ((pf.trans (f4.pf (by omega))).trans f5) r5
end TWA
