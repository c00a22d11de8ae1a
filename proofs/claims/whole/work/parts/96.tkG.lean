/-! ===== the class reads clauses ===== -/
section TKG
variable {g : xG} {w w0 : xW} {T : zT} {L : Nat} {t s : zS} {d : Nat} {Q : xQ} {lim : Nat × Nat} {kl kn : Nat} {v wl : Int} {i : Nat}
theorem PF.up {a j : Nat} {x : Int} (h : (a = 3 ∧ j = 6) ∨ (kl ≤ a ∧ a ≤ kl + 7) ∨ (kn ≤ a ∧ a ≤ kn + 12)) (h17 : ¬ (a = kn ∧ j = 17)) : PF kl kn w (xup w a j x) := ⟨fun b i p q r => by
  by_cases z : b = a
  · subst z
    rcases h with y | y
    · rw [xup_k (by omega)]
    · omega
  · exact xup_a z, by
  by_cases z : kn = a
  · subst z; exact xup_k (by omega)
  · exact xup_a z⟩
/-- what holds while a clause is read -/
def CC (g : xG) (kl kn : Nat) (T : zT) (L : Nat) (t s : zS) (v wl : Int) (w : xW) (i : Nat) : Prop := CS g kl kn ∧ TxI T L ∧ Tx T L w ∧ ZC t s v wl kl kn w ∧ ZI t s v wl ∧ i ≤ L ∧ w 3 2 = (i : Int)
theorem Tx.e {w2 : xW} (h : Tx T L w) (e : ∀ j, w2 4 j = w 4 j) (e1 : w2 3 1 = w 3 1) : Tx T L w2 := ⟨e1.trans h.1, fun j hj => (e j).trans (h.2 j hj)⟩
theorem cl_rTown (h : CC g kl kn T L t s v wl w i) (h0 : t 0 0 = 0) (hF : cFin (pTown T L i t s wl) v kl kn w g Q) : cal (d + 3) nRd_readTown [xr 3] g w Q := by
  obtain ⟨⟨R, h7, h8, hTG, hS, hk1, hk2⟩, hT, hx, hz, zi, hiL, hp⟩ := h
  have hk : 4 < kl ∧ 4 < kn := by omega
  refine eRd_readTown fun lim Q2 h2 => wRd_readTown_0 ?_
  have hF : cFin (pTown T L i t s wl) v kl kn w g Q2 := fun w2 a b => h2 _ _ _ rfl (hF w2 a b)
  unfold pTown at hF
  simp only [R.1, true_and]
  refine cl_pnum R hT hx hk.2 hiL hp (by decide) hF (fun x j w1 b1 b2 b3 b4 f1 p1 q1 hF1 => ⟨_, rfl, fun _ => ?_, fun z => by omega⟩) (fun w1 hq => ⟨_, rfl, fun z => absurd z (by decide), fun _ => ⟨Or.inl trivial, hq⟩⟩)
  have hd : Int.tdiv 20 x = 20 / x := Int.tdiv_eq_ediv_of_nonneg (by decide)
  have hdb : 3 ≤ 20 / x ∧ 20 / x ≤ 20 := by
    have : x = 1 ∨ x = 2 ∨ x = 3 ∨ x = 4 ∨ x = 5 ∨ x = 6 := by omega
    rcases this with q | q | q | q | q | q <;> subst q <;> decide
  rw [hd]
  simp only [R.1, true_and]
  refine ⟨⟨by omega, by constructor <;> omega⟩, cl_pnum R hT (hx.rn f1) hk.2 b4 p1 (by decide) hF1 (fun y j2 w2 c1 c2 c3 c4 f2 p2 q2 hF2 => ⟨_, rfl, fun _ => ?_, fun z => by omega⟩) (fun w2 hq => ⟨_, rfl, fun z => absurd rfl z, fun _ => ⟨Or.inl trivial, hq⟩⟩)⟩
  have f12 := f1.trans f2
  simp only [R.1, true_and]
  refine cl_pnum R hT (hx.rn f12) hk.2 c4 p2 (by decide) hF2 (fun b j3 w3 d1 d2 d3 d4 f3 p3 q3 hF3 => ⟨_, rfl, fun _ => ?_, fun z => by omega⟩) (fun w3 hq => ⟨_, rfl, fun z => absurd rfl z, fun _ => ⟨Or.inl trivial, hq⟩⟩)
  have f13 := f12.trans f3
  have zi2 := zi_town zi h0 ⟨b1, b2⟩ ⟨c1, c2⟩ ⟨d1, d2⟩
  have hz3 := hz.rn f13 hk
  have hxy : 1 ≤ x * y ∧ x * y ≤ 20 := by
    have : x = 1 ∨ x = 2 ∨ x = 3 ∨ x = 4 ∨ x = 5 ∨ x = 6 := by omega
    rcases this with q | q | q | q | q | q <;> subst q <;> omega
  obtain ⟨W, hW⟩ := z_nn (x := x) (by omega)
  obtain ⟨H, hH⟩ := z_nn (x := y) (by omega)
  subst hW; subst hH
  have hWH : W * H ≤ 20 := by
    have := hxy.2
    rw [← Int.natCast_mul] at this; omega
  simp only [R.1, h7, t_o hTG, true_and]
  refine cl_setSize hTG zi2.1 (by rw [zset_s, zup_n (by decide), zup_s]) (by rw [zset_s, zup_s]) hWH fun w4 f4 e0 e1 eb => ⟨rfl, ?_⟩
  simp only [R.1, h8, s_o hS, s_p0 hS, true_and]
  refine cl_fill (s_i0 hS) (by decide) fun w5 f5 a5 => ⟨rfl, ?_⟩
  simp only [R.1, true_and]
  have e5 : ∀ a j, a ≠ kl + 1 → a ≠ kn + 1 → (a = kl → j ≠ 0 ∧ j ≠ 1) → w5 a j = w3 a j := fun a j p q r => (f5 a j q).trans (f4 a j p r)
  have z5 := zc_town (w2 := w5) (W := W) (H := H) hz3 zi.1 zi.2.1 h0 (by omega) hWH (fun i => ⟨(zi.2.2.2.2.2 i).1, (zi.2.2.2.2.2 i).2.1⟩) e5 ((f5 _ _ (by omega)).trans e0) ((f5 _ _ (by omega)).trans e1) (fun c hc d hd => (f5 _ _ (by omega)).trans (eb c hc d hd)) a5
  have pf : PF kl kn w3 w5 := ⟨fun a j p q r => e5 a j (by omega) (by omega) (by omega), e5 _ _ (by omega) (by omega) (by omega)⟩
  exact cl_pend R hT ((hx.rn f13).e (fun j => e5 4 j (by omega) (by omega) (by omega)) (e5 3 1 (by omega) (by omega) (by omega))) hk d4 ((e5 3 2 (by omega) (by omega) (by omega)).trans p3) z5 (hF3.mono pf) fun x w6 hx6 hq => ⟨_, rfl, hx6, hq⟩
theorem cl_rWall (h : CC g kl kn T L t s v wl w i) (h0 : t 0 0 ≠ 0) (hw : wl < 12) (hF : cFin (pWall T L i t s wl) v kl kn w g Q) : cal (d + 4) nRd_readWall [xr 3] g w Q := by
  obtain ⟨⟨R, h7, h8, hTG, hS, hk1, hk2⟩, hT, hx, hz, zi, hiL, hp⟩ := h
  have hk : 4 < kl ∧ 4 < kn := by omega
  refine eRd_readWall fun lim Q2 h2 => wRd_readWall_0 ?_
  have hF : cFin (pWall T L i t s wl) v kl kn w g Q2 := fun w2 a b => h2 _ _ _ rfl (hF w2 a b)
  unfold pWall at hF
  have li := zi.1
  have hw0 := zi.2.2.2.1
  simp only [R.1, true_and]
  refine cl_pcell R h7 hTG hT hx hk li h0 hz.1 hiL hp hF (fun c j a w1 hc b3 b4 f1 p1 q1 hF1 => ⟨_, rfl, fun _ => ?_, fun z => by omega⟩) (fun w1 hq => ⟨_, rfl, fun z => absurd rfl z, fun _ => ⟨Or.inl trivial, hq⟩⟩)
  simp only [R.1, true_and]
  refine cl_pnum R hT (hx.rn f1) hk.2 b4 p1 (by decide) hF1 (fun e j2 w2 c1 c2 c3 c4 f2 p2 q2 hF2 => ⟨_, rfl, fun _ => ?_, fun z => by omega⟩) (fun w2 hq => ⟨_, rfl, fun z => absurd rfl z, fun _ => ⟨Or.inl trivial, hq⟩⟩)
  have f12 := f1.trans f2
  have hz2 := hz.rn f12 hk
  have he : e = 0 ∨ e = 1 := by omega
  simp only [R.1, h7, true_and]
  refine cl_way ⟨_, rfl, t_o hTG, ?_⟩
  rw [show (if e = 0 then (2 : Int) else 3) = 2 + e by split <;> omega]
  refine cl_beside hTG hz2.1 li (by omega) (by omega) ⟨_, rfl, fun z => ?_, fun z => ?_⟩
  · rw [if_neg z] at hF2
    simp only [R.1, h8, s_o hS, true_and]
    refine cl_wallOf hS hz2.2.1 li zi.2.1 (by omega) he ⟨_, rfl, fun y => ?_, fun y => ?_⟩
    · rw [bw1_row z he, sd_n (by omega), Int.toNat_natCast] at y
      rw [if_pos y] at hF2
      simp only [R.1, h7, h8, s_o hS, true_and]
      refine cl_setWallF (e := 1) hS hTG hz2.1 hz2.2.1 li zi.2.1 (by omega) he z fun w3 f3 s3 => ⟨rfl, ?_⟩
      rw [if_neg (by decide), Int.toNat_natCast, ← sd_bld (by omega)] at s3
      have e6 : w3 3 6 = wl := (f3 3 6 (by omega)).trans hz2.2.2.1
      simp only [R.1, e6, true_and]
      refine ⟨by constructor <;> omega, ?_⟩
      have x4 : ∀ a j, ¬ (a = 3 ∧ j = 6) → ¬ (a = kn + 5 ∧ j < nC t) → xup w3 3 6 (wl + 1) a j = w2 a j := fun a j p q => by
        by_cases u : a = 3
        · subst u; rw [xup_k (fun y => p ⟨rfl, y⟩)]; exact f3 _ _ q
        · rw [xup_a u]; exact f3 _ _ q
      have x6 : xup w3 3 6 (wl + 1) 3 6 = wl + 1 := xup_s
      have s4 : RCs t (sd (bld s e.toNat c 1) v) kn (xup w3 3 6 (wl + 1)) := by
        refine ⟨fun r i u p1 p2 => ?_, fun c hc => ?_⟩
        · rw [xup_a (by omega)]; exact s3.1 r i u p1 p2
        · rw [xup_a (by omega)]; exact s3.2 c hc
      generalize xup w3 3 6 (wl + 1) = w4 at x4 x6 s4
      have z4 : ZC t (bld s e.toNat c 1) v (wl + 1) kl kn w4 := by
        obtain ⟨⟨l1, l2, l3, l4, l5, l6, l7, l8, l9, l10, l11⟩, hs, h3, h5, h6, h7, h8, h9⟩ := hz2
        obtain ⟨n1, n2, -⟩ := li_n li
        have e : ∀ a j, 4 < a → a ≠ kn + 5 → w4 a j = w2 a j := fun a j p q => x4 a j (by omega) (by omega)
        refine ⟨⟨by rw [e _ _ (by omega) (by omega), l1], by rw [e _ _ (by omega) (by omega), l2], by rw [e _ _ (by omega) (by omega), l3], by rw [e _ _ (by omega) (by omega), l4], by rw [e _ _ (by omega) (by omega), l5], by rw [e _ _ (by omega) (by omega), l6], fun c hc d hd => ?_, fun i q => ?_, fun i q => ?_, fun i q => ?_, fun i q => ?_⟩, s4, x6, (x4 3 5 (by omega) (by omega)).trans h5, fun i q => ?_, fun i q q2 => ?_, fun i q => ?_, fun i q => ?_⟩
        · rw [e _ _ (by omega) (by omega)]; exact l7 c hc d hd
        · rw [e _ _ (by omega) (by omega)]; exact l8 i q
        · rw [e _ _ (by omega) (by omega)]; exact l9 i q
        · rw [e _ _ (by omega) (by omega), e _ _ (by omega) (by omega)]; exact l10 i q
        · rw [e _ _ (by omega) (by omega), e _ _ (by omega) (by omega)]; exact l11 i q
        · rw [e _ _ (by omega) (by omega), e _ _ (by omega) (by omega), e _ _ (by omega) (by omega)]; exact h6 i q
        · rw [x4 _ _ (by omega) (by omega)]; exact h7 i q q2
        · rw [e _ _ (by omega) (by omega)]; exact h8 i q
        · rw [e _ _ (by omega) (by omega), e _ _ (by omega) (by omega), e _ _ (by omega) (by omega)]; exact h9 i q
      have pf : PF kl kn w2 w4 := ⟨fun a j p q r => x4 a j (by omega) (by omega), x4 _ _ (by omega) (by omega)⟩
      exact cl_pend R hT ((hx.rn f12).e (fun j => x4 4 j (by omega) (by omega)) (x4 3 1 (by omega) (by omega))) hk c4 ((x4 3 2 (by omega) (by omega)).trans p2) z4 (hF2.mono pf) fun x w6 hx6 hq => ⟨_, rfl, hx6, hq⟩
    · rw [bw1_row z he, sd_n (by omega), Int.toNat_natCast] at y
      rw [if_neg y] at hF2
      simp only [R.1, q2, true_and]
      exact cl_fail R fun w3 f3 k3 a3 => ⟨_, rfl, Or.inl rfl, hF2.fl (by decide) (f3.pf hk.2) k3 a3⟩
  · rw [if_pos z] at hF2
    simp only [R.1, q2, true_and]
    exact cl_fail R fun w3 f3 k3 a3 => ⟨_, rfl, Or.inl rfl, hF2.fl (by decide) (f3.pf hk.2) k3 a3⟩
theorem cl_hasS (R : RG g) (h7 : g.2 3 7 = kl) (hTG : TG g kl) (hl : RCl t kl w) (li : LInv t) {c : Int} (hQ : Q (some (xi (if hsU t c (nS t) = true then 1 else 0))) g w) : cal (d + 1) nRd_hasStove [xr 3, xi c] g w Q := by
  refine eRd_hasStove fun lim Q2 h2 => wRd_hasStove_0 ?_
  have hQ := h2 _ _ _ rfl hQ
  obtain ⟨n1, n2, n3, n4, n5, n6⟩ := li_n li
  have e2 : w kl 2 = t 0 2 := hl.2.2.1
  have mono : ∀ m n, hsU t c n = true → hsU t c (n + m) = true := fun m n h => by
    induction m with
    | zero => exact h
    | succ m ih => show hsU t c ((n + m) + 1) = true; rw [hsU, ih]; rfl
  have loop : ∀ n k, k + n = nS t → hsU t c k = false → aRd_hasStove d lim Q2 2 [xr 3, xi c, xi k] [] g w := by
    intro n
    induction n with
    | zero =>
      intro k hk hf
      refine wRd_hasStove_2 ?_
      simp only [R.1, h7, t_o hTG, e2, true_and]
      refine ⟨fun _ => ⟨Or.inl trivial, qe hQ ?_⟩, fun h => by omega⟩
      rw [← show k = nS t by omega, hf]; rfl
    | succ n ih =>
      intro k hk hf
      have e3 : w (kl + 4) (Int.toNat (k : Int)) = t 3 k := by rw [Int.toNat_natCast]; exact (hl.2.2.2.2.2.2.2.2.2.1 k (by omega)).1
      refine wRd_hasStove_2 ?_
      simp only [R.1, h7, t_o hTG, t_p9 hTG, t_r9 hTG, e2, e3, true_and]
      refine ⟨fun h => by omega, fun _ => ⟨by constructor <;> omega, fun q => ⟨by constructor <;> omega, ?_⟩, fun q => ⟨Or.inr trivial, qe hQ ?_⟩⟩⟩
      · rw [show ((k : Int) + 1) = ((k + 1 : Nat) : Int) by omega]
        refine ih (k + 1) (by omega) ?_
        rw [hsU, hf]; simp [q]
      · have := mono n (k + 1) (by rw [hsU, hf]; simp [q])
        rw [show k + 1 + n = nS t by omega] at this
        rw [if_pos this]
  exact loop (nS t) 0 (by omega) rfl
theorem cl_rStove (h : CC g kl kn T L t s v wl w i) (h0 : t 0 0 ≠ 0) (h4 : t 0 2 < 4) (hF : cFin (pStove T L i t s wl) v kl kn w g Q) : cal (d + 4) nRd_readStove [xr 3] g w Q := by
  obtain ⟨⟨R, h7, h8, hTG, hS, hk1, hk2⟩, hT, hx, hz, zi, hiL, hp⟩ := h
  have hk : 4 < kl ∧ 4 < kn := by omega
  refine eRd_readStove fun lim Q2 h2 => wRd_readStove_0 ?_
  have hF : cFin (pStove T L i t s wl) v kl kn w g Q2 := fun w2 a b => h2 _ _ _ rfl (hF w2 a b)
  unfold pStove at hF
  have li := zi.1
  obtain ⟨n1, n2, n3, n4, n5, n6⟩ := li_n li
  simp only [R.1, true_and]
  refine cl_pcell R h7 hTG hT hx hk li h0 hz.1 hiL hp hF (fun c j a w1 hc b3 b4 f1 p1 q1 hF1 => ⟨_, rfl, fun _ => ?_, fun z => by omega⟩) (fun w1 hq => ⟨_, rfl, fun z => absurd rfl z, fun _ => ⟨Or.inl trivial, hq⟩⟩)
  have hz1 := hz.rn f1 hk
  simp only [R.1, true_and]
  refine cl_hasS R h7 hTG hz1.1 li ⟨_, rfl, fun z => ?_, fun z => ?_⟩
  · rw [if_neg (ifv.1 z)] at hF1
    simp only [R.1, true_and]
    refine cl_pnum R hT (hx.rn f1) hk.2 b4 p1 (by decide) hF1 (fun x j2 w2 c1 c2 c3 c4 f2 p2 q2 hF2 => ⟨_, rfl, fun _ => ?_, fun z => by omega⟩) (fun w2 hq => ⟨_, rfl, fun z => absurd rfl z, fun _ => ⟨Or.inl trivial, hq⟩⟩)
    have f12 := f1.trans f2
    simp only [R.1, true_and]
    refine cl_pnum R hT (hx.rn f12) hk.2 c4 p2 (by decide) hF2 (fun f j3 w3 d1 d2 d3 d4 f3 p3 q3 hF3 => ⟨_, rfl, fun _ => ?_, fun z => by omega⟩) (fun w3 hq => ⟨_, rfl, fun z => absurd rfl z, fun _ => ⟨Or.inl trivial, hq⟩⟩)
    have f13 := f12.trans f3
    have hz3 := hz.rn f13 hk
    have e2 : w3 kl 2 = t 0 2 := hz3.1.2.2.1
    have hnS : Int.toNat (t 0 2) = nS t := rfl
    simp only [R.1, h7, t_o hTG, e2, true_and]
    refine ⟨by constructor <;> omega, wRd_readStove_82 ?_⟩
    simp only [R.1, h7, t_o hTG, t_p9 hTG, t_a9 hTG, true_and]
    refine ⟨by omega, wRd_readStove_93 ?_⟩
    simp only [R.1, h7, t_o hTG, t_p10 hTG, t_a10 hTG, true_and]
    refine ⟨by omega, wRd_readStove_104 ?_⟩
    simp only [R.1, h8, s_o hS, s_p5 hS, s_a5 hS, true_and, hnS]
    refine ⟨by omega, ?_⟩
    have e5 : ∀ a j, ¬ (a = kl ∧ j = 2) → ¬ ((a = kl + 4 ∨ a = kl + 5 ∨ a = kn + 6) ∧ j = nS t) → xup (xup (xup (xup w3 kl 2 (t 0 2 + 1)) (kl + 4) (nS t) (c : Int)) (kl + 5) (nS t) x) (kn + 6) (nS t) f a j = w3 a j := fun a j p q => by
      have u : ∀ (w9 : xW) (b : Nat) (x9 : Int), (b = kl + 4 ∨ b = kl + 5 ∨ b = kn + 6) → xup w9 b (nS t) x9 a j = w9 a j := fun w9 b x9 hb => by
        by_cases y : a = b
        · subst y; exact xup_k (fun u => q ⟨hb, u⟩)
        · exact xup_a y
      rw [u _ _ _ (by omega), u _ _ _ (by omega), u _ _ _ (by omega)]
      by_cases y : a = kl
      · subst y; exact xup_k (fun u => p ⟨rfl, u⟩)
      · exact xup_a y
    have g2 : xup (xup (xup (xup w3 kl 2 (t 0 2 + 1)) (kl + 4) (nS t) (c : Int)) (kl + 5) (nS t) x) (kn + 6) (nS t) f kl 2 = t 0 2 + 1 := by rw [xup_a (by omega), xup_a (by omega), xup_a (by omega), xup_s]
    have g4 : xup (xup (xup (xup w3 kl 2 (t 0 2 + 1)) (kl + 4) (nS t) (c : Int)) (kl + 5) (nS t) x) (kn + 6) (nS t) f (kl + 4) (nS t) = c := by rw [xup_a (by omega), xup_a (by omega), xup_s]
    have g5 : xup (xup (xup (xup w3 kl 2 (t 0 2 + 1)) (kl + 4) (nS t) (c : Int)) (kl + 5) (nS t) x) (kn + 6) (nS t) f (kl + 5) (nS t) = x := by rw [xup_a (by omega), xup_s]
    have g6 : xup (xup (xup (xup w3 kl 2 (t 0 2 + 1)) (kl + 4) (nS t) (c : Int)) (kl + 5) (nS t) x) (kn + 6) (nS t) f (kn + 6) (nS t) = f := xup_s
    generalize xup (xup (xup (xup w3 kl 2 (t 0 2 + 1)) (kl + 4) (nS t) (c : Int)) (kl + 5) (nS t) x) (kn + 6) (nS t) f = w4 at e5 g2 g4 g5 g6
    have z4 := zc_stove hz3 li (fun i => (zi.2.2.2.2.2 i).2.2.1) (by omega) h4 e5 g2 g4 g5 g6
    have pf : PF kl kn w3 w4 := ⟨fun a j p q r => e5 a j (by omega) (by omega), e5 _ _ (by omega) (by omega)⟩
    exact cl_pend R hT ((hx.rn f13).e (fun j => e5 4 j (by omega) (by omega)) (e5 3 1 (by omega) (by omega))) hk d4 ((e5 3 2 (by omega) (by omega)).trans p3) z4 (hF3.mono pf) fun x w6 hx6 hq => ⟨_, rfl, hx6, hq⟩
  · rw [if_pos (ifv.2 z)] at hF1
    simp only [R.1, q1, true_and]
    exact cl_fail R fun w3 f3 k3 a3 => ⟨_, rfl, Or.inl rfl, hF1.fl (by decide) (f3.pf hk.2) k3 a3⟩
end TKG
