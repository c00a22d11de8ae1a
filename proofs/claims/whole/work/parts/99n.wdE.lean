/-! ===== command town as a step of the world: the reference ===== -/
section WDE
variable {X : zX} {g : xG} {w w0 : xW} {d : Nat} {Q : xQ} {lim : Nat × Nat} {t s : zS} {wl v : Int}
/-- what stands when all was copied: lands -/
theorem tw_l {w1 wZ : xW} (z1 : ZM t s wl w1) (li : LInv t) (e4 : wZ 193 4 = t 0 0) (e5 : wZ 193 5 = t 0 1) (e8 : wZ 193 8 = t 0 2) (e7 : wZ 193 7 = t 0 3) (e11 : wZ 193 11 = t 0 4) (e13 : wZ 193 13 = t 0 5) (e198 : ∀ j, j < 20 → wZ 198 j = w1 212 j) (e199 : ∀ j, j < nS t → wZ 199 j = w1 213 j ∧ wZ 200 j = w1 213 (4 + j)) (e201 : ∀ j, j < 8 → wZ 201 j = w1 215 j) (e202 : ∀ j, j < nP t → wZ 202 j = w1 216 (12 + j) ∧ wZ 203 j = w1 216 (18 + j)) : RMl t wZ := by
  obtain ⟨h1, h2, h3, h4, h5, h6, h7, h8, h9, h10, h11, h12⟩ := z1
  obtain ⟨n1, n2, n3, n4, n5, n6⟩ := li_n li
  have hl4 := li.2.2.2.1
  refine ⟨e4, e5, e8, e7, e11, e13, fun i q => ?_, fun i q => ?_, fun i q => ?_, fun i q => ?_⟩
  · rw [e198 i (by omega)]; exact (h9 i (by omega)).2.2.1
  · rw [e201 i (by omega)]; exact h11 i q
  · rw [(e199 i q).1, (e199 i q).2]; exact ⟨(h10 i q).1, (h10 i q).2.1⟩
  · rw [(e202 i q).1, (e202 i q).2]; exact ⟨(h12 i q).2.2.1, (h12 i q).2.2.2⟩
/-- states -/
theorem tw_s {w1 wZ : xW} {sd' : Int} (z1 : ZM t s wl w1) (zi : ZI t s v wl) (c0 : ∀ j, j < 20 → wZ 194 j = (if j < nC t then w1 193 35 else 0) ∧ wZ 194 (20 + j) = w1 211 j ∧ wZ 194 (40 + j) = w1 211 (20 + j)) (c3 : ∀ j, 60 ≤ j → j < 80 → wZ 194 j = -1) (c4 : ∀ j, ((80 ≤ j ∧ j < 100) ∨ (104 ≤ j ∧ j < 108) ∨ (120 ≤ j ∧ j < 139) ∨ j = 140 ∨ j = 142) → wZ 194 j = 0) (c5 : ∀ j, j < nS t → wZ 194 (100 + j) = w1 213 (8 + j)) (c7 : ∀ j, j < nP t → wZ 194 (108 + j) = w1 216 j ∧ wZ 194 (114 + j) = w1 216 (6 + j)) (c39 : wZ 194 139 = 3) (c41 : wZ 194 141 = sd') : RMs t (sd s sd') wZ := by
  obtain ⟨h1, h2, h3, h4, h5, h6, h7, h8, h9, h10, h11, h12⟩ := z1
  have li := zi.1
  have hs := zi.2.2.2.2.2
  obtain ⟨n1, n2, n3, n4, n5, n6⟩ := li_n li
  intro r i q
  match r, q with
  | 0, q =>
    have q : i < nC t := q
    have h0 : t 0 0 ≠ 0 := fun z => by
      have : nC t = 0 := by unfold nC; rw [z]; simp
      omega
    rw [sd_n (by decide), show wZ 194 (off 0 + i) = wZ 194 (0 + i) from rfl, show 0 + i = i by omega, (c0 i (by omega)).1, if_pos q, h3 h0 i]
  | 1, q =>
    have q : i < 20 := q
    rw [sd_n (by decide), show wZ 194 (off 1 + i) = wZ 194 (20 + i) from rfl, (c0 i q).2.1]; exact (h9 i q).1
  | 2, q =>
    have q : i < 20 := q
    rw [sd_n (by decide), show wZ 194 (off 2 + i) = wZ 194 (40 + i) from rfl, (c0 i q).2.2]; exact (h9 i q).2.1
  | 3, q =>
    have q : i < nC t := q
    rw [sd_n (by decide), show wZ 194 (off 3 + i) = wZ 194 (60 + i) from rfl, c3 _ (by omega) (by omega), (hs i).1]
  | 4, q =>
    have q : i < nC t := q
    rw [sd_n (by decide), show wZ 194 (off 4 + i) = wZ 194 (80 + i) from rfl, c4 _ (by omega), (hs i).2.1]
  | 5, q =>
    have q : i < nS t := q
    rw [sd_n (by decide), show wZ 194 (off 5 + i) = wZ 194 (100 + i) from rfl, c5 i q]; exact (h10 i q).2.2
  | 6, q =>
    have q : i < nS t := q
    rw [sd_n (by decide), show wZ 194 (off 6 + i) = wZ 194 (104 + i) from rfl, c4 _ (by omega), (hs i).2.2.1]
  | 7, q =>
    have q : i < nP t := q
    rw [sd_n (by decide), show wZ 194 (off 7 + i) = wZ 194 (108 + i) from rfl, (c7 i q).1]; exact (h12 i q).1
  | 8, q =>
    have q : i < nP t := q
    rw [sd_n (by decide), show wZ 194 (off 8 + i) = wZ 194 (114 + i) from rfl, (c7 i q).2]; exact (h12 i q).2.1
  | 9, q =>
    have q : i < nP t := q
    rw [sd_n (by decide), show wZ 194 (off 9 + i) = wZ 194 (120 + i) from rfl, c4 _ (by omega), (hs i).2.2.2.1]
  | 10, q =>
    have q : i < nP t := q
    rw [sd_n (by decide), show wZ 194 (off 10 + i) = wZ 194 (126 + i) from rfl, c4 _ (by omega), (hs i).2.2.2.2.1]
  | 11, q =>
    have q : i < nP t := q
    rw [sd_n (by decide), show wZ 194 (off 11 + i) = wZ 194 (132 + i) from rfl, c4 _ (by omega), (hs i).2.2.2.2.2]
  | 12, q =>
    have q : i < 5 := q
    rw [sd_12]
    rcases (by omega : i = 0 ∨ i = 1 ∨ i = 2 ∨ i = 3 ∨ i = 4) with u | u | u | u | u <;> subst u
    · exact c4 138 (by omega)
    · exact c39
    · exact c4 140 (by omega)
    · exact c41
    · exact c4 142 (by omega)
theorem M_Town (hM : MG g) (hk : MK X w) (xi' : XI X) (hQ : MPo (xTown X).2 (xTown X).1 g w Q) : cal (d + 20) nMo_town [xr 193] g w Q := by
  obtain ⟨li, ⟨si, wi, hm⟩, pc, pd, im, ln, tx⟩ := xi'
  obtain ⟨h1, h2, h3, h4, h5, h6, ⟨h7, h7'⟩, h8⟩ := id hk
  refine eMo_town fun lim Q2 q2 => wMo_town_0 ?_
  have hQ : MPo (xTown X).2 (xTown X).1 g w Q2 := fun w2 e1 e2 => q2 _ _ _ rfl (hQ w2 e1 e2)
  have hTI : TxI (X 6 1) (X 6 2 0).toNat := ⟨by omega, fun j hj => tx j (by omega)⟩
  have hTx : TxM (X 6 1) (X 6 2 0).toNat w := ⟨by rw [h7]; omega, fun j hj => h7' j (by omega)⟩
  have hk0 : kB (tRd X) := kb_all _ _ _ _ _
  have er : pAll (X 6 1) (X 6 2 0).toNat 260 0 tz0 sz0 0 = tRd X := rfl
  simp only [m_o hM, true_and]
  refine mo_readsAll (d := d + 10) hM hTI hTx fun w1 f1 r1 => ⟨_, rfl, ?_⟩
  rw [er] at r1 ⊢
  unfold xTown at hQ
  refine ⟨fun z => ?_, fun z => ?_⟩
  · have z := ifv.1 z
    rw [if_neg z] at hQ
    have hQ : MPo (zw X 6 (m6F X (tRd X).2.1)) (-10 - (tRd X).1) g w Q2 := hQ
    rcases r1 with ⟨y, -⟩ | ⟨-, k1, a1⟩
    · exact absurd y z
    · refine ⟨m_o hM, wMo_town_18 ?_⟩
      simp only [m_o hM, true_and]
      refine wMo_town_21 ?_
      simp only [m_o hM, true_and]
      refine wMo_town_26 ?_
      rw [if_neg z, a1]
      have o2 : ∀ a j, ¬ (a = 193 ∧ (j = 25 ∨ j = 26)) → xup (xup w1 193 26 ((tRd X).2.1 : Int)) 193 25 0 a j = w1 a j := fun a j q => by rw [xup_o (fun u => q ⟨u.1, Or.inl u.2⟩), xup_o (fun u => q ⟨u.1, Or.inr u.2⟩)]
      have p25 : xup (xup w1 193 26 ((tRd X).2.1 : Int)) 193 25 0 193 25 = 0 := xup_s
      have p26 : xup (xup w1 193 26 ((tRd X).2.1 : Int)) 193 25 0 193 26 = (tRd X).2.1 := by rw [xup_k (by decide), xup_s]
      generalize xup (xup w1 193 26 ((tRd X).2.1 : Int)) 193 25 0 = w2 at o2 p25 p26
      have e31 : w2 193 31 = (tRd X).1 := (o2 _ _ (by decide)).trans k1
      have f2 : ∀ a j, ¬ (a = 193 ∧ 25 ≤ j ∧ j ≤ 47) → ¬ (211 ≤ a ∧ a ≤ 216) → w2 a j = w a j := fun a j p q => by rw [o2 a j (by omega)]; exact f1 a j (by omega) q
      have hb := hk0.2
      have hb0 := hk0.1
      simp only [m_o hM, e31, true_and]
      refine ⟨fun u => absurd trivial u, fun _ => ⟨by constructor <;> omega, hQ w2 (fun a j q => f2 a j (by omega) (by omega)) ?_⟩⟩
      have m0 : ∀ j, m6F X (tRd X).2.1 0 j = X 6 0 j := fun j => by unfold m6F; rw [zset_n (by decide)]
      have m2 : m6F X (tRd X).2.1 2 0 = 0 := by unfold m6F; rw [zset_s, zup_n (by decide), zup_s]
      have m3 : m6F X (tRd X).2.1 2 1 = (tRd X).2.1 := by unfold m6F; rw [zset_s, zup_s]
      unfold MK
      rw [zw_s, zw_n (by decide), zw_n (by decide), zw_n (by decide), zw_n (by decide)]
      simp only [m0, m2, m3]
      refine ⟨h1.e fun a j q => f2 a j (by omega) (by omega), fun r i q => by rw [f2 _ _ (by omega) (by omega)]; exact h2 r i q, (f2 _ _ (by omega) (by omega)).trans h3, h4.e (f2 _ _ (by omega) (by omega)) fun b j p q => f2 b j (by omega) (by omega), h5.e (f2 _ _ (by omega) (by omega)) fun b j p q => f2 b j (by omega) (by omega), fun j hj => ⟨(f2 _ _ (by omega) (by omega)).trans (h6 j hj).1, fun y => ?_⟩, ⟨p25, fun j hj => by omega⟩, p26⟩
      rw [zw_n (by omega)]
      intro r i q
      rw [f2 _ _ (by omega) (by omega)]; exact (h6 j hj).2 y r i q
  · have z := ifv.2 z
    rw [if_pos z] at hQ ⊢
    have hQ : MPo (xTwn X) (nC (tRd X).2.2.1) g w Q2 := hQ
    rcases r1 with ⟨-, z1⟩ | ⟨y, -⟩
    · have zi := pAll_ok (T := X 6 1) (L := (X 6 2 0).toNat) (v := 0) 260 0 tz0 sz0 0 (Nat.zero_le _) (zi_0 (by decide)) z
      rw [er] at zi
      have lit' := zi.1
      have e33 : w1 193 33 = (tRd X).2.2.1 0 0 := z1.1
      have e34 : w1 193 34 = (tRd X).2.2.1 0 1 := z1.2.1
      have e39 : w1 193 39 = (tRd X).2.2.1 0 3 := z1.2.2.2.2.1
      have e40 : w1 193 40 = (tRd X).2.2.1 0 2 := z1.2.2.2.2.2.1
      have e43 : w1 193 43 = (tRd X).2.2.1 0 4 := z1.2.2.2.2.2.2.1
      have e45 : w1 193 45 = (tRd X).2.2.1 0 5 := z1.2.2.2.2.2.2.2.1
      have r1b := zi.2.2.2.2.1
      obtain ⟨n1, n2, n3, n4, n5, n6⟩ := li_n lit'
      have e141 : w1 194 141 = X 1 12 3 := (f1 194 141 (by omega) (by omega)).trans (h2 12 3 (show 3 < 5 by decide))
      refine wMo_town_18 ?_
      simp only [m_o hM, true_and]
      refine wMo_town_21 ?_
      simp only [m_o hM, true_and]
      refine wMo_town_26 ?_
      have u33 : xup (xup w1 193 26 (-1)) 193 25 0 193 33 = (tRd X).2.2.1 0 0 := by rw [xup_k (by decide), xup_k (by decide)]; exact e33
      simp only [m_o hM, u33, true_and]
      refine ⟨fun _ => wMo_town_46 ?_, fun u => absurd u (by decide)⟩
      have u34 : xup (xup (xup w1 193 26 (-1)) 193 25 0) 193 4 ((tRd X).2.2.1 0 0) 193 34 = (tRd X).2.2.1 0 1 := by rw [xup_k (by decide), xup_k (by decide), xup_k (by decide)]; exact e34
      simp only [m_o hM, u34, true_and]
      have o2 : ∀ a j, ¬ (a = 193 ∧ (j = 25 ∨ j = 26 ∨ j = 4 ∨ j = 5)) → xup (xup (xup (xup w1 193 26 (-1)) 193 25 0) 193 4 ((tRd X).2.2.1 0 0)) 193 5 ((tRd X).2.2.1 0 1) a j = w1 a j := fun a j q => by rw [xup_o (fun u => q ⟨u.1, by omega⟩), xup_o (fun u => q ⟨u.1, by omega⟩), xup_o (fun u => q ⟨u.1, by omega⟩), xup_o (fun u => q ⟨u.1, by omega⟩)]
      have p25 : xup (xup (xup (xup w1 193 26 (-1)) 193 25 0) 193 4 ((tRd X).2.2.1 0 0)) 193 5 ((tRd X).2.2.1 0 1) 193 25 = 0 := by rw [xup_k (by decide), xup_k (by decide), xup_s]
      have p26 : xup (xup (xup (xup w1 193 26 (-1)) 193 25 0) 193 4 ((tRd X).2.2.1 0 0)) 193 5 ((tRd X).2.2.1 0 1) 193 26 = -1 := by rw [xup_k (by decide), xup_k (by decide), xup_k (by decide), xup_s]
      have p4 : xup (xup (xup (xup w1 193 26 (-1)) 193 25 0) 193 4 ((tRd X).2.2.1 0 0)) 193 5 ((tRd X).2.2.1 0 1) 193 4 = (tRd X).2.2.1 0 0 := by rw [xup_k (by decide), xup_s]
      have p5 : xup (xup (xup (xup w1 193 26 (-1)) 193 25 0) 193 4 ((tRd X).2.2.1 0 0)) 193 5 ((tRd X).2.2.1 0 1) 193 5 = (tRd X).2.2.1 0 1 := xup_s
      generalize xup (xup (xup (xup w1 193 26 (-1)) 193 25 0) 193 4 ((tRd X).2.2.1 0 0)) 193 5 ((tRd X).2.2.1 0 1) = w2 at o2 p25 p26 p4 p5
      refine wMo_town_54 ?_
      simp only [m_o hM, true_and]
      refine mo_emptyNow hM fun w3 f3 v3 => ⟨rfl, ?_⟩
      simp only [m_o hM, m_p0 hM, m_a0 hM, true_and]
      refine ⟨by decide, ?_⟩
      have o4 : ∀ a j, a ≠ 194 → xup w3 194 (Int.toNat 139) 3 a j = w2 a j := fun a j q => by rw [xup_a q]; exact f3 a j q
      have q4 : ∀ j, j < 143 → j ≠ 139 → xup w3 194 (Int.toNat 139) 3 194 j = eN w2 j := fun j q1 q2 => by rw [show Int.toNat 139 = 139 from rfl, xup_k (show j ≠ 139 from q2)]; exact v3 j q1
      have r4 : xup w3 194 (Int.toNat 139) 3 194 139 = 3 := xup_s
      generalize xup w3 194 (Int.toNat 139) 3 = w4 at o4 q4 r4
      have a4 : ∀ a j, a ≠ 194 → ¬ (a = 193 ∧ (j = 25 ∨ j = 26 ∨ j = 4 ∨ j = 5)) → w4 a j = w1 a j := fun a j p q => (o4 a j p).trans (o2 a j q)
      refine mo_tw69 (w0 := w4) hM lit' ((o4 _ _ (by decide)).trans p4) ((o4 _ _ (by decide)).trans p5) (fun j hj => by rw [a4 _ _ (by decide) (by omega), (z1.2.2.2.2.2.2.2.2.1 j hj).2.2.1]; exact r1b j) (fun w5 f5 v5 => ?_) 20 0 w4 rfl (fun _ _ _ _ => rfl) fun j hj => by omega
      refine wMo_town_69 ?_
      have u39 : w5 193 39 = (tRd X).2.2.1 0 3 := by rw [f5 _ _ (by omega) (by decide), a4 _ _ (by decide) (by decide)]; exact e39
      simp only [m_o hM, u39, true_and]
      refine ⟨fun _ => wMo_town_158 ?_, fun u => absurd u (by decide)⟩
      have u40 : xup w5 193 7 ((tRd X).2.2.1 0 3) 193 40 = (tRd X).2.2.1 0 2 := by rw [xup_k (by decide), f5 _ _ (by omega) (by decide), a4 _ _ (by decide) (by decide)]; exact e40
      simp only [m_o hM, u40, true_and]
      have o7 : ∀ a j, ¬ (a = 193 ∧ (j = 7 ∨ j = 8)) → xup (xup w5 193 7 ((tRd X).2.2.1 0 3)) 193 8 ((tRd X).2.2.1 0 2) a j = w5 a j := fun a j q => by rw [xup_o (fun u => q ⟨u.1, by omega⟩), xup_o (fun u => q ⟨u.1, by omega⟩)]
      have p7 : xup (xup w5 193 7 ((tRd X).2.2.1 0 3)) 193 8 ((tRd X).2.2.1 0 2) 193 7 = (tRd X).2.2.1 0 3 := by rw [xup_k (by decide), xup_s]
      have p8 : xup (xup w5 193 7 ((tRd X).2.2.1 0 3)) 193 8 ((tRd X).2.2.1 0 2) 193 8 = (tRd X).2.2.1 0 2 := xup_s
      generalize xup (xup w5 193 7 ((tRd X).2.2.1 0 3)) 193 8 ((tRd X).2.2.1 0 2) = w7 at o7 p7 p8
      refine mo_tw168 (w0 := w7) (K := nS (tRd X).2.2.1) hM (by omega) (by rw [p8]; omega) (fun w8 f8 v8 => ?_) (nS (tRd X).2.2.1) 0 w7 (by omega) (fun _ _ _ _ _ => rfl) fun j hj => by omega
      refine wMo_town_168 ?_
      have u8 : w8 193 8 = (tRd X).2.2.1 0 2 := (f8 _ _ (by omega) (by decide) (by decide)).trans p8
      have u43 : w8 193 43 = (tRd X).2.2.1 0 4 := by rw [f8 _ _ (by omega) (by decide) (by decide), o7 _ _ (by decide), f5 _ _ (by omega) (by decide), a4 _ _ (by decide) (by decide)]; exact e43
      simp only [m_o hM, u8, u43, true_and]
      refine ⟨fun _ => wMo_town_234 ?_, fun u => by omega⟩
      have o9 : ∀ a j, ¬ (a = 193 ∧ j = 11) → xup w8 193 11 ((tRd X).2.2.1 0 4) a j = w8 a j := fun a j q => xup_o q
      have p11 : xup w8 193 11 ((tRd X).2.2.1 0 4) 193 11 = (tRd X).2.2.1 0 4 := xup_s
      generalize xup w8 193 11 ((tRd X).2.2.1 0 4) = w9 at o9 p11
      refine mo_tw236 (w0 := w9) hM (fun wA fA vA => ?_) 8 0 w9 rfl (fun _ _ _ => rfl) fun j hj => by omega
      refine wMo_town_236 ?_
      have u45 : wA 193 45 = (tRd X).2.2.1 0 5 := by rw [fA _ _ (by decide), o9 _ _ (by decide), f8 _ _ (by omega) (by decide) (by decide), o7 _ _ (by decide), f5 _ _ (by omega) (by decide), a4 _ _ (by decide) (by decide)]; exact e45
      simp only [m_o hM, u45, true_and]
      refine ⟨fun _ => ?_, fun u => absurd u (by decide)⟩
      have oB : ∀ a j, ¬ (a = 193 ∧ j = 13) → xup wA 193 13 ((tRd X).2.2.1 0 5) a j = wA a j := fun a j q => xup_o q
      have p13 : xup wA 193 13 ((tRd X).2.2.1 0 5) 193 13 = (tRd X).2.2.1 0 5 := xup_s
      generalize xup wA 193 13 ((tRd X).2.2.1 0 5) = wB at oB p13
      refine mo_tw270 (w0 := wB) (K := nP (tRd X).2.2.1) hM (by omega) (by rw [p13]; omega) (fun wC fC vC => ?_) (nP (tRd X).2.2.1) 0 wB (by omega) (fun _ _ _ _ _ => rfl) fun j hj => by omega
      refine wMo_town_270 ?_
      have u13 : wC 193 13 = (tRd X).2.2.1 0 5 := (fC _ _ (by omega) (by decide) (by decide)).trans p13
      simp only [m_o hM, u13, true_and]
      refine ⟨fun _ => wMo_town_352 ?_, fun u => by omega⟩
      simp only [m_o hM, true_and]
      refine wMo_town_357 ?_
      simp only [m_o hM, m_p2 hM, m_b2 hM, true_and]
      refine ⟨⟨by decide, Or.inl trivial⟩, wMo_town_364 ?_⟩
      simp only [m_o hM, m_p2 hM, m_b2 hM, true_and]
      refine ⟨⟨by decide, Or.inl trivial⟩, ?_⟩
      have oZ : ∀ a j, ¬ (a = 193 ∧ (j = 16 ∨ j = 20)) → ¬ (a = 196 ∧ j < 2) → xup (xup (xup (xup wC 193 16 0) 193 20 0) 196 (Int.toNat 0) 0) 196 (Int.toNat 1) 0 a j = wC a j := fun a j p q => by rw [xup_o (fun u => q ⟨u.1, by rw [u.2]; decide⟩), xup_o (fun u => q ⟨u.1, by rw [u.2]; decide⟩), xup_o (fun u => p ⟨u.1, Or.inr u.2⟩), xup_o (fun u => p ⟨u.1, Or.inl u.2⟩)]
      have p16 : xup (xup (xup (xup wC 193 16 0) 193 20 0) 196 (Int.toNat 0) 0) 196 (Int.toNat 1) 0 193 16 = 0 := by rw [xup_a (by decide), xup_a (by decide), xup_k (by decide), xup_s]
      have p20 : xup (xup (xup (xup wC 193 16 0) 193 20 0) 196 (Int.toNat 0) 0) 196 (Int.toNat 1) 0 193 20 = 0 := by rw [xup_a (by decide), xup_a (by decide), xup_s]
      have pk : ∀ j, j < 2 → xup (xup (xup (xup wC 193 16 0) 193 20 0) 196 (Int.toNat 0) 0) 196 (Int.toNat 1) 0 196 j = 0 := fun j hj => by
        rcases (by omega : j = 0 ∨ j = 1) with u | u <;> subst u
        · rw [xup_k (by decide)]; exact xup_s
        · exact xup_s
      generalize xup (xup (xup (xup wC 193 16 0) 193 20 0) 196 (Int.toNat 0) 0) 196 (Int.toNat 1) 0 = wZ at oZ p16 p20 pk
      -- what the last heap holds of the fields
      have zc : ∀ j, j ≠ 16 → j ≠ 20 → wZ 193 j = wB 193 j := fun j p q => by rw [oZ _ _ (by omega) (by omega), fC _ _ (by omega) (by decide) (by decide)]
      have z4 : wZ 193 4 = (tRd X).2.2.1 0 0 := by rw [zc 4 (by decide) (by decide), oB _ _ (by decide), fA _ _ (by decide), o9 _ _ (by decide), f8 _ _ (by omega) (by decide) (by decide), o7 _ _ (by decide), f5 _ _ (by omega) (by decide), o4 _ _ (by decide), p4]
      have z5 : wZ 193 5 = (tRd X).2.2.1 0 1 := by rw [zc 5 (by decide) (by decide), oB _ _ (by decide), fA _ _ (by decide), o9 _ _ (by decide), f8 _ _ (by omega) (by decide) (by decide), o7 _ _ (by decide), f5 _ _ (by omega) (by decide), o4 _ _ (by decide), p5]
      have keep : ∀ a j, a ≠ 193 → a ≠ 194 → a ≠ 196 → a ≠ 202 → a ≠ 203 → a ≠ 201 → a ≠ 199 → a ≠ 200 → a ≠ 198 → wZ a j = w1 a j := fun a j q1 q2 q3 q4 q5 q6 q7 q8 q9 => by
        rw [oZ _ _ (fun u => q1 u.1) (fun u => q3 u.1), fC _ _ (fun u => q2 u.1) q4 q5, oB _ _ (fun u => q1 u.1), fA _ _ q6, o9 _ _ (fun u => q1 u.1), f8 _ _ (fun u => q2 u.1) q7 q8, o7 _ _ (fun u => q1 u.1), f5 _ _ (fun u => q2 u.1) q9, a4 _ _ q2 (fun u => q1 u.1)]
      have src : ∀ a j, 211 ≤ a → a ≤ 216 → wB a j = w1 a j ∧ w9 a j = w1 a j ∧ w7 a j = w1 a j ∧ w4 a j = w1 a j := fun a j p q => by
        have e4' : w4 a j = w1 a j := a4 _ _ (by omega) (by omega)
        have e7' : w7 a j = w1 a j := by rw [o7 _ _ (by omega), f5 _ _ (by omega) (by omega), e4']
        have e9' : w9 a j = w1 a j := by rw [o9 _ _ (by omega), f8 _ _ (by omega) (by omega) (by omega), e7']
        exact ⟨by rw [oB _ _ (by omega), fA _ _ (by omega), e9'], e9', e7', e4'⟩
      have c194 : ∀ j, ¬ (108 ≤ j ∧ j < 120) → ¬ (100 ≤ j ∧ j < 100 + nS (tRd X).2.2.1) → wZ 194 j = w5 194 j := fun j p q => by
        rw [oZ _ _ (by omega) (by omega), fC _ _ (by omega) (by decide) (by decide), oB _ _ (by omega), fA _ _ (by decide), o9 _ _ (by omega), f8 _ _ (by omega) (by decide) (by decide), o7 _ _ (by omega)]
      have d194 : ∀ j, 60 ≤ j → j < 143 → j ≠ 139 → ¬ (108 ≤ j ∧ j < 120) → ¬ (100 ≤ j ∧ j < 104) → wZ 194 j = eN w2 j := fun j p p2 p3 q r => by
        rw [c194 j q (by omega), f5 _ _ (by omega) (by decide), q4 j p2 p3]
      have rl : RMl (tRd X).2.2.1 wZ := by
        refine tw_l z1 lit' z4 z5 ?_ ?_ ?_ ?_ (fun j hj => ?_) (fun j hj => ?_) (fun j hj => ?_) (fun j hj => ?_)
        · rw [zc 8 (by decide) (by decide), oB _ _ (by decide), fA _ _ (by decide), o9 _ _ (by decide), u8]
        · rw [zc 7 (by decide) (by decide), oB _ _ (by decide), fA _ _ (by decide), o9 _ _ (by decide), f8 _ _ (by omega) (by decide) (by decide), p7]
        · rw [zc 11 (by decide) (by decide), oB _ _ (by decide), fA _ _ (by decide), p11]
        · rw [zc 13 (by decide) (by decide), p13]
        · rw [oZ _ _ (by omega) (by omega), fC _ _ (by omega) (by decide) (by decide), oB _ _ (by omega), fA _ _ (by decide), o9 _ _ (by omega), f8 _ _ (by omega) (by decide) (by decide), o7 _ _ (by omega), (v5 j hj).2.2.2, (src 212 j (by decide) (by decide)).2.2.2]
        · have e : ∀ a, a = 199 ∨ a = 200 → wZ a j = w8 a j := fun a ha => by rw [oZ _ _ (by omega) (by omega), fC _ _ (by omega) (by omega) (by omega), oB _ _ (by omega), fA _ _ (by omega), o9 _ _ (by omega)]
          rw [e 199 (Or.inl rfl), e 200 (Or.inr rfl), (v8 j hj).1, (v8 j hj).2.1, (src 213 _ (by decide) (by decide)).2.2.1, (src 213 _ (by decide) (by decide)).2.2.1]; exact ⟨rfl, rfl⟩
        · rw [oZ _ _ (by omega) (by omega), fC _ _ (by omega) (by decide) (by decide), oB _ _ (by omega), vA j hj, (src 215 j (by decide) (by decide)).2.1]
        · rw [oZ _ _ (by omega) (by omega), oZ _ _ (by omega) (by omega), (vC j hj).2.2.1, (vC j hj).2.2.2, (src 216 _ (by decide) (by decide)).1, (src 216 _ (by decide) (by decide)).1]; exact ⟨rfl, rfl⟩
      have rs : RMs (tRd X).2.2.1 (sd (tRd X).2.2.2.1 (X 1 12 3)) wZ := by
        refine tw_s z1 zi (fun j hj => ⟨?_, ?_, ?_⟩) (fun j p q => ?_) (fun j hj => ?_) (fun j hj => ?_) (fun j hj => ⟨?_, ?_⟩) ?_ ?_
        · rw [c194 j (by omega) (by omega), (v5 j hj).1, a4 _ _ (by decide) (by decide)]
        · rw [c194 _ (by omega) (by omega), (v5 j hj).2.1, (src 211 _ (by decide) (by decide)).2.2.2]
        · rw [c194 _ (by omega) (by omega), (v5 j hj).2.2.1, (src 211 _ (by decide) (by decide)).2.2.2]
        · rw [d194 j p (by omega) (by omega) (by omega) (by omega)]; unfold eN; rw [if_neg (by omega), if_pos ⟨p, q⟩]
        · by_cases y : 100 ≤ j ∧ j < 104
          · omega
          · rw [d194 j (by omega) (by omega) (by omega) (by omega) y]; unfold eN; rw [if_neg (by omega), if_neg (by omega)]
        · rw [oZ _ _ (by omega) (by omega), fC _ _ (by omega) (by decide) (by decide), oB _ _ (by omega), fA _ _ (by decide), o9 _ _ (by omega), (v8 j hj).2.2, (src 213 _ (by decide) (by decide)).2.2.1]
        · rw [oZ _ _ (by omega) (by omega), (vC j hj).1, (src 216 _ (by decide) (by decide)).1]
        · rw [oZ _ _ (by omega) (by omega), (vC j hj).2.1, (src 216 _ (by decide) (by decide)).1]
        · rw [c194 139 (by omega) (by omega), f5 _ _ (by omega) (by decide), r4]
        · rw [d194 141 (by decide) (by decide) (by decide) (by decide) (by decide)]; unfold eN; rw [if_pos rfl, o2 _ _ (by decide)]; exact e141
      refine mo_cells hM rl lit' ⟨_, rfl, hQ wZ (fun a j q => ?_) ?_⟩
      · rw [keep a j (by omega) (by omega) (by omega) (by omega) (by omega) (by omega) (by omega) (by omega) (by omega)]; exact f1 a j (by omega) (by omega)
      · have m0 : ∀ j, m6S X 0 j = 0 := fun j => by unfold m6S; rw [zset_n (by decide), zset_s]
        have m2 : m6S X 2 0 = 0 := by unfold m6S; rw [zset_s, zup_n (by decide), zup_s]
        have m3 : m6S X 2 1 = -1 := by unfold m6S; rw [zset_s, zup_s]
        have zz : ∀ j, j ≠ 4 → j ≠ 5 → j ≠ 7 → j ≠ 8 → j ≠ 11 → j ≠ 13 → j ≠ 16 → j ≠ 20 → wZ 193 j = w2 193 j := fun j q1 q2 q3 q4 q5 q6 q7 q8 => by rw [zc j q7 q8, oB _ _ (by omega), fA _ _ (by decide), o9 _ _ (by omega), f8 _ _ (by omega) (by decide) (by decide), o7 _ _ (by omega), f5 _ _ (by omega) (by decide), o4 _ _ (by decide)]
        unfold MK
        rw [xT_0, xT_1, xT_2, xT_3, xT_6]
        simp only [m0, m2, m3]
        refine ⟨rl, rs, ?_, RQ.emp p16, RQ.emp p20, fun j hj => ⟨pk j hj, fun u => absurd rfl u⟩, ⟨?_, fun j hj => by omega⟩, ?_⟩
        · rw [zz 50 (by decide) (by decide) (by decide) (by decide) (by decide) (by decide) (by decide) (by decide), o2 _ _ (by decide), f1 _ _ (by decide) (by decide)]; exact h3
        · rw [zz 25 (by decide) (by decide) (by decide) (by decide) (by decide) (by decide) (by decide) (by decide), p25]
        · rw [zz 26 (by decide) (by decide) (by decide) (by decide) (by decide) (by decide) (by decide) (by decide), p26]
    · exact absurd z y
theorem I_Town (h : XI X) : XI (xTown X).2 := by
  obtain ⟨li, si, pc, pd, im, ln, tx⟩ := h
  unfold xTown
  split
  · rename_i z
    have hsd := si.1.2.2.2.2.2.2.2.2.1
    have zi := pAll_ok (T := X 6 1) (L := (X 6 2 0).toNat) (v := X 1 12 3) 260 0 tz0 sz0 0 (Nat.zero_le _) (zi_0 hsd) z
    have zi : ZI (tRd X).2.2.1 (tRd X).2.2.2.1 (X 1 12 3) (tRd X).2.2.2.2 := zi
    have m0 : ∀ j, m6S X 0 j = 0 := fun j => by unfold m6S; rw [zset_n (by decide), zset_s]
    have m2 : m6S X 2 0 = 0 := by unfold m6S; rw [zset_s, zup_n (by decide), zup_s]
    show XI (xTwn X)
    unfold XI
    rw [xT_0, xT_1, xT_2, xT_3, xT_6]
    simp only [m0, m2]
    refine ⟨zi.1, ⟨zi.2.1, zi.2.2.1.of (fun i => sd_n (by decide)) (fun i => sd_n (by decide)), ?_⟩, pi_emp, pi_emp, fun i hi => ⟨Or.inl trivial, fun u => absurd rfl u⟩, by decide, fun j hj => by omega⟩
    rw [sd_12]; simp
  · have m0 : ∀ j, m6F X (tRd X).2.1 0 j = X 6 0 j := fun j => by unfold m6F; rw [zset_n (by decide)]
    have m2 : m6F X (tRd X).2.1 2 0 = 0 := by unfold m6F; rw [zset_s, zup_n (by decide), zup_s]
    show XI (zw X 6 (m6F X (tRd X).2.1))
    unfold XI
    rw [zw_s, zw_n (by decide), zw_n (by decide), zw_n (by decide), zw_n (by decide)]
    simp only [m0, m2]
    exact ⟨li, si, pc, pd, fun i hi => ⟨(im i hi).1, fun u => by rw [zw_n (by omega)]; exact (im i hi).2 u⟩, by decide, fun j hj => by omega⟩
end WDE
