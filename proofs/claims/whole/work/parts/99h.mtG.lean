/-! ===== the reference reads a text ===== -/
def mRd (r : zPR) (w2 : xW) : Prop := (r.1 = 0 ∧ ZM r.2.2.1 r.2.2.2.1 r.2.2.2.2 w2) ∨ (r.1 ≠ 0 ∧ w2 193 31 = r.1 ∧ w2 193 27 = (r.2.1 : Int))
section MTG
variable {g : xG} {w w0 : xW} {T : zT} {L : Nat} {t s : zS} {d : Nat} {Q : xQ} {lim : Nat × Nat} {v wl : Int} {i : Nat}
theorem tkV_k {a : Nat} {k : Int} (ha : a < L) (hk : 58 ≤ k) : tkV T L a = k ↔ T a = k := by
  unfold tkV
  rw [if_pos ha]
  by_cases q2 : dgt T a
  · rw [if_pos q2]; exact ⟨fun z => by omega, fun z => by omega⟩
  · rw [if_neg q2]
    by_cases q3 : T a < 2
    · rw [if_pos q3]; exact ⟨fun z => by omega, fun z => by omega⟩
    · rw [if_neg q3]
theorem mo_clause (h : MC g T L t s v wl w i) (ha : sk T L i < L) (h0 : t 0 0 ≠ 0) (hF : mFin T L (pCls T L (sk T L i) t s wl) w g Q) : cal (d + 8) nMo_readsClause [xr 193] g w Q := by
  obtain ⟨hM, hT, hx, hz, zi, hiL, hl⟩ := id h
  refine eMo_readsClause fun lim Q2 h2 => wMo_readsClause_0 ?_
  have hF : mFin T L (pCls T L (sk T L i) t s wl) w g Q2 := fun w2 a b => h2 _ _ _ rfl (hF w2 a b)
  have e29 : w 193 29 = tkV T L (sk T L i) := hl.2.2.1
  have K := fun k hk => tkV_k (T := T) (L := L) (a := sk T L i) (k := k) ha hk
  unfold pCls at hF
  rw [if_neg h0] at hF
  have bad : ∀ k : Int, k ≠ 0 → mFin T L (flt1 k (sk T L i)) w g Q2 → aMo_readsClause (d + 7) lim Q2 96 [none] [xi k, xr 193] g w := fun k hk hb => by
    refine wMo_readsClause_96 ?_
    simp only [m_o hM, true_and]
    refine mo_faults hM fun w4 f4 k4 o4 => ⟨_, rfl, Or.inl rfl, hb.fl hk f4.mp k4 ?_⟩
    rw [o4 27 (by decide), hl.1]
  have other : T (sk T L i) ≠ 116 → T (sk T L i) ≠ 119 → T (sk T L i) ≠ 111 → T (sk T L i) ≠ 114 → T (sk T L i) ≠ 115 → T (sk T L i) ≠ 112 → mFin T L (flt1 1 (sk T L i)) w g Q2 := fun q1 q2 q3 q4 q5 q6 => by
    rw [if_neg q1, if_neg q2, if_neg q3, if_neg q4, if_neg q5, if_neg q6] at hF; exact hF
  have nd : ∀ k : Int, 58 ≤ k → T (sk T L i) = k → ¬ dgt T (sk T L i) := fun k hk e u => by
    have := u.2; omega
  simp only [m_o hM, e29, true_and, and_true]
  have oth : ∀ k : Int, tkV T L (sk T L i) = k → k ≠ 116 → k ≠ 119 → k ≠ 111 → k ≠ 114 → k ≠ 115 → k ≠ 112 → mFin T L (flt1 1 (sk T L i)) w g Q2 := fun k hk a b c d e f => other (fun z => a (hk ▸ (K 116 (by decide)).2 z)) (fun z => b (hk ▸ (K 119 (by decide)).2 z)) (fun z => c (hk ▸ (K 111 (by decide)).2 z)) (fun z => d (hk ▸ (K 114 (by decide)).2 z)) (fun z => e (hk ▸ (K 115 (by decide)).2 z)) (fun z => f (hk ▸ (K 112 (by decide)).2 z))
  refine ⟨fun q => ⟨fun _ => bad 1 (by decide) (oth _ rfl (by omega) (by omega) (by omega) (by omega) (by omega) (by omega)), fun z => by omega⟩, fun q => ?_, fun q => ?_, fun q => ⟨fun _ => bad 1 (by decide) (oth 113 q (by decide) (by decide) (by decide) (by decide) (by decide) (by decide)), fun z => by omega⟩, fun q => ?_, fun q => ?_, fun q => ⟨fun z => absurd q z, fun _ => bad 3 (by decide) ?_⟩, fun q => ⟨fun _ => bad 1 (by decide) (oth 117 q (by decide) (by decide) (by decide) (by decide) (by decide) (by decide)), fun z => by omega⟩, fun q => ⟨fun _ => bad 1 (by decide) (oth 118 q (by decide) (by decide) (by decide) (by decide) (by decide) (by decide)), fun z => by omega⟩, fun q => ?_⟩
  · have q := (K 111 (by decide)).1 q
    rw [if_neg (by omega), if_neg (by omega), if_pos q] at hF
    exact mo_rStove h ha (nd 111 (by decide) q) h0 fun w2 f2 r2 => ⟨_, rfl, by split <;> omega, hF w2 f2 r2⟩
  · have q := (K 112 (by decide)).1 q
    rw [if_neg (by omega), if_neg (by omega), if_neg (by omega), if_neg (by omega), if_neg (by omega), if_pos q] at hF
    exact mo_rPers h ha (nd 112 (by decide) q) h0 fun w2 f2 r2 => ⟨_, rfl, by split <;> omega, hF w2 f2 r2⟩
  · have q := (K 114 (by decide)).1 q
    rw [if_neg (by omega), if_neg (by omega), if_neg (by omega), if_pos q] at hF
    exact mo_rRoof h ha (nd 114 (by decide) q) h0 fun w2 f2 r2 => ⟨_, rfl, by split <;> omega, hF w2 f2 r2⟩
  · have q := (K 115 (by decide)).1 q
    rw [if_neg (by omega), if_neg (by omega), if_neg (by omega), if_neg (by omega), if_pos q] at hF
    exact mo_rSun h ha (nd 115 (by decide) q) fun w2 f2 r2 => ⟨_, rfl, by split <;> omega, hF w2 f2 r2⟩
  · have q := (K 116 (by decide)).1 q
    rw [if_pos q] at hF; exact hF
  · have q := (K 119 (by decide)).1 q
    rw [if_neg (by omega), if_pos q] at hF
    exact mo_rWall h ha (nd 119 (by decide) q) h0 fun w2 f2 r2 => ⟨_, rfl, by split <;> omega, hF w2 f2 r2⟩
theorem tkV_0 {a : Nat} (hT : TxI T L) : tkV T L a = 0 ↔ ¬ a < L := by
  unfold tkV
  by_cases q : a < L
  · rw [if_pos q]
    by_cases q2 : dgt T a
    · rw [if_pos q2]; exact ⟨fun z => absurd z (by decide), fun z => absurd q z⟩
    · rw [if_neg q2]
      by_cases q3 : T a < 2
      · rw [if_pos q3]; exact ⟨fun z => absurd z (by decide), fun z => absurd q z⟩
      · rw [if_neg q3]; exact ⟨fun z => by omega, fun z => absurd q z⟩
  · rw [if_neg q]; exact ⟨fun _ => q, fun _ => rfl⟩
theorem mo_all104 : ∀ (n i : Nat) (t s : zS) (wl : Int) (w : xW), L ≤ i + n → MC g T L t s v wl w i → t 0 0 ≠ 0 → (∀ w2, MP w w2 → mRd (pAll T L n i t s wl) w2 → Q (some (xi (if (pAll T L n i t s wl).1 = 0 then 1 else 0))) g w2) → aMo_readsAll (d + 8) lim Q 104 [xr 193, xi 1] [] g w
  | 0, i, t, s, wl, w, hn, hC, h0, hQ => by
    obtain ⟨hM, hT, hx, hz, zi, hiL, hl⟩ := id hC
    have e29 : w 193 29 = tkV T L (sk T L i) := hl.2.2.1
    have b := sk_b (T := T) hiL
    have e0 : tkV T L (sk T L i) = 0 := (tkV_0 hT).2 (by omega)
    refine wMo_readsAll_104 ?_
    simp only [m_o hM, e29, e0, true_and]
    exact ⟨fun u => absurd u (by decide), fun _ => ⟨fun _ => ⟨Or.inr trivial, hQ w MP.refl (Or.inl ⟨rfl, hz⟩)⟩, fun u => absurd trivial u⟩⟩
  | n + 1, i, t, s, wl, w, hn, hC, h0, hQ => by
    obtain ⟨hM, hT, hx, hz, zi, hiL, hl⟩ := id hC
    have e29 : w 193 29 = tkV T L (sk T L i) := hl.2.2.1
    have b := sk_b (T := T) hiL
    unfold pAll at hQ
    refine wMo_readsAll_104 ?_
    simp only [m_o hM, e29, true_and]
    refine ⟨fun u => absurd u (by decide), fun _ => ⟨fun u => ⟨Or.inr trivial, ?_⟩, fun u => ?_⟩⟩
    · have u := (tkV_0 hT).1 u
      rw [if_neg u] at hQ
      exact hQ w MP.refl (Or.inl ⟨rfl, hz⟩)
    · have u : sk T L i < L := Classical.byContradiction fun z => u ((tkV_0 hT).2 z)
      rw [if_pos u] at hQ
      refine mo_clause hC u h0 fun w1 f1 r1 => ⟨_, rfl, ?_⟩
      by_cases z : (pCls T L (sk T L i) t s wl).1 = 0
      · rw [if_pos z] at hQ ⊢
        obtain ⟨o1, o2, o3, o4⟩ := pCls_ok zi u z
        rcases r1 with ⟨-, z1, k1⟩ | ⟨y, -⟩
        · exact mo_all104 n _ _ _ _ w1 (by omega) ⟨hM, hT, hx.mp f1, z1, o3, o2, k1⟩ o4 fun w2 f2 r2 => hQ w2 (f1.trans f2) r2
        · exact absurd z y
      · rw [if_neg z] at hQ ⊢
        rcases r1 with ⟨y, -⟩ | ⟨-, k1, a1⟩
        · exact absurd y z
        · refine wMo_readsAll_104 ?_
          simp only [m_o hM, true_and]
          have := hQ w1 f1 (Or.inr ⟨z, k1, a1⟩)
          rw [if_neg z] at this
          exact ⟨fun _ => ⟨Or.inl trivial, this⟩, fun y => absurd trivial y⟩
/-- the reference empties what it reads into -/
theorem mo_all42 (hM : MG g) (hk : ∀ w2, (∀ a j, a ≠ 211 → a ≠ 212 → a ≠ 214 → w2 a j = w0 a j) → (∀ j, j < 20 → w2 211 j = 0 ∧ w2 211 (20 + j) = 0 ∧ w2 212 j = 0 ∧ w2 214 j = 0) → aMo_readsAll d lim Q 42 [xr 193, xi 20] [] g w2) : ∀ (n q : Nat) (w : xW), q + n = 20 → (∀ a j, a ≠ 211 → a ≠ 212 → a ≠ 214 → w a j = w0 a j) → (∀ j, j < q → w 211 j = 0 ∧ w 211 (20 + j) = 0 ∧ w 212 j = 0 ∧ w 214 j = 0) → aMo_readsAll d lim Q 42 [xr 193, xi q] [] g w
  | 0, q, w, hq, hf, hj => by
    have hq : q = 20 := by omega
    subst hq
    exact hk w hf hj
  | n + 1, q, w, hq, hf, hj => by
    refine wMo_readsAll_42 ?_
    simp only [m_o hM, m_p36 hM, m_a36 hM, true_and]
    refine ⟨fun h => by omega, fun _ => ⟨by constructor <;> omega, wMo_readsAll_55 ?_⟩⟩
    simp only [m_o hM, m_p36 hM, m_a36 hM, true_and]
    refine ⟨by constructor <;> omega, by constructor <;> omega, wMo_readsAll_65 ?_⟩
    simp only [m_o hM, m_p38 hM, m_b38 hM, true_and]
    refine ⟨⟨by constructor <;> omega, Or.inl trivial⟩, wMo_readsAll_72 ?_⟩
    simp only [m_o hM, m_p42 hM, m_b42 hM, true_and]
    refine ⟨⟨by constructor <;> omega, Or.inl trivial⟩, by constructor <;> omega, ?_⟩
    rw [show ((q : Int) + 1) = ((q + 1 : Nat) : Int) by omega, Int.toNat_natCast, show Int.toNat (20 + (q : Int)) = 20 + q by omega]
    refine mo_all42 hM hk n (q + 1) _ (by omega) (fun a j p1 p2 p3 => ?_) fun j h => ?_
    · rw [xup_a p3, xup_a p2, xup_a p1, xup_a p1]; exact hf a j p1 p2 p3
    · refine ⟨?_, ?_, ?_, ?_⟩
      · rw [xup_a (by decide), xup_a (by decide), xup_k (by omega)]
        by_cases z : j = q
        · subst z; rw [xup_s]
        · rw [xup_k z]; exact (hj j (by omega)).1
      · rw [xup_a (by decide), xup_a (by decide)]
        by_cases z : j = q
        · subst z; rw [xup_s]
        · rw [xup_k (by omega), xup_k (by omega)]; exact (hj j (by omega)).2.1
      · rw [xup_a (by decide)]
        by_cases z : j = q
        · subst z; rw [xup_s]
        · rw [xup_k z, xup_a (by decide), xup_a (by decide)]; exact (hj j (by omega)).2.2.1
      · by_cases z : j = q
        · subst z; rw [xup_s]
        · rw [xup_k z, xup_a (by decide), xup_a (by decide), xup_a (by decide)]; exact (hj j (by omega)).2.2.2
theorem mo_readsAll (hM : MG g) (hT : TxI T L) (hx : TxM T L w) (hQ : ∀ w2, MP w w2 → mRd (pAll T L 260 0 tz0 sz0 0) w2 → Q (some (xi (if (pAll T L 260 0 tz0 sz0 0).1 = 0 then 1 else 0))) g w2) : cal (d + 9) nMo_readsAll [xr 193] g w Q := by
  refine eMo_readsAll fun lim Q2 h2 => wMo_readsAll_0 ?_
  have hQ := fun w2 a b => h2 _ g w2 rfl (hQ w2 a b)
  simp only [m_o hM, true_and]
  refine wMo_readsAll_5 ?_
  simp only [m_o hM, true_and]
  refine wMo_readsAll_10 ?_
  simp only [m_o hM, true_and]
  refine wMo_readsAll_15 ?_
  simp only [m_o hM, true_and]
  refine wMo_readsAll_20 ?_
  simp only [m_o hM, true_and]
  refine wMo_readsAll_25 ?_
  simp only [m_o hM, true_and]
  refine wMo_readsAll_30 ?_
  simp only [m_o hM, true_and]
  refine wMo_readsAll_35 ?_
  simp only [m_o hM, true_and]
  have f1 : ∀ a j, ¬ (a = 193 ∧ (j = 33 ∨ j = 34 ∨ j = 37 ∨ j = 39 ∨ j = 40 ∨ j = 43 ∨ j = 45 ∨ j = 31)) → xup (xup (xup (xup (xup (xup (xup (xup w 193 33 0) 193 34 0) 193 37 0) 193 39 0) 193 40 0) 193 43 0) 193 45 0) 193 31 0 a j = w a j := fun a j q => by
    rw [xup_o (fun z => q ⟨z.1, by omega⟩), xup_o (fun z => q ⟨z.1, by omega⟩), xup_o (fun z => q ⟨z.1, by omega⟩), xup_o (fun z => q ⟨z.1, by omega⟩), xup_o (fun z => q ⟨z.1, by omega⟩), xup_o (fun z => q ⟨z.1, by omega⟩), xup_o (fun z => q ⟨z.1, by omega⟩), xup_o (fun z => q ⟨z.1, by omega⟩)]
  have z1 : ∀ j, (j = 33 ∨ j = 34 ∨ j = 37 ∨ j = 39 ∨ j = 40 ∨ j = 43 ∨ j = 45) → xup (xup (xup (xup (xup (xup (xup (xup w 193 33 0) 193 34 0) 193 37 0) 193 39 0) 193 40 0) 193 43 0) 193 45 0) 193 31 0 193 j = 0 := fun j q => by
    rcases q with u | u | u | u | u | u | u <;> subst u
    · rw [xup_k (by decide), xup_k (by decide), xup_k (by decide), xup_k (by decide), xup_k (by decide), xup_k (by decide), xup_k (by decide), xup_s]
    · rw [xup_k (by decide), xup_k (by decide), xup_k (by decide), xup_k (by decide), xup_k (by decide), xup_k (by decide), xup_s]
    · rw [xup_k (by decide), xup_k (by decide), xup_k (by decide), xup_k (by decide), xup_k (by decide), xup_s]
    · rw [xup_k (by decide), xup_k (by decide), xup_k (by decide), xup_k (by decide), xup_s]
    · rw [xup_k (by decide), xup_k (by decide), xup_k (by decide), xup_s]
    · rw [xup_k (by decide), xup_k (by decide), xup_s]
    · rw [xup_k (by decide), xup_s]
  generalize xup (xup (xup (xup (xup (xup (xup (xup w 193 33 0) 193 34 0) 193 37 0) 193 39 0) 193 40 0) 193 43 0) 193 45 0) 193 31 0 = w1 at f1 z1
  refine mo_all42 (w0 := w1) hM (fun w2 f2 v2 => ?_) 20 0 w1 rfl (fun _ _ _ _ _ => rfl) fun j h => by omega
  have mp2 : MP w w2 := fun a j p q => by rw [f2 a j (by omega) (by omega) (by omega), f1 a j (by omega)]
  have x2 := hx.mp mp2
  have zz : ∀ j, (j = 33 ∨ j = 34 ∨ j = 37 ∨ j = 39 ∨ j = 40 ∨ j = 43 ∨ j = 45) → w2 193 j = 0 := fun j q => by rw [f2 _ _ (by decide) (by decide) (by decide)]; exact z1 j q
  have nS0 : nS tz0 = 0 := rfl
  have nP0 : nP tz0 = 0 := rfl
  have zm2 : ZM tz0 sz0 0 w2 := by
    refine ⟨zz 33 (by decide), zz 34 (by decide), fun q => absurd rfl q, zz 37 (by decide), zz 39 (by decide), zz 40 (by decide), zz 43 (by decide), zz 45 (by decide), fun i q => ?_, fun k q => by omega, fun h q => ?_, fun p q => by omega⟩
    · rw [sz0_n (by decide), sz0_n (by decide)]; exact v2 i q
    · have q : (h : Int) < 0 := q
      omega
  refine wMo_readsAll_42 ?_
  simp only [m_o hM, true_and]
  refine ⟨fun _ => ?_, fun h => absurd h (by decide)⟩
  refine mo_look (i := 0) hM hT x2 (Nat.zero_le L) fun w3 f3 k3 => ⟨rfl, ?_⟩
  have zm3 := zm2.of f3.nt
  have x3 := x2.mp f3.nt.mp
  have mp3 := mp2.trans f3.nt.mp
  have e29 : w3 193 29 = tkV T L (sk T L 0) := k3.2.2.1
  have hC : MC g T L tz0 sz0 0 0 w3 0 := ⟨hM, hT, x3, zm3, zi_0 (by decide), Nat.zero_le L, k3⟩
  rw [show (260 : Nat) = 259 + 1 from rfl, pAll] at hQ
  simp only [m_o hM, e29, true_and]
  refine ⟨fun u => ?_, fun u => ⟨Or.inr trivial, ?_⟩⟩
  · have u : sk T L 0 < L := Classical.byContradiction fun z => u ((tkV_0 hT).2 z)
    rw [if_pos u] at hQ
    have ec : pCls T L (sk T L 0) tz0 sz0 0 = if T (sk T L 0) = 116 then pTown T L (sk T L 0 + 1) tz0 sz0 0 else flt1 1 (sk T L 0) := by unfold pCls; exact if_pos rfl
    refine mo_rTown (d := d + 2) hC u fun w4 f4 r4 => ?_
    rw [← ec] at r4 ⊢
    refine ⟨_, rfl, ?_⟩
    by_cases z : (pCls T L (sk T L 0) tz0 sz0 0).1 = 0
    · rw [if_pos z] at hQ ⊢
      obtain ⟨o1, o2, o3, o4⟩ := pCls_ok (zi_0 (v := 0) (by decide)) u z
      rcases r4 with ⟨-, z1, k1⟩ | ⟨y, -⟩
      · have hL := hT.1
        exact mo_all104 (v := 0) 259 _ _ _ _ w4 (by omega) ⟨hM, hT, x3.mp f4, z1, o3, o2, k1⟩ o4 fun w2 f2 r2 => hQ w2 ((mp3.trans f4).trans f2) r2
      · exact absurd z y
    · rw [if_neg z] at hQ ⊢
      rcases r4 with ⟨y, -⟩ | ⟨-, k1, a1⟩
      · exact absurd y z
      · refine wMo_readsAll_104 ?_
        simp only [m_o hM, true_and]
        have := hQ w4 (mp3.trans f4) (Or.inr ⟨z, k1, a1⟩)
        rw [if_neg z] at this
        exact ⟨fun _ => ⟨Or.inl trivial, this⟩, fun y => absurd trivial y⟩
  · have u := (tkV_0 hT).1 u
    rw [if_neg u] at hQ
    exact hQ w3 mp3 (Or.inl ⟨rfl, zm3⟩)
end MTG
