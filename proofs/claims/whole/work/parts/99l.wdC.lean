/-! ===== commands keep, goBack, feed, fault as steps of the world ===== -/
def xKeep (X : zX) (i : Int) : Int × zX := if 0 ≤ i ∧ i ≤ 1 then (1, zw (zw X (4 + i.toNat) (X 1)) 6 (zset (X 6) 0 (zup (X 6 0) i.toNat 1))) else (-1000000001, X)
def xGoBack (X : zX) (i : Int) : Int × zX := if 0 ≤ i ∧ i ≤ 1 then (if X 6 0 i.toNat = 0 then (-1000000003, X) else (1, zw X 1 (X (4 + i.toNat)))) else (-1000000001, X)
def xFeed (X : zX) (l : Int) : Int × zX := if 0 ≤ l ∧ l ≤ 255 then (if X 6 2 0 < 260 then (X 6 2 0 + 1, zw X 6 (zset (zset (X 6) 1 (zup (X 6 1) (X 6 2 0).toNat l)) 2 (zup (X 6 2) 0 (X 6 2 0 + 1)))) else (-1000000004, X)) else (-1000000002, X)
def xFault (X : zX) : Int × zX := (X 6 2 1, X)
section WDC
variable {X : zX} {g : xG} {w w0 : xW} {d : Nat} {Q : xQ} {lim : Nat × Nat} {i l : Int}
theorem C_Keep (h : CW X g w) (xi' : XI X) (hQ : CPo (xKeep X i).2 (xKeep X i).1 g w Q) : cal (d + 20) nFf_keep [xr 2, xi i] g w Q := by
  obtain ⟨kl, kn, kl2, kn2, F, T, K, hk⟩ := h
  obtain ⟨li, ⟨si, wi, hm⟩, pc, pd, im, ln, tx⟩ := xi'
  obtain ⟨h1, h2, h3, h4, h5, ⟨h6, h6'⟩, h7, h8⟩ := id hk
  have a := f_hl F
  have b := f_hn F
  refine eFf_keep fun lim Q2 q2 => wFf_keep_0 ?_
  have hQ : CPo (xKeep X i).2 (xKeep X i).1 g w Q2 := fun g2 w2 e1 e2 e3 e4 => q2 _ _ _ e1 (hQ g2 w2 e1 e2 e3 e4)
  unfold xKeep at hQ
  refine ⟨fun z => ?_, fun z => ⟨fun z2 => ?_, fun z2 => ?_⟩⟩
  · rw [if_neg (by omega)] at hQ; exact hQ.same F T K hk
  · rw [if_pos (by omega)] at hQ
    obtain ⟨I, hI⟩ := z_nn z
    subst hI
    rw [Int.toNat_natCast] at hQ
    have eI : g.2 13 (Int.toNat (I : Int)) = 167 + 13 * I := by
      rw [Int.toNat_natCast]
      rcases (by omega : I = 0 ∨ I = 1) with u | u <;> subst u
      · exact f_i0 F
      · exact f_i1 F
    have sI : SG g (167 + 13 * I) := by
      rcases (by omega : I = 0 ∨ I = 1) with u | u <;> subst u
      · exact f_a0 F
      · exact f_a1 F
    have x3 : xA3 g 13 (I : Int) := ⟨_, f_im F, by omega, by omega⟩
    simp only [f_o F, f_p3 F, f_p11 F, eI, x3, s_o sI, true_and]
    refine cl_copy sI (f_sn F) (by omega) h2 li fun w2 f2 s2 => ⟨rfl, ?_⟩
    simp only [f_o F, f_p4 F, true_and]
    refine ⟨(xA1_1 (f_kp F) _).2 (by omega), ?_⟩
    rw [Int.toNat_natCast]
    have hQ : CPo (zw (zw X (4 + I) (X 1)) 6 (zset (X 6) 0 (zup (X 6 0) I 1))) 1 g w Q2 := hQ
    have m0 : ∀ j, (zset (X 6) 0 (zup (X 6 0) I 1)) 0 j = zup (X 6 0) I 1 j := fun j => zset_s
    have m1 : ∀ r j, r ≠ 0 → (zset (X 6) 0 (zup (X 6 0) I 1)) r j = X 6 r j := fun r j q => zset_n q
    generalize zset (X 6) 0 (zup (X 6 0) I 1) = m6 at hQ m0 m1
    refine hQ g _ rfl (fun _ _ _ _ _ => rfl) (fun a j q => by rw [xup_a (by omega)]; exact f2 a j (by omega)) ⟨kl, kn, kl2, kn2, F, T, K, ?_⟩
    have f3 : ∀ a j, ¬ (167 + 13 * I ≤ a ∧ a ≤ 167 + 13 * I + 12) → a ≠ 14 → xup w2 14 I 1 a j = w a j := fun a j p q => by rw [xup_a q]; exact f2 a j (by omega)
    unfold CK
    rw [zw_s, zw_n (by decide), zw_n (by omega), zw_n (by decide), zw_n (by omega), zw_n (by decide), zw_n (by omega), zw_n (by decide), zw_n (by omega)]
    simp only [m0, m1 1 _ (by decide), m1 2 _ (by decide)]
    refine ⟨h1.e fun a j p q => f3 a j (by omega) (by omega), h2.e li fun a j p q => f3 a j (by omega) (by omega), h3.e fun a j p q => f3 a j (by omega) (by omega), h4.e fun a j p q => f3 a j (by omega) (by omega), fun j hj => ⟨?_, fun y => ?_⟩, ⟨(f3 _ _ (by omega) (by omega)).trans h6, fun j hj => (f3 _ _ (by omega) (by omega)).trans (h6' j hj)⟩, (f3 _ _ (by omega) (by omega)).trans h7, by rw [f3 _ _ (by omega) (by omega)]; exact h8⟩
    · by_cases u : j = I
      · subst u; rw [xup_s, zup_s]
      · rw [xup_k u, zup_n u, f2 _ _ (by omega)]; exact (h5 j hj).1
    · by_cases u : j = I
      · subst u
        rw [zw_n (by omega), zw_s]
        exact s2.e li fun a i p q => xup_a (by omega)
      · rw [zup_n u] at y
        rw [zw_n (by omega), zw_n (by omega)]
        exact ((h5 j hj).2 y).e li fun a i p q => f3 a i (by omega) (by omega)
  · rw [if_neg (by omega)] at hQ; exact hQ.same F T K hk
theorem M_keep1 (hM : MG g) {I : Nat} (hI : I ≤ 1) (hk : ∀ w2, (∀ a j, a ≠ 195 → w2 a j = w0 a j) → (∀ j, j < 143 → w2 195 (143 * I + j) = w0 194 j) → (∀ j, ¬ (143 * I ≤ j ∧ j < 143 * I + 143) → w2 195 j = w0 195 j) → aMo_keep d lim Q 15 [xr 193, xi I, xi 143] [] g w2) : ∀ (n k : Nat) (w : xW), k + n = 143 → (∀ a j, a ≠ 195 → w a j = w0 a j) → (∀ j, j < k → w 195 (143 * I + j) = w0 194 j) → (∀ j, ¬ (143 * I ≤ j ∧ j < 143 * I + 143) → w 195 j = w0 195 j) → aMo_keep d lim Q 15 [xr 193, xi I, xi k] [] g w
  | 0, k, w, hn, hf, h1, h2 => by
    have hn : k = 143 := by omega
    subst hn
    exact hk w hf h1 h2
  | n + 1, k, w, hn, hf, h1, h2 => by
    refine wMo_keep_15 ?_
    simp only [m_o hM, m_p0 hM, m_r0 hM, m_p1 hM, m_a1 hM, true_and]
    refine ⟨fun h => by omega, fun _ => ⟨by constructor <;> omega, by constructor <;> omega, by constructor <;> omega, by constructor <;> omega, by constructor <;> omega, ?_⟩⟩
    rw [show ((k : Int) + 1) = ((k + 1 : Nat) : Int) by omega, Int.toNat_natCast, show Int.toNat (143 * (I : Int) + (k : Int)) = 143 * I + k by omega, hf 194 k (by decide)]
    refine M_keep1 hM hI hk n (k + 1) _ (by omega) (fun a j q => by rw [xup_a q]; exact hf a j q) (fun j q => ?_) fun j q => by rw [xup_k (by omega)]; exact h2 j q
    by_cases z : j = k
    · subst z; rw [xup_s]
    · rw [xup_k (by omega)]; exact h1 j (by omega)
theorem M_Keep (hM : MG g) (hk : MK X w) (xi' : XI X) (hQ : MPo (xKeep X i).2 (xKeep X i).1 g w Q) : cal (d + 20) nMo_keep [xr 193, xi i] g w Q := by
  obtain ⟨li, ⟨si, wi, hm⟩, pc, pd, im, ln, tx⟩ := xi'
  obtain ⟨h1, h2, h3, h4, h5, h6, ⟨h7, h7'⟩, h8⟩ := id hk
  refine eMo_keep fun lim Q2 q2 => wMo_keep_0 ?_
  have hQ : MPo (xKeep X i).2 (xKeep X i).1 g w Q2 := fun w2 e1 e2 => q2 _ _ _ rfl (hQ w2 e1 e2)
  unfold xKeep at hQ
  refine mo_in ⟨_, rfl, fun z => ?_, fun z => ?_⟩
  · have z := ifv.2 z
    rw [if_pos z] at hQ
    obtain ⟨I, hI⟩ := z_nn z.1
    subst hI
    rw [Int.toNat_natCast] at hQ
    refine M_keep1 hM (by omega) (fun w2 f2 v2 o2 => ?_) 143 0 w rfl (fun _ _ _ => rfl) (fun j q => by omega) fun _ _ => rfl
    refine wMo_keep_15 ?_
    simp only [m_o hM, m_p2 hM, m_b2 hM, true_and]
    refine ⟨fun _ => ⟨⟨by constructor <;> omega, Or.inr trivial⟩, ?_⟩, fun h => absurd h (by decide)⟩
    rw [Int.toNat_natCast]
    have f3 : ∀ a j, a ≠ 195 → a ≠ 196 → xup w2 196 I 1 a j = w a j := fun a j p q => by rw [xup_a q]; exact f2 a j p
    have hQ : MPo (zw (zw X (4 + I) (X 1)) 6 (zset (X 6) 0 (zup (X 6 0) I 1))) 1 g w Q2 := hQ
    have m0 : ∀ j, (zset (X 6) 0 (zup (X 6 0) I 1)) 0 j = zup (X 6 0) I 1 j := fun j => zset_s
    have m1 : ∀ r j, r ≠ 0 → (zset (X 6) 0 (zup (X 6 0) I 1)) r j = X 6 r j := fun r j q => zset_n q
    generalize zset (X 6) 0 (zup (X 6 0) I 1) = m6 at hQ m0 m1
    refine hQ _ (fun a j q => f3 a j (by omega) (by omega)) ?_
    unfold MK
    rw [zw_s, zw_n (by decide), zw_n (by omega), zw_n (by decide), zw_n (by omega), zw_n (by decide), zw_n (by omega), zw_n (by decide), zw_n (by omega)]
    simp only [m0, m1 1 _ (by decide), m1 2 _ (by decide)]
    refine ⟨h1.e fun a j q => f3 a j (by omega) (by omega), fun r i q => by rw [f3 _ _ (by decide) (by decide)]; exact h2 r i q, (f3 _ _ (by decide) (by decide)).trans h3, h4.e (f3 _ _ (by decide) (by decide)) fun b j p q => f3 b j (by omega) (by omega), h5.e (f3 _ _ (by decide) (by decide)) fun b j p q => f3 b j (by omega) (by omega), fun j hj => ⟨?_, fun y => ?_⟩, ⟨(f3 _ _ (by decide) (by decide)).trans h7, fun j hj => (f3 _ _ (by decide) (by decide)).trans (h7' j hj)⟩, (f3 _ _ (by decide) (by decide)).trans h8⟩
    · by_cases u : j = I
      · subst u; rw [xup_s, zup_s]
      · rw [xup_k u, zup_n u, f2 _ _ (by decide)]; exact (h6 j hj).1
    · by_cases u : j = I
      · subst u
        rw [zw_n (by omega), zw_s]
        intro r q ha
        rw [xup_a (by decide), v2 _ (act_off li ha)]
        exact h2 r q ha
      · rw [zup_n u] at y
        rw [zw_n (by omega), zw_n (by omega)]
        intro r q ha
        have := act_off li ha
        rw [xup_a (by decide), o2 _ (by omega)]
        exact (h6 j hj).2 y r q ha
  · rw [if_neg (ifv.1 z)] at hQ; exact hQ.same hk
theorem I_Keep (h : XI X) : XI (xKeep X i).2 := by
  unfold xKeep
  split
  · rename_i z
    obtain ⟨li, si, pc, pd, im, ln, tx⟩ := h
    show XI (zw (zw X (4 + i.toNat) (X 1)) 6 (zset (X 6) 0 (zup (X 6 0) i.toNat 1)))
    have m0 : ∀ j, (zset (X 6) 0 (zup (X 6 0) i.toNat 1)) 0 j = zup (X 6 0) i.toNat 1 j := fun j => zset_s
    have m1 : ∀ r j, r ≠ 0 → (zset (X 6) 0 (zup (X 6 0) i.toNat 1)) r j = X 6 r j := fun r j q => zset_n q
    generalize zset (X 6) 0 (zup (X 6 0) i.toNat 1) = m6 at m0 m1
    unfold XI
    rw [zw_n (by decide), zw_n (by omega), zw_n (by decide), zw_n (by omega), zw_n (by decide), zw_n (by omega), zw_n (by decide), zw_n (by omega), zw_s]
    simp only [m0, m1 1 _ (by decide), m1 2 _ (by decide)]
    refine ⟨li, si, pc, pd, fun j hj => ?_, ln, tx⟩
    by_cases u : j = i.toNat
    · rw [u, zup_s, zw_n (by omega), zw_s]; exact ⟨Or.inr rfl, fun _ => si⟩
    · rw [zup_n u, zw_n (by omega), zw_n (by omega)]; exact im j hj
  · exact h
theorem C_GoBack (h : CW X g w) (xi' : XI X) (hQ : CPo (xGoBack X i).2 (xGoBack X i).1 g w Q) : cal (d + 20) nFf_goBack [xr 2, xi i] g w Q := by
  obtain ⟨kl, kn, kl2, kn2, F, T, K, hk⟩ := h
  obtain ⟨li, ⟨si, wi, hm⟩, pc, pd, im, ln, tx⟩ := xi'
  obtain ⟨h1, h2, h3, h4, h5, ⟨h6, h6'⟩, h7, h8⟩ := id hk
  have a := f_hl F
  have b := f_hn F
  refine eFf_goBack fun lim Q2 q2 => wFf_goBack_0 ?_
  have hQ : CPo (xGoBack X i).2 (xGoBack X i).1 g w Q2 := fun g2 w2 e1 e2 e3 e4 => q2 _ _ _ e1 (hQ g2 w2 e1 e2 e3 e4)
  unfold xGoBack at hQ
  refine ⟨fun z => ?_, fun z => ⟨fun z2 => ?_, fun z2 => ?_⟩⟩
  · rw [if_neg (by omega)] at hQ; exact hQ.same F T K hk
  · rw [if_pos (by omega)] at hQ
    obtain ⟨I, hI⟩ := z_nn z
    subst hI
    rw [Int.toNat_natCast] at hQ
    have eI : g.2 13 (Int.toNat (I : Int)) = 167 + 13 * I := by
      rw [Int.toNat_natCast]
      rcases (by omega : I = 0 ∨ I = 1) with u | u <;> subst u
      · exact f_i0 F
      · exact f_i1 F
    have sI : SG g (167 + 13 * I) := by
      rcases (by omega : I = 0 ∨ I = 1) with u | u <;> subst u
      · exact f_a0 F
      · exact f_a1 F
    have x3 : xA3 g 13 (I : Int) := ⟨_, f_im F, by omega, by omega⟩
    have e14 : w 14 (Int.toNat (I : Int)) = X 6 0 I := by rw [Int.toNat_natCast]; exact (h5 I (by omega)).1
    simp only [f_o F, f_p3 F, f_p4 F, f_p11 F, eI, x3, e14, s_o (f_sn F), true_and]
    refine ⟨(xAr_1 (f_kp F) _).2 (by omega), fun y => ?_, fun y => ?_⟩
    · rw [if_neg y] at hQ
      exact cl_copy (f_sn F) sI (by omega) ((h5 I (by omega)).2 y) li fun w2 f2 s2 => ⟨rfl, hQ.now F T K hk li f2 s2⟩
    · rw [if_pos y] at hQ; exact hQ.same F T K hk
  · rw [if_neg (by omega)] at hQ; exact hQ.same F T K hk
theorem M_back1 (hM : MG g) {I : Nat} (hI : I ≤ 1) (hk : ∀ w2, (∀ a j, a ≠ 194 → w2 a j = w0 a j) → (∀ j, j < 143 → w2 194 j = w0 195 (143 * I + j)) → Q (some (xi 1)) g w2) : ∀ (n k : Nat) (w : xW), k + n = 143 → (∀ a j, a ≠ 194 → w a j = w0 a j) → (∀ j, j < k → w 194 j = w0 195 (143 * I + j)) → aMo_goBack d lim Q 28 [xr 193, xi I, xi k] [] g w
  | 0, k, w, hn, hf, h1 => by
    have hn : k = 143 := by omega
    subst hn
    exact wMo_goBack_28 ⟨fun _ => hk w hf h1, fun h => by omega⟩
  | n + 1, k, w, hn, hf, h1 => by
    refine wMo_goBack_28 ?_
    simp only [m_o hM, m_p0 hM, m_a0 hM, m_p1 hM, m_r1 hM, true_and]
    refine ⟨fun h => by omega, fun _ => ⟨by constructor <;> omega, by constructor <;> omega, by constructor <;> omega, by constructor <;> omega, by constructor <;> omega, ?_⟩⟩
    rw [show ((k : Int) + 1) = ((k + 1 : Nat) : Int) by omega, Int.toNat_natCast, show Int.toNat (143 * (I : Int) + (k : Int)) = 143 * I + k by omega, hf 195 _ (by decide)]
    refine M_back1 hM hI hk n (k + 1) _ (by omega) (fun a j q => by rw [xup_a q]; exact hf a j q) fun j q => ?_
    by_cases z : j = k
    · subst z; rw [xup_s]
    · rw [xup_k z]; exact h1 j (by omega)
theorem M_GoBack (hM : MG g) (hk : MK X w) (xi' : XI X) (hQ : MPo (xGoBack X i).2 (xGoBack X i).1 g w Q) : cal (d + 20) nMo_goBack [xr 193, xi i] g w Q := by
  obtain ⟨li, ⟨si, wi, hm⟩, pc, pd, im, ln, tx⟩ := xi'
  obtain ⟨h1, h2, h3, h4, h5, h6, ⟨h7, h7'⟩, h8⟩ := id hk
  refine eMo_goBack fun lim Q2 q2 => wMo_goBack_0 ?_
  have hQ : MPo (xGoBack X i).2 (xGoBack X i).1 g w Q2 := fun w2 e1 e2 => q2 _ _ _ rfl (hQ w2 e1 e2)
  unfold xGoBack at hQ
  refine mo_in ⟨_, rfl, fun z => ?_, fun z => ?_⟩
  · have z := ifv.2 z
    rw [if_pos z] at hQ
    obtain ⟨I, hI⟩ := z_nn z.1
    subst hI
    rw [Int.toNat_natCast] at hQ
    have e196 : w 196 (Int.toNat (I : Int)) = X 6 0 I := by rw [Int.toNat_natCast]; exact (h6 I (by omega)).1
    simp only [m_o hM, m_p2 hM, m_b2 hM, e196, true_and]
    refine ⟨by constructor <;> omega, fun y => ?_, fun y => ?_⟩
    · rw [if_neg y] at hQ
      refine M_back1 hM (by omega) (fun w2 f2 v2 => ?_) 143 0 w rfl (fun _ _ _ => rfl) fun j q => by omega
      refine hQ.now hk (fun a j p _ _ => f2 a j p) fun r q ha => ?_
      rw [v2 _ (act_off li ha)]
      exact (h6 I (by omega)).2 y r q ha
    · rw [if_pos y] at hQ; exact hQ.same hk
  · rw [if_neg (ifv.1 z)] at hQ; exact hQ.same hk
theorem I_GoBack (h : XI X) : XI (xGoBack X i).2 := by
  unfold xGoBack
  split
  · rename_i z
    split
    · exact h
    · rename_i y
      exact h.now ((h.2.2.2.2.1 i.toNat (by omega)).2 y)
  · exact h
theorem C_Fault (h : CW X g w) (hQ : CPo (xFault X).2 (xFault X).1 g w Q) : cal (d + 20) nFf_fault [xr 2] g w Q := by
  obtain ⟨kl, kn, kl2, kn2, F, T, K, hk⟩ := h
  refine eFf_fault fun lim Q2 q2 => wFf_fault_0 ?_
  have hQ : CPo (xFault X).2 (xFault X).1 g w Q2 := fun g2 w2 e1 e2 e3 e4 => q2 _ _ _ e1 (hQ g2 w2 e1 e2 e3 e4)
  have e : w 3 5 = X 6 2 1 := hk.2.2.2.2.2.2.1
  simp only [f_o F, f_p0 F, r_o (f_rd F), e, true_and]
  exact hQ.same F T K hk
theorem M_Fault (hM : MG g) (hk : MK X w) (hQ : MPo (xFault X).2 (xFault X).1 g w Q) : cal (d + 20) nMo_fault [xr 193] g w Q := by
  refine eMo_fault fun lim Q2 q2 => wMo_fault_0 ?_
  have hQ : MPo (xFault X).2 (xFault X).1 g w Q2 := fun w2 e1 e2 => q2 _ _ _ rfl (hQ w2 e1 e2)
  have e : w 193 26 = X 6 2 1 := hk.2.2.2.2.2.2.2
  simp only [m_o hM, e, true_and]
  exact hQ.same hk
theorem C_Feed (h : CW X g w) (xi' : XI X) (hQ : CPo (xFeed X l).2 (xFeed X l).1 g w Q) : cal (d + 20) nFf_feed [xr 2, xi l] g w Q := by
  obtain ⟨kl, kn, kl2, kn2, F, T, K, hk⟩ := h
  obtain ⟨li, ⟨si, wi, hm⟩, pc, pd, im, ln, tx⟩ := xi'
  obtain ⟨h1, h2, h3, h4, h5, ⟨h6, h6'⟩, h7, h8⟩ := id hk
  have a := f_hl F
  have b := f_hn F
  have R := f_rd F
  refine eFf_feed fun lim Q2 q2 => wFf_feed_0 ?_
  have hQ : CPo (xFeed X l).2 (xFeed X l).1 g w Q2 := fun g2 w2 e1 e2 e3 e4 => q2 _ _ _ e1 (hQ g2 w2 e1 e2 e3 e4)
  unfold xFeed at hQ
  refine ⟨fun z => ?_, fun z => ⟨fun z2 => ?_, fun z2 => ?_⟩⟩
  · rw [if_neg (by omega)] at hQ; exact hQ.same F T K hk
  · rw [if_pos (by omega)] at hQ
    simp only [f_o F, f_p0 F, R.1, true_and]
    refine eRd_take fun lim2 Q3 q3 => wRd_take_0 ?_
    have xa : ∀ i : Int, xA1 g 4 i ↔ (0 ≤ i ∧ i < 260) := xA1_1 R.2.2
    simp only [R.1, R.2.1, h6, xa, true_and]
    refine ⟨fun y => ⟨by omega, wRd_take_22 ?_⟩, fun y => ⟨Or.inl trivial, q3 _ _ _ rfl ⟨_, rfl, fun _ => ?_, fun u => absurd rfl u⟩⟩⟩
    · rw [if_pos y] at hQ
      have e1 : xup w 4 (X 6 2 0).toNat l 3 1 = X 6 2 0 := by rw [xup_a (by decide)]; exact h6
      simp only [R.1, e1, true_and]
      refine ⟨by constructor <;> omega, Or.inr trivial, q3 _ _ _ rfl ⟨_, rfl, fun u => absurd u (by decide), fun _ => ?_⟩⟩
      simp only [f_o F, f_p0 F, R.1, xup_s, true_and]
      have f3 : ∀ a j, a ≠ 4 → (a = 3 → j ≠ 1) → xup (xup w 4 (X 6 2 0).toNat l) 3 1 (X 6 2 0 + 1) a j = w a j := fun a j p q => by
        by_cases u : a = 3
        · subst u; rw [xup_k (q rfl), xup_a p]
        · rw [xup_a u, xup_a p]
      have hQ : CPo (zw X 6 (zset (zset (X 6) 1 (zup (X 6 1) (X 6 2 0).toNat l)) 2 (zup (X 6 2) 0 (X 6 2 0 + 1)))) (X 6 2 0 + 1) g w Q2 := hQ
      have m0 : ∀ j, (zset (zset (X 6) 1 (zup (X 6 1) (X 6 2 0).toNat l)) 2 (zup (X 6 2) 0 (X 6 2 0 + 1))) 0 j = X 6 0 j := fun j => by rw [zset_n (by decide), zset_n (by decide)]
      have m1 : ∀ j, (zset (zset (X 6) 1 (zup (X 6 1) (X 6 2 0).toNat l)) 2 (zup (X 6 2) 0 (X 6 2 0 + 1))) 1 j = zup (X 6 1) (X 6 2 0).toNat l j := fun j => by rw [zset_n (by decide), zset_s]
      have m2 : (zset (zset (X 6) 1 (zup (X 6 1) (X 6 2 0).toNat l)) 2 (zup (X 6 2) 0 (X 6 2 0 + 1))) 2 0 = X 6 2 0 + 1 := by rw [zset_s, zup_s]
      have m3 : (zset (zset (X 6) 1 (zup (X 6 1) (X 6 2 0).toNat l)) 2 (zup (X 6 2) 0 (X 6 2 0 + 1))) 2 1 = X 6 2 1 := by rw [zset_s, zup_n (by decide)]
      generalize zset (zset (X 6) 1 (zup (X 6 1) (X 6 2 0).toNat l)) 2 (zup (X 6 2) 0 (X 6 2 0 + 1)) = m6 at hQ m0 m1 m2 m3
      refine hQ g _ rfl (fun _ _ _ _ _ => rfl) (fun a j q => f3 a j (by omega) (by omega)) ⟨kl, kn, kl2, kn2, F, T, K, ?_⟩
      unfold CK
      rw [zw_s, zw_n (by decide), zw_n (by decide), zw_n (by decide), zw_n (by decide)]
      simp only [m0, m1, m2, m3]
      refine ⟨h1.e fun a j p q => f3 a j (by omega) (by omega), h2.e li fun a j p q => f3 a j (by omega) (by omega), h3.e fun a j p q => f3 a j (by omega) (by omega), h4.e fun a j p q => f3 a j (by omega) (by omega), fun j hj => ⟨(f3 _ _ (by omega) (by omega)).trans (h5 j hj).1, fun y => ?_⟩, ⟨xup_s, fun j hj => ?_⟩, (f3 _ _ (by omega) (by omega)).trans h7, by rw [f3 _ _ (by omega) (by omega)]; exact h8⟩
      · rw [zw_n (by omega)]
        exact ((h5 j hj).2 y).e li fun a i p q => f3 a i (by omega) (by omega)
      · rw [xup_a (by decide)]
        by_cases u : j = (X 6 2 0).toNat
        · rw [u, xup_s, zup_s]
        · rw [xup_k u, zup_n u]; exact h6' j (by omega)
    · rw [if_neg (by omega)] at hQ; exact hQ.same F T K hk
  · rw [if_neg (by omega)] at hQ; exact hQ.same F T K hk
theorem M_Feed (hM : MG g) (hk : MK X w) (xi' : XI X) (hQ : MPo (xFeed X l).2 (xFeed X l).1 g w Q) : cal (d + 20) nMo_feed [xr 193, xi l] g w Q := by
  obtain ⟨li, ⟨si, wi, hm⟩, pc, pd, im, ln, tx⟩ := xi'
  obtain ⟨h1, h2, h3, h4, h5, h6, ⟨h7, h7'⟩, h8⟩ := id hk
  refine eMo_feed fun lim Q2 q2 => wMo_feed_0 ?_
  have hQ : MPo (xFeed X l).2 (xFeed X l).1 g w Q2 := fun w2 e1 e2 => q2 _ _ _ rfl (hQ w2 e1 e2)
  unfold xFeed at hQ
  refine mo_in ⟨_, rfl, fun z => ?_, fun z => ?_⟩
  · rw [if_pos (ifv.2 z)] at hQ
    simp only [m_o hM, m_p24 hM, m_a24 hM, h7, true_and]
    refine ⟨fun y => ⟨by omega, wMo_feed_38 ?_⟩, fun y => ?_⟩
    · rw [if_pos (by omega)] at hQ
      have e1 : xup w 210 (X 6 2 0).toNat l 193 25 = X 6 2 0 := by rw [xup_a (by decide)]; exact h7
      simp only [m_o hM, e1, xup_s, true_and]
      have f3 : ∀ a j, a ≠ 210 → (a = 193 → j ≠ 25) → xup (xup w 210 (X 6 2 0).toNat l) 193 25 (X 6 2 0 + 1) a j = w a j := fun a j p q => by
        by_cases u : a = 193
        · subst u; rw [xup_k (q rfl), xup_a p]
        · rw [xup_a u, xup_a p]
      have hQ : MPo (zw X 6 (zset (zset (X 6) 1 (zup (X 6 1) (X 6 2 0).toNat l)) 2 (zup (X 6 2) 0 (X 6 2 0 + 1)))) (X 6 2 0 + 1) g w Q2 := hQ
      have m0 : ∀ j, (zset (zset (X 6) 1 (zup (X 6 1) (X 6 2 0).toNat l)) 2 (zup (X 6 2) 0 (X 6 2 0 + 1))) 0 j = X 6 0 j := fun j => by rw [zset_n (by decide), zset_n (by decide)]
      have m1 : ∀ j, (zset (zset (X 6) 1 (zup (X 6 1) (X 6 2 0).toNat l)) 2 (zup (X 6 2) 0 (X 6 2 0 + 1))) 1 j = zup (X 6 1) (X 6 2 0).toNat l j := fun j => by rw [zset_n (by decide), zset_s]
      have m2 : (zset (zset (X 6) 1 (zup (X 6 1) (X 6 2 0).toNat l)) 2 (zup (X 6 2) 0 (X 6 2 0 + 1))) 2 0 = X 6 2 0 + 1 := by rw [zset_s, zup_s]
      have m3 : (zset (zset (X 6) 1 (zup (X 6 1) (X 6 2 0).toNat l)) 2 (zup (X 6 2) 0 (X 6 2 0 + 1))) 2 1 = X 6 2 1 := by rw [zset_s, zup_n (by decide)]
      generalize zset (zset (X 6) 1 (zup (X 6 1) (X 6 2 0).toNat l)) 2 (zup (X 6 2) 0 (X 6 2 0 + 1)) = m6 at hQ m0 m1 m2 m3
      refine ⟨by constructor <;> omega, hQ _ (fun a j q => f3 a j (by omega) (by omega)) ?_⟩
      unfold MK
      rw [zw_s, zw_n (by decide), zw_n (by decide), zw_n (by decide), zw_n (by decide)]
      simp only [m0, m1, m2, m3]
      refine ⟨h1.e fun a j q => f3 a j (by omega) (by omega), fun r i q => by rw [f3 _ _ (by decide) (fun u => absurd u (by decide))]; exact h2 r i q, (f3 _ _ (by decide) (by decide)).trans h3, h4.e (f3 _ _ (by decide) (by decide)) fun b j p q => f3 b j (by omega) (by omega), h5.e (f3 _ _ (by decide) (by decide)) fun b j p q => f3 b j (by omega) (by omega), fun j hj => ⟨(f3 _ _ (by decide) (fun u => absurd u (by decide))).trans (h6 j hj).1, fun y => ?_⟩, ⟨xup_s, fun j hj => ?_⟩, (f3 _ _ (by decide) (by decide)).trans h8⟩
      · rw [zw_n (by omega)]
        intro r q ha
        rw [f3 _ _ (by decide) (fun u => absurd u (by decide))]; exact (h6 j hj).2 y r q ha
      · rw [xup_a (by decide)]
        by_cases u : j = (X 6 2 0).toNat
        · rw [u, xup_s, zup_s]
        · rw [xup_k u, zup_n u]; exact h7' j (by omega)
    · rw [if_neg (by omega)] at hQ; exact hQ.same hk
  · rw [if_neg (ifv.1 z)] at hQ; exact hQ.same hk
theorem I_Feed (h : XI X) : XI (xFeed X l).2 := by
  unfold xFeed
  split
  · rename_i z
    split
    · rename_i y
      obtain ⟨li, si, pc, pd, im, ln, tx⟩ := h
      show XI (zw X 6 (zset (zset (X 6) 1 (zup (X 6 1) (X 6 2 0).toNat l)) 2 (zup (X 6 2) 0 (X 6 2 0 + 1))))
      have m0 : ∀ j, (zset (zset (X 6) 1 (zup (X 6 1) (X 6 2 0).toNat l)) 2 (zup (X 6 2) 0 (X 6 2 0 + 1))) 0 j = X 6 0 j := fun j => by rw [zset_n (by decide), zset_n (by decide)]
      have m1 : ∀ j, (zset (zset (X 6) 1 (zup (X 6 1) (X 6 2 0).toNat l)) 2 (zup (X 6 2) 0 (X 6 2 0 + 1))) 1 j = zup (X 6 1) (X 6 2 0).toNat l j := fun j => by rw [zset_n (by decide), zset_s]
      have m2 : (zset (zset (X 6) 1 (zup (X 6 1) (X 6 2 0).toNat l)) 2 (zup (X 6 2) 0 (X 6 2 0 + 1))) 2 0 = X 6 2 0 + 1 := by rw [zset_s, zup_s]
      have m3 : (zset (zset (X 6) 1 (zup (X 6 1) (X 6 2 0).toNat l)) 2 (zup (X 6 2) 0 (X 6 2 0 + 1))) 2 1 = X 6 2 1 := by rw [zset_s, zup_n (by decide)]
      generalize zset (zset (X 6) 1 (zup (X 6 1) (X 6 2 0).toNat l)) 2 (zup (X 6 2) 0 (X 6 2 0 + 1)) = m6 at m0 m1 m2 m3
      unfold XI
      rw [zw_s, zw_n (by decide), zw_n (by decide), zw_n (by decide), zw_n (by decide)]
      simp only [m0, m1, m2]
      refine ⟨li, si, pc, pd, fun j hj => ⟨(im j hj).1, fun u => by rw [zw_n (by omega)]; exact (im j hj).2 u⟩, by omega, fun j hj => ?_⟩
      by_cases u : j = (X 6 2 0).toNat
      · rw [u, zup_s]; exact z
      · rw [zup_n u]; exact tx j (by omega)
    · exact h
  · exact h
end WDC
