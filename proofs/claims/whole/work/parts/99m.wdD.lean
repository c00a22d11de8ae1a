/-! ===== command town as a step of the world: the class ===== -/
def tRd (X : zX) : zPR := pAll (X 6 1) (X 6 2 0).toNat 260 0 tz0 sz0 0
def m6S (X : zX) : zS := zset (zset (X 6) 0 (fun _ => 0)) 2 (zup (zup (X 6 2) 0 0) 1 (-1))
def m6F (X : zX) (p : Int) : zS := zset (X 6) 2 (zup (zup (X 6 2) 0 0) 1 p)
def xTwn (X : zX) : zX := zw (zw (zw (zw (zw X 0 (tRd X).2.2.1) 1 (sd (tRd X).2.2.2.1 (X 1 12 3))) 2 (emp (X 2))) 3 (emp (X 3))) 6 (m6S X)
def xTown (X : zX) : Int × zX := if (tRd X).1 = 0 then ((nC (tRd X).2.2.1 : Int), xTwn X) else (-10 - (tRd X).1, zw X 6 (m6F X (tRd X).2.1))
theorem xT_0 {X : zX} : xTwn X 0 = (tRd X).2.2.1 := by unfold xTwn; rw [zw_n (by decide), zw_n (by decide), zw_n (by decide), zw_n (by decide), zw_s]
theorem xT_1 {X : zX} : xTwn X 1 = sd (tRd X).2.2.2.1 (X 1 12 3) := by unfold xTwn; rw [zw_n (by decide), zw_n (by decide), zw_n (by decide), zw_s]
theorem xT_2 {X : zX} : xTwn X 2 = emp (X 2) := by unfold xTwn; rw [zw_n (by decide), zw_n (by decide), zw_s]
theorem xT_3 {X : zX} : xTwn X 3 = emp (X 3) := by unfold xTwn; rw [zw_n (by decide), zw_s]
theorem xT_6 {X : zX} : xTwn X 6 = m6S X := by unfold xTwn; rw [zw_s]
section WDD
variable {X : zX} {g g2 : xG} {w w0 : xW} {d : Nat} {Q : xQ} {lim : Nat × Nat} {T : zT} {L : Nat} {t s : zS} {wl : Int}
/-- kinds of faults -/
def kB (r : zPR) : Prop := 0 ≤ r.1 ∧ r.1 ≤ 4
theorem kb_fl {k : Int} {i : Nat} (h : 0 ≤ k ∧ k ≤ 4) : kB (flt1 k i) := h
theorem kb_num {lo hi : Int} {i : Nat} {K : Int → Nat → zPR} (h : ∀ x j, kB (K x j)) : kB (pNum T L lo hi i K) := by
  unfold pNum
  split
  · rename_i z
    refine kb_fl ?_
    have : (rnm T L lo hi i).1 < 0 → -2 ≤ (rnm T L lo hi i).1 ∨ True := fun _ => Or.inr trivial
    unfold rnm at z ⊢
    split at z
    · rename_i q
      rw [if_pos q]; exact ⟨by show (0 : Int) ≤ -(-1); decide, by show -(-1 : Int) ≤ 4; decide⟩
    · rename_i q
      rw [if_neg q]
      split at z
      · rename_i q2
        rw [if_pos q2]; exact ⟨by show (0 : Int) ≤ -(-2); decide, by show -(-2 : Int) ≤ 4; decide⟩
      · rename_i q2
        rw [if_neg q2]
        have z : vlU T (sk T L i) (fg T L (sk T L i)) < 0 := z
        exact absurd z (by
          have hd : ∀ n, n ≤ fg T L (sk T L i) → 0 ≤ vlU T (sk T L i) n := by
            intro n
            induction n with
            | zero => intro _; exact Int.le_refl 0
            | succ n ih =>
              intro hn
              have h1 := ih (by omega)
              by_cases hL : sk T L i ≤ L
              · have h2 := fg_d (T := T) (L := L) (i := sk T L i) hL (j := n) (by omega)
                unfold vlU; omega
              · have : fg T L (sk T L i) = 0 := fg_0 (by omega)
                omega
          have := hd _ (Nat.le_refl _)
          omega)
  · exact h _ _
theorem kb_cell {i : Nat} {K : Nat → Nat → Nat → zPR} (h : ∀ c j a, kB (K c j a)) : kB (pCell T L t i K) := kb_num fun _ _ => kb_num fun _ _ => h _ _ _
theorem kb_end {i : Nat} {t2 s2 : zS} {wl2 : Int} : kB (pEnd T L i t2 s2 wl2) := by
  unfold pEnd
  split
  · exact ⟨by show (0 : Int) ≤ 0; decide, by show (0 : Int) ≤ 4; decide⟩
  · exact kb_fl (by decide)
theorem kb_sun : ∀ (n h j : Nat) (t : zS), kB (pSun T L s wl n h j t)
  | 0, _, _, _ => kb_fl (by decide)
  | n + 1, h, j, t => by
    unfold pSun
    refine kb_num fun x j => ?_
    split
    · exact kb_sun n _ _ _
    · exact kb_end
theorem kb_cls {i : Nat} : kB (pCls T L i t s wl) := by
  unfold pCls
  split
  · split
    · exact kb_num fun _ _ => kb_num fun _ _ => kb_num fun _ _ => kb_end
    · exact kb_fl (by decide)
  · split
    · exact kb_fl (by decide)
    · split
      · split
        · refine kb_cell fun c j a => kb_num fun x j => ?_
          split
          · exact kb_fl (by decide)
          · split
            · exact kb_end
            · exact kb_fl (by decide)
        · exact kb_fl (by decide)
      · split
        · split
          · refine kb_cell fun c j a => ?_
            split
            · exact kb_fl (by decide)
            · exact kb_num fun _ _ => kb_num fun _ _ => kb_end
          · exact kb_fl (by decide)
        · split
          · split
            · refine kb_cell fun c j a => ?_
              split
              · exact kb_end
              · exact kb_fl (by decide)
            · exact kb_fl (by decide)
          · split
            · split
              · exact kb_sun _ _ _ _
              · exact kb_fl (by decide)
            · split
              · split
                · exact kb_cell fun _ _ _ => kb_num fun _ _ => kb_num fun _ _ => kb_num fun _ _ => kb_end
                · exact kb_fl (by decide)
              · exact kb_fl (by decide)
theorem kb_all : ∀ (n i : Nat) (t s : zS) (wl : Int), kB (pAll T L n i t s wl)
  | 0, _, _, _, _ => ⟨by show (0 : Int) ≤ 0; decide, by show (0 : Int) ≤ 4; decide⟩
  | n + 1, i, t, s, wl => by
    unfold pAll
    split
    · split
      · exact kb_all n _ _ _ _
      · exact kb_cls
    · exact ⟨by show (0 : Int) ≤ 0; decide, by show (0 : Int) ≤ 4; decide⟩
/-- shapes where the fields of an object are the same -/
theorem SG.gg {k : Nat} (e1 : g2.1 = g.1) (e2 : ∀ j, g2.2 k j = g.2 k j) (h : SG g k) : SG g2 k := by
  unfold SG at h ⊢
  simp only [e2, xIs_g e1]; exact h
theorem TG.gg {k : Nat} (e1 : g2.1 = g.1) (e2 : ∀ j, g2.2 k j = g.2 k j) (h : TG g k) : TG g2 k := by
  unfold TG at h ⊢
  simp only [e2, xIs_g e1]; exact h
theorem PG12.gg {k : Nat} (e1 : g2.1 = g.1) (e2 : ∀ j, g2.2 k j = g.2 k j) (h : PG12 g k) : PG12 g2 k := by
  unfold PG12 at h ⊢
  simp only [e2, xIs_g e1]; exact h
theorem PG8.gg {k : Nat} (e1 : g2.1 = g.1) (e2 : ∀ j, g2.2 k j = g.2 k j) (h : PG8 g k) : PG8 g2 k := by
  unfold PG8 at h ⊢
  simp only [e2, xIs_g e1]; exact h
theorem RG.gg (e1 : g2.1 = g.1) (e2 : ∀ j, g2.2 3 j = g.2 3 j) (h : RG g) : RG g2 := by
  unfold RG at h ⊢
  simp only [e2, xIs_g e1]; exact h
theorem MkG.gg (e1 : g2.1 = g.1) (e2 : ∀ j, g2.2 123 j = g.2 123 j) (h : MkG g) : MkG g2 := by
  unfold MkG at h ⊢
  simp only [e2, xIs_g e1]; exact h
theorem MG.gg (e1 : g2.1 = g.1) (e2 : ∀ j, g2.2 193 j = g.2 193 j) (h : MG g) : MG g2 := by
  unfold MG at h ⊢
  simp only [e2, xIs_g e1]; exact h
theorem TuG.gg (e1 : g2.1 = g.1) (e2 : ∀ a j, 40 < a → g2.2 a j = g.2 a j) (h : TuG g) : TuG g2 := by
  obtain ⟨h1, h2, h3, h4, h5, h6, h7, h8⟩ := h
  exact ⟨(xIs_g e1).2 h1, (e2 _ _ (by decide)).trans h2, (e2 _ _ (by decide)).trans h3, (e2 _ _ (by decide)).trans h4, (xIs_g e1).2 h5, (xIs_g e1).2 h6, (xIs_g e1).2 h7, fun i hi => ⟨(e2 _ _ (by decide)).trans (h8 i hi).1, (h8 i hi).2.gg e1 fun j => e2 _ _ (by omega)⟩⟩
theorem FG.swap {kl kn kl2 kn2 : Nat} (h : FG g kl kn kl2 kn2) (e1 : g2.1 = g.1) (e2 : ∀ a j, a ≠ 2 → g2.2 a j = g.2 a j) (e3 : ∀ j, j < 9 → g2.2 2 j = g.2 2 j) (e9 : g2.2 2 9 = kl2) (e10 : g2.2 2 10 = kl) (e11 : g2.2 2 11 = kn2) (e12 : g2.2 2 12 = kn) : FG g2 kl2 kn2 kl kn := by
  have a := f_hl h
  have b := f_hn h
  exact ⟨(xIs_g e1).2 (f_o h), (e3 0 (by decide)).trans (f_p0 h), (e3 1 (by decide)).trans (f_p1 h), (e3 2 (by decide)).trans (f_p2 h), (e3 3 (by decide)).trans (f_p3 h), (e3 4 (by decide)).trans (f_p4 h), (e3 5 (by decide)).trans (f_p5 h), (e3 6 (by decide)).trans (f_p6 h), (e3 7 (by decide)).trans (f_p7 h), (e3 8 (by decide)).trans (f_p8 h), e9, e10, e11, e12, (f_rd h).gg e1 fun j => e2 _ _ (by decide), (f_cs h).gg e1 fun j => e2 _ _ (by decide), (f_ds h).gg e1 fun j => e2 _ _ (by decide), (xIs_g e1).2 (f_im h), (e2 _ _ (by decide)).trans (f_i0 h), (e2 _ _ (by decide)).trans (f_i1 h), (xIs_g e1).2 (f_kp h), (f_tr h).gg e1 fun j => e2 _ _ (by decide), (f_wa h).gg e1 fun j => e2 _ _ (by decide), (f_a0 h).gg e1 fun j => e2 _ _ (by decide), (f_a1 h).gg e1 fun j => e2 _ _ (by decide), (f_sn2 h).gg e1 fun j => e2 _ _ (by omega), (f_sn h).gg e1 fun j => e2 _ _ (by omega), (f_tl2 h).gg e1 fun j => e2 _ _ (by omega), (f_tl h).gg e1 fun j => e2 _ _ (by omega), by omega, by omega⟩
theorem C_Town (h : CW X g w) (xi' : XI X) (hQ : CPo (xTown X).2 (xTown X).1 g w Q) : cal (d + 20) nFf_town [xr 2] g w Q := by
  obtain ⟨kl, kn, kl2, kn2, F, T, K, hk⟩ := h
  obtain ⟨li, ⟨si, wi, hm⟩, pc, pd, im, ln, tx⟩ := xi'
  obtain ⟨h1, h2, h3, h4, h5, ⟨h6, h6'⟩, h7, h8⟩ := id hk
  have a := f_hl F
  have b := f_hn F
  have R := f_rd F
  refine eFf_town fun lim Q2 q2 => wFf_town_0 ?_
  have hQ : CPo (xTown X).2 (xTown X).1 g w Q2 := fun g2 w2 e1 e2 e3 e4 => q2 _ _ _ e1 (hQ g2 w2 e1 e2 e3 e4)
  have hTI : TxI (X 6 1) (X 6 2 0).toNat := ⟨by omega, fun j hj => tx j (by omega)⟩
  have hTx : Tx (X 6 1) (X 6 2 0).toNat w := ⟨by rw [h6]; omega, fun j hj => h6' j (by omega)⟩
  have e17 : w kn 17 = X 1 12 3 := h2.1 12 3 (show 3 < 5 by decide) (by decide) (by decide)
  have hsd := si.2.2.2.2.2.2.2.2.1
  simp only [f_o F, f_p0 F, f_p10 F, f_p11 F, f_p12 F, R.1, s_o (f_sn F), e17, true_and]
  refine cl_read R (f_tl2 F) (f_sn2 F) (by omega) (by omega) (by omega) hTI hTx h8 fun g1 w1 e1 f1 r1 => ⟨_, rfl, ?_⟩
  have F1 := F.ge e1
  have T1 := T.ge e1
  have K1 := K.ge e1
  have R1 := f_rd F1
  simp only [f_o F1, f_p0 F1, R1.1, true_and]
  have f2 : ∀ a j, ¬ (a = 3 ∧ 1 ≤ j ∧ j ≤ 6) → ¬ (kl2 ≤ a ∧ a ≤ kl2 + 7) → ¬ (kn2 ≤ a ∧ a ≤ kn2 + 12) → xup w1 3 1 0 a j = w a j := fun a j p q r => by rw [xup_o (by omega)]; exact f1.1 a j (by omega) q r
  have o2 : ∀ a j, ¬ (a = 3 ∧ j = 1) → xup w1 3 1 0 a j = w1 a j := fun a j q => xup_o q
  have p2 : xup w1 3 1 0 3 1 = 0 := xup_s
  generalize xup w1 3 1 0 = w2 at f2 o2 p2
  have hk0 : kB (tRd X) := kb_all _ _ _ _ _
  have er : pAll (X 6 1) (X 6 2 0).toNat 260 0 tz0 sz0 0 = tRd X := rfl
  rw [er] at r1 ⊢
  have n17 : w2 kn2 17 = w kn2 17 := (o2 _ _ (by omega)).trans f1.2
  unfold xTown at hQ
  refine wFf_town_32 ?_
  refine ⟨fun z => ?_, fun z => ?_⟩
  · have z := ifv.2 z
    rw [if_pos z] at hQ
    have hQ : CPo (xTwn X) (nC (tRd X).2.2.1) g w Q2 := hQ
    rcases r1 with ⟨-, z1⟩ | ⟨y, -⟩
    · obtain ⟨c1, c2, c3, c4, -⟩ := z1
      have zi := pAll_ok (T := X 6 1) (L := (X 6 2 0).toNat) (v := w kn2 17) 260 0 tz0 sz0 0 (Nat.zero_le _) (zi_0 h8) z
      rw [er] at zi
      have lit' := zi.1
      simp only [f_o F1, f_p9 F1, f_p10 F1, true_and]
      refine wFf_town_60 ?_
      have x2 : ∀ r : Nat → Nat → Nat, xIs (g1.1, r) 2 (0, 6) := fun r => (xIs_g (g := g1) (g2 := (g1.1, r)) rfl).2 (f_o F1)
      simp only [x2, true_and]
      refine wFf_town_65 ?_
      simp only [x2, true_and]
      have r11 : xup (xup g1.2 2 9 kl2) 2 10 kl 2 11 = kn := by rw [xup_k (by decide), xup_k (by decide)]; exact f_p11 F1
      have r12 : xup (xup g1.2 2 9 kl2) 2 10 kl 2 12 = kn2 := by rw [xup_k (by decide), xup_k (by decide)]; exact f_p12 F1
      simp only [r11, r12]
      refine wFf_town_79 ?_
      simp only [x2, true_and]
      have e3 : (g1.1, xup (xup (xup (xup g1.2 2 9 kl2) 2 10 kl) 2 11 kn2) 2 12 kn).1 = g1.1 := rfl
      have e4 : ∀ a j, a ≠ 2 → (g1.1, xup (xup (xup (xup g1.2 2 9 kl2) 2 10 kl) 2 11 kn2) 2 12 kn).2 a j = g1.2 a j := fun a j q => by
        show xup (xup (xup (xup g1.2 2 9 kl2) 2 10 kl) 2 11 kn2) 2 12 kn a j = g1.2 a j
        rw [xup_a q, xup_a q, xup_a q, xup_a q]
      have e5 : ∀ j, j < 9 → (g1.1, xup (xup (xup (xup g1.2 2 9 kl2) 2 10 kl) 2 11 kn2) 2 12 kn).2 2 j = g1.2 2 j := fun j q => by
        show xup (xup (xup (xup g1.2 2 9 kl2) 2 10 kl) 2 11 kn2) 2 12 kn 2 j = g1.2 2 j
        rw [xup_k (by omega), xup_k (by omega), xup_k (by omega), xup_k (by omega)]
      have s9 : (g1.1, xup (xup (xup (xup g1.2 2 9 kl2) 2 10 kl) 2 11 kn2) 2 12 kn).2 2 9 = kl2 := by
        show xup (xup (xup (xup g1.2 2 9 kl2) 2 10 kl) 2 11 kn2) 2 12 kn 2 9 = kl2
        rw [xup_k (by decide), xup_k (by decide), xup_k (by decide), xup_s]
      have s10 : (g1.1, xup (xup (xup (xup g1.2 2 9 kl2) 2 10 kl) 2 11 kn2) 2 12 kn).2 2 10 = kl := by
        show xup (xup (xup (xup g1.2 2 9 kl2) 2 10 kl) 2 11 kn2) 2 12 kn 2 10 = kl
        rw [xup_k (by decide), xup_k (by decide), xup_s]
      have s11 : (g1.1, xup (xup (xup (xup g1.2 2 9 kl2) 2 10 kl) 2 11 kn2) 2 12 kn).2 2 11 = kn2 := by
        show xup (xup (xup (xup g1.2 2 9 kl2) 2 10 kl) 2 11 kn2) 2 12 kn 2 11 = kn2
        rw [xup_k (by decide), xup_s]
      have s12 : (g1.1, xup (xup (xup (xup g1.2 2 9 kl2) 2 10 kl) 2 11 kn2) 2 12 kn).2 2 12 = kn := by
        show xup (xup (xup (xup g1.2 2 9 kl2) 2 10 kl) 2 11 kn2) 2 12 kn 2 12 = kn
        rw [xup_s]
      generalize (g1.1, xup (xup (xup (xup g1.2 2 9 kl2) 2 10 kl) 2 11 kn2) 2 12 kn) = g3 at e3 e4 e5 s9 s10 s11 s12
      have F3 := F1.swap e3 e4 e5 s9 s10 s11 s12
      have T3 := T1.gg e3 fun a j q => e4 a j (by omega)
      have K3 := K1.gg e3 fun j => e4 _ _ (by decide)
      refine wFf_town_85 ?_
      simp only [f_o F3, f_p11 F3, s_o (f_sn F3), true_and]
      refine wFf_town_93 ?_
      simp only [f_o F3, f_p1 F3, p12_o (f_cs F3), true_and]
      refine wFf_town_101 ?_
      simp only [f_o F3, f_p2 F3, f_p4 F3, p8_o (f_ds F3), true_and]
      have o4 : ∀ a j, ¬ (a = kn2 ∧ j = 17) → ¬ (a = 5 ∧ j = 3) → ¬ (a = 9 ∧ j = 3) → xup (xup (xup w2 kn2 17 (X 1 12 3)) 5 3 0) 9 3 0 a j = w2 a j := fun a j p q r => by rw [xup_o r, xup_o q, xup_o p]
      have p17 : xup (xup (xup w2 kn2 17 (X 1 12 3)) 5 3 0) 9 3 0 kn2 17 = X 1 12 3 := by rw [xup_o (by omega), xup_o (by omega), xup_s]
      have p5 : xup (xup (xup w2 kn2 17 (X 1 12 3)) 5 3 0) 9 3 0 5 3 = 0 := by rw [xup_o (by omega), xup_s]
      have p9 : xup (xup (xup w2 kn2 17 (X 1 12 3)) 5 3 0) 9 3 0 9 3 = 0 := xup_s
      generalize xup (xup (xup w2 kn2 17 (X 1 12 3)) 5 3 0) 9 3 0 = w4 at o4 p17 p5 p9
      refine cl_fill (f_kp F3) (by decide) fun w5 f5 a5 => ⟨rfl, ?_⟩
      simp only [f_o F3, f_p9 F3, t_o (f_tl F3), true_and]
      have c1' : RCl (tRd X).2.2.1 kl2 w5 := c1.e fun a j p q => by rw [f5 _ _ (by omega), o4 _ _ (by omega) (by omega) (by omega), o2 _ _ (by omega)]
      have c2' : RCs (tRd X).2.2.1 (sd (tRd X).2.2.2.1 (X 1 12 3)) kn2 w5 := by
        refine ⟨fun r i q u1 u2 => ?_, fun c hc => ?_⟩
        · obtain ⟨m1, -, -⟩ := act_b lit' q
          have := cad_le r m1
          by_cases v : r = 12
          · subst v
            have q : i < 5 := q
            have h12 := c2.1 12 i q (by decide) (by decide)
            rw [sd_12] at h12 ⊢
            have key : ∀ j, j ≠ 17 → w5 kn2 j = w1 kn2 j := fun j hj => by rw [f5 _ _ (by omega), o4 _ _ (by omega) (by omega) (by omega), o2 _ _ (by omega)]
            rcases (by omega : i = 0 ∨ i = 1 ∨ i = 2 ∨ i = 3 ∨ i = 4) with u | u | u | u | u <;> subst u
            · show w5 kn2 14 = _
              rw [key 14 (by decide)]; exact h12
            · show w5 kn2 15 = _
              rw [key 15 (by decide)]; exact h12
            · show w5 kn2 16 = _
              rw [key 16 (by decide)]; exact h12
            · show w5 kn2 17 = X 1 12 3
              rw [f5 _ _ (by omega), p17]
            · show w5 kn2 13 = _
              rw [key 13 (by decide)]; exact h12
          · have hi : cix r i = i := by unfold cix; rw [if_neg v]
            have hc0 : cad r ≠ 0 := fun z => by
              have : ∀ r, r ≤ 12 → r ≠ 1 → r ≠ 2 → r ≠ 12 → cad r ≠ 0 := by decide
              exact this r m1 u1 u2 v z
            have hh := c2.1 r i q u1 u2
            rw [sd_n v] at hh ⊢
            rw [f5 _ _ (by omega), o4 _ _ (by omega) (by omega) (by omega), o2 _ _ (by omega)]
            exact hh
        · rw [f5 _ _ (by omega), o4 _ _ (by omega) (by omega) (by omega), o2 _ _ (by omega), c2.2 c hc]
          refine (brd_c (fun i => ?_) _).symm
          rw [sd_n (by decide), sd_n (by decide), sd_n (by decide), sd_n (by decide)]; exact ⟨rfl, rfl⟩
      refine cl_cells (f_tl F3) c1' lit' ⟨_, rfl, ?_⟩
      have g5 : ∀ a j, ¬ (a = 3 ∧ 1 ≤ j ∧ j ≤ 6) → ¬ (kl2 ≤ a ∧ a ≤ kl2 + 7) → ¬ (kn2 ≤ a ∧ a ≤ kn2 + 12) → ¬ (a = 5 ∧ j = 3) → ¬ (a = 9 ∧ j = 3) → a ≠ 14 → w5 a j = w a j := fun a j p q r u v x => by rw [f5 _ _ x, o4 _ _ (by omega) u v, f2 _ _ p q r]
      refine hQ g3 w5 (e3.trans e1.1) (fun a j p q r => (e4 a j p).trans (e1.2 a j (fun z => r z.1) (fun z => q z.1))) (fun a j q => g5 a j (by omega) (by omega) (by omega) (by omega) (by omega) (by omega)) ⟨kl2, kn2, kl, kn, F3, T3, K3, ?_⟩
      have m0 : ∀ j, m6S X 0 j = 0 := fun j => by unfold m6S; rw [zset_n (by decide), zset_s]
      have m2 : m6S X 2 0 = 0 := by unfold m6S; rw [zset_s, zup_n (by decide), zup_s]
      have m3 : m6S X 2 1 = -1 := by unfold m6S; rw [zset_s, zup_s]
      unfold CK
      rw [xT_0, xT_1, xT_2, xT_3, xT_6]
      simp only [m0, m2, m3]
      refine ⟨c1', c2', RP.emp (by rw [f5 _ _ (by decide), p5]), RP.emp (by rw [f5 _ _ (by decide), p9]), fun j hj => ⟨a5 j hj, fun u => absurd rfl u⟩, ⟨by rw [f5 _ _ (by decide), o4 _ _ (by omega) (by omega) (by omega), p2], fun j hj => by omega⟩, by rw [f5 _ _ (by decide), o4 _ _ (by omega) (by omega) (by omega), o2 _ _ (by decide), c4], by rw [g5 _ _ (by omega) (by omega) (by omega) (by omega) (by omega) (by omega), e17]; omega⟩
    · exact absurd z y
  · have z := ifv.1 z
    rw [if_neg z] at hQ
    have hQ : CPo (zw X 6 (m6F X (tRd X).2.1)) (-10 - (tRd X).1) g w Q2 := hQ
    rcases r1 with ⟨y, -⟩ | ⟨-, k1, a1⟩
    · exact absurd y z
    · have e4 : w2 3 4 = (tRd X).1 := (o2 _ _ (by decide)).trans k1
      have hb := hk0.2
      have hb0 := hk0.1
      simp only [f_o F1, f_p0 F1, R1.1, e4, true_and]
      refine ⟨by constructor <;> omega, hQ g1 w2 e1.1 (fun a j p q r => e1.2 a j (fun z => r z.1) (fun z => q z.1)) (fun a j q => f2 a j (by omega) (by omega) (by omega)) ⟨kl, kn, kl2, kn2, F1, T1, K1, ?_⟩⟩
      have m0 : ∀ j, m6F X (tRd X).2.1 0 j = X 6 0 j := fun j => by unfold m6F; rw [zset_n (by decide)]
      have m2 : m6F X (tRd X).2.1 2 0 = 0 := by unfold m6F; rw [zset_s, zup_n (by decide), zup_s]
      have m3 : m6F X (tRd X).2.1 2 1 = (tRd X).2.1 := by unfold m6F; rw [zset_s, zup_s]
      unfold CK
      rw [zw_s, zw_n (by decide), zw_n (by decide), zw_n (by decide), zw_n (by decide)]
      simp only [m0, m2, m3]
      refine ⟨h1.e fun a j p q => f2 a j (by omega) (by omega) (by omega), h2.e li fun a j p q => f2 a j (by omega) (by omega) (by omega), h3.e fun a j p q => f2 a j (by omega) (by omega) (by omega), h4.e fun a j p q => f2 a j (by omega) (by omega) (by omega), fun j hj => ⟨(f2 _ _ (by omega) (by omega) (by omega)).trans (h5 j hj).1, fun y => ?_⟩, ⟨p2, fun j hj => by omega⟩, (o2 _ _ (by decide)).trans a1, by rw [n17]; exact h8⟩
      rw [zw_n (by omega)]
      exact ((h5 j hj).2 y).e li fun a i p q => f2 a i (by omega) (by omega) (by omega)
end WDD
