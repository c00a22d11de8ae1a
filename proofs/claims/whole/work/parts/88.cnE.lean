/-! ===== shapes where a reference field has changed; stands: the class ===== -/
/-- only the tour's land and the reader's land and start may have changed -/
def GE (g g2 : xG) : Prop := g2.1 = g.1 ∧ ∀ a j, ¬ (a = 41 ∧ j = 3) → ¬ (a = 3 ∧ (j = 7 ∨ j = 8)) → g2.2 a j = g.2 a j
def TuG (g : xG) : Prop := xIs g 41 (0, 4) ∧ g.2 41 0 = 42 ∧ g.2 41 1 = 43 ∧ g.2 41 2 = 44 ∧ xIs g 42 (3, 6) ∧ xIs g 43 (1, 5) ∧ xIs g 44 (1, 5) ∧ ∀ i, i < 6 → g.2 42 i = 45 + 13 * i ∧ SG g (45 + 13 * i)
theorem xIs_g {g g2 : xG} (h : g2.1 = g.1) {a : Nat} {q : Nat × Nat} : xIs g2 a q ↔ xIs g a q := by unfold xIs; rw [h]
section GEX
variable {g g2 : xG}
theorem GE.refl : GE g g := ⟨rfl, fun _ _ _ _ => rfl⟩
theorem GE.trans {g3 : xG} (h : GE g g2) (h2 : GE g2 g3) : GE g g3 := ⟨h2.1.trans h.1, fun a j p q => (h2.2 a j p q).trans (h.2 a j p q)⟩
theorem GE.t {v : Nat} : GE g (g.1, xup g.2 41 3 v) := ⟨rfl, fun a j p _ => by
  show xup g.2 41 3 v a j = _
  by_cases z : a = 41
  · subst z; exact xup_k (fun y => p ⟨rfl, y⟩)
  · exact xup_a z⟩
theorem SG.ge {k : Nat} (e : GE g g2) (hk : k ≠ 41 ∧ k ≠ 3) (h : SG g k) : SG g2 k := by
  unfold SG at h ⊢
  have e2 : ∀ j, g2.2 k j = g.2 k j := fun j => e.2 k j (fun z => hk.1 z.1) (fun z => hk.2 z.1)
  simp only [e2, xIs_g e.1]; exact h
theorem TG.ge {k : Nat} (e : GE g g2) (hk : k ≠ 41 ∧ k ≠ 3) (h : TG g k) : TG g2 k := by
  unfold TG at h ⊢
  have e2 : ∀ j, g2.2 k j = g.2 k j := fun j => e.2 k j (fun z => hk.1 z.1) (fun z => hk.2 z.1)
  simp only [e2, xIs_g e.1]; exact h
theorem MG.ge (e : GE g g2) (h : MG g) : MG g2 := by
  unfold MG at h ⊢
  have e2 : ∀ j, g2.2 193 j = g.2 193 j := fun j => e.2 193 j (fun z => absurd z.1 (by decide)) (fun z => absurd z.1 (by decide))
  simp only [e2, xIs_g e.1]; exact h
theorem RG.ge (e : GE g g2) (h : RG g) : RG g2 := by
  unfold RG at h ⊢
  have e2 : g2.2 3 0 = g.2 3 0 := e.2 3 0 (fun z => absurd z.1 (by decide)) (fun z => absurd z.2 (by decide))
  simp only [e2, xIs_g e.1]; exact h
theorem PG12.ge {k : Nat} (e : GE g g2) (hk : k ≠ 41 ∧ k ≠ 3) (h : PG12 g k) : PG12 g2 k := by
  unfold PG12 at h ⊢
  have e2 : ∀ j, g2.2 k j = g.2 k j := fun j => e.2 k j (fun z => hk.1 z.1) (fun z => hk.2 z.1)
  simp only [e2, xIs_g e.1]; exact h
theorem PG8.ge {k : Nat} (e : GE g g2) (hk : k ≠ 41 ∧ k ≠ 3) (h : PG8 g k) : PG8 g2 k := by
  unfold PG8 at h ⊢
  have e2 : ∀ j, g2.2 k j = g.2 k j := fun j => e.2 k j (fun z => hk.1 z.1) (fun z => hk.2 z.1)
  simp only [e2, xIs_g e.1]; exact h
theorem MkG.ge (e : GE g g2) (h : MkG g) : MkG g2 := by
  unfold MkG at h ⊢
  have e2 : ∀ j, g2.2 123 j = g.2 123 j := fun j => e.2 123 j (fun z => absurd z.1 (by decide)) (fun z => absurd z.1 (by decide))
  simp only [e2, xIs_g e.1]; exact h
theorem TuG.ge (e : GE g g2) (h : TuG g) : TuG g2 := by
  obtain ⟨h1, h2, h3, h4, h5, h6, h7, h8⟩ := h
  have e2 : ∀ j, j ≠ 3 → g2.2 41 j = g.2 41 j := fun j q => e.2 41 j (fun z => q z.2) (fun z => absurd z.1 (by decide))
  refine ⟨(xIs_g e.1).2 h1, (e2 0 (by decide)).trans h2, (e2 1 (by decide)).trans h3, (e2 2 (by decide)).trans h4, (xIs_g e.1).2 h5, (xIs_g e.1).2 h6, (xIs_g e.1).2 h7, fun i hi => ⟨(e.2 42 i (fun z => absurd z.1 (by decide)) (fun z => absurd z.1 (by decide))).trans (h8 i hi).1, (h8 i hi).2.ge e (by omega)⟩⟩
theorem FG.ge {kl kn kl2 kn2 : Nat} (e : GE g g2) (h : FG g kl kn kl2 kn2) : FG g2 kl kn kl2 kn2 := by
  have a := f_hl h
  have b := f_hn h
  have e2 : ∀ j, g2.2 2 j = g.2 2 j := fun j => e.2 2 j (fun z => absurd z.1 (by decide)) (fun z => absurd z.1 (by decide))
  have e3 : ∀ j, g2.2 13 j = g.2 13 j := fun j => e.2 13 j (fun z => absurd z.1 (by decide)) (fun z => absurd z.1 (by decide))
  exact ⟨(xIs_g e.1).2 (f_o h), (e2 0).trans (f_p0 h), (e2 1).trans (f_p1 h), (e2 2).trans (f_p2 h), (e2 3).trans (f_p3 h), (e2 4).trans (f_p4 h), (e2 5).trans (f_p5 h), (e2 6).trans (f_p6 h), (e2 7).trans (f_p7 h), (e2 8).trans (f_p8 h), (e2 9).trans (f_p9 h), (e2 10).trans (f_p10 h), (e2 11).trans (f_p11 h), (e2 12).trans (f_p12 h), (f_rd h).ge e, (f_cs h).ge e (by decide), (f_ds h).ge e (by decide), (xIs_g e.1).2 (f_im h), (e3 0).trans (f_i0 h), (e3 1).trans (f_i1 h), (xIs_g e.1).2 (f_kp h), (f_tr h).ge e (by decide), (f_wa h).ge e (by decide), (f_a0 h).ge e (by decide), (f_a1 h).ge e (by decide), (f_sn h).ge e (by omega), (f_sn2 h).ge e (by omega), (f_tl h).ge e (by omega), (f_tl2 h).ge e (by omega), a, b⟩
end GEX
/-- what a search from a depth on may change -/
def TF (dep : Nat) (w w2 : xW) : Prop := ∀ a j, (a < 41 ∨ (a = 41 ∧ j ≠ 6) ∨ a = 42 ∨ (a = 43 ∧ j < dep) ∨ (45 ≤ a ∧ a < 45 + 13 * (dep + 1)) ∨ 122 < a) → w2 a j = w a j
/-- how the search stands -/
def TI (t : zS) (kt n p dep : Nat) (σ : zS) (c : Nat) (z : Int × Nat) (w : xW) : Prop := RCl t kt w ∧ RCs t σ (45 + 13 * dep) w ∧ w 41 4 = p ∧ w 41 5 = n ∧ w 41 6 = z.1 ∧ (∀ i, i < dep → w 43 i = ((c / 5 ^ (dep - 1 - i) % 5 : Nat) : Int)) ∧ (z.1 = -1 ∨ ∀ i, i < n → w 44 i = ((z.2 / 5 ^ (n - 1 - i) % 5 : Nat) : Int))
section CNE
variable {g : xG} {w w0 : xW} {t s : zS} {d : Nat} {Q : xQ} {lim : Nat × Nat} {kl kn kl2 kn2 kt p n : Nat}
theorem TF.refl {dep : Nat} : TF dep w w := fun _ _ _ => rfl
theorem TF.trans {dep : Nat} {w2 w3 : xW} (h : TF dep w w2) (h2 : TF dep w2 w3) : TF dep w w3 := fun a j q => (h2 a j q).trans (h a j q)
theorem TF.dn {dep : Nat} {w2 : xW} (h : TF (dep + 1) w w2) : TF dep w w2 := fun a j q => h a j (by omega)
theorem TF.cf {dep : Nat} {w2 : xW} (h : CF (45 + 13 * (dep + 1)) w w2) (hd : dep ≤ 4) : TF dep w w2 := fun a j q => h a j (by omega)
theorem RCl.tf {dep : Nat} {w2 : xW} (h : RCl t kt w) (f : TF dep w w2) (hk : 122 < kt) : RCl t kt w2 := by
  obtain ⟨h1, h2, h3, h4, h5, h6, h7, h8, h9, h10, h11⟩ := h
  have e : ∀ a j, kt ≤ a → w2 a j = w a j := fun a j p => f a j (by omega)
  refine ⟨by rw [e _ _ (by omega), h1], by rw [e _ _ (by omega), h2], by rw [e _ _ (by omega), h3], by rw [e _ _ (by omega), h4], by rw [e _ _ (by omega), h5], by rw [e _ _ (by omega), h6], fun c hc d hd => ?_, fun i q => ?_, fun i q => ?_, fun i q => ?_, fun i q => ?_⟩
  · rw [e _ _ (by omega)]; exact h7 c hc d hd
  · rw [e _ _ (by omega)]; exact h8 i q
  · rw [e _ _ (by omega)]; exact h9 i q
  · rw [e _ _ (by omega), e _ _ (by omega)]; exact h10 i q
  · rw [e _ _ (by omega), e _ _ (by omega)]; exact h11 i q
theorem RCs.tf {dep : Nat} {w2 : xW} (hs : RCs t s (45 + 13 * dep) w) (li : LInv t) (f : TF dep w w2) : RCs t s (45 + 13 * dep) w2 := by
  refine ⟨fun r i q p1 p2 => ?_, fun c hc => ?_⟩
  · obtain ⟨b1, -, -⟩ := act_b li q
    have := cad_le r b1
    rw [f _ _ (by omega)]; exact hs.1 r i q p1 p2
  · rw [f _ _ (by omega)]; exact hs.2 c hc
/-- back from a deeper search -/
theorem TI.back {dep : Nat} {σ σ2 : zS} {c c2 : Nat} {z z2 : Int × Nat} {w2 : xW} (li : LInv t) (hk : 122 < kt) (h : TI t kt n p dep σ c z w) (f : TF dep w w2) (h2 : TI t kt n p (dep + 1) σ2 c2 z2 w2) : TI t kt n p dep σ c z2 w2 := by
  obtain ⟨h1, h3, h4, h5, h6, h7, h8⟩ := h
  refine ⟨h1.tf f hk, h3.tf li f, (f 41 4 (by omega)).trans h4, (f 41 5 (by omega)).trans h5, h2.2.2.2.2.1, fun i hi => (f 43 i (by omega)).trans (h7 i hi), h2.2.2.2.2.2.2⟩
theorem dig_s {c b e : Nat} (hb : b < 5) : (5 * c + b) / 5 ^ (e + 1) = c / 5 ^ e := by
  rw [Nat.pow_succ, Nat.mul_comm (5 ^ e) 5, ← Nat.div_div_eq_div_mul, show (5 * c + b) / 5 = c by omega]
theorem cl_finish {o : Int} (T : TuG g) (hQ : ∀ w2, (∀ a j, a ≠ 44 → (a = 41 → j ≠ 6) → w2 a j = w a j) → (w 41 6 < o → w2 41 6 = o ∧ ∀ i, i < 5 → w2 44 i = w 43 i) → (o ≤ w 41 6 → w2 = w) → Q none g w2) : cal (d + 1) nTo_finish [xr 41, xi o] g w Q := by
  refine eTo_finish fun lim Q2 h2 => wTo_finish_0 ?_
  have hQ := fun w2 a b c => h2 _ g w2 rfl (hQ w2 a b c)
  obtain ⟨h1, h3, h4, h5, h6, h7, h8, h9⟩ := T
  have c1 : xCo g 43 0 5 := ⟨_, h7, by omega, by omega, by omega⟩
  have c2 : xCo g 44 0 5 := ⟨_, h8, by omega, by omega, by omega⟩
  simp only [h1, h4, h5, c1, c2, true_and]
  refine ⟨fun q => hQ w (fun _ _ _ _ => rfl) (fun z => by omega) (fun _ => rfl), fun q => hQ _ (fun a j p r => ?_) (fun _ => ⟨?_, fun i hi => ?_⟩) (fun z => by omega)⟩
  · show xcp _ 43 0 44 0 5 a j = w a j
    rw [xcp_o p]
    by_cases z : a = 41
    · subst z; exact xup_k (r rfl)
    · exact xup_a z
  · show xcp _ 43 0 44 0 5 41 6 = o
    rw [xcp_o (by decide), xup_s]
  · show xcp _ 43 0 44 0 5 44 i = w 43 i
    rw [xcp_i hi, xup_a (by decide)]
theorem cl_try (T : TuG g) (hT : TG g kt) (hk3 : g.2 41 3 = kt) (hkt : 122 < kt) (li : LInv t) (hn : n ≤ 5) (hp : p < nP t) : ∀ (m dep : Nat) (σ : zS) (c : Nat) (z : Int × Nat) (w : xW) (Q : xQ), dep + m = n → TI t kt n p dep σ c z w → SInv t σ → σ 12 2 + m ≤ 1000000000 → (∀ w2, TF dep w w2 → TI t kt n p dep σ c (srch t p m σ c z) w2 → Q none g w2) → cal (d + m + 5) nFf_tryWays [xr 41, xi dep] g w Q
  | 0, dep, σ, c, z, w, Q, e, hI, si, hm, hQ => by
    have e : dep = n := by omega
    subst e
    refine eFf_tryWays fun lim Q2 h2 => wFf_tryWays_0 ?_
    have hQ := fun w2 a b => h2 _ g w2 rfl (hQ w2 a b)
    obtain ⟨h1, h3, h4, h5, h6, h7, h8⟩ := id hI
    obtain ⟨T1, T2, T3, T4, T5, T6, T7, T8⟩ := id T
    have hS := (T8 dep (by omega)).2
    have eL : g.2 42 (Int.toNat (dep : Int)) = 45 + 13 * dep := by rw [Int.toNat_natCast]; exact (T8 dep (by omega)).1
    have x3 : xA3 g 42 (dep : Int) := ⟨_, T5, by omega, by omega⟩
    simp only [T1, T2, eL, x3, s_o hS, hk3, h4, true_and]
    refine ⟨fun _ => cl_owned hS hT h1 h3 li ⟨_, rfl, ?_⟩, fun h => by omega⟩
    simp only [T1, h5, true_and]
    refine ⟨fun h => by omega, fun _ => cl_finish T fun w2 f2 a2 b2 => ⟨rfl, ?_⟩⟩
    by_cases q : z.1 < cnO σ p (nC t)
    · obtain ⟨u1, u2⟩ := a2 (by rw [h6]; exact q)
      have tf : TF dep w w2 := fun a j r => f2 a j (by omega) (by omega)
      refine hQ w2 tf ?_
      unfold srch
      rw [if_pos q]
      refine ⟨h1.tf tf hkt, h3.tf li tf, (f2 41 4 (by decide) (fun _ => by decide)).trans h4, (f2 41 5 (by decide) (fun _ => by decide)).trans h5, u1, fun i hi => (f2 43 i (by decide) (by omega)).trans (h7 i hi), Or.inr fun i hi => (u2 i (by omega)).trans (h7 i hi)⟩
    · have := b2 (by rw [h6]; omega)
      subst this
      refine hQ w2 TF.refl ?_
      unfold srch
      rw [if_neg q]; exact hI
  | m + 1, dep, σ, c, z, w, Q, e, hI, si, hm, hQ => by
    rw [show d + (m + 1) + 5 = (d + m + 5) + 1 by omega]
    refine eFf_tryWays fun lim Q2 h2 => wFf_tryWays_0 ?_
    have hQ := fun w2 a b => h2 _ g w2 rfl (hQ w2 a b)
    obtain ⟨h1, h3, h4, h5, h6, h7, h8⟩ := id hI
    obtain ⟨T1, T2, T3, T4, T5, T6, T7, T8⟩ := id T
    obtain ⟨-, n2, -, -, n5, n6⟩ := li_n li
    have hS := (T8 dep (by omega)).2
    have hS2 := (T8 (dep + 1) (by omega)).2
    have eL : g.2 42 (Int.toNat (dep : Int)) = 45 + 13 * dep := by rw [Int.toNat_natCast]; exact (T8 dep (by omega)).1
    have eL2 : g.2 42 (Int.toNat ((dep : Int) + 1)) = 45 + 13 * (dep + 1) := by rw [show Int.toNat ((dep : Int) + 1) = dep + 1 by omega]; exact (T8 (dep + 1) (by omega)).1
    have x3 : xA3 g 42 (dep : Int) := ⟨_, T5, by omega, by omega⟩
    have x32 : xA3 g 42 ((dep : Int) + 1) := ⟨_, T5, by omega, by omega⟩
    have hcn := cnO_bb (s := σ) (p := p) (nC t)
    have h7b := (si.2.2.2.2.1 p hp).1
    have hm0 := si.2.2.2.2.2.2.2.1
    -- the ways one by one
    have loop : ∀ (k b : Nat) (z : Int × Nat) (w1 : xW), b + k = 5 → TF dep w w1 → TI t kt n p dep σ c z w1 → (∀ w2, TF dep w w2 → TI t kt n p dep σ c (fld (fun b y => if wyy t σ (σ 7 p) b = -1 then y else srch t p m (mv t σ p b) (5 * c + b) y) k b z) w2 → Q2 none g w2) → aFf_tryWays (d + m + 5) lim Q2 69 [xr 41, xi dep, xr (45 + 13 * dep), none, xr (45 + 13 * (dep + 1)), xi b, none] [] g w1 := by
      intro k
      induction k with
      | zero =>
        intro b z w1 hb f1 i1 hk
        refine wFf_tryWays_69 ?_
        exact ⟨fun _ => hk w1 f1 i1, fun h => by omega⟩
      | succ k ih =>
        intro b z w1 hb f1 i1 hk
        obtain ⟨j1, j3, j4, j5, j6, j7, j8⟩ := id i1
        have e7 : w1 (45 + 13 * dep + 8) (Int.toNat (p : Int)) = σ 7 p := by rw [Int.toNat_natCast]; exact j3.1 7 p hp (by decide) (by decide)
        refine wFf_tryWays_69 ?_
        simp only [T1, hk3, j4, s_o hS, s_p7 hS, s_r7 hS, e7, true_and]
        refine ⟨fun h => by omega, fun _ => ⟨by constructor <;> omega, ?_⟩⟩
        obtain ⟨C, hC⟩ := z_nn h7b.1
        have ew : wyy t σ C b = wyy t σ (σ 7 p) b := by rw [hC]
        rw [hC]
        refine cl_reach hS hT j1 j3 li si (by omega) (by omega) ⟨_, rfl, fun q => ⟨by constructor <;> omega, ?_⟩, fun q => ?_⟩
        · rw [show ((b : Int) + 1) = ((b + 1 : Nat) : Int) by omega]
          refine ih (b + 1) z w1 (by omega) f1 i1 fun w2 f2 i2 => hk w2 f2 ?_
          rw [fld, if_pos (ew ▸ q)]; exact i2
        · rw [ew] at q ⊢
          have hin := (wyy_in (s := σ) li h7b b).resolve_left q
          simp only [s_o hS2, true_and]
          refine cl_copy hS2 hS (by omega) j3 li fun w2 f2 s2 => ⟨rfl, ?_⟩
          have k4 : w2 41 4 = p := (f2 41 4 (by omega)).trans j4
          simp only [T1, s_o hS2, s_p7 hS2, s_a7 hS2, k4, true_and]
          refine ⟨by constructor <;> omega, ?_⟩
          have s3 := s2.put li (r := 7) (i := p) (v := wyy t σ (σ 7 p) b) hp (by decide) (by decide) (a := 45 + 13 * (dep + 1) + 8) (j := Int.toNat (p : Int)) rfl (Int.toNat_natCast p)
          have f3 : CF (45 + 13 * (dep + 1)) w1 (xup w2 (45 + 13 * (dep + 1) + 8) (Int.toNat (p : Int)) (wyy t σ (σ 7 p) b)) := f2.trans (CF.up (by omega) (by omega))
          generalize xup w2 (45 + 13 * (dep + 1) + 8) (Int.toNat (p : Int)) (wyy t σ (σ 7 p) b) = w3 at s3 f3
          refine wFf_tryWays_120 ?_
          simp only [T1, s_o hS2, hk3, true_and]
          refine cl_passMinute hS2 hT (by omega) (j1.fr f3 (by omega)) s3 li (si_7 si hin) (by rw [zset_n (by decide)]; omega) fun w4 f4 s4 => ⟨rfl, ?_⟩
          have f34 := f3.trans f4
          simp only [T1, T3, true_and]
          refine ⟨(xA1_1 T6 _).2 (by omega), by constructor <;> omega, ?_⟩
          rw [show ((dep : Int) + 1) = ((dep + 1 : Nat) : Int) by omega, Int.toNat_natCast]
          have t5 : TF dep w1 (xup w4 43 dep (b : Int)) := fun a j r => by
            have : ¬ (a = 43 ∧ j = dep) := by omega
            by_cases y : a = 43
            · subst y; rw [xup_k (fun u => this ⟨rfl, u⟩)]; exact f34 _ _ (by omega)
            · rw [xup_a y]; exact f34 _ _ (by omega)
          have i5 : TI t kt n p (dep + 1) (mv t σ p b) (5 * c + b) z (xup w4 43 dep (b : Int)) := by
            refine ⟨j1.tf t5 hkt, ?_, (t5 41 4 (by omega)).trans j4, (t5 41 5 (by omega)).trans j5, ?_, fun i hi => ?_, ?_⟩
            · refine ⟨fun r i u p1 p2 => ?_, fun e he => ?_⟩
              · rw [xup_a (by omega)]; exact s4.1 r i u p1 p2
              · rw [xup_a (by omega)]; exact s4.2 e he
            · rw [xup_a (by decide), f34 41 6 (by omega)]; exact j6
            · by_cases y : i = dep
              · subst y
                rw [xup_s, show i + 1 - 1 - i = 0 by omega, Nat.pow_zero, Nat.div_one, show (5 * c + b) % 5 = b by omega]
              · rw [xup_k y, f34 43 i (by omega), j7 i (by omega), show dep + 1 - 1 - i = (dep - 1 - i) + 1 by omega, dig_s (by omega)]
            · rcases j8 with u | u
              · exact Or.inl u
              · exact Or.inr fun i hi => by rw [xup_a (by decide), f34 44 i (by omega)]; exact u i hi
          have sim := si_mv li si hp q (by omega)
          refine cl_try T hT hk3 hkt li hn hp m (dep + 1) (mv t σ p b) (5 * c + b) z _ _ (by omega) i5 sim (by rw [mv_m]; omega) fun w6 f6 i6 => ⟨rfl, by constructor <;> omega, ?_⟩
          have t6 := t5.trans f6.dn
          have i7 := TI.back li hkt i1 t6 i6
          rw [show ((b : Int) + 1) = ((b + 1 : Nat) : Int) by omega]
          refine ih (b + 1) _ w6 (by omega) (f1.trans t6) i7 fun w2 f2 i2 => hk w2 f2 ?_
          rw [fld, if_neg q]; exact i2
    simp only [T1, T2, eL, x3, s_o hS, hk3, h4, true_and]
    refine ⟨fun _ => cl_owned hS hT h1 h3 li ⟨_, rfl, ?_⟩, fun h => by omega⟩
    simp only [T1, T2, eL2, x32, h5, h6, true_and]
    refine ⟨fun _ => ⟨by constructor <;> omega, by constructor <;> omega, fun q => ⟨by constructor <;> omega, ?_⟩, fun q => ?_⟩, fun h => by omega⟩
    · refine loop 5 0 z w rfl TF.refl hI fun w2 f2 i2 => hQ w2 f2 ?_
      rw [srch]; exact i2
    · refine hQ w TF.refl ?_
      rw [srch_cut _ _ _ _ (by omega)]; exact hI
theorem cl_stands {P n i : Int} (F : FG g kl kn kl2 kn2) (T : TuG g) (hl : RCl t kl w) (hs : RCs t s kn w) (li : LInv t) (si : SInv t s) (hm : s 12 2 ≤ 999999900) (hQ : ∀ g2 w2, GE g g2 → (∀ a j, (a < 41 ∨ 122 < a) → w2 a j = w a j) → Q (some (xi (oStands t s P n i))) g2 w2) : cal (d + 11) nFf_stands [xr 2, xi P, xi n, xi i] g w Q := by
  refine eFf_stands fun lim Q2 h2 => wFf_stands_0 ?_
  have hQ := fun g2 w2 (a : GE g g2) b => h2 _ g2 w2 a.1 (hQ g2 w2 a b)
  have hkl := f_hl F
  have hkn := f_hn F
  obtain ⟨-, -, -, -, n5, n6⟩ := li_n li
  have same := hQ g w GE.refl fun _ _ _ => rfl
  unfold oStands at hQ same
  simp only [f_o F, true_and]
  have go : (0 ≤ P ∧ P < t 0 5) → (1 ≤ n ∧ n ≤ 5) → (i = -1 ∨ (0 ≤ i ∧ i < n)) → aFf_stands (d + 10) lim Q2 40 [xr 2, xi P, xi n, xi i] [] g w := fun hP hn hi => by
    rw [if_pos hP, if_pos hn] at hQ
    obtain ⟨p, hp⟩ := z_nn hP.1
    obtain ⟨N, hN⟩ := z_nn (x := n) (by omega)
    subst hp; subst hN
    rw [Int.toNat_natCast, Int.toNat_natCast] at hQ
    refine wFf_stands_40 ?_
    simp only [f_o F, f_p7 F, f_p9 F, f_p11 F, T.1, true_and]
    refine eTo_begin fun lim2 Q3 h3 => wTo_begin_0 ?_
    simp only [T.1, true_and]
    have e : GE g (g.1, xup g.2 41 3 kl) := GE.t
    have e41 : (g.1, xup g.2 41 3 kl).2 41 3 = kl := by show xup g.2 41 3 kl 41 3 = kl; exact xup_s
    have F2 := F.ge e
    have T2 := T.ge e
    revert h3
    generalize (g.1, xup g.2 41 3 kl) = g2 at e e41 F2 T2
    intro h3
    refine wTo_begin_5 ?_
    obtain ⟨T1, T2', T3, T4, T5, T6, T7, T8⟩ := id T2
    have hS := (T8 0 (by decide)).2
    have eL : g2.2 42 (Int.toNat 0) = 45 := (T8 0 (by decide)).1
    have hS : SG g2 45 := hS
    have x3 : xA3 g2 42 0 := ⟨_, T5, by omega, by omega⟩
    simp only [T1, T2', eL, x3, s_o hS, true_and]
    refine cl_copy hS (f_sn F2) (by omega) hs li fun w2 f2 s2 => ⟨rfl, ?_⟩
    refine ⟨T1, wTo_begin_20 ?_⟩
    simp only [T1, true_and]
    refine wTo_begin_26 ?_
    simp only [T1, true_and]
    have x5 : ∀ a j, (a = 41 → j ≠ 4 ∧ j ≠ 5 ∧ j ≠ 6) → xup (xup (xup w2 41 4 (p : Int)) 41 5 (N : Int)) 41 6 (-1) a j = w2 a j := fun a j q => by
      by_cases y : a = 41
      · subst y
        obtain ⟨y1, y2, y3⟩ := q rfl
        rw [xup_k y3, xup_k y2, xup_k y1]
      · rw [xup_a y, xup_a y, xup_a y]
    have y4 : xup (xup (xup w2 41 4 (p : Int)) 41 5 (N : Int)) 41 6 (-1) 41 4 = p := by rw [xup_k (by decide), xup_k (by decide), xup_s]
    have y5 : xup (xup (xup w2 41 4 (p : Int)) 41 5 (N : Int)) 41 6 (-1) 41 5 = N := by rw [xup_k (by decide), xup_s]
    have y6 : xup (xup (xup w2 41 4 (p : Int)) 41 5 (N : Int)) 41 6 (-1) 41 6 = -1 := xup_s
    generalize xup (xup (xup w2 41 4 (p : Int)) 41 5 (N : Int)) 41 6 (-1) = w3 at x5 y4 y5 y6
    refine h3 _ _ _ e.1 ⟨rfl, ?_⟩
    simp only [f_o F2, f_p7 F2, true_and]
    have l3 : RCl t kl w3 := by
      have := hl.fr f2 (by omega)
      obtain ⟨h1, h2, h3, h4, h5, h6, h7, h8, h9, h10, h11⟩ := this
      have e : ∀ a j, kl ≤ a → w3 a j = w2 a j := fun a j p => x5 a j (by omega)
      refine ⟨by rw [e _ _ (by omega), h1], by rw [e _ _ (by omega), h2], by rw [e _ _ (by omega), h3], by rw [e _ _ (by omega), h4], by rw [e _ _ (by omega), h5], by rw [e _ _ (by omega), h6], fun c hc d hd => ?_, fun i q => ?_, fun i q => ?_, fun i q => ?_, fun i q => ?_⟩
      · rw [e _ _ (by omega)]; exact h7 c hc d hd
      · rw [e _ _ (by omega)]; exact h8 i q
      · rw [e _ _ (by omega)]; exact h9 i q
      · rw [e _ _ (by omega), e _ _ (by omega)]; exact h10 i q
      · rw [e _ _ (by omega), e _ _ (by omega)]; exact h11 i q
    have s3 : RCs t s 45 w3 := by
      refine ⟨fun r i u p1 p2 => ?_, fun c hc => ?_⟩
      · rw [x5 _ _ (by omega)]; exact s2.1 r i u p1 p2
      · rw [x5 _ _ (by omega)]; exact s2.2 c hc
    have hsr := srch_0 (t := t) (p := p) N s 0 (-1, 0) si (by omega) li (by omega)
    have tr := cl_try (d := d + (5 - N)) (n := N) (p := p) T2 (f_tl F2) e41 (by omega) li (by omega) (by omega) N 0 s 0 (-1, 0) w3 (fun r g3 w4 => r = none ∧ g3 = g2 ∧ TF 0 w3 w4 ∧ TI t kl N p 0 s 0 (srch t p N s 0 (-1, 0)) w4) (by omega) ⟨l3, s3, y4, y5, y6, fun i hi => by omega, Or.inl rfl⟩ si (by omega) fun w4 f4 i4 => ⟨rfl, rfl, f4, i4⟩
    rw [show d + (5 - N) + N + 5 = d + 10 by omega] at tr
    refine cal_m _ _ _ _ _ _ _ (fun r g3 w4 hh => ?_) tr
    obtain ⟨r1, r2, f4, i4⟩ := hh
    subst r2
    refine ⟨r1, ?_⟩
    have fr : ∀ a j, (a < 41 ∨ 122 < a) → w4 a j = w a j := fun a j q => by rw [f4 a j (by omega), x5 a j (by omega), f2 a j (by omega)]
    obtain ⟨k1, k3, k4, k5, k6, k7, k8⟩ := i4
    have hQ := hQ g3 w4 e fr
    simp only [f_o F2, f_p7 F2, T1, T4, true_and]
    refine ⟨fun q => ?_, fun q => ?_⟩
    · rw [if_neg q, if_pos (hi.resolve_left q)] at hQ
      have e44 : w4 44 i.toNat = _ := k8.resolve_left (by omega) i.toNat (by omega)
      rw [e44]
      exact ⟨(xAr_1 T7 _).2 (by omega), hQ⟩
    · rw [if_pos q] at hQ
      rw [k6]; exact hQ
  refine cl_isPerson F hl ⟨_, rfl, fun a => ?_, fun a => ?_⟩
  · have a := ifv.2 a
    refine ⟨fun b => ?_, fun b => ⟨fun b2 => ⟨fun q => go a (by omega) (Or.inl q), fun q => ⟨fun q2 => ?_, fun q2 => ⟨fun q3 => go a (by omega) (Or.inr (by omega)), fun q3 => ?_⟩⟩⟩, fun b2 => ?_⟩⟩
    · rw [if_pos a, if_neg (by omega)] at same; exact same
    · rw [if_pos a, if_pos (by omega), if_neg q, if_neg (by omega)] at same; exact same
    · rw [if_pos a, if_pos (by omega), if_neg q, if_neg (by omega)] at same; exact same
    · rw [if_pos a, if_neg (by omega)] at same; exact same
  · rw [if_neg (ifv.1 a)] at same; exact same
end CNE
