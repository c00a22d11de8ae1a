/-! ===== the class reads clauses: what holds meanwhile ===== -/
def sd (s : zS) (v : Int) : zS := zset s 12 (fun i => if i = 1 then 3 else if i = 3 then v else 0)
/-- a town that is being read -/
def ZI (t s : zS) (v wl : Int) : Prop := LInv t ∧ SInv t (sd s v) ∧ WInv t s ∧ (0 ≤ wl ∧ wl ≤ 12) ∧ (∀ i, t 1 i = 0 ∨ t 1 i = 1) ∧ (∀ i, s 3 i = -1 ∧ s 4 i = 0 ∧ s 6 i = 0 ∧ s 9 i = 0 ∧ s 10 i = 0 ∧ s 11 i = 0)
def ZC (t s : zS) (v wl : Int) (kl kn : Nat) (w : xW) : Prop := RCl t kl w ∧ RCs t (sd s v) kn w ∧ w 3 6 = wl ∧ w 3 5 = -1 ∧ (∀ i, i < 20 → w (kl + 2) i = t 1 i ∧ w (kn + 3) i = -1 ∧ w (kn + 4) i = 0) ∧ (∀ i, nC t ≤ i → i < 20 → w (kn + 5) i = 0) ∧ (∀ i, i < 4 → w (kn + 7) i = 0) ∧ ∀ i, i < 6 → w (kn + 10) i = 0 ∧ w (kn + 11) i = 0 ∧ w (kn + 12) i = 0
/-- what reading may change -/
def PF (kl kn : Nat) (w w2 : xW) : Prop := (∀ a j, ¬ (a = 3 ∧ 2 ≤ j ∧ j ≤ 6) → ¬ (kl ≤ a ∧ a ≤ kl + 7) → ¬ (kn ≤ a ∧ a ≤ kn + 12) → w2 a j = w a j) ∧ w2 kn 17 = w kn 17
def cRes (r : zPR) (v : Int) (kl kn : Nat) (w2 : xW) : Prop := (r.1 = 0 ∧ ZC r.2.2.1 r.2.2.2.1 v r.2.2.2.2 kl kn w2 ∧ w2 3 2 = (r.2.1 : Int)) ∨ (r.1 ≠ 0 ∧ w2 3 4 = r.1 ∧ w2 3 5 = (r.2.1 : Int))
def cFin (r : zPR) (v : Int) (kl kn : Nat) (w : xW) (g : xG) (Q : xQ) : Prop := ∀ w2, PF kl kn w w2 → cRes r v kl kn w2 → Q (some (xi (if r.1 = 0 then 1 else 0))) g w2
section TKC
variable {g : xG} {w w0 : xW} {T : zT} {L : Nat} {t s : zS} {d : Nat} {Q : xQ} {lim : Nat × Nat} {kl kn : Nat} {v wl : Int}
theorem PF.refl : PF kl kn w w := ⟨fun _ _ _ _ _ => rfl, rfl⟩
theorem PF.trans {w2 w3 : xW} (h : PF kl kn w w2) (h2 : PF kl kn w2 w3) : PF kl kn w w3 := ⟨fun a j p q r => (h2.1 a j p q r).trans (h.1 a j p q r), h2.2.trans h.2⟩
theorem RF.pf {w2 : xW} (h : RF w w2) (hk : 4 < kn) : PF kl kn w w2 := ⟨fun a j p _ _ => h a j fun z => p ⟨z.1, by omega, by omega⟩, h kn 17 (by omega)⟩
theorem RN.pf {w2 : xW} (h : RN w w2) (hk : 4 < kn) : PF kl kn w w2 := h.rf.pf hk
theorem cFin.mono {r : zPR} {w1 : xW} (h : cFin r v kl kn w g Q) (f : PF kl kn w w1) : cFin r v kl kn w1 g Q := fun w2 f2 r2 => h w2 (f.trans f2) r2
theorem cFin.fl {k : Int} {a : Nat} {w2 : xW} (h : cFin (flt1 k a) v kl kn w g Q) (hk : k ≠ 0) (f : PF kl kn w w2) (e4 : w2 3 4 = k) (e5 : w2 3 5 = (a : Int)) : Q (some (xi 0)) g w2 := by
  have := h w2 f (Or.inr ⟨hk, e4, e5⟩)
  rw [if_neg (show ¬ (flt1 k a).1 = 0 from hk)] at this; exact this
theorem ZC.rn {w2 : xW} (h : ZC t s v wl kl kn w) (f : RN w w2) (hk : 4 < kl ∧ 4 < kn) : ZC t s v wl kl kn w2 := by
  obtain ⟨h1, h2, h3, h4, h5, h6, h7, h8⟩ := h
  have e : ∀ a j, 4 < a → w2 a j = w a j := fun a j q => f a j (by omega)
  obtain ⟨l1, l2, l3, l4, l5, l6, l7, l8, l9, l10, l11⟩ := h1
  refine ⟨⟨by rw [e _ _ (by omega), l1], by rw [e _ _ (by omega), l2], by rw [e _ _ (by omega), l3], by rw [e _ _ (by omega), l4], by rw [e _ _ (by omega), l5], by rw [e _ _ (by omega), l6], fun c hc d hd => ?_, fun i q => ?_, fun i q => ?_, fun i q => ?_, fun i q => ?_⟩, ⟨fun r i q p1 p2 => ?_, fun c hc => ?_⟩, (f 3 6 (by omega)).trans h3, (f 3 5 (by omega)).trans h4, fun i q => ?_, fun i q q2 => ?_, fun i q => ?_, fun i q => ?_⟩
  · rw [e _ _ (by omega)]; exact l7 c hc d hd
  · rw [e _ _ (by omega)]; exact l8 i q
  · rw [e _ _ (by omega)]; exact l9 i q
  · rw [e _ _ (by omega), e _ _ (by omega)]; exact l10 i q
  · rw [e _ _ (by omega), e _ _ (by omega)]; exact l11 i q
  · rw [e _ _ (by omega)]; exact h2.1 r i q p1 p2
  · rw [e _ _ (by omega)]; exact h2.2 c hc
  · rw [e _ _ (by omega), e _ _ (by omega), e _ _ (by omega)]; exact h5 i q
  · rw [e _ _ (by omega)]; exact h6 i q q2
  · rw [e _ _ (by omega)]; exact h7 i q
  · rw [e _ _ (by omega), e _ _ (by omega), e _ _ (by omega)]; exact h8 i q
theorem cl_pnum {lo hi : Int} {i : Nat} {K : Int → Nat → zPR} {Q2 : xQ} (R : RG g) (hT : TxI T L) (hx : Tx T L w) (hk : 4 < kn) (hiL : i ≤ L) (hp : w 3 2 = i) (hlo : 0 ≤ lo) (hF : cFin (pNum T L lo hi i K) v kl kn w g Q) (h1 : ∀ (x : Int) (j : Nat) (w1 : xW), lo ≤ x → x ≤ hi → i < j → j ≤ L → RN w w1 → w1 3 2 = j → w1 3 3 = ((sk T L i : Nat) : Int) → cFin (K x j) v kl kn w1 g Q → Q2 (some (xi x)) g w1) (h2 : ∀ w1 : xW, Q (some (xi 0)) g w1 → Q2 (some (xi (-1))) g w1) : cal (d + 2) nRd_readNumber [xr 3, xi lo, xi hi] g w Q2 := by
  refine cl_number R hT hx hiL hp hlo (fun z w1 f1 p1 q1 => ?_) (fun z w1 f1 k1 a1 => ?_)
  · obtain ⟨b1, b2, b3, b4, -⟩ := rnm_in hiL z
    rw [pNum_ok z] at hF
    exact h1 _ _ w1 b1 b2 b3 b4 f1 p1 q1 (hF.mono (f1.pf hk))
  · rw [pNum_fl z] at hF
    exact h2 w1 (hF.fl (by omega) (f1.pf hk) k1 a1)
/-- the end of a clause, where all that was read stands -/
theorem cl_pend {i : Nat} {t2 s2 : zS} {wl2 : Int} {Q2 : xQ} (R : RG g) (hT : TxI T L) (hx : Tx T L w) (hk : 4 < kl ∧ 4 < kn) (hiL : i ≤ L) (hp : w 3 2 = i) (hz : ZC t2 s2 v wl2 kl kn w) (hF : cFin (pEnd T L i t2 s2 wl2) v kl kn w g Q) (h1 : ∀ (x : Int) (w1 : xW), (x = 0 ∨ x = 1) → Q (some (xi x)) g w1 → Q2 (some (xi x)) g w1) : cal (d + 2) nRd_endClause [xr 3] g w Q2 := by
  unfold pEnd at hF
  refine cl_endC R hT hx hiL hp (fun z w1 f1 p1 => h1 1 w1 (Or.inr rfl) ?_) (fun z w1 f1 k1 a1 => h1 0 w1 (Or.inl rfl) ?_)
  · rw [if_pos z] at hF
    exact hF w1 (f1.pf hk.2) (Or.inl ⟨rfl, hz.rn f1 hk, p1⟩)
  · rw [if_neg z] at hF
    exact hF.fl (by decide) (f1.pf hk.2) k1 a1
theorem cl_pcell {i : Nat} {K : Nat → Nat → Nat → zPR} {Q2 : xQ} (R : RG g) (h7 : g.2 3 7 = kl) (hTG : TG g kl) (hT : TxI T L) (hx : Tx T L w) (hk : 4 < kl ∧ 4 < kn) (li : LInv t) (h0 : t 0 0 ≠ 0) (hl : RCl t kl w) (hiL : i ≤ L) (hp : w 3 2 = i) (hF : cFin (pCell T L t i K) v kl kn w g Q) (h1 : ∀ (c j a : Nat) (w1 : xW), c < nC t → i < j → j ≤ L → RN w w1 → w1 3 2 = j → w1 3 3 = (a : Int) → cFin (K c j a) v kl kn w1 g Q → Q2 (some (xi c)) g w1) (h2 : ∀ w1 : xW, Q (some (xi 0)) g w1 → Q2 (some (xi (-1))) g w1) : cal (d + 3) nRd_readCell [xr 3] g w Q2 := by
  refine eRd_readCell fun lim Q3 h3 => wRd_readCell_0 ?_
  have h1 := fun c j a w1 x1 x2 x3 x4 x5 x6 x7 => h3 _ _ _ rfl (h1 c j a w1 x1 x2 x3 x4 x5 x6 x7)
  have h2 := fun w1 x => h3 _ _ _ rfl (h2 w1 x)
  have e0 : w kl 0 = t 0 0 := hl.1
  have hW : 1 ≤ t 0 0 ∧ t 0 0 ≤ 6 ∧ 1 ≤ t 0 1 ∧ t 0 1 ≤ 6 := by rcases li.1 with q | q <;> omega
  simp only [R.1, h7, t_o hTG, e0, true_and]
  refine ⟨by constructor <;> omega, cl_pnum R hT hx hk.2 hiL hp (by decide) hF (fun x j w1 b1 b2 b3 b4 f1 p1 q1 hF1 => ⟨_, rfl, fun _ => ?_, fun z => by omega⟩) (fun w1 hq => ⟨_, rfl, fun z => absurd rfl z, fun _ => h2 w1 hq⟩)⟩
  have e1 : w1 kl 1 = t 0 1 := (f1 kl 1 (by omega)).trans hl.2.1
  simp only [R.1, h7, t_o hTG, e1, true_and]
  refine ⟨by constructor <;> omega, cl_pnum R hT (hx.rn f1) hk.2 b4 p1 (by decide) hF1 (fun y j2 w2 c1 c2 c3 c4 f2 p2 q2 hF2 => ⟨_, rfl, fun _ => ?_, fun z => by omega⟩) (fun w2 hq => ⟨_, rfl, fun z => absurd rfl z, fun _ => h2 w2 hq⟩)⟩
  simp only [R.1, h7, t_o hTG, true_and]
  have f12 := f1.trans f2
  have hl2 : RCl t kl w2 := by
    obtain ⟨l1, l2, l3, l4, l5, l6, l7, l8, l9, l10, l11⟩ := hl
    have e : ∀ a j, 4 < a → w2 a j = w a j := fun a j q => f12 a j (by omega)
    refine ⟨by rw [e _ _ (by omega), l1], by rw [e _ _ (by omega), l2], by rw [e _ _ (by omega), l3], by rw [e _ _ (by omega), l4], by rw [e _ _ (by omega), l5], by rw [e _ _ (by omega), l6], fun c hc d hd => ?_, fun i q => ?_, fun i q => ?_, fun i q => ?_, fun i q => ?_⟩
    · rw [e _ _ (by omega)]; exact l7 c hc d hd
    · rw [e _ _ (by omega)]; exact l8 i q
    · rw [e _ _ (by omega)]; exact l9 i q
    · rw [e _ _ (by omega), e _ _ (by omega)]; exact l10 i q
    · rw [e _ _ (by omega), e _ _ (by omega)]; exact l11 i q
  have hxy : (0 ≤ x ∧ x < t 0 0) ∧ 0 ≤ y ∧ y < t 0 1 := by omega
  have hb := cAt_b li hxy
  have ec : cAt t x y = ((y * t 0 0 + x).toNat : Int) := by unfold cAt; rw [if_pos hxy]; omega
  refine cl_cellAt hTG hl2 li ⟨_, rfl, ?_⟩
  rw [ec]
  exact h1 (y * t 0 0 + x).toNat j2 (sk T L j) w2 (by omega) (by omega) c4 f12 p2 q2 hF2
end TKC
