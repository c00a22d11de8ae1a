/-! ===== the reference takes numbers, cells, ends ===== -/
def ZM (t s : zS) (wl : Int) (w : xW) : Prop := w 193 33 = t 0 0 ∧ w 193 34 = t 0 1 ∧ (t 0 0 ≠ 0 → ∀ i, s 0 i = w 193 35) ∧ w 193 37 = wl ∧ w 193 39 = t 0 3 ∧ w 193 40 = t 0 2 ∧ w 193 43 = t 0 4 ∧ w 193 45 = t 0 5 ∧ (∀ i, i < 20 → w 211 i = s 1 i ∧ w 211 (20 + i) = s 2 i ∧ w 212 i = t 1 i ∧ w 214 i = (if hsU t i (nS t) = true then 1 else 0)) ∧ (∀ k, k < nS t → w 213 k = t 3 k ∧ w 213 (4 + k) = t 4 k ∧ w 213 (8 + k) = s 5 k) ∧ (∀ h : Nat, (h : Int) < t 0 4 → w 215 h = t 2 h) ∧ ∀ p, p < nP t → w 216 p = s 7 p ∧ w 216 (6 + p) = s 8 p ∧ w 216 (12 + p) = t 5 p ∧ w 216 (18 + p) = t 6 p
/-- what reading may change in the reference -/
def MP (w w2 : xW) : Prop := ∀ a j, ¬ (a = 193 ∧ 27 ≤ j ∧ j ≤ 47) → ¬ (211 ≤ a ∧ a ≤ 216) → w2 a j = w a j
/-- token, fault, what was taken, which cell -/
def NT (w w2 : xW) : Prop := ∀ a j, ¬ (a = 193 ∧ ((27 ≤ j ∧ j ≤ 32) ∨ j = 47)) → w2 a j = w a j
def mRes (T : zT) (L : Nat) (r : zPR) (w2 : xW) : Prop := (r.1 = 0 ∧ ZM r.2.2.1 r.2.2.2.1 r.2.2.2.2 w2 ∧ LK T L r.2.1 w2) ∨ (r.1 ≠ 0 ∧ w2 193 31 = r.1 ∧ w2 193 27 = (r.2.1 : Int))
def mFin (T : zT) (L : Nat) (r : zPR) (w : xW) (g : xG) (Q : xQ) : Prop := ∀ w2, MP w w2 → mRes T L r w2 → Q (some (xi (if r.1 = 0 then 1 else 0))) g w2
section MTB
variable {g : xG} {w w0 : xW} {T : zT} {L : Nat} {t s : zS} {d : Nat} {Q : xQ} {lim : Nat × Nat} {wl : Int} {i : Nat}
theorem MP.refl : MP w w := fun _ _ _ _ => rfl
theorem MP.trans {w2 w3 : xW} (h : MP w w2) (h2 : MP w2 w3) : MP w w3 := fun a j p q => (h2 a j p q).trans (h a j p q)
theorem NT.trans {w2 w3 : xW} (h : NT w w2) (h2 : NT w2 w3) : NT w w3 := fun a j q => (h2 a j q).trans (h a j q)
theorem NT.refl : NT w w := fun _ _ _ => rfl
theorem NK.nt {w2 : xW} (h : NK w w2) : NT w w2 := fun a j q => h a j (by omega)
theorem NT.mp {w2 : xW} (h : NT w w2) : MP w w2 := fun a j p _ => h a j (by omega)
theorem NT.up {j : Nat} {x : Int} (hj : (27 ≤ j ∧ j ≤ 32) ∨ j = 47) : NT w (xup w 193 j x) := fun a i q => by
  by_cases z : a = 193
  · subst z; exact xup_k (fun u => q ⟨rfl, by omega⟩)
  · exact xup_a z
theorem TxM.mp {w2 : xW} (h : TxM T L w) (f : MP w w2) : TxM T L w2 := ⟨(f 193 25 (by omega) (by omega)).trans h.1, fun j hj => (f 210 j (by omega) (by omega)).trans (h.2 j hj)⟩
theorem LK.of {w2 : xW} (h : LK T L i w) (e : ∀ j, 27 ≤ j → j ≤ 30 → w2 193 j = w 193 j) : LK T L i w2 := ⟨(e 27 (by decide) (by decide)).trans h.1, (e 28 (by decide) (by decide)).trans h.2.1, (e 29 (by decide) (by decide)).trans h.2.2.1, (e 30 (by decide) (by decide)).trans h.2.2.2⟩
theorem mFin.mono {r : zPR} {w1 : xW} (h : mFin T L r w g Q) (f : MP w w1) : mFin T L r w1 g Q := fun w2 f2 r2 => h w2 (f.trans f2) r2
theorem mFin.fl {k : Int} {a : Nat} {w2 : xW} (h : mFin T L (flt1 k a) w g Q) (hk : k ≠ 0) (f : MP w w2) (e1 : w2 193 31 = k) (e2 : w2 193 27 = (a : Int)) : Q (some (xi 0)) g w2 := by
  have := h w2 f (Or.inr ⟨hk, e1, e2⟩)
  rw [if_neg (show ¬ (flt1 k a).1 = 0 from hk)] at this; exact this
theorem ZM.of {w2 : xW} (h : ZM t s wl w) (f : NT w w2) : ZM t s wl w2 := by
  obtain ⟨h1, h2, h3, h4, h5, h6, h7, h8, h9, h10, h11, h12⟩ := h
  refine ⟨by rw [f _ _ (by omega), h1], by rw [f _ _ (by omega), h2], fun q i => by rw [f _ _ (by omega)]; exact h3 q i, by rw [f _ _ (by omega), h4], by rw [f _ _ (by omega), h5], by rw [f _ _ (by omega), h6], by rw [f _ _ (by omega), h7], by rw [f _ _ (by omega), h8], fun i q => ?_, fun k q => ?_, fun k q => ?_, fun p q => ?_⟩
  · rw [f _ _ (by omega), f _ _ (by omega), f _ _ (by omega), f _ _ (by omega)]; exact h9 i q
  · rw [f _ _ (by omega), f _ _ (by omega), f _ _ (by omega)]; exact h10 k q
  · rw [f _ _ (by omega)]; exact h11 k q
  · rw [f _ _ (by omega), f _ _ (by omega), f _ _ (by omega), f _ _ (by omega)]; exact h12 p q
theorem mo_faults {k : Int} (hM : MG g) (hQ : ∀ w2, NT w w2 → w2 193 31 = k → (∀ j, j ≠ 31 → w2 193 j = w 193 j) → Q (some (xi 0)) g w2) : cal (d + 1) nMo_faults [xr 193, xi k] g w Q := by
  refine eMo_faults fun lim Q2 h2 => wMo_faults_0 ?_
  simp only [m_o hM, true_and]
  exact ⟨Or.inl trivial, h2 _ _ _ rfl (hQ _ (NT.up (by decide)) xup_s fun j hj => xup_k hj)⟩
theorem tkV_1 {a : Nat} (hT : TxI T L) : tkV T L a = 1 ↔ a < L ∧ dgt T a := by
  unfold tkV
  by_cases q : a < L
  · rw [if_pos q]
    by_cases q2 : dgt T a
    · rw [if_pos q2]; exact ⟨fun _ => ⟨q, q2⟩, fun _ => rfl⟩
    · rw [if_neg q2]
      by_cases q3 : T a < 2
      · rw [if_pos q3]; exact ⟨fun z => absurd z (by decide), fun z => absurd z.2 q2⟩
      · rw [if_neg q3]; exact ⟨fun z => by omega, fun z => absurd z.2 q2⟩
  · rw [if_neg q]; exact ⟨fun z => absurd z (by decide), fun z => absurd z.1 q⟩
/-- a number is taken -/
theorem mo_ptakes {lo hi : Int} {K : Int → Nat → zPR} {Q2 : xQ} (hM : MG g) (hT : TxI T L) (hx : TxM T L w) (hiL : i ≤ L) (hl : LK T L i w) (hhi : hi < 1000000) (hF : mFin T L (pNum T L lo hi i K) w g Q) (h1 : ∀ (x : Int) (j : Nat) (w1 : xW), lo ≤ x → x ≤ hi → 0 ≤ x → i < j → j ≤ L → NT w w1 → LK T L j w1 → w1 193 32 = x → mFin T L (K x j) w1 g Q → Q2 (some (xi 1)) g w1) (h2 : ∀ w1 : xW, Q (some (xi 0)) g w1 → Q2 (some (xi 0)) g w1) : cal (d + 5) nMo_takes [xr 193, xi lo, xi hi] g w Q2 := by
  refine eMo_takes fun lim Q3 h3 => wMo_takes_0 ?_
  have h1 := fun x j w1 x1 x2 x3 x4 x5 x6 x7 x8 x9 => h3 _ _ _ rfl (h1 x j w1 x1 x2 x3 x4 x5 x6 x7 x8 x9)
  have h2 := fun w1 x => h3 _ _ _ rfl (h2 w1 x)
  obtain ⟨l1, l2, l3, l4⟩ := id hl
  have b := sk_b (T := T) hiL
  have fb := fg_b (T := T) b.2
  have fail : ∀ k : Int, k ≠ 0 → mFin T L (flt1 k (sk T L i)) w g Q → ∀ d2 w1, w1 = w → cal (d2 + 1) nMo_faults [xr 193, xi k] g w1 (fun r g4 w4 => ∃ v4 : Int, r = some (xi v4) ∧ ((v4 : Int) = 0 ∨ (v4 : Int) = 1) ∧ Q3 (some (xi v4)) g4 w4) := fun k hk hF d2 w1 e => by
    subst e
    refine mo_faults hM fun w2 f2 k2 o2 => ⟨_, rfl, Or.inl rfl, h2 w2 (hF.fl hk f2.mp k2 ?_)⟩
    rw [o2 27 (by decide), l1]
  simp only [m_o hM, l3, l4, true_and]
  refine ⟨fun z => ?_, fun z => ?_⟩
  · have z := (tkV_1 hT).1 z
    have f1 := fg_1 z
    have en : tkN T L (sk T L i) = if fg T L (sk T L i) ≤ 3 then vlU T (sk T L i) (fg T L (sk T L i)) else 1000000 := by unfold tkN; exact if_pos z
    have el : tkL T L (sk T L i) = fg T L (sk T L i) := by unfold tkL; rw [if_pos z.1, if_pos z.2]
    have hd : ∀ j, j < fg T L (sk T L i) → 48 ≤ T (sk T L i + j) ∧ T (sk T L i + j) ≤ 57 := fun j hj => fg_d b.2 hj
    refine mo_in ⟨_, rfl, fun y => ?_, fun y => ?_⟩
    · have y := ifv.2 y
      have h3' : fg T L (sk T L i) ≤ 3 := by
        refine Classical.byContradiction fun u => ?_
        rw [en, if_neg u] at y; omega
      rw [en, if_pos h3'] at y
      have vb := vlU_b (T := T) (i := sk T L i) (fg T L (sk T L i)) hd h3'
      have er : rnm T L lo hi i = (vlU T (sk T L i) (fg T L (sk T L i)), sk T L i + fg T L (sk T L i)) := by
        unfold rnm; rw [if_neg (by omega), if_neg (by omega)]
      have hF : mFin T L (K (vlU T (sk T L i) (fg T L (sk T L i))) (sk T L i + fg T L (sk T L i))) w g Q := by
        have := hF
        unfold pNum at this
        rw [er] at this
        rw [if_neg (show ¬ vlU T (sk T L i) (fg T L (sk T L i)) < 0 by omega)] at this
        exact this
      simp only [m_o hM, l4, true_and]
      have f1 : NT w (xup w 193 32 (tkN T L (sk T L i))) := NT.up (by decide)
      have e32 : xup w 193 32 (tkN T L (sk T L i)) 193 32 = tkN T L (sk T L i) := xup_s
      have k1 : LK T L i (xup w 193 32 (tkN T L (sk T L i))) := hl.of fun j a b => xup_k (by omega)
      generalize xup w 193 32 (tkN T L (sk T L i)) = w1 at f1 e32 k1
      refine mo_goOn hM hT (hx.mp f1.mp) hiL k1 fun w2 f2 k2 => ⟨rfl, Or.inr trivial, ?_⟩
      rw [el] at k2
      refine h1 _ _ w2 y.1 y.2 (by omega) (by omega) fb (f1.trans f2.nt) k2 ?_ (hF.mono (f1.trans f2.nt).mp)
      rw [f2 193 32 (by omega), e32, en, if_pos h3']
    · have y := ifv.1 y
      have er : rnm T L lo hi i = (-2, sk T L i) := by
        unfold rnm
        rw [if_neg (by omega), if_pos]
        by_cases u : fg T L (sk T L i) ≤ 3
        · rw [en, if_pos u] at y; omega
        · omega
      have hF : mFin T L (flt1 2 (sk T L i)) w g Q := by
        have := hF
        unfold pNum at this
        rw [er] at this; exact this
      simp only [m_o hM, true_and]
      exact fail 2 (by decide) hF _ w rfl
  · have z : ¬ (sk T L i < L ∧ dgt T (sk T L i)) := fun y => z ((tkV_1 hT).2 y)
    have er : rnm T L lo hi i = (-1, sk T L i) := by unfold rnm; rw [if_pos (fg_0 z)]
    have hF : mFin T L (flt1 1 (sk T L i)) w g Q := by
      have := hF
      unfold pNum at this
      rw [er] at this; exact this
    exact fail 1 (by decide) hF _ w rfl
/-- the end of a clause -/
theorem mo_pstops {t2 s2 : zS} {wl2 : Int} {Q2 : xQ} (hM : MG g) (hT : TxI T L) (hx : TxM T L w) (hiL : i ≤ L) (hl : LK T L i w) (hz : ZM t2 s2 wl2 w) (hF : mFin T L (pEnd T L i t2 s2 wl2) w g Q) (h1 : ∀ (x : Int) (w1 : xW), (x = 0 ∨ x = 1) → Q (some (xi x)) g w1 → Q2 (some (xi x)) g w1) : cal (d + 5) nMo_stops [xr 193] g w Q2 := by
  refine eMo_stops fun lim Q3 h3 => wMo_stops_0 ?_
  have h1 := fun x w1 a b => h3 _ _ _ rfl (h1 x w1 a b)
  obtain ⟨l1, l2, l3, l4⟩ := id hl
  have b := sk_b (T := T) hiL
  have e59 : tkV T L (sk T L i) = 59 ↔ (sk T L i < L ∧ T (sk T L i) = 59) := by
    unfold tkV
    by_cases q : sk T L i < L
    · rw [if_pos q]
      by_cases q2 : dgt T (sk T L i)
      · rw [if_pos q2]; exact ⟨fun z => absurd z (by decide), fun z => by omega⟩
      · rw [if_neg q2]
        by_cases q3 : T (sk T L i) < 2
        · rw [if_pos q3]; exact ⟨fun z => absurd z (by decide), fun z => by omega⟩
        · rw [if_neg q3]; exact ⟨fun z => ⟨q, z⟩, fun z => z.2⟩
    · rw [if_neg q]; exact ⟨fun z => absurd z (by decide), fun z => absurd z.1 q⟩
  unfold pEnd at hF
  simp only [m_o hM, l3, true_and]
  refine ⟨fun z => ?_, fun z => ?_⟩
  · have z := e59.1 z
    rw [if_pos z] at hF
    have el : tkL T L (sk T L i) = 1 := by unfold tkL; rw [if_pos z.1, if_neg (fun u => by omega)]
    refine mo_goOn hM hT hx hiL hl fun w1 f1 k1 => ⟨rfl, Or.inr trivial, h1 1 w1 (Or.inr rfl) ?_⟩
    rw [el] at k1
    exact hF w1 f1.nt.mp (Or.inl ⟨rfl, hz.of f1.nt, k1⟩)
  · rw [if_neg (fun u => z (e59.2 u))] at hF
    refine mo_faults hM fun w1 f1 k1 o1 => ⟨_, rfl, Or.inl rfl, h1 0 w1 (Or.inl rfl) (hF.fl (by decide) f1.mp k1 ?_)⟩
    rw [o1 27 (by decide), l1]
/-- x is taken, y is seen -/
theorem mo_takesX {K : Int → Nat → zPR} {Q2 : xQ} (hM : MG g) (hT : TxI T L) (hx : TxM T L w) (hiL : i ≤ L) (hl : LK T L i w) (hz : ZM t s wl w) (li : LInv t) (hF : mFin T L (pNum T L 0 (t 0 0 - 1) i K) w g Q) (h1 : ∀ (x : Int) (j : Nat) (w1 : xW), 0 ≤ x → x ≤ t 0 0 - 1 → i < j → j ≤ L → NT w w1 → LK T L j w1 → w1 193 32 = x → mFin T L (K x j) w1 g Q → Q2 (some (xi 1)) g w1) (h2 : ∀ w1 : xW, Q (some (xi 0)) g w1 → Q2 (some (xi 0)) g w1) : cal (d + 6) nMo_takesX [xr 193] g w Q2 := by
  refine eMo_takesX fun lim Q3 h3 => wMo_takesX_0 ?_
  have hW : 0 ≤ t 0 0 ∧ t 0 0 ≤ 6 := by rcases li.1 with q | q <;> omega
  have e33 : w 193 33 = t 0 0 := hz.1
  simp only [m_o hM, e33, true_and]
  refine ⟨by constructor <;> omega, mo_ptakes hM hT hx hiL hl (by omega) hF (fun x j w1 x1 x2 x3 x4 x5 x6 x7 x8 x9 => ⟨_, rfl, Or.inr rfl, h3 _ _ _ rfl (h1 x j w1 x1 x2 x4 x5 x6 x7 x8 x9)⟩) fun w1 hq => ⟨_, rfl, Or.inl rfl, h3 _ _ _ rfl (h2 w1 hq)⟩⟩
theorem mo_seesY {K : Nat → Nat → Nat → zPR} {Q2 : xQ} {x : Int} (hM : MG g) (hT : TxI T L) (hx : TxM T L w) (hiL : i ≤ L) (hl : LK T L i w) (hz : ZM t s wl w) (li : LInv t) (hxx : 0 ≤ x ∧ x ≤ t 0 0 - 1) (hF : mFin T L (pNum T L 0 (t 0 1 - 1) i fun y j2 => K (y * t 0 0 + x).toNat j2 (sk T L i)) w g Q) (h1 : ∀ (c : Nat) (w1 : xW), c < nC t → i < sk T L i + tkL T L (sk T L i) → sk T L i + tkL T L (sk T L i) ≤ L → NT w w1 → LK T L i w1 → w1 193 47 = (c : Int) → mFin T L (K c (sk T L i + tkL T L (sk T L i)) (sk T L i)) w1 g Q → Q2 (some (xi 1)) g w1) (h2 : ∀ w1 : xW, Q (some (xi 0)) g w1 → Q2 (some (xi 0)) g w1) : cal (d + 2) nMo_seesY [xr 193, xi x] g w Q2 := by
  refine eMo_seesY fun lim Q3 h3 => wMo_seesY_0 ?_
  have h1 := fun c w1 x1 x2 x3 x4 x5 x6 x7 => h3 _ _ _ rfl (h1 c w1 x1 x2 x3 x4 x5 x6 x7)
  have h2 := fun w1 x => h3 _ _ _ rfl (h2 w1 x)
  obtain ⟨l1, l2, l3, l4⟩ := id hl
  have hW : (0 ≤ t 0 0 ∧ t 0 0 ≤ 6) ∧ 0 ≤ t 0 1 ∧ t 0 1 ≤ 6 := by rcases li.1 with q | q <;> omega
  have e33 : w 193 33 = t 0 0 := hz.1
  have e34 : w 193 34 = t 0 1 := hz.2.1
  have b := sk_b (T := T) hiL
  have fb := fg_b (T := T) b.2
  have fail : ∀ k : Int, k ≠ 0 → mFin T L (flt1 k (sk T L i)) w g Q → ∀ d2, cal (d2 + 1) nMo_faults [xr 193, xi k] g w (fun r g4 w4 => ∃ v4 : Int, r = some (xi v4) ∧ ((v4 : Int) = 0 ∨ (v4 : Int) = 1) ∧ Q3 (some (xi v4)) g4 w4) := fun k hk hF d2 => by
    refine mo_faults hM fun w2 f2 k2 o2 => ⟨_, rfl, Or.inl rfl, h2 w2 (hF.fl hk f2.mp k2 ?_)⟩
    rw [o2 27 (by decide), l1]
  simp only [m_o hM, l3, l4, e34, true_and]
  refine ⟨fun z => ⟨by constructor <;> omega, ?_⟩, fun z => ?_⟩
  · have z := (tkV_1 hT).1 z
    have f1 := fg_1 z
    have en : tkN T L (sk T L i) = if fg T L (sk T L i) ≤ 3 then vlU T (sk T L i) (fg T L (sk T L i)) else 1000000 := by unfold tkN; exact if_pos z
    have el : tkL T L (sk T L i) = fg T L (sk T L i) := by unfold tkL; rw [if_pos z.1, if_pos z.2]
    refine mo_in ⟨_, rfl, fun y => ?_, fun y => ?_⟩
    · have y := ifv.2 y
      have h3' : fg T L (sk T L i) ≤ 3 := by
        refine Classical.byContradiction fun u => ?_
        rw [en, if_neg u] at y; omega
      have en : tkN T L (sk T L i) = vlU T (sk T L i) (fg T L (sk T L i)) := en.trans (if_pos h3')
      rw [en] at y
      have er : rnm T L 0 (t 0 1 - 1) i = (vlU T (sk T L i) (fg T L (sk T L i)), sk T L i + fg T L (sk T L i)) := by
        unfold rnm; rw [if_neg (by omega), if_neg (by omega)]
      have hF : mFin T L (K (vlU T (sk T L i) (fg T L (sk T L i)) * t 0 0 + x).toNat (sk T L i + fg T L (sk T L i)) (sk T L i)) w g Q := by
        have := hF
        unfold pNum at this
        rw [er] at this
        rw [if_neg (show ¬ vlU T (sk T L i) (fg T L (sk T L i)) < 0 by omega)] at this
        exact this
      have hb := cAt_b (x := x) (y := vlU T (sk T L i) (fg T L (sk T L i))) li (by omega)
      simp only [m_o hM, e33, l4, en, Int.mul_comm (t 0 0), true_and]
      refine ⟨by constructor <;> omega, by constructor <;> omega, Or.inr trivial, ?_⟩
      refine h1 (vlU T (sk T L i) (fg T L (sk T L i)) * t 0 0 + x).toNat _ (by omega) (by omega) (by omega) (NT.up (by decide)) (hl.of fun j a b => xup_k (by omega)) ?_ ?_
      · rw [xup_s]; omega
      · rw [el]; exact hF.mono (NT.up (by decide)).mp
    · have y := ifv.1 y
      have er : rnm T L 0 (t 0 1 - 1) i = (-2, sk T L i) := by
        unfold rnm
        rw [if_neg (by omega), if_pos]
        by_cases u : fg T L (sk T L i) ≤ 3
        · rw [en, if_pos u] at y; omega
        · omega
      have hF : mFin T L (flt1 2 (sk T L i)) w g Q := by
        have := hF
        unfold pNum at this
        rw [er] at this; exact this
      simp only [m_o hM, true_and]
      exact fail 2 (by decide) hF _
  · have z : ¬ (sk T L i < L ∧ dgt T (sk T L i)) := fun y => z ((tkV_1 hT).2 y)
    have er : rnm T L 0 (t 0 1 - 1) i = (-1, sk T L i) := by unfold rnm; rw [if_pos (fg_0 z)]
    have hF : mFin T L (flt1 1 (sk T L i)) w g Q := by
      have := hF
      unfold pNum at this
      rw [er] at this; exact this
    exact fail 1 (by decide) hF _
end MTB
