/-! ===== the class reads letters, numbers, ends ===== -/
def Tx (T : zT) (L : Nat) (w : xW) : Prop := w 3 1 = L ∧ ∀ j, j < L → w 4 j = T j
def TxI (T : zT) (L : Nat) : Prop := L ≤ 260 ∧ ∀ j, j < L → 0 ≤ T j ∧ T j ≤ 255
/-- only the place (and where a number began) has changed -/
def RN (w w2 : xW) : Prop := ∀ a j, ¬ (a = 3 ∧ (j = 2 ∨ j = 3)) → w2 a j = w a j
/-- kind and place of a fault too -/
def RF (w w2 : xW) : Prop := ∀ a j, ¬ (a = 3 ∧ (j = 2 ∨ j = 3 ∨ j = 4 ∨ j = 5)) → w2 a j = w a j
section TKB
variable {g : xG} {w w0 : xW} {T : zT} {L : Nat} {t s : zS} {d : Nat} {Q : xQ} {lim : Nat × Nat} {kt : Nat}
theorem RN.refl : RN w w := fun _ _ _ => rfl
theorem RN.trans {w2 w3 : xW} (h : RN w w2) (h2 : RN w2 w3) : RN w w3 := fun a j q => (h2 a j q).trans (h a j q)
theorem RN.rf {w2 : xW} (h : RN w w2) : RF w w2 := fun a j q => h a j fun z => q ⟨z.1, z.2.elim (fun y => Or.inl y) fun y => Or.inr (Or.inl y)⟩
theorem RF.trans {w2 w3 : xW} (h : RF w w2) (h2 : RF w2 w3) : RF w w3 := fun a j q => (h2 a j q).trans (h a j q)
theorem RN.up {v : Int} : RN w (xup w 3 2 v) := fun a j q => by
  by_cases z : a = 3
  · subst z; exact xup_k (fun y => q ⟨rfl, Or.inl y⟩)
  · exact xup_a z
theorem RN.up3 {v : Int} : RN w (xup w 3 3 v) := fun a j q => by
  by_cases z : a = 3
  · subst z; exact xup_k (fun y => q ⟨rfl, Or.inr y⟩)
  · exact xup_a z
theorem Tx.rn {w2 : xW} (h : Tx T L w) (f : RN w w2) : Tx T L w2 := ⟨(f 3 1 (by omega)).trans h.1, fun j hj => (f 4 j (by omega)).trans (h.2 j hj)⟩
theorem Tx.rf {w2 : xW} (h : Tx T L w) (f : RF w w2) : Tx T L w2 := ⟨(f 3 1 (by omega)).trans h.1, fun j hj => (f 4 j (by omega)).trans (h.2 j hj)⟩
theorem r_rr (R : RG g) (i : Int) : xAr g 4 i ↔ (0 ≤ i ∧ i < 260) := xAr_1 R.2.2 i
theorem cl_skip1 (R : RG g) (hT : TxI T L) : ∀ (n i : Nat) (w : xW), i + n = L → Tx T L w → w 3 2 = i → (∀ w2 : xW, (∀ a j, ¬ (a = 3 ∧ j = 2) → w2 a j = w a j) → w2 3 2 = ((skU T L n i : Nat) : Int) → Q none g w2) → aRd_skipBlanks d lim Q 0 [xr 3] [] g w
  | 0, i, w, hi, hx, hp, hk => by
    have e1 : w 3 1 = L := hx.1
    refine wRd_skipBlanks_0 ?_
    simp only [R.1, e1, hp, true_and]
    exact ⟨fun _ => hk w (fun _ _ _ => rfl) hp, fun h => by omega⟩
  | n + 1, i, w, hi, hx, hp, hk => by
    have e1 : w 3 1 = L := hx.1
    have e2 : w 4 (Int.toNat (i : Int)) = T i := by rw [Int.toNat_natCast]; exact hx.2 i (by omega)
    have hL := hT.1
    refine wRd_skipBlanks_0 ?_
    simp only [R.1, R.2.1, r_rr R, e1, hp, e2, true_and]
    refine ⟨fun h => by omega, fun _ => ⟨by constructor <;> omega, fun q => hk w (fun _ _ _ => rfl) ?_, fun q => ⟨by constructor <;> omega, ?_⟩⟩⟩
    · rw [hp, skU, if_neg (fun z => q z.2)]
    · rw [show ((i : Int) + 1) = ((i + 1 : Nat) : Int) by omega]
      refine cl_skip1 R hT n (i + 1) _ (by omega) (hx.rn RN.up) xup_s fun w2 f2 p2 => hk w2 (fun a j y => ?_) ?_
      · rw [f2 a j y]
        by_cases z : a = 3
        · subst z; exact xup_k (fun u => y ⟨rfl, u⟩)
        · exact xup_a z
      · rw [p2, skU, if_pos ⟨by omega, q⟩]
theorem cl_skip (R : RG g) (hT : TxI T L) (hx : Tx T L w) {i : Nat} (hi : i ≤ L) (hp : w 3 2 = i) (hQ : ∀ w2 : xW, (∀ a j, ¬ (a = 3 ∧ j = 2) → w2 a j = w a j) → w2 3 2 = ((sk T L i : Nat) : Int) → Q none g w2) : cal (d + 1) nRd_skipBlanks [xr 3] g w Q := by
  refine eRd_skipBlanks fun lim Q2 h2 => ?_
  exact cl_skip1 R hT (L - i) i w (by omega) hx hp fun w2 a b => h2 _ g w2 rfl (hQ w2 a b)
theorem cl_fail (R : RG g) {k a : Int} (hQ : ∀ w2 : xW, RF w w2 → w2 3 4 = k → w2 3 5 = a → Q (some (xi 0)) g w2) : cal (d + 1) nRd_fail [xr 3, xi k, xi a] g w Q := by
  refine eRd_fail fun lim Q2 h2 => wRd_fail_0 ?_
  simp only [R.1, true_and]
  refine wRd_fail_5 ?_
  simp only [R.1, true_and]
  refine ⟨Or.inl trivial, h2 _ _ _ rfl (hQ _ (fun b j q => ?_) ?_ xup_s)⟩
  · by_cases z : b = 3
    · subst z
      rw [xup_k (fun y => q ⟨rfl, by omega⟩), xup_k (fun y => q ⟨rfl, by omega⟩)]
    · rw [xup_a z, xup_a z]
  · rw [xup_k (by decide), xup_s]
/-- the class's numbers: four figures are too many -/
def cvU (T : zT) (i : Nat) : Nat → Int
  | 0 => 0
  | n + 1 => min 1000 (cvU T i n * 10 + T (i + n) - 48)
theorem cvU_b {i : Nat} : ∀ n, (∀ j, j < n → 48 ≤ T (i + j) ∧ T (i + j) ≤ 57) → 0 ≤ cvU T i n ∧ cvU T i n ≤ 1000
  | 0, _ => by unfold cvU; omega
  | n + 1, h => by
    have ih := cvU_b (i := i) n (fun j hj => h j (by omega))
    have := h n (by omega)
    unfold cvU
    omega
theorem cvU_v {i : Nat} : ∀ n, (∀ j, j < n → 48 ≤ T (i + j) ∧ T (i + j) ≤ 57) → n ≤ 3 → cvU T i n = vlU T i n
  | 0, _, _ => rfl
  | n + 1, h, hn => by
    have ih := cvU_v (i := i) n (fun j hj => h j (by omega)) (by omega)
    have b := vlU_b (i := i) (n + 1) h hn
    have e1 : cvU T i (n + 1) = min 1000 (cvU T i n * 10 + T (i + n) - 48) := rfl
    have e2 : vlU T i (n + 1) = 10 * vlU T i n + T (i + n) - 48 := rfl
    rw [e2] at b
    rw [e1, e2, ih]
    omega
theorem cl_num14 (R : RG g) (hT : TxI T L) {lo hi : Int} {a : Nat} (hk : ∀ w2 : xW, RN w0 w2 → w2 3 2 = ((a + fg T L a : Nat) : Int) → w2 3 3 = w0 3 3 → aRd_readNumber d lim Q 90 [xr 3, xi lo, xi hi, xi (cvU T a (fg T L a)), none] [] g w2) : ∀ (n m : Nat) (w : xW), a + m + n = L → m + fgU T L n (a + m) = fg T L a → (∀ j, j < m → 48 ≤ T (a + j) ∧ T (a + j) ≤ 57) → Tx T L w → RN w0 w → w 3 3 = w0 3 3 → w 3 2 = ((a + m : Nat) : Int) → aRd_readNumber d lim Q 14 [xr 3, xi lo, xi hi, xi (cvU T a m), none] [] g w
  | 0, m, w, hn, he, hd, hx, hf, h3, hp => by
    have e1 : w 3 1 = L := hx.1
    have em : m = fg T L a := by unfold fgU at he; omega
    refine wRd_readNumber_14 ?_
    simp only [R.1, e1, hp, true_and]
    refine ⟨fun _ => ?_, fun h => by omega⟩
    rw [em] at hp ⊢
    exact hk w hf hp h3
  | n + 1, m, w, hn, he, hd, hx, hf, h3, hp => by
    have e1 : w 3 1 = L := hx.1
    have e2 : w 4 (Int.toNat ((a + m : Nat) : Int)) = T (a + m) := by rw [Int.toNat_natCast]; exact hx.2 _ (by omega)
    have hL := hT.1
    have hTb := hT.2 (a + m) (by omega)
    have hb := cvU_b (T := T) (i := a) m hd
    have stop : ¬ (48 ≤ T (a + m) ∧ T (a + m) ≤ 57) → aRd_readNumber d lim Q 90 [xr 3, xi lo, xi hi, xi (cvU T a m), none] [] g w := fun z => by
      have em : m = fg T L a := by
        unfold fgU at he
        rw [if_neg (fun y => z y.2)] at he
        omega
      rw [em] at hp ⊢
      exact hk w hf hp h3
    refine wRd_readNumber_14 ?_
    simp only [R.1, R.2.1, r_rr R, e1, hp, e2, true_and]
    refine ⟨fun h => by omega, fun _ => ⟨by constructor <;> omega, fun q => stop (by omega), fun q => ⟨by constructor <;> omega, fun q2 => stop (by omega), fun q2 => ⟨by constructor <;> omega, by constructor <;> omega, by constructor <;> omega, by constructor <;> omega, by constructor <;> omega, ?_⟩⟩⟩⟩
    rw [show (((a + m : Nat) : Int) + 1) = ((a + (m + 1) : Nat) : Int) by omega]
    refine cl_num14 R hT hk n (m + 1) _ (by omega) ?_ (fun j hj => ?_) (hx.rn RN.up) (hf.trans RN.up) ?_ xup_s
    · unfold fgU at he
      rw [if_pos ⟨by omega, q, q2⟩] at he
      rw [show a + (m + 1) = a + m + 1 by omega]; omega
    · by_cases z : j = m
      · subst z; exact ⟨q, q2⟩
      · exact hd j (by omega)
    · rw [xup_k (by decide)]; exact h3
theorem cl_number (R : RG g) (hT : TxI T L) (hx : Tx T L w) {i : Nat} (hiL : i ≤ L) (hp : w 3 2 = i) {lo hi : Int} (hlo : 0 ≤ lo) (hQ1 : 0 ≤ (rnm T L lo hi i).1 → ∀ w2 : xW, RN w w2 → w2 3 2 = (((rnm T L lo hi i).2 : Nat) : Int) → w2 3 3 = ((sk T L i : Nat) : Int) → Q (some (xi (rnm T L lo hi i).1)) g w2) (hQ2 : (rnm T L lo hi i).1 < 0 → ∀ w2 : xW, RF w w2 → w2 3 4 = -(rnm T L lo hi i).1 → w2 3 5 = (((rnm T L lo hi i).2 : Nat) : Int) → Q (some (xi (-1))) g w2) : cal (d + 2) nRd_readNumber [xr 3, xi lo, xi hi] g w Q := by
  refine eRd_readNumber fun lim Q2 h2 => wRd_readNumber_0 ?_
  have hQ1 := fun z w2 a b c => h2 _ g w2 rfl (hQ1 z w2 a b c)
  have hQ2 := fun z w2 a b c => h2 _ g w2 rfl (hQ2 z w2 a b c)
  have b := sk_b (T := T) hiL
  have fb := fg_b (T := T) b.2
  have hL := hT.1
  simp only [R.1, true_and]
  refine cl_skip R hT hx hiL hp fun w1 f1 p1 => ⟨rfl, ?_⟩
  simp only [R.1, p1, true_and]
  have f1 : RN w w1 := fun a j q => f1 a j fun z => q ⟨z.1, Or.inl z.2⟩
  have f2 : RN w (xup w1 3 3 (sk T L i)) := f1.trans RN.up3
  have p2 : xup w1 3 3 (sk T L i) 3 2 = ((sk T L i + 0 : Nat) : Int) := by rw [xup_k (by decide), p1]; rfl
  have q2 : xup w1 3 3 (sk T L i) 3 3 = (sk T L i : Int) := xup_s
  generalize xup w1 3 3 (sk T L i : Int) = w2 at f2 p2 q2
  refine cl_num14 (w0 := w2) (a := sk T L i) R hT (fun w3 f3 p3 q3 => ?_) (L - sk T L i) 0 w2 (by omega) (by rw [Nat.zero_add]; rfl) (fun j hj => by omega) (hx.rn f2) RN.refl rfl p2
  have f13 := f2.trans f3
  have q3 : w3 3 3 = ((sk T L i : Nat) : Int) := q3.trans q2
  have hd : ∀ j, j < fg T L (sk T L i) → 48 ≤ T (sk T L i + j) ∧ T (sk T L i + j) ≤ 57 := fun j hj => fg_d b.2 hj
  have fail : ∀ k : Int, (rnm T L lo hi i).1 = -k → (rnm T L lo hi i).1 < 0 → ∀ d2, cal (d2 + 1) nRd_fail [xr 3, xi k, xi (sk T L i)] g w3 (fun r g1 w1 => ∃ v1 : Int, r = some (xi v1) ∧ Q2 (some (xi (-1))) g1 w1) := fun k e e2 d2 => by
    refine cl_fail R fun w4 f4 k4 a4 => ⟨_, rfl, hQ2 e2 w4 (f13.rf.trans f4) (by rw [k4]; omega) ?_⟩
    rw [a4, (rnm_fl e2 hlo hiL).1]
  have b134 : (rnm T L lo hi i).1 = -2 → aRd_readNumber (d + 1) lim Q2 134 [xr 3, none, none, none, none] [] g w3 := fun e => by
    refine wRd_readNumber_134 ?_
    simp only [R.1, q3, true_and]
    exact fail 2 e (by omega) d
  refine wRd_readNumber_90 ?_
  simp only [R.1, p3, q3, true_and]
  refine ⟨by constructor <;> omega, fun z => ⟨fun y => b134 ?_, fun y => ?_⟩, fun z => fail 1 ?_ ?_ d⟩
  · unfold rnm; rw [if_neg (by omega), if_pos (by omega)]
  · have ev := cvU_v (T := T) (i := sk T L i) (fg T L (sk T L i)) hd (by omega)
    have hv := vlU_b (T := T) (i := sk T L i) (fg T L (sk T L i)) hd (by omega)
    rw [ev]
    refine ⟨fun u => b134 ?_, fun u => ⟨fun v => ?_, fun v => b134 ?_⟩⟩
    · unfold rnm; rw [if_neg (by omega), if_pos (by omega)]
    · have er : rnm T L lo hi i = (vlU T (sk T L i) (fg T L (sk T L i)), sk T L i + fg T L (sk T L i)) := by
        unfold rnm; rw [if_neg (by omega), if_neg (by omega)]
      rw [er] at hQ1
      exact hQ1 hv.1 w3 f13 p3 q3
    · unfold rnm; rw [if_neg (by omega), if_pos (by omega)]
  · unfold rnm; rw [if_pos (by omega)]
  · unfold rnm; rw [if_pos (by omega)]; show (-1 : Int) < 0; decide
theorem cl_endC (R : RG g) (hT : TxI T L) (hx : Tx T L w) {i : Nat} (hi : i ≤ L) (hp : w 3 2 = i) (hQ1 : sk T L i < L ∧ T (sk T L i) = 59 → ∀ w2 : xW, RN w w2 → w2 3 2 = ((sk T L i + 1 : Nat) : Int) → Q (some (xi 1)) g w2) (hQ2 : ¬ (sk T L i < L ∧ T (sk T L i) = 59) → ∀ w2 : xW, RF w w2 → w2 3 4 = 1 → w2 3 5 = ((sk T L i : Nat) : Int) → Q (some (xi 0)) g w2) : cal (d + 2) nRd_endClause [xr 3] g w Q := by
  refine eRd_endClause fun lim Q2 h2 => wRd_endClause_0 ?_
  have hQ1 := fun z w2 a b => h2 _ g w2 rfl (hQ1 z w2 a b)
  have hQ2 := fun z w2 a b c => h2 _ g w2 rfl (hQ2 z w2 a b c)
  have b := sk_b (T := T) hi
  have hL := hT.1
  simp only [R.1, true_and]
  refine cl_skip R hT hx hi hp fun w1 f1 p1 => ⟨rfl, ?_⟩
  have f1 : RN w w1 := fun a j q => f1 a j fun z => q ⟨z.1, Or.inl z.2⟩
  have x1 := hx.rn f1
  have e1 : w1 3 1 = L := x1.1
  have no : ¬ (sk T L i < L ∧ T (sk T L i) = 59) → aRd_endClause (d + 1) lim Q2 29 [xr 3] [] g w1 := fun z => by
    refine wRd_endClause_29 ?_
    simp only [R.1, p1, true_and]
    exact cl_fail R fun w2 f2 k2 a2 => ⟨_, rfl, Or.inl rfl, hQ2 z w2 (f1.rf.trans f2) k2 a2⟩
  simp only [R.1, R.2.1, r_rr R, e1, p1, true_and]
  refine ⟨fun q => no (by omega), fun q => ⟨by constructor <;> omega, ?_⟩⟩
  have e2 : w1 4 (Int.toNat (sk T L i : Int)) = T (sk T L i) := by rw [Int.toNat_natCast]; exact x1.2 _ (by omega)
  rw [e2]
  refine ⟨fun z => ⟨by constructor <;> omega, Or.inr trivial, ?_⟩, fun z => no (fun y => z y.2)⟩
  refine hQ1 ⟨by omega, z⟩ _ (f1.trans RN.up) ?_
  rw [xup_s]; rfl
end TKB
