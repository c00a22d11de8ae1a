/-! ===== sets of papers; the latest of them; which were not felt ===== -/
theorem xOr_as (a b c : Int) : xOr (xOr a b) c = xOr a (xOr b c) := by unfold xOr; rw [Int32.ofInt_toInt, Int32.ofInt_toInt, Int32.or_assoc]
theorem xOr_cm (a b : Int) : xOr a b = xOr b a := by unfold xOr; rw [Int32.or_comm]
theorem xOr_dup (a b : Int) : xOr (xOr a b) b = xOr a b := by unfold xOr; rw [Int32.ofInt_toInt, Int32.or_assoc, Int32.or_self]
theorem msk_cg {f h : Nat → Bool} {z : Int} : ∀ n, (∀ i, i < n → f i = h i) → msk f z n = msk h z n
  | 0, _ => rfl
  | n + 1, e => by
    unfold msk
    rw [msk_cg n fun i hi => e i (by omega), e n (by omega)]
theorem msk_or {f h : Nat → Bool} : ∀ n, xOr (msk f 0 n) (msk h 0 n) = msk (fun i => f i || h i) 0 n
  | 0 => by show xOr 0 0 = 0; decide
  | n + 1 => by
    have ih := msk_or (f := f) (h := h) n
    unfold msk
    cases hf : f n <;> cases hh : h n
    · simpa using ih
    · simp only [Bool.false_eq_true, if_false, if_true, Bool.or_true]
      rw [← ih, xOr_as]
    · simp only [Bool.false_eq_true, if_false, if_true, Bool.or_false]
      rw [← ih, xOr_as, xOr_as, xOr_cm (xShl 1 n)]
    · simp only [if_true, Bool.or_true]
      rw [← ih, xOr_as, ← xOr_as (xShl 1 n), xOr_cm (xShl 1 n) (msk h 0 n), xOr_dup, xOr_as]
theorem msk_w {f : Nat → Bool} : ∀ n, xAnd (msk f 0 n) (-1) = msk f 0 n
  | 0 => by show xAnd 0 (-1) = 0; decide
  | n + 1 => by
    have ih := msk_w (f := f) n
    unfold msk
    cases hf : f n
    · simpa using ih
    · simp only [if_true]
      unfold xAnd xOr
      rw [Int32.ofInt_toInt, show Int32.ofInt (-1) = -1 from rfl, Int32.and_neg_one]
theorem i32_d (a b c : Int32) : (a ||| b) &&& c = (a &&& c) ||| (b &&& c) := by
  apply Int32.toBitVec_inj.1
  simp only [Int32.toBitVec_and, Int32.toBitVec_or]
  ext i hi
  simp only [BitVec.getElem_and, BitVec.getElem_or, Bool.and_or_distrib_right]
theorem z_cl : ∀ n : Nat, n < 12 → ∀ k : Nat, k < 12 → Int32.ofInt (xShl 1 (n : Int)) &&& Int32.ofInt (xXor (xShl 1 (k : Int)) (-1)) = if n = k then 0 else Int32.ofInt (xShl 1 (n : Int)) := by decide +kernel
theorem msk_cl {f : Nat → Bool} {k : Nat} (hk : k < 12) : ∀ n, n ≤ 12 → xAnd (msk f 0 n) (xXor (xShl 1 (k : Int)) (-1)) = msk (fun i => f i && !decide (i = k)) 0 n
  | 0, _ => by unfold msk xAnd; rw [show Int32.ofInt 0 = 0 from rfl, Int32.zero_and]; rfl
  | n + 1, hn => by
    have ih := msk_cl (f := f) hk n (by omega)
    unfold msk
    cases hf : f n
    · simpa using ih
    · have e : xAnd (xOr (msk f 0 n) (xShl 1 n)) (xXor (xShl 1 (k : Int)) (-1)) = (Int32.ofInt (xAnd (msk f 0 n) (xXor (xShl 1 (k : Int)) (-1))) ||| (Int32.ofInt (xShl 1 (n : Int)) &&& Int32.ofInt (xXor (xShl 1 (k : Int)) (-1)))).toInt := by
        unfold xAnd xOr
        rw [Int32.ofInt_toInt, Int32.ofInt_toInt]
        rw [i32_d]
      rw [if_pos rfl, e, ih, z_cl n (by omega) k hk]
      by_cases q : n = k
      · subst q
        simp only [if_true, decide_true, Bool.not_true, Bool.and_false, Bool.false_eq_true, if_false]
        rw [Int32.or_zero]
        have := msk_w (f := fun i => f i && !decide (i = n)) n
        unfold xAnd at this
        rw [show Int32.ofInt (-1) = -1 from rfl, Int32.and_neg_one] at this
        exact this
      · simp only [q, if_false, decide_false, Bool.not_false, Bool.and_true, if_true]
        rfl
theorem z_all : ∀ n : Nat, n ≤ 12 → xShl 1 (n : Int) - 1 = msk (fun _ => true) 0 n := by decide +kernel
/-- papers that may stand -/
def PInv (t P : zS) (n : Nat) (lo hi : Int) : Prop := (0 ≤ P 0 0 ∧ P 0 0 ≤ n) ∧ ∀ i : Nat, (i : Int) < P 0 0 → (0 ≤ P 1 i ∧ P 1 i < t 0 5) ∧ (0 ≤ P 2 i ∧ P 2 i < nC t) ∧ (lo ≤ P 3 i ∧ P 3 i ≤ hi)
def mxP (P : zS) : Nat → Int
  | 0 => -1
  | n + 1 => max (mxP P n) (P 3 n)
theorem mxP_ge {P : zS} {i : Nat} : ∀ n, i < n → P 3 i ≤ mxP P n
  | n + 1, h => by
    unfold mxP
    by_cases q : i = n
    · subst q; omega
    · have := mxP_ge (P := P) (i := i) n (by omega)
      omega
theorem mxP_b {t P : zS} {m : Nat} {lo hi : Int} (h : PInv t P m lo hi) (h0 : -1 ≤ hi) : ∀ n : Nat, (n : Int) ≤ P 0 0 → -1 ≤ mxP P n ∧ mxP P n ≤ hi
  | 0, _ => by unfold mxP; omega
  | n + 1, hn => by
    have ih := mxP_b h h0 n (by omega)
    have := (h.2 n (by omega)).2.2
    unfold mxP
    omega
section CMR
variable {g : xG} {w w0 : xW} {t s P : zS} {d : Nat} {Q : xQ} {lim : Nat × Nat} {k kp M : Nat} {fe : Nat → Bool} {m lo hi : Int}
theorem RP.cf {w w2 : xW} (h : RP P kp w) (f : CF k w w2) (hd : kp + 3 < k) : RP P kp w2 := by
  refine ⟨by rw [f _ _ (by omega)]; exact h.1, fun i hi => ?_⟩
  rw [f _ _ (by omega), f _ _ (by omega), f _ _ (by omega)]; exact h.2 i hi
theorem RQ.mb {w w2 : xW} {c a : Nat} (h : RQ P c a w) (f : MB w w2) (hc : c ≠ 49) (ha : 198 ≤ a ∧ a ≤ 210) : RQ P c a w2 := by
  refine ⟨by rw [f _ _ (by decide) (by decide) (by decide) (by decide) (fun _ => hc)]; exact h.1, fun i hi => ?_⟩
  have e : ∀ b, 198 ≤ b → b ≤ 212 → w2 b i = w b i := fun b p q => f _ _ (by omega) (by omega) (by omega) (by omega) (by omega)
  rw [e _ (by omega) (by omega), e _ (by omega) (by omega), e _ (by omega) (by omega)]; exact h.2 i hi
theorem cl_latest1 (ho : xIs g kp (0, 1)) (hp : g.2 kp 2 = kp + 3) (hr : ∀ i, xAr g (kp + 3) i ↔ (0 ≤ i ∧ i < (M : Int))) (h : RP P kp w) (pv : PInv t P M lo hi) (hM : M ≤ 100) (hQ : Q (some (xi (mxP P (P 0 0).toNat))) g w) : ∀ (n i : Nat), (i + n : Int) = P 0 0 → aPp_latest d lim Q 4 [xr kp, xi (mxP P i), xi i] [] g w
  | 0, i, e => by
    have e3 : w kp 3 = P 0 0 := h.1
    refine wPp_latest_4 ?_
    simp only [ho, e3, true_and]
    refine ⟨fun _ => ?_, fun q => by omega⟩
    rw [show i = (P 0 0).toNat by omega]; exact hQ
  | n + 1, i, e => by
    have e3 : w kp 3 = P 0 0 := h.1
    have p0 := pv.1
    have ei : w (kp + 3) (Int.toNat (i : Int)) = P 3 i := by rw [Int.toNat_natCast]; exact (h.2 i (by omega)).2.2
    refine wPp_latest_4 ?_
    simp only [ho, hp, hr, e3, ei, true_and]
    refine ⟨fun q => by omega, fun _ => ⟨by constructor <;> omega, by constructor <;> omega, ?_⟩⟩
    rw [show ((i : Int) + 1) = ((i + 1 : Nat) : Int) by omega]
    exact cl_latest1 ho hp hr h pv hM hQ n (i + 1) (by omega)
theorem cl_latest (ho : xIs g kp (0, 1)) (hp : g.2 kp 2 = kp + 3) (hr : ∀ i, xAr g (kp + 3) i ↔ (0 ≤ i ∧ i < (M : Int))) (h : RP P kp w) (pv : PInv t P M lo hi) (hM : M ≤ 100) (hQ : Q (some (xi (mxP P (P 0 0).toNat))) g w) : cal (d + 1) nPp_latest [xr kp] g w Q := by
  refine ePp_latest fun lim Q2 h2 => wPp_latest_0 ?_
  have hQ := h2 _ _ _ rfl hQ
  have p0 := pv.1
  exact cl_latest1 ho hp hr h pv hM hQ (P 0 0).toNat 0 (by omega)
/-- a paper of minute m that was not felt -/
def nfl (s P : zS) (fe : Nat → Bool) (m : Int) (i : Nat) : Bool := decide (P 3 i = m) && !(fe (P 1 i).toNat && decide (s 7 (P 1 i).toNat = P 2 i))
theorem cl_nf1 (hP : PG12 g kp) (hS : SG g k) (h : RP P kp w) (pv : PInv t P 12 lo hi) (hs : RCs t s k w) (li : LInv t) (hF : w k 12 = msk fe 0 (nP t)) (hQ : Q (some (xi (msk (nfl s P fe m) 0 (P 0 0).toNat))) g w) : ∀ (n i : Nat), (i + n : Int) = P 0 0 → aPp_notFeltAt (d + 1) lim Q 5 [xr kp, xi m, xr k, xi (msk (nfl s P fe m) 0 i), xi i] [] g w
  | 0, i, e => by
    have e3 : w kp 3 = P 0 0 := h.1
    refine wPp_notFeltAt_5 ?_
    simp only [p12_o hP, e3, true_and]
    refine ⟨fun _ => ?_, fun q => by omega⟩
    rw [show i = (P 0 0).toNat by omega]; exact hQ
  | n + 1, i, e => by
    have e3 : w kp 3 = P 0 0 := h.1
    have p0 := pv.1
    obtain ⟨q1, q2, q3⟩ := pv.2 i (by omega)
    obtain ⟨n1, n2, -, -, n5, n6⟩ := li_n li
    have ei := h.2 i (by omega)
    have a1 : w (kp + 1) (Int.toNat (i : Int)) = P 1 i := by rw [Int.toNat_natCast]; exact ei.1
    have a2 : w (kp + 2) (Int.toNat (i : Int)) = P 2 i := by rw [Int.toNat_natCast]; exact ei.2.1
    have a3 : w (kp + 3) (Int.toNat (i : Int)) = P 3 i := by rw [Int.toNat_natCast]; exact ei.2.2
    have hpp : (P 1 i).toNat < nP t := by omega
    have e7 : w (k + 8) (P 1 i).toNat = s 7 (P 1 i).toNat := hs.1 7 (P 1 i).toNat hpp (by decide) (by decide)
    have no : nfl s P fe m i = false → aPp_notFeltAt (d + 1) lim Q 5 [xr kp, xi m, xr k, xi (msk (nfl s P fe m) 0 i), xi ((i : Int) + 1)] [] g w := fun z => by
      rw [show ((i : Int) + 1) = ((i + 1 : Nat) : Int) by omega]
      have := cl_nf1 hP hS h pv hs li hF hQ n (i + 1) (by omega)
      rw [msk, if_neg (by rw [z]; decide)] at this; exact this
    have yes : nfl s P fe m i = true → aPp_notFeltAt (d + 1) lim Q 61 [xr kp, xi m, xr k, xi (msk (nfl s P fe m) 0 i), xi i] [] g w := fun z => by
      refine wPp_notFeltAt_61 ⟨by constructor <;> omega, ?_⟩
      rw [show ((i : Int) + 1) = ((i + 1 : Nat) : Int) by omega]
      have := cl_nf1 hP hS h pv hs li hF hQ n (i + 1) (by omega)
      rw [msk, if_pos z] at this; exact this
    refine wPp_notFeltAt_5 ?_
    simp only [p12_o hP, p12_p0 hP, p12_p1 hP, p12_p2 hP, p12_r0 hP, p12_r1 hP, p12_r2 hP, s_o hS, s_p7 hS, s_r7 hS, e3, a1, a2, a3, e7, true_and]
    refine ⟨fun q => by omega, fun _ => ⟨by constructor <;> omega, fun q => ⟨by constructor <;> omega, no ?_⟩, fun q => ⟨by constructor <;> omega, by constructor <;> omega, by constructor <;> omega, fun z => yes ?_, fun z => ⟨by constructor <;> omega, ?_⟩⟩⟩⟩
    · unfold nfl; simp [q]
    · unfold nfl; simp [q, z]
    · obtain ⟨pp, hpe⟩ := z_nn q1.1
      have hpt : (P 1 i).toNat = pp := by omega
      rw [hpe]
      refine cl_feels hS li hF (show pp < nP t by omega) ⟨_, rfl, fun z2 => ⟨by constructor <;> omega, no ?_⟩, fun z2 => yes ?_⟩
      · have z2 := ifv.2 z2
        unfold nfl; simp only [hpt, q, z2] ; rw [hpt] at z; simp [z]
      · have z2 := ifv.1 z2
        unfold nfl; rw [hpt]; simp [q, z2]
theorem cl_notFelt (hP : PG12 g kp) (hS : SG g k) (h : RP P kp w) (pv : PInv t P 12 lo hi) (hs : RCs t s k w) (li : LInv t) (hF : w k 12 = msk fe 0 (nP t)) (hQ : Q (some (xi (msk (nfl s P fe m) 0 (P 0 0).toNat))) g w) : cal (d + 2) nPp_notFeltAt [xr kp, xi m, xr k] g w Q := by
  refine ePp_notFeltAt fun lim Q2 h2 => wPp_notFeltAt_0 ?_
  have hQ := h2 _ _ _ rfl hQ
  have p0 := pv.1
  exact cl_nf1 hP hS h pv hs li hF hQ (P 0 0).toNat 0 (by omega)
end CMR
