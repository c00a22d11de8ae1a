/-! ===== command forged ===== -/
def flt (t s P : zS) (i : Nat) : Bool := feB t (stA t (steps t (-1) (P 3 i).toNat s)) (-1) (P 1 i).toNat && decide (s 7 (P 1 i).toNat = P 2 i)
def oForged (t s P : zS) : Int := msk (fun i => !flt t s P i) 0 (P 0 0).toNat
theorem z_allb : ∀ n : Nat, n ≤ 12 → 0 ≤ xShl 1 (n : Int) - 1 ∧ xShl 1 (n : Int) - 1 ≤ 4095 := by decide +kernel
section CMS
variable {g : xG} {w w0 : xW} {t s P : zS} {d : Nat} {Q : xQ} {lim : Nat × Nat} {kl kn kl2 kn2 k : Nat} {numb : Int}
theorem step_7 {i : Nat} : step t numb s 7 i = s 7 i := by
  unfold step stF
  rw [zset_n (by omega), zset_n (by omega), owe_o (by omega) (by omega)]
  unfold stD
  rw [zset_n (by omega)]
  unfold stC
  rw [zset_n (by omega)]
  unfold stB
  rw [zset_n (by omega), zset_n (by omega)]
  unfold stA
  rw [zset_n (by omega), zset_n (by omega), zset_n (by omega)]
theorem steps_7 {i : Nat} : ∀ m, steps t numb m s 7 i = s 7 i
  | 0 => rfl
  | m + 1 => by rw [steps_s, step_7]; exact steps_7 m
theorem cl_forg1 (F : FG g kl kn kl2 kn2) (hl : RCl t kl w0) (li : LInv t) (si : SInv t s) (hP : RP P 5 w0) (pv : PInv t P 12 0 59) (hm : s 12 2 ≤ 999999900) {E : Int} (hE : -1 ≤ E ∧ E ≤ 59) (hQ : ∀ w2, CF 15 w0 w2 → Q (some (xi (msk (fun i => decide (P 3 i < E + 1) && !flt t s P i) 0 (P 0 0).toNat))) g w2) : ∀ (n m : Nat) (w : xW), (m + n : Int) = E + 1 → CF 15 w0 w → RCs t (steps t (-1) m s) 15 w → aFf_forged (d + 4) lim Q 23 [xr 2, xi (msk (fun i => decide (P 3 i < m) && !flt t s P i) 0 (P 0 0).toNat), xi E, xi m] [] g w
  | 0, m, w, e, hf, hs => by
    refine wFf_forged_23 ?_
    simp only [f_o F, true_and]
    refine ⟨fun _ => ?_, fun q => by omega⟩
    have := hQ w hf
    rw [show E + 1 = (m : Int) by omega] at this; exact this
  | n + 1, m, w, e, hf, hs => by
    have hkl := f_hl F
    have sim := si_steps (numb := -1) li si m (by omega)
    have hmm := steps_m (t := t) (s := s) (numb := -1) m
    have p15 : g.2 2 5 = 15 := f_p5 F
    refine wFf_forged_23 ?_
    simp only [f_o F, f_p5 F, f_p9 F, s_o (f_tr F), true_and]
    refine ⟨fun q => by omega, fun _ => cl_passMinuteF (f_tr F) (f_tl F) (by omega) (hl.fr hf (by omega)) hs li sim (by omega) fun w2 f2 s2 F2 => ⟨rfl, ?_⟩⟩
    simp only [f_o F, f_p5 F, f_p1 F, p12_o (f_cs F), true_and]
    have hf2 := hf.trans f2
    refine cl_notFelt (f_cs F) (f_tr F) (hP.cf hf2 (by omega)) pv s2 li F2 ⟨_, rfl, by constructor <;> omega, ?_⟩
    rw [msk_or, show ((m : Int) + 1) = ((m + 1 : Nat) : Int) by omega]
    have := cl_forg1 F hl li si hP pv hm hE hQ n (m + 1) w2 (by omega) hf2 (by rw [steps_s]; exact s2)
    rw [msk_cg (h := fun i => decide (P 3 i < (m + 1 : Nat)) && !flt t s P i)]
    · exact this
    · intro i hi
      have pvi := (pv.2 i (by omega)).2.2
      unfold nfl flt
      rw [step_7, steps_7]
      by_cases q : P 3 i = m
      · rw [show (P 3 i).toNat = m by omega]
        simp only [q]
        rw [show decide ((m : Int) < (m : Int)) = false by simp, show decide ((m : Int) < ((m + 1 : Nat) : Int)) = true by simp; omega]
        simp
      · rw [show decide (P 3 i = (m : Int)) = false by simp [q]]
        by_cases q2 : P 3 i < m
        · rw [show decide (P 3 i < (m : Int)) = true by simp [q2], show decide (P 3 i < ((m + 1 : Nat) : Int)) = true by simp; omega]
          simp
        · rw [show decide (P 3 i < (m : Int)) = false by simp; omega, show decide (P 3 i < ((m + 1 : Nat) : Int)) = false by simp; omega]
          simp
theorem cl_forged (F : FG g kl kn kl2 kn2) (hl : RCl t kl w) (hs : RCs t s kn w) (li : LInv t) (si : SInv t s) (hP : RP P 5 w) (pv : PInv t P 12 0 59) (hm : s 12 2 ≤ 999999900) (hQ : ∀ w2, CF 15 w w2 → Q (some (xi (oForged t s P))) g w2) : cal (d + 5) nFf_forged [xr 2] g w Q := by
  refine eFf_forged fun lim Q2 h2 => wFf_forged_0 ?_
  have hQ := fun w2 a => h2 _ g w2 rfl (hQ w2 a)
  have hkn := f_hn F
  have hkl := f_hl F
  have p0 := pv.1
  have hE := mxP_b pv (by decide) (P 0 0).toNat (by omega)
  simp only [f_o F, f_p1 F, p12_o (f_cs F), true_and]
  refine cl_latest (M := 12) (p12_o (f_cs F)) (p12_p2 (f_cs F)) (p12_r2 (f_cs F)) hP pv (by omega) ⟨_, rfl, ?_⟩
  simp only [f_o F, f_p5 F, f_p11 F, s_o (f_tr F), true_and]
  refine cl_copy (f_tr F) (f_sn F) (by omega) hs li fun w2 f2 s2 => ⟨rfl, ?_⟩
  have h0 : msk (fun i => decide (P 3 i < (0 : Nat)) && !flt t s P i) 0 (P 0 0).toNat = 0 := by
    have : ∀ n : Nat, (n : Int) ≤ P 0 0 → msk (fun i => decide (P 3 i < (0 : Nat)) && !flt t s P i) 0 n = 0 := by
      intro n
      induction n with
      | zero => intro _; rfl
      | succ n ih =>
        intro hn
        have := (pv.2 n (by omega)).2.2
        rw [msk, if_neg, ih (by omega)]
        rw [show decide (P 3 n < (0 : Nat)) = false by simp; omega]; simp
    exact this _ (by omega)
  have := cl_forg1 (d := d) (lim := lim) F hl li si hP pv hm hE (Q := Q2) (w0 := w) (fun w3 f3 => ?_) (mxP P (P 0 0).toNat + 1).toNat 0 w2 (by omega) f2 s2
  · rw [h0] at this; exact this
  · refine qe (hQ w3 f3) ?_
    unfold oForged
    refine msk_cg _ fun i hi => ?_
    have := mxP_ge (P := P) (i := i) (P 0 0).toNat hi
    rw [show decide (P 3 i < mxP P (P 0 0).toNat + 1) = true by simp; omega]; simp
/-- what the reference still holds for forged at minute m, paper k -/
def hmk (t s P : zS) (m : Int) (k i : Nat) : Bool := !(flt t s P i && (decide (P 3 i < m) || (decide (P 3 i = m) && decide (i < k))))
theorem mo_forg2 (hM : MG g) (li : LInv t) (hP : RQ P 16 204 w) (pv : PInv t P 12 0 59) {m : Nat} (hmm : m < 60) (hs : RMs t (steps t (-1) (m + 1) s) w) (hF : w 193 49 = msk (feB t (stA t (steps t (-1) m s)) (-1)) 0 (nP t)) (hk : aMo_forged (d + 1) lim Q 24 [xr 193, xi (msk (hmk t s P ((m + 1 : Nat) : Int) 0) 0 (P 0 0).toNat), xi ((m + 1 : Nat) : Int), none, none] [] g w) : ∀ (n k : Nat), (k + n : Int) = P 0 0 → aMo_forged (d + 1) lim Q 36 [xr 193, xi (msk (hmk t s P m k) 0 (P 0 0).toNat), xi m, xi k, none] [] g w
  | 0, k, e => by
    have e3 : w 193 16 = P 0 0 := hP.1
    refine wMo_forged_36 ?_
    simp only [m_o hM, e3, true_and]
    refine ⟨fun _ => ⟨by constructor <;> omega, ?_⟩, fun q => by omega⟩
    rw [show ((m : Int) + 1) = ((m + 1 : Nat) : Int) by omega, msk_cg (h := hmk t s P ((m + 1 : Nat) : Int) 0)]
    · exact hk
    · intro i hi
      unfold hmk
      rw [show decide (i < k) = true by simp; omega, show decide (i < 0) = false by simp]
      by_cases q : P 3 i = m
      · simp only [q]
        rw [show decide ((m : Int) < (m : Int)) = false by simp, show decide ((m : Int) < ((m + 1 : Nat) : Int)) = true by simp; omega]
        simp
      · rw [show decide (P 3 i = (m : Int)) = false by simp [q]]
        by_cases q2 : P 3 i < m
        · rw [show decide (P 3 i < (m : Int)) = true by simp [q2], show decide (P 3 i < ((m + 1 : Nat) : Int)) = true by simp; omega]
          simp
        · rw [show decide (P 3 i < (m : Int)) = false by simp; omega, show decide (P 3 i < ((m + 1 : Nat) : Int)) = false by simp; omega]
          simp
  | n + 1, k, e => by
    have e3 : w 193 16 = P 0 0 := hP.1
    have p0 := pv.1
    obtain ⟨q1, q2, q3⟩ := pv.2 k (by omega)
    obtain ⟨n1, n2, -, -, n5, n6⟩ := li_n li
    have ei := hP.2 k (by omega)
    have a1 : w 204 (Int.toNat (k : Int)) = P 1 k := by rw [Int.toNat_natCast]; exact ei.1
    have a2 : w 205 (Int.toNat (k : Int)) = P 2 k := by rw [Int.toNat_natCast]; exact ei.2.1
    have a3 : w 206 (Int.toNat (k : Int)) = P 3 k := by rw [Int.toNat_natCast]; exact ei.2.2
    have ih := mo_forg2 hM li hP pv hmm hs hF hk n (k + 1) (by omega)
    have b0 : ¬ (P 3 k = m ∧ flt t s P k = true) → aMo_forged (d + 1) lim Q 78 [xr 193, xi (msk (hmk t s P m k) 0 (P 0 0).toNat), xi m, xi k, none] [xi 0] g w := fun z => by
      refine wMo_forged_78 ⟨fun _ => ⟨by constructor <;> omega, ?_⟩, fun q => absurd rfl q⟩
      rw [msk_w, show ((k : Int) + 1) = ((k + 1 : Nat) : Int) by omega, msk_cg (h := hmk t s P m (k + 1))]
      · exact ih
      · intro i hi
        unfold hmk
        by_cases y : i = k
        · subst y
          by_cases y2 : P 3 i = m
          · have : flt t s P i = false := by
              cases h : flt t s P i
              · rfl
              · exact absurd ⟨y2, h⟩ z
            simp [this]
          · simp [y2]
        · rw [show decide (i < k + 1) = decide (i < k) by rw [decide_eq_decide]; omega]
    have b1 : (P 3 k = m ∧ flt t s P k = true) → aMo_forged (d + 1) lim Q 78 [xr 193, xi (msk (hmk t s P m k) 0 (P 0 0).toNat), xi m, xi k, none] [xi 1] g w := fun z => by
      refine wMo_forged_78 ⟨fun q => absurd q (by decide), fun _ => ⟨by constructor <;> omega, ?_⟩⟩
      rw [msk_cl (by omega) _ (by omega), show ((k : Int) + 1) = ((k + 1 : Nat) : Int) by omega, msk_cg (h := hmk t s P m (k + 1))]
      · exact ih
      · intro i hi
        unfold hmk
        by_cases y : i = k
        · subst y
          simp [z.1, z.2]
        · rw [show decide (i < k + 1) = decide (i < k) by rw [decide_eq_decide]; omega]
          simp [y]
    refine wMo_forged_36 ?_
    simp only [m_o hM, m_p17 hM, m_p18 hM, m_p19 hM, m_r17 hM, m_r18 hM, m_r19 hM, e3, a1, a2, a3, true_and]
    refine ⟨fun q => by omega, fun _ => ⟨by constructor <;> omega, fun q => b0 (fun z => q z.1), fun q => ⟨by constructor <;> omega, by constructor <;> omega, ?_⟩⟩⟩
    have ef : flt t s P k = true ↔ (feB t (stA t (steps t (-1) m s)) (-1) (P 1 k).toNat = true ∧ steps t (-1) (m + 1) s 7 (P 1 k).toNat = P 2 k) := by
      unfold flt
      rw [steps_7, show (P 3 k).toNat = m by omega]
      simp
    refine mo_feelsOnI hM hs li hF (by omega) ⟨_, rfl, fun z => b0 (fun y => ifv.1 z (ef.1 y.2)), fun z => b1 ⟨q, ef.2 (ifv.2 z)⟩⟩
theorem mo_forg1 (hM : MG g) (hl : RMl t w0) (li : LInv t) (si : SInv t s) (hn : w0 193 50 = -1) (hP : RQ P 16 204 w0) (pv : PInv t P 12 0 59) (hm : s 12 2 ≤ 999999900) (hQ : ∀ w2, MB w0 w2 → (∀ j, j < 143 → w2 194 j = w0 197 j) → Q (some (xi (msk (hmk t s P 60 0) 0 (P 0 0).toNat))) g w2) : ∀ (n m : Nat) (w : xW), m + n = 60 → MF w0 w → RMs t (steps t (-1) m s) w → aMo_forged (d + 4) lim Q 24 [xr 193, xi (msk (hmk t s P m 0) 0 (P 0 0).toNat), xi m, none, none] [] g w
  | 0, m, w, e, hf, hs => by
    have e : m = 60 := by omega
    subst e
    refine wMo_forged_24 ?_
    simp only [m_o hM, true_and]
    refine ⟨fun _ => mo_back hM fun w2 f2 v2 => ⟨rfl, hQ w2 (hf.mb.trans fun a j p _ _ _ _ => f2 a j p) fun j hj => (v2 j hj).trans (hf 197 j (by decide) (by decide) (fun z => absurd z (by decide)))⟩, fun q => by omega⟩
  | n + 1, m, w, e, hf, hs => by
    have sim := si_steps (numb := -1) li si m (by omega)
    have hmm := steps_m (t := t) (s := s) (numb := -1) m
    have p0 := pv.1
    refine wMo_forged_24 ?_
    simp only [m_o hM, true_and]
    refine ⟨fun q => by omega, fun _ => mo_goMinute (numb := -1) hM (hl.fr hf) hs li sim (by omega) (by rw [hf 193 50 (by decide) (by decide) (fun _ => by decide)]; exact hn) fun w2 f2 s2 F2 => ⟨rfl, ?_⟩⟩
    have hf2 := hf.trans f2
    have s2 : RMs t (steps t (-1) (m + 1) s) w2 := by rw [steps_s]; exact s2
    exact mo_forg2 hM li (hP.mb hf2.mb (by decide) (by decide)) pv (by omega) s2 F2 (mo_forg1 hM hl li si hn hP pv hm hQ n (m + 1) w2 (by omega) hf2 s2) (P 0 0).toNat 0 (by omega)
theorem mo_forged (hM : MG g) (hl : RMl t w) (hs : RMs t s w) (li : LInv t) (si : SInv t s) (hn : w 193 50 = -1) (hP : RQ P 16 204 w) (pv : PInv t P 12 0 59) (hm : s 12 2 ≤ 999999900) (hQ : ∀ w2, MB w w2 → (∀ j, j < 143 → w2 194 j = w 194 j) → Q (some (xi (oForged t s P))) g w2) : cal (d + 5) nMo_forged [xr 193] g w Q := by
  refine eMo_forged fun lim Q2 h2 => wMo_forged_0 ?_
  have hQ := fun w2 a b => h2 _ g w2 rfl (hQ w2 a b)
  have e3 : w 193 16 = P 0 0 := hP.1
  have p0 := pv.1
  obtain ⟨N, hN⟩ := z_nn p0.1
  have hb := z_allb N (by omega)
  have ha := z_all N (by omega)
  simp only [m_o hM, e3, hN, true_and]
  refine ⟨by constructor <;> omega, fun q => mo_start hM fun w1 f1 v1 => ⟨rfl, ?_⟩, fun q => ?_⟩
  · rw [ha]
    have m1 : MB w w1 := fun a j _ p _ _ _ => f1 a j p
    have := mo_forg1 (d := d) (lim := lim) (w0 := w1) hM (hl.mb m1) li si (by rw [f1 193 50 (by decide)]; exact hn) (hP.mb m1 (by decide) (by decide)) pv hm (Q := Q2) (fun w2 f2 v2 => qe (hQ w2 (m1.trans f2) fun j hj => (v2 j hj).trans (v1 j hj)) ?_) 60 0 w1 rfl (fun _ _ _ _ _ => rfl) (fun r i h => by rw [f1 194 _ (by decide)]; exact hs r i h)
    · rw [msk_cg (h := fun _ => true)] at this
      · rw [show (P 0 0).toNat = N by omega] at this; exact this
      · intro i hi
        have := (pv.2 i (by omega)).2.2
        unfold hmk
        rw [show decide (P 3 i < ((0 : Nat) : Int)) = false by simp; omega]
        simp
    · unfold oForged
      refine msk_cg _ fun i hi => ?_
      have := (pv.2 i (by omega)).2.2
      unfold hmk
      rw [show decide (P 3 i < 60) = true by simp; omega]
      simp
  · refine qe (hQ w MB.refl fun _ _ => rfl) ?_
    unfold oForged
    rw [show (P 0 0).toNat = 0 by omega]; rfl
end CMS
