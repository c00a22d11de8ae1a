/-! ===== command wasLit: the reference ===== -/
theorem xup_id {w : xW} {a j : Nat} : xup w a j (w a j) = w := by
  funext b i
  by_cases p : b = a
  · subst p
    by_cases q : i = j
    · subst q; rw [xup_s]
    · rw [xup_k q]
  · rw [xup_a p]
section CMU
variable {g : xG} {w w0 : xW} {t s P σ : zS} {d : Nat} {Q : xQ} {lim : Nat × Nat} {k : Nat} {i lo hi : Int}
theorem rn_m {wt : Nat} : ∀ m : Nat, rn t s k wt m 12 2 = s 12 2 + m
  | 0 => by simp [rn]
  | m + 1 => by
    rw [rn, step_m]
    have ih := rn_m (wt := wt) m
    have e : lit (rn t s k wt m) k 12 2 = rn t s k wt m 12 2 := zset_n (by decide)
    split
    · rw [e, ih]; omega
    · rw [ih]; omega
theorem si_rl {wt m : Nat} (si : SInv t (rn t s k wt m)) (h6 : s 6 k = 0) (h5 : 1 ≤ s 5 k) : SInv t (if m = wt then lit (rn t s k wt m) k else rn t s k wt m) := by
  split
  · rename_i q
    refine si_lit si ?_
    rw [rn_le _ (by omega)]
    have := steps_56 (t := t) (numb := -1) h6 m
    omega
  · exact si
theorem si_rn {wt : Nat} (li : LInv t) (si : SInv t s) (h6 : s 6 k = 0) (h5 : 1 ≤ s 5 k) : ∀ m : Nat, s 12 2 + m ≤ 1000000000 → SInv t (rn t s k wt m)
  | 0, _ => si
  | m + 1, h => by
    rw [rn]
    refine si_step li (si_rl (si_rn li si h6 h5 m (by omega)) h6 h5) _ ?_
    have e : lit (rn t s k wt m) k 12 2 = rn t s k wt m 12 2 := zset_n (by decide)
    have := rn_m (t := t) (s := s) (k := k) (wt := wt) m
    split
    · rw [e]; omega
    · omega
theorem mo_ad2 (hM : MG g) (li : LInv t) (hP : RQ P 20 207 w) (pv : PInv t P 8 lo hi) {wt m : Nat} (hmm : m < 60) (hs : RMs t σ w) (hk : aMo_areDeeds d lim Q 5 [xr 193, xi k, xi wt, xi (if okP P σ ((m + 1 : Nat) : Int) (P 0 0).toNat = true then 1 else 0), xi ((m + 1 : Nat) : Int), none] [] g w) : ∀ (n j : Nat), (j + n : Int) = P 0 0 → aMo_areDeeds d lim Q 51 [xr 193, xi k, xi wt, xi (if okP P σ ((m + 1 : Nat) : Int) j = true then 1 else 0), xi m, xi j] [] g w
  | 0, j, e => by
    have e3 : w 193 20 = P 0 0 := hP.1
    refine wMo_areDeeds_51 ?_
    simp only [m_o hM, e3, true_and]
    refine ⟨fun _ => ⟨by constructor <;> omega, ?_⟩, fun q => by omega⟩
    rw [show ((m : Int) + 1) = ((m + 1 : Nat) : Int) by omega, show j = (P 0 0).toNat by omega]; exact hk
  | n + 1, j, e => by
    have e3 : w 193 20 = P 0 0 := hP.1
    have p0 := pv.1
    obtain ⟨q1, q2, q3⟩ := pv.2 j (by omega)
    obtain ⟨n1, n2, -, -, n5, n6⟩ := li_n li
    have ei := hP.2 j (by omega)
    have a1 : w 207 (Int.toNat (j : Int)) = P 1 j := by rw [Int.toNat_natCast]; exact ei.1
    have a2 : w 208 (Int.toNat (j : Int)) = P 2 j := by rw [Int.toNat_natCast]; exact ei.2.1
    have a3 : w 209 (Int.toNat (j : Int)) = P 3 j := by rw [Int.toNat_natCast]; exact ei.2.2
    have hpp : (P 2 j).toNat < nC t := by omega
    have e7 : w 194 (Int.toNat (60 + P 2 j)) = σ 3 (P 2 j).toNat := by
      rw [show Int.toNat (60 + P 2 j) = 60 + (P 2 j).toNat by omega]; exact hs 3 (P 2 j).toNat hpp
    have ih := mo_ad2 hM li hP pv hmm hs hk n (j + 1) (by omega)
    have go : ∀ v : Int, v = (if okP P σ ((m + 1 : Nat) : Int) (j + 1) = true then 1 else 0) → aMo_areDeeds d lim Q 51 [xr 193, xi k, xi wt, xi v, xi m, xi ((j : Int) + 1)] [] g w := fun v z => by
      rw [show ((j : Int) + 1) = ((j + 1 : Nat) : Int) by omega, z]
      exact ih
    refine wMo_areDeeds_51 ?_
    simp only [m_o hM, m_p21 hM, m_p22 hM, m_p23 hM, m_r21 hM, m_r22 hM, m_r23 hM, m_p0 hM, m_r0 hM, e3, a1, a2, a3, e7, true_and]
    refine ⟨fun q => by omega, fun _ => ⟨fun q => ⟨by constructor <;> omega, go 0 ?_⟩, fun q => ⟨by constructor <;> omega, by constructor <;> omega, fun z => ⟨by constructor <;> omega, go 1 ?_⟩, fun z => ⟨by constructor <;> omega, by constructor <;> omega, by constructor <;> omega, by constructor <;> omega, fun y => ⟨by constructor <;> omega, go 0 ?_⟩, fun y => ⟨by constructor <;> omega, go 1 ?_⟩⟩⟩⟩⟩
    · have q := ifv.1 q
      rw [if_neg]
      rw [okP, Bool.and_eq_true]
      exact fun z => q z.1
    · have q := ifv.2 q
      rw [okP, q, if_pos]
      rw [show decide (P 3 j = ((m + 1 : Nat) : Int)) = false by simp; omega]; rfl
    · rw [okP, if_neg]
      rw [show decide (P 3 j = ((m + 1 : Nat) : Int)) = true by simp; omega]
      simp [y]
    · have q := ifv.2 q
      rw [okP, q, if_pos]
      simp [y]
theorem mo_ad1 (hM : MG g) (hl : RMl t w0) (li : LInv t) (si : SInv t s) (hn : w0 193 50 = -1) (hP : RQ P 20 207 w0) (pv : PInv t P 8 1 60) (hkk : k < nS t) (h6 : s 6 k = 0) (h5 : 1 ≤ s 5 k) (hm : s 12 2 ≤ 999999800) {wt : Nat} (hQ : ∀ w2, MB w0 w2 → (∀ j, j < 143 → w2 194 j = w0 197 j) → (∀ j, w2 197 j = w0 197 j) → Q (some (xi (if fitU t s P k wt 60 = true then 1 else 0))) g w2) : ∀ (n m : Nat) (w : xW), m + n = 60 → MF w0 w → RMs t (rn t s k wt m) w → aMo_areDeeds (d + 4) lim Q 5 [xr 193, xi k, xi wt, xi (if fitU t s P k wt m = true then 1 else 0), xi m, none] [] g w
  | 0, m, w, e, hf, hs => by
    have e : m = 60 := by omega
    subst e
    refine wMo_areDeeds_5 ?_
    simp only [m_o hM, true_and]
    refine ⟨fun _ => wMo_areDeeds_121 ?_, fun q => by omega⟩
    simp only [m_o hM, true_and]
    refine mo_back hM fun w2 f2 v2 => ⟨rfl, by split <;> omega, hQ w2 (hf.mb.trans fun a j p _ _ _ _ => f2 a j p) (fun j hj => (v2 j hj).trans (hf 197 j (by decide) (by decide) (fun z => absurd z (by decide)))) fun j => (f2 197 j (by decide)).trans (hf 197 j (by decide) (by decide) (fun z => absurd z (by decide)))⟩
  | n + 1, m, w, e, hf, hs => by
    have hm0 := si.2.2.2.2.2.2.2.1
    have sim := si_rn (wt := wt) li si h6 h5 m (by omega)
    have hmm := rn_m (t := t) (s := s) (k := k) (wt := wt) m
    have sil := si_rl sim h6 h5
    have e12 : (if m = wt then lit (rn t s k wt m) k else rn t s k wt m) 12 2 < 1000000000 := by
      have e : lit (rn t s k wt m) k 12 2 = rn t s k wt m 12 2 := zset_n (by decide)
      split
      · rw [e]; omega
      · omega
    have p0 := pv.1
    obtain ⟨n1, n2, n3, n4, n5, n6⟩ := li_n li
    have e6 : w 194 (Int.toNat (104 + (k : Int))) = rn t s k wt m 6 k := by
      rw [show Int.toNat (104 + (k : Int)) = 104 + k by omega]; exact hs 6 k hkk
    refine wMo_areDeeds_5 ?_
    simp only [m_o hM, m_p0 hM, m_r0 hM, true_and]
    have go : fitU t s P k wt m = true → ∀ v, RMs t (if m = wt then lit (rn t s k wt m) k else rn t s k wt m) (xup w 194 (Int.toNat (104 + (k : Int))) v) → aMo_areDeeds (d + 4) lim Q 43 [xr 193, xi k, xi wt, xi (if fitU t s P k wt m = true then 1 else 0), xi m, none] [xi v, xi (104 + (k : Int)), xr 194] g w := fun z v s1 => by
      refine wMo_areDeeds_43 ?_
      simp only [m_o hM, m_a0 hM, true_and]
      have f1 : MF w0 (xup w 194 (Int.toNat (104 + (k : Int))) v) := hf.trans fun a j p _ _ => xup_a p
      refine ⟨by constructor <;> omega, mo_goMinute (numb := -1) hM (hl.fr f1) s1 li sil e12 (by rw [f1 193 50 (by decide) (by decide) (fun _ => by decide)]; exact hn) fun w2 f2 s2 F2 => ⟨rfl, ?_⟩⟩
      have hf2 := f1.trans f2
      have s2 : RMs t (rn t s k wt (m + 1)) w2 := s2
      have ih := mo_ad1 hM hl li si hn hP pv hkk h6 h5 hm hQ n (m + 1) w2 (by omega) hf2 s2
      have := mo_ad2 (d := d + 4) (lim := lim) (Q := Q) (k := k) (wt := wt) (m := m) hM li (hP.mb hf2.mb (by decide) (by decide)) pv (by omega) s2 (by rw [fitU, z] at ih; exact ih) (P 0 0).toNat 0 (by omega)
      rw [if_pos z]
      exact this
    refine ⟨fun q => by omega, fun _ => ⟨fun z => ?_, fun z => ⟨by constructor <;> omega, fun y => ⟨by constructor <;> omega, by constructor <;> omega, go (ifv.2 z) _ ?_⟩, fun y => go (ifv.2 z) _ ?_⟩⟩⟩
    · have z := ifv.1 z
      refine wMo_areDeeds_121 ?_
      simp only [m_o hM, true_and]
      refine mo_back hM fun w2 f2 v2 => ⟨rfl, by split <;> omega, qe (hQ w2 (hf.mb.trans fun a j p _ _ _ _ => f2 a j p) (fun j hj => (v2 j hj).trans (hf 197 j (by decide) (by decide) (fun z => absurd z (by decide)))) fun j => (f2 197 j (by decide)).trans (hf 197 j (by decide) (by decide) (fun z => absurd z (by decide)))) ?_⟩
      rw [if_neg z, if_neg]
      intro y
      apply z
      rw [fitU_iff] at y ⊢
      exact fun j hj => y j (by omega)
    · rw [if_neg (by omega), xup_id]; exact hs
    · rw [if_pos (by omega)]
      exact hs.put li (r := 6) (i := k) hkk (by show Int.toNat _ = 104 + _; omega)
theorem mo_areDeeds (hM : MG g) (hl : RMl t w) (hs : RMs t s w) (hv : ∀ j, j < 143 → w 197 j = w 194 j) (li : LInv t) (si : SInv t s) (hn : w 193 50 = -1) (hP : RQ P 20 207 w) (pv : PInv t P 8 1 60) (hkk : k < nS t) (h6 : s 6 k = 0) (h5 : 1 ≤ s 5 k) (hm : s 12 2 ≤ 999999800) {wt : Nat} (hQ : ∀ w2, MB w w2 → (∀ j, j < 143 → w2 194 j = w 194 j) → (∀ j, w2 197 j = w 197 j) → Q (some (xi (if fitU t s P k wt 60 = true then 1 else 0))) g w2) : cal (d + 5) nMo_areDeeds [xr 193, xi k, xi wt] g w Q := by
  refine eMo_areDeeds fun lim Q2 h2 => wMo_areDeeds_0 ?_
  exact mo_ad1 hM hl li si hn hP pv hkk h6 h5 hm (fun w2 a b c => h2 _ g w2 rfl (hQ w2 a (fun j hj => (b j hj).trans (hv j hj)) c)) 60 0 w rfl (fun _ _ _ _ _ => rfl) hs
/-- one found already -/
theorem mo_wasB (hM : MG g) (hl : RMl t w0) (hs : RMs t s w0) (hv : ∀ j, j < 143 → w0 197 j = w0 194 j) (li : LInv t) (si : SInv t s) (hn : w0 193 50 = -1) (hP : RQ P 20 207 w0) (pv : PInv t P 8 1 60) (hkk : k < nS t) (h6 : s 6 k = 0) (h5 : 1 ≤ s 5 k) (hm : s 12 2 ≤ 999999800) {v : Int} (hi : i ≠ -1) (hQ : ∀ w2, MB w0 w2 → (∀ j, j < 143 → w2 194 j = w0 194 j) → Q (some (xi v)) g w2) : ∀ (n wt c : Nat) (w : xW), wt + n = 60 → i < c → c ≤ wt → MB w0 w → (∀ j, j < 143 → w 194 j = w0 194 j) → (∀ j, w 197 j = w0 197 j) → aMo_wasLit (d + 5) lim Q 35 [xr 193, xi k, xi i, xi c, xi v, xi wt] [] g w
  | 0, wt, c, w, e, hc, hc2, hf, h1, h2 => by
    refine wMo_wasLit_35 ?_
    simp only [m_o hM, true_and]
    exact ⟨fun _ => ⟨fun _ => hQ w hf h1, fun z => absurd z hi⟩, fun q => by omega⟩
  | n + 1, wt, c, w, e, hc, hc2, hf, h1, h2 => by
    refine wMo_wasLit_35 ?_
    simp only [m_o hM, true_and]
    refine ⟨fun q => by omega, fun _ => mo_areDeeds hM (hl.mb hf) (fun r i h => by rw [h1 _ (act_off li h)]; exact hs r i h) (fun j hj => by rw [h1 j hj, h2 j]; exact hv j hj) li si (by rw [hf 193 50 (by decide) (by decide) (by decide) (by decide) (by decide)]; exact hn) (hP.mb hf (by decide) (by decide)) pv hkk h6 h5 hm fun w2 f2 a2 b2 => ⟨_, rfl, fun z => ⟨by constructor <;> omega, ?_⟩, fun z => ⟨fun y => ⟨by constructor <;> omega, by constructor <;> omega, ?_⟩, fun y => by omega⟩⟩⟩
    · rw [show ((wt : Int) + 1) = ((wt + 1 : Nat) : Int) by omega]
      exact mo_wasB hM hl hs hv li si hn hP pv hkk h6 h5 hm hi hQ n (wt + 1) c w2 (by omega) hc (by omega) (hf.trans f2) (fun j hj => (a2 j hj).trans (h1 j hj)) fun j => (b2 j).trans (h2 j)
    · rw [show ((wt : Int) + 1) = ((wt + 1 : Nat) : Int) by omega, show ((c : Int) + 1) = ((c + 1 : Nat) : Int) by omega]
      exact mo_wasB hM hl hs hv li si hn hP pv hkk h6 h5 hm hi hQ n (wt + 1) (c + 1) w2 (by omega) (by omega) (by omega) (hf.trans f2) (fun j hj => (a2 j hj).trans (h1 j hj)) fun j => (b2 j).trans (h2 j)
theorem mo_wasA (hM : MG g) (hl : RMl t w0) (hs : RMs t s w0) (hv : ∀ j, j < 143 → w0 197 j = w0 194 j) (li : LInv t) (si : SInv t s) (hn : w0 193 50 = -1) (hP : RQ P 20 207 w0) (pv : PInv t P 8 1 60) (hkk : k < nS t) (h6 : s 6 k = 0) (h5 : 1 ≤ s 5 k) (hm : s 12 2 ≤ 999999800) : ∀ (n wt c : Nat) (w : xW), wt + n = 60 → c ≤ wt → MB w0 w → (∀ j, j < 143 → w 194 j = w0 194 j) → (∀ j, w 197 j = w0 197 j) → (∀ w2, MB w0 w2 → (∀ j, j < 143 → w2 194 j = w0 194 j) → Q (some (xi (wlk (fun wt => fitU t s P k wt 60) i n wt c))) g w2) → aMo_wasLit (d + 5) lim Q 35 [xr 193, xi k, xi i, xi c, xi (-1), xi wt] [] g w
  | 0, wt, c, w, e, hc2, hf, h1, h2, hQ => by
    refine wMo_wasLit_35 ?_
    simp only [m_o hM, true_and]
    refine ⟨fun _ => ⟨fun z => qe (hQ w hf h1) ?_, fun z => qe (hQ w hf h1) ?_⟩, fun q => by omega⟩
    · rw [wlk, if_neg z]
    · rw [wlk, if_pos z]
  | n + 1, wt, c, w, e, hc2, hf, h1, h2, hQ => by
    refine wMo_wasLit_35 ?_
    simp only [m_o hM, true_and]
    refine ⟨fun q => by omega, fun _ => mo_areDeeds hM (hl.mb hf) (fun r i h => by rw [h1 _ (act_off li h)]; exact hs r i h) (fun j hj => by rw [h1 j hj, h2 j]; exact hv j hj) li si (by rw [hf 193 50 (by decide) (by decide) (by decide) (by decide) (by decide)]; exact hn) (hP.mb hf (by decide) (by decide)) pv hkk h6 h5 hm fun w2 f2 a2 b2 => ⟨_, rfl, fun z => ⟨by constructor <;> omega, ?_⟩, fun z => ⟨fun y => ⟨by constructor <;> omega, by constructor <;> omega, ?_⟩, fun y => ⟨by constructor <;> omega, by constructor <;> omega, ?_⟩⟩⟩⟩
    · have z := ifv.1 z
      rw [show ((wt : Int) + 1) = ((wt + 1 : Nat) : Int) by omega]
      refine mo_wasA hM hl hs hv li si hn hP pv hkk h6 h5 hm n (wt + 1) c w2 (by omega) (by omega) (hf.trans f2) (fun j hj => (a2 j hj).trans (h1 j hj)) (fun j => (b2 j).trans (h2 j)) fun w3 f3 v3 => qe (hQ w3 f3 v3) ?_
      rw [wlk, if_neg z]
    · have z := ifv.2 z
      rw [show ((wt : Int) + 1) = ((wt + 1 : Nat) : Int) by omega, show ((c : Int) + 1) = ((c + 1 : Nat) : Int) by omega]
      refine mo_wasA hM hl hs hv li si hn hP pv hkk h6 h5 hm n (wt + 1) (c + 1) w2 (by omega) (by omega) (hf.trans f2) (fun j hj => (a2 j hj).trans (h1 j hj)) (fun j => (b2 j).trans (h2 j)) fun w3 f3 v3 => qe (hQ w3 f3 v3) ?_
      rw [wlk, if_pos z, if_neg y]; rfl
    · have z := ifv.2 z
      rw [show ((wt : Int) + 1) = ((wt + 1 : Nat) : Int) by omega, show ((c : Int) + 1) = ((c + 1 : Nat) : Int) by omega]
      refine mo_wasB hM hl hs hv li si hn hP pv hkk h6 h5 hm (by omega) (fun w3 f3 v3 => qe (hQ w3 f3 v3) ?_) n (wt + 1) (c + 1) w2 (by omega) (by omega) (by omega) (hf.trans f2) (fun j hj => (a2 j hj).trans (h1 j hj)) (fun j => (b2 j).trans (h2 j))
      rw [wlk, if_pos z, if_pos y]
theorem mo_wasLit {k : Int} (hM : MG g) (hl : RMl t w) (hs : RMs t s w) (li : LInv t) (si : SInv t s) (hn : w 193 50 = -1) (hP : RQ P 20 207 w) (pv : PInv t P 8 1 60) (hm : s 12 2 ≤ 999999800) (hQ : ∀ w2, MB w w2 → (∀ j, j < 143 → w2 194 j = w 194 j) → Q (some (xi (oWasLit t s P k i))) g w2) : cal (d + 6) nMo_wasLit [xr 193, xi k, xi i] g w Q := by
  refine eMo_wasLit fun lim Q2 h2 => wMo_wasLit_0 ?_
  have hQ := fun w2 a b => h2 _ g w2 rfl (hQ w2 a b)
  obtain ⟨n1, n2, n3, n4, n5, n6⟩ := li_n li
  unfold oWasLit at hQ
  simp only [m_o hM, true_and]
  refine mo_isStove hM hl li ⟨_, rfl, fun a => ?_, fun a => ?_⟩
  · have a := ifv.2 a
    rw [if_pos a] at hQ
    simp only [m_o hM, true_and]
    refine mo_canBeLit hM hs li (by omega) ⟨_, rfl, fun b => ?_, fun b => ?_⟩
    · have b := ifv.2 b
      rw [if_pos b] at hQ
      simp only [m_o hM, true_and]
      obtain ⟨K, hK⟩ := z_nn a.1
      subst hK
      rw [Int.toNat_natCast] at b hQ
      refine mo_start hM fun w1 f1 v1 => ⟨rfl, ?_⟩
      have m1 : MB w w1 := fun a j _ p _ _ _ => f1 a j p
      exact mo_wasA hM (hl.mb m1) (fun r i h => by rw [f1 194 _ (by decide)]; exact hs r i h) (fun j hj => by rw [v1 j hj, f1 194 _ (by decide)]) li si (by rw [f1 193 50 (by decide)]; exact hn) (hP.mb m1 (by decide) (by decide)) pv (by omega) b.1 (by omega) hm 60 0 0 w1 rfl (by omega) MB.refl (fun _ _ => rfl) (fun _ => rfl) fun w2 f2 v2 => hQ w2 (m1.trans f2) fun j hj => (v2 j hj).trans (f1 194 j (by decide))
    · rw [if_neg (ifv.1 b)] at hQ; exact hQ w MB.refl fun _ _ => rfl
  · rw [if_neg (ifv.1 a)] at hQ; exact hQ w MB.refl fun _ _ => rfl
end CMU
