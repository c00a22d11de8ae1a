/-! ===== rents: the reference ===== -/
section CNC
variable {g : xG} {w w0 : xW} {t s : zS} {d : Nat} {Q : xQ} {lim : Nat × Nat} {v : Int} {a r : Nat → Int}
/-- only rent has changed -/
def MR (w w2 : xW) : Prop := ∀ b j, b ≠ 218 → w2 b j = w b j
theorem MR.refl : MR w w := fun _ _ _ => rfl
theorem MR.trans {w2 w3 : xW} (h : MR w w2) (h2 : MR w2 w3) : MR w w3 := fun b j q => (h2 b j q).trans (h b j q)
theorem MR.mb {w2 : xW} (h : MR w w2) : MB w w2 := fun a j _ _ _ p _ => h a j p
theorem MR.st {w2 : xW} (hs : RMs t s w) (f : MR w w2) : RMs t s w2 := fun r i h => by rw [f 194 _ (by decide)]; exact hs r i h
theorem MR.up {i : Nat} : MR w (xup w 218 i v) := fun b j q => xup_a q
theorem mo_let44 (hM : MG g) (hl : RMl t w) (hs : RMs t s w) (li : LInv t) (si : SInv t s) (hr : ∀ o, o < 6 → w 218 o = r o) {c : Nat} (hc : c < nC t) (h3 : s 3 c ≠ -1) : ∀ (n b : Nat), b + n = 5 → Q (some (xi (if udU t s r c (r (s 3 c).toNat) n b = true then 0 else 1))) g w → aMo_isLet (d + 1) lim Q 44 [xr 193, xi c, xi (s 3 c), xi 1, xi b, none, none] [] g w
  | 0, b, hb, hQ => by
    refine wMo_isLet_44 ?_
    simp only [m_o hM, true_and]
    exact ⟨fun _ => ⟨Or.inr trivial, hQ⟩, fun h => by omega⟩
  | n + 1, b, hb, hQ => by
    obtain ⟨n1, n2, -, -, n5, n6⟩ := li_n li
    have h3b := (si.1 c hc).2.1
    have eo : w 218 (Int.toNat (s 3 c)) = r (s 3 c).toNat := hr _ (by omega)
    have go : ∀ u : Bool, u = false → (if udU t s r c (r (s 3 c).toNat) (n + 1) b = true then (0 : Int) else 1) = (if (u || udU t s r c (r (s 3 c).toNat) n (b + 1)) = true then 0 else 1) → aMo_isLet (d + 1) lim Q 44 [xr 193, xi c, xi (s 3 c), xi 1, xi ((b : Int) + 1), none, none] [] g w := fun u hu e => by
      rw [show ((b : Int) + 1) = ((b + 1 : Nat) : Int) by omega]
      refine mo_let44 hM hl hs li si hr hc h3 n (b + 1) (by omega) ?_
      subst hu
      rw [e] at hQ
      exact hQ
    refine wMo_isLet_44 ?_
    simp only [m_o hM, true_and]
    refine ⟨fun h => by omega, fun _ => ⟨fun q => absurd q (by decide), fun _ => mo_way hM hl hs li (by omega) ⟨_, rfl, fun z => ?_, fun z => ?_⟩⟩⟩
    · have hin := (wyy_in (s := s) (c := (c : Int)) li (by omega) b).resolve_left z
      have hD : (wyy t s c b).toNat < nC t := by omega
      have h3D := (si.1 _ hD).2.1
      have eD : w 194 (Int.toNat (60 + wyy t s c b)) = s 3 (wyy t s c b).toNat := by
        rw [show Int.toNat (60 + wyy t s c b) = 60 + (wyy t s c b).toNat by omega]; exact hs 3 (wyy t s c b).toNat hD
      simp only [m_o hM, m_p0 hM, m_r0 hM, eD, true_and]
      refine ⟨by constructor <;> omega, by constructor <;> omega, wMo_isLet_83 ?_⟩
      simp only [m_o hM, m_p51 hM, m_r51 hM, eo, true_and]
      refine ⟨fun y => ⟨by constructor <;> omega, go _ ?_ rfl⟩, fun y => ⟨fun x => ⟨by constructor <;> omega, go _ ?_ rfl⟩, fun x => ?_⟩⟩
      · rw [show decide (s 3 (wyy t s c b).toNat ≠ -1) = false by simp [y]]; simp
      · rw [show decide (s 3 (wyy t s c b).toNat ≠ s 3 c) = false by simp [x]]; simp
      · have er : w 218 (Int.toNat (s 3 (wyy t s c b).toNat)) = r (s 3 (wyy t s c b).toNat).toNat := hr _ (by omega)
        rw [er]
        refine ⟨by constructor <;> omega, by constructor <;> omega, fun u => ⟨by constructor <;> omega, ?_⟩, fun u => ⟨by constructor <;> omega, go _ ?_ rfl⟩⟩
        · refine wMo_isLet_44 ?_
          simp only [m_o hM, true_and]
          have hQ : Q (some (xi 0)) g w := by
            rw [udU, if_pos] at hQ
            · exact hQ
            · simp [z, y, x, u]
          refine ⟨fun _ => ⟨Or.inl trivial, hQ⟩, fun _ => ⟨fun _ => ⟨Or.inl trivial, hQ⟩, fun q => absurd trivial q⟩⟩
        · rw [show decide (r (s 3 (wyy t s c b).toNat).toNat < r (s 3 c).toNat) = false by simp; omega]; simp
    · refine wMo_isLet_83 ?_
      simp only [m_o hM, true_and]
      refine ⟨fun y => ⟨by constructor <;> omega, go _ ?_ rfl⟩, fun y => absurd trivial y⟩
      rw [show decide (wyy t s c b ≠ -1) = false by simp [z]]; rfl
theorem mo_isLet (hM : MG g) (hl : RMl t w) (hs : RMs t s w) (li : LInv t) (si : SInv t s) (hr : ∀ o, o < 6 → w 218 o = r o) {c : Nat} (hc : c < nC t) (h3 : s 3 c ≠ -1) (hQ : Q (some (xi (if (decide (r (s 3 c).toNat ≤ s 0 c / 50) && !udU t s r c (r (s 3 c).toNat) 4 1) = true then 1 else 0))) g w) : cal (d + 2) nMo_isLet [xr 193, xi c] g w Q := by
  refine eMo_isLet fun lim Q2 h2 => wMo_isLet_0 ?_
  have hQ := h2 _ _ _ rfl hQ
  obtain ⟨n1, n2, -, -, n5, n6⟩ := li_n li
  have h3b := (si.1 c hc).2.1
  have h0 := (si.1 c hc).1
  have e3 : w 194 (Int.toNat (60 + (c : Int))) = s 3 c := by rw [show Int.toNat (60 + (c : Int)) = 60 + c by omega]; exact hs 3 c hc
  have e0 : w 194 (Int.toNat (0 + (c : Int))) = s 0 c := by rw [show Int.toNat (0 + (c : Int)) = 0 + c by omega]; exact hs 0 c hc
  have eo : w 218 (Int.toNat (s 3 c)) = r (s 3 c).toNat := hr _ (by omega)
  simp only [m_o hM, m_p0 hM, m_r0 hM, m_p51 hM, m_r51 hM, e3, e0, eo, Int.tdiv_eq_ediv_of_nonneg h0.1, true_and]
  refine ⟨by constructor <;> omega, by constructor <;> omega, fun q => absurd q h3, fun _ => ⟨by constructor <;> omega, by constructor <;> omega, by constructor <;> omega, ⟨by decide, by constructor <;> omega⟩, fun y => ?_, fun y => ?_⟩⟩
  · refine wMo_isLet_44 ?_
    simp only [m_o hM, true_and]
    have hQ : Q2 (some (xi 0)) g w := by
      rw [if_neg] at hQ
      · exact hQ
      · rw [show decide (r (s 3 c).toNat ≤ s 0 c / 50) = false by simp; omega]; simp
    refine ⟨fun _ => ⟨Or.inl trivial, hQ⟩, fun _ => ⟨fun _ => ⟨Or.inl trivial, hQ⟩, fun q => absurd trivial q⟩⟩
  · refine mo_let44 hM hl hs li si hr hc h3 4 1 rfl (qe hQ ?_)
    rw [show decide (r (s 3 c).toNat ≤ s 0 c / 50) = true by simp [y]]
    cases udU t s r c (r (s 3 c).toNat) 4 1 <;> rfl
theorem udU_cg {p : Nat} {c : Nat} (li : LInv t) (si : SInv t s) (hc : c < nC t) (h3 : s 3 c = p) (e : ∀ o, o ≠ p → r o = a o) : ∀ n b, udU t s r c v n b = udU t s a c v n b
  | 0, _ => rfl
  | n + 1, b => by
    unfold udU
    rw [udU_cg li si hc h3 e n (b + 1)]
    congr 1
    by_cases z : wyy t s c b = -1
    · simp [z]
    · have hin := (wyy_in (s := s) (c := (c : Int)) li (by omega) b).resolve_left z
      have h3D := (si.1 (wyy t s c b).toNat (by omega)).2.1
      by_cases y : s 3 (wyy t s c b).toNat = -1
      · simp [y]
      · by_cases x : s 3 (wyy t s c b).toNat = s 3 c
        · simp [x]
        · rw [e _ (by omega)]
theorem udU_lt {c : Nat} (li : LInv t) (si : SInv t s) (hc : c < nC t) (e : ∀ o, o < 6 → r o = a o) : ∀ {n b}, udU t s r c v n b = udU t s a c v n b
  | 0, _ => rfl
  | n + 1, b => by
    obtain ⟨-, -, -, -, n5, n6⟩ := li_n li
    unfold udU
    rw [udU_lt li si hc e (n := n) (b := b + 1)]
    congr 1
    by_cases z : wyy t s c b = -1
    · simp [z]
    · have hin := (wyy_in (s := s) (c := (c : Int)) li (by omega) b).resolve_left z
      have h3D := (si.1 (wyy t s c b).toNat (by omega)).2.1
      by_cases y : s 3 (wyy t s c b).toNat = -1
      · simp [y]
      · rw [e _ (by omega)]
theorem mo_brings1 (hM : MG g) (hl : RMl t w) (hs : RMs t s w) (li : LInv t) (si : SInv t s) {p : Nat} (hp : p < nP t) (ho : ∀ o, o < 6 → o ≠ p → w 218 o = a o) (hv : w 218 p = v) (hvb : 0 ≤ v ∧ v ≤ 9) (hQ : Q (some (xi (v * cnL t s a p v (nC t)))) g w) : ∀ (n c : Nat), c + n = nC t → aMo_brings (d + 2) lim Q 4 [xr 193, xi p, xi (v * cnL t s a p v c), xi c] [] g w
  | 0, c, hc => by
    have hc : c = nC t := by omega
    subst hc
    refine wMo_brings_4 ?_
    simp only [m_o hM, true_and]
    exact mo_cells hM hl li ⟨_, rfl, fun _ => hQ, fun h => by omega⟩
  | n + 1, c, hc => by
    obtain ⟨n1, n2, -, -, n5, n6⟩ := li_n li
    have hcn : c < nC t := by omega
    have hb : 0 ≤ cnL t s a p v c ∧ cnL t s a p v c ≤ c := cnL_b c
    have hm : 0 ≤ v * cnL t s a p v c ∧ v * cnL t s a p v c ≤ 180 := by
      have : v = 0 ∨ v = 1 ∨ v = 2 ∨ v = 3 ∨ v = 4 ∨ v = 5 ∨ v = 6 ∨ v = 7 ∨ v = 8 ∨ v = 9 := by omega
      generalize cnL t s a p v c = C at *
      rcases this with q | q | q | q | q | q | q | q | q | q <;> subst q <;> omega
    have e3 : w 194 (Int.toNat (60 + (c : Int))) = s 3 c := by rw [show Int.toNat (60 + (c : Int)) = 60 + c by omega]; exact hs 3 c hcn
    have ev : w 218 (Int.toNat (p : Int)) = v := by rw [Int.toNat_natCast]; exact hv
    have ih := mo_brings1 hM hl hs li si hp ho hv hvb hQ n (c + 1) (by omega)
    have no : ltc t s a p v c = false → aMo_brings (d + 2) lim Q 4 [xr 193, xi p, xi (v * cnL t s a p v c + 0), xi ((c : Int) + 1)] [] g w := fun z => by
      rw [show ((c : Int) + 1) = ((c + 1 : Nat) : Int) by omega, Int.add_zero]
      rw [cnL, if_neg (by rw [z]; decide), Int.add_zero] at ih; exact ih
    refine wMo_brings_4 ?_
    simp only [m_o hM, true_and]
    refine mo_cells hM hl li ⟨_, rfl, fun h => by omega, fun _ => ?_⟩
    simp only [m_o hM, m_p0 hM, m_r0 hM, e3, true_and]
    refine ⟨by constructor <;> omega, by constructor <;> omega, fun z => ⟨by constructor <;> omega, by constructor <;> omega, no ?_⟩, fun z => ?_⟩
    · unfold ltc; simp [z]
    · have hr : ∀ o, o < 6 → w 218 o = (fun o => w 218 o) o := fun _ _ => rfl
      have er : w 218 (s 3 c).toNat = v := by rw [z, Int.toNat_natCast]; exact hv
      have eu2 : udU t s (fun o => w 218 o) c v 4 1 = udU t s a c v 4 1 := by
        rw [udU_cg (a := fun o => if o < 6 then a o else w 218 o) li si hcn z (fun o q => ?_)]
        · exact udU_lt li si hcn fun o q => by show (if o < 6 then a o else w 218 o) = a o; rw [if_pos q]
        · show w 218 o = if o < 6 then a o else w 218 o
          by_cases y : o < 6
          · rw [if_pos y]; exact ho o y q
          · rw [if_neg y]
      refine mo_isLet (r := fun o => w 218 o) hM hl hs li si hr hcn (by omega) ⟨_, rfl, fun y => ⟨by constructor <;> omega, by constructor <;> omega, no ?_⟩, fun y => ?_⟩
      · have y := ifv.1 y
        rw [er, eu2] at y
        unfold ltc
        rw [show decide (s 3 c = (p : Int)) = true by simp [z], Bool.true_and]
        cases h : (decide (v ≤ s 0 c / 50) && !udU t s a c v 4 1)
        · rfl
        · exact absurd h y
      · have y := ifv.2 y
        rw [er, eu2] at y
        have hy : ltc t s a p v c = true := by
          unfold ltc
          rw [show decide (s 3 c = (p : Int)) = true by simp [z], Bool.true_and]; exact y
        simp only [m_o hM, m_p51 hM, m_r51 hM, ev, true_and]
        refine ⟨by constructor <;> omega, by constructor <;> omega, by constructor <;> omega, ?_⟩
        rw [show ((c : Int) + 1) = ((c + 1 : Nat) : Int) by omega]
        rw [cnL, if_pos hy, Int.mul_add, Int.mul_one] at ih; exact ih
theorem mo_brings (hM : MG g) (hl : RMl t w) (hs : RMs t s w) (li : LInv t) (si : SInv t s) {p : Nat} (hp : p < nP t) (ho : ∀ o, o < 6 → o ≠ p → w 218 o = a o) (hv : w 218 p = v) (hvb : 0 ≤ v ∧ v ≤ 9) (hQ : Q (some (xi (v * cnL t s a p v (nC t)))) g w) : cal (d + 3) nMo_brings [xr 193, xi p] g w Q := by
  refine eMo_brings fun lim Q2 h2 => wMo_brings_0 ?_
  have := mo_brings1 (d := d) (lim := lim) hM hl hs li si hp ho hv hvb (h2 _ _ _ rfl hQ) (nC t) 0 (by omega)
  rw [cnL, Int.mul_zero] at this; exact this
theorem mo_best1 (hM : MG g) (hl : RMl t w0) (hs : RMs t s w0) (li : LInv t) (si : SInv t s) {p : Nat} (hp : p < nP t) (hQ : ∀ w2, MR w0 w2 → (∀ o, o < 6 → w2 218 o = a o) → ∀ z, z = bsR t s a p → Q (some (xi z)) g w2) : ∀ (n v : Nat) (b m : Int) (w : xW), v + n = 10 → bsr t s a p n v b m = bsR t s a p → MR w0 w → (∀ o, o < 6 → o ≠ p → w 218 o = a o) → aMo_bestRent (d + 3) lim Q 15 [xr 193, xi p, xi (a p), xi b, xi m, xi v, none] [] g w
  | 0, v, b, m, w, hv, he, hf, ho => by
    obtain ⟨n1, n2, -, -, n5, n6⟩ := li_n li
    refine wMo_bestRent_15 ?_
    simp only [m_o hM, m_p51 hM, m_a51 hM, true_and]
    refine ⟨fun _ => ⟨by constructor <;> omega, ?_⟩, fun h => by omega⟩
    rw [Int.toNat_natCast]
    refine hQ _ (hf.trans MR.up) (fun o q => ?_) _ he
    by_cases z : o = p
    · subst z; rw [xup_s]
    · rw [xup_k z]; exact ho o q z
  | n + 1, v, b, m, w, hv, he, hf, ho => by
    obtain ⟨n1, n2, -, -, n5, n6⟩ := li_n li
    refine wMo_bestRent_15 ?_
    simp only [m_o hM, m_p51 hM, m_a51 hM, true_and]
    refine ⟨fun h => by omega, fun _ => ⟨by constructor <;> omega, ?_⟩⟩
    rw [Int.toNat_natCast]
    have f1 : MR w0 (xup w 218 p v) := hf.trans MR.up
    have o1 : ∀ o, o < 6 → o ≠ p → xup w 218 p v 218 o = a o := fun o q z => by rw [xup_k z]; exact ho o q z
    have e1 : xup w 218 p v 218 p = (v : Int) := xup_s
    generalize xup w 218 p (v : Int) = w1 at f1 o1 e1
    refine mo_brings hM (hl.mb f1.mb) (MR.st hs f1) li si hp o1 e1 (by omega) ⟨_, rfl, fun z => ?_, fun z => ?_⟩
    · refine wMo_bestRent_50 ?_
      refine ⟨fun _ => ⟨by constructor <;> omega, ?_⟩, fun y => by omega⟩
      rw [show ((v : Int) + 1) = ((v + 1 : Nat) : Int) by omega]
      refine mo_best1 hM hl hs li si hp hQ n (v + 1) b m w1 (by omega) ?_ f1 o1
      rw [bsr, if_neg (by omega)] at he; exact he
    · refine wMo_bestRent_50 ?_
      refine ⟨fun y => by omega, fun _ => ⟨by constructor <;> omega, ?_⟩⟩
      rw [show ((v : Int) + 1) = ((v + 1 : Nat) : Int) by omega]
      refine mo_best1 hM hl hs li si hp hQ n (v + 1) v _ w1 (by omega) ?_ f1 o1
      rw [bsr, if_pos z] at he; exact he
theorem mo_bestRent (hM : MG g) (hl : RMl t w) (hs : RMs t s w) (li : LInv t) (si : SInv t s) {p : Nat} (hp : p < nP t) (ha : ∀ o, o < 6 → w 218 o = a o) (hQ : ∀ w2, MR w w2 → (∀ o, o < 6 → w2 218 o = a o) → Q (some (xi (bsR t s a p))) g w2) : cal (d + 4) nMo_bestRent [xr 193, xi p] g w Q := by
  refine eMo_bestRent fun lim Q2 h2 => wMo_bestRent_0 ?_
  obtain ⟨n1, n2, -, -, n5, n6⟩ := li_n li
  have ep : w 218 (Int.toNat (p : Int)) = a p := by rw [Int.toNat_natCast]; exact ha p (by omega)
  simp only [m_o hM, m_p51 hM, m_r51 hM, ep, true_and]
  refine ⟨by constructor <;> omega, mo_best1 hM hl hs li si hp (fun w2 f2 a2 z hz => by rw [hz]; exact h2 _ _ _ rfl (hQ w2 f2 a2)) 10 0 0 (-1) w rfl ?_ MR.refl fun o q _ => ha o q⟩
  rw [bsr, if_pos (by simp)]
  simp [bsR]
theorem mo_rents50 (hM : MG g) (hl : RMl t w0) (hs : RMs t s w0) (li : LInv t) (si : SInv t s) {p : Int} {rd : Nat} (hk : ∀ w2, MR w0 w2 → (∀ o, o < 6 → w2 218 o = (asU t s a (nP t)).1 o) → aMo_rents (d + 4) lim Q 50 [xr 193, xi p, xi rd, xi (if (asU t s a (nP t)).2 = true then 1 else 0), xi (nP t), none] [] g w2) : ∀ (n o : Nat) (w : xW), o + n = nP t → MR w0 w → (∀ i, i < 6 → w 218 i = (asU t s a o).1 i) → aMo_rents (d + 4) lim Q 50 [xr 193, xi p, xi rd, xi (if (asU t s a o).2 = true then 1 else 0), xi o, none] [] g w
  | 0, o, w, ho, hf, ha => by
    have ho : o = nP t := by omega
    subst ho
    exact hk w hf ha
  | n + 1, o, w, ho, hf, ha => by
    obtain ⟨-, -, -, -, n5, n6⟩ := li_n li
    have e5 : w 193 13 = t 0 5 := (hl.mb hf.mb).2.2.2.2.2.1
    refine wMo_rents_50 ?_
    simp only [m_o hM, e5, true_and]
    refine ⟨fun h => by omega, fun _ => mo_bestRent hM (hl.mb hf.mb) (MR.st hs hf) li si (by omega) ha fun w2 f2 a2 => ?_⟩
    have f12 := hf.trans f2
    have ea : w2 218 (Int.toNat (o : Int)) = (asU t s a o).1 o := by rw [Int.toNat_natCast]; exact a2 o (by omega)
    have fin : ∀ u : Int, u = (if (asU t s a (o + 1)).2 = true then 1 else 0) → aMo_rents (d + 4) lim Q 88 [xr 193, xi p, xi rd, none, xi o, xi (bsR t s (asU t s a o).1 o)] [xi u] g w2 := fun u hu => by
      refine wMo_rents_88 ?_
      simp only [m_o hM, m_p51 hM, m_a51 hM, true_and]
      refine ⟨by constructor <;> omega, by constructor <;> omega, ?_⟩
      rw [show ((o : Int) + 1) = ((o + 1 : Nat) : Int) by omega, hu, Int.toNat_natCast]
      refine mo_rents50 hM hl hs li si hk n (o + 1) _ (by omega) (f12.trans MR.up) fun i hi => ?_
      show _ = zup (asU t s a o).1 o (bsR t s (asU t s a o).1 o) i
      by_cases z : i = o
      · subst z; rw [xup_s, zup_s]
      · rw [xup_k z, zup_n z]; exact a2 i hi
    refine ⟨_, rfl, fun z => fin 1 ?_, fun z => ?_⟩
    · have z := ifv.2 z
      rw [asU, z, if_pos]; rfl
    · have z := ifv.1 z
      have z : (asU t s a o).2 = false := by
        cases h : (asU t s a o).2
        · rfl
        · exact absurd h z
      simp only [m_o hM, m_p51 hM, m_r51 hM, ea, true_and]
      refine ⟨by constructor <;> omega, fun y => fin 0 ?_, fun y => fin 1 ?_⟩
      · rw [asU, z, if_neg]; simp [y]
      · rw [asU, z, if_pos]; simp [y]
theorem mo_rents39 (hM : MG g) (hl : RMl t w0) (hs : RMs t s w0) (li : LInv t) (si : SInv t s) {p : Int} (hp : p = -1 ∨ (0 ≤ p ∧ p < t 0 5)) : ∀ (n rd : Nat) (a : Nat → Int) (w : xW), rd + n = 20 → MR w0 w → (∀ o, o < 6 → w 218 o = a o) → (∀ w2, MR w0 w2 → Q (some (xi (if p = -1 ∨ (stl t s n rd a).1 = -1 then (stl t s n rd a).1 else (stl t s n rd a).2 p.toNat))) g w2) → aMo_rents (d + 4) lim Q 39 [xr 193, xi p, xi rd, none, none, none] [] g w
  | 0, rd, a, w, hr, hf, ha, hQ => by
    refine wMo_rents_39 ?_
    have := hQ w hf
    rw [stl, if_pos (Or.inr rfl)] at this
    exact ⟨fun _ => this, fun h => by omega⟩
  | n + 1, rd, a, w, hr, hf, ha, hQ => by
    obtain ⟨-, -, -, -, n5, n6⟩ := li_n li
    refine wMo_rents_39 ⟨fun h => by omega, fun _ => ?_⟩
    refine mo_rents50 (a := a) hM (hl.mb hf.mb) (MR.st hs hf) li si (fun w2 f2 a2 => ?_) (nP t) 0 w (by omega) MR.refl ha
    have f12 := hf.trans f2
    have e5 : w2 193 13 = t 0 5 := (hl.mb f12.mb).2.2.2.2.2.1
    refine wMo_rents_50 ?_
    simp only [m_o hM, m_p51 hM, m_r51 hM, e5, true_and]
    refine ⟨fun _ => ⟨fun z => ⟨by constructor <;> omega, ?_⟩, fun z => ⟨fun y => ⟨by constructor <;> omega, ?_⟩, fun y => ?_⟩⟩, fun h => by omega⟩
    · have z := ifv.2 z
      rw [show ((rd : Int) + 1) = ((rd + 1 : Nat) : Int) by omega]
      refine mo_rents39 hM hl hs li si hp n (rd + 1) _ w2 (by omega) f12 a2 fun w3 f3 => ?_
      have := hQ w3 f3
      rw [stl, if_pos z] at this; exact this
    · have z := ifv.1 z
      have := hQ w2 f12
      rw [stl, if_neg z, if_neg (by
        intro u
        rcases u with u | u
        · exact y u
        · have u : (rd : Int) = -1 := u
          omega)] at this
      rw [a2 p.toNat (by omega)]; exact this
    · have z := ifv.1 z
      have := hQ w2 f12
      rw [stl, if_neg z, if_pos (Or.inl y)] at this; exact this
theorem mo_rents18 (hM : MG g) {p : Int} (hk : ∀ w2, MR w0 w2 → (∀ o, o < 6 → w2 218 o = 0) → aMo_rents d lim Q 39 [xr 193, xi p, xi 0, none, none, none] [] g w2) : ∀ (n o : Nat) (w : xW), o + n = 6 → MR w0 w → (∀ i, i < o → w 218 i = 0) → aMo_rents d lim Q 18 [xr 193, xi p, xi o, none, none, none] [] g w
  | 0, o, w, ho, hf, ha => by
    have ho : o = 6 := by omega
    subst ho
    exact wMo_rents_18 ⟨fun _ => hk w hf ha, fun h => by omega⟩
  | n + 1, o, w, ho, hf, ha => by
    refine wMo_rents_18 ?_
    simp only [m_o hM, m_p51 hM, m_a51 hM, true_and]
    refine ⟨fun h => by omega, fun _ => ⟨by constructor <;> omega, by constructor <;> omega, ?_⟩⟩
    rw [show ((o : Int) + 1) = ((o + 1 : Nat) : Int) by omega, Int.toNat_natCast]
    refine mo_rents18 hM hk n (o + 1) _ (by omega) (hf.trans MR.up) fun i q => ?_
    by_cases z : i = o
    · subst z; rw [xup_s]
    · rw [xup_k z]; exact ha i (by omega)
theorem mo_rents {p : Int} (hM : MG g) (hl : RMl t w) (hs : RMs t s w) (li : LInv t) (si : SInv t s) (hQ : ∀ w2, MR w w2 → Q (some (xi (oRents t s p))) g w2) : cal (d + 5) nMo_rents [xr 193, xi p] g w Q := by
  refine eMo_rents fun lim Q2 h2 => wMo_rents_0 ?_
  have hQ := fun w2 a => h2 _ g w2 rfl (hQ w2 a)
  unfold oRents at hQ
  have go : (p = -1 ∨ (0 ≤ p ∧ p < t 0 5)) → aMo_rents (d + 4) lim Q2 18 [xr 193, xi p, xi 0, none, none, none] [] g w := fun hp => by
    rw [if_pos hp] at hQ
    refine mo_rents18 hM (fun w2 f2 a2 => ?_) 6 0 w rfl MR.refl fun i q => by omega
    exact mo_rents39 hM hl hs li si hp 20 0 (fun _ => 0) w2 rfl f2 a2 hQ
  refine ⟨fun z => go (Or.inl z), fun z => ?_⟩
  simp only [m_o hM, true_and]
  refine mo_isPerson hM hl li ⟨_, rfl, fun y => go (Or.inr (ifv.2 y)), fun y => ?_⟩
  rw [if_neg (fun u => u.elim z (ifv.1 y))] at hQ; exact hQ w MR.refl
end CNC
