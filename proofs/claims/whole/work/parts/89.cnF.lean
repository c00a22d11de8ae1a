/-! ===== stands: the reference ===== -/
section CNF
variable {g : xG} {w w0 : xW} {t s : zS} {d : Nat} {Q : xQ} {lim : Nat × Nat} {p n : Nat}
theorem pow5_b {k : Nat} (h : k ≤ 5) : 1 ≤ 5 ^ k ∧ 5 ^ k ≤ 3125 := by
  have : ∀ k : Nat, k ≤ 5 → 1 ≤ 5 ^ k ∧ 5 ^ k ≤ 3125 := by decide
  exact this k h
theorem mo_power1 {K : Nat} (hK : K ≤ 5) (hQ : Q (some (xi ((5 ^ K : Nat) : Int))) g w) : ∀ (n i : Nat), i + n = K → aMo_power d lim Q 4 [xi 5, xi K, xi ((5 ^ i : Nat) : Int), xi i] [] g w
  | 0, i, hi => by
    have hi : i = K := by omega
    subst hi
    exact wMo_power_4 ⟨fun _ => hQ, fun h => by omega⟩
  | n + 1, i, hi => by
    have hb := pow5_b (k := i) (by omega)
    refine wMo_power_4 ⟨fun h => by omega, fun _ => ⟨by constructor <;> omega, by constructor <;> omega, ?_⟩⟩
    rw [show ((i : Int) + 1) = ((i + 1 : Nat) : Int) by omega, show (((5 ^ i : Nat) : Int) * 5) = ((5 ^ (i + 1) : Nat) : Int) by rw [Nat.pow_succ]; omega]
    exact mo_power1 hK hQ n (i + 1) (by omega)
theorem mo_power {K : Int} {k : Nat} (he : K = k) (hK : k ≤ 5) (hQ : Q (some (xi ((5 ^ k : Nat) : Int))) g w) : cal (d + 1) nMo_power [xi 5, xi K] g w Q := by
  subst he
  refine eMo_power fun lim Q2 h2 => wMo_power_0 ?_
  exact mo_power1 hK (h2 _ _ _ rfl hQ) k 0 (by omega)
theorem dig_i {c e : Nat} : Int.tmod (Int.tdiv (c : Int) ((5 ^ e : Nat) : Int)) 5 = ((c / 5 ^ e % 5 : Nat) : Int) ∧ Int.tdiv (c : Int) ((5 ^ e : Nat) : Int) = ((c / 5 ^ e : Nat) : Int) ∧ Int.tdiv (Int.tdiv (c : Int) ((5 ^ e : Nat) : Int)) 5 = ((c / 5 ^ e / 5 : Nat) : Int) := by
  have e1 : Int.tdiv (c : Int) ((5 ^ e : Nat) : Int) = ((c / 5 ^ e : Nat) : Int) := (Int.ofNat_tdiv c (5 ^ e)).symm
  rw [e1]
  refine ⟨?_, rfl, ?_⟩
  · generalize c / 5 ^ e = X
    rw [Int.tmod_eq_emod_of_nonneg (by omega)]; omega
  · generalize c / 5 ^ e = X
    rw [Int.tdiv_eq_ediv_of_nonneg (by omega)]; omega
theorem dig_b {c e : Nat} : (0 ≤ Int.tdiv (c : Int) ((5 ^ e : Nat) : Int) ∧ Int.tdiv (c : Int) ((5 ^ e : Nat) : Int) ≤ c) ∧ (0 ≤ Int.tdiv (Int.tdiv (c : Int) ((5 ^ e : Nat) : Int)) 5 ∧ Int.tdiv (Int.tdiv (c : Int) ((5 ^ e : Nat) : Int)) 5 ≤ c) := by
  obtain ⟨-, d2, d3⟩ := dig_i (c := c) (e := e)
  have b1 : c / 5 ^ e ≤ c := Nat.div_le_self _ _
  have b2 : c / 5 ^ e / 5 ≤ c / 5 ^ e := Nat.div_le_self _ _
  rw [d3, d2]
  exact ⟨⟨Int.natCast_nonneg _, Int.ofNat_le.2 b1⟩, Int.natCast_nonneg _, Int.ofNat_le.2 (Nat.le_trans b2 b1)⟩
theorem mo_ob1 (hM : MG g) (hl : RMl t w0) (li : LInv t) (hnn : w0 193 50 = -1) (hn : n ≤ 5) (hp : p < nP t) {c : Nat} (hc : c ≤ 3125) : ∀ (m k : Nat) (σ : zS) (w : xW), k + m = n → MF w0 w → RMs t σ w → SInv t σ → σ 12 2 + m ≤ 1000000000 → (∀ w2, MF w0 w2 → Q (some (xi (obw t p m σ c))) g w2) → aMo_ownsBy (d + 4) lim Q 3 [xr 193, xi p, xi n, xi c, xi k, none] [] g w
  | 0, k, σ, w, hk, hf, hs, si, hm, hQ => by
    refine wMo_ownsBy_3 ?_
    simp only [m_o hM, true_and]
    exact ⟨fun _ => mo_owns hM (hl.fr hf) hs li ⟨_, rfl, hQ w hf⟩, fun h => by omega⟩
  | m + 1, k, σ, w, hk, hf, hs, si, hm, hQ => by
    obtain ⟨-, n2, -, -, n5, n6⟩ := li_n li
    have h7 := (si.2.2.2.2.1 p hp).1
    have hm0 := si.2.2.2.2.2.2.2.1
    have e7 : w 194 (Int.toNat (108 + (p : Int))) = σ 7 p := by rw [show Int.toNat (108 + (p : Int)) = 108 + p by omega]; exact hs 7 p hp
    have hb := pow5_b (k := m) (by omega)
    obtain ⟨d1, d2, d3⟩ := dig_i (c := c) (e := m)
    have b1 := dig_b (c := c) (e := m)
    refine wMo_ownsBy_3 ?_
    simp only [m_o hM, m_p0 hM, m_r0 hM, e7, true_and]
    refine ⟨fun h => by omega, fun _ => ⟨by constructor <;> omega, by constructor <;> omega, by constructor <;> omega, by constructor <;> omega, mo_power (k := m) (by omega) (by omega) ⟨_, rfl, ?_⟩⟩⟩
    rw [d1]
    simp only [m_o hM, true_and]
    refine ⟨⟨by omega, by constructor <;> omega⟩, ⟨by decide, by constructor <;> omega⟩, mo_way hM (hl.fr hf) hs li h7 ⟨_, rfl, fun q => ?_, fun q => qe (hQ w hf) ?_⟩⟩
    · have hin := (wyy_in (s := σ) li h7 _).resolve_left q
      simp only [m_o hM, m_p0 hM, m_a0 hM, true_and]
      refine ⟨by constructor <;> omega, by constructor <;> omega, ?_⟩
      have f1 : MF w0 (xup w 194 (Int.toNat (108 + (p : Int))) (wyy t σ (σ 7 p) ((c / 5 ^ m % 5 : Nat) : Int))) := hf.trans fun a j p _ _ => xup_a p
      have s1 := hs.put li (r := 7) (i := p) (v := wyy t σ (σ 7 p) ((c / 5 ^ m % 5 : Nat) : Int)) hp (j := Int.toNat (108 + (p : Int))) (by show _ = 108 + _; omega)
      generalize xup w 194 (Int.toNat (108 + (p : Int))) (wyy t σ (σ 7 p) ((c / 5 ^ m % 5 : Nat) : Int)) = w1 at f1 s1
      refine mo_goMinute (numb := -1) hM (hl.fr f1) s1 li (si_7 si hin) (by rw [zset_n (by decide)]; omega) (by rw [f1 193 50 (by decide) (by decide) (fun _ => by decide)]; exact hnn) fun w2 f2 s2 _ => ⟨rfl, by constructor <;> omega, ?_⟩
      rw [show ((k : Int) + 1) = ((k + 1 : Nat) : Int) by omega]
      refine mo_ob1 hM hl li hnn hn hp hc m (k + 1) (mv t σ p (c / 5 ^ m % 5)) w2 (by omega) (f1.trans f2) s2 (si_mv li si hp q (by omega)) (by rw [mv_m]; omega) fun w3 f3 => ?_
      have := hQ w3 f3
      rw [obw, if_neg q] at this; exact this
    · rw [obw, if_pos q]
def vSt (n : Nat) (i : Int) (z : Int × Nat) : Int := if i = -1 then z.1 else if 0 ≤ i ∧ i < n then ((z.2 / 5 ^ (n - 1 - i.toNat) % 5 : Nat) : Int) else -1
theorem mo_st39 {i : Int} (hM : MG g) (hl : RMl t w0) (hs : RMs t s w0) (hv : ∀ j, j < 143 → w0 197 j = w0 194 j) (li : LInv t) (si : SInv t s) (hnn : w0 193 50 = -1) (hn : 1 ≤ n ∧ n ≤ 5) (hp : p < nP t) (hm : s 12 2 ≤ 999999900) : ∀ (k c : Nat) (z : Int × Nat) (w : xW), c + k = 5 ^ n → z.2 ≤ 3125 → MB w0 w → (∀ j, j < 143 → w 194 j = w0 194 j) → (∀ j, w 197 j = w0 197 j) → (∀ w2, MB w0 w2 → (∀ j, j < 143 → w2 194 j = w0 194 j) → Q (some (xi (vSt n i (fld (fob t p n s) k c z)))) g w2) → aMo_stands (d + 5) lim Q 39 [xr 193, xi p, xi n, xi i, xi z.2, xi z.1, xi c, none] [] g w
  | 0, c, z, w, hc, hz, hf, h1, h2, hQ => by
    have hb := pow5_b (k := n) (by omega)
    refine wMo_stands_39 (mo_power (k := n) rfl (by omega) ⟨_, rfl, fun _ => ⟨fun q => ⟨by constructor <;> omega, mo_in ⟨_, rfl, fun y => ?_, fun y => ?_⟩⟩, fun q => ?_⟩, fun h => by omega⟩)
    · have y := ifv.1 y
      refine qe (hQ w hf h1) ?_
      unfold vSt
      rw [if_neg q, if_neg (by omega)]
    · have y := ifv.2 y
      obtain ⟨I, hI⟩ := z_nn y.1
      subst hI
      obtain ⟨d1, d2, d3⟩ := dig_i (c := z.2) (e := n - 1 - I)
      have b1 := dig_b (c := z.2) (e := n - 1 - I)
      have hb2 := pow5_b (k := n - 1 - I) (by omega)
      refine ⟨by constructor <;> omega, by constructor <;> omega, mo_power (k := n - 1 - I) (by omega) (by omega) ⟨_, rfl, ⟨by omega, by constructor <;> omega⟩, ⟨by decide, by constructor <;> omega⟩, qe (hQ w hf h1) ?_⟩⟩
      unfold vSt
      rw [if_neg q, if_pos (by omega), d1]; rfl
    · refine qe (hQ w hf h1) ?_
      unfold vSt
      rw [if_pos q]; rfl
  | k + 1, c, z, w, hc, hz, hf, h1, h2, hQ => by
    have hb := pow5_b (k := n) (by omega)
    have hs1 : RMs t s w := fun r j q => by rw [h1 _ (act_off li q)]; exact hs r j q
    refine wMo_stands_39 (mo_power (k := n) rfl (by omega) ⟨_, rfl, fun h => by omega, fun _ => ?_⟩)
    simp only [m_o hM, true_and]
    refine eMo_ownsBy fun lim2 Q3 h3 => wMo_ownsBy_0 ?_
    refine mo_ob1 hM (hl.mb hf) li (by rw [hf 193 50 (by decide) (by decide) (by decide) (by decide) (by decide)]; exact hnn) hn.2 hp (by omega) n 0 s w (by omega) (fun _ _ _ _ _ => rfl) hs1 si (by omega) fun w2 f2 => h3 _ _ _ rfl ⟨_, rfl, m_o hM, ?_⟩
    refine mo_back hM fun w3 f3 v3 => ⟨rfl, ?_⟩
    have e197 : ∀ j, w3 197 j = w 197 j := fun j => (f3 197 j (by decide)).trans (f2 197 j (by decide) (by decide) (fun z => absurd z (by decide)))
    have m3 : MB w0 w3 := hf.trans (f2.mb.trans fun a j p _ _ _ _ => f3 a j p)
    have g1 : ∀ j, j < 143 → w3 194 j = w0 194 j := fun j hj => by rw [v3 j hj, ← f3 197 j (by decide), e197, h2, hv j hj]
    have g2 : ∀ j, w3 197 j = w0 197 j := fun j => (e197 j).trans (h2 j)
    have ih : ∀ z2 : Int × Nat, z2.2 ≤ 3125 → (∀ w2, MB w0 w2 → (∀ j, j < 143 → w2 194 j = w0 194 j) → Q (some (xi (vSt n i (fld (fob t p n s) k (c + 1) z2)))) g w2) → aMo_stands (d + 5) lim Q 39 [xr 193, xi p, xi n, xi i, xi z2.2, xi z2.1, xi ((c + 1 : Nat) : Int), none] [] g w3 := fun z2 hz2 hQ2 => mo_st39 hM hl hs hv li si hnn hn hp hm k (c + 1) z2 w3 (by omega) hz2 m3 g1 g2 hQ2
    refine ⟨fun q => wMo_stands_77 ⟨fun _ => ⟨by constructor <;> omega, ?_⟩, fun y => by omega⟩, fun q => wMo_stands_77 ⟨fun y => by omega, fun _ => ⟨by constructor <;> omega, ?_⟩⟩⟩
    · rw [show ((c : Int) + 1) = ((c + 1 : Nat) : Int) by omega]
      refine ih z hz fun w4 f4 v4 => ?_
      have := hQ w4 f4 v4
      rw [fld, fob, if_neg (by omega)] at this; exact this
    · rw [show ((c : Int) + 1) = ((c + 1 : Nat) : Int) by omega]
      refine ih (obw t p n s c, c) (by show c ≤ 3125; omega) fun w4 f4 v4 => ?_
      have := hQ w4 f4 v4
      rw [fld, fob, if_pos q] at this; exact this
theorem mo_stands {P n i : Int} (hM : MG g) (hl : RMl t w) (hs : RMs t s w) (li : LInv t) (si : SInv t s) (hnn : w 193 50 = -1) (hm : s 12 2 ≤ 999999900) (hQ : ∀ w2, MB w w2 → (∀ j, j < 143 → w2 194 j = w 194 j) → Q (some (xi (oStands t s P n i))) g w2) : cal (d + 6) nMo_stands [xr 193, xi P, xi n, xi i] g w Q := by
  refine eMo_stands fun lim Q2 h2 => wMo_stands_0 ?_
  have hQ := fun w2 a b => h2 _ g w2 rfl (hQ w2 a b)
  obtain ⟨-, -, -, -, n5, n6⟩ := li_n li
  unfold oStands at hQ
  simp only [m_o hM, true_and]
  refine mo_isPerson hM hl li ⟨_, rfl, fun a => mo_in ⟨_, rfl, fun b => ?_, fun b => ?_⟩, fun a => ?_⟩
  · have a := ifv.2 a
    have b := ifv.2 b
    rw [if_pos a, if_pos b] at hQ
    obtain ⟨p, hp⟩ := z_nn a.1
    obtain ⟨N, hN⟩ := z_nn (x := n) (by omega)
    subst hp; subst hN
    rw [Int.toNat_natCast, Int.toNat_natCast] at hQ
    simp only [m_o hM, true_and]
    refine mo_start hM fun w1 f1 v1 => ⟨rfl, ?_⟩
    have m1 : MB w w1 := fun a j _ p _ _ _ => f1 a j p
    have fs := fold_srch (t := t) (p := p) N s 0 (-1, 0) (by decide)
    rw [Nat.zero_mul] at fs
    refine mo_st39 (n := N) (p := p) hM (hl.mb m1) (fun r j q => by rw [f1 194 _ (by decide)]; exact hs r j q) (fun j hj => by rw [v1 j hj, f1 194 _ (by decide)]) li si (by rw [f1 193 50 (by decide)]; exact hnn) (by omega) (by omega) hm (5 ^ N) 0 (-1, 0) w1 (by omega) (by decide) MB.refl (fun _ _ => rfl) (fun _ => rfl) fun w2 f2 v2 => ?_
    rw [fs]
    exact hQ w2 (m1.trans f2) fun j hj => (v2 j hj).trans (f1 194 j (by decide))
  · rw [if_pos (ifv.2 a), if_neg (ifv.1 b)] at hQ; exact hQ w MB.refl fun _ _ => rfl
  · rw [if_neg (ifv.1 a)] at hQ; exact hQ w MB.refl fun _ _ => rfl
end CNF
