/-! ===== command keptOut, the reference; lightFor ===== -/
/-- minutes waited, then lit -/
abbrev wlS (t s : zS) (p k : Int) (n i : Nat) : Prop := steps t (-1) (n - i) (lit (steps t (-1) i s) k.toNat) 3 (t 3 k.toNat).toNat = p
def lgF (t s : zS) (p k : Int) (n : Nat) : Nat → Nat → Int
  | 0, _ => -1
  | m + 1, i => if wlS t s p k n i then i else lgF t s p k n m (i + 1)
def oLightFor (t s : zS) (p k n : Int) : Int := if oRef t s p k n = 0 then lgF t s p k n.toNat (n.toNat + 1) 0 else oRef t s p k n
section CMI
variable {g : xG} {w w0 : xW} {t s : zS} {d : Nat} {Q : xQ} {lim : Nat × Nat} {kl kn kl2 kn2 kb : Nat} {p k n numb : Int}
theorem mo_kept1 {N : Nat} (hM : MG g) (hl : RMl t w0) (hs : RMs t s w0) (hv : ∀ j, j < 143 → w0 197 j = w0 194 j) (li : LInv t) (si : SInv t s) (hk : 0 ≤ k ∧ k < t 0 2) (h5 : 1 ≤ s 5 k.toNat) (hn : w0 193 50 = -1) (hm : s 12 2 + N ≤ 1000000000) (hm2 : N ≤ 1000) : ∀ (m i : Nat) (w : xW), i + m = nP t → MB w0 w → (∀ j, j < 143 → w 194 j = w0 194 j) → (∀ j, j < 143 → w 197 j = w0 197 j) → (∀ w2, MB w0 w2 → (∀ j, j < 143 → w2 194 j = w0 194 j) → Q (some (xi (kpO t s p k N m i))) g w2) → aMo_keptOut (d + 6) lim Q 37 [xr 193, xi p, xi k, xi N, none, xi i] [] g w
  | 0, i, w, hi, hf, ha, hb, hQ => by
    have hl2 := hl.mb hf
    obtain ⟨-, -, -, -, n5, n6⟩ := li_n li
    have e8 : w 193 13 = t 0 5 := hl2.2.2.2.2.2.1
    refine wMo_keptOut_37 ?_
    simp only [m_o hM, e8, true_and]
    exact ⟨fun _ => hQ w hf ha, fun h => by omega⟩
  | m + 1, i, w, hi, hf, ha, hb, hQ => by
    have hl2 := hl.mb hf
    have hs2 : RMs t s w := fun r j q => by rw [ha _ (act_off li q)]; exact hs r j q
    obtain ⟨-, -, -, -, n5, n6⟩ := li_n li
    have e8 : w 193 13 = t 0 5 := hl2.2.2.2.2.2.1
    have go : ¬ ((i : Int) ≠ p ∧ owS t s p k N i) → ∀ w1, MB w0 w1 → (∀ j, j < 143 → w1 194 j = w0 194 j) → (∀ j, j < 143 → w1 197 j = w0 197 j) → aMo_keptOut (d + 6) lim Q 37 [xr 193, xi p, xi k, xi N, none, xi ((i : Int) + 1)] [] g w1 := fun z w1 f1 a1 b1 => by
      rw [show ((i : Int) + 1) = ((i + 1 : Nat) : Int) by omega]
      refine mo_kept1 hM hl hs hv li si hk h5 hn hm hm2 m (i + 1) w1 (by omega) f1 a1 b1 fun w2 f2 a2 => ?_
      have := hQ w2 f2 a2
      rw [kpO, if_neg z] at this; exact this
    refine wMo_keptOut_37 ?_
    simp only [m_o hM, e8, true_and]
    refine ⟨fun h => by omega, fun _ => ⟨fun q => ⟨by constructor <;> omega, go (fun z => z.1 q) w hf ha hb⟩, fun q => ?_⟩⟩
    refine mo_ownsWithout hM hl2 hs2 (fun j hj => by rw [ha j hj, hb j hj]; exact hv j hj) li si hk h5 (by rw [hf 193 50 (by decide) (by decide) (by decide) (by decide) (by decide)]; exact hn) hm hm2 fun w2 f2 a2 b2 => ⟨_, rfl, fun z => ⟨by constructor <;> omega, go (fun y => ifv.1 z y.2) w2 (hf.trans f2) (fun j hj => (a2 j hj).trans (ha j hj)) (fun j hj => (b2 j hj).trans (hb j hj))⟩, fun z => ?_⟩
    have := hQ w2 (hf.trans f2) (fun j hj => (a2 j hj).trans (ha j hj))
    rw [kpO, if_pos ⟨q, ifv.2 z⟩] at this; exact this
theorem mo_kept (hM : MG g) (hl : RMl t w) (hs : RMs t s w) (li : LInv t) (si : SInv t s) (hn : w 193 50 = -1) (hm : s 12 2 ≤ 999999900) (hQ : ∀ w2, MB w w2 → (∀ j, j < 143 → w2 194 j = w 194 j) → Q (some (xi (oKept t s p k n))) g w2) : cal (d + 7) nMo_keptOut [xr 193, xi p, xi k, xi n] g w Q := by
  refine eMo_keptOut fun lim Q2 h2 => wMo_keptOut_0 ?_
  have hQ := fun w2 a b => h2 _ g w2 rfl (hQ w2 a b)
  unfold oKept at hQ
  simp only [m_o hM, true_and]
  refine mo_notStove hM hl hs li ⟨_, rfl, fun a => ?_, fun a => ?_⟩
  · obtain ⟨b1, b2, b3, b4, b5⟩ := oRef_0 a
    rw [if_pos a] at hQ
    obtain ⟨N, hN⟩ := z_nn (x := n) (by omega)
    subst hN
    rw [Int.toNat_natCast] at hQ
    simp only [m_o hM, true_and]
    refine mo_start hM fun w1 f1 v1 => ⟨rfl, m_o hM, ?_⟩
    have m1 : MB w w1 := fun a j _ p _ _ _ => f1 a j p
    have c1 : ∀ j, j < 143 → w1 194 j = w 194 j := fun j _ => f1 194 j (by decide)
    have s1 : RMs t s w1 := fun r i h => by rw [f1 194 _ (by decide)]; exact hs r i h
    have l1 := hl.mb m1
    have v2 : ∀ j, j < 143 → w1 197 j = w1 194 j := fun j hj => (v1 j hj).trans (c1 j hj).symm
    have k1 : w1 193 50 = -1 := by rw [f1 193 50 (by decide)]; exact hn
    refine mo_ownsWithout hM l1 s1 v2 li si b2 (by omega) k1 (by omega) (by omega) fun w2 f2 a2 e2 => ⟨_, rfl, fun z => ?_, fun z => ?_⟩
    · rw [if_neg (ifv.1 z)] at hQ
      exact mo_kept1 hM l1 s1 v2 li si b2 (by omega) k1 (by omega) (by omega) (nP t) 0 w2 (by omega) f2 a2 e2 fun w3 f3 a3 => hQ w3 (m1.trans f3) (fun j hj => (a3 j hj).trans (c1 j hj))
    · rw [if_pos (ifv.2 z)] at hQ
      exact hQ w2 (m1.trans f2) (fun j hj => (a2 j hj).trans (c1 j hj))
  · rw [if_neg a] at hQ; exact hQ w MB.refl (fun _ _ => rfl)
end CMI
