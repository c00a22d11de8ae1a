/-! ===== command lightFor, the reference ===== -/
section CMK
variable {g : xG} {w w0 : xW} {t s : zS} {d : Nat} {Q : xQ} {lim : Nat × Nat} {p k n numb : Int}
theorem mo_lightF1 {N : Nat} (hM : MG g) (hl : RMl t w0) (hs : RMs t s w0) (hv : ∀ j, j < 143 → w0 197 j = w0 194 j) (li : LInv t) (si : SInv t s) (hk : 0 ≤ k ∧ k < t 0 2) (h6 : s 6 k.toNat = 0) (h5 : 1 ≤ s 5 k.toNat) (hn : w0 193 50 = -1) (hN : N ≤ 30) (hm : s 12 2 ≤ 999999900) : ∀ (m i : Nat) (w : xW), i + m = N + 1 → MB w0 w → (∀ j, j < 143 → w 194 j = w0 194 j) → (∀ j, j < 143 → w 197 j = w0 197 j) → (∀ w2, MB w0 w2 → (∀ j, j < 143 → w2 194 j = w0 194 j) → Q (some (xi (lgF t s p k N m i))) g w2) → aMo_lightFor (d + 6) lim Q 24 [xr 193, xi p, xi k, xi N, none, xi i, none] [] g w
  | 0, i, w, hi, hf, ha, hb, hQ => by
    refine wMo_lightFor_24 ⟨fun _ => hQ w hf ha, fun h => by omega⟩
  | m + 1, i, w, hi, hf, ha, hb, hQ => by
    obtain ⟨n1, n2, n3, n4, -⟩ := li_n li
    have hl2 := hl.mb hf
    have hs2 : RMs t s w := fun r j q => by rw [ha _ (act_off li q)]; exact hs r j q
    have k2 : w 193 50 = -1 := by rw [hf 193 50 (by decide) (by decide) (by decide) (by decide) (by decide)]; exact hn
    have hm0 := si.2.2.2.2.2.2.2.1
    have sii := si_steps (numb := -1) li si i (by omega)
    have hmm := steps_m (t := t) (s := s) (numb := -1) i
    have h56 := steps_56 (t := t) (numb := -1) h6 i
    have hkv : k.toNat < nS t := by omega
    have hl3 := li.2.2.2.2.2.2.2.1 k.toNat hkv
    refine wMo_lightFor_24 ⟨fun h => by omega, fun _ => ⟨m_o hM, mo_goMinutes (numb := -1) hM hl2 hs2 li si k2 (by omega) (by omega) fun w1 f1 s1 => ⟨rfl, ?_⟩⟩⟩
    simp only [m_o hM, m_p0 hM, m_a0 hM, true_and]
    refine ⟨by constructor <;> omega, by constructor <;> omega, by constructor <;> omega, ?_⟩
    rw [show ((N : Int) - (i : Int)) = ((N - i : Nat) : Int) by omega]
    have s2 : RMs t (lit (steps t (-1) i s) k.toNat) (xup w1 194 (Int.toNat (104 + k)) 1) := s1.put li (r := 6) (i := k.toNat) hkv (by show Int.toNat _ = 104 + _; omega)
    have f2 : MF w (xup w1 194 (Int.toNat (104 + k)) 1) := f1.trans fun a j p _ _ => xup_a p
    have hmm2 : lit (steps t (-1) i s) k.toNat 12 2 = s 12 2 + i := by unfold lit; rw [zset_n (by decide)]; exact hmm
    refine mo_goMinutes (numb := -1) hM (hl2.fr f2) s2 li (si_lit sii (by omega)) (by rw [f2.at (by decide)]; exact k2) (by omega) (by omega) fun w3 f3 s3 => ⟨rfl, ?_⟩
    have f13 := f2.trans f3
    have l3 := hl2.fr f13
    have e9 : w3 199 k.toNat = t 3 k.toNat := (l3.2.2.2.2.2.2.2.2.1 k.toNat hkv).1
    have e3 : w3 194 (Int.toNat (60 + t 3 k.toNat)) = steps t (-1) (N - i) (lit (steps t (-1) i s) k.toNat) 3 (t 3 k.toNat).toNat := by
      rw [show Int.toNat (60 + t 3 k.toNat) = 60 + (t 3 k.toNat).toNat by omega]; exact s3 3 (t 3 k.toNat).toNat (show (t 3 k.toNat).toNat < nC t by omega)
    have go : ∀ v : Int, v = (if wlS t s p k N i then 1 else 0) → aMo_lightFor (d + 6) lim Q 77 [xr 193, xi p, xi k, xi N, none, xi i, none] [xi v] g w3 := fun v hv2 => by
      subst hv2
      have e197 : ∀ j, w3 197 j = w 197 j := fun j => f13 197 j (by decide) (by decide) (fun z => absurd z (by decide))
      refine wMo_lightFor_77 ⟨m_o hM, mo_back hM fun w4 f4 v4 => ⟨rfl, ?_⟩⟩
      have f5 : MB w0 w4 := hf.trans (f13.mb.trans fun a j p _ _ _ _ => f4 a j p)
      have a5 : ∀ j, j < 143 → w4 194 j = w0 194 j := fun j hj => by rw [v4 j hj, e197, hb j hj, hv j hj]
      have b5 : ∀ j, j < 143 → w4 197 j = w0 197 j := fun j hj => by rw [f4 197 j (by decide), e197, hb j hj]
      refine ⟨fun z => ⟨by constructor <;> omega, ?_⟩, fun z => ?_⟩
      · rw [show ((i : Int) + 1) = ((i + 1 : Nat) : Int) by omega]
        refine mo_lightF1 hM hl hs hv li si hk h6 h5 hn hN hm m (i + 1) w4 (by omega) f5 a5 b5 fun w5 f6 a6 => ?_
        have := hQ w5 f6 a6
        rw [lgF, if_neg (ifv.1 z)] at this; exact this
      · have := hQ w4 f5 a5
        rw [lgF, if_pos (ifv.2 z)] at this; exact this
    simp only [m_o hM, m_p0 hM, m_r0 hM, m_p9 hM, m_r9 hM, e9, e3, true_and]
    refine ⟨by constructor <;> omega, by constructor <;> omega, by constructor <;> omega, fun z => go 0 ?_, fun z => go 1 ?_⟩
    · rw [if_neg (show ¬ wlS t s p k N i from z)]
    · rw [if_pos (show wlS t s p k N i from z)]
theorem mo_lightFor (hM : MG g) (hl : RMl t w) (hs : RMs t s w) (li : LInv t) (si : SInv t s) (hn : w 193 50 = -1) (hm : s 12 2 ≤ 999999900) (hQ : ∀ w2, MB w w2 → (∀ j, j < 143 → w2 194 j = w 194 j) → Q (some (xi (oLightFor t s p k n))) g w2) : cal (d + 7) nMo_lightFor [xr 193, xi p, xi k, xi n] g w Q := by
  refine eMo_lightFor fun lim Q2 h2 => wMo_lightFor_0 ?_
  have hQ := fun w2 a b => h2 _ g w2 rfl (hQ w2 a b)
  unfold oLightFor at hQ
  simp only [m_o hM, true_and]
  refine mo_notStove hM hl hs li ⟨_, rfl, fun a => ?_, fun a => ?_⟩
  · obtain ⟨b1, b2, b3, b4, b5⟩ := oRef_0 a
    rw [if_pos a] at hQ
    obtain ⟨N, hN⟩ := z_nn (x := n) (by omega)
    subst hN
    rw [Int.toNat_natCast] at hQ
    simp only [m_o hM, true_and]
    refine mo_start hM fun w1 f1 v1 => ⟨rfl, ?_⟩
    have m1 : MB w w1 := fun a j _ p _ _ _ => f1 a j p
    have c1 : ∀ j, j < 143 → w1 194 j = w 194 j := fun j _ => f1 194 j (by decide)
    have s1 : RMs t s w1 := fun r i h => by rw [f1 194 _ (by decide)]; exact hs r i h
    exact mo_lightF1 hM (hl.mb m1) s1 (fun j hj => (v1 j hj).trans (c1 j hj).symm) li si b2 b4 (by omega) (by rw [f1 193 50 (by decide)]; exact hn) (by omega) hm (N + 1) 0 w1 (by omega) MB.refl (fun _ _ => rfl) (fun _ _ => rfl) fun w3 f3 a3 => hQ w3 (m1.trans f3) (fun j hj => (a3 j hj).trans (c1 j hj))
  · rw [if_neg a] at hQ; exact hQ w MB.refl (fun _ _ => rfl)
end CMK
