/-! ===== command keptOut ===== -/
/-- whether p owns the stove's cell, n minutes behind its lighting, where one is numb -/
abbrev owS (t s : zS) (p k : Int) (n : Nat) (numb : Int) : Prop := steps t numb n (lit s k.toNat) 3 (t 3 k.toNat).toNat = p
/-- the first of those from i on without whom p owns it -/
def kpO (t s : zS) (p k : Int) (n : Nat) : Nat → Nat → Int
  | 0, _ => -1
  | m + 1, i => if (i : Int) ≠ p ∧ owS t s p k n i then i else kpO t s p k n m (i + 1)
def oKept (t s : zS) (p k n : Int) : Int := if oRef t s p k n = 0 then (if owS t s p k n.toNat (-1) then -1 else kpO t s p k n.toNat (nP t) 0) else oRef t s p k n
section CMH
variable {g : xG} {w w0 : xW} {t s : zS} {d : Nat} {Q : xQ} {lim : Nat × Nat} {kl kn kl2 kn2 kb : Nat} {p k n numb : Int}
theorem CF.l {w w2 : xW} {kk : Nat} (hl : RCl t kl w) (f : CF kk w w2) (h : kl + 7 < kk ∨ kk + 12 < kl) : RCl t kl w2 := hl.fr f h
theorem RCs.cf {w w2 : xW} {kk : Nat} (hs : RCs t s kn w) (li : LInv t) (f : CF kk w w2) (h : kn + 12 < kk ∨ kk + 12 < kn) : RCs t s kn w2 := by
  refine ⟨fun r i q p1 p2 => ?_, fun c hc => ?_⟩
  · obtain ⟨b1, -, -⟩ := act_b li q
    have := cad_le r b1
    rw [f _ _ (by omega)]; exact hs.1 r i q p1 p2
  · rw [f _ _ (by omega)]; exact hs.2 c hc
theorem cl_kept1 {N : Nat} (F : FG g kl kn kl2 kn2) (hl : RCl t kl w0) (hs : RCs t s kn w0) (li : LInv t) (si : SInv t s) (hk : 0 ≤ k ∧ k < t 0 2) (h5 : 1 ≤ s 5 k.toNat) (hm : s 12 2 + N ≤ 1000000000) : ∀ (m i : Nat) (w : xW), i + m = nP t → CF 15 w0 w → (∀ w2, CF 15 w0 w2 → Q (some (xi (kpO t s p k N m i))) g w2) → aFf_keptOut (d + 6) lim Q 37 [xr 2, xi p, xi k, xi N, none, xi i] [] g w
  | 0, i, w, hi, hf, hQ => by
    have hkl := f_hl F
    have hl2 := hl.fr hf (by omega)
    obtain ⟨-, -, -, -, n5, n6⟩ := li_n li
    have e8 : w kl 5 = t 0 5 := hl2.2.2.2.2.2.1
    refine wFf_keptOut_37 ?_
    simp only [f_o F, f_p9 F, t_o (f_tl F), e8, true_and]
    exact ⟨fun _ => hQ w hf, fun h => by omega⟩
  | m + 1, i, w, hi, hf, hQ => by
    have hkl := f_hl F
    have hkn := f_hn F
    have hl2 := hl.fr hf (by omega)
    have hs2 := hs.cf li hf (by omega)
    obtain ⟨-, -, -, -, n5, n6⟩ := li_n li
    have e8 : w kl 5 = t 0 5 := hl2.2.2.2.2.2.1
    have go : ¬ ((i : Int) ≠ p ∧ owS t s p k N i) → ∀ w1, CF 15 w0 w1 → aFf_keptOut (d + 6) lim Q 37 [xr 2, xi p, xi k, xi N, none, xi ((i : Int) + 1)] [] g w1 := fun z w1 f1 => by
      rw [show ((i : Int) + 1) = ((i + 1 : Nat) : Int) by omega]
      refine cl_kept1 F hl hs li si hk h5 hm m (i + 1) w1 (by omega) f1 fun w2 f2 => ?_
      have := hQ w2 f2
      rw [kpO, if_neg z] at this; exact this
    refine wFf_keptOut_37 ?_
    simp only [f_o F, f_p9 F, f_p11 F, t_o (f_tl F), e8, true_and]
    refine ⟨fun h => by omega, fun _ => ⟨fun q => ⟨by constructor <;> omega, go (fun z => z.1 q) w hf⟩, fun q => ?_⟩⟩
    refine cl_ownsStove F (f_sn F) (by omega) hl2 hs2 li si hk h5 hm fun w2 f2 => ⟨_, rfl, fun z => ⟨by constructor <;> omega, go (fun y => ifv.1 z y.2) w2 (hf.trans f2)⟩, fun z => ?_⟩
    have := hQ w2 (hf.trans f2)
    rw [kpO, if_pos ⟨q, ifv.2 z⟩] at this; exact this
theorem cl_kept (F : FG g kl kn kl2 kn2) (hl : RCl t kl w) (hs : RCs t s kn w) (li : LInv t) (si : SInv t s) (hm : s 12 2 ≤ 999999900) (hQ : ∀ w2, CF 15 w w2 → Q (some (xi (oKept t s p k n))) g w2) : cal (d + 7) nFf_keptOut [xr 2, xi p, xi k, xi n] g w Q := by
  refine eFf_keptOut fun lim Q2 h2 => wFf_keptOut_0 ?_
  have hQ := fun w2 a => h2 _ g w2 rfl (hQ w2 a)
  have hkl := f_hl F
  have hkn := f_hn F
  unfold oKept at hQ
  simp only [f_o F, true_and]
  refine cl_refL F hl hs li ⟨_, rfl, fun a => ?_, fun a => ?_⟩
  · obtain ⟨b1, b2, b3, b4, b5⟩ := oRef_0 a
    rw [if_pos a] at hQ
    obtain ⟨N, hN⟩ := z_nn (x := n) (by omega)
    subst hN
    rw [Int.toNat_natCast] at hQ
    simp only [f_o F, f_p11 F, true_and]
    refine cl_ownsStove F (f_sn F) (by omega) hl hs li si b2 (by omega) (by omega) fun w2 f2 => ⟨_, rfl, fun z => ?_, fun z => ?_⟩
    · rw [if_neg (show ¬ owS t s p k N (-1) from ifv.1 z)] at hQ
      exact cl_kept1 F hl hs li si b2 (by omega) (by omega) (nP t) 0 w2 (by omega) f2 hQ
    · rw [if_pos (show owS t s p k N (-1) from ifv.2 z)] at hQ
      exact hQ w2 f2
  · rw [if_neg a] at hQ; exact hQ w CF.refl
/-- one trial of the reference, and back -/
theorem mo_ownsWithout {m : Nat} (hM : MG g) (hl : RMl t w) (hs : RMs t s w) (hv : ∀ j, j < 143 → w 197 j = w 194 j) (li : LInv t) (si : SInv t s) (hk : 0 ≤ k ∧ k < t 0 2) (h5 : 1 ≤ s 5 k.toNat) (hn : w 193 50 = -1) (hm : s 12 2 + m ≤ 1000000000) (hm2 : m ≤ 1000) (hQ : ∀ w2, MB w w2 → (∀ j, j < 143 → w2 194 j = w 194 j) → (∀ j, j < 143 → w2 197 j = w 197 j) → Q (some (xi (if owS t s p k m numb then 1 else 0))) g w2) : cal (d + 6) nMo_ownsWithout [xr 193, xi p, xi k, xi m, xi numb] g w Q := by
  refine eMo_ownsWithout fun lim Q2 h2 => wMo_ownsWithout_0 ?_
  have hQ := fun w2 a b c => h2 _ g w2 rfl (hQ w2 a b c)
  obtain ⟨n1, n2, n3, n4, -⟩ := li_n li
  have hkv : k.toNat < nS t := by omega
  have hl3 := li.2.2.2.2.2.2.2.1 k.toNat hkv
  simp only [m_o hM, true_and]
  have x0 : ∀ a j, (a = 193 → j ≠ 50) → xup w 193 50 numb a j = w a j := fun a j q => by
    by_cases z : a = 193
    · subst z; exact xup_k (q rfl)
    · exact xup_a z
  have x1 : xup w 193 50 numb 193 50 = numb := xup_s
  generalize xup w 193 50 numb = w1 at x0 x1
  have l1 : RMl t w1 := by
    obtain ⟨h1, h2, h3, h4, h5, h6, h7, h8, h9, h10⟩ := hl
    refine ⟨by rw [x0 _ _ (by omega), h1], by rw [x0 _ _ (by omega), h2], by rw [x0 _ _ (by omega), h3], by rw [x0 _ _ (by omega), h4], by rw [x0 _ _ (by omega), h5], by rw [x0 _ _ (by omega), h6], fun i q => ?_, fun i q => ?_, fun i q => ?_, fun i q => ?_⟩
    · rw [x0 _ _ (by omega)]; exact h7 i q
    · rw [x0 _ _ (by omega)]; exact h8 i q
    · rw [x0 _ _ (by omega), x0 _ _ (by omega)]; exact h9 i q
    · rw [x0 _ _ (by omega), x0 _ _ (by omega)]; exact h10 i q
  have s1 : RMs t s w1 := fun r i q => by rw [x0 _ _ (by omega)]; exact hs r i q
  refine wMo_ownsWithout_6 ?_
  simp only [m_o hM, m_p0 hM, m_a0 hM, true_and]
  refine ⟨by constructor <;> omega, by constructor <;> omega, ?_⟩
  have s2 : RMs t (lit s k.toNat) (xup w1 194 (Int.toNat (104 + k)) 1) := s1.put li (r := 6) (i := k.toNat) hkv (by show Int.toNat _ = 104 + _; omega)
  have f2 : MF w1 (xup w1 194 (Int.toNat (104 + k)) 1) := fun a j p _ _ => xup_a p
  refine mo_goMinutes (numb := numb) hM (l1.fr f2) s2 li (si_lit si h5) (by rw [xup_a (by decide)]; exact x1) hm hm2 fun w3 f3 s3 => ⟨rfl, ?_⟩
  have f13 := f2.trans f3
  have l3 := l1.fr f13
  have e9 : w3 199 k.toNat = t 3 k.toNat := (l3.2.2.2.2.2.2.2.2.1 k.toNat hkv).1
  have e3 : w3 194 (Int.toNat (60 + t 3 k.toNat)) = steps t numb m (lit s k.toNat) 3 (t 3 k.toNat).toNat := by
    rw [show Int.toNat (60 + t 3 k.toNat) = 60 + (t 3 k.toNat).toNat by omega]; exact s3 3 (t 3 k.toNat).toNat (show (t 3 k.toNat).toNat < nC t by omega)
  have go : ∀ v : Int, v = (if owS t s p k m numb then 1 else 0) → aMo_ownsWithout (d + 5) lim Q2 44 [xr 193, none, none, none, none, none] [xi v] g w3 := fun v hv2 => by
    refine wMo_ownsWithout_44 ?_
    simp only [m_o hM, true_and]
    refine mo_back hM fun w4 f4 v4 => ⟨rfl, ?_⟩
    simp only [m_o hM, true_and]
    have e197 : ∀ j, w3 197 j = w 197 j := fun j => (f13 197 j (by decide) (by decide) (fun z => absurd z (by decide))).trans (x0 197 j (fun z => absurd z (by decide)))
    refine ⟨by rw [hv2]; split <;> omega, ?_⟩
    rw [hv2]
    refine hQ _ (fun a j p1 p2 p3 p4 p5 => ?_) (fun j hj => ?_) (fun j hj => ?_)
    · by_cases z : a = 193 ∧ j = 50
      · rw [z.1, z.2, xup_s, hn]
      · have z2 : xup w4 193 50 (-1) a j = w4 a j := by
          by_cases y : a = 193
          · subst y; exact xup_k (fun u => z ⟨rfl, u⟩)
          · exact xup_a y
        rw [z2, f4 a j p1, f13 a j p1 p3 p5, x0 a j (fun u v => z ⟨u, v⟩)]
    · rw [xup_a (by decide), v4 j hj, e197, hv j hj]
    · rw [xup_a (by decide), f4 197 j (by decide), e197]
  simp only [m_o hM, m_p0 hM, m_r0 hM, m_p9 hM, m_r9 hM, e9, e3, true_and]
  refine ⟨by constructor <;> omega, by constructor <;> omega, by constructor <;> omega, fun z => go 0 ?_, fun z => go 1 ?_⟩
  · rw [if_neg (show ¬ owS t s p k m numb from z)]
  · rw [if_pos (show owS t s p k m numb from z)]
end CMH
