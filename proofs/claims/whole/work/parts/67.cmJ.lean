/-! ===== command lightFor, the class ===== -/
def CF2 (w w2 : xW) : Prop := ∀ a j, (a < 15 ∨ 40 < a) → w2 a j = w a j
section CMJ
variable {g : xG} {w w0 : xW} {t s : zS} {d : Nat} {Q : xQ} {lim : Nat × Nat} {kl kn kl2 kn2 kb : Nat} {p k n numb : Int}
theorem CF2.refl : CF2 w w := fun _ _ _ => rfl
theorem CF2.trans {w2 w3 : xW} (h : CF2 w w2) (h2 : CF2 w2 w3) : CF2 w w3 := fun a j q => (h2 a j q).trans (h a j q)
theorem CF.to2 {kk : Nat} {w2 : xW} (h : CF kk w w2) (hk : 15 ≤ kk ∧ kk ≤ 28) : CF2 w w2 := fun a j q => h a j (by omega)
theorem RCl.f2 {w2 : xW} (h : RCl t kl w) (f : CF2 w w2) (hd : 40 < kl) : RCl t kl w2 := by
  obtain ⟨h1, h2, h3, h4, h5, h6, h7, h8, h9, h10, h11⟩ := h
  have e : ∀ a j, kl ≤ a → w2 a j = w a j := fun a j p => f a j (by omega)
  refine ⟨by rw [e _ _ (by omega), h1], by rw [e _ _ (by omega), h2], by rw [e _ _ (by omega), h3], by rw [e _ _ (by omega), h4], by rw [e _ _ (by omega), h5], by rw [e _ _ (by omega), h6], fun c hc d hd => ?_, fun i q => ?_, fun i q => ?_, fun i q => ?_, fun i q => ?_⟩
  · rw [e _ _ (by omega)]; exact h7 c hc d hd
  · rw [e _ _ (by omega)]; exact h8 i q
  · rw [e _ _ (by omega)]; exact h9 i q
  · rw [e _ _ (by omega), e _ _ (by omega)]; exact h10 i q
  · rw [e _ _ (by omega), e _ _ (by omega)]; exact h11 i q
theorem cl_lightF1 {N : Nat} (F : FG g kl kn kl2 kn2) (hl : RCl t kl w0) (li : LInv t) (si : SInv t s) (hk : 0 ≤ k ∧ k < t 0 2) (h6 : s 6 k.toNat = 0) (h5 : 1 ≤ s 5 k.toNat) (hN : N ≤ 30) (hm : s 12 2 ≤ 999999900) : ∀ (m i : Nat) (w : xW), i + m = N + 1 → CF2 w0 w → RCs t (steps t (-1) i s) 28 w → (∀ w2, CF2 w0 w2 → Q (some (xi (lgF t s p k N m i))) g w2) → aFf_lightFor (d + 6) lim Q 31 [xr 2, xi p, xi k, xi N, none, xi i] [] g w
  | 0, i, w, hi, hf, hs, hQ => by
    refine wFf_lightFor_31 ?_
    simp only [f_o F, true_and]
    exact ⟨fun _ => hQ w hf, fun h => by omega⟩
  | m + 1, i, w, hi, hf, hs, hQ => by
    have hkl := f_hl F
    have hl2 := hl.f2 hf (by omega)
    have hm0 := si.2.2.2.2.2.2.2.1
    have sii := si_steps (numb := -1) li si i (by omega)
    have hmm := steps_m (t := t) (s := s) (numb := -1) i
    have h56 := steps_56 (t := t) (numb := -1) h6 i
    refine wFf_lightFor_31 ?_
    simp only [f_o F, f_p6 F, f_p9 F, true_and]
    refine ⟨fun h => by omega, fun _ => ⟨by constructor <;> omega, ?_⟩⟩
    rw [show ((N : Int) - (i : Int)) = ((N - i : Nat) : Int) by omega]
    refine cl_ownsStove F (f_wa F) (by decide) hl2 hs li sii hk (by omega) (by omega) fun w2 f2 => ⟨_, rfl, fun z => ?_, fun z => ?_⟩
    · have f2' := hf.trans (f2.to2 (by decide))
      have hs2 : RCs t (steps t (-1) i s) 28 w2 := hs.cf li f2 (by omega)
      simp only [f_o F, f_p6 F, f_p9 F, s_o (f_wa F), true_and]
      refine cl_passMinute (f_wa F) (f_tl F) (by omega) (hl.f2 f2' (by omega)) hs2 li sii (by omega) fun w3 f3 s3 => ⟨rfl, by constructor <;> omega, ?_⟩
      rw [show ((i : Int) + 1) = ((i + 1 : Nat) : Int) by omega]
      refine cl_lightF1 F hl li si hk h6 h5 hN hm m (i + 1) w3 (by omega) (f2'.trans (f3.to2 (by decide))) (by rw [steps_s]; exact s3) fun w4 f4 => ?_
      have := hQ w4 f4
      rw [lgF, if_neg (ifv.1 z)] at this; exact this
    · have := hQ w2 (hf.trans (f2.to2 (by decide)))
      rw [lgF, if_pos (ifv.2 z)] at this; exact this
theorem cl_lightFor (F : FG g kl kn kl2 kn2) (hl : RCl t kl w) (hs : RCs t s kn w) (li : LInv t) (si : SInv t s) (hm : s 12 2 ≤ 999999900) (hQ : ∀ w2, CF2 w w2 → Q (some (xi (oLightFor t s p k n))) g w2) : cal (d + 7) nFf_lightFor [xr 2, xi p, xi k, xi n] g w Q := by
  refine eFf_lightFor fun lim Q2 h2 => wFf_lightFor_0 ?_
  have hQ := fun w2 a => h2 _ g w2 rfl (hQ w2 a)
  have hkl := f_hl F
  have hkn := f_hn F
  unfold oLightFor at hQ
  simp only [f_o F, true_and]
  refine cl_refL F hl hs li ⟨_, rfl, fun a => ?_, fun a => ?_⟩
  · obtain ⟨b1, b2, b3, b4, b5⟩ := oRef_0 a
    rw [if_pos a] at hQ
    obtain ⟨N, hN⟩ := z_nn (x := n) (by omega)
    subst hN
    rw [Int.toNat_natCast] at hQ
    simp only [f_o F, f_p6 F, f_p11 F, s_o (f_wa F), true_and]
    refine cl_copy (f_wa F) (f_sn F) (by omega) hs li fun w2 f2 s2 => ⟨rfl, ?_⟩
    exact cl_lightF1 F hl li si b2 b4 (by omega) (by omega) hm (N + 1) 0 w2 (by omega) (f2.to2 (by decide)) s2 hQ
  · rw [if_neg a] at hQ; exact hQ w CF2.refl
end CMJ
