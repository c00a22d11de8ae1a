/-! ===== lighting for oneself: refusals, one trial ===== -/
def lit (s : zS) (k : Nat) : zS := zset s 6 (zup (s 6) k 1)
def oRef (t s : zS) (p k n : Int) : Int := if 0 ≤ p ∧ p < t 0 5 then (if 0 ≤ k ∧ k < t 0 2 then (if 1 ≤ n ∧ n ≤ 30 then (if s 6 k.toNat = 0 ∧ 0 < s 5 k.toNat then 0 else -1000000003) else -1000000002) else -1000000001) else -1000000001
section CMG
variable {g : xG} {w w0 : xW} {t s : zS} {d : Nat} {Q : xQ} {lim : Nat × Nat} {kl kn kl2 kn2 kb : Nat} {p k n numb : Int}
theorem oRef_0 (h : oRef t s p k n = 0) : (0 ≤ p ∧ p < t 0 5) ∧ (0 ≤ k ∧ k < t 0 2) ∧ (1 ≤ n ∧ n ≤ 30) ∧ s 6 k.toNat = 0 ∧ 0 < s 5 k.toNat := by
  unfold oRef at h
  by_cases a : 0 ≤ p ∧ p < t 0 5
  · rw [if_pos a] at h
    by_cases b : 0 ≤ k ∧ k < t 0 2
    · rw [if_pos b] at h
      by_cases c : 1 ≤ n ∧ n ≤ 30
      · rw [if_pos c] at h
        by_cases e : s 6 k.toNat = 0 ∧ 0 < s 5 k.toNat
        · exact ⟨a, b, c, e⟩
        · rw [if_neg e] at h; exact absurd h (by decide)
      · rw [if_neg c] at h; exact absurd h (by decide)
    · rw [if_neg b] at h; exact absurd h (by decide)
  · rw [if_neg a] at h; exact absurd h (by decide)
theorem cl_refL (F : FG g kl kn kl2 kn2) (hl : RCl t kl w) (hs : RCs t s kn w) (li : LInv t) (hQ : Q (some (xi (oRef t s p k n))) g w) : cal (d + 2) nFf_refusalOfLighting [xr 2, xi p, xi k, xi n] g w Q := by
  refine eFf_refusalOfLighting fun lim Q2 h2 => wFf_refusalOfLighting_0 ?_
  have hQ := h2 _ _ _ rfl hQ
  obtain ⟨n1, n2, n3, n4, -⟩ := li_n li
  unfold oRef at hQ
  simp only [f_o F, true_and]
  refine cl_isPerson F hl ⟨_, rfl, fun a => ?_, fun a => ?_⟩
  · rw [if_neg (ifv.1 a)] at hQ; exact hQ
  · rw [if_pos (ifv.2 a)] at hQ
    simp only [f_o F, true_and]
    refine cl_isStove F hl ⟨_, rfl, fun b => ?_, fun b => ?_⟩
    · have b := ifv.2 b
      rw [if_pos b] at hQ
      refine ⟨fun c => ?_, fun c => ⟨fun e => ?_, fun e => ?_⟩⟩
      · rw [if_neg (by omega)] at hQ; exact hQ
      · rw [if_pos (by omega)] at hQ
        simp only [f_o F, f_p11 F, s_o (f_sn F), true_and]
        refine cl_canBeLit (f_sn F) hs li (by omega) ⟨_, rfl, fun z => ?_, fun z => ?_⟩
        · rw [if_neg (ifv.1 z)] at hQ; exact hQ
        · rw [if_pos (ifv.2 z)] at hQ; exact hQ
      · rw [if_neg (by omega)] at hQ; exact hQ
    · rw [if_neg (ifv.1 b)] at hQ; exact hQ
theorem mo_notStove (hM : MG g) (hl : RMl t w) (hs : RMs t s w) (li : LInv t) (hQ : Q (some (xi (oRef t s p k n))) g w) : cal (d + 3) nMo_notStove [xr 193, xi p, xi k, xi n] g w Q := by
  refine eMo_notStove fun lim Q2 h2 => wMo_notStove_0 ?_
  have hQ := h2 _ _ _ rfl hQ
  obtain ⟨n1, n2, n3, n4, -⟩ := li_n li
  unfold oRef at hQ
  simp only [m_o hM, true_and]
  refine mo_isPerson hM hl li ⟨_, rfl, fun a => ?_, fun a => ?_⟩
  · rw [if_neg (ifv.1 a)] at hQ; exact hQ
  · rw [if_pos (ifv.2 a)] at hQ
    simp only [m_o hM, true_and]
    refine mo_isStove hM hl li ⟨_, rfl, fun b => ?_, fun b => ?_⟩
    · have b := ifv.2 b
      rw [if_pos b] at hQ
      refine mo_in ⟨_, rfl, fun c => ?_, fun c => ?_⟩
      · rw [if_pos (ifv.2 c)] at hQ
        simp only [m_o hM, true_and]
        refine mo_canBeLit hM hs li (by omega) ⟨_, rfl, fun z => ?_, fun z => ?_⟩
        · rw [if_pos (ifv.2 z)] at hQ; exact hQ
        · rw [if_neg (ifv.1 z)] at hQ; exact hQ
      · rw [if_neg (ifv.1 c)] at hQ; exact hQ
    · rw [if_neg (ifv.1 b)] at hQ; exact hQ
theorem si_lit (si : SInv t s) {i : Nat} (h : 1 ≤ s 5 i) : SInv t (lit s i) := by
  obtain ⟨h1, h2, h3, h4, h5, h6, h7, h8, h9, h10⟩ := si
  have e : ∀ r j, r ≠ 6 → lit s i r j = s r j := fun r j q => zset_n q
  refine ⟨fun j hj => ?_, fun j => ?_, fun j hj => ?_, fun j hj => ?_, fun j hj => ?_, ?_, ?_, ?_, ?_, ?_⟩
  · rw [e 0 j (by decide), e 3 j (by decide), e 4 j (by decide), e 12 2 (by decide)]; exact h1 j hj
  · rw [e 1 j (by decide), e 2 j (by decide)]; exact h2 j
  · rw [e 1 j (by decide), e 2 j (by decide)]; exact h3 j hj
  · rw [e 5 j (by decide)]
    refine ⟨(h4 j hj).1, ?_⟩
    unfold lit
    rw [zset_s]
    by_cases q : j = i
    · subst q; rw [zup_s]; exact Or.inr ⟨rfl, h⟩
    · rw [zup_n q]; exact (h4 j hj).2
  · rw [e 7 j (by decide), e 8 j (by decide), e 9 j (by decide), e 10 j (by decide), e 11 j (by decide)]; exact h5 j hj
  · rw [e 12 0 (by decide)]; exact h6
  · rw [e 12 1 (by decide)]; exact h7
  · rw [e 12 2 (by decide)]; exact h8
  · rw [e 12 3 (by decide)]; exact h9
  · rw [e 12 4 (by decide)]; exact h10
/-- a stove that does not burn stays as it is -/
theorem step_56 {i : Nat} (h : s 6 i = 0) : step t numb s 5 i = s 5 i ∧ step t numb s 6 i = 0 := by
  have e : ∀ r, r = 5 ∨ r = 6 → step t numb s r i = stA t s r i := fun r hr => by
    unfold step stF
    rw [zset_n (by omega), zset_n (by omega), owe_o (by omega) (by omega)]
    unfold stD
    rw [zset_n (by omega)]
    unfold stC
    rw [zset_n (by omega)]
    unfold stB
    rw [zset_n (by omega), zset_n (by omega)]
  rw [e 5 (Or.inl rfl), e 6 (Or.inr rfl)]
  unfold stA
  rw [zset_n (by decide), zset_s, zset_s, if_neg (by omega), if_neg (by omega)]
  exact ⟨rfl, h⟩
theorem steps_56 {i : Nat} (h : s 6 i = 0) : ∀ m, steps t numb m s 5 i = s 5 i ∧ steps t numb m s 6 i = 0
  | 0 => ⟨rfl, h⟩
  | m + 1 => by
    have ih := steps_56 h m
    rw [steps_s]
    have := step_56 (t := t) (numb := numb) ih.2
    exact ⟨this.1.trans ih.1, this.2⟩
/-- one trial of the class: the stove lit, m minutes, whose its cell is -/
theorem cl_ownsStove {m : Nat} (F : FG g kl kn kl2 kn2) (hB : SG g kb) (hd : 27 < kb) (hl : RCl t kl w) (hs : RCs t s kb w) (li : LInv t) (si : SInv t s) (hk : 0 ≤ k ∧ k < t 0 2) (h5 : 1 ≤ s 5 k.toNat) (hm : s 12 2 + m ≤ 1000000000) (hQ : ∀ w2, CF 15 w w2 → Q (some (xi (if steps t numb m (lit s k.toNat) 3 (t 3 k.toNat).toNat = p then 1 else 0))) g w2) : cal (d + 6) nFf_ownsStove [xr 2, xr kb, xi p, xi k, xi m, xi numb] g w Q := by
  refine eFf_ownsStove fun lim Q2 h2 => wFf_ownsStove_0 ?_
  have hQ := fun w2 a => h2 _ g w2 rfl (hQ w2 a)
  obtain ⟨n1, n2, n3, n4, -⟩ := li_n li
  have hkl := f_hl F
  have hv : k.toNat < nS t := by omega
  have p2 : g.2 15 2 = 18 := s_p2 (f_tr F)
  have p6 : g.2 15 6 = 22 := s_p6 (f_tr F)
  have a6 : ∀ i : Int, xA1 g 22 i ↔ (0 ≤ i ∧ i < 4) := s_a6 (f_tr F)
  have r2 : ∀ i : Int, xAr g 18 i ↔ (0 ≤ i ∧ i < 20) := s_r2 (f_tr F)
  simp only [f_o F, f_p5 F, s_o (f_tr F), true_and]
  refine cl_copy (f_tr F) hB (by omega) hs li fun w1 f1 s1 => ⟨rfl, ?_⟩
  simp only [f_o F, f_p5 F, f_p9 F, s_o (f_tr F), p6, a6, true_and]
  refine ⟨by constructor <;> omega, ?_⟩
  have s2 : RCs t (lit s k.toNat) 15 (xup w1 22 k.toNat 1) := s1.put li (r := 6) (i := k.toNat) hv (by decide) (by decide) rfl rfl
  have f2 : CF 15 w (xup w1 22 k.toNat 1) := f1.trans (CF.up (by omega) (by omega))
  refine cl_passMinutes (f_tr F) (f_tl F) (by omega) (hl.fr f2 (by omega)) s2 li (si_lit si h5) hm fun w3 f3 s3 => ⟨rfl, ?_⟩
  have f4 := f2.trans f3
  have hl4 := hl.fr f4 (by omega)
  have hl3 := li.2.2.2.2.2.2.2.1 k.toNat hv
  have e4 : w3 (kl + 4) k.toNat = t 3 k.toNat := (hl4.2.2.2.2.2.2.2.2.2.1 k.toNat hv).1
  have e3 : w3 18 (t 3 k.toNat).toNat = steps t numb m (lit s k.toNat) 3 (t 3 k.toNat).toNat := s3.1 3 (t 3 k.toNat).toNat (show (t 3 k.toNat).toNat < nC t by omega) (by decide) (by decide)
  simp only [f_o F, f_p5 F, f_p9 F, s_o (f_tr F), t_o (f_tl F), t_p9 (f_tl F), t_r9 (f_tl F), p2, r2, e4, e3, true_and]
  have hQ := hQ w3 f4
  refine ⟨by constructor <;> omega, by constructor <;> omega, fun z => ⟨Or.inl trivial, qe hQ ?_⟩, fun z => ⟨Or.inr trivial, qe hQ ?_⟩⟩
  · rw [if_neg z]
  · rw [if_pos z]
end CMG
