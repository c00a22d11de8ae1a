/-! ===== commands that put one number; minutes ===== -/
def oLaw (s : zS) (v : Int) : Int × zS := if 0 ≤ v ∧ v ≤ 3 then (s 12 0, zset s 12 (zup (s 12) 0 v)) else (-1000000002, s)
def oLast (s : zS) (v : Int) : Int × zS := if 1 ≤ v ∧ v ≤ 20 then (s 12 1, zset s 12 (zup (s 12) 1 v)) else (-1000000002, s)
def oSeed (s : zS) (v : Int) : Int × zS := if 0 ≤ v then (s 12 3, zset s 12 (zup (s 12) 3 v)) else (-1000000002, s)
def oStoke (t s : zS) (k f : Int) : Int × zS := if 0 ≤ k ∧ k < t 0 2 then (if 1 ≤ f ∧ f ≤ 99 then (min 999 (s 5 k.toNat + f), zset s 5 (zup (s 5) k.toNat (min 999 (s 5 k.toNat + f)))) else (-1000000002, s)) else (-1000000001, s)
def oLight (t s : zS) (k : Int) : Int × zS := if 0 ≤ k ∧ k < t 0 2 then (if s 6 k.toNat = 0 ∧ 0 < s 5 k.toNat then (s 5 k.toNat, zset s 6 (zup (s 6) k.toNat 1)) else (-1000000003, s)) else (-1000000001, s)
def oMinute (t s : zS) (n : Int) : Int × zS := if 1 ≤ n ∧ n ≤ 60 then (if nC t ≠ 0 then (if s 12 2 ≤ 900000 then (s 12 2 + n, steps t (-1) n.toNat s) else (-1000000004, s)) else (-1000000003, s)) else (-1000000002, s)
section CMA
variable {g : xG} {w w0 : xW} {t s : zS} {d : Nat} {Q : xQ} {lim : Nat × Nat} {kl kn kl2 kn2 : Nat} {v : Int}
theorem cl_law (F : FG g kl kn kl2 kn2) (hs : RCs t s kn w) (li : LInv t) (hQ : ∀ w2, CF kn w w2 → RCs t (oLaw s v).2 kn w2 → Q (some (xi (oLaw s v).1)) g w2) : cal (d + 2) nFf_law [xr 2, xi v] g w Q := by
  refine eFf_law fun lim Q2 h2 => wFf_law_0 ?_
  have hQ := fun w2 a b => h2 _ g w2 rfl (hQ w2 a b)
  have c0 : w kn 14 = s 12 0 := hs.1 12 0 (show 0 < 5 by decide) (by decide) (by decide)
  unfold oLaw at hQ
  refine eFf_isLaw fun lim2 Q3 h3 => wFf_isLaw_0 ⟨fun q => ⟨Or.inl rfl, h3 _ _ _ rfl ⟨_, rfl, fun z => absurd rfl z, fun _ => ?_⟩⟩, fun q => ⟨fun q2 => ⟨Or.inl rfl, h3 _ _ _ rfl ⟨_, rfl, fun z => absurd rfl z, fun _ => ?_⟩⟩, fun q2 => ⟨Or.inr rfl, h3 _ _ _ rfl ⟨_, rfl, fun _ => ?_, fun z => absurd z (by decide)⟩⟩⟩⟩
  · rw [if_neg (by omega)] at hQ; exact hQ w CF.refl hs
  · rw [if_neg (by omega)] at hQ; exact hQ w CF.refl hs
  · rw [if_pos (by omega)] at hQ
    simp only [f_o F, f_p11 F, s_o (f_sn F), true_and, c0]
    exact hQ _ (CF.up (by omega) (by omega)) (hs.put li (r := 12) (i := 0) (show 0 < 5 by decide) (by decide) (by decide) rfl rfl)
theorem mo_law (hM : MG g) (hs : RMs t s w) (li : LInv t) (hQ : ∀ w2, MF w w2 → RMs t (oLaw s v).2 w2 → Q (some (xi (oLaw s v).1)) g w2) : cal (d + 2) nMo_law [xr 193, xi v] g w Q := by
  refine eMo_law fun lim Q2 h2 => wMo_law_0 ?_
  have hQ := fun w2 a b => h2 _ g w2 rfl (hQ w2 a b)
  have c0 : w 194 (Int.toNat 138) = s 12 0 := hs 12 0 (show 0 < 5 by decide)
  unfold oLaw at hQ
  refine mo_in ⟨_, rfl, fun q => ?_, fun q => ?_⟩
  · have z : 0 ≤ v ∧ v ≤ 3 := by
      by_cases z : 0 ≤ v ∧ v ≤ 3
      · exact z
      · rw [if_neg z] at q; exact absurd rfl q
    rw [if_pos z] at hQ
    simp only [m_o hM, m_p0 hM, m_r0 hM, m_a0 hM, true_and, c0]
    exact ⟨by decide, by decide, hQ _ (fun a j p q _ => xup_a p) (hs.put li (r := 12) (i := 0) (show 0 < 5 by decide) rfl)⟩
  · have z : ¬ (0 ≤ v ∧ v ≤ 3) := fun z => by rw [if_pos z] at q; exact absurd q (by decide)
    rw [if_neg z] at hQ
    exact hQ w MF.refl hs
theorem cl_last (F : FG g kl kn kl2 kn2) (hs : RCs t s kn w) (li : LInv t) (hQ : ∀ w2, CF kn w w2 → RCs t (oLast s v).2 kn w2 → Q (some (xi (oLast s v).1)) g w2) : cal (d + 2) nFf_last [xr 2, xi v] g w Q := by
  refine eFf_last fun lim Q2 h2 => wFf_last_0 ?_
  have hQ := fun w2 a b => h2 _ g w2 rfl (hQ w2 a b)
  have c0 : w kn 15 = s 12 1 := hs.1 12 1 (show 1 < 5 by decide) (by decide) (by decide)
  unfold oLast at hQ
  simp only [f_o F, f_p11 F, s_o (f_sn F), true_and, c0]
  refine ⟨fun q => ?_, fun q => ⟨fun q2 => ?_, fun q2 => ?_⟩⟩
  · rw [if_neg (by omega)] at hQ; exact hQ w CF.refl hs
  · rw [if_pos (by omega)] at hQ
    exact hQ _ (CF.up (by omega) (by omega)) (hs.put li (r := 12) (i := 1) (show 1 < 5 by decide) (by decide) (by decide) rfl rfl)
  · rw [if_neg (by omega)] at hQ; exact hQ w CF.refl hs
theorem mo_last (hM : MG g) (hs : RMs t s w) (li : LInv t) (hQ : ∀ w2, MF w w2 → RMs t (oLast s v).2 w2 → Q (some (xi (oLast s v).1)) g w2) : cal (d + 2) nMo_last [xr 193, xi v] g w Q := by
  refine eMo_last fun lim Q2 h2 => wMo_last_0 ?_
  have hQ := fun w2 a b => h2 _ g w2 rfl (hQ w2 a b)
  have c0 : w 194 (Int.toNat 139) = s 12 1 := hs 12 1 (show 1 < 5 by decide)
  unfold oLast at hQ
  refine mo_in ⟨_, rfl, fun q => ?_, fun q => ?_⟩
  · have z : 1 ≤ v ∧ v ≤ 20 := by
      by_cases z : 1 ≤ v ∧ v ≤ 20
      · exact z
      · rw [if_neg z] at q; exact absurd rfl q
    rw [if_pos z] at hQ
    simp only [m_o hM, m_p0 hM, m_r0 hM, m_a0 hM, true_and, c0]
    exact ⟨by decide, by decide, hQ _ (fun a j p q _ => xup_a p) (hs.put li (r := 12) (i := 1) (show 1 < 5 by decide) rfl)⟩
  · have z : ¬ (1 ≤ v ∧ v ≤ 20) := fun z => by rw [if_pos z] at q; exact absurd q (by decide)
    rw [if_neg z] at hQ
    exact hQ w MF.refl hs
theorem cl_seed (F : FG g kl kn kl2 kn2) (hs : RCs t s kn w) (li : LInv t) (hQ : ∀ w2, CF kn w w2 → RCs t (oSeed s v).2 kn w2 → Q (some (xi (oSeed s v).1)) g w2) : cal (d + 1) nFf_seed [xr 2, xi v] g w Q := by
  refine eFf_seed fun lim Q2 h2 => wFf_seed_0 ?_
  have hQ := fun w2 a b => h2 _ g w2 rfl (hQ w2 a b)
  have c0 : w kn 17 = s 12 3 := hs.1 12 3 (show 3 < 5 by decide) (by decide) (by decide)
  unfold oSeed at hQ
  simp only [f_o F, f_p11 F, s_o (f_sn F), true_and, c0]
  refine ⟨fun q => ?_, fun q => ?_⟩
  · rw [if_pos (by omega)] at hQ
    exact hQ _ (CF.up (by omega) (by omega)) (hs.put li (r := 12) (i := 3) (show 3 < 5 by decide) (by decide) (by decide) rfl rfl)
  · rw [if_neg (by omega)] at hQ; exact hQ w CF.refl hs
theorem mo_seed (hM : MG g) (hs : RMs t s w) (li : LInv t) (hQ : ∀ w2, MF w w2 → RMs t (oSeed s v).2 w2 → Q (some (xi (oSeed s v).1)) g w2) : cal (d + 1) nMo_seed [xr 193, xi v] g w Q := by
  refine eMo_seed fun lim Q2 h2 => wMo_seed_0 ?_
  have hQ := fun w2 a b => h2 _ g w2 rfl (hQ w2 a b)
  have c0 : w 194 (Int.toNat 141) = s 12 3 := hs 12 3 (show 3 < 5 by decide)
  unfold oSeed at hQ
  simp only [m_o hM, m_p0 hM, m_r0 hM, m_a0 hM, true_and, c0]
  refine ⟨fun q => ?_, fun q => ?_⟩
  · rw [if_pos (by omega)] at hQ
    exact ⟨by decide, by decide, hQ _ (fun a j p q _ => xup_a p) (hs.put li (r := 12) (i := 3) (show 3 < 5 by decide) rfl)⟩
  · rw [if_neg (by omega)] at hQ; exact hQ w MF.refl hs
/-- whether such a person, such a stove is -/
theorem cl_isPerson (F : FG g kl kn kl2 kn2) (hl : RCl t kl w) (hQ : Q (some (xi (if 0 ≤ v ∧ v < t 0 5 then 1 else 0))) g w) : cal (d + 1) nFf_isPerson [xr 2, xi v] g w Q := by
  refine eFf_isPerson fun lim Q2 h2 => wFf_isPerson_0 ?_
  have hQ := h2 _ _ _ rfl hQ
  have e : w kl 5 = t 0 5 := hl.2.2.2.2.2.1
  simp only [f_o F, f_p9 F, t_o (f_tl F), true_and, e]
  refine ⟨fun q => ⟨Or.inl trivial, qe hQ ?_⟩, fun q => ⟨fun q2 => ⟨Or.inl trivial, qe hQ ?_⟩, fun q2 => ⟨Or.inr trivial, qe hQ ?_⟩⟩⟩
  · rw [if_neg (by omega)]
  · rw [if_neg (by omega)]
  · rw [if_pos (by omega)]
theorem cl_isStove (F : FG g kl kn kl2 kn2) (hl : RCl t kl w) (hQ : Q (some (xi (if 0 ≤ v ∧ v < t 0 2 then 1 else 0))) g w) : cal (d + 1) nFf_isStove [xr 2, xi v] g w Q := by
  refine eFf_isStove fun lim Q2 h2 => wFf_isStove_0 ?_
  have hQ := h2 _ _ _ rfl hQ
  have e : w kl 2 = t 0 2 := hl.2.2.1
  simp only [f_o F, f_p9 F, t_o (f_tl F), true_and, e]
  refine ⟨fun q => ⟨Or.inl trivial, qe hQ ?_⟩, fun q => ⟨fun q2 => ⟨Or.inl trivial, qe hQ ?_⟩, fun q2 => ⟨Or.inr trivial, qe hQ ?_⟩⟩⟩
  · rw [if_neg (by omega)]
  · rw [if_neg (by omega)]
  · rw [if_pos (by omega)]
theorem mo_isPerson (hM : MG g) (hl : RMl t w) (li : LInv t) (hQ : Q (some (xi (if 0 ≤ v ∧ v < t 0 5 then 1 else 0))) g w) : cal (d + 2) nMo_isPerson [xr 193, xi v] g w Q := by
  refine eMo_isPerson fun lim Q2 h2 => wMo_isPerson_0 ?_
  have hQ := h2 _ _ _ rfl hQ
  have e : w 193 13 = t 0 5 := hl.2.2.2.2.2.1
  have hp := li.2.2.2.2.1
  simp only [m_o hM, true_and, e]
  refine ⟨by constructor <;> omega, mo_in ⟨_, rfl, ?_, qe hQ ?_⟩⟩
  · split <;> omega
  · by_cases z : 0 ≤ v ∧ v < t 0 5
    · rw [if_pos z, if_pos (by omega)]
    · rw [if_neg z, if_neg (by omega)]
theorem mo_isStove (hM : MG g) (hl : RMl t w) (li : LInv t) (hQ : Q (some (xi (if 0 ≤ v ∧ v < t 0 2 then 1 else 0))) g w) : cal (d + 2) nMo_isStove [xr 193, xi v] g w Q := by
  refine eMo_isStove fun lim Q2 h2 => wMo_isStove_0 ?_
  have hQ := h2 _ _ _ rfl hQ
  have e : w 193 8 = t 0 2 := hl.2.2.1
  have hp := li.2.1
  simp only [m_o hM, true_and, e]
  refine ⟨by constructor <;> omega, mo_in ⟨_, rfl, ?_, qe hQ ?_⟩⟩
  · split <;> omega
  · by_cases z : 0 ≤ v ∧ v < t 0 2
    · rw [if_pos z, if_pos (by omega)]
    · rw [if_neg z, if_neg (by omega)]
theorem ifv {p : Prop} [Decidable p] : ((if p then (1 : Int) else 0) = 0 → ¬ p) ∧ (¬ (if p then (1 : Int) else 0) = 0 → p) := by
  by_cases z : p
  · rw [if_pos z]; exact ⟨fun q => absurd q (by decide), fun _ => z⟩
  · rw [if_neg z]; exact ⟨fun _ => z, fun q => absurd rfl q⟩
theorem cl_stoke {f : Int} (F : FG g kl kn kl2 kn2) (hl : RCl t kl w) (hs : RCs t s kn w) (li : LInv t) (si : SInv t s) (hQ : ∀ w2, CF kn w w2 → RCs t (oStoke t s v f).2 kn w2 → Q (some (xi (oStoke t s v f).1)) g w2) : cal (d + 2) nFf_stoke [xr 2, xi v, xi f] g w Q := by
  refine eFf_stoke fun lim Q2 h2 => wFf_stoke_0 ?_
  have hQ := fun w2 a b => h2 _ g w2 rfl (hQ w2 a b)
  obtain ⟨n1, n2, n3, n4, -⟩ := li_n li
  unfold oStoke at hQ
  simp only [f_o F, true_and]
  refine cl_isStove F hl ⟨_, rfl, fun q => ?_, fun q => ?_⟩
  · have q := ifv.2 q
    have hv : v.toNat < nS t := by omega
    have hw := si.2.2.2.1 v.toNat hv
    have e5 : w (kn + 6) v.toNat = s 5 v.toNat := hs.1 5 v.toNat hv (by decide) (by decide)
    rw [if_pos q] at hQ
    refine ⟨fun a => ?_, fun a => ⟨fun b => ?_, fun b => ?_⟩⟩
    · rw [if_neg (by omega)] at hQ; exact hQ w CF.refl hs
    · rw [if_pos (by omega)] at hQ
      simp only [f_o F, f_p11 F, s_o (f_sn F), s_p5 (f_sn F), s_r5 (f_sn F), s_a5 (f_sn F), true_and, e5, xup_s]
      exact ⟨by constructor <;> omega, by constructor <;> omega, by constructor <;> omega, by constructor <;> omega, hQ _ (CF.up (by omega) (by omega)) (hs.put li (r := 5) (i := v.toNat) hv (by decide) (by decide) rfl rfl)⟩
    · rw [if_neg (by omega)] at hQ; exact hQ w CF.refl hs
  · rw [if_neg (ifv.1 q)] at hQ; exact hQ w CF.refl hs
theorem mo_stoke {f : Int} (hM : MG g) (hl : RMl t w) (hs : RMs t s w) (li : LInv t) (si : SInv t s) (hQ : ∀ w2, MF w w2 → RMs t (oStoke t s v f).2 w2 → Q (some (xi (oStoke t s v f).1)) g w2) : cal (d + 3) nMo_stoke [xr 193, xi v, xi f] g w Q := by
  refine eMo_stoke fun lim Q2 h2 => wMo_stoke_0 ?_
  have hQ := fun w2 a b => h2 _ g w2 rfl (hQ w2 a b)
  obtain ⟨n1, n2, n3, n4, -⟩ := li_n li
  unfold oStoke at hQ
  simp only [m_o hM, true_and]
  refine mo_isStove hM hl li ⟨_, rfl, fun q => mo_in ⟨_, rfl, fun q2 => ?_, fun q2 => ?_⟩, fun q => ?_⟩
  · have q := ifv.2 q
    have q2 := ifv.2 q2
    have hv : v.toNat < nS t := by omega
    have hw := si.2.2.2.1 v.toNat hv
    have e5 : w 194 (Int.toNat (100 + v)) = s 5 v.toNat := by
      rw [show Int.toNat (100 + v) = 100 + v.toNat by omega]; exact hs 5 v.toNat hv
    rw [if_pos q, if_pos q2] at hQ
    have go : ∀ x : Int, x = min 999 (s 5 v.toNat + f) → aMo_stoke (d + 2) lim Q2 60 [xr 193, xi v, none, none] [xi x, xi (100 + v), xr 194] g w := fun x hx => by
      refine wMo_stoke_60 ?_
      simp only [m_o hM, m_p0 hM, m_r0 hM, m_a0 hM, true_and, xup_s, hx]
      exact ⟨by constructor <;> omega, by constructor <;> omega, by constructor <;> omega, hQ _ (fun a j p q _ => xup_a p) (hs.put li (r := 5) (i := v.toNat) hv (by show Int.toNat _ = 100 + _; omega))⟩
    simp only [m_o hM, m_p0 hM, m_r0 hM, true_and, e5]
    exact ⟨by constructor <;> omega, by constructor <;> omega, by constructor <;> omega, by constructor <;> omega, fun a => go _ (by omega), fun a => go _ (by omega)⟩
  · rw [if_pos (ifv.2 q), if_neg (ifv.1 q2)] at hQ; exact hQ w MF.refl hs
  · rw [if_neg (ifv.1 q)] at hQ; exact hQ w MF.refl hs
theorem cl_canBeLit {k : Nat} (hS : SG g k) (hs : RCs t s k w) (li : LInv t) (hv : 0 ≤ v ∧ v < nS t) (hQ : Q (some (xi (if s 6 v.toNat = 0 ∧ 0 < s 5 v.toNat then 1 else 0))) g w) : cal (d + 1) nSt_canBeLit [xr k, xi v] g w Q := by
  refine eSt_canBeLit fun lim Q2 h2 => wSt_canBeLit_0 ?_
  have hQ := h2 _ _ _ rfl hQ
  obtain ⟨n1, n2, n3, n4, -⟩ := li_n li
  have e5 : w (k + 6) v.toNat = s 5 v.toNat := hs.1 5 v.toNat (show v.toNat < nS t by omega) (by decide) (by decide)
  have e6 : w (k + 7) v.toNat = s 6 v.toNat := hs.1 6 v.toNat (show v.toNat < nS t by omega) (by decide) (by decide)
  simp only [s_o hS, s_p5 hS, s_r5 hS, s_p6 hS, s_r6 hS, true_and, e5, e6]
  refine ⟨by constructor <;> omega, fun q => ⟨Or.inl trivial, qe hQ ?_⟩, fun q => ⟨by constructor <;> omega, fun q2 => ⟨Or.inl trivial, qe hQ ?_⟩, fun q2 => ⟨Or.inr trivial, qe hQ ?_⟩⟩⟩
  · rw [if_neg (fun z => q z.1)]
  · rw [if_neg (fun z => by omega)]
  · rw [if_pos ⟨q, q2⟩]
theorem mo_canBeLit (hM : MG g) (hs : RMs t s w) (li : LInv t) (hv : 0 ≤ v ∧ v < nS t) (hQ : Q (some (xi (if s 6 v.toNat = 0 ∧ 0 < s 5 v.toNat then 1 else 0))) g w) : cal (d + 1) nMo_canBeLit [xr 193, xi v] g w Q := by
  refine eMo_canBeLit fun lim Q2 h2 => wMo_canBeLit_0 ?_
  have hQ := h2 _ _ _ rfl hQ
  obtain ⟨n1, n2, n3, n4, -⟩ := li_n li
  have e5 : w 194 (Int.toNat (100 + v)) = s 5 v.toNat := by
    rw [show Int.toNat (100 + v) = 100 + v.toNat by omega]; exact hs 5 v.toNat (show v.toNat < nS t by omega)
  have e6 : w 194 (Int.toNat (104 + v)) = s 6 v.toNat := by
    rw [show Int.toNat (104 + v) = 104 + v.toNat by omega]; exact hs 6 v.toNat (show v.toNat < nS t by omega)
  simp only [m_o hM, m_p0 hM, m_r0 hM, true_and, e5, e6]
  refine ⟨by constructor <;> omega, by constructor <;> omega, fun q => ⟨Or.inl trivial, qe hQ ?_⟩, fun q => ⟨by constructor <;> omega, by constructor <;> omega, fun q2 => ⟨Or.inl trivial, qe hQ ?_⟩, fun q2 => ⟨Or.inr trivial, qe hQ ?_⟩⟩⟩
  · rw [if_neg (fun z => q z.1)]
  · rw [if_neg (fun z => by omega)]
  · rw [if_pos ⟨q, q2⟩]
theorem cl_light (F : FG g kl kn kl2 kn2) (hl : RCl t kl w) (hs : RCs t s kn w) (li : LInv t) (hQ : ∀ w2, CF kn w w2 → RCs t (oLight t s v).2 kn w2 → Q (some (xi (oLight t s v).1)) g w2) : cal (d + 2) nFf_light [xr 2, xi v] g w Q := by
  refine eFf_light fun lim Q2 h2 => wFf_light_0 ?_
  have hQ := fun w2 a b => h2 _ g w2 rfl (hQ w2 a b)
  obtain ⟨n1, n2, n3, n4, -⟩ := li_n li
  unfold oLight at hQ
  simp only [f_o F, true_and]
  refine cl_isStove F hl ⟨_, rfl, fun q => ?_, fun q => ?_⟩
  · have q := ifv.2 q
    have hv : v.toNat < nS t := by omega
    have e5 : w (kn + 6) v.toNat = s 5 v.toNat := hs.1 5 v.toNat hv (by decide) (by decide)
    rw [if_pos q] at hQ
    simp only [f_o F, f_p11 F, s_o (f_sn F), true_and]
    refine cl_canBeLit (f_sn F) hs li (by omega) ⟨_, rfl, fun q2 => ?_, fun q2 => ?_⟩
    · rw [if_pos (ifv.2 q2)] at hQ
      simp only [f_o F, f_p11 F, s_o (f_sn F), s_p5 (f_sn F), s_r5 (f_sn F), s_p6 (f_sn F), s_a6 (f_sn F), true_and]
      rw [xup_a (by omega), e5]
      exact ⟨by constructor <;> omega, by constructor <;> omega, hQ _ (CF.up (by omega) (by omega)) (hs.put li (r := 6) (i := v.toNat) hv (by decide) (by decide) rfl rfl)⟩
    · rw [if_neg (ifv.1 q2)] at hQ; exact hQ w CF.refl hs
  · rw [if_neg (ifv.1 q)] at hQ; exact hQ w CF.refl hs
theorem mo_light (hM : MG g) (hl : RMl t w) (hs : RMs t s w) (li : LInv t) (hQ : ∀ w2, MF w w2 → RMs t (oLight t s v).2 w2 → Q (some (xi (oLight t s v).1)) g w2) : cal (d + 3) nMo_light [xr 193, xi v] g w Q := by
  refine eMo_light fun lim Q2 h2 => wMo_light_0 ?_
  have hQ := fun w2 a b => h2 _ g w2 rfl (hQ w2 a b)
  obtain ⟨n1, n2, n3, n4, -⟩ := li_n li
  unfold oLight at hQ
  simp only [m_o hM, true_and]
  refine mo_isStove hM hl li ⟨_, rfl, fun q => ?_, fun q => ?_⟩
  · have q := ifv.2 q
    have hv : v.toNat < nS t := by omega
    have e5 : w 194 (Int.toNat (100 + v)) = s 5 v.toNat := by
      rw [show Int.toNat (100 + v) = 100 + v.toNat by omega]; exact hs 5 v.toNat hv
    rw [if_pos q] at hQ
    simp only [m_o hM, true_and]
    refine mo_canBeLit hM hs li (by omega) ⟨_, rfl, fun q2 => ?_, fun q2 => ?_⟩
    · rw [if_pos (ifv.2 q2)] at hQ
      simp only [m_o hM, m_p0 hM, m_r0 hM, m_a0 hM, true_and]
      rw [xup_k (by omega), e5]
      exact ⟨by constructor <;> omega, by constructor <;> omega, by constructor <;> omega, by constructor <;> omega, hQ _ (fun a j p q _ => xup_a p) (hs.put li (r := 6) (i := v.toNat) hv (by show Int.toNat _ = 104 + _; omega))⟩
    · rw [if_neg (ifv.1 q2)] at hQ; exact hQ w MF.refl hs
  · rw [if_neg (ifv.1 q)] at hQ; exact hQ w MF.refl hs
end CMA
