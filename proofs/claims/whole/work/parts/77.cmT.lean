/-! ===== command wasLit: what it means; the class ===== -/
def okP (P σ : zS) (m : Int) : Nat → Bool
  | 0 => true
  | n + 1 => okP P σ m n && (!decide (P 3 n = m) || decide (σ 3 (P 2 n).toNat = P 1 n))
/-- the state behind m minutes, the stove lit when wt of them have passed -/
def rn (t s : zS) (k wt : Nat) : Nat → zS
  | 0 => s
  | m + 1 => step t (-1) (if m = wt then lit (rn t s k wt m) k else rn t s k wt m)
def fitU (t s P : zS) (k wt : Nat) : Nat → Bool
  | 0 => true
  | m + 1 => fitU t s P k wt m && okP P (rn t s k wt (m + 1)) ((m + 1 : Nat) : Int) (P 0 0).toNat
/-- the i-th wait that fits, or how many -/
def wlk (f : Nat → Bool) (i : Int) : Nat → Nat → Int → Int
  | 0, _, c => if i = -1 then c else -1
  | n + 1, wt, c => if f wt = true then (if c = i then wt else wlk f i n (wt + 1) (c + 1)) else wlk f i n (wt + 1) c
def oWasLit (t s P : zS) (k i : Int) : Int := if 0 ≤ k ∧ k < t 0 2 then (if s 6 k.toNat = 0 ∧ 0 < s 5 k.toNat then wlk (fun wt => fitU t s P k.toNat wt 60) i 60 0 0 else -1000000003) else -1000000001
section CMT
variable {g : xG} {w w0 : xW} {t s P σ : zS} {d : Nat} {Q : xQ} {lim : Nat × Nat} {kl kn kl2 kn2 k kp : Nat} {m i lo hi : Int}
theorem okP_f {n : Nat} : ∀ j, okP P σ m n = false → okP P σ m (n + j) = false
  | 0, h => h
  | j + 1, h => by
    have := okP_f j h
    show okP P σ m ((n + j) + 1) = false
    rw [okP, this]; rfl
theorem okP_v {n : Nat} (h : ∀ i, i < n → P 3 i ≠ m) : okP P σ m n = true := by
  induction n with
  | zero => rfl
  | succ n ih =>
    rw [okP, ih fun i hi => h i (by omega)]
    simp [h n (by omega)]
theorem rn_le {wt : Nat} : ∀ m, m ≤ wt → rn t s k wt m = steps t (-1) m s
  | 0, _ => rfl
  | m + 1, h => by rw [rn, if_neg (by omega), rn_le m (by omega), steps_s]
theorem rn_gt {wt : Nat} : ∀ j, rn t s k wt (wt + 1 + j) = steps t (-1) (j + 1) (lit (steps t (-1) wt s) k)
  | 0 => by
    show rn t s k wt (wt + 1) = _
    rw [rn, if_pos rfl, rn_le wt (by omega)]; rfl
  | j + 1 => by
    show rn t s k wt ((wt + 1 + j) + 1) = _
    rw [rn, if_neg (by omega), rn_gt j, steps_s (j + 1)]
theorem fitU_iff {wt : Nat} : ∀ m, fitU t s P k wt m = true ↔ ∀ j, j < m → okP P (rn t s k wt (j + 1)) ((j + 1 : Nat) : Int) (P 0 0).toNat = true
  | 0 => ⟨fun _ j h => by omega, fun _ => rfl⟩
  | m + 1 => by
    rw [fitU, Bool.and_eq_true, fitU_iff m]
    constructor
    · intro h j hj
      by_cases q : j = m
      · subst q; exact h.2
      · exact h.1 j (by omega)
    · exact fun h => ⟨fun j hj => h j (by omega), h m (by omega)⟩
theorem wlk_f {f : Nat → Bool} : ∀ (n wt : Nat) (c : Int), (∀ j, wt ≤ j → f j = false) → wlk f i n wt c = if i = -1 then c else -1
  | 0, _, _, _ => rfl
  | n + 1, wt, c, h => by
    rw [wlk, if_neg (by rw [h wt (by omega)]; decide)]
    exact wlk_f n (wt + 1) c fun j hj => h j (by omega)
theorem cl_ownA1 (hP : PG8 g kp) (hS : SG g k) (h : RP P kp w) (pv : PInv t P 8 lo hi) (hs : RCs t s k w) (li : LInv t) (hQ : Q (some (xi (if okP P s m (P 0 0).toNat = true then 1 else 0))) g w) : ∀ (n j : Nat), (j + n : Int) = P 0 0 → okP P s m j = true → aPp_ownedAt d lim Q 2 [xr kp, xi m, xr k, xi j] [] g w
  | 0, j, e, hj => by
    have e3 : w kp 3 = P 0 0 := h.1
    refine wPp_ownedAt_2 ?_
    simp only [p8_o hP, e3, true_and]
    refine ⟨fun _ => ⟨Or.inr trivial, qe hQ ?_⟩, fun q => by omega⟩
    rw [← show j = (P 0 0).toNat by omega, if_pos hj]
  | n + 1, j, e, hj => by
    have e3 : w kp 3 = P 0 0 := h.1
    have p0 := pv.1
    obtain ⟨q1, q2, q3⟩ := pv.2 j (by omega)
    obtain ⟨n1, n2, -, -, n5, n6⟩ := li_n li
    have ei := h.2 j (by omega)
    have a1 : w (kp + 1) (Int.toNat (j : Int)) = P 1 j := by rw [Int.toNat_natCast]; exact ei.1
    have a2 : w (kp + 2) (Int.toNat (j : Int)) = P 2 j := by rw [Int.toNat_natCast]; exact ei.2.1
    have a3 : w (kp + 3) (Int.toNat (j : Int)) = P 3 j := by rw [Int.toNat_natCast]; exact ei.2.2
    have hpp : (P 2 j).toNat < nC t := by omega
    have e7 : w (k + 3) (P 2 j).toNat = s 3 (P 2 j).toNat := hs.1 3 (P 2 j).toNat hpp (by decide) (by decide)
    have go : okP P s m (j + 1) = true → aPp_ownedAt d lim Q 2 [xr kp, xi m, xr k, xi ((j : Int) + 1)] [] g w := fun z => by
      rw [show ((j : Int) + 1) = ((j + 1 : Nat) : Int) by omega]
      exact cl_ownA1 hP hS h pv hs li hQ n (j + 1) (by omega) z
    refine wPp_ownedAt_2 ?_
    simp only [p8_o hP, p8_p0 hP, p8_p1 hP, p8_p2 hP, p8_r0 hP, p8_r1 hP, p8_r2 hP, s_o hS, s_p2 hS, s_r2 hS, e3, a1, a2, a3, e7, true_and]
    refine ⟨fun q => by omega, fun _ => ⟨by constructor <;> omega, fun q => ⟨by constructor <;> omega, go ?_⟩, fun q => ⟨by constructor <;> omega, by constructor <;> omega, by constructor <;> omega, fun z => ⟨by constructor <;> omega, go ?_⟩, fun z => ⟨Or.inl trivial, qe hQ ?_⟩⟩⟩⟩
    · rw [okP, hj]; simp [q]
    · rw [okP, hj]; simp [z]
    · have : okP P s m (j + 1) = false := by rw [okP, hj]; simp [q, z]
      have := okP_f n this
      rw [show j + 1 + n = (P 0 0).toNat by omega] at this
      rw [if_neg (by rw [this]; decide)]
theorem cl_ownedAt (hP : PG8 g kp) (hS : SG g k) (h : RP P kp w) (pv : PInv t P 8 lo hi) (hs : RCs t s k w) (li : LInv t) (hQ : Q (some (xi (if okP P s m (P 0 0).toNat = true then 1 else 0))) g w) : cal (d + 1) nPp_ownedAt [xr kp, xi m, xr k] g w Q := by
  refine ePp_ownedAt fun lim Q2 h2 => wPp_ownedAt_0 ?_
  have hQ := h2 _ _ _ rfl hQ
  have p0 := pv.1
  exact cl_ownA1 hP hS h pv hs li hQ (P 0 0).toNat 0 (by omega) rfl
theorem RP.f2 {w2 : xW} (h : RP P kp w) (f : CF2 w w2) (hd : kp + 3 < 15) : RP P kp w2 := by
  refine ⟨by rw [f _ _ (by omega)]; exact h.1, fun i hi => ?_⟩
  rw [f _ _ (by omega), f _ _ (by omega), f _ _ (by omega)]; exact h.2 i hi
/-- trials behind the lighting -/
theorem cl_fits1 (F : FG g kl kn kl2 kn2) (hl : RCl t kl w0) (li : LInv t) (hP : RP P 9 w0) (pv : PInv t P 8 1 60) {wt : Nat} (hwt : wt < 60) (si : SInv t (lit (steps t (-1) wt s) k)) (hm : s 12 2 ≤ 999999800) {E : Int} (hE : -1 ≤ E ∧ E ≤ 60) (hE2 : ∀ i : Nat, (i : Int) < P 0 0 → P 3 i ≤ E) (hQ : ∀ w2, CF 15 w0 w2 → Q (some (xi (if fitU t s P k wt 60 = true then 1 else 0))) g w2) : ∀ (n j : Nat) (w : xW), (wt + j + n : Int) = 60 → fitU t s P k wt (wt + j) = true → CF 15 w0 w → RCs t (steps t (-1) j (lit (steps t (-1) wt s) k)) 15 w → aFf_fitsLitNow (d + 4) lim Q 34 [xr 2, none, none, xi E, xi ((wt + 1 + j : Nat) : Int)] [] g w
  | 0, j, w, e, hj, hf, hs => by
    refine wFf_fitsLitNow_34 ?_
    simp only [f_o F, true_and]
    refine ⟨fun _ => ⟨Or.inr trivial, qe (hQ w hf) ?_⟩, fun q => by omega⟩
    rw [← show wt + j = 60 by omega, if_pos hj]
  | n + 1, j, w, e, hj, hf, hs => by
    have hkl := f_hl F
    have e12 : lit (steps t (-1) wt s) k 12 2 = s 12 2 + wt := by unfold lit; rw [zset_n (by decide), steps_m]
    have hm0 := si.2.2.2.2.2.2.2.1
    have sij := si_steps (numb := -1) li si j (by omega)
    have hmm := steps_m (t := t) (s := lit (steps t (-1) wt s) k) (numb := -1) j
    have p0 := pv.1
    refine wFf_fitsLitNow_34 ?_
    simp only [f_o F, f_p5 F, f_p9 F, s_o (f_tr F), true_and]
    refine ⟨fun q => ⟨Or.inr trivial, qe (hQ w hf) ?_⟩, fun q => cl_passMinute (f_tr F) (f_tl F) (by omega) (hl.fr hf (by omega)) hs li sij (by omega) fun w2 f2 s2 => ⟨rfl, ?_⟩⟩
    · rw [if_pos]
      rw [fitU_iff] at hj ⊢
      intro x hx
      by_cases y : x < wt + j
      · exact hj x y
      · refine okP_v fun i hi => ?_
        have := hE2 i (by omega)
        omega
    · simp only [f_o F, f_p5 F, f_p2 F, p8_o (f_ds F), true_and]
      have hf2 := hf.trans f2
      have s2 : RCs t (rn t s k wt (wt + 1 + j)) 15 w2 := by rw [rn_gt, steps_s]; exact s2
      have hfu : fitU t s P k wt (wt + 1 + j) = (fitU t s P k wt (wt + j) && okP P (rn t s k wt (wt + 1 + j)) ((wt + 1 + j : Nat) : Int) (P 0 0).toNat) := by
        rw [show wt + 1 + j = (wt + j) + 1 by omega, fitU]
      refine cl_ownedAt (f_ds F) (f_tr F) (hP.cf hf2 (by omega)) pv s2 li ⟨_, rfl, fun z => ⟨by constructor <;> omega, ?_⟩, fun z => ⟨Or.inl trivial, qe (hQ w2 hf2) ?_⟩⟩
      · have z := ifv.2 z
        have := cl_fits1 F hl li hP pv hwt si hm hE hE2 hQ n (j + 1) w2 (by omega) (by rw [show wt + (j + 1) = wt + 1 + j by omega, hfu, hj, z]; rfl) hf2 (by rw [rn_gt] at s2; exact s2)
        rw [show ((wt + 1 + j : Nat) : Int) + 1 = ((wt + 1 + (j + 1) : Nat) : Int) by omega]; exact this
      · have z := ifv.1 z
        rw [if_neg]
        intro y
        rw [fitU_iff] at y
        have := y (wt + j) (by omega)
        rw [show wt + j + 1 = wt + 1 + j by omega] at this
        exact z this
theorem cl_fits (F : FG g kl kn kl2 kn2) (hl : RCl t kl w) (li : LInv t) (hP : RP P 9 w) (pv : PInv t P 8 1 60) {wt : Nat} (hwt : wt < 60) (hk : k < nS t) (hs : RCs t (steps t (-1) wt s) 28 w) (si : SInv t (lit (steps t (-1) wt s) k)) (hm : s 12 2 ≤ 999999800) (hpre : fitU t s P k wt wt = true) (hQ : ∀ w2, CF 15 w w2 → Q (some (xi (if fitU t s P k wt 60 = true then 1 else 0))) g w2) : cal (d + 5) nFf_fitsLitNow [xr 2, xi k, xi wt] g w Q := by
  refine eFf_fitsLitNow fun lim Q2 h2 => wFf_fitsLitNow_0 ?_
  have hQ := fun w2 a => h2 _ g w2 rfl (hQ w2 a)
  have hkl := f_hl F
  have p0 := pv.1
  obtain ⟨n1, n2, n3, n4, n5, n6⟩ := li_n li
  have hE := mxP_b pv (by decide) (P 0 0).toNat (by omega)
  have p6 : g.2 15 6 = 22 := s_p6 (f_tr F)
  have a6 : ∀ i : Int, xA1 g 22 i ↔ (0 ≤ i ∧ i < 4) := s_a6 (f_tr F)
  simp only [f_o F, f_p2 F, p8_o (f_ds F), true_and]
  refine cl_latest (M := 8) (p8_o (f_ds F)) (p8_p2 (f_ds F)) (p8_r2 (f_ds F)) hP pv (by omega) ⟨_, rfl, ?_⟩
  simp only [f_o F, f_p5 F, f_p6 F, s_o (f_tr F), true_and]
  refine cl_copy (f_tr F) (f_wa F) (by omega) hs li fun w2 f2 s2 => ⟨rfl, ?_⟩
  simp only [f_o F, f_p5 F, f_p6 F, s_o (f_tr F), p6, a6, true_and]
  refine ⟨by constructor <;> omega, by constructor <;> omega, ?_⟩
  have s3 : RCs t (lit (steps t (-1) wt s) k) 15 (xup w2 22 (Int.toNat (k : Int)) 1) := s2.put li (r := 6) (i := k) hk (by decide) (by decide) rfl (Int.toNat_natCast k)
  rw [show ((wt : Int) + 1) = ((wt + 1 + 0 : Nat) : Int) by omega]
  exact cl_fits1 F hl li hP pv hwt si hm hE (fun i hi => mxP_ge (P := P) (i := i) (P 0 0).toNat (by omega)) hQ (60 - wt) 0 _ (by omega) hpre (f2.trans (CF.up (by omega) (by omega))) s3
theorem cl_was1 (F : FG g kl kn kl2 kn2) (hl : RCl t kl w0) (li : LInv t) (si : SInv t s) (hP : RP P 9 w0) (pv : PInv t P 8 1 60) (hk : k < nS t) (h6 : s 6 k = 0) (h5 : 1 ≤ s 5 k) (hm : s 12 2 ≤ 999999800) : ∀ (n wt : Nat) (c : Nat) (w : xW), wt + n = 60 → c ≤ wt → CF2 w0 w → RCs t (steps t (-1) wt s) 28 w → (∀ j, j < wt → okP P (steps t (-1) (j + 1) s) ((j + 1 : Nat) : Int) (P 0 0).toNat = true) → (∀ w2, CF2 w0 w2 → Q (some (xi (wlk (fun wt => fitU t s P k wt 60) i n wt c))) g w2) → aFf_wasLit (d + 5) lim Q 41 [xr 2, xi k, xi i, xi c, xi wt] [] g w
  | 0, wt, c, w, e, hc, hf, hs, hpre, hQ => by
    refine wFf_wasLit_41 ?_
    simp only [f_o F, true_and]
    refine ⟨fun _ => wFf_wasLit_108 ⟨fun z => qe (hQ w hf) ?_, fun z => qe (hQ w hf) ?_⟩, fun q => by omega⟩
    · rw [wlk, if_neg z]
    · rw [wlk, if_pos z]
  | n + 1, wt, c, w, e, hc, hf, hs, hpre, hQ => by
    have hkl := f_hl F
    have hm0 := si.2.2.2.2.2.2.2.1
    have sii := si_steps (numb := -1) li si wt (by omega)
    have hmm := steps_m (t := t) (s := s) (numb := -1) wt
    have h56 := steps_56 (t := t) (numb := -1) h6 wt
    have p0 := pv.1
    have hfu : ∀ x, x ≤ wt → ∀ wt2, wt ≤ wt2 → fitU t s P k wt2 x = true := fun x hx wt2 h2 => by
      rw [fitU_iff]
      intro j hj
      rw [rn_le _ (by omega)]
      exact hpre j (by omega)
    have next : ∀ (c2 : Nat) (w1 : xW), c2 ≤ wt + 1 → CF2 w0 w1 → RCs t (steps t (-1) wt s) 28 w1 → (∀ w2, CF2 w0 w2 → Q (some (xi (wlk (fun wt => fitU t s P k wt 60) i n (wt + 1) c2))) g w2) → aFf_wasLit (d + 5) lim Q 69 [xr 2, xi k, xi i, xi c2, xi wt] [] g w1 := fun c2 w1 hc2 f1 s1 hQ2 => by
      refine wFf_wasLit_69 ?_
      simp only [f_o F, f_p6 F, f_p9 F, s_o (f_wa F), true_and]
      refine cl_passMinute (f_wa F) (f_tl F) (by omega) (hl.f2 f1 (by omega)) s1 li sii (by omega) fun w2 f2 s2 => ⟨rfl, ?_⟩
      have g2 := f1.trans (f2.to2 (by decide))
      have s2 : RCs t (steps t (-1) (wt + 1) s) 28 w2 := by rw [steps_s]; exact s2
      simp only [f_o F, f_p2 F, f_p6 F, p8_o (f_ds F), true_and]
      refine ⟨by constructor <;> omega, ?_⟩
      rw [show ((wt : Int) + 1) = ((wt + 1 : Nat) : Int) by omega]
      refine cl_ownedAt (f_ds F) (f_wa F) (hP.f2 g2 (by omega)) pv s2 li ⟨_, rfl, fun z => ⟨by constructor <;> omega, ?_⟩, fun z => ?_⟩
      · have z := ifv.2 z
        refine cl_was1 F hl li si hP pv hk h6 h5 hm n (wt + 1) c2 w2 (by omega) hc2 g2 s2 (fun j hj => ?_) hQ2
        by_cases y : j = wt
        · subst y; exact z
        · exact hpre j (by omega)
      · have z := ifv.1 z
        have hno : ∀ j, wt + 1 ≤ j → (fun wt => fitU t s P k wt 60) j = false := fun j hj => by
          show fitU t s P k j 60 = false
          cases h : fitU t s P k j 60
          · rfl
          · rw [fitU_iff] at h
            have := h wt (by omega)
            rw [rn_le _ (by omega)] at this
            exact absurd this z
        refine wFf_wasLit_108 ⟨fun y => qe (hQ2 w2 g2) ?_, fun y => qe (hQ2 w2 g2) ?_⟩
        · rw [wlk_f n (wt + 1) c2 hno, if_neg y]
        · rw [wlk_f n (wt + 1) c2 hno, if_pos y]
    refine wFf_wasLit_41 ?_
    simp only [f_o F, true_and]
    refine ⟨fun q => by omega, fun _ => ?_⟩
    refine cl_fits F (hl.f2 hf (by omega)) li (hP.f2 hf (by omega)) pv (by omega) hk hs (si_lit sii (by omega)) hm (hfu wt (by omega) wt (by omega)) fun w2 f2 => ⟨_, rfl, fun z => ?_, fun z => ⟨fun y => ⟨by constructor <;> omega, ?_⟩, fun y => qe (hQ w2 (hf.trans (f2.to2 (by decide)))) ?_⟩⟩
    · have z := ifv.1 z
      refine next c w2 (by omega) (hf.trans (f2.to2 (by decide))) (hs.cf li f2 (by omega)) fun w3 f3 => qe (hQ w3 f3) ?_
      rw [wlk, if_neg z]
    · have z := ifv.2 z
      rw [show ((c : Int) + 1) = ((c + 1 : Nat) : Int) by omega]
      refine next (c + 1) w2 (by omega) (hf.trans (f2.to2 (by decide))) (hs.cf li f2 (by omega)) fun w3 f3 => qe (hQ w3 f3) ?_
      rw [wlk, if_pos z, if_neg y]; rfl
    · have z := ifv.2 z
      rw [wlk, if_pos z, if_pos y]
theorem cl_wasLit {k : Int} (F : FG g kl kn kl2 kn2) (hl : RCl t kl w) (hs : RCs t s kn w) (li : LInv t) (si : SInv t s) (hP : RP P 9 w) (pv : PInv t P 8 1 60) (hm : s 12 2 ≤ 999999800) (hQ : ∀ w2, CF2 w w2 → Q (some (xi (oWasLit t s P k i))) g w2) : cal (d + 6) nFf_wasLit [xr 2, xi k, xi i] g w Q := by
  refine eFf_wasLit fun lim Q2 h2 => wFf_wasLit_0 ?_
  have hQ := fun w2 a => h2 _ g w2 rfl (hQ w2 a)
  have hkn := f_hn F
  obtain ⟨n1, n2, n3, n4, n5, n6⟩ := li_n li
  unfold oWasLit at hQ
  simp only [f_o F, true_and]
  refine cl_isStove F hl ⟨_, rfl, fun a => ?_, fun a => ?_⟩
  · have a := ifv.2 a
    rw [if_pos a] at hQ
    simp only [f_o F, f_p11 F, s_o (f_sn F), true_and]
    refine cl_canBeLit (f_sn F) hs li (by omega) ⟨_, rfl, fun b => ?_, fun b => ?_⟩
    · have b := ifv.2 b
      rw [if_pos b] at hQ
      simp only [f_o F, f_p6 F, f_p11 F, s_o (f_wa F), true_and]
      refine cl_copy (f_wa F) (f_sn F) (by omega) hs li fun w2 f2 s2 => ⟨rfl, ?_⟩
      obtain ⟨K, hK⟩ := z_nn a.1
      subst hK
      rw [Int.toNat_natCast] at b hQ
      exact cl_was1 F hl li si hP pv (by omega) b.1 (by omega) hm 60 0 0 w2 rfl (by omega) (f2.to2 (by decide)) s2 (fun j hj => by omega) hQ
    · rw [if_neg (ifv.1 b)] at hQ; exact hQ w CF2.refl
  · rw [if_neg (ifv.1 a)] at hQ; exact hQ w CF2.refl
end CMT
