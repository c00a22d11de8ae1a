/-! ===== rents: what they mean; arrays filled ===== -/
def MkG (g : xG) : Prop := xIs g 123 (0, 0) ∧ g.2 123 0 = 124 ∧ xIs g 124 (1, 6)
/-- one beside asks less -/
def udU (t s : zS) (a : Nat → Int) (c : Nat) (v : Int) : Nat → Nat → Bool
  | 0, _ => false
  | n + 1, b => (decide (wyy t s c b ≠ -1) && decide (s 3 (wyy t s c b).toNat ≠ -1) && decide (s 3 (wyy t s c b).toNat ≠ s 3 c) && decide (a (s 3 (wyy t s c b).toNat).toNat < v)) || udU t s a c v n (b + 1)
def ltc (t s : zS) (a : Nat → Int) (p : Nat) (v : Int) (c : Nat) : Bool := decide (s 3 c = p) && decide (v ≤ s 0 c / 50) && !udU t s a c v 4 1
def cnL (t s : zS) (a : Nat → Int) (p : Nat) (v : Int) : Nat → Int
  | 0 => 0
  | n + 1 => cnL t s a p v n + (if ltc t s a p v n = true then 1 else 0)
def bsr (t s : zS) (a : Nat → Int) (p : Nat) : Nat → Nat → Int → Int → Int
  | 0, _, b, _ => b
  | n + 1, v, b, m => if m < v * cnL t s a p v (nC t) then bsr t s a p n (v + 1) v (v * cnL t s a p v (nC t)) else bsr t s a p n (v + 1) b m
def bsR (t s : zS) (a : Nat → Int) (p : Nat) : Int := bsr t s a p 9 1 0 0
def asU (t s : zS) (a : Nat → Int) : Nat → (Nat → Int) × Bool
  | 0 => (a, false)
  | p + 1 => (zup (asU t s a p).1 p (bsR t s (asU t s a p).1 p), (asU t s a p).2 || !decide (bsR t s (asU t s a p).1 p = (asU t s a p).1 p))
def stl (t s : zS) : Nat → Nat → (Nat → Int) → Int × (Nat → Int)
  | 0, _, a => (-1, a)
  | n + 1, r, a => if (asU t s a (nP t)).2 = true then stl t s n (r + 1) (asU t s a (nP t)).1 else (r, (asU t s a (nP t)).1)
def oRents (t s : zS) (p : Int) : Int := if p = -1 ∨ (0 ≤ p ∧ p < t 0 5) then (if p = -1 ∨ (stl t s 20 0 fun _ => 0).1 = -1 then (stl t s 20 0 fun _ => 0).1 else (stl t s 20 0 fun _ => 0).2 p.toNat) else -1000000001
section CNB
variable {g : xG} {w w0 : xW} {t s : zS} {d : Nat} {Q : xQ} {lim : Nat × Nat} {kl kn kl2 kn2 k kt : Nat} {v : Int} {a : Nat → Int}
theorem cl_fill1 {A N : Nat} (ha : xIs g A (1, N)) (hN : N ≤ 100000) (hQ : ∀ w2, (∀ b j, b ≠ A → w2 b j = w0 b j) → (∀ j, j < N → w2 A j = v) → Q none g w2) : ∀ (n i : Nat) (w : xW), i + n = N → (∀ b j, b ≠ A → w b j = w0 b j) → (∀ j, j < i → w A j = v) → aJd_fill d lim Q 5 [xr A, xi v, xi i, xi N] [] g w
  | 0, i, w, hi, hf, hj => by
    have hi : i = N := by omega
    subst hi
    exact wJd_fill_5 ⟨fun _ => hQ w hf hj, fun h => by omega⟩
  | n + 1, i, w, hi, hf, hj => by
    refine wJd_fill_5 ⟨fun h => by omega, fun _ => ⟨(xA1_1 ha i).2 (by omega), by constructor <;> omega, ?_⟩⟩
    rw [show ((i : Int) + 1) = ((i + 1 : Nat) : Int) by omega, Int.toNat_natCast]
    refine cl_fill1 ha hN hQ n (i + 1) _ (by omega) (fun b j q => by rw [xup_a q]; exact hf b j q) fun j q => ?_
    by_cases z : j = i
    · subst z; rw [xup_s]
    · rw [xup_k z]; exact hj j (by omega)
theorem cl_fill {A N : Nat} (ha : xIs g A (1, N)) (hN : N ≤ 100000) (hQ : ∀ w2, (∀ b j, b ≠ A → w2 b j = w b j) → (∀ j, j < N → w2 A j = v) → Q none g w2) : cal (d + 1) nJd_fill [xr A, xi v] g w Q := by
  refine eJd_fill fun lim Q2 h2 => wJd_fill_0 ?_
  have el : xlen g A = N := xlen_1 ha
  rw [el]
  exact ⟨xAl_1 (k := 0) ha (by decide) (by omega), cl_fill1 ha hN (fun w2 p q => h2 _ _ _ rfl (hQ w2 p q)) N 0 w (by omega) (fun _ _ _ => rfl) fun j q => by omega⟩
theorem cnL_b {p : Nat} : ∀ n : Nat, 0 ≤ cnL t s a p v n ∧ cnL t s a p v n ≤ n
  | 0 => by unfold cnL; omega
  | n + 1 => by
    have ih : 0 ≤ cnL t s a p v n ∧ cnL t s a p v n ≤ n := cnL_b n
    unfold cnL
    split <;> omega
theorem cl_under1 (hG : MkG g) (hS : SG g k) (hT : TG g kt) (hl : RCl t kt w) (hs : RCs t s k w) (li : LInv t) (si : SInv t s) (ha : ∀ o, o < 6 → w 124 o = a o) {c : Nat} (hc : c < nC t) : ∀ (n b : Nat), b + n = 5 → Q (some (xi (if udU t s a c v n b = true then 1 else 0))) g w → aMk_isUndercut (d + 1) lim Q 3 [xr 123, xr kt, xr k, xi c, xi v, xi b, none, none] [] g w
  | 0, b, hb, hQ => by
    refine wMk_isUndercut_3 ?_
    simp only [hG.1, true_and]
    exact ⟨fun _ => ⟨Or.inl trivial, hQ⟩, fun h => by omega⟩
  | n + 1, b, hb, hQ => by
    obtain ⟨n1, n2, -, -, n5, n6⟩ := li_n li
    have e3 : w (k + 3) (Int.toNat (c : Int)) = s 3 c := by rw [Int.toNat_natCast]; exact hs.1 3 c hc (by decide) (by decide)
    have go : ∀ u : Bool, u = false → (if udU t s a c v (n + 1) b = true then (1 : Int) else 0) = (if (u || udU t s a c v n (b + 1)) = true then 1 else 0) → aMk_isUndercut (d + 1) lim Q 3 [xr 123, xr kt, xr k, xi c, xi v, xi ((b : Int) + 1), none, none] [] g w := fun u hu e => by
      rw [show ((b : Int) + 1) = ((b + 1 : Nat) : Int) by omega]
      refine cl_under1 hG hS hT hl hs li si ha hc n (b + 1) (by omega) ?_
      subst hu
      rw [e] at hQ
      exact hQ
    refine wMk_isUndercut_3 ?_
    simp only [hG.1, s_o hS, true_and]
    refine ⟨fun h => by omega, fun _ => cl_reach hS hT hl hs li si hc (by omega) ⟨_, rfl, fun z => ⟨by constructor <;> omega, go _ ?_ rfl⟩, fun z => ?_⟩⟩
    · rw [show decide (wyy t s c b ≠ -1) = false by simp [z]]; rfl
    · have hin := (wyy_in (s := s) (c := (c : Int)) li (by omega) b).resolve_left z
      have hD : (wyy t s c b).toNat < nC t := by omega
      have h3 := (si.1 _ hD).2.1
      have eD : w (k + 3) (Int.toNat (wyy t s c b)) = s 3 (wyy t s c b).toNat := hs.1 3 (wyy t s c b).toNat hD (by decide) (by decide)
      simp only [s_o hS, s_p2 hS, s_r2 hS, e3, eD, hG.2.1, hG.1, true_and]
      refine ⟨by constructor <;> omega, fun y => ⟨by constructor <;> omega, go _ ?_ rfl⟩, fun y => ⟨by constructor <;> omega, fun x => ⟨by constructor <;> omega, go _ ?_ rfl⟩, fun x => ?_⟩⟩
      · rw [show decide (s 3 (wyy t s c b).toNat ≠ -1) = false by simp [y]]; simp
      · rw [show decide (s 3 (wyy t s c b).toNat ≠ s 3 c) = false by simp [x]]; simp
      · have eo : w 124 (Int.toNat (s 3 (wyy t s c b).toNat)) = a (s 3 (wyy t s c b).toNat).toNat := ha _ (by omega)
        rw [eo]
        refine ⟨(xAr_1 hG.2.2 _).2 (by omega), fun u => ⟨by constructor <;> omega, go _ ?_ rfl⟩, fun u => ⟨Or.inr trivial, qe hQ ?_⟩⟩
        · rw [show decide (a (s 3 (wyy t s c b).toNat).toNat < v) = false by simp; omega]; simp
        · rw [udU, if_pos]
          simp [z, y, x, u]
theorem cl_under (hG : MkG g) (hS : SG g k) (hT : TG g kt) (hl : RCl t kt w) (hs : RCs t s k w) (li : LInv t) (si : SInv t s) (ha : ∀ o, o < 6 → w 124 o = a o) {c : Nat} (hc : c < nC t) (hQ : Q (some (xi (if udU t s a c v 4 1 = true then 1 else 0))) g w) : cal (d + 2) nMk_isUndercut [xr 123, xr kt, xr k, xi c, xi v] g w Q := by
  refine eMk_isUndercut fun lim Q2 h2 => wMk_isUndercut_0 ?_
  exact cl_under1 hG hS hT hl hs li si ha hc 4 1 rfl (h2 _ _ _ rfl hQ)
theorem cl_let1 (hG : MkG g) (hS : SG g k) (hT : TG g kt) (hl : RCl t kt w) (hs : RCs t s k w) (li : LInv t) (si : SInv t s) (ha : ∀ o, o < 6 → w 124 o = a o) {p : Nat} (hQ : Q (some (xi (cnL t s a p v (nC t)))) g w) : ∀ (n c : Nat), c + n = nC t → aMk_countLet (d + 2) lim Q 12 [xr 123, xr kt, xr k, xi p, xi v, xi (cnL t s a p v c), xi (nC t), xi c] [] g w
  | 0, c, hc => by
    have hc : c = nC t := by omega
    subst hc
    refine wMk_countLet_12 ?_
    simp only [hG.1, true_and]
    exact ⟨fun _ => hQ, fun h => by omega⟩
  | n + 1, c, hc => by
    obtain ⟨n1, n2, -, -, n5, n6⟩ := li_n li
    have hcn : c < nC t := by omega
    have h0 := (si.1 c hcn).1
    have e3 : w (k + 3) (Int.toNat (c : Int)) = s 3 c := by rw [Int.toNat_natCast]; exact hs.1 3 c hcn (by decide) (by decide)
    have e0 : w (k + 1) (Int.toNat (c : Int)) = s 0 c := by rw [Int.toNat_natCast]; exact hs.1 0 c hcn (by decide) (by decide)
    have hb := cnL_b (t := t) (s := s) (a := a) (v := v) (p := p) c
    have ih := cl_let1 hG hS hT hl hs li si ha hQ n (c + 1) (by omega)
    have no : ltc t s a p v c = false → aMk_countLet (d + 2) lim Q 12 [xr 123, xr kt, xr k, xi p, xi v, xi (cnL t s a p v c), xi (nC t), xi ((c : Int) + 1)] [] g w := fun z => by
      rw [show ((c : Int) + 1) = ((c + 1 : Nat) : Int) by omega]
      rw [cnL, if_neg (by rw [z]; decide), Int.add_zero] at ih; exact ih
    refine wMk_countLet_12 ?_
    simp only [hG.1, s_o hS, s_p2 hS, s_r2 hS, s_p0 hS, s_r0 hS, e3, e0, Int.tdiv_eq_ediv_of_nonneg h0.1, true_and]
    refine ⟨fun h => by omega, fun _ => ⟨by constructor <;> omega, fun z => ⟨by constructor <;> omega, no ?_⟩, fun z => ⟨by constructor <;> omega, ⟨by decide, by constructor <;> omega⟩, fun y => ⟨by constructor <;> omega, no ?_⟩, fun y => cl_under hG hS hT hl hs li si ha hcn ⟨_, rfl, fun x => ⟨by constructor <;> omega, no ?_⟩, fun x => ⟨by constructor <;> omega, by constructor <;> omega, ?_⟩⟩⟩⟩⟩
    · unfold ltc; simp [z]
    · unfold ltc; rw [show decide (v ≤ s 0 c / 50) = false by simp; omega]; simp
    · have x := ifv.2 x
      unfold ltc; rw [x]; simp
    · have x := ifv.1 x
      have hy : ltc t s a p v c = true := by
        unfold ltc
        simp [z, x, y]
      rw [show ((c : Int) + 1) = ((c + 1 : Nat) : Int) by omega]
      rw [cnL, if_pos hy] at ih; exact ih
theorem cl_countLet (hG : MkG g) (hS : SG g k) (hT : TG g kt) (hl : RCl t kt w) (hs : RCs t s k w) (li : LInv t) (si : SInv t s) (ha : ∀ o, o < 6 → w 124 o = a o) {p : Nat} (hQ : Q (some (xi (cnL t s a p v (nC t)))) g w) : cal (d + 3) nMk_countLet [xr 123, xr kt, xr k, xi p, xi v] g w Q := by
  refine eMk_countLet fun lim Q2 h2 => wMk_countLet_0 ?_
  have hQ := h2 _ _ _ rfl hQ
  simp only [t_o hT, true_and]
  exact cl_cells hT hl li ⟨_, rfl, cl_let1 hG hS hT hl hs li si ha hQ (nC t) 0 (by omega)⟩
theorem cl_best1 (hG : MkG g) (hS : SG g k) (hT : TG g kt) (hl : RCl t kt w) (hs : RCs t s k w) (li : LInv t) (si : SInv t s) (ha : ∀ o, o < 6 → w 124 o = a o) {p : Nat} : ∀ (n v : Nat) (b m : Int), v + n = 10 → Q (some (xi (bsr t s a p n v b m))) g w → aMk_bestRent (d + 3) lim Q 9 [xr 123, xr kt, xr k, xi p, xi b, xi m, xi v, none] [] g w
  | 0, v, b, m, hv, hQ => by
    refine wMk_bestRent_9 ?_
    simp only [hG.1, true_and]
    exact ⟨fun _ => hQ, fun h => by omega⟩
  | n + 1, v, b, m, hv, hQ => by
    obtain ⟨n1, n2, -, -, n5, n6⟩ := li_n li
    have hb := cnL_b (t := t) (s := s) (a := a) (v := v) (p := p) (nC t)
    have hm : 0 ≤ (v : Int) * cnL t s a p v (nC t) ∧ (v : Int) * cnL t s a p v (nC t) ≤ 180 := by
      have : v = 0 ∨ v = 1 ∨ v = 2 ∨ v = 3 ∨ v = 4 ∨ v = 5 ∨ v = 6 ∨ v = 7 ∨ v = 8 ∨ v = 9 := by omega
      rcases this with q | q | q | q | q | q | q | q | q | q <;> subst q <;> omega
    refine wMk_bestRent_9 ?_
    simp only [hG.1, true_and]
    refine ⟨fun h => by omega, fun _ => cl_countLet hG hS hT hl hs li si ha ⟨_, rfl, by constructor <;> omega, fun z => ⟨by constructor <;> omega, ?_⟩, fun z => ⟨by constructor <;> omega, ?_⟩⟩⟩
    · rw [show ((v : Int) + 1) = ((v + 1 : Nat) : Int) by omega]
      refine cl_best1 hG hS hT hl hs li si ha n (v + 1) b m (by omega) ?_
      rw [bsr, if_neg (by omega)] at hQ; exact hQ
    · rw [show ((v : Int) + 1) = ((v + 1 : Nat) : Int) by omega]
      refine cl_best1 hG hS hT hl hs li si ha n (v + 1) v _ (by omega) ?_
      rw [bsr, if_pos z] at hQ; exact hQ
theorem cl_bestRent (hG : MkG g) (hS : SG g k) (hT : TG g kt) (hl : RCl t kt w) (hs : RCs t s k w) (li : LInv t) (si : SInv t s) (ha : ∀ o, o < 6 → w 124 o = a o) {p : Nat} (hQ : Q (some (xi (bsR t s a p))) g w) : cal (d + 4) nMk_bestRent [xr 123, xr kt, xr k, xi p] g w Q := by
  refine eMk_bestRent fun lim Q2 h2 => wMk_bestRent_0 ?_
  exact cl_best1 hG hS hT hl hs li si ha 9 1 0 0 rfl (h2 _ _ _ rfl hQ)
theorem cl_ask1 (hG : MkG g) (hS : SG g k) (hT : TG g kt) (hd : 124 < k ∧ 124 < kt) (hl : RCl t kt w0) (hs : RCs t s k w0) (li : LInv t) (si : SInv t s) (hQ : ∀ w2, CF 112 w0 w2 → (∀ o, o < 6 → w2 124 o = (asU t s a (nP t)).1 o) → Q (some (xi (if (asU t s a (nP t)).2 = true then 1 else 0))) g w2) : ∀ (n p : Nat) (w : xW), p + n = nP t → CF 112 w0 w → (∀ o, o < 6 → w 124 o = (asU t s a p).1 o) → aMk_askAnew (d + 4) lim Q 5 [xr 123, xr kt, xr k, xi (if (asU t s a p).2 = true then 1 else 0), xi p, none] [] g w
  | 0, p, w, hp, hf, ha => by
    have hp : p = nP t := by omega
    subst hp
    obtain ⟨-, -, -, -, n5, n6⟩ := li_n li
    have e5 : w kt 5 = t 0 5 := (hl.fr hf (by omega)).2.2.2.2.2.1
    refine wMk_askAnew_5 ?_
    simp only [hG.1, t_o hT, e5, true_and]
    exact ⟨fun _ => ⟨by split <;> omega, hQ w hf ha⟩, fun h => by omega⟩
  | n + 1, p, w, hp, hf, ha => by
    obtain ⟨-, -, -, -, n5, n6⟩ := li_n li
    have hl2 := hl.fr hf (by omega)
    have hs2 := hs.cf li hf (by omega)
    have e5 : w kt 5 = t 0 5 := hl2.2.2.2.2.2.1
    have ea : w 124 (Int.toNat (p : Int)) = (asU t s a p).1 p := by rw [Int.toNat_natCast]; exact ha p (by omega)
    have fin : ∀ u : Int, u = (if (asU t s a (p + 1)).2 = true then 1 else 0) → aMk_askAnew (d + 4) lim Q 45 [xr 123, xr kt, xr k, none, xi p, xi (bsR t s (asU t s a p).1 p)] [xi u] g w := fun u hu => by
      refine wMk_askAnew_45 ?_
      simp only [hG.1, hG.2.1, true_and]
      refine ⟨(xA1_1 hG.2.2 _).2 (by omega), by constructor <;> omega, ?_⟩
      rw [show ((p : Int) + 1) = ((p + 1 : Nat) : Int) by omega, hu, Int.toNat_natCast]
      refine cl_ask1 hG hS hT hd hl hs li si hQ n (p + 1) _ (by omega) (hf.trans (CF.up (by omega) (by omega))) fun o ho => ?_
      show _ = zup (asU t s a p).1 p (bsR t s (asU t s a p).1 p) o
      by_cases z : o = p
      · subst z; rw [xup_s, zup_s]
      · rw [xup_k z, zup_n z]; exact ha o ho
    refine wMk_askAnew_5 ?_
    simp only [hG.1, t_o hT, e5, true_and]
    refine ⟨fun h => by omega, fun _ => cl_bestRent hG hS hT hl2 hs2 li si ha ⟨_, rfl, fun z => fin 1 ?_, fun z => ?_⟩⟩
    · have z := ifv.2 z
      rw [asU, z, if_pos]; rfl
    · have z := ifv.1 z
      have z : (asU t s a p).2 = false := by
        cases h : (asU t s a p).2
        · rfl
        · exact absurd h z
      simp only [hG.1, hG.2.1, ea, true_and]
      refine ⟨(xAr_1 hG.2.2 _).2 (by omega), fun y => fin 0 ?_, fun y => fin 1 ?_⟩
      · rw [asU, z, if_neg]; simp [y]
      · rw [asU, z, if_pos]; simp [y]
theorem cl_settle1 (hG : MkG g) (hS : SG g k) (hT : TG g kt) (hd : 124 < k ∧ 124 < kt) (hl : RCl t kt w0) (hs : RCs t s k w0) (li : LInv t) (si : SInv t s) : ∀ (n r : Nat) (a : Nat → Int) (w : xW), r + n = 20 → CF 112 w0 w → (∀ o, o < 6 → w 124 o = a o) → (∀ w2, CF 112 w0 w2 → (∀ o, o < 6 → w2 124 o = (stl t s n r a).2 o) → Q (some (xi (stl t s n r a).1)) g w2) → aMk_settle (d + 5) lim Q 10 [xr 123, xr kt, xr k, xi r] [] g w
  | 0, r, a, w, hr, hf, ha, hQ => by
    refine wMk_settle_10 ?_
    simp only [hG.1, true_and]
    exact ⟨fun _ => hQ w hf ha, fun h => by omega⟩
  | n + 1, r, a, w, hr, hf, ha, hQ => by
    refine wMk_settle_10 ?_
    simp only [hG.1, true_and]
    refine ⟨fun h => by omega, fun _ => eMk_askAnew fun lim2 Q3 h3 => wMk_askAnew_0 ?_⟩
    have := cl_ask1 (d := d) (lim := lim2) (a := a) hG hS hT hd (hl.fr hf (by omega)) (hs.cf li hf (by omega)) li si (Q := Q3) (fun w2 f2 a2 => h3 _ _ _ rfl ⟨_, rfl, fun z => ⟨by constructor <;> omega, ?_⟩, fun z => ?_⟩) (nP t) 0 w (by omega) CF.refl ha
    · exact this
    · have z := ifv.2 z
      rw [show ((r : Int) + 1) = ((r + 1 : Nat) : Int) by omega]
      refine cl_settle1 hG hS hT hd hl hs li si n (r + 1) _ w2 (by omega) (hf.trans f2) a2 fun w3 f3 a3 => ?_
      have := hQ w3 f3
      rw [stl, if_pos z] at this; exact this a3
    · have z := ifv.1 z
      have := hQ w2 (hf.trans f2)
      rw [stl, if_neg z] at this; exact this a2
theorem cl_rents {p : Int} (F : FG g kl kn kl2 kn2) (hG : MkG g) (hl : RCl t kl w) (hs : RCs t s kn w) (li : LInv t) (si : SInv t s) (hQ : ∀ w2, CF 112 w w2 → Q (some (xi (oRents t s p))) g w2) : cal (d + 7) nFf_rents [xr 2, xi p] g w Q := by
  refine eFf_rents fun lim Q2 h2 => wFf_rents_0 ?_
  have hQ := fun w2 a => h2 _ g w2 rfl (hQ w2 a)
  have hkl := f_hl F
  have hkn := f_hn F
  obtain ⟨-, -, -, -, n5, n6⟩ := li_n li
  unfold oRents at hQ
  have go : (p = -1 ∨ (0 ≤ p ∧ p < t 0 5)) → aFf_rents (d + 6) lim Q2 16 [xr 2, xi p, none] [] g w := fun hp => by
    rw [if_pos hp] at hQ
    refine wFf_rents_16 ?_
    simp only [f_o F, f_p8 F, f_p9 F, f_p11 F, hG.1, true_and]
    refine eMk_settle fun lim2 Q3 h3 => wMk_settle_0 ?_
    simp only [hG.1, hG.2.1, true_and]
    refine cl_fill hG.2.2 (by decide) fun w2 f2 a2 => ⟨rfl, ?_⟩
    refine cl_settle1 hG (f_sn F) (f_tl F) (by omega) hl hs li si 20 0 (fun _ => 0) w2 rfl (fun b j q => f2 b j (by omega)) a2 fun w3 f3 a3 => h3 _ _ _ rfl ⟨_, rfl, fun z => ?_, fun z => ⟨fun y => ?_, fun y => ?_⟩⟩
    · rw [if_pos (Or.inl z)] at hQ; exact hQ w3 f3
    · rw [if_neg (fun u => u.elim z y)] at hQ
      have ep : w3 124 p.toNat = _ := a3 p.toNat (by omega)
      simp only [f_o F, f_p8 F, hG.1, hG.2.1, ep, true_and]
      exact ⟨(xAr_1 hG.2.2 _).2 (by omega), hQ w3 f3⟩
    · rw [if_pos (Or.inr y)] at hQ; exact hQ w3 f3
  refine ⟨fun z => go (Or.inl z), fun z => ?_⟩
  simp only [f_o F, true_and]
  refine cl_isPerson F hl ⟨_, rfl, fun y => go (Or.inr (ifv.2 y)), fun y => ?_⟩
  rw [if_neg (fun u => u.elim z (ifv.1 y))] at hQ; exact hQ w CF.refl
end CNB
