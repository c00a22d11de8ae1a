/-! ===== the class: feeling, taking cells ===== -/
section CLE
variable {g : xG} {w w0 : xW} {t s : zS} {d : Nat} {Q : xQ} {lim : Nat × Nat} {k kt : Nat} {fe : Nat → Bool} {numb : Int}
theorem cl_feel1 (hS : SG g k) (hT : TG g kt) (hd : kt + 7 < k ∨ k + 12 < kt) (hl : RCl t kt w0) (li : LInv t) (si : SInv t s) (hk : ∀ w, CF k w0 w → RCs t s k w → w k 12 = msk (feB t s numb) 0 (nP t) → Q none g w) : ∀ (n i : Nat) (w : xW), i + n = nP t → CF k w0 w → RCs t s k w → w k 12 = msk (feB t s numb) 0 i → aSt_feel d lim Q 7 [xr k, xr kt, xi numb, xi i] [] g w
  | 0, i, w, hi, hf, hs, hh => by
    have hl2 := hl.fr hf hd
    obtain ⟨-, -, -, -, n5, n6⟩ := li_n li
    have e8 : w kt 5 = t 0 5 := hl2.2.2.2.2.2.1
    have hi : i = nP t := by omega
    subst hi
    refine wSt_feel_7 ?_
    simp only [s_o hS, t_o hT, e8, true_and]
    exact ⟨fun _ => hk w hf hs hh, fun h => by omega⟩
  | n + 1, i, w, hi, hf, hs, hh => by
    have hl2 := hl.fr hf hd
    obtain ⟨n1, n2, -, -, n5, n6⟩ := li_n li
    have e8 : w kt 5 = t 0 5 := hl2.2.2.2.2.2.1
    have hin : i < nP t := by omega
    have h5 := si.2.2.2.2.1 i hin
    have h0 := (si.1 (s 7 i).toNat (by omega)).1
    have ht := li.2.2.2.2.2.2.2.2 i hin
    have e7 : w (k + 8) (Int.toNat (i : Int)) = s 7 i := by rw [Int.toNat_natCast]; exact hs.1 7 i hin (by decide) (by decide)
    have e8' : w (k + 9) (Int.toNat (i : Int)) = s 8 i := by rw [Int.toNat_natCast]; exact hs.1 8 i hin (by decide) (by decide)
    have e0 : w (k + 1) (Int.toNat (s 7 i)) = s 0 (s 7 i).toNat := hs.1 0 (s 7 i).toNat (show (s 7 i).toNat < nC t by omega) (by decide) (by decide)
    have e2 : w (kt + 6) (Int.toNat (i : Int)) = t 5 i := by rw [Int.toNat_natCast]; exact (hl2.2.2.2.2.2.2.2.2.2.2 i hin).1
    have ed : feB t s numb i = true ↔ ((i : Int) ≠ numb ∧ s 8 i + t 5 i ≤ s 0 (s 7 i).toNat) := by
      unfold feB
      simp
    have no : ¬ feB t s numb i = true → aSt_feel d lim Q 7 [xr k, xr kt, xi numb, xi ((i : Int) + 1)] [] g w := fun q => by
      rw [show ((i : Int) + 1) = ((i + 1 : Nat) : Int) by omega]
      exact cl_feel1 hS hT hd hl li si hk n (i + 1) w (by omega) hf hs (by rw [hh, msk, if_neg q])
    refine wSt_feel_7 ?_
    simp only [s_o hS, t_o hT, s_p7 hS, s_r7 hS, s_p0 hS, s_r0 hS, s_p8 hS, s_r8 hS, t_p11 hT, t_r11 hT, e7, e8, e8', e0, e2, true_and]
    refine ⟨fun h => by omega, fun _ => ⟨fun q => ⟨by constructor <;> omega, no fun z => (ed.mp z).1 q⟩, fun q => ⟨by constructor <;> omega, by constructor <;> omega, by constructor <;> omega, by constructor <;> omega, by constructor <;> omega, fun q2 => ⟨by constructor <;> omega, no fun z => by have := (ed.mp z).2; omega⟩, fun q2 => ⟨by constructor <;> omega, ?_⟩⟩⟩⟩
    rw [show ((i : Int) + 1) = ((i + 1 : Nat) : Int) by omega]
    refine cl_feel1 hS hT hd hl li si hk n (i + 1) _ (by omega) (hf.trans (CF.up (by omega) (by omega))) (hs.oth li (Or.inr ⟨rfl, rfl⟩)) ?_
    rw [xup_s, hh, msk, if_pos (ed.mpr ⟨q, q2⟩)]
theorem cl_feel (hS : SG g k) (hT : TG g kt) (hd : kt + 7 < k ∨ k + 12 < kt) (hl : RCl t kt w) (hs : RCs t s k w) (li : LInv t) (si : SInv t s) (hQ : ∀ w2, CF k w w2 → RCs t s k w2 → w2 k 12 = msk (feB t s numb) 0 (nP t) → Q none g w2) : cal (d + 1) nSt_feel [xr k, xr kt, xi numb] g w Q := by
  refine eSt_feel fun lim Q2 h2 => wSt_feel_0 ?_
  have hQ := fun w2 a b c => h2 none g w2 rfl (hQ w2 a b c)
  simp only [s_o hS, true_and]
  exact cl_feel1 hS hT hd hl li si hQ (nP t) 0 _ (by omega) (CF.up (by omega) (by omega)) (hs.oth li (Or.inr ⟨rfl, rfl⟩)) (by rw [xup_s]; rfl)
theorem cl_feels (hS : SG g k) (li : LInv t) (hF : w k 12 = msk fe 0 (nP t)) {p : Nat} (hp : p < nP t) (hQ : Q (some (xi (if fe p = true then 1 else 0))) g w) : cal (d + 1) nSt_feels [xr k, xi p] g w Q := by
  refine eSt_feels fun lim Q2 h2 => wSt_feels_0 ?_
  have hQ := h2 _ _ _ rfl hQ
  obtain ⟨n1, n2, -, -, n5, n6⟩ := li_n li
  have eb := msk_has (f := fe) n6 hp
  simp only [s_o hS, hF, eb, true_and]
  by_cases z : fe p = true
  · rw [if_pos z] at hQ ⊢
    exact ⟨fun q => absurd q (by decide), fun _ => ⟨Or.inr trivial, hQ⟩⟩
  · rw [if_neg z] at hQ ⊢
    exact ⟨fun _ => ⟨Or.inl trivial, hQ⟩, fun q => absurd rfl q⟩
theorem cl_cold1 (hS : SG g k) (hT : TG g kt) (hl : RCl t kt w) (li : LInv t) (hF : w k 12 = msk fe 0 (nP t)) (h7 : ∀ p, p < nP t → w (k + 8) p = s 7 p) (h8 : ∀ p, p < nP t → w (k + 9) p = s 8 p) {c : Int} (hQ : Q (some (xi (bst s fe c (nP t)))) g w) : ∀ (n i : Nat), i + n = nP t → aSt_coldestFeeling (d + 1) lim Q 5 [xr k, xr kt, xi c, xi (bst s fe c i), xi i] [] g w
  | 0, i, hi => by
    obtain ⟨-, -, -, -, n5, n6⟩ := li_n li
    have e8 : w kt 5 = t 0 5 := hl.2.2.2.2.2.1
    have hi : i = nP t := by omega
    subst hi
    refine wSt_coldestFeeling_5 ?_
    simp only [s_o hS, t_o hT, e8, true_and]
    exact ⟨fun _ => hQ, fun h => by omega⟩
  | n + 1, i, hi => by
    obtain ⟨n1, n2, -, -, n5, n6⟩ := li_n li
    have e8 : w kt 5 = t 0 5 := hl.2.2.2.2.2.1
    have hin : i < nP t := by omega
    have hb := bst_b (s := s) (fe := fe) c i
    have ih := cl_cold1 hS hT hl li hF h7 h8 hQ n (i + 1) (by omega)
    have e7 : w (k + 8) (Int.toNat (i : Int)) = s 7 i := by rw [Int.toNat_natCast]; exact h7 i hin
    have e8' : w (k + 9) (Int.toNat (i : Int)) = s 8 i := by rw [Int.toNat_natCast]; exact h8 i hin
    have yes : (fe i = true ∧ s 7 i = c ∧ (bst s fe c i = -1 ∨ s 8 i < s 8 (bst s fe c i).toNat)) → aSt_coldestFeeling (d + 1) lim Q 5 [xr k, xr kt, xi c, xi i, xi ((i : Int) + 1)] [] g w := fun z => by
      rw [show ((i : Int) + 1) = ((i + 1 : Nat) : Int) by omega]
      rw [bst, if_pos z] at ih; exact ih
    have no : ¬ (fe i = true ∧ s 7 i = c ∧ (bst s fe c i = -1 ∨ s 8 i < s 8 (bst s fe c i).toNat)) → aSt_coldestFeeling (d + 1) lim Q 5 [xr k, xr kt, xi c, xi (bst s fe c i), xi ((i : Int) + 1)] [] g w := fun z => by
      rw [show ((i : Int) + 1) = ((i + 1 : Nat) : Int) by omega]
      rw [bst, if_neg z] at ih; exact ih
    refine wSt_coldestFeeling_5 ?_
    simp only [s_o hS, t_o hT, e8, true_and]
    refine ⟨fun h => by omega, fun _ => cl_feels hS li hF hin ⟨_, rfl, fun q => ⟨by constructor <;> omega, no fun z => ?_⟩, fun q => ?_⟩⟩
    · rw [if_pos z.1] at q; exact absurd q (by decide)
    · have hfe : fe i = true := by
        by_cases z : fe i = true
        · exact z
        · rw [if_neg z] at q; exact absurd rfl q
      simp only [s_o hS, s_p7 hS, s_r7 hS, s_p8 hS, s_r8 hS, e7, e8', true_and]
      refine ⟨by constructor <;> omega, fun q2 => ⟨by constructor <;> omega, no fun z => q2 z.2.1⟩, fun q2 => ⟨fun q3 => ⟨by constructor <;> omega, yes ⟨hfe, q2, Or.inl q3⟩⟩, fun q3 => ?_⟩⟩
      have eb : w (k + 9) (Int.toNat (bst s fe c i)) = s 8 (bst s fe c i).toNat := h8 _ (by omega)
      rw [eb]
      refine ⟨by constructor <;> omega, by constructor <;> omega, fun q4 => ⟨by constructor <;> omega, no fun z => ?_⟩, fun q4 => ⟨by constructor <;> omega, yes ⟨hfe, q2, Or.inr q4⟩⟩⟩
      rcases z.2.2 with z | z <;> omega
theorem cl_cold (hS : SG g k) (hT : TG g kt) (hl : RCl t kt w) (li : LInv t) (hF : w k 12 = msk fe 0 (nP t)) (h7 : ∀ p, p < nP t → w (k + 8) p = s 7 p) (h8 : ∀ p, p < nP t → w (k + 9) p = s 8 p) {c : Int} (hQ : Q (some (xi (bst s fe c (nP t)))) g w) : cal (d + 2) nSt_coldestFeeling [xr k, xr kt, xi c] g w Q := by
  refine eSt_coldestFeeling fun lim Q2 h2 => wSt_coldestFeeling_0 ?_
  exact cl_cold1 hS hT hl li hF h7 h8 (h2 _ _ _ rfl hQ) (nP t) 0 (by omega)
/-- owners and felt times behind the first n persons -/
def tO (t s : zS) (fe : Nat → Bool) : Nat → Nat → Int
  | 0, c => s 3 c
  | n + 1, c => if fe n = true ∧ s 7 n = c ∧ tO t s fe n c = -1 then bst s fe c (nP t) else tO t s fe n c
def tF (t s : zS) (fe : Nat → Bool) : Nat → Nat → Int
  | 0, c => s 4 c
  | n + 1, c => if fe n = true ∧ s 7 n = c ∧ tO t s fe (n + 1) c = n then s 12 2 else tF t s fe n c
theorem bst_fe {c : Int} : ∀ n, bst s fe c n = -1 ∨ (fe (bst s fe c n).toNat = true ∧ s 7 (bst s fe c n).toNat = c)
  | 0 => Or.inl rfl
  | n + 1 => by
    by_cases z : fe n = true ∧ s 7 n = c ∧ (bst s fe c n = -1 ∨ s 8 n < s 8 (bst s fe c n).toNat)
    · rw [bst, if_pos z, Int.toNat_natCast]; exact Or.inr ⟨z.1, z.2.1⟩
    · rw [bst, if_neg z]; exact bst_fe n
theorem tO_A {c : Nat} (h : s 3 c ≠ -1) : ∀ n, tO t s fe n c = s 3 c
  | 0 => rfl
  | n + 1 => by rw [tO, tO_A h n, if_neg (fun z => h z.2.2)]
theorem tO_B {c : Nat} (h : s 3 c = -1) : ∀ n, (tO t s fe n c = -1 ∧ ∀ p, p < n → fe p = true → s 7 p = c → bst s fe c (nP t) = -1) ∨ tO t s fe n c = bst s fe c (nP t)
  | 0 => Or.inl ⟨h, fun p hp => absurd hp (by omega)⟩
  | n + 1 => by
    rw [tO]
    by_cases z : fe n = true ∧ s 7 n = c ∧ tO t s fe n c = -1
    · rw [if_pos z]; exact Or.inr rfl
    · rw [if_neg z]
      rcases tO_B h n with q | q
      · refine Or.inl ⟨q.1, fun p hp a b => ?_⟩
        by_cases y : p = n
        · subst y; exact absurd ⟨a, b, q.1⟩ z
        · exact q.2 p (by omega) a b
      · exact Or.inr q
theorem tO_n (c : Nat) : tO t s fe (nP t) c = ow1 t s fe c := by
  unfold ow1
  by_cases h : s 3 c = -1
  · rw [if_pos h]
    rcases tO_B (t := t) (fe := fe) h (nP t) with q | q
    · rw [q.1]
      rcases bst_fe (s := s) (fe := fe) (c := c) (nP t) with b | b
      · exact b.symm
      · have hb := bst_b (s := s) (fe := fe) c (nP t)
        by_cases e : bst s fe c (nP t) = -1
        · exact e.symm
        · exact (q.2 _ (by omega) b.1 b.2).symm
    · exact q
  · rw [if_neg h]; exact tO_A h _
theorem tO_F {c n : Nat} (a : fe n = true) (b : s 7 n = c) : tO t s fe (n + 1) c = ow1 t s fe c := by
  unfold ow1
  by_cases h : s 3 c = -1
  · rw [if_pos h, tO]
    by_cases z : tO t s fe n c = -1
    · rw [if_pos ⟨a, b, z⟩]
    · rw [if_neg (fun y => z y.2.2)]
      rcases tO_B (t := t) (fe := fe) h n with q | q
      · exact absurd q.1 z
      · exact q
  · rw [if_neg h]; exact tO_A h _
theorem tF_v (li : LInv t) (si : SInv t s) {c : Nat} (hc : c < nC t) : ∀ n, tF t s fe n c = if ow1 t s fe c ≠ -1 ∧ fe (ow1 t s fe c).toNat = true ∧ s 7 (ow1 t s fe c).toNat = c ∧ ow1 t s fe c < n then s 12 2 else s 4 c
  | 0 => by
    have hob := ow1_b (fe := fe) li si hc
    rw [tF, if_neg (fun z => by omega)]
  | n + 1 => by
    have hob := ow1_b (fe := fe) li si hc
    rw [tF]
    by_cases z : fe n = true ∧ s 7 n = c ∧ tO t s fe (n + 1) c = n
    · have e := tO_F (t := t) z.1 z.2.1
      have e2 : ow1 t s fe c = n := e.symm.trans z.2.2
      rw [if_pos z, e2, Int.toNat_natCast, if_pos ⟨by omega, z.1, z.2.1, by omega⟩]
    · rw [if_neg z, tF_v li si hc n]
      by_cases y : ow1 t s fe c ≠ -1 ∧ fe (ow1 t s fe c).toNat = true ∧ s 7 (ow1 t s fe c).toNat = c ∧ ow1 t s fe c < n
      · rw [if_pos y, if_pos ⟨y.1, y.2.1, y.2.2.1, by omega⟩]
      · rw [if_neg y, if_neg]
        intro x
        have : ow1 t s fe c = n := by
          by_cases e : ow1 t s fe c < n
          · exact absurd ⟨x.1, x.2.1, x.2.2.1, e⟩ y
          · omega
        rw [this, Int.toNat_natCast] at x
        exact z ⟨x.2.1, x.2.2.1, by rw [tO_F x.2.1 x.2.2.1]; exact this⟩
theorem tF_n (li : LInv t) (si : SInv t s) {c : Nat} (hc : c < nC t) : tF t s fe (nP t) c = ft1 t s fe c := by
  have hob := ow1_b (fe := fe) li si hc
  obtain ⟨n1, n2, -, -, n5, n6⟩ := li_n li
  rw [tF_v li si hc]
  unfold ft1
  by_cases y : ow1 t s fe c ≠ -1 ∧ fe (ow1 t s fe c).toNat = true ∧ s 7 (ow1 t s fe c).toNat = c
  · rw [if_pos y, if_pos ⟨y.1, y.2.1, y.2.2, by omega⟩]
  · rw [if_neg y, if_neg (fun z => y ⟨z.1, z.2.1, z.2.2.1⟩)]
def sT (t s : zS) (fe : Nat → Bool) (n m : Nat) : zS := zset (zset s 3 (tO t s fe n)) 4 (tF t s fe m)
theorem sT_o {n m r i : Nat} (h3 : r ≠ 3) (h4 : r ≠ 4) : sT t s fe n m r i = s r i := by unfold sT; rw [zset_n h4, zset_n h3]
theorem sT_3 {n m i : Nat} : sT t s fe n m 3 i = tO t s fe n i := by unfold sT; rw [zset_n (by decide), zset_s]
theorem sT_4 {n m i : Nat} : sT t s fe n m 4 i = tF t s fe m i := by unfold sT; rw [zset_s]
theorem sT_n (li : LInv t) (si : SInv t s) (h : RCs t (sT t s fe (nP t) (nP t)) k w) : RCs t (stB t s fe) k w := h.to (fun r j hj p1 p2 => by
    unfold stB
    by_cases h4 : r = 4
    · subst h4
      have hj : j < nC t := hj
      rw [zset_s, sT_4, tF_n li si hj]
    · rw [zset_n h4]
      by_cases h3 : r = 3
      · subst h3
        rw [zset_s, sT_3, tO_n]
      · rw [zset_n h3, sT_o h3 h4]) (fun i => by
    unfold stB
    rw [zset_n (by decide), zset_n (by decide), zset_n (by decide), zset_n (by decide), sT_o (by decide) (by decide), sT_o (by decide) (by decide)]
    exact ⟨rfl, rfl⟩)
theorem tO_b (li : LInv t) (si : SInv t s) {c : Nat} (hc : c < nC t) (n : Nat) : -1 ≤ tO t s fe n c ∧ tO t s fe n c < nP t := by
  have h := (si.1 c hc).2.1
  obtain ⟨n1, n2, -, -, n5, n6⟩ := li_n li
  have hb := bst_b (s := s) (fe := fe) c (nP t)
  by_cases q : s 3 c = -1
  · rcases tO_B (t := t) (fe := fe) q n with z | z
    · omega
    · omega
  · rw [tO_A q]; omega
theorem cl_take47 (hS : SG g k) (hT : TG g kt) (hl : RCl t kt w) (li : LInv t) (si : SInv t s) {i : Nat} (hin : i < nP t) (hs : RCs t (sT t s fe (i + 1) i) k w) (hF : w k 12 = msk fe 0 (nP t)) (hk : ∀ w2, CF k w w2 → RCs t (sT t s fe (i + 1) (i + 1)) k w2 → w2 k 12 = msk fe 0 (nP t) → aSt_takeCells (d + 2) lim Q 2 [xr k, xr kt, xi ((i : Int) + 1), none] [] g w2) : aSt_takeCells (d + 2) lim Q 47 [xr k, xr kt, xi i, xi (s 7 i)] [] g w := by
  obtain ⟨n1, n2, -, -, n5, n6⟩ := li_n li
  have hs7 := (si.2.2.2.2.1 i hin).1
  have hc : (s 7 i).toNat < nC t := by omega
  have e3 : w (k + 3) (Int.toNat (s 7 i)) = tO t s fe (i + 1) (s 7 i).toNat := by rw [show w (k + 3) (Int.toNat (s 7 i)) = _ from hs.1 3 (s 7 i).toNat hc (by decide) (by decide), sT_3]
  have em : w k 16 = s 12 2 := by rw [show w k 16 = _ from hs.1 12 2 (show 2 < 5 by decide) (by decide) (by decide), sT_o (by decide) (by decide)]
  have no : ¬ (fe i = true ∧ tO t s fe (i + 1) (s 7 i).toNat = i) → aSt_takeCells (d + 2) lim Q 2 [xr k, xr kt, xi ((i : Int) + 1), none] [] g w := fun z => by
    refine hk w CF.refl ?_ hF
    have e : sT t s fe (i + 1) (i + 1) = sT t s fe (i + 1) i := by
      funext r j
      by_cases h4 : r = 4
      · subst h4
        rw [sT_4, sT_4]
        show (if fe i = true ∧ s 7 i = j ∧ tO t s fe (i + 1) j = i then s 12 2 else tF t s fe i j) = _
        rw [if_neg]
        intro y
        have : (s 7 i).toNat = j := by omega
        exact z ⟨y.1, by rw [this]; exact y.2.2⟩
      · unfold sT
        rw [zset_n h4, zset_n h4]
    rw [e]; exact hs
  refine wSt_takeCells_47 ?_
  simp only [s_o hS, true_and]
  refine cl_feels hS li hF hin ⟨_, rfl, fun q => ⟨by constructor <;> omega, no fun z => ?_⟩, fun q => ?_⟩
  · rw [if_pos z.1] at q; exact absurd q (by decide)
  · have hfe : fe i = true := by
      by_cases z : fe i = true
      · exact z
      · rw [if_neg z] at q; exact absurd rfl q
    simp only [s_o hS, s_p2 hS, s_r2 hS, s_p3 hS, s_a3 hS, e3, em, true_and]
    refine ⟨by constructor <;> omega, fun q2 => ⟨by constructor <;> omega, no fun z => q2 z.2⟩, fun q2 => ⟨by constructor <;> omega, by constructor <;> omega, ?_⟩⟩
    refine hk _ (CF.up (by omega) (by omega)) ?_ (by rw [xup_a (by omega)]; exact hF)
    have s1 := hs.put li (r := 4) (i := (s 7 i).toNat) hc (by decide) (by decide) (v := s 12 2) (a := k + 4) (j := (s 7 i).toNat) rfl rfl
    have e : sT t s fe (i + 1) (i + 1) = zset (sT t s fe (i + 1) i) 4 (zup (sT t s fe (i + 1) i 4) (s 7 i).toNat (s 12 2)) := by
      funext r j
      by_cases h4 : r = 4
      · subst h4
        rw [sT_4, zset_s]
        show (if fe i = true ∧ s 7 i = j ∧ tO t s fe (i + 1) j = i then s 12 2 else tF t s fe i j) = _
        by_cases y : j = (s 7 i).toNat
        · subst y
          rw [zup_s, if_pos ⟨hfe, by omega, q2⟩]
        · rw [zup_n y, sT_4, if_neg (fun z => y (by omega))]
      · unfold sT
        rw [zset_n h4, zset_n h4, zset_n h4]
    rw [e]; exact s1
theorem cl_take1 (hS : SG g k) (hT : TG g kt) (hd : kt + 7 < k ∨ k + 12 < kt) (hl : RCl t kt w0) (li : LInv t) (si : SInv t s) (hk : ∀ w, CF k w0 w → RCs t (stB t s fe) k w → w k 12 = msk fe 0 (nP t) → Q none g w) : ∀ (n i : Nat) (w : xW), i + n = nP t → CF k w0 w → RCs t (sT t s fe i i) k w → w k 12 = msk fe 0 (nP t) → aSt_takeCells (d + 2) lim Q 2 [xr k, xr kt, xi i, none] [] g w
  | 0, i, w, hi, hf, hs, hF => by
    have hl2 := hl.fr hf hd
    obtain ⟨-, -, -, -, n5, n6⟩ := li_n li
    have e8 : w kt 5 = t 0 5 := hl2.2.2.2.2.2.1
    have hi : i = nP t := by omega
    subst hi
    refine wSt_takeCells_2 ?_
    simp only [s_o hS, t_o hT, e8, true_and]
    exact ⟨fun _ => hk w hf (sT_n li si hs) hF, fun h => by omega⟩
  | n + 1, i, w, hi, hf, hs, hF => by
    have hl2 := hl.fr hf hd
    obtain ⟨n1, n2, -, -, n5, n6⟩ := li_n li
    have e8 : w kt 5 = t 0 5 := hl2.2.2.2.2.2.1
    have hin : i < nP t := by omega
    have hs7 := (si.2.2.2.2.1 i hin).1
    have hc : (s 7 i).toNat < nC t := by omega
    have e7 : w (k + 8) (Int.toNat (i : Int)) = s 7 i := by rw [Int.toNat_natCast, show w (k + 8) i = _ from hs.1 7 i hin (by decide) (by decide), sT_o (by decide) (by decide)]
    have e3 : w (k + 3) (Int.toNat (s 7 i)) = tO t s fe i (s 7 i).toNat := by rw [show w (k + 3) (Int.toNat (s 7 i)) = _ from hs.1 3 (s 7 i).toNat hc (by decide) (by decide), sT_3]
    have go : ∀ w2, CF k w0 w2 → RCs t (sT t s fe (i + 1) i) k w2 → w2 k 12 = msk fe 0 (nP t) → aSt_takeCells (d + 2) lim Q 47 [xr k, xr kt, xi i, xi (s 7 i)] [] g w2 := fun w2 f2 s2 F2 => by
      refine cl_take47 hS hT (hl.fr f2 hd) li si hin s2 F2 fun w3 f3 s3 F3 => ?_
      rw [show ((i : Int) + 1) = ((i + 1 : Nat) : Int) by omega]
      exact cl_take1 hS hT hd hl li si hk n (i + 1) w3 (by omega) (f2.trans f3) s3 F3
    have no : ¬ (fe i = true ∧ tO t s fe i (s 7 i).toNat = -1) → aSt_takeCells (d + 2) lim Q 47 [xr k, xr kt, xi i, xi (s 7 i)] [] g w := fun z => by
      refine go w hf ?_ hF
      have e : sT t s fe (i + 1) i = sT t s fe i i := by
        funext r j
        by_cases h3 : r = 3
        · subst h3
          rw [sT_3, sT_3, tO, if_neg]
          intro y
          have : (s 7 i).toNat = j := by omega
          exact z ⟨y.1, by rw [this]; exact y.2.2⟩
        · by_cases h4 : r = 4
          · subst h4; rw [sT_4, sT_4]
          · rw [sT_o h3 h4, sT_o h3 h4]
      rw [e]; exact hs
    refine wSt_takeCells_2 ?_
    simp only [s_o hS, t_o hT, s_p7 hS, s_r7 hS, e8, e7, true_and]
    refine ⟨fun h => by omega, fun _ => ⟨by constructor <;> omega, cl_feels hS li hF hin ⟨_, rfl, fun q => no fun z => ?_, fun q => ?_⟩⟩⟩
    · rw [if_pos z.1] at q; exact absurd q (by decide)
    · have hfe : fe i = true := by
        by_cases z : fe i = true
        · exact z
        · rw [if_neg z] at q; exact absurd rfl q
      simp only [s_o hS, t_o hT, s_p2 hS, s_r2 hS, s_a2 hS, e3, true_and]
      refine ⟨by constructor <;> omega, fun q2 => no fun z => q2 z.2, fun q2 => ?_⟩
      refine cl_cold (s := s) hS hT hl2 li hF (fun p hp => ?_) (fun p hp => ?_) ⟨_, rfl, ?_⟩
      · rw [show w (k + 8) p = _ from hs.1 7 p hp (by decide) (by decide), sT_o (by decide) (by decide)]
      · rw [show w (k + 9) p = _ from hs.1 8 p hp (by decide) (by decide), sT_o (by decide) (by decide)]
      · simp only [s_a2 hS]
        refine ⟨by constructor <;> omega, go _ (hf.trans (CF.up (by omega) (by omega))) ?_ (by rw [xup_a (by omega)]; exact hF)⟩
        have s1 := hs.put li (r := 3) (i := (s 7 i).toNat) hc (by decide) (by decide) (v := bst s fe (s 7 i) (nP t)) (a := k + 3) (j := (s 7 i).toNat) rfl rfl
        have e : sT t s fe (i + 1) i = zset (sT t s fe i i) 3 (zup (sT t s fe i i 3) (s 7 i).toNat (bst s fe (s 7 i) (nP t))) := by
          funext r j
          by_cases h3 : r = 3
          · subst h3
            rw [sT_3, zset_s, tO]
            by_cases y : j = (s 7 i).toNat
            · have y2 : (j : Int) = s 7 i := by omega
              rw [y2, if_pos ⟨hfe, rfl, by rw [y]; exact q2⟩, y, zup_s]
            · rw [zup_n y, sT_3, if_neg (fun z => y (by omega))]
          · rw [zset_n h3]
            by_cases h4 : r = 4
            · subst h4; rw [sT_4, sT_4]
            · rw [sT_o h3 h4, sT_o h3 h4]
        rw [e]; exact s1
theorem cl_take (hS : SG g k) (hT : TG g kt) (hd : kt + 7 < k ∨ k + 12 < kt) (hl : RCl t kt w) (hs : RCs t s k w) (li : LInv t) (si : SInv t s) (hF : w k 12 = msk fe 0 (nP t)) (hQ : ∀ w2, CF k w w2 → RCs t (stB t s fe) k w2 → w2 k 12 = msk fe 0 (nP t) → Q none g w2) : cal (d + 3) nSt_takeCells [xr k, xr kt] g w Q := by
  refine eSt_takeCells fun lim Q2 h2 => wSt_takeCells_0 ?_
  have hQ := fun w2 a b c => h2 none g w2 rfl (hQ w2 a b c)
  have e : sT t s fe 0 0 = s := by
    funext r j
    by_cases h3 : r = 3
    · subst h3; rw [sT_3]; rfl
    · by_cases h4 : r = 4
      · subst h4; rw [sT_4]; rfl
      · rw [sT_o h3 h4]
  exact cl_take1 hS hT hd hl li si hQ (nP t) 0 _ (by omega) CF.refl (by rw [e]; exact hs) hF
end CLE
