/-! ===== the class: stoves, fevers, a 50th less ===== -/
section CLD
variable {g : xG} {w w0 : xW} {t s : zS} {d : Nat} {Q : xQ} {lim : Nat × Nat} {k kt : Nat}
/-- heats behind flow and n stoves; behind m fevers -/
def cS (t s : zS) (n : Nat) : zS := zset (sW s n) 0 (fun c => s 0 c + flw t s c + sS t s c n)
def cF (t s : zS) (n : Nat) : zS := zset (sW s (nS t)) 0 (fun c => s 0 c + flw t s c + sS t s c (nS t) + sF t s c n)
def cC (t s : zS) (n : Nat) : zS := zset (sW s (nS t)) 0 (fun c => if c < n then h1 t s c else s 0 c + flw t s c + sS t s c (nS t) + sF t s c (nP t))
theorem cS_r {n r i : Nat} (h : r ≠ 0) : cS t s n r i = sW s n r i := zset_n h
theorem cS_0 {n i : Nat} : cS t s n 0 i = s 0 i + flw t s i + sS t s i n := zset_s
theorem cF_r {n r i : Nat} (h : r ≠ 0) : cF t s n r i = sW s (nS t) r i := zset_n h
theorem cF_0 {n i : Nat} : cF t s n 0 i = s 0 i + flw t s i + sS t s i (nS t) + sF t s i n := zset_s
theorem cC_r {n r i : Nat} (h : r ≠ 0) : cC t s n r i = sW s (nS t) r i := zset_n h
theorem cC_0 {n i : Nat} : cC t s n 0 i = if i < n then h1 t s i else s 0 i + flw t s i + sS t s i (nS t) + sF t s i (nP t) := zset_s
theorem cS_z : cS t s 0 = zset s 0 (fun c => s 0 c + flw t s c) := by
  funext r i
  by_cases h0 : r = 0
  · subst h0; rw [cS_0, zset_s]; show _ + 0 = _; omega
  · rw [cS_r h0, zset_n h0]
    by_cases h5 : r = 5
    · subst h5; rw [sW_5, if_neg (by omega)]
    · by_cases h6 : r = 6
      · subst h6; rw [sW_6, if_neg (by omega)]
      · exact sW_o h5 h6
theorem cF_z : cF t s 0 = cS t s (nS t) := by
  funext r i
  by_cases h0 : r = 0
  · subst h0; rw [cS_0, cF_0]; show _ + 0 = _; omega
  · rw [cS_r h0, cF_r h0]
theorem cC_z : cC t s 0 = cF t s (nP t) := by
  funext r i
  by_cases h0 : r = 0
  · subst h0; rw [cC_0, cF_0, if_neg (by omega)]
  · rw [cC_r h0, cF_r h0]
theorem cS_skip {n : Nat} (h1 : ¬ s 6 n = 1) : cS t s (n + 1) = cS t s n := by
  funext r i
  by_cases h0 : r = 0
  · subst h0; rw [cS_0, cS_0]; unfold sS; rw [zsm, if_neg (fun z => h1 z.1)]; omega
  · rw [cS_r h0, cS_r h0]
    by_cases h5 : r = 5
    · subst h5
      rw [sW_5, sW_5]
      by_cases hi : i = n
      · subst hi; rw [if_neg (fun z => h1 z.2), if_neg (fun z => h1 z.2)]
      · by_cases q : i < n ∧ s 6 i = 1
        · rw [if_pos q, if_pos ⟨by omega, q.2⟩]
        · rw [if_neg q, if_neg (fun z => q ⟨by omega, z.2⟩)]
    · by_cases h6 : r = 6
      · subst h6
        rw [sW_6, sW_6]
        by_cases hi : i = n
        · subst hi; rw [if_neg (fun z => h1 z.2), if_neg (fun z => h1 z.2)]
        · by_cases q : i < n ∧ s 6 i = 1
          · rw [if_pos q, if_pos ⟨by omega, q.2⟩]
          · rw [if_neg q, if_neg (fun z => q ⟨by omega, z.2⟩)]
      · rw [sW_o h5 h6, sW_o h5 h6]
theorem cS_take {n : Nat} (h1 : s 6 n = 1) (h3 : 0 ≤ t 3 n) {a b c : zS} (ha : a = zset (cS t s n) 0 (zup (cS t s n 0) (t 3 n).toNat (cS t s n 0 (t 3 n).toNat + t 4 n))) (hb : b = zset a 5 (zup (a 5) n (s 5 n - 1))) (hc : c = zset b 6 (zup (b 6) n (if 0 < s 5 n - 1 then 1 else 0))) : c = cS t s (n + 1) := by
  funext r i
  by_cases h0 : r = 0
  · subst h0
    rw [hc, zset_n (by decide), hb, zset_n (by decide), ha, zset_s, cS_0 (n := n + 1) (i := i)]
    unfold sS
    rw [zsm]
    by_cases q : i = (t 3 n).toNat
    · rw [q, zup_s, if_pos ⟨h1, by omega⟩, cS_0]; unfold sS; omega
    · rw [zup_n q, if_neg (by omega), cS_0]; unfold sS; omega
  · rw [cS_r h0]
    by_cases h6 : r = 6
    · subst h6
      rw [hc, zset_s, sW_6]
      by_cases hi : i = n
      · subst hi; rw [zup_s, if_pos (show i < i + 1 ∧ s 6 i = 1 from ⟨by omega, h1⟩)]
      · rw [zup_n hi, hb, zset_n (by decide), ha, zset_n (by decide), cS_r (by decide), sW_6]
        by_cases q : i < n ∧ s 6 i = 1
        · rw [if_pos q, if_pos (show i < n + 1 ∧ s 6 i = 1 from ⟨by omega, q.2⟩)]
        · rw [if_neg q, if_neg (fun z => q ⟨by omega, z.2⟩)]
    · rw [hc, zset_n h6]
      by_cases h5 : r = 5
      · subst h5
        rw [hb, zset_s, sW_5]
        by_cases hi : i = n
        · subst hi; rw [zup_s, if_pos ⟨by omega, h1⟩]
        · rw [zup_n hi, ha, zset_n (by decide), cS_r (by decide), sW_5]
          by_cases q : i < n ∧ s 6 i = 1
          · rw [if_pos q, if_pos ⟨by omega, q.2⟩]
          · rw [if_neg q, if_neg (fun z => q ⟨by omega, z.2⟩)]
      · rw [hb, zset_n h5, ha, zset_n h0, cS_r h0, sW_o h5 h6, sW_o h5 h6]
theorem cl_addW1 (hS : SG g k) (hT : TG g kt) (hd : kt + 7 < k ∨ k + 12 < kt) (hl : RCl t kt w0) (li : LInv t) (si : SInv t s) (hk : ∀ w, CF k w0 w → RCs t (cS t s (nS t)) k w → aSt_addWarmth d lim Q 77 [xr k, xr kt, xi 0] [] g w) : ∀ (n i : Nat) (w : xW), i + n = nS t → CF k w0 w → RCs t (cS t s i) k w → aSt_addWarmth d lim Q 2 [xr k, xr kt, xi i] [] g w
  | 0, i, w, hi, hf, hs => by
    have hl2 := hl.fr hf hd
    obtain ⟨-, -, n3, n4, -⟩ := li_n li
    have e8 : w kt 2 = t 0 2 := hl2.2.2.1
    have hi : i = nS t := by omega
    subst hi
    refine wSt_addWarmth_2 ?_
    simp only [s_o hS, t_o hT, true_and, e8]
    exact ⟨fun _ => hk w hf hs, fun h => by omega⟩
  | n + 1, i, w, hi, hf, hs => by
    have hl2 := hl.fr hf hd
    obtain ⟨n1, n2, n3, n4, -⟩ := li_n li
    have e8 : w kt 2 = t 0 2 := hl2.2.2.1
    have hin : i < nS t := by omega
    have e6 : w (k + 7) (Int.toNat (i : Int)) = s 6 i := by
      rw [Int.toNat_natCast, show w (k + 7) i = _ from hs.1 6 i hin (by decide) (by decide), cS_r (by decide), sW_6, if_neg (by omega)]
    have e5 : w (k + 6) (Int.toNat (i : Int)) = s 5 i := by
      rw [Int.toNat_natCast, show w (k + 6) i = _ from hs.1 5 i hin (by decide) (by decide), cS_r (by decide), sW_5, if_neg (by omega)]
    have e9 : w (kt + 4) (Int.toNat (i : Int)) = t 3 i ∧ w (kt + 5) (Int.toNat (i : Int)) = t 4 i := by rw [Int.toNat_natCast]; exact hl2.2.2.2.2.2.2.2.2.2.1 i hin
    have hl3 := li.2.2.2.2.2.2.2.1 i hin
    have hs5 := si.2.2.2.1 i hin
    have hc : (t 3 i).toNat < nC t := by omega
    have e17 : w (k + 1) (Int.toNat (t 3 i)) = cS t s i 0 (t 3 i).toNat := hs.1 0 _ hc (by decide) (by decide)
    have hb := flw_b li si hc
    have hb1 := (si.1 _ hc).1
    have hb2 := sS_b (s := s) li (t 3 i).toNat (n := i) (by omega)
    have hb3 : cS t s i 0 (t 3 i).toNat = _ := cS_0
    refine wSt_addWarmth_2 ?_
    simp only [s_o hS, t_o hT, s_p6 hS, s_r6 hS, s_p0 hS, s_r0 hS, s_a0 hS, t_p9 hT, t_r9 hT, t_p10 hT, t_r10 hT, e8, e6, e9.1, e9.2, e17, true_and]
    refine ⟨fun h => by omega, fun _ => ⟨by constructor <;> omega, fun q => ⟨by constructor <;> omega, ?_⟩, fun q => ⟨by constructor <;> omega, by constructor <;> omega, by constructor <;> omega, by constructor <;> omega, by constructor <;> omega, ?_⟩⟩⟩
    · rw [show ((i : Int) + 1) = ((i + 1 : Nat) : Int) by omega]
      exact cl_addW1 hS hT hd hl li si hk n (i + 1) w (by omega) hf (by rw [cS_skip (by omega)]; exact hs)
    · have h6 : s 6 i = 1 := by omega
      have s1 := hs.put li (r := 0) (i := (t 3 i).toNat) hc (by decide) (by decide) (v := cS t s i 0 (t 3 i).toNat + t 4 i) (a := k + 1) (j := (t 3 i).toNat) rfl rfl
      generalize hw1 : xup w (k + 1) (t 3 i).toNat (cS t s i 0 (t 3 i).toNat + t 4 i) = w1 at *
      have f1 : CF k w0 w1 := hf.trans (by rw [← hw1]; exact CF.up (by omega) (by omega))
      have e51 : w1 (k + 6) (Int.toNat (i : Int)) = s 5 i := by rw [← hw1, xup_a (by omega)]; exact e5
      refine wSt_addWarmth_39 ?_
      simp only [s_o hS, s_p5 hS, s_r5 hS, s_a5 hS, e51, true_and]
      refine ⟨by constructor <;> omega, by constructor <;> omega, by constructor <;> omega, ?_⟩
      have s2 := s1.put li (r := 5) (i := i) hin (by decide) (by decide) (v := s 5 i - 1) (a := k + 6) (j := Int.toNat (i : Int)) rfl (Int.toNat_natCast i)
      generalize hw2 : xup w1 (k + 6) (Int.toNat (i : Int)) (s 5 i - 1) = w2 at *
      have f2 : CF k w0 w2 := f1.trans (by rw [← hw2]; exact CF.up (by omega) (by omega))
      have e52 : w2 (k + 6) (Int.toNat (i : Int)) = s 5 i - 1 := by rw [← hw2, xup_s]
      have go : ∀ v : Int, v = (if 0 < s 5 i - 1 then 1 else 0) → aSt_addWarmth d lim Q 2 [xr k, xr kt, xi ((i : Int) + 1)] [] g (xup w2 (k + 7) (Int.toNat (i : Int)) v) := by
        intro v hv
        have s3 := s2.put li (r := 6) (i := i) hin (by decide) (by decide) (v := v) (a := k + 7) (j := Int.toNat (i : Int)) rfl (Int.toNat_natCast i)
        rw [show ((i : Int) + 1) = ((i + 1 : Nat) : Int) by omega]
        refine cl_addW1 hS hT hd hl li si hk n (i + 1) _ (by omega) (f2.trans (CF.up (by omega) (by omega))) ?_
        rw [hv] at s3 ⊢
        rw [cS_take h6 hl3.1.1 rfl rfl rfl] at s3
        exact s3
      refine wSt_addWarmth_49 ?_
      simp only [s_o hS, s_p5 hS, s_r5 hS, s_p6 hS, s_a6 hS, e52, true_and]
      refine ⟨by constructor <;> omega, fun q => ⟨by constructor <;> omega, by constructor <;> omega, go 0 (by rw [if_neg (by omega)])⟩, fun q => ⟨by constructor <;> omega, by constructor <;> omega, go 1 (by rw [if_pos (by omega)])⟩⟩
theorem cl_addW2 (hS : SG g k) (hT : TG g kt) (hd : kt + 7 < k ∨ k + 12 < kt) (hl : RCl t kt w0) (li : LInv t) (si : SInv t s) (hk : ∀ w, CF k w0 w → RCs t (cF t s (nP t)) k w → Q none g w) : ∀ (n i : Nat) (w : xW), i + n = nP t → CF k w0 w → RCs t (cF t s i) k w → aSt_addWarmth d lim Q 77 [xr k, xr kt, xi i] [] g w
  | 0, i, w, hi, hf, hs => by
    have hl2 := hl.fr hf hd
    obtain ⟨-, -, -, -, n5, n6⟩ := li_n li
    have e8 : w kt 5 = t 0 5 := hl2.2.2.2.2.2.1
    have hi : i = nP t := by omega
    subst hi
    refine wSt_addWarmth_77 ?_
    simp only [s_o hS, t_o hT, true_and, e8]
    exact ⟨fun _ => hk w hf hs, fun h => by omega⟩
  | n + 1, i, w, hi, hf, hs => by
    have hl2 := hl.fr hf hd
    obtain ⟨n1, n2, -, -, n5, n6⟩ := li_n li
    have e8 : w kt 5 = t 0 5 := hl2.2.2.2.2.2.1
    have hin : i < nP t := by omega
    have e7 : w (k + 8) (Int.toNat (i : Int)) = s 7 i := by
      rw [Int.toNat_natCast, show w (k + 8) i = _ from hs.1 7 i hin (by decide) (by decide), cF_r (by decide), sW_o (by decide) (by decide)]
    have e9 : w (kt + 7) (Int.toNat (i : Int)) = t 6 i := by rw [Int.toNat_natCast]; exact (hl2.2.2.2.2.2.2.2.2.2.2 i hin).2
    have hl3 := li.2.2.2.2.2.2.2.2 i hin
    have hs7 := (si.2.2.2.2.1 i hin).1
    have hc : (s 7 i).toNat < nC t := by omega
    have e17 : w (k + 1) (Int.toNat (s 7 i)) = cF t s i 0 (s 7 i).toNat := hs.1 0 _ hc (by decide) (by decide)
    have hb := flw_b li si hc
    have hb1 := (si.1 _ hc).1
    have hb2 := sS_b (s := s) li (s 7 i).toNat (n := nS t) (by omega)
    have hb3 := sF_b (s := s) li (s 7 i).toNat (n := i) (by omega)
    have hb4 : cF t s i 0 (s 7 i).toNat = _ := cF_0
    refine wSt_addWarmth_77 ?_
    simp only [s_o hS, t_o hT, s_p7 hS, s_r7 hS, s_p0 hS, s_r0 hS, s_a0 hS, t_p12 hT, t_r12 hT, e8, e7, e9, e17, true_and]
    refine ⟨fun h => by omega, fun _ => ⟨by constructor <;> omega, by constructor <;> omega, by constructor <;> omega, by constructor <;> omega, by constructor <;> omega, by constructor <;> omega, ?_⟩⟩
    rw [show ((i : Int) + 1) = ((i + 1 : Nat) : Int) by omega]
    refine cl_addW2 hS hT hd hl li si hk n (i + 1) _ (by omega) (hf.trans (CF.up (by omega) (by omega))) ?_
    have s1 := hs.put li (r := 0) (i := (s 7 i).toNat) hc (by decide) (by decide) (v := cF t s i 0 (s 7 i).toNat + t 6 i) (a := k + 1) (j := (s 7 i).toNat) rfl rfl
    have e : cF t s (i + 1) = zset (cF t s i) 0 (zup (cF t s i 0) (s 7 i).toNat (cF t s i 0 (s 7 i).toNat + t 6 i)) := by
      funext r j
      by_cases h0 : r = 0
      · subst h0
        rw [zset_s, cF_0]
        unfold sF
        rw [zsm]
        by_cases q : j = (s 7 i).toNat
        · rw [q, zup_s, if_pos (by omega), cF_0]; unfold sF; omega
        · rw [zup_n q, if_neg (by omega), cF_0]; unfold sF; omega
      · rw [zset_n h0, cF_r h0, cF_r h0]
    rw [e]; exact s1
theorem cl_addW (hS : SG g k) (hT : TG g kt) (hd : kt + 7 < k ∨ k + 12 < kt) (hl : RCl t kt w) (li : LInv t) (si : SInv t s) (hs : RCs t (zset s 0 (fun c => s 0 c + flw t s c)) k w) (hQ : ∀ w2, CF k w w2 → RCs t (cF t s (nP t)) k w2 → Q none g w2) : cal (d + 1) nSt_addWarmth [xr k, xr kt] g w Q := by
  refine eSt_addWarmth fun lim Q2 h2 => wSt_addWarmth_0 ?_
  have hQ := fun w2 a b => h2 none g w2 rfl (hQ w2 a b)
  refine cl_addW1 hS hT hd hl li si (fun w1 f1 s1 => ?_) (nS t) 0 w (by omega) CF.refl (by rw [cS_z]; exact hs)
  exact cl_addW2 hS hT hd hl li si hQ (nP t) 0 w1 (by omega) f1 (by rw [cF_z]; exact s1)
theorem cC_n : RCs t (cC t s (nC t)) k w → RCs t (stA t s) k w := fun h => h.to (fun r j hj p1 p2 => by
    unfold stA
    by_cases h6 : r = 6
    · subst h6
      have hj : j < nS t := hj
      rw [zset_s, cC_r (by decide), sW_6]
      by_cases q : s 6 j = 1
      · rw [if_pos q, if_pos (show j < nS t ∧ s 6 j = 1 from ⟨hj, q⟩)]
      · rw [if_neg q, if_neg (fun z => q z.2)]
    · rw [zset_n h6]
      by_cases h5 : r = 5
      · subst h5
        have hj : j < nS t := hj
        rw [zset_s, cC_r (by decide), sW_5]
        by_cases q : s 6 j = 1
        · rw [if_pos q, if_pos (show j < nS t ∧ s 6 j = 1 from ⟨hj, q⟩)]
        · rw [if_neg q, if_neg (fun z => q z.2)]
      · rw [zset_n h5]
        by_cases h0 : r = 0
        · subst h0
          have hj : j < nC t := hj
          rw [zset_s, cC_0, if_pos (by omega)]
        · rw [zset_n h0, cC_r h0, sW_o h5 h6])
  (fun i => by
    unfold stA
    rw [zset_n (by decide), zset_n (by decide), zset_n (by decide), zset_n (by decide), zset_n (by decide), zset_n (by decide), cC_r (by decide), cC_r (by decide), sW_o (by decide) (by decide), sW_o (by decide) (by decide)]
    exact ⟨rfl, rfl⟩)
theorem cl_cool1 (hS : SG g k) (hT : TG g kt) (hd : kt + 7 < k ∨ k + 12 < kt) (hl : RCl t kt w0) (li : LInv t) (si : SInv t s) (hk : ∀ w, CF k w0 w → RCs t (stA t s) k w → Q none g w) : ∀ (n i : Nat) (w : xW), i + n = nC t → CF k w0 w → RCs t (cC t s i) k w → aSt_coolDown d lim Q 17 [xr k, xr kt, xi (nC t), xi (sunv t (s 12 2)), xi i, none] [] g w
  | 0, i, w, hi, hf, hs => by
    have hi : i = nC t := by omega
    subst hi
    refine wSt_coolDown_17 ?_
    simp only [s_o hS, t_o hT, true_and]
    exact ⟨fun _ => hk w hf (cC_n hs), fun h => by omega⟩
  | n + 1, i, w, hi, hf, hs => by
    have hl2 := hl.fr hf hd
    obtain ⟨n1, n2, -⟩ := li_n li
    have hin : i < nC t := by omega
    have hb := hv_b li si hin
    have e0 : w (k + 1) (Int.toNat (i : Int)) = s 0 i + flw t s i + sS t s i (nS t) + sF t s i (nP t) := by
      rw [Int.toNat_natCast, show w (k + 1) i = _ from hs.1 0 i hin (by decide) (by decide), cC_0, if_neg (by omega)]
    have e7 : w (kt + 2) (Int.toNat (i : Int)) = t 1 i := by rw [Int.toNat_natCast]; exact hl2.2.2.2.2.2.2.2.1 i hin
    have ev : hv t s i = s 0 i + flw t s i + (if t 1 i = 0 then sunv t (s 12 2) else 0) + sS t s i (nS t) + sF t s i (nP t) := rfl
    have go : ∀ v : Int, v = hv t s i → aSt_coolDown d lim Q 52 [xr k, xr kt, xi (nC t), xi (sunv t (s 12 2)), xi i, none] [xi v] g w := by
      intro v hv
      subst hv
      refine wSt_coolDown_52 ?_
      simp only [s_o hS, t_o hT, s_p0 hS, s_a0 hS, true_and, Int.tdiv_eq_ediv_of_nonneg hb.1]
      refine ⟨⟨by decide, by constructor <;> omega⟩, by constructor <;> omega, by constructor <;> omega, by constructor <;> omega, ?_⟩
      rw [show ((i : Int) + 1) = ((i + 1 : Nat) : Int) by omega]
      refine cl_cool1 hS hT hd hl li si hk n (i + 1) _ (by omega) (hf.trans (CF.up (by omega) (by omega))) ?_
      refine (hs.put li (r := 0) (i := i) (v := h1 t s i) hin (by decide) (by decide) rfl (Int.toNat_natCast i)).to (fun r j _ _ _ => ?_) fun j => ?_
      · by_cases h0 : r = 0
        · subst h0
          rw [zset_s, cC_0]
          by_cases q : j = i
          · subst q; rw [zup_s, if_pos (by omega)]
          · rw [zup_n q, cC_0]
            by_cases q2 : j < i
            · rw [if_pos q2, if_pos (by omega)]
            · rw [if_neg q2, if_neg (by omega)]
        · rw [zset_n h0, cC_r h0, cC_r h0]
      · rw [zset_n (by decide), zset_n (by decide), cC_r (by decide), cC_r (by decide), cC_r (by decide), cC_r (by decide)]; exact ⟨rfl, rfl⟩
    refine wSt_coolDown_17 ?_
    simp only [s_o hS, t_o hT, s_p0 hS, s_r0 hS, t_p7 hT, t_r7 hT, e0, e7, true_and]
    refine ⟨fun h => by omega, fun _ => ⟨by constructor <;> omega, fun q => ?_, fun q => ?_⟩⟩
    · rw [if_pos q] at ev
      exact ⟨by constructor <;> omega, by constructor <;> omega, go _ (by omega)⟩
    · rw [if_neg q] at ev
      exact ⟨by constructor <;> omega, go _ (by omega)⟩
theorem cl_cool (hS : SG g k) (hT : TG g kt) (hd : kt + 7 < k ∨ k + 12 < kt) (hl : RCl t kt w) (li : LInv t) (si : SInv t s) (hs : RCs t (cF t s (nP t)) k w) (hQ : ∀ w2, CF k w w2 → RCs t (stA t s) k w2 → Q none g w2) : cal (d + 2) nSt_coolDown [xr k, xr kt] g w Q := by
  refine eSt_coolDown fun lim Q2 h2 => wSt_coolDown_0 ?_
  have hQ := fun w2 a b => h2 none g w2 rfl (hQ w2 a b)
  have em : w k 16 = s 12 2 := by
    rw [show w k 16 = _ from hs.1 12 2 (by show 2 < 5; decide) (by decide) (by decide), cF_r (by decide), sW_o (by decide) (by decide)]
  have hm := si.2.2.2.2.2.2.2.1
  simp only [s_o hS, t_o hT, true_and]
  refine cl_cells hT hl li ⟨_, rfl, ?_⟩
  simp only [s_o hS, t_o hT, true_and, em]
  refine cl_sunAt hT hl li (by omega) ⟨_, rfl, ?_⟩
  exact cl_cool1 hS hT hd hl li si hQ (nC t) 0 w (by omega) CF.refl (by rw [cC_z]; exact hs)
end CLD
