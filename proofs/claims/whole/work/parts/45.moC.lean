/-! ===== the reference: stoves, fevers, a 50th less ===== -/
section MOC
variable {g : xG} {w w0 : xW} {t s : zS} {d : Nat} {Q : xQ} {lim : Nat × Nat}
def sS (t s : zS) (c : Nat) (n : Nat) : Int := zsm (fun k => if s 6 k = 1 ∧ t 3 k = c then t 4 k else 0) n
def sF (t s : zS) (c : Nat) (n : Nat) : Int := zsm (fun p => if s 7 p = c then t 6 p else 0) n
theorem sS_b (li : LInv t) (c : Nat) {n : Nat} (hn : n ≤ nS t) : 0 ≤ sS t s c n ∧ sS t s c n ≤ 240 := by
  obtain ⟨-, -, -, n4, -⟩ := li_n li
  have h := zsm_b (b := 60) (f := fun k => if s 6 k = 1 ∧ t 3 k = c then t 4 k else 0) n (fun i hi => by
    have := (li.2.2.2.2.2.2.2.1 i (by omega)).2
    split <;> omega)
  unfold sS
  omega
theorem sF_b (li : LInv t) (c : Nat) {n : Nat} (hn : n ≤ nP t) : 0 ≤ sF t s c n ∧ sF t s c n ≤ 54 := by
  obtain ⟨-, -, -, -, -, n6⟩ := li_n li
  have h := zsm_b (b := 9) (f := fun p => if s 7 p = c then t 6 p else 0) n (fun i hi => by
    have := (li.2.2.2.2.2.2.2.2 i (by omega)).2
    split <;> omega)
  unfold sF
  omega
/-- wood and fire of the first n stoves behind the minute -/
def sW (s : zS) (n : Nat) : zS := zset (zset s 5 (fun k => if k < n ∧ s 6 k = 1 then s 5 k - 1 else s 5 k)) 6 (fun k => if k < n ∧ s 6 k = 1 then (if 0 < s 5 k - 1 then 1 else 0) else s 6 k)
theorem sW_o {n r i : Nat} (h5 : r ≠ 5) (h6 : r ≠ 6) : sW s n r i = s r i := by unfold sW; rw [zset_n h6, zset_n h5]
theorem sW_5 {n i : Nat} : sW s n 5 i = if i < n ∧ s 6 i = 1 then s 5 i - 1 else s 5 i := by unfold sW; rw [zset_n (by decide), zset_s]
theorem sW_6 {n i : Nat} : sW s n 6 i = if i < n ∧ s 6 i = 1 then (if 0 < s 5 i - 1 then 1 else 0) else s 6 i := by unfold sW; rw [zset_s]
theorem sW_0 : RMs t s w → RMs t (sW s 0) w := fun h => h.to fun r i _ => by
  by_cases h5 : r = 5
  · subst h5; rw [sW_5, if_neg (by omega)]
  · by_cases h6 : r = 6
    · subst h6; rw [sW_6, if_neg (by omega)]
    · exact sW_o h5 h6
theorem sW_skip {n : Nat} (h1 : ¬ s 6 n = 1) : RMs t (sW s n) w → RMs t (sW s (n + 1)) w := fun h => h.to fun r i _ => by
  by_cases h5 : r = 5
  · subst h5
    rw [sW_5, sW_5]
    by_cases hi : i = n
    · subst hi; rw [if_neg (fun z => h1 z.2), if_neg (fun z => h1 z.2)]
    · by_cases q : i < n ∧ s 6 i = 1
      · rw [if_pos q, if_pos ⟨by omega, q.2⟩]
      · rw [if_neg q, if_neg (fun z => q ⟨by omega, z.2⟩)]
  · by_cases h6 : r = 6
    · subst h6
      rw [sW_6, sW_6]
      by_cases hi : i = n
      · subst hi; rw [if_neg (fun z => h1 z.2), if_neg (fun z => h1 z.2)]
      · by_cases q : i < n ∧ s 6 i = 1
        · rw [if_pos q, if_pos ⟨by omega, q.2⟩]
        · rw [if_neg q, if_neg (fun z => q ⟨by omega, z.2⟩)]
    · rw [sW_o h5 h6, sW_o h5 h6]
theorem sW_take {n : Nat} (h1 : s 6 n = 1) (h : RMs t (zset (zset (sW s n) 5 (zup (sW s n 5) n (s 5 n - 1))) 6 (zup (zset (sW s n) 5 (zup (sW s n 5) n (s 5 n - 1)) 6) n (if 0 < s 5 n - 1 then 1 else 0))) w) : RMs t (sW s (n + 1)) w := h.to fun r i _ => by
  by_cases h5 : r = 5
  · subst h5
    rw [sW_5, zset_n (by decide), zset_s]
    by_cases hi : i = n
    · subst hi; rw [if_pos ⟨by omega, h1⟩, zup_s]
    · rw [zup_n hi, sW_5]
      by_cases q : i < n ∧ s 6 i = 1
      · rw [if_pos q, if_pos ⟨by omega, q.2⟩]
      · rw [if_neg q, if_neg (fun z => q ⟨by omega, z.2⟩)]
  · by_cases h6 : r = 6
    · subst h6
      rw [sW_6, zset_s]
      by_cases hi : i = n
      · subst hi; rw [if_pos ⟨by omega, h1⟩, zup_s]
      · rw [zup_n hi, zset_n (by decide), sW_6]
        by_cases q : i < n ∧ s 6 i = 1
        · rw [if_pos q, if_pos ⟨by omega, q.2⟩]
        · rw [if_neg q, if_neg (fun z => q ⟨by omega, z.2⟩)]
    · rw [sW_o h5 h6, zset_n h6, zset_n h5, sW_o h5 h6]
theorem mo_goHeat2 (hM : MG g) (hl : RMl t w0) (li : LInv t) (si : SInv t s) (hk : ∀ w, MF w0 w → RMs t (sW s (nS t)) w → (∀ c, c < nC t → w 217 c = hA t s c + sS t s c (nS t)) → aMo_goHeat d lim Q 152 [xr 193, xi 0, none] [] g w) : ∀ (n i : Nat) (w : xW), i + n = nS t → MF w0 w → RMs t (sW s i) w → (∀ c, c < nC t → w 217 c = hA t s c + sS t s c i) → aMo_goHeat d lim Q 64 [xr 193, xi i, none] [] g w
  | 0, i, w, hi, hf, hs, hh => by
    have hl2 := hl.fr hf
    obtain ⟨-, -, n3, n4, -⟩ := li_n li
    have e8 : w 193 8 = t 0 2 := hl2.2.2.1
    have hi : i = nS t := by omega
    subst hi
    exact wMo_goHeat_64 ⟨m_o hM, fun _ => hk w hf hs hh, fun h => by rw [e8] at h; omega⟩
  | n + 1, i, w, hi, hf, hs, hh => by
    have hl2 := hl.fr hf
    obtain ⟨n1, n2, n3, n4, -⟩ := li_n li
    have e8 : w 193 8 = t 0 2 := hl2.2.2.1
    have hin : i < nS t := by omega
    have e6 : w 194 (Int.toNat (104 + (i : Int))) = s 6 i := by
      rw [show Int.toNat (104 + (i : Int)) = 104 + i by omega, show w 194 (104 + i) = _ from hs 6 i hin, sW_6, if_neg (by omega)]
    have e9 : w 199 (Int.toNat (i : Int)) = t 3 i ∧ w 200 (Int.toNat (i : Int)) = t 4 i := by rw [Int.toNat_natCast]; exact hl2.2.2.2.2.2.2.2.2.1 i hin
    have hl3 := li.2.2.2.2.2.2.2.1 i hin
    have hs5 := si.2.2.2.1 i hin
    have e17 : w 217 (Int.toNat (t 3 i)) = hA t s (t 3 i).toNat + sS t s (t 3 i).toNat i := hh _ (by omega)
    have hb := hA_b li si (c := (t 3 i).toNat) (by omega)
    have hb2 := sS_b (s := s) li (t 3 i).toNat (n := i) (by omega)
    refine wMo_goHeat_64 ⟨m_o hM, fun h => by rw [e8] at h; omega, fun _ => ?_⟩
    simp only [m_o hM, m_p0 hM, m_r0 hM, m_a0 hM, m_p48 hM, m_a48 hM, m_r48 hM, m_p9 hM, m_r9 hM, m_p10 hM, m_r10 hM, e6, e9.1, e9.2, e17, true_and]
    refine ⟨by constructor <;> omega, by constructor <;> omega, fun h1 => ⟨by constructor <;> omega, ?_⟩, fun h1 => ⟨by constructor <;> omega, by constructor <;> omega, by constructor <;> omega, by constructor <;> omega, by constructor <;> omega, ?_⟩⟩
    · rw [show ((i : Int) + 1) = ((i + 1 : Nat) : Int) by omega]
      refine mo_goHeat2 hM hl li si hk n (i + 1) w (by omega) hf (sW_skip h1 hs) (fun c hc => ?_)
      rw [hh c hc]
      unfold sS
      rw [zsm, if_neg (fun z => h1 z.1)]; omega
    · generalize hw1 : xup w 217 (Int.toNat (t 3 i)) (hA t s (t 3 i).toNat + sS t s (t 3 i).toNat i + t 4 i) = w1
      have f1 : MF w0 w1 := hf.trans fun a j p q _ => by rw [← hw1]; exact xup_a q
      have s1 : RMs t (sW s i) w1 := hs.oth fun j => by rw [← hw1]; exact xup_a (by decide)
      have h1' : ∀ c, c < nC t → w1 217 c = hA t s c + sS t s c (i + 1) := fun c hc => by
        rw [← hw1]
        unfold sS
        rw [zsm]
        by_cases q : c = (t 3 i).toNat
        · rw [q, xup_s, if_pos ⟨h1, by omega⟩]
          omega
        · rw [xup_k q, hh c hc, if_neg (by omega)]
          unfold sS
          omega
      have e5 : w1 194 (Int.toNat (100 + (i : Int))) = s 5 i := by
        rw [show Int.toNat (100 + (i : Int)) = 100 + i by omega, show w1 194 (100 + i) = _ from s1 5 i hin, sW_5, if_neg (by omega)]
      refine wMo_goHeat_105 ?_
      simp only [m_o hM, m_p0 hM, m_r0 hM, m_a0 hM, e5, true_and]
      refine ⟨by constructor <;> omega, by constructor <;> omega, by constructor <;> omega, by constructor <;> omega, ?_⟩
      generalize hw2 : xup w1 194 (Int.toNat (100 + (i : Int))) (s 5 i - 1) = w2
      have f2 : MF w0 w2 := f1.trans fun a j p q _ => by rw [← hw2]; exact xup_a p
      have s2 : RMs t (zset (sW s i) 5 (zup (sW s i 5) i (s 5 i - 1))) w2 := by rw [← hw2]; exact s1.put li (r := 5) (i := i) hin (by show Int.toNat _ = 100 + i; omega)
      have e52 : w2 194 (Int.toNat (100 + (i : Int))) = s 5 i - 1 := by rw [← hw2, xup_s]
      have h2' : ∀ c, c < nC t → w2 217 c = hA t s c + sS t s c (i + 1) := fun c hc => by rw [← hw2, xup_a (by decide)]; exact h1' c hc
      refine wMo_goHeat_118 ?_
      simp only [m_o hM, m_p0 hM, m_r0 hM, m_a0 hM, e52, true_and]
      rw [show ((i : Int) + 1) = ((i + 1 : Nat) : Int) by omega]
      refine ⟨by constructor <;> omega, by constructor <;> omega, by constructor <;> omega, fun hq => ⟨by constructor <;> omega, by constructor <;> omega, ?_⟩, fun hq => ⟨by constructor <;> omega, by constructor <;> omega, ?_⟩⟩
      · refine mo_goHeat2 hM hl li si hk n (i + 1) _ (by omega) (f2.trans fun a j p q _ => xup_a p) (sW_take h1 ?_) (fun c hc => by rw [xup_a (by decide)]; exact h2' c hc)
        rw [if_neg (by omega)]
        exact s2.put li (r := 6) (i := i) hin (by show Int.toNat _ = 104 + i; omega)
      · refine mo_goHeat2 hM hl li si hk n (i + 1) _ (by omega) (f2.trans fun a j p q _ => xup_a p) (sW_take h1 ?_) (fun c hc => by rw [xup_a (by decide)]; exact h2' c hc)
        rw [if_pos (by omega)]
        exact s2.put li (r := 6) (i := i) hin (by show Int.toNat _ = 104 + i; omega)
theorem mo_goHeat3 (hM : MG g) (hl : RMl t w0) (li : LInv t) (si : SInv t s) (hk : ∀ w, MF w0 w → RMs t (sW s (nS t)) w → (∀ c, c < nC t → w 217 c = hv t s c) → aMo_goHeat d lim Q 191 [xr 193, xi 0, none] [] g w) : ∀ (n i : Nat) (w : xW), i + n = nP t → MF w0 w → RMs t (sW s (nS t)) w → (∀ c, c < nC t → w 217 c = hA t s c + sS t s c (nS t) + sF t s c i) → aMo_goHeat d lim Q 152 [xr 193, xi i, none] [] g w
  | 0, i, w, hi, hf, hs, hh => by
    have hl2 := hl.fr hf
    obtain ⟨-, -, -, -, n5, n6⟩ := li_n li
    have e8 : w 193 13 = t 0 5 := hl2.2.2.2.2.2.1
    have hi : i = nP t := by omega
    subst hi
    exact wMo_goHeat_152 ⟨m_o hM, fun _ => hk w hf hs hh, fun h => by rw [e8] at h; omega⟩
  | n + 1, i, w, hi, hf, hs, hh => by
    have hl2 := hl.fr hf
    obtain ⟨n1, n2, -, -, n5, n6⟩ := li_n li
    have e8 : w 193 13 = t 0 5 := hl2.2.2.2.2.2.1
    have hin : i < nP t := by omega
    have e7 : w 194 (Int.toNat (108 + (i : Int))) = s 7 i := by
      rw [show Int.toNat (108 + (i : Int)) = 108 + i by omega, show w 194 (108 + i) = _ from hs 7 i hin, sW_o (by decide) (by decide)]
    have e9 : w 203 (Int.toNat (i : Int)) = t 6 i := by rw [Int.toNat_natCast]; exact (hl2.2.2.2.2.2.2.2.2.2 i hin).2
    have hl3 := li.2.2.2.2.2.2.2.2 i hin
    have hs7 := (si.2.2.2.2.1 i hin).1
    have e17 : w 217 (Int.toNat (s 7 i)) = hA t s (s 7 i).toNat + sS t s (s 7 i).toNat (nS t) + sF t s (s 7 i).toNat i := hh _ (by omega)
    have hb := hA_b li si (c := (s 7 i).toNat) (by omega)
    have hb2 := sS_b (s := s) li (s 7 i).toNat (n := nS t) (by omega)
    have hb3 := sF_b (s := s) li (s 7 i).toNat (n := i) (by omega)
    refine wMo_goHeat_152 ⟨m_o hM, fun h => by rw [e8] at h; omega, fun _ => ?_⟩
    simp only [m_o hM, m_p0 hM, m_r0 hM, m_p48 hM, m_a48 hM, m_r48 hM, m_p15 hM, m_r15 hM, e7, e9, e17, true_and]
    rw [show ((i : Int) + 1) = ((i + 1 : Nat) : Int) by omega]
    refine ⟨by constructor <;> omega, by constructor <;> omega, by constructor <;> omega, by constructor <;> omega, by constructor <;> omega, by constructor <;> omega, by constructor <;> omega, ?_⟩
    refine mo_goHeat3 hM hl li si hk n (i + 1) _ (by omega) (hf.trans fun a j p q _ => xup_a q) (hs.oth fun j => xup_a (by decide)) (fun c hc => ?_)
    unfold sF
    rw [zsm]
    by_cases q : c = (s 7 i).toNat
    · rw [q, xup_s, if_pos (by omega)]
      omega
    · rw [xup_k q, hh c hc, if_neg (by omega)]
      unfold sF
      omega
theorem hv_b (li : LInv t) (si : SInv t s) {c : Nat} (hc : c < nC t) : 0 ≤ hv t s c ∧ hv t s c ≤ 2000 := by
  have hb := hA_b li si hc
  have hb2 := sS_b (s := s) li c (n := nS t) (by omega)
  have hb3 := sF_b (s := s) li c (n := nP t) (by omega)
  have e : hv t s c = hA t s c + sS t s c (nS t) + sF t s c (nP t) := rfl
  omega
theorem mo_goHeat4 (hM : MG g) (hl : RMl t w0) (li : LInv t) (si : SInv t s) (hk : ∀ w, MF w0 w → RMs t (stA t s) w → Q none g w) : ∀ (n i : Nat) (w : xW), i + n = nC t → MF w0 w → RMs t (zset (sW s (nS t)) 0 (fun c => if c < i then h1 t s c else s 0 c)) w → (∀ c, c < nC t → w 217 c = hv t s c) → aMo_goHeat (d + 1) lim Q 191 [xr 193, xi i, none] [] g w
  | 0, i, w, hi, hf, hs, hh => by
    have hl2 := hl.fr hf
    refine wMo_goHeat_191 ⟨m_o hM, mo_cells hM hl2 li ⟨_, rfl, fun _ => hk w hf (hs.to fun r j hj => ?_), fun h => by omega⟩⟩
    unfold stA
    by_cases h6 : r = 6
    · subst h6
      have hj : j < nS t := hj
      rw [zset_s, zset_n (by decide), sW_6]
      by_cases q : s 6 j = 1
      · rw [if_pos q, if_pos (show j < nS t ∧ s 6 j = 1 from ⟨hj, q⟩)]
      · rw [if_neg q, if_neg (fun z => q z.2)]
    · rw [zset_n h6]
      by_cases h5 : r = 5
      · subst h5
        have hj : j < nS t := hj
        rw [zset_s, zset_n (by decide), sW_5]
        by_cases q : s 6 j = 1
        · rw [if_pos q, if_pos (show j < nS t ∧ s 6 j = 1 from ⟨hj, q⟩)]
        · rw [if_neg q, if_neg (fun z => q z.2)]
      · rw [zset_n h5]
        by_cases h0 : r = 0
        · subst h0
          have hj : j < nC t := hj
          rw [zset_s, zset_s, if_pos (by omega)]
        · rw [zset_n h0, zset_n h0, sW_o h5 h6]
  | n + 1, i, w, hi, hf, hs, hh => by
    have hl2 := hl.fr hf
    obtain ⟨n1, n2, -⟩ := li_n li
    have hin : i < nC t := by omega
    have hb := hv_b li si hin
    have e17 : w 217 (Int.toNat (i : Int)) = hv t s i := by rw [Int.toNat_natCast]; exact hh i hin
    have go : ∀ v : Int, v = h1 t s i → aMo_goHeat (d + 1) lim Q 191 [xr 193, xi ((i : Int) + 1), none] [] g (xup w 194 (Int.toNat (0 + (i : Int))) v) := by
      intro v hv
      rw [show ((i : Int) + 1) = ((i + 1 : Nat) : Int) by omega]
      refine mo_goHeat4 hM hl li si hk n (i + 1) _ (by omega) (hf.trans fun a j p q _ => xup_a p) ?_ (fun c hc => by rw [xup_a (by decide)]; exact hh c hc)
      refine (hs.put li (r := 0) (i := i) (v := v) hin (by show Int.toNat _ = 0 + i; omega)).to fun r j _ => ?_
      by_cases h0 : r = 0
      · subst h0
        rw [zset_s, zset_s]
        by_cases q : j = i
        · subst q; rw [zup_s, if_pos (by omega), hv]
        · rw [zup_n q, zset_s]
          by_cases q2 : j < i
          · rw [if_pos q2, if_pos (by omega)]
          · rw [if_neg q2, if_neg (by omega)]
      · rw [zset_n h0, zset_n h0, zset_n h0]
    refine wMo_goHeat_191 ⟨m_o hM, mo_cells hM hl2 li ⟨_, rfl, fun h => by omega, fun _ => ?_⟩⟩
    simp only [m_o hM, m_p0 hM, m_a0 hM, m_p48 hM, m_r48 hM, e17, true_and, Int.tdiv_eq_ediv_of_nonneg hb.1]
    refine ⟨by constructor <;> omega, by constructor <;> omega, ⟨by decide, by constructor <;> omega⟩, by constructor <;> omega, by constructor <;> omega, fun hq => ⟨by constructor <;> omega, by constructor <;> omega, go _ ?_⟩, fun hq => ⟨by constructor <;> omega, by constructor <;> omega, go _ ?_⟩⟩
    · unfold h1; omega
    · unfold h1; omega
theorem mo_goHeat (hM : MG g) (hl : RMl t w) (hs : RMs t s w) (li : LInv t) (si : SInv t s) (hQ : ∀ w2, MF w w2 → RMs t (stA t s) w2 → Q none g w2) : cal (d + 3) nMo_goHeat [xr 193] g w Q := by
  refine eMo_goHeat fun lim Q2 h2 => wMo_goHeat_0 ?_
  have hQ : ∀ w2, MF w w2 → RMs t (stA t s) w2 → Q2 none g w2 := fun w2 a b => h2 _ _ _ rfl (hQ w2 a b)
  refine mo_goHeat1 (d := d) hM hl li si (fun w1 f1 s1 a1 => ?_) (nC t) 0 w (by omega) MF.refl hs (fun c hc => by omega)
  refine mo_goHeat2 hM hl li si (fun w2 f2 s2 a2 => ?_) (nS t) 0 w1 (by omega) f1 (sW_0 s1) (fun c hc => by rw [a1 c hc]; show _ = _ + 0; omega)
  refine mo_goHeat3 hM hl li si (fun w3 f3 s3 a3 => ?_) (nP t) 0 w2 (by omega) f2 s2 (fun c hc => by rw [a2 c hc]; show _ = _ + 0; omega)
  refine mo_goHeat4 hM hl li si hQ (nC t) 0 w3 (by omega) f3 (s3.to fun r i _ => ?_) a3
  by_cases h0 : r = 0
  · subst h0
    rw [zset_s, if_neg (by omega), sW_o (by decide) (by decide)]
  · rw [zset_n h0]
end MOC
