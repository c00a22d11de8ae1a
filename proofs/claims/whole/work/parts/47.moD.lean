/-! ===== the reference: feeling, owning, laws, owing, skins ===== -/
section MOD
variable {g : xG} {w w0 : xW} {t s : zS} {d : Nat} {Q : xQ} {lim : Nat × Nat} {fe : Nat → Bool} {numb : Int}
theorem MF.at {w w2 : xW} (f : MF w w2) {j : Nat} (hj : j ≠ 49) : w2 193 j = w 193 j := f 193 j (by decide) (by decide) (fun _ => hj)
theorem mo_feel1 (hM : MG g) (hl : RMl t w0) (li : LInv t) (si : SInv t s) (hn : w0 193 50 = numb) (hk : ∀ w, MF w0 w → RMs t s w → w 193 49 = msk (feB t s numb) 0 (nP t) → Q none g w) : ∀ (n i : Nat) (w : xW), i + n = nP t → MF w0 w → RMs t s w → w 193 49 = msk (feB t s numb) 0 i → aMo_feel d lim Q 7 [xr 193, xi i, none] [] g w
  | 0, i, w, hi, hf, hs, hh => by
    have hl2 := hl.fr hf
    obtain ⟨-, -, -, -, n5, n6⟩ := li_n li
    have e8 : w 193 13 = t 0 5 := hl2.2.2.2.2.2.1
    have hi : i = nP t := by omega
    subst hi
    exact wMo_feel_7 ⟨m_o hM, fun _ => hk w hf hs hh, fun h => by rw [e8] at h; omega⟩
  | n + 1, i, w, hi, hf, hs, hh => by
    have hl2 := hl.fr hf
    obtain ⟨n1, n2, -, -, n5, n6⟩ := li_n li
    have e8 : w 193 13 = t 0 5 := hl2.2.2.2.2.2.1
    have en : w 193 50 = numb := (hf.at (by decide)).trans hn
    have hin : i < nP t := by omega
    have h5 := si.2.2.2.2.1 i hin
    have h0 := (si.1 (s 7 i).toNat (by omega)).1
    have ht := li.2.2.2.2.2.2.2.2 i hin
    have e7 : w 194 (Int.toNat (108 + (i : Int))) = s 7 i := by
      rw [show Int.toNat (108 + (i : Int)) = 108 + i by omega]; exact hs 7 i hin
    have e8' : w 194 (Int.toNat (114 + (i : Int))) = s 8 i := by
      rw [show Int.toNat (114 + (i : Int)) = 114 + i by omega]; exact hs 8 i hin
    have e0 : w 194 (Int.toNat (0 + s 7 i)) = s 0 (s 7 i).toNat := by
      rw [show Int.toNat (0 + s 7 i) = 0 + (s 7 i).toNat by omega]; exact hs 0 _ (show _ < nC t by omega)
    have e2 : w 202 (Int.toNat (i : Int)) = t 5 i := by rw [Int.toNat_natCast]; exact (hl2.2.2.2.2.2.2.2.2.2 i hin).1
    have hmi := msk_in (f := feB t s numb) (z := 0) (by omega) i (by omega)
    have go : ∀ s0 : Int, (s0 = if feB t s numb i = true then 1 else 0) → aMo_feel d lim Q 63 [xr 193, xi i, none] [xi s0] g w := by
      intro s0 hs0
      refine wMo_feel_63 ?_
      simp only [m_o hM, true_and]
      rw [show ((i : Int) + 1) = ((i + 1 : Nat) : Int) by omega]
      refine ⟨fun q => ?_, fun q => ?_⟩
      · have hfe : ¬ feB t s numb i = true := fun z => by rw [if_pos z] at hs0; omega
        have eo : xOr (w 193 49) 0 = w 193 49 := by
          obtain ⟨a, ha⟩ := z_nn hmi.1
          rw [hh, ha]; exact z_or0 a (by omega)
        have goal : aMo_feel d lim Q 7 [xr 193, xi ((i + 1 : Nat) : Int), none] [] g (xup w 193 49 (xOr (w 193 49) 0)) := by
          refine mo_feel1 hM hl li si hn hk n (i + 1) _ (by omega) (hf.trans fun a j p q r => ?_) (hs.oth fun j => xup_a (by decide)) ?_
          · by_cases z : a = 193
            · exact xup_k (r z)
            · exact xup_a z
          · rw [xup_s, eo, hh, msk, if_neg hfe]
        exact ⟨by constructor <;> omega, goal⟩
      · have hfe : feB t s numb i = true := by
          by_cases z : feB t s numb i = true
          · exact z
          · rw [if_neg z] at hs0; omega
        have goal : aMo_feel d lim Q 7 [xr 193, xi ((i + 1 : Nat) : Int), none] [] g (xup w 193 49 (xOr (w 193 49) (xShl 1 i))) := by
          refine mo_feel1 hM hl li si hn hk n (i + 1) _ (by omega) (hf.trans fun a j p q r => ?_) (hs.oth fun j => xup_a (by decide)) ?_
          · by_cases z : a = 193
            · exact xup_k (r z)
            · exact xup_a z
          · rw [xup_s, hh, msk, if_pos hfe]
        exact ⟨by constructor <;> omega, goal⟩
    refine wMo_feel_7 ⟨m_o hM, fun h => by rw [e8] at h; omega, fun _ => ?_⟩
    simp only [m_o hM, m_p0 hM, m_r0 hM, m_p14 hM, m_r14 hM, e7, e8', e0, e2, en, true_and]
    have ed : feB t s numb i = true ↔ ((i : Int) ≠ numb ∧ s 8 i + t 5 i ≤ s 0 (s 7 i).toNat) := by
      unfold feB
      simp
    refine ⟨fun q => go 0 ?_, fun q => ⟨by constructor <;> omega, by constructor <;> omega, by constructor <;> omega, by constructor <;> omega, by constructor <;> omega, by constructor <;> omega, by constructor <;> omega, by constructor <;> omega, fun q2 => go 0 ?_, fun q2 => go 1 ?_⟩⟩
    · rw [if_neg (fun z => (ed.mp z).1 q)]
    · rw [if_neg (fun z => by have := (ed.mp z).2; omega)]
    · rw [if_pos (ed.mpr ⟨q, q2⟩)]
theorem mo_feel (hM : MG g) (hl : RMl t w) (hs : RMs t s w) (li : LInv t) (si : SInv t s) (hn : w 193 50 = numb) (hQ : ∀ w2, MF w w2 → RMs t s w2 → w2 193 49 = msk (feB t s numb) 0 (nP t) → Q none g w2) : cal (d + 1) nMo_feel [xr 193] g w Q := by
  refine eMo_feel fun lim Q2 h2 => wMo_feel_0 ?_
  have hQ : ∀ w2, MF w w2 → RMs t s w2 → w2 193 49 = msk (feB t s numb) 0 (nP t) → Q2 none g w2 := fun w2 a b c => h2 _ _ _ rfl (hQ w2 a b c)
  refine ⟨m_o hM, mo_feel1 hM hl li si hn hQ (nP t) 0 _ (by omega) (fun a j p q r => ?_) (hs.oth fun j => xup_a (by decide)) ?_⟩
  · by_cases z : a = 193
    · exact xup_k (r z)
    · exact xup_a z
  · rw [xup_s]; rfl
theorem mo_feelsOn (hM : MG g) (hs : RMs t s w) (li : LInv t) (hF : w 193 49 = msk fe 0 (nP t)) {p : Nat} (hp : p < nP t) {c : Int} (hQ : Q (some (xi (if fe p = true ∧ s 7 p = c then 1 else 0))) g w) : cal (d + 1) nMo_feelsOn [xr 193, xi p, xi c] g w Q := by
  refine eMo_feelsOn fun lim Q2 h2 => wMo_feelsOn_0 ?_
  have hQ := h2 _ _ _ rfl hQ
  obtain ⟨n1, n2, -, -, n5, n6⟩ := li_n li
  have e7 : w 194 (Int.toNat (108 + (p : Int))) = s 7 p := by
    rw [show Int.toNat (108 + (p : Int)) = 108 + p by omega]; exact hs 7 p hp
  have eb := msk_has (f := fe) n6 hp
  simp only [m_o hM, m_p0 hM, m_r0 hM, e7, hF, eb, true_and]
  refine ⟨fun q => ⟨Or.inl trivial, qe hQ ?_⟩, fun q => ⟨by constructor <;> omega, by constructor <;> omega, fun q2 => ⟨Or.inl trivial, qe hQ ?_⟩, fun q2 => ⟨Or.inr trivial, qe hQ ?_⟩⟩⟩
  · rw [if_neg (fun z => q (by rw [if_pos z.1]))]
  · rw [if_neg (fun z => q2 z.2)]
  · have : fe p = true := by
      by_cases z : fe p = true
      · exact z
      · rw [if_neg z] at q; omega
    rw [if_pos ⟨this, q2⟩]
theorem mo_feelsOnI (hM : MG g) (hs : RMs t s w) (li : LInv t) (hF : w 193 49 = msk fe 0 (nP t)) {p : Int} (hp : 0 ≤ p ∧ p < nP t) {c : Int} (hQ : Q (some (xi (if fe p.toNat = true ∧ s 7 p.toNat = c then 1 else 0))) g w) : cal (d + 1) nMo_feelsOn [xr 193, xi p, xi c] g w Q := by
  obtain ⟨k, rfl⟩ := z_nn hp.1
  rw [Int.toNat_natCast] at hQ
  exact mo_feelsOn hM hs li hF (by omega) hQ
theorem mo_own_in (hM : MG g) (hl : RMl t w) (li : LInv t) (si : SInv t s) {q : Nat} (hq : q < nC t) (hs : RMs t (zset (zset s 3 (fun c => if c < q then ow1 t s fe c else s 3 c)) 4 (fun c => if c < q then ft1 t s fe c else s 4 c)) w) (hF : w 193 49 = msk fe 0 (nP t)) (h3 : s 3 q = -1) (hk : aMo_own (d + 1) lim Q 94 [xr 193, xi q, xi (bst s fe q (nP t)), none, none] [] g w) : ∀ (n i : Nat), i + n = nP t → aMo_own (d + 1) lim Q 14 [xr 193, xi q, xi (bst s fe q i), xi i, none] [] g w
  | 0, i, hi => by
    obtain ⟨-, -, -, -, n5, n6⟩ := li_n li
    have e8 : w 193 13 = t 0 5 := hl.2.2.2.2.2.1
    have hi : i = nP t := by omega
    subst hi
    refine wMo_own_14 ?_
    simp only [m_o hM, true_and]
    exact ⟨fun _ => hk, fun h => by rw [e8] at h; omega⟩
  | n + 1, i, hi => by
    obtain ⟨n1, n2, -, -, n5, n6⟩ := li_n li
    have e8 : w 193 13 = t 0 5 := hl.2.2.2.2.2.1
    have hin : i < nP t := by omega
    have e3 : w 194 (Int.toNat (60 + (q : Int))) = -1 := by
      rw [show Int.toNat (60 + (q : Int)) = 60 + q by omega, show w 194 (60 + q) = _ from hs 3 q hq, zset_n (by decide), zset_s, if_neg (by omega)]; exact h3
    have e84 : ∀ p : Nat, p < nP t → w 194 (Int.toNat (114 + (p : Int))) = s 8 p := fun p hp => by
      rw [show Int.toNat (114 + (p : Int)) = 114 + p by omega, show w 194 (114 + p) = _ from hs 8 p hp, zset_n (by decide), zset_n (by decide)]
    have hb := bst_b (s := s) (fe := fe) q i
    have ih := mo_own_in hM hl li si hq hs hF h3 hk n (i + 1) (by omega)
    have go : ∀ s0 : Int, (s0 = if fe i = true ∧ s 7 i = q ∧ (bst s fe q i = -1 ∨ s 8 i < s 8 (bst s fe q i).toNat) then 1 else 0) → aMo_own (d + 1) lim Q 75 [xr 193, xi q, xi (bst s fe q i), xi i, none] [xi s0] g w := by
      intro s0 hs0
      refine wMo_own_75 ?_
      rw [show ((i : Int) + 1) = ((i + 1 : Nat) : Int) by omega]
      by_cases z : fe i = true ∧ s 7 i = q ∧ (bst s fe q i = -1 ∨ s 8 i < s 8 (bst s fe q i).toNat)
      · rw [if_pos z] at hs0
        rw [bst, if_pos z] at ih
        exact ⟨fun h => by omega, fun _ => ⟨by constructor <;> omega, ih⟩⟩
      · rw [if_neg z] at hs0
        rw [bst, if_neg z] at ih
        exact ⟨fun h => ⟨by constructor <;> omega, ih⟩, fun h => by omega⟩
    refine wMo_own_14 ?_
    simp only [m_o hM, m_p0 hM, m_r0 hM, e3, true_and]
    refine ⟨fun h => by rw [e8] at h; omega, fun _ => ⟨by constructor <;> omega, by constructor <;> omega, fun h => absurd trivial h, fun _ => mo_feelsOn hM hs li hF hin ⟨_, rfl, fun hv => go 0 ?_, fun hv => ?_⟩⟩⟩
    · rw [zset_n (by decide), zset_n (by decide)] at hv
      rw [if_neg]
      intro z
      rw [if_pos ⟨z.1, z.2.1⟩] at hv
      omega
    · rw [zset_n (by decide), zset_n (by decide)] at hv
      have hfe : fe i = true ∧ s 7 i = q := by
        by_cases z : fe i = true ∧ s 7 i = q
        · exact z
        · rw [if_neg z] at hv; omega
      simp only [m_o hM, m_p0 hM, m_r0 hM, true_and]
      refine ⟨fun h => go 1 ?_, fun h => ?_⟩
      · rw [if_pos ⟨hfe.1, hfe.2, Or.inl h⟩]
      · have eb : w 194 (Int.toNat (114 + bst s fe q i)) = s 8 (bst s fe q i).toNat := by
          have := e84 (bst s fe q i).toNat (by omega)
          rw [show (((bst s fe q i).toNat : Nat) : Int) = bst s fe q i by omega] at this
          exact this
        rw [eb, e84 i hin]
        refine ⟨by constructor <;> omega, by constructor <;> omega, by constructor <;> omega, by constructor <;> omega, fun h2 => go 0 ?_, fun h2 => go 1 ?_⟩
        · rw [if_neg]
          intro z
          rcases z.2.2 with z | z <;> omega
        · rw [if_pos ⟨hfe.1, hfe.2, Or.inr h2⟩]
theorem mo_own1 (hM : MG g) (hl : RMl t w0) (li : LInv t) (si : SInv t s) (hk : ∀ w, MF w0 w → RMs t (stB t s fe) w → w 193 49 = msk fe 0 (nP t) → Q none g w) : ∀ (n i : Nat) (w : xW), i + n = nC t → MF w0 w → RMs t (zset (zset s 3 (fun c => if c < i then ow1 t s fe c else s 3 c)) 4 (fun c => if c < i then ft1 t s fe c else s 4 c)) w → w 193 49 = msk fe 0 (nP t) → aMo_own (d + 1) lim Q 2 [xr 193, xi i, none, none, none] [] g w
  | 0, i, w, hi, hf, hs, hF => by
    have hl2 := hl.fr hf
    refine wMo_own_2 ⟨m_o hM, mo_cells hM hl2 li ⟨_, rfl, fun _ => hk w hf (hs.to fun r j hj => ?_) hF, fun h => by omega⟩⟩
    unfold stB
    by_cases h4 : r = 4
    · subst h4
      have hj : j < nC t := hj
      rw [zset_s, zset_s, if_pos (by omega)]
    · rw [zset_n h4, zset_n h4]
      by_cases h3 : r = 3
      · subst h3
        have hj : j < nC t := hj
        rw [zset_s, zset_s, if_pos (by omega)]
      · rw [zset_n h3, zset_n h3]
  | n + 1, i, w, hi, hf, hs, hF => by
    have hl2 := hl.fr hf
    obtain ⟨n1, n2, -, -, n5, n6⟩ := li_n li
    have hin : i < nC t := by omega
    have hob := ow1_b (fe := fe) li si hin
    have e3 : w 194 (Int.toNat (60 + (i : Int))) = s 3 i := by
      rw [show Int.toNat (60 + (i : Int)) = 60 + i by omega, show w 194 (60 + i) = _ from hs 3 i hin, zset_n (by decide), zset_s, if_neg (by omega)]
    -- the owner is put, then when it was felt
    have put : ∀ v : Int, v = ow1 t s fe i → aMo_own (d + 1) lim Q 120 [xr 193, xi i, none, none, none] [xi v, xi (60 + (i : Int)), xr 194] g w := by
      intro v hv
      subst hv
      generalize hw1 : xup w 194 (Int.toNat (60 + (i : Int))) (ow1 t s fe i) = w1
      have f1 : MF w0 w1 := hf.trans fun a j p q _ => by rw [← hw1]; exact xup_a p
      have s1 : RMs t (zset (zset s 3 (fun c => if c < i + 1 then ow1 t s fe c else s 3 c)) 4 (fun c => if c < i then ft1 t s fe c else s 4 c)) w1 := by
        rw [← hw1]
        refine (hs.put li (r := 3) (i := i) (v := ow1 t s fe i) hin (by show Int.toNat _ = 60 + i; omega)).to fun r j _ => ?_
        by_cases h3 : r = 3
        · subst h3
          rw [zset_n (by decide), zset_s, zset_s]
          by_cases q : j = i
          · subst q; rw [zup_s, if_pos (by omega)]
          · rw [zup_n q, zset_n (by decide), zset_s]
            by_cases q2 : j < i
            · rw [if_pos q2, if_pos (by omega)]
            · rw [if_neg q2, if_neg (by omega)]
        · rw [zset_n (r := 3) h3]
          by_cases h4 : r = 4
          · subst h4; rw [zset_s, zset_s]
          · rw [zset_n h4, zset_n h4, zset_n h3, zset_n h3]
      have F1 : w1 193 49 = msk fe 0 (nP t) := by rw [← hw1, xup_a (by decide)]; exact hF
      have e31 : w1 194 (Int.toNat (60 + (i : Int))) = ow1 t s fe i := by rw [← hw1, xup_s]
      have e4 : w1 194 (Int.toNat (80 + (i : Int))) = s 4 i := by
        rw [show Int.toNat (80 + (i : Int)) = 80 + i by omega, show w1 194 (80 + i) = _ from s1 4 i hin, zset_s, if_neg (by omega)]
      have em : w1 194 (Int.toNat 140) = s 12 2 := by
        rw [show w1 194 (Int.toNat 140) = _ from s1 12 2 (show 2 < 5 by decide), zset_n (by decide), zset_n (by decide)]
      have hm := si.2.2.2.2.2.2.2.1
      have h4i := (si.1 i hin).2.2
      have nxt : ∀ v : Int, v = ft1 t s fe i → aMo_own (d + 1) lim Q 2 [xr 193, xi ((i : Int) + 1), none, none, none] [] g (xup w1 194 (Int.toNat (80 + (i : Int))) v) := by
        intro v hv
        rw [show ((i : Int) + 1) = ((i + 1 : Nat) : Int) by omega]
        refine mo_own1 hM hl li si hk n (i + 1) _ (by omega) (f1.trans fun a j p q _ => xup_a p) ?_ (by rw [xup_a (by decide)]; exact F1)
        refine (s1.put li (r := 4) (i := i) (v := v) hin (by show Int.toNat _ = 80 + i; omega)).to fun r j _ => ?_
        by_cases h4 : r = 4
        · subst h4
          rw [zset_s, zset_s]
          by_cases q : j = i
          · subst q; rw [zup_s, if_pos (by omega), hv]
          · rw [zup_n q, zset_s]
            by_cases q2 : j < i
            · rw [if_pos q2, if_pos (by omega)]
            · rw [if_neg q2, if_neg (by omega)]
        · rw [zset_n h4, zset_n h4, zset_n h4]
      have b164 : s 4 i = ft1 t s fe i → aMo_own (d + 1) lim Q 164 [xr 193, xi i, none, none, none] [xi (80 + (i : Int)), xr 194] g w1 := fun hft => by
        refine wMo_own_164 ?_
        simp only [m_o hM, m_p0 hM, m_r0 hM, m_a0 hM, e4, true_and]
        exact ⟨by constructor <;> omega, by constructor <;> omega, by constructor <;> omega, by constructor <;> omega, nxt _ hft⟩
      refine wMo_own_120 ?_
      simp only [m_a0 hM, hw1]
      refine ⟨by constructor <;> omega, wMo_own_121 ?_⟩
      simp only [m_o hM, m_p0 hM, m_r0 hM, m_a0 hM, e31, true_and]
      refine ⟨by constructor <;> omega, by constructor <;> omega, by constructor <;> omega, fun q => b164 ?_, fun q => mo_feelsOnI hM s1 li F1 (by omega) ⟨_, rfl, fun hv => b164 ?_, fun hv => ?_⟩⟩
      · unfold ft1; rw [if_neg (fun z => z.1 q)]
      · rw [zset_n (by decide), zset_n (by decide)] at hv
        unfold ft1; rw [if_neg]
        intro z
        rw [if_pos z.2] at hv
        omega
      · rw [zset_n (by decide), zset_n (by decide)] at hv
        simp only [m_o hM, m_p0 hM, m_r0 hM, m_a0 hM, em, true_and]
        refine ⟨by decide, by constructor <;> omega, by constructor <;> omega, nxt _ ?_⟩
        unfold ft1; rw [if_pos]
        refine ⟨q, ?_⟩
        by_cases z : fe (ow1 t s fe i).toNat = true ∧ s 7 (ow1 t s fe i).toNat = i
        · exact z
        · rw [if_neg z] at hv; omega
    refine wMo_own_2 ⟨m_o hM, mo_cells hM hl2 li ⟨_, rfl, fun h => by omega, fun _ => ?_⟩⟩
    by_cases h3 : s 3 i = -1
    · have hb := bst_b (s := s) (fe := fe) i (nP t)
      have eo : ow1 t s fe i = bst s fe i (nP t) := by unfold ow1; rw [if_pos h3]
      refine mo_own_in hM hl2 li si hin hs hF h3 ?_ (nP t) 0 (by omega)
      refine wMo_own_94 ?_
      simp only [m_o hM, m_p0 hM, m_r0 hM, e3, true_and]
      refine ⟨by constructor <;> omega, fun q => put _ eo.symm, fun q => ⟨by constructor <;> omega, by constructor <;> omega, put _ (by rw [eo, q, h3])⟩⟩
    · have eo : ow1 t s fe i = s 3 i := by unfold ow1; rw [if_neg h3]
      have e8 : w 193 13 = t 0 5 := hl2.2.2.2.2.2.1
      have b94 : aMo_own (d + 1) lim Q 94 [xr 193, xi i, xi (-1), none, none] [] g w := by
        refine wMo_own_94 ?_
        simp only [m_o hM, m_p0 hM, m_r0 hM, e3, true_and]
        refine ⟨by constructor <;> omega, fun q => absurd trivial q, fun q => ⟨by constructor <;> omega, by constructor <;> omega, put _ eo.symm⟩⟩
      refine wMo_own_14 ?_
      simp only [m_o hM, m_p0 hM, m_r0 hM, e3, true_and]
      exact ⟨fun _ => b94, fun _ => ⟨by constructor <;> omega, by constructor <;> omega, fun _ => b94, fun q => absurd q h3⟩⟩
theorem mo_own (hM : MG g) (hl : RMl t w) (hs : RMs t s w) (li : LInv t) (si : SInv t s) (hF : w 193 49 = msk fe 0 (nP t)) (hQ : ∀ w2, MF w w2 → RMs t (stB t s fe) w2 → w2 193 49 = msk fe 0 (nP t) → Q none g w2) : cal (d + 2) nMo_own [xr 193] g w Q := by
  refine eMo_own fun lim Q2 h2 => wMo_own_0 ?_
  refine mo_own1 (fe := fe) hM hl li si (fun w2 a b c => h2 _ _ _ rfl (hQ w2 a b c)) (nC t) 0 w (by omega) MF.refl (hs.to fun r j _ => ?_) hF
  by_cases h4 : r = 4
  · subst h4; rw [zset_s, if_neg (by omega)]
  · rw [zset_n h4]
    by_cases h3 : r = 3
    · subst h3; rw [zset_s, if_neg (by omega)]
    · rw [zset_n h3]
end MOD
