/-! ===== the reference: owing, a minute, minutes ===== -/
section MOF
variable {g : xG} {w w0 : xW} {t s : zS} {d : Nat} {Q : xQ} {lim : Nat × Nat} {fe : Nat → Bool} {numb F0 : Int}
theorem isO_owe {n : Nat} {p c : Nat} : isO (owe s n) p c = isO s p c := by
  unfold isO
  rw [owe_o (by decide) (by decide), owe_o (by decide) (by decide), owe_o (by decide) (by decide)]
theorem si_owe (si : SInv t s) {n : Nat} (hn : n ≤ nP t) : SInv t (owe s n) := by
  obtain ⟨h1, h2, h3, h4, h5, h6, h7, h8, h9, h10⟩ := id si
  have e : ∀ r i, r ≠ 9 → r ≠ 10 → owe s n r i = s r i := fun r i a b => owe_o a b
  refine ⟨fun i hi => ?_, fun i => ?_, fun i hi => ?_, fun i hi => ?_, fun i hi => ?_, ?_, ?_, ?_, ?_, ?_⟩
  · rw [e 0 i (by decide) (by decide), e 3 i (by decide) (by decide), e 4 i (by decide) (by decide), e 12 2 (by decide) (by decide)]; exact h1 i hi
  · rw [e 1 i (by decide) (by decide), e 2 i (by decide) (by decide)]; exact h2 i
  · rw [e 1 i (by decide) (by decide), e 2 i (by decide) (by decide)]; exact h3 i hi
  · rw [e 5 i (by decide) (by decide), e 6 i (by decide) (by decide)]; exact h4 i hi
  · rw [e 7 i (by decide) (by decide), e 8 i (by decide) (by decide), e 11 i (by decide) (by decide)]
    have := owe_b si n hn i hi
    exact ⟨(h5 i hi).1, (h5 i hi).2.1, this.1, this.2, (h5 i hi).2.2.2.2⟩
  · rw [e 12 0 (by decide) (by decide)]; exact h6
  · rw [e 12 1 (by decide) (by decide)]; exact h7
  · rw [e 12 2 (by decide) (by decide)]; exact h8
  · rw [e 12 3 (by decide) (by decide)]; exact h9
  · rw [e 12 4 (by decide) (by decide)]; exact h10
theorem mo_owe1 (hM : MG g) (hl : RMl t w0) (li : LInv t) (si : SInv t s) (hk : ∀ w, MF w0 w → RMs t (owe s (nP t)) w → w 193 49 = F0 → Q none g w) : ∀ (n i : Nat) (w : xW), i + n = nP t → MF w0 w → RMs t (owe s i) w → w 193 49 = F0 → aMo_owe (d + 2) lim Q 2 [xr 193, xi i, none, none] [] g w
  | 0, i, w, hi, hf, hs, hF => by
    have hl2 := hl.fr hf
    obtain ⟨n1, n2, -, -, n5, n6⟩ := li_n li
    have e8 : w 193 13 = t 0 5 := hl2.2.2.2.2.2.1
    have hi : i = nP t := by omega
    subst hi
    refine wMo_owe_2 ?_
    simp only [m_o hM, true_and]
    exact ⟨fun _ => hk w hf hs hF, fun h => by rw [e8] at h; omega⟩
  | n + 1, i, w, hi, hf, hs, hF => by
    have hl2 := hl.fr hf
    obtain ⟨n1, n2, -, -, n5, n6⟩ := li_n li
    have e8 : w 193 13 = t 0 5 := hl2.2.2.2.2.2.1
    have hin : i < nP t := by omega
    have h7 := (si.2.2.2.2.1 i hin).1
    have h3 := (si.1 (s 7 i).toNat (by omega)).2.1
    have sio := si_owe si (n := i) (by omega)
    have hb := owe_b si i (by omega)
    have e7 : w 194 (Int.toNat (108 + (i : Int))) = s 7 i := by
      rw [show Int.toNat (108 + (i : Int)) = 108 + i by omega, show w 194 (108 + i) = _ from hs 7 i hin, owe_o (by decide) (by decide)]
    have e3 : w 194 (Int.toNat (60 + s 7 i)) = s 3 (s 7 i).toNat := by
      rw [show Int.toNat (60 + s 7 i) = 60 + (s 7 i).toNat by omega, show w 194 (60 + _) = _ from hs 3 (s 7 i).toNat (show _ < nC t by omega), owe_o (by decide) (by decide)]
    have e9 : w 194 (Int.toNat (120 + (i : Int))) = owe s i 9 i := by
      rw [show Int.toNat (120 + (i : Int)) = 120 + i by omega]; exact hs 9 i hin
    obtain ⟨c, hc⟩ := z_nn h7.1
    refine wMo_owe_2 ?_
    simp only [m_o hM, m_p0 hM, m_r0 hM, e7, true_and]
    refine ⟨fun h => by rw [e8] at h; omega, fun _ => ⟨by constructor <;> omega, by constructor <;> omega, ?_⟩⟩
    rw [hc]
    refine mo_isOwedFor hM hs li sio hin (by omega) ⟨_, rfl, fun hv => ?_, fun hv => ?_⟩
    · have hno : ¬ isO s i (s 7 i).toNat = true := fun z => by
        rw [isO_owe, show c = (s 7 i).toNat by omega, if_pos z] at hv
        omega
      rw [show ((i : Int) + 1) = ((i + 1 : Nat) : Int) by omega]
      refine ⟨by constructor <;> omega, mo_owe1 hM hl li si hk n (i + 1) w (by omega) hf ?_ hF⟩
      rw [owe, if_neg hno]; exact hs
    · have hyes : isO s i (s 7 i).toNat = true := by
        by_cases z : isO s i (s 7 i).toNat = true
        · exact z
        · rw [isO_owe, show c = (s 7 i).toNat by omega, if_neg z] at hv; omega
      have hne : s 3 (s 7 i).toNat ≠ -1 := by
        unfold isO at hyes
        simp only [Bool.and_eq_true, decide_eq_true_eq] at hyes
        exact hyes.1.1.1
      rw [← hc]
      simp only [m_o hM, m_p0 hM, m_r0 hM, e7, e3, e9, true_and]
      have b71 : ∀ w1, MF w0 w1 → RMs t (zset (owe s i) 9 (zup (owe s i 9) i (min 999999 (owe s i 9 i + 1)))) w1 → w1 193 49 = F0 → aMo_owe (d + 2) lim Q 71 [xr 193, xi i, none, xi (s 3 (s 7 i).toNat)] [] g w1 := by
        intro w1 f1 s1 F1
        have e10 : w1 194 (Int.toNat (126 + s 3 (s 7 i).toNat)) = owe s i 10 (s 3 (s 7 i).toNat).toNat := by
          rw [show Int.toNat (126 + s 3 (s 7 i).toNat) = 126 + (s 3 (s 7 i).toNat).toNat by omega, show w1 194 (126 + _) = _ from s1 10 (s 3 (s 7 i).toNat).toNat (show _ < nP t by omega), zset_n (by decide)]
        have hb10 := (hb (s 3 (s 7 i).toNat).toNat (by omega)).2
        have nxt : ∀ v : Int, v = min 999999 (owe s i 10 (s 3 (s 7 i).toNat).toNat + 1) → aMo_owe (d + 2) lim Q 2 [xr 193, xi ((i : Int) + 1), none, none] [] g (xup w1 194 (Int.toNat (126 + s 3 (s 7 i).toNat)) v) := by
          intro v hv
          subst hv
          rw [show ((i : Int) + 1) = ((i + 1 : Nat) : Int) by omega]
          refine mo_owe1 hM hl li si hk n (i + 1) _ (by omega) (f1.trans fun a j p q _ => xup_a p) ?_ (by rw [xup_a (by decide)]; exact F1)
          rw [owe, if_pos hyes]
          refine (s1.put li (r := 10) (i := (s 3 (s 7 i).toNat).toNat) (show _ < nP t by omega) (by show Int.toNat _ = 126 + _; omega)).to fun r j _ => ?_
          by_cases h10 : r = 10
          · subst h10
            rw [zset_s, zset_s]
            by_cases z : j = (s 3 (s 7 i).toNat).toNat
            · rw [z, zup_s, zup_s]
            · rw [zup_n z, zup_n z, zset_n (by decide)]
          · rw [zset_n h10, zset_n h10]
        refine wMo_owe_71 ?_
        simp only [m_o hM, m_p0 hM, m_r0 hM, m_a0 hM, e10, true_and]
        refine ⟨by constructor <;> omega, by constructor <;> omega, by constructor <;> omega, by constructor <;> omega, fun q => ⟨by constructor <;> omega, by constructor <;> omega, by constructor <;> omega, nxt _ (by omega)⟩, fun q => ⟨by constructor <;> omega, by constructor <;> omega, by constructor <;> omega, nxt _ (by omega)⟩⟩
      have hb9 := (hb i hin).1
      have b69 : ∀ z : Int, owe s i 9 i + z = min 999999 (owe s i 9 i + 1) → aMo_owe (d + 2) lim Q 69 [xr 193, xi i, none, xi (s 3 (s 7 i).toNat)] [xi z, xi (owe s i 9 i), xi (120 + (i : Int)), xr 194] g w := by
        intro z hz
        refine wMo_owe_69 ?_
        simp only [m_a0 hM, hz]
        refine ⟨by constructor <;> omega, by constructor <;> omega, b71 _ (hf.trans fun a j p q _ => xup_a p) ?_ (by rw [xup_a (by decide)]; exact hF)⟩
        exact hs.put li (r := 9) (i := i) hin (by show Int.toNat _ = 120 + i; omega)
      refine ⟨by constructor <;> omega, by constructor <;> omega, by constructor <;> omega, by constructor <;> omega, by constructor <;> omega, by constructor <;> omega, fun q => b69 0 (by omega), fun q => b69 1 (by omega)⟩
theorem mo_owe (hM : MG g) (hl : RMl t w) (hs : RMs t s w) (li : LInv t) (si : SInv t s) (hF : w 193 49 = F0) (hQ : ∀ w2, MF w w2 → RMs t (owe s (nP t)) w2 → w2 193 49 = F0 → Q none g w2) : cal (d + 3) nMo_owe [xr 193] g w Q := by
  refine eMo_owe fun lim Q2 h2 => wMo_owe_0 ?_
  exact mo_owe1 hM hl li si (fun w2 a b c => h2 _ _ _ rfl (hQ w2 a b c)) (nP t) 0 w (by omega) MF.refl hs hF
/-- skins of the first n, and who froze among them -/
def skS (s : zS) (n : Nat) : zS := zset (zset s 8 (fun p => if p < n then skn s p else s 8 p)) 12 (zup (s 12) 4 (msk (fun p => decide (skn s p < 20)) (s 12 4) n))
theorem mo_skin (hM : MG g) (hl : RMl t w0) (li : LInv t) (si : SInv t s) (hm : s 12 2 < 1000000000) (hk : ∀ w, MF w0 w → RMs t (stF t s) w → w 193 49 = F0 → Q none g w) : ∀ (n i : Nat) (w : xW), i + n = nP t → MF w0 w → RMs t (skS s i) w → w 193 49 = F0 → aMo_goMinute d lim Q 22 [xr 193, xi i] [] g w
  | 0, i, w, hi, hf, hs, hF => by
    have hl2 := hl.fr hf
    obtain ⟨n1, n2, -, -, n5, n6⟩ := li_n li
    have e8 : w 193 13 = t 0 5 := hl2.2.2.2.2.2.1
    have hi : i = nP t := by omega
    subst hi
    have hm0 := si.2.2.2.2.2.2.2.1
    have c2 : w 194 (Int.toNat 140) = s 12 2 := by
      rw [show w 194 (Int.toNat 140) = _ from hs 12 2 (show 2 < 5 by decide)]
      unfold skS; rw [zset_s, zup_n (by decide)]
    refine wMo_goMinute_22 ?_
    simp only [m_o hM, m_p0 hM, m_r0 hM, m_a0 hM, c2, true_and]
    refine ⟨fun _ => ⟨by decide, by constructor <;> omega, by decide, hk _ (hf.trans fun a j p q _ => xup_a p) ?_ (by rw [xup_a (by decide)]; exact hF)⟩, fun h => by rw [e8] at h; omega⟩
    refine (hs.put li (r := 12) (i := 2) (show 2 < 5 by decide) rfl).to fun r j hj => ?_
    unfold stF skS
    by_cases h12 : r = 12
    · subst h12
      rw [zset_s, zset_s]
      by_cases z : j = 2
      · subst z; rw [zup_s, zup_s]
      · rw [zup_n z, zup_n z, zset_s]
    · rw [zset_n h12, zset_n h12, zset_n h12]
      by_cases h8 : r = 8
      · subst h8
        have hj : j < nP t := hj
        rw [zset_s, zset_s, if_pos hj]
      · rw [zset_n h8, zset_n h8]
  | n + 1, i, w, hi, hf, hs, hF => by
    have hl2 := hl.fr hf
    obtain ⟨n1, n2, -, -, n5, n6⟩ := li_n li
    have e8 : w 193 13 = t 0 5 := hl2.2.2.2.2.2.1
    have hin : i < nP t := by omega
    have h5 := si.2.2.2.2.1 i hin
    have h0 := (si.1 (s 7 i).toNat (by omega)).1
    have hsk := skn_b si hin
    have e7 : w 194 (Int.toNat (108 + (i : Int))) = s 7 i := by
      rw [show Int.toNat (108 + (i : Int)) = 108 + i by omega, show w 194 (108 + i) = _ from hs 7 i hin]
      unfold skS; rw [zset_n (by decide), zset_n (by decide)]
    have e8b : w 194 (Int.toNat (114 + (i : Int))) = s 8 i := by
      rw [show Int.toNat (114 + (i : Int)) = 114 + i by omega, show w 194 (114 + i) = _ from hs 8 i hin]
      unfold skS; rw [zset_n (by decide), zset_s, if_neg (by omega)]
    have e0 : w 194 (Int.toNat (0 + s 7 i)) = s 0 (s 7 i).toNat := by
      rw [show Int.toNat (0 + s 7 i) = 0 + (s 7 i).toNat by omega, show w 194 (0 + _) = _ from hs 0 (s 7 i).toNat (show _ < nC t by omega)]
      unfold skS; rw [zset_n (by decide), zset_n (by decide)]
    have esk : s 8 i + (s 0 (s 7 i).toNat - s 8 i).tdiv 4 = skn s i := rfl
    refine wMo_goMinute_22 ?_
    simp only [m_o hM, m_p0 hM, m_r0 hM, m_a0 hM, e7, e8b, e0, esk, true_and]
    refine ⟨fun h => by rw [e8] at h; omega, fun _ => ⟨by constructor <;> omega, by constructor <;> omega, by constructor <;> omega, by constructor <;> omega, by constructor <;> omega, by constructor <;> omega, by constructor <;> omega, by constructor <;> omega, by constructor <;> omega, ⟨by decide, ?_⟩, by constructor <;> omega, by constructor <;> omega, ?_⟩⟩
    · have : (s 0 (s 7 i).toNat - s 8 i).tdiv 4 = skn s i - s 8 i := by rw [← esk]; omega
      rw [this]
      constructor <;> omega
    · generalize hw1 : xup w 194 (Int.toNat (114 + (i : Int))) (skn s i) = w1
      have f1 : MF w0 w1 := hf.trans fun a j p q _ => by rw [← hw1]; exact xup_a p
      have s1 : RMs t (zset (skS s i) 8 (zup (skS s i 8) i (skn s i))) w1 := by
        rw [← hw1]; exact hs.put li (r := 8) (i := i) hin (by show Int.toNat _ = 114 + i; omega)
      have e81 : w1 194 (Int.toNat (114 + (i : Int))) = skn s i := by rw [← hw1, xup_s]
      have e4 : w1 194 (Int.toNat 142) = msk (fun p => decide (skn s p < 20)) (s 12 4) i := by
        rw [show w1 194 (Int.toNat 142) = _ from s1 12 4 (show 4 < 5 by decide), zset_n (by decide)]
        unfold skS; rw [zset_s, zup_s]
      have hmi := msk_in (f := fun p => decide (skn s p < 20)) (z := s 12 4) si.2.2.2.2.2.2.2.2.2 i (by omega)
      have nxt : ∀ v : Int, v = msk (fun p => decide (skn s p < 20)) (s 12 4) (i + 1) → aMo_goMinute d lim Q 22 [xr 193, xi ((i : Int) + 1)] [] g (xup w1 194 (Int.toNat 142) v) := by
        intro v hv
        subst hv
        rw [show ((i : Int) + 1) = ((i + 1 : Nat) : Int) by omega]
        refine mo_skin hM hl li si hm hk n (i + 1) _ (by omega) (f1.trans fun a j p q _ => xup_a p) ?_ (by rw [xup_a (by decide), ← hw1, xup_a (by decide)]; exact hF)
        refine (s1.put li (r := 12) (i := 4) (show 4 < 5 by decide) rfl).to fun r j _ => ?_
        unfold skS
        by_cases h12 : r = 12
        · subst h12
          rw [zset_s, zset_s]
          by_cases z : j = 4
          · subst z; rw [zup_s, zup_s]
          · rw [zup_n z, zup_n z, zset_n (by decide), zset_s, zup_n z]
        · rw [zset_n h12, zset_n h12]
          by_cases h8 : r = 8
          · subst h8
            rw [zset_s, zset_s]
            by_cases z : j = i
            · subst z; rw [zup_s, if_pos (by omega)]
            · rw [zup_n z, zset_n (by decide), zset_s]
              by_cases z2 : j < i
              · rw [if_pos z2, if_pos (by omega)]
              · rw [if_neg z2, if_neg (by omega)]
          · rw [zset_n h8, zset_n h8, zset_n h12, zset_n h8]
      refine wMo_goMinute_70 ?_
      simp only [m_o hM, m_p0 hM, m_r0 hM, m_a0 hM, e81, e4, true_and]
      refine ⟨by decide, by constructor <;> omega, by constructor <;> omega, fun q => ⟨by decide, by constructor <;> omega, nxt _ ?_⟩, fun q => ⟨by decide, by constructor <;> omega, nxt _ ?_⟩⟩
      · rw [msk, if_neg (by simp; omega)]
        obtain ⟨a, ha⟩ := z_nn hmi.1
        rw [ha]; exact z_or0 a (by omega)
      · rw [msk, if_pos (by simp; omega)]
theorem mo_goMinute (hM : MG g) (hl : RMl t w) (hs : RMs t s w) (li : LInv t) (si : SInv t s) (hm : s 12 2 < 1000000000) (hn : w 193 50 = numb) (hQ : ∀ w2, MF w w2 → RMs t (step t numb s) w2 → w2 193 49 = msk (feB t (stA t s) numb) 0 (nP t) → Q none g w2) : cal (d + 4) nMo_goMinute [xr 193] g w Q := by
  refine eMo_goMinute fun lim Q2 h2 => wMo_goMinute_0 ?_
  simp only [m_o hM, true_and]
  refine mo_goHeat hM hl hs li si fun w1 f1 s1 => ⟨rfl, m_o hM, ?_⟩
  have siA := si_A li si
  refine mo_feel hM (hl.fr f1) s1 li siA ((f1.at (by decide)).trans hn) fun w2 f2 s2 F2 => ⟨rfl, m_o hM, ?_⟩
  have f12 := f1.trans f2
  refine mo_own hM (hl.fr f12) s2 li siA F2 fun w3 f3 s3 F3 => ⟨rfl, m_o hM, ?_⟩
  have f13 := f12.trans f3
  have siB := si_B (fe := feB t (stA t s) numb) li siA
  refine mo_goLaw hM (hl.fr f13) s3 li siB F3 fun w4 f4 s4 F4 => ⟨rfl, m_o hM, ?_⟩
  have f14 := f13.trans f4
  have siD := si_D (fe := feB t (stA t s) numb) li (si_C siB li.2.2.2.2.1.1)
  refine mo_owe hM (hl.fr f14) s4 li siD F4 fun w5 f5 s5 F5 => ⟨rfl, ?_⟩
  have f15 := f14.trans f5
  have siE := si_E siD
  refine mo_skin (s := owe (stD t (stC (stB t (stA t s) (feB t (stA t s) numb))) (feB t (stA t s) numb)) (nP t)) hM hl li siE ?_ (fun w6 f6 s6 F6 => h2 _ _ _ rfl (hQ w6 f6 s6 F6)) (nP t) 0 w5 (by omega) f15 (s5.to fun r j _ => ?_) F5
  · rw [owe_o (by decide) (by decide)]; exact hm
  · unfold skS
    by_cases h12 : r = 12
    · subst h12
      rw [zset_s]
      by_cases z : j = 4
      · subst z; rw [zup_s]; rfl
      · rw [zup_n z]
    · rw [zset_n h12]
      by_cases h8 : r = 8
      · subst h8; rw [zset_s, if_neg (by omega)]
      · rw [zset_n h8]
theorem steps_s (n : Nat) : steps t numb (n + 1) s = step t numb (steps t numb n s) := by
  induction n generalizing s with
  | zero => rfl
  | succ n ih => rw [steps, ih]; rfl
theorem steps_m (n : Nat) : steps t numb n s 12 2 = s 12 2 + n := by
  induction n with
  | zero => simp [steps]
  | succ n ih => rw [steps_s, step_m, ih]; omega
theorem si_steps (li : LInv t) (si : SInv t s) : ∀ n : Nat, s 12 2 + n ≤ 1000000000 → SInv t (steps t numb n s)
  | 0, _ => si
  | n + 1, h => by
    rw [steps_s]
    exact si_step li (si_steps li si n (by omega)) numb (by rw [steps_m]; omega)
theorem mo_goMinutes1 (hM : MG g) (hl : RMl t w0) (li : LInv t) (si : SInv t s) (hn : w0 193 50 = numb) {N : Nat} (hm : s 12 2 + N ≤ 1000000000) (hN : N ≤ 1000) (hk : ∀ w, MF w0 w → RMs t (steps t numb N s) w → Q none g w) : ∀ (n i : Nat) (w : xW), i + n = N → MF w0 w → RMs t (steps t numb i s) w → aMo_goMinutes (d + 4) lim Q 2 [xr 193, xi N, xi i] [] g w
  | 0, i, w, hi, hf, hs => by
    have hi : i = N := by omega
    subst hi
    exact wMo_goMinutes_2 ⟨fun _ => hk w hf hs, fun h => by omega⟩
  | n + 1, i, w, hi, hf, hs => by
    refine wMo_goMinutes_2 ⟨fun h => by omega, fun _ => ⟨m_o hM, ?_⟩⟩
    refine mo_goMinute hM (hl.fr hf) hs li (si_steps li si i (by omega)) (by rw [steps_m]; omega) ((hf.at (by decide)).trans hn) fun w2 f2 s2 F2 => ⟨rfl, by constructor <;> omega, ?_⟩
    rw [show ((i : Int) + 1) = ((i + 1 : Nat) : Int) by omega]
    exact mo_goMinutes1 hM hl li si hn hm hN hk n (i + 1) w2 (by omega) (hf.trans f2) (by rw [steps_s]; exact s2)
theorem mo_goMinutes (hM : MG g) (hl : RMl t w) (hs : RMs t s w) (li : LInv t) (si : SInv t s) (hn : w 193 50 = numb) {N : Nat} (hm : s 12 2 + N ≤ 1000000000) (hN : N ≤ 1000) (hQ : ∀ w2, MF w w2 → RMs t (steps t numb N s) w2 → Q none g w2) : cal (d + 5) nMo_goMinutes [xr 193, xi N] g w Q := by
  refine eMo_goMinutes fun lim Q2 h2 => wMo_goMinutes_0 ?_
  exact mo_goMinutes1 hM hl li si hn hm hN (fun w2 a b => h2 _ _ _ rfl (hQ w2 a b)) N 0 w (by omega) MF.refl hs
end MOF
