/-! ===== a minute keeps the bounds ===== -/
section INV
variable {t s : zS} {fe : Nat → Bool}
theorem si_A (li : LInv t) (si : SInv t s) : SInv t (stA t s) := by
  obtain ⟨h1, h2, h3, h4, h5, h6, h7, h8, h9, h10⟩ := id si
  refine ⟨fun i hi => ⟨?_, ?_⟩, ?_, ?_, fun i hi => ?_, ?_, ?_, ?_, ?_, ?_, ?_⟩
  · have hb := hv_b li si hi
    show 0 ≤ stA t s 0 i ∧ stA t s 0 i ≤ 999
    have e : stA t s 0 i = Jvm.Pilot.CFirstFeltLaw_law_r8289_60189c.h1 t s i := by unfold stA; rw [zset_n (by decide), zset_n (by decide), zset_s]
    rw [e]
    unfold Jvm.Pilot.CFirstFeltLaw_law_r8289_60189c.h1
    omega
  · exact (h1 i hi).2
  · exact h2
  · exact h3
  · have e5 : stA t s 5 i = if s 6 i = 1 then s 5 i - 1 else s 5 i := by unfold stA; rw [zset_n (by decide), zset_s]
    have e6 : stA t s 6 i = if s 6 i = 1 then (if 0 < s 5 i - 1 then 1 else 0) else s 6 i := by unfold stA; rw [zset_s]
    have h := h4 i hi
    rw [e5, e6]
    by_cases q : s 6 i = 1
    · rw [if_pos q, if_pos q]
      by_cases q2 : 0 < s 5 i - 1
      · rw [if_pos q2]; omega
      · rw [if_neg q2]; omega
    · rw [if_neg q, if_neg q]; omega
  · exact h5
  · exact h6
  · exact h7
  · exact h8
  · exact h9
  · exact h10
theorem bst_b (c : Int) : ∀ n, -1 ≤ bst s fe c n ∧ bst s fe c n < n
  | 0 => by unfold bst; omega
  | n + 1 => by
    have ih := bst_b c n
    unfold bst
    split <;> omega
theorem ow1_b (li : LInv t) (si : SInv t s) {c : Nat} (hc : c < nC t) : -1 ≤ ow1 t s fe c ∧ ow1 t s fe c < t 0 5 := by
  obtain ⟨-, -, -, -, n5, n6⟩ := li_n li
  have h := (si.1 c hc).2.1
  have hb := bst_b (s := s) (fe := fe) c (nP t)
  unfold ow1
  split <;> omega
theorem si_B (li : LInv t) (si : SInv t s) : SInv t (stB t s fe) := by
  obtain ⟨h1, h2, h3, h4, h5, h6, h7, h8, h9, h10⟩ := id si
  refine ⟨fun i hi => ⟨(h1 i hi).1, ?_, ?_⟩, h2, h3, h4, h5, h6, h7, h8, h9, h10⟩
  · have e : stB t s fe 3 i = ow1 t s fe i := by unfold stB; rw [zset_n (by decide), zset_s]
    rw [e]; exact ow1_b li si hi
  · have e : stB t s fe 4 i = ft1 t s fe i := by unfold stB; rw [zset_s]
    rw [e]
    show 0 ≤ ft1 t s fe i ∧ ft1 t s fe i ≤ s 12 2
    have := (h1 i hi).2.2
    unfold ft1
    split <;> omega
theorem si_C (si : SInv t s) (hp : 0 ≤ t 0 5) : SInv t (stC s) := by
  obtain ⟨h1, h2, h3, h4, h5, h6, h7, h8, h9, h10⟩ := id si
  refine ⟨fun i hi => ⟨(h1 i hi).1, ?_, (h1 i hi).2.2⟩, h2, h3, h4, h5, h6, h7, h8, h9, h10⟩
  have e : stC s 3 i = ow2 s i := by unfold stC; rw [zset_s]
  rw [e]
  have := (h1 i hi).2.1
  unfold ow2
  split <;> omega
theorem prt_b (li : LInv t) (si : SInv t s) : ∀ n, n ≤ nP t → ∀ p, p < nP t → 0 ≤ prt s fe n p ∧ prt s fe n p < 64
  | 0, _, p, hp => (si.2.2.2.2.1 p hp).2.2.2.2
  | n + 1, hn, p, hp => by
    obtain ⟨-, -, -, -, n5, n6⟩ := li_n li
    have ih := prt_b li si n (by omega)
    have h7 := (si.2.2.2.2.1 n (by omega)).1
    have h3 := (si.1 (s 7 n).toNat (by omega)).2.1
    unfold prt
    split
    · rename_i hq
      have b1 := (z_orr (ih n (by omega)) (p := s 3 (s 7 n).toNat) (by omega)).2
      have b2 : ∀ q, q < nP t → 0 ≤ zup (prt s fe n) n (xOr (prt s fe n n) (xShl 1 (s 3 (s 7 n).toNat))) q ∧ zup (prt s fe n) n (xOr (prt s fe n n) (xShl 1 (s 3 (s 7 n).toNat))) q < 64 := fun q hq => by
        by_cases z : q = n
        · subst z; rw [zup_s]; exact b1
        · rw [zup_n z]; exact ih q hq
      by_cases z : p = (s 3 (s 7 n).toNat).toNat
      · rw [z, zup_s]
        exact (z_orr (b2 _ (by omega)) (p := n) (by omega)).2
      · rw [zup_n z]; exact b2 p hp
    · exact ih p hp
theorem si_D (li : LInv t) (si : SInv t s) : SInv t (stD t s fe) := by
  obtain ⟨h1, h2, h3, h4, h5, h6, h7, h8, h9, h10⟩ := id si
  refine ⟨h1, h2, h3, h4, fun i hi => ⟨(h5 i hi).1, (h5 i hi).2.1, (h5 i hi).2.2.1, (h5 i hi).2.2.2.1, ?_⟩, h6, h7, h8, h9, h10⟩
  have e : stD t s fe 11 i = prt s fe (nP t) i := by unfold stD; rw [zset_s]
  rw [e]; exact prt_b li si (nP t) (Nat.le_refl _) i hi
theorem owe_o {n r i : Nat} (h9 : r ≠ 9) (h10 : r ≠ 10) : owe s n r i = s r i := by
  induction n with
  | zero => rfl
  | succ n ih =>
    unfold owe
    split
    · rw [zset_n h10, zset_n h9]; exact ih
    · exact ih
theorem owe_b (si : SInv t s) : ∀ n, n ≤ nP t → ∀ p, p < nP t → (0 ≤ owe s n 9 p ∧ owe s n 9 p ≤ 999999) ∧ (0 ≤ owe s n 10 p ∧ owe s n 10 p ≤ 999999)
  | 0, _, p, hp => ⟨(si.2.2.2.2.1 p hp).2.2.1, (si.2.2.2.2.1 p hp).2.2.2.1⟩
  | n + 1, hn, p, hp => by
    have ih := owe_b si n (by omega) p hp
    unfold owe
    split
    · rw [zset_n (by decide : (9 : Nat) ≠ 10), zset_s, zset_s]
      constructor
      · by_cases z : p = n
        · subst z; rw [zup_s]; omega
        · rw [zup_n z]; exact ih.1
      · by_cases z : p = (s 3 (s 7 n).toNat).toNat
        · rw [← z, zup_s]; omega
        · rw [zup_n z]; exact ih.2
    · exact ih
theorem si_E (si : SInv t s) : SInv t (owe s (nP t)) := by
  obtain ⟨h1, h2, h3, h4, h5, h6, h7, h8, h9, h10⟩ := id si
  have e : ∀ r i, r ≠ 9 → r ≠ 10 → owe s (nP t) r i = s r i := fun r i a b => owe_o a b
  refine ⟨fun i hi => ?_, fun i => ?_, fun i hi => ?_, fun i hi => ?_, fun i hi => ?_, ?_, ?_, ?_, ?_, ?_⟩
  · rw [e 0 i (by decide) (by decide), e 3 i (by decide) (by decide), e 4 i (by decide) (by decide), e 12 2 (by decide) (by decide)]; exact h1 i hi
  · rw [e 1 i (by decide) (by decide), e 2 i (by decide) (by decide)]; exact h2 i
  · rw [e 1 i (by decide) (by decide), e 2 i (by decide) (by decide)]; exact h3 i hi
  · rw [e 5 i (by decide) (by decide), e 6 i (by decide) (by decide)]; exact h4 i hi
  · rw [e 7 i (by decide) (by decide), e 8 i (by decide) (by decide), e 11 i (by decide) (by decide)]
    have := owe_b si (nP t) (Nat.le_refl _) i hi
    exact ⟨(h5 i hi).1, (h5 i hi).2.1, this.1, this.2, (h5 i hi).2.2.2.2⟩
  · rw [e 12 0 (by decide) (by decide)]; exact h6
  · rw [e 12 1 (by decide) (by decide)]; exact h7
  · rw [e 12 2 (by decide) (by decide)]; exact h8
  · rw [e 12 3 (by decide) (by decide)]; exact h9
  · rw [e 12 4 (by decide) (by decide)]; exact h10
theorem skn_b (si : SInv t s) {p : Nat} (hp : p < nP t) : 0 ≤ skn s p ∧ skn s p ≤ 999 := by
  have h5 := si.2.2.2.2.1 p hp
  have h0 := (si.1 (s 7 p).toNat (by omega)).1
  have h := z_td4 (s 0 (s 7 p).toNat - s 8 p)
  unfold skn
  rcases Int.lt_or_le (s 0 (s 7 p).toNat - s 8 p) 0 with q | q
  · rw [h.2 q]; omega
  · rw [h.1 q]; omega
theorem si_F (li : LInv t) (si : SInv t s) (hm : s 12 2 < 1000000000) : SInv t (stF t s) := by
  obtain ⟨-, -, -, -, n5, n6⟩ := li_n li
  obtain ⟨h1, h2, h3, h4, h5, h6, h7, h8, h9, h10⟩ := id si
  have e12 : ∀ i, stF t s 12 i = zup (zup (s 12) 4 (msk (fun p => decide (skn s p < 20)) (s 12 4) (nP t))) 2 (s 12 2 + 1) i := fun i => by unfold stF; rw [zset_s]
  have e8 : ∀ i, stF t s 8 i = skn s i := fun i => by unfold stF; rw [zset_n (by decide), zset_s]
  refine ⟨fun i hi => ⟨(h1 i hi).1, (h1 i hi).2.1, ?_⟩, h2, h3, h4, fun i hi => ⟨(h5 i hi).1, ?_, (h5 i hi).2.2⟩, ?_, ?_, ?_, ?_, ?_⟩
  · rw [e12 2, zup_s]
    have := (h1 i hi).2.2
    show 0 ≤ s 4 i ∧ s 4 i ≤ _
    omega
  · rw [e8]; exact skn_b si hi
  · rw [e12 0, zup_n (by decide), zup_n (by decide)]; exact h6
  · rw [e12 1, zup_n (by decide), zup_n (by decide)]; exact h7
  · rw [e12 2, zup_s]; omega
  · rw [e12 3, zup_n (by decide), zup_n (by decide)]; exact h9
  · rw [e12 4, zup_n (by decide), zup_s]; exact msk_in h10 _ n6
theorem si_step (li : LInv t) (si : SInv t s) (numb : Int) (hm : s 12 2 < 1000000000) : SInv t (step t numb s) := by
  have hp : 0 ≤ t 0 5 := li.2.2.2.2.1.1
  unfold step
  refine si_F li (si_E (si_D li (si_C (si_B li (si_A li si)) hp))) ?_
  rw [owe_o (by decide) (by decide)]
  exact hm
theorem step_m (numb : Int) : step t numb s 12 2 = s 12 2 + 1 := by
  unfold step
  generalize hz : stD t (stC (stB t (stA t s) (feB t (stA t s) numb))) (feB t (stA t s) numb) = z
  have e : z 12 2 = s 12 2 := by rw [← hz]; rfl
  unfold stF
  rw [zset_s, zup_s, owe_o (by decide) (by decide), e]
end INV
