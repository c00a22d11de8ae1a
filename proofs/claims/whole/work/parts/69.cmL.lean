/-! ===== the commands keep the state's bounds ===== -/
section CML
variable {t s : zS} {v k f p y : Int}
theorem si_12 (si : SInv t s) {i : Nat} (h : (i = 0 ∧ 0 ≤ v ∧ v ≤ 3) ∨ (i = 1 ∧ 1 ≤ v ∧ v ≤ 20) ∨ (i = 3 ∧ 0 ≤ v ∧ v ≤ 2147483647)) : SInv t (zset s 12 (zup (s 12) i v)) := by
  obtain ⟨h1, h2, h3, h4, h5, h6, h7, h8, h9, h10⟩ := si
  have e : ∀ r j, r ≠ 12 → zset s 12 (zup (s 12) i v) r j = s r j := fun r j q => zset_n q
  have e12 : ∀ j, j ≠ i → zset s 12 (zup (s 12) i v) 12 j = s 12 j := fun j q => by rw [zset_s, zup_n q]
  have ei : zset s 12 (zup (s 12) i v) 12 i = v := by rw [zset_s, zup_s]
  refine ⟨fun j hj => ?_, fun j => ?_, fun j hj => ?_, fun j hj => ?_, fun j hj => ?_, ?_, ?_, ?_, ?_, ?_⟩
  · rw [e 0 j (by decide), e 3 j (by decide), e 4 j (by decide), e12 2 (by omega)]; exact h1 j hj
  · rw [e 1 j (by decide), e 2 j (by decide)]; exact h2 j
  · rw [e 1 j (by decide), e 2 j (by decide)]; exact h3 j hj
  · rw [e 5 j (by decide), e 6 j (by decide)]; exact h4 j hj
  · rw [e 7 j (by decide), e 8 j (by decide), e 9 j (by decide), e 10 j (by decide), e 11 j (by decide)]; exact h5 j hj
  · by_cases q : i = 0
    · subst q; rw [ei]; omega
    · rw [e12 0 (by omega)]; exact h6
  · by_cases q : i = 1
    · subst q; rw [ei]; omega
    · rw [e12 1 (by omega)]; exact h7
  · rw [e12 2 (by omega)]; exact h8
  · by_cases q : i = 3
    · subst q; rw [ei]; omega
    · rw [e12 3 (by omega)]; exact h9
  · rw [e12 4 (by omega)]; exact h10
theorem si_law (si : SInv t s) : SInv t (oLaw s v).2 := by
  unfold oLaw
  by_cases a : 0 ≤ v ∧ v ≤ 3
  · rw [if_pos a]; exact si_12 si (by omega)
  · rw [if_neg a]; exact si
theorem si_last (si : SInv t s) : SInv t (oLast s v).2 := by
  unfold oLast
  by_cases a : 1 ≤ v ∧ v ≤ 20
  · rw [if_pos a]; exact si_12 si (by omega)
  · rw [if_neg a]; exact si
theorem si_seed (si : SInv t s) (hv : v ≤ 2147483647) : SInv t (oSeed s v).2 := by
  unfold oSeed
  by_cases a : 0 ≤ v
  · rw [if_pos a]; exact si_12 si (by omega)
  · rw [if_neg a]; exact si
theorem si_light (si : SInv t s) : SInv t (oLight t s k).2 := by
  unfold oLight
  by_cases a : 0 ≤ k ∧ k < t 0 2
  · rw [if_pos a]
    by_cases b : s 6 k.toNat = 0 ∧ 0 < s 5 k.toNat
    · rw [if_pos b]; exact si_lit si (by omega)
    · rw [if_neg b]; exact si
  · rw [if_neg a]; exact si
theorem si_5 (si : SInv t s) {i : Nat} (h : 1 ≤ v ∧ v ≤ 999) : SInv t (zset s 5 (zup (s 5) i v)) := by
  obtain ⟨h1, h2, h3, h4, h5, h6, h7, h8, h9, h10⟩ := si
  have e : ∀ r j, r ≠ 5 → zset s 5 (zup (s 5) i v) r j = s r j := fun r j q => zset_n q
  refine ⟨fun j hj => ?_, fun j => ?_, fun j hj => ?_, fun j hj => ?_, fun j hj => ?_, ?_, ?_, ?_, ?_, ?_⟩
  · rw [e 0 j (by decide), e 3 j (by decide), e 4 j (by decide), e 12 2 (by decide)]; exact h1 j hj
  · rw [e 1 j (by decide), e 2 j (by decide)]; exact h2 j
  · rw [e 1 j (by decide), e 2 j (by decide)]; exact h3 j hj
  · rw [e 6 j (by decide), zset_s]
    by_cases q : j = i
    · subst q; rw [zup_s]; have := h4 j hj; omega
    · rw [zup_n q]; exact h4 j hj
  · rw [e 7 j (by decide), e 8 j (by decide), e 9 j (by decide), e 10 j (by decide), e 11 j (by decide)]; exact h5 j hj
  · rw [e 12 0 (by decide)]; exact h6
  · rw [e 12 1 (by decide)]; exact h7
  · rw [e 12 2 (by decide)]; exact h8
  · rw [e 12 3 (by decide)]; exact h9
  · rw [e 12 4 (by decide)]; exact h10
theorem si_stoke (li : LInv t) (si : SInv t s) : SInv t (oStoke t s k f).2 := by
  unfold oStoke
  obtain ⟨n1, n2, n3, n4, -⟩ := li_n li
  by_cases a : 0 ≤ k ∧ k < t 0 2
  · rw [if_pos a]
    by_cases b : 1 ≤ f ∧ f ≤ 99
    · rw [if_pos b]
      have := si.2.2.2.1 k.toNat (by omega)
      exact si_5 si (by omega)
    · rw [if_neg b]; exact si
  · rw [if_neg a]; exact si
theorem si_7 (si : SInv t s) {i : Nat} (h : 0 ≤ v ∧ v < nC t) : SInv t (zset s 7 (zup (s 7) i v)) := by
  obtain ⟨h1, h2, h3, h4, h5, h6, h7, h8, h9, h10⟩ := si
  have e : ∀ r j, r ≠ 7 → zset s 7 (zup (s 7) i v) r j = s r j := fun r j q => zset_n q
  refine ⟨fun j hj => ?_, fun j => ?_, fun j hj => ?_, fun j hj => ?_, fun j hj => ?_, ?_, ?_, ?_, ?_, ?_⟩
  · rw [e 0 j (by decide), e 3 j (by decide), e 4 j (by decide), e 12 2 (by decide)]; exact h1 j hj
  · rw [e 1 j (by decide), e 2 j (by decide)]; exact h2 j
  · rw [e 1 j (by decide), e 2 j (by decide)]; exact h3 j hj
  · rw [e 5 j (by decide), e 6 j (by decide)]; exact h4 j hj
  · rw [e 8 j (by decide), e 9 j (by decide), e 10 j (by decide), e 11 j (by decide), zset_s]
    by_cases q : j = i
    · subst q; rw [zup_s]; exact ⟨h, (h5 j hj).2⟩
    · rw [zup_n q]; exact h5 j hj
  · rw [e 12 0 (by decide)]; exact h6
  · rw [e 12 1 (by decide)]; exact h7
  · rw [e 12 2 (by decide)]; exact h8
  · rw [e 12 3 (by decide)]; exact h9
  · rw [e 12 4 (by decide)]; exact h10
theorem si_go (li : LInv t) (si : SInv t s) : SInv t (oGo t s p y).2 := by
  unfold oGo
  obtain ⟨n1, n2, -, -, n5, n6⟩ := li_n li
  by_cases a : 0 ≤ p ∧ p < t 0 5
  · rw [if_pos a]
    by_cases b : 1 ≤ y ∧ y ≤ 4
    · rw [if_pos b]
      have h7 := (si.2.2.2.2.1 p.toNat (by omega)).1
      by_cases c : wyy t s (s 7 p.toNat) y ≠ -1
      · rw [if_pos c]; exact si_7 si ((wyy_in (s := s) li h7 y).resolve_left c)
      · rw [if_neg c]; exact si
    · rw [if_neg b]; exact si
  · rw [if_neg a]; exact si
theorem si_minute (li : LInv t) (si : SInv t s) : SInv t (oMinute t s v).2 := by
  have hm0 := si.2.2.2.2.2.2.2.1
  rcases min_cases (t := t) (s := s) v with ⟨-, a, b⟩ | ⟨-, b⟩
  · rw [b]; exact si_steps li si v.toNat (by omega)
  · rw [b]; exact si
theorem m_minute (hm : s 12 2 ≤ 900060) : (oMinute t s v).2 12 2 ≤ 900060 := by
  rcases min_cases (t := t) (s := s) v with ⟨-, a, b⟩ | ⟨-, b⟩
  · rw [b]; show steps t (-1) v.toNat s 12 2 ≤ 900060; rw [steps_m]; omega
  · rw [b]; exact hm
end CML
