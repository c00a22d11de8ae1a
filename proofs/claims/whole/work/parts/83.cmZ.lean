/-! ===== commands cold and mildest: what they mean; counting bits ===== -/
def kb1 (x : Int) : Int := x - xAnd (xUshr x 1) 1431655765
def kb2 (x : Int) : Int := xAnd x 858993459 + xAnd (xUshr x 2) 858993459
def kb3 (x : Int) : Int := x + xUshr x 4
def kb4 (x : Int) : Int := xAnd x 252645135 + xUshr (xAnd x 252645135) 8
def kb5 (x : Int) : Int := x + xUshr x 16
/-- bits of a set, one by one -/
def cbt (x : Int) : Nat → Int
  | 0 => 0
  | n + 1 => cbt x n + xAnd (xShr x (n : Int)) 1
theorem z_bc : ∀ n : Nat, n < 64 → (-2147483648 ≤ kb1 n ∧ kb1 n ≤ 2147483647) ∧ (-2147483648 ≤ kb2 (kb1 n) ∧ kb2 (kb1 n) ≤ 2147483647) ∧ (-2147483648 ≤ kb3 (kb2 (kb1 n)) ∧ kb3 (kb2 (kb1 n)) ≤ 2147483647) ∧ (-2147483648 ≤ kb4 (kb3 (kb2 (kb1 n))) ∧ kb4 (kb3 (kb2 (kb1 n))) ≤ 2147483647) ∧ (-2147483648 ≤ kb5 (kb4 (kb3 (kb2 (kb1 n)))) ∧ kb5 (kb4 (kb3 (kb2 (kb1 n)))) ≤ 2147483647) ∧ xAnd (kb5 (kb4 (kb3 (kb2 (kb1 n))))) 63 = cbt n 6 := by decide +kernel
theorem z_cb : ∀ m : Nat, m ≤ 6 → ∀ n : Nat, n < 2 ^ m → cbt n m = cbt n 6 := by decide +kernel
theorem z_cbb : ∀ m : Nat, m ≤ 6 → ∀ n : Nat, n < 64 → 0 ≤ cbt n m ∧ cbt n m ≤ 6 := by decide +kernel
theorem z_cb1 : ∀ m : Nat, m < 6 → ∀ n : Nat, n < 64 → 0 ≤ xAnd (xShr (n : Int) (m : Int)) 1 ∧ xAnd (xShr (n : Int) (m : Int)) 1 ≤ 1 := by decide +kernel
theorem msk_lt {f : Nat → Bool} {m : Nat} (hm : m ≤ 6) {z : Int} (hz : 0 ≤ z ∧ z < 2 ^ m) : ∀ n, n ≤ m → 0 ≤ msk f z n ∧ msk f z n < 2 ^ m
  | 0, _ => hz
  | n + 1, hn => by
    have ih := msk_lt (f := f) hm hz n (by omega)
    have hp : (2 : Nat) ^ m ≤ 64 := by
      have : ∀ m : Nat, m ≤ 6 → 2 ^ m ≤ 64 := by decide
      exact this m hm
    have e : ((2 : Int) ^ m) = ((2 ^ m : Nat) : Int) := by simp
    unfold msk
    split
    · have h64 : msk f z n < 64 := by rw [e] at ih; omega
      rw [(z_orr ⟨ih.1, h64⟩ (by omega)).1]
      refine ⟨by omega, ?_⟩
      rw [e]
      have h1 : (msk f z n).toNat < 2 ^ m := by rw [e] at ih; omega
      have h2 : 2 ^ (n : Int).toNat < 2 ^ m := Nat.pow_lt_pow_right (by decide) (by omega)
      have := Nat.or_lt_two_pow h1 h2
      omega
    · exact ih
/-- the first way on which none must be paid; -1: none -/
def rfU (t s : zS) (p : Nat) (c : Int) : Nat → Nat → Int
  | 0, _ => -1
  | n + 1, b => if wyy t s c b ≠ -1 ∧ isO s p (wyy t s c b).toNat = false then wyy t s c b else rfU t s p c n (b + 1)
def rfg (t s : zS) (p : Nat) : Int := if rfU t s p (s 7 p) 4 1 = -1 then s 7 p else rfU t s p (s 7 p) 4 1
def lv1 (t s : zS) (p : Nat) : zS := if isO s p (s 7 p).toNat = true then zset s 7 (zup (s 7) p (rfg t s p)) else s
def lvU (t s : zS) : Nat → zS
  | 0 => s
  | p + 1 => lv1 t (lvU t s p) p
def czS (s : zS) (v : Int) : zS := zset s 12 (zup (zup (s 12) 0 v) 4 0)
def cz (t s : zS) : Nat → zS
  | 0 => s
  | n + 1 => step t (-1) (lvU t (cz t s n) (nP t))
def oFrz (t s : zS) (v : Int) (n : Nat) : Int := cbt (cz t (czS s v) n 12 4) (nP t)
def oCold (t s : zS) (v n : Int) : Int := if (0 ≤ v ∧ v ≤ 3) ∧ 1 ≤ n ∧ n ≤ 60 then oFrz t s v n.toNat else -1000000002
/-- the law with fewest, from v on -/
def mld (t s : zS) (N : Nat) : Nat → Nat → Nat → Int
  | 0, _, b => b
  | n + 1, v, b => if oFrz t s v N < oFrz t s b N then mld t s N n (v + 1) v else mld t s N n (v + 1) b
def oMild (t s : zS) (n : Int) : Int := if 1 ≤ n ∧ n ≤ 60 then mld t s n.toNat 3 1 0 else -1000000002
section CMZ
variable {g : xG} {w w0 : xW} {t s : zS} {d : Nat} {Q : xQ} {lim : Nat × Nat} {kl kn kl2 kn2 k kt : Nat} {x y v n : Int}
theorem cl_bitCount (hx : 0 ≤ x ∧ x < 64) (hQ : Q (some (xi (cbt x 6))) g w) : cal (d + 1) nJd_bitCount [xi x] g w Q := by
  refine eJd_bitCount fun lim Q2 h2 => wJd_bitCount_0 ?_
  have hQ := h2 _ _ _ rfl hQ
  obtain ⟨N, hN⟩ := z_nn hx.1
  subst hN
  obtain ⟨a1, a2, a3, a4, a5, a6⟩ := z_bc N (by omega)
  exact ⟨a1, a2, a3, a4, a5, qe hQ a6.symm⟩
theorem rfU_in (li : LInv t) {p : Nat} {c : Int} (hc : 0 ≤ c ∧ c < nC t) : ∀ n b, rfU t s p c n b = -1 ∨ (0 ≤ rfU t s p c n b ∧ rfU t s p c n b < nC t)
  | 0, _ => Or.inl rfl
  | n + 1, b => by
    unfold rfU
    split
    · exact wyy_in li hc _
    · exact rfU_in li hc n (b + 1)
theorem rfg_in (li : LInv t) (si : SInv t s) {p : Nat} (hp : p < nP t) : 0 ≤ rfg t s p ∧ rfg t s p < nC t := by
  have h7 := (si.2.2.2.2.1 p hp).1
  unfold rfg
  split
  · exact h7
  · rename_i z
    exact (rfU_in li h7 4 1).resolve_left z
theorem si_lv1 (li : LInv t) (si : SInv t s) {p : Nat} (hp : p < nP t) : SInv t (lv1 t s p) := by
  unfold lv1
  split
  · exact si_7 si (rfg_in li si hp)
  · exact si
theorem si_lvU (li : LInv t) (si : SInv t s) : ∀ p, p ≤ nP t → SInv t (lvU t s p)
  | 0, _ => si
  | p + 1, h => si_lv1 li (si_lvU li si p (by omega)) (by omega)
theorem lvU_12 {i : Nat} : ∀ p, lvU t s p 12 i = s 12 i
  | 0 => rfl
  | p + 1 => by
    rw [lvU, lv1]
    split
    · rw [zset_n (by decide)]; exact lvU_12 p
    · exact lvU_12 p
theorem cz_m : ∀ n : Nat, cz t s n 12 2 = s 12 2 + n
  | 0 => by simp [cz]
  | n + 1 => by rw [cz, step_m, lvU_12, cz_m n]; omega
theorem si_cz (li : LInv t) (si : SInv t s) : ∀ n : Nat, s 12 2 + n ≤ 1000000000 → SInv t (cz t s n)
  | 0, _ => si
  | n + 1, h => by
    rw [cz]
    refine si_step li (si_lvU li (si_cz li si n (by omega)) _ (Nat.le_refl _)) _ ?_
    rw [lvU_12, cz_m]; omega
theorem si_czS (si : SInv t s) (hv : 0 ≤ v ∧ v ≤ 3) : SInv t (czS s v) := by
  obtain ⟨h1, h2, h3, h4, h5, h6, h7, h8, h9, h10⟩ := si
  have e : ∀ r j, r ≠ 12 → czS s v r j = s r j := fun r j q => zset_n q
  have e12 : ∀ j, j ≠ 0 → j ≠ 4 → czS s v 12 j = s 12 j := fun j q q2 => by unfold czS; rw [zset_s, zup_n q2, zup_n q]
  refine ⟨fun j hj => ?_, fun j => ?_, fun j hj => ?_, fun j hj => ?_, fun j hj => ?_, ?_, ?_, ?_, ?_, ?_⟩
  · rw [e 0 j (by decide), e 3 j (by decide), e 4 j (by decide), e12 2 (by omega) (by omega)]; exact h1 j hj
  · rw [e 1 j (by decide), e 2 j (by decide)]; exact h2 j
  · rw [e 1 j (by decide), e 2 j (by decide)]; exact h3 j hj
  · rw [e 5 j (by decide), e 6 j (by decide)]; exact h4 j hj
  · rw [e 7 j (by decide), e 8 j (by decide), e 9 j (by decide), e 10 j (by decide), e 11 j (by decide)]; exact h5 j hj
  · unfold czS; rw [zset_s, zup_n (by decide), zup_s]; exact hv
  · rw [e12 1 (by omega) (by omega)]; exact h7
  · rw [e12 2 (by omega) (by omega)]; exact h8
  · rw [e12 3 (by omega) (by omega)]; exact h9
  · unfold czS; rw [zset_s, zup_s]; decide
theorem czS_m : czS s v 12 2 = s 12 2 := by unfold czS; rw [zset_s, zup_n (by decide), zup_n (by decide)]
/-- who froze is one of the people -/
theorem step_4 (li : LInv t) {numb : Int} (h : 0 ≤ s 12 4 ∧ s 12 4 < 2 ^ (nP t)) : 0 ≤ step t numb s 12 4 ∧ step t numb s 12 4 < 2 ^ (nP t) := by
  obtain ⟨-, -, -, -, n5, n6⟩ := li_n li
  unfold step stF
  rw [zset_s, zup_n (by decide), zup_s, owe_o (by decide) (by decide)]
  exact msk_lt (by omega) h (nP t) (Nat.le_refl _)
theorem cz_4 (li : LInv t) (h : 0 ≤ s 12 4 ∧ s 12 4 < 2 ^ (nP t)) : ∀ n : Nat, 0 ≤ cz t s n 12 4 ∧ cz t s n 12 4 < 2 ^ (nP t)
  | 0 => h
  | n + 1 => by
    rw [cz]
    refine step_4 li ?_
    rw [lvU_12]; exact cz_4 li h n
theorem oFrz_6 (li : LInv t) {N : Nat} : cbt (cz t (czS s v) N 12 4) 6 = oFrz t s v N ∧ 0 ≤ cz t (czS s v) N 12 4 ∧ cz t (czS s v) N 12 4 < 64 ∧ 0 ≤ oFrz t s v N ∧ oFrz t s v N ≤ 6 := by
  obtain ⟨-, -, -, -, n5, n6⟩ := li_n li
  have h0 : (0 : Int) ≤ czS s v 12 4 ∧ czS s v 12 4 < 2 ^ (nP t) := by
    have : czS s v 12 4 = 0 := by unfold czS; rw [zset_s, zup_s]
    rw [this]
    refine ⟨by decide, ?_⟩
    have e : ((2 : Int) ^ (nP t)) = ((2 ^ (nP t) : Nat) : Int) := by simp
    have := Nat.two_pow_pos (nP t)
    rw [e]; omega
  have h := cz_4 li h0 N
  obtain ⟨X, hX⟩ := z_nn h.1
  have e : ((2 : Int) ^ (nP t)) = ((2 ^ (nP t) : Nat) : Int) := by simp
  have hp : (2 : Nat) ^ (nP t) ≤ 64 := by
    have : ∀ m : Nat, m ≤ 6 → 2 ^ m ≤ 64 := by decide
    exact this _ (by omega)
  rw [e, hX] at h
  unfold oFrz
  rw [hX]
  have b := z_cbb (nP t) (by omega) X (by omega)
  exact ⟨(z_cb (nP t) (by omega) X (by omega)).symm, by omega, by omega, b⟩
end CMZ
