/-! ===== the reference reads clauses: heaps ===== -/
/-- what a clause may change beside its own places -/
def NX (w w2 : xW) (E : Nat → Nat → Prop) : Prop := ∀ a j, ¬ (a = 193 ∧ ((27 ≤ j ∧ j ≤ 32) ∨ j = 47)) → ¬ E a j → w2 a j = w a j
section MTC
variable {g : xG} {w w0 w2 : xW} {T : zT} {L : Nat} {t s : zS} {d : Nat} {Q : xQ} {lim : Nat × Nat} {wl : Int} {i : Nat}
theorem hsU_c {t2 : zS} {c : Int} : ∀ n, (∀ k, k < n → t2 3 k = t 3 k) → hsU t2 c n = hsU t c n
  | 0, _ => rfl
  | n + 1, h => by unfold hsU; rw [hsU_c n fun k hk => h k (by omega), h n (by omega)]
theorem zm_town {x y b : Int} (h : ZM t s wl w) (e : NX w w2 fun a j => a = 193 ∧ (j = 33 ∨ j = 34 ∨ j = 35)) (e33 : w2 193 33 = x) (e34 : w2 193 34 = y) (e35 : w2 193 35 = b) : ZM (zset t 0 (zup (zup (t 0) 0 x) 1 y)) (zset s 0 (fun _ => b)) wl w2 := by
  obtain ⟨h1, h2, h3, h4, h5, h6, h7, h8, h9, h10, h11, h12⟩ := h
  have eo : ∀ i, i ≠ 0 → i ≠ 1 → zset t 0 (zup (zup (t 0) 0 x) 1 y) 0 i = t 0 i := fun i p q => by rw [zset_s, zup_n q, zup_n p]
  have en : ∀ r i, r ≠ 0 → zset t 0 (zup (zup (t 0) 0 x) 1 y) r i = t r i := fun r i p => zset_n p
  have es : ∀ r i, r ≠ 0 → zset s 0 (fun _ => b) r i = s r i := fun r i p => zset_n p
  have nS0 : nS (zset t 0 (zup (zup (t 0) 0 x) 1 y)) = nS t := by unfold nS; rw [eo 2 (by decide) (by decide)]
  have nP0 : nP (zset t 0 (zup (zup (t 0) 0 x) 1 y)) = nP t := by unfold nP; rw [eo 5 (by decide) (by decide)]
  refine ⟨?_, ?_, fun _ i => ?_, ?_, ?_, ?_, ?_, ?_, fun i q => ?_, fun k q => ?_, fun k q => ?_, fun p q => ?_⟩
  · rw [e33, zset_s, zup_n (by decide), zup_s]
  · rw [e34, zset_s, zup_s]
  · rw [e35, zset_s]
  · rw [e _ _ (by omega) (by omega), h4]
  · rw [e _ _ (by omega) (by omega), h5, eo 3 (by decide) (by decide)]
  · rw [e _ _ (by omega) (by omega), h6, eo 2 (by decide) (by decide)]
  · rw [e _ _ (by omega) (by omega), h7, eo 4 (by decide) (by decide)]
  · rw [e _ _ (by omega) (by omega), h8, eo 5 (by decide) (by decide)]
  · rw [e _ _ (by omega) (by omega), e _ _ (by omega) (by omega), e _ _ (by omega) (by omega), e _ _ (by omega) (by omega), es 1 i (by decide), es 2 i (by decide), en 1 i (by decide), nS0, hsU_c _ fun k _ => en 3 k (by decide)]; exact h9 i q
  · rw [e _ _ (by omega) (by omega), e _ _ (by omega) (by omega), e _ _ (by omega) (by omega), en 3 k (by decide), en 4 k (by decide), es 5 k (by decide)]; exact h10 k (by omega)
  · rw [eo 4 (by decide) (by decide)] at q
    rw [e _ _ (by omega) (by omega), en 2 k (by decide)]; exact h11 k q
  · rw [e _ _ (by omega) (by omega), e _ _ (by omega) (by omega), e _ _ (by omega) (by omega), e _ _ (by omega) (by omega), es 7 p (by decide), es 8 p (by decide), en 5 p (by decide), en 6 p (by decide)]; exact h12 p (by omega)
theorem zm_wall {c D : Nat} (h : ZM t s wl w) (hc : c < 20) (hD : D ≤ 1) (e : NX w w2 fun a j => (a = 193 ∧ j = 37) ∨ (a = 211 ∧ j = 20 * D + c)) (e37 : w2 193 37 = wl + 1) (ew : w2 211 (20 * D + c) = 1) : ZM t (bld s D c 1) (wl + 1) w2 := by
  obtain ⟨h1, h2, h3, h4, h5, h6, h7, h8, h9, h10, h11, h12⟩ := h
  have es : ∀ r i, r ≠ 1 → r ≠ 2 → bld s D c 1 r i = s r i := fun r i p q => bld_n (by omega)
  refine ⟨?_, ?_, fun q i => ?_, e37, ?_, ?_, ?_, ?_, fun i q => ⟨?_, ?_, ?_, ?_⟩, fun k q => ?_, fun k q => ?_, fun p q => ?_⟩
  · rw [e _ _ (by omega) (by omega), h1]
  · rw [e _ _ (by omega) (by omega), h2]
  · rw [e _ _ (by omega) (by omega), es 0 i (by decide) (by decide)]; exact h3 q i
  · rw [e _ _ (by omega) (by omega), h5]
  · rw [e _ _ (by omega) (by omega), h6]
  · rw [e _ _ (by omega) (by omega), h7]
  · rw [e _ _ (by omega) (by omega), h8]
  · rcases (by omega : D = 0 ∨ D = 1) with u | u <;> subst u
    · rw [show bld s 0 c 1 1 i = zup (s 1) c 1 i from bld_e (d := 0)]
      by_cases z : i = c
      · subst z
        rw [zup_s]
        rw [show 20 * 0 + i = i by omega] at ew; exact ew
      · rw [zup_n z, e _ _ (by omega) (by omega)]; exact (h9 i q).1
    · rw [bld_n (by decide), e _ _ (by omega) (by omega)]; exact (h9 i q).1
  · rcases (by omega : D = 0 ∨ D = 1) with u | u <;> subst u
    · rw [bld_n (by decide), e _ _ (by omega) (by omega)]; exact (h9 i q).2.1
    · rw [show bld s 1 c 1 2 i = zup (s 2) c 1 i from bld_e (d := 1)]
      by_cases z : i = c
      · subst z
        rw [zup_s]
        rw [show 20 * 1 + i = 20 + i by omega] at ew; exact ew
      · rw [zup_n z, e _ _ (by omega) (by omega)]; exact (h9 i q).2.1
  · rw [e _ _ (by omega) (by omega)]; exact (h9 i q).2.2.1
  · rw [e _ _ (by omega) (by omega)]; exact (h9 i q).2.2.2
  · rw [e _ _ (by omega) (by omega), e _ _ (by omega) (by omega), e _ _ (by omega) (by omega), es 5 k (by decide) (by decide)]; exact h10 k q
  · rw [e _ _ (by omega) (by omega)]; exact h11 k q
  · rw [e _ _ (by omega) (by omega), e _ _ (by omega) (by omega), e _ _ (by omega) (by omega), e _ _ (by omega) (by omega), es 7 p (by decide) (by decide), es 8 p (by decide) (by decide)]; exact h12 p q
theorem zm_stove {c : Nat} {x f : Int} (h : ZM t s wl w) (li : LInv t) (h4' : t 0 2 < 4) (e : NX w w2 fun a j => (a = 193 ∧ j = 40) ∨ (a = 214 ∧ j = c) ∨ (a = 213 ∧ (j = nS t ∨ j = 4 + nS t ∨ j = 8 + nS t))) (e40 : w2 193 40 = t 0 2 + 1) (e42 : w2 214 c = 1) (g0 : w2 213 (nS t) = (c : Int)) (g4 : w2 213 (4 + nS t) = x) (g8 : w2 213 (8 + nS t) = f) : ZM (stT t c x) (stS t s f) wl w2 := by
  obtain ⟨h1, h2, h3, h4, h5, h6, h7, h8, h9, h10, h11, h12⟩ := h
  obtain ⟨n1, n2, n3, n4, n5, n6⟩ := li_n li
  have eP : nP (stT t c x) = nP t := by unfold nP; rw [stT_0 (by decide)]
  have eS : nS (stT t c x) = nS t + 1 := by unfold nS; rw [stT_2]; unfold nS at n3; omega
  have es : ∀ r i, r ≠ 5 → stS t s f r i = s r i := fun r i q => zset_n q
  have ehs : ∀ i : Nat, hsU (stT t c x) i (nS (stT t c x)) = (hsU t i (nS t) || decide ((c : Int) = i)) := fun i => by
    rw [eS, hsU, hsU_c (t := t) _ fun k hk => by rw [stT_3, zup_n (by omega)], stT_3, zup_s]
  refine ⟨?_, ?_, fun q i => ?_, ?_, ?_, ?_, ?_, ?_, fun i q => ⟨?_, ?_, ?_, ?_⟩, fun k q => ?_, fun k q => ?_, fun p q => ?_⟩
  · rw [e _ _ (by omega) (by omega), h1, stT_0 (by decide)]
  · rw [e _ _ (by omega) (by omega), h2, stT_0 (by decide)]
  · rw [stT_0 (by decide)] at q
    rw [e _ _ (by omega) (by omega), es 0 i (by decide)]; exact h3 q i
  · rw [e _ _ (by omega) (by omega), h4]
  · rw [e _ _ (by omega) (by omega), h5, stT_0 (by decide)]
  · rw [e40, stT_2]
  · rw [e _ _ (by omega) (by omega), h7, stT_0 (by decide)]
  · rw [e _ _ (by omega) (by omega), h8, stT_0 (by decide)]
  · rw [e _ _ (by omega) (by omega), es 1 i (by decide)]; exact (h9 i q).1
  · rw [e _ _ (by omega) (by omega), es 2 i (by decide)]; exact (h9 i q).2.1
  · rw [e _ _ (by omega) (by omega), stT_n (by decide) (by decide) (by decide)]; exact (h9 i q).2.2.1
  · rw [ehs]
    by_cases z : i = c
    · subst z
      rw [e42]; simp
    · rw [e _ _ (by omega) (by omega), (h9 i q).2.2.2, show decide ((c : Int) = (i : Int)) = false by simp; omega, Bool.or_false]
  · rw [stT_3, stT_4]
    unfold stS
    rw [zset_s]
    by_cases z : k = nS t
    · rw [z, zup_s, zup_s, zup_s]; exact ⟨g0, g4, g8⟩
    · rw [zup_n z, zup_n z, zup_n z, e _ _ (by omega) (by omega), e _ _ (by omega) (by omega), e _ _ (by omega) (by omega)]; exact h10 k (by omega)
  · rw [stT_0 (by decide)] at q
    rw [e _ _ (by omega) (by omega), stT_n (by decide) (by decide) (by decide)]; exact h11 k q
  · rw [e _ _ (by omega) (by omega), e _ _ (by omega) (by omega), e _ _ (by omega) (by omega), e _ _ (by omega) (by omega), es 7 p (by decide), es 8 p (by decide), stT_n (by decide) (by decide) (by decide), stT_n (by decide) (by decide) (by decide)]; exact h12 p (by omega)
theorem zm_roof {c : Nat} (h : ZM t s wl w) (hc : c < 20) (e : NX w w2 fun a j => (a = 193 ∧ j = 39) ∨ (a = 212 ∧ j = c)) (e39 : w2 193 39 = t 0 3 + 1) (er : w2 212 c = 1) : ZM (rfT t c) s wl w2 := by
  obtain ⟨h1, h2, h3, h4, h5, h6, h7, h8, h9, h10, h11, h12⟩ := h
  have eP : nP (rfT t c) = nP t := by unfold nP; rw [rfT_0 (by decide)]
  have eS : nS (rfT t c) = nS t := by unfold nS; rw [rfT_0 (by decide)]
  refine ⟨?_, ?_, fun q i => ?_, ?_, ?_, ?_, ?_, ?_, fun i q => ⟨?_, ?_, ?_, ?_⟩, fun k q => ?_, fun k q => ?_, fun p q => ?_⟩
  · rw [e _ _ (by omega) (by omega), h1, rfT_0 (by decide)]
  · rw [e _ _ (by omega) (by omega), h2, rfT_0 (by decide)]
  · rw [rfT_0 (by decide)] at q
    rw [e _ _ (by omega) (by omega)]; exact h3 q i
  · rw [e _ _ (by omega) (by omega), h4]
  · rw [e39, rfT_3]
  · rw [e _ _ (by omega) (by omega), h6, rfT_0 (by decide)]
  · rw [e _ _ (by omega) (by omega), h7, rfT_0 (by decide)]
  · rw [e _ _ (by omega) (by omega), h8, rfT_0 (by decide)]
  · rw [e _ _ (by omega) (by omega)]; exact (h9 i q).1
  · rw [e _ _ (by omega) (by omega)]; exact (h9 i q).2.1
  · rw [rfT_1]
    by_cases z : i = c
    · subst z; rw [zup_s]; exact er
    · rw [zup_n z, e _ _ (by omega) (by omega)]; exact (h9 i q).2.2.1
  · rw [eS, hsU_c (t := t) _ fun k _ => rfT_n (by decide) (by decide), e _ _ (by omega) (by omega)]; exact (h9 i q).2.2.2
  · rw [e _ _ (by omega) (by omega), e _ _ (by omega) (by omega), e _ _ (by omega) (by omega), rfT_n (by decide) (by decide), rfT_n (by decide) (by decide)]; exact h10 k (by omega)
  · rw [rfT_0 (by decide)] at q
    rw [e _ _ (by omega) (by omega), rfT_n (by decide) (by decide)]; exact h11 k q
  · rw [e _ _ (by omega) (by omega), e _ _ (by omega) (by omega), e _ _ (by omega) (by omega), e _ _ (by omega) (by omega), rfT_n (by decide) (by decide), rfT_n (by decide) (by decide)]; exact h12 p (by omega)
theorem zm_sun {n : Nat} {x : Int} (h : ZM t s wl w) (hn : t 0 4 = n) (e : NX w w2 fun a j => (a = 193 ∧ j = 43) ∨ (a = 215 ∧ j = n)) (e43 : w2 193 43 = (n : Int) + 1) (er : w2 215 n = x) : ZM (snT t n x) s wl w2 := by
  obtain ⟨h1, h2, h3, h4, h5, h6, h7, h8, h9, h10, h11, h12⟩ := h
  have eP : nP (snT t n x) = nP t := by unfold nP; rw [snT_0 (by decide)]
  have eS : nS (snT t n x) = nS t := by unfold nS; rw [snT_0 (by decide)]
  refine ⟨?_, ?_, fun q i => ?_, ?_, ?_, ?_, ?_, ?_, fun i q => ⟨?_, ?_, ?_, ?_⟩, fun k q => ?_, fun k q => ?_, fun p q => ?_⟩
  · rw [e _ _ (by omega) (by omega), h1, snT_0 (by decide)]
  · rw [e _ _ (by omega) (by omega), h2, snT_0 (by decide)]
  · rw [snT_0 (by decide)] at q
    rw [e _ _ (by omega) (by omega)]; exact h3 q i
  · rw [e _ _ (by omega) (by omega), h4]
  · rw [e _ _ (by omega) (by omega), h5, snT_0 (by decide)]
  · rw [e _ _ (by omega) (by omega), h6, snT_0 (by decide)]
  · rw [e43, snT_4]
  · rw [e _ _ (by omega) (by omega), h8, snT_0 (by decide)]
  · rw [e _ _ (by omega) (by omega)]; exact (h9 i q).1
  · rw [e _ _ (by omega) (by omega)]; exact (h9 i q).2.1
  · rw [e _ _ (by omega) (by omega), snT_n (by decide) (by decide)]; exact (h9 i q).2.2.1
  · rw [eS, hsU_c (t := t) _ fun k _ => snT_n (by decide) (by decide), e _ _ (by omega) (by omega)]; exact (h9 i q).2.2.2
  · rw [e _ _ (by omega) (by omega), e _ _ (by omega) (by omega), e _ _ (by omega) (by omega), snT_n (by decide) (by decide), snT_n (by decide) (by decide)]; exact h10 k (by omega)
  · rw [snT_4] at q
    rw [snT_2]
    by_cases z : k = n
    · subst z; rw [zup_s]; exact er
    · rw [zup_n z, e _ _ (by omega) (by omega)]; exact h11 k (by omega)
  · rw [e _ _ (by omega) (by omega), e _ _ (by omega) (by omega), e _ _ (by omega) (by omega), e _ _ (by omega) (by omega), snT_n (by decide) (by decide), snT_n (by decide) (by decide)]; exact h12 p (by omega)
theorem zm_pers {c k x y : Int} (h : ZM t s wl w) (li : LInv t) (h6' : t 0 5 < 6) (e : NX w w2 fun a j => (a = 193 ∧ j = 45) ∨ (a = 216 ∧ (j = nP t ∨ j = 6 + nP t ∨ j = 12 + nP t ∨ j = 18 + nP t))) (e45 : w2 193 45 = t 0 5 + 1) (g0 : w2 216 (nP t) = c) (g6 : w2 216 (6 + nP t) = k) (g12 : w2 216 (12 + nP t) = x) (g18 : w2 216 (18 + nP t) = y) : ZM (prT t x y) (prS t s c k) wl w2 := by
  obtain ⟨h1, h2, h3, h4, h5, h6, h7, h8, h9, h10, h11, h12⟩ := h
  obtain ⟨n1, n2, n3, n4, n5, n6⟩ := li_n li
  have eS : nS (prT t x y) = nS t := by unfold nS; rw [prT_0 (by decide)]
  have eP : nP (prT t x y) = nP t + 1 := by unfold nP; rw [prT_5]; unfold nP at n5; omega
  have es : ∀ r i, r ≠ 7 → r ≠ 8 → prS t s c k r i = s r i := fun r i p q => prS_n p q
  refine ⟨?_, ?_, fun q i => ?_, ?_, ?_, ?_, ?_, ?_, fun i q => ⟨?_, ?_, ?_, ?_⟩, fun k q => ?_, fun k q => ?_, fun p q => ?_⟩
  · rw [e _ _ (by omega) (by omega), h1, prT_0 (by decide)]
  · rw [e _ _ (by omega) (by omega), h2, prT_0 (by decide)]
  · rw [prT_0 (by decide)] at q
    rw [e _ _ (by omega) (by omega), es 0 i (by decide) (by decide)]; exact h3 q i
  · rw [e _ _ (by omega) (by omega), h4]
  · rw [e _ _ (by omega) (by omega), h5, prT_0 (by decide)]
  · rw [e _ _ (by omega) (by omega), h6, prT_0 (by decide)]
  · rw [e _ _ (by omega) (by omega), h7, prT_0 (by decide)]
  · rw [e45, prT_5]
  · rw [e _ _ (by omega) (by omega), es 1 i (by decide) (by decide)]; exact (h9 i q).1
  · rw [e _ _ (by omega) (by omega), es 2 i (by decide) (by decide)]; exact (h9 i q).2.1
  · rw [e _ _ (by omega) (by omega), prT_n (by decide) (by decide) (by decide)]; exact (h9 i q).2.2.1
  · rw [eS, hsU_c (t := t) _ fun k _ => prT_n (by decide) (by decide) (by decide), e _ _ (by omega) (by omega)]; exact (h9 i q).2.2.2
  · rw [e _ _ (by omega) (by omega), e _ _ (by omega) (by omega), e _ _ (by omega) (by omega), prT_n (by decide) (by decide) (by decide), prT_n (by decide) (by decide) (by decide), es 5 k (by decide) (by decide)]; exact h10 k (by omega)
  · rw [prT_0 (by decide)] at q
    rw [e _ _ (by omega) (by omega), prT_n (by decide) (by decide) (by decide)]; exact h11 k q
  · rw [prS_7, prS_8, prT_r5, prT_r6]
    by_cases z : p = nP t
    · rw [z, zup_s, zup_s, zup_s, zup_s]; exact ⟨g0, g6, g12, g18⟩
    · rw [zup_n z, zup_n z, zup_n z, zup_n z, e _ _ (by omega) (by omega), e _ _ (by omega) (by omega), e _ _ (by omega) (by omega), e _ _ (by omega) (by omega)]; exact h12 p (by omega)
end MTC
