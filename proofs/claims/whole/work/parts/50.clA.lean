/-! ===== the class: a town and a state in its heap ===== -/
def RCl (t : zS) (k : Nat) (w : xW) : Prop := w k 0 = t 0 0 ∧ w k 1 = t 0 1 ∧ w k 2 = t 0 2 ∧ w k 3 = t 0 3 ∧ w k 4 = t 0 4 ∧ w k 5 = t 0 5 ∧ (∀ c, c < nC t → ∀ d, d < 5 → w (k + 1) (c * 5 + d) = nbr t c d) ∧ (∀ i, i < nC t → w (k + 2) i = t 1 i) ∧ (∀ i : Nat, (i : Int) < t 0 4 → w (k + 3) i = t 2 i) ∧ (∀ i, i < nS t → w (k + 4) i = t 3 i ∧ w (k + 5) i = t 4 i) ∧ ∀ i, i < nP t → w (k + 6) i = t 5 i ∧ w (k + 7) i = t 6 i
/-- walls of a cell, as bits -/
def bw1 (t s : zS) (c d : Int) : Int := if nbr t c d = -1 then 0 else wlf t s c d
def brd (t s : zS) (c : Int) : Int := 2 * bw1 t s c 1 + 4 * bw1 t s c 2 + 8 * bw1 t s c 3 + 16 * bw1 t s c 4
/-- where a row lies in a State -/
def cad (r : Nat) : Nat := ([1, 0, 0, 3, 4, 6, 7, 8, 9, 10, 11, 12, 0][r]?).getD 0
def cix (r i : Nat) : Nat := if r = 12 then ([14, 15, 16, 17, 13][i]?).getD 0 else i
def RCs (t s : zS) (k : Nat) (w : xW) : Prop := (∀ r i, act t r i → r ≠ 1 → r ≠ 2 → w (k + cad r) (cix r i) = s r i) ∧ ∀ c : Nat, c < nC t → w (k + 5) c = brd t s c
def CF (k : Nat) (w w2 : xW) : Prop := ∀ a j, (a < k ∨ k + 12 < a) → w2 a j = w a j
theorem CF.refl {k : Nat} {w : xW} : CF k w w := fun _ _ _ => rfl
theorem CF.trans {k : Nat} {w w2 w3 : xW} (h : CF k w w2) (h2 : CF k w2 w3) : CF k w w3 := fun a j p => (h2 a j p).trans (h a j p)
theorem CF.up {k : Nat} {w : xW} {a j : Nat} {v : Int} (h : k ≤ a) (h2 : a ≤ k + 12) : CF k w (xup w a j v) := fun b i q => xup_a (by omega)
theorem RCl.fr {t : zS} {kt k : Nat} {w w2 : xW} (h : RCl t kt w) (f : CF k w w2) (hd : kt + 7 < k ∨ k + 12 < kt) : RCl t kt w2 := by
  obtain ⟨h1, h2, h3, h4, h5, h6, h7, h8, h9, h10, h11⟩ := h
  have e : ∀ a j, kt ≤ a → a ≤ kt + 7 → w2 a j = w a j := fun a j p q => f a j (by omega)
  refine ⟨by rw [e _ _ (by omega) (by omega), h1], by rw [e _ _ (by omega) (by omega), h2], by rw [e _ _ (by omega) (by omega), h3], by rw [e _ _ (by omega) (by omega), h4], by rw [e _ _ (by omega) (by omega), h5], by rw [e _ _ (by omega) (by omega), h6], fun c hc d hd => ?_, fun i q => ?_, fun i q => ?_, fun i q => ?_, fun i q => ?_⟩
  · rw [e _ _ (by omega) (by omega)]; exact h7 c hc d hd
  · rw [e _ _ (by omega) (by omega)]; exact h8 i q
  · rw [e _ _ (by omega) (by omega)]; exact h9 i q
  · rw [e _ _ (by omega) (by omega), e _ _ (by omega) (by omega)]; exact h10 i q
  · rw [e _ _ (by omega) (by omega), e _ _ (by omega) (by omega)]; exact h11 i q
theorem cad_le : ∀ r, r ≤ 12 → cad r ≤ 12 := by decide
theorem cad_inj0 : ∀ r, r ≤ 12 → ∀ r2, r2 ≤ 12 → (r = 1 ∨ r = 2 ∨ r2 = 1 ∨ r2 = 2) ∨ cad r ≠ cad r2 ∨ r = r2 := by decide
theorem cad_inj (r : Nat) (h : r ≤ 12) (r2 : Nat) (h2 : r2 ≤ 12) (a : r ≠ 1) (b : r ≠ 2) (c : r2 ≠ 1) (e : r2 ≠ 2) (q : cad r = cad r2) : r = r2 := by
  rcases cad_inj0 r h r2 h2 with z | z | z
  · omega
  · exact absurd q z
  · exact z
theorem cad_5 : ∀ r, r ≤ 12 → cad r ≠ 5 := by decide
theorem cix_inj : ∀ i, i < 5 → ∀ j, j < 5 → cix 12 i = cix 12 j → i = j := by decide
theorem brd_c {t s s2 : zS} (h : ∀ i, s2 1 i = s 1 i ∧ s2 2 i = s 2 i) (c : Int) : brd t s2 c = brd t s c := by
  have e : ∀ d, wlf t s2 c d = wlf t s c d := fun d => by
    unfold wlf
    rw [(h _).1, (h _).1, (h _).2, (h _).2]
  unfold brd bw1
  rw [e, e, e, e]
/-- a number is put into a row of a State -/
theorem RCs.put {t s : zS} {k : Nat} {w : xW} (li : LInv t) (h : RCs t s k w) {r i : Nat} (ha : act t r i) (h1 : r ≠ 1) (h2 : r ≠ 2) {v : Int} {a j : Nat} (ea : a = k + cad r) (ej : j = cix r i) : RCs t (zset s r (zup (s r) i v)) k (xup w a j v) := by
  subst ea; subst ej
  obtain ⟨a1, -, -⟩ := act_b li ha
  refine ⟨fun r2 i2 q p1 p2 => ?_, fun c hc => ?_⟩
  · obtain ⟨b1, -, -⟩ := act_b li q
    by_cases hr : r2 = r
    · subst hr
      rw [zset_s]
      by_cases hi : i2 = i
      · subst hi; rw [zup_s, xup_s]
      · rw [zup_n hi, xup_k]
        · exact h.1 r2 i2 q p1 p2
        · intro z
          by_cases h12 : r2 = 12
          · subst h12
            exact hi (cix_inj i2 q i ha z)
          · unfold cix at z
            rw [if_neg h12, if_neg h12] at z
            exact hi z
    · rw [zset_n hr, xup_a]
      · exact h.1 r2 i2 q p1 p2
      · intro z
        exact hr (cad_inj r2 b1 r a1 p1 p2 h1 h2 (by omega))
  · rw [xup_a (by have := cad_5 r a1; omega), h.2 c hc, brd_c]
    intro i
    rw [zset_n (Ne.symm h1), zset_n (Ne.symm h2)]
    exact ⟨rfl, rfl⟩
theorem RCs.to {t s s2 : zS} {k : Nat} {w : xW} (h : RCs t s k w) (e : ∀ r i, act t r i → r ≠ 1 → r ≠ 2 → s2 r i = s r i) (e2 : ∀ i, s2 1 i = s 1 i ∧ s2 2 i = s 2 i) : RCs t s2 k w := ⟨fun r i q p1 p2 => by rw [e r i q p1 p2]; exact h.1 r i q p1 p2, fun c hc => by rw [h.2 c hc, brd_c e2]⟩
/-- what is put is none of the rows' places -/
theorem RCs.oth {t s : zS} {k : Nat} {w : xW} (li : LInv t) (h : RCs t s k w) {a j : Nat} {v : Int} (ha : a = k + 2 ∨ (a = k ∧ j = 12)) : RCs t s k (xup w a j v) := by
  refine ⟨fun r i q p1 p2 => ?_, fun c hc => ?_⟩
  · obtain ⟨b1, -, -⟩ := act_b li q
    rw [← h.1 r i q p1 p2]
    rcases ha with z | z
    · refine xup_a fun y => ?_
      have : cad r = 2 := by omega
      exact absurd this ((by decide : ∀ r, r ≤ 12 → cad r ≠ 2) r b1)
    · by_cases h12 : r = 12
      · subst h12
        refine xup_k ?_
        rw [z.2]
        exact (by decide : ∀ i, i < 5 → cix 12 i ≠ 12) i q
      · refine xup_a fun y => ?_
        have : cad r = 0 := by omega
        exact absurd this ((by decide : ∀ r, r ≤ 12 → r ≠ 1 → r ≠ 2 → r ≠ 12 → cad r ≠ 0) r b1 p1 p2 h12)
  · rw [xup_a (by omega)]; exact h.2 c hc
section CLA
variable {g : xG} {w w0 : xW} {t s : zS} {d : Nat} {Q : xQ} {lim : Nat × Nat} {k kt : Nat}
theorem cl_cells (hT : TG g kt) (hl : RCl t kt w) (li : LInv t) (hQ : Q (some (xi (nC t))) g w) : cal (d + 1) nTw_cells [xr kt] g w Q := by
  refine eTw_cells fun lim Q2 h2 => wTw_cells_0 ?_
  have hQ := h2 _ _ _ rfl hQ
  obtain ⟨n1, n2, -⟩ := li_n li
  simp only [t_o hT, true_and, hl.1, hl.2.1, ← n1]
  exact ⟨by constructor <;> omega, hQ⟩
theorem cl_sunAt (hT : TG g kt) (hl : RCl t kt w) (li : LInv t) {m : Int} (hm : 0 ≤ m ∧ m ≤ 2147483647) (hQ : Q (some (xi (sunv t m))) g w) : cal (d + 1) nTw_sunAt [xr kt, xi m] g w Q := by
  refine eTw_sunAt fun lim Q2 h2 => wTw_sunAt_0 ?_
  have hQ := h2 _ _ _ rfl hQ
  obtain ⟨-, -, -, lh, -, -, ls, -⟩ := li
  have hh : w kt 4 = t 0 4 := hl.2.2.2.2.1
  simp only [t_o hT, t_p8 hT, t_r8 hT, hh, true_and]
  refine ⟨fun h => ?_, fun h => qe hQ ?_⟩
  · rw [Int.tdiv_eq_ediv_of_nonneg hm.1, Int.tdiv_eq_ediv_of_nonneg (by omega), Int.tmod_eq_emod_of_nonneg (by omega)]
    have h1 : 0 ≤ m / 6 % t 0 4 := Int.emod_nonneg _ (by omega)
    have h2 : m / 6 % t 0 4 < t 0 4 := Int.emod_lt_of_pos _ (by omega)
    have h3 : 0 ≤ m / 6 / t 0 4 := Int.ediv_nonneg (by omega) (by omega)
    have h4 : m / 6 / t 0 4 ≤ m / 6 := Int.ediv_le_self _ (by omega)
    refine ⟨⟨by decide, by constructor <;> omega⟩, ⟨by omega, by constructor <;> omega⟩, by constructor <;> omega, qe hQ ?_⟩
    unfold sunv
    rw [if_neg (by omega), hl.2.2.2.2.2.2.2.2.1 _ (by omega)]
  · unfold sunv
    rw [if_pos (by omega)]
theorem z_bits : ∀ n, n < 16 → ∀ d, d < 5 → xAnd (xShr (2 * (n : Nat) : Int) (d : Nat)) 1 = ((if d = 0 then 0 else n / 2 ^ (d - 1) % 2 : Nat) : Int) := by decide +kernel
theorem bw1_01 (si : SInv t s) (c d : Int) : bw1 t s c d = 0 ∨ bw1 t s c d = 1 := by
  unfold bw1
  split
  · exact Or.inl rfl
  · unfold wlf
    split
    · exact (si.2.1 _).2
    · split
      · exact (si.2.1 _).1
      · split
        · exact (si.2.1 _).2
        · split
          · exact (si.2.1 _).1
          · exact Or.inl rfl
/-- a wall's bit -/
theorem brd_bit (si : SInv t s) (c : Int) {d : Nat} (hd : d < 5) : xAnd (xShr (brd t s c) d) 1 = if d = 0 then 0 else bw1 t s c d := by
  have key : ∀ e, ∃ n : Nat, n < 2 ∧ bw1 t s c e = n := fun e => by
    rcases bw1_01 si c e with q | q
    · exact ⟨0, by decide, q⟩
    · exact ⟨1, by decide, q⟩
  obtain ⟨a1, b1, e1⟩ := key 1
  obtain ⟨a2, b2, e2⟩ := key 2
  obtain ⟨a3, b3, e3⟩ := key 3
  obtain ⟨a4, b4, e4⟩ := key 4
  have z := z_bits (a1 + 2 * a2 + 4 * a3 + 8 * a4) (by omega) d hd
  have eb : brd t s c = 2 * ((a1 + 2 * a2 + 4 * a3 + 8 * a4 : Nat) : Int) := by
    unfold brd
    rw [e1, e2, e3, e4]
    omega
  rw [eb, z]
  rcases (by omega : d = 0 ∨ d = 1 ∨ d = 2 ∨ d = 3 ∨ d = 4) with q | q | q | q | q <;> subst q
  · rfl
  · rw [if_neg (by decide), if_neg (by decide), show ((1 : Nat) : Int) = 1 from rfl, e1]
    have : (a1 + 2 * a2 + 4 * a3 + 8 * a4) / 2 ^ (1 - 1) % 2 = a1 := by simp; omega
    rw [this]
  · rw [if_neg (by decide), if_neg (by decide), show ((2 : Nat) : Int) = 2 from rfl, e2]
    have : (a1 + 2 * a2 + 4 * a3 + 8 * a4) / 2 ^ (2 - 1) % 2 = a2 := by simp; omega
    rw [this]
  · rw [if_neg (by decide), if_neg (by decide), show ((3 : Nat) : Int) = 3 from rfl, e3]
    have : (a1 + 2 * a2 + 4 * a3 + 8 * a4) / 2 ^ (3 - 1) % 2 = a3 := by simp; omega
    rw [this]
  · rw [if_neg (by decide), if_neg (by decide), show ((4 : Nat) : Int) = 4 from rfl, e4]
    have : (a1 + 2 * a2 + 4 * a3 + 8 * a4) / 2 ^ (4 - 1) % 2 = a4 := by simp; omega
    rw [this]
theorem cl_reach (hS : SG g k) (hT : TG g kt) (hl : RCl t kt w) (hs : RCs t s k w) (li : LInv t) (si : SInv t s) {c : Nat} (hc : c < nC t) {e : Nat} (he : e < 5) (hQ : Q (some (xi (wyy t s c e))) g w) : cal (d + 1) nSt_reach [xr k, xr kt, xi c, xi e] g w Q := by
  refine eSt_reach fun lim Q2 h2 => wSt_reach_0 ?_
  have hQ := h2 _ _ _ rfl hQ
  obtain ⟨n1, n2, -⟩ := li_n li
  have eb : w (k + 5) (Int.toNat (c : Int)) = brd t s c := by rw [Int.toNat_natCast]; exact hs.2 c hc
  have en : w (kt + 1) (Int.toNat ((c : Int) * 5 + e)) = nbr t c e := by
    rw [show Int.toNat ((c : Int) * 5 + e) = c * 5 + e by omega]; exact hl.2.2.2.2.2.2.1 c hc e he
  simp only [s_o hS, s_p4 hS, s_r4 hS, t_o hT, t_p6 hT, t_r6 hT, eb, en, brd_bit si c he, true_and]
  refine ⟨by constructor <;> omega, fun q => ⟨by constructor <;> omega, by constructor <;> omega, by constructor <;> omega, qe hQ ?_⟩, fun q => qe hQ ?_⟩
  · unfold wyy
    by_cases z : nbr t c e = -1
    · rw [if_pos z, z]
    · rw [if_neg z]
      have : wlf t s c e = 0 := by
        by_cases e0 : e = 0
        · subst e0; rfl
        · rw [if_neg e0] at q
          unfold bw1 at q
          rw [if_neg z] at q
          exact q
      rw [if_pos this]
  · by_cases e0 : e = 0
    · rw [if_pos e0] at q; exact absurd rfl q
    · rw [if_neg e0] at q
      unfold bw1 at q
      unfold wyy
      by_cases z : nbr t c e = -1
      · rw [if_pos z] at q; exact absurd rfl q
      · rw [if_neg z] at q
        rw [if_neg z, if_neg q]
end CLA
