/-! ===== the class: heat flows ===== -/
section CLB
variable {g : xG} {w w0 : xW} {t s : zS} {d : Nat} {Q : xQ} {lim : Nat × Nat} {k kt : Nat}
/-- cells beside each other: east and west, south and north -/
theorem geo2 (li : LInv t) {c : Int} (hc : 0 ≤ c ∧ c < nC t) : (c % t 0 0 < t 0 0 - 1 → 0 < (c + 1) % t 0 0) ∧ (0 < c % t 0 0 → (c - 1) % t 0 0 < t 0 0 - 1) ∧ (c / t 0 0 < t 0 1 - 1 → 0 < (c + t 0 0) / t 0 0) ∧ (0 < c / t 0 0 → (c - t 0 0) / t 0 0 < t 0 1 - 1) := by
  obtain ⟨hW, -⟩ := geo li hc
  obtain ⟨n1, -⟩ := li_n li
  rw [n1] at hc
  generalize t 0 0 = W at *
  generalize t 0 1 = H at *
  have : W = 1 ∨ W = 2 ∨ W = 3 ∨ W = 4 ∨ W = 5 ∨ W = 6 := by omega
  rcases this with q | q | q | q | q | q <;> subst q <;> omega
theorem wyy_2 (c : Int) : wyy t s c 2 = if c % t 0 0 < t 0 0 - 1 ∧ c + 1 ≠ -1 ∧ s 1 c.toNat = 0 then c + 1 else -1 := by
  have e : nbr t c 2 = if c % t 0 0 < t 0 0 - 1 then c + 1 else -1 := by unfold nbr; rw [if_neg (by decide), if_pos rfl]
  have e2 : wlf t s c 2 = s 1 c.toNat := by unfold wlf; rw [if_neg (by decide), if_pos rfl]
  unfold wyy
  rw [e, e2]
  by_cases a : c % t 0 0 < t 0 0 - 1
  · rw [if_pos a]
    by_cases b : c + 1 = -1
    · rw [if_pos b, if_neg (fun z => z.2.1 b)]
    · rw [if_neg b]
      by_cases e : s 1 c.toNat = 0
      · rw [if_pos e, if_pos ⟨a, b, e⟩]
      · rw [if_neg e, if_neg (fun z => e z.2.2)]
  · rw [if_neg a, if_pos rfl, if_neg (fun z => a z.1)]
theorem wyy_4 (c : Int) : wyy t s c 4 = if 0 < c % t 0 0 ∧ c - 1 ≠ -1 ∧ s 1 (c - 1).toNat = 0 then c - 1 else -1 := by
  have e : nbr t c 4 = if 0 < c % t 0 0 then c - 1 else -1 := by unfold nbr; rw [if_neg (by decide), if_neg (by decide), if_neg (by decide), if_pos rfl]
  have e2 : wlf t s c 4 = s 1 (c - 1).toNat := by unfold wlf; rw [if_neg (by decide), if_neg (by decide), if_neg (by decide), if_pos rfl]
  unfold wyy
  rw [e, e2]
  by_cases a : 0 < c % t 0 0
  · rw [if_pos a]
    by_cases b : c - 1 = -1
    · rw [if_pos b, if_neg (fun z => z.2.1 b)]
    · rw [if_neg b]
      by_cases e : s 1 (c - 1).toNat = 0
      · rw [if_pos e, if_pos ⟨a, b, e⟩]
      · rw [if_neg e, if_neg (fun z => e z.2.2)]
  · rw [if_neg a, if_pos rfl, if_neg (fun z => a z.1)]
theorem wyy_3 (c : Int) : wyy t s c 3 = if c / t 0 0 < t 0 1 - 1 ∧ c + t 0 0 ≠ -1 ∧ s 2 c.toNat = 0 then c + t 0 0 else -1 := by
  have e : nbr t c 3 = if c / t 0 0 < t 0 1 - 1 then c + t 0 0 else -1 := by unfold nbr; rw [if_neg (by decide), if_neg (by decide), if_pos rfl]
  have e2 : wlf t s c 3 = s 2 c.toNat := by unfold wlf; rw [if_neg (by decide), if_neg (by decide), if_pos rfl]
  unfold wyy
  rw [e, e2]
  by_cases a : c / t 0 0 < t 0 1 - 1
  · rw [if_pos a]
    by_cases b : c + t 0 0 = -1
    · rw [if_pos b, if_neg (fun z => z.2.1 b)]
    · rw [if_neg b]
      by_cases e : s 2 c.toNat = 0
      · rw [if_pos e, if_pos ⟨a, b, e⟩]
      · rw [if_neg e, if_neg (fun z => e z.2.2)]
  · rw [if_neg a, if_pos rfl, if_neg (fun z => a z.1)]
theorem wyy_1 (c : Int) : wyy t s c 1 = if 0 < c / t 0 0 ∧ c - t 0 0 ≠ -1 ∧ s 2 (c - t 0 0).toNat = 0 then c - t 0 0 else -1 := by
  have e : nbr t c 1 = if 0 < c / t 0 0 then c - t 0 0 else -1 := by unfold nbr; rw [if_pos rfl]
  have e2 : wlf t s c 1 = s 2 (c - t 0 0).toNat := by unfold wlf; rw [if_pos rfl]
  unfold wyy
  rw [e, e2]
  by_cases a : 0 < c / t 0 0
  · rw [if_pos a]
    by_cases b : c - t 0 0 = -1
    · rw [if_pos b, if_neg (fun z => z.2.1 b)]
    · rw [if_neg b]
      by_cases e : s 2 (c - t 0 0).toNat = 0
      · rw [if_pos e, if_pos ⟨a, b, e⟩]
      · rw [if_neg e, if_neg (fun z => e z.2.2)]
  · rw [if_neg a, if_pos rfl, if_neg (fun z => a z.1)]
theorem td_neg (a b : Int) : (a - b).tdiv 8 = -((b - a).tdiv 8) := by
  rw [← Int.neg_tdiv]; congr 1; omega
theorem fl1_v {c : Nat} {j v : Int} (h : wyy t s c j = v) (hv : v ≠ -1) : fl1 t s c j = (s 0 v.toNat - s 0 c).tdiv 8 := by
  unfold fl1; rw [h, if_neg hv]
theorem fl1_m {c : Nat} {j : Int} (h : wyy t s c j = -1) : fl1 t s c j = 0 := by
  unfold fl1; rw [h, if_pos rfl]
/-- what flows in from the west is what flowed out to the east -/
theorem fl_42 (li : LInv t) {c : Nat} (hc : c + 1 < nC t) : fl1 t s (c + 1) 4 = -(fl1 t s c 2) := by
  obtain ⟨g1, -⟩ := geo2 li (c := c) (by omega)
  obtain ⟨-, g2, -⟩ := geo2 li (c := ((c + 1 : Nat) : Int)) (by omega)
  have e1 := wyy_2 (t := t) (s := s) c
  have e2 := wyy_4 (t := t) (s := s) ((c + 1 : Nat) : Int)
  have hx : ((c + 1 : Nat) : Int) - 1 = (c : Int) := by omega
  rw [hx] at e2 g2
  by_cases q : (c : Int) % t 0 0 < t 0 0 - 1 ∧ (c : Int) + 1 ≠ -1 ∧ s 1 (c : Int).toNat = 0
  · rw [if_pos q] at e1
    rw [if_pos ⟨g1 q.1, by omega, q.2.2⟩] at e2
    rw [fl1_v e1 (by omega), fl1_v e2 (by omega), td_neg, show ((c : Int) + 1).toNat = c + 1 by omega, Int.toNat_natCast]
  · rw [if_neg q] at e1
    rw [if_neg (fun z => q ⟨g2 z.1, by omega, z.2.2⟩)] at e2
    rw [fl1_m e1, fl1_m e2]; rfl
theorem fl_2z (li : LInv t) {c : Nat} (hc : c < nC t) (h : nC t ≤ c + 1) : fl1 t s c 2 = 0 := by
  obtain ⟨-, -, g2, -⟩ := geo li (c := c) (by omega)
  have e1 := wyy_2 (t := t) (s := s) c
  rw [if_neg (fun z => by have := g2 z.1; omega)] at e1
  exact fl1_m e1
theorem fl_4z : fl1 t s 0 4 = 0 := by
  have e1 := wyy_4 (t := t) (s := s) ((0 : Nat) : Int)
  rw [if_neg (fun z => z.2.1 rfl)] at e1
  exact fl1_m e1
theorem fl_13 (li : LInv t) {c W : Nat} (hW : (W : Int) = t 0 0) (hc : c + W < nC t) : fl1 t s (c + W) 1 = -(fl1 t s c 3) := by
  obtain ⟨-, -, g1, -⟩ := geo2 li (c := c) (by omega)
  obtain ⟨-, -, -, g2⟩ := geo2 li (c := ((c + W : Nat) : Int)) (by omega)
  have e1 := wyy_3 (t := t) (s := s) c
  have e2 := wyy_1 (t := t) (s := s) ((c + W : Nat) : Int)
  have hx : ((c + W : Nat) : Int) - t 0 0 = (c : Int) := by omega
  have hy : ((c + W : Nat) : Int) = (c : Int) + t 0 0 := by omega
  rw [hx] at e2 g2
  by_cases q : (c : Int) / t 0 0 < t 0 1 - 1 ∧ (c : Int) + t 0 0 ≠ -1 ∧ s 2 (c : Int).toNat = 0
  · rw [if_pos q] at e1
    rw [if_pos ⟨by rw [hy]; exact g1 q.1, by omega, q.2.2⟩] at e2
    rw [fl1_v e1 (by omega), fl1_v e2 (by omega), td_neg, show ((c : Int) + t 0 0).toNat = c + W by omega, Int.toNat_natCast]
  · rw [if_neg q] at e1
    rw [if_neg (fun z => q ⟨g2 z.1, by omega, z.2.2⟩)] at e2
    rw [fl1_m e1, fl1_m e2]; rfl
theorem fl_3z (li : LInv t) {c W : Nat} (hW : (W : Int) = t 0 0) (hc : c < nC t) (h : nC t ≤ c + W) : fl1 t s c 3 = 0 := by
  obtain ⟨-, -, -, g3, -⟩ := geo li (c := c) (by omega)
  have e1 := wyy_3 (t := t) (s := s) c
  rw [if_neg (fun z => by have := g3 z.1; omega)] at e1
  exact fl1_m e1
theorem fl_1z (li : LInv t) {c W : Nat} (hW : (W : Int) = t 0 0) (hc : c < nC t) (h : c < W) : fl1 t s c 1 = 0 := by
  obtain ⟨-, g1, -⟩ := geo li (c := c) (by omega)
  have e1 := wyy_1 (t := t) (s := s) c
  rw [if_neg (fun z => by have := g1 z.1; omega)] at e1
  exact fl1_m e1
/-- the heats to come, when the cells below i have given to their east and south -/
def nxt (t s : zS) (W i c : Nat) : Int := s 0 c + (if c < i then fl1 t s c 2 + fl1 t s c 3 else 0) + (if c < i + 1 then fl1 t s c 4 else 0) + (if c < i + W then fl1 t s c 1 else 0)
theorem nxt_0 (li : LInv t) {W : Nat} (hW : (W : Int) = t 0 0) {c : Nat} (hc : c < nC t) : nxt t s W 0 c = s 0 c := by
  unfold nxt
  rw [if_neg (by omega)]
  have e4 : (if c < 0 + 1 then fl1 t s c 4 else 0) = 0 := by
    by_cases q : c < 0 + 1
    · rw [if_pos q]
      have : c = 0 := by omega
      subst this; exact fl_4z
    · rw [if_neg q]
  have e1 : (if c < 0 + W then fl1 t s c 1 else 0) = 0 := by
    by_cases q : c < 0 + W
    · rw [if_pos q]; exact fl_1z li hW hc (by omega)
    · rw [if_neg q]
  rw [e4, e1]; omega
theorem nxt_n {W : Nat} {c : Nat} (hc : c < nC t) : nxt t s W (nC t) c = s 0 c + flw t s c := by
  unfold nxt flw
  rw [if_pos hc, if_pos (by omega), if_pos (by omega)]; omega
theorem nxt_b (li : LInv t) (si : SInv t s) {W i c : Nat} (hc : c < nC t) : -1000 ≤ nxt t s W i c ∧ nxt t s W i c ≤ 3000 := by
  have b1 := fl1_b li si hc 1
  have b2 := fl1_b li si hc 2
  have b3 := fl1_b li si hc 3
  have b4 := fl1_b li si hc 4
  have h0 := (si.1 c hc).1
  unfold nxt
  split <;> split <;> split <;> omega
/-- flowBetween: from the heats as they were -/
theorem cl_fb (hS : SG g k) (li : LInv t) (si : SInv t s) (h0 : ∀ c, c < nC t → w (k + 1) c = s 0 c) {c : Nat} (hc : c < nC t) {o : Int} (ho : o = -1 ∨ (0 ≤ o ∧ o < nC t)) (hb : ∀ c, c < nC t → -3000 ≤ w (k + 2) c ∧ w (k + 2) c ≤ 5000) (hQ : ∀ w2, (∀ a j, a ≠ k + 2 → w2 a j = w a j) → (o = -1 → ∀ j, w2 (k + 2) j = w (k + 2) j) → (o ≠ -1 → o ≠ c → ∀ j, w2 (k + 2) j = if j = c then w (k + 2) c + (s 0 o.toNat - s 0 c).tdiv 8 else if j = o.toNat then w (k + 2) j - (s 0 o.toNat - s 0 c).tdiv 8 else w (k + 2) j) → Q none g w2) : cal (d + 1) nSt_flowBetween [xr k, xi c, xi o] g w Q := by
  refine eSt_flowBetween fun lim Q2 h2 => wSt_flowBetween_0 ?_
  have hQ := fun w2 a b e => h2 none g w2 rfl (hQ w2 a b e)
  obtain ⟨n1, n2, -⟩ := li_n li
  refine ⟨fun q => hQ w (fun _ _ _ => rfl) (fun _ _ => rfl) (fun z => absurd q z), fun q => ?_⟩
  have ho : 0 ≤ o ∧ o < nC t := ho.resolve_left q
  have eo : w (k + 1) (Int.toNat o) = s 0 o.toNat := h0 _ (by omega)
  have ec : w (k + 1) (Int.toNat (c : Int)) = s 0 c := by rw [Int.toNat_natCast]; exact h0 _ hc
  have ho0 := (si.1 o.toNat (by omega)).1
  have hc0 := (si.1 c hc).1
  have hbc := hb c hc
  have hbo := hb o.toNat (by omega)
  have ht := z_td (s 0 o.toNat - s 0 c)
  have hG : -130 ≤ (s 0 o.toNat - s 0 c).tdiv 8 ∧ (s 0 o.toNat - s 0 c).tdiv 8 ≤ 130 := by
    rcases Int.lt_or_le (s 0 o.toNat - s 0 c) 0 with z | z
    · have := ht.2 z; omega
    · have := ht.1 z; omega
  simp only [s_o hS, s_p0 hS, s_r0 hS, s_p1 hS, s_r1 hS, s_a1 hS, eo, ec, true_and]
  rw [Int.toNat_natCast]
  generalize (s 0 o.toNat - s 0 c).tdiv 8 = G at *
  refine ⟨by constructor <;> omega, by constructor <;> omega, by constructor <;> omega, ⟨by decide, by constructor <;> omega⟩, by constructor <;> omega, by constructor <;> omega, by constructor <;> omega, wSt_flowBetween_32 ?_⟩
  simp only [s_o hS, s_p1 hS, s_r1 hS, s_a1 hS, true_and]
  have hx : -10000 ≤ xup w (k + 2) c (w (k + 2) c + G) (k + 2) o.toNat ∧ xup w (k + 2) c (w (k + 2) c + G) (k + 2) o.toNat ≤ 10000 := by
    by_cases z : o.toNat = c
    · rw [z, xup_s]; omega
    · rw [xup_k z]; omega
  refine ⟨by constructor <;> omega, by constructor <;> omega, by constructor <;> omega, hQ _ (fun a j z => by rw [xup_a z, xup_a z]) (fun z => absurd z q) (fun _ z j => ?_)⟩
  have hne : o.toNat ≠ c := by omega
  rw [xup_k hne]
  by_cases j1 : j = c
  · subst j1
    rw [if_pos rfl, xup_k (by omega), xup_s]
  · rw [if_neg j1]
    by_cases j2 : j = o.toNat
    · rw [if_pos j2, j2, xup_s]
    · rw [if_neg j2, xup_k j2, xup_k j1]
end CLB
