/-! ===== states copied ===== -/
section CPY
variable {g : xG} {w w0 w2 : xW} {t s : zS} {d : Nat} {Q : xQ} {lim : Nat × Nat} {k kt ka kb : Nat} {S : Nat → Nat → Prop}
def Cp (ka kb : Nat) (S : Nat → Nat → Prop) (w w2 : xW) : Prop := CF ka w w2 ∧ ∀ o j, o ≤ 12 → S o j → w2 (ka + o) j = w (kb + o) j
theorem Cp.cp (hd : ka + 12 < kb ∨ kb + 12 < ka) (h : Cp ka kb S w w2) {o n : Nat} (ho : o ≤ 12) : Cp ka kb (fun p j => S p j ∨ (p = o ∧ j < n)) w (xcp w2 (kb + o) 0 (ka + o) 0 n) := by
  refine ⟨fun a j q => ?_, fun p j hp q => ?_⟩
  · rw [xcp_o (by omega)]; exact h.1 a j q
  · by_cases e : p = o ∧ j < n
    · rw [e.1, xcp_i e.2]; exact h.1 _ _ (by omega)
    · have q := q.resolve_right e
      unfold xcp
      rw [if_neg (fun z => e ⟨by omega, by omega⟩)]
      exact h.2 p j hp q
theorem Cp.up (hd : ka + 12 < kb ∨ kb + 12 < ka) (h : Cp ka kb S w w2) {f : Nat} : Cp ka kb (fun p j => S p j ∨ (p = 0 ∧ j = f)) w (xup w2 ka f (w2 kb f)) := by
  refine ⟨h.1.trans (CF.up (by omega) (by omega)), fun p j hp q => ?_⟩
  by_cases e : p = 0 ∧ j = f
  · rw [e.1, e.2]
    show xup w2 ka f (w2 kb f) ka f = w kb f
    rw [xup_s]; exact h.1 _ _ (by omega)
  · have q := q.resolve_right e
    by_cases e0 : p = 0
    · subst e0
      rw [show ka + 0 = ka from rfl, xup_k (fun z => e ⟨rfl, z⟩)]
      exact h.2 0 j hp q
    · rw [xup_a (by omega)]; exact h.2 p j hp q
theorem act_n (li : LInv t) {r i : Nat} (h : act t r i) : r ≤ 12 ∧ i < 20 ∧ ((r = 5 ∨ r = 6) → i < 4) ∧ ((7 ≤ r ∧ r ≤ 11) → i < 6) ∧ (r = 12 → i < 5) := by
  obtain ⟨n1, n2, n3, n4, n5, n6⟩ := li_n li
  match r, h with
  | 0, h | 1, h | 2, h | 3, h | 4, h => have h : i < 20 := (by first | exact h | exact Nat.lt_of_lt_of_le (show i < nC t from h) n2); omega
  | 5, h | 6, h => have h : i < nS t := h; omega
  | 7, h | 8, h | 9, h | 10, h | 11, h => have h : i < nP t := h; omega
  | 12, h => have h : i < 5 := h; omega
theorem cl_copy (hA : SG g ka) (hB : SG g kb) (hd : ka + 12 < kb ∨ kb + 12 < ka) (hs : RCs t s kb w) (li : LInv t) (hQ : ∀ w2, CF ka w w2 → RCs t s ka w2 → Q none g w2) : cal (d + 1) nSt_copyFrom [xr ka, xr kb] g w Q := by
  refine eSt_copyFrom fun lim Q2 h2 => wSt_copyFrom_0 ?_
  have hQ := fun w2 a b => h2 none g w2 rfl (hQ w2 a b)
  simp only [s_o hA, s_o hB, s_p0 hA, s_p0 hB, s_p2 hA, s_p2 hB, s_p3 hA, s_p3 hB, s_p4 hA, s_p4 hB, s_p5 hA, s_p5 hB, s_p6 hA, s_p6 hB, s_p7 hA, s_p7 hB, s_p8 hA, s_p8 hB, s_p9 hA, s_p9 hB, s_p10 hA, s_p10 hB, s_p11 hA, s_p11 hB, true_and]
  have co : ∀ {a : Nat} {n : Nat}, xIs g a (1, n) → xCo g a 0 n := fun h => ⟨_, h, by omega, by omega, by omega⟩
  refine ⟨⟨co (s_i0 hB), co (s_i0 hA)⟩, ⟨co (s_i2 hB), co (s_i2 hA)⟩, ⟨co (s_i3 hB), co (s_i3 hA)⟩, ⟨co (s_i4 hB), co (s_i4 hA)⟩, ⟨co (s_i5 hB), co (s_i5 hA)⟩, ⟨co (s_i6 hB), co (s_i6 hA)⟩, ⟨co (s_i7 hB), co (s_i7 hA)⟩, ⟨co (s_i8 hB), co (s_i8 hA)⟩, ⟨co (s_i9 hB), co (s_i9 hA)⟩, ⟨co (s_i10 hB), co (s_i10 hA)⟩, ⟨co (s_i11 hB), co (s_i11 hA)⟩, ?_⟩
  have c0 : Cp ka kb (fun _ _ => False) w w := ⟨CF.refl, fun _ _ _ h => h.elim⟩
  have c1 := Cp.up hd (f := 13) (Cp.cp hd (o := 12) (n := 6) (Cp.cp hd (o := 11) (n := 6) (Cp.cp hd (o := 10) (n := 6) (Cp.cp hd (o := 9) (n := 6) (Cp.cp hd (o := 8) (n := 6) (Cp.cp hd (o := 7) (n := 4) (Cp.cp hd (o := 6) (n := 4) (Cp.cp hd (o := 5) (n := 20) (Cp.cp hd (o := 4) (n := 20) (Cp.cp hd (o := 3) (n := 20) (Cp.cp hd (o := 1) (n := 20) c0 (by decide)) (by decide)) (by decide)) (by decide)) (by decide)) (by decide)) (by decide)) (by decide)) (by decide)) (by decide)) (by decide))
  refine wSt_copyFrom_171 ⟨s_o hB, s_o hA, ?_⟩
  refine wSt_copyFrom_179 ⟨s_o hB, s_o hA, ?_⟩
  refine wSt_copyFrom_187 ⟨s_o hB, s_o hA, ?_⟩
  refine wSt_copyFrom_195 ⟨s_o hB, s_o hA, ?_⟩
  have c2 := Cp.up hd (f := 17) (Cp.up hd (f := 16) (Cp.up hd (f := 15) (Cp.up hd (f := 14) c1)))
  refine hQ _ c2.1 ⟨fun r i q p1 p2 => ?_, fun c hc => ?_⟩
  · obtain ⟨b1, b2, b3, b4, b5⟩ := act_n li q
    refine (c2.2 (cad r) (cix r i) (cad_le r b1) ?_).trans (hs.1 r i q p1 p2)
    match r, b1, p1, p2 with
    | 0, _, _, _ | 3, _, _, _ | 4, _, _, _ | 5, _, _, _ | 6, _, _, _ | 7, _, _, _ | 8, _, _, _ | 9, _, _, _ | 10, _, _, _ | 11, _, _, _ => simp [cad, cix]; omega
    | 12, _, _, _ =>
      have : i < 5 := b5 rfl
      match i, this with
      | 0, _ | 1, _ | 2, _ | 3, _ | 4, _ => simp [cad, cix]
    | 1, _, p, _ => exact absurd rfl p
    | 2, _, _, p => exact absurd rfl p
  · obtain ⟨n1, n2, -⟩ := li_n li
    exact (c2.2 5 c (by decide) (by simp; omega)).trans (hs.2 c hc)
/-! the reference: a state put aside and fetched back -/
def RMa (t s : zS) (a b : Nat) (w : xW) : Prop := ∀ r i, act t r i → w a (b + (off r + i)) = s r i
theorem act_off (li : LInv t) {r i : Nat} (h : act t r i) : off r + i < 143 := by
  obtain ⟨b1, b2, b3, b4, b5⟩ := act_n li h
  match r, b1 with
  | 0, _ | 1, _ | 2, _ | 3, _ | 4, _ | 5, _ | 6, _ | 7, _ | 8, _ | 9, _ | 10, _ | 11, _ | 12, _ => simp [off]; omega
theorem mo_start1 (hM : MG g) (hk : ∀ w, (∀ a j, a ≠ 197 → w a j = w0 a j) → (∀ j, j < 143 → w 197 j = w0 194 j) → Q none g w) : ∀ (n i : Nat) (w : xW), i + n = 143 → (∀ a j, a ≠ 197 → w a j = w0 a j) → (∀ j, j < i → w 197 j = w0 194 j) → aMo_start d lim Q 2 [xr 193, xi i] [] g w
  | 0, i, w, hi, hf, hj => by
    have hi : i = 143 := by omega
    subst hi
    refine wMo_start_2 ?_
    simp only [m_o hM, true_and]
    exact ⟨fun _ => hk w hf hj, fun h => by omega⟩
  | n + 1, i, w, hi, hf, hj => by
    refine wMo_start_2 ?_
    simp only [m_o hM, m_p0 hM, m_r0 hM, m_p3 hM, m_a3 hM, true_and]
    refine ⟨fun h => by omega, fun _ => ⟨by constructor <;> omega, by constructor <;> omega, by constructor <;> omega, ?_⟩⟩
    rw [show ((i : Int) + 1) = ((i + 1 : Nat) : Int) by omega, Int.toNat_natCast]
    refine mo_start1 hM hk n (i + 1) _ (by omega) (fun a j q => by rw [xup_a q]; exact hf a j q) fun j q => ?_
    by_cases z : j = i
    · subst z; rw [xup_s]; exact hf 194 j (by decide)
    · rw [xup_k z]; exact hj j (by omega)
theorem mo_start (hM : MG g) (hQ : ∀ w2, (∀ a j, a ≠ 197 → w2 a j = w a j) → (∀ j, j < 143 → w2 197 j = w 194 j) → Q none g w2) : cal (d + 1) nMo_start [xr 193] g w Q := by
  refine eMo_start fun lim Q2 h2 => wMo_start_0 ?_
  exact mo_start1 hM (fun w2 a b => h2 _ _ _ rfl (hQ w2 a b)) 143 0 w rfl (fun _ _ _ => rfl) fun j q => by omega
theorem mo_back1 (hM : MG g) (hk : ∀ w, (∀ a j, a ≠ 194 → w a j = w0 a j) → (∀ j, j < 143 → w 194 j = w0 197 j) → Q none g w) : ∀ (n i : Nat) (w : xW), i + n = 143 → (∀ a j, a ≠ 194 → w a j = w0 a j) → (∀ j, j < i → w 194 j = w0 197 j) → aMo_back d lim Q 2 [xr 193, xi i] [] g w
  | 0, i, w, hi, hf, hj => by
    have hi : i = 143 := by omega
    subst hi
    refine wMo_back_2 ?_
    simp only [m_o hM, true_and]
    exact ⟨fun _ => hk w hf hj, fun h => by omega⟩
  | n + 1, i, w, hi, hf, hj => by
    refine wMo_back_2 ?_
    simp only [m_o hM, m_p0 hM, m_a0 hM, m_p3 hM, m_r3 hM, true_and]
    refine ⟨fun h => by omega, fun _ => ⟨by constructor <;> omega, by constructor <;> omega, by constructor <;> omega, ?_⟩⟩
    rw [show ((i : Int) + 1) = ((i + 1 : Nat) : Int) by omega, Int.toNat_natCast]
    refine mo_back1 hM hk n (i + 1) _ (by omega) (fun a j q => by rw [xup_a q]; exact hf a j q) fun j q => ?_
    by_cases z : j = i
    · subst z; rw [xup_s]; exact hf 197 j (by decide)
    · rw [xup_k z]; exact hj j (by omega)
theorem mo_back (hM : MG g) (hQ : ∀ w2, (∀ a j, a ≠ 194 → w2 a j = w a j) → (∀ j, j < 143 → w2 194 j = w 197 j) → Q none g w2) : cal (d + 1) nMo_back [xr 193] g w Q := by
  refine eMo_back fun lim Q2 h2 => wMo_back_0 ?_
  exact mo_back1 hM (fun w2 a b => h2 _ _ _ rfl (hQ w2 a b)) 143 0 w rfl (fun _ _ _ => rfl) fun j q => by omega
end CPY
