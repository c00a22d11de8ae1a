/-! ===== printed by wip/gen/graph.py: the shape of the heap, as rewriting rows: _o the object, _p a field's cell, _r _a _b places that may be read, put ===== -/
theorem xAr_1 {g : xG} {a n : Nat} (h : xIs g a (1, n)) (i : Int) : xAr g a i ↔ (0 ≤ i ∧ i < (n : Int)) := by
  refine ⟨fun ⟨m, hm, h1, h2⟩ => ?_, fun q => ⟨n, Or.inl h, q⟩⟩
  have e : m = n := by
    rcases hm with z | z
    · have := z.2.symm.trans h.2; cases this; rfl
    · have := z.2.symm.trans h.2; cases this
  subst e; exact ⟨h1, h2⟩
theorem xA1_1 {g : xG} {a n : Nat} (h : xIs g a (1, n)) (i : Int) : xA1 g a i ↔ (0 ≤ i ∧ i < (n : Int)) := by
  refine ⟨fun ⟨m, hm, h1, h2⟩ => ?_, fun q => ⟨n, h, q⟩⟩
  have := hm.2.symm.trans h.2; cases this; exact ⟨h1, h2⟩
theorem xA2_1 {g : xG} {a n : Nat} (h : xIs g a (2, n)) (i : Int) : xA2 g a i ↔ (0 ≤ i ∧ i < (n : Int)) := by
  refine ⟨fun ⟨m, hm, h1, h2⟩ => ?_, fun q => ⟨n, h, q⟩⟩
  have := hm.2.symm.trans h.2; cases this; exact ⟨h1, h2⟩
theorem xA3_1 {g : xG} {a n : Nat} (h : xIs g a (3, n)) (i : Int) : xA3 g a i ↔ (0 ≤ i ∧ i < (n : Int)) := by
  refine ⟨fun ⟨m, hm, h1, h2⟩ => ?_, fun q => ⟨n, h, q⟩⟩
  have := hm.2.symm.trans h.2; cases this; exact ⟨h1, h2⟩
theorem xCo_1 {g : xG} {a n : Nat} (h : xIs g a (1, n)) (i l : Int) : xCo g a i l ↔ (0 ≤ i ∧ 0 ≤ l ∧ i + l ≤ (n : Int)) := by
  refine ⟨fun ⟨m, hm, h1, h2⟩ => ?_, fun q => ⟨n, h, q⟩⟩
  have := hm.2.symm.trans h.2; cases this; exact ⟨h1, h2⟩
theorem xAl_1 {g : xG} {a k n : Nat} (h : xIs g a (k + 1, n)) (hk : k < 4) (hn : n < 2147483648) : xAl g a := ⟨k, n, h, hk, hn⟩
theorem xlen_1 {g : xG} {a : Nat} {q : Nat × Nat} (h : xIs g a q) : xlen g a = q.2 := by unfold xlen; rw [h.2]; rfl
def SG (g : xG) (k : Nat) : Prop := xIs g k (0, 3) ∧
  g.2 k 0 = k + 1 ∧
  xIs g (k + 1) (1, 20) ∧
  g.2 k 1 = k + 2 ∧
  xIs g (k + 2) (1, 20) ∧
  g.2 k 2 = k + 3 ∧
  xIs g (k + 3) (1, 20) ∧
  g.2 k 3 = k + 4 ∧
  xIs g (k + 4) (1, 20) ∧
  g.2 k 4 = k + 5 ∧
  xIs g (k + 5) (1, 20) ∧
  g.2 k 5 = k + 6 ∧
  xIs g (k + 6) (1, 4) ∧
  g.2 k 6 = k + 7 ∧
  xIs g (k + 7) (1, 4) ∧
  g.2 k 7 = k + 8 ∧
  xIs g (k + 8) (1, 6) ∧
  g.2 k 8 = k + 9 ∧
  xIs g (k + 9) (1, 6) ∧
  g.2 k 9 = k + 10 ∧
  xIs g (k + 10) (1, 6) ∧
  g.2 k 10 = k + 11 ∧
  xIs g (k + 11) (1, 6) ∧
  g.2 k 11 = k + 12 ∧
  xIs g (k + 12) (1, 6)
theorem s_o {g : xG} {k : Nat} (h : SG g k ) : xIs g k (0, 3) := h.1
theorem s_p0 {g : xG} {k : Nat} (h : SG g k ) : g.2 k 0 = k + 1 := h.2.1
theorem s_i0 {g : xG} {k : Nat} (h : SG g k ) : xIs g (k + 1) (1, 20) := h.2.2.1
theorem s_p1 {g : xG} {k : Nat} (h : SG g k ) : g.2 k 1 = k + 2 := h.2.2.2.1
theorem s_i1 {g : xG} {k : Nat} (h : SG g k ) : xIs g (k + 2) (1, 20) := h.2.2.2.2.1
theorem s_p2 {g : xG} {k : Nat} (h : SG g k ) : g.2 k 2 = k + 3 := h.2.2.2.2.2.1
theorem s_i2 {g : xG} {k : Nat} (h : SG g k ) : xIs g (k + 3) (1, 20) := h.2.2.2.2.2.2.1
theorem s_p3 {g : xG} {k : Nat} (h : SG g k ) : g.2 k 3 = k + 4 := h.2.2.2.2.2.2.2.1
theorem s_i3 {g : xG} {k : Nat} (h : SG g k ) : xIs g (k + 4) (1, 20) := h.2.2.2.2.2.2.2.2.1
theorem s_p4 {g : xG} {k : Nat} (h : SG g k ) : g.2 k 4 = k + 5 := h.2.2.2.2.2.2.2.2.2.1
theorem s_i4 {g : xG} {k : Nat} (h : SG g k ) : xIs g (k + 5) (1, 20) := h.2.2.2.2.2.2.2.2.2.2.1
theorem s_p5 {g : xG} {k : Nat} (h : SG g k ) : g.2 k 5 = k + 6 := h.2.2.2.2.2.2.2.2.2.2.2.1
theorem s_i5 {g : xG} {k : Nat} (h : SG g k ) : xIs g (k + 6) (1, 4) := h.2.2.2.2.2.2.2.2.2.2.2.2.1
theorem s_p6 {g : xG} {k : Nat} (h : SG g k ) : g.2 k 6 = k + 7 := h.2.2.2.2.2.2.2.2.2.2.2.2.2.1
theorem s_i6 {g : xG} {k : Nat} (h : SG g k ) : xIs g (k + 7) (1, 4) := h.2.2.2.2.2.2.2.2.2.2.2.2.2.2.1
theorem s_p7 {g : xG} {k : Nat} (h : SG g k ) : g.2 k 7 = k + 8 := h.2.2.2.2.2.2.2.2.2.2.2.2.2.2.2.1
theorem s_i7 {g : xG} {k : Nat} (h : SG g k ) : xIs g (k + 8) (1, 6) := h.2.2.2.2.2.2.2.2.2.2.2.2.2.2.2.2.1
theorem s_p8 {g : xG} {k : Nat} (h : SG g k ) : g.2 k 8 = k + 9 := h.2.2.2.2.2.2.2.2.2.2.2.2.2.2.2.2.2.1
theorem s_i8 {g : xG} {k : Nat} (h : SG g k ) : xIs g (k + 9) (1, 6) := h.2.2.2.2.2.2.2.2.2.2.2.2.2.2.2.2.2.2.1
theorem s_p9 {g : xG} {k : Nat} (h : SG g k ) : g.2 k 9 = k + 10 := h.2.2.2.2.2.2.2.2.2.2.2.2.2.2.2.2.2.2.2.1
theorem s_i9 {g : xG} {k : Nat} (h : SG g k ) : xIs g (k + 10) (1, 6) := h.2.2.2.2.2.2.2.2.2.2.2.2.2.2.2.2.2.2.2.2.1
theorem s_p10 {g : xG} {k : Nat} (h : SG g k ) : g.2 k 10 = k + 11 := h.2.2.2.2.2.2.2.2.2.2.2.2.2.2.2.2.2.2.2.2.2.1
theorem s_i10 {g : xG} {k : Nat} (h : SG g k ) : xIs g (k + 11) (1, 6) := h.2.2.2.2.2.2.2.2.2.2.2.2.2.2.2.2.2.2.2.2.2.2.1
theorem s_p11 {g : xG} {k : Nat} (h : SG g k ) : g.2 k 11 = k + 12 := h.2.2.2.2.2.2.2.2.2.2.2.2.2.2.2.2.2.2.2.2.2.2.2.1
theorem s_i11 {g : xG} {k : Nat} (h : SG g k ) : xIs g (k + 12) (1, 6) := h.2.2.2.2.2.2.2.2.2.2.2.2.2.2.2.2.2.2.2.2.2.2.2.2
theorem s_r0 {g : xG} {k : Nat} (h : SG g k ) (i : Int) : xAr g (k + 1) i ↔ (0 ≤ i ∧ i < 20) := xAr_1 (s_i0 h) i
theorem s_a0 {g : xG} {k : Nat} (h : SG g k ) (i : Int) : xA1 g (k + 1) i ↔ (0 ≤ i ∧ i < 20) := xA1_1 (s_i0 h) i
theorem s_r1 {g : xG} {k : Nat} (h : SG g k ) (i : Int) : xAr g (k + 2) i ↔ (0 ≤ i ∧ i < 20) := xAr_1 (s_i1 h) i
theorem s_a1 {g : xG} {k : Nat} (h : SG g k ) (i : Int) : xA1 g (k + 2) i ↔ (0 ≤ i ∧ i < 20) := xA1_1 (s_i1 h) i
theorem s_r2 {g : xG} {k : Nat} (h : SG g k ) (i : Int) : xAr g (k + 3) i ↔ (0 ≤ i ∧ i < 20) := xAr_1 (s_i2 h) i
theorem s_a2 {g : xG} {k : Nat} (h : SG g k ) (i : Int) : xA1 g (k + 3) i ↔ (0 ≤ i ∧ i < 20) := xA1_1 (s_i2 h) i
theorem s_r3 {g : xG} {k : Nat} (h : SG g k ) (i : Int) : xAr g (k + 4) i ↔ (0 ≤ i ∧ i < 20) := xAr_1 (s_i3 h) i
theorem s_a3 {g : xG} {k : Nat} (h : SG g k ) (i : Int) : xA1 g (k + 4) i ↔ (0 ≤ i ∧ i < 20) := xA1_1 (s_i3 h) i
theorem s_r4 {g : xG} {k : Nat} (h : SG g k ) (i : Int) : xAr g (k + 5) i ↔ (0 ≤ i ∧ i < 20) := xAr_1 (s_i4 h) i
theorem s_a4 {g : xG} {k : Nat} (h : SG g k ) (i : Int) : xA1 g (k + 5) i ↔ (0 ≤ i ∧ i < 20) := xA1_1 (s_i4 h) i
theorem s_r5 {g : xG} {k : Nat} (h : SG g k ) (i : Int) : xAr g (k + 6) i ↔ (0 ≤ i ∧ i < 4) := xAr_1 (s_i5 h) i
theorem s_a5 {g : xG} {k : Nat} (h : SG g k ) (i : Int) : xA1 g (k + 6) i ↔ (0 ≤ i ∧ i < 4) := xA1_1 (s_i5 h) i
theorem s_r6 {g : xG} {k : Nat} (h : SG g k ) (i : Int) : xAr g (k + 7) i ↔ (0 ≤ i ∧ i < 4) := xAr_1 (s_i6 h) i
theorem s_a6 {g : xG} {k : Nat} (h : SG g k ) (i : Int) : xA1 g (k + 7) i ↔ (0 ≤ i ∧ i < 4) := xA1_1 (s_i6 h) i
theorem s_r7 {g : xG} {k : Nat} (h : SG g k ) (i : Int) : xAr g (k + 8) i ↔ (0 ≤ i ∧ i < 6) := xAr_1 (s_i7 h) i
theorem s_a7 {g : xG} {k : Nat} (h : SG g k ) (i : Int) : xA1 g (k + 8) i ↔ (0 ≤ i ∧ i < 6) := xA1_1 (s_i7 h) i
theorem s_r8 {g : xG} {k : Nat} (h : SG g k ) (i : Int) : xAr g (k + 9) i ↔ (0 ≤ i ∧ i < 6) := xAr_1 (s_i8 h) i
theorem s_a8 {g : xG} {k : Nat} (h : SG g k ) (i : Int) : xA1 g (k + 9) i ↔ (0 ≤ i ∧ i < 6) := xA1_1 (s_i8 h) i
theorem s_r9 {g : xG} {k : Nat} (h : SG g k ) (i : Int) : xAr g (k + 10) i ↔ (0 ≤ i ∧ i < 6) := xAr_1 (s_i9 h) i
theorem s_a9 {g : xG} {k : Nat} (h : SG g k ) (i : Int) : xA1 g (k + 10) i ↔ (0 ≤ i ∧ i < 6) := xA1_1 (s_i9 h) i
theorem s_r10 {g : xG} {k : Nat} (h : SG g k ) (i : Int) : xAr g (k + 11) i ↔ (0 ≤ i ∧ i < 6) := xAr_1 (s_i10 h) i
theorem s_a10 {g : xG} {k : Nat} (h : SG g k ) (i : Int) : xA1 g (k + 11) i ↔ (0 ≤ i ∧ i < 6) := xA1_1 (s_i10 h) i
theorem s_r11 {g : xG} {k : Nat} (h : SG g k ) (i : Int) : xAr g (k + 12) i ↔ (0 ≤ i ∧ i < 6) := xAr_1 (s_i11 h) i
theorem s_a11 {g : xG} {k : Nat} (h : SG g k ) (i : Int) : xA1 g (k + 12) i ↔ (0 ≤ i ∧ i < 6) := xA1_1 (s_i11 h) i
def TG (g : xG) (k : Nat) : Prop := xIs g k (0, 5) ∧
  g.2 k 6 = k + 1 ∧
  xIs g (k + 1) (1, 100) ∧
  g.2 k 7 = k + 2 ∧
  xIs g (k + 2) (1, 20) ∧
  g.2 k 8 = k + 3 ∧
  xIs g (k + 3) (1, 8) ∧
  g.2 k 9 = k + 4 ∧
  xIs g (k + 4) (1, 4) ∧
  g.2 k 10 = k + 5 ∧
  xIs g (k + 5) (1, 4) ∧
  g.2 k 11 = k + 6 ∧
  xIs g (k + 6) (1, 6) ∧
  g.2 k 12 = k + 7 ∧
  xIs g (k + 7) (1, 6)
theorem t_o {g : xG} {k : Nat} (h : TG g k ) : xIs g k (0, 5) := h.1
theorem t_p6 {g : xG} {k : Nat} (h : TG g k ) : g.2 k 6 = k + 1 := h.2.1
theorem t_i6 {g : xG} {k : Nat} (h : TG g k ) : xIs g (k + 1) (1, 100) := h.2.2.1
theorem t_p7 {g : xG} {k : Nat} (h : TG g k ) : g.2 k 7 = k + 2 := h.2.2.2.1
theorem t_i7 {g : xG} {k : Nat} (h : TG g k ) : xIs g (k + 2) (1, 20) := h.2.2.2.2.1
theorem t_p8 {g : xG} {k : Nat} (h : TG g k ) : g.2 k 8 = k + 3 := h.2.2.2.2.2.1
theorem t_i8 {g : xG} {k : Nat} (h : TG g k ) : xIs g (k + 3) (1, 8) := h.2.2.2.2.2.2.1
theorem t_p9 {g : xG} {k : Nat} (h : TG g k ) : g.2 k 9 = k + 4 := h.2.2.2.2.2.2.2.1
theorem t_i9 {g : xG} {k : Nat} (h : TG g k ) : xIs g (k + 4) (1, 4) := h.2.2.2.2.2.2.2.2.1
theorem t_p10 {g : xG} {k : Nat} (h : TG g k ) : g.2 k 10 = k + 5 := h.2.2.2.2.2.2.2.2.2.1
theorem t_i10 {g : xG} {k : Nat} (h : TG g k ) : xIs g (k + 5) (1, 4) := h.2.2.2.2.2.2.2.2.2.2.1
theorem t_p11 {g : xG} {k : Nat} (h : TG g k ) : g.2 k 11 = k + 6 := h.2.2.2.2.2.2.2.2.2.2.2.1
theorem t_i11 {g : xG} {k : Nat} (h : TG g k ) : xIs g (k + 6) (1, 6) := h.2.2.2.2.2.2.2.2.2.2.2.2.1
theorem t_p12 {g : xG} {k : Nat} (h : TG g k ) : g.2 k 12 = k + 7 := h.2.2.2.2.2.2.2.2.2.2.2.2.2.1
theorem t_i12 {g : xG} {k : Nat} (h : TG g k ) : xIs g (k + 7) (1, 6) := h.2.2.2.2.2.2.2.2.2.2.2.2.2.2
theorem t_r6 {g : xG} {k : Nat} (h : TG g k ) (i : Int) : xAr g (k + 1) i ↔ (0 ≤ i ∧ i < 100) := xAr_1 (t_i6 h) i
theorem t_a6 {g : xG} {k : Nat} (h : TG g k ) (i : Int) : xA1 g (k + 1) i ↔ (0 ≤ i ∧ i < 100) := xA1_1 (t_i6 h) i
theorem t_r7 {g : xG} {k : Nat} (h : TG g k ) (i : Int) : xAr g (k + 2) i ↔ (0 ≤ i ∧ i < 20) := xAr_1 (t_i7 h) i
theorem t_a7 {g : xG} {k : Nat} (h : TG g k ) (i : Int) : xA1 g (k + 2) i ↔ (0 ≤ i ∧ i < 20) := xA1_1 (t_i7 h) i
theorem t_r8 {g : xG} {k : Nat} (h : TG g k ) (i : Int) : xAr g (k + 3) i ↔ (0 ≤ i ∧ i < 8) := xAr_1 (t_i8 h) i
theorem t_a8 {g : xG} {k : Nat} (h : TG g k ) (i : Int) : xA1 g (k + 3) i ↔ (0 ≤ i ∧ i < 8) := xA1_1 (t_i8 h) i
theorem t_r9 {g : xG} {k : Nat} (h : TG g k ) (i : Int) : xAr g (k + 4) i ↔ (0 ≤ i ∧ i < 4) := xAr_1 (t_i9 h) i
theorem t_a9 {g : xG} {k : Nat} (h : TG g k ) (i : Int) : xA1 g (k + 4) i ↔ (0 ≤ i ∧ i < 4) := xA1_1 (t_i9 h) i
theorem t_r10 {g : xG} {k : Nat} (h : TG g k ) (i : Int) : xAr g (k + 5) i ↔ (0 ≤ i ∧ i < 4) := xAr_1 (t_i10 h) i
theorem t_a10 {g : xG} {k : Nat} (h : TG g k ) (i : Int) : xA1 g (k + 5) i ↔ (0 ≤ i ∧ i < 4) := xA1_1 (t_i10 h) i
theorem t_r11 {g : xG} {k : Nat} (h : TG g k ) (i : Int) : xAr g (k + 6) i ↔ (0 ≤ i ∧ i < 6) := xAr_1 (t_i11 h) i
theorem t_a11 {g : xG} {k : Nat} (h : TG g k ) (i : Int) : xA1 g (k + 6) i ↔ (0 ≤ i ∧ i < 6) := xA1_1 (t_i11 h) i
theorem t_r12 {g : xG} {k : Nat} (h : TG g k ) (i : Int) : xAr g (k + 7) i ↔ (0 ≤ i ∧ i < 6) := xAr_1 (t_i12 h) i
theorem t_a12 {g : xG} {k : Nat} (h : TG g k ) (i : Int) : xA1 g (k + 7) i ↔ (0 ≤ i ∧ i < 6) := xA1_1 (t_i12 h) i
def MG (g : xG) : Prop := xIs g 193 (0, 7) ∧
  g.2 193 0 = 194 ∧
  xIs g (194) (1, 143) ∧
  g.2 193 1 = 195 ∧
  xIs g (195) (1, 286) ∧
  g.2 193 2 = 196 ∧
  xIs g (196) (2, 2) ∧
  g.2 193 3 = 197 ∧
  xIs g (197) (1, 143) ∧
  g.2 193 6 = 198 ∧
  xIs g (198) (2, 20) ∧
  g.2 193 9 = 199 ∧
  xIs g (199) (1, 4) ∧
  g.2 193 10 = 200 ∧
  xIs g (200) (1, 4) ∧
  g.2 193 12 = 201 ∧
  xIs g (201) (1, 8) ∧
  g.2 193 14 = 202 ∧
  xIs g (202) (1, 6) ∧
  g.2 193 15 = 203 ∧
  xIs g (203) (1, 6) ∧
  g.2 193 17 = 204 ∧
  xIs g (204) (1, 12) ∧
  g.2 193 18 = 205 ∧
  xIs g (205) (1, 12) ∧
  g.2 193 19 = 206 ∧
  xIs g (206) (1, 12) ∧
  g.2 193 21 = 207 ∧
  xIs g (207) (1, 8) ∧
  g.2 193 22 = 208 ∧
  xIs g (208) (1, 8) ∧
  g.2 193 23 = 209 ∧
  xIs g (209) (1, 8) ∧
  g.2 193 24 = 210 ∧
  xIs g (210) (1, 260) ∧
  g.2 193 36 = 211 ∧
  xIs g (211) (1, 40) ∧
  g.2 193 38 = 212 ∧
  xIs g (212) (2, 20) ∧
  g.2 193 41 = 213 ∧
  xIs g (213) (1, 12) ∧
  g.2 193 42 = 214 ∧
  xIs g (214) (2, 20) ∧
  g.2 193 44 = 215 ∧
  xIs g (215) (1, 8) ∧
  g.2 193 46 = 216 ∧
  xIs g (216) (1, 24) ∧
  g.2 193 48 = 217 ∧
  xIs g (217) (1, 20) ∧
  g.2 193 51 = 218 ∧
  xIs g (218) (1, 6)
theorem m_o {g : xG} (h : MG g ) : xIs g 193 (0, 7) := h.1
theorem m_p0 {g : xG} (h : MG g ) : g.2 193 0 = 194 := h.2.1
theorem m_i0 {g : xG} (h : MG g ) : xIs g (194) (1, 143) := h.2.2.1
theorem m_p1 {g : xG} (h : MG g ) : g.2 193 1 = 195 := h.2.2.2.1
theorem m_i1 {g : xG} (h : MG g ) : xIs g (195) (1, 286) := h.2.2.2.2.1
theorem m_p2 {g : xG} (h : MG g ) : g.2 193 2 = 196 := h.2.2.2.2.2.1
theorem m_i2 {g : xG} (h : MG g ) : xIs g (196) (2, 2) := h.2.2.2.2.2.2.1
theorem m_p3 {g : xG} (h : MG g ) : g.2 193 3 = 197 := h.2.2.2.2.2.2.2.1
theorem m_i3 {g : xG} (h : MG g ) : xIs g (197) (1, 143) := h.2.2.2.2.2.2.2.2.1
theorem m_p6 {g : xG} (h : MG g ) : g.2 193 6 = 198 := h.2.2.2.2.2.2.2.2.2.1
theorem m_i6 {g : xG} (h : MG g ) : xIs g (198) (2, 20) := h.2.2.2.2.2.2.2.2.2.2.1
theorem m_p9 {g : xG} (h : MG g ) : g.2 193 9 = 199 := h.2.2.2.2.2.2.2.2.2.2.2.1
theorem m_i9 {g : xG} (h : MG g ) : xIs g (199) (1, 4) := h.2.2.2.2.2.2.2.2.2.2.2.2.1
theorem m_p10 {g : xG} (h : MG g ) : g.2 193 10 = 200 := h.2.2.2.2.2.2.2.2.2.2.2.2.2.1
theorem m_i10 {g : xG} (h : MG g ) : xIs g (200) (1, 4) := h.2.2.2.2.2.2.2.2.2.2.2.2.2.2.1
theorem m_p12 {g : xG} (h : MG g ) : g.2 193 12 = 201 := h.2.2.2.2.2.2.2.2.2.2.2.2.2.2.2.1
theorem m_i12 {g : xG} (h : MG g ) : xIs g (201) (1, 8) := h.2.2.2.2.2.2.2.2.2.2.2.2.2.2.2.2.1
theorem m_p14 {g : xG} (h : MG g ) : g.2 193 14 = 202 := h.2.2.2.2.2.2.2.2.2.2.2.2.2.2.2.2.2.1
theorem m_i14 {g : xG} (h : MG g ) : xIs g (202) (1, 6) := h.2.2.2.2.2.2.2.2.2.2.2.2.2.2.2.2.2.2.1
theorem m_p15 {g : xG} (h : MG g ) : g.2 193 15 = 203 := h.2.2.2.2.2.2.2.2.2.2.2.2.2.2.2.2.2.2.2.1
theorem m_i15 {g : xG} (h : MG g ) : xIs g (203) (1, 6) := h.2.2.2.2.2.2.2.2.2.2.2.2.2.2.2.2.2.2.2.2.1
theorem m_p17 {g : xG} (h : MG g ) : g.2 193 17 = 204 := h.2.2.2.2.2.2.2.2.2.2.2.2.2.2.2.2.2.2.2.2.2.1
theorem m_i17 {g : xG} (h : MG g ) : xIs g (204) (1, 12) := h.2.2.2.2.2.2.2.2.2.2.2.2.2.2.2.2.2.2.2.2.2.2.1
theorem m_p18 {g : xG} (h : MG g ) : g.2 193 18 = 205 := h.2.2.2.2.2.2.2.2.2.2.2.2.2.2.2.2.2.2.2.2.2.2.2.1
theorem m_i18 {g : xG} (h : MG g ) : xIs g (205) (1, 12) := h.2.2.2.2.2.2.2.2.2.2.2.2.2.2.2.2.2.2.2.2.2.2.2.2.1
theorem m_p19 {g : xG} (h : MG g ) : g.2 193 19 = 206 := h.2.2.2.2.2.2.2.2.2.2.2.2.2.2.2.2.2.2.2.2.2.2.2.2.2.1
theorem m_i19 {g : xG} (h : MG g ) : xIs g (206) (1, 12) := h.2.2.2.2.2.2.2.2.2.2.2.2.2.2.2.2.2.2.2.2.2.2.2.2.2.2.1
theorem m_p21 {g : xG} (h : MG g ) : g.2 193 21 = 207 := h.2.2.2.2.2.2.2.2.2.2.2.2.2.2.2.2.2.2.2.2.2.2.2.2.2.2.2.1
theorem m_i21 {g : xG} (h : MG g ) : xIs g (207) (1, 8) := h.2.2.2.2.2.2.2.2.2.2.2.2.2.2.2.2.2.2.2.2.2.2.2.2.2.2.2.2.1
theorem m_p22 {g : xG} (h : MG g ) : g.2 193 22 = 208 := h.2.2.2.2.2.2.2.2.2.2.2.2.2.2.2.2.2.2.2.2.2.2.2.2.2.2.2.2.2.1
theorem m_i22 {g : xG} (h : MG g ) : xIs g (208) (1, 8) := h.2.2.2.2.2.2.2.2.2.2.2.2.2.2.2.2.2.2.2.2.2.2.2.2.2.2.2.2.2.2.1
theorem m_p23 {g : xG} (h : MG g ) : g.2 193 23 = 209 := h.2.2.2.2.2.2.2.2.2.2.2.2.2.2.2.2.2.2.2.2.2.2.2.2.2.2.2.2.2.2.2.1
theorem m_i23 {g : xG} (h : MG g ) : xIs g (209) (1, 8) := h.2.2.2.2.2.2.2.2.2.2.2.2.2.2.2.2.2.2.2.2.2.2.2.2.2.2.2.2.2.2.2.2.1
theorem m_p24 {g : xG} (h : MG g ) : g.2 193 24 = 210 := h.2.2.2.2.2.2.2.2.2.2.2.2.2.2.2.2.2.2.2.2.2.2.2.2.2.2.2.2.2.2.2.2.2.1
theorem m_i24 {g : xG} (h : MG g ) : xIs g (210) (1, 260) := h.2.2.2.2.2.2.2.2.2.2.2.2.2.2.2.2.2.2.2.2.2.2.2.2.2.2.2.2.2.2.2.2.2.2.1
theorem m_p36 {g : xG} (h : MG g ) : g.2 193 36 = 211 := h.2.2.2.2.2.2.2.2.2.2.2.2.2.2.2.2.2.2.2.2.2.2.2.2.2.2.2.2.2.2.2.2.2.2.2.1
theorem m_i36 {g : xG} (h : MG g ) : xIs g (211) (1, 40) := h.2.2.2.2.2.2.2.2.2.2.2.2.2.2.2.2.2.2.2.2.2.2.2.2.2.2.2.2.2.2.2.2.2.2.2.2.1
theorem m_p38 {g : xG} (h : MG g ) : g.2 193 38 = 212 := h.2.2.2.2.2.2.2.2.2.2.2.2.2.2.2.2.2.2.2.2.2.2.2.2.2.2.2.2.2.2.2.2.2.2.2.2.2.1
theorem m_i38 {g : xG} (h : MG g ) : xIs g (212) (2, 20) := h.2.2.2.2.2.2.2.2.2.2.2.2.2.2.2.2.2.2.2.2.2.2.2.2.2.2.2.2.2.2.2.2.2.2.2.2.2.2.1
theorem m_p41 {g : xG} (h : MG g ) : g.2 193 41 = 213 := h.2.2.2.2.2.2.2.2.2.2.2.2.2.2.2.2.2.2.2.2.2.2.2.2.2.2.2.2.2.2.2.2.2.2.2.2.2.2.2.1
theorem m_i41 {g : xG} (h : MG g ) : xIs g (213) (1, 12) := h.2.2.2.2.2.2.2.2.2.2.2.2.2.2.2.2.2.2.2.2.2.2.2.2.2.2.2.2.2.2.2.2.2.2.2.2.2.2.2.2.1
theorem m_p42 {g : xG} (h : MG g ) : g.2 193 42 = 214 := h.2.2.2.2.2.2.2.2.2.2.2.2.2.2.2.2.2.2.2.2.2.2.2.2.2.2.2.2.2.2.2.2.2.2.2.2.2.2.2.2.2.1
theorem m_i42 {g : xG} (h : MG g ) : xIs g (214) (2, 20) := h.2.2.2.2.2.2.2.2.2.2.2.2.2.2.2.2.2.2.2.2.2.2.2.2.2.2.2.2.2.2.2.2.2.2.2.2.2.2.2.2.2.2.1
theorem m_p44 {g : xG} (h : MG g ) : g.2 193 44 = 215 := h.2.2.2.2.2.2.2.2.2.2.2.2.2.2.2.2.2.2.2.2.2.2.2.2.2.2.2.2.2.2.2.2.2.2.2.2.2.2.2.2.2.2.2.1
theorem m_i44 {g : xG} (h : MG g ) : xIs g (215) (1, 8) := h.2.2.2.2.2.2.2.2.2.2.2.2.2.2.2.2.2.2.2.2.2.2.2.2.2.2.2.2.2.2.2.2.2.2.2.2.2.2.2.2.2.2.2.2.1
theorem m_p46 {g : xG} (h : MG g ) : g.2 193 46 = 216 := h.2.2.2.2.2.2.2.2.2.2.2.2.2.2.2.2.2.2.2.2.2.2.2.2.2.2.2.2.2.2.2.2.2.2.2.2.2.2.2.2.2.2.2.2.2.1
theorem m_i46 {g : xG} (h : MG g ) : xIs g (216) (1, 24) := h.2.2.2.2.2.2.2.2.2.2.2.2.2.2.2.2.2.2.2.2.2.2.2.2.2.2.2.2.2.2.2.2.2.2.2.2.2.2.2.2.2.2.2.2.2.2.1
theorem m_p48 {g : xG} (h : MG g ) : g.2 193 48 = 217 := h.2.2.2.2.2.2.2.2.2.2.2.2.2.2.2.2.2.2.2.2.2.2.2.2.2.2.2.2.2.2.2.2.2.2.2.2.2.2.2.2.2.2.2.2.2.2.2.1
theorem m_i48 {g : xG} (h : MG g ) : xIs g (217) (1, 20) := h.2.2.2.2.2.2.2.2.2.2.2.2.2.2.2.2.2.2.2.2.2.2.2.2.2.2.2.2.2.2.2.2.2.2.2.2.2.2.2.2.2.2.2.2.2.2.2.2.1
theorem m_p51 {g : xG} (h : MG g ) : g.2 193 51 = 218 := h.2.2.2.2.2.2.2.2.2.2.2.2.2.2.2.2.2.2.2.2.2.2.2.2.2.2.2.2.2.2.2.2.2.2.2.2.2.2.2.2.2.2.2.2.2.2.2.2.2.1
theorem m_i51 {g : xG} (h : MG g ) : xIs g (218) (1, 6) := h.2.2.2.2.2.2.2.2.2.2.2.2.2.2.2.2.2.2.2.2.2.2.2.2.2.2.2.2.2.2.2.2.2.2.2.2.2.2.2.2.2.2.2.2.2.2.2.2.2.2
theorem m_r0 {g : xG} (h : MG g ) (i : Int) : xAr g 194 i ↔ (0 ≤ i ∧ i < 143) := xAr_1 (m_i0 h) i
theorem m_a0 {g : xG} (h : MG g ) (i : Int) : xA1 g 194 i ↔ (0 ≤ i ∧ i < 143) := xA1_1 (m_i0 h) i
theorem m_r1 {g : xG} (h : MG g ) (i : Int) : xAr g 195 i ↔ (0 ≤ i ∧ i < 286) := xAr_1 (m_i1 h) i
theorem m_a1 {g : xG} (h : MG g ) (i : Int) : xA1 g 195 i ↔ (0 ≤ i ∧ i < 286) := xA1_1 (m_i1 h) i
theorem m_b2 {g : xG} (h : MG g ) (i : Int) : xA2 g 196 i ↔ (0 ≤ i ∧ i < 2) := xA2_1 (m_i2 h) i
theorem m_r3 {g : xG} (h : MG g ) (i : Int) : xAr g 197 i ↔ (0 ≤ i ∧ i < 143) := xAr_1 (m_i3 h) i
theorem m_a3 {g : xG} (h : MG g ) (i : Int) : xA1 g 197 i ↔ (0 ≤ i ∧ i < 143) := xA1_1 (m_i3 h) i
theorem m_b6 {g : xG} (h : MG g ) (i : Int) : xA2 g 198 i ↔ (0 ≤ i ∧ i < 20) := xA2_1 (m_i6 h) i
theorem m_r9 {g : xG} (h : MG g ) (i : Int) : xAr g 199 i ↔ (0 ≤ i ∧ i < 4) := xAr_1 (m_i9 h) i
theorem m_a9 {g : xG} (h : MG g ) (i : Int) : xA1 g 199 i ↔ (0 ≤ i ∧ i < 4) := xA1_1 (m_i9 h) i
theorem m_r10 {g : xG} (h : MG g ) (i : Int) : xAr g 200 i ↔ (0 ≤ i ∧ i < 4) := xAr_1 (m_i10 h) i
theorem m_a10 {g : xG} (h : MG g ) (i : Int) : xA1 g 200 i ↔ (0 ≤ i ∧ i < 4) := xA1_1 (m_i10 h) i
theorem m_r12 {g : xG} (h : MG g ) (i : Int) : xAr g 201 i ↔ (0 ≤ i ∧ i < 8) := xAr_1 (m_i12 h) i
theorem m_a12 {g : xG} (h : MG g ) (i : Int) : xA1 g 201 i ↔ (0 ≤ i ∧ i < 8) := xA1_1 (m_i12 h) i
theorem m_r14 {g : xG} (h : MG g ) (i : Int) : xAr g 202 i ↔ (0 ≤ i ∧ i < 6) := xAr_1 (m_i14 h) i
theorem m_a14 {g : xG} (h : MG g ) (i : Int) : xA1 g 202 i ↔ (0 ≤ i ∧ i < 6) := xA1_1 (m_i14 h) i
theorem m_r15 {g : xG} (h : MG g ) (i : Int) : xAr g 203 i ↔ (0 ≤ i ∧ i < 6) := xAr_1 (m_i15 h) i
theorem m_a15 {g : xG} (h : MG g ) (i : Int) : xA1 g 203 i ↔ (0 ≤ i ∧ i < 6) := xA1_1 (m_i15 h) i
theorem m_r17 {g : xG} (h : MG g ) (i : Int) : xAr g 204 i ↔ (0 ≤ i ∧ i < 12) := xAr_1 (m_i17 h) i
theorem m_a17 {g : xG} (h : MG g ) (i : Int) : xA1 g 204 i ↔ (0 ≤ i ∧ i < 12) := xA1_1 (m_i17 h) i
theorem m_r18 {g : xG} (h : MG g ) (i : Int) : xAr g 205 i ↔ (0 ≤ i ∧ i < 12) := xAr_1 (m_i18 h) i
theorem m_a18 {g : xG} (h : MG g ) (i : Int) : xA1 g 205 i ↔ (0 ≤ i ∧ i < 12) := xA1_1 (m_i18 h) i
theorem m_r19 {g : xG} (h : MG g ) (i : Int) : xAr g 206 i ↔ (0 ≤ i ∧ i < 12) := xAr_1 (m_i19 h) i
theorem m_a19 {g : xG} (h : MG g ) (i : Int) : xA1 g 206 i ↔ (0 ≤ i ∧ i < 12) := xA1_1 (m_i19 h) i
theorem m_r21 {g : xG} (h : MG g ) (i : Int) : xAr g 207 i ↔ (0 ≤ i ∧ i < 8) := xAr_1 (m_i21 h) i
theorem m_a21 {g : xG} (h : MG g ) (i : Int) : xA1 g 207 i ↔ (0 ≤ i ∧ i < 8) := xA1_1 (m_i21 h) i
theorem m_r22 {g : xG} (h : MG g ) (i : Int) : xAr g 208 i ↔ (0 ≤ i ∧ i < 8) := xAr_1 (m_i22 h) i
theorem m_a22 {g : xG} (h : MG g ) (i : Int) : xA1 g 208 i ↔ (0 ≤ i ∧ i < 8) := xA1_1 (m_i22 h) i
theorem m_r23 {g : xG} (h : MG g ) (i : Int) : xAr g 209 i ↔ (0 ≤ i ∧ i < 8) := xAr_1 (m_i23 h) i
theorem m_a23 {g : xG} (h : MG g ) (i : Int) : xA1 g 209 i ↔ (0 ≤ i ∧ i < 8) := xA1_1 (m_i23 h) i
theorem m_r24 {g : xG} (h : MG g ) (i : Int) : xAr g 210 i ↔ (0 ≤ i ∧ i < 260) := xAr_1 (m_i24 h) i
theorem m_a24 {g : xG} (h : MG g ) (i : Int) : xA1 g 210 i ↔ (0 ≤ i ∧ i < 260) := xA1_1 (m_i24 h) i
theorem m_r36 {g : xG} (h : MG g ) (i : Int) : xAr g 211 i ↔ (0 ≤ i ∧ i < 40) := xAr_1 (m_i36 h) i
theorem m_a36 {g : xG} (h : MG g ) (i : Int) : xA1 g 211 i ↔ (0 ≤ i ∧ i < 40) := xA1_1 (m_i36 h) i
theorem m_b38 {g : xG} (h : MG g ) (i : Int) : xA2 g 212 i ↔ (0 ≤ i ∧ i < 20) := xA2_1 (m_i38 h) i
theorem m_r41 {g : xG} (h : MG g ) (i : Int) : xAr g 213 i ↔ (0 ≤ i ∧ i < 12) := xAr_1 (m_i41 h) i
theorem m_a41 {g : xG} (h : MG g ) (i : Int) : xA1 g 213 i ↔ (0 ≤ i ∧ i < 12) := xA1_1 (m_i41 h) i
theorem m_b42 {g : xG} (h : MG g ) (i : Int) : xA2 g 214 i ↔ (0 ≤ i ∧ i < 20) := xA2_1 (m_i42 h) i
theorem m_r44 {g : xG} (h : MG g ) (i : Int) : xAr g 215 i ↔ (0 ≤ i ∧ i < 8) := xAr_1 (m_i44 h) i
theorem m_a44 {g : xG} (h : MG g ) (i : Int) : xA1 g 215 i ↔ (0 ≤ i ∧ i < 8) := xA1_1 (m_i44 h) i
theorem m_r46 {g : xG} (h : MG g ) (i : Int) : xAr g 216 i ↔ (0 ≤ i ∧ i < 24) := xAr_1 (m_i46 h) i
theorem m_a46 {g : xG} (h : MG g ) (i : Int) : xA1 g 216 i ↔ (0 ≤ i ∧ i < 24) := xA1_1 (m_i46 h) i
theorem m_r48 {g : xG} (h : MG g ) (i : Int) : xAr g 217 i ↔ (0 ≤ i ∧ i < 20) := xAr_1 (m_i48 h) i
theorem m_a48 {g : xG} (h : MG g ) (i : Int) : xA1 g 217 i ↔ (0 ≤ i ∧ i < 20) := xA1_1 (m_i48 h) i
theorem m_r51 {g : xG} (h : MG g ) (i : Int) : xAr g 218 i ↔ (0 ≤ i ∧ i < 6) := xAr_1 (m_i51 h) i
theorem m_a51 {g : xG} (h : MG g ) (i : Int) : xA1 g 218 i ↔ (0 ≤ i ∧ i < 6) := xA1_1 (m_i51 h) i
def RG (g : xG) : Prop := xIs g 3 (0, 2) ∧
  g.2 3 0 = 4 ∧
  xIs g (4) (1, 260)
theorem r_o {g : xG} (h : RG g ) : xIs g 3 (0, 2) := h.1
theorem r_p0 {g : xG} (h : RG g ) : g.2 3 0 = 4 := h.2.1
theorem r_i0 {g : xG} (h : RG g ) : xIs g (4) (1, 260) := h.2.2
theorem r_r0 {g : xG} (h : RG g ) (i : Int) : xAr g 4 i ↔ (0 ≤ i ∧ i < 260) := xAr_1 (r_i0 h) i
theorem r_a0 {g : xG} (h : RG g ) (i : Int) : xA1 g 4 i ↔ (0 ≤ i ∧ i < 260) := xA1_1 (r_i0 h) i
def PG12 (g : xG) (k : Nat) : Prop := xIs g k (0, 1) ∧
  g.2 k 0 = k + 1 ∧
  xIs g (k + 1) (1, 12) ∧
  g.2 k 1 = k + 2 ∧
  xIs g (k + 2) (1, 12) ∧
  g.2 k 2 = k + 3 ∧
  xIs g (k + 3) (1, 12)
theorem p12_o {g : xG} {k : Nat} (h : PG12 g k ) : xIs g k (0, 1) := h.1
theorem p12_p0 {g : xG} {k : Nat} (h : PG12 g k ) : g.2 k 0 = k + 1 := h.2.1
theorem p12_i0 {g : xG} {k : Nat} (h : PG12 g k ) : xIs g (k + 1) (1, 12) := h.2.2.1
theorem p12_p1 {g : xG} {k : Nat} (h : PG12 g k ) : g.2 k 1 = k + 2 := h.2.2.2.1
theorem p12_i1 {g : xG} {k : Nat} (h : PG12 g k ) : xIs g (k + 2) (1, 12) := h.2.2.2.2.1
theorem p12_p2 {g : xG} {k : Nat} (h : PG12 g k ) : g.2 k 2 = k + 3 := h.2.2.2.2.2.1
theorem p12_i2 {g : xG} {k : Nat} (h : PG12 g k ) : xIs g (k + 3) (1, 12) := h.2.2.2.2.2.2
theorem p12_r0 {g : xG} {k : Nat} (h : PG12 g k ) (i : Int) : xAr g (k + 1) i ↔ (0 ≤ i ∧ i < 12) := xAr_1 (p12_i0 h) i
theorem p12_a0 {g : xG} {k : Nat} (h : PG12 g k ) (i : Int) : xA1 g (k + 1) i ↔ (0 ≤ i ∧ i < 12) := xA1_1 (p12_i0 h) i
theorem p12_r1 {g : xG} {k : Nat} (h : PG12 g k ) (i : Int) : xAr g (k + 2) i ↔ (0 ≤ i ∧ i < 12) := xAr_1 (p12_i1 h) i
theorem p12_a1 {g : xG} {k : Nat} (h : PG12 g k ) (i : Int) : xA1 g (k + 2) i ↔ (0 ≤ i ∧ i < 12) := xA1_1 (p12_i1 h) i
theorem p12_r2 {g : xG} {k : Nat} (h : PG12 g k ) (i : Int) : xAr g (k + 3) i ↔ (0 ≤ i ∧ i < 12) := xAr_1 (p12_i2 h) i
theorem p12_a2 {g : xG} {k : Nat} (h : PG12 g k ) (i : Int) : xA1 g (k + 3) i ↔ (0 ≤ i ∧ i < 12) := xA1_1 (p12_i2 h) i
def PG8 (g : xG) (k : Nat) : Prop := xIs g k (0, 1) ∧
  g.2 k 0 = k + 1 ∧
  xIs g (k + 1) (1, 8) ∧
  g.2 k 1 = k + 2 ∧
  xIs g (k + 2) (1, 8) ∧
  g.2 k 2 = k + 3 ∧
  xIs g (k + 3) (1, 8)
theorem p8_o {g : xG} {k : Nat} (h : PG8 g k ) : xIs g k (0, 1) := h.1
theorem p8_p0 {g : xG} {k : Nat} (h : PG8 g k ) : g.2 k 0 = k + 1 := h.2.1
theorem p8_i0 {g : xG} {k : Nat} (h : PG8 g k ) : xIs g (k + 1) (1, 8) := h.2.2.1
theorem p8_p1 {g : xG} {k : Nat} (h : PG8 g k ) : g.2 k 1 = k + 2 := h.2.2.2.1
theorem p8_i1 {g : xG} {k : Nat} (h : PG8 g k ) : xIs g (k + 2) (1, 8) := h.2.2.2.2.1
theorem p8_p2 {g : xG} {k : Nat} (h : PG8 g k ) : g.2 k 2 = k + 3 := h.2.2.2.2.2.1
theorem p8_i2 {g : xG} {k : Nat} (h : PG8 g k ) : xIs g (k + 3) (1, 8) := h.2.2.2.2.2.2
theorem p8_r0 {g : xG} {k : Nat} (h : PG8 g k ) (i : Int) : xAr g (k + 1) i ↔ (0 ≤ i ∧ i < 8) := xAr_1 (p8_i0 h) i
theorem p8_a0 {g : xG} {k : Nat} (h : PG8 g k ) (i : Int) : xA1 g (k + 1) i ↔ (0 ≤ i ∧ i < 8) := xA1_1 (p8_i0 h) i
theorem p8_r1 {g : xG} {k : Nat} (h : PG8 g k ) (i : Int) : xAr g (k + 2) i ↔ (0 ≤ i ∧ i < 8) := xAr_1 (p8_i1 h) i
theorem p8_a1 {g : xG} {k : Nat} (h : PG8 g k ) (i : Int) : xA1 g (k + 2) i ↔ (0 ≤ i ∧ i < 8) := xA1_1 (p8_i1 h) i
theorem p8_r2 {g : xG} {k : Nat} (h : PG8 g k ) (i : Int) : xAr g (k + 3) i ↔ (0 ≤ i ∧ i < 8) := xAr_1 (p8_i2 h) i
theorem p8_a2 {g : xG} {k : Nat} (h : PG8 g k ) (i : Int) : xA1 g (k + 3) i ↔ (0 ≤ i ∧ i < 8) := xA1_1 (p8_i2 h) i
