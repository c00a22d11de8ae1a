/-! ===== printed by wip/gen/mkloop.py: the law's loop ===== -/
section LWA
variable {X X2 : zX} {g g2 : xG} {w w0 w2 w3 : xW} {d L : Nat} {Q : xQ} {lim : Nat × Nat} {kl kn kl2 kn2 : Nat} {k : Int}
theorem CK.fr (h : CK X kl kn kn2 w) (F : FG g kl kn kl2 kn2) (li : LInv (X 0)) (f : ∀ a j, a < 193 → w2 a j = w a j) : CK X kl kn kn2 w2 := by
  have a := f_hl F
  have b := f_hn F
  obtain ⟨h1, h2, h3, h4, h5, ⟨h6, h7⟩, h8, h9⟩ := h
  refine ⟨h1.e fun a j p q => f a j (by omega), h2.e li fun a j p q => f a j (by omega), h3.e fun a j p q => f a j (by omega), h4.e fun a j p q => f a j (by omega), fun i hi => ⟨(f _ _ (by omega)).trans (h5 i hi).1, fun z => ((h5 i hi).2 z).e li fun a j p q => f a j (by omega)⟩, ⟨(f _ _ (by omega)).trans h6, fun j hj => (f _ _ (by omega)).trans (h7 j hj)⟩, (f _ _ (by omega)).trans h8, by rw [f _ _ (by omega)]; exact h9⟩
theorem CW.fr (h : CW X g w) (li : LInv (X 0)) (f : ∀ a j, a < 193 → w2 a j = w a j) : CW X g w2 := by
  obtain ⟨kl, kn, kl2, kn2, F, T, K, hk⟩ := h
  exact ⟨kl, kn, kl2, kn2, F, T, K, hk.fr F li f⟩
theorem MK.fr (h : MK X w) (f : ∀ a j, 193 ≤ a → w2 a j = w a j) : MK X w2 := by
  obtain ⟨h1, h2, h3, h4, h5, h6, ⟨h7, h8⟩, h9⟩ := h
  refine ⟨h1.e fun a j q => f a j (by omega), fun r i q => (f _ _ (by omega)).trans (h2 r i q), (f _ _ (by omega)).trans h3, h4.e (f _ _ (by omega)) fun b j p q => f b j (by omega), h5.e (f _ _ (by omega)) fun b j p q => f b j (by omega), fun i hi => ⟨(f _ _ (by omega)).trans (h6 i hi).1, fun z r j q => (f _ _ (by omega)).trans ((h6 i hi).2 z r j q)⟩, ⟨(f _ _ (by omega)).trans h7, fun j hj => (f _ _ (by omega)).trans (h8 j hj)⟩, (f _ _ (by omega)).trans h9⟩
def LW (L : Nat) (w0 : xW) (X : zX) (g : xG) (w : xW) : Prop := xIs g 1 (4, L) ∧ L ≤ 384 ∧ (∀ j, w 1 j = w0 1 j) ∧ (∀ j, x32 (w0 1 j)) ∧ CW X g w ∧ MG g ∧ MK X w ∧ XI X
theorem LW.ar (h : LW L w0 X g w) {i : Int} (h1 : 0 ≤ i) (h2 : i < L) : xAr g 1 i := ⟨L, Or.inr h.1, h1, h2⟩
theorem LW.o (h : LW L w0 X g w) : xIs g 2 (0, 6) := by
  obtain ⟨kl, kn, kl2, kn2, F, -⟩ := h.2.2.2.2.1
  exact f_o F
theorem LW.v (h : LW L w0 X g w) {j : Nat} : w 1 j ≤ 2147483647 := by rw [h.2.2.1]; exact (h.2.2.2.1 j).2
theorem lw_fin (h : LW L w0 X g w) (e1 : g2.1 = g.1) (e2 : ∀ a j, a ≠ 2 → a ≠ 3 → a ≠ 41 → g2.2 a j = g.2 a j) (f1 : ∀ a j, (a < 2 ∨ 193 ≤ a) → w2 a j = w a j) (c2 : CW X2 g2 w2) (xi2 : XI X2) (f3 : ∀ a j, a < 193 → w3 a j = w2 a j) (k3 : MK X2 w3) : LW L w0 X2 g2 w3 := by
  obtain ⟨h1, h2, h3, h4, h5, h6, h7, h8⟩ := h
  exact ⟨(xIs_g e1).2 h1, h2, fun j => by rw [f3 1 j (by decide), f1 1 j (Or.inl (by decide))]; exact h3 j, h4, c2.fr xi2.1 f3, h6.gg e1 (fun j => e2 193 j (by decide) (by decide) (by decide)), k3, xi2⟩
def LNx (L : Nat) (w0 : xW) (d : Nat) (lim : Nat × Nat) (Q : xQ) (k : Int) : Prop := ∀ X2 g2 w2, LW L w0 X2 g2 w2 → aLw_law d lim Q 18 [xr 1, xr 2, xr 193, xi (k + 6)] [] g2 w2
theorem lw_176 (h : LW L w0 X g w) (hk : 0 ≤ k ∧ k + 6 ≤ L) (go : LNx L w0 (d + 20) lim Q k) : aLw_law (d + 20) lim Q 176 [xr 1, xr 2, xr 193, xi k] [] g w := by
  have h2 := h.2.1
  have h5 := h.2.2.2.2.1
  have h6 := h.2.2.2.2.2.1
  have h7 := h.2.2.2.2.2.2.1
  have h8 := h.2.2.2.2.2.2.2
  refine wLw_law_176 ⟨by constructor <;> omega, h.ar (by omega) (by omega), h.o, C_Feed h5 h8 fun g2 w2 e1 e2 f1 c2 => ⟨_, rfl, ?_⟩⟩
  have r : ∀ i, xIs g2 1 i ↔ xIs g 1 i := fun i => xIs_g e1
  have ar : ∀ {i : Int}, 0 ≤ i → i < L → xAr g2 1 i := fun p q => ⟨L, Or.inr ((r _).2 h.1), p, q⟩
  have m2 : MG g2 := h6.gg e1 (fun j => e2 193 j (by decide) (by decide) (by decide))
  have k2 := h7.fr (fun a j q => f1 a j (Or.inr q))
  have v : ∀ j, w2 1 j = w 1 j := fun j => f1 1 j (Or.inl (by decide))
  try simp only [v]
  exact ⟨by constructor <;> omega, ar (by omega) (by omega), m_o m2, M_Feed m2 k2 h8 fun w3 f3 k3 => ⟨_, rfl, fun _ => ⟨by constructor <;> omega, go _ _ _ (lw_fin h e1 e2 f1 c2 (I_Feed h8) f3 k3)⟩, fun z => absurd rfl z⟩⟩
theorem lw_199 (h : LW L w0 X g w) (hk : 0 ≤ k ∧ k + 6 ≤ L) (go : LNx L w0 (d + 20) lim Q k) : aLw_law (d + 20) lim Q 199 [xr 1, xr 2, xr 193, xi k] [] g w := by
  have h2 := h.2.1
  have h5 := h.2.2.2.2.1
  have h6 := h.2.2.2.2.2.1
  have h7 := h.2.2.2.2.2.2.1
  have h8 := h.2.2.2.2.2.2.2
  refine wLw_law_199 ⟨h.o, C_Town h5 h8 fun g2 w2 e1 e2 f1 c2 => ⟨_, rfl, ?_⟩⟩
  have r : ∀ i, xIs g2 1 i ↔ xIs g 1 i := fun i => xIs_g e1
  have ar : ∀ {i : Int}, 0 ≤ i → i < L → xAr g2 1 i := fun p q => ⟨L, Or.inr ((r _).2 h.1), p, q⟩
  have m2 : MG g2 := h6.gg e1 (fun j => e2 193 j (by decide) (by decide) (by decide))
  have k2 := h7.fr (fun a j q => f1 a j (Or.inr q))
  have v : ∀ j, w2 1 j = w 1 j := fun j => f1 1 j (Or.inl (by decide))
  exact ⟨m_o m2, M_Town m2 k2 h8 fun w3 f3 k3 => ⟨_, rfl, fun _ => ⟨by constructor <;> omega, go _ _ _ (lw_fin h e1 e2 f1 c2 (I_Town h8) f3 k3)⟩, fun z => absurd rfl z⟩⟩
theorem lw_212 (h : LW L w0 X g w) (hk : 0 ≤ k ∧ k + 6 ≤ L) (go : LNx L w0 (d + 20) lim Q k) : aLw_law (d + 20) lim Q 212 [xr 1, xr 2, xr 193, xi k] [] g w := by
  have h2 := h.2.1
  have h5 := h.2.2.2.2.1
  have h6 := h.2.2.2.2.2.1
  have h7 := h.2.2.2.2.2.2.1
  have h8 := h.2.2.2.2.2.2.2
  refine wLw_law_212 ⟨h.o, C_Fault h5 fun g2 w2 e1 e2 f1 c2 => ⟨_, rfl, ?_⟩⟩
  have r : ∀ i, xIs g2 1 i ↔ xIs g 1 i := fun i => xIs_g e1
  have ar : ∀ {i : Int}, 0 ≤ i → i < L → xAr g2 1 i := fun p q => ⟨L, Or.inr ((r _).2 h.1), p, q⟩
  have m2 : MG g2 := h6.gg e1 (fun j => e2 193 j (by decide) (by decide) (by decide))
  have k2 := h7.fr (fun a j q => f1 a j (Or.inr q))
  have v : ∀ j, w2 1 j = w 1 j := fun j => f1 1 j (Or.inl (by decide))
  exact ⟨m_o m2, M_Fault m2 k2 fun w3 f3 k3 => ⟨_, rfl, fun _ => ⟨by constructor <;> omega, go _ _ _ (lw_fin h e1 e2 f1 c2 h8 f3 k3)⟩, fun z => absurd rfl z⟩⟩
theorem lw_225 (h : LW L w0 X g w) (hk : 0 ≤ k ∧ k + 6 ≤ L) (go : LNx L w0 (d + 20) lim Q k) : aLw_law (d + 20) lim Q 225 [xr 1, xr 2, xr 193, xi k] [] g w := by
  have h2 := h.2.1
  have h5 := h.2.2.2.2.1
  have h6 := h.2.2.2.2.2.1
  have h7 := h.2.2.2.2.2.2.1
  have h8 := h.2.2.2.2.2.2.2
  refine wLw_law_225 ⟨by constructor <;> omega, h.ar (by omega) (by omega), h.o, C_Told h5 h8 fun g2 w2 e1 e2 f1 c2 => ⟨_, rfl, ?_⟩⟩
  have r : ∀ i, xIs g2 1 i ↔ xIs g 1 i := fun i => xIs_g e1
  have ar : ∀ {i : Int}, 0 ≤ i → i < L → xAr g2 1 i := fun p q => ⟨L, Or.inr ((r _).2 h.1), p, q⟩
  have m2 : MG g2 := h6.gg e1 (fun j => e2 193 j (by decide) (by decide) (by decide))
  have k2 := h7.fr (fun a j q => f1 a j (Or.inr q))
  have v : ∀ j, w2 1 j = w 1 j := fun j => f1 1 j (Or.inl (by decide))
  try simp only [v]
  exact ⟨by constructor <;> omega, ar (by omega) (by omega), m_o m2, M_Told m2 k2 h8 fun w3 f3 k3 => ⟨_, rfl, fun _ => ⟨by constructor <;> omega, go _ _ _ (lw_fin h e1 e2 f1 c2 (I_Told h8) f3 k3)⟩, fun z => absurd rfl z⟩⟩
theorem lw_248 (h : LW L w0 X g w) (hk : 0 ≤ k ∧ k + 6 ≤ L) (go : LNx L w0 (d + 20) lim Q k) : aLw_law (d + 20) lim Q 248 [xr 1, xr 2, xr 193, xi k] [] g w := by
  have h2 := h.2.1
  have h5 := h.2.2.2.2.1
  have h6 := h.2.2.2.2.2.1
  have h7 := h.2.2.2.2.2.2.1
  have h8 := h.2.2.2.2.2.2.2
  refine wLw_law_248 ⟨by constructor <;> omega, h.ar (by omega) (by omega), by constructor <;> omega, h.ar (by omega) (by omega), by constructor <;> omega, h.ar (by omega) (by omega), h.o, C_Cell h5 h8 fun g2 w2 e1 e2 f1 c2 => ⟨_, rfl, ?_⟩⟩
  have r : ∀ i, xIs g2 1 i ↔ xIs g 1 i := fun i => xIs_g e1
  have ar : ∀ {i : Int}, 0 ≤ i → i < L → xAr g2 1 i := fun p q => ⟨L, Or.inr ((r _).2 h.1), p, q⟩
  have m2 : MG g2 := h6.gg e1 (fun j => e2 193 j (by decide) (by decide) (by decide))
  have k2 := h7.fr (fun a j q => f1 a j (Or.inr q))
  have v : ∀ j, w2 1 j = w 1 j := fun j => f1 1 j (Or.inl (by decide))
  try simp only [v]
  exact ⟨by constructor <;> omega, ar (by omega) (by omega), by constructor <;> omega, ar (by omega) (by omega), by constructor <;> omega, ar (by omega) (by omega), m_o m2, M_Cell m2 k2 h8 fun w3 f3 k3 => ⟨_, rfl, fun _ => ⟨by constructor <;> omega, go _ _ _ (lw_fin h e1 e2 f1 c2 (I_Cell h8) f3 k3)⟩, fun z => absurd rfl z⟩⟩
theorem lw_291 (h : LW L w0 X g w) (hk : 0 ≤ k ∧ k + 6 ≤ L) (go : LNx L w0 (d + 20) lim Q k) : aLw_law (d + 20) lim Q 291 [xr 1, xr 2, xr 193, xi k] [] g w := by
  have h2 := h.2.1
  have h5 := h.2.2.2.2.1
  have h6 := h.2.2.2.2.2.1
  have h7 := h.2.2.2.2.2.2.1
  have h8 := h.2.2.2.2.2.2.2
  refine wLw_law_291 ⟨by constructor <;> omega, h.ar (by omega) (by omega), by constructor <;> omega, h.ar (by omega) (by omega), by constructor <;> omega, h.ar (by omega) (by omega), h.o, C_Wall h5 h8 fun g2 w2 e1 e2 f1 c2 => ⟨_, rfl, ?_⟩⟩
  have r : ∀ i, xIs g2 1 i ↔ xIs g 1 i := fun i => xIs_g e1
  have ar : ∀ {i : Int}, 0 ≤ i → i < L → xAr g2 1 i := fun p q => ⟨L, Or.inr ((r _).2 h.1), p, q⟩
  have m2 : MG g2 := h6.gg e1 (fun j => e2 193 j (by decide) (by decide) (by decide))
  have k2 := h7.fr (fun a j q => f1 a j (Or.inr q))
  have v : ∀ j, w2 1 j = w 1 j := fun j => f1 1 j (Or.inl (by decide))
  try simp only [v]
  exact ⟨by constructor <;> omega, ar (by omega) (by omega), by constructor <;> omega, ar (by omega) (by omega), by constructor <;> omega, ar (by omega) (by omega), m_o m2, M_Wall m2 k2 h8 fun w3 f3 k3 => ⟨_, rfl, fun _ => ⟨by constructor <;> omega, go _ _ _ (lw_fin h e1 e2 f1 c2 (I_Wall h8) f3 k3)⟩, fun z => absurd rfl z⟩⟩
theorem lw_334 (h : LW L w0 X g w) (hk : 0 ≤ k ∧ k + 6 ≤ L) (go : LNx L w0 (d + 20) lim Q k) : aLw_law (d + 20) lim Q 334 [xr 1, xr 2, xr 193, xi k] [] g w := by
  have h2 := h.2.1
  have h5 := h.2.2.2.2.1
  have h6 := h.2.2.2.2.2.1
  have h7 := h.2.2.2.2.2.2.1
  have h8 := h.2.2.2.2.2.2.2
  refine wLw_law_334 ⟨by constructor <;> omega, h.ar (by omega) (by omega), by constructor <;> omega, h.ar (by omega) (by omega), h.o, C_Stove h5 h8 fun g2 w2 e1 e2 f1 c2 => ⟨_, rfl, ?_⟩⟩
  have r : ∀ i, xIs g2 1 i ↔ xIs g 1 i := fun i => xIs_g e1
  have ar : ∀ {i : Int}, 0 ≤ i → i < L → xAr g2 1 i := fun p q => ⟨L, Or.inr ((r _).2 h.1), p, q⟩
  have m2 : MG g2 := h6.gg e1 (fun j => e2 193 j (by decide) (by decide) (by decide))
  have k2 := h7.fr (fun a j q => f1 a j (Or.inr q))
  have v : ∀ j, w2 1 j = w 1 j := fun j => f1 1 j (Or.inl (by decide))
  try simp only [v]
  exact ⟨by constructor <;> omega, ar (by omega) (by omega), by constructor <;> omega, ar (by omega) (by omega), m_o m2, M_Stove m2 k2 h8 fun w3 f3 k3 => ⟨_, rfl, fun _ => ⟨by constructor <;> omega, go _ _ _ (lw_fin h e1 e2 f1 c2 (I_Stove h8) f3 k3)⟩, fun z => absurd rfl z⟩⟩
theorem lw_367 (h : LW L w0 X g w) (hk : 0 ≤ k ∧ k + 6 ≤ L) (go : LNx L w0 (d + 20) lim Q k) : aLw_law (d + 20) lim Q 367 [xr 1, xr 2, xr 193, xi k] [] g w := by
  have h2 := h.2.1
  have h5 := h.2.2.2.2.1
  have h6 := h.2.2.2.2.2.1
  have h7 := h.2.2.2.2.2.2.1
  have h8 := h.2.2.2.2.2.2.2
  refine wLw_law_367 ⟨by constructor <;> omega, h.ar (by omega) (by omega), by constructor <;> omega, h.ar (by omega) (by omega), h.o, C_Person h5 h8 fun g2 w2 e1 e2 f1 c2 => ⟨_, rfl, ?_⟩⟩
  have r : ∀ i, xIs g2 1 i ↔ xIs g 1 i := fun i => xIs_g e1
  have ar : ∀ {i : Int}, 0 ≤ i → i < L → xAr g2 1 i := fun p q => ⟨L, Or.inr ((r _).2 h.1), p, q⟩
  have m2 : MG g2 := h6.gg e1 (fun j => e2 193 j (by decide) (by decide) (by decide))
  have k2 := h7.fr (fun a j q => f1 a j (Or.inr q))
  have v : ∀ j, w2 1 j = w 1 j := fun j => f1 1 j (Or.inl (by decide))
  try simp only [v]
  exact ⟨by constructor <;> omega, ar (by omega) (by omega), by constructor <;> omega, ar (by omega) (by omega), m_o m2, M_Person m2 k2 h8 fun w3 f3 k3 => ⟨_, rfl, fun _ => ⟨by constructor <;> omega, go _ _ _ (lw_fin h e1 e2 f1 c2 (I_Person h8) f3 k3)⟩, fun z => absurd rfl z⟩⟩
theorem lw_400 (h : LW L w0 X g w) (hk : 0 ≤ k ∧ k + 6 ≤ L) (go : LNx L w0 (d + 20) lim Q k) : aLw_law (d + 20) lim Q 400 [xr 1, xr 2, xr 193, xi k] [] g w := by
  have h2 := h.2.1
  have h5 := h.2.2.2.2.1
  have h6 := h.2.2.2.2.2.1
  have h7 := h.2.2.2.2.2.2.1
  have h8 := h.2.2.2.2.2.2.2
  refine wLw_law_400 ⟨by constructor <;> omega, h.ar (by omega) (by omega), by constructor <;> omega, h.ar (by omega) (by omega), h.o, C_Go h5 h8 fun g2 w2 e1 e2 f1 c2 => ⟨_, rfl, ?_⟩⟩
  have r : ∀ i, xIs g2 1 i ↔ xIs g 1 i := fun i => xIs_g e1
  have ar : ∀ {i : Int}, 0 ≤ i → i < L → xAr g2 1 i := fun p q => ⟨L, Or.inr ((r _).2 h.1), p, q⟩
  have m2 : MG g2 := h6.gg e1 (fun j => e2 193 j (by decide) (by decide) (by decide))
  have k2 := h7.fr (fun a j q => f1 a j (Or.inr q))
  have v : ∀ j, w2 1 j = w 1 j := fun j => f1 1 j (Or.inl (by decide))
  try simp only [v]
  exact ⟨by constructor <;> omega, ar (by omega) (by omega), by constructor <;> omega, ar (by omega) (by omega), m_o m2, M_Go m2 k2 h8 fun w3 f3 k3 => ⟨_, rfl, fun _ => ⟨by constructor <;> omega, go _ _ _ (lw_fin h e1 e2 f1 c2 (I_Go h8) f3 k3)⟩, fun z => absurd rfl z⟩⟩
theorem lw_b2 (h : LW L w0 X g w) (hk : 0 ≤ k ∧ k + 6 ≤ L) (go : LNx L w0 (d + 20) lim Q k) {e : Int} (he : e = if w 1 (Int.toNat (k + 4)) = 0 then 0 else 1) : aLw_law (d + 20) lim Q 462 [xr 1, xr 2, xr 193, xi k] [xi e, xi (w 1 (Int.toNat (k + 3))), xi (w 1 (Int.toNat (k + 2))), xi (w 1 (Int.toNat (k + 1))), xr 2] g w := by
  have h2 := h.2.1
  have h5 := h.2.2.2.2.1
  have h6 := h.2.2.2.2.2.1
  have h7 := h.2.2.2.2.2.2.1
  have h8 := h.2.2.2.2.2.2.2
  refine wLw_law_462 ⟨h.o, C_Build h5 h8 fun g2 w2 e1 e2 f1 c2 => ⟨_, rfl, ?_⟩⟩
  have r : ∀ i, xIs g2 1 i ↔ xIs g 1 i := fun i => xIs_g e1
  have ar : ∀ {i : Int}, 0 ≤ i → i < L → xAr g2 1 i := fun p q => ⟨L, Or.inr ((r _).2 h.1), p, q⟩
  have m2 : MG g2 := h6.gg e1 (fun j => e2 193 j (by decide) (by decide) (by decide))
  have k2 := h7.fr (fun a j q => f1 a j (Or.inr q))
  have v : ∀ j, w2 1 j = w 1 j := fun j => f1 1 j (Or.inl (by decide))
  have fin : aLw_law (d + 20) lim Q 494 [xr 1, xr 2, xr 193, xi k] [xi e, xi (w 1 (Int.toNat (k + 3))), xi (w 1 (Int.toNat (k + 2))), xi (w 1 (Int.toNat (k + 1))), xr 193, xi (xBuild X (w 1 (Int.toNat (k + 1))) (w 1 (Int.toNat (k + 2))) (w 1 (Int.toNat (k + 3))) e).1] g2 w2 := wLw_law_494 ⟨m_o m2, M_Build m2 k2 h8 fun w3 f3 k3 => ⟨_, rfl, fun _ => ⟨by constructor <;> omega, go _ _ _ (lw_fin h e1 e2 f1 c2 (I_Build h8) f3 k3)⟩, fun z => absurd rfl z⟩⟩
  simp only [v]
  refine ⟨by constructor <;> omega, ar (by omega) (by omega), by constructor <;> omega, ar (by omega) (by omega), by constructor <;> omega, ar (by omega) (by omega), by constructor <;> omega, ar (by omega) (by omega), fun z => ?_, fun z => ?_⟩
  · rw [if_pos z] at he; rw [he] at fin ⊢; exact fin
  · rw [if_neg z] at he; rw [he] at fin ⊢; exact fin
theorem lw_433 (h : LW L w0 X g w) (hk : 0 ≤ k ∧ k + 6 ≤ L) (go : LNx L w0 (d + 20) lim Q k) : aLw_law (d + 20) lim Q 433 [xr 1, xr 2, xr 193, xi k] [] g w := by
  have h2 := h.2.1
  have h5 := h.2.2.2.2.1
  have h6 := h.2.2.2.2.2.1
  have h7 := h.2.2.2.2.2.2.1
  have h8 := h.2.2.2.2.2.2.2
  refine wLw_law_433 ⟨by constructor <;> omega, h.ar (by omega) (by omega), by constructor <;> omega, h.ar (by omega) (by omega), by constructor <;> omega, h.ar (by omega) (by omega), by constructor <;> omega, h.ar (by omega) (by omega), fun z => ?_, fun z => ?_⟩
  · exact lw_b2 h hk go (by rw [if_pos z])
  · exact lw_b2 h hk go (by rw [if_neg z])
theorem lw_502 (h : LW L w0 X g w) (hk : 0 ≤ k ∧ k + 6 ≤ L) (go : LNx L w0 (d + 20) lim Q k) : aLw_law (d + 20) lim Q 502 [xr 1, xr 2, xr 193, xi k] [] g w := by
  have h2 := h.2.1
  have h5 := h.2.2.2.2.1
  have h6 := h.2.2.2.2.2.1
  have h7 := h.2.2.2.2.2.2.1
  have h8 := h.2.2.2.2.2.2.2
  refine wLw_law_502 ⟨by constructor <;> omega, h.ar (by omega) (by omega), h.o, C_Light h5 h8 fun g2 w2 e1 e2 f1 c2 => ⟨_, rfl, ?_⟩⟩
  have r : ∀ i, xIs g2 1 i ↔ xIs g 1 i := fun i => xIs_g e1
  have ar : ∀ {i : Int}, 0 ≤ i → i < L → xAr g2 1 i := fun p q => ⟨L, Or.inr ((r _).2 h.1), p, q⟩
  have m2 : MG g2 := h6.gg e1 (fun j => e2 193 j (by decide) (by decide) (by decide))
  have k2 := h7.fr (fun a j q => f1 a j (Or.inr q))
  have v : ∀ j, w2 1 j = w 1 j := fun j => f1 1 j (Or.inl (by decide))
  try simp only [v]
  exact ⟨by constructor <;> omega, ar (by omega) (by omega), m_o m2, M_Light m2 k2 h8 fun w3 f3 k3 => ⟨_, rfl, fun _ => ⟨by constructor <;> omega, go _ _ _ (lw_fin h e1 e2 f1 c2 (I_Light h8) f3 k3)⟩, fun z => absurd rfl z⟩⟩
theorem lw_525 (h : LW L w0 X g w) (hk : 0 ≤ k ∧ k + 6 ≤ L) (go : LNx L w0 (d + 20) lim Q k) : aLw_law (d + 20) lim Q 525 [xr 1, xr 2, xr 193, xi k] [] g w := by
  have h2 := h.2.1
  have h5 := h.2.2.2.2.1
  have h6 := h.2.2.2.2.2.1
  have h7 := h.2.2.2.2.2.2.1
  have h8 := h.2.2.2.2.2.2.2
  refine wLw_law_525 ⟨by constructor <;> omega, h.ar (by omega) (by omega), by constructor <;> omega, h.ar (by omega) (by omega), h.o, C_Stoke h5 h8 fun g2 w2 e1 e2 f1 c2 => ⟨_, rfl, ?_⟩⟩
  have r : ∀ i, xIs g2 1 i ↔ xIs g 1 i := fun i => xIs_g e1
  have ar : ∀ {i : Int}, 0 ≤ i → i < L → xAr g2 1 i := fun p q => ⟨L, Or.inr ((r _).2 h.1), p, q⟩
  have m2 : MG g2 := h6.gg e1 (fun j => e2 193 j (by decide) (by decide) (by decide))
  have k2 := h7.fr (fun a j q => f1 a j (Or.inr q))
  have v : ∀ j, w2 1 j = w 1 j := fun j => f1 1 j (Or.inl (by decide))
  try simp only [v]
  exact ⟨by constructor <;> omega, ar (by omega) (by omega), by constructor <;> omega, ar (by omega) (by omega), m_o m2, M_Stoke m2 k2 h8 fun w3 f3 k3 => ⟨_, rfl, fun _ => ⟨by constructor <;> omega, go _ _ _ (lw_fin h e1 e2 f1 c2 (I_Stoke h8) f3 k3)⟩, fun z => absurd rfl z⟩⟩
theorem lw_558 (h : LW L w0 X g w) (hk : 0 ≤ k ∧ k + 6 ≤ L) (go : LNx L w0 (d + 20) lim Q k) : aLw_law (d + 20) lim Q 558 [xr 1, xr 2, xr 193, xi k] [] g w := by
  have h2 := h.2.1
  have h5 := h.2.2.2.2.1
  have h6 := h.2.2.2.2.2.1
  have h7 := h.2.2.2.2.2.2.1
  have h8 := h.2.2.2.2.2.2.2
  refine wLw_law_558 ⟨by constructor <;> omega, h.ar (by omega) (by omega), h.o, C_Law h5 h8 fun g2 w2 e1 e2 f1 c2 => ⟨_, rfl, ?_⟩⟩
  have r : ∀ i, xIs g2 1 i ↔ xIs g 1 i := fun i => xIs_g e1
  have ar : ∀ {i : Int}, 0 ≤ i → i < L → xAr g2 1 i := fun p q => ⟨L, Or.inr ((r _).2 h.1), p, q⟩
  have m2 : MG g2 := h6.gg e1 (fun j => e2 193 j (by decide) (by decide) (by decide))
  have k2 := h7.fr (fun a j q => f1 a j (Or.inr q))
  have v : ∀ j, w2 1 j = w 1 j := fun j => f1 1 j (Or.inl (by decide))
  try simp only [v]
  exact ⟨by constructor <;> omega, ar (by omega) (by omega), m_o m2, M_Law m2 k2 h8 fun w3 f3 k3 => ⟨_, rfl, fun _ => ⟨by constructor <;> omega, go _ _ _ (lw_fin h e1 e2 f1 c2 (I_Law h8) f3 k3)⟩, fun z => absurd rfl z⟩⟩
theorem lw_581 (h : LW L w0 X g w) (hk : 0 ≤ k ∧ k + 6 ≤ L) (go : LNx L w0 (d + 20) lim Q k) : aLw_law (d + 20) lim Q 581 [xr 1, xr 2, xr 193, xi k] [] g w := by
  have h2 := h.2.1
  have h5 := h.2.2.2.2.1
  have h6 := h.2.2.2.2.2.1
  have h7 := h.2.2.2.2.2.2.1
  have h8 := h.2.2.2.2.2.2.2
  refine wLw_law_581 ⟨by constructor <;> omega, h.ar (by omega) (by omega), h.o, C_Last h5 h8 fun g2 w2 e1 e2 f1 c2 => ⟨_, rfl, ?_⟩⟩
  have r : ∀ i, xIs g2 1 i ↔ xIs g 1 i := fun i => xIs_g e1
  have ar : ∀ {i : Int}, 0 ≤ i → i < L → xAr g2 1 i := fun p q => ⟨L, Or.inr ((r _).2 h.1), p, q⟩
  have m2 : MG g2 := h6.gg e1 (fun j => e2 193 j (by decide) (by decide) (by decide))
  have k2 := h7.fr (fun a j q => f1 a j (Or.inr q))
  have v : ∀ j, w2 1 j = w 1 j := fun j => f1 1 j (Or.inl (by decide))
  try simp only [v]
  exact ⟨by constructor <;> omega, ar (by omega) (by omega), m_o m2, M_Last m2 k2 h8 fun w3 f3 k3 => ⟨_, rfl, fun _ => ⟨by constructor <;> omega, go _ _ _ (lw_fin h e1 e2 f1 c2 (I_Last h8) f3 k3)⟩, fun z => absurd rfl z⟩⟩
theorem lw_604 (h : LW L w0 X g w) (hk : 0 ≤ k ∧ k + 6 ≤ L) (go : LNx L w0 (d + 20) lim Q k) : aLw_law (d + 20) lim Q 604 [xr 1, xr 2, xr 193, xi k] [] g w := by
  have h2 := h.2.1
  have h5 := h.2.2.2.2.1
  have h6 := h.2.2.2.2.2.1
  have h7 := h.2.2.2.2.2.2.1
  have h8 := h.2.2.2.2.2.2.2
  refine wLw_law_604 ⟨by constructor <;> omega, h.ar (by omega) (by omega), h.o, C_Minute h5 h8 fun g2 w2 e1 e2 f1 c2 => ⟨_, rfl, ?_⟩⟩
  have r : ∀ i, xIs g2 1 i ↔ xIs g 1 i := fun i => xIs_g e1
  have ar : ∀ {i : Int}, 0 ≤ i → i < L → xAr g2 1 i := fun p q => ⟨L, Or.inr ((r _).2 h.1), p, q⟩
  have m2 : MG g2 := h6.gg e1 (fun j => e2 193 j (by decide) (by decide) (by decide))
  have k2 := h7.fr (fun a j q => f1 a j (Or.inr q))
  have v : ∀ j, w2 1 j = w 1 j := fun j => f1 1 j (Or.inl (by decide))
  try simp only [v]
  exact ⟨by constructor <;> omega, ar (by omega) (by omega), m_o m2, M_Minute m2 k2 h8 fun w3 f3 k3 => ⟨_, rfl, fun _ => ⟨by constructor <;> omega, go _ _ _ (lw_fin h e1 e2 f1 c2 (I_Minute h8) f3 k3)⟩, fun z => absurd rfl z⟩⟩
theorem lw_627 (h : LW L w0 X g w) (hk : 0 ≤ k ∧ k + 6 ≤ L) (go : LNx L w0 (d + 20) lim Q k) : aLw_law (d + 20) lim Q 627 [xr 1, xr 2, xr 193, xi k] [] g w := by
  have h2 := h.2.1
  have h5 := h.2.2.2.2.1
  have h6 := h.2.2.2.2.2.1
  have h7 := h.2.2.2.2.2.2.1
  have h8 := h.2.2.2.2.2.2.2
  refine wLw_law_627 ⟨by constructor <;> omega, h.ar (by omega) (by omega), h.o, C_Drift h5 h8 fun g2 w2 e1 e2 f1 c2 => ⟨_, rfl, ?_⟩⟩
  have r : ∀ i, xIs g2 1 i ↔ xIs g 1 i := fun i => xIs_g e1
  have ar : ∀ {i : Int}, 0 ≤ i → i < L → xAr g2 1 i := fun p q => ⟨L, Or.inr ((r _).2 h.1), p, q⟩
  have m2 : MG g2 := h6.gg e1 (fun j => e2 193 j (by decide) (by decide) (by decide))
  have k2 := h7.fr (fun a j q => f1 a j (Or.inr q))
  have v : ∀ j, w2 1 j = w 1 j := fun j => f1 1 j (Or.inl (by decide))
  try simp only [v]
  exact ⟨by constructor <;> omega, ar (by omega) (by omega), m_o m2, M_Drift m2 k2 h8 fun w3 f3 k3 => ⟨_, rfl, fun _ => ⟨by constructor <;> omega, go _ _ _ (lw_fin h e1 e2 f1 c2 (I_Drift h8) f3 k3)⟩, fun z => absurd rfl z⟩⟩
theorem lw_650 (h : LW L w0 X g w) (hk : 0 ≤ k ∧ k + 6 ≤ L) (go : LNx L w0 (d + 20) lim Q k) : aLw_law (d + 20) lim Q 650 [xr 1, xr 2, xr 193, xi k] [] g w := by
  have h2 := h.2.1
  have h5 := h.2.2.2.2.1
  have h6 := h.2.2.2.2.2.1
  have h7 := h.2.2.2.2.2.2.1
  have h8 := h.2.2.2.2.2.2.2
  refine wLw_law_650 ⟨by constructor <;> omega, h.ar (by omega) (by omega), by constructor <;> omega, h.ar (by omega) (by omega), by constructor <;> omega, h.ar (by omega) (by omega), by constructor <;> omega, h.ar (by omega) (by omega), h.o, C_Then h5 h8 fun g2 w2 e1 e2 f1 c2 => ⟨_, rfl, ?_⟩⟩
  have r : ∀ i, xIs g2 1 i ↔ xIs g 1 i := fun i => xIs_g e1
  have ar : ∀ {i : Int}, 0 ≤ i → i < L → xAr g2 1 i := fun p q => ⟨L, Or.inr ((r _).2 h.1), p, q⟩
  have m2 : MG g2 := h6.gg e1 (fun j => e2 193 j (by decide) (by decide) (by decide))
  have k2 := h7.fr (fun a j q => f1 a j (Or.inr q))
  have v : ∀ j, w2 1 j = w 1 j := fun j => f1 1 j (Or.inl (by decide))
  try simp only [v]
  exact ⟨by constructor <;> omega, ar (by omega) (by omega), by constructor <;> omega, ar (by omega) (by omega), by constructor <;> omega, ar (by omega) (by omega), by constructor <;> omega, ar (by omega) (by omega), m_o m2, M_Then m2 k2 h8 fun w3 f3 k3 => ⟨_, rfl, fun _ => ⟨by constructor <;> omega, go _ _ _ (lw_fin h e1 e2 f1 c2 (I_Then h8) f3 k3)⟩, fun z => absurd rfl z⟩⟩
theorem lw_703 (h : LW L w0 X g w) (hk : 0 ≤ k ∧ k + 6 ≤ L) (go : LNx L w0 (d + 20) lim Q k) : aLw_law (d + 20) lim Q 703 [xr 1, xr 2, xr 193, xi k] [] g w := by
  have h2 := h.2.1
  have h5 := h.2.2.2.2.1
  have h6 := h.2.2.2.2.2.1
  have h7 := h.2.2.2.2.2.2.1
  have h8 := h.2.2.2.2.2.2.2
  refine wLw_law_703 ⟨by constructor <;> omega, h.ar (by omega) (by omega), by constructor <;> omega, h.ar (by omega) (by omega), by constructor <;> omega, h.ar (by omega) (by omega), h.o, C_Stands h5 h8 fun g2 w2 e1 e2 f1 c2 => ⟨_, rfl, ?_⟩⟩
  have r : ∀ i, xIs g2 1 i ↔ xIs g 1 i := fun i => xIs_g e1
  have ar : ∀ {i : Int}, 0 ≤ i → i < L → xAr g2 1 i := fun p q => ⟨L, Or.inr ((r _).2 h.1), p, q⟩
  have m2 : MG g2 := h6.gg e1 (fun j => e2 193 j (by decide) (by decide) (by decide))
  have k2 := h7.fr (fun a j q => f1 a j (Or.inr q))
  have v : ∀ j, w2 1 j = w 1 j := fun j => f1 1 j (Or.inl (by decide))
  try simp only [v]
  exact ⟨by constructor <;> omega, ar (by omega) (by omega), by constructor <;> omega, ar (by omega) (by omega), by constructor <;> omega, ar (by omega) (by omega), m_o m2, M_Stands m2 k2 h8 fun w3 f3 k3 => ⟨_, rfl, fun _ => ⟨by constructor <;> omega, go _ _ _ (lw_fin h e1 e2 f1 c2 (I_Stands h8) f3 k3)⟩, fun z => absurd rfl z⟩⟩
theorem lw_746 (h : LW L w0 X g w) (hk : 0 ≤ k ∧ k + 6 ≤ L) (go : LNx L w0 (d + 20) lim Q k) : aLw_law (d + 20) lim Q 746 [xr 1, xr 2, xr 193, xi k] [] g w := by
  have h2 := h.2.1
  have h5 := h.2.2.2.2.1
  have h6 := h.2.2.2.2.2.1
  have h7 := h.2.2.2.2.2.2.1
  have h8 := h.2.2.2.2.2.2.2
  refine wLw_law_746 ⟨by constructor <;> omega, h.ar (by omega) (by omega), by constructor <;> omega, h.ar (by omega) (by omega), by constructor <;> omega, h.ar (by omega) (by omega), h.o, C_LightFor h5 h8 fun g2 w2 e1 e2 f1 c2 => ⟨_, rfl, ?_⟩⟩
  have r : ∀ i, xIs g2 1 i ↔ xIs g 1 i := fun i => xIs_g e1
  have ar : ∀ {i : Int}, 0 ≤ i → i < L → xAr g2 1 i := fun p q => ⟨L, Or.inr ((r _).2 h.1), p, q⟩
  have m2 : MG g2 := h6.gg e1 (fun j => e2 193 j (by decide) (by decide) (by decide))
  have k2 := h7.fr (fun a j q => f1 a j (Or.inr q))
  have v : ∀ j, w2 1 j = w 1 j := fun j => f1 1 j (Or.inl (by decide))
  try simp only [v]
  exact ⟨by constructor <;> omega, ar (by omega) (by omega), by constructor <;> omega, ar (by omega) (by omega), by constructor <;> omega, ar (by omega) (by omega), m_o m2, M_LightFor m2 k2 h8 fun w3 f3 k3 => ⟨_, rfl, fun _ => ⟨by constructor <;> omega, go _ _ _ (lw_fin h e1 e2 f1 c2 (I_LightFor h8) f3 k3)⟩, fun z => absurd rfl z⟩⟩
theorem lw_789 (h : LW L w0 X g w) (hk : 0 ≤ k ∧ k + 6 ≤ L) (go : LNx L w0 (d + 20) lim Q k) : aLw_law (d + 20) lim Q 789 [xr 1, xr 2, xr 193, xi k] [] g w := by
  have h2 := h.2.1
  have h5 := h.2.2.2.2.1
  have h6 := h.2.2.2.2.2.1
  have h7 := h.2.2.2.2.2.2.1
  have h8 := h.2.2.2.2.2.2.2
  refine wLw_law_789 ⟨by constructor <;> omega, h.ar (by omega) (by omega), by constructor <;> omega, h.ar (by omega) (by omega), by constructor <;> omega, h.ar (by omega) (by omega), h.o, C_Kept h5 h8 fun g2 w2 e1 e2 f1 c2 => ⟨_, rfl, ?_⟩⟩
  have r : ∀ i, xIs g2 1 i ↔ xIs g 1 i := fun i => xIs_g e1
  have ar : ∀ {i : Int}, 0 ≤ i → i < L → xAr g2 1 i := fun p q => ⟨L, Or.inr ((r _).2 h.1), p, q⟩
  have m2 : MG g2 := h6.gg e1 (fun j => e2 193 j (by decide) (by decide) (by decide))
  have k2 := h7.fr (fun a j q => f1 a j (Or.inr q))
  have v : ∀ j, w2 1 j = w 1 j := fun j => f1 1 j (Or.inl (by decide))
  try simp only [v]
  exact ⟨by constructor <;> omega, ar (by omega) (by omega), by constructor <;> omega, ar (by omega) (by omega), by constructor <;> omega, ar (by omega) (by omega), m_o m2, M_Kept m2 k2 h8 fun w3 f3 k3 => ⟨_, rfl, fun _ => ⟨by constructor <;> omega, go _ _ _ (lw_fin h e1 e2 f1 c2 (I_Kept h8) f3 k3)⟩, fun z => absurd rfl z⟩⟩
theorem lw_832 (h : LW L w0 X g w) (hk : 0 ≤ k ∧ k + 6 ≤ L) (go : LNx L w0 (d + 20) lim Q k) : aLw_law (d + 20) lim Q 832 [xr 1, xr 2, xr 193, xi k] [] g w := by
  have h2 := h.2.1
  have h5 := h.2.2.2.2.1
  have h6 := h.2.2.2.2.2.1
  have h7 := h.2.2.2.2.2.2.1
  have h8 := h.2.2.2.2.2.2.2
  refine wLw_law_832 ⟨by constructor <;> omega, h.ar (by omega) (by omega), by constructor <;> omega, h.ar (by omega) (by omega), by constructor <;> omega, h.ar (by omega) (by omega), by constructor <;> omega, h.ar (by omega) (by omega), by constructor <;> omega, h.ar (by omega) (by omega), h.o, C_Gain h5 h8 fun g2 w2 e1 e2 f1 c2 => ⟨_, rfl, ?_⟩⟩
  have r : ∀ i, xIs g2 1 i ↔ xIs g 1 i := fun i => xIs_g e1
  have ar : ∀ {i : Int}, 0 ≤ i → i < L → xAr g2 1 i := fun p q => ⟨L, Or.inr ((r _).2 h.1), p, q⟩
  have m2 : MG g2 := h6.gg e1 (fun j => e2 193 j (by decide) (by decide) (by decide))
  have k2 := h7.fr (fun a j q => f1 a j (Or.inr q))
  have v : ∀ j, w2 1 j = w 1 j := fun j => f1 1 j (Or.inl (by decide))
  try simp only [v]
  exact ⟨by constructor <;> omega, ar (by omega) (by omega), by constructor <;> omega, ar (by omega) (by omega), by constructor <;> omega, ar (by omega) (by omega), by constructor <;> omega, ar (by omega) (by omega), by constructor <;> omega, ar (by omega) (by omega), m_o m2, M_Gain m2 k2 h8 fun w3 f3 k3 => ⟨_, rfl, fun _ => ⟨by constructor <;> omega, go _ _ _ (lw_fin h e1 e2 f1 c2 (I_Gain h8) f3 k3)⟩, fun z => absurd rfl z⟩⟩
theorem lw_895 (h : LW L w0 X g w) (hk : 0 ≤ k ∧ k + 6 ≤ L) (go : LNx L w0 (d + 20) lim Q k) : aLw_law (d + 20) lim Q 895 [xr 1, xr 2, xr 193, xi k] [] g w := by
  have h2 := h.2.1
  have h5 := h.2.2.2.2.1
  have h6 := h.2.2.2.2.2.1
  have h7 := h.2.2.2.2.2.2.1
  have h8 := h.2.2.2.2.2.2.2
  refine wLw_law_895 ⟨by constructor <;> omega, h.ar (by omega) (by omega), h.o, C_Rents h5 h8 fun g2 w2 e1 e2 f1 c2 => ⟨_, rfl, ?_⟩⟩
  have r : ∀ i, xIs g2 1 i ↔ xIs g 1 i := fun i => xIs_g e1
  have ar : ∀ {i : Int}, 0 ≤ i → i < L → xAr g2 1 i := fun p q => ⟨L, Or.inr ((r _).2 h.1), p, q⟩
  have m2 : MG g2 := h6.gg e1 (fun j => e2 193 j (by decide) (by decide) (by decide))
  have k2 := h7.fr (fun a j q => f1 a j (Or.inr q))
  have v : ∀ j, w2 1 j = w 1 j := fun j => f1 1 j (Or.inl (by decide))
  try simp only [v]
  exact ⟨by constructor <;> omega, ar (by omega) (by omega), m_o m2, M_Rents m2 k2 h8 fun w3 f3 k3 => ⟨_, rfl, fun _ => ⟨by constructor <;> omega, go _ _ _ (lw_fin h e1 e2 f1 c2 (I_Rents h8) f3 k3)⟩, fun z => absurd rfl z⟩⟩
theorem lw_918 (h : LW L w0 X g w) (hk : 0 ≤ k ∧ k + 6 ≤ L) (go : LNx L w0 (d + 20) lim Q k) : aLw_law (d + 20) lim Q 918 [xr 1, xr 2, xr 193, xi k] [] g w := by
  have h2 := h.2.1
  have h5 := h.2.2.2.2.1
  have h6 := h.2.2.2.2.2.1
  have h7 := h.2.2.2.2.2.2.1
  have h8 := h.2.2.2.2.2.2.2
  refine wLw_law_918 ⟨by constructor <;> omega, h.ar (by omega) (by omega), by constructor <;> omega, h.ar (by omega) (by omega), by constructor <;> omega, h.ar (by omega) (by omega), h.o, C_Claim h5 h8 h.v fun g2 w2 e1 e2 f1 c2 => ⟨_, rfl, ?_⟩⟩
  have r : ∀ i, xIs g2 1 i ↔ xIs g 1 i := fun i => xIs_g e1
  have ar : ∀ {i : Int}, 0 ≤ i → i < L → xAr g2 1 i := fun p q => ⟨L, Or.inr ((r _).2 h.1), p, q⟩
  have m2 : MG g2 := h6.gg e1 (fun j => e2 193 j (by decide) (by decide) (by decide))
  have k2 := h7.fr (fun a j q => f1 a j (Or.inr q))
  have v : ∀ j, w2 1 j = w 1 j := fun j => f1 1 j (Or.inl (by decide))
  try simp only [v]
  exact ⟨by constructor <;> omega, ar (by omega) (by omega), by constructor <;> omega, ar (by omega) (by omega), by constructor <;> omega, ar (by omega) (by omega), m_o m2, M_Claim m2 k2 h8 h.v fun w3 f3 k3 => ⟨_, rfl, fun _ => ⟨by constructor <;> omega, go _ _ _ (lw_fin h e1 e2 f1 c2 (I_Claim h8) f3 k3)⟩, fun z => absurd rfl z⟩⟩
theorem lw_961 (h : LW L w0 X g w) (hk : 0 ≤ k ∧ k + 6 ≤ L) (go : LNx L w0 (d + 20) lim Q k) : aLw_law (d + 20) lim Q 961 [xr 1, xr 2, xr 193, xi k] [] g w := by
  have h2 := h.2.1
  have h5 := h.2.2.2.2.1
  have h6 := h.2.2.2.2.2.1
  have h7 := h.2.2.2.2.2.2.1
  have h8 := h.2.2.2.2.2.2.2
  refine wLw_law_961 ⟨h.o, C_Forged h5 h8 fun g2 w2 e1 e2 f1 c2 => ⟨_, rfl, ?_⟩⟩
  have r : ∀ i, xIs g2 1 i ↔ xIs g 1 i := fun i => xIs_g e1
  have ar : ∀ {i : Int}, 0 ≤ i → i < L → xAr g2 1 i := fun p q => ⟨L, Or.inr ((r _).2 h.1), p, q⟩
  have m2 : MG g2 := h6.gg e1 (fun j => e2 193 j (by decide) (by decide) (by decide))
  have k2 := h7.fr (fun a j q => f1 a j (Or.inr q))
  have v : ∀ j, w2 1 j = w 1 j := fun j => f1 1 j (Or.inl (by decide))
  exact ⟨m_o m2, M_Forged m2 k2 h8 fun w3 f3 k3 => ⟨_, rfl, fun _ => ⟨by constructor <;> omega, go _ _ _ (lw_fin h e1 e2 f1 c2 (I_Forged h8) f3 k3)⟩, fun z => absurd rfl z⟩⟩
theorem lw_974 (h : LW L w0 X g w) (hk : 0 ≤ k ∧ k + 6 ≤ L) (go : LNx L w0 (d + 20) lim Q k) : aLw_law (d + 20) lim Q 974 [xr 1, xr 2, xr 193, xi k] [] g w := by
  have h2 := h.2.1
  have h5 := h.2.2.2.2.1
  have h6 := h.2.2.2.2.2.1
  have h7 := h.2.2.2.2.2.2.1
  have h8 := h.2.2.2.2.2.2.2
  refine wLw_law_974 ⟨by constructor <;> omega, h.ar (by omega) (by omega), by constructor <;> omega, h.ar (by omega) (by omega), h.o, C_Cold h5 h8 fun g2 w2 e1 e2 f1 c2 => ⟨_, rfl, ?_⟩⟩
  have r : ∀ i, xIs g2 1 i ↔ xIs g 1 i := fun i => xIs_g e1
  have ar : ∀ {i : Int}, 0 ≤ i → i < L → xAr g2 1 i := fun p q => ⟨L, Or.inr ((r _).2 h.1), p, q⟩
  have m2 : MG g2 := h6.gg e1 (fun j => e2 193 j (by decide) (by decide) (by decide))
  have k2 := h7.fr (fun a j q => f1 a j (Or.inr q))
  have v : ∀ j, w2 1 j = w 1 j := fun j => f1 1 j (Or.inl (by decide))
  try simp only [v]
  exact ⟨by constructor <;> omega, ar (by omega) (by omega), by constructor <;> omega, ar (by omega) (by omega), m_o m2, M_Cold m2 k2 h8 fun w3 f3 k3 => ⟨_, rfl, fun _ => ⟨by constructor <;> omega, go _ _ _ (lw_fin h e1 e2 f1 c2 (I_Cold h8) f3 k3)⟩, fun z => absurd rfl z⟩⟩
theorem lw_1007 (h : LW L w0 X g w) (hk : 0 ≤ k ∧ k + 6 ≤ L) (go : LNx L w0 (d + 20) lim Q k) : aLw_law (d + 20) lim Q 1007 [xr 1, xr 2, xr 193, xi k] [] g w := by
  have h2 := h.2.1
  have h5 := h.2.2.2.2.1
  have h6 := h.2.2.2.2.2.1
  have h7 := h.2.2.2.2.2.2.1
  have h8 := h.2.2.2.2.2.2.2
  refine wLw_law_1007 ⟨by constructor <;> omega, h.ar (by omega) (by omega), h.o, C_Mild h5 h8 fun g2 w2 e1 e2 f1 c2 => ⟨_, rfl, ?_⟩⟩
  have r : ∀ i, xIs g2 1 i ↔ xIs g 1 i := fun i => xIs_g e1
  have ar : ∀ {i : Int}, 0 ≤ i → i < L → xAr g2 1 i := fun p q => ⟨L, Or.inr ((r _).2 h.1), p, q⟩
  have m2 : MG g2 := h6.gg e1 (fun j => e2 193 j (by decide) (by decide) (by decide))
  have k2 := h7.fr (fun a j q => f1 a j (Or.inr q))
  have v : ∀ j, w2 1 j = w 1 j := fun j => f1 1 j (Or.inl (by decide))
  try simp only [v]
  exact ⟨by constructor <;> omega, ar (by omega) (by omega), m_o m2, M_Mild m2 k2 h8 fun w3 f3 k3 => ⟨_, rfl, fun _ => ⟨by constructor <;> omega, go _ _ _ (lw_fin h e1 e2 f1 c2 (I_Mild h8) f3 k3)⟩, fun z => absurd rfl z⟩⟩
theorem lw_1030 (h : LW L w0 X g w) (hk : 0 ≤ k ∧ k + 6 ≤ L) (go : LNx L w0 (d + 20) lim Q k) : aLw_law (d + 20) lim Q 1030 [xr 1, xr 2, xr 193, xi k] [] g w := by
  have h2 := h.2.1
  have h5 := h.2.2.2.2.1
  have h6 := h.2.2.2.2.2.1
  have h7 := h.2.2.2.2.2.2.1
  have h8 := h.2.2.2.2.2.2.2
  refine wLw_law_1030 ⟨by constructor <;> omega, h.ar (by omega) (by omega), by constructor <;> omega, h.ar (by omega) (by omega), by constructor <;> omega, h.ar (by omega) (by omega), h.o, C_Deed h5 h8 h.v fun g2 w2 e1 e2 f1 c2 => ⟨_, rfl, ?_⟩⟩
  have r : ∀ i, xIs g2 1 i ↔ xIs g 1 i := fun i => xIs_g e1
  have ar : ∀ {i : Int}, 0 ≤ i → i < L → xAr g2 1 i := fun p q => ⟨L, Or.inr ((r _).2 h.1), p, q⟩
  have m2 : MG g2 := h6.gg e1 (fun j => e2 193 j (by decide) (by decide) (by decide))
  have k2 := h7.fr (fun a j q => f1 a j (Or.inr q))
  have v : ∀ j, w2 1 j = w 1 j := fun j => f1 1 j (Or.inl (by decide))
  try simp only [v]
  exact ⟨by constructor <;> omega, ar (by omega) (by omega), by constructor <;> omega, ar (by omega) (by omega), by constructor <;> omega, ar (by omega) (by omega), m_o m2, M_Deed m2 k2 h8 h.v fun w3 f3 k3 => ⟨_, rfl, fun _ => ⟨by constructor <;> omega, go _ _ _ (lw_fin h e1 e2 f1 c2 (I_Deed h8) f3 k3)⟩, fun z => absurd rfl z⟩⟩
theorem lw_1073 (h : LW L w0 X g w) (hk : 0 ≤ k ∧ k + 6 ≤ L) (go : LNx L w0 (d + 20) lim Q k) : aLw_law (d + 20) lim Q 1073 [xr 1, xr 2, xr 193, xi k] [] g w := by
  have h2 := h.2.1
  have h5 := h.2.2.2.2.1
  have h6 := h.2.2.2.2.2.1
  have h7 := h.2.2.2.2.2.2.1
  have h8 := h.2.2.2.2.2.2.2
  refine wLw_law_1073 ⟨by constructor <;> omega, h.ar (by omega) (by omega), by constructor <;> omega, h.ar (by omega) (by omega), h.o, C_WasLit h5 h8 fun g2 w2 e1 e2 f1 c2 => ⟨_, rfl, ?_⟩⟩
  have r : ∀ i, xIs g2 1 i ↔ xIs g 1 i := fun i => xIs_g e1
  have ar : ∀ {i : Int}, 0 ≤ i → i < L → xAr g2 1 i := fun p q => ⟨L, Or.inr ((r _).2 h.1), p, q⟩
  have m2 : MG g2 := h6.gg e1 (fun j => e2 193 j (by decide) (by decide) (by decide))
  have k2 := h7.fr (fun a j q => f1 a j (Or.inr q))
  have v : ∀ j, w2 1 j = w 1 j := fun j => f1 1 j (Or.inl (by decide))
  try simp only [v]
  exact ⟨by constructor <;> omega, ar (by omega) (by omega), by constructor <;> omega, ar (by omega) (by omega), m_o m2, M_WasLit m2 k2 h8 fun w3 f3 k3 => ⟨_, rfl, fun _ => ⟨by constructor <;> omega, go _ _ _ (lw_fin h e1 e2 f1 c2 (I_WasLit h8) f3 k3)⟩, fun z => absurd rfl z⟩⟩
theorem lw_1106 (h : LW L w0 X g w) (hk : 0 ≤ k ∧ k + 6 ≤ L) (go : LNx L w0 (d + 20) lim Q k) : aLw_law (d + 20) lim Q 1106 [xr 1, xr 2, xr 193, xi k] [] g w := by
  have h2 := h.2.1
  have h5 := h.2.2.2.2.1
  have h6 := h.2.2.2.2.2.1
  have h7 := h.2.2.2.2.2.2.1
  have h8 := h.2.2.2.2.2.2.2
  refine wLw_law_1106 ⟨h.o, C_Tear h5 h8 fun g2 w2 e1 e2 f1 c2 => ⟨_, rfl, ?_⟩⟩
  have r : ∀ i, xIs g2 1 i ↔ xIs g 1 i := fun i => xIs_g e1
  have ar : ∀ {i : Int}, 0 ≤ i → i < L → xAr g2 1 i := fun p q => ⟨L, Or.inr ((r _).2 h.1), p, q⟩
  have m2 : MG g2 := h6.gg e1 (fun j => e2 193 j (by decide) (by decide) (by decide))
  have k2 := h7.fr (fun a j q => f1 a j (Or.inr q))
  have v : ∀ j, w2 1 j = w 1 j := fun j => f1 1 j (Or.inl (by decide))
  exact ⟨m_o m2, M_Tear m2 k2 h8 fun w3 f3 k3 => ⟨_, rfl, fun _ => ⟨by constructor <;> omega, go _ _ _ (lw_fin h e1 e2 f1 c2 (I_Tear h8) f3 k3)⟩, fun z => absurd rfl z⟩⟩
theorem lw_1119 (h : LW L w0 X g w) (hk : 0 ≤ k ∧ k + 6 ≤ L) (go : LNx L w0 (d + 20) lim Q k) : aLw_law (d + 20) lim Q 1119 [xr 1, xr 2, xr 193, xi k] [] g w := by
  have h2 := h.2.1
  have h5 := h.2.2.2.2.1
  have h6 := h.2.2.2.2.2.1
  have h7 := h.2.2.2.2.2.2.1
  have h8 := h.2.2.2.2.2.2.2
  refine wLw_law_1119 ⟨by constructor <;> omega, h.ar (by omega) (by omega), h.o, C_Seed h5 h8 fun g2 w2 e1 e2 f1 c2 => ⟨_, rfl, ?_⟩⟩
  have r : ∀ i, xIs g2 1 i ↔ xIs g 1 i := fun i => xIs_g e1
  have ar : ∀ {i : Int}, 0 ≤ i → i < L → xAr g2 1 i := fun p q => ⟨L, Or.inr ((r _).2 h.1), p, q⟩
  have m2 : MG g2 := h6.gg e1 (fun j => e2 193 j (by decide) (by decide) (by decide))
  have k2 := h7.fr (fun a j q => f1 a j (Or.inr q))
  have v : ∀ j, w2 1 j = w 1 j := fun j => f1 1 j (Or.inl (by decide))
  try simp only [v]
  exact ⟨by constructor <;> omega, ar (by omega) (by omega), m_o m2, M_Seed m2 k2 h8 fun w3 f3 k3 => ⟨_, rfl, fun _ => ⟨by constructor <;> omega, go _ _ _ (lw_fin h e1 e2 f1 c2 (I_Seed h8 h.v) f3 k3)⟩, fun z => absurd rfl z⟩⟩
theorem lw_1142 (h : LW L w0 X g w) (hk : 0 ≤ k ∧ k + 6 ≤ L) (go : LNx L w0 (d + 20) lim Q k) : aLw_law (d + 20) lim Q 1142 [xr 1, xr 2, xr 193, xi k] [] g w := by
  have h2 := h.2.1
  have h5 := h.2.2.2.2.1
  have h6 := h.2.2.2.2.2.1
  have h7 := h.2.2.2.2.2.2.1
  have h8 := h.2.2.2.2.2.2.2
  refine wLw_law_1142 ⟨by constructor <;> omega, h.ar (by omega) (by omega), h.o, C_Keep h5 h8 fun g2 w2 e1 e2 f1 c2 => ⟨_, rfl, ?_⟩⟩
  have r : ∀ i, xIs g2 1 i ↔ xIs g 1 i := fun i => xIs_g e1
  have ar : ∀ {i : Int}, 0 ≤ i → i < L → xAr g2 1 i := fun p q => ⟨L, Or.inr ((r _).2 h.1), p, q⟩
  have m2 : MG g2 := h6.gg e1 (fun j => e2 193 j (by decide) (by decide) (by decide))
  have k2 := h7.fr (fun a j q => f1 a j (Or.inr q))
  have v : ∀ j, w2 1 j = w 1 j := fun j => f1 1 j (Or.inl (by decide))
  try simp only [v]
  exact ⟨by constructor <;> omega, ar (by omega) (by omega), m_o m2, M_Keep m2 k2 h8 fun w3 f3 k3 => ⟨_, rfl, fun _ => ⟨by constructor <;> omega, go _ _ _ (lw_fin h e1 e2 f1 c2 (I_Keep h8) f3 k3)⟩, fun z => absurd rfl z⟩⟩
theorem lw_1165 (h : LW L w0 X g w) (hk : 0 ≤ k ∧ k + 6 ≤ L) (go : LNx L w0 (d + 20) lim Q k) : aLw_law (d + 20) lim Q 1165 [xr 1, xr 2, xr 193, xi k] [] g w := by
  have h2 := h.2.1
  have h5 := h.2.2.2.2.1
  have h6 := h.2.2.2.2.2.1
  have h7 := h.2.2.2.2.2.2.1
  have h8 := h.2.2.2.2.2.2.2
  refine wLw_law_1165 ⟨by constructor <;> omega, h.ar (by omega) (by omega), h.o, C_GoBack h5 h8 fun g2 w2 e1 e2 f1 c2 => ⟨_, rfl, ?_⟩⟩
  have r : ∀ i, xIs g2 1 i ↔ xIs g 1 i := fun i => xIs_g e1
  have ar : ∀ {i : Int}, 0 ≤ i → i < L → xAr g2 1 i := fun p q => ⟨L, Or.inr ((r _).2 h.1), p, q⟩
  have m2 : MG g2 := h6.gg e1 (fun j => e2 193 j (by decide) (by decide) (by decide))
  have k2 := h7.fr (fun a j q => f1 a j (Or.inr q))
  have v : ∀ j, w2 1 j = w 1 j := fun j => f1 1 j (Or.inl (by decide))
  try simp only [v]
  exact ⟨by constructor <;> omega, ar (by omega) (by omega), m_o m2, M_GoBack m2 k2 h8 fun w3 f3 k3 => ⟨_, rfl, fun _ => ⟨by constructor <;> omega, go _ _ _ (lw_fin h e1 e2 f1 c2 (I_GoBack h8) f3 k3)⟩, fun z => absurd rfl z⟩⟩
theorem lw_loop (hQ : ∀ g w, Q (some (xi 1)) g w) : ∀ (n : Nat) (k : Int) (X : zX) (g : xG) (w : xW), 0 ≤ k → k ≤ L + 6 → L + 6 ≤ k + n → LW L w0 X g w → aLw_law (d + 20) lim Q 18 [xr 1, xr 2, xr 193, xi k] [] g w := by
  intro n
  induction n with
  | zero =>
    intro k X g w h0 h1 hn h
    have h2 := h.2.1
    have el : xlen g 1 = L := by unfold xlen; rw [h.1.2]; rfl
    refine wLw_law_18 ?_
    rw [el]
    exact ⟨⟨3, L, h.1, by decide, by omega⟩, by constructor <;> omega, fun _ => ⟨Or.inr rfl, hQ _ _⟩, fun z => by omega⟩
  | succ n ih =>
    intro k X g w h0 h1 hn h
    have h2 := h.2.1
    have el : xlen g 1 = L := by unfold xlen; rw [h.1.2]; rfl
    refine wLw_law_18 ?_
    rw [el]
    refine ⟨⟨3, L, h.1, by decide, by omega⟩, by constructor <;> omega, fun _ => ⟨Or.inr rfl, hQ _ _⟩, fun z => ?_⟩
    have hk : 0 ≤ k ∧ k + 6 ≤ L := ⟨h0, by omega⟩
    have go : LNx L w0 (d + 20) lim Q k := fun X2 g2 w2 H => ih (k + 6) X2 g2 w2 (by omega) (by omega) (by omega) H
    exact ⟨h.ar (by omega) (by omega), fun _ => ⟨by constructor <;> omega, go _ _ _ h⟩, fun _ => lw_176 h hk go, fun _ => lw_199 h hk go, fun _ => lw_212 h hk go, fun _ => lw_225 h hk go, fun _ => lw_248 h hk go, fun _ => lw_291 h hk go, fun _ => lw_334 h hk go, fun _ => lw_367 h hk go, fun _ => lw_400 h hk go, fun _ => lw_433 h hk go, fun _ => lw_502 h hk go, fun _ => lw_525 h hk go, fun _ => lw_558 h hk go, fun _ => lw_581 h hk go, fun _ => lw_604 h hk go, fun _ => lw_627 h hk go, fun _ => lw_650 h hk go, fun _ => lw_703 h hk go, fun _ => lw_746 h hk go, fun _ => lw_789 h hk go, fun _ => lw_832 h hk go, fun _ => lw_895 h hk go, fun _ => lw_918 h hk go, fun _ => lw_961 h hk go, fun _ => lw_974 h hk go, fun _ => lw_1007 h hk go, fun _ => lw_1030 h hk go, fun _ => lw_1073 h hk go, fun _ => lw_1106 h hk go, fun _ => lw_1119 h hk go, fun _ => lw_1142 h hk go, fun _ => lw_1165 h hk go, trivial⟩
end LWA
