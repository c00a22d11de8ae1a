/-! ===== the world: all that a run of calls can show ===== -/
/-- 0 land, 1 state, 2 claims, 3 deeds, 4 and 5 images, 6: row 0 which are kept, row 1 the text, row 2: its length, where the fault was -/
abbrev zX : Type := Nat → zS
def zw (X : zX) (k : Nat) (v : zS) : zX := fun j => if j = k then v else X j
theorem zw_s {X : zX} {k : Nat} {v : zS} : zw X k v k = v := by simp [zw]
theorem zw_n {X : zX} {k j : Nat} {v : zS} (h : j ≠ k) : zw X k v j = X j := by simp [zw, h]
def StI (t s : zS) : Prop := SInv t s ∧ WInv t s ∧ s 12 2 ≤ 900060
def XI (X : zX) : Prop := LInv (X 0) ∧ StI (X 0) (X 1) ∧ PInv (X 0) (X 2) 12 0 59 ∧ PInv (X 0) (X 3) 8 1 60 ∧ (∀ i, i < 2 → (X 6 0 i = 0 ∨ X 6 0 i = 1) ∧ (X 6 0 i ≠ 0 → StI (X 0) (X (4 + i)))) ∧ (0 ≤ X 6 2 0 ∧ X 6 2 0 ≤ 260) ∧ ∀ j : Nat, (j : Int) < X 6 2 0 → 0 ≤ X 6 1 j ∧ X 6 1 j ≤ 255
def CK (X : zX) (kl kn kn2 : Nat) (w : xW) : Prop := RCl (X 0) kl w ∧ RCs (X 0) (X 1) kn w ∧ RP (X 2) 5 w ∧ RP (X 3) 9 w ∧ (∀ i, i < 2 → w 14 i = X 6 0 i ∧ (X 6 0 i ≠ 0 → RCs (X 0) (X (4 + i)) (167 + 13 * i) w)) ∧ (w 3 1 = X 6 2 0 ∧ ∀ j : Nat, (j : Int) < X 6 2 0 → w 4 j = X 6 1 j) ∧ w 3 5 = X 6 2 1 ∧ (0 ≤ w kn2 17 ∧ w kn2 17 ≤ 2147483647)
def CW (X : zX) (g : xG) (w : xW) : Prop := ∃ kl kn kl2 kn2, FG g kl kn kl2 kn2 ∧ TuG g ∧ MkG g ∧ CK X kl kn kn2 w
def MK (X : zX) (w : xW) : Prop := RMl (X 0) w ∧ RMs (X 0) (X 1) w ∧ w 193 50 = -1 ∧ RQ (X 2) 16 204 w ∧ RQ (X 3) 20 207 w ∧ (∀ i, i < 2 → w 196 i = X 6 0 i ∧ (X 6 0 i ≠ 0 → RMa (X 0) (X (4 + i)) 195 (143 * i) w)) ∧ (w 193 25 = X 6 2 0 ∧ ∀ j : Nat, (j : Int) < X 6 2 0 → w 210 j = X 6 1 j) ∧ w 193 26 = X 6 2 1
/-- what is owed behind a call of the class, of the reference -/
def CPo (X2 : zX) (o : Int) (g : xG) (w : xW) (Q : xQ) : Prop := ∀ g2 w2, g2.1 = g.1 → (∀ a j, a ≠ 2 → a ≠ 3 → a ≠ 41 → g2.2 a j = g.2 a j) → (∀ a j, (a < 2 ∨ 193 ≤ a) → w2 a j = w a j) → CW X2 g2 w2 → Q (some (xi o)) g2 w2
def MPo (X2 : zX) (o : Int) (g : xG) (w : xW) (Q : xQ) : Prop := ∀ w2, (∀ a j, a < 193 → w2 a j = w a j) → MK X2 w2 → Q (some (xi o)) g w2
section WDA
variable {X : zX} {g : xG} {w w2 : xW} {t s : zS} {kl kn kl2 kn2 : Nat} {Q : xQ} {o : Int}
/-- lands, states, papers where their places are the same -/
theorem RCl.e {k : Nat} (h : RCl t k w) (e : ∀ a j, k ≤ a → a ≤ k + 7 → w2 a j = w a j) : RCl t k w2 := by
  obtain ⟨l1, l2, l3, l4, l5, l6, l7, l8, l9, l10, l11⟩ := h
  refine ⟨by rw [e _ _ (by omega) (by omega), l1], by rw [e _ _ (by omega) (by omega), l2], by rw [e _ _ (by omega) (by omega), l3], by rw [e _ _ (by omega) (by omega), l4], by rw [e _ _ (by omega) (by omega), l5], by rw [e _ _ (by omega) (by omega), l6], fun c hc d hd => ?_, fun i q => ?_, fun i q => ?_, fun i q => ?_, fun i q => ?_⟩
  · rw [e _ _ (by omega) (by omega)]; exact l7 c hc d hd
  · rw [e _ _ (by omega) (by omega)]; exact l8 i q
  · rw [e _ _ (by omega) (by omega)]; exact l9 i q
  · rw [e _ _ (by omega) (by omega), e _ _ (by omega) (by omega)]; exact l10 i q
  · rw [e _ _ (by omega) (by omega), e _ _ (by omega) (by omega)]; exact l11 i q
theorem RCs.e {k : Nat} (h : RCs t s k w) (li : LInv t) (e : ∀ a j, k ≤ a → a ≤ k + 12 → w2 a j = w a j) : RCs t s k w2 := by
  refine ⟨fun r i q p1 p2 => ?_, fun c hc => ?_⟩
  · obtain ⟨b1, -, -⟩ := act_b li q
    have := cad_le r b1
    rw [e _ _ (by omega) (by omega)]; exact h.1 r i q p1 p2
  · rw [e _ _ (by omega) (by omega)]; exact h.2 c hc
theorem RP.e {P : zS} {k : Nat} (h : RP P k w) (e : ∀ a j, k ≤ a → a ≤ k + 3 → w2 a j = w a j) : RP P k w2 := by
  refine ⟨by rw [e _ _ (by omega) (by omega)]; exact h.1, fun i hi => ?_⟩
  rw [e _ _ (by omega) (by omega), e _ _ (by omega) (by omega), e _ _ (by omega) (by omega)]; exact h.2 i hi
/-- only scratch has changed -/
theorem CK.of (h : CK X kl kn kn2 w) (F : FG g kl kn kl2 kn2) (li : LInv (X 0)) (f : ∀ a j, (a < 15 ∨ 124 < a) → w2 a j = w a j) : CK X kl kn kn2 w2 := by
  have a := f_hl F
  have b := f_hn F
  obtain ⟨h1, h2, h3, h4, h5, ⟨h6, h7⟩, h8, h9⟩ := h
  refine ⟨h1.e fun a j p q => f a j (by omega), h2.e li fun a j p q => f a j (by omega), h3.e fun a j p q => f a j (by omega), h4.e fun a j p q => f a j (by omega), fun i hi => ⟨(f _ _ (by omega)).trans (h5 i hi).1, fun z => ((h5 i hi).2 z).e li fun a j p q => f a j (by omega)⟩, ⟨(f _ _ (by omega)).trans h6, fun j hj => (f _ _ (by omega)).trans (h7 j hj)⟩, (f _ _ (by omega)).trans h8, by rw [f _ _ (by omega)]; exact h9⟩
/-- only the state has changed -/
theorem CK.now {s2 : zS} (h : CK X kl kn kn2 w) (F : FG g kl kn kl2 kn2) (li : LInv (X 0)) (f : CF kn w w2) (hs : RCs (X 0) s2 kn w2) : CK (zw X 1 s2) kl kn kn2 w2 := by
  have a := f_hl F
  have b := f_hn F
  obtain ⟨h1, h2, h3, h4, h5, ⟨h6, h7⟩, h8, h9⟩ := h
  unfold CK
  rw [zw_n (by decide), zw_s, zw_n (by decide), zw_n (by decide), zw_n (by decide)]
  refine ⟨h1.e fun a j p q => f a j (by omega), hs, h3.e fun a j p q => f a j (by omega), h4.e fun a j p q => f a j (by omega), fun i hi => ⟨(f _ _ (by omega)).trans (h5 i hi).1, fun z => ?_⟩, ⟨(f _ _ (by omega)).trans h6, fun j hj => (f _ _ (by omega)).trans (h7 j hj)⟩, (f _ _ (by omega)).trans h8, by rw [f _ _ (by omega)]; exact h9⟩
  rw [zw_n (by omega)]
  exact ((h5 i hi).2 z).e li fun a j p q => f a j (by omega)
theorem CPo.same (h : CPo X o g w Q) (F : FG g kl kn kl2 kn2) (T : TuG g) (K : MkG g) (hk : CK X kl kn kn2 w) : Q (some (xi o)) g w := h g w rfl (fun _ _ _ _ _ => rfl) (fun _ _ _ => rfl) ⟨kl, kn, kl2, kn2, F, T, K, hk⟩
theorem CPo.scr (h : CPo X o g w Q) (F : FG g kl kn kl2 kn2) (T : TuG g) (K : MkG g) (hk : CK X kl kn kn2 w) (li : LInv (X 0)) (f : ∀ a j, (a < 15 ∨ 124 < a) → w2 a j = w a j) : Q (some (xi o)) g w2 := h g w2 rfl (fun _ _ _ _ _ => rfl) (fun a j q => f a j (by omega)) ⟨kl, kn, kl2, kn2, F, T, K, hk.of F li f⟩
theorem CPo.now {s2 : zS} (h : CPo (zw X 1 s2) o g w Q) (F : FG g kl kn kl2 kn2) (T : TuG g) (K : MkG g) (hk : CK X kl kn kn2 w) (li : LInv (X 0)) (f : CF kn w w2) (hs : RCs (X 0) s2 kn w2) : Q (some (xi o)) g w2 := by
  have b := f_hn F
  exact h g w2 rfl (fun _ _ _ _ _ => rfl) (fun a j q => f a j (by omega)) ⟨kl, kn, kl2, kn2, F, T, K, hk.now F li f hs⟩
theorem RMl.e (h : RMl t w) (e : ∀ a j, (a = 193 ∧ j ≤ 13) ∨ (198 ≤ a ∧ a ≤ 203) → w2 a j = w a j) : RMl t w2 := by
  obtain ⟨h1, h2, h3, h4, h5, h6, h7, h8, h9, h10⟩ := h
  refine ⟨by rw [e _ _ (by omega), h1], by rw [e _ _ (by omega), h2], by rw [e _ _ (by omega), h3], by rw [e _ _ (by omega), h4], by rw [e _ _ (by omega), h5], by rw [e _ _ (by omega), h6], fun i q => ?_, fun i q => ?_, fun i q => ?_, fun i q => ?_⟩
  · rw [e _ _ (by omega)]; exact h7 i q
  · rw [e _ _ (by omega)]; exact h8 i q
  · rw [e _ _ (by omega), e _ _ (by omega)]; exact h9 i q
  · rw [e _ _ (by omega), e _ _ (by omega)]; exact h10 i q
theorem RQ.e {P : zS} {c a : Nat} (h : RQ P c a w) (e1 : w2 193 c = w 193 c) (e : ∀ b j, a ≤ b → b ≤ a + 2 → w2 b j = w b j) : RQ P c a w2 := by
  refine ⟨e1.trans h.1, fun i hi => ?_⟩
  rw [e _ _ (by omega) (by omega), e _ _ (by omega) (by omega), e _ _ (by omega) (by omega)]; exact h.2 i hi
/-- the reference: only scratch, or the state, has changed -/
theorem MK.now {s2 : zS} (h : MK X w) (f : ∀ a j, a ≠ 194 → a ≠ 197 → a ≠ 217 → a ≠ 218 → (a = 193 → j ≠ 49) → w2 a j = w a j) (hs : RMs (X 0) s2 w2) : MK (zw X 1 s2) w2 := by
  obtain ⟨h1, h2, h3, h4, h5, h6, ⟨h7, h8⟩, h9⟩ := h
  have g1 : ∀ j, j ≠ 49 → w2 193 j = w 193 j := fun j q => f 193 j (by decide) (by decide) (by decide) (by decide) (fun _ => q)
  have g2 : ∀ a j, a ≠ 193 → a ≠ 194 → a ≠ 197 → a ≠ 217 → a ≠ 218 → w2 a j = w a j := fun a j p q r u v => f a j q r u v (fun z => absurd z p)
  unfold MK
  rw [zw_n (by decide), zw_s, zw_n (by decide), zw_n (by decide), zw_n (by decide)]
  refine ⟨h1.e fun a j q => ?_, hs, (g1 50 (by decide)).trans h3, h4.e (g1 16 (by decide)) fun b j p q => g2 b j (by omega) (by omega) (by omega) (by omega) (by omega), h5.e (g1 20 (by decide)) fun b j p q => g2 b j (by omega) (by omega) (by omega) (by omega) (by omega), fun i hi => ⟨(g2 196 i (by decide) (by decide) (by decide) (by decide) (by decide)).trans (h6 i hi).1, fun z => ?_⟩, ⟨(g1 25 (by decide)).trans h7, fun j hj => (g2 210 j (by decide) (by decide) (by decide) (by decide) (by decide)).trans (h8 j hj)⟩, (g1 26 (by decide)).trans h9⟩
  · rcases q with u | u
    · rw [u.1]; exact g1 j (by omega)
    · exact g2 a j (by omega) (by omega) (by omega) (by omega) (by omega)
  · rw [zw_n (by omega)]
    intro r j q
    rw [g2 195 _ (by decide) (by decide) (by decide) (by decide) (by decide)]
    exact (h6 i hi).2 z r j q
theorem zw_id {k : Nat} : zw X k (X k) = X := by
  funext j
  by_cases z : j = k
  · subst z; rw [zw_s]
  · rw [zw_n z]
theorem MPo.same (h : MPo X o g w Q) (hk : MK X w) : Q (some (xi o)) g w := h w (fun _ _ _ => rfl) hk
theorem MPo.now {s2 : zS} (h : MPo (zw X 1 s2) o g w Q) (hk : MK X w) (f : MF w w2) (hs : RMs (X 0) s2 w2) : Q (some (xi o)) g w2 := h w2 (fun a j q => f a j (by omega) (by omega) (by omega)) (hk.now (fun a j p _ r _ v => f a j p r v) hs)
theorem MPo.bk (h : MPo X o g w Q) (hk : MK X w) (f : MB w w2) (hs : RMs (X 0) (X 1) w2) : Q (some (xi o)) g w2 := h w2 (fun a j q => f a j (by omega) (by omega) (by omega) (by omega) (by omega)) (by have := hk.now f hs; rw [zw_id] at this; exact this)
theorem MPo.bk2 (h : MPo X o g w Q) (hk : MK X w) (li : LInv (X 0)) (f : MB w w2) (e : ∀ j, j < 143 → w2 194 j = w 194 j) : Q (some (xi o)) g w2 := h.bk hk f fun r i q => by rw [e _ (act_off li q)]; exact hk.2.1 r i q
end WDA
