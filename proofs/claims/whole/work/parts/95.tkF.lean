/-! ===== the class: a town's size ===== -/
section TKF
variable {g : xG} {w w0 : xW} {t s : zS} {d : Nat} {Q : xQ} {lim : Nat × Nat} {kl kn : Nat} {x y : Int}
theorem cl_cellAt2 (hT : TG g kl) (e0 : w kl 0 = t 0 0) (e1 : w kl 1 = t 0 1) (li : LInv t) (hQ : Q (some (xi (cAt t x y))) g w) : cal (d + 1) nTw_cellAt [xr kl, xi x, xi y] g w Q := by
  refine eTw_cellAt fun lim Q2 h2 => wTw_cellAt_0 ?_
  have hQ := h2 _ _ _ rfl hQ
  unfold cAt at hQ
  simp only [t_o hT, true_and, e0, e1]
  refine ⟨fun q => qe hQ ?_, fun q => ⟨fun q2 => qe hQ ?_, fun q2 => ⟨fun q3 => qe hQ ?_, fun q3 => ⟨fun q4 => qe hQ ?_, fun q4 => ?_⟩⟩⟩⟩
  · rw [if_neg (by omega)]
  · rw [if_neg (by omega)]
  · rw [if_neg (by omega)]
  · rw [if_neg (by omega)]
  · have h : (0 ≤ x ∧ x < t 0 0) ∧ 0 ≤ y ∧ y < t 0 1 := by omega
    have hb := cAt_b li h
    exact ⟨by constructor <;> omega, by constructor <;> omega, qe hQ (if_pos h)⟩
/-- the cells beside one, by x and y -/
theorem nbr_cAt (li : LInv t) (h : (0 ≤ x ∧ x < t 0 0) ∧ 0 ≤ y ∧ y < t 0 1) : nbr t (y * t 0 0 + x) 0 = cAt t x y ∧ nbr t (y * t 0 0 + x) 1 = cAt t x (y - 1) ∧ nbr t (y * t 0 0 + x) 2 = cAt t (x + 1) y ∧ nbr t (y * t 0 0 + x) 3 = cAt t x (y + 1) ∧ nbr t (y * t 0 0 + x) 4 = cAt t (x - 1) y := by
  have hb := cAt_b li h
  obtain ⟨q1, q2⟩ := div_add (x := x) (y := y) (t 0 0) (by omega) h.1
  have m1 : (y - 1) * t 0 0 = y * t 0 0 - t 0 0 := by rw [Int.sub_mul, Int.one_mul]
  have m2 : (y + 1) * t 0 0 = y * t 0 0 + t 0 0 := by rw [Int.add_mul, Int.one_mul]
  refine ⟨?_, ?_, ?_, ?_, ?_⟩
  · unfold nbr cAt
    rw [if_neg (by decide), if_neg (by decide), if_neg (by decide), if_neg (by decide), if_pos h]
  · unfold nbr cAt
    rw [if_pos rfl, q1]
    by_cases z : 0 < y
    · rw [if_pos z, if_pos (by omega), m1]; omega
    · rw [if_neg z, if_neg (by omega)]
  · rw [nbr_2, q2]
    unfold cAt
    by_cases z : x < t 0 0 - 1
    · rw [if_pos z, if_pos (by omega)]; omega
    · rw [if_neg z, if_neg (by omega)]
  · rw [nbr_3, q1]
    unfold cAt
    by_cases z : y < t 0 1 - 1
    · rw [if_pos z, if_pos (by omega), m2]; omega
    · rw [if_neg z, if_neg (by omega)]
  · have e4 : nbr t (y * t 0 0 + x) 4 = if 0 < (y * t 0 0 + x) % t 0 0 then y * t 0 0 + x - 1 else -1 := by unfold nbr; rw [if_neg (by decide), if_neg (by decide), if_neg (by decide), if_pos rfl]
    rw [e4, q2]
    unfold cAt
    by_cases z : 0 < x
    · rw [if_pos z, if_pos (by omega)]; omega
    · rw [if_neg z, if_neg (by omega)]
def SZ (t : zS) (kl : Nat) (w0 : xW) (N : Nat) (w : xW) : Prop := (∀ a j, a ≠ kl + 1 → w a j = w0 a j) ∧ ∀ c, c < N → ∀ d, d < 5 → w (kl + 1) (c * 5 + d) = nbr t c d
theorem cl_size20 {W H Y : Nat} (hT : TG g kl) (li : LInv t) (h0 : t 0 0 = W) (h1 : t 0 1 = H) (hW : W * H ≤ 20) (hY : Y < H) (e0 : w0 kl 0 = W) (e1 : w0 kl 1 = H) (hk : ∀ w, SZ t kl w0 ((Y + 1) * W) w → aTw_setSize (d + 1) lim Q 12 [xr kl, xi W, xi H, xi ((Y + 1 : Nat) : Int), none, none] [] g w) : ∀ (n X : Nat) (w : xW), X + n = W → SZ t kl w0 (Y * W + X) w → aTw_setSize (d + 1) lim Q 20 [xr kl, xi W, xi H, xi Y, xi X, none] [] g w
  | 0, X, w, hX, hs => by
    have hX : X = W := by omega
    subst hX
    have hYH : (H : Int) ≤ 6 := by rw [← h1]; rcases li.1 with q | q <;> omega
    refine wTw_setSize_20 ?_
    simp only [t_o hT, true_and]
    refine ⟨fun _ => ⟨by constructor <;> omega, ?_⟩, fun h => by omega⟩
    rw [show ((Y : Int) + 1) = ((Y + 1 : Nat) : Int) by omega]
    refine hk w ⟨hs.1, fun c hc => hs.2 c ?_⟩
    rw [Nat.add_mul, Nat.one_mul] at hc; omega
  | n + 1, X, w, hX, hs => by
    have hWH : (W : Int) ≤ 6 ∧ (H : Int) ≤ 6 := by rw [← h0, ← h1]; rcases li.1 with q | q <;> omega
    have hxy : (0 ≤ (X : Int) ∧ (X : Int) < t 0 0) ∧ 0 ≤ (Y : Int) ∧ (Y : Int) < t 0 1 := by omega
    have hb := cAt_b li hxy
    obtain ⟨b0, b1, b2, b3, b4⟩ := nbr_cAt li hxy
    have hc : (Y : Int) * t 0 0 + X = ((Y * W + X : Nat) : Int) := by rw [h0]; omega
    rw [hc] at b0 b1 b2 b3 b4 hb
    have hcc : cAt t X Y = ((Y * W + X : Nat) : Int) := by unfold cAt; rw [if_pos hxy]; exact hc
    have hlt : Y * W + X < 20 := by
      have n2 := (li_n li).2.1
      omega
    generalize hC : Y * W + X = C at *
    have hT6 : ∀ i : Int, xA1 g (kl + 1) i ↔ (0 ≤ i ∧ i < 100) := t_a6 hT
    have f0 : ∀ {w1 : xW}, (∀ a j, a ≠ kl + 1 → w1 a j = w0 a j) → w1 kl 0 = t 0 0 ∧ w1 kl 1 = t 0 1 := fun f => ⟨by rw [f _ _ (by omega), e0, h0], by rw [f _ _ (by omega), e1, h1]⟩
    refine wTw_setSize_20 ?_
    simp only [t_o hT, true_and]
    refine ⟨fun h => by omega, fun _ => cl_cellAt2 hT (f0 hs.1).1 (f0 hs.1).2 li ⟨_, rfl, ?_⟩⟩
    rw [hcc]
    simp only [t_o hT, t_p6 hT, true_and]
    refine ⟨by constructor <;> omega, by constructor <;> omega, cl_cellAt2 hT (f0 hs.1).1 (f0 hs.1).2 li ⟨_, rfl, ?_⟩⟩
    simp only [hT6, true_and]
    refine ⟨by constructor <;> omega, ?_⟩
    rw [show Int.toNat ((C : Int) * 5 + 0) = C * 5 + 0 by omega]
    have g1 : ∀ a j, a ≠ kl + 1 → xup w (kl + 1) (C * 5 + 0) (cAt t X Y) a j = w0 a j := fun a j q => by rw [xup_a q]; exact hs.1 a j q
    refine wTw_setSize_53 ?_
    simp only [t_o hT, t_p6 hT, true_and]
    refine ⟨by constructor <;> omega, by constructor <;> omega, cl_cellAt2 hT (f0 g1).1 (f0 g1).2 li ⟨_, rfl, ?_⟩⟩
    simp only [hT6, true_and]
    refine ⟨by constructor <;> omega, ?_⟩
    rw [show Int.toNat ((C : Int) * 5 + 1) = C * 5 + 1 by omega]
    have g2 : ∀ a j, a ≠ kl + 1 → xup (xup w (kl + 1) (C * 5 + 0) (cAt t X Y)) (kl + 1) (C * 5 + 1) (cAt t X ((Y : Int) - 1)) a j = w0 a j := fun a j q => by rw [xup_a q]; exact g1 a j q
    refine wTw_setSize_71 ?_
    simp only [t_o hT, t_p6 hT, true_and]
    refine ⟨by constructor <;> omega, by constructor <;> omega, cl_cellAt2 hT (f0 g2).1 (f0 g2).2 li ⟨_, rfl, ?_⟩⟩
    simp only [hT6, true_and]
    refine ⟨by constructor <;> omega, ?_⟩
    rw [show Int.toNat ((C : Int) * 5 + 2) = C * 5 + 2 by omega]
    have g3 : ∀ a j, a ≠ kl + 1 → xup (xup (xup w (kl + 1) (C * 5 + 0) (cAt t X Y)) (kl + 1) (C * 5 + 1) (cAt t X ((Y : Int) - 1))) (kl + 1) (C * 5 + 2) (cAt t ((X : Int) + 1) Y) a j = w0 a j := fun a j q => by rw [xup_a q]; exact g2 a j q
    refine wTw_setSize_89 ?_
    simp only [t_o hT, t_p6 hT, true_and]
    refine ⟨by constructor <;> omega, by constructor <;> omega, cl_cellAt2 hT (f0 g3).1 (f0 g3).2 li ⟨_, rfl, ?_⟩⟩
    simp only [hT6, true_and]
    refine ⟨by constructor <;> omega, ?_⟩
    rw [show Int.toNat ((C : Int) * 5 + 3) = C * 5 + 3 by omega]
    have g4 : ∀ a j, a ≠ kl + 1 → xup (xup (xup (xup w (kl + 1) (C * 5 + 0) (cAt t X Y)) (kl + 1) (C * 5 + 1) (cAt t X ((Y : Int) - 1))) (kl + 1) (C * 5 + 2) (cAt t ((X : Int) + 1) Y)) (kl + 1) (C * 5 + 3) (cAt t X ((Y : Int) + 1)) a j = w0 a j := fun a j q => by rw [xup_a q]; exact g3 a j q
    refine wTw_setSize_107 ?_
    simp only [t_o hT, t_p6 hT, true_and]
    refine ⟨by constructor <;> omega, by constructor <;> omega, cl_cellAt2 hT (f0 g4).1 (f0 g4).2 li ⟨_, rfl, ?_⟩⟩
    simp only [hT6, true_and]
    refine ⟨by constructor <;> omega, by constructor <;> omega, ?_⟩
    rw [show Int.toNat ((C : Int) * 5 + 4) = C * 5 + 4 by omega, show ((X : Int) + 1) = ((X + 1 : Nat) : Int) by omega]
    refine cl_size20 hT li h0 h1 hW hY e0 e1 hk n (X + 1) _ (by omega) ⟨fun a j q => by rw [xup_a q]; exact g4 a j q, fun c hc d hd => ?_⟩
    by_cases z : c = C
    · subst z
      rcases (by omega : d = 0 ∨ d = 1 ∨ d = 2 ∨ d = 3 ∨ d = 4) with u | u | u | u | u <;> subst u
      · rw [xup_k (by omega), xup_k (by omega), xup_k (by omega), xup_k (by omega), xup_s]; exact b0.symm
      · rw [xup_k (by omega), xup_k (by omega), xup_k (by omega), xup_s]; exact b1.symm
      · rw [xup_k (by omega), xup_k (by omega), xup_s]; exact b2.symm
      · rw [xup_k (by omega), xup_s]; exact b3.symm
      · rw [xup_s]; exact b4.symm
    · rw [xup_k (by omega), xup_k (by omega), xup_k (by omega), xup_k (by omega), xup_k (by omega)]
      exact hs.2 c (by omega) d hd
theorem cl_size12 {W H : Nat} (hT : TG g kl) (li : LInv t) (h0 : t 0 0 = W) (h1 : t 0 1 = H) (hW : W * H ≤ 20) (e0 : w0 kl 0 = W) (e1 : w0 kl 1 = H) (hk : ∀ w, SZ t kl w0 (H * W) w → Q none g w) : ∀ (n Y : Nat) (w : xW), Y + n = H → SZ t kl w0 (Y * W) w → aTw_setSize (d + 1) lim Q 12 [xr kl, xi W, xi H, xi Y, none, none] [] g w
  | 0, Y, w, hY, hs => by
    have hY : Y = H := by omega
    subst hY
    exact wTw_setSize_12 ⟨fun _ => hk w hs, fun h => by omega⟩
  | n + 1, Y, w, hY, hs => by
    refine wTw_setSize_12 ⟨fun h => by omega, fun _ => ?_⟩
    exact cl_size20 hT li h0 h1 hW (by omega) e0 e1 (fun w2 s2 => cl_size12 hT li h0 h1 hW e0 e1 hk n (Y + 1) w2 (by omega) s2) W 0 w (by omega) hs
theorem cl_setSize {W H : Nat} (hT : TG g kl) (li : LInv t) (h0 : t 0 0 = W) (h1 : t 0 1 = H) (hW : W * H ≤ 20) (hQ : ∀ w2 : xW, (∀ a j, a ≠ kl + 1 → (a = kl → j ≠ 0 ∧ j ≠ 1) → w2 a j = w a j) → w2 kl 0 = (W : Int) → w2 kl 1 = (H : Int) → (∀ c : Nat, c < W * H → ∀ d : Nat, d < 5 → w2 (kl + 1) (c * 5 + d) = nbr t c d) → Q none g w2) : cal (d + 2) nTw_setSize [xr kl, xi W, xi H] g w Q := by
  refine eTw_setSize fun lim Q2 h2 => wTw_setSize_0 ?_
  have hQ := fun w2 a b c d => h2 _ g w2 rfl (hQ w2 a b c d)
  simp only [t_o hT, true_and]
  refine wTw_setSize_5 ?_
  simp only [t_o hT, true_and]
  have f : ∀ a j, (a = kl → j ≠ 0 ∧ j ≠ 1) → xup (xup w kl 0 (W : Int)) kl 1 (H : Int) a j = w a j := fun a j q => by
    by_cases z : a = kl
    · subst z
      rw [xup_k (q rfl).2, xup_k (q rfl).1]
    · rw [xup_a z, xup_a z]
  have f0 : xup (xup w kl 0 (W : Int)) kl 1 (H : Int) kl 0 = W := by rw [xup_k (by decide), xup_s]
  have f1 : xup (xup w kl 0 (W : Int)) kl 1 (H : Int) kl 1 = H := xup_s
  generalize xup (xup w kl 0 (W : Int)) kl 1 (H : Int) = w1 at f f0 f1
  refine cl_size12 hT li h0 h1 hW f0 f1 (fun w2 s2 => hQ w2 (fun a j p q => (s2.1 a j p).trans (f a j q)) ((s2.1 _ _ (by omega)).trans f0) ((s2.1 _ _ (by omega)).trans f1) fun c hc => s2.2 c (by rw [Nat.mul_comm]; exact hc)) H 0 w1 (by omega) ⟨fun _ _ _ => rfl, fun c hc => by omega⟩
end TKF
