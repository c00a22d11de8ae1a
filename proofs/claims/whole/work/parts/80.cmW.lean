/-! ===== commands wall and build ===== -/
/-- walls stand between cells alone -/
def WInv (t s : zS) : Prop := ∀ c : Nat, c < nC t → (nbr t c 2 = -1 → s 1 c = 0) ∧ (nbr t c 3 = -1 → s 2 c = 0)
def oBuild (t s : zS) (x y d e : Int) : Int × zS := if oRW t x y d = 0 then (s (1 + d.toNat) (cAt t x y).toNat, bld s d.toNat (cAt t x y).toNat (if e = 0 then 0 else 1)) else (oRW t x y d, s)
section CMW
variable {g : xG} {w w0 : xW} {t s s2 : zS} {d : Nat} {Q : xQ} {lim : Nat × Nat} {kl kn kl2 kn2 k kt : Nat} {x y e v : Int}
theorem oRW_0 (li : LInv t) (h : oRW t x y v = 0) : (0 ≤ cAt t x y ∧ cAt t x y < nC t) ∧ (v = 0 ∨ v = 1) ∧ nbr t (cAt t x y) (2 + v) ≠ -1 := by
  unfold oRW at h
  by_cases a : cAt t x y = -1
  · rw [if_pos a] at h; exact absurd h (by decide)
  · rw [if_neg a] at h
    by_cases b : 0 ≤ v ∧ v ≤ 1
    · rw [if_pos b] at h
      by_cases c : nbr t (cAt t x y) (2 + v) = -1
      · rw [if_pos c] at h; exact absurd h (by decide)
      · exact ⟨(cAt_r li).resolve_left a, by omega, c⟩
    · rw [if_neg b] at h; exact absurd h (by decide)
theorem cl_way (hQ : Q (some (xi (if v = 0 then 2 else 3))) g w) : cal (d + 1) nFf_wayOfWall [xi v] g w Q := by
  refine eFf_wayOfWall fun lim Q2 h2 => wFf_wayOfWall_0 ?_
  have hQ := h2 _ _ _ rfl hQ
  refine ⟨fun a => ?_, fun a => ?_⟩
  · rw [if_neg a] at hQ; exact hQ
  · rw [if_pos a] at hQ; exact hQ
theorem cl_beside (hT : TG g kt) (hl : RCl t kt w) (li : LInv t) {c : Int} (hc : 0 ≤ c ∧ c < nC t) {b : Int} (hb : 0 ≤ b ∧ b < 5) (hQ : Q (some (xi (nbr t c b))) g w) : cal (d + 1) nTw_beside [xr kt, xi c, xi b] g w Q := by
  refine eTw_beside fun lim Q2 h2 => wTw_beside_0 ?_
  have hQ := h2 _ _ _ rfl hQ
  obtain ⟨n1, n2, -⟩ := li_n li
  have en : w (kt + 1) (Int.toNat (c * 5 + b)) = nbr t c b := by
    obtain ⟨C, hC⟩ := z_nn hc.1
    obtain ⟨B, hB⟩ := z_nn hb.1
    subst hC; subst hB
    rw [show Int.toNat ((C : Int) * 5 + B) = C * 5 + B by omega]; exact hl.2.2.2.2.2.2.1 C (by omega) B (by omega)
  simp only [t_o hT, t_p6 hT, t_r6 hT, en, true_and]
  exact ⟨by constructor <;> omega, by constructor <;> omega, by constructor <;> omega, hQ⟩
theorem cl_refW (F : FG g kl kn kl2 kn2) (hl : RCl t kl w) (li : LInv t) (hQ : Q (some (xi (oRW t x y v))) g w) : cal (d + 2) nFf_refusalOfWall [xr 2, xi x, xi y, xi v] g w Q := by
  refine eFf_refusalOfWall fun lim Q2 h2 => wFf_refusalOfWall_0 ?_
  have hQ := h2 _ _ _ rfl hQ
  unfold oRW at hQ
  simp only [f_o F, f_p9 F, t_o (f_tl F), true_and]
  refine cl_cellAt (f_tl F) hl li ⟨_, rfl, fun a => ?_, fun a => ?_⟩
  · rw [if_neg a] at hQ
    have hc := (cAt_r (x := x) (y := y) li).resolve_left a
    simp only [f_o F, f_p9 F, t_o (f_tl F), true_and]
    refine ⟨fun b => ?_, fun b => ⟨fun b2 => cl_way ⟨_, rfl, t_o (f_tl F), ?_⟩, fun b2 => ?_⟩⟩
    · rw [if_neg (by omega)] at hQ; exact hQ
    · rw [if_pos (by omega)] at hQ
      rw [show (if v = 0 then (2 : Int) else 3) = 2 + v by split <;> omega]
      refine cl_beside (f_tl F) hl li hc (by omega) ⟨_, rfl, fun z => ?_, fun z => ?_⟩
      · rw [if_neg z] at hQ; exact hQ
      · rw [if_pos z] at hQ; exact hQ
    · rw [if_neg (by omega)] at hQ; exact hQ
  · rw [if_pos a] at hQ; exact hQ
theorem div_add (W : Int) (hW : 1 ≤ W ∧ W ≤ 6) (hx : 0 ≤ x ∧ x < W) : (y * W + x) / W = y ∧ (y * W + x) % W = x := by
  have : W = 1 ∨ W = 2 ∨ W = 3 ∨ W = 4 ∨ W = 5 ∨ W = 6 := by omega
  rcases this with q | q | q | q | q | q <;> subst q <;> omega
/-- the way east or south from a cell that is told by its x and y -/
theorem nbr_xy (li : LInv t) (h : (0 ≤ x ∧ x < t 0 0) ∧ 0 ≤ y ∧ y < t 0 1) : (nbr t (y * t 0 0 + x) 2 ≠ -1 ↔ x + 1 < t 0 0) ∧ (nbr t (y * t 0 0 + x) 3 ≠ -1 ↔ y + 1 < t 0 1) := by
  have hb := cAt_b li h
  obtain ⟨q1, q2⟩ := div_add (x := x) (y := y) (t 0 0) (by omega) h.1
  rw [nbr_2, nbr_3, q1, q2]
  constructor
  · by_cases z : x < t 0 0 - 1
    · rw [if_pos z]; omega
    · rw [if_neg z]; omega
  · by_cases z : y < t 0 1 - 1
    · rw [if_pos z]; omega
    · rw [if_neg z]; omega
theorem mo_notWall (hM : MG g) (hl : RMl t w) (li : LInv t) (hQ : Q (some (xi (oRW t x y v))) g w) : cal (d + 3) nMo_notWall [xr 193, xi x, xi y, xi v] g w Q := by
  refine eMo_notWall fun lim Q2 h2 => wMo_notWall_0 ?_
  have hQ := h2 _ _ _ rfl hQ
  simp only [m_o hM, true_and]
  refine mo_isCell hM hl li ⟨_, rfl, fun a => ?_, fun a => ?_⟩
  · have a := ifv.1 a
    unfold oRW cAt at hQ
    rw [if_neg a, if_pos rfl] at hQ; exact hQ
  · have a := ifv.2 a
    have hb := cAt_b li a
    have ec : cAt t x y = y * t 0 0 + x := by unfold cAt; rw [if_pos a]
    obtain ⟨e2, e3⟩ := nbr_xy li a
    rw [oRW, if_neg (by omega), ec] at hQ
    have b43 : (¬ v = 0 ∨ x + 1 < t 0 0) → (¬ v = 1 ∨ y + 1 < t 0 1) → aMo_notWall (d + 2) lim Q2 43 [none, none, none, xi v] [] g w := fun z0 z1 => by
      refine wMo_notWall_43 ?_
      refine mo_in ⟨_, rfl, fun b => ?_, fun b => ?_⟩
      · have b := ifv.1 b
        rw [if_neg b] at hQ; exact hQ
      · have b := ifv.2 b
        rw [if_pos b, if_neg] at hQ
        · exact hQ
        · rcases (by omega : v = 0 ∨ v = 1) with q | q
          · subst q; exact e2.2 (by omega)
          · subst q; exact e3.2 (by omega)
    have b24 : (¬ v = 0 ∨ x + 1 < t 0 0) → aMo_notWall (d + 2) lim Q2 24 [xr 193, xi x, xi y, xi v] [] g w := fun z0 => by
      refine wMo_notWall_24 ?_
      simp only [m_o hM, true_and]
      refine ⟨fun z => b43 z0 (Or.inl z), fun z => ⟨by constructor <;> omega, mo_isCell hM hl li ⟨_, rfl, fun b => b43 z0 (Or.inr ?_), fun b => ?_⟩⟩⟩
      · have b := ifv.2 b; omega
      · have b := ifv.1 b
        subst z
        rw [if_pos (by omega), if_pos] at hQ
        · exact hQ
        · exact Classical.byContradiction fun q => b (by have := e3.1 q; omega)
    simp only [m_o hM, true_and]
    refine ⟨fun z => b24 (Or.inl z), fun z => ⟨by constructor <;> omega, mo_isCell hM hl li ⟨_, rfl, fun b => ?_, fun b => b24 (Or.inr ?_)⟩⟩⟩
    · have b := ifv.1 b
      subst z
      rw [if_pos (by omega), if_pos] at hQ
      · exact hQ
      · exact Classical.byContradiction fun q => b (by have := e2.1 q; omega)
    · have b := ifv.2 b; omega
theorem cl_wallOf (hS : SG g k) (hs : RCs t s k w) (li : LInv t) (si : SInv t s) {c : Int} (hc : 0 ≤ c ∧ c < nC t) (hv : v = 0 ∨ v = 1) (hQ : Q (some (xi (bw1 t s c (2 + v)))) g w) : cal (d + 2) nSt_wallOf [xr k, xi c, xi v] g w Q := by
  refine eSt_wallOf fun lim Q2 h2 => wSt_wallOf_0 ?_
  have hQ := h2 _ _ _ rfl hQ
  obtain ⟨n1, n2, -⟩ := li_n li
  obtain ⟨C, hC⟩ := z_nn hc.1
  subst hC
  have eb : w (k + 5) (Int.toNat (C : Int)) = brd t s C := by rw [Int.toNat_natCast]; exact hs.2 C (by omega)
  simp only [s_o hS, s_p4 hS, s_r4 hS, eb, true_and]
  refine ⟨by constructor <;> omega, cl_way ⟨_, rfl, ?_⟩⟩
  rcases hv with q | q <;> subst q
  · exact qe hQ (brd_bit si C (d := 2) (by decide)).symm
  · exact qe hQ (brd_bit si C (d := 3) (by decide)).symm
theorem bw1_row (h : nbr t e (2 + v) ≠ -1) (hv : v = 0 ∨ v = 1) : bw1 t s e (2 + v) = s (1 + v.toNat) e.toNat := by
  unfold bw1
  rw [if_neg h]
  rcases hv with q | q <;> subst q <;> rfl
theorem cl_wall (F : FG g kl kn kl2 kn2) (hl : RCl t kl w) (hs : RCs t s kn w) (li : LInv t) (si : SInv t s) (hQ : Q (some (xi (oWall t s x y v))) g w) : cal (d + 3) nFf_wall [xr 2, xi x, xi y, xi v] g w Q := by
  refine eFf_wall fun lim Q2 h2 => wFf_wall_0 ?_
  have hQ := h2 _ _ _ rfl hQ
  unfold oWall at hQ
  simp only [f_o F, true_and]
  refine cl_refW F hl li ⟨_, rfl, fun a => ?_, fun a => ?_⟩
  · rw [if_pos a] at hQ
    obtain ⟨b1, b2, b3⟩ := oRW_0 li a
    simp only [f_o F, f_p9 F, f_p11 F, t_o (f_tl F), true_and]
    refine cl_cellAt (f_tl F) hl li ⟨_, rfl, s_o (f_sn F), cl_wallOf (f_sn F) hs li si b1 b2 ⟨_, rfl, ?_⟩⟩
    rw [bw1_row b3 b2]; exact hQ
  · rw [if_neg a] at hQ; exact hQ
theorem rw_row (li : LInv t) (hs : RMs t s w) (hc : 0 ≤ cAt t x y ∧ cAt t x y < nC t) (hv : v = 0 ∨ v = 1) {i : Nat} (hi : (i : Int) = 20 + 20 * v + cAt t x y) : w 194 i = s (1 + v.toNat) (cAt t x y).toNat := by
  obtain ⟨n1, n2, -⟩ := li_n li
  rcases hv with q | q <;> subst q
  · rw [show i = 20 + (cAt t x y).toNat by omega]; exact hs 1 (cAt t x y).toNat (show (cAt t x y).toNat < 20 by omega)
  · rw [show i = 40 + (cAt t x y).toNat by omega]; exact hs 2 (cAt t x y).toNat (show (cAt t x y).toNat < 20 by omega)
theorem cAt_xy (h : cAt t x y ≠ -1) : ((0 ≤ x ∧ x < t 0 0) ∧ 0 ≤ y ∧ y < t 0 1) ∧ cAt t x y = y * t 0 0 + x := by
  unfold cAt at h ⊢
  by_cases a : (0 ≤ x ∧ x < t 0 0) ∧ 0 ≤ y ∧ y < t 0 1
  · rw [if_pos a]; exact ⟨a, rfl⟩
  · rw [if_neg a] at h; exact absurd rfl h
theorem mo_wall (hM : MG g) (hl : RMl t w) (hs : RMs t s w) (li : LInv t) (hQ : Q (some (xi (oWall t s x y v))) g w) : cal (d + 4) nMo_wall [xr 193, xi x, xi y, xi v] g w Q := by
  refine eMo_wall fun lim Q2 h2 => wMo_wall_0 ?_
  have hQ := h2 _ _ _ rfl hQ
  have ew : w 193 4 = t 0 0 := hl.1
  obtain ⟨n1, n2, -⟩ := li_n li
  unfold oWall at hQ
  simp only [m_o hM, true_and]
  refine mo_notWall hM hl li ⟨_, rfl, fun a => ?_, fun a => ?_⟩
  · rw [if_pos a] at hQ
    obtain ⟨b1, b2, b3⟩ := oRW_0 li a
    obtain ⟨c1, c2⟩ := cAt_xy (t := t) (x := x) (y := y) (by omega)
    have hb := cAt_b li c1
    have er : w 194 (Int.toNat (20 + 20 * v + y * t 0 0 + x)) = _ := rw_row li hs b1 b2 (by omega)
    simp only [m_o hM, m_p0 hM, m_r0 hM, ew, Int.mul_comm (t 0 0) y, er, true_and]
    exact ⟨by constructor <;> omega, by constructor <;> omega, by constructor <;> omega, by constructor <;> omega, by constructor <;> omega, by constructor <;> omega, hQ⟩
  · rw [if_neg a] at hQ; exact hQ
theorem mo_build (hM : MG g) (hl : RMl t w) (hs : RMs t s w) (li : LInv t) (hQ : ∀ w2, MF w w2 → RMs t (oBuild t s x y v e).2 w2 → Q (some (xi (oBuild t s x y v e).1)) g w2) : cal (d + 4) nMo_build [xr 193, xi x, xi y, xi v, xi e] g w Q := by
  refine eMo_build fun lim Q2 h2 => wMo_build_0 ?_
  have hQ := fun w2 a b => h2 _ g w2 rfl (hQ w2 a b)
  have ew : w 193 4 = t 0 0 := hl.1
  obtain ⟨n1, n2, -⟩ := li_n li
  unfold oBuild at hQ
  simp only [m_o hM, true_and]
  refine mo_notWall hM hl li ⟨_, rfl, fun a => ?_, fun a => ?_⟩
  · rw [if_pos a] at hQ
    obtain ⟨b1, b2, b3⟩ := oRW_0 li a
    obtain ⟨c1, c2⟩ := cAt_xy (t := t) (x := x) (y := y) (by omega)
    have hb := cAt_b li c1
    have er : w 194 (Int.toNat (20 + 20 * v + y * t 0 0 + x)) = _ := rw_row li hs b1 b2 (by omega)
    have fin : ∀ u : Int, RMs t (bld s v.toNat (cAt t x y).toNat u) (xup w 194 (Int.toNat (20 + 20 * v + y * t 0 0 + x)) u) := fun u => by
      unfold bld
      rcases b2 with q | q <;> subst q
      · exact hs.put li (r := 1) (i := (cAt t x y).toNat) (show _ < 20 by omega) (by show _ = 20 + (cAt t x y).toNat; omega)
      · exact hs.put li (r := 2) (i := (cAt t x y).toNat) (show _ < 20 by omega) (by show _ = 40 + (cAt t x y).toNat; omega)
    simp only [m_o hM, m_p0 hM, m_r0 hM, m_a0 hM, ew, Int.mul_comm (t 0 0) y, er, true_and]
    refine ⟨by constructor <;> omega, by constructor <;> omega, by constructor <;> omega, by constructor <;> omega, by constructor <;> omega, by constructor <;> omega, fun z => ⟨by constructor <;> omega, ?_⟩, fun z => ⟨by constructor <;> omega, ?_⟩⟩
    · rw [if_pos z] at hQ; exact hQ _ (fun a j p _ _ => xup_a p) (fin 0)
    · rw [if_neg z] at hQ; exact hQ _ (fun a j p _ _ => xup_a p) (fin 1)
  · rw [if_neg a] at hQ; exact hQ w (fun _ _ _ _ _ => rfl) hs
theorem cl_setWallF (hS : SG g k) (hT : TG g kt) (hl : RCl t kt w) (hs : RCs t s k w) (li : LInv t) (si : SInv t s) {c : Int} (hc : 0 ≤ c ∧ c < nC t) (hv : v = 0 ∨ v = 1) (hn : nbr t c (2 + v) ≠ -1) (hQ : ∀ w2, (∀ a j, ¬ (a = k + 5 ∧ j < nC t) → w2 a j = w a j) → RCs t (bld s v.toNat c.toNat (if e = 0 then 0 else 1)) k w2 → Q none g w2) : cal (d + 2) nSt_setWall [xr k, xr kt, xi c, xi v, xi e] g w Q := by
  refine eSt_setWall fun lim Q2 h2 => wSt_setWall_0 ?_
  have hQ := fun w2 a b => h2 _ g w2 rfl (hQ w2 a b)
  obtain ⟨n1, n2, -⟩ := li_n li
  obtain ⟨C, hC⟩ := z_nn hc.1
  subst hC
  rw [Int.toNat_natCast] at hQ
  have gc := geo li hc
  have hu : (if e = 0 then (0 : Int) else 1) = 0 ∨ (if e = 0 then (0 : Int) else 1) = 1 := by split <;> omega
  -- the other cell, the two bits
  have main : ∀ (o b1 b2 : Nat), o < nC t → o ≠ C → (∀ j : Nat, j < nC t → brd t (bld s v.toNat C (if e = 0 then 0 else 1)) j = if j = C then bst1 (if e = 0 then 0 else 1) (brd t s C) b1 else if j = o then bst1 (if e = 0 then 0 else 1) (brd t s o) b2 else brd t s j) → aSt_setWall (d + 1) lim Q2 33 [xr k, none, xi C, none, xi e, xi (b1 : Int), xi (o : Int), none] [xi (b2 : Int)] g w := fun o b1 b2 ho hoc hb => by
    have eC : w (k + 5) (Int.toNat (C : Int)) = brd t s C := by rw [Int.toNat_natCast]; exact hs.2 C (by omega)
    have fin : ∀ u : Int, ∀ w1, u = (if e = 0 then 0 else 1) → w1 = xup (xup w (k + 5) (Int.toNat (C : Int)) (bst1 u (brd t s C) b1)) (k + 5) (Int.toNat (o : Int)) (bst1 u (brd t s o) b2) → Q2 none g w1 := fun u w1 hu1 hw1 => by
      subst hw1
      refine hQ _ (fun a j q => ?_) ⟨fun r i q p1 p2 => ?_, fun j hj => ?_⟩
      · rw [Int.toNat_natCast, Int.toNat_natCast]
        by_cases z : a = k + 5
        · subst z
          rw [xup_k (fun y => q ⟨rfl, by omega⟩), xup_k (fun y => q ⟨rfl, by omega⟩)]
        · rw [xup_a z, xup_a z]
      · obtain ⟨a1, -, -⟩ := act_b li q
        have := cad_5 r a1
        rw [xup_a (by omega), xup_a (by omega), bld_n (by rcases hv with z | z <;> subst z <;> simpa using by assumption)]
        exact hs.1 r i q p1 p2
      · rw [Int.toNat_natCast, Int.toNat_natCast, hb j hj, ← hu1]
        by_cases z : j = o
        · subst z; rw [xup_s, if_neg hoc, if_pos rfl]
        · rw [xup_k z]
          by_cases z2 : j = C
          · subst z2; rw [xup_s, if_pos rfl]
          · rw [xup_k z2, if_neg z2, if_neg z]; exact hs.2 j hj
    have b73 : ∀ u : Int, u = (if e = 0 then 0 else 1) → aSt_setWall (d + 1) lim Q2 73 [xr k, none, none, none, xi e, none, xi (o : Int), xi (b2 : Int)] [] g (xup w (k + 5) (Int.toNat (C : Int)) (bst1 u (brd t s C) b1)) := fun u hu1 => by
      refine wSt_setWall_73 ?_
      have eo : xup w (k + 5) (Int.toNat (C : Int)) (bst1 u (brd t s C) b1) (k + 5) (Int.toNat (o : Int)) = brd t s o := by
        rw [Int.toNat_natCast, Int.toNat_natCast, xup_k hoc]; exact hs.2 o ho
      simp only [s_o hS, s_p4 hS, s_r4 hS, s_a4 hS, eo, true_and]
      refine ⟨fun z => ⟨by constructor <;> omega, by constructor <;> omega, fin u _ hu1 ?_⟩, fun z => ⟨by constructor <;> omega, by constructor <;> omega, fin u _ hu1 ?_⟩⟩
      · rw [if_pos z] at hu1
        subst hu1; rfl
      · rw [if_neg z] at hu1
        subst hu1; rfl
    refine wSt_setWall_33 ?_
    simp only [s_o hS, s_p4 hS, s_r4 hS, eC, true_and]
    refine ⟨fun z => ⟨by constructor <;> omega, wSt_setWall_72 ?_⟩, fun z => ⟨by constructor <;> omega, wSt_setWall_72 ?_⟩⟩
    · simp only [s_o hS, s_a4 hS, true_and]
      exact ⟨by constructor <;> omega, b73 0 (by rw [if_pos z])⟩
    · simp only [s_o hS, s_a4 hS, true_and]
      exact ⟨by constructor <;> omega, b73 1 (by rw [if_neg z])⟩
  refine cl_way ⟨_, rfl, t_o hT, ?_⟩
  rw [show (if v = 0 then (2 : Int) else 3) = 2 + v by split <;> omega]
  refine cl_beside hT hl li hc (by omega) ⟨_, rfl, fun z => ?_, fun z => absurd z hn⟩
  rcases hv with q | q <;> subst q
  · have hm : (C : Int) % t 0 0 < t 0 0 - 1 := by
      refine Classical.byContradiction fun y => hn ?_
      show nbr t C 2 = -1
      rw [nbr_2, if_neg y]
    have en : nbr t C (2 + 0) = ((C + 1 : Nat) : Int) := by
      show nbr t C 2 = _
      rw [nbr_2, if_pos hm]; omega
    rw [en]
    refine ⟨fun y => absurd rfl y, fun _ => main (C + 1) 2 4 (by omega) (by omega) fun j hj => ?_⟩
    exact brd_E li si (by omega) hm hu hj
  · have hm : (C : Int) / t 0 0 < t 0 1 - 1 := by
      refine Classical.byContradiction fun y => hn ?_
      show nbr t C 3 = -1
      rw [nbr_3, if_neg y]
    obtain ⟨W, hW⟩ := z_nn (x := t 0 0) (by omega)
    have en : nbr t C (2 + 1) = ((C + W : Nat) : Int) := by
      show nbr t C 3 = _
      rw [nbr_3, if_pos hm]; omega
    rw [en]
    refine ⟨fun _ => main (C + W) 3 1 (by omega) (by omega) fun j hj => ?_, fun y => absurd y (by decide)⟩
    exact brd_S li si hW.symm (by omega) hm hu hj
theorem cl_setWall (hS : SG g k) (hT : TG g kt) (hl : RCl t kt w) (hs : RCs t s k w) (li : LInv t) (si : SInv t s) {c : Int} (hc : 0 ≤ c ∧ c < nC t) (hv : v = 0 ∨ v = 1) (hn : nbr t c (2 + v) ≠ -1) (hQ : ∀ w2, CF k w w2 → RCs t (bld s v.toNat c.toNat (if e = 0 then 0 else 1)) k w2 → Q none g w2) : cal (d + 2) nSt_setWall [xr k, xr kt, xi c, xi v, xi e] g w Q :=
  cl_setWallF hS hT hl hs li si hc hv hn fun w2 f2 s2 => hQ w2 (fun a j q => f2 a j (by omega)) s2
theorem cl_build (F : FG g kl kn kl2 kn2) (hl : RCl t kl w) (hs : RCs t s kn w) (li : LInv t) (si : SInv t s) (hQ : ∀ w2, CF kn w w2 → RCs t (oBuild t s x y v e).2 kn w2 → Q (some (xi (oBuild t s x y v e).1)) g w2) : cal (d + 3) nFf_build [xr 2, xi x, xi y, xi v, xi e] g w Q := by
  refine eFf_build fun lim Q2 h2 => wFf_build_0 ?_
  have hQ := fun w2 a b => h2 _ g w2 rfl (hQ w2 a b)
  unfold oBuild at hQ
  simp only [f_o F, true_and]
  refine cl_refW F hl li ⟨_, rfl, fun a => ?_, fun a => ?_⟩
  · rw [if_pos a] at hQ
    obtain ⟨b1, b2, b3⟩ := oRW_0 li a
    simp only [f_o F, f_p9 F, t_o (f_tl F), true_and]
    refine cl_cellAt (f_tl F) hl li ⟨_, rfl, ?_⟩
    simp only [f_o F, f_p11 F, s_o (f_sn F), true_and]
    refine cl_wallOf (f_sn F) hs li si b1 b2 ⟨_, rfl, ?_⟩
    simp only [f_o F, f_p9 F, f_p11 F, s_o (f_sn F), true_and]
    refine cl_setWall (f_sn F) (f_tl F) hl hs li si b1 b2 b3 fun w2 f2 s2 => ⟨rfl, ?_⟩
    rw [bw1_row b3 b2]; exact hQ w2 f2 s2
  · rw [if_neg a] at hQ; exact hQ w CF.refl hs
/-- walls keep all bounds -/
theorem si_bld (si : SInv t s) {D c : Nat} (hc : c < nC t) (hD : D ≤ 1) (hv : v = 0 ∨ v = 1) : SInv t (bld s D c v) := by
  obtain ⟨h1, h2, h3, h4, h5, h6, h7, h8, h9, h10⟩ := si
  have e : ∀ r j, r ≠ 1 → r ≠ 2 → bld s D c v r j = s r j := fun r j q q2 => bld_n (by omega)
  have z : ∀ r j, r = 1 ∨ r = 2 → bld s D c v r j = s r j ∨ (j = c ∧ bld s D c v r j = v) := fun r j q => by
    by_cases y : r = 1 + D
    · subst y
      rw [bld_e]
      by_cases y2 : j = c
      · subst y2; exact Or.inr ⟨rfl, zup_s⟩
      · exact Or.inl (zup_n y2)
    · exact Or.inl (bld_n y)
  refine ⟨fun j hj => ?_, fun j => ⟨?_, ?_⟩, fun j hj => ⟨?_, ?_⟩, fun j hj => ?_, fun j hj => ?_, ?_, ?_, ?_, ?_, ?_⟩
  · rw [e 0 j (by decide) (by decide), e 3 j (by decide) (by decide), e 4 j (by decide) (by decide), e 12 2 (by decide) (by decide)]; exact h1 j hj
  · rcases z 1 j (Or.inl rfl) with q | q
    · rw [q]; exact (h2 j).1
    · rw [q.2]; exact hv
  · rcases z 2 j (Or.inr rfl) with q | q
    · rw [q]; exact (h2 j).2
    · rw [q.2]; exact hv
  · rcases z 1 j (Or.inl rfl) with q | q
    · rw [q]; exact (h3 j hj).1
    · omega
  · rcases z 2 j (Or.inr rfl) with q | q
    · rw [q]; exact (h3 j hj).2
    · omega
  · rw [e 5 j (by decide) (by decide), e 6 j (by decide) (by decide)]; exact h4 j hj
  · rw [e 7 j (by decide) (by decide), e 8 j (by decide) (by decide), e 9 j (by decide) (by decide), e 10 j (by decide) (by decide), e 11 j (by decide) (by decide)]; exact h5 j hj
  · rw [e 12 0 (by decide) (by decide)]; exact h6
  · rw [e 12 1 (by decide) (by decide)]; exact h7
  · rw [e 12 2 (by decide) (by decide)]; exact h8
  · rw [e 12 3 (by decide) (by decide)]; exact h9
  · rw [e 12 4 (by decide) (by decide)]; exact h10
theorem si_build (li : LInv t) (si : SInv t s) : SInv t (oBuild t s x y v e).2 := by
  unfold oBuild
  by_cases a : oRW t x y v = 0
  · rw [if_pos a]
    obtain ⟨b1, b2, b3⟩ := oRW_0 li a
    exact si_bld si (by omega) (by omega) (by split <;> omega)
  · rw [if_neg a]; exact si
theorem WInv.of (h : WInv t s) (e1 : ∀ i, s2 1 i = s 1 i) (e2 : ∀ i, s2 2 i = s 2 i) : WInv t s2 := fun c hc => by rw [e1, e2]; exact h c hc
theorem wi_build (li : LInv t) (wi : WInv t s) : WInv t (oBuild t s x y v e).2 := by
  unfold oBuild
  by_cases a : oRW t x y v = 0
  · rw [if_pos a]
    obtain ⟨b1, b2, b3⟩ := oRW_0 li a
    intro c hc
    have wc := wi c hc
    rcases b2 with q | q <;> subst q
    · refine ⟨fun z => ?_, fun z => ?_⟩
      · show bld s 0 (cAt t x y).toNat (if e = 0 then 0 else 1) 1 c = 0
        have := bld_e (s := s) (d := 0) (c := (cAt t x y).toNat) (v := if e = 0 then 0 else 1) (i := c)
        rw [show bld s 0 (cAt t x y).toNat (if e = 0 then 0 else 1) 1 c = _ from this, zup_n]
        · exact wc.1 z
        · intro y2
          apply b3
          rw [show cAt t x y = (c : Int) by omega]; exact z
      · show bld s 0 (cAt t x y).toNat (if e = 0 then 0 else 1) 2 c = 0
        rw [bld_n (by decide)]; exact wc.2 z
    · refine ⟨fun z => ?_, fun z => ?_⟩
      · show bld s 1 (cAt t x y).toNat (if e = 0 then 0 else 1) 1 c = 0
        rw [bld_n (by decide)]; exact wc.1 z
      · show bld s 1 (cAt t x y).toNat (if e = 0 then 0 else 1) 2 c = 0
        have := bld_e (s := s) (d := 1) (c := (cAt t x y).toNat) (v := if e = 0 then 0 else 1) (i := c)
        rw [show bld s 1 (cAt t x y).toNat (if e = 0 then 0 else 1) 2 c = _ from this, zup_n]
        · exact wc.2 z
        · intro y2
          apply b3
          rw [show cAt t x y = (c : Int) by omega]; exact z
  · rw [if_neg a]; exact wi
end CMW
