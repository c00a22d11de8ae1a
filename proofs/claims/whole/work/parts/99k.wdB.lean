/-! ===== printed by wip/gen/world.py: the commands as steps of the world ===== -/
def xCell (X : zX) (x : Int) (y : Int) (q : Int) : Int × zX := (oCell (X 0) (X 1) x y q, X)
def xStove (X : zX) (v : Int) (q : Int) : Int × zX := (oStove (X 0) (X 1) v q, X)
def xPerson (X : zX) (v : Int) (q : Int) : Int × zX := (oPerson (X 0) (X 1) v q, X)
def xWall (X : zX) (x : Int) (y : Int) (v : Int) : Int × zX := (oWall (X 0) (X 1) x y v, X)
def xTold (X : zX) (q : Int) : Int × zX := (oTold (X 0) (X 1) (X 2) (X 3) (X 6 2 0) q, X)
def xLaw (X : zX) (v : Int) : Int × zX := ((oLaw (X 1) v).1, zw X 1 (oLaw (X 1) v).2)
def xLast (X : zX) (v : Int) : Int × zX := ((oLast (X 1) v).1, zw X 1 (oLast (X 1) v).2)
def xSeed (X : zX) (v : Int) : Int × zX := ((oSeed (X 1) v).1, zw X 1 (oSeed (X 1) v).2)
def xStoke (X : zX) (v : Int) (f : Int) : Int × zX := ((oStoke (X 0) (X 1) v f).1, zw X 1 (oStoke (X 0) (X 1) v f).2)
def xLight (X : zX) (v : Int) : Int × zX := ((oLight (X 0) (X 1) v).1, zw X 1 (oLight (X 0) (X 1) v).2)
def xGo (X : zX) (v : Int) (y : Int) : Int × zX := ((oGo (X 0) (X 1) v y).1, zw X 1 (oGo (X 0) (X 1) v y).2)
def xMinute (X : zX) (v : Int) : Int × zX := ((oMinute (X 0) (X 1) v).1, zw X 1 (oMinute (X 0) (X 1) v).2)
def xDrift (X : zX) (v : Int) : Int × zX := ((oDrift (X 0) (X 1) v).1, zw X 1 (oDrift (X 0) (X 1) v).2)
def xBuild (X : zX) (x : Int) (y : Int) (v : Int) (e : Int) : Int × zX := ((oBuild (X 0) (X 1) x y v e).1, zw X 1 (oBuild (X 0) (X 1) x y v e).2)
def xThen (X : zX) (x : Int) (y : Int) (n : Int) (q : Int) : Int × zX := (oThen (X 0) (X 1) x y n q, X)
def xKept (X : zX) (p : Int) (k : Int) (n : Int) : Int × zX := (oKept (X 0) (X 1) p k n, X)
def xLightFor (X : zX) (p : Int) (k : Int) (n : Int) : Int × zX := (oLightFor (X 0) (X 1) p k n, X)
def xGain (X : zX) (p : Int) (x : Int) (y : Int) (v : Int) (n : Int) : Int × zX := (oGain (X 0) (X 1) p x y v n, X)
def xForged (X : zX) : Int × zX := (oForged (X 0) (X 1) (X 2), X)
def xWasLit (X : zX) (k : Int) (i : Int) : Int × zX := (oWasLit (X 0) (X 1) (X 3) k i, X)
def xCold (X : zX) (v : Int) (n : Int) : Int × zX := (oCold (X 0) (X 1) v n, X)
def xMild (X : zX) (n : Int) : Int × zX := (oMild (X 0) (X 1) n, X)
def xRents (X : zX) (p : Int) : Int × zX := (oRents (X 0) (X 1) p, X)
def xStands (X : zX) (p : Int) (n : Int) (i : Int) : Int × zX := (oStands (X 0) (X 1) p n i, X)
def xClaim (X : zX) (p : Int) (v : Int) (m : Int) : Int × zX := ((oClaim (X 0) (X 2) p v m).1, zw X 2 (oClaim (X 0) (X 2) p v m).2)
def xDeed (X : zX) (p : Int) (v : Int) (m : Int) : Int × zX := ((oDeed (X 0) (X 3) p v m).1, zw X 3 (oDeed (X 0) (X 3) p v m).2)
def xTear (X : zX) : Int × zX := (X 2 0 0 + X 3 0 0, zw (zw X 2 (emp (X 2))) 3 (emp (X 3)))
section WDP
variable {X : zX} {g : xG} {w w2 : xW} {t s : zS} {kl kn kl2 kn2 : Nat} {p v m : Int} {numb : Int}
theorem step_12 {r i : Nat} (h : r = 1 ∨ r = 2) : step t numb s r i = s r i := by
  unfold step stF
  rw [zset_n (by omega), zset_n (by omega), owe_o (by omega) (by omega)]
  unfold stD
  rw [zset_n (by omega)]
  unfold stC
  rw [zset_n (by omega)]
  unfold stB
  rw [zset_n (by omega), zset_n (by omega)]
  unfold stA
  rw [zset_n (by omega), zset_n (by omega), zset_n (by omega)]
theorem steps_12 {r i : Nat} (h : r = 1 ∨ r = 2) : ∀ n, steps t numb n s r i = s r i
  | 0 => rfl
  | n + 1 => by rw [steps_s, step_12 h]; exact steps_12 h n
theorem wi_minute (wi : WInv t s) : WInv t (oMinute t s v).2 := by
  rcases min_cases (t := t) (s := s) v with ⟨-, a, b⟩ | ⟨-, b⟩
  · rw [b]; exact wi.of (fun i => steps_12 (Or.inl rfl) _) (fun i => steps_12 (Or.inr rfl) _)
  · rw [b]; exact wi
theorem wnU_12 {r i : Nat} (h : r = 1 ∨ r = 2) : ∀ n, wnU t s n r i = s r i
  | 0 => rfl
  | n + 1 => by
    rw [wnU, wn1]
    split
    · rw [sdr_o (by omega)]; exact wnU_12 h n
    · rw [zset_n (by omega), sdr_o (by omega)]; exact wnU_12 h n
theorem wnd_12 {r i : Nat} (h : r = 1 ∨ r = 2) : wnd t s r i = s r i := by
  unfold wnd wnL
  split
  · split
    · unfold lit; rw [zset_n (by omega), sdr_o (by omega), sdr_o (by omega)]; exact wnU_12 h _
    · rw [sdr_o (by omega), sdr_o (by omega)]; exact wnU_12 h _
  · rw [sdr_o (by omega)]; exact wnU_12 h _
theorem dfs_12 {r i : Nat} (h : r = 1 ∨ r = 2) : ∀ n, dfs t n s r i = s r i
  | 0 => rfl
  | n + 1 => by rw [dfs, step_12 h, wnd_12 h]; exact dfs_12 h n
theorem wi_drift (wi : WInv t s) : WInv t (oDrift t s v).2 := by
  rcases drf_cases (t := t) (s := s) v with ⟨-, a, b⟩ | ⟨-, b⟩
  · rw [b]; exact wi.of (fun i => dfs_12 (Or.inl rfl) _) (fun i => dfs_12 (Or.inr rfl) _)
  · rw [b]; exact wi
theorem XI.now {s2 : zS} (h : XI X) (hs : StI (X 0) s2) : XI (zw X 1 s2) := by
  obtain ⟨li, si, pc, pd, im, ln, tx⟩ := h
  unfold XI
  rw [zw_n (by decide), zw_s, zw_n (by decide), zw_n (by decide), zw_n (by decide)]
  exact ⟨li, hs, pc, pd, fun i hi => ⟨(im i hi).1, fun z => by rw [zw_n (by omega)]; exact (im i hi).2 z⟩, ln, tx⟩
theorem CK.pap2 {P : zS} (h : CK X kl kn kn2 w) (F : FG g kl kn kl2 kn2) (li : LInv (X 0)) (f : ∀ a j, (a < 5 ∨ 5 + 3 < a) → w2 a j = w a j) (r : RP P 5 w2) : CK (zw X 2 P) kl kn kn2 w2 := by
  have a := f_hl F
  have b := f_hn F
  obtain ⟨h1, h2, h3, h4, h5, ⟨h6, h7⟩, h8, h9⟩ := h
  unfold CK
  rw [zw_n (by decide), zw_s, zw_n (by decide), zw_n (by decide), zw_n (by decide)]
  refine ⟨h1.e fun a j p q => f a j (by omega), h2.e li fun a j p q => f a j (by omega), r, h4.e fun a j p q => f a j (by omega), fun i hi => ⟨(f _ _ (by omega)).trans (h5 i hi).1, fun z => ?_⟩, ⟨(f _ _ (by omega)).trans h6, fun j hj => (f _ _ (by omega)).trans (h7 j hj)⟩, (f _ _ (by omega)).trans h8, by rw [f _ _ (by omega)]; exact h9⟩
  rw [zw_n (by omega)]
  exact ((h5 i hi).2 z).e li fun a j p q => f a j (by omega)
theorem CK.pap3 {P : zS} (h : CK X kl kn kn2 w) (F : FG g kl kn kl2 kn2) (li : LInv (X 0)) (f : ∀ a j, (a < 9 ∨ 9 + 3 < a) → w2 a j = w a j) (r : RP P 9 w2) : CK (zw X 3 P) kl kn kn2 w2 := by
  have a := f_hl F
  have b := f_hn F
  obtain ⟨h1, h2, h3, h4, h5, ⟨h6, h7⟩, h8, h9⟩ := h
  unfold CK
  rw [zw_n (by decide), zw_s, zw_n (by decide), zw_n (by decide), zw_n (by decide)]
  refine ⟨h1.e fun a j p q => f a j (by omega), h2.e li fun a j p q => f a j (by omega), h3.e fun a j p q => f a j (by omega), r, fun i hi => ⟨(f _ _ (by omega)).trans (h5 i hi).1, fun z => ?_⟩, ⟨(f _ _ (by omega)).trans h6, fun j hj => (f _ _ (by omega)).trans (h7 j hj)⟩, (f _ _ (by omega)).trans h8, by rw [f _ _ (by omega)]; exact h9⟩
  rw [zw_n (by omega)]
  exact ((h5 i hi).2 z).e li fun a j p q => f a j (by omega)
theorem CK.papT {P D : zS} (h : CK X kl kn kn2 w) (F : FG g kl kn kl2 kn2) (li : LInv (X 0)) (f : ∀ a j, a ≠ 5 → a ≠ 9 → w2 a j = w a j) (r : RP P 5 w2) (r2 : RP D 9 w2) : CK (zw (zw X 2 P) 3 D) kl kn kn2 w2 := by
  have a := f_hl F
  have b := f_hn F
  obtain ⟨h1, h2, h3, h4, h5, ⟨h6, h7⟩, h8, h9⟩ := h
  unfold CK
  rw [zw_s, zw_n (by decide), zw_n (by decide), zw_n (by decide), zw_n (by decide), zw_n (by decide), zw_s, zw_n (by decide), zw_n (by decide)]
  refine ⟨h1.e fun a j p q => f a j (by omega) (by omega), h2.e li fun a j p q => f a j (by omega) (by omega), r, r2, fun i hi => ⟨(f _ _ (by omega) (by omega)).trans (h5 i hi).1, fun z => ?_⟩, ⟨(f _ _ (by omega) (by omega)).trans h6, fun j hj => (f _ _ (by omega) (by omega)).trans (h7 j hj)⟩, (f _ _ (by omega) (by omega)).trans h8, by rw [f _ _ (by omega) (by omega)]; exact h9⟩
  rw [zw_n (by omega), zw_n (by omega)]
  exact ((h5 i hi).2 z).e li fun a j p q => f a j (by omega) (by omega)
theorem MK.papX {P D : zS} (h : MK X w) (g1 : ∀ j, j ≠ 16 → j ≠ 20 → w2 193 j = w 193 j) (g2 : ∀ a j, a ≠ 193 → (a < 204 ∨ 209 < a) → w2 a j = w a j) (r : RQ P 16 204 w2) (r2 : RQ D 20 207 w2) : MK (zw (zw X 2 P) 3 D) w2 := by
  obtain ⟨h1, h2, h3, h4, h5, h6, ⟨h7, h8⟩, h9⟩ := h
  unfold MK
  rw [zw_s, zw_n (by decide), zw_n (by decide), zw_n (by decide), zw_n (by decide), zw_n (by decide), zw_s, zw_n (by decide), zw_n (by decide)]
  refine ⟨h1.e fun a j q => ?_, fun r i q => by rw [g2 194 _ (by decide) (by decide)]; exact h2 r i q, (g1 50 (by decide) (by decide)).trans h3, r, r2, fun i hi => ⟨(g2 196 i (by decide) (by decide)).trans (h6 i hi).1, fun z => ?_⟩, ⟨(g1 25 (by decide) (by decide)).trans h7, fun j hj => (g2 210 j (by decide) (by decide)).trans (h8 j hj)⟩, (g1 26 (by decide) (by decide)).trans h9⟩
  · rcases q with u | u
    · rw [u.1]; exact g1 j (by omega) (by omega)
    · exact g2 a j (by omega) (by omega)
  · rw [zw_n (by omega), zw_n (by omega)]
    intro r j q
    rw [g2 195 _ (by decide) (by decide)]
    exact (h6 i hi).2 z r j q
theorem zw_2 {P : zS} : zw (zw X 2 P) 3 (X 3) = zw X 2 P := by
  funext j
  by_cases z : j = 3
  · subst z; rw [zw_s, zw_n (by decide)]
  · rw [zw_n z]
theorem zw_3 {P : zS} : zw (zw X 2 (X 2)) 3 P = zw X 3 P := by rw [zw_id]
theorem MK.pap2 {P : zS} (h : MK X w) (f : ∀ a j, (a ≠ 193 ∨ j ≠ 16) → (a < 204 ∨ 206 < a) → w2 a j = w a j) (r : RQ P 16 204 w2) : MK (zw X 2 P) w2 := by
  have := h.papX (P := P) (D := X 3) (fun j p q => f 193 j (Or.inr p) (by omega)) (fun a j p q => f a j (Or.inl p) (by omega)) r (h.2.2.2.2.1.e (f 193 20 (by omega) (by omega)) fun b j p q => f b j (by omega) (by omega))
  rw [zw_2] at this; exact this
theorem MK.pap3 {P : zS} (h : MK X w) (f : ∀ a j, (a ≠ 193 ∨ j ≠ 20) → (a < 207 ∨ 209 < a) → w2 a j = w a j) (r : RQ P 20 207 w2) : MK (zw X 3 P) w2 := by
  have := h.papX (P := X 2) (D := P) (fun j p q => f 193 j (Or.inr q) (by omega)) (fun a j p q => f a j (Or.inl p) (by omega)) (h.2.2.2.1.e (f 193 16 (by omega) (by omega)) fun b j p q => f b j (by omega) (by omega)) r
  rw [zw_3] at this; exact this
theorem MK.papT {P D : zS} (h : MK X w) (f : ∀ a j, (a ≠ 193 ∨ (j ≠ 16 ∧ j ≠ 20)) → w2 a j = w a j) (r : RQ P 16 204 w2) (r2 : RQ D 20 207 w2) : MK (zw (zw X 2 P) 3 D) w2 := h.papX (fun j p q => f 193 j (Or.inr ⟨p, q⟩)) (fun a j p _ => f a j (Or.inl p)) r r2
theorem cOf_r (li : LInv t) : cOf t v = -1 ∨ (0 ≤ cOf t v ∧ cOf t v < nC t) := by
  unfold cOf
  split
  · exact cAt_r li
  · exact Or.inl rfl
theorem pi_wr {P : zS} {n : Nat} {lo hi c : Int} (pv : PInv t P n lo hi) (hn : P 0 0 < n) (hp : 0 ≤ p ∧ p < t 0 5) (hc : 0 ≤ c ∧ c < nC t) (hm : lo ≤ m ∧ m ≤ hi) : PInv t (wr P p c m) n lo hi := by
  refine ⟨by rw [wr_0]; have := pv.1; omega, fun i hi => ?_⟩
  rw [wr_0] at hi
  rw [wr_1, wr_2, wr_3]
  by_cases z : i = (P 0 0).toNat
  · rw [z, zup_s, zup_s, zup_s]; exact ⟨hp, hc, hm⟩
  · rw [zup_n z, zup_n z, zup_n z]
    have := pv.1
    exact pv.2 i (by omega)
theorem pi_claim (h : XI X) : XI (zw X 2 (oClaim (X 0) (X 2) p v m).2) := by
  obtain ⟨li, si, pc, pd, im, ln, tx⟩ := h
  have : PInv (X 0) (oClaim (X 0) (X 2) p v m).2 12 0 59 := by
    unfold oClaim
    split
    · rename_i a
      split
      · rename_i b
        split
        · rename_i c
          exact pi_wr pc c a.1 ((cOf_r li).resolve_left a.2) b
        · exact pc
      · exact pc
    · exact pc
  unfold XI
  rw [zw_n (by decide), zw_s, zw_n (by decide), zw_n (by decide), zw_n (by decide)]
  exact ⟨li, si, this, pd, fun i hi => ⟨(im i hi).1, fun z => by rw [zw_n (by omega)]; exact (im i hi).2 z⟩, ln, tx⟩
theorem pi_deed (h : XI X) : XI (zw X 3 (oDeed (X 0) (X 3) p v m).2) := by
  obtain ⟨li, si, pc, pd, im, ln, tx⟩ := h
  have : PInv (X 0) (oDeed (X 0) (X 3) p v m).2 8 1 60 := by
    unfold oDeed
    split
    · rename_i a
      split
      · rename_i b
        split
        · rename_i c
          exact pi_wr pd c a.1 ((cOf_r li).resolve_left a.2) b
        · exact pd
      · exact pd
    · exact pd
  unfold XI
  rw [zw_n (by decide), zw_s, zw_n (by decide), zw_n (by decide), zw_n (by decide)]
  exact ⟨li, si, pc, this, fun i hi => ⟨(im i hi).1, fun z => by rw [zw_n (by omega)]; exact (im i hi).2 z⟩, ln, tx⟩
theorem pi_emp {P : zS} {n : Nat} {lo hi : Int} : PInv t (emp P) n lo hi := ⟨by rw [emp_0]; omega, fun i hi => by rw [emp_0] at hi; omega⟩
theorem pi_tear (h : XI X) : XI (zw (zw X 2 (emp (X 2))) 3 (emp (X 3))) := by
  obtain ⟨li, si, pc, pd, im, ln, tx⟩ := h
  unfold XI
  rw [zw_s, zw_n (by decide), zw_n (by decide), zw_n (by decide), zw_n (by decide), zw_n (by decide), zw_s, zw_n (by decide), zw_n (by decide)]
  exact ⟨li, si, pi_emp, pi_emp, fun i hi => ⟨(im i hi).1, fun z => by rw [zw_n (by omega), zw_n (by omega)]; exact (im i hi).2 z⟩, ln, tx⟩
theorem zr12 {k r i : Nat} (hk : k ≠ 2) (h : r = 1 ∨ r = 2 ∨ (r = 12 ∧ i = 2)) : zset s 12 (zup (s 12) k v) r i = s r i := by
  rcases h with z | z | z
  · subst z; exact zset_n (by decide)
  · subst z; exact zset_n (by decide)
  · rw [z.1, z.2, zset_s, zup_n (fun y => hk y.symm)]
theorem ro_law {r i : Nat} (h : r = 1 ∨ r = 2 ∨ (r = 12 ∧ i = 2)) : (oLaw s v).2 r i = s r i := by
  unfold oLaw
  split
  · exact zr12 (by decide) h
  · rfl
theorem ro_last {r i : Nat} (h : r = 1 ∨ r = 2 ∨ (r = 12 ∧ i = 2)) : (oLast s v).2 r i = s r i := by
  unfold oLast
  split
  · exact zr12 (by decide) h
  · rfl
theorem ro_seed {r i : Nat} (h : r = 1 ∨ r = 2 ∨ (r = 12 ∧ i = 2)) : (oSeed s v).2 r i = s r i := by
  unfold oSeed
  split
  · exact zr12 (by decide) h
  · rfl
theorem ro_stoke {r i : Nat} {f : Int} (h : r = 1 ∨ r = 2 ∨ (r = 12 ∧ i = 2)) : (oStoke t s v f).2 r i = s r i := by
  unfold oStoke
  split
  · split
    · exact zset_n (by omega)
    · rfl
  · rfl
theorem ro_light {r i : Nat} (h : r = 1 ∨ r = 2 ∨ (r = 12 ∧ i = 2)) : (oLight t s v).2 r i = s r i := by
  unfold oLight
  split
  · split
    · exact zset_n (by omega)
    · rfl
  · rfl
theorem ro_go {r i : Nat} {y : Int} (h : r = 1 ∨ r = 2 ∨ (r = 12 ∧ i = 2)) : (oGo t s v y).2 r i = s r i := by
  unfold oGo
  split
  · split
    · split
      · exact zset_n (by omega)
      · rfl
    · rfl
  · rfl
theorem ro_build {x y e : Int} (li : LInv t) : (oBuild t s x y v e).2 12 2 = s 12 2 := by
  unfold oBuild
  split
  · rename_i z
    have hz := oRW_0 li z
    exact bld_12 (by omega)
  · rfl
end WDP
section WDB
variable {X : zX} {g : xG} {w : xW} {d : Nat} {Q : xQ}
theorem C_Cell {x y q : Int} (h : CW X g w) (xi' : XI X) (hQ : CPo (xCell X x y q).2 (xCell X x y q).1 g w Q) : cal (d + 20) nFf_cell [xr 2, xi x, xi y, xi q] g w Q := by
  obtain ⟨kl, kn, kl2, kn2, F, T, K, hk⟩ := h
  obtain ⟨li, ⟨si, wi, hm⟩, pc, pd, im, ln, tx⟩ := xi'
  obtain ⟨h1, h2, h3, h4, h5, h6, h7, h8⟩ := id hk
  exact cl_cell F h1 h2 li (hQ.same F T K hk)
theorem M_Cell {x y q : Int} (hM : MG g) (hk : MK X w) (xi' : XI X) (hQ : MPo (xCell X x y q).2 (xCell X x y q).1 g w Q) : cal (d + 20) nMo_cell [xr 193, xi x, xi y, xi q] g w Q := by
  obtain ⟨li, ⟨si, wi, hm⟩, pc, pd, im, ln, tx⟩ := xi'
  obtain ⟨h1, h2, h3, h4, h5, h6, h7, h8⟩ := id hk
  exact mo_cell hM h1 h2 li (hQ.same hk)
theorem I_Cell {x y q : Int} (h : XI X) : XI (xCell X x y q).2 := h
theorem C_Stove {v q : Int} (h : CW X g w) (xi' : XI X) (hQ : CPo (xStove X v q).2 (xStove X v q).1 g w Q) : cal (d + 20) nFf_stove [xr 2, xi v, xi q] g w Q := by
  obtain ⟨kl, kn, kl2, kn2, F, T, K, hk⟩ := h
  obtain ⟨li, ⟨si, wi, hm⟩, pc, pd, im, ln, tx⟩ := xi'
  obtain ⟨h1, h2, h3, h4, h5, h6, h7, h8⟩ := id hk
  exact cl_stove F h1 h2 li (hQ.same F T K hk)
theorem M_Stove {v q : Int} (hM : MG g) (hk : MK X w) (xi' : XI X) (hQ : MPo (xStove X v q).2 (xStove X v q).1 g w Q) : cal (d + 20) nMo_stove [xr 193, xi v, xi q] g w Q := by
  obtain ⟨li, ⟨si, wi, hm⟩, pc, pd, im, ln, tx⟩ := xi'
  obtain ⟨h1, h2, h3, h4, h5, h6, h7, h8⟩ := id hk
  exact mo_stove hM h1 h2 li (hQ.same hk)
theorem I_Stove {v q : Int} (h : XI X) : XI (xStove X v q).2 := h
theorem C_Person {v q : Int} (h : CW X g w) (xi' : XI X) (hQ : CPo (xPerson X v q).2 (xPerson X v q).1 g w Q) : cal (d + 20) nFf_person [xr 2, xi v, xi q] g w Q := by
  obtain ⟨kl, kn, kl2, kn2, F, T, K, hk⟩ := h
  obtain ⟨li, ⟨si, wi, hm⟩, pc, pd, im, ln, tx⟩ := xi'
  obtain ⟨h1, h2, h3, h4, h5, h6, h7, h8⟩ := id hk
  exact cl_person F h1 h2 li si (hQ.same F T K hk)
theorem M_Person {v q : Int} (hM : MG g) (hk : MK X w) (xi' : XI X) (hQ : MPo (xPerson X v q).2 (xPerson X v q).1 g w Q) : cal (d + 20) nMo_person [xr 193, xi v, xi q] g w Q := by
  obtain ⟨li, ⟨si, wi, hm⟩, pc, pd, im, ln, tx⟩ := xi'
  obtain ⟨h1, h2, h3, h4, h5, h6, h7, h8⟩ := id hk
  exact mo_person hM h1 h2 li si (hQ.same hk)
theorem I_Person {v q : Int} (h : XI X) : XI (xPerson X v q).2 := h
theorem C_Wall {x y v : Int} (h : CW X g w) (xi' : XI X) (hQ : CPo (xWall X x y v).2 (xWall X x y v).1 g w Q) : cal (d + 20) nFf_wall [xr 2, xi x, xi y, xi v] g w Q := by
  obtain ⟨kl, kn, kl2, kn2, F, T, K, hk⟩ := h
  obtain ⟨li, ⟨si, wi, hm⟩, pc, pd, im, ln, tx⟩ := xi'
  obtain ⟨h1, h2, h3, h4, h5, h6, h7, h8⟩ := id hk
  exact cl_wall F h1 h2 li si (hQ.same F T K hk)
theorem M_Wall {x y v : Int} (hM : MG g) (hk : MK X w) (xi' : XI X) (hQ : MPo (xWall X x y v).2 (xWall X x y v).1 g w Q) : cal (d + 20) nMo_wall [xr 193, xi x, xi y, xi v] g w Q := by
  obtain ⟨li, ⟨si, wi, hm⟩, pc, pd, im, ln, tx⟩ := xi'
  obtain ⟨h1, h2, h3, h4, h5, h6, h7, h8⟩ := id hk
  exact mo_wall hM h1 h2 li (hQ.same hk)
theorem I_Wall {x y v : Int} (h : XI X) : XI (xWall X x y v).2 := h
theorem C_Told {q : Int} (h : CW X g w) (xi' : XI X) (hQ : CPo (xTold X q).2 (xTold X q).1 g w Q) : cal (d + 20) nFf_told [xr 2, xi q] g w Q := by
  obtain ⟨kl, kn, kl2, kn2, F, T, K, hk⟩ := h
  obtain ⟨li, ⟨si, wi, hm⟩, pc, pd, im, ln, tx⟩ := xi'
  obtain ⟨h1, h2, h3, h4, h5, h6, h7, h8⟩ := id hk
  exact cl_told F h1 h2 li si wi h3 h4 h6.1 (hQ.same F T K hk)
theorem M_Told {q : Int} (hM : MG g) (hk : MK X w) (xi' : XI X) (hQ : MPo (xTold X q).2 (xTold X q).1 g w Q) : cal (d + 20) nMo_told [xr 193, xi q] g w Q := by
  obtain ⟨li, ⟨si, wi, hm⟩, pc, pd, im, ln, tx⟩ := xi'
  obtain ⟨h1, h2, h3, h4, h5, h6, h7, h8⟩ := id hk
  exact mo_told hM h1 h2 li si h4 h5 h7.1 (hQ.same hk)
theorem I_Told {q : Int} (h : XI X) : XI (xTold X q).2 := h
theorem C_Law {v : Int} (h : CW X g w) (xi' : XI X) (hQ : CPo (xLaw X v).2 (xLaw X v).1 g w Q) : cal (d + 20) nFf_law [xr 2, xi v] g w Q := by
  obtain ⟨kl, kn, kl2, kn2, F, T, K, hk⟩ := h
  obtain ⟨li, ⟨si, wi, hm⟩, pc, pd, im, ln, tx⟩ := xi'
  obtain ⟨h1, h2, h3, h4, h5, h6, h7, h8⟩ := id hk
  exact cl_law F h2 li fun w2 f2 s2 => hQ.now F T K hk li f2 s2
theorem M_Law {v : Int} (hM : MG g) (hk : MK X w) (xi' : XI X) (hQ : MPo (xLaw X v).2 (xLaw X v).1 g w Q) : cal (d + 20) nMo_law [xr 193, xi v] g w Q := by
  obtain ⟨li, ⟨si, wi, hm⟩, pc, pd, im, ln, tx⟩ := xi'
  obtain ⟨h1, h2, h3, h4, h5, h6, h7, h8⟩ := id hk
  exact mo_law hM h2 li fun w2 f2 s2 => hQ.now hk f2 s2
theorem I_Law {v : Int} (h : XI X) : XI (xLaw X v).2 := by
  obtain ⟨li, ⟨si, wi, hm⟩, pc, pd, im, ln, tx⟩ := h
  exact XI.now ⟨li, ⟨si, wi, hm⟩, pc, pd, im, ln, tx⟩ ⟨si_law si, wi.of (fun i => ro_law (Or.inl rfl)) (fun i => ro_law (Or.inr (Or.inl rfl))), by rw [ro_law (Or.inr (Or.inr ⟨rfl, rfl⟩))]; exact hm⟩
theorem C_Last {v : Int} (h : CW X g w) (xi' : XI X) (hQ : CPo (xLast X v).2 (xLast X v).1 g w Q) : cal (d + 20) nFf_last [xr 2, xi v] g w Q := by
  obtain ⟨kl, kn, kl2, kn2, F, T, K, hk⟩ := h
  obtain ⟨li, ⟨si, wi, hm⟩, pc, pd, im, ln, tx⟩ := xi'
  obtain ⟨h1, h2, h3, h4, h5, h6, h7, h8⟩ := id hk
  exact cl_last F h2 li fun w2 f2 s2 => hQ.now F T K hk li f2 s2
theorem M_Last {v : Int} (hM : MG g) (hk : MK X w) (xi' : XI X) (hQ : MPo (xLast X v).2 (xLast X v).1 g w Q) : cal (d + 20) nMo_last [xr 193, xi v] g w Q := by
  obtain ⟨li, ⟨si, wi, hm⟩, pc, pd, im, ln, tx⟩ := xi'
  obtain ⟨h1, h2, h3, h4, h5, h6, h7, h8⟩ := id hk
  exact mo_last hM h2 li fun w2 f2 s2 => hQ.now hk f2 s2
theorem I_Last {v : Int} (h : XI X) : XI (xLast X v).2 := by
  obtain ⟨li, ⟨si, wi, hm⟩, pc, pd, im, ln, tx⟩ := h
  exact XI.now ⟨li, ⟨si, wi, hm⟩, pc, pd, im, ln, tx⟩ ⟨si_last si, wi.of (fun i => ro_last (Or.inl rfl)) (fun i => ro_last (Or.inr (Or.inl rfl))), by rw [ro_last (Or.inr (Or.inr ⟨rfl, rfl⟩))]; exact hm⟩
theorem C_Seed {v : Int} (h : CW X g w) (xi' : XI X) (hQ : CPo (xSeed X v).2 (xSeed X v).1 g w Q) : cal (d + 20) nFf_seed [xr 2, xi v] g w Q := by
  obtain ⟨kl, kn, kl2, kn2, F, T, K, hk⟩ := h
  obtain ⟨li, ⟨si, wi, hm⟩, pc, pd, im, ln, tx⟩ := xi'
  obtain ⟨h1, h2, h3, h4, h5, h6, h7, h8⟩ := id hk
  exact cl_seed F h2 li fun w2 f2 s2 => hQ.now F T K hk li f2 s2
theorem M_Seed {v : Int} (hM : MG g) (hk : MK X w) (xi' : XI X) (hQ : MPo (xSeed X v).2 (xSeed X v).1 g w Q) : cal (d + 20) nMo_seed [xr 193, xi v] g w Q := by
  obtain ⟨li, ⟨si, wi, hm⟩, pc, pd, im, ln, tx⟩ := xi'
  obtain ⟨h1, h2, h3, h4, h5, h6, h7, h8⟩ := id hk
  exact mo_seed hM h2 li fun w2 f2 s2 => hQ.now hk f2 s2
theorem I_Seed {v : Int} (h : XI X) (hv : v ≤ 2147483647) : XI (xSeed X v).2 := by
  obtain ⟨li, ⟨si, wi, hm⟩, pc, pd, im, ln, tx⟩ := h
  exact XI.now ⟨li, ⟨si, wi, hm⟩, pc, pd, im, ln, tx⟩ ⟨si_seed si hv, wi.of (fun i => ro_seed (Or.inl rfl)) (fun i => ro_seed (Or.inr (Or.inl rfl))), by rw [ro_seed (Or.inr (Or.inr ⟨rfl, rfl⟩))]; exact hm⟩
theorem C_Stoke {v f : Int} (h : CW X g w) (xi' : XI X) (hQ : CPo (xStoke X v f).2 (xStoke X v f).1 g w Q) : cal (d + 20) nFf_stoke [xr 2, xi v, xi f] g w Q := by
  obtain ⟨kl, kn, kl2, kn2, F, T, K, hk⟩ := h
  obtain ⟨li, ⟨si, wi, hm⟩, pc, pd, im, ln, tx⟩ := xi'
  obtain ⟨h1, h2, h3, h4, h5, h6, h7, h8⟩ := id hk
  exact cl_stoke F h1 h2 li si fun w2 f2 s2 => hQ.now F T K hk li f2 s2
theorem M_Stoke {v f : Int} (hM : MG g) (hk : MK X w) (xi' : XI X) (hQ : MPo (xStoke X v f).2 (xStoke X v f).1 g w Q) : cal (d + 20) nMo_stoke [xr 193, xi v, xi f] g w Q := by
  obtain ⟨li, ⟨si, wi, hm⟩, pc, pd, im, ln, tx⟩ := xi'
  obtain ⟨h1, h2, h3, h4, h5, h6, h7, h8⟩ := id hk
  exact mo_stoke hM h1 h2 li si fun w2 f2 s2 => hQ.now hk f2 s2
theorem I_Stoke {v f : Int} (h : XI X) : XI (xStoke X v f).2 := by
  obtain ⟨li, ⟨si, wi, hm⟩, pc, pd, im, ln, tx⟩ := h
  exact XI.now ⟨li, ⟨si, wi, hm⟩, pc, pd, im, ln, tx⟩ ⟨si_stoke li si, wi.of (fun i => ro_stoke (Or.inl rfl)) (fun i => ro_stoke (Or.inr (Or.inl rfl))), by rw [ro_stoke (Or.inr (Or.inr ⟨rfl, rfl⟩))]; exact hm⟩
theorem C_Light {v : Int} (h : CW X g w) (xi' : XI X) (hQ : CPo (xLight X v).2 (xLight X v).1 g w Q) : cal (d + 20) nFf_light [xr 2, xi v] g w Q := by
  obtain ⟨kl, kn, kl2, kn2, F, T, K, hk⟩ := h
  obtain ⟨li, ⟨si, wi, hm⟩, pc, pd, im, ln, tx⟩ := xi'
  obtain ⟨h1, h2, h3, h4, h5, h6, h7, h8⟩ := id hk
  exact cl_light F h1 h2 li fun w2 f2 s2 => hQ.now F T K hk li f2 s2
theorem M_Light {v : Int} (hM : MG g) (hk : MK X w) (xi' : XI X) (hQ : MPo (xLight X v).2 (xLight X v).1 g w Q) : cal (d + 20) nMo_light [xr 193, xi v] g w Q := by
  obtain ⟨li, ⟨si, wi, hm⟩, pc, pd, im, ln, tx⟩ := xi'
  obtain ⟨h1, h2, h3, h4, h5, h6, h7, h8⟩ := id hk
  exact mo_light hM h1 h2 li fun w2 f2 s2 => hQ.now hk f2 s2
theorem I_Light {v : Int} (h : XI X) : XI (xLight X v).2 := by
  obtain ⟨li, ⟨si, wi, hm⟩, pc, pd, im, ln, tx⟩ := h
  exact XI.now ⟨li, ⟨si, wi, hm⟩, pc, pd, im, ln, tx⟩ ⟨si_light si, wi.of (fun i => ro_light (Or.inl rfl)) (fun i => ro_light (Or.inr (Or.inl rfl))), by rw [ro_light (Or.inr (Or.inr ⟨rfl, rfl⟩))]; exact hm⟩
theorem C_Go {v y : Int} (h : CW X g w) (xi' : XI X) (hQ : CPo (xGo X v y).2 (xGo X v y).1 g w Q) : cal (d + 20) nFf_go [xr 2, xi v, xi y] g w Q := by
  obtain ⟨kl, kn, kl2, kn2, F, T, K, hk⟩ := h
  obtain ⟨li, ⟨si, wi, hm⟩, pc, pd, im, ln, tx⟩ := xi'
  obtain ⟨h1, h2, h3, h4, h5, h6, h7, h8⟩ := id hk
  exact cl_go F h1 h2 li si fun w2 f2 s2 => hQ.now F T K hk li f2 s2
theorem M_Go {v y : Int} (hM : MG g) (hk : MK X w) (xi' : XI X) (hQ : MPo (xGo X v y).2 (xGo X v y).1 g w Q) : cal (d + 20) nMo_go [xr 193, xi v, xi y] g w Q := by
  obtain ⟨li, ⟨si, wi, hm⟩, pc, pd, im, ln, tx⟩ := xi'
  obtain ⟨h1, h2, h3, h4, h5, h6, h7, h8⟩ := id hk
  exact mo_go hM h1 h2 li si fun w2 f2 s2 => hQ.now hk f2 s2
theorem I_Go {v y : Int} (h : XI X) : XI (xGo X v y).2 := by
  obtain ⟨li, ⟨si, wi, hm⟩, pc, pd, im, ln, tx⟩ := h
  exact XI.now ⟨li, ⟨si, wi, hm⟩, pc, pd, im, ln, tx⟩ ⟨si_go li si, wi.of (fun i => ro_go (Or.inl rfl)) (fun i => ro_go (Or.inr (Or.inl rfl))), by rw [ro_go (Or.inr (Or.inr ⟨rfl, rfl⟩))]; exact hm⟩
theorem C_Minute {v : Int} (h : CW X g w) (xi' : XI X) (hQ : CPo (xMinute X v).2 (xMinute X v).1 g w Q) : cal (d + 20) nFf_minute [xr 2, xi v] g w Q := by
  obtain ⟨kl, kn, kl2, kn2, F, T, K, hk⟩ := h
  obtain ⟨li, ⟨si, wi, hm⟩, pc, pd, im, ln, tx⟩ := xi'
  obtain ⟨h1, h2, h3, h4, h5, h6, h7, h8⟩ := id hk
  exact cl_minute F h1 h2 li si fun w2 f2 s2 => hQ.now F T K hk li f2 s2
theorem M_Minute {v : Int} (hM : MG g) (hk : MK X w) (xi' : XI X) (hQ : MPo (xMinute X v).2 (xMinute X v).1 g w Q) : cal (d + 20) nMo_minute [xr 193, xi v] g w Q := by
  obtain ⟨li, ⟨si, wi, hm⟩, pc, pd, im, ln, tx⟩ := xi'
  obtain ⟨h1, h2, h3, h4, h5, h6, h7, h8⟩ := id hk
  exact mo_minute hM h1 h2 li si h3 fun w2 f2 s2 => hQ.now hk f2 s2
theorem I_Minute {v : Int} (h : XI X) : XI (xMinute X v).2 := by
  obtain ⟨li, ⟨si, wi, hm⟩, pc, pd, im, ln, tx⟩ := h
  exact XI.now ⟨li, ⟨si, wi, hm⟩, pc, pd, im, ln, tx⟩ ⟨si_minute li si, wi_minute wi, m_minute hm⟩
theorem C_Drift {v : Int} (h : CW X g w) (xi' : XI X) (hQ : CPo (xDrift X v).2 (xDrift X v).1 g w Q) : cal (d + 20) nFf_drift [xr 2, xi v] g w Q := by
  obtain ⟨kl, kn, kl2, kn2, F, T, K, hk⟩ := h
  obtain ⟨li, ⟨si, wi, hm⟩, pc, pd, im, ln, tx⟩ := xi'
  obtain ⟨h1, h2, h3, h4, h5, h6, h7, h8⟩ := id hk
  exact cl_drift F h1 h2 li si fun w2 f2 s2 => hQ.now F T K hk li f2 s2
theorem M_Drift {v : Int} (hM : MG g) (hk : MK X w) (xi' : XI X) (hQ : MPo (xDrift X v).2 (xDrift X v).1 g w Q) : cal (d + 20) nMo_drift [xr 193, xi v] g w Q := by
  obtain ⟨li, ⟨si, wi, hm⟩, pc, pd, im, ln, tx⟩ := xi'
  obtain ⟨h1, h2, h3, h4, h5, h6, h7, h8⟩ := id hk
  exact mo_drift hM h1 h2 li si h3 fun w2 f2 s2 => hQ.now hk f2 s2
theorem I_Drift {v : Int} (h : XI X) : XI (xDrift X v).2 := by
  obtain ⟨li, ⟨si, wi, hm⟩, pc, pd, im, ln, tx⟩ := h
  exact XI.now ⟨li, ⟨si, wi, hm⟩, pc, pd, im, ln, tx⟩ ⟨si_drift li si, wi_drift wi, m_drift hm⟩
theorem C_Build {x y v e : Int} (h : CW X g w) (xi' : XI X) (hQ : CPo (xBuild X x y v e).2 (xBuild X x y v e).1 g w Q) : cal (d + 20) nFf_build [xr 2, xi x, xi y, xi v, xi e] g w Q := by
  obtain ⟨kl, kn, kl2, kn2, F, T, K, hk⟩ := h
  obtain ⟨li, ⟨si, wi, hm⟩, pc, pd, im, ln, tx⟩ := xi'
  obtain ⟨h1, h2, h3, h4, h5, h6, h7, h8⟩ := id hk
  exact cl_build F h1 h2 li si fun w2 f2 s2 => hQ.now F T K hk li f2 s2
theorem M_Build {x y v e : Int} (hM : MG g) (hk : MK X w) (xi' : XI X) (hQ : MPo (xBuild X x y v e).2 (xBuild X x y v e).1 g w Q) : cal (d + 20) nMo_build [xr 193, xi x, xi y, xi v, xi e] g w Q := by
  obtain ⟨li, ⟨si, wi, hm⟩, pc, pd, im, ln, tx⟩ := xi'
  obtain ⟨h1, h2, h3, h4, h5, h6, h7, h8⟩ := id hk
  exact mo_build hM h1 h2 li fun w2 f2 s2 => hQ.now hk f2 s2
theorem I_Build {x y v e : Int} (h : XI X) : XI (xBuild X x y v e).2 := by
  obtain ⟨li, ⟨si, wi, hm⟩, pc, pd, im, ln, tx⟩ := h
  exact XI.now ⟨li, ⟨si, wi, hm⟩, pc, pd, im, ln, tx⟩ ⟨si_build li si, wi_build li wi, by rw [ro_build li]; exact hm⟩
theorem C_Then {x y n q : Int} (h : CW X g w) (xi' : XI X) (hQ : CPo (xThen X x y n q).2 (xThen X x y n q).1 g w Q) : cal (d + 20) nFf_then [xr 2, xi x, xi y, xi n, xi q] g w Q := by
  obtain ⟨kl, kn, kl2, kn2, F, T, K, hk⟩ := h
  obtain ⟨li, ⟨si, wi, hm⟩, pc, pd, im, ln, tx⟩ := xi'
  obtain ⟨h1, h2, h3, h4, h5, h6, h7, h8⟩ := id hk
  exact cl_then F h1 h2 li si (by omega) fun w2 f2 => hQ.scr F T K hk li fun a j q => f2 a j (by omega)
theorem M_Then {x y n q : Int} (hM : MG g) (hk : MK X w) (xi' : XI X) (hQ : MPo (xThen X x y n q).2 (xThen X x y n q).1 g w Q) : cal (d + 20) nMo_then [xr 193, xi x, xi y, xi n, xi q] g w Q := by
  obtain ⟨li, ⟨si, wi, hm⟩, pc, pd, im, ln, tx⟩ := xi'
  obtain ⟨h1, h2, h3, h4, h5, h6, h7, h8⟩ := id hk
  exact mo_then hM h1 h2 li si h3 (by omega) fun w2 f2 s2 => hQ.bk hk f2 s2
theorem I_Then {x y n q : Int} (h : XI X) : XI (xThen X x y n q).2 := h
theorem C_Kept {p k n : Int} (h : CW X g w) (xi' : XI X) (hQ : CPo (xKept X p k n).2 (xKept X p k n).1 g w Q) : cal (d + 20) nFf_keptOut [xr 2, xi p, xi k, xi n] g w Q := by
  obtain ⟨kl, kn, kl2, kn2, F, T, K, hk⟩ := h
  obtain ⟨li, ⟨si, wi, hm⟩, pc, pd, im, ln, tx⟩ := xi'
  obtain ⟨h1, h2, h3, h4, h5, h6, h7, h8⟩ := id hk
  exact cl_kept F h1 h2 li si (by omega) fun w2 f2 => hQ.scr F T K hk li fun a j q => f2 a j (by omega)
theorem M_Kept {p k n : Int} (hM : MG g) (hk : MK X w) (xi' : XI X) (hQ : MPo (xKept X p k n).2 (xKept X p k n).1 g w Q) : cal (d + 20) nMo_keptOut [xr 193, xi p, xi k, xi n] g w Q := by
  obtain ⟨li, ⟨si, wi, hm⟩, pc, pd, im, ln, tx⟩ := xi'
  obtain ⟨h1, h2, h3, h4, h5, h6, h7, h8⟩ := id hk
  exact mo_kept hM h1 h2 li si h3 (by omega) fun w2 f2 e2 => hQ.bk2 hk li f2 e2
theorem I_Kept {p k n : Int} (h : XI X) : XI (xKept X p k n).2 := h
theorem C_LightFor {p k n : Int} (h : CW X g w) (xi' : XI X) (hQ : CPo (xLightFor X p k n).2 (xLightFor X p k n).1 g w Q) : cal (d + 20) nFf_lightFor [xr 2, xi p, xi k, xi n] g w Q := by
  obtain ⟨kl, kn, kl2, kn2, F, T, K, hk⟩ := h
  obtain ⟨li, ⟨si, wi, hm⟩, pc, pd, im, ln, tx⟩ := xi'
  obtain ⟨h1, h2, h3, h4, h5, h6, h7, h8⟩ := id hk
  exact cl_lightFor F h1 h2 li si (by omega) fun w2 f2 => hQ.scr F T K hk li fun a j q => f2 a j (by omega)
theorem M_LightFor {p k n : Int} (hM : MG g) (hk : MK X w) (xi' : XI X) (hQ : MPo (xLightFor X p k n).2 (xLightFor X p k n).1 g w Q) : cal (d + 20) nMo_lightFor [xr 193, xi p, xi k, xi n] g w Q := by
  obtain ⟨li, ⟨si, wi, hm⟩, pc, pd, im, ln, tx⟩ := xi'
  obtain ⟨h1, h2, h3, h4, h5, h6, h7, h8⟩ := id hk
  exact mo_lightFor hM h1 h2 li si h3 (by omega) fun w2 f2 e2 => hQ.bk2 hk li f2 e2
theorem I_LightFor {p k n : Int} (h : XI X) : XI (xLightFor X p k n).2 := h
theorem C_Gain {p x y v n : Int} (h : CW X g w) (xi' : XI X) (hQ : CPo (xGain X p x y v n).2 (xGain X p x y v n).1 g w Q) : cal (d + 20) nFf_gain [xr 2, xi p, xi x, xi y, xi v, xi n] g w Q := by
  obtain ⟨kl, kn, kl2, kn2, F, T, K, hk⟩ := h
  obtain ⟨li, ⟨si, wi, hm⟩, pc, pd, im, ln, tx⟩ := xi'
  obtain ⟨h1, h2, h3, h4, h5, h6, h7, h8⟩ := id hk
  exact cl_gain F h1 h2 li si (by omega) fun w2 f2 => hQ.scr F T K hk li fun a j q => f2 a j (by omega)
theorem M_Gain {p x y v n : Int} (hM : MG g) (hk : MK X w) (xi' : XI X) (hQ : MPo (xGain X p x y v n).2 (xGain X p x y v n).1 g w Q) : cal (d + 20) nMo_gain [xr 193, xi p, xi x, xi y, xi v, xi n] g w Q := by
  obtain ⟨li, ⟨si, wi, hm⟩, pc, pd, im, ln, tx⟩ := xi'
  obtain ⟨h1, h2, h3, h4, h5, h6, h7, h8⟩ := id hk
  exact mo_gain hM h1 h2 li si h3 (by omega) fun w2 f2 e2 => hQ.bk2 hk li f2 e2
theorem I_Gain {p x y v n : Int} (h : XI X) : XI (xGain X p x y v n).2 := h
theorem C_Forged (h : CW X g w) (xi' : XI X) (hQ : CPo (xForged X).2 (xForged X).1 g w Q) : cal (d + 20) nFf_forged [xr 2] g w Q := by
  obtain ⟨kl, kn, kl2, kn2, F, T, K, hk⟩ := h
  obtain ⟨li, ⟨si, wi, hm⟩, pc, pd, im, ln, tx⟩ := xi'
  obtain ⟨h1, h2, h3, h4, h5, h6, h7, h8⟩ := id hk
  exact cl_forged F h1 h2 li si h3 pc (by omega) fun w2 f2 => hQ.scr F T K hk li fun a j q => f2 a j (by omega)
theorem M_Forged (hM : MG g) (hk : MK X w) (xi' : XI X) (hQ : MPo (xForged X ).2 (xForged X ).1 g w Q) : cal (d + 20) nMo_forged [xr 193] g w Q := by
  obtain ⟨li, ⟨si, wi, hm⟩, pc, pd, im, ln, tx⟩ := xi'
  obtain ⟨h1, h2, h3, h4, h5, h6, h7, h8⟩ := id hk
  exact mo_forged hM h1 h2 li si h3 h4 pc (by omega) fun w2 f2 e2 => hQ.bk2 hk li f2 e2
theorem I_Forged (h : XI X) : XI (xForged X ).2 := h
theorem C_WasLit {k i : Int} (h : CW X g w) (xi' : XI X) (hQ : CPo (xWasLit X k i).2 (xWasLit X k i).1 g w Q) : cal (d + 20) nFf_wasLit [xr 2, xi k, xi i] g w Q := by
  obtain ⟨kl, kn, kl2, kn2, F, T, K, hk⟩ := h
  obtain ⟨li, ⟨si, wi, hm⟩, pc, pd, im, ln, tx⟩ := xi'
  obtain ⟨h1, h2, h3, h4, h5, h6, h7, h8⟩ := id hk
  exact cl_wasLit F h1 h2 li si h4 pd (by omega) fun w2 f2 => hQ.scr F T K hk li fun a j q => f2 a j (by omega)
theorem M_WasLit {k i : Int} (hM : MG g) (hk : MK X w) (xi' : XI X) (hQ : MPo (xWasLit X k i).2 (xWasLit X k i).1 g w Q) : cal (d + 20) nMo_wasLit [xr 193, xi k, xi i] g w Q := by
  obtain ⟨li, ⟨si, wi, hm⟩, pc, pd, im, ln, tx⟩ := xi'
  obtain ⟨h1, h2, h3, h4, h5, h6, h7, h8⟩ := id hk
  exact mo_wasLit hM h1 h2 li si h3 h5 pd (by omega) fun w2 f2 e2 => hQ.bk2 hk li f2 e2
theorem I_WasLit {k i : Int} (h : XI X) : XI (xWasLit X k i).2 := h
theorem C_Cold {v n : Int} (h : CW X g w) (xi' : XI X) (hQ : CPo (xCold X v n).2 (xCold X v n).1 g w Q) : cal (d + 20) nFf_cold [xr 2, xi v, xi n] g w Q := by
  obtain ⟨kl, kn, kl2, kn2, F, T, K, hk⟩ := h
  obtain ⟨li, ⟨si, wi, hm⟩, pc, pd, im, ln, tx⟩ := xi'
  obtain ⟨h1, h2, h3, h4, h5, h6, h7, h8⟩ := id hk
  exact cl_coldC F h1 h2 li si (by omega) fun w2 f2 => hQ.scr F T K hk li fun a j q => f2 a j (by omega)
theorem M_Cold {v n : Int} (hM : MG g) (hk : MK X w) (xi' : XI X) (hQ : MPo (xCold X v n).2 (xCold X v n).1 g w Q) : cal (d + 20) nMo_cold [xr 193, xi v, xi n] g w Q := by
  obtain ⟨li, ⟨si, wi, hm⟩, pc, pd, im, ln, tx⟩ := xi'
  obtain ⟨h1, h2, h3, h4, h5, h6, h7, h8⟩ := id hk
  exact mo_cold hM h1 h2 li si h3 (by omega) fun w2 f2 e2 => hQ.bk2 hk li f2 e2
theorem I_Cold {v n : Int} (h : XI X) : XI (xCold X v n).2 := h
theorem C_Mild {n : Int} (h : CW X g w) (xi' : XI X) (hQ : CPo (xMild X n).2 (xMild X n).1 g w Q) : cal (d + 20) nFf_mildest [xr 2, xi n] g w Q := by
  obtain ⟨kl, kn, kl2, kn2, F, T, K, hk⟩ := h
  obtain ⟨li, ⟨si, wi, hm⟩, pc, pd, im, ln, tx⟩ := xi'
  obtain ⟨h1, h2, h3, h4, h5, h6, h7, h8⟩ := id hk
  exact cl_mildest F h1 h2 li si (by omega) fun w2 f2 => hQ.scr F T K hk li fun a j q => f2 a j (by omega)
theorem M_Mild {n : Int} (hM : MG g) (hk : MK X w) (xi' : XI X) (hQ : MPo (xMild X n).2 (xMild X n).1 g w Q) : cal (d + 20) nMo_mildest [xr 193, xi n] g w Q := by
  obtain ⟨li, ⟨si, wi, hm⟩, pc, pd, im, ln, tx⟩ := xi'
  obtain ⟨h1, h2, h3, h4, h5, h6, h7, h8⟩ := id hk
  exact mo_mildest hM h1 h2 li si h3 (by omega) fun w2 f2 e2 => hQ.bk2 hk li f2 e2
theorem I_Mild {n : Int} (h : XI X) : XI (xMild X n).2 := h
theorem C_Rents {p : Int} (h : CW X g w) (xi' : XI X) (hQ : CPo (xRents X p).2 (xRents X p).1 g w Q) : cal (d + 20) nFf_rents [xr 2, xi p] g w Q := by
  obtain ⟨kl, kn, kl2, kn2, F, T, K, hk⟩ := h
  obtain ⟨li, ⟨si, wi, hm⟩, pc, pd, im, ln, tx⟩ := xi'
  obtain ⟨h1, h2, h3, h4, h5, h6, h7, h8⟩ := id hk
  exact cl_rents F K h1 h2 li si fun w2 f2 => hQ.scr F T K hk li fun a j q => f2 a j (by omega)
theorem M_Rents {p : Int} (hM : MG g) (hk : MK X w) (xi' : XI X) (hQ : MPo (xRents X p).2 (xRents X p).1 g w Q) : cal (d + 20) nMo_rents [xr 193, xi p] g w Q := by
  obtain ⟨li, ⟨si, wi, hm⟩, pc, pd, im, ln, tx⟩ := xi'
  obtain ⟨h1, h2, h3, h4, h5, h6, h7, h8⟩ := id hk
  exact mo_rents hM h1 h2 li si fun w2 f2 => hQ.bk2 hk li f2.mb fun j _ => f2 194 j (by decide)
theorem I_Rents {p : Int} (h : XI X) : XI (xRents X p).2 := h
theorem C_Stands {p n i : Int} (h : CW X g w) (xi' : XI X) (hQ : CPo (xStands X p n i).2 (xStands X p n i).1 g w Q) : cal (d + 20) nFf_stands [xr 2, xi p, xi n, xi i] g w Q := by
  obtain ⟨kl, kn, kl2, kn2, F, T, K, hk⟩ := h
  obtain ⟨li, ⟨si, wi, hm⟩, pc, pd, im, ln, tx⟩ := xi'
  obtain ⟨h1, h2, h3, h4, h5, h6, h7, h8⟩ := id hk
  exact cl_stands F T h1 h2 li si (by omega) fun g2 w2 e f2 => hQ g2 w2 e.1 (fun a j p q r => e.2 a j (fun z => r z.1) (fun z => q z.1)) (fun a j q => f2 a j (by omega)) ⟨kl, kn, kl2, kn2, F.ge e, T.ge e, K.ge e, hk.of F li fun a j q => f2 a j (by omega)⟩
theorem M_Stands {p n i : Int} (hM : MG g) (hk : MK X w) (xi' : XI X) (hQ : MPo (xStands X p n i).2 (xStands X p n i).1 g w Q) : cal (d + 20) nMo_stands [xr 193, xi p, xi n, xi i] g w Q := by
  obtain ⟨li, ⟨si, wi, hm⟩, pc, pd, im, ln, tx⟩ := xi'
  obtain ⟨h1, h2, h3, h4, h5, h6, h7, h8⟩ := id hk
  exact mo_stands hM h1 h2 li si h3 (by omega) fun w2 f2 e2 => hQ.bk2 hk li f2 e2
theorem I_Stands {p n i : Int} (h : XI X) : XI (xStands X p n i).2 := h
theorem C_Claim {p v m : Int} (h : CW X g w) (xi' : XI X) (hv : v ≤ 2147483647) (hQ : CPo (xClaim X p v m).2 (xClaim X p v m).1 g w Q) : cal (d + 20) nFf_claim [xr 2, xi p, xi v, xi m] g w Q := by
  obtain ⟨kl, kn, kl2, kn2, F, T, K, hk⟩ := h
  obtain ⟨li, ⟨si, wi, hm⟩, pc, pd, im, ln, tx⟩ := xi'
  obtain ⟨h1, h2, h3, h4, h5, h6, h7, h8⟩ := id hk
  exact cl_claim F h1 li h3 pc.1 hv fun w2 f2 r2 => hQ g w2 rfl (fun _ _ _ _ _ => rfl) (fun a j q => f2 a j (by omega)) ⟨kl, kn, kl2, kn2, F, T, K, hk.pap2 F li f2 r2⟩
theorem M_Claim {p v m : Int} (hM : MG g) (hk : MK X w) (xi' : XI X) (hv : v ≤ 2147483647) (hQ : MPo (xClaim X p v m).2 (xClaim X p v m).1 g w Q) : cal (d + 20) nMo_claim [xr 193, xi p, xi v, xi m] g w Q := by
  obtain ⟨li, ⟨si, wi, hm⟩, pc, pd, im, ln, tx⟩ := xi'
  obtain ⟨h1, h2, h3, h4, h5, h6, h7, h8⟩ := id hk
  exact mo_claim hM h1 li h4 pc.1 hv fun w2 f2 r2 => hQ w2 (fun a j q => f2 a j (by omega) (by omega)) (hk.pap2 f2 r2)
theorem I_Claim {p v m : Int} (h : XI X) : XI (xClaim X p v m).2 := pi_claim h
theorem C_Deed {p v m : Int} (h : CW X g w) (xi' : XI X) (hv : v ≤ 2147483647) (hQ : CPo (xDeed X p v m).2 (xDeed X p v m).1 g w Q) : cal (d + 20) nFf_deed [xr 2, xi p, xi v, xi m] g w Q := by
  obtain ⟨kl, kn, kl2, kn2, F, T, K, hk⟩ := h
  obtain ⟨li, ⟨si, wi, hm⟩, pc, pd, im, ln, tx⟩ := xi'
  obtain ⟨h1, h2, h3, h4, h5, h6, h7, h8⟩ := id hk
  exact cl_deed F h1 li h4 pd.1 hv fun w2 f2 r2 => hQ g w2 rfl (fun _ _ _ _ _ => rfl) (fun a j q => f2 a j (by omega)) ⟨kl, kn, kl2, kn2, F, T, K, hk.pap3 F li f2 r2⟩
theorem M_Deed {p v m : Int} (hM : MG g) (hk : MK X w) (xi' : XI X) (hv : v ≤ 2147483647) (hQ : MPo (xDeed X p v m).2 (xDeed X p v m).1 g w Q) : cal (d + 20) nMo_deed [xr 193, xi p, xi v, xi m] g w Q := by
  obtain ⟨li, ⟨si, wi, hm⟩, pc, pd, im, ln, tx⟩ := xi'
  obtain ⟨h1, h2, h3, h4, h5, h6, h7, h8⟩ := id hk
  exact mo_deed hM h1 li h5 pd.1 hv fun w2 f2 r2 => hQ w2 (fun a j q => f2 a j (by omega) (by omega)) (hk.pap3 f2 r2)
theorem I_Deed {p v m : Int} (h : XI X) : XI (xDeed X p v m).2 := pi_deed h
theorem C_Tear (h : CW X g w) (xi' : XI X) (hQ : CPo (xTear X).2 (xTear X).1 g w Q) : cal (d + 20) nFf_tear [xr 2] g w Q := by
  obtain ⟨kl, kn, kl2, kn2, F, T, K, hk⟩ := h
  obtain ⟨li, ⟨si, wi, hm⟩, pc, pd, im, ln, tx⟩ := xi'
  obtain ⟨h1, h2, h3, h4, h5, h6, h7, h8⟩ := id hk
  exact cl_tear F h3 h4 pc.1 pd.1 fun w2 f2 r2 q2 => hQ g w2 rfl (fun _ _ _ _ _ => rfl) (fun a j q => f2 a j (by omega) (by omega)) ⟨kl, kn, kl2, kn2, F, T, K, hk.papT F li f2 r2 q2⟩
theorem M_Tear (hM : MG g) (hk : MK X w) (xi' : XI X) (hQ : MPo (xTear X ).2 (xTear X ).1 g w Q) : cal (d + 20) nMo_tear [xr 193] g w Q := by
  obtain ⟨li, ⟨si, wi, hm⟩, pc, pd, im, ln, tx⟩ := xi'
  obtain ⟨h1, h2, h3, h4, h5, h6, h7, h8⟩ := id hk
  exact mo_tear hM h4 h5 pc.1 pd.1 fun w2 f2 r2 q2 => hQ w2 (fun a j q => f2 a j (by omega)) (hk.papT f2 r2 q2)
theorem I_Tear (h : XI X) : XI (xTear X ).2 := pi_tear h
end WDB
