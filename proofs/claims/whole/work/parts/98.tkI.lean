/-! ===== the class reads a text ===== -/
def tz0 : zS := fun _ _ => 0
def sz0 : zS := zset (fun _ _ => 0) 3 (fun _ => -1)
section TKI
variable {g : xG} {w w0 : xW} {T : zT} {L : Nat} {t s : zS} {d : Nat} {Q : xQ} {lim : Nat × Nat} {kl kn : Nat} {v wl : Int} {i : Nat}
theorem pNum_inv {lo hi : Int} {K : Int → Nat → zPR} (hiL : i ≤ L) (h : (pNum T L lo hi i K).1 = 0) : ∃ x j, lo ≤ x ∧ x ≤ hi ∧ i < j ∧ j ≤ L ∧ pNum T L lo hi i K = K x j := by
  by_cases z : (rnm T L lo hi i).1 < 0
  · rw [pNum_fl z] at h
    have h : -(rnm T L lo hi i).1 = 0 := h
    omega
  · obtain ⟨b1, b2, b3, b4, -⟩ := rnm_in hiL (show 0 ≤ (rnm T L lo hi i).1 by omega)
    exact ⟨_, _, b1, b2, b3, b4, pNum_ok (by omega)⟩
theorem pCell_inv {K : Nat → Nat → Nat → zPR} (li : LInv t) (hi : i ≤ L) (h : (pCell T L t i K).1 = 0) : ∃ c j a, c < nC t ∧ i < j ∧ j ≤ L ∧ pCell T L t i K = K c j a := by
  unfold pCell at h ⊢
  obtain ⟨x, j, x1, x2, j1, j2, e⟩ := pNum_inv hi h
  rw [e] at h ⊢
  obtain ⟨y, j3, y1, y2, j4, j5, e2⟩ := pNum_inv j2 h
  rw [e2]
  have hb := cAt_b (x := x) (y := y) li (by omega)
  exact ⟨_, j3, _, by omega, by omega, j5, rfl⟩
theorem pEnd_inv {t2 s2 : zS} {wl2 : Int} (hi : i ≤ L) (h : (pEnd T L i t2 s2 wl2).1 = 0) : ∃ j, i < j ∧ j ≤ L ∧ pEnd T L i t2 s2 wl2 = (0, j, t2, s2, wl2) := by
  have b := sk_b (T := T) hi
  unfold pEnd at h ⊢
  split at h
  · rename_i q
    rw [if_pos q]; exact ⟨_, by omega, by omega, rfl⟩
  · have h : (1 : Int) = 0 := h
    omega
/-- a result that may go on -/
def okR (L : Nat) (i : Nat) (v : Int) (r : zPR) : Prop := i < r.2.1 ∧ r.2.1 ≤ L ∧ ZI r.2.2.1 r.2.2.2.1 v r.2.2.2.2 ∧ r.2.2.1 0 0 ≠ 0
theorem pEnd_ok {t2 s2 : zS} {wl2 : Int} {j : Nat} (hj : j ≤ L) (hij : i < j) (zi : ZI t2 s2 v wl2) (h0 : t2 0 0 ≠ 0) (h : (pEnd T L j t2 s2 wl2).1 = 0) : okR L i v (pEnd T L j t2 s2 wl2) := by
  obtain ⟨k, k1, k2, e⟩ := pEnd_inv hj h
  rw [e]
  exact ⟨by show i < k; omega, k2, zi, h0⟩
theorem pSun_ok : ∀ (n h j : Nat) (t : zS), h + n = 8 → j ≤ L → i < j → t 0 4 = h → t 0 0 ≠ 0 → ZI t s v wl → (pSun T L s wl n h j t).1 = 0 → okR L i v (pSun T L s wl n h j t)
  | 0, h, j, t, _, _, _, _, _, _, hr => by
    have hr : (1 : Int) = 0 := hr
    omega
  | n + 1, h, j, t, hn, hj, hij, h4, h0, zi, hr => by
    unfold pSun at hr ⊢
    obtain ⟨x, j2, x1, x2, j3, j4, e⟩ := pNum_inv hj hr
    rw [e] at hr ⊢
    have b := sk_b (T := T) j4
    have zi2 := zi_sun zi ⟨x1, x2⟩ h4 (by omega)
    have h02 : snT t h x 0 0 ≠ 0 := by rw [snT_0 (by decide)]; exact h0
    split at hr
    · rename_i q
      rw [if_pos q]
      exact pSun_ok n (h + 1) _ _ (by omega) (by omega) (by omega) (by rw [snT_4]; rfl) h02 zi2 hr
    · rename_i q
      rw [if_neg q]
      exact pEnd_ok j4 (by omega) zi2 h02 hr
theorem pCls_ok (zi : ZI t s v wl) (hi : i < L) (h : (pCls T L i t s wl).1 = 0) : okR L i v (pCls T L i t s wl) := by
  have li := zi.1
  have f3 : ∀ {k : Int} {j : Nat}, k ≠ 0 → (flt1 k j).1 ≠ 0 := fun hk => hk
  unfold pCls at h ⊢
  by_cases q0 : t 0 0 = 0
  · rw [if_pos q0] at h ⊢
    by_cases q1 : T i = 116
    · rw [if_pos q1] at h ⊢
      unfold pTown at h ⊢
      obtain ⟨x, j, x1, x2, j1, j2, e⟩ := pNum_inv (by omega) h
      rw [e] at h ⊢
      obtain ⟨y, j3, y1, y2, j4, j5, e2⟩ := pNum_inv j2 h
      rw [e2] at h ⊢
      obtain ⟨b, j6, b1, b2, j7, j8, e3⟩ := pNum_inv j5 h
      rw [e3] at h ⊢
      refine pEnd_ok j8 (by omega) (zi_town zi q0 ⟨x1, x2⟩ ⟨y1, y2⟩ ⟨b1, b2⟩) ?_ h
      rw [zset_s, zup_n (by decide), zup_s]; omega
    · rw [if_neg q1] at h; exact absurd h (f3 (by decide))
  · rw [if_neg q0] at h ⊢
    by_cases q1 : T i = 116
    · rw [if_pos q1] at h; exact absurd h (f3 (by decide))
    · rw [if_neg q1] at h ⊢
      by_cases q2 : T i = 119
      · rw [if_pos q2] at h ⊢
        by_cases r : wl < 12
        · rw [if_pos r] at h ⊢
          unfold pWall at h ⊢
          obtain ⟨c, j, a, hc, j1, j2, e⟩ := pCell_inv li (by omega) h
          rw [e] at h ⊢
          obtain ⟨x, j3, x1, x2, j4, j5, e2⟩ := pNum_inv j2 h
          rw [e2] at h ⊢
          split at h
          · exact absurd h (f3 (by decide))
          · rename_i u
            rw [if_neg u]
            split at h
            · rename_i u2
              rw [if_pos u2]
              exact pEnd_ok j5 (by omega) (zi_wall zi hc (by omega) u r) q0 h
            · exact absurd h (f3 (by decide))
        · rw [if_neg r] at h; exact absurd h (f3 (by decide))
      · rw [if_neg q2] at h ⊢
        by_cases q3 : T i = 111
        · rw [if_pos q3] at h ⊢
          by_cases r : t 0 2 < 4
          · rw [if_pos r] at h ⊢
            unfold pStove at h ⊢
            obtain ⟨c, j, a, hc, j1, j2, e⟩ := pCell_inv li (by omega) h
            rw [e] at h ⊢
            split at h
            · exact absurd h (f3 (by decide))
            · rename_i u
              rw [if_neg u]
              obtain ⟨x, j3, x1, x2, j4, j5, e2⟩ := pNum_inv j2 h
              rw [e2] at h ⊢
              obtain ⟨f, j6, f1, f2, j7, j8, e3⟩ := pNum_inv j5 h
              rw [e3] at h ⊢
              exact pEnd_ok j8 (by omega) (zi_stove zi hc ⟨x1, x2⟩ ⟨f1, f2⟩ r) (by rw [stT_0 (by decide)]; exact q0) h
          · rw [if_neg r] at h; exact absurd h (f3 (by decide))
        · rw [if_neg q3] at h ⊢
          by_cases q4 : T i = 114
          · rw [if_pos q4] at h ⊢
            by_cases r : t 0 3 < 12
            · rw [if_pos r] at h ⊢
              unfold pRoof at h ⊢
              obtain ⟨c, j, a, hc, j1, j2, e⟩ := pCell_inv li (by omega) h
              rw [e] at h ⊢
              split at h
              · rename_i u
                rw [if_pos u]
                exact pEnd_ok j2 (by omega) (zi_roof zi hc r) (by rw [rfT_0 (by decide)]; exact q0) h
              · exact absurd h (f3 (by decide))
            · rw [if_neg r] at h; exact absurd h (f3 (by decide))
          · rw [if_neg q4] at h ⊢
            by_cases q5 : T i = 115
            · rw [if_pos q5] at h ⊢
              by_cases r : t 0 4 = 0
              · rw [if_pos r] at h ⊢
                exact pSun_ok 8 0 (i + 1) t rfl (by omega) (by omega) r q0 zi h
              · rw [if_neg r] at h; exact absurd h (f3 (by decide))
            · rw [if_neg q5] at h ⊢
              by_cases q6 : T i = 112
              · rw [if_pos q6] at h ⊢
                by_cases r : t 0 5 < 6
                · rw [if_pos r] at h ⊢
                  unfold pPers at h ⊢
                  obtain ⟨c, j, a, hc, j1, j2, e⟩ := pCell_inv li (by omega) h
                  rw [e] at h ⊢
                  obtain ⟨k, j3, k1, k2, j4, j5, e2⟩ := pNum_inv j2 h
                  rw [e2] at h ⊢
                  obtain ⟨x, j6, x1, x2, j7, j8, e3⟩ := pNum_inv j5 h
                  rw [e3] at h ⊢
                  obtain ⟨y, j9, y1, y2, j10, j11, e4⟩ := pNum_inv j8 h
                  rw [e4] at h ⊢
                  exact pEnd_ok j11 (by omega) (zi_pers zi hc ⟨k1, k2⟩ ⟨x1, x2⟩ ⟨y1, y2⟩ r) (by rw [prT_0 (by decide)]; exact q0) h
                · rw [if_neg r] at h; exact absurd h (f3 (by decide))
              · rw [if_neg q6] at h; exact absurd h (f3 (by decide))
theorem pAll_ok : ∀ (n i : Nat) (t s : zS) (wl : Int), i ≤ L → ZI t s v wl → (pAll T L n i t s wl).1 = 0 → ZI (pAll T L n i t s wl).2.2.1 (pAll T L n i t s wl).2.2.2.1 v (pAll T L n i t s wl).2.2.2.2
  | 0, i, t, s, wl, _, zi, _ => zi
  | n + 1, i, t, s, wl, hi, zi, h => by
    have b := sk_b (T := T) hi
    unfold pAll at h ⊢
    split at h
    · rename_i q
      rw [if_pos q]
      split at h
      · rename_i q2
        rw [if_pos q2]
        obtain ⟨o1, o2, o3, o4⟩ := pCls_ok zi q q2
        exact pAll_ok n _ _ _ _ o2 o3 h
      · rename_i q2
        exact absurd h q2
    · rename_i q
      rw [if_neg q]; exact zi
/-- how a text was read by the class -/
def cRd (r : zPR) (v : Int) (kl kn : Nat) (w2 : xW) : Prop := (r.1 = 0 ∧ ZC r.2.2.1 r.2.2.2.1 v r.2.2.2.2 kl kn w2) ∨ (r.1 ≠ 0 ∧ w2 3 4 = r.1 ∧ w2 3 5 = (r.2.1 : Int))
theorem cl_read50 : ∀ (n k i : Nat) (t s : zS) (wl : Int) (w : xW), k + n = 260 → i ≤ L → CC g kl kn T L t s v wl w (sk T L i) → (∀ w2, PF kl kn w w2 → cRd (pAll T L n i t s wl) v kl kn w2 → Q (some (xi (if (pAll T L n i t s wl).1 = 0 then 1 else 0))) g w2) → aRd_read (d + 5) lim Q 50 [xr 3, none, none, xi k] [] g w
  | 0, k, i, t, s, wl, w, hk, hi, hC, hQ => by
    refine wRd_read_50 ⟨fun _ => ⟨Or.inr rfl, ?_⟩, fun h => by omega⟩
    exact hQ w PF.refl (Or.inl ⟨rfl, hC.2.2.2.1⟩)
  | n + 1, k, i, t, s, wl, w, hk, hi, hC, hQ => by
    obtain ⟨⟨R, h7, h8, hTG, hS, hk1, hk2⟩, hT, hx, hz, zi, hiL, hp⟩ := id hC
    have e1 : w 3 1 = L := hx.1
    unfold pAll at hQ
    refine wRd_read_50 ?_
    simp only [R.1, e1, hp, true_and]
    refine ⟨fun h => by omega, fun _ => ⟨fun q => ⟨Or.inr trivial, ?_⟩, fun q => ?_⟩⟩
    · rw [if_neg (by omega)] at hQ
      exact hQ w PF.refl (Or.inl ⟨rfl, hz⟩)
    · have q : sk T L i < L := by omega
      rw [if_pos q] at hQ
      refine cl_clause hC q fun w1 f1 r1 => ⟨_, rfl, fun z => ?_, fun z => ⟨Or.inl trivial, ?_⟩⟩
      · have z := ifv.2 z
        rw [if_pos z] at hQ
        obtain ⟨o1, o2, o3, o4⟩ := pCls_ok zi q z
        rcases r1 with ⟨-, z1, p1⟩ | ⟨y, -⟩
        · have x1 : Tx T L w1 := hx.e (fun j => f1.1 4 j (by omega) (by omega) (by omega)) (f1.1 3 1 (by omega) (by omega) (by omega))
          simp only [R.1, true_and]
          refine cl_skip R hT x1 o2 p1 fun w2 f2 p2 => ⟨rfl, by constructor <;> omega, ?_⟩
          have f2 : RN w1 w2 := fun a j q => f2 a j fun z => q ⟨z.1, Or.inl z.2⟩
          have b2 := sk_b (T := T) o2
          rw [show ((k : Int) + 1) = ((k + 1 : Nat) : Int) by omega]
          refine cl_read50 n (k + 1) _ _ _ _ w2 (by omega) o2 ⟨⟨R, h7, h8, hTG, hS, hk1, hk2⟩, hT, x1.rn f2, z1.rn f2 (by omega), o3, b2.2, p2⟩ fun w3 f3 r3 => hQ w3 ((f1.trans (f2.pf (by omega))).trans f3) r3
        · exact absurd z y
      · have z := ifv.1 z
        rw [if_neg z] at hQ
        rcases r1 with ⟨y, -⟩ | ⟨-, k1, a1⟩
        · exact absurd y z
        · have := hQ w1 f1 (Or.inr ⟨z, k1, a1⟩)
          rw [if_neg z] at this; exact this
end TKI
