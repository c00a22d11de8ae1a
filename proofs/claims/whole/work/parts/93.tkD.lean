/-! ===== clauses keep the bounds ===== -/
section TKD
variable {t t2 s : zS} {v wl : Int}
theorem nbr_t (h0 : t2 0 0 = t 0 0) (h1 : t2 0 1 = t 0 1) (c d : Int) : nbr t2 c d = nbr t c d := by unfold nbr; rw [h0, h1]
theorem brd_t (h0 : t2 0 0 = t 0 0) (h1 : t2 0 1 = t 0 1) (c : Int) : brd t2 s c = brd t s c := by
  unfold brd bw1 wlf
  rw [h0]
  simp only [nbr_t h0 h1]
theorem nC_t (h0 : t2 0 0 = t 0 0) (h1 : t2 0 1 = t 0 1) : nC t2 = nC t := by unfold nC; rw [h0, h1]
theorem sd_n {r i : Nat} (h : r ≠ 12) : sd s v r i = s r i := zset_n h
theorem sd_12 {i : Nat} : sd s v 12 i = if i = 1 then 3 else if i = 3 then v else 0 := zset_s
theorem stT_0 {c x : Int} {i : Nat} (h : i ≠ 2) : stT t c x 0 i = t 0 i := by unfold stT; rw [zset_s, zup_n h]
theorem stT_2 {c x : Int} : stT t c x 0 2 = t 0 2 + 1 := by unfold stT; rw [zset_s, zup_s]
theorem stT_n {c x : Int} {r i : Nat} (h : r ≠ 0) (h3 : r ≠ 3) (h4 : r ≠ 4) : stT t c x r i = t r i := by unfold stT; rw [zset_n h, zset_n h4, zset_n h3]
theorem stT_3 {c x : Int} {i : Nat} : stT t c x 3 i = zup (t 3) (nS t) c i := by unfold stT; rw [zset_n (by decide), zset_n (by decide), zset_s]
theorem stT_4 {c x : Int} {i : Nat} : stT t c x 4 i = zup (t 4) (nS t) x i := by unfold stT; rw [zset_n (by decide), zset_s]
theorem rfT_0 {c i : Nat} (h : i ≠ 3) : rfT t c 0 i = t 0 i := by unfold rfT; rw [zset_s, zup_n h]
theorem rfT_3 {c : Nat} : rfT t c 0 3 = t 0 3 + 1 := by unfold rfT; rw [zset_s, zup_s]
theorem rfT_n {c r i : Nat} (h : r ≠ 0) (h1 : r ≠ 1) : rfT t c r i = t r i := by unfold rfT; rw [zset_n h, zset_n h1]
theorem rfT_1 {c i : Nat} : rfT t c 1 i = zup (t 1) c 1 i := by unfold rfT; rw [zset_n (by decide), zset_s]
theorem snT_0 {h i : Nat} {x : Int} (q : i ≠ 4) : snT t h x 0 i = t 0 i := by unfold snT; rw [zset_s, zup_n q]
theorem snT_4 {h : Nat} {x : Int} : snT t h x 0 4 = h + 1 := by unfold snT; rw [zset_s, zup_s]
theorem snT_n {h r i : Nat} {x : Int} (q : r ≠ 0) (q2 : r ≠ 2) : snT t h x r i = t r i := by unfold snT; rw [zset_n q, zset_n q2]
theorem snT_2 {h i : Nat} {x : Int} : snT t h x 2 i = zup (t 2) h x i := by unfold snT; rw [zset_n (by decide), zset_s]
theorem prT_0 {x y : Int} {i : Nat} (h : i ≠ 5) : prT t x y 0 i = t 0 i := by unfold prT; rw [zset_s, zup_n h]
theorem prT_5 {x y : Int} : prT t x y 0 5 = t 0 5 + 1 := by unfold prT; rw [zset_s, zup_s]
theorem prT_n {x y : Int} {r i : Nat} (h : r ≠ 0) (h5 : r ≠ 5) (h6 : r ≠ 6) : prT t x y r i = t r i := by unfold prT; rw [zset_n h, zset_n h6, zset_n h5]
theorem prT_r5 {x y : Int} {i : Nat} : prT t x y 5 i = zup (t 5) (nP t) x i := by unfold prT; rw [zset_n (by decide), zset_n (by decide), zset_s]
theorem prT_r6 {x y : Int} {i : Nat} : prT t x y 6 i = zup (t 6) (nP t) y i := by unfold prT; rw [zset_n (by decide), zset_s]
theorem prS_n {c k : Int} {r i : Nat} (h7 : r ≠ 7) (h8 : r ≠ 8) : prS t s c k r i = s r i := by unfold prS; rw [zset_n h8, zset_n h7]
theorem prS_7 {c k : Int} {i : Nat} : prS t s c k 7 i = zup (s 7) (nP t) c i := by unfold prS; rw [zset_n (by decide), zset_s]
theorem prS_8 {c k : Int} {i : Nat} : prS t s c k 8 i = zup (s 8) (nP t) k i := by unfold prS; rw [zset_s]
theorem twT_0 {x y : Int} {i : Nat} : zset t 0 (zup (zup (t 0) 0 x) 1 y) 0 i = zup (zup (t 0) 0 x) 1 y i := zset_s
theorem zi_town {x y b : Int} (h : ZI t s v wl) (h0 : t 0 0 = 0) (hx : 1 ≤ x ∧ x ≤ 6) (hy : 1 ≤ y ∧ y ≤ min 6 (20 / x)) (hb : 0 ≤ b ∧ b ≤ 200) : ZI (zset t 0 (zup (zup (t 0) 0 x) 1 y)) (zset s 0 (fun _ => b)) v wl := by
  obtain ⟨li, si, wi, hw, h1, hs⟩ := h
  have hz : t 0 0 = 0 ∧ t 0 1 = 0 ∧ t 0 2 = 0 ∧ t 0 5 = 0 := by rcases li.1 with q | q <;> omega
  have n0 : nC t = 0 := by unfold nC; rw [h0]; simp
  have hxy : 1 ≤ x * y ∧ x * y ≤ 20 := by
    have : x = 1 ∨ x = 2 ∨ x = 3 ∨ x = 4 ∨ x = 5 ∨ x = 6 := by omega
    rcases this with q | q | q | q | q | q <;> subst q <;> omega
  have e0 : zset t 0 (zup (zup (t 0) 0 x) 1 y) 0 0 = x := by rw [zset_s, zup_n (by decide), zup_s]
  have e1 : zset t 0 (zup (zup (t 0) 0 x) 1 y) 0 1 = y := by rw [zset_s, zup_s]
  have eo : ∀ i, i ≠ 0 → i ≠ 1 → zset t 0 (zup (zup (t 0) 0 x) 1 y) 0 i = t 0 i := fun i p q => by rw [zset_s, zup_n q, zup_n p]
  have en : ∀ r i, r ≠ 0 → zset t 0 (zup (zup (t 0) 0 x) 1 y) r i = t r i := fun r i p => zset_n p
  have nS0 : nS (zset t 0 (zup (zup (t 0) 0 x) 1 y)) = 0 := by unfold nS; rw [eo 2 (by decide) (by decide)]; omega
  have nP0 : nP (zset t 0 (zup (zup (t 0) 0 x) 1 y)) = 0 := by unfold nP; rw [eo 5 (by decide) (by decide)]; omega
  obtain ⟨l1, l2, l3, l4, l5, l6, l7, l8, l9⟩ := li
  obtain ⟨q1, q2, q3, q4, q5, q6, q7, q8, q9, q10⟩ := si
  refine ⟨⟨Or.inr (by rw [e0, e1]; omega), by rw [eo 2 (by decide) (by decide)]; exact l2, by rw [eo 3 (by decide) (by decide)]; exact l3, by rw [eo 4 (by decide) (by decide)]; exact l4, by rw [eo 5 (by decide) (by decide)]; exact l5, fun i _ => by rw [en 1 i (by decide)]; exact h1 i, fun i hi => ?_, fun i hi => by omega, fun i hi => by omega⟩, ⟨fun i _ => ?_, fun i => ?_, fun i _ => ?_, fun i hi => by omega, fun i hi => by omega, ?_, ?_, ?_, ?_, ?_⟩, fun c _ => ?_, hw, fun i => by rw [en 1 i (by decide)]; exact h1 i, fun i => ?_⟩
  · rw [eo 4 (by decide) (by decide)] at hi
    rw [en 2 i (by decide)]; exact l7 i hi
  · rw [eo 5 (by decide) (by decide), hz.2.2.2, sd_n (by decide), sd_n (by decide), sd_n (by decide), sd_12, zset_s, zset_n (by decide), zset_n (by decide), (hs i).1, (hs i).2.1]
    exact ⟨by omega, by omega, by simp⟩
  · rw [sd_n (by decide), sd_n (by decide), zset_n (by decide), zset_n (by decide)]; exact q2 i
  · rw [sd_n (by decide), sd_n (by decide), zset_n (by decide), zset_n (by decide)]; exact q3 i (by omega)
  · rw [sd_12] at q6 ⊢; exact q6
  · rw [sd_12] at q7 ⊢; exact q7
  · rw [sd_12] at q8 ⊢; exact q8
  · rw [sd_12] at q9 ⊢; exact q9
  · rw [sd_12] at q10 ⊢; exact q10
  · rw [zset_n (by decide), zset_n (by decide)]
    have := q3 c (by omega)
    rw [sd_n (by decide), sd_n (by decide)] at this
    exact ⟨fun _ => this.1, fun _ => this.2⟩
  · rw [zset_n (by decide), zset_n (by decide), zset_n (by decide), zset_n (by decide), zset_n (by decide), zset_n (by decide)]; exact hs i
theorem sd_bld {D c : Nat} (hD : D ≤ 1) {x : Int} : sd (bld s D c x) v = bld (sd s v) D c x := by
  funext r i
  by_cases q : r = 12
  · subst q
    rw [sd_12, bld_n (by omega), sd_12]
  · rw [sd_n q]
    by_cases q2 : r = 1 + D
    · subst q2
      rw [bld_e, bld_e]
      by_cases z : i = c
      · subst z; rw [zup_s, zup_s]
      · rw [zup_n z, zup_n z, sd_n q]
    · rw [bld_n q2, bld_n q2, sd_n q]
theorem zi_wall {d : Int} {c : Nat} (h : ZI t s v wl) (hc : c < nC t) (hd : d = 0 ∨ d = 1) (hn : nbr t c (2 + d) ≠ -1) (hw : wl < 12) : ZI t (bld s d.toNat c 1) v (wl + 1) := by
  obtain ⟨li, si, wi, hw0, h1, hs⟩ := h
  refine ⟨li, ?_, fun e he => ?_, by omega, h1, fun i => ?_⟩
  · rw [sd_bld (by omega)]
    exact si_bld si hc (by omega) (Or.inr rfl)
  · have we := wi e he
    rcases hd with q | q <;> subst q
    · refine ⟨fun z => ?_, fun z => ?_⟩
      · show bld s 0 c 1 1 e = 0
        rw [show bld s 0 c 1 1 e = _ from bld_e (d := 0), zup_n]
        · exact we.1 z
        · intro y; subst y; exact hn z
      · show bld s 0 c 1 2 e = 0
        rw [bld_n (by decide)]; exact we.2 z
    · refine ⟨fun z => ?_, fun z => ?_⟩
      · show bld s 1 c 1 1 e = 0
        rw [bld_n (by decide)]; exact we.1 z
      · show bld s 1 c 1 2 e = 0
        rw [show bld s 1 c 1 2 e = _ from bld_e (d := 1), zup_n]
        · exact we.2 z
        · intro y; subst y; exact hn z
  · have hr : ∀ r, r ≠ 1 → r ≠ 2 → bld s d.toNat c 1 r i = s r i := fun r p q => bld_n (by omega)
    rw [hr 3 (by decide) (by decide), hr 4 (by decide) (by decide), hr 6 (by decide) (by decide), hr 9 (by decide) (by decide), hr 10 (by decide) (by decide), hr 11 (by decide) (by decide)]; exact hs i
theorem zi_stove {x f : Int} {c : Nat} (h : ZI t s v wl) (hc : c < nC t) (hx : 1 ≤ x ∧ x ≤ 60) (hf : 0 ≤ f ∧ f ≤ 99) (h4 : t 0 2 < 4) : ZI (stT t c x) (stS t s f) v wl := by
  obtain ⟨li, si, wi, hw, h1, hs⟩ := h
  obtain ⟨n1, n2, n3, n4, n5, n6⟩ := li_n li
  have eC : nC (stT t c x) = nC t := nC_t (stT_0 (by decide)) (stT_0 (by decide))
  have eP : nP (stT t c x) = nP t := by unfold nP; rw [stT_0 (by decide)]
  have eS : nS (stT t c x) = nS t + 1 := by unfold nS; rw [stT_2]; unfold nS at n3; omega
  have hC0 : t 0 0 ≠ 0 := fun z => by
    have : nC t = 0 := by unfold nC; rw [z]; simp
    omega
  obtain ⟨l1, l2, l3, l4, l5, l6, l7, l8, l9⟩ := li
  obtain ⟨q1, q2, q3, q4, q5, q6, q7, q8, q9, q10⟩ := si
  have er : ∀ r i, r ≠ 5 → stS t s f r i = s r i := fun r i q => zset_n q
  refine ⟨⟨Or.inr (by rw [stT_0 (by decide), stT_0 (by decide)]; rcases l1 with q | q <;> omega), by rw [stT_2]; omega, by rw [stT_0 (by decide)]; exact l3, by rw [stT_0 (by decide)]; exact l4, by rw [stT_0 (by decide)]; exact l5, fun i _ => by rw [stT_n (by decide) (by decide) (by decide)]; exact h1 i, fun i hi => ?_, fun i hi => ?_, fun i hi => ?_⟩, ⟨fun i hi => ?_, fun i => ?_, fun i hi => ?_, fun i hi => ?_, fun i hi => ?_, ?_, ?_, ?_, ?_, ?_⟩, fun e he => ?_, hw, fun i => by rw [stT_n (by decide) (by decide) (by decide)]; exact h1 i, fun i => ?_⟩
  · rw [stT_0 (by decide)] at hi
    rw [stT_n (by decide) (by decide) (by decide)]; exact l7 i hi
  · rw [stT_3, stT_4, eC]
    by_cases q : i = nS t
    · rw [q, zup_s, zup_s]; omega
    · rw [zup_n q, zup_n q]; exact l8 i (by omega)
  · rw [stT_n (by decide) (by decide) (by decide), stT_n (by decide) (by decide) (by decide)]; exact l9 i (by omega)
  · rw [sd_n (by decide), sd_n (by decide), sd_n (by decide), er 0 i (by decide), er 3 i (by decide), er 4 i (by decide), stT_0 (by decide), sd_12]
    have := q1 i (by omega)
    rw [sd_n (by decide), sd_n (by decide), sd_n (by decide), sd_12] at this; exact this
  · rw [sd_n (by decide), sd_n (by decide), er 1 i (by decide), er 2 i (by decide)]
    have := q2 i
    rw [sd_n (by decide), sd_n (by decide)] at this; exact this
  · rw [sd_n (by decide), sd_n (by decide), er 1 i (by decide), er 2 i (by decide)]
    have := q3 i (by omega)
    rw [sd_n (by decide), sd_n (by decide)] at this; exact this
  · rw [sd_n (by decide), sd_n (by decide), er 6 i (by decide), (hs i).2.2.1]
    refine ⟨?_, Or.inl rfl⟩
    unfold stS
    rw [zset_s]
    by_cases q : i = nS t
    · rw [q, zup_s]; omega
    · rw [zup_n q]
      have := (q4 i (by omega)).1
      rw [sd_n (by decide)] at this; exact this
  · have := q5 i (by omega)
    rw [sd_n (by decide), sd_n (by decide), sd_n (by decide), sd_n (by decide), sd_n (by decide)] at this
    rw [sd_n (by decide), sd_n (by decide), sd_n (by decide), sd_n (by decide), sd_n (by decide), er 7 i (by decide), er 8 i (by decide), er 9 i (by decide), er 10 i (by decide), er 11 i (by decide), eC]; exact this
  · rw [sd_12] at q6 ⊢; exact q6
  · rw [sd_12] at q7 ⊢; exact q7
  · rw [sd_12] at q8 ⊢; exact q8
  · rw [sd_12] at q9 ⊢; exact q9
  · rw [sd_12] at q10 ⊢; exact q10
  · rw [nbr_t (stT_0 (by decide)) (stT_0 (by decide)), nbr_t (stT_0 (by decide)) (stT_0 (by decide)), er 1 e (by decide), er 2 e (by decide)]; exact wi e (by omega)
  · rw [er 3 i (by decide), er 4 i (by decide), er 6 i (by decide), er 9 i (by decide), er 10 i (by decide), er 11 i (by decide)]; exact hs i
/-- a land that differs in what no state knows of -/
theorem zi_land (h : ZI t s v wl) (li2 : LInv t2) (h0 : t2 0 0 = t 0 0) (h1 : t2 0 1 = t 0 1) (h2 : t2 0 2 = t 0 2) (h5 : t2 0 5 = t 0 5) (hr : ∀ i, t2 1 i = 0 ∨ t2 1 i = 1) : ZI t2 s v wl := by
  obtain ⟨li, si, wi, hw, -, hs⟩ := h
  have eC := nC_t h0 h1
  have eS : nS t2 = nS t := by unfold nS; rw [h2]
  have eP : nP t2 = nP t := by unfold nP; rw [h5]
  obtain ⟨q1, q2, q3, q4, q5, q6, q7, q8, q9, q10⟩ := si
  refine ⟨li2, ⟨fun i hi => by rw [h5]; exact q1 i (by omega), q2, fun i hi => q3 i (by omega), fun i hi => q4 i (by omega), fun i hi => by rw [eC]; exact q5 i (by omega), q6, q7, q8, q9, q10⟩, fun c hc => ?_, hw, hr, hs⟩
  rw [nbr_t h0 h1, nbr_t h0 h1]; exact wi c (by omega)
theorem zi_roof {c : Nat} (h : ZI t s v wl) (hc : c < nC t) (h3 : t 0 3 < 12) : ZI (rfT t c) s v wl := by
  have li := h.1
  have h1 := h.2.2.2.2.1
  have hr : ∀ i, rfT t c 1 i = 0 ∨ rfT t c 1 i = 1 := fun i => by
    rw [rfT_1]
    by_cases q : i = c
    · subst q; rw [zup_s]; exact Or.inr rfl
    · rw [zup_n q]; exact h1 i
  have eC : nC (rfT t c) = nC t := nC_t (rfT_0 (by decide)) (rfT_0 (by decide))
  have eS : nS (rfT t c) = nS t := by unfold nS; rw [rfT_0 (by decide)]
  have eP : nP (rfT t c) = nP t := by unfold nP; rw [rfT_0 (by decide)]
  obtain ⟨l1, l2, l3, l4, l5, l6, l7, l8, l9⟩ := li
  refine zi_land h ⟨by rw [rfT_0 (by decide), rfT_0 (by decide), rfT_0 (by decide), rfT_0 (by decide)]; exact l1, by rw [rfT_0 (by decide)]; exact l2, by rw [rfT_3]; omega, by rw [rfT_0 (by decide)]; exact l4, by rw [rfT_0 (by decide)]; exact l5, fun i _ => hr i, fun i hi => ?_, fun i hi => ?_, fun i hi => ?_⟩ (rfT_0 (by decide)) (rfT_0 (by decide)) (rfT_0 (by decide)) (rfT_0 (by decide)) hr
  · rw [rfT_0 (by decide)] at hi
    rw [rfT_n (by decide) (by decide)]; exact l7 i hi
  · rw [rfT_n (by decide) (by decide), rfT_n (by decide) (by decide), eC]; exact l8 i (by omega)
  · rw [rfT_n (by decide) (by decide), rfT_n (by decide) (by decide)]; exact l9 i (by omega)
theorem zi_sun {x : Int} {n : Nat} (h : ZI t s v wl) (hx : 0 ≤ x ∧ x ≤ 30) (h4 : t 0 4 = n) (hn : n < 8) : ZI (snT t n x) s v wl := by
  have li := h.1
  have h1 := h.2.2.2.2.1
  have hr : ∀ i, snT t n x 1 i = 0 ∨ snT t n x 1 i = 1 := fun i => by rw [snT_n (by decide) (by decide)]; exact h1 i
  have eC : nC (snT t n x) = nC t := nC_t (snT_0 (by decide)) (snT_0 (by decide))
  have eS : nS (snT t n x) = nS t := by unfold nS; rw [snT_0 (by decide)]
  have eP : nP (snT t n x) = nP t := by unfold nP; rw [snT_0 (by decide)]
  obtain ⟨l1, l2, l3, l4, l5, l6, l7, l8, l9⟩ := li
  refine zi_land h ⟨by rw [snT_0 (by decide), snT_0 (by decide), snT_0 (by decide), snT_0 (by decide)]; exact l1, by rw [snT_0 (by decide)]; exact l2, by rw [snT_0 (by decide)]; exact l3, by rw [snT_4]; omega, by rw [snT_0 (by decide)]; exact l5, fun i _ => hr i, fun i hi => ?_, fun i hi => ?_, fun i hi => ?_⟩ (snT_0 (by decide)) (snT_0 (by decide)) (snT_0 (by decide)) (snT_0 (by decide)) hr
  · rw [snT_4] at hi
    rw [snT_2]
    by_cases q : i = n
    · subst q; rw [zup_s]; exact hx
    · rw [zup_n q]; exact l7 i (by omega)
  · rw [snT_n (by decide) (by decide), snT_n (by decide) (by decide), eC]; exact l8 i (by omega)
  · rw [snT_n (by decide) (by decide), snT_n (by decide) (by decide)]; exact l9 i (by omega)
theorem zi_pers {k x y : Int} {c : Nat} (h : ZI t s v wl) (hc : c < nC t) (hk : 0 ≤ k ∧ k ≤ 300) (hx : 1 ≤ x ∧ x ≤ 60) (hy : 0 ≤ y ∧ y ≤ 9) (h6 : t 0 5 < 6) : ZI (prT t x y) (prS t s c k) v wl := by
  obtain ⟨li, si, wi, hw, h1, hs⟩ := h
  obtain ⟨n1, n2, n3, n4, n5, n6⟩ := li_n li
  have eC : nC (prT t x y) = nC t := nC_t (prT_0 (by decide)) (prT_0 (by decide))
  have eS : nS (prT t x y) = nS t := by unfold nS; rw [prT_0 (by decide)]
  have eP : nP (prT t x y) = nP t + 1 := by unfold nP; rw [prT_5]; unfold nP at n5; omega
  have hC0 : t 0 0 ≠ 0 := fun z => by
    have : nC t = 0 := by unfold nC; rw [z]; simp
    omega
  obtain ⟨l1, l2, l3, l4, l5, l6, l7, l8, l9⟩ := li
  obtain ⟨q1, q2, q3, q4, q5, q6, q7, q8, q9, q10⟩ := si
  have er : ∀ r i, r ≠ 7 → r ≠ 8 → prS t s c k r i = s r i := fun r i p q => prS_n p q
  refine ⟨⟨Or.inr (by rw [prT_0 (by decide), prT_0 (by decide)]; rcases l1 with q | q <;> omega), by rw [prT_0 (by decide)]; exact l2, by rw [prT_0 (by decide)]; exact l3, by rw [prT_0 (by decide)]; exact l4, by rw [prT_5]; omega, fun i _ => by rw [prT_n (by decide) (by decide) (by decide)]; exact h1 i, fun i hi => ?_, fun i hi => ?_, fun i hi => ?_⟩, ⟨fun i hi => ?_, fun i => ?_, fun i hi => ?_, fun i hi => ?_, fun i hi => ?_, ?_, ?_, ?_, ?_, ?_⟩, fun e he => ?_, hw, fun i => by rw [prT_n (by decide) (by decide) (by decide)]; exact h1 i, fun i => ?_⟩
  · rw [prT_0 (by decide)] at hi
    rw [prT_n (by decide) (by decide) (by decide)]; exact l7 i hi
  · rw [prT_n (by decide) (by decide) (by decide), prT_n (by decide) (by decide) (by decide), eC]; exact l8 i (by omega)
  · rw [prT_r5, prT_r6]
    by_cases q : i = nP t
    · rw [q, zup_s, zup_s]; omega
    · rw [zup_n q, zup_n q]; exact l9 i (by omega)
  · rw [sd_n (by decide), sd_n (by decide), sd_n (by decide), er 0 i (by decide) (by decide), er 3 i (by decide) (by decide), er 4 i (by decide) (by decide), prT_5, sd_12]
    have := q1 i (by omega)
    rw [sd_n (by decide), sd_n (by decide), sd_n (by decide), sd_12] at this; omega
  · rw [sd_n (by decide), sd_n (by decide), er 1 i (by decide) (by decide), er 2 i (by decide) (by decide)]
    have := q2 i
    rw [sd_n (by decide), sd_n (by decide)] at this; exact this
  · rw [sd_n (by decide), sd_n (by decide), er 1 i (by decide) (by decide), er 2 i (by decide) (by decide)]
    have := q3 i (by omega)
    rw [sd_n (by decide), sd_n (by decide)] at this; exact this
  · rw [sd_n (by decide), sd_n (by decide), er 5 i (by decide) (by decide), er 6 i (by decide) (by decide)]
    have := q4 i (by omega)
    rw [sd_n (by decide), sd_n (by decide)] at this; exact this
  · rw [sd_n (by decide), sd_n (by decide), sd_n (by decide), sd_n (by decide), sd_n (by decide), prS_7, prS_8, er 9 i (by decide) (by decide), er 10 i (by decide) (by decide), er 11 i (by decide) (by decide), eC, (hs i).2.2.2.1, (hs i).2.2.2.2.1, (hs i).2.2.2.2.2]
    by_cases q : i = nP t
    · rw [q, zup_s, zup_s]; omega
    · rw [zup_n q, zup_n q]
      have := q5 i (by omega)
      rw [sd_n (by decide), sd_n (by decide)] at this
      omega
  · rw [sd_12] at q6 ⊢; exact q6
  · rw [sd_12] at q7 ⊢; exact q7
  · rw [sd_12] at q8 ⊢; exact q8
  · rw [sd_12] at q9 ⊢; exact q9
  · rw [sd_12] at q10 ⊢; exact q10
  · rw [nbr_t (prT_0 (by decide)) (prT_0 (by decide)), nbr_t (prT_0 (by decide)) (prT_0 (by decide)), er 1 e (by decide) (by decide), er 2 e (by decide) (by decide)]; exact wi e (by omega)
  · rw [er 3 i (by decide) (by decide), er 4 i (by decide) (by decide), er 6 i (by decide) (by decide), er 9 i (by decide) (by decide), er 10 i (by decide) (by decide), er 11 i (by decide) (by decide)]; exact hs i
end TKD
