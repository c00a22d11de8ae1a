/-! ===== printed by wip/gen/mkctor.py: the constructors ===== -/
def Bd (k : Nat) (g0 g : xG) (es fs : List (Nat × Nat)) : Prop := g.1 = g0.1 ++ es ∧ (∀ a j, a ≠ k → g.2 a j = g0.2 a j) ∧ ∀ p ∈ fs, g.2 k p.1 = g0.1.length + p.2
def Kn (L : Nat) (g : xG) (es : List (Nat × Nat)) (ps : List (Nat × Nat × Nat)) : Prop := g.1 = (4, L) :: es ∧ ∀ p ∈ ps, g.2 p.1 p.2.1 = p.2.2
section CTA
variable {g g0 g1 g2 : xG} {w : xW} {d L k m1 m2 : Nat} {Q : xQ} {lim : Nat × Nat} {es fs e1 f1 es2 : List (Nat × Nat)} {ps ps2 : List (Nat × Nat × Nat)} {c : Nat × Nat}
theorem xsl_ap2 {a b : List (Nat × Nat)} : xsl (a ++ b) = xsl a + xsl b := by unfold xsl; rw [List.map_append, List.sum_append]
theorem Bd.z : Bd k g g [] [] := ⟨(List.append_nil _).symm, fun _ _ _ => rfl, fun p h => absurd h (List.not_mem_nil)⟩
theorem Bd.is (h : Bd k g0 g es fs) (hx : xIs g0 k c) : xIs g k c := by
  refine ⟨hx.1, ?_⟩
  have h2 := hx.2
  have hl : k - 1 < g0.1.length := by
    rcases Nat.lt_or_ge (k - 1) g0.1.length with z | z
    · exact z
    · rw [List.getElem?_eq_none z] at h2; exact absurd h2 (by simp)
  rw [h.1, List.getElem?_append_left hl]; exact h2
theorem Bd.chk (h : Bd k g0 g es fs) (e : es.length = m1 ∧ xsl es = m2) : xchk (m1, m2) g0 g := by
  unfold xchk
  rw [h.1, List.length_append, xsl_ap2, e.1, e.2]; exact ⟨rfl, rfl⟩
theorem Bd.st {q : Nat × Nat} {f : Nat} (h : Bd k g0 g es fs) (hf : ∀ p ∈ fs, p.1 ≠ f) : Bd k g0 (g.1 ++ [q], xup g.2 k f (g.1.length + 1)) (es ++ [q]) (fs ++ [(f, es.length + 1)]) := by
  refine ⟨?_, fun a j q => ?_, fun p hp => ?_⟩
  · show g.1 ++ [q] = _
    rw [h.1, List.append_assoc]
  · show xup g.2 k f (g.1.length + 1) a j = _
    rw [xup_a q]; exact h.2.1 a j q
  · show xup g.2 k f (g.1.length + 1) k p.1 = _
    rcases List.mem_append.mp hp with z | z
    · rw [xup_k (hf p z)]; exact h.2.2 p z
    · rw [List.mem_singleton.mp z, xup_s, h.1, List.length_append]; show _ = g0.1.length + (es.length + 1); omega
theorem bdst {P : xG → Prop} {A B : Nat} {n : Int} {t f : Nat} (h : Bd k g0 g es fs) (hx : xIs g0 k c) (hn : (0 : Int) ≤ n ∧ n ≤ 65536) (h1 : es.length + 1 ≤ A ∧ xsl es + xsz (t, Int.toNat n) ≤ B) (hf : ∀ p ∈ fs, p.1 ≠ f) (nx : ∀ g2, Bd k g0 g2 (es ++ [(t, Int.toNat n)]) (fs ++ [(f, es.length + 1)]) → P g2) : ((0 : Int) ≤ n ∧ n ≤ 65536) ∧ (g.1.length + 1 ≤ g0.1.length + A ∧ xsl g.1 + xsz (t, Int.toNat n) ≤ xsl g0.1 + B) ∧ xIs (g.1 ++ [(t, Int.toNat n)], g.2) k c ∧ P (g.1 ++ [(t, Int.toNat n)], xup g.2 k f (g.1.length + 1)) := by
  have b := h.st (q := (t, Int.toNat n)) hf
  refine ⟨hn, ⟨?_, ?_⟩, (b.is hx : xIs (g.1 ++ [(t, Int.toNat n)], xup g.2 k f (g.1.length + 1)) k c), nx _ b⟩
  · rw [h.1, List.length_append]; omega
  · rw [h.1, xsl_ap2]; omega
theorem Kn.is (h : Kn L g es ps) {a : Nat} (e : 2 ≤ a ∧ es[a - 2]? = some c) : xIs g a c := by
  refine ⟨by omega, ?_⟩
  rw [h.1, show a - 1 = (a - 2) + 1 by omega, List.getElem?_cons_succ]; exact e.2
theorem Kn.f (h : Kn L g es ps) {a j v : Nat} (e : (a, j, v) ∈ ps) : g.2 a j = v := h.2 _ e
theorem Kn.len (h : Kn L g es ps) : g.1.length = es.length + 1 := by rw [h.1]; rfl
theorem Kn.sl (h : Kn L g es ps) : xsl g.1 = L + xsl es := by rw [h.1]; unfold xsl; rw [List.map_cons, List.sum_cons]; rfl
theorem Kn.room (h : Kn L g es ps) {n s A B : Nat} (l1 : lim.1 = A) (l2 : lim.2 = L + B) (e : es.length + 1 + n ≤ A ∧ xsl es + s ≤ B) : g.1.length + n ≤ lim.1 ∧ xsl g.1 + s ≤ lim.2 := by
  rw [h.len, h.sl, l1, l2]; omega
theorem Kn.app (h : Kn L g es ps) : Kn L (g.1 ++ [c], g.2) (es ++ [c]) ps := ⟨by show g.1 ++ [c] = _; rw [h.1]; rfl, h.2⟩
theorem Kn.put (h : Kn L g es ps) {a f v v' : Nat} (hv : v = v') (hf : ∀ p ∈ ps, ¬ (p.1 = a ∧ p.2.1 = f)) : Kn L (g.1, xup g.2 a f v) es ((a, f, v') :: ps) := by
  refine ⟨h.1, fun p hp => ?_⟩
  show xup g.2 a f v p.1 p.2.1 = p.2.2
  rcases List.mem_cons.mp hp with z | z
  · rw [z]; show xup g.2 a f v a f = v'; rw [xup_s, hv]
  · have : xup g.2 a f v p.1 p.2.1 = g.2 p.1 p.2.1 := by unfold xup; rw [if_neg (hf p z)]
    rw [this]; exact h.2 p z
theorem Kn.call (h : Kn L g es ps) (b : Bd (g.1.length + 1) (g.1 ++ [c], g.2) g1 e1 f1) (hf : ∀ p ∈ ps, p.1 ≠ es.length + 2) : Kn L g1 (es ++ c :: e1) (f1.map (fun p => (es.length + 2, p.1, es.length + 2 + p.2)) ++ ps) := by
  have hl := h.len
  refine ⟨?_, fun p hp => ?_⟩
  · rw [b.1]; show g.1 ++ [c] ++ e1 = _; rw [h.1, List.append_assoc]; rfl
  · rcases List.mem_append.mp hp with z | z
    · obtain ⟨q, hq, e⟩ := List.mem_map.mp z
      rw [← e]
      have := b.2.2 q hq
      rw [hl] at this
      show g1.2 (es.length + 2) q.1 = es.length + 2 + q.2
      rw [this]; show (g.1 ++ [c]).length + q.2 = _; rw [List.length_append, hl]; rfl
    · rw [b.2.1 p.1 p.2.1 (by rw [hl]; exact hf p z)]; exact h.2 p z
theorem Kn.mono (h : Kn L g es ps) (e : es = es2) (hp : ∀ p ∈ ps2, p ∈ ps) : Kn L g es2 ps2 := ⟨by rw [h.1, e], fun p q => h.2 p (hp p q)⟩
theorem Kn.chk (h : Kn L g es ps) (h2 : Kn L g2 es2 ps2) (e : es2.length = es.length + m1 ∧ xsl es2 = xsl es + m2) : xchk (m1, m2) g g2 := by
  unfold xchk
  rw [h.len, h2.len, h.sl, h2.sl, e.1, e.2]; constructor <;> simp only <;> omega
theorem kst {P : xG → Prop} {A B : Nat} {n : Int} {t f : Nat} (h : Kn L g es ps) (hx : 2 ≤ k ∧ (es ++ [(t, Int.toNat n)])[k - 2]? = some c) (hn : (0 : Int) ≤ n ∧ n ≤ 65536) (l1 : lim.1 = A) (l2 : lim.2 = L + B) (e : es.length + 1 + 1 ≤ A ∧ xsl es + xsz (t, Int.toNat n) ≤ B) (hf : ∀ p ∈ ps, ¬ (p.1 = k ∧ p.2.1 = f)) (nx : ∀ g2, Kn L g2 (es ++ [(t, Int.toNat n)]) ((k, f, es.length + 2) :: ps) → P g2) : ((0 : Int) ≤ n ∧ n ≤ 65536) ∧ (g.1.length + 1 ≤ lim.1 ∧ xsl g.1 + xsz (t, Int.toNat n) ≤ lim.2) ∧ xIs (g.1 ++ [(t, Int.toNat n)], g.2) k c ∧ P (g.1 ++ [(t, Int.toNat n)], xup g.2 k f (g.1.length + 1)) :=
  ⟨hn, h.room l1 l2 e, (h.app (c := (t, Int.toNat n))).is hx, nx _ ((h.app (c := (t, Int.toNat n))).put (by rw [h.len]) hf)⟩
theorem ciMk_init (hx : xIs g k (0, 0)) (hQ : ∀ g2, Bd k g g2 [(1, 6)] [(0, 1)] → Q none g2 w) : cal (d + 1) nMk_init [xr k] g w Q := by
  refine eMk_init (wMk_init_0 ⟨hx.1, bdst (P := fun g2 => xchk (1, 6) g g2 ∧ Q none g2 w) (n := 6) Bd.z hx (by decide) (by decide) (by decide) fun g2 b => ?_⟩)
  exact ⟨b.chk (by decide), hQ _ b⟩
theorem ciPp_init (hx : xIs g k (0, 1)) (hQ : ∀ g2, Bd k g g2 [(1, 12), (1, 12), (1, 12)] [(0, 1), (1, 2), (2, 3)] → Q none g2 w) : cal (d + 1) nPp_init [xr k, xi 12] g w Q := by
  refine ePp_init (wPp_init_0 ⟨hx.1, bdst (P := fun g2 => aPp_init d _ _ 17 [xr k, none, xi 12] [] g2 w) (n := 12) Bd.z hx (by decide) (by decide) (by decide) fun g2 b => ?_⟩)
  refine wPp_init_17 (bdst (P := fun g2 => aPp_init d _ _ 24 [xr k, none, xi 12] [] g2 w) (n := 12) b hx (by decide) (by decide) (by decide) fun g2 b => ?_)
  refine wPp_init_24 (bdst (P := fun g2 => xchk (3, 36) g g2 ∧ Q none g2 w) (n := 12) b hx (by decide) (by decide) (by decide) fun g2 b => ?_)
  exact ⟨b.chk (by decide), hQ _ b⟩
theorem ciPp_init8 (hx : xIs g k (0, 1)) (hQ : ∀ g2, Bd k g g2 [(1, 8), (1, 8), (1, 8)] [(0, 1), (1, 2), (2, 3)] → Q none g2 w) : cal (d + 1) nPp_init8 [xr k, xi 8] g w Q := by
  refine ePp_init8 (wPp_init8_0 ⟨hx.1, bdst (P := fun g2 => aPp_init8 d _ _ 17 [xr k, none, xi 8] [] g2 w) (n := 8) Bd.z hx (by decide) (by decide) (by decide) fun g2 b => ?_⟩)
  refine wPp_init8_17 (bdst (P := fun g2 => aPp_init8 d _ _ 24 [xr k, none, xi 8] [] g2 w) (n := 8) b hx (by decide) (by decide) (by decide) fun g2 b => ?_)
  refine wPp_init8_24 (bdst (P := fun g2 => xchk (3, 24) g g2 ∧ Q none g2 w) (n := 8) b hx (by decide) (by decide) (by decide) fun g2 b => ?_)
  exact ⟨b.chk (by decide), hQ _ b⟩
theorem ciRd_init (hx : xIs g k (0, 2)) (hQ : ∀ g2, Bd k g g2 [(1, 260)] [(0, 1)] → Q none g2 (xup w k 5 (-1))) : cal (d + 1) nRd_init [xr k] g w Q := by
  refine eRd_init (wRd_init_0 ⟨hx.1, bdst (P := fun g2 => aRd_init d _ _ 13 [xr k] [] g2 w) (n := 260) Bd.z hx (by decide) (by decide) (by decide) fun g2 b => ?_⟩)
  exact wRd_init_13 ⟨b.is hx, b.chk (by decide), hQ _ b⟩
theorem ciSt_init (hx : xIs g k (0, 3)) (hQ : ∀ g2, Bd k g g2 [(1, 20), (1, 20), (1, 20), (1, 20), (1, 20), (1, 4), (1, 4), (1, 6), (1, 6), (1, 6), (1, 6), (1, 6)] [(0, 1), (1, 2), (2, 3), (3, 4), (4, 5), (5, 6), (6, 7), (7, 8), (8, 9), (9, 10), (10, 11), (11, 12)] → Q none g2 (xup w k 15 3)) : cal (d + 1) nSt_init [xr k] g w Q := by
  refine eSt_init (wSt_init_0 ⟨hx.1, bdst (P := fun g2 => aSt_init d _ _ 12 [xr k] [] g2 w) (n := 20) Bd.z hx (by decide) (by decide) (by decide) fun g2 b => ?_⟩)
  refine wSt_init_12 (bdst (P := fun g2 => aSt_init d _ _ 20 [xr k] [] g2 w) (n := 20) b hx (by decide) (by decide) (by decide) fun g2 b => ?_)
  refine wSt_init_20 (bdst (P := fun g2 => aSt_init d _ _ 28 [xr k] [] g2 w) (n := 20) b hx (by decide) (by decide) (by decide) fun g2 b => ?_)
  refine wSt_init_28 (bdst (P := fun g2 => aSt_init d _ _ 36 [xr k] [] g2 w) (n := 20) b hx (by decide) (by decide) (by decide) fun g2 b => ?_)
  refine wSt_init_36 (bdst (P := fun g2 => aSt_init d _ _ 44 [xr k] [] g2 w) (n := 20) b hx (by decide) (by decide) (by decide) fun g2 b => ?_)
  refine wSt_init_44 (bdst (P := fun g2 => aSt_init d _ _ 51 [xr k] [] g2 w) (n := 4) b hx (by decide) (by decide) (by decide) fun g2 b => ?_)
  refine wSt_init_51 (bdst (P := fun g2 => aSt_init d _ _ 58 [xr k] [] g2 w) (n := 4) b hx (by decide) (by decide) (by decide) fun g2 b => ?_)
  refine wSt_init_58 (bdst (P := fun g2 => aSt_init d _ _ 66 [xr k] [] g2 w) (n := 6) b hx (by decide) (by decide) (by decide) fun g2 b => ?_)
  refine wSt_init_66 (bdst (P := fun g2 => aSt_init d _ _ 74 [xr k] [] g2 w) (n := 6) b hx (by decide) (by decide) (by decide) fun g2 b => ?_)
  refine wSt_init_74 (bdst (P := fun g2 => aSt_init d _ _ 82 [xr k] [] g2 w) (n := 6) b hx (by decide) (by decide) (by decide) fun g2 b => ?_)
  refine wSt_init_82 (bdst (P := fun g2 => aSt_init d _ _ 90 [xr k] [] g2 w) (n := 6) b hx (by decide) (by decide) (by decide) fun g2 b => ?_)
  refine wSt_init_90 (bdst (P := fun g2 => aSt_init d _ _ 98 [xr k] [] g2 w) (n := 6) b hx (by decide) (by decide) (by decide) fun g2 b => ?_)
  exact wSt_init_98 ⟨b.is hx, b.chk (by decide), hQ _ b⟩
theorem ciTw_init (hx : xIs g k (0, 5)) (hQ : ∀ g2, Bd k g g2 [(1, 100), (1, 20), (1, 8), (1, 4), (1, 4), (1, 6), (1, 6)] [(6, 1), (7, 2), (8, 3), (9, 4), (10, 5), (11, 6), (12, 7)] → Q none g2 w) : cal (d + 1) nTw_init [xr k] g w Q := by
  refine eTw_init (wTw_init_0 ⟨hx.1, bdst (P := fun g2 => aTw_init d _ _ 12 [xr k] [] g2 w) (n := 100) Bd.z hx (by decide) (by decide) (by decide) fun g2 b => ?_⟩)
  refine wTw_init_12 (bdst (P := fun g2 => aTw_init d _ _ 20 [xr k] [] g2 w) (n := 20) b hx (by decide) (by decide) (by decide) fun g2 b => ?_)
  refine wTw_init_20 (bdst (P := fun g2 => aTw_init d _ _ 28 [xr k] [] g2 w) (n := 8) b hx (by decide) (by decide) (by decide) fun g2 b => ?_)
  refine wTw_init_28 (bdst (P := fun g2 => aTw_init d _ _ 35 [xr k] [] g2 w) (n := 4) b hx (by decide) (by decide) (by decide) fun g2 b => ?_)
  refine wTw_init_35 (bdst (P := fun g2 => aTw_init d _ _ 42 [xr k] [] g2 w) (n := 4) b hx (by decide) (by decide) (by decide) fun g2 b => ?_)
  refine wTw_init_42 (bdst (P := fun g2 => aTw_init d _ _ 50 [xr k] [] g2 w) (n := 6) b hx (by decide) (by decide) (by decide) fun g2 b => ?_)
  refine wTw_init_50 (bdst (P := fun g2 => xchk (7, 148) g g2 ∧ Q none g2 w) (n := 6) b hx (by decide) (by decide) (by decide) fun g2 b => ?_)
  exact ⟨b.chk (by decide), hQ _ b⟩
end CTA
