/-! ===== the class: flow ===== -/
section CLC
variable {g : xG} {w w0 : xW} {t s : zS} {d : Nat} {Q : xQ} {lim : Nat × Nat} {k kt : Nat}
theorem cad_2 : ∀ r, r ≤ 12 → cad r ≠ 2 := by decide
theorem RCs.fr2 {w2 : xW} (li : LInv t) (h : RCs t s k w) (f : ∀ a j, a ≠ k + 2 → w2 a j = w a j) : RCs t s k w2 := by
  refine ⟨fun r i q p1 p2 => ?_, fun c hc => ?_⟩
  · obtain ⟨b1, -, -⟩ := act_b li q
    rw [f _ _ (by have := cad_2 r b1; omega)]; exact h.1 r i q p1 p2
  · rw [f _ _ (by omega)]; exact h.2 c hc
theorem cl_east (hS : SG g k) (li : LInv t) (si : SInv t s) (h0 : ∀ c, c < nC t → w (k + 1) c = s 0 c) {i : Nat} (hi : i < nC t) (hb : ∀ c, c < nC t → -3000 ≤ w (k + 2) c ∧ w (k + 2) c ≤ 5000) (hQ : ∀ w2, (∀ a j, a ≠ k + 2 → w2 a j = w a j) → (∀ j, j < nC t → w2 (k + 2) j = w (k + 2) j + (if j = i then fl1 t s j 2 else 0) + (if j = i + 1 then fl1 t s j 4 else 0)) → Q none g w2) : cal (d + 1) nSt_flowBetween [xr k, xi i, xi (wyy t s i 2)] g w Q := by
  have hv := wyy_2 (t := t) (s := s) i
  obtain ⟨-, -, g2, -⟩ := geo li (c := i) (by omega)
  by_cases q : (i : Int) % t 0 0 < t 0 0 - 1 ∧ (i : Int) + 1 ≠ -1 ∧ s 1 (i : Int).toNat = 0
  · rw [if_pos q] at hv
    have hn : i + 1 < nC t := by have := g2 q.1; omega
    have e2 := fl1_v hv (by omega)
    have e4 := fl_42 (s := s) li hn
    have hz : ((i : Int) + 1).toNat = i + 1 := by omega
    rw [hz] at e2
    rw [hv]
    refine cl_fb hS li si h0 hi (o := (i : Int) + 1) (Or.inr (by omega)) hb fun w2 f a b => hQ w2 f fun j hj => ?_
    rw [b (by omega) (by omega) j, hz, ← e2]
    by_cases j1 : j = i
    · subst j1; rw [if_pos rfl, if_pos rfl, if_neg (by omega)]; omega
    · rw [if_neg j1, if_neg j1]
      by_cases j2 : j = i + 1
      · subst j2; rw [if_pos rfl, if_pos rfl, e4]; omega
      · rw [if_neg j2, if_neg j2]; omega
  · rw [if_neg q] at hv
    have e2 := fl1_m hv
    rw [hv]
    refine cl_fb hS li si h0 hi (o := -1) (Or.inl rfl) hb fun w2 f a b => hQ w2 f fun j hj => ?_
    rw [a rfl j]
    by_cases j1 : j = i
    · subst j1; rw [if_pos rfl, if_neg (by omega), e2]; omega
    · rw [if_neg j1]
      by_cases j2 : j = i + 1
      · subst j2; rw [if_pos rfl, fl_42 (s := s) li hj, e2]; omega
      · rw [if_neg j2]; omega
theorem cl_south (hS : SG g k) (li : LInv t) (si : SInv t s) (h0 : ∀ c, c < nC t → w (k + 1) c = s 0 c) {W : Nat} (hW : (W : Int) = t 0 0) {i : Nat} (hi : i < nC t) (hb : ∀ c, c < nC t → -3000 ≤ w (k + 2) c ∧ w (k + 2) c ≤ 5000) (hQ : ∀ w2, (∀ a j, a ≠ k + 2 → w2 a j = w a j) → (∀ j, j < nC t → w2 (k + 2) j = w (k + 2) j + (if j = i then fl1 t s j 3 else 0) + (if j = i + W then fl1 t s j 1 else 0)) → Q none g w2) : cal (d + 1) nSt_flowBetween [xr k, xi i, xi (wyy t s i 3)] g w Q := by
  have hv := wyy_3 (t := t) (s := s) i
  obtain ⟨g0, -, -, g2, -⟩ := geo li (c := i) (by omega)
  by_cases q : (i : Int) / t 0 0 < t 0 1 - 1 ∧ (i : Int) + t 0 0 ≠ -1 ∧ s 2 (i : Int).toNat = 0
  · rw [if_pos q] at hv
    have hn : i + W < nC t := by have := g2 q.1; omega
    have e2 := fl1_v hv (by omega)
    have e4 := fl_13 (s := s) li hW hn
    have hz : ((i : Int) + t 0 0).toNat = i + W := by omega
    rw [hz] at e2
    rw [hv]
    refine cl_fb hS li si h0 hi (o := (i : Int) + t 0 0) (Or.inr (by omega)) hb fun w2 f a b => hQ w2 f fun j hj => ?_
    rw [b (by omega) (by omega) j, hz, ← e2]
    by_cases j1 : j = i
    · subst j1; rw [if_pos rfl, if_pos rfl, if_neg (by omega)]; omega
    · rw [if_neg j1, if_neg j1]
      by_cases j2 : j = i + W
      · subst j2; rw [if_pos rfl, if_pos rfl, e4]; omega
      · rw [if_neg j2, if_neg j2]; omega
  · rw [if_neg q] at hv
    have e2 := fl1_m hv
    rw [hv]
    refine cl_fb hS li si h0 hi (o := -1) (Or.inl rfl) hb fun w2 f a b => hQ w2 f fun j hj => ?_
    rw [a rfl j]
    by_cases j1 : j = i
    · subst j1; rw [if_pos rfl, if_neg (by omega), e2]; omega
    · rw [if_neg j1]
      by_cases j2 : j = i + W
      · subst j2; rw [if_pos rfl, fl_13 (s := s) li hW hj, e2]; omega
      · rw [if_neg j2]; omega
theorem nxt_s {W i j : Nat} (hW : 1 ≤ W) : nxt t s W (i + 1) j = nxt t s W i j + (if j = i then fl1 t s j 2 else 0) + (if j = i + 1 then fl1 t s j 4 else 0) + (if j = i then fl1 t s j 3 else 0) + (if j = i + W then fl1 t s j 1 else 0) := by
  have k1 : ∀ (n : Nat) (x : Int), (if j < n + 1 then x else 0) = (if j < n then x else 0) + (if j = n then x else 0) := fun n x => by
    by_cases a : j < n
    · rw [if_pos a, if_pos (by omega), if_neg (by omega)]; omega
    · by_cases b : j = n
      · rw [if_neg a, if_pos (by omega), if_pos b]; omega
      · rw [if_neg a, if_neg (by omega), if_neg b]; omega
  have k2 : (if j = i then fl1 t s j 2 + fl1 t s j 3 else 0) = (if j = i then fl1 t s j 2 else 0) + (if j = i then fl1 t s j 3 else 0) := by
    by_cases a : j = i
    · rw [if_pos a, if_pos a, if_pos a]
    · rw [if_neg a, if_neg a, if_neg a]; rfl
  unfold nxt
  rw [k1 i, k1 (i + 1), show i + 1 + W = i + W + 1 by omega, k1 (i + W), k2]
  omega
theorem cl_flow1 (hS : SG g k) (hT : TG g kt) (hd : kt + 7 < k ∨ k + 12 < kt) (hl : RCl t kt w0) (hs : RCs t s k w0) (li : LInv t) (si : SInv t s) {W : Nat} (hW : (W : Int) = t 0 0) (hk : ∀ w, (∀ a j, a ≠ k + 2 → w a j = w0 a j) → (∀ c, c < nC t → w (k + 2) c = nxt t s W (nC t) c) → Q none g (xcp w (k + 2) 0 (k + 1) 0 (nC t))) : ∀ (n i : Nat) (w : xW), i + n = nC t → (∀ a j, a ≠ k + 2 → w a j = w0 a j) → (∀ c, c < nC t → w (k + 2) c = nxt t s W i c) → aSt_flow (d + 1) lim Q 21 [xr k, xr kt, xi (nC t), xi i] [] g w
  | 0, i, w, hi, hf, hn => by
    obtain ⟨n1, n2, -⟩ := li_n li
    have hi : i = nC t := by omega
    subst hi
    refine wSt_flow_21 ?_
    simp only [s_o hS, s_p0 hS, s_p1 hS, true_and]
    refine ⟨fun _ => ⟨⟨⟨20, s_i1 hS, by omega, by omega, by omega⟩, ⟨20, s_i0 hS, by omega, by omega, by omega⟩⟩, ?_⟩, fun h => by omega⟩
    have := hk w hf hn
    rw [show Int.toNat ((nC t : Nat) : Int) = nC t from Int.toNat_natCast _]
    exact this
  | n + 1, i, w, hi, hf, hn => by
    obtain ⟨n1, n2, -⟩ := li_n li
    have hin : i < nC t := by omega
    obtain ⟨g0, -⟩ := geo li (c := i) (by omega)
    have hl2 : RCl t kt w := hl.fr (k := k) (fun a j q => hf a j (by omega)) hd
    have hs2 : RCs t s k w := hs.fr2 li hf
    have z0 : ∀ c, c < nC t → w (k + 1) c = s 0 c := fun c hc => hs2.1 0 c hc (by decide) (by decide)
    refine wSt_flow_21 ?_
    simp only [s_o hS, s_p0 hS, s_p1 hS, true_and]
    refine ⟨fun h => by omega, fun _ => ?_⟩
    refine cl_reach (e := 2) hS hT hl2 hs2 li si hin (by decide) ⟨_, rfl, s_o hS, ?_⟩
    refine cl_east hS li si z0 hin (fun c hc => by rw [hn c hc]; have := nxt_b (W := W) (i := i) li si hc; omega) fun w2 f2 e2 => ⟨rfl, s_o hS, ?_⟩
    have f2' : ∀ a j, a ≠ k + 2 → w2 a j = w0 a j := fun a j q => (f2 a j q).trans (hf a j q)
    have hl3 : RCl t kt w2 := hl.fr (k := k) (fun a j q => f2' a j (by omega)) hd
    have hs3 : RCs t s k w2 := hs.fr2 li f2'
    refine cl_reach (e := 3) hS hT hl3 hs3 li si hin (by decide) ⟨_, rfl, s_o hS, ?_⟩
    refine cl_south hS li si (fun c hc => by rw [f2 _ _ (by omega)]; exact z0 c hc) hW hin (fun c hc => ?_) fun w3 f3 e3 => ⟨rfl, by constructor <;> omega, ?_⟩
    · rw [e2 c hc, hn c hc]
      have := nxt_b (W := W) (i := i) li si hc
      have b2 := fl1_b li si hc 2
      have b4 := fl1_b li si hc 4
      have h0 := (si.1 c hc).1
      split <;> split <;> omega
    · rw [show ((i : Int) + 1) = ((i + 1 : Nat) : Int) by omega]
      refine cl_flow1 hS hT hd hl hs li si hW hk n (i + 1) w3 (by omega) (fun a j q => (f3 a j q).trans (f2' a j q)) fun c hc => ?_
      rw [e3 c hc, e2 c hc, hn c hc, nxt_s (by omega)]
theorem xcp_o {a b n x j : Nat} (h : x ≠ b) : xcp w a 0 b 0 n x j = w x j := by unfold xcp; rw [if_neg (fun z => h z.1)]
theorem xcp_i {a b n j : Nat} (h : j < n) : xcp w a 0 b 0 n b j = w a j := by unfold xcp; rw [if_pos ⟨rfl, by omega, by omega⟩]; congr 1; omega
theorem cl_flow (hS : SG g k) (hT : TG g kt) (hd : kt + 7 < k ∨ k + 12 < kt) (hl : RCl t kt w) (hs : RCs t s k w) (li : LInv t) (si : SInv t s) (hQ : ∀ w2, CF k w w2 → RCs t (zset s 0 (fun c => s 0 c + flw t s c)) k w2 → Q none g w2) : cal (d + 2) nSt_flow [xr k, xr kt] g w Q := by
  refine eSt_flow fun lim Q2 h2 => wSt_flow_0 ?_
  have hQ := fun w2 a b => h2 none g w2 rfl (hQ w2 a b)
  obtain ⟨n1, n2, -⟩ := li_n li
  have hW : ((t 0 0).toNat : Int) = t 0 0 := by rcases li.1 with q | q <;> omega
  simp only [s_o hS, t_o hT, s_p0 hS, s_p1 hS, true_and]
  refine cl_cells hT hl li ⟨_, rfl, ?_⟩
  simp only [s_o hS, t_o hT, s_p0 hS, s_p1 hS, true_and]
  refine ⟨⟨⟨20, s_i0 hS, by omega, by omega, by omega⟩, ⟨20, s_i1 hS, by omega, by omega, by omega⟩⟩, ?_⟩
  rw [show Int.toNat ((nC t : Nat) : Int) = nC t from Int.toNat_natCast _]
  refine cl_flow1 hS hT hd hl hs li si hW (fun w3 f3 e3 => hQ _ (fun a j q => ?_) ⟨fun r i q p1 p2 => ?_, fun c hc => ?_⟩) (nC t) 0 _ (by omega) (fun a j q => xcp_o q) fun c hc => ?_
  · rw [xcp_o (by omega), f3 _ _ (by omega)]
  · by_cases h0 : r = 0
    · subst h0
      have q : i < nC t := q
      rw [zset_s]
      show xcp w3 (k + 2) 0 (k + 1) 0 (nC t) (k + 1) i = _
      rw [xcp_i q, e3 i q, nxt_n q]
    · obtain ⟨b1, -, -⟩ := act_b li q
      rw [zset_n h0, xcp_o (fun z => h0 (cad_inj r b1 0 (by decide) p1 p2 (by decide) (by decide) (by show cad r = 1; omega))), f3 _ _ (by have := cad_2 r b1; omega)]
      exact hs.1 r i q p1 p2
  · rw [xcp_o (by omega), f3 _ _ (by omega), hs.2 c hc, brd_c]
    intro i
    exact ⟨(zset_n (by decide)).symm, (zset_n (by decide)).symm⟩
  · show xcp w (k + 1) 0 (k + 2) 0 (nC t) (k + 2) c = _
    rw [xcp_i hc, nxt_0 li hW hc]; exact hs.1 0 c hc (by decide) (by decide)
end CLC
