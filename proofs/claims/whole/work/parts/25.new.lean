/-! ===== what is made ===== -/
section YI4
variable {p : Program} {l : Launch} {e : Env} {R : Room} {s : State} {m : MethodId} {args : Array Value} {below : List Frame} {meth : Method} {c : Code} {Q : State → Prop} {D : va_G} {cI cZ cS : ClassId} {b L : Nat} {xs : Nat → Int32} {z0 : List Nat} {A : Nat → Prop} {n0 s0 : Nat} {T : xTb}
variable {H : Heap} {locs : List Loc} {la : Array Slot} {ads : List Nat} {pc : Nat} {ls st r : List xV} {g : xG} {w : xW} {K : xK}
theorem ynew_k (hK : ∀ pc ls st g w, K pc ls st g w → yP p l e R s m args below meth c Q D cI cZ cS b L xs z0 A T.1.2.2.1 n0 s0 pc ls st g w) {q0 : Nat × Nat} (I : yI D cI cZ cS b L xs z0 A s.heap T.1.2.2.1 ls r g w ads H locs la) (hR : yR R n0 s0 g) (hq : ysh q0) (hroom : g.1.length + 1 ≤ n0 + R.cells ∧ xsl g.1 + xsz q0 ≤ s0 + R.slots) {pc2 : Nat} (h : K pc2 ls (xr (g.1.length + 1) :: r) (g.1 ++ [q0], g.2) w) {q : Nat} {E : va_E} (hE : yce cI cZ cS b (ads ++ [q]) (g.1 ++ [q0], g.2) w (ads.length + 2) = E) {H1 : Heap} (h1 : va_P D vwCl (yws cI cZ cS b ads g w ++ [(q, E)]) H1) (h2 : va_D A (yws cI cZ cS b ads g w ++ [(q, E)])) (h3 : va_S A s.heap H1 locs) :
    W p l e R s m args below meth c H1 locs (g.1.length - n0 + 1) (xsl g.1 - s0 + xsz q0) Q (F0 m pc2 la (.ref q :: r.map (ycv b ads))) := by
  rw [yws_new I.1 hE] at h1 h2
  have hl := I.1.1
  obtain ⟨r1, r2, r3, r4⟩ := hR
  have e1 : (g.1 ++ [q0]).length - n0 = g.1.length - n0 + 1 := by simp; omega
  have e2 : xsl (g.1 ++ [q0]) - s0 = xsl g.1 - s0 + xsz q0 := by rw [xsl_app]; omega
  have hok : ∀ v, yok g.1.length v → yok (g.1 ++ [q0]).length v := fun v hv => yok_mono hv (by simp)
  have I2 : yI D cI cZ cS b L xs z0 A s.heap T.1.2.2.1 ls (xr (g.1.length + 1) :: r) (g.1 ++ [q0], g.2) w (ads ++ [q]) H1 locs la := by
    refine ⟨yHp_new I.1 hq, fun v hv => hok v (I.2.1 v hv), fun v hv => ?_, h1, h2, h3, yLs_app I.2.2.2.2.2.2 (by rw [hl]; exact I.2.1)⟩
    rcases List.mem_cons.mp hv with z | z
    · subst z
      show g.1.length + 1 ≤ (g.1 ++ [q0]).length
      simp
    · exact hok v (I.2.2.1 v z)
  have k1 := hK _ _ _ _ _ h (ads ++ [q]) H1 locs la I2 ⟨by show n0 ≤ (g.1 ++ [q0]).length; simp; omega, by show s0 ≤ xsl (g.1 ++ [q0]); rw [xsl_app]; omega, by show (g.1 ++ [q0]).length ≤ _; simp; omega, by show xsl (g.1 ++ [q0]) ≤ _; rw [xsl_app]; omega⟩
  have k1 : W p l e R s m args below meth c H1 locs ((g.1 ++ [q0]).length - n0) (xsl (g.1 ++ [q0]) - s0) Q (F0 m pc2 la (yrf b (ads ++ [q]) (g.1.length + 1) :: r.map (ycv b (ads ++ [q])))) := k1
  rw [e1, e2, ymap_app (by rw [hl]; exact I.2.2.1), yrf_of (by omega), yad_of (by omega)] at k1
  have e3 : (ads ++ [q]).getD (g.1.length + 1 - 2) 0 = q := by
    have : g.1.length + 1 - 2 = ads.length := by omega
    rw [this]
    simp
  rw [e3] at k1
  exact k1
theorem yzero (hh : yHp L xs z0 ads g w) (k : Nat) : w (ads.length + 2) k = 0 ∧ g.2 (ads.length + 2) k = 0 := hh.2.2.2.2.2.2 _ _ (by have := hh.1; omega)
theorem yis_new (hh : yHp L xs z0 ads g w) {q0 : Nat × Nat} : xIs (g.1 ++ [q0], g.2) (ads.length + 2) q0 := by
  refine ⟨by omega, ?_⟩
  show (g.1 ++ [q0])[ads.length + 2 - 1]? = some q0
  have := hh.1
  rw [List.getElem?_append_right (by omega), show ads.length + 2 - 1 - g.1.length = 0 by omega]
  rfl
theorem yi_new (F : yF p s m args meth c T D cI cZ cS b L xs A) (hK : ∀ pc ls st g w, K pc ls st g w → yP p l e R s m args below meth c Q D cI cZ cS b L xs z0 A T.1.2.2.1 n0 s0 pc ls st g w)
    {i ci : Nat} (hd : decode T.1.2.1 pc = .ok (.new i, 3)) (hE : ∃ (Rn : String) (Tt : u_T) (N : Nat) (ty : Nat → FieldType), yCl ci Rn Tt N ty ∧ ci < 8 ∧ Jvm.Cond.classLink T.2.2.1 i Rn ∈ ygw ∧ Jvm.Cond.instantiable Rn N ∈ ygw ∧ Jvm.Cond.initialized Rn ∈ ygw) (h : xnew (0, ci) (pc + 3) ls st g w (n0 + R.cells, s0 + R.slots) K) : yP p l e R s m args below meth c Q D cI cZ cS b L xs z0 A T.1.2.2.1 n0 s0 pc ls st g w := by
  obtain ⟨hx, hb, hml, hr, hlk, hown, hnm, hts, hN, hKK, hX, hbl, hbA, hA⟩ := F
  obtain ⟨Rn, Tt, N, ty, ⟨c1, c2, c3, c4, c5, c6⟩, hci, l1, l2, l3⟩ := hE
  obtain ⟨hroom, h2⟩ := h
  intro ads H locs la I hR
  obtain ⟨r1, r2, r3, r4⟩ := hR
  have hsz : xsz (0, ci) = N := c2.symm
  have hroom1 : g.1.length + 1 ≤ n0 + R.cells := hroom.1
  have hroom2 : xsl g.1 + xsz (0, ci) ≤ s0 + R.slots := hroom.2
  rw [hsz] at hroom2
  refine va_new (fs := (List.range (xnf ci)).map fun k => bif xfr ci k then yrf b ads 0 else .int (Int32.ofInt 0)) hx hb hts c3 ty c4 hown (hts _ l1) (hts _ l2) (hts _ l3) hKK I.2.2.2.1 I.2.2.2.2.1 I.2.2.2.2.2.1 hA c1 ?_ (by omega) (by omega) hd (fun q H1 q1 q2 q3 => ?_)
  · intro j hj
    unfold vp_V
    rw [List.getD_eq_getElem?_getD, yfs c2 hj]
    rcases c6 j hj with z | z
    · rw [z.1, z.2]; rfl
    · rw [z.1]
      have z2 := z.2
      generalize ty j = t at z2
      cases t <;> first | rfl | cases z2
  · have k1 := ynew_k (q0 := (0, ci)) hK I ⟨r1, r2, r3, r4⟩ (Or.inl ⟨rfl, hci⟩) hroom h2 (by
      rw [yce_0 (yis_new I.1)]
      congr 2
      refine List.map_congr_left fun k _ => ?_
      show (bif xfr ci k then yrf b (ads ++ [q]) (g.2 (ads.length + 2) k) else _) = _
      rw [(yzero I.1 k).1, (yzero I.1 k).2]
      rfl) q1 q2 q3
    rw [hsz] at k1
    exact k1
theorem yi_newarrayI (F : yF p s m args meth c T D cI cZ cS b L xs A) (hK : ∀ pc ls st g w, K pc ls st g w → yP p l e R s m args below meth c Q D cI cZ cS b L xs z0 A T.1.2.2.1 n0 s0 pc ls st g w)
    (hd : decode T.1.2.1 pc = .ok (.newarray .int, 2)) (h : xu st fun n r => (0 ≤ n ∧ n ≤ 65536) ∧ xnew (1, n.toNat) (pc + 2) ls r g w (n0 + R.cells, s0 + R.slots) K) : yP p l e R s m args below meth c Q D cI cZ cS b L xs z0 A T.1.2.2.1 n0 s0 pc ls st g w := by
  obtain ⟨hx, hb, hml, hr, hlk, hown, hnm, hts, hN, hKK, hX, hbl, hbA, hA⟩ := F
  obtain ⟨n, r, rfl, ⟨hn0, hn6⟩, hroom, h2⟩ := yu h
  intro ads H locs la I hR
  obtain ⟨r1, r2, r3, r4⟩ := hR
  have hn : x32 n := I.hd
  have hroom1 : g.1.length + 1 ≤ n0 + R.cells := hroom.1
  have hroom2 : xsl g.1 + n.toNat ≤ s0 + R.slots := hroom.2
  refine va_newa (atype := .int) (n := Int32.ofInt n) (N' := n.toNat) (a0 := (n.toNat, .inl fun _ => 0)) (rest := r.map (ycv b ads)) hx hb (hts _ yAC_I) rfl hKK I.2.2.2.1 I.2.2.2.2.1 I.2.2.2.2.2.1 hA (fun _ => rfl) (fun z => by have := (y_lt hn (b := 0) (by decide)).mp z; omega) (y_cl hn) (by show n.toNat * 4 ≤ _; omega) (by omega) (by omega) hd (fun q cA H1 hK2 q1 q2 q3 => ?_)
  have hc : cA = cI := by
    have z1 := va_nm_int (hKK.2 0 (cI, .int) rfl).2
    have z2 := va_nm_int (hK2.2 3 (cA, .int) rfl).2
    exact Option.some.inj (z2.symm.trans z1)
  subst hc
  exact ynew_k (q0 := (1, n.toNat)) hK I.tl ⟨r1, r2, r3, r4⟩ (Or.inr ⟨Nat.le_of_ble_eq_true rfl, Nat.le_of_ble_eq_true rfl, by show n.toNat < _; omega⟩) hroom h2 (by
      rw [yce_1 (yis_new I.1)]
      congr 3
      congr 1
      funext j
      rw [(yzero I.1 j).1]; rfl) q1 q2 q3
theorem yi_newarrayZ (F : yF p s m args meth c T D cI cZ cS b L xs A) (hK : ∀ pc ls st g w, K pc ls st g w → yP p l e R s m args below meth c Q D cI cZ cS b L xs z0 A T.1.2.2.1 n0 s0 pc ls st g w)
    (hd : decode T.1.2.1 pc = .ok (.newarray .boolean, 2)) (h : xu st fun n r => (0 ≤ n ∧ n ≤ 65536) ∧ xnew (2, n.toNat) (pc + 2) ls r g w (n0 + R.cells, s0 + R.slots) K) : yP p l e R s m args below meth c Q D cI cZ cS b L xs z0 A T.1.2.2.1 n0 s0 pc ls st g w := by
  obtain ⟨hx, hb, hml, hr, hlk, hown, hnm, hts, hN, hKK, hX, hbl, hbA, hA⟩ := F
  obtain ⟨n, r, rfl, ⟨hn0, hn6⟩, hroom, h2⟩ := yu h
  intro ads H locs la I hR
  obtain ⟨r1, r2, r3, r4⟩ := hR
  have hn : x32 n := I.hd
  have hroom1 : g.1.length + 1 ≤ n0 + R.cells := hroom.1
  have hroom2 : xsl g.1 + n.toNat ≤ s0 + R.slots := hroom.2
  refine va_newa (atype := .boolean) (n := Int32.ofInt n) (N' := n.toNat) (a0 := (n.toNat, .inl fun _ => 0)) (rest := r.map (ycv b ads)) hx hb (hts _ yAC_Z) rfl hKK I.2.2.2.1 I.2.2.2.2.1 I.2.2.2.2.2.1 hA (fun _ => rfl) (fun z => by have := (y_lt hn (b := 0) (by decide)).mp z; omega) (y_cl hn) (by show n.toNat * 1 ≤ _; omega) (by omega) (by omega) hd (fun q cA H1 hK2 q1 q2 q3 => ?_)
  have hc : cA = cZ := by
    have z1 := va_nm_boolean (hKK.2 1 (cZ, .boolean) rfl).2
    have z2 := va_nm_boolean (hK2.2 3 (cA, .boolean) rfl).2
    exact Option.some.inj (z2.symm.trans z1)
  subst hc
  exact ynew_k (q0 := (2, n.toNat)) hK I.tl ⟨r1, r2, r3, r4⟩ (Or.inr ⟨Nat.le_of_ble_eq_true rfl, Nat.le_of_ble_eq_true rfl, by show n.toNat < _; omega⟩) hroom h2 (by
      rw [yce_2 (yis_new I.1)]
      congr 3
      congr 1
      funext j
      rw [(yzero I.1 j).1]; rfl) q1 q2 q3
theorem yi_anewarray (F : yF p s m args meth c T D cI cZ cS b L xs A) (hK : ∀ pc ls st g w, K pc ls st g w → yP p l e R s m args below meth c Q D cI cZ cS b L xs z0 A T.1.2.2.1 n0 s0 pc ls st g w)
    {i : Nat} (hd : decode T.1.2.1 pc = .ok (.anewarray i, 3)) (hE : Jvm.Cond.classLink T.2.2.1 i "FirstFelt$State" ∈ ygw) (h : xu st fun n r => (0 ≤ n ∧ n ≤ 65536) ∧ xnew (3, n.toNat) (pc + 3) ls r g w (n0 + R.cells, s0 + R.slots) K) : yP p l e R s m args below meth c Q D cI cZ cS b L xs z0 A T.1.2.2.1 n0 s0 pc ls st g w := by
  obtain ⟨hx, hb, hml, hr, hlk, hown, hnm, hts, hN, hKK, hX, hbl, hbA, hA⟩ := F
  obtain ⟨n, r, rfl, ⟨hn0, hn6⟩, hroom, h2⟩ := yu h
  intro ads H locs la I hR
  obtain ⟨r1, r2, r3, r4⟩ := hR
  have hn : x32 n := I.hd
  have hroom1 : g.1.length + 1 ≤ n0 + R.cells := hroom.1
  have hroom2 : xsl g.1 + n.toNat ≤ s0 + R.slots := hroom.2
  refine va_newq (n := Int32.ofInt n) (N' := n.toNat) (rest := r.map (ycv b ads)) hx hb hown (hts _ hE) (hN _ yAC_S) hKK I.2.2.2.1 I.2.2.2.2.1 I.2.2.2.2.2.1 hA (fun z => by have := (y_lt hn (b := 0) (by decide)).mp z; omega) (y_cl hn) (by omega) (by omega) (by omega) hd (fun q cA H1 hK2 q1 q2 q3 => ?_)
  have hc : cA = cS := by
    obtain ⟨_, _, _, _, _, z1⟩ := (hKK.2 2 (cS, .object "FirstFelt$State") rfl).2
    obtain ⟨_, _, _, _, _, z2⟩ := (hK2.2 3 (cA, .object "FirstFelt$State") rfl).2
    exact Option.some.inj (z2.symm.trans z1)
  subst hc
  exact ynew_k (q0 := (3, n.toNat)) hK I.tl ⟨r1, r2, r3, r4⟩ (Or.inr ⟨Nat.le_of_ble_eq_true rfl, Nat.le_of_ble_eq_true rfl, by show n.toNat < _; omega⟩) hroom h2 (by
      rw [yce_3 (yis_new I.1)]
      congr 7
      funext j
      show (if g.2 (ads.length + 2) j = 0 then none else _) = none
      rw [if_pos (yzero I.1 j).2]) q1 q2 q3
end YI4
