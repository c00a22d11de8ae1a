/-! ===== the three kinds of calls ===== -/
/-- the contracts that calls d deep keep -/
def yMet (l : Launch) (MT : List xTb) (d : Nat) (C : xC) : Prop := ∀ (mi : Nat) (T2 : xTb), MT[mi]? = some T2 → ∀ (D : va_G) (cI cZ cS : ClassId) (b L : Nat) (xs : Nat → Int32) (av : List xV) (g : xG) (w : xW) (ads : List Nat) (sz : Nat) (Qx : xQ), yHp L xs ads ads g w → (∀ v ∈ av, yok g.1.length v) → C mi av g w Qx → Met l T2.1.1 (ywd T2) (yrm d T2) (yPc D cI cZ cS b L xs av g w ads sz) (yQc D cI cZ cS b L xs ads sz (fun r g2 w2 => xchk T2.2.1 g g2 ∧ Qx r g2 w2)) T2.2.1.1 T2.2.1.2 (yA ads sz)
section YV
variable {p : Program} {l : Launch} {e : Env} {R : Room} {s : State} {m : MethodId} {args : Array Value} {below : List Frame} {meth : Method} {c : Code} {Q : State → Prop} {D : va_G} {cI cZ cS : ClassId} {b L : Nat} {xs : Nat → Int32} {z0 : List Nat} {A : Nat → Prop} {n0 s0 : Nat} {T T2 : xTb}
variable {H : Heap} {locs : List Loc} {la : Array Slot} {ads : List Nat} {pc d : Nat} {ls st rest av : List xV} {g : xG} {w : xW} {K : xK} {C : xC} {MT : List xTb} {mks : List (Nat × Nat × Nat)}
/-- what a call asks of the abstract machine: its contract's end, then what follows -/
theorem yinv (hC : xCm C) (hmk : xmk mks = fun mi => match MT[mi]? with | some T2 => T2.2.1 | none => (0, 0)) (hR : yR R n0 s0 g) {e0 : Nat × Nat × Nat × Int} (hT2 : MT[e0.1]? = some T2) (hz : e0.2.2.2 ≠ 2 → T2.2.1 = (0, 0)) (h : xinv C (n0 + R.cells, s0 + R.slots) mks e0 pc ls av rest g w K) : (g.1.length + T2.2.1.1 ≤ n0 + R.cells ∧ xsl g.1 + T2.2.1.2 ≤ s0 + R.slots) ∧ C e0.1 av g w (fun r g2 w2 => K (pc + 3) ls (r.toList ++ rest) g2 w2) := by
  obtain ⟨r1, r2, r3, r4⟩ := hR
  have hmk2 : xmk mks e0.1 = T2.2.1 := by rw [hmk]; simp only [hT2]
  unfold xinv at h
  split at h
  · rw [hmk2] at h
    exact ⟨h.1, hC _ _ _ _ _ _ (fun r g2 w2 q => by obtain ⟨q1, q2⟩ := q; subst q1; exact q2) h.2⟩
  · rename_i q
    rw [hz (by rw [q]; decide)]
    exact ⟨⟨r3, r4⟩, hC _ _ _ _ _ _ (fun r g2 w2 z => by obtain ⟨v, q1, q2⟩ := z; subst q1; exact q2) h⟩
  · rename_i q
    rw [hz (by rw [q]; decide)]
    exact ⟨⟨r3, r4⟩, hC _ _ _ _ _ _ (fun r g2 w2 q => by obtain ⟨q1, q2⟩ := q; subst q1; exact q2) h⟩
  · exact h.elim
theorem yi_virtual (F : yF p s m args meth c T D cI cZ cS b L xs A) (hK : ∀ pc ls st g w, K pc ls st g w → yP p l e R s m args below meth c Q D cI cZ cS b L xs z0 A T.1.2.2.1 n0 s0 pc ls st g w) (hC : xCm C) (hMet : yMet l MT d C) (hmk : xmk mks = fun mi => match MT[mi]? with | some T2 => T2.2.1 | none => (0, 0)) (hRd : d + 1 ≤ R.frames ∧ 100 * (d + 1) ≤ R.locals)
    {i np : Nat} {e0 : Nat × Nat × Nat × Int} (hd : decode T.1.2.1 pc = .ok (.invokevirtual i, 3)) (hE : yMl MT T.2.2.1 i e0.1 np T2) (hz : e0.2.2.2 ≠ 2 → T2.2.1 = (0, 0)) (hnp : np + 1 = e0.2.1) (hV : Jvm.Cond.instanceMethod T2.1.1 ∈ ygw ∧ Jvm.Cond.selects T2.1.1.cls T2.1.1 T2.1.1 ∈ ygw ∧ ∃ q, vwCl[e0.2.2.1]? = some (T2.1.1.cls, q)) (h : xobj C (n0 + R.cells, s0 + R.slots) mks e0 pc ls st g w K) : yP p l e R s m args below meth c Q D cI cZ cS b L xs z0 A T.1.2.2.1 n0 s0 pc ls st g w := by
  have FF := F
  obtain ⟨hx, hb, hml, hr, hlk, hown, hnm, hts, hN, hKK, hX, hbl, hbA, hA⟩ := F
  obtain ⟨m1, m2, m3, m4, m5, m6⟩ := hE
  obtain ⟨v1, v2, q, v3⟩ := hV
  intro ads H locs la I hR
  unfold xobj at h
  split at h
  · rename_i hfit
    obtain ⟨cu1, cu2, cu3⟩ := ycut hfit
    obtain ⟨a, as, has, h1, h2⟩ := yuR h
    rw [has] at cu1 cu2
    obtain ⟨rm, h3⟩ := yinv hC hmk hR m1 hz h2
    generalize st.drop e0.2.1 = rest at cu1 cu3 h3
    subst cu1
    have Ir : yI D cI cZ cS b L xs z0 A s.heap T.1.2.2.1 ls rest g w ads H locs la := I.sk fun v hv => I.2.2.1 v (List.mem_append_right _ hv)
    have hav : ∀ v ∈ xr a :: as, yok g.1.length v := fun v hv => I.2.2.1 v (List.mem_append_left _ (List.mem_reverse.mpr hv))
    obtain ⟨t1, t2, -⟩ := yat I.1 h1 y04
    have he := yws_get (cI := cI) (cZ := cZ) (cS := cS) (b := b) (g := g) (w := w) t1
    rw [← t2, yce_0 h1, ← yad_of (b := b) t2] at he
    have hM := hMet e0.1 T2 m1 D cI cZ cS b L xs (xr a :: as) g w ads H.size _ (yHp_re I.1) hav h3
    have e1 : (xr a :: as).map (ycv b ads) = .ref (yad b ads a) :: as.map (ycv b ads) := by
      show yrf b ads a :: _ = _
      rw [yrf_of h1.1]
    have hpre := yPre FF Ir (av := xr a :: as)
    have hstk : (((xr a :: as).reverse ++ rest).map (ycv b ads)) = (as.map (ycv b ads)).reverse ++ .ref (yad b ads a) :: rest.map (ycv b ads) := by
      rw [List.map_append, List.map_reverse, e1]
      simp
    have hlen : (as.map (ycv b ads)).length = np := by
      simp at cu2 ⊢; omega
    refine yrun_k (a := (Value.ref (yad b ads a) :: as.map (ycv b ads)).toArray) FF hK Ir hR rm ?_
    have hrm : (yrm d T2).frames + 1 ≤ R.frames ∧ 8 + (T2.1.2.2.1 + 11) + (yrm d T2).locals ≤ R.locals := ⟨hRd.1, by show 8 + (T2.1.2.2.1 + 11) + 100 * d ≤ _; omega⟩
    rw [hstk]
    have hPV : PreV s H T2.1.1.cls (yad b ads a) (yPc D cI cZ cS b L xs (xr a :: as) g w ads H.size) (as.map (ycv b ads)) := ⟨yPc_blind, va_recv hKK I.2.2.2.1 v3 he, by rw [e1] at hpre; exact hpre⟩
    rcases m6 with z | ⟨host, z⟩
    · exact va_runV (Ts := ygw) ⟨hx, hb, hml, hown, hts⟩ hM (⟨callB_of np hts (ygood m2) rfl rfl rfl (hts _ m3) (hts _ z) m4 hrm, hts _ v1, hts _ v2⟩) hPV rfl hlen I.2.2.2.2.2.2.1 rfl (lv_room (yroom cu3)) hd (by obtain ⟨r1, r2, r3, r4⟩ := hR; exact ⟨by omega, by omega⟩)
    · exact va_runVN (Ts := ygw) ⟨hx, hb, hml, hown, hts⟩ hM (⟨va_cnB np hts (ygood m2) rfl rfl rfl (hN _ z) (hts _ m3) m4 hrm, hts _ v1, hts _ v2⟩) hPV rfl hlen I.2.2.2.2.2.2.1 rfl (lv_room (yroom cu3)) hd (by obtain ⟨r1, r2, r3, r4⟩ := hR; exact ⟨by omega, by omega⟩)
  · exact h.elim
theorem yi_special (F : yF p s m args meth c T D cI cZ cS b L xs A) (hK : ∀ pc ls st g w, K pc ls st g w → yP p l e R s m args below meth c Q D cI cZ cS b L xs z0 A T.1.2.2.1 n0 s0 pc ls st g w) (hC : xCm C) (hMet : yMet l MT d C) (hmk : xmk mks = fun mi => match MT[mi]? with | some T2 => T2.2.1 | none => (0, 0)) (hRd : d + 1 ≤ R.frames ∧ 100 * (d + 1) ≤ R.locals)
    {i np : Nat} {e0 : Nat × Nat × Nat × Int} (hd : decode T.1.2.1 pc = .ok (.invokespecial i, 3)) (hE : yMl MT T.2.2.1 i e0.1 np T2) (hz : e0.2.2.2 ≠ 2 → T2.2.1 = (0, 0)) (hnp : np + 1 = e0.2.1) (hV : Jvm.Cond.instanceMethod T2.1.1 ∈ ygw ∧ T2.1.1.name = "<init>" ∧ T2.1.2.2.2 = none) (h : xobj C (n0 + R.cells, s0 + R.slots) mks e0 pc ls st g w K) : yP p l e R s m args below meth c Q D cI cZ cS b L xs z0 A T.1.2.2.1 n0 s0 pc ls st g w := by
  have FF := F
  obtain ⟨hx, hb, hml, hr, hlk, hown, hnm, hts, hN, hKK, hX, hbl, hbA, hA⟩ := F
  obtain ⟨m1, m2, m3, m4, m5, m6⟩ := hE
  obtain ⟨v1, v2, v3⟩ := hV
  intro ads H locs la I hR
  unfold xobj at h
  split at h
  · rename_i hfit
    obtain ⟨cu1, cu2, cu3⟩ := ycut hfit
    obtain ⟨a, as, has, h1, h2⟩ := yuR h
    rw [has] at cu1 cu2
    obtain ⟨rm, h3⟩ := yinv hC hmk hR m1 hz h2
    generalize st.drop e0.2.1 = rest at cu1 cu3 h3
    subst cu1
    have Ir : yI D cI cZ cS b L xs z0 A s.heap T.1.2.2.1 ls rest g w ads H locs la := I.sk fun v hv => I.2.2.1 v (List.mem_append_right _ hv)
    have hav : ∀ v ∈ xr a :: as, yok g.1.length v := fun v hv => I.2.2.1 v (List.mem_append_left _ (List.mem_reverse.mpr hv))
    have hM := hMet e0.1 T2 m1 D cI cZ cS b L xs (xr a :: as) g w ads H.size _ (yHp_re I.1) hav h3
    have e1 : (xr a :: as).map (ycv b ads) = .ref (yad b ads a) :: as.map (ycv b ads) := by
      show yrf b ads a :: _ = _
      rw [yrf_of h1.1]
    have hpre := yPre FF Ir (av := xr a :: as)
    have hstk : (((xr a :: as).reverse ++ rest).map (ycv b ads)) = (as.map (ycv b ads)).reverse ++ .ref (yad b ads a) :: rest.map (ycv b ads) := by
      rw [List.map_append, List.map_reverse, e1]
      simp
    have hlen : (as.map (ycv b ads)).length = np := by
      simp at cu2 ⊢; omega
    refine yrun_k (a := (Value.ref (yad b ads a) :: as.map (ycv b ads)).toArray) FF hK Ir hR rm ?_
    have hrm : (yrm d T2).frames + 1 ≤ R.frames ∧ 8 + (T2.1.2.2.1 + 11) + (yrm d T2).locals ≤ R.locals := ⟨hRd.1, by show 8 + (T2.1.2.2.1 + 11) + 100 * d ≤ _; omega⟩
    rw [hstk]
    have hPS : PreS s H (yPc D cI cZ cS b L xs (xr a :: as) g w ads H.size) (.ref (yad b ads a) :: as.map (ycv b ads)) := ⟨yPc_blind, by rw [e1] at hpre; exact hpre⟩
    have hwd : ywd T2 = Jvm.Cond.code T2.1.1 T2.1.2.1 T2.1.2.2.1 none :: ygw := by unfold ywd; rw [v3]
    rcases m6 with z | ⟨host, z⟩
    · exact va_runI (Ts := ygw) ⟨hx, hb, hml, hown, hts⟩ hM (cwI np hts (ygood m2) hwd rfl rfl (hts _ m3) (hts _ z) (hts _ v1) v2 m4 hrm) hPS rfl hlen I.2.2.2.2.2.2.1 rfl (lv_room (yroom cu3)) hd (by obtain ⟨r1, r2, r3, r4⟩ := hR; exact ⟨by omega, by omega⟩)
    · exact va_runIN (Ts := ygw) ⟨hx, hb, hml, hown, hts⟩ hM (⟨va_cnB np hts (ygood m2) hwd rfl rfl (hN _ z) (hts _ m3) m4 hrm, v2, hts _ v1⟩) hPS rfl hlen I.2.2.2.2.2.2.1 rfl (lv_room (yroom cu3)) hd (by obtain ⟨r1, r2, r3, r4⟩ := hR; exact ⟨by omega, by omega⟩)
  · exact h.elim
theorem yi_static (F : yF p s m args meth c T D cI cZ cS b L xs A) (hK : ∀ pc ls st g w, K pc ls st g w → yP p l e R s m args below meth c Q D cI cZ cS b L xs z0 A T.1.2.2.1 n0 s0 pc ls st g w) (hC : xCm C) (hMet : yMet l MT d C) (hmk : xmk mks = fun mi => match MT[mi]? with | some T2 => T2.2.1 | none => (0, 0)) (hRd : d + 1 ≤ R.frames ∧ 100 * (d + 1) ≤ R.locals)
    {i : Nat} {e0 : Nat × Nat × Nat × Int} (hd : decode T.1.2.1 pc = .ok (.invokestatic i, 3)) (hE : yMl MT T.2.2.1 i e0.1 e0.2.1 T2) (hz : e0.2.2.2 ≠ 2 → T2.2.1 = (0, 0)) (hV : Jvm.Cond.static T2.1.1 ∈ ygw) (h : xfit st e0.2.1 = true ∧ xinv C (n0 + R.cells, s0 + R.slots) mks e0 pc ls (st.take e0.2.1).reverse (st.drop e0.2.1) g w K) : yP p l e R s m args below meth c Q D cI cZ cS b L xs z0 A T.1.2.2.1 n0 s0 pc ls st g w := by
  have FF := F
  obtain ⟨hx, hb, hml, hr, hlk, hown, hnm, hts, hN, hKK, hX, hbl, hbA, hA⟩ := F
  obtain ⟨m1, m2, m3, m4, m5, m6⟩ := hE
  intro ads H locs la I hR
  obtain ⟨hfit, h2⟩ := h
  obtain ⟨cu1, cu2, cu3⟩ := ycut hfit
  obtain ⟨rm, h3⟩ := yinv hC hmk hR m1 hz h2
  generalize st.drop e0.2.1 = rest at cu1 cu3 h3
  generalize (st.take e0.2.1).reverse = av at cu1 cu2 h3
  subst cu1
  have Ir : yI D cI cZ cS b L xs z0 A s.heap T.1.2.2.1 ls rest g w ads H locs la := I.sk fun v hv => I.2.2.1 v (List.mem_append_right _ hv)
  have hav : ∀ v ∈ av, yok g.1.length v := fun v hv => I.2.2.1 v (List.mem_append_left _ (List.mem_reverse.mpr hv))
  have hM := hMet e0.1 T2 m1 D cI cZ cS b L xs av g w ads H.size _ (yHp_re I.1) hav h3
  have hpre := yPre FF Ir (av := av)
  have hstk : ((av.reverse ++ rest).map (ycv b ads)) = (av.map (ycv b ads)).reverse ++ rest.map (ycv b ads) := by
    rw [List.map_append, List.map_reverse]
  have hlen : (av.map (ycv b ads)).length = e0.2.1 := by
    simp at cu2 ⊢; omega
  refine yrun_k (a := (av.map (ycv b ads)).toArray) FF hK Ir hR rm ?_
  have hrm : (yrm d T2).frames + 1 ≤ R.frames ∧ 8 + (T2.1.2.2.1 + 11) + (yrm d T2).locals ≤ R.locals := ⟨hRd.1, by show 8 + (T2.1.2.2.1 + 11) + 100 * d ≤ _; omega⟩
  rw [hstk]
  rcases m6 with z | ⟨host, z⟩
  · exact va_runS (Ts := ygw) ⟨hx, hb, hml, hown, hts⟩ hM (⟨callB_of e0.2.1 hts (ygood m2) rfl rfl rfl (hts _ m3) (hts _ z) m4 hrm, hts _ hV⟩) ⟨yPc_blind, hpre⟩ rfl hlen I.2.2.2.2.2.2.1 rfl (lv_room (yroom cu3)) hd (by obtain ⟨r1, r2, r3, r4⟩ := hR; exact ⟨by omega, by omega⟩)
  · exact va_runSN (Ts := ygw) ⟨hx, hb, hml, hown, hts⟩ hM (⟨va_cnB e0.2.1 hts (ygood m2) rfl rfl rfl (hN _ z) (hts _ m3) m4 hrm, hts _ hV, trivial⟩) ⟨yPc_blind, hpre⟩ rfl hlen I.2.2.2.2.2.2.1 rfl (lv_room (yroom cu3)) hd (by obtain ⟨r1, r2, r3, r4⟩ := hR; exact ⟨by omega, by omega⟩)
theorem yi_objInit (F : yF p s m args meth c T D cI cZ cS b L xs A) (hK : ∀ pc ls st g w, K pc ls st g w → yP p l e R s m args below meth c Q D cI cZ cS b L xs z0 A T.1.2.2.1 n0 s0 pc ls st g w) (hRd : 1 ≤ R.frames ∧ 100 ≤ R.locals)
    {i : Nat} (hd : decode T.1.2.1 pc = .ok (.invokespecial i, 3)) (hE : Jvm.Cond.methodLink T.2.2.1 i Lib.objectInit ∈ ygw ∧ Jvm.Cond.instanceMethod Lib.objectInit ∈ ygw ∧ Jvm.Cond.code Lib.objectInit ⟨#[0xb1]⟩ 1 none ∈ ygw) (h : xuR st fun a r => a ≠ 0 ∧ (match Nat.ble r.length 4 with | true => K (pc + 3) ls r g w | false => False)) : yP p l e R s m args below meth c Q D cI cZ cS b L xs z0 A T.1.2.2.1 n0 s0 pc ls st g w := by
  obtain ⟨hx, hb, hml, hr, hlk, hown, hnm, hts, hN, hKK, hX, hbl, hbA, hA⟩ := F
  intro ads H locs la I hR
  obtain ⟨a, r, rfl, h1, h2⟩ := yuR h
  split at h2
  · rename_i q
    have k1 := hK _ _ _ _ _ h2 ads H locs la I.tl hR
    show W p l e R s m args below meth c H locs (g.1.length - n0) (xsl g.1 - s0) Q (F0 m pc la (yrf b ads a :: r.map (ycv b ads)))
    rw [yrf_of h1]
    have h8 := yroom (b := b) (ads := ads) (Nat.le_of_ble_eq_true q)
    refine W.objInit hx hb hown (hts _ hE.1) (hts _ hE.2.1) (hts _ hE.2.2) rfl (by rw [hml]; exact I.2.2.2.2.2.2.1) (a := yad b ads a) (rest := r.map (ycv b ads)) rfl hd hRd.1 ?_ k1
    show 2 * 0 + _ + 12 ≤ _
    omega
  · exact h2.elim
theorem yi_arraycopy (F : yF p s m args meth c T D cI cZ cS b L xs A) (hK : ∀ pc ls st g w, K pc ls st g w → yP p l e R s m args below meth c Q D cI cZ cS b L xs z0 A T.1.2.2.1 n0 s0 pc ls st g w) (hRd : 1 ≤ R.frames ∧ 100 ≤ R.locals)
    {i : Nat} (hd : decode T.1.2.1 pc = .ok (.invokestatic i, 3)) (hE : Jvm.Cond.methodLink T.2.2.1 i arraycopyName ∈ ygw ∧ Jvm.Cond.native arraycopyName ∈ ygw ∧ Jvm.Cond.static arraycopyName ∈ ygw ∧ Jvm.Cond.initialized "java/lang/System" ∈ ygw) (h : xu st fun n st => xu st fun dp st => xuR st fun b st => xu st fun sp st => xuR st fun a st => (xCo g a sp n ∧ xCo g b dp n) ∧ (match Nat.ble st.length 4 with | true => K (pc + 3) ls st g (xcp w a sp.toNat b dp.toNat n.toNat) | false => False)) : yP p l e R s m args below meth c Q D cI cZ cS b L xs z0 A T.1.2.2.1 n0 s0 pc ls st g w := by
  obtain ⟨hx, hb, hml, hr, hlk, hown, hnm, hts, hN, hKK, hX, hbl, hbA, hA⟩ := F
  intro ads H locs la I hR
  obtain ⟨n, r1, rfl, h1⟩ := yu h
  obtain ⟨dp, r2, rfl, h2⟩ := yu h1
  obtain ⟨a2, r3, rfl, h3⟩ := yuR h2
  obtain ⟨sp, r4, rfl, h4⟩ := yu h3
  obtain ⟨a1, r, rfl, ⟨⟨n1, o1, o2, o3, o4⟩, ⟨n2, u1, u2, u3, u4⟩⟩, h5⟩ := yuR h4
  split at h5
  · rename_i q
    have hn : x32 n := I.hd
    have hdp : x32 dp := I.tl.hd
    have hsp : x32 sp := I.tl.tl.tl.hd
    obtain ⟨t1, t2, -⟩ := yat I.1 o1 y14
    obtain ⟨v1, v2, -⟩ := yat I.1 u1 y14
    have he := yws_get (cI := cI) (cZ := cZ) (cS := cS) (b := b) (g := g) (w := w) t1
    rw [← t2, yce_1 o1] at he
    have hev := yws_get (cI := cI) (cZ := cZ) (cS := cS) (b := b) (g := g) (w := w) v1
    rw [← v2, yce_1 u1] at hev
    show W p l e R s m args below meth c H locs (g.1.length - n0) (xsl g.1 - s0) Q (F0 m pc la (.int (Int32.ofInt n) :: .int (Int32.ofInt dp) :: yrf b ads a2 :: .int (Int32.ofInt sp) :: yrf b ads a1 :: r.map (ycv b ads)))
    rw [yrf_of o1.1, yad_of t2, yrf_of u1.1, yad_of v2]
    have h8 := yroom (b := b) (ads := ads) (Nat.le_of_ble_eq_true q)
    have hz : x32 0 := by decide
    refine va_copyi hx hb (by rw [hml]; exact I.2.2.2.2.2.2.1.symm) hown (hts _ hE.1) (hts _ hE.2.1) (hts _ hE.2.2.1) (hts _ hE.2.2.2) hKK I.2.2.2.1 I.2.2.2.2.1 I.2.2.2.2.2.1 (a1 - 2) (a2 - 2) 0 0 he hev rfl rfl rfl (fun z => by have := (y_lt hsp hz).mp z; omega) (fun z => by have := (y_lt hdp hz).mp z; omega) (fun z => by have := (y_lt hn hz).mp z; omega) (by rw [y_cl hsp, y_cl hn]; omega) (by rw [y_cl hdp, y_cl hn]; omega) (fun _ _ => rfl) hRd.1 ?_ hd (fun H1 locs1 q1 q2 q3 => ?_)
    · have : nativeFrameWords "java/lang/System" "arraycopy" 5 ≤ 60 := by decide
      omega
    · rw [y_cl hsp, y_cl hdp, y_cl hn] at q1 q2
      have hset : (yws cI cZ cS b ads g w).set (a2 - 2) (ads.getD (a2 - 2) 0, .inl (cI, n2, .inl (va_cpy (fun j => Int32.ofInt (w a1 j)) (fun j => Int32.ofInt (w a2 j)) sp.toNat dp.toNat n.toNat))) = yws cI cZ cS b ads g (xcp w a1 sp.toNat a2 dp.toNat n.toNat) := by
        refine yws_set ?_ (fun j hj => yce_w fun k => ?_)
        · rw [← v2, yce_1 u1]
          congr 3
          congr 1
          funext j
          unfold xcp va_cpy
          by_cases hj : dp.toNat ≤ j ∧ j < dp.toNat + n.toNat
          · rw [if_pos ⟨rfl, hj⟩, if_pos hj]
          · rw [if_neg (fun z => hj z.2), if_neg hj]
        · unfold xcp
          rw [if_neg (by omega)]
      rw [hset] at q1 q2
      exact hK _ _ _ _ _ h5 ads H1 locs1 la ⟨yHp_cp I.1 v2 (yIs_lt u1).2, I.2.1, I.tl.tl.tl.tl.tl.2.2.1, q1, q2, q3, I.2.2.2.2.2.2⟩ hR
  · exact h5.elim
theorem y_max {a b : Int} (ha : x32 a) (hb : x32 b) : (if Int32.ofInt a < Int32.ofInt b then Int32.ofInt b else Int32.ofInt a) = Int32.ofInt (max a b) := by
  by_cases h : a < b
  · rw [if_pos ((y_lt ha hb).mpr h), Int.max_eq_right (by omega)]
  · rw [if_neg (fun q => h ((y_lt ha hb).mp q)), Int.max_eq_left (by omega)]
theorem y_min {a b : Int} (ha : x32 a) (hb : x32 b) : (if Int32.ofInt b < Int32.ofInt a then Int32.ofInt b else Int32.ofInt a) = Int32.ofInt (min a b) := by
  by_cases h : b < a
  · rw [if_pos ((y_lt hb ha).mpr h), Int.min_eq_right (by omega)]
  · rw [if_neg (fun q => h ((y_lt hb ha).mp q)), Int.min_eq_left (by omega)]
theorem yi_mmax (F : yF p s m args meth c T D cI cZ cS b L xs A) (hK : ∀ pc ls st g w, K pc ls st g w → yP p l e R s m args below meth c Q D cI cZ cS b L xs z0 A T.1.2.2.1 n0 s0 pc ls st g w) (hRd : 1 ≤ R.frames ∧ 100 ≤ R.locals)
    {i : Nat} (hd : decode T.1.2.1 pc = .ok (.invokestatic i, 3)) (hE : Jvm.Cond.methodLink T.2.2.1 i Lib.Math.max.name ∈ ygw ∧ Jvm.Cond.static Lib.Math.max.name ∈ ygw ∧ Jvm.Cond.initialized "java/lang/Math" ∈ ygw ∧ Jvm.Cond.code Lib.Math.max.name Lib.Math.max.code 2 (some .int) ∈ ygw) (h : xb st fun a b r => (match Nat.ble r.length 4 with | true => K (pc + 3) ls (xi (max a b) :: r) g w | false => False)) : yP p l e R s m args below meth c Q D cI cZ cS b L xs z0 A T.1.2.2.1 n0 s0 pc ls st g w := by
  obtain ⟨hx, hb, hml, hr, hlk, hown, hnm, hts, hN, hKK, hX, hbl, hbA, hA⟩ := F
  intro ads H locs la I hR
  obtain ⟨u, v, r, rfl, h2⟩ := yb h
  have hv : x32 v := I.hd
  have hu : x32 u := I.tl.hd
  split at h2
  · rename_i q
    have k1 := hK _ _ _ _ _ h2 ads H locs la (I.tl.tl.push (v := xi (max u v)) (show x32 (max u v) by have := hv.1; have := hv.2; have := hu.1; have := hu.2; constructor <;> omega)) hR
    have h8 := yroom (b := b) (ads := ads) (Nat.le_of_ble_eq_true q)
    obtain ⟨r1, r2, r3, r4⟩ := hR
    refine va_mmax (x := Int32.ofInt u) (y := Int32.ofInt v) (rest := r.map (ycv b ads)) hx hb (by rw [hml]; exact I.2.2.2.2.2.2.1.symm) hown (hts _ hE.1) (hts _ hE.2.1) (hts _ hE.2.2.1) (hts _ hE.2.2.2) hRd.1 (by omega) (by omega) (by omega) hd ?_
    rw [y_max hu hv]
    exact k1
  · exact h2.elim
theorem yi_mmin (F : yF p s m args meth c T D cI cZ cS b L xs A) (hK : ∀ pc ls st g w, K pc ls st g w → yP p l e R s m args below meth c Q D cI cZ cS b L xs z0 A T.1.2.2.1 n0 s0 pc ls st g w) (hRd : 1 ≤ R.frames ∧ 100 ≤ R.locals)
    {i : Nat} (hd : decode T.1.2.1 pc = .ok (.invokestatic i, 3)) (hE : Jvm.Cond.methodLink T.2.2.1 i Lib.Math.min.name ∈ ygw ∧ Jvm.Cond.static Lib.Math.min.name ∈ ygw ∧ Jvm.Cond.initialized "java/lang/Math" ∈ ygw ∧ Jvm.Cond.code Lib.Math.min.name Lib.Math.min.code 2 (some .int) ∈ ygw) (h : xb st fun a b r => (match Nat.ble r.length 4 with | true => K (pc + 3) ls (xi (min a b) :: r) g w | false => False)) : yP p l e R s m args below meth c Q D cI cZ cS b L xs z0 A T.1.2.2.1 n0 s0 pc ls st g w := by
  obtain ⟨hx, hb, hml, hr, hlk, hown, hnm, hts, hN, hKK, hX, hbl, hbA, hA⟩ := F
  intro ads H locs la I hR
  obtain ⟨u, v, r, rfl, h2⟩ := yb h
  have hv : x32 v := I.hd
  have hu : x32 u := I.tl.hd
  split at h2
  · rename_i q
    have k1 := hK _ _ _ _ _ h2 ads H locs la (I.tl.tl.push (v := xi (min u v)) (show x32 (min u v) by have := hv.1; have := hv.2; have := hu.1; have := hu.2; constructor <;> omega)) hR
    have h8 := yroom (b := b) (ads := ads) (Nat.le_of_ble_eq_true q)
    obtain ⟨r1, r2, r3, r4⟩ := hR
    refine va_mmin (x := Int32.ofInt u) (y := Int32.ofInt v) (rest := r.map (ycv b ads)) hx hb (by rw [hml]; exact I.2.2.2.2.2.2.1.symm) hown (hts _ hE.1) (hts _ hE.2.1) (hts _ hE.2.2.1) (hts _ hE.2.2.2) hRd.1 (by omega) (by omega) (by omega) hd ?_
    rw [y_min hu hv]
    exact k1
  · exact h2.elim
end YV
