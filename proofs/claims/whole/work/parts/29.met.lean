/-! ===== every method keeps its contract, calls d deep ===== -/
theorem yret {p : Program} {l : Launch} {e : Env} {R : Room} {s : State} {m : MethodId} {args : Array Value} {below : List Frame} {meth : Method} {c : Code} {D : va_G} {cI cZ cS : ClassId} {b L : Nat} {xs : Nat → Int32} {ads : List Nat} {T : xTb} {g0 : xG} {Qx : xQ} (F : yF p s m args meth c T D cI cZ cS b L xs (yA ads s.heap.size)) : yRet p l e R s m args below meth c (MQ below (yQc D cI cZ cS b L xs ads s.heap.size (fun r g2 w2 => xchk T.2.1 g0 g2 ∧ Qx r g2 w2)) args s T.2.1.1 T.2.1.2 (yA ads s.heap.size)) D cI cZ cS b L xs ads (yA ads s.heap.size) T g0.1.length (xsl g0.1) (fun r g2 w2 => xchk T.2.1 g0 g2 ∧ Qx r g2 w2) := by
  obtain ⟨hx, hb, hml, hr, hlk, hown, hnm, hts, hN, hKK, hX, hbl, hbA, hA⟩ := F
  constructor
  · intro pc ls g w v hd hty hq ads2 H locs la I hR
    obtain ⟨tl, htl⟩ := I.1.2.1.2.2
    subst htl
    obtain ⟨⟨hc1, hc2⟩, hq2⟩ := hq
    have hv : x32 v := I.hd
    have e1 : g.1.length - g0.1.length = T.2.1.1 := by rw [hc1]; omega
    have e2 : xsl g.1 - xsl g0.1 = T.2.1.2 := by rw [hc2]; omega
    rw [e1, e2]
    have hpost : ∀ t : State, t.heap = H → s.WarmedH t.vm → yQc D cI cZ cS b L xs ads s.heap.size (fun r g2 w2 => xchk T.2.1 g0 g2 ∧ Qx r g2 w2) args s (.returned (some (.int (Int32.ofInt v)))) t := fun t ht _ => ⟨⟨some (xi v), g, w, tl, rfl, ⟨⟨hc1, hc2⟩, hq2⟩, I.1, fun u hu => by cases hu; exact hv, by rw [ht]; exact I.2.2.2.1, I.2.2.2.2.1⟩, I.2.2.2.2.2.1.F ht⟩
    rcases hty with ⟨_, q, h01⟩ | q
    · refine W.zret (ty := .boolean) hx hb (by rw [hr, q]) ?_ hpost I.2.2.2.2.2.1.2.2 hd hlk
      rcases h01 with z | z <;> rw [z] <;> rfl
    · exact W.iret hx hb (by rw [hr, q]) hpost I.2.2.2.2.2.1.2.2 hd hlk
  · intro pc ls g w hd hty hq ads2 H locs la I hR
    obtain ⟨tl, htl⟩ := I.1.2.1.2.2
    subst htl
    obtain ⟨⟨hc1, hc2⟩, hq2⟩ := hq
    have e1 : g.1.length - g0.1.length = T.2.1.1 := by rw [hc1]; omega
    have e2 : xsl g.1 - xsl g0.1 = T.2.1.2 := by rw [hc2]; omega
    rw [e1, e2]
    exact W.vret hx hb (by rw [hr, hty]) (fun t ht _ => ⟨⟨none, g, w, tl, rfl, ⟨⟨hc1, hc2⟩, hq2⟩, I.1, fun u hu => (by cases hu), by rw [ht]; exact I.2.2.2.1, I.2.2.2.2.1⟩, I.2.2.2.2.2.1.F ht⟩) I.2.2.2.2.2.1.2.2 hd hlk
theorem ymet (l : Launch) {MT : List xTb} {mks : List (Nat × Nat × Nat)} (hMT : ∀ (mi : Nat) (T : xTb), MT[mi]? = some T → yTok MT T) (hmk : xmk mks = fun mi => match MT[mi]? with | some T2 => T2.2.1 | none => (0, 0)) : ∀ d : Nat, yMet l MT d (xcall mks MT d)
  | 0 => fun mi T2 hT2 D cI cZ cS b L xs av g w ads sz Qx hh hav h => h.elim
  | d + 1 => fun mi T2 hT2 D cI cZ cS b L xs av g w ads sz Qx hh hav h => by
    obtain ⟨t1, t2, t3⟩ := hMT mi T2 hT2
    have ih := ymet l hMT hmk d
    unfold xcall at h
    simp only [hT2] at h
    split at h
    · rename_i hble
      refine Met.ofW (cc := T2.1.2.1) (maxL := T2.1.2.2.1) (ret := T2.1.2.2.2) t3 rfl ?_
      intro p e s m args below meth c s₁ B hml hv
      obtain ⟨rfl, hsz, hP, hKK, hD, hN, hX, hb1, hb2⟩ := hv
      subst hsz
      have hts0 := atoms_spec (ws := ywd T2) B.pre
      have hts : ∀ w ∈ ygw, w.before (av.map (ycv b ads)).toArray s = true := fun w hw => hts0 w (List.mem_cons_of_mem _ hw)
      have F : yF p s m (av.map (ycv b ads)).toArray meth c T2 D cI cZ cS b L xs (yA ads s.heap.size) := ⟨B.exec, B.bytes, hml, B.returns, B.notSynchronized, by rw [t2]; exact findClass_of_methodNamed B.named, fun h => (name_of_methodNamed B.named B.method).1.trans h, hts, hN, hKK, hX, hb1, fun z => z.elim hb2 (fun z => by omega), fun q h => Or.inr h⟩
      rw [lg_entry_eq]
      have k := yAt (l := l) (e := e) (below := below) (R := (headSpec (ywd T2) (yrm (d + 1) T2)).room) (n0 := g.1.length) (s0 := xsl g.1) (Qx := fun r g2 w2 => xchk T2.2.1 g g2 ∧ Qx r g2 w2) F t1 (xcall_m MT d) ih hmk ⟨Nat.le_refl (d + 1), Nat.le_refl (100 * (d + 1))⟩ (yret (g0 := g) F) h ads s.heap [] _ ⟨hh, fun v hv => by
        unfold xpad at hv
        rcases List.mem_append.mp hv with q | q
        · exact yargs_ok av hav v q
        · rw [(List.mem_replicate.mp q).2]; trivial, fun v hv => (by cases hv), hP, ⟨hD.1, fun i q hq => ?_⟩, va_S.rf, yLs_entry (Nat.le_of_ble_eq_true hble)⟩ ⟨Nat.le_refl _, Nat.le_refl _, Nat.le_add_right _ _, Nat.le_add_right _ _⟩
      · rw [Nat.sub_self, Nat.sub_self] at k
        exact k
      · have hi : i < ads.length := by
          have := (List.getElem?_eq_some_iff.mp hq).1
          rwa [yws_len] at this
        rw [yws_get hi] at hq
        cases hq
        refine Or.inl ?_
        have : ads[i]? = some (ads.getD i 0) := by simp [List.getD, List.getElem?_eq_getElem hi]
        exact List.mem_of_getElem? this
    · exact h.elim
