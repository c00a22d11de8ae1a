/-! ===== arrays, and what is made ===== -/
section YI3
variable {p : Program} {l : Launch} {e : Env} {R : Room} {s : State} {m : MethodId} {args : Array Value} {below : List Frame} {meth : Method} {c : Code} {Q : State → Prop} {D : va_G} {cI cZ cS : ClassId} {b L : Nat} {xs : Nat → Int32} {z0 : List Nat} {A : Nat → Prop} {n0 s0 : Nat} {T : xTb}
variable {H : Heap} {locs : List Loc} {la : Array Slot} {ads : List Nat} {pc : Nat} {ls st r : List xV} {g : xG} {w : xW} {K : xK}
theorem yi_iaload (F : yF p s m args meth c T D cI cZ cS b L xs A) (hK : ∀ pc ls st g w, K pc ls st g w → yP p l e R s m args below meth c Q D cI cZ cS b L xs z0 A T.1.2.2.1 n0 s0 pc ls st g w)
    (hd : decode T.1.2.1 pc = .ok (.iaload, 1)) (h : xai st fun a i r => xAr g a i ∧ K (pc + 1) ls (xi (w a i.toNat) :: r) g w) : yP p l e R s m args below meth c Q D cI cZ cS b L xs z0 A T.1.2.2.1 n0 s0 pc ls st g w := by
  obtain ⟨hx, hb, hml, hr, hlk, hown, hnm, hts, hN, hKK, hX, hbl, hbA, hA⟩ := F
  obtain ⟨a, i, r, rfl, ⟨n, h1, hi0, hin⟩, h2⟩ := yai h
  intro ads H locs la I hR
  have hi : x32 i := I.hd
  have k1 := hK _ _ _ _ _ h2 ads H locs la (I.tl.tl.push (v := xi (w a i.toNat)) (I.1.2.2.2.2.1 _ _)) hR
  rcases h1 with h1 | h1
  · obtain ⟨t1, t2, -⟩ := yat I.1 h1 y14
    have he := yws_get (cI := cI) (cZ := cZ) (cS := cS) (b := b) (g := g) (w := w) t1
    rw [← t2, yce_1 h1, ← yad_of (b := b) t2] at he
    show W p l e R s m args below meth c H locs (g.1.length - n0) (xsl g.1 - s0) Q (F0 m pc la (.int (Int32.ofInt i) :: yrf b ads a :: r.map (ycv b ads)))
    rw [yrf_of h1.1]
    refine va_iald hx hb hKK I.2.2.2.1 (a - 2) 0 he rfl (y_in hi hi0 hin) hd ?_
    rw [y_cl hi]
    exact k1
  · have ha1 : a = 1 := by
      rcases Nat.lt_or_ge 1 a with q | q
      · have := I.1.2.2.2.1 (a - 2) _ (by rw [show a - 2 + 1 = a - 1 by omega]; exact h1.2)
        rcases this with z | z
        · have := z.1; cases this
        · have := z.2.1; simp at this
      · have := h1.1; omega
    subst ha1
    have hnL : n = L := by
      have := h1.2
      rw [show (1 : Nat) - 1 = 0 from rfl, I.1.2.1.1] at this
      cases this; rfl
    subst hnL
    show W p l e R s m args below meth c H locs (g.1.length - n0) (xsl g.1 - s0) Q (F0 m pc la (.int (Int32.ofInt i) :: .ref b :: r.map (ycv b ads)))
    refine va_sld hx hb hX hbl hbA I.2.2.2.2.2.1 (y_in hi hi0 hin) hd ?_
    rw [y_cl hi]
    have e1 : xs i.toNat = Int32.ofInt (w 1 i.toNat) := by rw [I.1.2.2.1 i.toNat (by omega), Int32.ofInt_toInt]
    rw [e1]
    exact k1
theorem yi_baload (F : yF p s m args meth c T D cI cZ cS b L xs A) (hK : ∀ pc ls st g w, K pc ls st g w → yP p l e R s m args below meth c Q D cI cZ cS b L xs z0 A T.1.2.2.1 n0 s0 pc ls st g w)
    (hd : decode T.1.2.1 pc = .ok (.baload, 1)) (h : xai st fun a i r => xA2 g a i ∧ K (pc + 1) ls (xi (w a i.toNat) :: r) g w) : yP p l e R s m args below meth c Q D cI cZ cS b L xs z0 A T.1.2.2.1 n0 s0 pc ls st g w := by
  obtain ⟨hx, hb, hml, hr, hlk, hown, hnm, hts, hN, hKK, hX, hbl, hbA, hA⟩ := F
  obtain ⟨a, i, r, rfl, ⟨n, h1, hi0, hin⟩, h2⟩ := yai h
  intro ads H locs la I hR
  have hi : x32 i := I.hd
  have k1 := hK _ _ _ _ _ h2 ads H locs la (I.tl.tl.push (v := xi (w a i.toNat)) (I.1.2.2.2.2.1 _ _)) hR
  obtain ⟨t1, t2, -⟩ := yat I.1 h1 y24
  have he := yws_get (cI := cI) (cZ := cZ) (cS := cS) (b := b) (g := g) (w := w) t1
  rw [← t2, yce_2 h1, ← yad_of (b := b) t2] at he
  show W p l e R s m args below meth c H locs (g.1.length - n0) (xsl g.1 - s0) Q (F0 m pc la (.int (Int32.ofInt i) :: yrf b ads a :: r.map (ycv b ads)))
  rw [yrf_of h1.1]
  refine va_zald hx hb hKK I.2.2.2.1 (a - 2) 1 he rfl (y_in hi hi0 hin) hd ?_
  rw [y_cl hi]
  exact k1
theorem yi_aaload (F : yF p s m args meth c T D cI cZ cS b L xs A) (hK : ∀ pc ls st g w, K pc ls st g w → yP p l e R s m args below meth c Q D cI cZ cS b L xs z0 A T.1.2.2.1 n0 s0 pc ls st g w)
    (hd : decode T.1.2.1 pc = .ok (.aaload, 1)) (h : xai st fun a i r => xA3 g a i ∧ K (pc + 1) ls (xr (g.2 a i.toNat) :: r) g w) : yP p l e R s m args below meth c Q D cI cZ cS b L xs z0 A T.1.2.2.1 n0 s0 pc ls st g w := by
  obtain ⟨hx, hb, hml, hr, hlk, hown, hnm, hts, hN, hKK, hX, hbl, hbA, hA⟩ := F
  obtain ⟨a, i, r, rfl, ⟨n, h1, hi0, hin⟩, h2⟩ := yai h
  intro ads H locs la I hR
  have hi : x32 i := I.hd
  have k1 := hK _ _ _ _ _ h2 ads H locs la (I.tl.tl.push (v := xr (g.2 a i.toNat)) (I.1.2.2.2.2.2.1 _ _)) hR
  obtain ⟨t1, t2, -⟩ := yat I.1 h1 y34
  have he := yws_get (cI := cI) (cZ := cZ) (cS := cS) (b := b) (g := g) (w := w) t1
  rw [← t2, yce_3 h1, ← yad_of (b := b) t2] at he
  show W p l e R s m args below meth c H locs (g.1.length - n0) (xsl g.1 - s0) Q (F0 m pc la (.int (Int32.ofInt i) :: yrf b ads a :: r.map (ycv b ads)))
  rw [yrf_of h1.1]
  refine va_aldq hx hb hKK I.2.2.2.1 (a - 2) 2 he rfl (y_in hi hi0 hin) hd ?_
  rw [y_cl hi]
  have e1 : va_rf (if g.2 a i.toNat = 0 then none else some (yad b ads (g.2 a i.toNat))) = yrf b ads (g.2 a i.toNat) := by
    unfold yrf
    split <;> rfl
  rw [e1]
  exact k1
theorem yI_put (I : yI D cI cZ cS b L xs z0 A s.heap T.1.2.2.1 ls r g w ads H locs la) {a k : Nat} {v : Int} (t2 : a = (a - 2) + 2) (hl : a ≤ g.1.length) (hv : x32 v) {e : va_E} (he : yce cI cZ cS b ads g (xup w a k v) a = e) {H1 : Heap} {locs1 : List Loc} (h1 : va_P D vwCl ((yws cI cZ cS b ads g w).set (a - 2) (ads.getD (a - 2) 0, e)) H1) (h2 : va_D A ((yws cI cZ cS b ads g w).set (a - 2) (ads.getD (a - 2) 0, e))) (h3 : va_S A s.heap H1 locs1) : yI D cI cZ cS b L xs z0 A s.heap T.1.2.2.1 ls r g (xup w a k v) ads H1 locs1 la := by
  have hset := yws_set (cI := cI) (cZ := cZ) (cS := cS) (b := b) (ads := ads) (g := g) (g2 := g) (w := w) (w2 := xup w a k v) (i := a - 2) (e := e) (by rw [← t2]; exact he) (fun j hj => yce_w fun _ => xup_a (by omega))
  rw [hset] at h1 h2
  exact ⟨yHp_put I.1 t2 hl hv, I.2.1, I.2.2.1, h1, h2, h3, I.2.2.2.2.2.2⟩
theorem yi_iastore (F : yF p s m args meth c T D cI cZ cS b L xs A) (hK : ∀ pc ls st g w, K pc ls st g w → yP p l e R s m args below meth c Q D cI cZ cS b L xs z0 A T.1.2.2.1 n0 s0 pc ls st g w)
    (hd : decode T.1.2.1 pc = .ok (.iastore, 1)) (h : xu st fun v r => xai r fun a i r => xA1 g a i ∧ K (pc + 1) ls r g (xup w a i.toNat v)) : yP p l e R s m args below meth c Q D cI cZ cS b L xs z0 A T.1.2.2.1 n0 s0 pc ls st g w := by
  obtain ⟨hx, hb, hml, hr, hlk, hown, hnm, hts, hN, hKK, hX, hbl, hbA, hA⟩ := F
  obtain ⟨v, r0, rfl, h0⟩ := yu h
  obtain ⟨a, i, r, rfl, ⟨n, h1, hi0, hin⟩, h2⟩ := yai h0
  intro ads H locs la I hR
  have hi : x32 i := I.tl.hd
  have hv : x32 v := I.hd
  obtain ⟨t1, t2, -⟩ := yat I.1 h1 y14
  have he := yws_get (cI := cI) (cZ := cZ) (cS := cS) (b := b) (g := g) (w := w) t1
  rw [← t2, yce_1 h1] at he
  show W p l e R s m args below meth c H locs (g.1.length - n0) (xsl g.1 - s0) Q (F0 m pc la (.int (Int32.ofInt v) :: .int (Int32.ofInt i) :: yrf b ads a :: r.map (ycv b ads)))
  rw [yrf_of h1.1, yad_of t2]
  refine va_iast hx hb hKK I.2.2.2.1 I.2.2.2.2.1 I.2.2.2.2.2.1 (a - 2) 0 he rfl (y_in hi hi0 hin) hd (fun H1 locs1 q1 q2 q3 => ?_)
  rw [y_cl hi] at q1 q2
  refine hK _ _ _ _ _ h2 ads H1 locs1 la (yI_put I.tl.tl.tl t2 (yIs_lt h1).2 hv ?_ q1 q2 q3) hR
  rw [yce_1 h1]
  congr 3
  congr 1
  funext j
  unfold upd xup
  by_cases hj : j = i.toNat
  · simp [hj]
  · simp [hj]
theorem yi_bastore (F : yF p s m args meth c T D cI cZ cS b L xs A) (hK : ∀ pc ls st g w, K pc ls st g w → yP p l e R s m args below meth c Q D cI cZ cS b L xs z0 A T.1.2.2.1 n0 s0 pc ls st g w)
    (hd : decode T.1.2.1 pc = .ok (.bastore, 1)) (h : xu st fun v r => xai r fun a i r => (xA2 g a i ∧ (v = 0 ∨ v = 1)) ∧ K (pc + 1) ls r g (xup w a i.toNat v)) : yP p l e R s m args below meth c Q D cI cZ cS b L xs z0 A T.1.2.2.1 n0 s0 pc ls st g w := by
  obtain ⟨hx, hb, hml, hr, hlk, hown, hnm, hts, hN, hKK, hX, hbl, hbA, hA⟩ := F
  obtain ⟨v, r0, rfl, h0⟩ := yu h
  obtain ⟨a, i, r, rfl, ⟨⟨n, h1, hi0, hin⟩, h01⟩, h2⟩ := yai h0
  intro ads H locs la I hR
  have hi : x32 i := I.tl.hd
  have hv : x32 v := I.hd
  obtain ⟨t1, t2, -⟩ := yat I.1 h1 y24
  have he := yws_get (cI := cI) (cZ := cZ) (cS := cS) (b := b) (g := g) (w := w) t1
  rw [← t2, yce_2 h1] at he
  show W p l e R s m args below meth c H locs (g.1.length - n0) (xsl g.1 - s0) Q (F0 m pc la (.int (Int32.ofInt v) :: .int (Int32.ofInt i) :: yrf b ads a :: r.map (ycv b ads)))
  rw [yrf_of h1.1, yad_of t2]
  have hnar : vp_nar .boolean (Int32.ofInt v) = Int32.ofInt v := by
    rcases h01 with q | q <;> rw [q] <;> decide
  refine va_zast hx hb hKK I.2.2.2.1 I.2.2.2.2.1 I.2.2.2.2.2.1 (a - 2) 1 he rfl (y_in hi hi0 hin) hd (fun H1 locs1 q1 q2 q3 => ?_)
  rw [y_cl hi, hnar] at q1 q2
  refine hK _ _ _ _ _ h2 ads H1 locs1 la (yI_put I.tl.tl.tl t2 (yIs_lt h1).2 hv ?_ q1 q2 q3) hR
  rw [yce_2 h1]
  congr 3
  congr 1
  funext j
  unfold upd xup
  by_cases hj : j = i.toNat
  · simp [hj]
  · simp [hj]
theorem yi_aastore (F : yF p s m args meth c T D cI cZ cS b L xs A) (hK : ∀ pc ls st g w, K pc ls st g w → yP p l e R s m args below meth c Q D cI cZ cS b L xs z0 A T.1.2.2.1 n0 s0 pc ls st g w)
    (hd : decode T.1.2.1 pc = .ok (.aastore, 1)) (h : xuR st fun v r => xai r fun a i r => (xA3 g a i ∧ xIs g v (0, 3)) ∧ K (pc + 1) ls r (g.1, xup g.2 a i.toNat v) w) : yP p l e R s m args below meth c Q D cI cZ cS b L xs z0 A T.1.2.2.1 n0 s0 pc ls st g w := by
  obtain ⟨hx, hb, hml, hr, hlk, hown, hnm, hts, hN, hKK, hX, hbl, hbA, hA⟩ := F
  obtain ⟨v, r0, rfl, h0⟩ := yuR h
  obtain ⟨a, i, r, rfl, ⟨⟨n, h1, hi0, hin⟩, hv3⟩, h2⟩ := yai h0
  intro ads H locs la I hR
  have hi : x32 i := I.tl.hd
  obtain ⟨t1, t2, -⟩ := yat I.1 h1 y34
  obtain ⟨v1, v2, -⟩ := yat I.1 hv3 y04
  have he := yws_get (cI := cI) (cZ := cZ) (cS := cS) (b := b) (g := g) (w := w) t1
  rw [← t2, yce_3 h1] at he
  have hev := yws_get (cI := cI) (cZ := cZ) (cS := cS) (b := b) (g := g) (w := w) v1
  rw [← v2, yce_0 hv3] at hev
  show W p l e R s m args below meth c H locs (g.1.length - n0) (xsl g.1 - s0) Q (F0 m pc la (yrf b ads v :: .int (Int32.ofInt i) :: yrf b ads a :: r.map (ycv b ads)))
  rw [yrf_of h1.1, yad_of t2, yrf_of hv3.1, yad_of v2]
  refine va_astq (r := (RX3, TX3, 18)) hx hb hKK I.2.2.2.1 I.2.2.2.2.1 I.2.2.2.2.2.1 (a - 2) 2 (v - 2) 3 he rfl hev rfl (y_in hi hi0 hin) hd (fun H1 locs1 q1 q2 q3 => ?_)
  rw [y_cl hi] at q1 q2
  have hset : (yws cI cZ cS b ads g w).set (a - 2) (ads.getD (a - 2) 0, .inl (cS, n, .inr (.inr (.inr (.inr (va_up (fun j => if g.2 a j = 0 then none else some (yad b ads (g.2 a j))) i.toNat (some (ads.getD (v - 2) 0)))))))) = yws cI cZ cS b ads (g.1, xup g.2 a i.toNat v) w := by
    refine yws_set ?_ (fun j hj => yce_g fun _ => xup_a (by omega))
    rw [← t2, yce_3 (show xIs (g.1, xup g.2 a i.toNat v) a (3, n) from h1)]
    congr 7
    funext j
    unfold va_up
    by_cases hj : j = i.toNat
    · subst hj
      simp only [xup_s, if_neg hv3.1, if_true, yad_of v2]
    · simp only [xup_k hj, if_neg hj]
  rw [hset] at q1 q2
  exact hK _ _ _ _ _ h2 ads H1 locs1 la ⟨yHp_putR I.1 (yIs_lt h1).2 I.hd, I.2.1, I.tl.tl.tl.2.2.1, q1, q2, q3, I.2.2.2.2.2.2⟩ hR
theorem yi_arraylength (F : yF p s m args meth c T D cI cZ cS b L xs A) (hK : ∀ pc ls st g w, K pc ls st g w → yP p l e R s m args below meth c Q D cI cZ cS b L xs z0 A T.1.2.2.1 n0 s0 pc ls st g w)
    (hd : decode T.1.2.1 pc = .ok (.arraylength, 1)) (h : xuR st fun a r => xAl g a ∧ K (pc + 1) ls (xi (xlen g a) :: r) g w) : yP p l e R s m args below meth c Q D cI cZ cS b L xs z0 A T.1.2.2.1 n0 s0 pc ls st g w := by
  obtain ⟨hx, hb, hml, hr, hlk, hown, hnm, hts, hN, hKK, hX, hbl, hbA, hA⟩ := F
  obtain ⟨a, r, rfl, ⟨kd, n, h1, hk4, hn31⟩, h2⟩ := yuR h
  intro ads H locs la I hR
  have hlen : xlen g a = n := by unfold xlen; rw [h1.2]; rfl
  rw [hlen] at h2
  have k1 := hK _ _ _ _ _ h2 ads H locs la (I.tl.push (v := xi (n : Int)) (show x32 (n : Int) by constructor <;> omega)) hR
  have e0 : Int32.ofNat n = Int32.ofInt (n : Int) := Int32.ofInt_eq_ofNat.symm
  show W p l e R s m args below meth c H locs (g.1.length - n0) (xsl g.1 - s0) Q (F0 m pc la (yrf b ads a :: r.map (ycv b ads)))
  rw [yrf_of h1.1]
  rcases (by omega : kd = 0 ∨ kd = 1 ∨ kd = 2 ∨ kd = 3) with q | q | q | q
  · subst q
    obtain ⟨t1, t2, -⟩ := yat I.1 h1 y14
    have he := yws_get (cI := cI) (cZ := cZ) (cS := cS) (b := b) (g := g) (w := w) t1
    rw [← t2, yce_1 h1, ← yad_of (b := b) t2] at he
    exact va_alen hx hb hKK I.2.2.2.1 (a - 2) 0 he rfl e0 hd k1
  · subst q
    obtain ⟨t1, t2, -⟩ := yat I.1 h1 y24
    have he := yws_get (cI := cI) (cZ := cZ) (cS := cS) (b := b) (g := g) (w := w) t1
    rw [← t2, yce_2 h1, ← yad_of (b := b) t2] at he
    exact va_alen hx hb hKK I.2.2.2.1 (a - 2) 1 he rfl e0 hd k1
  · subst q
    obtain ⟨t1, t2, -⟩ := yat I.1 h1 y34
    have he := yws_get (cI := cI) (cZ := cZ) (cS := cS) (b := b) (g := g) (w := w) t1
    rw [← t2, yce_3 h1, ← yad_of (b := b) t2] at he
    exact va_alen hx hb hKK I.2.2.2.1 (a - 2) 2 he rfl e0 hd k1
  · subst q
    have ha1 : a = 1 := by
      rcases Nat.lt_or_ge 1 a with q | q
      · have := I.1.2.2.2.1 (a - 2) _ (by rw [show a - 2 + 1 = a - 1 by omega]; exact h1.2)
        rcases this with z | z
        · have := z.1; cases this
        · have := z.2.1; simp at this
      · have := h1.1; omega
    subst ha1
    have hnL : n = L := by
      have := h1.2
      rw [show (1 : Nat) - 1 = 0 from rfl, I.1.2.1.1] at this
      cases this; rfl
    subst hnL
    refine va_slen hx hb hX hbl hbA I.2.2.2.2.2.1 hd ?_
    rw [e0]
    exact k1
end YI3
