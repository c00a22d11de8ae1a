/-! ===== calls, by contract ===== -/
def yA (ads : List Nat) (sz : Nat) : Nat → Prop := fun q => q ∈ ads ∨ sz ≤ q
def ywd (T : xTb) : List Jvm.Cond := .code T.1.1 T.1.2.1 T.1.2.2.1 T.1.2.2.2 :: ygw
def yrm (d : Nat) (T : xTb) : Room := { frames := d, cells := T.2.1.1, slots := T.2.1.2, locals := 100 * d }
def yPc (D : va_G) (cI cZ cS : ClassId) (b L : Nat) (xs : Nat → Int32) (av : List xV) (g : xG) (w : xW) (ads : List Nat) (sz : Nat) : Array Value → State → Prop := fun v U => v = (av.map (ycv b ads)).toArray ∧ U.heap.size = sz ∧ va_P D vwCl (yws cI cZ cS b ads g w) U.heap ∧ va_K D vwCl (yty cI cZ cS) U ∧ va_D (fun _ => True) (yws cI cZ cS b ads g w) ∧ yN U ∧ va_X b L xs U U.heap ∧ b < sz ∧ b ∉ ads
def yQc (D : va_G) (cI cZ cS : ClassId) (b L : Nat) (xs : Nat → Int32) (ads : List Nat) (sz : Nat) (Qx : xQ) : Array Value → State → Outcome → State → Prop := fun _ st o t => (∃ (r : Option xV) (g : xG) (w : xW) (tl : List Nat), o = .returned (r.map (ycv b (ads ++ tl))) ∧ Qx r g w ∧ yHp L xs ads (ads ++ tl) g w ∧ (∀ v, r = some v → yok g.1.length v) ∧ va_P D vwCl (yws cI cZ cS b (ads ++ tl) g w) t.heap ∧ va_D (yA ads sz) (yws cI cZ cS b (ads ++ tl) g w)) ∧ va_F (yA ads sz) st t
theorem yPc_blind {D : va_G} {cI cZ cS : ClassId} {b L : Nat} {xs : Nat → Int32} {av : List xV} {g : xG} {w : xW} {ads : List Nat} {sz : Nat} : FrameBlind (yPc D cI cZ cS b L xs av g w ads sz) := by
  intro a U fr mk q
  obtain ⟨q0, q1, q2, q3, q4, q5, q6, q7⟩ := q
  exact ⟨q0, q1, q2, va_K.moved (u := U) (U := U.calling fr mk a) (Vm.Alike.refl U.vm) q3, q4, yN.same (s := U) (U := U.calling fr mk a) rfl q5, va_X.moved (u := U) (U := U.calling fr mk a) (Vm.Alike.refl U.vm) q6, q7⟩
theorem ygood {T : xTb} (h : Jvm.Cond.code T.1.1 T.1.2.1 T.1.2.2.1 T.1.2.2.2 ∈ ygw) : GoodIn ygw (ywd T) := by
  intro v hv
  have hm : v ∈ ygw := by
    rcases List.mem_cons.mp hv with q | q
    · rw [q]; exact h
    · exact q
  exact ⟨hm, good_of_word (List.mem_filter.mp hm).2⟩
/-- a method of the tables, as a call names it -/
def yMl (MT : List xTb) (own : String) (i mi np : Nat) (T2 : xTb) : Prop := MT[mi]? = some T2 ∧ Jvm.Cond.code T2.1.1 T2.1.2.1 T2.1.2.2.1 T2.1.2.2.2 ∈ ygw ∧ Jvm.Cond.initialized T2.1.1.cls ∈ ygw ∧ (T2.1.1.cls ≠ "java/lang/invoke/MethodHandle" ∧ T2.1.1.cls ≠ "java/lang/invoke/VarHandle" ∧ (parseMethodDescriptor T2.1.1.desc).map (fun d => d.parameters.length) = some np) ∧ T2.1.2.2.1 ≤ 60 ∧ (Jvm.Cond.methodLink own i T2.1.1 ∈ ygw ∨ ∃ host, Jvm.Cond.methodLinkNest own i T2.1.1 host ∈ ynw)
theorem yHp_tr {L : Nat} {xs : Nat → Int32} {z0 ads tl : List Nat} {g g2 : xG} {w w2 : xW} (h : yHp L xs z0 ads g w) (h2 : yHp L xs ads (ads ++ tl) g2 w2) : yHp L xs z0 (ads ++ tl) g2 w2 := ⟨h2.1, ⟨h2.2.1.1, h2.2.1.2.1, h.2.1.2.2.trans (List.prefix_append _ _)⟩, h2.2.2⟩
theorem yHp_re {L : Nat} {xs : Nat → Int32} {z0 ads : List Nat} {g : xG} {w : xW} (h : yHp L xs z0 ads g w) : yHp L xs ads ads g w := ⟨h.1, ⟨h.2.1.1, h.2.1.2.1, List.prefix_refl _⟩, h.2.2⟩
section YC
variable {p : Program} {l : Launch} {e : Env} {R : Room} {s : State} {m : MethodId} {args : Array Value} {below : List Frame} {meth : Method} {c : Code} {Q : State → Prop} {D : va_G} {cI cZ cS : ClassId} {b L : Nat} {xs : Nat → Int32} {z0 : List Nat} {A : Nat → Prop} {n0 s0 : Nat} {T : xTb}
variable {H : Heap} {locs : List Loc} {la : Array Slot} {ads : List Nat} {pc : Nat} {ls st rest : List xV} {g : xG} {w : xW} {K : xK}
theorem yads (hD : va_D A (yws cI cZ cS b ads g w)) {q : Nat} (h : q ∈ ads) : A q := by
  obtain ⟨i, hi⟩ := List.getElem?_of_mem h
  have hl := (List.getElem?_eq_some_iff.mp hi).1
  have h1 := hD.2 i _ (yws_get (cI := cI) (cZ := cZ) (cS := cS) (b := b) (g := g) (w := w) hl)
  have h2 : ads.getD i 0 = q := by simp [List.getD, hi]
  rw [h2] at h1
  exact h1
theorem yrun_k (F : yF p s m args meth c T D cI cZ cS b L xs A) (hK : ∀ pc ls st g w, K pc ls st g w → yP p l e R s m args below meth c Q D cI cZ cS b L xs z0 A T.1.2.2.1 n0 s0 pc ls st g w) (I : yI D cI cZ cS b L xs z0 A s.heap T.1.2.2.1 ls rest g w ads H locs la) (hR : yR R n0 s0 g) {mc ms : Nat} (hm : g.1.length + mc ≤ n0 + R.cells ∧ xsl g.1 + ms ≤ s0 + R.slots) {stk : List Value} {a : Array Value}
    (hr : va_Run p l e R s m args below meth c H locs (g.1.length - n0) (xsl g.1 - s0) mc ms (F0 m pc la stk) (rest.map (ycv b ads)) (yQc D cI cZ cS b L xs ads H.size (fun r g2 w2 => xchk (mc, ms) g g2 ∧ K (pc + 3) ls (r.toList ++ rest) g2 w2) a) (yA ads H.size)) : W p l e R s m args below meth c H locs (g.1.length - n0) (xsl g.1 - s0) Q (F0 m pc la stk) := by
  intro T0 hT X
  obtain ⟨v, st₀, t, T1, Lc, h0, X1, hL, e1, e2, ⟨⟨r, g2, w2, tl, hv, ⟨hck, hk⟩, hh2, hok, hP2, hD2⟩, hz, hfr⟩, stp⟩ := hr T0 hT X
  obtain ⟨hx, hb, hml, hrt, hlk, hown, hnm, hts, hN, hKK, hX, hbl, hbA, hA⟩ := F
  have hv2 : v = r.map (ycv b (ads ++ tl)) := by injection hv
  subst hv2
  have hSz := I.2.2.2.2.2.1.1
  have hAA : ∀ q, yA ads H.size q → A q := fun q h => by
    rcases h with h | h
    · exact yads I.2.2.2.2.1 h
    · exact hA q (Nat.le_trans hSz h)
  have hl1 := I.1.1
  have hl2 := hh2.1
  have hle : ads.length + 1 ≤ g2.1.length := by rw [← hl2, List.length_append]; omega
  have hgl : g.1.length ≤ g2.1.length := by omega
  have hok2 : ∀ u, yok g.1.length u → yok g2.1.length u := fun u hu => yok_mono hu hgl
  obtain ⟨hc1, hc2⟩ := hck
  have hc1 : g2.1.length = g.1.length + mc := hc1
  have hc2 : xsl g2.1 = xsl g.1 + ms := hc2
  have I2 : yI D cI cZ cS b L xs z0 A s.heap T.1.2.2.1 ls (r.toList ++ rest) g2 w2 (ads ++ tl) T1.heap (locs ++ Lc) la := by
    refine ⟨yHp_tr I.1 hh2, fun u hu => hok2 u (I.2.1 u hu), fun u hu => ?_, by rw [e1]; exact hP2, hD2.weaken (fun _ q _ h => hAA q.1 h), ⟨?_, fun q hq hnq => ?_, fun q hq => ?_⟩, yLs_app I.2.2.2.2.2.2 (by rw [hl1]; exact I.2.1)⟩
    · rcases List.mem_append.mp hu with z | z
      · cases r with
        | none => cases z
        | some r0 =>
          have : u = r0 := by simpa using z
          rw [this]; exact hok r0 rfl
      · exact hok2 u (I.2.2.1 u z)
    · rw [e1]
      have hz : st₀.heap.size ≤ t.heap.size := hz
      rw [h0] at hz
      exact Nat.le_trans hSz hz
    · rw [e1]
      have := hfr q (by rw [h0]; omega) (fun z => hnq (hAA q z))
      rw [this, h0]
      exact I.2.2.2.2.2.1.2.1 q hq hnq
    · rcases List.mem_append.mp hq with z | z
      · exact I.2.2.2.2.2.1.2.2 q z
      · exact hAA _ (hL q z)
  obtain ⟨r1, r2, r3, r4⟩ := hR
  have k1 := hK _ _ _ _ _ hk (ads ++ tl) T1.heap (locs ++ Lc) la I2 ⟨by omega, by omega, by omega, by omega⟩
  rw [hc1, hc2, show g.1.length + mc - n0 = g.1.length - n0 + mc by omega, show xsl g.1 + ms - s0 = xsl g.1 - s0 + ms by omega] at k1
  obtain ⟨t2, a1, b1⟩ := k1 T1 rfl X1
  refine ⟨t2, stp t2 ?_, b1⟩
  rw [List.map_append, ymap_app (l := rest) (by rw [hl1]; exact I.2.2.1)] at a1
  have e3 : (r.map (ycv b (ads ++ tl))).toList = r.toList.map (ycv b (ads ++ tl)) := by cases r <;> rfl
  rw [e3]
  exact a1
theorem yPre (F : yF p s m args meth c T D cI cZ cS b L xs A) (I : yI D cI cZ cS b L xs z0 A s.heap T.1.2.2.1 ls rest g w ads H locs la) {av : List xV} : ∀ U : State, U.heap = H → s.WarmedH U.vm → yPc D cI cZ cS b L xs av g w ads H.size (av.map (ycv b ads)).toArray U := by
  obtain ⟨hx, hb, hml, hr, hlk, hown, hnm, hts, hN, hKK, hX, hbl, hbA, hA⟩ := F
  intro U hU hW
  have hS := I.2.2.2.2.2.1
  refine ⟨rfl, by rw [hU], by rw [hU]; exact I.2.2.2.1, va_K.moved hW.alike hKK, I.2.2.2.2.1.weaken (fun _ _ _ _ => trivial), yN.moved hW hN, ?_, Nat.lt_of_lt_of_le hbl hS.1, fun z => hbA (yads I.2.2.2.2.1 z)⟩
  rw [hU]
  exact va_X.moved hW.alike (hX.kept (hS.2.1 b hbl hbA))
theorem yroom {rest : List xV} (h : rest.length ≤ 4) : ((rest.map (ycv b ads)).map fun v => v.category).sum ≤ 8 := by
  have key : ∀ l : List xV, ((l.map (ycv b ads)).map fun v => v.category).sum ≤ 2 * l.length := by
    intro l
    induction l with
    | nil => simp
    | cons v l ih =>
      have h1 : (ycv b ads v).category ≤ 2 := by rcases lv_cat (ycv b ads v) with q | q <;> omega
      simp only [List.map_cons, List.sum_cons, List.length_cons]
      omega
  have := key rest
  omega
/-- a stack, cut into a call's values and the rest -/
theorem ycut {n : Nat} (h : xfit st n = true) : st = (st.take n).reverse.reverse ++ st.drop n ∧ (st.take n).reverse.length = n ∧ (st.drop n).length ≤ 4 := by
  unfold xfit at h
  rw [Bool.and_eq_true] at h
  have h1 := Nat.le_of_ble_eq_true h.1
  have h2 := Nat.le_of_ble_eq_true h.2
  refine ⟨by rw [List.reverse_reverse, List.take_append_drop], by simp; omega, by simp; omega⟩
end YC
