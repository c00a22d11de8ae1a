/-! THE CLAIM OUT OF ONE WALK OF THE LAW'S BODY. Your part is whole_start (and what it stands on); all else here is the same for every law, but numbers. -/
def R_law : String := "FirstFeltLaw"
def lw_P (b : Addr) (xs : List Int32) (args : Array Value) (s : State) : Prop := args = #[.ref b] ∧ s.IntsAt b xs ∧ xs.length ≤ 384 ∧ (Jvm.Cond.and given_1 narrow_1).before args s = true
def lw_Q (_ : Array Value) (s : State) (o : Outcome) (t : State) : Prop := o = .returned (some (.int 1)) ∧ Framed s o t [] 600000 7302250
def lw_Z (below : List Frame) (a : Array Value) (s : State) : State → Prop := fun t => ∃ o, t.status = .running ∧ Ended t below o ∧ lw_Q a s o t
/-- the law's own end, with 1 on the stack, nothing written that was there before, its room as the claim has it -/
theorem lw_ret {p : Program} {l : Launch} {e : Env} {s : State} {m : MethodId} {below : List Frame} {meth : Method} {c : Code} {b : Nat} (hx : p.tables.exec = Jvm.exec) (hb : c.code = code) (hr : meth.sig.returnType = ret) (hlocks : meth.locks = false) {pc : Nat} {H : Heap} {ls : Array Slot} (hdg : decode code pc = .ok (.ireturn, 1)) : W p l e room_1 s m #[Value.ref b] below meth c H [] 600000 7302250 (lw_Z below #[Value.ref b] s) (F0 m pc ls [.int 1]) := by
  intro T hT X
  obtain ⟨fs, hret, hrun, hended, hW, hframe⟩ := X.leave (v := some (.int 1)) (hlocks := hlocks) (fun h => by rw [hr] at h; cases h)
  have hmeth' : T.vm.method? m = some meth := X.method'
  refine ⟨T.setFrames fs, ?_, .returned (some (.int 1)), hrun, hended, rfl, ⟨_, rfl⟩, hW, hframe⟩
  jvm_step X.here [X.here.top, hx, hb, hdg, hmeth', hr, ret, narrow_b1]
  (try refine ⟨rfl, ?_⟩); (try refine ⟨rfl, ?_⟩)
  first | (intro acts; rw [hret _ acts rfl rfl rfl]) | rw [hret _ _ rfl rfl rfl]
  exact Steps.refl _
/-- what holds at the law's entry: the machine, the code, the tables' words (any of lw_tbl by 'hts w (by decide +kernel)'), the script of L ints xs at the cell b, what the Statement gives of the start (any of its parts by flat_of_before) -/
def lw_At (p : Program) (s : State) (m : MethodId) (meth : Method) (c : Code) (b L : Nat) (xs : Nat → Int32) : Prop :=
  p.tables.exec = Jvm.exec ∧ c.code = code ∧ meth.sig.returnType = ret ∧ c.maxLocals = 4 ∧ s.vm.findClass R_law = some m.cls ∧ (∀ w ∈ lw_tbl, w.before #[Value.ref b] s = true) ∧ va_X b L xs s s.heap ∧ b < s.heap.size ∧ meth.locks = false ∧ (Jvm.Cond.and given_1 narrow_1).before #[Value.ref b] s = true
/-! ===== the law's start, out of the abstract machine ===== -/
def yg0 (L : Nat) : xG := ([(4, L)], fun _ _ => 0)
def yw0 (L : Nat) (xs : Nat → Int32) : xW := fun a j => if a = 1 ∧ j < L then (xs j).toInt else 0
theorem yN_of {A : Array Value} {s : State} (hts : ∀ w ∈ lw_tbl, w.before A s = true) : yN s := by
  intro w hw
  have h1 := hts w (List.mem_filter.mp hw).1
  have h2 := (List.mem_filter.mp hw).2
  cases w with
  | fieldLinkNest => exact va_Nw.of rfl h1
  | methodLinkNest => exact va_Nw.of rfl h1
  | arrayOver t =>
    cases t with
    | object C => exact va_AO.of h1
    | _ => exact absurd h2 (by simp [ynest])
  | _ => exact absurd h2 (by simp [ynest])
theorem ystart {p : Program} {e : Env} {s : State} {m : MethodId} {below : List Frame} {meth : Method} {c : Code} (l : Launch) {b L : Nat} {xs : Nat → Int32} (hL : L ≤ 384) (C0 : lw_At p s m meth c b L xs) (d : Nat) (hd : d ≤ 800)
    (h : xAt xMks tLw_law (cal d) (1 + 600000, L + 7302250) (fun r _ _ => r = some (xi 1)) 0 [xr 1, none, none, none] [] (yg0 L) (yw0 L xs)) :
    W p l e room_1 s m #[Value.ref b] below meth c s.heap [] 0 0 (lw_Z below #[Value.ref b] s) (entryFrame m ([Value.ref b] : List Value).toArray 4) := by
  obtain ⟨hx, hb, hr, hml, hown, hts, hX, hbl, hlocks, hgv⟩ := C0
  have htg : ∀ w ∈ ygw, w.before #[Value.ref b] s = true := fun w hw => hts w (List.mem_filter.mp hw).1
  have hN : yN s := yN_of hts
  obtain ⟨c0, i0, hn0⟩ := u_known (C := RX0) (T := TX0) (N := 1) (n := 1) htg yCl_0.2.2.1 (hts (.instantiable RX0 1) (by decide +kernel))
  obtain ⟨c1, i1, hn1⟩ := u_known (C := RX1) (T := TX1) (N := 4) (n := 4) htg yCl_1.2.2.1 (hts (.instantiable RX1 4) (by decide +kernel))
  obtain ⟨c2, i2, hn2⟩ := u_known (C := RX2) (T := TX2) (N := 9) (n := 9) htg yCl_2.2.2.1 (hts (.instantiable RX2 9) (by decide +kernel))
  obtain ⟨c3, i3, hn3⟩ := u_known (C := RX3) (T := TX3) (N := 18) (n := 18) htg yCl_3.2.2.1 (hts (.instantiable RX3 18) (by decide +kernel))
  obtain ⟨c4, i4, hn4⟩ := u_known (C := RX4) (T := TX4) (N := 7) (n := 7) htg yCl_4.2.2.1 (hts (.instantiable RX4 7) (by decide +kernel))
  obtain ⟨c5, i5, hn5⟩ := u_known (C := RX5) (T := TX5) (N := 13) (n := 13) htg yCl_5.2.2.1 (hts (.instantiable RX5 13) (by decide +kernel))
  obtain ⟨c6, i6, hn6⟩ := u_known (C := RX6) (T := TX6) (N := 13) (n := 13) htg yCl_6.2.2.1 (hts (.instantiable RX6 13) (by decide +kernel))
  obtain ⟨c7, i7, hn7⟩ := u_known (C := RX7) (T := TX7) (N := 52) (n := 52) htg yCl_7.2.2.1 (hts (.instantiable RX7 52) (by decide +kernel))
  obtain ⟨dC, dI, hKc⟩ : ∃ (dC : Nat → ClassId) (dI : Nat → Nat → Nat), ∀ (k : Nat) (q : vw_C), vwCl[k]? = some q → u_Kn s q.1 q.2.1 q.2.2 (dC k) (dI k) := by
    refine ⟨fun k => match k with | 0 => c0 | 1 => c1 | 2 => c2 | 3 => c3 | 4 => c4 | 5 => c5 | 6 => c6 | _ => c7, fun k => match k with | 0 => i0 | 1 => i1 | 2 => i2 | 3 => i3 | 4 => i4 | 5 => i5 | 6 => i6 | _ => i7, ?_⟩
    intro k q hq
    match k, hq with
    | 0, hq => cases hq; exact hn0
    | 1, hq => cases hq; exact hn1
    | 2, hq => cases hq; exact hn2
    | 3, hq => cases hq; exact hn3
    | 4, hq => cases hq; exact hn4
    | 5, hq => cases hq; exact hn5
    | 6, hq => cases hq; exact hn6
    | 7, hq => cases hq; exact hn7
    | k + 8, hq => simp [vwCl] at hq
  obtain ⟨cI, kI, compI, a1, a2, a3⟩ := Cond.arrayClass_spec (htg _ yAC_I)
  obtain ⟨cZ, kZ, compZ, z1, z2, z3⟩ := Cond.arrayClass_spec (htg _ yAC_Z)
  obtain ⟨comp, cS, kS, s1, -, s2, s3, s4⟩ := Cond.arrayOver_spec (hN _ yAC_S)
  have hKK : va_K (dC, dI) vwCl (yty cI cZ cS) s := by
    refine ⟨hKc, fun k q hq => ?_⟩
    match k, hq with
    | 0, hq => cases hq; exact ⟨fun n z => ⟨fun k h => (by cases h), kI, a2, compI, a3⟩, a1⟩
    | 1, hq => cases hq; exact ⟨fun n z => ⟨fun k h => (by cases h), kZ, z2, compZ, z3⟩, z1⟩
    | 2, hq => cases hq; exact ⟨fun n z => ⟨fun k h => (by cases h), kS, s2, comp, s3⟩, kS, comp, s2, s3, s1, s4⟩
    | k + 3, hq => simp [yty] at hq
  have hbA : ¬ (fun q : Nat => s.heap.size ≤ q) b := Nat.not_le.mpr hbl
  have F : yF p s m #[Value.ref b] meth c tLw_law (dC, dI) cI cZ cS b L xs (fun q : Nat => s.heap.size ≤ q) := ⟨hx, hb, hml, hr, hlocks, hown, ?_, htg, hN, hKK, hX, hbl, hbA, fun _ h => h⟩
  · have hret : yRet p l e room_1 s m #[Value.ref b] below meth c (lw_Z below #[Value.ref b] s) (dC, dI) cI cZ cS b L xs [] (fun q : Nat => s.heap.size ≤ q) tLw_law 1 L (fun r _ _ => r = some (xi 1)) := by
      constructor
      · intro pc ls g w v hdc hty hq ads H locs la I hR
        cases hq
        refine va_forget (fun q hq => I.2.2.2.2.2.1.2.2 q hq) ?_
        obtain ⟨r1, r2, r3, r4⟩ := hR
        have r3 : g.1.length ≤ 1 + 600000 := r3
        have r4 : xsl g.1 ≤ L + 7302250 := r4
        refine W.widen (k := 600000) (n := 7302250) (by omega) (by omega) ?_
        exact lw_ret hx hb hr hlocks hdc
      · intro pc ls g w hdc hty hq
        cases hq
    rw [lg_entry_eq]
    have k := yAt (l := l) (e := e) (below := below) (R := room_1) (z0 := []) (n0 := 1) (s0 := L) F k2Lw_law (cal_m d) (ymet l xMT_ok xMk_ok d) xMk_ok ⟨by show d + 1 ≤ 2048; omega, by show 100 * (d + 1) ≤ 84000; omega⟩ hret h [] s.heap [] _ ⟨⟨rfl, ⟨rfl, hL, List.prefix_refl _⟩, fun j hj => ?_, fun i q hq => ?_, fun a k => ?_, fun a k => Nat.zero_le _, fun a k ha => ⟨?_, rfl⟩⟩, fun v hv => ?_, fun v hv => (by cases hv), fun k q hq => (by simp [yws] at hq), ⟨fun i j p q hp => (by simp [yws] at hp), fun k q hq => (by simp [yws] at hq)⟩, va_S.rf, yLs_entry (av := [xr 1]) (nL := 4) (by decide)⟩ ⟨Nat.le_refl 1, by show L ≤ xsl [(4, L)]; simp [xsl, xsz], by show 1 ≤ 1 + 600000; omega, by show xsl [(4, L)] ≤ L + 7302250; simp [xsl, xsz]⟩
    · have e1 : (yg0 L).1.length - 1 = 0 := rfl
      have e2 : xsl (yg0 L).1 - L = 0 := by simp [yg0, xsl, xsz]
      rw [e1, e2] at k
      exact k
    · show yw0 L xs 1 j = _
      unfold yw0
      rw [if_pos ⟨rfl, hj⟩]
    · simp [yg0] at hq
    · show x32 (yw0 L xs a k)
      unfold yw0
      split
      · exact y32r _
      · decide
    · show yw0 L xs a k = 0
      have ha : 1 < a := ha
      unfold yw0
      rw [if_neg (by omega)]
    · rcases List.mem_cons.mp hv with q | q
      · rw [q]
        show 1 ≤ 1
        omega
      · have hv2 : v = none := by simpa using q
        rw [hv2]; trivial
  · intro h
    exact absurd h (by decide)
