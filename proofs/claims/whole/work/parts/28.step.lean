/-! ===== a step, a method, calls d deep ===== -/
/-- a row of a method's table fits the code and the tables -/
def yEn (MT : List xTb) (T : xTb) (pc : Nat) (e : xE) : Prop := (∃ k, decode T.1.2.1 pc = .ok (e.1, k) ∧ ((∃ d lo hi os, e.1 = .tableswitch d lo hi os) ∨ k = xln e.1)) ∧ yE1 T.2.2.1 pc e ∧ match e.1 with
  | .getfield i => yFl T.2.2.1 i e.2.1 e.2.2.1 false
  | .putfield i => yFl T.2.2.1 i e.2.1 e.2.2.1 true ∧ ((∃ Rn Tt N ty, yCl e.2.1 Rn Tt N ty ∧ (Tt e.2.2.1).2.2.2 = true) → T.1.1.name = "<init>")
  | .new i => ∃ (Rn : String) (Tt : u_T) (N : Nat) (ty : Nat → FieldType), yCl e.2.1 Rn Tt N ty ∧ e.2.1 < 8 ∧ Jvm.Cond.classLink T.2.2.1 i Rn ∈ ygw ∧ Jvm.Cond.instantiable Rn N ∈ ygw ∧ Jvm.Cond.initialized Rn ∈ ygw
  | .anewarray i => Jvm.Cond.classLink T.2.2.1 i "FirstFelt$State" ∈ ygw
  | .invokevirtual i => ∃ np T2, yMl MT T.2.2.1 i e.2.1 np T2 ∧ (e.2.2.2.2 ≠ 2 → T2.2.1 = (0, 0)) ∧ np + 1 = e.2.2.1 ∧ Jvm.Cond.instanceMethod T2.1.1 ∈ ygw ∧ Jvm.Cond.selects T2.1.1.cls T2.1.1 T2.1.1 ∈ ygw ∧ ∃ q, vwCl[e.2.2.2.1]? = some (T2.1.1.cls, q)
  | .invokespecial i => (e.2.2.2.2 = 3 ∧ Jvm.Cond.methodLink T.2.2.1 i Lib.objectInit ∈ ygw ∧ Jvm.Cond.instanceMethod Lib.objectInit ∈ ygw ∧ Jvm.Cond.code Lib.objectInit ⟨#[0xb1]⟩ 1 none ∈ ygw) ∨ (e.2.2.2.2 ≠ 3 ∧ ∃ np T2, yMl MT T.2.2.1 i e.2.1 np T2 ∧ (e.2.2.2.2 ≠ 2 → T2.2.1 = (0, 0)) ∧ np + 1 = e.2.2.1 ∧ Jvm.Cond.instanceMethod T2.1.1 ∈ ygw ∧ T2.1.1.name = "<init>" ∧ T2.1.2.2.2 = none)
  | .invokestatic i => (e.2.2.2.2 = 4 ∧ Jvm.Cond.methodLink T.2.2.1 i arraycopyName ∈ ygw ∧ Jvm.Cond.native arraycopyName ∈ ygw ∧ Jvm.Cond.static arraycopyName ∈ ygw ∧ Jvm.Cond.initialized "java/lang/System" ∈ ygw) ∨ (e.2.2.2.2 = 5 ∧ Jvm.Cond.methodLink T.2.2.1 i Lib.Math.max.name ∈ ygw ∧ Jvm.Cond.static Lib.Math.max.name ∈ ygw ∧ Jvm.Cond.initialized "java/lang/Math" ∈ ygw ∧ Jvm.Cond.code Lib.Math.max.name Lib.Math.max.code 2 (some .int) ∈ ygw) ∨ (e.2.2.2.2 = 6 ∧ Jvm.Cond.methodLink T.2.2.1 i Lib.Math.min.name ∈ ygw ∧ Jvm.Cond.static Lib.Math.min.name ∈ ygw ∧ Jvm.Cond.initialized "java/lang/Math" ∈ ygw ∧ Jvm.Cond.code Lib.Math.min.name Lib.Math.min.code 2 (some .int) ∈ ygw) ∨ ((e.2.2.2.2 ≠ 4 ∧ e.2.2.2.2 ≠ 5 ∧ e.2.2.2.2 ≠ 6) ∧ ∃ T2, yMl MT T.2.2.1 i e.2.1 e.2.2.1 T2 ∧ (e.2.2.2.2 ≠ 2 → T2.2.1 = (0, 0)) ∧ Jvm.Cond.static T2.1.1 ∈ ygw)
  | .ireturn => (T.2.2.2.1 = true ∧ T.1.2.2.2 = some .boolean) ∨ (T.2.2.2.1 = false ∧ T.1.2.2.2 = some .int)
  | .return_ => T.1.2.2.2 = none
  | _ => True
section YT
variable {p : Program} {l : Launch} {e : Env} {R : Room} {s : State} {m : MethodId} {args : Array Value} {below : List Frame} {meth : Method} {c : Code} {Q : State → Prop} {D : va_G} {cI cZ cS : ClassId} {b L : Nat} {xs : Nat → Int32} {z0 : List Nat} {A : Nat → Prop} {n0 s0 : Nat} {T T2 : xTb}
variable {H : Heap} {locs : List Loc} {la : Array Slot} {ads : List Nat} {pc d : Nat} {ls st rest av : List xV} {g : xG} {w : xW} {K : xK} {C : xC} {MT : List xTb} {mks : List (Nat × Nat × Nat)} {Qx : xQ}
/-- what the walk's end does with a number, with nothing -/
def yRet (p : Program) (l : Launch) (e : Env) (R : Room) (s : State) (m : MethodId) (args : Array Value) (below : List Frame) (meth : Method) (c : Code) (Q : State → Prop) (D : va_G) (cI cZ cS : ClassId) (b L : Nat) (xs : Nat → Int32) (z0 : List Nat) (A : Nat → Prop) (T : xTb) (n0 s0 : Nat) (Qx : xQ) : Prop :=
  (∀ (pc : Nat) (ls : List xV) (g : xG) (w : xW) (v : Int), decode T.1.2.1 pc = .ok (.ireturn, 1) → ((T.2.2.2.1 = true ∧ T.1.2.2.2 = some .boolean ∧ (v = 0 ∨ v = 1)) ∨ T.1.2.2.2 = some .int) → Qx (some (xi v)) g w → yP p l e R s m args below meth c Q D cI cZ cS b L xs z0 A T.1.2.2.1 n0 s0 pc ls [xi v] g w) ∧
  (∀ (pc : Nat) (ls : List xV) (g : xG) (w : xW), decode T.1.2.1 pc = .ok (.return_, 1) → T.1.2.2.2 = none → Qx none g w → yP p l e R s m args below meth c Q D cI cZ cS b L xs z0 A T.1.2.2.1 n0 s0 pc ls [] g w)
set_option maxHeartbeats 4000000 in
theorem yins (F : yF p s m args meth c T D cI cZ cS b L xs A) (hK : ∀ pc ls st g w, K pc ls st g w → yP p l e R s m args below meth c Q D cI cZ cS b L xs z0 A T.1.2.2.1 n0 s0 pc ls st g w) (hC : xCm C) (hMet : yMet l MT d C) (hmk : xmk mks = fun mi => match MT[mi]? with | some T2 => T2.2.1 | none => (0, 0)) (hRd : d + 1 ≤ R.frames ∧ 100 * (d + 1) ≤ R.locals) (hret : yRet p l e R s m args below meth c Q D cI cZ cS b L xs z0 A T n0 s0 Qx)
    {ie : xE} (hE : yEn MT T pc ie) (h : xsem C (n0 + R.cells, s0 + R.slots) mks Qx T.2.2.2.1 ie pc ls st g w K) : yP p l e R s m args below meth c Q D cI cZ cS b L xs z0 A T.1.2.2.1 n0 s0 pc ls st g w := by
  obtain ⟨hd, hE1, hE2⟩ := hE
  by_cases hy : y1 ie.1 = true
  · exact yins1 F hK hd hE1 hy h
  · obtain ⟨ins, ie⟩ := ie
    obtain ⟨k, hd, hk⟩ := hd
    have hd2 : (∀ d lo hi os, ins ≠ .tableswitch d lo hi os) → decode T.1.2.1 pc = .ok (ins, xln ins) := fun hn => by
      rcases hk with ⟨d, lo, hi, os, q⟩ | q
      · exact absurd q (hn d lo hi os)
      · rw [hd, q]
    have hR1 : 1 ≤ R.frames ∧ 100 ≤ R.locals := ⟨by omega, by omega⟩
    cases ins
    case getfield i => exact yi_getfield F hK (hd2 (by intros; simp)) hE2 h
    case putfield i => exact yi_putfield F hK (hd2 (by intros; simp)) hE2.1 hE2.2 h
    case iaload => exact yi_iaload F hK (hd2 (by intros; simp)) h
    case baload => exact yi_baload F hK (hd2 (by intros; simp)) h
    case aaload => exact yi_aaload F hK (hd2 (by intros; simp)) h
    case iastore => exact yi_iastore F hK (hd2 (by intros; simp)) h
    case bastore => exact yi_bastore F hK (hd2 (by intros; simp)) h
    case aastore => exact yi_aastore F hK (hd2 (by intros; simp)) h
    case arraylength => exact yi_arraylength F hK (hd2 (by intros; simp)) h
    case new i => exact yi_new F hK (hd2 (by intros; simp)) hE2 h
    case newarray t =>
      cases t
      case int => exact yi_newarrayI F hK (hd2 (by intros; simp)) h
      case boolean => exact yi_newarrayZ F hK (hd2 (by intros; simp)) h
      all_goals exact h.elim
    case anewarray i => exact yi_anewarray F hK (hd2 (by intros; simp)) hE2 h
    case invokevirtual i =>
      obtain ⟨np, T2, e1, e2, e3, e4⟩ := hE2
      exact yi_virtual F hK hC hMet hmk hRd (hd2 (by intros; simp)) e1 e2 e3 e4 h
    case invokespecial i =>
      have h : xspc C (n0 + R.cells, s0 + R.slots) mks ie pc ls st g w K := h
      unfold xspc at h
      rcases hE2 with ⟨q, e1⟩ | ⟨q, np, T2, e1, e2, e3, e4⟩
      · have q : ie.2.2.2 = 3 := q
        simp only [q] at h
        exact yi_objInit F hK hR1 (hd2 (by intros; simp)) e1 h
      · split at h
        · rename_i z
          exact absurd z q
        · exact yi_special F hK hC hMet hmk hRd (hd2 (by intros; simp)) e1 e2 e3 e4 h
    case invokestatic i =>
      have h : xsta C (n0 + R.cells, s0 + R.slots) mks ie pc ls st g w K := h
      unfold xsta at h
      rcases hE2 with ⟨q, e1⟩ | ⟨q, e1⟩ | ⟨q, e1⟩ | ⟨q, T2, e1, e2, e4⟩
      · have q : ie.2.2.2 = 4 := q
        simp only [q] at h
        exact yi_arraycopy F hK hR1 (hd2 (by intros; simp)) e1 h
      · have q : ie.2.2.2 = 5 := q
        simp only [q] at h
        exact yi_mmax F hK hR1 (hd2 (by intros; simp)) e1 h
      · have q : ie.2.2.2 = 6 := q
        simp only [q] at h
        exact yi_mmin F hK hR1 (hd2 (by intros; simp)) e1 h
      · split at h
        · rename_i z
          exact absurd z q.1
        · rename_i z
          exact absurd z q.2.1
        · rename_i z
          exact absurd z q.2.2
        · split at h
          · rename_i z
            exact yi_static F hK hC hMet hmk hRd (hd2 (by intros; simp)) e1 e2 e4 ⟨z, h⟩
          · exact h.elim
    case ireturn =>
      have h : xiret T.2.2.2.1 st (fun v => Qx (some (xi v)) g w) := h
      unfold xiret at h
      obtain ⟨v, r, rfl, h⟩ := yu h
      cases r with
      | cons _ _ => exact h.elim
      | nil =>
        refine hret.1 pc ls g w v (hd2 (by intros; simp)) ?_ ?_
        · rcases hE2 with q | q
          · rw [q.1] at h
            exact Or.inl ⟨q.1, q.2, h.1⟩
          · exact Or.inr q.2
        · rcases hE2 with q | q
          · rw [q.1] at h
            exact h.2
          · rw [q.1] at h
            exact h
    case return_ =>
      cases st with
      | cons _ _ => exact h.elim
      | nil => exact hret.2 pc ls g w (hd2 (by intros; simp)) hE2 h
    all_goals exact absurd rfl hy
theorem ymask (ks : List Bool) : ∀ (ls : List xV) (ks : List Bool), (xmask ks ls).length = ls.length ∧ ∀ (i : Nat) (v : Int ⊕ Int ⊕ Nat), (xmask ks ls)[i]? = some (some v) → ls[i]? = some (some v)
  | [], ks => by cases ks <;> exact ⟨rfl, fun i v h => h⟩
  | u :: ls, [] => ⟨rfl, fun i v h => h⟩
  | u :: ls, k :: ks => by
    obtain ⟨h1, h2⟩ := ymask ks ls ks
    refine ⟨by simp [xmask, h1], fun i v h => ?_⟩
    cases i with
    | zero =>
      cases k
      · simp [xmask] at h
      · simpa [xmask] using h
    | succ i => exact h2 i v (by simpa [xmask] using h)
theorem ymask_ok (n : Nat) : ∀ (ls : List xV) (ks : List Bool), (∀ v ∈ ls, yok n v) → ∀ v ∈ xmask ks ls, yok n v
  | [], ks => by cases ks <;> exact fun h => h
  | u :: ls, [] => fun h => h
  | u :: ls, k :: ks => fun h v hv => by
    rcases List.mem_cons.mp hv with q | q
    · cases k
      · rw [q]; trivial
      · rw [q]; exact h u List.mem_cons_self
    · exact ymask_ok n ls ks (fun v hv => h v (List.mem_cons_of_mem _ hv)) v q
/-- a method's table fits -/
def yTok (MT : List xTb) (T : xTb) : Prop := (∀ pc e, xfind pc T.2.2.2.2 = some e → yEn MT T pc e) ∧ T.2.2.1 = T.1.1.cls ∧ Jvm.plainName T.1.1.cls = true
theorem yAt (F : yF p s m args meth c T D cI cZ cS b L xs A) (hT : ∀ pc e, xfind pc T.2.2.2.2 = some e → yEn MT T pc e) (hC : xCm C) (hMet : yMet l MT d C) (hmk : xmk mks = fun mi => match MT[mi]? with | some T2 => T2.2.1 | none => (0, 0)) (hRd : d + 1 ≤ R.frames ∧ 100 * (d + 1) ≤ R.locals) (hret : yRet p l e R s m args below meth c Q D cI cZ cS b L xs z0 A T n0 s0 Qx) (h : xAt mks T C (n0 + R.cells, s0 + R.slots) Qx pc ls st g w) : yP p l e R s m args below meth c Q D cI cZ cS b L xs z0 A T.1.2.2.1 n0 s0 pc ls st g w := by
  refine h _ (fun pc ls st g w h => ?_) (fun ks pc ls st g w h => ?_)
  · unfold xstep at h
    split at h
    · rename_i e1 he
      exact yins F (fun _ _ _ _ _ h => h) hC hMet hmk hRd hret (hT pc e1 he) h
    · exact h.elim
  · intro ads H locs la I hR
    obtain ⟨m1, m2⟩ := ymask ks ls ks
    refine h ads H locs la ⟨I.1, ymask_ok _ ls ks I.2.1, I.2.2.1, I.2.2.2.1, I.2.2.2.2.1, I.2.2.2.2.2.1, I.2.2.2.2.2.2.1, by rw [m1]; exact I.2.2.2.2.2.2.2.1, I.2.2.2.2.2.2.2.2.1, fun i v hv => I.2.2.2.2.2.2.2.2.2 i v (m2 i v hv)⟩ hR
end YT
theorem yargs {b : Nat} {ads : List Nat} : ∀ av : List xV, (lg_sl (av.map (ycv b ads))).length = (xargs av).length ∧ ∀ (i : Nat) (v : Int ⊕ Int ⊕ Nat), (xargs av)[i]? = some (some v) → (lg_sl (av.map (ycv b ads)))[i]? = some (.val (ycv b ads (some v)))
  | [] => ⟨rfl, fun i v h => by simp [xargs] at h⟩
  | u :: av => by
    obtain ⟨h1, h2⟩ := yargs (b := b) (ads := ads) av
    have hc : (∃ x, u = xl x) ∨ ((ycv b ads u).category = 1 ∧ xargs (u :: av) = u :: xargs av) := by
      rcases u with _ | (x | x | x)
      · exact Or.inr ⟨rfl, rfl⟩
      · exact Or.inr ⟨rfl, rfl⟩
      · exact Or.inl ⟨x, rfl⟩
      · exact Or.inr ⟨yrf_cat x, rfl⟩
    rcases hc with ⟨x, rfl⟩ | ⟨hc, hx⟩
    · have e1 : lg_sl ((xl x :: av).map (ycv b ads)) = .val (ycv b ads (xl x)) :: .second :: lg_sl (av.map (ycv b ads)) := rfl
      have e2 : xargs (xl x :: av) = xl x :: none :: xargs av := rfl
      rw [e1, e2]
      refine ⟨by simp [h1], fun i v h => ?_⟩
      match i with
      | 0 => simp at h; subst h; rfl
      | 1 => simp at h
      | i + 2 => simpa using h2 i v (by simpa using h)
    · have e1 : lg_sl ((u :: av).map (ycv b ads)) = .val (ycv b ads u) :: lg_sl (av.map (ycv b ads)) := by
        unfold lg_sl
        rw [List.map_cons, List.flatMap_cons, if_neg (by omega)]; rfl
      rw [e1, hx]
      refine ⟨by simp [h1], fun i v h => ?_⟩
      match i with
      | 0 => simp at h; subst h; rfl
      | i + 1 => simpa using h2 i v (by simpa using h)
theorem yargs_ok {n : Nat} : ∀ av : List xV, (∀ v ∈ av, yok n v) → ∀ v ∈ xargs av, yok n v
  | [], _ => fun v h => by cases h
  | u :: av, h => by
    have ih := yargs_ok av (fun v hv => h v (List.mem_cons_of_mem _ hv))
    have h0 := h u List.mem_cons_self
    rcases u with _ | (x | x | x) <;> intro v hv
    · rcases List.mem_cons.mp hv with q | q
      · rw [q]; trivial
      · exact ih v q
    · rcases List.mem_cons.mp hv with q | q
      · rw [q]; exact h0
      · exact ih v q
    · rcases List.mem_cons.mp hv with q | q
      · rw [q]; exact h0
      · rcases List.mem_cons.mp q with q | q
        · rw [q]; trivial
        · exact ih v q
    · rcases List.mem_cons.mp hv with q | q
      · rw [q]; exact h0
      · exact ih v q
theorem yLs_entry {b : Nat} {ads : List Nat} {av : List xV} {nL : Nat} (h : (xargs av).length ≤ nL) : yLs b ads nL (xpad nL (xargs av)) ((lg_sl (av.map (ycv b ads)) ++ List.replicate (nL - (lg_sl (av.map (ycv b ads))).length) Slot.unset).toArray) := by
  obtain ⟨h1, h2⟩ := yargs (b := b) (ads := ads) av
  obtain ⟨q1, q2, -⟩ := lv_entry (av.map (ycv b ads)) (n := nL) (by omega)
  refine ⟨q1, by unfold xpad; simp; omega, q2, fun i v hv => ?_⟩
  unfold xpad at hv
  have hi : i < (xargs av).length := by
    rcases Nat.lt_or_ge i (xargs av).length with z | z
    · exact z
    · rw [List.getElem?_append_right z, List.getElem?_replicate] at hv
      split at hv
      · cases hv
      · cases hv
  rw [List.getElem?_append_left hi] at hv
  have h3 := h2 i v hv
  simp only [List.getElem?_toArray]
  rw [List.getElem?_append_left (by omega)]
  exact h3
