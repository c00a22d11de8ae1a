/-! ===== the abstract machine is sound: what it promises of an instruction, the machine does ===== -/
def ygw : List Jvm.Cond := lw_tbl.filter goodWord
def ynest (w : Jvm.Cond) : Bool := match w with
  | .fieldLinkNest .. => true
  | .methodLinkNest .. => true
  | .arrayOver (.object _) => true
  | _ => false
def ynw : List Jvm.Cond := lw_tbl.filter ynest
def yN (U : State) : Prop := ∀ w ∈ ynw, va_Nw w U
theorem yN.moved {s U : State} (hW : s.WarmedH U.vm) (h : yN s) : yN U := by
  intro w hw
  have h1 := h w hw
  have h2 := (List.mem_filter.mp hw).2
  cases w with
  | fieldLinkNest => exact va_Nw.warmF hW h1
  | methodLinkNest => exact va_Nw.warmM hW h1
  | arrayOver t =>
    cases t with
    | object C => exact va_AO.moved hW.alike h1
    | _ => exact absurd h2 (by simp [ynest])
  | _ => exact absurd h2 (by simp [ynest])
theorem yN.same {s U : State} (hW : s.vm = U.vm) (h : yN s) : yN U := by
  intro w hw
  have h1 := h w hw
  have h2 := (List.mem_filter.mp hw).2
  cases w with
  | fieldLinkNest => exact va_Nw.same rfl hW h1
  | methodLinkNest => exact va_Nw.same rfl hW h1
  | arrayOver t =>
    cases t with
    | object C => exact va_AO.moved (by rw [hW]; exact Vm.Alike.refl _) h1
    | _ => exact absurd h2 (by simp [ynest])
  | _ => exact absurd h2 (by simp [ynest])
abbrev yty (cI cZ cS : ClassId) : List (ClassId × FieldType) := [(cI, .int), (cZ, .boolean), (cS, .object "FirstFelt$State")]
/-- what stays the same while a method runs -/
def yF (p : Program) (s : State) (m : MethodId) (args : Array Value) (meth : Method) (c : Code) (T : xTb) (D : va_G) (cI cZ cS : ClassId) (b L : Nat) (xs : Nat → Int32) (A : Nat → Prop) : Prop :=
  p.tables.exec = Jvm.exec ∧ c.code = T.1.2.1 ∧ c.maxLocals = T.1.2.2.1 ∧ meth.sig.returnType = T.1.2.2.2 ∧ meth.locks = false ∧ s.vm.findClass T.2.2.1 = some m.cls ∧ (T.1.1.name = "<init>" → meth.name = "<init>") ∧ (∀ w ∈ ygw, w.before args s = true) ∧ yN s ∧ va_K D vwCl (yty cI cZ cS) s ∧ va_X b L xs s s.heap ∧ b < s.heap.size ∧ ¬ A b ∧ ∀ q, s.heap.size ≤ q → A q
/-- what holds between two instructions -/
def yI (D : va_G) (cI cZ cS : ClassId) (b L : Nat) (xs : Nat → Int32) (z0 : List Nat) (A : Nat → Prop) (H0 : Heap) (nL : Nat) (ls st : List xV) (g : xG) (w : xW) (ads : List Nat) (H : Heap) (locs : List Loc) (la : Array Slot) : Prop :=
  yHp L xs z0 ads g w ∧ (∀ v ∈ ls, yok g.1.length v) ∧ (∀ v ∈ st, yok g.1.length v) ∧ va_P D vwCl (yws cI cZ cS b ads g w) H ∧ va_D A (yws cI cZ cS b ads g w) ∧ va_S A H0 H locs ∧ yLs b ads nL ls la
/-- the room: cells and slots made since the method began -/
def yR (R : Room) (n0 s0 : Nat) (g : xG) : Prop := n0 ≤ g.1.length ∧ s0 ≤ xsl g.1 ∧ g.1.length ≤ n0 + R.cells ∧ xsl g.1 ≤ s0 + R.slots
def yP (p : Program) (l : Launch) (e : Env) (R : Room) (s : State) (m : MethodId) (args : Array Value) (below : List Frame) (meth : Method) (c : Code) (Q : State → Prop) (D : va_G) (cI cZ cS : ClassId) (b L : Nat) (xs : Nat → Int32) (z0 : List Nat) (A : Nat → Prop) (nL n0 s0 : Nat) : xK := fun pc ls st g w =>
  ∀ (ads : List Nat) (H : Heap) (locs : List Loc) (la : Array Slot), yI D cI cZ cS b L xs z0 A s.heap nL ls st g w ads H locs la → yR R n0 s0 g → W p l e R s m args below meth c H locs (g.1.length - n0) (xsl g.1 - s0) Q (F0 m pc la (st.map (ycv b ads)))
section YS
variable {p : Program} {l : Launch} {e : Env} {R : Room} {s : State} {m : MethodId} {args : Array Value} {below : List Frame} {meth : Method} {c : Code} {Q : State → Prop} {D : va_G} {cI cZ cS : ClassId} {b L : Nat} {xs : Nat → Int32} {z0 : List Nat} {A : Nat → Prop} {n0 s0 : Nat} {T : xTb}
variable {H : Heap} {locs : List Loc} {la : Array Slot} {ads : List Nat} {pc : Nat} {ls st r : List xV} {g : xG} {w : xW} {nL : Nat} {H0 : Heap}
theorem yI.sk (I : yI D cI cZ cS b L xs z0 A H0 nL ls st g w ads H locs la) {st2 : List xV} (h : ∀ v ∈ st2, yok g.1.length v) : yI D cI cZ cS b L xs z0 A H0 nL ls st2 g w ads H locs la := ⟨I.1, I.2.1, h, I.2.2.2⟩
theorem yI.tl {v : xV} (I : yI D cI cZ cS b L xs z0 A H0 nL ls (v :: r) g w ads H locs la) : yI D cI cZ cS b L xs z0 A H0 nL ls r g w ads H locs la := I.sk fun u hu => I.2.2.1 u (List.mem_cons_of_mem _ hu)
theorem yI.hd {v : xV} (I : yI D cI cZ cS b L xs z0 A H0 nL ls (v :: r) g w ads H locs la) : yok g.1.length v := I.2.2.1 v List.mem_cons_self
theorem yI.push {v : xV} (I : yI D cI cZ cS b L xs z0 A H0 nL ls r g w ads H locs la) (h : yok g.1.length v) : yI D cI cZ cS b L xs z0 A H0 nL ls (v :: r) g w ads H locs la := I.sk fun u hu => by
  rcases List.mem_cons.mp hu with q | q
  · rw [q]; exact h
  · exact I.2.2.1 u q
theorem yI.loc (I : yI D cI cZ cS b L xs z0 A H0 nL ls st g w ads H locs la) {i : Nat} {v : Int ⊕ Int ⊕ Nat} (h : ls[i]? = some (some v)) : la[i]? = some (.val (ycv b ads (some v))) ∧ yok g.1.length (some v) := ⟨I.2.2.2.2.2.2.2.2.2 i v h, I.2.1 _ (List.mem_of_getElem? h)⟩
/-- the listed places of a method, as the kit has them -/
def yll (b : Nat) (ads : List Nat) (ls : List xV) : List (Nat × Value) := (List.range ls.length).filterMap fun i => match ls[i]? with
  | some (some v) => some (i, ycv b ads (some v))
  | _ => none
theorem yll_has (h : yLs b ads nL ls la) : lv_has la nL (yll b ads ls) := by
  refine ⟨h.1, h.2.2.1, fun q hq => ?_⟩
  obtain ⟨i, -, hi⟩ := List.mem_filterMap.mp hq
  split at hi
  · rename_i v hv
    cases hi
    exact h.2.2.2 i v hv
  · cases hi
theorem yll_mem {i : Nat} {v : Int ⊕ Int ⊕ Nat} (h : ls[i]? = some (some v)) : (i, ycv b ads (some v)) ∈ yll b ads ls := by
  refine List.mem_filterMap.mpr ⟨i, List.mem_range.mpr (List.getElem?_eq_some_iff.mp h).1, ?_⟩
  simp only [h]
theorem yrf_cat (a : Nat) : (yrf b ads a).category = 1 := by
  unfold yrf
  split <;> rfl
theorem yLs_set {i : Nat} {v : Int ⊕ Int ⊕ Nat} {la2 : Array Slot} (h : yLs b ads nL ls la) (hi : i < ls.length) (hn : xnl ls i = true) (h2 : lv_has la2 nL ((i, ycv b ads (some v)) :: (yll b ads ls).filter (fun q => !(q.1 == i) && !(q.1 + 1 == i && q.2.category == 2)))) : yLs b ads nL (ls.set i (some v)) la2 := by
  refine ⟨h2.1, by rw [List.length_set]; exact h.2.1, h2.2.1, fun j u hu => ?_⟩
  by_cases hj : j = i
  · subst hj
    rw [List.getElem?_set_self hi] at hu
    cases hu
    exact h2.2.2 _ List.mem_cons_self
  · rw [List.getElem?_set_ne (Ne.symm hj)] at hu
    refine h2.2.2 (j, _) (List.mem_cons_of_mem _ (List.mem_filter.mpr ⟨yll_mem hu, ?_⟩))
    simp only [Bool.and_eq_true, Bool.not_eq_true', beq_eq_false_iff_ne, ne_eq, Bool.and_eq_false_iff]
    refine ⟨hj, ?_⟩
    by_cases hji : j + 1 = i
    · right
      subst hji
      unfold xnl at hn
      simp only [hu] at hn
      rcases u with u | u | u
      · exact fun q => by cases q
      · cases hn
      · intro q
        have := yrf_cat (b := b) (ads := ads) u
        have q : (yrf b ads u).category = 2 := q
        omega
    · left
      simp [hji]
theorem yI.set (I : yI D cI cZ cS b L xs z0 A H0 nL ls st g w ads H locs la) {i : Nat} {v : Int ⊕ Int ⊕ Nat} {la2 : Array Slot} (hi : i < ls.length) (hn : xnl ls i = true) (hv : yok g.1.length (some v)) (h2 : lv_has la2 nL ((i, ycv b ads (some v)) :: (yll b ads ls).filter (fun q => !(q.1 == i) && !(q.1 + 1 == i && q.2.category == 2)))) : yI D cI cZ cS b L xs z0 A H0 nL (ls.set i (some v)) st g w ads H locs la2 := by
  refine ⟨I.1, fun u hu => ?_, I.2.2.1, I.2.2.2.1, I.2.2.2.2.1, I.2.2.2.2.2.1, yLs_set I.2.2.2.2.2.2 hi hn h2⟩
  rcases List.mem_or_eq_of_mem_set hu with q | q
  · exact I.2.1 u q
  · rw [q]; exact hv
theorem ysto {i : Nat} {v : xV} {k : List xV → Prop} (h : xsto ls i v k) : (i < ls.length ∧ xnl ls i = true) ∧ k (ls.set i v) := by
  unfold xsto at h
  split at h
  · rename_i q
    rw [Bool.and_eq_true] at q
    exact ⟨⟨by simpa [Nat.blt_eq] using q.1, q.2⟩, h⟩
  · exact h.elim
theorem yldI {i : Nat} {k : Int → Prop} (h : xldI ls i k) : ∃ v, ls[i]? = some (some (.inl v)) ∧ k v := by
  unfold xldI at h
  split at h
  · exact ⟨_, by assumption, h⟩
  · exact h.elim
theorem yldL {i : Nat} {k : Int → Prop} (h : xldL ls i k) : ∃ v, ls[i]? = some (some (.inr (.inl v))) ∧ k v := by
  unfold xldL at h
  split at h
  · exact ⟨_, by assumption, h⟩
  · exact h.elim
theorem yldR {i : Nat} {k : Nat → Prop} (h : xldR ls i k) : ∃ v, ls[i]? = some (some (.inr (.inr v))) ∧ k v := by
  unfold xldR at h
  split at h
  · exact ⟨_, by assumption, h⟩
  · exact h.elim
theorem yu {k : Int → List xV → Prop} (h : xu st k) : ∃ v r, st = xi v :: r ∧ k v r := by
  unfold xu at h
  split at h
  · exact ⟨_, _, rfl, h⟩
  · exact h.elim
theorem yuL {k : Int → List xV → Prop} (h : xuL st k) : ∃ v r, st = xl v :: r ∧ k v r := by
  unfold xuL at h
  split at h
  · exact ⟨_, _, rfl, h⟩
  · exact h.elim
theorem yuR {k : Nat → List xV → Prop} (h : xuR st k) : ∃ v r, st = xr v :: r ∧ k v r := by
  unfold xuR at h
  split at h
  · exact ⟨_, _, rfl, h⟩
  · exact h.elim
theorem yb {k : Int → Int → List xV → Prop} (h : xb st k) : ∃ u v r, st = xi v :: xi u :: r ∧ k u v r := by
  obtain ⟨v, r1, rfl, h1⟩ := yu h
  obtain ⟨u, r2, rfl, h2⟩ := yu h1
  exact ⟨u, v, r2, rfl, h2⟩
theorem ybL {k : Int → Int → List xV → Prop} (h : xbL st k) : ∃ u v r, st = xl v :: xl u :: r ∧ k u v r := by
  obtain ⟨v, r1, rfl, h1⟩ := yuL h
  obtain ⟨u, r2, rfl, h2⟩ := yuL h1
  exact ⟨u, v, r2, rfl, h2⟩
theorem yai {k : Nat → Int → List xV → Prop} (h : xai st k) : ∃ a i r, st = xi i :: xr a :: r ∧ k a i r := by
  obtain ⟨v, r1, rfl, h1⟩ := yu h
  obtain ⟨u, r2, rfl, h2⟩ := yuR h1
  exact ⟨u, v, r2, rfl, h2⟩
end YS
