/-! ===== what the abstract machine's values and heaps are on the machine ===== -/
theorem y32 {a : Int} (h : x32 a) : (Int32.ofInt a).toInt = a := Int32.toInt_ofInt_of_le (by have := h.1; omega) (by have := h.2; omega)
theorem y64 {a : Int} (h : x64 a) : (Int64.ofInt a).toInt = a := Int64.toInt_ofInt_of_le (by have := h.1; omega) (by have := h.2; omega)
theorem y32r (x : Int32) : x32 x.toInt := by have h1 := x.toInt_lt; have h2 := x.le_toInt; constructor <;> omega
theorem y64r (x : Int64) : x64 x.toInt := by have h1 := x.toInt_lt; have h2 := x.le_toInt; constructor <;> omega
theorem y_lt {a b : Int} (ha : x32 a) (hb : x32 b) : Int32.ofInt a < Int32.ofInt b ↔ a < b := by rw [Int32.lt_iff_toInt_lt, y32 ha, y32 hb]
theorem y_le {a b : Int} (ha : x32 a) (hb : x32 b) : Int32.ofInt a ≤ Int32.ofInt b ↔ a ≤ b := by rw [Int32.le_iff_toInt_le, y32 ha, y32 hb]
theorem y_eq {a b : Int} (ha : x32 a) (hb : x32 b) : Int32.ofInt a = Int32.ofInt b ↔ a = b := by rw [← Int32.toInt_inj, y32 ha, y32 hb]
theorem y_div {a b : Int} (ha : x32 a) (hb : x32 b) : Int32.ofInt (a.tdiv b) = Int32.ofInt a / Int32.ofInt b :=
  Int32.ofInt_tdiv ha.1 ha.2 hb.1 hb.2
theorem y_rem {a b : Int} (ha : x32 a) (hb : x32 b) : Int32.ofInt (a.tmod b) = Int32.ofInt a - Int32.ofInt a / Int32.ofInt b * Int32.ofInt b := by
  rw [← y_div ha hb, ← Int32.ofInt_mul, ← Int32.ofInt_sub]
  congr 1
  have := Int.mul_tdiv_add_tmod a b
  have h2 := Int.mul_comm b (a.tdiv b)
  omega
theorem y_divL {a b : Int} (ha : x64 a) (hb : x64 b) : Int64.ofInt (a.tdiv b) = Int64.ofInt a / Int64.ofInt b :=
  Int64.ofInt_tdiv ha.1 ha.2 hb.1 hb.2
theorem y_remL {a b : Int} (ha : x64 a) (hb : x64 b) : Int64.ofInt (a.tmod b) = Int64.ofInt a - Int64.ofInt a / Int64.ofInt b * Int64.ofInt b := by
  rw [← y_divL ha hb, ← Int64.ofInt_mul, ← Int64.ofInt_sub]
  congr 1
  have := Int.mul_tdiv_add_tmod a b
  have h2 := Int.mul_comm b (a.tdiv b)
  omega
theorem y_cl {a : Int} (h : x32 a) : (Int32.ofInt a).toNatClampNeg = a.toNat := by rw [← Int32.toNat_toInt, y32 h]
theorem y_in {a : Int} {n : Nat} (h : x32 a) (h0 : 0 ≤ a) (h1 : a < n) : vp_in (Int32.ofInt a) n := by
  rw [vp_in_iff, y32 h]; exact ⟨h0, h1⟩
theorem y_nz {a : Int} (h : x32 a) (h0 : a ≠ 0) : ¬ Int32.ofInt a = 0 := fun e => h0 ((y_eq h (b := 0) (by decide)).mp e)
theorem y_nzL {a : Int} (h : x64 a) (h0 : a ≠ 0) : ¬ Int64.ofInt a = 0 := fun e => h0 (by have := congrArg Int64.toInt e; rwa [y64 h] at this)
theorem y_tm (a b : Int) : (0 ≤ a → 0 ≤ a.tmod b ∧ a.tmod b ≤ a) ∧ (a < 0 → a ≤ a.tmod b ∧ a.tmod b ≤ 0) := by
  have key : ∀ c : Int, 0 ≤ c → 0 ≤ c.tmod b ∧ c.tmod b ≤ c := fun c hc => by
    have h5 := Int.tmod_nonneg b hc
    have h := Int.natAbs_tmod c b
    have h3 := Nat.mod_le c.natAbs b.natAbs
    omega
  refine ⟨key a, fun h => ?_⟩
  have h1 := key (-a) (by omega)
  rw [Int.neg_tmod] at h1
  omega
theorem y_tmod64 {a : Int} (b : Int) (ha : x64 a) : x64 (a.tmod b) := by
  have h := y_tm a b
  have := ha.1; have := ha.2
  rcases Int.lt_or_le a 0 with q | q
  · have := h.2 q; constructor <;> omega
  · have := h.1 q; constructor <;> omega
theorem y_tmod32 {a : Int} (b : Int) (ha : x32 a) : x32 (a.tmod b) := by
  have h := y_tm a b
  have := ha.1; have := ha.2
  rcases Int.lt_or_le a 0 with q | q
  · have := h.2 q; constructor <;> omega
  · have := h.1 q; constructor <;> omega
theorem y_i2l {a : Int} (h : x32 a) : (Int32.ofInt a).toInt64 = Int64.ofInt a := by
  rw [← Int64.ofInt_int32ToInt, y32 h]
theorem y_cmp {a b : Int} (ha : x64 a) (hb : x64 b) : lg_cmp (Int64.ofInt a) (Int64.ofInt b) = Int32.ofInt (xCmp a b) := by
  unfold lg_cmp xCmp
  have e1 : (Int64.ofInt a > Int64.ofInt b) ↔ b < a := by
    show Int64.ofInt b < Int64.ofInt a ↔ _
    rw [Int64.lt_iff_toInt_lt, y64 ha, y64 hb]
  have e2 : (Int64.ofInt a = Int64.ofInt b) ↔ a = b := by rw [← Int64.toInt_inj, y64 ha, y64 hb]
  by_cases h1 : b < a
  · rw [if_pos (e1.mpr h1), if_pos h1]; rfl
  · rw [if_neg (fun q => h1 (e1.mp q)), if_neg h1]
    by_cases h2 : a = b
    · rw [if_pos (e2.mpr h2), if_pos h2]; rfl
    · rw [if_neg (fun q => h2 (e2.mp q)), if_neg h2]; rfl
theorem y_cmp32 (a b : Int) : x32 (xCmp a b) := by
  unfold xCmp
  split
  · decide
  · split <;> decide
def yad (b : Nat) (ads : List Nat) (a : Nat) : Nat := if a = 1 then b else ads.getD (a - 2) 0
def yrf (b : Nat) (ads : List Nat) (a : Nat) : Value := if a = 0 then .null else .ref (yad b ads a)
def ycv (b : Nat) (ads : List Nat) (v : xV) : Value := match v with
  | some (.inl x) => .int (Int32.ofInt x)
  | some (.inr (.inl x)) => .long (Int64.ofInt x)
  | some (.inr (.inr a)) => yrf b ads a
  | none => .null
def yce (cI cZ cS : ClassId) (b : Nat) (ads : List Nat) (g : xG) (w : xW) (a : Nat) : va_E := match g.1[a - 1]? with
  | some (0, ci) => .inr (ci, (List.range (xnf ci)).map fun k => bif xfr ci k then yrf b ads (g.2 a k) else .int (Int32.ofInt (w a k)))
  | some (1, n) => .inl (cI, n, .inl fun j => Int32.ofInt (w a j))
  | some (2, n) => .inl (cZ, n, .inl fun j => Int32.ofInt (w a j))
  | some (_, n) => .inl (cS, n, .inr (.inr (.inr (.inr fun j => if g.2 a j = 0 then none else some (yad b ads (g.2 a j))))))
  | none => .inl (cI, 0, .inl fun _ => 0)
def yws (cI cZ cS : ClassId) (b : Nat) (ads : List Nat) (g : xG) (w : xW) : va_W := (List.range ads.length).map fun i => (ads.getD i 0, yce cI cZ cS b ads g w (i + 2))
def yok (n : Nat) (v : xV) : Prop := match v with
  | some (.inl x) => x32 x
  | some (.inr (.inl x)) => x64 x
  | some (.inr (.inr a)) => a ≤ n
  | none => True
def ysh (q : Nat × Nat) : Prop := (q.1 = 0 ∧ q.2 < 8) ∨ (1 ≤ q.1 ∧ q.1 ≤ 3 ∧ q.2 < 2147483648)
/-- a heap of the abstract machine: the script first; numbers within their bounds, references of cells that there are; nothing in cells that are not made yet -/
def yHp (L : Nat) (xs : Nat → Int32) (z0 ads : List Nat) (g : xG) (w : xW) : Prop :=
  ads.length + 1 = g.1.length ∧ (g.1[0]? = some (4, L) ∧ L ≤ 384 ∧ z0 <+: ads) ∧ (∀ j, j < L → w 1 j = (xs j).toInt) ∧ (∀ (i : Nat) (q : Nat × Nat), g.1[i + 1]? = some q → ysh q) ∧ (∀ a k, x32 (w a k)) ∧ (∀ a k, g.2 a k ≤ g.1.length) ∧ ∀ a k, g.1.length < a → w a k = 0 ∧ g.2 a k = 0
/-- the places of a method -/
def yLs (b : Nat) (ads : List Nat) (nL : Nat) (ls : List xV) (la : Array Slot) : Prop := la.size = nL ∧ ls.length = nL ∧ lv_wf la ∧ ∀ (i : Nat) (v : Int ⊕ Int ⊕ Nat), ls[i]? = some (some v) → la[i]? = some (.val (ycv b ads (some v)))
theorem yws_get {cI cZ cS : ClassId} {b : Nat} {ads : List Nat} {g : xG} {w : xW} {i : Nat} (h : i < ads.length) : (yws cI cZ cS b ads g w)[i]? = some (ads.getD i 0, yce cI cZ cS b ads g w (i + 2)) := by
  unfold yws
  rw [List.getElem?_map, List.getElem?_range h]; rfl
theorem yws_len {cI cZ cS : ClassId} {b : Nat} {ads : List Nat} {g : xG} {w : xW} : (yws cI cZ cS b ads g w).length = ads.length := by simp [yws]
theorem yws_set {cI cZ cS : ClassId} {b : Nat} {ads : List Nat} {g g2 : xG} {w w2 : xW} {i : Nat} {e : va_E} (he : yce cI cZ cS b ads g2 w2 (i + 2) = e) (hx : ∀ j, j ≠ i → yce cI cZ cS b ads g2 w2 (j + 2) = yce cI cZ cS b ads g w (j + 2)) : (yws cI cZ cS b ads g w).set i (ads.getD i 0, e) = yws cI cZ cS b ads g2 w2 := by
  apply List.ext_getElem?
  intro j
  by_cases hj : j < ads.length
  · by_cases hji : j = i
    · subst hji
      rw [List.getElem?_set_self (by rw [yws_len]; exact hj), yws_get hj, he]
    · rw [List.getElem?_set_ne (Ne.symm hji), yws_get hj, yws_get hj, hx j hji]
  · rw [List.getElem?_eq_none (by rw [List.length_set, yws_len]; omega), List.getElem?_eq_none (by rw [yws_len]; omega)]
theorem yIs_lt {g : xG} {a : Nat} {q : Nat × Nat} (h : xIs g a q) : a ≠ 0 ∧ a ≤ g.1.length := by
  obtain ⟨h0, h1⟩ := h
  have := (List.getElem?_eq_some_iff.mp h1).1
  exact ⟨h0, by omega⟩
/-- a cell that is not the script: its place in the world -/
theorem yat {L : Nat} {xs : Nat → Int32} {z0 ads : List Nat} {g : xG} {w : xW} (hh : yHp L xs z0 ads g w) {a : Nat} {q : Nat × Nat} (h : xIs g a q) (h4 : q.1 ≠ 4) : a - 2 < ads.length ∧ a = (a - 2) + 2 ∧ ysh q := by
  obtain ⟨hl, ⟨hs, -⟩, -, hq, -⟩ := hh
  have h2 := yIs_lt h
  have h1 : a ≠ 1 := by
    intro e
    subst e
    have := h.2
    rw [show (1 : Nat) - 1 = 0 from rfl, hs] at this
    cases this
    exact h4 rfl
  refine ⟨by omega, by omega, hq (a - 2) q ?_⟩
  rw [show a - 2 + 1 = a - 1 by omega]
  exact h.2
theorem yad_of {b : Nat} {ads : List Nat} {a : Nat} (h : a = (a - 2) + 2) : yad b ads a = ads.getD (a - 2) 0 := by
  unfold yad
  rw [if_neg (by omega)]
theorem yrf_of {b : Nat} {ads : List Nat} {a : Nat} (h : a ≠ 0) : yrf b ads a = .ref (yad b ads a) := by
  unfold yrf
  rw [if_neg h]
theorem yce_0 {cI cZ cS : ClassId} {b : Nat} {ads : List Nat} {g : xG} {w : xW} {a ci : Nat} (h : xIs g a (0, ci)) : yce cI cZ cS b ads g w a = .inr (ci, (List.range (xnf ci)).map fun k => bif xfr ci k then yrf b ads (g.2 a k) else .int (Int32.ofInt (w a k))) := by
  simp only [yce, h.2]
theorem yce_1 {cI cZ cS : ClassId} {b : Nat} {ads : List Nat} {g : xG} {w : xW} {a n : Nat} (h : xIs g a (1, n)) : yce cI cZ cS b ads g w a = .inl (cI, n, .inl fun j => Int32.ofInt (w a j)) := by
  simp only [yce, h.2]
theorem yce_2 {cI cZ cS : ClassId} {b : Nat} {ads : List Nat} {g : xG} {w : xW} {a n : Nat} (h : xIs g a (2, n)) : yce cI cZ cS b ads g w a = .inl (cZ, n, .inl fun j => Int32.ofInt (w a j)) := by
  simp only [yce, h.2]
theorem yce_3 {cI cZ cS : ClassId} {b : Nat} {ads : List Nat} {g : xG} {w : xW} {a n : Nat} (h : xIs g a (3, n)) : yce cI cZ cS b ads g w a = .inl (cS, n, .inr (.inr (.inr (.inr fun j => if g.2 a j = 0 then none else some (yad b ads (g.2 a j)))))) := by
  simp only [yce, h.2]
theorem yce_w {cI cZ cS : ClassId} {b : Nat} {ads : List Nat} {g : xG} {w w2 : xW} {a : Nat} (h : ∀ k, w2 a k = w a k) : yce cI cZ cS b ads g w2 a = yce cI cZ cS b ads g w a := by
  unfold yce
  split <;> simp only [h]
theorem yce_g {cI cZ cS : ClassId} {b : Nat} {ads : List Nat} {g : xG} {w : xW} {a : Nat} {p2 : Nat → Nat → Nat} (h : ∀ k, p2 a k = g.2 a k) : yce cI cZ cS b ads (g.1, p2) w a = yce cI cZ cS b ads g w a := by
  unfold yce
  show (match g.1[a - 1]? with | some (0, ci) => _ | some (1, n) => _ | some (2, n) => _ | some (_, n) => _ | none => _) = _
  split <;> simp only [h]
theorem xup_s {α : Type} {w : Nat → Nat → α} {a k : Nat} {v : α} : xup w a k v a k = v := by simp [xup]
theorem xup_a {α : Type} {w : Nat → Nat → α} {a a2 k k2 : Nat} {v : α} (h : a2 ≠ a) : xup w a k v a2 k2 = w a2 k2 := by simp [xup, h]
theorem xup_k {α : Type} {w : Nat → Nat → α} {a a2 k k2 : Nat} {v : α} (h : k2 ≠ k) : xup w a k v a2 k2 = w a2 k2 := by simp [xup, h]
/-- a number is put into a cell -/
theorem yHp_put {L : Nat} {xs : Nat → Int32} {z0 ads : List Nat} {g : xG} {w : xW} (hh : yHp L xs z0 ads g w) {a k : Nat} {v : Int} (ha : a = (a - 2) + 2) (hl : a ≤ g.1.length) (hv : x32 v) : yHp L xs z0 ads g (xup w a k v) := by
  obtain ⟨h1, h2, h3, h4, h5, h6, h7⟩ := hh
  refine ⟨h1, h2, fun j hj => by rw [xup_a (by omega)]; exact h3 j hj, h4, fun a2 k2 => ?_, h6, fun a2 k2 hq => ?_⟩
  · unfold xup
    split
    · exact hv
    · exact h5 a2 k2
  · rw [xup_a (by omega)]
    exact h7 a2 k2 hq
/-- a reference is put into a cell -/
theorem yHp_putR {L : Nat} {xs : Nat → Int32} {z0 ads : List Nat} {g : xG} {w : xW} (hh : yHp L xs z0 ads g w) {a k v : Nat} (hl : a ≤ g.1.length) (hv : v ≤ g.1.length) : yHp L xs z0 ads (g.1, xup g.2 a k v) w := by
  obtain ⟨h1, h2, h3, h4, h5, h6, h7⟩ := hh
  refine ⟨h1, h2, h3, h4, h5, fun a2 k2 => ?_, fun a2 k2 hq => ⟨(h7 a2 k2 hq).1, ?_⟩⟩
  · show xup g.2 a k v a2 k2 ≤ _
    unfold xup
    split
    · exact hv
    · exact h6 a2 k2
  · show xup g.2 a k v a2 k2 = 0
    have hq : g.1.length < a2 := hq
    rw [xup_a (by omega)]
    exact (h7 a2 k2 hq).2
theorem yHp_cp {L : Nat} {xs : Nat → Int32} {z0 ads : List Nat} {g : xG} {w : xW} (hh : yHp L xs z0 ads g w) {a sp b dp n : Nat} (ha : b = (b - 2) + 2) (hl : b ≤ g.1.length) : yHp L xs z0 ads g (xcp w a sp b dp n) := by
  obtain ⟨h1, h2, h3, h4, h5, h6, h7⟩ := hh
  have e : ∀ a2 k2, a2 ≠ b → xcp w a sp b dp n a2 k2 = w a2 k2 := fun a2 k2 q => by simp [xcp, q]
  refine ⟨h1, h2, fun j hj => by rw [e _ _ (by omega)]; exact h3 j hj, h4, fun a2 k2 => ?_, h6, fun a2 k2 hq => ?_⟩
  · unfold xcp
    split
    · exact h5 _ _
    · exact h5 a2 k2
  · rw [e _ _ (by omega)]
    exact h7 a2 k2 hq
/-- old values behind cells that were made -/
theorem yad_app {b : Nat} {ads t : List Nat} {a : Nat} (h0 : a ≠ 0) (h : a ≤ ads.length + 1) : yad b (ads ++ t) a = yad b ads a := by
  unfold yad
  by_cases h1 : a = 1
  · rw [if_pos h1, if_pos h1]
  · rw [if_neg h1, if_neg h1]
    have h0 : a - 2 < ads.length := by omega
    simp [List.getD, List.getElem?_append_left h0]
theorem yrf_app {b : Nat} {ads t : List Nat} {a : Nat} (h : a ≤ ads.length + 1) : yrf b (ads ++ t) a = yrf b ads a := by
  unfold yrf
  by_cases h0 : a = 0
  · rw [if_pos h0, if_pos h0]
  · rw [if_neg h0, if_neg h0, yad_app h0 h]
theorem ycv_app {b : Nat} {ads t : List Nat} {v : xV} (h : yok (ads.length + 1) v) : ycv b (ads ++ t) v = ycv b ads v := by
  unfold ycv
  split
  · rfl
  · rfl
  · exact yrf_app h
  · rfl
theorem ymap_app {b : Nat} {ads t : List Nat} {l : List xV} (h : ∀ v ∈ l, yok (ads.length + 1) v) : l.map (ycv b (ads ++ t)) = l.map (ycv b ads) := List.map_congr_left fun v hv => ycv_app (h v hv)
theorem yok_mono {n m : Nat} {v : xV} (h : yok n v) (hnm : n ≤ m) : yok m v := by
  rcases v with _ | (x | x | x)
  · trivial
  · exact h
  · exact h
  · exact Nat.le_trans h hnm
theorem yLs_app {b : Nat} {ads t : List Nat} {nL : Nat} {ls : List xV} {la : Array Slot} (h : yLs b ads nL ls la) (hk : ∀ v ∈ ls, yok (ads.length + 1) v) : yLs b (ads ++ t) nL ls la :=
  ⟨h.1, h.2.1, h.2.2.1, fun i v hv => by rw [ycv_app (hk _ (List.mem_of_getElem? hv))]; exact h.2.2.2 i v hv⟩
theorem yce_app {cI cZ cS : ClassId} {b : Nat} {ads t : List Nat} {g : xG} {w : xW} {a : Nat} (h : ∀ k, g.2 a k ≤ ads.length + 1) : yce cI cZ cS b (ads ++ t) g w a = yce cI cZ cS b ads g w a := by
  have e1 : ∀ k, yrf b (ads ++ t) (g.2 a k) = yrf b ads (g.2 a k) := fun k => yrf_app (h k)
  have e2 : ∀ k, (if g.2 a k = 0 then none else some (yad b (ads ++ t) (g.2 a k))) = (if g.2 a k = 0 then none else some (yad b ads (g.2 a k))) := fun k => by
    split
    · rfl
    · rename_i h0
      rw [yad_app h0 (h k)]
  unfold yce
  split <;> simp only [e1, e2]
/-- a cell is made -/
theorem yHp_new {L : Nat} {xs : Nat → Int32} {z0 ads : List Nat} {g : xG} {w : xW} (hh : yHp L xs z0 ads g w) {q : Nat} {s : Nat × Nat} (hs : ysh s) : yHp L xs z0 (ads ++ [q]) (g.1 ++ [s], g.2) w := by
  obtain ⟨h1, ⟨h2, h8⟩, h3, h4, h5, h6, h7⟩ := hh
  have hl : 0 < g.1.length := by omega
  refine ⟨by simp [h1], ⟨?_, h8.1, h8.2.trans (List.prefix_append ads [q])⟩, h3, fun i z hz => ?_, h5, fun a k => ?_, fun a k ha => ?_⟩
  · show (g.1 ++ [s])[0]? = _
    rw [List.getElem?_append_left hl]; exact h2
  · have hz : (g.1 ++ [s])[i + 1]? = some z := hz
    by_cases hi : i + 1 < g.1.length
    · rw [List.getElem?_append_left hi] at hz
      exact h4 i z hz
    · have hm := List.mem_of_getElem? hz
      rw [List.getElem?_append_right (by omega)] at hz
      have := List.mem_of_getElem? hz
      rw [List.mem_singleton] at this
      rw [this]; exact hs
  · show g.2 a k ≤ (g.1 ++ [s]).length
    have := h6 a k
    simp; omega
  · have ha : (g.1 ++ [s]).length < a := ha
    simp at ha
    exact h7 a k (by omega)
theorem yws_new {L : Nat} {xs : Nat → Int32} {cI cZ cS : ClassId} {b : Nat} {z0 ads : List Nat} {g : xG} {w : xW} (hh : yHp L xs z0 ads g w) {q : Nat} {s : Nat × Nat} {e : va_E} (he : yce cI cZ cS b (ads ++ [q]) (g.1 ++ [s], g.2) w (ads.length + 2) = e) : yws cI cZ cS b ads g w ++ [(q, e)] = yws cI cZ cS b (ads ++ [q]) (g.1 ++ [s], g.2) w := by
  apply List.ext_getElem?
  intro j
  obtain ⟨h1, -, -, -, -, h6, -⟩ := hh
  by_cases hj : j < ads.length
  · rw [List.getElem?_append_left (by rw [yws_len]; exact hj), yws_get hj, yws_get (by simp; omega)]
    have e1 : (ads ++ [q]).getD j 0 = ads.getD j 0 := by simp [List.getD, List.getElem?_append_left hj]
    have e2 : yce cI cZ cS b (ads ++ [q]) (g.1 ++ [s], g.2) w (j + 2) = yce cI cZ cS b (ads ++ [q]) g w (j + 2) := by
      unfold yce
      show (match (g.1 ++ [s])[j + 2 - 1]? with | some (0, ci) => _ | some (1, n) => _ | some (2, n) => _ | some (_, n) => _ | none => _) = _
      rw [List.getElem?_append_left (by omega)]
    rw [e1, e2, yce_app (fun k => by have := h6 (j + 2) k; omega)]
  · by_cases hj2 : j = ads.length
    · subst hj2
      rw [List.getElem?_append_right (by rw [yws_len]; exact Nat.le_refl _), yws_len, Nat.sub_self, yws_get (by simp), he]
      simp
    · rw [List.getElem?_eq_none (by simp [yws_len]; omega), List.getElem?_eq_none (by rw [yws_len]; simp; omega)]
theorem xsl_app (l : List (Nat × Nat)) (q : Nat × Nat) : xsl (l ++ [q]) = xsl l + xsz q := by simp [xsl]
