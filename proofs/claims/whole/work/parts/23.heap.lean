/-! ===== instructions that touch the heap ===== -/
def yrefB : FieldType → Bool
  | .object _ => true
  | .array _ => true
  | _ => false
def yCl (ci : Nat) (Rn : String) (Tt : u_T) (N : Nat) (ty : Nat → FieldType) : Prop := vwCl[ci]? = some (Rn, Tt, N) ∧ N = xnf ci ∧ (∀ w ∈ u_ws Rn Tt N, w ∈ ygw) ∧ (∀ k, k < N → parseFieldDescriptor (Tt k).2.2.1 = some (ty k)) ∧ (∀ a, a < N → ∀ b, b < N → a ≠ b → (Tt a).2.1 ≠ (Tt b).2.1) ∧ ∀ k, k < N → (xfr ci k = false ∧ ty k = .int) ∨ (xfr ci k = true ∧ yrefB (ty k) = true)
set_option maxRecDepth 100000 in
theorem yCl_0 : yCl 0 RX0 TX0 1 tyX0 := ⟨rfl, rfl, by decide +kernel, tyX0_ok, nmX0, by decide +kernel⟩
set_option maxRecDepth 100000 in
theorem yCl_1 : yCl 1 RX1 TX1 4 tyX1 := ⟨rfl, rfl, by decide +kernel, tyX1_ok, nmX1, by decide +kernel⟩
set_option maxRecDepth 100000 in
theorem yCl_2 : yCl 2 RX2 TX2 9 tyX2 := ⟨rfl, rfl, by decide +kernel, tyX2_ok, nmX2, by decide +kernel⟩
set_option maxRecDepth 100000 in
theorem yCl_3 : yCl 3 RX3 TX3 18 tyX3 := ⟨rfl, rfl, by decide +kernel, tyX3_ok, nmX3, by decide +kernel⟩
set_option maxRecDepth 100000 in
theorem yCl_4 : yCl 4 RX4 TX4 7 tyX4 := ⟨rfl, rfl, by decide +kernel, tyX4_ok, nmX4, by decide +kernel⟩
set_option maxRecDepth 100000 in
theorem yCl_5 : yCl 5 RX5 TX5 13 tyX5 := ⟨rfl, rfl, by decide +kernel, tyX5_ok, nmX5, by decide +kernel⟩
set_option maxRecDepth 100000 in
theorem yCl_6 : yCl 6 RX6 TX6 13 tyX6 := ⟨rfl, rfl, by decide +kernel, tyX6_ok, nmX6, by decide +kernel⟩
set_option maxRecDepth 100000 in
theorem yCl_7 : yCl 7 RX7 TX7 52 tyX7 := ⟨rfl, rfl, by decide +kernel, tyX7_ok, nmX7, by decide +kernel⟩
def yFl (own : String) (i ci k : Nat) (fin : Bool) : Prop := ∃ (Rn : String) (Tt : u_T) (N : Nat) (ty : Nat → FieldType), yCl ci Rn Tt N ty ∧ k < N ∧ (fin = true → (Tt k).2.2.2 = false ∨ ((Tt k).1 = own ∧ Jvm.Cond.fieldLink own i (Tt k).1 (Tt k).2.1 (Tt k).2.2.1 ∈ ygw)) ∧ (Jvm.Cond.fieldLink own i (Tt k).1 (Tt k).2.1 (Tt k).2.2.1 ∈ ygw ∨ ∃ host, Jvm.Cond.fieldLinkNest own i (Tt k).1 (Tt k).2.1 (Tt k).2.2.1 host ∈ ynw)
theorem yAC_I : Jvm.Cond.arrayClass .int ∈ ygw := by decide +kernel
theorem yAC_Z : Jvm.Cond.arrayClass .boolean ∈ ygw := by decide +kernel
theorem yAC_S : Jvm.Cond.arrayOver (.object "FirstFelt$State") ∈ ynw := by decide +kernel
/-- of an instruction that touches the heap: its entry fits the tables -/
def yE2 (T : xTb) (e : xE) : Prop := match e.1 with
  | .getfield i => yFl T.2.2.1 i e.2.1 e.2.2.1 false
  | .putfield i => yFl T.2.2.1 i e.2.1 e.2.2.1 true ∧ (xfr e.2.1 e.2.2.1 = true → T.1.1.name ≠ "<init>" → yFl T.2.2.1 i e.2.1 e.2.2.1 true)
  | .new i => ∃ (Rn : String) (Tt : u_T) (N : Nat) (ty : Nat → FieldType), yCl e.2.1 Rn Tt N ty ∧ e.2.1 < 8 ∧ Jvm.Cond.classLink T.2.2.1 i Rn ∈ ygw ∧ Jvm.Cond.instantiable Rn N ∈ ygw ∧ Jvm.Cond.initialized Rn ∈ ygw
  | .anewarray i => Jvm.Cond.classLink T.2.2.1 i "FirstFelt$State" ∈ ygw
  | _ => True
theorem y04 : (0 : Nat) ≠ 4 := by decide
theorem y14 : (1 : Nat) ≠ 4 := by decide
theorem y24 : (2 : Nat) ≠ 4 := by decide
theorem y34 : (3 : Nat) ≠ 4 := by decide
theorem yrf_or (b : Nat) (ads : List Nat) (v : Nat) : yrf b ads v = .null ∨ ∃ a, yrf b ads v = .ref a := by
  unfold yrf
  split
  · exact Or.inl rfl
  · exact Or.inr ⟨_, rfl⟩
section YI2
variable {p : Program} {l : Launch} {e : Env} {R : Room} {s : State} {m : MethodId} {args : Array Value} {below : List Frame} {meth : Method} {c : Code} {Q : State → Prop} {D : va_G} {cI cZ cS : ClassId} {b L : Nat} {xs : Nat → Int32} {z0 : List Nat} {A : Nat → Prop} {n0 s0 : Nat} {T : xTb}
variable {H : Heap} {locs : List Loc} {la : Array Slot} {ads : List Nat} {pc : Nat} {ls st r : List xV} {g : xG} {w : xW} {K : xK}
theorem yfs {ci N k : Nat} (hN : N = xnf ci) (hk : k < N) {f : Nat → Value} : ((List.range (xnf ci)).map f)[k]? = some (f k) := by
  rw [List.getElem?_map, List.getElem?_range (by omega)]; rfl
theorem yi_getfield (F : yF p s m args meth c T D cI cZ cS b L xs A) (hK : ∀ pc ls st g w, K pc ls st g w → yP p l e R s m args below meth c Q D cI cZ cS b L xs z0 A T.1.2.2.1 n0 s0 pc ls st g w)
    {i ci k : Nat} (hd : decode T.1.2.1 pc = .ok (.getfield i, 3)) (hE : yFl T.2.2.1 i ci k false) (h : xgetf ci k pc ls st g w K) : yP p l e R s m args below meth c Q D cI cZ cS b L xs z0 A T.1.2.2.1 n0 s0 pc ls st g w := by
  obtain ⟨hx, hb, hml, hr, hlk, hown, hnm, hts, hN, hKK, hX, hbl, hbA, hA⟩ := F
  obtain ⟨Rn, Tt, N, ty, ⟨c1, c2, c3, c4, c5, c6⟩, hkN, -, hlink⟩ := hE
  intro ads H locs la I hR
  have key : ∃ a r v, st = xr a :: r ∧ xIs g a (0, ci) ∧ ycv b ads v = (bif xfr ci k then yrf b ads (g.2 a k) else .int (Int32.ofInt (w a k))) ∧ yok g.1.length v ∧ K (pc + 3) ls (v :: r) g w := by
    unfold xgetf at h
    split at h
    · rename_i q
      obtain ⟨a, r, rfl, h1, h2⟩ := yuR h
      exact ⟨a, r, xi (w a k), rfl, h1, by rw [q]; rfl, I.1.2.2.2.2.1 a k, h2⟩
    · rename_i q
      obtain ⟨a, r, rfl, h1, h2⟩ := yuR h
      exact ⟨a, r, xr (g.2 a k), rfl, h1, by rw [q]; rfl, I.1.2.2.2.2.2.1 a k, h2⟩
  obtain ⟨a, r, v, rfl, h1, hv, hok, h2⟩ := key
  obtain ⟨t1, t2, -⟩ := yat I.1 h1 y04
  have he := yws_get (cI := cI) (cZ := cZ) (cS := cS) (b := b) (g := g) (w := w) t1
  rw [← t2, yce_0 h1, ← yad_of (b := b) t2] at he
  have k1 := hK _ _ _ _ _ h2 ads H locs la (I.tl.push hok) hR
  show W p l e R s m args below meth c H locs (g.1.length - n0) (xsl g.1 - s0) Q (F0 m pc la (yrf b ads a :: r.map (ycv b ads)))
  rw [yrf_of h1.1]
  have k2 : W p l e R s m args below meth c H locs (g.1.length - n0) (xsl g.1 - s0) Q (F0 m (pc + 3) la ((bif xfr ci k then yrf b ads (g.2 a k) else .int (Int32.ofInt (w a k))) :: r.map (ycv b ads))) := by
    rw [← hv]; exact k1
  rcases hlink with q | ⟨host, q⟩
  · exact va_get hx hb hts c3 hown hKK I.2.2.2.1 (a - 2) he c1 k hkN (hts _ q) (fun _ h9 => h9) (yfs c2 hkN) hd k2
  · exact va_getN hx hb hts c3 hown hKK I.2.2.2.1 (a - 2) he c1 k hkN (va_Nw.use rfl (hN _ q)) (fun _ h9 => h9) (yfs c2 hkN) hd k2
theorem yfs_set {ci k : Nat} {f f2 : Nat → Value} {v : Value} (h1 : k < xnf ci → f2 k = v) (h2 : ∀ j, j ≠ k → f2 j = f j) : ((List.range (xnf ci)).map f).set k v = (List.range (xnf ci)).map f2 := by
  apply List.ext_getElem?
  intro j
  by_cases hj : j < xnf ci
  · by_cases hjk : j = k
    · subst hjk
      rw [List.getElem?_set_self (by simpa using hj), List.getElem?_map, List.getElem?_range hj]
      simp [h1 hj]
    · rw [List.getElem?_set_ne (Ne.symm hjk), List.getElem?_map, List.getElem?_map, List.getElem?_range hj]
      simp [h2 j hjk]
  · rw [List.getElem?_eq_none (by simp; omega), List.getElem?_eq_none (by simp; omega)]
theorem yi_putfield (F : yF p s m args meth c T D cI cZ cS b L xs A) (hK : ∀ pc ls st g w, K pc ls st g w → yP p l e R s m args below meth c Q D cI cZ cS b L xs z0 A T.1.2.2.1 n0 s0 pc ls st g w)
    {i ci k : Nat} (hd : decode T.1.2.1 pc = .ok (.putfield i, 3)) (hE : yFl T.2.2.1 i ci k true) (hE2 : (∃ Rn Tt N ty, yCl ci Rn Tt N ty ∧ (Tt k).2.2.2 = true) → T.1.1.name = "<init>") (h : xputf ci k pc ls st g w K) : yP p l e R s m args below meth c Q D cI cZ cS b L xs z0 A T.1.2.2.1 n0 s0 pc ls st g w := by
  obtain ⟨hx, hb, hml, hr, hlk, hown, hnm, hts, hN, hKK, hX, hbl, hbA, hA⟩ := F
  obtain ⟨Rn, Tt, N, ty, hcl, hkN, hfin, hlink⟩ := hE
  have hcl0 := hcl
  obtain ⟨c1, c2, c3, c4, c5, c6⟩ := hcl
  intro ads H locs la I hR
  have key : ∃ a r v g2 w2, st = v :: xr a :: r ∧ xIs g a (0, ci) ∧ g2.1 = g.1 ∧ yHp L xs z0 ads g2 w2 ∧ narrow (ty k) (ycv b ads v) = ycv b ads v ∧ fits (ty k) (ycv b ads v) = true ∧ yce cI cZ cS b ads g2 w2 a = .inr (ci, ((List.range (xnf ci)).map fun k => bif xfr ci k then yrf b ads (g.2 a k) else .int (Int32.ofInt (w a k))).set k (ycv b ads v)) ∧ (∀ a2, a2 ≠ a → yce cI cZ cS b ads g2 w2 a2 = yce cI cZ cS b ads g w a2) ∧ K (pc + 3) ls r g2 w2 := by
    unfold xputf at h
    split at h
    · rename_i q
      obtain ⟨v, r1, rfl, h1⟩ := yu h
      obtain ⟨a, r, rfl, h2, h3⟩ := yuR h1
      obtain ⟨t1, t2, -⟩ := yat I.1 h2 y04
      have hty : ty k = .int := by
        rcases c6 k hkN with z | z
        · exact z.2
        · rw [q] at z; cases z.1
      refine ⟨a, r, xi v, g, xup w a k v, rfl, h2, rfl, yHp_put I.1 t2 (yIs_lt h2).2 I.hd, by rw [hty]; rfl, by rw [hty]; rfl, ?_, fun a2 ha2 => yce_w fun j => xup_a ha2, h3⟩
      rw [yce_0 h2, yfs_set (f2 := fun k_1 => bif xfr ci k_1 then yrf b ads (g.2 a k_1) else .int (Int32.ofInt (xup w a k v a k_1)))]
      · intro _
        simp only [q, xup_s]; rfl
      · intro j hj
        simp only [xup_k hj]
    · rename_i q
      obtain ⟨v, r1, rfl, h1⟩ := yuR h
      obtain ⟨a, r, rfl, h2, h3⟩ := yuR h1
      have hty : yrefB (ty k) = true := by
        rcases c6 k hkN with z | z
        · rw [q] at z; cases z.1
        · exact z.2
      have hnf : narrow (ty k) (yrf b ads v) = yrf b ads v ∧ fits (ty k) (yrf b ads v) = true := by
        generalize ty k = t at hty
        rcases yrf_or b ads v with z | ⟨_, z⟩ <;> rw [z] <;> cases t <;> first | exact ⟨rfl, rfl⟩ | cases hty
      refine ⟨a, r, xr v, (g.1, xup g.2 a k v), w, rfl, h2, rfl, yHp_putR I.1 (yIs_lt h2).2 I.hd, hnf.1, hnf.2, ?_, fun a2 ha2 => yce_g fun j => xup_a ha2, h3⟩
      rw [yce_0 (show xIs (g.1, xup g.2 a k v) a (0, ci) from h2), yfs_set (f2 := fun k_1 => bif xfr ci k_1 then yrf b ads (xup g.2 a k v a k_1) else .int (Int32.ofInt (w a k_1)))]
      · intro _
        simp only [q, xup_s]; rfl
      · intro j hj
        simp only [xup_k hj]
  obtain ⟨a, r, v, g2, w2, rfl, h1, hg, hh2, hn, hf, hce, hce2, h2⟩ := key
  obtain ⟨t1, t2, -⟩ := yat I.1 h1 y04
  have he := yws_get (cI := cI) (cZ := cZ) (cS := cS) (b := b) (g := g) (w := w) t1
  rw [← t2, yce_0 h1] at he
  have hset : (yws cI cZ cS b ads g w).set (a - 2) (ads.getD (a - 2) 0, .inr (ci, ((List.range (xnf ci)).map fun k => bif xfr ci k then yrf b ads (g.2 a k) else .int (Int32.ofInt (w a k))).set k (ycv b ads v))) = yws cI cZ cS b ads g2 w2 := yws_set (by rw [← t2]; exact hce) (fun j hj => hce2 (j + 2) (by omega))
  have hIs := yIs_lt h1
  have k1 : ∀ (H1 : Heap) (locs1 : List Loc), va_P D vwCl (yws cI cZ cS b ads g2 w2) H1 → va_D A (yws cI cZ cS b ads g2 w2) → va_S A s.heap H1 locs1 → W p l e R s m args below meth c H1 locs1 (g.1.length - n0) (xsl g.1 - s0) Q (F0 m (pc + 3) la (r.map (ycv b ads))) := by
    intro H1 locs1 q1 q2 q3
    have I2 : yI D cI cZ cS b L xs z0 A s.heap T.1.2.2.1 ls r g2 w2 ads H1 locs1 la := ⟨hh2, by rw [hg]; exact I.2.1, by rw [hg]; exact I.tl.tl.2.2.1, q1, q2, q3, I.2.2.2.2.2.2⟩
    have k3 := hK _ _ _ _ _ h2 ads H1 locs1 la I2 (by unfold yR; rw [hg]; exact hR)
    rw [hg] at k3
    exact k3
  show W p l e R s m args below meth c H locs (g.1.length - n0) (xsl g.1 - s0) Q (F0 m pc la (ycv b ads v :: yrf b ads a :: r.map (ycv b ads)))
  rw [yrf_of h1.1, yad_of t2]
  have hl : k < ((List.range (xnf ci)).map fun k => bif xfr ci k then yrf b ads (g.2 a k) else .int (Int32.ofInt (w a k))).length := by simp; omega
  cases hff : (Tt k).2.2.2 with
  | false =>
    rcases hlink with q | ⟨host, q⟩
    · exact va_put hx hb hts c3 ty c4 c5 hown hKK I.2.2.2.1 I.2.2.2.2.1 I.2.2.2.2.2.1 (a - 2) he c1 k hkN (hts _ q) (fun _ h9 => h9) hff (c4 k hkN) hn hf hl hd (by rw [hset]; exact k1)
    · exact va_putN hx hb hts c3 ty c4 c5 hown hKK I.2.2.2.1 I.2.2.2.2.1 I.2.2.2.2.2.1 (a - 2) he c1 k hkN (va_Nw.use rfl (hN _ q)) (fun _ h9 => h9) hff (c4 k hkN) hn hf hl hd (by rw [hset]; exact k1)
  | true =>
    obtain ⟨f1, f2⟩ := (hfin rfl).resolve_left (by rw [hff]; decide)
    exact va_putF hx hb hts c3 ty c4 c5 hown hKK I.2.2.2.1 I.2.2.2.2.1 I.2.2.2.2.2.1 (a - 2) he c1 k hkN (hts _ f2) (fun _ h9 => h9) hff (hnm (hE2 ⟨Rn, Tt, N, ty, hcl0, hff⟩)) f1 (c4 k hkN) hn hf hl hd (by rw [hset]; exact k1)
end YI2
