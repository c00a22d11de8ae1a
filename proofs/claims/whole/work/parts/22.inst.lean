/-! ===== instruction by instruction ===== -/
def xln : Instr → Nat
  | .bipush _ => 2
  | .sipush _ => 3
  | .ldc _ => 2
  | .ldc_w _ => 3
  | .ldc2_w _ => 3
  | .iload _ => 2
  | .lload _ => 2
  | .aload _ => 2
  | .istore _ => 2
  | .astore _ => 2
  | .iinc _ _ => 3
  | .ifCond _ _ => 3
  | .if_icmp _ _ => 3
  | .goto _ => 3
  | .getfield _ => 3
  | .putfield _ => 3
  | .new _ => 3
  | .newarray _ => 2
  | .anewarray _ => 3
  | .invokevirtual _ => 3
  | .invokespecial _ => 3
  | .invokestatic _ => 3
  | _ => 1
/-- an instruction that touches numbers, places and jumps alone: its entry fits the code -/
def yE1 (own : String) (pc : Nat) (e : xE) : Prop := match e.1 with
  | .iconst n => x32 n
  | .bipush n => -128 ≤ n ∧ n ≤ 127
  | .sipush n => -32768 ≤ n ∧ n ≤ 32767
  | .iinc _ n => x32 n
  | .ldc i => Jvm.Cond.constant own i (Int32.ofInt e.2.2.2.2) ∈ ygw ∧ x32 e.2.2.2.2
  | .ldc_w i => Jvm.Cond.constant own i (Int32.ofInt e.2.2.2.2) ∈ ygw ∧ x32 e.2.2.2.2
  | .ldc2_w i => Jvm.Cond.constantLong own i (Int64.ofInt e.2.2.2.2) ∈ ygw ∧ x64 e.2.2.2.2
  | .ifCond _ off => 0 ≤ (pc : Int) + off
  | .if_icmp _ off => 0 ≤ (pc : Int) + off
  | .goto off => 0 ≤ (pc : Int) + off
  | .tableswitch d lo hi offs => 0 ≤ (pc : Int) + d ∧ (∀ o ∈ offs.toList, 0 ≤ (pc : Int) + o) ∧ hi < lo + offs.size
  | _ => True
def y1 : Instr → Bool
  | .getfield _ => false
  | .putfield _ => false
  | .iaload => false
  | .baload => false
  | .aaload => false
  | .iastore => false
  | .bastore => false
  | .aastore => false
  | .arraylength => false
  | .new _ => false
  | .newarray _ => false
  | .anewarray _ => false
  | .invokevirtual _ => false
  | .invokespecial _ => false
  | .invokestatic _ => false
  | .ireturn => false
  | .return_ => false
  | _ => true
section YI1
variable {p : Program} {l : Launch} {e : Env} {R : Room} {s : State} {m : MethodId} {args : Array Value} {below : List Frame} {meth : Method} {c : Code} {Q : State → Prop} {D : va_G} {cI cZ cS : ClassId} {b L : Nat} {xs : Nat → Int32} {z0 : List Nat} {A : Nat → Prop} {n0 s0 : Nat} {T : xTb}
variable {H : Heap} {locs : List Loc} {la : Array Slot} {ads : List Nat} {pc : Nat} {ls st r : List xV} {g : xG} {w : xW}
theorem y_i8 {n : Int} (h : -128 ≤ n ∧ n ≤ 127) : (Int8.ofInt n).toInt32 = Int32.ofInt n := by
  have h1 : (Int8.ofInt n).toInt = n := Int8.toInt_ofInt_of_le (by omega) (by omega)
  rw [← Int32.toInt_inj, Int8.toInt_toInt32, h1, y32 (by constructor <;> omega)]
theorem y_i16 {n : Int} (h : -32768 ≤ n ∧ n ≤ 32767) : (Int16.ofInt n).toInt32 = Int32.ofInt n := by
  have h1 : (Int16.ofInt n).toInt = n := Int16.toInt_ofInt_of_le (by omega) (by omega)
  rw [← Int32.toInt_inj, Int16.toInt_toInt32, h1, y32 (by constructor <;> omega)]
theorem yto {pc : Nat} {off : Int} (h : 0 ≤ (pc : Int) + off) : (pc : Int) + off = (xto pc off : Int) := by
  unfold xto; omega
theorem ytab {K : Nat → Prop} {a : Int} : ∀ (os : List Int) (v : Int) (j : Nat) (o : Int), os[j]? = some o → a = v + j → xtab pc K a v os → K (xto pc o)
  | [], _, j, o, h, _, _ => by simp at h
  | o0 :: os, v, 0, o, h, he, t => by
    simp at h
    subst h
    exact t.1 (by omega)
  | o0 :: os, v, j + 1, o, h, he, t => ytab os (v + 1) j o (by simpa using h) (by omega) t.2
theorem y_one {n : Nat} {v : xV} (h : xone v = true) : (ycv b ads v).category = 1 := by
  rcases v with _ | (x | x | x)
  · cases h
  · rfl
  · cases h
  · exact yrf_cat x
set_option maxHeartbeats 4000000 in
theorem yins1 (F : yF p s m args meth c T D cI cZ cS b L xs A) {C : xC} {lim : Nat × Nat} {mks : List (Nat × Nat × Nat)} {Qx : xQ} {bl : Bool} {K : xK} (hK : ∀ pc ls st g w, K pc ls st g w → yP p l e R s m args below meth c Q D cI cZ cS b L xs z0 A T.1.2.2.1 n0 s0 pc ls st g w)
    {ie : xE} (hd : ∃ k, decode T.1.2.1 pc = .ok (ie.1, k) ∧ ((∃ d lo hi os, ie.1 = .tableswitch d lo hi os) ∨ k = xln ie.1)) (hE : yE1 T.2.2.1 pc ie) (hy : y1 ie.1 = true) (h : xsem C lim mks Qx bl ie pc ls st g w K) : yP p l e R s m args below meth c Q D cI cZ cS b L xs z0 A T.1.2.2.1 n0 s0 pc ls st g w := by
  obtain ⟨hx, hb, hml, hr, hlk, hown, hnm, hts, hN, hKK, hX, hbl, hbA, hA⟩ := F
  intro ads H locs la I hR
  obtain ⟨ins, ie⟩ := ie
  obtain ⟨k, hd, hk⟩ := hd
  have hk2 : (∀ d lo hi os, ins ≠ .tableswitch d lo hi os) → decode T.1.2.1 pc = .ok (ins, xln ins) := fun hn => by
    rcases hk with ⟨d, lo, hi, os, q⟩ | q
    · exact absurd q (hn d lo hi os)
    · rw [hd, q]
  cases ins
  case iconst n =>
    exact lv_iconst hx hb (hk2 (by intros; simp)) rfl (hK _ _ _ _ _ h ads H locs la (I.push (v := xi n) hE) hR)
  case bipush n =>
    exact lv_bipush hx hb (hk2 (by intros; simp)) (y_i8 hE) (hK _ _ _ _ _ h ads H locs la (I.push (v := xi n) (by have := hE.1; have := hE.2; constructor <;> omega)) hR)
  case sipush n =>
    exact lv_sipush hx hb (hk2 (by intros; simp)) (y_i16 hE) (hK _ _ _ _ _ h ads H locs la (I.push (v := xi n) (by have := hE.1; have := hE.2; constructor <;> omega)) hR)
  case lconst n =>
    refine lv_lconst hx hb (hk2 (by intros; simp)) ?_ (hK _ _ _ _ _ h ads H locs la (I.push (v := xl (n.val : Nat)) (by have := n.isLt; constructor <;> omega)) hR)
    show Int64.ofNat (n : Nat) = Int64.ofInt ((n.val : Nat) : Int)
    rw [Int64.ofInt_eq_ofNat]
  case ldc i =>
    exact lv_ldc hx hb hown (hts _ hE.1) (hk2 (by intros; simp)) (hK _ _ _ _ _ h ads H locs la (I.push (v := xi ie.2.2.2) hE.2) hR)
  case ldc_w i =>
    exact lv_ldcw hx hb hown (hts _ hE.1) (hk2 (by intros; simp)) (hK _ _ _ _ _ h ads H locs la (I.push (v := xi ie.2.2.2) hE.2) hR)
  case ldc2_w i =>
    exact lv_ldc2 hx hb hown (hts _ hE.1) (hk2 (by intros; simp)) (hK _ _ _ _ _ h ads H locs la (I.push (v := xl ie.2.2.2) hE.2) hR)
  case iload i =>
    obtain ⟨v, hv, h⟩ := yldI h
    exact lv_iload hx hb (hk2 (by intros; simp)) (I.loc hv).1 (hK _ _ _ _ _ h ads H locs la (I.push (v := xi v) (I.loc hv).2) hR)
  case iload_n i =>
    obtain ⟨v, hv, h⟩ := yldI h
    exact lv_iload_n hx hb (hk2 (by intros; simp)) rfl (I.loc hv).1 (hK _ _ _ _ _ h ads H locs la (I.push (v := xi v) (I.loc hv).2) hR)
  case lload i =>
    obtain ⟨v, hv, h⟩ := yldL h
    exact lv_lload hx hb (hk2 (by intros; simp)) (I.loc hv).1 (hK _ _ _ _ _ h ads H locs la (I.push (v := xl v) (I.loc hv).2) hR)
  case lload_n i =>
    obtain ⟨v, hv, h⟩ := yldL h
    exact lv_lload_n hx hb (hk2 (by intros; simp)) rfl (I.loc hv).1 (hK _ _ _ _ _ h ads H locs la (I.push (v := xl v) (I.loc hv).2) hR)
  case aload i =>
    obtain ⟨v, hv, h⟩ := yldR h
    have q := I.loc hv
    have k1 := hK _ _ _ _ _ h ads H locs la (I.push (v := xr v) q.2) hR
    have q1 : la[i]? = some (.val (yrf b ads v)) := q.1
    have k1 : W p l e R s m args below meth c H locs (g.1.length - n0) (xsl g.1 - s0) Q (F0 m (pc + 2) la (yrf b ads v :: st.map (ycv b ads))) := k1
    by_cases h0 : v = 0
    · subst h0
      exact lv_aloadN hx hb (hk2 (by intros; simp)) q1 k1
    · rw [yrf_of h0] at q1 k1
      exact lv_aload hx hb (hk2 (by intros; simp)) q1 k1
  case aload_n i =>
    obtain ⟨v, hv, h⟩ := yldR h
    have q := I.loc hv
    have k1 := hK _ _ _ _ _ h ads H locs la (I.push (v := xr v) q.2) hR
    have q1 : la[i.val]? = some (.val (yrf b ads v)) := q.1
    have k1 : W p l e R s m args below meth c H locs (g.1.length - n0) (xsl g.1 - s0) Q (F0 m (pc + 1) la (yrf b ads v :: st.map (ycv b ads))) := k1
    by_cases h0 : v = 0
    · subst h0
      exact lv_aload_nN hx hb (hk2 (by intros; simp)) rfl q1 k1
    · rw [yrf_of h0] at q1 k1
      exact lv_aload_n hx hb (hk2 (by intros; simp)) rfl q1 k1
  case istore i =>
    obtain ⟨v, r, rfl, hh⟩ := yu h
    obtain ⟨⟨h1, h2⟩, h⟩ := ysto hh
    exact lv_istore (x := Int32.ofInt v) (rest := r.map (ycv b ads)) hx hb (hk2 (by intros; simp)) (yll_has I.2.2.2.2.2.2) (by rw [← I.2.2.2.2.2.2.2.1]; exact h1) rfl (fun la2 hl2 => hK _ _ _ _ _ h ads H locs la2 (I.tl.set h1 h2 I.hd hl2) hR)
  case istore_n i =>
    obtain ⟨v, r, rfl, hh⟩ := yu h
    obtain ⟨⟨h1, h2⟩, h⟩ := ysto hh
    exact lv_istore_n (x := Int32.ofInt v) (rest := r.map (ycv b ads)) hx hb (hk2 (by intros; simp)) rfl (yll_has I.2.2.2.2.2.2) (by rw [← I.2.2.2.2.2.2.2.1]; exact h1) rfl (fun la2 hl2 => hK _ _ _ _ _ h ads H locs la2 (I.tl.set h1 h2 I.hd hl2) hR)
  case astore i =>
    obtain ⟨v, r, rfl, hh⟩ := yuR h
    obtain ⟨⟨h1, h2⟩, h⟩ := ysto hh
    show W p l e R s m args below meth c H locs (g.1.length - n0) (xsl g.1 - s0) Q (F0 m pc la (yrf b ads v :: r.map (ycv b ads)))
    by_cases h0 : v = 0
    · subst h0
      exact lv_astoreN (rest := r.map (ycv b ads)) hx hb (hk2 (by intros; simp)) (yll_has I.2.2.2.2.2.2) (by rw [← I.2.2.2.2.2.2.2.1]; exact h1) rfl (fun la2 hl2 => hK _ _ _ _ _ h ads H locs la2 (I.tl.set h1 h2 I.hd hl2) hR)
    · rw [yrf_of h0]
      refine lv_astore (rest := r.map (ycv b ads)) hx hb (hk2 (by intros; simp)) (yll_has I.2.2.2.2.2.2) (by rw [← I.2.2.2.2.2.2.2.1]; exact h1) rfl (fun la2 hl2 => hK _ _ _ _ _ h ads H locs la2 (I.tl.set h1 h2 I.hd ?_) hR)
      rw [show ycv b ads (some (.inr (.inr v))) = .ref (yad b ads v) from yrf_of h0]
      exact hl2
  case astore_n i =>
    obtain ⟨v, r, rfl, hh⟩ := yuR h
    obtain ⟨⟨h1, h2⟩, h⟩ := ysto hh
    show W p l e R s m args below meth c H locs (g.1.length - n0) (xsl g.1 - s0) Q (F0 m pc la (yrf b ads v :: r.map (ycv b ads)))
    by_cases h0 : v = 0
    · subst h0
      exact lv_astore_nN (rest := r.map (ycv b ads)) hx hb (hk2 (by intros; simp)) rfl (yll_has I.2.2.2.2.2.2) (by rw [← I.2.2.2.2.2.2.2.1]; exact h1) rfl (fun la2 hl2 => hK _ _ _ _ _ h ads H locs la2 (I.tl.set h1 h2 I.hd hl2) hR)
    · rw [yrf_of h0]
      refine lv_astore_n (rest := r.map (ycv b ads)) hx hb (hk2 (by intros; simp)) rfl (yll_has I.2.2.2.2.2.2) (by rw [← I.2.2.2.2.2.2.2.1]; exact h1) rfl (fun la2 hl2 => hK _ _ _ _ _ h ads H locs la2 (I.tl.set h1 h2 I.hd ?_) hR)
      rw [show ycv b ads (some (.inr (.inr v))) = .ref (yad b ads v) from yrf_of h0]
      exact hl2
  case iinc i n =>
    obtain ⟨v, hv, h32, h⟩ := yldI h
    obtain ⟨⟨h1, h2⟩, h⟩ := ysto h
    obtain ⟨j, hj⟩ := List.getElem?_of_mem (yll_mem (b := b) (ads := ads) hv)
    exact lv_iinc (x := Int32.ofInt v) (v := Int32.ofInt (v + n)) hx hb (hk2 (by intros; simp)) (yll_has I.2.2.2.2.2.2) hj (by rw [Int32.ofInt_add]) (by rw [← I.2.2.2.2.2.2.2.1]; exact h1) rfl (fun la2 hl2 => hK _ _ _ _ _ h ads H locs la2 (I.set h1 h2 h32 hl2) hR)
  case iadd =>
    obtain ⟨u, v, r, rfl, h32, h⟩ := yb h
    have k1 := hK _ _ _ _ _ h ads H locs la (I.tl.tl.push (v := xi (u + v)) h32) hR
    refine lv_iadd (x := Int32.ofInt u) (y := Int32.ofInt v) (rest := r.map (ycv b ads)) hx hb (hk2 (by intros; simp)) ?_
    rw [← Int32.ofInt_add]; exact k1
  case isub =>
    obtain ⟨u, v, r, rfl, h32, h⟩ := yb h
    have k1 := hK _ _ _ _ _ h ads H locs la (I.tl.tl.push (v := xi (u - v)) h32) hR
    refine lv_isub (x := Int32.ofInt u) (y := Int32.ofInt v) (rest := r.map (ycv b ads)) hx hb (hk2 (by intros; simp)) ?_
    rw [← Int32.ofInt_sub]; exact k1
  case imul =>
    obtain ⟨u, v, r, rfl, h32, h⟩ := yb h
    have k1 := hK _ _ _ _ _ h ads H locs la (I.tl.tl.push (v := xi (u * v)) h32) hR
    refine lv_imul (x := Int32.ofInt u) (y := Int32.ofInt v) (rest := r.map (ycv b ads)) hx hb (hk2 (by intros; simp)) ?_
    rw [← Int32.ofInt_mul]; exact k1
  case idiv =>
    obtain ⟨u, v, r, rfl, ⟨h0, h32⟩, h⟩ := yb h
    have k1 := hK _ _ _ _ _ h ads H locs la (I.tl.tl.push (v := xi (u.tdiv v)) h32) hR
    refine lv_idiv (x := Int32.ofInt u) (y := Int32.ofInt v) (rest := r.map (ycv b ads)) hx hb (hk2 (by intros; simp)) (y_nz I.hd h0) ?_
    rw [← y_div I.tl.hd I.hd]; exact k1
  case irem =>
    obtain ⟨u, v, r, rfl, ⟨h0, h32⟩, h⟩ := yb h
    have k1 := hK _ _ _ _ _ h ads H locs la (I.tl.tl.push (v := xi (u.tmod v)) (y_tmod32 v I.tl.hd)) hR
    refine lv_irem (x := Int32.ofInt u) (y := Int32.ofInt v) (rest := r.map (ycv b ads)) hx hb (hk2 (by intros; simp)) (y_nz I.hd h0) ?_
    rw [← y_rem I.tl.hd I.hd]; exact k1
  case iand =>
    obtain ⟨u, v, r, rfl, h⟩ := yb h
    have k1 := hK _ _ _ _ _ h ads H locs la (I.tl.tl.push (v := xi (xAnd u v)) (y32r _)) hR
    refine lv_iand (x := Int32.ofInt u) (y := Int32.ofInt v) (rest := r.map (ycv b ads)) hx hb (hk2 (by intros; simp)) ?_
    rw [show Int32.ofInt u &&& Int32.ofInt v = Int32.ofInt (xAnd u v) from (Int32.ofInt_toInt _).symm]; exact k1
  case ior =>
    obtain ⟨u, v, r, rfl, h⟩ := yb h
    have k1 := hK _ _ _ _ _ h ads H locs la (I.tl.tl.push (v := xi (xOr u v)) (y32r _)) hR
    refine lv_ior (x := Int32.ofInt u) (y := Int32.ofInt v) (rest := r.map (ycv b ads)) hx hb (hk2 (by intros; simp)) ?_
    rw [show Int32.ofInt u ||| Int32.ofInt v = Int32.ofInt (xOr u v) from (Int32.ofInt_toInt _).symm]; exact k1
  case ixor =>
    obtain ⟨u, v, r, rfl, h⟩ := yb h
    have k1 := hK _ _ _ _ _ h ads H locs la (I.tl.tl.push (v := xi (xXor u v)) (y32r _)) hR
    refine lv_ixor (x := Int32.ofInt u) (y := Int32.ofInt v) (rest := r.map (ycv b ads)) hx hb (hk2 (by intros; simp)) ?_
    rw [show Int32.ofInt u ^^^ Int32.ofInt v = Int32.ofInt (xXor u v) from (Int32.ofInt_toInt _).symm]; exact k1
  case ishl =>
    obtain ⟨u, v, r, rfl, h⟩ := yb h
    have k1 := hK _ _ _ _ _ h ads H locs la (I.tl.tl.push (v := xi (xShl u v)) (y32r _)) hR
    refine lv_ishl (x := Int32.ofInt u) (y := Int32.ofInt v) (rest := r.map (ycv b ads)) hx hb (hk2 (by intros; simp)) ?_
    rw [show Int32.ofInt u <<< (Int32.ofInt v &&& 31) = Int32.ofInt (xShl u v) from (Int32.ofInt_toInt _).symm]; exact k1
  case ishr =>
    obtain ⟨u, v, r, rfl, h⟩ := yb h
    have k1 := hK _ _ _ _ _ h ads H locs la (I.tl.tl.push (v := xi (xShr u v)) (y32r _)) hR
    refine lv_ishr (x := Int32.ofInt u) (y := Int32.ofInt v) (rest := r.map (ycv b ads)) hx hb (hk2 (by intros; simp)) ?_
    rw [show Int32.ofInt u >>> (Int32.ofInt v &&& 31) = Int32.ofInt (xShr u v) from (Int32.ofInt_toInt _).symm]; exact k1
  case iushr =>
    obtain ⟨u, v, r, rfl, h⟩ := yb h
    have k1 := hK _ _ _ _ _ h ads H locs la (I.tl.tl.push (v := xi (xUshr u v)) (y32r _)) hR
    exact lv_iushr (x := Int32.ofInt u) (y := Int32.ofInt v) (v := Int32.ofInt (xUshr u v)) (rest := r.map (ycv b ads)) hx hb (hk2 (by intros; simp)) (Int32.ofInt_toInt _).symm k1
  case ladd =>
    obtain ⟨u, v, r, rfl, h64, h⟩ := ybL h
    have k1 := hK _ _ _ _ _ h ads H locs la (I.tl.tl.push (v := xl (u + v)) h64) hR
    refine lv_ladd (x := Int64.ofInt u) (y := Int64.ofInt v) (rest := r.map (ycv b ads)) hx hb (hk2 (by intros; simp)) ?_
    rw [← Int64.ofInt_add]; exact k1
  case lmul =>
    obtain ⟨u, v, r, rfl, h64, h⟩ := ybL h
    have k1 := hK _ _ _ _ _ h ads H locs la (I.tl.tl.push (v := xl (u * v)) h64) hR
    refine lv_lmul (x := Int64.ofInt u) (y := Int64.ofInt v) (rest := r.map (ycv b ads)) hx hb (hk2 (by intros; simp)) ?_
    rw [← Int64.ofInt_mul]; exact k1
  case lrem =>
    obtain ⟨u, v, r, rfl, ⟨h0, h64⟩, h⟩ := ybL h
    have k1 := hK _ _ _ _ _ h ads H locs la (I.tl.tl.push (v := xl (u.tmod v)) (y_tmod64 v I.tl.hd)) hR
    refine lv_lrem (x := Int64.ofInt u) (y := Int64.ofInt v) (rest := r.map (ycv b ads)) hx hb (hk2 (by intros; simp)) (y_nzL I.hd h0) ?_
    rw [← y_remL I.tl.hd I.hd]; exact k1
  case land =>
    obtain ⟨u, v, r, rfl, h⟩ := ybL h
    have k1 := hK _ _ _ _ _ h ads H locs la (I.tl.tl.push (v := xl (xLand u v)) (y64r _)) hR
    refine lv_land (x := Int64.ofInt u) (y := Int64.ofInt v) (rest := r.map (ycv b ads)) hx hb (hk2 (by intros; simp)) ?_
    rw [show Int64.ofInt u &&& Int64.ofInt v = Int64.ofInt (xLand u v) from (Int64.ofInt_toInt _).symm]; exact k1
  case lcmp =>
    obtain ⟨u, v, r, rfl, h⟩ := ybL h
    have k1 := hK _ _ _ _ _ h ads H locs la (I.tl.tl.push (v := xi (xCmp u v)) (y_cmp32 u v)) hR
    refine W.lcmp (x := Int64.ofInt u) (y := Int64.ofInt v) (rest := r.map (ycv b ads)) hx hb (hk2 (by intros; simp)) ?_
    rw [y_cmp I.tl.hd I.hd]; exact k1
  case i2l =>
    obtain ⟨u, r, rfl, h⟩ := yu h
    have hu : x32 u := I.hd
    exact lv_i2l (x := Int32.ofInt u) (v := Int64.ofInt u) (rest := r.map (ycv b ads)) hx hb (hk2 (by intros; simp)) (y_i2l hu) (hK _ _ _ _ _ h ads H locs la (I.tl.push (v := xl u) (by have := hu.1; have := hu.2; constructor <;> omega)) hR)
  case l2i =>
    obtain ⟨u, r, rfl, h32, h⟩ := yuL h
    exact lv_l2i (x := Int64.ofInt u) (v := Int32.ofInt u) (rest := r.map (ycv b ads)) hx hb (hk2 (by intros; simp)) Int64.toInt32_ofInt (hK _ _ _ _ _ h ads H locs la (I.tl.push (v := xi u) h32) hR)
  case pop =>
    rcases st with _ | ⟨v, r⟩
    · exact h.elim
    · have h : (match xone v with | true => K (pc + 1) ls r g w | false => False) := h
      split at h
      · rename_i q
        exact lv_pop (va := ycv b ads v) (rest := r.map (ycv b ads)) hx hb (hk2 (by intros; simp)) (y_one (n := 0) q) (hK _ _ _ _ _ h ads H locs la I.tl hR)
      · exact h.elim
  case dup =>
    rcases st with _ | ⟨v, r⟩
    · exact h.elim
    · have h : (match xone v with | true => K (pc + 1) ls (v :: v :: r) g w | false => False) := h
      split at h
      · rename_i q
        exact lv_dup (va := ycv b ads v) (rest := r.map (ycv b ads)) hx hb (hk2 (by intros; simp)) (y_one (n := 0) q) (hK _ _ _ _ _ h ads H locs la (I.push I.hd) hR)
      · exact h.elim
  case dup2 =>
    rcases st with _ | ⟨u, _ | ⟨v, r⟩⟩
    · exact h.elim
    · exact h.elim
    · have h : (match xone u && xone v with | true => K (pc + 1) ls (u :: v :: u :: v :: r) g w | false => False) := h
      split at h
      · rename_i q
        rw [Bool.and_eq_true] at q
        exact lv_dup2_11 (va := ycv b ads u) (vb := ycv b ads v) (rest := r.map (ycv b ads)) hx hb (hk2 (by intros; simp)) (y_one (n := 0) q.1) (y_one (n := 0) q.2) (hK _ _ _ _ _ h ads H locs la ((I.push I.tl.hd).push I.hd) hR)
      · exact h.elim
  case goto off =>
    exact lv_goto hx hb (hk2 (by intros; simp)) (yto hE) (hK _ _ _ _ _ h ads H locs la I hR)
  case ifCond cd off =>
    obtain ⟨u, r, rfl, ht, hf⟩ := yu h
    have hu : x32 u := I.hd
    have hz : x32 0 := by decide
    have kt := fun q => hK _ _ _ _ _ (ht q) ads H locs la I.tl hR
    have kf := fun q => hK _ _ _ _ _ (hf q) ads H locs la I.tl hR
    have hd3 := hk2 (by intros; simp)
    cases cd
    · exact lv_if_eq (x := Int32.ofInt u) (rest := r.map (ycv b ads)) hx hb hd3 (yto hE) (fun q => kt ((y_eq hu hz).mp q)) (fun q => kf (fun q2 => q ((y_eq hu hz).mpr q2)))
    · exact lv_if_ne (x := Int32.ofInt u) (rest := r.map (ycv b ads)) hx hb hd3 (yto hE) (fun q => kt (fun q2 => q ((y_eq hu hz).mpr q2))) (fun q => kf ((y_eq hu hz).mp q))
    · exact lv_if_lt (x := Int32.ofInt u) (rest := r.map (ycv b ads)) hx hb hd3 (yto hE) (fun q => kt ((y_lt hu hz).mp q)) (fun q => kf (Int.not_lt.mp fun q2 => q ((y_lt hu hz).mpr q2)))
    · exact lv_if_ge (x := Int32.ofInt u) (rest := r.map (ycv b ads)) hx hb hd3 (yto hE) (fun q => kt ((y_le hz hu).mp q)) (fun q => kf (Int.not_le.mp fun q2 => q ((y_le hz hu).mpr q2)))
    · exact lv_if_gt (x := Int32.ofInt u) (rest := r.map (ycv b ads)) hx hb hd3 (yto hE) (fun q => kt ((y_lt hz hu).mp q)) (fun q => kf (Int.not_lt.mp fun q2 => q ((y_lt hz hu).mpr q2)))
    · exact lv_if_le (x := Int32.ofInt u) (rest := r.map (ycv b ads)) hx hb hd3 (yto hE) (fun q => kt ((y_le hu hz).mp q)) (fun q => kf (Int.not_le.mp fun q2 => q ((y_le hu hz).mpr q2)))
  case if_icmp cd off =>
    obtain ⟨u, v, r, rfl, ht, hf⟩ := yb h
    have hv : x32 v := I.hd
    have hu : x32 u := I.tl.hd
    have kt := fun q => hK _ _ _ _ _ (ht q) ads H locs la I.tl.tl hR
    have kf := fun q => hK _ _ _ _ _ (hf q) ads H locs la I.tl.tl hR
    have hd3 := hk2 (by intros; simp)
    cases cd
    · exact lv_icmp_eq (x := Int32.ofInt u) (y := Int32.ofInt v) (rest := r.map (ycv b ads)) hx hb hd3 (yto hE) (fun q => kt ((y_eq hu hv).mp q)) (fun q => kf (fun q2 => q ((y_eq hu hv).mpr q2)))
    · exact lv_icmp_ne (x := Int32.ofInt u) (y := Int32.ofInt v) (rest := r.map (ycv b ads)) hx hb hd3 (yto hE) (fun q => kt (fun q2 => q ((y_eq hu hv).mpr q2))) (fun q => kf ((y_eq hu hv).mp q))
    · exact lv_icmp_lt (x := Int32.ofInt u) (y := Int32.ofInt v) (rest := r.map (ycv b ads)) hx hb hd3 (yto hE) (fun q => kt ((y_lt hu hv).mp q)) (fun q => kf (Int.not_lt.mp fun q2 => q ((y_lt hu hv).mpr q2)))
    · exact lv_icmp_ge (x := Int32.ofInt u) (y := Int32.ofInt v) (rest := r.map (ycv b ads)) hx hb hd3 (yto hE) (fun q => kt ((y_le hv hu).mp q)) (fun q => kf (Int.not_le.mp fun q2 => q ((y_le hv hu).mpr q2)))
    · exact lv_icmp_gt (x := Int32.ofInt u) (y := Int32.ofInt v) (rest := r.map (ycv b ads)) hx hb hd3 (yto hE) (fun q => kt ((y_lt hv hu).mp q)) (fun q => kf (Int.not_lt.mp fun q2 => q ((y_lt hv hu).mpr q2)))
    · exact lv_icmp_le (x := Int32.ofInt u) (y := Int32.ofInt v) (rest := r.map (ycv b ads)) hx hb hd3 (yto hE) (fun q => kt ((y_le hu hv).mp q)) (fun q => kf (Int.not_le.mp fun q2 => q ((y_le hu hv).mpr q2)))
  case tableswitch d lo hi offs =>
    obtain ⟨u, r, rfl, ht, hf⟩ := yu h
    have hu : x32 u := I.hd
    obtain ⟨e1, e2, e3⟩ := hE
    by_cases q : u < lo ∨ hi < u
    · exact lv_tableOut (x := Int32.ofInt u) (rest := r.map (ycv b ads)) hx hb hd (by rw [y32 hu]; exact q) (yto e1) (hK _ _ _ _ _ (ht q) ads H locs la I.tl hR)
    · have q1 : ¬ u < lo := fun z => q (Or.inl z)
      have q2 : ¬ hi < u := fun z => q (Or.inr z)
      have hj : (u - lo).toNat < offs.size := by omega
      have ho : offs[(u - lo).toNat]? = some offs[(u - lo).toNat] := Array.getElem?_eq_getElem hj
      have ho2 : offs.toList[(u - lo).toNat]? = some offs[(u - lo).toNat] := by rw [Array.getElem?_toList]; exact ho
      exact lv_tableIn (x := Int32.ofInt u) (rest := r.map (ycv b ads)) hx hb hd (by rw [y32 hu]; exact q1) (by rw [y32 hu]; exact q2) (by rw [y32 hu]; exact ho) (yto (e2 _ (List.mem_of_getElem? ho2))) (hK _ _ _ _ _ (ytab (K := fun t => K t ls r g w) offs.toList lo (u - lo).toNat _ ho2 (by omega) hf) ads H locs la I.tl hR)
  all_goals first
    | exact h.elim
    | exact absurd hy (by simp [y1])
end YI1
