/-! ===== AN ABSTRACT MACHINE: weakest preconditions of the bytecode over plain numbers. A value: a number, a long, a reference (0 null); a heap: the cells' shapes and references (xG), their numbers (xW) ===== -/
abbrev xV : Type := Option (Int ⊕ Int ⊕ Nat)
abbrev xi (v : Int) : xV := some (.inl v)
abbrev xl (v : Int) : xV := some (.inr (.inl v))
abbrev xr (a : Nat) : xV := some (.inr (.inr a))
abbrev xG : Type := List (Nat × Nat) × (Nat → Nat → Nat)
abbrev xW : Type := Nat → Nat → Int
abbrev xK : Type := Nat → List xV → List xV → xG → xW → Prop
abbrev xQ : Type := Option xV → xG → xW → Prop
abbrev xC : Type := Nat → List xV → xG → xW → xQ → Prop
/-- an instruction, and what its pool entry was resolved to: for a field class and place; for a call the method's number, how many values it takes, its class, its kind; for a constant its value -/
abbrev xE : Type := Instr × Nat × Nat × Nat × Int
abbrev x32 (v : Int) : Prop := -2147483648 ≤ v ∧ v ≤ 2147483647
abbrev x64 (v : Int) : Prop := -9223372036854775808 ≤ v ∧ v ≤ 9223372036854775807
/-- the cell a is of that shape: (0, class), (1, length) of ints, (2, length) of booleans, (3, length) of States, (4, length) the script -/
def xIs (g : xG) (a : Nat) (q : Nat × Nat) : Prop := a ≠ 0 ∧ g.1[a - 1]? = some q
def xup {α : Type} (w : Nat → Nat → α) (a k : Nat) (v : α) : Nat → Nat → α := fun a' k' => if a' = a ∧ k' = k then v else w a' k'
def xcp (w : xW) (a : Nat) (sp : Nat) (b : Nat) (dp n : Nat) : xW := fun a' k => if a' = b ∧ dp ≤ k ∧ k < dp + n then w a (sp + (k - dp)) else w a' k
def xlen (g : xG) (a : Nat) : Nat := (g.1[a - 1]?.getD (0, 0)).2
def xAr (g : xG) (a : Nat) (i : Int) : Prop := ∃ n : Nat, (xIs g a (1, n) ∨ xIs g a (4, n)) ∧ 0 ≤ i ∧ i < n
def xA1 (g : xG) (a : Nat) (i : Int) : Prop := ∃ n : Nat, xIs g a (1, n) ∧ 0 ≤ i ∧ i < n
def xA2 (g : xG) (a : Nat) (i : Int) : Prop := ∃ n : Nat, xIs g a (2, n) ∧ 0 ≤ i ∧ i < n
def xA3 (g : xG) (a : Nat) (i : Int) : Prop := ∃ n : Nat, xIs g a (3, n) ∧ 0 ≤ i ∧ i < n
def xAl (g : xG) (a : Nat) : Prop := ∃ k n : Nat, xIs g a (k + 1, n) ∧ k < 4 ∧ n < 2147483648
def xCo (g : xG) (a : Nat) (i n : Int) : Prop := ∃ l : Nat, xIs g a (1, l) ∧ 0 ≤ i ∧ 0 ≤ n ∧ i + n ≤ l
/-- which fields hold references -/
def xfr (ci k : Nat) : Bool := match ([tyX0, tyX1, tyX2, tyX3, tyX4, tyX5, tyX6, tyX7][ci]?) with
  | some t => match t k with
    | .int => false
    | _ => true
  | none => false
def xnf (ci : Nat) : Nat := ([1, 4, 9, 18, 7, 13, 13, 52][ci]?).getD 0
def xsz (q : Nat × Nat) : Nat := match q.1 with
  | 0 => xnf q.2
  | _ => q.2
def xsl (l : List (Nat × Nat)) : Nat := (l.map xsz).sum
def xAnd (a b : Int) : Int := (Int32.ofInt a &&& Int32.ofInt b).toInt
def xOr (a b : Int) : Int := (Int32.ofInt a ||| Int32.ofInt b).toInt
def xXor (a b : Int) : Int := (Int32.ofInt a ^^^ Int32.ofInt b).toInt
def xShl (a b : Int) : Int := (Int32.ofInt a <<< (Int32.ofInt b &&& 31)).toInt
def xShr (a b : Int) : Int := (Int32.ofInt a >>> (Int32.ofInt b &&& 31)).toInt
def xUshr (a b : Int) : Int := ((Int32.ofInt a).toUInt32 >>> ((Int32.ofInt b).toUInt32 &&& Int32.toUInt32 31)).toInt32.toInt
def xLand (a b : Int) : Int := (Int64.ofInt a &&& Int64.ofInt b).toInt
def xCmp (a b : Int) : Int := if b < a then 1 else if a = b then 0 else -1
def xldI (ls : List xV) (i : Nat) (k : Int → Prop) : Prop := match ls[i]? with
  | some (some (.inl v)) => k v
  | _ => False
def xldL (ls : List xV) (i : Nat) (k : Int → Prop) : Prop := match ls[i]? with
  | some (some (.inr (.inl v))) => k v
  | _ => False
def xldR (ls : List xV) (i : Nat) (k : Nat → Prop) : Prop := match ls[i]? with
  | some (some (.inr (.inr v))) => k v
  | _ => False
def xnl (ls : List xV) (i : Nat) : Bool := match i with
  | 0 => true
  | j + 1 => match ls[j]? with
    | some (some (.inr (.inl _))) => false
    | _ => true
def xsto (ls : List xV) (i : Nat) (v : xV) (k : List xV → Prop) : Prop := match (Nat.blt i ls.length && xnl ls i) with
  | true => k (ls.set i v)
  | false => False
def xu (st : List xV) (k : Int → List xV → Prop) : Prop := match st with
  | some (.inl a) :: r => k a r
  | _ => False
def xuL (st : List xV) (k : Int → List xV → Prop) : Prop := match st with
  | some (.inr (.inl a)) :: r => k a r
  | _ => False
def xuR (st : List xV) (k : Nat → List xV → Prop) : Prop := match st with
  | some (.inr (.inr a)) :: r => k a r
  | _ => False
def xb (st : List xV) (k : Int → Int → List xV → Prop) : Prop := xu st fun b r => xu r fun a r => k a b r
def xbL (st : List xV) (k : Int → Int → List xV → Prop) : Prop := xuL st fun b r => xuL r fun a r => k a b r
/-- an array's cell and a place -/
def xai (st : List xV) (k : Nat → Int → List xV → Prop) : Prop := xu st fun i r => xuR r fun a r => k a i r
def xc (c : Jvm.ClassFile.Cond) (a b : Int) : Prop := match c with
  | .eq => a = b
  | .ne => ¬ a = b
  | .lt => a < b
  | .ge => b ≤ a
  | .gt => b < a
  | .le => a ≤ b
def xnc (c : Jvm.ClassFile.Cond) (a b : Int) : Prop := match c with
  | .eq => ¬ a = b
  | .ne => a = b
  | .lt => b ≤ a
  | .ge => a < b
  | .gt => a ≤ b
  | .le => b < a
def xto (pc : Nat) (off : Int) : Nat := ((pc : Int) + off).toNat
def xtab (pc : Nat) (k : Nat → Prop) (a : Int) : Int → List Int → Prop
  | _, [] => True
  | v, o :: os => (a = v → k (xto pc o)) ∧ xtab pc k a (v + 1) os
def xone (v : xV) : Bool := match v with
  | some (.inl _) => true
  | some (.inr (.inr _)) => true
  | _ => false
/-- a call's answer: kind 0 none, kind 1 a number -/
def xans (n : Int) (C : xQ → Prop) (k : List xV → xG → xW → Prop) : Prop := match n with
  | 1 => C fun r g w => ∃ v : Int, r = some (xi v) ∧ k [xi v] g w
  | _ => C fun r g w => r = none ∧ k [] g w
/-- how many cells and slots a constructor makes -/
def xmk (l : List (Nat × Nat × Nat)) (mi : Nat) : Nat × Nat := match l with
  | [] => (0, 0)
  | (i, q) :: r => bif Nat.beq i mi then q else xmk r mi
def xfit (st : List xV) (n : Nat) : Bool := Nat.ble n st.length && Nat.ble st.length (n + 4)
def xinv (C : xC) (lim : Nat × Nat) (mks : List (Nat × Nat × Nat)) (e : Nat × Nat × Nat × Int) (pc : Nat) (ls args rest : List xV) (g : xG) (w : xW) (K : xK) : Prop := match e.2.2.2 with
  | 2 => (g.1.length + (xmk mks e.1).1 ≤ lim.1 ∧ xsl g.1 + (xmk mks e.1).2 ≤ lim.2) ∧ C e.1 args g w fun r g' w' => r = none ∧ K (pc + 3) ls rest g' w'
  | 1 => C e.1 args g w fun r g' w' => ∃ v : Int, r = some (xi v) ∧ K (pc + 3) ls (xi v :: rest) g' w'
  | 0 => C e.1 args g w fun r g' w' => r = none ∧ K (pc + 3) ls rest g' w'
  | _ => False
def xobj (C : xC) (lim : Nat × Nat) (mks : List (Nat × Nat × Nat)) (e : Nat × Nat × Nat × Int) (pc : Nat) (ls st : List xV) (g : xG) (w : xW) (K : xK) : Prop := match xfit st e.2.1 with
  | true => xuR (st.take e.2.1).reverse fun a as => xIs g a (0, e.2.2.1) ∧ xinv C lim mks e pc ls (xr a :: as) (st.drop e.2.1) g w K
  | false => False
def xsta (C : xC) (lim : Nat × Nat) (mks : List (Nat × Nat × Nat)) (e : Nat × Nat × Nat × Int) (pc : Nat) (ls st : List xV) (g : xG) (w : xW) (K : xK) : Prop := match e.2.2.2 with
  | 4 => xu st fun n st => xu st fun dp st => xuR st fun b st => xu st fun sp st => xuR st fun a st => (xCo g a sp n ∧ xCo g b dp n) ∧ (match Nat.ble st.length 4 with | true => K (pc + 3) ls st g (xcp w a sp.toNat b dp.toNat n.toNat) | false => False)
  | 5 => xb st fun a b r => (match Nat.ble r.length 4 with | true => K (pc + 3) ls (xi (max a b) :: r) g w | false => False)
  | 6 => xb st fun a b r => (match Nat.ble r.length 4 with | true => K (pc + 3) ls (xi (min a b) :: r) g w | false => False)
  | _ => match xfit st e.2.1 with
    | true => xinv C lim mks e pc ls (st.take e.2.1).reverse (st.drop e.2.1) g w K
    | false => False
def xspc (C : xC) (lim : Nat × Nat) (mks : List (Nat × Nat × Nat)) (e : Nat × Nat × Nat × Int) (pc : Nat) (ls st : List xV) (g : xG) (w : xW) (K : xK) : Prop := match e.2.2.2 with
  | 3 => xuR st fun a r => a ≠ 0 ∧ (match Nat.ble r.length 4 with | true => K (pc + 3) ls r g w | false => False)
  | _ => xobj C lim mks e pc ls st g w K
def xputf (ci k : Nat) (pc : Nat) (ls st : List xV) (g : xG) (w : xW) (K : xK) : Prop := match xfr ci k with
  | false => xu st fun v r => xuR r fun a r => xIs g a (0, ci) ∧ K (pc + 3) ls r g (xup w a k v)
  | true => xuR st fun v r => xuR r fun a r => xIs g a (0, ci) ∧ K (pc + 3) ls r (g.1, xup g.2 a k v) w
def xgetf (ci k : Nat) (pc : Nat) (ls st : List xV) (g : xG) (w : xW) (K : xK) : Prop := match xfr ci k with
  | false => xuR st fun a r => xIs g a (0, ci) ∧ K (pc + 3) ls (xi (w a k) :: r) g w
  | true => xuR st fun a r => xIs g a (0, ci) ∧ K (pc + 3) ls (xr (g.2 a k) :: r) g w
def xnew (q : Nat × Nat) (pc : Nat) (ls st : List xV) (g : xG) (w : xW) (lim : Nat × Nat) (K : xK) : Prop := (g.1.length + 1 ≤ lim.1 ∧ xsl g.1 + xsz q ≤ lim.2) ∧ K pc ls (xr (g.1.length + 1) :: st) (g.1 ++ [q], g.2) w
def xiret (bl : Bool) (st : List xV) (Q : Int → Prop) : Prop := xu st fun v r => match r with
  | [] => match bl with
    | true => (v = 0 ∨ v = 1) ∧ Q v
    | false => Q v
  | _ => False
set_option maxRecDepth 4000 in
def xsem (C : xC) (lim : Nat × Nat) (mks : List (Nat × Nat × Nat)) (Q : xQ) (bl : Bool) (e : xE) (pc : Nat) (ls st : List xV) (g : xG) (w : xW) (K : xK) : Prop :=
  match e.1 with
  | .iconst n => K (pc + 1) ls (xi n :: st) g w
  | .bipush n => K (pc + 2) ls (xi n :: st) g w
  | .sipush n => K (pc + 3) ls (xi n :: st) g w
  | .lconst n => K (pc + 1) ls (xl (n.val : Nat) :: st) g w
  | .ldc _ => K (pc + 2) ls (xi e.2.2.2.2 :: st) g w
  | .ldc_w _ => K (pc + 3) ls (xi e.2.2.2.2 :: st) g w
  | .ldc2_w _ => K (pc + 3) ls (xl e.2.2.2.2 :: st) g w
  | .iload i => xldI ls i fun v => K (pc + 2) ls (xi v :: st) g w
  | .iload_n i => xldI ls i.val fun v => K (pc + 1) ls (xi v :: st) g w
  | .lload i => xldL ls i fun v => K (pc + 2) ls (xl v :: st) g w
  | .lload_n i => xldL ls i.val fun v => K (pc + 1) ls (xl v :: st) g w
  | .aload i => xldR ls i fun v => K (pc + 2) ls (xr v :: st) g w
  | .aload_n i => xldR ls i.val fun v => K (pc + 1) ls (xr v :: st) g w
  | .istore i => xu st fun v r => xsto ls i (xi v) fun ls => K (pc + 2) ls r g w
  | .istore_n i => xu st fun v r => xsto ls i.val (xi v) fun ls => K (pc + 1) ls r g w
  | .astore i => xuR st fun v r => xsto ls i (xr v) fun ls => K (pc + 2) ls r g w
  | .astore_n i => xuR st fun v r => xsto ls i.val (xr v) fun ls => K (pc + 1) ls r g w
  | .iinc i n => xldI ls i fun v => x32 (v + n) ∧ xsto ls i (xi (v + n)) fun ls => K (pc + 3) ls st g w
  | .iadd => xb st fun a b r => x32 (a + b) ∧ K (pc + 1) ls (xi (a + b) :: r) g w
  | .isub => xb st fun a b r => x32 (a - b) ∧ K (pc + 1) ls (xi (a - b) :: r) g w
  | .imul => xb st fun a b r => x32 (a * b) ∧ K (pc + 1) ls (xi (a * b) :: r) g w
  | .idiv => xb st fun a b r => (b ≠ 0 ∧ x32 (a.tdiv b)) ∧ K (pc + 1) ls (xi (a.tdiv b) :: r) g w
  | .irem => xb st fun a b r => (b ≠ 0 ∧ x32 (a.tdiv b)) ∧ K (pc + 1) ls (xi (a.tmod b) :: r) g w
  | .iand => xb st fun a b r => K (pc + 1) ls (xi (xAnd a b) :: r) g w
  | .ior => xb st fun a b r => K (pc + 1) ls (xi (xOr a b) :: r) g w
  | .ixor => xb st fun a b r => K (pc + 1) ls (xi (xXor a b) :: r) g w
  | .ishl => xb st fun a b r => K (pc + 1) ls (xi (xShl a b) :: r) g w
  | .ishr => xb st fun a b r => K (pc + 1) ls (xi (xShr a b) :: r) g w
  | .iushr => xb st fun a b r => K (pc + 1) ls (xi (xUshr a b) :: r) g w
  | .ladd => xbL st fun a b r => x64 (a + b) ∧ K (pc + 1) ls (xl (a + b) :: r) g w
  | .lmul => xbL st fun a b r => x64 (a * b) ∧ K (pc + 1) ls (xl (a * b) :: r) g w
  | .lrem => xbL st fun a b r => (b ≠ 0 ∧ x64 (a.tdiv b)) ∧ K (pc + 1) ls (xl (a.tmod b) :: r) g w
  | .land => xbL st fun a b r => K (pc + 1) ls (xl (xLand a b) :: r) g w
  | .lcmp => xbL st fun a b r => K (pc + 1) ls (xi (xCmp a b) :: r) g w
  | .i2l => xu st fun a r => K (pc + 1) ls (xl a :: r) g w
  | .l2i => xuL st fun a r => x32 a ∧ K (pc + 1) ls (xi a :: r) g w
  | .pop => match st with
    | v :: r => match xone v with
      | true => K (pc + 1) ls r g w
      | false => False
    | _ => False
  | .dup => match st with
    | v :: r => match xone v with
      | true => K (pc + 1) ls (v :: v :: r) g w
      | false => False
    | _ => False
  | .dup2 => match st with
    | u :: v :: r => match xone u && xone v with
      | true => K (pc + 1) ls (u :: v :: u :: v :: r) g w
      | false => False
    | _ => False
  | .ifCond c off => xu st fun a r => (xc c a 0 → K (xto pc off) ls r g w) ∧ (xnc c a 0 → K (pc + 3) ls r g w)
  | .if_icmp c off => xb st fun a b r => (xc c a b → K (xto pc off) ls r g w) ∧ (xnc c a b → K (pc + 3) ls r g w)
  | .goto off => K (xto pc off) ls st g w
  | .tableswitch d lo hi offs => xu st fun a r => ((a < lo ∨ hi < a) → K (xto pc d) ls r g w) ∧ xtab pc (fun t => K t ls r g w) a lo offs.toList
  | .getfield _ => xgetf e.2.1 e.2.2.1 pc ls st g w K
  | .putfield _ => xputf e.2.1 e.2.2.1 pc ls st g w K
  | .iaload => xai st fun a i r => xAr g a i ∧ K (pc + 1) ls (xi (w a i.toNat) :: r) g w
  | .baload => xai st fun a i r => xA2 g a i ∧ K (pc + 1) ls (xi (w a i.toNat) :: r) g w
  | .aaload => xai st fun a i r => xA3 g a i ∧ K (pc + 1) ls (xr (g.2 a i.toNat) :: r) g w
  | .iastore => xu st fun v r => xai r fun a i r => xA1 g a i ∧ K (pc + 1) ls r g (xup w a i.toNat v)
  | .bastore => xu st fun v r => xai r fun a i r => (xA2 g a i ∧ (v = 0 ∨ v = 1)) ∧ K (pc + 1) ls r g (xup w a i.toNat v)
  | .aastore => xuR st fun v r => xai r fun a i r => (xA3 g a i ∧ xIs g v (0, 3)) ∧ K (pc + 1) ls r (g.1, xup g.2 a i.toNat v) w
  | .arraylength => xuR st fun a r => xAl g a ∧ K (pc + 1) ls (xi (xlen g a) :: r) g w
  | .new _ => xnew (0, e.2.1) (pc + 3) ls st g w lim K
  | .newarray .int => xu st fun n r => (0 ≤ n ∧ n ≤ 65536) ∧ xnew (1, n.toNat) (pc + 2) ls r g w lim K
  | .newarray .boolean => xu st fun n r => (0 ≤ n ∧ n ≤ 65536) ∧ xnew (2, n.toNat) (pc + 2) ls r g w lim K
  | .anewarray _ => xu st fun n r => (0 ≤ n ∧ n ≤ 65536) ∧ xnew (3, n.toNat) (pc + 3) ls r g w lim K
  | .invokevirtual _ => xobj C lim mks e.2 pc ls st g w K
  | .invokespecial _ => xspc C lim mks e.2 pc ls st g w K
  | .invokestatic _ => xsta C lim mks e.2 pc ls st g w K
  | .ireturn => xiret bl st fun v => Q (some (xi v)) g w
  | .return_ => match st with
    | [] => Q none g w
    | _ => False
  | _ => False
def xfind (pc : Nat) : List (Nat × xE) → Option xE
  | [] => none
  | (p, e) :: r => bif Nat.beq p pc then some e else xfind pc r
/-- a method: name, code, places, answer, cells and slots that it makes, its class's name, whether it answers a boolean, its instructions -/
abbrev xTb : Type := (MethodName × ByteArray × Nat × Option FieldType) × (Nat × Nat) × String × Bool × List (Nat × xE)
def xstep (mks : List (Nat × Nat × Nat)) (T : xTb) (C : xC) (lim : Nat × Nat) (Q : xQ) (pc : Nat) (ls st : List xV) (g : xG) (w : xW) (K : xK) : Prop := match xfind pc T.2.2.2.2 with
  | some e => xsem C lim mks Q T.2.2.2.1 e pc ls st g w K
  | none => False
def xmask : List Bool → List xV → List xV
  | b :: bs, v :: vs => (bif b then v else none) :: xmask bs vs
  | _, vs => vs
def xcut (pc : Nat) : List (Nat × List Bool) → Option (List Bool)
  | [] => none
  | (p, e) :: r => bif Nat.beq p pc then some e else xcut pc r
def xexec (mks : List (Nat × Nat × Nat)) (T : xTb) (C : xC) (lim : Nat × Nat) (Q : xQ) (cuts : List (Nat × List Bool)) (P : xK) : Nat → xK
  | 0 => P
  | n + 1 => fun pc ls st g w => xstep mks T C lim Q pc ls st g w fun pc ls st g w => match xcut pc cuts with
    | some ks => P pc (xmask ks ls) st g w
    | none => xexec mks T C lim Q cuts P n pc ls st g w
/-- from this point on the method comes to an end with Q: the least such set of points -/
def xAt (mks : List (Nat × Nat × Nat)) (T : xTb) (C : xC) (lim : Nat × Nat) (Q : xQ) : xK := fun pc ls st g w => ∀ P : xK, (∀ pc ls st g w, xstep mks T C lim Q pc ls st g w P → P pc ls st g w) → (∀ ks pc ls st g w, P pc (xmask ks ls) st g w → P pc ls st g w) → P pc ls st g w
def xargs : List xV → List xV
  | [] => []
  | some (.inr (.inl v)) :: r => xl v :: none :: xargs r
  | v :: r => v :: xargs r
def xpad (n : Nat) (l : List xV) : List xV := l ++ List.replicate (n - l.length) none
def xchk (m : Nat × Nat) (g g' : xG) : Prop := g'.1.length = g.1.length + m.1 ∧ xsl g'.1 = xsl g.1 + m.2
/-- a call of a method, d calls deep at most -/
def xcall (mks : List (Nat × Nat × Nat)) (MT : List xTb) : Nat → xC
  | 0 => fun _ _ _ _ _ => False
  | d + 1 => fun mi args g w Q => match MT[mi]? with
    | some T => match Nat.ble (xargs args).length T.1.2.2.1 with
      | true => xAt mks T (xcall mks MT d) (g.1.length + T.2.1.1, xsl g.1 + T.2.1.2) (fun r g' w' => xchk T.2.1 g g' ∧ Q r g' w') 0 (xpad T.1.2.2.1 (xargs args)) [] g w
      | false => False
    | none => False
