/-! ===== the machine grows with what is asked behind it; blocks of instructions at once ===== -/
theorem xldI_m {ls : List xV} {i : Nat} {k k' : Int → Prop} (h : ∀ v, k v → k' v) (t : xldI ls i k) : xldI ls i k' := by
  unfold xldI at *; split <;> simp_all
theorem xldL_m {ls : List xV} {i : Nat} {k k' : Int → Prop} (h : ∀ v, k v → k' v) (t : xldL ls i k) : xldL ls i k' := by
  unfold xldL at *; split <;> simp_all
theorem xldR_m {ls : List xV} {i : Nat} {k k' : Nat → Prop} (h : ∀ v, k v → k' v) (t : xldR ls i k) : xldR ls i k' := by
  unfold xldR at *; split <;> simp_all
theorem xsto_m {ls : List xV} {i : Nat} {v : xV} {k k' : List xV → Prop} (h : ∀ v, k v → k' v) (t : xsto ls i v k) : xsto ls i v k' := by
  unfold xsto at *; split <;> simp_all
theorem xu_m {st : List xV} {k k' : Int → List xV → Prop} (h : ∀ v r, k v r → k' v r) (t : xu st k) : xu st k' := by
  unfold xu at *; split <;> simp_all
theorem xuL_m {st : List xV} {k k' : Int → List xV → Prop} (h : ∀ v r, k v r → k' v r) (t : xuL st k) : xuL st k' := by
  unfold xuL at *; split <;> simp_all
theorem xuR_m {st : List xV} {k k' : Nat → List xV → Prop} (h : ∀ v r, k v r → k' v r) (t : xuR st k) : xuR st k' := by
  unfold xuR at *; split <;> simp_all
theorem xb_m {st : List xV} {k k' : Int → Int → List xV → Prop} (h : ∀ u v r, k u v r → k' u v r) (t : xb st k) : xb st k' := xu_m (fun _ _ t => xu_m (fun _ _ t => h _ _ _ t) t) t
theorem xbL_m {st : List xV} {k k' : Int → Int → List xV → Prop} (h : ∀ u v r, k u v r → k' u v r) (t : xbL st k) : xbL st k' := xuL_m (fun _ _ t => xuL_m (fun _ _ t => h _ _ _ t) t) t
theorem xai_m {st : List xV} {k k' : Nat → Int → List xV → Prop} (h : ∀ u v r, k u v r → k' u v r) (t : xai st k) : xai st k' := xu_m (fun _ _ t => xuR_m (fun _ _ t => h _ _ _ t) t) t
theorem xtab_m {pc : Nat} {k k' : Nat → Prop} {a : Int} (h : ∀ t, k t → k' t) : ∀ (os : List Int) (v : Int), xtab pc k a v os → xtab pc k' a v os
  | [], _, _ => trivial
  | _ :: os, _, t => ⟨fun e => h _ (t.1 e), xtab_m h os _ t.2⟩
def xCm (C : xC) : Prop := ∀ (mi : Nat) (args : List xV) (g : xG) (w : xW) (Q Q' : xQ), (∀ r g w, Q r g w → Q' r g w) → C mi args g w Q → C mi args g w Q'
section XM
variable {C : xC} {lim : Nat × Nat} {mks : List (Nat × Nat × Nat)} {Q Q' : xQ} {bl : Bool} {pc : Nat} {ls st args rest : List xV} {g : xG} {w : xW} {K K' : xK}
theorem xinv_m (hC : xCm C) {e : Nat × Nat × Nat × Int} (hK : ∀ pc ls st g w, K pc ls st g w → K' pc ls st g w) (t : xinv C lim mks e pc ls args rest g w K) : xinv C lim mks e pc ls args rest g w K' := by
  unfold xinv at *
  split
  · rename_i h
    simp only [h] at t
    exact ⟨t.1, hC _ _ _ _ _ _ (fun r g w q => ⟨q.1, hK _ _ _ _ _ q.2⟩) t.2⟩
  · rename_i h
    simp only [h] at t
    exact hC _ _ _ _ _ _ (fun r g w ⟨v, q, q2⟩ => ⟨v, q, hK _ _ _ _ _ q2⟩) t
  · rename_i h
    simp only [h] at t
    exact hC _ _ _ _ _ _ (fun r g w q => ⟨q.1, hK _ _ _ _ _ q.2⟩) t
  · split at t <;> simp_all
theorem xobj_m (hC : xCm C) {e : Nat × Nat × Nat × Int} (hK : ∀ pc ls st g w, K pc ls st g w → K' pc ls st g w) (t : xobj C lim mks e pc ls st g w K) : xobj C lim mks e pc ls st g w K' := by
  unfold xobj at *
  split
  · rename_i h
    simp only [h] at t
    exact xuR_m (fun a r q => ⟨q.1, xinv_m hC hK q.2⟩) t
  · rename_i h
    simp only [h] at t
theorem xble_m {n : Nat} {A B : Prop} (h : A → B) (t : match Nat.ble n 4 with | true => A | false => False) : match Nat.ble n 4 with | true => B | false => False := by
  split
  · rename_i h2
    simp only [h2] at t
    exact h t
  · rename_i h2
    simp only [h2] at t
theorem xsta_m (hC : xCm C) {e : Nat × Nat × Nat × Int} (hK : ∀ pc ls st g w, K pc ls st g w → K' pc ls st g w) (t : xsta C lim mks e pc ls st g w K) : xsta C lim mks e pc ls st g w K' := by
  unfold xsta at *
  split
  · rename_i h
    simp only [h] at t
    exact xu_m (fun a r q => xu_m (fun a r q => xuR_m (fun a r q => xu_m (fun a r q => xuR_m (fun a r q => ⟨q.1, xble_m (hK _ _ _ _ _) q.2⟩) q) q) q) q) t
  · rename_i h
    simp only [h] at t
    exact xb_m (fun a b r q => xble_m (hK _ _ _ _ _) q) t
  · rename_i h
    simp only [h] at t
    exact xb_m (fun a b r q => xble_m (hK _ _ _ _ _) q) t
  · rename_i h4 h5 h6
    split at t
    · rename_i h2
      exact absurd h2 h4
    · rename_i h2
      exact absurd h2 h5
    · rename_i h2
      exact absurd h2 h6
    · split
      · rename_i h2
        simp only [h2] at t
        exact xinv_m hC hK t
      · rename_i h2
        simp only [h2] at t
theorem xspc_m (hC : xCm C) {e : Nat × Nat × Nat × Int} (hK : ∀ pc ls st g w, K pc ls st g w → K' pc ls st g w) (t : xspc C lim mks e pc ls st g w K) : xspc C lim mks e pc ls st g w K' := by
  unfold xspc at *
  split
  · rename_i h
    simp only [h] at t
    refine xuR_m (fun a r q => ⟨q.1, ?_⟩) t
    have q2 := q.2
    split
    · rename_i h2
      simp only [h2] at q2
      exact hK _ _ _ _ _ q2
    · rename_i h2
      simp only [h2] at q2
  · rename_i h
    split at t
    · rename_i h2
      exact absurd h2 h
    · exact xobj_m hC hK t
theorem xputf_m {ci k : Nat} (hK : ∀ pc ls st g w, K pc ls st g w → K' pc ls st g w) (t : xputf ci k pc ls st g w K) : xputf ci k pc ls st g w K' := by
  unfold xputf at *
  split
  · rename_i h
    simp only [h] at t
    exact xu_m (fun a r q => xuR_m (fun a r q => ⟨q.1, hK _ _ _ _ _ q.2⟩) q) t
  · rename_i h
    simp only [h] at t
    exact xuR_m (fun a r q => xuR_m (fun a r q => ⟨q.1, hK _ _ _ _ _ q.2⟩) q) t
theorem xgetf_m {ci k : Nat} (hK : ∀ pc ls st g w, K pc ls st g w → K' pc ls st g w) (t : xgetf ci k pc ls st g w K) : xgetf ci k pc ls st g w K' := by
  unfold xgetf at *
  split
  · rename_i h
    simp only [h] at t
    exact xuR_m (fun a r q => ⟨q.1, hK _ _ _ _ _ q.2⟩) t
  · rename_i h
    simp only [h] at t
    exact xuR_m (fun a r q => ⟨q.1, hK _ _ _ _ _ q.2⟩) t
theorem xiret_m {k k' : Int → Prop} (h : ∀ v, k v → k' v) (t : xiret bl st k) : xiret bl st k' := by
  unfold xiret at *
  refine xu_m (fun v r q => ?_) t
  cases r with
  | nil =>
    cases bl with
    | true => exact ⟨q.1, h _ q.2⟩
    | false => exact h _ q
  | cons => exact q
set_option maxHeartbeats 4000000 in
theorem xsem_m (hC : xCm C) {e : xE} (hK : ∀ pc ls st g w, K pc ls st g w → K' pc ls st g w) (hQ : ∀ r g w, Q r g w → Q' r g w) (t : xsem C lim mks Q bl e pc ls st g w K) : xsem C lim mks Q' bl e pc ls st g w K' := by
  obtain ⟨ins, e⟩ := e
  cases ins
  all_goals first
    | exact t.elim
    | exact hK _ _ _ _ _ t
    | exact xldI_m (fun _ q => hK _ _ _ _ _ q) t
    | exact xldL_m (fun _ q => hK _ _ _ _ _ q) t
    | exact xldR_m (fun _ q => hK _ _ _ _ _ q) t
    | exact xu_m (fun _ _ q => xsto_m (fun _ q => hK _ _ _ _ _ q) q) t
    | exact xuR_m (fun _ _ q => xsto_m (fun _ q => hK _ _ _ _ _ q) q) t
    | exact xldI_m (fun _ q => ⟨q.1, xsto_m (fun _ q => hK _ _ _ _ _ q) q.2⟩) t
    | exact xb_m (fun _ _ _ q => ⟨q.1, hK _ _ _ _ _ q.2⟩) t
    | exact xb_m (fun _ _ _ q => hK _ _ _ _ _ q) t
    | exact xbL_m (fun _ _ _ q => ⟨q.1, hK _ _ _ _ _ q.2⟩) t
    | exact xbL_m (fun _ _ _ q => hK _ _ _ _ _ q) t
    | exact xu_m (fun _ _ q => hK _ _ _ _ _ q) t
    | exact xuL_m (fun _ _ q => ⟨q.1, hK _ _ _ _ _ q.2⟩) t
    | exact xu_m (fun _ _ q => ⟨fun h => hK _ _ _ _ _ (q.1 h), fun h => hK _ _ _ _ _ (q.2 h)⟩) t
    | exact xb_m (fun _ _ _ q => ⟨fun h => hK _ _ _ _ _ (q.1 h), fun h => hK _ _ _ _ _ (q.2 h)⟩) t
    | exact xu_m (fun _ _ q => ⟨fun h => hK _ _ _ _ _ (q.1 h), xtab_m (fun _ q => hK _ _ _ _ _ q) _ _ q.2⟩) t
    | exact xgetf_m hK t
    | exact xputf_m hK t
    | exact xai_m (fun _ _ _ q => ⟨q.1, hK _ _ _ _ _ q.2⟩) t
    | exact xu_m (fun _ _ q => xai_m (fun _ _ _ q => ⟨q.1, hK _ _ _ _ _ q.2⟩) q) t
    | exact xuR_m (fun _ _ q => xai_m (fun _ _ _ q => ⟨q.1, hK _ _ _ _ _ q.2⟩) q) t
    | exact xuR_m (fun _ _ q => ⟨q.1, hK _ _ _ _ _ q.2⟩) t
    | exact ⟨t.1, hK _ _ _ _ _ t.2⟩
    | exact xu_m (fun _ _ q => ⟨q.1, q.2.1, hK _ _ _ _ _ q.2.2⟩) t
    | exact xobj_m hC hK t
    | exact xspc_m hC hK t
    | exact xsta_m hC hK t
    | exact xiret_m (fun _ q => hQ _ _ _ q) t
    | skip
  case newarray a =>
    cases a
    all_goals first
      | exact t.elim
      | exact xu_m (fun _ _ q => ⟨q.1, q.2.1, hK _ _ _ _ _ q.2.2⟩) t
  case return_ =>
    cases st with
    | nil => exact hQ _ _ _ t
    | cons => exact t.elim
  case pop =>
    rcases st with _ | ⟨v, r⟩
    · exact t.elim
    · revert t
      show (match xone v with | true => _ | false => False) → (match xone v with | true => _ | false => False)
      cases xone v
      · exact fun t => t
      · exact fun t => hK _ _ _ _ _ t
  case dup =>
    rcases st with _ | ⟨v, r⟩
    · exact t.elim
    · revert t
      show (match xone v with | true => _ | false => False) → (match xone v with | true => _ | false => False)
      cases xone v
      · exact fun t => t
      · exact fun t => hK _ _ _ _ _ t
  case dup2 =>
    rcases st with _ | ⟨u, _ | ⟨v, r⟩⟩
    · exact t.elim
    · exact t.elim
    · revert t
      show (match xone u && xone v with | true => _ | false => False) → (match xone u && xone v with | true => _ | false => False)
      cases xone u && xone v
      · exact fun t => t
      · exact fun t => hK _ _ _ _ _ t
theorem xstep_m {T : xTb} (hC : xCm C) (hK : ∀ pc ls st g w, K pc ls st g w → K' pc ls st g w) (hQ : ∀ r g w, Q r g w → Q' r g w) (t : xstep mks T C lim Q pc ls st g w K) : xstep mks T C lim Q' pc ls st g w K' := by
  unfold xstep at *
  split
  · rename_i h
    simp only [h] at t
    exact xsem_m hC hK hQ t
  · rename_i h
    simp only [h] at t
theorem xAt_q {T : xTb} (hC : xCm C) (hQ : ∀ r g w, Q r g w → Q' r g w) (t : xAt mks T C lim Q pc ls st g w) : xAt mks T C lim Q' pc ls st g w :=
  fun P h1 h2 => t P (fun _ _ _ _ _ q => h1 _ _ _ _ _ (xstep_m hC (fun _ _ _ _ _ q => q) hQ q)) h2
theorem xAt_exec {T : xTb} (hC : xCm C) (cuts : List (Nat × List Bool)) (n : Nat) (t : xexec mks T C lim Q cuts (xAt mks T C lim Q) n pc ls st g w) : xAt mks T C lim Q pc ls st g w := by
  intro P h1 h2
  induction n generalizing pc ls st g w with
  | zero => exact t P h1 h2
  | succ n ih =>
    refine h1 _ _ _ _ _ (xstep_m hC (fun pc ls st g w q => ?_) (fun _ _ _ q => q) t)
    split at q
    · exact h2 _ _ _ _ _ _ (q P h1 h2)
    · exact ih q
theorem xcall_m (MT : List xTb) : ∀ d : Nat, xCm (xcall mks MT d)
  | 0 => fun _ _ _ _ _ _ _ h => h
  | d + 1 => fun mi args g w Q Q' hQ h => by
    unfold xcall at *
    split
    · rename_i h2
      simp only [h2] at h
      split
      · rename_i h3
        simp only [h3] at h
        exact xAt_q (xcall_m MT d) (fun r g w q => ⟨q.1, hQ _ _ _ q.2⟩) h
      · rename_i h3
        simp only [h3] at h
    · rename_i h2
      simp only [h2] at h
end XM
