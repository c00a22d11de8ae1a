theorem yall {α : Type} (p : α → Bool) (c : Nat) : ∀ (n : Nat) (l : List α), l.length ≤ c * n → (∀ j, j < n → ((l.drop (c * j)).take c).all p = true) → l.all p = true
  | 0, l, hl, _ => by
    have : l = [] := List.length_eq_zero_iff.mp (by omega)
    subst this; rfl
  | n + 1, l, hl, h => by
    have h0 := h 0 (by omega)
    have h1 := yall p c n (l.drop c) (by rw [List.length_drop]; have : c * (n + 1) = c * n + c := Nat.mul_succ c n; omega) (fun j hj => by
      have := h (j + 1) (by omega)
      rw [List.drop_drop, show c + c * j = c * (j + 1) by rw [Nat.mul_succ]; omega]
      exact this)
    rw [Nat.mul_zero, List.drop_zero] at h0
    rw [← List.take_append_drop c l, List.all_append, h0, h1]; rfl
set_option maxRecDepth 100000 in
theorem kLw_0 : ((iLw_law.drop (20 * 0)).take 20).all (ych pLw false (some .boolean) true code) = true := by decide +kernel
set_option maxRecDepth 100000 in
theorem kLw_1 : ((iLw_law.drop (20 * 1)).take 20).all (ych pLw false (some .boolean) true code) = true := by decide +kernel
set_option maxRecDepth 100000 in
theorem kLw_2 : ((iLw_law.drop (20 * 2)).take 20).all (ych pLw false (some .boolean) true code) = true := by decide +kernel
set_option maxRecDepth 100000 in
theorem kLw_3 : ((iLw_law.drop (20 * 3)).take 20).all (ych pLw false (some .boolean) true code) = true := by decide +kernel
set_option maxRecDepth 100000 in
theorem kLw_4 : ((iLw_law.drop (20 * 4)).take 20).all (ych pLw false (some .boolean) true code) = true := by decide +kernel
set_option maxRecDepth 100000 in
theorem kLw_5 : ((iLw_law.drop (20 * 5)).take 20).all (ych pLw false (some .boolean) true code) = true := by decide +kernel
set_option maxRecDepth 100000 in
theorem kLw_6 : ((iLw_law.drop (20 * 6)).take 20).all (ych pLw false (some .boolean) true code) = true := by decide +kernel
set_option maxRecDepth 100000 in
theorem kLw_7 : ((iLw_law.drop (20 * 7)).take 20).all (ych pLw false (some .boolean) true code) = true := by decide +kernel
set_option maxRecDepth 100000 in
theorem kLw_8 : ((iLw_law.drop (20 * 8)).take 20).all (ych pLw false (some .boolean) true code) = true := by decide +kernel
set_option maxRecDepth 100000 in
theorem kLw_9 : ((iLw_law.drop (20 * 9)).take 20).all (ych pLw false (some .boolean) true code) = true := by decide +kernel
set_option maxRecDepth 100000 in
theorem kLw_10 : ((iLw_law.drop (20 * 10)).take 20).all (ych pLw false (some .boolean) true code) = true := by decide +kernel
set_option maxRecDepth 100000 in
theorem kLw_11 : ((iLw_law.drop (20 * 11)).take 20).all (ych pLw false (some .boolean) true code) = true := by decide +kernel
set_option maxRecDepth 100000 in
theorem kLw_12 : ((iLw_law.drop (20 * 12)).take 20).all (ych pLw false (some .boolean) true code) = true := by decide +kernel
set_option maxRecDepth 100000 in
theorem kLw_13 : ((iLw_law.drop (20 * 13)).take 20).all (ych pLw false (some .boolean) true code) = true := by decide +kernel
set_option maxRecDepth 100000 in
theorem kLw_14 : ((iLw_law.drop (20 * 14)).take 20).all (ych pLw false (some .boolean) true code) = true := by decide +kernel
set_option maxRecDepth 100000 in
theorem kLw_15 : ((iLw_law.drop (20 * 15)).take 20).all (ych pLw false (some .boolean) true code) = true := by decide +kernel
set_option maxRecDepth 100000 in
theorem kLw_16 : ((iLw_law.drop (20 * 16)).take 20).all (ych pLw false (some .boolean) true code) = true := by decide +kernel
set_option maxRecDepth 100000 in
theorem kLw_17 : ((iLw_law.drop (20 * 17)).take 20).all (ych pLw false (some .boolean) true code) = true := by decide +kernel
set_option maxRecDepth 100000 in
theorem kLw_18 : ((iLw_law.drop (20 * 18)).take 20).all (ych pLw false (some .boolean) true code) = true := by decide +kernel
set_option maxRecDepth 100000 in
theorem kLw_19 : ((iLw_law.drop (20 * 19)).take 20).all (ych pLw false (some .boolean) true code) = true := by decide +kernel
set_option maxRecDepth 100000 in
theorem kLw_20 : ((iLw_law.drop (20 * 20)).take 20).all (ych pLw false (some .boolean) true code) = true := by decide +kernel
set_option maxRecDepth 100000 in
theorem kLw_21 : ((iLw_law.drop (20 * 21)).take 20).all (ych pLw false (some .boolean) true code) = true := by decide +kernel
set_option maxRecDepth 100000 in
theorem kLw_22 : ((iLw_law.drop (20 * 22)).take 20).all (ych pLw false (some .boolean) true code) = true := by decide +kernel
set_option maxRecDepth 100000 in
theorem kLw_23 : ((iLw_law.drop (20 * 23)).take 20).all (ych pLw false (some .boolean) true code) = true := by decide +kernel
set_option maxRecDepth 100000 in
theorem kLw_24 : ((iLw_law.drop (20 * 24)).take 20).all (ych pLw false (some .boolean) true code) = true := by decide +kernel
set_option maxRecDepth 100000 in
theorem kLw_25 : ((iLw_law.drop (20 * 25)).take 20).all (ych pLw false (some .boolean) true code) = true := by decide +kernel
set_option maxRecDepth 100000 in
theorem kLw_26 : ((iLw_law.drop (20 * 26)).take 20).all (ych pLw false (some .boolean) true code) = true := by decide +kernel
set_option maxRecDepth 100000 in
theorem kLw_27 : ((iLw_law.drop (20 * 27)).take 20).all (ych pLw false (some .boolean) true code) = true := by decide +kernel
set_option maxRecDepth 100000 in
theorem kLw_28 : ((iLw_law.drop (20 * 28)).take 20).all (ych pLw false (some .boolean) true code) = true := by decide +kernel
set_option maxRecDepth 100000 in
theorem kLw_29 : ((iLw_law.drop (20 * 29)).take 20).all (ych pLw false (some .boolean) true code) = true := by decide +kernel
set_option maxRecDepth 100000 in
theorem kLw_30 : ((iLw_law.drop (20 * 30)).take 20).all (ych pLw false (some .boolean) true code) = true := by decide +kernel
set_option maxRecDepth 100000 in
theorem kLw_31 : ((iLw_law.drop (20 * 31)).take 20).all (ych pLw false (some .boolean) true code) = true := by decide +kernel
set_option maxRecDepth 100000 in
theorem kLw_32 : ((iLw_law.drop (20 * 32)).take 20).all (ych pLw false (some .boolean) true code) = true := by decide +kernel
set_option maxRecDepth 100000 in
theorem kLw_33 : ((iLw_law.drop (20 * 33)).take 20).all (ych pLw false (some .boolean) true code) = true := by decide +kernel
set_option maxRecDepth 100000 in
theorem kLw_34 : ((iLw_law.drop (20 * 34)).take 20).all (ych pLw false (some .boolean) true code) = true := by decide +kernel
set_option maxRecDepth 100000 in
theorem kLw_35 : ((iLw_law.drop (20 * 35)).take 20).all (ych pLw false (some .boolean) true code) = true := by decide +kernel
set_option maxRecDepth 100000 in
theorem kLw_36 : ((iLw_law.drop (20 * 36)).take 20).all (ych pLw false (some .boolean) true code) = true := by decide +kernel
set_option maxRecDepth 100000 in
theorem kLw_37 : ((iLw_law.drop (20 * 37)).take 20).all (ych pLw false (some .boolean) true code) = true := by decide +kernel
set_option maxRecDepth 100000 in
theorem kLw_38 : ((iLw_law.drop (20 * 38)).take 20).all (ych pLw false (some .boolean) true code) = true := by decide +kernel
set_option maxRecDepth 100000 in
theorem kLw_39 : ((iLw_law.drop (20 * 39)).take 20).all (ych pLw false (some .boolean) true code) = true := by decide +kernel
set_option maxRecDepth 100000 in
theorem kLw_40 : ((iLw_law.drop (20 * 40)).take 20).all (ych pLw false (some .boolean) true code) = true := by decide +kernel
set_option maxRecDepth 100000 in
theorem kLw_41 : ((iLw_law.drop (20 * 41)).take 20).all (ych pLw false (some .boolean) true code) = true := by decide +kernel
theorem kLw_all : ∀ j, j < 42 → ((iLw_law.drop (20 * j)).take 20).all (ych pLw false (some .boolean) true code) = true := by
  intro j hj
  match j, hj with
  | 0, _ => exact kLw_0
  | 1, _ => exact kLw_1
  | 2, _ => exact kLw_2
  | 3, _ => exact kLw_3
  | 4, _ => exact kLw_4
  | 5, _ => exact kLw_5
  | 6, _ => exact kLw_6
  | 7, _ => exact kLw_7
  | 8, _ => exact kLw_8
  | 9, _ => exact kLw_9
  | 10, _ => exact kLw_10
  | 11, _ => exact kLw_11
  | 12, _ => exact kLw_12
  | 13, _ => exact kLw_13
  | 14, _ => exact kLw_14
  | 15, _ => exact kLw_15
  | 16, _ => exact kLw_16
  | 17, _ => exact kLw_17
  | 18, _ => exact kLw_18
  | 19, _ => exact kLw_19
  | 20, _ => exact kLw_20
  | 21, _ => exact kLw_21
  | 22, _ => exact kLw_22
  | 23, _ => exact kLw_23
  | 24, _ => exact kLw_24
  | 25, _ => exact kLw_25
  | 26, _ => exact kLw_26
  | 27, _ => exact kLw_27
  | 28, _ => exact kLw_28
  | 29, _ => exact kLw_29
  | 30, _ => exact kLw_30
  | 31, _ => exact kLw_31
  | 32, _ => exact kLw_32
  | 33, _ => exact kLw_33
  | 34, _ => exact kLw_34
  | 35, _ => exact kLw_35
  | 36, _ => exact kLw_36
  | 37, _ => exact kLw_37
  | 38, _ => exact kLw_38
  | 39, _ => exact kLw_39
  | 40, _ => exact kLw_40
  | 41, _ => exact kLw_41
  | j + 42, h => exact absurd h (by omega)
set_option maxRecDepth 100000 in
theorem k2Lw_law : ∀ pc e, xfind pc tLw_law.2.2.2.2 = some e → yEn xMT tLw_law pc e := fun pc e he => ychk (T := tLw_law) (q := (pc, e)) okLw (init := false) (fun h => (by cases h)) (List.all_eq_true.mp (yall _ 20 42 iLw_law (by decide +kernel) kLw_all) (pc, e) (yfind he))
