/-! ===== the class: laws, owing, skins, a minute ===== -/
section CLF
variable {g : xG} {w w0 : xW} {t s : zS} {d : Nat} {Q : xQ} {lim : Nat × Nat} {k kt : Nat} {fe : Nat → Bool} {numb : Int}
/-- only state k has changed, and not its feeling -/
def CG (k : Nat) (w w2 : xW) : Prop := CF k w w2 ∧ w2 k 12 = w k 12
theorem CG.refl {k : Nat} {w : xW} : CG k w w := ⟨CF.refl, rfl⟩
theorem CG.trans {k : Nat} {w w2 w3 : xW} (h : CG k w w2) (h2 : CG k w2 w3) : CG k w w3 := ⟨h.1.trans h2.1, h2.2.trans h.2⟩
theorem CG.up {k a i : Nat} {v : Int} {w : xW} (h : k ≤ a) (h2 : a ≤ k + 12) (h3 : a ≠ k ∨ i ≠ 12) : CG k w (xup w a i v) := ⟨CF.up h h2, by
  rcases h3 with z | z
  · rw [xup_a (fun q => z q.symm)]
  · rw [xup_k (fun q => z q.symm)]⟩
theorem cl_end1 (hS : SG g k) (li : LInv t) (si : SInv t s) (hlaw : s 12 0 = 1 ∨ s 12 0 = 2) (hk : ∀ w, CG k w0 w → RCs t (stC s) k w → Q none g w) : ∀ (n i : Nat) (w : xW), i + n = nC t → CG k w0 w → RCs t (zset s 3 (fun c => if c < i then ow2 s c else s 3 c)) k w → aSt_endOwning d lim Q 7 [xr k, none, xi (nC t), xi i, none] [] g w
  | 0, i, w, hi, hf, hs => by
    have hi : i = nC t := by omega
    subst hi
    refine wSt_endOwning_7 ?_
    simp only [s_o hS, true_and]
    refine ⟨fun _ => hk w hf (hs.to (fun r j hj _ _ => ?_) fun j => ?_), fun h => by omega⟩
    · unfold stC
      by_cases h3 : r = 3
      · subst h3
        have hj : j < nC t := hj
        rw [zset_s, zset_s, if_pos (by omega)]
      · rw [zset_n h3, zset_n h3]
    · unfold stC
      rw [zset_n (by decide), zset_n (by decide), zset_n (by decide), zset_n (by decide)]; exact ⟨rfl, rfl⟩
  | n + 1, i, w, hi, hf, hs => by
    obtain ⟨n1, n2, -, -, n5, n6⟩ := li_n li
    have hin : i < nC t := by omega
    have h3b := (si.1 i hin).2.1
    have h4b := (si.1 i hin).2.2
    have hm := si.2.2.2.2.2.2.2.1
    have e3 : w (k + 3) (Int.toNat (i : Int)) = s 3 i := by
      rw [Int.toNat_natCast, show w (k + 3) i = _ from hs.1 3 i hin (by decide) (by decide), zset_s, if_neg (by omega)]
    have e4 : w (k + 4) (Int.toNat (i : Int)) = s 4 i := by
      rw [Int.toNat_natCast, show w (k + 4) i = _ from hs.1 4 i hin (by decide) (by decide), zset_n (by decide)]
    have c0 : w k 14 = s 12 0 := by rw [show w k 14 = _ from hs.1 12 0 (show 0 < 5 by decide) (by decide) (by decide), zset_n (by decide)]
    have c1 : w k 15 = s 12 1 := by rw [show w k 15 = _ from hs.1 12 1 (show 1 < 5 by decide) (by decide) (by decide), zset_n (by decide)]
    have c2 : w k 16 = s 12 2 := by rw [show w k 16 = _ from hs.1 12 2 (show 2 < 5 by decide) (by decide) (by decide), zset_n (by decide)]
    have same : s 3 i = ow2 s i → aSt_endOwning d lim Q 7 [xr k, none, xi (nC t), xi ((i : Int) + 1), none] [] g w := fun hv => by
      rw [show ((i : Int) + 1) = ((i + 1 : Nat) : Int) by omega]
      refine cl_end1 hS li si hlaw hk n (i + 1) _ (by omega) hf (hs.to (fun r j _ _ _ => ?_) fun j => ?_)
      · by_cases h3 : r = 3
        · subst h3
          rw [zset_s, zset_s]
          by_cases q : j = i
          · subst q; rw [if_pos (by omega), if_neg (by omega), hv]
          · by_cases q2 : j < i
            · rw [if_pos q2, if_pos (by omega)]
            · rw [if_neg q2, if_neg (by omega)]
        · rw [zset_n h3, zset_n h3]
      · rw [zset_n (by decide), zset_n (by decide), zset_n (by decide), zset_n (by decide)]; exact ⟨rfl, rfl⟩
    have put : -1 = ow2 s i → aSt_endOwning d lim Q 7 [xr k, none, xi (nC t), xi ((i : Int) + 1), none] [] g (xup w (k + 3) (Int.toNat (i : Int)) (-1)) := fun hv => by
      rw [show ((i : Int) + 1) = ((i + 1 : Nat) : Int) by omega]
      refine cl_end1 hS li si hlaw hk n (i + 1) _ (by omega) (hf.trans (CG.up (by omega) (by omega) (by omega))) ?_
      refine (hs.put li (r := 3) (i := i) (v := -1) hin (by decide) (by decide) rfl (Int.toNat_natCast i)).to (fun r j _ _ _ => ?_) fun j => ?_
      · by_cases h3 : r = 3
        · subst h3
          rw [zset_s, zset_s]
          by_cases q : j = i
          · subst q; rw [zup_s, if_pos (by omega), hv]
          · rw [zup_n q, zset_s]
            by_cases q2 : j < i
            · rw [if_pos q2, if_pos (by omega)]
            · rw [if_neg q2, if_neg (by omega)]
        · rw [zset_n h3, zset_n h3, zset_n h3]
      · rw [zset_n (by decide), zset_n (by decide), zset_n (by decide), zset_n (by decide), zset_n (by decide), zset_n (by decide)]; exact ⟨rfl, rfl⟩
    have b1 : s 3 i = ow2 s i → aSt_endOwning d lim Q 76 [xr k, none, xi (nC t), xi i, none] [xi 1] g w := fun z => by
      refine wSt_endOwning_76 ?_
      simp only [s_o hS, true_and]
      exact ⟨fun _ => ⟨by constructor <;> omega, same z⟩, fun q => absurd q (by decide)⟩
    have b0 : -1 = ow2 s i → aSt_endOwning d lim Q 76 [xr k, none, xi (nC t), xi i, none] [xi 0] g w := fun z => by
      refine wSt_endOwning_76 ?_
      simp only [s_o hS, s_p2 hS, s_a2 hS, true_and]
      exact ⟨fun q => absurd trivial q, fun _ => ⟨by constructor <;> omega, by constructor <;> omega, put z⟩⟩
    refine wSt_endOwning_7 ?_
    simp only [s_o hS, s_p2 hS, s_r2 hS, s_p3 hS, s_r3 hS, s_p7 hS, s_r7 hS, e3, e4, c0, c1, c2, true_and]
    refine ⟨fun h => by omega, fun _ => ⟨by constructor <;> omega, fun q => ⟨by constructor <;> omega, same ?_⟩, fun q => ⟨fun q2 => ?_, fun q2 => ⟨by constructor <;> omega, by constructor <;> omega, fun q3 => b0 ?_, fun q3 => b1 ?_⟩⟩⟩⟩
    · unfold ow2; rw [q]; split <;> rfl
    · have e7 : w (k + 8) (Int.toNat (s 3 i)) = s 7 (s 3 i).toNat := by
        rw [show w (k + 8) (Int.toNat (s 3 i)) = _ from hs.1 7 (s 3 i).toNat (show (s 3 i).toNat < nP t by omega) (by decide) (by decide), zset_n (by decide)]
      rw [e7]
      refine ⟨by constructor <;> omega, by constructor <;> omega, fun q3 => b0 ?_, fun q3 => b1 ?_⟩
      · unfold ow2; rw [if_pos (Or.inr ⟨by omega, q, q3⟩)]
      · unfold ow2; rw [if_neg]
        intro z
        rcases z with z | z
        · exact q2 z.1
        · exact z.2.2 q3
    · unfold ow2; rw [if_pos (Or.inl ⟨q2, q3⟩)]
    · unfold ow2; rw [if_neg]
      intro z
      rcases z with z | z
      · omega
      · omega
theorem cl_end (hS : SG g k) (hT : TG g kt) (hl : RCl t kt w) (hs : RCs t s k w) (li : LInv t) (si : SInv t s) (hlaw : s 12 0 = 1 ∨ s 12 0 = 2) (hQ : ∀ w2, CG k w w2 → RCs t (stC s) k w2 → Q none g w2) : cal (d + 2) nSt_endOwning [xr k, xr kt] g w Q := by
  refine eSt_endOwning fun lim Q2 h2 => wSt_endOwning_0 ?_
  have hQ := fun w2 a b => h2 none g w2 rfl (hQ w2 a b)
  simp only [s_o hS, t_o hT, true_and]
  refine cl_cells hT hl li ⟨_, rfl, ?_⟩
  refine cl_end1 hS li si hlaw hQ (nC t) 0 w (by omega) CG.refl (hs.to (fun r j _ _ _ => ?_) fun j => ?_)
  · by_cases h3 : r = 3
    · subst h3; rw [zset_s, if_neg (by omega)]
    · rw [zset_n h3]
  · rw [zset_n (by decide), zset_n (by decide)]; exact ⟨rfl, rfl⟩
theorem cl_part1 (hS : SG g k) (hT : TG g kt) (hd : kt + 7 < k ∨ k + 12 < kt) (hl : RCl t kt w0) (li : LInv t) (si : SInv t s) (hlaw : s 12 0 = 3) (hk : ∀ w, CG k w0 w → RCs t (stD t s fe) k w → Q none g w) : ∀ (n i : Nat) (w : xW), i + n = nP t → CG k w0 w → RCs t (zset s 11 (prt s fe i)) k w → w k 12 = msk fe 0 (nP t) → aSt_makePartners (d + 1) lim Q 2 [xr k, xr kt, xi i, none] [] g w
  | 0, i, w, hi, hf, hs, hF => by
    have hl2 := hl.fr hf.1 hd
    obtain ⟨n1, n2, -, -, n5, n6⟩ := li_n li
    have e8 : w kt 5 = t 0 5 := hl2.2.2.2.2.2.1
    have hi : i = nP t := by omega
    subst hi
    refine wSt_makePartners_2 ?_
    simp only [s_o hS, t_o hT, e8, true_and]
    exact ⟨fun _ => hk w hf hs, fun h => by omega⟩
  | n + 1, i, w, hi, hf, hs, hF => by
    have hl2 := hl.fr hf.1 hd
    obtain ⟨n1, n2, -, -, n5, n6⟩ := li_n li
    have e8 : w kt 5 = t 0 5 := hl2.2.2.2.2.2.1
    have hin : i < nP t := by omega
    have h7 := (si.2.2.2.2.1 i hin).1
    have hc : (s 7 i).toNat < nC t := by omega
    have h3 := (si.1 (s 7 i).toNat hc).2.1
    have e7 : w (k + 8) (Int.toNat (i : Int)) = s 7 i := by
      rw [Int.toNat_natCast, show w (k + 8) i = _ from hs.1 7 i hin (by decide) (by decide), zset_n (by decide)]
    have e3 : w (k + 3) (Int.toNat (s 7 i)) = s 3 (s 7 i).toNat := by
      rw [show w (k + 3) (Int.toNat (s 7 i)) = _ from hs.1 3 (s 7 i).toNat hc (by decide) (by decide), zset_n (by decide)]
    have e11 : w (k + 12) (Int.toNat (i : Int)) = prt s fe i i := by
      rw [Int.toNat_natCast, show w (k + 12) i = _ from hs.1 11 i hin (by decide) (by decide), zset_s]
    have skip : ¬ (s 12 0 = 3 ∧ fe i = true ∧ s 3 (s 7 i).toNat ≠ -1 ∧ s 3 (s 7 i).toNat ≠ i) → aSt_makePartners (d + 1) lim Q 2 [xr k, xr kt, xi ((i : Int) + 1), none] [] g w := fun z => by
      rw [show ((i : Int) + 1) = ((i + 1 : Nat) : Int) by omega]
      refine cl_part1 hS hT hd hl li si hlaw hk n (i + 1) w (by omega) hf ?_ hF
      rw [prt, if_neg z]; exact hs
    refine wSt_makePartners_2 ?_
    simp only [s_o hS, t_o hT, s_p7 hS, s_r7 hS, s_p2 hS, s_r2 hS, e7, e3, e8, true_and]
    refine ⟨fun h => by omega, fun _ => ⟨by constructor <;> omega, by constructor <;> omega, cl_feels hS li hF hin ⟨_, rfl, fun q => ⟨by constructor <;> omega, skip fun z => ?_⟩, fun q => ⟨fun q2 => ⟨by constructor <;> omega, skip fun z => z.2.2.1 q2⟩, fun q2 => ⟨fun q3 => ⟨by constructor <;> omega, skip fun z => z.2.2.2 q3⟩, fun q3 => ?_⟩⟩⟩⟩⟩
    · rw [if_pos z.2.1] at q; exact absurd q (by decide)
    · have hfe : fe i = true := by
        by_cases z : fe i = true
        · exact z
        · rw [if_neg z] at q; exact absurd rfl q
      simp only [s_o hS, t_o hT, s_p11 hS, s_r11 hS, s_a11 hS, e11, true_and]
      refine ⟨by constructor <;> omega, by constructor <;> omega, ?_⟩
      have s1 : RCs t (zset s 11 (zup (prt s fe i) i (xOr (prt s fe i i) (xShl 1 (s 3 (s 7 i).toNat))))) k (xup w (k + 12) (Int.toNat (i : Int)) (xOr (prt s fe i i) (xShl 1 (s 3 (s 7 i).toNat)))) := by
        refine (hs.put li (r := 11) (i := i) hin (by decide) (by decide) rfl (Int.toNat_natCast i)).to (fun r j _ _ _ => ?_) fun j => ?_
        · by_cases h11 : r = 11
          · subst h11
            rw [zset_s, zset_s]
            by_cases z : j = i
            · subst z; rw [zup_s, zup_s]
            · rw [zup_n z, zup_n z, zset_s]
          · rw [zset_n h11, zset_n h11, zset_n h11]
        · rw [zset_n (by decide), zset_n (by decide), zset_n (by decide), zset_n (by decide), zset_n (by decide), zset_n (by decide)]; exact ⟨rfl, rfl⟩
      have f1 : CG k w0 (xup w (k + 12) (Int.toNat (i : Int)) (xOr (prt s fe i i) (xShl 1 (s 3 (s 7 i).toNat)))) := hf.trans (CG.up (by omega) (by omega) (by omega))
      have F1 : xup w (k + 12) (Int.toNat (i : Int)) (xOr (prt s fe i i) (xShl 1 (s 3 (s 7 i).toNat))) k 12 = msk fe 0 (nP t) := by rw [xup_a (by omega)]; exact hF
      generalize xup w (k + 12) (Int.toNat (i : Int)) (xOr (prt s fe i i) (xShl 1 (s 3 (s 7 i).toNat))) = w1 at *
      have hp3 : (s 3 (s 7 i).toNat).toNat < nP t := by omega
      have e11b : w1 (k + 12) (Int.toNat (s 3 (s 7 i).toNat)) = zup (prt s fe i) i (xOr (prt s fe i i) (xShl 1 (s 3 (s 7 i).toNat))) (s 3 (s 7 i).toNat).toNat := by
        rw [show w1 (k + 12) (Int.toNat (s 3 (s 7 i).toNat)) = _ from s1.1 11 (s 3 (s 7 i).toNat).toNat hp3 (by decide) (by decide), zset_s]
      refine wSt_makePartners_52 ?_
      simp only [s_o hS, s_p11 hS, s_r11 hS, s_a11 hS, e11b, true_and]
      refine ⟨by constructor <;> omega, by constructor <;> omega, by constructor <;> omega, ?_⟩
      rw [show ((i : Int) + 1) = ((i + 1 : Nat) : Int) by omega]
      refine cl_part1 hS hT hd hl li si hlaw hk n (i + 1) _ (by omega) (f1.trans (CG.up (by omega) (by omega) (by omega))) ?_ (by rw [xup_a (by omega)]; exact F1)
      rw [prt, if_pos ⟨hlaw, hfe, q2, q3⟩]
      refine (s1.put li (r := 11) (i := (s 3 (s 7 i).toNat).toNat) hp3 (by decide) (by decide) rfl rfl).to (fun r j _ _ _ => ?_) fun j => ?_
      · by_cases h11 : r = 11
        · subst h11
          rw [zset_s, zset_s]
          by_cases z : j = (s 3 (s 7 i).toNat).toNat
          · rw [z, zup_s, zup_s]
          · rw [zup_n z, zup_n z, zset_s]
        · rw [zset_n h11, zset_n h11, zset_n h11]
      · rw [zset_n (by decide), zset_n (by decide), zset_n (by decide), zset_n (by decide), zset_n (by decide), zset_n (by decide)]; exact ⟨rfl, rfl⟩
theorem cl_part (hS : SG g k) (hT : TG g kt) (hd : kt + 7 < k ∨ k + 12 < kt) (hl : RCl t kt w) (hs : RCs t s k w) (li : LInv t) (si : SInv t s) (hlaw : s 12 0 = 3) (hF : w k 12 = msk fe 0 (nP t)) (hQ : ∀ w2, CG k w w2 → RCs t (stD t s fe) k w2 → Q none g w2) : cal (d + 2) nSt_makePartners [xr k, xr kt] g w Q := by
  refine eSt_makePartners fun lim Q2 h2 => wSt_makePartners_0 ?_
  have hQ := fun w2 a b => h2 none g w2 rfl (hQ w2 a b)
  refine cl_part1 hS hT hd hl li si hlaw hQ (nP t) 0 w (by omega) CG.refl (hs.to (fun r j _ _ _ => ?_) fun j => ?_) hF
  · by_cases h11 : r = 11
    · subst h11; rw [zset_s]; rfl
    · rw [zset_n h11]
  · rw [zset_n (by decide), zset_n (by decide)]; exact ⟨rfl, rfl⟩
theorem stC_id (h1 : s 12 0 ≠ 1) (h2 : s 12 0 ≠ 2) : stC s = s := by
  funext r i
  unfold stC
  by_cases h3 : r = 3
  · subst h3
    rw [zset_s]
    unfold ow2
    rw [if_neg]
    intro z
    rcases z with z | z
    · exact h1 z.1
    · exact h2 z.1
  · rw [zset_n h3]
theorem stD_id (h : s 12 0 ≠ 3) : stD t s fe = s := by
  funext r i
  unfold stD
  by_cases h3 : r = 11
  · subst h3; rw [zset_s, prt_stop h]
  · rw [zset_n h3]
theorem stC_12 {i : Nat} : stC s 12 i = s 12 i := by unfold stC; rw [zset_n (by decide)]
theorem cl_keepLaw (hS : SG g k) (hT : TG g kt) (hd : kt + 7 < k ∨ k + 12 < kt) (hl : RCl t kt w) (hs : RCs t s k w) (li : LInv t) (si : SInv t s) (hF : w k 12 = msk fe 0 (nP t)) (hQ : ∀ w2, CG k w w2 → RCs t (stD t (stC s) fe) k w2 → Q none g w2) : cal (d + 3) nSt_keepLaw [xr k, xr kt] g w Q := by
  refine eSt_keepLaw fun lim Q2 h2 => wSt_keepLaw_0 ?_
  have hQ := fun w2 a b => h2 none g w2 rfl (hQ w2 a b)
  have c0 : w k 14 = s 12 0 := hs.1 12 0 (show 0 < 5 by decide) (by decide) (by decide)
  have b16 : (s 12 0 = 1 ∨ s 12 0 = 2) → aSt_keepLaw (d + 2) lim Q2 16 [xr k, xr kt] [] g w := fun q => by
    refine wSt_keepLaw_16 ?_
    simp only [s_o hS, true_and]
    refine cl_end hS hT hl hs li si q fun w2 f2 s2 => ⟨rfl, hQ w2 f2 ?_⟩
    rw [stD_id (by rw [stC_12]; omega)]; exact s2
  simp only [s_o hS, c0, true_and]
  refine ⟨fun q => b16 (Or.inl q), fun q => ⟨fun q2 => ⟨fun q3 => hQ w CG.refl ?_, fun q3 => ?_⟩, fun q2 => b16 (Or.inr q2)⟩⟩
  · rw [stC_id q q2, stD_id q3]; exact hs
  · refine cl_part hS hT hd hl hs li si q3 hF fun w2 f2 s2 => ⟨rfl, hQ w2 f2 ?_⟩
    rw [stC_id q q2]; exact s2
theorem cl_isDear (hS : SG g k) (hs : RCs t s k w) (li : LInv t) (si : SInv t s) {p c : Nat} (hp : p < nP t) (hc : c < nC t) (hQ : Q (some (xi (if isO s p c = true then 1 else 0))) g w) : cal (d + 1) nSt_isDear [xr k, xi p, xi c] g w Q := by
  refine eSt_isDear fun lim Q2 h2 => wSt_isDear_0 ?_
  have hQ := h2 _ _ _ rfl hQ
  obtain ⟨n1, n2, -, -, n5, n6⟩ := li_n li
  have h3 := (si.1 c hc).2.1
  have e3 : w (k + 3) (Int.toNat (c : Int)) = s 3 c := by rw [Int.toNat_natCast]; exact hs.1 3 c hc (by decide) (by decide)
  have e0 : w (k + 1) (Int.toNat (c : Int)) = s 0 c := by rw [Int.toNat_natCast]; exact hs.1 0 c hc (by decide) (by decide)
  have e11 : w (k + 12) (Int.toNat (p : Int)) = s 11 p := by rw [Int.toNat_natCast]; exact hs.1 11 p hp (by decide) (by decide)
  have ei : isO s p c = true ↔ (s 3 c ≠ -1 ∧ s 3 c ≠ p ∧ xAnd (xShr (s 11 p) (s 3 c)) 1 = 0 ∧ 50 ≤ s 0 c) := by
    unfold isO
    simp [and_assoc]
  simp only [s_o hS, s_p2 hS, s_r2 hS, s_p0 hS, s_r0 hS, s_p11 hS, s_r11 hS, e3, e0, e11, true_and]
  refine ⟨by constructor <;> omega, by constructor <;> omega, fun q => ⟨Or.inl trivial, qe hQ ?_⟩, fun q => ⟨fun q2 => ⟨Or.inl trivial, qe hQ ?_⟩, fun q2 => ⟨fun q3 => ⟨Or.inl trivial, qe hQ ?_⟩, fun q3 => ⟨by constructor <;> omega, fun q4 => ⟨Or.inl trivial, qe hQ ?_⟩, fun q4 => ⟨Or.inr trivial, qe hQ ?_⟩⟩⟩⟩⟩
  · rw [if_neg (fun z => by have := (ei.mp z).2.2.2; omega)]
  · rw [if_neg (fun z => (ei.mp z).1 q2)]
  · rw [if_neg (fun z => (ei.mp z).2.1 q3)]
  · rw [if_neg (fun z => q4 (ei.mp z).2.2.1)]
  · rw [if_pos (ei.mpr ⟨q2, q3, q4, q⟩)]
theorem cl_owe1 (hS : SG g k) (hT : TG g kt) (hd : kt + 7 < k ∨ k + 12 < kt) (hl : RCl t kt w0) (li : LInv t) (si : SInv t s) (hk : ∀ w, CG k w0 w → RCs t (owe s (nP t)) k w → Q none g w) : ∀ (n i : Nat) (w : xW), i + n = nP t → CG k w0 w → RCs t (owe s i) k w → aSt_oweForWarmth (d + 1) lim Q 2 [xr k, xr kt, xi i, none] [] g w
  | 0, i, w, hi, hf, hs => by
    have hl2 := hl.fr hf.1 hd
    obtain ⟨n1, n2, -, -, n5, n6⟩ := li_n li
    have e8 : w kt 5 = t 0 5 := hl2.2.2.2.2.2.1
    have hi : i = nP t := by omega
    subst hi
    refine wSt_oweForWarmth_2 ?_
    simp only [s_o hS, t_o hT, e8, true_and]
    exact ⟨fun _ => hk w hf hs, fun h => by omega⟩
  | n + 1, i, w, hi, hf, hs => by
    have hl2 := hl.fr hf.1 hd
    obtain ⟨n1, n2, -, -, n5, n6⟩ := li_n li
    have e8 : w kt 5 = t 0 5 := hl2.2.2.2.2.2.1
    have hin : i < nP t := by omega
    have h7 := (si.2.2.2.2.1 i hin).1
    have hcc : (s 7 i).toNat < nC t := by omega
    have h3 := (si.1 (s 7 i).toNat hcc).2.1
    have sio := si_owe si (n := i) (by omega)
    have hb := owe_b si i (by omega)
    have e7 : w (k + 8) (Int.toNat (i : Int)) = s 7 i := by
      rw [Int.toNat_natCast, show w (k + 8) i = _ from hs.1 7 i hin (by decide) (by decide), owe_o (by decide) (by decide)]
    have e3 : w (k + 3) (Int.toNat (s 7 i)) = s 3 (s 7 i).toNat := by
      rw [show w (k + 3) (Int.toNat (s 7 i)) = _ from hs.1 3 (s 7 i).toNat hcc (by decide) (by decide), owe_o (by decide) (by decide)]
    have e9 : w (k + 10) (Int.toNat (i : Int)) = owe s i 9 i := by rw [Int.toNat_natCast]; exact hs.1 9 i hin (by decide) (by decide)
    obtain ⟨c, hc⟩ := z_nn h7.1
    refine wSt_oweForWarmth_2 ?_
    simp only [s_o hS, t_o hT, s_p7 hS, s_r7 hS, e7, e8, true_and]
    refine ⟨fun h => by omega, fun _ => ⟨by constructor <;> omega, ?_⟩⟩
    rw [hc]
    refine cl_isDear hS hs li sio hin (by omega) ⟨_, rfl, fun hv => ?_, fun hv => ?_⟩
    · have hno : ¬ isO s i (s 7 i).toNat = true := fun z => by
        rw [isO_owe, show c = (s 7 i).toNat by omega, if_pos z] at hv
        omega
      rw [show ((i : Int) + 1) = ((i + 1 : Nat) : Int) by omega]
      refine ⟨by constructor <;> omega, cl_owe1 hS hT hd hl li si hk n (i + 1) w (by omega) hf ?_⟩
      rw [owe, if_neg hno]; exact hs
    · have hyes : isO s i (s 7 i).toNat = true := by
        by_cases z : isO s i (s 7 i).toNat = true
        · exact z
        · rw [isO_owe, show c = (s 7 i).toNat by omega, if_neg z] at hv; omega
      have hne : s 3 (s 7 i).toNat ≠ -1 := by
        unfold isO at hyes
        simp only [Bool.and_eq_true, decide_eq_true_eq] at hyes
        exact hyes.1.1.1
      have hp3 : (s 3 (s 7 i).toNat).toNat < nP t := by omega
      have hb9 := (hb i hin).1
      have hb10 := (hb (s 3 (s 7 i).toNat).toNat hp3).2
      simp only [s_o hS, t_o hT, s_p7 hS, s_r7 hS, s_p2 hS, s_r2 hS, s_p9 hS, s_r9 hS, s_a9 hS, e7, e3, e9, true_and]
      refine ⟨by constructor <;> omega, by constructor <;> omega, by constructor <;> omega, by constructor <;> omega, by constructor <;> omega, ?_⟩
      have s1 := hs.put li (r := 9) (i := i) (v := min 999999 (owe s i 9 i + 1)) hin (by decide) (by decide) (a := k + 10) (j := Int.toNat (i : Int)) rfl (Int.toNat_natCast i)
      have f1 : CG k w0 (xup w (k + 10) (Int.toNat (i : Int)) (min 999999 (owe s i 9 i + 1))) := hf.trans (CG.up (by omega) (by omega) (by omega))
      generalize xup w (k + 10) (Int.toNat (i : Int)) (min 999999 (owe s i 9 i + 1)) = w1 at *
      have e10 : w1 (k + 11) (Int.toNat (s 3 (s 7 i).toNat)) = owe s i 10 (s 3 (s 7 i).toNat).toNat := by
        rw [show w1 (k + 11) (Int.toNat (s 3 (s 7 i).toNat)) = _ from s1.1 10 (s 3 (s 7 i).toNat).toNat hp3 (by decide) (by decide), zset_n (by decide)]
      refine wSt_oweForWarmth_55 ?_
      simp only [s_o hS, s_p10 hS, s_r10 hS, s_a10 hS, e10, true_and]
      refine ⟨by constructor <;> omega, by constructor <;> omega, by constructor <;> omega, by constructor <;> omega, ?_⟩
      rw [show ((i : Int) + 1) = ((i + 1 : Nat) : Int) by omega]
      refine cl_owe1 hS hT hd hl li si hk n (i + 1) _ (by omega) (f1.trans (CG.up (by omega) (by omega) (by omega))) ?_
      rw [owe, if_pos hyes]
      refine (s1.put li (r := 10) (i := (s 3 (s 7 i).toNat).toNat) hp3 (by decide) (by decide) rfl rfl).to (fun r j _ _ _ => ?_) fun j => ?_
      · by_cases h10 : r = 10
        · subst h10
          rw [zset_s, zset_s]
          by_cases z : j = (s 3 (s 7 i).toNat).toNat
          · rw [z, zup_s, zup_s]
          · rw [zup_n z, zup_n z, zset_n (by decide)]
        · rw [zset_n h10, zset_n h10]
      · rw [zset_n (by decide), zset_n (by decide), zset_n (by decide), zset_n (by decide)]
        rw [zset_n (by decide), zset_n (by decide), zset_n (by decide), zset_n (by decide)]; exact ⟨rfl, rfl⟩
theorem cl_owe (hS : SG g k) (hT : TG g kt) (hd : kt + 7 < k ∨ k + 12 < kt) (hl : RCl t kt w) (hs : RCs t s k w) (li : LInv t) (si : SInv t s) (hQ : ∀ w2, CG k w w2 → RCs t (owe s (nP t)) k w2 → Q none g w2) : cal (d + 2) nSt_oweForWarmth [xr k, xr kt] g w Q := by
  refine eSt_oweForWarmth fun lim Q2 h2 => wSt_oweForWarmth_0 ?_
  exact cl_owe1 hS hT hd hl li si (fun w2 a b => h2 none g w2 rfl (hQ w2 a b)) (nP t) 0 w (by omega) CG.refl hs
theorem skS_o {n r i : Nat} (h8 : r ≠ 8) (h12 : r ≠ 12) : skS s n r i = s r i := by unfold skS; rw [zset_n h12, zset_n h8]
theorem skS_8 {n i : Nat} : skS s n 8 i = if i < n then skn s i else s 8 i := by unfold skS; rw [zset_n (by decide), zset_s]
theorem skS_4 {n : Nat} : skS s n 12 4 = msk (fun p => decide (skn s p < 20)) (s 12 4) n := by unfold skS; rw [zset_s, zup_s]
theorem skS_12 {n i : Nat} (h : i ≠ 4) : skS s n 12 i = s 12 i := by unfold skS; rw [zset_s, zup_n h]
theorem skS_0 : skS s 0 = s := by
  funext r i
  by_cases h12 : r = 12
  · subst h12
    by_cases z : i = 4
    · subst z; rw [skS_4]; rfl
    · rw [skS_12 z]
  · by_cases h8 : r = 8
    · subst h8; rw [skS_8, if_neg (by omega)]
    · rw [skS_o h8 h12]
theorem cl_skin1 (hS : SG g k) (hT : TG g kt) (hd : kt + 7 < k ∨ k + 12 < kt) (hl : RCl t kt w0) (li : LInv t) (si : SInv t s) (hk : ∀ w, CG k w0 w → RCs t (skS s (nP t)) k w → Q none g w) : ∀ (n i : Nat) (w : xW), i + n = nP t → CG k w0 w → RCs t (skS s i) k w → aSt_warmSkins d lim Q 2 [xr k, xr kt, xi i] [] g w
  | 0, i, w, hi, hf, hs => by
    have hl2 := hl.fr hf.1 hd
    obtain ⟨n1, n2, -, -, n5, n6⟩ := li_n li
    have e8 : w kt 5 = t 0 5 := hl2.2.2.2.2.2.1
    have hi : i = nP t := by omega
    subst hi
    refine wSt_warmSkins_2 ?_
    simp only [s_o hS, t_o hT, e8, true_and]
    exact ⟨fun _ => hk w hf hs, fun h => by omega⟩
  | n + 1, i, w, hi, hf, hs => by
    have hl2 := hl.fr hf.1 hd
    obtain ⟨n1, n2, -, -, n5, n6⟩ := li_n li
    have e8 : w kt 5 = t 0 5 := hl2.2.2.2.2.2.1
    have hin : i < nP t := by omega
    have h5 := si.2.2.2.2.1 i hin
    have hcc : (s 7 i).toNat < nC t := by omega
    have h0 := (si.1 (s 7 i).toNat hcc).1
    have hsk := skn_b si hin
    have e7 : w (k + 8) (Int.toNat (i : Int)) = s 7 i := by
      rw [Int.toNat_natCast, show w (k + 8) i = _ from hs.1 7 i hin (by decide) (by decide), skS_o (by decide) (by decide)]
    have e8b : w (k + 9) (Int.toNat (i : Int)) = s 8 i := by
      rw [Int.toNat_natCast, show w (k + 9) i = _ from hs.1 8 i hin (by decide) (by decide), skS_8, if_neg (by omega)]
    have e0 : w (k + 1) (Int.toNat (s 7 i)) = s 0 (s 7 i).toNat := by
      rw [show w (k + 1) (Int.toNat (s 7 i)) = _ from hs.1 0 (s 7 i).toNat hcc (by decide) (by decide), skS_o (by decide) (by decide)]
    have esk : s 8 i + (s 0 (s 7 i).toNat - s 8 i).tdiv 4 = skn s i := rfl
    refine wSt_warmSkins_2 ?_
    simp only [s_o hS, t_o hT, s_p7 hS, s_r7 hS, s_p0 hS, s_r0 hS, s_p8 hS, s_r8 hS, s_a8 hS, e7, e8, e8b, e0, esk, true_and]
    refine ⟨fun h => by omega, fun _ => ⟨by constructor <;> omega, by constructor <;> omega, by constructor <;> omega, by constructor <;> omega, by constructor <;> omega, ⟨by decide, ?_⟩, by constructor <;> omega, by constructor <;> omega, ?_⟩⟩
    · have : (s 0 (s 7 i).toNat - s 8 i).tdiv 4 = skn s i - s 8 i := by rw [← esk]; omega
      rw [this]
      constructor <;> omega
    · have s1 := hs.put li (r := 8) (i := i) (v := skn s i) hin (by decide) (by decide) (a := k + 9) (j := Int.toNat (i : Int)) rfl (Int.toNat_natCast i)
      have f1 : CG k w0 (xup w (k + 9) (Int.toNat (i : Int)) (skn s i)) := hf.trans (CG.up (by omega) (by omega) (by omega))
      have e81 : xup w (k + 9) (Int.toNat (i : Int)) (skn s i) (k + 9) (Int.toNat (i : Int)) = skn s i := by rw [xup_s]
      generalize xup w (k + 9) (Int.toNat (i : Int)) (skn s i) = w1 at *
      have e4 : w1 k 13 = msk (fun p => decide (skn s p < 20)) (s 12 4) i := by
        rw [show w1 k 13 = _ from s1.1 12 4 (show 4 < 5 by decide) (by decide) (by decide), zset_n (by decide), skS_4]
      refine wSt_warmSkins_39 ?_
      simp only [s_o hS, s_p8 hS, s_r8 hS, e81, e4, true_and]
      rw [show ((i : Int) + 1) = ((i + 1 : Nat) : Int) by omega]
      refine ⟨by constructor <;> omega, fun q => ⟨by constructor <;> omega, ?_⟩, fun q => ⟨by constructor <;> omega, ?_⟩⟩
      · refine cl_skin1 hS hT hd hl li si hk n (i + 1) _ (by omega) f1 (s1.to (fun r j _ _ _ => ?_) fun j => ?_)
        · by_cases h8 : r = 8
          · subst h8
            rw [zset_s, skS_8]
            by_cases z : j = i
            · subst z; rw [zup_s, if_pos (by omega)]
            · rw [zup_n z, skS_8]
              by_cases z2 : j < i
              · rw [if_pos z2, if_pos (by omega)]
              · rw [if_neg z2, if_neg (by omega)]
          · rw [zset_n h8]
            by_cases h12 : r = 12
            · subst h12
              by_cases z : j = 4
              · subst z; rw [skS_4, skS_4, msk, if_neg (by simp; omega)]
              · rw [skS_12 z, skS_12 z]
            · rw [skS_o h8 h12, skS_o h8 h12]
        · rw [zset_n (by decide), zset_n (by decide), skS_o (by decide) (by decide), skS_o (by decide) (by decide), skS_o (by decide) (by decide), skS_o (by decide) (by decide)]; exact ⟨rfl, rfl⟩
      · refine cl_skin1 hS hT hd hl li si hk n (i + 1) _ (by omega) (f1.trans (CG.up (by omega) (by omega) (by omega))) ?_
        refine (s1.put li (r := 12) (i := 4) (show 4 < 5 by decide) (by decide) (by decide) rfl rfl).to (fun r j _ _ _ => ?_) fun j => ?_
        · by_cases h12 : r = 12
          · subst h12
            rw [zset_s]
            by_cases z : j = 4
            · subst z; rw [zup_s, skS_4, msk, if_pos (by simp; omega)]
            · rw [zup_n z, zset_n (by decide), skS_12 z, skS_12 z]
          · rw [zset_n h12]
            by_cases h8 : r = 8
            · subst h8
              rw [zset_s, skS_8]
              by_cases z : j = i
              · subst z; rw [zup_s, if_pos (by omega)]
              · rw [zup_n z, skS_8]
                by_cases z2 : j < i
                · rw [if_pos z2, if_pos (by omega)]
                · rw [if_neg z2, if_neg (by omega)]
            · rw [zset_n h8, skS_o h8 h12, skS_o h8 h12]
        · rw [zset_n (by decide), zset_n (by decide), zset_n (by decide), zset_n (by decide), skS_o (by decide) (by decide), skS_o (by decide) (by decide), skS_o (by decide) (by decide), skS_o (by decide) (by decide)]; exact ⟨rfl, rfl⟩
theorem cl_skin (hS : SG g k) (hT : TG g kt) (hd : kt + 7 < k ∨ k + 12 < kt) (hl : RCl t kt w) (hs : RCs t s k w) (li : LInv t) (si : SInv t s) (hQ : ∀ w2, CG k w w2 → RCs t (skS s (nP t)) k w2 → Q none g w2) : cal (d + 1) nSt_warmSkins [xr k, xr kt] g w Q := by
  refine eSt_warmSkins fun lim Q2 h2 => wSt_warmSkins_0 ?_
  exact cl_skin1 hS hT hd hl li si (fun w2 a b => h2 none g w2 rfl (hQ w2 a b)) (nP t) 0 w (by omega) CG.refl (by rw [skS_0]; exact hs)
/-- a minute of the class is a minute -/
theorem cl_passMinuteF (hS : SG g k) (hT : TG g kt) (hd : kt + 7 < k ∨ k + 12 < kt) (hl : RCl t kt w) (hs : RCs t s k w) (li : LInv t) (si : SInv t s) (hm : s 12 2 < 1000000000) (hQ : ∀ w2, CF k w w2 → RCs t (step t numb s) k w2 → w2 k 12 = msk (feB t (stA t s) numb) 0 (nP t) → Q none g w2) : cal (d + 4) nSt_passMinute [xr k, xr kt, xi numb] g w Q := by
  refine eSt_passMinute fun lim Q2 h2 => wSt_passMinute_0 ?_
  have hQ := fun w2 a b c => h2 none g w2 rfl (hQ w2 a b c)
  simp only [s_o hS, true_and]
  refine cl_flow hS hT hd hl hs li si fun w1 f1 s1 => ⟨rfl, s_o hS, ?_⟩
  refine cl_addW hS hT hd (hl.fr f1 hd) li si s1 fun w2 f2 s2 => ⟨rfl, s_o hS, ?_⟩
  have f12 := f1.trans f2
  refine cl_cool hS hT hd (hl.fr f12 hd) li si s2 fun w3 f3 s3 => ⟨rfl, s_o hS, ?_⟩
  have f13 := f12.trans f3
  have siA := si_A li si
  refine cl_feel hS hT hd (hl.fr f13 hd) s3 li siA fun w4 f4 s4 F4 => ⟨rfl, s_o hS, ?_⟩
  have f14 := f13.trans f4
  refine cl_take hS hT hd (hl.fr f14 hd) s4 li siA F4 fun w5 f5 s5 F5 => ⟨rfl, s_o hS, ?_⟩
  have f15 := f14.trans f5
  have siB := si_B (fe := feB t (stA t s) numb) li siA
  refine cl_keepLaw hS hT hd (hl.fr f15 hd) s5 li siB F5 fun w6 f6 s6 => ⟨rfl, s_o hS, ?_⟩
  have f16 := f15.trans f6.1
  have siD := si_D (fe := feB t (stA t s) numb) li (si_C siB li.2.2.2.2.1.1)
  refine cl_owe hS hT hd (hl.fr f16 hd) s6 li siD fun w7 f7 s7 => ⟨rfl, s_o hS, ?_⟩
  have f17 := f16.trans f7.1
  have siE := si_E siD
  refine cl_skin hS hT hd (hl.fr f17 hd) s7 li siE fun w8 f8 s8 => ⟨rfl, s_o hS, ?_⟩
  have f18 := f17.trans f8.1
  have e16 : w8 k 16 = s 12 2 := by
    rw [show w8 k 16 = _ from s8.1 12 2 (show 2 < 5 by decide) (by decide) (by decide), skS_12 (by decide), owe_o (by decide) (by decide)]; rfl
  have hm0 := si.2.2.2.2.2.2.2.1
  rw [e16]
  refine ⟨by constructor <;> omega, s_o hS, hQ _ (f18.trans (CF.up (by omega) (by omega))) ?_ (by rw [xup_k (by decide)]; exact (f8.2.trans f7.2).trans (f6.2.trans F5))⟩
  refine (s8.put li (r := 12) (i := 2) (show 2 < 5 by decide) (by decide) (by decide) rfl rfl).to (fun r j hj _ _ => ?_) fun j => ?_
  · unfold step stF
    by_cases h12 : r = 12
    · subst h12
      rw [zset_s, zset_s]
      by_cases z : j = 2
      · subst z; rw [zup_s, zup_s, owe_o (by decide) (by decide)]; rfl
      · rw [zup_n z, zup_n z]
        by_cases z4 : j = 4
        · subst z4; rw [zup_s, skS_4]
        · rw [zup_n z4, skS_12 z4]
    · rw [zset_n h12, zset_n h12]
      by_cases h8 : r = 8
      · subst h8
        have hj : j < nP t := hj
        rw [zset_s, skS_8, if_pos hj]
      · rw [zset_n h8, skS_o h8 h12]
  · unfold step stF
    rw [zset_n (by decide), zset_n (by decide), zset_n (by decide), zset_n (by decide), zset_n (by decide), zset_n (by decide), skS_o (by decide) (by decide), skS_o (by decide) (by decide)]; exact ⟨rfl, rfl⟩
theorem cl_passMinute (hS : SG g k) (hT : TG g kt) (hd : kt + 7 < k ∨ k + 12 < kt) (hl : RCl t kt w) (hs : RCs t s k w) (li : LInv t) (si : SInv t s) (hm : s 12 2 < 1000000000) (hQ : ∀ w2, CF k w w2 → RCs t (step t numb s) k w2 → Q none g w2) : cal (d + 4) nSt_passMinute [xr k, xr kt, xi numb] g w Q :=
  cl_passMinuteF hS hT hd hl hs li si hm fun w2 a b _ => hQ w2 a b
theorem cl_mins (hS : SG g k) (hT : TG g kt) (hd : kt + 7 < k ∨ k + 12 < kt) (hl : RCl t kt w0) (li : LInv t) (si : SInv t s) {m : Nat} (hm : s 12 2 + m ≤ 1000000000) (hk : ∀ w, CF k w0 w → RCs t (steps t numb m s) k w → Q none g w) : ∀ (n i : Nat) (w : xW), i + n = m → CF k w0 w → RCs t (steps t numb i s) k w → aSt_passMinutes (d + 4) lim Q 3 [xr k, xr kt, xi m, xi numb, xi i] [] g w
  | 0, i, w, hi, hf, hs => by
    have hi : i = m := by omega
    subst hi
    refine wSt_passMinutes_3 ?_
    simp only [s_o hS, true_and]
    exact ⟨fun _ => hk w hf hs, fun h => by omega⟩
  | n + 1, i, w, hi, hf, hs => by
    have sii := si_steps (numb := numb) li si i (by omega)
    have hmm := steps_m (t := t) (s := s) (numb := numb) i
    have hm0 := si.2.2.2.2.2.2.2.1
    refine wSt_passMinutes_3 ?_
    simp only [s_o hS, true_and]
    refine ⟨fun h => by omega, fun _ => cl_passMinute hS hT hd (hl.fr hf hd) hs li sii (by omega) fun w2 f2 s2 => ⟨rfl, by constructor <;> omega, ?_⟩⟩
    rw [show ((i : Int) + 1) = ((i + 1 : Nat) : Int) by omega]
    exact cl_mins hS hT hd hl li si hm hk n (i + 1) w2 (by omega) (hf.trans f2) (by rw [steps_s]; exact s2)
/-- minutes of the class are minutes -/
theorem cl_passMinutes (hS : SG g k) (hT : TG g kt) (hd : kt + 7 < k ∨ k + 12 < kt) (hl : RCl t kt w) (hs : RCs t s k w) (li : LInv t) (si : SInv t s) {m : Nat} (hm : s 12 2 + m ≤ 1000000000) (hQ : ∀ w2, CF k w w2 → RCs t (steps t numb m s) k w2 → Q none g w2) : cal (d + 5) nSt_passMinutes [xr k, xr kt, xi m, xi numb] g w Q := by
  refine eSt_passMinutes fun lim Q2 h2 => wSt_passMinutes_0 ?_
  exact cl_mins hS hT hd hl li si hm (fun w2 a b => h2 none g w2 rfl (hQ w2 a b)) m 0 w (by omega) CF.refl hs
end CLF
