/-! ===== the reference looks at tokens ===== -/
def TxM (T : zT) (L : Nat) (w : xW) : Prop := w 193 25 = L ∧ ∀ j, j < L → w 210 j = T j
abbrev dgt (T : zT) (a : Nat) : Prop := 48 ≤ T a ∧ T a ≤ 57
def tkV (T : zT) (L a : Nat) : Int := if a < L then (if dgt T a then 1 else if T a < 2 then 2 else T a) else 0
def tkL (T : zT) (L a : Nat) : Nat := if a < L then (if dgt T a then fg T L a else 1) else 0
def tkN (T : zT) (L a : Nat) : Int := if a < L ∧ dgt T a then (if fg T L a ≤ 3 then vlU T a (fg T L a) else 1000000) else 0
/-- the token behind place i -/
def LK (T : zT) (L i : Nat) (w : xW) : Prop := w 193 27 = ((sk T L i : Nat) : Int) ∧ w 193 28 = ((tkL T L (sk T L i) : Nat) : Int) ∧ w 193 29 = tkV T L (sk T L i) ∧ w 193 30 = tkN T L (sk T L i)
/-- only the token has changed -/
def NK (w w2 : xW) : Prop := ∀ a j, ¬ (a = 193 ∧ 27 ≤ j ∧ j ≤ 30) → w2 a j = w a j
section MTA
variable {g : xG} {w w0 : xW} {T : zT} {L : Nat} {t s : zS} {d : Nat} {Q : xQ} {lim : Nat × Nat}
theorem NK.refl : NK w w := fun _ _ _ => rfl
theorem NK.trans {w2 w3 : xW} (h : NK w w2) (h2 : NK w2 w3) : NK w w3 := fun a j q => (h2 a j q).trans (h a j q)
theorem NK.up {j : Nat} {x : Int} (hj : 27 ≤ j ∧ j ≤ 30) : NK w (xup w 193 j x) := fun a i q => by
  by_cases z : a = 193
  · subst z; exact xup_k (by omega)
  · exact xup_a z
theorem TxM.nk {w2 : xW} (h : TxM T L w) (f : NK w w2) : TxM T L w2 := ⟨(f 193 25 (by omega)).trans h.1, fun j hj => (f 210 j (by omega)).trans (h.2 j hj)⟩
theorem fg_0 {a : Nat} (h : ¬ (a < L ∧ dgt T a)) : fg T L a = 0 := by
  unfold fg
  cases hk : L - a with
  | zero => rfl
  | succ k => unfold fgU; rw [if_neg (fun z => h ⟨z.1, z.2⟩)]
theorem fg_1 {a : Nat} (h : a < L ∧ dgt T a) : 0 < fg T L a := by
  unfold fg
  rw [show L - a = (L - a - 1) + 1 by omega, fgU, if_pos ⟨h.1, h.2⟩]; omega
theorem mo_look5 (hM : MG g) (hT : TxI T L) : ∀ (n i : Nat) (w : xW), i + n = L → TxM T L w → w 193 27 = (i : Int) → (∀ w2, NK w w2 → w2 193 27 = ((skU T L n i : Nat) : Int) → aMo_look d lim Q 43 [xr 193, none, none] [] g w2) → aMo_look d lim Q 5 [xr 193, none, none] [] g w
  | 0, i, w, hi, hx, hp, hk => by
    have e1 : w 193 25 = L := hx.1
    refine wMo_look_5 ?_
    simp only [m_o hM, e1, hp, true_and]
    exact ⟨fun _ => hk w NK.refl hp, fun h => by omega⟩
  | n + 1, i, w, hi, hx, hp, hk => by
    have e1 : w 193 25 = L := hx.1
    have e2 : w 210 (Int.toNat (i : Int)) = T i := by rw [Int.toNat_natCast]; exact hx.2 i (by omega)
    have hL := hT.1
    refine wMo_look_5 ?_
    simp only [m_o hM, m_p24 hM, m_r24 hM, e1, hp, e2, true_and]
    refine ⟨fun h => by omega, fun _ => ⟨by constructor <;> omega, fun q => hk w NK.refl ?_, fun q => ⟨by constructor <;> omega, ?_⟩⟩⟩
    · rw [hp, skU, if_neg (fun z => q z.2)]
    · rw [show ((i : Int) + 1) = ((i + 1 : Nat) : Int) by omega]
      refine mo_look5 hM hT n (i + 1) _ (by omega) (hx.nk (NK.up (by decide))) xup_s fun w2 f2 p2 => hk w2 ((NK.up (by decide)).trans f2) ?_
      rw [p2, skU, if_pos ⟨by omega, q⟩]
theorem mo_isFig {x : Int} (hQ : Q (some (xi (if 48 ≤ x ∧ x ≤ 57 then 1 else 0))) g w) : cal (d + 2) nMo_isFigure [xi x] g w Q := by
  refine eMo_isFigure fun lim Q2 h2 => wMo_isFigure_0 ?_
  exact mo_in ⟨_, rfl, by split <;> omega, h2 _ _ _ rfl hQ⟩
theorem mo_look183 (hM : MG g) (hT : TxI T L) {a : Nat} (ha : a < L) (hd : dgt T a) (hk : ∀ w2, NK w0 w2 → w2 193 27 = w0 193 27 → w2 193 28 = w0 193 28 → w2 193 29 = w0 193 29 → w2 193 30 = (if fg T L a ≤ 3 then vlU T a (fg T L a) else 1000000) → Q none g w2) : ∀ (n k : Nat) (w : xW), k + n = fg T L a → TxM T L w → NK w0 w → w 193 27 = (a : Int) → w0 193 27 = (a : Int) → w 193 28 = ((fg T L a : Nat) : Int) → w0 193 28 = ((fg T L a : Nat) : Int) → w 193 29 = 1 → w0 193 29 = 1 → w 193 30 = (if fg T L a ≤ 3 then vlU T a k else if k = 0 then 0 else 1000000) → aMo_look d lim Q 183 [xr 193, none, xi k] [] g w
  | 0, k, w, hn, hx, hf, h27, g27, h28, g28, h29, g29, h30 => by
    have hp := fg_1 ⟨ha, hd⟩
    have hkk : k = fg T L a := by omega
    refine wMo_look_183 ?_
    simp only [m_o hM, h28, true_and]
    refine ⟨fun _ => hk w hf (h27.trans g27.symm) (h28.trans g28.symm) (h29.trans g29.symm) ?_, fun h => by omega⟩
    rw [h30, hkk, if_neg (show ¬ fg T L a = 0 by omega)]
  | n + 1, k, w, hn, hx, hf, h27, g27, h28, g28, h29, g29, h30 => by
    have hb := fg_b (T := T) (i := a) (L := L) (by omega)
    have hL := hT.1
    have dk := fg_d (T := T) (L := L) (i := a) (by omega) (j := k) (by omega)
    have ek : w 210 (Int.toNat ((a : Int) + (k : Int))) = T (a + k) := by rw [show Int.toNat ((a : Int) + (k : Int)) = a + k by omega]; exact hx.2 _ (by omega)
    refine wMo_look_183 ?_
    simp only [m_o hM, m_p24 hM, m_r24 hM, h27, h28, h29, ek, true_and]
    refine ⟨fun h => by omega, fun _ => ⟨fun q => absurd trivial q, fun _ => ⟨fun q => ?_, fun q => ⟨by constructor <;> omega, ?_⟩⟩⟩⟩
    · have h3 : fg T L a ≤ 3 := by omega
      rw [if_pos h3] at h30
      have vb := vlU_b (T := T) (i := a) k (fun j hj => fg_d (L := L) (i := a) (by omega) (by omega)) (by omega)
      rw [h30]
      refine ⟨by constructor <;> omega, by constructor <;> omega, by constructor <;> omega, by constructor <;> omega, by constructor <;> omega, by constructor <;> omega, ?_⟩
      rw [show ((k : Int) + 1) = ((k + 1 : Nat) : Int) by omega]
      refine mo_look183 hM hT ha hd hk n (k + 1) _ (by omega) (hx.nk (NK.up (by decide))) (hf.trans (NK.up (by decide))) (by rw [xup_k (by decide)]; exact h27) g27 (by rw [xup_k (by decide)]; exact h28) g28 (by rw [xup_k (by decide)]; exact h29) g29 ?_
      rw [xup_s, if_pos h3]; rfl
    · rw [show ((k : Int) + 1) = ((k + 1 : Nat) : Int) by omega]
      refine mo_look183 hM hT ha hd hk n (k + 1) _ (by omega) (hx.nk (NK.up (by decide))) (hf.trans (NK.up (by decide))) (by rw [xup_k (by decide)]; exact h27) g27 (by rw [xup_k (by decide)]; exact h28) g28 (by rw [xup_k (by decide)]; exact h29) g29 ?_
      rw [xup_s, if_neg (by omega), if_neg (by omega)]
theorem mo_look124 (hM : MG g) (hT : TxI T L) {a : Nat} (ha : a < L) (hd : dgt T a) (hk : ∀ w2, NK w0 w2 → w2 193 27 = (a : Int) → w2 193 28 = ((fg T L a : Nat) : Int) → w2 193 29 = 1 → w2 193 30 = 0 → aMo_look (d + 2) lim Q 183 [xr 193, none, xi 0] [] g w2) : ∀ (n m : Nat) (w : xW), a + m + n = L → m + fgU T L n (a + m) = fg T L a → TxM T L w → NK w0 w → w 193 27 = (a : Int) → w 193 28 = (m : Int) → w 193 29 = 1 → w 193 30 = 0 → aMo_look (d + 2) lim Q 124 [xr 193, none, none] [] g w
  | 0, m, w, hn, he, hx, hf, h27, h28, h29, h30 => by
    have e1 : w 193 25 = L := hx.1
    have em : m = fg T L a := by unfold fgU at he; omega
    have hL := hT.1
    refine wMo_look_124 ?_
    simp only [m_o hM, e1, h27, h28, h29, true_and]
    refine ⟨fun q => absurd trivial q, fun _ => ⟨by constructor <;> omega, fun _ => hk w hf h27 (by rw [h28, em]) h29 h30, fun h => by omega⟩⟩
  | n + 1, m, w, hn, he, hx, hf, h27, h28, h29, h30 => by
    have e1 : w 193 25 = L := hx.1
    have hL := hT.1
    have ek : w 210 (Int.toNat ((a : Int) + (m : Int))) = T (a + m) := by rw [show Int.toNat ((a : Int) + (m : Int)) = a + m by omega]; exact hx.2 _ (by omega)
    refine wMo_look_124 ?_
    simp only [m_o hM, m_p24 hM, m_r24 hM, e1, h27, h28, h29, ek, true_and]
    refine ⟨fun q => absurd trivial q, fun _ => ⟨by constructor <;> omega, fun h => by omega, fun _ => ⟨by constructor <;> omega, by constructor <;> omega, mo_isFig ⟨_, rfl, fun z => ?_, fun z => ?_⟩⟩⟩⟩
    · have z := ifv.1 z
      have em : m = fg T L a := by
        unfold fgU at he
        rw [if_neg (fun y => z y.2)] at he
        omega
      exact hk w hf h27 (by rw [h28, em]) h29 h30
    · have z := ifv.2 z
      simp only [m_o hM, h28, true_and]
      refine ⟨by constructor <;> omega, ?_⟩
      rw [show ((m : Int) + 1) = ((m + 1 : Nat) : Int) by omega]
      refine mo_look124 hM hT ha hd hk n (m + 1) _ (by omega) ?_ (hx.nk (NK.up (by decide))) (hf.trans (NK.up (by decide))) (by rw [xup_k (by decide)]; exact h27) xup_s (by rw [xup_k (by decide)]; exact h29) (by rw [xup_k (by decide)]; exact h30)
      unfold fgU at he
      rw [if_pos ⟨by omega, z⟩] at he
      rw [show a + (m + 1) = a + m + 1 by omega]; omega
theorem mo_look (hM : MG g) (hT : TxI T L) (hx : TxM T L w) {i : Nat} (hi : i ≤ L) (hQ : ∀ w2, NK w w2 → LK T L i w2 → Q none g w2) : cal (d + 3) nMo_look [xr 193, xi i] g w Q := by
  refine eMo_look fun lim Q2 h2 => wMo_look_0 ?_
  have hQ := fun w2 a b => h2 _ g w2 rfl (hQ w2 a b)
  have b := sk_b (T := T) hi
  have hL := hT.1
  simp only [m_o hM, true_and]
  refine mo_look5 hM hT (L - i) i _ (by omega) (hx.nk (NK.up (by decide))) xup_s fun w1 f1 p1 => ?_
  have f1 := (NK.up (w := w) (x := (i : Int)) (j := 27) (by decide)).trans f1
  have p1 : w1 193 27 = ((sk T L i : Nat) : Int) := p1
  have x1 := hx.nk f1
  refine wMo_look_43 ?_
  simp only [m_o hM, true_and]
  refine wMo_look_48 ?_
  simp only [m_o hM, true_and]
  refine wMo_look_53 ?_
  simp only [m_o hM, true_and]
  have f2 : NK w (xup (xup (xup w1 193 28 0) 193 29 0) 193 30 0) := f1.trans ((NK.up (by decide)).trans ((NK.up (by decide)).trans (NK.up (by decide))))
  have p2 : xup (xup (xup w1 193 28 0) 193 29 0) 193 30 0 193 27 = ((sk T L i : Nat) : Int) := by rw [xup_k (by decide), xup_k (by decide), xup_k (by decide), p1]
  have q28 : xup (xup (xup w1 193 28 0) 193 29 0) 193 30 0 193 28 = 0 := by rw [xup_k (by decide), xup_k (by decide), xup_s]
  have q29 : xup (xup (xup w1 193 28 0) 193 29 0) 193 30 0 193 29 = 0 := by rw [xup_k (by decide), xup_s]
  have q30 : xup (xup (xup w1 193 28 0) 193 29 0) 193 30 0 193 30 = 0 := xup_s
  generalize xup (xup (xup w1 193 28 0) 193 29 0) 193 30 0 = w2 at f2 p2 q28 q29 q30
  have x2 := hx.nk f2
  have e1 : w2 193 25 = L := x2.1
  refine wMo_look_58 ?_
  simp only [m_o hM, m_p24 hM, m_r24 hM, p2, e1, true_and]
  refine ⟨fun q => ⟨by constructor <;> omega, ?_⟩, fun q => hQ w2 f2 ⟨p2, ?_, ?_, ?_⟩⟩
  · have ha : sk T L i < L := by omega
    have eT : w2 210 (Int.toNat ((sk T L i : Nat) : Int)) = T (sk T L i) := by rw [Int.toNat_natCast]; exact x2.2 _ ha
    rw [eT]
    have nod : ¬ dgt T (sk T L i) → ∀ x : Int, x ≠ 1 → x = tkV T L (sk T L i) → aMo_look (d + 2) lim Q2 119 [xr 193, none, none] [] g (xup w2 193 29 x) := fun hd x hx1 hxv => by
      refine wMo_look_119 ?_
      simp only [m_o hM, true_and]
      refine wMo_look_124 ?_
      have r29 : xup (xup w2 193 29 x) 193 28 1 193 29 = x := by rw [xup_k (by decide), xup_s]
      have r28 : xup (xup w2 193 29 x) 193 28 1 193 28 = 1 := xup_s
      simp only [m_o hM, r29, true_and]
      refine ⟨fun _ => wMo_look_183 ?_, fun z => absurd z hx1⟩
      simp only [m_o hM, r28, r29, true_and]
      refine ⟨fun z => by omega, fun _ => ⟨fun _ => hQ _ (f2.trans ((NK.up (by decide)).trans (NK.up (by decide)))) ⟨?_, ?_, ?_, ?_⟩, fun z => absurd z hx1⟩⟩
      · rw [xup_k (by decide), xup_k (by decide)]; exact p2
      · rw [r28]; unfold tkL; rw [if_pos ha, if_neg hd]; rfl
      · rw [r29, hxv]
      · rw [xup_k (by decide), xup_k (by decide), q30]; unfold tkN; rw [if_neg (fun z => hd z.2)]
    refine mo_isFig ⟨_, rfl, fun z => ?_, fun z => ?_⟩
    · have z : ¬ dgt T (sk T L i) := ifv.1 z
      simp only [m_o hM, m_p24 hM, m_r24 hM, p2, eT, true_and]
      refine ⟨by constructor <;> omega, fun y => ⟨by constructor <;> omega, nod z _ (by omega) ?_⟩, fun y => nod z 2 (by decide) ?_⟩
      · unfold tkV; rw [if_pos ha, if_neg z, if_neg (by omega)]
      · unfold tkV; rw [if_pos ha, if_neg z, if_pos y]
    · have z : dgt T (sk T L i) := ifv.2 z
      simp only [m_o hM, true_and]
      refine wMo_look_119 ?_
      simp only [m_o hM, true_and]
      have f3 : NK w (xup (xup w2 193 29 1) 193 28 1) := f2.trans ((NK.up (by decide)).trans (NK.up (by decide)))
      have r27 : xup (xup w2 193 29 1) 193 28 1 193 27 = ((sk T L i : Nat) : Int) := by rw [xup_k (by decide), xup_k (by decide)]; exact p2
      have r28 : xup (xup w2 193 29 1) 193 28 1 193 28 = ((1 : Nat) : Int) := xup_s
      have r29 : xup (xup w2 193 29 1) 193 28 1 193 29 = 1 := by rw [xup_k (by decide), xup_s]
      have r30 : xup (xup w2 193 29 1) 193 28 1 193 30 = 0 := by rw [xup_k (by decide), xup_k (by decide), q30]
      generalize xup (xup w2 193 29 1) 193 28 1 = w3 at f3 r27 r28 r29 r30
      have efg : 1 + fgU T L (L - (sk T L i) - 1) (sk T L i + 1) = fg T L (sk T L i) := by
        unfold fg
        rw [show L - sk T L i = (L - sk T L i - 1) + 1 by omega, fgU, if_pos ⟨ha, z⟩]
        simp; omega
      refine mo_look124 (w0 := w3) hM hT ha z (fun w4 f4 s27 s28 s29 s30 => ?_) (L - (sk T L i) - 1) 1 w3 (by omega) efg (hx.nk f3) NK.refl r27 r28 r29 r30
      refine mo_look183 (w0 := w4) hM hT ha z (fun w5 f5 u27 u28 u29 u30 => hQ w5 ((f3.trans f4).trans f5) ⟨u27.trans s27, ?_, ?_, ?_⟩) (fg T L (sk T L i)) 0 w4 (by omega) (hx.nk (f3.trans f4)) NK.refl s27 s27 s28 s28 s29 s29 ?_
      · rw [u28, s28]; unfold tkL; rw [if_pos ha, if_pos z]
      · rw [u29, s29]; unfold tkV; rw [if_pos ha, if_pos z]
      · rw [u30]; unfold tkN; exact (if_pos (show sk T L i < L ∧ dgt T (sk T L i) from ⟨ha, z⟩)).symm
      · rw [s30]; unfold vlU; split <;> simp
  · rw [q28]; unfold tkL; rw [if_neg (by omega)]; rfl
  · rw [q29]; unfold tkV; rw [if_neg (by omega)]
  · rw [q30]; unfold tkN; rw [if_neg (by omega)]
/-- the next token -/
theorem mo_goOn (hM : MG g) (hT : TxI T L) (hx : TxM T L w) {i : Nat} (hi : i ≤ L) (hl : LK T L i w) (hQ : ∀ w2, NK w w2 → LK T L (sk T L i + tkL T L (sk T L i)) w2 → Q none g w2) : cal (d + 4) nMo_goOn [xr 193] g w Q := by
  refine eMo_goOn fun lim Q2 h2 => wMo_goOn_0 ?_
  have hQ := fun w2 a b => h2 _ g w2 rfl (hQ w2 a b)
  have b := sk_b (T := T) hi
  have fb := fg_b (T := T) b.2
  have hL := hT.1
  have ht : sk T L i + tkL T L (sk T L i) ≤ L := by
    unfold tkL
    split
    · split <;> omega
    · omega
  simp only [m_o hM, hl.1, hl.2.1, true_and]
  refine ⟨by constructor <;> omega, ?_⟩
  rw [show (((sk T L i : Nat) : Int) + ((tkL T L (sk T L i) : Nat) : Int)) = ((sk T L i + tkL T L (sk T L i) : Nat) : Int) by omega]
  exact mo_look hM hT hx ht fun w2 f2 l2 => ⟨rfl, hQ w2 f2 l2⟩
end MTA
