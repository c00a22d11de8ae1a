/-! ===== the class reads clauses: heaps ===== -/
def CS (g : xG) (kl kn : Nat) : Prop := RG g ∧ g.2 3 7 = kl ∧ g.2 3 8 = kn ∧ TG g kl ∧ SG g kn ∧ 4 < kl ∧ kl + 7 < kn
section TKE
variable {g : xG} {w w0 w2 : xW} {T : zT} {L : Nat} {t s : zS} {d : Nat} {Q : xQ} {lim : Nat × Nat} {kl kn : Nat} {v wl : Int}
theorem act_t {t2 : zS} {r i : Nat} (eC : nC t2 = nC t) (h : act t2 r i) (h5 : r ≠ 5) (h6 : r ≠ 6) (h7 : ¬ (7 ≤ r ∧ r ≤ 11)) : act t r i := by
  match r, h, h5, h6, h7 with
  | 0, h, _, _, _ => exact (show i < nC t from eC ▸ h)
  | 1, h, _, _, _ => exact h
  | 2, h, _, _, _ => exact h
  | 3, h, _, _, _ => exact (show i < nC t from eC ▸ h)
  | 4, h, _, _, _ => exact (show i < nC t from eC ▸ h)
  | 12, h, _, _, _ => exact h
  | 5, _, h, _, _ => exact absurd rfl h
  | 6, _, _, h, _ => exact absurd rfl h
  | 7, _, _, _, h | 8, _, _, _, h | 9, _, _, _, h | 10, _, _, _, h | 11, _, _, _, h => exact absurd (by omega) h
theorem zc_stove {c x f : Int} (hz : ZC t s v wl kl kn w) (li : LInv t) (hs6 : ∀ i, s 6 i = 0) (hk : 4 < kl ∧ kl + 7 < kn) (h4 : t 0 2 < 4) (e : ∀ a j, ¬ (a = kl ∧ j = 2) → ¬ ((a = kl + 4 ∨ a = kl + 5 ∨ a = kn + 6) ∧ j = nS t) → w2 a j = w a j) (e2 : w2 kl 2 = t 0 2 + 1) (e4 : w2 (kl + 4) (nS t) = c) (e5 : w2 (kl + 5) (nS t) = x) (e6 : w2 (kn + 6) (nS t) = f) : ZC (stT t c x) (stS t s f) v wl kl kn w2 := by
  obtain ⟨⟨l1, l2, l3, l4, l5, l6, l7, l8, l9, l10, l11⟩, hs, h3, h5, h6, h7, h8, h9⟩ := hz
  obtain ⟨n1, n2, n3, n4, n5, n6⟩ := li_n li
  have eC : nC (stT t c x) = nC t := nC_t (stT_0 (by decide)) (stT_0 (by decide))
  have eP : nP (stT t c x) = nP t := by unfold nP; rw [stT_0 (by decide)]
  have eS : nS (stT t c x) = nS t + 1 := by unfold nS; rw [stT_2]; unfold nS at n3; omega
  refine ⟨⟨?_, ?_, ?_, ?_, ?_, ?_, fun e2 he d hd => ?_, fun i q => ?_, fun i q => ?_, fun i q => ?_, fun i q => ?_⟩, ⟨fun r i q p1 p2 => ?_, fun e2 he => ?_⟩, (e 3 6 (by omega) (by omega)).trans h3, (e 3 5 (by omega) (by omega)).trans h5, fun i q => ?_, fun i q q2 => ?_, fun i q => ?_, fun i q => ?_⟩
  · rw [e _ _ (by omega) (by omega), l1, stT_0 (by decide)]
  · rw [e _ _ (by omega) (by omega), l2, stT_0 (by decide)]
  · rw [e2, stT_2]
  · rw [e _ _ (by omega) (by omega), l4, stT_0 (by decide)]
  · rw [e _ _ (by omega) (by omega), l5, stT_0 (by decide)]
  · rw [e _ _ (by omega) (by omega), l6, stT_0 (by decide)]
  · rw [e _ _ (by omega) (by omega), nbr_t (stT_0 (by decide)) (stT_0 (by decide))]; exact l7 e2 (by omega) d hd
  · rw [e _ _ (by omega) (by omega), stT_n (by decide) (by decide) (by decide)]; exact l8 i (by omega)
  · rw [stT_0 (by decide)] at q
    rw [e _ _ (by omega) (by omega), stT_n (by decide) (by decide) (by decide)]; exact l9 i q
  · rw [stT_3, stT_4]
    by_cases z : i = nS t
    · rw [z, zup_s, zup_s]; exact ⟨e4, e5⟩
    · rw [zup_n z, zup_n z, e _ _ (by omega) (by omega), e _ _ (by omega) (by omega)]; exact l10 i (by omega)
  · rw [e _ _ (by omega) (by omega), e _ _ (by omega) (by omega), stT_n (by decide) (by decide) (by decide), stT_n (by decide) (by decide) (by decide)]; exact l11 i (by omega)
  · by_cases z5 : r = 5
    · subst z5
      have q : i < nS t + 1 := by rw [← eS]; exact q
      show w2 (kn + 6) i = sd (stS t s f) v 5 i
      rw [sd_n (by decide)]
      unfold stS
      rw [zset_s]
      by_cases z : i = nS t
      · rw [z, zup_s]; exact e6
      · rw [zup_n z, e _ _ (by omega) (by omega)]
        have := hs.1 5 i (show i < nS t by omega) (by decide) (by decide)
        rw [sd_n (by decide)] at this; exact this
    · by_cases z6 : r = 6
      · subst z6
        have q : i < nS t + 1 := by rw [← eS]; exact q
        show w2 (kn + 7) i = sd (stS t s f) v 6 i
        rw [sd_n (by decide), e _ _ (by omega) (by omega), h8 i (by omega)]
        unfold stS
        rw [zset_n (by decide), hs6]
      · have qa : act t r i := by
          by_cases z7 : 7 ≤ r ∧ r ≤ 11
          · obtain ⟨z7, z8⟩ := z7
            match r, z7, z8, q with
            | 7, _, _, q | 8, _, _, q | 9, _, _, q | 10, _, _, q | 11, _, _, q => exact (show i < nP t from eP ▸ q)
          · exact act_t eC q z5 z6 z7
        have b := act_n li qa
        have hc := cad_le r b.1
        have h6c : cad r ≠ 6 := fun z => by
          have : ∀ r, r ≤ 12 → r ≠ 5 → cad r ≠ 6 := by decide
          exact this r b.1 z5 z
        have es : sd (stS t s f) v r i = sd s v r i := by
          by_cases z : r = 12
          · subst z; rw [sd_12, sd_12]
          · rw [sd_n z, sd_n z]; exact zset_n z5
        rw [es, e _ _ (by omega) (by omega)]; exact hs.1 r i qa p1 p2
  · rw [e _ _ (by omega) (by omega), brd_t (stT_0 (by decide)) (stT_0 (by decide)), hs.2 e2 (by omega)]
    refine (brd_c (fun i => ?_) _).symm
    rw [sd_n (by decide), sd_n (by decide), sd_n (by decide), sd_n (by decide)]
    exact ⟨zset_n (by decide), zset_n (by decide)⟩
  · rw [e _ _ (by omega) (by omega), e _ _ (by omega) (by omega), e _ _ (by omega) (by omega), stT_n (by decide) (by decide) (by decide)]; exact h6 i q
  · rw [e _ _ (by omega) (by omega)]; exact h7 i (by omega) q2
  · rw [e _ _ (by omega) (by omega)]; exact h8 i q
  · rw [e _ _ (by omega) (by omega), e _ _ (by omega) (by omega), e _ _ (by omega) (by omega)]; exact h9 i q
theorem zc_pers {c k x y : Int} (hz : ZC t s v wl kl kn w) (li : LInv t) (hs9 : ∀ i, s 9 i = 0 ∧ s 10 i = 0 ∧ s 11 i = 0) (hk : 4 < kl ∧ kl + 7 < kn) (h6' : t 0 5 < 6) (e : ∀ a j, ¬ (a = kl ∧ j = 5) → ¬ ((a = kl + 6 ∨ a = kl + 7 ∨ a = kn + 8 ∨ a = kn + 9) ∧ j = nP t) → w2 a j = w a j) (e2 : w2 kl 5 = t 0 5 + 1) (e6 : w2 (kl + 6) (nP t) = x) (e7 : w2 (kl + 7) (nP t) = y) (e8 : w2 (kn + 8) (nP t) = c) (e9 : w2 (kn + 9) (nP t) = k) : ZC (prT t x y) (prS t s c k) v wl kl kn w2 := by
  obtain ⟨⟨l1, l2, l3, l4, l5, l6, l7, l8, l9, l10, l11⟩, hs, h3, h5, h6, h7, h8, h9⟩ := hz
  obtain ⟨n1, n2, n3, n4, n5, n6⟩ := li_n li
  have eC : nC (prT t x y) = nC t := nC_t (prT_0 (by decide)) (prT_0 (by decide))
  have eS : nS (prT t x y) = nS t := by unfold nS; rw [prT_0 (by decide)]
  have eP : nP (prT t x y) = nP t + 1 := by unfold nP; rw [prT_5]; unfold nP at n5; omega
  refine ⟨⟨?_, ?_, ?_, ?_, ?_, ?_, fun e2 he d hd => ?_, fun i q => ?_, fun i q => ?_, fun i q => ?_, fun i q => ?_⟩, ⟨fun r i q p1 p2 => ?_, fun e2 he => ?_⟩, (e 3 6 (by omega) (by omega)).trans h3, (e 3 5 (by omega) (by omega)).trans h5, fun i q => ?_, fun i q q2 => ?_, fun i q => ?_, fun i q => ?_⟩
  · rw [e _ _ (by omega) (by omega), l1, prT_0 (by decide)]
  · rw [e _ _ (by omega) (by omega), l2, prT_0 (by decide)]
  · rw [e _ _ (by omega) (by omega), l3, prT_0 (by decide)]
  · rw [e _ _ (by omega) (by omega), l4, prT_0 (by decide)]
  · rw [e _ _ (by omega) (by omega), l5, prT_0 (by decide)]
  · rw [e2, prT_5]
  · rw [e _ _ (by omega) (by omega), nbr_t (prT_0 (by decide)) (prT_0 (by decide))]; exact l7 e2 (by omega) d hd
  · rw [e _ _ (by omega) (by omega), prT_n (by decide) (by decide) (by decide)]; exact l8 i (by omega)
  · rw [prT_0 (by decide)] at q
    rw [e _ _ (by omega) (by omega), prT_n (by decide) (by decide) (by decide)]; exact l9 i q
  · rw [e _ _ (by omega) (by omega), e _ _ (by omega) (by omega), prT_n (by decide) (by decide) (by decide), prT_n (by decide) (by decide) (by decide)]; exact l10 i (by omega)
  · rw [prT_r5, prT_r6]
    by_cases z : i = nP t
    · rw [z, zup_s, zup_s]; exact ⟨e6, e7⟩
    · rw [zup_n z, zup_n z, e _ _ (by omega) (by omega), e _ _ (by omega) (by omega)]; exact l11 i (by omega)
  · have nw : ∀ r2, (7 ≤ r2 ∧ r2 ≤ 11) → act (prT t x y) r2 i → i < nP t + 1 := fun r2 z q => by
      obtain ⟨z7, z8⟩ := z
      match r2, z7, z8, q with
      | 7, _, _, q | 8, _, _, q | 9, _, _, q | 10, _, _, q | 11, _, _, q => exact (show i < nP t + 1 from eP ▸ q)
    by_cases z7 : r = 7
    · subst z7
      have q := nw 7 (by omega) q
      show w2 (kn + 8) i = sd (prS t s c k) v 7 i
      rw [sd_n (by decide), prS_7]
      by_cases z : i = nP t
      · rw [z, zup_s]; exact e8
      · rw [zup_n z, e _ _ (by omega) (by omega)]
        have := hs.1 7 i (show i < nP t by omega) (by decide) (by decide)
        rw [sd_n (by decide)] at this; exact this
    · by_cases z8 : r = 8
      · subst z8
        have q := nw 8 (by omega) q
        show w2 (kn + 9) i = sd (prS t s c k) v 8 i
        rw [sd_n (by decide), prS_8]
        by_cases z : i = nP t
        · rw [z, zup_s]; exact e9
        · rw [zup_n z, e _ _ (by omega) (by omega)]
          have := hs.1 8 i (show i < nP t by omega) (by decide) (by decide)
          rw [sd_n (by decide)] at this; exact this
      · by_cases z9 : 9 ≤ r ∧ r ≤ 11
        · have q := nw r (by omega) q
          rw [sd_n (by omega), prS_n z7 z8]
          have a9 := h9 i (by omega)
          have b9 := hs9 i
          rcases (by omega : r = 9 ∨ r = 10 ∨ r = 11) with u | u | u <;> subst u
          · show w2 (kn + 10) i = s 9 i
            rw [e _ _ (by omega) (by omega), a9.1, b9.1]
          · show w2 (kn + 11) i = s 10 i
            rw [e _ _ (by omega) (by omega), a9.2.1, b9.2.1]
          · show w2 (kn + 12) i = s 11 i
            rw [e _ _ (by omega) (by omega), a9.2.2, b9.2.2]
        · have qa : act t r i := by
            by_cases z5 : r = 5
            · subst z5; exact (show i < nS t from eS ▸ q)
            · by_cases z6 : r = 6
              · subst z6; exact (show i < nS t from eS ▸ q)
              · exact act_t eC q z5 z6 (by omega)
          have b := act_n li qa
          have hc := cad_le r b.1
          have h6c : cad r ≠ 8 ∧ cad r ≠ 9 := by
            have : ∀ r, r ≤ 12 → r ≠ 7 → r ≠ 8 → cad r ≠ 8 ∧ cad r ≠ 9 := by decide
            exact this r b.1 z7 z8
          have es : sd (prS t s c k) v r i = sd s v r i := by
            by_cases z : r = 12
            · subst z; rw [sd_12, sd_12]
            · rw [sd_n z, sd_n z, prS_n z7 z8]
          rw [es, e _ _ (by omega) (by omega)]; exact hs.1 r i qa p1 p2
  · rw [e _ _ (by omega) (by omega), brd_t (prT_0 (by decide)) (prT_0 (by decide)), hs.2 e2 (by omega)]
    refine (brd_c (fun i => ?_) _).symm
    rw [sd_n (by decide), sd_n (by decide), sd_n (by decide), sd_n (by decide)]
    exact ⟨prS_n (by decide) (by decide), prS_n (by decide) (by decide)⟩
  · rw [e _ _ (by omega) (by omega), e _ _ (by omega) (by omega), e _ _ (by omega) (by omega), prT_n (by decide) (by decide) (by decide)]; exact h6 i q
  · rw [e _ _ (by omega) (by omega)]; exact h7 i (by omega) q2
  · rw [e _ _ (by omega) (by omega)]; exact h8 i q
  · rw [e _ _ (by omega) (by omega), e _ _ (by omega) (by omega), e _ _ (by omega) (by omega)]; exact h9 i q
/-- a land that differs in what no state knows of -/
theorem zc_land {t2 : zS} (hz : ZC t s v wl kl kn w) (li : LInv t) (hk : 4 < kl ∧ kl + 7 < kn) (h0 : t2 0 0 = t 0 0) (h1 : t2 0 1 = t 0 1) (h2 : t2 0 2 = t 0 2) (h5' : t2 0 5 = t 0 5) (hr : ∀ r i, 3 ≤ r → t2 r i = t r i) (e : ∀ a j, a ≠ kl + 2 → a ≠ kl + 3 → (a = kl → j ≠ 3 ∧ j ≠ 4) → w2 a j = w a j) (e3 : w2 kl 3 = t2 0 3) (e4 : w2 kl 4 = t2 0 4) (er : ∀ i, i < 20 → w2 (kl + 2) i = t2 1 i) (es : ∀ i : Nat, (i : Int) < t2 0 4 → w2 (kl + 3) i = t2 2 i) : ZC t2 s v wl kl kn w2 := by
  obtain ⟨⟨l1, l2, l3, l4, l5, l6, l7, l8, l9, l10, l11⟩, hs, h3, h5, h6, h7, h8, h9⟩ := hz
  obtain ⟨n1, n2, n3, n4, n5, n6⟩ := li_n li
  have eC : nC t2 = nC t := nC_t h0 h1
  have eS : nS t2 = nS t := by unfold nS; rw [h2]
  have eP : nP t2 = nP t := by unfold nP; rw [h5']
  refine ⟨⟨?_, ?_, ?_, e3, e4, ?_, fun e2 he d hd => ?_, fun i q => er i (by omega), es, fun i q => ?_, fun i q => ?_⟩, ⟨fun r i q p1 p2 => ?_, fun e2 he => ?_⟩, (e 3 6 (by omega) (by omega) (by omega)).trans h3, (e 3 5 (by omega) (by omega) (by omega)).trans h5, fun i q => ?_, fun i q q2 => ?_, fun i q => ?_, fun i q => ?_⟩
  · rw [e _ _ (by omega) (by omega) (by omega), l1, h0]
  · rw [e _ _ (by omega) (by omega) (by omega), l2, h1]
  · rw [e _ _ (by omega) (by omega) (by omega), l3, h2]
  · rw [e _ _ (by omega) (by omega) (by omega), l6, h5']
  · rw [e _ _ (by omega) (by omega) (by omega), nbr_t h0 h1]; exact l7 e2 (by omega) d hd
  · rw [e _ _ (by omega) (by omega) (by omega), e _ _ (by omega) (by omega) (by omega), hr 3 i (by omega), hr 4 i (by omega)]; exact l10 i (by omega)
  · rw [e _ _ (by omega) (by omega) (by omega), e _ _ (by omega) (by omega) (by omega), hr 5 i (by omega), hr 6 i (by omega)]; exact l11 i (by omega)
  · have qa : act t r i := by
      by_cases z5 : r = 5
      · subst z5; exact (show i < nS t from eS ▸ q)
      · by_cases z6 : r = 6
        · subst z6; exact (show i < nS t from eS ▸ q)
        · by_cases z7 : 7 ≤ r ∧ r ≤ 11
          · obtain ⟨z7, z8⟩ := z7
            match r, z7, z8, q with
            | 7, _, _, q | 8, _, _, q | 9, _, _, q | 10, _, _, q | 11, _, _, q => exact (show i < nP t from eP ▸ q)
          · exact act_t eC q z5 z6 z7
    have b := act_n li qa
    have hc := cad_le r b.1
    rw [e _ _ (by omega) (by omega) (by omega)]; exact hs.1 r i qa p1 p2
  · rw [e _ _ (by omega) (by omega) (by omega), brd_t h0 h1]; exact hs.2 e2 (by omega)
  · rw [e (kn + 3) _ (by omega) (by omega) (by omega), e (kn + 4) _ (by omega) (by omega) (by omega)]; exact ⟨er i q, (h6 i q).2⟩
  · rw [e _ _ (by omega) (by omega) (by omega)]; exact h7 i (by omega) q2
  · rw [e _ _ (by omega) (by omega) (by omega)]; exact h8 i q
  · rw [e _ _ (by omega) (by omega) (by omega), e _ _ (by omega) (by omega) (by omega), e _ _ (by omega) (by omega) (by omega)]; exact h9 i q
/-- the first clause: a size, a heat -/
theorem zc_town {W H : Nat} {b : Int} (hz : ZC t s v wl kl kn w) (li : LInv t) (si : SInv t (sd s v)) (h0 : t 0 0 = 0) (hk : 4 < kl ∧ kl + 7 < kn) (hW : W * H ≤ 20) (hs3 : ∀ i, s 3 i = -1 ∧ s 4 i = 0) (e : ∀ a j, a ≠ kl + 1 → a ≠ kn + 1 → (a = kl → j ≠ 0 ∧ j ≠ 1) → w2 a j = w a j) (e0 : w2 kl 0 = W) (e1 : w2 kl 1 = H) (eb : ∀ c, c < W * H → ∀ d, d < 5 → w2 (kl + 1) (c * 5 + d) = nbr (zset t 0 (zup (zup (t 0) 0 W) 1 H)) c d) (eh : ∀ i, i < 20 → w2 (kn + 1) i = b) : ZC (zset t 0 (zup (zup (t 0) 0 W) 1 H)) (zset s 0 (fun _ => b)) v wl kl kn w2 := by
  obtain ⟨⟨l1, l2, l3, l4, l5, l6, l7, l8, l9, l10, l11⟩, hs, h3, h5, h6, h7, h8, h9⟩ := hz
  have hz : t 0 0 = 0 ∧ t 0 1 = 0 ∧ t 0 2 = 0 ∧ t 0 5 = 0 := by rcases li.1 with q | q <;> omega
  have n0 : nC t = 0 := by unfold nC; rw [h0]; simp
  have q0 : zset t 0 (zup (zup (t 0) 0 W) 1 H) 0 0 = W := by rw [zset_s, zup_n (by decide), zup_s]
  have q1 : zset t 0 (zup (zup (t 0) 0 W) 1 H) 0 1 = H := by rw [zset_s, zup_s]
  have eo : ∀ i, i ≠ 0 → i ≠ 1 → zset t 0 (zup (zup (t 0) 0 W) 1 H) 0 i = t 0 i := fun i p q => by rw [zset_s, zup_n q, zup_n p]
  have en : ∀ r i, r ≠ 0 → zset t 0 (zup (zup (t 0) 0 W) 1 H) r i = t r i := fun r i p => zset_n p
  have nS0 : nS (zset t 0 (zup (zup (t 0) 0 W) 1 H)) = 0 := by unfold nS; rw [eo 2 (by decide) (by decide)]; omega
  have nP0 : nP (zset t 0 (zup (zup (t 0) 0 W) 1 H)) = 0 := by unfold nP; rw [eo 5 (by decide) (by decide)]; omega
  have nC0 : nC (zset t 0 (zup (zup (t 0) 0 W) 1 H)) = W * H := by
    unfold nC
    rw [q0, q1, ← Int.natCast_mul]
    exact Int.toNat_natCast _
  refine ⟨⟨e0.trans q0.symm, e1.trans q1.symm, ?_, ?_, ?_, ?_, fun c hc d hd => eb c (by omega) d hd, fun i q => ?_, fun i q => ?_, fun i q => by omega, fun i q => by omega⟩, ⟨fun r i q p1 p2 => ?_, fun c hc => ?_⟩, (e 3 6 (by omega) (by omega) (by omega)).trans h3, (e 3 5 (by omega) (by omega) (by omega)).trans h5, fun i q => ?_, fun i q q2 => ?_, fun i q => ?_, fun i q => ?_⟩
  · rw [e _ _ (by omega) (by omega) (by omega), l3, eo 2 (by decide) (by decide)]
  · rw [e _ _ (by omega) (by omega) (by omega), l4, eo 3 (by decide) (by decide)]
  · rw [e _ _ (by omega) (by omega) (by omega), l5, eo 4 (by decide) (by decide)]
  · rw [e _ _ (by omega) (by omega) (by omega), l6, eo 5 (by decide) (by decide)]
  · rw [e _ _ (by omega) (by omega) (by omega), en 1 i (by decide)]; exact (h6 i (by omega)).1
  · rw [eo 4 (by decide) (by decide)] at q
    rw [e _ _ (by omega) (by omega) (by omega), en 2 i (by decide)]; exact l9 i q
  · match r, q, p1, p2 with
    | 0, q, _, _ =>
      have q : i < W * H := by rw [← nC0]; exact q
      show w2 (kn + 1) i = sd (zset s 0 (fun _ => b)) v 0 i
      rw [sd_n (by decide), zset_s]; exact eh i (by omega)
    | 1, _, p1, _ => exact absurd rfl p1
    | 2, _, _, p2 => exact absurd rfl p2
    | 3, q, _, _ =>
      have q : i < W * H := by rw [← nC0]; exact q
      show w2 (kn + 3) i = sd (zset s 0 (fun _ => b)) v 3 i
      rw [sd_n (by decide), zset_n (by decide), (hs3 i).1, e _ _ (by omega) (by omega) (by omega)]; exact (h6 i (by omega)).2.1
    | 4, q, _, _ =>
      have q : i < W * H := by rw [← nC0]; exact q
      show w2 (kn + 4) i = sd (zset s 0 (fun _ => b)) v 4 i
      rw [sd_n (by decide), zset_n (by decide), (hs3 i).2, e _ _ (by omega) (by omega) (by omega)]; exact (h6 i (by omega)).2.2
    | 5, q, _, _ | 6, q, _, _ =>
      have q : i < 0 := by rw [← nS0]; exact q
      omega
    | 7, q, _, _ | 8, q, _, _ | 9, q, _, _ | 10, q, _, _ | 11, q, _, _ =>
      have q : i < 0 := by rw [← nP0]; exact q
      omega
    | 12, q, _, _ =>
      have := hs.1 12 i q (by decide) (by decide)
      rw [sd_12] at this ⊢
      rw [← this]
      exact e kn _ (by omega) (by omega) (by omega)
  · rw [e _ _ (by omega) (by omega) (by omega), h7 c (by omega) (by omega)]
    have z : ∀ i, sd (zset s 0 (fun _ => b)) v 1 i = 0 ∧ sd (zset s 0 (fun _ => b)) v 2 i = 0 := fun i => by
      rw [sd_n (by decide), sd_n (by decide), zset_n (by decide), zset_n (by decide)]
      have := si.2.2.1 i (by omega)
      rw [sd_n (by decide), sd_n (by decide)] at this; exact this
    have zb : ∀ dd : Int, bw1 (zset t 0 (zup (zup (t 0) 0 W) 1 H)) (sd (zset s 0 (fun _ => b)) v) c dd = 0 := fun dd => by
      unfold bw1 wlf
      split
      · rfl
      · split
        · exact (z _).2
        · split
          · exact (z _).1
          · split
            · exact (z _).2
            · split
              · exact (z _).1
              · rfl
    unfold brd
    rw [zb, zb, zb, zb]; rfl
  · rw [e (kl + 2) _ (by omega) (by omega) (by omega), e (kn + 3) _ (by omega) (by omega) (by omega), e (kn + 4) _ (by omega) (by omega) (by omega), en 1 i (by decide)]; exact h6 i q
  · rw [e _ _ (by omega) (by omega) (by omega)]; exact h7 i (by omega) q2
  · rw [e _ _ (by omega) (by omega) (by omega)]; exact h8 i q
  · rw [e _ _ (by omega) (by omega) (by omega), e _ _ (by omega) (by omega) (by omega), e _ _ (by omega) (by omega) (by omega)]; exact h9 i q
end TKE
