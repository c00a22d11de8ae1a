/-! ===== printed by wip/gen/fg.py: the shape of the FirstFelt object ===== -/
def FG (g : xG) (kl kn kl2 kn2 : Nat) : Prop := xIs g 2 (0, 6) ∧
  g.2 2 0 = 3 ∧
  g.2 2 1 = 5 ∧
  g.2 2 2 = 9 ∧
  g.2 2 3 = 13 ∧
  g.2 2 4 = 14 ∧
  g.2 2 5 = 15 ∧
  g.2 2 6 = 28 ∧
  g.2 2 7 = 41 ∧
  g.2 2 8 = 123 ∧
  g.2 2 9 = kl ∧
  g.2 2 10 = kl2 ∧
  g.2 2 11 = kn ∧
  g.2 2 12 = kn2 ∧
  RG g ∧
  PG12 g 5 ∧
  PG8 g 9 ∧
  xIs g 13 (3, 2) ∧
  g.2 13 0 = 167 ∧
  g.2 13 1 = 180 ∧
  xIs g 14 (1, 2) ∧
  SG g 15 ∧
  SG g 28 ∧
  SG g 167 ∧
  SG g 180 ∧
  SG g kn ∧
  SG g kn2 ∧
  TG g kl ∧
  TG g kl2 ∧
  ((kl = 125 ∧ kl2 = 133) ∨ (kl = 133 ∧ kl2 = 125)) ∧
  ((kn = 141 ∧ kn2 = 154) ∨ (kn = 154 ∧ kn2 = 141))
theorem f_o {g : xG} {kl kn kl2 kn2 : Nat} (h : FG g kl kn kl2 kn2) : xIs g 2 (0, 6) := h.1
theorem f_p0 {g : xG} {kl kn kl2 kn2 : Nat} (h : FG g kl kn kl2 kn2) : g.2 2 0 = 3 := h.2.1
theorem f_p1 {g : xG} {kl kn kl2 kn2 : Nat} (h : FG g kl kn kl2 kn2) : g.2 2 1 = 5 := h.2.2.1
theorem f_p2 {g : xG} {kl kn kl2 kn2 : Nat} (h : FG g kl kn kl2 kn2) : g.2 2 2 = 9 := h.2.2.2.1
theorem f_p3 {g : xG} {kl kn kl2 kn2 : Nat} (h : FG g kl kn kl2 kn2) : g.2 2 3 = 13 := h.2.2.2.2.1
theorem f_p4 {g : xG} {kl kn kl2 kn2 : Nat} (h : FG g kl kn kl2 kn2) : g.2 2 4 = 14 := h.2.2.2.2.2.1
theorem f_p5 {g : xG} {kl kn kl2 kn2 : Nat} (h : FG g kl kn kl2 kn2) : g.2 2 5 = 15 := h.2.2.2.2.2.2.1
theorem f_p6 {g : xG} {kl kn kl2 kn2 : Nat} (h : FG g kl kn kl2 kn2) : g.2 2 6 = 28 := h.2.2.2.2.2.2.2.1
theorem f_p7 {g : xG} {kl kn kl2 kn2 : Nat} (h : FG g kl kn kl2 kn2) : g.2 2 7 = 41 := h.2.2.2.2.2.2.2.2.1
theorem f_p8 {g : xG} {kl kn kl2 kn2 : Nat} (h : FG g kl kn kl2 kn2) : g.2 2 8 = 123 := h.2.2.2.2.2.2.2.2.2.1
theorem f_p9 {g : xG} {kl kn kl2 kn2 : Nat} (h : FG g kl kn kl2 kn2) : g.2 2 9 = kl := h.2.2.2.2.2.2.2.2.2.2.1
theorem f_p10 {g : xG} {kl kn kl2 kn2 : Nat} (h : FG g kl kn kl2 kn2) : g.2 2 10 = kl2 := h.2.2.2.2.2.2.2.2.2.2.2.1
theorem f_p11 {g : xG} {kl kn kl2 kn2 : Nat} (h : FG g kl kn kl2 kn2) : g.2 2 11 = kn := h.2.2.2.2.2.2.2.2.2.2.2.2.1
theorem f_p12 {g : xG} {kl kn kl2 kn2 : Nat} (h : FG g kl kn kl2 kn2) : g.2 2 12 = kn2 := h.2.2.2.2.2.2.2.2.2.2.2.2.2.1
theorem f_rd {g : xG} {kl kn kl2 kn2 : Nat} (h : FG g kl kn kl2 kn2) : RG g := h.2.2.2.2.2.2.2.2.2.2.2.2.2.2.1
theorem f_cs {g : xG} {kl kn kl2 kn2 : Nat} (h : FG g kl kn kl2 kn2) : PG12 g 5 := h.2.2.2.2.2.2.2.2.2.2.2.2.2.2.2.1
theorem f_ds {g : xG} {kl kn kl2 kn2 : Nat} (h : FG g kl kn kl2 kn2) : PG8 g 9 := h.2.2.2.2.2.2.2.2.2.2.2.2.2.2.2.2.1
theorem f_im {g : xG} {kl kn kl2 kn2 : Nat} (h : FG g kl kn kl2 kn2) : xIs g 13 (3, 2) := h.2.2.2.2.2.2.2.2.2.2.2.2.2.2.2.2.2.1
theorem f_i0 {g : xG} {kl kn kl2 kn2 : Nat} (h : FG g kl kn kl2 kn2) : g.2 13 0 = 167 := h.2.2.2.2.2.2.2.2.2.2.2.2.2.2.2.2.2.2.1
theorem f_i1 {g : xG} {kl kn kl2 kn2 : Nat} (h : FG g kl kn kl2 kn2) : g.2 13 1 = 180 := h.2.2.2.2.2.2.2.2.2.2.2.2.2.2.2.2.2.2.2.1
theorem f_kp {g : xG} {kl kn kl2 kn2 : Nat} (h : FG g kl kn kl2 kn2) : xIs g 14 (1, 2) := h.2.2.2.2.2.2.2.2.2.2.2.2.2.2.2.2.2.2.2.2.1
theorem f_tr {g : xG} {kl kn kl2 kn2 : Nat} (h : FG g kl kn kl2 kn2) : SG g 15 := h.2.2.2.2.2.2.2.2.2.2.2.2.2.2.2.2.2.2.2.2.2.1
theorem f_wa {g : xG} {kl kn kl2 kn2 : Nat} (h : FG g kl kn kl2 kn2) : SG g 28 := h.2.2.2.2.2.2.2.2.2.2.2.2.2.2.2.2.2.2.2.2.2.2.1
theorem f_a0 {g : xG} {kl kn kl2 kn2 : Nat} (h : FG g kl kn kl2 kn2) : SG g 167 := h.2.2.2.2.2.2.2.2.2.2.2.2.2.2.2.2.2.2.2.2.2.2.2.1
theorem f_a1 {g : xG} {kl kn kl2 kn2 : Nat} (h : FG g kl kn kl2 kn2) : SG g 180 := h.2.2.2.2.2.2.2.2.2.2.2.2.2.2.2.2.2.2.2.2.2.2.2.2.1
theorem f_sn {g : xG} {kl kn kl2 kn2 : Nat} (h : FG g kl kn kl2 kn2) : SG g kn := h.2.2.2.2.2.2.2.2.2.2.2.2.2.2.2.2.2.2.2.2.2.2.2.2.2.1
theorem f_sn2 {g : xG} {kl kn kl2 kn2 : Nat} (h : FG g kl kn kl2 kn2) : SG g kn2 := h.2.2.2.2.2.2.2.2.2.2.2.2.2.2.2.2.2.2.2.2.2.2.2.2.2.2.1
theorem f_tl {g : xG} {kl kn kl2 kn2 : Nat} (h : FG g kl kn kl2 kn2) : TG g kl := h.2.2.2.2.2.2.2.2.2.2.2.2.2.2.2.2.2.2.2.2.2.2.2.2.2.2.2.1
theorem f_tl2 {g : xG} {kl kn kl2 kn2 : Nat} (h : FG g kl kn kl2 kn2) : TG g kl2 := h.2.2.2.2.2.2.2.2.2.2.2.2.2.2.2.2.2.2.2.2.2.2.2.2.2.2.2.2.1
theorem f_hl {g : xG} {kl kn kl2 kn2 : Nat} (h : FG g kl kn kl2 kn2) : ((kl = 125 ∧ kl2 = 133) ∨ (kl = 133 ∧ kl2 = 125)) := h.2.2.2.2.2.2.2.2.2.2.2.2.2.2.2.2.2.2.2.2.2.2.2.2.2.2.2.2.2.1
theorem f_hn {g : xG} {kl kn kl2 kn2 : Nat} (h : FG g kl kn kl2 kn2) : ((kn = 141 ∧ kn2 = 154) ∨ (kn = 154 ∧ kn2 = 141)) := h.2.2.2.2.2.2.2.2.2.2.2.2.2.2.2.2.2.2.2.2.2.2.2.2.2.2.2.2.2.2
theorem f_d {g : xG} {kl kn kl2 kn2 : Nat} (h : FG g kl kn kl2 kn2) : kl + 7 < kn ∨ kn + 12 < kl := by
  have a := f_hl h
  have b := f_hn h
  omega
