/-! ===== printed by wip/gen/gen.py: the instructions of every method, their pool entries resolved ===== -/
def iMk_init : List (Nat × xE) := [(0, .aload_n 0, 0, 0, 0, 0), (1, .invokespecial 3, 0, 1, 0, 3), (4, .aload_n 0, 0, 0, 0, 0), (5, .bipush 6, 0, 0, 0, 0), (7, .newarray .int, 0, 0, 0, 0), (9, .putfield 9, 0, 0, 0, 0),
  (12, .return_, 0, 0, 0, 0)]
def tMk_init : xTb := ((⟨"FirstFelt$Market", "<init>", "()V"⟩, prog_2_method_1_code, 1, none), (1, 6), "FirstFelt$Market", false, iMk_init)
def iMk_settle : List (Nat × xE) := [(0, .aload_n 0, 0, 0, 0, 0), (1, .getfield 9, 0, 0, 0, 0), (4, .iconst 0, 0, 0, 0, 0), (5, .invokestatic 15, 208, 2, 0, 0), (8, .iconst 0, 0, 0, 0, 0), (9, .istore_n 3, 0, 0, 0, 0),
  (10, .iload_n 3, 0, 0, 0, 0), (11, .bipush 20, 0, 0, 0, 0), (13, .if_icmp .ge 20, 0, 0, 0, 0), (16, .aload_n 0, 0, 0, 0, 0), (17, .aload_n 1, 0, 0, 0, 0), (18, .aload_n 2, 0, 0, 0, 0),
  (19, .invokevirtual 21, 2, 3, 0, 1), (22, .ifCond .ne 5, 0, 0, 0, 0), (25, .iload_n 3, 0, 0, 0, 0), (26, .ireturn, 0, 0, 0, 0), (27, .iinc 3 1, 0, 0, 0, 0), (30, .goto (-20), 0, 0, 0, 0),
  (33, .iconst (-1), 0, 0, 0, 0), (34, .ireturn, 0, 0, 0, 0)]
def tMk_settle : xTb := ((⟨"FirstFelt$Market", "settle", "(LFirstFelt$Town;LFirstFelt$State;)I"⟩, prog_2_method_2_code, 4, (some .int)), (0, 0), "FirstFelt$Market", false, iMk_settle)
def iMk_askAnew : List (Nat × xE) := [(0, .iconst 0, 0, 0, 0, 0), (1, .istore_n 3, 0, 0, 0, 0), (2, .iconst 0, 0, 0, 0, 0), (3, .istore 4, 0, 0, 0, 0), (5, .iload 4, 0, 0, 0, 0), (7, .aload_n 1, 0, 0, 0, 0),
  (8, .getfield 25, 5, 5, 0, 0), (11, .if_icmp .ge 50, 0, 0, 0, 0), (14, .aload_n 0, 0, 0, 0, 0), (15, .aload_n 1, 0, 0, 0, 0), (16, .aload_n 2, 0, 0, 0, 0), (17, .iload 4, 0, 0, 0, 0),
  (19, .invokevirtual 31, 3, 4, 0, 1), (22, .istore 5, 0, 0, 0, 0), (24, .iload_n 3, 0, 0, 0, 0), (25, .ifCond .ne 15, 0, 0, 0, 0), (28, .iload 5, 0, 0, 0, 0), (30, .aload_n 0, 0, 0, 0, 0),
  (31, .getfield 9, 0, 0, 0, 0), (34, .iload 4, 0, 0, 0, 0), (36, .iaload, 0, 0, 0, 0), (37, .if_icmp .eq 7, 0, 0, 0, 0), (40, .iconst 1, 0, 0, 0, 0), (41, .goto 4, 0, 0, 0, 0),
  (44, .iconst 0, 0, 0, 0, 0), (45, .istore_n 3, 0, 0, 0, 0), (46, .aload_n 0, 0, 0, 0, 0), (47, .getfield 9, 0, 0, 0, 0), (50, .iload 4, 0, 0, 0, 0), (52, .iload 5, 0, 0, 0, 0),
  (54, .iastore, 0, 0, 0, 0), (55, .iinc 4 1, 0, 0, 0, 0), (58, .goto (-53), 0, 0, 0, 0), (61, .iload_n 3, 0, 0, 0, 0), (62, .ireturn, 0, 0, 0, 0)]
def tMk_askAnew : xTb := ((⟨"FirstFelt$Market", "askAnew", "(LFirstFelt$Town;LFirstFelt$State;)Z"⟩, prog_2_method_3_code, 6, (some .boolean)), (0, 0), "FirstFelt$Market", true, iMk_askAnew)
def iMk_bestRent : List (Nat × xE) := [(0, .iconst 0, 0, 0, 0, 0), (1, .istore 4, 0, 0, 0, 0), (3, .iconst 0, 0, 0, 0, 0), (4, .istore 5, 0, 0, 0, 0), (6, .iconst 1, 0, 0, 0, 0), (7, .istore 6, 0, 0, 0, 0),
  (9, .iload 6, 0, 0, 0, 0), (11, .bipush 9, 0, 0, 0, 0), (13, .if_icmp .gt 38, 0, 0, 0, 0), (16, .iload 6, 0, 0, 0, 0), (18, .aload_n 0, 0, 0, 0, 0), (19, .aload_n 1, 0, 0, 0, 0),
  (20, .aload_n 2, 0, 0, 0, 0), (21, .iload_n 3, 0, 0, 0, 0), (22, .iload 6, 0, 0, 0, 0), (24, .invokevirtual 35, 4, 5, 0, 1), (27, .imul, 0, 0, 0, 0), (28, .istore 7, 0, 0, 0, 0),
  (30, .iload 7, 0, 0, 0, 0), (32, .iload 5, 0, 0, 0, 0), (34, .if_icmp .le 11, 0, 0, 0, 0), (37, .iload 7, 0, 0, 0, 0), (39, .istore 5, 0, 0, 0, 0), (41, .iload 6, 0, 0, 0, 0),
  (43, .istore 4, 0, 0, 0, 0), (45, .iinc 6 1, 0, 0, 0, 0), (48, .goto (-39), 0, 0, 0, 0), (51, .iload 4, 0, 0, 0, 0), (53, .ireturn, 0, 0, 0, 0)]
def tMk_bestRent : xTb := ((⟨"FirstFelt$Market", "bestRent", "(LFirstFelt$Town;LFirstFelt$State;I)I"⟩, prog_2_method_4_code, 8, (some .int)), (0, 0), "FirstFelt$Market", false, iMk_bestRent)
def iMk_countLet : List (Nat × xE) := [(0, .iconst 0, 0, 0, 0, 0), (1, .istore 5, 0, 0, 0, 0), (3, .aload_n 1, 0, 0, 0, 0), (4, .invokevirtual 39, 64, 1, 5, 1), (7, .istore 6, 0, 0, 0, 0), (9, .iconst 0, 0, 0, 0, 0),
  (10, .istore 7, 0, 0, 0, 0), (12, .iload 7, 0, 0, 0, 0), (14, .iload 6, 0, 0, 0, 0), (16, .if_icmp .ge 51, 0, 0, 0, 0), (19, .aload_n 2, 0, 0, 0, 0), (20, .getfield 43, 3, 2, 0, 0),
  (23, .iload 7, 0, 0, 0, 0), (25, .iaload, 0, 0, 0, 0), (26, .iload_n 3, 0, 0, 0, 0), (27, .if_icmp .ne 34, 0, 0, 0, 0), (30, .iload 4, 0, 0, 0, 0), (32, .aload_n 2, 0, 0, 0, 0),
  (33, .getfield 48, 3, 0, 0, 0), (36, .iload 7, 0, 0, 0, 0), (38, .iaload, 0, 0, 0, 0), (39, .bipush 50, 0, 0, 0, 0), (41, .idiv, 0, 0, 0, 0), (42, .if_icmp .gt 19, 0, 0, 0, 0),
  (45, .aload_n 0, 0, 0, 0, 0), (46, .aload_n 1, 0, 0, 0, 0), (47, .aload_n 2, 0, 0, 0, 0), (48, .iload 7, 0, 0, 0, 0), (50, .iload 4, 0, 0, 0, 0), (52, .invokevirtual 51, 5, 5, 0, 1),
  (55, .ifCond .ne 6, 0, 0, 0, 0), (58, .iinc 5 1, 0, 0, 0, 0), (61, .iinc 7 1, 0, 0, 0, 0), (64, .goto (-52), 0, 0, 0, 0), (67, .iload 5, 0, 0, 0, 0), (69, .ireturn, 0, 0, 0, 0)]
def tMk_countLet : xTb := ((⟨"FirstFelt$Market", "countLet", "(LFirstFelt$Town;LFirstFelt$State;II)I"⟩, prog_2_method_5_code, 8, (some .int)), (0, 0), "FirstFelt$Market", false, iMk_countLet)
def iMk_isUndercut : List (Nat × xE) := [(0, .iconst 1, 0, 0, 0, 0), (1, .istore 5, 0, 0, 0, 0), (3, .iload 5, 0, 0, 0, 0), (5, .iconst 4, 0, 0, 0, 0), (6, .if_icmp .gt 65, 0, 0, 0, 0), (9, .aload_n 2, 0, 0, 0, 0),
  (10, .aload_n 1, 0, 0, 0, 0), (11, .iload_n 3, 0, 0, 0, 0), (12, .iload 5, 0, 0, 0, 0), (14, .invokevirtual 55, 35, 4, 3, 1), (17, .istore 6, 0, 0, 0, 0), (19, .iload 6, 0, 0, 0, 0),
  (21, .iconst (-1), 0, 0, 0, 0), (22, .if_icmp .eq 43, 0, 0, 0, 0), (25, .aload_n 2, 0, 0, 0, 0), (26, .getfield 43, 3, 2, 0, 0), (29, .iload 6, 0, 0, 0, 0), (31, .iaload, 0, 0, 0, 0),
  (32, .istore 7, 0, 0, 0, 0), (34, .iload 7, 0, 0, 0, 0), (36, .iconst (-1), 0, 0, 0, 0), (37, .if_icmp .eq 28, 0, 0, 0, 0), (40, .iload 7, 0, 0, 0, 0), (42, .aload_n 2, 0, 0, 0, 0),
  (43, .getfield 43, 3, 2, 0, 0), (46, .iload_n 3, 0, 0, 0, 0), (47, .iaload, 0, 0, 0, 0), (48, .if_icmp .eq 17, 0, 0, 0, 0), (51, .aload_n 0, 0, 0, 0, 0), (52, .getfield 9, 0, 0, 0, 0),
  (55, .iload 7, 0, 0, 0, 0), (57, .iaload, 0, 0, 0, 0), (58, .iload 4, 0, 0, 0, 0), (60, .if_icmp .ge 5, 0, 0, 0, 0), (63, .iconst 1, 0, 0, 0, 0), (64, .ireturn, 0, 0, 0, 0),
  (65, .iinc 5 1, 0, 0, 0, 0), (68, .goto (-65), 0, 0, 0, 0), (71, .iconst 0, 0, 0, 0, 0), (72, .ireturn, 0, 0, 0, 0)]
def tMk_isUndercut : xTb := ((⟨"FirstFelt$Market", "isUndercut", "(LFirstFelt$Town;LFirstFelt$State;II)Z"⟩, prog_2_method_6_code, 8, (some .boolean)), (0, 0), "FirstFelt$Market", true, iMk_isUndercut)
def iPp_init : List (Nat × xE) := [(0, .aload_n 0, 0, 0, 0, 0), (1, .invokespecial 3, 0, 1, 0, 3), (4, .iconst 0, 0, 0, 0, 0), (5, .iload_n 1, 0, 0, 0, 0), (6, .invokestatic 9, 0, 2, 0, 5), (9, .istore_n 2, 0, 0, 0, 0),
  (10, .aload_n 0, 0, 0, 0, 0), (11, .iload_n 2, 0, 0, 0, 0), (12, .newarray .int, 0, 0, 0, 0), (14, .putfield 15, 1, 0, 0, 0), (17, .aload_n 0, 0, 0, 0, 0), (18, .iload_n 2, 0, 0, 0, 0),
  (19, .newarray .int, 0, 0, 0, 0), (21, .putfield 21, 1, 1, 0, 0), (24, .aload_n 0, 0, 0, 0, 0), (25, .iload_n 2, 0, 0, 0, 0), (26, .newarray .int, 0, 0, 0, 0), (28, .putfield 24, 1, 2, 0, 0),
  (31, .return_, 0, 0, 0, 0)]
def tPp_init : xTb := ((⟨"FirstFelt$Papers", "<init>", "(I)V"⟩, prog_3_method_1_code, 3, none), (3, 36), "FirstFelt$Papers", false, iPp_init)
def tPp_init8 : xTb := ((⟨"FirstFelt$Papers", "<init>", "(I)V"⟩, prog_3_method_1_code, 3, none), (3, 24), "FirstFelt$Papers", false, iPp_init)
def iPp_write : List (Nat × xE) := [(0, .aload_n 0, 0, 0, 0, 0), (1, .getfield 27, 1, 3, 0, 0), (4, .aload_n 0, 0, 0, 0, 0), (5, .getfield 15, 1, 0, 0, 0), (8, .arraylength, 0, 0, 0, 0), (9, .if_icmp .lt 5, 0, 0, 0, 0),
  (12, .iconst 0, 0, 0, 0, 0), (13, .ireturn, 0, 0, 0, 0), (14, .aload_n 0, 0, 0, 0, 0), (15, .getfield 15, 1, 0, 0, 0), (18, .aload_n 0, 0, 0, 0, 0), (19, .getfield 27, 1, 3, 0, 0),
  (22, .iload_n 1, 0, 0, 0, 0), (23, .iastore, 0, 0, 0, 0), (24, .aload_n 0, 0, 0, 0, 0), (25, .getfield 21, 1, 1, 0, 0), (28, .aload_n 0, 0, 0, 0, 0), (29, .getfield 27, 1, 3, 0, 0),
  (32, .iload_n 2, 0, 0, 0, 0), (33, .iastore, 0, 0, 0, 0), (34, .aload_n 0, 0, 0, 0, 0), (35, .getfield 24, 1, 2, 0, 0), (38, .aload_n 0, 0, 0, 0, 0), (39, .getfield 27, 1, 3, 0, 0),
  (42, .iload_n 3, 0, 0, 0, 0), (43, .iastore, 0, 0, 0, 0), (44, .aload_n 0, 0, 0, 0, 0), (45, .dup, 0, 0, 0, 0), (46, .getfield 27, 1, 3, 0, 0), (49, .iconst 1, 0, 0, 0, 0),
  (50, .iadd, 0, 0, 0, 0), (51, .putfield 27, 1, 3, 0, 0), (54, .iconst 1, 0, 0, 0, 0), (55, .ireturn, 0, 0, 0, 0)]
def tPp_write : xTb := ((⟨"FirstFelt$Papers", "write", "(III)Z"⟩, prog_3_method_2_code, 4, (some .boolean)), (0, 0), "FirstFelt$Papers", true, iPp_write)
def iPp_latest : List (Nat × xE) := [(0, .iconst (-1), 0, 0, 0, 0), (1, .istore_n 1, 0, 0, 0, 0), (2, .iconst 0, 0, 0, 0, 0), (3, .istore_n 2, 0, 0, 0, 0), (4, .iload_n 2, 0, 0, 0, 0), (5, .aload_n 0, 0, 0, 0, 0),
  (6, .getfield 27, 1, 3, 0, 0), (9, .if_icmp .ge 20, 0, 0, 0, 0), (12, .iload_n 1, 0, 0, 0, 0), (13, .aload_n 0, 0, 0, 0, 0), (14, .getfield 24, 1, 2, 0, 0), (17, .iload_n 2, 0, 0, 0, 0),
  (18, .iaload, 0, 0, 0, 0), (19, .invokestatic 9, 0, 2, 0, 5), (22, .istore_n 1, 0, 0, 0, 0), (23, .iinc 2 1, 0, 0, 0, 0), (26, .goto (-22), 0, 0, 0, 0), (29, .iload_n 1, 0, 0, 0, 0),
  (30, .ireturn, 0, 0, 0, 0)]
def tPp_latest : xTb := ((⟨"FirstFelt$Papers", "latest", "()I"⟩, prog_3_method_3_code, 3, (some .int)), (0, 0), "FirstFelt$Papers", false, iPp_latest)
def iPp_notFeltAt : List (Nat × xE) := [(0, .iconst 0, 0, 0, 0, 0), (1, .istore_n 3, 0, 0, 0, 0), (2, .iconst 0, 0, 0, 0, 0), (3, .istore 4, 0, 0, 0, 0), (5, .iload 4, 0, 0, 0, 0), (7, .aload_n 0, 0, 0, 0, 0),
  (8, .getfield 27, 1, 3, 0, 0), (11, .if_icmp .ge 63, 0, 0, 0, 0), (14, .aload_n 0, 0, 0, 0, 0), (15, .getfield 24, 1, 2, 0, 0), (18, .iload 4, 0, 0, 0, 0), (20, .iaload, 0, 0, 0, 0),
  (21, .iload_n 1, 0, 0, 0, 0), (22, .if_icmp .ne 46, 0, 0, 0, 0), (25, .aload_n 2, 0, 0, 0, 0), (26, .getfield 31, 3, 7, 0, 0), (29, .aload_n 0, 0, 0, 0, 0), (30, .getfield 15, 1, 0, 0, 0),
  (33, .iload 4, 0, 0, 0, 0), (35, .iaload, 0, 0, 0, 0), (36, .iaload, 0, 0, 0, 0), (37, .aload_n 0, 0, 0, 0, 0), (38, .getfield 21, 1, 1, 0, 0), (41, .iload 4, 0, 0, 0, 0),
  (43, .iaload, 0, 0, 0, 0), (44, .if_icmp .ne 17, 0, 0, 0, 0), (47, .aload_n 2, 0, 0, 0, 0), (48, .aload_n 0, 0, 0, 0, 0), (49, .getfield 15, 1, 0, 0, 0), (52, .iload 4, 0, 0, 0, 0),
  (54, .iaload, 0, 0, 0, 0), (55, .invokevirtual 36, 39, 2, 3, 1), (58, .ifCond .ne 10, 0, 0, 0, 0), (61, .iload_n 3, 0, 0, 0, 0), (62, .iconst 1, 0, 0, 0, 0), (63, .iload 4, 0, 0, 0, 0),
  (65, .ishl, 0, 0, 0, 0), (66, .ior, 0, 0, 0, 0), (67, .istore_n 3, 0, 0, 0, 0), (68, .iinc 4 1, 0, 0, 0, 0), (71, .goto (-66), 0, 0, 0, 0), (74, .iload_n 3, 0, 0, 0, 0),
  (75, .ireturn, 0, 0, 0, 0)]
def tPp_notFeltAt : xTb := ((⟨"FirstFelt$Papers", "notFeltAt", "(ILFirstFelt$State;)I"⟩, prog_3_method_4_code, 5, (some .int)), (0, 0), "FirstFelt$Papers", false, iPp_notFeltAt)
def iPp_ownedAt : List (Nat × xE) := [(0, .iconst 0, 0, 0, 0, 0), (1, .istore_n 3, 0, 0, 0, 0), (2, .iload_n 3, 0, 0, 0, 0), (3, .aload_n 0, 0, 0, 0, 0), (4, .getfield 27, 1, 3, 0, 0), (7, .if_icmp .ge 41, 0, 0, 0, 0),
  (10, .aload_n 0, 0, 0, 0, 0), (11, .getfield 24, 1, 2, 0, 0), (14, .iload_n 3, 0, 0, 0, 0), (15, .iaload, 0, 0, 0, 0), (16, .iload_n 1, 0, 0, 0, 0), (17, .if_icmp .ne 25, 0, 0, 0, 0),
  (20, .aload_n 2, 0, 0, 0, 0), (21, .getfield 40, 3, 2, 0, 0), (24, .aload_n 0, 0, 0, 0, 0), (25, .getfield 21, 1, 1, 0, 0), (28, .iload_n 3, 0, 0, 0, 0), (29, .iaload, 0, 0, 0, 0),
  (30, .iaload, 0, 0, 0, 0), (31, .aload_n 0, 0, 0, 0, 0), (32, .getfield 15, 1, 0, 0, 0), (35, .iload_n 3, 0, 0, 0, 0), (36, .iaload, 0, 0, 0, 0), (37, .if_icmp .eq 5, 0, 0, 0, 0),
  (40, .iconst 0, 0, 0, 0, 0), (41, .ireturn, 0, 0, 0, 0), (42, .iinc 3 1, 0, 0, 0, 0), (45, .goto (-43), 0, 0, 0, 0), (48, .iconst 1, 0, 0, 0, 0), (49, .ireturn, 0, 0, 0, 0)]
def tPp_ownedAt : xTb := ((⟨"FirstFelt$Papers", "ownedAt", "(ILFirstFelt$State;)Z"⟩, prog_3_method_5_code, 4, (some .boolean)), (0, 0), "FirstFelt$Papers", true, iPp_ownedAt)
def iRd_init : List (Nat × xE) := [(0, .aload_n 0, 0, 0, 0, 0), (1, .invokespecial 3, 0, 1, 0, 3), (4, .aload_n 0, 0, 0, 0, 0), (5, .sipush 260, 0, 0, 0, 0), (8, .newarray .int, 0, 0, 0, 0), (10, .putfield 9, 2, 0, 0, 0),
  (13, .aload_n 0, 0, 0, 0, 0), (14, .iconst (-1), 0, 0, 0, 0), (15, .putfield 15, 2, 5, 0, 0), (18, .return_, 0, 0, 0, 0)]
def tRd_init : xTb := ((⟨"FirstFelt$Reader", "<init>", "()V"⟩, prog_4_method_1_code, 1, none), (1, 260), "FirstFelt$Reader", false, iRd_init)
def iRd_take : List (Nat × xE) := [(0, .aload_n 0, 0, 0, 0, 0), (1, .getfield 19, 2, 1, 0, 0), (4, .sipush 260, 0, 0, 0, 0), (7, .if_icmp .lt 5, 0, 0, 0, 0), (10, .iconst 0, 0, 0, 0, 0), (11, .ireturn, 0, 0, 0, 0),
  (12, .aload_n 0, 0, 0, 0, 0), (13, .getfield 9, 2, 0, 0, 0), (16, .aload_n 0, 0, 0, 0, 0), (17, .getfield 19, 2, 1, 0, 0), (20, .iload_n 1, 0, 0, 0, 0), (21, .iastore, 0, 0, 0, 0),
  (22, .aload_n 0, 0, 0, 0, 0), (23, .dup, 0, 0, 0, 0), (24, .getfield 19, 2, 1, 0, 0), (27, .iconst 1, 0, 0, 0, 0), (28, .iadd, 0, 0, 0, 0), (29, .putfield 19, 2, 1, 0, 0),
  (32, .iconst 1, 0, 0, 0, 0), (33, .ireturn, 0, 0, 0, 0)]
def tRd_take : xTb := ((⟨"FirstFelt$Reader", "take", "(I)Z"⟩, prog_4_method_2_code, 2, (some .boolean)), (0, 0), "FirstFelt$Reader", true, iRd_take)
def iRd_read : List (Nat × xE) := [(0, .aload_n 0, 0, 0, 0, 0), (1, .aload_n 1, 0, 0, 0, 0), (2, .putfield 22, 2, 7, 0, 0), (5, .aload_n 0, 0, 0, 0, 0), (6, .aload_n 2, 0, 0, 0, 0), (7, .putfield 26, 2, 8, 0, 0),
  (10, .aload_n 0, 0, 0, 0, 0), (11, .getfield 22, 2, 7, 0, 0), (14, .invokevirtual 30, 62, 1, 5, 0), (17, .aload_n 0, 0, 0, 0, 0), (18, .getfield 26, 2, 8, 0, 0), (21, .invokevirtual 35, 30, 1, 3, 0),
  (24, .aload_n 0, 0, 0, 0, 0), (25, .iconst 0, 0, 0, 0, 0), (26, .putfield 38, 2, 2, 0, 0), (29, .aload_n 0, 0, 0, 0, 0), (30, .iconst 0, 0, 0, 0, 0), (31, .putfield 41, 2, 6, 0, 0),
  (34, .aload_n 0, 0, 0, 0, 0), (35, .iconst 0, 0, 0, 0, 0), (36, .putfield 44, 2, 4, 0, 0), (39, .aload_n 0, 0, 0, 0, 0), (40, .iconst (-1), 0, 0, 0, 0), (41, .putfield 15, 2, 5, 0, 0),
  (44, .aload_n 0, 0, 0, 0, 0), (45, .invokevirtual 47, 27, 1, 2, 0), (48, .iconst 0, 0, 0, 0, 0), (49, .istore_n 3, 0, 0, 0, 0), (50, .iload_n 3, 0, 0, 0, 0), (51, .sipush 260, 0, 0, 0, 0),
  (54, .if_icmp .ge 33, 0, 0, 0, 0), (57, .aload_n 0, 0, 0, 0, 0), (58, .getfield 38, 2, 2, 0, 0), (61, .aload_n 0, 0, 0, 0, 0), (62, .getfield 19, 2, 1, 0, 0), (65, .if_icmp .ge 22, 0, 0, 0, 0),
  (68, .aload_n 0, 0, 0, 0, 0), (69, .invokevirtual 50, 15, 1, 2, 1), (72, .ifCond .ne 5, 0, 0, 0, 0), (75, .iconst 0, 0, 0, 0, 0), (76, .ireturn, 0, 0, 0, 0), (77, .aload_n 0, 0, 0, 0, 0),
  (78, .invokevirtual 47, 27, 1, 2, 0), (81, .iinc 3 1, 0, 0, 0, 0), (84, .goto (-34), 0, 0, 0, 0), (87, .iconst 1, 0, 0, 0, 0), (88, .ireturn, 0, 0, 0, 0)]
def tRd_read : xTb := ((⟨"FirstFelt$Reader", "read", "(LFirstFelt$Town;LFirstFelt$State;)Z"⟩, prog_4_method_3_code, 4, (some .boolean)), (0, 0), "FirstFelt$Reader", true, iRd_read)
def iRd_readClause : List (Nat × xE) := [(0, .aload_n 0, 0, 0, 0, 0), (1, .getfield 9, 2, 0, 0, 0), (4, .aload_n 0, 0, 0, 0, 0), (5, .getfield 38, 2, 2, 0, 0), (8, .iaload, 0, 0, 0, 0), (9, .istore_n 1, 0, 0, 0, 0),
  (10, .aload_n 0, 0, 0, 0, 0), (11, .getfield 22, 2, 7, 0, 0), (14, .getfield 54, 5, 0, 0, 0), (17, .ifCond .ne 19, 0, 0, 0, 0), (20, .iload_n 1, 0, 0, 0, 0), (21, .bipush 116, 0, 0, 0, 0),
  (23, .if_icmp .eq 13, 0, 0, 0, 0), (26, .aload_n 0, 0, 0, 0, 0), (27, .iconst 1, 0, 0, 0, 0), (28, .aload_n 0, 0, 0, 0, 0), (29, .getfield 38, 2, 2, 0, 0), (32, .invokevirtual 57, 28, 3, 2, 1),
  (35, .ireturn, 0, 0, 0, 0), (36, .iload_n 1, 0, 0, 0, 0), (37, .tableswitch 265 111 119 #[120, 228, 265, 156, 193, 51, 265, 265, 86], 0, 0, 0, 0), (88, .aload_n 0, 0, 0, 0, 0), (89, .aload_n 0, 0, 0, 0, 0), (90, .getfield 22, 2, 7, 0, 0),
  (93, .getfield 54, 5, 0, 0, 0), (96, .ifCond .ne 7, 0, 0, 0, 0), (99, .iconst 1, 0, 0, 0, 0), (100, .goto 4, 0, 0, 0, 0), (103, .iconst 0, 0, 0, 0, 0), (104, .invokevirtual 61, 16, 2, 2, 1),
  (107, .ifCond .eq 14, 0, 0, 0, 0), (110, .aload_n 0, 0, 0, 0, 0), (111, .invokevirtual 65, 17, 1, 2, 1), (114, .ifCond .eq 7, 0, 0, 0, 0), (117, .iconst 1, 0, 0, 0, 0), (118, .goto 4, 0, 0, 0, 0),
  (121, .iconst 0, 0, 0, 0, 0), (122, .ireturn, 0, 0, 0, 0), (123, .aload_n 0, 0, 0, 0, 0), (124, .aload_n 0, 0, 0, 0, 0), (125, .getfield 41, 2, 6, 0, 0), (128, .bipush 12, 0, 0, 0, 0),
  (130, .if_icmp .ge 7, 0, 0, 0, 0), (133, .iconst 1, 0, 0, 0, 0), (134, .goto 4, 0, 0, 0, 0), (137, .iconst 0, 0, 0, 0, 0), (138, .invokevirtual 61, 16, 2, 2, 1), (141, .ifCond .eq 14, 0, 0, 0, 0),
  (144, .aload_n 0, 0, 0, 0, 0), (145, .invokevirtual 68, 18, 1, 2, 1), (148, .ifCond .eq 7, 0, 0, 0, 0), (151, .iconst 1, 0, 0, 0, 0), (152, .goto 4, 0, 0, 0, 0), (155, .iconst 0, 0, 0, 0, 0),
  (156, .ireturn, 0, 0, 0, 0), (157, .aload_n 0, 0, 0, 0, 0), (158, .aload_n 0, 0, 0, 0, 0), (159, .getfield 22, 2, 7, 0, 0), (162, .getfield 71, 5, 2, 0, 0), (165, .iconst 4, 0, 0, 0, 0),
  (166, .if_icmp .ge 7, 0, 0, 0, 0), (169, .iconst 1, 0, 0, 0, 0), (170, .goto 4, 0, 0, 0, 0), (173, .iconst 0, 0, 0, 0, 0), (174, .invokevirtual 61, 16, 2, 2, 1), (177, .ifCond .eq 14, 0, 0, 0, 0),
  (180, .aload_n 0, 0, 0, 0, 0), (181, .invokevirtual 74, 19, 1, 2, 1), (184, .ifCond .eq 7, 0, 0, 0, 0), (187, .iconst 1, 0, 0, 0, 0), (188, .goto 4, 0, 0, 0, 0), (191, .iconst 0, 0, 0, 0, 0),
  (192, .ireturn, 0, 0, 0, 0), (193, .aload_n 0, 0, 0, 0, 0), (194, .aload_n 0, 0, 0, 0, 0), (195, .getfield 22, 2, 7, 0, 0), (198, .getfield 77, 5, 3, 0, 0), (201, .bipush 12, 0, 0, 0, 0),
  (203, .if_icmp .ge 7, 0, 0, 0, 0), (206, .iconst 1, 0, 0, 0, 0), (207, .goto 4, 0, 0, 0, 0), (210, .iconst 0, 0, 0, 0, 0), (211, .invokevirtual 61, 16, 2, 2, 1), (214, .ifCond .eq 14, 0, 0, 0, 0),
  (217, .aload_n 0, 0, 0, 0, 0), (218, .invokevirtual 80, 21, 1, 2, 1), (221, .ifCond .eq 7, 0, 0, 0, 0), (224, .iconst 1, 0, 0, 0, 0), (225, .goto 4, 0, 0, 0, 0), (228, .iconst 0, 0, 0, 0, 0),
  (229, .ireturn, 0, 0, 0, 0), (230, .aload_n 0, 0, 0, 0, 0), (231, .aload_n 0, 0, 0, 0, 0), (232, .getfield 22, 2, 7, 0, 0), (235, .getfield 83, 5, 4, 0, 0), (238, .ifCond .ne 7, 0, 0, 0, 0),
  (241, .iconst 1, 0, 0, 0, 0), (242, .goto 4, 0, 0, 0, 0), (245, .iconst 0, 0, 0, 0, 0), (246, .invokevirtual 61, 16, 2, 2, 1), (249, .ifCond .eq 14, 0, 0, 0, 0), (252, .aload_n 0, 0, 0, 0, 0),
  (253, .invokevirtual 86, 22, 1, 2, 1), (256, .ifCond .eq 7, 0, 0, 0, 0), (259, .iconst 1, 0, 0, 0, 0), (260, .goto 4, 0, 0, 0, 0), (263, .iconst 0, 0, 0, 0, 0), (264, .ireturn, 0, 0, 0, 0),
  (265, .aload_n 0, 0, 0, 0, 0), (266, .aload_n 0, 0, 0, 0, 0), (267, .getfield 22, 2, 7, 0, 0), (270, .getfield 89, 5, 5, 0, 0), (273, .bipush 6, 0, 0, 0, 0), (275, .if_icmp .ge 7, 0, 0, 0, 0),
  (278, .iconst 1, 0, 0, 0, 0), (279, .goto 4, 0, 0, 0, 0), (282, .iconst 0, 0, 0, 0, 0), (283, .invokevirtual 61, 16, 2, 2, 1), (286, .ifCond .eq 14, 0, 0, 0, 0), (289, .aload_n 0, 0, 0, 0, 0),
  (290, .invokevirtual 92, 23, 1, 2, 1), (293, .ifCond .eq 7, 0, 0, 0, 0), (296, .iconst 1, 0, 0, 0, 0), (297, .goto 4, 0, 0, 0, 0), (300, .iconst 0, 0, 0, 0, 0), (301, .ireturn, 0, 0, 0, 0),
  (302, .aload_n 0, 0, 0, 0, 0), (303, .iconst 1, 0, 0, 0, 0), (304, .aload_n 0, 0, 0, 0, 0), (305, .getfield 38, 2, 2, 0, 0), (308, .invokevirtual 57, 28, 3, 2, 1), (311, .ireturn, 0, 0, 0, 0)]
def tRd_readClause : xTb := ((⟨"FirstFelt$Reader", "readClause", "()Z"⟩, prog_4_method_4_code, 2, (some .boolean)), (0, 0), "FirstFelt$Reader", true, iRd_readClause)
def iRd_startClause : List (Nat × xE) := [(0, .iload_n 1, 0, 0, 0, 0), (1, .ifCond .ne 13, 0, 0, 0, 0), (4, .aload_n 0, 0, 0, 0, 0), (5, .iconst 3, 0, 0, 0, 0), (6, .aload_n 0, 0, 0, 0, 0), (7, .getfield 38, 2, 2, 0, 0),
  (10, .invokevirtual 57, 28, 3, 2, 1), (13, .ireturn, 0, 0, 0, 0), (14, .aload_n 0, 0, 0, 0, 0), (15, .dup, 0, 0, 0, 0), (16, .getfield 38, 2, 2, 0, 0), (19, .iconst 1, 0, 0, 0, 0),
  (20, .iadd, 0, 0, 0, 0), (21, .putfield 38, 2, 2, 0, 0), (24, .iconst 1, 0, 0, 0, 0), (25, .ireturn, 0, 0, 0, 0)]
def tRd_startClause : xTb := ((⟨"FirstFelt$Reader", "startClause", "(Z)Z"⟩, prog_4_method_5_code, 2, (some .boolean)), (0, 0), "FirstFelt$Reader", true, iRd_startClause)
def iRd_readTown : List (Nat × xE) := [(0, .aload_n 0, 0, 0, 0, 0), (1, .iconst 1, 0, 0, 0, 0), (2, .bipush 6, 0, 0, 0, 0), (4, .invokevirtual 95, 25, 3, 2, 1), (7, .istore_n 1, 0, 0, 0, 0), (8, .iload_n 1, 0, 0, 0, 0),
  (9, .iconst 1, 0, 0, 0, 0), (10, .if_icmp .ge 5, 0, 0, 0, 0), (13, .iconst 0, 0, 0, 0, 0), (14, .ireturn, 0, 0, 0, 0), (15, .aload_n 0, 0, 0, 0, 0), (16, .iconst 1, 0, 0, 0, 0),
  (17, .bipush 6, 0, 0, 0, 0), (19, .bipush 20, 0, 0, 0, 0), (21, .iload_n 1, 0, 0, 0, 0), (22, .idiv, 0, 0, 0, 0), (23, .invokestatic 99, 0, 2, 0, 6), (26, .invokevirtual 95, 25, 3, 2, 1),
  (29, .istore_n 2, 0, 0, 0, 0), (30, .iload_n 2, 0, 0, 0, 0), (31, .iconst (-1), 0, 0, 0, 0), (32, .if_icmp .ne 5, 0, 0, 0, 0), (35, .iconst 0, 0, 0, 0, 0), (36, .ireturn, 0, 0, 0, 0),
  (37, .aload_n 0, 0, 0, 0, 0), (38, .iconst 0, 0, 0, 0, 0), (39, .sipush 200, 0, 0, 0, 0), (42, .invokevirtual 95, 25, 3, 2, 1), (45, .istore_n 3, 0, 0, 0, 0), (46, .iload_n 3, 0, 0, 0, 0),
  (47, .iconst (-1), 0, 0, 0, 0), (48, .if_icmp .ne 5, 0, 0, 0, 0), (51, .iconst 0, 0, 0, 0, 0), (52, .ireturn, 0, 0, 0, 0), (53, .aload_n 0, 0, 0, 0, 0), (54, .getfield 22, 2, 7, 0, 0),
  (57, .iload_n 1, 0, 0, 0, 0), (58, .iload_n 2, 0, 0, 0, 0), (59, .invokevirtual 104, 63, 3, 5, 0), (62, .aload_n 0, 0, 0, 0, 0), (63, .getfield 26, 2, 8, 0, 0), (66, .getfield 108, 3, 0, 0, 0),
  (69, .iload_n 3, 0, 0, 0, 0), (70, .invokestatic 111, 208, 2, 0, 0), (73, .aload_n 0, 0, 0, 0, 0), (74, .invokevirtual 117, 26, 1, 2, 1), (77, .ireturn, 0, 0, 0, 0)]
def tRd_readTown : xTb := ((⟨"FirstFelt$Reader", "readTown", "()Z"⟩, prog_4_method_6_code, 4, (some .boolean)), (0, 0), "FirstFelt$Reader", true, iRd_readTown)
def iRd_readWall : List (Nat × xE) := [(0, .aload_n 0, 0, 0, 0, 0), (1, .invokevirtual 120, 24, 1, 2, 1), (4, .istore_n 1, 0, 0, 0, 0), (5, .iload_n 1, 0, 0, 0, 0), (6, .iconst (-1), 0, 0, 0, 0), (7, .if_icmp .ne 5, 0, 0, 0, 0),
  (10, .iconst 0, 0, 0, 0, 0), (11, .ireturn, 0, 0, 0, 0), (12, .aload_n 0, 0, 0, 0, 0), (13, .iconst 0, 0, 0, 0, 0), (14, .iconst 1, 0, 0, 0, 0), (15, .invokevirtual 95, 25, 3, 2, 1),
  (18, .istore_n 2, 0, 0, 0, 0), (19, .iload_n 2, 0, 0, 0, 0), (20, .iconst (-1), 0, 0, 0, 0), (21, .if_icmp .ne 5, 0, 0, 0, 0), (24, .iconst 0, 0, 0, 0, 0), (25, .ireturn, 0, 0, 0, 0),
  (26, .aload_n 0, 0, 0, 0, 0), (27, .getfield 22, 2, 7, 0, 0), (30, .iload_n 1, 0, 0, 0, 0), (31, .iload_n 2, 0, 0, 0, 0), (32, .invokestatic 124, 110, 1, 6, 1), (35, .invokevirtual 128, 68, 3, 5, 1),
  (38, .iconst (-1), 0, 0, 0, 0), (39, .if_icmp .ne 13, 0, 0, 0, 0), (42, .aload_n 0, 0, 0, 0, 0), (43, .iconst 2, 0, 0, 0, 0), (44, .aload_n 0, 0, 0, 0, 0), (45, .getfield 131, 2, 3, 0, 0),
  (48, .invokevirtual 57, 28, 3, 2, 1), (51, .ireturn, 0, 0, 0, 0), (52, .aload_n 0, 0, 0, 0, 0), (53, .getfield 26, 2, 8, 0, 0), (56, .iload_n 1, 0, 0, 0, 0), (57, .iload_n 2, 0, 0, 0, 0),
  (58, .invokevirtual 134, 33, 3, 3, 1), (61, .ifCond .eq 13, 0, 0, 0, 0), (64, .aload_n 0, 0, 0, 0, 0), (65, .iconst 4, 0, 0, 0, 0), (66, .aload_n 0, 0, 0, 0, 0), (67, .getfield 131, 2, 3, 0, 0),
  (70, .invokevirtual 57, 28, 3, 2, 1), (73, .ireturn, 0, 0, 0, 0), (74, .aload_n 0, 0, 0, 0, 0), (75, .getfield 26, 2, 8, 0, 0), (78, .aload_n 0, 0, 0, 0, 0), (79, .getfield 22, 2, 7, 0, 0),
  (82, .iload_n 1, 0, 0, 0, 0), (83, .iload_n 2, 0, 0, 0, 0), (84, .iconst 1, 0, 0, 0, 0), (85, .invokevirtual 137, 32, 5, 3, 0), (88, .aload_n 0, 0, 0, 0, 0), (89, .dup, 0, 0, 0, 0),
  (90, .getfield 41, 2, 6, 0, 0), (93, .iconst 1, 0, 0, 0, 0), (94, .iadd, 0, 0, 0, 0), (95, .putfield 41, 2, 6, 0, 0), (98, .aload_n 0, 0, 0, 0, 0), (99, .invokevirtual 117, 26, 1, 2, 1),
  (102, .ireturn, 0, 0, 0, 0)]
def tRd_readWall : xTb := ((⟨"FirstFelt$Reader", "readWall", "()Z"⟩, prog_4_method_7_code, 3, (some .boolean)), (0, 0), "FirstFelt$Reader", true, iRd_readWall)
def iRd_readStove : List (Nat × xE) := [(0, .aload_n 0, 0, 0, 0, 0), (1, .invokevirtual 120, 24, 1, 2, 1), (4, .istore_n 1, 0, 0, 0, 0), (5, .iload_n 1, 0, 0, 0, 0), (6, .iconst (-1), 0, 0, 0, 0), (7, .if_icmp .ne 5, 0, 0, 0, 0),
  (10, .iconst 0, 0, 0, 0, 0), (11, .ireturn, 0, 0, 0, 0), (12, .aload_n 0, 0, 0, 0, 0), (13, .iload_n 1, 0, 0, 0, 0), (14, .invokevirtual 141, 20, 2, 2, 1), (17, .ifCond .eq 13, 0, 0, 0, 0),
  (20, .aload_n 0, 0, 0, 0, 0), (21, .iconst 4, 0, 0, 0, 0), (22, .aload_n 0, 0, 0, 0, 0), (23, .getfield 131, 2, 3, 0, 0), (26, .invokevirtual 57, 28, 3, 2, 1), (29, .ireturn, 0, 0, 0, 0),
  (30, .aload_n 0, 0, 0, 0, 0), (31, .iconst 1, 0, 0, 0, 0), (32, .bipush 60, 0, 0, 0, 0), (34, .invokevirtual 95, 25, 3, 2, 1), (37, .istore_n 2, 0, 0, 0, 0), (38, .iload_n 2, 0, 0, 0, 0),
  (39, .iconst (-1), 0, 0, 0, 0), (40, .if_icmp .ne 5, 0, 0, 0, 0), (43, .iconst 0, 0, 0, 0, 0), (44, .ireturn, 0, 0, 0, 0), (45, .aload_n 0, 0, 0, 0, 0), (46, .iconst 0, 0, 0, 0, 0),
  (47, .bipush 99, 0, 0, 0, 0), (49, .invokevirtual 95, 25, 3, 2, 1), (52, .istore_n 3, 0, 0, 0, 0), (53, .iload_n 3, 0, 0, 0, 0), (54, .iconst (-1), 0, 0, 0, 0), (55, .if_icmp .ne 5, 0, 0, 0, 0),
  (58, .iconst 0, 0, 0, 0, 0), (59, .ireturn, 0, 0, 0, 0), (60, .aload_n 0, 0, 0, 0, 0), (61, .getfield 22, 2, 7, 0, 0), (64, .getfield 71, 5, 2, 0, 0), (67, .istore 4, 0, 0, 0, 0),
  (69, .aload_n 0, 0, 0, 0, 0), (70, .getfield 22, 2, 7, 0, 0), (73, .dup, 0, 0, 0, 0), (74, .getfield 71, 5, 2, 0, 0), (77, .iconst 1, 0, 0, 0, 0), (78, .iadd, 0, 0, 0, 0),
  (79, .putfield 71, 5, 2, 0, 0), (82, .aload_n 0, 0, 0, 0, 0), (83, .getfield 22, 2, 7, 0, 0), (86, .getfield 145, 5, 9, 0, 0), (89, .iload 4, 0, 0, 0, 0), (91, .iload_n 1, 0, 0, 0, 0),
  (92, .iastore, 0, 0, 0, 0), (93, .aload_n 0, 0, 0, 0, 0), (94, .getfield 22, 2, 7, 0, 0), (97, .getfield 148, 5, 10, 0, 0), (100, .iload 4, 0, 0, 0, 0), (102, .iload_n 2, 0, 0, 0, 0),
  (103, .iastore, 0, 0, 0, 0), (104, .aload_n 0, 0, 0, 0, 0), (105, .getfield 26, 2, 8, 0, 0), (108, .getfield 151, 3, 5, 0, 0), (111, .iload 4, 0, 0, 0, 0), (113, .iload_n 3, 0, 0, 0, 0),
  (114, .iastore, 0, 0, 0, 0), (115, .aload_n 0, 0, 0, 0, 0), (116, .invokevirtual 117, 26, 1, 2, 1), (119, .ireturn, 0, 0, 0, 0)]
def tRd_readStove : xTb := ((⟨"FirstFelt$Reader", "readStove", "()Z"⟩, prog_4_method_8_code, 5, (some .boolean)), (0, 0), "FirstFelt$Reader", true, iRd_readStove)
def iRd_hasStove : List (Nat × xE) := [(0, .iconst 0, 0, 0, 0, 0), (1, .istore_n 2, 0, 0, 0, 0), (2, .iload_n 2, 0, 0, 0, 0), (3, .aload_n 0, 0, 0, 0, 0), (4, .getfield 22, 2, 7, 0, 0), (7, .getfield 71, 5, 2, 0, 0),
  (10, .if_icmp .ge 24, 0, 0, 0, 0), (13, .aload_n 0, 0, 0, 0, 0), (14, .getfield 22, 2, 7, 0, 0), (17, .getfield 145, 5, 9, 0, 0), (20, .iload_n 2, 0, 0, 0, 0), (21, .iaload, 0, 0, 0, 0),
  (22, .iload_n 1, 0, 0, 0, 0), (23, .if_icmp .ne 5, 0, 0, 0, 0), (26, .iconst 1, 0, 0, 0, 0), (27, .ireturn, 0, 0, 0, 0), (28, .iinc 2 1, 0, 0, 0, 0), (31, .goto (-29), 0, 0, 0, 0),
  (34, .iconst 0, 0, 0, 0, 0), (35, .ireturn, 0, 0, 0, 0)]
def tRd_hasStove : xTb := ((⟨"FirstFelt$Reader", "hasStove", "(I)Z"⟩, prog_4_method_9_code, 3, (some .boolean)), (0, 0), "FirstFelt$Reader", true, iRd_hasStove)
def iRd_readRoof : List (Nat × xE) := [(0, .aload_n 0, 0, 0, 0, 0), (1, .invokevirtual 120, 24, 1, 2, 1), (4, .istore_n 1, 0, 0, 0, 0), (5, .iload_n 1, 0, 0, 0, 0), (6, .iconst (-1), 0, 0, 0, 0), (7, .if_icmp .ne 5, 0, 0, 0, 0),
  (10, .iconst 0, 0, 0, 0, 0), (11, .ireturn, 0, 0, 0, 0), (12, .aload_n 0, 0, 0, 0, 0), (13, .getfield 22, 2, 7, 0, 0), (16, .getfield 154, 5, 7, 0, 0), (19, .iload_n 1, 0, 0, 0, 0),
  (20, .iaload, 0, 0, 0, 0), (21, .ifCond .eq 13, 0, 0, 0, 0), (24, .aload_n 0, 0, 0, 0, 0), (25, .iconst 4, 0, 0, 0, 0), (26, .aload_n 0, 0, 0, 0, 0), (27, .getfield 131, 2, 3, 0, 0),
  (30, .invokevirtual 57, 28, 3, 2, 1), (33, .ireturn, 0, 0, 0, 0), (34, .aload_n 0, 0, 0, 0, 0), (35, .getfield 22, 2, 7, 0, 0), (38, .getfield 154, 5, 7, 0, 0), (41, .iload_n 1, 0, 0, 0, 0),
  (42, .iconst 1, 0, 0, 0, 0), (43, .iastore, 0, 0, 0, 0), (44, .aload_n 0, 0, 0, 0, 0), (45, .getfield 22, 2, 7, 0, 0), (48, .dup, 0, 0, 0, 0), (49, .getfield 77, 5, 3, 0, 0),
  (52, .iconst 1, 0, 0, 0, 0), (53, .iadd, 0, 0, 0, 0), (54, .putfield 77, 5, 3, 0, 0), (57, .aload_n 0, 0, 0, 0, 0), (58, .invokevirtual 117, 26, 1, 2, 1), (61, .ireturn, 0, 0, 0, 0)]
def tRd_readRoof : xTb := ((⟨"FirstFelt$Reader", "readRoof", "()Z"⟩, prog_4_method_10_code, 2, (some .boolean)), (0, 0), "FirstFelt$Reader", true, iRd_readRoof)
def iRd_readSun : List (Nat × xE) := [(0, .iconst 0, 0, 0, 0, 0), (1, .istore_n 1, 0, 0, 0, 0), (2, .iload_n 1, 0, 0, 0, 0), (3, .bipush 8, 0, 0, 0, 0), (5, .if_icmp .ge 96, 0, 0, 0, 0), (8, .aload_n 0, 0, 0, 0, 0),
  (9, .iconst 0, 0, 0, 0, 0), (10, .bipush 30, 0, 0, 0, 0), (12, .invokevirtual 95, 25, 3, 2, 1), (15, .istore_n 2, 0, 0, 0, 0), (16, .iload_n 2, 0, 0, 0, 0), (17, .iconst (-1), 0, 0, 0, 0),
  (18, .if_icmp .ne 5, 0, 0, 0, 0), (21, .iconst 0, 0, 0, 0, 0), (22, .ireturn, 0, 0, 0, 0), (23, .aload_n 0, 0, 0, 0, 0), (24, .getfield 22, 2, 7, 0, 0), (27, .getfield 157, 5, 8, 0, 0),
  (30, .iload_n 1, 0, 0, 0, 0), (31, .iload_n 2, 0, 0, 0, 0), (32, .iastore, 0, 0, 0, 0), (33, .aload_n 0, 0, 0, 0, 0), (34, .getfield 22, 2, 7, 0, 0), (37, .iload_n 1, 0, 0, 0, 0),
  (38, .iconst 1, 0, 0, 0, 0), (39, .iadd, 0, 0, 0, 0), (40, .putfield 83, 5, 4, 0, 0), (43, .aload_n 0, 0, 0, 0, 0), (44, .invokevirtual 47, 27, 1, 2, 0), (47, .iload_n 1, 0, 0, 0, 0),
  (48, .iconst 1, 0, 0, 0, 0), (49, .iadd, 0, 0, 0, 0), (50, .bipush 8, 0, 0, 0, 0), (52, .if_icmp .ge 28, 0, 0, 0, 0), (55, .aload_n 0, 0, 0, 0, 0), (56, .getfield 38, 2, 2, 0, 0),
  (59, .aload_n 0, 0, 0, 0, 0), (60, .getfield 19, 2, 1, 0, 0), (63, .if_icmp .ge 17, 0, 0, 0, 0), (66, .aload_n 0, 0, 0, 0, 0), (67, .getfield 9, 2, 0, 0, 0), (70, .aload_n 0, 0, 0, 0, 0),
  (71, .getfield 38, 2, 2, 0, 0), (74, .iaload, 0, 0, 0, 0), (75, .bipush 44, 0, 0, 0, 0), (77, .if_icmp .eq 8, 0, 0, 0, 0), (80, .aload_n 0, 0, 0, 0, 0), (81, .invokevirtual 117, 26, 1, 2, 1),
  (84, .ireturn, 0, 0, 0, 0), (85, .aload_n 0, 0, 0, 0, 0), (86, .dup, 0, 0, 0, 0), (87, .getfield 38, 2, 2, 0, 0), (90, .iconst 1, 0, 0, 0, 0), (91, .iadd, 0, 0, 0, 0),
  (92, .putfield 38, 2, 2, 0, 0), (95, .iinc 1 1, 0, 0, 0, 0), (98, .goto (-96), 0, 0, 0, 0), (101, .iconst 0, 0, 0, 0, 0), (102, .ireturn, 0, 0, 0, 0)]
def tRd_readSun : xTb := ((⟨"FirstFelt$Reader", "readSun", "()Z"⟩, prog_4_method_11_code, 3, (some .boolean)), (0, 0), "FirstFelt$Reader", true, iRd_readSun)
def iRd_readPerson : List (Nat × xE) := [(0, .aload_n 0, 0, 0, 0, 0), (1, .invokevirtual 120, 24, 1, 2, 1), (4, .istore_n 1, 0, 0, 0, 0), (5, .iload_n 1, 0, 0, 0, 0), (6, .iconst (-1), 0, 0, 0, 0), (7, .if_icmp .ne 5, 0, 0, 0, 0),
  (10, .iconst 0, 0, 0, 0, 0), (11, .ireturn, 0, 0, 0, 0), (12, .aload_n 0, 0, 0, 0, 0), (13, .iconst 0, 0, 0, 0, 0), (14, .sipush 300, 0, 0, 0, 0), (17, .invokevirtual 95, 25, 3, 2, 1),
  (20, .istore_n 2, 0, 0, 0, 0), (21, .iload_n 2, 0, 0, 0, 0), (22, .iconst (-1), 0, 0, 0, 0), (23, .if_icmp .ne 5, 0, 0, 0, 0), (26, .iconst 0, 0, 0, 0, 0), (27, .ireturn, 0, 0, 0, 0),
  (28, .aload_n 0, 0, 0, 0, 0), (29, .iconst 1, 0, 0, 0, 0), (30, .bipush 60, 0, 0, 0, 0), (32, .invokevirtual 95, 25, 3, 2, 1), (35, .istore_n 3, 0, 0, 0, 0), (36, .iload_n 3, 0, 0, 0, 0),
  (37, .iconst (-1), 0, 0, 0, 0), (38, .if_icmp .ne 5, 0, 0, 0, 0), (41, .iconst 0, 0, 0, 0, 0), (42, .ireturn, 0, 0, 0, 0), (43, .aload_n 0, 0, 0, 0, 0), (44, .iconst 0, 0, 0, 0, 0),
  (45, .bipush 9, 0, 0, 0, 0), (47, .invokevirtual 95, 25, 3, 2, 1), (50, .istore 4, 0, 0, 0, 0), (52, .iload 4, 0, 0, 0, 0), (54, .iconst (-1), 0, 0, 0, 0), (55, .if_icmp .ne 5, 0, 0, 0, 0),
  (58, .iconst 0, 0, 0, 0, 0), (59, .ireturn, 0, 0, 0, 0), (60, .aload_n 0, 0, 0, 0, 0), (61, .getfield 22, 2, 7, 0, 0), (64, .getfield 89, 5, 5, 0, 0), (67, .istore 5, 0, 0, 0, 0),
  (69, .aload_n 0, 0, 0, 0, 0), (70, .getfield 22, 2, 7, 0, 0), (73, .dup, 0, 0, 0, 0), (74, .getfield 89, 5, 5, 0, 0), (77, .iconst 1, 0, 0, 0, 0), (78, .iadd, 0, 0, 0, 0),
  (79, .putfield 89, 5, 5, 0, 0), (82, .aload_n 0, 0, 0, 0, 0), (83, .getfield 26, 2, 8, 0, 0), (86, .getfield 160, 3, 7, 0, 0), (89, .iload 5, 0, 0, 0, 0), (91, .iload_n 1, 0, 0, 0, 0),
  (92, .iastore, 0, 0, 0, 0), (93, .aload_n 0, 0, 0, 0, 0), (94, .getfield 26, 2, 8, 0, 0), (97, .getfield 163, 3, 8, 0, 0), (100, .iload 5, 0, 0, 0, 0), (102, .iload_n 2, 0, 0, 0, 0),
  (103, .iastore, 0, 0, 0, 0), (104, .aload_n 0, 0, 0, 0, 0), (105, .getfield 22, 2, 7, 0, 0), (108, .getfield 166, 5, 11, 0, 0), (111, .iload 5, 0, 0, 0, 0), (113, .iload_n 3, 0, 0, 0, 0),
  (114, .iastore, 0, 0, 0, 0), (115, .aload_n 0, 0, 0, 0, 0), (116, .getfield 22, 2, 7, 0, 0), (119, .getfield 169, 5, 12, 0, 0), (122, .iload 5, 0, 0, 0, 0), (124, .iload 4, 0, 0, 0, 0),
  (126, .iastore, 0, 0, 0, 0), (127, .aload_n 0, 0, 0, 0, 0), (128, .invokevirtual 117, 26, 1, 2, 1), (131, .ireturn, 0, 0, 0, 0)]
def tRd_readPerson : xTb := ((⟨"FirstFelt$Reader", "readPerson", "()Z"⟩, prog_4_method_12_code, 6, (some .boolean)), (0, 0), "FirstFelt$Reader", true, iRd_readPerson)
def iRd_readCell : List (Nat × xE) := [(0, .aload_n 0, 0, 0, 0, 0), (1, .iconst 0, 0, 0, 0, 0), (2, .aload_n 0, 0, 0, 0, 0), (3, .getfield 22, 2, 7, 0, 0), (6, .getfield 54, 5, 0, 0, 0), (9, .iconst 1, 0, 0, 0, 0),
  (10, .isub, 0, 0, 0, 0), (11, .invokevirtual 95, 25, 3, 2, 1), (14, .istore_n 1, 0, 0, 0, 0), (15, .iload_n 1, 0, 0, 0, 0), (16, .iconst (-1), 0, 0, 0, 0), (17, .if_icmp .ne 5, 0, 0, 0, 0),
  (20, .iconst (-1), 0, 0, 0, 0), (21, .ireturn, 0, 0, 0, 0), (22, .aload_n 0, 0, 0, 0, 0), (23, .iconst 0, 0, 0, 0, 0), (24, .aload_n 0, 0, 0, 0, 0), (25, .getfield 22, 2, 7, 0, 0),
  (28, .getfield 172, 5, 1, 0, 0), (31, .iconst 1, 0, 0, 0, 0), (32, .isub, 0, 0, 0, 0), (33, .invokevirtual 95, 25, 3, 2, 1), (36, .istore_n 2, 0, 0, 0, 0), (37, .iload_n 2, 0, 0, 0, 0),
  (38, .iconst (-1), 0, 0, 0, 0), (39, .if_icmp .ne 7, 0, 0, 0, 0), (42, .iconst (-1), 0, 0, 0, 0), (43, .goto 12, 0, 0, 0, 0), (46, .aload_n 0, 0, 0, 0, 0), (47, .getfield 22, 2, 7, 0, 0),
  (50, .iload_n 1, 0, 0, 0, 0), (51, .iload_n 2, 0, 0, 0, 0), (52, .invokevirtual 175, 65, 3, 5, 1), (55, .ireturn, 0, 0, 0, 0)]
def tRd_readCell : xTb := ((⟨"FirstFelt$Reader", "readCell", "()I"⟩, prog_4_method_13_code, 3, (some .int)), (0, 0), "FirstFelt$Reader", false, iRd_readCell)
def iRd_readNumber : List (Nat × xE) := [(0, .aload_n 0, 0, 0, 0, 0), (1, .invokevirtual 47, 27, 1, 2, 0), (4, .aload_n 0, 0, 0, 0, 0), (5, .aload_n 0, 0, 0, 0, 0), (6, .getfield 38, 2, 2, 0, 0), (9, .putfield 131, 2, 3, 0, 0),
  (12, .iconst 0, 0, 0, 0, 0), (13, .istore_n 3, 0, 0, 0, 0), (14, .aload_n 0, 0, 0, 0, 0), (15, .getfield 38, 2, 2, 0, 0), (18, .aload_n 0, 0, 0, 0, 0), (19, .getfield 19, 2, 1, 0, 0),
  (22, .if_icmp .ge 68, 0, 0, 0, 0), (25, .aload_n 0, 0, 0, 0, 0), (26, .getfield 9, 2, 0, 0, 0), (29, .aload_n 0, 0, 0, 0, 0), (30, .getfield 38, 2, 2, 0, 0), (33, .iaload, 0, 0, 0, 0),
  (34, .bipush 48, 0, 0, 0, 0), (36, .if_icmp .lt 54, 0, 0, 0, 0), (39, .aload_n 0, 0, 0, 0, 0), (40, .getfield 9, 2, 0, 0, 0), (43, .aload_n 0, 0, 0, 0, 0), (44, .getfield 38, 2, 2, 0, 0),
  (47, .iaload, 0, 0, 0, 0), (48, .bipush 57, 0, 0, 0, 0), (50, .if_icmp .gt 40, 0, 0, 0, 0), (53, .sipush 1000, 0, 0, 0, 0), (56, .iload_n 3, 0, 0, 0, 0), (57, .bipush 10, 0, 0, 0, 0),
  (59, .imul, 0, 0, 0, 0), (60, .aload_n 0, 0, 0, 0, 0), (61, .getfield 9, 2, 0, 0, 0), (64, .aload_n 0, 0, 0, 0, 0), (65, .getfield 38, 2, 2, 0, 0), (68, .iaload, 0, 0, 0, 0),
  (69, .iadd, 0, 0, 0, 0), (70, .bipush 48, 0, 0, 0, 0), (72, .isub, 0, 0, 0, 0), (73, .invokestatic 99, 0, 2, 0, 6), (76, .istore_n 3, 0, 0, 0, 0), (77, .aload_n 0, 0, 0, 0, 0),
  (78, .dup, 0, 0, 0, 0), (79, .getfield 38, 2, 2, 0, 0), (82, .iconst 1, 0, 0, 0, 0), (83, .iadd, 0, 0, 0, 0), (84, .putfield 38, 2, 2, 0, 0), (87, .goto (-73), 0, 0, 0, 0),
  (90, .aload_n 0, 0, 0, 0, 0), (91, .getfield 38, 2, 2, 0, 0), (94, .aload_n 0, 0, 0, 0, 0), (95, .getfield 131, 2, 3, 0, 0), (98, .isub, 0, 0, 0, 0), (99, .istore 4, 0, 0, 0, 0),
  (101, .iload 4, 0, 0, 0, 0), (103, .ifCond .ne 15, 0, 0, 0, 0), (106, .aload_n 0, 0, 0, 0, 0), (107, .iconst 1, 0, 0, 0, 0), (108, .aload_n 0, 0, 0, 0, 0), (109, .getfield 131, 2, 3, 0, 0),
  (112, .invokevirtual 57, 28, 3, 2, 1), (115, .pop, 0, 0, 0, 0), (116, .iconst (-1), 0, 0, 0, 0), (117, .ireturn, 0, 0, 0, 0), (118, .iload 4, 0, 0, 0, 0), (120, .iconst 3, 0, 0, 0, 0),
  (121, .if_icmp .gt 13, 0, 0, 0, 0), (124, .iload_n 3, 0, 0, 0, 0), (125, .iload_n 1, 0, 0, 0, 0), (126, .if_icmp .lt 8, 0, 0, 0, 0), (129, .iload_n 3, 0, 0, 0, 0), (130, .iload_n 2, 0, 0, 0, 0),
  (131, .if_icmp .le 15, 0, 0, 0, 0), (134, .aload_n 0, 0, 0, 0, 0), (135, .iconst 2, 0, 0, 0, 0), (136, .aload_n 0, 0, 0, 0, 0), (137, .getfield 131, 2, 3, 0, 0), (140, .invokevirtual 57, 28, 3, 2, 1),
  (143, .pop, 0, 0, 0, 0), (144, .iconst (-1), 0, 0, 0, 0), (145, .ireturn, 0, 0, 0, 0), (146, .iload_n 3, 0, 0, 0, 0), (147, .ireturn, 0, 0, 0, 0)]
def tRd_readNumber : xTb := ((⟨"FirstFelt$Reader", "readNumber", "(II)I"⟩, prog_4_method_14_code, 5, (some .int)), (0, 0), "FirstFelt$Reader", false, iRd_readNumber)
def iRd_endClause : List (Nat × xE) := [(0, .aload_n 0, 0, 0, 0, 0), (1, .invokevirtual 47, 27, 1, 2, 0), (4, .aload_n 0, 0, 0, 0, 0), (5, .getfield 38, 2, 2, 0, 0), (8, .aload_n 0, 0, 0, 0, 0), (9, .getfield 19, 2, 1, 0, 0),
  (12, .if_icmp .ge 17, 0, 0, 0, 0), (15, .aload_n 0, 0, 0, 0, 0), (16, .getfield 9, 2, 0, 0, 0), (19, .aload_n 0, 0, 0, 0, 0), (20, .getfield 38, 2, 2, 0, 0), (23, .iaload, 0, 0, 0, 0),
  (24, .bipush 59, 0, 0, 0, 0), (26, .if_icmp .eq 13, 0, 0, 0, 0), (29, .aload_n 0, 0, 0, 0, 0), (30, .iconst 1, 0, 0, 0, 0), (31, .aload_n 0, 0, 0, 0, 0), (32, .getfield 38, 2, 2, 0, 0),
  (35, .invokevirtual 57, 28, 3, 2, 1), (38, .ireturn, 0, 0, 0, 0), (39, .aload_n 0, 0, 0, 0, 0), (40, .dup, 0, 0, 0, 0), (41, .getfield 38, 2, 2, 0, 0), (44, .iconst 1, 0, 0, 0, 0),
  (45, .iadd, 0, 0, 0, 0), (46, .putfield 38, 2, 2, 0, 0), (49, .iconst 1, 0, 0, 0, 0), (50, .ireturn, 0, 0, 0, 0)]
def tRd_endClause : xTb := ((⟨"FirstFelt$Reader", "endClause", "()Z"⟩, prog_4_method_15_code, 1, (some .boolean)), (0, 0), "FirstFelt$Reader", true, iRd_endClause)
def iRd_skipBlanks : List (Nat × xE) := [(0, .aload_n 0, 0, 0, 0, 0), (1, .getfield 38, 2, 2, 0, 0), (4, .aload_n 0, 0, 0, 0, 0), (5, .getfield 19, 2, 1, 0, 0), (8, .if_icmp .ge 30, 0, 0, 0, 0), (11, .aload_n 0, 0, 0, 0, 0),
  (12, .getfield 9, 2, 0, 0, 0), (15, .aload_n 0, 0, 0, 0, 0), (16, .getfield 38, 2, 2, 0, 0), (19, .iaload, 0, 0, 0, 0), (20, .bipush 32, 0, 0, 0, 0), (22, .if_icmp .ne 16, 0, 0, 0, 0),
  (25, .aload_n 0, 0, 0, 0, 0), (26, .dup, 0, 0, 0, 0), (27, .getfield 38, 2, 2, 0, 0), (30, .iconst 1, 0, 0, 0, 0), (31, .iadd, 0, 0, 0, 0), (32, .putfield 38, 2, 2, 0, 0),
  (35, .goto (-35), 0, 0, 0, 0), (38, .return_, 0, 0, 0, 0)]
def tRd_skipBlanks : xTb := ((⟨"FirstFelt$Reader", "skipBlanks", "()V"⟩, prog_4_method_16_code, 1, none), (0, 0), "FirstFelt$Reader", false, iRd_skipBlanks)
def iRd_fail : List (Nat × xE) := [(0, .aload_n 0, 0, 0, 0, 0), (1, .iload_n 1, 0, 0, 0, 0), (2, .putfield 44, 2, 4, 0, 0), (5, .aload_n 0, 0, 0, 0, 0), (6, .iload_n 2, 0, 0, 0, 0), (7, .putfield 15, 2, 5, 0, 0),
  (10, .iconst 0, 0, 0, 0, 0), (11, .ireturn, 0, 0, 0, 0)]
def tRd_fail : xTb := ((⟨"FirstFelt$Reader", "fail", "(II)Z"⟩, prog_4_method_17_code, 3, (some .boolean)), (0, 0), "FirstFelt$Reader", true, iRd_fail)
def iSt_init : List (Nat × xE) := [(0, .aload_n 0, 0, 0, 0, 0), (1, .invokespecial 3, 0, 1, 0, 3), (4, .aload_n 0, 0, 0, 0, 0), (5, .bipush 20, 0, 0, 0, 0), (7, .newarray .int, 0, 0, 0, 0), (9, .putfield 9, 3, 0, 0, 0),
  (12, .aload_n 0, 0, 0, 0, 0), (13, .bipush 20, 0, 0, 0, 0), (15, .newarray .int, 0, 0, 0, 0), (17, .putfield 15, 3, 1, 0, 0), (20, .aload_n 0, 0, 0, 0, 0), (21, .bipush 20, 0, 0, 0, 0),
  (23, .newarray .int, 0, 0, 0, 0), (25, .putfield 18, 3, 2, 0, 0), (28, .aload_n 0, 0, 0, 0, 0), (29, .bipush 20, 0, 0, 0, 0), (31, .newarray .int, 0, 0, 0, 0), (33, .putfield 21, 3, 3, 0, 0),
  (36, .aload_n 0, 0, 0, 0, 0), (37, .bipush 20, 0, 0, 0, 0), (39, .newarray .int, 0, 0, 0, 0), (41, .putfield 24, 3, 4, 0, 0), (44, .aload_n 0, 0, 0, 0, 0), (45, .iconst 4, 0, 0, 0, 0),
  (46, .newarray .int, 0, 0, 0, 0), (48, .putfield 27, 3, 5, 0, 0), (51, .aload_n 0, 0, 0, 0, 0), (52, .iconst 4, 0, 0, 0, 0), (53, .newarray .int, 0, 0, 0, 0), (55, .putfield 30, 3, 6, 0, 0),
  (58, .aload_n 0, 0, 0, 0, 0), (59, .bipush 6, 0, 0, 0, 0), (61, .newarray .int, 0, 0, 0, 0), (63, .putfield 33, 3, 7, 0, 0), (66, .aload_n 0, 0, 0, 0, 0), (67, .bipush 6, 0, 0, 0, 0),
  (69, .newarray .int, 0, 0, 0, 0), (71, .putfield 36, 3, 8, 0, 0), (74, .aload_n 0, 0, 0, 0, 0), (75, .bipush 6, 0, 0, 0, 0), (77, .newarray .int, 0, 0, 0, 0), (79, .putfield 39, 3, 9, 0, 0),
  (82, .aload_n 0, 0, 0, 0, 0), (83, .bipush 6, 0, 0, 0, 0), (85, .newarray .int, 0, 0, 0, 0), (87, .putfield 42, 3, 10, 0, 0), (90, .aload_n 0, 0, 0, 0, 0), (91, .bipush 6, 0, 0, 0, 0),
  (93, .newarray .int, 0, 0, 0, 0), (95, .putfield 45, 3, 11, 0, 0), (98, .aload_n 0, 0, 0, 0, 0), (99, .iconst 3, 0, 0, 0, 0), (100, .putfield 48, 3, 15, 0, 0), (103, .return_, 0, 0, 0, 0)]
def tSt_init : xTb := ((⟨"FirstFelt$State", "<init>", "()V"⟩, prog_5_method_1_code, 1, none), (12, 138), "FirstFelt$State", false, iSt_init)
def iSt_clear : List (Nat × xE) := [(0, .aload_n 0, 0, 0, 0, 0), (1, .getfield 18, 3, 2, 0, 0), (4, .iconst (-1), 0, 0, 0, 0), (5, .invokestatic 52, 208, 2, 0, 0), (8, .aload_n 0, 0, 0, 0, 0), (9, .getfield 21, 3, 3, 0, 0),
  (12, .iconst 0, 0, 0, 0, 0), (13, .invokestatic 52, 208, 2, 0, 0), (16, .aload_n 0, 0, 0, 0, 0), (17, .getfield 24, 3, 4, 0, 0), (20, .iconst 0, 0, 0, 0, 0), (21, .invokestatic 52, 208, 2, 0, 0),
  (24, .aload_n 0, 0, 0, 0, 0), (25, .getfield 30, 3, 6, 0, 0), (28, .iconst 0, 0, 0, 0, 0), (29, .invokestatic 52, 208, 2, 0, 0), (32, .aload_n 0, 0, 0, 0, 0), (33, .getfield 39, 3, 9, 0, 0),
  (36, .iconst 0, 0, 0, 0, 0), (37, .invokestatic 52, 208, 2, 0, 0), (40, .aload_n 0, 0, 0, 0, 0), (41, .getfield 42, 3, 10, 0, 0), (44, .iconst 0, 0, 0, 0, 0), (45, .invokestatic 52, 208, 2, 0, 0),
  (48, .aload_n 0, 0, 0, 0, 0), (49, .getfield 45, 3, 11, 0, 0), (52, .iconst 0, 0, 0, 0, 0), (53, .invokestatic 52, 208, 2, 0, 0), (56, .aload_n 0, 0, 0, 0, 0), (57, .iconst 0, 0, 0, 0, 0),
  (58, .putfield 58, 3, 13, 0, 0), (61, .aload_n 0, 0, 0, 0, 0), (62, .iconst 0, 0, 0, 0, 0), (63, .putfield 61, 3, 14, 0, 0), (66, .aload_n 0, 0, 0, 0, 0), (67, .iconst 3, 0, 0, 0, 0),
  (68, .putfield 48, 3, 15, 0, 0), (71, .aload_n 0, 0, 0, 0, 0), (72, .iconst 0, 0, 0, 0, 0), (73, .putfield 64, 3, 16, 0, 0), (76, .return_, 0, 0, 0, 0)]
def tSt_clear : xTb := ((⟨"FirstFelt$State", "clear", "()V"⟩, prog_5_method_2_code, 1, none), (0, 0), "FirstFelt$State", false, iSt_clear)
def iSt_copyFrom : List (Nat × xE) := [(0, .aload_n 1, 0, 0, 0, 0), (1, .getfield 9, 3, 0, 0, 0), (4, .iconst 0, 0, 0, 0, 0), (5, .aload_n 0, 0, 0, 0, 0), (6, .getfield 9, 3, 0, 0, 0), (9, .iconst 0, 0, 0, 0, 0),
  (10, .bipush 20, 0, 0, 0, 0), (12, .invokestatic 67, 0, 5, 0, 4), (15, .aload_n 1, 0, 0, 0, 0), (16, .getfield 18, 3, 2, 0, 0), (19, .iconst 0, 0, 0, 0, 0), (20, .aload_n 0, 0, 0, 0, 0),
  (21, .getfield 18, 3, 2, 0, 0), (24, .iconst 0, 0, 0, 0, 0), (25, .bipush 20, 0, 0, 0, 0), (27, .invokestatic 67, 0, 5, 0, 4), (30, .aload_n 1, 0, 0, 0, 0), (31, .getfield 21, 3, 3, 0, 0),
  (34, .iconst 0, 0, 0, 0, 0), (35, .aload_n 0, 0, 0, 0, 0), (36, .getfield 21, 3, 3, 0, 0), (39, .iconst 0, 0, 0, 0, 0), (40, .bipush 20, 0, 0, 0, 0), (42, .invokestatic 67, 0, 5, 0, 4),
  (45, .aload_n 1, 0, 0, 0, 0), (46, .getfield 24, 3, 4, 0, 0), (49, .iconst 0, 0, 0, 0, 0), (50, .aload_n 0, 0, 0, 0, 0), (51, .getfield 24, 3, 4, 0, 0), (54, .iconst 0, 0, 0, 0, 0),
  (55, .bipush 20, 0, 0, 0, 0), (57, .invokestatic 67, 0, 5, 0, 4), (60, .aload_n 1, 0, 0, 0, 0), (61, .getfield 27, 3, 5, 0, 0), (64, .iconst 0, 0, 0, 0, 0), (65, .aload_n 0, 0, 0, 0, 0),
  (66, .getfield 27, 3, 5, 0, 0), (69, .iconst 0, 0, 0, 0, 0), (70, .iconst 4, 0, 0, 0, 0), (71, .invokestatic 67, 0, 5, 0, 4), (74, .aload_n 1, 0, 0, 0, 0), (75, .getfield 30, 3, 6, 0, 0),
  (78, .iconst 0, 0, 0, 0, 0), (79, .aload_n 0, 0, 0, 0, 0), (80, .getfield 30, 3, 6, 0, 0), (83, .iconst 0, 0, 0, 0, 0), (84, .iconst 4, 0, 0, 0, 0), (85, .invokestatic 67, 0, 5, 0, 4),
  (88, .aload_n 1, 0, 0, 0, 0), (89, .getfield 33, 3, 7, 0, 0), (92, .iconst 0, 0, 0, 0, 0), (93, .aload_n 0, 0, 0, 0, 0), (94, .getfield 33, 3, 7, 0, 0), (97, .iconst 0, 0, 0, 0, 0),
  (98, .bipush 6, 0, 0, 0, 0), (100, .invokestatic 67, 0, 5, 0, 4), (103, .aload_n 1, 0, 0, 0, 0), (104, .getfield 36, 3, 8, 0, 0), (107, .iconst 0, 0, 0, 0, 0), (108, .aload_n 0, 0, 0, 0, 0),
  (109, .getfield 36, 3, 8, 0, 0), (112, .iconst 0, 0, 0, 0, 0), (113, .bipush 6, 0, 0, 0, 0), (115, .invokestatic 67, 0, 5, 0, 4), (118, .aload_n 1, 0, 0, 0, 0), (119, .getfield 39, 3, 9, 0, 0),
  (122, .iconst 0, 0, 0, 0, 0), (123, .aload_n 0, 0, 0, 0, 0), (124, .getfield 39, 3, 9, 0, 0), (127, .iconst 0, 0, 0, 0, 0), (128, .bipush 6, 0, 0, 0, 0), (130, .invokestatic 67, 0, 5, 0, 4),
  (133, .aload_n 1, 0, 0, 0, 0), (134, .getfield 42, 3, 10, 0, 0), (137, .iconst 0, 0, 0, 0, 0), (138, .aload_n 0, 0, 0, 0, 0), (139, .getfield 42, 3, 10, 0, 0), (142, .iconst 0, 0, 0, 0, 0),
  (143, .bipush 6, 0, 0, 0, 0), (145, .invokestatic 67, 0, 5, 0, 4), (148, .aload_n 1, 0, 0, 0, 0), (149, .getfield 45, 3, 11, 0, 0), (152, .iconst 0, 0, 0, 0, 0), (153, .aload_n 0, 0, 0, 0, 0),
  (154, .getfield 45, 3, 11, 0, 0), (157, .iconst 0, 0, 0, 0, 0), (158, .bipush 6, 0, 0, 0, 0), (160, .invokestatic 67, 0, 5, 0, 4), (163, .aload_n 0, 0, 0, 0, 0), (164, .aload_n 1, 0, 0, 0, 0),
  (165, .getfield 58, 3, 13, 0, 0), (168, .putfield 58, 3, 13, 0, 0), (171, .aload_n 0, 0, 0, 0, 0), (172, .aload_n 1, 0, 0, 0, 0), (173, .getfield 61, 3, 14, 0, 0), (176, .putfield 61, 3, 14, 0, 0),
  (179, .aload_n 0, 0, 0, 0, 0), (180, .aload_n 1, 0, 0, 0, 0), (181, .getfield 48, 3, 15, 0, 0), (184, .putfield 48, 3, 15, 0, 0), (187, .aload_n 0, 0, 0, 0, 0), (188, .aload_n 1, 0, 0, 0, 0),
  (189, .getfield 64, 3, 16, 0, 0), (192, .putfield 64, 3, 16, 0, 0), (195, .aload_n 0, 0, 0, 0, 0), (196, .aload_n 1, 0, 0, 0, 0), (197, .getfield 73, 3, 17, 0, 0), (200, .putfield 73, 3, 17, 0, 0),
  (203, .return_, 0, 0, 0, 0)]
def tSt_copyFrom : xTb := ((⟨"FirstFelt$State", "copyFrom", "(LFirstFelt$State;)V"⟩, prog_5_method_3_code, 2, none), (0, 0), "FirstFelt$State", false, iSt_copyFrom)
def iSt_setWall : List (Nat × xE) := [(0, .iload_n 3, 0, 0, 0, 0), (1, .invokestatic 76, 110, 1, 6, 1), (4, .istore 5, 0, 0, 0, 0), (6, .aload_n 1, 0, 0, 0, 0), (7, .iload_n 2, 0, 0, 0, 0), (8, .iload 5, 0, 0, 0, 0),
  (10, .invokevirtual 80, 68, 3, 5, 1), (13, .istore 6, 0, 0, 0, 0), (15, .iload 6, 0, 0, 0, 0), (17, .iconst (-1), 0, 0, 0, 0), (18, .if_icmp .ne 4, 0, 0, 0, 0), (21, .return_, 0, 0, 0, 0),
  (22, .iload 5, 0, 0, 0, 0), (24, .iconst 2, 0, 0, 0, 0), (25, .if_icmp .ne 7, 0, 0, 0, 0), (28, .iconst 4, 0, 0, 0, 0), (29, .goto 4, 0, 0, 0, 0), (32, .iconst 1, 0, 0, 0, 0),
  (33, .istore 7, 0, 0, 0, 0), (35, .aload_n 0, 0, 0, 0, 0), (36, .getfield 24, 3, 4, 0, 0), (39, .iload_n 2, 0, 0, 0, 0), (40, .iload 4, 0, 0, 0, 0), (42, .ifCond .eq 17, 0, 0, 0, 0),
  (45, .aload_n 0, 0, 0, 0, 0), (46, .getfield 24, 3, 4, 0, 0), (49, .iload_n 2, 0, 0, 0, 0), (50, .iaload, 0, 0, 0, 0), (51, .iconst 1, 0, 0, 0, 0), (52, .iload 5, 0, 0, 0, 0),
  (54, .ishl, 0, 0, 0, 0), (55, .ior, 0, 0, 0, 0), (56, .goto 16, 0, 0, 0, 0), (59, .aload_n 0, 0, 0, 0, 0), (60, .getfield 24, 3, 4, 0, 0), (63, .iload_n 2, 0, 0, 0, 0),
  (64, .iaload, 0, 0, 0, 0), (65, .iconst 1, 0, 0, 0, 0), (66, .iload 5, 0, 0, 0, 0), (68, .ishl, 0, 0, 0, 0), (69, .iconst (-1), 0, 0, 0, 0), (70, .ixor, 0, 0, 0, 0),
  (71, .iand, 0, 0, 0, 0), (72, .iastore, 0, 0, 0, 0), (73, .aload_n 0, 0, 0, 0, 0), (74, .getfield 24, 3, 4, 0, 0), (77, .iload 6, 0, 0, 0, 0), (79, .iload 4, 0, 0, 0, 0),
  (81, .ifCond .eq 18, 0, 0, 0, 0), (84, .aload_n 0, 0, 0, 0, 0), (85, .getfield 24, 3, 4, 0, 0), (88, .iload 6, 0, 0, 0, 0), (90, .iaload, 0, 0, 0, 0), (91, .iconst 1, 0, 0, 0, 0),
  (92, .iload 7, 0, 0, 0, 0), (94, .ishl, 0, 0, 0, 0), (95, .ior, 0, 0, 0, 0), (96, .goto 17, 0, 0, 0, 0), (99, .aload_n 0, 0, 0, 0, 0), (100, .getfield 24, 3, 4, 0, 0),
  (103, .iload 6, 0, 0, 0, 0), (105, .iaload, 0, 0, 0, 0), (106, .iconst 1, 0, 0, 0, 0), (107, .iload 7, 0, 0, 0, 0), (109, .ishl, 0, 0, 0, 0), (110, .iconst (-1), 0, 0, 0, 0),
  (111, .ixor, 0, 0, 0, 0), (112, .iand, 0, 0, 0, 0), (113, .iastore, 0, 0, 0, 0), (114, .return_, 0, 0, 0, 0)]
def tSt_setWall : xTb := ((⟨"FirstFelt$State", "setWall", "(LFirstFelt$Town;IIZ)V"⟩, prog_5_method_4_code, 8, none), (0, 0), "FirstFelt$State", false, iSt_setWall)
def iSt_wallOf : List (Nat × xE) := [(0, .aload_n 0, 0, 0, 0, 0), (1, .getfield 24, 3, 4, 0, 0), (4, .iload_n 1, 0, 0, 0, 0), (5, .iaload, 0, 0, 0, 0), (6, .iload_n 2, 0, 0, 0, 0), (7, .invokestatic 76, 110, 1, 6, 1),
  (10, .ishr, 0, 0, 0, 0), (11, .iconst 1, 0, 0, 0, 0), (12, .iand, 0, 0, 0, 0), (13, .ireturn, 0, 0, 0, 0)]
def tSt_wallOf : xTb := ((⟨"FirstFelt$State", "wallOf", "(II)I"⟩, prog_5_method_5_code, 3, (some .int)), (0, 0), "FirstFelt$State", false, iSt_wallOf)
def iSt_countWalls : List (Nat × xE) := [(0, .iconst 0, 0, 0, 0, 0), (1, .istore_n 2, 0, 0, 0, 0), (2, .iconst 0, 0, 0, 0, 0), (3, .istore_n 3, 0, 0, 0, 0), (4, .iload_n 3, 0, 0, 0, 0), (5, .aload_n 1, 0, 0, 0, 0),
  (6, .invokevirtual 86, 64, 1, 5, 1), (9, .if_icmp .ge 25, 0, 0, 0, 0), (12, .iload_n 2, 0, 0, 0, 0), (13, .aload_n 0, 0, 0, 0, 0), (14, .iload_n 3, 0, 0, 0, 0), (15, .iconst 0, 0, 0, 0, 0),
  (16, .invokevirtual 90, 33, 3, 3, 1), (19, .aload_n 0, 0, 0, 0, 0), (20, .iload_n 3, 0, 0, 0, 0), (21, .iconst 1, 0, 0, 0, 0), (22, .invokevirtual 90, 33, 3, 3, 1), (25, .iadd, 0, 0, 0, 0),
  (26, .iadd, 0, 0, 0, 0), (27, .istore_n 2, 0, 0, 0, 0), (28, .iinc 3 1, 0, 0, 0, 0), (31, .goto (-27), 0, 0, 0, 0), (34, .iload_n 2, 0, 0, 0, 0), (35, .ireturn, 0, 0, 0, 0)]
def tSt_countWalls : xTb := ((⟨"FirstFelt$State", "countWalls", "(LFirstFelt$Town;)I"⟩, prog_5_method_6_code, 4, (some .int)), (0, 0), "FirstFelt$State", false, iSt_countWalls)
def iSt_reach : List (Nat × xE) := [(0, .aload_n 0, 0, 0, 0, 0), (1, .getfield 24, 3, 4, 0, 0), (4, .iload_n 2, 0, 0, 0, 0), (5, .iaload, 0, 0, 0, 0), (6, .iload_n 3, 0, 0, 0, 0), (7, .ishr, 0, 0, 0, 0),
  (8, .iconst 1, 0, 0, 0, 0), (9, .iand, 0, 0, 0, 0), (10, .ifCond .eq 7, 0, 0, 0, 0), (13, .iconst (-1), 0, 0, 0, 0), (14, .goto 13, 0, 0, 0, 0), (17, .aload_n 1, 0, 0, 0, 0),
  (18, .getfield 93, 5, 6, 0, 0), (21, .iload_n 2, 0, 0, 0, 0), (22, .iconst 5, 0, 0, 0, 0), (23, .imul, 0, 0, 0, 0), (24, .iload_n 3, 0, 0, 0, 0), (25, .iadd, 0, 0, 0, 0),
  (26, .iaload, 0, 0, 0, 0), (27, .ireturn, 0, 0, 0, 0)]
def tSt_reach : xTb := ((⟨"FirstFelt$State", "reach", "(LFirstFelt$Town;II)I"⟩, prog_5_method_7_code, 4, (some .int)), (0, 0), "FirstFelt$State", false, iSt_reach)
def iSt_peopleOn : List (Nat × xE) := [(0, .iconst 0, 0, 0, 0, 0), (1, .istore_n 3, 0, 0, 0, 0), (2, .iconst 0, 0, 0, 0, 0), (3, .istore 4, 0, 0, 0, 0), (5, .iload 4, 0, 0, 0, 0), (7, .aload_n 1, 0, 0, 0, 0),
  (8, .getfield 96, 5, 5, 0, 0), (11, .if_icmp .ge 27, 0, 0, 0, 0), (14, .aload_n 0, 0, 0, 0, 0), (15, .getfield 33, 3, 7, 0, 0), (18, .iload 4, 0, 0, 0, 0), (20, .iaload, 0, 0, 0, 0),
  (21, .iload_n 2, 0, 0, 0, 0), (22, .if_icmp .ne 10, 0, 0, 0, 0), (25, .iload_n 3, 0, 0, 0, 0), (26, .iconst 1, 0, 0, 0, 0), (27, .iload 4, 0, 0, 0, 0), (29, .ishl, 0, 0, 0, 0),
  (30, .ior, 0, 0, 0, 0), (31, .istore_n 3, 0, 0, 0, 0), (32, .iinc 4 1, 0, 0, 0, 0), (35, .goto (-30), 0, 0, 0, 0), (38, .iload_n 3, 0, 0, 0, 0), (39, .ireturn, 0, 0, 0, 0)]
def tSt_peopleOn : xTb := ((⟨"FirstFelt$State", "peopleOn", "(LFirstFelt$Town;I)I"⟩, prog_5_method_8_code, 5, (some .int)), (0, 0), "FirstFelt$State", false, iSt_peopleOn)
def iSt_countOwned : List (Nat × xE) := [(0, .iconst 0, 0, 0, 0, 0), (1, .istore_n 3, 0, 0, 0, 0), (2, .aload_n 1, 0, 0, 0, 0), (3, .invokevirtual 86, 64, 1, 5, 1), (6, .istore 4, 0, 0, 0, 0), (8, .iconst 0, 0, 0, 0, 0),
  (9, .istore 5, 0, 0, 0, 0), (11, .iload 5, 0, 0, 0, 0), (13, .iload 4, 0, 0, 0, 0), (15, .if_icmp .ge 23, 0, 0, 0, 0), (18, .aload_n 0, 0, 0, 0, 0), (19, .getfield 18, 3, 2, 0, 0),
  (22, .iload 5, 0, 0, 0, 0), (24, .iaload, 0, 0, 0, 0), (25, .iload_n 2, 0, 0, 0, 0), (26, .if_icmp .ne 6, 0, 0, 0, 0), (29, .iinc 3 1, 0, 0, 0, 0), (32, .iinc 5 1, 0, 0, 0, 0),
  (35, .goto (-24), 0, 0, 0, 0), (38, .iload_n 3, 0, 0, 0, 0), (39, .ireturn, 0, 0, 0, 0)]
def tSt_countOwned : xTb := ((⟨"FirstFelt$State", "countOwned", "(LFirstFelt$Town;I)I"⟩, prog_5_method_9_code, 6, (some .int)), (0, 0), "FirstFelt$State", false, iSt_countOwned)
def iSt_canBeLit : List (Nat × xE) := [(0, .aload_n 0, 0, 0, 0, 0), (1, .getfield 30, 3, 6, 0, 0), (4, .iload_n 1, 0, 0, 0, 0), (5, .iaload, 0, 0, 0, 0), (6, .ifCond .ne 16, 0, 0, 0, 0), (9, .aload_n 0, 0, 0, 0, 0),
  (10, .getfield 27, 3, 5, 0, 0), (13, .iload_n 1, 0, 0, 0, 0), (14, .iaload, 0, 0, 0, 0), (15, .ifCond .le 7, 0, 0, 0, 0), (18, .iconst 1, 0, 0, 0, 0), (19, .goto 4, 0, 0, 0, 0),
  (22, .iconst 0, 0, 0, 0, 0), (23, .ireturn, 0, 0, 0, 0)]
def tSt_canBeLit : xTb := ((⟨"FirstFelt$State", "canBeLit", "(I)Z"⟩, prog_5_method_10_code, 2, (some .boolean)), (0, 0), "FirstFelt$State", true, iSt_canBeLit)
def iSt_feels : List (Nat × xE) := [(0, .aload_n 0, 0, 0, 0, 0), (1, .getfield 99, 3, 12, 0, 0), (4, .iload_n 1, 0, 0, 0, 0), (5, .ishr, 0, 0, 0, 0), (6, .iconst 1, 0, 0, 0, 0), (7, .iand, 0, 0, 0, 0),
  (8, .ifCond .eq 7, 0, 0, 0, 0), (11, .iconst 1, 0, 0, 0, 0), (12, .goto 4, 0, 0, 0, 0), (15, .iconst 0, 0, 0, 0, 0), (16, .ireturn, 0, 0, 0, 0)]
def tSt_feels : xTb := ((⟨"FirstFelt$State", "feels", "(I)Z"⟩, prog_5_method_11_code, 2, (some .boolean)), (0, 0), "FirstFelt$State", true, iSt_feels)
def iSt_draw : List (Nat × xE) := [(0, .aload_n 0, 0, 0, 0, 0), (1, .aload_n 0, 0, 0, 0, 0), (2, .getfield 73, 3, 17, 0, 0), (5, .i2l, 0, 0, 0, 0), (6, .ldc2_w 102, 0, 0, 0, 1103515245), (9, .lmul, 0, 0, 0, 0),
  (10, .ldc2_w 104, 0, 0, 0, 12345), (13, .ladd, 0, 0, 0, 0), (14, .ldc2_w 106, 0, 0, 0, 2147483647), (17, .land, 0, 0, 0, 0), (18, .l2i, 0, 0, 0, 0), (19, .putfield 73, 3, 17, 0, 0),
  (22, .iload_n 1, 0, 0, 0, 0), (23, .iconst 1, 0, 0, 0, 0), (24, .if_icmp .ge 7, 0, 0, 0, 0), (27, .iconst 0, 0, 0, 0, 0), (28, .goto 12, 0, 0, 0, 0), (31, .aload_n 0, 0, 0, 0, 0),
  (32, .getfield 73, 3, 17, 0, 0), (35, .ldc 108, 0, 0, 0, 65536), (37, .idiv, 0, 0, 0, 0), (38, .iload_n 1, 0, 0, 0, 0), (39, .irem, 0, 0, 0, 0), (40, .ireturn, 0, 0, 0, 0)]
def tSt_draw : xTb := ((⟨"FirstFelt$State", "draw", "(I)I"⟩, prog_5_method_12_code, 2, (some .int)), (0, 0), "FirstFelt$State", false, iSt_draw)
def iSt_passMinutes : List (Nat × xE) := [(0, .iconst 0, 0, 0, 0, 0), (1, .istore 4, 0, 0, 0, 0), (3, .iload 4, 0, 0, 0, 0), (5, .iload_n 2, 0, 0, 0, 0), (6, .if_icmp .ge 15, 0, 0, 0, 0), (9, .aload_n 0, 0, 0, 0, 0),
  (10, .aload_n 1, 0, 0, 0, 0), (11, .iload_n 3, 0, 0, 0, 0), (12, .invokevirtual 109, 42, 3, 3, 0), (15, .iinc 4 1, 0, 0, 0, 0), (18, .goto (-15), 0, 0, 0, 0), (21, .return_, 0, 0, 0, 0)]
def tSt_passMinutes : xTb := ((⟨"FirstFelt$State", "passMinutes", "(LFirstFelt$Town;II)V"⟩, prog_5_method_13_code, 5, none), (0, 0), "FirstFelt$State", false, iSt_passMinutes)
def iSt_passMinute : List (Nat × xE) := [(0, .aload_n 0, 0, 0, 0, 0), (1, .aload_n 1, 0, 0, 0, 0), (2, .invokevirtual 113, 43, 2, 3, 0), (5, .aload_n 0, 0, 0, 0, 0), (6, .aload_n 1, 0, 0, 0, 0), (7, .invokevirtual 117, 45, 2, 3, 0),
  (10, .aload_n 0, 0, 0, 0, 0), (11, .aload_n 1, 0, 0, 0, 0), (12, .invokevirtual 120, 46, 2, 3, 0), (15, .aload_n 0, 0, 0, 0, 0), (16, .aload_n 1, 0, 0, 0, 0), (17, .iload_n 2, 0, 0, 0, 0),
  (18, .invokevirtual 123, 47, 3, 3, 0), (21, .aload_n 0, 0, 0, 0, 0), (22, .aload_n 1, 0, 0, 0, 0), (23, .invokevirtual 126, 48, 2, 3, 0), (26, .aload_n 0, 0, 0, 0, 0), (27, .aload_n 1, 0, 0, 0, 0),
  (28, .invokevirtual 129, 50, 2, 3, 0), (31, .aload_n 0, 0, 0, 0, 0), (32, .aload_n 1, 0, 0, 0, 0), (33, .invokevirtual 132, 54, 2, 3, 0), (36, .aload_n 0, 0, 0, 0, 0), (37, .aload_n 1, 0, 0, 0, 0),
  (38, .invokevirtual 135, 55, 2, 3, 0), (41, .aload_n 0, 0, 0, 0, 0), (42, .dup, 0, 0, 0, 0), (43, .getfield 64, 3, 16, 0, 0), (46, .iconst 1, 0, 0, 0, 0), (47, .iadd, 0, 0, 0, 0),
  (48, .putfield 64, 3, 16, 0, 0), (51, .return_, 0, 0, 0, 0)]
def tSt_passMinute : xTb := ((⟨"FirstFelt$State", "passMinute", "(LFirstFelt$Town;I)V"⟩, prog_5_method_14_code, 3, none), (0, 0), "FirstFelt$State", false, iSt_passMinute)
def iSt_flow : List (Nat × xE) := [(0, .aload_n 1, 0, 0, 0, 0), (1, .invokevirtual 86, 64, 1, 5, 1), (4, .istore_n 2, 0, 0, 0, 0), (5, .aload_n 0, 0, 0, 0, 0), (6, .getfield 9, 3, 0, 0, 0), (9, .iconst 0, 0, 0, 0, 0),
  (10, .aload_n 0, 0, 0, 0, 0), (11, .getfield 15, 3, 1, 0, 0), (14, .iconst 0, 0, 0, 0, 0), (15, .iload_n 2, 0, 0, 0, 0), (16, .invokestatic 67, 0, 5, 0, 4), (19, .iconst 0, 0, 0, 0, 0),
  (20, .istore_n 3, 0, 0, 0, 0), (21, .iload_n 3, 0, 0, 0, 0), (22, .iload_n 2, 0, 0, 0, 0), (23, .if_icmp .ge 33, 0, 0, 0, 0), (26, .aload_n 0, 0, 0, 0, 0), (27, .iload_n 3, 0, 0, 0, 0),
  (28, .aload_n 0, 0, 0, 0, 0), (29, .aload_n 1, 0, 0, 0, 0), (30, .iload_n 3, 0, 0, 0, 0), (31, .iconst 2, 0, 0, 0, 0), (32, .invokevirtual 138, 35, 4, 3, 1), (35, .invokevirtual 142, 44, 3, 3, 0),
  (38, .aload_n 0, 0, 0, 0, 0), (39, .iload_n 3, 0, 0, 0, 0), (40, .aload_n 0, 0, 0, 0, 0), (41, .aload_n 1, 0, 0, 0, 0), (42, .iload_n 3, 0, 0, 0, 0), (43, .iconst 3, 0, 0, 0, 0),
  (44, .invokevirtual 138, 35, 4, 3, 1), (47, .invokevirtual 142, 44, 3, 3, 0), (50, .iinc 3 1, 0, 0, 0, 0), (53, .goto (-32), 0, 0, 0, 0), (56, .aload_n 0, 0, 0, 0, 0), (57, .getfield 15, 3, 1, 0, 0),
  (60, .iconst 0, 0, 0, 0, 0), (61, .aload_n 0, 0, 0, 0, 0), (62, .getfield 9, 3, 0, 0, 0), (65, .iconst 0, 0, 0, 0, 0), (66, .iload_n 2, 0, 0, 0, 0), (67, .invokestatic 67, 0, 5, 0, 4),
  (70, .return_, 0, 0, 0, 0)]
def tSt_flow : xTb := ((⟨"FirstFelt$State", "flow", "(LFirstFelt$Town;)V"⟩, prog_5_method_15_code, 4, none), (0, 0), "FirstFelt$State", false, iSt_flow)
def iSt_flowBetween : List (Nat × xE) := [(0, .iload_n 2, 0, 0, 0, 0), (1, .iconst (-1), 0, 0, 0, 0), (2, .if_icmp .eq 40, 0, 0, 0, 0), (5, .aload_n 0, 0, 0, 0, 0), (6, .getfield 9, 3, 0, 0, 0), (9, .iload_n 2, 0, 0, 0, 0),
  (10, .iaload, 0, 0, 0, 0), (11, .aload_n 0, 0, 0, 0, 0), (12, .getfield 9, 3, 0, 0, 0), (15, .iload_n 1, 0, 0, 0, 0), (16, .iaload, 0, 0, 0, 0), (17, .isub, 0, 0, 0, 0),
  (18, .bipush 8, 0, 0, 0, 0), (20, .idiv, 0, 0, 0, 0), (21, .istore_n 3, 0, 0, 0, 0), (22, .aload_n 0, 0, 0, 0, 0), (23, .getfield 15, 3, 1, 0, 0), (26, .iload_n 1, 0, 0, 0, 0),
  (27, .dup2, 0, 0, 0, 0), (28, .iaload, 0, 0, 0, 0), (29, .iload_n 3, 0, 0, 0, 0), (30, .iadd, 0, 0, 0, 0), (31, .iastore, 0, 0, 0, 0), (32, .aload_n 0, 0, 0, 0, 0),
  (33, .getfield 15, 3, 1, 0, 0), (36, .iload_n 2, 0, 0, 0, 0), (37, .dup2, 0, 0, 0, 0), (38, .iaload, 0, 0, 0, 0), (39, .iload_n 3, 0, 0, 0, 0), (40, .isub, 0, 0, 0, 0),
  (41, .iastore, 0, 0, 0, 0), (42, .return_, 0, 0, 0, 0)]
def tSt_flowBetween : xTb := ((⟨"FirstFelt$State", "flowBetween", "(II)V"⟩, prog_5_method_16_code, 4, none), (0, 0), "FirstFelt$State", false, iSt_flowBetween)
def iSt_addWarmth : List (Nat × xE) := [(0, .iconst 0, 0, 0, 0, 0), (1, .istore_n 2, 0, 0, 0, 0), (2, .iload_n 2, 0, 0, 0, 0), (3, .aload_n 1, 0, 0, 0, 0), (4, .getfield 146, 5, 2, 0, 0), (7, .if_icmp .ge 68, 0, 0, 0, 0),
  (10, .aload_n 0, 0, 0, 0, 0), (11, .getfield 30, 3, 6, 0, 0), (14, .iload_n 2, 0, 0, 0, 0), (15, .iaload, 0, 0, 0, 0), (16, .ifCond .eq 53, 0, 0, 0, 0), (19, .aload_n 0, 0, 0, 0, 0),
  (20, .getfield 9, 3, 0, 0, 0), (23, .aload_n 1, 0, 0, 0, 0), (24, .getfield 149, 5, 9, 0, 0), (27, .iload_n 2, 0, 0, 0, 0), (28, .iaload, 0, 0, 0, 0), (29, .dup2, 0, 0, 0, 0),
  (30, .iaload, 0, 0, 0, 0), (31, .aload_n 1, 0, 0, 0, 0), (32, .getfield 152, 5, 10, 0, 0), (35, .iload_n 2, 0, 0, 0, 0), (36, .iaload, 0, 0, 0, 0), (37, .iadd, 0, 0, 0, 0),
  (38, .iastore, 0, 0, 0, 0), (39, .aload_n 0, 0, 0, 0, 0), (40, .getfield 27, 3, 5, 0, 0), (43, .iload_n 2, 0, 0, 0, 0), (44, .dup2, 0, 0, 0, 0), (45, .iaload, 0, 0, 0, 0),
  (46, .iconst 1, 0, 0, 0, 0), (47, .isub, 0, 0, 0, 0), (48, .iastore, 0, 0, 0, 0), (49, .aload_n 0, 0, 0, 0, 0), (50, .getfield 30, 3, 6, 0, 0), (53, .iload_n 2, 0, 0, 0, 0),
  (54, .aload_n 0, 0, 0, 0, 0), (55, .getfield 27, 3, 5, 0, 0), (58, .iload_n 2, 0, 0, 0, 0), (59, .iaload, 0, 0, 0, 0), (60, .ifCond .le 7, 0, 0, 0, 0), (63, .iconst 1, 0, 0, 0, 0),
  (64, .goto 4, 0, 0, 0, 0), (67, .iconst 0, 0, 0, 0, 0), (68, .iastore, 0, 0, 0, 0), (69, .iinc 2 1, 0, 0, 0, 0), (72, .goto (-70), 0, 0, 0, 0), (75, .iconst 0, 0, 0, 0, 0),
  (76, .istore_n 2, 0, 0, 0, 0), (77, .iload_n 2, 0, 0, 0, 0), (78, .aload_n 1, 0, 0, 0, 0), (79, .getfield 96, 5, 5, 0, 0), (82, .if_icmp .ge 29, 0, 0, 0, 0), (85, .aload_n 0, 0, 0, 0, 0),
  (86, .getfield 9, 3, 0, 0, 0), (89, .aload_n 0, 0, 0, 0, 0), (90, .getfield 33, 3, 7, 0, 0), (93, .iload_n 2, 0, 0, 0, 0), (94, .iaload, 0, 0, 0, 0), (95, .dup2, 0, 0, 0, 0),
  (96, .iaload, 0, 0, 0, 0), (97, .aload_n 1, 0, 0, 0, 0), (98, .getfield 155, 5, 12, 0, 0), (101, .iload_n 2, 0, 0, 0, 0), (102, .iaload, 0, 0, 0, 0), (103, .iadd, 0, 0, 0, 0),
  (104, .iastore, 0, 0, 0, 0), (105, .iinc 2 1, 0, 0, 0, 0), (108, .goto (-31), 0, 0, 0, 0), (111, .return_, 0, 0, 0, 0)]
def tSt_addWarmth : xTb := ((⟨"FirstFelt$State", "addWarmth", "(LFirstFelt$Town;)V"⟩, prog_5_method_17_code, 3, none), (0, 0), "FirstFelt$State", false, iSt_addWarmth)
def iSt_coolDown : List (Nat × xE) := [(0, .aload_n 1, 0, 0, 0, 0), (1, .invokevirtual 86, 64, 1, 5, 1), (4, .istore_n 2, 0, 0, 0, 0), (5, .aload_n 1, 0, 0, 0, 0), (6, .aload_n 0, 0, 0, 0, 0), (7, .getfield 64, 3, 16, 0, 0),
  (10, .invokevirtual 158, 69, 2, 5, 1), (13, .istore_n 3, 0, 0, 0, 0), (14, .iconst 0, 0, 0, 0, 0), (15, .istore 4, 0, 0, 0, 0), (17, .iload 4, 0, 0, 0, 0), (19, .iload_n 2, 0, 0, 0, 0),
  (20, .if_icmp .ge 61, 0, 0, 0, 0), (23, .aload_n 1, 0, 0, 0, 0), (24, .getfield 161, 5, 7, 0, 0), (27, .iload 4, 0, 0, 0, 0), (29, .iaload, 0, 0, 0, 0), (30, .ifCond .eq 13, 0, 0, 0, 0),
  (33, .aload_n 0, 0, 0, 0, 0), (34, .getfield 9, 3, 0, 0, 0), (37, .iload 4, 0, 0, 0, 0), (39, .iaload, 0, 0, 0, 0), (40, .goto 12, 0, 0, 0, 0), (43, .aload_n 0, 0, 0, 0, 0),
  (44, .getfield 9, 3, 0, 0, 0), (47, .iload 4, 0, 0, 0, 0), (49, .iaload, 0, 0, 0, 0), (50, .iload_n 3, 0, 0, 0, 0), (51, .iadd, 0, 0, 0, 0), (52, .istore 5, 0, 0, 0, 0),
  (54, .aload_n 0, 0, 0, 0, 0), (55, .getfield 9, 3, 0, 0, 0), (58, .iload 4, 0, 0, 0, 0), (60, .sipush 999, 0, 0, 0, 0), (63, .iload 5, 0, 0, 0, 0), (65, .iload 5, 0, 0, 0, 0),
  (67, .bipush 50, 0, 0, 0, 0), (69, .idiv, 0, 0, 0, 0), (70, .isub, 0, 0, 0, 0), (71, .invokestatic 164, 0, 2, 0, 6), (74, .iastore, 0, 0, 0, 0), (75, .iinc 4 1, 0, 0, 0, 0),
  (78, .goto (-61), 0, 0, 0, 0), (81, .return_, 0, 0, 0, 0)]
def tSt_coolDown : xTb := ((⟨"FirstFelt$State", "coolDown", "(LFirstFelt$Town;)V"⟩, prog_5_method_18_code, 6, none), (0, 0), "FirstFelt$State", false, iSt_coolDown)
def iSt_feel : List (Nat × xE) := [(0, .aload_n 0, 0, 0, 0, 0), (1, .iconst 0, 0, 0, 0, 0), (2, .putfield 99, 3, 12, 0, 0), (5, .iconst 0, 0, 0, 0, 0), (6, .istore_n 3, 0, 0, 0, 0), (7, .iload_n 3, 0, 0, 0, 0),
  (8, .aload_n 1, 0, 0, 0, 0), (9, .getfield 96, 5, 5, 0, 0), (12, .if_icmp .ge 53, 0, 0, 0, 0), (15, .iload_n 3, 0, 0, 0, 0), (16, .iload_n 2, 0, 0, 0, 0), (17, .if_icmp .eq 42, 0, 0, 0, 0),
  (20, .aload_n 0, 0, 0, 0, 0), (21, .getfield 9, 3, 0, 0, 0), (24, .aload_n 0, 0, 0, 0, 0), (25, .getfield 33, 3, 7, 0, 0), (28, .iload_n 3, 0, 0, 0, 0), (29, .iaload, 0, 0, 0, 0),
  (30, .iaload, 0, 0, 0, 0), (31, .aload_n 0, 0, 0, 0, 0), (32, .getfield 36, 3, 8, 0, 0), (35, .iload_n 3, 0, 0, 0, 0), (36, .iaload, 0, 0, 0, 0), (37, .aload_n 1, 0, 0, 0, 0),
  (38, .getfield 169, 5, 11, 0, 0), (41, .iload_n 3, 0, 0, 0, 0), (42, .iaload, 0, 0, 0, 0), (43, .iadd, 0, 0, 0, 0), (44, .if_icmp .lt 15, 0, 0, 0, 0), (47, .aload_n 0, 0, 0, 0, 0),
  (48, .dup, 0, 0, 0, 0), (49, .getfield 99, 3, 12, 0, 0), (52, .iconst 1, 0, 0, 0, 0), (53, .iload_n 3, 0, 0, 0, 0), (54, .ishl, 0, 0, 0, 0), (55, .ior, 0, 0, 0, 0),
  (56, .putfield 99, 3, 12, 0, 0), (59, .iinc 3 1, 0, 0, 0, 0), (62, .goto (-55), 0, 0, 0, 0), (65, .return_, 0, 0, 0, 0)]
def tSt_feel : xTb := ((⟨"FirstFelt$State", "feel", "(LFirstFelt$Town;I)V"⟩, prog_5_method_19_code, 4, none), (0, 0), "FirstFelt$State", false, iSt_feel)
def iSt_takeCells : List (Nat × xE) := [(0, .iconst 0, 0, 0, 0, 0), (1, .istore_n 2, 0, 0, 0, 0), (2, .iload_n 2, 0, 0, 0, 0), (3, .aload_n 1, 0, 0, 0, 0), (4, .getfield 96, 5, 5, 0, 0), (7, .if_icmp .ge 74, 0, 0, 0, 0),
  (10, .aload_n 0, 0, 0, 0, 0), (11, .getfield 33, 3, 7, 0, 0), (14, .iload_n 2, 0, 0, 0, 0), (15, .iaload, 0, 0, 0, 0), (16, .istore_n 3, 0, 0, 0, 0), (17, .aload_n 0, 0, 0, 0, 0),
  (18, .iload_n 2, 0, 0, 0, 0), (19, .invokevirtual 172, 39, 2, 3, 1), (22, .ifCond .eq 25, 0, 0, 0, 0), (25, .aload_n 0, 0, 0, 0, 0), (26, .getfield 18, 3, 2, 0, 0), (29, .iload_n 3, 0, 0, 0, 0),
  (30, .iaload, 0, 0, 0, 0), (31, .iconst (-1), 0, 0, 0, 0), (32, .if_icmp .ne 15, 0, 0, 0, 0), (35, .aload_n 0, 0, 0, 0, 0), (36, .getfield 18, 3, 2, 0, 0), (39, .iload_n 3, 0, 0, 0, 0),
  (40, .aload_n 0, 0, 0, 0, 0), (41, .aload_n 1, 0, 0, 0, 0), (42, .iload_n 3, 0, 0, 0, 0), (43, .invokevirtual 176, 49, 3, 3, 1), (46, .iastore, 0, 0, 0, 0), (47, .aload_n 0, 0, 0, 0, 0),
  (48, .iload_n 2, 0, 0, 0, 0), (49, .invokevirtual 172, 39, 2, 3, 1), (52, .ifCond .eq 23, 0, 0, 0, 0), (55, .aload_n 0, 0, 0, 0, 0), (56, .getfield 18, 3, 2, 0, 0), (59, .iload_n 3, 0, 0, 0, 0),
  (60, .iaload, 0, 0, 0, 0), (61, .iload_n 2, 0, 0, 0, 0), (62, .if_icmp .ne 13, 0, 0, 0, 0), (65, .aload_n 0, 0, 0, 0, 0), (66, .getfield 21, 3, 3, 0, 0), (69, .iload_n 3, 0, 0, 0, 0),
  (70, .aload_n 0, 0, 0, 0, 0), (71, .getfield 64, 3, 16, 0, 0), (74, .iastore, 0, 0, 0, 0), (75, .iinc 2 1, 0, 0, 0, 0), (78, .goto (-76), 0, 0, 0, 0), (81, .return_, 0, 0, 0, 0)]
def tSt_takeCells : xTb := ((⟨"FirstFelt$State", "takeCells", "(LFirstFelt$Town;)V"⟩, prog_5_method_20_code, 4, none), (0, 0), "FirstFelt$State", false, iSt_takeCells)
def iSt_coldestFeeling : List (Nat × xE) := [(0, .iconst (-1), 0, 0, 0, 0), (1, .istore_n 3, 0, 0, 0, 0), (2, .iconst 0, 0, 0, 0, 0), (3, .istore 4, 0, 0, 0, 0), (5, .iload 4, 0, 0, 0, 0), (7, .aload_n 1, 0, 0, 0, 0),
  (8, .getfield 96, 5, 5, 0, 0), (11, .if_icmp .ge 53, 0, 0, 0, 0), (14, .aload_n 0, 0, 0, 0, 0), (15, .iload 4, 0, 0, 0, 0), (17, .invokevirtual 172, 39, 2, 3, 1), (20, .ifCond .eq 38, 0, 0, 0, 0),
  (23, .aload_n 0, 0, 0, 0, 0), (24, .getfield 33, 3, 7, 0, 0), (27, .iload 4, 0, 0, 0, 0), (29, .iaload, 0, 0, 0, 0), (30, .iload_n 2, 0, 0, 0, 0), (31, .if_icmp .ne 27, 0, 0, 0, 0),
  (34, .iload_n 3, 0, 0, 0, 0), (35, .iconst (-1), 0, 0, 0, 0), (36, .if_icmp .eq 19, 0, 0, 0, 0), (39, .aload_n 0, 0, 0, 0, 0), (40, .getfield 36, 3, 8, 0, 0), (43, .iload 4, 0, 0, 0, 0),
  (45, .iaload, 0, 0, 0, 0), (46, .aload_n 0, 0, 0, 0, 0), (47, .getfield 36, 3, 8, 0, 0), (50, .iload_n 3, 0, 0, 0, 0), (51, .iaload, 0, 0, 0, 0), (52, .if_icmp .ge 6, 0, 0, 0, 0),
  (55, .iload 4, 0, 0, 0, 0), (57, .istore_n 3, 0, 0, 0, 0), (58, .iinc 4 1, 0, 0, 0, 0), (61, .goto (-56), 0, 0, 0, 0), (64, .iload_n 3, 0, 0, 0, 0), (65, .ireturn, 0, 0, 0, 0)]
def tSt_coldestFeeling : xTb := ((⟨"FirstFelt$State", "coldestFeeling", "(LFirstFelt$Town;I)I"⟩, prog_5_method_21_code, 5, (some .int)), (0, 0), "FirstFelt$State", false, iSt_coldestFeeling)
def iSt_keepLaw : List (Nat × xE) := [(0, .aload_n 0, 0, 0, 0, 0), (1, .getfield 61, 3, 14, 0, 0), (4, .iconst 1, 0, 0, 0, 0), (5, .if_icmp .eq 11, 0, 0, 0, 0), (8, .aload_n 0, 0, 0, 0, 0), (9, .getfield 61, 3, 14, 0, 0),
  (12, .iconst 2, 0, 0, 0, 0), (13, .if_icmp .ne 11, 0, 0, 0, 0), (16, .aload_n 0, 0, 0, 0, 0), (17, .aload_n 1, 0, 0, 0, 0), (18, .invokevirtual 180, 51, 2, 3, 0), (21, .goto 16, 0, 0, 0, 0),
  (24, .aload_n 0, 0, 0, 0, 0), (25, .getfield 61, 3, 14, 0, 0), (28, .iconst 3, 0, 0, 0, 0), (29, .if_icmp .ne 8, 0, 0, 0, 0), (32, .aload_n 0, 0, 0, 0, 0), (33, .aload_n 1, 0, 0, 0, 0),
  (34, .invokevirtual 183, 52, 2, 3, 0), (37, .return_, 0, 0, 0, 0)]
def tSt_keepLaw : xTb := ((⟨"FirstFelt$State", "keepLaw", "(LFirstFelt$Town;)V"⟩, prog_5_method_22_code, 2, none), (0, 0), "FirstFelt$State", false, iSt_keepLaw)
def iSt_endOwning : List (Nat × xE) := [(0, .aload_n 1, 0, 0, 0, 0), (1, .invokevirtual 86, 64, 1, 5, 1), (4, .istore_n 2, 0, 0, 0, 0), (5, .iconst 0, 0, 0, 0, 0), (6, .istore_n 3, 0, 0, 0, 0), (7, .iload_n 3, 0, 0, 0, 0),
  (8, .iload_n 2, 0, 0, 0, 0), (9, .if_icmp .ge 87, 0, 0, 0, 0), (12, .aload_n 0, 0, 0, 0, 0), (13, .getfield 18, 3, 2, 0, 0), (16, .iload_n 3, 0, 0, 0, 0), (17, .iaload, 0, 0, 0, 0),
  (18, .iconst (-1), 0, 0, 0, 0), (19, .if_icmp .eq 71, 0, 0, 0, 0), (22, .aload_n 0, 0, 0, 0, 0), (23, .getfield 61, 3, 14, 0, 0), (26, .iconst 1, 0, 0, 0, 0), (27, .if_icmp .ne 29, 0, 0, 0, 0),
  (30, .aload_n 0, 0, 0, 0, 0), (31, .getfield 64, 3, 16, 0, 0), (34, .aload_n 0, 0, 0, 0, 0), (35, .getfield 21, 3, 3, 0, 0), (38, .iload_n 3, 0, 0, 0, 0), (39, .iaload, 0, 0, 0, 0),
  (40, .isub, 0, 0, 0, 0), (41, .aload_n 0, 0, 0, 0, 0), (42, .getfield 48, 3, 15, 0, 0), (45, .if_icmp .gt 7, 0, 0, 0, 0), (48, .iconst 1, 0, 0, 0, 0), (49, .goto 27, 0, 0, 0, 0),
  (52, .iconst 0, 0, 0, 0, 0), (53, .goto 23, 0, 0, 0, 0), (56, .aload_n 0, 0, 0, 0, 0), (57, .getfield 33, 3, 7, 0, 0), (60, .aload_n 0, 0, 0, 0, 0), (61, .getfield 18, 3, 2, 0, 0),
  (64, .iload_n 3, 0, 0, 0, 0), (65, .iaload, 0, 0, 0, 0), (66, .iaload, 0, 0, 0, 0), (67, .iload_n 3, 0, 0, 0, 0), (68, .if_icmp .ne 7, 0, 0, 0, 0), (71, .iconst 1, 0, 0, 0, 0),
  (72, .goto 4, 0, 0, 0, 0), (75, .iconst 0, 0, 0, 0, 0), (76, .istore 4, 0, 0, 0, 0), (78, .iload 4, 0, 0, 0, 0), (80, .ifCond .ne 10, 0, 0, 0, 0), (83, .aload_n 0, 0, 0, 0, 0),
  (84, .getfield 18, 3, 2, 0, 0), (87, .iload_n 3, 0, 0, 0, 0), (88, .iconst (-1), 0, 0, 0, 0), (89, .iastore, 0, 0, 0, 0), (90, .iinc 3 1, 0, 0, 0, 0), (93, .goto (-86), 0, 0, 0, 0),
  (96, .return_, 0, 0, 0, 0)]
def tSt_endOwning : xTb := ((⟨"FirstFelt$State", "endOwning", "(LFirstFelt$Town;)V"⟩, prog_5_method_23_code, 5, none), (0, 0), "FirstFelt$State", false, iSt_endOwning)
def iSt_makePartners : List (Nat × xE) := [(0, .iconst 0, 0, 0, 0, 0), (1, .istore_n 2, 0, 0, 0, 0), (2, .iload_n 2, 0, 0, 0, 0), (3, .aload_n 1, 0, 0, 0, 0), (4, .getfield 96, 5, 5, 0, 0), (7, .if_icmp .ge 63, 0, 0, 0, 0),
  (10, .aload_n 0, 0, 0, 0, 0), (11, .getfield 18, 3, 2, 0, 0), (14, .aload_n 0, 0, 0, 0, 0), (15, .getfield 33, 3, 7, 0, 0), (18, .iload_n 2, 0, 0, 0, 0), (19, .iaload, 0, 0, 0, 0),
  (20, .iaload, 0, 0, 0, 0), (21, .istore_n 3, 0, 0, 0, 0), (22, .aload_n 0, 0, 0, 0, 0), (23, .iload_n 2, 0, 0, 0, 0), (24, .invokevirtual 172, 39, 2, 3, 1), (27, .ifCond .eq 37, 0, 0, 0, 0),
  (30, .iload_n 3, 0, 0, 0, 0), (31, .iconst (-1), 0, 0, 0, 0), (32, .if_icmp .eq 32, 0, 0, 0, 0), (35, .iload_n 3, 0, 0, 0, 0), (36, .iload_n 2, 0, 0, 0, 0), (37, .if_icmp .eq 27, 0, 0, 0, 0),
  (40, .aload_n 0, 0, 0, 0, 0), (41, .getfield 45, 3, 11, 0, 0), (44, .iload_n 2, 0, 0, 0, 0), (45, .dup2, 0, 0, 0, 0), (46, .iaload, 0, 0, 0, 0), (47, .iconst 1, 0, 0, 0, 0),
  (48, .iload_n 3, 0, 0, 0, 0), (49, .ishl, 0, 0, 0, 0), (50, .ior, 0, 0, 0, 0), (51, .iastore, 0, 0, 0, 0), (52, .aload_n 0, 0, 0, 0, 0), (53, .getfield 45, 3, 11, 0, 0),
  (56, .iload_n 3, 0, 0, 0, 0), (57, .dup2, 0, 0, 0, 0), (58, .iaload, 0, 0, 0, 0), (59, .iconst 1, 0, 0, 0, 0), (60, .iload_n 2, 0, 0, 0, 0), (61, .ishl, 0, 0, 0, 0),
  (62, .ior, 0, 0, 0, 0), (63, .iastore, 0, 0, 0, 0), (64, .iinc 2 1, 0, 0, 0, 0), (67, .goto (-65), 0, 0, 0, 0), (70, .return_, 0, 0, 0, 0)]
def tSt_makePartners : xTb := ((⟨"FirstFelt$State", "makePartners", "(LFirstFelt$Town;)V"⟩, prog_5_method_24_code, 4, none), (0, 0), "FirstFelt$State", false, iSt_makePartners)
def iSt_isDear : List (Nat × xE) := [(0, .aload_n 0, 0, 0, 0, 0), (1, .getfield 18, 3, 2, 0, 0), (4, .iload_n 2, 0, 0, 0, 0), (5, .iaload, 0, 0, 0, 0), (6, .istore_n 3, 0, 0, 0, 0), (7, .aload_n 0, 0, 0, 0, 0),
  (8, .getfield 9, 3, 0, 0, 0), (11, .iload_n 2, 0, 0, 0, 0), (12, .iaload, 0, 0, 0, 0), (13, .bipush 50, 0, 0, 0, 0), (15, .if_icmp .lt 30, 0, 0, 0, 0), (18, .iload_n 3, 0, 0, 0, 0),
  (19, .iconst (-1), 0, 0, 0, 0), (20, .if_icmp .eq 25, 0, 0, 0, 0), (23, .iload_n 3, 0, 0, 0, 0), (24, .iload_n 1, 0, 0, 0, 0), (25, .if_icmp .eq 20, 0, 0, 0, 0), (28, .aload_n 0, 0, 0, 0, 0),
  (29, .getfield 45, 3, 11, 0, 0), (32, .iload_n 1, 0, 0, 0, 0), (33, .iaload, 0, 0, 0, 0), (34, .iload_n 3, 0, 0, 0, 0), (35, .ishr, 0, 0, 0, 0), (36, .iconst 1, 0, 0, 0, 0),
  (37, .iand, 0, 0, 0, 0), (38, .ifCond .ne 7, 0, 0, 0, 0), (41, .iconst 1, 0, 0, 0, 0), (42, .goto 4, 0, 0, 0, 0), (45, .iconst 0, 0, 0, 0, 0), (46, .ireturn, 0, 0, 0, 0)]
def tSt_isDear : xTb := ((⟨"FirstFelt$State", "isDear", "(II)Z"⟩, prog_5_method_25_code, 4, (some .boolean)), (0, 0), "FirstFelt$State", true, iSt_isDear)
def iSt_oweForWarmth : List (Nat × xE) := [(0, .iconst 0, 0, 0, 0, 0), (1, .istore_n 2, 0, 0, 0, 0), (2, .iload_n 2, 0, 0, 0, 0), (3, .aload_n 1, 0, 0, 0, 0), (4, .getfield 96, 5, 5, 0, 0), (7, .if_icmp .ge 73, 0, 0, 0, 0),
  (10, .aload_n 0, 0, 0, 0, 0), (11, .iload_n 2, 0, 0, 0, 0), (12, .aload_n 0, 0, 0, 0, 0), (13, .getfield 33, 3, 7, 0, 0), (16, .iload_n 2, 0, 0, 0, 0), (17, .iaload, 0, 0, 0, 0),
  (18, .invokevirtual 186, 53, 3, 3, 1), (21, .ifCond .eq 53, 0, 0, 0, 0), (24, .aload_n 0, 0, 0, 0, 0), (25, .getfield 18, 3, 2, 0, 0), (28, .aload_n 0, 0, 0, 0, 0), (29, .getfield 33, 3, 7, 0, 0),
  (32, .iload_n 2, 0, 0, 0, 0), (33, .iaload, 0, 0, 0, 0), (34, .iaload, 0, 0, 0, 0), (35, .istore_n 3, 0, 0, 0, 0), (36, .aload_n 0, 0, 0, 0, 0), (37, .getfield 39, 3, 9, 0, 0),
  (40, .iload_n 2, 0, 0, 0, 0), (41, .ldc 190, 0, 0, 0, 999999), (43, .aload_n 0, 0, 0, 0, 0), (44, .getfield 39, 3, 9, 0, 0), (47, .iload_n 2, 0, 0, 0, 0), (48, .iaload, 0, 0, 0, 0),
  (49, .iconst 1, 0, 0, 0, 0), (50, .iadd, 0, 0, 0, 0), (51, .invokestatic 164, 0, 2, 0, 6), (54, .iastore, 0, 0, 0, 0), (55, .aload_n 0, 0, 0, 0, 0), (56, .getfield 42, 3, 10, 0, 0),
  (59, .iload_n 3, 0, 0, 0, 0), (60, .ldc 190, 0, 0, 0, 999999), (62, .aload_n 0, 0, 0, 0, 0), (63, .getfield 42, 3, 10, 0, 0), (66, .iload_n 3, 0, 0, 0, 0), (67, .iaload, 0, 0, 0, 0),
  (68, .iconst 1, 0, 0, 0, 0), (69, .iadd, 0, 0, 0, 0), (70, .invokestatic 164, 0, 2, 0, 6), (73, .iastore, 0, 0, 0, 0), (74, .iinc 2 1, 0, 0, 0, 0), (77, .goto (-75), 0, 0, 0, 0),
  (80, .return_, 0, 0, 0, 0)]
def tSt_oweForWarmth : xTb := ((⟨"FirstFelt$State", "oweForWarmth", "(LFirstFelt$Town;)V"⟩, prog_5_method_26_code, 4, none), (0, 0), "FirstFelt$State", false, iSt_oweForWarmth)
def iSt_warmSkins : List (Nat × xE) := [(0, .iconst 0, 0, 0, 0, 0), (1, .istore_n 2, 0, 0, 0, 0), (2, .iload_n 2, 0, 0, 0, 0), (3, .aload_n 1, 0, 0, 0, 0), (4, .getfield 96, 5, 5, 0, 0), (7, .if_icmp .ge 61, 0, 0, 0, 0),
  (10, .aload_n 0, 0, 0, 0, 0), (11, .getfield 36, 3, 8, 0, 0), (14, .iload_n 2, 0, 0, 0, 0), (15, .dup2, 0, 0, 0, 0), (16, .iaload, 0, 0, 0, 0), (17, .aload_n 0, 0, 0, 0, 0),
  (18, .getfield 9, 3, 0, 0, 0), (21, .aload_n 0, 0, 0, 0, 0), (22, .getfield 33, 3, 7, 0, 0), (25, .iload_n 2, 0, 0, 0, 0), (26, .iaload, 0, 0, 0, 0), (27, .iaload, 0, 0, 0, 0),
  (28, .aload_n 0, 0, 0, 0, 0), (29, .getfield 36, 3, 8, 0, 0), (32, .iload_n 2, 0, 0, 0, 0), (33, .iaload, 0, 0, 0, 0), (34, .isub, 0, 0, 0, 0), (35, .iconst 4, 0, 0, 0, 0),
  (36, .idiv, 0, 0, 0, 0), (37, .iadd, 0, 0, 0, 0), (38, .iastore, 0, 0, 0, 0), (39, .aload_n 0, 0, 0, 0, 0), (40, .getfield 36, 3, 8, 0, 0), (43, .iload_n 2, 0, 0, 0, 0),
  (44, .iaload, 0, 0, 0, 0), (45, .bipush 20, 0, 0, 0, 0), (47, .if_icmp .ge 15, 0, 0, 0, 0), (50, .aload_n 0, 0, 0, 0, 0), (51, .dup, 0, 0, 0, 0), (52, .getfield 58, 3, 13, 0, 0),
  (55, .iconst 1, 0, 0, 0, 0), (56, .iload_n 2, 0, 0, 0, 0), (57, .ishl, 0, 0, 0, 0), (58, .ior, 0, 0, 0, 0), (59, .putfield 58, 3, 13, 0, 0), (62, .iinc 2 1, 0, 0, 0, 0),
  (65, .goto (-63), 0, 0, 0, 0), (68, .return_, 0, 0, 0, 0)]
def tSt_warmSkins : xTb := ((⟨"FirstFelt$State", "warmSkins", "(LFirstFelt$Town;)V"⟩, prog_5_method_27_code, 3, none), (0, 0), "FirstFelt$State", false, iSt_warmSkins)
def iSt_leaveDearCells : List (Nat × xE) := [(0, .iconst 0, 0, 0, 0, 0), (1, .istore_n 2, 0, 0, 0, 0), (2, .iload_n 2, 0, 0, 0, 0), (3, .aload_n 1, 0, 0, 0, 0), (4, .getfield 96, 5, 5, 0, 0), (7, .if_icmp .ge 35, 0, 0, 0, 0),
  (10, .aload_n 0, 0, 0, 0, 0), (11, .iload_n 2, 0, 0, 0, 0), (12, .aload_n 0, 0, 0, 0, 0), (13, .getfield 33, 3, 7, 0, 0), (16, .iload_n 2, 0, 0, 0, 0), (17, .iaload, 0, 0, 0, 0),
  (18, .invokevirtual 186, 53, 3, 3, 1), (21, .ifCond .eq 15, 0, 0, 0, 0), (24, .aload_n 0, 0, 0, 0, 0), (25, .getfield 33, 3, 7, 0, 0), (28, .iload_n 2, 0, 0, 0, 0), (29, .aload_n 0, 0, 0, 0, 0),
  (30, .aload_n 1, 0, 0, 0, 0), (31, .iload_n 2, 0, 0, 0, 0), (32, .invokevirtual 191, 57, 3, 3, 1), (35, .iastore, 0, 0, 0, 0), (36, .iinc 2 1, 0, 0, 0, 0), (39, .goto (-37), 0, 0, 0, 0),
  (42, .return_, 0, 0, 0, 0)]
def tSt_leaveDearCells : xTb := ((⟨"FirstFelt$State", "leaveDearCells", "(LFirstFelt$Town;)V"⟩, prog_5_method_28_code, 3, none), (0, 0), "FirstFelt$State", false, iSt_leaveDearCells)
def iSt_refuge : List (Nat × xE) := [(0, .iconst 1, 0, 0, 0, 0), (1, .istore_n 3, 0, 0, 0, 0), (2, .iload_n 3, 0, 0, 0, 0), (3, .iconst 4, 0, 0, 0, 0), (4, .if_icmp .gt 42, 0, 0, 0, 0), (7, .aload_n 0, 0, 0, 0, 0),
  (8, .aload_n 1, 0, 0, 0, 0), (9, .aload_n 0, 0, 0, 0, 0), (10, .getfield 33, 3, 7, 0, 0), (13, .iload_n 2, 0, 0, 0, 0), (14, .iaload, 0, 0, 0, 0), (15, .iload_n 3, 0, 0, 0, 0),
  (16, .invokevirtual 138, 35, 4, 3, 1), (19, .istore 4, 0, 0, 0, 0), (21, .iload 4, 0, 0, 0, 0), (23, .iconst (-1), 0, 0, 0, 0), (24, .if_icmp .eq 16, 0, 0, 0, 0), (27, .aload_n 0, 0, 0, 0, 0),
  (28, .iload_n 2, 0, 0, 0, 0), (29, .iload 4, 0, 0, 0, 0), (31, .invokevirtual 186, 53, 3, 3, 1), (34, .ifCond .ne 6, 0, 0, 0, 0), (37, .iload 4, 0, 0, 0, 0), (39, .ireturn, 0, 0, 0, 0),
  (40, .iinc 3 1, 0, 0, 0, 0), (43, .goto (-41), 0, 0, 0, 0), (46, .aload_n 0, 0, 0, 0, 0), (47, .getfield 33, 3, 7, 0, 0), (50, .iload_n 2, 0, 0, 0, 0), (51, .iaload, 0, 0, 0, 0),
  (52, .ireturn, 0, 0, 0, 0)]
def tSt_refuge : xTb := ((⟨"FirstFelt$State", "refuge", "(LFirstFelt$Town;I)I"⟩, prog_5_method_29_code, 5, (some .int)), (0, 0), "FirstFelt$State", false, iSt_refuge)
def iTo_init : List (Nat × xE) := [(0, .aload_n 0, 0, 0, 0, 0), (1, .invokespecial 3, 0, 1, 0, 3), (4, .aload_n 0, 0, 0, 0, 0), (5, .bipush 6, 0, 0, 0, 0), (7, .anewarray 9, 0, 0, 0, 0), (10, .putfield 11, 4, 0, 0, 0),
  (13, .aload_n 0, 0, 0, 0, 0), (14, .iconst 5, 0, 0, 0, 0), (15, .newarray .int, 0, 0, 0, 0), (17, .putfield 17, 4, 1, 0, 0), (20, .aload_n 0, 0, 0, 0, 0), (21, .iconst 5, 0, 0, 0, 0),
  (22, .newarray .int, 0, 0, 0, 0), (24, .putfield 21, 4, 2, 0, 0), (27, .iconst 0, 0, 0, 0, 0), (28, .istore_n 1, 0, 0, 0, 0), (29, .iload_n 1, 0, 0, 0, 0), (30, .iconst 5, 0, 0, 0, 0),
  (31, .if_icmp .gt 22, 0, 0, 0, 0), (34, .aload_n 0, 0, 0, 0, 0), (35, .getfield 11, 4, 0, 0, 0), (38, .iload_n 1, 0, 0, 0, 0), (39, .new 9, 3, 0, 0, 0), (42, .dup, 0, 0, 0, 0),
  (43, .invokespecial 24, 29, 1, 3, 2), (46, .aastore, 0, 0, 0, 0), (47, .iinc 1 1, 0, 0, 0, 0), (50, .goto (-21), 0, 0, 0, 0), (53, .return_, 0, 0, 0, 0)]
def tTo_init : xTb := ((⟨"FirstFelt$Tour", "<init>", "()V"⟩, prog_6_method_1_code, 2, none), (81, 952), "FirstFelt$Tour", false, iTo_init)
def iTo_begin : List (Nat × xE) := [(0, .aload_n 0, 0, 0, 0, 0), (1, .aload_n 1, 0, 0, 0, 0), (2, .putfield 25, 4, 3, 0, 0), (5, .aload_n 0, 0, 0, 0, 0), (6, .getfield 11, 4, 0, 0, 0), (9, .iconst 0, 0, 0, 0, 0),
  (10, .aaload, 0, 0, 0, 0), (11, .aload_n 2, 0, 0, 0, 0), (12, .invokevirtual 29, 31, 2, 3, 0), (15, .aload_n 0, 0, 0, 0, 0), (16, .iload_n 3, 0, 0, 0, 0), (17, .putfield 33, 4, 4, 0, 0),
  (20, .aload_n 0, 0, 0, 0, 0), (21, .iload 4, 0, 0, 0, 0), (23, .putfield 37, 4, 5, 0, 0), (26, .aload_n 0, 0, 0, 0, 0), (27, .iconst (-1), 0, 0, 0, 0), (28, .putfield 40, 4, 6, 0, 0),
  (31, .return_, 0, 0, 0, 0)]
def tTo_begin : xTb := ((⟨"FirstFelt$Tour", "begin", "(LFirstFelt$Town;LFirstFelt$State;II)V"⟩, prog_6_method_2_code, 5, none), (0, 0), "FirstFelt$Tour", false, iTo_begin)
def iTo_finish : List (Nat × xE) := [(0, .iload_n 1, 0, 0, 0, 0), (1, .aload_n 0, 0, 0, 0, 0), (2, .getfield 40, 4, 6, 0, 0), (5, .if_icmp .le 22, 0, 0, 0, 0), (8, .aload_n 0, 0, 0, 0, 0), (9, .iload_n 1, 0, 0, 0, 0),
  (10, .putfield 40, 4, 6, 0, 0), (13, .aload_n 0, 0, 0, 0, 0), (14, .getfield 17, 4, 1, 0, 0), (17, .iconst 0, 0, 0, 0, 0), (18, .aload_n 0, 0, 0, 0, 0), (19, .getfield 21, 4, 2, 0, 0),
  (22, .iconst 0, 0, 0, 0, 0), (23, .iconst 5, 0, 0, 0, 0), (24, .invokestatic 43, 0, 5, 0, 4), (27, .return_, 0, 0, 0, 0)]
def tTo_finish : xTb := ((⟨"FirstFelt$Tour", "finish", "(I)V"⟩, prog_6_method_3_code, 2, none), (0, 0), "FirstFelt$Tour", false, iTo_finish)
def iTw_init : List (Nat × xE) := [(0, .aload_n 0, 0, 0, 0, 0), (1, .invokespecial 3, 0, 1, 0, 3), (4, .aload_n 0, 0, 0, 0, 0), (5, .bipush 100, 0, 0, 0, 0), (7, .newarray .int, 0, 0, 0, 0), (9, .putfield 9, 5, 6, 0, 0),
  (12, .aload_n 0, 0, 0, 0, 0), (13, .bipush 20, 0, 0, 0, 0), (15, .newarray .int, 0, 0, 0, 0), (17, .putfield 15, 5, 7, 0, 0), (20, .aload_n 0, 0, 0, 0, 0), (21, .bipush 8, 0, 0, 0, 0),
  (23, .newarray .int, 0, 0, 0, 0), (25, .putfield 18, 5, 8, 0, 0), (28, .aload_n 0, 0, 0, 0, 0), (29, .iconst 4, 0, 0, 0, 0), (30, .newarray .int, 0, 0, 0, 0), (32, .putfield 21, 5, 9, 0, 0),
  (35, .aload_n 0, 0, 0, 0, 0), (36, .iconst 4, 0, 0, 0, 0), (37, .newarray .int, 0, 0, 0, 0), (39, .putfield 24, 5, 10, 0, 0), (42, .aload_n 0, 0, 0, 0, 0), (43, .bipush 6, 0, 0, 0, 0),
  (45, .newarray .int, 0, 0, 0, 0), (47, .putfield 27, 5, 11, 0, 0), (50, .aload_n 0, 0, 0, 0, 0), (51, .bipush 6, 0, 0, 0, 0), (53, .newarray .int, 0, 0, 0, 0), (55, .putfield 30, 5, 12, 0, 0),
  (58, .return_, 0, 0, 0, 0)]
def tTw_init : xTb := ((⟨"FirstFelt$Town", "<init>", "()V"⟩, prog_7_method_1_code, 1, none), (7, 148), "FirstFelt$Town", false, iTw_init)
def iTw_clear : List (Nat × xE) := [(0, .aload_n 0, 0, 0, 0, 0), (1, .iconst 0, 0, 0, 0, 0), (2, .putfield 33, 5, 0, 0, 0), (5, .aload_n 0, 0, 0, 0, 0), (6, .iconst 0, 0, 0, 0, 0), (7, .putfield 37, 5, 1, 0, 0),
  (10, .aload_n 0, 0, 0, 0, 0), (11, .iconst 0, 0, 0, 0, 0), (12, .putfield 40, 5, 2, 0, 0), (15, .aload_n 0, 0, 0, 0, 0), (16, .iconst 0, 0, 0, 0, 0), (17, .putfield 43, 5, 3, 0, 0),
  (20, .aload_n 0, 0, 0, 0, 0), (21, .iconst 0, 0, 0, 0, 0), (22, .putfield 46, 5, 4, 0, 0), (25, .aload_n 0, 0, 0, 0, 0), (26, .iconst 0, 0, 0, 0, 0), (27, .putfield 49, 5, 5, 0, 0),
  (30, .aload_n 0, 0, 0, 0, 0), (31, .getfield 15, 5, 7, 0, 0), (34, .iconst 0, 0, 0, 0, 0), (35, .invokestatic 52, 208, 2, 0, 0), (38, .return_, 0, 0, 0, 0)]
def tTw_clear : xTb := ((⟨"FirstFelt$Town", "clear", "()V"⟩, prog_7_method_2_code, 1, none), (0, 0), "FirstFelt$Town", false, iTw_clear)
def iTw_setSize : List (Nat × xE) := [(0, .aload_n 0, 0, 0, 0, 0), (1, .iload_n 1, 0, 0, 0, 0), (2, .putfield 33, 5, 0, 0, 0), (5, .aload_n 0, 0, 0, 0, 0), (6, .iload_n 2, 0, 0, 0, 0), (7, .putfield 37, 5, 1, 0, 0),
  (10, .iconst 0, 0, 0, 0, 0), (11, .istore_n 3, 0, 0, 0, 0), (12, .iload_n 3, 0, 0, 0, 0), (13, .iload_n 2, 0, 0, 0, 0), (14, .if_icmp .ge 123, 0, 0, 0, 0), (17, .iconst 0, 0, 0, 0, 0),
  (18, .istore 4, 0, 0, 0, 0), (20, .iload 4, 0, 0, 0, 0), (22, .iload_n 1, 0, 0, 0, 0), (23, .if_icmp .ge 108, 0, 0, 0, 0), (26, .aload_n 0, 0, 0, 0, 0), (27, .iload 4, 0, 0, 0, 0),
  (29, .iload_n 3, 0, 0, 0, 0), (30, .invokevirtual 58, 65, 3, 5, 1), (33, .iconst 5, 0, 0, 0, 0), (34, .imul, 0, 0, 0, 0), (35, .istore 5, 0, 0, 0, 0), (37, .aload_n 0, 0, 0, 0, 0),
  (38, .getfield 9, 5, 6, 0, 0), (41, .iload 5, 0, 0, 0, 0), (43, .iconst 0, 0, 0, 0, 0), (44, .iadd, 0, 0, 0, 0), (45, .aload_n 0, 0, 0, 0, 0), (46, .iload 4, 0, 0, 0, 0),
  (48, .iload_n 3, 0, 0, 0, 0), (49, .invokevirtual 58, 65, 3, 5, 1), (52, .iastore, 0, 0, 0, 0), (53, .aload_n 0, 0, 0, 0, 0), (54, .getfield 9, 5, 6, 0, 0), (57, .iload 5, 0, 0, 0, 0),
  (59, .iconst 1, 0, 0, 0, 0), (60, .iadd, 0, 0, 0, 0), (61, .aload_n 0, 0, 0, 0, 0), (62, .iload 4, 0, 0, 0, 0), (64, .iload_n 3, 0, 0, 0, 0), (65, .iconst 1, 0, 0, 0, 0),
  (66, .isub, 0, 0, 0, 0), (67, .invokevirtual 58, 65, 3, 5, 1), (70, .iastore, 0, 0, 0, 0), (71, .aload_n 0, 0, 0, 0, 0), (72, .getfield 9, 5, 6, 0, 0), (75, .iload 5, 0, 0, 0, 0),
  (77, .iconst 2, 0, 0, 0, 0), (78, .iadd, 0, 0, 0, 0), (79, .aload_n 0, 0, 0, 0, 0), (80, .iload 4, 0, 0, 0, 0), (82, .iconst 1, 0, 0, 0, 0), (83, .iadd, 0, 0, 0, 0),
  (84, .iload_n 3, 0, 0, 0, 0), (85, .invokevirtual 58, 65, 3, 5, 1), (88, .iastore, 0, 0, 0, 0), (89, .aload_n 0, 0, 0, 0, 0), (90, .getfield 9, 5, 6, 0, 0), (93, .iload 5, 0, 0, 0, 0),
  (95, .iconst 3, 0, 0, 0, 0), (96, .iadd, 0, 0, 0, 0), (97, .aload_n 0, 0, 0, 0, 0), (98, .iload 4, 0, 0, 0, 0), (100, .iload_n 3, 0, 0, 0, 0), (101, .iconst 1, 0, 0, 0, 0),
  (102, .iadd, 0, 0, 0, 0), (103, .invokevirtual 58, 65, 3, 5, 1), (106, .iastore, 0, 0, 0, 0), (107, .aload_n 0, 0, 0, 0, 0), (108, .getfield 9, 5, 6, 0, 0), (111, .iload 5, 0, 0, 0, 0),
  (113, .iconst 4, 0, 0, 0, 0), (114, .iadd, 0, 0, 0, 0), (115, .aload_n 0, 0, 0, 0, 0), (116, .iload 4, 0, 0, 0, 0), (118, .iconst 1, 0, 0, 0, 0), (119, .isub, 0, 0, 0, 0),
  (120, .iload_n 3, 0, 0, 0, 0), (121, .invokevirtual 58, 65, 3, 5, 1), (124, .iastore, 0, 0, 0, 0), (125, .iinc 4 1, 0, 0, 0, 0), (128, .goto (-108), 0, 0, 0, 0), (131, .iinc 3 1, 0, 0, 0, 0),
  (134, .goto (-122), 0, 0, 0, 0), (137, .return_, 0, 0, 0, 0)]
def tTw_setSize : xTb := ((⟨"FirstFelt$Town", "setSize", "(II)V"⟩, prog_7_method_3_code, 6, none), (0, 0), "FirstFelt$Town", false, iTw_setSize)
def iTw_cells : List (Nat × xE) := [(0, .aload_n 0, 0, 0, 0, 0), (1, .getfield 33, 5, 0, 0, 0), (4, .aload_n 0, 0, 0, 0, 0), (5, .getfield 37, 5, 1, 0, 0), (8, .imul, 0, 0, 0, 0), (9, .ireturn, 0, 0, 0, 0)]
def tTw_cells : xTb := ((⟨"FirstFelt$Town", "cells", "()I"⟩, prog_7_method_4_code, 1, (some .int)), (0, 0), "FirstFelt$Town", false, iTw_cells)
def iTw_cellAt : List (Nat × xE) := [(0, .iload_n 1, 0, 0, 0, 0), (1, .ifCond .lt 34, 0, 0, 0, 0), (4, .iload_n 1, 0, 0, 0, 0), (5, .aload_n 0, 0, 0, 0, 0), (6, .getfield 33, 5, 0, 0, 0), (9, .if_icmp .ge 26, 0, 0, 0, 0),
  (12, .iload_n 2, 0, 0, 0, 0), (13, .ifCond .lt 22, 0, 0, 0, 0), (16, .iload_n 2, 0, 0, 0, 0), (17, .aload_n 0, 0, 0, 0, 0), (18, .getfield 37, 5, 1, 0, 0), (21, .if_icmp .ge 14, 0, 0, 0, 0),
  (24, .iload_n 2, 0, 0, 0, 0), (25, .aload_n 0, 0, 0, 0, 0), (26, .getfield 33, 5, 0, 0, 0), (29, .imul, 0, 0, 0, 0), (30, .iload_n 1, 0, 0, 0, 0), (31, .iadd, 0, 0, 0, 0),
  (32, .goto 4, 0, 0, 0, 0), (35, .iconst (-1), 0, 0, 0, 0), (36, .ireturn, 0, 0, 0, 0)]
def tTw_cellAt : xTb := ((⟨"FirstFelt$Town", "cellAt", "(II)I"⟩, prog_7_method_5_code, 3, (some .int)), (0, 0), "FirstFelt$Town", false, iTw_cellAt)
def iTw_cellOfPair : List (Nat × xE) := [(0, .iload_n 1, 0, 0, 0, 0), (1, .ifCond .ge 7, 0, 0, 0, 0), (4, .iconst (-1), 0, 0, 0, 0), (5, .goto 15, 0, 0, 0, 0), (8, .aload_n 0, 0, 0, 0, 0), (9, .iload_n 1, 0, 0, 0, 0),
  (10, .bipush 10, 0, 0, 0, 0), (12, .idiv, 0, 0, 0, 0), (13, .iload_n 1, 0, 0, 0, 0), (14, .bipush 10, 0, 0, 0, 0), (16, .irem, 0, 0, 0, 0), (17, .invokevirtual 58, 65, 3, 5, 1),
  (20, .ireturn, 0, 0, 0, 0)]
def tTw_cellOfPair : xTb := ((⟨"FirstFelt$Town", "cellOfPair", "(I)I"⟩, prog_7_method_6_code, 2, (some .int)), (0, 0), "FirstFelt$Town", false, iTw_cellOfPair)
def iTw_pairOf : List (Nat × xE) := [(0, .aload_n 0, 0, 0, 0, 0), (1, .getfield 33, 5, 0, 0, 0), (4, .iconst 1, 0, 0, 0, 0), (5, .if_icmp .ge 7, 0, 0, 0, 0), (8, .iconst (-1), 0, 0, 0, 0), (9, .goto 19, 0, 0, 0, 0),
  (12, .iload_n 1, 0, 0, 0, 0), (13, .aload_n 0, 0, 0, 0, 0), (14, .getfield 33, 5, 0, 0, 0), (17, .irem, 0, 0, 0, 0), (18, .bipush 10, 0, 0, 0, 0), (20, .imul, 0, 0, 0, 0),
  (21, .iload_n 1, 0, 0, 0, 0), (22, .aload_n 0, 0, 0, 0, 0), (23, .getfield 33, 5, 0, 0, 0), (26, .idiv, 0, 0, 0, 0), (27, .iadd, 0, 0, 0, 0), (28, .ireturn, 0, 0, 0, 0)]
def tTw_pairOf : xTb := ((⟨"FirstFelt$Town", "pairOf", "(I)I"⟩, prog_7_method_7_code, 2, (some .int)), (0, 0), "FirstFelt$Town", false, iTw_pairOf)
def iTw_beside : List (Nat × xE) := [(0, .aload_n 0, 0, 0, 0, 0), (1, .getfield 9, 5, 6, 0, 0), (4, .iload_n 1, 0, 0, 0, 0), (5, .iconst 5, 0, 0, 0, 0), (6, .imul, 0, 0, 0, 0), (7, .iload_n 2, 0, 0, 0, 0),
  (8, .iadd, 0, 0, 0, 0), (9, .iaload, 0, 0, 0, 0), (10, .ireturn, 0, 0, 0, 0)]
def tTw_beside : xTb := ((⟨"FirstFelt$Town", "beside", "(II)I"⟩, prog_7_method_8_code, 3, (some .int)), (0, 0), "FirstFelt$Town", false, iTw_beside)
def iTw_sunAt : List (Nat × xE) := [(0, .aload_n 0, 0, 0, 0, 0), (1, .getfield 46, 5, 4, 0, 0), (4, .iconst 1, 0, 0, 0, 0), (5, .if_icmp .ge 7, 0, 0, 0, 0), (8, .iconst 0, 0, 0, 0, 0), (9, .goto 17, 0, 0, 0, 0),
  (12, .aload_n 0, 0, 0, 0, 0), (13, .getfield 18, 5, 8, 0, 0), (16, .iload_n 1, 0, 0, 0, 0), (17, .bipush 6, 0, 0, 0, 0), (19, .idiv, 0, 0, 0, 0), (20, .aload_n 0, 0, 0, 0, 0),
  (21, .getfield 46, 5, 4, 0, 0), (24, .irem, 0, 0, 0, 0), (25, .iaload, 0, 0, 0, 0), (26, .ireturn, 0, 0, 0, 0)]
def tTw_sunAt : xTb := ((⟨"FirstFelt$Town", "sunAt", "(I)I"⟩, prog_7_method_9_code, 2, (some .int)), (0, 0), "FirstFelt$Town", false, iTw_sunAt)
def iFf_init : List (Nat × xE) := [(0, .aload_n 0, 0, 0, 0, 0), (1, .invokespecial 1, 0, 1, 0, 3), (4, .aload_n 0, 0, 0, 0, 0), (5, .new 7, 2, 0, 0, 0), (8, .dup, 0, 0, 0, 0), (9, .invokespecial 9, 12, 1, 2, 2),
  (12, .putfield 10, 6, 0, 0, 0), (15, .aload_n 0, 0, 0, 0, 0), (16, .new 16, 1, 0, 0, 0), (19, .dup, 0, 0, 0, 0), (20, .bipush 12, 0, 0, 0, 0), (22, .invokespecial 18, 6, 2, 1, 2),
  (25, .putfield 21, 6, 1, 0, 0), (28, .aload_n 0, 0, 0, 0, 0), (29, .new 16, 1, 0, 0, 0), (32, .dup, 0, 0, 0, 0), (33, .bipush 8, 0, 0, 0, 0), (35, .invokespecial 18, 7, 2, 1, 2),
  (38, .putfield 25, 6, 2, 0, 0), (41, .aload_n 0, 0, 0, 0, 0), (42, .iconst 2, 0, 0, 0, 0), (43, .anewarray 28, 0, 0, 0, 0), (46, .putfield 30, 6, 3, 0, 0), (49, .aload_n 0, 0, 0, 0, 0),
  (50, .iconst 2, 0, 0, 0, 0), (51, .newarray .int, 0, 0, 0, 0), (53, .putfield 34, 6, 4, 0, 0), (56, .aload_n 0, 0, 0, 0, 0), (57, .new 28, 3, 0, 0, 0), (60, .dup, 0, 0, 0, 0),
  (61, .invokespecial 38, 29, 1, 3, 2), (64, .putfield 39, 6, 5, 0, 0), (67, .aload_n 0, 0, 0, 0, 0), (68, .new 28, 3, 0, 0, 0), (71, .dup, 0, 0, 0, 0), (72, .invokespecial 38, 29, 1, 3, 2),
  (75, .putfield 43, 6, 6, 0, 0), (78, .aload_n 0, 0, 0, 0, 0), (79, .new 46, 4, 0, 0, 0), (82, .dup, 0, 0, 0, 0), (83, .invokespecial 48, 58, 1, 4, 2), (86, .putfield 49, 6, 7, 0, 0),
  (89, .aload_n 0, 0, 0, 0, 0), (90, .new 53, 0, 0, 0, 0), (93, .dup, 0, 0, 0, 0), (94, .invokespecial 55, 0, 1, 0, 2), (97, .putfield 56, 6, 8, 0, 0), (100, .aload_n 0, 0, 0, 0, 0),
  (101, .new 60, 5, 0, 0, 0), (104, .dup, 0, 0, 0, 0), (105, .invokespecial 62, 61, 1, 5, 2), (108, .putfield 63, 6, 9, 0, 0), (111, .aload_n 0, 0, 0, 0, 0), (112, .new 60, 5, 0, 0, 0),
  (115, .dup, 0, 0, 0, 0), (116, .invokespecial 62, 61, 1, 5, 2), (119, .putfield 67, 6, 10, 0, 0), (122, .aload_n 0, 0, 0, 0, 0), (123, .new 28, 3, 0, 0, 0), (126, .dup, 0, 0, 0, 0),
  (127, .invokespecial 38, 29, 1, 3, 2), (130, .putfield 70, 6, 11, 0, 0), (133, .aload_n 0, 0, 0, 0, 0), (134, .new 28, 3, 0, 0, 0), (137, .dup, 0, 0, 0, 0), (138, .invokespecial 38, 29, 1, 3, 2),
  (141, .putfield 73, 6, 12, 0, 0), (144, .iconst 0, 0, 0, 0, 0), (145, .istore_n 1, 0, 0, 0, 0), (146, .iload_n 1, 0, 0, 0, 0), (147, .iconst 2, 0, 0, 0, 0), (148, .if_icmp .ge 22, 0, 0, 0, 0),
  (151, .aload_n 0, 0, 0, 0, 0), (152, .getfield 30, 6, 3, 0, 0), (155, .iload_n 1, 0, 0, 0, 0), (156, .new 28, 3, 0, 0, 0), (159, .dup, 0, 0, 0, 0), (160, .invokespecial 38, 29, 1, 3, 2),
  (163, .aastore, 0, 0, 0, 0), (164, .iinc 1 1, 0, 0, 0, 0), (167, .goto (-21), 0, 0, 0, 0), (170, .return_, 0, 0, 0, 0)]
def tFf_init : xTb := ((⟨"FirstFelt", "<init>", "()V"⟩, prog_1_method_1_code, 2, none), (190, 2565), "FirstFelt", false, iFf_init)
def iFf_feed : List (Nat × xE) := [(0, .iload_n 1, 0, 0, 0, 0), (1, .ifCond .lt 10, 0, 0, 0, 0), (4, .iload_n 1, 0, 0, 0, 0), (5, .sipush 255, 0, 0, 0, 0), (8, .if_icmp .le 6, 0, 0, 0, 0), (11, .ldc 76, 0, 0, 0, -1000000002),
  (13, .ireturn, 0, 0, 0, 0), (14, .aload_n 0, 0, 0, 0, 0), (15, .getfield 10, 6, 0, 0, 0), (18, .iload_n 1, 0, 0, 0, 0), (19, .invokevirtual 77, 13, 2, 2, 1), (22, .ifCond .eq 13, 0, 0, 0, 0),
  (25, .aload_n 0, 0, 0, 0, 0), (26, .getfield 10, 6, 0, 0, 0), (29, .getfield 81, 2, 1, 0, 0), (32, .goto 5, 0, 0, 0, 0), (35, .ldc 85, 0, 0, 0, -1000000004), (37, .ireturn, 0, 0, 0, 0)]
def tFf_feed : xTb := ((⟨"FirstFelt", "feed", "(I)I"⟩, prog_1_method_2_code, 2, (some .int)), (0, 0), "FirstFelt", false, iFf_feed)
def iFf_town : List (Nat × xE) := [(0, .aload_n 0, 0, 0, 0, 0), (1, .getfield 70, 6, 11, 0, 0), (4, .getfield 86, 3, 17, 0, 0), (7, .istore_n 1, 0, 0, 0, 0), (8, .aload_n 0, 0, 0, 0, 0), (9, .getfield 10, 6, 0, 0, 0),
  (12, .aload_n 0, 0, 0, 0, 0), (13, .getfield 67, 6, 10, 0, 0), (16, .aload_n 0, 0, 0, 0, 0), (17, .getfield 73, 6, 12, 0, 0), (20, .invokevirtual 89, 14, 3, 2, 1), (23, .istore_n 2, 0, 0, 0, 0),
  (24, .aload_n 0, 0, 0, 0, 0), (25, .getfield 10, 6, 0, 0, 0), (28, .iconst 0, 0, 0, 0, 0), (29, .putfield 81, 2, 1, 0, 0), (32, .iload_n 2, 0, 0, 0, 0), (33, .ifCond .ne 14, 0, 0, 0, 0),
  (36, .bipush (-10), 0, 0, 0, 0), (38, .aload_n 0, 0, 0, 0, 0), (39, .getfield 10, 6, 0, 0, 0), (42, .getfield 93, 2, 4, 0, 0), (45, .isub, 0, 0, 0, 0), (46, .ireturn, 0, 0, 0, 0),
  (47, .aload_n 0, 0, 0, 0, 0), (48, .getfield 63, 6, 9, 0, 0), (51, .astore_n 3, 0, 0, 0, 0), (52, .aload_n 0, 0, 0, 0, 0), (53, .aload_n 0, 0, 0, 0, 0), (54, .getfield 67, 6, 10, 0, 0),
  (57, .putfield 63, 6, 9, 0, 0), (60, .aload_n 0, 0, 0, 0, 0), (61, .aload_n 3, 0, 0, 0, 0), (62, .putfield 67, 6, 10, 0, 0), (65, .aload_n 0, 0, 0, 0, 0), (66, .getfield 70, 6, 11, 0, 0),
  (69, .astore 4, 0, 0, 0, 0), (71, .aload_n 0, 0, 0, 0, 0), (72, .aload_n 0, 0, 0, 0, 0), (73, .getfield 73, 6, 12, 0, 0), (76, .putfield 70, 6, 11, 0, 0), (79, .aload_n 0, 0, 0, 0, 0),
  (80, .aload 4, 0, 0, 0, 0), (82, .putfield 73, 6, 12, 0, 0), (85, .aload_n 0, 0, 0, 0, 0), (86, .getfield 70, 6, 11, 0, 0), (89, .iload_n 1, 0, 0, 0, 0), (90, .putfield 86, 3, 17, 0, 0),
  (93, .aload_n 0, 0, 0, 0, 0), (94, .getfield 21, 6, 1, 0, 0), (97, .iconst 0, 0, 0, 0, 0), (98, .putfield 96, 1, 3, 0, 0), (101, .aload_n 0, 0, 0, 0, 0), (102, .getfield 25, 6, 2, 0, 0),
  (105, .iconst 0, 0, 0, 0, 0), (106, .putfield 96, 1, 3, 0, 0), (109, .aload_n 0, 0, 0, 0, 0), (110, .getfield 34, 6, 4, 0, 0), (113, .iconst 0, 0, 0, 0, 0), (114, .invokestatic 99, 208, 2, 0, 0),
  (117, .aload_n 0, 0, 0, 0, 0), (118, .getfield 63, 6, 9, 0, 0), (121, .invokevirtual 105, 64, 1, 5, 1), (124, .ireturn, 0, 0, 0, 0)]
def tFf_town : xTb := ((⟨"FirstFelt", "town", "()I"⟩, prog_1_method_3_code, 5, (some .int)), (0, 0), "FirstFelt", false, iFf_town)
def iFf_fault : List (Nat × xE) := [(0, .aload_n 0, 0, 0, 0, 0), (1, .getfield 10, 6, 0, 0, 0), (4, .getfield 109, 2, 5, 0, 0), (7, .ireturn, 0, 0, 0, 0)]
def tFf_fault : xTb := ((⟨"FirstFelt", "fault", "()I"⟩, prog_1_method_4_code, 1, (some .int)), (0, 0), "FirstFelt", false, iFf_fault)
def iFf_told : List (Nat × xE) := [(0, .iload_n 1, 0, 0, 0, 0), (1, .tableswitch 206 0 14 #[75, 83, 91, 103, 111, 119, 127, 135, 143, 151, 159, 167, 182, 190, 198], 0, 0, 0, 0), (76, .aload_n 0, 0, 0, 0, 0), (77, .getfield 63, 6, 9, 0, 0), (80, .getfield 112, 5, 0, 0, 0), (83, .ireturn, 0, 0, 0, 0),
  (84, .aload_n 0, 0, 0, 0, 0), (85, .getfield 63, 6, 9, 0, 0), (88, .getfield 115, 5, 1, 0, 0), (91, .ireturn, 0, 0, 0, 0), (92, .aload_n 0, 0, 0, 0, 0), (93, .getfield 70, 6, 11, 0, 0),
  (96, .aload_n 0, 0, 0, 0, 0), (97, .getfield 63, 6, 9, 0, 0), (100, .invokevirtual 118, 34, 2, 3, 1), (103, .ireturn, 0, 0, 0, 0), (104, .aload_n 0, 0, 0, 0, 0), (105, .getfield 63, 6, 9, 0, 0),
  (108, .getfield 122, 5, 2, 0, 0), (111, .ireturn, 0, 0, 0, 0), (112, .aload_n 0, 0, 0, 0, 0), (113, .getfield 63, 6, 9, 0, 0), (116, .getfield 125, 5, 3, 0, 0), (119, .ireturn, 0, 0, 0, 0),
  (120, .aload_n 0, 0, 0, 0, 0), (121, .getfield 63, 6, 9, 0, 0), (124, .getfield 128, 5, 4, 0, 0), (127, .ireturn, 0, 0, 0, 0), (128, .aload_n 0, 0, 0, 0, 0), (129, .getfield 63, 6, 9, 0, 0),
  (132, .getfield 131, 5, 5, 0, 0), (135, .ireturn, 0, 0, 0, 0), (136, .aload_n 0, 0, 0, 0, 0), (137, .getfield 10, 6, 0, 0, 0), (140, .getfield 81, 2, 1, 0, 0), (143, .ireturn, 0, 0, 0, 0),
  (144, .aload_n 0, 0, 0, 0, 0), (145, .getfield 70, 6, 11, 0, 0), (148, .getfield 134, 3, 16, 0, 0), (151, .ireturn, 0, 0, 0, 0), (152, .aload_n 0, 0, 0, 0, 0), (153, .getfield 70, 6, 11, 0, 0),
  (156, .getfield 137, 3, 14, 0, 0), (159, .ireturn, 0, 0, 0, 0), (160, .aload_n 0, 0, 0, 0, 0), (161, .getfield 70, 6, 11, 0, 0), (164, .getfield 140, 3, 15, 0, 0), (167, .ireturn, 0, 0, 0, 0),
  (168, .aload_n 0, 0, 0, 0, 0), (169, .getfield 63, 6, 9, 0, 0), (172, .aload_n 0, 0, 0, 0, 0), (173, .getfield 70, 6, 11, 0, 0), (176, .getfield 134, 3, 16, 0, 0), (179, .invokevirtual 143, 69, 2, 5, 1),
  (182, .ireturn, 0, 0, 0, 0), (183, .aload_n 0, 0, 0, 0, 0), (184, .getfield 70, 6, 11, 0, 0), (187, .getfield 147, 3, 13, 0, 0), (190, .ireturn, 0, 0, 0, 0), (191, .aload_n 0, 0, 0, 0, 0),
  (192, .getfield 21, 6, 1, 0, 0), (195, .getfield 96, 1, 3, 0, 0), (198, .ireturn, 0, 0, 0, 0), (199, .aload_n 0, 0, 0, 0, 0), (200, .getfield 25, 6, 2, 0, 0), (203, .getfield 96, 1, 3, 0, 0),
  (206, .ireturn, 0, 0, 0, 0), (207, .ldc 76, 0, 0, 0, -1000000002), (209, .ireturn, 0, 0, 0, 0)]
def tFf_told : xTb := ((⟨"FirstFelt", "told", "(I)I"⟩, prog_1_method_5_code, 2, (some .int)), (0, 0), "FirstFelt", false, iFf_told)
def iFf_cell : List (Nat × xE) := [(0, .aload_n 0, 0, 0, 0, 0), (1, .getfield 63, 6, 9, 0, 0), (4, .iload_n 1, 0, 0, 0, 0), (5, .iload_n 2, 0, 0, 0, 0), (6, .invokevirtual 150, 65, 3, 5, 1), (9, .istore 4, 0, 0, 0, 0),
  (11, .iload 4, 0, 0, 0, 0), (13, .iconst (-1), 0, 0, 0, 0), (14, .if_icmp .ne 6, 0, 0, 0, 0), (17, .ldc 154, 0, 0, 0, -1000000001), (19, .ireturn, 0, 0, 0, 0), (20, .iload_n 3, 0, 0, 0, 0),
  (21, .tableswitch 78 0 3 #[31, 42, 53, 64], 0, 0, 0, 0), (52, .aload_n 0, 0, 0, 0, 0), (53, .getfield 70, 6, 11, 0, 0), (56, .getfield 155, 3, 0, 0, 0), (59, .iload 4, 0, 0, 0, 0), (61, .iaload, 0, 0, 0, 0),
  (62, .ireturn, 0, 0, 0, 0), (63, .aload_n 0, 0, 0, 0, 0), (64, .getfield 70, 6, 11, 0, 0), (67, .getfield 158, 3, 2, 0, 0), (70, .iload 4, 0, 0, 0, 0), (72, .iaload, 0, 0, 0, 0),
  (73, .ireturn, 0, 0, 0, 0), (74, .aload_n 0, 0, 0, 0, 0), (75, .getfield 63, 6, 9, 0, 0), (78, .getfield 161, 5, 7, 0, 0), (81, .iload 4, 0, 0, 0, 0), (83, .iaload, 0, 0, 0, 0),
  (84, .ireturn, 0, 0, 0, 0), (85, .aload_n 0, 0, 0, 0, 0), (86, .getfield 70, 6, 11, 0, 0), (89, .aload_n 0, 0, 0, 0, 0), (90, .getfield 63, 6, 9, 0, 0), (93, .iload 4, 0, 0, 0, 0),
  (95, .invokevirtual 164, 36, 3, 3, 1), (98, .ireturn, 0, 0, 0, 0), (99, .ldc 76, 0, 0, 0, -1000000002), (101, .ireturn, 0, 0, 0, 0)]
def tFf_cell : xTb := ((⟨"FirstFelt", "cell", "(III)I"⟩, prog_1_method_6_code, 5, (some .int)), (0, 0), "FirstFelt", false, iFf_cell)
def iFf_wall : List (Nat × xE) := [(0, .aload_n 0, 0, 0, 0, 0), (1, .iload_n 1, 0, 0, 0, 0), (2, .iload_n 2, 0, 0, 0, 0), (3, .iload_n 3, 0, 0, 0, 0), (4, .invokevirtual 168, 107, 4, 6, 1), (7, .istore 4, 0, 0, 0, 0),
  (9, .iload 4, 0, 0, 0, 0), (11, .ifCond .eq 8, 0, 0, 0, 0), (14, .iload 4, 0, 0, 0, 0), (16, .goto 20, 0, 0, 0, 0), (19, .aload_n 0, 0, 0, 0, 0), (20, .getfield 70, 6, 11, 0, 0),
  (23, .aload_n 0, 0, 0, 0, 0), (24, .getfield 63, 6, 9, 0, 0), (27, .iload_n 1, 0, 0, 0, 0), (28, .iload_n 2, 0, 0, 0, 0), (29, .invokevirtual 150, 65, 3, 5, 1), (32, .iload_n 3, 0, 0, 0, 0),
  (33, .invokevirtual 172, 33, 3, 3, 1), (36, .ireturn, 0, 0, 0, 0)]
def tFf_wall : xTb := ((⟨"FirstFelt", "wall", "(III)I"⟩, prog_1_method_7_code, 5, (some .int)), (0, 0), "FirstFelt", false, iFf_wall)
def iFf_stove : List (Nat × xE) := [(0, .aload_n 0, 0, 0, 0, 0), (1, .iload_n 1, 0, 0, 0, 0), (2, .invokevirtual 175, 104, 2, 6, 1), (5, .ifCond .ne 6, 0, 0, 0, 0), (8, .ldc 154, 0, 0, 0, -1000000001), (10, .ireturn, 0, 0, 0, 0),
  (11, .iload_n 2, 0, 0, 0, 0), (12, .tableswitch 79 0 3 #[32, 49, 59, 69], 0, 0, 0, 0), (44, .aload_n 0, 0, 0, 0, 0), (45, .getfield 63, 6, 9, 0, 0), (48, .aload_n 0, 0, 0, 0, 0), (49, .getfield 63, 6, 9, 0, 0),
  (52, .getfield 178, 5, 9, 0, 0), (55, .iload_n 1, 0, 0, 0, 0), (56, .iaload, 0, 0, 0, 0), (57, .invokevirtual 181, 67, 2, 5, 1), (60, .ireturn, 0, 0, 0, 0), (61, .aload_n 0, 0, 0, 0, 0),
  (62, .getfield 63, 6, 9, 0, 0), (65, .getfield 184, 5, 10, 0, 0), (68, .iload_n 1, 0, 0, 0, 0), (69, .iaload, 0, 0, 0, 0), (70, .ireturn, 0, 0, 0, 0), (71, .aload_n 0, 0, 0, 0, 0),
  (72, .getfield 70, 6, 11, 0, 0), (75, .getfield 187, 3, 5, 0, 0), (78, .iload_n 1, 0, 0, 0, 0), (79, .iaload, 0, 0, 0, 0), (80, .ireturn, 0, 0, 0, 0), (81, .aload_n 0, 0, 0, 0, 0),
  (82, .getfield 70, 6, 11, 0, 0), (85, .getfield 190, 3, 6, 0, 0), (88, .iload_n 1, 0, 0, 0, 0), (89, .iaload, 0, 0, 0, 0), (90, .ireturn, 0, 0, 0, 0), (91, .ldc 76, 0, 0, 0, -1000000002),
  (93, .ireturn, 0, 0, 0, 0)]
def tFf_stove : xTb := ((⟨"FirstFelt", "stove", "(II)I"⟩, prog_1_method_8_code, 3, (some .int)), (0, 0), "FirstFelt", false, iFf_stove)
def iFf_person : List (Nat × xE) := [(0, .aload_n 0, 0, 0, 0, 0), (1, .iload_n 1, 0, 0, 0, 0), (2, .invokevirtual 193, 103, 2, 6, 1), (5, .ifCond .ne 6, 0, 0, 0, 0), (8, .ldc 154, 0, 0, 0, -1000000001), (10, .ireturn, 0, 0, 0, 0),
  (11, .iload_n 2, 0, 0, 0, 0), (12, .tableswitch 138 0 7 #[48, 65, 75, 85, 95, 105, 115, 128], 0, 0, 0, 0), (60, .aload_n 0, 0, 0, 0, 0), (61, .getfield 63, 6, 9, 0, 0), (64, .aload_n 0, 0, 0, 0, 0), (65, .getfield 70, 6, 11, 0, 0),
  (68, .getfield 196, 3, 7, 0, 0), (71, .iload_n 1, 0, 0, 0, 0), (72, .iaload, 0, 0, 0, 0), (73, .invokevirtual 181, 67, 2, 5, 1), (76, .ireturn, 0, 0, 0, 0), (77, .aload_n 0, 0, 0, 0, 0),
  (78, .getfield 70, 6, 11, 0, 0), (81, .getfield 199, 3, 8, 0, 0), (84, .iload_n 1, 0, 0, 0, 0), (85, .iaload, 0, 0, 0, 0), (86, .ireturn, 0, 0, 0, 0), (87, .aload_n 0, 0, 0, 0, 0),
  (88, .getfield 63, 6, 9, 0, 0), (91, .getfield 202, 5, 11, 0, 0), (94, .iload_n 1, 0, 0, 0, 0), (95, .iaload, 0, 0, 0, 0), (96, .ireturn, 0, 0, 0, 0), (97, .aload_n 0, 0, 0, 0, 0),
  (98, .getfield 63, 6, 9, 0, 0), (101, .getfield 205, 5, 12, 0, 0), (104, .iload_n 1, 0, 0, 0, 0), (105, .iaload, 0, 0, 0, 0), (106, .ireturn, 0, 0, 0, 0), (107, .aload_n 0, 0, 0, 0, 0),
  (108, .getfield 70, 6, 11, 0, 0), (111, .getfield 208, 3, 9, 0, 0), (114, .iload_n 1, 0, 0, 0, 0), (115, .iaload, 0, 0, 0, 0), (116, .ireturn, 0, 0, 0, 0), (117, .aload_n 0, 0, 0, 0, 0),
  (118, .getfield 70, 6, 11, 0, 0), (121, .getfield 211, 3, 10, 0, 0), (124, .iload_n 1, 0, 0, 0, 0), (125, .iaload, 0, 0, 0, 0), (126, .ireturn, 0, 0, 0, 0), (127, .aload_n 0, 0, 0, 0, 0),
  (128, .getfield 70, 6, 11, 0, 0), (131, .aload_n 0, 0, 0, 0, 0), (132, .getfield 63, 6, 9, 0, 0), (135, .iload_n 1, 0, 0, 0, 0), (136, .invokevirtual 214, 37, 3, 3, 1), (139, .ireturn, 0, 0, 0, 0),
  (140, .aload_n 0, 0, 0, 0, 0), (141, .getfield 70, 6, 11, 0, 0), (144, .getfield 217, 3, 11, 0, 0), (147, .iload_n 1, 0, 0, 0, 0), (148, .iaload, 0, 0, 0, 0), (149, .ireturn, 0, 0, 0, 0),
  (150, .ldc 76, 0, 0, 0, -1000000002), (152, .ireturn, 0, 0, 0, 0)]
def tFf_person : xTb := ((⟨"FirstFelt", "person", "(II)I"⟩, prog_1_method_9_code, 3, (some .int)), (0, 0), "FirstFelt", false, iFf_person)
def iFf_go : List (Nat × xE) := [(0, .aload_n 0, 0, 0, 0, 0), (1, .iload_n 1, 0, 0, 0, 0), (2, .invokevirtual 193, 103, 2, 6, 1), (5, .ifCond .ne 6, 0, 0, 0, 0), (8, .ldc 154, 0, 0, 0, -1000000001), (10, .ireturn, 0, 0, 0, 0),
  (11, .iload_n 2, 0, 0, 0, 0), (12, .iconst 1, 0, 0, 0, 0), (13, .if_icmp .lt 8, 0, 0, 0, 0), (16, .iload_n 2, 0, 0, 0, 0), (17, .iconst 4, 0, 0, 0, 0), (18, .if_icmp .le 6, 0, 0, 0, 0),
  (21, .ldc 76, 0, 0, 0, -1000000002), (23, .ireturn, 0, 0, 0, 0), (24, .aload_n 0, 0, 0, 0, 0), (25, .getfield 70, 6, 11, 0, 0), (28, .aload_n 0, 0, 0, 0, 0), (29, .getfield 63, 6, 9, 0, 0),
  (32, .aload_n 0, 0, 0, 0, 0), (33, .getfield 70, 6, 11, 0, 0), (36, .getfield 196, 3, 7, 0, 0), (39, .iload_n 1, 0, 0, 0, 0), (40, .iaload, 0, 0, 0, 0), (41, .iload_n 2, 0, 0, 0, 0),
  (42, .invokevirtual 220, 35, 4, 3, 1), (45, .istore_n 3, 0, 0, 0, 0), (46, .iload_n 3, 0, 0, 0, 0), (47, .iconst (-1), 0, 0, 0, 0), (48, .if_icmp .ne 6, 0, 0, 0, 0), (51, .ldc 224, 0, 0, 0, -1000000003),
  (53, .ireturn, 0, 0, 0, 0), (54, .aload_n 0, 0, 0, 0, 0), (55, .getfield 70, 6, 11, 0, 0), (58, .getfield 196, 3, 7, 0, 0), (61, .iload_n 1, 0, 0, 0, 0), (62, .iload_n 3, 0, 0, 0, 0),
  (63, .iastore, 0, 0, 0, 0), (64, .aload_n 0, 0, 0, 0, 0), (65, .getfield 63, 6, 9, 0, 0), (68, .iload_n 3, 0, 0, 0, 0), (69, .invokevirtual 181, 67, 2, 5, 1), (72, .ireturn, 0, 0, 0, 0)]
def tFf_go : xTb := ((⟨"FirstFelt", "go", "(II)I"⟩, prog_1_method_10_code, 4, (some .int)), (0, 0), "FirstFelt", false, iFf_go)
def iFf_build : List (Nat × xE) := [(0, .aload_n 0, 0, 0, 0, 0), (1, .iload_n 1, 0, 0, 0, 0), (2, .iload_n 2, 0, 0, 0, 0), (3, .iload_n 3, 0, 0, 0, 0), (4, .invokevirtual 168, 107, 4, 6, 1), (7, .istore 5, 0, 0, 0, 0),
  (9, .iload 5, 0, 0, 0, 0), (11, .ifCond .eq 6, 0, 0, 0, 0), (14, .iload 5, 0, 0, 0, 0), (16, .ireturn, 0, 0, 0, 0), (17, .aload_n 0, 0, 0, 0, 0), (18, .getfield 63, 6, 9, 0, 0),
  (21, .iload_n 1, 0, 0, 0, 0), (22, .iload_n 2, 0, 0, 0, 0), (23, .invokevirtual 150, 65, 3, 5, 1), (26, .istore 6, 0, 0, 0, 0), (28, .aload_n 0, 0, 0, 0, 0), (29, .getfield 70, 6, 11, 0, 0),
  (32, .iload 6, 0, 0, 0, 0), (34, .iload_n 3, 0, 0, 0, 0), (35, .invokevirtual 172, 33, 3, 3, 1), (38, .istore 7, 0, 0, 0, 0), (40, .aload_n 0, 0, 0, 0, 0), (41, .getfield 70, 6, 11, 0, 0),
  (44, .aload_n 0, 0, 0, 0, 0), (45, .getfield 63, 6, 9, 0, 0), (48, .iload 6, 0, 0, 0, 0), (50, .iload_n 3, 0, 0, 0, 0), (51, .iload 4, 0, 0, 0, 0), (53, .invokevirtual 225, 32, 5, 3, 0),
  (56, .iload 7, 0, 0, 0, 0), (58, .ireturn, 0, 0, 0, 0)]
def tFf_build : xTb := ((⟨"FirstFelt", "build", "(IIIZ)I"⟩, prog_1_method_11_code, 8, (some .int)), (0, 0), "FirstFelt", false, iFf_build)
def iFf_light : List (Nat × xE) := [(0, .aload_n 0, 0, 0, 0, 0), (1, .iload_n 1, 0, 0, 0, 0), (2, .invokevirtual 175, 104, 2, 6, 1), (5, .ifCond .ne 6, 0, 0, 0, 0), (8, .ldc 154, 0, 0, 0, -1000000001), (10, .ireturn, 0, 0, 0, 0),
  (11, .aload_n 0, 0, 0, 0, 0), (12, .getfield 70, 6, 11, 0, 0), (15, .iload_n 1, 0, 0, 0, 0), (16, .invokevirtual 229, 38, 2, 3, 1), (19, .ifCond .ne 6, 0, 0, 0, 0), (22, .ldc 224, 0, 0, 0, -1000000003),
  (24, .ireturn, 0, 0, 0, 0), (25, .aload_n 0, 0, 0, 0, 0), (26, .getfield 70, 6, 11, 0, 0), (29, .getfield 190, 3, 6, 0, 0), (32, .iload_n 1, 0, 0, 0, 0), (33, .iconst 1, 0, 0, 0, 0),
  (34, .iastore, 0, 0, 0, 0), (35, .aload_n 0, 0, 0, 0, 0), (36, .getfield 70, 6, 11, 0, 0), (39, .getfield 187, 3, 5, 0, 0), (42, .iload_n 1, 0, 0, 0, 0), (43, .iaload, 0, 0, 0, 0),
  (44, .ireturn, 0, 0, 0, 0)]
def tFf_light : xTb := ((⟨"FirstFelt", "light", "(I)I"⟩, prog_1_method_12_code, 2, (some .int)), (0, 0), "FirstFelt", false, iFf_light)
def iFf_stoke : List (Nat × xE) := [(0, .aload_n 0, 0, 0, 0, 0), (1, .iload_n 1, 0, 0, 0, 0), (2, .invokevirtual 175, 104, 2, 6, 1), (5, .ifCond .ne 6, 0, 0, 0, 0), (8, .ldc 154, 0, 0, 0, -1000000001), (10, .ireturn, 0, 0, 0, 0),
  (11, .iload_n 2, 0, 0, 0, 0), (12, .iconst 1, 0, 0, 0, 0), (13, .if_icmp .lt 9, 0, 0, 0, 0), (16, .iload_n 2, 0, 0, 0, 0), (17, .bipush 99, 0, 0, 0, 0), (19, .if_icmp .le 6, 0, 0, 0, 0),
  (22, .ldc 76, 0, 0, 0, -1000000002), (24, .ireturn, 0, 0, 0, 0), (25, .aload_n 0, 0, 0, 0, 0), (26, .getfield 70, 6, 11, 0, 0), (29, .getfield 187, 3, 5, 0, 0), (32, .iload_n 1, 0, 0, 0, 0),
  (33, .sipush 999, 0, 0, 0, 0), (36, .aload_n 0, 0, 0, 0, 0), (37, .getfield 70, 6, 11, 0, 0), (40, .getfield 187, 3, 5, 0, 0), (43, .iload_n 1, 0, 0, 0, 0), (44, .iaload, 0, 0, 0, 0),
  (45, .iload_n 2, 0, 0, 0, 0), (46, .iadd, 0, 0, 0, 0), (47, .invokestatic 232, 0, 2, 0, 6), (50, .iastore, 0, 0, 0, 0), (51, .aload_n 0, 0, 0, 0, 0), (52, .getfield 70, 6, 11, 0, 0),
  (55, .getfield 187, 3, 5, 0, 0), (58, .iload_n 1, 0, 0, 0, 0), (59, .iaload, 0, 0, 0, 0), (60, .ireturn, 0, 0, 0, 0)]
def tFf_stoke : xTb := ((⟨"FirstFelt", "stoke", "(II)I"⟩, prog_1_method_13_code, 3, (some .int)), (0, 0), "FirstFelt", false, iFf_stoke)
def iFf_law : List (Nat × xE) := [(0, .iload_n 1, 0, 0, 0, 0), (1, .invokestatic 237, 105, 1, 6, 1), (4, .ifCond .ne 6, 0, 0, 0, 0), (7, .ldc 76, 0, 0, 0, -1000000002), (9, .ireturn, 0, 0, 0, 0), (10, .aload_n 0, 0, 0, 0, 0),
  (11, .getfield 70, 6, 11, 0, 0), (14, .getfield 137, 3, 14, 0, 0), (17, .istore_n 2, 0, 0, 0, 0), (18, .aload_n 0, 0, 0, 0, 0), (19, .getfield 70, 6, 11, 0, 0), (22, .iload_n 1, 0, 0, 0, 0),
  (23, .putfield 137, 3, 14, 0, 0), (26, .iload_n 2, 0, 0, 0, 0), (27, .ireturn, 0, 0, 0, 0)]
def tFf_law : xTb := ((⟨"FirstFelt", "law", "(I)I"⟩, prog_1_method_14_code, 3, (some .int)), (0, 0), "FirstFelt", false, iFf_law)
def iFf_last : List (Nat × xE) := [(0, .iload_n 1, 0, 0, 0, 0), (1, .iconst 1, 0, 0, 0, 0), (2, .if_icmp .lt 9, 0, 0, 0, 0), (5, .iload_n 1, 0, 0, 0, 0), (6, .bipush 20, 0, 0, 0, 0), (8, .if_icmp .le 6, 0, 0, 0, 0),
  (11, .ldc 76, 0, 0, 0, -1000000002), (13, .ireturn, 0, 0, 0, 0), (14, .aload_n 0, 0, 0, 0, 0), (15, .getfield 70, 6, 11, 0, 0), (18, .getfield 140, 3, 15, 0, 0), (21, .istore_n 2, 0, 0, 0, 0),
  (22, .aload_n 0, 0, 0, 0, 0), (23, .getfield 70, 6, 11, 0, 0), (26, .iload_n 1, 0, 0, 0, 0), (27, .putfield 140, 3, 15, 0, 0), (30, .iload_n 2, 0, 0, 0, 0), (31, .ireturn, 0, 0, 0, 0)]
def tFf_last : xTb := ((⟨"FirstFelt", "last", "(I)I"⟩, prog_1_method_15_code, 3, (some .int)), (0, 0), "FirstFelt", false, iFf_last)
def iFf_minute : List (Nat × xE) := [(0, .aload_n 0, 0, 0, 0, 0), (1, .iload_n 1, 0, 0, 0, 0), (2, .invokevirtual 240, 108, 2, 6, 1), (5, .istore_n 2, 0, 0, 0, 0), (6, .iload_n 2, 0, 0, 0, 0), (7, .ifCond .eq 5, 0, 0, 0, 0),
  (10, .iload_n 2, 0, 0, 0, 0), (11, .ireturn, 0, 0, 0, 0), (12, .aload_n 0, 0, 0, 0, 0), (13, .getfield 70, 6, 11, 0, 0), (16, .aload_n 0, 0, 0, 0, 0), (17, .getfield 63, 6, 9, 0, 0),
  (20, .iload_n 1, 0, 0, 0, 0), (21, .iconst (-1), 0, 0, 0, 0), (22, .invokevirtual 243, 41, 4, 3, 0), (25, .aload_n 0, 0, 0, 0, 0), (26, .getfield 70, 6, 11, 0, 0), (29, .getfield 134, 3, 16, 0, 0),
  (32, .ireturn, 0, 0, 0, 0)]
def tFf_minute : xTb := ((⟨"FirstFelt", "minute", "(I)I"⟩, prog_1_method_16_code, 3, (some .int)), (0, 0), "FirstFelt", false, iFf_minute)
def iFf_drift : List (Nat × xE) := [(0, .aload_n 0, 0, 0, 0, 0), (1, .iload_n 1, 0, 0, 0, 0), (2, .invokevirtual 240, 108, 2, 6, 1), (5, .istore_n 2, 0, 0, 0, 0), (6, .iload_n 2, 0, 0, 0, 0), (7, .ifCond .eq 5, 0, 0, 0, 0),
  (10, .iload_n 2, 0, 0, 0, 0), (11, .ireturn, 0, 0, 0, 0), (12, .iconst 0, 0, 0, 0, 0), (13, .istore_n 3, 0, 0, 0, 0), (14, .iload_n 3, 0, 0, 0, 0), (15, .iload_n 1, 0, 0, 0, 0),
  (16, .if_icmp .ge 25, 0, 0, 0, 0), (19, .aload_n 0, 0, 0, 0, 0), (20, .invokevirtual 247, 111, 1, 6, 0), (23, .aload_n 0, 0, 0, 0, 0), (24, .getfield 70, 6, 11, 0, 0), (27, .aload_n 0, 0, 0, 0, 0),
  (28, .getfield 63, 6, 9, 0, 0), (31, .iconst (-1), 0, 0, 0, 0), (32, .invokevirtual 250, 42, 3, 3, 0), (35, .iinc 3 1, 0, 0, 0, 0), (38, .goto (-24), 0, 0, 0, 0), (41, .aload_n 0, 0, 0, 0, 0),
  (42, .getfield 70, 6, 11, 0, 0), (45, .getfield 134, 3, 16, 0, 0), (48, .ireturn, 0, 0, 0, 0)]
def tFf_drift : xTb := ((⟨"FirstFelt", "drift", "(I)I"⟩, prog_1_method_17_code, 4, (some .int)), (0, 0), "FirstFelt", false, iFf_drift)
def iFf_then : List (Nat × xE) := [(0, .aload_n 0, 0, 0, 0, 0), (1, .getfield 63, 6, 9, 0, 0), (4, .iload_n 1, 0, 0, 0, 0), (5, .iload_n 2, 0, 0, 0, 0), (6, .invokevirtual 150, 65, 3, 5, 1), (9, .istore 5, 0, 0, 0, 0),
  (11, .iload 5, 0, 0, 0, 0), (13, .iconst (-1), 0, 0, 0, 0), (14, .if_icmp .ne 6, 0, 0, 0, 0), (17, .ldc 154, 0, 0, 0, -1000000001), (19, .ireturn, 0, 0, 0, 0), (20, .iload_n 3, 0, 0, 0, 0),
  (21, .invokestatic 254, 106, 1, 6, 1), (24, .ifCond .eq 14, 0, 0, 0, 0), (27, .iload 4, 0, 0, 0, 0), (29, .ifCond .lt 9, 0, 0, 0, 0), (32, .iload 4, 0, 0, 0, 0), (34, .iconst 1, 0, 0, 0, 0),
  (35, .if_icmp .le 6, 0, 0, 0, 0), (38, .ldc 76, 0, 0, 0, -1000000002), (40, .ireturn, 0, 0, 0, 0), (41, .aload_n 0, 0, 0, 0, 0), (42, .getfield 39, 6, 5, 0, 0), (45, .aload_n 0, 0, 0, 0, 0),
  (46, .getfield 70, 6, 11, 0, 0), (49, .invokevirtual 257, 31, 2, 3, 0), (52, .aload_n 0, 0, 0, 0, 0), (53, .getfield 39, 6, 5, 0, 0), (56, .aload_n 0, 0, 0, 0, 0), (57, .getfield 63, 6, 9, 0, 0),
  (60, .iload_n 3, 0, 0, 0, 0), (61, .iconst (-1), 0, 0, 0, 0), (62, .invokevirtual 243, 41, 4, 3, 0), (65, .iload 4, 0, 0, 0, 0), (67, .ifCond .ne 16, 0, 0, 0, 0), (70, .aload_n 0, 0, 0, 0, 0),
  (71, .getfield 39, 6, 5, 0, 0), (74, .getfield 155, 3, 0, 0, 0), (77, .iload 5, 0, 0, 0, 0), (79, .iaload, 0, 0, 0, 0), (80, .goto 13, 0, 0, 0, 0), (83, .aload_n 0, 0, 0, 0, 0),
  (84, .getfield 39, 6, 5, 0, 0), (87, .getfield 158, 3, 2, 0, 0), (90, .iload 5, 0, 0, 0, 0), (92, .iaload, 0, 0, 0, 0), (93, .ireturn, 0, 0, 0, 0)]
def tFf_then : xTb := ((⟨"FirstFelt", "then", "(IIII)I"⟩, prog_1_method_18_code, 6, (some .int)), (0, 0), "FirstFelt", false, iFf_then)
def iFf_stands : List (Nat × xE) := [(0, .aload_n 0, 0, 0, 0, 0), (1, .iload_n 1, 0, 0, 0, 0), (2, .invokevirtual 193, 103, 2, 6, 1), (5, .ifCond .ne 6, 0, 0, 0, 0), (8, .ldc 154, 0, 0, 0, -1000000001), (10, .ireturn, 0, 0, 0, 0),
  (11, .iload_n 2, 0, 0, 0, 0), (12, .iconst 1, 0, 0, 0, 0), (13, .if_icmp .lt 8, 0, 0, 0, 0), (16, .iload_n 2, 0, 0, 0, 0), (17, .iconst 5, 0, 0, 0, 0), (18, .if_icmp .le 6, 0, 0, 0, 0),
  (21, .ldc 76, 0, 0, 0, -1000000002), (23, .ireturn, 0, 0, 0, 0), (24, .iload_n 3, 0, 0, 0, 0), (25, .iconst (-1), 0, 0, 0, 0), (26, .if_icmp .eq 14, 0, 0, 0, 0), (29, .iload_n 3, 0, 0, 0, 0),
  (30, .ifCond .lt 8, 0, 0, 0, 0), (33, .iload_n 3, 0, 0, 0, 0), (34, .iload_n 2, 0, 0, 0, 0), (35, .if_icmp .lt 5, 0, 0, 0, 0), (38, .iconst (-1), 0, 0, 0, 0), (39, .ireturn, 0, 0, 0, 0),
  (40, .aload_n 0, 0, 0, 0, 0), (41, .getfield 49, 6, 7, 0, 0), (44, .aload_n 0, 0, 0, 0, 0), (45, .getfield 63, 6, 9, 0, 0), (48, .aload_n 0, 0, 0, 0, 0), (49, .getfield 70, 6, 11, 0, 0),
  (52, .iload_n 1, 0, 0, 0, 0), (53, .iload_n 2, 0, 0, 0, 0), (54, .invokevirtual 261, 59, 5, 4, 0), (57, .aload_n 0, 0, 0, 0, 0), (58, .getfield 49, 6, 7, 0, 0), (61, .iconst 0, 0, 0, 0, 0),
  (62, .invokestatic 265, 116, 2, 6, 0), (65, .iload_n 3, 0, 0, 0, 0), (66, .iconst (-1), 0, 0, 0, 0), (67, .if_icmp .ne 13, 0, 0, 0, 0), (70, .aload_n 0, 0, 0, 0, 0), (71, .getfield 49, 6, 7, 0, 0),
  (74, .getfield 269, 4, 6, 0, 0), (77, .goto 12, 0, 0, 0, 0), (80, .aload_n 0, 0, 0, 0, 0), (81, .getfield 49, 6, 7, 0, 0), (84, .getfield 272, 4, 2, 0, 0), (87, .iload_n 3, 0, 0, 0, 0),
  (88, .iaload, 0, 0, 0, 0), (89, .ireturn, 0, 0, 0, 0)]
def tFf_stands : xTb := ((⟨"FirstFelt", "stands", "(III)I"⟩, prog_1_method_19_code, 4, (some .int)), (0, 0), "FirstFelt", false, iFf_stands)
def iFf_lightFor : List (Nat × xE) := [(0, .aload_n 0, 0, 0, 0, 0), (1, .iload_n 1, 0, 0, 0, 0), (2, .iload_n 2, 0, 0, 0, 0), (3, .iload_n 3, 0, 0, 0, 0), (4, .invokevirtual 275, 109, 4, 6, 1), (7, .istore 4, 0, 0, 0, 0),
  (9, .iload 4, 0, 0, 0, 0), (11, .ifCond .eq 6, 0, 0, 0, 0), (14, .iload 4, 0, 0, 0, 0), (16, .ireturn, 0, 0, 0, 0), (17, .aload_n 0, 0, 0, 0, 0), (18, .getfield 43, 6, 6, 0, 0),
  (21, .aload_n 0, 0, 0, 0, 0), (22, .getfield 70, 6, 11, 0, 0), (25, .invokevirtual 257, 31, 2, 3, 0), (28, .iconst 0, 0, 0, 0, 0), (29, .istore 5, 0, 0, 0, 0), (31, .iload 5, 0, 0, 0, 0),
  (33, .iload_n 3, 0, 0, 0, 0), (34, .if_icmp .gt 42, 0, 0, 0, 0), (37, .aload_n 0, 0, 0, 0, 0), (38, .aload_n 0, 0, 0, 0, 0), (39, .getfield 43, 6, 6, 0, 0), (42, .iload_n 1, 0, 0, 0, 0),
  (43, .iload_n 2, 0, 0, 0, 0), (44, .iload_n 3, 0, 0, 0, 0), (45, .iload 5, 0, 0, 0, 0), (47, .isub, 0, 0, 0, 0), (48, .iconst (-1), 0, 0, 0, 0), (49, .invokevirtual 278, 112, 6, 6, 1),
  (52, .ifCond .eq 6, 0, 0, 0, 0), (55, .iload 5, 0, 0, 0, 0), (57, .ireturn, 0, 0, 0, 0), (58, .aload_n 0, 0, 0, 0, 0), (59, .getfield 43, 6, 6, 0, 0), (62, .aload_n 0, 0, 0, 0, 0),
  (63, .getfield 63, 6, 9, 0, 0), (66, .iconst (-1), 0, 0, 0, 0), (67, .invokevirtual 250, 42, 3, 3, 0), (70, .iinc 5 1, 0, 0, 0, 0), (73, .goto (-42), 0, 0, 0, 0), (76, .iconst (-1), 0, 0, 0, 0),
  (77, .ireturn, 0, 0, 0, 0)]
def tFf_lightFor : xTb := ((⟨"FirstFelt", "lightFor", "(III)I"⟩, prog_1_method_20_code, 6, (some .int)), (0, 0), "FirstFelt", false, iFf_lightFor)
def iFf_keptOut : List (Nat × xE) := [(0, .aload_n 0, 0, 0, 0, 0), (1, .iload_n 1, 0, 0, 0, 0), (2, .iload_n 2, 0, 0, 0, 0), (3, .iload_n 3, 0, 0, 0, 0), (4, .invokevirtual 275, 109, 4, 6, 1), (7, .istore 4, 0, 0, 0, 0),
  (9, .iload 4, 0, 0, 0, 0), (11, .ifCond .eq 6, 0, 0, 0, 0), (14, .iload 4, 0, 0, 0, 0), (16, .ireturn, 0, 0, 0, 0), (17, .aload_n 0, 0, 0, 0, 0), (18, .aload_n 0, 0, 0, 0, 0),
  (19, .getfield 70, 6, 11, 0, 0), (22, .iload_n 1, 0, 0, 0, 0), (23, .iload_n 2, 0, 0, 0, 0), (24, .iload_n 3, 0, 0, 0, 0), (25, .iconst (-1), 0, 0, 0, 0), (26, .invokevirtual 278, 112, 6, 6, 1),
  (29, .ifCond .eq 5, 0, 0, 0, 0), (32, .iconst (-1), 0, 0, 0, 0), (33, .ireturn, 0, 0, 0, 0), (34, .iconst 0, 0, 0, 0, 0), (35, .istore 5, 0, 0, 0, 0), (37, .iload 5, 0, 0, 0, 0),
  (39, .aload_n 0, 0, 0, 0, 0), (40, .getfield 63, 6, 9, 0, 0), (43, .getfield 131, 5, 5, 0, 0), (46, .if_icmp .ge 34, 0, 0, 0, 0), (49, .iload 5, 0, 0, 0, 0), (51, .iload_n 1, 0, 0, 0, 0),
  (52, .if_icmp .eq 22, 0, 0, 0, 0), (55, .aload_n 0, 0, 0, 0, 0), (56, .aload_n 0, 0, 0, 0, 0), (57, .getfield 70, 6, 11, 0, 0), (60, .iload_n 1, 0, 0, 0, 0), (61, .iload_n 2, 0, 0, 0, 0),
  (62, .iload_n 3, 0, 0, 0, 0), (63, .iload 5, 0, 0, 0, 0), (65, .invokevirtual 278, 112, 6, 6, 1), (68, .ifCond .eq 6, 0, 0, 0, 0), (71, .iload 5, 0, 0, 0, 0), (73, .ireturn, 0, 0, 0, 0),
  (74, .iinc 5 1, 0, 0, 0, 0), (77, .goto (-40), 0, 0, 0, 0), (80, .iconst (-1), 0, 0, 0, 0), (81, .ireturn, 0, 0, 0, 0)]
def tFf_keptOut : xTb := ((⟨"FirstFelt", "keptOut", "(III)I"⟩, prog_1_method_21_code, 6, (some .int)), (0, 0), "FirstFelt", false, iFf_keptOut)
def iFf_gain : List (Nat × xE) := [(0, .aload_n 0, 0, 0, 0, 0), (1, .iload_n 1, 0, 0, 0, 0), (2, .invokevirtual 193, 103, 2, 6, 1), (5, .ifCond .ne 6, 0, 0, 0, 0), (8, .ldc 154, 0, 0, 0, -1000000001), (10, .ireturn, 0, 0, 0, 0),
  (11, .aload_n 0, 0, 0, 0, 0), (12, .iload_n 2, 0, 0, 0, 0), (13, .iload_n 3, 0, 0, 0, 0), (14, .iload 4, 0, 0, 0, 0), (16, .invokevirtual 168, 107, 4, 6, 1), (19, .istore 6, 0, 0, 0, 0),
  (21, .iload 6, 0, 0, 0, 0), (23, .ifCond .eq 6, 0, 0, 0, 0), (26, .iload 6, 0, 0, 0, 0), (28, .ireturn, 0, 0, 0, 0), (29, .iload 5, 0, 0, 0, 0), (31, .invokestatic 254, 106, 1, 6, 1),
  (34, .ifCond .ne 6, 0, 0, 0, 0), (37, .ldc 76, 0, 0, 0, -1000000002), (39, .ireturn, 0, 0, 0, 0), (40, .aload_n 0, 0, 0, 0, 0), (41, .getfield 63, 6, 9, 0, 0), (44, .iload_n 2, 0, 0, 0, 0),
  (45, .iload_n 3, 0, 0, 0, 0), (46, .invokevirtual 150, 65, 3, 5, 1), (49, .istore 7, 0, 0, 0, 0), (51, .aload_n 0, 0, 0, 0, 0), (52, .iload_n 1, 0, 0, 0, 0), (53, .iload 7, 0, 0, 0, 0),
  (55, .iload 4, 0, 0, 0, 0), (57, .iload 5, 0, 0, 0, 0), (59, .iconst 1, 0, 0, 0, 0), (60, .invokevirtual 282, 113, 6, 6, 1), (63, .aload_n 0, 0, 0, 0, 0), (64, .iload_n 1, 0, 0, 0, 0),
  (65, .iload 7, 0, 0, 0, 0), (67, .iload 4, 0, 0, 0, 0), (69, .iload 5, 0, 0, 0, 0), (71, .iconst 0, 0, 0, 0, 0), (72, .invokevirtual 282, 113, 6, 6, 1), (75, .isub, 0, 0, 0, 0),
  (76, .ireturn, 0, 0, 0, 0)]
def tFf_gain : xTb := ((⟨"FirstFelt", "gain", "(IIIII)I"⟩, prog_1_method_22_code, 8, (some .int)), (0, 0), "FirstFelt", false, iFf_gain)
def iFf_rents : List (Nat × xE) := [(0, .iload_n 1, 0, 0, 0, 0), (1, .iconst (-1), 0, 0, 0, 0), (2, .if_icmp .eq 14, 0, 0, 0, 0), (5, .aload_n 0, 0, 0, 0, 0), (6, .iload_n 1, 0, 0, 0, 0), (7, .invokevirtual 193, 103, 2, 6, 1),
  (10, .ifCond .ne 6, 0, 0, 0, 0), (13, .ldc 154, 0, 0, 0, -1000000001), (15, .ireturn, 0, 0, 0, 0), (16, .aload_n 0, 0, 0, 0, 0), (17, .getfield 56, 6, 8, 0, 0), (20, .aload_n 0, 0, 0, 0, 0),
  (21, .getfield 63, 6, 9, 0, 0), (24, .aload_n 0, 0, 0, 0, 0), (25, .getfield 70, 6, 11, 0, 0), (28, .invokevirtual 286, 1, 3, 0, 1), (31, .istore_n 2, 0, 0, 0, 0), (32, .iload_n 1, 0, 0, 0, 0),
  (33, .iconst (-1), 0, 0, 0, 0), (34, .if_icmp .eq 8, 0, 0, 0, 0), (37, .iload_n 2, 0, 0, 0, 0), (38, .iconst (-1), 0, 0, 0, 0), (39, .if_icmp .ne 7, 0, 0, 0, 0), (42, .iload_n 2, 0, 0, 0, 0),
  (43, .goto 12, 0, 0, 0, 0), (46, .aload_n 0, 0, 0, 0, 0), (47, .getfield 56, 6, 8, 0, 0), (50, .getfield 290, 0, 0, 0, 0), (53, .iload_n 1, 0, 0, 0, 0), (54, .iaload, 0, 0, 0, 0),
  (55, .ireturn, 0, 0, 0, 0)]
def tFf_rents : xTb := ((⟨"FirstFelt", "rents", "(I)I"⟩, prog_1_method_23_code, 3, (some .int)), (0, 0), "FirstFelt", false, iFf_rents)
def iFf_claim : List (Nat × xE) := [(0, .aload_n 0, 0, 0, 0, 0), (1, .getfield 63, 6, 9, 0, 0), (4, .iload_n 2, 0, 0, 0, 0), (5, .invokevirtual 293, 66, 2, 5, 1), (8, .istore 4, 0, 0, 0, 0), (10, .aload_n 0, 0, 0, 0, 0),
  (11, .iload_n 1, 0, 0, 0, 0), (12, .invokevirtual 193, 103, 2, 6, 1), (15, .ifCond .eq 9, 0, 0, 0, 0), (18, .iload 4, 0, 0, 0, 0), (20, .iconst (-1), 0, 0, 0, 0), (21, .if_icmp .ne 6, 0, 0, 0, 0),
  (24, .ldc 154, 0, 0, 0, -1000000001), (26, .ireturn, 0, 0, 0, 0), (27, .iload_n 3, 0, 0, 0, 0), (28, .ifCond .lt 9, 0, 0, 0, 0), (31, .iload_n 3, 0, 0, 0, 0), (32, .bipush 60, 0, 0, 0, 0),
  (34, .if_icmp .lt 6, 0, 0, 0, 0), (37, .ldc 76, 0, 0, 0, -1000000002), (39, .ireturn, 0, 0, 0, 0), (40, .aload_n 0, 0, 0, 0, 0), (41, .getfield 21, 6, 1, 0, 0), (44, .iload_n 1, 0, 0, 0, 0),
  (45, .iload 4, 0, 0, 0, 0), (47, .iload_n 3, 0, 0, 0, 0), (48, .invokevirtual 296, 8, 4, 1, 1), (51, .ifCond .eq 13, 0, 0, 0, 0), (54, .aload_n 0, 0, 0, 0, 0), (55, .getfield 21, 6, 1, 0, 0),
  (58, .getfield 96, 1, 3, 0, 0), (61, .goto 5, 0, 0, 0, 0), (64, .ldc 85, 0, 0, 0, -1000000004), (66, .ireturn, 0, 0, 0, 0)]
def tFf_claim : xTb := ((⟨"FirstFelt", "claim", "(III)I"⟩, prog_1_method_24_code, 5, (some .int)), (0, 0), "FirstFelt", false, iFf_claim)
def iFf_forged : List (Nat × xE) := [(0, .iconst 0, 0, 0, 0, 0), (1, .istore_n 1, 0, 0, 0, 0), (2, .aload_n 0, 0, 0, 0, 0), (3, .getfield 21, 6, 1, 0, 0), (6, .invokevirtual 300, 9, 1, 1, 1), (9, .istore_n 2, 0, 0, 0, 0),
  (10, .aload_n 0, 0, 0, 0, 0), (11, .getfield 39, 6, 5, 0, 0), (14, .aload_n 0, 0, 0, 0, 0), (15, .getfield 70, 6, 11, 0, 0), (18, .invokevirtual 257, 31, 2, 3, 0), (21, .iconst 0, 0, 0, 0, 0),
  (22, .istore_n 3, 0, 0, 0, 0), (23, .iload_n 3, 0, 0, 0, 0), (24, .iload_n 2, 0, 0, 0, 0), (25, .if_icmp .gt 36, 0, 0, 0, 0), (28, .aload_n 0, 0, 0, 0, 0), (29, .getfield 39, 6, 5, 0, 0),
  (32, .aload_n 0, 0, 0, 0, 0), (33, .getfield 63, 6, 9, 0, 0), (36, .iconst (-1), 0, 0, 0, 0), (37, .invokevirtual 250, 42, 3, 3, 0), (40, .iload_n 1, 0, 0, 0, 0), (41, .aload_n 0, 0, 0, 0, 0),
  (42, .getfield 21, 6, 1, 0, 0), (45, .iload_n 3, 0, 0, 0, 0), (46, .aload_n 0, 0, 0, 0, 0), (47, .getfield 39, 6, 5, 0, 0), (50, .invokevirtual 303, 10, 3, 1, 1), (53, .ior, 0, 0, 0, 0),
  (54, .istore_n 1, 0, 0, 0, 0), (55, .iinc 3 1, 0, 0, 0, 0), (58, .goto (-35), 0, 0, 0, 0), (61, .iload_n 1, 0, 0, 0, 0), (62, .ireturn, 0, 0, 0, 0)]
def tFf_forged : xTb := ((⟨"FirstFelt", "forged", "()I"⟩, prog_1_method_25_code, 4, (some .int)), (0, 0), "FirstFelt", false, iFf_forged)
def iFf_cold : List (Nat × xE) := [(0, .iload_n 1, 0, 0, 0, 0), (1, .invokestatic 237, 105, 1, 6, 1), (4, .ifCond .eq 19, 0, 0, 0, 0), (7, .iload_n 2, 0, 0, 0, 0), (8, .invokestatic 254, 106, 1, 6, 1), (11, .ifCond .eq 12, 0, 0, 0, 0),
  (14, .aload_n 0, 0, 0, 0, 0), (15, .iload_n 1, 0, 0, 0, 0), (16, .iload_n 2, 0, 0, 0, 0), (17, .invokevirtual 307, 114, 3, 6, 1), (20, .goto 5, 0, 0, 0, 0), (23, .ldc 76, 0, 0, 0, -1000000002),
  (25, .ireturn, 0, 0, 0, 0)]
def tFf_cold : xTb := ((⟨"FirstFelt", "cold", "(II)I"⟩, prog_1_method_26_code, 3, (some .int)), (0, 0), "FirstFelt", false, iFf_cold)
def iFf_mildest : List (Nat × xE) := [(0, .iload_n 1, 0, 0, 0, 0), (1, .invokestatic 254, 106, 1, 6, 1), (4, .ifCond .ne 6, 0, 0, 0, 0), (7, .ldc 76, 0, 0, 0, -1000000002), (9, .ireturn, 0, 0, 0, 0), (10, .iconst 0, 0, 0, 0, 0),
  (11, .istore_n 2, 0, 0, 0, 0), (12, .aload_n 0, 0, 0, 0, 0), (13, .iconst 0, 0, 0, 0, 0), (14, .iload_n 1, 0, 0, 0, 0), (15, .invokevirtual 307, 114, 3, 6, 1), (18, .istore_n 3, 0, 0, 0, 0),
  (19, .iconst 1, 0, 0, 0, 0), (20, .istore 4, 0, 0, 0, 0), (22, .iload 4, 0, 0, 0, 0), (24, .iconst 3, 0, 0, 0, 0), (25, .if_icmp .gt 30, 0, 0, 0, 0), (28, .aload_n 0, 0, 0, 0, 0),
  (29, .iload 4, 0, 0, 0, 0), (31, .iload_n 1, 0, 0, 0, 0), (32, .invokevirtual 307, 114, 3, 6, 1), (35, .istore 5, 0, 0, 0, 0), (37, .iload 5, 0, 0, 0, 0), (39, .iload_n 3, 0, 0, 0, 0),
  (40, .if_icmp .ge 9, 0, 0, 0, 0), (43, .iload 5, 0, 0, 0, 0), (45, .istore_n 3, 0, 0, 0, 0), (46, .iload 4, 0, 0, 0, 0), (48, .istore_n 2, 0, 0, 0, 0), (49, .iinc 4 1, 0, 0, 0, 0),
  (52, .goto (-30), 0, 0, 0, 0), (55, .iload_n 2, 0, 0, 0, 0), (56, .ireturn, 0, 0, 0, 0)]
def tFf_mildest : xTb := ((⟨"FirstFelt", "mildest", "(I)I"⟩, prog_1_method_27_code, 6, (some .int)), (0, 0), "FirstFelt", false, iFf_mildest)
def iFf_deed : List (Nat × xE) := [(0, .aload_n 0, 0, 0, 0, 0), (1, .getfield 63, 6, 9, 0, 0), (4, .iload_n 2, 0, 0, 0, 0), (5, .invokevirtual 293, 66, 2, 5, 1), (8, .istore 4, 0, 0, 0, 0), (10, .aload_n 0, 0, 0, 0, 0),
  (11, .iload_n 1, 0, 0, 0, 0), (12, .invokevirtual 193, 103, 2, 6, 1), (15, .ifCond .eq 9, 0, 0, 0, 0), (18, .iload 4, 0, 0, 0, 0), (20, .iconst (-1), 0, 0, 0, 0), (21, .if_icmp .ne 6, 0, 0, 0, 0),
  (24, .ldc 154, 0, 0, 0, -1000000001), (26, .ireturn, 0, 0, 0, 0), (27, .iload_n 3, 0, 0, 0, 0), (28, .invokestatic 254, 106, 1, 6, 1), (31, .ifCond .ne 6, 0, 0, 0, 0), (34, .ldc 76, 0, 0, 0, -1000000002),
  (36, .ireturn, 0, 0, 0, 0), (37, .aload_n 0, 0, 0, 0, 0), (38, .getfield 25, 6, 2, 0, 0), (41, .iload_n 1, 0, 0, 0, 0), (42, .iload 4, 0, 0, 0, 0), (44, .iload_n 3, 0, 0, 0, 0),
  (45, .invokevirtual 296, 8, 4, 1, 1), (48, .ifCond .eq 13, 0, 0, 0, 0), (51, .aload_n 0, 0, 0, 0, 0), (52, .getfield 25, 6, 2, 0, 0), (55, .getfield 96, 1, 3, 0, 0), (58, .goto 5, 0, 0, 0, 0),
  (61, .ldc 85, 0, 0, 0, -1000000004), (63, .ireturn, 0, 0, 0, 0)]
def tFf_deed : xTb := ((⟨"FirstFelt", "deed", "(III)I"⟩, prog_1_method_28_code, 5, (some .int)), (0, 0), "FirstFelt", false, iFf_deed)
def iFf_wasLit : List (Nat × xE) := [(0, .aload_n 0, 0, 0, 0, 0), (1, .iload_n 1, 0, 0, 0, 0), (2, .invokevirtual 175, 104, 2, 6, 1), (5, .ifCond .ne 6, 0, 0, 0, 0), (8, .ldc 154, 0, 0, 0, -1000000001), (10, .ireturn, 0, 0, 0, 0),
  (11, .aload_n 0, 0, 0, 0, 0), (12, .getfield 70, 6, 11, 0, 0), (15, .iload_n 1, 0, 0, 0, 0), (16, .invokevirtual 229, 38, 2, 3, 1), (19, .ifCond .ne 6, 0, 0, 0, 0), (22, .ldc 224, 0, 0, 0, -1000000003),
  (24, .ireturn, 0, 0, 0, 0), (25, .iconst 0, 0, 0, 0, 0), (26, .istore_n 3, 0, 0, 0, 0), (27, .aload_n 0, 0, 0, 0, 0), (28, .getfield 43, 6, 6, 0, 0), (31, .aload_n 0, 0, 0, 0, 0),
  (32, .getfield 70, 6, 11, 0, 0), (35, .invokevirtual 257, 31, 2, 3, 0), (38, .iconst 0, 0, 0, 0, 0), (39, .istore 4, 0, 0, 0, 0), (41, .iload 4, 0, 0, 0, 0), (43, .bipush 60, 0, 0, 0, 0),
  (45, .if_icmp .ge 63, 0, 0, 0, 0), (48, .aload_n 0, 0, 0, 0, 0), (49, .iload_n 1, 0, 0, 0, 0), (50, .iload 4, 0, 0, 0, 0), (52, .invokevirtual 310, 115, 3, 6, 1), (55, .ifCond .eq 14, 0, 0, 0, 0),
  (58, .iload_n 3, 0, 0, 0, 0), (59, .iload_n 2, 0, 0, 0, 0), (60, .if_icmp .ne 6, 0, 0, 0, 0), (63, .iload 4, 0, 0, 0, 0), (65, .ireturn, 0, 0, 0, 0), (66, .iinc 3 1, 0, 0, 0, 0),
  (69, .aload_n 0, 0, 0, 0, 0), (70, .getfield 43, 6, 6, 0, 0), (73, .aload_n 0, 0, 0, 0, 0), (74, .getfield 63, 6, 9, 0, 0), (77, .iconst (-1), 0, 0, 0, 0), (78, .invokevirtual 250, 42, 3, 3, 0),
  (81, .aload_n 0, 0, 0, 0, 0), (82, .getfield 25, 6, 2, 0, 0), (85, .iload 4, 0, 0, 0, 0), (87, .iconst 1, 0, 0, 0, 0), (88, .iadd, 0, 0, 0, 0), (89, .aload_n 0, 0, 0, 0, 0),
  (90, .getfield 43, 6, 6, 0, 0), (93, .invokevirtual 314, 11, 3, 1, 1), (96, .ifCond .ne 6, 0, 0, 0, 0), (99, .goto 9, 0, 0, 0, 0), (102, .iinc 4 1, 0, 0, 0, 0), (105, .goto (-64), 0, 0, 0, 0),
  (108, .iload_n 2, 0, 0, 0, 0), (109, .iconst (-1), 0, 0, 0, 0), (110, .if_icmp .ne 7, 0, 0, 0, 0), (113, .iload_n 3, 0, 0, 0, 0), (114, .goto 4, 0, 0, 0, 0), (117, .iconst (-1), 0, 0, 0, 0),
  (118, .ireturn, 0, 0, 0, 0)]
def tFf_wasLit : xTb := ((⟨"FirstFelt", "wasLit", "(II)I"⟩, prog_1_method_29_code, 5, (some .int)), (0, 0), "FirstFelt", false, iFf_wasLit)
def iFf_tear : List (Nat × xE) := [(0, .aload_n 0, 0, 0, 0, 0), (1, .getfield 21, 6, 1, 0, 0), (4, .getfield 96, 1, 3, 0, 0), (7, .aload_n 0, 0, 0, 0, 0), (8, .getfield 25, 6, 2, 0, 0), (11, .getfield 96, 1, 3, 0, 0),
  (14, .iadd, 0, 0, 0, 0), (15, .istore_n 1, 0, 0, 0, 0), (16, .aload_n 0, 0, 0, 0, 0), (17, .getfield 21, 6, 1, 0, 0), (20, .iconst 0, 0, 0, 0, 0), (21, .putfield 96, 1, 3, 0, 0),
  (24, .aload_n 0, 0, 0, 0, 0), (25, .getfield 25, 6, 2, 0, 0), (28, .iconst 0, 0, 0, 0, 0), (29, .putfield 96, 1, 3, 0, 0), (32, .iload_n 1, 0, 0, 0, 0), (33, .ireturn, 0, 0, 0, 0)]
def tFf_tear : xTb := ((⟨"FirstFelt", "tear", "()I"⟩, prog_1_method_30_code, 2, (some .int)), (0, 0), "FirstFelt", false, iFf_tear)
def iFf_seed : List (Nat × xE) := [(0, .iload_n 1, 0, 0, 0, 0), (1, .ifCond .ge 6, 0, 0, 0, 0), (4, .ldc 76, 0, 0, 0, -1000000002), (6, .ireturn, 0, 0, 0, 0), (7, .aload_n 0, 0, 0, 0, 0), (8, .getfield 70, 6, 11, 0, 0),
  (11, .getfield 86, 3, 17, 0, 0), (14, .istore_n 2, 0, 0, 0, 0), (15, .aload_n 0, 0, 0, 0, 0), (16, .getfield 70, 6, 11, 0, 0), (19, .iload_n 1, 0, 0, 0, 0), (20, .putfield 86, 3, 17, 0, 0),
  (23, .iload_n 2, 0, 0, 0, 0), (24, .ireturn, 0, 0, 0, 0)]
def tFf_seed : xTb := ((⟨"FirstFelt", "seed", "(I)I"⟩, prog_1_method_31_code, 3, (some .int)), (0, 0), "FirstFelt", false, iFf_seed)
def iFf_keep : List (Nat × xE) := [(0, .iload_n 1, 0, 0, 0, 0), (1, .ifCond .lt 8, 0, 0, 0, 0), (4, .iload_n 1, 0, 0, 0, 0), (5, .iconst 2, 0, 0, 0, 0), (6, .if_icmp .lt 6, 0, 0, 0, 0), (9, .ldc 154, 0, 0, 0, -1000000001),
  (11, .ireturn, 0, 0, 0, 0), (12, .aload_n 0, 0, 0, 0, 0), (13, .getfield 30, 6, 3, 0, 0), (16, .iload_n 1, 0, 0, 0, 0), (17, .aaload, 0, 0, 0, 0), (18, .aload_n 0, 0, 0, 0, 0),
  (19, .getfield 70, 6, 11, 0, 0), (22, .invokevirtual 257, 31, 2, 3, 0), (25, .aload_n 0, 0, 0, 0, 0), (26, .getfield 34, 6, 4, 0, 0), (29, .iload_n 1, 0, 0, 0, 0), (30, .iconst 1, 0, 0, 0, 0),
  (31, .iastore, 0, 0, 0, 0), (32, .iconst 1, 0, 0, 0, 0), (33, .ireturn, 0, 0, 0, 0)]
def tFf_keep : xTb := ((⟨"FirstFelt", "keep", "(I)I"⟩, prog_1_method_32_code, 2, (some .int)), (0, 0), "FirstFelt", false, iFf_keep)
def iFf_goBack : List (Nat × xE) := [(0, .iload_n 1, 0, 0, 0, 0), (1, .ifCond .lt 8, 0, 0, 0, 0), (4, .iload_n 1, 0, 0, 0, 0), (5, .iconst 2, 0, 0, 0, 0), (6, .if_icmp .lt 6, 0, 0, 0, 0), (9, .ldc 154, 0, 0, 0, -1000000001),
  (11, .ireturn, 0, 0, 0, 0), (12, .aload_n 0, 0, 0, 0, 0), (13, .getfield 34, 6, 4, 0, 0), (16, .iload_n 1, 0, 0, 0, 0), (17, .iaload, 0, 0, 0, 0), (18, .ifCond .ne 6, 0, 0, 0, 0),
  (21, .ldc 224, 0, 0, 0, -1000000003), (23, .ireturn, 0, 0, 0, 0), (24, .aload_n 0, 0, 0, 0, 0), (25, .getfield 70, 6, 11, 0, 0), (28, .aload_n 0, 0, 0, 0, 0), (29, .getfield 30, 6, 3, 0, 0),
  (32, .iload_n 1, 0, 0, 0, 0), (33, .aaload, 0, 0, 0, 0), (34, .invokevirtual 257, 31, 2, 3, 0), (37, .iconst 1, 0, 0, 0, 0), (38, .ireturn, 0, 0, 0, 0)]
def tFf_goBack : xTb := ((⟨"FirstFelt", "goBack", "(I)I"⟩, prog_1_method_33_code, 2, (some .int)), (0, 0), "FirstFelt", false, iFf_goBack)
def iFf_isPerson : List (Nat × xE) := [(0, .iload_n 1, 0, 0, 0, 0), (1, .ifCond .lt 18, 0, 0, 0, 0), (4, .iload_n 1, 0, 0, 0, 0), (5, .aload_n 0, 0, 0, 0, 0), (6, .getfield 63, 6, 9, 0, 0), (9, .getfield 131, 5, 5, 0, 0),
  (12, .if_icmp .ge 7, 0, 0, 0, 0), (15, .iconst 1, 0, 0, 0, 0), (16, .goto 4, 0, 0, 0, 0), (19, .iconst 0, 0, 0, 0, 0), (20, .ireturn, 0, 0, 0, 0)]
def tFf_isPerson : xTb := ((⟨"FirstFelt", "isPerson", "(I)Z"⟩, prog_1_method_34_code, 2, (some .boolean)), (0, 0), "FirstFelt", true, iFf_isPerson)
def iFf_isStove : List (Nat × xE) := [(0, .iload_n 1, 0, 0, 0, 0), (1, .ifCond .lt 18, 0, 0, 0, 0), (4, .iload_n 1, 0, 0, 0, 0), (5, .aload_n 0, 0, 0, 0, 0), (6, .getfield 63, 6, 9, 0, 0), (9, .getfield 122, 5, 2, 0, 0),
  (12, .if_icmp .ge 7, 0, 0, 0, 0), (15, .iconst 1, 0, 0, 0, 0), (16, .goto 4, 0, 0, 0, 0), (19, .iconst 0, 0, 0, 0, 0), (20, .ireturn, 0, 0, 0, 0)]
def tFf_isStove : xTb := ((⟨"FirstFelt", "isStove", "(I)Z"⟩, prog_1_method_35_code, 2, (some .boolean)), (0, 0), "FirstFelt", true, iFf_isStove)
def iFf_isLaw : List (Nat × xE) := [(0, .iload_n 0, 0, 0, 0, 0), (1, .ifCond .lt 12, 0, 0, 0, 0), (4, .iload_n 0, 0, 0, 0, 0), (5, .iconst 3, 0, 0, 0, 0), (6, .if_icmp .gt 7, 0, 0, 0, 0), (9, .iconst 1, 0, 0, 0, 0),
  (10, .goto 4, 0, 0, 0, 0), (13, .iconst 0, 0, 0, 0, 0), (14, .ireturn, 0, 0, 0, 0)]
def tFf_isLaw : xTb := ((⟨"FirstFelt", "isLaw", "(I)Z"⟩, prog_1_method_36_code, 1, (some .boolean)), (0, 0), "FirstFelt", true, iFf_isLaw)
def iFf_isSpan : List (Nat × xE) := [(0, .iload_n 0, 0, 0, 0, 0), (1, .iconst 1, 0, 0, 0, 0), (2, .if_icmp .lt 13, 0, 0, 0, 0), (5, .iload_n 0, 0, 0, 0, 0), (6, .bipush 60, 0, 0, 0, 0), (8, .if_icmp .gt 7, 0, 0, 0, 0),
  (11, .iconst 1, 0, 0, 0, 0), (12, .goto 4, 0, 0, 0, 0), (15, .iconst 0, 0, 0, 0, 0), (16, .ireturn, 0, 0, 0, 0)]
def tFf_isSpan : xTb := ((⟨"FirstFelt", "isSpan", "(I)Z"⟩, prog_1_method_37_code, 1, (some .boolean)), (0, 0), "FirstFelt", true, iFf_isSpan)
def iFf_refusalOfWall : List (Nat × xE) := [(0, .aload_n 0, 0, 0, 0, 0), (1, .getfield 63, 6, 9, 0, 0), (4, .iload_n 1, 0, 0, 0, 0), (5, .iload_n 2, 0, 0, 0, 0), (6, .invokevirtual 150, 65, 3, 5, 1), (9, .istore 4, 0, 0, 0, 0),
  (11, .iload 4, 0, 0, 0, 0), (13, .iconst (-1), 0, 0, 0, 0), (14, .if_icmp .ne 6, 0, 0, 0, 0), (17, .ldc 154, 0, 0, 0, -1000000001), (19, .ireturn, 0, 0, 0, 0), (20, .iload_n 3, 0, 0, 0, 0),
  (21, .ifCond .lt 8, 0, 0, 0, 0), (24, .iload_n 3, 0, 0, 0, 0), (25, .iconst 1, 0, 0, 0, 0), (26, .if_icmp .le 6, 0, 0, 0, 0), (29, .ldc 76, 0, 0, 0, -1000000002), (31, .ireturn, 0, 0, 0, 0),
  (32, .aload_n 0, 0, 0, 0, 0), (33, .getfield 63, 6, 9, 0, 0), (36, .iload 4, 0, 0, 0, 0), (38, .iload_n 3, 0, 0, 0, 0), (39, .invokestatic 318, 110, 1, 6, 1), (42, .invokevirtual 321, 68, 3, 5, 1),
  (45, .iconst (-1), 0, 0, 0, 0), (46, .if_icmp .ne 8, 0, 0, 0, 0), (49, .ldc 154, 0, 0, 0, -1000000001), (51, .goto 4, 0, 0, 0, 0), (54, .iconst 0, 0, 0, 0, 0), (55, .ireturn, 0, 0, 0, 0)]
def tFf_refusalOfWall : xTb := ((⟨"FirstFelt", "refusalOfWall", "(III)I"⟩, prog_1_method_38_code, 5, (some .int)), (0, 0), "FirstFelt", false, iFf_refusalOfWall)
def iFf_refusalOfMinutes : List (Nat × xE) := [(0, .iload_n 1, 0, 0, 0, 0), (1, .invokestatic 254, 106, 1, 6, 1), (4, .ifCond .ne 6, 0, 0, 0, 0), (7, .ldc 76, 0, 0, 0, -1000000002), (9, .ireturn, 0, 0, 0, 0), (10, .aload_n 0, 0, 0, 0, 0),
  (11, .getfield 63, 6, 9, 0, 0), (14, .invokevirtual 105, 64, 1, 5, 1), (17, .ifCond .ne 6, 0, 0, 0, 0), (20, .ldc 224, 0, 0, 0, -1000000003), (22, .ireturn, 0, 0, 0, 0), (23, .aload_n 0, 0, 0, 0, 0),
  (24, .getfield 70, 6, 11, 0, 0), (27, .getfield 134, 3, 16, 0, 0), (30, .ldc_w 324, 0, 0, 0, 900000), (33, .if_icmp .le 8, 0, 0, 0, 0), (36, .ldc 85, 0, 0, 0, -1000000004), (38, .goto 4, 0, 0, 0, 0),
  (41, .iconst 0, 0, 0, 0, 0), (42, .ireturn, 0, 0, 0, 0)]
def tFf_refusalOfMinutes : xTb := ((⟨"FirstFelt", "refusalOfMinutes", "(I)I"⟩, prog_1_method_39_code, 2, (some .int)), (0, 0), "FirstFelt", false, iFf_refusalOfMinutes)
def iFf_refusalOfLighting : List (Nat × xE) := [(0, .aload_n 0, 0, 0, 0, 0), (1, .iload_n 1, 0, 0, 0, 0), (2, .invokevirtual 193, 103, 2, 6, 1), (5, .ifCond .eq 11, 0, 0, 0, 0), (8, .aload_n 0, 0, 0, 0, 0), (9, .iload_n 2, 0, 0, 0, 0),
  (10, .invokevirtual 175, 104, 2, 6, 1), (13, .ifCond .ne 6, 0, 0, 0, 0), (16, .ldc 154, 0, 0, 0, -1000000001), (18, .ireturn, 0, 0, 0, 0), (19, .iload_n 3, 0, 0, 0, 0), (20, .iconst 1, 0, 0, 0, 0),
  (21, .if_icmp .lt 9, 0, 0, 0, 0), (24, .iload_n 3, 0, 0, 0, 0), (25, .bipush 30, 0, 0, 0, 0), (27, .if_icmp .le 6, 0, 0, 0, 0), (30, .ldc 76, 0, 0, 0, -1000000002), (32, .ireturn, 0, 0, 0, 0),
  (33, .aload_n 0, 0, 0, 0, 0), (34, .getfield 70, 6, 11, 0, 0), (37, .iload_n 2, 0, 0, 0, 0), (38, .invokevirtual 229, 38, 2, 3, 1), (41, .ifCond .eq 7, 0, 0, 0, 0), (44, .iconst 0, 0, 0, 0, 0),
  (45, .goto 5, 0, 0, 0, 0), (48, .ldc 224, 0, 0, 0, -1000000003), (50, .ireturn, 0, 0, 0, 0)]
def tFf_refusalOfLighting : xTb := ((⟨"FirstFelt", "refusalOfLighting", "(III)I"⟩, prog_1_method_40_code, 4, (some .int)), (0, 0), "FirstFelt", false, iFf_refusalOfLighting)
def iFf_wayOfWall : List (Nat × xE) := [(0, .iload_n 0, 0, 0, 0, 0), (1, .ifCond .ne 7, 0, 0, 0, 0), (4, .iconst 2, 0, 0, 0, 0), (5, .goto 4, 0, 0, 0, 0), (8, .iconst 3, 0, 0, 0, 0), (9, .ireturn, 0, 0, 0, 0)]
def tFf_wayOfWall : xTb := ((⟨"FirstFelt", "wayOfWall", "(I)I"⟩, prog_1_method_41_code, 1, (some .int)), (0, 0), "FirstFelt", false, iFf_wayOfWall)
def iFf_wander : List (Nat × xE) := [(0, .iconst 0, 0, 0, 0, 0), (1, .istore_n 1, 0, 0, 0, 0), (2, .iload_n 1, 0, 0, 0, 0), (3, .aload_n 0, 0, 0, 0, 0), (4, .getfield 63, 6, 9, 0, 0), (7, .getfield 131, 5, 5, 0, 0),
  (10, .if_icmp .ge 53, 0, 0, 0, 0), (13, .aload_n 0, 0, 0, 0, 0), (14, .getfield 70, 6, 11, 0, 0), (17, .aload_n 0, 0, 0, 0, 0), (18, .getfield 63, 6, 9, 0, 0), (21, .aload_n 0, 0, 0, 0, 0),
  (22, .getfield 70, 6, 11, 0, 0), (25, .getfield 196, 3, 7, 0, 0), (28, .iload_n 1, 0, 0, 0, 0), (29, .iaload, 0, 0, 0, 0), (30, .aload_n 0, 0, 0, 0, 0), (31, .getfield 70, 6, 11, 0, 0),
  (34, .iconst 5, 0, 0, 0, 0), (35, .invokevirtual 325, 40, 2, 3, 1), (38, .invokevirtual 220, 35, 4, 3, 1), (41, .istore_n 2, 0, 0, 0, 0), (42, .iload_n 2, 0, 0, 0, 0), (43, .iconst (-1), 0, 0, 0, 0),
  (44, .if_icmp .eq 13, 0, 0, 0, 0), (47, .aload_n 0, 0, 0, 0, 0), (48, .getfield 70, 6, 11, 0, 0), (51, .getfield 196, 3, 7, 0, 0), (54, .iload_n 1, 0, 0, 0, 0), (55, .iload_n 2, 0, 0, 0, 0),
  (56, .iastore, 0, 0, 0, 0), (57, .iinc 1 1, 0, 0, 0, 0), (60, .goto (-58), 0, 0, 0, 0), (63, .aload_n 0, 0, 0, 0, 0), (64, .getfield 70, 6, 11, 0, 0), (67, .bipush 20, 0, 0, 0, 0),
  (69, .invokevirtual 325, 40, 2, 3, 1), (72, .ifCond .ne 49, 0, 0, 0, 0), (75, .aload_n 0, 0, 0, 0, 0), (76, .getfield 63, 6, 9, 0, 0), (79, .getfield 122, 5, 2, 0, 0), (82, .ifCond .le 39, 0, 0, 0, 0),
  (85, .aload_n 0, 0, 0, 0, 0), (86, .getfield 70, 6, 11, 0, 0), (89, .aload_n 0, 0, 0, 0, 0), (90, .getfield 63, 6, 9, 0, 0), (93, .getfield 122, 5, 2, 0, 0), (96, .invokevirtual 325, 40, 2, 3, 1),
  (99, .istore_n 1, 0, 0, 0, 0), (100, .aload_n 0, 0, 0, 0, 0), (101, .getfield 70, 6, 11, 0, 0), (104, .iload_n 1, 0, 0, 0, 0), (105, .invokevirtual 229, 38, 2, 3, 1), (108, .ifCond .eq 13, 0, 0, 0, 0),
  (111, .aload_n 0, 0, 0, 0, 0), (112, .getfield 70, 6, 11, 0, 0), (115, .getfield 190, 3, 6, 0, 0), (118, .iload_n 1, 0, 0, 0, 0), (119, .iconst 1, 0, 0, 0, 0), (120, .iastore, 0, 0, 0, 0),
  (121, .return_, 0, 0, 0, 0)]
def tFf_wander : xTb := ((⟨"FirstFelt", "wander", "()V"⟩, prog_1_method_42_code, 3, none), (0, 0), "FirstFelt", false, iFf_wander)
def iFf_ownsStove : List (Nat × xE) := [(0, .aload_n 0, 0, 0, 0, 0), (1, .getfield 39, 6, 5, 0, 0), (4, .aload_n 1, 0, 0, 0, 0), (5, .invokevirtual 257, 31, 2, 3, 0), (8, .aload_n 0, 0, 0, 0, 0), (9, .getfield 39, 6, 5, 0, 0),
  (12, .getfield 190, 3, 6, 0, 0), (15, .iload_n 3, 0, 0, 0, 0), (16, .iconst 1, 0, 0, 0, 0), (17, .iastore, 0, 0, 0, 0), (18, .aload_n 0, 0, 0, 0, 0), (19, .getfield 39, 6, 5, 0, 0),
  (22, .aload_n 0, 0, 0, 0, 0), (23, .getfield 63, 6, 9, 0, 0), (26, .iload 4, 0, 0, 0, 0), (28, .iload 5, 0, 0, 0, 0), (30, .invokevirtual 243, 41, 4, 3, 0), (33, .aload_n 0, 0, 0, 0, 0),
  (34, .getfield 39, 6, 5, 0, 0), (37, .getfield 158, 3, 2, 0, 0), (40, .aload_n 0, 0, 0, 0, 0), (41, .getfield 63, 6, 9, 0, 0), (44, .getfield 178, 5, 9, 0, 0), (47, .iload_n 3, 0, 0, 0, 0),
  (48, .iaload, 0, 0, 0, 0), (49, .iaload, 0, 0, 0, 0), (50, .iload_n 2, 0, 0, 0, 0), (51, .if_icmp .ne 7, 0, 0, 0, 0), (54, .iconst 1, 0, 0, 0, 0), (55, .goto 4, 0, 0, 0, 0),
  (58, .iconst 0, 0, 0, 0, 0), (59, .ireturn, 0, 0, 0, 0)]
def tFf_ownsStove : xTb := ((⟨"FirstFelt", "ownsStove", "(LFirstFelt$State;IIII)Z"⟩, prog_1_method_43_code, 6, (some .boolean)), (0, 0), "FirstFelt", true, iFf_ownsStove)
def iFf_ownedWithWall : List (Nat × xE) := [(0, .aload_n 0, 0, 0, 0, 0), (1, .getfield 39, 6, 5, 0, 0), (4, .aload_n 0, 0, 0, 0, 0), (5, .getfield 70, 6, 11, 0, 0), (8, .invokevirtual 257, 31, 2, 3, 0), (11, .aload_n 0, 0, 0, 0, 0),
  (12, .getfield 39, 6, 5, 0, 0), (15, .aload_n 0, 0, 0, 0, 0), (16, .getfield 63, 6, 9, 0, 0), (19, .iload_n 2, 0, 0, 0, 0), (20, .iload_n 3, 0, 0, 0, 0), (21, .iload 5, 0, 0, 0, 0),
  (23, .invokevirtual 225, 32, 5, 3, 0), (26, .aload_n 0, 0, 0, 0, 0), (27, .getfield 39, 6, 5, 0, 0), (30, .aload_n 0, 0, 0, 0, 0), (31, .getfield 63, 6, 9, 0, 0), (34, .iload 4, 0, 0, 0, 0),
  (36, .iconst (-1), 0, 0, 0, 0), (37, .invokevirtual 243, 41, 4, 3, 0), (40, .aload_n 0, 0, 0, 0, 0), (41, .getfield 39, 6, 5, 0, 0), (44, .aload_n 0, 0, 0, 0, 0), (45, .getfield 63, 6, 9, 0, 0),
  (48, .iload_n 1, 0, 0, 0, 0), (49, .invokevirtual 214, 37, 3, 3, 1), (52, .ireturn, 0, 0, 0, 0)]
def tFf_ownedWithWall : xTb := ((⟨"FirstFelt", "ownedWithWall", "(IIIIZ)I"⟩, prog_1_method_44_code, 6, (some .int)), (0, 0), "FirstFelt", false, iFf_ownedWithWall)
def iFf_countFreezing : List (Nat × xE) := [(0, .aload_n 0, 0, 0, 0, 0), (1, .getfield 39, 6, 5, 0, 0), (4, .aload_n 0, 0, 0, 0, 0), (5, .getfield 70, 6, 11, 0, 0), (8, .invokevirtual 257, 31, 2, 3, 0), (11, .aload_n 0, 0, 0, 0, 0),
  (12, .getfield 39, 6, 5, 0, 0), (15, .iload_n 1, 0, 0, 0, 0), (16, .putfield 137, 3, 14, 0, 0), (19, .aload_n 0, 0, 0, 0, 0), (20, .getfield 39, 6, 5, 0, 0), (23, .iconst 0, 0, 0, 0, 0),
  (24, .putfield 147, 3, 13, 0, 0), (27, .iconst 0, 0, 0, 0, 0), (28, .istore_n 3, 0, 0, 0, 0), (29, .iload_n 3, 0, 0, 0, 0), (30, .iload_n 2, 0, 0, 0, 0), (31, .if_icmp .ge 32, 0, 0, 0, 0),
  (34, .aload_n 0, 0, 0, 0, 0), (35, .getfield 39, 6, 5, 0, 0), (38, .aload_n 0, 0, 0, 0, 0), (39, .getfield 63, 6, 9, 0, 0), (42, .invokevirtual 328, 56, 2, 3, 0), (45, .aload_n 0, 0, 0, 0, 0),
  (46, .getfield 39, 6, 5, 0, 0), (49, .aload_n 0, 0, 0, 0, 0), (50, .getfield 63, 6, 9, 0, 0), (53, .iconst (-1), 0, 0, 0, 0), (54, .invokevirtual 250, 42, 3, 3, 0), (57, .iinc 3 1, 0, 0, 0, 0),
  (60, .goto (-31), 0, 0, 0, 0), (63, .aload_n 0, 0, 0, 0, 0), (64, .getfield 39, 6, 5, 0, 0), (67, .getfield 147, 3, 13, 0, 0), (70, .invokestatic 332, 207, 1, 0, 1), (73, .ireturn, 0, 0, 0, 0)]
def tFf_countFreezing : xTb := ((⟨"FirstFelt", "countFreezing", "(II)I"⟩, prog_1_method_45_code, 4, (some .int)), (0, 0), "FirstFelt", false, iFf_countFreezing)
def iFf_fitsLitNow : List (Nat × xE) := [(0, .aload_n 0, 0, 0, 0, 0), (1, .getfield 25, 6, 2, 0, 0), (4, .invokevirtual 300, 9, 1, 1, 1), (7, .istore_n 3, 0, 0, 0, 0), (8, .aload_n 0, 0, 0, 0, 0), (9, .getfield 39, 6, 5, 0, 0),
  (12, .aload_n 0, 0, 0, 0, 0), (13, .getfield 43, 6, 6, 0, 0), (16, .invokevirtual 257, 31, 2, 3, 0), (19, .aload_n 0, 0, 0, 0, 0), (20, .getfield 39, 6, 5, 0, 0), (23, .getfield 190, 3, 6, 0, 0),
  (26, .iload_n 1, 0, 0, 0, 0), (27, .iconst 1, 0, 0, 0, 0), (28, .iastore, 0, 0, 0, 0), (29, .iload_n 2, 0, 0, 0, 0), (30, .iconst 1, 0, 0, 0, 0), (31, .iadd, 0, 0, 0, 0),
  (32, .istore 4, 0, 0, 0, 0), (34, .iload 4, 0, 0, 0, 0), (36, .iload_n 3, 0, 0, 0, 0), (37, .if_icmp .gt 39, 0, 0, 0, 0), (40, .aload_n 0, 0, 0, 0, 0), (41, .getfield 39, 6, 5, 0, 0),
  (44, .aload_n 0, 0, 0, 0, 0), (45, .getfield 63, 6, 9, 0, 0), (48, .iconst (-1), 0, 0, 0, 0), (49, .invokevirtual 250, 42, 3, 3, 0), (52, .aload_n 0, 0, 0, 0, 0), (53, .getfield 25, 6, 2, 0, 0),
  (56, .iload 4, 0, 0, 0, 0), (58, .aload_n 0, 0, 0, 0, 0), (59, .getfield 39, 6, 5, 0, 0), (62, .invokevirtual 314, 11, 3, 1, 1), (65, .ifCond .ne 5, 0, 0, 0, 0), (68, .iconst 0, 0, 0, 0, 0),
  (69, .ireturn, 0, 0, 0, 0), (70, .iinc 4 1, 0, 0, 0, 0), (73, .goto (-39), 0, 0, 0, 0), (76, .iconst 1, 0, 0, 0, 0), (77, .ireturn, 0, 0, 0, 0)]
def tFf_fitsLitNow : xTb := ((⟨"FirstFelt", "fitsLitNow", "(II)Z"⟩, prog_1_method_46_code, 5, (some .boolean)), (0, 0), "FirstFelt", true, iFf_fitsLitNow)
def iFf_tryWays : List (Nat × xE) := [(0, .iload_n 1, 0, 0, 0, 0), (1, .iconst 5, 0, 0, 0, 0), (2, .if_icmp .le 4, 0, 0, 0, 0), (5, .return_, 0, 0, 0, 0), (6, .aload_n 0, 0, 0, 0, 0), (7, .getfield 337, 4, 0, 0, 0),
  (10, .iload_n 1, 0, 0, 0, 0), (11, .aaload, 0, 0, 0, 0), (12, .astore_n 2, 0, 0, 0, 0), (13, .aload_n 2, 0, 0, 0, 0), (14, .aload_n 0, 0, 0, 0, 0), (15, .getfield 340, 4, 3, 0, 0),
  (18, .aload_n 0, 0, 0, 0, 0), (19, .getfield 341, 4, 4, 0, 0), (22, .invokevirtual 214, 37, 3, 3, 1), (25, .istore_n 3, 0, 0, 0, 0), (26, .iload_n 1, 0, 0, 0, 0), (27, .aload_n 0, 0, 0, 0, 0),
  (28, .getfield 344, 4, 5, 0, 0), (31, .if_icmp .lt 9, 0, 0, 0, 0), (34, .aload_n 0, 0, 0, 0, 0), (35, .iload_n 3, 0, 0, 0, 0), (36, .invokevirtual 345, 60, 2, 4, 0), (39, .return_, 0, 0, 0, 0),
  (40, .iload_n 3, 0, 0, 0, 0), (41, .aload_n 0, 0, 0, 0, 0), (42, .getfield 344, 4, 5, 0, 0), (45, .iadd, 0, 0, 0, 0), (46, .iload_n 1, 0, 0, 0, 0), (47, .isub, 0, 0, 0, 0),
  (48, .aload_n 0, 0, 0, 0, 0), (49, .getfield 269, 4, 6, 0, 0), (52, .if_icmp .gt 4, 0, 0, 0, 0), (55, .return_, 0, 0, 0, 0), (56, .aload_n 0, 0, 0, 0, 0), (57, .getfield 337, 4, 0, 0, 0),
  (60, .iload_n 1, 0, 0, 0, 0), (61, .iconst 1, 0, 0, 0, 0), (62, .iadd, 0, 0, 0, 0), (63, .aaload, 0, 0, 0, 0), (64, .astore 4, 0, 0, 0, 0), (66, .iconst 0, 0, 0, 0, 0),
  (67, .istore 5, 0, 0, 0, 0), (69, .iload 5, 0, 0, 0, 0), (71, .iconst 4, 0, 0, 0, 0), (72, .if_icmp .gt 79, 0, 0, 0, 0), (75, .aload_n 2, 0, 0, 0, 0), (76, .aload_n 0, 0, 0, 0, 0),
  (77, .getfield 340, 4, 3, 0, 0), (80, .aload_n 2, 0, 0, 0, 0), (81, .getfield 196, 3, 7, 0, 0), (84, .aload_n 0, 0, 0, 0, 0), (85, .getfield 341, 4, 4, 0, 0), (88, .iaload, 0, 0, 0, 0),
  (89, .iload 5, 0, 0, 0, 0), (91, .invokevirtual 220, 35, 4, 3, 1), (94, .istore 6, 0, 0, 0, 0), (96, .iload 6, 0, 0, 0, 0), (98, .iconst (-1), 0, 0, 0, 0), (99, .if_icmp .eq 46, 0, 0, 0, 0),
  (102, .aload 4, 0, 0, 0, 0), (104, .aload_n 2, 0, 0, 0, 0), (105, .invokevirtual 257, 31, 2, 3, 0), (108, .aload 4, 0, 0, 0, 0), (110, .getfield 196, 3, 7, 0, 0), (113, .aload_n 0, 0, 0, 0, 0),
  (114, .getfield 341, 4, 4, 0, 0), (117, .iload 6, 0, 0, 0, 0), (119, .iastore, 0, 0, 0, 0), (120, .aload 4, 0, 0, 0, 0), (122, .aload_n 0, 0, 0, 0, 0), (123, .getfield 340, 4, 3, 0, 0),
  (126, .iconst (-1), 0, 0, 0, 0), (127, .invokevirtual 250, 42, 3, 3, 0), (130, .aload_n 0, 0, 0, 0, 0), (131, .getfield 348, 4, 1, 0, 0), (134, .iload_n 1, 0, 0, 0, 0), (135, .iload 5, 0, 0, 0, 0),
  (137, .iastore, 0, 0, 0, 0), (138, .aload_n 0, 0, 0, 0, 0), (139, .iload_n 1, 0, 0, 0, 0), (140, .iconst 1, 0, 0, 0, 0), (141, .iadd, 0, 0, 0, 0), (142, .invokestatic 265, 116, 2, 6, 0),
  (145, .iinc 5 1, 0, 0, 0, 0), (148, .goto (-79), 0, 0, 0, 0), (151, .return_, 0, 0, 0, 0)]
def tFf_tryWays : xTb := ((⟨"FirstFelt", "tryWays", "(LFirstFelt$Tour;I)V"⟩, prog_1_method_47_code, 7, none), (0, 0), "FirstFelt", false, iFf_tryWays)
def iMo_init : List (Nat × xE) := [(0, .aload_n 0, 0, 0, 0, 0), (1, .invokespecial 1, 0, 1, 0, 3), (4, .aload_n 0, 0, 0, 0, 0), (5, .sipush 143, 0, 0, 0, 0), (8, .newarray .int, 0, 0, 0, 0), (10, .putfield 7, 7, 0, 0, 0),
  (13, .aload_n 0, 0, 0, 0, 0), (14, .sipush 286, 0, 0, 0, 0), (17, .newarray .int, 0, 0, 0, 0), (19, .putfield 13, 7, 1, 0, 0), (22, .aload_n 0, 0, 0, 0, 0), (23, .iconst 2, 0, 0, 0, 0),
  (24, .newarray .boolean, 0, 0, 0, 0), (26, .putfield 16, 7, 2, 0, 0), (29, .aload_n 0, 0, 0, 0, 0), (30, .sipush 143, 0, 0, 0, 0), (33, .newarray .int, 0, 0, 0, 0), (35, .putfield 20, 7, 3, 0, 0),
  (38, .aload_n 0, 0, 0, 0, 0), (39, .bipush 20, 0, 0, 0, 0), (41, .newarray .boolean, 0, 0, 0, 0), (43, .putfield 23, 7, 6, 0, 0), (46, .aload_n 0, 0, 0, 0, 0), (47, .iconst 4, 0, 0, 0, 0),
  (48, .newarray .int, 0, 0, 0, 0), (50, .putfield 26, 7, 9, 0, 0), (53, .aload_n 0, 0, 0, 0, 0), (54, .iconst 4, 0, 0, 0, 0), (55, .newarray .int, 0, 0, 0, 0), (57, .putfield 29, 7, 10, 0, 0),
  (60, .aload_n 0, 0, 0, 0, 0), (61, .bipush 8, 0, 0, 0, 0), (63, .newarray .int, 0, 0, 0, 0), (65, .putfield 32, 7, 12, 0, 0), (68, .aload_n 0, 0, 0, 0, 0), (69, .bipush 6, 0, 0, 0, 0),
  (71, .newarray .int, 0, 0, 0, 0), (73, .putfield 35, 7, 14, 0, 0), (76, .aload_n 0, 0, 0, 0, 0), (77, .bipush 6, 0, 0, 0, 0), (79, .newarray .int, 0, 0, 0, 0), (81, .putfield 38, 7, 15, 0, 0),
  (84, .aload_n 0, 0, 0, 0, 0), (85, .bipush 12, 0, 0, 0, 0), (87, .newarray .int, 0, 0, 0, 0), (89, .putfield 41, 7, 17, 0, 0), (92, .aload_n 0, 0, 0, 0, 0), (93, .bipush 12, 0, 0, 0, 0),
  (95, .newarray .int, 0, 0, 0, 0), (97, .putfield 44, 7, 18, 0, 0), (100, .aload_n 0, 0, 0, 0, 0), (101, .bipush 12, 0, 0, 0, 0), (103, .newarray .int, 0, 0, 0, 0), (105, .putfield 47, 7, 19, 0, 0),
  (108, .aload_n 0, 0, 0, 0, 0), (109, .bipush 8, 0, 0, 0, 0), (111, .newarray .int, 0, 0, 0, 0), (113, .putfield 50, 7, 21, 0, 0), (116, .aload_n 0, 0, 0, 0, 0), (117, .bipush 8, 0, 0, 0, 0),
  (119, .newarray .int, 0, 0, 0, 0), (121, .putfield 53, 7, 22, 0, 0), (124, .aload_n 0, 0, 0, 0, 0), (125, .bipush 8, 0, 0, 0, 0), (127, .newarray .int, 0, 0, 0, 0), (129, .putfield 56, 7, 23, 0, 0),
  (132, .aload_n 0, 0, 0, 0, 0), (133, .sipush 260, 0, 0, 0, 0), (136, .newarray .int, 0, 0, 0, 0), (138, .putfield 59, 7, 24, 0, 0), (141, .aload_n 0, 0, 0, 0, 0), (142, .iconst (-1), 0, 0, 0, 0),
  (143, .putfield 62, 7, 26, 0, 0), (146, .aload_n 0, 0, 0, 0, 0), (147, .bipush 40, 0, 0, 0, 0), (149, .newarray .int, 0, 0, 0, 0), (151, .putfield 66, 7, 36, 0, 0), (154, .aload_n 0, 0, 0, 0, 0),
  (155, .bipush 20, 0, 0, 0, 0), (157, .newarray .boolean, 0, 0, 0, 0), (159, .putfield 69, 7, 38, 0, 0), (162, .aload_n 0, 0, 0, 0, 0), (163, .bipush 12, 0, 0, 0, 0), (165, .newarray .int, 0, 0, 0, 0),
  (167, .putfield 72, 7, 41, 0, 0), (170, .aload_n 0, 0, 0, 0, 0), (171, .bipush 20, 0, 0, 0, 0), (173, .newarray .boolean, 0, 0, 0, 0), (175, .putfield 75, 7, 42, 0, 0), (178, .aload_n 0, 0, 0, 0, 0),
  (179, .bipush 8, 0, 0, 0, 0), (181, .newarray .int, 0, 0, 0, 0), (183, .putfield 78, 7, 44, 0, 0), (186, .aload_n 0, 0, 0, 0, 0), (187, .bipush 24, 0, 0, 0, 0), (189, .newarray .int, 0, 0, 0, 0),
  (191, .putfield 81, 7, 46, 0, 0), (194, .aload_n 0, 0, 0, 0, 0), (195, .bipush 20, 0, 0, 0, 0), (197, .newarray .int, 0, 0, 0, 0), (199, .putfield 84, 7, 48, 0, 0), (202, .aload_n 0, 0, 0, 0, 0),
  (203, .iconst (-1), 0, 0, 0, 0), (204, .putfield 87, 7, 50, 0, 0), (207, .aload_n 0, 0, 0, 0, 0), (208, .bipush 6, 0, 0, 0, 0), (210, .newarray .int, 0, 0, 0, 0), (212, .putfield 90, 7, 51, 0, 0),
  (215, .aload_n 0, 0, 0, 0, 0), (216, .invokevirtual 93, 119, 1, 7, 0), (219, .aload_n 0, 0, 0, 0, 0), (220, .getfield 7, 7, 0, 0, 0), (223, .sipush 139, 0, 0, 0, 0), (226, .iconst 3, 0, 0, 0, 0),
  (227, .iastore, 0, 0, 0, 0), (228, .return_, 0, 0, 0, 0)]
def tMo_init : xTb := ((⟨"FirstFeltModel", "<init>", "()V"⟩, prog_9_method_1_code, 1, none), (25, 1092), "FirstFeltModel", false, iMo_init)
def iMo_in : List (Nat × xE) := [(0, .lload_n 0, 0, 0, 0, 0), (1, .lload_n 2, 0, 0, 0, 0), (2, .lcmp, 0, 0, 0, 0), (3, .ifCond .lt 14, 0, 0, 0, 0), (6, .lload_n 0, 0, 0, 0, 0), (7, .lload 4, 0, 0, 0, 0),
  (9, .lcmp, 0, 0, 0, 0), (10, .ifCond .gt 7, 0, 0, 0, 0), (13, .iconst 1, 0, 0, 0, 0), (14, .goto 4, 0, 0, 0, 0), (17, .iconst 0, 0, 0, 0, 0), (18, .ireturn, 0, 0, 0, 0)]
def tMo_in : xTb := ((⟨"FirstFeltModel", "in", "(JJJ)Z"⟩, prog_9_method_3_code, 6, (some .boolean)), (0, 0), "FirstFeltModel", true, iMo_in)
def iMo_emptyNow : List (Nat × xE) := [(0, .iconst 0, 0, 0, 0, 0), (1, .istore_n 1, 0, 0, 0, 0), (2, .iload_n 1, 0, 0, 0, 0), (3, .sipush 143, 0, 0, 0, 0), (6, .if_icmp .ge 50, 0, 0, 0, 0), (9, .aload_n 0, 0, 0, 0, 0),
  (10, .getfield 7, 7, 0, 0, 0), (13, .iload_n 1, 0, 0, 0, 0), (14, .iload_n 1, 0, 0, 0, 0), (15, .sipush 141, 0, 0, 0, 0), (18, .if_icmp .ne 14, 0, 0, 0, 0), (21, .aload_n 0, 0, 0, 0, 0),
  (22, .getfield 7, 7, 0, 0, 0), (25, .sipush 141, 0, 0, 0, 0), (28, .iaload, 0, 0, 0, 0), (29, .goto 20, 0, 0, 0, 0), (32, .iload_n 1, 0, 0, 0, 0), (33, .bipush 60, 0, 0, 0, 0),
  (35, .if_icmp .lt 13, 0, 0, 0, 0), (38, .iload_n 1, 0, 0, 0, 0), (39, .bipush 80, 0, 0, 0, 0), (41, .if_icmp .ge 7, 0, 0, 0, 0), (44, .iconst (-1), 0, 0, 0, 0), (45, .goto 4, 0, 0, 0, 0),
  (48, .iconst 0, 0, 0, 0, 0), (49, .iastore, 0, 0, 0, 0), (50, .iinc 1 1, 0, 0, 0, 0), (53, .goto (-51), 0, 0, 0, 0), (56, .return_, 0, 0, 0, 0)]
def tMo_emptyNow : xTb := ((⟨"FirstFeltModel", "emptyNow", "()V"⟩, prog_9_method_4_code, 2, none), (0, 0), "FirstFeltModel", false, iMo_emptyNow)
def iMo_cells : List (Nat × xE) := [(0, .aload_n 0, 0, 0, 0, 0), (1, .getfield 96, 7, 4, 0, 0), (4, .aload_n 0, 0, 0, 0, 0), (5, .getfield 99, 7, 5, 0, 0), (8, .imul, 0, 0, 0, 0), (9, .ireturn, 0, 0, 0, 0)]
def tMo_cells : xTb := ((⟨"FirstFeltModel", "cells", "()I"⟩, prog_9_method_5_code, 1, (some .int)), (0, 0), "FirstFeltModel", false, iMo_cells)
def iMo_isCell : List (Nat × xE) := [(0, .iload_n 1, 0, 0, 0, 0), (1, .i2l, 0, 0, 0, 0), (2, .lconst 0, 0, 0, 0, 0), (3, .aload_n 0, 0, 0, 0, 0), (4, .getfield 96, 7, 4, 0, 0), (7, .iconst 1, 0, 0, 0, 0),
  (8, .isub, 0, 0, 0, 0), (9, .i2l, 0, 0, 0, 0), (10, .invokestatic 102, 118, 3, 7, 1), (13, .ifCond .eq 23, 0, 0, 0, 0), (16, .iload_n 2, 0, 0, 0, 0), (17, .i2l, 0, 0, 0, 0),
  (18, .lconst 0, 0, 0, 0, 0), (19, .aload_n 0, 0, 0, 0, 0), (20, .getfield 99, 7, 5, 0, 0), (23, .iconst 1, 0, 0, 0, 0), (24, .isub, 0, 0, 0, 0), (25, .i2l, 0, 0, 0, 0),
  (26, .invokestatic 102, 118, 3, 7, 1), (29, .ifCond .eq 7, 0, 0, 0, 0), (32, .iconst 1, 0, 0, 0, 0), (33, .goto 4, 0, 0, 0, 0), (36, .iconst 0, 0, 0, 0, 0), (37, .ireturn, 0, 0, 0, 0)]
def tMo_isCell : xTb := ((⟨"FirstFeltModel", "isCell", "(II)Z"⟩, prog_9_method_6_code, 3, (some .boolean)), (0, 0), "FirstFeltModel", true, iMo_isCell)
def iMo_isPerson : List (Nat × xE) := [(0, .iload_n 1, 0, 0, 0, 0), (1, .i2l, 0, 0, 0, 0), (2, .lconst 0, 0, 0, 0, 0), (3, .aload_n 0, 0, 0, 0, 0), (4, .getfield 106, 7, 13, 0, 0), (7, .iconst 1, 0, 0, 0, 0),
  (8, .isub, 0, 0, 0, 0), (9, .i2l, 0, 0, 0, 0), (10, .invokestatic 102, 118, 3, 7, 1), (13, .ireturn, 0, 0, 0, 0)]
def tMo_isPerson : xTb := ((⟨"FirstFeltModel", "isPerson", "(I)Z"⟩, prog_9_method_7_code, 2, (some .boolean)), (0, 0), "FirstFeltModel", true, iMo_isPerson)
def iMo_isStove : List (Nat × xE) := [(0, .iload_n 1, 0, 0, 0, 0), (1, .i2l, 0, 0, 0, 0), (2, .lconst 0, 0, 0, 0, 0), (3, .aload_n 0, 0, 0, 0, 0), (4, .getfield 109, 7, 8, 0, 0), (7, .iconst 1, 0, 0, 0, 0),
  (8, .isub, 0, 0, 0, 0), (9, .i2l, 0, 0, 0, 0), (10, .invokestatic 102, 118, 3, 7, 1), (13, .ireturn, 0, 0, 0, 0)]
def tMo_isStove : xTb := ((⟨"FirstFeltModel", "isStove", "(I)Z"⟩, prog_9_method_8_code, 2, (some .boolean)), (0, 0), "FirstFeltModel", true, iMo_isStove)
def iMo_named : List (Nat × xE) := [(0, .bipush 10, 0, 0, 0, 0), (2, .iload_n 1, 0, 0, 0, 0), (3, .aload_n 0, 0, 0, 0, 0), (4, .getfield 96, 7, 4, 0, 0), (7, .irem, 0, 0, 0, 0), (8, .imul, 0, 0, 0, 0),
  (9, .iload_n 1, 0, 0, 0, 0), (10, .aload_n 0, 0, 0, 0, 0), (11, .getfield 96, 7, 4, 0, 0), (14, .idiv, 0, 0, 0, 0), (15, .iadd, 0, 0, 0, 0), (16, .ireturn, 0, 0, 0, 0)]
def tMo_named : xTb := ((⟨"FirstFeltModel", "named", "(I)I"⟩, prog_9_method_9_code, 2, (some .int)), (0, 0), "FirstFeltModel", false, iMo_named)
def iMo_cellOf : List (Nat × xE) := [(0, .iload_n 1, 0, 0, 0, 0), (1, .ifCond .lt 35, 0, 0, 0, 0), (4, .aload_n 0, 0, 0, 0, 0), (5, .iload_n 1, 0, 0, 0, 0), (6, .bipush 10, 0, 0, 0, 0), (8, .idiv, 0, 0, 0, 0),
  (9, .iload_n 1, 0, 0, 0, 0), (10, .bipush 10, 0, 0, 0, 0), (12, .irem, 0, 0, 0, 0), (13, .invokevirtual 112, 121, 3, 7, 1), (16, .ifCond .eq 20, 0, 0, 0, 0), (19, .aload_n 0, 0, 0, 0, 0),
  (20, .getfield 96, 7, 4, 0, 0), (23, .iload_n 1, 0, 0, 0, 0), (24, .bipush 10, 0, 0, 0, 0), (26, .irem, 0, 0, 0, 0), (27, .imul, 0, 0, 0, 0), (28, .iload_n 1, 0, 0, 0, 0),
  (29, .bipush 10, 0, 0, 0, 0), (31, .idiv, 0, 0, 0, 0), (32, .iadd, 0, 0, 0, 0), (33, .goto 4, 0, 0, 0, 0), (36, .iconst (-1), 0, 0, 0, 0), (37, .ireturn, 0, 0, 0, 0)]
def tMo_cellOf : xTb := ((⟨"FirstFeltModel", "cellOf", "(I)I"⟩, prog_9_method_10_code, 2, (some .int)), (0, 0), "FirstFeltModel", false, iMo_cellOf)
def iMo_feed : List (Nat × xE) := [(0, .iload_n 1, 0, 0, 0, 0), (1, .i2l, 0, 0, 0, 0), (2, .lconst 0, 0, 0, 0, 0), (3, .ldc2_w 116, 0, 0, 0, 255), (6, .invokestatic 102, 118, 3, 7, 1), (9, .ifCond .ne 6, 0, 0, 0, 0),
  (12, .ldc 118, 0, 0, 0, -1000000002), (14, .ireturn, 0, 0, 0, 0), (15, .aload_n 0, 0, 0, 0, 0), (16, .getfield 119, 7, 25, 0, 0), (19, .sipush 260, 0, 0, 0, 0), (22, .if_icmp .ne 6, 0, 0, 0, 0),
  (25, .ldc 122, 0, 0, 0, -1000000004), (27, .ireturn, 0, 0, 0, 0), (28, .aload_n 0, 0, 0, 0, 0), (29, .getfield 59, 7, 24, 0, 0), (32, .aload_n 0, 0, 0, 0, 0), (33, .getfield 119, 7, 25, 0, 0),
  (36, .iload_n 1, 0, 0, 0, 0), (37, .iastore, 0, 0, 0, 0), (38, .aload_n 0, 0, 0, 0, 0), (39, .dup, 0, 0, 0, 0), (40, .getfield 119, 7, 25, 0, 0), (43, .iconst 1, 0, 0, 0, 0),
  (44, .iadd, 0, 0, 0, 0), (45, .putfield 119, 7, 25, 0, 0), (48, .aload_n 0, 0, 0, 0, 0), (49, .getfield 119, 7, 25, 0, 0), (52, .ireturn, 0, 0, 0, 0)]
def tMo_feed : xTb := ((⟨"FirstFeltModel", "feed", "(I)I"⟩, prog_9_method_11_code, 2, (some .int)), (0, 0), "FirstFeltModel", false, iMo_feed)
def iMo_isFigure : List (Nat × xE) := [(0, .iload_n 0, 0, 0, 0, 0), (1, .i2l, 0, 0, 0, 0), (2, .ldc2_w 123, 0, 0, 0, 48), (5, .ldc2_w 125, 0, 0, 0, 57), (8, .invokestatic 102, 118, 3, 7, 1), (11, .ireturn, 0, 0, 0, 0)]
def tMo_isFigure : xTb := ((⟨"FirstFeltModel", "isFigure", "(I)Z"⟩, prog_9_method_12_code, 1, (some .boolean)), (0, 0), "FirstFeltModel", true, iMo_isFigure)
def iMo_look : List (Nat × xE) := [(0, .aload_n 0, 0, 0, 0, 0), (1, .iload_n 1, 0, 0, 0, 0), (2, .putfield 127, 7, 27, 0, 0), (5, .aload_n 0, 0, 0, 0, 0), (6, .getfield 127, 7, 27, 0, 0), (9, .aload_n 0, 0, 0, 0, 0),
  (10, .getfield 119, 7, 25, 0, 0), (13, .if_icmp .ge 30, 0, 0, 0, 0), (16, .aload_n 0, 0, 0, 0, 0), (17, .getfield 59, 7, 24, 0, 0), (20, .aload_n 0, 0, 0, 0, 0), (21, .getfield 127, 7, 27, 0, 0),
  (24, .iaload, 0, 0, 0, 0), (25, .bipush 32, 0, 0, 0, 0), (27, .if_icmp .ne 16, 0, 0, 0, 0), (30, .aload_n 0, 0, 0, 0, 0), (31, .dup, 0, 0, 0, 0), (32, .getfield 127, 7, 27, 0, 0),
  (35, .iconst 1, 0, 0, 0, 0), (36, .iadd, 0, 0, 0, 0), (37, .putfield 127, 7, 27, 0, 0), (40, .goto (-35), 0, 0, 0, 0), (43, .aload_n 0, 0, 0, 0, 0), (44, .iconst 0, 0, 0, 0, 0),
  (45, .putfield 130, 7, 28, 0, 0), (48, .aload_n 0, 0, 0, 0, 0), (49, .iconst 0, 0, 0, 0, 0), (50, .putfield 133, 7, 29, 0, 0), (53, .aload_n 0, 0, 0, 0, 0), (54, .iconst 0, 0, 0, 0, 0),
  (55, .putfield 136, 7, 30, 0, 0), (58, .aload_n 0, 0, 0, 0, 0), (59, .getfield 127, 7, 27, 0, 0), (62, .aload_n 0, 0, 0, 0, 0), (63, .getfield 119, 7, 25, 0, 0), (66, .if_icmp .ne 4, 0, 0, 0, 0),
  (69, .return_, 0, 0, 0, 0), (70, .aload_n 0, 0, 0, 0, 0), (71, .aload_n 0, 0, 0, 0, 0), (72, .getfield 59, 7, 24, 0, 0), (75, .aload_n 0, 0, 0, 0, 0), (76, .getfield 127, 7, 27, 0, 0),
  (79, .iaload, 0, 0, 0, 0), (80, .invokestatic 139, 127, 1, 7, 1), (83, .ifCond .eq 7, 0, 0, 0, 0), (86, .iconst 1, 0, 0, 0, 0), (87, .goto 29, 0, 0, 0, 0), (90, .aload_n 0, 0, 0, 0, 0),
  (91, .getfield 59, 7, 24, 0, 0), (94, .aload_n 0, 0, 0, 0, 0), (95, .getfield 127, 7, 27, 0, 0), (98, .iaload, 0, 0, 0, 0), (99, .iconst 2, 0, 0, 0, 0), (100, .if_icmp .ge 7, 0, 0, 0, 0),
  (103, .iconst 2, 0, 0, 0, 0), (104, .goto 12, 0, 0, 0, 0), (107, .aload_n 0, 0, 0, 0, 0), (108, .getfield 59, 7, 24, 0, 0), (111, .aload_n 0, 0, 0, 0, 0), (112, .getfield 127, 7, 27, 0, 0),
  (115, .iaload, 0, 0, 0, 0), (116, .putfield 133, 7, 29, 0, 0), (119, .aload_n 0, 0, 0, 0, 0), (120, .iconst 1, 0, 0, 0, 0), (121, .putfield 130, 7, 28, 0, 0), (124, .aload_n 0, 0, 0, 0, 0),
  (125, .getfield 133, 7, 29, 0, 0), (128, .iconst 1, 0, 0, 0, 0), (129, .if_icmp .ne 52, 0, 0, 0, 0), (132, .aload_n 0, 0, 0, 0, 0), (133, .getfield 127, 7, 27, 0, 0), (136, .aload_n 0, 0, 0, 0, 0),
  (137, .getfield 130, 7, 28, 0, 0), (140, .iadd, 0, 0, 0, 0), (141, .aload_n 0, 0, 0, 0, 0), (142, .getfield 119, 7, 25, 0, 0), (145, .if_icmp .ge 36, 0, 0, 0, 0), (148, .aload_n 0, 0, 0, 0, 0),
  (149, .getfield 59, 7, 24, 0, 0), (152, .aload_n 0, 0, 0, 0, 0), (153, .getfield 127, 7, 27, 0, 0), (156, .aload_n 0, 0, 0, 0, 0), (157, .getfield 130, 7, 28, 0, 0), (160, .iadd, 0, 0, 0, 0),
  (161, .iaload, 0, 0, 0, 0), (162, .invokestatic 139, 127, 1, 7, 1), (165, .ifCond .eq 16, 0, 0, 0, 0), (168, .aload_n 0, 0, 0, 0, 0), (169, .dup, 0, 0, 0, 0), (170, .getfield 130, 7, 28, 0, 0),
  (173, .iconst 1, 0, 0, 0, 0), (174, .iadd, 0, 0, 0, 0), (175, .putfield 130, 7, 28, 0, 0), (178, .goto (-54), 0, 0, 0, 0), (181, .iconst 0, 0, 0, 0, 0), (182, .istore_n 2, 0, 0, 0, 0),
  (183, .iload_n 2, 0, 0, 0, 0), (184, .aload_n 0, 0, 0, 0, 0), (185, .getfield 130, 7, 28, 0, 0), (188, .if_icmp .ge 56, 0, 0, 0, 0), (191, .aload_n 0, 0, 0, 0, 0), (192, .getfield 133, 7, 29, 0, 0),
  (195, .iconst 1, 0, 0, 0, 0), (196, .if_icmp .ne 48, 0, 0, 0, 0), (199, .aload_n 0, 0, 0, 0, 0), (200, .aload_n 0, 0, 0, 0, 0), (201, .getfield 130, 7, 28, 0, 0), (204, .iconst 3, 0, 0, 0, 0),
  (205, .if_icmp .le 8, 0, 0, 0, 0), (208, .ldc 143, 0, 0, 0, 1000000), (210, .goto 25, 0, 0, 0, 0), (213, .bipush 10, 0, 0, 0, 0), (215, .aload_n 0, 0, 0, 0, 0), (216, .getfield 136, 7, 30, 0, 0),
  (219, .imul, 0, 0, 0, 0), (220, .aload_n 0, 0, 0, 0, 0), (221, .getfield 59, 7, 24, 0, 0), (224, .aload_n 0, 0, 0, 0, 0), (225, .getfield 127, 7, 27, 0, 0), (228, .iload_n 2, 0, 0, 0, 0),
  (229, .iadd, 0, 0, 0, 0), (230, .iaload, 0, 0, 0, 0), (231, .iadd, 0, 0, 0, 0), (232, .bipush 48, 0, 0, 0, 0), (234, .isub, 0, 0, 0, 0), (235, .putfield 136, 7, 30, 0, 0),
  (238, .iinc 2 1, 0, 0, 0, 0), (241, .goto (-58), 0, 0, 0, 0), (244, .return_, 0, 0, 0, 0)]
def tMo_look : xTb := ((⟨"FirstFeltModel", "look", "(I)V"⟩, prog_9_method_13_code, 3, none), (0, 0), "FirstFeltModel", false, iMo_look)
def iMo_goOn : List (Nat × xE) := [(0, .aload_n 0, 0, 0, 0, 0), (1, .aload_n 0, 0, 0, 0, 0), (2, .getfield 127, 7, 27, 0, 0), (5, .aload_n 0, 0, 0, 0, 0), (6, .getfield 130, 7, 28, 0, 0), (9, .iadd, 0, 0, 0, 0),
  (10, .invokevirtual 144, 128, 2, 7, 0), (13, .return_, 0, 0, 0, 0)]
def tMo_goOn : xTb := ((⟨"FirstFeltModel", "goOn", "()V"⟩, prog_9_method_14_code, 1, none), (0, 0), "FirstFeltModel", false, iMo_goOn)
def iMo_faults : List (Nat × xE) := [(0, .aload_n 0, 0, 0, 0, 0), (1, .iload_n 1, 0, 0, 0, 0), (2, .putfield 148, 7, 31, 0, 0), (5, .iconst 0, 0, 0, 0, 0), (6, .ireturn, 0, 0, 0, 0)]
def tMo_faults : xTb := ((⟨"FirstFeltModel", "faults", "(I)Z"⟩, prog_9_method_15_code, 2, (some .boolean)), (0, 0), "FirstFeltModel", true, iMo_faults)
def iMo_takes : List (Nat × xE) := [(0, .aload_n 0, 0, 0, 0, 0), (1, .getfield 133, 7, 29, 0, 0), (4, .iconst 1, 0, 0, 0, 0), (5, .if_icmp .eq 9, 0, 0, 0, 0), (8, .aload_n 0, 0, 0, 0, 0), (9, .iconst 1, 0, 0, 0, 0),
  (10, .invokevirtual 151, 130, 2, 7, 1), (13, .ireturn, 0, 0, 0, 0), (14, .aload_n 0, 0, 0, 0, 0), (15, .getfield 136, 7, 30, 0, 0), (18, .i2l, 0, 0, 0, 0), (19, .iload_n 1, 0, 0, 0, 0),
  (20, .i2l, 0, 0, 0, 0), (21, .iload_n 2, 0, 0, 0, 0), (22, .i2l, 0, 0, 0, 0), (23, .invokestatic 102, 118, 3, 7, 1), (26, .ifCond .ne 9, 0, 0, 0, 0), (29, .aload_n 0, 0, 0, 0, 0),
  (30, .iconst 2, 0, 0, 0, 0), (31, .invokevirtual 151, 130, 2, 7, 1), (34, .ireturn, 0, 0, 0, 0), (35, .aload_n 0, 0, 0, 0, 0), (36, .aload_n 0, 0, 0, 0, 0), (37, .getfield 136, 7, 30, 0, 0),
  (40, .putfield 154, 7, 32, 0, 0), (43, .aload_n 0, 0, 0, 0, 0), (44, .invokevirtual 157, 129, 1, 7, 0), (47, .iconst 1, 0, 0, 0, 0), (48, .ireturn, 0, 0, 0, 0)]
def tMo_takes : xTb := ((⟨"FirstFeltModel", "takes", "(II)Z"⟩, prog_9_method_16_code, 3, (some .boolean)), (0, 0), "FirstFeltModel", true, iMo_takes)
def iMo_stops : List (Nat × xE) := [(0, .aload_n 0, 0, 0, 0, 0), (1, .getfield 133, 7, 29, 0, 0), (4, .bipush 59, 0, 0, 0, 0), (6, .if_icmp .eq 9, 0, 0, 0, 0), (9, .aload_n 0, 0, 0, 0, 0), (10, .iconst 1, 0, 0, 0, 0),
  (11, .invokevirtual 151, 130, 2, 7, 1), (14, .ireturn, 0, 0, 0, 0), (15, .aload_n 0, 0, 0, 0, 0), (16, .invokevirtual 157, 129, 1, 7, 0), (19, .iconst 1, 0, 0, 0, 0), (20, .ireturn, 0, 0, 0, 0)]
def tMo_stops : xTb := ((⟨"FirstFeltModel", "stops", "()Z"⟩, prog_9_method_17_code, 1, (some .boolean)), (0, 0), "FirstFeltModel", true, iMo_stops)
def iMo_takesX : List (Nat × xE) := [(0, .aload_n 0, 0, 0, 0, 0), (1, .iconst 0, 0, 0, 0, 0), (2, .aload_n 0, 0, 0, 0, 0), (3, .getfield 160, 7, 33, 0, 0), (6, .iconst 1, 0, 0, 0, 0), (7, .isub, 0, 0, 0, 0),
  (8, .invokevirtual 163, 131, 3, 7, 1), (11, .ireturn, 0, 0, 0, 0)]
def tMo_takesX : xTb := ((⟨"FirstFeltModel", "takesX", "()Z"⟩, prog_9_method_18_code, 1, (some .boolean)), (0, 0), "FirstFeltModel", true, iMo_takesX)
def iMo_seesY : List (Nat × xE) := [(0, .aload_n 0, 0, 0, 0, 0), (1, .getfield 133, 7, 29, 0, 0), (4, .iconst 1, 0, 0, 0, 0), (5, .if_icmp .eq 9, 0, 0, 0, 0), (8, .aload_n 0, 0, 0, 0, 0), (9, .iconst 1, 0, 0, 0, 0),
  (10, .invokevirtual 151, 130, 2, 7, 1), (13, .ireturn, 0, 0, 0, 0), (14, .aload_n 0, 0, 0, 0, 0), (15, .getfield 136, 7, 30, 0, 0), (18, .i2l, 0, 0, 0, 0), (19, .lconst 0, 0, 0, 0, 0),
  (20, .aload_n 0, 0, 0, 0, 0), (21, .getfield 166, 7, 34, 0, 0), (24, .iconst 1, 0, 0, 0, 0), (25, .isub, 0, 0, 0, 0), (26, .i2l, 0, 0, 0, 0), (27, .invokestatic 102, 118, 3, 7, 1),
  (30, .ifCond .ne 9, 0, 0, 0, 0), (33, .aload_n 0, 0, 0, 0, 0), (34, .iconst 2, 0, 0, 0, 0), (35, .invokevirtual 151, 130, 2, 7, 1), (38, .ireturn, 0, 0, 0, 0), (39, .aload_n 0, 0, 0, 0, 0),
  (40, .aload_n 0, 0, 0, 0, 0), (41, .getfield 160, 7, 33, 0, 0), (44, .aload_n 0, 0, 0, 0, 0), (45, .getfield 136, 7, 30, 0, 0), (48, .imul, 0, 0, 0, 0), (49, .iload_n 1, 0, 0, 0, 0),
  (50, .iadd, 0, 0, 0, 0), (51, .putfield 169, 7, 47, 0, 0), (54, .iconst 1, 0, 0, 0, 0), (55, .ireturn, 0, 0, 0, 0)]
def tMo_seesY : xTb := ((⟨"FirstFeltModel", "seesY", "(I)Z"⟩, prog_9_method_19_code, 2, (some .boolean)), (0, 0), "FirstFeltModel", true, iMo_seesY)
def iMo_readsTown : List (Nat × xE) := [(0, .aload_n 0, 0, 0, 0, 0), (1, .getfield 133, 7, 29, 0, 0), (4, .bipush 116, 0, 0, 0, 0), (6, .if_icmp .eq 9, 0, 0, 0, 0), (9, .aload_n 0, 0, 0, 0, 0), (10, .iconst 1, 0, 0, 0, 0),
  (11, .invokevirtual 151, 130, 2, 7, 1), (14, .ireturn, 0, 0, 0, 0), (15, .aload_n 0, 0, 0, 0, 0), (16, .invokevirtual 157, 129, 1, 7, 0), (19, .aload_n 0, 0, 0, 0, 0), (20, .iconst 1, 0, 0, 0, 0),
  (21, .bipush 6, 0, 0, 0, 0), (23, .invokevirtual 163, 131, 3, 7, 1), (26, .ifCond .ne 5, 0, 0, 0, 0), (29, .iconst 0, 0, 0, 0, 0), (30, .ireturn, 0, 0, 0, 0), (31, .aload_n 0, 0, 0, 0, 0),
  (32, .aload_n 0, 0, 0, 0, 0), (33, .getfield 154, 7, 32, 0, 0), (36, .putfield 160, 7, 33, 0, 0), (39, .aload_n 0, 0, 0, 0, 0), (40, .getfield 133, 7, 29, 0, 0), (43, .iconst 1, 0, 0, 0, 0),
  (44, .if_icmp .ne 38, 0, 0, 0, 0), (47, .aload_n 0, 0, 0, 0, 0), (48, .getfield 136, 7, 30, 0, 0), (51, .i2l, 0, 0, 0, 0), (52, .lconst 1, 0, 0, 0, 0), (53, .ldc2_w 172, 0, 0, 0, 6),
  (56, .invokestatic 102, 118, 3, 7, 1), (59, .ifCond .eq 23, 0, 0, 0, 0), (62, .aload_n 0, 0, 0, 0, 0), (63, .getfield 160, 7, 33, 0, 0), (66, .aload_n 0, 0, 0, 0, 0), (67, .getfield 136, 7, 30, 0, 0),
  (70, .imul, 0, 0, 0, 0), (71, .bipush 20, 0, 0, 0, 0), (73, .if_icmp .le 9, 0, 0, 0, 0), (76, .aload_n 0, 0, 0, 0, 0), (77, .iconst 2, 0, 0, 0, 0), (78, .invokevirtual 151, 130, 2, 7, 1),
  (81, .ireturn, 0, 0, 0, 0), (82, .aload_n 0, 0, 0, 0, 0), (83, .iconst 1, 0, 0, 0, 0), (84, .bipush 6, 0, 0, 0, 0), (86, .invokevirtual 163, 131, 3, 7, 1), (89, .ifCond .ne 5, 0, 0, 0, 0),
  (92, .iconst 0, 0, 0, 0, 0), (93, .ireturn, 0, 0, 0, 0), (94, .aload_n 0, 0, 0, 0, 0), (95, .aload_n 0, 0, 0, 0, 0), (96, .getfield 154, 7, 32, 0, 0), (99, .putfield 166, 7, 34, 0, 0),
  (102, .aload_n 0, 0, 0, 0, 0), (103, .iconst 0, 0, 0, 0, 0), (104, .sipush 200, 0, 0, 0, 0), (107, .invokevirtual 163, 131, 3, 7, 1), (110, .ifCond .ne 5, 0, 0, 0, 0), (113, .iconst 0, 0, 0, 0, 0),
  (114, .ireturn, 0, 0, 0, 0), (115, .aload_n 0, 0, 0, 0, 0), (116, .aload_n 0, 0, 0, 0, 0), (117, .getfield 154, 7, 32, 0, 0), (120, .putfield 174, 7, 35, 0, 0), (123, .aload_n 0, 0, 0, 0, 0),
  (124, .invokevirtual 177, 132, 1, 7, 1), (127, .ireturn, 0, 0, 0, 0)]
def tMo_readsTown : xTb := ((⟨"FirstFeltModel", "readsTown", "()Z"⟩, prog_9_method_20_code, 1, (some .boolean)), (0, 0), "FirstFeltModel", true, iMo_readsTown)
def iMo_readsWall : List (Nat × xE) := [(0, .aload_n 0, 0, 0, 0, 0), (1, .getfield 181, 7, 37, 0, 0), (4, .bipush 12, 0, 0, 0, 0), (6, .if_icmp .ne 9, 0, 0, 0, 0), (9, .aload_n 0, 0, 0, 0, 0), (10, .iconst 3, 0, 0, 0, 0),
  (11, .invokevirtual 151, 130, 2, 7, 1), (14, .ireturn, 0, 0, 0, 0), (15, .aload_n 0, 0, 0, 0, 0), (16, .dup, 0, 0, 0, 0), (17, .getfield 181, 7, 37, 0, 0), (20, .iconst 1, 0, 0, 0, 0),
  (21, .iadd, 0, 0, 0, 0), (22, .putfield 181, 7, 37, 0, 0), (25, .aload_n 0, 0, 0, 0, 0), (26, .invokevirtual 157, 129, 1, 7, 0), (29, .aload_n 0, 0, 0, 0, 0), (30, .invokevirtual 184, 133, 1, 7, 1),
  (33, .ifCond .eq 14, 0, 0, 0, 0), (36, .aload_n 0, 0, 0, 0, 0), (37, .aload_n 0, 0, 0, 0, 0), (38, .getfield 154, 7, 32, 0, 0), (41, .invokevirtual 187, 134, 2, 7, 1), (44, .ifCond .ne 5, 0, 0, 0, 0),
  (47, .iconst 0, 0, 0, 0, 0), (48, .ireturn, 0, 0, 0, 0), (49, .aload_n 0, 0, 0, 0, 0), (50, .getfield 169, 7, 47, 0, 0), (53, .istore_n 1, 0, 0, 0, 0), (54, .aload_n 0, 0, 0, 0, 0),
  (55, .invokevirtual 157, 129, 1, 7, 0), (58, .aload_n 0, 0, 0, 0, 0), (59, .getfield 133, 7, 29, 0, 0), (62, .iconst 1, 0, 0, 0, 0), (63, .if_icmp .eq 9, 0, 0, 0, 0), (66, .aload_n 0, 0, 0, 0, 0),
  (67, .iconst 1, 0, 0, 0, 0), (68, .invokevirtual 151, 130, 2, 7, 1), (71, .ireturn, 0, 0, 0, 0), (72, .aload_n 0, 0, 0, 0, 0), (73, .getfield 136, 7, 30, 0, 0), (76, .ifCond .ne 26, 0, 0, 0, 0),
  (79, .iload_n 1, 0, 0, 0, 0), (80, .aload_n 0, 0, 0, 0, 0), (81, .getfield 160, 7, 33, 0, 0), (84, .irem, 0, 0, 0, 0), (85, .aload_n 0, 0, 0, 0, 0), (86, .getfield 160, 7, 33, 0, 0),
  (89, .iconst 1, 0, 0, 0, 0), (90, .isub, 0, 0, 0, 0), (91, .if_icmp .ge 7, 0, 0, 0, 0), (94, .iconst 1, 0, 0, 0, 0), (95, .goto 27, 0, 0, 0, 0), (98, .iconst 0, 0, 0, 0, 0),
  (99, .goto 23, 0, 0, 0, 0), (102, .iload_n 1, 0, 0, 0, 0), (103, .aload_n 0, 0, 0, 0, 0), (104, .getfield 160, 7, 33, 0, 0), (107, .idiv, 0, 0, 0, 0), (108, .aload_n 0, 0, 0, 0, 0),
  (109, .getfield 166, 7, 34, 0, 0), (112, .iconst 1, 0, 0, 0, 0), (113, .isub, 0, 0, 0, 0), (114, .if_icmp .ge 7, 0, 0, 0, 0), (117, .iconst 1, 0, 0, 0, 0), (118, .goto 4, 0, 0, 0, 0),
  (121, .iconst 0, 0, 0, 0, 0), (122, .istore_n 2, 0, 0, 0, 0), (123, .aload_n 0, 0, 0, 0, 0), (124, .getfield 136, 7, 30, 0, 0), (127, .i2l, 0, 0, 0, 0), (128, .lconst 0, 0, 0, 0, 0),
  (129, .lconst 1, 0, 0, 0, 0), (130, .invokestatic 102, 118, 3, 7, 1), (133, .ifCond .eq 7, 0, 0, 0, 0), (136, .iload_n 2, 0, 0, 0, 0), (137, .ifCond .ne 9, 0, 0, 0, 0), (140, .aload_n 0, 0, 0, 0, 0),
  (141, .iconst 2, 0, 0, 0, 0), (142, .invokevirtual 151, 130, 2, 7, 1), (145, .ireturn, 0, 0, 0, 0), (146, .aload_n 0, 0, 0, 0, 0), (147, .getfield 66, 7, 36, 0, 0), (150, .bipush 20, 0, 0, 0, 0),
  (152, .aload_n 0, 0, 0, 0, 0), (153, .getfield 136, 7, 30, 0, 0), (156, .imul, 0, 0, 0, 0), (157, .iload_n 1, 0, 0, 0, 0), (158, .iadd, 0, 0, 0, 0), (159, .iaload, 0, 0, 0, 0),
  (160, .iconst 1, 0, 0, 0, 0), (161, .if_icmp .ne 9, 0, 0, 0, 0), (164, .aload_n 0, 0, 0, 0, 0), (165, .iconst 4, 0, 0, 0, 0), (166, .invokevirtual 151, 130, 2, 7, 1), (169, .ireturn, 0, 0, 0, 0),
  (170, .aload_n 0, 0, 0, 0, 0), (171, .getfield 66, 7, 36, 0, 0), (174, .bipush 20, 0, 0, 0, 0), (176, .aload_n 0, 0, 0, 0, 0), (177, .getfield 136, 7, 30, 0, 0), (180, .imul, 0, 0, 0, 0),
  (181, .iload_n 1, 0, 0, 0, 0), (182, .iadd, 0, 0, 0, 0), (183, .iconst 1, 0, 0, 0, 0), (184, .iastore, 0, 0, 0, 0), (185, .aload_n 0, 0, 0, 0, 0), (186, .invokevirtual 157, 129, 1, 7, 0),
  (189, .aload_n 0, 0, 0, 0, 0), (190, .invokevirtual 177, 132, 1, 7, 1), (193, .ireturn, 0, 0, 0, 0)]
def tMo_readsWall : xTb := ((⟨"FirstFeltModel", "readsWall", "()Z"⟩, prog_9_method_21_code, 3, (some .boolean)), (0, 0), "FirstFeltModel", true, iMo_readsWall)
def iMo_readsStove : List (Nat × xE) := [(0, .aload_n 0, 0, 0, 0, 0), (1, .getfield 190, 7, 40, 0, 0), (4, .iconst 4, 0, 0, 0, 0), (5, .if_icmp .ne 9, 0, 0, 0, 0), (8, .aload_n 0, 0, 0, 0, 0), (9, .iconst 3, 0, 0, 0, 0),
  (10, .invokevirtual 151, 130, 2, 7, 1), (13, .ireturn, 0, 0, 0, 0), (14, .aload_n 0, 0, 0, 0, 0), (15, .invokevirtual 157, 129, 1, 7, 0), (18, .aload_n 0, 0, 0, 0, 0), (19, .invokevirtual 184, 133, 1, 7, 1),
  (22, .ifCond .eq 14, 0, 0, 0, 0), (25, .aload_n 0, 0, 0, 0, 0), (26, .aload_n 0, 0, 0, 0, 0), (27, .getfield 154, 7, 32, 0, 0), (30, .invokevirtual 187, 134, 2, 7, 1), (33, .ifCond .ne 5, 0, 0, 0, 0),
  (36, .iconst 0, 0, 0, 0, 0), (37, .ireturn, 0, 0, 0, 0), (38, .aload_n 0, 0, 0, 0, 0), (39, .getfield 75, 7, 42, 0, 0), (42, .aload_n 0, 0, 0, 0, 0), (43, .getfield 169, 7, 47, 0, 0),
  (46, .baload, 0, 0, 0, 0), (47, .ifCond .eq 9, 0, 0, 0, 0), (50, .aload_n 0, 0, 0, 0, 0), (51, .iconst 4, 0, 0, 0, 0), (52, .invokevirtual 151, 130, 2, 7, 1), (55, .ireturn, 0, 0, 0, 0),
  (56, .aload_n 0, 0, 0, 0, 0), (57, .getfield 75, 7, 42, 0, 0), (60, .aload_n 0, 0, 0, 0, 0), (61, .getfield 169, 7, 47, 0, 0), (64, .iconst 1, 0, 0, 0, 0), (65, .bastore, 0, 0, 0, 0),
  (66, .aload_n 0, 0, 0, 0, 0), (67, .getfield 72, 7, 41, 0, 0), (70, .aload_n 0, 0, 0, 0, 0), (71, .getfield 190, 7, 40, 0, 0), (74, .aload_n 0, 0, 0, 0, 0), (75, .getfield 169, 7, 47, 0, 0),
  (78, .iastore, 0, 0, 0, 0), (79, .aload_n 0, 0, 0, 0, 0), (80, .invokevirtual 157, 129, 1, 7, 0), (83, .aload_n 0, 0, 0, 0, 0), (84, .iconst 1, 0, 0, 0, 0), (85, .bipush 60, 0, 0, 0, 0),
  (87, .invokevirtual 163, 131, 3, 7, 1), (90, .ifCond .ne 5, 0, 0, 0, 0), (93, .iconst 0, 0, 0, 0, 0), (94, .ireturn, 0, 0, 0, 0), (95, .aload_n 0, 0, 0, 0, 0), (96, .getfield 72, 7, 41, 0, 0),
  (99, .iconst 4, 0, 0, 0, 0), (100, .aload_n 0, 0, 0, 0, 0), (101, .getfield 190, 7, 40, 0, 0), (104, .iadd, 0, 0, 0, 0), (105, .aload_n 0, 0, 0, 0, 0), (106, .getfield 154, 7, 32, 0, 0),
  (109, .iastore, 0, 0, 0, 0), (110, .aload_n 0, 0, 0, 0, 0), (111, .iconst 0, 0, 0, 0, 0), (112, .bipush 99, 0, 0, 0, 0), (114, .invokevirtual 163, 131, 3, 7, 1), (117, .ifCond .ne 5, 0, 0, 0, 0),
  (120, .iconst 0, 0, 0, 0, 0), (121, .ireturn, 0, 0, 0, 0), (122, .aload_n 0, 0, 0, 0, 0), (123, .getfield 72, 7, 41, 0, 0), (126, .bipush 8, 0, 0, 0, 0), (128, .aload_n 0, 0, 0, 0, 0),
  (129, .getfield 190, 7, 40, 0, 0), (132, .iadd, 0, 0, 0, 0), (133, .aload_n 0, 0, 0, 0, 0), (134, .getfield 154, 7, 32, 0, 0), (137, .iastore, 0, 0, 0, 0), (138, .aload_n 0, 0, 0, 0, 0),
  (139, .dup, 0, 0, 0, 0), (140, .getfield 190, 7, 40, 0, 0), (143, .iconst 1, 0, 0, 0, 0), (144, .iadd, 0, 0, 0, 0), (145, .putfield 190, 7, 40, 0, 0), (148, .aload_n 0, 0, 0, 0, 0),
  (149, .invokevirtual 177, 132, 1, 7, 1), (152, .ireturn, 0, 0, 0, 0)]
def tMo_readsStove : xTb := ((⟨"FirstFeltModel", "readsStove", "()Z"⟩, prog_9_method_22_code, 1, (some .boolean)), (0, 0), "FirstFeltModel", true, iMo_readsStove)
def iMo_readsRoof : List (Nat × xE) := [(0, .aload_n 0, 0, 0, 0, 0), (1, .getfield 193, 7, 39, 0, 0), (4, .bipush 12, 0, 0, 0, 0), (6, .if_icmp .ne 9, 0, 0, 0, 0), (9, .aload_n 0, 0, 0, 0, 0), (10, .iconst 3, 0, 0, 0, 0),
  (11, .invokevirtual 151, 130, 2, 7, 1), (14, .ireturn, 0, 0, 0, 0), (15, .aload_n 0, 0, 0, 0, 0), (16, .dup, 0, 0, 0, 0), (17, .getfield 193, 7, 39, 0, 0), (20, .iconst 1, 0, 0, 0, 0),
  (21, .iadd, 0, 0, 0, 0), (22, .putfield 193, 7, 39, 0, 0), (25, .aload_n 0, 0, 0, 0, 0), (26, .invokevirtual 157, 129, 1, 7, 0), (29, .aload_n 0, 0, 0, 0, 0), (30, .invokevirtual 184, 133, 1, 7, 1),
  (33, .ifCond .eq 14, 0, 0, 0, 0), (36, .aload_n 0, 0, 0, 0, 0), (37, .aload_n 0, 0, 0, 0, 0), (38, .getfield 154, 7, 32, 0, 0), (41, .invokevirtual 187, 134, 2, 7, 1), (44, .ifCond .ne 5, 0, 0, 0, 0),
  (47, .iconst 0, 0, 0, 0, 0), (48, .ireturn, 0, 0, 0, 0), (49, .aload_n 0, 0, 0, 0, 0), (50, .getfield 69, 7, 38, 0, 0), (53, .aload_n 0, 0, 0, 0, 0), (54, .getfield 169, 7, 47, 0, 0),
  (57, .baload, 0, 0, 0, 0), (58, .ifCond .eq 9, 0, 0, 0, 0), (61, .aload_n 0, 0, 0, 0, 0), (62, .iconst 4, 0, 0, 0, 0), (63, .invokevirtual 151, 130, 2, 7, 1), (66, .ireturn, 0, 0, 0, 0),
  (67, .aload_n 0, 0, 0, 0, 0), (68, .getfield 69, 7, 38, 0, 0), (71, .aload_n 0, 0, 0, 0, 0), (72, .getfield 169, 7, 47, 0, 0), (75, .iconst 1, 0, 0, 0, 0), (76, .bastore, 0, 0, 0, 0),
  (77, .aload_n 0, 0, 0, 0, 0), (78, .invokevirtual 157, 129, 1, 7, 0), (81, .aload_n 0, 0, 0, 0, 0), (82, .invokevirtual 177, 132, 1, 7, 1), (85, .ireturn, 0, 0, 0, 0)]
def tMo_readsRoof : xTb := ((⟨"FirstFeltModel", "readsRoof", "()Z"⟩, prog_9_method_23_code, 1, (some .boolean)), (0, 0), "FirstFeltModel", true, iMo_readsRoof)
def iMo_readsSun : List (Nat × xE) := [(0, .aload_n 0, 0, 0, 0, 0), (1, .getfield 196, 7, 43, 0, 0), (4, .ifCond .le 9, 0, 0, 0, 0), (7, .aload_n 0, 0, 0, 0, 0), (8, .iconst 3, 0, 0, 0, 0), (9, .invokevirtual 151, 130, 2, 7, 1),
  (12, .ireturn, 0, 0, 0, 0), (13, .aload_n 0, 0, 0, 0, 0), (14, .invokevirtual 157, 129, 1, 7, 0), (17, .iconst 1, 0, 0, 0, 0), (18, .istore_n 1, 0, 0, 0, 0), (19, .iload_n 1, 0, 0, 0, 0),
  (20, .ifCond .eq 73, 0, 0, 0, 0), (23, .aload_n 0, 0, 0, 0, 0), (24, .iconst 0, 0, 0, 0, 0), (25, .bipush 30, 0, 0, 0, 0), (27, .invokevirtual 163, 131, 3, 7, 1), (30, .ifCond .ne 5, 0, 0, 0, 0),
  (33, .iconst 0, 0, 0, 0, 0), (34, .ireturn, 0, 0, 0, 0), (35, .aload_n 0, 0, 0, 0, 0), (36, .getfield 78, 7, 44, 0, 0), (39, .aload_n 0, 0, 0, 0, 0), (40, .getfield 196, 7, 43, 0, 0),
  (43, .aload_n 0, 0, 0, 0, 0), (44, .getfield 154, 7, 32, 0, 0), (47, .iastore, 0, 0, 0, 0), (48, .aload_n 0, 0, 0, 0, 0), (49, .dup, 0, 0, 0, 0), (50, .getfield 196, 7, 43, 0, 0),
  (53, .iconst 1, 0, 0, 0, 0), (54, .iadd, 0, 0, 0, 0), (55, .putfield 196, 7, 43, 0, 0), (58, .aload_n 0, 0, 0, 0, 0), (59, .getfield 133, 7, 29, 0, 0), (62, .bipush 44, 0, 0, 0, 0),
  (64, .if_icmp .ne 16, 0, 0, 0, 0), (67, .aload_n 0, 0, 0, 0, 0), (68, .getfield 196, 7, 43, 0, 0), (71, .bipush 8, 0, 0, 0, 0), (73, .if_icmp .ge 7, 0, 0, 0, 0), (76, .iconst 1, 0, 0, 0, 0),
  (77, .goto 4, 0, 0, 0, 0), (80, .iconst 0, 0, 0, 0, 0), (81, .istore_n 1, 0, 0, 0, 0), (82, .iload_n 1, 0, 0, 0, 0), (83, .ifCond .eq (-64), 0, 0, 0, 0), (86, .aload_n 0, 0, 0, 0, 0),
  (87, .invokevirtual 157, 129, 1, 7, 0), (90, .goto (-71), 0, 0, 0, 0), (93, .aload_n 0, 0, 0, 0, 0), (94, .invokevirtual 177, 132, 1, 7, 1), (97, .ireturn, 0, 0, 0, 0)]
def tMo_readsSun : xTb := ((⟨"FirstFeltModel", "readsSun", "()Z"⟩, prog_9_method_24_code, 2, (some .boolean)), (0, 0), "FirstFeltModel", true, iMo_readsSun)
def iMo_readsPerson : List (Nat × xE) := [(0, .aload_n 0, 0, 0, 0, 0), (1, .getfield 199, 7, 45, 0, 0), (4, .bipush 6, 0, 0, 0, 0), (6, .if_icmp .ne 9, 0, 0, 0, 0), (9, .aload_n 0, 0, 0, 0, 0), (10, .iconst 3, 0, 0, 0, 0),
  (11, .invokevirtual 151, 130, 2, 7, 1), (14, .ireturn, 0, 0, 0, 0), (15, .aload_n 0, 0, 0, 0, 0), (16, .invokevirtual 157, 129, 1, 7, 0), (19, .aload_n 0, 0, 0, 0, 0), (20, .invokevirtual 184, 133, 1, 7, 1),
  (23, .ifCond .eq 14, 0, 0, 0, 0), (26, .aload_n 0, 0, 0, 0, 0), (27, .aload_n 0, 0, 0, 0, 0), (28, .getfield 154, 7, 32, 0, 0), (31, .invokevirtual 187, 134, 2, 7, 1), (34, .ifCond .ne 5, 0, 0, 0, 0),
  (37, .iconst 0, 0, 0, 0, 0), (38, .ireturn, 0, 0, 0, 0), (39, .aload_n 0, 0, 0, 0, 0), (40, .getfield 81, 7, 46, 0, 0), (43, .aload_n 0, 0, 0, 0, 0), (44, .getfield 199, 7, 45, 0, 0),
  (47, .aload_n 0, 0, 0, 0, 0), (48, .getfield 169, 7, 47, 0, 0), (51, .iastore, 0, 0, 0, 0), (52, .aload_n 0, 0, 0, 0, 0), (53, .invokevirtual 157, 129, 1, 7, 0), (56, .aload_n 0, 0, 0, 0, 0),
  (57, .iconst 0, 0, 0, 0, 0), (58, .sipush 300, 0, 0, 0, 0), (61, .invokevirtual 163, 131, 3, 7, 1), (64, .ifCond .ne 5, 0, 0, 0, 0), (67, .iconst 0, 0, 0, 0, 0), (68, .ireturn, 0, 0, 0, 0),
  (69, .aload_n 0, 0, 0, 0, 0), (70, .getfield 81, 7, 46, 0, 0), (73, .bipush 6, 0, 0, 0, 0), (75, .aload_n 0, 0, 0, 0, 0), (76, .getfield 199, 7, 45, 0, 0), (79, .iadd, 0, 0, 0, 0),
  (80, .aload_n 0, 0, 0, 0, 0), (81, .getfield 154, 7, 32, 0, 0), (84, .iastore, 0, 0, 0, 0), (85, .aload_n 0, 0, 0, 0, 0), (86, .iconst 1, 0, 0, 0, 0), (87, .bipush 60, 0, 0, 0, 0),
  (89, .invokevirtual 163, 131, 3, 7, 1), (92, .ifCond .ne 5, 0, 0, 0, 0), (95, .iconst 0, 0, 0, 0, 0), (96, .ireturn, 0, 0, 0, 0), (97, .aload_n 0, 0, 0, 0, 0), (98, .getfield 81, 7, 46, 0, 0),
  (101, .bipush 12, 0, 0, 0, 0), (103, .aload_n 0, 0, 0, 0, 0), (104, .getfield 199, 7, 45, 0, 0), (107, .iadd, 0, 0, 0, 0), (108, .aload_n 0, 0, 0, 0, 0), (109, .getfield 154, 7, 32, 0, 0),
  (112, .iastore, 0, 0, 0, 0), (113, .aload_n 0, 0, 0, 0, 0), (114, .iconst 0, 0, 0, 0, 0), (115, .bipush 9, 0, 0, 0, 0), (117, .invokevirtual 163, 131, 3, 7, 1), (120, .ifCond .ne 5, 0, 0, 0, 0),
  (123, .iconst 0, 0, 0, 0, 0), (124, .ireturn, 0, 0, 0, 0), (125, .aload_n 0, 0, 0, 0, 0), (126, .getfield 81, 7, 46, 0, 0), (129, .bipush 18, 0, 0, 0, 0), (131, .aload_n 0, 0, 0, 0, 0),
  (132, .getfield 199, 7, 45, 0, 0), (135, .iadd, 0, 0, 0, 0), (136, .aload_n 0, 0, 0, 0, 0), (137, .getfield 154, 7, 32, 0, 0), (140, .iastore, 0, 0, 0, 0), (141, .aload_n 0, 0, 0, 0, 0),
  (142, .dup, 0, 0, 0, 0), (143, .getfield 199, 7, 45, 0, 0), (146, .iconst 1, 0, 0, 0, 0), (147, .iadd, 0, 0, 0, 0), (148, .putfield 199, 7, 45, 0, 0), (151, .aload_n 0, 0, 0, 0, 0),
  (152, .invokevirtual 177, 132, 1, 7, 1), (155, .ireturn, 0, 0, 0, 0)]
def tMo_readsPerson : xTb := ((⟨"FirstFeltModel", "readsPerson", "()Z"⟩, prog_9_method_25_code, 1, (some .boolean)), (0, 0), "FirstFeltModel", true, iMo_readsPerson)
def iMo_readsClause : List (Nat × xE) := [(0, .aload_n 0, 0, 0, 0, 0), (1, .getfield 133, 7, 29, 0, 0), (4, .tableswitch 77 111 119 #[57, 72, 77, 62, 67, 77, 77, 77, 52], 0, 0, 0, 0), (56, .aload_n 0, 0, 0, 0, 0), (57, .invokevirtual 202, 136, 1, 7, 1), (60, .ireturn, 0, 0, 0, 0),
  (61, .aload_n 0, 0, 0, 0, 0), (62, .invokevirtual 205, 137, 1, 7, 1), (65, .ireturn, 0, 0, 0, 0), (66, .aload_n 0, 0, 0, 0, 0), (67, .invokevirtual 208, 138, 1, 7, 1), (70, .ireturn, 0, 0, 0, 0),
  (71, .aload_n 0, 0, 0, 0, 0), (72, .invokevirtual 211, 139, 1, 7, 1), (75, .ireturn, 0, 0, 0, 0), (76, .aload_n 0, 0, 0, 0, 0), (77, .invokevirtual 214, 140, 1, 7, 1), (80, .ireturn, 0, 0, 0, 0),
  (81, .aload_n 0, 0, 0, 0, 0), (82, .aload_n 0, 0, 0, 0, 0), (83, .getfield 133, 7, 29, 0, 0), (86, .bipush 116, 0, 0, 0, 0), (88, .if_icmp .ne 7, 0, 0, 0, 0), (91, .iconst 3, 0, 0, 0, 0),
  (92, .goto 4, 0, 0, 0, 0), (95, .iconst 1, 0, 0, 0, 0), (96, .invokevirtual 151, 130, 2, 7, 1), (99, .ireturn, 0, 0, 0, 0)]
def tMo_readsClause : xTb := ((⟨"FirstFeltModel", "readsClause", "()Z"⟩, prog_9_method_26_code, 1, (some .boolean)), (0, 0), "FirstFeltModel", true, iMo_readsClause)
def iMo_readsAll : List (Nat × xE) := [(0, .aload_n 0, 0, 0, 0, 0), (1, .iconst 0, 0, 0, 0, 0), (2, .putfield 160, 7, 33, 0, 0), (5, .aload_n 0, 0, 0, 0, 0), (6, .iconst 0, 0, 0, 0, 0), (7, .putfield 166, 7, 34, 0, 0),
  (10, .aload_n 0, 0, 0, 0, 0), (11, .iconst 0, 0, 0, 0, 0), (12, .putfield 181, 7, 37, 0, 0), (15, .aload_n 0, 0, 0, 0, 0), (16, .iconst 0, 0, 0, 0, 0), (17, .putfield 193, 7, 39, 0, 0),
  (20, .aload_n 0, 0, 0, 0, 0), (21, .iconst 0, 0, 0, 0, 0), (22, .putfield 190, 7, 40, 0, 0), (25, .aload_n 0, 0, 0, 0, 0), (26, .iconst 0, 0, 0, 0, 0), (27, .putfield 196, 7, 43, 0, 0),
  (30, .aload_n 0, 0, 0, 0, 0), (31, .iconst 0, 0, 0, 0, 0), (32, .putfield 199, 7, 45, 0, 0), (35, .aload_n 0, 0, 0, 0, 0), (36, .iconst 0, 0, 0, 0, 0), (37, .putfield 148, 7, 31, 0, 0),
  (40, .iconst 0, 0, 0, 0, 0), (41, .istore_n 1, 0, 0, 0, 0), (42, .iload_n 1, 0, 0, 0, 0), (43, .bipush 20, 0, 0, 0, 0), (45, .if_icmp .ge 40, 0, 0, 0, 0), (48, .aload_n 0, 0, 0, 0, 0),
  (49, .getfield 66, 7, 36, 0, 0), (52, .iload_n 1, 0, 0, 0, 0), (53, .iconst 0, 0, 0, 0, 0), (54, .iastore, 0, 0, 0, 0), (55, .aload_n 0, 0, 0, 0, 0), (56, .getfield 66, 7, 36, 0, 0),
  (59, .bipush 20, 0, 0, 0, 0), (61, .iload_n 1, 0, 0, 0, 0), (62, .iadd, 0, 0, 0, 0), (63, .iconst 0, 0, 0, 0, 0), (64, .iastore, 0, 0, 0, 0), (65, .aload_n 0, 0, 0, 0, 0),
  (66, .getfield 69, 7, 38, 0, 0), (69, .iload_n 1, 0, 0, 0, 0), (70, .iconst 0, 0, 0, 0, 0), (71, .bastore, 0, 0, 0, 0), (72, .aload_n 0, 0, 0, 0, 0), (73, .getfield 75, 7, 42, 0, 0),
  (76, .iload_n 1, 0, 0, 0, 0), (77, .iconst 0, 0, 0, 0, 0), (78, .bastore, 0, 0, 0, 0), (79, .iinc 1 1, 0, 0, 0, 0), (82, .goto (-40), 0, 0, 0, 0), (85, .aload_n 0, 0, 0, 0, 0),
  (86, .iconst 0, 0, 0, 0, 0), (87, .invokevirtual 144, 128, 2, 7, 0), (90, .aload_n 0, 0, 0, 0, 0), (91, .getfield 133, 7, 29, 0, 0), (94, .ifCond .ne 5, 0, 0, 0, 0), (97, .iconst 1, 0, 0, 0, 0),
  (98, .ireturn, 0, 0, 0, 0), (99, .aload_n 0, 0, 0, 0, 0), (100, .invokevirtual 217, 135, 1, 7, 1), (103, .istore_n 1, 0, 0, 0, 0), (104, .iload_n 1, 0, 0, 0, 0), (105, .ifCond .eq 18, 0, 0, 0, 0),
  (108, .aload_n 0, 0, 0, 0, 0), (109, .getfield 133, 7, 29, 0, 0), (112, .ifCond .eq 11, 0, 0, 0, 0), (115, .aload_n 0, 0, 0, 0, 0), (116, .invokevirtual 220, 141, 1, 7, 1), (119, .istore_n 1, 0, 0, 0, 0),
  (120, .goto (-16), 0, 0, 0, 0), (123, .iload_n 1, 0, 0, 0, 0), (124, .ireturn, 0, 0, 0, 0)]
def tMo_readsAll : xTb := ((⟨"FirstFeltModel", "readsAll", "()Z"⟩, prog_9_method_27_code, 2, (some .boolean)), (0, 0), "FirstFeltModel", true, iMo_readsAll)
def iMo_town : List (Nat × xE) := [(0, .aload_n 0, 0, 0, 0, 0), (1, .invokevirtual 223, 142, 1, 7, 1), (4, .istore_n 1, 0, 0, 0, 0), (5, .aload_n 0, 0, 0, 0, 0), (6, .iload_n 1, 0, 0, 0, 0), (7, .ifCond .eq 7, 0, 0, 0, 0),
  (10, .iconst (-1), 0, 0, 0, 0), (11, .goto 7, 0, 0, 0, 0), (14, .aload_n 0, 0, 0, 0, 0), (15, .getfield 127, 7, 27, 0, 0), (18, .putfield 62, 7, 26, 0, 0), (21, .aload_n 0, 0, 0, 0, 0),
  (22, .iconst 0, 0, 0, 0, 0), (23, .putfield 119, 7, 25, 0, 0), (26, .iload_n 1, 0, 0, 0, 0), (27, .ifCond .ne 11, 0, 0, 0, 0), (30, .bipush (-10), 0, 0, 0, 0), (32, .aload_n 0, 0, 0, 0, 0),
  (33, .getfield 148, 7, 31, 0, 0), (36, .isub, 0, 0, 0, 0), (37, .ireturn, 0, 0, 0, 0), (38, .aload_n 0, 0, 0, 0, 0), (39, .aload_n 0, 0, 0, 0, 0), (40, .getfield 160, 7, 33, 0, 0),
  (43, .putfield 96, 7, 4, 0, 0), (46, .aload_n 0, 0, 0, 0, 0), (47, .aload_n 0, 0, 0, 0, 0), (48, .getfield 166, 7, 34, 0, 0), (51, .putfield 99, 7, 5, 0, 0), (54, .aload_n 0, 0, 0, 0, 0),
  (55, .invokevirtual 93, 119, 1, 7, 0), (58, .aload_n 0, 0, 0, 0, 0), (59, .getfield 7, 7, 0, 0, 0), (62, .sipush 139, 0, 0, 0, 0), (65, .iconst 3, 0, 0, 0, 0), (66, .iastore, 0, 0, 0, 0),
  (67, .iconst 0, 0, 0, 0, 0), (68, .istore_n 2, 0, 0, 0, 0), (69, .iload_n 2, 0, 0, 0, 0), (70, .bipush 20, 0, 0, 0, 0), (72, .if_icmp .ge 78, 0, 0, 0, 0), (75, .aload_n 0, 0, 0, 0, 0),
  (76, .getfield 7, 7, 0, 0, 0), (79, .iconst 0, 0, 0, 0, 0), (80, .iload_n 2, 0, 0, 0, 0), (81, .iadd, 0, 0, 0, 0), (82, .iload_n 2, 0, 0, 0, 0), (83, .aload_n 0, 0, 0, 0, 0),
  (84, .invokevirtual 226, 120, 1, 7, 1), (87, .if_icmp .ge 10, 0, 0, 0, 0), (90, .aload_n 0, 0, 0, 0, 0), (91, .getfield 174, 7, 35, 0, 0), (94, .goto 4, 0, 0, 0, 0), (97, .iconst 0, 0, 0, 0, 0),
  (98, .iastore, 0, 0, 0, 0), (99, .aload_n 0, 0, 0, 0, 0), (100, .getfield 7, 7, 0, 0, 0), (103, .bipush 20, 0, 0, 0, 0), (105, .iload_n 2, 0, 0, 0, 0), (106, .iadd, 0, 0, 0, 0),
  (107, .aload_n 0, 0, 0, 0, 0), (108, .getfield 66, 7, 36, 0, 0), (111, .iload_n 2, 0, 0, 0, 0), (112, .iaload, 0, 0, 0, 0), (113, .iastore, 0, 0, 0, 0), (114, .aload_n 0, 0, 0, 0, 0),
  (115, .getfield 7, 7, 0, 0, 0), (118, .bipush 40, 0, 0, 0, 0), (120, .iload_n 2, 0, 0, 0, 0), (121, .iadd, 0, 0, 0, 0), (122, .aload_n 0, 0, 0, 0, 0), (123, .getfield 66, 7, 36, 0, 0),
  (126, .bipush 20, 0, 0, 0, 0), (128, .iload_n 2, 0, 0, 0, 0), (129, .iadd, 0, 0, 0, 0), (130, .iaload, 0, 0, 0, 0), (131, .iastore, 0, 0, 0, 0), (132, .aload_n 0, 0, 0, 0, 0),
  (133, .getfield 23, 7, 6, 0, 0), (136, .iload_n 2, 0, 0, 0, 0), (137, .aload_n 0, 0, 0, 0, 0), (138, .getfield 69, 7, 38, 0, 0), (141, .iload_n 2, 0, 0, 0, 0), (142, .baload, 0, 0, 0, 0),
  (143, .bastore, 0, 0, 0, 0), (144, .iinc 2 1, 0, 0, 0, 0), (147, .goto (-78), 0, 0, 0, 0), (150, .aload_n 0, 0, 0, 0, 0), (151, .aload_n 0, 0, 0, 0, 0), (152, .getfield 193, 7, 39, 0, 0),
  (155, .putfield 230, 7, 7, 0, 0), (158, .aload_n 0, 0, 0, 0, 0), (159, .aload_n 0, 0, 0, 0, 0), (160, .getfield 190, 7, 40, 0, 0), (163, .putfield 109, 7, 8, 0, 0), (166, .iconst 0, 0, 0, 0, 0),
  (167, .istore_n 2, 0, 0, 0, 0), (168, .iload_n 2, 0, 0, 0, 0), (169, .aload_n 0, 0, 0, 0, 0), (170, .getfield 109, 7, 8, 0, 0), (173, .if_icmp .ge 53, 0, 0, 0, 0), (176, .aload_n 0, 0, 0, 0, 0),
  (177, .getfield 26, 7, 9, 0, 0), (180, .iload_n 2, 0, 0, 0, 0), (181, .aload_n 0, 0, 0, 0, 0), (182, .getfield 72, 7, 41, 0, 0), (185, .iload_n 2, 0, 0, 0, 0), (186, .iaload, 0, 0, 0, 0),
  (187, .iastore, 0, 0, 0, 0), (188, .aload_n 0, 0, 0, 0, 0), (189, .getfield 29, 7, 10, 0, 0), (192, .iload_n 2, 0, 0, 0, 0), (193, .aload_n 0, 0, 0, 0, 0), (194, .getfield 72, 7, 41, 0, 0),
  (197, .iconst 4, 0, 0, 0, 0), (198, .iload_n 2, 0, 0, 0, 0), (199, .iadd, 0, 0, 0, 0), (200, .iaload, 0, 0, 0, 0), (201, .iastore, 0, 0, 0, 0), (202, .aload_n 0, 0, 0, 0, 0),
  (203, .getfield 7, 7, 0, 0, 0), (206, .bipush 100, 0, 0, 0, 0), (208, .iload_n 2, 0, 0, 0, 0), (209, .iadd, 0, 0, 0, 0), (210, .aload_n 0, 0, 0, 0, 0), (211, .getfield 72, 7, 41, 0, 0),
  (214, .bipush 8, 0, 0, 0, 0), (216, .iload_n 2, 0, 0, 0, 0), (217, .iadd, 0, 0, 0, 0), (218, .iaload, 0, 0, 0, 0), (219, .iastore, 0, 0, 0, 0), (220, .iinc 2 1, 0, 0, 0, 0),
  (223, .goto (-55), 0, 0, 0, 0), (226, .aload_n 0, 0, 0, 0, 0), (227, .aload_n 0, 0, 0, 0, 0), (228, .getfield 196, 7, 43, 0, 0), (231, .putfield 233, 7, 11, 0, 0), (234, .iconst 0, 0, 0, 0, 0),
  (235, .istore_n 2, 0, 0, 0, 0), (236, .iload_n 2, 0, 0, 0, 0), (237, .bipush 8, 0, 0, 0, 0), (239, .if_icmp .ge 21, 0, 0, 0, 0), (242, .aload_n 0, 0, 0, 0, 0), (243, .getfield 32, 7, 12, 0, 0),
  (246, .iload_n 2, 0, 0, 0, 0), (247, .aload_n 0, 0, 0, 0, 0), (248, .getfield 78, 7, 44, 0, 0), (251, .iload_n 2, 0, 0, 0, 0), (252, .iaload, 0, 0, 0, 0), (253, .iastore, 0, 0, 0, 0),
  (254, .iinc 2 1, 0, 0, 0, 0), (257, .goto (-21), 0, 0, 0, 0), (260, .aload_n 0, 0, 0, 0, 0), (261, .aload_n 0, 0, 0, 0, 0), (262, .getfield 199, 7, 45, 0, 0), (265, .putfield 106, 7, 13, 0, 0),
  (268, .iconst 0, 0, 0, 0, 0), (269, .istore_n 2, 0, 0, 0, 0), (270, .iload_n 2, 0, 0, 0, 0), (271, .aload_n 0, 0, 0, 0, 0), (272, .getfield 106, 7, 13, 0, 0), (275, .if_icmp .ge 72, 0, 0, 0, 0),
  (278, .aload_n 0, 0, 0, 0, 0), (279, .getfield 7, 7, 0, 0, 0), (282, .bipush 108, 0, 0, 0, 0), (284, .iload_n 2, 0, 0, 0, 0), (285, .iadd, 0, 0, 0, 0), (286, .aload_n 0, 0, 0, 0, 0),
  (287, .getfield 81, 7, 46, 0, 0), (290, .iload_n 2, 0, 0, 0, 0), (291, .iaload, 0, 0, 0, 0), (292, .iastore, 0, 0, 0, 0), (293, .aload_n 0, 0, 0, 0, 0), (294, .getfield 7, 7, 0, 0, 0),
  (297, .bipush 114, 0, 0, 0, 0), (299, .iload_n 2, 0, 0, 0, 0), (300, .iadd, 0, 0, 0, 0), (301, .aload_n 0, 0, 0, 0, 0), (302, .getfield 81, 7, 46, 0, 0), (305, .bipush 6, 0, 0, 0, 0),
  (307, .iload_n 2, 0, 0, 0, 0), (308, .iadd, 0, 0, 0, 0), (309, .iaload, 0, 0, 0, 0), (310, .iastore, 0, 0, 0, 0), (311, .aload_n 0, 0, 0, 0, 0), (312, .getfield 35, 7, 14, 0, 0),
  (315, .iload_n 2, 0, 0, 0, 0), (316, .aload_n 0, 0, 0, 0, 0), (317, .getfield 81, 7, 46, 0, 0), (320, .bipush 12, 0, 0, 0, 0), (322, .iload_n 2, 0, 0, 0, 0), (323, .iadd, 0, 0, 0, 0),
  (324, .iaload, 0, 0, 0, 0), (325, .iastore, 0, 0, 0, 0), (326, .aload_n 0, 0, 0, 0, 0), (327, .getfield 38, 7, 15, 0, 0), (330, .iload_n 2, 0, 0, 0, 0), (331, .aload_n 0, 0, 0, 0, 0),
  (332, .getfield 81, 7, 46, 0, 0), (335, .bipush 18, 0, 0, 0, 0), (337, .iload_n 2, 0, 0, 0, 0), (338, .iadd, 0, 0, 0, 0), (339, .iaload, 0, 0, 0, 0), (340, .iastore, 0, 0, 0, 0),
  (341, .iinc 2 1, 0, 0, 0, 0), (344, .goto (-74), 0, 0, 0, 0), (347, .aload_n 0, 0, 0, 0, 0), (348, .iconst 0, 0, 0, 0, 0), (349, .putfield 236, 7, 16, 0, 0), (352, .aload_n 0, 0, 0, 0, 0),
  (353, .iconst 0, 0, 0, 0, 0), (354, .putfield 239, 7, 20, 0, 0), (357, .aload_n 0, 0, 0, 0, 0), (358, .getfield 16, 7, 2, 0, 0), (361, .iconst 0, 0, 0, 0, 0), (362, .iconst 0, 0, 0, 0, 0),
  (363, .bastore, 0, 0, 0, 0), (364, .aload_n 0, 0, 0, 0, 0), (365, .getfield 16, 7, 2, 0, 0), (368, .iconst 1, 0, 0, 0, 0), (369, .iconst 0, 0, 0, 0, 0), (370, .bastore, 0, 0, 0, 0),
  (371, .aload_n 0, 0, 0, 0, 0), (372, .invokevirtual 226, 120, 1, 7, 1), (375, .ireturn, 0, 0, 0, 0)]
def tMo_town : xTb := ((⟨"FirstFeltModel", "town", "()I"⟩, prog_9_method_28_code, 3, (some .int)), (0, 0), "FirstFeltModel", false, iMo_town)
def iMo_fault : List (Nat × xE) := [(0, .aload_n 0, 0, 0, 0, 0), (1, .getfield 62, 7, 26, 0, 0), (4, .ireturn, 0, 0, 0, 0)]
def tMo_fault : xTb := ((⟨"FirstFeltModel", "fault", "()I"⟩, prog_9_method_29_code, 1, (some .int)), (0, 0), "FirstFeltModel", false, iMo_fault)
def iMo_wallsNow : List (Nat × xE) := [(0, .iconst 0, 0, 0, 0, 0), (1, .istore_n 1, 0, 0, 0, 0), (2, .bipush 20, 0, 0, 0, 0), (4, .istore_n 2, 0, 0, 0, 0), (5, .iload_n 2, 0, 0, 0, 0), (6, .bipush 60, 0, 0, 0, 0),
  (8, .if_icmp .ge 18, 0, 0, 0, 0), (11, .iload_n 1, 0, 0, 0, 0), (12, .aload_n 0, 0, 0, 0, 0), (13, .getfield 7, 7, 0, 0, 0), (16, .iload_n 2, 0, 0, 0, 0), (17, .iaload, 0, 0, 0, 0),
  (18, .iadd, 0, 0, 0, 0), (19, .istore_n 1, 0, 0, 0, 0), (20, .iinc 2 1, 0, 0, 0, 0), (23, .goto (-18), 0, 0, 0, 0), (26, .iload_n 1, 0, 0, 0, 0), (27, .ireturn, 0, 0, 0, 0)]
def tMo_wallsNow : xTb := ((⟨"FirstFeltModel", "wallsNow", "()I"⟩, prog_9_method_30_code, 3, (some .int)), (0, 0), "FirstFeltModel", false, iMo_wallsNow)
def iMo_sunAt : List (Nat × xE) := [(0, .aload_n 0, 0, 0, 0, 0), (1, .getfield 233, 7, 11, 0, 0), (4, .ifCond .ne 7, 0, 0, 0, 0), (7, .iconst 0, 0, 0, 0, 0), (8, .goto 17, 0, 0, 0, 0), (11, .aload_n 0, 0, 0, 0, 0),
  (12, .getfield 32, 7, 12, 0, 0), (15, .iload_n 1, 0, 0, 0, 0), (16, .bipush 6, 0, 0, 0, 0), (18, .idiv, 0, 0, 0, 0), (19, .aload_n 0, 0, 0, 0, 0), (20, .getfield 233, 7, 11, 0, 0),
  (23, .irem, 0, 0, 0, 0), (24, .iaload, 0, 0, 0, 0), (25, .ireturn, 0, 0, 0, 0)]
def tMo_sunAt : xTb := ((⟨"FirstFeltModel", "sunAt", "(I)I"⟩, prog_9_method_31_code, 2, (some .int)), (0, 0), "FirstFeltModel", false, iMo_sunAt)
def iMo_told : List (Nat × xE) := [(0, .iload_n 1, 0, 0, 0, 0), (1, .tableswitch 174 0 14 #[75, 80, 85, 90, 95, 100, 105, 110, 115, 124, 133, 142, 155, 164, 169], 0, 0, 0, 0), (76, .aload_n 0, 0, 0, 0, 0), (77, .getfield 96, 7, 4, 0, 0), (80, .ireturn, 0, 0, 0, 0), (81, .aload_n 0, 0, 0, 0, 0),
  (82, .getfield 99, 7, 5, 0, 0), (85, .ireturn, 0, 0, 0, 0), (86, .aload_n 0, 0, 0, 0, 0), (87, .invokevirtual 242, 145, 1, 7, 1), (90, .ireturn, 0, 0, 0, 0), (91, .aload_n 0, 0, 0, 0, 0),
  (92, .getfield 109, 7, 8, 0, 0), (95, .ireturn, 0, 0, 0, 0), (96, .aload_n 0, 0, 0, 0, 0), (97, .getfield 230, 7, 7, 0, 0), (100, .ireturn, 0, 0, 0, 0), (101, .aload_n 0, 0, 0, 0, 0),
  (102, .getfield 233, 7, 11, 0, 0), (105, .ireturn, 0, 0, 0, 0), (106, .aload_n 0, 0, 0, 0, 0), (107, .getfield 106, 7, 13, 0, 0), (110, .ireturn, 0, 0, 0, 0), (111, .aload_n 0, 0, 0, 0, 0),
  (112, .getfield 119, 7, 25, 0, 0), (115, .ireturn, 0, 0, 0, 0), (116, .aload_n 0, 0, 0, 0, 0), (117, .getfield 7, 7, 0, 0, 0), (120, .sipush 140, 0, 0, 0, 0), (123, .iaload, 0, 0, 0, 0),
  (124, .ireturn, 0, 0, 0, 0), (125, .aload_n 0, 0, 0, 0, 0), (126, .getfield 7, 7, 0, 0, 0), (129, .sipush 138, 0, 0, 0, 0), (132, .iaload, 0, 0, 0, 0), (133, .ireturn, 0, 0, 0, 0),
  (134, .aload_n 0, 0, 0, 0, 0), (135, .getfield 7, 7, 0, 0, 0), (138, .sipush 139, 0, 0, 0, 0), (141, .iaload, 0, 0, 0, 0), (142, .ireturn, 0, 0, 0, 0), (143, .aload_n 0, 0, 0, 0, 0),
  (144, .aload_n 0, 0, 0, 0, 0), (145, .getfield 7, 7, 0, 0, 0), (148, .sipush 140, 0, 0, 0, 0), (151, .iaload, 0, 0, 0, 0), (152, .invokevirtual 245, 146, 2, 7, 1), (155, .ireturn, 0, 0, 0, 0),
  (156, .aload_n 0, 0, 0, 0, 0), (157, .getfield 7, 7, 0, 0, 0), (160, .sipush 142, 0, 0, 0, 0), (163, .iaload, 0, 0, 0, 0), (164, .ireturn, 0, 0, 0, 0), (165, .aload_n 0, 0, 0, 0, 0),
  (166, .getfield 236, 7, 16, 0, 0), (169, .ireturn, 0, 0, 0, 0), (170, .aload_n 0, 0, 0, 0, 0), (171, .getfield 239, 7, 20, 0, 0), (174, .ireturn, 0, 0, 0, 0), (175, .ldc 118, 0, 0, 0, -1000000002),
  (177, .ireturn, 0, 0, 0, 0)]
def tMo_told : xTb := ((⟨"FirstFeltModel", "told", "(I)I"⟩, prog_9_method_32_code, 2, (some .int)), (0, 0), "FirstFeltModel", false, iMo_told)
def iMo_onCell : List (Nat × xE) := [(0, .iconst 0, 0, 0, 0, 0), (1, .istore_n 2, 0, 0, 0, 0), (2, .iconst 0, 0, 0, 0, 0), (3, .istore_n 3, 0, 0, 0, 0), (4, .iload_n 3, 0, 0, 0, 0), (5, .aload_n 0, 0, 0, 0, 0),
  (6, .getfield 106, 7, 13, 0, 0), (9, .if_icmp .ge 32, 0, 0, 0, 0), (12, .iload_n 2, 0, 0, 0, 0), (13, .aload_n 0, 0, 0, 0, 0), (14, .getfield 7, 7, 0, 0, 0), (17, .bipush 108, 0, 0, 0, 0),
  (19, .iload_n 3, 0, 0, 0, 0), (20, .iadd, 0, 0, 0, 0), (21, .iaload, 0, 0, 0, 0), (22, .iload_n 1, 0, 0, 0, 0), (23, .if_icmp .ne 9, 0, 0, 0, 0), (26, .iconst 1, 0, 0, 0, 0),
  (27, .iload_n 3, 0, 0, 0, 0), (28, .ishl, 0, 0, 0, 0), (29, .goto 4, 0, 0, 0, 0), (32, .iconst 0, 0, 0, 0, 0), (33, .ior, 0, 0, 0, 0), (34, .istore_n 2, 0, 0, 0, 0),
  (35, .iinc 3 1, 0, 0, 0, 0), (38, .goto (-34), 0, 0, 0, 0), (41, .iload_n 2, 0, 0, 0, 0), (42, .ireturn, 0, 0, 0, 0)]
def tMo_onCell : xTb := ((⟨"FirstFeltModel", "onCell", "(I)I"⟩, prog_9_method_33_code, 4, (some .int)), (0, 0), "FirstFeltModel", false, iMo_onCell)
def iMo_cell : List (Nat × xE) := [(0, .aload_n 0, 0, 0, 0, 0), (1, .iload_n 1, 0, 0, 0, 0), (2, .iload_n 2, 0, 0, 0, 0), (3, .invokevirtual 112, 121, 3, 7, 1), (6, .ifCond .ne 6, 0, 0, 0, 0), (9, .ldc 249, 0, 0, 0, -1000000001),
  (11, .ireturn, 0, 0, 0, 0), (12, .aload_n 0, 0, 0, 0, 0), (13, .getfield 96, 7, 4, 0, 0), (16, .iload_n 2, 0, 0, 0, 0), (17, .imul, 0, 0, 0, 0), (18, .iload_n 1, 0, 0, 0, 0),
  (19, .iadd, 0, 0, 0, 0), (20, .istore 4, 0, 0, 0, 0), (22, .iload_n 3, 0, 0, 0, 0), (23, .tableswitch 73 0 3 #[29, 39, 50, 66], 0, 0, 0, 0), (52, .aload_n 0, 0, 0, 0, 0), (53, .getfield 7, 7, 0, 0, 0),
  (56, .iconst 0, 0, 0, 0, 0), (57, .iload 4, 0, 0, 0, 0), (59, .iadd, 0, 0, 0, 0), (60, .iaload, 0, 0, 0, 0), (61, .ireturn, 0, 0, 0, 0), (62, .aload_n 0, 0, 0, 0, 0),
  (63, .getfield 7, 7, 0, 0, 0), (66, .bipush 60, 0, 0, 0, 0), (68, .iload 4, 0, 0, 0, 0), (70, .iadd, 0, 0, 0, 0), (71, .iaload, 0, 0, 0, 0), (72, .ireturn, 0, 0, 0, 0),
  (73, .aload_n 0, 0, 0, 0, 0), (74, .getfield 23, 7, 6, 0, 0), (77, .iload 4, 0, 0, 0, 0), (79, .baload, 0, 0, 0, 0), (80, .ifCond .eq 7, 0, 0, 0, 0), (83, .iconst 1, 0, 0, 0, 0),
  (84, .goto 4, 0, 0, 0, 0), (87, .iconst 0, 0, 0, 0, 0), (88, .ireturn, 0, 0, 0, 0), (89, .aload_n 0, 0, 0, 0, 0), (90, .iload 4, 0, 0, 0, 0), (92, .invokevirtual 250, 148, 2, 7, 1),
  (95, .ireturn, 0, 0, 0, 0), (96, .ldc 118, 0, 0, 0, -1000000002), (98, .ireturn, 0, 0, 0, 0)]
def tMo_cell : xTb := ((⟨"FirstFeltModel", "cell", "(III)I"⟩, prog_9_method_34_code, 5, (some .int)), (0, 0), "FirstFeltModel", false, iMo_cell)
def iMo_notWall : List (Nat × xE) := [(0, .aload_n 0, 0, 0, 0, 0), (1, .iload_n 1, 0, 0, 0, 0), (2, .iload_n 2, 0, 0, 0, 0), (3, .invokevirtual 112, 121, 3, 7, 1), (6, .ifCond .eq 34, 0, 0, 0, 0), (9, .iload_n 3, 0, 0, 0, 0),
  (10, .ifCond .ne 14, 0, 0, 0, 0), (13, .aload_n 0, 0, 0, 0, 0), (14, .iload_n 1, 0, 0, 0, 0), (15, .iconst 1, 0, 0, 0, 0), (16, .iadd, 0, 0, 0, 0), (17, .iload_n 2, 0, 0, 0, 0),
  (18, .invokevirtual 112, 121, 3, 7, 1), (21, .ifCond .eq 19, 0, 0, 0, 0), (24, .iload_n 3, 0, 0, 0, 0), (25, .iconst 1, 0, 0, 0, 0), (26, .if_icmp .ne 17, 0, 0, 0, 0), (29, .aload_n 0, 0, 0, 0, 0),
  (30, .iload_n 1, 0, 0, 0, 0), (31, .iload_n 2, 0, 0, 0, 0), (32, .iconst 1, 0, 0, 0, 0), (33, .iadd, 0, 0, 0, 0), (34, .invokevirtual 112, 121, 3, 7, 1), (37, .ifCond .ne 6, 0, 0, 0, 0),
  (40, .ldc 249, 0, 0, 0, -1000000001), (42, .ireturn, 0, 0, 0, 0), (43, .iload_n 3, 0, 0, 0, 0), (44, .i2l, 0, 0, 0, 0), (45, .lconst 0, 0, 0, 0, 0), (46, .lconst 1, 0, 0, 0, 0),
  (47, .invokestatic 102, 118, 3, 7, 1), (50, .ifCond .eq 7, 0, 0, 0, 0), (53, .iconst 0, 0, 0, 0, 0), (54, .goto 5, 0, 0, 0, 0), (57, .ldc 118, 0, 0, 0, -1000000002), (59, .ireturn, 0, 0, 0, 0)]
def tMo_notWall : xTb := ((⟨"FirstFeltModel", "notWall", "(III)I"⟩, prog_9_method_35_code, 4, (some .int)), (0, 0), "FirstFeltModel", false, iMo_notWall)
def iMo_wall : List (Nat × xE) := [(0, .aload_n 0, 0, 0, 0, 0), (1, .iload_n 1, 0, 0, 0, 0), (2, .iload_n 2, 0, 0, 0, 0), (3, .iload_n 3, 0, 0, 0, 0), (4, .invokevirtual 253, 150, 4, 7, 1), (7, .istore 4, 0, 0, 0, 0),
  (9, .iload 4, 0, 0, 0, 0), (11, .ifCond .eq 8, 0, 0, 0, 0), (14, .iload 4, 0, 0, 0, 0), (16, .goto 24, 0, 0, 0, 0), (19, .aload_n 0, 0, 0, 0, 0), (20, .getfield 7, 7, 0, 0, 0),
  (23, .bipush 20, 0, 0, 0, 0), (25, .bipush 20, 0, 0, 0, 0), (27, .iload_n 3, 0, 0, 0, 0), (28, .imul, 0, 0, 0, 0), (29, .iadd, 0, 0, 0, 0), (30, .aload_n 0, 0, 0, 0, 0),
  (31, .getfield 96, 7, 4, 0, 0), (34, .iload_n 2, 0, 0, 0, 0), (35, .imul, 0, 0, 0, 0), (36, .iadd, 0, 0, 0, 0), (37, .iload_n 1, 0, 0, 0, 0), (38, .iadd, 0, 0, 0, 0),
  (39, .iaload, 0, 0, 0, 0), (40, .ireturn, 0, 0, 0, 0)]
def tMo_wall : xTb := ((⟨"FirstFeltModel", "wall", "(III)I"⟩, prog_9_method_36_code, 5, (some .int)), (0, 0), "FirstFeltModel", false, iMo_wall)
def iMo_stove : List (Nat × xE) := [(0, .aload_n 0, 0, 0, 0, 0), (1, .iload_n 1, 0, 0, 0, 0), (2, .invokevirtual 257, 123, 2, 7, 1), (5, .ifCond .ne 6, 0, 0, 0, 0), (8, .ldc 249, 0, 0, 0, -1000000001), (10, .ireturn, 0, 0, 0, 0),
  (11, .iload_n 2, 0, 0, 0, 0), (12, .tableswitch 70 0 3 #[32, 43, 50, 60], 0, 0, 0, 0), (44, .aload_n 0, 0, 0, 0, 0), (45, .aload_n 0, 0, 0, 0, 0), (46, .getfield 26, 7, 9, 0, 0), (49, .iload_n 1, 0, 0, 0, 0),
  (50, .iaload, 0, 0, 0, 0), (51, .invokevirtual 260, 124, 2, 7, 1), (54, .ireturn, 0, 0, 0, 0), (55, .aload_n 0, 0, 0, 0, 0), (56, .getfield 29, 7, 10, 0, 0), (59, .iload_n 1, 0, 0, 0, 0),
  (60, .iaload, 0, 0, 0, 0), (61, .ireturn, 0, 0, 0, 0), (62, .aload_n 0, 0, 0, 0, 0), (63, .getfield 7, 7, 0, 0, 0), (66, .bipush 100, 0, 0, 0, 0), (68, .iload_n 1, 0, 0, 0, 0),
  (69, .iadd, 0, 0, 0, 0), (70, .iaload, 0, 0, 0, 0), (71, .ireturn, 0, 0, 0, 0), (72, .aload_n 0, 0, 0, 0, 0), (73, .getfield 7, 7, 0, 0, 0), (76, .bipush 104, 0, 0, 0, 0),
  (78, .iload_n 1, 0, 0, 0, 0), (79, .iadd, 0, 0, 0, 0), (80, .iaload, 0, 0, 0, 0), (81, .ireturn, 0, 0, 0, 0), (82, .ldc 118, 0, 0, 0, -1000000002), (84, .ireturn, 0, 0, 0, 0)]
def tMo_stove : xTb := ((⟨"FirstFeltModel", "stove", "(II)I"⟩, prog_9_method_37_code, 3, (some .int)), (0, 0), "FirstFeltModel", false, iMo_stove)
def iMo_owns : List (Nat × xE) := [(0, .iconst 0, 0, 0, 0, 0), (1, .istore_n 2, 0, 0, 0, 0), (2, .iconst 0, 0, 0, 0, 0), (3, .istore_n 3, 0, 0, 0, 0), (4, .iload_n 3, 0, 0, 0, 0), (5, .aload_n 0, 0, 0, 0, 0),
  (6, .invokevirtual 226, 120, 1, 7, 1), (9, .if_icmp .ge 30, 0, 0, 0, 0), (12, .iload_n 2, 0, 0, 0, 0), (13, .aload_n 0, 0, 0, 0, 0), (14, .getfield 7, 7, 0, 0, 0), (17, .bipush 60, 0, 0, 0, 0),
  (19, .iload_n 3, 0, 0, 0, 0), (20, .iadd, 0, 0, 0, 0), (21, .iaload, 0, 0, 0, 0), (22, .iload_n 1, 0, 0, 0, 0), (23, .if_icmp .ne 7, 0, 0, 0, 0), (26, .iconst 1, 0, 0, 0, 0),
  (27, .goto 4, 0, 0, 0, 0), (30, .iconst 0, 0, 0, 0, 0), (31, .iadd, 0, 0, 0, 0), (32, .istore_n 2, 0, 0, 0, 0), (33, .iinc 3 1, 0, 0, 0, 0), (36, .goto (-32), 0, 0, 0, 0),
  (39, .iload_n 2, 0, 0, 0, 0), (40, .ireturn, 0, 0, 0, 0)]
def tMo_owns : xTb := ((⟨"FirstFeltModel", "owns", "(I)I"⟩, prog_9_method_38_code, 4, (some .int)), (0, 0), "FirstFeltModel", false, iMo_owns)
def iMo_person : List (Nat × xE) := [(0, .aload_n 0, 0, 0, 0, 0), (1, .iload_n 1, 0, 0, 0, 0), (2, .invokevirtual 263, 122, 2, 7, 1), (5, .ifCond .ne 6, 0, 0, 0, 0), (8, .ldc 249, 0, 0, 0, -1000000001), (10, .ireturn, 0, 0, 0, 0),
  (11, .iload_n 2, 0, 0, 0, 0), (12, .tableswitch 123 0 7 #[48, 62, 72, 79, 86, 96, 106, 112], 0, 0, 0, 0), (60, .aload_n 0, 0, 0, 0, 0), (61, .aload_n 0, 0, 0, 0, 0), (62, .getfield 7, 7, 0, 0, 0), (65, .bipush 108, 0, 0, 0, 0),
  (67, .iload_n 1, 0, 0, 0, 0), (68, .iadd, 0, 0, 0, 0), (69, .iaload, 0, 0, 0, 0), (70, .invokevirtual 260, 124, 2, 7, 1), (73, .ireturn, 0, 0, 0, 0), (74, .aload_n 0, 0, 0, 0, 0),
  (75, .getfield 7, 7, 0, 0, 0), (78, .bipush 114, 0, 0, 0, 0), (80, .iload_n 1, 0, 0, 0, 0), (81, .iadd, 0, 0, 0, 0), (82, .iaload, 0, 0, 0, 0), (83, .ireturn, 0, 0, 0, 0),
  (84, .aload_n 0, 0, 0, 0, 0), (85, .getfield 35, 7, 14, 0, 0), (88, .iload_n 1, 0, 0, 0, 0), (89, .iaload, 0, 0, 0, 0), (90, .ireturn, 0, 0, 0, 0), (91, .aload_n 0, 0, 0, 0, 0),
  (92, .getfield 38, 7, 15, 0, 0), (95, .iload_n 1, 0, 0, 0, 0), (96, .iaload, 0, 0, 0, 0), (97, .ireturn, 0, 0, 0, 0), (98, .aload_n 0, 0, 0, 0, 0), (99, .getfield 7, 7, 0, 0, 0),
  (102, .bipush 120, 0, 0, 0, 0), (104, .iload_n 1, 0, 0, 0, 0), (105, .iadd, 0, 0, 0, 0), (106, .iaload, 0, 0, 0, 0), (107, .ireturn, 0, 0, 0, 0), (108, .aload_n 0, 0, 0, 0, 0),
  (109, .getfield 7, 7, 0, 0, 0), (112, .bipush 126, 0, 0, 0, 0), (114, .iload_n 1, 0, 0, 0, 0), (115, .iadd, 0, 0, 0, 0), (116, .iaload, 0, 0, 0, 0), (117, .ireturn, 0, 0, 0, 0),
  (118, .aload_n 0, 0, 0, 0, 0), (119, .iload_n 1, 0, 0, 0, 0), (120, .invokevirtual 266, 153, 2, 7, 1), (123, .ireturn, 0, 0, 0, 0), (124, .aload_n 0, 0, 0, 0, 0), (125, .getfield 7, 7, 0, 0, 0),
  (128, .sipush 132, 0, 0, 0, 0), (131, .iload_n 1, 0, 0, 0, 0), (132, .iadd, 0, 0, 0, 0), (133, .iaload, 0, 0, 0, 0), (134, .ireturn, 0, 0, 0, 0), (135, .ldc 118, 0, 0, 0, -1000000002),
  (137, .ireturn, 0, 0, 0, 0)]
def tMo_person : xTb := ((⟨"FirstFeltModel", "person", "(II)I"⟩, prog_9_method_39_code, 3, (some .int)), (0, 0), "FirstFeltModel", false, iMo_person)
def iMo_way : List (Nat × xE) := [(0, .iload_n 1, 0, 0, 0, 0), (1, .aload_n 0, 0, 0, 0, 0), (2, .getfield 96, 7, 4, 0, 0), (5, .irem, 0, 0, 0, 0), (6, .istore_n 3, 0, 0, 0, 0), (7, .iload_n 1, 0, 0, 0, 0),
  (8, .aload_n 0, 0, 0, 0, 0), (9, .getfield 96, 7, 4, 0, 0), (12, .idiv, 0, 0, 0, 0), (13, .istore 4, 0, 0, 0, 0), (15, .iload_n 2, 0, 0, 0, 0), (16, .tableswitch 155 1 4 #[32, 65, 95, 129], 0, 0, 0, 0),
  (48, .iload 4, 0, 0, 0, 0), (50, .ifCond .le 29, 0, 0, 0, 0), (53, .aload_n 0, 0, 0, 0, 0), (54, .getfield 7, 7, 0, 0, 0), (57, .bipush 40, 0, 0, 0, 0), (59, .iload_n 1, 0, 0, 0, 0),
  (60, .iadd, 0, 0, 0, 0), (61, .aload_n 0, 0, 0, 0, 0), (62, .getfield 96, 7, 4, 0, 0), (65, .isub, 0, 0, 0, 0), (66, .iaload, 0, 0, 0, 0), (67, .ifCond .ne 12, 0, 0, 0, 0),
  (70, .iload_n 1, 0, 0, 0, 0), (71, .aload_n 0, 0, 0, 0, 0), (72, .getfield 96, 7, 4, 0, 0), (75, .isub, 0, 0, 0, 0), (76, .goto 4, 0, 0, 0, 0), (79, .iconst (-1), 0, 0, 0, 0),
  (80, .ireturn, 0, 0, 0, 0), (81, .iload_n 3, 0, 0, 0, 0), (82, .aload_n 0, 0, 0, 0, 0), (83, .getfield 96, 7, 4, 0, 0), (86, .iconst 1, 0, 0, 0, 0), (87, .isub, 0, 0, 0, 0),
  (88, .if_icmp .ge 21, 0, 0, 0, 0), (91, .aload_n 0, 0, 0, 0, 0), (92, .getfield 7, 7, 0, 0, 0), (95, .bipush 20, 0, 0, 0, 0), (97, .iload_n 1, 0, 0, 0, 0), (98, .iadd, 0, 0, 0, 0),
  (99, .iaload, 0, 0, 0, 0), (100, .ifCond .ne 9, 0, 0, 0, 0), (103, .iload_n 1, 0, 0, 0, 0), (104, .iconst 1, 0, 0, 0, 0), (105, .iadd, 0, 0, 0, 0), (106, .goto 4, 0, 0, 0, 0),
  (109, .iconst (-1), 0, 0, 0, 0), (110, .ireturn, 0, 0, 0, 0), (111, .iload 4, 0, 0, 0, 0), (113, .aload_n 0, 0, 0, 0, 0), (114, .getfield 99, 7, 5, 0, 0), (117, .iconst 1, 0, 0, 0, 0),
  (118, .isub, 0, 0, 0, 0), (119, .if_icmp .ge 24, 0, 0, 0, 0), (122, .aload_n 0, 0, 0, 0, 0), (123, .getfield 7, 7, 0, 0, 0), (126, .bipush 40, 0, 0, 0, 0), (128, .iload_n 1, 0, 0, 0, 0),
  (129, .iadd, 0, 0, 0, 0), (130, .iaload, 0, 0, 0, 0), (131, .ifCond .ne 12, 0, 0, 0, 0), (134, .iload_n 1, 0, 0, 0, 0), (135, .aload_n 0, 0, 0, 0, 0), (136, .getfield 96, 7, 4, 0, 0),
  (139, .iadd, 0, 0, 0, 0), (140, .goto 4, 0, 0, 0, 0), (143, .iconst (-1), 0, 0, 0, 0), (144, .ireturn, 0, 0, 0, 0), (145, .iload_n 3, 0, 0, 0, 0), (146, .ifCond .le 23, 0, 0, 0, 0),
  (149, .aload_n 0, 0, 0, 0, 0), (150, .getfield 7, 7, 0, 0, 0), (153, .bipush 20, 0, 0, 0, 0), (155, .iload_n 1, 0, 0, 0, 0), (156, .iadd, 0, 0, 0, 0), (157, .iconst 1, 0, 0, 0, 0),
  (158, .isub, 0, 0, 0, 0), (159, .iaload, 0, 0, 0, 0), (160, .ifCond .ne 9, 0, 0, 0, 0), (163, .iload_n 1, 0, 0, 0, 0), (164, .iconst 1, 0, 0, 0, 0), (165, .isub, 0, 0, 0, 0),
  (166, .goto 4, 0, 0, 0, 0), (169, .iconst (-1), 0, 0, 0, 0), (170, .ireturn, 0, 0, 0, 0), (171, .iload_n 1, 0, 0, 0, 0), (172, .ireturn, 0, 0, 0, 0)]
def tMo_way : xTb := ((⟨"FirstFeltModel", "way", "(II)I"⟩, prog_9_method_40_code, 5, (some .int)), (0, 0), "FirstFeltModel", false, iMo_way)
def iMo_go : List (Nat × xE) := [(0, .aload_n 0, 0, 0, 0, 0), (1, .iload_n 1, 0, 0, 0, 0), (2, .invokevirtual 263, 122, 2, 7, 1), (5, .ifCond .ne 6, 0, 0, 0, 0), (8, .ldc 249, 0, 0, 0, -1000000001), (10, .ireturn, 0, 0, 0, 0),
  (11, .iload_n 2, 0, 0, 0, 0), (12, .i2l, 0, 0, 0, 0), (13, .lconst 1, 0, 0, 0, 0), (14, .ldc2_w 269, 0, 0, 0, 4), (17, .invokestatic 102, 118, 3, 7, 1), (20, .ifCond .ne 6, 0, 0, 0, 0),
  (23, .ldc 118, 0, 0, 0, -1000000002), (25, .ireturn, 0, 0, 0, 0), (26, .aload_n 0, 0, 0, 0, 0), (27, .aload_n 0, 0, 0, 0, 0), (28, .getfield 7, 7, 0, 0, 0), (31, .bipush 108, 0, 0, 0, 0),
  (33, .iload_n 1, 0, 0, 0, 0), (34, .iadd, 0, 0, 0, 0), (35, .iaload, 0, 0, 0, 0), (36, .iload_n 2, 0, 0, 0, 0), (37, .invokevirtual 271, 155, 3, 7, 1), (40, .istore_n 3, 0, 0, 0, 0),
  (41, .iload_n 3, 0, 0, 0, 0), (42, .iconst (-1), 0, 0, 0, 0), (43, .if_icmp .ne 7, 0, 0, 0, 0), (46, .ldc_w 275, 0, 0, 0, -1000000003), (49, .ireturn, 0, 0, 0, 0), (50, .aload_n 0, 0, 0, 0, 0),
  (51, .getfield 7, 7, 0, 0, 0), (54, .bipush 108, 0, 0, 0, 0), (56, .iload_n 1, 0, 0, 0, 0), (57, .iadd, 0, 0, 0, 0), (58, .iload_n 3, 0, 0, 0, 0), (59, .iastore, 0, 0, 0, 0),
  (60, .aload_n 0, 0, 0, 0, 0), (61, .iload_n 3, 0, 0, 0, 0), (62, .invokevirtual 260, 124, 2, 7, 1), (65, .ireturn, 0, 0, 0, 0)]
def tMo_go : xTb := ((⟨"FirstFeltModel", "go", "(II)I"⟩, prog_9_method_41_code, 4, (some .int)), (0, 0), "FirstFeltModel", false, iMo_go)
def iMo_build : List (Nat × xE) := [(0, .aload_n 0, 0, 0, 0, 0), (1, .iload_n 1, 0, 0, 0, 0), (2, .iload_n 2, 0, 0, 0, 0), (3, .iload_n 3, 0, 0, 0, 0), (4, .invokevirtual 253, 150, 4, 7, 1), (7, .istore 5, 0, 0, 0, 0),
  (9, .iload 5, 0, 0, 0, 0), (11, .ifCond .eq 6, 0, 0, 0, 0), (14, .iload 5, 0, 0, 0, 0), (16, .ireturn, 0, 0, 0, 0), (17, .bipush 20, 0, 0, 0, 0), (19, .bipush 20, 0, 0, 0, 0),
  (21, .iload_n 3, 0, 0, 0, 0), (22, .imul, 0, 0, 0, 0), (23, .iadd, 0, 0, 0, 0), (24, .aload_n 0, 0, 0, 0, 0), (25, .getfield 96, 7, 4, 0, 0), (28, .iload_n 2, 0, 0, 0, 0),
  (29, .imul, 0, 0, 0, 0), (30, .iadd, 0, 0, 0, 0), (31, .iload_n 1, 0, 0, 0, 0), (32, .iadd, 0, 0, 0, 0), (33, .istore 6, 0, 0, 0, 0), (35, .aload_n 0, 0, 0, 0, 0),
  (36, .getfield 7, 7, 0, 0, 0), (39, .iload 6, 0, 0, 0, 0), (41, .iaload, 0, 0, 0, 0), (42, .istore 7, 0, 0, 0, 0), (44, .aload_n 0, 0, 0, 0, 0), (45, .getfield 7, 7, 0, 0, 0),
  (48, .iload 6, 0, 0, 0, 0), (50, .iload 4, 0, 0, 0, 0), (52, .ifCond .eq 7, 0, 0, 0, 0), (55, .iconst 1, 0, 0, 0, 0), (56, .goto 4, 0, 0, 0, 0), (59, .iconst 0, 0, 0, 0, 0),
  (60, .iastore, 0, 0, 0, 0), (61, .iload 7, 0, 0, 0, 0), (63, .ireturn, 0, 0, 0, 0)]
def tMo_build : xTb := ((⟨"FirstFeltModel", "build", "(IIIZ)I"⟩, prog_9_method_42_code, 8, (some .int)), (0, 0), "FirstFeltModel", false, iMo_build)
def iMo_canBeLit : List (Nat × xE) := [(0, .aload_n 0, 0, 0, 0, 0), (1, .getfield 7, 7, 0, 0, 0), (4, .bipush 104, 0, 0, 0, 0), (6, .iload_n 1, 0, 0, 0, 0), (7, .iadd, 0, 0, 0, 0), (8, .iaload, 0, 0, 0, 0),
  (9, .ifCond .ne 19, 0, 0, 0, 0), (12, .aload_n 0, 0, 0, 0, 0), (13, .getfield 7, 7, 0, 0, 0), (16, .bipush 100, 0, 0, 0, 0), (18, .iload_n 1, 0, 0, 0, 0), (19, .iadd, 0, 0, 0, 0),
  (20, .iaload, 0, 0, 0, 0), (21, .ifCond .le 7, 0, 0, 0, 0), (24, .iconst 1, 0, 0, 0, 0), (25, .goto 4, 0, 0, 0, 0), (28, .iconst 0, 0, 0, 0, 0), (29, .ireturn, 0, 0, 0, 0)]
def tMo_canBeLit : xTb := ((⟨"FirstFeltModel", "canBeLit", "(I)Z"⟩, prog_9_method_43_code, 2, (some .boolean)), (0, 0), "FirstFeltModel", true, iMo_canBeLit)
def iMo_light : List (Nat × xE) := [(0, .aload_n 0, 0, 0, 0, 0), (1, .iload_n 1, 0, 0, 0, 0), (2, .invokevirtual 257, 123, 2, 7, 1), (5, .ifCond .ne 6, 0, 0, 0, 0), (8, .ldc 249, 0, 0, 0, -1000000001), (10, .ireturn, 0, 0, 0, 0),
  (11, .aload_n 0, 0, 0, 0, 0), (12, .iload_n 1, 0, 0, 0, 0), (13, .invokevirtual 276, 158, 2, 7, 1), (16, .ifCond .ne 7, 0, 0, 0, 0), (19, .ldc_w 275, 0, 0, 0, -1000000003), (22, .ireturn, 0, 0, 0, 0),
  (23, .aload_n 0, 0, 0, 0, 0), (24, .getfield 7, 7, 0, 0, 0), (27, .bipush 104, 0, 0, 0, 0), (29, .iload_n 1, 0, 0, 0, 0), (30, .iadd, 0, 0, 0, 0), (31, .iconst 1, 0, 0, 0, 0),
  (32, .iastore, 0, 0, 0, 0), (33, .aload_n 0, 0, 0, 0, 0), (34, .getfield 7, 7, 0, 0, 0), (37, .bipush 100, 0, 0, 0, 0), (39, .iload_n 1, 0, 0, 0, 0), (40, .iadd, 0, 0, 0, 0),
  (41, .iaload, 0, 0, 0, 0), (42, .ireturn, 0, 0, 0, 0)]
def tMo_light : xTb := ((⟨"FirstFeltModel", "light", "(I)I"⟩, prog_9_method_44_code, 2, (some .int)), (0, 0), "FirstFeltModel", false, iMo_light)
def iMo_stoke : List (Nat × xE) := [(0, .aload_n 0, 0, 0, 0, 0), (1, .iload_n 1, 0, 0, 0, 0), (2, .invokevirtual 257, 123, 2, 7, 1), (5, .ifCond .ne 6, 0, 0, 0, 0), (8, .ldc 249, 0, 0, 0, -1000000001), (10, .ireturn, 0, 0, 0, 0),
  (11, .iload_n 2, 0, 0, 0, 0), (12, .i2l, 0, 0, 0, 0), (13, .lconst 1, 0, 0, 0, 0), (14, .ldc2_w 279, 0, 0, 0, 99), (17, .invokestatic 102, 118, 3, 7, 1), (20, .ifCond .ne 6, 0, 0, 0, 0),
  (23, .ldc 118, 0, 0, 0, -1000000002), (25, .ireturn, 0, 0, 0, 0), (26, .aload_n 0, 0, 0, 0, 0), (27, .getfield 7, 7, 0, 0, 0), (30, .bipush 100, 0, 0, 0, 0), (32, .iload_n 1, 0, 0, 0, 0),
  (33, .iadd, 0, 0, 0, 0), (34, .iaload, 0, 0, 0, 0), (35, .iload_n 2, 0, 0, 0, 0), (36, .iadd, 0, 0, 0, 0), (37, .istore_n 3, 0, 0, 0, 0), (38, .aload_n 0, 0, 0, 0, 0),
  (39, .getfield 7, 7, 0, 0, 0), (42, .bipush 100, 0, 0, 0, 0), (44, .iload_n 1, 0, 0, 0, 0), (45, .iadd, 0, 0, 0, 0), (46, .iload_n 3, 0, 0, 0, 0), (47, .sipush 999, 0, 0, 0, 0),
  (50, .if_icmp .le 9, 0, 0, 0, 0), (53, .sipush 999, 0, 0, 0, 0), (56, .goto 4, 0, 0, 0, 0), (59, .iload_n 3, 0, 0, 0, 0), (60, .iastore, 0, 0, 0, 0), (61, .aload_n 0, 0, 0, 0, 0),
  (62, .getfield 7, 7, 0, 0, 0), (65, .bipush 100, 0, 0, 0, 0), (67, .iload_n 1, 0, 0, 0, 0), (68, .iadd, 0, 0, 0, 0), (69, .iaload, 0, 0, 0, 0), (70, .ireturn, 0, 0, 0, 0)]
def tMo_stoke : xTb := ((⟨"FirstFeltModel", "stoke", "(II)I"⟩, prog_9_method_45_code, 4, (some .int)), (0, 0), "FirstFeltModel", false, iMo_stoke)
def iMo_law : List (Nat × xE) := [(0, .iload_n 1, 0, 0, 0, 0), (1, .i2l, 0, 0, 0, 0), (2, .lconst 0, 0, 0, 0, 0), (3, .ldc2_w 281, 0, 0, 0, 3), (6, .invokestatic 102, 118, 3, 7, 1), (9, .ifCond .ne 6, 0, 0, 0, 0),
  (12, .ldc 118, 0, 0, 0, -1000000002), (14, .ireturn, 0, 0, 0, 0), (15, .aload_n 0, 0, 0, 0, 0), (16, .getfield 7, 7, 0, 0, 0), (19, .sipush 138, 0, 0, 0, 0), (22, .iaload, 0, 0, 0, 0),
  (23, .istore_n 2, 0, 0, 0, 0), (24, .aload_n 0, 0, 0, 0, 0), (25, .getfield 7, 7, 0, 0, 0), (28, .sipush 138, 0, 0, 0, 0), (31, .iload_n 1, 0, 0, 0, 0), (32, .iastore, 0, 0, 0, 0),
  (33, .iload_n 2, 0, 0, 0, 0), (34, .ireturn, 0, 0, 0, 0)]
def tMo_law : xTb := ((⟨"FirstFeltModel", "law", "(I)I"⟩, prog_9_method_46_code, 3, (some .int)), (0, 0), "FirstFeltModel", false, iMo_law)
def iMo_last : List (Nat × xE) := [(0, .iload_n 1, 0, 0, 0, 0), (1, .i2l, 0, 0, 0, 0), (2, .lconst 1, 0, 0, 0, 0), (3, .ldc2_w 283, 0, 0, 0, 20), (6, .invokestatic 102, 118, 3, 7, 1), (9, .ifCond .ne 6, 0, 0, 0, 0),
  (12, .ldc 118, 0, 0, 0, -1000000002), (14, .ireturn, 0, 0, 0, 0), (15, .aload_n 0, 0, 0, 0, 0), (16, .getfield 7, 7, 0, 0, 0), (19, .sipush 139, 0, 0, 0, 0), (22, .iaload, 0, 0, 0, 0),
  (23, .istore_n 2, 0, 0, 0, 0), (24, .aload_n 0, 0, 0, 0, 0), (25, .getfield 7, 7, 0, 0, 0), (28, .sipush 139, 0, 0, 0, 0), (31, .iload_n 1, 0, 0, 0, 0), (32, .iastore, 0, 0, 0, 0),
  (33, .iload_n 2, 0, 0, 0, 0), (34, .ireturn, 0, 0, 0, 0)]
def tMo_last : xTb := ((⟨"FirstFeltModel", "last", "(I)I"⟩, prog_9_method_47_code, 3, (some .int)), (0, 0), "FirstFeltModel", false, iMo_last)
def iMo_flows : List (Nat × xE) := [(0, .iconst 0, 0, 0, 0, 0), (1, .istore_n 2, 0, 0, 0, 0), (2, .iconst 1, 0, 0, 0, 0), (3, .istore_n 3, 0, 0, 0, 0), (4, .iload_n 3, 0, 0, 0, 0), (5, .iconst 4, 0, 0, 0, 0),
  (6, .if_icmp .gt 51, 0, 0, 0, 0), (9, .aload_n 0, 0, 0, 0, 0), (10, .iload_n 1, 0, 0, 0, 0), (11, .iload_n 3, 0, 0, 0, 0), (12, .invokevirtual 271, 155, 3, 7, 1), (15, .istore 4, 0, 0, 0, 0),
  (17, .iload_n 2, 0, 0, 0, 0), (18, .iload 4, 0, 0, 0, 0), (20, .iconst (-1), 0, 0, 0, 0), (21, .if_icmp .ne 7, 0, 0, 0, 0), (24, .iconst 0, 0, 0, 0, 0), (25, .goto 24, 0, 0, 0, 0),
  (28, .aload_n 0, 0, 0, 0, 0), (29, .getfield 7, 7, 0, 0, 0), (32, .iconst 0, 0, 0, 0, 0), (33, .iload 4, 0, 0, 0, 0), (35, .iadd, 0, 0, 0, 0), (36, .iaload, 0, 0, 0, 0),
  (37, .aload_n 0, 0, 0, 0, 0), (38, .getfield 7, 7, 0, 0, 0), (41, .iconst 0, 0, 0, 0, 0), (42, .iload_n 1, 0, 0, 0, 0), (43, .iadd, 0, 0, 0, 0), (44, .iaload, 0, 0, 0, 0),
  (45, .isub, 0, 0, 0, 0), (46, .bipush 8, 0, 0, 0, 0), (48, .idiv, 0, 0, 0, 0), (49, .iadd, 0, 0, 0, 0), (50, .istore_n 2, 0, 0, 0, 0), (51, .iinc 3 1, 0, 0, 0, 0),
  (54, .goto (-50), 0, 0, 0, 0), (57, .iload_n 2, 0, 0, 0, 0), (58, .ireturn, 0, 0, 0, 0)]
def tMo_flows : xTb := ((⟨"FirstFeltModel", "flows", "(I)I"⟩, prog_9_method_48_code, 5, (some .int)), (0, 0), "FirstFeltModel", false, iMo_flows)
def iMo_goHeat : List (Nat × xE) := [(0, .iconst 0, 0, 0, 0, 0), (1, .istore_n 1, 0, 0, 0, 0), (2, .iload_n 1, 0, 0, 0, 0), (3, .aload_n 0, 0, 0, 0, 0), (4, .invokevirtual 226, 120, 1, 7, 1), (7, .if_icmp .ge 55, 0, 0, 0, 0),
  (10, .aload_n 0, 0, 0, 0, 0), (11, .getfield 84, 7, 48, 0, 0), (14, .iload_n 1, 0, 0, 0, 0), (15, .aload_n 0, 0, 0, 0, 0), (16, .getfield 7, 7, 0, 0, 0), (19, .iconst 0, 0, 0, 0, 0),
  (20, .iload_n 1, 0, 0, 0, 0), (21, .iadd, 0, 0, 0, 0), (22, .iaload, 0, 0, 0, 0), (23, .aload_n 0, 0, 0, 0, 0), (24, .iload_n 1, 0, 0, 0, 0), (25, .invokevirtual 285, 163, 2, 7, 1),
  (28, .iadd, 0, 0, 0, 0), (29, .aload_n 0, 0, 0, 0, 0), (30, .getfield 23, 7, 6, 0, 0), (33, .iload_n 1, 0, 0, 0, 0), (34, .baload, 0, 0, 0, 0), (35, .ifCond .eq 7, 0, 0, 0, 0),
  (38, .iconst 0, 0, 0, 0, 0), (39, .goto 15, 0, 0, 0, 0), (42, .aload_n 0, 0, 0, 0, 0), (43, .aload_n 0, 0, 0, 0, 0), (44, .getfield 7, 7, 0, 0, 0), (47, .sipush 140, 0, 0, 0, 0),
  (50, .iaload, 0, 0, 0, 0), (51, .invokevirtual 245, 146, 2, 7, 1), (54, .iadd, 0, 0, 0, 0), (55, .iastore, 0, 0, 0, 0), (56, .iinc 1 1, 0, 0, 0, 0), (59, .goto (-57), 0, 0, 0, 0),
  (62, .iconst 0, 0, 0, 0, 0), (63, .istore_n 1, 0, 0, 0, 0), (64, .iload_n 1, 0, 0, 0, 0), (65, .aload_n 0, 0, 0, 0, 0), (66, .getfield 109, 7, 8, 0, 0), (69, .if_icmp .ge 81, 0, 0, 0, 0),
  (72, .aload_n 0, 0, 0, 0, 0), (73, .getfield 7, 7, 0, 0, 0), (76, .bipush 104, 0, 0, 0, 0), (78, .iload_n 1, 0, 0, 0, 0), (79, .iadd, 0, 0, 0, 0), (80, .iaload, 0, 0, 0, 0),
  (81, .iconst 1, 0, 0, 0, 0), (82, .if_icmp .ne 62, 0, 0, 0, 0), (85, .aload_n 0, 0, 0, 0, 0), (86, .getfield 84, 7, 48, 0, 0), (89, .aload_n 0, 0, 0, 0, 0), (90, .getfield 26, 7, 9, 0, 0),
  (93, .iload_n 1, 0, 0, 0, 0), (94, .iaload, 0, 0, 0, 0), (95, .dup2, 0, 0, 0, 0), (96, .iaload, 0, 0, 0, 0), (97, .aload_n 0, 0, 0, 0, 0), (98, .getfield 29, 7, 10, 0, 0),
  (101, .iload_n 1, 0, 0, 0, 0), (102, .iaload, 0, 0, 0, 0), (103, .iadd, 0, 0, 0, 0), (104, .iastore, 0, 0, 0, 0), (105, .aload_n 0, 0, 0, 0, 0), (106, .getfield 7, 7, 0, 0, 0),
  (109, .bipush 100, 0, 0, 0, 0), (111, .iload_n 1, 0, 0, 0, 0), (112, .iadd, 0, 0, 0, 0), (113, .dup2, 0, 0, 0, 0), (114, .iaload, 0, 0, 0, 0), (115, .iconst 1, 0, 0, 0, 0),
  (116, .isub, 0, 0, 0, 0), (117, .iastore, 0, 0, 0, 0), (118, .aload_n 0, 0, 0, 0, 0), (119, .getfield 7, 7, 0, 0, 0), (122, .bipush 104, 0, 0, 0, 0), (124, .iload_n 1, 0, 0, 0, 0),
  (125, .iadd, 0, 0, 0, 0), (126, .aload_n 0, 0, 0, 0, 0), (127, .getfield 7, 7, 0, 0, 0), (130, .bipush 100, 0, 0, 0, 0), (132, .iload_n 1, 0, 0, 0, 0), (133, .iadd, 0, 0, 0, 0),
  (134, .iaload, 0, 0, 0, 0), (135, .ifCond .le 7, 0, 0, 0, 0), (138, .iconst 1, 0, 0, 0, 0), (139, .goto 4, 0, 0, 0, 0), (142, .iconst 0, 0, 0, 0, 0), (143, .iastore, 0, 0, 0, 0),
  (144, .iinc 1 1, 0, 0, 0, 0), (147, .goto (-83), 0, 0, 0, 0), (150, .iconst 0, 0, 0, 0, 0), (151, .istore_n 1, 0, 0, 0, 0), (152, .iload_n 1, 0, 0, 0, 0), (153, .aload_n 0, 0, 0, 0, 0),
  (154, .getfield 106, 7, 13, 0, 0), (157, .if_icmp .ge 32, 0, 0, 0, 0), (160, .aload_n 0, 0, 0, 0, 0), (161, .getfield 84, 7, 48, 0, 0), (164, .aload_n 0, 0, 0, 0, 0), (165, .getfield 7, 7, 0, 0, 0),
  (168, .bipush 108, 0, 0, 0, 0), (170, .iload_n 1, 0, 0, 0, 0), (171, .iadd, 0, 0, 0, 0), (172, .iaload, 0, 0, 0, 0), (173, .dup2, 0, 0, 0, 0), (174, .iaload, 0, 0, 0, 0),
  (175, .aload_n 0, 0, 0, 0, 0), (176, .getfield 38, 7, 15, 0, 0), (179, .iload_n 1, 0, 0, 0, 0), (180, .iaload, 0, 0, 0, 0), (181, .iadd, 0, 0, 0, 0), (182, .iastore, 0, 0, 0, 0),
  (183, .iinc 1 1, 0, 0, 0, 0), (186, .goto (-34), 0, 0, 0, 0), (189, .iconst 0, 0, 0, 0, 0), (190, .istore_n 1, 0, 0, 0, 0), (191, .iload_n 1, 0, 0, 0, 0), (192, .aload_n 0, 0, 0, 0, 0),
  (193, .invokevirtual 226, 120, 1, 7, 1), (196, .if_icmp .ge 48, 0, 0, 0, 0), (199, .aload_n 0, 0, 0, 0, 0), (200, .getfield 84, 7, 48, 0, 0), (203, .iload_n 1, 0, 0, 0, 0), (204, .iaload, 0, 0, 0, 0),
  (205, .aload_n 0, 0, 0, 0, 0), (206, .getfield 84, 7, 48, 0, 0), (209, .iload_n 1, 0, 0, 0, 0), (210, .iaload, 0, 0, 0, 0), (211, .bipush 50, 0, 0, 0, 0), (213, .idiv, 0, 0, 0, 0),
  (214, .isub, 0, 0, 0, 0), (215, .istore_n 2, 0, 0, 0, 0), (216, .aload_n 0, 0, 0, 0, 0), (217, .getfield 7, 7, 0, 0, 0), (220, .iconst 0, 0, 0, 0, 0), (221, .iload_n 1, 0, 0, 0, 0),
  (222, .iadd, 0, 0, 0, 0), (223, .iload_n 2, 0, 0, 0, 0), (224, .sipush 999, 0, 0, 0, 0), (227, .if_icmp .le 9, 0, 0, 0, 0), (230, .sipush 999, 0, 0, 0, 0), (233, .goto 4, 0, 0, 0, 0),
  (236, .iload_n 2, 0, 0, 0, 0), (237, .iastore, 0, 0, 0, 0), (238, .iinc 1 1, 0, 0, 0, 0), (241, .goto (-50), 0, 0, 0, 0), (244, .return_, 0, 0, 0, 0)]
def tMo_goHeat : xTb := ((⟨"FirstFeltModel", "goHeat", "()V"⟩, prog_9_method_49_code, 3, none), (0, 0), "FirstFeltModel", false, iMo_goHeat)
def iMo_feel : List (Nat × xE) := [(0, .aload_n 0, 0, 0, 0, 0), (1, .iconst 0, 0, 0, 0, 0), (2, .putfield 288, 7, 49, 0, 0), (5, .iconst 0, 0, 0, 0, 0), (6, .istore_n 1, 0, 0, 0, 0), (7, .iload_n 1, 0, 0, 0, 0),
  (8, .aload_n 0, 0, 0, 0, 0), (9, .getfield 106, 7, 13, 0, 0), (12, .if_icmp .ge 78, 0, 0, 0, 0), (15, .iload_n 1, 0, 0, 0, 0), (16, .aload_n 0, 0, 0, 0, 0), (17, .getfield 87, 7, 50, 0, 0),
  (20, .if_icmp .eq 42, 0, 0, 0, 0), (23, .aload_n 0, 0, 0, 0, 0), (24, .getfield 7, 7, 0, 0, 0), (27, .iconst 0, 0, 0, 0, 0), (28, .aload_n 0, 0, 0, 0, 0), (29, .getfield 7, 7, 0, 0, 0),
  (32, .bipush 108, 0, 0, 0, 0), (34, .iload_n 1, 0, 0, 0, 0), (35, .iadd, 0, 0, 0, 0), (36, .iaload, 0, 0, 0, 0), (37, .iadd, 0, 0, 0, 0), (38, .iaload, 0, 0, 0, 0),
  (39, .aload_n 0, 0, 0, 0, 0), (40, .getfield 7, 7, 0, 0, 0), (43, .bipush 114, 0, 0, 0, 0), (45, .iload_n 1, 0, 0, 0, 0), (46, .iadd, 0, 0, 0, 0), (47, .iaload, 0, 0, 0, 0),
  (48, .aload_n 0, 0, 0, 0, 0), (49, .getfield 35, 7, 14, 0, 0), (52, .iload_n 1, 0, 0, 0, 0), (53, .iaload, 0, 0, 0, 0), (54, .iadd, 0, 0, 0, 0), (55, .if_icmp .lt 7, 0, 0, 0, 0),
  (58, .iconst 1, 0, 0, 0, 0), (59, .goto 4, 0, 0, 0, 0), (62, .iconst 0, 0, 0, 0, 0), (63, .istore_n 2, 0, 0, 0, 0), (64, .aload_n 0, 0, 0, 0, 0), (65, .dup, 0, 0, 0, 0),
  (66, .getfield 288, 7, 49, 0, 0), (69, .iload_n 2, 0, 0, 0, 0), (70, .ifCond .eq 9, 0, 0, 0, 0), (73, .iconst 1, 0, 0, 0, 0), (74, .iload_n 1, 0, 0, 0, 0), (75, .ishl, 0, 0, 0, 0),
  (76, .goto 4, 0, 0, 0, 0), (79, .iconst 0, 0, 0, 0, 0), (80, .ior, 0, 0, 0, 0), (81, .putfield 288, 7, 49, 0, 0), (84, .iinc 1 1, 0, 0, 0, 0), (87, .goto (-80), 0, 0, 0, 0),
  (90, .return_, 0, 0, 0, 0)]
def tMo_feel : xTb := ((⟨"FirstFeltModel", "feel", "()V"⟩, prog_9_method_50_code, 3, none), (0, 0), "FirstFeltModel", false, iMo_feel)
def iMo_feelsOn : List (Nat × xE) := [(0, .aload_n 0, 0, 0, 0, 0), (1, .getfield 288, 7, 49, 0, 0), (4, .iload_n 1, 0, 0, 0, 0), (5, .ishr, 0, 0, 0, 0), (6, .iconst 1, 0, 0, 0, 0), (7, .iand, 0, 0, 0, 0),
  (8, .iconst 1, 0, 0, 0, 0), (9, .if_icmp .ne 20, 0, 0, 0, 0), (12, .aload_n 0, 0, 0, 0, 0), (13, .getfield 7, 7, 0, 0, 0), (16, .bipush 108, 0, 0, 0, 0), (18, .iload_n 1, 0, 0, 0, 0),
  (19, .iadd, 0, 0, 0, 0), (20, .iaload, 0, 0, 0, 0), (21, .iload_n 2, 0, 0, 0, 0), (22, .if_icmp .ne 7, 0, 0, 0, 0), (25, .iconst 1, 0, 0, 0, 0), (26, .goto 4, 0, 0, 0, 0),
  (29, .iconst 0, 0, 0, 0, 0), (30, .ireturn, 0, 0, 0, 0)]
def tMo_feelsOn : xTb := ((⟨"FirstFeltModel", "feelsOn", "(II)Z"⟩, prog_9_method_51_code, 3, (some .boolean)), (0, 0), "FirstFeltModel", true, iMo_feelsOn)
def iMo_own : List (Nat × xE) := [(0, .iconst 0, 0, 0, 0, 0), (1, .istore_n 1, 0, 0, 0, 0), (2, .iload_n 1, 0, 0, 0, 0), (3, .aload_n 0, 0, 0, 0, 0), (4, .invokevirtual 226, 120, 1, 7, 1), (7, .if_icmp .ge 173, 0, 0, 0, 0),
  (10, .iconst (-1), 0, 0, 0, 0), (11, .istore_n 2, 0, 0, 0, 0), (12, .iconst 0, 0, 0, 0, 0), (13, .istore_n 3, 0, 0, 0, 0), (14, .iload_n 3, 0, 0, 0, 0), (15, .aload_n 0, 0, 0, 0, 0),
  (16, .getfield 106, 7, 13, 0, 0), (19, .if_icmp .ge 75, 0, 0, 0, 0), (22, .aload_n 0, 0, 0, 0, 0), (23, .getfield 7, 7, 0, 0, 0), (26, .bipush 60, 0, 0, 0, 0), (28, .iload_n 1, 0, 0, 0, 0),
  (29, .iadd, 0, 0, 0, 0), (30, .iaload, 0, 0, 0, 0), (31, .iconst (-1), 0, 0, 0, 0), (32, .if_icmp .ne 62, 0, 0, 0, 0), (35, .aload_n 0, 0, 0, 0, 0), (36, .iload_n 3, 0, 0, 0, 0),
  (37, .iload_n 1, 0, 0, 0, 0), (38, .invokevirtual 291, 166, 3, 7, 1), (41, .ifCond .eq 33, 0, 0, 0, 0), (44, .iload_n 2, 0, 0, 0, 0), (45, .iconst (-1), 0, 0, 0, 0), (46, .if_icmp .eq 24, 0, 0, 0, 0),
  (49, .aload_n 0, 0, 0, 0, 0), (50, .getfield 7, 7, 0, 0, 0), (53, .bipush 114, 0, 0, 0, 0), (55, .iload_n 3, 0, 0, 0, 0), (56, .iadd, 0, 0, 0, 0), (57, .iaload, 0, 0, 0, 0),
  (58, .aload_n 0, 0, 0, 0, 0), (59, .getfield 7, 7, 0, 0, 0), (62, .bipush 114, 0, 0, 0, 0), (64, .iload_n 2, 0, 0, 0, 0), (65, .iadd, 0, 0, 0, 0), (66, .iaload, 0, 0, 0, 0),
  (67, .if_icmp .ge 7, 0, 0, 0, 0), (70, .iconst 1, 0, 0, 0, 0), (71, .goto 4, 0, 0, 0, 0), (74, .iconst 0, 0, 0, 0, 0), (75, .istore 4, 0, 0, 0, 0), (77, .iload 4, 0, 0, 0, 0),
  (79, .ifCond .eq 7, 0, 0, 0, 0), (82, .iload_n 3, 0, 0, 0, 0), (83, .goto 4, 0, 0, 0, 0), (86, .iload_n 2, 0, 0, 0, 0), (87, .istore_n 2, 0, 0, 0, 0), (88, .iinc 3 1, 0, 0, 0, 0),
  (91, .goto (-77), 0, 0, 0, 0), (94, .aload_n 0, 0, 0, 0, 0), (95, .getfield 7, 7, 0, 0, 0), (98, .bipush 60, 0, 0, 0, 0), (100, .iload_n 1, 0, 0, 0, 0), (101, .iadd, 0, 0, 0, 0),
  (102, .iload_n 2, 0, 0, 0, 0), (103, .iconst (-1), 0, 0, 0, 0), (104, .if_icmp .ne 15, 0, 0, 0, 0), (107, .aload_n 0, 0, 0, 0, 0), (108, .getfield 7, 7, 0, 0, 0), (111, .bipush 60, 0, 0, 0, 0),
  (113, .iload_n 1, 0, 0, 0, 0), (114, .iadd, 0, 0, 0, 0), (115, .iaload, 0, 0, 0, 0), (116, .goto 4, 0, 0, 0, 0), (119, .iload_n 2, 0, 0, 0, 0), (120, .iastore, 0, 0, 0, 0),
  (121, .aload_n 0, 0, 0, 0, 0), (122, .getfield 7, 7, 0, 0, 0), (125, .bipush 60, 0, 0, 0, 0), (127, .iload_n 1, 0, 0, 0, 0), (128, .iadd, 0, 0, 0, 0), (129, .iaload, 0, 0, 0, 0),
  (130, .istore_n 3, 0, 0, 0, 0), (131, .aload_n 0, 0, 0, 0, 0), (132, .getfield 7, 7, 0, 0, 0), (135, .bipush 80, 0, 0, 0, 0), (137, .iload_n 1, 0, 0, 0, 0), (138, .iadd, 0, 0, 0, 0),
  (139, .iload_n 3, 0, 0, 0, 0), (140, .iconst (-1), 0, 0, 0, 0), (141, .if_icmp .eq 23, 0, 0, 0, 0), (144, .aload_n 0, 0, 0, 0, 0), (145, .iload_n 3, 0, 0, 0, 0), (146, .iload_n 1, 0, 0, 0, 0),
  (147, .invokevirtual 291, 166, 3, 7, 1), (150, .ifCond .eq 14, 0, 0, 0, 0), (153, .aload_n 0, 0, 0, 0, 0), (154, .getfield 7, 7, 0, 0, 0), (157, .sipush 140, 0, 0, 0, 0), (160, .iaload, 0, 0, 0, 0),
  (161, .goto 12, 0, 0, 0, 0), (164, .aload_n 0, 0, 0, 0, 0), (165, .getfield 7, 7, 0, 0, 0), (168, .bipush 80, 0, 0, 0, 0), (170, .iload_n 1, 0, 0, 0, 0), (171, .iadd, 0, 0, 0, 0),
  (172, .iaload, 0, 0, 0, 0), (173, .iastore, 0, 0, 0, 0), (174, .iinc 1 1, 0, 0, 0, 0), (177, .goto (-175), 0, 0, 0, 0), (180, .return_, 0, 0, 0, 0)]
def tMo_own : xTb := ((⟨"FirstFeltModel", "own", "()V"⟩, prog_9_method_52_code, 5, none), (0, 0), "FirstFeltModel", false, iMo_own)
def iMo_goLaw : List (Nat × xE) := [(0, .iconst 0, 0, 0, 0, 0), (1, .istore_n 1, 0, 0, 0, 0), (2, .iload_n 1, 0, 0, 0, 0), (3, .aload_n 0, 0, 0, 0, 0), (4, .invokevirtual 226, 120, 1, 7, 1), (7, .if_icmp .ge 126, 0, 0, 0, 0),
  (10, .aload_n 0, 0, 0, 0, 0), (11, .getfield 7, 7, 0, 0, 0), (14, .bipush 60, 0, 0, 0, 0), (16, .iload_n 1, 0, 0, 0, 0), (17, .iadd, 0, 0, 0, 0), (18, .iaload, 0, 0, 0, 0),
  (19, .istore_n 2, 0, 0, 0, 0), (20, .aload_n 0, 0, 0, 0, 0), (21, .getfield 7, 7, 0, 0, 0), (24, .sipush 138, 0, 0, 0, 0), (27, .iaload, 0, 0, 0, 0), (28, .iconst 1, 0, 0, 0, 0),
  (29, .if_icmp .ne 36, 0, 0, 0, 0), (32, .aload_n 0, 0, 0, 0, 0), (33, .getfield 7, 7, 0, 0, 0), (36, .sipush 140, 0, 0, 0, 0), (39, .iaload, 0, 0, 0, 0), (40, .aload_n 0, 0, 0, 0, 0),
  (41, .getfield 7, 7, 0, 0, 0), (44, .bipush 80, 0, 0, 0, 0), (46, .iload_n 1, 0, 0, 0, 0), (47, .iadd, 0, 0, 0, 0), (48, .iaload, 0, 0, 0, 0), (49, .isub, 0, 0, 0, 0),
  (50, .aload_n 0, 0, 0, 0, 0), (51, .getfield 7, 7, 0, 0, 0), (54, .sipush 139, 0, 0, 0, 0), (57, .iaload, 0, 0, 0, 0), (58, .if_icmp .le 7, 0, 0, 0, 0), (61, .iconst 1, 0, 0, 0, 0),
  (62, .goto 4, 0, 0, 0, 0), (65, .iconst 0, 0, 0, 0, 0), (66, .istore_n 3, 0, 0, 0, 0), (67, .aload_n 0, 0, 0, 0, 0), (68, .getfield 7, 7, 0, 0, 0), (71, .sipush 138, 0, 0, 0, 0),
  (74, .iaload, 0, 0, 0, 0), (75, .iconst 2, 0, 0, 0, 0), (76, .if_icmp .ne 25, 0, 0, 0, 0), (79, .iload_n 2, 0, 0, 0, 0), (80, .iconst (-1), 0, 0, 0, 0), (81, .if_icmp .eq 20, 0, 0, 0, 0),
  (84, .aload_n 0, 0, 0, 0, 0), (85, .getfield 7, 7, 0, 0, 0), (88, .bipush 108, 0, 0, 0, 0), (90, .iload_n 2, 0, 0, 0, 0), (91, .iadd, 0, 0, 0, 0), (92, .iaload, 0, 0, 0, 0),
  (93, .iload_n 1, 0, 0, 0, 0), (94, .if_icmp .eq 7, 0, 0, 0, 0), (97, .iconst 1, 0, 0, 0, 0), (98, .goto 4, 0, 0, 0, 0), (101, .iconst 0, 0, 0, 0, 0), (102, .istore 4, 0, 0, 0, 0),
  (104, .aload_n 0, 0, 0, 0, 0), (105, .getfield 7, 7, 0, 0, 0), (108, .bipush 60, 0, 0, 0, 0), (110, .iload_n 1, 0, 0, 0, 0), (111, .iadd, 0, 0, 0, 0), (112, .iload_n 3, 0, 0, 0, 0),
  (113, .ifCond .ne 8, 0, 0, 0, 0), (116, .iload 4, 0, 0, 0, 0), (118, .ifCond .eq 7, 0, 0, 0, 0), (121, .iconst (-1), 0, 0, 0, 0), (122, .goto 4, 0, 0, 0, 0), (125, .iload_n 2, 0, 0, 0, 0),
  (126, .iastore, 0, 0, 0, 0), (127, .iinc 1 1, 0, 0, 0, 0), (130, .goto (-128), 0, 0, 0, 0), (133, .iconst 0, 0, 0, 0, 0), (134, .istore_n 1, 0, 0, 0, 0), (135, .iload_n 1, 0, 0, 0, 0),
  (136, .aload_n 0, 0, 0, 0, 0), (137, .getfield 106, 7, 13, 0, 0), (140, .if_icmp .ge 93, 0, 0, 0, 0), (143, .aload_n 0, 0, 0, 0, 0), (144, .getfield 7, 7, 0, 0, 0), (147, .sipush 138, 0, 0, 0, 0),
  (150, .iaload, 0, 0, 0, 0), (151, .iconst 3, 0, 0, 0, 0), (152, .if_icmp .ne 81, 0, 0, 0, 0), (155, .aload_n 0, 0, 0, 0, 0), (156, .getfield 7, 7, 0, 0, 0), (159, .bipush 60, 0, 0, 0, 0),
  (161, .aload_n 0, 0, 0, 0, 0), (162, .getfield 7, 7, 0, 0, 0), (165, .bipush 108, 0, 0, 0, 0), (167, .iload_n 1, 0, 0, 0, 0), (168, .iadd, 0, 0, 0, 0), (169, .iaload, 0, 0, 0, 0),
  (170, .iadd, 0, 0, 0, 0), (171, .iaload, 0, 0, 0, 0), (172, .istore_n 2, 0, 0, 0, 0), (173, .aload_n 0, 0, 0, 0, 0), (174, .getfield 288, 7, 49, 0, 0), (177, .iload_n 1, 0, 0, 0, 0),
  (178, .ishr, 0, 0, 0, 0), (179, .iconst 1, 0, 0, 0, 0), (180, .iand, 0, 0, 0, 0), (181, .iconst 1, 0, 0, 0, 0), (182, .if_icmp .ne 45, 0, 0, 0, 0), (185, .iload_n 2, 0, 0, 0, 0),
  (186, .iconst (-1), 0, 0, 0, 0), (187, .if_icmp .eq 40, 0, 0, 0, 0), (190, .iload_n 2, 0, 0, 0, 0), (191, .iload_n 1, 0, 0, 0, 0), (192, .if_icmp .eq 35, 0, 0, 0, 0), (195, .aload_n 0, 0, 0, 0, 0),
  (196, .getfield 7, 7, 0, 0, 0), (199, .sipush 132, 0, 0, 0, 0), (202, .iload_n 1, 0, 0, 0, 0), (203, .iadd, 0, 0, 0, 0), (204, .dup2, 0, 0, 0, 0), (205, .iaload, 0, 0, 0, 0),
  (206, .iconst 1, 0, 0, 0, 0), (207, .iload_n 2, 0, 0, 0, 0), (208, .ishl, 0, 0, 0, 0), (209, .ior, 0, 0, 0, 0), (210, .iastore, 0, 0, 0, 0), (211, .aload_n 0, 0, 0, 0, 0),
  (212, .getfield 7, 7, 0, 0, 0), (215, .sipush 132, 0, 0, 0, 0), (218, .iload_n 2, 0, 0, 0, 0), (219, .iadd, 0, 0, 0, 0), (220, .dup2, 0, 0, 0, 0), (221, .iaload, 0, 0, 0, 0),
  (222, .iconst 1, 0, 0, 0, 0), (223, .iload_n 1, 0, 0, 0, 0), (224, .ishl, 0, 0, 0, 0), (225, .ior, 0, 0, 0, 0), (226, .iastore, 0, 0, 0, 0), (227, .iinc 1 1, 0, 0, 0, 0),
  (230, .goto (-95), 0, 0, 0, 0), (233, .return_, 0, 0, 0, 0)]
def tMo_goLaw : xTb := ((⟨"FirstFeltModel", "goLaw", "()V"⟩, prog_9_method_53_code, 5, none), (0, 0), "FirstFeltModel", false, iMo_goLaw)
def iMo_arePartners : List (Nat × xE) := [(0, .aload_n 0, 0, 0, 0, 0), (1, .getfield 7, 7, 0, 0, 0), (4, .sipush 132, 0, 0, 0, 0), (7, .iload_n 1, 0, 0, 0, 0), (8, .iadd, 0, 0, 0, 0), (9, .iaload, 0, 0, 0, 0),
  (10, .iload_n 2, 0, 0, 0, 0), (11, .ishr, 0, 0, 0, 0), (12, .iconst 1, 0, 0, 0, 0), (13, .iand, 0, 0, 0, 0), (14, .iconst 1, 0, 0, 0, 0), (15, .if_icmp .ne 7, 0, 0, 0, 0),
  (18, .iconst 1, 0, 0, 0, 0), (19, .goto 4, 0, 0, 0, 0), (22, .iconst 0, 0, 0, 0, 0), (23, .ireturn, 0, 0, 0, 0)]
def tMo_arePartners : xTb := ((⟨"FirstFeltModel", "arePartners", "(II)Z"⟩, prog_9_method_54_code, 3, (some .boolean)), (0, 0), "FirstFeltModel", true, iMo_arePartners)
def iMo_isOwedFor : List (Nat × xE) := [(0, .aload_n 0, 0, 0, 0, 0), (1, .getfield 7, 7, 0, 0, 0), (4, .bipush 60, 0, 0, 0, 0), (6, .iload_n 2, 0, 0, 0, 0), (7, .iadd, 0, 0, 0, 0), (8, .iaload, 0, 0, 0, 0),
  (9, .istore_n 3, 0, 0, 0, 0), (10, .iload_n 3, 0, 0, 0, 0), (11, .iconst (-1), 0, 0, 0, 0), (12, .if_icmp .eq 34, 0, 0, 0, 0), (15, .iload_n 3, 0, 0, 0, 0), (16, .iload_n 1, 0, 0, 0, 0),
  (17, .if_icmp .eq 29, 0, 0, 0, 0), (20, .aload_n 0, 0, 0, 0, 0), (21, .iload_n 1, 0, 0, 0, 0), (22, .iload_n 3, 0, 0, 0, 0), (23, .invokevirtual 294, 169, 3, 7, 1), (26, .ifCond .ne 20, 0, 0, 0, 0),
  (29, .aload_n 0, 0, 0, 0, 0), (30, .getfield 7, 7, 0, 0, 0), (33, .iconst 0, 0, 0, 0, 0), (34, .iload_n 2, 0, 0, 0, 0), (35, .iadd, 0, 0, 0, 0), (36, .iaload, 0, 0, 0, 0),
  (37, .bipush 50, 0, 0, 0, 0), (39, .if_icmp .lt 7, 0, 0, 0, 0), (42, .iconst 1, 0, 0, 0, 0), (43, .goto 4, 0, 0, 0, 0), (46, .iconst 0, 0, 0, 0, 0), (47, .ireturn, 0, 0, 0, 0)]
def tMo_isOwedFor : xTb := ((⟨"FirstFeltModel", "isOwedFor", "(II)Z"⟩, prog_9_method_55_code, 4, (some .boolean)), (0, 0), "FirstFeltModel", true, iMo_isOwedFor)
def iMo_owe : List (Nat × xE) := [(0, .iconst 0, 0, 0, 0, 0), (1, .istore_n 1, 0, 0, 0, 0), (2, .iload_n 1, 0, 0, 0, 0), (3, .aload_n 0, 0, 0, 0, 0), (4, .getfield 106, 7, 13, 0, 0), (7, .if_icmp .ge 102, 0, 0, 0, 0),
  (10, .aload_n 0, 0, 0, 0, 0), (11, .getfield 7, 7, 0, 0, 0), (14, .bipush 108, 0, 0, 0, 0), (16, .iload_n 1, 0, 0, 0, 0), (17, .iadd, 0, 0, 0, 0), (18, .iaload, 0, 0, 0, 0),
  (19, .istore_n 2, 0, 0, 0, 0), (20, .aload_n 0, 0, 0, 0, 0), (21, .iload_n 1, 0, 0, 0, 0), (22, .iload_n 2, 0, 0, 0, 0), (23, .invokevirtual 297, 170, 3, 7, 1), (26, .ifCond .eq 77, 0, 0, 0, 0),
  (29, .aload_n 0, 0, 0, 0, 0), (30, .getfield 7, 7, 0, 0, 0), (33, .bipush 60, 0, 0, 0, 0), (35, .iload_n 2, 0, 0, 0, 0), (36, .iadd, 0, 0, 0, 0), (37, .iaload, 0, 0, 0, 0),
  (38, .istore_n 3, 0, 0, 0, 0), (39, .aload_n 0, 0, 0, 0, 0), (40, .getfield 7, 7, 0, 0, 0), (43, .bipush 120, 0, 0, 0, 0), (45, .iload_n 1, 0, 0, 0, 0), (46, .iadd, 0, 0, 0, 0),
  (47, .dup2, 0, 0, 0, 0), (48, .iaload, 0, 0, 0, 0), (49, .aload_n 0, 0, 0, 0, 0), (50, .getfield 7, 7, 0, 0, 0), (53, .bipush 120, 0, 0, 0, 0), (55, .iload_n 1, 0, 0, 0, 0),
  (56, .iadd, 0, 0, 0, 0), (57, .iaload, 0, 0, 0, 0), (58, .ldc_w 300, 0, 0, 0, 999999), (61, .if_icmp .ge 7, 0, 0, 0, 0), (64, .iconst 1, 0, 0, 0, 0), (65, .goto 4, 0, 0, 0, 0),
  (68, .iconst 0, 0, 0, 0, 0), (69, .iadd, 0, 0, 0, 0), (70, .iastore, 0, 0, 0, 0), (71, .aload_n 0, 0, 0, 0, 0), (72, .getfield 7, 7, 0, 0, 0), (75, .bipush 126, 0, 0, 0, 0),
  (77, .iload_n 3, 0, 0, 0, 0), (78, .iadd, 0, 0, 0, 0), (79, .dup2, 0, 0, 0, 0), (80, .iaload, 0, 0, 0, 0), (81, .aload_n 0, 0, 0, 0, 0), (82, .getfield 7, 7, 0, 0, 0),
  (85, .bipush 126, 0, 0, 0, 0), (87, .iload_n 3, 0, 0, 0, 0), (88, .iadd, 0, 0, 0, 0), (89, .iaload, 0, 0, 0, 0), (90, .ldc_w 300, 0, 0, 0, 999999), (93, .if_icmp .ge 7, 0, 0, 0, 0),
  (96, .iconst 1, 0, 0, 0, 0), (97, .goto 4, 0, 0, 0, 0), (100, .iconst 0, 0, 0, 0, 0), (101, .iadd, 0, 0, 0, 0), (102, .iastore, 0, 0, 0, 0), (103, .iinc 1 1, 0, 0, 0, 0),
  (106, .goto (-104), 0, 0, 0, 0), (109, .return_, 0, 0, 0, 0)]
def tMo_owe : xTb := ((⟨"FirstFeltModel", "owe", "()V"⟩, prog_9_method_56_code, 4, none), (0, 0), "FirstFeltModel", false, iMo_owe)
def iMo_goMinute : List (Nat × xE) := [(0, .aload_n 0, 0, 0, 0, 0), (1, .invokevirtual 301, 164, 1, 7, 0), (4, .aload_n 0, 0, 0, 0, 0), (5, .invokevirtual 304, 165, 1, 7, 0), (8, .aload_n 0, 0, 0, 0, 0), (9, .invokevirtual 307, 167, 1, 7, 0),
  (12, .aload_n 0, 0, 0, 0, 0), (13, .invokevirtual 310, 168, 1, 7, 0), (16, .aload_n 0, 0, 0, 0, 0), (17, .invokevirtual 313, 171, 1, 7, 0), (20, .iconst 0, 0, 0, 0, 0), (21, .istore_n 1, 0, 0, 0, 0),
  (22, .iload_n 1, 0, 0, 0, 0), (23, .aload_n 0, 0, 0, 0, 0), (24, .getfield 106, 7, 13, 0, 0), (27, .if_icmp .ge 81, 0, 0, 0, 0), (30, .aload_n 0, 0, 0, 0, 0), (31, .getfield 7, 7, 0, 0, 0),
  (34, .bipush 114, 0, 0, 0, 0), (36, .iload_n 1, 0, 0, 0, 0), (37, .iadd, 0, 0, 0, 0), (38, .dup2, 0, 0, 0, 0), (39, .iaload, 0, 0, 0, 0), (40, .aload_n 0, 0, 0, 0, 0),
  (41, .getfield 7, 7, 0, 0, 0), (44, .iconst 0, 0, 0, 0, 0), (45, .aload_n 0, 0, 0, 0, 0), (46, .getfield 7, 7, 0, 0, 0), (49, .bipush 108, 0, 0, 0, 0), (51, .iload_n 1, 0, 0, 0, 0),
  (52, .iadd, 0, 0, 0, 0), (53, .iaload, 0, 0, 0, 0), (54, .iadd, 0, 0, 0, 0), (55, .iaload, 0, 0, 0, 0), (56, .aload_n 0, 0, 0, 0, 0), (57, .getfield 7, 7, 0, 0, 0),
  (60, .bipush 114, 0, 0, 0, 0), (62, .iload_n 1, 0, 0, 0, 0), (63, .iadd, 0, 0, 0, 0), (64, .iaload, 0, 0, 0, 0), (65, .isub, 0, 0, 0, 0), (66, .iconst 4, 0, 0, 0, 0),
  (67, .idiv, 0, 0, 0, 0), (68, .iadd, 0, 0, 0, 0), (69, .iastore, 0, 0, 0, 0), (70, .aload_n 0, 0, 0, 0, 0), (71, .getfield 7, 7, 0, 0, 0), (74, .sipush 142, 0, 0, 0, 0),
  (77, .dup2, 0, 0, 0, 0), (78, .iaload, 0, 0, 0, 0), (79, .aload_n 0, 0, 0, 0, 0), (80, .getfield 7, 7, 0, 0, 0), (83, .bipush 114, 0, 0, 0, 0), (85, .iload_n 1, 0, 0, 0, 0),
  (86, .iadd, 0, 0, 0, 0), (87, .iaload, 0, 0, 0, 0), (88, .bipush 20, 0, 0, 0, 0), (90, .if_icmp .ge 9, 0, 0, 0, 0), (93, .iconst 1, 0, 0, 0, 0), (94, .iload_n 1, 0, 0, 0, 0),
  (95, .ishl, 0, 0, 0, 0), (96, .goto 4, 0, 0, 0, 0), (99, .iconst 0, 0, 0, 0, 0), (100, .ior, 0, 0, 0, 0), (101, .iastore, 0, 0, 0, 0), (102, .iinc 1 1, 0, 0, 0, 0),
  (105, .goto (-83), 0, 0, 0, 0), (108, .aload_n 0, 0, 0, 0, 0), (109, .getfield 7, 7, 0, 0, 0), (112, .sipush 140, 0, 0, 0, 0), (115, .dup2, 0, 0, 0, 0), (116, .iaload, 0, 0, 0, 0),
  (117, .iconst 1, 0, 0, 0, 0), (118, .iadd, 0, 0, 0, 0), (119, .iastore, 0, 0, 0, 0), (120, .return_, 0, 0, 0, 0)]
def tMo_goMinute : xTb := ((⟨"FirstFeltModel", "goMinute", "()V"⟩, prog_9_method_57_code, 2, none), (0, 0), "FirstFeltModel", false, iMo_goMinute)
def iMo_goMinutes : List (Nat × xE) := [(0, .iconst 0, 0, 0, 0, 0), (1, .istore_n 2, 0, 0, 0, 0), (2, .iload_n 2, 0, 0, 0, 0), (3, .iload_n 1, 0, 0, 0, 0), (4, .if_icmp .ge 13, 0, 0, 0, 0), (7, .aload_n 0, 0, 0, 0, 0),
  (8, .invokevirtual 316, 172, 1, 7, 0), (11, .iinc 2 1, 0, 0, 0, 0), (14, .goto (-12), 0, 0, 0, 0), (17, .return_, 0, 0, 0, 0)]
def tMo_goMinutes : xTb := ((⟨"FirstFeltModel", "goMinutes", "(I)V"⟩, prog_9_method_58_code, 3, none), (0, 0), "FirstFeltModel", false, iMo_goMinutes)
def iMo_notMinutes : List (Nat × xE) := [(0, .iload_n 1, 0, 0, 0, 0), (1, .i2l, 0, 0, 0, 0), (2, .lconst 1, 0, 0, 0, 0), (3, .ldc2_w 319, 0, 0, 0, 60), (6, .invokestatic 102, 118, 3, 7, 1), (9, .ifCond .ne 8, 0, 0, 0, 0),
  (12, .ldc 118, 0, 0, 0, -1000000002), (14, .goto 36, 0, 0, 0, 0), (17, .aload_n 0, 0, 0, 0, 0), (18, .invokevirtual 226, 120, 1, 7, 1), (21, .ifCond .ne 9, 0, 0, 0, 0), (24, .ldc_w 275, 0, 0, 0, -1000000003),
  (27, .goto 23, 0, 0, 0, 0), (30, .aload_n 0, 0, 0, 0, 0), (31, .getfield 7, 7, 0, 0, 0), (34, .sipush 140, 0, 0, 0, 0), (37, .iaload, 0, 0, 0, 0), (38, .ldc_w 321, 0, 0, 0, 900000),
  (41, .if_icmp .le 8, 0, 0, 0, 0), (44, .ldc 122, 0, 0, 0, -1000000004), (46, .goto 4, 0, 0, 0, 0), (49, .iconst 0, 0, 0, 0, 0), (50, .ireturn, 0, 0, 0, 0)]
def tMo_notMinutes : xTb := ((⟨"FirstFeltModel", "notMinutes", "(I)I"⟩, prog_9_method_59_code, 2, (some .int)), (0, 0), "FirstFeltModel", false, iMo_notMinutes)
def iMo_minute : List (Nat × xE) := [(0, .aload_n 0, 0, 0, 0, 0), (1, .iload_n 1, 0, 0, 0, 0), (2, .invokevirtual 322, 174, 2, 7, 1), (5, .istore_n 2, 0, 0, 0, 0), (6, .iload_n 2, 0, 0, 0, 0), (7, .ifCond .eq 5, 0, 0, 0, 0),
  (10, .iload_n 2, 0, 0, 0, 0), (11, .ireturn, 0, 0, 0, 0), (12, .aload_n 0, 0, 0, 0, 0), (13, .iload_n 1, 0, 0, 0, 0), (14, .invokevirtual 325, 173, 2, 7, 0), (17, .aload_n 0, 0, 0, 0, 0),
  (18, .getfield 7, 7, 0, 0, 0), (21, .sipush 140, 0, 0, 0, 0), (24, .iaload, 0, 0, 0, 0), (25, .ireturn, 0, 0, 0, 0)]
def tMo_minute : xTb := ((⟨"FirstFeltModel", "minute", "(I)I"⟩, prog_9_method_60_code, 3, (some .int)), (0, 0), "FirstFeltModel", false, iMo_minute)
def iMo_draw : List (Nat × xE) := [(0, .aload_n 0, 0, 0, 0, 0), (1, .getfield 7, 7, 0, 0, 0), (4, .sipush 141, 0, 0, 0, 0), (7, .aload_n 0, 0, 0, 0, 0), (8, .getfield 7, 7, 0, 0, 0), (11, .sipush 141, 0, 0, 0, 0),
  (14, .iaload, 0, 0, 0, 0), (15, .i2l, 0, 0, 0, 0), (16, .ldc2_w 328, 0, 0, 0, 1103515245), (19, .lmul, 0, 0, 0, 0), (20, .ldc2_w 330, 0, 0, 0, 12345), (23, .ladd, 0, 0, 0, 0),
  (24, .ldc2_w 332, 0, 0, 0, 2147483648), (27, .lrem, 0, 0, 0, 0), (28, .l2i, 0, 0, 0, 0), (29, .iastore, 0, 0, 0, 0), (30, .aload_n 0, 0, 0, 0, 0), (31, .getfield 7, 7, 0, 0, 0),
  (34, .sipush 141, 0, 0, 0, 0), (37, .iaload, 0, 0, 0, 0), (38, .ldc_w 334, 0, 0, 0, 65536), (41, .idiv, 0, 0, 0, 0), (42, .iload_n 1, 0, 0, 0, 0), (43, .irem, 0, 0, 0, 0),
  (44, .ireturn, 0, 0, 0, 0)]
def tMo_draw : xTb := ((⟨"FirstFeltModel", "draw", "(I)I"⟩, prog_9_method_61_code, 2, (some .int)), (0, 0), "FirstFeltModel", false, iMo_draw)
def iMo_driftOne : List (Nat × xE) := [(0, .iconst 0, 0, 0, 0, 0), (1, .istore_n 1, 0, 0, 0, 0), (2, .iload_n 1, 0, 0, 0, 0), (3, .aload_n 0, 0, 0, 0, 0), (4, .getfield 106, 7, 13, 0, 0), (7, .if_icmp .ge 55, 0, 0, 0, 0),
  (10, .aload_n 0, 0, 0, 0, 0), (11, .aload_n 0, 0, 0, 0, 0), (12, .getfield 7, 7, 0, 0, 0), (15, .bipush 108, 0, 0, 0, 0), (17, .iload_n 1, 0, 0, 0, 0), (18, .iadd, 0, 0, 0, 0),
  (19, .iaload, 0, 0, 0, 0), (20, .aload_n 0, 0, 0, 0, 0), (21, .iconst 5, 0, 0, 0, 0), (22, .invokevirtual 335, 176, 2, 7, 1), (25, .invokevirtual 271, 155, 3, 7, 1), (28, .istore_n 2, 0, 0, 0, 0),
  (29, .aload_n 0, 0, 0, 0, 0), (30, .getfield 7, 7, 0, 0, 0), (33, .bipush 108, 0, 0, 0, 0), (35, .iload_n 1, 0, 0, 0, 0), (36, .iadd, 0, 0, 0, 0), (37, .iload_n 2, 0, 0, 0, 0),
  (38, .iconst (-1), 0, 0, 0, 0), (39, .if_icmp .ne 15, 0, 0, 0, 0), (42, .aload_n 0, 0, 0, 0, 0), (43, .getfield 7, 7, 0, 0, 0), (46, .bipush 108, 0, 0, 0, 0), (48, .iload_n 1, 0, 0, 0, 0),
  (49, .iadd, 0, 0, 0, 0), (50, .iaload, 0, 0, 0, 0), (51, .goto 4, 0, 0, 0, 0), (54, .iload_n 2, 0, 0, 0, 0), (55, .iastore, 0, 0, 0, 0), (56, .iinc 1 1, 0, 0, 0, 0),
  (59, .goto (-57), 0, 0, 0, 0), (62, .aload_n 0, 0, 0, 0, 0), (63, .bipush 20, 0, 0, 0, 0), (65, .invokevirtual 335, 176, 2, 7, 1), (68, .ifCond .ne 49, 0, 0, 0, 0), (71, .aload_n 0, 0, 0, 0, 0),
  (72, .getfield 109, 7, 8, 0, 0), (75, .ifCond .le 42, 0, 0, 0, 0), (78, .aload_n 0, 0, 0, 0, 0), (79, .aload_n 0, 0, 0, 0, 0), (80, .getfield 109, 7, 8, 0, 0), (83, .invokevirtual 335, 176, 2, 7, 1),
  (86, .istore_n 1, 0, 0, 0, 0), (87, .aload_n 0, 0, 0, 0, 0), (88, .getfield 7, 7, 0, 0, 0), (91, .bipush 104, 0, 0, 0, 0), (93, .iload_n 1, 0, 0, 0, 0), (94, .iadd, 0, 0, 0, 0),
  (95, .aload_n 0, 0, 0, 0, 0), (96, .iload_n 1, 0, 0, 0, 0), (97, .invokevirtual 276, 158, 2, 7, 1), (100, .ifCond .eq 7, 0, 0, 0, 0), (103, .iconst 1, 0, 0, 0, 0), (104, .goto 12, 0, 0, 0, 0),
  (107, .aload_n 0, 0, 0, 0, 0), (108, .getfield 7, 7, 0, 0, 0), (111, .bipush 104, 0, 0, 0, 0), (113, .iload_n 1, 0, 0, 0, 0), (114, .iadd, 0, 0, 0, 0), (115, .iaload, 0, 0, 0, 0),
  (116, .iastore, 0, 0, 0, 0), (117, .aload_n 0, 0, 0, 0, 0), (118, .invokevirtual 316, 172, 1, 7, 0), (121, .return_, 0, 0, 0, 0)]
def tMo_driftOne : xTb := ((⟨"FirstFeltModel", "driftOne", "()V"⟩, prog_9_method_62_code, 3, none), (0, 0), "FirstFeltModel", false, iMo_driftOne)
def iMo_drift : List (Nat × xE) := [(0, .aload_n 0, 0, 0, 0, 0), (1, .iload_n 1, 0, 0, 0, 0), (2, .invokevirtual 322, 174, 2, 7, 1), (5, .istore_n 2, 0, 0, 0, 0), (6, .iload_n 2, 0, 0, 0, 0), (7, .ifCond .eq 5, 0, 0, 0, 0),
  (10, .iload_n 2, 0, 0, 0, 0), (11, .ireturn, 0, 0, 0, 0), (12, .iconst 0, 0, 0, 0, 0), (13, .istore_n 3, 0, 0, 0, 0), (14, .iload_n 3, 0, 0, 0, 0), (15, .iload_n 1, 0, 0, 0, 0),
  (16, .if_icmp .ge 13, 0, 0, 0, 0), (19, .aload_n 0, 0, 0, 0, 0), (20, .invokevirtual 338, 177, 1, 7, 0), (23, .iinc 3 1, 0, 0, 0, 0), (26, .goto (-12), 0, 0, 0, 0), (29, .aload_n 0, 0, 0, 0, 0),
  (30, .getfield 7, 7, 0, 0, 0), (33, .sipush 140, 0, 0, 0, 0), (36, .iaload, 0, 0, 0, 0), (37, .ireturn, 0, 0, 0, 0)]
def tMo_drift : xTb := ((⟨"FirstFeltModel", "drift", "(I)I"⟩, prog_9_method_63_code, 4, (some .int)), (0, 0), "FirstFeltModel", false, iMo_drift)
def iMo_start : List (Nat × xE) := [(0, .iconst 0, 0, 0, 0, 0), (1, .istore_n 1, 0, 0, 0, 0), (2, .iload_n 1, 0, 0, 0, 0), (3, .sipush 143, 0, 0, 0, 0), (6, .if_icmp .ge 21, 0, 0, 0, 0), (9, .aload_n 0, 0, 0, 0, 0),
  (10, .getfield 20, 7, 3, 0, 0), (13, .iload_n 1, 0, 0, 0, 0), (14, .aload_n 0, 0, 0, 0, 0), (15, .getfield 7, 7, 0, 0, 0), (18, .iload_n 1, 0, 0, 0, 0), (19, .iaload, 0, 0, 0, 0),
  (20, .iastore, 0, 0, 0, 0), (21, .iinc 1 1, 0, 0, 0, 0), (24, .goto (-22), 0, 0, 0, 0), (27, .return_, 0, 0, 0, 0)]
def tMo_start : xTb := ((⟨"FirstFeltModel", "start", "()V"⟩, prog_9_method_64_code, 2, none), (0, 0), "FirstFeltModel", false, iMo_start)
def iMo_back : List (Nat × xE) := [(0, .iconst 0, 0, 0, 0, 0), (1, .istore_n 1, 0, 0, 0, 0), (2, .iload_n 1, 0, 0, 0, 0), (3, .sipush 143, 0, 0, 0, 0), (6, .if_icmp .ge 21, 0, 0, 0, 0), (9, .aload_n 0, 0, 0, 0, 0),
  (10, .getfield 7, 7, 0, 0, 0), (13, .iload_n 1, 0, 0, 0, 0), (14, .aload_n 0, 0, 0, 0, 0), (15, .getfield 20, 7, 3, 0, 0), (18, .iload_n 1, 0, 0, 0, 0), (19, .iaload, 0, 0, 0, 0),
  (20, .iastore, 0, 0, 0, 0), (21, .iinc 1 1, 0, 0, 0, 0), (24, .goto (-22), 0, 0, 0, 0), (27, .return_, 0, 0, 0, 0)]
def tMo_back : xTb := ((⟨"FirstFeltModel", "back", "()V"⟩, prog_9_method_65_code, 2, none), (0, 0), "FirstFeltModel", false, iMo_back)
def iMo_then : List (Nat × xE) := [(0, .aload_n 0, 0, 0, 0, 0), (1, .iload_n 1, 0, 0, 0, 0), (2, .iload_n 2, 0, 0, 0, 0), (3, .invokevirtual 112, 121, 3, 7, 1), (6, .ifCond .ne 6, 0, 0, 0, 0), (9, .ldc 249, 0, 0, 0, -1000000001),
  (11, .ireturn, 0, 0, 0, 0), (12, .iload_n 3, 0, 0, 0, 0), (13, .i2l, 0, 0, 0, 0), (14, .lconst 1, 0, 0, 0, 0), (15, .ldc2_w 319, 0, 0, 0, 60), (18, .invokestatic 102, 118, 3, 7, 1),
  (21, .ifCond .eq 14, 0, 0, 0, 0), (24, .iload 4, 0, 0, 0, 0), (26, .i2l, 0, 0, 0, 0), (27, .lconst 0, 0, 0, 0, 0), (28, .lconst 1, 0, 0, 0, 0), (29, .invokestatic 102, 118, 3, 7, 1),
  (32, .ifCond .ne 6, 0, 0, 0, 0), (35, .ldc 118, 0, 0, 0, -1000000002), (37, .ireturn, 0, 0, 0, 0), (38, .aload_n 0, 0, 0, 0, 0), (39, .invokevirtual 341, 179, 1, 7, 0), (42, .aload_n 0, 0, 0, 0, 0),
  (43, .iload_n 3, 0, 0, 0, 0), (44, .invokevirtual 325, 173, 2, 7, 0), (47, .aload_n 0, 0, 0, 0, 0), (48, .getfield 7, 7, 0, 0, 0), (51, .iload 4, 0, 0, 0, 0), (53, .ifCond .ne 7, 0, 0, 0, 0),
  (56, .iconst 0, 0, 0, 0, 0), (57, .goto 5, 0, 0, 0, 0), (60, .bipush 60, 0, 0, 0, 0), (62, .aload_n 0, 0, 0, 0, 0), (63, .getfield 96, 7, 4, 0, 0), (66, .iload_n 2, 0, 0, 0, 0),
  (67, .imul, 0, 0, 0, 0), (68, .iadd, 0, 0, 0, 0), (69, .iload_n 1, 0, 0, 0, 0), (70, .iadd, 0, 0, 0, 0), (71, .iaload, 0, 0, 0, 0), (72, .istore 5, 0, 0, 0, 0),
  (74, .aload_n 0, 0, 0, 0, 0), (75, .invokevirtual 344, 180, 1, 7, 0), (78, .iload 5, 0, 0, 0, 0), (80, .ireturn, 0, 0, 0, 0)]
def tMo_then : xTb := ((⟨"FirstFeltModel", "then", "(IIII)I"⟩, prog_9_method_66_code, 6, (some .int)), (0, 0), "FirstFeltModel", false, iMo_then)
def iMo_power : List (Nat × xE) := [(0, .iconst 1, 0, 0, 0, 0), (1, .istore_n 2, 0, 0, 0, 0), (2, .iconst 0, 0, 0, 0, 0), (3, .istore_n 3, 0, 0, 0, 0), (4, .iload_n 3, 0, 0, 0, 0), (5, .iload_n 1, 0, 0, 0, 0),
  (6, .if_icmp .ge 13, 0, 0, 0, 0), (9, .iload_n 2, 0, 0, 0, 0), (10, .iload_n 0, 0, 0, 0, 0), (11, .imul, 0, 0, 0, 0), (12, .istore_n 2, 0, 0, 0, 0), (13, .iinc 3 1, 0, 0, 0, 0),
  (16, .goto (-12), 0, 0, 0, 0), (19, .iload_n 2, 0, 0, 0, 0), (20, .ireturn, 0, 0, 0, 0)]
def tMo_power : xTb := ((⟨"FirstFeltModel", "power", "(II)I"⟩, prog_9_method_67_code, 4, (some .int)), (0, 0), "FirstFeltModel", false, iMo_power)
def iMo_ownsBy : List (Nat × xE) := [(0, .iconst 0, 0, 0, 0, 0), (1, .istore 4, 0, 0, 0, 0), (3, .iload 4, 0, 0, 0, 0), (5, .iload_n 2, 0, 0, 0, 0), (6, .if_icmp .ge 61, 0, 0, 0, 0), (9, .aload_n 0, 0, 0, 0, 0),
  (10, .aload_n 0, 0, 0, 0, 0), (11, .getfield 7, 7, 0, 0, 0), (14, .bipush 108, 0, 0, 0, 0), (16, .iload_n 1, 0, 0, 0, 0), (17, .iadd, 0, 0, 0, 0), (18, .iaload, 0, 0, 0, 0),
  (19, .iload_n 3, 0, 0, 0, 0), (20, .iconst 5, 0, 0, 0, 0), (21, .iload_n 2, 0, 0, 0, 0), (22, .iconst 1, 0, 0, 0, 0), (23, .isub, 0, 0, 0, 0), (24, .iload 4, 0, 0, 0, 0),
  (26, .isub, 0, 0, 0, 0), (27, .invokestatic 347, 182, 2, 7, 1), (30, .idiv, 0, 0, 0, 0), (31, .iconst 5, 0, 0, 0, 0), (32, .irem, 0, 0, 0, 0), (33, .invokevirtual 271, 155, 3, 7, 1),
  (36, .istore 5, 0, 0, 0, 0), (38, .iload 5, 0, 0, 0, 0), (40, .iconst (-1), 0, 0, 0, 0), (41, .if_icmp .ne 5, 0, 0, 0, 0), (44, .iconst (-1), 0, 0, 0, 0), (45, .ireturn, 0, 0, 0, 0),
  (46, .aload_n 0, 0, 0, 0, 0), (47, .getfield 7, 7, 0, 0, 0), (50, .bipush 108, 0, 0, 0, 0), (52, .iload_n 1, 0, 0, 0, 0), (53, .iadd, 0, 0, 0, 0), (54, .iload 5, 0, 0, 0, 0),
  (56, .iastore, 0, 0, 0, 0), (57, .aload_n 0, 0, 0, 0, 0), (58, .invokevirtual 316, 172, 1, 7, 0), (61, .iinc 4 1, 0, 0, 0, 0), (64, .goto (-61), 0, 0, 0, 0), (67, .aload_n 0, 0, 0, 0, 0),
  (68, .iload_n 1, 0, 0, 0, 0), (69, .invokevirtual 266, 153, 2, 7, 1), (72, .ireturn, 0, 0, 0, 0)]
def tMo_ownsBy : xTb := ((⟨"FirstFeltModel", "ownsBy", "(III)I"⟩, prog_9_method_68_code, 6, (some .int)), (0, 0), "FirstFeltModel", false, iMo_ownsBy)
def iMo_stands : List (Nat × xE) := [(0, .aload_n 0, 0, 0, 0, 0), (1, .iload_n 1, 0, 0, 0, 0), (2, .invokevirtual 263, 122, 2, 7, 1), (5, .ifCond .ne 6, 0, 0, 0, 0), (8, .ldc 249, 0, 0, 0, -1000000001), (10, .ireturn, 0, 0, 0, 0),
  (11, .iload_n 2, 0, 0, 0, 0), (12, .i2l, 0, 0, 0, 0), (13, .lconst 1, 0, 0, 0, 0), (14, .ldc2_w 350, 0, 0, 0, 5), (17, .invokestatic 102, 118, 3, 7, 1), (20, .ifCond .ne 6, 0, 0, 0, 0),
  (23, .ldc 118, 0, 0, 0, -1000000002), (25, .ireturn, 0, 0, 0, 0), (26, .iconst 0, 0, 0, 0, 0), (27, .istore 4, 0, 0, 0, 0), (29, .iconst (-1), 0, 0, 0, 0), (30, .istore 5, 0, 0, 0, 0),
  (32, .aload_n 0, 0, 0, 0, 0), (33, .invokevirtual 341, 179, 1, 7, 0), (36, .iconst 0, 0, 0, 0, 0), (37, .istore 6, 0, 0, 0, 0), (39, .iload 6, 0, 0, 0, 0), (41, .iconst 5, 0, 0, 0, 0),
  (42, .iload_n 2, 0, 0, 0, 0), (43, .invokestatic 347, 182, 2, 7, 1), (46, .if_icmp .ge 55, 0, 0, 0, 0), (49, .aload_n 0, 0, 0, 0, 0), (50, .iload_n 1, 0, 0, 0, 0), (51, .iload_n 2, 0, 0, 0, 0),
  (52, .iload 6, 0, 0, 0, 0), (54, .invokevirtual 352, 183, 4, 7, 1), (57, .istore 7, 0, 0, 0, 0), (59, .aload_n 0, 0, 0, 0, 0), (60, .invokevirtual 344, 180, 1, 7, 0), (63, .iload 7, 0, 0, 0, 0),
  (65, .iload 5, 0, 0, 0, 0), (67, .if_icmp .le 8, 0, 0, 0, 0), (70, .iload 6, 0, 0, 0, 0), (72, .goto 5, 0, 0, 0, 0), (75, .iload 4, 0, 0, 0, 0), (77, .istore 4, 0, 0, 0, 0),
  (79, .iload 7, 0, 0, 0, 0), (81, .iload 5, 0, 0, 0, 0), (83, .if_icmp .le 8, 0, 0, 0, 0), (86, .iload 7, 0, 0, 0, 0), (88, .goto 5, 0, 0, 0, 0), (91, .iload 5, 0, 0, 0, 0),
  (93, .istore 5, 0, 0, 0, 0), (95, .iinc 6 1, 0, 0, 0, 0), (98, .goto (-59), 0, 0, 0, 0), (101, .iload_n 3, 0, 0, 0, 0), (102, .iconst (-1), 0, 0, 0, 0), (103, .if_icmp .ne 8, 0, 0, 0, 0),
  (106, .iload 5, 0, 0, 0, 0), (108, .goto 34, 0, 0, 0, 0), (111, .iload_n 3, 0, 0, 0, 0), (112, .i2l, 0, 0, 0, 0), (113, .lconst 0, 0, 0, 0, 0), (114, .iload_n 2, 0, 0, 0, 0),
  (115, .iconst 1, 0, 0, 0, 0), (116, .isub, 0, 0, 0, 0), (117, .i2l, 0, 0, 0, 0), (118, .invokestatic 102, 118, 3, 7, 1), (121, .ifCond .eq 20, 0, 0, 0, 0), (124, .iload 4, 0, 0, 0, 0),
  (126, .iconst 5, 0, 0, 0, 0), (127, .iload_n 2, 0, 0, 0, 0), (128, .iconst 1, 0, 0, 0, 0), (129, .isub, 0, 0, 0, 0), (130, .iload_n 3, 0, 0, 0, 0), (131, .isub, 0, 0, 0, 0),
  (132, .invokestatic 347, 182, 2, 7, 1), (135, .idiv, 0, 0, 0, 0), (136, .iconst 5, 0, 0, 0, 0), (137, .irem, 0, 0, 0, 0), (138, .goto 4, 0, 0, 0, 0), (141, .iconst (-1), 0, 0, 0, 0),
  (142, .ireturn, 0, 0, 0, 0)]
def tMo_stands : xTb := ((⟨"FirstFeltModel", "stands", "(III)I"⟩, prog_9_method_69_code, 8, (some .int)), (0, 0), "FirstFeltModel", false, iMo_stands)
def iMo_notStove : List (Nat × xE) := [(0, .aload_n 0, 0, 0, 0, 0), (1, .iload_n 1, 0, 0, 0, 0), (2, .invokevirtual 263, 122, 2, 7, 1), (5, .ifCond .eq 11, 0, 0, 0, 0), (8, .aload_n 0, 0, 0, 0, 0), (9, .iload_n 2, 0, 0, 0, 0),
  (10, .invokevirtual 257, 123, 2, 7, 1), (13, .ifCond .ne 8, 0, 0, 0, 0), (16, .ldc 249, 0, 0, 0, -1000000001), (18, .goto 35, 0, 0, 0, 0), (21, .iload_n 3, 0, 0, 0, 0), (22, .i2l, 0, 0, 0, 0),
  (23, .lconst 1, 0, 0, 0, 0), (24, .ldc2_w 355, 0, 0, 0, 30), (27, .invokestatic 102, 118, 3, 7, 1), (30, .ifCond .ne 8, 0, 0, 0, 0), (33, .ldc 118, 0, 0, 0, -1000000002), (35, .goto 18, 0, 0, 0, 0),
  (38, .aload_n 0, 0, 0, 0, 0), (39, .iload_n 2, 0, 0, 0, 0), (40, .invokevirtual 276, 158, 2, 7, 1), (43, .ifCond .ne 9, 0, 0, 0, 0), (46, .ldc_w 275, 0, 0, 0, -1000000003), (49, .goto 4, 0, 0, 0, 0),
  (52, .iconst 0, 0, 0, 0, 0), (53, .ireturn, 0, 0, 0, 0)]
def tMo_notStove : xTb := ((⟨"FirstFeltModel", "notStove", "(III)I"⟩, prog_9_method_70_code, 4, (some .int)), (0, 0), "FirstFeltModel", false, iMo_notStove)
def iMo_lightFor : List (Nat × xE) := [(0, .aload_n 0, 0, 0, 0, 0), (1, .iload_n 1, 0, 0, 0, 0), (2, .iload_n 2, 0, 0, 0, 0), (3, .iload_n 3, 0, 0, 0, 0), (4, .invokevirtual 357, 185, 4, 7, 1), (7, .istore 4, 0, 0, 0, 0),
  (9, .iload 4, 0, 0, 0, 0), (11, .ifCond .eq 6, 0, 0, 0, 0), (14, .iload 4, 0, 0, 0, 0), (16, .ireturn, 0, 0, 0, 0), (17, .aload_n 0, 0, 0, 0, 0), (18, .invokevirtual 341, 179, 1, 7, 0),
  (21, .iconst 0, 0, 0, 0, 0), (22, .istore 5, 0, 0, 0, 0), (24, .iload 5, 0, 0, 0, 0), (26, .iload_n 3, 0, 0, 0, 0), (27, .if_icmp .gt 70, 0, 0, 0, 0), (30, .aload_n 0, 0, 0, 0, 0),
  (31, .iload 5, 0, 0, 0, 0), (33, .invokevirtual 325, 173, 2, 7, 0), (36, .aload_n 0, 0, 0, 0, 0), (37, .getfield 7, 7, 0, 0, 0), (40, .bipush 104, 0, 0, 0, 0), (42, .iload_n 2, 0, 0, 0, 0),
  (43, .iadd, 0, 0, 0, 0), (44, .iconst 1, 0, 0, 0, 0), (45, .iastore, 0, 0, 0, 0), (46, .aload_n 0, 0, 0, 0, 0), (47, .iload_n 3, 0, 0, 0, 0), (48, .iload 5, 0, 0, 0, 0),
  (50, .isub, 0, 0, 0, 0), (51, .invokevirtual 325, 173, 2, 7, 0), (54, .aload_n 0, 0, 0, 0, 0), (55, .getfield 7, 7, 0, 0, 0), (58, .bipush 60, 0, 0, 0, 0), (60, .aload_n 0, 0, 0, 0, 0),
  (61, .getfield 26, 7, 9, 0, 0), (64, .iload_n 2, 0, 0, 0, 0), (65, .iaload, 0, 0, 0, 0), (66, .iadd, 0, 0, 0, 0), (67, .iaload, 0, 0, 0, 0), (68, .iload_n 1, 0, 0, 0, 0),
  (69, .if_icmp .ne 7, 0, 0, 0, 0), (72, .iconst 1, 0, 0, 0, 0), (73, .goto 4, 0, 0, 0, 0), (76, .iconst 0, 0, 0, 0, 0), (77, .istore 6, 0, 0, 0, 0), (79, .aload_n 0, 0, 0, 0, 0),
  (80, .invokevirtual 344, 180, 1, 7, 0), (83, .iload 6, 0, 0, 0, 0), (85, .ifCond .eq 6, 0, 0, 0, 0), (88, .iload 5, 0, 0, 0, 0), (90, .ireturn, 0, 0, 0, 0), (91, .iinc 5 1, 0, 0, 0, 0),
  (94, .goto (-70), 0, 0, 0, 0), (97, .iconst (-1), 0, 0, 0, 0), (98, .ireturn, 0, 0, 0, 0)]
def tMo_lightFor : xTb := ((⟨"FirstFeltModel", "lightFor", "(III)I"⟩, prog_9_method_71_code, 7, (some .int)), (0, 0), "FirstFeltModel", false, iMo_lightFor)
def iMo_ownsWithout : List (Nat × xE) := [(0, .aload_n 0, 0, 0, 0, 0), (1, .iload 4, 0, 0, 0, 0), (3, .putfield 87, 7, 50, 0, 0), (6, .aload_n 0, 0, 0, 0, 0), (7, .getfield 7, 7, 0, 0, 0), (10, .bipush 104, 0, 0, 0, 0),
  (12, .iload_n 2, 0, 0, 0, 0), (13, .iadd, 0, 0, 0, 0), (14, .iconst 1, 0, 0, 0, 0), (15, .iastore, 0, 0, 0, 0), (16, .aload_n 0, 0, 0, 0, 0), (17, .iload_n 3, 0, 0, 0, 0),
  (18, .invokevirtual 325, 173, 2, 7, 0), (21, .aload_n 0, 0, 0, 0, 0), (22, .getfield 7, 7, 0, 0, 0), (25, .bipush 60, 0, 0, 0, 0), (27, .aload_n 0, 0, 0, 0, 0), (28, .getfield 26, 7, 9, 0, 0),
  (31, .iload_n 2, 0, 0, 0, 0), (32, .iaload, 0, 0, 0, 0), (33, .iadd, 0, 0, 0, 0), (34, .iaload, 0, 0, 0, 0), (35, .iload_n 1, 0, 0, 0, 0), (36, .if_icmp .ne 7, 0, 0, 0, 0),
  (39, .iconst 1, 0, 0, 0, 0), (40, .goto 4, 0, 0, 0, 0), (43, .iconst 0, 0, 0, 0, 0), (44, .istore 5, 0, 0, 0, 0), (46, .aload_n 0, 0, 0, 0, 0), (47, .invokevirtual 344, 180, 1, 7, 0),
  (50, .aload_n 0, 0, 0, 0, 0), (51, .iconst (-1), 0, 0, 0, 0), (52, .putfield 87, 7, 50, 0, 0), (55, .iload 5, 0, 0, 0, 0), (57, .ireturn, 0, 0, 0, 0)]
def tMo_ownsWithout : xTb := ((⟨"FirstFeltModel", "ownsWithout", "(IIII)Z"⟩, prog_9_method_72_code, 6, (some .boolean)), (0, 0), "FirstFeltModel", true, iMo_ownsWithout)
def iMo_keptOut : List (Nat × xE) := [(0, .aload_n 0, 0, 0, 0, 0), (1, .iload_n 1, 0, 0, 0, 0), (2, .iload_n 2, 0, 0, 0, 0), (3, .iload_n 3, 0, 0, 0, 0), (4, .invokevirtual 357, 185, 4, 7, 1), (7, .istore 4, 0, 0, 0, 0),
  (9, .iload 4, 0, 0, 0, 0), (11, .ifCond .eq 6, 0, 0, 0, 0), (14, .iload 4, 0, 0, 0, 0), (16, .ireturn, 0, 0, 0, 0), (17, .aload_n 0, 0, 0, 0, 0), (18, .invokevirtual 341, 179, 1, 7, 0),
  (21, .aload_n 0, 0, 0, 0, 0), (22, .iload_n 1, 0, 0, 0, 0), (23, .iload_n 2, 0, 0, 0, 0), (24, .iload_n 3, 0, 0, 0, 0), (25, .iconst (-1), 0, 0, 0, 0), (26, .invokevirtual 360, 187, 5, 7, 1),
  (29, .ifCond .eq 5, 0, 0, 0, 0), (32, .iconst (-1), 0, 0, 0, 0), (33, .ireturn, 0, 0, 0, 0), (34, .iconst 0, 0, 0, 0, 0), (35, .istore 5, 0, 0, 0, 0), (37, .iload 5, 0, 0, 0, 0),
  (39, .aload_n 0, 0, 0, 0, 0), (40, .getfield 106, 7, 13, 0, 0), (43, .if_icmp .ge 30, 0, 0, 0, 0), (46, .iload 5, 0, 0, 0, 0), (48, .iload_n 1, 0, 0, 0, 0), (49, .if_icmp .eq 18, 0, 0, 0, 0),
  (52, .aload_n 0, 0, 0, 0, 0), (53, .iload_n 1, 0, 0, 0, 0), (54, .iload_n 2, 0, 0, 0, 0), (55, .iload_n 3, 0, 0, 0, 0), (56, .iload 5, 0, 0, 0, 0), (58, .invokevirtual 360, 187, 5, 7, 1),
  (61, .ifCond .eq 6, 0, 0, 0, 0), (64, .iload 5, 0, 0, 0, 0), (66, .ireturn, 0, 0, 0, 0), (67, .iinc 5 1, 0, 0, 0, 0), (70, .goto (-33), 0, 0, 0, 0), (73, .iconst (-1), 0, 0, 0, 0),
  (74, .ireturn, 0, 0, 0, 0)]
def tMo_keptOut : xTb := ((⟨"FirstFeltModel", "keptOut", "(III)I"⟩, prog_9_method_73_code, 6, (some .int)), (0, 0), "FirstFeltModel", false, iMo_keptOut)
def iMo_gain : List (Nat × xE) := [(0, .aload_n 0, 0, 0, 0, 0), (1, .iload_n 2, 0, 0, 0, 0), (2, .iload_n 3, 0, 0, 0, 0), (3, .iload 4, 0, 0, 0, 0), (5, .invokevirtual 253, 150, 4, 7, 1), (8, .istore 6, 0, 0, 0, 0),
  (10, .aload_n 0, 0, 0, 0, 0), (11, .iload_n 1, 0, 0, 0, 0), (12, .invokevirtual 263, 122, 2, 7, 1), (15, .ifCond .eq 10, 0, 0, 0, 0), (18, .iload 6, 0, 0, 0, 0), (20, .ldc 249, 0, 0, 0, -1000000001),
  (22, .if_icmp .ne 6, 0, 0, 0, 0), (25, .ldc 249, 0, 0, 0, -1000000001), (27, .ireturn, 0, 0, 0, 0), (28, .iload 6, 0, 0, 0, 0), (30, .ifCond .ne 16, 0, 0, 0, 0), (33, .iload 5, 0, 0, 0, 0),
  (35, .i2l, 0, 0, 0, 0), (36, .lconst 1, 0, 0, 0, 0), (37, .ldc2_w 319, 0, 0, 0, 60), (40, .invokestatic 102, 118, 3, 7, 1), (43, .ifCond .ne 6, 0, 0, 0, 0), (46, .ldc 118, 0, 0, 0, -1000000002),
  (48, .ireturn, 0, 0, 0, 0), (49, .bipush 20, 0, 0, 0, 0), (51, .bipush 20, 0, 0, 0, 0), (53, .iload 4, 0, 0, 0, 0), (55, .imul, 0, 0, 0, 0), (56, .iadd, 0, 0, 0, 0),
  (57, .aload_n 0, 0, 0, 0, 0), (58, .getfield 96, 7, 4, 0, 0), (61, .iload_n 3, 0, 0, 0, 0), (62, .imul, 0, 0, 0, 0), (63, .iadd, 0, 0, 0, 0), (64, .iload_n 2, 0, 0, 0, 0),
  (65, .iadd, 0, 0, 0, 0), (66, .istore 7, 0, 0, 0, 0), (68, .aload_n 0, 0, 0, 0, 0), (69, .invokevirtual 341, 179, 1, 7, 0), (72, .aload_n 0, 0, 0, 0, 0), (73, .getfield 7, 7, 0, 0, 0),
  (76, .iload 7, 0, 0, 0, 0), (78, .iconst 1, 0, 0, 0, 0), (79, .iastore, 0, 0, 0, 0), (80, .aload_n 0, 0, 0, 0, 0), (81, .iload 5, 0, 0, 0, 0), (83, .invokevirtual 325, 173, 2, 7, 0),
  (86, .aload_n 0, 0, 0, 0, 0), (87, .iload_n 1, 0, 0, 0, 0), (88, .invokevirtual 266, 153, 2, 7, 1), (91, .istore 8, 0, 0, 0, 0), (93, .aload_n 0, 0, 0, 0, 0), (94, .invokevirtual 344, 180, 1, 7, 0),
  (97, .aload_n 0, 0, 0, 0, 0), (98, .getfield 7, 7, 0, 0, 0), (101, .iload 7, 0, 0, 0, 0), (103, .iconst 0, 0, 0, 0, 0), (104, .iastore, 0, 0, 0, 0), (105, .aload_n 0, 0, 0, 0, 0),
  (106, .iload 5, 0, 0, 0, 0), (108, .invokevirtual 325, 173, 2, 7, 0), (111, .aload_n 0, 0, 0, 0, 0), (112, .iload_n 1, 0, 0, 0, 0), (113, .invokevirtual 266, 153, 2, 7, 1), (116, .istore 9, 0, 0, 0, 0),
  (118, .aload_n 0, 0, 0, 0, 0), (119, .invokevirtual 344, 180, 1, 7, 0), (122, .iload 8, 0, 0, 0, 0), (124, .iload 9, 0, 0, 0, 0), (126, .isub, 0, 0, 0, 0), (127, .ireturn, 0, 0, 0, 0)]
def tMo_gain : xTb := ((⟨"FirstFeltModel", "gain", "(IIIII)I"⟩, prog_9_method_74_code, 10, (some .int)), (0, 0), "FirstFeltModel", false, iMo_gain)
def iMo_isLet : List (Nat × xE) := [(0, .aload_n 0, 0, 0, 0, 0), (1, .getfield 7, 7, 0, 0, 0), (4, .bipush 60, 0, 0, 0, 0), (6, .iload_n 1, 0, 0, 0, 0), (7, .iadd, 0, 0, 0, 0), (8, .iaload, 0, 0, 0, 0),
  (9, .istore_n 2, 0, 0, 0, 0), (10, .iload_n 2, 0, 0, 0, 0), (11, .iconst (-1), 0, 0, 0, 0), (12, .if_icmp .eq 27, 0, 0, 0, 0), (15, .aload_n 0, 0, 0, 0, 0), (16, .getfield 90, 7, 51, 0, 0),
  (19, .iload_n 2, 0, 0, 0, 0), (20, .iaload, 0, 0, 0, 0), (21, .aload_n 0, 0, 0, 0, 0), (22, .getfield 7, 7, 0, 0, 0), (25, .iconst 0, 0, 0, 0, 0), (26, .iload_n 1, 0, 0, 0, 0),
  (27, .iadd, 0, 0, 0, 0), (28, .iaload, 0, 0, 0, 0), (29, .bipush 50, 0, 0, 0, 0), (31, .idiv, 0, 0, 0, 0), (32, .if_icmp .gt 7, 0, 0, 0, 0), (35, .iconst 1, 0, 0, 0, 0),
  (36, .goto 4, 0, 0, 0, 0), (39, .iconst 0, 0, 0, 0, 0), (40, .istore_n 3, 0, 0, 0, 0), (41, .iconst 1, 0, 0, 0, 0), (42, .istore 4, 0, 0, 0, 0), (44, .iload 4, 0, 0, 0, 0),
  (46, .iconst 4, 0, 0, 0, 0), (47, .if_icmp .gt 78, 0, 0, 0, 0), (50, .iload_n 3, 0, 0, 0, 0), (51, .ifCond .eq 74, 0, 0, 0, 0), (54, .aload_n 0, 0, 0, 0, 0), (55, .iload_n 1, 0, 0, 0, 0),
  (56, .iload 4, 0, 0, 0, 0), (58, .invokevirtual 271, 155, 3, 7, 1), (61, .istore 5, 0, 0, 0, 0), (63, .iload 5, 0, 0, 0, 0), (65, .iconst (-1), 0, 0, 0, 0), (66, .if_icmp .ne 7, 0, 0, 0, 0),
  (69, .iconst (-1), 0, 0, 0, 0), (70, .goto 13, 0, 0, 0, 0), (73, .aload_n 0, 0, 0, 0, 0), (74, .getfield 7, 7, 0, 0, 0), (77, .bipush 60, 0, 0, 0, 0), (79, .iload 5, 0, 0, 0, 0),
  (81, .iadd, 0, 0, 0, 0), (82, .iaload, 0, 0, 0, 0), (83, .istore 6, 0, 0, 0, 0), (85, .iload 6, 0, 0, 0, 0), (87, .iconst (-1), 0, 0, 0, 0), (88, .if_icmp .eq 25, 0, 0, 0, 0),
  (91, .iload 6, 0, 0, 0, 0), (93, .iload_n 2, 0, 0, 0, 0), (94, .if_icmp .eq 19, 0, 0, 0, 0), (97, .aload_n 0, 0, 0, 0, 0), (98, .getfield 90, 7, 51, 0, 0), (101, .iload 6, 0, 0, 0, 0),
  (103, .iaload, 0, 0, 0, 0), (104, .aload_n 0, 0, 0, 0, 0), (105, .getfield 90, 7, 51, 0, 0), (108, .iload_n 2, 0, 0, 0, 0), (109, .iaload, 0, 0, 0, 0), (110, .if_icmp .lt 7, 0, 0, 0, 0),
  (113, .iconst 1, 0, 0, 0, 0), (114, .goto 4, 0, 0, 0, 0), (117, .iconst 0, 0, 0, 0, 0), (118, .istore_n 3, 0, 0, 0, 0), (119, .iinc 4 1, 0, 0, 0, 0), (122, .goto (-78), 0, 0, 0, 0),
  (125, .iload_n 3, 0, 0, 0, 0), (126, .ireturn, 0, 0, 0, 0)]
def tMo_isLet : xTb := ((⟨"FirstFeltModel", "isLet", "(I)Z"⟩, prog_9_method_75_code, 7, (some .boolean)), (0, 0), "FirstFeltModel", true, iMo_isLet)
def iMo_brings : List (Nat × xE) := [(0, .iconst 0, 0, 0, 0, 0), (1, .istore_n 2, 0, 0, 0, 0), (2, .iconst 0, 0, 0, 0, 0), (3, .istore_n 3, 0, 0, 0, 0), (4, .iload_n 3, 0, 0, 0, 0), (5, .aload_n 0, 0, 0, 0, 0),
  (6, .invokevirtual 226, 120, 1, 7, 1), (9, .if_icmp .ge 43, 0, 0, 0, 0), (12, .iload_n 2, 0, 0, 0, 0), (13, .aload_n 0, 0, 0, 0, 0), (14, .getfield 7, 7, 0, 0, 0), (17, .bipush 60, 0, 0, 0, 0),
  (19, .iload_n 3, 0, 0, 0, 0), (20, .iadd, 0, 0, 0, 0), (21, .iaload, 0, 0, 0, 0), (22, .iload_n 1, 0, 0, 0, 0), (23, .if_icmp .ne 20, 0, 0, 0, 0), (26, .aload_n 0, 0, 0, 0, 0),
  (27, .iload_n 3, 0, 0, 0, 0), (28, .invokevirtual 364, 190, 2, 7, 1), (31, .ifCond .eq 12, 0, 0, 0, 0), (34, .aload_n 0, 0, 0, 0, 0), (35, .getfield 90, 7, 51, 0, 0), (38, .iload_n 1, 0, 0, 0, 0),
  (39, .iaload, 0, 0, 0, 0), (40, .goto 4, 0, 0, 0, 0), (43, .iconst 0, 0, 0, 0, 0), (44, .iadd, 0, 0, 0, 0), (45, .istore_n 2, 0, 0, 0, 0), (46, .iinc 3 1, 0, 0, 0, 0),
  (49, .goto (-45), 0, 0, 0, 0), (52, .iload_n 2, 0, 0, 0, 0), (53, .ireturn, 0, 0, 0, 0)]
def tMo_brings : xTb := ((⟨"FirstFeltModel", "brings", "(I)I"⟩, prog_9_method_76_code, 4, (some .int)), (0, 0), "FirstFeltModel", false, iMo_brings)
def iMo_bestRent : List (Nat × xE) := [(0, .aload_n 0, 0, 0, 0, 0), (1, .getfield 90, 7, 51, 0, 0), (4, .iload_n 1, 0, 0, 0, 0), (5, .iaload, 0, 0, 0, 0), (6, .istore_n 2, 0, 0, 0, 0), (7, .iconst 0, 0, 0, 0, 0),
  (8, .istore_n 3, 0, 0, 0, 0), (9, .iconst (-1), 0, 0, 0, 0), (10, .istore 4, 0, 0, 0, 0), (12, .iconst 0, 0, 0, 0, 0), (13, .istore 5, 0, 0, 0, 0), (15, .iload 5, 0, 0, 0, 0),
  (17, .bipush 10, 0, 0, 0, 0), (19, .if_icmp .ge 54, 0, 0, 0, 0), (22, .aload_n 0, 0, 0, 0, 0), (23, .getfield 90, 7, 51, 0, 0), (26, .iload_n 1, 0, 0, 0, 0), (27, .iload 5, 0, 0, 0, 0),
  (29, .iastore, 0, 0, 0, 0), (30, .aload_n 0, 0, 0, 0, 0), (31, .iload_n 1, 0, 0, 0, 0), (32, .invokevirtual 367, 191, 2, 7, 1), (35, .istore 6, 0, 0, 0, 0), (37, .iload 6, 0, 0, 0, 0),
  (39, .iload 4, 0, 0, 0, 0), (41, .if_icmp .le 8, 0, 0, 0, 0), (44, .iload 5, 0, 0, 0, 0), (46, .goto 4, 0, 0, 0, 0), (49, .iload_n 3, 0, 0, 0, 0), (50, .istore_n 3, 0, 0, 0, 0),
  (51, .iload 6, 0, 0, 0, 0), (53, .iload 4, 0, 0, 0, 0), (55, .if_icmp .le 8, 0, 0, 0, 0), (58, .iload 6, 0, 0, 0, 0), (60, .goto 5, 0, 0, 0, 0), (63, .iload 4, 0, 0, 0, 0),
  (65, .istore 4, 0, 0, 0, 0), (67, .iinc 5 1, 0, 0, 0, 0), (70, .goto (-55), 0, 0, 0, 0), (73, .aload_n 0, 0, 0, 0, 0), (74, .getfield 90, 7, 51, 0, 0), (77, .iload_n 1, 0, 0, 0, 0),
  (78, .iload_n 2, 0, 0, 0, 0), (79, .iastore, 0, 0, 0, 0), (80, .iload_n 3, 0, 0, 0, 0), (81, .ireturn, 0, 0, 0, 0)]
def tMo_bestRent : xTb := ((⟨"FirstFeltModel", "bestRent", "(I)I"⟩, prog_9_method_77_code, 7, (some .int)), (0, 0), "FirstFeltModel", false, iMo_bestRent)
def iMo_rents : List (Nat × xE) := [(0, .iload_n 1, 0, 0, 0, 0), (1, .iconst (-1), 0, 0, 0, 0), (2, .if_icmp .eq 14, 0, 0, 0, 0), (5, .aload_n 0, 0, 0, 0, 0), (6, .iload_n 1, 0, 0, 0, 0), (7, .invokevirtual 263, 122, 2, 7, 1),
  (10, .ifCond .ne 6, 0, 0, 0, 0), (13, .ldc 249, 0, 0, 0, -1000000001), (15, .ireturn, 0, 0, 0, 0), (16, .iconst 0, 0, 0, 0, 0), (17, .istore_n 2, 0, 0, 0, 0), (18, .iload_n 2, 0, 0, 0, 0),
  (19, .bipush 6, 0, 0, 0, 0), (21, .if_icmp .ge 16, 0, 0, 0, 0), (24, .aload_n 0, 0, 0, 0, 0), (25, .getfield 90, 7, 51, 0, 0), (28, .iload_n 2, 0, 0, 0, 0), (29, .iconst 0, 0, 0, 0, 0),
  (30, .iastore, 0, 0, 0, 0), (31, .iinc 2 1, 0, 0, 0, 0), (34, .goto (-16), 0, 0, 0, 0), (37, .iconst 0, 0, 0, 0, 0), (38, .istore_n 2, 0, 0, 0, 0), (39, .iload_n 2, 0, 0, 0, 0),
  (40, .bipush 20, 0, 0, 0, 0), (42, .if_icmp .ge 88, 0, 0, 0, 0), (45, .iconst 0, 0, 0, 0, 0), (46, .istore_n 3, 0, 0, 0, 0), (47, .iconst 0, 0, 0, 0, 0), (48, .istore 4, 0, 0, 0, 0),
  (50, .iload 4, 0, 0, 0, 0), (52, .aload_n 0, 0, 0, 0, 0), (53, .getfield 106, 7, 13, 0, 0), (56, .if_icmp .ge 48, 0, 0, 0, 0), (59, .aload_n 0, 0, 0, 0, 0), (60, .iload 4, 0, 0, 0, 0),
  (62, .invokevirtual 370, 192, 2, 7, 1), (65, .istore 5, 0, 0, 0, 0), (67, .iload_n 3, 0, 0, 0, 0), (68, .ifCond .ne 15, 0, 0, 0, 0), (71, .iload 5, 0, 0, 0, 0), (73, .aload_n 0, 0, 0, 0, 0),
  (74, .getfield 90, 7, 51, 0, 0), (77, .iload 4, 0, 0, 0, 0), (79, .iaload, 0, 0, 0, 0), (80, .if_icmp .eq 7, 0, 0, 0, 0), (83, .iconst 1, 0, 0, 0, 0), (84, .goto 4, 0, 0, 0, 0),
  (87, .iconst 0, 0, 0, 0, 0), (88, .istore_n 3, 0, 0, 0, 0), (89, .aload_n 0, 0, 0, 0, 0), (90, .getfield 90, 7, 51, 0, 0), (93, .iload 4, 0, 0, 0, 0), (95, .iload 5, 0, 0, 0, 0),
  (97, .iastore, 0, 0, 0, 0), (98, .iinc 4 1, 0, 0, 0, 0), (101, .goto (-51), 0, 0, 0, 0), (104, .iload_n 3, 0, 0, 0, 0), (105, .ifCond .ne 19, 0, 0, 0, 0), (108, .iload_n 1, 0, 0, 0, 0),
  (109, .iconst (-1), 0, 0, 0, 0), (110, .if_icmp .ne 7, 0, 0, 0, 0), (113, .iload_n 2, 0, 0, 0, 0), (114, .goto 9, 0, 0, 0, 0), (117, .aload_n 0, 0, 0, 0, 0), (118, .getfield 90, 7, 51, 0, 0),
  (121, .iload_n 1, 0, 0, 0, 0), (122, .iaload, 0, 0, 0, 0), (123, .ireturn, 0, 0, 0, 0), (124, .iinc 2 1, 0, 0, 0, 0), (127, .goto (-88), 0, 0, 0, 0), (130, .iconst (-1), 0, 0, 0, 0),
  (131, .ireturn, 0, 0, 0, 0)]
def tMo_rents : xTb := ((⟨"FirstFeltModel", "rents", "(I)I"⟩, prog_9_method_78_code, 6, (some .int)), (0, 0), "FirstFeltModel", false, iMo_rents)
def iMo_claim : List (Nat × xE) := [(0, .aload_n 0, 0, 0, 0, 0), (1, .iload_n 2, 0, 0, 0, 0), (2, .invokevirtual 373, 125, 2, 7, 1), (5, .istore 4, 0, 0, 0, 0), (7, .aload_n 0, 0, 0, 0, 0), (8, .iload_n 1, 0, 0, 0, 0),
  (9, .invokevirtual 263, 122, 2, 7, 1), (12, .ifCond .eq 9, 0, 0, 0, 0), (15, .iload 4, 0, 0, 0, 0), (17, .iconst (-1), 0, 0, 0, 0), (18, .if_icmp .ne 6, 0, 0, 0, 0), (21, .ldc 249, 0, 0, 0, -1000000001),
  (23, .ireturn, 0, 0, 0, 0), (24, .iload_n 3, 0, 0, 0, 0), (25, .i2l, 0, 0, 0, 0), (26, .lconst 0, 0, 0, 0, 0), (27, .ldc2_w 376, 0, 0, 0, 59), (30, .invokestatic 102, 118, 3, 7, 1),
  (33, .ifCond .ne 6, 0, 0, 0, 0), (36, .ldc 118, 0, 0, 0, -1000000002), (38, .ireturn, 0, 0, 0, 0), (39, .aload_n 0, 0, 0, 0, 0), (40, .getfield 236, 7, 16, 0, 0), (43, .bipush 12, 0, 0, 0, 0),
  (45, .if_icmp .ne 6, 0, 0, 0, 0), (48, .ldc 122, 0, 0, 0, -1000000004), (50, .ireturn, 0, 0, 0, 0), (51, .aload_n 0, 0, 0, 0, 0), (52, .getfield 41, 7, 17, 0, 0), (55, .aload_n 0, 0, 0, 0, 0),
  (56, .getfield 236, 7, 16, 0, 0), (59, .iload_n 1, 0, 0, 0, 0), (60, .iastore, 0, 0, 0, 0), (61, .aload_n 0, 0, 0, 0, 0), (62, .getfield 44, 7, 18, 0, 0), (65, .aload_n 0, 0, 0, 0, 0),
  (66, .getfield 236, 7, 16, 0, 0), (69, .iload 4, 0, 0, 0, 0), (71, .iastore, 0, 0, 0, 0), (72, .aload_n 0, 0, 0, 0, 0), (73, .getfield 47, 7, 19, 0, 0), (76, .aload_n 0, 0, 0, 0, 0),
  (77, .getfield 236, 7, 16, 0, 0), (80, .iload_n 3, 0, 0, 0, 0), (81, .iastore, 0, 0, 0, 0), (82, .aload_n 0, 0, 0, 0, 0), (83, .dup, 0, 0, 0, 0), (84, .getfield 236, 7, 16, 0, 0),
  (87, .iconst 1, 0, 0, 0, 0), (88, .iadd, 0, 0, 0, 0), (89, .putfield 236, 7, 16, 0, 0), (92, .aload_n 0, 0, 0, 0, 0), (93, .getfield 236, 7, 16, 0, 0), (96, .ireturn, 0, 0, 0, 0)]
def tMo_claim : xTb := ((⟨"FirstFeltModel", "claim", "(III)I"⟩, prog_9_method_79_code, 5, (some .int)), (0, 0), "FirstFeltModel", false, iMo_claim)
def iMo_forged : List (Nat × xE) := [(0, .iconst 1, 0, 0, 0, 0), (1, .aload_n 0, 0, 0, 0, 0), (2, .getfield 236, 7, 16, 0, 0), (5, .ishl, 0, 0, 0, 0), (6, .iconst 1, 0, 0, 0, 0), (7, .isub, 0, 0, 0, 0),
  (8, .istore_n 1, 0, 0, 0, 0), (9, .aload_n 0, 0, 0, 0, 0), (10, .getfield 236, 7, 16, 0, 0), (13, .ifCond .ne 5, 0, 0, 0, 0), (16, .iconst 0, 0, 0, 0, 0), (17, .ireturn, 0, 0, 0, 0),
  (18, .aload_n 0, 0, 0, 0, 0), (19, .invokevirtual 341, 179, 1, 7, 0), (22, .iconst 0, 0, 0, 0, 0), (23, .istore_n 2, 0, 0, 0, 0), (24, .iload_n 2, 0, 0, 0, 0), (25, .bipush 60, 0, 0, 0, 0),
  (27, .if_icmp .ge 82, 0, 0, 0, 0), (30, .aload_n 0, 0, 0, 0, 0), (31, .invokevirtual 316, 172, 1, 7, 0), (34, .iconst 0, 0, 0, 0, 0), (35, .istore_n 3, 0, 0, 0, 0), (36, .iload_n 3, 0, 0, 0, 0),
  (37, .aload_n 0, 0, 0, 0, 0), (38, .getfield 236, 7, 16, 0, 0), (41, .if_icmp .ge 62, 0, 0, 0, 0), (44, .aload_n 0, 0, 0, 0, 0), (45, .getfield 47, 7, 19, 0, 0), (48, .iload_n 3, 0, 0, 0, 0),
  (49, .iaload, 0, 0, 0, 0), (50, .iload_n 2, 0, 0, 0, 0), (51, .if_icmp .ne 26, 0, 0, 0, 0), (54, .aload_n 0, 0, 0, 0, 0), (55, .aload_n 0, 0, 0, 0, 0), (56, .getfield 41, 7, 17, 0, 0),
  (59, .iload_n 3, 0, 0, 0, 0), (60, .iaload, 0, 0, 0, 0), (61, .aload_n 0, 0, 0, 0, 0), (62, .getfield 44, 7, 18, 0, 0), (65, .iload_n 3, 0, 0, 0, 0), (66, .iaload, 0, 0, 0, 0),
  (67, .invokevirtual 291, 166, 3, 7, 1), (70, .ifCond .eq 7, 0, 0, 0, 0), (73, .iconst 1, 0, 0, 0, 0), (74, .goto 4, 0, 0, 0, 0), (77, .iconst 0, 0, 0, 0, 0), (78, .istore 4, 0, 0, 0, 0),
  (80, .iload_n 1, 0, 0, 0, 0), (81, .iload 4, 0, 0, 0, 0), (83, .ifCond .eq 11, 0, 0, 0, 0), (86, .iconst 1, 0, 0, 0, 0), (87, .iload_n 3, 0, 0, 0, 0), (88, .ishl, 0, 0, 0, 0),
  (89, .iconst (-1), 0, 0, 0, 0), (90, .ixor, 0, 0, 0, 0), (91, .goto 4, 0, 0, 0, 0), (94, .iconst (-1), 0, 0, 0, 0), (95, .iand, 0, 0, 0, 0), (96, .istore_n 1, 0, 0, 0, 0),
  (97, .iinc 3 1, 0, 0, 0, 0), (100, .goto (-64), 0, 0, 0, 0), (103, .iinc 2 1, 0, 0, 0, 0), (106, .goto (-82), 0, 0, 0, 0), (109, .aload_n 0, 0, 0, 0, 0), (110, .invokevirtual 344, 180, 1, 7, 0),
  (113, .iload_n 1, 0, 0, 0, 0), (114, .ireturn, 0, 0, 0, 0)]
def tMo_forged : xTb := ((⟨"FirstFeltModel", "forged", "()I"⟩, prog_9_method_80_code, 5, (some .int)), (0, 0), "FirstFeltModel", false, iMo_forged)
def iMo_leaveWarm : List (Nat × xE) := [(0, .aload_n 0, 0, 0, 0, 0), (1, .getfield 7, 7, 0, 0, 0), (4, .bipush 108, 0, 0, 0, 0), (6, .iload_n 1, 0, 0, 0, 0), (7, .iadd, 0, 0, 0, 0), (8, .iaload, 0, 0, 0, 0),
  (9, .istore_n 2, 0, 0, 0, 0), (10, .aload_n 0, 0, 0, 0, 0), (11, .iload_n 1, 0, 0, 0, 0), (12, .iload_n 2, 0, 0, 0, 0), (13, .invokevirtual 297, 170, 3, 7, 1), (16, .ifCond .eq 70, 0, 0, 0, 0),
  (19, .iconst (-1), 0, 0, 0, 0), (20, .istore_n 3, 0, 0, 0, 0), (21, .iconst 4, 0, 0, 0, 0), (22, .istore 4, 0, 0, 0, 0), (24, .iload 4, 0, 0, 0, 0), (26, .ifCond .le 41, 0, 0, 0, 0),
  (29, .aload_n 0, 0, 0, 0, 0), (30, .iload_n 2, 0, 0, 0, 0), (31, .iload 4, 0, 0, 0, 0), (33, .invokevirtual 271, 155, 3, 7, 1), (36, .istore 5, 0, 0, 0, 0), (38, .iload 5, 0, 0, 0, 0),
  (40, .iconst (-1), 0, 0, 0, 0), (41, .if_icmp .eq 18, 0, 0, 0, 0), (44, .aload_n 0, 0, 0, 0, 0), (45, .iload_n 1, 0, 0, 0, 0), (46, .iload 5, 0, 0, 0, 0), (48, .invokevirtual 297, 170, 3, 7, 1),
  (51, .ifCond .ne 8, 0, 0, 0, 0), (54, .iload 5, 0, 0, 0, 0), (56, .goto 4, 0, 0, 0, 0), (59, .iload_n 3, 0, 0, 0, 0), (60, .istore_n 3, 0, 0, 0, 0), (61, .iinc 4 (-1), 0, 0, 0, 0),
  (64, .goto (-40), 0, 0, 0, 0), (67, .aload_n 0, 0, 0, 0, 0), (68, .getfield 7, 7, 0, 0, 0), (71, .bipush 108, 0, 0, 0, 0), (73, .iload_n 1, 0, 0, 0, 0), (74, .iadd, 0, 0, 0, 0),
  (75, .iload_n 3, 0, 0, 0, 0), (76, .iconst (-1), 0, 0, 0, 0), (77, .if_icmp .ne 7, 0, 0, 0, 0), (80, .iload_n 2, 0, 0, 0, 0), (81, .goto 4, 0, 0, 0, 0), (84, .iload_n 3, 0, 0, 0, 0),
  (85, .iastore, 0, 0, 0, 0), (86, .return_, 0, 0, 0, 0)]
def tMo_leaveWarm : xTb := ((⟨"FirstFeltModel", "leaveWarm", "(I)V"⟩, prog_9_method_81_code, 6, none), (0, 0), "FirstFeltModel", false, iMo_leaveWarm)
def iMo_coldBy : List (Nat × xE) := [(0, .aload_n 0, 0, 0, 0, 0), (1, .invokevirtual 341, 179, 1, 7, 0), (4, .aload_n 0, 0, 0, 0, 0), (5, .getfield 7, 7, 0, 0, 0), (8, .sipush 138, 0, 0, 0, 0), (11, .iload_n 1, 0, 0, 0, 0),
  (12, .iastore, 0, 0, 0, 0), (13, .aload_n 0, 0, 0, 0, 0), (14, .getfield 7, 7, 0, 0, 0), (17, .sipush 142, 0, 0, 0, 0), (20, .iconst 0, 0, 0, 0, 0), (21, .iastore, 0, 0, 0, 0),
  (22, .iconst 0, 0, 0, 0, 0), (23, .istore_n 3, 0, 0, 0, 0), (24, .iload_n 3, 0, 0, 0, 0), (25, .iload_n 2, 0, 0, 0, 0), (26, .if_icmp .ge 37, 0, 0, 0, 0), (29, .iconst 0, 0, 0, 0, 0),
  (30, .istore 4, 0, 0, 0, 0), (32, .iload 4, 0, 0, 0, 0), (34, .aload_n 0, 0, 0, 0, 0), (35, .getfield 106, 7, 13, 0, 0), (38, .if_icmp .ge 15, 0, 0, 0, 0), (41, .aload_n 0, 0, 0, 0, 0),
  (42, .iload 4, 0, 0, 0, 0), (44, .invokevirtual 378, 196, 2, 7, 0), (47, .iinc 4 1, 0, 0, 0, 0), (50, .goto (-18), 0, 0, 0, 0), (53, .aload_n 0, 0, 0, 0, 0), (54, .invokevirtual 316, 172, 1, 7, 0),
  (57, .iinc 3 1, 0, 0, 0, 0), (60, .goto (-36), 0, 0, 0, 0), (63, .iconst 0, 0, 0, 0, 0), (64, .istore_n 3, 0, 0, 0, 0), (65, .iconst 0, 0, 0, 0, 0), (66, .istore 4, 0, 0, 0, 0),
  (68, .iload 4, 0, 0, 0, 0), (70, .aload_n 0, 0, 0, 0, 0), (71, .getfield 106, 7, 13, 0, 0), (74, .if_icmp .ge 25, 0, 0, 0, 0), (77, .iload_n 3, 0, 0, 0, 0), (78, .aload_n 0, 0, 0, 0, 0),
  (79, .getfield 7, 7, 0, 0, 0), (82, .sipush 142, 0, 0, 0, 0), (85, .iaload, 0, 0, 0, 0), (86, .iload 4, 0, 0, 0, 0), (88, .ishr, 0, 0, 0, 0), (89, .iconst 1, 0, 0, 0, 0),
  (90, .iand, 0, 0, 0, 0), (91, .iadd, 0, 0, 0, 0), (92, .istore_n 3, 0, 0, 0, 0), (93, .iinc 4 1, 0, 0, 0, 0), (96, .goto (-28), 0, 0, 0, 0), (99, .aload_n 0, 0, 0, 0, 0),
  (100, .invokevirtual 344, 180, 1, 7, 0), (103, .iload_n 3, 0, 0, 0, 0), (104, .ireturn, 0, 0, 0, 0)]
def tMo_coldBy : xTb := ((⟨"FirstFeltModel", "coldBy", "(II)I"⟩, prog_9_method_82_code, 5, (some .int)), (0, 0), "FirstFeltModel", false, iMo_coldBy)
def iMo_cold : List (Nat × xE) := [(0, .iload_n 1, 0, 0, 0, 0), (1, .i2l, 0, 0, 0, 0), (2, .lconst 0, 0, 0, 0, 0), (3, .ldc2_w 281, 0, 0, 0, 3), (6, .invokestatic 102, 118, 3, 7, 1), (9, .ifCond .eq 24, 0, 0, 0, 0),
  (12, .iload_n 2, 0, 0, 0, 0), (13, .i2l, 0, 0, 0, 0), (14, .lconst 1, 0, 0, 0, 0), (15, .ldc2_w 319, 0, 0, 0, 60), (18, .invokestatic 102, 118, 3, 7, 1), (21, .ifCond .eq 12, 0, 0, 0, 0),
  (24, .aload_n 0, 0, 0, 0, 0), (25, .iload_n 1, 0, 0, 0, 0), (26, .iload_n 2, 0, 0, 0, 0), (27, .invokevirtual 381, 197, 3, 7, 1), (30, .goto 5, 0, 0, 0, 0), (33, .ldc 118, 0, 0, 0, -1000000002),
  (35, .ireturn, 0, 0, 0, 0)]
def tMo_cold : xTb := ((⟨"FirstFeltModel", "cold", "(II)I"⟩, prog_9_method_83_code, 3, (some .int)), (0, 0), "FirstFeltModel", false, iMo_cold)
def iMo_mildest : List (Nat × xE) := [(0, .iload_n 1, 0, 0, 0, 0), (1, .i2l, 0, 0, 0, 0), (2, .lconst 1, 0, 0, 0, 0), (3, .ldc2_w 319, 0, 0, 0, 60), (6, .invokestatic 102, 118, 3, 7, 1), (9, .ifCond .ne 6, 0, 0, 0, 0),
  (12, .ldc 118, 0, 0, 0, -1000000002), (14, .ireturn, 0, 0, 0, 0), (15, .iconst 0, 0, 0, 0, 0), (16, .istore_n 2, 0, 0, 0, 0), (17, .iconst 1, 0, 0, 0, 0), (18, .istore_n 3, 0, 0, 0, 0),
  (19, .iload_n 3, 0, 0, 0, 0), (20, .iconst 4, 0, 0, 0, 0), (21, .if_icmp .ge 30, 0, 0, 0, 0), (24, .aload_n 0, 0, 0, 0, 0), (25, .iload_n 3, 0, 0, 0, 0), (26, .iload_n 1, 0, 0, 0, 0),
  (27, .invokevirtual 381, 197, 3, 7, 1), (30, .aload_n 0, 0, 0, 0, 0), (31, .iload_n 2, 0, 0, 0, 0), (32, .iload_n 1, 0, 0, 0, 0), (33, .invokevirtual 381, 197, 3, 7, 1), (36, .if_icmp .ge 7, 0, 0, 0, 0),
  (39, .iload_n 3, 0, 0, 0, 0), (40, .goto 4, 0, 0, 0, 0), (43, .iload_n 2, 0, 0, 0, 0), (44, .istore_n 2, 0, 0, 0, 0), (45, .iinc 3 1, 0, 0, 0, 0), (48, .goto (-29), 0, 0, 0, 0),
  (51, .iload_n 2, 0, 0, 0, 0), (52, .ireturn, 0, 0, 0, 0)]
def tMo_mildest : xTb := ((⟨"FirstFeltModel", "mildest", "(I)I"⟩, prog_9_method_84_code, 4, (some .int)), (0, 0), "FirstFeltModel", false, iMo_mildest)
def iMo_deed : List (Nat × xE) := [(0, .aload_n 0, 0, 0, 0, 0), (1, .iload_n 2, 0, 0, 0, 0), (2, .invokevirtual 373, 125, 2, 7, 1), (5, .istore 4, 0, 0, 0, 0), (7, .aload_n 0, 0, 0, 0, 0), (8, .iload_n 1, 0, 0, 0, 0),
  (9, .invokevirtual 263, 122, 2, 7, 1), (12, .ifCond .eq 9, 0, 0, 0, 0), (15, .iload 4, 0, 0, 0, 0), (17, .iconst (-1), 0, 0, 0, 0), (18, .if_icmp .ne 6, 0, 0, 0, 0), (21, .ldc 249, 0, 0, 0, -1000000001),
  (23, .ireturn, 0, 0, 0, 0), (24, .iload_n 3, 0, 0, 0, 0), (25, .i2l, 0, 0, 0, 0), (26, .lconst 1, 0, 0, 0, 0), (27, .ldc2_w 319, 0, 0, 0, 60), (30, .invokestatic 102, 118, 3, 7, 1),
  (33, .ifCond .ne 6, 0, 0, 0, 0), (36, .ldc 118, 0, 0, 0, -1000000002), (38, .ireturn, 0, 0, 0, 0), (39, .aload_n 0, 0, 0, 0, 0), (40, .getfield 239, 7, 20, 0, 0), (43, .bipush 8, 0, 0, 0, 0),
  (45, .if_icmp .ne 6, 0, 0, 0, 0), (48, .ldc 122, 0, 0, 0, -1000000004), (50, .ireturn, 0, 0, 0, 0), (51, .aload_n 0, 0, 0, 0, 0), (52, .getfield 50, 7, 21, 0, 0), (55, .aload_n 0, 0, 0, 0, 0),
  (56, .getfield 239, 7, 20, 0, 0), (59, .iload_n 1, 0, 0, 0, 0), (60, .iastore, 0, 0, 0, 0), (61, .aload_n 0, 0, 0, 0, 0), (62, .getfield 53, 7, 22, 0, 0), (65, .aload_n 0, 0, 0, 0, 0),
  (66, .getfield 239, 7, 20, 0, 0), (69, .iload 4, 0, 0, 0, 0), (71, .iastore, 0, 0, 0, 0), (72, .aload_n 0, 0, 0, 0, 0), (73, .getfield 56, 7, 23, 0, 0), (76, .aload_n 0, 0, 0, 0, 0),
  (77, .getfield 239, 7, 20, 0, 0), (80, .iload_n 3, 0, 0, 0, 0), (81, .iastore, 0, 0, 0, 0), (82, .aload_n 0, 0, 0, 0, 0), (83, .dup, 0, 0, 0, 0), (84, .getfield 239, 7, 20, 0, 0),
  (87, .iconst 1, 0, 0, 0, 0), (88, .iadd, 0, 0, 0, 0), (89, .putfield 239, 7, 20, 0, 0), (92, .aload_n 0, 0, 0, 0, 0), (93, .getfield 239, 7, 20, 0, 0), (96, .ireturn, 0, 0, 0, 0)]
def tMo_deed : xTb := ((⟨"FirstFeltModel", "deed", "(III)I"⟩, prog_9_method_85_code, 5, (some .int)), (0, 0), "FirstFeltModel", false, iMo_deed)
def iMo_areDeeds : List (Nat × xE) := [(0, .iconst 1, 0, 0, 0, 0), (1, .istore_n 3, 0, 0, 0, 0), (2, .iconst 0, 0, 0, 0, 0), (3, .istore 4, 0, 0, 0, 0), (5, .iload 4, 0, 0, 0, 0), (7, .bipush 60, 0, 0, 0, 0),
  (9, .if_icmp .ge 112, 0, 0, 0, 0), (12, .iload_n 3, 0, 0, 0, 0), (13, .ifCond .eq 108, 0, 0, 0, 0), (16, .aload_n 0, 0, 0, 0, 0), (17, .getfield 7, 7, 0, 0, 0), (20, .bipush 104, 0, 0, 0, 0),
  (22, .iload_n 1, 0, 0, 0, 0), (23, .iadd, 0, 0, 0, 0), (24, .iload 4, 0, 0, 0, 0), (26, .iload_n 2, 0, 0, 0, 0), (27, .if_icmp .ne 7, 0, 0, 0, 0), (30, .iconst 1, 0, 0, 0, 0),
  (31, .goto 12, 0, 0, 0, 0), (34, .aload_n 0, 0, 0, 0, 0), (35, .getfield 7, 7, 0, 0, 0), (38, .bipush 104, 0, 0, 0, 0), (40, .iload_n 1, 0, 0, 0, 0), (41, .iadd, 0, 0, 0, 0),
  (42, .iaload, 0, 0, 0, 0), (43, .iastore, 0, 0, 0, 0), (44, .aload_n 0, 0, 0, 0, 0), (45, .invokevirtual 316, 172, 1, 7, 0), (48, .iconst 0, 0, 0, 0, 0), (49, .istore 5, 0, 0, 0, 0),
  (51, .iload 5, 0, 0, 0, 0), (53, .aload_n 0, 0, 0, 0, 0), (54, .getfield 239, 7, 20, 0, 0), (57, .if_icmp .ge 58, 0, 0, 0, 0), (60, .iload_n 3, 0, 0, 0, 0), (61, .ifCond .eq 46, 0, 0, 0, 0),
  (64, .aload_n 0, 0, 0, 0, 0), (65, .getfield 56, 7, 23, 0, 0), (68, .iload 5, 0, 0, 0, 0), (70, .iaload, 0, 0, 0, 0), (71, .iload 4, 0, 0, 0, 0), (73, .iconst 1, 0, 0, 0, 0),
  (74, .iadd, 0, 0, 0, 0), (75, .if_icmp .ne 28, 0, 0, 0, 0), (78, .aload_n 0, 0, 0, 0, 0), (79, .getfield 7, 7, 0, 0, 0), (82, .bipush 60, 0, 0, 0, 0), (84, .aload_n 0, 0, 0, 0, 0),
  (85, .getfield 53, 7, 22, 0, 0), (88, .iload 5, 0, 0, 0, 0), (90, .iaload, 0, 0, 0, 0), (91, .iadd, 0, 0, 0, 0), (92, .iaload, 0, 0, 0, 0), (93, .aload_n 0, 0, 0, 0, 0),
  (94, .getfield 50, 7, 21, 0, 0), (97, .iload 5, 0, 0, 0, 0), (99, .iaload, 0, 0, 0, 0), (100, .if_icmp .ne 7, 0, 0, 0, 0), (103, .iconst 1, 0, 0, 0, 0), (104, .goto 4, 0, 0, 0, 0),
  (107, .iconst 0, 0, 0, 0, 0), (108, .istore_n 3, 0, 0, 0, 0), (109, .iinc 5 1, 0, 0, 0, 0), (112, .goto (-61), 0, 0, 0, 0), (115, .iinc 4 1, 0, 0, 0, 0), (118, .goto (-113), 0, 0, 0, 0),
  (121, .aload_n 0, 0, 0, 0, 0), (122, .invokevirtual 344, 180, 1, 7, 0), (125, .iload_n 3, 0, 0, 0, 0), (126, .ireturn, 0, 0, 0, 0)]
def tMo_areDeeds : xTb := ((⟨"FirstFeltModel", "areDeeds", "(II)Z"⟩, prog_9_method_86_code, 6, (some .boolean)), (0, 0), "FirstFeltModel", true, iMo_areDeeds)
def iMo_wasLit : List (Nat × xE) := [(0, .aload_n 0, 0, 0, 0, 0), (1, .iload_n 1, 0, 0, 0, 0), (2, .invokevirtual 257, 123, 2, 7, 1), (5, .ifCond .ne 6, 0, 0, 0, 0), (8, .ldc 249, 0, 0, 0, -1000000001), (10, .ireturn, 0, 0, 0, 0),
  (11, .aload_n 0, 0, 0, 0, 0), (12, .iload_n 1, 0, 0, 0, 0), (13, .invokevirtual 276, 158, 2, 7, 1), (16, .ifCond .ne 7, 0, 0, 0, 0), (19, .ldc_w 275, 0, 0, 0, -1000000003), (22, .ireturn, 0, 0, 0, 0),
  (23, .iconst 0, 0, 0, 0, 0), (24, .istore_n 3, 0, 0, 0, 0), (25, .iconst (-1), 0, 0, 0, 0), (26, .istore 4, 0, 0, 0, 0), (28, .aload_n 0, 0, 0, 0, 0), (29, .invokevirtual 341, 179, 1, 7, 0),
  (32, .iconst 0, 0, 0, 0, 0), (33, .istore 5, 0, 0, 0, 0), (35, .iload 5, 0, 0, 0, 0), (37, .bipush 60, 0, 0, 0, 0), (39, .if_icmp .ge 36, 0, 0, 0, 0), (42, .aload_n 0, 0, 0, 0, 0),
  (43, .iload_n 1, 0, 0, 0, 0), (44, .iload 5, 0, 0, 0, 0), (46, .invokevirtual 384, 201, 3, 7, 1), (49, .ifCond .eq 20, 0, 0, 0, 0), (52, .iload_n 3, 0, 0, 0, 0), (53, .iload_n 2, 0, 0, 0, 0),
  (54, .if_icmp .ne 8, 0, 0, 0, 0), (57, .iload 5, 0, 0, 0, 0), (59, .goto 5, 0, 0, 0, 0), (62, .iload 4, 0, 0, 0, 0), (64, .istore 4, 0, 0, 0, 0), (66, .iinc 3 1, 0, 0, 0, 0),
  (69, .iinc 5 1, 0, 0, 0, 0), (72, .goto (-37), 0, 0, 0, 0), (75, .iload_n 2, 0, 0, 0, 0), (76, .iconst (-1), 0, 0, 0, 0), (77, .if_icmp .ne 7, 0, 0, 0, 0), (80, .iload_n 3, 0, 0, 0, 0),
  (81, .goto 5, 0, 0, 0, 0), (84, .iload 4, 0, 0, 0, 0), (86, .ireturn, 0, 0, 0, 0)]
def tMo_wasLit : xTb := ((⟨"FirstFeltModel", "wasLit", "(II)I"⟩, prog_9_method_87_code, 6, (some .int)), (0, 0), "FirstFeltModel", false, iMo_wasLit)
def iMo_tear : List (Nat × xE) := [(0, .aload_n 0, 0, 0, 0, 0), (1, .getfield 236, 7, 16, 0, 0), (4, .aload_n 0, 0, 0, 0, 0), (5, .getfield 239, 7, 20, 0, 0), (8, .iadd, 0, 0, 0, 0), (9, .istore_n 1, 0, 0, 0, 0),
  (10, .aload_n 0, 0, 0, 0, 0), (11, .iconst 0, 0, 0, 0, 0), (12, .putfield 236, 7, 16, 0, 0), (15, .aload_n 0, 0, 0, 0, 0), (16, .iconst 0, 0, 0, 0, 0), (17, .putfield 239, 7, 20, 0, 0),
  (20, .iload_n 1, 0, 0, 0, 0), (21, .ireturn, 0, 0, 0, 0)]
def tMo_tear : xTb := ((⟨"FirstFeltModel", "tear", "()I"⟩, prog_9_method_88_code, 2, (some .int)), (0, 0), "FirstFeltModel", false, iMo_tear)
def iMo_seed : List (Nat × xE) := [(0, .iload_n 1, 0, 0, 0, 0), (1, .ifCond .ge 6, 0, 0, 0, 0), (4, .ldc 118, 0, 0, 0, -1000000002), (6, .ireturn, 0, 0, 0, 0), (7, .aload_n 0, 0, 0, 0, 0), (8, .getfield 7, 7, 0, 0, 0),
  (11, .sipush 141, 0, 0, 0, 0), (14, .iaload, 0, 0, 0, 0), (15, .istore_n 2, 0, 0, 0, 0), (16, .aload_n 0, 0, 0, 0, 0), (17, .getfield 7, 7, 0, 0, 0), (20, .sipush 141, 0, 0, 0, 0),
  (23, .iload_n 1, 0, 0, 0, 0), (24, .iastore, 0, 0, 0, 0), (25, .iload_n 2, 0, 0, 0, 0), (26, .ireturn, 0, 0, 0, 0)]
def tMo_seed : xTb := ((⟨"FirstFeltModel", "seed", "(I)I"⟩, prog_9_method_89_code, 3, (some .int)), (0, 0), "FirstFeltModel", false, iMo_seed)
def iMo_keep : List (Nat × xE) := [(0, .iload_n 1, 0, 0, 0, 0), (1, .i2l, 0, 0, 0, 0), (2, .lconst 0, 0, 0, 0, 0), (3, .lconst 1, 0, 0, 0, 0), (4, .invokestatic 102, 118, 3, 7, 1), (7, .ifCond .ne 6, 0, 0, 0, 0),
  (10, .ldc 249, 0, 0, 0, -1000000001), (12, .ireturn, 0, 0, 0, 0), (13, .iconst 0, 0, 0, 0, 0), (14, .istore_n 2, 0, 0, 0, 0), (15, .iload_n 2, 0, 0, 0, 0), (16, .sipush 143, 0, 0, 0, 0),
  (19, .if_icmp .ge 27, 0, 0, 0, 0), (22, .aload_n 0, 0, 0, 0, 0), (23, .getfield 13, 7, 1, 0, 0), (26, .sipush 143, 0, 0, 0, 0), (29, .iload_n 1, 0, 0, 0, 0), (30, .imul, 0, 0, 0, 0),
  (31, .iload_n 2, 0, 0, 0, 0), (32, .iadd, 0, 0, 0, 0), (33, .aload_n 0, 0, 0, 0, 0), (34, .getfield 7, 7, 0, 0, 0), (37, .iload_n 2, 0, 0, 0, 0), (38, .iaload, 0, 0, 0, 0),
  (39, .iastore, 0, 0, 0, 0), (40, .iinc 2 1, 0, 0, 0, 0), (43, .goto (-28), 0, 0, 0, 0), (46, .aload_n 0, 0, 0, 0, 0), (47, .getfield 16, 7, 2, 0, 0), (50, .iload_n 1, 0, 0, 0, 0),
  (51, .iconst 1, 0, 0, 0, 0), (52, .bastore, 0, 0, 0, 0), (53, .iconst 1, 0, 0, 0, 0), (54, .ireturn, 0, 0, 0, 0)]
def tMo_keep : xTb := ((⟨"FirstFeltModel", "keep", "(I)I"⟩, prog_9_method_90_code, 3, (some .int)), (0, 0), "FirstFeltModel", false, iMo_keep)
def iMo_goBack : List (Nat × xE) := [(0, .iload_n 1, 0, 0, 0, 0), (1, .i2l, 0, 0, 0, 0), (2, .lconst 0, 0, 0, 0, 0), (3, .lconst 1, 0, 0, 0, 0), (4, .invokestatic 102, 118, 3, 7, 1), (7, .ifCond .ne 6, 0, 0, 0, 0),
  (10, .ldc 249, 0, 0, 0, -1000000001), (12, .ireturn, 0, 0, 0, 0), (13, .aload_n 0, 0, 0, 0, 0), (14, .getfield 16, 7, 2, 0, 0), (17, .iload_n 1, 0, 0, 0, 0), (18, .baload, 0, 0, 0, 0),
  (19, .ifCond .ne 7, 0, 0, 0, 0), (22, .ldc_w 275, 0, 0, 0, -1000000003), (25, .ireturn, 0, 0, 0, 0), (26, .iconst 0, 0, 0, 0, 0), (27, .istore_n 2, 0, 0, 0, 0), (28, .iload_n 2, 0, 0, 0, 0),
  (29, .sipush 143, 0, 0, 0, 0), (32, .if_icmp .ge 27, 0, 0, 0, 0), (35, .aload_n 0, 0, 0, 0, 0), (36, .getfield 7, 7, 0, 0, 0), (39, .iload_n 2, 0, 0, 0, 0), (40, .aload_n 0, 0, 0, 0, 0),
  (41, .getfield 13, 7, 1, 0, 0), (44, .sipush 143, 0, 0, 0, 0), (47, .iload_n 1, 0, 0, 0, 0), (48, .imul, 0, 0, 0, 0), (49, .iload_n 2, 0, 0, 0, 0), (50, .iadd, 0, 0, 0, 0),
  (51, .iaload, 0, 0, 0, 0), (52, .iastore, 0, 0, 0, 0), (53, .iinc 2 1, 0, 0, 0, 0), (56, .goto (-28), 0, 0, 0, 0), (59, .iconst 1, 0, 0, 0, 0), (60, .ireturn, 0, 0, 0, 0)]
def tMo_goBack : xTb := ((⟨"FirstFeltModel", "goBack", "(I)I"⟩, prog_9_method_91_code, 3, (some .int)), (0, 0), "FirstFeltModel", false, iMo_goBack)
def iJd_bitCount : List (Nat × xE) := [(0, .iload_n 0, 0, 0, 0, 0), (1, .iload_n 0, 0, 0, 0, 0), (2, .iconst 1, 0, 0, 0, 0), (3, .iushr, 0, 0, 0, 0), (4, .ldc_w 265, 0, 0, 0, 1431655765), (7, .iand, 0, 0, 0, 0),
  (8, .isub, 0, 0, 0, 0), (9, .istore_n 0, 0, 0, 0, 0), (10, .iload_n 0, 0, 0, 0, 0), (11, .ldc_w 266, 0, 0, 0, 858993459), (14, .iand, 0, 0, 0, 0), (15, .iload_n 0, 0, 0, 0, 0),
  (16, .iconst 2, 0, 0, 0, 0), (17, .iushr, 0, 0, 0, 0), (18, .ldc_w 266, 0, 0, 0, 858993459), (21, .iand, 0, 0, 0, 0), (22, .iadd, 0, 0, 0, 0), (23, .istore_n 0, 0, 0, 0, 0),
  (24, .iload_n 0, 0, 0, 0, 0), (25, .iload_n 0, 0, 0, 0, 0), (26, .iconst 4, 0, 0, 0, 0), (27, .iushr, 0, 0, 0, 0), (28, .iadd, 0, 0, 0, 0), (29, .ldc_w 267, 0, 0, 0, 252645135),
  (32, .iand, 0, 0, 0, 0), (33, .istore_n 0, 0, 0, 0, 0), (34, .iload_n 0, 0, 0, 0, 0), (35, .iload_n 0, 0, 0, 0, 0), (36, .bipush 8, 0, 0, 0, 0), (38, .iushr, 0, 0, 0, 0),
  (39, .iadd, 0, 0, 0, 0), (40, .istore_n 0, 0, 0, 0, 0), (41, .iload_n 0, 0, 0, 0, 0), (42, .iload_n 0, 0, 0, 0, 0), (43, .bipush 16, 0, 0, 0, 0), (45, .iushr, 0, 0, 0, 0),
  (46, .iadd, 0, 0, 0, 0), (47, .istore_n 0, 0, 0, 0, 0), (48, .iload_n 0, 0, 0, 0, 0), (49, .bipush 63, 0, 0, 0, 0), (51, .iand, 0, 0, 0, 0), (52, .ireturn, 0, 0, 0, 0)]
def tJd_bitCount : xTb := ((⟨"java/lang/Integer", "bitCount", "(I)I"⟩, prog_10_method_49_code, 1, (some .int)), (0, 0), "java/lang/Integer", false, iJd_bitCount)
def iJd_fill : List (Nat × xE) := [(0, .iconst 0, 0, 0, 0, 0), (1, .istore_n 2, 0, 0, 0, 0), (2, .aload_n 0, 0, 0, 0, 0), (3, .arraylength, 0, 0, 0, 0), (4, .istore_n 3, 0, 0, 0, 0), (5, .iload_n 2, 0, 0, 0, 0),
  (6, .iload_n 3, 0, 0, 0, 0), (7, .if_icmp .ge 13, 0, 0, 0, 0), (10, .aload_n 0, 0, 0, 0, 0), (11, .iload_n 2, 0, 0, 0, 0), (12, .iload_n 1, 0, 0, 0, 0), (13, .iastore, 0, 0, 0, 0),
  (14, .iinc 2 1, 0, 0, 0, 0), (17, .goto (-12), 0, 0, 0, 0), (20, .return_, 0, 0, 0, 0)]
def tJd_fill : xTb := ((⟨"java/util/Arrays", "fill", "([II)V"⟩, prog_13_method_103_code, 4, none), (0, 0), "java/util/Arrays", false, iJd_fill)
def iLw_law : List (Nat × xE) := [(0, .new 7, 6, 0, 0, 0), (3, .dup, 0, 0, 0, 0), (4, .invokespecial 9, 70, 1, 6, 2), (7, .astore_n 1, 0, 0, 0, 0), (8, .new 10, 7, 0, 0, 0), (11, .dup, 0, 0, 0, 0),
  (12, .invokespecial 12, 117, 1, 7, 2), (15, .astore_n 2, 0, 0, 0, 0), (16, .iconst 0, 0, 0, 0, 0), (17, .istore_n 3, 0, 0, 0, 0), (18, .iload_n 3, 0, 0, 0, 0), (19, .aload_n 0, 0, 0, 0, 0),
  (20, .arraylength, 0, 0, 0, 0), (21, .bipush 6, 0, 0, 0, 0), (23, .isub, 0, 0, 0, 0), (24, .if_icmp .gt 1170, 0, 0, 0, 0), (27, .aload_n 0, 0, 0, 0, 0), (28, .iload_n 3, 0, 0, 0, 0),
  (29, .iaload, 0, 0, 0, 0), (30, .bipush 31, 0, 0, 0, 0), (32, .iand, 0, 0, 0, 0), (33, .tableswitch 1155 0 31 #[143, 166, 179, 192, 215, 258, 301, 334, 367, 400, 469, 492, 525, 548, 571, 594, 617, 670, 713, 756, 799, 862, 885, 928, 941, 974, 997, 1040, 1073, 1086, 1109, 1132], 0, 0, 0, 0), (176, .aload_n 1, 0, 0, 0, 0), (177, .aload_n 0, 0, 0, 0, 0),
  (178, .iload_n 3, 0, 0, 0, 0), (179, .iconst 1, 0, 0, 0, 0), (180, .iadd, 0, 0, 0, 0), (181, .iaload, 0, 0, 0, 0), (182, .invokevirtual 13, 71, 2, 6, 1), (185, .aload_n 2, 0, 0, 0, 0),
  (186, .aload_n 0, 0, 0, 0, 0), (187, .iload_n 3, 0, 0, 0, 0), (188, .iconst 1, 0, 0, 0, 0), (189, .iadd, 0, 0, 0, 0), (190, .iaload, 0, 0, 0, 0), (191, .invokevirtual 17, 126, 2, 7, 1),
  (194, .if_icmp .eq 994, 0, 0, 0, 0), (197, .iconst 0, 0, 0, 0, 0), (198, .ireturn, 0, 0, 0, 0), (199, .aload_n 1, 0, 0, 0, 0), (200, .invokevirtual 18, 72, 1, 6, 1), (203, .aload_n 2, 0, 0, 0, 0),
  (204, .invokevirtual 22, 143, 1, 7, 1), (207, .if_icmp .eq 981, 0, 0, 0, 0), (210, .iconst 0, 0, 0, 0, 0), (211, .ireturn, 0, 0, 0, 0), (212, .aload_n 1, 0, 0, 0, 0), (213, .invokevirtual 23, 73, 1, 6, 1),
  (216, .aload_n 2, 0, 0, 0, 0), (217, .invokevirtual 26, 144, 1, 7, 1), (220, .if_icmp .eq 968, 0, 0, 0, 0), (223, .iconst 0, 0, 0, 0, 0), (224, .ireturn, 0, 0, 0, 0), (225, .aload_n 1, 0, 0, 0, 0),
  (226, .aload_n 0, 0, 0, 0, 0), (227, .iload_n 3, 0, 0, 0, 0), (228, .iconst 1, 0, 0, 0, 0), (229, .iadd, 0, 0, 0, 0), (230, .iaload, 0, 0, 0, 0), (231, .invokevirtual 27, 74, 2, 6, 1),
  (234, .aload_n 2, 0, 0, 0, 0), (235, .aload_n 0, 0, 0, 0, 0), (236, .iload_n 3, 0, 0, 0, 0), (237, .iconst 1, 0, 0, 0, 0), (238, .iadd, 0, 0, 0, 0), (239, .iaload, 0, 0, 0, 0),
  (240, .invokevirtual 30, 147, 2, 7, 1), (243, .if_icmp .eq 945, 0, 0, 0, 0), (246, .iconst 0, 0, 0, 0, 0), (247, .ireturn, 0, 0, 0, 0), (248, .aload_n 1, 0, 0, 0, 0), (249, .aload_n 0, 0, 0, 0, 0),
  (250, .iload_n 3, 0, 0, 0, 0), (251, .iconst 1, 0, 0, 0, 0), (252, .iadd, 0, 0, 0, 0), (253, .iaload, 0, 0, 0, 0), (254, .aload_n 0, 0, 0, 0, 0), (255, .iload_n 3, 0, 0, 0, 0),
  (256, .iconst 2, 0, 0, 0, 0), (257, .iadd, 0, 0, 0, 0), (258, .iaload, 0, 0, 0, 0), (259, .aload_n 0, 0, 0, 0, 0), (260, .iload_n 3, 0, 0, 0, 0), (261, .iconst 3, 0, 0, 0, 0),
  (262, .iadd, 0, 0, 0, 0), (263, .iaload, 0, 0, 0, 0), (264, .invokevirtual 31, 75, 4, 6, 1), (267, .aload_n 2, 0, 0, 0, 0), (268, .aload_n 0, 0, 0, 0, 0), (269, .iload_n 3, 0, 0, 0, 0),
  (270, .iconst 1, 0, 0, 0, 0), (271, .iadd, 0, 0, 0, 0), (272, .iaload, 0, 0, 0, 0), (273, .aload_n 0, 0, 0, 0, 0), (274, .iload_n 3, 0, 0, 0, 0), (275, .iconst 2, 0, 0, 0, 0),
  (276, .iadd, 0, 0, 0, 0), (277, .iaload, 0, 0, 0, 0), (278, .aload_n 0, 0, 0, 0, 0), (279, .iload_n 3, 0, 0, 0, 0), (280, .iconst 3, 0, 0, 0, 0), (281, .iadd, 0, 0, 0, 0),
  (282, .iaload, 0, 0, 0, 0), (283, .invokevirtual 35, 149, 4, 7, 1), (286, .if_icmp .eq 902, 0, 0, 0, 0), (289, .iconst 0, 0, 0, 0, 0), (290, .ireturn, 0, 0, 0, 0), (291, .aload_n 1, 0, 0, 0, 0),
  (292, .aload_n 0, 0, 0, 0, 0), (293, .iload_n 3, 0, 0, 0, 0), (294, .iconst 1, 0, 0, 0, 0), (295, .iadd, 0, 0, 0, 0), (296, .iaload, 0, 0, 0, 0), (297, .aload_n 0, 0, 0, 0, 0),
  (298, .iload_n 3, 0, 0, 0, 0), (299, .iconst 2, 0, 0, 0, 0), (300, .iadd, 0, 0, 0, 0), (301, .iaload, 0, 0, 0, 0), (302, .aload_n 0, 0, 0, 0, 0), (303, .iload_n 3, 0, 0, 0, 0),
  (304, .iconst 3, 0, 0, 0, 0), (305, .iadd, 0, 0, 0, 0), (306, .iaload, 0, 0, 0, 0), (307, .invokevirtual 36, 76, 4, 6, 1), (310, .aload_n 2, 0, 0, 0, 0), (311, .aload_n 0, 0, 0, 0, 0),
  (312, .iload_n 3, 0, 0, 0, 0), (313, .iconst 1, 0, 0, 0, 0), (314, .iadd, 0, 0, 0, 0), (315, .iaload, 0, 0, 0, 0), (316, .aload_n 0, 0, 0, 0, 0), (317, .iload_n 3, 0, 0, 0, 0),
  (318, .iconst 2, 0, 0, 0, 0), (319, .iadd, 0, 0, 0, 0), (320, .iaload, 0, 0, 0, 0), (321, .aload_n 0, 0, 0, 0, 0), (322, .iload_n 3, 0, 0, 0, 0), (323, .iconst 3, 0, 0, 0, 0),
  (324, .iadd, 0, 0, 0, 0), (325, .iaload, 0, 0, 0, 0), (326, .invokevirtual 39, 151, 4, 7, 1), (329, .if_icmp .eq 859, 0, 0, 0, 0), (332, .iconst 0, 0, 0, 0, 0), (333, .ireturn, 0, 0, 0, 0),
  (334, .aload_n 1, 0, 0, 0, 0), (335, .aload_n 0, 0, 0, 0, 0), (336, .iload_n 3, 0, 0, 0, 0), (337, .iconst 1, 0, 0, 0, 0), (338, .iadd, 0, 0, 0, 0), (339, .iaload, 0, 0, 0, 0),
  (340, .aload_n 0, 0, 0, 0, 0), (341, .iload_n 3, 0, 0, 0, 0), (342, .iconst 2, 0, 0, 0, 0), (343, .iadd, 0, 0, 0, 0), (344, .iaload, 0, 0, 0, 0), (345, .invokevirtual 40, 77, 3, 6, 1),
  (348, .aload_n 2, 0, 0, 0, 0), (349, .aload_n 0, 0, 0, 0, 0), (350, .iload_n 3, 0, 0, 0, 0), (351, .iconst 1, 0, 0, 0, 0), (352, .iadd, 0, 0, 0, 0), (353, .iaload, 0, 0, 0, 0),
  (354, .aload_n 0, 0, 0, 0, 0), (355, .iload_n 3, 0, 0, 0, 0), (356, .iconst 2, 0, 0, 0, 0), (357, .iadd, 0, 0, 0, 0), (358, .iaload, 0, 0, 0, 0), (359, .invokevirtual 44, 152, 3, 7, 1),
  (362, .if_icmp .eq 826, 0, 0, 0, 0), (365, .iconst 0, 0, 0, 0, 0), (366, .ireturn, 0, 0, 0, 0), (367, .aload_n 1, 0, 0, 0, 0), (368, .aload_n 0, 0, 0, 0, 0), (369, .iload_n 3, 0, 0, 0, 0),
  (370, .iconst 1, 0, 0, 0, 0), (371, .iadd, 0, 0, 0, 0), (372, .iaload, 0, 0, 0, 0), (373, .aload_n 0, 0, 0, 0, 0), (374, .iload_n 3, 0, 0, 0, 0), (375, .iconst 2, 0, 0, 0, 0),
  (376, .iadd, 0, 0, 0, 0), (377, .iaload, 0, 0, 0, 0), (378, .invokevirtual 45, 78, 3, 6, 1), (381, .aload_n 2, 0, 0, 0, 0), (382, .aload_n 0, 0, 0, 0, 0), (383, .iload_n 3, 0, 0, 0, 0),
  (384, .iconst 1, 0, 0, 0, 0), (385, .iadd, 0, 0, 0, 0), (386, .iaload, 0, 0, 0, 0), (387, .aload_n 0, 0, 0, 0, 0), (388, .iload_n 3, 0, 0, 0, 0), (389, .iconst 2, 0, 0, 0, 0),
  (390, .iadd, 0, 0, 0, 0), (391, .iaload, 0, 0, 0, 0), (392, .invokevirtual 48, 154, 3, 7, 1), (395, .if_icmp .eq 793, 0, 0, 0, 0), (398, .iconst 0, 0, 0, 0, 0), (399, .ireturn, 0, 0, 0, 0),
  (400, .aload_n 1, 0, 0, 0, 0), (401, .aload_n 0, 0, 0, 0, 0), (402, .iload_n 3, 0, 0, 0, 0), (403, .iconst 1, 0, 0, 0, 0), (404, .iadd, 0, 0, 0, 0), (405, .iaload, 0, 0, 0, 0),
  (406, .aload_n 0, 0, 0, 0, 0), (407, .iload_n 3, 0, 0, 0, 0), (408, .iconst 2, 0, 0, 0, 0), (409, .iadd, 0, 0, 0, 0), (410, .iaload, 0, 0, 0, 0), (411, .invokevirtual 49, 79, 3, 6, 1),
  (414, .aload_n 2, 0, 0, 0, 0), (415, .aload_n 0, 0, 0, 0, 0), (416, .iload_n 3, 0, 0, 0, 0), (417, .iconst 1, 0, 0, 0, 0), (418, .iadd, 0, 0, 0, 0), (419, .iaload, 0, 0, 0, 0),
  (420, .aload_n 0, 0, 0, 0, 0), (421, .iload_n 3, 0, 0, 0, 0), (422, .iconst 2, 0, 0, 0, 0), (423, .iadd, 0, 0, 0, 0), (424, .iaload, 0, 0, 0, 0), (425, .invokevirtual 52, 156, 3, 7, 1),
  (428, .if_icmp .eq 760, 0, 0, 0, 0), (431, .iconst 0, 0, 0, 0, 0), (432, .ireturn, 0, 0, 0, 0), (433, .aload_n 1, 0, 0, 0, 0), (434, .aload_n 0, 0, 0, 0, 0), (435, .iload_n 3, 0, 0, 0, 0),
  (436, .iconst 1, 0, 0, 0, 0), (437, .iadd, 0, 0, 0, 0), (438, .iaload, 0, 0, 0, 0), (439, .aload_n 0, 0, 0, 0, 0), (440, .iload_n 3, 0, 0, 0, 0), (441, .iconst 2, 0, 0, 0, 0),
  (442, .iadd, 0, 0, 0, 0), (443, .iaload, 0, 0, 0, 0), (444, .aload_n 0, 0, 0, 0, 0), (445, .iload_n 3, 0, 0, 0, 0), (446, .iconst 3, 0, 0, 0, 0), (447, .iadd, 0, 0, 0, 0),
  (448, .iaload, 0, 0, 0, 0), (449, .aload_n 0, 0, 0, 0, 0), (450, .iload_n 3, 0, 0, 0, 0), (451, .iconst 4, 0, 0, 0, 0), (452, .iadd, 0, 0, 0, 0), (453, .iaload, 0, 0, 0, 0),
  (454, .ifCond .eq 7, 0, 0, 0, 0), (457, .iconst 1, 0, 0, 0, 0), (458, .goto 4, 0, 0, 0, 0), (461, .iconst 0, 0, 0, 0, 0), (462, .invokevirtual 53, 80, 5, 6, 1), (465, .aload_n 2, 0, 0, 0, 0),
  (466, .aload_n 0, 0, 0, 0, 0), (467, .iload_n 3, 0, 0, 0, 0), (468, .iconst 1, 0, 0, 0, 0), (469, .iadd, 0, 0, 0, 0), (470, .iaload, 0, 0, 0, 0), (471, .aload_n 0, 0, 0, 0, 0),
  (472, .iload_n 3, 0, 0, 0, 0), (473, .iconst 2, 0, 0, 0, 0), (474, .iadd, 0, 0, 0, 0), (475, .iaload, 0, 0, 0, 0), (476, .aload_n 0, 0, 0, 0, 0), (477, .iload_n 3, 0, 0, 0, 0),
  (478, .iconst 3, 0, 0, 0, 0), (479, .iadd, 0, 0, 0, 0), (480, .iaload, 0, 0, 0, 0), (481, .aload_n 0, 0, 0, 0, 0), (482, .iload_n 3, 0, 0, 0, 0), (483, .iconst 4, 0, 0, 0, 0),
  (484, .iadd, 0, 0, 0, 0), (485, .iaload, 0, 0, 0, 0), (486, .ifCond .eq 7, 0, 0, 0, 0), (489, .iconst 1, 0, 0, 0, 0), (490, .goto 4, 0, 0, 0, 0), (493, .iconst 0, 0, 0, 0, 0),
  (494, .invokevirtual 57, 157, 5, 7, 1), (497, .if_icmp .eq 691, 0, 0, 0, 0), (500, .iconst 0, 0, 0, 0, 0), (501, .ireturn, 0, 0, 0, 0), (502, .aload_n 1, 0, 0, 0, 0), (503, .aload_n 0, 0, 0, 0, 0),
  (504, .iload_n 3, 0, 0, 0, 0), (505, .iconst 1, 0, 0, 0, 0), (506, .iadd, 0, 0, 0, 0), (507, .iaload, 0, 0, 0, 0), (508, .invokevirtual 58, 81, 2, 6, 1), (511, .aload_n 2, 0, 0, 0, 0),
  (512, .aload_n 0, 0, 0, 0, 0), (513, .iload_n 3, 0, 0, 0, 0), (514, .iconst 1, 0, 0, 0, 0), (515, .iadd, 0, 0, 0, 0), (516, .iaload, 0, 0, 0, 0), (517, .invokevirtual 61, 159, 2, 7, 1),
  (520, .if_icmp .eq 668, 0, 0, 0, 0), (523, .iconst 0, 0, 0, 0, 0), (524, .ireturn, 0, 0, 0, 0), (525, .aload_n 1, 0, 0, 0, 0), (526, .aload_n 0, 0, 0, 0, 0), (527, .iload_n 3, 0, 0, 0, 0),
  (528, .iconst 1, 0, 0, 0, 0), (529, .iadd, 0, 0, 0, 0), (530, .iaload, 0, 0, 0, 0), (531, .aload_n 0, 0, 0, 0, 0), (532, .iload_n 3, 0, 0, 0, 0), (533, .iconst 2, 0, 0, 0, 0),
  (534, .iadd, 0, 0, 0, 0), (535, .iaload, 0, 0, 0, 0), (536, .invokevirtual 62, 82, 3, 6, 1), (539, .aload_n 2, 0, 0, 0, 0), (540, .aload_n 0, 0, 0, 0, 0), (541, .iload_n 3, 0, 0, 0, 0),
  (542, .iconst 1, 0, 0, 0, 0), (543, .iadd, 0, 0, 0, 0), (544, .iaload, 0, 0, 0, 0), (545, .aload_n 0, 0, 0, 0, 0), (546, .iload_n 3, 0, 0, 0, 0), (547, .iconst 2, 0, 0, 0, 0),
  (548, .iadd, 0, 0, 0, 0), (549, .iaload, 0, 0, 0, 0), (550, .invokevirtual 65, 160, 3, 7, 1), (553, .if_icmp .eq 635, 0, 0, 0, 0), (556, .iconst 0, 0, 0, 0, 0), (557, .ireturn, 0, 0, 0, 0),
  (558, .aload_n 1, 0, 0, 0, 0), (559, .aload_n 0, 0, 0, 0, 0), (560, .iload_n 3, 0, 0, 0, 0), (561, .iconst 1, 0, 0, 0, 0), (562, .iadd, 0, 0, 0, 0), (563, .iaload, 0, 0, 0, 0),
  (564, .invokevirtual 66, 83, 2, 6, 1), (567, .aload_n 2, 0, 0, 0, 0), (568, .aload_n 0, 0, 0, 0, 0), (569, .iload_n 3, 0, 0, 0, 0), (570, .iconst 1, 0, 0, 0, 0), (571, .iadd, 0, 0, 0, 0),
  (572, .iaload, 0, 0, 0, 0), (573, .invokevirtual 69, 161, 2, 7, 1), (576, .if_icmp .eq 612, 0, 0, 0, 0), (579, .iconst 0, 0, 0, 0, 0), (580, .ireturn, 0, 0, 0, 0), (581, .aload_n 1, 0, 0, 0, 0),
  (582, .aload_n 0, 0, 0, 0, 0), (583, .iload_n 3, 0, 0, 0, 0), (584, .iconst 1, 0, 0, 0, 0), (585, .iadd, 0, 0, 0, 0), (586, .iaload, 0, 0, 0, 0), (587, .invokevirtual 70, 84, 2, 6, 1),
  (590, .aload_n 2, 0, 0, 0, 0), (591, .aload_n 0, 0, 0, 0, 0), (592, .iload_n 3, 0, 0, 0, 0), (593, .iconst 1, 0, 0, 0, 0), (594, .iadd, 0, 0, 0, 0), (595, .iaload, 0, 0, 0, 0),
  (596, .invokevirtual 73, 162, 2, 7, 1), (599, .if_icmp .eq 589, 0, 0, 0, 0), (602, .iconst 0, 0, 0, 0, 0), (603, .ireturn, 0, 0, 0, 0), (604, .aload_n 1, 0, 0, 0, 0), (605, .aload_n 0, 0, 0, 0, 0),
  (606, .iload_n 3, 0, 0, 0, 0), (607, .iconst 1, 0, 0, 0, 0), (608, .iadd, 0, 0, 0, 0), (609, .iaload, 0, 0, 0, 0), (610, .invokevirtual 74, 85, 2, 6, 1), (613, .aload_n 2, 0, 0, 0, 0),
  (614, .aload_n 0, 0, 0, 0, 0), (615, .iload_n 3, 0, 0, 0, 0), (616, .iconst 1, 0, 0, 0, 0), (617, .iadd, 0, 0, 0, 0), (618, .iaload, 0, 0, 0, 0), (619, .invokevirtual 77, 175, 2, 7, 1),
  (622, .if_icmp .eq 566, 0, 0, 0, 0), (625, .iconst 0, 0, 0, 0, 0), (626, .ireturn, 0, 0, 0, 0), (627, .aload_n 1, 0, 0, 0, 0), (628, .aload_n 0, 0, 0, 0, 0), (629, .iload_n 3, 0, 0, 0, 0),
  (630, .iconst 1, 0, 0, 0, 0), (631, .iadd, 0, 0, 0, 0), (632, .iaload, 0, 0, 0, 0), (633, .invokevirtual 78, 86, 2, 6, 1), (636, .aload_n 2, 0, 0, 0, 0), (637, .aload_n 0, 0, 0, 0, 0),
  (638, .iload_n 3, 0, 0, 0, 0), (639, .iconst 1, 0, 0, 0, 0), (640, .iadd, 0, 0, 0, 0), (641, .iaload, 0, 0, 0, 0), (642, .invokevirtual 81, 178, 2, 7, 1), (645, .if_icmp .eq 543, 0, 0, 0, 0),
  (648, .iconst 0, 0, 0, 0, 0), (649, .ireturn, 0, 0, 0, 0), (650, .aload_n 1, 0, 0, 0, 0), (651, .aload_n 0, 0, 0, 0, 0), (652, .iload_n 3, 0, 0, 0, 0), (653, .iconst 1, 0, 0, 0, 0),
  (654, .iadd, 0, 0, 0, 0), (655, .iaload, 0, 0, 0, 0), (656, .aload_n 0, 0, 0, 0, 0), (657, .iload_n 3, 0, 0, 0, 0), (658, .iconst 2, 0, 0, 0, 0), (659, .iadd, 0, 0, 0, 0),
  (660, .iaload, 0, 0, 0, 0), (661, .aload_n 0, 0, 0, 0, 0), (662, .iload_n 3, 0, 0, 0, 0), (663, .iconst 3, 0, 0, 0, 0), (664, .iadd, 0, 0, 0, 0), (665, .iaload, 0, 0, 0, 0),
  (666, .aload_n 0, 0, 0, 0, 0), (667, .iload_n 3, 0, 0, 0, 0), (668, .iconst 4, 0, 0, 0, 0), (669, .iadd, 0, 0, 0, 0), (670, .iaload, 0, 0, 0, 0), (671, .invokevirtual 82, 87, 5, 6, 1),
  (674, .aload_n 2, 0, 0, 0, 0), (675, .aload_n 0, 0, 0, 0, 0), (676, .iload_n 3, 0, 0, 0, 0), (677, .iconst 1, 0, 0, 0, 0), (678, .iadd, 0, 0, 0, 0), (679, .iaload, 0, 0, 0, 0),
  (680, .aload_n 0, 0, 0, 0, 0), (681, .iload_n 3, 0, 0, 0, 0), (682, .iconst 2, 0, 0, 0, 0), (683, .iadd, 0, 0, 0, 0), (684, .iaload, 0, 0, 0, 0), (685, .aload_n 0, 0, 0, 0, 0),
  (686, .iload_n 3, 0, 0, 0, 0), (687, .iconst 3, 0, 0, 0, 0), (688, .iadd, 0, 0, 0, 0), (689, .iaload, 0, 0, 0, 0), (690, .aload_n 0, 0, 0, 0, 0), (691, .iload_n 3, 0, 0, 0, 0),
  (692, .iconst 4, 0, 0, 0, 0), (693, .iadd, 0, 0, 0, 0), (694, .iaload, 0, 0, 0, 0), (695, .invokevirtual 86, 181, 5, 7, 1), (698, .if_icmp .eq 490, 0, 0, 0, 0), (701, .iconst 0, 0, 0, 0, 0),
  (702, .ireturn, 0, 0, 0, 0), (703, .aload_n 1, 0, 0, 0, 0), (704, .aload_n 0, 0, 0, 0, 0), (705, .iload_n 3, 0, 0, 0, 0), (706, .iconst 1, 0, 0, 0, 0), (707, .iadd, 0, 0, 0, 0),
  (708, .iaload, 0, 0, 0, 0), (709, .aload_n 0, 0, 0, 0, 0), (710, .iload_n 3, 0, 0, 0, 0), (711, .iconst 2, 0, 0, 0, 0), (712, .iadd, 0, 0, 0, 0), (713, .iaload, 0, 0, 0, 0),
  (714, .aload_n 0, 0, 0, 0, 0), (715, .iload_n 3, 0, 0, 0, 0), (716, .iconst 3, 0, 0, 0, 0), (717, .iadd, 0, 0, 0, 0), (718, .iaload, 0, 0, 0, 0), (719, .invokevirtual 87, 88, 4, 6, 1),
  (722, .aload_n 2, 0, 0, 0, 0), (723, .aload_n 0, 0, 0, 0, 0), (724, .iload_n 3, 0, 0, 0, 0), (725, .iconst 1, 0, 0, 0, 0), (726, .iadd, 0, 0, 0, 0), (727, .iaload, 0, 0, 0, 0),
  (728, .aload_n 0, 0, 0, 0, 0), (729, .iload_n 3, 0, 0, 0, 0), (730, .iconst 2, 0, 0, 0, 0), (731, .iadd, 0, 0, 0, 0), (732, .iaload, 0, 0, 0, 0), (733, .aload_n 0, 0, 0, 0, 0),
  (734, .iload_n 3, 0, 0, 0, 0), (735, .iconst 3, 0, 0, 0, 0), (736, .iadd, 0, 0, 0, 0), (737, .iaload, 0, 0, 0, 0), (738, .invokevirtual 90, 184, 4, 7, 1), (741, .if_icmp .eq 447, 0, 0, 0, 0),
  (744, .iconst 0, 0, 0, 0, 0), (745, .ireturn, 0, 0, 0, 0), (746, .aload_n 1, 0, 0, 0, 0), (747, .aload_n 0, 0, 0, 0, 0), (748, .iload_n 3, 0, 0, 0, 0), (749, .iconst 1, 0, 0, 0, 0),
  (750, .iadd, 0, 0, 0, 0), (751, .iaload, 0, 0, 0, 0), (752, .aload_n 0, 0, 0, 0, 0), (753, .iload_n 3, 0, 0, 0, 0), (754, .iconst 2, 0, 0, 0, 0), (755, .iadd, 0, 0, 0, 0),
  (756, .iaload, 0, 0, 0, 0), (757, .aload_n 0, 0, 0, 0, 0), (758, .iload_n 3, 0, 0, 0, 0), (759, .iconst 3, 0, 0, 0, 0), (760, .iadd, 0, 0, 0, 0), (761, .iaload, 0, 0, 0, 0),
  (762, .invokevirtual 91, 89, 4, 6, 1), (765, .aload_n 2, 0, 0, 0, 0), (766, .aload_n 0, 0, 0, 0, 0), (767, .iload_n 3, 0, 0, 0, 0), (768, .iconst 1, 0, 0, 0, 0), (769, .iadd, 0, 0, 0, 0),
  (770, .iaload, 0, 0, 0, 0), (771, .aload_n 0, 0, 0, 0, 0), (772, .iload_n 3, 0, 0, 0, 0), (773, .iconst 2, 0, 0, 0, 0), (774, .iadd, 0, 0, 0, 0), (775, .iaload, 0, 0, 0, 0),
  (776, .aload_n 0, 0, 0, 0, 0), (777, .iload_n 3, 0, 0, 0, 0), (778, .iconst 3, 0, 0, 0, 0), (779, .iadd, 0, 0, 0, 0), (780, .iaload, 0, 0, 0, 0), (781, .invokevirtual 94, 186, 4, 7, 1),
  (784, .if_icmp .eq 404, 0, 0, 0, 0), (787, .iconst 0, 0, 0, 0, 0), (788, .ireturn, 0, 0, 0, 0), (789, .aload_n 1, 0, 0, 0, 0), (790, .aload_n 0, 0, 0, 0, 0), (791, .iload_n 3, 0, 0, 0, 0),
  (792, .iconst 1, 0, 0, 0, 0), (793, .iadd, 0, 0, 0, 0), (794, .iaload, 0, 0, 0, 0), (795, .aload_n 0, 0, 0, 0, 0), (796, .iload_n 3, 0, 0, 0, 0), (797, .iconst 2, 0, 0, 0, 0),
  (798, .iadd, 0, 0, 0, 0), (799, .iaload, 0, 0, 0, 0), (800, .aload_n 0, 0, 0, 0, 0), (801, .iload_n 3, 0, 0, 0, 0), (802, .iconst 3, 0, 0, 0, 0), (803, .iadd, 0, 0, 0, 0),
  (804, .iaload, 0, 0, 0, 0), (805, .invokevirtual 95, 90, 4, 6, 1), (808, .aload_n 2, 0, 0, 0, 0), (809, .aload_n 0, 0, 0, 0, 0), (810, .iload_n 3, 0, 0, 0, 0), (811, .iconst 1, 0, 0, 0, 0),
  (812, .iadd, 0, 0, 0, 0), (813, .iaload, 0, 0, 0, 0), (814, .aload_n 0, 0, 0, 0, 0), (815, .iload_n 3, 0, 0, 0, 0), (816, .iconst 2, 0, 0, 0, 0), (817, .iadd, 0, 0, 0, 0),
  (818, .iaload, 0, 0, 0, 0), (819, .aload_n 0, 0, 0, 0, 0), (820, .iload_n 3, 0, 0, 0, 0), (821, .iconst 3, 0, 0, 0, 0), (822, .iadd, 0, 0, 0, 0), (823, .iaload, 0, 0, 0, 0),
  (824, .invokevirtual 98, 188, 4, 7, 1), (827, .if_icmp .eq 361, 0, 0, 0, 0), (830, .iconst 0, 0, 0, 0, 0), (831, .ireturn, 0, 0, 0, 0), (832, .aload_n 1, 0, 0, 0, 0), (833, .aload_n 0, 0, 0, 0, 0),
  (834, .iload_n 3, 0, 0, 0, 0), (835, .iconst 1, 0, 0, 0, 0), (836, .iadd, 0, 0, 0, 0), (837, .iaload, 0, 0, 0, 0), (838, .aload_n 0, 0, 0, 0, 0), (839, .iload_n 3, 0, 0, 0, 0),
  (840, .iconst 2, 0, 0, 0, 0), (841, .iadd, 0, 0, 0, 0), (842, .iaload, 0, 0, 0, 0), (843, .aload_n 0, 0, 0, 0, 0), (844, .iload_n 3, 0, 0, 0, 0), (845, .iconst 3, 0, 0, 0, 0),
  (846, .iadd, 0, 0, 0, 0), (847, .iaload, 0, 0, 0, 0), (848, .aload_n 0, 0, 0, 0, 0), (849, .iload_n 3, 0, 0, 0, 0), (850, .iconst 4, 0, 0, 0, 0), (851, .iadd, 0, 0, 0, 0),
  (852, .iaload, 0, 0, 0, 0), (853, .aload_n 0, 0, 0, 0, 0), (854, .iload_n 3, 0, 0, 0, 0), (855, .iconst 5, 0, 0, 0, 0), (856, .iadd, 0, 0, 0, 0), (857, .iaload, 0, 0, 0, 0),
  (858, .invokevirtual 99, 91, 6, 6, 1), (861, .aload_n 2, 0, 0, 0, 0), (862, .aload_n 0, 0, 0, 0, 0), (863, .iload_n 3, 0, 0, 0, 0), (864, .iconst 1, 0, 0, 0, 0), (865, .iadd, 0, 0, 0, 0),
  (866, .iaload, 0, 0, 0, 0), (867, .aload_n 0, 0, 0, 0, 0), (868, .iload_n 3, 0, 0, 0, 0), (869, .iconst 2, 0, 0, 0, 0), (870, .iadd, 0, 0, 0, 0), (871, .iaload, 0, 0, 0, 0),
  (872, .aload_n 0, 0, 0, 0, 0), (873, .iload_n 3, 0, 0, 0, 0), (874, .iconst 3, 0, 0, 0, 0), (875, .iadd, 0, 0, 0, 0), (876, .iaload, 0, 0, 0, 0), (877, .aload_n 0, 0, 0, 0, 0),
  (878, .iload_n 3, 0, 0, 0, 0), (879, .iconst 4, 0, 0, 0, 0), (880, .iadd, 0, 0, 0, 0), (881, .iaload, 0, 0, 0, 0), (882, .aload_n 0, 0, 0, 0, 0), (883, .iload_n 3, 0, 0, 0, 0),
  (884, .iconst 5, 0, 0, 0, 0), (885, .iadd, 0, 0, 0, 0), (886, .iaload, 0, 0, 0, 0), (887, .invokevirtual 103, 189, 6, 7, 1), (890, .if_icmp .eq 298, 0, 0, 0, 0), (893, .iconst 0, 0, 0, 0, 0),
  (894, .ireturn, 0, 0, 0, 0), (895, .aload_n 1, 0, 0, 0, 0), (896, .aload_n 0, 0, 0, 0, 0), (897, .iload_n 3, 0, 0, 0, 0), (898, .iconst 1, 0, 0, 0, 0), (899, .iadd, 0, 0, 0, 0),
  (900, .iaload, 0, 0, 0, 0), (901, .invokevirtual 104, 92, 2, 6, 1), (904, .aload_n 2, 0, 0, 0, 0), (905, .aload_n 0, 0, 0, 0, 0), (906, .iload_n 3, 0, 0, 0, 0), (907, .iconst 1, 0, 0, 0, 0),
  (908, .iadd, 0, 0, 0, 0), (909, .iaload, 0, 0, 0, 0), (910, .invokevirtual 107, 193, 2, 7, 1), (913, .if_icmp .eq 275, 0, 0, 0, 0), (916, .iconst 0, 0, 0, 0, 0), (917, .ireturn, 0, 0, 0, 0),
  (918, .aload_n 1, 0, 0, 0, 0), (919, .aload_n 0, 0, 0, 0, 0), (920, .iload_n 3, 0, 0, 0, 0), (921, .iconst 1, 0, 0, 0, 0), (922, .iadd, 0, 0, 0, 0), (923, .iaload, 0, 0, 0, 0),
  (924, .aload_n 0, 0, 0, 0, 0), (925, .iload_n 3, 0, 0, 0, 0), (926, .iconst 2, 0, 0, 0, 0), (927, .iadd, 0, 0, 0, 0), (928, .iaload, 0, 0, 0, 0), (929, .aload_n 0, 0, 0, 0, 0),
  (930, .iload_n 3, 0, 0, 0, 0), (931, .iconst 3, 0, 0, 0, 0), (932, .iadd, 0, 0, 0, 0), (933, .iaload, 0, 0, 0, 0), (934, .invokevirtual 108, 93, 4, 6, 1), (937, .aload_n 2, 0, 0, 0, 0),
  (938, .aload_n 0, 0, 0, 0, 0), (939, .iload_n 3, 0, 0, 0, 0), (940, .iconst 1, 0, 0, 0, 0), (941, .iadd, 0, 0, 0, 0), (942, .iaload, 0, 0, 0, 0), (943, .aload_n 0, 0, 0, 0, 0),
  (944, .iload_n 3, 0, 0, 0, 0), (945, .iconst 2, 0, 0, 0, 0), (946, .iadd, 0, 0, 0, 0), (947, .iaload, 0, 0, 0, 0), (948, .aload_n 0, 0, 0, 0, 0), (949, .iload_n 3, 0, 0, 0, 0),
  (950, .iconst 3, 0, 0, 0, 0), (951, .iadd, 0, 0, 0, 0), (952, .iaload, 0, 0, 0, 0), (953, .invokevirtual 111, 194, 4, 7, 1), (956, .if_icmp .eq 232, 0, 0, 0, 0), (959, .iconst 0, 0, 0, 0, 0),
  (960, .ireturn, 0, 0, 0, 0), (961, .aload_n 1, 0, 0, 0, 0), (962, .invokevirtual 112, 94, 1, 6, 1), (965, .aload_n 2, 0, 0, 0, 0), (966, .invokevirtual 115, 195, 1, 7, 1), (969, .if_icmp .eq 219, 0, 0, 0, 0),
  (972, .iconst 0, 0, 0, 0, 0), (973, .ireturn, 0, 0, 0, 0), (974, .aload_n 1, 0, 0, 0, 0), (975, .aload_n 0, 0, 0, 0, 0), (976, .iload_n 3, 0, 0, 0, 0), (977, .iconst 1, 0, 0, 0, 0),
  (978, .iadd, 0, 0, 0, 0), (979, .iaload, 0, 0, 0, 0), (980, .aload_n 0, 0, 0, 0, 0), (981, .iload_n 3, 0, 0, 0, 0), (982, .iconst 2, 0, 0, 0, 0), (983, .iadd, 0, 0, 0, 0),
  (984, .iaload, 0, 0, 0, 0), (985, .invokevirtual 116, 95, 3, 6, 1), (988, .aload_n 2, 0, 0, 0, 0), (989, .aload_n 0, 0, 0, 0, 0), (990, .iload_n 3, 0, 0, 0, 0), (991, .iconst 1, 0, 0, 0, 0),
  (992, .iadd, 0, 0, 0, 0), (993, .iaload, 0, 0, 0, 0), (994, .aload_n 0, 0, 0, 0, 0), (995, .iload_n 3, 0, 0, 0, 0), (996, .iconst 2, 0, 0, 0, 0), (997, .iadd, 0, 0, 0, 0),
  (998, .iaload, 0, 0, 0, 0), (999, .invokevirtual 119, 198, 3, 7, 1), (1002, .if_icmp .eq 186, 0, 0, 0, 0), (1005, .iconst 0, 0, 0, 0, 0), (1006, .ireturn, 0, 0, 0, 0), (1007, .aload_n 1, 0, 0, 0, 0),
  (1008, .aload_n 0, 0, 0, 0, 0), (1009, .iload_n 3, 0, 0, 0, 0), (1010, .iconst 1, 0, 0, 0, 0), (1011, .iadd, 0, 0, 0, 0), (1012, .iaload, 0, 0, 0, 0), (1013, .invokevirtual 120, 96, 2, 6, 1),
  (1016, .aload_n 2, 0, 0, 0, 0), (1017, .aload_n 0, 0, 0, 0, 0), (1018, .iload_n 3, 0, 0, 0, 0), (1019, .iconst 1, 0, 0, 0, 0), (1020, .iadd, 0, 0, 0, 0), (1021, .iaload, 0, 0, 0, 0),
  (1022, .invokevirtual 123, 199, 2, 7, 1), (1025, .if_icmp .eq 163, 0, 0, 0, 0), (1028, .iconst 0, 0, 0, 0, 0), (1029, .ireturn, 0, 0, 0, 0), (1030, .aload_n 1, 0, 0, 0, 0), (1031, .aload_n 0, 0, 0, 0, 0),
  (1032, .iload_n 3, 0, 0, 0, 0), (1033, .iconst 1, 0, 0, 0, 0), (1034, .iadd, 0, 0, 0, 0), (1035, .iaload, 0, 0, 0, 0), (1036, .aload_n 0, 0, 0, 0, 0), (1037, .iload_n 3, 0, 0, 0, 0),
  (1038, .iconst 2, 0, 0, 0, 0), (1039, .iadd, 0, 0, 0, 0), (1040, .iaload, 0, 0, 0, 0), (1041, .aload_n 0, 0, 0, 0, 0), (1042, .iload_n 3, 0, 0, 0, 0), (1043, .iconst 3, 0, 0, 0, 0),
  (1044, .iadd, 0, 0, 0, 0), (1045, .iaload, 0, 0, 0, 0), (1046, .invokevirtual 124, 97, 4, 6, 1), (1049, .aload_n 2, 0, 0, 0, 0), (1050, .aload_n 0, 0, 0, 0, 0), (1051, .iload_n 3, 0, 0, 0, 0),
  (1052, .iconst 1, 0, 0, 0, 0), (1053, .iadd, 0, 0, 0, 0), (1054, .iaload, 0, 0, 0, 0), (1055, .aload_n 0, 0, 0, 0, 0), (1056, .iload_n 3, 0, 0, 0, 0), (1057, .iconst 2, 0, 0, 0, 0),
  (1058, .iadd, 0, 0, 0, 0), (1059, .iaload, 0, 0, 0, 0), (1060, .aload_n 0, 0, 0, 0, 0), (1061, .iload_n 3, 0, 0, 0, 0), (1062, .iconst 3, 0, 0, 0, 0), (1063, .iadd, 0, 0, 0, 0),
  (1064, .iaload, 0, 0, 0, 0), (1065, .invokevirtual 127, 200, 4, 7, 1), (1068, .if_icmp .eq 120, 0, 0, 0, 0), (1071, .iconst 0, 0, 0, 0, 0), (1072, .ireturn, 0, 0, 0, 0), (1073, .aload_n 1, 0, 0, 0, 0),
  (1074, .aload_n 0, 0, 0, 0, 0), (1075, .iload_n 3, 0, 0, 0, 0), (1076, .iconst 1, 0, 0, 0, 0), (1077, .iadd, 0, 0, 0, 0), (1078, .iaload, 0, 0, 0, 0), (1079, .aload_n 0, 0, 0, 0, 0),
  (1080, .iload_n 3, 0, 0, 0, 0), (1081, .iconst 2, 0, 0, 0, 0), (1082, .iadd, 0, 0, 0, 0), (1083, .iaload, 0, 0, 0, 0), (1084, .invokevirtual 128, 98, 3, 6, 1), (1087, .aload_n 2, 0, 0, 0, 0),
  (1088, .aload_n 0, 0, 0, 0, 0), (1089, .iload_n 3, 0, 0, 0, 0), (1090, .iconst 1, 0, 0, 0, 0), (1091, .iadd, 0, 0, 0, 0), (1092, .iaload, 0, 0, 0, 0), (1093, .aload_n 0, 0, 0, 0, 0),
  (1094, .iload_n 3, 0, 0, 0, 0), (1095, .iconst 2, 0, 0, 0, 0), (1096, .iadd, 0, 0, 0, 0), (1097, .iaload, 0, 0, 0, 0), (1098, .invokevirtual 131, 202, 3, 7, 1), (1101, .if_icmp .eq 87, 0, 0, 0, 0),
  (1104, .iconst 0, 0, 0, 0, 0), (1105, .ireturn, 0, 0, 0, 0), (1106, .aload_n 1, 0, 0, 0, 0), (1107, .invokevirtual 132, 99, 1, 6, 1), (1110, .aload_n 2, 0, 0, 0, 0), (1111, .invokevirtual 135, 203, 1, 7, 1),
  (1114, .if_icmp .eq 74, 0, 0, 0, 0), (1117, .iconst 0, 0, 0, 0, 0), (1118, .ireturn, 0, 0, 0, 0), (1119, .aload_n 1, 0, 0, 0, 0), (1120, .aload_n 0, 0, 0, 0, 0), (1121, .iload_n 3, 0, 0, 0, 0),
  (1122, .iconst 1, 0, 0, 0, 0), (1123, .iadd, 0, 0, 0, 0), (1124, .iaload, 0, 0, 0, 0), (1125, .invokevirtual 136, 100, 2, 6, 1), (1128, .aload_n 2, 0, 0, 0, 0), (1129, .aload_n 0, 0, 0, 0, 0),
  (1130, .iload_n 3, 0, 0, 0, 0), (1131, .iconst 1, 0, 0, 0, 0), (1132, .iadd, 0, 0, 0, 0), (1133, .iaload, 0, 0, 0, 0), (1134, .invokevirtual 139, 204, 2, 7, 1), (1137, .if_icmp .eq 51, 0, 0, 0, 0),
  (1140, .iconst 0, 0, 0, 0, 0), (1141, .ireturn, 0, 0, 0, 0), (1142, .aload_n 1, 0, 0, 0, 0), (1143, .aload_n 0, 0, 0, 0, 0), (1144, .iload_n 3, 0, 0, 0, 0), (1145, .iconst 1, 0, 0, 0, 0),
  (1146, .iadd, 0, 0, 0, 0), (1147, .iaload, 0, 0, 0, 0), (1148, .invokevirtual 140, 101, 2, 6, 1), (1151, .aload_n 2, 0, 0, 0, 0), (1152, .aload_n 0, 0, 0, 0, 0), (1153, .iload_n 3, 0, 0, 0, 0),
  (1154, .iconst 1, 0, 0, 0, 0), (1155, .iadd, 0, 0, 0, 0), (1156, .iaload, 0, 0, 0, 0), (1157, .invokevirtual 143, 205, 2, 7, 1), (1160, .if_icmp .eq 28, 0, 0, 0, 0), (1163, .iconst 0, 0, 0, 0, 0),
  (1164, .ireturn, 0, 0, 0, 0), (1165, .aload_n 1, 0, 0, 0, 0), (1166, .aload_n 0, 0, 0, 0, 0), (1167, .iload_n 3, 0, 0, 0, 0), (1168, .iconst 1, 0, 0, 0, 0), (1169, .iadd, 0, 0, 0, 0),
  (1170, .iaload, 0, 0, 0, 0), (1171, .invokevirtual 144, 102, 2, 6, 1), (1174, .aload_n 2, 0, 0, 0, 0), (1175, .aload_n 0, 0, 0, 0, 0), (1176, .iload_n 3, 0, 0, 0, 0), (1177, .iconst 1, 0, 0, 0, 0),
  (1178, .iadd, 0, 0, 0, 0), (1179, .iaload, 0, 0, 0, 0), (1180, .invokevirtual 147, 206, 2, 7, 1), (1183, .if_icmp .eq 5, 0, 0, 0, 0), (1186, .iconst 0, 0, 0, 0, 0), (1187, .ireturn, 0, 0, 0, 0),
  (1188, .iinc 3 6, 0, 0, 0, 0), (1191, .goto (-1173), 0, 0, 0, 0), (1194, .iconst 1, 0, 0, 0, 0), (1195, .ireturn, 0, 0, 0, 0)]
def tLw_law : xTb := ((⟨"FirstFeltLaw", "law", "([I)Z"⟩, code, 4, (some .boolean)), (0, 0), "FirstFeltLaw", true, iLw_law)
def xMks : List (Nat × Nat × Nat) := [(0, 1, 6), (6, 3, 36), (7, 3, 24), (12, 1, 260), (29, 12, 138), (61, 7, 148), (58, 81, 952), (70, 190, 2565), (117, 25, 1092)]
def xMT : List xTb := [tMk_init, tMk_settle, tMk_askAnew, tMk_bestRent, tMk_countLet, tMk_isUndercut, tPp_init, tPp_init8, tPp_write, tPp_latest, tPp_notFeltAt, tPp_ownedAt, tRd_init, tRd_take, tRd_read, tRd_readClause, tRd_startClause, tRd_readTown, tRd_readWall, tRd_readStove, tRd_hasStove, tRd_readRoof, tRd_readSun, tRd_readPerson, tRd_readCell, tRd_readNumber, tRd_endClause, tRd_skipBlanks, tRd_fail, tSt_init, tSt_clear, tSt_copyFrom, tSt_setWall, tSt_wallOf, tSt_countWalls, tSt_reach, tSt_peopleOn, tSt_countOwned, tSt_canBeLit, tSt_feels, tSt_draw, tSt_passMinutes, tSt_passMinute, tSt_flow, tSt_flowBetween, tSt_addWarmth, tSt_coolDown, tSt_feel, tSt_takeCells, tSt_coldestFeeling, tSt_keepLaw, tSt_endOwning, tSt_makePartners, tSt_isDear, tSt_oweForWarmth, tSt_warmSkins, tSt_leaveDearCells, tSt_refuge, tTo_init, tTo_begin, tTo_finish, tTw_init, tTw_clear, tTw_setSize, tTw_cells, tTw_cellAt, tTw_cellOfPair, tTw_pairOf, tTw_beside, tTw_sunAt, tFf_init, tFf_feed, tFf_town, tFf_fault, tFf_told, tFf_cell, tFf_wall, tFf_stove, tFf_person, tFf_go, tFf_build, tFf_light, tFf_stoke, tFf_law, tFf_last, tFf_minute, tFf_drift, tFf_then, tFf_stands, tFf_lightFor, tFf_keptOut, tFf_gain, tFf_rents, tFf_claim, tFf_forged, tFf_cold, tFf_mildest, tFf_deed, tFf_wasLit, tFf_tear, tFf_seed, tFf_keep, tFf_goBack, tFf_isPerson, tFf_isStove, tFf_isLaw, tFf_isSpan, tFf_refusalOfWall, tFf_refusalOfMinutes, tFf_refusalOfLighting, tFf_wayOfWall, tFf_wander, tFf_ownsStove, tFf_ownedWithWall, tFf_countFreezing, tFf_fitsLitNow, tFf_tryWays, tMo_init, tMo_in, tMo_emptyNow, tMo_cells, tMo_isCell, tMo_isPerson, tMo_isStove, tMo_named, tMo_cellOf, tMo_feed, tMo_isFigure, tMo_look, tMo_goOn, tMo_faults, tMo_takes, tMo_stops, tMo_takesX, tMo_seesY, tMo_readsTown, tMo_readsWall, tMo_readsStove, tMo_readsRoof, tMo_readsSun, tMo_readsPerson, tMo_readsClause, tMo_readsAll, tMo_town, tMo_fault, tMo_wallsNow, tMo_sunAt, tMo_told, tMo_onCell, tMo_cell, tMo_notWall, tMo_wall, tMo_stove, tMo_owns, tMo_person, tMo_way, tMo_go, tMo_build, tMo_canBeLit, tMo_light, tMo_stoke, tMo_law, tMo_last, tMo_flows, tMo_goHeat, tMo_feel, tMo_feelsOn, tMo_own, tMo_goLaw, tMo_arePartners, tMo_isOwedFor, tMo_owe, tMo_goMinute, tMo_goMinutes, tMo_notMinutes, tMo_minute, tMo_draw, tMo_driftOne, tMo_drift, tMo_start, tMo_back, tMo_then, tMo_power, tMo_ownsBy, tMo_stands, tMo_notStove, tMo_lightFor, tMo_ownsWithout, tMo_keptOut, tMo_gain, tMo_isLet, tMo_brings, tMo_bestRent, tMo_rents, tMo_claim, tMo_forged, tMo_leaveWarm, tMo_coldBy, tMo_cold, tMo_mildest, tMo_deed, tMo_areDeeds, tMo_wasLit, tMo_tear, tMo_seed, tMo_keep, tMo_goBack, tJd_bitCount, tJd_fill]
abbrev nMk_init : Nat := 0
abbrev nMk_settle : Nat := 1
abbrev nMk_askAnew : Nat := 2
abbrev nMk_bestRent : Nat := 3
abbrev nMk_countLet : Nat := 4
abbrev nMk_isUndercut : Nat := 5
abbrev nPp_init : Nat := 6
abbrev nPp_init8 : Nat := 7
abbrev nPp_write : Nat := 8
abbrev nPp_latest : Nat := 9
abbrev nPp_notFeltAt : Nat := 10
abbrev nPp_ownedAt : Nat := 11
abbrev nRd_init : Nat := 12
abbrev nRd_take : Nat := 13
abbrev nRd_read : Nat := 14
abbrev nRd_readClause : Nat := 15
abbrev nRd_startClause : Nat := 16
abbrev nRd_readTown : Nat := 17
abbrev nRd_readWall : Nat := 18
abbrev nRd_readStove : Nat := 19
abbrev nRd_hasStove : Nat := 20
abbrev nRd_readRoof : Nat := 21
abbrev nRd_readSun : Nat := 22
abbrev nRd_readPerson : Nat := 23
abbrev nRd_readCell : Nat := 24
abbrev nRd_readNumber : Nat := 25
abbrev nRd_endClause : Nat := 26
abbrev nRd_skipBlanks : Nat := 27
abbrev nRd_fail : Nat := 28
abbrev nSt_init : Nat := 29
abbrev nSt_clear : Nat := 30
abbrev nSt_copyFrom : Nat := 31
abbrev nSt_setWall : Nat := 32
abbrev nSt_wallOf : Nat := 33
abbrev nSt_countWalls : Nat := 34
abbrev nSt_reach : Nat := 35
abbrev nSt_peopleOn : Nat := 36
abbrev nSt_countOwned : Nat := 37
abbrev nSt_canBeLit : Nat := 38
abbrev nSt_feels : Nat := 39
abbrev nSt_draw : Nat := 40
abbrev nSt_passMinutes : Nat := 41
abbrev nSt_passMinute : Nat := 42
abbrev nSt_flow : Nat := 43
abbrev nSt_flowBetween : Nat := 44
abbrev nSt_addWarmth : Nat := 45
abbrev nSt_coolDown : Nat := 46
abbrev nSt_feel : Nat := 47
abbrev nSt_takeCells : Nat := 48
abbrev nSt_coldestFeeling : Nat := 49
abbrev nSt_keepLaw : Nat := 50
abbrev nSt_endOwning : Nat := 51
abbrev nSt_makePartners : Nat := 52
abbrev nSt_isDear : Nat := 53
abbrev nSt_oweForWarmth : Nat := 54
abbrev nSt_warmSkins : Nat := 55
abbrev nSt_leaveDearCells : Nat := 56
abbrev nSt_refuge : Nat := 57
abbrev nTo_init : Nat := 58
abbrev nTo_begin : Nat := 59
abbrev nTo_finish : Nat := 60
abbrev nTw_init : Nat := 61
abbrev nTw_clear : Nat := 62
abbrev nTw_setSize : Nat := 63
abbrev nTw_cells : Nat := 64
abbrev nTw_cellAt : Nat := 65
abbrev nTw_cellOfPair : Nat := 66
abbrev nTw_pairOf : Nat := 67
abbrev nTw_beside : Nat := 68
abbrev nTw_sunAt : Nat := 69
abbrev nFf_init : Nat := 70
abbrev nFf_feed : Nat := 71
abbrev nFf_town : Nat := 72
abbrev nFf_fault : Nat := 73
abbrev nFf_told : Nat := 74
abbrev nFf_cell : Nat := 75
abbrev nFf_wall : Nat := 76
abbrev nFf_stove : Nat := 77
abbrev nFf_person : Nat := 78
abbrev nFf_go : Nat := 79
abbrev nFf_build : Nat := 80
abbrev nFf_light : Nat := 81
abbrev nFf_stoke : Nat := 82
abbrev nFf_law : Nat := 83
abbrev nFf_last : Nat := 84
abbrev nFf_minute : Nat := 85
abbrev nFf_drift : Nat := 86
abbrev nFf_then : Nat := 87
abbrev nFf_stands : Nat := 88
abbrev nFf_lightFor : Nat := 89
abbrev nFf_keptOut : Nat := 90
abbrev nFf_gain : Nat := 91
abbrev nFf_rents : Nat := 92
abbrev nFf_claim : Nat := 93
abbrev nFf_forged : Nat := 94
abbrev nFf_cold : Nat := 95
abbrev nFf_mildest : Nat := 96
abbrev nFf_deed : Nat := 97
abbrev nFf_wasLit : Nat := 98
abbrev nFf_tear : Nat := 99
abbrev nFf_seed : Nat := 100
abbrev nFf_keep : Nat := 101
abbrev nFf_goBack : Nat := 102
abbrev nFf_isPerson : Nat := 103
abbrev nFf_isStove : Nat := 104
abbrev nFf_isLaw : Nat := 105
abbrev nFf_isSpan : Nat := 106
abbrev nFf_refusalOfWall : Nat := 107
abbrev nFf_refusalOfMinutes : Nat := 108
abbrev nFf_refusalOfLighting : Nat := 109
abbrev nFf_wayOfWall : Nat := 110
abbrev nFf_wander : Nat := 111
abbrev nFf_ownsStove : Nat := 112
abbrev nFf_ownedWithWall : Nat := 113
abbrev nFf_countFreezing : Nat := 114
abbrev nFf_fitsLitNow : Nat := 115
abbrev nFf_tryWays : Nat := 116
abbrev nMo_init : Nat := 117
abbrev nMo_in : Nat := 118
abbrev nMo_emptyNow : Nat := 119
abbrev nMo_cells : Nat := 120
abbrev nMo_isCell : Nat := 121
abbrev nMo_isPerson : Nat := 122
abbrev nMo_isStove : Nat := 123
abbrev nMo_named : Nat := 124
abbrev nMo_cellOf : Nat := 125
abbrev nMo_feed : Nat := 126
abbrev nMo_isFigure : Nat := 127
abbrev nMo_look : Nat := 128
abbrev nMo_goOn : Nat := 129
abbrev nMo_faults : Nat := 130
abbrev nMo_takes : Nat := 131
abbrev nMo_stops : Nat := 132
abbrev nMo_takesX : Nat := 133
abbrev nMo_seesY : Nat := 134
abbrev nMo_readsTown : Nat := 135
abbrev nMo_readsWall : Nat := 136
abbrev nMo_readsStove : Nat := 137
abbrev nMo_readsRoof : Nat := 138
abbrev nMo_readsSun : Nat := 139
abbrev nMo_readsPerson : Nat := 140
abbrev nMo_readsClause : Nat := 141
abbrev nMo_readsAll : Nat := 142
abbrev nMo_town : Nat := 143
abbrev nMo_fault : Nat := 144
abbrev nMo_wallsNow : Nat := 145
abbrev nMo_sunAt : Nat := 146
abbrev nMo_told : Nat := 147
abbrev nMo_onCell : Nat := 148
abbrev nMo_cell : Nat := 149
abbrev nMo_notWall : Nat := 150
abbrev nMo_wall : Nat := 151
abbrev nMo_stove : Nat := 152
abbrev nMo_owns : Nat := 153
abbrev nMo_person : Nat := 154
abbrev nMo_way : Nat := 155
abbrev nMo_go : Nat := 156
abbrev nMo_build : Nat := 157
abbrev nMo_canBeLit : Nat := 158
abbrev nMo_light : Nat := 159
abbrev nMo_stoke : Nat := 160
abbrev nMo_law : Nat := 161
abbrev nMo_last : Nat := 162
abbrev nMo_flows : Nat := 163
abbrev nMo_goHeat : Nat := 164
abbrev nMo_feel : Nat := 165
abbrev nMo_feelsOn : Nat := 166
abbrev nMo_own : Nat := 167
abbrev nMo_goLaw : Nat := 168
abbrev nMo_arePartners : Nat := 169
abbrev nMo_isOwedFor : Nat := 170
abbrev nMo_owe : Nat := 171
abbrev nMo_goMinute : Nat := 172
abbrev nMo_goMinutes : Nat := 173
abbrev nMo_notMinutes : Nat := 174
abbrev nMo_minute : Nat := 175
abbrev nMo_draw : Nat := 176
abbrev nMo_driftOne : Nat := 177
abbrev nMo_drift : Nat := 178
abbrev nMo_start : Nat := 179
abbrev nMo_back : Nat := 180
abbrev nMo_then : Nat := 181
abbrev nMo_power : Nat := 182
abbrev nMo_ownsBy : Nat := 183
abbrev nMo_stands : Nat := 184
abbrev nMo_notStove : Nat := 185
abbrev nMo_lightFor : Nat := 186
abbrev nMo_ownsWithout : Nat := 187
abbrev nMo_keptOut : Nat := 188
abbrev nMo_gain : Nat := 189
abbrev nMo_isLet : Nat := 190
abbrev nMo_brings : Nat := 191
abbrev nMo_bestRent : Nat := 192
abbrev nMo_rents : Nat := 193
abbrev nMo_claim : Nat := 194
abbrev nMo_forged : Nat := 195
abbrev nMo_leaveWarm : Nat := 196
abbrev nMo_coldBy : Nat := 197
abbrev nMo_cold : Nat := 198
abbrev nMo_mildest : Nat := 199
abbrev nMo_deed : Nat := 200
abbrev nMo_areDeeds : Nat := 201
abbrev nMo_wasLit : Nat := 202
abbrev nMo_tear : Nat := 203
abbrev nMo_seed : Nat := 204
abbrev nMo_keep : Nat := 205
abbrev nMo_goBack : Nat := 206
abbrev nJd_bitCount : Nat := 207
abbrev nJd_fill : Nat := 208
abbrev nLw_law : Nat := 209
abbrev cal (d : Nat) : xC := xcall xMks xMT d
theorem cal_m (d : Nat) : xCm (cal d) := xcall_m xMT d
