set_option maxRecDepth 100000 in
def ab_tX7_has : List ab_E := [(0, .iload_n 1, 1, 0, 0, 0),
  (1, .ifCond .lt 16, 3, 0, 0, 0),
  (4, .iload_n 1, 1, 0, 0, 0),
  (5, .aload_n 0, 1, 0, 0, 0),
  (6, .getfield 14, 3, 6, 1, 0),
  (9, .arraylength, 1, 0, 0, 0),
  (10, .if_icmp .ge 7, 3, 0, 0, 0),
  (13, .iconst 1, 1, 0, 0, 0),
  (14, .goto 4, 3, 0, 0, 0),
  (17, .iconst 0, 1, 0, 0, 0),
  (18, .ireturn, 1, 0, 0, 0)]
def ab_qX7_has : ab_C := []
set_option maxRecDepth 100000 in
theorem okX7_has : ab_tX7_has.all (ab_okE miX7_has ab_lX7) = true := by decide +kernel
theorem atX7_has {d pc : Nat} {K : ab_K} {ls : ab_L} {M : ab_M} (h : ab_vc miX7_has ab_qX7_has d K ab_tX7_has pc ls [] M) : ab_At miX7_has d pc ls [] M K := ab_vc_ok (L := ab_lX7) ab_loX7 ab_qX7_has ab_tX7_has okX7_has pc _ _ _ h
theorem caX7_has {d : Nat} {K : ab_K} {as : List ab_V} {M : ab_M} (hl : Nat.ble (ab_lo as).length 2 = true) (h : ab_At miX7_has d 0 (ab_lo as) [] M K) : ab_Call d 83 as M K := ab_Call_at (id := 83) (by decide +kernel) hl h
set_option maxRecDepth 100000 in
def ab_tX7_isThere : List ab_E := [(0, .aload_n 0, 1, 0, 0, 0),
  (1, .getfield 14, 3, 6, 1, 0),
  (4, .iload_n 1, 1, 0, 0, 0),
  (5, .iaload, 1, 0, 0, 0),
  (6, .iconst (-1), 1, 0, 0, 0),
  (7, .if_icmp .eq 7, 3, 0, 0, 0),
  (10, .iconst 1, 1, 0, 0, 0),
  (11, .goto 4, 3, 0, 0, 0),
  (14, .iconst 0, 1, 0, 0, 0),
  (15, .ireturn, 1, 0, 0, 0)]
def ab_qX7_isThere : ab_C := []
set_option maxRecDepth 100000 in
theorem okX7_isThere : ab_tX7_isThere.all (ab_okE miX7_isThere ab_lX7) = true := by decide +kernel
theorem atX7_isThere {d pc : Nat} {K : ab_K} {ls : ab_L} {M : ab_M} (h : ab_vc miX7_isThere ab_qX7_isThere d K ab_tX7_isThere pc ls [] M) : ab_At miX7_isThere d pc ls [] M K := ab_vc_ok (L := ab_lX7) ab_loX7 ab_qX7_isThere ab_tX7_isThere okX7_isThere pc _ _ _ h
theorem caX7_isThere {d : Nat} {K : ab_K} {as : List ab_V} {M : ab_M} (hl : Nat.ble (ab_lo as).length 2 = true) (h : ab_At miX7_isThere d 0 (ab_lo as) [] M K) : ab_Call d 84 as M K := ab_Call_at (id := 84) (by decide +kernel) hl h
set_option maxRecDepth 100000 in
def ab_tX7_holds : List ab_E := [(0, .iload_n 2, 1, 0, 0, 0),
  (1, .ifCond .lt 17, 3, 0, 0, 0),
  (4, .iload_n 2, 1, 0, 0, 0),
  (5, .aload_n 0, 1, 0, 0, 0),
  (6, .getfield 14, 3, 6, 1, 0),
  (9, .iload_n 1, 1, 0, 0, 0),
  (10, .iaload, 1, 0, 0, 0),
  (11, .if_icmp .ge 7, 3, 0, 0, 0),
  (14, .iconst 1, 1, 0, 0, 0),
  (15, .goto 4, 3, 0, 0, 0),
  (18, .iconst 0, 1, 0, 0, 0),
  (19, .ireturn, 1, 0, 0, 0)]
def ab_qX7_holds : ab_C := []
set_option maxRecDepth 100000 in
theorem okX7_holds : ab_tX7_holds.all (ab_okE miX7_holds ab_lX7) = true := by decide +kernel
theorem atX7_holds {d pc : Nat} {K : ab_K} {ls : ab_L} {M : ab_M} (h : ab_vc miX7_holds ab_qX7_holds d K ab_tX7_holds pc ls [] M) : ab_At miX7_holds d pc ls [] M K := ab_vc_ok (L := ab_lX7) ab_loX7 ab_qX7_holds ab_tX7_holds okX7_holds pc _ _ _ h
theorem caX7_holds {d : Nat} {K : ab_K} {as : List ab_V} {M : ab_M} (hl : Nat.ble (ab_lo as).length 3 = true) (h : ab_At miX7_holds d 0 (ab_lo as) [] M K) : ab_Call d 85 as M K := ab_Call_at (id := 85) (by decide +kernel) hl h
set_option maxRecDepth 100000 in
def ab_tX7_spans : List ab_E := [(0, .iload_n 2, 1, 0, 0, 0),
  (1, .ifCond .lt 19, 3, 0, 0, 0),
  (4, .iload_n 2, 1, 0, 0, 0),
  (5, .aload_n 0, 1, 0, 0, 0),
  (6, .getfield 14, 3, 6, 1, 0),
  (9, .iload_n 1, 1, 0, 0, 0),
  (10, .iaload, 1, 0, 0, 0),
  (11, .iload_n 3, 1, 0, 0, 0),
  (12, .isub, 1, 0, 0, 0),
  (13, .if_icmp .gt 7, 3, 0, 0, 0),
  (16, .iconst 1, 1, 0, 0, 0),
  (17, .goto 4, 3, 0, 0, 0),
  (20, .iconst 0, 1, 0, 0, 0),
  (21, .ireturn, 1, 0, 0, 0)]
def ab_qX7_spans : ab_C := []
set_option maxRecDepth 100000 in
theorem okX7_spans : ab_tX7_spans.all (ab_okE miX7_spans ab_lX7) = true := by decide +kernel
theorem atX7_spans {d pc : Nat} {K : ab_K} {ls : ab_L} {M : ab_M} (h : ab_vc miX7_spans ab_qX7_spans d K ab_tX7_spans pc ls [] M) : ab_At miX7_spans d pc ls [] M K := ab_vc_ok (L := ab_lX7) ab_loX7 ab_qX7_spans ab_tX7_spans okX7_spans pc _ _ _ h
theorem caX7_spans {d : Nat} {K : ab_K} {as : List ab_V} {M : ab_M} (hl : Nat.ble (ab_lo as).length 4 = true) (h : ab_At miX7_spans d 0 (ab_lo as) [] M K) : ab_Call d 86 as M K := ab_Call_at (id := 86) (by decide +kernel) hl h
set_option maxRecDepth 100000 in
def ab_tX7_open : List ab_E := [(0, .aload_n 0, 1, 0, 0, 0),
  (1, .getfield 14, 3, 6, 1, 0),
  (4, .iload_n 1, 1, 0, 0, 0),
  (5, .iload_n 2, 1, 0, 0, 0),
  (6, .iastore, 1, 0, 0, 0),
  (7, .iconst 0, 1, 0, 0, 0),
  (8, .istore 4, 2, 0, 0, 0),
  (10, .iload 4, 2, 0, 0, 0),
  (12, .iload_n 2, 1, 0, 0, 0),
  (13, .if_icmp .ge 19, 3, 0, 0, 0),
  (16, .aload_n 0, 1, 0, 0, 0),
  (17, .getfield 9, 3, 6, 0, 0),
  (20, .iload_n 1, 1, 0, 0, 0),
  (21, .aaload, 1, 0, 0, 0),
  (22, .iload 4, 2, 0, 0, 0),
  (24, .iload_n 3, 1, 0, 0, 0),
  (25, .iastore, 1, 0, 0, 0),
  (26, .iinc 4 1, 3, 0, 0, 0),
  (29, .goto (-19), 3, 0, 0, 0),
  (32, .return_, 1, 0, 0, 0)]
def ab_qX7_open : ab_C := [(10, [true, true, true, true, true])]
set_option maxRecDepth 100000 in
theorem okX7_open : ab_tX7_open.all (ab_okE miX7_open ab_lX7) = true := by decide +kernel
theorem atX7_open {d pc : Nat} {K : ab_K} {ls : ab_L} {M : ab_M} (h : ab_vc miX7_open ab_qX7_open d K ab_tX7_open pc ls [] M) : ab_At miX7_open d pc ls [] M K := ab_vc_ok (L := ab_lX7) ab_loX7 ab_qX7_open ab_tX7_open okX7_open pc _ _ _ h
theorem caX7_open {d : Nat} {K : ab_K} {as : List ab_V} {M : ab_M} (hl : Nat.ble (ab_lo as).length 5 = true) (h : ab_At miX7_open d 0 (ab_lo as) [] M K) : ab_Call d 87 as M K := ab_Call_at (id := 87) (by decide +kernel) hl h
set_option maxRecDepth 100000 in
def ab_tX7_fill : List ab_E := [(0, .aload_n 0, 1, 0, 0, 0),
  (1, .getfield 14, 3, 6, 1, 0),
  (4, .iload_n 1, 1, 0, 0, 0),
  (5, .iload_n 3, 1, 0, 0, 0),
  (6, .iastore, 1, 0, 0, 0),
  (7, .aload_n 2, 1, 0, 0, 0),
  (8, .iconst 0, 1, 0, 0, 0),
  (9, .aload_n 0, 1, 0, 0, 0),
  (10, .getfield 9, 3, 6, 0, 0),
  (13, .iload_n 1, 1, 0, 0, 0),
  (14, .aaload, 1, 0, 0, 0),
  (15, .iconst 0, 1, 0, 0, 0),
  (16, .iload_n 3, 1, 0, 0, 0),
  (17, .invokestatic 18, 3, 0, 99, 0),
  (20, .return_, 1, 0, 0, 0)]
def ab_qX7_fill : ab_C := []
set_option maxRecDepth 100000 in
theorem okX7_fill : ab_tX7_fill.all (ab_okE miX7_fill ab_lX7) = true := by decide +kernel
theorem atX7_fill {d pc : Nat} {K : ab_K} {ls : ab_L} {M : ab_M} (h : ab_vc miX7_fill ab_qX7_fill d K ab_tX7_fill pc ls [] M) : ab_At miX7_fill d pc ls [] M K := ab_vc_ok (L := ab_lX7) ab_loX7 ab_qX7_fill ab_tX7_fill okX7_fill pc _ _ _ h
theorem caX7_fill {d : Nat} {K : ab_K} {as : List ab_V} {M : ab_M} (hl : Nat.ble (ab_lo as).length 4 = true) (h : ab_At miX7_fill d 0 (ab_lo as) [] M K) : ab_Call d 88 as M K := ab_Call_at (id := 88) (by decide +kernel) hl h
set_option maxRecDepth 100000 in
def ab_tX7_remove : List ab_E := [(0, .aload_n 0, 1, 0, 0, 0),
  (1, .getfield 14, 3, 6, 1, 0),
  (4, .iload_n 1, 1, 0, 0, 0),
  (5, .iconst (-1), 1, 0, 0, 0),
  (6, .iastore, 1, 0, 0, 0),
  (7, .return_, 1, 0, 0, 0)]
def ab_qX7_remove : ab_C := []
set_option maxRecDepth 100000 in
theorem okX7_remove : ab_tX7_remove.all (ab_okE miX7_remove ab_lX7) = true := by decide +kernel
theorem atX7_remove {d pc : Nat} {K : ab_K} {ls : ab_L} {M : ab_M} (h : ab_vc miX7_remove ab_qX7_remove d K ab_tX7_remove pc ls [] M) : ab_At miX7_remove d pc ls [] M K := ab_vc_ok (L := ab_lX7) ab_loX7 ab_qX7_remove ab_tX7_remove okX7_remove pc _ _ _ h
theorem caX7_remove {d : Nat} {K : ab_K} {as : List ab_V} {M : ab_M} (hl : Nat.ble (ab_lo as).length 2 = true) (h : ab_At miX7_remove d 0 (ab_lo as) [] M K) : ab_Call d 89 as M K := ab_Call_at (id := 89) (by decide +kernel) hl h
set_option maxRecDepth 100000 in
def ab_tX7_exchange : List ab_E := [(0, .aload_n 0, 1, 0, 0, 0),
  (1, .getfield 9, 3, 6, 0, 0),
  (4, .iload_n 1, 1, 0, 0, 0),
  (5, .aaload, 1, 0, 0, 0),
  (6, .iload_n 2, 1, 0, 0, 0),
  (7, .iaload, 1, 0, 0, 0),
  (8, .istore 4, 2, 0, 0, 0),
  (10, .aload_n 0, 1, 0, 0, 0),
  (11, .getfield 9, 3, 6, 0, 0),
  (14, .iload_n 1, 1, 0, 0, 0),
  (15, .aaload, 1, 0, 0, 0),
  (16, .iload_n 2, 1, 0, 0, 0),
  (17, .iload_n 3, 1, 0, 0, 0),
  (18, .iastore, 1, 0, 0, 0),
  (19, .iload 4, 2, 0, 0, 0),
  (21, .ireturn, 1, 0, 0, 0)]
def ab_qX7_exchange : ab_C := []
set_option maxRecDepth 100000 in
theorem okX7_exchange : ab_tX7_exchange.all (ab_okE miX7_exchange ab_lX7) = true := by decide +kernel
theorem atX7_exchange {d pc : Nat} {K : ab_K} {ls : ab_L} {M : ab_M} (h : ab_vc miX7_exchange ab_qX7_exchange d K ab_tX7_exchange pc ls [] M) : ab_At miX7_exchange d pc ls [] M K := ab_vc_ok (L := ab_lX7) ab_loX7 ab_qX7_exchange ab_tX7_exchange okX7_exchange pc _ _ _ h
theorem caX7_exchange {d : Nat} {K : ab_K} {as : List ab_V} {M : ab_M} (hl : Nat.ble (ab_lo as).length 5 = true) (h : ab_At miX7_exchange d 0 (ab_lo as) [] M K) : ab_Call d 90 as M K := ab_Call_at (id := 90) (by decide +kernel) hl h
set_option maxRecDepth 100000 in
def ab_tX7_sum : List ab_E := [(0, .lconst 0, 1, 0, 0, 0),
  (1, .lstore_n 2, 1, 0, 0, 0),
  (2, .iconst 0, 1, 0, 0, 0),
  (3, .istore 4, 2, 0, 0, 0),
  (5, .iload 4, 2, 0, 0, 0),
  (7, .aload_n 0, 1, 0, 0, 0),
  (8, .getfield 14, 3, 6, 1, 0),
  (11, .iload_n 1, 1, 0, 0, 0),
  (12, .iaload, 1, 0, 0, 0),
  (13, .if_icmp .ge 22, 3, 0, 0, 0),
  (16, .lload_n 2, 1, 0, 0, 0),
  (17, .aload_n 0, 1, 0, 0, 0),
  (18, .getfield 9, 3, 6, 0, 0),
  (21, .iload_n 1, 1, 0, 0, 0),
  (22, .aaload, 1, 0, 0, 0),
  (23, .iload 4, 2, 0, 0, 0),
  (25, .iaload, 1, 0, 0, 0),
  (26, .i2l, 1, 0, 0, 0),
  (27, .ladd, 1, 0, 0, 0),
  (28, .lstore_n 2, 1, 0, 0, 0),
  (29, .iinc 4 1, 3, 0, 0, 0),
  (32, .goto (-27), 3, 0, 0, 0),
  (35, .lload_n 2, 1, 0, 0, 0),
  (36, .lreturn, 1, 0, 0, 0)]
def ab_qX7_sum : ab_C := [(5, [true, true, true, false, true])]
set_option maxRecDepth 100000 in
theorem okX7_sum : ab_tX7_sum.all (ab_okE miX7_sum ab_lX7) = true := by decide +kernel
theorem atX7_sum {d pc : Nat} {K : ab_K} {ls : ab_L} {M : ab_M} (h : ab_vc miX7_sum ab_qX7_sum d K ab_tX7_sum pc ls [] M) : ab_At miX7_sum d pc ls [] M K := ab_vc_ok (L := ab_lX7) ab_loX7 ab_qX7_sum ab_tX7_sum okX7_sum pc _ _ _ h
theorem caX7_sum {d : Nat} {K : ab_K} {as : List ab_V} {M : ab_M} (hl : Nat.ble (ab_lo as).length 5 = true) (h : ab_At miX7_sum d 0 (ab_lo as) [] M K) : ab_Call d 91 as M K := ab_Call_at (id := 91) (by decide +kernel) hl h
set_option maxRecDepth 100000 in
def ab_tX7_manyThere : List ab_E := [(0, .iconst 0, 1, 0, 0, 0),
  (1, .istore_n 1, 1, 0, 0, 0),
  (2, .iconst 0, 1, 0, 0, 0),
  (3, .istore_n 2, 1, 0, 0, 0),
  (4, .iload_n 2, 1, 0, 0, 0),
  (5, .aload_n 0, 1, 0, 0, 0),
  (6, .getfield 14, 3, 6, 1, 0),
  (9, .arraylength, 1, 0, 0, 0),
  (10, .if_icmp .ge 25, 3, 0, 0, 0),
  (13, .iload_n 1, 1, 0, 0, 0),
  (14, .aload_n 0, 1, 0, 0, 0),
  (15, .iload_n 2, 1, 0, 0, 0),
  (16, .invokevirtual 24, 3, 84, 2, 6),
  (19, .ifCond .eq 7, 3, 0, 0, 0),
  (22, .iconst 1, 1, 0, 0, 0),
  (23, .goto 4, 3, 0, 0, 0),
  (26, .iconst 0, 1, 0, 0, 0),
  (27, .iadd, 1, 0, 0, 0),
  (28, .istore_n 1, 1, 0, 0, 0),
  (29, .iinc 2 1, 3, 0, 0, 0),
  (32, .goto (-28), 3, 0, 0, 0),
  (35, .iload_n 1, 1, 0, 0, 0),
  (36, .ireturn, 1, 0, 0, 0)]
def ab_qX7_manyThere : ab_C := [(4, [true, true, true])]
set_option maxRecDepth 100000 in
theorem okX7_manyThere : ab_tX7_manyThere.all (ab_okE miX7_manyThere ab_lX7) = true := by decide +kernel
theorem atX7_manyThere {d pc : Nat} {K : ab_K} {ls : ab_L} {M : ab_M} (h : ab_vc miX7_manyThere ab_qX7_manyThere d K ab_tX7_manyThere pc ls [] M) : ab_At miX7_manyThere d pc ls [] M K := ab_vc_ok (L := ab_lX7) ab_loX7 ab_qX7_manyThere ab_tX7_manyThere okX7_manyThere pc _ _ _ h
theorem caX7_manyThere {d : Nat} {K : ab_K} {as : List ab_V} {M : ab_M} (hl : Nat.ble (ab_lo as).length 3 = true) (h : ab_At miX7_manyThere d 0 (ab_lo as) [] M K) : ab_Call d 92 as M K := ab_Call_at (id := 92) (by decide +kernel) hl h
set_option maxRecDepth 100000 in
def ab_tX7_foldInto : List ab_E := [(0, .lload_n 1, 1, 0, 0, 0),
  (1, .lstore_n 3, 1, 0, 0, 0),
  (2, .iconst 0, 1, 0, 0, 0),
  (3, .istore 5, 2, 0, 0, 0),
  (5, .iload 5, 2, 0, 0, 0),
  (7, .aload_n 0, 1, 0, 0, 0),
  (8, .getfield 14, 3, 6, 1, 0),
  (11, .arraylength, 1, 0, 0, 0),
  (12, .if_icmp .ge 63, 3, 0, 0, 0),
  (15, .ldc2_w 28, 3, 0, 0, 31),
  (18, .lload_n 3, 1, 0, 0, 0),
  (19, .lmul, 1, 0, 0, 0),
  (20, .aload_n 0, 1, 0, 0, 0),
  (21, .getfield 14, 3, 6, 1, 0),
  (24, .iload 5, 2, 0, 0, 0),
  (26, .iaload, 1, 0, 0, 0),
  (27, .i2l, 1, 0, 0, 0),
  (28, .ladd, 1, 0, 0, 0),
  (29, .lstore_n 3, 1, 0, 0, 0),
  (30, .iconst 0, 1, 0, 0, 0),
  (31, .istore 6, 2, 0, 0, 0),
  (33, .iload 6, 2, 0, 0, 0),
  (35, .aload_n 0, 1, 0, 0, 0),
  (36, .getfield 14, 3, 6, 1, 0),
  (39, .iload 5, 2, 0, 0, 0),
  (41, .iaload, 1, 0, 0, 0),
  (42, .if_icmp .ge 27, 3, 0, 0, 0),
  (45, .ldc2_w 28, 3, 0, 0, 31),
  (48, .lload_n 3, 1, 0, 0, 0),
  (49, .lmul, 1, 0, 0, 0),
  (50, .aload_n 0, 1, 0, 0, 0),
  (51, .getfield 9, 3, 6, 0, 0),
  (54, .iload 5, 2, 0, 0, 0),
  (56, .aaload, 1, 0, 0, 0),
  (57, .iload 6, 2, 0, 0, 0),
  (59, .iaload, 1, 0, 0, 0),
  (60, .i2l, 1, 0, 0, 0),
  (61, .ladd, 1, 0, 0, 0),
  (62, .lstore_n 3, 1, 0, 0, 0),
  (63, .iinc 6 1, 3, 0, 0, 0),
  (66, .goto (-33), 3, 0, 0, 0),
  (69, .iinc 5 1, 3, 0, 0, 0),
  (72, .goto (-67), 3, 0, 0, 0),
  (75, .lload_n 3, 1, 0, 0, 0),
  (76, .lreturn, 1, 0, 0, 0)]
def ab_qX7_foldInto : ab_C := [(5, [true, false, false, true, false, true]), (33, [true, false, false, true, false, true, true])]
set_option maxRecDepth 100000 in
theorem okX7_foldInto : ab_tX7_foldInto.all (ab_okE miX7_foldInto ab_lX7) = true := by decide +kernel
theorem atX7_foldInto {d pc : Nat} {K : ab_K} {ls : ab_L} {M : ab_M} (h : ab_vc miX7_foldInto ab_qX7_foldInto d K ab_tX7_foldInto pc ls [] M) : ab_At miX7_foldInto d pc ls [] M K := ab_vc_ok (L := ab_lX7) ab_loX7 ab_qX7_foldInto ab_tX7_foldInto okX7_foldInto pc _ _ _ h
theorem caX7_foldInto {d : Nat} {K : ab_K} {as : List ab_V} {M : ab_M} (hl : Nat.ble (ab_lo as).length 7 = true) (h : ab_At miX7_foldInto d 0 (ab_lo as) [] M K) : ab_Call d 93 as M K := ab_Call_at (id := 93) (by decide +kernel) hl h
set_option maxRecDepth 100000 in
def ab_tX8_countAll : List ab_E := [(0, .iconst 0, 1, 0, 0, 0),
  (1, .istore_n 1, 1, 0, 0, 0),
  (2, .aload_n 0, 1, 0, 0, 0),
  (3, .invokevirtual 30, 3, 98, 1, 7),
  (6, .iload_n 1, 1, 0, 0, 0),
  (7, .ldc 33, 2, 0, 0, 100000),
  (9, .if_icmp .ge 16, 3, 0, 0, 0),
  (12, .aload_n 0, 1, 0, 0, 0),
  (13, .invokevirtual 34, 3, 99, 1, 7),
  (16, .ifCond .eq 9, 3, 0, 0, 0),
  (19, .iinc 1 1, 3, 0, 0, 0),
  (22, .goto (-16), 3, 0, 0, 0),
  (25, .iload_n 1, 1, 0, 0, 0),
  (26, .ireturn, 1, 0, 0, 0)]
def ab_qX8_countAll : ab_C := [(6, [true, true])]
set_option maxRecDepth 100000 in
theorem okX8_countAll : ab_tX8_countAll.all (ab_okE miX8_countAll ab_lX8) = true := by decide +kernel
theorem atX8_countAll {d pc : Nat} {K : ab_K} {ls : ab_L} {M : ab_M} (h : ab_vc miX8_countAll ab_qX8_countAll d K ab_tX8_countAll pc ls [] M) : ab_At miX8_countAll d pc ls [] M K := ab_vc_ok (L := ab_lX8) ab_loX8 ab_qX8_countAll ab_tX8_countAll okX8_countAll pc _ _ _ h
theorem caX8_countAll {d : Nat} {K : ab_K} {as : List ab_V} {M : ab_M} (hl : Nat.ble (ab_lo as).length 2 = true) (h : ab_At miX8_countAll d 0 (ab_lo as) [] M K) : ab_Call d 95 as M K := ab_Call_at (id := 95) (by decide +kernel) hl h
set_option maxRecDepth 100000 in
def ab_tX8_findLeast : List ab_E := [(0, .aload_n 0, 1, 0, 0, 0),
  (1, .invokevirtual 30, 3, 98, 1, 7),
  (4, .iconst 0, 1, 0, 0, 0),
  (5, .istore_n 1, 1, 0, 0, 0),
  (6, .iload_n 1, 1, 0, 0, 0),
  (7, .ldc 33, 2, 0, 0, 100000),
  (9, .if_icmp .ge 39, 3, 0, 0, 0),
  (12, .aload_n 0, 1, 0, 0, 0),
  (13, .invokevirtual 34, 3, 99, 1, 7),
  (16, .ifCond .eq 32, 3, 0, 0, 0),
  (19, .aload_n 0, 1, 0, 0, 0),
  (20, .aload_n 0, 1, 0, 0, 0),
  (21, .getfield 15, 3, 7, 1, 0),
  (24, .aload_n 0, 1, 0, 0, 0),
  (25, .getfield 9, 3, 7, 0, 0),
  (28, .aload_n 0, 1, 0, 0, 0),
  (29, .getfield 15, 3, 7, 1, 0),
  (32, .invokevirtual 38, 3, 28, 1, 1),
  (35, .invokevirtual 44, 3, 38, 3, 1),
  (38, .ineg, 1, 0, 0, 0),
  (39, .invokevirtual 48, 3, 101, 2, 7),
  (42, .iinc 1 1, 3, 0, 0, 0),
  (45, .goto (-39), 3, 0, 0, 0),
  (48, .aload_n 0, 1, 0, 0, 0),
  (49, .getfield 52, 3, 7, 5, 0),
  (52, .ifCond .le 7, 3, 0, 0, 0),
  (55, .iconst 1, 1, 0, 0, 0),
  (56, .goto 4, 3, 0, 0, 0),
  (59, .iconst 0, 1, 0, 0, 0),
  (60, .ireturn, 1, 0, 0, 0)]
def ab_qX8_findLeast : ab_C := [(6, [true, true])]
set_option maxRecDepth 100000 in
theorem okX8_findLeast : ab_tX8_findLeast.all (ab_okE miX8_findLeast ab_lX8) = true := by decide +kernel
theorem atX8_findLeast {d pc : Nat} {K : ab_K} {ls : ab_L} {M : ab_M} (h : ab_vc miX8_findLeast ab_qX8_findLeast d K ab_tX8_findLeast pc ls [] M) : ab_At miX8_findLeast d pc ls [] M K := ab_vc_ok (L := ab_lX8) ab_loX8 ab_qX8_findLeast ab_tX8_findLeast okX8_findLeast pc _ _ _ h
theorem caX8_findLeast {d : Nat} {K : ab_K} {as : List ab_V} {M : ab_M} (hl : Nat.ble (ab_lo as).length 2 = true) (h : ab_At miX8_findLeast d 0 (ab_lo as) [] M K) : ab_Call d 96 as M K := ab_Call_at (id := 96) (by decide +kernel) hl h
set_option maxRecDepth 100000 in
def ab_tX8_findFurthest : List ab_E := [(0, .aload_n 0, 1, 0, 0, 0),
  (1, .invokevirtual 30, 3, 98, 1, 7),
  (4, .aload_n 0, 1, 0, 0, 0),
  (5, .getfield 15, 3, 7, 1, 0),
  (8, .aload_n 1, 1, 0, 0, 0),
  (9, .getfield 56, 3, 1, 0, 0),
  (12, .putfield 56, 3, 1, 0, 0),
  (15, .aload_n 0, 1, 0, 0, 0),
  (16, .getfield 15, 3, 7, 1, 0),
  (19, .aload_n 1, 1, 0, 0, 0),
  (20, .getfield 59, 3, 1, 3, 0),
  (23, .putfield 59, 3, 1, 3, 0),
  (26, .aload_n 0, 1, 0, 0, 0),
  (27, .getfield 19, 3, 7, 2, 0),
  (30, .aload_n 0, 1, 0, 0, 0),
  (31, .getfield 9, 3, 7, 0, 0),
  (34, .invokevirtual 62, 3, 1, 2, 0),
  (37, .iconst 0, 1, 0, 0, 0),
  (38, .istore_n 2, 1, 0, 0, 0),
  (39, .iload_n 2, 1, 0, 0, 0),
  (40, .ldc 33, 2, 0, 0, 100000),
  (42, .if_icmp .ge 42, 3, 0, 0, 0),
  (45, .aload_n 0, 1, 0, 0, 0),
  (46, .invokevirtual 34, 3, 99, 1, 7),
  (49, .ifCond .eq 35, 3, 0, 0, 0),
  (52, .aload_n 0, 1, 0, 0, 0),
  (53, .getfield 19, 3, 7, 2, 0),
  (56, .aload_n 0, 1, 0, 0, 0),
  (57, .getfield 9, 3, 7, 0, 0),
  (60, .aload_n 0, 1, 0, 0, 0),
  (61, .getfield 15, 3, 7, 1, 0),
  (64, .invokevirtual 68, 3, 4, 3, 0),
  (67, .aload_n 0, 1, 0, 0, 0),
  (68, .aload_n 0, 1, 0, 0, 0),
  (69, .getfield 19, 3, 7, 2, 0),
  (72, .invokevirtual 72, 3, 17, 1, 0),
  (75, .invokevirtual 48, 3, 101, 2, 7),
  (78, .iinc 2 1, 3, 0, 0, 0),
  (81, .goto (-42), 3, 0, 0, 0),
  (84, .aload_n 0, 1, 0, 0, 0),
  (85, .getfield 52, 3, 7, 5, 0),
  (88, .ifCond .le 7, 3, 0, 0, 0),
  (91, .iconst 1, 1, 0, 0, 0),
  (92, .goto 4, 3, 0, 0, 0),
  (95, .iconst 0, 1, 0, 0, 0),
  (96, .ireturn, 1, 0, 0, 0)]
def ab_qX8_findFurthest : ab_C := [(39, [true, false, true])]
set_option maxRecDepth 100000 in
theorem okX8_findFurthest : ab_tX8_findFurthest.all (ab_okE miX8_findFurthest ab_lX8) = true := by decide +kernel
theorem atX8_findFurthest {d pc : Nat} {K : ab_K} {ls : ab_L} {M : ab_M} (h : ab_vc miX8_findFurthest ab_qX8_findFurthest d K ab_tX8_findFurthest pc ls [] M) : ab_At miX8_findFurthest d pc ls [] M K := ab_vc_ok (L := ab_lX8) ab_loX8 ab_qX8_findFurthest ab_tX8_findFurthest okX8_findFurthest pc _ _ _ h
theorem caX8_findFurthest {d : Nat} {K : ab_K} {as : List ab_V} {M : ab_M} (hl : Nat.ble (ab_lo as).length 3 = true) (h : ab_At miX8_findFurthest d 0 (ab_lo as) [] M K) : ab_Call d 97 as M K := ab_Call_at (id := 97) (by decide +kernel) hl h
set_option maxRecDepth 100000 in
def ab_tX8_begin : List ab_E := [(0, .aload_n 0, 1, 0, 0, 0),
  (1, .iconst 0, 1, 0, 0, 0),
  (2, .putfield 52, 3, 7, 5, 0),
  (5, .aload_n 0, 1, 0, 0, 0),
  (6, .getfield 15, 3, 7, 1, 0),
  (9, .iconst 0, 1, 0, 0, 0),
  (10, .invokevirtual 75, 3, 21, 2, 1),
  (13, .aload_n 0, 1, 0, 0, 0),
  (14, .getfield 15, 3, 7, 1, 0),
  (17, .iconst 1, 1, 0, 0, 0),
  (18, .putfield 78, 3, 1, 1, 0),
  (21, .aload_n 0, 1, 0, 0, 0),
  (22, .getfield 15, 3, 7, 1, 0),
  (25, .getfield 81, 3, 1, 4, 0),
  (28, .iconst 0, 1, 0, 0, 0),
  (29, .iconst 0, 1, 0, 0, 0),
  (30, .iastore, 1, 0, 0, 0),
  (31, .aload_n 0, 1, 0, 0, 0),
  (32, .getfield 23, 3, 7, 3, 0),
  (35, .iconst 0, 1, 0, 0, 0),
  (36, .iconst 0, 1, 0, 0, 0),
  (37, .iastore, 1, 0, 0, 0),
  (38, .return_, 1, 0, 0, 0)]
def ab_qX8_begin : ab_C := []
set_option maxRecDepth 100000 in
theorem okX8_begin : ab_tX8_begin.all (ab_okE miX8_begin ab_lX8) = true := by decide +kernel
theorem atX8_begin {d pc : Nat} {K : ab_K} {ls : ab_L} {M : ab_M} (h : ab_vc miX8_begin ab_qX8_begin d K ab_tX8_begin pc ls [] M) : ab_At miX8_begin d pc ls [] M K := ab_vc_ok (L := ab_lX8) ab_loX8 ab_qX8_begin ab_tX8_begin okX8_begin pc _ _ _ h
theorem caX8_begin {d : Nat} {K : ab_K} {as : List ab_V} {M : ab_M} (hl : Nat.ble (ab_lo as).length 1 = true) (h : ab_At miX8_begin d 0 (ab_lo as) [] M K) : ab_Call d 98 as M K := ab_Call_at (id := 98) (by decide +kernel) hl h
set_option maxRecDepth 100000 in
def ab_tX8_findNext : List ab_E := [(0, .aload_n 0, 1, 0, 0, 0),
  (1, .getfield 15, 3, 7, 1, 0),
  (4, .invokevirtual 38, 3, 28, 1, 1),
  (7, .ifCond .le 16, 3, 0, 0, 0),
  (10, .aload_n 0, 1, 0, 0, 0),
  (11, .getfield 15, 3, 7, 1, 0),
  (14, .dup, 1, 0, 0, 0),
  (15, .getfield 78, 3, 1, 1, 0),
  (18, .iconst 1, 1, 0, 0, 0),
  (19, .isub, 1, 0, 0, 0),
  (20, .putfield 78, 3, 1, 1, 0),
  (23, .iconst 0, 1, 0, 0, 0),
  (24, .istore_n 1, 1, 0, 0, 0),
  (25, .iload_n 1, 1, 0, 0, 0),
  (26, .ldc 33, 2, 0, 0, 100000),
  (28, .if_icmp .ge 116, 3, 0, 0, 0),
  (31, .aload_n 0, 1, 0, 0, 0),
  (32, .getfield 15, 3, 7, 1, 0),
  (35, .getfield 78, 3, 1, 1, 0),
  (38, .ifCond .le 106, 3, 0, 0, 0),
  (41, .aload_n 0, 1, 0, 0, 0),
  (42, .invokevirtual 84, 3, 100, 1, 7),
  (45, .istore_n 2, 1, 0, 0, 0),
  (46, .iload_n 2, 1, 0, 0, 0),
  (47, .bipush (-9), 2, 0, 0, 0),
  (49, .if_icmp .ne 19, 3, 0, 0, 0),
  (52, .aload_n 0, 1, 0, 0, 0),
  (53, .getfield 15, 3, 7, 1, 0),
  (56, .dup, 1, 0, 0, 0),
  (57, .getfield 78, 3, 1, 1, 0),
  (60, .iconst 1, 1, 0, 0, 0),
  (61, .isub, 1, 0, 0, 0),
  (62, .putfield 78, 3, 1, 1, 0),
  (65, .goto 73, 3, 0, 0, 0),
  (68, .aload_n 0, 1, 0, 0, 0),
  (69, .getfield 23, 3, 7, 3, 0),
  (72, .aload_n 0, 1, 0, 0, 0),
  (73, .getfield 15, 3, 7, 1, 0),
  (76, .invokevirtual 38, 3, 28, 1, 1),
  (79, .iload_n 2, 1, 0, 0, 0),
  (80, .iconst 1, 1, 0, 0, 0),
  (81, .iadd, 1, 0, 0, 0),
  (82, .iastore, 1, 0, 0, 0),
  (83, .aload_n 0, 1, 0, 0, 0),
  (84, .getfield 15, 3, 7, 1, 0),
  (87, .getfield 81, 3, 1, 4, 0),
  (90, .aload_n 0, 1, 0, 0, 0),
  (91, .getfield 15, 3, 7, 1, 0),
  (94, .getfield 78, 3, 1, 1, 0),
  (97, .iload_n 2, 1, 0, 0, 0),
  (98, .iastore, 1, 0, 0, 0),
  (99, .aload_n 0, 1, 0, 0, 0),
  (100, .getfield 23, 3, 7, 3, 0),
  (103, .aload_n 0, 1, 0, 0, 0),
  (104, .getfield 15, 3, 7, 1, 0),
  (107, .getfield 78, 3, 1, 1, 0),
  (110, .iconst 0, 1, 0, 0, 0),
  (111, .iastore, 1, 0, 0, 0),
  (112, .aload_n 0, 1, 0, 0, 0),
  (113, .getfield 15, 3, 7, 1, 0),
  (116, .dup, 1, 0, 0, 0),
  (117, .getfield 78, 3, 1, 1, 0),
  (120, .iconst 1, 1, 0, 0, 0),
  (121, .iadd, 1, 0, 0, 0),
  (122, .putfield 78, 3, 1, 1, 0),
  (125, .iload_n 2, 1, 0, 0, 0),
  (126, .aload_n 0, 1, 0, 0, 0),
  (127, .getfield 9, 3, 7, 0, 0),
  (130, .invokevirtual 87, 3, 53, 1, 2),
  (133, .if_icmp .ne 5, 3, 0, 0, 0),
  (136, .iconst 1, 1, 0, 0, 0),
  (137, .ireturn, 1, 0, 0, 0),
  (138, .iinc 1 1, 3, 0, 0, 0),
  (141, .goto (-116), 3, 0, 0, 0),
  (144, .iconst 0, 1, 0, 0, 0),
  (145, .ireturn, 1, 0, 0, 0)]
def ab_qX8_findNext : ab_C := [(25, [true, true])]
set_option maxRecDepth 100000 in
theorem okX8_findNext : ab_tX8_findNext.all (ab_okE miX8_findNext ab_lX8) = true := by decide +kernel
theorem atX8_findNext {d pc : Nat} {K : ab_K} {ls : ab_L} {M : ab_M} (h : ab_vc miX8_findNext ab_qX8_findNext d K ab_tX8_findNext pc ls [] M) : ab_At miX8_findNext d pc ls [] M K := ab_vc_ok (L := ab_lX8) ab_loX8 ab_qX8_findNext ab_tX8_findNext okX8_findNext pc _ _ _ h
theorem caX8_findNext {d : Nat} {K : ab_K} {as : List ab_V} {M : ab_M} (hl : Nat.ble (ab_lo as).length 3 = true) (h : ab_At miX8_findNext d 0 (ab_lo as) [] M K) : ab_Call d 99 as M K := ab_Call_at (id := 99) (by decide +kernel) hl h
set_option maxRecDepth 100000 in
def ab_tX8_nextPlace : List ab_E := [(0, .aload_n 0, 1, 0, 0, 0),
  (1, .getfield 15, 3, 7, 1, 0),
  (4, .getfield 81, 3, 1, 4, 0),
  (7, .aload_n 0, 1, 0, 0, 0),
  (8, .getfield 15, 3, 7, 1, 0),
  (11, .invokevirtual 38, 3, 28, 1, 1),
  (14, .iaload, 1, 0, 0, 0),
  (15, .istore_n 1, 1, 0, 0, 0),
  (16, .aload_n 0, 1, 0, 0, 0),
  (17, .getfield 23, 3, 7, 3, 0),
  (20, .aload_n 0, 1, 0, 0, 0),
  (21, .getfield 15, 3, 7, 1, 0),
  (24, .invokevirtual 38, 3, 28, 1, 1),
  (27, .iaload, 1, 0, 0, 0),
  (28, .istore_n 2, 1, 0, 0, 0),
  (29, .iload_n 2, 1, 0, 0, 0),
  (30, .aload_n 0, 1, 0, 0, 0),
  (31, .getfield 9, 3, 7, 0, 0),
  (34, .getfield 92, 3, 2, 0, 0),
  (37, .if_icmp .ge 48, 3, 0, 0, 0),
  (40, .aload_n 0, 1, 0, 0, 0),
  (41, .getfield 15, 3, 7, 1, 0),
  (44, .getfield 78, 3, 1, 1, 0),
  (47, .bipush 7, 2, 0, 0, 0),
  (49, .if_icmp .ge 36, 3, 0, 0, 0),
  (52, .aload_n 0, 1, 0, 0, 0),
  (53, .getfield 9, 3, 7, 0, 0),
  (56, .iload_n 1, 1, 0, 0, 0),
  (57, .iload_n 2, 1, 0, 0, 0),
  (58, .invokevirtual 95, 3, 52, 3, 2),
  (61, .ifCond .eq 18, 3, 0, 0, 0),
  (64, .aload_n 0, 1, 0, 0, 0),
  (65, .getfield 15, 3, 7, 1, 0),
  (68, .iload_n 2, 1, 0, 0, 0),
  (69, .invokevirtual 99, 3, 29, 2, 1),
  (72, .bipush (-9), 2, 0, 0, 0),
  (74, .if_icmp .ne 5, 3, 0, 0, 0),
  (77, .iload_n 2, 1, 0, 0, 0),
  (78, .ireturn, 1, 0, 0, 0),
  (79, .iinc 2 1, 3, 0, 0, 0),
  (82, .goto (-53), 3, 0, 0, 0),
  (85, .bipush (-9), 2, 0, 0, 0),
  (87, .ireturn, 1, 0, 0, 0)]
def ab_qX8_nextPlace : ab_C := [(29, [true, true, true])]
set_option maxRecDepth 100000 in
theorem okX8_nextPlace : ab_tX8_nextPlace.all (ab_okE miX8_nextPlace ab_lX8) = true := by decide +kernel
theorem atX8_nextPlace {d pc : Nat} {K : ab_K} {ls : ab_L} {M : ab_M} (h : ab_vc miX8_nextPlace ab_qX8_nextPlace d K ab_tX8_nextPlace pc ls [] M) : ab_At miX8_nextPlace d pc ls [] M K := ab_vc_ok (L := ab_lX8) ab_loX8 ab_qX8_nextPlace ab_tX8_nextPlace okX8_nextPlace pc _ _ _ h
theorem caX8_nextPlace {d : Nat} {K : ab_K} {as : List ab_V} {M : ab_M} (hl : Nat.ble (ab_lo as).length 3 = true) (h : ab_At miX8_nextPlace d 0 (ab_lo as) [] M K) : ab_Call d 100 as M K := ab_Call_at (id := 100) (by decide +kernel) hl h
set_option maxRecDepth 100000 in
def ab_tX8_weigh : List ab_E := [(0, .aload_n 0, 1, 0, 0, 0),
  (1, .getfield 52, 3, 7, 5, 0),
  (4, .ifCond .eq 11, 3, 0, 0, 0),
  (7, .iload_n 1, 1, 0, 0, 0),
  (8, .aload_n 0, 1, 0, 0, 0),
  (9, .getfield 103, 3, 7, 6, 0),
  (12, .if_icmp .le 42, 3, 0, 0, 0),
  (15, .aload_n 0, 1, 0, 0, 0),
  (16, .iload_n 1, 1, 0, 0, 0),
  (17, .putfield 103, 3, 7, 6, 0),
  (20, .aload_n 0, 1, 0, 0, 0),
  (21, .aload_n 0, 1, 0, 0, 0),
  (22, .getfield 15, 3, 7, 1, 0),
  (25, .getfield 78, 3, 1, 1, 0),
  (28, .putfield 52, 3, 7, 5, 0),
  (31, .aload_n 0, 1, 0, 0, 0),
  (32, .getfield 15, 3, 7, 1, 0),
  (35, .getfield 81, 3, 1, 4, 0),
  (38, .iconst 0, 1, 0, 0, 0),
  (39, .aload_n 0, 1, 0, 0, 0),
  (40, .getfield 27, 3, 7, 4, 0),
  (43, .iconst 0, 1, 0, 0, 0),
  (44, .aload_n 0, 1, 0, 0, 0),
  (45, .getfield 15, 3, 7, 1, 0),
  (48, .getfield 78, 3, 1, 1, 0),
  (51, .invokestatic 106, 3, 0, 99, 0),
  (54, .return_, 1, 0, 0, 0)]
def ab_qX8_weigh : ab_C := []
set_option maxRecDepth 100000 in
theorem okX8_weigh : ab_tX8_weigh.all (ab_okE miX8_weigh ab_lX8) = true := by decide +kernel
theorem atX8_weigh {d pc : Nat} {K : ab_K} {ls : ab_L} {M : ab_M} (h : ab_vc miX8_weigh ab_qX8_weigh d K ab_tX8_weigh pc ls [] M) : ab_At miX8_weigh d pc ls [] M K := ab_vc_ok (L := ab_lX8) ab_loX8 ab_qX8_weigh ab_tX8_weigh okX8_weigh pc _ _ _ h
theorem caX8_weigh {d : Nat} {K : ab_K} {as : List ab_V} {M : ab_M} (hl : Nat.ble (ab_lo as).length 2 = true) (h : ab_At miX8_weigh d 0 (ab_lo as) [] M K) : ab_Call d 101 as M K := ab_Call_at (id := 101) (by decide +kernel) hl h
