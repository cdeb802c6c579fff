set_option maxRecDepth 100000 in
def ab_tX9_count : List ab_E := [(0, .iload_n 1, 1, 0, 0, 0),
  (1, .tableswitch 132 0 9 #[55, 63, 71, 79, 87, 95, 103, 111, 119, 127], 55, 0, 0, 0),
  (56, .aload_n 0, 1, 0, 0, 0),
  (57, .getfield 24, 3, 8, 2, 0),
  (60, .getfield 165, 3, 2, 0, 0),
  (63, .ireturn, 1, 0, 0, 0),
  (64, .aload_n 0, 1, 0, 0, 0),
  (65, .getfield 24, 3, 8, 2, 0),
  (68, .getfield 281, 3, 2, 1, 0),
  (71, .ireturn, 1, 0, 0, 0),
  (72, .aload_n 0, 1, 0, 0, 0),
  (73, .getfield 24, 3, 8, 2, 0),
  (76, .getfield 391, 3, 2, 2, 0),
  (79, .ireturn, 1, 0, 0, 0),
  (80, .aload_n 0, 1, 0, 0, 0),
  (81, .getfield 43, 3, 8, 5, 0),
  (84, .getfield 225, 3, 1, 0, 0),
  (87, .ireturn, 1, 0, 0, 0),
  (88, .aload_n 0, 1, 0, 0, 0),
  (89, .getfield 43, 3, 8, 5, 0),
  (92, .getfield 372, 3, 1, 1, 0),
  (95, .ireturn, 1, 0, 0, 0),
  (96, .aload_n 0, 1, 0, 0, 0),
  (97, .getfield 43, 3, 8, 5, 0),
  (100, .getfield 244, 3, 1, 2, 0),
  (103, .ireturn, 1, 0, 0, 0),
  (104, .aload_n 0, 1, 0, 0, 0),
  (105, .getfield 24, 3, 8, 2, 0),
  (108, .invokevirtual 394, 3, 56, 1, 2),
  (111, .ireturn, 1, 0, 0, 0),
  (112, .aload_n 0, 1, 0, 0, 0),
  (113, .getfield 14, 3, 8, 0, 0),
  (116, .invokevirtual 397, 3, 92, 1, 6),
  (119, .ireturn, 1, 0, 0, 0),
  (120, .aload_n 0, 1, 0, 0, 0),
  (121, .getfield 18, 3, 8, 1, 0),
  (124, .invokevirtual 397, 3, 92, 1, 6),
  (127, .ireturn, 1, 0, 0, 0),
  (128, .aload_n 0, 1, 0, 0, 0),
  (129, .invokevirtual 400, 3, 158, 1, 8),
  (132, .ireturn, 1, 0, 0, 0),
  (133, .iconst (-1), 1, 0, 0, 0),
  (134, .ireturn, 1, 0, 0, 0)]
def ab_qX9_count : ab_C := []
set_option maxRecDepth 100000 in
theorem okX9_count : ab_tX9_count.all (ab_okE miX9_count ab_lX9) = true := by decide +kernel
theorem atX9_count {d pc : Nat} {K : ab_K} {ls : ab_L} {M : ab_M} (h : ab_vc miX9_count ab_qX9_count d K ab_tX9_count pc ls [] M) : ab_At miX9_count d pc ls [] M K := ab_vc_ok (L := ab_lX9) ab_loX9 ab_qX9_count ab_tX9_count okX9_count pc _ _ _ h
theorem caX9_count {d : Nat} {K : ab_K} {as : List ab_V} {M : ab_M} (hl : Nat.ble (ab_lo as).length 2 = true) (h : ab_At miX9_count d 0 (ab_lo as) [] M K) : ab_Call d 146 as M K := ab_Call_at (id := 146) (by decide +kernel) hl h
set_option maxRecDepth 100000 in
def ab_tX9_finding : List ab_E := [(0, .aload_n 0, 1, 0, 0, 0),
  (1, .getfield 403, 3, 8, 13, 0),
  (4, .ireturn, 1, 0, 0, 0)]
def ab_qX9_finding : ab_C := []
set_option maxRecDepth 100000 in
theorem okX9_finding : ab_tX9_finding.all (ab_okE miX9_finding ab_lX9) = true := by decide +kernel
theorem atX9_finding {d pc : Nat} {K : ab_K} {ls : ab_L} {M : ab_M} (h : ab_vc miX9_finding ab_qX9_finding d K ab_tX9_finding pc ls [] M) : ab_At miX9_finding d pc ls [] M K := ab_vc_ok (L := ab_lX9) ab_loX9 ab_qX9_finding ab_tX9_finding okX9_finding pc _ _ _ h
theorem caX9_finding {d : Nat} {K : ab_K} {as : List ab_V} {M : ab_M} (hl : Nat.ble (ab_lo as).length 1 = true) (h : ab_At miX9_finding d 0 (ab_lo as) [] M K) : ab_Call d 147 as M K := ab_Call_at (id := 147) (by decide +kernel) hl h
set_option maxRecDepth 100000 in
def ab_tX9_findings : List ab_E := [(0, .iload_n 1, 1, 0, 0, 0),
  (1, .iconst 1, 1, 0, 0, 0),
  (2, .if_icmp .lt 8, 3, 0, 0, 0),
  (5, .iload_n 1, 1, 0, 0, 0),
  (6, .iconst 5, 1, 0, 0, 0),
  (7, .if_icmp .le 7, 3, 0, 0, 0),
  (10, .iconst (-1), 1, 0, 0, 0),
  (11, .goto 9, 3, 0, 0, 0),
  (14, .aload_n 0, 1, 0, 0, 0),
  (15, .getfield 89, 3, 8, 12, 0),
  (18, .iload_n 1, 1, 0, 0, 0),
  (19, .iaload, 1, 0, 0, 0),
  (20, .ireturn, 1, 0, 0, 0)]
def ab_qX9_findings : ab_C := []
set_option maxRecDepth 100000 in
theorem okX9_findings : ab_tX9_findings.all (ab_okE miX9_findings ab_lX9) = true := by decide +kernel
theorem atX9_findings {d pc : Nat} {K : ab_K} {ls : ab_L} {M : ab_M} (h : ab_vc miX9_findings ab_qX9_findings d K ab_tX9_findings pc ls [] M) : ab_At miX9_findings d pc ls [] M K := ab_vc_ok (L := ab_lX9) ab_loX9 ab_qX9_findings ab_tX9_findings okX9_findings pc _ _ _ h
theorem caX9_findings {d : Nat} {K : ab_K} {as : List ab_V} {M : ab_M} (hl : Nat.ble (ab_lo as).length 2 = true) (h : ab_At miX9_findings d 0 (ab_lo as) [] M K) : ab_Call d 148 as M K := ab_Call_at (id := 148) (by decide +kernel) hl h
set_option maxRecDepth 100000 in
def ab_tX9_digest : List ab_E := [(0, .ldc2_w 406, 3, 0, 0, 17),
  (3, .lstore_n 1, 1, 0, 0, 0),
  (4, .iconst 0, 1, 0, 0, 0),
  (5, .istore_n 3, 1, 0, 0, 0),
  (6, .iload_n 3, 1, 0, 0, 0),
  (7, .bipush 9, 2, 0, 0, 0),
  (9, .if_icmp .gt 22, 3, 0, 0, 0),
  (12, .ldc2_w 408, 3, 0, 0, 31),
  (15, .lload_n 1, 1, 0, 0, 0),
  (16, .lmul, 1, 0, 0, 0),
  (17, .aload_n 0, 1, 0, 0, 0),
  (18, .iload_n 3, 1, 0, 0, 0),
  (19, .invokevirtual 410, 3, 146, 2, 8),
  (22, .i2l, 1, 0, 0, 0),
  (23, .ladd, 1, 0, 0, 0),
  (24, .lstore_n 1, 1, 0, 0, 0),
  (25, .iinc 3 1, 3, 0, 0, 0),
  (28, .goto (-22), 3, 0, 0, 0),
  (31, .aload_n 0, 1, 0, 0, 0),
  (32, .getfield 43, 3, 8, 5, 0),
  (35, .lload_n 1, 1, 0, 0, 0),
  (36, .invokevirtual 413, 3, 42, 2, 1),
  (39, .lstore_n 1, 1, 0, 0, 0),
  (40, .aload_n 0, 1, 0, 0, 0),
  (41, .invokevirtual 171, 3, 156, 1, 8),
  (44, .iconst 0, 1, 0, 0, 0),
  (45, .istore_n 3, 1, 0, 0, 0),
  (46, .iload_n 3, 1, 0, 0, 0),
  (47, .aload_n 0, 1, 0, 0, 0),
  (48, .getfield 24, 3, 8, 2, 0),
  (51, .getfield 281, 3, 2, 1, 0),
  (54, .if_icmp .ge 39, 3, 0, 0, 0),
  (57, .iconst 0, 1, 0, 0, 0),
  (58, .istore 4, 2, 0, 0, 0),
  (60, .iload 4, 2, 0, 0, 0),
  (62, .iconst 2, 1, 0, 0, 0),
  (63, .if_icmp .gt 24, 3, 0, 0, 0),
  (66, .ldc2_w 408, 3, 0, 0, 31),
  (69, .lload_n 1, 1, 0, 0, 0),
  (70, .lmul, 1, 0, 0, 0),
  (71, .aload_n 0, 1, 0, 0, 0),
  (72, .iload_n 3, 1, 0, 0, 0),
  (73, .iload 4, 2, 0, 0, 0),
  (75, .invokevirtual 174, 3, 157, 3, 8),
  (78, .i2l, 1, 0, 0, 0),
  (79, .ladd, 1, 0, 0, 0),
  (80, .lstore_n 1, 1, 0, 0, 0),
  (81, .iinc 4 1, 3, 0, 0, 0),
  (84, .goto (-24), 3, 0, 0, 0),
  (87, .iinc 3 1, 3, 0, 0, 0),
  (90, .goto (-44), 3, 0, 0, 0),
  (93, .iconst 0, 1, 0, 0, 0),
  (94, .istore_n 3, 1, 0, 0, 0),
  (95, .iload_n 3, 1, 0, 0, 0),
  (96, .iconst 3, 1, 0, 0, 0),
  (97, .if_icmp .ge 39, 3, 0, 0, 0),
  (100, .ldc2_w 408, 3, 0, 0, 31),
  (103, .lload_n 1, 1, 0, 0, 0),
  (104, .lmul, 1, 0, 0, 0),
  (105, .aload_n 0, 1, 0, 0, 0),
  (106, .getfield 51, 3, 8, 7, 0),
  (109, .iload_n 3, 1, 0, 0, 0),
  (110, .baload, 1, 0, 0, 0),
  (111, .ifCond .eq 15, 3, 0, 0, 0),
  (114, .aload_n 0, 1, 0, 0, 0),
  (115, .getfield 47, 3, 8, 6, 0),
  (118, .iload_n 3, 1, 0, 0, 0),
  (119, .aaload, 1, 0, 0, 0),
  (120, .getfield 244, 3, 1, 2, 0),
  (123, .goto 4, 3, 0, 0, 0),
  (126, .iconst (-1), 1, 0, 0, 0),
  (127, .i2l, 1, 0, 0, 0),
  (128, .ladd, 1, 0, 0, 0),
  (129, .lstore_n 1, 1, 0, 0, 0),
  (130, .iinc 3 1, 3, 0, 0, 0),
  (133, .goto (-38), 3, 0, 0, 0),
  (136, .aload_n 0, 1, 0, 0, 0),
  (137, .getfield 18, 3, 8, 1, 0),
  (140, .aload_n 0, 1, 0, 0, 0),
  (141, .getfield 14, 3, 8, 0, 0),
  (144, .lload_n 1, 1, 0, 0, 0),
  (145, .invokevirtual 417, 3, 93, 2, 6),
  (148, .invokevirtual 417, 3, 93, 2, 6),
  (151, .lreturn, 1, 0, 0, 0)]
def ab_qX9_digest : ab_C := [(6, [true, true, false, true]), (46, [true, true, false, true]), (60, [true, true, false, true, true]), (95, [true, true, false, true])]
set_option maxRecDepth 100000 in
theorem okX9_digest : ab_tX9_digest.all (ab_okE miX9_digest ab_lX9) = true := by decide +kernel
theorem atX9_digest {d pc : Nat} {K : ab_K} {ls : ab_L} {M : ab_M} (h : ab_vc miX9_digest ab_qX9_digest d K ab_tX9_digest pc ls [] M) : ab_At miX9_digest d pc ls [] M K := ab_vc_ok (L := ab_lX9) ab_loX9 ab_qX9_digest ab_tX9_digest okX9_digest pc _ _ _ h
theorem caX9_digest {d : Nat} {K : ab_K} {as : List ab_V} {M : ab_M} (hl : Nat.ble (ab_lo as).length 5 = true) (h : ab_At miX9_digest d 0 (ab_lo as) [] M K) : ab_Call d 149 as M K := ab_Call_at (id := 149) (by decide +kernel) hl h
set_option maxRecDepth 100000 in
def ab_tX9_refuse : List ab_E := [(0, .aload_n 0, 1, 0, 0, 0),
  (1, .iload_n 1, 1, 0, 0, 0),
  (2, .putfield 403, 3, 8, 13, 0),
  (5, .iload_n 1, 1, 0, 0, 0),
  (6, .iconst 1, 1, 0, 0, 0),
  (7, .if_icmp .lt 18, 3, 0, 0, 0),
  (10, .iload_n 1, 1, 0, 0, 0),
  (11, .iconst 5, 1, 0, 0, 0),
  (12, .if_icmp .gt 13, 3, 0, 0, 0),
  (15, .aload_n 0, 1, 0, 0, 0),
  (16, .getfield 89, 3, 8, 12, 0),
  (19, .iload_n 1, 1, 0, 0, 0),
  (20, .dup2, 1, 0, 0, 0),
  (21, .iaload, 1, 0, 0, 0),
  (22, .iconst 1, 1, 0, 0, 0),
  (23, .iadd, 1, 0, 0, 0),
  (24, .iastore, 1, 0, 0, 0),
  (25, .bipush (-3), 2, 0, 0, 0),
  (27, .ireturn, 1, 0, 0, 0)]
def ab_qX9_refuse : ab_C := []
set_option maxRecDepth 100000 in
theorem okX9_refuse : ab_tX9_refuse.all (ab_okE miX9_refuse ab_lX9) = true := by decide +kernel
theorem atX9_refuse {d pc : Nat} {K : ab_K} {ls : ab_L} {M : ab_M} (h : ab_vc miX9_refuse ab_qX9_refuse d K ab_tX9_refuse pc ls [] M) : ab_At miX9_refuse d pc ls [] M K := ab_vc_ok (L := ab_lX9) ab_loX9 ab_qX9_refuse ab_tX9_refuse okX9_refuse pc _ _ _ h
theorem caX9_refuse {d : Nat} {K : ab_K} {as : List ab_V} {M : ab_M} (hl : Nat.ble (ab_lo as).length 2 = true) (h : ab_At miX9_refuse d 0 (ab_lo as) [] M K) : ab_Call d 150 as M K := ab_Call_at (id := 150) (by decide +kernel) hl h
set_option maxRecDepth 100000 in
def ab_tX9_tell : List ab_E := [(0, .aload_n 0, 1, 0, 0, 0),
  (1, .iload_n 1, 1, 0, 0, 0),
  (2, .putfield 269, 3, 8, 14, 0),
  (5, .iconst 1, 1, 0, 0, 0),
  (6, .ireturn, 1, 0, 0, 0)]
def ab_qX9_tell : ab_C := []
set_option maxRecDepth 100000 in
theorem okX9_tell : ab_tX9_tell.all (ab_okE miX9_tell ab_lX9) = true := by decide +kernel
theorem atX9_tell {d pc : Nat} {K : ab_K} {ls : ab_L} {M : ab_M} (h : ab_vc miX9_tell ab_qX9_tell d K ab_tX9_tell pc ls [] M) : ab_At miX9_tell d pc ls [] M K := ab_vc_ok (L := ab_lX9) ab_loX9 ab_qX9_tell ab_tX9_tell okX9_tell pc _ _ _ h
theorem caX9_tell {d : Nat} {K : ab_K} {as : List ab_V} {M : ab_M} (hl : Nat.ble (ab_lo as).length 2 = true) (h : ab_At miX9_tell d 0 (ab_lo as) [] M K) : ab_Call d 151 as M K := ab_Call_at (id := 151) (by decide +kernel) hl h
set_option maxRecDepth 100000 in
def ab_tX9_tellFraction : List ab_E := [(0, .lload_n 1, 1, 0, 0, 0),
  (1, .lload_n 3, 1, 0, 0, 0),
  (2, .invokestatic 418, 3, 65, 2, 0),
  (5, .lstore 5, 2, 0, 0, 0),
  (7, .lload 5, 2, 0, 0, 0),
  (9, .lconst 0, 1, 0, 0, 0),
  (10, .lcmp, 1, 0, 0, 0),
  (11, .ifCond .le 19, 3, 0, 0, 0),
  (14, .aload_n 0, 1, 0, 0, 0),
  (15, .lload_n 1, 1, 0, 0, 0),
  (16, .lload 5, 2, 0, 0, 0),
  (18, .ldiv, 1, 0, 0, 0),
  (19, .putfield 388, 3, 8, 15, 0),
  (22, .aload_n 0, 1, 0, 0, 0),
  (23, .lload_n 3, 1, 0, 0, 0),
  (24, .lload 5, 2, 0, 0, 0),
  (26, .ldiv, 1, 0, 0, 0),
  (27, .putfield 93, 3, 8, 16, 0),
  (30, .iconst 1, 1, 0, 0, 0),
  (31, .ireturn, 1, 0, 0, 0)]
def ab_qX9_tellFraction : ab_C := []
set_option maxRecDepth 100000 in
theorem okX9_tellFraction : ab_tX9_tellFraction.all (ab_okE miX9_tellFraction ab_lX9) = true := by decide +kernel
theorem atX9_tellFraction {d pc : Nat} {K : ab_K} {ls : ab_L} {M : ab_M} (h : ab_vc miX9_tellFraction ab_qX9_tellFraction d K ab_tX9_tellFraction pc ls [] M) : ab_At miX9_tellFraction d pc ls [] M K := ab_vc_ok (L := ab_lX9) ab_loX9 ab_qX9_tellFraction ab_tX9_tellFraction okX9_tellFraction pc _ _ _ h
theorem caX9_tellFraction {d : Nat} {K : ab_K} {as : List ab_V} {M : ab_M} (hl : Nat.ble (ab_lo as).length 7 = true) (h : ab_At miX9_tellFraction d 0 (ab_lo as) [] M K) : ab_Call d 152 as M K := ab_Call_at (id := 152) (by decide +kernel) hl h
set_option maxRecDepth 100000 in
def ab_tX9_refusalOf : List ab_E := [(0, .aload_n 1, 1, 0, 0, 0),
  (1, .iload_n 2, 1, 0, 0, 0),
  (2, .invokevirtual 97, 3, 83, 2, 6),
  (5, .ifCond .ne 5, 3, 0, 0, 0),
  (8, .iconst (-1), 1, 0, 0, 0),
  (9, .ireturn, 1, 0, 0, 0),
  (10, .aload_n 1, 1, 0, 0, 0),
  (11, .iload_n 2, 1, 0, 0, 0),
  (12, .invokevirtual 131, 3, 84, 2, 6),
  (15, .ifCond .eq 7, 3, 0, 0, 0),
  (18, .iconst 0, 1, 0, 0, 0),
  (19, .goto 8, 3, 0, 0, 0),
  (22, .aload_n 0, 1, 0, 0, 0),
  (23, .iconst 1, 1, 0, 0, 0),
  (24, .invokevirtual 101, 3, 150, 2, 8),
  (27, .ireturn, 1, 0, 0, 0)]
def ab_qX9_refusalOf : ab_C := []
set_option maxRecDepth 100000 in
theorem okX9_refusalOf : ab_tX9_refusalOf.all (ab_okE miX9_refusalOf ab_lX9) = true := by decide +kernel
theorem atX9_refusalOf {d pc : Nat} {K : ab_K} {ls : ab_L} {M : ab_M} (h : ab_vc miX9_refusalOf ab_qX9_refusalOf d K ab_tX9_refusalOf pc ls [] M) : ab_At miX9_refusalOf d pc ls [] M K := ab_vc_ok (L := ab_lX9) ab_loX9 ab_qX9_refusalOf ab_tX9_refusalOf okX9_refusalOf pc _ _ _ h
theorem caX9_refusalOf {d : Nat} {K : ab_K} {as : List ab_V} {M : ab_M} (hl : Nat.ble (ab_lo as).length 3 = true) (h : ab_At miX9_refusalOf d 0 (ab_lo as) [] M K) : ab_Call d 153 as M K := ab_Call_at (id := 153) (by decide +kernel) hl h
set_option maxRecDepth 100000 in
def ab_tX9_refusalOf_ : List ab_E := [(0, .aload_n 0, 1, 0, 0, 0),
  (1, .aload_n 1, 1, 0, 0, 0),
  (2, .iload_n 2, 1, 0, 0, 0),
  (3, .invokevirtual 124, 3, 153, 3, 8),
  (6, .istore 4, 2, 0, 0, 0),
  (8, .iload 4, 2, 0, 0, 0),
  (10, .ifCond .eq 6, 3, 0, 0, 0),
  (13, .iload 4, 2, 0, 0, 0),
  (15, .ireturn, 1, 0, 0, 0),
  (16, .aload_n 1, 1, 0, 0, 0),
  (17, .iload_n 2, 1, 0, 0, 0),
  (18, .iload_n 3, 1, 0, 0, 0),
  (19, .invokevirtual 422, 3, 85, 3, 6),
  (22, .ifCond .eq 7, 3, 0, 0, 0),
  (25, .iconst 0, 1, 0, 0, 0),
  (26, .goto 8, 3, 0, 0, 0),
  (29, .aload_n 0, 1, 0, 0, 0),
  (30, .iconst 2, 1, 0, 0, 0),
  (31, .invokevirtual 101, 3, 150, 2, 8),
  (34, .ireturn, 1, 0, 0, 0)]
def ab_qX9_refusalOf_ : ab_C := []
set_option maxRecDepth 100000 in
theorem okX9_refusalOf_ : ab_tX9_refusalOf_.all (ab_okE miX9_refusalOf_ ab_lX9) = true := by decide +kernel
theorem atX9_refusalOf_ {d pc : Nat} {K : ab_K} {ls : ab_L} {M : ab_M} (h : ab_vc miX9_refusalOf_ ab_qX9_refusalOf_ d K ab_tX9_refusalOf_ pc ls [] M) : ab_At miX9_refusalOf_ d pc ls [] M K := ab_vc_ok (L := ab_lX9) ab_loX9 ab_qX9_refusalOf_ ab_tX9_refusalOf_ okX9_refusalOf_ pc _ _ _ h
theorem caX9_refusalOf_ {d : Nat} {K : ab_K} {as : List ab_V} {M : ab_M} (hl : Nat.ble (ab_lo as).length 5 = true) (h : ab_At miX9_refusalOf_ d 0 (ab_lo as) [] M K) : ab_Call d 154 as M K := ab_Call_at (id := 154) (by decide +kernel) hl h
set_option maxRecDepth 100000 in
def ab_tX9_refusalAt : List ab_E := [(0, .iload_n 1, 1, 0, 0, 0),
  (1, .ifCond .ge 5, 3, 0, 0, 0),
  (4, .iconst (-1), 1, 0, 0, 0),
  (5, .ireturn, 1, 0, 0, 0),
  (6, .aload_n 0, 1, 0, 0, 0),
  (7, .getfield 43, 3, 8, 5, 0),
  (10, .invokevirtual 187, 3, 26, 1, 1),
  (13, .ifCond .ne 6, 3, 0, 0, 0),
  (16, .bipush (-4), 2, 0, 0, 0),
  (18, .ireturn, 1, 0, 0, 0),
  (19, .iload_n 1, 1, 0, 0, 0),
  (20, .aload_n 0, 1, 0, 0, 0),
  (21, .getfield 43, 3, 8, 5, 0),
  (24, .getfield 372, 3, 1, 1, 0),
  (27, .if_icmp .ge 7, 3, 0, 0, 0),
  (30, .iconst 0, 1, 0, 0, 0),
  (31, .goto 8, 3, 0, 0, 0),
  (34, .aload_n 0, 1, 0, 0, 0),
  (35, .iconst 2, 1, 0, 0, 0),
  (36, .invokevirtual 101, 3, 150, 2, 8),
  (39, .ireturn, 1, 0, 0, 0)]
def ab_qX9_refusalAt : ab_C := []
set_option maxRecDepth 100000 in
theorem okX9_refusalAt : ab_tX9_refusalAt.all (ab_okE miX9_refusalAt ab_lX9) = true := by decide +kernel
theorem atX9_refusalAt {d pc : Nat} {K : ab_K} {ls : ab_L} {M : ab_M} (h : ab_vc miX9_refusalAt ab_qX9_refusalAt d K ab_tX9_refusalAt pc ls [] M) : ab_At miX9_refusalAt d pc ls [] M K := ab_vc_ok (L := ab_lX9) ab_loX9 ab_qX9_refusalAt ab_tX9_refusalAt okX9_refusalAt pc _ _ _ h
theorem caX9_refusalAt {d : Nat} {K : ab_K} {as : List ab_V} {M : ab_M} (hl : Nat.ble (ab_lo as).length 2 = true) (h : ab_At miX9_refusalAt d 0 (ab_lo as) [] M K) : ab_Call d 155 as M K := ab_Call_at (id := 155) (by decide +kernel) hl h
set_option maxRecDepth 100000 in
def ab_tX9_pursue : List ab_E := [(0, .aload_n 0, 1, 0, 0, 0),
  (1, .getfield 58, 3, 8, 8, 0),
  (4, .aload_n 0, 1, 0, 0, 0),
  (5, .getfield 24, 3, 8, 2, 0),
  (8, .invokevirtual 425, 3, 1, 2, 0),
  (11, .aload_n 0, 1, 0, 0, 0),
  (12, .getfield 58, 3, 8, 8, 0),
  (15, .aload_n 0, 1, 0, 0, 0),
  (16, .getfield 24, 3, 8, 2, 0),
  (19, .aload_n 0, 1, 0, 0, 0),
  (20, .getfield 43, 3, 8, 5, 0),
  (23, .invokevirtual 381, 3, 4, 3, 0),
  (26, .return_, 1, 0, 0, 0)]
def ab_qX9_pursue : ab_C := []
set_option maxRecDepth 100000 in
theorem okX9_pursue : ab_tX9_pursue.all (ab_okE miX9_pursue ab_lX9) = true := by decide +kernel
theorem atX9_pursue {d pc : Nat} {K : ab_K} {ls : ab_L} {M : ab_M} (h : ab_vc miX9_pursue ab_qX9_pursue d K ab_tX9_pursue pc ls [] M) : ab_At miX9_pursue d pc ls [] M K := ab_vc_ok (L := ab_lX9) ab_loX9 ab_qX9_pursue ab_tX9_pursue okX9_pursue pc _ _ _ h
theorem caX9_pursue {d : Nat} {K : ab_K} {as : List ab_V} {M : ab_M} (hl : Nat.ble (ab_lo as).length 1 = true) (h : ab_At miX9_pursue d 0 (ab_lo as) [] M K) : ab_Call d 156 as M K := ab_Call_at (id := 156) (by decide +kernel) hl h
set_option maxRecDepth 100000 in
def ab_tX9_ofHound : List ab_E := [(0, .iload_n 2, 1, 0, 0, 0),
  (1, .ifCond .ne 13, 3, 0, 0, 0),
  (4, .aload_n 0, 1, 0, 0, 0),
  (5, .getfield 24, 3, 8, 2, 0),
  (8, .getfield 180, 3, 2, 3, 0),
  (11, .iload_n 1, 1, 0, 0, 0),
  (12, .iaload, 1, 0, 0, 0),
  (13, .ireturn, 1, 0, 0, 0),
  (14, .aload_n 0, 1, 0, 0, 0),
  (15, .getfield 43, 3, 8, 5, 0),
  (18, .invokevirtual 187, 3, 26, 1, 1),
  (21, .ifCond .ne 15, 3, 0, 0, 0),
  (24, .iload_n 2, 1, 0, 0, 0),
  (25, .iconst 1, 1, 0, 0, 0),
  (26, .if_icmp .ne 8, 3, 0, 0, 0),
  (29, .bipush (-9), 2, 0, 0, 0),
  (31, .goto 4, 3, 0, 0, 0),
  (34, .iconst 0, 1, 0, 0, 0),
  (35, .ireturn, 1, 0, 0, 0),
  (36, .iload_n 2, 1, 0, 0, 0),
  (37, .iconst 1, 1, 0, 0, 0),
  (38, .if_icmp .ne 23, 3, 0, 0, 0),
  (41, .aload_n 0, 1, 0, 0, 0),
  (42, .getfield 58, 3, 8, 8, 0),
  (45, .getfield 272, 3, 0, 11, 0),
  (48, .iload_n 1, 1, 0, 0, 0),
  (49, .aaload, 1, 0, 0, 0),
  (50, .aload_n 0, 1, 0, 0, 0),
  (51, .getfield 43, 3, 8, 5, 0),
  (54, .invokevirtual 209, 3, 28, 1, 1),
  (57, .iaload, 1, 0, 0, 0),
  (58, .goto 12, 3, 0, 0, 0),
  (61, .aload_n 0, 1, 0, 0, 0),
  (62, .getfield 58, 3, 8, 8, 0),
  (65, .getfield 206, 3, 0, 13, 0),
  (68, .iload_n 1, 1, 0, 0, 0),
  (69, .iaload, 1, 0, 0, 0),
  (70, .ireturn, 1, 0, 0, 0)]
def ab_qX9_ofHound : ab_C := []
set_option maxRecDepth 100000 in
theorem okX9_ofHound : ab_tX9_ofHound.all (ab_okE miX9_ofHound ab_lX9) = true := by decide +kernel
theorem atX9_ofHound {d pc : Nat} {K : ab_K} {ls : ab_L} {M : ab_M} (h : ab_vc miX9_ofHound ab_qX9_ofHound d K ab_tX9_ofHound pc ls [] M) : ab_At miX9_ofHound d pc ls [] M K := ab_vc_ok (L := ab_lX9) ab_loX9 ab_qX9_ofHound ab_tX9_ofHound okX9_ofHound pc _ _ _ h
theorem caX9_ofHound {d : Nat} {K : ab_K} {as : List ab_V} {M : ab_M} (hl : Nat.ble (ab_lo as).length 3 = true) (h : ab_At miX9_ofHound d 0 (ab_lo as) [] M K) : ab_Call d 157 as M K := ab_Call_at (id := 157) (by decide +kernel) hl h
set_option maxRecDepth 100000 in
def ab_tX9_manyKept : List ab_E := [(0, .iconst 0, 1, 0, 0, 0),
  (1, .istore_n 1, 1, 0, 0, 0),
  (2, .iconst 0, 1, 0, 0, 0),
  (3, .istore_n 2, 1, 0, 0, 0),
  (4, .iload_n 2, 1, 0, 0, 0),
  (5, .iconst 3, 1, 0, 0, 0),
  (6, .if_icmp .ge 26, 3, 0, 0, 0),
  (9, .iload_n 1, 1, 0, 0, 0),
  (10, .aload_n 0, 1, 0, 0, 0),
  (11, .getfield 51, 3, 8, 7, 0),
  (14, .iload_n 2, 1, 0, 0, 0),
  (15, .baload, 1, 0, 0, 0),
  (16, .ifCond .eq 7, 3, 0, 0, 0),
  (19, .iconst 1, 1, 0, 0, 0),
  (20, .goto 4, 3, 0, 0, 0),
  (23, .iconst 0, 1, 0, 0, 0),
  (24, .iadd, 1, 0, 0, 0),
  (25, .istore_n 1, 1, 0, 0, 0),
  (26, .iinc 2 1, 3, 0, 0, 0),
  (29, .goto (-25), 3, 0, 0, 0),
  (32, .iload_n 1, 1, 0, 0, 0),
  (33, .ireturn, 1, 0, 0, 0)]
def ab_qX9_manyKept : ab_C := [(4, [true, true, true])]
set_option maxRecDepth 100000 in
theorem okX9_manyKept : ab_tX9_manyKept.all (ab_okE miX9_manyKept ab_lX9) = true := by decide +kernel
theorem atX9_manyKept {d pc : Nat} {K : ab_K} {ls : ab_L} {M : ab_M} (h : ab_vc miX9_manyKept ab_qX9_manyKept d K ab_tX9_manyKept pc ls [] M) : ab_At miX9_manyKept d pc ls [] M K := ab_vc_ok (L := ab_lX9) ab_loX9 ab_qX9_manyKept ab_tX9_manyKept okX9_manyKept pc _ _ _ h
theorem caX9_manyKept {d : Nat} {K : ab_K} {as : List ab_V} {M : ab_M} (hl : Nat.ble (ab_lo as).length 3 = true) (h : ab_At miX9_manyKept d 0 (ab_lo as) [] M K) : ab_Call d 158 as M K := ab_Call_at (id := 158) (by decide +kernel) hl h
set_option maxRecDepth 100000 in
def ab_tX9_areSeen : List ab_E := [(0, .iconst 0, 1, 0, 0, 0),
  (1, .istore_n 2, 1, 0, 0, 0),
  (2, .iload_n 2, 1, 0, 0, 0),
  (3, .iload_n 1, 1, 0, 0, 0),
  (4, .if_icmp .ge 25, 3, 0, 0, 0),
  (7, .aload_n 0, 1, 0, 0, 0),
  (8, .iload_n 2, 1, 0, 0, 0),
  (9, .iaload, 1, 0, 0, 0),
  (10, .ifCond .ge 13, 3, 0, 0, 0),
  (13, .aload_n 0, 1, 0, 0, 0),
  (14, .iload_n 2, 1, 0, 0, 0),
  (15, .iaload, 1, 0, 0, 0),
  (16, .bipush (-9), 2, 0, 0, 0),
  (18, .if_icmp .eq 5, 3, 0, 0, 0),
  (21, .iconst 0, 1, 0, 0, 0),
  (22, .ireturn, 1, 0, 0, 0),
  (23, .iinc 2 1, 3, 0, 0, 0),
  (26, .goto (-24), 3, 0, 0, 0),
  (29, .iconst 1, 1, 0, 0, 0),
  (30, .ireturn, 1, 0, 0, 0)]
def ab_qX9_areSeen : ab_C := [(2, [true, true, true])]
set_option maxRecDepth 100000 in
theorem okX9_areSeen : ab_tX9_areSeen.all (ab_okE miX9_areSeen ab_lX9) = true := by decide +kernel
theorem atX9_areSeen {d pc : Nat} {K : ab_K} {ls : ab_L} {M : ab_M} (h : ab_vc miX9_areSeen ab_qX9_areSeen d K ab_tX9_areSeen pc ls [] M) : ab_At miX9_areSeen d pc ls [] M K := ab_vc_ok (L := ab_lX9) ab_loX9 ab_qX9_areSeen ab_tX9_areSeen okX9_areSeen pc _ _ _ h
theorem caX9_areSeen {d : Nat} {K : ab_K} {as : List ab_V} {M : ab_M} (hl : Nat.ble (ab_lo as).length 3 = true) (h : ab_At miX9_areSeen d 0 (ab_lo as) [] M K) : ab_Call d 159 as M K := ab_Call_at (id := 159) (by decide +kernel) hl h
