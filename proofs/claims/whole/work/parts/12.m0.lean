def p_Lv_rowIn : mm_P := ([(0, .iload_n 0, 1, 0), (1, .bipush 31, 2, 31), (3, .iand, 1, 0), (4, .ireturn, 1, 0)], [], [], [], [], [(0, [0])], [], 2)
def f_Lv_rowIn : mm_F := fun args h => mm_ga [1] args (mm_run p_Lv_rowIn (mm_fu + 1) 0 args [] h)
set_option maxRecDepth 100000 in
theorem e_Lv_rowIn_0 (f : Nat) (v0 : Int32) (h : mm_H) : mm_run p_Lv_rowIn (f + 1) 0 [.int v0] [] h =
  some (some (.int (v0 &&& 31)), h) := rfl
theorem e_Lv_rowIn (v0 : Int32) (h : mm_H) : f_Lv_rowIn [.int v0] h =
  some (some (.int (v0 &&& 31)), h) := (mm_ga_is rfl).trans (e_Lv_rowIn_0 mm_fu v0 h)
set_option maxRecDepth 100000 in
theorem i_Lv_rowIn (l : Launch) : mm_Imp l yX2_rowIn cX2_rowIn 1 (some .int) 1 f_Lv_rowIn := mm_imp l (P := p_Lv_rowIn) mm_cls_ok mm_sys_ok (by decide) (mm_Pok_of (fun _ h => absurd h List.not_mem_nil) (fun _ h => absurd h List.not_mem_nil) (fun _ h => absurd h List.not_mem_nil) (fun _ h => absurd h List.not_mem_nil)) (by decide +kernel) rfl (cats := [1]) (fun as h r e => ⟨(mm_ga_inv e).1, (mm_ga_inv e).2⟩) rfl (by decide)
theorem v_Lv_rowIn (l : Launch) {own : String} {i n0 : Nat} (hl : Cond.methodLink own i yX2_rowIn ∈ mm_tbl ∨ ∃ host, Cond.methodLinkNest own i yX2_rowIn host ∈ mm_nest) (hn : 2 ≤ n0) : mm_cok l own n0 i (1, 1, 1, f_Lv_rowIn) := Or.inr (Or.inl ⟨rfl, yX2_rowIn, cX2_rowIn, 1, (some .int), 1, i_Lv_rowIn l, hn, by decide, by decide +kernel, hl, q_995, q_178, q_996⟩)
def p_Lv_codeWith : mm_P := ([(0, .iconst 0, 1, 0), (1, .istore_n 2, 1, 0), (2, .iload_n 2, 1, 0), (3, .aload_n 0, 1, 0), (4, .getfield 18, 3, 0), (7, .if_icmp .ge 29, 3, 0), (10, .aload_n 0, 1, 0), (11, .getfield 9, 3, 0), (14, .iload_n 2, 1, 0), (15, .iaload, 1, 0), (16, .invokestatic 61, 3, 0), (19, .iload_n 1, 1, 0), (20, .if_icmp .ne 10, 3, 0), (23, .aload_n 0, 1, 0), (24, .getfield 9, 3, 0), (27, .iload_n 2, 1, 0), (28, .iaload, 1, 0), (29, .ireturn, 1, 0), (30, .iinc 2 1, 3, 1), (33, .goto (-31), 3, 0), (36, .iconst (-1), 1, (-1)), (37, .ireturn, 1, 0)], [(9, 2, 0, 4), (18, 2, 2, 0)], [(61, 1, 1, 1, f_Lv_rowIn)], [], [], [(0, [0, 1]), (2, [0, 1, 2])], [], 2)
def f_Lv_codeWith : mm_F := fun args h => mm_ga [1, 1] args (mm_gd 2 args h (mm_run p_Lv_codeWith (mm_fu + 1) 0 args [] h))
set_option maxRecDepth 100000 in
theorem e_Lv_codeWith_0 (f : Nat) (t : Nat) (v1 : Int32) (h : mm_H) : mm_run p_Lv_codeWith (f + 1) 0 [.ref t, .int v1] [] h =
  mm_run p_Lv_codeWith f 2 [.ref t, .int v1, .int 0] [] h := rfl
theorem e_Lv_codeWith (t : Nat) (v1 : Int32) (h : mm_H) {fs : List Value} (hb : h t = some (.inr (2, fs))) : f_Lv_codeWith [.ref t, .int v1] h =
  mm_run p_Lv_codeWith mm_fu 2 [.ref t, .int v1, .int 0] [] h := (mm_ga_is rfl).trans ((mm_gd_is hb).trans (e_Lv_codeWith_0 mm_fu t v1 h))
set_option maxRecDepth 100000 in
theorem e_Lv_codeWith_2 (f : Nat) (t : Nat) (v1 : Int32) (v2 : Int32) (h : mm_H) : mm_run p_Lv_codeWith (f + 1) 2 [.ref t, .int v1, .int v2] [] h =
  (mm_gi 2 2 h t).bind fun x1 =>
  if v2 < x1 then
    (mm_gr 2 0 h t).bind fun r2 =>
    (mm_li h r2 v2).bind fun x3 =>
    mm_ci (f_Lv_rowIn [.int x3] h) fun x5 h4 =>
    if x5 = v1 then
      (mm_gr 2 0 h4 t).bind fun r6 =>
      (mm_li h4 r6 v2).bind fun x7 =>
      some (some (.int x7), h4)
    else
      mm_run p_Lv_codeWith f 2 [.ref t, .int v1, .int (v2 + 1)] [] h4
  else
    some (some (.int (-1)), h) := rfl
set_option maxRecDepth 100000 in
theorem i_Lv_codeWith (l : Launch) : mm_Imp l yX2_codeWith cX2_codeWith 3 (some .int) 2 f_Lv_codeWith := mm_imp l (P := p_Lv_codeWith) mm_cls_ok mm_sys_ok (by decide) (mm_Pok_of (List.forall_mem_cons.mpr ⟨k_X2_9, (List.forall_mem_cons.mpr ⟨k_X2_18, (fun _ h => absurd h List.not_mem_nil)⟩)⟩) (List.forall_mem_cons.mpr ⟨v_Lv_rowIn l (Or.inl q_994) (by decide), (fun _ h => absurd h List.not_mem_nil)⟩) (fun _ h => absurd h List.not_mem_nil) (fun _ h => absurd h List.not_mem_nil)) (by decide +kernel) rfl (cats := [1, 1]) (fun as h r e => ⟨(mm_ga_inv e).1, (mm_gd_inv (mm_ga_inv e).2).1⟩) rfl (by decide)
theorem v_Lv_codeWith (l : Launch) {own : String} {i n0 : Nat} (hl : Cond.methodLink own i yX2_codeWith ∈ mm_tbl) (hn : 3 ≤ n0) : mm_cok l own n0 i (0, 1, 1, f_Lv_codeWith) := Or.inr (Or.inr ⟨rfl, yX2_codeWith, cX2_codeWith, 3, (some .int), 2, 2, TX2, 6, i_Lv_codeWith l, hn, by decide, by decide +kernel, rfl, fun _ _ _ e => (mm_gd_inv (mm_ga_inv e).2).2, hl, q_1244, q_1245, q_178, q_1246⟩)
def p_Bn_gather : mm_P := ([(0, .iconst 0, 1, 0), (1, .istore_n 3, 1, 0), (2, .iconst 0, 1, 0), (3, .istore 4, 2, 0), (5, .iload 4, 2, 0), (7, .bipush 30, 2, 30), (9, .if_icmp .ge 47, 3, 0), (12, .iload_n 2, 1, 0), (13, .iload 4, 2, 0), (15, .ishr, 1, 0), (16, .iconst 1, 1, 1), (17, .iand, 1, 0), (18, .ifCond .eq 12, 3, 0), (21, .aload_n 1, 1, 0), (22, .iload 4, 2, 0), (24, .invokevirtual 47, 3, 0), (27, .goto 4, 3, 0), (30, .iconst (-1), 1, (-1)), (31, .istore 5, 2, 0), (33, .iload 5, 2, 0), (35, .iconst (-1), 1, (-1)), (36, .if_icmp .eq 14, 3, 0), (39, .aload_n 0, 1, 0), (40, .getfield 9, 3, 0), (43, .iload_n 3, 1, 0), (44, .iload 5, 2, 0), (46, .iastore, 1, 0), (47, .iinc 3 1, 3, 1), (50, .iinc 4 1, 3, 1), (53, .goto (-48), 3, 0), (56, .iload_n 3, 1, 0), (57, .ireturn, 1, 0)], [(9, 0, 0, 4)], [(47, 0, 1, 1, f_Lv_codeWith)], [], [], [(0, [0, 1, 2]), (5, [0, 1, 2, 3, 4])], [], 2)
def f_Bn_gather : mm_F := fun args h => mm_ga [1, 1, 1] args (mm_gd 0 args h (mm_run p_Bn_gather (mm_fu + 1) 0 args [] h))
set_option maxRecDepth 100000 in
theorem e_Bn_gather_0 (f : Nat) (t : Nat) (v1 : Nat) (v2 : Int32) (h : mm_H) : mm_run p_Bn_gather (f + 1) 0 [.ref t, .ref v1, .int v2] [] h =
  mm_run p_Bn_gather f 5 [.ref t, .ref v1, .int v2, .int 0, .int 0] [] h := rfl
theorem e_Bn_gather (t : Nat) (v1 : Nat) (v2 : Int32) (h : mm_H) {fs : List Value} (hb : h t = some (.inr (0, fs))) : f_Bn_gather [.ref t, .ref v1, .int v2] h =
  mm_run p_Bn_gather mm_fu 5 [.ref t, .ref v1, .int v2, .int 0, .int 0] [] h := (mm_ga_is rfl).trans ((mm_gd_is hb).trans (e_Bn_gather_0 mm_fu t v1 v2 h))
set_option maxRecDepth 100000 in
theorem e_Bn_gather_5 (f : Nat) (t : Nat) (v1 : Nat) (v2 : Int32) (v3 : Int32) (v4 : Int32) (h : mm_H) : mm_run p_Bn_gather (f + 1) 5 [.ref t, .ref v1, .int v2, .int v3, .int v4] [] h =
  if v4 < 30 then
    if ((v2 >>> (v4 &&& 31)) &&& 1) = 0 then
      mm_run p_Bn_gather f 5 [.ref t, .ref v1, .int v2, .int v3, .int (v4 + 1)] [] h
    else
      mm_ci (f_Lv_codeWith [.ref v1, .int v4] h) fun x2 h1 =>
      if x2 = (-1) then
        mm_run p_Bn_gather f 5 [.ref t, .ref v1, .int v2, .int v3, .int (v4 + 1)] [] h1
      else
        (mm_gr 0 0 h1 t).bind fun r3 =>
        (mm_si h1 r3 v3 x2).bind fun h4 =>
        mm_run p_Bn_gather f 5 [.ref t, .ref v1, .int v2, .int (v3 + 1), .int (v4 + 1)] [] h4
  else
    some (some (.int v3), h) := rfl
set_option maxRecDepth 100000 in
theorem i_Bn_gather (l : Launch) : mm_Imp l yX0_gather cX0_gather 6 (some .int) 3 f_Bn_gather := mm_imp l (P := p_Bn_gather) mm_cls_ok mm_sys_ok (by decide) (mm_Pok_of (List.forall_mem_cons.mpr ⟨k_X0_9, (fun _ h => absurd h List.not_mem_nil)⟩) (List.forall_mem_cons.mpr ⟨v_Lv_codeWith l q_1527 (by decide), (fun _ h => absurd h List.not_mem_nil)⟩) (fun _ h => absurd h List.not_mem_nil) (fun _ h => absurd h List.not_mem_nil)) (by decide +kernel) rfl (cats := [1, 1, 1]) (fun as h r e => ⟨(mm_ga_inv e).1, (mm_gd_inv (mm_ga_inv e).2).1⟩) rfl (by decide)
theorem v_Bn_gather (l : Launch) {own : String} {i n0 : Nat} (hl : Cond.methodLink own i yX0_gather ∈ mm_tbl) (hn : 4 ≤ n0) : mm_cok l own n0 i (0, 2, 1, f_Bn_gather) := Or.inr (Or.inr ⟨rfl, yX0_gather, cX0_gather, 6, (some .int), 3, 0, TX0, 6, i_Bn_gather l, hn, by decide, by decide +kernel, rfl, fun _ _ _ e => (mm_gd_inv (mm_ga_inv e).2).2, hl, q_1525, q_46, q_173, q_1526⟩)
def p_Bn_firstBehind : mm_P := ([(0, .iconst (-1), 1, (-1)), (1, .istore_n 3, 1, 0), (2, .iconst 0, 1, 0), (3, .istore 4, 2, 0), (5, .iload 4, 2, 0), (7, .iload_n 2, 1, 0), (8, .if_icmp .ge 44, 3, 0), (11, .aload_n 0, 1, 0), (12, .getfield 15, 3, 0), (15, .iload 4, 2, 0), (17, .iaload, 1, 0), (18, .iload_n 1, 1, 0), (19, .if_icmp .le 27, 3, 0), (22, .iload_n 3, 1, 0), (23, .iconst (-1), 1, (-1)), (24, .if_icmp .eq 19, 3, 0), (27, .aload_n 0, 1, 0), (28, .getfield 15, 3, 0), (31, .iload 4, 2, 0), (33, .iaload, 1, 0), (34, .aload_n 0, 1, 0), (35, .getfield 15, 3, 0), (38, .iload_n 3, 1, 0), (39, .iaload, 1, 0), (40, .if_icmp .ge 6, 3, 0), (43, .iload 4, 2, 0), (45, .istore_n 3, 1, 0), (46, .iinc 4 1, 3, 1), (49, .goto (-44), 3, 0), (52, .iload_n 3, 1, 0), (53, .ireturn, 1, 0)], [(15, 0, 1, 4)], [], [], [], [(0, [0, 1, 2]), (5, [0, 1, 2, 3, 4])], [], 2)
def f_Bn_firstBehind : mm_F := fun args h => mm_ga [1, 1, 1] args (mm_gd 0 args h (mm_run p_Bn_firstBehind (mm_fu + 1) 0 args [] h))
set_option maxRecDepth 100000 in
theorem e_Bn_firstBehind_0 (f : Nat) (t : Nat) (v1 : Int32) (v2 : Int32) (h : mm_H) : mm_run p_Bn_firstBehind (f + 1) 0 [.ref t, .int v1, .int v2] [] h =
  mm_run p_Bn_firstBehind f 5 [.ref t, .int v1, .int v2, .int (-1), .int 0] [] h := rfl
theorem e_Bn_firstBehind (t : Nat) (v1 : Int32) (v2 : Int32) (h : mm_H) {fs : List Value} (hb : h t = some (.inr (0, fs))) : f_Bn_firstBehind [.ref t, .int v1, .int v2] h =
  mm_run p_Bn_firstBehind mm_fu 5 [.ref t, .int v1, .int v2, .int (-1), .int 0] [] h := (mm_ga_is rfl).trans ((mm_gd_is hb).trans (e_Bn_firstBehind_0 mm_fu t v1 v2 h))
set_option maxRecDepth 100000 in
theorem e_Bn_firstBehind_5 (f : Nat) (t : Nat) (v1 : Int32) (v2 : Int32) (v3 : Int32) (v4 : Int32) (h : mm_H) : mm_run p_Bn_firstBehind (f + 1) 5 [.ref t, .int v1, .int v2, .int v3, .int v4] [] h =
  if v4 < v2 then
    (mm_gr 0 1 h t).bind fun r1 =>
    (mm_li h r1 v4).bind fun x2 =>
    if v1 < x2 then
      if v3 = (-1) then
        mm_run p_Bn_firstBehind f 5 [.ref t, .int v1, .int v2, .int v4, .int (v4 + 1)] [] h
      else
        (mm_gr 0 1 h t).bind fun r3 =>
        (mm_li h r3 v4).bind fun x4 =>
        (mm_gr 0 1 h t).bind fun r5 =>
        (mm_li h r5 v3).bind fun x6 =>
        if x4 < x6 then
          mm_run p_Bn_firstBehind f 5 [.ref t, .int v1, .int v2, .int v4, .int (v4 + 1)] [] h
        else
          mm_run p_Bn_firstBehind f 5 [.ref t, .int v1, .int v2, .int v3, .int (v4 + 1)] [] h
    else
      mm_run p_Bn_firstBehind f 5 [.ref t, .int v1, .int v2, .int v3, .int (v4 + 1)] [] h
  else
    some (some (.int v3), h) := rfl
set_option maxRecDepth 100000 in
theorem i_Bn_firstBehind (l : Launch) : mm_Imp l yX0_firstBehind cX0_firstBehind 5 (some .int) 1 f_Bn_firstBehind := mm_imp l (P := p_Bn_firstBehind) mm_cls_ok mm_sys_ok (by decide) (mm_Pok_of (List.forall_mem_cons.mpr ⟨k_X0_15, (fun _ h => absurd h List.not_mem_nil)⟩) (fun _ h => absurd h List.not_mem_nil) (fun _ h => absurd h List.not_mem_nil) (fun _ h => absurd h List.not_mem_nil)) (by decide +kernel) rfl (cats := [1, 1, 1]) (fun as h r e => ⟨(mm_ga_inv e).1, (mm_gd_inv (mm_ga_inv e).2).1⟩) rfl (by decide)
theorem v_Bn_firstBehind (l : Launch) {own : String} {i n0 : Nat} (hl : Cond.methodLink own i yX0_firstBehind ∈ mm_tbl) (hn : 2 ≤ n0) : mm_cok l own n0 i (0, 2, 1, f_Bn_firstBehind) := Or.inr (Or.inr ⟨rfl, yX0_firstBehind, cX0_firstBehind, 5, (some .int), 1, 0, TX0, 6, i_Bn_firstBehind l, hn, by decide, by decide +kernel, rfl, fun _ _ _ e => (mm_gd_inv (mm_ga_inv e).2).2, hl, q_1531, q_47, q_173, q_1532⟩)
def p_Bn_sort : mm_P := ([(0, .aload_n 0, 1, 0), (1, .aload_n 1, 1, 0), (2, .iload_n 2, 1, 0), (3, .invokevirtual 31, 3, 0), (6, .istore 4, 2, 0), (8, .iload_n 3, 1, 0), (9, .iload 4, 2, 0), (11, .invokestatic 35, 3, 0), (14, .istore 5, 2, 0), (16, .iconst 0, 1, 0), (17, .istore 6, 2, 0), (19, .iload 6, 2, 0), (21, .iload 5, 2, 0), (23, .if_icmp .ge 23, 3, 0), (26, .aload_n 0, 1, 0), (27, .getfield 15, 3, 0), (30, .iload 6, 2, 0), (32, .aload_n 0, 1, 0), (33, .getfield 9, 3, 0), (36, .iload 6, 2, 0), (38, .iaload, 1, 0), (39, .iastore, 1, 0), (40, .iinc 6 1, 3, 1), (43, .goto (-24), 3, 0), (46, .iload 5, 2, 0), (48, .istore 6, 2, 0), (50, .iconst (-1), 1, (-1)), (51, .istore 7, 2, 0), (53, .aload_n 0, 1, 0), (54, .iconst 0, 1, 0), (55, .putfield 27, 3, 0), (58, .iconst 0, 1, 0), (59, .istore 8, 2, 0), (61, .iload 8, 2, 0), (63, .iload 4, 2, 0), (65, .if_icmp .ge 142, 3, 0), (68, .iload 5, 2, 0), (70, .ifCond .le 137, 3, 0), (73, .aload_n 0, 1, 0), (74, .getfield 27, 3, 0), (77, .ifCond .ne 7, 3, 0), (80, .iconst (-1), 1, (-1)), (81, .goto 11, 3, 0), (84, .aload_n 0, 1, 0), (85, .iload 7, 2, 0), (87, .iload 5, 2, 0), (89, .invokevirtual 41, 3, 0), (92, .istore 9, 2, 0), (94, .iload 9, 2, 0), (96, .iconst (-1), 1, (-1)), (97, .if_icmp .ne 36, 3, 0), (100, .aload_n 0, 1, 0), (101, .getfield 18, 3, 0), (104, .aload_n 0, 1, 0), (105, .getfield 27, 3, 0), (108, .iconst 0, 1, 0), (109, .iastore, 1, 0), (110, .aload_n 0, 1, 0), (111, .dup, 1, 0), (112, .getfield 27, 3, 0), (115, .iconst 1, 1, 1), (116, .iadd, 1, 0), (117, .putfield 27, 3, 0), (120, .iconst 0, 1, 0), (121, .aload_n 0, 1, 0), (122, .iconst (-1), 1, (-1)), (123, .iload 5, 2, 0), (125, .invokevirtual 41, 3, 0), (128, .invokestatic 44, 3, 0), (131, .istore 9, 2, 0), (133, .aload_n 0, 1, 0), (134, .getfield 18, 3, 0), (137, .aload_n 0, 1, 0), (138, .getfield 27, 3, 0), (141, .iconst 1, 1, 1), (142, .isub, 1, 0), (143, .dup2, 1, 0), (144, .iaload, 1, 0), (145, .iconst 1, 1, 1), (146, .iadd, 1, 0), (147, .iastore, 1, 0), (148, .aload_n 0, 1, 0), (149, .getfield 15, 3, 0), (152, .iload 9, 2, 0), (154, .iaload, 1, 0), (155, .istore 7, 2, 0), (157, .iload 6, 2, 0), (159, .iload 4, 2, 0), (161, .if_icmp .ge 23, 3, 0), (164, .aload_n 0, 1, 0), (165, .getfield 15, 3, 0), (168, .iload 9, 2, 0), (170, .aload_n 0, 1, 0), (171, .getfield 9, 3, 0), (174, .iload 6, 2, 0), (176, .iaload, 1, 0), (177, .iastore, 1, 0), (178, .iinc 6 1, 3, 1), (181, .goto 20, 3, 0), (184, .iinc 5 (-1), 3, (-1)), (187, .aload_n 0, 1, 0), (188, .getfield 15, 3, 0), (191, .iload 9, 2, 0), (193, .aload_n 0, 1, 0), (194, .getfield 15, 3, 0), (197, .iload 5, 2, 0), (199, .iaload, 1, 0), (200, .iastore, 1, 0), (201, .iinc 8 1, 3, 1), (204, .goto (-143), 3, 0), (207, .return_, 1, 0)], [(9, 0, 0, 4), (15, 0, 1, 4), (18, 0, 2, 4), (27, 0, 5, 0)], [(31, 0, 2, 1, f_Bn_gather), (35, 4, 2, 1, fun _ _ => none), (41, 0, 2, 1, f_Bn_firstBehind), (44, 5, 2, 1, fun _ _ => none)], [], [], [(0, [0, 1, 2, 3]), (19, [0, 4, 5, 6]), (61, [0, 4, 5, 6, 7, 8]), (133, [0, 4, 5, 6, 8, 9])], [], 0)
def f_Bn_sort : mm_F := fun args h => mm_ga [1, 1, 1, 1] args (mm_gd 0 args h (mm_run p_Bn_sort (mm_fu + 1) 0 args [] h))
set_option maxRecDepth 100000 in
theorem e_Bn_sort_0 (f : Nat) (t : Nat) (v1 : Nat) (v2 : Int32) (v3 : Int32) (h : mm_H) : mm_run p_Bn_sort (f + 1) 0 [.ref t, .ref v1, .int v2, .int v3] [] h =
  mm_ci (f_Bn_gather [.ref t, .ref v1, .int v2] h) fun x2 h1 =>
  mm_run p_Bn_sort f 19 [.ref t, .int x2, .int (mm_min v3 x2), .int 0] [] h1 := rfl
theorem e_Bn_sort (t : Nat) (v1 : Nat) (v2 : Int32) (v3 : Int32) (h : mm_H) {fs : List Value} (hb : h t = some (.inr (0, fs))) : f_Bn_sort [.ref t, .ref v1, .int v2, .int v3] h =
  mm_ci (f_Bn_gather [.ref t, .ref v1, .int v2] h) fun x2 h1 =>
  mm_run p_Bn_sort mm_fu 19 [.ref t, .int x2, .int (mm_min v3 x2), .int 0] [] h1 := (mm_ga_is rfl).trans ((mm_gd_is hb).trans (e_Bn_sort_0 mm_fu t v1 v2 v3 h))
set_option maxRecDepth 100000 in
theorem e_Bn_sort_19 (f : Nat) (t : Nat) (v4 : Int32) (v5 : Int32) (v6 : Int32) (h : mm_H) : mm_run p_Bn_sort (f + 1) 19 [.ref t, .int v4, .int v5, .int v6] [] h =
  if v6 < v5 then
    (mm_gr 0 1 h t).bind fun r1 =>
    (mm_gr 0 0 h t).bind fun r2 =>
    (mm_li h r2 v6).bind fun x3 =>
    (mm_si h r1 v6 x3).bind fun h4 =>
    mm_run p_Bn_sort f 19 [.ref t, .int v4, .int v5, .int (v6 + 1)] [] h4
  else
    (mm_pf 0 5 (.int 0) h t).bind fun h5 =>
    mm_run p_Bn_sort f 61 [.ref t, .int v4, .int v5, .int v5, .int (-1), .int 0] [] h5 := rfl
set_option maxRecDepth 100000 in
theorem e_Bn_sort_61 (f : Nat) (t : Nat) (v4 : Int32) (v5 : Int32) (v6 : Int32) (v7 : Int32) (v8 : Int32) (h : mm_H) : mm_run p_Bn_sort (f + 1) 61 [.ref t, .int v4, .int v5, .int v6, .int v7, .int v8] [] h =
  if v8 < v4 then
    if (0 : Int32) < v5 then
      (mm_gi 0 5 h t).bind fun x1 =>
      if x1 = 0 then
        (mm_gr 0 2 h t).bind fun r2 =>
        (mm_gi 0 5 h t).bind fun x3 =>
        (mm_si h r2 x3 0).bind fun h4 =>
        (mm_gi 0 5 h4 t).bind fun x5 =>
        (mm_pf 0 5 (.int (x5 + 1)) h4 t).bind fun h6 =>
        mm_ci (f_Bn_firstBehind [.ref t, .int (-1), .int v5] h6) fun x8 h7 =>
        mm_run p_Bn_sort f 133 [.ref t, .int v4, .int v5, .int v6, .int v8, .int (mm_max 0 x8)] [] h7
      else
        mm_ci (f_Bn_firstBehind [.ref t, .int v7, .int v5] h) fun x10 h9 =>
        if x10 = (-1) then
          (mm_gr 0 2 h9 t).bind fun r11 =>
          (mm_gi 0 5 h9 t).bind fun x12 =>
          (mm_si h9 r11 x12 0).bind fun h13 =>
          (mm_gi 0 5 h13 t).bind fun x14 =>
          (mm_pf 0 5 (.int (x14 + 1)) h13 t).bind fun h15 =>
          mm_ci (f_Bn_firstBehind [.ref t, .int (-1), .int v5] h15) fun x17 h16 =>
          mm_run p_Bn_sort f 133 [.ref t, .int v4, .int v5, .int v6, .int v8, .int (mm_max 0 x17)] [] h16
        else
          mm_run p_Bn_sort f 133 [.ref t, .int v4, .int v5, .int v6, .int v8, .int x10] [] h9
    else
      some (none, h)
  else
    some (none, h) := rfl
set_option maxRecDepth 100000 in
theorem e_Bn_sort_133 (f : Nat) (t : Nat) (v4 : Int32) (v5 : Int32) (v6 : Int32) (v8 : Int32) (v9 : Int32) (h : mm_H) : mm_run p_Bn_sort (f + 1) 133 [.ref t, .int v4, .int v5, .int v6, .int v8, .int v9] [] h =
  (mm_gr 0 2 h t).bind fun r1 =>
  (mm_gi 0 5 h t).bind fun x2 =>
  (mm_li h r1 (x2 - 1)).bind fun x3 =>
  (mm_si h r1 (x2 - 1) (x3 + 1)).bind fun h4 =>
  (mm_gr 0 1 h4 t).bind fun r5 =>
  (mm_li h4 r5 v9).bind fun x6 =>
  if v6 < v4 then
    (mm_gr 0 1 h4 t).bind fun r7 =>
    (mm_gr 0 0 h4 t).bind fun r8 =>
    (mm_li h4 r8 v6).bind fun x9 =>
    (mm_si h4 r7 v9 x9).bind fun h10 =>
    mm_run p_Bn_sort f 61 [.ref t, .int v4, .int v5, .int (v6 + 1), .int x6, .int (v8 + 1)] [] h10
  else
    (mm_gr 0 1 h4 t).bind fun r11 =>
    (mm_gr 0 1 h4 t).bind fun r12 =>
    (mm_li h4 r12 (v5 + (-1))).bind fun x13 =>
    (mm_si h4 r11 v9 x13).bind fun h14 =>
    mm_run p_Bn_sort f 61 [.ref t, .int v4, .int (v5 + (-1)), .int v6, .int x6, .int (v8 + 1)] [] h14 := rfl
set_option maxRecDepth 100000 in
theorem i_Bn_sort (l : Launch) : mm_Imp l yX0_sort cX0_sort 10 none 4 f_Bn_sort := mm_imp l (P := p_Bn_sort) mm_cls_ok mm_sys_ok (by decide) (mm_Pok_of (List.forall_mem_cons.mpr ⟨k_X0_9, (List.forall_mem_cons.mpr ⟨k_X0_15, (List.forall_mem_cons.mpr ⟨k_X0_18, (List.forall_mem_cons.mpr ⟨k_X0_27, (fun _ h => absurd h List.not_mem_nil)⟩)⟩)⟩)⟩) (List.forall_mem_cons.mpr ⟨v_Bn_gather l q_1523 (by decide), (List.forall_mem_cons.mpr ⟨Or.inl ⟨by decide, Or.inr (Or.inl ⟨rfl, q_1528⟩)⟩, (List.forall_mem_cons.mpr ⟨v_Bn_firstBehind l q_1529 (by decide), (List.forall_mem_cons.mpr ⟨Or.inl ⟨by decide, Or.inr (Or.inr ⟨rfl, q_1533⟩)⟩, (fun _ h => absurd h List.not_mem_nil)⟩)⟩)⟩)⟩) (fun _ h => absurd h List.not_mem_nil) (fun _ h => absurd h List.not_mem_nil)) (by decide +kernel) rfl (cats := [1, 1, 1, 1]) (fun as h r e => ⟨(mm_ga_inv e).1, (mm_gd_inv (mm_ga_inv e).2).1⟩) rfl (by decide)
theorem v_Bn_sort (l : Launch) {own : String} {i n0 : Nat} (hl : Cond.methodLink own i yX0_sort ∈ mm_tbl) (hn : 5 ≤ n0) : mm_cok l own n0 i (0, 3, 0, f_Bn_sort) := Or.inr (Or.inr ⟨rfl, yX0_sort, cX0_sort, 10, none, 4, 0, TX0, 6, i_Bn_sort l, hn, by decide, by decide +kernel, rfl, fun _ _ _ e => (mm_gd_inv (mm_ga_inv e).2).2, hl, q_1520, q_1521, q_173, q_1522⟩)
def p_Bn_sortUpwards : mm_P := ([(0, .iconst 1, 1, 1), (1, .istore_n 2, 1, 0), (2, .iload_n 2, 1, 0), (3, .iload_n 1, 1, 0), (4, .if_icmp .ge 52, 3, 0), (7, .aload_n 0, 1, 0), (8, .iload_n 2, 1, 0), (9, .iaload, 1, 0), (10, .istore_n 3, 1, 0), (11, .iload_n 2, 1, 0), (12, .istore 4, 2, 0), (14, .iload 4, 2, 0), (16, .ifCond .le 29, 3, 0), (19, .aload_n 0, 1, 0), (20, .iload 4, 2, 0), (22, .iconst 1, 1, 1), (23, .isub, 1, 0), (24, .iaload, 1, 0), (25, .iload_n 3, 1, 0), (26, .if_icmp .le 19, 3, 0), (29, .aload_n 0, 1, 0), (30, .iload 4, 2, 0), (32, .aload_n 0, 1, 0), (33, .iload 4, 2, 0), (35, .iconst 1, 1, 1), (36, .isub, 1, 0), (37, .iaload, 1, 0), (38, .iastore, 1, 0), (39, .iinc 4 (-1), 3, (-1)), (42, .goto (-28), 3, 0), (45, .aload_n 0, 1, 0), (46, .iload 4, 2, 0), (48, .iload_n 3, 1, 0), (49, .iastore, 1, 0), (50, .iinc 2 1, 3, 1), (53, .goto (-51), 3, 0), (56, .return_, 1, 0)], [], [], [], [], [(0, [0, 1]), (2, [0, 1, 2]), (14, [0, 1, 2, 3, 4])], [], 0)
def f_Bn_sortUpwards : mm_F := fun args h => mm_ga [1, 1] args (mm_run p_Bn_sortUpwards (mm_fu + 1) 0 args [] h)
set_option maxRecDepth 100000 in
theorem e_Bn_sortUpwards_0 (f : Nat) (v0 : Nat) (v1 : Int32) (h : mm_H) : mm_run p_Bn_sortUpwards (f + 1) 0 [.ref v0, .int v1] [] h =
  mm_run p_Bn_sortUpwards f 2 [.ref v0, .int v1, .int 1] [] h := rfl
theorem e_Bn_sortUpwards (v0 : Nat) (v1 : Int32) (h : mm_H) : f_Bn_sortUpwards [.ref v0, .int v1] h =
  mm_run p_Bn_sortUpwards mm_fu 2 [.ref v0, .int v1, .int 1] [] h := (mm_ga_is rfl).trans (e_Bn_sortUpwards_0 mm_fu v0 v1 h)
set_option maxRecDepth 100000 in
theorem e_Bn_sortUpwards_2 (f : Nat) (v0 : Nat) (v1 : Int32) (v2 : Int32) (h : mm_H) : mm_run p_Bn_sortUpwards (f + 1) 2 [.ref v0, .int v1, .int v2] [] h =
  if v2 < v1 then
    (mm_li h v0 v2).bind fun x1 =>
    mm_run p_Bn_sortUpwards f 14 [.ref v0, .int v1, .int v2, .int x1, .int v2] [] h
  else
    some (none, h) := rfl
set_option maxRecDepth 100000 in
theorem e_Bn_sortUpwards_14 (f : Nat) (v0 : Nat) (v1 : Int32) (v2 : Int32) (v3 : Int32) (v4 : Int32) (h : mm_H) : mm_run p_Bn_sortUpwards (f + 1) 14 [.ref v0, .int v1, .int v2, .int v3, .int v4] [] h =
  if (0 : Int32) < v4 then
    (mm_li h v0 (v4 - 1)).bind fun x1 =>
    if v3 < x1 then
      (mm_li h v0 (v4 - 1)).bind fun x2 =>
      (mm_si h v0 v4 x2).bind fun h3 =>
      mm_run p_Bn_sortUpwards f 14 [.ref v0, .int v1, .int v2, .int v3, .int (v4 + (-1))] [] h3
    else
      (mm_si h v0 v4 v3).bind fun h4 =>
      mm_run p_Bn_sortUpwards f 2 [.ref v0, .int v1, .int (v2 + 1)] [] h4
  else
    (mm_si h v0 v4 v3).bind fun h5 =>
    mm_run p_Bn_sortUpwards f 2 [.ref v0, .int v1, .int (v2 + 1)] [] h5 := rfl
set_option maxRecDepth 100000 in
theorem i_Bn_sortUpwards (l : Launch) : mm_Imp l yX0_sortUpwards cX0_sortUpwards 5 none 1 f_Bn_sortUpwards := mm_imp l (P := p_Bn_sortUpwards) mm_cls_ok mm_sys_ok (by decide) (mm_Pok_of (fun _ h => absurd h List.not_mem_nil) (fun _ h => absurd h List.not_mem_nil) (fun _ h => absurd h List.not_mem_nil) (fun _ h => absurd h List.not_mem_nil)) (by decide +kernel) rfl (cats := [1, 1]) (fun as h r e => ⟨(mm_ga_inv e).1, (mm_ga_inv e).2⟩) rfl (by decide)
theorem v_Bn_sortUpwards (l : Launch) {own : String} {i n0 : Nat} (hl : Cond.methodLink own i yX0_sortUpwards ∈ mm_tbl ∨ ∃ host, Cond.methodLinkNest own i yX0_sortUpwards host ∈ mm_nest) (hn : 2 ≤ n0) : mm_cok l own n0 i (1, 2, 0, f_Bn_sortUpwards) := Or.inr (Or.inl ⟨rfl, yX0_sortUpwards, cX0_sortUpwards, 5, none, 1, i_Bn_sortUpwards l, hn, by decide, by decide +kernel, hl, q_1550, q_173, q_1551⟩)
def p_Bn_mergeCost : mm_P := ([(0, .iconst 0, 1, 0), (1, .istore_n 1, 1, 0), (2, .aload_n 0, 1, 0), (3, .getfield 18, 3, 0), (6, .iconst 0, 1, 0), (7, .aload_n 0, 1, 0), (8, .getfield 21, 3, 0), (11, .iconst 0, 1, 0), (12, .bipush 30, 2, 30), (14, .invokestatic 53, 3, 0), (17, .aload_n 0, 1, 0), (18, .getfield 27, 3, 0), (21, .istore_n 2, 1, 0), (22, .iload_n 2, 1, 0), (23, .iconst 1, 1, 1), (24, .if_icmp .le 55, 3, 0), (27, .aload_n 0, 1, 0), (28, .getfield 21, 3, 0), (31, .iload_n 2, 1, 0), (32, .invokestatic 59, 3, 0), (35, .aload_n 0, 1, 0), (36, .getfield 21, 3, 0), (39, .iconst 0, 1, 0), (40, .dup2, 1, 0), (41, .iaload, 1, 0), (42, .aload_n 0, 1, 0), (43, .getfield 21, 3, 0), (46, .iconst 1, 1, 1), (47, .iaload, 1, 0), (48, .iadd, 1, 0), (49, .iastore, 1, 0), (50, .iload_n 1, 1, 0), (51, .aload_n 0, 1, 0), (52, .getfield 21, 3, 0), (55, .iconst 0, 1, 0), (56, .iaload, 1, 0), (57, .iadd, 1, 0), (58, .istore_n 1, 1, 0), (59, .aload_n 0, 1, 0), (60, .getfield 21, 3, 0), (63, .iconst 1, 1, 1), (64, .aload_n 0, 1, 0), (65, .getfield 21, 3, 0), (68, .iload_n 2, 1, 0), (69, .iconst 1, 1, 1), (70, .isub, 1, 0), (71, .iaload, 1, 0), (72, .iastore, 1, 0), (73, .iinc 2 (-1), 3, (-1)), (76, .goto (-54), 3, 0), (79, .iload_n 1, 1, 0), (80, .ireturn, 1, 0)], [(18, 0, 2, 4), (21, 0, 3, 4), (27, 0, 5, 0)], [(53, 2, 5, 0, fun _ _ => none), (59, 1, 2, 0, f_Bn_sortUpwards)], [], [], [(0, [0]), (22, [0, 1, 2])], [], 2)
def f_Bn_mergeCost : mm_F := fun args h => mm_ga [1] args (mm_gd 0 args h (mm_run p_Bn_mergeCost (mm_fu + 1) 0 args [] h))
set_option maxRecDepth 100000 in
theorem e_Bn_mergeCost_0 (f : Nat) (t : Nat) (h : mm_H) : mm_run p_Bn_mergeCost (f + 1) 0 [.ref t] [] h =
  (mm_gr 0 2 h t).bind fun r1 =>
  (mm_gr 0 3 h t).bind fun r2 =>
  (mm_cp h r1 0 r2 0 30).bind fun h3 =>
  (mm_gi 0 5 h3 t).bind fun x4 =>
  mm_run p_Bn_mergeCost f 22 [.ref t, .int 0, .int x4] [] h3 := rfl
theorem e_Bn_mergeCost (t : Nat) (h : mm_H) {fs : List Value} (hb : h t = some (.inr (0, fs))) : f_Bn_mergeCost [.ref t] h =
  (mm_gr 0 2 h t).bind fun r1 =>
  (mm_gr 0 3 h t).bind fun r2 =>
  (mm_cp h r1 0 r2 0 30).bind fun h3 =>
  (mm_gi 0 5 h3 t).bind fun x4 =>
  mm_run p_Bn_mergeCost mm_fu 22 [.ref t, .int 0, .int x4] [] h3 := (mm_ga_is rfl).trans ((mm_gd_is hb).trans (e_Bn_mergeCost_0 mm_fu t h))
set_option maxRecDepth 100000 in
theorem e_Bn_mergeCost_22 (f : Nat) (t : Nat) (v1 : Int32) (v2 : Int32) (h : mm_H) : mm_run p_Bn_mergeCost (f + 1) 22 [.ref t, .int v1, .int v2] [] h =
  if (1 : Int32) < v2 then
    (mm_gr 0 3 h t).bind fun r1 =>
    mm_cv (f_Bn_sortUpwards [.ref r1, .int v2] h) fun h2 =>
    (mm_gr 0 3 h2 t).bind fun r3 =>
    (mm_li h2 r3 0).bind fun x4 =>
    (mm_gr 0 3 h2 t).bind fun r5 =>
    (mm_li h2 r5 1).bind fun x6 =>
    (mm_si h2 r3 0 (x4 + x6)).bind fun h7 =>
    (mm_gr 0 3 h7 t).bind fun r8 =>
    (mm_li h7 r8 0).bind fun x9 =>
    (mm_gr 0 3 h7 t).bind fun r10 =>
    (mm_gr 0 3 h7 t).bind fun r11 =>
    (mm_li h7 r11 (v2 - 1)).bind fun x12 =>
    (mm_si h7 r10 1 x12).bind fun h13 =>
    mm_run p_Bn_mergeCost f 22 [.ref t, .int (v1 + x9), .int (v2 + (-1))] [] h13
  else
    some (some (.int v1), h) := rfl
set_option maxRecDepth 100000 in
theorem i_Bn_mergeCost (l : Launch) : mm_Imp l yX0_mergeCost cX0_mergeCost 3 (some .int) 2 f_Bn_mergeCost := mm_imp l (P := p_Bn_mergeCost) mm_cls_ok mm_sys_ok (by decide) (mm_Pok_of (List.forall_mem_cons.mpr ⟨k_X0_18, (List.forall_mem_cons.mpr ⟨k_X0_21, (List.forall_mem_cons.mpr ⟨k_X0_27, (fun _ h => absurd h List.not_mem_nil)⟩)⟩)⟩) (List.forall_mem_cons.mpr ⟨Or.inl ⟨by decide, Or.inl ⟨rfl, q_1548⟩⟩, (List.forall_mem_cons.mpr ⟨v_Bn_sortUpwards l (Or.inl q_1549) (by decide), (fun _ h => absurd h List.not_mem_nil)⟩)⟩) (fun _ h => absurd h List.not_mem_nil) (fun _ h => absurd h List.not_mem_nil)) (by decide +kernel) rfl (cats := [1]) (fun as h r e => ⟨(mm_ga_inv e).1, (mm_gd_inv (mm_ga_inv e).2).1⟩) rfl (by decide)
theorem v_Bn_mergeCost (l : Launch) {own : String} {i n0 : Nat} (hl : Cond.methodLink own i yX0_mergeCost ∈ mm_tbl) (hn : 3 ≤ n0) : mm_cok l own n0 i (0, 0, 1, f_Bn_mergeCost) := Or.inr (Or.inr ⟨rfl, yX0_mergeCost, cX0_mergeCost, 3, (some .int), 2, 0, TX0, 6, i_Bn_mergeCost l, hn, by decide, by decide +kernel, rfl, fun _ _ _ e => (mm_gd_inv (mm_ga_inv e).2).2, hl, q_1545, q_1546, q_173, q_1547⟩)
def p_Pt_hasCome : mm_P := ([(0, .iload_n 1, 1, 0), (1, .ifCond .lt 21, 3, 0), (4, .iload_n 1, 1, 0), (5, .aload_n 0, 1, 0), (6, .getfield 21, 3, 0), (9, .if_icmp .ge 13, 3, 0), (12, .iload_n 1, 1, 0), (13, .bipush 12, 2, 12), (15, .if_icmp .ge 7, 3, 0), (18, .iconst 1, 1, 1), (19, .goto 4, 3, 0), (22, .iconst 0, 1, 0), (23, .ireturn, 1, 0)], [(21, 5, 3, 0)], [], [], [], [(0, [0, 1])], [], 1)
def f_Pt_hasCome : mm_F := fun args h => mm_ga [1, 1] args (mm_gd 5 args h (mm_run p_Pt_hasCome (mm_fu + 1) 0 args [] h))
set_option maxRecDepth 100000 in
theorem e_Pt_hasCome_0 (f : Nat) (t : Nat) (v1 : Int32) (h : mm_H) : mm_run p_Pt_hasCome (f + 1) 0 [.ref t, .int v1] [] h =
  if v1 < 0 then
    some (some (.int 0), h)
  else
    (mm_gi 5 3 h t).bind fun x1 =>
    if v1 < x1 then
      if v1 < 12 then
        some (some (.int 1), h)
      else
        some (some (.int 0), h)
    else
      some (some (.int 0), h) := rfl
theorem e_Pt_hasCome (t : Nat) (v1 : Int32) (h : mm_H) {fs : List Value} (hb : h t = some (.inr (5, fs))) : f_Pt_hasCome [.ref t, .int v1] h =
  if v1 < 0 then
    some (some (.int 0), h)
  else
    (mm_gi 5 3 h t).bind fun x1 =>
    if v1 < x1 then
      if v1 < 12 then
        some (some (.int 1), h)
      else
        some (some (.int 0), h)
    else
      some (some (.int 0), h) := (mm_ga_is rfl).trans ((mm_gd_is hb).trans (e_Pt_hasCome_0 mm_fu t v1 h))
set_option maxRecDepth 100000 in
theorem i_Pt_hasCome (l : Launch) : mm_Imp l yX5_hasCome cX5_hasCome 2 (some .boolean) 1 f_Pt_hasCome := mm_imp l (P := p_Pt_hasCome) mm_cls_ok mm_sys_ok (by decide) (mm_Pok_of (List.forall_mem_cons.mpr ⟨k_X5_21, (fun _ h => absurd h List.not_mem_nil)⟩) (fun _ h => absurd h List.not_mem_nil) (fun _ h => absurd h List.not_mem_nil) (fun _ h => absurd h List.not_mem_nil)) (by decide +kernel) rfl (cats := [1, 1]) (fun as h r e => ⟨(mm_ga_inv e).1, (mm_gd_inv (mm_ga_inv e).2).1⟩) rfl (by decide)
theorem v_Pt_hasCome (l : Launch) {own : String} {i n0 : Nat} (hl : Cond.methodLink own i yX5_hasCome ∈ mm_tbl) (hn : 2 ≤ n0) : mm_cok l own n0 i (0, 1, 1, f_Pt_hasCome) := Or.inr (Or.inr ⟨rfl, yX5_hasCome, cX5_hasCome, 2, (some .boolean), 1, 5, TX5, 4, i_Pt_hasCome l, hn, by decide, by decide +kernel, rfl, fun _ _ _ e => (mm_gd_inv (mm_ga_inv e).2).2, hl, q_1002, q_1003, q_176, q_1004⟩)
def p_Pt_isFirm : mm_P := ([(0, .aload_n 0, 1, 0), (1, .iload_n 1, 1, 0), (2, .invokevirtual 31, 3, 0), (5, .ifCond .eq 25, 3, 0), (8, .aload_n 0, 1, 0), (9, .getfield 9, 3, 0), (12, .iload_n 1, 1, 0), (13, .iaload, 1, 0), (14, .ifCond .ne 16, 3, 0), (17, .aload_n 0, 1, 0), (18, .getfield 15, 3, 0), (21, .iload_n 1, 1, 0), (22, .iaload, 1, 0), (23, .ifCond .lt 7, 3, 0), (26, .iconst 1, 1, 1), (27, .goto 4, 3, 0), (30, .iconst 0, 1, 0), (31, .ireturn, 1, 0)], [(9, 5, 0, 4), (15, 5, 1, 4)], [(31, 0, 1, 1, f_Pt_hasCome)], [], [], [(0, [0, 1])], [], 1)
def f_Pt_isFirm : mm_F := fun args h => mm_ga [1, 1] args (mm_gd 5 args h (mm_run p_Pt_isFirm (mm_fu + 1) 0 args [] h))
set_option maxRecDepth 100000 in
theorem e_Pt_isFirm_0 (f : Nat) (t : Nat) (v1 : Int32) (h : mm_H) : mm_run p_Pt_isFirm (f + 1) 0 [.ref t, .int v1] [] h =
  mm_ci (f_Pt_hasCome [.ref t, .int v1] h) fun x2 h1 =>
  if x2 = 0 then
    some (some (.int 0), h1)
  else
    (mm_gr 5 0 h1 t).bind fun r3 =>
    (mm_li h1 r3 v1).bind fun x4 =>
    if x4 = 0 then
      (mm_gr 5 1 h1 t).bind fun r5 =>
      (mm_li h1 r5 v1).bind fun x6 =>
      if x6 < 0 then
        some (some (.int 0), h1)
      else
        some (some (.int 1), h1)
    else
      some (some (.int 0), h1) := rfl
theorem e_Pt_isFirm (t : Nat) (v1 : Int32) (h : mm_H) {fs : List Value} (hb : h t = some (.inr (5, fs))) : f_Pt_isFirm [.ref t, .int v1] h =
  mm_ci (f_Pt_hasCome [.ref t, .int v1] h) fun x2 h1 =>
  if x2 = 0 then
    some (some (.int 0), h1)
  else
    (mm_gr 5 0 h1 t).bind fun r3 =>
    (mm_li h1 r3 v1).bind fun x4 =>
    if x4 = 0 then
      (mm_gr 5 1 h1 t).bind fun r5 =>
      (mm_li h1 r5 v1).bind fun x6 =>
      if x6 < 0 then
        some (some (.int 0), h1)
      else
        some (some (.int 1), h1)
    else
      some (some (.int 0), h1) := (mm_ga_is rfl).trans ((mm_gd_is hb).trans (e_Pt_isFirm_0 mm_fu t v1 h))
set_option maxRecDepth 100000 in
theorem i_Pt_isFirm (l : Launch) : mm_Imp l yX5_isFirm cX5_isFirm 2 (some .boolean) 2 f_Pt_isFirm := mm_imp l (P := p_Pt_isFirm) mm_cls_ok mm_sys_ok (by decide) (mm_Pok_of (List.forall_mem_cons.mpr ⟨k_X5_9, (List.forall_mem_cons.mpr ⟨k_X5_15, (fun _ h => absurd h List.not_mem_nil)⟩)⟩) (List.forall_mem_cons.mpr ⟨v_Pt_hasCome l q_1133 (by decide), (fun _ h => absurd h List.not_mem_nil)⟩) (fun _ h => absurd h List.not_mem_nil) (fun _ h => absurd h List.not_mem_nil)) (by decide +kernel) rfl (cats := [1, 1]) (fun as h r e => ⟨(mm_ga_inv e).1, (mm_gd_inv (mm_ga_inv e).2).1⟩) rfl (by decide)
theorem v_Pt_isFirm (l : Launch) {own : String} {i n0 : Nat} (hl : Cond.methodLink own i yX5_isFirm ∈ mm_tbl) (hn : 3 ≤ n0) : mm_cok l own n0 i (0, 1, 1, f_Pt_isFirm) := Or.inr (Or.inr ⟨rfl, yX5_isFirm, cX5_isFirm, 2, (some .boolean), 2, 5, TX5, 4, i_Pt_isFirm l, hn, by decide, by decide +kernel, rfl, fun _ _ _ e => (mm_gd_inv (mm_ga_inv e).2).2, hl, q_1187, q_1188, q_176, q_1189⟩)
def p_Rw_valueOf : mm_P := ([(0, .iload_n 1, 1, 0), (1, .ifCond .lt 26, 3, 0), (4, .iload_n 1, 1, 0), (5, .aload_n 0, 1, 0), (6, .getfield 15, 3, 0), (9, .if_icmp .ge 18, 3, 0), (12, .iload_n 1, 1, 0), (13, .bipush 30, 2, 30), (15, .if_icmp .ge 12, 3, 0), (18, .iload_n 2, 1, 0), (19, .ifCond .lt 8, 3, 0), (22, .iload_n 2, 1, 0), (23, .iconst 3, 1, 3), (24, .if_icmp .lt 5, 3, 0), (27, .iconst (-1), 1, (-1)), (28, .ireturn, 1, 0), (29, .aload_n 0, 1, 0), (30, .getfield 9, 3, 0), (33, .iload_n 1, 1, 0), (34, .iconst 3, 1, 3), (35, .imul, 1, 0), (36, .iload_n 2, 1, 0), (37, .iadd, 1, 0), (38, .iaload, 1, 0), (39, .ireturn, 1, 0)], [(9, 7, 0, 4), (15, 7, 1, 0)], [], [], [], [(0, [0, 1, 2])], [], 2)
def f_Rw_valueOf : mm_F := fun args h => mm_ga [1, 1, 1] args (mm_gd 7 args h (mm_run p_Rw_valueOf (mm_fu + 1) 0 args [] h))
set_option maxRecDepth 100000 in
theorem e_Rw_valueOf_0 (f : Nat) (t : Nat) (v1 : Int32) (v2 : Int32) (h : mm_H) : mm_run p_Rw_valueOf (f + 1) 0 [.ref t, .int v1, .int v2] [] h =
  if v1 < 0 then
    some (some (.int (-1)), h)
  else
    (mm_gi 7 1 h t).bind fun x1 =>
    if v1 < x1 then
      if v1 < 30 then
        if v2 < 0 then
          some (some (.int (-1)), h)
        else
          if v2 < 3 then
            (mm_gr 7 0 h t).bind fun r2 =>
            (mm_li h r2 ((v1 * 3) + v2)).bind fun x3 =>
            some (some (.int x3), h)
          else
            some (some (.int (-1)), h)
      else
        some (some (.int (-1)), h)
    else
      some (some (.int (-1)), h) := rfl
theorem e_Rw_valueOf (t : Nat) (v1 : Int32) (v2 : Int32) (h : mm_H) {fs : List Value} (hb : h t = some (.inr (7, fs))) : f_Rw_valueOf [.ref t, .int v1, .int v2] h =
  if v1 < 0 then
    some (some (.int (-1)), h)
  else
    (mm_gi 7 1 h t).bind fun x1 =>
    if v1 < x1 then
      if v1 < 30 then
        if v2 < 0 then
          some (some (.int (-1)), h)
        else
          if v2 < 3 then
            (mm_gr 7 0 h t).bind fun r2 =>
            (mm_li h r2 ((v1 * 3) + v2)).bind fun x3 =>
            some (some (.int x3), h)
          else
            some (some (.int (-1)), h)
      else
        some (some (.int (-1)), h)
    else
      some (some (.int (-1)), h) := (mm_ga_is rfl).trans ((mm_gd_is hb).trans (e_Rw_valueOf_0 mm_fu t v1 v2 h))
set_option maxRecDepth 100000 in
theorem i_Rw_valueOf (l : Launch) : mm_Imp l yX7_valueOf cX7_valueOf 3 (some .int) 1 f_Rw_valueOf := mm_imp l (P := p_Rw_valueOf) mm_cls_ok mm_sys_ok (by decide) (mm_Pok_of (List.forall_mem_cons.mpr ⟨k_X7_9, (List.forall_mem_cons.mpr ⟨k_X7_15, (fun _ h => absurd h List.not_mem_nil)⟩)⟩) (fun _ h => absurd h List.not_mem_nil) (fun _ h => absurd h List.not_mem_nil) (fun _ h => absurd h List.not_mem_nil)) (by decide +kernel) rfl (cats := [1, 1, 1]) (fun as h r e => ⟨(mm_ga_inv e).1, (mm_gd_inv (mm_ga_inv e).2).1⟩) rfl (by decide)
theorem v_Rw_valueOf (l : Launch) {own : String} {i n0 : Nat} (hl : Cond.methodLink own i yX7_valueOf ∈ mm_tbl) (hn : 2 ≤ n0) : mm_cok l own n0 i (0, 2, 1, f_Rw_valueOf) := Or.inr (Or.inr ⟨rfl, yX7_valueOf, cX7_valueOf, 3, (some .int), 1, 7, TX7, 4, i_Rw_valueOf l, hn, by decide, by decide +kernel, rfl, fun _ _ _ e => (mm_gd_inv (mm_ga_inv e).2).2, hl, q_888, q_889, q_175, q_890⟩)
def p_Bn_comparisons : mm_P := ([(0, .iconst 0, 1, 0), (1, .istore_n 3, 1, 0), (2, .iconst 0, 1, 0), (3, .istore 4, 2, 0), (5, .iload 4, 2, 0), (7, .aload_n 1, 1, 0), (8, .getfield 63, 3, 0), (11, .getfield 69, 3, 0), (14, .if_icmp .ge 40, 3, 0), (17, .aload_n 1, 1, 0), (18, .getfield 63, 3, 0), (21, .iload 4, 2, 0), (23, .invokevirtual 74, 3, 0), (26, .ifCond .eq 22, 3, 0), (29, .aload_n 0, 1, 0), (30, .getfield 21, 3, 0), (33, .iload_n 3, 1, 0), (34, .aload_n 1, 1, 0), (35, .getfield 63, 3, 0), (38, .getfield 78, 3, 0), (41, .iload 4, 2, 0), (43, .iaload, 1, 0), (44, .iastore, 1, 0), (45, .iinc 3 1, 3, 1), (48, .iinc 4 1, 3, 1), (51, .goto (-46), 3, 0), (54, .iconst 0, 1, 0), (55, .istore 4, 2, 0), (57, .iconst 0, 1, 0), (58, .istore 5, 2, 0), (60, .iload 5, 2, 0), (62, .aload_n 1, 1, 0), (63, .getfield 81, 3, 0), (66, .getfield 85, 3, 0), (69, .if_icmp .ge 38, 3, 0), (72, .iload_n 2, 1, 0), (73, .iload 5, 2, 0), (75, .ishr, 1, 0), (76, .iconst 1, 1, 1), (77, .iand, 1, 0), (78, .ifCond .eq 23, 3, 0), (81, .aload_n 0, 1, 0), (82, .getfield 24, 3, 0), (85, .iload 4, 2, 0), (87, .aload_n 1, 1, 0), (88, .getfield 81, 3, 0), (91, .iload 5, 2, 0), (93, .iconst 0, 1, 0), (94, .invokevirtual 88, 3, 0), (97, .iastore, 1, 0), (98, .iinc 4 1, 3, 1), (101, .iinc 5 1, 3, 1), (104, .goto (-44), 3, 0), (107, .aload_n 0, 1, 0), (108, .getfield 21, 3, 0), (111, .iload_n 3, 1, 0), (112, .invokestatic 59, 3, 0), (115, .aload_n 0, 1, 0), (116, .getfield 24, 3, 0), (119, .iload 4, 2, 0), (121, .invokestatic 59, 3, 0), (124, .iconst 0, 1, 0), (125, .istore 5, 2, 0), (127, .iconst 0, 1, 0), (128, .istore 6, 2, 0), (130, .iload 5, 2, 0), (132, .iload_n 3, 1, 0), (133, .if_icmp .ge 39, 3, 0), (136, .iload 6, 2, 0), (138, .iload 4, 2, 0), (140, .if_icmp .ge 32, 3, 0), (143, .aload_n 0, 1, 0), (144, .getfield 21, 3, 0), (147, .iload 5, 2, 0), (149, .iaload, 1, 0), (150, .aload_n 0, 1, 0), (151, .getfield 24, 3, 0), (154, .iload 6, 2, 0), (156, .iaload, 1, 0), (157, .if_icmp .gt 9, 3, 0), (160, .iinc 5 1, 3, 1), (163, .goto (-33), 3, 0), (166, .iinc 6 1, 3, 1), (169, .goto (-39), 3, 0), (172, .iload 5, 2, 0), (174, .iload 6, 2, 0), (176, .iadd, 1, 0), (177, .ireturn, 1, 0)], [(21, 0, 3, 4), (24, 0, 4, 4), (63, 8, 1, 4), (69, 5, 3, 0), (78, 5, 1, 4), (81, 8, 0, 4), (85, 7, 1, 0)], [(59, 1, 2, 0, f_Bn_sortUpwards), (74, 0, 1, 1, f_Pt_isFirm), (88, 0, 2, 1, f_Rw_valueOf)], [], [], [(0, [0, 1, 2]), (5, [0, 1, 2, 3, 4]), (60, [0, 1, 2, 3, 4, 5]), (130, [0, 3, 4, 5, 6])], [], 2)
def f_Bn_comparisons : mm_F := fun args h => mm_ga [1, 1, 1] args (mm_gd 0 args h (mm_run p_Bn_comparisons (mm_fu + 1) 0 args [] h))
set_option maxRecDepth 100000 in
theorem e_Bn_comparisons_0 (f : Nat) (t : Nat) (v1 : Nat) (v2 : Int32) (h : mm_H) : mm_run p_Bn_comparisons (f + 1) 0 [.ref t, .ref v1, .int v2] [] h =
  mm_run p_Bn_comparisons f 5 [.ref t, .ref v1, .int v2, .int 0, .int 0] [] h := rfl
theorem e_Bn_comparisons (t : Nat) (v1 : Nat) (v2 : Int32) (h : mm_H) {fs : List Value} (hb : h t = some (.inr (0, fs))) : f_Bn_comparisons [.ref t, .ref v1, .int v2] h =
  mm_run p_Bn_comparisons mm_fu 5 [.ref t, .ref v1, .int v2, .int 0, .int 0] [] h := (mm_ga_is rfl).trans ((mm_gd_is hb).trans (e_Bn_comparisons_0 mm_fu t v1 v2 h))
set_option maxRecDepth 100000 in
theorem e_Bn_comparisons_5 (f : Nat) (t : Nat) (v1 : Nat) (v2 : Int32) (v3 : Int32) (v4 : Int32) (h : mm_H) : mm_run p_Bn_comparisons (f + 1) 5 [.ref t, .ref v1, .int v2, .int v3, .int v4] [] h =
  (mm_gr 8 1 h v1).bind fun r1 =>
  (mm_gi 5 3 h r1).bind fun x2 =>
  if v4 < x2 then
    (mm_gr 8 1 h v1).bind fun r3 =>
    mm_ci (f_Pt_isFirm [.ref r3, .int v4] h) fun x5 h4 =>
    if x5 = 0 then
      mm_run p_Bn_comparisons f 5 [.ref t, .ref v1, .int v2, .int v3, .int (v4 + 1)] [] h4
    else
      (mm_gr 0 3 h4 t).bind fun r6 =>
      (mm_gr 8 1 h4 v1).bind fun r7 =>
      (mm_gr 5 1 h4 r7).bind fun r8 =>
      (mm_li h4 r8 v4).bind fun x9 =>
      (mm_si h4 r6 v3 x9).bind fun h10 =>
      mm_run p_Bn_comparisons f 5 [.ref t, .ref v1, .int v2, .int (v3 + 1), .int (v4 + 1)] [] h10
  else
    mm_run p_Bn_comparisons f 60 [.ref t, .ref v1, .int v2, .int v3, .int 0, .int 0] [] h := rfl
set_option maxRecDepth 100000 in
theorem e_Bn_comparisons_60 (f : Nat) (t : Nat) (v1 : Nat) (v2 : Int32) (v3 : Int32) (v4 : Int32) (v5 : Int32) (h : mm_H) : mm_run p_Bn_comparisons (f + 1) 60 [.ref t, .ref v1, .int v2, .int v3, .int v4, .int v5] [] h =
  (mm_gr 8 0 h v1).bind fun r1 =>
  (mm_gi 7 1 h r1).bind fun x2 =>
  if v5 < x2 then
    if ((v2 >>> (v5 &&& 31)) &&& 1) = 0 then
      mm_run p_Bn_comparisons f 60 [.ref t, .ref v1, .int v2, .int v3, .int v4, .int (v5 + 1)] [] h
    else
      (mm_gr 0 4 h t).bind fun r3 =>
      (mm_gr 8 0 h v1).bind fun r4 =>
      mm_ci (f_Rw_valueOf [.ref r4, .int v5, .int 0] h) fun x6 h5 =>
      (mm_si h5 r3 v4 x6).bind fun h7 =>
      mm_run p_Bn_comparisons f 60 [.ref t, .ref v1, .int v2, .int v3, .int (v4 + 1), .int (v5 + 1)] [] h7
  else
    (mm_gr 0 3 h t).bind fun r8 =>
    mm_cv (f_Bn_sortUpwards [.ref r8, .int v3] h) fun h9 =>
    (mm_gr 0 4 h9 t).bind fun r10 =>
    mm_cv (f_Bn_sortUpwards [.ref r10, .int v4] h9) fun h11 =>
    mm_run p_Bn_comparisons f 130 [.ref t, .int v3, .int v4, .int 0, .int 0] [] h11 := rfl
set_option maxRecDepth 100000 in
theorem e_Bn_comparisons_130 (f : Nat) (t : Nat) (v3 : Int32) (v4 : Int32) (v5 : Int32) (v6 : Int32) (h : mm_H) : mm_run p_Bn_comparisons (f + 1) 130 [.ref t, .int v3, .int v4, .int v5, .int v6] [] h =
  if v5 < v3 then
    if v6 < v4 then
      (mm_gr 0 3 h t).bind fun r1 =>
      (mm_li h r1 v5).bind fun x2 =>
      (mm_gr 0 4 h t).bind fun r3 =>
      (mm_li h r3 v6).bind fun x4 =>
      if x4 < x2 then
        mm_run p_Bn_comparisons f 130 [.ref t, .int v3, .int v4, .int v5, .int (v6 + 1)] [] h
      else
        mm_run p_Bn_comparisons f 130 [.ref t, .int v3, .int v4, .int (v5 + 1), .int v6] [] h
    else
      some (some (.int (v5 + v6)), h)
  else
    some (some (.int (v5 + v6)), h) := rfl
set_option maxRecDepth 100000 in
theorem i_Bn_comparisons (l : Launch) : mm_Imp l yX0_comparisons cX0_comparisons 7 (some .int) 3 f_Bn_comparisons := mm_imp l (P := p_Bn_comparisons) mm_cls_ok mm_sys_ok (by decide) (mm_Pok_of (List.forall_mem_cons.mpr ⟨k_X0_21, (List.forall_mem_cons.mpr ⟨k_X0_24, (List.forall_mem_cons.mpr ⟨k_X0_63, (List.forall_mem_cons.mpr ⟨k_X0_69, (List.forall_mem_cons.mpr ⟨k_X0_78, (List.forall_mem_cons.mpr ⟨k_X0_81, (List.forall_mem_cons.mpr ⟨k_X0_85, (fun _ h => absurd h List.not_mem_nil)⟩)⟩)⟩)⟩)⟩)⟩)⟩) (List.forall_mem_cons.mpr ⟨v_Bn_sortUpwards l (Or.inl q_1549) (by decide), (List.forall_mem_cons.mpr ⟨v_Pt_isFirm l q_1560 (by decide), (List.forall_mem_cons.mpr ⟨v_Rw_valueOf l q_1561 (by decide), (fun _ h => absurd h List.not_mem_nil)⟩)⟩)⟩) (fun _ h => absurd h List.not_mem_nil) (fun _ h => absurd h List.not_mem_nil)) (by decide +kernel) rfl (cats := [1, 1, 1]) (fun as h r e => ⟨(mm_ga_inv e).1, (mm_gd_inv (mm_ga_inv e).2).1⟩) rfl (by decide)
theorem v_Bn_comparisons (l : Launch) {own : String} {i n0 : Nat} (hl : Cond.methodLink own i yX0_comparisons ∈ mm_tbl) (hn : 4 ≤ n0) : mm_cok l own n0 i (0, 2, 1, f_Bn_comparisons) := Or.inr (Or.inr ⟨rfl, yX0_comparisons, cX0_comparisons, 7, (some .int), 3, 0, TX0, 6, i_Bn_comparisons l, hn, by decide, by decide +kernel, rfl, fun _ _ _ e => (mm_gd_inv (mm_ga_inv e).2).2, hl, q_1557, q_1558, q_173, q_1559⟩)
def p_Jb_clear : mm_P := ([(0, .aload_n 0, 1, 0), (1, .iconst 0, 1, 0), (2, .putfield 25, 3, 0), (5, .aload_n 0, 1, 0), (6, .iconst 0, 1, 0), (7, .putfield 29, 3, 0), (10, .aload_n 0, 1, 0), (11, .iconst (-1), 1, (-1)), (12, .putfield 32, 3, 0), (15, .aload_n 0, 1, 0), (16, .iconst (-1), 1, (-1)), (17, .putfield 36, 3, 0), (20, .aload_n 0, 1, 0), (21, .iconst 0, 1, 0), (22, .putfield 39, 3, 0), (25, .aload_n 0, 1, 0), (26, .iconst 0, 1, 0), (27, .putfield 42, 3, 0), (30, .aload_n 0, 1, 0), (31, .iconst 0, 1, 0), (32, .putfield 45, 3, 0), (35, .aload_n 0, 1, 0), (36, .iconst 0, 1, 0), (37, .putfield 48, 3, 0), (40, .return_, 1, 0)], [(25, 1, 3, 1), (29, 1, 4, 1), (32, 1, 5, 0), (36, 1, 6, 0), (39, 1, 7, 0), (42, 1, 8, 0), (45, 1, 9, 0), (48, 1, 10, 0)], [], [], [], [(0, [0])], [], 0)
def f_Jb_clear : mm_F := fun args h => mm_ga [1] args (mm_gd 1 args h (mm_run p_Jb_clear (mm_fu + 1) 0 args [] h))
set_option maxRecDepth 100000 in
theorem e_Jb_clear_0 (f : Nat) (t : Nat) (h : mm_H) : mm_run p_Jb_clear (f + 1) 0 [.ref t] [] h =
  (mm_pf 1 3 (.int 0) h t).bind fun h1 =>
  (mm_pf 1 4 (.int 0) h1 t).bind fun h2 =>
  (mm_pf 1 5 (.int (-1)) h2 t).bind fun h3 =>
  (mm_pf 1 6 (.int (-1)) h3 t).bind fun h4 =>
  (mm_pf 1 7 (.int 0) h4 t).bind fun h5 =>
  (mm_pf 1 8 (.int 0) h5 t).bind fun h6 =>
  (mm_pf 1 9 (.int 0) h6 t).bind fun h7 =>
  (mm_pf 1 10 (.int 0) h7 t).bind fun h8 =>
  some (none, h8) := rfl
theorem e_Jb_clear (t : Nat) (h : mm_H) {fs : List Value} (hb : h t = some (.inr (1, fs))) : f_Jb_clear [.ref t] h =
  (mm_pf 1 3 (.int 0) h t).bind fun h1 =>
  (mm_pf 1 4 (.int 0) h1 t).bind fun h2 =>
  (mm_pf 1 5 (.int (-1)) h2 t).bind fun h3 =>
  (mm_pf 1 6 (.int (-1)) h3 t).bind fun h4 =>
  (mm_pf 1 7 (.int 0) h4 t).bind fun h5 =>
  (mm_pf 1 8 (.int 0) h5 t).bind fun h6 =>
  (mm_pf 1 9 (.int 0) h6 t).bind fun h7 =>
  (mm_pf 1 10 (.int 0) h7 t).bind fun h8 =>
  some (none, h8) := (mm_ga_is rfl).trans ((mm_gd_is hb).trans (e_Jb_clear_0 mm_fu t h))
set_option maxRecDepth 100000 in
theorem i_Jb_clear (l : Launch) : mm_Imp l yX1_clear cX1_clear 1 none 1 f_Jb_clear := mm_imp l (P := p_Jb_clear) mm_cls_ok mm_sys_ok (by decide) (mm_Pok_of (List.forall_mem_cons.mpr ⟨k_X1_25, (List.forall_mem_cons.mpr ⟨k_X1_29, (List.forall_mem_cons.mpr ⟨k_X1_32, (List.forall_mem_cons.mpr ⟨k_X1_36, (List.forall_mem_cons.mpr ⟨k_X1_39, (List.forall_mem_cons.mpr ⟨k_X1_42, (List.forall_mem_cons.mpr ⟨k_X1_45, (List.forall_mem_cons.mpr ⟨k_X1_48, (fun _ h => absurd h List.not_mem_nil)⟩)⟩)⟩)⟩)⟩)⟩)⟩)⟩) (fun _ h => absurd h List.not_mem_nil) (fun _ h => absurd h List.not_mem_nil) (fun _ h => absurd h List.not_mem_nil)) (by decide +kernel) rfl (cats := [1]) (fun as h r e => ⟨(mm_ga_inv e).1, (mm_gd_inv (mm_ga_inv e).2).1⟩) rfl (by decide)
theorem v_Jb_clear (l : Launch) {own : String} {i n0 : Nat} (hl : Cond.methodLink own i yX1_clear ∈ mm_tbl) (hn : 2 ≤ n0) : mm_cok l own n0 i (0, 0, 0, f_Jb_clear) := Or.inr (Or.inr ⟨rfl, yX1_clear, cX1_clear, 1, none, 1, 1, TX1, 11, i_Jb_clear l, hn, by decide, by decide +kernel, rfl, fun _ _ _ e => (mm_gd_inv (mm_ga_inv e).2).2, hl, q_856, q_857, q_177, q_858⟩)
def p_Lv_become : mm_P := ([(0, .aload_n 1, 1, 0), (1, .getfield 9, 3, 0), (4, .iconst 0, 1, 0), (5, .aload_n 0, 1, 0), (6, .getfield 9, 3, 0), (9, .iconst 0, 1, 0), (10, .bipush 30, 2, 30), (12, .invokestatic 32, 3, 0), (15, .aload_n 1, 1, 0), (16, .getfield 15, 3, 0), (19, .iconst 0, 1, 0), (20, .aload_n 0, 1, 0), (21, .getfield 15, 3, 0), (24, .iconst 0, 1, 0), (25, .bipush 30, 2, 30), (27, .invokestatic 32, 3, 0), (30, .aload_n 0, 1, 0), (31, .aload_n 1, 1, 0), (32, .getfield 18, 3, 0), (35, .putfield 18, 3, 0), (38, .aload_n 0, 1, 0), (39, .aload_n 1, 1, 0), (40, .getfield 22, 3, 0), (43, .putfield 22, 3, 0), (46, .aload_n 0, 1, 0), (47, .aload_n 1, 1, 0), (48, .getfield 25, 3, 0), (51, .putfield 25, 3, 0), (54, .aload_n 0, 1, 0), (55, .aload_n 1, 1, 0), (56, .getfield 28, 3, 0), (59, .putfield 28, 3, 0), (62, .return_, 1, 0)], [(9, 2, 0, 4), (15, 2, 1, 4), (18, 2, 2, 0), (22, 2, 3, 0), (25, 2, 4, 0), (28, 2, 5, 1)], [(32, 2, 5, 0, fun _ _ => none)], [], [], [(0, [0, 1])], [], 0)
def f_Lv_become : mm_F := fun args h => mm_ga [1, 1] args (mm_gd 2 args h (mm_run p_Lv_become (mm_fu + 1) 0 args [] h))
set_option maxRecDepth 100000 in
theorem e_Lv_become_0 (f : Nat) (t : Nat) (v1 : Nat) (h : mm_H) : mm_run p_Lv_become (f + 1) 0 [.ref t, .ref v1] [] h =
  (mm_gr 2 0 h v1).bind fun r1 =>
  (mm_gr 2 0 h t).bind fun r2 =>
  (mm_cp h r1 0 r2 0 30).bind fun h3 =>
  (mm_gr 2 1 h3 v1).bind fun r4 =>
  (mm_gr 2 1 h3 t).bind fun r5 =>
  (mm_cp h3 r4 0 r5 0 30).bind fun h6 =>
  (mm_gi 2 2 h6 v1).bind fun x7 =>
  (mm_pf 2 2 (.int x7) h6 t).bind fun h8 =>
  (mm_gi 2 3 h8 v1).bind fun x9 =>
  (mm_pf 2 3 (.int x9) h8 t).bind fun h10 =>
  (mm_gi 2 4 h10 v1).bind fun x11 =>
  (mm_pf 2 4 (.int x11) h10 t).bind fun h12 =>
  (mm_gi 2 5 h12 v1).bind fun x13 =>
  if x13 = 0 ∨ x13 = 1 then
  (mm_pf 2 5 (.int x13) h12 t).bind fun h14 =>
  some (none, h14)
  else none := rfl
theorem e_Lv_become (t : Nat) (v1 : Nat) (h : mm_H) {fs : List Value} (hb : h t = some (.inr (2, fs))) : f_Lv_become [.ref t, .ref v1] h =
  (mm_gr 2 0 h v1).bind fun r1 =>
  (mm_gr 2 0 h t).bind fun r2 =>
  (mm_cp h r1 0 r2 0 30).bind fun h3 =>
  (mm_gr 2 1 h3 v1).bind fun r4 =>
  (mm_gr 2 1 h3 t).bind fun r5 =>
  (mm_cp h3 r4 0 r5 0 30).bind fun h6 =>
  (mm_gi 2 2 h6 v1).bind fun x7 =>
  (mm_pf 2 2 (.int x7) h6 t).bind fun h8 =>
  (mm_gi 2 3 h8 v1).bind fun x9 =>
  (mm_pf 2 3 (.int x9) h8 t).bind fun h10 =>
  (mm_gi 2 4 h10 v1).bind fun x11 =>
  (mm_pf 2 4 (.int x11) h10 t).bind fun h12 =>
  (mm_gi 2 5 h12 v1).bind fun x13 =>
  if x13 = 0 ∨ x13 = 1 then
  (mm_pf 2 5 (.int x13) h12 t).bind fun h14 =>
  some (none, h14)
  else none := (mm_ga_is rfl).trans ((mm_gd_is hb).trans (e_Lv_become_0 mm_fu t v1 h))
set_option maxRecDepth 100000 in
theorem i_Lv_become (l : Launch) : mm_Imp l yX2_become cX2_become 2 none 1 f_Lv_become := mm_imp l (P := p_Lv_become) mm_cls_ok mm_sys_ok (by decide) (mm_Pok_of (List.forall_mem_cons.mpr ⟨k_X2_9, (List.forall_mem_cons.mpr ⟨k_X2_15, (List.forall_mem_cons.mpr ⟨k_X2_18, (List.forall_mem_cons.mpr ⟨k_X2_22, (List.forall_mem_cons.mpr ⟨k_X2_25, (List.forall_mem_cons.mpr ⟨k_X2_28, (fun _ h => absurd h List.not_mem_nil)⟩)⟩)⟩)⟩)⟩)⟩) (List.forall_mem_cons.mpr ⟨Or.inl ⟨by decide, Or.inl ⟨rfl, q_1029⟩⟩, (fun _ h => absurd h List.not_mem_nil)⟩) (fun _ h => absurd h List.not_mem_nil) (fun _ h => absurd h List.not_mem_nil)) (by decide +kernel) rfl (cats := [1, 1]) (fun as h r e => ⟨(mm_ga_inv e).1, (mm_gd_inv (mm_ga_inv e).2).1⟩) rfl (by decide)
theorem v_Lv_become (l : Launch) {own : String} {i n0 : Nat} (hl : Cond.methodLink own i yX2_become ∈ mm_tbl) (hn : 2 ≤ n0) : mm_cok l own n0 i (0, 1, 0, f_Lv_become) := Or.inr (Or.inr ⟨rfl, yX2_become, cX2_become, 2, none, 1, 2, TX2, 6, i_Lv_become l, hn, by decide, by decide +kernel, rfl, fun _ _ _ e => (mm_gd_inv (mm_ga_inv e).2).2, hl, q_1026, q_1027, q_178, q_1028⟩)
def p_Jb_become : mm_P := ([(0, .aload_n 1, 1, 0), (1, .getfield 9, 3, 0), (4, .iconst 0, 1, 0), (5, .aload_n 0, 1, 0), (6, .getfield 9, 3, 0), (9, .iconst 0, 1, 0), (10, .sipush 360, 3, 360), (13, .invokestatic 51, 3, 0), (16, .aload_n 1, 1, 0), (17, .getfield 15, 3, 0), (20, .iconst 0, 1, 0), (21, .aload_n 0, 1, 0), (22, .getfield 15, 3, 0), (25, .iconst 0, 1, 0), (26, .bipush 40, 2, 40), (28, .invokestatic 51, 3, 0), (31, .aload_n 0, 1, 0), (32, .getfield 21, 3, 0), (35, .aload_n 1, 1, 0), (36, .getfield 21, 3, 0), (39, .invokevirtual 57, 3, 0), (42, .aload_n 0, 1, 0), (43, .aload_n 1, 1, 0), (44, .getfield 25, 3, 0), (47, .putfield 25, 3, 0), (50, .aload_n 0, 1, 0), (51, .aload_n 1, 1, 0), (52, .getfield 29, 3, 0), (55, .putfield 29, 3, 0), (58, .aload_n 0, 1, 0), (59, .aload_n 1, 1, 0), (60, .getfield 32, 3, 0), (63, .putfield 32, 3, 0), (66, .aload_n 0, 1, 0), (67, .aload_n 1, 1, 0), (68, .getfield 36, 3, 0), (71, .putfield 36, 3, 0), (74, .aload_n 0, 1, 0), (75, .aload_n 1, 1, 0), (76, .getfield 39, 3, 0), (79, .putfield 39, 3, 0), (82, .aload_n 0, 1, 0), (83, .aload_n 1, 1, 0), (84, .getfield 42, 3, 0), (87, .putfield 42, 3, 0), (90, .aload_n 0, 1, 0), (91, .aload_n 1, 1, 0), (92, .getfield 45, 3, 0), (95, .putfield 45, 3, 0), (98, .aload_n 0, 1, 0), (99, .aload_n 1, 1, 0), (100, .getfield 48, 3, 0), (103, .putfield 48, 3, 0), (106, .return_, 1, 0)], [(9, 1, 0, 4), (15, 1, 1, 4), (21, 1, 2, 4), (25, 1, 3, 1), (29, 1, 4, 1), (32, 1, 5, 0), (36, 1, 6, 0), (39, 1, 7, 0), (42, 1, 8, 0), (45, 1, 9, 0), (48, 1, 10, 0)], [(51, 2, 5, 0, fun _ _ => none), (57, 0, 1, 0, f_Lv_become)], [], [], [(0, [0, 1])], [], 0)
def f_Jb_become : mm_F := fun args h => mm_ga [1, 1] args (mm_gd 1 args h (mm_run p_Jb_become (mm_fu + 1) 0 args [] h))
set_option maxRecDepth 100000 in
theorem e_Jb_become_0 (f : Nat) (t : Nat) (v1 : Nat) (h : mm_H) : mm_run p_Jb_become (f + 1) 0 [.ref t, .ref v1] [] h =
  (mm_gr 1 0 h v1).bind fun r1 =>
  (mm_gr 1 0 h t).bind fun r2 =>
  (mm_cp h r1 0 r2 0 360).bind fun h3 =>
  (mm_gr 1 1 h3 v1).bind fun r4 =>
  (mm_gr 1 1 h3 t).bind fun r5 =>
  (mm_cp h3 r4 0 r5 0 40).bind fun h6 =>
  (mm_gr 1 2 h6 t).bind fun r7 =>
  (mm_gr 1 2 h6 v1).bind fun r8 =>
  mm_cv (f_Lv_become [.ref r7, .ref r8] h6) fun h9 =>
  (mm_gi 1 3 h9 v1).bind fun x10 =>
  if x10 = 0 ∨ x10 = 1 then
  (mm_pf 1 3 (.int x10) h9 t).bind fun h11 =>
  (mm_gi 1 4 h11 v1).bind fun x12 =>
  if x12 = 0 ∨ x12 = 1 then
  (mm_pf 1 4 (.int x12) h11 t).bind fun h13 =>
  (mm_gi 1 5 h13 v1).bind fun x14 =>
  (mm_pf 1 5 (.int x14) h13 t).bind fun h15 =>
  (mm_gi 1 6 h15 v1).bind fun x16 =>
  (mm_pf 1 6 (.int x16) h15 t).bind fun h17 =>
  (mm_gi 1 7 h17 v1).bind fun x18 =>
  (mm_pf 1 7 (.int x18) h17 t).bind fun h19 =>
  (mm_gi 1 8 h19 v1).bind fun x20 =>
  (mm_pf 1 8 (.int x20) h19 t).bind fun h21 =>
  (mm_gi 1 9 h21 v1).bind fun x22 =>
  (mm_pf 1 9 (.int x22) h21 t).bind fun h23 =>
  (mm_gi 1 10 h23 v1).bind fun x24 =>
  (mm_pf 1 10 (.int x24) h23 t).bind fun h25 =>
  some (none, h25)
  else none
  else none := rfl
theorem e_Jb_become (t : Nat) (v1 : Nat) (h : mm_H) {fs : List Value} (hb : h t = some (.inr (1, fs))) : f_Jb_become [.ref t, .ref v1] h =
  (mm_gr 1 0 h v1).bind fun r1 =>
  (mm_gr 1 0 h t).bind fun r2 =>
  (mm_cp h r1 0 r2 0 360).bind fun h3 =>
  (mm_gr 1 1 h3 v1).bind fun r4 =>
  (mm_gr 1 1 h3 t).bind fun r5 =>
  (mm_cp h3 r4 0 r5 0 40).bind fun h6 =>
  (mm_gr 1 2 h6 t).bind fun r7 =>
  (mm_gr 1 2 h6 v1).bind fun r8 =>
  mm_cv (f_Lv_become [.ref r7, .ref r8] h6) fun h9 =>
  (mm_gi 1 3 h9 v1).bind fun x10 =>
  if x10 = 0 ∨ x10 = 1 then
  (mm_pf 1 3 (.int x10) h9 t).bind fun h11 =>
  (mm_gi 1 4 h11 v1).bind fun x12 =>
  if x12 = 0 ∨ x12 = 1 then
  (mm_pf 1 4 (.int x12) h11 t).bind fun h13 =>
  (mm_gi 1 5 h13 v1).bind fun x14 =>
  (mm_pf 1 5 (.int x14) h13 t).bind fun h15 =>
  (mm_gi 1 6 h15 v1).bind fun x16 =>
  (mm_pf 1 6 (.int x16) h15 t).bind fun h17 =>
  (mm_gi 1 7 h17 v1).bind fun x18 =>
  (mm_pf 1 7 (.int x18) h17 t).bind fun h19 =>
  (mm_gi 1 8 h19 v1).bind fun x20 =>
  (mm_pf 1 8 (.int x20) h19 t).bind fun h21 =>
  (mm_gi 1 9 h21 v1).bind fun x22 =>
  (mm_pf 1 9 (.int x22) h21 t).bind fun h23 =>
  (mm_gi 1 10 h23 v1).bind fun x24 =>
  (mm_pf 1 10 (.int x24) h23 t).bind fun h25 =>
  some (none, h25)
  else none
  else none := (mm_ga_is rfl).trans ((mm_gd_is hb).trans (e_Jb_become_0 mm_fu t v1 h))
set_option maxRecDepth 100000 in
theorem i_Jb_become (l : Launch) : mm_Imp l yX1_become cX1_become 2 none 2 f_Jb_become := mm_imp l (P := p_Jb_become) mm_cls_ok mm_sys_ok (by decide) (mm_Pok_of (List.forall_mem_cons.mpr ⟨k_X1_9, (List.forall_mem_cons.mpr ⟨k_X1_15, (List.forall_mem_cons.mpr ⟨k_X1_21, (List.forall_mem_cons.mpr ⟨k_X1_25, (List.forall_mem_cons.mpr ⟨k_X1_29, (List.forall_mem_cons.mpr ⟨k_X1_32, (List.forall_mem_cons.mpr ⟨k_X1_36, (List.forall_mem_cons.mpr ⟨k_X1_39, (List.forall_mem_cons.mpr ⟨k_X1_42, (List.forall_mem_cons.mpr ⟨k_X1_45, (List.forall_mem_cons.mpr ⟨k_X1_48, (fun _ h => absurd h List.not_mem_nil)⟩)⟩)⟩)⟩)⟩)⟩)⟩)⟩)⟩)⟩)⟩) (List.forall_mem_cons.mpr ⟨Or.inl ⟨by decide, Or.inl ⟨rfl, q_1034⟩⟩, (List.forall_mem_cons.mpr ⟨v_Lv_become l q_1035 (by decide), (fun _ h => absurd h List.not_mem_nil)⟩)⟩) (fun _ h => absurd h List.not_mem_nil) (fun _ h => absurd h List.not_mem_nil)) (by decide +kernel) rfl (cats := [1, 1]) (fun as h r e => ⟨(mm_ga_inv e).1, (mm_gd_inv (mm_ga_inv e).2).1⟩) rfl (by decide)
theorem v_Jb_become (l : Launch) {own : String} {i n0 : Nat} (hl : Cond.methodLink own i yX1_become ∈ mm_tbl) (hn : 3 ≤ n0) : mm_cok l own n0 i (0, 1, 0, f_Jb_become) := Or.inr (Or.inr ⟨rfl, yX1_become, cX1_become, 2, none, 2, 1, TX1, 11, i_Jb_become l, hn, by decide, by decide +kernel, rfl, fun _ _ _ e => (mm_gd_inv (mm_ga_inv e).2).2, hl, q_1031, q_1032, q_177, q_1033⟩)
def p_Jb_isAt : mm_P := ([(0, .aload_n 0, 1, 0), (1, .getfield 25, 3, 0), (4, .ifCond .eq 15, 3, 0), (7, .aload_n 0, 1, 0), (8, .getfield 32, 3, 0), (11, .iload_n 1, 1, 0), (12, .if_icmp .ne 7, 3, 0), (15, .iconst 1, 1, 1), (16, .goto 4, 3, 0), (19, .iconst 0, 1, 0), (20, .ireturn, 1, 0)], [(25, 1, 3, 1), (32, 1, 5, 0)], [], [], [], [(0, [0, 1])], [], 1)
def f_Jb_isAt : mm_F := fun args h => mm_ga [1, 1] args (mm_gd 1 args h (mm_run p_Jb_isAt (mm_fu + 1) 0 args [] h))
set_option maxRecDepth 100000 in
theorem e_Jb_isAt_0 (f : Nat) (t : Nat) (v1 : Int32) (h : mm_H) : mm_run p_Jb_isAt (f + 1) 0 [.ref t, .int v1] [] h =
  (mm_gi 1 3 h t).bind fun x1 =>
  if x1 = 0 then
    some (some (.int 0), h)
  else
    (mm_gi 1 5 h t).bind fun x2 =>
    if x2 = v1 then
      some (some (.int 1), h)
    else
      some (some (.int 0), h) := rfl
theorem e_Jb_isAt (t : Nat) (v1 : Int32) (h : mm_H) {fs : List Value} (hb : h t = some (.inr (1, fs))) : f_Jb_isAt [.ref t, .int v1] h =
  (mm_gi 1 3 h t).bind fun x1 =>
  if x1 = 0 then
    some (some (.int 0), h)
  else
    (mm_gi 1 5 h t).bind fun x2 =>
    if x2 = v1 then
      some (some (.int 1), h)
    else
      some (some (.int 0), h) := (mm_ga_is rfl).trans ((mm_gd_is hb).trans (e_Jb_isAt_0 mm_fu t v1 h))
set_option maxRecDepth 100000 in
theorem i_Jb_isAt (l : Launch) : mm_Imp l yX1_isAt cX1_isAt 2 (some .boolean) 1 f_Jb_isAt := mm_imp l (P := p_Jb_isAt) mm_cls_ok mm_sys_ok (by decide) (mm_Pok_of (List.forall_mem_cons.mpr ⟨k_X1_25, (List.forall_mem_cons.mpr ⟨k_X1_32, (fun _ h => absurd h List.not_mem_nil)⟩)⟩) (fun _ h => absurd h List.not_mem_nil) (fun _ h => absurd h List.not_mem_nil) (fun _ h => absurd h List.not_mem_nil)) (by decide +kernel) rfl (cats := [1, 1]) (fun as h r e => ⟨(mm_ga_inv e).1, (mm_gd_inv (mm_ga_inv e).2).1⟩) rfl (by decide)
theorem v_Jb_isAt (l : Launch) {own : String} {i n0 : Nat} (hl : Cond.methodLink own i yX1_isAt ∈ mm_tbl) (hn : 2 ≤ n0) : mm_cok l own n0 i (0, 1, 1, f_Jb_isAt) := Or.inr (Or.inr ⟨rfl, yX1_isAt, cX1_isAt, 2, (some .boolean), 1, 1, TX1, 11, i_Jb_isAt l, hn, by decide, by decide +kernel, rfl, fun _ _ _ e => (mm_gd_inv (mm_ga_inv e).2).2, hl, q_1072, q_1073, q_177, q_1074⟩)
def p_Jb_isRunning : mm_P := ([(0, .aload_n 0, 1, 0), (1, .getfield 25, 3, 0), (4, .ifCond .eq 14, 3, 0), (7, .aload_n 0, 1, 0), (8, .getfield 29, 3, 0), (11, .ifCond .ne 7, 3, 0), (14, .iconst 1, 1, 1), (15, .goto 4, 3, 0), (18, .iconst 0, 1, 0), (19, .ireturn, 1, 0)], [(25, 1, 3, 1), (29, 1, 4, 1)], [], [], [], [(0, [0])], [], 1)
def f_Jb_isRunning : mm_F := fun args h => mm_ga [1] args (mm_gd 1 args h (mm_run p_Jb_isRunning (mm_fu + 1) 0 args [] h))
set_option maxRecDepth 100000 in
theorem e_Jb_isRunning_0 (f : Nat) (t : Nat) (h : mm_H) : mm_run p_Jb_isRunning (f + 1) 0 [.ref t] [] h =
  (mm_gi 1 3 h t).bind fun x1 =>
  if x1 = 0 then
    some (some (.int 0), h)
  else
    (mm_gi 1 4 h t).bind fun x2 =>
    if x2 = 0 then
      some (some (.int 1), h)
    else
      some (some (.int 0), h) := rfl
theorem e_Jb_isRunning (t : Nat) (h : mm_H) {fs : List Value} (hb : h t = some (.inr (1, fs))) : f_Jb_isRunning [.ref t] h =
  (mm_gi 1 3 h t).bind fun x1 =>
  if x1 = 0 then
    some (some (.int 0), h)
  else
    (mm_gi 1 4 h t).bind fun x2 =>
    if x2 = 0 then
      some (some (.int 1), h)
    else
      some (some (.int 0), h) := (mm_ga_is rfl).trans ((mm_gd_is hb).trans (e_Jb_isRunning_0 mm_fu t h))
set_option maxRecDepth 100000 in
theorem i_Jb_isRunning (l : Launch) : mm_Imp l yX1_isRunning cX1_isRunning 1 (some .boolean) 1 f_Jb_isRunning := mm_imp l (P := p_Jb_isRunning) mm_cls_ok mm_sys_ok (by decide) (mm_Pok_of (List.forall_mem_cons.mpr ⟨k_X1_25, (List.forall_mem_cons.mpr ⟨k_X1_29, (fun _ h => absurd h List.not_mem_nil)⟩)⟩) (fun _ h => absurd h List.not_mem_nil) (fun _ h => absurd h List.not_mem_nil) (fun _ h => absurd h List.not_mem_nil)) (by decide +kernel) rfl (cats := [1]) (fun as h r e => ⟨(mm_ga_inv e).1, (mm_gd_inv (mm_ga_inv e).2).1⟩) rfl (by decide)
theorem v_Jb_isRunning (l : Launch) {own : String} {i n0 : Nat} (hl : Cond.methodLink own i yX1_isRunning ∈ mm_tbl) (hn : 2 ≤ n0) : mm_cok l own n0 i (0, 0, 1, f_Jb_isRunning) := Or.inr (Or.inr ⟨rfl, yX1_isRunning, cX1_isRunning, 1, (some .boolean), 1, 1, TX1, 11, i_Jb_isRunning l, hn, by decide, by decide +kernel, rfl, fun _ _ _ e => (mm_gd_inv (mm_ga_inv e).2).2, hl, q_1232, q_1233, q_177, q_1234⟩)
def p_Jb_lay : mm_P := ([(0, .aload_n 0, 1, 0), (1, .getfield 48, 3, 0), (4, .bipush 40, 2, 40), (6, .if_icmp .ge 23, 3, 0), (9, .aload_n 0, 1, 0), (10, .getfield 15, 3, 0), (13, .aload_n 0, 1, 0), (14, .getfield 48, 3, 0), (17, .iload_n 1, 1, 0), (18, .iastore, 1, 0), (19, .aload_n 0, 1, 0), (20, .dup, 1, 0), (21, .getfield 48, 3, 0), (24, .iconst 1, 1, 1), (25, .iadd, 1, 0), (26, .putfield 48, 3, 0), (29, .return_, 1, 0)], [(15, 1, 1, 4), (48, 1, 10, 0)], [], [], [], [(0, [0, 1])], [], 0)
def f_Jb_lay : mm_F := fun args h => mm_ga [1, 1] args (mm_gd 1 args h (mm_run p_Jb_lay (mm_fu + 1) 0 args [] h))
set_option maxRecDepth 100000 in
theorem e_Jb_lay_0 (f : Nat) (t : Nat) (v1 : Int32) (h : mm_H) : mm_run p_Jb_lay (f + 1) 0 [.ref t, .int v1] [] h =
  (mm_gi 1 10 h t).bind fun x1 =>
  if x1 < 40 then
    (mm_gr 1 1 h t).bind fun r2 =>
    (mm_gi 1 10 h t).bind fun x3 =>
    (mm_si h r2 x3 v1).bind fun h4 =>
    (mm_gi 1 10 h4 t).bind fun x5 =>
    (mm_pf 1 10 (.int (x5 + 1)) h4 t).bind fun h6 =>
    some (none, h6)
  else
    some (none, h) := rfl
theorem e_Jb_lay (t : Nat) (v1 : Int32) (h : mm_H) {fs : List Value} (hb : h t = some (.inr (1, fs))) : f_Jb_lay [.ref t, .int v1] h =
  (mm_gi 1 10 h t).bind fun x1 =>
  if x1 < 40 then
    (mm_gr 1 1 h t).bind fun r2 =>
    (mm_gi 1 10 h t).bind fun x3 =>
    (mm_si h r2 x3 v1).bind fun h4 =>
    (mm_gi 1 10 h4 t).bind fun x5 =>
    (mm_pf 1 10 (.int (x5 + 1)) h4 t).bind fun h6 =>
    some (none, h6)
  else
    some (none, h) := (mm_ga_is rfl).trans ((mm_gd_is hb).trans (e_Jb_lay_0 mm_fu t v1 h))
set_option maxRecDepth 100000 in
theorem i_Jb_lay (l : Launch) : mm_Imp l yX1_lay cX1_lay 2 none 1 f_Jb_lay := mm_imp l (P := p_Jb_lay) mm_cls_ok mm_sys_ok (by decide) (mm_Pok_of (List.forall_mem_cons.mpr ⟨k_X1_15, (List.forall_mem_cons.mpr ⟨k_X1_48, (fun _ h => absurd h List.not_mem_nil)⟩)⟩) (fun _ h => absurd h List.not_mem_nil) (fun _ h => absurd h List.not_mem_nil) (fun _ h => absurd h List.not_mem_nil)) (by decide +kernel) rfl (cats := [1, 1]) (fun as h r e => ⟨(mm_ga_inv e).1, (mm_gd_inv (mm_ga_inv e).2).1⟩) rfl (by decide)
theorem v_Jb_lay (l : Launch) {own : String} {i n0 : Nat} (hl : Cond.methodLink own i yX1_lay ∈ mm_tbl) (hn : 2 ≤ n0) : mm_cok l own n0 i (0, 1, 0, f_Jb_lay) := Or.inr (Or.inr ⟨rfl, yX1_lay, cX1_lay, 2, none, 1, 1, TX1, 11, i_Jb_lay l, hn, by decide, by decide +kernel, rfl, fun _ _ _ e => (mm_gd_inv (mm_ga_inv e).2).2, hl, q_1077, q_1078, q_177, q_1079⟩)
def p_Jb_writeRecord : mm_P := ([(0, .aload_n 0, 1, 0), (1, .getfield 45, 3, 0), (4, .bipush 120, 2, 120), (6, .if_icmp .ge 59, 3, 0), (9, .aload_n 0, 1, 0), (10, .getfield 9, 3, 0), (13, .aload_n 0, 1, 0), (14, .getfield 45, 3, 0), (17, .iconst 3, 1, 3), (18, .imul, 1, 0), (19, .aload_n 0, 1, 0), (20, .getfield 32, 3, 0), (23, .iastore, 1, 0), (24, .aload_n 0, 1, 0), (25, .getfield 9, 3, 0), (28, .aload_n 0, 1, 0), (29, .getfield 45, 3, 0), (32, .iconst 3, 1, 3), (33, .imul, 1, 0), (34, .iconst 1, 1, 1), (35, .iadd, 1, 0), (36, .aload_n 0, 1, 0), (37, .getfield 42, 3, 0), (40, .iastore, 1, 0), (41, .aload_n 0, 1, 0), (42, .getfield 9, 3, 0), (45, .aload_n 0, 1, 0), (46, .getfield 45, 3, 0), (49, .iconst 3, 1, 3), (50, .imul, 1, 0), (51, .iconst 2, 1, 2), (52, .iadd, 1, 0), (53, .iload_n 1, 1, 0), (54, .iastore, 1, 0), (55, .aload_n 0, 1, 0), (56, .dup, 1, 0), (57, .getfield 45, 3, 0), (60, .iconst 1, 1, 1), (61, .iadd, 1, 0), (62, .putfield 45, 3, 0), (65, .return_, 1, 0)], [(9, 1, 0, 4), (32, 1, 5, 0), (42, 1, 8, 0), (45, 1, 9, 0)], [], [], [], [(0, [0, 1])], [], 0)
def f_Jb_writeRecord : mm_F := fun args h => mm_ga [1, 1] args (mm_gd 1 args h (mm_run p_Jb_writeRecord (mm_fu + 1) 0 args [] h))
set_option maxRecDepth 100000 in
theorem e_Jb_writeRecord_0 (f : Nat) (t : Nat) (v1 : Int32) (h : mm_H) : mm_run p_Jb_writeRecord (f + 1) 0 [.ref t, .int v1] [] h =
  (mm_gi 1 9 h t).bind fun x1 =>
  if x1 < 120 then
    (mm_gr 1 0 h t).bind fun r2 =>
    (mm_gi 1 9 h t).bind fun x3 =>
    (mm_gi 1 5 h t).bind fun x4 =>
    (mm_si h r2 (x3 * 3) x4).bind fun h5 =>
    (mm_gr 1 0 h5 t).bind fun r6 =>
    (mm_gi 1 9 h5 t).bind fun x7 =>
    (mm_gi 1 8 h5 t).bind fun x8 =>
    (mm_si h5 r6 ((x7 * 3) + 1) x8).bind fun h9 =>
    (mm_gr 1 0 h9 t).bind fun r10 =>
    (mm_gi 1 9 h9 t).bind fun x11 =>
    (mm_si h9 r10 ((x11 * 3) + 2) v1).bind fun h12 =>
    (mm_gi 1 9 h12 t).bind fun x13 =>
    (mm_pf 1 9 (.int (x13 + 1)) h12 t).bind fun h14 =>
    some (none, h14)
  else
    some (none, h) := rfl
theorem e_Jb_writeRecord (t : Nat) (v1 : Int32) (h : mm_H) {fs : List Value} (hb : h t = some (.inr (1, fs))) : f_Jb_writeRecord [.ref t, .int v1] h =
  (mm_gi 1 9 h t).bind fun x1 =>
  if x1 < 120 then
    (mm_gr 1 0 h t).bind fun r2 =>
    (mm_gi 1 9 h t).bind fun x3 =>
    (mm_gi 1 5 h t).bind fun x4 =>
    (mm_si h r2 (x3 * 3) x4).bind fun h5 =>
    (mm_gr 1 0 h5 t).bind fun r6 =>
    (mm_gi 1 9 h5 t).bind fun x7 =>
    (mm_gi 1 8 h5 t).bind fun x8 =>
    (mm_si h5 r6 ((x7 * 3) + 1) x8).bind fun h9 =>
    (mm_gr 1 0 h9 t).bind fun r10 =>
    (mm_gi 1 9 h9 t).bind fun x11 =>
    (mm_si h9 r10 ((x11 * 3) + 2) v1).bind fun h12 =>
    (mm_gi 1 9 h12 t).bind fun x13 =>
    (mm_pf 1 9 (.int (x13 + 1)) h12 t).bind fun h14 =>
    some (none, h14)
  else
    some (none, h) := (mm_ga_is rfl).trans ((mm_gd_is hb).trans (e_Jb_writeRecord_0 mm_fu t v1 h))
set_option maxRecDepth 100000 in
theorem i_Jb_writeRecord (l : Launch) : mm_Imp l yX1_writeRecord cX1_writeRecord 2 none 1 f_Jb_writeRecord := mm_imp l (P := p_Jb_writeRecord) mm_cls_ok mm_sys_ok (by decide) (mm_Pok_of (List.forall_mem_cons.mpr ⟨k_X1_9, (List.forall_mem_cons.mpr ⟨k_X1_32, (List.forall_mem_cons.mpr ⟨k_X1_42, (List.forall_mem_cons.mpr ⟨k_X1_45, (fun _ h => absurd h List.not_mem_nil)⟩)⟩)⟩)⟩) (fun _ h => absurd h List.not_mem_nil) (fun _ h => absurd h List.not_mem_nil) (fun _ h => absurd h List.not_mem_nil)) (by decide +kernel) rfl (cats := [1, 1]) (fun as h r e => ⟨(mm_ga_inv e).1, (mm_gd_inv (mm_ga_inv e).2).1⟩) rfl (by decide)
theorem v_Jb_writeRecord (l : Launch) {own : String} {i n0 : Nat} (hl : Cond.methodLink own i yX1_writeRecord ∈ mm_tbl) (hn : 2 ≤ n0) : mm_cok l own n0 i (0, 1, 0, f_Jb_writeRecord) := Or.inr (Or.inr ⟨rfl, yX1_writeRecord, cX1_writeRecord, 2, none, 1, 1, TX1, 11, i_Jb_writeRecord l, hn, by decide, by decide +kernel, rfl, fun _ _ _ e => (mm_gd_inv (mm_ga_inv e).2).2, hl, q_1248, q_1249, q_177, q_1250⟩)
def p_Lv_clear : mm_P := ([(0, .aload_n 0, 1, 0), (1, .iconst 0, 1, 0), (2, .putfield 18, 3, 0), (5, .aload_n 0, 1, 0), (6, .iconst 0, 1, 0), (7, .putfield 22, 3, 0), (10, .aload_n 0, 1, 0), (11, .iload_n 1, 1, 0), (12, .putfield 25, 3, 0), (15, .aload_n 0, 1, 0), (16, .iload_n 2, 1, 0), (17, .putfield 28, 3, 0), (20, .return_, 1, 0)], [(18, 2, 2, 0), (22, 2, 3, 0), (25, 2, 4, 0), (28, 2, 5, 1)], [], [], [], [(0, [0, 1, 2])], [], 0)
def f_Lv_clear : mm_F := fun args h => mm_ga [1, 1, 1] args (mm_gd 2 args h (mm_run p_Lv_clear (mm_fu + 1) 0 args [] h))
set_option maxRecDepth 100000 in
theorem e_Lv_clear_0 (f : Nat) (t : Nat) (v1 : Int32) (v2 : Int32) (h : mm_H) : mm_run p_Lv_clear (f + 1) 0 [.ref t, .int v1, .int v2] [] h =
  (mm_pf 2 2 (.int 0) h t).bind fun h1 =>
  (mm_pf 2 3 (.int 0) h1 t).bind fun h2 =>
  (mm_pf 2 4 (.int v1) h2 t).bind fun h3 =>
  if v2 = 0 ∨ v2 = 1 then
  (mm_pf 2 5 (.int v2) h3 t).bind fun h4 =>
  some (none, h4)
  else none := rfl
theorem e_Lv_clear (t : Nat) (v1 : Int32) (v2 : Int32) (h : mm_H) {fs : List Value} (hb : h t = some (.inr (2, fs))) : f_Lv_clear [.ref t, .int v1, .int v2] h =
  (mm_pf 2 2 (.int 0) h t).bind fun h1 =>
  (mm_pf 2 3 (.int 0) h1 t).bind fun h2 =>
  (mm_pf 2 4 (.int v1) h2 t).bind fun h3 =>
  if v2 = 0 ∨ v2 = 1 then
  (mm_pf 2 5 (.int v2) h3 t).bind fun h4 =>
  some (none, h4)
  else none := (mm_ga_is rfl).trans ((mm_gd_is hb).trans (e_Lv_clear_0 mm_fu t v1 v2 h))
set_option maxRecDepth 100000 in
theorem i_Lv_clear (l : Launch) : mm_Imp l yX2_clear cX2_clear 3 none 1 f_Lv_clear := mm_imp l (P := p_Lv_clear) mm_cls_ok mm_sys_ok (by decide) (mm_Pok_of (List.forall_mem_cons.mpr ⟨k_X2_18, (List.forall_mem_cons.mpr ⟨k_X2_22, (List.forall_mem_cons.mpr ⟨k_X2_25, (List.forall_mem_cons.mpr ⟨k_X2_28, (fun _ h => absurd h List.not_mem_nil)⟩)⟩)⟩)⟩) (fun _ h => absurd h List.not_mem_nil) (fun _ h => absurd h List.not_mem_nil) (fun _ h => absurd h List.not_mem_nil)) (by decide +kernel) rfl (cats := [1, 1, 1]) (fun as h r e => ⟨(mm_ga_inv e).1, (mm_gd_inv (mm_ga_inv e).2).1⟩) rfl (by decide)
theorem v_Lv_clear (l : Launch) {own : String} {i n0 : Nat} (hl : Cond.methodLink own i yX2_clear ∈ mm_tbl) (hn : 2 ≤ n0) : mm_cok l own n0 i (0, 2, 0, f_Lv_clear) := Or.inr (Or.inr ⟨rfl, yX2_clear, cX2_clear, 3, none, 1, 2, TX2, 6, i_Lv_clear l, hn, by decide, by decide +kernel, rfl, fun _ _ _ e => (mm_gd_inv (mm_ga_inv e).2).2, hl, q_860, q_861, q_178, q_862⟩)
def p_Lv_code : mm_P := ([(0, .aload_n 0, 1, 0), (1, .getfield 28, 3, 0), (4, .ifCond .eq 11, 3, 0), (7, .sipush 999, 3, 999), (10, .iload_n 1, 1, 0), (11, .isub, 1, 0), (12, .goto 4, 3, 0), (15, .iload_n 1, 1, 0), (16, .bipush 32, 2, 32), (18, .imul, 1, 0), (19, .iload_n 2, 1, 0), (20, .iadd, 1, 0), (21, .ireturn, 1, 0)], [(28, 2, 5, 1)], [], [], [], [(0, [0, 1, 2])], [], 2)
def f_Lv_code : mm_F := fun args h => mm_ga [1, 1, 1] args (mm_gd 2 args h (mm_run p_Lv_code (mm_fu + 1) 0 args [] h))
set_option maxRecDepth 100000 in
theorem e_Lv_code_0 (f : Nat) (t : Nat) (v1 : Int32) (v2 : Int32) (h : mm_H) : mm_run p_Lv_code (f + 1) 0 [.ref t, .int v1, .int v2] [] h =
  (mm_gi 2 5 h t).bind fun x1 =>
  if x1 = 0 then
    some (some (.int ((v1 * 32) + v2)), h)
  else
    some (some (.int (((999 - v1) * 32) + v2)), h) := rfl
theorem e_Lv_code (t : Nat) (v1 : Int32) (v2 : Int32) (h : mm_H) {fs : List Value} (hb : h t = some (.inr (2, fs))) : f_Lv_code [.ref t, .int v1, .int v2] h =
  (mm_gi 2 5 h t).bind fun x1 =>
  if x1 = 0 then
    some (some (.int ((v1 * 32) + v2)), h)
  else
    some (some (.int (((999 - v1) * 32) + v2)), h) := (mm_ga_is rfl).trans ((mm_gd_is hb).trans (e_Lv_code_0 mm_fu t v1 v2 h))
set_option maxRecDepth 100000 in
theorem i_Lv_code (l : Launch) : mm_Imp l yX2_code cX2_code 3 (some .int) 1 f_Lv_code := mm_imp l (P := p_Lv_code) mm_cls_ok mm_sys_ok (by decide) (mm_Pok_of (List.forall_mem_cons.mpr ⟨k_X2_28, (fun _ h => absurd h List.not_mem_nil)⟩) (fun _ h => absurd h List.not_mem_nil) (fun _ h => absurd h List.not_mem_nil) (fun _ h => absurd h List.not_mem_nil)) (by decide +kernel) rfl (cats := [1, 1, 1]) (fun as h r e => ⟨(mm_ga_inv e).1, (mm_gd_inv (mm_ga_inv e).2).1⟩) rfl (by decide)
theorem v_Lv_code (l : Launch) {own : String} {i n0 : Nat} (hl : Cond.methodLink own i yX2_code ∈ mm_tbl) (hn : 2 ≤ n0) : mm_cok l own n0 i (0, 2, 1, f_Lv_code) := Or.inr (Or.inr ⟨rfl, yX2_code, cX2_code, 3, (some .int), 1, 2, TX2, 6, i_Lv_code l, hn, by decide, by decide +kernel, rfl, fun _ _ _ e => (mm_gd_inv (mm_ga_inv e).2).2, hl, q_909, q_910, q_178, q_911⟩)
def p_Lv_valueIn : mm_P := ([(0, .aload_n 0, 1, 0), (1, .getfield 28, 3, 0), (4, .ifCond .eq 14, 3, 0), (7, .sipush 999, 3, 999), (10, .iload_n 1, 1, 0), (11, .bipush 32, 2, 32), (13, .idiv, 1, 0), (14, .isub, 1, 0), (15, .goto 7, 3, 0), (18, .iload_n 1, 1, 0), (19, .bipush 32, 2, 32), (21, .idiv, 1, 0), (22, .ireturn, 1, 0)], [(28, 2, 5, 1)], [], [], [], [(0, [0, 1])], [], 2)
def f_Lv_valueIn : mm_F := fun args h => mm_ga [1, 1] args (mm_gd 2 args h (mm_run p_Lv_valueIn (mm_fu + 1) 0 args [] h))
set_option maxRecDepth 100000 in
theorem e_Lv_valueIn_0 (f : Nat) (t : Nat) (v1 : Int32) (h : mm_H) : mm_run p_Lv_valueIn (f + 1) 0 [.ref t, .int v1] [] h =
  (mm_gi 2 5 h t).bind fun x1 =>
  if x1 = 0 then
    some (some (.int (v1 / 32)), h)
  else
    some (some (.int (999 - (v1 / 32))), h) := rfl
theorem e_Lv_valueIn (t : Nat) (v1 : Int32) (h : mm_H) {fs : List Value} (hb : h t = some (.inr (2, fs))) : f_Lv_valueIn [.ref t, .int v1] h =
  (mm_gi 2 5 h t).bind fun x1 =>
  if x1 = 0 then
    some (some (.int (v1 / 32)), h)
  else
    some (some (.int (999 - (v1 / 32))), h) := (mm_ga_is rfl).trans ((mm_gd_is hb).trans (e_Lv_valueIn_0 mm_fu t v1 h))
set_option maxRecDepth 100000 in
theorem i_Lv_valueIn (l : Launch) : mm_Imp l yX2_valueIn cX2_valueIn 2 (some .int) 1 f_Lv_valueIn := mm_imp l (P := p_Lv_valueIn) mm_cls_ok mm_sys_ok (by decide) (mm_Pok_of (List.forall_mem_cons.mpr ⟨k_X2_28, (fun _ h => absurd h List.not_mem_nil)⟩) (fun _ h => absurd h List.not_mem_nil) (fun _ h => absurd h List.not_mem_nil) (fun _ h => absurd h List.not_mem_nil)) (by decide +kernel) rfl (cats := [1, 1]) (fun as h r e => ⟨(mm_ga_inv e).1, (mm_gd_inv (mm_ga_inv e).2).1⟩) rfl (by decide)
theorem v_Lv_valueIn (l : Launch) {own : String} {i n0 : Nat} (hl : Cond.methodLink own i yX2_valueIn ∈ mm_tbl) (hn : 2 ≤ n0) : mm_cok l own n0 i (0, 1, 1, f_Lv_valueIn) := Or.inr (Or.inr ⟨rfl, yX2_valueIn, cX2_valueIn, 2, (some .int), 1, 2, TX2, 6, i_Lv_valueIn l, hn, by decide, by decide +kernel, rfl, fun _ _ _ e => (mm_gd_inv (mm_ga_inv e).2).2, hl, q_1383, q_1384, q_178, q_1385⟩)
def p_Lv_height : mm_P := ([(0, .iconst 0, 1, 0), (1, .istore_n 1, 1, 0), (2, .aload_n 0, 1, 0), (3, .getfield 22, 3, 0), (6, .istore_n 2, 1, 0), (7, .iload_n 2, 1, 0), (8, .iconst 1, 1, 1), (9, .if_icmp .le 37, 3, 0), (12, .aload_n 0, 1, 0), (13, .getfield 25, 3, 0), (16, .iconst 1, 1, 1), (17, .if_icmp .le 29, 3, 0), (20, .iload_n 1, 1, 0), (21, .bipush 30, 2, 30), (23, .if_icmp .ge 23, 3, 0), (26, .iload_n 2, 1, 0), (27, .aload_n 0, 1, 0), (28, .getfield 25, 3, 0), (31, .iadd, 1, 0), (32, .iconst 1, 1, 1), (33, .isub, 1, 0), (34, .aload_n 0, 1, 0), (35, .getfield 25, 3, 0), (38, .idiv, 1, 0), (39, .istore_n 2, 1, 0), (40, .iinc 1 1, 3, 1), (43, .goto (-36), 3, 0), (46, .iload_n 1, 1, 0), (47, .ireturn, 1, 0)], [(22, 2, 3, 0), (25, 2, 4, 0)], [], [], [], [(0, [0]), (7, [0, 1, 2])], [], 2)
def f_Lv_height : mm_F := fun args h => mm_ga [1] args (mm_gd 2 args h (mm_run p_Lv_height (mm_fu + 1) 0 args [] h))
set_option maxRecDepth 100000 in
theorem e_Lv_height_0 (f : Nat) (t : Nat) (h : mm_H) : mm_run p_Lv_height (f + 1) 0 [.ref t] [] h =
  (mm_gi 2 3 h t).bind fun x1 =>
  mm_run p_Lv_height f 7 [.ref t, .int 0, .int x1] [] h := rfl
theorem e_Lv_height (t : Nat) (h : mm_H) {fs : List Value} (hb : h t = some (.inr (2, fs))) : f_Lv_height [.ref t] h =
  (mm_gi 2 3 h t).bind fun x1 =>
  mm_run p_Lv_height mm_fu 7 [.ref t, .int 0, .int x1] [] h := (mm_ga_is rfl).trans ((mm_gd_is hb).trans (e_Lv_height_0 mm_fu t h))
set_option maxRecDepth 100000 in
theorem e_Lv_height_7 (f : Nat) (t : Nat) (v1 : Int32) (v2 : Int32) (h : mm_H) : mm_run p_Lv_height (f + 1) 7 [.ref t, .int v1, .int v2] [] h =
  if (1 : Int32) < v2 then
    (mm_gi 2 4 h t).bind fun x1 =>
    if (1 : Int32) < x1 then
      if v1 < 30 then
        (mm_gi 2 4 h t).bind fun x2 =>
        (mm_gi 2 4 h t).bind fun x3 =>
        if x3 = 0 then none else
        mm_run p_Lv_height f 7 [.ref t, .int (v1 + 1), .int (((v2 + x2) - 1) / x3)] [] h
      else
        some (some (.int v1), h)
    else
      some (some (.int v1), h)
  else
    some (some (.int v1), h) := rfl
set_option maxRecDepth 100000 in
theorem i_Lv_height (l : Launch) : mm_Imp l yX2_height cX2_height 3 (some .int) 1 f_Lv_height := mm_imp l (P := p_Lv_height) mm_cls_ok mm_sys_ok (by decide) (mm_Pok_of (List.forall_mem_cons.mpr ⟨k_X2_22, (List.forall_mem_cons.mpr ⟨k_X2_25, (fun _ h => absurd h List.not_mem_nil)⟩)⟩) (fun _ h => absurd h List.not_mem_nil) (fun _ h => absurd h List.not_mem_nil) (fun _ h => absurd h List.not_mem_nil)) (by decide +kernel) rfl (cats := [1]) (fun as h r e => ⟨(mm_ga_inv e).1, (mm_gd_inv (mm_ga_inv e).2).1⟩) rfl (by decide)
theorem v_Lv_height (l : Launch) {own : String} {i n0 : Nat} (hl : Cond.methodLink own i yX2_height ∈ mm_tbl) (hn : 2 ≤ n0) : mm_cok l own n0 i (0, 0, 1, f_Lv_height) := Or.inr (Or.inr ⟨rfl, yX2_height, cX2_height, 3, (some .int), 1, 2, TX2, 6, i_Lv_height l, hn, by decide, by decide +kernel, rfl, fun _ _ _ e => (mm_gd_inv (mm_ga_inv e).2).2, hl, q_979, q_980, q_178, q_981⟩)
def p_Lv_rowBits : mm_P := ([(0, .iconst 0, 1, 0), (1, .istore_n 1, 1, 0), (2, .iconst 0, 1, 0), (3, .istore_n 2, 1, 0), (4, .iload_n 2, 1, 0), (5, .aload_n 0, 1, 0), (6, .getfield 18, 3, 0), (9, .if_icmp .ge 23, 3, 0), (12, .iload_n 1, 1, 0), (13, .iconst 1, 1, 1), (14, .aload_n 0, 1, 0), (15, .getfield 9, 3, 0), (18, .iload_n 2, 1, 0), (19, .iaload, 1, 0), (20, .bipush 31, 2, 31), (22, .iand, 1, 0), (23, .ishl, 1, 0), (24, .ior, 1, 0), (25, .istore_n 1, 1, 0), (26, .iinc 2 1, 3, 1), (29, .goto (-25), 3, 0), (32, .iload_n 1, 1, 0), (33, .ireturn, 1, 0)], [(9, 2, 0, 4), (18, 2, 2, 0)], [], [], [], [(0, [0]), (4, [0, 1, 2])], [], 2)
def f_Lv_rowBits : mm_F := fun args h => mm_ga [1] args (mm_gd 2 args h (mm_run p_Lv_rowBits (mm_fu + 1) 0 args [] h))
set_option maxRecDepth 100000 in
theorem e_Lv_rowBits_0 (f : Nat) (t : Nat) (h : mm_H) : mm_run p_Lv_rowBits (f + 1) 0 [.ref t] [] h =
  mm_run p_Lv_rowBits f 4 [.ref t, .int 0, .int 0] [] h := rfl
theorem e_Lv_rowBits (t : Nat) (h : mm_H) {fs : List Value} (hb : h t = some (.inr (2, fs))) : f_Lv_rowBits [.ref t] h =
  mm_run p_Lv_rowBits mm_fu 4 [.ref t, .int 0, .int 0] [] h := (mm_ga_is rfl).trans ((mm_gd_is hb).trans (e_Lv_rowBits_0 mm_fu t h))
set_option maxRecDepth 100000 in
theorem e_Lv_rowBits_4 (f : Nat) (t : Nat) (v1 : Int32) (v2 : Int32) (h : mm_H) : mm_run p_Lv_rowBits (f + 1) 4 [.ref t, .int v1, .int v2] [] h =
  (mm_gi 2 2 h t).bind fun x1 =>
  if v2 < x1 then
    (mm_gr 2 0 h t).bind fun r2 =>
    (mm_li h r2 v2).bind fun x3 =>
    mm_run p_Lv_rowBits f 4 [.ref t, .int (v1 ||| (1 <<< ((x3 &&& 31) &&& 31))), .int (v2 + 1)] [] h
  else
    some (some (.int v1), h) := rfl
set_option maxRecDepth 100000 in
theorem i_Lv_rowBits (l : Launch) : mm_Imp l yX2_rowBits cX2_rowBits 3 (some .int) 1 f_Lv_rowBits := mm_imp l (P := p_Lv_rowBits) mm_cls_ok mm_sys_ok (by decide) (mm_Pok_of (List.forall_mem_cons.mpr ⟨k_X2_9, (List.forall_mem_cons.mpr ⟨k_X2_18, (fun _ h => absurd h List.not_mem_nil)⟩)⟩) (fun _ h => absurd h List.not_mem_nil) (fun _ h => absurd h List.not_mem_nil) (fun _ h => absurd h List.not_mem_nil)) (by decide +kernel) rfl (cats := [1]) (fun as h r e => ⟨(mm_ga_inv e).1, (mm_gd_inv (mm_ga_inv e).2).1⟩) rfl (by decide)
theorem v_Lv_rowBits (l : Launch) {own : String} {i n0 : Nat} (hl : Cond.methodLink own i yX2_rowBits ∈ mm_tbl) (hn : 2 ≤ n0) : mm_cok l own n0 i (0, 0, 1, f_Lv_rowBits) := Or.inr (Or.inr ⟨rfl, yX2_rowBits, cX2_rowBits, 3, (some .int), 1, 2, TX2, 6, i_Lv_rowBits l, hn, by decide, by decide +kernel, rfl, fun _ _ _ e => (mm_gd_inv (mm_ga_inv e).2).2, hl, q_967, q_968, q_178, q_969⟩)
def p_Lv_placeOf : mm_P := ([(0, .iconst 0, 1, 0), (1, .istore_n 2, 1, 0), (2, .iload_n 2, 1, 0), (3, .aload_n 0, 1, 0), (4, .getfield 18, 3, 0), (7, .if_icmp .ge 19, 3, 0), (10, .aload_n 0, 1, 0), (11, .getfield 9, 3, 0), (14, .iload_n 2, 1, 0), (15, .iaload, 1, 0), (16, .iload_n 1, 1, 0), (17, .if_icmp .ge 9, 3, 0), (20, .iinc 2 1, 3, 1), (23, .goto (-21), 3, 0), (26, .iload_n 2, 1, 0), (27, .ireturn, 1, 0)], [(9, 2, 0, 4), (18, 2, 2, 0)], [], [], [], [(0, [0, 1]), (2, [0, 1, 2])], [], 2)
def f_Lv_placeOf : mm_F := fun args h => mm_ga [1, 1] args (mm_gd 2 args h (mm_run p_Lv_placeOf (mm_fu + 1) 0 args [] h))
set_option maxRecDepth 100000 in
theorem e_Lv_placeOf_0 (f : Nat) (t : Nat) (v1 : Int32) (h : mm_H) : mm_run p_Lv_placeOf (f + 1) 0 [.ref t, .int v1] [] h =
  mm_run p_Lv_placeOf f 2 [.ref t, .int v1, .int 0] [] h := rfl
theorem e_Lv_placeOf (t : Nat) (v1 : Int32) (h : mm_H) {fs : List Value} (hb : h t = some (.inr (2, fs))) : f_Lv_placeOf [.ref t, .int v1] h =
  mm_run p_Lv_placeOf mm_fu 2 [.ref t, .int v1, .int 0] [] h := (mm_ga_is rfl).trans ((mm_gd_is hb).trans (e_Lv_placeOf_0 mm_fu t v1 h))
set_option maxRecDepth 100000 in
theorem e_Lv_placeOf_2 (f : Nat) (t : Nat) (v1 : Int32) (v2 : Int32) (h : mm_H) : mm_run p_Lv_placeOf (f + 1) 2 [.ref t, .int v1, .int v2] [] h =
  (mm_gi 2 2 h t).bind fun x1 =>
  if v2 < x1 then
    (mm_gr 2 0 h t).bind fun r2 =>
    (mm_li h r2 v2).bind fun x3 =>
    if x3 < v1 then
      mm_run p_Lv_placeOf f 2 [.ref t, .int v1, .int (v2 + 1)] [] h
    else
      some (some (.int v2), h)
  else
    some (some (.int v2), h) := rfl
set_option maxRecDepth 100000 in
theorem i_Lv_placeOf (l : Launch) : mm_Imp l yX2_placeOf cX2_placeOf 3 (some .int) 1 f_Lv_placeOf := mm_imp l (P := p_Lv_placeOf) mm_cls_ok mm_sys_ok (by decide) (mm_Pok_of (List.forall_mem_cons.mpr ⟨k_X2_9, (List.forall_mem_cons.mpr ⟨k_X2_18, (fun _ h => absurd h List.not_mem_nil)⟩)⟩) (fun _ h => absurd h List.not_mem_nil) (fun _ h => absurd h List.not_mem_nil) (fun _ h => absurd h List.not_mem_nil)) (by decide +kernel) rfl (cats := [1, 1]) (fun as h r e => ⟨(mm_ga_inv e).1, (mm_gd_inv (mm_ga_inv e).2).1⟩) rfl (by decide)
theorem v_Lv_placeOf (l : Launch) {own : String} {i n0 : Nat} (hl : Cond.methodLink own i yX2_placeOf ∈ mm_tbl) (hn : 2 ≤ n0) : mm_cok l own n0 i (0, 1, 1, f_Lv_placeOf) := Or.inr (Or.inr ⟨rfl, yX2_placeOf, cX2_placeOf, 3, (some .int), 1, 2, TX2, 6, i_Lv_placeOf l, hn, by decide, by decide +kernel, rfl, fun _ _ _ e => (mm_gd_inv (mm_ga_inv e).2).2, hl, q_922, q_22, q_178, q_923⟩)
def p_Lv_holdsCode : mm_P := ([(0, .aload_n 0, 1, 0), (1, .iload_n 1, 1, 0), (2, .invokevirtual 38, 3, 0), (5, .istore_n 2, 1, 0), (6, .iload_n 2, 1, 0), (7, .aload_n 0, 1, 0), (8, .getfield 18, 3, 0), (11, .if_icmp .ge 17, 3, 0), (14, .aload_n 0, 1, 0), (15, .getfield 9, 3, 0), (18, .iload_n 2, 1, 0), (19, .iaload, 1, 0), (20, .iload_n 1, 1, 0), (21, .if_icmp .ne 7, 3, 0), (24, .iconst 1, 1, 1), (25, .goto 4, 3, 0), (28, .iconst 0, 1, 0), (29, .ireturn, 1, 0)], [(9, 2, 0, 4), (18, 2, 2, 0)], [(38, 0, 1, 1, f_Lv_placeOf)], [], [], [(0, [0, 1])], [], 1)
def f_Lv_holdsCode : mm_F := fun args h => mm_ga [1, 1] args (mm_gd 2 args h (mm_run p_Lv_holdsCode (mm_fu + 1) 0 args [] h))
set_option maxRecDepth 100000 in
theorem e_Lv_holdsCode_0 (f : Nat) (t : Nat) (v1 : Int32) (h : mm_H) : mm_run p_Lv_holdsCode (f + 1) 0 [.ref t, .int v1] [] h =
  mm_ci (f_Lv_placeOf [.ref t, .int v1] h) fun x2 h1 =>
  (mm_gi 2 2 h1 t).bind fun x3 =>
  if x2 < x3 then
    (mm_gr 2 0 h1 t).bind fun r4 =>
    (mm_li h1 r4 x2).bind fun x5 =>
    if x5 = v1 then
      some (some (.int 1), h1)
    else
      some (some (.int 0), h1)
  else
    some (some (.int 0), h1) := rfl
theorem e_Lv_holdsCode (t : Nat) (v1 : Int32) (h : mm_H) {fs : List Value} (hb : h t = some (.inr (2, fs))) : f_Lv_holdsCode [.ref t, .int v1] h =
  mm_ci (f_Lv_placeOf [.ref t, .int v1] h) fun x2 h1 =>
  (mm_gi 2 2 h1 t).bind fun x3 =>
  if x2 < x3 then
    (mm_gr 2 0 h1 t).bind fun r4 =>
    (mm_li h1 r4 x2).bind fun x5 =>
    if x5 = v1 then
      some (some (.int 1), h1)
    else
      some (some (.int 0), h1)
  else
    some (some (.int 0), h1) := (mm_ga_is rfl).trans ((mm_gd_is hb).trans (e_Lv_holdsCode_0 mm_fu t v1 h))
set_option maxRecDepth 100000 in
theorem i_Lv_holdsCode (l : Launch) : mm_Imp l yX2_holdsCode cX2_holdsCode 3 (some .boolean) 2 f_Lv_holdsCode := mm_imp l (P := p_Lv_holdsCode) mm_cls_ok mm_sys_ok (by decide) (mm_Pok_of (List.forall_mem_cons.mpr ⟨k_X2_9, (List.forall_mem_cons.mpr ⟨k_X2_18, (fun _ h => absurd h List.not_mem_nil)⟩)⟩) (List.forall_mem_cons.mpr ⟨v_Lv_placeOf l q_920 (by decide), (fun _ h => absurd h List.not_mem_nil)⟩) (fun _ h => absurd h List.not_mem_nil) (fun _ h => absurd h List.not_mem_nil)) (by decide +kernel) rfl (cats := [1, 1]) (fun as h r e => ⟨(mm_ga_inv e).1, (mm_gd_inv (mm_ga_inv e).2).1⟩) rfl (by decide)
theorem v_Lv_holdsCode (l : Launch) {own : String} {i n0 : Nat} (hl : Cond.methodLink own i yX2_holdsCode ∈ mm_tbl) (hn : 3 ≤ n0) : mm_cok l own n0 i (0, 1, 1, f_Lv_holdsCode) := Or.inr (Or.inr ⟨rfl, yX2_holdsCode, cX2_holdsCode, 3, (some .boolean), 2, 2, TX2, 6, i_Lv_holdsCode l, hn, by decide, by decide +kernel, rfl, fun _ _ _ e => (mm_gd_inv (mm_ga_inv e).2).2, hl, q_1400, q_1401, q_178, q_1402⟩)
def p_Lv_leafFor : mm_P := ([(0, .iconst 0, 1, 0), (1, .istore_n 2, 1, 0), (2, .iconst 0, 1, 0), (3, .istore_n 3, 1, 0), (4, .iconst 0, 1, 0), (5, .istore 4, 2, 0), (7, .iload 4, 2, 0), (9, .aload_n 0, 1, 0), (10, .getfield 22, 3, 0), (13, .if_icmp .ge 40, 3, 0), (16, .iload_n 3, 1, 0), (17, .aload_n 0, 1, 0), (18, .getfield 18, 3, 0), (21, .if_icmp .ge 16, 3, 0), (24, .aload_n 0, 1, 0), (25, .getfield 9, 3, 0), (28, .iload_n 3, 1, 0), (29, .iaload, 1, 0), (30, .iload_n 1, 1, 0), (31, .if_icmp .ge 6, 3, 0), (34, .iload 4, 2, 0), (36, .istore_n 2, 1, 0), (37, .iload_n 3, 1, 0), (38, .aload_n 0, 1, 0), (39, .getfield 15, 3, 0), (42, .iload 4, 2, 0), (44, .iaload, 1, 0), (45, .iadd, 1, 0), (46, .istore_n 3, 1, 0), (47, .iinc 4 1, 3, 1), (50, .goto (-43), 3, 0), (53, .iload_n 2, 1, 0), (54, .ireturn, 1, 0)], [(9, 2, 0, 4), (15, 2, 1, 4), (18, 2, 2, 0), (22, 2, 3, 0)], [], [], [], [(0, [0, 1]), (7, [0, 1, 2, 3, 4])], [], 2)
def f_Lv_leafFor : mm_F := fun args h => mm_ga [1, 1] args (mm_gd 2 args h (mm_run p_Lv_leafFor (mm_fu + 1) 0 args [] h))
set_option maxRecDepth 100000 in
theorem e_Lv_leafFor_0 (f : Nat) (t : Nat) (v1 : Int32) (h : mm_H) : mm_run p_Lv_leafFor (f + 1) 0 [.ref t, .int v1] [] h =
  mm_run p_Lv_leafFor f 7 [.ref t, .int v1, .int 0, .int 0, .int 0] [] h := rfl
theorem e_Lv_leafFor (t : Nat) (v1 : Int32) (h : mm_H) {fs : List Value} (hb : h t = some (.inr (2, fs))) : f_Lv_leafFor [.ref t, .int v1] h =
  mm_run p_Lv_leafFor mm_fu 7 [.ref t, .int v1, .int 0, .int 0, .int 0] [] h := (mm_ga_is rfl).trans ((mm_gd_is hb).trans (e_Lv_leafFor_0 mm_fu t v1 h))
set_option maxRecDepth 100000 in
theorem e_Lv_leafFor_7 (f : Nat) (t : Nat) (v1 : Int32) (v2 : Int32) (v3 : Int32) (v4 : Int32) (h : mm_H) : mm_run p_Lv_leafFor (f + 1) 7 [.ref t, .int v1, .int v2, .int v3, .int v4] [] h =
  (mm_gi 2 3 h t).bind fun x1 =>
  if v4 < x1 then
    (mm_gi 2 2 h t).bind fun x2 =>
    if v3 < x2 then
      (mm_gr 2 0 h t).bind fun r3 =>
      (mm_li h r3 v3).bind fun x4 =>
      if x4 < v1 then
        (mm_gr 2 1 h t).bind fun r5 =>
        (mm_li h r5 v4).bind fun x6 =>
        mm_run p_Lv_leafFor f 7 [.ref t, .int v1, .int v4, .int (v3 + x6), .int (v4 + 1)] [] h
      else
        (mm_gr 2 1 h t).bind fun r7 =>
        (mm_li h r7 v4).bind fun x8 =>
        mm_run p_Lv_leafFor f 7 [.ref t, .int v1, .int v2, .int (v3 + x8), .int (v4 + 1)] [] h
    else
      (mm_gr 2 1 h t).bind fun r9 =>
      (mm_li h r9 v4).bind fun x10 =>
      mm_run p_Lv_leafFor f 7 [.ref t, .int v1, .int v2, .int (v3 + x10), .int (v4 + 1)] [] h
  else
    some (some (.int v2), h) := rfl
set_option maxRecDepth 100000 in
theorem i_Lv_leafFor (l : Launch) : mm_Imp l yX2_leafFor cX2_leafFor 5 (some .int) 1 f_Lv_leafFor := mm_imp l (P := p_Lv_leafFor) mm_cls_ok mm_sys_ok (by decide) (mm_Pok_of (List.forall_mem_cons.mpr ⟨k_X2_9, (List.forall_mem_cons.mpr ⟨k_X2_15, (List.forall_mem_cons.mpr ⟨k_X2_18, (List.forall_mem_cons.mpr ⟨k_X2_22, (fun _ h => absurd h List.not_mem_nil)⟩)⟩)⟩)⟩) (fun _ h => absurd h List.not_mem_nil) (fun _ h => absurd h List.not_mem_nil) (fun _ h => absurd h List.not_mem_nil)) (by decide +kernel) rfl (cats := [1, 1]) (fun as h r e => ⟨(mm_ga_inv e).1, (mm_gd_inv (mm_ga_inv e).2).1⟩) rfl (by decide)
theorem v_Lv_leafFor (l : Launch) {own : String} {i n0 : Nat} (hl : Cond.methodLink own i yX2_leafFor ∈ mm_tbl) (hn : 2 ≤ n0) : mm_cok l own n0 i (0, 1, 1, f_Lv_leafFor) := Or.inr (Or.inr ⟨rfl, yX2_leafFor, cX2_leafFor, 5, (some .int), 1, 2, TX2, 6, i_Lv_leafFor l, hn, by decide, by decide +kernel, rfl, fun _ _ _ e => (mm_gd_inv (mm_ga_inv e).2).2, hl, q_918, q_21, q_178, q_919⟩)
def p_Lv_wouldSplit : mm_P := ([(0, .aload_n 0, 1, 0), (1, .getfield 22, 3, 0), (4, .ifCond .le 24, 3, 0), (7, .aload_n 0, 1, 0), (8, .getfield 15, 3, 0), (11, .aload_n 0, 1, 0), (12, .iload_n 1, 1, 0), (13, .invokevirtual 42, 3, 0), (16, .iaload, 1, 0), (17, .aload_n 0, 1, 0), (18, .getfield 25, 3, 0), (21, .if_icmp .lt 7, 3, 0), (24, .iconst 1, 1, 1), (25, .goto 4, 3, 0), (28, .iconst 0, 1, 0), (29, .ireturn, 1, 0)], [(15, 2, 1, 4), (22, 2, 3, 0), (25, 2, 4, 0)], [(42, 0, 1, 1, f_Lv_leafFor)], [], [], [(0, [0, 1])], [], 1)
def f_Lv_wouldSplit : mm_F := fun args h => mm_ga [1, 1] args (mm_gd 2 args h (mm_run p_Lv_wouldSplit (mm_fu + 1) 0 args [] h))
set_option maxRecDepth 100000 in
theorem e_Lv_wouldSplit_0 (f : Nat) (t : Nat) (v1 : Int32) (h : mm_H) : mm_run p_Lv_wouldSplit (f + 1) 0 [.ref t, .int v1] [] h =
  (mm_gi 2 3 h t).bind fun x1 =>
  if (0 : Int32) < x1 then
    (mm_gr 2 1 h t).bind fun r2 =>
    mm_ci (f_Lv_leafFor [.ref t, .int v1] h) fun x4 h3 =>
    (mm_li h3 r2 x4).bind fun x5 =>
    (mm_gi 2 4 h3 t).bind fun x6 =>
    if x5 < x6 then
      some (some (.int 0), h3)
    else
      some (some (.int 1), h3)
  else
    some (some (.int 0), h) := rfl
theorem e_Lv_wouldSplit (t : Nat) (v1 : Int32) (h : mm_H) {fs : List Value} (hb : h t = some (.inr (2, fs))) : f_Lv_wouldSplit [.ref t, .int v1] h =
  (mm_gi 2 3 h t).bind fun x1 =>
  if (0 : Int32) < x1 then
    (mm_gr 2 1 h t).bind fun r2 =>
    mm_ci (f_Lv_leafFor [.ref t, .int v1] h) fun x4 h3 =>
    (mm_li h3 r2 x4).bind fun x5 =>
    (mm_gi 2 4 h3 t).bind fun x6 =>
    if x5 < x6 then
      some (some (.int 0), h3)
    else
      some (some (.int 1), h3)
  else
    some (some (.int 0), h) := (mm_ga_is rfl).trans ((mm_gd_is hb).trans (e_Lv_wouldSplit_0 mm_fu t v1 h))
set_option maxRecDepth 100000 in
theorem i_Lv_wouldSplit (l : Launch) : mm_Imp l yX2_wouldSplit cX2_wouldSplit 2 (some .boolean) 2 f_Lv_wouldSplit := mm_imp l (P := p_Lv_wouldSplit) mm_cls_ok mm_sys_ok (by decide) (mm_Pok_of (List.forall_mem_cons.mpr ⟨k_X2_15, (List.forall_mem_cons.mpr ⟨k_X2_22, (List.forall_mem_cons.mpr ⟨k_X2_25, (fun _ h => absurd h List.not_mem_nil)⟩)⟩)⟩) (List.forall_mem_cons.mpr ⟨v_Lv_leafFor l q_916 (by decide), (fun _ h => absurd h List.not_mem_nil)⟩) (fun _ h => absurd h List.not_mem_nil) (fun _ h => absurd h List.not_mem_nil)) (by decide +kernel) rfl (cats := [1, 1]) (fun as h r e => ⟨(mm_ga_inv e).1, (mm_gd_inv (mm_ga_inv e).2).1⟩) rfl (by decide)
theorem v_Lv_wouldSplit (l : Launch) {own : String} {i n0 : Nat} (hl : Cond.methodLink own i yX2_wouldSplit ∈ mm_tbl) (hn : 3 ≤ n0) : mm_cok l own n0 i (0, 1, 1, f_Lv_wouldSplit) := Or.inr (Or.inr ⟨rfl, yX2_wouldSplit, cX2_wouldSplit, 2, (some .boolean), 2, 2, TX2, 6, i_Lv_wouldSplit l, hn, by decide, by decide +kernel, rfl, fun _ _ _ e => (mm_gd_inv (mm_ga_inv e).2).2, hl, q_1414, q_1415, q_178, q_1416⟩)
def p_Lv_cut : mm_P := ([(0, .aload_n 0, 1, 0), (1, .getfield 25, 3, 0), (4, .iconst 1, 1, 1), (5, .iadd, 1, 0), (6, .iconst 2, 1, 2), (7, .idiv, 1, 0), (8, .istore_n 2, 1, 0), (9, .aload_n 0, 1, 0), (10, .getfield 22, 3, 0), (13, .istore_n 3, 1, 0), (14, .iload_n 3, 1, 0), (15, .iload_n 1, 1, 0), (16, .iconst 1, 1, 1), (17, .iadd, 1, 0), (18, .if_icmp .le 23, 3, 0), (21, .aload_n 0, 1, 0), (22, .getfield 15, 3, 0), (25, .iload_n 3, 1, 0), (26, .aload_n 0, 1, 0), (27, .getfield 15, 3, 0), (30, .iload_n 3, 1, 0), (31, .iconst 1, 1, 1), (32, .isub, 1, 0), (33, .iaload, 1, 0), (34, .iastore, 1, 0), (35, .iinc 3 (-1), 3, (-1)), (38, .goto (-24), 3, 0), (41, .aload_n 0, 1, 0), (42, .getfield 15, 3, 0), (45, .iload_n 1, 1, 0), (46, .iconst 1, 1, 1), (47, .iadd, 1, 0), (48, .iload_n 2, 1, 0), (49, .iastore, 1, 0), (50, .aload_n 0, 1, 0), (51, .getfield 15, 3, 0), (54, .iload_n 1, 1, 0), (55, .dup2, 1, 0), (56, .iaload, 1, 0), (57, .iload_n 2, 1, 0), (58, .isub, 1, 0), (59, .iastore, 1, 0), (60, .aload_n 0, 1, 0), (61, .dup, 1, 0), (62, .getfield 22, 3, 0), (65, .iconst 1, 1, 1), (66, .iadd, 1, 0), (67, .putfield 22, 3, 0), (70, .return_, 1, 0)], [(15, 2, 1, 4), (22, 2, 3, 0), (25, 2, 4, 0)], [], [], [], [(0, [0, 1]), (14, [0, 1, 2, 3])], [], 0)
def f_Lv_cut : mm_F := fun args h => mm_ga [1, 1] args (mm_gd 2 args h (mm_run p_Lv_cut (mm_fu + 1) 0 args [] h))
set_option maxRecDepth 100000 in
theorem e_Lv_cut_0 (f : Nat) (t : Nat) (v1 : Int32) (h : mm_H) : mm_run p_Lv_cut (f + 1) 0 [.ref t, .int v1] [] h =
  (mm_gi 2 4 h t).bind fun x1 =>
  (mm_gi 2 3 h t).bind fun x2 =>
  mm_run p_Lv_cut f 14 [.ref t, .int v1, .int ((x1 + 1) / 2), .int x2] [] h := rfl
theorem e_Lv_cut (t : Nat) (v1 : Int32) (h : mm_H) {fs : List Value} (hb : h t = some (.inr (2, fs))) : f_Lv_cut [.ref t, .int v1] h =
  (mm_gi 2 4 h t).bind fun x1 =>
  (mm_gi 2 3 h t).bind fun x2 =>
  mm_run p_Lv_cut mm_fu 14 [.ref t, .int v1, .int ((x1 + 1) / 2), .int x2] [] h := (mm_ga_is rfl).trans ((mm_gd_is hb).trans (e_Lv_cut_0 mm_fu t v1 h))
set_option maxRecDepth 100000 in
theorem e_Lv_cut_14 (f : Nat) (t : Nat) (v1 : Int32) (v2 : Int32) (v3 : Int32) (h : mm_H) : mm_run p_Lv_cut (f + 1) 14 [.ref t, .int v1, .int v2, .int v3] [] h =
  if (v1 + 1) < v3 then
    (mm_gr 2 1 h t).bind fun r1 =>
    (mm_gr 2 1 h t).bind fun r2 =>
    (mm_li h r2 (v3 - 1)).bind fun x3 =>
    (mm_si h r1 v3 x3).bind fun h4 =>
    mm_run p_Lv_cut f 14 [.ref t, .int v1, .int v2, .int (v3 + (-1))] [] h4
  else
    (mm_gr 2 1 h t).bind fun r5 =>
    (mm_si h r5 (v1 + 1) v2).bind fun h6 =>
    (mm_gr 2 1 h6 t).bind fun r7 =>
    (mm_li h6 r7 v1).bind fun x8 =>
    (mm_si h6 r7 v1 (x8 - v2)).bind fun h9 =>
    (mm_gi 2 3 h9 t).bind fun x10 =>
    (mm_pf 2 3 (.int (x10 + 1)) h9 t).bind fun h11 =>
    some (none, h11) := rfl
set_option maxRecDepth 100000 in
theorem i_Lv_cut (l : Launch) : mm_Imp l yX2_cut cX2_cut 4 none 1 f_Lv_cut := mm_imp l (P := p_Lv_cut) mm_cls_ok mm_sys_ok (by decide) (mm_Pok_of (List.forall_mem_cons.mpr ⟨k_X2_15, (List.forall_mem_cons.mpr ⟨k_X2_22, (List.forall_mem_cons.mpr ⟨k_X2_25, (fun _ h => absurd h List.not_mem_nil)⟩)⟩)⟩) (fun _ h => absurd h List.not_mem_nil) (fun _ h => absurd h List.not_mem_nil) (fun _ h => absurd h List.not_mem_nil)) (by decide +kernel) rfl (cats := [1, 1]) (fun as h r e => ⟨(mm_ga_inv e).1, (mm_gd_inv (mm_ga_inv e).2).1⟩) rfl (by decide)
theorem v_Lv_cut (l : Launch) {own : String} {i n0 : Nat} (hl : Cond.methodLink own i yX2_cut ∈ mm_tbl) (hn : 2 ≤ n0) : mm_cok l own n0 i (0, 1, 0, f_Lv_cut) := Or.inr (Or.inr ⟨rfl, yX2_cut, cX2_cut, 4, none, 1, 2, TX2, 6, i_Lv_cut l, hn, by decide, by decide +kernel, rfl, fun _ _ _ e => (mm_gd_inv (mm_ga_inv e).2).2, hl, q_926, q_23, q_178, q_927⟩)
def p_Lv_put : mm_P := ([(0, .aload_n 0, 1, 0), (1, .getfield 18, 3, 0), (4, .bipush 30, 2, 30), (6, .if_icmp .lt 4, 3, 0), (9, .return_, 1, 0), (10, .aload_n 0, 1, 0), (11, .getfield 22, 3, 0), (14, .ifCond .ne 15, 3, 0), (17, .aload_n 0, 1, 0), (18, .iconst 1, 1, 1), (19, .putfield 22, 3, 0), (22, .aload_n 0, 1, 0), (23, .getfield 15, 3, 0), (26, .iconst 0, 1, 0), (27, .iconst 0, 1, 0), (28, .iastore, 1, 0), (29, .aload_n 0, 1, 0), (30, .iload_n 1, 1, 0), (31, .invokevirtual 42, 3, 0), (34, .istore_n 2, 1, 0), (35, .aload_n 0, 1, 0), (36, .iload_n 1, 1, 0), (37, .invokevirtual 38, 3, 0), (40, .istore_n 3, 1, 0), (41, .aload_n 0, 1, 0), (42, .getfield 18, 3, 0), (45, .istore 4, 2, 0), (47, .iload 4, 2, 0), (49, .iload_n 3, 1, 0), (50, .if_icmp .le 25, 3, 0), (53, .aload_n 0, 1, 0), (54, .getfield 9, 3, 0), (57, .iload 4, 2, 0), (59, .aload_n 0, 1, 0), (60, .getfield 9, 3, 0), (63, .iload 4, 2, 0), (65, .iconst 1, 1, 1), (66, .isub, 1, 0), (67, .iaload, 1, 0), (68, .iastore, 1, 0), (69, .iinc 4 (-1), 3, (-1)), (72, .goto (-25), 3, 0), (75, .aload_n 0, 1, 0), (76, .getfield 9, 3, 0), (79, .iload_n 3, 1, 0), (80, .iload_n 1, 1, 0), (81, .iastore, 1, 0), (82, .aload_n 0, 1, 0), (83, .dup, 1, 0), (84, .getfield 18, 3, 0), (87, .iconst 1, 1, 1), (88, .iadd, 1, 0), (89, .putfield 18, 3, 0), (92, .aload_n 0, 1, 0), (93, .getfield 15, 3, 0), (96, .iload_n 2, 1, 0), (97, .dup2, 1, 0), (98, .iaload, 1, 0), (99, .iconst 1, 1, 1), (100, .iadd, 1, 0), (101, .iastore, 1, 0), (102, .aload_n 0, 1, 0), (103, .getfield 15, 3, 0), (106, .iload_n 2, 1, 0), (107, .iaload, 1, 0), (108, .aload_n 0, 1, 0), (109, .getfield 25, 3, 0), (112, .if_icmp .le 17, 3, 0), (115, .aload_n 0, 1, 0), (116, .getfield 22, 3, 0), (119, .bipush 30, 2, 30), (121, .if_icmp .ge 8, 3, 0), (124, .aload_n 0, 1, 0), (125, .iload_n 2, 1, 0), (126, .invokevirtual 45, 3, 0), (129, .return_, 1, 0)], [(9, 2, 0, 4), (15, 2, 1, 4), (18, 2, 2, 0), (22, 2, 3, 0), (25, 2, 4, 0)], [(38, 0, 1, 1, f_Lv_placeOf), (42, 0, 1, 1, f_Lv_leafFor), (45, 0, 1, 0, f_Lv_cut)], [], [], [(0, [0, 1]), (47, [0, 1, 2, 3, 4])], [], 0)
def f_Lv_put : mm_F := fun args h => mm_ga [1, 1] args (mm_gd 2 args h (mm_run p_Lv_put (mm_fu + 1) 0 args [] h))
set_option maxRecDepth 100000 in
theorem e_Lv_put_0 (f : Nat) (t : Nat) (v1 : Int32) (h : mm_H) : mm_run p_Lv_put (f + 1) 0 [.ref t, .int v1] [] h =
  (mm_gi 2 2 h t).bind fun x1 =>
  if x1 < 30 then
    (mm_gi 2 3 h t).bind fun x2 =>
    if x2 = 0 then
      (mm_pf 2 3 (.int 1) h t).bind fun h3 =>
      (mm_gr 2 1 h3 t).bind fun r4 =>
      (mm_si h3 r4 0 0).bind fun h5 =>
      mm_ci (f_Lv_leafFor [.ref t, .int v1] h5) fun x7 h6 =>
      mm_ci (f_Lv_placeOf [.ref t, .int v1] h6) fun x9 h8 =>
      (mm_gi 2 2 h8 t).bind fun x10 =>
      mm_run p_Lv_put f 47 [.ref t, .int v1, .int x7, .int x9, .int x10] [] h8
    else
      mm_ci (f_Lv_leafFor [.ref t, .int v1] h) fun x12 h11 =>
      mm_ci (f_Lv_placeOf [.ref t, .int v1] h11) fun x14 h13 =>
      (mm_gi 2 2 h13 t).bind fun x15 =>
      mm_run p_Lv_put f 47 [.ref t, .int v1, .int x12, .int x14, .int x15] [] h13
  else
    some (none, h) := rfl
theorem e_Lv_put (t : Nat) (v1 : Int32) (h : mm_H) {fs : List Value} (hb : h t = some (.inr (2, fs))) : f_Lv_put [.ref t, .int v1] h =
  (mm_gi 2 2 h t).bind fun x1 =>
  if x1 < 30 then
    (mm_gi 2 3 h t).bind fun x2 =>
    if x2 = 0 then
      (mm_pf 2 3 (.int 1) h t).bind fun h3 =>
      (mm_gr 2 1 h3 t).bind fun r4 =>
      (mm_si h3 r4 0 0).bind fun h5 =>
      mm_ci (f_Lv_leafFor [.ref t, .int v1] h5) fun x7 h6 =>
      mm_ci (f_Lv_placeOf [.ref t, .int v1] h6) fun x9 h8 =>
      (mm_gi 2 2 h8 t).bind fun x10 =>
      mm_run p_Lv_put mm_fu 47 [.ref t, .int v1, .int x7, .int x9, .int x10] [] h8
    else
      mm_ci (f_Lv_leafFor [.ref t, .int v1] h) fun x12 h11 =>
      mm_ci (f_Lv_placeOf [.ref t, .int v1] h11) fun x14 h13 =>
      (mm_gi 2 2 h13 t).bind fun x15 =>
      mm_run p_Lv_put mm_fu 47 [.ref t, .int v1, .int x12, .int x14, .int x15] [] h13
  else
    some (none, h) := (mm_ga_is rfl).trans ((mm_gd_is hb).trans (e_Lv_put_0 mm_fu t v1 h))
set_option maxRecDepth 100000 in
theorem e_Lv_put_47 (f : Nat) (t : Nat) (v1 : Int32) (v2 : Int32) (v3 : Int32) (v4 : Int32) (h : mm_H) : mm_run p_Lv_put (f + 1) 47 [.ref t, .int v1, .int v2, .int v3, .int v4] [] h =
  if v3 < v4 then
    (mm_gr 2 0 h t).bind fun r1 =>
    (mm_gr 2 0 h t).bind fun r2 =>
    (mm_li h r2 (v4 - 1)).bind fun x3 =>
    (mm_si h r1 v4 x3).bind fun h4 =>
    mm_run p_Lv_put f 47 [.ref t, .int v1, .int v2, .int v3, .int (v4 + (-1))] [] h4
  else
    (mm_gr 2 0 h t).bind fun r5 =>
    (mm_si h r5 v3 v1).bind fun h6 =>
    (mm_gi 2 2 h6 t).bind fun x7 =>
    (mm_pf 2 2 (.int (x7 + 1)) h6 t).bind fun h8 =>
    (mm_gr 2 1 h8 t).bind fun r9 =>
    (mm_li h8 r9 v2).bind fun x10 =>
    (mm_si h8 r9 v2 (x10 + 1)).bind fun h11 =>
    (mm_gr 2 1 h11 t).bind fun r12 =>
    (mm_li h11 r12 v2).bind fun x13 =>
    (mm_gi 2 4 h11 t).bind fun x14 =>
    if x14 < x13 then
      (mm_gi 2 3 h11 t).bind fun x15 =>
      if x15 < 30 then
        mm_cv (f_Lv_cut [.ref t, .int v2] h11) fun h16 =>
        some (none, h16)
      else
        some (none, h11)
    else
      some (none, h11) := rfl
set_option maxRecDepth 100000 in
theorem i_Lv_put (l : Launch) : mm_Imp l yX2_put cX2_put 5 none 2 f_Lv_put := mm_imp l (P := p_Lv_put) mm_cls_ok mm_sys_ok (by decide) (mm_Pok_of (List.forall_mem_cons.mpr ⟨k_X2_9, (List.forall_mem_cons.mpr ⟨k_X2_15, (List.forall_mem_cons.mpr ⟨k_X2_18, (List.forall_mem_cons.mpr ⟨k_X2_22, (List.forall_mem_cons.mpr ⟨k_X2_25, (fun _ h => absurd h List.not_mem_nil)⟩)⟩)⟩)⟩)⟩) (List.forall_mem_cons.mpr ⟨v_Lv_placeOf l q_920 (by decide), (List.forall_mem_cons.mpr ⟨v_Lv_leafFor l q_916 (by decide), (List.forall_mem_cons.mpr ⟨v_Lv_cut l q_924 (by decide), (fun _ h => absurd h List.not_mem_nil)⟩)⟩)⟩) (fun _ h => absurd h List.not_mem_nil) (fun _ h => absurd h List.not_mem_nil)) (by decide +kernel) rfl (cats := [1, 1]) (fun as h r e => ⟨(mm_ga_inv e).1, (mm_gd_inv (mm_ga_inv e).2).1⟩) rfl (by decide)
theorem v_Lv_put (l : Launch) {own : String} {i n0 : Nat} (hl : Cond.methodLink own i yX2_put ∈ mm_tbl) (hn : 3 ≤ n0) : mm_cok l own n0 i (0, 1, 0, f_Lv_put) := Or.inr (Or.inr ⟨rfl, yX2_put, cX2_put, 5, none, 2, 2, TX2, 6, i_Lv_put l, hn, by decide, by decide +kernel, rfl, fun _ _ _ e => (mm_gd_inv (mm_ga_inv e).2).2, hl, q_913, q_914, q_178, q_915⟩)
def p_Lv_closeUp : mm_P := ([(0, .aload_n 0, 1, 0), (1, .dup, 1, 0), (2, .getfield 22, 3, 0), (5, .iconst 1, 1, 1), (6, .isub, 1, 0), (7, .putfield 22, 3, 0), (10, .iload_n 1, 1, 0), (11, .istore_n 2, 1, 0), (12, .iload_n 2, 1, 0), (13, .aload_n 0, 1, 0), (14, .getfield 22, 3, 0), (17, .if_icmp .ge 23, 3, 0), (20, .aload_n 0, 1, 0), (21, .getfield 15, 3, 0), (24, .iload_n 2, 1, 0), (25, .aload_n 0, 1, 0), (26, .getfield 15, 3, 0), (29, .iload_n 2, 1, 0), (30, .iconst 1, 1, 1), (31, .iadd, 1, 0), (32, .iaload, 1, 0), (33, .iastore, 1, 0), (34, .iinc 2 1, 3, 1), (37, .goto (-25), 3, 0), (40, .return_, 1, 0)], [(15, 2, 1, 4), (22, 2, 3, 0)], [], [], [], [(0, [0, 1]), (12, [0, 2])], [], 0)
def f_Lv_closeUp : mm_F := fun args h => mm_ga [1, 1] args (mm_gd 2 args h (mm_run p_Lv_closeUp (mm_fu + 1) 0 args [] h))
set_option maxRecDepth 100000 in
theorem e_Lv_closeUp_0 (f : Nat) (t : Nat) (v1 : Int32) (h : mm_H) : mm_run p_Lv_closeUp (f + 1) 0 [.ref t, .int v1] [] h =
  (mm_gi 2 3 h t).bind fun x1 =>
  (mm_pf 2 3 (.int (x1 - 1)) h t).bind fun h2 =>
  mm_run p_Lv_closeUp f 12 [.ref t, .int v1] [] h2 := rfl
theorem e_Lv_closeUp (t : Nat) (v1 : Int32) (h : mm_H) {fs : List Value} (hb : h t = some (.inr (2, fs))) : f_Lv_closeUp [.ref t, .int v1] h =
  (mm_gi 2 3 h t).bind fun x1 =>
  (mm_pf 2 3 (.int (x1 - 1)) h t).bind fun h2 =>
  mm_run p_Lv_closeUp mm_fu 12 [.ref t, .int v1] [] h2 := (mm_ga_is rfl).trans ((mm_gd_is hb).trans (e_Lv_closeUp_0 mm_fu t v1 h))
set_option maxRecDepth 100000 in
theorem e_Lv_closeUp_12 (f : Nat) (t : Nat) (v2 : Int32) (h : mm_H) : mm_run p_Lv_closeUp (f + 1) 12 [.ref t, .int v2] [] h =
  (mm_gi 2 3 h t).bind fun x1 =>
  if v2 < x1 then
    (mm_gr 2 1 h t).bind fun r2 =>
    (mm_gr 2 1 h t).bind fun r3 =>
    (mm_li h r3 (v2 + 1)).bind fun x4 =>
    (mm_si h r2 v2 x4).bind fun h5 =>
    mm_run p_Lv_closeUp f 12 [.ref t, .int (v2 + 1)] [] h5
  else
    some (none, h) := rfl
set_option maxRecDepth 100000 in
theorem i_Lv_closeUp (l : Launch) : mm_Imp l yX2_closeUp cX2_closeUp 3 none 1 f_Lv_closeUp := mm_imp l (P := p_Lv_closeUp) mm_cls_ok mm_sys_ok (by decide) (mm_Pok_of (List.forall_mem_cons.mpr ⟨k_X2_15, (List.forall_mem_cons.mpr ⟨k_X2_22, (fun _ h => absurd h List.not_mem_nil)⟩)⟩) (fun _ h => absurd h List.not_mem_nil) (fun _ h => absurd h List.not_mem_nil) (fun _ h => absurd h List.not_mem_nil)) (by decide +kernel) rfl (cats := [1, 1]) (fun as h r e => ⟨(mm_ga_inv e).1, (mm_gd_inv (mm_ga_inv e).2).1⟩) rfl (by decide)
theorem v_Lv_closeUp (l : Launch) {own : String} {i n0 : Nat} (hl : Cond.methodLink own i yX2_closeUp ∈ mm_tbl) (hn : 2 ≤ n0) : mm_cok l own n0 i (0, 1, 0, f_Lv_closeUp) := Or.inr (Or.inr ⟨rfl, yX2_closeUp, cX2_closeUp, 3, none, 1, 2, TX2, 6, i_Lv_closeUp l, hn, by decide, by decide +kernel, rfl, fun _ _ _ e => (mm_gd_inv (mm_ga_inv e).2).2, hl, q_1087, q_33, q_178, q_1088⟩)
def p_Lv_take : mm_P := ([(0, .aload_n 0, 1, 0), (1, .iload_n 1, 1, 0), (2, .invokevirtual 38, 3, 0), (5, .istore_n 2, 1, 0), (6, .iload_n 2, 1, 0), (7, .aload_n 0, 1, 0), (8, .getfield 18, 3, 0), (11, .if_icmp .ge 13, 3, 0), (14, .aload_n 0, 1, 0), (15, .getfield 9, 3, 0), (18, .iload_n 2, 1, 0), (19, .iaload, 1, 0), (20, .iload_n 1, 1, 0), (21, .if_icmp .eq 4, 3, 0), (24, .return_, 1, 0), (25, .iconst 0, 1, 0), (26, .istore_n 3, 1, 0), (27, .iconst 0, 1, 0), (28, .istore 4, 2, 0), (30, .iload_n 3, 1, 0), (31, .aload_n 0, 1, 0), (32, .getfield 22, 3, 0), (35, .iconst 1, 1, 1), (36, .isub, 1, 0), (37, .if_icmp .ge 33, 3, 0), (40, .iload 4, 2, 0), (42, .aload_n 0, 1, 0), (43, .getfield 15, 3, 0), (46, .iload_n 3, 1, 0), (47, .iaload, 1, 0), (48, .iadd, 1, 0), (49, .iload_n 2, 1, 0), (50, .if_icmp .gt 20, 3, 0), (53, .iload 4, 2, 0), (55, .aload_n 0, 1, 0), (56, .getfield 15, 3, 0), (59, .iload_n 3, 1, 0), (60, .iaload, 1, 0), (61, .iadd, 1, 0), (62, .istore 4, 2, 0), (64, .iinc 3 1, 3, 1), (67, .goto (-37), 3, 0), (70, .aload_n 0, 1, 0), (71, .dup, 1, 0), (72, .getfield 18, 3, 0), (75, .iconst 1, 1, 1), (76, .isub, 1, 0), (77, .putfield 18, 3, 0), (80, .iload_n 2, 1, 0), (81, .istore 5, 2, 0), (83, .iload 5, 2, 0), (85, .aload_n 0, 1, 0), (86, .getfield 18, 3, 0), (89, .if_icmp .ge 25, 3, 0), (92, .aload_n 0, 1, 0), (93, .getfield 9, 3, 0), (96, .iload 5, 2, 0), (98, .aload_n 0, 1, 0), (99, .getfield 9, 3, 0), (102, .iload 5, 2, 0), (104, .iconst 1, 1, 1), (105, .iadd, 1, 0), (106, .iaload, 1, 0), (107, .iastore, 1, 0), (108, .iinc 5 1, 3, 1), (111, .goto (-28), 3, 0), (114, .aload_n 0, 1, 0), (115, .getfield 15, 3, 0), (118, .iload_n 3, 1, 0), (119, .dup2, 1, 0), (120, .iaload, 1, 0), (121, .iconst 1, 1, 1), (122, .isub, 1, 0), (123, .iastore, 1, 0), (124, .aload_n 0, 1, 0), (125, .getfield 15, 3, 0), (128, .iload_n 3, 1, 0), (129, .iaload, 1, 0), (130, .ifCond .ne 8, 3, 0), (133, .aload_n 0, 1, 0), (134, .iload_n 3, 1, 0), (135, .invokevirtual 49, 3, 0), (138, .return_, 1, 0)], [(9, 2, 0, 4), (15, 2, 1, 4), (18, 2, 2, 0), (22, 2, 3, 0)], [(38, 0, 1, 1, f_Lv_placeOf), (49, 0, 1, 0, f_Lv_closeUp)], [], [], [(0, [0, 1]), (30, [0, 2, 3, 4]), (83, [0, 3, 5])], [], 0)
def f_Lv_take : mm_F := fun args h => mm_ga [1, 1] args (mm_gd 2 args h (mm_run p_Lv_take (mm_fu + 1) 0 args [] h))
set_option maxRecDepth 100000 in
theorem e_Lv_take_0 (f : Nat) (t : Nat) (v1 : Int32) (h : mm_H) : mm_run p_Lv_take (f + 1) 0 [.ref t, .int v1] [] h =
  mm_ci (f_Lv_placeOf [.ref t, .int v1] h) fun x2 h1 =>
  (mm_gi 2 2 h1 t).bind fun x3 =>
  if x2 < x3 then
    (mm_gr 2 0 h1 t).bind fun r4 =>
    (mm_li h1 r4 x2).bind fun x5 =>
    if x5 = v1 then
      mm_run p_Lv_take f 30 [.ref t, .int x2, .int 0, .int 0] [] h1
    else
      some (none, h1)
  else
    some (none, h1) := rfl
theorem e_Lv_take (t : Nat) (v1 : Int32) (h : mm_H) {fs : List Value} (hb : h t = some (.inr (2, fs))) : f_Lv_take [.ref t, .int v1] h =
  mm_ci (f_Lv_placeOf [.ref t, .int v1] h) fun x2 h1 =>
  (mm_gi 2 2 h1 t).bind fun x3 =>
  if x2 < x3 then
    (mm_gr 2 0 h1 t).bind fun r4 =>
    (mm_li h1 r4 x2).bind fun x5 =>
    if x5 = v1 then
      mm_run p_Lv_take mm_fu 30 [.ref t, .int x2, .int 0, .int 0] [] h1
    else
      some (none, h1)
  else
    some (none, h1) := (mm_ga_is rfl).trans ((mm_gd_is hb).trans (e_Lv_take_0 mm_fu t v1 h))
set_option maxRecDepth 100000 in
theorem e_Lv_take_30 (f : Nat) (t : Nat) (v2 : Int32) (v3 : Int32) (v4 : Int32) (h : mm_H) : mm_run p_Lv_take (f + 1) 30 [.ref t, .int v2, .int v3, .int v4] [] h =
  (mm_gi 2 3 h t).bind fun x1 =>
  if v3 < (x1 - 1) then
    (mm_gr 2 1 h t).bind fun r2 =>
    (mm_li h r2 v3).bind fun x3 =>
    if v2 < (v4 + x3) then
      (mm_gi 2 2 h t).bind fun x4 =>
      (mm_pf 2 2 (.int (x4 - 1)) h t).bind fun h5 =>
      mm_run p_Lv_take f 83 [.ref t, .int v3, .int v2] [] h5
    else
      (mm_gr 2 1 h t).bind fun r6 =>
      (mm_li h r6 v3).bind fun x7 =>
      mm_run p_Lv_take f 30 [.ref t, .int v2, .int (v3 + 1), .int (v4 + x7)] [] h
  else
    (mm_gi 2 2 h t).bind fun x8 =>
    (mm_pf 2 2 (.int (x8 - 1)) h t).bind fun h9 =>
    mm_run p_Lv_take f 83 [.ref t, .int v3, .int v2] [] h9 := rfl
set_option maxRecDepth 100000 in
theorem e_Lv_take_83 (f : Nat) (t : Nat) (v3 : Int32) (v5 : Int32) (h : mm_H) : mm_run p_Lv_take (f + 1) 83 [.ref t, .int v3, .int v5] [] h =
  (mm_gi 2 2 h t).bind fun x1 =>
  if v5 < x1 then
    (mm_gr 2 0 h t).bind fun r2 =>
    (mm_gr 2 0 h t).bind fun r3 =>
    (mm_li h r3 (v5 + 1)).bind fun x4 =>
    (mm_si h r2 v5 x4).bind fun h5 =>
    mm_run p_Lv_take f 83 [.ref t, .int v3, .int (v5 + 1)] [] h5
  else
    (mm_gr 2 1 h t).bind fun r6 =>
    (mm_li h r6 v3).bind fun x7 =>
    (mm_si h r6 v3 (x7 - 1)).bind fun h8 =>
    (mm_gr 2 1 h8 t).bind fun r9 =>
    (mm_li h8 r9 v3).bind fun x10 =>
    if x10 = 0 then
      mm_cv (f_Lv_closeUp [.ref t, .int v3] h8) fun h11 =>
      some (none, h11)
    else
      some (none, h8) := rfl
set_option maxRecDepth 100000 in
theorem i_Lv_take (l : Launch) : mm_Imp l yX2_take cX2_take 6 none 2 f_Lv_take := mm_imp l (P := p_Lv_take) mm_cls_ok mm_sys_ok (by decide) (mm_Pok_of (List.forall_mem_cons.mpr ⟨k_X2_9, (List.forall_mem_cons.mpr ⟨k_X2_15, (List.forall_mem_cons.mpr ⟨k_X2_18, (List.forall_mem_cons.mpr ⟨k_X2_22, (fun _ h => absurd h List.not_mem_nil)⟩)⟩)⟩)⟩) (List.forall_mem_cons.mpr ⟨v_Lv_placeOf l q_920 (by decide), (List.forall_mem_cons.mpr ⟨v_Lv_closeUp l q_1085 (by decide), (fun _ h => absurd h List.not_mem_nil)⟩)⟩) (fun _ h => absurd h List.not_mem_nil) (fun _ h => absurd h List.not_mem_nil)) (by decide +kernel) rfl (cats := [1, 1]) (fun as h r e => ⟨(mm_ga_inv e).1, (mm_gd_inv (mm_ga_inv e).2).1⟩) rfl (by decide)
theorem v_Lv_take (l : Launch) {own : String} {i n0 : Nat} (hl : Cond.methodLink own i yX2_take ∈ mm_tbl) (hn : 3 ≤ n0) : mm_cok l own n0 i (0, 1, 0, f_Lv_take) := Or.inr (Or.inr ⟨rfl, yX2_take, cX2_take, 6, none, 2, 2, TX2, 6, i_Lv_take l, hn, by decide, by decide +kernel, rfl, fun _ _ _ e => (mm_gd_inv (mm_ga_inv e).2).2, hl, q_1082, q_1083, q_178, q_1084⟩)
def p_Lv_takeTogether : mm_P := ([(0, .aload_n 0, 1, 0), (1, .getfield 22, 3, 0), (4, .istore_n 1, 1, 0), (5, .iconst 0, 1, 0), (6, .istore_n 2, 1, 0), (7, .iconst 1, 1, 1), (8, .istore_n 3, 1, 0), (9, .iload_n 3, 1, 0), (10, .iload_n 1, 1, 0), (11, .if_icmp .ge 62, 3, 0), (14, .aload_n 0, 1, 0), (15, .getfield 15, 3, 0), (18, .iload_n 2, 1, 0), (19, .iaload, 1, 0), (20, .aload_n 0, 1, 0), (21, .getfield 15, 3, 0), (24, .iload_n 3, 1, 0), (25, .iaload, 1, 0), (26, .iadd, 1, 0), (27, .aload_n 0, 1, 0), (28, .getfield 25, 3, 0), (31, .if_icmp .gt 21, 3, 0), (34, .aload_n 0, 1, 0), (35, .getfield 15, 3, 0), (38, .iload_n 2, 1, 0), (39, .dup2, 1, 0), (40, .iaload, 1, 0), (41, .aload_n 0, 1, 0), (42, .getfield 15, 3, 0), (45, .iload_n 3, 1, 0), (46, .iaload, 1, 0), (47, .iadd, 1, 0), (48, .iastore, 1, 0), (49, .goto 18, 3, 0), (52, .iinc 2 1, 3, 1), (55, .aload_n 0, 1, 0), (56, .getfield 15, 3, 0), (59, .iload_n 2, 1, 0), (60, .aload_n 0, 1, 0), (61, .getfield 15, 3, 0), (64, .iload_n 3, 1, 0), (65, .iaload, 1, 0), (66, .iastore, 1, 0), (67, .iinc 3 1, 3, 1), (70, .goto (-61), 3, 0), (73, .aload_n 0, 1, 0), (74, .iload_n 1, 1, 0), (75, .iload_n 2, 1, 0), (76, .iconst 1, 1, 1), (77, .iadd, 1, 0), (78, .invokestatic 52, 3, 0), (81, .putfield 22, 3, 0), (84, .iload_n 1, 1, 0), (85, .aload_n 0, 1, 0), (86, .getfield 22, 3, 0), (89, .isub, 1, 0), (90, .ireturn, 1, 0)], [(15, 2, 1, 4), (22, 2, 3, 0), (25, 2, 4, 0)], [(52, 4, 2, 1, fun _ _ => none)], [], [], [(0, [0]), (9, [0, 1, 2, 3])], [], 2)
def f_Lv_takeTogether : mm_F := fun args h => mm_ga [1] args (mm_gd 2 args h (mm_run p_Lv_takeTogether (mm_fu + 1) 0 args [] h))
set_option maxRecDepth 100000 in
theorem e_Lv_takeTogether_0 (f : Nat) (t : Nat) (h : mm_H) : mm_run p_Lv_takeTogether (f + 1) 0 [.ref t] [] h =
  (mm_gi 2 3 h t).bind fun x1 =>
  mm_run p_Lv_takeTogether f 9 [.ref t, .int x1, .int 0, .int 1] [] h := rfl
theorem e_Lv_takeTogether (t : Nat) (h : mm_H) {fs : List Value} (hb : h t = some (.inr (2, fs))) : f_Lv_takeTogether [.ref t] h =
  (mm_gi 2 3 h t).bind fun x1 =>
  mm_run p_Lv_takeTogether mm_fu 9 [.ref t, .int x1, .int 0, .int 1] [] h := (mm_ga_is rfl).trans ((mm_gd_is hb).trans (e_Lv_takeTogether_0 mm_fu t h))
set_option maxRecDepth 100000 in
theorem e_Lv_takeTogether_9 (f : Nat) (t : Nat) (v1 : Int32) (v2 : Int32) (v3 : Int32) (h : mm_H) : mm_run p_Lv_takeTogether (f + 1) 9 [.ref t, .int v1, .int v2, .int v3] [] h =
  if v3 < v1 then
    (mm_gr 2 1 h t).bind fun r1 =>
    (mm_li h r1 v2).bind fun x2 =>
    (mm_gr 2 1 h t).bind fun r3 =>
    (mm_li h r3 v3).bind fun x4 =>
    (mm_gi 2 4 h t).bind fun x5 =>
    if x5 < (x2 + x4) then
      (mm_gr 2 1 h t).bind fun r6 =>
      (mm_gr 2 1 h t).bind fun r7 =>
      (mm_li h r7 v3).bind fun x8 =>
      (mm_si h r6 (v2 + 1) x8).bind fun h9 =>
      mm_run p_Lv_takeTogether f 9 [.ref t, .int v1, .int (v2 + 1), .int (v3 + 1)] [] h9
    else
      (mm_gr 2 1 h t).bind fun r10 =>
      (mm_li h r10 v2).bind fun x11 =>
      (mm_gr 2 1 h t).bind fun r12 =>
      (mm_li h r12 v3).bind fun x13 =>
      (mm_si h r10 v2 (x11 + x13)).bind fun h14 =>
      mm_run p_Lv_takeTogether f 9 [.ref t, .int v1, .int v2, .int (v3 + 1)] [] h14
  else
    (mm_pf 2 3 (.int (mm_min v1 (v2 + 1))) h t).bind fun h15 =>
    (mm_gi 2 3 h15 t).bind fun x16 =>
    some (some (.int (v1 - x16)), h15) := rfl
set_option maxRecDepth 100000 in
theorem i_Lv_takeTogether (l : Launch) : mm_Imp l yX2_takeTogether cX2_takeTogether 4 (some .int) 1 f_Lv_takeTogether := mm_imp l (P := p_Lv_takeTogether) mm_cls_ok mm_sys_ok (by decide) (mm_Pok_of (List.forall_mem_cons.mpr ⟨k_X2_15, (List.forall_mem_cons.mpr ⟨k_X2_22, (List.forall_mem_cons.mpr ⟨k_X2_25, (fun _ h => absurd h List.not_mem_nil)⟩)⟩)⟩) (List.forall_mem_cons.mpr ⟨Or.inl ⟨by decide, Or.inr (Or.inl ⟨rfl, q_1311⟩)⟩, (fun _ h => absurd h List.not_mem_nil)⟩) (fun _ h => absurd h List.not_mem_nil) (fun _ h => absurd h List.not_mem_nil)) (by decide +kernel) rfl (cats := [1]) (fun as h r e => ⟨(mm_ga_inv e).1, (mm_gd_inv (mm_ga_inv e).2).1⟩) rfl (by decide)
theorem v_Lv_takeTogether (l : Launch) {own : String} {i n0 : Nat} (hl : Cond.methodLink own i yX2_takeTogether ∈ mm_tbl) (hn : 2 ≤ n0) : mm_cok l own n0 i (0, 0, 1, f_Lv_takeTogether) := Or.inr (Or.inr ⟨rfl, yX2_takeTogether, cX2_takeTogether, 4, (some .int), 1, 2, TX2, 6, i_Lv_takeTogether l, hn, by decide, by decide +kernel, rfl, fun _ _ _ e => (mm_gd_inv (mm_ga_inv e).2).2, hl, q_1308, q_1309, q_178, q_1310⟩)
def p_Lv_firstOf : mm_P := ([(0, .iconst 0, 1, 0), (1, .istore_n 2, 1, 0), (2, .iconst 0, 1, 0), (3, .istore_n 3, 1, 0), (4, .iload_n 3, 1, 0), (5, .iload_n 1, 1, 0), (6, .if_icmp .ge 26, 3, 0), (9, .iload_n 3, 1, 0), (10, .aload_n 0, 1, 0), (11, .getfield 22, 3, 0), (14, .if_icmp .ge 18, 3, 0), (17, .iload_n 2, 1, 0), (18, .aload_n 0, 1, 0), (19, .getfield 15, 3, 0), (22, .iload_n 3, 1, 0), (23, .iaload, 1, 0), (24, .iadd, 1, 0), (25, .istore_n 2, 1, 0), (26, .iinc 3 1, 3, 1), (29, .goto (-25), 3, 0), (32, .iload_n 2, 1, 0), (33, .ireturn, 1, 0)], [(15, 2, 1, 4), (22, 2, 3, 0)], [], [], [], [(0, [0, 1]), (4, [0, 1, 2, 3])], [], 2)
def f_Lv_firstOf : mm_F := fun args h => mm_ga [1, 1] args (mm_gd 2 args h (mm_run p_Lv_firstOf (mm_fu + 1) 0 args [] h))
set_option maxRecDepth 100000 in
theorem e_Lv_firstOf_0 (f : Nat) (t : Nat) (v1 : Int32) (h : mm_H) : mm_run p_Lv_firstOf (f + 1) 0 [.ref t, .int v1] [] h =
  mm_run p_Lv_firstOf f 4 [.ref t, .int v1, .int 0, .int 0] [] h := rfl
theorem e_Lv_firstOf (t : Nat) (v1 : Int32) (h : mm_H) {fs : List Value} (hb : h t = some (.inr (2, fs))) : f_Lv_firstOf [.ref t, .int v1] h =
  mm_run p_Lv_firstOf mm_fu 4 [.ref t, .int v1, .int 0, .int 0] [] h := (mm_ga_is rfl).trans ((mm_gd_is hb).trans (e_Lv_firstOf_0 mm_fu t v1 h))
set_option maxRecDepth 100000 in
theorem e_Lv_firstOf_4 (f : Nat) (t : Nat) (v1 : Int32) (v2 : Int32) (v3 : Int32) (h : mm_H) : mm_run p_Lv_firstOf (f + 1) 4 [.ref t, .int v1, .int v2, .int v3] [] h =
  if v3 < v1 then
    (mm_gi 2 3 h t).bind fun x1 =>
    if v3 < x1 then
      (mm_gr 2 1 h t).bind fun r2 =>
      (mm_li h r2 v3).bind fun x3 =>
      mm_run p_Lv_firstOf f 4 [.ref t, .int v1, .int (v2 + x3), .int (v3 + 1)] [] h
    else
      some (some (.int v2), h)
  else
    some (some (.int v2), h) := rfl
set_option maxRecDepth 100000 in
theorem i_Lv_firstOf (l : Launch) : mm_Imp l yX2_firstOf cX2_firstOf 4 (some .int) 1 f_Lv_firstOf := mm_imp l (P := p_Lv_firstOf) mm_cls_ok mm_sys_ok (by decide) (mm_Pok_of (List.forall_mem_cons.mpr ⟨k_X2_15, (List.forall_mem_cons.mpr ⟨k_X2_22, (fun _ h => absurd h List.not_mem_nil)⟩)⟩) (fun _ h => absurd h List.not_mem_nil) (fun _ h => absurd h List.not_mem_nil) (fun _ h => absurd h List.not_mem_nil)) (by decide +kernel) rfl (cats := [1, 1]) (fun as h r e => ⟨(mm_ga_inv e).1, (mm_gd_inv (mm_ga_inv e).2).1⟩) rfl (by decide)
theorem v_Lv_firstOf (l : Launch) {own : String} {i n0 : Nat} (hl : Cond.methodLink own i yX2_firstOf ∈ mm_tbl) (hn : 2 ≤ n0) : mm_cok l own n0 i (0, 1, 1, f_Lv_firstOf) := Or.inr (Or.inr ⟨rfl, yX2_firstOf, cX2_firstOf, 4, (some .int), 1, 2, TX2, 6, i_Lv_firstOf l, hn, by decide, by decide +kernel, rfl, fun _ _ _ e => (mm_gd_inv (mm_ga_inv e).2).2, hl, q_992, q_28, q_178, q_993⟩)
def p_Lv_rowAt : mm_P := ([(0, .iload_n 1, 1, 0), (1, .ifCond .lt 25, 3, 0), (4, .iload_n 1, 1, 0), (5, .aload_n 0, 1, 0), (6, .getfield 22, 3, 0), (9, .if_icmp .ge 17, 3, 0), (12, .iload_n 2, 1, 0), (13, .ifCond .lt 13, 3, 0), (16, .iload_n 2, 1, 0), (17, .aload_n 0, 1, 0), (18, .getfield 15, 3, 0), (21, .iload_n 1, 1, 0), (22, .iaload, 1, 0), (23, .if_icmp .lt 5, 3, 0), (26, .iconst (-1), 1, (-1)), (27, .ireturn, 1, 0), (28, .aload_n 0, 1, 0), (29, .getfield 9, 3, 0), (32, .aload_n 0, 1, 0), (33, .iload_n 1, 1, 0), (34, .invokevirtual 58, 3, 0), (37, .iload_n 2, 1, 0), (38, .iadd, 1, 0), (39, .iaload, 1, 0), (40, .invokestatic 61, 3, 0), (43, .ireturn, 1, 0)], [(9, 2, 0, 4), (15, 2, 1, 4), (22, 2, 3, 0)], [(58, 0, 1, 1, f_Lv_firstOf), (61, 1, 1, 1, f_Lv_rowIn)], [], [], [(0, [0, 1, 2])], [], 2)
def f_Lv_rowAt : mm_F := fun args h => mm_ga [1, 1, 1] args (mm_gd 2 args h (mm_run p_Lv_rowAt (mm_fu + 1) 0 args [] h))
set_option maxRecDepth 100000 in
theorem e_Lv_rowAt_0 (f : Nat) (t : Nat) (v1 : Int32) (v2 : Int32) (h : mm_H) : mm_run p_Lv_rowAt (f + 1) 0 [.ref t, .int v1, .int v2] [] h =
  if v1 < 0 then
    some (some (.int (-1)), h)
  else
    (mm_gi 2 3 h t).bind fun x1 =>
    if v1 < x1 then
      if v2 < 0 then
        some (some (.int (-1)), h)
      else
        (mm_gr 2 1 h t).bind fun r2 =>
        (mm_li h r2 v1).bind fun x3 =>
        if v2 < x3 then
          (mm_gr 2 0 h t).bind fun r4 =>
          mm_ci (f_Lv_firstOf [.ref t, .int v1] h) fun x6 h5 =>
          (mm_li h5 r4 (x6 + v2)).bind fun x7 =>
          mm_ci (f_Lv_rowIn [.int x7] h5) fun x9 h8 =>
          some (some (.int x9), h8)
        else
          some (some (.int (-1)), h)
    else
      some (some (.int (-1)), h) := rfl
theorem e_Lv_rowAt (t : Nat) (v1 : Int32) (v2 : Int32) (h : mm_H) {fs : List Value} (hb : h t = some (.inr (2, fs))) : f_Lv_rowAt [.ref t, .int v1, .int v2] h =
  if v1 < 0 then
    some (some (.int (-1)), h)
  else
    (mm_gi 2 3 h t).bind fun x1 =>
    if v1 < x1 then
      if v2 < 0 then
        some (some (.int (-1)), h)
      else
        (mm_gr 2 1 h t).bind fun r2 =>
        (mm_li h r2 v1).bind fun x3 =>
        if v2 < x3 then
          (mm_gr 2 0 h t).bind fun r4 =>
          mm_ci (f_Lv_firstOf [.ref t, .int v1] h) fun x6 h5 =>
          (mm_li h5 r4 (x6 + v2)).bind fun x7 =>
          mm_ci (f_Lv_rowIn [.int x7] h5) fun x9 h8 =>
          some (some (.int x9), h8)
        else
          some (some (.int (-1)), h)
    else
      some (some (.int (-1)), h) := (mm_ga_is rfl).trans ((mm_gd_is hb).trans (e_Lv_rowAt_0 mm_fu t v1 v2 h))
set_option maxRecDepth 100000 in
theorem i_Lv_rowAt (l : Launch) : mm_Imp l yX2_rowAt cX2_rowAt 3 (some .int) 2 f_Lv_rowAt := mm_imp l (P := p_Lv_rowAt) mm_cls_ok mm_sys_ok (by decide) (mm_Pok_of (List.forall_mem_cons.mpr ⟨k_X2_9, (List.forall_mem_cons.mpr ⟨k_X2_15, (List.forall_mem_cons.mpr ⟨k_X2_22, (fun _ h => absurd h List.not_mem_nil)⟩)⟩)⟩) (List.forall_mem_cons.mpr ⟨v_Lv_firstOf l q_990 (by decide), (List.forall_mem_cons.mpr ⟨v_Lv_rowIn l (Or.inl q_994) (by decide), (fun _ h => absurd h List.not_mem_nil)⟩)⟩) (fun _ h => absurd h List.not_mem_nil) (fun _ h => absurd h List.not_mem_nil)) (by decide +kernel) rfl (cats := [1, 1, 1]) (fun as h r e => ⟨(mm_ga_inv e).1, (mm_gd_inv (mm_ga_inv e).2).1⟩) rfl (by decide)
theorem v_Lv_rowAt (l : Launch) {own : String} {i n0 : Nat} (hl : Cond.methodLink own i yX2_rowAt ∈ mm_tbl) (hn : 3 ≤ n0) : mm_cok l own n0 i (0, 2, 1, f_Lv_rowAt) := Or.inr (Or.inr ⟨rfl, yX2_rowAt, cX2_rowAt, 3, (some .int), 2, 2, TX2, 6, i_Lv_rowAt l, hn, by decide, by decide +kernel, rfl, fun _ _ _ e => (mm_gd_inv (mm_ga_inv e).2).2, hl, q_987, q_988, q_178, q_989⟩)
def p_Lv_underHalf : mm_P := ([(0, .iconst 0, 1, 0), (1, .istore_n 1, 1, 0), (2, .iconst 0, 1, 0), (3, .istore_n 2, 1, 0), (4, .iload_n 2, 1, 0), (5, .aload_n 0, 1, 0), (6, .getfield 22, 3, 0), (9, .if_icmp .ge 32, 3, 0), (12, .iload_n 1, 1, 0), (13, .iconst 2, 1, 2), (14, .aload_n 0, 1, 0), (15, .getfield 15, 3, 0), (18, .iload_n 2, 1, 0), (19, .iaload, 1, 0), (20, .imul, 1, 0), (21, .aload_n 0, 1, 0), (22, .getfield 25, 3, 0), (25, .if_icmp .ge 7, 3, 0), (28, .iconst 1, 1, 1), (29, .goto 4, 3, 0), (32, .iconst 0, 1, 0), (33, .iadd, 1, 0), (34, .istore_n 1, 1, 0), (35, .iinc 2 1, 3, 1), (38, .goto (-34), 3, 0), (41, .iload_n 1, 1, 0), (42, .ireturn, 1, 0)], [(15, 2, 1, 4), (22, 2, 3, 0), (25, 2, 4, 0)], [], [], [], [(0, [0]), (4, [0, 1, 2])], [], 2)
def f_Lv_underHalf : mm_F := fun args h => mm_ga [1] args (mm_gd 2 args h (mm_run p_Lv_underHalf (mm_fu + 1) 0 args [] h))
set_option maxRecDepth 100000 in
theorem e_Lv_underHalf_0 (f : Nat) (t : Nat) (h : mm_H) : mm_run p_Lv_underHalf (f + 1) 0 [.ref t] [] h =
  mm_run p_Lv_underHalf f 4 [.ref t, .int 0, .int 0] [] h := rfl
theorem e_Lv_underHalf (t : Nat) (h : mm_H) {fs : List Value} (hb : h t = some (.inr (2, fs))) : f_Lv_underHalf [.ref t] h =
  mm_run p_Lv_underHalf mm_fu 4 [.ref t, .int 0, .int 0] [] h := (mm_ga_is rfl).trans ((mm_gd_is hb).trans (e_Lv_underHalf_0 mm_fu t h))
set_option maxRecDepth 100000 in
theorem e_Lv_underHalf_4 (f : Nat) (t : Nat) (v1 : Int32) (v2 : Int32) (h : mm_H) : mm_run p_Lv_underHalf (f + 1) 4 [.ref t, .int v1, .int v2] [] h =
  (mm_gi 2 3 h t).bind fun x1 =>
  if v2 < x1 then
    (mm_gr 2 1 h t).bind fun r2 =>
    (mm_li h r2 v2).bind fun x3 =>
    (mm_gi 2 4 h t).bind fun x4 =>
    if (2 * x3) < x4 then
      mm_run p_Lv_underHalf f 4 [.ref t, .int (v1 + 1), .int (v2 + 1)] [] h
    else
      mm_run p_Lv_underHalf f 4 [.ref t, .int (v1 + 0), .int (v2 + 1)] [] h
  else
    some (some (.int v1), h) := rfl
set_option maxRecDepth 100000 in
theorem i_Lv_underHalf (l : Launch) : mm_Imp l yX2_underHalf cX2_underHalf 3 (some .int) 1 f_Lv_underHalf := mm_imp l (P := p_Lv_underHalf) mm_cls_ok mm_sys_ok (by decide) (mm_Pok_of (List.forall_mem_cons.mpr ⟨k_X2_15, (List.forall_mem_cons.mpr ⟨k_X2_22, (List.forall_mem_cons.mpr ⟨k_X2_25, (fun _ h => absurd h List.not_mem_nil)⟩)⟩)⟩) (fun _ h => absurd h List.not_mem_nil) (fun _ h => absurd h List.not_mem_nil) (fun _ h => absurd h List.not_mem_nil)) (by decide +kernel) rfl (cats := [1]) (fun as h r e => ⟨(mm_ga_inv e).1, (mm_gd_inv (mm_ga_inv e).2).1⟩) rfl (by decide)
theorem v_Lv_underHalf (l : Launch) {own : String} {i n0 : Nat} (hl : Cond.methodLink own i yX2_underHalf ∈ mm_tbl) (hn : 2 ≤ n0) : mm_cok l own n0 i (0, 0, 1, f_Lv_underHalf) := Or.inr (Or.inr ⟨rfl, yX2_underHalf, cX2_underHalf, 3, (some .int), 1, 2, TX2, 6, i_Lv_underHalf l, hn, by decide, by decide +kernel, rfl, fun _ _ _ e => (mm_gd_inv (mm_ga_inv e).2).2, hl, q_1426, q_1427, q_178, q_1428⟩)
def p_Lv_withValue : mm_P := ([(0, .iconst 0, 1, 0), (1, .istore_n 3, 1, 0), (2, .iconst 0, 1, 0), (3, .istore 4, 2, 0), (5, .iload 4, 2, 0), (7, .aload_n 0, 1, 0), (8, .getfield 18, 3, 0), (11, .if_icmp .ge 44, 3, 0), (14, .aload_n 0, 1, 0), (15, .aload_n 0, 1, 0), (16, .getfield 9, 3, 0), (19, .iload 4, 2, 0), (21, .iaload, 1, 0), (22, .invokevirtual 64, 3, 0), (25, .iload_n 1, 1, 0), (26, .if_icmp .ne 23, 3, 0), (29, .iload_n 2, 1, 0), (30, .aload_n 0, 1, 0), (31, .getfield 9, 3, 0), (34, .iload 4, 2, 0), (36, .iaload, 1, 0), (37, .invokestatic 61, 3, 0), (40, .ishr, 1, 0), (41, .iconst 1, 1, 1), (42, .iand, 1, 0), (43, .ifCond .eq 6, 3, 0), (46, .iinc 3 1, 3, 1), (49, .iinc 4 1, 3, 1), (52, .goto (-47), 3, 0), (55, .iload_n 3, 1, 0), (56, .ireturn, 1, 0)], [(9, 2, 0, 4), (18, 2, 2, 0)], [(61, 1, 1, 1, f_Lv_rowIn), (64, 0, 1, 1, f_Lv_valueIn)], [], [], [(0, [0, 1, 2]), (5, [0, 1, 2, 3, 4])], [], 2)
def f_Lv_withValue : mm_F := fun args h => mm_ga [1, 1, 1] args (mm_gd 2 args h (mm_run p_Lv_withValue (mm_fu + 1) 0 args [] h))
set_option maxRecDepth 100000 in
theorem e_Lv_withValue_0 (f : Nat) (t : Nat) (v1 : Int32) (v2 : Int32) (h : mm_H) : mm_run p_Lv_withValue (f + 1) 0 [.ref t, .int v1, .int v2] [] h =
  mm_run p_Lv_withValue f 5 [.ref t, .int v1, .int v2, .int 0, .int 0] [] h := rfl
theorem e_Lv_withValue (t : Nat) (v1 : Int32) (v2 : Int32) (h : mm_H) {fs : List Value} (hb : h t = some (.inr (2, fs))) : f_Lv_withValue [.ref t, .int v1, .int v2] h =
  mm_run p_Lv_withValue mm_fu 5 [.ref t, .int v1, .int v2, .int 0, .int 0] [] h := (mm_ga_is rfl).trans ((mm_gd_is hb).trans (e_Lv_withValue_0 mm_fu t v1 v2 h))
set_option maxRecDepth 100000 in
theorem e_Lv_withValue_5 (f : Nat) (t : Nat) (v1 : Int32) (v2 : Int32) (v3 : Int32) (v4 : Int32) (h : mm_H) : mm_run p_Lv_withValue (f + 1) 5 [.ref t, .int v1, .int v2, .int v3, .int v4] [] h =
  (mm_gi 2 2 h t).bind fun x1 =>
  if v4 < x1 then
    (mm_gr 2 0 h t).bind fun r2 =>
    (mm_li h r2 v4).bind fun x3 =>
    mm_ci (f_Lv_valueIn [.ref t, .int x3] h) fun x5 h4 =>
    if x5 = v1 then
      (mm_gr 2 0 h4 t).bind fun r6 =>
      (mm_li h4 r6 v4).bind fun x7 =>
      mm_ci (f_Lv_rowIn [.int x7] h4) fun x9 h8 =>
      if ((v2 >>> (x9 &&& 31)) &&& 1) = 0 then
        mm_run p_Lv_withValue f 5 [.ref t, .int v1, .int v2, .int v3, .int (v4 + 1)] [] h8
      else
        mm_run p_Lv_withValue f 5 [.ref t, .int v1, .int v2, .int (v3 + 1), .int (v4 + 1)] [] h8
    else
      mm_run p_Lv_withValue f 5 [.ref t, .int v1, .int v2, .int v3, .int (v4 + 1)] [] h4
  else
    some (some (.int v3), h) := rfl
set_option maxRecDepth 100000 in
theorem i_Lv_withValue (l : Launch) : mm_Imp l yX2_withValue cX2_withValue 5 (some .int) 2 f_Lv_withValue := mm_imp l (P := p_Lv_withValue) mm_cls_ok mm_sys_ok (by decide) (mm_Pok_of (List.forall_mem_cons.mpr ⟨k_X2_9, (List.forall_mem_cons.mpr ⟨k_X2_18, (fun _ h => absurd h List.not_mem_nil)⟩)⟩) (List.forall_mem_cons.mpr ⟨v_Lv_rowIn l (Or.inl q_994) (by decide), (List.forall_mem_cons.mpr ⟨v_Lv_valueIn l q_1382 (by decide), (fun _ h => absurd h List.not_mem_nil)⟩)⟩) (fun _ h => absurd h List.not_mem_nil) (fun _ h => absurd h List.not_mem_nil)) (by decide +kernel) rfl (cats := [1, 1, 1]) (fun as h r e => ⟨(mm_ga_inv e).1, (mm_gd_inv (mm_ga_inv e).2).1⟩) rfl (by decide)
theorem v_Lv_withValue (l : Launch) {own : String} {i n0 : Nat} (hl : Cond.methodLink own i yX2_withValue ∈ mm_tbl) (hn : 3 ≤ n0) : mm_cok l own n0 i (0, 2, 1, f_Lv_withValue) := Or.inr (Or.inr ⟨rfl, yX2_withValue, cX2_withValue, 5, (some .int), 2, 2, TX2, 6, i_Lv_withValue l, hn, by decide, by decide +kernel, rfl, fun _ _ _ e => (mm_gd_inv (mm_ga_inv e).2).2, hl, q_1379, q_1380, q_178, q_1381⟩)
def p_Lv_leftIn : mm_P := ([(0, .iload_n 1, 1, 0), (1, .ifCond .lt 11, 3, 0), (4, .iload_n 1, 1, 0), (5, .aload_n 0, 1, 0), (6, .getfield 22, 3, 0), (9, .if_icmp .lt 5, 3, 0), (12, .iconst (-1), 1, (-1)), (13, .ireturn, 1, 0), (14, .aload_n 0, 1, 0), (15, .iload_n 1, 1, 0), (16, .invokevirtual 58, 3, 0), (19, .istore_n 3, 1, 0), (20, .iconst 0, 1, 0), (21, .istore 4, 2, 0), (23, .iload_n 3, 1, 0), (24, .istore 5, 2, 0), (26, .iload 5, 2, 0), (28, .iload_n 3, 1, 0), (29, .aload_n 0, 1, 0), (30, .getfield 15, 3, 0), (33, .iload_n 1, 1, 0), (34, .iaload, 1, 0), (35, .iadd, 1, 0), (36, .if_icmp .ge 37, 3, 0), (39, .iload 5, 2, 0), (41, .aload_n 0, 1, 0), (42, .getfield 18, 3, 0), (45, .if_icmp .ge 28, 3, 0), (48, .iload 4, 2, 0), (50, .iload_n 2, 1, 0), (51, .aload_n 0, 1, 0), (52, .getfield 9, 3, 0), (55, .iload 5, 2, 0), (57, .iaload, 1, 0), (58, .invokestatic 61, 3, 0), (61, .ishr, 1, 0), (62, .iconst 1, 1, 1), (63, .iand, 1, 0), (64, .iadd, 1, 0), (65, .istore 4, 2, 0), (67, .iinc 5 1, 3, 1), (70, .goto (-44), 3, 0), (73, .iload 4, 2, 0), (75, .ireturn, 1, 0)], [(9, 2, 0, 4), (15, 2, 1, 4), (18, 2, 2, 0), (22, 2, 3, 0)], [(58, 0, 1, 1, f_Lv_firstOf), (61, 1, 1, 1, f_Lv_rowIn)], [], [], [(0, [0, 1, 2]), (26, [0, 1, 2, 3, 4, 5])], [], 2)
def f_Lv_leftIn : mm_F := fun args h => mm_ga [1, 1, 1] args (mm_gd 2 args h (mm_run p_Lv_leftIn (mm_fu + 1) 0 args [] h))
set_option maxRecDepth 100000 in
theorem e_Lv_leftIn_0 (f : Nat) (t : Nat) (v1 : Int32) (v2 : Int32) (h : mm_H) : mm_run p_Lv_leftIn (f + 1) 0 [.ref t, .int v1, .int v2] [] h =
  if v1 < 0 then
    some (some (.int (-1)), h)
  else
    (mm_gi 2 3 h t).bind fun x1 =>
    if v1 < x1 then
      mm_ci (f_Lv_firstOf [.ref t, .int v1] h) fun x3 h2 =>
      mm_run p_Lv_leftIn f 26 [.ref t, .int v1, .int v2, .int x3, .int 0, .int x3] [] h2
    else
      some (some (.int (-1)), h) := rfl
theorem e_Lv_leftIn (t : Nat) (v1 : Int32) (v2 : Int32) (h : mm_H) {fs : List Value} (hb : h t = some (.inr (2, fs))) : f_Lv_leftIn [.ref t, .int v1, .int v2] h =
  if v1 < 0 then
    some (some (.int (-1)), h)
  else
    (mm_gi 2 3 h t).bind fun x1 =>
    if v1 < x1 then
      mm_ci (f_Lv_firstOf [.ref t, .int v1] h) fun x3 h2 =>
      mm_run p_Lv_leftIn mm_fu 26 [.ref t, .int v1, .int v2, .int x3, .int 0, .int x3] [] h2
    else
      some (some (.int (-1)), h) := (mm_ga_is rfl).trans ((mm_gd_is hb).trans (e_Lv_leftIn_0 mm_fu t v1 v2 h))
set_option maxRecDepth 100000 in
theorem e_Lv_leftIn_26 (f : Nat) (t : Nat) (v1 : Int32) (v2 : Int32) (v3 : Int32) (v4 : Int32) (v5 : Int32) (h : mm_H) : mm_run p_Lv_leftIn (f + 1) 26 [.ref t, .int v1, .int v2, .int v3, .int v4, .int v5] [] h =
  (mm_gr 2 1 h t).bind fun r1 =>
  (mm_li h r1 v1).bind fun x2 =>
  if v5 < (v3 + x2) then
    (mm_gi 2 2 h t).bind fun x3 =>
    if v5 < x3 then
      (mm_gr 2 0 h t).bind fun r4 =>
      (mm_li h r4 v5).bind fun x5 =>
      mm_ci (f_Lv_rowIn [.int x5] h) fun x7 h6 =>
      mm_run p_Lv_leftIn f 26 [.ref t, .int v1, .int v2, .int v3, .int (v4 + ((v2 >>> (x7 &&& 31)) &&& 1)), .int (v5 + 1)] [] h6
    else
      some (some (.int v4), h)
  else
    some (some (.int v4), h) := rfl
set_option maxRecDepth 100000 in
theorem i_Lv_leftIn (l : Launch) : mm_Imp l yX2_leftIn cX2_leftIn 6 (some .int) 2 f_Lv_leftIn := mm_imp l (P := p_Lv_leftIn) mm_cls_ok mm_sys_ok (by decide) (mm_Pok_of (List.forall_mem_cons.mpr ⟨k_X2_9, (List.forall_mem_cons.mpr ⟨k_X2_15, (List.forall_mem_cons.mpr ⟨k_X2_18, (List.forall_mem_cons.mpr ⟨k_X2_22, (fun _ h => absurd h List.not_mem_nil)⟩)⟩)⟩)⟩) (List.forall_mem_cons.mpr ⟨v_Lv_firstOf l q_990 (by decide), (List.forall_mem_cons.mpr ⟨v_Lv_rowIn l (Or.inl q_994) (by decide), (fun _ h => absurd h List.not_mem_nil)⟩)⟩) (fun _ h => absurd h List.not_mem_nil) (fun _ h => absurd h List.not_mem_nil)) (by decide +kernel) rfl (cats := [1, 1, 1]) (fun as h r e => ⟨(mm_ga_inv e).1, (mm_gd_inv (mm_ga_inv e).2).1⟩) rfl (by decide)
theorem v_Lv_leftIn (l : Launch) {own : String} {i n0 : Nat} (hl : Cond.methodLink own i yX2_leftIn ∈ mm_tbl) (hn : 3 ≤ n0) : mm_cok l own n0 i (0, 2, 1, f_Lv_leftIn) := Or.inr (Or.inr ⟨rfl, yX2_leftIn, cX2_leftIn, 6, (some .int), 2, 2, TX2, 6, i_Lv_leftIn l, hn, by decide, by decide +kernel, rfl, fun _ _ _ e => (mm_gd_inv (mm_ga_inv e).2).2, hl, q_1457, q_1458, q_178, q_1459⟩)
def p_Lv_passCost : mm_P := ([(0, .iconst (-1), 1, (-1)), (1, .istore_n 2, 1, 0), (2, .iconst (-1), 1, (-1)), (3, .istore_n 3, 1, 0), (4, .iconst 0, 1, 0), (5, .istore 4, 2, 0), (7, .iconst 0, 1, 0), (8, .istore 5, 2, 0), (10, .aload_n 0, 1, 0), (11, .getfield 22, 3, 0), (14, .ifCond .le 12, 3, 0), (17, .aload_n 0, 1, 0), (18, .getfield 15, 3, 0), (21, .iconst 0, 1, 0), (22, .iaload, 1, 0), (23, .goto 4, 3, 0), (26, .iconst 0, 1, 0), (27, .istore 6, 2, 0), (29, .iconst 0, 1, 0), (30, .istore 7, 2, 0), (32, .iload 7, 2, 0), (34, .aload_n 0, 1, 0), (35, .getfield 18, 3, 0), (38, .if_icmp .ge 83, 3, 0), (41, .iload 7, 2, 0), (43, .iload 6, 2, 0), (45, .if_icmp .lt 29, 3, 0), (48, .iload 5, 2, 0), (50, .iconst 1, 1, 1), (51, .iadd, 1, 0), (52, .aload_n 0, 1, 0), (53, .getfield 22, 3, 0), (56, .if_icmp .ge 18, 3, 0), (59, .iinc 5 1, 3, 1), (62, .iload 6, 2, 0), (64, .aload_n 0, 1, 0), (65, .getfield 15, 3, 0), (68, .iload 5, 2, 0), (70, .iaload, 1, 0), (71, .iadd, 1, 0), (72, .istore 6, 2, 0), (74, .iload_n 1, 1, 0), (75, .aload_n 0, 1, 0), (76, .getfield 9, 3, 0), (79, .iload 7, 2, 0), (81, .iaload, 1, 0), (82, .invokestatic 61, 3, 0), (85, .ishr, 1, 0), (86, .iconst 1, 1, 1), (87, .iand, 1, 0), (88, .ifCond .eq 27, 3, 0), (91, .iload_n 3, 1, 0), (92, .iload 5, 2, 0), (94, .if_icmp .eq 21, 3, 0), (97, .iload_n 2, 1, 0), (98, .iconst (-1), 1, (-1)), (99, .if_icmp .ne 8, 3, 0), (102, .iload 5, 2, 0), (104, .goto 4, 3, 0), (107, .iload_n 2, 1, 0), (108, .istore_n 2, 1, 0), (109, .iload 5, 2, 0), (111, .istore_n 3, 1, 0), (112, .iinc 4 1, 3, 1), (115, .iinc 7 1, 3, 1), (118, .goto (-86), 3, 0), (121, .iload 4, 2, 0), (123, .ifCond .ne 7, 3, 0), (126, .iconst 0, 1, 0), (127, .goto 16, 3, 0), (130, .aload_n 0, 1, 0), (131, .invokevirtual 67, 3, 0), (134, .iload_n 3, 1, 0), (135, .iload_n 2, 1, 0), (136, .isub, 1, 0), (137, .iconst 1, 1, 1), (138, .iadd, 1, 0), (139, .iadd, 1, 0), (140, .iload 4, 2, 0), (142, .iadd, 1, 0), (143, .ireturn, 1, 0)], [(9, 2, 0, 4), (15, 2, 1, 4), (18, 2, 2, 0), (22, 2, 3, 0)], [(61, 1, 1, 1, f_Lv_rowIn), (67, 0, 0, 1, f_Lv_height)], [], [], [(0, [0, 1]), (32, [0, 1, 2, 3, 4, 5, 6, 7]), (74, [0, 1, 2, 3, 4, 5, 6, 7])], [], 2)
def f_Lv_passCost : mm_F := fun args h => mm_ga [1, 1] args (mm_gd 2 args h (mm_run p_Lv_passCost (mm_fu + 1) 0 args [] h))
set_option maxRecDepth 100000 in
theorem e_Lv_passCost_0 (f : Nat) (t : Nat) (v1 : Int32) (h : mm_H) : mm_run p_Lv_passCost (f + 1) 0 [.ref t, .int v1] [] h =
  (mm_gi 2 3 h t).bind fun x1 =>
  if (0 : Int32) < x1 then
    (mm_gr 2 1 h t).bind fun r2 =>
    (mm_li h r2 0).bind fun x3 =>
    mm_run p_Lv_passCost f 32 [.ref t, .int v1, .int (-1), .int (-1), .int 0, .int 0, .int x3, .int 0] [] h
  else
    mm_run p_Lv_passCost f 32 [.ref t, .int v1, .int (-1), .int (-1), .int 0, .int 0, .int 0, .int 0] [] h := rfl
theorem e_Lv_passCost (t : Nat) (v1 : Int32) (h : mm_H) {fs : List Value} (hb : h t = some (.inr (2, fs))) : f_Lv_passCost [.ref t, .int v1] h =
  (mm_gi 2 3 h t).bind fun x1 =>
  if (0 : Int32) < x1 then
    (mm_gr 2 1 h t).bind fun r2 =>
    (mm_li h r2 0).bind fun x3 =>
    mm_run p_Lv_passCost mm_fu 32 [.ref t, .int v1, .int (-1), .int (-1), .int 0, .int 0, .int x3, .int 0] [] h
  else
    mm_run p_Lv_passCost mm_fu 32 [.ref t, .int v1, .int (-1), .int (-1), .int 0, .int 0, .int 0, .int 0] [] h := (mm_ga_is rfl).trans ((mm_gd_is hb).trans (e_Lv_passCost_0 mm_fu t v1 h))
set_option maxRecDepth 100000 in
theorem e_Lv_passCost_32 (f : Nat) (t : Nat) (v1 : Int32) (v2 : Int32) (v3 : Int32) (v4 : Int32) (v5 : Int32) (v6 : Int32) (v7 : Int32) (h : mm_H) : mm_run p_Lv_passCost (f + 1) 32 [.ref t, .int v1, .int v2, .int v3, .int v4, .int v5, .int v6, .int v7] [] h =
  (mm_gi 2 2 h t).bind fun x1 =>
  if v7 < x1 then
    if v7 < v6 then
      mm_run p_Lv_passCost f 74 [.ref t, .int v1, .int v2, .int v3, .int v4, .int v5, .int v6, .int v7] [] h
    else
      (mm_gi 2 3 h t).bind fun x2 =>
      if (v5 + 1) < x2 then
        (mm_gr 2 1 h t).bind fun r3 =>
        (mm_li h r3 (v5 + 1)).bind fun x4 =>
        mm_run p_Lv_passCost f 74 [.ref t, .int v1, .int v2, .int v3, .int v4, .int (v5 + 1), .int (v6 + x4), .int v7] [] h
      else
        mm_run p_Lv_passCost f 74 [.ref t, .int v1, .int v2, .int v3, .int v4, .int v5, .int v6, .int v7] [] h
  else
    if v4 = 0 then
      some (some (.int 0), h)
    else
      mm_ci (f_Lv_height [.ref t] h) fun x6 h5 =>
      some (some (.int ((x6 + ((v3 - v2) + 1)) + v4)), h5) := rfl
set_option maxRecDepth 100000 in
theorem e_Lv_passCost_74 (f : Nat) (t : Nat) (v1 : Int32) (v2 : Int32) (v3 : Int32) (v4 : Int32) (v5 : Int32) (v6 : Int32) (v7 : Int32) (h : mm_H) : mm_run p_Lv_passCost (f + 1) 74 [.ref t, .int v1, .int v2, .int v3, .int v4, .int v5, .int v6, .int v7] [] h =
  (mm_gr 2 0 h t).bind fun r1 =>
  (mm_li h r1 v7).bind fun x2 =>
  mm_ci (f_Lv_rowIn [.int x2] h) fun x4 h3 =>
  if ((v1 >>> (x4 &&& 31)) &&& 1) = 0 then
    mm_run p_Lv_passCost f 32 [.ref t, .int v1, .int v2, .int v3, .int v4, .int v5, .int v6, .int (v7 + 1)] [] h3
  else
    if v3 = v5 then
      mm_run p_Lv_passCost f 32 [.ref t, .int v1, .int v2, .int v3, .int v4, .int v5, .int v6, .int (v7 + 1)] [] h3
    else
      if v2 = (-1) then
        mm_run p_Lv_passCost f 32 [.ref t, .int v1, .int v5, .int v5, .int (v4 + 1), .int v5, .int v6, .int (v7 + 1)] [] h3
      else
        mm_run p_Lv_passCost f 32 [.ref t, .int v1, .int v2, .int v5, .int (v4 + 1), .int v5, .int v6, .int (v7 + 1)] [] h3 := rfl
set_option maxRecDepth 100000 in
theorem i_Lv_passCost (l : Launch) : mm_Imp l yX2_passCost cX2_passCost 8 (some .int) 2 f_Lv_passCost := mm_imp l (P := p_Lv_passCost) mm_cls_ok mm_sys_ok (by decide) (mm_Pok_of (List.forall_mem_cons.mpr ⟨k_X2_9, (List.forall_mem_cons.mpr ⟨k_X2_15, (List.forall_mem_cons.mpr ⟨k_X2_18, (List.forall_mem_cons.mpr ⟨k_X2_22, (fun _ h => absurd h List.not_mem_nil)⟩)⟩)⟩)⟩) (List.forall_mem_cons.mpr ⟨v_Lv_rowIn l (Or.inl q_994) (by decide), (List.forall_mem_cons.mpr ⟨v_Lv_height l q_1207 (by decide), (fun _ h => absurd h List.not_mem_nil)⟩)⟩) (fun _ h => absurd h List.not_mem_nil) (fun _ h => absurd h List.not_mem_nil)) (by decide +kernel) rfl (cats := [1, 1]) (fun as h r e => ⟨(mm_ga_inv e).1, (mm_gd_inv (mm_ga_inv e).2).1⟩) rfl (by decide)
theorem v_Lv_passCost (l : Launch) {own : String} {i n0 : Nat} (hl : Cond.methodLink own i yX2_passCost ∈ mm_tbl) (hn : 3 ≤ n0) : mm_cok l own n0 i (0, 1, 1, f_Lv_passCost) := Or.inr (Or.inr ⟨rfl, yX2_passCost, cX2_passCost, 8, (some .int), 2, 2, TX2, 6, i_Lv_passCost l, hn, by decide, by decide +kernel, rfl, fun _ _ _ e => (mm_gd_inv (mm_ga_inv e).2).2, hl, q_1204, q_1205, q_178, q_1206⟩)
def p_Ji_bitCount : mm_P := ([(0, .iload_n 0, 1, 0), (1, .iload_n 0, 1, 0), (2, .iconst 1, 1, 1), (3, .iushr, 1, 0), (4, .ldc_w 265, 3, 0), (7, .iand, 1, 0), (8, .isub, 1, 0), (9, .istore_n 0, 1, 0), (10, .iload_n 0, 1, 0), (11, .ldc_w 266, 3, 0), (14, .iand, 1, 0), (15, .iload_n 0, 1, 0), (16, .iconst 2, 1, 2), (17, .iushr, 1, 0), (18, .ldc_w 266, 3, 0), (21, .iand, 1, 0), (22, .iadd, 1, 0), (23, .istore_n 0, 1, 0), (24, .iload_n 0, 1, 0), (25, .iload_n 0, 1, 0), (26, .iconst 4, 1, 4), (27, .iushr, 1, 0), (28, .iadd, 1, 0), (29, .ldc_w 267, 3, 0), (32, .iand, 1, 0), (33, .istore_n 0, 1, 0), (34, .iload_n 0, 1, 0), (35, .iload_n 0, 1, 0), (36, .bipush 8, 2, 8), (38, .iushr, 1, 0), (39, .iadd, 1, 0), (40, .istore_n 0, 1, 0), (41, .iload_n 0, 1, 0), (42, .iload_n 0, 1, 0), (43, .bipush 16, 2, 16), (45, .iushr, 1, 0), (46, .iadd, 1, 0), (47, .istore_n 0, 1, 0), (48, .iload_n 0, 1, 0), (49, .bipush 63, 2, 63), (51, .iand, 1, 0), (52, .ireturn, 1, 0)], [], [], [(265, 1431655765), (266, 858993459), (267, 252645135)], [], [(0, [0])], [], 2)
def f_Ji_bitCount : mm_F := fun args h => mm_ga [1] args (mm_run p_Ji_bitCount (mm_fu + 1) 0 args [] h)
set_option maxRecDepth 100000 in
theorem e_Ji_bitCount_0 (f : Nat) (v0 : Int32) (h : mm_H) : mm_run p_Ji_bitCount (f + 1) 0 [.int v0] [] h =
  some (some (.int ((((((((v0 - ((mm_ushr v0 1) &&& 1431655765)) &&& 858993459) + ((mm_ushr (v0 - ((mm_ushr v0 1) &&& 1431655765)) 2) &&& 858993459)) + (mm_ushr (((v0 - ((mm_ushr v0 1) &&& 1431655765)) &&& 858993459) + ((mm_ushr (v0 - ((mm_ushr v0 1) &&& 1431655765)) 2) &&& 858993459)) 4)) &&& 252645135) + (mm_ushr (((((v0 - ((mm_ushr v0 1) &&& 1431655765)) &&& 858993459) + ((mm_ushr (v0 - ((mm_ushr v0 1) &&& 1431655765)) 2) &&& 858993459)) + (mm_ushr (((v0 - ((mm_ushr v0 1) &&& 1431655765)) &&& 858993459) + ((mm_ushr (v0 - ((mm_ushr v0 1) &&& 1431655765)) 2) &&& 858993459)) 4)) &&& 252645135) 8)) + (mm_ushr ((((((v0 - ((mm_ushr v0 1) &&& 1431655765)) &&& 858993459) + ((mm_ushr (v0 - ((mm_ushr v0 1) &&& 1431655765)) 2) &&& 858993459)) + (mm_ushr (((v0 - ((mm_ushr v0 1) &&& 1431655765)) &&& 858993459) + ((mm_ushr (v0 - ((mm_ushr v0 1) &&& 1431655765)) 2) &&& 858993459)) 4)) &&& 252645135) + (mm_ushr (((((v0 - ((mm_ushr v0 1) &&& 1431655765)) &&& 858993459) + ((mm_ushr (v0 - ((mm_ushr v0 1) &&& 1431655765)) 2) &&& 858993459)) + (mm_ushr (((v0 - ((mm_ushr v0 1) &&& 1431655765)) &&& 858993459) + ((mm_ushr (v0 - ((mm_ushr v0 1) &&& 1431655765)) 2) &&& 858993459)) 4)) &&& 252645135) 8)) 16)) &&& 63)), h) := rfl
theorem e_Ji_bitCount (v0 : Int32) (h : mm_H) : f_Ji_bitCount [.int v0] h =
  some (some (.int ((((((((v0 - ((mm_ushr v0 1) &&& 1431655765)) &&& 858993459) + ((mm_ushr (v0 - ((mm_ushr v0 1) &&& 1431655765)) 2) &&& 858993459)) + (mm_ushr (((v0 - ((mm_ushr v0 1) &&& 1431655765)) &&& 858993459) + ((mm_ushr (v0 - ((mm_ushr v0 1) &&& 1431655765)) 2) &&& 858993459)) 4)) &&& 252645135) + (mm_ushr (((((v0 - ((mm_ushr v0 1) &&& 1431655765)) &&& 858993459) + ((mm_ushr (v0 - ((mm_ushr v0 1) &&& 1431655765)) 2) &&& 858993459)) + (mm_ushr (((v0 - ((mm_ushr v0 1) &&& 1431655765)) &&& 858993459) + ((mm_ushr (v0 - ((mm_ushr v0 1) &&& 1431655765)) 2) &&& 858993459)) 4)) &&& 252645135) 8)) + (mm_ushr ((((((v0 - ((mm_ushr v0 1) &&& 1431655765)) &&& 858993459) + ((mm_ushr (v0 - ((mm_ushr v0 1) &&& 1431655765)) 2) &&& 858993459)) + (mm_ushr (((v0 - ((mm_ushr v0 1) &&& 1431655765)) &&& 858993459) + ((mm_ushr (v0 - ((mm_ushr v0 1) &&& 1431655765)) 2) &&& 858993459)) 4)) &&& 252645135) + (mm_ushr (((((v0 - ((mm_ushr v0 1) &&& 1431655765)) &&& 858993459) + ((mm_ushr (v0 - ((mm_ushr v0 1) &&& 1431655765)) 2) &&& 858993459)) + (mm_ushr (((v0 - ((mm_ushr v0 1) &&& 1431655765)) &&& 858993459) + ((mm_ushr (v0 - ((mm_ushr v0 1) &&& 1431655765)) 2) &&& 858993459)) 4)) &&& 252645135) 8)) 16)) &&& 63)), h) := (mm_ga_is rfl).trans (e_Ji_bitCount_0 mm_fu v0 h)
set_option maxRecDepth 100000 in
theorem i_Ji_bitCount (l : Launch) : mm_Imp l yJ6_bitCount_0f7a4 cJ6_bitCount_0f7a4 1 (some .int) 1 f_Ji_bitCount := mm_imp l (P := p_Ji_bitCount) mm_cls_ok mm_sys_ok (by decide) (mm_Pok_of (fun _ h => absurd h List.not_mem_nil) (fun _ h => absurd h List.not_mem_nil) (List.forall_mem_cons.mpr ⟨q_1216, (List.forall_mem_cons.mpr ⟨q_1217, (List.forall_mem_cons.mpr ⟨q_1218, (fun _ h => absurd h List.not_mem_nil)⟩)⟩)⟩) (fun _ h => absurd h List.not_mem_nil)) (by decide +kernel) rfl (cats := [1]) (fun as h r e => ⟨(mm_ga_inv e).1, (mm_ga_inv e).2⟩) rfl (by decide)
theorem v_Ji_bitCount (l : Launch) {own : String} {i n0 : Nat} (hl : Cond.methodLink own i yJ6_bitCount_0f7a4 ∈ mm_tbl ∨ ∃ host, Cond.methodLinkNest own i yJ6_bitCount_0f7a4 host ∈ mm_nest) (hn : 2 ≤ n0) : mm_cok l own n0 i (1, 1, 1, f_Ji_bitCount) := Or.inr (Or.inl ⟨rfl, yJ6_bitCount_0f7a4, cJ6_bitCount_0f7a4, 1, (some .int), 1, i_Ji_bitCount l, hn, by decide, by decide +kernel, hl, q_1214, q_181, q_1215⟩)
def p_Lv_probeCost : mm_P := ([(0, .aload_n 0, 1, 0), (1, .invokevirtual 67, 3, 0), (4, .iconst 2, 1, 2), (5, .iadd, 1, 0), (6, .aload_n 0, 1, 0), (7, .invokevirtual 71, 3, 0), (10, .iload_n 1, 1, 0), (11, .iand, 1, 0), (12, .invokestatic 74, 3, 0), (15, .imul, 1, 0), (16, .ireturn, 1, 0)], [], [(67, 0, 0, 1, f_Lv_height), (71, 0, 0, 1, f_Lv_rowBits), (74, 1, 1, 1, f_Ji_bitCount)], [], [], [(0, [0, 1])], [], 2)
def f_Lv_probeCost : mm_F := fun args h => mm_ga [1, 1] args (mm_gd 2 args h (mm_run p_Lv_probeCost (mm_fu + 1) 0 args [] h))
set_option maxRecDepth 100000 in
theorem e_Lv_probeCost_0 (f : Nat) (t : Nat) (v1 : Int32) (h : mm_H) : mm_run p_Lv_probeCost (f + 1) 0 [.ref t, .int v1] [] h =
  mm_ci (f_Lv_height [.ref t] h) fun x2 h1 =>
  mm_ci (f_Lv_rowBits [.ref t] h1) fun x4 h3 =>
  mm_ci (f_Ji_bitCount [.int (x4 &&& v1)] h3) fun x6 h5 =>
  some (some (.int ((x2 + 2) * x6)), h5) := rfl
theorem e_Lv_probeCost (t : Nat) (v1 : Int32) (h : mm_H) {fs : List Value} (hb : h t = some (.inr (2, fs))) : f_Lv_probeCost [.ref t, .int v1] h =
  mm_ci (f_Lv_height [.ref t] h) fun x2 h1 =>
  mm_ci (f_Lv_rowBits [.ref t] h1) fun x4 h3 =>
  mm_ci (f_Ji_bitCount [.int (x4 &&& v1)] h3) fun x6 h5 =>
  some (some (.int ((x2 + 2) * x6)), h5) := (mm_ga_is rfl).trans ((mm_gd_is hb).trans (e_Lv_probeCost_0 mm_fu t v1 h))
set_option maxRecDepth 100000 in
theorem i_Lv_probeCost (l : Launch) : mm_Imp l yX2_probeCost cX2_probeCost 2 (some .int) 2 f_Lv_probeCost := mm_imp l (P := p_Lv_probeCost) mm_cls_ok mm_sys_ok (by decide) (mm_Pok_of (fun _ h => absurd h List.not_mem_nil) (List.forall_mem_cons.mpr ⟨v_Lv_height l q_1207 (by decide), (List.forall_mem_cons.mpr ⟨v_Lv_rowBits l q_1212 (by decide), (List.forall_mem_cons.mpr ⟨v_Ji_bitCount l (Or.inl q_1213) (by decide), (fun _ h => absurd h List.not_mem_nil)⟩)⟩)⟩) (fun _ h => absurd h List.not_mem_nil) (fun _ h => absurd h List.not_mem_nil)) (by decide +kernel) rfl (cats := [1, 1]) (fun as h r e => ⟨(mm_ga_inv e).1, (mm_gd_inv (mm_ga_inv e).2).1⟩) rfl (by decide)
theorem v_Lv_probeCost (l : Launch) {own : String} {i n0 : Nat} (hl : Cond.methodLink own i yX2_probeCost ∈ mm_tbl) (hn : 3 ≤ n0) : mm_cok l own n0 i (0, 1, 1, f_Lv_probeCost) := Or.inr (Or.inr ⟨rfl, yX2_probeCost, cX2_probeCost, 2, (some .int), 2, 2, TX2, 6, i_Lv_probeCost l, hn, by decide, by decide +kernel, rfl, fun _ _ _ e => (mm_gd_inv (mm_ga_inv e).2).2, hl, q_1209, q_1210, q_178, q_1211⟩)
def p_Lv_wayFor : mm_P := ([(0, .aload_n 0, 1, 0), (1, .iload_n 1, 1, 0), (2, .invokevirtual 79, 3, 0), (5, .aload_n 0, 1, 0), (6, .iload_n 1, 1, 0), (7, .invokevirtual 82, 3, 0), (10, .if_icmp .gt 7, 3, 0), (13, .iconst 0, 1, 0), (14, .goto 4, 3, 0), (17, .iconst 1, 1, 1), (18, .ireturn, 1, 0)], [], [(79, 0, 1, 1, f_Lv_passCost), (82, 0, 1, 1, f_Lv_probeCost)], [], [], [(0, [0, 1])], [], 2)
def f_Lv_wayFor : mm_F := fun args h => mm_ga [1, 1] args (mm_gd 2 args h (mm_run p_Lv_wayFor (mm_fu + 1) 0 args [] h))
set_option maxRecDepth 100000 in
theorem e_Lv_wayFor_0 (f : Nat) (t : Nat) (v1 : Int32) (h : mm_H) : mm_run p_Lv_wayFor (f + 1) 0 [.ref t, .int v1] [] h =
  mm_ci (f_Lv_passCost [.ref t, .int v1] h) fun x2 h1 =>
  mm_ci (f_Lv_probeCost [.ref t, .int v1] h1) fun x4 h3 =>
  if x4 < x2 then
    some (some (.int 1), h3)
  else
    some (some (.int 0), h3) := rfl
theorem e_Lv_wayFor (t : Nat) (v1 : Int32) (h : mm_H) {fs : List Value} (hb : h t = some (.inr (2, fs))) : f_Lv_wayFor [.ref t, .int v1] h =
  mm_ci (f_Lv_passCost [.ref t, .int v1] h) fun x2 h1 =>
  mm_ci (f_Lv_probeCost [.ref t, .int v1] h1) fun x4 h3 =>
  if x4 < x2 then
    some (some (.int 1), h3)
  else
    some (some (.int 0), h3) := (mm_ga_is rfl).trans ((mm_gd_is hb).trans (e_Lv_wayFor_0 mm_fu t v1 h))
set_option maxRecDepth 100000 in
theorem i_Lv_wayFor (l : Launch) : mm_Imp l yX2_wayFor cX2_wayFor 2 (some .int) 3 f_Lv_wayFor := mm_imp l (P := p_Lv_wayFor) mm_cls_ok mm_sys_ok (by decide) (mm_Pok_of (fun _ h => absurd h List.not_mem_nil) (List.forall_mem_cons.mpr ⟨v_Lv_passCost l q_1292 (by decide), (List.forall_mem_cons.mpr ⟨v_Lv_probeCost l q_1293 (by decide), (fun _ h => absurd h List.not_mem_nil)⟩)⟩) (fun _ h => absurd h List.not_mem_nil) (fun _ h => absurd h List.not_mem_nil)) (by decide +kernel) rfl (cats := [1, 1]) (fun as h r e => ⟨(mm_ga_inv e).1, (mm_gd_inv (mm_ga_inv e).2).1⟩) rfl (by decide)
theorem v_Lv_wayFor (l : Launch) {own : String} {i n0 : Nat} (hl : Cond.methodLink own i yX2_wayFor ∈ mm_tbl) (hn : 4 ≤ n0) : mm_cok l own n0 i (0, 1, 1, f_Lv_wayFor) := Or.inr (Or.inr ⟨rfl, yX2_wayFor, cX2_wayFor, 2, (some .int), 3, 2, TX2, 6, i_Lv_wayFor l, hn, by decide, by decide +kernel, rfl, fun _ _ _ e => (mm_gd_inv (mm_ga_inv e).2).2, hl, q_1444, q_1445, q_178, q_1446⟩)
def p_Lv_costOf : mm_P := ([(0, .iload_n 1, 1, 0), (1, .ifCond .ne 11, 3, 0), (4, .aload_n 0, 1, 0), (5, .iload_n 2, 1, 0), (6, .invokevirtual 79, 3, 0), (9, .goto 8, 3, 0), (12, .aload_n 0, 1, 0), (13, .iload_n 2, 1, 0), (14, .invokevirtual 82, 3, 0), (17, .ireturn, 1, 0)], [], [(79, 0, 1, 1, f_Lv_passCost), (82, 0, 1, 1, f_Lv_probeCost)], [], [], [(0, [0, 1, 2])], [], 2)
def f_Lv_costOf : mm_F := fun args h => mm_ga [1, 1, 1] args (mm_gd 2 args h (mm_run p_Lv_costOf (mm_fu + 1) 0 args [] h))
set_option maxRecDepth 100000 in
theorem e_Lv_costOf_0 (f : Nat) (t : Nat) (v1 : Int32) (v2 : Int32) (h : mm_H) : mm_run p_Lv_costOf (f + 1) 0 [.ref t, .int v1, .int v2] [] h =
  if v1 = 0 then
    mm_ci (f_Lv_passCost [.ref t, .int v2] h) fun x2 h1 =>
    some (some (.int x2), h1)
  else
    mm_ci (f_Lv_probeCost [.ref t, .int v2] h) fun x4 h3 =>
    some (some (.int x4), h3) := rfl
theorem e_Lv_costOf (t : Nat) (v1 : Int32) (v2 : Int32) (h : mm_H) {fs : List Value} (hb : h t = some (.inr (2, fs))) : f_Lv_costOf [.ref t, .int v1, .int v2] h =
  if v1 = 0 then
    mm_ci (f_Lv_passCost [.ref t, .int v2] h) fun x2 h1 =>
    some (some (.int x2), h1)
  else
    mm_ci (f_Lv_probeCost [.ref t, .int v2] h) fun x4 h3 =>
    some (some (.int x4), h3) := (mm_ga_is rfl).trans ((mm_gd_is hb).trans (e_Lv_costOf_0 mm_fu t v1 v2 h))
set_option maxRecDepth 100000 in
theorem i_Lv_costOf (l : Launch) : mm_Imp l yX2_costOf cX2_costOf 3 (some .int) 3 f_Lv_costOf := mm_imp l (P := p_Lv_costOf) mm_cls_ok mm_sys_ok (by decide) (mm_Pok_of (fun _ h => absurd h List.not_mem_nil) (List.forall_mem_cons.mpr ⟨v_Lv_passCost l q_1292 (by decide), (List.forall_mem_cons.mpr ⟨v_Lv_probeCost l q_1293 (by decide), (fun _ h => absurd h List.not_mem_nil)⟩)⟩) (fun _ h => absurd h List.not_mem_nil) (fun _ h => absurd h List.not_mem_nil)) (by decide +kernel) rfl (cats := [1, 1, 1]) (fun as h r e => ⟨(mm_ga_inv e).1, (mm_gd_inv (mm_ga_inv e).2).1⟩) rfl (by decide)
theorem v_Lv_costOf (l : Launch) {own : String} {i n0 : Nat} (hl : Cond.methodLink own i yX2_costOf ∈ mm_tbl) (hn : 4 ≤ n0) : mm_cok l own n0 i (0, 2, 1, f_Lv_costOf) := Or.inr (Or.inr ⟨rfl, yX2_costOf, cX2_costOf, 3, (some .int), 3, 2, TX2, 6, i_Lv_costOf l, hn, by decide, by decide +kernel, rfl, fun _ _ _ e => (mm_gd_inv (mm_ga_inv e).2).2, hl, q_1289, q_1290, q_178, q_1291⟩)
def p_Lv_leftAt : mm_P := ([(0, .aload_n 0, 1, 0), (1, .invokevirtual 71, 3, 0), (4, .iload_n 2, 1, 0), (5, .iand, 1, 0), (6, .istore 4, 2, 0), (8, .iconst 0, 1, 0), (9, .istore 5, 2, 0), (11, .iload_n 3, 1, 0), (12, .ifCond .ne 10, 3, 0), (15, .aload_n 0, 1, 0), (16, .getfield 18, 3, 0), (19, .goto 5, 3, 0), (22, .bipush 30, 2, 30), (24, .istore 6, 2, 0), (26, .iconst 0, 1, 0), (27, .istore 7, 2, 0), (29, .iload 7, 2, 0), (31, .iload 6, 2, 0), (33, .if_icmp .ge 52, 3, 0), (36, .iload_n 3, 1, 0), (37, .ifCond .ne 16, 3, 0), (40, .aload_n 0, 1, 0), (41, .getfield 9, 3, 0), (44, .iload 7, 2, 0), (46, .iaload, 1, 0), (47, .invokestatic 61, 3, 0), (50, .goto 5, 3, 0), (53, .iload 7, 2, 0), (55, .istore 8, 2, 0), (57, .iload 4, 2, 0), (59, .iload 8, 2, 0), (61, .ishr, 1, 0), (62, .iconst 1, 1, 1), (63, .iand, 1, 0), (64, .ifCond .eq 15, 3, 0), (67, .iload 5, 2, 0), (69, .iload_n 1, 1, 0), (70, .if_icmp .ne 6, 3, 0), (73, .iload 8, 2, 0), (75, .ireturn, 1, 0), (76, .iinc 5 1, 3, 1), (79, .iinc 7 1, 3, 1), (82, .goto (-53), 3, 0), (85, .iconst (-1), 1, (-1)), (86, .ireturn, 1, 0)], [(9, 2, 0, 4), (18, 2, 2, 0)], [(61, 1, 1, 1, f_Lv_rowIn), (71, 0, 0, 1, f_Lv_rowBits)], [], [], [(0, [0, 1, 2, 3]), (29, [0, 1, 3, 4, 5, 6, 7])], [], 2)
def f_Lv_leftAt : mm_F := fun args h => mm_ga [1, 1, 1, 1] args (mm_gd 2 args h (mm_run p_Lv_leftAt (mm_fu + 1) 0 args [] h))
set_option maxRecDepth 100000 in
theorem e_Lv_leftAt_0 (f : Nat) (t : Nat) (v1 : Int32) (v2 : Int32) (v3 : Int32) (h : mm_H) : mm_run p_Lv_leftAt (f + 1) 0 [.ref t, .int v1, .int v2, .int v3] [] h =
  mm_ci (f_Lv_rowBits [.ref t] h) fun x2 h1 =>
  if v3 = 0 then
    (mm_gi 2 2 h1 t).bind fun x3 =>
    mm_run p_Lv_leftAt f 29 [.ref t, .int v1, .int v3, .int (x2 &&& v2), .int 0, .int x3, .int 0] [] h1
  else
    mm_run p_Lv_leftAt f 29 [.ref t, .int v1, .int v3, .int (x2 &&& v2), .int 0, .int 30, .int 0] [] h1 := rfl
theorem e_Lv_leftAt (t : Nat) (v1 : Int32) (v2 : Int32) (v3 : Int32) (h : mm_H) {fs : List Value} (hb : h t = some (.inr (2, fs))) : f_Lv_leftAt [.ref t, .int v1, .int v2, .int v3] h =
  mm_ci (f_Lv_rowBits [.ref t] h) fun x2 h1 =>
  if v3 = 0 then
    (mm_gi 2 2 h1 t).bind fun x3 =>
    mm_run p_Lv_leftAt mm_fu 29 [.ref t, .int v1, .int v3, .int (x2 &&& v2), .int 0, .int x3, .int 0] [] h1
  else
    mm_run p_Lv_leftAt mm_fu 29 [.ref t, .int v1, .int v3, .int (x2 &&& v2), .int 0, .int 30, .int 0] [] h1 := (mm_ga_is rfl).trans ((mm_gd_is hb).trans (e_Lv_leftAt_0 mm_fu t v1 v2 v3 h))
set_option maxRecDepth 100000 in
theorem e_Lv_leftAt_29 (f : Nat) (t : Nat) (v1 : Int32) (v3 : Int32) (v4 : Int32) (v5 : Int32) (v6 : Int32) (v7 : Int32) (h : mm_H) : mm_run p_Lv_leftAt (f + 1) 29 [.ref t, .int v1, .int v3, .int v4, .int v5, .int v6, .int v7] [] h =
  if v7 < v6 then
    if v3 = 0 then
      (mm_gr 2 0 h t).bind fun r1 =>
      (mm_li h r1 v7).bind fun x2 =>
      mm_ci (f_Lv_rowIn [.int x2] h) fun x4 h3 =>
      if ((v4 >>> (x4 &&& 31)) &&& 1) = 0 then
        mm_run p_Lv_leftAt f 29 [.ref t, .int v1, .int v3, .int v4, .int v5, .int v6, .int (v7 + 1)] [] h3
      else
        if v5 = v1 then
          some (some (.int x4), h3)
        else
          mm_run p_Lv_leftAt f 29 [.ref t, .int v1, .int v3, .int v4, .int (v5 + 1), .int v6, .int (v7 + 1)] [] h3
    else
      if ((v4 >>> (v7 &&& 31)) &&& 1) = 0 then
        mm_run p_Lv_leftAt f 29 [.ref t, .int v1, .int v3, .int v4, .int v5, .int v6, .int (v7 + 1)] [] h
      else
        if v5 = v1 then
          some (some (.int v7), h)
        else
          mm_run p_Lv_leftAt f 29 [.ref t, .int v1, .int v3, .int v4, .int (v5 + 1), .int v6, .int (v7 + 1)] [] h
  else
    some (some (.int (-1)), h) := rfl
set_option maxRecDepth 100000 in
theorem i_Lv_leftAt (l : Launch) : mm_Imp l yX2_leftAt cX2_leftAt 9 (some .int) 2 f_Lv_leftAt := mm_imp l (P := p_Lv_leftAt) mm_cls_ok mm_sys_ok (by decide) (mm_Pok_of (List.forall_mem_cons.mpr ⟨k_X2_9, (List.forall_mem_cons.mpr ⟨k_X2_18, (fun _ h => absurd h List.not_mem_nil)⟩)⟩) (List.forall_mem_cons.mpr ⟨v_Lv_rowIn l (Or.inl q_994) (by decide), (List.forall_mem_cons.mpr ⟨v_Lv_rowBits l q_1212 (by decide), (fun _ h => absurd h List.not_mem_nil)⟩)⟩) (fun _ h => absurd h List.not_mem_nil) (fun _ h => absurd h List.not_mem_nil)) (by decide +kernel) rfl (cats := [1, 1, 1, 1]) (fun as h r e => ⟨(mm_ga_inv e).1, (mm_gd_inv (mm_ga_inv e).2).1⟩) rfl (by decide)
theorem v_Lv_leftAt (l : Launch) {own : String} {i n0 : Nat} (hl : Cond.methodLink own i yX2_leftAt ∈ mm_tbl) (hn : 3 ≤ n0) : mm_cok l own n0 i (0, 3, 1, f_Lv_leftAt) := Or.inr (Or.inr ⟨rfl, yX2_leftAt, cX2_leftAt, 9, (some .int), 2, 2, TX2, 6, i_Lv_leftAt l, hn, by decide, by decide +kernel, rfl, fun _ _ _ e => (mm_gd_inv (mm_ga_inv e).2).2, hl, q_1240, q_1241, q_178, q_1242⟩)
def p_Ln_keep : mm_P := ([(0, .aload_n 0, 1, 0), (1, .getfield 15, 3, 0), (4, .iload_n 1, 1, 0), (5, .iconst 3, 1, 3), (6, .imul, 1, 0), (7, .iload_n 2, 1, 0), (8, .iadd, 1, 0), (9, .iload_n 3, 1, 0), (10, .iastore, 1, 0), (11, .iconst 1, 1, 1), (12, .ireturn, 1, 0)], [(15, 3, 1, 4)], [], [], [], [(0, [0, 1, 2, 3])], [], 1)
def f_Ln_keep : mm_F := fun args h => mm_ga [1, 1, 1, 1] args (mm_gd 3 args h (mm_run p_Ln_keep (mm_fu + 1) 0 args [] h))
set_option maxRecDepth 100000 in
theorem e_Ln_keep_0 (f : Nat) (t : Nat) (v1 : Int32) (v2 : Int32) (v3 : Int32) (h : mm_H) : mm_run p_Ln_keep (f + 1) 0 [.ref t, .int v1, .int v2, .int v3] [] h =
  (mm_gr 3 1 h t).bind fun r1 =>
  (mm_si h r1 ((v1 * 3) + v2) v3).bind fun h2 =>
  some (some (.int 1), h2) := rfl
theorem e_Ln_keep (t : Nat) (v1 : Int32) (v2 : Int32) (v3 : Int32) (h : mm_H) {fs : List Value} (hb : h t = some (.inr (3, fs))) : f_Ln_keep [.ref t, .int v1, .int v2, .int v3] h =
  (mm_gr 3 1 h t).bind fun r1 =>
  (mm_si h r1 ((v1 * 3) + v2) v3).bind fun h2 =>
  some (some (.int 1), h2) := (mm_ga_is rfl).trans ((mm_gd_is hb).trans (e_Ln_keep_0 mm_fu t v1 v2 v3 h))
set_option maxRecDepth 100000 in
theorem i_Ln_keep (l : Launch) : mm_Imp l yX3_keep cX3_keep 4 (some .boolean) 1 f_Ln_keep := mm_imp l (P := p_Ln_keep) mm_cls_ok mm_sys_ok (by decide) (mm_Pok_of (List.forall_mem_cons.mpr ⟨k_X3_15, (fun _ h => absurd h List.not_mem_nil)⟩) (fun _ h => absurd h List.not_mem_nil) (fun _ h => absurd h List.not_mem_nil) (fun _ h => absurd h List.not_mem_nil)) (by decide +kernel) rfl (cats := [1, 1, 1, 1]) (fun as h r e => ⟨(mm_ga_inv e).1, (mm_gd_inv (mm_ga_inv e).2).1⟩) rfl (by decide)
theorem v_Ln_keep (l : Launch) {own : String} {i n0 : Nat} (hl : Cond.methodLink own i yX3_keep ∈ mm_tbl) (hn : 2 ≤ n0) : mm_cok l own n0 i (0, 3, 1, f_Ln_keep) := Or.inr (Or.inr ⟨rfl, yX3_keep, cX3_keep, 4, (some .boolean), 1, 3, TX3, 3, i_Ln_keep l, hn, by decide, by decide +kernel, rfl, fun _ _ _ e => (mm_gd_inv (mm_ga_inv e).2).2, hl, q_949, q_950, q_172, q_951⟩)
def p_Ls_isValue : mm_P := ([(0, .iload_n 0, 1, 0), (1, .ifCond .lt 14, 3, 0), (4, .iload_n 0, 1, 0), (5, .sipush 999, 3, 999), (8, .if_icmp .gt 7, 3, 0), (11, .iconst 1, 1, 1), (12, .goto 4, 3, 0), (15, .iconst 0, 1, 0), (16, .ireturn, 1, 0)], [], [], [], [], [(0, [0])], [], 1)
def f_Ls_isValue : mm_F := fun args h => mm_ga [1] args (mm_run p_Ls_isValue (mm_fu + 1) 0 args [] h)
set_option maxRecDepth 100000 in
theorem e_Ls_isValue_0 (f : Nat) (v0 : Int32) (h : mm_H) : mm_run p_Ls_isValue (f + 1) 0 [.int v0] [] h =
  if v0 < 0 then
    some (some (.int 0), h)
  else
    if (999 : Int32) < v0 then
      some (some (.int 0), h)
    else
      some (some (.int 1), h) := rfl
theorem e_Ls_isValue (v0 : Int32) (h : mm_H) : f_Ls_isValue [.int v0] h =
  if v0 < 0 then
    some (some (.int 0), h)
  else
    if (999 : Int32) < v0 then
      some (some (.int 0), h)
    else
      some (some (.int 1), h) := (mm_ga_is rfl).trans (e_Ls_isValue_0 mm_fu v0 h)
set_option maxRecDepth 100000 in
theorem i_Ls_isValue (l : Launch) : mm_Imp l yX11_isValue cX11_isValue 1 (some .boolean) 1 f_Ls_isValue := mm_imp l (P := p_Ls_isValue) mm_cls_ok mm_sys_ok (by decide) (mm_Pok_of (fun _ h => absurd h List.not_mem_nil) (fun _ h => absurd h List.not_mem_nil) (fun _ h => absurd h List.not_mem_nil) (fun _ h => absurd h List.not_mem_nil)) (by decide +kernel) rfl (cats := [1]) (fun as h r e => ⟨(mm_ga_inv e).1, (mm_ga_inv e).2⟩) rfl (by decide)
theorem v_Ls_isValue (l : Launch) {own : String} {i n0 : Nat} (hl : Cond.methodLink own i yX11_isValue ∈ mm_tbl ∨ ∃ host, Cond.methodLinkNest own i yX11_isValue host ∈ mm_nest) (hn : 2 ≤ n0) : mm_cok l own n0 i (1, 1, 1, f_Ls_isValue) := Or.inr (Or.inl ⟨rfl, yX11_isValue, cX11_isValue, 1, (some .boolean), 1, i_Ls_isValue l, hn, by decide, by decide +kernel, hl, q_1044, q_163, q_1045⟩)
def p_Ls_areValues : mm_P := ([(0, .iload_n 0, 1, 0), (1, .invokestatic 414, 3, 0), (4, .ifCond .eq 21, 3, 0), (7, .iload_n 1, 1, 0), (8, .invokestatic 414, 3, 0), (11, .ifCond .eq 14, 3, 0), (14, .iload_n 2, 1, 0), (15, .invokestatic 414, 3, 0), (18, .ifCond .eq 7, 3, 0), (21, .iconst 1, 1, 1), (22, .goto 4, 3, 0), (25, .iconst 0, 1, 0), (26, .ireturn, 1, 0)], [], [(414, 1, 1, 1, f_Ls_isValue)], [], [], [(0, [0, 1, 2])], [], 1)
def f_Ls_areValues : mm_F := fun args h => mm_ga [1, 1, 1] args (mm_run p_Ls_areValues (mm_fu + 1) 0 args [] h)
set_option maxRecDepth 100000 in
theorem e_Ls_areValues_0 (f : Nat) (v0 : Int32) (v1 : Int32) (v2 : Int32) (h : mm_H) : mm_run p_Ls_areValues (f + 1) 0 [.int v0, .int v1, .int v2] [] h =
  mm_ci (f_Ls_isValue [.int v0] h) fun x2 h1 =>
  if x2 = 0 then
    some (some (.int 0), h1)
  else
    mm_ci (f_Ls_isValue [.int v1] h1) fun x4 h3 =>
    if x4 = 0 then
      some (some (.int 0), h3)
    else
      mm_ci (f_Ls_isValue [.int v2] h3) fun x6 h5 =>
      if x6 = 0 then
        some (some (.int 0), h5)
      else
        some (some (.int 1), h5) := rfl
theorem e_Ls_areValues (v0 : Int32) (v1 : Int32) (v2 : Int32) (h : mm_H) : f_Ls_areValues [.int v0, .int v1, .int v2] h =
  mm_ci (f_Ls_isValue [.int v0] h) fun x2 h1 =>
  if x2 = 0 then
    some (some (.int 0), h1)
  else
    mm_ci (f_Ls_isValue [.int v1] h1) fun x4 h3 =>
    if x4 = 0 then
      some (some (.int 0), h3)
    else
      mm_ci (f_Ls_isValue [.int v2] h3) fun x6 h5 =>
      if x6 = 0 then
        some (some (.int 0), h5)
      else
        some (some (.int 1), h5) := (mm_ga_is rfl).trans (e_Ls_areValues_0 mm_fu v0 v1 v2 h)
set_option maxRecDepth 100000 in
theorem i_Ls_areValues (l : Launch) : mm_Imp l yX11_areValues cX11_areValues 3 (some .boolean) 2 f_Ls_areValues := mm_imp l (P := p_Ls_areValues) mm_cls_ok mm_sys_ok (by decide) (mm_Pok_of (fun _ h => absurd h List.not_mem_nil) (List.forall_mem_cons.mpr ⟨v_Ls_isValue l (Or.inl q_1043) (by decide), (fun _ h => absurd h List.not_mem_nil)⟩) (fun _ h => absurd h List.not_mem_nil) (fun _ h => absurd h List.not_mem_nil)) (by decide +kernel) rfl (cats := [1, 1, 1]) (fun as h r e => ⟨(mm_ga_inv e).1, (mm_ga_inv e).2⟩) rfl (by decide)
theorem v_Ls_areValues (l : Launch) {own : String} {i n0 : Nat} (hl : Cond.methodLink own i yX11_areValues ∈ mm_tbl ∨ ∃ host, Cond.methodLinkNest own i yX11_areValues host ∈ mm_nest) (hn : 3 ≤ n0) : mm_cok l own n0 i (1, 3, 1, f_Ls_areValues) := Or.inr (Or.inl ⟨rfl, yX11_areValues, cX11_areValues, 3, (some .boolean), 2, i_Ls_areValues l, hn, by decide, by decide +kernel, hl, q_1041, q_163, q_1042⟩)
def p_St_isOnceOn : mm_P := ([(0, .aload_n 0, 1, 0), (1, .getfield 49, 3, 0), (4, .getfield 90, 3, 0), (7, .iload_n 1, 1, 0), (8, .iaload, 1, 0), (9, .iconst 2, 1, 2), (10, .if_icmp .ne 20, 3, 0), (13, .aload_n 0, 1, 0), (14, .getfield 49, 3, 0), (17, .getfield 144, 3, 0), (20, .iload_n 1, 1, 0), (21, .iaload, 1, 0), (22, .iload_n 2, 1, 0), (23, .if_icmp .ne 7, 3, 0), (26, .iconst 1, 1, 1), (27, .goto 4, 3, 0), (30, .iconst 0, 1, 0), (31, .ireturn, 1, 0)], [(49, 8, 6, 2), (90, 4, 0, 4), (144, 4, 1, 4)], [], [], [], [(0, [0, 1, 2])], [], 1)
def f_St_isOnceOn : mm_F := fun args h => mm_ga [1, 1, 1] args (mm_gd 8 args h (mm_run p_St_isOnceOn (mm_fu + 1) 0 args [] h))
set_option maxRecDepth 100000 in
theorem e_St_isOnceOn_0 (f : Nat) (t : Nat) (v1 : Int32) (v2 : Int32) (h : mm_H) : mm_run p_St_isOnceOn (f + 1) 0 [.ref t, .int v1, .int v2] [] h =
  (mm_gr 8 6 h t).bind fun r1 =>
  (mm_gr 4 0 h r1).bind fun r2 =>
  (mm_li h r2 v1).bind fun x3 =>
  if x3 = 2 then
    (mm_gr 8 6 h t).bind fun r4 =>
    (mm_gr 4 1 h r4).bind fun r5 =>
    (mm_li h r5 v1).bind fun x6 =>
    if x6 = v2 then
      some (some (.int 1), h)
    else
      some (some (.int 0), h)
  else
    some (some (.int 0), h) := rfl
theorem e_St_isOnceOn (t : Nat) (v1 : Int32) (v2 : Int32) (h : mm_H) {fs : List Value} (hb : h t = some (.inr (8, fs))) : f_St_isOnceOn [.ref t, .int v1, .int v2] h =
  (mm_gr 8 6 h t).bind fun r1 =>
  (mm_gr 4 0 h r1).bind fun r2 =>
  (mm_li h r2 v1).bind fun x3 =>
  if x3 = 2 then
    (mm_gr 8 6 h t).bind fun r4 =>
    (mm_gr 4 1 h r4).bind fun r5 =>
    (mm_li h r5 v1).bind fun x6 =>
    if x6 = v2 then
      some (some (.int 1), h)
    else
      some (some (.int 0), h)
  else
    some (some (.int 0), h) := (mm_ga_is rfl).trans ((mm_gd_is hb).trans (e_St_isOnceOn_0 mm_fu t v1 v2 h))
set_option maxRecDepth 100000 in
theorem i_St_isOnceOn (l : Launch) : mm_Imp l yX8_isOnceOn cX8_isOnceOn 3 (some .boolean) 1 f_St_isOnceOn := mm_imp l (P := p_St_isOnceOn) mm_cls_ok mm_sys_ok (by decide) (mm_Pok_of (List.forall_mem_cons.mpr ⟨k_X8_49, (List.forall_mem_cons.mpr ⟨k_X8_90, (List.forall_mem_cons.mpr ⟨k_X8_144, (fun _ h => absurd h List.not_mem_nil)⟩)⟩)⟩) (fun _ h => absurd h List.not_mem_nil) (fun _ h => absurd h List.not_mem_nil) (fun _ h => absurd h List.not_mem_nil)) (by decide +kernel) rfl (cats := [1, 1, 1]) (fun as h r e => ⟨(mm_ga_inv e).1, (mm_gd_inv (mm_ga_inv e).2).1⟩) rfl (by decide)
theorem v_St_isOnceOn (l : Launch) {own : String} {i n0 : Nat} (hl : Cond.methodLink own i yX8_isOnceOn ∈ mm_tbl) (hn : 2 ≤ n0) : mm_cok l own n0 i (0, 2, 1, f_St_isOnceOn) := Or.inr (Or.inr ⟨rfl, yX8_isOnceOn, cX8_isOnceOn, 3, (some .boolean), 1, 8, TX8, 9, i_St_isOnceOn l, hn, by decide, by decide +kernel, rfl, fun _ _ _ e => (mm_gd_inv (mm_ga_inv e).2).2, hl, q_1052, q_29, q_174, q_1053⟩)
def p_Rw_having : mm_P := ([(0, .iconst 0, 1, 0), (1, .istore_n 3, 1, 0), (2, .iload_n 1, 1, 0), (3, .ifCond .lt 8, 3, 0), (6, .iload_n 1, 1, 0), (7, .iconst 3, 1, 3), (8, .if_icmp .lt 5, 3, 0), (11, .iload_n 3, 1, 0), (12, .ireturn, 1, 0), (13, .iconst 0, 1, 0), (14, .istore 4, 2, 0), (16, .iload 4, 2, 0), (18, .aload_n 0, 1, 0), (19, .getfield 15, 3, 0), (22, .if_icmp .ge 38, 3, 0), (25, .iload 4, 2, 0), (27, .bipush 30, 2, 30), (29, .if_icmp .ge 31, 3, 0), (32, .aload_n 0, 1, 0), (33, .getfield 9, 3, 0), (36, .iload 4, 2, 0), (38, .iconst 3, 1, 3), (39, .imul, 1, 0), (40, .iload_n 1, 1, 0), (41, .iadd, 1, 0), (42, .iaload, 1, 0), (43, .iload_n 2, 1, 0), (44, .if_icmp .ne 10, 3, 0), (47, .iload_n 3, 1, 0), (48, .iconst 1, 1, 1), (49, .iload 4, 2, 0), (51, .ishl, 1, 0), (52, .ior, 1, 0), (53, .istore_n 3, 1, 0), (54, .iinc 4 1, 3, 1), (57, .goto (-41), 3, 0), (60, .iload_n 3, 1, 0), (61, .aload_n 0, 1, 0), (62, .getfield 19, 3, 0), (65, .iand, 1, 0), (66, .aload_n 0, 1, 0), (67, .getfield 22, 3, 0), (70, .iconst (-1), 1, (-1)), (71, .ixor, 1, 0), (72, .iand, 1, 0), (73, .ireturn, 1, 0)], [(9, 7, 0, 4), (15, 7, 1, 0), (19, 7, 2, 0), (22, 7, 3, 0)], [], [], [], [(0, [0, 1, 2]), (16, [0, 1, 2, 3, 4])], [], 2)
def f_Rw_having : mm_F := fun args h => mm_ga [1, 1, 1] args (mm_gd 7 args h (mm_run p_Rw_having (mm_fu + 1) 0 args [] h))
set_option maxRecDepth 100000 in
theorem e_Rw_having_0 (f : Nat) (t : Nat) (v1 : Int32) (v2 : Int32) (h : mm_H) : mm_run p_Rw_having (f + 1) 0 [.ref t, .int v1, .int v2] [] h =
  if v1 < 0 then
    some (some (.int 0), h)
  else
    if v1 < 3 then
      mm_run p_Rw_having f 16 [.ref t, .int v1, .int v2, .int 0, .int 0] [] h
    else
      some (some (.int 0), h) := rfl
theorem e_Rw_having (t : Nat) (v1 : Int32) (v2 : Int32) (h : mm_H) {fs : List Value} (hb : h t = some (.inr (7, fs))) : f_Rw_having [.ref t, .int v1, .int v2] h =
  if v1 < 0 then
    some (some (.int 0), h)
  else
    if v1 < 3 then
      mm_run p_Rw_having mm_fu 16 [.ref t, .int v1, .int v2, .int 0, .int 0] [] h
    else
      some (some (.int 0), h) := (mm_ga_is rfl).trans ((mm_gd_is hb).trans (e_Rw_having_0 mm_fu t v1 v2 h))
set_option maxRecDepth 100000 in
theorem e_Rw_having_16 (f : Nat) (t : Nat) (v1 : Int32) (v2 : Int32) (v3 : Int32) (v4 : Int32) (h : mm_H) : mm_run p_Rw_having (f + 1) 16 [.ref t, .int v1, .int v2, .int v3, .int v4] [] h =
  (mm_gi 7 1 h t).bind fun x1 =>
  if v4 < x1 then
    if v4 < 30 then
      (mm_gr 7 0 h t).bind fun r2 =>
      (mm_li h r2 ((v4 * 3) + v1)).bind fun x3 =>
      if x3 = v2 then
        mm_run p_Rw_having f 16 [.ref t, .int v1, .int v2, .int (v3 ||| (1 <<< (v4 &&& 31))), .int (v4 + 1)] [] h
      else
        mm_run p_Rw_having f 16 [.ref t, .int v1, .int v2, .int v3, .int (v4 + 1)] [] h
    else
      (mm_gi 7 2 h t).bind fun x4 =>
      (mm_gi 7 3 h t).bind fun x5 =>
      some (some (.int ((v3 &&& x4) &&& (x5 ^^^ (-1)))), h)
  else
    (mm_gi 7 2 h t).bind fun x6 =>
    (mm_gi 7 3 h t).bind fun x7 =>
    some (some (.int ((v3 &&& x6) &&& (x7 ^^^ (-1)))), h) := rfl
set_option maxRecDepth 100000 in
theorem i_Rw_having (l : Launch) : mm_Imp l yX7_having cX7_having 5 (some .int) 1 f_Rw_having := mm_imp l (P := p_Rw_having) mm_cls_ok mm_sys_ok (by decide) (mm_Pok_of (List.forall_mem_cons.mpr ⟨k_X7_9, (List.forall_mem_cons.mpr ⟨k_X7_15, (List.forall_mem_cons.mpr ⟨k_X7_19, (List.forall_mem_cons.mpr ⟨k_X7_22, (fun _ h => absurd h List.not_mem_nil)⟩)⟩)⟩)⟩) (fun _ h => absurd h List.not_mem_nil) (fun _ h => absurd h List.not_mem_nil) (fun _ h => absurd h List.not_mem_nil)) (by decide +kernel) rfl (cats := [1, 1, 1]) (fun as h r e => ⟨(mm_ga_inv e).1, (mm_gd_inv (mm_ga_inv e).2).1⟩) rfl (by decide)
theorem v_Rw_having (l : Launch) {own : String} {i n0 : Nat} (hl : Cond.methodLink own i yX7_having ∈ mm_tbl) (hn : 2 ≤ n0) : mm_cok l own n0 i (0, 2, 1, f_Rw_having) := Or.inr (Or.inr ⟨rfl, yX7_having, cX7_having, 5, (some .int), 1, 7, TX7, 4, i_Rw_having l, hn, by decide, by decide +kernel, rfl, fun _ _ _ e => (mm_gd_inv (mm_ga_inv e).2).2, hl, q_892, q_893, q_175, q_894⟩)
def p_St_onceClashes : mm_P := ([(0, .iconst 0, 1, 0), (1, .istore_n 3, 1, 0), (2, .iconst 0, 1, 0), (3, .istore 4, 2, 0), (5, .iload 4, 2, 0), (7, .aload_n 0, 1, 0), (8, .getfield 49, 3, 0), (11, .getfield 134, 3, 0), (14, .if_icmp .ge 38, 3, 0), (17, .aload_n 0, 1, 0), (18, .iload 4, 2, 0), (20, .iload_n 1, 1, 0), (21, .invokevirtual 222, 3, 0), (24, .ifCond .eq 22, 3, 0), (27, .aload_n 0, 1, 0), (28, .getfield 12, 3, 0), (31, .iload_n 1, 1, 0), (32, .iload_n 2, 1, 0), (33, .invokevirtual 219, 3, 0), (36, .ifCond .eq 10, 3, 0), (39, .iload_n 3, 1, 0), (40, .iconst 1, 1, 1), (41, .iload 4, 2, 0), (43, .ishl, 1, 0), (44, .ior, 1, 0), (45, .istore_n 3, 1, 0), (46, .iinc 4 1, 3, 1), (49, .goto (-44), 3, 0), (52, .iload_n 3, 1, 0), (53, .ireturn, 1, 0)], [(12, 8, 0, 4), (49, 8, 6, 2), (134, 4, 10, 0)], [(219, 0, 2, 1, f_Rw_having), (222, 0, 2, 1, f_St_isOnceOn)], [], [], [(0, [0, 1, 2]), (5, [0, 1, 2, 3, 4])], [], 2)
def f_St_onceClashes : mm_F := fun args h => mm_ga [1, 1, 1] args (mm_gd 8 args h (mm_run p_St_onceClashes (mm_fu + 1) 0 args [] h))
set_option maxRecDepth 100000 in
theorem e_St_onceClashes_0 (f : Nat) (t : Nat) (v1 : Int32) (v2 : Int32) (h : mm_H) : mm_run p_St_onceClashes (f + 1) 0 [.ref t, .int v1, .int v2] [] h =
  mm_run p_St_onceClashes f 5 [.ref t, .int v1, .int v2, .int 0, .int 0] [] h := rfl
theorem e_St_onceClashes (t : Nat) (v1 : Int32) (v2 : Int32) (h : mm_H) {fs : List Value} (hb : h t = some (.inr (8, fs))) : f_St_onceClashes [.ref t, .int v1, .int v2] h =
  mm_run p_St_onceClashes mm_fu 5 [.ref t, .int v1, .int v2, .int 0, .int 0] [] h := (mm_ga_is rfl).trans ((mm_gd_is hb).trans (e_St_onceClashes_0 mm_fu t v1 v2 h))
set_option maxRecDepth 100000 in
theorem e_St_onceClashes_5 (f : Nat) (t : Nat) (v1 : Int32) (v2 : Int32) (v3 : Int32) (v4 : Int32) (h : mm_H) : mm_run p_St_onceClashes (f + 1) 5 [.ref t, .int v1, .int v2, .int v3, .int v4] [] h =
  (mm_gr 8 6 h t).bind fun r1 =>
  (mm_gi 4 10 h r1).bind fun x2 =>
  if v4 < x2 then
    mm_ci (f_St_isOnceOn [.ref t, .int v4, .int v1] h) fun x4 h3 =>
    if x4 = 0 then
      mm_run p_St_onceClashes f 5 [.ref t, .int v1, .int v2, .int v3, .int (v4 + 1)] [] h3
    else
      (mm_gr 8 0 h3 t).bind fun r5 =>
      mm_ci (f_Rw_having [.ref r5, .int v1, .int v2] h3) fun x7 h6 =>
      if x7 = 0 then
        mm_run p_St_onceClashes f 5 [.ref t, .int v1, .int v2, .int v3, .int (v4 + 1)] [] h6
      else
        mm_run p_St_onceClashes f 5 [.ref t, .int v1, .int v2, .int (v3 ||| (1 <<< (v4 &&& 31))), .int (v4 + 1)] [] h6
  else
    some (some (.int v3), h) := rfl
set_option maxRecDepth 100000 in
theorem i_St_onceClashes (l : Launch) : mm_Imp l yX8_onceClashes cX8_onceClashes 5 (some .int) 2 f_St_onceClashes := mm_imp l (P := p_St_onceClashes) mm_cls_ok mm_sys_ok (by decide) (mm_Pok_of (List.forall_mem_cons.mpr ⟨k_X8_12, (List.forall_mem_cons.mpr ⟨k_X8_49, (List.forall_mem_cons.mpr ⟨k_X8_134, (fun _ h => absurd h List.not_mem_nil)⟩)⟩)⟩) (List.forall_mem_cons.mpr ⟨v_Rw_having l q_1054 (by decide), (List.forall_mem_cons.mpr ⟨v_St_isOnceOn l q_1050 (by decide), (fun _ h => absurd h List.not_mem_nil)⟩)⟩) (fun _ h => absurd h List.not_mem_nil) (fun _ h => absurd h List.not_mem_nil)) (by decide +kernel) rfl (cats := [1, 1, 1]) (fun as h r e => ⟨(mm_ga_inv e).1, (mm_gd_inv (mm_ga_inv e).2).1⟩) rfl (by decide)
theorem v_St_onceClashes (l : Launch) {own : String} {i n0 : Nat} (hl : Cond.methodLink own i yX8_onceClashes ∈ mm_tbl) (hn : 3 ≤ n0) : mm_cok l own n0 i (0, 2, 1, f_St_onceClashes) := Or.inr (Or.inr ⟨rfl, yX8_onceClashes, cX8_onceClashes, 5, (some .int), 2, 8, TX8, 9, i_St_onceClashes l, hn, by decide, by decide +kernel, rfl, fun _ _ _ e => (mm_gd_inv (mm_ga_inv e).2).2, hl, q_1047, q_1048, q_174, q_1049⟩)
def p_Rw_hasCome : mm_P := ([(0, .iload_n 1, 1, 0), (1, .ifCond .lt 21, 3, 0), (4, .iload_n 1, 1, 0), (5, .aload_n 0, 1, 0), (6, .getfield 15, 3, 0), (9, .if_icmp .ge 13, 3, 0), (12, .iload_n 1, 1, 0), (13, .bipush 30, 2, 30), (15, .if_icmp .ge 7, 3, 0), (18, .iconst 1, 1, 1), (19, .goto 4, 3, 0), (22, .iconst 0, 1, 0), (23, .ireturn, 1, 0)], [(15, 7, 1, 0)], [], [], [], [(0, [0, 1])], [], 1)
def f_Rw_hasCome : mm_F := fun args h => mm_ga [1, 1] args (mm_gd 7 args h (mm_run p_Rw_hasCome (mm_fu + 1) 0 args [] h))
set_option maxRecDepth 100000 in
theorem e_Rw_hasCome_0 (f : Nat) (t : Nat) (v1 : Int32) (h : mm_H) : mm_run p_Rw_hasCome (f + 1) 0 [.ref t, .int v1] [] h =
  if v1 < 0 then
    some (some (.int 0), h)
  else
    (mm_gi 7 1 h t).bind fun x1 =>
    if v1 < x1 then
      if v1 < 30 then
        some (some (.int 1), h)
      else
        some (some (.int 0), h)
    else
      some (some (.int 0), h) := rfl
theorem e_Rw_hasCome (t : Nat) (v1 : Int32) (h : mm_H) {fs : List Value} (hb : h t = some (.inr (7, fs))) : f_Rw_hasCome [.ref t, .int v1] h =
  if v1 < 0 then
    some (some (.int 0), h)
  else
    (mm_gi 7 1 h t).bind fun x1 =>
    if v1 < x1 then
      if v1 < 30 then
        some (some (.int 1), h)
      else
        some (some (.int 0), h)
    else
      some (some (.int 0), h) := (mm_ga_is rfl).trans ((mm_gd_is hb).trans (e_Rw_hasCome_0 mm_fu t v1 h))
set_option maxRecDepth 100000 in
theorem i_Rw_hasCome (l : Launch) : mm_Imp l yX7_hasCome cX7_hasCome 2 (some .boolean) 1 f_Rw_hasCome := mm_imp l (P := p_Rw_hasCome) mm_cls_ok mm_sys_ok (by decide) (mm_Pok_of (List.forall_mem_cons.mpr ⟨k_X7_15, (fun _ h => absurd h List.not_mem_nil)⟩) (fun _ h => absurd h List.not_mem_nil) (fun _ h => absurd h List.not_mem_nil) (fun _ h => absurd h List.not_mem_nil)) (by decide +kernel) rfl (cats := [1, 1]) (fun as h r e => ⟨(mm_ga_inv e).1, (mm_gd_inv (mm_ga_inv e).2).1⟩) rfl (by decide)
theorem v_Rw_hasCome (l : Launch) {own : String} {i n0 : Nat} (hl : Cond.methodLink own i yX7_hasCome ∈ mm_tbl) (hn : 2 ≤ n0) : mm_cok l own n0 i (0, 1, 1, f_Rw_hasCome) := Or.inr (Or.inr ⟨rfl, yX7_hasCome, cX7_hasCome, 2, (some .boolean), 1, 7, TX7, 4, i_Rw_hasCome l, hn, by decide, by decide +kernel, rfl, fun _ _ _ e => (mm_gd_inv (mm_ga_inv e).2).2, hl, q_876, q_877, q_175, q_878⟩)
def p_Rw_setValue : mm_P := ([(0, .aload_n 0, 1, 0), (1, .iload_n 1, 1, 0), (2, .invokevirtual 31, 3, 0), (5, .ifCond .eq 23, 3, 0), (8, .iload_n 2, 1, 0), (9, .ifCond .lt 19, 3, 0), (12, .iload_n 2, 1, 0), (13, .iconst 3, 1, 3), (14, .if_icmp .ge 14, 3, 0), (17, .aload_n 0, 1, 0), (18, .getfield 9, 3, 0), (21, .iload_n 1, 1, 0), (22, .iconst 3, 1, 3), (23, .imul, 1, 0), (24, .iload_n 2, 1, 0), (25, .iadd, 1, 0), (26, .iload_n 3, 1, 0), (27, .iastore, 1, 0), (28, .return_, 1, 0)], [(9, 7, 0, 4)], [(31, 0, 1, 1, f_Rw_hasCome)], [], [], [(0, [0, 1, 2, 3])], [], 0)
def f_Rw_setValue : mm_F := fun args h => mm_ga [1, 1, 1, 1] args (mm_gd 7 args h (mm_run p_Rw_setValue (mm_fu + 1) 0 args [] h))
set_option maxRecDepth 100000 in
theorem e_Rw_setValue_0 (f : Nat) (t : Nat) (v1 : Int32) (v2 : Int32) (v3 : Int32) (h : mm_H) : mm_run p_Rw_setValue (f + 1) 0 [.ref t, .int v1, .int v2, .int v3] [] h =
  mm_ci (f_Rw_hasCome [.ref t, .int v1] h) fun x2 h1 =>
  if x2 = 0 then
    some (none, h1)
  else
    if v2 < 0 then
      some (none, h1)
    else
      if v2 < 3 then
        (mm_gr 7 0 h1 t).bind fun r3 =>
        (mm_si h1 r3 ((v1 * 3) + v2) v3).bind fun h4 =>
        some (none, h4)
      else
        some (none, h1) := rfl
theorem e_Rw_setValue (t : Nat) (v1 : Int32) (v2 : Int32) (v3 : Int32) (h : mm_H) {fs : List Value} (hb : h t = some (.inr (7, fs))) : f_Rw_setValue [.ref t, .int v1, .int v2, .int v3] h =
  mm_ci (f_Rw_hasCome [.ref t, .int v1] h) fun x2 h1 =>
  if x2 = 0 then
    some (none, h1)
  else
    if v2 < 0 then
      some (none, h1)
    else
      if v2 < 3 then
        (mm_gr 7 0 h1 t).bind fun r3 =>
        (mm_si h1 r3 ((v1 * 3) + v2) v3).bind fun h4 =>
        some (none, h4)
      else
        some (none, h1) := (mm_ga_is rfl).trans ((mm_gd_is hb).trans (e_Rw_setValue_0 mm_fu t v1 v2 v3 h))
set_option maxRecDepth 100000 in
theorem i_Rw_setValue (l : Launch) : mm_Imp l yX7_setValue cX7_setValue 4 none 2 f_Rw_setValue := mm_imp l (P := p_Rw_setValue) mm_cls_ok mm_sys_ok (by decide) (mm_Pok_of (List.forall_mem_cons.mpr ⟨k_X7_9, (fun _ h => absurd h List.not_mem_nil)⟩) (List.forall_mem_cons.mpr ⟨v_Rw_hasCome l q_875 (by decide), (fun _ h => absurd h List.not_mem_nil)⟩) (fun _ h => absurd h List.not_mem_nil) (fun _ h => absurd h List.not_mem_nil)) (by decide +kernel) rfl (cats := [1, 1, 1, 1]) (fun as h r e => ⟨(mm_ga_inv e).1, (mm_gd_inv (mm_ga_inv e).2).1⟩) rfl (by decide)
theorem v_Rw_setValue (l : Launch) {own : String} {i n0 : Nat} (hl : Cond.methodLink own i yX7_setValue ∈ mm_tbl) (hn : 3 ≤ n0) : mm_cok l own n0 i (0, 3, 0, f_Rw_setValue) := Or.inr (Or.inr ⟨rfl, yX7_setValue, cX7_setValue, 4, none, 2, 7, TX7, 4, i_Rw_setValue l, hn, by decide, by decide +kernel, rfl, fun _ _ _ e => (mm_gd_inv (mm_ga_inv e).2).2, hl, q_872, q_873, q_175, q_874⟩)
def p_Rw_add : mm_P := ([(0, .aload_n 0, 1, 0), (1, .getfield 15, 3, 0), (4, .istore 4, 2, 0), (6, .iload 4, 2, 0), (8, .bipush 30, 2, 30), (10, .if_icmp .lt 5, 3, 0), (13, .iconst (-1), 1, (-1)), (14, .ireturn, 1, 0), (15, .aload_n 0, 1, 0), (16, .dup, 1, 0), (17, .getfield 15, 3, 0), (20, .iconst 1, 1, 1), (21, .iadd, 1, 0), (22, .putfield 15, 3, 0), (25, .aload_n 0, 1, 0), (26, .dup, 1, 0), (27, .getfield 19, 3, 0), (30, .iconst 1, 1, 1), (31, .iload 4, 2, 0), (33, .ishl, 1, 0), (34, .ior, 1, 0), (35, .putfield 19, 3, 0), (38, .aload_n 0, 1, 0), (39, .iload 4, 2, 0), (41, .iconst 0, 1, 0), (42, .iload_n 1, 1, 0), (43, .invokevirtual 39, 3, 0), (46, .aload_n 0, 1, 0), (47, .iload 4, 2, 0), (49, .iconst 1, 1, 1), (50, .iload_n 2, 1, 0), (51, .invokevirtual 39, 3, 0), (54, .aload_n 0, 1, 0), (55, .iload 4, 2, 0), (57, .iconst 2, 1, 2), (58, .iload_n 3, 1, 0), (59, .invokevirtual 39, 3, 0), (62, .iload 4, 2, 0), (64, .ireturn, 1, 0)], [(15, 7, 1, 0), (19, 7, 2, 0)], [(39, 0, 3, 0, f_Rw_setValue)], [], [], [(0, [0, 1, 2, 3])], [], 2)
def f_Rw_add : mm_F := fun args h => mm_ga [1, 1, 1, 1] args (mm_gd 7 args h (mm_run p_Rw_add (mm_fu + 1) 0 args [] h))
set_option maxRecDepth 100000 in
theorem e_Rw_add_0 (f : Nat) (t : Nat) (v1 : Int32) (v2 : Int32) (v3 : Int32) (h : mm_H) : mm_run p_Rw_add (f + 1) 0 [.ref t, .int v1, .int v2, .int v3] [] h =
  (mm_gi 7 1 h t).bind fun x1 =>
  if x1 < 30 then
    (mm_gi 7 1 h t).bind fun x2 =>
    (mm_pf 7 1 (.int (x2 + 1)) h t).bind fun h3 =>
    (mm_gi 7 2 h3 t).bind fun x4 =>
    (mm_pf 7 2 (.int (x4 ||| (1 <<< (x1 &&& 31)))) h3 t).bind fun h5 =>
    mm_cv (f_Rw_setValue [.ref t, .int x1, .int 0, .int v1] h5) fun h6 =>
    mm_cv (f_Rw_setValue [.ref t, .int x1, .int 1, .int v2] h6) fun h7 =>
    mm_cv (f_Rw_setValue [.ref t, .int x1, .int 2, .int v3] h7) fun h8 =>
    some (some (.int x1), h8)
  else
    some (some (.int (-1)), h) := rfl
theorem e_Rw_add (t : Nat) (v1 : Int32) (v2 : Int32) (v3 : Int32) (h : mm_H) {fs : List Value} (hb : h t = some (.inr (7, fs))) : f_Rw_add [.ref t, .int v1, .int v2, .int v3] h =
  (mm_gi 7 1 h t).bind fun x1 =>
  if x1 < 30 then
    (mm_gi 7 1 h t).bind fun x2 =>
    (mm_pf 7 1 (.int (x2 + 1)) h t).bind fun h3 =>
    (mm_gi 7 2 h3 t).bind fun x4 =>
    (mm_pf 7 2 (.int (x4 ||| (1 <<< (x1 &&& 31)))) h3 t).bind fun h5 =>
    mm_cv (f_Rw_setValue [.ref t, .int x1, .int 0, .int v1] h5) fun h6 =>
    mm_cv (f_Rw_setValue [.ref t, .int x1, .int 1, .int v2] h6) fun h7 =>
    mm_cv (f_Rw_setValue [.ref t, .int x1, .int 2, .int v3] h7) fun h8 =>
    some (some (.int x1), h8)
  else
    some (some (.int (-1)), h) := (mm_ga_is rfl).trans ((mm_gd_is hb).trans (e_Rw_add_0 mm_fu t v1 v2 v3 h))
set_option maxRecDepth 100000 in
theorem i_Rw_add (l : Launch) : mm_Imp l yX7_add cX7_add 5 (some .int) 3 f_Rw_add := mm_imp l (P := p_Rw_add) mm_cls_ok mm_sys_ok (by decide) (mm_Pok_of (List.forall_mem_cons.mpr ⟨k_X7_15, (List.forall_mem_cons.mpr ⟨k_X7_19, (fun _ h => absurd h List.not_mem_nil)⟩)⟩) (List.forall_mem_cons.mpr ⟨v_Rw_setValue l q_871 (by decide), (fun _ h => absurd h List.not_mem_nil)⟩) (fun _ h => absurd h List.not_mem_nil) (fun _ h => absurd h List.not_mem_nil)) (by decide +kernel) rfl (cats := [1, 1, 1, 1]) (fun as h r e => ⟨(mm_ga_inv e).1, (mm_gd_inv (mm_ga_inv e).2).1⟩) rfl (by decide)
theorem v_Rw_add (l : Launch) {own : String} {i n0 : Nat} (hl : Cond.methodLink own i yX7_add ∈ mm_tbl) (hn : 4 ≤ n0) : mm_cok l own n0 i (0, 3, 1, f_Rw_add) := Or.inr (Or.inr ⟨rfl, yX7_add, cX7_add, 5, (some .int), 3, 7, TX7, 4, i_Rw_add l, hn, by decide, by decide +kernel, rfl, fun _ _ _ e => (mm_gd_inv (mm_ga_inv e).2).2, hl, q_868, q_869, q_175, q_870⟩)
def p_St_noEntries : mm_P := ([(0, .iconst 0, 1, 0), (1, .istore_n 2, 1, 0), (2, .iload_n 2, 1, 0), (3, .iconst 4, 1, 4), (4, .if_icmp .ge 13, 3, 0), (7, .aload_n 1, 1, 0), (8, .iload_n 2, 1, 0), (9, .iconst (-1), 1, (-1)), (10, .iastore, 1, 0), (11, .iinc 2 1, 3, 1), (14, .goto (-12), 3, 0), (17, .return_, 1, 0)], [], [], [], [], [(0, [0, 1]), (2, [1, 2])], [], 0)
def f_St_noEntries : mm_F := fun args h => mm_ga [1, 1] args (mm_gd 8 args h (mm_run p_St_noEntries (mm_fu + 1) 0 args [] h))
set_option maxRecDepth 100000 in
theorem e_St_noEntries_0 (f : Nat) (t : Nat) (v1 : Nat) (h : mm_H) : mm_run p_St_noEntries (f + 1) 0 [.ref t, .ref v1] [] h =
  mm_run p_St_noEntries f 2 [.ref v1, .int 0] [] h := rfl
theorem e_St_noEntries (t : Nat) (v1 : Nat) (h : mm_H) {fs : List Value} (hb : h t = some (.inr (8, fs))) : f_St_noEntries [.ref t, .ref v1] h =
  mm_run p_St_noEntries mm_fu 2 [.ref v1, .int 0] [] h := (mm_ga_is rfl).trans ((mm_gd_is hb).trans (e_St_noEntries_0 mm_fu t v1 h))
set_option maxRecDepth 100000 in
theorem e_St_noEntries_2 (f : Nat) (v1 : Nat) (v2 : Int32) (h : mm_H) : mm_run p_St_noEntries (f + 1) 2 [.ref v1, .int v2] [] h =
  if v2 < 4 then
    (mm_si h v1 v2 (-1)).bind fun h1 =>
    mm_run p_St_noEntries f 2 [.ref v1, .int (v2 + 1)] [] h1
  else
    some (none, h) := rfl
set_option maxRecDepth 100000 in
theorem i_St_noEntries (l : Launch) : mm_Imp l yX8_noEntries cX8_noEntries 3 none 1 f_St_noEntries := mm_imp l (P := p_St_noEntries) mm_cls_ok mm_sys_ok (by decide) (mm_Pok_of (fun _ h => absurd h List.not_mem_nil) (fun _ h => absurd h List.not_mem_nil) (fun _ h => absurd h List.not_mem_nil) (fun _ h => absurd h List.not_mem_nil)) (by decide +kernel) rfl (cats := [1, 1]) (fun as h r e => ⟨(mm_ga_inv e).1, (mm_gd_inv (mm_ga_inv e).2).1⟩) rfl (by decide)
theorem v_St_noEntries (l : Launch) {own : String} {i n0 : Nat} (hl : Cond.methodLink own i yX8_noEntries ∈ mm_tbl) (hn : 2 ≤ n0) : mm_cok l own n0 i (0, 1, 0, f_St_noEntries) := Or.inr (Or.inr ⟨rfl, yX8_noEntries, cX8_noEntries, 3, none, 1, 8, TX8, 9, i_St_noEntries l, hn, by decide, by decide +kernel, rfl, fun _ _ _ e => (mm_gd_inv (mm_ga_inv e).2).2, hl, q_905, q_20, q_174, q_906⟩)
def p_Pt_anyAt : mm_P := ([(0, .iconst 0, 1, 0), (1, .istore_n 2, 1, 0), (2, .iload_n 2, 1, 0), (3, .aload_n 0, 1, 0), (4, .getfield 21, 3, 0), (7, .if_icmp .ge 21, 3, 0), (10, .aload_n 0, 1, 0), (11, .getfield 15, 3, 0), (14, .iload_n 2, 1, 0), (15, .iaload, 1, 0), (16, .iload_n 1, 1, 0), (17, .if_icmp .ne 5, 3, 0), (20, .iconst 1, 1, 1), (21, .ireturn, 1, 0), (22, .iinc 2 1, 3, 1), (25, .goto (-23), 3, 0), (28, .iconst 0, 1, 0), (29, .ireturn, 1, 0)], [(15, 5, 1, 4), (21, 5, 3, 0)], [], [], [], [(0, [0, 1]), (2, [0, 1, 2])], [], 1)
def f_Pt_anyAt : mm_F := fun args h => mm_ga [1, 1] args (mm_gd 5 args h (mm_run p_Pt_anyAt (mm_fu + 1) 0 args [] h))
set_option maxRecDepth 100000 in
theorem e_Pt_anyAt_0 (f : Nat) (t : Nat) (v1 : Int32) (h : mm_H) : mm_run p_Pt_anyAt (f + 1) 0 [.ref t, .int v1] [] h =
  mm_run p_Pt_anyAt f 2 [.ref t, .int v1, .int 0] [] h := rfl
theorem e_Pt_anyAt (t : Nat) (v1 : Int32) (h : mm_H) {fs : List Value} (hb : h t = some (.inr (5, fs))) : f_Pt_anyAt [.ref t, .int v1] h =
  mm_run p_Pt_anyAt mm_fu 2 [.ref t, .int v1, .int 0] [] h := (mm_ga_is rfl).trans ((mm_gd_is hb).trans (e_Pt_anyAt_0 mm_fu t v1 h))
set_option maxRecDepth 100000 in
theorem e_Pt_anyAt_2 (f : Nat) (t : Nat) (v1 : Int32) (v2 : Int32) (h : mm_H) : mm_run p_Pt_anyAt (f + 1) 2 [.ref t, .int v1, .int v2] [] h =
  (mm_gi 5 3 h t).bind fun x1 =>
  if v2 < x1 then
    (mm_gr 5 1 h t).bind fun r2 =>
    (mm_li h r2 v2).bind fun x3 =>
    if x3 = v1 then
      some (some (.int 1), h)
    else
      mm_run p_Pt_anyAt f 2 [.ref t, .int v1, .int (v2 + 1)] [] h
  else
    some (some (.int 0), h) := rfl
set_option maxRecDepth 100000 in
theorem i_Pt_anyAt (l : Launch) : mm_Imp l yX5_anyAt cX5_anyAt 3 (some .boolean) 1 f_Pt_anyAt := mm_imp l (P := p_Pt_anyAt) mm_cls_ok mm_sys_ok (by decide) (mm_Pok_of (List.forall_mem_cons.mpr ⟨k_X5_15, (List.forall_mem_cons.mpr ⟨k_X5_21, (fun _ h => absurd h List.not_mem_nil)⟩)⟩) (fun _ h => absurd h List.not_mem_nil) (fun _ h => absurd h List.not_mem_nil) (fun _ h => absurd h List.not_mem_nil)) (by decide +kernel) rfl (cats := [1, 1]) (fun as h r e => ⟨(mm_ga_inv e).1, (mm_gd_inv (mm_ga_inv e).2).1⟩) rfl (by decide)
theorem v_Pt_anyAt (l : Launch) {own : String} {i n0 : Nat} (hl : Cond.methodLink own i yX5_anyAt ∈ mm_tbl) (hn : 2 ≤ n0) : mm_cok l own n0 i (0, 1, 1, f_Pt_anyAt) := Or.inr (Or.inr ⟨rfl, yX5_anyAt, cX5_anyAt, 3, (some .boolean), 1, 5, TX5, 4, i_Pt_anyAt l, hn, by decide, by decide +kernel, rfl, fun _ _ _ e => (mm_gd_inv (mm_ga_inv e).2).2, hl, q_896, q_897, q_176, q_898⟩)
def p_Wh_isSo : mm_P := ([(0, .aload_n 2, 1, 0), (1, .getfield 39, 3, 0), (4, .iload_n 3, 1, 0), (5, .aload_n 0, 1, 0), (6, .getfield 15, 3, 0), (9, .iload_n 1, 1, 0), (10, .iaload, 1, 0), (11, .invokevirtual 45, 3, 0), (14, .istore 4, 2, 0), (16, .aload_n 0, 1, 0), (17, .getfield 9, 3, 0), (20, .iload_n 1, 1, 0), (21, .iaload, 1, 0), (22, .tableswitch 147 28 33 #[38, 147, 147, 66, 91, 117], 38, 0), (60, .iload 4, 2, 0), (62, .aload_n 0, 1, 0), (63, .getfield 18, 3, 0), (66, .iload_n 1, 1, 0), (67, .iaload, 1, 0), (68, .if_icmp .lt 18, 3, 0), (71, .iload 4, 2, 0), (73, .aload_n 0, 1, 0), (74, .getfield 21, 3, 0), (77, .iload_n 1, 1, 0), (78, .iaload, 1, 0), (79, .if_icmp .gt 7, 3, 0), (82, .iconst 1, 1, 1), (83, .goto 4, 3, 0), (86, .iconst 0, 1, 0), (87, .ireturn, 1, 0), (88, .iload 4, 2, 0), (90, .aload_n 2, 1, 0), (91, .getfield 39, 3, 0), (94, .iload_n 3, 1, 0), (95, .aload_n 0, 1, 0), (96, .getfield 18, 3, 0), (99, .iload_n 1, 1, 0), (100, .iaload, 1, 0), (101, .invokevirtual 45, 3, 0), (104, .if_icmp .le 7, 3, 0), (107, .iconst 1, 1, 1), (108, .goto 4, 3, 0), (111, .iconst 0, 1, 0), (112, .ireturn, 1, 0), (113, .aload_n 0, 1, 0), (114, .getfield 18, 3, 0), (117, .iload_n 1, 1, 0), (118, .iaload, 1, 0), (119, .ifCond .le 18, 3, 0), (122, .iload_n 3, 1, 0), (123, .aload_n 0, 1, 0), (124, .getfield 18, 3, 0), (127, .iload_n 1, 1, 0), (128, .iaload, 1, 0), (129, .irem, 1, 0), (130, .ifCond .ne 7, 3, 0), (133, .iconst 1, 1, 1), (134, .goto 4, 3, 0), (137, .iconst 0, 1, 0), (138, .ireturn, 1, 0), (139, .aload_n 2, 1, 0), (140, .getfield 39, 3, 0), (143, .aload_n 0, 1, 0), (144, .getfield 15, 3, 0), (147, .iload_n 1, 1, 0), (148, .iaload, 1, 0), (149, .iload 4, 2, 0), (151, .invokevirtual 51, 3, 0), (154, .iconst 1, 1, 1), (155, .iload_n 3, 1, 0), (156, .ishl, 1, 0), (157, .iconst (-1), 1, (-1)), (158, .ixor, 1, 0), (159, .iand, 1, 0), (160, .ifCond .eq 7, 3, 0), (163, .iconst 1, 1, 1), (164, .goto 4, 3, 0), (167, .iconst 0, 1, 0), (168, .ireturn, 1, 0), (169, .aload_n 2, 1, 0), (170, .getfield 54, 3, 0), (173, .aload_n 2, 1, 0), (174, .getfield 39, 3, 0), (177, .iload_n 3, 1, 0), (178, .iconst 0, 1, 0), (179, .invokevirtual 45, 3, 0), (182, .invokevirtual 58, 3, 0), (185, .ireturn, 1, 0)], [(9, 10, 0, 4), (15, 10, 1, 4), (18, 10, 2, 4), (21, 10, 3, 4), (39, 8, 0, 4), (54, 8, 1, 4)], [(45, 0, 2, 1, f_Rw_valueOf), (51, 0, 2, 1, f_Rw_having), (58, 0, 1, 1, f_Pt_anyAt)], [], [], [(0, [0, 1, 2, 3])], [(22, [(28, 60), (29, 169), (30, 169), (31, 88), (32, 113), (33, 139)], 169)], 1)
def f_Wh_isSo : mm_F := fun args h => mm_ga [1, 1, 1, 1] args (mm_gd 10 args h (mm_run p_Wh_isSo (mm_fu + 1) 0 args [] h))
set_option maxRecDepth 100000 in
theorem e_Wh_isSo_0 (f : Nat) (t : Nat) (v1 : Int32) (v2 : Nat) (v3 : Int32) (h : mm_H) : mm_run p_Wh_isSo (f + 1) 0 [.ref t, .int v1, .ref v2, .int v3] [] h =
  (mm_gr 8 0 h v2).bind fun r1 =>
  (mm_gr 10 1 h t).bind fun r2 =>
  (mm_li h r2 v1).bind fun x3 =>
  mm_ci (f_Rw_valueOf [.ref r1, .int v3, .int x3] h) fun x5 h4 =>
  (mm_gr 10 0 h4 t).bind fun r6 =>
  (mm_li h4 r6 v1).bind fun x7 =>
  if x7 = 28 then
    (mm_gr 10 2 h4 t).bind fun r8 =>
    (mm_li h4 r8 v1).bind fun x9 =>
    if x5 < x9 then
      some (some (.int 0), h4)
    else
      (mm_gr 10 3 h4 t).bind fun r10 =>
      (mm_li h4 r10 v1).bind fun x11 =>
      if x11 < x5 then
        some (some (.int 0), h4)
      else
        some (some (.int 1), h4)
  else if x7 = 29 then
    (mm_gr 8 1 h4 v2).bind fun r12 =>
    (mm_gr 8 0 h4 v2).bind fun r13 =>
    mm_ci (f_Rw_valueOf [.ref r13, .int v3, .int 0] h4) fun x15 h14 =>
    mm_ci (f_Pt_anyAt [.ref r12, .int x15] h14) fun x17 h16 =>
    if x17 = 0 ∨ x17 = 1 then some (some (.int x17), h16) else none
  else if x7 = 30 then
    (mm_gr 8 1 h4 v2).bind fun r18 =>
    (mm_gr 8 0 h4 v2).bind fun r19 =>
    mm_ci (f_Rw_valueOf [.ref r19, .int v3, .int 0] h4) fun x21 h20 =>
    mm_ci (f_Pt_anyAt [.ref r18, .int x21] h20) fun x23 h22 =>
    if x23 = 0 ∨ x23 = 1 then some (some (.int x23), h22) else none
  else if x7 = 31 then
    (mm_gr 8 0 h4 v2).bind fun r24 =>
    (mm_gr 10 2 h4 t).bind fun r25 =>
    (mm_li h4 r25 v1).bind fun x26 =>
    mm_ci (f_Rw_valueOf [.ref r24, .int v3, .int x26] h4) fun x28 h27 =>
    if x28 < x5 then
      some (some (.int 1), h27)
    else
      some (some (.int 0), h27)
  else if x7 = 32 then
    (mm_gr 10 2 h4 t).bind fun r29 =>
    (mm_li h4 r29 v1).bind fun x30 =>
    if (0 : Int32) < x30 then
      (mm_gr 10 2 h4 t).bind fun r31 =>
      (mm_li h4 r31 v1).bind fun x32 =>
      if x32 = 0 then none else
      if (mm_rem v3 x32) = 0 then
        some (some (.int 1), h4)
      else
        some (some (.int 0), h4)
    else
      some (some (.int 0), h4)
  else if x7 = 33 then
    (mm_gr 8 0 h4 v2).bind fun r33 =>
    (mm_gr 10 1 h4 t).bind fun r34 =>
    (mm_li h4 r34 v1).bind fun x35 =>
    mm_ci (f_Rw_having [.ref r33, .int x35, .int x5] h4) fun x37 h36 =>
    if (x37 &&& ((1 <<< (v3 &&& 31)) ^^^ (-1))) = 0 then
      some (some (.int 0), h36)
    else
      some (some (.int 1), h36)
  else 
    (mm_gr 8 1 h4 v2).bind fun r38 =>
    (mm_gr 8 0 h4 v2).bind fun r39 =>
    mm_ci (f_Rw_valueOf [.ref r39, .int v3, .int 0] h4) fun x41 h40 =>
    mm_ci (f_Pt_anyAt [.ref r38, .int x41] h40) fun x43 h42 =>
    if x43 = 0 ∨ x43 = 1 then some (some (.int x43), h42) else none := rfl
theorem e_Wh_isSo (t : Nat) (v1 : Int32) (v2 : Nat) (v3 : Int32) (h : mm_H) {fs : List Value} (hb : h t = some (.inr (10, fs))) : f_Wh_isSo [.ref t, .int v1, .ref v2, .int v3] h =
  (mm_gr 8 0 h v2).bind fun r1 =>
  (mm_gr 10 1 h t).bind fun r2 =>
  (mm_li h r2 v1).bind fun x3 =>
  mm_ci (f_Rw_valueOf [.ref r1, .int v3, .int x3] h) fun x5 h4 =>
  (mm_gr 10 0 h4 t).bind fun r6 =>
  (mm_li h4 r6 v1).bind fun x7 =>
  if x7 = 28 then
    (mm_gr 10 2 h4 t).bind fun r8 =>
    (mm_li h4 r8 v1).bind fun x9 =>
    if x5 < x9 then
      some (some (.int 0), h4)
    else
      (mm_gr 10 3 h4 t).bind fun r10 =>
      (mm_li h4 r10 v1).bind fun x11 =>
      if x11 < x5 then
        some (some (.int 0), h4)
      else
        some (some (.int 1), h4)
  else if x7 = 29 then
    (mm_gr 8 1 h4 v2).bind fun r12 =>
    (mm_gr 8 0 h4 v2).bind fun r13 =>
    mm_ci (f_Rw_valueOf [.ref r13, .int v3, .int 0] h4) fun x15 h14 =>
    mm_ci (f_Pt_anyAt [.ref r12, .int x15] h14) fun x17 h16 =>
    if x17 = 0 ∨ x17 = 1 then some (some (.int x17), h16) else none
  else if x7 = 30 then
    (mm_gr 8 1 h4 v2).bind fun r18 =>
    (mm_gr 8 0 h4 v2).bind fun r19 =>
    mm_ci (f_Rw_valueOf [.ref r19, .int v3, .int 0] h4) fun x21 h20 =>
    mm_ci (f_Pt_anyAt [.ref r18, .int x21] h20) fun x23 h22 =>
    if x23 = 0 ∨ x23 = 1 then some (some (.int x23), h22) else none
  else if x7 = 31 then
    (mm_gr 8 0 h4 v2).bind fun r24 =>
    (mm_gr 10 2 h4 t).bind fun r25 =>
    (mm_li h4 r25 v1).bind fun x26 =>
    mm_ci (f_Rw_valueOf [.ref r24, .int v3, .int x26] h4) fun x28 h27 =>
    if x28 < x5 then
      some (some (.int 1), h27)
    else
      some (some (.int 0), h27)
  else if x7 = 32 then
    (mm_gr 10 2 h4 t).bind fun r29 =>
    (mm_li h4 r29 v1).bind fun x30 =>
    if (0 : Int32) < x30 then
      (mm_gr 10 2 h4 t).bind fun r31 =>
      (mm_li h4 r31 v1).bind fun x32 =>
      if x32 = 0 then none else
      if (mm_rem v3 x32) = 0 then
        some (some (.int 1), h4)
      else
        some (some (.int 0), h4)
    else
      some (some (.int 0), h4)
  else if x7 = 33 then
    (mm_gr 8 0 h4 v2).bind fun r33 =>
    (mm_gr 10 1 h4 t).bind fun r34 =>
    (mm_li h4 r34 v1).bind fun x35 =>
    mm_ci (f_Rw_having [.ref r33, .int x35, .int x5] h4) fun x37 h36 =>
    if (x37 &&& ((1 <<< (v3 &&& 31)) ^^^ (-1))) = 0 then
      some (some (.int 0), h36)
    else
      some (some (.int 1), h36)
  else 
    (mm_gr 8 1 h4 v2).bind fun r38 =>
    (mm_gr 8 0 h4 v2).bind fun r39 =>
    mm_ci (f_Rw_valueOf [.ref r39, .int v3, .int 0] h4) fun x41 h40 =>
    mm_ci (f_Pt_anyAt [.ref r38, .int x41] h40) fun x43 h42 =>
    if x43 = 0 ∨ x43 = 1 then some (some (.int x43), h42) else none := (mm_ga_is rfl).trans ((mm_gd_is hb).trans (e_Wh_isSo_0 mm_fu t v1 v2 v3 h))
set_option maxRecDepth 100000 in
theorem i_Wh_isSo (l : Launch) : mm_Imp l yX10_isSo cX10_isSo 5 (some .boolean) 2 f_Wh_isSo := mm_imp l (P := p_Wh_isSo) mm_cls_ok mm_sys_ok (by decide) (mm_Pok_of (List.forall_mem_cons.mpr ⟨k_X10_9, (List.forall_mem_cons.mpr ⟨k_X10_15, (List.forall_mem_cons.mpr ⟨k_X10_18, (List.forall_mem_cons.mpr ⟨k_X10_21, (List.forall_mem_cons.mpr ⟨k_X10_39, (List.forall_mem_cons.mpr ⟨k_X10_54, (fun _ h => absurd h List.not_mem_nil)⟩)⟩)⟩)⟩)⟩)⟩) (List.forall_mem_cons.mpr ⟨v_Rw_valueOf l q_887 (by decide), (List.forall_mem_cons.mpr ⟨v_Rw_having l q_891 (by decide), (List.forall_mem_cons.mpr ⟨v_Pt_anyAt l q_895 (by decide), (fun _ h => absurd h List.not_mem_nil)⟩)⟩)⟩) (fun _ h => absurd h List.not_mem_nil) (fun _ h => absurd h List.not_mem_nil)) (by decide +kernel) rfl (cats := [1, 1, 1, 1]) (fun as h r e => ⟨(mm_ga_inv e).1, (mm_gd_inv (mm_ga_inv e).2).1⟩) rfl (by decide)
theorem v_Wh_isSo (l : Launch) {own : String} {i n0 : Nat} (hl : Cond.methodLink own i yX10_isSo ∈ mm_tbl) (hn : 3 ≤ n0) : mm_cok l own n0 i (0, 3, 1, f_Wh_isSo) := Or.inr (Or.inr ⟨rfl, yX10_isSo, cX10_isSo, 5, (some .boolean), 2, 10, TX10, 7, i_Wh_isSo l, hn, by decide, by decide +kernel, rfl, fun _ _ _ e => (mm_gd_inv (mm_ga_inv e).2).2, hl, q_885, q_18, q_171, q_886⟩)
def p_Wh_holds : mm_P := ([(0, .iconst 1, 1, 1), (1, .istore_n 3, 1, 0), (2, .iconst 0, 1, 0), (3, .istore 4, 2, 0), (5, .iload 4, 2, 0), (7, .aload_n 0, 1, 0), (8, .getfield 31, 3, 0), (11, .if_icmp .ge 60, 3, 0), (14, .aload_n 0, 1, 0), (15, .getfield 28, 3, 0), (18, .iload 4, 2, 0), (20, .baload, 1, 0), (21, .ifCond .eq 16, 3, 0), (24, .iload 4, 2, 0), (26, .ifCond .le 11, 3, 0), (29, .iload_n 3, 1, 0), (30, .ifCond .eq 5, 3, 0), (33, .iconst 1, 1, 1), (34, .ireturn, 1, 0), (35, .iconst 1, 1, 1), (36, .istore_n 3, 1, 0), (37, .iload_n 3, 1, 0), (38, .ifCond .eq 25, 3, 0), (41, .aload_n 0, 1, 0), (42, .iload 4, 2, 0), (44, .aload_n 1, 1, 0), (45, .iload_n 2, 1, 0), (46, .invokevirtual 35, 3, 0), (49, .aload_n 0, 1, 0), (50, .getfield 24, 3, 0), (53, .iload 4, 2, 0), (55, .baload, 1, 0), (56, .if_icmp .eq 7, 3, 0), (59, .iconst 1, 1, 1), (60, .goto 4, 3, 0), (63, .iconst 0, 1, 0), (64, .istore_n 3, 1, 0), (65, .iinc 4 1, 3, 1), (68, .goto (-63), 3, 0), (71, .iload_n 3, 1, 0), (72, .ireturn, 1, 0)], [(24, 10, 4, 4), (28, 10, 5, 4), (31, 10, 6, 0)], [(35, 0, 3, 1, f_Wh_isSo)], [], [], [(0, [0, 1, 2]), (5, [0, 1, 2, 3, 4]), (37, [0, 1, 2, 3, 4])], [], 1)
def f_Wh_holds : mm_F := fun args h => mm_ga [1, 1, 1] args (mm_gd 10 args h (mm_run p_Wh_holds (mm_fu + 1) 0 args [] h))
set_option maxRecDepth 100000 in
theorem e_Wh_holds_0 (f : Nat) (t : Nat) (v1 : Nat) (v2 : Int32) (h : mm_H) : mm_run p_Wh_holds (f + 1) 0 [.ref t, .ref v1, .int v2] [] h =
  mm_run p_Wh_holds f 5 [.ref t, .ref v1, .int v2, .int 1, .int 0] [] h := rfl
theorem e_Wh_holds (t : Nat) (v1 : Nat) (v2 : Int32) (h : mm_H) {fs : List Value} (hb : h t = some (.inr (10, fs))) : f_Wh_holds [.ref t, .ref v1, .int v2] h =
  mm_run p_Wh_holds mm_fu 5 [.ref t, .ref v1, .int v2, .int 1, .int 0] [] h := (mm_ga_is rfl).trans ((mm_gd_is hb).trans (e_Wh_holds_0 mm_fu t v1 v2 h))
set_option maxRecDepth 100000 in
theorem e_Wh_holds_5 (f : Nat) (t : Nat) (v1 : Nat) (v2 : Int32) (v3 : Int32) (v4 : Int32) (h : mm_H) : mm_run p_Wh_holds (f + 1) 5 [.ref t, .ref v1, .int v2, .int v3, .int v4] [] h =
  (mm_gi 10 6 h t).bind fun x1 =>
  if v4 < x1 then
    (mm_gr 10 5 h t).bind fun r2 =>
    (mm_lb h r2 v4).bind fun x3 =>
    if x3 = 0 then
      mm_run p_Wh_holds f 37 [.ref t, .ref v1, .int v2, .int v3, .int v4] [] h
    else
      if (0 : Int32) < v4 then
        if v3 = 0 then
          mm_run p_Wh_holds f 37 [.ref t, .ref v1, .int v2, .int 1, .int v4] [] h
        else
          some (some (.int 1), h)
      else
        mm_run p_Wh_holds f 37 [.ref t, .ref v1, .int v2, .int v3, .int v4] [] h
  else
    if v3 = 0 ∨ v3 = 1 then some (some (.int v3), h) else none := rfl
set_option maxRecDepth 100000 in
theorem e_Wh_holds_37 (f : Nat) (t : Nat) (v1 : Nat) (v2 : Int32) (v3 : Int32) (v4 : Int32) (h : mm_H) : mm_run p_Wh_holds (f + 1) 37 [.ref t, .ref v1, .int v2, .int v3, .int v4] [] h =
  if v3 = 0 then
    mm_run p_Wh_holds f 5 [.ref t, .ref v1, .int v2, .int 0, .int (v4 + 1)] [] h
  else
    mm_ci (f_Wh_isSo [.ref t, .int v4, .ref v1, .int v2] h) fun x2 h1 =>
    (mm_gr 10 4 h1 t).bind fun r3 =>
    (mm_lb h1 r3 v4).bind fun x4 =>
    if x2 = x4 then
      mm_run p_Wh_holds f 5 [.ref t, .ref v1, .int v2, .int 0, .int (v4 + 1)] [] h1
    else
      mm_run p_Wh_holds f 5 [.ref t, .ref v1, .int v2, .int 1, .int (v4 + 1)] [] h1 := rfl
set_option maxRecDepth 100000 in
theorem i_Wh_holds (l : Launch) : mm_Imp l yX10_holds cX10_holds 5 (some .boolean) 3 f_Wh_holds := mm_imp l (P := p_Wh_holds) mm_cls_ok mm_sys_ok (by decide) (mm_Pok_of (List.forall_mem_cons.mpr ⟨k_X10_24, (List.forall_mem_cons.mpr ⟨k_X10_28, (List.forall_mem_cons.mpr ⟨k_X10_31, (fun _ h => absurd h List.not_mem_nil)⟩)⟩)⟩) (List.forall_mem_cons.mpr ⟨v_Wh_isSo l q_883 (by decide), (fun _ h => absurd h List.not_mem_nil)⟩) (fun _ h => absurd h List.not_mem_nil) (fun _ h => absurd h List.not_mem_nil)) (by decide +kernel) rfl (cats := [1, 1, 1]) (fun as h r e => ⟨(mm_ga_inv e).1, (mm_gd_inv (mm_ga_inv e).2).1⟩) rfl (by decide)
theorem v_Wh_holds (l : Launch) {own : String} {i n0 : Nat} (hl : Cond.methodLink own i yX10_holds ∈ mm_tbl) (hn : 4 ≤ n0) : mm_cok l own n0 i (0, 2, 1, f_Wh_holds) := Or.inr (Or.inr ⟨rfl, yX10_holds, cX10_holds, 5, (some .boolean), 3, 10, TX10, 7, i_Wh_holds l, hn, by decide, by decide +kernel, rfl, fun _ _ _ e => (mm_gd_inv (mm_ga_inv e).2).2, hl, q_880, q_881, q_171, q_882⟩)
def p_St_entriesOf : mm_P := ([(0, .aload_n 0, 1, 0), (1, .aload_n 3, 1, 0), (2, .invokevirtual 238, 3, 0), (5, .iconst 0, 1, 0), (6, .istore 4, 2, 0), (8, .iload 4, 2, 0), (10, .aload_n 0, 1, 0), (11, .getfield 49, 3, 0), (14, .getfield 134, 3, 0), (17, .if_icmp .ge 49, 3, 0), (20, .iload_n 2, 1, 0), (21, .ifCond .ne 17, 3, 0), (24, .aload_n 0, 1, 0), (25, .getfield 49, 3, 0), (28, .getfield 90, 3, 0), (31, .iload 4, 2, 0), (33, .iaload, 1, 0), (34, .iconst 3, 1, 3), (35, .if_icmp .eq 25, 3, 0), (38, .aload_n 3, 1, 0), (39, .iload 4, 2, 0), (41, .aload_n 0, 1, 0), (42, .getfield 12, 3, 0), (45, .iload_n 1, 1, 0), (46, .aload_n 0, 1, 0), (47, .getfield 49, 3, 0), (50, .getfield 144, 3, 0), (53, .iload 4, 2, 0), (55, .iaload, 1, 0), (56, .invokevirtual 147, 3, 0), (59, .iastore, 1, 0), (60, .iinc 4 1, 3, 1), (63, .goto (-55), 3, 0), (66, .return_, 1, 0)], [(12, 8, 0, 4), (49, 8, 6, 2), (90, 4, 0, 4), (134, 4, 10, 0), (144, 4, 1, 4)], [(147, 0, 2, 1, f_Rw_valueOf), (238, 0, 1, 0, f_St_noEntries)], [], [], [(0, [0, 1, 2, 3]), (8, [0, 1, 2, 3, 4])], [], 0)
def f_St_entriesOf : mm_F := fun args h => mm_ga [1, 1, 1, 1] args (mm_gd 8 args h (mm_run p_St_entriesOf (mm_fu + 1) 0 args [] h))
set_option maxRecDepth 100000 in
theorem e_St_entriesOf_0 (f : Nat) (t : Nat) (v1 : Int32) (v2 : Int32) (v3 : Nat) (h : mm_H) : mm_run p_St_entriesOf (f + 1) 0 [.ref t, .int v1, .int v2, .ref v3] [] h =
  mm_cv (f_St_noEntries [.ref t, .ref v3] h) fun h1 =>
  mm_run p_St_entriesOf f 8 [.ref t, .int v1, .int v2, .ref v3, .int 0] [] h1 := rfl
theorem e_St_entriesOf (t : Nat) (v1 : Int32) (v2 : Int32) (v3 : Nat) (h : mm_H) {fs : List Value} (hb : h t = some (.inr (8, fs))) : f_St_entriesOf [.ref t, .int v1, .int v2, .ref v3] h =
  mm_cv (f_St_noEntries [.ref t, .ref v3] h) fun h1 =>
  mm_run p_St_entriesOf mm_fu 8 [.ref t, .int v1, .int v2, .ref v3, .int 0] [] h1 := (mm_ga_is rfl).trans ((mm_gd_is hb).trans (e_St_entriesOf_0 mm_fu t v1 v2 v3 h))
set_option maxRecDepth 100000 in
theorem e_St_entriesOf_8 (f : Nat) (t : Nat) (v1 : Int32) (v2 : Int32) (v3 : Nat) (v4 : Int32) (h : mm_H) : mm_run p_St_entriesOf (f + 1) 8 [.ref t, .int v1, .int v2, .ref v3, .int v4] [] h =
  (mm_gr 8 6 h t).bind fun r1 =>
  (mm_gi 4 10 h r1).bind fun x2 =>
  if v4 < x2 then
    if v2 = 0 then
      (mm_gr 8 6 h t).bind fun r3 =>
      (mm_gr 4 0 h r3).bind fun r4 =>
      (mm_li h r4 v4).bind fun x5 =>
      if x5 = 3 then
        mm_run p_St_entriesOf f 8 [.ref t, .int v1, .int v2, .ref v3, .int (v4 + 1)] [] h
      else
        (mm_gr 8 0 h t).bind fun r6 =>
        (mm_gr 8 6 h t).bind fun r7 =>
        (mm_gr 4 1 h r7).bind fun r8 =>
        (mm_li h r8 v4).bind fun x9 =>
        mm_ci (f_Rw_valueOf [.ref r6, .int v1, .int x9] h) fun x11 h10 =>
        (mm_si h10 v3 v4 x11).bind fun h12 =>
        mm_run p_St_entriesOf f 8 [.ref t, .int v1, .int v2, .ref v3, .int (v4 + 1)] [] h12
    else
      (mm_gr 8 0 h t).bind fun r13 =>
      (mm_gr 8 6 h t).bind fun r14 =>
      (mm_gr 4 1 h r14).bind fun r15 =>
      (mm_li h r15 v4).bind fun x16 =>
      mm_ci (f_Rw_valueOf [.ref r13, .int v1, .int x16] h) fun x18 h17 =>
      (mm_si h17 v3 v4 x18).bind fun h19 =>
      mm_run p_St_entriesOf f 8 [.ref t, .int v1, .int v2, .ref v3, .int (v4 + 1)] [] h19
  else
    some (none, h) := rfl
set_option maxRecDepth 100000 in
theorem i_St_entriesOf (l : Launch) : mm_Imp l yX8_entriesOf cX8_entriesOf 5 none 2 f_St_entriesOf := mm_imp l (P := p_St_entriesOf) mm_cls_ok mm_sys_ok (by decide) (mm_Pok_of (List.forall_mem_cons.mpr ⟨k_X8_12, (List.forall_mem_cons.mpr ⟨k_X8_49, (List.forall_mem_cons.mpr ⟨k_X8_90, (List.forall_mem_cons.mpr ⟨k_X8_134, (List.forall_mem_cons.mpr ⟨k_X8_144, (fun _ h => absurd h List.not_mem_nil)⟩)⟩)⟩)⟩)⟩) (List.forall_mem_cons.mpr ⟨v_Rw_valueOf l q_907 (by decide), (List.forall_mem_cons.mpr ⟨v_St_noEntries l q_903 (by decide), (fun _ h => absurd h List.not_mem_nil)⟩)⟩) (fun _ h => absurd h List.not_mem_nil) (fun _ h => absurd h List.not_mem_nil)) (by decide +kernel) rfl (cats := [1, 1, 1, 1]) (fun as h r e => ⟨(mm_ga_inv e).1, (mm_gd_inv (mm_ga_inv e).2).1⟩) rfl (by decide)
theorem v_St_entriesOf (l : Launch) {own : String} {i n0 : Nat} (hl : Cond.methodLink own i yX8_entriesOf ∈ mm_tbl) (hn : 3 ≤ n0) : mm_cok l own n0 i (0, 3, 0, f_St_entriesOf) := Or.inr (Or.inr ⟨rfl, yX8_entriesOf, cX8_entriesOf, 5, none, 2, 8, TX8, 9, i_St_entriesOf l, hn, by decide, by decide +kernel, rfl, fun _ _ _ e => (mm_gd_inv (mm_ga_inv e).2).2, hl, q_901, q_19, q_174, q_902⟩)
def p_St_fitAside : mm_P := ([(0, .aload_n 0, 1, 0), (1, .getfield 34, 3, 0), (4, .getfield 194, 3, 0), (7, .ifCond .eq 20, 3, 0), (10, .aload_n 0, 1, 0), (11, .getfield 34, 3, 0), (14, .getfield 207, 3, 0), (17, .aload_n 0, 1, 0), (18, .getfield 49, 3, 0), (21, .getfield 134, 3, 0), (24, .if_icmp .lt 5, 3, 0), (27, .iconst 1, 1, 1), (28, .ireturn, 1, 0), (29, .iconst 0, 1, 0), (30, .istore_n 1, 1, 0), (31, .aload_n 0, 1, 0), (32, .getfield 38, 3, 0), (35, .aload_n 0, 1, 0), (36, .getfield 34, 3, 0), (39, .getfield 207, 3, 0), (42, .iaload, 1, 0), (43, .aload_n 0, 1, 0), (44, .getfield 42, 3, 0), (47, .aload_n 0, 1, 0), (48, .getfield 34, 3, 0), (51, .getfield 207, 3, 0), (54, .iaload, 1, 0), (55, .if_icmp .eq 51, 3, 0), (58, .iload_n 1, 1, 0), (59, .aload_n 0, 1, 0), (60, .getfield 38, 3, 0), (63, .aload_n 0, 1, 0), (64, .getfield 34, 3, 0), (67, .getfield 207, 3, 0), (70, .iaload, 1, 0), (71, .iconst (-1), 1, (-1)), (72, .if_icmp .ne 7, 3, 0), (75, .iconst 0, 1, 0), (76, .goto 4, 3, 0), (79, .iconst 1, 1, 1), (80, .iadd, 1, 0), (81, .istore_n 1, 1, 0), (82, .iload_n 1, 1, 0), (83, .aload_n 0, 1, 0), (84, .getfield 42, 3, 0), (87, .aload_n 0, 1, 0), (88, .getfield 34, 3, 0), (91, .getfield 207, 3, 0), (94, .iaload, 1, 0), (95, .iconst (-1), 1, (-1)), (96, .if_icmp .ne 7, 3, 0), (99, .iconst 0, 1, 0), (100, .goto 4, 3, 0), (103, .iconst 1, 1, 1), (104, .iadd, 1, 0), (105, .istore_n 1, 1, 0), (106, .aload_n 0, 1, 0), (107, .getfield 34, 3, 0), (110, .getfield 275, 3, 0), (113, .iload_n 1, 1, 0), (114, .iadd, 1, 0), (115, .bipush 40, 2, 40), (117, .if_icmp .gt 7, 3, 0), (120, .iconst 1, 1, 1), (121, .goto 4, 3, 0), (124, .iconst 0, 1, 0), (125, .ireturn, 1, 0)], [(34, 8, 3, 4), (38, 8, 4, 4), (42, 8, 5, 4), (49, 8, 6, 2), (134, 4, 10, 0), (194, 1, 3, 1), (207, 1, 5, 0), (275, 1, 10, 0)], [], [], [], [(0, [0])], [], 1)
def f_St_fitAside : mm_F := fun args h => mm_ga [1] args (mm_gd 8 args h (mm_run p_St_fitAside (mm_fu + 1) 0 args [] h))
set_option maxRecDepth 100000 in
theorem e_St_fitAside_0 (f : Nat) (t : Nat) (h : mm_H) : mm_run p_St_fitAside (f + 1) 0 [.ref t] [] h =
  (mm_gr 8 3 h t).bind fun r1 =>
  (mm_gi 1 3 h r1).bind fun x2 =>
  if x2 = 0 then
    some (some (.int 1), h)
  else
    (mm_gr 8 3 h t).bind fun r3 =>
    (mm_gi 1 5 h r3).bind fun x4 =>
    (mm_gr 8 6 h t).bind fun r5 =>
    (mm_gi 4 10 h r5).bind fun x6 =>
    if x4 < x6 then
      (mm_gr 8 4 h t).bind fun r7 =>
      (mm_gr 8 3 h t).bind fun r8 =>
      (mm_gi 1 5 h r8).bind fun x9 =>
      (mm_li h r7 x9).bind fun x10 =>
      (mm_gr 8 5 h t).bind fun r11 =>
      (mm_gr 8 3 h t).bind fun r12 =>
      (mm_gi 1 5 h r12).bind fun x13 =>
      (mm_li h r11 x13).bind fun x14 =>
      if x10 = x14 then
        (mm_gr 8 3 h t).bind fun r15 =>
        (mm_gi 1 10 h r15).bind fun x16 =>
        if (40 : Int32) < (x16 + 0) then
          some (some (.int 0), h)
        else
          some (some (.int 1), h)
      else
        (mm_gr 8 4 h t).bind fun r17 =>
        (mm_gr 8 3 h t).bind fun r18 =>
        (mm_gi 1 5 h r18).bind fun x19 =>
        (mm_li h r17 x19).bind fun x20 =>
        if x20 = (-1) then
          (mm_gr 8 5 h t).bind fun r21 =>
          (mm_gr 8 3 h t).bind fun r22 =>
          (mm_gi 1 5 h r22).bind fun x23 =>
          (mm_li h r21 x23).bind fun x24 =>
          if x24 = (-1) then
            (mm_gr 8 3 h t).bind fun r25 =>
            (mm_gi 1 10 h r25).bind fun x26 =>
            if (40 : Int32) < (x26 + ((0 + 0) + 0)) then
              some (some (.int 0), h)
            else
              some (some (.int 1), h)
          else
            (mm_gr 8 3 h t).bind fun r27 =>
            (mm_gi 1 10 h r27).bind fun x28 =>
            if (40 : Int32) < (x28 + ((0 + 0) + 1)) then
              some (some (.int 0), h)
            else
              some (some (.int 1), h)
        else
          (mm_gr 8 5 h t).bind fun r29 =>
          (mm_gr 8 3 h t).bind fun r30 =>
          (mm_gi 1 5 h r30).bind fun x31 =>
          (mm_li h r29 x31).bind fun x32 =>
          if x32 = (-1) then
            (mm_gr 8 3 h t).bind fun r33 =>
            (mm_gi 1 10 h r33).bind fun x34 =>
            if (40 : Int32) < (x34 + ((0 + 1) + 0)) then
              some (some (.int 0), h)
            else
              some (some (.int 1), h)
          else
            (mm_gr 8 3 h t).bind fun r35 =>
            (mm_gi 1 10 h r35).bind fun x36 =>
            if (40 : Int32) < (x36 + ((0 + 1) + 1)) then
              some (some (.int 0), h)
            else
              some (some (.int 1), h)
    else
      some (some (.int 1), h) := rfl
theorem e_St_fitAside (t : Nat) (h : mm_H) {fs : List Value} (hb : h t = some (.inr (8, fs))) : f_St_fitAside [.ref t] h =
  (mm_gr 8 3 h t).bind fun r1 =>
  (mm_gi 1 3 h r1).bind fun x2 =>
  if x2 = 0 then
    some (some (.int 1), h)
  else
    (mm_gr 8 3 h t).bind fun r3 =>
    (mm_gi 1 5 h r3).bind fun x4 =>
    (mm_gr 8 6 h t).bind fun r5 =>
    (mm_gi 4 10 h r5).bind fun x6 =>
    if x4 < x6 then
      (mm_gr 8 4 h t).bind fun r7 =>
      (mm_gr 8 3 h t).bind fun r8 =>
      (mm_gi 1 5 h r8).bind fun x9 =>
      (mm_li h r7 x9).bind fun x10 =>
      (mm_gr 8 5 h t).bind fun r11 =>
      (mm_gr 8 3 h t).bind fun r12 =>
      (mm_gi 1 5 h r12).bind fun x13 =>
      (mm_li h r11 x13).bind fun x14 =>
      if x10 = x14 then
        (mm_gr 8 3 h t).bind fun r15 =>
        (mm_gi 1 10 h r15).bind fun x16 =>
        if (40 : Int32) < (x16 + 0) then
          some (some (.int 0), h)
        else
          some (some (.int 1), h)
      else
        (mm_gr 8 4 h t).bind fun r17 =>
        (mm_gr 8 3 h t).bind fun r18 =>
        (mm_gi 1 5 h r18).bind fun x19 =>
        (mm_li h r17 x19).bind fun x20 =>
        if x20 = (-1) then
          (mm_gr 8 5 h t).bind fun r21 =>
          (mm_gr 8 3 h t).bind fun r22 =>
          (mm_gi 1 5 h r22).bind fun x23 =>
          (mm_li h r21 x23).bind fun x24 =>
          if x24 = (-1) then
            (mm_gr 8 3 h t).bind fun r25 =>
            (mm_gi 1 10 h r25).bind fun x26 =>
            if (40 : Int32) < (x26 + ((0 + 0) + 0)) then
              some (some (.int 0), h)
            else
              some (some (.int 1), h)
          else
            (mm_gr 8 3 h t).bind fun r27 =>
            (mm_gi 1 10 h r27).bind fun x28 =>
            if (40 : Int32) < (x28 + ((0 + 0) + 1)) then
              some (some (.int 0), h)
            else
              some (some (.int 1), h)
        else
          (mm_gr 8 5 h t).bind fun r29 =>
          (mm_gr 8 3 h t).bind fun r30 =>
          (mm_gi 1 5 h r30).bind fun x31 =>
          (mm_li h r29 x31).bind fun x32 =>
          if x32 = (-1) then
            (mm_gr 8 3 h t).bind fun r33 =>
            (mm_gi 1 10 h r33).bind fun x34 =>
            if (40 : Int32) < (x34 + ((0 + 1) + 0)) then
              some (some (.int 0), h)
            else
              some (some (.int 1), h)
          else
            (mm_gr 8 3 h t).bind fun r35 =>
            (mm_gi 1 10 h r35).bind fun x36 =>
            if (40 : Int32) < (x36 + ((0 + 1) + 1)) then
              some (some (.int 0), h)
            else
              some (some (.int 1), h)
    else
      some (some (.int 1), h) := (mm_ga_is rfl).trans ((mm_gd_is hb).trans (e_St_fitAside_0 mm_fu t h))
set_option maxRecDepth 100000 in
theorem i_St_fitAside (l : Launch) : mm_Imp l yX8_fitAside cX8_fitAside 2 (some .boolean) 1 f_St_fitAside := mm_imp l (P := p_St_fitAside) mm_cls_ok mm_sys_ok (by decide) (mm_Pok_of (List.forall_mem_cons.mpr ⟨k_X8_34, (List.forall_mem_cons.mpr ⟨k_X8_38, (List.forall_mem_cons.mpr ⟨k_X8_42, (List.forall_mem_cons.mpr ⟨k_X8_49, (List.forall_mem_cons.mpr ⟨k_X8_134, (List.forall_mem_cons.mpr ⟨k_X8_194, (List.forall_mem_cons.mpr ⟨k_X8_207, (List.forall_mem_cons.mpr ⟨k_X8_275, (fun _ h => absurd h List.not_mem_nil)⟩)⟩)⟩)⟩)⟩)⟩)⟩)⟩) (fun _ h => absurd h List.not_mem_nil) (fun _ h => absurd h List.not_mem_nil) (fun _ h => absurd h List.not_mem_nil)) (by decide +kernel) rfl (cats := [1]) (fun as h r e => ⟨(mm_ga_inv e).1, (mm_gd_inv (mm_ga_inv e).2).1⟩) rfl (by decide)
theorem v_St_fitAside (l : Launch) {own : String} {i n0 : Nat} (hl : Cond.methodLink own i yX8_fitAside ∈ mm_tbl) (hn : 2 ≤ n0) : mm_cok l own n0 i (0, 0, 1, f_St_fitAside) := Or.inr (Or.inr ⟨rfl, yX8_fitAside, cX8_fitAside, 2, (some .boolean), 1, 8, TX8, 9, i_St_fitAside l, hn, by decide, by decide +kernel, rfl, fun _ _ _ e => (mm_gd_inv (mm_ga_inv e).2).2, hl, q_1057, q_30, q_174, q_1058⟩)
def p_Rw_takeBackLast : mm_P := ([(0, .aload_n 0, 1, 0), (1, .getfield 15, 3, 0), (4, .ifCond .le 30, 3, 0), (7, .aload_n 0, 1, 0), (8, .dup, 1, 0), (9, .getfield 15, 3, 0), (12, .iconst 1, 1, 1), (13, .isub, 1, 0), (14, .putfield 15, 3, 0), (17, .aload_n 0, 1, 0), (18, .dup, 1, 0), (19, .getfield 19, 3, 0), (22, .iconst 1, 1, 1), (23, .aload_n 0, 1, 0), (24, .getfield 15, 3, 0), (27, .ishl, 1, 0), (28, .iconst (-1), 1, (-1)), (29, .ixor, 1, 0), (30, .iand, 1, 0), (31, .putfield 19, 3, 0), (34, .return_, 1, 0)], [(15, 7, 1, 0), (19, 7, 2, 0)], [], [], [], [(0, [0])], [], 0)
def f_Rw_takeBackLast : mm_F := fun args h => mm_ga [1] args (mm_gd 7 args h (mm_run p_Rw_takeBackLast (mm_fu + 1) 0 args [] h))
set_option maxRecDepth 100000 in
theorem e_Rw_takeBackLast_0 (f : Nat) (t : Nat) (h : mm_H) : mm_run p_Rw_takeBackLast (f + 1) 0 [.ref t] [] h =
  (mm_gi 7 1 h t).bind fun x1 =>
  if (0 : Int32) < x1 then
    (mm_gi 7 1 h t).bind fun x2 =>
    (mm_pf 7 1 (.int (x2 - 1)) h t).bind fun h3 =>
    (mm_gi 7 2 h3 t).bind fun x4 =>
    (mm_gi 7 1 h3 t).bind fun x5 =>
    (mm_pf 7 2 (.int (x4 &&& ((1 <<< (x5 &&& 31)) ^^^ (-1)))) h3 t).bind fun h6 =>
    some (none, h6)
  else
    some (none, h) := rfl
theorem e_Rw_takeBackLast (t : Nat) (h : mm_H) {fs : List Value} (hb : h t = some (.inr (7, fs))) : f_Rw_takeBackLast [.ref t] h =
  (mm_gi 7 1 h t).bind fun x1 =>
  if (0 : Int32) < x1 then
    (mm_gi 7 1 h t).bind fun x2 =>
    (mm_pf 7 1 (.int (x2 - 1)) h t).bind fun h3 =>
    (mm_gi 7 2 h3 t).bind fun x4 =>
    (mm_gi 7 1 h3 t).bind fun x5 =>
    (mm_pf 7 2 (.int (x4 &&& ((1 <<< (x5 &&& 31)) ^^^ (-1)))) h3 t).bind fun h6 =>
    some (none, h6)
  else
    some (none, h) := (mm_ga_is rfl).trans ((mm_gd_is hb).trans (e_Rw_takeBackLast_0 mm_fu t h))
set_option maxRecDepth 100000 in
theorem i_Rw_takeBackLast (l : Launch) : mm_Imp l yX7_takeBackLast cX7_takeBackLast 1 none 1 f_Rw_takeBackLast := mm_imp l (P := p_Rw_takeBackLast) mm_cls_ok mm_sys_ok (by decide) (mm_Pok_of (List.forall_mem_cons.mpr ⟨k_X7_15, (List.forall_mem_cons.mpr ⟨k_X7_19, (fun _ h => absurd h List.not_mem_nil)⟩)⟩) (fun _ h => absurd h List.not_mem_nil) (fun _ h => absurd h List.not_mem_nil) (fun _ h => absurd h List.not_mem_nil)) (by decide +kernel) rfl (cats := [1]) (fun as h r e => ⟨(mm_ga_inv e).1, (mm_gd_inv (mm_ga_inv e).2).1⟩) rfl (by decide)
theorem v_Rw_takeBackLast (l : Launch) {own : String} {i n0 : Nat} (hl : Cond.methodLink own i yX7_takeBackLast ∈ mm_tbl) (hn : 2 ≤ n0) : mm_cok l own n0 i (0, 0, 0, f_Rw_takeBackLast) := Or.inr (Or.inr ⟨rfl, yX7_takeBackLast, cX7_takeBackLast, 1, none, 1, 7, TX7, 4, i_Rw_takeBackLast l, hn, by decide, by decide +kernel, rfl, fun _ _ _ e => (mm_gd_inv (mm_ga_inv e).2).2, hl, q_1060, q_1061, q_175, q_1062⟩)
def p_St_takeEntry : mm_P := ([(0, .iload_n 3, 1, 0), (1, .iconst (-1), 1, (-1)), (2, .if_icmp .ne 4, 3, 0), (5, .return_, 1, 0), (6, .aload_n 0, 1, 0), (7, .getfield 34, 3, 0), (10, .iload_n 1, 1, 0), (11, .invokevirtual 284, 3, 0), (14, .ifCond .eq 32, 3, 0), (17, .aload_n 0, 1, 0), (18, .getfield 34, 3, 0), (21, .sipush 1000, 3, 1000), (24, .iload_n 2, 1, 0), (25, .imul, 1, 0), (26, .iload_n 3, 1, 0), (27, .iadd, 1, 0), (28, .ldc_w 287, 3, 0), (31, .isub, 1, 0), (32, .invokevirtual 288, 3, 0), (35, .aload_n 0, 1, 0), (36, .dup, 1, 0), (37, .getfield 45, 3, 0), (40, .iconst 1, 1, 1), (41, .iadd, 1, 0), (42, .putfield 45, 3, 0), (45, .return_, 1, 0), (46, .aload_n 0, 1, 0), (47, .dup, 1, 0), (48, .getfield 45, 3, 0), (51, .aload_n 0, 1, 0), (52, .getfield 27, 3, 0), (55, .iload_n 1, 1, 0), (56, .aaload, 1, 0), (57, .invokevirtual 225, 3, 0), (60, .iconst 2, 1, 2), (61, .iadd, 1, 0), (62, .iadd, 1, 0), (63, .putfield 45, 3, 0), (66, .aload_n 0, 1, 0), (67, .getfield 27, 3, 0), (70, .iload_n 1, 1, 0), (71, .aaload, 1, 0), (72, .aload_n 0, 1, 0), (73, .getfield 27, 3, 0), (76, .iload_n 1, 1, 0), (77, .aaload, 1, 0), (78, .iload_n 3, 1, 0), (79, .iload_n 2, 1, 0), (80, .invokevirtual 137, 3, 0), (83, .invokevirtual 291, 3, 0), (86, .return_, 1, 0)], [(27, 8, 2, 4), (34, 8, 3, 4), (45, 8, 8, 0)], [(137, 0, 2, 1, f_Lv_code), (225, 0, 0, 1, f_Lv_height), (284, 0, 1, 1, f_Jb_isAt), (288, 0, 1, 0, f_Jb_lay), (291, 0, 1, 0, f_Lv_take)], [(287, 40000)], [], [(0, [0, 1, 2, 3])], [], 0)
def f_St_takeEntry : mm_F := fun args h => mm_ga [1, 1, 1, 1] args (mm_gd 8 args h (mm_run p_St_takeEntry (mm_fu + 1) 0 args [] h))
set_option maxRecDepth 100000 in
theorem e_St_takeEntry_0 (f : Nat) (t : Nat) (v1 : Int32) (v2 : Int32) (v3 : Int32) (h : mm_H) : mm_run p_St_takeEntry (f + 1) 0 [.ref t, .int v1, .int v2, .int v3] [] h =
  if v3 = (-1) then
    some (none, h)
  else
    (mm_gr 8 3 h t).bind fun r1 =>
    mm_ci (f_Jb_isAt [.ref r1, .int v1] h) fun x3 h2 =>
    if x3 = 0 then
      (mm_gi 8 8 h2 t).bind fun x4 =>
      (mm_gr 8 2 h2 t).bind fun r5 =>
      (mm_lr h2 r5 v1).bind fun r6 =>
      mm_ci (f_Lv_height [.ref r6] h2) fun x8 h7 =>
      (mm_pf 8 8 (.int (x4 + (x8 + 2))) h7 t).bind fun h9 =>
      (mm_gr 8 2 h9 t).bind fun r10 =>
      (mm_lr h9 r10 v1).bind fun r11 =>
      (mm_gr 8 2 h9 t).bind fun r12 =>
      (mm_lr h9 r12 v1).bind fun r13 =>
      mm_ci (f_Lv_code [.ref r13, .int v3, .int v2] h9) fun x15 h14 =>
      mm_cv (f_Lv_take [.ref r11, .int x15] h14) fun h16 =>
      some (none, h16)
    else
      (mm_gr 8 3 h2 t).bind fun r17 =>
      mm_cv (f_Jb_lay [.ref r17, .int (((1000 * v2) + v3) - 40000)] h2) fun h18 =>
      (mm_gi 8 8 h18 t).bind fun x19 =>
      (mm_pf 8 8 (.int (x19 + 1)) h18 t).bind fun h20 =>
      some (none, h20) := rfl
theorem e_St_takeEntry (t : Nat) (v1 : Int32) (v2 : Int32) (v3 : Int32) (h : mm_H) {fs : List Value} (hb : h t = some (.inr (8, fs))) : f_St_takeEntry [.ref t, .int v1, .int v2, .int v3] h =
  if v3 = (-1) then
    some (none, h)
  else
    (mm_gr 8 3 h t).bind fun r1 =>
    mm_ci (f_Jb_isAt [.ref r1, .int v1] h) fun x3 h2 =>
    if x3 = 0 then
      (mm_gi 8 8 h2 t).bind fun x4 =>
      (mm_gr 8 2 h2 t).bind fun r5 =>
      (mm_lr h2 r5 v1).bind fun r6 =>
      mm_ci (f_Lv_height [.ref r6] h2) fun x8 h7 =>
      (mm_pf 8 8 (.int (x4 + (x8 + 2))) h7 t).bind fun h9 =>
      (mm_gr 8 2 h9 t).bind fun r10 =>
      (mm_lr h9 r10 v1).bind fun r11 =>
      (mm_gr 8 2 h9 t).bind fun r12 =>
      (mm_lr h9 r12 v1).bind fun r13 =>
      mm_ci (f_Lv_code [.ref r13, .int v3, .int v2] h9) fun x15 h14 =>
      mm_cv (f_Lv_take [.ref r11, .int x15] h14) fun h16 =>
      some (none, h16)
    else
      (mm_gr 8 3 h2 t).bind fun r17 =>
      mm_cv (f_Jb_lay [.ref r17, .int (((1000 * v2) + v3) - 40000)] h2) fun h18 =>
      (mm_gi 8 8 h18 t).bind fun x19 =>
      (mm_pf 8 8 (.int (x19 + 1)) h18 t).bind fun h20 =>
      some (none, h20) := (mm_ga_is rfl).trans ((mm_gd_is hb).trans (e_St_takeEntry_0 mm_fu t v1 v2 v3 h))
set_option maxRecDepth 100000 in
theorem i_St_takeEntry (l : Launch) : mm_Imp l yX8_takeEntry cX8_takeEntry 4 none 3 f_St_takeEntry := mm_imp l (P := p_St_takeEntry) mm_cls_ok mm_sys_ok (by decide) (mm_Pok_of (List.forall_mem_cons.mpr ⟨k_X8_27, (List.forall_mem_cons.mpr ⟨k_X8_34, (List.forall_mem_cons.mpr ⟨k_X8_45, (fun _ h => absurd h List.not_mem_nil)⟩)⟩)⟩) (List.forall_mem_cons.mpr ⟨v_Lv_code l q_908 (by decide), (List.forall_mem_cons.mpr ⟨v_Lv_height l q_1080 (by decide), (List.forall_mem_cons.mpr ⟨v_Jb_isAt l q_1071 (by decide), (List.forall_mem_cons.mpr ⟨v_Jb_lay l q_1076 (by decide), (List.forall_mem_cons.mpr ⟨v_Lv_take l q_1081 (by decide), (fun _ h => absurd h List.not_mem_nil)⟩)⟩)⟩)⟩)⟩) (List.forall_mem_cons.mpr ⟨q_1075, (fun _ h => absurd h List.not_mem_nil)⟩) (fun _ h => absurd h List.not_mem_nil)) (by decide +kernel) rfl (cats := [1, 1, 1, 1]) (fun as h r e => ⟨(mm_ga_inv e).1, (mm_gd_inv (mm_ga_inv e).2).1⟩) rfl (by decide)
theorem v_St_takeEntry (l : Launch) {own : String} {i n0 : Nat} (hl : Cond.methodLink own i yX8_takeEntry ∈ mm_tbl) (hn : 4 ≤ n0) : mm_cok l own n0 i (0, 3, 0, f_St_takeEntry) := Or.inr (Or.inr ⟨rfl, yX8_takeEntry, cX8_takeEntry, 4, none, 3, 8, TX8, 9, i_St_takeEntry l, hn, by decide, by decide +kernel, rfl, fun _ _ _ e => (mm_gd_inv (mm_ga_inv e).2).2, hl, q_1069, q_32, q_174, q_1070⟩)
def p_St_putEntry : mm_P := ([(0, .iload_n 3, 1, 0), (1, .iconst (-1), 1, (-1)), (2, .if_icmp .ne 4, 3, 0), (5, .return_, 1, 0), (6, .aload_n 0, 1, 0), (7, .getfield 34, 3, 0), (10, .iload_n 1, 1, 0), (11, .invokevirtual 284, 3, 0), (14, .ifCond .eq 28, 3, 0), (17, .aload_n 0, 1, 0), (18, .getfield 34, 3, 0), (21, .sipush 1000, 3, 1000), (24, .iload_n 2, 1, 0), (25, .imul, 1, 0), (26, .iload_n 3, 1, 0), (27, .iadd, 1, 0), (28, .invokevirtual 288, 3, 0), (31, .aload_n 0, 1, 0), (32, .dup, 1, 0), (33, .getfield 45, 3, 0), (36, .iconst 1, 1, 1), (37, .iadd, 1, 0), (38, .putfield 45, 3, 0), (41, .return_, 1, 0), (42, .aload_n 0, 1, 0), (43, .dup, 1, 0), (44, .getfield 45, 3, 0), (47, .aload_n 0, 1, 0), (48, .getfield 27, 3, 0), (51, .iload_n 1, 1, 0), (52, .aaload, 1, 0), (53, .invokevirtual 225, 3, 0), (56, .iconst 2, 1, 2), (57, .iadd, 1, 0), (58, .iadd, 1, 0), (59, .putfield 45, 3, 0), (62, .aload_n 0, 1, 0), (63, .getfield 27, 3, 0), (66, .iload_n 1, 1, 0), (67, .aaload, 1, 0), (68, .aload_n 0, 1, 0), (69, .getfield 27, 3, 0), (72, .iload_n 1, 1, 0), (73, .aaload, 1, 0), (74, .iload_n 3, 1, 0), (75, .iload_n 2, 1, 0), (76, .invokevirtual 137, 3, 0), (79, .invokevirtual 140, 3, 0), (82, .return_, 1, 0)], [(27, 8, 2, 4), (34, 8, 3, 4), (45, 8, 8, 0)], [(137, 0, 2, 1, f_Lv_code), (140, 0, 1, 0, f_Lv_put), (225, 0, 0, 1, f_Lv_height), (284, 0, 1, 1, f_Jb_isAt), (288, 0, 1, 0, f_Jb_lay)], [], [], [(0, [0, 1, 2, 3])], [], 0)
def f_St_putEntry : mm_F := fun args h => mm_ga [1, 1, 1, 1] args (mm_gd 8 args h (mm_run p_St_putEntry (mm_fu + 1) 0 args [] h))
set_option maxRecDepth 100000 in
theorem e_St_putEntry_0 (f : Nat) (t : Nat) (v1 : Int32) (v2 : Int32) (v3 : Int32) (h : mm_H) : mm_run p_St_putEntry (f + 1) 0 [.ref t, .int v1, .int v2, .int v3] [] h =
  if v3 = (-1) then
    some (none, h)
  else
    (mm_gr 8 3 h t).bind fun r1 =>
    mm_ci (f_Jb_isAt [.ref r1, .int v1] h) fun x3 h2 =>
    if x3 = 0 then
      (mm_gi 8 8 h2 t).bind fun x4 =>
      (mm_gr 8 2 h2 t).bind fun r5 =>
      (mm_lr h2 r5 v1).bind fun r6 =>
      mm_ci (f_Lv_height [.ref r6] h2) fun x8 h7 =>
      (mm_pf 8 8 (.int (x4 + (x8 + 2))) h7 t).bind fun h9 =>
      (mm_gr 8 2 h9 t).bind fun r10 =>
      (mm_lr h9 r10 v1).bind fun r11 =>
      (mm_gr 8 2 h9 t).bind fun r12 =>
      (mm_lr h9 r12 v1).bind fun r13 =>
      mm_ci (f_Lv_code [.ref r13, .int v3, .int v2] h9) fun x15 h14 =>
      mm_cv (f_Lv_put [.ref r11, .int x15] h14) fun h16 =>
      some (none, h16)
    else
      (mm_gr 8 3 h2 t).bind fun r17 =>
      mm_cv (f_Jb_lay [.ref r17, .int ((1000 * v2) + v3)] h2) fun h18 =>
      (mm_gi 8 8 h18 t).bind fun x19 =>
      (mm_pf 8 8 (.int (x19 + 1)) h18 t).bind fun h20 =>
      some (none, h20) := rfl
theorem e_St_putEntry (t : Nat) (v1 : Int32) (v2 : Int32) (v3 : Int32) (h : mm_H) {fs : List Value} (hb : h t = some (.inr (8, fs))) : f_St_putEntry [.ref t, .int v1, .int v2, .int v3] h =
  if v3 = (-1) then
    some (none, h)
  else
    (mm_gr 8 3 h t).bind fun r1 =>
    mm_ci (f_Jb_isAt [.ref r1, .int v1] h) fun x3 h2 =>
    if x3 = 0 then
      (mm_gi 8 8 h2 t).bind fun x4 =>
      (mm_gr 8 2 h2 t).bind fun r5 =>
      (mm_lr h2 r5 v1).bind fun r6 =>
      mm_ci (f_Lv_height [.ref r6] h2) fun x8 h7 =>
      (mm_pf 8 8 (.int (x4 + (x8 + 2))) h7 t).bind fun h9 =>
      (mm_gr 8 2 h9 t).bind fun r10 =>
      (mm_lr h9 r10 v1).bind fun r11 =>
      (mm_gr 8 2 h9 t).bind fun r12 =>
      (mm_lr h9 r12 v1).bind fun r13 =>
      mm_ci (f_Lv_code [.ref r13, .int v3, .int v2] h9) fun x15 h14 =>
      mm_cv (f_Lv_put [.ref r11, .int x15] h14) fun h16 =>
      some (none, h16)
    else
      (mm_gr 8 3 h2 t).bind fun r17 =>
      mm_cv (f_Jb_lay [.ref r17, .int ((1000 * v2) + v3)] h2) fun h18 =>
      (mm_gi 8 8 h18 t).bind fun x19 =>
      (mm_pf 8 8 (.int (x19 + 1)) h18 t).bind fun h20 =>
      some (none, h20) := (mm_ga_is rfl).trans ((mm_gd_is hb).trans (e_St_putEntry_0 mm_fu t v1 v2 v3 h))
set_option maxRecDepth 100000 in
theorem i_St_putEntry (l : Launch) : mm_Imp l yX8_putEntry cX8_putEntry 4 none 3 f_St_putEntry := mm_imp l (P := p_St_putEntry) mm_cls_ok mm_sys_ok (by decide) (mm_Pok_of (List.forall_mem_cons.mpr ⟨k_X8_27, (List.forall_mem_cons.mpr ⟨k_X8_34, (List.forall_mem_cons.mpr ⟨k_X8_45, (fun _ h => absurd h List.not_mem_nil)⟩)⟩)⟩) (List.forall_mem_cons.mpr ⟨v_Lv_code l q_908 (by decide), (List.forall_mem_cons.mpr ⟨v_Lv_put l q_912 (by decide), (List.forall_mem_cons.mpr ⟨v_Lv_height l q_1080 (by decide), (List.forall_mem_cons.mpr ⟨v_Jb_isAt l q_1071 (by decide), (List.forall_mem_cons.mpr ⟨v_Jb_lay l q_1076 (by decide), (fun _ h => absurd h List.not_mem_nil)⟩)⟩)⟩)⟩)⟩) (fun _ h => absurd h List.not_mem_nil) (fun _ h => absurd h List.not_mem_nil)) (by decide +kernel) rfl (cats := [1, 1, 1, 1]) (fun as h r e => ⟨(mm_ga_inv e).1, (mm_gd_inv (mm_ga_inv e).2).1⟩) rfl (by decide)
theorem v_St_putEntry (l : Launch) {own : String} {i n0 : Nat} (hl : Cond.methodLink own i yX8_putEntry ∈ mm_tbl) (hn : 4 ≤ n0) : mm_cok l own n0 i (0, 3, 0, f_St_putEntry) := Or.inr (Or.inr ⟨rfl, yX8_putEntry, cX8_putEntry, 4, none, 3, 8, TX8, 9, i_St_putEntry l, hn, by decide, by decide +kernel, rfl, fun _ _ _ e => (mm_gd_inv (mm_ga_inv e).2).2, hl, q_1091, q_34, q_174, q_1092⟩)
def p_St_moveEntries : mm_P := ([(0, .iconst 0, 1, 0), (1, .istore_n 2, 1, 0), (2, .iload_n 2, 1, 0), (3, .aload_n 0, 1, 0), (4, .getfield 49, 3, 0), (7, .getfield 134, 3, 0), (10, .if_icmp .ge 48, 3, 0), (13, .aload_n 0, 1, 0), (14, .getfield 38, 3, 0), (17, .iload_n 2, 1, 0), (18, .iaload, 1, 0), (19, .aload_n 0, 1, 0), (20, .getfield 42, 3, 0), (23, .iload_n 2, 1, 0), (24, .iaload, 1, 0), (25, .if_icmp .eq 27, 3, 0), (28, .aload_n 0, 1, 0), (29, .iload_n 2, 1, 0), (30, .iload_n 1, 1, 0), (31, .aload_n 0, 1, 0), (32, .getfield 38, 3, 0), (35, .iload_n 2, 1, 0), (36, .iaload, 1, 0), (37, .invokevirtual 278, 3, 0), (40, .aload_n 0, 1, 0), (41, .iload_n 2, 1, 0), (42, .iload_n 1, 1, 0), (43, .aload_n 0, 1, 0), (44, .getfield 42, 3, 0), (47, .iload_n 2, 1, 0), (48, .iaload, 1, 0), (49, .invokevirtual 281, 3, 0), (52, .iinc 2 1, 3, 1), (55, .goto (-53), 3, 0), (58, .return_, 1, 0)], [(38, 8, 4, 4), (42, 8, 5, 4), (49, 8, 6, 2), (134, 4, 10, 0)], [(278, 0, 3, 0, f_St_takeEntry), (281, 0, 3, 0, f_St_putEntry)], [], [], [(0, [0, 1]), (2, [0, 1, 2])], [], 0)
def f_St_moveEntries : mm_F := fun args h => mm_ga [1, 1] args (mm_gd 8 args h (mm_run p_St_moveEntries (mm_fu + 1) 0 args [] h))
set_option maxRecDepth 100000 in
theorem e_St_moveEntries_0 (f : Nat) (t : Nat) (v1 : Int32) (h : mm_H) : mm_run p_St_moveEntries (f + 1) 0 [.ref t, .int v1] [] h =
  mm_run p_St_moveEntries f 2 [.ref t, .int v1, .int 0] [] h := rfl
theorem e_St_moveEntries (t : Nat) (v1 : Int32) (h : mm_H) {fs : List Value} (hb : h t = some (.inr (8, fs))) : f_St_moveEntries [.ref t, .int v1] h =
  mm_run p_St_moveEntries mm_fu 2 [.ref t, .int v1, .int 0] [] h := (mm_ga_is rfl).trans ((mm_gd_is hb).trans (e_St_moveEntries_0 mm_fu t v1 h))
set_option maxRecDepth 100000 in
theorem e_St_moveEntries_2 (f : Nat) (t : Nat) (v1 : Int32) (v2 : Int32) (h : mm_H) : mm_run p_St_moveEntries (f + 1) 2 [.ref t, .int v1, .int v2] [] h =
  (mm_gr 8 6 h t).bind fun r1 =>
  (mm_gi 4 10 h r1).bind fun x2 =>
  if v2 < x2 then
    (mm_gr 8 4 h t).bind fun r3 =>
    (mm_li h r3 v2).bind fun x4 =>
    (mm_gr 8 5 h t).bind fun r5 =>
    (mm_li h r5 v2).bind fun x6 =>
    if x4 = x6 then
      mm_run p_St_moveEntries f 2 [.ref t, .int v1, .int (v2 + 1)] [] h
    else
      (mm_gr 8 4 h t).bind fun r7 =>
      (mm_li h r7 v2).bind fun x8 =>
      mm_cv (f_St_takeEntry [.ref t, .int v2, .int v1, .int x8] h) fun h9 =>
      (mm_gr 8 5 h9 t).bind fun r10 =>
      (mm_li h9 r10 v2).bind fun x11 =>
      mm_cv (f_St_putEntry [.ref t, .int v2, .int v1, .int x11] h9) fun h12 =>
      mm_run p_St_moveEntries f 2 [.ref t, .int v1, .int (v2 + 1)] [] h12
  else
    some (none, h) := rfl
set_option maxRecDepth 100000 in
theorem i_St_moveEntries (l : Launch) : mm_Imp l yX8_moveEntries cX8_moveEntries 3 none 4 f_St_moveEntries := mm_imp l (P := p_St_moveEntries) mm_cls_ok mm_sys_ok (by decide) (mm_Pok_of (List.forall_mem_cons.mpr ⟨k_X8_38, (List.forall_mem_cons.mpr ⟨k_X8_42, (List.forall_mem_cons.mpr ⟨k_X8_49, (List.forall_mem_cons.mpr ⟨k_X8_134, (fun _ h => absurd h List.not_mem_nil)⟩)⟩)⟩)⟩) (List.forall_mem_cons.mpr ⟨v_St_takeEntry l q_1067 (by decide), (List.forall_mem_cons.mpr ⟨v_St_putEntry l q_1089 (by decide), (fun _ h => absurd h List.not_mem_nil)⟩)⟩) (fun _ h => absurd h List.not_mem_nil) (fun _ h => absurd h List.not_mem_nil)) (by decide +kernel) rfl (cats := [1, 1]) (fun as h r e => ⟨(mm_ga_inv e).1, (mm_gd_inv (mm_ga_inv e).2).1⟩) rfl (by decide)
theorem v_St_moveEntries (l : Launch) {own : String} {i n0 : Nat} (hl : Cond.methodLink own i yX8_moveEntries ∈ mm_tbl) (hn : 5 ≤ n0) : mm_cok l own n0 i (0, 1, 0, f_St_moveEntries) := Or.inr (Or.inr ⟨rfl, yX8_moveEntries, cX8_moveEntries, 3, none, 4, 8, TX8, 9, i_St_moveEntries l, hn, by decide, by decide +kernel, rfl, fun _ _ _ e => (mm_gd_inv (mm_ga_inv e).2).2, hl, q_1065, q_31, q_174, q_1066⟩)
def p_St_admit : mm_P := ([(0, .iload_n 1, 1, 0), (1, .iload_n 2, 1, 0), (2, .iload_n 3, 1, 0), (3, .invokestatic 231, 3, 0), (6, .ifCond .eq 15, 3, 0), (9, .aload_n 0, 1, 0), (10, .getfield 12, 3, 0), (13, .getfield 150, 3, 0), (16, .bipush 30, 2, 30), (18, .if_icmp .lt 5, 3, 0), (21, .iconst (-1), 1, (-1)), (22, .ireturn, 1, 0), (23, .aload_n 0, 1, 0), (24, .iconst 0, 1, 0), (25, .iload_n 1, 1, 0), (26, .invokevirtual 235, 3, 0), (29, .aload_n 0, 1, 0), (30, .iconst 1, 1, 1), (31, .iload_n 2, 1, 0), (32, .invokevirtual 235, 3, 0), (35, .ior, 1, 0), (36, .aload_n 0, 1, 0), (37, .iconst 2, 1, 2), (38, .iload_n 3, 1, 0), (39, .invokevirtual 235, 3, 0), (42, .ior, 1, 0), (43, .ifCond .eq 5, 3, 0), (46, .iconst (-1), 1, (-1)), (47, .ireturn, 1, 0), (48, .aload_n 0, 1, 0), (49, .getfield 12, 3, 0), (52, .iload_n 1, 1, 0), (53, .iload_n 2, 1, 0), (54, .iload_n 3, 1, 0), (55, .invokevirtual 117, 3, 0), (58, .istore 4, 2, 0), (60, .aload_n 0, 1, 0), (61, .aload_n 0, 1, 0), (62, .getfield 38, 3, 0), (65, .invokevirtual 238, 3, 0), (68, .aload_n 0, 1, 0), (69, .iload 4, 2, 0), (71, .aload_n 0, 1, 0), (72, .getfield 49, 3, 0), (75, .getfield 120, 3, 0), (78, .aload_n 0, 1, 0), (79, .iload 4, 2, 0), (81, .invokevirtual 124, 3, 0), (84, .aload_n 0, 1, 0), (85, .getfield 42, 3, 0), (88, .invokevirtual 130, 3, 0), (91, .aload_n 0, 1, 0), (92, .invokevirtual 242, 3, 0), (95, .ifCond .ne 12, 3, 0), (98, .aload_n 0, 1, 0), (99, .getfield 12, 3, 0), (102, .invokevirtual 245, 3, 0), (105, .iconst (-1), 1, (-1)), (106, .ireturn, 1, 0), (107, .aload_n 0, 1, 0), (108, .iload 4, 2, 0), (110, .invokevirtual 248, 3, 0), (113, .iload 4, 2, 0), (115, .ireturn, 1, 0)], [(12, 8, 0, 4), (38, 8, 4, 4), (42, 8, 5, 4), (49, 8, 6, 2), (120, 4, 7, 4), (150, 7, 1, 0)], [(117, 0, 3, 1, f_Rw_add), (124, 0, 2, 1, f_Wh_holds), (130, 0, 3, 0, f_St_entriesOf), (231, 1, 3, 1, f_Ls_areValues), (235, 0, 2, 1, f_St_onceClashes), (238, 0, 1, 0, f_St_noEntries), (242, 0, 0, 1, f_St_fitAside), (245, 0, 0, 0, f_Rw_takeBackLast), (248, 0, 1, 0, f_St_moveEntries)], [], [], [(0, [0, 1, 2, 3])], [], 2)
def f_St_admit : mm_F := fun args h => mm_ga [1, 1, 1, 1] args (mm_gd 8 args h (mm_run p_St_admit (mm_fu + 1) 0 args [] h))
set_option maxRecDepth 100000 in
theorem e_St_admit_0 (f : Nat) (t : Nat) (v1 : Int32) (v2 : Int32) (v3 : Int32) (h : mm_H) : mm_run p_St_admit (f + 1) 0 [.ref t, .int v1, .int v2, .int v3] [] h =
  mm_ci (f_Ls_areValues [.int v1, .int v2, .int v3] h) fun x2 h1 =>
  if x2 = 0 then
    some (some (.int (-1)), h1)
  else
    (mm_gr 8 0 h1 t).bind fun r3 =>
    (mm_gi 7 1 h1 r3).bind fun x4 =>
    if x4 < 30 then
      mm_ci (f_St_onceClashes [.ref t, .int 0, .int v1] h1) fun x6 h5 =>
      mm_ci (f_St_onceClashes [.ref t, .int 1, .int v2] h5) fun x8 h7 =>
      mm_ci (f_St_onceClashes [.ref t, .int 2, .int v3] h7) fun x10 h9 =>
      if ((x6 ||| x8) ||| x10) = 0 then
        (mm_gr 8 0 h9 t).bind fun r11 =>
        mm_ci (f_Rw_add [.ref r11, .int v1, .int v2, .int v3] h9) fun x13 h12 =>
        (mm_gr 8 4 h12 t).bind fun r14 =>
        mm_cv (f_St_noEntries [.ref t, .ref r14] h12) fun h15 =>
        (mm_gr 8 6 h15 t).bind fun r16 =>
        (mm_gr 4 7 h15 r16).bind fun r17 =>
        mm_ci (f_Wh_holds [.ref r17, .ref t, .int x13] h15) fun x19 h18 =>
        (mm_gr 8 5 h18 t).bind fun r20 =>
        mm_cv (f_St_entriesOf [.ref t, .int x13, .int x19, .ref r20] h18) fun h21 =>
        mm_ci (f_St_fitAside [.ref t] h21) fun x23 h22 =>
        if x23 = 0 then
          (mm_gr 8 0 h22 t).bind fun r24 =>
          mm_cv (f_Rw_takeBackLast [.ref r24] h22) fun h25 =>
          some (some (.int (-1)), h25)
        else
          mm_cv (f_St_moveEntries [.ref t, .int x13] h22) fun h26 =>
          some (some (.int x13), h26)
      else
        some (some (.int (-1)), h9)
    else
      some (some (.int (-1)), h1) := rfl
theorem e_St_admit (t : Nat) (v1 : Int32) (v2 : Int32) (v3 : Int32) (h : mm_H) {fs : List Value} (hb : h t = some (.inr (8, fs))) : f_St_admit [.ref t, .int v1, .int v2, .int v3] h =
  mm_ci (f_Ls_areValues [.int v1, .int v2, .int v3] h) fun x2 h1 =>
  if x2 = 0 then
    some (some (.int (-1)), h1)
  else
    (mm_gr 8 0 h1 t).bind fun r3 =>
    (mm_gi 7 1 h1 r3).bind fun x4 =>
    if x4 < 30 then
      mm_ci (f_St_onceClashes [.ref t, .int 0, .int v1] h1) fun x6 h5 =>
      mm_ci (f_St_onceClashes [.ref t, .int 1, .int v2] h5) fun x8 h7 =>
      mm_ci (f_St_onceClashes [.ref t, .int 2, .int v3] h7) fun x10 h9 =>
      if ((x6 ||| x8) ||| x10) = 0 then
        (mm_gr 8 0 h9 t).bind fun r11 =>
        mm_ci (f_Rw_add [.ref r11, .int v1, .int v2, .int v3] h9) fun x13 h12 =>
        (mm_gr 8 4 h12 t).bind fun r14 =>
        mm_cv (f_St_noEntries [.ref t, .ref r14] h12) fun h15 =>
        (mm_gr 8 6 h15 t).bind fun r16 =>
        (mm_gr 4 7 h15 r16).bind fun r17 =>
        mm_ci (f_Wh_holds [.ref r17, .ref t, .int x13] h15) fun x19 h18 =>
        (mm_gr 8 5 h18 t).bind fun r20 =>
        mm_cv (f_St_entriesOf [.ref t, .int x13, .int x19, .ref r20] h18) fun h21 =>
        mm_ci (f_St_fitAside [.ref t] h21) fun x23 h22 =>
        if x23 = 0 then
          (mm_gr 8 0 h22 t).bind fun r24 =>
          mm_cv (f_Rw_takeBackLast [.ref r24] h22) fun h25 =>
          some (some (.int (-1)), h25)
        else
          mm_cv (f_St_moveEntries [.ref t, .int x13] h22) fun h26 =>
          some (some (.int x13), h26)
      else
        some (some (.int (-1)), h9)
    else
      some (some (.int (-1)), h1) := (mm_ga_is rfl).trans ((mm_gd_is hb).trans (e_St_admit_0 mm_fu t v1 v2 v3 h))
set_option maxRecDepth 100000 in
theorem i_St_admit (l : Launch) : mm_Imp l yX8_admit cX8_admit 5 (some .int) 5 f_St_admit := mm_imp l (P := p_St_admit) mm_cls_ok mm_sys_ok (by decide) (mm_Pok_of (List.forall_mem_cons.mpr ⟨k_X8_12, (List.forall_mem_cons.mpr ⟨k_X8_38, (List.forall_mem_cons.mpr ⟨k_X8_42, (List.forall_mem_cons.mpr ⟨k_X8_49, (List.forall_mem_cons.mpr ⟨k_X8_120, (List.forall_mem_cons.mpr ⟨k_X8_150, (fun _ h => absurd h List.not_mem_nil)⟩)⟩)⟩)⟩)⟩)⟩) (List.forall_mem_cons.mpr ⟨v_Rw_add l q_867 (by decide), (List.forall_mem_cons.mpr ⟨v_Wh_holds l q_879 (by decide), (List.forall_mem_cons.mpr ⟨v_St_entriesOf l q_899 (by decide), (List.forall_mem_cons.mpr ⟨v_Ls_areValues l (Or.inr ⟨"LeafSweep", by simp [mm_nest, yX11_areValues, yX8_admit, RX8, RX11]⟩) (by decide), (List.forall_mem_cons.mpr ⟨v_St_onceClashes l q_1046 (by decide), (List.forall_mem_cons.mpr ⟨v_St_noEntries l q_903 (by decide), (List.forall_mem_cons.mpr ⟨v_St_fitAside l q_1055 (by decide), (List.forall_mem_cons.mpr ⟨v_Rw_takeBackLast l q_1059 (by decide), (List.forall_mem_cons.mpr ⟨v_St_moveEntries l q_1063 (by decide), (fun _ h => absurd h List.not_mem_nil)⟩)⟩)⟩)⟩)⟩)⟩)⟩)⟩)⟩) (fun _ h => absurd h List.not_mem_nil) (fun _ h => absurd h List.not_mem_nil)) (by decide +kernel) rfl (cats := [1, 1, 1, 1]) (fun as h r e => ⟨(mm_ga_inv e).1, (mm_gd_inv (mm_ga_inv e).2).1⟩) rfl (by decide)
theorem v_St_admit (l : Launch) {own : String} {i n0 : Nat} (hl : Cond.methodLink own i yX8_admit ∈ mm_tbl) (hn : 6 ≤ n0) : mm_cok l own n0 i (0, 3, 1, f_St_admit) := Or.inr (Or.inr ⟨rfl, yX8_admit, cX8_admit, 5, (some .int), 5, 8, TX8, 9, i_St_admit l, hn, by decide, by decide +kernel, rfl, fun _ _ _ e => (mm_gd_inv (mm_ga_inv e).2).2, hl, q_1037, q_1038, q_174, q_1039⟩)
def p_Rw_visible : mm_P := ([(0, .aload_n 0, 1, 0), (1, .getfield 19, 3, 0), (4, .aload_n 0, 1, 0), (5, .getfield 22, 3, 0), (8, .iconst (-1), 1, (-1)), (9, .ixor, 1, 0), (10, .iand, 1, 0), (11, .ireturn, 1, 0)], [(19, 7, 2, 0), (22, 7, 3, 0)], [], [], [], [(0, [0])], [], 2)
def f_Rw_visible : mm_F := fun args h => mm_ga [1] args (mm_gd 7 args h (mm_run p_Rw_visible (mm_fu + 1) 0 args [] h))
set_option maxRecDepth 100000 in
theorem e_Rw_visible_0 (f : Nat) (t : Nat) (h : mm_H) : mm_run p_Rw_visible (f + 1) 0 [.ref t] [] h =
  (mm_gi 7 2 h t).bind fun x1 =>
  (mm_gi 7 3 h t).bind fun x2 =>
  some (some (.int (x1 &&& (x2 ^^^ (-1)))), h) := rfl
theorem e_Rw_visible (t : Nat) (h : mm_H) {fs : List Value} (hb : h t = some (.inr (7, fs))) : f_Rw_visible [.ref t] h =
  (mm_gi 7 2 h t).bind fun x1 =>
  (mm_gi 7 3 h t).bind fun x2 =>
  some (some (.int (x1 &&& (x2 ^^^ (-1)))), h) := (mm_ga_is rfl).trans ((mm_gd_is hb).trans (e_Rw_visible_0 mm_fu t h))
set_option maxRecDepth 100000 in
theorem i_Rw_visible (l : Launch) : mm_Imp l yX7_visible cX7_visible 1 (some .int) 1 f_Rw_visible := mm_imp l (P := p_Rw_visible) mm_cls_ok mm_sys_ok (by decide) (mm_Pok_of (List.forall_mem_cons.mpr ⟨k_X7_19, (List.forall_mem_cons.mpr ⟨k_X7_22, (fun _ h => absurd h List.not_mem_nil)⟩)⟩) (fun _ h => absurd h List.not_mem_nil) (fun _ h => absurd h List.not_mem_nil) (fun _ h => absurd h List.not_mem_nil)) (by decide +kernel) rfl (cats := [1]) (fun as h r e => ⟨(mm_ga_inv e).1, (mm_gd_inv (mm_ga_inv e).2).1⟩) rfl (by decide)
theorem v_Rw_visible (l : Launch) {own : String} {i n0 : Nat} (hl : Cond.methodLink own i yX7_visible ∈ mm_tbl) (hn : 2 ≤ n0) : mm_cok l own n0 i (0, 0, 1, f_Rw_visible) := Or.inr (Or.inr ⟨rfl, yX7_visible, cX7_visible, 1, (some .int), 1, 7, TX7, 4, i_Rw_visible l, hn, by decide, by decide +kernel, rfl, fun _ _ _ e => (mm_gd_inv (mm_ga_inv e).2).2, hl, q_1114, q_1115, q_175, q_1116⟩)
def p_Rw_isVisible : mm_P := ([(0, .aload_n 0, 1, 0), (1, .iload_n 1, 1, 0), (2, .invokevirtual 31, 3, 0), (5, .ifCond .eq 18, 3, 0), (8, .aload_n 0, 1, 0), (9, .invokevirtual 35, 3, 0), (12, .iload_n 1, 1, 0), (13, .ishr, 1, 0), (14, .iconst 1, 1, 1), (15, .iand, 1, 0), (16, .ifCond .eq 7, 3, 0), (19, .iconst 1, 1, 1), (20, .goto 4, 3, 0), (23, .iconst 0, 1, 0), (24, .ireturn, 1, 0)], [], [(31, 0, 1, 1, f_Rw_hasCome), (35, 0, 0, 1, f_Rw_visible)], [], [], [(0, [0, 1])], [], 1)
def f_Rw_isVisible : mm_F := fun args h => mm_ga [1, 1] args (mm_gd 7 args h (mm_run p_Rw_isVisible (mm_fu + 1) 0 args [] h))
set_option maxRecDepth 100000 in
theorem e_Rw_isVisible_0 (f : Nat) (t : Nat) (v1 : Int32) (h : mm_H) : mm_run p_Rw_isVisible (f + 1) 0 [.ref t, .int v1] [] h =
  mm_ci (f_Rw_hasCome [.ref t, .int v1] h) fun x2 h1 =>
  if x2 = 0 then
    some (some (.int 0), h1)
  else
    mm_ci (f_Rw_visible [.ref t] h1) fun x4 h3 =>
    if ((x4 >>> (v1 &&& 31)) &&& 1) = 0 then
      some (some (.int 0), h3)
    else
      some (some (.int 1), h3) := rfl
theorem e_Rw_isVisible (t : Nat) (v1 : Int32) (h : mm_H) {fs : List Value} (hb : h t = some (.inr (7, fs))) : f_Rw_isVisible [.ref t, .int v1] h =
  mm_ci (f_Rw_hasCome [.ref t, .int v1] h) fun x2 h1 =>
  if x2 = 0 then
    some (some (.int 0), h1)
  else
    mm_ci (f_Rw_visible [.ref t] h1) fun x4 h3 =>
    if ((x4 >>> (v1 &&& 31)) &&& 1) = 0 then
      some (some (.int 0), h3)
    else
      some (some (.int 1), h3) := (mm_ga_is rfl).trans ((mm_gd_is hb).trans (e_Rw_isVisible_0 mm_fu t v1 h))
set_option maxRecDepth 100000 in
theorem i_Rw_isVisible (l : Launch) : mm_Imp l yX7_isVisible cX7_isVisible 2 (some .boolean) 2 f_Rw_isVisible := mm_imp l (P := p_Rw_isVisible) mm_cls_ok mm_sys_ok (by decide) (mm_Pok_of (fun _ h => absurd h List.not_mem_nil) (List.forall_mem_cons.mpr ⟨v_Rw_hasCome l q_875 (by decide), (List.forall_mem_cons.mpr ⟨v_Rw_visible l q_1113 (by decide), (fun _ h => absurd h List.not_mem_nil)⟩)⟩) (fun _ h => absurd h List.not_mem_nil) (fun _ h => absurd h List.not_mem_nil)) (by decide +kernel) rfl (cats := [1, 1]) (fun as h r e => ⟨(mm_ga_inv e).1, (mm_gd_inv (mm_ga_inv e).2).1⟩) rfl (by decide)
theorem v_Rw_isVisible (l : Launch) {own : String} {i n0 : Nat} (hl : Cond.methodLink own i yX7_isVisible ∈ mm_tbl) (hn : 3 ≤ n0) : mm_cok l own n0 i (0, 1, 1, f_Rw_isVisible) := Or.inr (Or.inr ⟨rfl, yX7_isVisible, cX7_isVisible, 2, (some .boolean), 2, 7, TX7, 4, i_Rw_isVisible l, hn, by decide, by decide +kernel, rfl, fun _ _ _ e => (mm_gd_inv (mm_ga_inv e).2).2, hl, q_1110, q_1111, q_175, q_1112⟩)
def p_St_isAlone : mm_P := ([(0, .aload_n 0, 1, 0), (1, .getfield 12, 3, 0), (4, .iload_n 2, 1, 0), (5, .aload_n 0, 1, 0), (6, .getfield 12, 3, 0), (9, .iload_n 1, 1, 0), (10, .iload_n 2, 1, 0), (11, .invokevirtual 147, 3, 0), (14, .invokevirtual 219, 3, 0), (17, .iconst 1, 1, 1), (18, .iload_n 1, 1, 0), (19, .ishl, 1, 0), (20, .iconst (-1), 1, (-1)), (21, .ixor, 1, 0), (22, .iand, 1, 0), (23, .ifCond .ne 7, 3, 0), (26, .iconst 1, 1, 1), (27, .goto 4, 3, 0), (30, .iconst 0, 1, 0), (31, .ireturn, 1, 0)], [(12, 8, 0, 4)], [(147, 0, 2, 1, f_Rw_valueOf), (219, 0, 2, 1, f_Rw_having)], [], [], [(0, [0, 1, 2])], [], 1)
def f_St_isAlone : mm_F := fun args h => mm_ga [1, 1, 1] args (mm_gd 8 args h (mm_run p_St_isAlone (mm_fu + 1) 0 args [] h))
set_option maxRecDepth 100000 in
theorem e_St_isAlone_0 (f : Nat) (t : Nat) (v1 : Int32) (v2 : Int32) (h : mm_H) : mm_run p_St_isAlone (f + 1) 0 [.ref t, .int v1, .int v2] [] h =
  (mm_gr 8 0 h t).bind fun r1 =>
  (mm_gr 8 0 h t).bind fun r2 =>
  mm_ci (f_Rw_valueOf [.ref r2, .int v1, .int v2] h) fun x4 h3 =>
  mm_ci (f_Rw_having [.ref r1, .int v2, .int x4] h3) fun x6 h5 =>
  if (x6 &&& ((1 <<< (v1 &&& 31)) ^^^ (-1))) = 0 then
    some (some (.int 1), h5)
  else
    some (some (.int 0), h5) := rfl
theorem e_St_isAlone (t : Nat) (v1 : Int32) (v2 : Int32) (h : mm_H) {fs : List Value} (hb : h t = some (.inr (8, fs))) : f_St_isAlone [.ref t, .int v1, .int v2] h =
  (mm_gr 8 0 h t).bind fun r1 =>
  (mm_gr 8 0 h t).bind fun r2 =>
  mm_ci (f_Rw_valueOf [.ref r2, .int v1, .int v2] h) fun x4 h3 =>
  mm_ci (f_Rw_having [.ref r1, .int v2, .int x4] h3) fun x6 h5 =>
  if (x6 &&& ((1 <<< (v1 &&& 31)) ^^^ (-1))) = 0 then
    some (some (.int 1), h5)
  else
    some (some (.int 0), h5) := (mm_ga_is rfl).trans ((mm_gd_is hb).trans (e_St_isAlone_0 mm_fu t v1 v2 h))
set_option maxRecDepth 100000 in
theorem i_St_isAlone (l : Launch) : mm_Imp l yX8_isAlone cX8_isAlone 3 (some .boolean) 2 f_St_isAlone := mm_imp l (P := p_St_isAlone) mm_cls_ok mm_sys_ok (by decide) (mm_Pok_of (List.forall_mem_cons.mpr ⟨k_X8_12, (fun _ h => absurd h List.not_mem_nil)⟩) (List.forall_mem_cons.mpr ⟨v_Rw_valueOf l q_907 (by decide), (List.forall_mem_cons.mpr ⟨v_Rw_having l q_1054 (by decide), (fun _ h => absurd h List.not_mem_nil)⟩)⟩) (fun _ h => absurd h List.not_mem_nil) (fun _ h => absurd h List.not_mem_nil)) (by decide +kernel) rfl (cats := [1, 1, 1]) (fun as h r e => ⟨(mm_ga_inv e).1, (mm_gd_inv (mm_ga_inv e).2).1⟩) rfl (by decide)
theorem v_St_isAlone (l : Launch) {own : String} {i n0 : Nat} (hl : Cond.methodLink own i yX8_isAlone ∈ mm_tbl) (hn : 3 ≤ n0) : mm_cok l own n0 i (0, 2, 1, f_St_isAlone) := Or.inr (Or.inr ⟨rfl, yX8_isAlone, cX8_isAlone, 3, (some .boolean), 2, 8, TX8, 9, i_St_isAlone l, hn, by decide, by decide +kernel, rfl, fun _ _ _ e => (mm_gd_inv (mm_ga_inv e).2).2, hl, q_1119, q_36, q_174, q_1120⟩)
def p_Pt_firmAt : mm_P := ([(0, .iconst 0, 1, 0), (1, .istore_n 2, 1, 0), (2, .iload_n 2, 1, 0), (3, .aload_n 0, 1, 0), (4, .getfield 21, 3, 0), (7, .if_icmp .ge 30, 3, 0), (10, .aload_n 0, 1, 0), (11, .getfield 15, 3, 0), (14, .iload_n 2, 1, 0), (15, .iaload, 1, 0), (16, .iload_n 1, 1, 0), (17, .if_icmp .ne 14, 3, 0), (20, .aload_n 0, 1, 0), (21, .getfield 9, 3, 0), (24, .iload_n 2, 1, 0), (25, .iaload, 1, 0), (26, .ifCond .ne 5, 3, 0), (29, .iconst 1, 1, 1), (30, .ireturn, 1, 0), (31, .iinc 2 1, 3, 1), (34, .goto (-32), 3, 0), (37, .iconst 0, 1, 0), (38, .ireturn, 1, 0)], [(9, 5, 0, 4), (15, 5, 1, 4), (21, 5, 3, 0)], [], [], [], [(0, [0, 1]), (2, [0, 1, 2])], [], 1)
def f_Pt_firmAt : mm_F := fun args h => mm_ga [1, 1] args (mm_gd 5 args h (mm_run p_Pt_firmAt (mm_fu + 1) 0 args [] h))
set_option maxRecDepth 100000 in
theorem e_Pt_firmAt_0 (f : Nat) (t : Nat) (v1 : Int32) (h : mm_H) : mm_run p_Pt_firmAt (f + 1) 0 [.ref t, .int v1] [] h =
  mm_run p_Pt_firmAt f 2 [.ref t, .int v1, .int 0] [] h := rfl
theorem e_Pt_firmAt (t : Nat) (v1 : Int32) (h : mm_H) {fs : List Value} (hb : h t = some (.inr (5, fs))) : f_Pt_firmAt [.ref t, .int v1] h =
  mm_run p_Pt_firmAt mm_fu 2 [.ref t, .int v1, .int 0] [] h := (mm_ga_is rfl).trans ((mm_gd_is hb).trans (e_Pt_firmAt_0 mm_fu t v1 h))
set_option maxRecDepth 100000 in
theorem e_Pt_firmAt_2 (f : Nat) (t : Nat) (v1 : Int32) (v2 : Int32) (h : mm_H) : mm_run p_Pt_firmAt (f + 1) 2 [.ref t, .int v1, .int v2] [] h =
  (mm_gi 5 3 h t).bind fun x1 =>
  if v2 < x1 then
    (mm_gr 5 1 h t).bind fun r2 =>
    (mm_li h r2 v2).bind fun x3 =>
    if x3 = v1 then
      (mm_gr 5 0 h t).bind fun r4 =>
      (mm_li h r4 v2).bind fun x5 =>
      if x5 = 0 then
        some (some (.int 1), h)
      else
        mm_run p_Pt_firmAt f 2 [.ref t, .int v1, .int (v2 + 1)] [] h
    else
      mm_run p_Pt_firmAt f 2 [.ref t, .int v1, .int (v2 + 1)] [] h
  else
    some (some (.int 0), h) := rfl
set_option maxRecDepth 100000 in
theorem i_Pt_firmAt (l : Launch) : mm_Imp l yX5_firmAt cX5_firmAt 3 (some .boolean) 1 f_Pt_firmAt := mm_imp l (P := p_Pt_firmAt) mm_cls_ok mm_sys_ok (by decide) (mm_Pok_of (List.forall_mem_cons.mpr ⟨k_X5_9, (List.forall_mem_cons.mpr ⟨k_X5_15, (List.forall_mem_cons.mpr ⟨k_X5_21, (fun _ h => absurd h List.not_mem_nil)⟩)⟩)⟩) (fun _ h => absurd h List.not_mem_nil) (fun _ h => absurd h List.not_mem_nil) (fun _ h => absurd h List.not_mem_nil)) (by decide +kernel) rfl (cats := [1, 1]) (fun as h r e => ⟨(mm_ga_inv e).1, (mm_gd_inv (mm_ga_inv e).2).1⟩) rfl (by decide)
theorem v_Pt_firmAt (l : Launch) {own : String} {i n0 : Nat} (hl : Cond.methodLink own i yX5_firmAt ∈ mm_tbl) (hn : 2 ≤ n0) : mm_cok l own n0 i (0, 1, 1, f_Pt_firmAt) := Or.inr (Or.inr ⟨rfl, yX5_firmAt, cX5_firmAt, 3, (some .boolean), 1, 5, TX5, 4, i_Pt_firmAt l, hn, by decide, by decide +kernel, rfl, fun _ _ _ e => (mm_gd_inv (mm_ga_inv e).2).2, hl, q_1122, q_1123, q_176, q_1124⟩)
def p_St_canExpel : mm_P := ([(0, .aload_n 0, 1, 0), (1, .getfield 12, 3, 0), (4, .iload_n 1, 1, 0), (5, .invokevirtual 151, 3, 0), (8, .ifCond .ne 5, 3, 0), (11, .iconst 0, 1, 0), (12, .ireturn, 1, 0), (13, .aload_n 0, 1, 0), (14, .iload_n 1, 1, 0), (15, .iconst 0, 1, 0), (16, .invokevirtual 251, 3, 0), (19, .ifCond .eq 24, 3, 0), (22, .aload_n 0, 1, 0), (23, .getfield 21, 3, 0), (26, .aload_n 0, 1, 0), (27, .getfield 12, 3, 0), (30, .iload_n 1, 1, 0), (31, .iconst 0, 1, 0), (32, .invokevirtual 147, 3, 0), (35, .invokevirtual 254, 3, 0), (38, .ifCond .eq 5, 3, 0), (41, .iconst 0, 1, 0), (42, .ireturn, 1, 0), (43, .aload_n 0, 1, 0), (44, .iload_n 1, 1, 0), (45, .aload_n 0, 1, 0), (46, .getfield 49, 3, 0), (49, .getfield 120, 3, 0), (52, .aload_n 0, 1, 0), (53, .iload_n 1, 1, 0), (54, .invokevirtual 124, 3, 0), (57, .aload_n 0, 1, 0), (58, .getfield 38, 3, 0), (61, .invokevirtual 130, 3, 0), (64, .aload_n 0, 1, 0), (65, .aload_n 0, 1, 0), (66, .getfield 42, 3, 0), (69, .invokevirtual 238, 3, 0), (72, .aload_n 0, 1, 0), (73, .invokevirtual 242, 3, 0), (76, .ireturn, 1, 0)], [(12, 8, 0, 4), (21, 8, 1, 4), (38, 8, 4, 4), (42, 8, 5, 4), (49, 8, 6, 2), (120, 4, 7, 4)], [(124, 0, 2, 1, f_Wh_holds), (130, 0, 3, 0, f_St_entriesOf), (147, 0, 2, 1, f_Rw_valueOf), (151, 0, 1, 1, f_Rw_isVisible), (238, 0, 1, 0, f_St_noEntries), (242, 0, 0, 1, f_St_fitAside), (251, 0, 2, 1, f_St_isAlone), (254, 0, 1, 1, f_Pt_firmAt)], [], [], [(0, [0, 1])], [], 1)
def f_St_canExpel : mm_F := fun args h => mm_ga [1, 1] args (mm_gd 8 args h (mm_run p_St_canExpel (mm_fu + 1) 0 args [] h))
set_option maxRecDepth 100000 in
theorem e_St_canExpel_0 (f : Nat) (t : Nat) (v1 : Int32) (h : mm_H) : mm_run p_St_canExpel (f + 1) 0 [.ref t, .int v1] [] h =
  (mm_gr 8 0 h t).bind fun r1 =>
  mm_ci (f_Rw_isVisible [.ref r1, .int v1] h) fun x3 h2 =>
  if x3 = 0 then
    some (some (.int 0), h2)
  else
    mm_ci (f_St_isAlone [.ref t, .int v1, .int 0] h2) fun x5 h4 =>
    if x5 = 0 then
      (mm_gr 8 6 h4 t).bind fun r6 =>
      (mm_gr 4 7 h4 r6).bind fun r7 =>
      mm_ci (f_Wh_holds [.ref r7, .ref t, .int v1] h4) fun x9 h8 =>
      (mm_gr 8 4 h8 t).bind fun r10 =>
      mm_cv (f_St_entriesOf [.ref t, .int v1, .int x9, .ref r10] h8) fun h11 =>
      (mm_gr 8 5 h11 t).bind fun r12 =>
      mm_cv (f_St_noEntries [.ref t, .ref r12] h11) fun h13 =>
      mm_ci (f_St_fitAside [.ref t] h13) fun x15 h14 =>
      if x15 = 0 ∨ x15 = 1 then some (some (.int x15), h14) else none
    else
      (mm_gr 8 1 h4 t).bind fun r16 =>
      (mm_gr 8 0 h4 t).bind fun r17 =>
      mm_ci (f_Rw_valueOf [.ref r17, .int v1, .int 0] h4) fun x19 h18 =>
      mm_ci (f_Pt_firmAt [.ref r16, .int x19] h18) fun x21 h20 =>
      if x21 = 0 then
        (mm_gr 8 6 h20 t).bind fun r22 =>
        (mm_gr 4 7 h20 r22).bind fun r23 =>
        mm_ci (f_Wh_holds [.ref r23, .ref t, .int v1] h20) fun x25 h24 =>
        (mm_gr 8 4 h24 t).bind fun r26 =>
        mm_cv (f_St_entriesOf [.ref t, .int v1, .int x25, .ref r26] h24) fun h27 =>
        (mm_gr 8 5 h27 t).bind fun r28 =>
        mm_cv (f_St_noEntries [.ref t, .ref r28] h27) fun h29 =>
        mm_ci (f_St_fitAside [.ref t] h29) fun x31 h30 =>
        if x31 = 0 ∨ x31 = 1 then some (some (.int x31), h30) else none
      else
        some (some (.int 0), h20) := rfl
theorem e_St_canExpel (t : Nat) (v1 : Int32) (h : mm_H) {fs : List Value} (hb : h t = some (.inr (8, fs))) : f_St_canExpel [.ref t, .int v1] h =
  (mm_gr 8 0 h t).bind fun r1 =>
  mm_ci (f_Rw_isVisible [.ref r1, .int v1] h) fun x3 h2 =>
  if x3 = 0 then
    some (some (.int 0), h2)
  else
    mm_ci (f_St_isAlone [.ref t, .int v1, .int 0] h2) fun x5 h4 =>
    if x5 = 0 then
      (mm_gr 8 6 h4 t).bind fun r6 =>
      (mm_gr 4 7 h4 r6).bind fun r7 =>
      mm_ci (f_Wh_holds [.ref r7, .ref t, .int v1] h4) fun x9 h8 =>
      (mm_gr 8 4 h8 t).bind fun r10 =>
      mm_cv (f_St_entriesOf [.ref t, .int v1, .int x9, .ref r10] h8) fun h11 =>
      (mm_gr 8 5 h11 t).bind fun r12 =>
      mm_cv (f_St_noEntries [.ref t, .ref r12] h11) fun h13 =>
      mm_ci (f_St_fitAside [.ref t] h13) fun x15 h14 =>
      if x15 = 0 ∨ x15 = 1 then some (some (.int x15), h14) else none
    else
      (mm_gr 8 1 h4 t).bind fun r16 =>
      (mm_gr 8 0 h4 t).bind fun r17 =>
      mm_ci (f_Rw_valueOf [.ref r17, .int v1, .int 0] h4) fun x19 h18 =>
      mm_ci (f_Pt_firmAt [.ref r16, .int x19] h18) fun x21 h20 =>
      if x21 = 0 then
        (mm_gr 8 6 h20 t).bind fun r22 =>
        (mm_gr 4 7 h20 r22).bind fun r23 =>
        mm_ci (f_Wh_holds [.ref r23, .ref t, .int v1] h20) fun x25 h24 =>
        (mm_gr 8 4 h24 t).bind fun r26 =>
        mm_cv (f_St_entriesOf [.ref t, .int v1, .int x25, .ref r26] h24) fun h27 =>
        (mm_gr 8 5 h27 t).bind fun r28 =>
        mm_cv (f_St_noEntries [.ref t, .ref r28] h27) fun h29 =>
        mm_ci (f_St_fitAside [.ref t] h29) fun x31 h30 =>
        if x31 = 0 ∨ x31 = 1 then some (some (.int x31), h30) else none
      else
        some (some (.int 0), h20) := (mm_ga_is rfl).trans ((mm_gd_is hb).trans (e_St_canExpel_0 mm_fu t v1 h))
set_option maxRecDepth 100000 in
theorem i_St_canExpel (l : Launch) : mm_Imp l yX8_canExpel cX8_canExpel 2 (some .boolean) 4 f_St_canExpel := mm_imp l (P := p_St_canExpel) mm_cls_ok mm_sys_ok (by decide) (mm_Pok_of (List.forall_mem_cons.mpr ⟨k_X8_12, (List.forall_mem_cons.mpr ⟨k_X8_21, (List.forall_mem_cons.mpr ⟨k_X8_38, (List.forall_mem_cons.mpr ⟨k_X8_42, (List.forall_mem_cons.mpr ⟨k_X8_49, (List.forall_mem_cons.mpr ⟨k_X8_120, (fun _ h => absurd h List.not_mem_nil)⟩)⟩)⟩)⟩)⟩)⟩) (List.forall_mem_cons.mpr ⟨v_Wh_holds l q_879 (by decide), (List.forall_mem_cons.mpr ⟨v_St_entriesOf l q_899 (by decide), (List.forall_mem_cons.mpr ⟨v_Rw_valueOf l q_907 (by decide), (List.forall_mem_cons.mpr ⟨v_Rw_isVisible l q_1109 (by decide), (List.forall_mem_cons.mpr ⟨v_St_noEntries l q_903 (by decide), (List.forall_mem_cons.mpr ⟨v_St_fitAside l q_1055 (by decide), (List.forall_mem_cons.mpr ⟨v_St_isAlone l q_1117 (by decide), (List.forall_mem_cons.mpr ⟨v_Pt_firmAt l q_1121 (by decide), (fun _ h => absurd h List.not_mem_nil)⟩)⟩)⟩)⟩)⟩)⟩)⟩)⟩) (fun _ h => absurd h List.not_mem_nil) (fun _ h => absurd h List.not_mem_nil)) (by decide +kernel) rfl (cats := [1, 1]) (fun as h r e => ⟨(mm_ga_inv e).1, (mm_gd_inv (mm_ga_inv e).2).1⟩) rfl (by decide)
theorem v_St_canExpel (l : Launch) {own : String} {i n0 : Nat} (hl : Cond.methodLink own i yX8_canExpel ∈ mm_tbl) (hn : 5 ≤ n0) : mm_cok l own n0 i (0, 1, 1, f_St_canExpel) := Or.inr (Or.inr ⟨rfl, yX8_canExpel, cX8_canExpel, 2, (some .boolean), 4, 8, TX8, 9, i_St_canExpel l, hn, by decide, by decide +kernel, rfl, fun _ _ _ e => (mm_gd_inv (mm_ga_inv e).2).2, hl, q_1106, q_1107, q_174, q_1108⟩)
def p_Pt_loosen : mm_P := ([(0, .aload_n 0, 1, 0), (1, .iload_n 1, 1, 0), (2, .invokevirtual 31, 3, 0), (5, .ifCond .eq 12, 3, 0), (8, .aload_n 0, 1, 0), (9, .getfield 15, 3, 0), (12, .iload_n 1, 1, 0), (13, .iaload, 1, 0), (14, .ifCond .ge 4, 3, 0), (17, .return_, 1, 0), (18, .aload_n 0, 1, 0), (19, .getfield 9, 3, 0), (22, .iload_n 1, 1, 0), (23, .iaload, 1, 0), (24, .iconst 1, 1, 1), (25, .if_icmp .ne 13, 3, 0), (28, .aload_n 0, 1, 0), (29, .getfield 15, 3, 0), (32, .iload_n 1, 1, 0), (33, .iconst (-1), 1, (-1)), (34, .iastore, 1, 0), (35, .goto 21, 3, 0), (38, .aload_n 0, 1, 0), (39, .getfield 9, 3, 0), (42, .iload_n 1, 1, 0), (43, .iaload, 1, 0), (44, .iconst 2, 1, 2), (45, .if_icmp .ne 11, 3, 0), (48, .aload_n 0, 1, 0), (49, .getfield 15, 3, 0), (52, .iload_n 1, 1, 0), (53, .bipush (-2), 2, (-2)), (55, .iastore, 1, 0), (56, .return_, 1, 0)], [(9, 5, 0, 4), (15, 5, 1, 4)], [(31, 0, 1, 1, f_Pt_hasCome)], [], [], [(0, [0, 1])], [], 0)
def f_Pt_loosen : mm_F := fun args h => mm_ga [1, 1] args (mm_gd 5 args h (mm_run p_Pt_loosen (mm_fu + 1) 0 args [] h))
set_option maxRecDepth 100000 in
theorem e_Pt_loosen_0 (f : Nat) (t : Nat) (v1 : Int32) (h : mm_H) : mm_run p_Pt_loosen (f + 1) 0 [.ref t, .int v1] [] h =
  mm_ci (f_Pt_hasCome [.ref t, .int v1] h) fun x2 h1 =>
  if x2 = 0 then
    some (none, h1)
  else
    (mm_gr 5 1 h1 t).bind fun r3 =>
    (mm_li h1 r3 v1).bind fun x4 =>
    if x4 < 0 then
      some (none, h1)
    else
      (mm_gr 5 0 h1 t).bind fun r5 =>
      (mm_li h1 r5 v1).bind fun x6 =>
      if x6 = 1 then
        (mm_gr 5 1 h1 t).bind fun r7 =>
        (mm_si h1 r7 v1 (-1)).bind fun h8 =>
        some (none, h8)
      else
        (mm_gr 5 0 h1 t).bind fun r9 =>
        (mm_li h1 r9 v1).bind fun x10 =>
        if x10 = 2 then
          (mm_gr 5 1 h1 t).bind fun r11 =>
          (mm_si h1 r11 v1 (-2)).bind fun h12 =>
          some (none, h12)
        else
          some (none, h1) := rfl
theorem e_Pt_loosen (t : Nat) (v1 : Int32) (h : mm_H) {fs : List Value} (hb : h t = some (.inr (5, fs))) : f_Pt_loosen [.ref t, .int v1] h =
  mm_ci (f_Pt_hasCome [.ref t, .int v1] h) fun x2 h1 =>
  if x2 = 0 then
    some (none, h1)
  else
    (mm_gr 5 1 h1 t).bind fun r3 =>
    (mm_li h1 r3 v1).bind fun x4 =>
    if x4 < 0 then
      some (none, h1)
    else
      (mm_gr 5 0 h1 t).bind fun r5 =>
      (mm_li h1 r5 v1).bind fun x6 =>
      if x6 = 1 then
        (mm_gr 5 1 h1 t).bind fun r7 =>
        (mm_si h1 r7 v1 (-1)).bind fun h8 =>
        some (none, h8)
      else
        (mm_gr 5 0 h1 t).bind fun r9 =>
        (mm_li h1 r9 v1).bind fun x10 =>
        if x10 = 2 then
          (mm_gr 5 1 h1 t).bind fun r11 =>
          (mm_si h1 r11 v1 (-2)).bind fun h12 =>
          some (none, h12)
        else
          some (none, h1) := (mm_ga_is rfl).trans ((mm_gd_is hb).trans (e_Pt_loosen_0 mm_fu t v1 h))
set_option maxRecDepth 100000 in
theorem i_Pt_loosen (l : Launch) : mm_Imp l yX5_loosen cX5_loosen 2 none 2 f_Pt_loosen := mm_imp l (P := p_Pt_loosen) mm_cls_ok mm_sys_ok (by decide) (mm_Pok_of (List.forall_mem_cons.mpr ⟨k_X5_9, (List.forall_mem_cons.mpr ⟨k_X5_15, (fun _ h => absurd h List.not_mem_nil)⟩)⟩) (List.forall_mem_cons.mpr ⟨v_Pt_hasCome l q_1133 (by decide), (fun _ h => absurd h List.not_mem_nil)⟩) (fun _ h => absurd h List.not_mem_nil) (fun _ h => absurd h List.not_mem_nil)) (by decide +kernel) rfl (cats := [1, 1]) (fun as h r e => ⟨(mm_ga_inv e).1, (mm_gd_inv (mm_ga_inv e).2).1⟩) rfl (by decide)
theorem v_Pt_loosen (l : Launch) {own : String} {i n0 : Nat} (hl : Cond.methodLink own i yX5_loosen ∈ mm_tbl) (hn : 3 ≤ n0) : mm_cok l own n0 i (0, 1, 0, f_Pt_loosen) := Or.inr (Or.inr ⟨rfl, yX5_loosen, cX5_loosen, 2, none, 2, 5, TX5, 4, i_Pt_loosen l, hn, by decide, by decide +kernel, rfl, fun _ _ _ e => (mm_gd_inv (mm_ga_inv e).2).2, hl, q_1130, q_1131, q_176, q_1132⟩)
def p_Pt_loosenAt : mm_P := ([(0, .iconst 0, 1, 0), (1, .istore_n 2, 1, 0), (2, .iload_n 2, 1, 0), (3, .aload_n 0, 1, 0), (4, .getfield 21, 3, 0), (7, .if_icmp .ge 24, 3, 0), (10, .aload_n 0, 1, 0), (11, .getfield 15, 3, 0), (14, .iload_n 2, 1, 0), (15, .iaload, 1, 0), (16, .iload_n 1, 1, 0), (17, .if_icmp .ne 8, 3, 0), (20, .aload_n 0, 1, 0), (21, .iload_n 2, 1, 0), (22, .invokevirtual 38, 3, 0), (25, .iinc 2 1, 3, 1), (28, .goto (-26), 3, 0), (31, .return_, 1, 0)], [(15, 5, 1, 4), (21, 5, 3, 0)], [(38, 0, 1, 0, f_Pt_loosen)], [], [], [(0, [0, 1]), (2, [0, 1, 2])], [], 0)
def f_Pt_loosenAt : mm_F := fun args h => mm_ga [1, 1] args (mm_gd 5 args h (mm_run p_Pt_loosenAt (mm_fu + 1) 0 args [] h))
set_option maxRecDepth 100000 in
theorem e_Pt_loosenAt_0 (f : Nat) (t : Nat) (v1 : Int32) (h : mm_H) : mm_run p_Pt_loosenAt (f + 1) 0 [.ref t, .int v1] [] h =
  mm_run p_Pt_loosenAt f 2 [.ref t, .int v1, .int 0] [] h := rfl
theorem e_Pt_loosenAt (t : Nat) (v1 : Int32) (h : mm_H) {fs : List Value} (hb : h t = some (.inr (5, fs))) : f_Pt_loosenAt [.ref t, .int v1] h =
  mm_run p_Pt_loosenAt mm_fu 2 [.ref t, .int v1, .int 0] [] h := (mm_ga_is rfl).trans ((mm_gd_is hb).trans (e_Pt_loosenAt_0 mm_fu t v1 h))
set_option maxRecDepth 100000 in
theorem e_Pt_loosenAt_2 (f : Nat) (t : Nat) (v1 : Int32) (v2 : Int32) (h : mm_H) : mm_run p_Pt_loosenAt (f + 1) 2 [.ref t, .int v1, .int v2] [] h =
  (mm_gi 5 3 h t).bind fun x1 =>
  if v2 < x1 then
    (mm_gr 5 1 h t).bind fun r2 =>
    (mm_li h r2 v2).bind fun x3 =>
    if x3 = v1 then
      mm_cv (f_Pt_loosen [.ref t, .int v2] h) fun h4 =>
      mm_run p_Pt_loosenAt f 2 [.ref t, .int v1, .int (v2 + 1)] [] h4
    else
      mm_run p_Pt_loosenAt f 2 [.ref t, .int v1, .int (v2 + 1)] [] h
  else
    some (none, h) := rfl
set_option maxRecDepth 100000 in
theorem i_Pt_loosenAt (l : Launch) : mm_Imp l yX5_loosenAt cX5_loosenAt 3 none 3 f_Pt_loosenAt := mm_imp l (P := p_Pt_loosenAt) mm_cls_ok mm_sys_ok (by decide) (mm_Pok_of (List.forall_mem_cons.mpr ⟨k_X5_15, (List.forall_mem_cons.mpr ⟨k_X5_21, (fun _ h => absurd h List.not_mem_nil)⟩)⟩) (List.forall_mem_cons.mpr ⟨v_Pt_loosen l q_1129 (by decide), (fun _ h => absurd h List.not_mem_nil)⟩) (fun _ h => absurd h List.not_mem_nil) (fun _ h => absurd h List.not_mem_nil)) (by decide +kernel) rfl (cats := [1, 1]) (fun as h r e => ⟨(mm_ga_inv e).1, (mm_gd_inv (mm_ga_inv e).2).1⟩) rfl (by decide)
theorem v_Pt_loosenAt (l : Launch) {own : String} {i n0 : Nat} (hl : Cond.methodLink own i yX5_loosenAt ∈ mm_tbl) (hn : 4 ≤ n0) : mm_cok l own n0 i (0, 1, 0, f_Pt_loosenAt) := Or.inr (Or.inr ⟨rfl, yX5_loosenAt, cX5_loosenAt, 3, none, 3, 5, TX5, 4, i_Pt_loosenAt l, hn, by decide, by decide +kernel, rfl, fun _ _ _ e => (mm_gd_inv (mm_ga_inv e).2).2, hl, q_1126, q_1127, q_176, q_1128⟩)
def p_St_expel : mm_P := ([(0, .aload_n 0, 1, 0), (1, .iload_n 1, 1, 0), (2, .invokevirtual 257, 3, 0), (5, .ifCond .ne 5, 3, 0), (8, .iconst 0, 1, 0), (9, .ireturn, 1, 0), (10, .aload_n 0, 1, 0), (11, .iload_n 1, 1, 0), (12, .iconst 0, 1, 0), (13, .invokevirtual 251, 3, 0), (16, .ifCond .eq 19, 3, 0), (19, .aload_n 0, 1, 0), (20, .getfield 21, 3, 0), (23, .aload_n 0, 1, 0), (24, .getfield 12, 3, 0), (27, .iload_n 1, 1, 0), (28, .iconst 0, 1, 0), (29, .invokevirtual 147, 3, 0), (32, .invokevirtual 260, 3, 0), (35, .aload_n 0, 1, 0), (36, .getfield 12, 3, 0), (39, .dup, 1, 0), (40, .getfield 173, 3, 0), (43, .iconst 1, 1, 1), (44, .iload_n 1, 1, 0), (45, .ishl, 1, 0), (46, .iconst (-1), 1, (-1)), (47, .ixor, 1, 0), (48, .iand, 1, 0), (49, .putfield 173, 3, 0), (52, .aload_n 0, 1, 0), (53, .iload_n 1, 1, 0), (54, .invokevirtual 248, 3, 0), (57, .iconst 1, 1, 1), (58, .ireturn, 1, 0)], [(12, 8, 0, 4), (21, 8, 1, 4), (173, 7, 2, 0)], [(147, 0, 2, 1, f_Rw_valueOf), (248, 0, 1, 0, f_St_moveEntries), (251, 0, 2, 1, f_St_isAlone), (257, 0, 1, 1, f_St_canExpel), (260, 0, 1, 0, f_Pt_loosenAt)], [], [], [(0, [0, 1])], [], 1)
def f_St_expel : mm_F := fun args h => mm_ga [1, 1] args (mm_gd 8 args h (mm_run p_St_expel (mm_fu + 1) 0 args [] h))
set_option maxRecDepth 100000 in
theorem e_St_expel_0 (f : Nat) (t : Nat) (v1 : Int32) (h : mm_H) : mm_run p_St_expel (f + 1) 0 [.ref t, .int v1] [] h =
  mm_ci (f_St_canExpel [.ref t, .int v1] h) fun x2 h1 =>
  if x2 = 0 then
    some (some (.int 0), h1)
  else
    mm_ci (f_St_isAlone [.ref t, .int v1, .int 0] h1) fun x4 h3 =>
    if x4 = 0 then
      (mm_gr 8 0 h3 t).bind fun r5 =>
      (mm_gi 7 2 h3 r5).bind fun x6 =>
      (mm_pf 7 2 (.int (x6 &&& ((1 <<< (v1 &&& 31)) ^^^ (-1)))) h3 r5).bind fun h7 =>
      mm_cv (f_St_moveEntries [.ref t, .int v1] h7) fun h8 =>
      some (some (.int 1), h8)
    else
      (mm_gr 8 1 h3 t).bind fun r9 =>
      (mm_gr 8 0 h3 t).bind fun r10 =>
      mm_ci (f_Rw_valueOf [.ref r10, .int v1, .int 0] h3) fun x12 h11 =>
      mm_cv (f_Pt_loosenAt [.ref r9, .int x12] h11) fun h13 =>
      (mm_gr 8 0 h13 t).bind fun r14 =>
      (mm_gi 7 2 h13 r14).bind fun x15 =>
      (mm_pf 7 2 (.int (x15 &&& ((1 <<< (v1 &&& 31)) ^^^ (-1)))) h13 r14).bind fun h16 =>
      mm_cv (f_St_moveEntries [.ref t, .int v1] h16) fun h17 =>
      some (some (.int 1), h17) := rfl
theorem e_St_expel (t : Nat) (v1 : Int32) (h : mm_H) {fs : List Value} (hb : h t = some (.inr (8, fs))) : f_St_expel [.ref t, .int v1] h =
  mm_ci (f_St_canExpel [.ref t, .int v1] h) fun x2 h1 =>
  if x2 = 0 then
    some (some (.int 0), h1)
  else
    mm_ci (f_St_isAlone [.ref t, .int v1, .int 0] h1) fun x4 h3 =>
    if x4 = 0 then
      (mm_gr 8 0 h3 t).bind fun r5 =>
      (mm_gi 7 2 h3 r5).bind fun x6 =>
      (mm_pf 7 2 (.int (x6 &&& ((1 <<< (v1 &&& 31)) ^^^ (-1)))) h3 r5).bind fun h7 =>
      mm_cv (f_St_moveEntries [.ref t, .int v1] h7) fun h8 =>
      some (some (.int 1), h8)
    else
      (mm_gr 8 1 h3 t).bind fun r9 =>
      (mm_gr 8 0 h3 t).bind fun r10 =>
      mm_ci (f_Rw_valueOf [.ref r10, .int v1, .int 0] h3) fun x12 h11 =>
      mm_cv (f_Pt_loosenAt [.ref r9, .int x12] h11) fun h13 =>
      (mm_gr 8 0 h13 t).bind fun r14 =>
      (mm_gi 7 2 h13 r14).bind fun x15 =>
      (mm_pf 7 2 (.int (x15 &&& ((1 <<< (v1 &&& 31)) ^^^ (-1)))) h13 r14).bind fun h16 =>
      mm_cv (f_St_moveEntries [.ref t, .int v1] h16) fun h17 =>
      some (some (.int 1), h17) := (mm_ga_is rfl).trans ((mm_gd_is hb).trans (e_St_expel_0 mm_fu t v1 h))
set_option maxRecDepth 100000 in
theorem i_St_expel (l : Launch) : mm_Imp l yX8_expel cX8_expel 2 (some .boolean) 5 f_St_expel := mm_imp l (P := p_St_expel) mm_cls_ok mm_sys_ok (by decide) (mm_Pok_of (List.forall_mem_cons.mpr ⟨k_X8_12, (List.forall_mem_cons.mpr ⟨k_X8_21, (List.forall_mem_cons.mpr ⟨k_X8_173, (fun _ h => absurd h List.not_mem_nil)⟩)⟩)⟩) (List.forall_mem_cons.mpr ⟨v_Rw_valueOf l q_907 (by decide), (List.forall_mem_cons.mpr ⟨v_St_moveEntries l q_1063 (by decide), (List.forall_mem_cons.mpr ⟨v_St_isAlone l q_1117 (by decide), (List.forall_mem_cons.mpr ⟨v_St_canExpel l q_1105 (by decide), (List.forall_mem_cons.mpr ⟨v_Pt_loosenAt l q_1125 (by decide), (fun _ h => absurd h List.not_mem_nil)⟩)⟩)⟩)⟩)⟩) (fun _ h => absurd h List.not_mem_nil) (fun _ h => absurd h List.not_mem_nil)) (by decide +kernel) rfl (cats := [1, 1]) (fun as h r e => ⟨(mm_ga_inv e).1, (mm_gd_inv (mm_ga_inv e).2).1⟩) rfl (by decide)
theorem v_St_expel (l : Launch) {own : String} {i n0 : Nat} (hl : Cond.methodLink own i yX8_expel ∈ mm_tbl) (hn : 6 ≤ n0) : mm_cok l own n0 i (0, 1, 1, f_St_expel) := Or.inr (Or.inr ⟨rfl, yX8_expel, cX8_expel, 2, (some .boolean), 5, 8, TX8, 9, i_St_expel l, hn, by decide, by decide +kernel, rfl, fun _ _ _ e => (mm_gd_inv (mm_ga_inv e).2).2, hl, q_1102, q_1103, q_174, q_1104⟩)
